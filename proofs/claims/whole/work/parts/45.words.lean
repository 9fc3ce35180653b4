/-! ===== the words that the tables rest on; by wip/whole/gen_facts.py ===== -/
theorem kw_289 : (Jvm.Cond.methodLink "TrunkDuel$Choice" (3 : Nat) ({ cls := "java/lang/Object", name := "<init>", desc := "()V" } : Jvm.MethodName)) ∈ gw := gwt 289 (by decide +kernel) rfl
theorem kw_290 : (Jvm.Cond.fieldLink "TrunkDuel$Choice" (9 : Nat) "TrunkDuel$Choice" "shape" "I") ∈ gw := gwt 290 (by decide +kernel) rfl
theorem kw_292 : (Jvm.Cond.fieldLink "TrunkDuel$Choice" (15 : Nat) "TrunkDuel$Choice" "rotation" "I") ∈ gw := gwt 292 (by decide +kernel) rfl
theorem kw_294 : (Jvm.Cond.fieldLink "TrunkDuel$Choice" (18 : Nat) "TrunkDuel$Choice" "column" "I") ∈ gw := gwt 294 (by decide +kernel) rfl
theorem kw_296 : (Jvm.Cond.fieldLink "TrunkDuel$Choice" (21 : Nat) "TrunkDuel$Choice" "row" "I") ∈ gw := gwt 296 (by decide +kernel) rfl
theorem kw_298 : (Jvm.Cond.fieldLink "TrunkDuel$Choice" (24 : Nat) "TrunkDuel$Choice" "points" "I") ∈ gw := gwt 298 (by decide +kernel) rfl
theorem kw_845 : (Jvm.Cond.methodLink "TrunkDuel$Choice" (27 : Nat) ({ cls := "TrunkDuel$State", name := "isFinished", desc := "()Z" } : Jvm.MethodName)) ∈ gw := gwt 845 (by decide +kernel) rfl
theorem kw_581 : (Jvm.Cond.instanceMethod ({ cls := "TrunkDuel$State", name := "isFinished", desc := "()Z" } : Jvm.MethodName)) ∈ gw := gwt 581 (by decide +kernel) rfl
theorem kw_582 : (Jvm.Cond.selects "TrunkDuel$State" ({ cls := "TrunkDuel$State", name := "isFinished", desc := "()Z" } : Jvm.MethodName) ({ cls := "TrunkDuel$State", name := "isFinished", desc := "()Z" } : Jvm.MethodName)) ∈ gw := gwt 582 (by decide +kernel) rfl
theorem kw_3 : (Jvm.Cond.initialized "TrunkDuel$State") ∈ gw := gwt 3 (by decide +kernel) rfl
theorem kw_583 : (Jvm.Cond.code ({ cls := "TrunkDuel$State", name := "isFinished", desc := "()Z" } : Jvm.MethodName) prog_10_method_4_code (1 : Nat) (Option.some Jvm.ClassFile.FieldType.boolean)) ∈ gw := gwt 583 (by decide +kernel) rfl
theorem kw_142 : (Jvm.Cond.fieldLink "TrunkDuel$Choice" (33 : Nat) "TrunkDuel$State" "mover" "I") ∈ gw := gwt 142 (by decide +kernel) rfl
theorem kw_846 : (Jvm.Cond.methodLink "TrunkDuel$Choice" (36 : Nat) ({ cls := "TrunkDuel$State", name := "playerOf", desc := "(I)LTrunkDuel$Player;" } : Jvm.MethodName)) ∈ gw := gwt 846 (by decide +kernel) rfl
theorem kw_521 : (Jvm.Cond.instanceMethod ({ cls := "TrunkDuel$State", name := "playerOf", desc := "(I)LTrunkDuel$Player;" } : Jvm.MethodName)) ∈ gw := gwt 521 (by decide +kernel) rfl
theorem kw_522 : (Jvm.Cond.selects "TrunkDuel$State" ({ cls := "TrunkDuel$State", name := "playerOf", desc := "(I)LTrunkDuel$Player;" } : Jvm.MethodName) ({ cls := "TrunkDuel$State", name := "playerOf", desc := "(I)LTrunkDuel$Player;" } : Jvm.MethodName)) ∈ gw := gwt 522 (by decide +kernel) rfl
theorem kw_523 : (Jvm.Cond.code ({ cls := "TrunkDuel$State", name := "playerOf", desc := "(I)LTrunkDuel$Player;" } : Jvm.MethodName) prog_10_method_5_code (2 : Nat) (Option.some (Jvm.ClassFile.FieldType.object "TrunkDuel$Player"))) ∈ gw := gwt 523 (by decide +kernel) rfl
theorem kw_847 : (Jvm.Cond.methodLink "TrunkDuel$Choice" (40 : Nat) ({ cls := "TrunkDuel$Player", name := "supplyOf", desc := "(I)I" } : Jvm.MethodName)) ∈ gw := gwt 847 (by decide +kernel) rfl
theorem kw_586 : (Jvm.Cond.instanceMethod ({ cls := "TrunkDuel$Player", name := "supplyOf", desc := "(I)I" } : Jvm.MethodName)) ∈ gw := gwt 586 (by decide +kernel) rfl
theorem kw_587 : (Jvm.Cond.selects "TrunkDuel$Player" ({ cls := "TrunkDuel$Player", name := "supplyOf", desc := "(I)I" } : Jvm.MethodName) ({ cls := "TrunkDuel$Player", name := "supplyOf", desc := "(I)I" } : Jvm.MethodName)) ∈ gw := gwt 587 (by decide +kernel) rfl
theorem kw_6 : (Jvm.Cond.initialized "TrunkDuel$Player") ∈ gw := gwt 6 (by decide +kernel) rfl
theorem kw_588 : (Jvm.Cond.code ({ cls := "TrunkDuel$Player", name := "supplyOf", desc := "(I)I" } : Jvm.MethodName) prog_7_method_7_code (2 : Nat) (Option.some Jvm.ClassFile.FieldType.int)) ∈ gw := gwt 588 (by decide +kernel) rfl
theorem kw_130 : (Jvm.Cond.fieldLink "TrunkDuel$Choice" (46 : Nat) "TrunkDuel$State" "trunk" "LTrunkDuel$Trunk;") ∈ gw := gwt 130 (by decide +kernel) rfl
theorem kw_848 : (Jvm.Cond.methodLink "TrunkDuel$Choice" (50 : Nat) ({ cls := "TrunkDuel$Choice", name := "searchShape", desc := "(ILTrunkDuel$Trunk;LTrunkDuel$Footprint;)V" } : Jvm.MethodName)) ∈ gw := gwt 848 (by decide +kernel) rfl
theorem kw_850 : (Jvm.Cond.instanceMethod ({ cls := "TrunkDuel$Choice", name := "searchShape", desc := "(ILTrunkDuel$Trunk;LTrunkDuel$Footprint;)V" } : Jvm.MethodName)) ∈ gw := gwt 850 (by decide +kernel) rfl
theorem kp_20 : (Jvm.Cond.selects "TrunkDuel$Choice" ({ cls := "TrunkDuel$Choice", name := "searchShape", desc := "(ILTrunkDuel$Trunk;LTrunkDuel$Footprint;)V" } : Jvm.MethodName) ({ cls := "TrunkDuel$Choice", name := "searchShape", desc := "(ILTrunkDuel$Trunk;LTrunkDuel$Footprint;)V" } : Jvm.MethodName)) ∈ gw := gws 20 (by decide +kernel) rfl
theorem kw_9 : (Jvm.Cond.initialized "TrunkDuel$Choice") ∈ gw := gwt 9 (by decide +kernel) rfl
theorem kw_851 : (Jvm.Cond.code ({ cls := "TrunkDuel$Choice", name := "searchShape", desc := "(ILTrunkDuel$Trunk;LTrunkDuel$Footprint;)V" } : Jvm.MethodName) prog_2_method_3_code (5 : Nat) (Option.none : Option Jvm.ClassFile.FieldType)) ∈ gw := gwt 851 (by decide +kernel) rfl
theorem kw_852 : (Jvm.Cond.methodLink "TrunkDuel$Choice" (54 : Nat) ({ cls := "TrunkDuel$Footprint", name := "startAll", desc := "(I)V" } : Jvm.MethodName)) ∈ gw := gwt 852 (by decide +kernel) rfl
theorem kw_667 : (Jvm.Cond.instanceMethod ({ cls := "TrunkDuel$Footprint", name := "startAll", desc := "(I)V" } : Jvm.MethodName)) ∈ gw := gwt 667 (by decide +kernel) rfl
theorem kw_668 : (Jvm.Cond.selects "TrunkDuel$Footprint" ({ cls := "TrunkDuel$Footprint", name := "startAll", desc := "(I)V" } : Jvm.MethodName) ({ cls := "TrunkDuel$Footprint", name := "startAll", desc := "(I)V" } : Jvm.MethodName)) ∈ gw := gwt 668 (by decide +kernel) rfl
theorem kw_7 : (Jvm.Cond.initialized "TrunkDuel$Footprint") ∈ gw := gwt 7 (by decide +kernel) rfl
theorem kw_669 : (Jvm.Cond.code ({ cls := "TrunkDuel$Footprint", name := "startAll", desc := "(I)V" } : Jvm.MethodName) prog_4_method_4_code (2 : Nat) (Option.none : Option Jvm.ClassFile.FieldType)) ∈ gw := gwt 669 (by decide +kernel) rfl
theorem kw_853 : (Jvm.Cond.methodLink "TrunkDuel$Choice" (60 : Nat) ({ cls := "TrunkDuel$Trunk", name := "findNext", desc := "(LTrunkDuel$Footprint;)Z" } : Jvm.MethodName)) ∈ gw := gwt 853 (by decide +kernel) rfl
theorem kw_673 : (Jvm.Cond.instanceMethod ({ cls := "TrunkDuel$Trunk", name := "findNext", desc := "(LTrunkDuel$Footprint;)Z" } : Jvm.MethodName)) ∈ gw := gwt 673 (by decide +kernel) rfl
theorem kw_674 : (Jvm.Cond.selects "TrunkDuel$Trunk" ({ cls := "TrunkDuel$Trunk", name := "findNext", desc := "(LTrunkDuel$Footprint;)Z" } : Jvm.MethodName) ({ cls := "TrunkDuel$Trunk", name := "findNext", desc := "(LTrunkDuel$Footprint;)Z" } : Jvm.MethodName)) ∈ gw := gwt 674 (by decide +kernel) rfl
theorem kw_4 : (Jvm.Cond.initialized "TrunkDuel$Trunk") ∈ gw := gwt 4 (by decide +kernel) rfl
theorem kw_675 : (Jvm.Cond.code ({ cls := "TrunkDuel$Trunk", name := "findNext", desc := "(LTrunkDuel$Footprint;)Z" } : Jvm.MethodName) prog_11_method_19_code (3 : Nat) (Option.some Jvm.ClassFile.FieldType.boolean)) ∈ gw := gwt 675 (by decide +kernel) rfl
theorem kw_854 : (Jvm.Cond.methodLink "TrunkDuel$Choice" (66 : Nat) ({ cls := "TrunkDuel$Trunk", name := "pointsOf", desc := "(LTrunkDuel$Footprint;)I" } : Jvm.MethodName)) ∈ gw := gwt 854 (by decide +kernel) rfl
theorem kw_623 : (Jvm.Cond.instanceMethod ({ cls := "TrunkDuel$Trunk", name := "pointsOf", desc := "(LTrunkDuel$Footprint;)I" } : Jvm.MethodName)) ∈ gw := gwt 623 (by decide +kernel) rfl
theorem kw_624 : (Jvm.Cond.selects "TrunkDuel$Trunk" ({ cls := "TrunkDuel$Trunk", name := "pointsOf", desc := "(LTrunkDuel$Footprint;)I" } : Jvm.MethodName) ({ cls := "TrunkDuel$Trunk", name := "pointsOf", desc := "(LTrunkDuel$Footprint;)I" } : Jvm.MethodName)) ∈ gw := gwt 624 (by decide +kernel) rfl
theorem kw_625 : (Jvm.Cond.code ({ cls := "TrunkDuel$Trunk", name := "pointsOf", desc := "(LTrunkDuel$Footprint;)I" } : Jvm.MethodName) prog_11_method_21_code (6 : Nat) (Option.some Jvm.ClassFile.FieldType.int)) ∈ gw := gwt 625 (by decide +kernel) rfl
theorem kw_855 : (Jvm.Cond.methodLink "TrunkDuel$Choice" (70 : Nat) ({ cls := "TrunkDuel$Choice", name := "take", desc := "(LTrunkDuel$Footprint;I)V" } : Jvm.MethodName)) ∈ gw := gwt 855 (by decide +kernel) rfl
theorem kw_857 : (Jvm.Cond.instanceMethod ({ cls := "TrunkDuel$Choice", name := "take", desc := "(LTrunkDuel$Footprint;I)V" } : Jvm.MethodName)) ∈ gw := gwt 857 (by decide +kernel) rfl
theorem kp_21 : (Jvm.Cond.selects "TrunkDuel$Choice" ({ cls := "TrunkDuel$Choice", name := "take", desc := "(LTrunkDuel$Footprint;I)V" } : Jvm.MethodName) ({ cls := "TrunkDuel$Choice", name := "take", desc := "(LTrunkDuel$Footprint;I)V" } : Jvm.MethodName)) ∈ gw := gws 21 (by decide +kernel) rfl
theorem kw_858 : (Jvm.Cond.code ({ cls := "TrunkDuel$Choice", name := "take", desc := "(LTrunkDuel$Footprint;I)V" } : Jvm.MethodName) prog_2_method_4_code (3 : Nat) (Option.none : Option Jvm.ClassFile.FieldType)) ∈ gw := gwt 858 (by decide +kernel) rfl
theorem kw_166 : (Jvm.Cond.fieldLink "TrunkDuel$Choice" (74 : Nat) "TrunkDuel$Footprint" "shape" "I") ∈ gw := gwt 166 (by decide +kernel) rfl
theorem kw_170 : (Jvm.Cond.fieldLink "TrunkDuel$Choice" (75 : Nat) "TrunkDuel$Footprint" "rotation" "I") ∈ gw := gwt 170 (by decide +kernel) rfl
theorem kw_173 : (Jvm.Cond.fieldLink "TrunkDuel$Choice" (76 : Nat) "TrunkDuel$Footprint" "column" "I") ∈ gw := gwt 173 (by decide +kernel) rfl
theorem kw_176 : (Jvm.Cond.fieldLink "TrunkDuel$Choice" (77 : Nat) "TrunkDuel$Footprint" "row" "I") ∈ gw := gwt 176 (by decide +kernel) rfl
theorem kw_315 : (Jvm.Cond.methodLink "TrunkDuel$Crossings" (3 : Nat) ({ cls := "java/lang/Object", name := "<init>", desc := "()V" } : Jvm.MethodName)) ∈ gw := gwt 315 (by decide +kernel) rfl
theorem kw_70 : (Jvm.Cond.arrayClass Jvm.ClassFile.FieldType.int) ∈ gw := gwt 70 (by decide +kernel) rfl
theorem kw_316 : (Jvm.Cond.fieldLink "TrunkDuel$Crossings" (9 : Nat) "TrunkDuel$Crossings" "counts" "[I") ∈ gw := gwt 316 (by decide +kernel) rfl
theorem kw_880 : (Jvm.Cond.methodLink "TrunkDuel$Crossings" (15 : Nat) ({ cls := "TrunkDuel$Player", name := "supplyOf", desc := "(I)I" } : Jvm.MethodName)) ∈ gw := gwt 880 (by decide +kernel) rfl
theorem kw_881 : (Jvm.Cond.methodLink "TrunkDuel$Crossings" (21 : Nat) ({ cls := "TrunkDuel$Crossings", name := "countShape", desc := "(ILTrunkDuel$Trunk;LTrunkDuel$Footprint;)V" } : Jvm.MethodName)) ∈ gw := gwt 881 (by decide +kernel) rfl
theorem kw_883 : (Jvm.Cond.instanceMethod ({ cls := "TrunkDuel$Crossings", name := "countShape", desc := "(ILTrunkDuel$Trunk;LTrunkDuel$Footprint;)V" } : Jvm.MethodName)) ∈ gw := gwt 883 (by decide +kernel) rfl
theorem kp_22 : (Jvm.Cond.selects "TrunkDuel$Crossings" ({ cls := "TrunkDuel$Crossings", name := "countShape", desc := "(ILTrunkDuel$Trunk;LTrunkDuel$Footprint;)V" } : Jvm.MethodName) ({ cls := "TrunkDuel$Crossings", name := "countShape", desc := "(ILTrunkDuel$Trunk;LTrunkDuel$Footprint;)V" } : Jvm.MethodName)) ∈ gw := gws 22 (by decide +kernel) rfl
theorem kw_10 : (Jvm.Cond.initialized "TrunkDuel$Crossings") ∈ gw := gwt 10 (by decide +kernel) rfl
theorem kw_884 : (Jvm.Cond.code ({ cls := "TrunkDuel$Crossings", name := "countShape", desc := "(ILTrunkDuel$Trunk;LTrunkDuel$Footprint;)V" } : Jvm.MethodName) prog_3_method_3_code (8 : Nat) (Option.none : Option Jvm.ClassFile.FieldType)) ∈ gw := gwt 884 (by decide +kernel) rfl
theorem kw_894 : (Jvm.Cond.methodLink "TrunkDuel$Crossings" (25 : Nat) ({ cls := "java/lang/Math", name := "max", desc := "(II)I" } : Jvm.MethodName)) ∈ gw := gwt 894 (by decide +kernel) rfl
theorem kw_885 : (Jvm.Cond.methodLink "TrunkDuel$Crossings" (31 : Nat) ({ cls := "TrunkDuel$Footprint", name := "startAll", desc := "(I)V" } : Jvm.MethodName)) ∈ gw := gwt 885 (by decide +kernel) rfl
theorem kw_886 : (Jvm.Cond.methodLink "TrunkDuel$Crossings" (37 : Nat) ({ cls := "TrunkDuel$Trunk", name := "findNext", desc := "(LTrunkDuel$Footprint;)Z" } : Jvm.MethodName)) ∈ gw := gwt 886 (by decide +kernel) rfl
theorem kw_182 : (Jvm.Cond.fieldLink "TrunkDuel$Crossings" (43 : Nat) "TrunkDuel$Footprint" "edges" "I") ∈ gw := gwt 182 (by decide +kernel) rfl
theorem kw_887 : (Jvm.Cond.methodLink "TrunkDuel$Crossings" (47 : Nat) ({ cls := "TrunkDuel$Footprint", name := "edgeColumnOf", desc := "(I)I" } : Jvm.MethodName)) ∈ gw := gwt 887 (by decide +kernel) rfl
theorem kw_606 : (Jvm.Cond.instanceMethod ({ cls := "TrunkDuel$Footprint", name := "edgeColumnOf", desc := "(I)I" } : Jvm.MethodName)) ∈ gw := gwt 606 (by decide +kernel) rfl
theorem kw_607 : (Jvm.Cond.selects "TrunkDuel$Footprint" ({ cls := "TrunkDuel$Footprint", name := "edgeColumnOf", desc := "(I)I" } : Jvm.MethodName) ({ cls := "TrunkDuel$Footprint", name := "edgeColumnOf", desc := "(I)I" } : Jvm.MethodName)) ∈ gw := gwt 607 (by decide +kernel) rfl
theorem kw_608 : (Jvm.Cond.code ({ cls := "TrunkDuel$Footprint", name := "edgeColumnOf", desc := "(I)I" } : Jvm.MethodName) prog_4_method_8_code (2 : Nat) (Option.some Jvm.ClassFile.FieldType.int)) ∈ gw := gwt 608 (by decide +kernel) rfl
theorem kw_888 : (Jvm.Cond.methodLink "TrunkDuel$Crossings" (50 : Nat) ({ cls := "TrunkDuel$Footprint", name := "edgeRowOf", desc := "(I)I" } : Jvm.MethodName)) ∈ gw := gwt 888 (by decide +kernel) rfl
theorem kw_610 : (Jvm.Cond.instanceMethod ({ cls := "TrunkDuel$Footprint", name := "edgeRowOf", desc := "(I)I" } : Jvm.MethodName)) ∈ gw := gwt 610 (by decide +kernel) rfl
theorem kw_611 : (Jvm.Cond.selects "TrunkDuel$Footprint" ({ cls := "TrunkDuel$Footprint", name := "edgeRowOf", desc := "(I)I" } : Jvm.MethodName) ({ cls := "TrunkDuel$Footprint", name := "edgeRowOf", desc := "(I)I" } : Jvm.MethodName)) ∈ gw := gwt 611 (by decide +kernel) rfl
theorem kw_612 : (Jvm.Cond.code ({ cls := "TrunkDuel$Footprint", name := "edgeRowOf", desc := "(I)I" } : Jvm.MethodName) prog_4_method_9_code (2 : Nat) (Option.some Jvm.ClassFile.FieldType.int)) ∈ gw := gwt 612 (by decide +kernel) rfl
theorem kw_889 : (Jvm.Cond.methodLink "TrunkDuel$Crossings" (53 : Nat) ({ cls := "TrunkDuel$Footprint", name := "sideOf", desc := "(I)I" } : Jvm.MethodName)) ∈ gw := gwt 889 (by decide +kernel) rfl
theorem kw_614 : (Jvm.Cond.instanceMethod ({ cls := "TrunkDuel$Footprint", name := "sideOf", desc := "(I)I" } : Jvm.MethodName)) ∈ gw := gwt 614 (by decide +kernel) rfl
theorem kw_615 : (Jvm.Cond.selects "TrunkDuel$Footprint" ({ cls := "TrunkDuel$Footprint", name := "sideOf", desc := "(I)I" } : Jvm.MethodName) ({ cls := "TrunkDuel$Footprint", name := "sideOf", desc := "(I)I" } : Jvm.MethodName)) ∈ gw := gwt 615 (by decide +kernel) rfl
theorem kw_616 : (Jvm.Cond.code ({ cls := "TrunkDuel$Footprint", name := "sideOf", desc := "(I)I" } : Jvm.MethodName) prog_4_method_10_code (2 : Nat) (Option.some Jvm.ClassFile.FieldType.int)) ∈ gw := gwt 616 (by decide +kernel) rfl
theorem kw_890 : (Jvm.Cond.methodLink "TrunkDuel$Crossings" (56 : Nat) ({ cls := "TrunkDuel$Crossings", name := "countEdge", desc := "(III)V" } : Jvm.MethodName)) ∈ gw := gwt 890 (by decide +kernel) rfl
theorem kw_892 : (Jvm.Cond.instanceMethod ({ cls := "TrunkDuel$Crossings", name := "countEdge", desc := "(III)V" } : Jvm.MethodName)) ∈ gw := gwt 892 (by decide +kernel) rfl
theorem kp_23 : (Jvm.Cond.selects "TrunkDuel$Crossings" ({ cls := "TrunkDuel$Crossings", name := "countEdge", desc := "(III)V" } : Jvm.MethodName) ({ cls := "TrunkDuel$Crossings", name := "countEdge", desc := "(III)V" } : Jvm.MethodName)) ∈ gw := gws 23 (by decide +kernel) rfl
theorem kw_893 : (Jvm.Cond.code ({ cls := "TrunkDuel$Crossings", name := "countEdge", desc := "(III)V" } : Jvm.MethodName) prog_3_method_4_code (5 : Nat) (Option.none : Option Jvm.ClassFile.FieldType)) ∈ gw := gwt 893 (by decide +kernel) rfl
theorem kw_163 : (Jvm.Cond.methodLink "TrunkDuel$Footprint" (3 : Nat) ({ cls := "java/lang/Object", name := "<init>", desc := "()V" } : Jvm.MethodName)) ∈ gw := gwt 163 (by decide +kernel) rfl
theorem kw_164 : (Jvm.Cond.fieldLink "TrunkDuel$Footprint" (9 : Nat) "TrunkDuel$Footprint" "shape" "I") ∈ gw := gwt 164 (by decide +kernel) rfl
theorem kw_168 : (Jvm.Cond.fieldLink "TrunkDuel$Footprint" (15 : Nat) "TrunkDuel$Footprint" "rotation" "I") ∈ gw := gwt 168 (by decide +kernel) rfl
theorem kw_171 : (Jvm.Cond.fieldLink "TrunkDuel$Footprint" (18 : Nat) "TrunkDuel$Footprint" "column" "I") ∈ gw := gwt 171 (by decide +kernel) rfl
theorem kw_174 : (Jvm.Cond.fieldLink "TrunkDuel$Footprint" (21 : Nat) "TrunkDuel$Footprint" "row" "I") ∈ gw := gwt 174 (by decide +kernel) rfl
theorem kw_177 : (Jvm.Cond.fieldLink "TrunkDuel$Footprint" (24 : Nat) "TrunkDuel$Footprint" "size" "I") ∈ gw := gwt 177 (by decide +kernel) rfl
theorem kw_181 : (Jvm.Cond.fieldLink "TrunkDuel$Footprint" (27 : Nat) "TrunkDuel$Footprint" "edges" "I") ∈ gw := gwt 181 (by decide +kernel) rfl
theorem kw_184 : (Jvm.Cond.fieldLink "TrunkDuel$Footprint" (30 : Nat) "TrunkDuel$Footprint" "right" "[I") ∈ gw := gwt 184 (by decide +kernel) rfl
theorem kw_185 : (Jvm.Cond.fieldLink "TrunkDuel$Footprint" (34 : Nat) "TrunkDuel$Footprint" "down" "[I") ∈ gw := gwt 185 (by decide +kernel) rfl
theorem kw_186 : (Jvm.Cond.fieldLink "TrunkDuel$Footprint" (37 : Nat) "TrunkDuel$Footprint" "edgeRight" "[I") ∈ gw := gwt 186 (by decide +kernel) rfl
theorem kw_187 : (Jvm.Cond.fieldLink "TrunkDuel$Footprint" (40 : Nat) "TrunkDuel$Footprint" "edgeDown" "[I") ∈ gw := gwt 187 (by decide +kernel) rfl
theorem kw_188 : (Jvm.Cond.fieldLink "TrunkDuel$Footprint" (43 : Nat) "TrunkDuel$Footprint" "edgeSide" "[I") ∈ gw := gwt 188 (by decide +kernel) rfl
theorem kw_558 : (Jvm.Cond.fieldLink "TrunkDuel$Footprint" (46 : Nat) "TrunkDuel$Footprint" "SIZES" "[I") ∈ gw := gwt 558 (by decide +kernel) rfl
theorem kw_560 : (Jvm.Cond.fieldLink "TrunkDuel$Footprint" (49 : Nat) "TrunkDuel$Footprint" "OFFSETS_RIGHT" "[I") ∈ gw := gwt 560 (by decide +kernel) rfl
theorem kw_562 : (Jvm.Cond.fieldLink "TrunkDuel$Footprint" (52 : Nat) "TrunkDuel$Footprint" "OFFSETS_DOWN" "[I") ∈ gw := gwt 562 (by decide +kernel) rfl
theorem kw_564 : (Jvm.Cond.methodLink "TrunkDuel$Footprint" (55 : Nat) ({ cls := "TrunkDuel$Footprint", name := "findEdges", desc := "()V" } : Jvm.MethodName)) ∈ gw := gwt 564 (by decide +kernel) rfl
theorem kw_566 : (Jvm.Cond.instanceMethod ({ cls := "TrunkDuel$Footprint", name := "findEdges", desc := "()V" } : Jvm.MethodName)) ∈ gw := gwt 566 (by decide +kernel) rfl
theorem kp_17 : (Jvm.Cond.selects "TrunkDuel$Footprint" ({ cls := "TrunkDuel$Footprint", name := "findEdges", desc := "()V" } : Jvm.MethodName) ({ cls := "TrunkDuel$Footprint", name := "findEdges", desc := "()V" } : Jvm.MethodName)) ∈ gw := gws 17 (by decide +kernel) rfl
theorem kw_567 : (Jvm.Cond.code ({ cls := "TrunkDuel$Footprint", name := "findEdges", desc := "()V" } : Jvm.MethodName) prog_4_method_11_code (5 : Nat) (Option.none : Option Jvm.ClassFile.FieldType)) ∈ gw := gwt 567 (by decide +kernel) rfl
theorem kw_670 : (Jvm.Cond.methodLink "TrunkDuel$Footprint" (58 : Nat) ({ cls := "TrunkDuel$Footprint", name := "turn", desc := "(II)V" } : Jvm.MethodName)) ∈ gw := gwt 670 (by decide +kernel) rfl
theorem kw_555 : (Jvm.Cond.instanceMethod ({ cls := "TrunkDuel$Footprint", name := "turn", desc := "(II)V" } : Jvm.MethodName)) ∈ gw := gwt 555 (by decide +kernel) rfl
theorem kw_556 : (Jvm.Cond.selects "TrunkDuel$Footprint" ({ cls := "TrunkDuel$Footprint", name := "turn", desc := "(II)V" } : Jvm.MethodName) ({ cls := "TrunkDuel$Footprint", name := "turn", desc := "(II)V" } : Jvm.MethodName)) ∈ gw := gwt 556 (by decide +kernel) rfl
theorem kw_557 : (Jvm.Cond.code ({ cls := "TrunkDuel$Footprint", name := "turn", desc := "(II)V" } : Jvm.MethodName) prog_4_method_2_code (8 : Nat) (Option.none : Option Jvm.ClassFile.FieldType)) ∈ gw := gwt 557 (by decide +kernel) rfl
theorem kw_671 : (Jvm.Cond.methodLink "TrunkDuel$Footprint" (62 : Nat) ({ cls := "TrunkDuel$Footprint", name := "moveTo", desc := "(II)V" } : Jvm.MethodName)) ∈ gw := gwt 671 (by decide +kernel) rfl
theorem kw_573 : (Jvm.Cond.instanceMethod ({ cls := "TrunkDuel$Footprint", name := "moveTo", desc := "(II)V" } : Jvm.MethodName)) ∈ gw := gwt 573 (by decide +kernel) rfl
theorem kw_574 : (Jvm.Cond.selects "TrunkDuel$Footprint" ({ cls := "TrunkDuel$Footprint", name := "moveTo", desc := "(II)V" } : Jvm.MethodName) ({ cls := "TrunkDuel$Footprint", name := "moveTo", desc := "(II)V" } : Jvm.MethodName)) ∈ gw := gwt 574 (by decide +kernel) rfl
theorem kw_575 : (Jvm.Cond.code ({ cls := "TrunkDuel$Footprint", name := "moveTo", desc := "(II)V" } : Jvm.MethodName) prog_4_method_3_code (3 : Nat) (Option.none : Option Jvm.ClassFile.FieldType)) ∈ gw := gwt 575 (by decide +kernel) rfl
theorem kw_568 : (Jvm.Cond.methodLink "TrunkDuel$Footprint" (65 : Nat) ({ cls := "java/lang/Math", name := "abs", desc := "(I)I" } : Jvm.MethodName)) ∈ gw := gwt 568 (by decide +kernel) rfl
theorem kw_571 : (Jvm.Cond.methodLink "TrunkDuel$Footprint" (71 : Nat) ({ cls := "java/lang/Math", name := "min", desc := "(II)I" } : Jvm.MethodName)) ∈ gw := gwt 571 (by decide +kernel) rfl
theorem kw_267 : (Jvm.Cond.methodLink "TrunkDuel$History" (3 : Nat) ({ cls := "java/lang/Object", name := "<init>", desc := "()V" } : Jvm.MethodName)) ∈ gw := gwt 267 (by decide +kernel) rfl
theorem kw_271 : (Jvm.Cond.fieldLink "TrunkDuel$History" (9 : Nat) "TrunkDuel$History" "count" "I") ∈ gw := gwt 271 (by decide +kernel) rfl
theorem kw_273 : (Jvm.Cond.fieldLink "TrunkDuel$History" (15 : Nat) "TrunkDuel$History" "oldest" "I") ∈ gw := gwt 273 (by decide +kernel) rfl
theorem kw_268 : (Jvm.Cond.classLink "TrunkDuel$History" (18 : Nat) "TrunkDuel$State") ∈ gw := gwt 268 (by decide +kernel) rfl
theorem kw_274 : (Jvm.Cond.fieldLink "TrunkDuel$History" (20 : Nat) "TrunkDuel$History" "states" "[LTrunkDuel$State;") ∈ gw := gwt 274 (by decide +kernel) rfl
theorem kw_40 : (Jvm.Cond.instantiable "TrunkDuel$State" (6 : Nat)) ∈ gw := gwt 40 (by decide +kernel) rfl
theorem kw_42 : (Jvm.Cond.instanceMethod ({ cls := "TrunkDuel$State", name := "<init>", desc := "()V" } : Jvm.MethodName)) ∈ gw := gwt 42 (by decide +kernel) rfl
theorem kw_43 : (Jvm.Cond.code ({ cls := "TrunkDuel$State", name := "<init>", desc := "()V" } : Jvm.MethodName) prog_10_method_1_code (1 : Nat) (Option.none : Option Jvm.ClassFile.FieldType)) ∈ gw := gwt 43 (by decide +kernel) rfl
theorem kw_768 : (Jvm.Cond.methodLink "TrunkDuel$History" (25 : Nat) ({ cls := "TrunkDuel$State", name := "copyFrom", desc := "(LTrunkDuel$State;)V" } : Jvm.MethodName)) ∈ gw := gwt 768 (by decide +kernel) rfl
theorem kw_686 : (Jvm.Cond.instanceMethod ({ cls := "TrunkDuel$State", name := "copyFrom", desc := "(LTrunkDuel$State;)V" } : Jvm.MethodName)) ∈ gw := gwt 686 (by decide +kernel) rfl
theorem kw_687 : (Jvm.Cond.selects "TrunkDuel$State" ({ cls := "TrunkDuel$State", name := "copyFrom", desc := "(LTrunkDuel$State;)V" } : Jvm.MethodName) ({ cls := "TrunkDuel$State", name := "copyFrom", desc := "(LTrunkDuel$State;)V" } : Jvm.MethodName)) ∈ gw := gwt 687 (by decide +kernel) rfl
theorem kw_688 : (Jvm.Cond.code ({ cls := "TrunkDuel$State", name := "copyFrom", desc := "(LTrunkDuel$State;)V" } : Jvm.MethodName) prog_10_method_3_code (2 : Nat) (Option.none : Option Jvm.ClassFile.FieldType)) ∈ gw := gwt 688 (by decide +kernel) rfl
theorem kw_77 : (Jvm.Cond.methodLink "TrunkDuel$Pieces" (3 : Nat) ({ cls := "java/lang/Object", name := "<init>", desc := "()V" } : Jvm.MethodName)) ∈ gw := gwt 77 (by decide +kernel) rfl
theorem kw_78 : (Jvm.Cond.fieldLink "TrunkDuel$Pieces" (9 : Nat) "TrunkDuel$Pieces" "count" "I") ∈ gw := gwt 78 (by decide +kernel) rfl
theorem kw_81 : (Jvm.Cond.fieldLink "TrunkDuel$Pieces" (15 : Nat) "TrunkDuel$Pieces" "shapes" "[I") ∈ gw := gwt 81 (by decide +kernel) rfl
theorem kw_82 : (Jvm.Cond.fieldLink "TrunkDuel$Pieces" (19 : Nat) "TrunkDuel$Pieces" "rotations" "[I") ∈ gw := gwt 82 (by decide +kernel) rfl
theorem kw_83 : (Jvm.Cond.fieldLink "TrunkDuel$Pieces" (22 : Nat) "TrunkDuel$Pieces" "anchorColumns" "[I") ∈ gw := gwt 83 (by decide +kernel) rfl
theorem kw_84 : (Jvm.Cond.fieldLink "TrunkDuel$Pieces" (25 : Nat) "TrunkDuel$Pieces" "anchorRows" "[I") ∈ gw := gwt 84 (by decide +kernel) rfl
theorem kw_85 : (Jvm.Cond.fieldLink "TrunkDuel$Pieces" (28 : Nat) "TrunkDuel$Pieces" "owners" "[I") ∈ gw := gwt 85 (by decide +kernel) rfl
theorem kw_86 : (Jvm.Cond.fieldLink "TrunkDuel$Pieces" (31 : Nat) "TrunkDuel$Pieces" "points" "[I") ∈ gw := gwt 86 (by decide +kernel) rfl
theorem kw_700 : (Jvm.Cond.methodLink "TrunkDuel$Pieces" (34 : Nat) ({ cls := "java/lang/System", name := "arraycopy", desc := "(Ljava/lang/Object;ILjava/lang/Object;II)V" } : Jvm.MethodName)) ∈ gw := gwt 700 (by decide +kernel) rfl
theorem kw_165 : (Jvm.Cond.fieldLink "TrunkDuel$Pieces" (40 : Nat) "TrunkDuel$Footprint" "shape" "I") ∈ gw := gwt 165 (by decide +kernel) rfl
theorem kw_169 : (Jvm.Cond.fieldLink "TrunkDuel$Pieces" (45 : Nat) "TrunkDuel$Footprint" "rotation" "I") ∈ gw := gwt 169 (by decide +kernel) rfl
theorem kw_172 : (Jvm.Cond.fieldLink "TrunkDuel$Pieces" (48 : Nat) "TrunkDuel$Footprint" "column" "I") ∈ gw := gwt 172 (by decide +kernel) rfl
theorem kw_175 : (Jvm.Cond.fieldLink "TrunkDuel$Pieces" (51 : Nat) "TrunkDuel$Footprint" "row" "I") ∈ gw := gwt 175 (by decide +kernel) rfl
theorem kw_936 : (Jvm.Cond.methodLink "TrunkDuel$Pieces" (54 : Nat) ({ cls := "TrunkDuel$Pieces", name := "has", desc := "(I)Z" } : Jvm.MethodName)) ∈ gw := gwt 936 (by decide +kernel) rfl
theorem kw_937 : (Jvm.Cond.instanceMethod ({ cls := "TrunkDuel$Pieces", name := "has", desc := "(I)Z" } : Jvm.MethodName)) ∈ gw := gwt 937 (by decide +kernel) rfl
theorem kw_938 : (Jvm.Cond.selects "TrunkDuel$Pieces" ({ cls := "TrunkDuel$Pieces", name := "has", desc := "(I)Z" } : Jvm.MethodName) ({ cls := "TrunkDuel$Pieces", name := "has", desc := "(I)Z" } : Jvm.MethodName)) ∈ gw := gwt 938 (by decide +kernel) rfl
theorem kw_5 : (Jvm.Cond.initialized "TrunkDuel$Pieces") ∈ gw := gwt 5 (by decide +kernel) rfl
theorem kw_939 : (Jvm.Cond.code ({ cls := "TrunkDuel$Pieces", name := "has", desc := "(I)Z" } : Jvm.MethodName) prog_6_method_4_code (2 : Nat) (Option.some Jvm.ClassFile.FieldType.boolean)) ∈ gw := gwt 939 (by decide +kernel) rfl
theorem kw_107 : (Jvm.Cond.methodLink "TrunkDuel$Player" (3 : Nat) ({ cls := "java/lang/Object", name := "<init>", desc := "()V" } : Jvm.MethodName)) ∈ gw := gwt 107 (by decide +kernel) rfl
theorem kw_108 : (Jvm.Cond.fieldLink "TrunkDuel$Player" (9 : Nat) "TrunkDuel$Player" "score" "I") ∈ gw := gwt 108 (by decide +kernel) rfl
theorem kw_111 : (Jvm.Cond.fieldLink "TrunkDuel$Player" (15 : Nat) "TrunkDuel$Player" "straps" "I") ∈ gw := gwt 111 (by decide +kernel) rfl
theorem kw_115 : (Jvm.Cond.fieldLink "TrunkDuel$Player" (18 : Nat) "TrunkDuel$Player" "nameLength" "I") ∈ gw := gwt 115 (by decide +kernel) rfl
theorem kw_116 : (Jvm.Cond.fieldLink "TrunkDuel$Player" (21 : Nat) "TrunkDuel$Player" "name" "[I") ∈ gw := gwt 116 (by decide +kernel) rfl
theorem kw_117 : (Jvm.Cond.fieldLink "TrunkDuel$Player" (25 : Nat) "TrunkDuel$Player" "supplies" "[I") ∈ gw := gwt 117 (by decide +kernel) rfl
theorem kw_705 : (Jvm.Cond.methodLink "TrunkDuel$Player" (28 : Nat) ({ cls := "java/lang/System", name := "arraycopy", desc := "(Ljava/lang/Object;ILjava/lang/Object;II)V" } : Jvm.MethodName)) ∈ gw := gwt 705 (by decide +kernel) rfl
theorem kw_38 : (Jvm.Cond.methodLink "TrunkDuel$Reader" (3 : Nat) ({ cls := "java/lang/Object", name := "<init>", desc := "()V" } : Jvm.MethodName)) ∈ gw := gwt 38 (by decide +kernel) rfl
theorem kw_212 : (Jvm.Cond.fieldLink "TrunkDuel$Reader" (9 : Nat) "TrunkDuel$Reader" "length" "I") ∈ gw := gwt 212 (by decide +kernel) rfl
theorem kw_214 : (Jvm.Cond.fieldLink "TrunkDuel$Reader" (15 : Nat) "TrunkDuel$Reader" "errorCode" "I") ∈ gw := gwt 214 (by decide +kernel) rfl
theorem kw_216 : (Jvm.Cond.fieldLink "TrunkDuel$Reader" (18 : Nat) "TrunkDuel$Reader" "errorOffset" "I") ∈ gw := gwt 216 (by decide +kernel) rfl
theorem kw_218 : (Jvm.Cond.fieldLink "TrunkDuel$Reader" (21 : Nat) "TrunkDuel$Reader" "commands" "I") ∈ gw := gwt 218 (by decide +kernel) rfl
theorem kw_39 : (Jvm.Cond.classLink "TrunkDuel$Reader" (24 : Nat) "TrunkDuel$State") ∈ gw := gwt 39 (by decide +kernel) rfl
theorem kw_220 : (Jvm.Cond.fieldLink "TrunkDuel$Reader" (27 : Nat) "TrunkDuel$Reader" "draft" "LTrunkDuel$State;") ∈ gw := gwt 220 (by decide +kernel) rfl
theorem kw_158 : (Jvm.Cond.classLink "TrunkDuel$Reader" (31 : Nat) "TrunkDuel$Footprint") ∈ gw := gwt 158 (by decide +kernel) rfl
theorem kw_159 : (Jvm.Cond.instantiable "TrunkDuel$Footprint" (11 : Nat)) ∈ gw := gwt 159 (by decide +kernel) rfl
theorem kw_161 : (Jvm.Cond.instanceMethod ({ cls := "TrunkDuel$Footprint", name := "<init>", desc := "()V" } : Jvm.MethodName)) ∈ gw := gwt 161 (by decide +kernel) rfl
theorem kw_162 : (Jvm.Cond.code ({ cls := "TrunkDuel$Footprint", name := "<init>", desc := "()V" } : Jvm.MethodName) prog_4_method_1_code (1 : Nat) (Option.none : Option Jvm.ClassFile.FieldType)) ∈ gw := gwt 162 (by decide +kernel) rfl
theorem kw_222 : (Jvm.Cond.fieldLink "TrunkDuel$Reader" (34 : Nat) "TrunkDuel$Reader" "footprint" "LTrunkDuel$Footprint;") ∈ gw := gwt 222 (by decide +kernel) rfl
theorem kw_223 : (Jvm.Cond.fieldLink "TrunkDuel$Reader" (38 : Nat) "TrunkDuel$Reader" "bytes" "[I") ∈ gw := gwt 223 (by decide +kernel) rfl
theorem kw_224 : (Jvm.Cond.fieldLink "TrunkDuel$Reader" (42 : Nat) "TrunkDuel$Reader" "position" "I") ∈ gw := gwt 224 (by decide +kernel) rfl
theorem kw_225 : (Jvm.Cond.fieldLink "TrunkDuel$Reader" (45 : Nat) "TrunkDuel$Reader" "tokenKind" "I") ∈ gw := gwt 225 (by decide +kernel) rfl
theorem kw_226 : (Jvm.Cond.fieldLink "TrunkDuel$Reader" (48 : Nat) "TrunkDuel$Reader" "tokenStart" "I") ∈ gw := gwt 226 (by decide +kernel) rfl
theorem kw_227 : (Jvm.Cond.fieldLink "TrunkDuel$Reader" (51 : Nat) "TrunkDuel$Reader" "number" "I") ∈ gw := gwt 227 (by decide +kernel) rfl
theorem kw_228 : (Jvm.Cond.fieldLink "TrunkDuel$Reader" (54 : Nat) "TrunkDuel$Reader" "edgeColumn" "I") ∈ gw := gwt 228 (by decide +kernel) rfl
theorem kw_229 : (Jvm.Cond.fieldLink "TrunkDuel$Reader" (57 : Nat) "TrunkDuel$Reader" "edgeRow" "I") ∈ gw := gwt 229 (by decide +kernel) rfl
theorem kw_230 : (Jvm.Cond.fieldLink "TrunkDuel$Reader" (60 : Nat) "TrunkDuel$Reader" "edgeSide" "I") ∈ gw := gwt 230 (by decide +kernel) rfl
theorem kw_348 : (Jvm.Cond.methodLink "TrunkDuel$Reader" (63 : Nat) ({ cls := "java/lang/String", name := "length", desc := "()I" } : Jvm.MethodName)) ∈ gw := gwt 348 (by decide +kernel) rfl
theorem kw_358 : (Jvm.Cond.methodLink "TrunkDuel$Reader" (68 : Nat) ({ cls := "java/lang/String", name := "charAt", desc := "(I)C" } : Jvm.MethodName)) ∈ gw := gwt 358 (by decide +kernel) rfl
theorem kw_396 : (Jvm.Cond.methodLink "TrunkDuel$Reader" (72 : Nat) ({ cls := "TrunkDuel$Reader", name := "writeByte", desc := "(I)V" } : Jvm.MethodName)) ∈ gw := gwt 396 (by decide +kernel) rfl
theorem kw_398 : (Jvm.Cond.instanceMethod ({ cls := "TrunkDuel$Reader", name := "writeByte", desc := "(I)V" } : Jvm.MethodName)) ∈ gw := gwt 398 (by decide +kernel) rfl
theorem kp_0 : (Jvm.Cond.selects "TrunkDuel$Reader" ({ cls := "TrunkDuel$Reader", name := "writeByte", desc := "(I)V" } : Jvm.MethodName) ({ cls := "TrunkDuel$Reader", name := "writeByte", desc := "(I)V" } : Jvm.MethodName)) ∈ gw := gws 0 (by decide +kernel) rfl
theorem kw_2 : (Jvm.Cond.initialized "TrunkDuel$Reader") ∈ gw := gwt 2 (by decide +kernel) rfl
theorem kw_399 : (Jvm.Cond.code ({ cls := "TrunkDuel$Reader", name := "writeByte", desc := "(I)V" } : Jvm.MethodName) prog_8_method_5_code (2 : Nat) (Option.none : Option Jvm.ClassFile.FieldType)) ∈ gw := gwt 399 (by decide +kernel) rfl
theorem kw_404 : (Jvm.Cond.methodLink "TrunkDuel$Reader" (76 : Nat) ({ cls := "TrunkDuel$Reader", name := "nextToken", desc := "()V" } : Jvm.MethodName)) ∈ gw := gwt 404 (by decide +kernel) rfl
theorem kw_406 : (Jvm.Cond.instanceMethod ({ cls := "TrunkDuel$Reader", name := "nextToken", desc := "()V" } : Jvm.MethodName)) ∈ gw := gwt 406 (by decide +kernel) rfl
theorem kp_1 : (Jvm.Cond.selects "TrunkDuel$Reader" ({ cls := "TrunkDuel$Reader", name := "nextToken", desc := "()V" } : Jvm.MethodName) ({ cls := "TrunkDuel$Reader", name := "nextToken", desc := "()V" } : Jvm.MethodName)) ∈ gw := gws 1 (by decide +kernel) rfl
theorem kw_407 : (Jvm.Cond.code ({ cls := "TrunkDuel$Reader", name := "nextToken", desc := "()V" } : Jvm.MethodName) prog_8_method_22_code (2 : Nat) (Option.none : Option Jvm.ClassFile.FieldType)) ∈ gw := gwt 407 (by decide +kernel) rfl
theorem kw_781 : (Jvm.Cond.methodLink "TrunkDuel$Reader" (79 : Nat) ({ cls := "TrunkDuel$Reader", name := "startSetup", desc := "()V" } : Jvm.MethodName)) ∈ gw := gwt 781 (by decide +kernel) rfl
theorem kw_401 : (Jvm.Cond.instanceMethod ({ cls := "TrunkDuel$Reader", name := "startSetup", desc := "()V" } : Jvm.MethodName)) ∈ gw := gwt 401 (by decide +kernel) rfl
theorem kw_402 : (Jvm.Cond.selects "TrunkDuel$Reader" ({ cls := "TrunkDuel$Reader", name := "startSetup", desc := "()V" } : Jvm.MethodName) ({ cls := "TrunkDuel$Reader", name := "startSetup", desc := "()V" } : Jvm.MethodName)) ∈ gw := gwt 402 (by decide +kernel) rfl
theorem kw_403 : (Jvm.Cond.code ({ cls := "TrunkDuel$Reader", name := "startSetup", desc := "()V" } : Jvm.MethodName) prog_8_method_6_code (1 : Nat) (Option.none : Option Jvm.ClassFile.FieldType)) ∈ gw := gwt 403 (by decide +kernel) rfl
theorem kw_782 : (Jvm.Cond.methodLink "TrunkDuel$Reader" (82 : Nat) ({ cls := "TrunkDuel$State", name := "copyFrom", desc := "(LTrunkDuel$State;)V" } : Jvm.MethodName)) ∈ gw := gwt 782 (by decide +kernel) rfl
theorem kw_427 : (Jvm.Cond.methodLink "TrunkDuel$Reader" (86 : Nat) ({ cls := "TrunkDuel$Reader", name := "readSize", desc := "()Z" } : Jvm.MethodName)) ∈ gw := gwt 427 (by decide +kernel) rfl
theorem kw_429 : (Jvm.Cond.instanceMethod ({ cls := "TrunkDuel$Reader", name := "readSize", desc := "()Z" } : Jvm.MethodName)) ∈ gw := gwt 429 (by decide +kernel) rfl
theorem kp_5 : (Jvm.Cond.selects "TrunkDuel$Reader" ({ cls := "TrunkDuel$Reader", name := "readSize", desc := "()Z" } : Jvm.MethodName) ({ cls := "TrunkDuel$Reader", name := "readSize", desc := "()Z" } : Jvm.MethodName)) ∈ gw := gws 5 (by decide +kernel) rfl
theorem kw_430 : (Jvm.Cond.code ({ cls := "TrunkDuel$Reader", name := "readSize", desc := "()Z" } : Jvm.MethodName) prog_8_method_10_code (3 : Nat) (Option.some Jvm.ClassFile.FieldType.boolean)) ∈ gw := gwt 430 (by decide +kernel) rfl
theorem kw_461 : (Jvm.Cond.methodLink "TrunkDuel$Reader" (90 : Nat) ({ cls := "TrunkDuel$Reader", name := "readBlocks", desc := "()Z" } : Jvm.MethodName)) ∈ gw := gwt 461 (by decide +kernel) rfl
theorem kw_463 : (Jvm.Cond.instanceMethod ({ cls := "TrunkDuel$Reader", name := "readBlocks", desc := "()Z" } : Jvm.MethodName)) ∈ gw := gwt 463 (by decide +kernel) rfl
theorem kp_10 : (Jvm.Cond.selects "TrunkDuel$Reader" ({ cls := "TrunkDuel$Reader", name := "readBlocks", desc := "()Z" } : Jvm.MethodName) ({ cls := "TrunkDuel$Reader", name := "readBlocks", desc := "()Z" } : Jvm.MethodName)) ∈ gw := gws 10 (by decide +kernel) rfl
theorem kw_464 : (Jvm.Cond.code ({ cls := "TrunkDuel$Reader", name := "readBlocks", desc := "()Z" } : Jvm.MethodName) prog_8_method_11_code (4 : Nat) (Option.some Jvm.ClassFile.FieldType.boolean)) ∈ gw := gwt 464 (by decide +kernel) rfl
theorem kw_478 : (Jvm.Cond.methodLink "TrunkDuel$Reader" (93 : Nat) ({ cls := "TrunkDuel$Reader", name := "readFreeStraps", desc := "()Z" } : Jvm.MethodName)) ∈ gw := gwt 478 (by decide +kernel) rfl
theorem kw_480 : (Jvm.Cond.instanceMethod ({ cls := "TrunkDuel$Reader", name := "readFreeStraps", desc := "()Z" } : Jvm.MethodName)) ∈ gw := gwt 480 (by decide +kernel) rfl
theorem kp_11 : (Jvm.Cond.selects "TrunkDuel$Reader" ({ cls := "TrunkDuel$Reader", name := "readFreeStraps", desc := "()Z" } : Jvm.MethodName) ({ cls := "TrunkDuel$Reader", name := "readFreeStraps", desc := "()Z" } : Jvm.MethodName)) ∈ gw := gws 11 (by decide +kernel) rfl
theorem kw_481 : (Jvm.Cond.code ({ cls := "TrunkDuel$Reader", name := "readFreeStraps", desc := "()Z" } : Jvm.MethodName) prog_8_method_12_code (2 : Nat) (Option.some Jvm.ClassFile.FieldType.boolean)) ∈ gw := gwt 481 (by decide +kernel) rfl
theorem kw_511 : (Jvm.Cond.methodLink "TrunkDuel$Reader" (96 : Nat) ({ cls := "TrunkDuel$Reader", name := "readPlayer", desc := "(I)Z" } : Jvm.MethodName)) ∈ gw := gwt 511 (by decide +kernel) rfl
theorem kw_513 : (Jvm.Cond.instanceMethod ({ cls := "TrunkDuel$Reader", name := "readPlayer", desc := "(I)Z" } : Jvm.MethodName)) ∈ gw := gwt 513 (by decide +kernel) rfl
theorem kp_13 : (Jvm.Cond.selects "TrunkDuel$Reader" ({ cls := "TrunkDuel$Reader", name := "readPlayer", desc := "(I)Z" } : Jvm.MethodName) ({ cls := "TrunkDuel$Reader", name := "readPlayer", desc := "(I)Z" } : Jvm.MethodName)) ∈ gw := gws 13 (by decide +kernel) rfl
theorem kw_514 : (Jvm.Cond.code ({ cls := "TrunkDuel$Reader", name := "readPlayer", desc := "(I)Z" } : Jvm.MethodName) prog_8_method_13_code (4 : Nat) (Option.some Jvm.ClassFile.FieldType.boolean)) ∈ gw := gwt 514 (by decide +kernel) rfl
theorem kw_432 : (Jvm.Cond.methodLink "TrunkDuel$Reader" (102 : Nat) ({ cls := "TrunkDuel$Reader", name := "wordIs", desc := "(Ljava/lang/String;)Z" } : Jvm.MethodName)) ∈ gw := gwt 432 (by decide +kernel) rfl
theorem kw_434 : (Jvm.Cond.instanceMethod ({ cls := "TrunkDuel$Reader", name := "wordIs", desc := "(Ljava/lang/String;)Z" } : Jvm.MethodName)) ∈ gw := gwt 434 (by decide +kernel) rfl
theorem kp_6 : (Jvm.Cond.selects "TrunkDuel$Reader" ({ cls := "TrunkDuel$Reader", name := "wordIs", desc := "(Ljava/lang/String;)Z" } : Jvm.MethodName) ({ cls := "TrunkDuel$Reader", name := "wordIs", desc := "(Ljava/lang/String;)Z" } : Jvm.MethodName)) ∈ gw := gws 6 (by decide +kernel) rfl
theorem kw_435 : (Jvm.Cond.code ({ cls := "TrunkDuel$Reader", name := "wordIs", desc := "(Ljava/lang/String;)Z" } : Jvm.MethodName) prog_8_method_25_code (3 : Nat) (Option.some Jvm.ClassFile.FieldType.boolean)) ∈ gw := gwt 435 (by decide +kernel) rfl
theorem kw_541 : (Jvm.Cond.methodLink "TrunkDuel$Reader" (106 : Nat) ({ cls := "TrunkDuel$Reader", name := "readPiece", desc := "()Z" } : Jvm.MethodName)) ∈ gw := gwt 541 (by decide +kernel) rfl
theorem kw_543 : (Jvm.Cond.instanceMethod ({ cls := "TrunkDuel$Reader", name := "readPiece", desc := "()Z" } : Jvm.MethodName)) ∈ gw := gwt 543 (by decide +kernel) rfl
theorem kp_15 : (Jvm.Cond.selects "TrunkDuel$Reader" ({ cls := "TrunkDuel$Reader", name := "readPiece", desc := "()Z" } : Jvm.MethodName) ({ cls := "TrunkDuel$Reader", name := "readPiece", desc := "()Z" } : Jvm.MethodName)) ∈ gw := gws 15 (by decide +kernel) rfl
theorem kw_544 : (Jvm.Cond.code ({ cls := "TrunkDuel$Reader", name := "readPiece", desc := "()Z" } : Jvm.MethodName) prog_8_method_15_code (5 : Nat) (Option.some Jvm.ClassFile.FieldType.boolean)) ∈ gw := gwt 544 (by decide +kernel) rfl
theorem kw_642 : (Jvm.Cond.methodLink "TrunkDuel$Reader" (111 : Nat) ({ cls := "TrunkDuel$Reader", name := "readStrap", desc := "()Z" } : Jvm.MethodName)) ∈ gw := gwt 642 (by decide +kernel) rfl
theorem kw_644 : (Jvm.Cond.instanceMethod ({ cls := "TrunkDuel$Reader", name := "readStrap", desc := "()Z" } : Jvm.MethodName)) ∈ gw := gwt 644 (by decide +kernel) rfl
theorem kp_19 : (Jvm.Cond.selects "TrunkDuel$Reader" ({ cls := "TrunkDuel$Reader", name := "readStrap", desc := "()Z" } : Jvm.MethodName) ({ cls := "TrunkDuel$Reader", name := "readStrap", desc := "()Z" } : Jvm.MethodName)) ∈ gw := gws 19 (by decide +kernel) rfl
theorem kw_645 : (Jvm.Cond.code ({ cls := "TrunkDuel$Reader", name := "readStrap", desc := "()Z" } : Jvm.MethodName) prog_8_method_16_code (1 : Nat) (Option.some Jvm.ClassFile.FieldType.boolean)) ∈ gw := gwt 645 (by decide +kernel) rfl
theorem kw_662 : (Jvm.Cond.methodLink "TrunkDuel$Reader" (116 : Nat) ({ cls := "TrunkDuel$State", name := "allowsPass", desc := "(LTrunkDuel$Footprint;)Z" } : Jvm.MethodName)) ∈ gw := gwt 662 (by decide +kernel) rfl
theorem kw_663 : (Jvm.Cond.instanceMethod ({ cls := "TrunkDuel$State", name := "allowsPass", desc := "(LTrunkDuel$Footprint;)Z" } : Jvm.MethodName)) ∈ gw := gwt 663 (by decide +kernel) rfl
theorem kw_664 : (Jvm.Cond.selects "TrunkDuel$State" ({ cls := "TrunkDuel$State", name := "allowsPass", desc := "(LTrunkDuel$Footprint;)Z" } : Jvm.MethodName) ({ cls := "TrunkDuel$State", name := "allowsPass", desc := "(LTrunkDuel$Footprint;)Z" } : Jvm.MethodName)) ∈ gw := gwt 664 (by decide +kernel) rfl
theorem kw_665 : (Jvm.Cond.code ({ cls := "TrunkDuel$State", name := "allowsPass", desc := "(LTrunkDuel$Footprint;)Z" } : Jvm.MethodName) prog_10_method_10_code (4 : Nat) (Option.some Jvm.ClassFile.FieldType.boolean)) ∈ gw := gwt 665 (by decide +kernel) rfl
theorem kw_436 : (Jvm.Cond.methodLink "TrunkDuel$Reader" (120 : Nat) ({ cls := "TrunkDuel$Reader", name := "fail", desc := "(I)Z" } : Jvm.MethodName)) ∈ gw := gwt 436 (by decide +kernel) rfl
theorem kw_438 : (Jvm.Cond.instanceMethod ({ cls := "TrunkDuel$Reader", name := "fail", desc := "(I)Z" } : Jvm.MethodName)) ∈ gw := gwt 438 (by decide +kernel) rfl
theorem kp_7 : (Jvm.Cond.selects "TrunkDuel$Reader" ({ cls := "TrunkDuel$Reader", name := "fail", desc := "(I)Z" } : Jvm.MethodName) ({ cls := "TrunkDuel$Reader", name := "fail", desc := "(I)Z" } : Jvm.MethodName)) ∈ gw := gws 7 (by decide +kernel) rfl
theorem kw_439 : (Jvm.Cond.code ({ cls := "TrunkDuel$Reader", name := "fail", desc := "(I)Z" } : Jvm.MethodName) prog_8_method_21_code (2 : Nat) (Option.some Jvm.ClassFile.FieldType.boolean)) ∈ gw := gwt 439 (by decide +kernel) rfl
theorem kw_681 : (Jvm.Cond.methodLink "TrunkDuel$Reader" (123 : Nat) ({ cls := "TrunkDuel$State", name := "skipTurn", desc := "()I" } : Jvm.MethodName)) ∈ gw := gwt 681 (by decide +kernel) rfl
theorem kw_682 : (Jvm.Cond.instanceMethod ({ cls := "TrunkDuel$State", name := "skipTurn", desc := "()I" } : Jvm.MethodName)) ∈ gw := gwt 682 (by decide +kernel) rfl
theorem kw_683 : (Jvm.Cond.selects "TrunkDuel$State" ({ cls := "TrunkDuel$State", name := "skipTurn", desc := "()I" } : Jvm.MethodName) ({ cls := "TrunkDuel$State", name := "skipTurn", desc := "()I" } : Jvm.MethodName)) ∈ gw := gwt 683 (by decide +kernel) rfl
theorem kw_684 : (Jvm.Cond.code ({ cls := "TrunkDuel$State", name := "skipTurn", desc := "()I" } : Jvm.MethodName) prog_10_method_11_code (1 : Nat) (Option.some Jvm.ClassFile.FieldType.int)) ∈ gw := gwt 684 (by decide +kernel) rfl
theorem kw_457 : (Jvm.Cond.methodLink "TrunkDuel$Reader" (126 : Nat) ({ cls := "TrunkDuel$Reader", name := "endStatement", desc := "()Z" } : Jvm.MethodName)) ∈ gw := gwt 457 (by decide +kernel) rfl
theorem kw_459 : (Jvm.Cond.instanceMethod ({ cls := "TrunkDuel$Reader", name := "endStatement", desc := "()Z" } : Jvm.MethodName)) ∈ gw := gwt 459 (by decide +kernel) rfl
theorem kp_9 : (Jvm.Cond.selects "TrunkDuel$Reader" ({ cls := "TrunkDuel$Reader", name := "endStatement", desc := "()Z" } : Jvm.MethodName) ({ cls := "TrunkDuel$Reader", name := "endStatement", desc := "()Z" } : Jvm.MethodName)) ∈ gw := gws 9 (by decide +kernel) rfl
theorem kw_460 : (Jvm.Cond.code ({ cls := "TrunkDuel$Reader", name := "endStatement", desc := "()Z" } : Jvm.MethodName) prog_8_method_20_code (1 : Nat) (Option.some Jvm.ClassFile.FieldType.boolean)) ∈ gw := gwt 460 (by decide +kernel) rfl
theorem kw_440 : (Jvm.Cond.methodLink "TrunkDuel$Reader" (131 : Nat) ({ cls := "TrunkDuel$Reader", name := "expectNumber", desc := "(II)I" } : Jvm.MethodName)) ∈ gw := gwt 440 (by decide +kernel) rfl
theorem kw_442 : (Jvm.Cond.instanceMethod ({ cls := "TrunkDuel$Reader", name := "expectNumber", desc := "(II)I" } : Jvm.MethodName)) ∈ gw := gwt 442 (by decide +kernel) rfl
theorem kp_8 : (Jvm.Cond.selects "TrunkDuel$Reader" ({ cls := "TrunkDuel$Reader", name := "expectNumber", desc := "(II)I" } : Jvm.MethodName) ({ cls := "TrunkDuel$Reader", name := "expectNumber", desc := "(II)I" } : Jvm.MethodName)) ∈ gw := gws 8 (by decide +kernel) rfl
theorem kw_443 : (Jvm.Cond.code ({ cls := "TrunkDuel$Reader", name := "expectNumber", desc := "(II)I" } : Jvm.MethodName) prog_8_method_19_code (3 : Nat) (Option.some Jvm.ClassFile.FieldType.int)) ∈ gw := gwt 443 (by decide +kernel) rfl
theorem kw_444 : (Jvm.Cond.methodLink "TrunkDuel$Reader" (135 : Nat) ({ cls := "TrunkDuel$State", name := "clear", desc := "(II)V" } : Jvm.MethodName)) ∈ gw := gwt 444 (by decide +kernel) rfl
theorem kw_445 : (Jvm.Cond.instanceMethod ({ cls := "TrunkDuel$State", name := "clear", desc := "(II)V" } : Jvm.MethodName)) ∈ gw := gwt 445 (by decide +kernel) rfl
theorem kw_446 : (Jvm.Cond.selects "TrunkDuel$State" ({ cls := "TrunkDuel$State", name := "clear", desc := "(II)V" } : Jvm.MethodName) ({ cls := "TrunkDuel$State", name := "clear", desc := "(II)V" } : Jvm.MethodName)) ∈ gw := gwt 446 (by decide +kernel) rfl
theorem kw_447 : (Jvm.Cond.code ({ cls := "TrunkDuel$State", name := "clear", desc := "(II)V" } : Jvm.MethodName) prog_10_method_2_code (3 : Nat) (Option.none : Option Jvm.ClassFile.FieldType)) ∈ gw := gwt 447 (by decide +kernel) rfl
theorem kw_132 : (Jvm.Cond.fieldLink "TrunkDuel$Reader" (141 : Nat) "TrunkDuel$State" "trunk" "LTrunkDuel$Trunk;") ∈ gw := gwt 132 (by decide +kernel) rfl
theorem kw_53 : (Jvm.Cond.fieldLink "TrunkDuel$Reader" (144 : Nat) "TrunkDuel$Trunk" "columns" "I") ∈ gw := gwt 53 (by decide +kernel) rfl
theorem kw_57 : (Jvm.Cond.fieldLink "TrunkDuel$Reader" (149 : Nat) "TrunkDuel$Trunk" "rows" "I") ∈ gw := gwt 57 (by decide +kernel) rfl
theorem kw_466 : (Jvm.Cond.methodLink "TrunkDuel$Reader" (152 : Nat) ({ cls := "TrunkDuel$Trunk", name := "cellAt", desc := "(II)I" } : Jvm.MethodName)) ∈ gw := gwt 466 (by decide +kernel) rfl
theorem kw_467 : (Jvm.Cond.instanceMethod ({ cls := "TrunkDuel$Trunk", name := "cellAt", desc := "(II)I" } : Jvm.MethodName)) ∈ gw := gwt 467 (by decide +kernel) rfl
theorem kw_468 : (Jvm.Cond.selects "TrunkDuel$Trunk" ({ cls := "TrunkDuel$Trunk", name := "cellAt", desc := "(II)I" } : Jvm.MethodName) ({ cls := "TrunkDuel$Trunk", name := "cellAt", desc := "(II)I" } : Jvm.MethodName)) ∈ gw := gwt 468 (by decide +kernel) rfl
theorem kw_469 : (Jvm.Cond.code ({ cls := "TrunkDuel$Trunk", name := "cellAt", desc := "(II)I" } : Jvm.MethodName) prog_11_method_6_code (3 : Nat) (Option.some Jvm.ClassFile.FieldType.int)) ∈ gw := gwt 469 (by decide +kernel) rfl
theorem kw_470 : (Jvm.Cond.methodLink "TrunkDuel$Reader" (155 : Nat) ({ cls := "TrunkDuel$Trunk", name := "setCell", desc := "(III)V" } : Jvm.MethodName)) ∈ gw := gwt 470 (by decide +kernel) rfl
theorem kw_471 : (Jvm.Cond.instanceMethod ({ cls := "TrunkDuel$Trunk", name := "setCell", desc := "(III)V" } : Jvm.MethodName)) ∈ gw := gwt 471 (by decide +kernel) rfl
theorem kw_472 : (Jvm.Cond.selects "TrunkDuel$Trunk" ({ cls := "TrunkDuel$Trunk", name := "setCell", desc := "(III)V" } : Jvm.MethodName) ({ cls := "TrunkDuel$Trunk", name := "setCell", desc := "(III)V" } : Jvm.MethodName)) ∈ gw := gwt 472 (by decide +kernel) rfl
theorem kw_473 : (Jvm.Cond.code ({ cls := "TrunkDuel$Trunk", name := "setCell", desc := "(III)V" } : Jvm.MethodName) prog_11_method_7_code (4 : Nat) (Option.none : Option Jvm.ClassFile.FieldType)) ∈ gw := gwt 473 (by decide +kernel) rfl
theorem kw_483 : (Jvm.Cond.methodLink "TrunkDuel$Reader" (159 : Nat) ({ cls := "TrunkDuel$Reader", name := "readEdge", desc := "()Z" } : Jvm.MethodName)) ∈ gw := gwt 483 (by decide +kernel) rfl
theorem kw_485 : (Jvm.Cond.instanceMethod ({ cls := "TrunkDuel$Reader", name := "readEdge", desc := "()Z" } : Jvm.MethodName)) ∈ gw := gwt 485 (by decide +kernel) rfl
theorem kp_12 : (Jvm.Cond.selects "TrunkDuel$Reader" ({ cls := "TrunkDuel$Reader", name := "readEdge", desc := "()Z" } : Jvm.MethodName) ({ cls := "TrunkDuel$Reader", name := "readEdge", desc := "()Z" } : Jvm.MethodName)) ∈ gw := gws 12 (by decide +kernel) rfl
theorem kw_486 : (Jvm.Cond.code ({ cls := "TrunkDuel$Reader", name := "readEdge", desc := "()Z" } : Jvm.MethodName) prog_8_method_17_code (1 : Nat) (Option.some Jvm.ClassFile.FieldType.boolean)) ∈ gw := gwt 486 (by decide +kernel) rfl
theorem kw_493 : (Jvm.Cond.methodLink "TrunkDuel$Reader" (162 : Nat) ({ cls := "TrunkDuel$Trunk", name := "strapAt", desc := "(III)Z" } : Jvm.MethodName)) ∈ gw := gwt 493 (by decide +kernel) rfl
theorem kw_494 : (Jvm.Cond.instanceMethod ({ cls := "TrunkDuel$Trunk", name := "strapAt", desc := "(III)Z" } : Jvm.MethodName)) ∈ gw := gwt 494 (by decide +kernel) rfl
theorem kw_495 : (Jvm.Cond.selects "TrunkDuel$Trunk" ({ cls := "TrunkDuel$Trunk", name := "strapAt", desc := "(III)Z" } : Jvm.MethodName) ({ cls := "TrunkDuel$Trunk", name := "strapAt", desc := "(III)Z" } : Jvm.MethodName)) ∈ gw := gwt 495 (by decide +kernel) rfl
theorem kw_496 : (Jvm.Cond.code ({ cls := "TrunkDuel$Trunk", name := "strapAt", desc := "(III)Z" } : Jvm.MethodName) prog_11_method_8_code (4 : Nat) (Option.some Jvm.ClassFile.FieldType.boolean)) ∈ gw := gwt 496 (by decide +kernel) rfl
theorem kw_497 : (Jvm.Cond.methodLink "TrunkDuel$Reader" (166 : Nat) ({ cls := "TrunkDuel$Trunk", name := "isEdgeBlocked", desc := "(III)Z" } : Jvm.MethodName)) ∈ gw := gwt 497 (by decide +kernel) rfl
theorem kw_498 : (Jvm.Cond.instanceMethod ({ cls := "TrunkDuel$Trunk", name := "isEdgeBlocked", desc := "(III)Z" } : Jvm.MethodName)) ∈ gw := gwt 498 (by decide +kernel) rfl
theorem kw_499 : (Jvm.Cond.selects "TrunkDuel$Trunk" ({ cls := "TrunkDuel$Trunk", name := "isEdgeBlocked", desc := "(III)Z" } : Jvm.MethodName) ({ cls := "TrunkDuel$Trunk", name := "isEdgeBlocked", desc := "(III)Z" } : Jvm.MethodName)) ∈ gw := gwt 499 (by decide +kernel) rfl
theorem kw_500 : (Jvm.Cond.code ({ cls := "TrunkDuel$Trunk", name := "isEdgeBlocked", desc := "(III)Z" } : Jvm.MethodName) prog_11_method_11_code (4 : Nat) (Option.some Jvm.ClassFile.FieldType.boolean)) ∈ gw := gwt 500 (by decide +kernel) rfl
theorem kw_506 : (Jvm.Cond.methodLink "TrunkDuel$Reader" (169 : Nat) ({ cls := "TrunkDuel$Trunk", name := "setStrap", desc := "(III)V" } : Jvm.MethodName)) ∈ gw := gwt 506 (by decide +kernel) rfl
theorem kw_507 : (Jvm.Cond.instanceMethod ({ cls := "TrunkDuel$Trunk", name := "setStrap", desc := "(III)V" } : Jvm.MethodName)) ∈ gw := gwt 507 (by decide +kernel) rfl
theorem kw_508 : (Jvm.Cond.selects "TrunkDuel$Trunk" ({ cls := "TrunkDuel$Trunk", name := "setStrap", desc := "(III)V" } : Jvm.MethodName) ({ cls := "TrunkDuel$Trunk", name := "setStrap", desc := "(III)V" } : Jvm.MethodName)) ∈ gw := gwt 508 (by decide +kernel) rfl
theorem kw_509 : (Jvm.Cond.code ({ cls := "TrunkDuel$Trunk", name := "setStrap", desc := "(III)V" } : Jvm.MethodName) prog_11_method_9_code (4 : Nat) (Option.none : Option Jvm.ClassFile.FieldType)) ∈ gw := gwt 509 (by decide +kernel) rfl
theorem kw_516 : (Jvm.Cond.methodLink "TrunkDuel$Reader" (174 : Nat) ({ cls := "TrunkDuel$Reader", name := "readName", desc := "(I)Z" } : Jvm.MethodName)) ∈ gw := gwt 516 (by decide +kernel) rfl
theorem kw_518 : (Jvm.Cond.instanceMethod ({ cls := "TrunkDuel$Reader", name := "readName", desc := "(I)Z" } : Jvm.MethodName)) ∈ gw := gwt 518 (by decide +kernel) rfl
theorem kp_14 : (Jvm.Cond.selects "TrunkDuel$Reader" ({ cls := "TrunkDuel$Reader", name := "readName", desc := "(I)Z" } : Jvm.MethodName) ({ cls := "TrunkDuel$Reader", name := "readName", desc := "(I)Z" } : Jvm.MethodName)) ∈ gw := gws 14 (by decide +kernel) rfl
theorem kw_519 : (Jvm.Cond.code ({ cls := "TrunkDuel$Reader", name := "readName", desc := "(I)Z" } : Jvm.MethodName) prog_8_method_14_code (3 : Nat) (Option.some Jvm.ClassFile.FieldType.boolean)) ∈ gw := gwt 519 (by decide +kernel) rfl
theorem kw_520 : (Jvm.Cond.methodLink "TrunkDuel$Reader" (177 : Nat) ({ cls := "TrunkDuel$State", name := "playerOf", desc := "(I)LTrunkDuel$Player;" } : Jvm.MethodName)) ∈ gw := gwt 520 (by decide +kernel) rfl
theorem kw_532 : (Jvm.Cond.methodLink "TrunkDuel$Reader" (181 : Nat) ({ cls := "TrunkDuel$Player", name := "setSupply", desc := "(II)V" } : Jvm.MethodName)) ∈ gw := gwt 532 (by decide +kernel) rfl
theorem kw_533 : (Jvm.Cond.instanceMethod ({ cls := "TrunkDuel$Player", name := "setSupply", desc := "(II)V" } : Jvm.MethodName)) ∈ gw := gwt 533 (by decide +kernel) rfl
theorem kw_534 : (Jvm.Cond.selects "TrunkDuel$Player" ({ cls := "TrunkDuel$Player", name := "setSupply", desc := "(II)V" } : Jvm.MethodName) ({ cls := "TrunkDuel$Player", name := "setSupply", desc := "(II)V" } : Jvm.MethodName)) ∈ gw := gwt 534 (by decide +kernel) rfl
theorem kw_535 : (Jvm.Cond.code ({ cls := "TrunkDuel$Player", name := "setSupply", desc := "(II)V" } : Jvm.MethodName) prog_7_method_8_code (3 : Nat) (Option.none : Option Jvm.ClassFile.FieldType)) ∈ gw := gwt 535 (by decide +kernel) rfl
theorem kw_113 : (Jvm.Cond.fieldLink "TrunkDuel$Reader" (186 : Nat) "TrunkDuel$Player" "straps" "I") ∈ gw := gwt 113 (by decide +kernel) rfl
theorem kw_412 : (Jvm.Cond.methodLink "TrunkDuel$Reader" (189 : Nat) ({ cls := "TrunkDuel$Reader", name := "byteAt", desc := "(I)I" } : Jvm.MethodName)) ∈ gw := gwt 412 (by decide +kernel) rfl
theorem kw_414 : (Jvm.Cond.instanceMethod ({ cls := "TrunkDuel$Reader", name := "byteAt", desc := "(I)I" } : Jvm.MethodName)) ∈ gw := gwt 414 (by decide +kernel) rfl
theorem kp_3 : (Jvm.Cond.selects "TrunkDuel$Reader" ({ cls := "TrunkDuel$Reader", name := "byteAt", desc := "(I)I" } : Jvm.MethodName) ({ cls := "TrunkDuel$Reader", name := "byteAt", desc := "(I)I" } : Jvm.MethodName)) ∈ gw := gws 3 (by decide +kernel) rfl
theorem kw_415 : (Jvm.Cond.code ({ cls := "TrunkDuel$Reader", name := "byteAt", desc := "(I)I" } : Jvm.MethodName) prog_8_method_26_code (2 : Nat) (Option.some Jvm.ClassFile.FieldType.int)) ∈ gw := gwt 415 (by decide +kernel) rfl
theorem kw_524 : (Jvm.Cond.methodLink "TrunkDuel$Reader" (193 : Nat) ({ cls := "TrunkDuel$Player", name := "addLetter", desc := "(I)V" } : Jvm.MethodName)) ∈ gw := gwt 524 (by decide +kernel) rfl
theorem kw_525 : (Jvm.Cond.instanceMethod ({ cls := "TrunkDuel$Player", name := "addLetter", desc := "(I)V" } : Jvm.MethodName)) ∈ gw := gwt 525 (by decide +kernel) rfl
theorem kw_526 : (Jvm.Cond.selects "TrunkDuel$Player" ({ cls := "TrunkDuel$Player", name := "addLetter", desc := "(I)V" } : Jvm.MethodName) ({ cls := "TrunkDuel$Player", name := "addLetter", desc := "(I)V" } : Jvm.MethodName)) ∈ gw := gwt 526 (by decide +kernel) rfl
theorem kw_527 : (Jvm.Cond.code ({ cls := "TrunkDuel$Player", name := "addLetter", desc := "(I)V" } : Jvm.MethodName) prog_7_method_4_code (2 : Nat) (Option.none : Option Jvm.ClassFile.FieldType)) ∈ gw := gwt 527 (by decide +kernel) rfl
theorem kw_139 : (Jvm.Cond.fieldLink "TrunkDuel$Reader" (196 : Nat) "TrunkDuel$State" "second" "LTrunkDuel$Player;") ∈ gw := gwt 139 (by decide +kernel) rfl
theorem kw_136 : (Jvm.Cond.fieldLink "TrunkDuel$Reader" (200 : Nat) "TrunkDuel$State" "first" "LTrunkDuel$Player;") ∈ gw := gwt 136 (by decide +kernel) rfl
theorem kw_528 : (Jvm.Cond.methodLink "TrunkDuel$Reader" (203 : Nat) ({ cls := "TrunkDuel$Player", name := "hasNameOf", desc := "(LTrunkDuel$Player;)Z" } : Jvm.MethodName)) ∈ gw := gwt 528 (by decide +kernel) rfl
theorem kw_529 : (Jvm.Cond.instanceMethod ({ cls := "TrunkDuel$Player", name := "hasNameOf", desc := "(LTrunkDuel$Player;)Z" } : Jvm.MethodName)) ∈ gw := gwt 529 (by decide +kernel) rfl
theorem kw_530 : (Jvm.Cond.selects "TrunkDuel$Player" ({ cls := "TrunkDuel$Player", name := "hasNameOf", desc := "(LTrunkDuel$Player;)Z" } : Jvm.MethodName) ({ cls := "TrunkDuel$Player", name := "hasNameOf", desc := "(LTrunkDuel$Player;)Z" } : Jvm.MethodName)) ∈ gw := gwt 530 (by decide +kernel) rfl
theorem kw_531 : (Jvm.Cond.code ({ cls := "TrunkDuel$Player", name := "hasNameOf", desc := "(LTrunkDuel$Player;)Z" } : Jvm.MethodName) prog_7_method_6_code (3 : Nat) (Option.some Jvm.ClassFile.FieldType.boolean)) ∈ gw := gwt 531 (by decide +kernel) rfl
theorem kw_545 : (Jvm.Cond.methodLink "TrunkDuel$Reader" (207 : Nat) ({ cls := "TrunkDuel$Reader", name := "shapeOfToken", desc := "()I" } : Jvm.MethodName)) ∈ gw := gwt 545 (by decide +kernel) rfl
theorem kw_547 : (Jvm.Cond.instanceMethod ({ cls := "TrunkDuel$Reader", name := "shapeOfToken", desc := "()I" } : Jvm.MethodName)) ∈ gw := gwt 547 (by decide +kernel) rfl
theorem kp_16 : (Jvm.Cond.selects "TrunkDuel$Reader" ({ cls := "TrunkDuel$Reader", name := "shapeOfToken", desc := "()I" } : Jvm.MethodName) ({ cls := "TrunkDuel$Reader", name := "shapeOfToken", desc := "()I" } : Jvm.MethodName)) ∈ gw := gws 16 (by decide +kernel) rfl
theorem kw_548 : (Jvm.Cond.code ({ cls := "TrunkDuel$Reader", name := "shapeOfToken", desc := "()I" } : Jvm.MethodName) prog_8_method_18_code (1 : Nat) (Option.some Jvm.ClassFile.FieldType.int)) ∈ gw := gwt 548 (by decide +kernel) rfl
theorem kw_554 : (Jvm.Cond.methodLink "TrunkDuel$Reader" (210 : Nat) ({ cls := "TrunkDuel$Footprint", name := "turn", desc := "(II)V" } : Jvm.MethodName)) ∈ gw := gwt 554 (by decide +kernel) rfl
theorem kw_572 : (Jvm.Cond.methodLink "TrunkDuel$Reader" (213 : Nat) ({ cls := "TrunkDuel$Footprint", name := "moveTo", desc := "(II)V" } : Jvm.MethodName)) ∈ gw := gwt 572 (by decide +kernel) rfl
theorem kw_576 : (Jvm.Cond.methodLink "TrunkDuel$Reader" (216 : Nat) ({ cls := "TrunkDuel$State", name := "allowsPiece", desc := "(LTrunkDuel$Footprint;)Z" } : Jvm.MethodName)) ∈ gw := gwt 576 (by decide +kernel) rfl
theorem kw_577 : (Jvm.Cond.instanceMethod ({ cls := "TrunkDuel$State", name := "allowsPiece", desc := "(LTrunkDuel$Footprint;)Z" } : Jvm.MethodName)) ∈ gw := gwt 577 (by decide +kernel) rfl
theorem kw_578 : (Jvm.Cond.selects "TrunkDuel$State" ({ cls := "TrunkDuel$State", name := "allowsPiece", desc := "(LTrunkDuel$Footprint;)Z" } : Jvm.MethodName) ({ cls := "TrunkDuel$State", name := "allowsPiece", desc := "(LTrunkDuel$Footprint;)Z" } : Jvm.MethodName)) ∈ gw := gwt 578 (by decide +kernel) rfl
theorem kw_579 : (Jvm.Cond.code ({ cls := "TrunkDuel$State", name := "allowsPiece", desc := "(LTrunkDuel$Footprint;)Z" } : Jvm.MethodName) prog_10_method_6_code (2 : Nat) (Option.some Jvm.ClassFile.FieldType.boolean)) ∈ gw := gwt 579 (by decide +kernel) rfl
theorem kw_618 : (Jvm.Cond.methodLink "TrunkDuel$Reader" (219 : Nat) ({ cls := "TrunkDuel$State", name := "putPiece", desc := "(LTrunkDuel$Footprint;)I" } : Jvm.MethodName)) ∈ gw := gwt 618 (by decide +kernel) rfl
theorem kw_619 : (Jvm.Cond.instanceMethod ({ cls := "TrunkDuel$State", name := "putPiece", desc := "(LTrunkDuel$Footprint;)I" } : Jvm.MethodName)) ∈ gw := gwt 619 (by decide +kernel) rfl
theorem kw_620 : (Jvm.Cond.selects "TrunkDuel$State" ({ cls := "TrunkDuel$State", name := "putPiece", desc := "(LTrunkDuel$Footprint;)I" } : Jvm.MethodName) ({ cls := "TrunkDuel$State", name := "putPiece", desc := "(LTrunkDuel$Footprint;)I" } : Jvm.MethodName)) ∈ gw := gwt 620 (by decide +kernel) rfl
theorem kw_621 : (Jvm.Cond.code ({ cls := "TrunkDuel$State", name := "putPiece", desc := "(LTrunkDuel$Footprint;)I" } : Jvm.MethodName) prog_10_method_7_code (5 : Nat) (Option.some Jvm.ClassFile.FieldType.int)) ∈ gw := gwt 621 (by decide +kernel) rfl
theorem kw_646 : (Jvm.Cond.methodLink "TrunkDuel$Reader" (223 : Nat) ({ cls := "TrunkDuel$State", name := "allowsStrap", desc := "(III)Z" } : Jvm.MethodName)) ∈ gw := gwt 646 (by decide +kernel) rfl
theorem kw_647 : (Jvm.Cond.instanceMethod ({ cls := "TrunkDuel$State", name := "allowsStrap", desc := "(III)Z" } : Jvm.MethodName)) ∈ gw := gwt 647 (by decide +kernel) rfl
theorem kw_648 : (Jvm.Cond.selects "TrunkDuel$State" ({ cls := "TrunkDuel$State", name := "allowsStrap", desc := "(III)Z" } : Jvm.MethodName) ({ cls := "TrunkDuel$State", name := "allowsStrap", desc := "(III)Z" } : Jvm.MethodName)) ∈ gw := gwt 648 (by decide +kernel) rfl
theorem kw_649 : (Jvm.Cond.code ({ cls := "TrunkDuel$State", name := "allowsStrap", desc := "(III)Z" } : Jvm.MethodName) prog_10_method_8_code (4 : Nat) (Option.some Jvm.ClassFile.FieldType.boolean)) ∈ gw := gwt 649 (by decide +kernel) rfl
theorem kw_656 : (Jvm.Cond.methodLink "TrunkDuel$Reader" (226 : Nat) ({ cls := "TrunkDuel$State", name := "putStrap", desc := "(III)I" } : Jvm.MethodName)) ∈ gw := gwt 656 (by decide +kernel) rfl
theorem kw_657 : (Jvm.Cond.instanceMethod ({ cls := "TrunkDuel$State", name := "putStrap", desc := "(III)I" } : Jvm.MethodName)) ∈ gw := gwt 657 (by decide +kernel) rfl
theorem kw_658 : (Jvm.Cond.selects "TrunkDuel$State" ({ cls := "TrunkDuel$State", name := "putStrap", desc := "(III)I" } : Jvm.MethodName) ({ cls := "TrunkDuel$State", name := "putStrap", desc := "(III)I" } : Jvm.MethodName)) ∈ gw := gwt 658 (by decide +kernel) rfl
theorem kw_659 : (Jvm.Cond.code ({ cls := "TrunkDuel$State", name := "putStrap", desc := "(III)I" } : Jvm.MethodName) prog_10_method_9_code (5 : Nat) (Option.some Jvm.ClassFile.FieldType.int)) ∈ gw := gwt 659 (by decide +kernel) rfl
theorem kw_489 : (Jvm.Cond.methodLink "TrunkDuel$Reader" (234 : Nat) ({ cls := "TrunkDuel$Trunk", name := "holdsEdge", desc := "(III)Z" } : Jvm.MethodName)) ∈ gw := gwt 489 (by decide +kernel) rfl
theorem kw_490 : (Jvm.Cond.instanceMethod ({ cls := "TrunkDuel$Trunk", name := "holdsEdge", desc := "(III)Z" } : Jvm.MethodName)) ∈ gw := gwt 490 (by decide +kernel) rfl
theorem kw_491 : (Jvm.Cond.selects "TrunkDuel$Trunk" ({ cls := "TrunkDuel$Trunk", name := "holdsEdge", desc := "(III)Z" } : Jvm.MethodName) ({ cls := "TrunkDuel$Trunk", name := "holdsEdge", desc := "(III)Z" } : Jvm.MethodName)) ∈ gw := gwt 491 (by decide +kernel) rfl
theorem kw_492 : (Jvm.Cond.code ({ cls := "TrunkDuel$Trunk", name := "holdsEdge", desc := "(III)Z" } : Jvm.MethodName) prog_11_method_5_code (4 : Nat) (Option.some Jvm.ClassFile.FieldType.boolean)) ∈ gw := gwt 492 (by decide +kernel) rfl
theorem kw_408 : (Jvm.Cond.methodLink "TrunkDuel$Reader" (247 : Nat) ({ cls := "TrunkDuel$Reader", name := "endOfRun", desc := "(II)I" } : Jvm.MethodName)) ∈ gw := gwt 408 (by decide +kernel) rfl
theorem kw_410 : (Jvm.Cond.instanceMethod ({ cls := "TrunkDuel$Reader", name := "endOfRun", desc := "(II)I" } : Jvm.MethodName)) ∈ gw := gwt 410 (by decide +kernel) rfl
theorem kp_2 : (Jvm.Cond.selects "TrunkDuel$Reader" ({ cls := "TrunkDuel$Reader", name := "endOfRun", desc := "(II)I" } : Jvm.MethodName) ({ cls := "TrunkDuel$Reader", name := "endOfRun", desc := "(II)I" } : Jvm.MethodName)) ∈ gw := gws 2 (by decide +kernel) rfl
theorem kw_411 : (Jvm.Cond.code ({ cls := "TrunkDuel$Reader", name := "endOfRun", desc := "(II)I" } : Jvm.MethodName) prog_8_method_23_code (4 : Nat) (Option.some Jvm.ClassFile.FieldType.int)) ∈ gw := gwt 411 (by decide +kernel) rfl
theorem kw_416 : (Jvm.Cond.methodLink "TrunkDuel$Reader" (250 : Nat) ({ cls := "TrunkDuel$Reader", name := "valueOfToken", desc := "()I" } : Jvm.MethodName)) ∈ gw := gwt 416 (by decide +kernel) rfl
theorem kw_418 : (Jvm.Cond.instanceMethod ({ cls := "TrunkDuel$Reader", name := "valueOfToken", desc := "()I" } : Jvm.MethodName)) ∈ gw := gwt 418 (by decide +kernel) rfl
theorem kp_4 : (Jvm.Cond.selects "TrunkDuel$Reader" ({ cls := "TrunkDuel$Reader", name := "valueOfToken", desc := "()I" } : Jvm.MethodName) ({ cls := "TrunkDuel$Reader", name := "valueOfToken", desc := "()I" } : Jvm.MethodName)) ∈ gw := gws 4 (by decide +kernel) rfl
theorem kw_419 : (Jvm.Cond.code ({ cls := "TrunkDuel$Reader", name := "valueOfToken", desc := "()I" } : Jvm.MethodName) prog_8_method_24_code (3 : Nat) (Option.some Jvm.ClassFile.FieldType.int)) ∈ gw := gwt 419 (by decide +kernel) rfl
theorem kw_420 : (Jvm.Cond.methodLink "TrunkDuel$Reader" (253 : Nat) ({ cls := "java/lang/Math", name := "min", desc := "(II)I" } : Jvm.MethodName)) ∈ gw := gwt 420 (by decide +kernel) rfl
theorem kw_325 : (Jvm.Cond.methodLink "TrunkDuel$Regions" (3 : Nat) ({ cls := "java/lang/Object", name := "<init>", desc := "()V" } : Jvm.MethodName)) ∈ gw := gwt 325 (by decide +kernel) rfl
theorem kw_326 : (Jvm.Cond.fieldLink "TrunkDuel$Regions" (9 : Nat) "TrunkDuel$Regions" "count" "I") ∈ gw := gwt 326 (by decide +kernel) rfl
theorem kw_328 : (Jvm.Cond.fieldLink "TrunkDuel$Regions" (15 : Nat) "TrunkDuel$Regions" "labels" "[I") ∈ gw := gwt 328 (by decide +kernel) rfl
theorem kw_329 : (Jvm.Cond.fieldLink "TrunkDuel$Regions" (19 : Nat) "TrunkDuel$Regions" "sizes" "[I") ∈ gw := gwt 329 (by decide +kernel) rfl
theorem kw_330 : (Jvm.Cond.fieldLink "TrunkDuel$Regions" (22 : Nat) "TrunkDuel$Regions" "queue" "[I") ∈ gw := gwt 330 (by decide +kernel) rfl
theorem kw_331 : (Jvm.Cond.fieldLink "TrunkDuel$Regions" (25 : Nat) "TrunkDuel$Regions" "queued" "I") ∈ gw := gwt 331 (by decide +kernel) rfl
theorem kw_56 : (Jvm.Cond.fieldLink "TrunkDuel$Regions" (28 : Nat) "TrunkDuel$Trunk" "rows" "I") ∈ gw := gwt 56 (by decide +kernel) rfl
theorem kw_52 : (Jvm.Cond.fieldLink "TrunkDuel$Regions" (33 : Nat) "TrunkDuel$Trunk" "columns" "I") ∈ gw := gwt 52 (by decide +kernel) rfl
theorem kw_905 : (Jvm.Cond.methodLink "TrunkDuel$Regions" (36 : Nat) ({ cls := "TrunkDuel$Regions", name := "spreadFrom", desc := "(IILTrunkDuel$Trunk;)V" } : Jvm.MethodName)) ∈ gw := gwt 905 (by decide +kernel) rfl
theorem kw_907 : (Jvm.Cond.instanceMethod ({ cls := "TrunkDuel$Regions", name := "spreadFrom", desc := "(IILTrunkDuel$Trunk;)V" } : Jvm.MethodName)) ∈ gw := gwt 907 (by decide +kernel) rfl
theorem kp_24 : (Jvm.Cond.selects "TrunkDuel$Regions" ({ cls := "TrunkDuel$Regions", name := "spreadFrom", desc := "(IILTrunkDuel$Trunk;)V" } : Jvm.MethodName) ({ cls := "TrunkDuel$Regions", name := "spreadFrom", desc := "(IILTrunkDuel$Trunk;)V" } : Jvm.MethodName)) ∈ gw := gws 24 (by decide +kernel) rfl
theorem kw_11 : (Jvm.Cond.initialized "TrunkDuel$Regions") ∈ gw := gwt 11 (by decide +kernel) rfl
theorem kw_908 : (Jvm.Cond.code ({ cls := "TrunkDuel$Regions", name := "spreadFrom", desc := "(IILTrunkDuel$Trunk;)V" } : Jvm.MethodName) prog_9_method_5_code (7 : Nat) (Option.none : Option Jvm.ClassFile.FieldType)) ∈ gw := gwt 908 (by decide +kernel) rfl
theorem kw_1363 : (Jvm.Cond.methodLink "TrunkDuel$Regions" (40 : Nat) ({ cls := "TrunkDuel$Regions", name := "sizeOf", desc := "(I)I" } : Jvm.MethodName)) ∈ gw := gwt 1363 (by decide +kernel) rfl
theorem kw_920 : (Jvm.Cond.instanceMethod ({ cls := "TrunkDuel$Regions", name := "sizeOf", desc := "(I)I" } : Jvm.MethodName)) ∈ gw := gwt 920 (by decide +kernel) rfl
theorem kw_921 : (Jvm.Cond.selects "TrunkDuel$Regions" ({ cls := "TrunkDuel$Regions", name := "sizeOf", desc := "(I)I" } : Jvm.MethodName) ({ cls := "TrunkDuel$Regions", name := "sizeOf", desc := "(I)I" } : Jvm.MethodName)) ∈ gw := gwt 921 (by decide +kernel) rfl
theorem kw_922 : (Jvm.Cond.code ({ cls := "TrunkDuel$Regions", name := "sizeOf", desc := "(I)I" } : Jvm.MethodName) prog_9_method_3_code (2 : Nat) (Option.some Jvm.ClassFile.FieldType.int)) ∈ gw := gwt 922 (by decide +kernel) rfl
theorem kw_909 : (Jvm.Cond.methodLink "TrunkDuel$Regions" (44 : Nat) ({ cls := "TrunkDuel$Regions", name := "reach", desc := "(IILTrunkDuel$Trunk;)V" } : Jvm.MethodName)) ∈ gw := gwt 909 (by decide +kernel) rfl
theorem kw_911 : (Jvm.Cond.instanceMethod ({ cls := "TrunkDuel$Regions", name := "reach", desc := "(IILTrunkDuel$Trunk;)V" } : Jvm.MethodName)) ∈ gw := gwt 911 (by decide +kernel) rfl
theorem kp_25 : (Jvm.Cond.selects "TrunkDuel$Regions" ({ cls := "TrunkDuel$Regions", name := "reach", desc := "(IILTrunkDuel$Trunk;)V" } : Jvm.MethodName) ({ cls := "TrunkDuel$Regions", name := "reach", desc := "(IILTrunkDuel$Trunk;)V" } : Jvm.MethodName)) ∈ gw := gws 25 (by decide +kernel) rfl
theorem kw_912 : (Jvm.Cond.code ({ cls := "TrunkDuel$Regions", name := "reach", desc := "(IILTrunkDuel$Trunk;)V" } : Jvm.MethodName) prog_9_method_6_code (5 : Nat) (Option.none : Option Jvm.ClassFile.FieldType)) ∈ gw := gwt 912 (by decide +kernel) rfl
theorem kw_914 : (Jvm.Cond.methodLink "TrunkDuel$Regions" (47 : Nat) ({ cls := "TrunkDuel$Trunk", name := "strapAt", desc := "(III)Z" } : Jvm.MethodName)) ∈ gw := gwt 914 (by decide +kernel) rfl
theorem kw_913 : (Jvm.Cond.methodLink "TrunkDuel$Regions" (51 : Nat) ({ cls := "TrunkDuel$Trunk", name := "cellAt", desc := "(II)I" } : Jvm.MethodName)) ∈ gw := gwt 913 (by decide +kernel) rfl
theorem kw_44 : (Jvm.Cond.methodLink "TrunkDuel$State" (3 : Nat) ({ cls := "java/lang/Object", name := "<init>", desc := "()V" } : Jvm.MethodName)) ∈ gw := gwt 44 (by decide +kernel) rfl
theorem kw_45 : (Jvm.Cond.classLink "TrunkDuel$State" (9 : Nat) "TrunkDuel$Trunk") ∈ gw := gwt 45 (by decide +kernel) rfl
theorem kw_46 : (Jvm.Cond.instantiable "TrunkDuel$Trunk" (4 : Nat)) ∈ gw := gwt 46 (by decide +kernel) rfl
theorem kw_48 : (Jvm.Cond.instanceMethod ({ cls := "TrunkDuel$Trunk", name := "<init>", desc := "()V" } : Jvm.MethodName)) ∈ gw := gwt 48 (by decide +kernel) rfl
theorem kw_49 : (Jvm.Cond.code ({ cls := "TrunkDuel$Trunk", name := "<init>", desc := "()V" } : Jvm.MethodName) prog_11_method_1_code (1 : Nat) (Option.none : Option Jvm.ClassFile.FieldType)) ∈ gw := gwt 49 (by decide +kernel) rfl
theorem kw_129 : (Jvm.Cond.fieldLink "TrunkDuel$State" (12 : Nat) "TrunkDuel$State" "trunk" "LTrunkDuel$Trunk;") ∈ gw := gwt 129 (by decide +kernel) rfl
theorem kw_72 : (Jvm.Cond.classLink "TrunkDuel$State" (18 : Nat) "TrunkDuel$Pieces") ∈ gw := gwt 72 (by decide +kernel) rfl
theorem kw_73 : (Jvm.Cond.instantiable "TrunkDuel$Pieces" (7 : Nat)) ∈ gw := gwt 73 (by decide +kernel) rfl
theorem kw_75 : (Jvm.Cond.instanceMethod ({ cls := "TrunkDuel$Pieces", name := "<init>", desc := "()V" } : Jvm.MethodName)) ∈ gw := gwt 75 (by decide +kernel) rfl
theorem kw_76 : (Jvm.Cond.code ({ cls := "TrunkDuel$Pieces", name := "<init>", desc := "()V" } : Jvm.MethodName) prog_6_method_1_code (1 : Nat) (Option.none : Option Jvm.ClassFile.FieldType)) ∈ gw := gwt 76 (by decide +kernel) rfl
theorem kw_133 : (Jvm.Cond.fieldLink "TrunkDuel$State" (21 : Nat) "TrunkDuel$State" "pieces" "LTrunkDuel$Pieces;") ∈ gw := gwt 133 (by decide +kernel) rfl
theorem kw_102 : (Jvm.Cond.classLink "TrunkDuel$State" (25 : Nat) "TrunkDuel$Player") ∈ gw := gwt 102 (by decide +kernel) rfl
theorem kw_103 : (Jvm.Cond.instantiable "TrunkDuel$Player" (5 : Nat)) ∈ gw := gwt 103 (by decide +kernel) rfl
theorem kw_105 : (Jvm.Cond.instanceMethod ({ cls := "TrunkDuel$Player", name := "<init>", desc := "()V" } : Jvm.MethodName)) ∈ gw := gwt 105 (by decide +kernel) rfl
theorem kw_106 : (Jvm.Cond.code ({ cls := "TrunkDuel$Player", name := "<init>", desc := "()V" } : Jvm.MethodName) prog_7_method_1_code (1 : Nat) (Option.none : Option Jvm.ClassFile.FieldType)) ∈ gw := gwt 106 (by decide +kernel) rfl
theorem kw_135 : (Jvm.Cond.fieldLink "TrunkDuel$State" (28 : Nat) "TrunkDuel$State" "first" "LTrunkDuel$Player;") ∈ gw := gwt 135 (by decide +kernel) rfl
theorem kw_138 : (Jvm.Cond.fieldLink "TrunkDuel$State" (32 : Nat) "TrunkDuel$State" "second" "LTrunkDuel$Player;") ∈ gw := gwt 138 (by decide +kernel) rfl
theorem kw_141 : (Jvm.Cond.fieldLink "TrunkDuel$State" (35 : Nat) "TrunkDuel$State" "mover" "I") ∈ gw := gwt 141 (by decide +kernel) rfl
theorem kw_144 : (Jvm.Cond.fieldLink "TrunkDuel$State" (39 : Nat) "TrunkDuel$State" "passes" "I") ∈ gw := gwt 144 (by decide +kernel) rfl
theorem kw_448 : (Jvm.Cond.methodLink "TrunkDuel$State" (42 : Nat) ({ cls := "TrunkDuel$Trunk", name := "clear", desc := "(II)V" } : Jvm.MethodName)) ∈ gw := gwt 448 (by decide +kernel) rfl
theorem kw_449 : (Jvm.Cond.instanceMethod ({ cls := "TrunkDuel$Trunk", name := "clear", desc := "(II)V" } : Jvm.MethodName)) ∈ gw := gwt 449 (by decide +kernel) rfl
theorem kw_450 : (Jvm.Cond.selects "TrunkDuel$Trunk" ({ cls := "TrunkDuel$Trunk", name := "clear", desc := "(II)V" } : Jvm.MethodName) ({ cls := "TrunkDuel$Trunk", name := "clear", desc := "(II)V" } : Jvm.MethodName)) ∈ gw := gwt 450 (by decide +kernel) rfl
theorem kw_451 : (Jvm.Cond.code ({ cls := "TrunkDuel$Trunk", name := "clear", desc := "(II)V" } : Jvm.MethodName) prog_11_method_2_code (4 : Nat) (Option.none : Option Jvm.ClassFile.FieldType)) ∈ gw := gwt 451 (by decide +kernel) rfl
theorem kw_79 : (Jvm.Cond.fieldLink "TrunkDuel$State" (46 : Nat) "TrunkDuel$Pieces" "count" "I") ∈ gw := gwt 79 (by decide +kernel) rfl
theorem kw_453 : (Jvm.Cond.methodLink "TrunkDuel$State" (49 : Nat) ({ cls := "TrunkDuel$Player", name := "clear", desc := "()V" } : Jvm.MethodName)) ∈ gw := gwt 453 (by decide +kernel) rfl
theorem kw_454 : (Jvm.Cond.instanceMethod ({ cls := "TrunkDuel$Player", name := "clear", desc := "()V" } : Jvm.MethodName)) ∈ gw := gwt 454 (by decide +kernel) rfl
theorem kw_455 : (Jvm.Cond.selects "TrunkDuel$Player" ({ cls := "TrunkDuel$Player", name := "clear", desc := "()V" } : Jvm.MethodName) ({ cls := "TrunkDuel$Player", name := "clear", desc := "()V" } : Jvm.MethodName)) ∈ gw := gwt 455 (by decide +kernel) rfl
theorem kw_456 : (Jvm.Cond.code ({ cls := "TrunkDuel$Player", name := "clear", desc := "()V" } : Jvm.MethodName) prog_7_method_2_code (2 : Nat) (Option.none : Option Jvm.ClassFile.FieldType)) ∈ gw := gwt 456 (by decide +kernel) rfl
theorem kw_689 : (Jvm.Cond.methodLink "TrunkDuel$State" (51 : Nat) ({ cls := "TrunkDuel$Trunk", name := "copyFrom", desc := "(LTrunkDuel$Trunk;)V" } : Jvm.MethodName)) ∈ gw := gwt 689 (by decide +kernel) rfl
theorem kw_690 : (Jvm.Cond.instanceMethod ({ cls := "TrunkDuel$Trunk", name := "copyFrom", desc := "(LTrunkDuel$Trunk;)V" } : Jvm.MethodName)) ∈ gw := gwt 690 (by decide +kernel) rfl
theorem kw_691 : (Jvm.Cond.selects "TrunkDuel$Trunk" ({ cls := "TrunkDuel$Trunk", name := "copyFrom", desc := "(LTrunkDuel$Trunk;)V" } : Jvm.MethodName) ({ cls := "TrunkDuel$Trunk", name := "copyFrom", desc := "(LTrunkDuel$Trunk;)V" } : Jvm.MethodName)) ∈ gw := gwt 691 (by decide +kernel) rfl
theorem kw_692 : (Jvm.Cond.code ({ cls := "TrunkDuel$Trunk", name := "copyFrom", desc := "(LTrunkDuel$Trunk;)V" } : Jvm.MethodName) prog_11_method_3_code (2 : Nat) (Option.none : Option Jvm.ClassFile.FieldType)) ∈ gw := gwt 692 (by decide +kernel) rfl
theorem kw_696 : (Jvm.Cond.methodLink "TrunkDuel$State" (55 : Nat) ({ cls := "TrunkDuel$Pieces", name := "copyFrom", desc := "(LTrunkDuel$Pieces;)V" } : Jvm.MethodName)) ∈ gw := gwt 696 (by decide +kernel) rfl
theorem kw_697 : (Jvm.Cond.instanceMethod ({ cls := "TrunkDuel$Pieces", name := "copyFrom", desc := "(LTrunkDuel$Pieces;)V" } : Jvm.MethodName)) ∈ gw := gwt 697 (by decide +kernel) rfl
theorem kw_698 : (Jvm.Cond.selects "TrunkDuel$Pieces" ({ cls := "TrunkDuel$Pieces", name := "copyFrom", desc := "(LTrunkDuel$Pieces;)V" } : Jvm.MethodName) ({ cls := "TrunkDuel$Pieces", name := "copyFrom", desc := "(LTrunkDuel$Pieces;)V" } : Jvm.MethodName)) ∈ gw := gwt 698 (by decide +kernel) rfl
theorem kw_699 : (Jvm.Cond.code ({ cls := "TrunkDuel$Pieces", name := "copyFrom", desc := "(LTrunkDuel$Pieces;)V" } : Jvm.MethodName) prog_6_method_2_code (2 : Nat) (Option.none : Option Jvm.ClassFile.FieldType)) ∈ gw := gwt 699 (by decide +kernel) rfl
theorem kw_701 : (Jvm.Cond.methodLink "TrunkDuel$State" (58 : Nat) ({ cls := "TrunkDuel$Player", name := "copyFrom", desc := "(LTrunkDuel$Player;)V" } : Jvm.MethodName)) ∈ gw := gwt 701 (by decide +kernel) rfl
theorem kw_702 : (Jvm.Cond.instanceMethod ({ cls := "TrunkDuel$Player", name := "copyFrom", desc := "(LTrunkDuel$Player;)V" } : Jvm.MethodName)) ∈ gw := gwt 702 (by decide +kernel) rfl
theorem kw_703 : (Jvm.Cond.selects "TrunkDuel$Player" ({ cls := "TrunkDuel$Player", name := "copyFrom", desc := "(LTrunkDuel$Player;)V" } : Jvm.MethodName) ({ cls := "TrunkDuel$Player", name := "copyFrom", desc := "(LTrunkDuel$Player;)V" } : Jvm.MethodName)) ∈ gw := gwt 703 (by decide +kernel) rfl
theorem kw_704 : (Jvm.Cond.code ({ cls := "TrunkDuel$Player", name := "copyFrom", desc := "(LTrunkDuel$Player;)V" } : Jvm.MethodName) prog_7_method_3_code (2 : Nat) (Option.none : Option Jvm.ClassFile.FieldType)) ∈ gw := gwt 704 (by decide +kernel) rfl
theorem kw_580 : (Jvm.Cond.methodLink "TrunkDuel$State" (61 : Nat) ({ cls := "TrunkDuel$State", name := "isFinished", desc := "()Z" } : Jvm.MethodName)) ∈ gw := gwt 580 (by decide +kernel) rfl
theorem kw_584 : (Jvm.Cond.methodLink "TrunkDuel$State" (65 : Nat) ({ cls := "TrunkDuel$State", name := "playerOf", desc := "(I)LTrunkDuel$Player;" } : Jvm.MethodName)) ∈ gw := gwt 584 (by decide +kernel) rfl
theorem kw_167 : (Jvm.Cond.fieldLink "TrunkDuel$State" (69 : Nat) "TrunkDuel$Footprint" "shape" "I") ∈ gw := gwt 167 (by decide +kernel) rfl
theorem kw_585 : (Jvm.Cond.methodLink "TrunkDuel$State" (74 : Nat) ({ cls := "TrunkDuel$Player", name := "supplyOf", desc := "(I)I" } : Jvm.MethodName)) ∈ gw := gwt 585 (by decide +kernel) rfl
theorem kw_589 : (Jvm.Cond.methodLink "TrunkDuel$State" (78 : Nat) ({ cls := "TrunkDuel$Trunk", name := "misfitOf", desc := "(LTrunkDuel$Footprint;)I" } : Jvm.MethodName)) ∈ gw := gwt 589 (by decide +kernel) rfl
theorem kw_590 : (Jvm.Cond.instanceMethod ({ cls := "TrunkDuel$Trunk", name := "misfitOf", desc := "(LTrunkDuel$Footprint;)I" } : Jvm.MethodName)) ∈ gw := gwt 590 (by decide +kernel) rfl
theorem kw_591 : (Jvm.Cond.selects "TrunkDuel$Trunk" ({ cls := "TrunkDuel$Trunk", name := "misfitOf", desc := "(LTrunkDuel$Footprint;)I" } : Jvm.MethodName) ({ cls := "TrunkDuel$Trunk", name := "misfitOf", desc := "(LTrunkDuel$Footprint;)I" } : Jvm.MethodName)) ∈ gw := gwt 591 (by decide +kernel) rfl
theorem kw_592 : (Jvm.Cond.code ({ cls := "TrunkDuel$Trunk", name := "misfitOf", desc := "(LTrunkDuel$Footprint;)I" } : Jvm.MethodName) prog_11_method_17_code (6 : Nat) (Option.some Jvm.ClassFile.FieldType.int)) ∈ gw := gwt 592 (by decide +kernel) rfl
theorem kw_622 : (Jvm.Cond.methodLink "TrunkDuel$State" (82 : Nat) ({ cls := "TrunkDuel$Trunk", name := "pointsOf", desc := "(LTrunkDuel$Footprint;)I" } : Jvm.MethodName)) ∈ gw := gwt 622 (by decide +kernel) rfl
theorem kw_178 : (Jvm.Cond.fieldLink "TrunkDuel$State" (85 : Nat) "TrunkDuel$Footprint" "size" "I") ∈ gw := gwt 178 (by decide +kernel) rfl
theorem kw_630 : (Jvm.Cond.methodLink "TrunkDuel$State" (88 : Nat) ({ cls := "TrunkDuel$Footprint", name := "columnOf", desc := "(I)I" } : Jvm.MethodName)) ∈ gw := gwt 630 (by decide +kernel) rfl
theorem kw_594 : (Jvm.Cond.instanceMethod ({ cls := "TrunkDuel$Footprint", name := "columnOf", desc := "(I)I" } : Jvm.MethodName)) ∈ gw := gwt 594 (by decide +kernel) rfl
theorem kw_595 : (Jvm.Cond.selects "TrunkDuel$Footprint" ({ cls := "TrunkDuel$Footprint", name := "columnOf", desc := "(I)I" } : Jvm.MethodName) ({ cls := "TrunkDuel$Footprint", name := "columnOf", desc := "(I)I" } : Jvm.MethodName)) ∈ gw := gwt 595 (by decide +kernel) rfl
theorem kw_596 : (Jvm.Cond.code ({ cls := "TrunkDuel$Footprint", name := "columnOf", desc := "(I)I" } : Jvm.MethodName) prog_4_method_6_code (2 : Nat) (Option.some Jvm.ClassFile.FieldType.int)) ∈ gw := gwt 596 (by decide +kernel) rfl
theorem kw_631 : (Jvm.Cond.methodLink "TrunkDuel$State" (91 : Nat) ({ cls := "TrunkDuel$Footprint", name := "rowOf", desc := "(I)I" } : Jvm.MethodName)) ∈ gw := gwt 631 (by decide +kernel) rfl
theorem kw_598 : (Jvm.Cond.instanceMethod ({ cls := "TrunkDuel$Footprint", name := "rowOf", desc := "(I)I" } : Jvm.MethodName)) ∈ gw := gwt 598 (by decide +kernel) rfl
theorem kw_599 : (Jvm.Cond.selects "TrunkDuel$Footprint" ({ cls := "TrunkDuel$Footprint", name := "rowOf", desc := "(I)I" } : Jvm.MethodName) ({ cls := "TrunkDuel$Footprint", name := "rowOf", desc := "(I)I" } : Jvm.MethodName)) ∈ gw := gwt 599 (by decide +kernel) rfl
theorem kw_600 : (Jvm.Cond.code ({ cls := "TrunkDuel$Footprint", name := "rowOf", desc := "(I)I" } : Jvm.MethodName) prog_4_method_7_code (2 : Nat) (Option.some Jvm.ClassFile.FieldType.int)) ∈ gw := gwt 600 (by decide +kernel) rfl
theorem kw_632 : (Jvm.Cond.methodLink "TrunkDuel$State" (94 : Nat) ({ cls := "TrunkDuel$Trunk", name := "setCell", desc := "(III)V" } : Jvm.MethodName)) ∈ gw := gwt 632 (by decide +kernel) rfl
theorem kw_633 : (Jvm.Cond.methodLink "TrunkDuel$State" (98 : Nat) ({ cls := "TrunkDuel$Pieces", name := "add", desc := "(LTrunkDuel$Footprint;II)V" } : Jvm.MethodName)) ∈ gw := gwt 633 (by decide +kernel) rfl
theorem kw_634 : (Jvm.Cond.instanceMethod ({ cls := "TrunkDuel$Pieces", name := "add", desc := "(LTrunkDuel$Footprint;II)V" } : Jvm.MethodName)) ∈ gw := gwt 634 (by decide +kernel) rfl
theorem kw_635 : (Jvm.Cond.selects "TrunkDuel$Pieces" ({ cls := "TrunkDuel$Pieces", name := "add", desc := "(LTrunkDuel$Footprint;II)V" } : Jvm.MethodName) ({ cls := "TrunkDuel$Pieces", name := "add", desc := "(LTrunkDuel$Footprint;II)V" } : Jvm.MethodName)) ∈ gw := gwt 635 (by decide +kernel) rfl
theorem kw_636 : (Jvm.Cond.code ({ cls := "TrunkDuel$Pieces", name := "add", desc := "(LTrunkDuel$Footprint;II)V" } : Jvm.MethodName) prog_6_method_3_code (4 : Nat) (Option.none : Option Jvm.ClassFile.FieldType)) ∈ gw := gwt 636 (by decide +kernel) rfl
theorem kw_637 : (Jvm.Cond.methodLink "TrunkDuel$State" (102 : Nat) ({ cls := "TrunkDuel$Player", name := "setSupply", desc := "(II)V" } : Jvm.MethodName)) ∈ gw := gwt 637 (by decide +kernel) rfl
theorem kw_109 : (Jvm.Cond.fieldLink "TrunkDuel$State" (105 : Nat) "TrunkDuel$Player" "score" "I") ∈ gw := gwt 109 (by decide +kernel) rfl
theorem kw_638 : (Jvm.Cond.methodLink "TrunkDuel$State" (108 : Nat) ({ cls := "TrunkDuel$State", name := "endTurn", desc := "(I)V" } : Jvm.MethodName)) ∈ gw := gwt 638 (by decide +kernel) rfl
theorem kw_640 : (Jvm.Cond.instanceMethod ({ cls := "TrunkDuel$State", name := "endTurn", desc := "(I)V" } : Jvm.MethodName)) ∈ gw := gwt 640 (by decide +kernel) rfl
theorem kp_18 : (Jvm.Cond.selects "TrunkDuel$State" ({ cls := "TrunkDuel$State", name := "endTurn", desc := "(I)V" } : Jvm.MethodName) ({ cls := "TrunkDuel$State", name := "endTurn", desc := "(I)V" } : Jvm.MethodName)) ∈ gw := gws 18 (by decide +kernel) rfl
theorem kw_641 : (Jvm.Cond.code ({ cls := "TrunkDuel$State", name := "endTurn", desc := "(I)V" } : Jvm.MethodName) prog_10_method_13_code (2 : Nat) (Option.none : Option Jvm.ClassFile.FieldType)) ∈ gw := gwt 641 (by decide +kernel) rfl
theorem kw_112 : (Jvm.Cond.fieldLink "TrunkDuel$State" (112 : Nat) "TrunkDuel$Player" "straps" "I") ∈ gw := gwt 112 (by decide +kernel) rfl
theorem kw_650 : (Jvm.Cond.methodLink "TrunkDuel$State" (115 : Nat) ({ cls := "TrunkDuel$Trunk", name := "strapAt", desc := "(III)Z" } : Jvm.MethodName)) ∈ gw := gwt 650 (by decide +kernel) rfl
theorem kw_651 : (Jvm.Cond.methodLink "TrunkDuel$State" (119 : Nat) ({ cls := "TrunkDuel$Trunk", name := "isEdgeBlocked", desc := "(III)Z" } : Jvm.MethodName)) ∈ gw := gwt 651 (by decide +kernel) rfl
theorem kw_652 : (Jvm.Cond.methodLink "TrunkDuel$State" (122 : Nat) ({ cls := "TrunkDuel$Trunk", name := "isEdgeCovered", desc := "(III)Z" } : Jvm.MethodName)) ∈ gw := gwt 652 (by decide +kernel) rfl
theorem kw_653 : (Jvm.Cond.instanceMethod ({ cls := "TrunkDuel$Trunk", name := "isEdgeCovered", desc := "(III)Z" } : Jvm.MethodName)) ∈ gw := gwt 653 (by decide +kernel) rfl
theorem kw_654 : (Jvm.Cond.selects "TrunkDuel$Trunk" ({ cls := "TrunkDuel$Trunk", name := "isEdgeCovered", desc := "(III)Z" } : Jvm.MethodName) ({ cls := "TrunkDuel$Trunk", name := "isEdgeCovered", desc := "(III)Z" } : Jvm.MethodName)) ∈ gw := gwt 654 (by decide +kernel) rfl
theorem kw_655 : (Jvm.Cond.code ({ cls := "TrunkDuel$Trunk", name := "isEdgeCovered", desc := "(III)Z" } : Jvm.MethodName) prog_11_method_12_code (5 : Nat) (Option.some Jvm.ClassFile.FieldType.boolean)) ∈ gw := gwt 655 (by decide +kernel) rfl
theorem kw_660 : (Jvm.Cond.methodLink "TrunkDuel$State" (125 : Nat) ({ cls := "TrunkDuel$Trunk", name := "setStrap", desc := "(III)V" } : Jvm.MethodName)) ∈ gw := gwt 660 (by decide +kernel) rfl
theorem kw_666 : (Jvm.Cond.methodLink "TrunkDuel$State" (128 : Nat) ({ cls := "TrunkDuel$Footprint", name := "startAll", desc := "(I)V" } : Jvm.MethodName)) ∈ gw := gwt 666 (by decide +kernel) rfl
theorem kw_672 : (Jvm.Cond.methodLink "TrunkDuel$State" (131 : Nat) ({ cls := "TrunkDuel$Trunk", name := "findNext", desc := "(LTrunkDuel$Footprint;)Z" } : Jvm.MethodName)) ∈ gw := gwt 672 (by decide +kernel) rfl
theorem kw_1331 : (Jvm.Cond.methodLink "TrunkDuel$State" (135 : Nat) ({ cls := "TrunkDuel$Trunk", name := "countFitting", desc := "(ILTrunkDuel$Footprint;)I" } : Jvm.MethodName)) ∈ gw := gwt 1331 (by decide +kernel) rfl
theorem kw_1332 : (Jvm.Cond.instanceMethod ({ cls := "TrunkDuel$Trunk", name := "countFitting", desc := "(ILTrunkDuel$Footprint;)I" } : Jvm.MethodName)) ∈ gw := gwt 1332 (by decide +kernel) rfl
theorem kw_1333 : (Jvm.Cond.selects "TrunkDuel$Trunk" ({ cls := "TrunkDuel$Trunk", name := "countFitting", desc := "(ILTrunkDuel$Footprint;)I" } : Jvm.MethodName) ({ cls := "TrunkDuel$Trunk", name := "countFitting", desc := "(ILTrunkDuel$Footprint;)I" } : Jvm.MethodName)) ∈ gw := gwt 1333 (by decide +kernel) rfl
theorem kw_1334 : (Jvm.Cond.code ({ cls := "TrunkDuel$Trunk", name := "countFitting", desc := "(ILTrunkDuel$Footprint;)I" } : Jvm.MethodName) prog_11_method_20_code (4 : Nat) (Option.some Jvm.ClassFile.FieldType.int)) ∈ gw := gwt 1334 (by decide +kernel) rfl
theorem kw_50 : (Jvm.Cond.methodLink "TrunkDuel$Trunk" (3 : Nat) ({ cls := "java/lang/Object", name := "<init>", desc := "()V" } : Jvm.MethodName)) ∈ gw := gwt 50 (by decide +kernel) rfl
theorem kw_51 : (Jvm.Cond.fieldLink "TrunkDuel$Trunk" (9 : Nat) "TrunkDuel$Trunk" "columns" "I") ∈ gw := gwt 51 (by decide +kernel) rfl
theorem kw_55 : (Jvm.Cond.fieldLink "TrunkDuel$Trunk" (15 : Nat) "TrunkDuel$Trunk" "rows" "I") ∈ gw := gwt 55 (by decide +kernel) rfl
theorem kw_59 : (Jvm.Cond.fieldLink "TrunkDuel$Trunk" (18 : Nat) "TrunkDuel$Trunk" "cells" "[I") ∈ gw := gwt 59 (by decide +kernel) rfl
theorem kw_71 : (Jvm.Cond.arrayClass Jvm.ClassFile.FieldType.boolean) ∈ gw := gwt 71 (by decide +kernel) rfl
theorem kw_60 : (Jvm.Cond.fieldLink "TrunkDuel$Trunk" (22 : Nat) "TrunkDuel$Trunk" "straps" "[Z") ∈ gw := gwt 60 (by decide +kernel) rfl
theorem kw_452 : (Jvm.Cond.methodLink "TrunkDuel$Trunk" (26 : Nat) ({ cls := "java/lang/Math", name := "min", desc := "(II)I" } : Jvm.MethodName)) ∈ gw := gwt 452 (by decide +kernel) rfl
theorem kw_693 : (Jvm.Cond.methodLink "TrunkDuel$Trunk" (32 : Nat) ({ cls := "java/lang/System", name := "arraycopy", desc := "(Ljava/lang/Object;ILjava/lang/Object;II)V" } : Jvm.MethodName)) ∈ gw := gwt 693 (by decide +kernel) rfl
theorem kw_474 : (Jvm.Cond.methodLink "TrunkDuel$Trunk" (38 : Nat) ({ cls := "TrunkDuel$Trunk", name := "holds", desc := "(II)Z" } : Jvm.MethodName)) ∈ gw := gwt 474 (by decide +kernel) rfl
theorem kw_475 : (Jvm.Cond.instanceMethod ({ cls := "TrunkDuel$Trunk", name := "holds", desc := "(II)Z" } : Jvm.MethodName)) ∈ gw := gwt 475 (by decide +kernel) rfl
theorem kw_476 : (Jvm.Cond.selects "TrunkDuel$Trunk" ({ cls := "TrunkDuel$Trunk", name := "holds", desc := "(II)Z" } : Jvm.MethodName) ({ cls := "TrunkDuel$Trunk", name := "holds", desc := "(II)Z" } : Jvm.MethodName)) ∈ gw := gwt 476 (by decide +kernel) rfl
theorem kw_477 : (Jvm.Cond.code ({ cls := "TrunkDuel$Trunk", name := "holds", desc := "(II)Z" } : Jvm.MethodName) prog_11_method_4_code (3 : Nat) (Option.some Jvm.ClassFile.FieldType.boolean)) ∈ gw := gwt 477 (by decide +kernel) rfl
theorem kw_510 : (Jvm.Cond.methodLink "TrunkDuel$Trunk" (42 : Nat) ({ cls := "TrunkDuel$Trunk", name := "holdsEdge", desc := "(III)Z" } : Jvm.MethodName)) ∈ gw := gwt 510 (by decide +kernel) rfl
theorem kw_501 : (Jvm.Cond.methodLink "TrunkDuel$Trunk" (46 : Nat) ({ cls := "TrunkDuel$Trunk", name := "cellAt", desc := "(II)I" } : Jvm.MethodName)) ∈ gw := gwt 501 (by decide +kernel) rfl
theorem kw_502 : (Jvm.Cond.methodLink "TrunkDuel$Trunk" (49 : Nat) ({ cls := "TrunkDuel$Trunk", name := "cellBeyond", desc := "(III)I" } : Jvm.MethodName)) ∈ gw := gwt 502 (by decide +kernel) rfl
theorem kw_503 : (Jvm.Cond.instanceMethod ({ cls := "TrunkDuel$Trunk", name := "cellBeyond", desc := "(III)I" } : Jvm.MethodName)) ∈ gw := gwt 503 (by decide +kernel) rfl
theorem kw_504 : (Jvm.Cond.selects "TrunkDuel$Trunk" ({ cls := "TrunkDuel$Trunk", name := "cellBeyond", desc := "(III)I" } : Jvm.MethodName) ({ cls := "TrunkDuel$Trunk", name := "cellBeyond", desc := "(III)I" } : Jvm.MethodName)) ∈ gw := gwt 504 (by decide +kernel) rfl
theorem kw_505 : (Jvm.Cond.code ({ cls := "TrunkDuel$Trunk", name := "cellBeyond", desc := "(III)I" } : Jvm.MethodName) prog_11_method_10_code (4 : Nat) (Option.some Jvm.ClassFile.FieldType.int)) ∈ gw := gwt 505 (by decide +kernel) rfl
theorem kw_963 : (Jvm.Cond.methodLink "TrunkDuel$Trunk" (53 : Nat) ({ cls := "TrunkDuel$Trunk", name := "countCells", desc := "(I)I" } : Jvm.MethodName)) ∈ gw := gwt 963 (by decide +kernel) rfl
theorem kw_770 : (Jvm.Cond.instanceMethod ({ cls := "TrunkDuel$Trunk", name := "countCells", desc := "(I)I" } : Jvm.MethodName)) ∈ gw := gwt 770 (by decide +kernel) rfl
theorem kw_771 : (Jvm.Cond.selects "TrunkDuel$Trunk" ({ cls := "TrunkDuel$Trunk", name := "countCells", desc := "(I)I" } : Jvm.MethodName) ({ cls := "TrunkDuel$Trunk", name := "countCells", desc := "(I)I" } : Jvm.MethodName)) ∈ gw := gwt 771 (by decide +kernel) rfl
theorem kw_772 : (Jvm.Cond.code ({ cls := "TrunkDuel$Trunk", name := "countCells", desc := "(I)I" } : Jvm.MethodName) prog_11_method_14_code (5 : Nat) (Option.some Jvm.ClassFile.FieldType.int)) ∈ gw := gwt 772 (by decide +kernel) rfl
theorem kw_179 : (Jvm.Cond.fieldLink "TrunkDuel$Trunk" (57 : Nat) "TrunkDuel$Footprint" "size" "I") ∈ gw := gwt 179 (by decide +kernel) rfl
theorem kw_593 : (Jvm.Cond.methodLink "TrunkDuel$Trunk" (62 : Nat) ({ cls := "TrunkDuel$Footprint", name := "columnOf", desc := "(I)I" } : Jvm.MethodName)) ∈ gw := gwt 593 (by decide +kernel) rfl
theorem kw_597 : (Jvm.Cond.methodLink "TrunkDuel$Trunk" (65 : Nat) ({ cls := "TrunkDuel$Footprint", name := "rowOf", desc := "(I)I" } : Jvm.MethodName)) ∈ gw := gwt 597 (by decide +kernel) rfl
theorem kw_601 : (Jvm.Cond.methodLink "TrunkDuel$Trunk" (68 : Nat) ({ cls := "TrunkDuel$Trunk", name := "isCrossedBy", desc := "(LTrunkDuel$Footprint;)Z" } : Jvm.MethodName)) ∈ gw := gwt 601 (by decide +kernel) rfl
theorem kw_602 : (Jvm.Cond.instanceMethod ({ cls := "TrunkDuel$Trunk", name := "isCrossedBy", desc := "(LTrunkDuel$Footprint;)Z" } : Jvm.MethodName)) ∈ gw := gwt 602 (by decide +kernel) rfl
theorem kw_603 : (Jvm.Cond.selects "TrunkDuel$Trunk" ({ cls := "TrunkDuel$Trunk", name := "isCrossedBy", desc := "(LTrunkDuel$Footprint;)Z" } : Jvm.MethodName) ({ cls := "TrunkDuel$Trunk", name := "isCrossedBy", desc := "(LTrunkDuel$Footprint;)Z" } : Jvm.MethodName)) ∈ gw := gwt 603 (by decide +kernel) rfl
theorem kw_604 : (Jvm.Cond.code ({ cls := "TrunkDuel$Trunk", name := "isCrossedBy", desc := "(LTrunkDuel$Footprint;)Z" } : Jvm.MethodName) prog_11_method_18_code (5 : Nat) (Option.some Jvm.ClassFile.FieldType.boolean)) ∈ gw := gwt 604 (by decide +kernel) rfl
theorem kw_183 : (Jvm.Cond.fieldLink "TrunkDuel$Trunk" (72 : Nat) "TrunkDuel$Footprint" "edges" "I") ∈ gw := gwt 183 (by decide +kernel) rfl
theorem kw_605 : (Jvm.Cond.methodLink "TrunkDuel$Trunk" (75 : Nat) ({ cls := "TrunkDuel$Footprint", name := "edgeColumnOf", desc := "(I)I" } : Jvm.MethodName)) ∈ gw := gwt 605 (by decide +kernel) rfl
theorem kw_609 : (Jvm.Cond.methodLink "TrunkDuel$Trunk" (78 : Nat) ({ cls := "TrunkDuel$Footprint", name := "edgeRowOf", desc := "(I)I" } : Jvm.MethodName)) ∈ gw := gwt 609 (by decide +kernel) rfl
theorem kw_613 : (Jvm.Cond.methodLink "TrunkDuel$Trunk" (81 : Nat) ({ cls := "TrunkDuel$Footprint", name := "sideOf", desc := "(I)I" } : Jvm.MethodName)) ∈ gw := gwt 613 (by decide +kernel) rfl
theorem kw_617 : (Jvm.Cond.methodLink "TrunkDuel$Trunk" (84 : Nat) ({ cls := "TrunkDuel$Trunk", name := "strapAt", desc := "(III)Z" } : Jvm.MethodName)) ∈ gw := gwt 617 (by decide +kernel) rfl
theorem kw_676 : (Jvm.Cond.methodLink "TrunkDuel$Trunk" (87 : Nat) ({ cls := "TrunkDuel$Footprint", name := "advance", desc := "(II)Z" } : Jvm.MethodName)) ∈ gw := gwt 676 (by decide +kernel) rfl
theorem kw_677 : (Jvm.Cond.instanceMethod ({ cls := "TrunkDuel$Footprint", name := "advance", desc := "(II)Z" } : Jvm.MethodName)) ∈ gw := gwt 677 (by decide +kernel) rfl
theorem kw_678 : (Jvm.Cond.selects "TrunkDuel$Footprint" ({ cls := "TrunkDuel$Footprint", name := "advance", desc := "(II)Z" } : Jvm.MethodName) ({ cls := "TrunkDuel$Footprint", name := "advance", desc := "(II)Z" } : Jvm.MethodName)) ∈ gw := gwt 678 (by decide +kernel) rfl
theorem kw_679 : (Jvm.Cond.code ({ cls := "TrunkDuel$Footprint", name := "advance", desc := "(II)Z" } : Jvm.MethodName) prog_4_method_5_code (3 : Nat) (Option.some Jvm.ClassFile.FieldType.boolean)) ∈ gw := gwt 679 (by decide +kernel) rfl
theorem kw_680 : (Jvm.Cond.methodLink "TrunkDuel$Trunk" (90 : Nat) ({ cls := "TrunkDuel$Trunk", name := "misfitOf", desc := "(LTrunkDuel$Footprint;)I" } : Jvm.MethodName)) ∈ gw := gwt 680 (by decide +kernel) rfl
theorem kw_1335 : (Jvm.Cond.methodLink "TrunkDuel$Trunk" (94 : Nat) ({ cls := "TrunkDuel$Footprint", name := "startAll", desc := "(I)V" } : Jvm.MethodName)) ∈ gw := gwt 1335 (by decide +kernel) rfl
theorem kw_1336 : (Jvm.Cond.methodLink "TrunkDuel$Trunk" (98 : Nat) ({ cls := "TrunkDuel$Trunk", name := "findNext", desc := "(LTrunkDuel$Footprint;)Z" } : Jvm.MethodName)) ∈ gw := gwt 1336 (by decide +kernel) rfl
theorem kw_626 : (Jvm.Cond.methodLink "TrunkDuel$Trunk" (101 : Nat) ({ cls := "TrunkDuel$Trunk", name := "countEmptyIn", desc := "(I)I" } : Jvm.MethodName)) ∈ gw := gwt 626 (by decide +kernel) rfl
theorem kw_627 : (Jvm.Cond.instanceMethod ({ cls := "TrunkDuel$Trunk", name := "countEmptyIn", desc := "(I)I" } : Jvm.MethodName)) ∈ gw := gwt 627 (by decide +kernel) rfl
theorem kw_628 : (Jvm.Cond.selects "TrunkDuel$Trunk" ({ cls := "TrunkDuel$Trunk", name := "countEmptyIn", desc := "(I)I" } : Jvm.MethodName) ({ cls := "TrunkDuel$Trunk", name := "countEmptyIn", desc := "(I)I" } : Jvm.MethodName)) ∈ gw := gwt 628 (by decide +kernel) rfl
theorem kw_629 : (Jvm.Cond.code ({ cls := "TrunkDuel$Trunk", name := "countEmptyIn", desc := "(I)I" } : Jvm.MethodName) prog_11_method_13_code (4 : Nat) (Option.some Jvm.ClassFile.FieldType.int)) ∈ gw := gwt 629 (by decide +kernel) rfl
theorem kw_30 : (Jvm.Cond.methodLink "TrunkDuel" (3 : Nat) ({ cls := "java/lang/Object", name := "<init>", desc := "()V" } : Jvm.MethodName)) ∈ gw := gwt 30 (by decide +kernel) rfl
theorem kw_33 : (Jvm.Cond.classLink "TrunkDuel" (9 : Nat) "TrunkDuel$Reader") ∈ gw := gwt 33 (by decide +kernel) rfl
theorem kw_34 : (Jvm.Cond.instantiable "TrunkDuel$Reader" (14 : Nat)) ∈ gw := gwt 34 (by decide +kernel) rfl
theorem kw_36 : (Jvm.Cond.instanceMethod ({ cls := "TrunkDuel$Reader", name := "<init>", desc := "()V" } : Jvm.MethodName)) ∈ gw := gwt 36 (by decide +kernel) rfl
theorem kw_37 : (Jvm.Cond.code ({ cls := "TrunkDuel$Reader", name := "<init>", desc := "()V" } : Jvm.MethodName) prog_8_method_1_code (1 : Nat) (Option.none : Option Jvm.ClassFile.FieldType)) ∈ gw := gwt 37 (by decide +kernel) rfl
theorem kw_710 : (Jvm.Cond.fieldLink "TrunkDuel" (12 : Nat) "TrunkDuel" "reader" "LTrunkDuel$Reader;") ∈ gw := gwt 710 (by decide +kernel) rfl
theorem kw_260 : (Jvm.Cond.classLink "TrunkDuel" (16 : Nat) "TrunkDuel$State") ∈ gw := gwt 260 (by decide +kernel) rfl
theorem kw_711 : (Jvm.Cond.fieldLink "TrunkDuel" (19 : Nat) "TrunkDuel" "present" "LTrunkDuel$State;") ∈ gw := gwt 711 (by decide +kernel) rfl
theorem kw_712 : (Jvm.Cond.fieldLink "TrunkDuel" (23 : Nat) "TrunkDuel" "trial" "LTrunkDuel$State;") ∈ gw := gwt 712 (by decide +kernel) rfl
theorem kw_262 : (Jvm.Cond.classLink "TrunkDuel" (26 : Nat) "TrunkDuel$History") ∈ gw := gwt 262 (by decide +kernel) rfl
theorem kw_263 : (Jvm.Cond.instantiable "TrunkDuel$History" (3 : Nat)) ∈ gw := gwt 263 (by decide +kernel) rfl
theorem kw_8 : (Jvm.Cond.initialized "TrunkDuel$History") ∈ gw := gwt 8 (by decide +kernel) rfl
theorem kw_264 : (Jvm.Cond.methodLink "TrunkDuel" (28 : Nat) ({ cls := "TrunkDuel$History", name := "<init>", desc := "()V" } : Jvm.MethodName)) ∈ gw := gwt 264 (by decide +kernel) rfl
theorem kw_265 : (Jvm.Cond.instanceMethod ({ cls := "TrunkDuel$History", name := "<init>", desc := "()V" } : Jvm.MethodName)) ∈ gw := gwt 265 (by decide +kernel) rfl
theorem kw_266 : (Jvm.Cond.code ({ cls := "TrunkDuel$History", name := "<init>", desc := "()V" } : Jvm.MethodName) prog_5_method_1_code (2 : Nat) (Option.none : Option Jvm.ClassFile.FieldType)) ∈ gw := gwt 266 (by decide +kernel) rfl
theorem kw_713 : (Jvm.Cond.fieldLink "TrunkDuel" (29 : Nat) "TrunkDuel" "history" "LTrunkDuel$History;") ∈ gw := gwt 713 (by decide +kernel) rfl
theorem kw_714 : (Jvm.Cond.fieldLink "TrunkDuel" (33 : Nat) "TrunkDuel" "saved" "[LTrunkDuel$State;") ∈ gw := gwt 714 (by decide +kernel) rfl
theorem kw_715 : (Jvm.Cond.fieldLink "TrunkDuel" (37 : Nat) "TrunkDuel" "isSaved" "[Z") ∈ gw := gwt 715 (by decide +kernel) rfl
theorem kw_282 : (Jvm.Cond.classLink "TrunkDuel" (41 : Nat) "TrunkDuel$Footprint") ∈ gw := gwt 282 (by decide +kernel) rfl
theorem kw_716 : (Jvm.Cond.fieldLink "TrunkDuel" (44 : Nat) "TrunkDuel" "footprint" "LTrunkDuel$Footprint;") ∈ gw := gwt 716 (by decide +kernel) rfl
theorem kw_284 : (Jvm.Cond.classLink "TrunkDuel" (48 : Nat) "TrunkDuel$Choice") ∈ gw := gwt 284 (by decide +kernel) rfl
theorem kw_285 : (Jvm.Cond.instantiable "TrunkDuel$Choice" (5 : Nat)) ∈ gw := gwt 285 (by decide +kernel) rfl
theorem kw_287 : (Jvm.Cond.instanceMethod ({ cls := "TrunkDuel$Choice", name := "<init>", desc := "()V" } : Jvm.MethodName)) ∈ gw := gwt 287 (by decide +kernel) rfl
theorem kw_288 : (Jvm.Cond.code ({ cls := "TrunkDuel$Choice", name := "<init>", desc := "()V" } : Jvm.MethodName) prog_2_method_1_code (1 : Nat) (Option.none : Option Jvm.ClassFile.FieldType)) ∈ gw := gwt 288 (by decide +kernel) rfl
theorem kw_717 : (Jvm.Cond.fieldLink "TrunkDuel" (51 : Nat) "TrunkDuel" "best" "LTrunkDuel$Choice;") ∈ gw := gwt 717 (by decide +kernel) rfl
theorem kw_310 : (Jvm.Cond.classLink "TrunkDuel" (55 : Nat) "TrunkDuel$Crossings") ∈ gw := gwt 310 (by decide +kernel) rfl
theorem kw_311 : (Jvm.Cond.instantiable "TrunkDuel$Crossings" (1 : Nat)) ∈ gw := gwt 311 (by decide +kernel) rfl
theorem kw_313 : (Jvm.Cond.instanceMethod ({ cls := "TrunkDuel$Crossings", name := "<init>", desc := "()V" } : Jvm.MethodName)) ∈ gw := gwt 313 (by decide +kernel) rfl
theorem kw_314 : (Jvm.Cond.code ({ cls := "TrunkDuel$Crossings", name := "<init>", desc := "()V" } : Jvm.MethodName) prog_3_method_1_code (1 : Nat) (Option.none : Option Jvm.ClassFile.FieldType)) ∈ gw := gwt 314 (by decide +kernel) rfl
theorem kw_718 : (Jvm.Cond.fieldLink "TrunkDuel" (58 : Nat) "TrunkDuel" "crossings" "LTrunkDuel$Crossings;") ∈ gw := gwt 718 (by decide +kernel) rfl
theorem kw_320 : (Jvm.Cond.classLink "TrunkDuel" (62 : Nat) "TrunkDuel$Regions") ∈ gw := gwt 320 (by decide +kernel) rfl
theorem kw_321 : (Jvm.Cond.instantiable "TrunkDuel$Regions" (5 : Nat)) ∈ gw := gwt 321 (by decide +kernel) rfl
theorem kw_323 : (Jvm.Cond.instanceMethod ({ cls := "TrunkDuel$Regions", name := "<init>", desc := "()V" } : Jvm.MethodName)) ∈ gw := gwt 323 (by decide +kernel) rfl
theorem kw_324 : (Jvm.Cond.code ({ cls := "TrunkDuel$Regions", name := "<init>", desc := "()V" } : Jvm.MethodName) prog_9_method_1_code (1 : Nat) (Option.none : Option Jvm.ClassFile.FieldType)) ∈ gw := gwt 324 (by decide +kernel) rfl
theorem kw_719 : (Jvm.Cond.fieldLink "TrunkDuel" (65 : Nat) "TrunkDuel" "regions" "LTrunkDuel$Regions;") ∈ gw := gwt 719 (by decide +kernel) rfl
theorem kw_720 : (Jvm.Cond.fieldLink "TrunkDuel" (69 : Nat) "TrunkDuel" "output" "[I") ∈ gw := gwt 720 (by decide +kernel) rfl
theorem kw_721 : (Jvm.Cond.fieldLink "TrunkDuel" (73 : Nat) "TrunkDuel" "outputLength" "I") ∈ gw := gwt 721 (by decide +kernel) rfl
theorem kw_344 : (Jvm.Cond.methodLink "TrunkDuel" (79 : Nat) ({ cls := "TrunkDuel$Reader", name := "writeText", desc := "(Ljava/lang/String;)V" } : Jvm.MethodName)) ∈ gw := gwt 344 (by decide +kernel) rfl
theorem kw_345 : (Jvm.Cond.instanceMethod ({ cls := "TrunkDuel$Reader", name := "writeText", desc := "(Ljava/lang/String;)V" } : Jvm.MethodName)) ∈ gw := gwt 345 (by decide +kernel) rfl
theorem kw_346 : (Jvm.Cond.selects "TrunkDuel$Reader" ({ cls := "TrunkDuel$Reader", name := "writeText", desc := "(Ljava/lang/String;)V" } : Jvm.MethodName) ({ cls := "TrunkDuel$Reader", name := "writeText", desc := "(Ljava/lang/String;)V" } : Jvm.MethodName)) ∈ gw := gwt 346 (by decide +kernel) rfl
theorem kw_347 : (Jvm.Cond.code ({ cls := "TrunkDuel$Reader", name := "writeText", desc := "(Ljava/lang/String;)V" } : Jvm.MethodName) prog_8_method_3_code (3 : Nat) (Option.none : Option Jvm.ClassFile.FieldType)) ∈ gw := gwt 347 (by decide +kernel) rfl
theorem kw_400 : (Jvm.Cond.methodLink "TrunkDuel" (83 : Nat) ({ cls := "TrunkDuel$Reader", name := "startSetup", desc := "()V" } : Jvm.MethodName)) ∈ gw := gwt 400 (by decide +kernel) rfl
theorem kw_423 : (Jvm.Cond.methodLink "TrunkDuel" (86 : Nat) ({ cls := "TrunkDuel$Reader", name := "readSetup", desc := "()Z" } : Jvm.MethodName)) ∈ gw := gwt 423 (by decide +kernel) rfl
theorem kw_424 : (Jvm.Cond.instanceMethod ({ cls := "TrunkDuel$Reader", name := "readSetup", desc := "()Z" } : Jvm.MethodName)) ∈ gw := gwt 424 (by decide +kernel) rfl
theorem kw_425 : (Jvm.Cond.selects "TrunkDuel$Reader" ({ cls := "TrunkDuel$Reader", name := "readSetup", desc := "()Z" } : Jvm.MethodName) ({ cls := "TrunkDuel$Reader", name := "readSetup", desc := "()Z" } : Jvm.MethodName)) ∈ gw := gwt 425 (by decide +kernel) rfl
theorem kw_426 : (Jvm.Cond.code ({ cls := "TrunkDuel$Reader", name := "readSetup", desc := "()Z" } : Jvm.MethodName) prog_8_method_8_code (1 : Nat) (Option.some Jvm.ClassFile.FieldType.boolean)) ∈ gw := gwt 426 (by decide +kernel) rfl
theorem kw_536 : (Jvm.Cond.methodLink "TrunkDuel" (90 : Nat) ({ cls := "TrunkDuel$Reader", name := "readCommands", desc := "()Z" } : Jvm.MethodName)) ∈ gw := gwt 536 (by decide +kernel) rfl
theorem kw_537 : (Jvm.Cond.instanceMethod ({ cls := "TrunkDuel$Reader", name := "readCommands", desc := "()Z" } : Jvm.MethodName)) ∈ gw := gwt 537 (by decide +kernel) rfl
theorem kw_538 : (Jvm.Cond.selects "TrunkDuel$Reader" ({ cls := "TrunkDuel$Reader", name := "readCommands", desc := "()Z" } : Jvm.MethodName) ({ cls := "TrunkDuel$Reader", name := "readCommands", desc := "()Z" } : Jvm.MethodName)) ∈ gw := gwt 538 (by decide +kernel) rfl
theorem kw_539 : (Jvm.Cond.code ({ cls := "TrunkDuel$Reader", name := "readCommands", desc := "()Z" } : Jvm.MethodName) prog_8_method_9_code (3 : Nat) (Option.some Jvm.ClassFile.FieldType.boolean)) ∈ gw := gwt 539 (by decide +kernel) rfl
theorem kw_221 : (Jvm.Cond.fieldLink "TrunkDuel" (93 : Nat) "TrunkDuel$Reader" "draft" "LTrunkDuel$State;") ∈ gw := gwt 221 (by decide +kernel) rfl
theorem kw_685 : (Jvm.Cond.methodLink "TrunkDuel" (96 : Nat) ({ cls := "TrunkDuel$State", name := "copyFrom", desc := "(LTrunkDuel$State;)V" } : Jvm.MethodName)) ∈ gw := gwt 685 (by decide +kernel) rfl
theorem kw_706 : (Jvm.Cond.methodLink "TrunkDuel" (100 : Nat) ({ cls := "TrunkDuel$Reader", name := "clear", desc := "()V" } : Jvm.MethodName)) ∈ gw := gwt 706 (by decide +kernel) rfl
theorem kw_707 : (Jvm.Cond.instanceMethod ({ cls := "TrunkDuel$Reader", name := "clear", desc := "()V" } : Jvm.MethodName)) ∈ gw := gwt 707 (by decide +kernel) rfl
theorem kw_708 : (Jvm.Cond.selects "TrunkDuel$Reader" ({ cls := "TrunkDuel$Reader", name := "clear", desc := "()V" } : Jvm.MethodName) ({ cls := "TrunkDuel$Reader", name := "clear", desc := "()V" } : Jvm.MethodName)) ∈ gw := gwt 708 (by decide +kernel) rfl
theorem kw_709 : (Jvm.Cond.code ({ cls := "TrunkDuel$Reader", name := "clear", desc := "()V" } : Jvm.MethodName) prog_8_method_27_code (1 : Nat) (Option.none : Option Jvm.ClassFile.FieldType)) ∈ gw := gwt 709 (by decide +kernel) rfl
theorem kw_752 : (Jvm.Cond.methodLink "TrunkDuel" (103 : Nat) ({ cls := "TrunkDuel$Reader", name := "hasRoom", desc := "()Z" } : Jvm.MethodName)) ∈ gw := gwt 752 (by decide +kernel) rfl
theorem kw_753 : (Jvm.Cond.instanceMethod ({ cls := "TrunkDuel$Reader", name := "hasRoom", desc := "()Z" } : Jvm.MethodName)) ∈ gw := gwt 753 (by decide +kernel) rfl
theorem kw_754 : (Jvm.Cond.selects "TrunkDuel$Reader" ({ cls := "TrunkDuel$Reader", name := "hasRoom", desc := "()Z" } : Jvm.MethodName) ({ cls := "TrunkDuel$Reader", name := "hasRoom", desc := "()Z" } : Jvm.MethodName)) ∈ gw := gwt 754 (by decide +kernel) rfl
theorem kw_755 : (Jvm.Cond.code ({ cls := "TrunkDuel$Reader", name := "hasRoom", desc := "()Z" } : Jvm.MethodName) prog_8_method_2_code (1 : Nat) (Option.some Jvm.ClassFile.FieldType.boolean)) ∈ gw := gwt 755 (by decide +kernel) rfl
theorem kw_756 : (Jvm.Cond.methodLink "TrunkDuel" (106 : Nat) ({ cls := "TrunkDuel$Reader", name := "writeFour", desc := "(I)V" } : Jvm.MethodName)) ∈ gw := gwt 756 (by decide +kernel) rfl
theorem kw_757 : (Jvm.Cond.instanceMethod ({ cls := "TrunkDuel$Reader", name := "writeFour", desc := "(I)V" } : Jvm.MethodName)) ∈ gw := gwt 757 (by decide +kernel) rfl
theorem kw_758 : (Jvm.Cond.selects "TrunkDuel$Reader" ({ cls := "TrunkDuel$Reader", name := "writeFour", desc := "(I)V" } : Jvm.MethodName) ({ cls := "TrunkDuel$Reader", name := "writeFour", desc := "(I)V" } : Jvm.MethodName)) ∈ gw := gwt 758 (by decide +kernel) rfl
theorem kw_759 : (Jvm.Cond.code ({ cls := "TrunkDuel$Reader", name := "writeFour", desc := "(I)V" } : Jvm.MethodName) prog_8_method_4_code (2 : Nat) (Option.none : Option Jvm.ClassFile.FieldType)) ∈ gw := gwt 759 (by decide +kernel) rfl
theorem kw_213 : (Jvm.Cond.fieldLink "TrunkDuel" (110 : Nat) "TrunkDuel$Reader" "length" "I") ∈ gw := gwt 213 (by decide +kernel) rfl
theorem kw_997 : (Jvm.Cond.classLink "TrunkDuel" (113 : Nat) "java/lang/IllegalArgumentException") ∈ gw := gwt 997 (by decide +kernel) rfl
theorem kw_22 : (Jvm.Cond.initialized "java/lang/IllegalArgumentException") ∈ gw := gwt 22 (by decide +kernel) rfl
theorem kw_764 : (Jvm.Cond.methodLink "TrunkDuel" (119 : Nat) ({ cls := "TrunkDuel$History", name := "remember", desc := "(LTrunkDuel$State;)V" } : Jvm.MethodName)) ∈ gw := gwt 764 (by decide +kernel) rfl
theorem kw_765 : (Jvm.Cond.instanceMethod ({ cls := "TrunkDuel$History", name := "remember", desc := "(LTrunkDuel$State;)V" } : Jvm.MethodName)) ∈ gw := gwt 765 (by decide +kernel) rfl
theorem kw_766 : (Jvm.Cond.selects "TrunkDuel$History" ({ cls := "TrunkDuel$History", name := "remember", desc := "(LTrunkDuel$State;)V" } : Jvm.MethodName) ({ cls := "TrunkDuel$History", name := "remember", desc := "(LTrunkDuel$State;)V" } : Jvm.MethodName)) ∈ gw := gwt 766 (by decide +kernel) rfl
theorem kw_767 : (Jvm.Cond.code ({ cls := "TrunkDuel$History", name := "remember", desc := "(LTrunkDuel$State;)V" } : Jvm.MethodName) prog_5_method_2_code (2 : Nat) (Option.none : Option Jvm.ClassFile.FieldType)) ∈ gw := gwt 767 (by decide +kernel) rfl
theorem kw_131 : (Jvm.Cond.fieldLink "TrunkDuel" (122 : Nat) "TrunkDuel$State" "trunk" "LTrunkDuel$Trunk;") ∈ gw := gwt 131 (by decide +kernel) rfl
theorem kw_769 : (Jvm.Cond.methodLink "TrunkDuel" (126 : Nat) ({ cls := "TrunkDuel$Trunk", name := "countCells", desc := "(I)I" } : Jvm.MethodName)) ∈ gw := gwt 769 (by decide +kernel) rfl
theorem kw_777 : (Jvm.Cond.methodLink "TrunkDuel" (132 : Nat) ({ cls := "TrunkDuel$Reader", name := "startScript", desc := "(LTrunkDuel$State;)V" } : Jvm.MethodName)) ∈ gw := gwt 777 (by decide +kernel) rfl
theorem kw_778 : (Jvm.Cond.instanceMethod ({ cls := "TrunkDuel$Reader", name := "startScript", desc := "(LTrunkDuel$State;)V" } : Jvm.MethodName)) ∈ gw := gwt 778 (by decide +kernel) rfl
theorem kw_779 : (Jvm.Cond.selects "TrunkDuel$Reader" ({ cls := "TrunkDuel$Reader", name := "startScript", desc := "(LTrunkDuel$State;)V" } : Jvm.MethodName) ({ cls := "TrunkDuel$Reader", name := "startScript", desc := "(LTrunkDuel$State;)V" } : Jvm.MethodName)) ∈ gw := gwt 779 (by decide +kernel) rfl
theorem kw_780 : (Jvm.Cond.code ({ cls := "TrunkDuel$Reader", name := "startScript", desc := "(LTrunkDuel$State;)V" } : Jvm.MethodName) prog_8_method_7_code (2 : Nat) (Option.none : Option Jvm.ClassFile.FieldType)) ∈ gw := gwt 780 (by decide +kernel) rfl
theorem kw_219 : (Jvm.Cond.fieldLink "TrunkDuel" (135 : Nat) "TrunkDuel$Reader" "commands" "I") ∈ gw := gwt 219 (by decide +kernel) rfl
theorem kw_215 : (Jvm.Cond.fieldLink "TrunkDuel" (138 : Nat) "TrunkDuel$Reader" "errorCode" "I") ∈ gw := gwt 215 (by decide +kernel) rfl
theorem kw_217 : (Jvm.Cond.fieldLink "TrunkDuel" (141 : Nat) "TrunkDuel$Reader" "errorOffset" "I") ∈ gw := gwt 217 (by decide +kernel) rfl
theorem kw_1073 : (Jvm.Cond.methodLink "TrunkDuel" (144 : Nat) ({ cls := "TrunkDuel", name := "aimAt", desc := "(IIII)V" } : Jvm.MethodName)) ∈ gw := gwt 1073 (by decide +kernel) rfl
theorem kw_1075 : (Jvm.Cond.instanceMethod ({ cls := "TrunkDuel", name := "aimAt", desc := "(IIII)V" } : Jvm.MethodName)) ∈ gw := gwt 1075 (by decide +kernel) rfl
theorem kp_28 : (Jvm.Cond.selects "TrunkDuel" ({ cls := "TrunkDuel", name := "aimAt", desc := "(IIII)V" } : Jvm.MethodName) ({ cls := "TrunkDuel", name := "aimAt", desc := "(IIII)V" } : Jvm.MethodName)) ∈ gw := gws 28 (by decide +kernel) rfl
theorem kw_1 : (Jvm.Cond.initialized "TrunkDuel") ∈ gw := gwt 1 (by decide +kernel) rfl
theorem kw_1076 : (Jvm.Cond.code ({ cls := "TrunkDuel", name := "aimAt", desc := "(IIII)V" } : Jvm.MethodName) prog_1_method_61_code (5 : Nat) (Option.none : Option Jvm.ClassFile.FieldType)) ∈ gw := gwt 1076 (by decide +kernel) rfl
theorem kw_1103 : (Jvm.Cond.methodLink "TrunkDuel" (148 : Nat) ({ cls := "TrunkDuel$State", name := "allowsPiece", desc := "(LTrunkDuel$Footprint;)Z" } : Jvm.MethodName)) ∈ gw := gwt 1103 (by decide +kernel) rfl
theorem kw_1104 : (Jvm.Cond.classLink "TrunkDuel" (152 : Nat) "java/lang/IllegalStateException") ∈ gw := gwt 1104 (by decide +kernel) rfl
theorem kw_24 : (Jvm.Cond.initialized "java/lang/IllegalStateException") ∈ gw := gwt 24 (by decide +kernel) rfl
theorem kw_1120 : (Jvm.Cond.methodLink "TrunkDuel" (157 : Nat) ({ cls := "TrunkDuel$State", name := "putPiece", desc := "(LTrunkDuel$Footprint;)I" } : Jvm.MethodName)) ∈ gw := gwt 1120 (by decide +kernel) rfl
theorem kw_1128 : (Jvm.Cond.methodLink "TrunkDuel" (161 : Nat) ({ cls := "TrunkDuel", name := "requireEdge", desc := "(III)V" } : Jvm.MethodName)) ∈ gw := gwt 1128 (by decide +kernel) rfl
theorem kw_1130 : (Jvm.Cond.instanceMethod ({ cls := "TrunkDuel", name := "requireEdge", desc := "(III)V" } : Jvm.MethodName)) ∈ gw := gwt 1130 (by decide +kernel) rfl
theorem kp_30 : (Jvm.Cond.selects "TrunkDuel" ({ cls := "TrunkDuel", name := "requireEdge", desc := "(III)V" } : Jvm.MethodName) ({ cls := "TrunkDuel", name := "requireEdge", desc := "(III)V" } : Jvm.MethodName)) ∈ gw := gws 30 (by decide +kernel) rfl
theorem kw_1131 : (Jvm.Cond.code ({ cls := "TrunkDuel", name := "requireEdge", desc := "(III)V" } : Jvm.MethodName) prog_1_method_66_code (4 : Nat) (Option.none : Option Jvm.ClassFile.FieldType)) ∈ gw := gwt 1131 (by decide +kernel) rfl
theorem kw_1135 : (Jvm.Cond.methodLink "TrunkDuel" (165 : Nat) ({ cls := "TrunkDuel$State", name := "allowsStrap", desc := "(III)Z" } : Jvm.MethodName)) ∈ gw := gwt 1135 (by decide +kernel) rfl
theorem kw_1137 : (Jvm.Cond.methodLink "TrunkDuel" (171 : Nat) ({ cls := "TrunkDuel$State", name := "putStrap", desc := "(III)I" } : Jvm.MethodName)) ∈ gw := gwt 1137 (by decide +kernel) rfl
theorem kw_1145 : (Jvm.Cond.methodLink "TrunkDuel" (175 : Nat) ({ cls := "TrunkDuel$State", name := "allowsPass", desc := "(LTrunkDuel$Footprint;)Z" } : Jvm.MethodName)) ∈ gw := gwt 1145 (by decide +kernel) rfl
theorem kw_1147 : (Jvm.Cond.methodLink "TrunkDuel" (180 : Nat) ({ cls := "TrunkDuel$State", name := "skipTurn", desc := "()I" } : Jvm.MethodName)) ∈ gw := gwt 1147 (by decide +kernel) rfl
theorem kw_272 : (Jvm.Cond.fieldLink "TrunkDuel" (184 : Nat) "TrunkDuel$History" "count" "I") ∈ gw := gwt 272 (by decide +kernel) rfl
theorem kw_1156 : (Jvm.Cond.methodLink "TrunkDuel" (189 : Nat) ({ cls := "TrunkDuel$History", name := "bringBack", desc := "(LTrunkDuel$State;)V" } : Jvm.MethodName)) ∈ gw := gwt 1156 (by decide +kernel) rfl
theorem kw_1157 : (Jvm.Cond.instanceMethod ({ cls := "TrunkDuel$History", name := "bringBack", desc := "(LTrunkDuel$State;)V" } : Jvm.MethodName)) ∈ gw := gwt 1157 (by decide +kernel) rfl
theorem kw_1158 : (Jvm.Cond.selects "TrunkDuel$History" ({ cls := "TrunkDuel$History", name := "bringBack", desc := "(LTrunkDuel$State;)V" } : Jvm.MethodName) ({ cls := "TrunkDuel$History", name := "bringBack", desc := "(LTrunkDuel$State;)V" } : Jvm.MethodName)) ∈ gw := gwt 1158 (by decide +kernel) rfl
theorem kw_1159 : (Jvm.Cond.code ({ cls := "TrunkDuel$History", name := "bringBack", desc := "(LTrunkDuel$State;)V" } : Jvm.MethodName) prog_5_method_3_code (2 : Nat) (Option.none : Option Jvm.ClassFile.FieldType)) ∈ gw := gwt 1159 (by decide +kernel) rfl
theorem kw_1167 : (Jvm.Cond.methodLink "TrunkDuel" (192 : Nat) ({ cls := "TrunkDuel", name := "requireSlot", desc := "(I)V" } : Jvm.MethodName)) ∈ gw := gwt 1167 (by decide +kernel) rfl
theorem kw_1169 : (Jvm.Cond.code ({ cls := "TrunkDuel", name := "requireSlot", desc := "(I)V" } : Jvm.MethodName) prog_1_method_63_code (1 : Nat) (Option.none : Option Jvm.ClassFile.FieldType)) ∈ gw := gwt 1169 (by decide +kernel) rfl
theorem kw_1168 : (Jvm.Cond.static ({ cls := "TrunkDuel", name := "requireSlot", desc := "(I)V" } : Jvm.MethodName)) ∈ gw := gwt 1168 (by decide +kernel) rfl
theorem kw_134 : (Jvm.Cond.fieldLink "TrunkDuel" (195 : Nat) "TrunkDuel$State" "pieces" "LTrunkDuel$Pieces;") ∈ gw := gwt 134 (by decide +kernel) rfl
theorem kw_80 : (Jvm.Cond.fieldLink "TrunkDuel" (199 : Nat) "TrunkDuel$Pieces" "count" "I") ∈ gw := gwt 80 (by decide +kernel) rfl
theorem kw_54 : (Jvm.Cond.fieldLink "TrunkDuel" (204 : Nat) "TrunkDuel$Trunk" "columns" "I") ∈ gw := gwt 54 (by decide +kernel) rfl
theorem kw_58 : (Jvm.Cond.fieldLink "TrunkDuel" (207 : Nat) "TrunkDuel$Trunk" "rows" "I") ∈ gw := gwt 58 (by decide +kernel) rfl
theorem kw_811 : (Jvm.Cond.methodLink "TrunkDuel" (210 : Nat) ({ cls := "TrunkDuel$Trunk", name := "countStraps", desc := "()I" } : Jvm.MethodName)) ∈ gw := gwt 811 (by decide +kernel) rfl
theorem kw_812 : (Jvm.Cond.instanceMethod ({ cls := "TrunkDuel$Trunk", name := "countStraps", desc := "()I" } : Jvm.MethodName)) ∈ gw := gwt 812 (by decide +kernel) rfl
theorem kw_813 : (Jvm.Cond.selects "TrunkDuel$Trunk" ({ cls := "TrunkDuel$Trunk", name := "countStraps", desc := "()I" } : Jvm.MethodName) ({ cls := "TrunkDuel$Trunk", name := "countStraps", desc := "()I" } : Jvm.MethodName)) ∈ gw := gwt 813 (by decide +kernel) rfl
theorem kw_814 : (Jvm.Cond.code ({ cls := "TrunkDuel$Trunk", name := "countStraps", desc := "()I" } : Jvm.MethodName) prog_11_method_16_code (3 : Nat) (Option.some Jvm.ClassFile.FieldType.int)) ∈ gw := gwt 814 (by decide +kernel) rfl
theorem kw_819 : (Jvm.Cond.methodLink "TrunkDuel" (213 : Nat) ({ cls := "TrunkDuel$Trunk", name := "countEmptyIn", desc := "(I)I" } : Jvm.MethodName)) ∈ gw := gwt 819 (by decide +kernel) rfl
theorem kw_1082 : (Jvm.Cond.methodLink "TrunkDuel" (216 : Nat) ({ cls := "TrunkDuel", name := "requireCell", desc := "(II)V" } : Jvm.MethodName)) ∈ gw := gwt 1082 (by decide +kernel) rfl
theorem kw_1084 : (Jvm.Cond.instanceMethod ({ cls := "TrunkDuel", name := "requireCell", desc := "(II)V" } : Jvm.MethodName)) ∈ gw := gwt 1084 (by decide +kernel) rfl
theorem kp_29 : (Jvm.Cond.selects "TrunkDuel" ({ cls := "TrunkDuel", name := "requireCell", desc := "(II)V" } : Jvm.MethodName) ({ cls := "TrunkDuel", name := "requireCell", desc := "(II)V" } : Jvm.MethodName)) ∈ gw := gws 29 (by decide +kernel) rfl
theorem kw_1085 : (Jvm.Cond.code ({ cls := "TrunkDuel", name := "requireCell", desc := "(II)V" } : Jvm.MethodName) prog_1_method_65_code (3 : Nat) (Option.none : Option Jvm.ClassFile.FieldType)) ∈ gw := gwt 1085 (by decide +kernel) rfl
theorem kw_981 : (Jvm.Cond.methodLink "TrunkDuel" (220 : Nat) ({ cls := "TrunkDuel$Trunk", name := "cellAt", desc := "(II)I" } : Jvm.MethodName)) ∈ gw := gwt 981 (by decide +kernel) rfl
theorem kw_1200 : (Jvm.Cond.methodLink "TrunkDuel" (224 : Nat) ({ cls := "TrunkDuel$Trunk", name := "strapAt", desc := "(III)Z" } : Jvm.MethodName)) ∈ gw := gwt 1200 (by decide +kernel) rfl
theorem kw_1087 : (Jvm.Cond.classLink "TrunkDuel" (227 : Nat) "java/lang/IndexOutOfBoundsException") ∈ gw := gwt 1087 (by decide +kernel) rfl
theorem kw_23 : (Jvm.Cond.initialized "java/lang/IndexOutOfBoundsException") ∈ gw := gwt 23 (by decide +kernel) rfl
theorem kw_1216 : (Jvm.Cond.methodLink "TrunkDuel" (232 : Nat) ({ cls := "TrunkDuel", name := "requirePiece", desc := "(I)V" } : Jvm.MethodName)) ∈ gw := gwt 1216 (by decide +kernel) rfl
theorem kw_1218 : (Jvm.Cond.instanceMethod ({ cls := "TrunkDuel", name := "requirePiece", desc := "(I)V" } : Jvm.MethodName)) ∈ gw := gwt 1218 (by decide +kernel) rfl
theorem kp_31 : (Jvm.Cond.selects "TrunkDuel" ({ cls := "TrunkDuel", name := "requirePiece", desc := "(I)V" } : Jvm.MethodName) ({ cls := "TrunkDuel", name := "requirePiece", desc := "(I)V" } : Jvm.MethodName)) ∈ gw := gws 31 (by decide +kernel) rfl
theorem kw_1219 : (Jvm.Cond.code ({ cls := "TrunkDuel", name := "requirePiece", desc := "(I)V" } : Jvm.MethodName) prog_1_method_67_code (2 : Nat) (Option.none : Option Jvm.ClassFile.FieldType)) ∈ gw := gwt 1219 (by decide +kernel) rfl
theorem kw_932 : (Jvm.Cond.methodLink "TrunkDuel" (235 : Nat) ({ cls := "TrunkDuel$Pieces", name := "shapeOf", desc := "(I)I" } : Jvm.MethodName)) ∈ gw := gwt 932 (by decide +kernel) rfl
theorem kw_933 : (Jvm.Cond.instanceMethod ({ cls := "TrunkDuel$Pieces", name := "shapeOf", desc := "(I)I" } : Jvm.MethodName)) ∈ gw := gwt 933 (by decide +kernel) rfl
theorem kw_934 : (Jvm.Cond.selects "TrunkDuel$Pieces" ({ cls := "TrunkDuel$Pieces", name := "shapeOf", desc := "(I)I" } : Jvm.MethodName) ({ cls := "TrunkDuel$Pieces", name := "shapeOf", desc := "(I)I" } : Jvm.MethodName)) ∈ gw := gwt 934 (by decide +kernel) rfl
theorem kw_935 : (Jvm.Cond.code ({ cls := "TrunkDuel$Pieces", name := "shapeOf", desc := "(I)I" } : Jvm.MethodName) prog_6_method_5_code (2 : Nat) (Option.some Jvm.ClassFile.FieldType.int)) ∈ gw := gwt 935 (by decide +kernel) rfl
theorem kw_940 : (Jvm.Cond.methodLink "TrunkDuel" (238 : Nat) ({ cls := "TrunkDuel$Pieces", name := "rotationOf", desc := "(I)I" } : Jvm.MethodName)) ∈ gw := gwt 940 (by decide +kernel) rfl
theorem kw_941 : (Jvm.Cond.instanceMethod ({ cls := "TrunkDuel$Pieces", name := "rotationOf", desc := "(I)I" } : Jvm.MethodName)) ∈ gw := gwt 941 (by decide +kernel) rfl
theorem kw_942 : (Jvm.Cond.selects "TrunkDuel$Pieces" ({ cls := "TrunkDuel$Pieces", name := "rotationOf", desc := "(I)I" } : Jvm.MethodName) ({ cls := "TrunkDuel$Pieces", name := "rotationOf", desc := "(I)I" } : Jvm.MethodName)) ∈ gw := gwt 942 (by decide +kernel) rfl
theorem kw_943 : (Jvm.Cond.code ({ cls := "TrunkDuel$Pieces", name := "rotationOf", desc := "(I)I" } : Jvm.MethodName) prog_6_method_6_code (2 : Nat) (Option.some Jvm.ClassFile.FieldType.int)) ∈ gw := gwt 943 (by decide +kernel) rfl
theorem kw_945 : (Jvm.Cond.methodLink "TrunkDuel" (241 : Nat) ({ cls := "TrunkDuel$Pieces", name := "anchorColumnOf", desc := "(I)I" } : Jvm.MethodName)) ∈ gw := gwt 945 (by decide +kernel) rfl
theorem kw_946 : (Jvm.Cond.instanceMethod ({ cls := "TrunkDuel$Pieces", name := "anchorColumnOf", desc := "(I)I" } : Jvm.MethodName)) ∈ gw := gwt 946 (by decide +kernel) rfl
theorem kw_947 : (Jvm.Cond.selects "TrunkDuel$Pieces" ({ cls := "TrunkDuel$Pieces", name := "anchorColumnOf", desc := "(I)I" } : Jvm.MethodName) ({ cls := "TrunkDuel$Pieces", name := "anchorColumnOf", desc := "(I)I" } : Jvm.MethodName)) ∈ gw := gwt 947 (by decide +kernel) rfl
theorem kw_948 : (Jvm.Cond.code ({ cls := "TrunkDuel$Pieces", name := "anchorColumnOf", desc := "(I)I" } : Jvm.MethodName) prog_6_method_7_code (2 : Nat) (Option.some Jvm.ClassFile.FieldType.int)) ∈ gw := gwt 948 (by decide +kernel) rfl
theorem kw_949 : (Jvm.Cond.methodLink "TrunkDuel" (244 : Nat) ({ cls := "TrunkDuel$Pieces", name := "anchorRowOf", desc := "(I)I" } : Jvm.MethodName)) ∈ gw := gwt 949 (by decide +kernel) rfl
theorem kw_950 : (Jvm.Cond.instanceMethod ({ cls := "TrunkDuel$Pieces", name := "anchorRowOf", desc := "(I)I" } : Jvm.MethodName)) ∈ gw := gwt 950 (by decide +kernel) rfl
theorem kw_951 : (Jvm.Cond.selects "TrunkDuel$Pieces" ({ cls := "TrunkDuel$Pieces", name := "anchorRowOf", desc := "(I)I" } : Jvm.MethodName) ({ cls := "TrunkDuel$Pieces", name := "anchorRowOf", desc := "(I)I" } : Jvm.MethodName)) ∈ gw := gwt 951 (by decide +kernel) rfl
theorem kw_952 : (Jvm.Cond.code ({ cls := "TrunkDuel$Pieces", name := "anchorRowOf", desc := "(I)I" } : Jvm.MethodName) prog_6_method_8_code (2 : Nat) (Option.some Jvm.ClassFile.FieldType.int)) ∈ gw := gwt 952 (by decide +kernel) rfl
theorem kw_1249 : (Jvm.Cond.methodLink "TrunkDuel" (247 : Nat) ({ cls := "TrunkDuel$Pieces", name := "ownerOf", desc := "(I)I" } : Jvm.MethodName)) ∈ gw := gwt 1249 (by decide +kernel) rfl
theorem kw_1250 : (Jvm.Cond.instanceMethod ({ cls := "TrunkDuel$Pieces", name := "ownerOf", desc := "(I)I" } : Jvm.MethodName)) ∈ gw := gwt 1250 (by decide +kernel) rfl
theorem kw_1251 : (Jvm.Cond.selects "TrunkDuel$Pieces" ({ cls := "TrunkDuel$Pieces", name := "ownerOf", desc := "(I)I" } : Jvm.MethodName) ({ cls := "TrunkDuel$Pieces", name := "ownerOf", desc := "(I)I" } : Jvm.MethodName)) ∈ gw := gwt 1251 (by decide +kernel) rfl
theorem kw_1252 : (Jvm.Cond.code ({ cls := "TrunkDuel$Pieces", name := "ownerOf", desc := "(I)I" } : Jvm.MethodName) prog_6_method_9_code (2 : Nat) (Option.some Jvm.ClassFile.FieldType.int)) ∈ gw := gwt 1252 (by decide +kernel) rfl
theorem kw_954 : (Jvm.Cond.methodLink "TrunkDuel" (250 : Nat) ({ cls := "TrunkDuel$Pieces", name := "pointsOf", desc := "(I)I" } : Jvm.MethodName)) ∈ gw := gwt 954 (by decide +kernel) rfl
theorem kw_955 : (Jvm.Cond.instanceMethod ({ cls := "TrunkDuel$Pieces", name := "pointsOf", desc := "(I)I" } : Jvm.MethodName)) ∈ gw := gwt 955 (by decide +kernel) rfl
theorem kw_956 : (Jvm.Cond.selects "TrunkDuel$Pieces" ({ cls := "TrunkDuel$Pieces", name := "pointsOf", desc := "(I)I" } : Jvm.MethodName) ({ cls := "TrunkDuel$Pieces", name := "pointsOf", desc := "(I)I" } : Jvm.MethodName)) ∈ gw := gwt 956 (by decide +kernel) rfl
theorem kw_957 : (Jvm.Cond.code ({ cls := "TrunkDuel$Pieces", name := "pointsOf", desc := "(I)I" } : Jvm.MethodName) prog_6_method_10_code (2 : Nat) (Option.some Jvm.ClassFile.FieldType.int)) ∈ gw := gwt 957 (by decide +kernel) rfl
theorem kw_828 : (Jvm.Cond.methodLink "TrunkDuel" (253 : Nat) ({ cls := "TrunkDuel$State", name := "isFinished", desc := "()Z" } : Jvm.MethodName)) ∈ gw := gwt 828 (by decide +kernel) rfl
theorem kw_143 : (Jvm.Cond.fieldLink "TrunkDuel" (256 : Nat) "TrunkDuel$State" "mover" "I") ∈ gw := gwt 143 (by decide +kernel) rfl
theorem kw_137 : (Jvm.Cond.fieldLink "TrunkDuel" (259 : Nat) "TrunkDuel$State" "first" "LTrunkDuel$Player;") ∈ gw := gwt 137 (by decide +kernel) rfl
theorem kw_110 : (Jvm.Cond.fieldLink "TrunkDuel" (263 : Nat) "TrunkDuel$Player" "score" "I") ∈ gw := gwt 110 (by decide +kernel) rfl
theorem kw_140 : (Jvm.Cond.fieldLink "TrunkDuel" (268 : Nat) "TrunkDuel$State" "second" "LTrunkDuel$Player;") ∈ gw := gwt 140 (by decide +kernel) rfl
theorem kw_1267 : (Jvm.Cond.methodLink "TrunkDuel" (271 : Nat) ({ cls := "TrunkDuel", name := "requirePlayer", desc := "(I)V" } : Jvm.MethodName)) ∈ gw := gwt 1267 (by decide +kernel) rfl
theorem kw_1269 : (Jvm.Cond.code ({ cls := "TrunkDuel", name := "requirePlayer", desc := "(I)V" } : Jvm.MethodName) prog_1_method_64_code (1 : Nat) (Option.none : Option Jvm.ClassFile.FieldType)) ∈ gw := gwt 1269 (by decide +kernel) rfl
theorem kw_1268 : (Jvm.Cond.static ({ cls := "TrunkDuel", name := "requirePlayer", desc := "(I)V" } : Jvm.MethodName)) ∈ gw := gwt 1268 (by decide +kernel) rfl
theorem kw_875 : (Jvm.Cond.methodLink "TrunkDuel" (274 : Nat) ({ cls := "TrunkDuel$State", name := "playerOf", desc := "(I)LTrunkDuel$Player;" } : Jvm.MethodName)) ∈ gw := gwt 875 (by decide +kernel) rfl
theorem kw_1077 : (Jvm.Cond.methodLink "TrunkDuel" (278 : Nat) ({ cls := "TrunkDuel", name := "requireShape", desc := "(I)V" } : Jvm.MethodName)) ∈ gw := gwt 1077 (by decide +kernel) rfl
theorem kw_1079 : (Jvm.Cond.code ({ cls := "TrunkDuel", name := "requireShape", desc := "(I)V" } : Jvm.MethodName) prog_1_method_62_code (1 : Nat) (Option.none : Option Jvm.ClassFile.FieldType)) ∈ gw := gwt 1079 (by decide +kernel) rfl
theorem kw_1078 : (Jvm.Cond.static ({ cls := "TrunkDuel", name := "requireShape", desc := "(I)V" } : Jvm.MethodName)) ∈ gw := gwt 1078 (by decide +kernel) rfl
theorem kw_1278 : (Jvm.Cond.methodLink "TrunkDuel" (281 : Nat) ({ cls := "TrunkDuel$Player", name := "supplyOf", desc := "(I)I" } : Jvm.MethodName)) ∈ gw := gwt 1278 (by decide +kernel) rfl
theorem kw_114 : (Jvm.Cond.fieldLink "TrunkDuel" (284 : Nat) "TrunkDuel$Player" "straps" "I") ∈ gw := gwt 114 (by decide +kernel) rfl
theorem kw_1293 : (Jvm.Cond.methodLink "TrunkDuel" (287 : Nat) ({ cls := "TrunkDuel$Player", name := "letterAt", desc := "(I)I" } : Jvm.MethodName)) ∈ gw := gwt 1293 (by decide +kernel) rfl
theorem kw_1294 : (Jvm.Cond.instanceMethod ({ cls := "TrunkDuel$Player", name := "letterAt", desc := "(I)I" } : Jvm.MethodName)) ∈ gw := gwt 1294 (by decide +kernel) rfl
theorem kw_1295 : (Jvm.Cond.selects "TrunkDuel$Player" ({ cls := "TrunkDuel$Player", name := "letterAt", desc := "(I)I" } : Jvm.MethodName) ({ cls := "TrunkDuel$Player", name := "letterAt", desc := "(I)I" } : Jvm.MethodName)) ∈ gw := gwt 1295 (by decide +kernel) rfl
theorem kw_1296 : (Jvm.Cond.code ({ cls := "TrunkDuel$Player", name := "letterAt", desc := "(I)I" } : Jvm.MethodName) prog_7_method_5_code (2 : Nat) (Option.some Jvm.ClassFile.FieldType.int)) ∈ gw := gwt 1296 (by decide +kernel) rfl
theorem kw_1304 : (Jvm.Cond.methodLink "TrunkDuel" (290 : Nat) ({ cls := "TrunkDuel$Trunk", name := "misfitOf", desc := "(LTrunkDuel$Footprint;)I" } : Jvm.MethodName)) ∈ gw := gwt 1304 (by decide +kernel) rfl
theorem kw_1319 : (Jvm.Cond.methodLink "TrunkDuel" (293 : Nat) ({ cls := "TrunkDuel$Trunk", name := "pointsOf", desc := "(LTrunkDuel$Footprint;)I" } : Jvm.MethodName)) ∈ gw := gwt 1319 (by decide +kernel) rfl
theorem kw_1327 : (Jvm.Cond.methodLink "TrunkDuel" (295 : Nat) ({ cls := "TrunkDuel$State", name := "countMoves", desc := "(ILTrunkDuel$Footprint;)I" } : Jvm.MethodName)) ∈ gw := gwt 1327 (by decide +kernel) rfl
theorem kw_1328 : (Jvm.Cond.instanceMethod ({ cls := "TrunkDuel$State", name := "countMoves", desc := "(ILTrunkDuel$Footprint;)I" } : Jvm.MethodName)) ∈ gw := gwt 1328 (by decide +kernel) rfl
theorem kw_1329 : (Jvm.Cond.selects "TrunkDuel$State" ({ cls := "TrunkDuel$State", name := "countMoves", desc := "(ILTrunkDuel$Footprint;)I" } : Jvm.MethodName) ({ cls := "TrunkDuel$State", name := "countMoves", desc := "(ILTrunkDuel$Footprint;)I" } : Jvm.MethodName)) ∈ gw := gwt 1329 (by decide +kernel) rfl
theorem kw_1330 : (Jvm.Cond.code ({ cls := "TrunkDuel$State", name := "countMoves", desc := "(ILTrunkDuel$Footprint;)I" } : Jvm.MethodName) prog_10_method_12_code (5 : Nat) (Option.some Jvm.ClassFile.FieldType.int)) ∈ gw := gwt 1330 (by decide +kernel) rfl
theorem kw_1344 : (Jvm.Cond.methodLink "TrunkDuel" (299 : Nat) ({ cls := "TrunkDuel$Trunk", name := "countFitting", desc := "(ILTrunkDuel$Footprint;)I" } : Jvm.MethodName)) ∈ gw := gwt 1344 (by decide +kernel) rfl
theorem kw_841 : (Jvm.Cond.methodLink "TrunkDuel" (302 : Nat) ({ cls := "TrunkDuel$Choice", name := "search", desc := "(LTrunkDuel$State;LTrunkDuel$Footprint;)V" } : Jvm.MethodName)) ∈ gw := gwt 841 (by decide +kernel) rfl
theorem kw_842 : (Jvm.Cond.instanceMethod ({ cls := "TrunkDuel$Choice", name := "search", desc := "(LTrunkDuel$State;LTrunkDuel$Footprint;)V" } : Jvm.MethodName)) ∈ gw := gwt 842 (by decide +kernel) rfl
theorem kw_843 : (Jvm.Cond.selects "TrunkDuel$Choice" ({ cls := "TrunkDuel$Choice", name := "search", desc := "(LTrunkDuel$State;LTrunkDuel$Footprint;)V" } : Jvm.MethodName) ({ cls := "TrunkDuel$Choice", name := "search", desc := "(LTrunkDuel$State;LTrunkDuel$Footprint;)V" } : Jvm.MethodName)) ∈ gw := gwt 843 (by decide +kernel) rfl
theorem kw_844 : (Jvm.Cond.code ({ cls := "TrunkDuel$Choice", name := "search", desc := "(LTrunkDuel$State;LTrunkDuel$Footprint;)V" } : Jvm.MethodName) prog_2_method_2_code (4 : Nat) (Option.none : Option Jvm.ClassFile.FieldType)) ∈ gw := gwt 844 (by decide +kernel) rfl
theorem kw_291 : (Jvm.Cond.fieldLink "TrunkDuel" (306 : Nat) "TrunkDuel$Choice" "shape" "I") ∈ gw := gwt 291 (by decide +kernel) rfl
theorem kw_293 : (Jvm.Cond.fieldLink "TrunkDuel" (309 : Nat) "TrunkDuel$Choice" "rotation" "I") ∈ gw := gwt 293 (by decide +kernel) rfl
theorem kw_295 : (Jvm.Cond.fieldLink "TrunkDuel" (312 : Nat) "TrunkDuel$Choice" "column" "I") ∈ gw := gwt 295 (by decide +kernel) rfl
theorem kw_297 : (Jvm.Cond.fieldLink "TrunkDuel" (315 : Nat) "TrunkDuel$Choice" "row" "I") ∈ gw := gwt 297 (by decide +kernel) rfl
theorem kw_876 : (Jvm.Cond.methodLink "TrunkDuel" (318 : Nat) ({ cls := "TrunkDuel$Crossings", name := "mostFor", desc := "(LTrunkDuel$Player;LTrunkDuel$Trunk;LTrunkDuel$Footprint;)I" } : Jvm.MethodName)) ∈ gw := gwt 876 (by decide +kernel) rfl
theorem kw_877 : (Jvm.Cond.instanceMethod ({ cls := "TrunkDuel$Crossings", name := "mostFor", desc := "(LTrunkDuel$Player;LTrunkDuel$Trunk;LTrunkDuel$Footprint;)I" } : Jvm.MethodName)) ∈ gw := gwt 877 (by decide +kernel) rfl
theorem kw_878 : (Jvm.Cond.selects "TrunkDuel$Crossings" ({ cls := "TrunkDuel$Crossings", name := "mostFor", desc := "(LTrunkDuel$Player;LTrunkDuel$Trunk;LTrunkDuel$Footprint;)I" } : Jvm.MethodName) ({ cls := "TrunkDuel$Crossings", name := "mostFor", desc := "(LTrunkDuel$Player;LTrunkDuel$Trunk;LTrunkDuel$Footprint;)I" } : Jvm.MethodName)) ∈ gw := gwt 878 (by decide +kernel) rfl
theorem kw_879 : (Jvm.Cond.code ({ cls := "TrunkDuel$Crossings", name := "mostFor", desc := "(LTrunkDuel$Player;LTrunkDuel$Trunk;LTrunkDuel$Footprint;)I" } : Jvm.MethodName) prog_3_method_2_code (6 : Nat) (Option.some Jvm.ClassFile.FieldType.int)) ∈ gw := gwt 879 (by decide +kernel) rfl
theorem kw_901 : (Jvm.Cond.methodLink "TrunkDuel" (322 : Nat) ({ cls := "TrunkDuel$Regions", name := "survey", desc := "(LTrunkDuel$Trunk;)V" } : Jvm.MethodName)) ∈ gw := gwt 901 (by decide +kernel) rfl
theorem kw_902 : (Jvm.Cond.instanceMethod ({ cls := "TrunkDuel$Regions", name := "survey", desc := "(LTrunkDuel$Trunk;)V" } : Jvm.MethodName)) ∈ gw := gwt 902 (by decide +kernel) rfl
theorem kw_903 : (Jvm.Cond.selects "TrunkDuel$Regions" ({ cls := "TrunkDuel$Regions", name := "survey", desc := "(LTrunkDuel$Trunk;)V" } : Jvm.MethodName) ({ cls := "TrunkDuel$Regions", name := "survey", desc := "(LTrunkDuel$Trunk;)V" } : Jvm.MethodName)) ∈ gw := gwt 903 (by decide +kernel) rfl
theorem kw_904 : (Jvm.Cond.code ({ cls := "TrunkDuel$Regions", name := "survey", desc := "(LTrunkDuel$Trunk;)V" } : Jvm.MethodName) prog_9_method_2_code (4 : Nat) (Option.none : Option Jvm.ClassFile.FieldType)) ∈ gw := gwt 904 (by decide +kernel) rfl
theorem kw_327 : (Jvm.Cond.fieldLink "TrunkDuel" (326 : Nat) "TrunkDuel$Regions" "count" "I") ∈ gw := gwt 327 (by decide +kernel) rfl
theorem kw_919 : (Jvm.Cond.methodLink "TrunkDuel" (327 : Nat) ({ cls := "TrunkDuel$Regions", name := "sizeOf", desc := "(I)I" } : Jvm.MethodName)) ∈ gw := gwt 919 (by decide +kernel) rfl
theorem kw_923 : (Jvm.Cond.methodLink "TrunkDuel" (330 : Nat) ({ cls := "java/lang/Math", name := "max", desc := "(II)I" } : Jvm.MethodName)) ∈ gw := gwt 923 (by decide +kernel) rfl
theorem kw_1359 : (Jvm.Cond.methodLink "TrunkDuel" (335 : Nat) ({ cls := "TrunkDuel$Regions", name := "sizeAt", desc := "(II)I" } : Jvm.MethodName)) ∈ gw := gwt 1359 (by decide +kernel) rfl
theorem kw_1360 : (Jvm.Cond.instanceMethod ({ cls := "TrunkDuel$Regions", name := "sizeAt", desc := "(II)I" } : Jvm.MethodName)) ∈ gw := gwt 1360 (by decide +kernel) rfl
theorem kw_1361 : (Jvm.Cond.selects "TrunkDuel$Regions" ({ cls := "TrunkDuel$Regions", name := "sizeAt", desc := "(II)I" } : Jvm.MethodName) ({ cls := "TrunkDuel$Regions", name := "sizeAt", desc := "(II)I" } : Jvm.MethodName)) ∈ gw := gwt 1361 (by decide +kernel) rfl
theorem kw_1362 : (Jvm.Cond.code ({ cls := "TrunkDuel$Regions", name := "sizeAt", desc := "(II)I" } : Jvm.MethodName) prog_9_method_4_code (3 : Nat) (Option.some Jvm.ClassFile.FieldType.int)) ∈ gw := gwt 1362 (by decide +kernel) rfl
theorem kw_944 : (Jvm.Cond.methodLink "TrunkDuel" (338 : Nat) ({ cls := "TrunkDuel$Footprint", name := "turn", desc := "(II)V" } : Jvm.MethodName)) ∈ gw := gwt 944 (by decide +kernel) rfl
theorem kw_953 : (Jvm.Cond.methodLink "TrunkDuel" (341 : Nat) ({ cls := "TrunkDuel$Footprint", name := "moveTo", desc := "(II)V" } : Jvm.MethodName)) ∈ gw := gwt 953 (by decide +kernel) rfl
theorem kw_180 : (Jvm.Cond.fieldLink "TrunkDuel" (344 : Nat) "TrunkDuel$Footprint" "size" "I") ∈ gw := gwt 180 (by decide +kernel) rfl
theorem kw_958 : (Jvm.Cond.methodLink "TrunkDuel" (347 : Nat) ({ cls := "TrunkDuel$Trunk", name := "isCrossedBy", desc := "(LTrunkDuel$Footprint;)Z" } : Jvm.MethodName)) ∈ gw := gwt 958 (by decide +kernel) rfl
theorem kw_959 : (Jvm.Cond.methodLink "TrunkDuel" (350 : Nat) ({ cls := "TrunkDuel$Trunk", name := "countCovered", desc := "()I" } : Jvm.MethodName)) ∈ gw := gwt 959 (by decide +kernel) rfl
theorem kw_960 : (Jvm.Cond.instanceMethod ({ cls := "TrunkDuel$Trunk", name := "countCovered", desc := "()I" } : Jvm.MethodName)) ∈ gw := gwt 960 (by decide +kernel) rfl
theorem kw_961 : (Jvm.Cond.selects "TrunkDuel$Trunk" ({ cls := "TrunkDuel$Trunk", name := "countCovered", desc := "()I" } : Jvm.MethodName) ({ cls := "TrunkDuel$Trunk", name := "countCovered", desc := "()I" } : Jvm.MethodName)) ∈ gw := gwt 961 (by decide +kernel) rfl
theorem kw_962 : (Jvm.Cond.code ({ cls := "TrunkDuel$Trunk", name := "countCovered", desc := "()I" } : Jvm.MethodName) prog_11_method_15_code (1 : Nat) (Option.some Jvm.ClassFile.FieldType.int)) ∈ gw := gwt 962 (by decide +kernel) rfl
theorem kw_964 : (Jvm.Cond.methodLink "TrunkDuel" (353 : Nat) ({ cls := "java/lang/Math", name := "abs", desc := "(I)I" } : Jvm.MethodName)) ∈ gw := gwt 964 (by decide +kernel) rfl
theorem kw_977 : (Jvm.Cond.methodLink "TrunkDuel" (356 : Nat) ({ cls := "TrunkDuel", name := "writeByte", desc := "(I)V" } : Jvm.MethodName)) ∈ gw := gwt 977 (by decide +kernel) rfl
theorem kw_979 : (Jvm.Cond.instanceMethod ({ cls := "TrunkDuel", name := "writeByte", desc := "(I)V" } : Jvm.MethodName)) ∈ gw := gwt 979 (by decide +kernel) rfl
theorem kp_26 : (Jvm.Cond.selects "TrunkDuel" ({ cls := "TrunkDuel", name := "writeByte", desc := "(I)V" } : Jvm.MethodName) ({ cls := "TrunkDuel", name := "writeByte", desc := "(I)V" } : Jvm.MethodName)) ∈ gw := gws 26 (by decide +kernel) rfl
theorem kw_980 : (Jvm.Cond.code ({ cls := "TrunkDuel", name := "writeByte", desc := "(I)V" } : Jvm.MethodName) prog_1_method_59_code (2 : Nat) (Option.none : Option Jvm.ClassFile.FieldType)) ∈ gw := gwt 980 (by decide +kernel) rfl
theorem kw_982 : (Jvm.Cond.methodLink "TrunkDuel" (359 : Nat) ({ cls := "TrunkDuel", name := "signOf", desc := "(I)I" } : Jvm.MethodName)) ∈ gw := gwt 982 (by decide +kernel) rfl
theorem kw_984 : (Jvm.Cond.code ({ cls := "TrunkDuel", name := "signOf", desc := "(I)I" } : Jvm.MethodName) prog_1_method_60_code (1 : Nat) (Option.some Jvm.ClassFile.FieldType.int)) ∈ gw := gwt 984 (by decide +kernel) rfl
theorem kw_983 : (Jvm.Cond.static ({ cls := "TrunkDuel", name := "signOf", desc := "(I)I" } : Jvm.MethodName)) ∈ gw := gwt 983 (by decide +kernel) rfl
theorem kw_1086 : (Jvm.Cond.methodLink "TrunkDuel" (370 : Nat) ({ cls := "TrunkDuel$Trunk", name := "holds", desc := "(II)Z" } : Jvm.MethodName)) ∈ gw := gwt 1086 (by decide +kernel) rfl
theorem kw_1133 : (Jvm.Cond.methodLink "TrunkDuel" (378 : Nat) ({ cls := "TrunkDuel$Trunk", name := "holdsEdge", desc := "(III)Z" } : Jvm.MethodName)) ∈ gw := gwt 1133 (by decide +kernel) rfl
theorem kw_1376 : (Jvm.Cond.methodLink "TrunkDuelModel" (3 : Nat) ({ cls := "java/lang/Object", name := "<init>", desc := "()V" } : Jvm.MethodName)) ∈ gw := gwt 1376 (by decide +kernel) rfl
theorem kw_1606 : (Jvm.Cond.fieldLink "TrunkDuelModel" (9 : Nat) "TrunkDuelModel" "s" "[I") ∈ gw := gwt 1606 (by decide +kernel) rfl
theorem kw_1607 : (Jvm.Cond.fieldLink "TrunkDuelModel" (13 : Nat) "TrunkDuelModel" "aside" "[I") ∈ gw := gwt 1607 (by decide +kernel) rfl
theorem kw_1608 : (Jvm.Cond.fieldLink "TrunkDuelModel" (16 : Nat) "TrunkDuelModel" "kept" "[I") ∈ gw := gwt 1608 (by decide +kernel) rfl
theorem kw_1609 : (Jvm.Cond.fieldLink "TrunkDuelModel" (19 : Nat) "TrunkDuelModel" "slots" "[I") ∈ gw := gwt 1609 (by decide +kernel) rfl
theorem kw_1610 : (Jvm.Cond.fieldLink "TrunkDuelModel" (22 : Nat) "TrunkDuelModel" "before" "[I") ∈ gw := gwt 1610 (by decide +kernel) rfl
theorem kw_1611 : (Jvm.Cond.fieldLink "TrunkDuelModel" (25 : Nat) "TrunkDuelModel" "isSaved" "[Z") ∈ gw := gwt 1611 (by decide +kernel) rfl
theorem kw_1614 : (Jvm.Cond.fieldLink "TrunkDuelModel" (29 : Nat) "TrunkDuelModel" "input" "[I") ∈ gw := gwt 1614 (by decide +kernel) rfl
theorem kw_1615 : (Jvm.Cond.fieldLink "TrunkDuelModel" (32 : Nat) "TrunkDuelModel" "output" "[I") ∈ gw := gwt 1615 (by decide +kernel) rfl
theorem kw_1616 : (Jvm.Cond.fieldLink "TrunkDuelModel" (35 : Nat) "TrunkDuelModel" "atX" "[I") ∈ gw := gwt 1616 (by decide +kernel) rfl
theorem kw_1617 : (Jvm.Cond.fieldLink "TrunkDuelModel" (38 : Nat) "TrunkDuelModel" "atY" "[I") ∈ gw := gwt 1617 (by decide +kernel) rfl
theorem kw_1618 : (Jvm.Cond.fieldLink "TrunkDuelModel" (41 : Nat) "TrunkDuelModel" "region" "[I") ∈ gw := gwt 1618 (by decide +kernel) rfl
theorem kw_1622 : (Jvm.Cond.fieldLink "TrunkDuelModel" (44 : Nat) "TrunkDuelModel" "errorOffset" "I") ∈ gw := gwt 1622 (by decide +kernel) rfl
theorem kw_1378 : (Jvm.Cond.methodLink "TrunkDuelModel" (50 : Nat) ({ cls := "TrunkDuelModel", name := "lays", desc := "(Ljava/lang/String;)V" } : Jvm.MethodName)) ∈ gw := gwt 1378 (by decide +kernel) rfl
theorem kw_1380 : (Jvm.Cond.instanceMethod ({ cls := "TrunkDuelModel", name := "lays", desc := "(Ljava/lang/String;)V" } : Jvm.MethodName)) ∈ gw := gwt 1380 (by decide +kernel) rfl
theorem kp_32 : (Jvm.Cond.selects "TrunkDuelModel" ({ cls := "TrunkDuelModel", name := "lays", desc := "(Ljava/lang/String;)V" } : Jvm.MethodName) ({ cls := "TrunkDuelModel", name := "lays", desc := "(Ljava/lang/String;)V" } : Jvm.MethodName)) ∈ gw := gws 32 (by decide +kernel) rfl
theorem kw_18 : (Jvm.Cond.initialized "TrunkDuelModel") ∈ gw := gwt 18 (by decide +kernel) rfl
theorem kw_1381 : (Jvm.Cond.code ({ cls := "TrunkDuelModel", name := "lays", desc := "(Ljava/lang/String;)V" } : Jvm.MethodName) prog_13_method_2_code (3 : Nat) (Option.none : Option Jvm.ClassFile.FieldType)) ∈ gw := gwt 1381 (by decide +kernel) rfl
theorem kw_1382 : (Jvm.Cond.methodLink "TrunkDuelModel" (54 : Nat) ({ cls := "java/lang/String", name := "length", desc := "()I" } : Jvm.MethodName)) ∈ gw := gwt 1382 (by decide +kernel) rfl
theorem kw_1619 : (Jvm.Cond.fieldLink "TrunkDuelModel" (60 : Nat) "TrunkDuelModel" "inputMany" "I") ∈ gw := gwt 1619 (by decide +kernel) rfl
theorem kw_1383 : (Jvm.Cond.methodLink "TrunkDuelModel" (63 : Nat) ({ cls := "java/lang/String", name := "charAt", desc := "(I)C" } : Jvm.MethodName)) ∈ gw := gwt 1383 (by decide +kernel) rfl
theorem kw_1384 : (Jvm.Cond.methodLink "TrunkDuelModel" (67 : Nat) ({ cls := "TrunkDuelModel", name := "load", desc := "()I" } : Jvm.MethodName)) ∈ gw := gwt 1384 (by decide +kernel) rfl
theorem kw_1385 : (Jvm.Cond.instanceMethod ({ cls := "TrunkDuelModel", name := "load", desc := "()I" } : Jvm.MethodName)) ∈ gw := gwt 1385 (by decide +kernel) rfl
theorem kw_1386 : (Jvm.Cond.selects "TrunkDuelModel" ({ cls := "TrunkDuelModel", name := "load", desc := "()I" } : Jvm.MethodName) ({ cls := "TrunkDuelModel", name := "load", desc := "()I" } : Jvm.MethodName)) ∈ gw := gwt 1386 (by decide +kernel) rfl
theorem kw_1387 : (Jvm.Cond.code ({ cls := "TrunkDuelModel", name := "load", desc := "()I" } : Jvm.MethodName) prog_13_method_61_code (2 : Nat) (Option.some Jvm.ClassFile.FieldType.int)) ∈ gw := gwt 1387 (by decide +kernel) rfl
theorem kw_1612 : (Jvm.Cond.fieldLink "TrunkDuelModel" (70 : Nat) "TrunkDuelModel" "changes" "I") ∈ gw := gwt 1612 (by decide +kernel) rfl
theorem kw_1613 : (Jvm.Cond.fieldLink "TrunkDuelModel" (73 : Nat) "TrunkDuelModel" "thrown" "I") ∈ gw := gwt 1613 (by decide +kernel) rfl
theorem kw_1395 : (Jvm.Cond.methodLink "TrunkDuelModel" (76 : Nat) ({ cls := "java/lang/System", name := "arraycopy", desc := "(Ljava/lang/Object;ILjava/lang/Object;II)V" } : Jvm.MethodName)) ∈ gw := gwt 1395 (by decide +kernel) rfl
theorem kw_1392 : (Jvm.Cond.methodLink "TrunkDuelModel" (82 : Nat) ({ cls := "TrunkDuelModel", name := "copy", desc := "([II[II)V" } : Jvm.MethodName)) ∈ gw := gwt 1392 (by decide +kernel) rfl
theorem kw_1394 : (Jvm.Cond.code ({ cls := "TrunkDuelModel", name := "copy", desc := "([II[II)V" } : Jvm.MethodName) prog_13_method_7_code (4 : Nat) (Option.none : Option Jvm.ClassFile.FieldType)) ∈ gw := gwt 1394 (by decide +kernel) rfl
theorem kw_1393 : (Jvm.Cond.static ({ cls := "TrunkDuelModel", name := "copy", desc := "([II[II)V" } : Jvm.MethodName)) ∈ gw := gwt 1393 (by decide +kernel) rfl
theorem kw_1404 : (Jvm.Cond.methodLink "TrunkDuelModel" (86 : Nat) ({ cls := "TrunkDuelModel", name := "isIn", desc := "(III)Z" } : Jvm.MethodName)) ∈ gw := gwt 1404 (by decide +kernel) rfl
theorem kw_1406 : (Jvm.Cond.code ({ cls := "TrunkDuelModel", name := "isIn", desc := "(III)Z" } : Jvm.MethodName) prog_13_method_6_code (3 : Nat) (Option.some Jvm.ClassFile.FieldType.boolean)) ∈ gw := gwt 1406 (by decide +kernel) rfl
theorem kw_1405 : (Jvm.Cond.static ({ cls := "TrunkDuelModel", name := "isIn", desc := "(III)Z" } : Jvm.MethodName)) ∈ gw := gwt 1405 (by decide +kernel) rfl
theorem kw_1447 : (Jvm.Cond.methodLink "TrunkDuelModel" (90 : Nat) ({ cls := "TrunkDuelModel", name := "at", desc := "(II)I" } : Jvm.MethodName)) ∈ gw := gwt 1447 (by decide +kernel) rfl
theorem kw_1449 : (Jvm.Cond.code ({ cls := "TrunkDuelModel", name := "at", desc := "(II)I" } : Jvm.MethodName) prog_13_method_10_code (2 : Nat) (Option.some Jvm.ClassFile.FieldType.int)) ∈ gw := gwt 1449 (by decide +kernel) rfl
theorem kw_1448 : (Jvm.Cond.static ({ cls := "TrunkDuelModel", name := "at", desc := "(II)I" } : Jvm.MethodName)) ∈ gw := gwt 1448 (by decide +kernel) rfl
theorem kw_1466 : (Jvm.Cond.methodLink "TrunkDuelModel" (94 : Nat) ({ cls := "TrunkDuelModel", name := "isInside", desc := "(II)Z" } : Jvm.MethodName)) ∈ gw := gwt 1466 (by decide +kernel) rfl
theorem kw_1468 : (Jvm.Cond.instanceMethod ({ cls := "TrunkDuelModel", name := "isInside", desc := "(II)Z" } : Jvm.MethodName)) ∈ gw := gwt 1468 (by decide +kernel) rfl
theorem kp_48 : (Jvm.Cond.selects "TrunkDuelModel" ({ cls := "TrunkDuelModel", name := "isInside", desc := "(II)Z" } : Jvm.MethodName) ({ cls := "TrunkDuelModel", name := "isInside", desc := "(II)Z" } : Jvm.MethodName)) ∈ gw := gws 48 (by decide +kernel) rfl
theorem kw_1469 : (Jvm.Cond.code ({ cls := "TrunkDuelModel", name := "isInside", desc := "(II)Z" } : Jvm.MethodName) prog_13_method_9_code (3 : Nat) (Option.some Jvm.ClassFile.FieldType.boolean)) ∈ gw := gwt 1469 (by decide +kernel) rfl
theorem kw_1443 : (Jvm.Cond.methodLink "TrunkDuelModel" (98 : Nat) ({ cls := "TrunkDuelModel", name := "cell", desc := "(II)I" } : Jvm.MethodName)) ∈ gw := gwt 1443 (by decide +kernel) rfl
theorem kw_1445 : (Jvm.Cond.instanceMethod ({ cls := "TrunkDuelModel", name := "cell", desc := "(II)I" } : Jvm.MethodName)) ∈ gw := gwt 1445 (by decide +kernel) rfl
theorem kp_44 : (Jvm.Cond.selects "TrunkDuelModel" ({ cls := "TrunkDuelModel", name := "cell", desc := "(II)I" } : Jvm.MethodName) ({ cls := "TrunkDuelModel", name := "cell", desc := "(II)I" } : Jvm.MethodName)) ∈ gw := gws 44 (by decide +kernel) rfl
theorem kw_1446 : (Jvm.Cond.code ({ cls := "TrunkDuelModel", name := "cell", desc := "(II)I" } : Jvm.MethodName) prog_13_method_11_code (3 : Nat) (Option.some Jvm.ClassFile.FieldType.int)) ∈ gw := gwt 1446 (by decide +kernel) rfl
theorem kw_1412 : (Jvm.Cond.methodLink "TrunkDuelModel" (101 : Nat) ({ cls := "java/lang/Math", name := "min", desc := "(II)I" } : Jvm.MethodName)) ∈ gw := gwt 1412 (by decide +kernel) rfl
theorem kw_1470 : (Jvm.Cond.methodLink "TrunkDuelModel" (106 : Nat) ({ cls := "TrunkDuelModel", name := "edge", desc := "(III)I" } : Jvm.MethodName)) ∈ gw := gwt 1470 (by decide +kernel) rfl
theorem kw_1472 : (Jvm.Cond.code ({ cls := "TrunkDuelModel", name := "edge", desc := "(III)I" } : Jvm.MethodName) prog_13_method_15_code (3 : Nat) (Option.some Jvm.ClassFile.FieldType.int)) ∈ gw := gwt 1472 (by decide +kernel) rfl
theorem kw_1471 : (Jvm.Cond.static ({ cls := "TrunkDuelModel", name := "edge", desc := "(III)I" } : Jvm.MethodName)) ∈ gw := gwt 1471 (by decide +kernel) rfl
theorem kw_1544 : (Jvm.Cond.methodLink "TrunkDuelModel" (110 : Nat) ({ cls := "java/lang/Math", name := "abs", desc := "(I)I" } : Jvm.MethodName)) ∈ gw := gwt 1544 (by decide +kernel) rfl
theorem kw_1528 : (Jvm.Cond.methodLink "TrunkDuelModel" (114 : Nat) ({ cls := "TrunkDuelModel", name := "sizeOf", desc := "(I)I" } : Jvm.MethodName)) ∈ gw := gwt 1528 (by decide +kernel) rfl
theorem kw_1530 : (Jvm.Cond.code ({ cls := "TrunkDuelModel", name := "sizeOf", desc := "(I)I" } : Jvm.MethodName) prog_13_method_20_code (1 : Nat) (Option.some Jvm.ClassFile.FieldType.int)) ∈ gw := gwt 1530 (by decide +kernel) rfl
theorem kw_1529 : (Jvm.Cond.static ({ cls := "TrunkDuelModel", name := "sizeOf", desc := "(I)I" } : Jvm.MethodName)) ∈ gw := gwt 1529 (by decide +kernel) rfl
theorem kw_1623 : (Jvm.Cond.fieldLink "TrunkDuelModel" (117 : Nat) "TrunkDuelModel" "size" "I") ∈ gw := gwt 1623 (by decide +kernel) rfl
theorem kw_1531 : (Jvm.Cond.methodLink "TrunkDuelModel" (120 : Nat) ({ cls := "TrunkDuelModel", name := "dx", desc := "(II)I" } : Jvm.MethodName)) ∈ gw := gwt 1531 (by decide +kernel) rfl
theorem kw_1533 : (Jvm.Cond.code ({ cls := "TrunkDuelModel", name := "dx", desc := "(II)I" } : Jvm.MethodName) prog_13_method_18_code (2 : Nat) (Option.some Jvm.ClassFile.FieldType.int)) ∈ gw := gwt 1533 (by decide +kernel) rfl
theorem kw_1532 : (Jvm.Cond.static ({ cls := "TrunkDuelModel", name := "dx", desc := "(II)I" } : Jvm.MethodName)) ∈ gw := gwt 1532 (by decide +kernel) rfl
theorem kw_1534 : (Jvm.Cond.methodLink "TrunkDuelModel" (123 : Nat) ({ cls := "TrunkDuelModel", name := "dy", desc := "(II)I" } : Jvm.MethodName)) ∈ gw := gwt 1534 (by decide +kernel) rfl
theorem kw_1536 : (Jvm.Cond.code ({ cls := "TrunkDuelModel", name := "dy", desc := "(II)I" } : Jvm.MethodName) prog_13_method_19_code (2 : Nat) (Option.some Jvm.ClassFile.FieldType.int)) ∈ gw := gwt 1536 (by decide +kernel) rfl
theorem kw_1535 : (Jvm.Cond.static ({ cls := "TrunkDuelModel", name := "dy", desc := "(II)I" } : Jvm.MethodName)) ∈ gw := gwt 1535 (by decide +kernel) rfl
theorem kw_1541 : (Jvm.Cond.methodLink "TrunkDuelModel" (126 : Nat) ({ cls := "TrunkDuelModel", name := "areNeighbours", desc := "(IIII)Z" } : Jvm.MethodName)) ∈ gw := gwt 1541 (by decide +kernel) rfl
theorem kw_1543 : (Jvm.Cond.code ({ cls := "TrunkDuelModel", name := "areNeighbours", desc := "(IIII)Z" } : Jvm.MethodName) prog_13_method_17_code (4 : Nat) (Option.some Jvm.ClassFile.FieldType.boolean)) ∈ gw := gwt 1543 (by decide +kernel) rfl
theorem kw_1542 : (Jvm.Cond.static ({ cls := "TrunkDuelModel", name := "areNeighbours", desc := "(IIII)Z" } : Jvm.MethodName)) ∈ gw := gwt 1542 (by decide +kernel) rfl
theorem kw_1545 : (Jvm.Cond.methodLink "TrunkDuelModel" (130 : Nat) ({ cls := "TrunkDuelModel", name := "isStrapped", desc := "(IIII)Z" } : Jvm.MethodName)) ∈ gw := gwt 1545 (by decide +kernel) rfl
theorem kw_1547 : (Jvm.Cond.instanceMethod ({ cls := "TrunkDuelModel", name := "isStrapped", desc := "(IIII)Z" } : Jvm.MethodName)) ∈ gw := gwt 1547 (by decide +kernel) rfl
theorem kp_62 : (Jvm.Cond.selects "TrunkDuelModel" ({ cls := "TrunkDuelModel", name := "isStrapped", desc := "(IIII)Z" } : Jvm.MethodName) ({ cls := "TrunkDuelModel", name := "isStrapped", desc := "(IIII)Z" } : Jvm.MethodName)) ∈ gw := gws 62 (by decide +kernel) rfl
theorem kw_1548 : (Jvm.Cond.code ({ cls := "TrunkDuelModel", name := "isStrapped", desc := "(IIII)Z" } : Jvm.MethodName) prog_13_method_16_code (5 : Nat) (Option.some Jvm.ClassFile.FieldType.boolean)) ∈ gw := gwt 1548 (by decide +kernel) rfl
theorem kw_1524 : (Jvm.Cond.methodLink "TrunkDuelModel" (133 : Nat) ({ cls := "TrunkDuelModel", name := "spreads", desc := "(IIII)V" } : Jvm.MethodName)) ∈ gw := gwt 1524 (by decide +kernel) rfl
theorem kw_1526 : (Jvm.Cond.instanceMethod ({ cls := "TrunkDuelModel", name := "spreads", desc := "(IIII)V" } : Jvm.MethodName)) ∈ gw := gwt 1526 (by decide +kernel) rfl
theorem kp_60 : (Jvm.Cond.selects "TrunkDuelModel" ({ cls := "TrunkDuelModel", name := "spreads", desc := "(IIII)V" } : Jvm.MethodName) ({ cls := "TrunkDuelModel", name := "spreads", desc := "(IIII)V" } : Jvm.MethodName)) ∈ gw := gws 60 (by decide +kernel) rfl
theorem kw_1527 : (Jvm.Cond.code ({ cls := "TrunkDuelModel", name := "spreads", desc := "(IIII)V" } : Jvm.MethodName) prog_13_method_21_code (10 : Nat) (Option.none : Option Jvm.ClassFile.FieldType)) ∈ gw := gwt 1527 (by decide +kernel) rfl
theorem kw_1537 : (Jvm.Cond.methodLink "TrunkDuelModel" (137 : Nat) ({ cls := "TrunkDuelModel", name := "crosses", desc := "()Z" } : Jvm.MethodName)) ∈ gw := gwt 1537 (by decide +kernel) rfl
theorem kw_1539 : (Jvm.Cond.instanceMethod ({ cls := "TrunkDuelModel", name := "crosses", desc := "()Z" } : Jvm.MethodName)) ∈ gw := gwt 1539 (by decide +kernel) rfl
theorem kp_61 : (Jvm.Cond.selects "TrunkDuelModel" ({ cls := "TrunkDuelModel", name := "crosses", desc := "()Z" } : Jvm.MethodName) ({ cls := "TrunkDuelModel", name := "crosses", desc := "()Z" } : Jvm.MethodName)) ∈ gw := gws 61 (by decide +kernel) rfl
theorem kw_1540 : (Jvm.Cond.code ({ cls := "TrunkDuelModel", name := "crosses", desc := "()Z" } : Jvm.MethodName) prog_13_method_22_code (3 : Nat) (Option.some Jvm.ClassFile.FieldType.boolean)) ∈ gw := gwt 1540 (by decide +kernel) rfl
theorem kw_1557 : (Jvm.Cond.methodLink "TrunkDuelModel" (141 : Nat) ({ cls := "TrunkDuelModel", name := "emptyIn", desc := "(I)I" } : Jvm.MethodName)) ∈ gw := gwt 1557 (by decide +kernel) rfl
theorem kw_1559 : (Jvm.Cond.instanceMethod ({ cls := "TrunkDuelModel", name := "emptyIn", desc := "(I)I" } : Jvm.MethodName)) ∈ gw := gwt 1559 (by decide +kernel) rfl
theorem kp_65 : (Jvm.Cond.selects "TrunkDuelModel" ({ cls := "TrunkDuelModel", name := "emptyIn", desc := "(I)I" } : Jvm.MethodName) ({ cls := "TrunkDuelModel", name := "emptyIn", desc := "(I)I" } : Jvm.MethodName)) ∈ gw := gws 65 (by decide +kernel) rfl
theorem kw_1560 : (Jvm.Cond.code ({ cls := "TrunkDuelModel", name := "emptyIn", desc := "(I)I" } : Jvm.MethodName) prog_13_method_24_code (4 : Nat) (Option.some Jvm.ClassFile.FieldType.int)) ∈ gw := gwt 1560 (by decide +kernel) rfl
theorem kw_1520 : (Jvm.Cond.methodLink "TrunkDuelModel" (144 : Nat) ({ cls := "TrunkDuelModel", name := "misfit", desc := "(IIII)I" } : Jvm.MethodName)) ∈ gw := gwt 1520 (by decide +kernel) rfl
theorem kw_1522 : (Jvm.Cond.instanceMethod ({ cls := "TrunkDuelModel", name := "misfit", desc := "(IIII)I" } : Jvm.MethodName)) ∈ gw := gwt 1522 (by decide +kernel) rfl
theorem kp_59 : (Jvm.Cond.selects "TrunkDuelModel" ({ cls := "TrunkDuelModel", name := "misfit", desc := "(IIII)I" } : Jvm.MethodName) ({ cls := "TrunkDuelModel", name := "misfit", desc := "(IIII)I" } : Jvm.MethodName)) ∈ gw := gws 59 (by decide +kernel) rfl
theorem kw_1523 : (Jvm.Cond.code ({ cls := "TrunkDuelModel", name := "misfit", desc := "(IIII)I" } : Jvm.MethodName) prog_13_method_23_code (6 : Nat) (Option.some Jvm.ClassFile.FieldType.int)) ∈ gw := gwt 1523 (by decide +kernel) rfl
theorem kw_1482 : (Jvm.Cond.methodLink "TrunkDuelModel" (148 : Nat) ({ cls := "TrunkDuelModel", name := "of", desc := "(II)I" } : Jvm.MethodName)) ∈ gw := gwt 1482 (by decide +kernel) rfl
theorem kw_1484 : (Jvm.Cond.instanceMethod ({ cls := "TrunkDuelModel", name := "of", desc := "(II)I" } : Jvm.MethodName)) ∈ gw := gwt 1484 (by decide +kernel) rfl
theorem kp_51 : (Jvm.Cond.selects "TrunkDuelModel" ({ cls := "TrunkDuelModel", name := "of", desc := "(II)I" } : Jvm.MethodName) ({ cls := "TrunkDuelModel", name := "of", desc := "(II)I" } : Jvm.MethodName)) ∈ gw := gws 51 (by decide +kernel) rfl
theorem kw_1485 : (Jvm.Cond.code ({ cls := "TrunkDuelModel", name := "of", desc := "(II)I" } : Jvm.MethodName) prog_13_method_27_code (3 : Nat) (Option.some Jvm.ClassFile.FieldType.int)) ∈ gw := gwt 1485 (by decide +kernel) rfl
theorem kw_1590 : (Jvm.Cond.methodLink "TrunkDuelModel" (151 : Nat) ({ cls := "TrunkDuelModel", name := "fitting", desc := "(I)I" } : Jvm.MethodName)) ∈ gw := gwt 1590 (by decide +kernel) rfl
theorem kw_1592 : (Jvm.Cond.instanceMethod ({ cls := "TrunkDuelModel", name := "fitting", desc := "(I)I" } : Jvm.MethodName)) ∈ gw := gwt 1592 (by decide +kernel) rfl
theorem kp_73 : (Jvm.Cond.selects "TrunkDuelModel" ({ cls := "TrunkDuelModel", name := "fitting", desc := "(I)I" } : Jvm.MethodName) ({ cls := "TrunkDuelModel", name := "fitting", desc := "(I)I" } : Jvm.MethodName)) ∈ gw := gws 73 (by decide +kernel) rfl
theorem kw_1593 : (Jvm.Cond.code ({ cls := "TrunkDuelModel", name := "fitting", desc := "(I)I" } : Jvm.MethodName) prog_13_method_26_code (6 : Nat) (Option.some Jvm.ClassFile.FieldType.int)) ∈ gw := gwt 1593 (by decide +kernel) rfl
theorem kw_1516 : (Jvm.Cond.methodLink "TrunkDuelModel" (154 : Nat) ({ cls := "TrunkDuelModel", name := "over", desc := "()Z" } : Jvm.MethodName)) ∈ gw := gwt 1516 (by decide +kernel) rfl
theorem kw_1518 : (Jvm.Cond.instanceMethod ({ cls := "TrunkDuelModel", name := "over", desc := "()Z" } : Jvm.MethodName)) ∈ gw := gwt 1518 (by decide +kernel) rfl
theorem kp_58 : (Jvm.Cond.selects "TrunkDuelModel" ({ cls := "TrunkDuelModel", name := "over", desc := "()Z" } : Jvm.MethodName) ({ cls := "TrunkDuelModel", name := "over", desc := "()Z" } : Jvm.MethodName)) ∈ gw := gws 58 (by decide +kernel) rfl
theorem kw_1519 : (Jvm.Cond.code ({ cls := "TrunkDuelModel", name := "over", desc := "()Z" } : Jvm.MethodName) prog_13_method_29_code (1 : Nat) (Option.some Jvm.ClassFile.FieldType.boolean)) ∈ gw := gwt 1519 (by decide +kernel) rfl
theorem kw_1553 : (Jvm.Cond.methodLink "TrunkDuelModel" (157 : Nat) ({ cls := "TrunkDuelModel", name := "points", desc := "(IIII)I" } : Jvm.MethodName)) ∈ gw := gwt 1553 (by decide +kernel) rfl
theorem kw_1555 : (Jvm.Cond.instanceMethod ({ cls := "TrunkDuelModel", name := "points", desc := "(IIII)I" } : Jvm.MethodName)) ∈ gw := gwt 1555 (by decide +kernel) rfl
theorem kp_64 : (Jvm.Cond.selects "TrunkDuelModel" ({ cls := "TrunkDuelModel", name := "points", desc := "(IIII)I" } : Jvm.MethodName) ({ cls := "TrunkDuelModel", name := "points", desc := "(IIII)I" } : Jvm.MethodName)) ∈ gw := gws 64 (by decide +kernel) rfl
theorem kw_1556 : (Jvm.Cond.code ({ cls := "TrunkDuelModel", name := "points", desc := "(IIII)I" } : Jvm.MethodName) prog_13_method_25_code (9 : Nat) (Option.some Jvm.ClassFile.FieldType.int)) ∈ gw := gwt 1556 (by decide +kernel) rfl
theorem kw_1486 : (Jvm.Cond.methodLink "TrunkDuelModel" (160 : Nat) ({ cls := "TrunkDuelModel", name := "put", desc := "(III)V" } : Jvm.MethodName)) ∈ gw := gwt 1486 (by decide +kernel) rfl
theorem kw_1488 : (Jvm.Cond.instanceMethod ({ cls := "TrunkDuelModel", name := "put", desc := "(III)V" } : Jvm.MethodName)) ∈ gw := gwt 1488 (by decide +kernel) rfl
theorem kp_52 : (Jvm.Cond.selects "TrunkDuelModel" ({ cls := "TrunkDuelModel", name := "put", desc := "(III)V" } : Jvm.MethodName) ({ cls := "TrunkDuelModel", name := "put", desc := "(III)V" } : Jvm.MethodName)) ∈ gw := gws 52 (by decide +kernel) rfl
theorem kw_1489 : (Jvm.Cond.code ({ cls := "TrunkDuelModel", name := "put", desc := "(III)V" } : Jvm.MethodName) prog_13_method_28_code (4 : Nat) (Option.none : Option Jvm.ClassFile.FieldType)) ∈ gw := gwt 1489 (by decide +kernel) rfl
theorem kw_1561 : (Jvm.Cond.methodLink "TrunkDuelModel" (164 : Nat) ({ cls := "TrunkDuelModel", name := "turns", desc := "()V" } : Jvm.MethodName)) ∈ gw := gwt 1561 (by decide +kernel) rfl
theorem kw_1563 : (Jvm.Cond.instanceMethod ({ cls := "TrunkDuelModel", name := "turns", desc := "()V" } : Jvm.MethodName)) ∈ gw := gwt 1563 (by decide +kernel) rfl
theorem kp_66 : (Jvm.Cond.selects "TrunkDuelModel" ({ cls := "TrunkDuelModel", name := "turns", desc := "()V" } : Jvm.MethodName) ({ cls := "TrunkDuelModel", name := "turns", desc := "()V" } : Jvm.MethodName)) ∈ gw := gws 66 (by decide +kernel) rfl
theorem kw_1564 : (Jvm.Cond.code ({ cls := "TrunkDuelModel", name := "turns", desc := "()V" } : Jvm.MethodName) prog_13_method_32_code (1 : Nat) (Option.none : Option Jvm.ClassFile.FieldType)) ∈ gw := gwt 1564 (by decide +kernel) rfl
theorem kw_1573 : (Jvm.Cond.methodLink "TrunkDuelModel" (167 : Nat) ({ cls := "TrunkDuelModel", name := "pieceOf", desc := "(II)I" } : Jvm.MethodName)) ∈ gw := gwt 1573 (by decide +kernel) rfl
theorem kw_1575 : (Jvm.Cond.instanceMethod ({ cls := "TrunkDuelModel", name := "pieceOf", desc := "(II)I" } : Jvm.MethodName)) ∈ gw := gwt 1575 (by decide +kernel) rfl
theorem kp_69 : (Jvm.Cond.selects "TrunkDuelModel" ({ cls := "TrunkDuelModel", name := "pieceOf", desc := "(II)I" } : Jvm.MethodName) ({ cls := "TrunkDuelModel", name := "pieceOf", desc := "(II)I" } : Jvm.MethodName)) ∈ gw := gws 69 (by decide +kernel) rfl
theorem kw_1576 : (Jvm.Cond.code ({ cls := "TrunkDuelModel", name := "pieceOf", desc := "(II)I" } : Jvm.MethodName) prog_13_method_13_code (3 : Nat) (Option.some Jvm.ClassFile.FieldType.int)) ∈ gw := gwt 1576 (by decide +kernel) rfl
theorem kw_1586 : (Jvm.Cond.methodLink "TrunkDuelModel" (170 : Nat) ({ cls := "TrunkDuelModel", name := "moves", desc := "(I)I" } : Jvm.MethodName)) ∈ gw := gwt 1586 (by decide +kernel) rfl
theorem kw_1588 : (Jvm.Cond.instanceMethod ({ cls := "TrunkDuelModel", name := "moves", desc := "(I)I" } : Jvm.MethodName)) ∈ gw := gwt 1588 (by decide +kernel) rfl
theorem kp_72 : (Jvm.Cond.selects "TrunkDuelModel" ({ cls := "TrunkDuelModel", name := "moves", desc := "(I)I" } : Jvm.MethodName) ({ cls := "TrunkDuelModel", name := "moves", desc := "(I)I" } : Jvm.MethodName)) ∈ gw := gws 72 (by decide +kernel) rfl
theorem kw_1589 : (Jvm.Cond.code ({ cls := "TrunkDuelModel", name := "moves", desc := "(I)I" } : Jvm.MethodName) prog_13_method_30_code (4 : Nat) (Option.some Jvm.ClassFile.FieldType.int)) ∈ gw := gwt 1589 (by decide +kernel) rfl
theorem kw_1699 : (Jvm.Cond.methodLink "TrunkDuelModel" (173 : Nat) ({ cls := "TrunkDuelModel", name := "four", desc := "(I)V" } : Jvm.MethodName)) ∈ gw := gwt 1699 (by decide +kernel) rfl
theorem kw_1701 : (Jvm.Cond.instanceMethod ({ cls := "TrunkDuelModel", name := "four", desc := "(I)V" } : Jvm.MethodName)) ∈ gw := gwt 1701 (by decide +kernel) rfl
theorem kp_77 : (Jvm.Cond.selects "TrunkDuelModel" ({ cls := "TrunkDuelModel", name := "four", desc := "(I)V" } : Jvm.MethodName) ({ cls := "TrunkDuelModel", name := "four", desc := "(I)V" } : Jvm.MethodName)) ∈ gw := gws 77 (by decide +kernel) rfl
theorem kw_1702 : (Jvm.Cond.code ({ cls := "TrunkDuelModel", name := "four", desc := "(I)V" } : Jvm.MethodName) prog_13_method_39_code (3 : Nat) (Option.none : Option Jvm.ClassFile.FieldType)) ∈ gw := gwt 1702 (by decide +kernel) rfl
theorem kw_1707 : (Jvm.Cond.methodLink "TrunkDuelModel" (177 : Nat) ({ cls := "TrunkDuelModel", name := "fails", desc := "(ZZZ)Z" } : Jvm.MethodName)) ∈ gw := gwt 1707 (by decide +kernel) rfl
theorem kw_1709 : (Jvm.Cond.instanceMethod ({ cls := "TrunkDuelModel", name := "fails", desc := "(ZZZ)Z" } : Jvm.MethodName)) ∈ gw := gwt 1709 (by decide +kernel) rfl
theorem kp_78 : (Jvm.Cond.selects "TrunkDuelModel" ({ cls := "TrunkDuelModel", name := "fails", desc := "(ZZZ)Z" } : Jvm.MethodName) ({ cls := "TrunkDuelModel", name := "fails", desc := "(ZZZ)Z" } : Jvm.MethodName)) ∈ gw := gws 78 (by decide +kernel) rfl
theorem kw_1710 : (Jvm.Cond.code ({ cls := "TrunkDuelModel", name := "fails", desc := "(ZZZ)Z" } : Jvm.MethodName) prog_13_method_4_code (4 : Nat) (Option.some Jvm.ClassFile.FieldType.boolean)) ∈ gw := gwt 1710 (by decide +kernel) rfl
theorem kw_1626 : (Jvm.Cond.fieldLink "TrunkDuelModel" (181 : Nat) "TrunkDuelModel" "to" "I") ∈ gw := gwt 1626 (by decide +kernel) rfl
theorem kw_1625 : (Jvm.Cond.fieldLink "TrunkDuelModel" (184 : Nat) "TrunkDuelModel" "from" "I") ∈ gw := gwt 1625 (by decide +kernel) rfl
theorem kw_1624 : (Jvm.Cond.fieldLink "TrunkDuelModel" (187 : Nat) "TrunkDuelModel" "token" "I") ∈ gw := gwt 1624 (by decide +kernel) rfl
theorem kw_1400 : (Jvm.Cond.methodLink "TrunkDuelModel" (190 : Nat) ({ cls := "TrunkDuelModel", name := "isLetter", desc := "(I)Z" } : Jvm.MethodName)) ∈ gw := gwt 1400 (by decide +kernel) rfl
theorem kw_1402 : (Jvm.Cond.instanceMethod ({ cls := "TrunkDuelModel", name := "isLetter", desc := "(I)Z" } : Jvm.MethodName)) ∈ gw := gwt 1402 (by decide +kernel) rfl
theorem kp_35 : (Jvm.Cond.selects "TrunkDuelModel" ({ cls := "TrunkDuelModel", name := "isLetter", desc := "(I)Z" } : Jvm.MethodName) ({ cls := "TrunkDuelModel", name := "isLetter", desc := "(I)Z" } : Jvm.MethodName)) ∈ gw := gws 35 (by decide +kernel) rfl
theorem kw_1403 : (Jvm.Cond.code ({ cls := "TrunkDuelModel", name := "isLetter", desc := "(I)Z" } : Jvm.MethodName) prog_13_method_41_code (2 : Nat) (Option.some Jvm.ClassFile.FieldType.boolean)) ∈ gw := gwt 1403 (by decide +kernel) rfl
theorem kw_1407 : (Jvm.Cond.methodLink "TrunkDuelModel" (194 : Nat) ({ cls := "TrunkDuelModel", name := "isDigit", desc := "(I)Z" } : Jvm.MethodName)) ∈ gw := gwt 1407 (by decide +kernel) rfl
theorem kw_1409 : (Jvm.Cond.instanceMethod ({ cls := "TrunkDuelModel", name := "isDigit", desc := "(I)Z" } : Jvm.MethodName)) ∈ gw := gwt 1409 (by decide +kernel) rfl
theorem kp_36 : (Jvm.Cond.selects "TrunkDuelModel" ({ cls := "TrunkDuelModel", name := "isDigit", desc := "(I)Z" } : Jvm.MethodName) ({ cls := "TrunkDuelModel", name := "isDigit", desc := "(I)Z" } : Jvm.MethodName)) ∈ gw := gws 36 (by decide +kernel) rfl
theorem kw_1410 : (Jvm.Cond.code ({ cls := "TrunkDuelModel", name := "isDigit", desc := "(I)Z" } : Jvm.MethodName) prog_13_method_42_code (2 : Nat) (Option.some Jvm.ClassFile.FieldType.boolean)) ∈ gw := gwt 1410 (by decide +kernel) rfl
theorem kw_1627 : (Jvm.Cond.fieldLink "TrunkDuelModel" (197 : Nat) "TrunkDuelModel" "value" "I") ∈ gw := gwt 1627 (by decide +kernel) rfl
theorem kw_1411 : (Jvm.Cond.constant "TrunkDuelModel" (200 : Nat) (100000 : Int32)) ∈ gw := gwt 1411 (by decide +kernel) rfl
theorem kw_1628 : (Jvm.Cond.fieldLink "TrunkDuelModel" (201 : Nat) "TrunkDuelModel" "isWrong" "Z") ∈ gw := gwt 1628 (by decide +kernel) rfl
theorem kw_1621 : (Jvm.Cond.fieldLink "TrunkDuelModel" (205 : Nat) "TrunkDuelModel" "errorCode" "I") ∈ gw := gwt 1621 (by decide +kernel) rfl
theorem kw_1396 : (Jvm.Cond.methodLink "TrunkDuelModel" (208 : Nat) ({ cls := "TrunkDuelModel", name := "next", desc := "()V" } : Jvm.MethodName)) ∈ gw := gwt 1396 (by decide +kernel) rfl
theorem kw_1398 : (Jvm.Cond.instanceMethod ({ cls := "TrunkDuelModel", name := "next", desc := "()V" } : Jvm.MethodName)) ∈ gw := gwt 1398 (by decide +kernel) rfl
theorem kp_34 : (Jvm.Cond.selects "TrunkDuelModel" ({ cls := "TrunkDuelModel", name := "next", desc := "()V" } : Jvm.MethodName) ({ cls := "TrunkDuelModel", name := "next", desc := "()V" } : Jvm.MethodName)) ∈ gw := gws 34 (by decide +kernel) rfl
theorem kw_1399 : (Jvm.Cond.code ({ cls := "TrunkDuelModel", name := "next", desc := "()V" } : Jvm.MethodName) prog_13_method_43_code (1 : Nat) (Option.none : Option Jvm.ClassFile.FieldType)) ∈ gw := gwt 1399 (by decide +kernel) rfl
theorem kw_1418 : (Jvm.Cond.methodLink "TrunkDuelModel" (211 : Nat) ({ cls := "TrunkDuelModel", name := "wrong", desc := "(ZI)V" } : Jvm.MethodName)) ∈ gw := gwt 1418 (by decide +kernel) rfl
theorem kw_1420 : (Jvm.Cond.instanceMethod ({ cls := "TrunkDuelModel", name := "wrong", desc := "(ZI)V" } : Jvm.MethodName)) ∈ gw := gwt 1420 (by decide +kernel) rfl
theorem kp_38 : (Jvm.Cond.selects "TrunkDuelModel" ({ cls := "TrunkDuelModel", name := "wrong", desc := "(ZI)V" } : Jvm.MethodName) ({ cls := "TrunkDuelModel", name := "wrong", desc := "(ZI)V" } : Jvm.MethodName)) ∈ gw := gws 38 (by decide +kernel) rfl
theorem kw_1421 : (Jvm.Cond.code ({ cls := "TrunkDuelModel", name := "wrong", desc := "(ZI)V" } : Jvm.MethodName) prog_13_method_45_code (3 : Nat) (Option.none : Option Jvm.ClassFile.FieldType)) ∈ gw := gwt 1421 (by decide +kernel) rfl
theorem kw_1430 : (Jvm.Cond.methodLink "TrunkDuelModel" (215 : Nat) ({ cls := "TrunkDuelModel", name := "here", desc := "(II)I" } : Jvm.MethodName)) ∈ gw := gwt 1430 (by decide +kernel) rfl
theorem kw_1432 : (Jvm.Cond.instanceMethod ({ cls := "TrunkDuelModel", name := "here", desc := "(II)I" } : Jvm.MethodName)) ∈ gw := gwt 1432 (by decide +kernel) rfl
theorem kp_41 : (Jvm.Cond.selects "TrunkDuelModel" ({ cls := "TrunkDuelModel", name := "here", desc := "(II)I" } : Jvm.MethodName) ({ cls := "TrunkDuelModel", name := "here", desc := "(II)I" } : Jvm.MethodName)) ∈ gw := gws 41 (by decide +kernel) rfl
theorem kw_1433 : (Jvm.Cond.code ({ cls := "TrunkDuelModel", name := "here", desc := "(II)I" } : Jvm.MethodName) prog_13_method_47_code (3 : Nat) (Option.some Jvm.ClassFile.FieldType.int)) ∈ gw := gwt 1433 (by decide +kernel) rfl
theorem kw_1422 : (Jvm.Cond.methodLink "TrunkDuelModel" (218 : Nat) ({ cls := "TrunkDuelModel", name := "go", desc := "()V" } : Jvm.MethodName)) ∈ gw := gwt 1422 (by decide +kernel) rfl
theorem kw_1424 : (Jvm.Cond.instanceMethod ({ cls := "TrunkDuelModel", name := "go", desc := "()V" } : Jvm.MethodName)) ∈ gw := gwt 1424 (by decide +kernel) rfl
theorem kp_39 : (Jvm.Cond.selects "TrunkDuelModel" ({ cls := "TrunkDuelModel", name := "go", desc := "()V" } : Jvm.MethodName) ({ cls := "TrunkDuelModel", name := "go", desc := "()V" } : Jvm.MethodName)) ∈ gw := gws 39 (by decide +kernel) rfl
theorem kw_1425 : (Jvm.Cond.code ({ cls := "TrunkDuelModel", name := "go", desc := "()V" } : Jvm.MethodName) prog_13_method_46_code (1 : Nat) (Option.none : Option Jvm.ClassFile.FieldType)) ∈ gw := gwt 1425 (by decide +kernel) rfl
theorem kw_1414 : (Jvm.Cond.methodLink "TrunkDuelModel" (223 : Nat) ({ cls := "TrunkDuelModel", name := "is", desc := "(Ljava/lang/String;)Z" } : Jvm.MethodName)) ∈ gw := gwt 1414 (by decide +kernel) rfl
theorem kw_1416 : (Jvm.Cond.instanceMethod ({ cls := "TrunkDuelModel", name := "is", desc := "(Ljava/lang/String;)Z" } : Jvm.MethodName)) ∈ gw := gwt 1416 (by decide +kernel) rfl
theorem kp_37 : (Jvm.Cond.selects "TrunkDuelModel" ({ cls := "TrunkDuelModel", name := "is", desc := "(Ljava/lang/String;)Z" } : Jvm.MethodName) ({ cls := "TrunkDuelModel", name := "is", desc := "(Ljava/lang/String;)Z" } : Jvm.MethodName)) ∈ gw := gws 37 (by decide +kernel) rfl
theorem kw_1417 : (Jvm.Cond.code ({ cls := "TrunkDuelModel", name := "is", desc := "(Ljava/lang/String;)Z" } : Jvm.MethodName) prog_13_method_44_code (3 : Nat) (Option.some Jvm.ClassFile.FieldType.boolean)) ∈ gw := gwt 1417 (by decide +kernel) rfl
theorem kw_1461 : (Jvm.Cond.methodLink "TrunkDuelModel" (229 : Nat) ({ cls := "java/lang/Math", name := "max", desc := "(II)I" } : Jvm.MethodName)) ∈ gw := gwt 1461 (by decide +kernel) rfl
theorem kw_1426 : (Jvm.Cond.methodLink "TrunkDuelModel" (232 : Nat) ({ cls := "TrunkDuelModel", name := "number", desc := "(II)I" } : Jvm.MethodName)) ∈ gw := gwt 1426 (by decide +kernel) rfl
theorem kw_1428 : (Jvm.Cond.instanceMethod ({ cls := "TrunkDuelModel", name := "number", desc := "(II)I" } : Jvm.MethodName)) ∈ gw := gwt 1428 (by decide +kernel) rfl
theorem kp_40 : (Jvm.Cond.selects "TrunkDuelModel" ({ cls := "TrunkDuelModel", name := "number", desc := "(II)I" } : Jvm.MethodName) ({ cls := "TrunkDuelModel", name := "number", desc := "(II)I" } : Jvm.MethodName)) ∈ gw := gws 40 (by decide +kernel) rfl
theorem kw_1429 : (Jvm.Cond.code ({ cls := "TrunkDuelModel", name := "number", desc := "(II)I" } : Jvm.MethodName) prog_13_method_48_code (4 : Nat) (Option.some Jvm.ClassFile.FieldType.int)) ∈ gw := gwt 1429 (by decide +kernel) rfl
theorem kw_1434 : (Jvm.Cond.methodLink "TrunkDuelModel" (235 : Nat) ({ cls := "TrunkDuelModel", name := "semicolon", desc := "()V" } : Jvm.MethodName)) ∈ gw := gwt 1434 (by decide +kernel) rfl
theorem kw_1436 : (Jvm.Cond.instanceMethod ({ cls := "TrunkDuelModel", name := "semicolon", desc := "()V" } : Jvm.MethodName)) ∈ gw := gwt 1436 (by decide +kernel) rfl
theorem kp_42 : (Jvm.Cond.selects "TrunkDuelModel" ({ cls := "TrunkDuelModel", name := "semicolon", desc := "()V" } : Jvm.MethodName) ({ cls := "TrunkDuelModel", name := "semicolon", desc := "()V" } : Jvm.MethodName)) ∈ gw := gws 42 (by decide +kernel) rfl
theorem kw_1437 : (Jvm.Cond.code ({ cls := "TrunkDuelModel", name := "semicolon", desc := "()V" } : Jvm.MethodName) prog_13_method_50_code (1 : Nat) (Option.none : Option Jvm.ClassFile.FieldType)) ∈ gw := gwt 1437 (by decide +kernel) rfl
theorem kw_1455 : (Jvm.Cond.methodLink "TrunkDuelModel" (238 : Nat) ({ cls := "TrunkDuelModel", name := "sideHere", desc := "()I" } : Jvm.MethodName)) ∈ gw := gwt 1455 (by decide +kernel) rfl
theorem kw_1457 : (Jvm.Cond.instanceMethod ({ cls := "TrunkDuelModel", name := "sideHere", desc := "()I" } : Jvm.MethodName)) ∈ gw := gwt 1457 (by decide +kernel) rfl
theorem kp_46 : (Jvm.Cond.selects "TrunkDuelModel" ({ cls := "TrunkDuelModel", name := "sideHere", desc := "()I" } : Jvm.MethodName) ({ cls := "TrunkDuelModel", name := "sideHere", desc := "()I" } : Jvm.MethodName)) ∈ gw := gws 46 (by decide +kernel) rfl
theorem kw_1458 : (Jvm.Cond.code ({ cls := "TrunkDuelModel", name := "sideHere", desc := "()I" } : Jvm.MethodName) prog_13_method_49_code (2 : Nat) (Option.some Jvm.ClassFile.FieldType.int)) ∈ gw := gwt 1458 (by decide +kernel) rfl
theorem kw_1462 : (Jvm.Cond.methodLink "TrunkDuelModel" (241 : Nat) ({ cls := "TrunkDuelModel", name := "isEdge", desc := "(III)Z" } : Jvm.MethodName)) ∈ gw := gwt 1462 (by decide +kernel) rfl
theorem kw_1464 : (Jvm.Cond.instanceMethod ({ cls := "TrunkDuelModel", name := "isEdge", desc := "(III)Z" } : Jvm.MethodName)) ∈ gw := gwt 1464 (by decide +kernel) rfl
theorem kp_47 : (Jvm.Cond.selects "TrunkDuelModel" ({ cls := "TrunkDuelModel", name := "isEdge", desc := "(III)Z" } : Jvm.MethodName) ({ cls := "TrunkDuelModel", name := "isEdge", desc := "(III)Z" } : Jvm.MethodName)) ∈ gw := gws 47 (by decide +kernel) rfl
theorem kw_1465 : (Jvm.Cond.code ({ cls := "TrunkDuelModel", name := "isEdge", desc := "(III)Z" } : Jvm.MethodName) prog_13_method_14_code (4 : Nat) (Option.some Jvm.ClassFile.FieldType.boolean)) ∈ gw := gwt 1465 (by decide +kernel) rfl
theorem kw_1478 : (Jvm.Cond.methodLink "TrunkDuelModel" (246 : Nat) ({ cls := "TrunkDuelModel", name := "hasNameHere", desc := "(I)Z" } : Jvm.MethodName)) ∈ gw := gwt 1478 (by decide +kernel) rfl
theorem kw_1480 : (Jvm.Cond.instanceMethod ({ cls := "TrunkDuelModel", name := "hasNameHere", desc := "(I)Z" } : Jvm.MethodName)) ∈ gw := gwt 1480 (by decide +kernel) rfl
theorem kp_50 : (Jvm.Cond.selects "TrunkDuelModel" ({ cls := "TrunkDuelModel", name := "hasNameHere", desc := "(I)Z" } : Jvm.MethodName) ({ cls := "TrunkDuelModel", name := "hasNameHere", desc := "(I)Z" } : Jvm.MethodName)) ∈ gw := gws 50 (by decide +kernel) rfl
theorem kw_1481 : (Jvm.Cond.code ({ cls := "TrunkDuelModel", name := "hasNameHere", desc := "(I)Z" } : Jvm.MethodName) prog_13_method_53_code (4 : Nat) (Option.some Jvm.ClassFile.FieldType.boolean)) ∈ gw := gwt 1481 (by decide +kernel) rfl
theorem kw_1503 : (Jvm.Cond.methodLink "TrunkDuelModel" (259 : Nat) ({ cls := "TrunkDuelModel", name := "shapeHere", desc := "()I" } : Jvm.MethodName)) ∈ gw := gwt 1503 (by decide +kernel) rfl
theorem kw_1505 : (Jvm.Cond.instanceMethod ({ cls := "TrunkDuelModel", name := "shapeHere", desc := "()I" } : Jvm.MethodName)) ∈ gw := gwt 1505 (by decide +kernel) rfl
theorem kp_56 : (Jvm.Cond.selects "TrunkDuelModel" ({ cls := "TrunkDuelModel", name := "shapeHere", desc := "()I" } : Jvm.MethodName) ({ cls := "TrunkDuelModel", name := "shapeHere", desc := "()I" } : Jvm.MethodName)) ∈ gw := gws 56 (by decide +kernel) rfl
theorem kw_1506 : (Jvm.Cond.code ({ cls := "TrunkDuelModel", name := "shapeHere", desc := "()I" } : Jvm.MethodName) prog_13_method_55_code (2 : Nat) (Option.some Jvm.ClassFile.FieldType.int)) ∈ gw := gwt 1506 (by decide +kernel) rfl
theorem kw_1512 : (Jvm.Cond.methodLink "TrunkDuelModel" (262 : Nat) ({ cls := "TrunkDuelModel", name := "mayPlace", desc := "(IIII)Z" } : Jvm.MethodName)) ∈ gw := gwt 1512 (by decide +kernel) rfl
theorem kw_1514 : (Jvm.Cond.instanceMethod ({ cls := "TrunkDuelModel", name := "mayPlace", desc := "(IIII)Z" } : Jvm.MethodName)) ∈ gw := gwt 1514 (by decide +kernel) rfl
theorem kp_57 : (Jvm.Cond.selects "TrunkDuelModel" ({ cls := "TrunkDuelModel", name := "mayPlace", desc := "(IIII)Z" } : Jvm.MethodName) ({ cls := "TrunkDuelModel", name := "mayPlace", desc := "(IIII)Z" } : Jvm.MethodName)) ∈ gw := gws 57 (by decide +kernel) rfl
theorem kw_1515 : (Jvm.Cond.code ({ cls := "TrunkDuelModel", name := "mayPlace", desc := "(IIII)Z" } : Jvm.MethodName) prog_13_method_31_code (5 : Nat) (Option.some Jvm.ClassFile.FieldType.boolean)) ∈ gw := gwt 1515 (by decide +kernel) rfl
theorem kw_1549 : (Jvm.Cond.methodLink "TrunkDuelModel" (265 : Nat) ({ cls := "TrunkDuelModel", name := "places", desc := "(IIII)I" } : Jvm.MethodName)) ∈ gw := gwt 1549 (by decide +kernel) rfl
theorem kw_1551 : (Jvm.Cond.instanceMethod ({ cls := "TrunkDuelModel", name := "places", desc := "(IIII)I" } : Jvm.MethodName)) ∈ gw := gwt 1551 (by decide +kernel) rfl
theorem kp_63 : (Jvm.Cond.selects "TrunkDuelModel" ({ cls := "TrunkDuelModel", name := "places", desc := "(IIII)I" } : Jvm.MethodName) ({ cls := "TrunkDuelModel", name := "places", desc := "(IIII)I" } : Jvm.MethodName)) ∈ gw := gws 63 (by decide +kernel) rfl
theorem kw_1552 : (Jvm.Cond.code ({ cls := "TrunkDuelModel", name := "places", desc := "(IIII)I" } : Jvm.MethodName) prog_13_method_33_code (9 : Nat) (Option.some Jvm.ClassFile.FieldType.int)) ∈ gw := gwt 1552 (by decide +kernel) rfl
theorem kw_1629 : (Jvm.Cond.fieldLink "TrunkDuelModel" (268 : Nat) "TrunkDuelModel" "gave" "I") ∈ gw := gwt 1629 (by decide +kernel) rfl
theorem kw_1569 : (Jvm.Cond.methodLink "TrunkDuelModel" (271 : Nat) ({ cls := "TrunkDuelModel", name := "mayFasten", desc := "(III)Z" } : Jvm.MethodName)) ∈ gw := gwt 1569 (by decide +kernel) rfl
theorem kw_1571 : (Jvm.Cond.instanceMethod ({ cls := "TrunkDuelModel", name := "mayFasten", desc := "(III)Z" } : Jvm.MethodName)) ∈ gw := gwt 1571 (by decide +kernel) rfl
theorem kp_68 : (Jvm.Cond.selects "TrunkDuelModel" ({ cls := "TrunkDuelModel", name := "mayFasten", desc := "(III)Z" } : Jvm.MethodName) ({ cls := "TrunkDuelModel", name := "mayFasten", desc := "(III)Z" } : Jvm.MethodName)) ∈ gw := gws 68 (by decide +kernel) rfl
theorem kw_1572 : (Jvm.Cond.code ({ cls := "TrunkDuelModel", name := "mayFasten", desc := "(III)Z" } : Jvm.MethodName) prog_13_method_34_code (6 : Nat) (Option.some Jvm.ClassFile.FieldType.boolean)) ∈ gw := gwt 1572 (by decide +kernel) rfl
theorem kw_1577 : (Jvm.Cond.methodLink "TrunkDuelModel" (274 : Nat) ({ cls := "TrunkDuelModel", name := "fastens", desc := "(III)I" } : Jvm.MethodName)) ∈ gw := gwt 1577 (by decide +kernel) rfl
theorem kw_1579 : (Jvm.Cond.instanceMethod ({ cls := "TrunkDuelModel", name := "fastens", desc := "(III)I" } : Jvm.MethodName)) ∈ gw := gwt 1579 (by decide +kernel) rfl
theorem kp_70 : (Jvm.Cond.selects "TrunkDuelModel" ({ cls := "TrunkDuelModel", name := "fastens", desc := "(III)I" } : Jvm.MethodName) ({ cls := "TrunkDuelModel", name := "fastens", desc := "(III)I" } : Jvm.MethodName)) ∈ gw := gws 70 (by decide +kernel) rfl
theorem kw_1580 : (Jvm.Cond.code ({ cls := "TrunkDuelModel", name := "fastens", desc := "(III)I" } : Jvm.MethodName) prog_13_method_35_code (5 : Nat) (Option.some Jvm.ClassFile.FieldType.int)) ∈ gw := gwt 1580 (by decide +kernel) rfl
theorem kw_1499 : (Jvm.Cond.methodLink "TrunkDuelModel" (279 : Nat) ({ cls := "TrunkDuelModel", name := "placeTold", desc := "()V" } : Jvm.MethodName)) ∈ gw := gwt 1499 (by decide +kernel) rfl
theorem kw_1501 : (Jvm.Cond.instanceMethod ({ cls := "TrunkDuelModel", name := "placeTold", desc := "()V" } : Jvm.MethodName)) ∈ gw := gwt 1501 (by decide +kernel) rfl
theorem kp_55 : (Jvm.Cond.selects "TrunkDuelModel" ({ cls := "TrunkDuelModel", name := "placeTold", desc := "()V" } : Jvm.MethodName) ({ cls := "TrunkDuelModel", name := "placeTold", desc := "()V" } : Jvm.MethodName)) ∈ gw := gws 55 (by decide +kernel) rfl
theorem kw_1502 : (Jvm.Cond.code ({ cls := "TrunkDuelModel", name := "placeTold", desc := "()V" } : Jvm.MethodName) prog_13_method_56_code (5 : Nat) (Option.none : Option Jvm.ClassFile.FieldType)) ∈ gw := gwt 1502 (by decide +kernel) rfl
theorem kw_1565 : (Jvm.Cond.methodLink "TrunkDuelModel" (284 : Nat) ({ cls := "TrunkDuelModel", name := "strapTold", desc := "()V" } : Jvm.MethodName)) ∈ gw := gwt 1565 (by decide +kernel) rfl
theorem kw_1567 : (Jvm.Cond.instanceMethod ({ cls := "TrunkDuelModel", name := "strapTold", desc := "()V" } : Jvm.MethodName)) ∈ gw := gwt 1567 (by decide +kernel) rfl
theorem kp_67 : (Jvm.Cond.selects "TrunkDuelModel" ({ cls := "TrunkDuelModel", name := "strapTold", desc := "()V" } : Jvm.MethodName) ({ cls := "TrunkDuelModel", name := "strapTold", desc := "()V" } : Jvm.MethodName)) ∈ gw := gws 67 (by decide +kernel) rfl
theorem kw_1568 : (Jvm.Cond.code ({ cls := "TrunkDuelModel", name := "strapTold", desc := "()V" } : Jvm.MethodName) prog_13_method_57_code (4 : Nat) (Option.none : Option Jvm.ClassFile.FieldType)) ∈ gw := gwt 1568 (by decide +kernel) rfl
theorem kw_1582 : (Jvm.Cond.methodLink "TrunkDuelModel" (289 : Nat) ({ cls := "TrunkDuelModel", name := "mayPass", desc := "()Z" } : Jvm.MethodName)) ∈ gw := gwt 1582 (by decide +kernel) rfl
theorem kw_1584 : (Jvm.Cond.instanceMethod ({ cls := "TrunkDuelModel", name := "mayPass", desc := "()Z" } : Jvm.MethodName)) ∈ gw := gwt 1584 (by decide +kernel) rfl
theorem kp_71 : (Jvm.Cond.selects "TrunkDuelModel" ({ cls := "TrunkDuelModel", name := "mayPass", desc := "()Z" } : Jvm.MethodName) ({ cls := "TrunkDuelModel", name := "mayPass", desc := "()Z" } : Jvm.MethodName)) ∈ gw := gws 71 (by decide +kernel) rfl
theorem kw_1585 : (Jvm.Cond.code ({ cls := "TrunkDuelModel", name := "mayPass", desc := "()Z" } : Jvm.MethodName) prog_13_method_36_code (1 : Nat) (Option.some Jvm.ClassFile.FieldType.boolean)) ∈ gw := gwt 1585 (by decide +kernel) rfl
theorem kw_1594 : (Jvm.Cond.methodLink "TrunkDuelModel" (292 : Nat) ({ cls := "TrunkDuelModel", name := "passes", desc := "()I" } : Jvm.MethodName)) ∈ gw := gwt 1594 (by decide +kernel) rfl
theorem kw_1596 : (Jvm.Cond.instanceMethod ({ cls := "TrunkDuelModel", name := "passes", desc := "()I" } : Jvm.MethodName)) ∈ gw := gwt 1596 (by decide +kernel) rfl
theorem kp_74 : (Jvm.Cond.selects "TrunkDuelModel" ({ cls := "TrunkDuelModel", name := "passes", desc := "()I" } : Jvm.MethodName) ({ cls := "TrunkDuelModel", name := "passes", desc := "()I" } : Jvm.MethodName)) ∈ gw := gws 74 (by decide +kernel) rfl
theorem kw_1597 : (Jvm.Cond.code ({ cls := "TrunkDuelModel", name := "passes", desc := "()I" } : Jvm.MethodName) prog_13_method_37_code (1 : Nat) (Option.some Jvm.ClassFile.FieldType.int)) ∈ gw := gwt 1597 (by decide +kernel) rfl
theorem kw_1494 : (Jvm.Cond.methodLink "TrunkDuelModel" (295 : Nat) ({ cls := "TrunkDuelModel", name := "command", desc := "()V" } : Jvm.MethodName)) ∈ gw := gwt 1494 (by decide +kernel) rfl
theorem kw_1496 : (Jvm.Cond.instanceMethod ({ cls := "TrunkDuelModel", name := "command", desc := "()V" } : Jvm.MethodName)) ∈ gw := gwt 1496 (by decide +kernel) rfl
theorem kp_54 : (Jvm.Cond.selects "TrunkDuelModel" ({ cls := "TrunkDuelModel", name := "command", desc := "()V" } : Jvm.MethodName) ({ cls := "TrunkDuelModel", name := "command", desc := "()V" } : Jvm.MethodName)) ∈ gw := gws 54 (by decide +kernel) rfl
theorem kw_1497 : (Jvm.Cond.code ({ cls := "TrunkDuelModel", name := "command", desc := "()V" } : Jvm.MethodName) prog_13_method_58_code (1 : Nat) (Option.none : Option Jvm.ClassFile.FieldType)) ∈ gw := gwt 1497 (by decide +kernel) rfl
theorem kw_1598 : (Jvm.Cond.methodLink "TrunkDuelModel" (298 : Nat) ({ cls := "TrunkDuelModel", name := "remember", desc := "([I)V" } : Jvm.MethodName)) ∈ gw := gwt 1598 (by decide +kernel) rfl
theorem kw_1600 : (Jvm.Cond.instanceMethod ({ cls := "TrunkDuelModel", name := "remember", desc := "([I)V" } : Jvm.MethodName)) ∈ gw := gwt 1600 (by decide +kernel) rfl
theorem kp_75 : (Jvm.Cond.selects "TrunkDuelModel" ({ cls := "TrunkDuelModel", name := "remember", desc := "([I)V" } : Jvm.MethodName) ({ cls := "TrunkDuelModel", name := "remember", desc := "([I)V" } : Jvm.MethodName)) ∈ gw := gws 75 (by decide +kernel) rfl
theorem kw_1601 : (Jvm.Cond.code ({ cls := "TrunkDuelModel", name := "remember", desc := "([I)V" } : Jvm.MethodName) prog_13_method_8_code (2 : Nat) (Option.none : Option Jvm.ClassFile.FieldType)) ∈ gw := gwt 1601 (by decide +kernel) rfl
theorem kw_1388 : (Jvm.Cond.methodLink "TrunkDuelModel" (302 : Nat) ({ cls := "TrunkDuelModel", name := "starts", desc := "()V" } : Jvm.MethodName)) ∈ gw := gwt 1388 (by decide +kernel) rfl
theorem kw_1390 : (Jvm.Cond.instanceMethod ({ cls := "TrunkDuelModel", name := "starts", desc := "()V" } : Jvm.MethodName)) ∈ gw := gwt 1390 (by decide +kernel) rfl
theorem kp_33 : (Jvm.Cond.selects "TrunkDuelModel" ({ cls := "TrunkDuelModel", name := "starts", desc := "()V" } : Jvm.MethodName) ({ cls := "TrunkDuelModel", name := "starts", desc := "()V" } : Jvm.MethodName)) ∈ gw := gws 33 (by decide +kernel) rfl
theorem kw_1391 : (Jvm.Cond.code ({ cls := "TrunkDuelModel", name := "starts", desc := "()V" } : Jvm.MethodName) prog_13_method_59_code (1 : Nat) (Option.none : Option Jvm.ClassFile.FieldType)) ∈ gw := gwt 1391 (by decide +kernel) rfl
theorem kw_1439 : (Jvm.Cond.methodLink "TrunkDuelModel" (309 : Nat) ({ cls := "TrunkDuelModel", name := "blockTold", desc := "()V" } : Jvm.MethodName)) ∈ gw := gwt 1439 (by decide +kernel) rfl
theorem kw_1441 : (Jvm.Cond.instanceMethod ({ cls := "TrunkDuelModel", name := "blockTold", desc := "()V" } : Jvm.MethodName)) ∈ gw := gwt 1441 (by decide +kernel) rfl
theorem kp_43 : (Jvm.Cond.selects "TrunkDuelModel" ({ cls := "TrunkDuelModel", name := "blockTold", desc := "()V" } : Jvm.MethodName) ({ cls := "TrunkDuelModel", name := "blockTold", desc := "()V" } : Jvm.MethodName)) ∈ gw := gws 43 (by decide +kernel) rfl
theorem kw_1442 : (Jvm.Cond.code ({ cls := "TrunkDuelModel", name := "blockTold", desc := "()V" } : Jvm.MethodName) prog_13_method_51_code (3 : Nat) (Option.none : Option Jvm.ClassFile.FieldType)) ∈ gw := gwt 1442 (by decide +kernel) rfl
theorem kw_1451 : (Jvm.Cond.methodLink "TrunkDuelModel" (312 : Nat) ({ cls := "TrunkDuelModel", name := "edgeTold", desc := "()V" } : Jvm.MethodName)) ∈ gw := gwt 1451 (by decide +kernel) rfl
theorem kw_1453 : (Jvm.Cond.instanceMethod ({ cls := "TrunkDuelModel", name := "edgeTold", desc := "()V" } : Jvm.MethodName)) ∈ gw := gwt 1453 (by decide +kernel) rfl
theorem kp_45 : (Jvm.Cond.selects "TrunkDuelModel" ({ cls := "TrunkDuelModel", name := "edgeTold", desc := "()V" } : Jvm.MethodName) ({ cls := "TrunkDuelModel", name := "edgeTold", desc := "()V" } : Jvm.MethodName)) ∈ gw := gws 45 (by decide +kernel) rfl
theorem kw_1454 : (Jvm.Cond.code ({ cls := "TrunkDuelModel", name := "edgeTold", desc := "()V" } : Jvm.MethodName) prog_13_method_52_code (5 : Nat) (Option.none : Option Jvm.ClassFile.FieldType)) ∈ gw := gwt 1454 (by decide +kernel) rfl
theorem kw_1473 : (Jvm.Cond.methodLink "TrunkDuelModel" (315 : Nat) ({ cls := "TrunkDuelModel", name := "playerTold", desc := "(I)V" } : Jvm.MethodName)) ∈ gw := gwt 1473 (by decide +kernel) rfl
theorem kw_1475 : (Jvm.Cond.instanceMethod ({ cls := "TrunkDuelModel", name := "playerTold", desc := "(I)V" } : Jvm.MethodName)) ∈ gw := gwt 1475 (by decide +kernel) rfl
theorem kp_49 : (Jvm.Cond.selects "TrunkDuelModel" ({ cls := "TrunkDuelModel", name := "playerTold", desc := "(I)V" } : Jvm.MethodName) ({ cls := "TrunkDuelModel", name := "playerTold", desc := "(I)V" } : Jvm.MethodName)) ∈ gw := gws 49 (by decide +kernel) rfl
theorem kw_1476 : (Jvm.Cond.code ({ cls := "TrunkDuelModel", name := "playerTold", desc := "(I)V" } : Jvm.MethodName) prog_13_method_54_code (3 : Nat) (Option.none : Option Jvm.ClassFile.FieldType)) ∈ gw := gwt 1476 (by decide +kernel) rfl
theorem kw_1490 : (Jvm.Cond.methodLink "TrunkDuelModel" (318 : Nat) ({ cls := "TrunkDuelModel", name := "commands", desc := "()I" } : Jvm.MethodName)) ∈ gw := gwt 1490 (by decide +kernel) rfl
theorem kw_1492 : (Jvm.Cond.instanceMethod ({ cls := "TrunkDuelModel", name := "commands", desc := "()I" } : Jvm.MethodName)) ∈ gw := gwt 1492 (by decide +kernel) rfl
theorem kp_53 : (Jvm.Cond.selects "TrunkDuelModel" ({ cls := "TrunkDuelModel", name := "commands", desc := "()I" } : Jvm.MethodName) ({ cls := "TrunkDuelModel", name := "commands", desc := "()I" } : Jvm.MethodName)) ∈ gw := gws 53 (by decide +kernel) rfl
theorem kw_1493 : (Jvm.Cond.code ({ cls := "TrunkDuelModel", name := "commands", desc := "()I" } : Jvm.MethodName) prog_13_method_60_code (2 : Nat) (Option.some Jvm.ClassFile.FieldType.int)) ∈ gw := gwt 1493 (by decide +kernel) rfl
theorem kw_1602 : (Jvm.Cond.methodLink "TrunkDuelModel" (321 : Nat) ({ cls := "TrunkDuelModel", name := "allEmpty", desc := "()I" } : Jvm.MethodName)) ∈ gw := gwt 1602 (by decide +kernel) rfl
theorem kw_1604 : (Jvm.Cond.instanceMethod ({ cls := "TrunkDuelModel", name := "allEmpty", desc := "()I" } : Jvm.MethodName)) ∈ gw := gwt 1604 (by decide +kernel) rfl
theorem kp_76 : (Jvm.Cond.selects "TrunkDuelModel" ({ cls := "TrunkDuelModel", name := "allEmpty", desc := "()I" } : Jvm.MethodName) ({ cls := "TrunkDuelModel", name := "allEmpty", desc := "()I" } : Jvm.MethodName)) ∈ gw := gws 76 (by decide +kernel) rfl
theorem kw_1605 : (Jvm.Cond.code ({ cls := "TrunkDuelModel", name := "allEmpty", desc := "()I" } : Jvm.MethodName) prog_13_method_75_code (3 : Nat) (Option.some Jvm.ClassFile.FieldType.int)) ∈ gw := gwt 1605 (by decide +kernel) rfl
theorem kw_1720 : (Jvm.Cond.methodLink "TrunkDuelModel" (324 : Nat) ({ cls := "TrunkDuelModel", name := "told", desc := "(I)I" } : Jvm.MethodName)) ∈ gw := gwt 1720 (by decide +kernel) rfl
theorem kw_1722 : (Jvm.Cond.instanceMethod ({ cls := "TrunkDuelModel", name := "told", desc := "(I)I" } : Jvm.MethodName)) ∈ gw := gwt 1722 (by decide +kernel) rfl
theorem kp_79 : (Jvm.Cond.selects "TrunkDuelModel" ({ cls := "TrunkDuelModel", name := "told", desc := "(I)I" } : Jvm.MethodName) ({ cls := "TrunkDuelModel", name := "told", desc := "(I)I" } : Jvm.MethodName)) ∈ gw := gws 79 (by decide +kernel) rfl
theorem kw_1723 : (Jvm.Cond.code ({ cls := "TrunkDuelModel", name := "told", desc := "(I)I" } : Jvm.MethodName) prog_13_method_5_code (2 : Nat) (Option.some Jvm.ClassFile.FieldType.int)) ∈ gw := gwt 1723 (by decide +kernel) rfl
theorem kw_1732 : (Jvm.Cond.methodLink "TrunkDuelModel" (327 : Nat) ({ cls := "TrunkDuelModel", name := "noShape", desc := "(I)Z" } : Jvm.MethodName)) ∈ gw := gwt 1732 (by decide +kernel) rfl
theorem kw_1734 : (Jvm.Cond.code ({ cls := "TrunkDuelModel", name := "noShape", desc := "(I)Z" } : Jvm.MethodName) prog_13_method_65_code (1 : Nat) (Option.some Jvm.ClassFile.FieldType.boolean)) ∈ gw := gwt 1734 (by decide +kernel) rfl
theorem kw_1733 : (Jvm.Cond.static ({ cls := "TrunkDuelModel", name := "noShape", desc := "(I)Z" } : Jvm.MethodName)) ∈ gw := gwt 1733 (by decide +kernel) rfl
theorem kw_1735 : (Jvm.Cond.methodLink "TrunkDuelModel" (330 : Nat) ({ cls := "TrunkDuelModel", name := "noTurn", desc := "(I)Z" } : Jvm.MethodName)) ∈ gw := gwt 1735 (by decide +kernel) rfl
theorem kw_1737 : (Jvm.Cond.code ({ cls := "TrunkDuelModel", name := "noTurn", desc := "(I)Z" } : Jvm.MethodName) prog_13_method_66_code (1 : Nat) (Option.some Jvm.ClassFile.FieldType.boolean)) ∈ gw := gwt 1737 (by decide +kernel) rfl
theorem kw_1736 : (Jvm.Cond.static ({ cls := "TrunkDuelModel", name := "noTurn", desc := "(I)Z" } : Jvm.MethodName)) ∈ gw := gwt 1736 (by decide +kernel) rfl
theorem kw_1742 : (Jvm.Cond.methodLink "TrunkDuelModel" (333 : Nat) ({ cls := "TrunkDuelModel", name := "noSide", desc := "(I)Z" } : Jvm.MethodName)) ∈ gw := gwt 1742 (by decide +kernel) rfl
theorem kw_1744 : (Jvm.Cond.code ({ cls := "TrunkDuelModel", name := "noSide", desc := "(I)Z" } : Jvm.MethodName) prog_13_method_67_code (1 : Nat) (Option.some Jvm.ClassFile.FieldType.boolean)) ∈ gw := gwt 1744 (by decide +kernel) rfl
theorem kw_1743 : (Jvm.Cond.static ({ cls := "TrunkDuelModel", name := "noSide", desc := "(I)Z" } : Jvm.MethodName)) ∈ gw := gwt 1743 (by decide +kernel) rfl
theorem kw_1809 : (Jvm.Cond.methodLink "TrunkDuelModel" (336 : Nat) ({ cls := "TrunkDuelModel", name := "ofPiece", desc := "(II)I" } : Jvm.MethodName)) ∈ gw := gwt 1809 (by decide +kernel) rfl
theorem kw_1811 : (Jvm.Cond.instanceMethod ({ cls := "TrunkDuelModel", name := "ofPiece", desc := "(II)I" } : Jvm.MethodName)) ∈ gw := gwt 1811 (by decide +kernel) rfl
theorem kp_80 : (Jvm.Cond.selects "TrunkDuelModel" ({ cls := "TrunkDuelModel", name := "ofPiece", desc := "(II)I" } : Jvm.MethodName) ({ cls := "TrunkDuelModel", name := "ofPiece", desc := "(II)I" } : Jvm.MethodName)) ∈ gw := gws 80 (by decide +kernel) rfl
theorem kw_1812 : (Jvm.Cond.code ({ cls := "TrunkDuelModel", name := "ofPiece", desc := "(II)I" } : Jvm.MethodName) prog_13_method_88_code (3 : Nat) (Option.some Jvm.ClassFile.FieldType.int)) ∈ gw := gwt 1812 (by decide +kernel) rfl
theorem kw_1849 : (Jvm.Cond.methodLink "TrunkDuelModel" (339 : Nat) ({ cls := "TrunkDuelModel", name := "noPlayer", desc := "(I)Z" } : Jvm.MethodName)) ∈ gw := gwt 1849 (by decide +kernel) rfl
theorem kw_1851 : (Jvm.Cond.code ({ cls := "TrunkDuelModel", name := "noPlayer", desc := "(I)Z" } : Jvm.MethodName) prog_13_method_68_code (1 : Nat) (Option.some Jvm.ClassFile.FieldType.boolean)) ∈ gw := gwt 1851 (by decide +kernel) rfl
theorem kw_1850 : (Jvm.Cond.static ({ cls := "TrunkDuelModel", name := "noPlayer", desc := "(I)Z" } : Jvm.MethodName)) ∈ gw := gwt 1850 (by decide +kernel) rfl
theorem kw_1868 : (Jvm.Cond.methodLink "TrunkDuelModel" (342 : Nat) ({ cls := "TrunkDuelModel", name := "isBad", desc := "(IIII)Z" } : Jvm.MethodName)) ∈ gw := gwt 1868 (by decide +kernel) rfl
theorem kw_1870 : (Jvm.Cond.instanceMethod ({ cls := "TrunkDuelModel", name := "isBad", desc := "(IIII)Z" } : Jvm.MethodName)) ∈ gw := gwt 1870 (by decide +kernel) rfl
theorem kp_81 : (Jvm.Cond.selects "TrunkDuelModel" ({ cls := "TrunkDuelModel", name := "isBad", desc := "(IIII)Z" } : Jvm.MethodName) ({ cls := "TrunkDuelModel", name := "isBad", desc := "(IIII)Z" } : Jvm.MethodName)) ∈ gw := gws 81 (by decide +kernel) rfl
theorem kw_1871 : (Jvm.Cond.code ({ cls := "TrunkDuelModel", name := "isBad", desc := "(IIII)Z" } : Jvm.MethodName) prog_13_method_102_code (5 : Nat) (Option.some Jvm.ClassFile.FieldType.boolean)) ∈ gw := gwt 1871 (by decide +kernel) rfl
theorem kw_1892 : (Jvm.Cond.methodLink "TrunkDuelModel" (345 : Nat) ({ cls := "TrunkDuelModel", name := "tryOut", desc := "()V" } : Jvm.MethodName)) ∈ gw := gwt 1892 (by decide +kernel) rfl
theorem kw_1894 : (Jvm.Cond.instanceMethod ({ cls := "TrunkDuelModel", name := "tryOut", desc := "()V" } : Jvm.MethodName)) ∈ gw := gwt 1894 (by decide +kernel) rfl
theorem kp_82 : (Jvm.Cond.selects "TrunkDuelModel" ({ cls := "TrunkDuelModel", name := "tryOut", desc := "()V" } : Jvm.MethodName) ({ cls := "TrunkDuelModel", name := "tryOut", desc := "()V" } : Jvm.MethodName)) ∈ gw := gws 82 (by decide +kernel) rfl
theorem kw_1895 : (Jvm.Cond.code ({ cls := "TrunkDuelModel", name := "tryOut", desc := "()V" } : Jvm.MethodName) prog_13_method_108_code (1 : Nat) (Option.none : Option Jvm.ClassFile.FieldType)) ∈ gw := gwt 1895 (by decide +kernel) rfl
theorem kw_1896 : (Jvm.Cond.methodLink "TrunkDuelModel" (348 : Nat) ({ cls := "TrunkDuelModel", name := "laidBack", desc := "(I)I" } : Jvm.MethodName)) ∈ gw := gwt 1896 (by decide +kernel) rfl
theorem kw_1898 : (Jvm.Cond.instanceMethod ({ cls := "TrunkDuelModel", name := "laidBack", desc := "(I)I" } : Jvm.MethodName)) ∈ gw := gwt 1898 (by decide +kernel) rfl
theorem kp_83 : (Jvm.Cond.selects "TrunkDuelModel" ({ cls := "TrunkDuelModel", name := "laidBack", desc := "(I)I" } : Jvm.MethodName) ({ cls := "TrunkDuelModel", name := "laidBack", desc := "(I)I" } : Jvm.MethodName)) ∈ gw := gws 83 (by decide +kernel) rfl
theorem kw_1899 : (Jvm.Cond.code ({ cls := "TrunkDuelModel", name := "laidBack", desc := "(I)I" } : Jvm.MethodName) prog_13_method_109_code (2 : Nat) (Option.some Jvm.ClassFile.FieldType.int)) ∈ gw := gwt 1899 (by decide +kernel) rfl
theorem kw_1630 : (Jvm.Cond.fieldLink "TrunkDuelModel" (351 : Nat) "TrunkDuelModel" "bestS" "I") ∈ gw := gwt 1630 (by decide +kernel) rfl
theorem kw_1631 : (Jvm.Cond.fieldLink "TrunkDuelModel" (354 : Nat) "TrunkDuelModel" "bestT" "I") ∈ gw := gwt 1631 (by decide +kernel) rfl
theorem kw_1632 : (Jvm.Cond.fieldLink "TrunkDuelModel" (357 : Nat) "TrunkDuelModel" "bestX" "I") ∈ gw := gwt 1632 (by decide +kernel) rfl
theorem kw_1633 : (Jvm.Cond.fieldLink "TrunkDuelModel" (360 : Nat) "TrunkDuelModel" "bestY" "I") ∈ gw := gwt 1633 (by decide +kernel) rfl
theorem kw_1908 : (Jvm.Cond.methodLink "TrunkDuelModel" (363 : Nat) ({ cls := "TrunkDuelModel", name := "bestOf", desc := "(III)I" } : Jvm.MethodName)) ∈ gw := gwt 1908 (by decide +kernel) rfl
theorem kw_1910 : (Jvm.Cond.instanceMethod ({ cls := "TrunkDuelModel", name := "bestOf", desc := "(III)I" } : Jvm.MethodName)) ∈ gw := gwt 1910 (by decide +kernel) rfl
theorem kp_85 : (Jvm.Cond.selects "TrunkDuelModel" ({ cls := "TrunkDuelModel", name := "bestOf", desc := "(III)I" } : Jvm.MethodName) ({ cls := "TrunkDuelModel", name := "bestOf", desc := "(III)I" } : Jvm.MethodName)) ∈ gw := gws 85 (by decide +kernel) rfl
theorem kw_1911 : (Jvm.Cond.code ({ cls := "TrunkDuelModel", name := "bestOf", desc := "(III)I" } : Jvm.MethodName) prog_13_method_112_code (8 : Nat) (Option.some Jvm.ClassFile.FieldType.int)) ∈ gw := gwt 1911 (by decide +kernel) rfl
theorem kw_1904 : (Jvm.Cond.methodLink "TrunkDuelModel" (366 : Nat) ({ cls := "TrunkDuelModel", name := "findBest", desc := "()V" } : Jvm.MethodName)) ∈ gw := gwt 1904 (by decide +kernel) rfl
theorem kw_1906 : (Jvm.Cond.instanceMethod ({ cls := "TrunkDuelModel", name := "findBest", desc := "()V" } : Jvm.MethodName)) ∈ gw := gwt 1906 (by decide +kernel) rfl
theorem kp_84 : (Jvm.Cond.selects "TrunkDuelModel" ({ cls := "TrunkDuelModel", name := "findBest", desc := "()V" } : Jvm.MethodName) ({ cls := "TrunkDuelModel", name := "findBest", desc := "()V" } : Jvm.MethodName)) ∈ gw := gws 84 (by decide +kernel) rfl
theorem kw_1907 : (Jvm.Cond.code ({ cls := "TrunkDuelModel", name := "findBest", desc := "()V" } : Jvm.MethodName) prog_13_method_111_code (4 : Nat) (Option.none : Option Jvm.ClassFile.FieldType)) ∈ gw := gwt 1907 (by decide +kernel) rfl
theorem kw_1944 : (Jvm.Cond.methodLink "TrunkDuelModel" (369 : Nat) ({ cls := "TrunkDuelModel", name := "isEmpty", desc := "(II)Z" } : Jvm.MethodName)) ∈ gw := gwt 1944 (by decide +kernel) rfl
theorem kw_1946 : (Jvm.Cond.instanceMethod ({ cls := "TrunkDuelModel", name := "isEmpty", desc := "(II)Z" } : Jvm.MethodName)) ∈ gw := gwt 1946 (by decide +kernel) rfl
theorem kp_89 : (Jvm.Cond.selects "TrunkDuelModel" ({ cls := "TrunkDuelModel", name := "isEmpty", desc := "(II)Z" } : Jvm.MethodName) ({ cls := "TrunkDuelModel", name := "isEmpty", desc := "(II)Z" } : Jvm.MethodName)) ∈ gw := gws 89 (by decide +kernel) rfl
theorem kw_1947 : (Jvm.Cond.code ({ cls := "TrunkDuelModel", name := "isEmpty", desc := "(II)Z" } : Jvm.MethodName) prog_13_method_12_code (3 : Nat) (Option.some Jvm.ClassFile.FieldType.boolean)) ∈ gw := gwt 1947 (by decide +kernel) rfl
theorem kw_1940 : (Jvm.Cond.methodLink "TrunkDuelModel" (372 : Nat) ({ cls := "TrunkDuelModel", name := "joins", desc := "(IIII)Z" } : Jvm.MethodName)) ∈ gw := gwt 1940 (by decide +kernel) rfl
theorem kw_1942 : (Jvm.Cond.instanceMethod ({ cls := "TrunkDuelModel", name := "joins", desc := "(IIII)Z" } : Jvm.MethodName)) ∈ gw := gwt 1942 (by decide +kernel) rfl
theorem kp_88 : (Jvm.Cond.selects "TrunkDuelModel" ({ cls := "TrunkDuelModel", name := "joins", desc := "(IIII)Z" } : Jvm.MethodName) ({ cls := "TrunkDuelModel", name := "joins", desc := "(IIII)Z" } : Jvm.MethodName)) ∈ gw := gws 88 (by decide +kernel) rfl
theorem kw_1943 : (Jvm.Cond.code ({ cls := "TrunkDuelModel", name := "joins", desc := "(IIII)Z" } : Jvm.MethodName) prog_13_method_118_code (7 : Nat) (Option.some Jvm.ClassFile.FieldType.boolean)) ∈ gw := gwt 1943 (by decide +kernel) rfl
theorem kw_1936 : (Jvm.Cond.methodLink "TrunkDuelModel" (375 : Nat) ({ cls := "TrunkDuelModel", name := "findRegions", desc := "()V" } : Jvm.MethodName)) ∈ gw := gwt 1936 (by decide +kernel) rfl
theorem kw_1938 : (Jvm.Cond.instanceMethod ({ cls := "TrunkDuelModel", name := "findRegions", desc := "()V" } : Jvm.MethodName)) ∈ gw := gwt 1938 (by decide +kernel) rfl
theorem kp_87 : (Jvm.Cond.selects "TrunkDuelModel" ({ cls := "TrunkDuelModel", name := "findRegions", desc := "()V" } : Jvm.MethodName) ({ cls := "TrunkDuelModel", name := "findRegions", desc := "()V" } : Jvm.MethodName)) ∈ gw := gws 87 (by decide +kernel) rfl
theorem kw_1939 : (Jvm.Cond.code ({ cls := "TrunkDuelModel", name := "findRegions", desc := "()V" } : Jvm.MethodName) prog_13_method_119_code (4 : Nat) (Option.none : Option Jvm.ClassFile.FieldType)) ∈ gw := gwt 1939 (by decide +kernel) rfl
theorem kw_1932 : (Jvm.Cond.methodLink "TrunkDuelModel" (378 : Nat) ({ cls := "TrunkDuelModel", name := "regions", desc := "()I" } : Jvm.MethodName)) ∈ gw := gwt 1932 (by decide +kernel) rfl
theorem kw_1934 : (Jvm.Cond.instanceMethod ({ cls := "TrunkDuelModel", name := "regions", desc := "()I" } : Jvm.MethodName)) ∈ gw := gwt 1934 (by decide +kernel) rfl
theorem kp_86 : (Jvm.Cond.selects "TrunkDuelModel" ({ cls := "TrunkDuelModel", name := "regions", desc := "()I" } : Jvm.MethodName) ({ cls := "TrunkDuelModel", name := "regions", desc := "()I" } : Jvm.MethodName)) ∈ gw := gws 86 (by decide +kernel) rfl
theorem kw_1935 : (Jvm.Cond.code ({ cls := "TrunkDuelModel", name := "regions", desc := "()I" } : Jvm.MethodName) prog_13_method_121_code (4 : Nat) (Option.some Jvm.ClassFile.FieldType.int)) ∈ gw := gwt 1935 (by decide +kernel) rfl
theorem kw_1952 : (Jvm.Cond.methodLink "TrunkDuelModel" (381 : Nat) ({ cls := "TrunkDuelModel", name := "sizeAt", desc := "(II)I" } : Jvm.MethodName)) ∈ gw := gwt 1952 (by decide +kernel) rfl
theorem kw_1954 : (Jvm.Cond.instanceMethod ({ cls := "TrunkDuelModel", name := "sizeAt", desc := "(II)I" } : Jvm.MethodName)) ∈ gw := gwt 1954 (by decide +kernel) rfl
theorem kp_90 : (Jvm.Cond.selects "TrunkDuelModel" ({ cls := "TrunkDuelModel", name := "sizeAt", desc := "(II)I" } : Jvm.MethodName) ({ cls := "TrunkDuelModel", name := "sizeAt", desc := "(II)I" } : Jvm.MethodName)) ∈ gw := gws 90 (by decide +kernel) rfl
theorem kw_1955 : (Jvm.Cond.code ({ cls := "TrunkDuelModel", name := "sizeAt", desc := "(II)I" } : Jvm.MethodName) prog_13_method_120_code (6 : Nat) (Option.some Jvm.ClassFile.FieldType.int)) ∈ gw := gwt 1955 (by decide +kernel) rfl
theorem kw_1968 : (Jvm.Cond.methodLink "TrunkDuelModel" (384 : Nat) ({ cls := "TrunkDuelModel", name := "covers", desc := "(II)Z" } : Jvm.MethodName)) ∈ gw := gwt 1968 (by decide +kernel) rfl
theorem kw_1970 : (Jvm.Cond.instanceMethod ({ cls := "TrunkDuelModel", name := "covers", desc := "(II)Z" } : Jvm.MethodName)) ∈ gw := gwt 1970 (by decide +kernel) rfl
theorem kp_92 : (Jvm.Cond.selects "TrunkDuelModel" ({ cls := "TrunkDuelModel", name := "covers", desc := "(II)Z" } : Jvm.MethodName) ({ cls := "TrunkDuelModel", name := "covers", desc := "(II)Z" } : Jvm.MethodName)) ∈ gw := gws 92 (by decide +kernel) rfl
theorem kw_1971 : (Jvm.Cond.code ({ cls := "TrunkDuelModel", name := "covers", desc := "(II)Z" } : Jvm.MethodName) prog_13_method_125_code (4 : Nat) (Option.some Jvm.ClassFile.FieldType.boolean)) ∈ gw := gwt 1971 (by decide +kernel) rfl
theorem kw_1964 : (Jvm.Cond.methodLink "TrunkDuelModel" (387 : Nat) ({ cls := "TrunkDuelModel", name := "dead", desc := "(II)Z" } : Jvm.MethodName)) ∈ gw := gwt 1964 (by decide +kernel) rfl
theorem kw_1966 : (Jvm.Cond.instanceMethod ({ cls := "TrunkDuelModel", name := "dead", desc := "(II)Z" } : Jvm.MethodName)) ∈ gw := gwt 1966 (by decide +kernel) rfl
theorem kp_91 : (Jvm.Cond.selects "TrunkDuelModel" ({ cls := "TrunkDuelModel", name := "dead", desc := "(II)Z" } : Jvm.MethodName) ({ cls := "TrunkDuelModel", name := "dead", desc := "(II)Z" } : Jvm.MethodName)) ∈ gw := gws 91 (by decide +kernel) rfl
theorem kw_1967 : (Jvm.Cond.code ({ cls := "TrunkDuelModel", name := "dead", desc := "(II)Z" } : Jvm.MethodName) prog_13_method_126_code (7 : Nat) (Option.some Jvm.ClassFile.FieldType.boolean)) ∈ gw := gwt 1967 (by decide +kernel) rfl
theorem kw_1980 : (Jvm.Cond.methodLink "TrunkDuelModel" (390 : Nat) ({ cls := "TrunkDuelModel", name := "crossed", desc := "()I" } : Jvm.MethodName)) ∈ gw := gwt 1980 (by decide +kernel) rfl
theorem kw_1982 : (Jvm.Cond.instanceMethod ({ cls := "TrunkDuelModel", name := "crossed", desc := "()I" } : Jvm.MethodName)) ∈ gw := gwt 1982 (by decide +kernel) rfl
theorem kp_93 : (Jvm.Cond.selects "TrunkDuelModel" ({ cls := "TrunkDuelModel", name := "crossed", desc := "()I" } : Jvm.MethodName) ({ cls := "TrunkDuelModel", name := "crossed", desc := "()I" } : Jvm.MethodName)) ∈ gw := gws 93 (by decide +kernel) rfl
theorem kw_1983 : (Jvm.Cond.code ({ cls := "TrunkDuelModel", name := "crossed", desc := "()I" } : Jvm.MethodName) prog_13_method_129_code (5 : Nat) (Option.some Jvm.ClassFile.FieldType.int)) ∈ gw := gwt 1983 (by decide +kernel) rfl
theorem kw_1984 : (Jvm.Cond.methodLink "TrunkDuelModel" (393 : Nat) ({ cls := "TrunkDuelModel", name := "counted", desc := "(I)I" } : Jvm.MethodName)) ∈ gw := gwt 1984 (by decide +kernel) rfl
theorem kw_1986 : (Jvm.Cond.instanceMethod ({ cls := "TrunkDuelModel", name := "counted", desc := "(I)I" } : Jvm.MethodName)) ∈ gw := gwt 1986 (by decide +kernel) rfl
theorem kp_94 : (Jvm.Cond.selects "TrunkDuelModel" ({ cls := "TrunkDuelModel", name := "counted", desc := "(I)I" } : Jvm.MethodName) ({ cls := "TrunkDuelModel", name := "counted", desc := "(I)I" } : Jvm.MethodName)) ∈ gw := gws 94 (by decide +kernel) rfl
theorem kw_1987 : (Jvm.Cond.code ({ cls := "TrunkDuelModel", name := "counted", desc := "(I)I" } : Jvm.MethodName) prog_13_method_76_code (5 : Nat) (Option.some Jvm.ClassFile.FieldType.int)) ∈ gw := gwt 1987 (by decide +kernel) rfl
theorem kw_1620 : (Jvm.Cond.fieldLink "TrunkDuelModel" (396 : Nat) "TrunkDuelModel" "outputMany" "I") ∈ gw := gwt 1620 (by decide +kernel) rfl
theorem kw_2000 : (Jvm.Cond.methodLink "TrunkDuelModel" (399 : Nat) ({ cls := "TrunkDuelModel", name := "out", desc := "(I)V" } : Jvm.MethodName)) ∈ gw := gwt 2000 (by decide +kernel) rfl
theorem kw_2002 : (Jvm.Cond.instanceMethod ({ cls := "TrunkDuelModel", name := "out", desc := "(I)V" } : Jvm.MethodName)) ∈ gw := gwt 2002 (by decide +kernel) rfl
theorem kp_95 : (Jvm.Cond.selects "TrunkDuelModel" ({ cls := "TrunkDuelModel", name := "out", desc := "(I)V" } : Jvm.MethodName) ({ cls := "TrunkDuelModel", name := "out", desc := "(I)V" } : Jvm.MethodName)) ∈ gw := gws 95 (by decide +kernel) rfl
theorem kw_2003 : (Jvm.Cond.code ({ cls := "TrunkDuelModel", name := "out", desc := "(I)V" } : Jvm.MethodName) prog_13_method_133_code (2 : Nat) (Option.none : Option Jvm.ClassFile.FieldType)) ∈ gw := gwt 2003 (by decide +kernel) rfl
theorem kw_993 : (Jvm.Cond.methodLink "TrunkDuelLaw" (7 : Nat) ({ cls := "TrunkDuel", name := "truncateInput", desc := "(I)I" } : Jvm.MethodName)) ∈ gw := gwt 993 (by decide +kernel) rfl
theorem kw_994 : (Jvm.Cond.instanceMethod ({ cls := "TrunkDuel", name := "truncateInput", desc := "(I)I" } : Jvm.MethodName)) ∈ gw := gwt 994 (by decide +kernel) rfl
theorem kw_995 : (Jvm.Cond.selects "TrunkDuel" ({ cls := "TrunkDuel", name := "truncateInput", desc := "(I)I" } : Jvm.MethodName) ({ cls := "TrunkDuel", name := "truncateInput", desc := "(I)I" } : Jvm.MethodName)) ∈ gw := gwt 995 (by decide +kernel) rfl
theorem kw_996 : (Jvm.Cond.code ({ cls := "TrunkDuel", name := "truncateInput", desc := "(I)I" } : Jvm.MethodName) prog_1_method_3_code (2 : Nat) (Option.some Jvm.ClassFile.FieldType.int)) ∈ gw := gwt 996 (by decide +kernel) rfl
theorem kw_1069 : (Jvm.Cond.methodLink "TrunkDuelLaw" (15 : Nat) ({ cls := "TrunkDuel", name := "place", desc := "(IIII)I" } : Jvm.MethodName)) ∈ gw := gwt 1069 (by decide +kernel) rfl
theorem kw_1070 : (Jvm.Cond.instanceMethod ({ cls := "TrunkDuel", name := "place", desc := "(IIII)I" } : Jvm.MethodName)) ∈ gw := gwt 1070 (by decide +kernel) rfl
theorem kw_1071 : (Jvm.Cond.selects "TrunkDuel" ({ cls := "TrunkDuel", name := "place", desc := "(IIII)I" } : Jvm.MethodName) ({ cls := "TrunkDuel", name := "place", desc := "(IIII)I" } : Jvm.MethodName)) ∈ gw := gwt 1071 (by decide +kernel) rfl
theorem kw_1072 : (Jvm.Cond.code ({ cls := "TrunkDuel", name := "place", desc := "(IIII)I" } : Jvm.MethodName) prog_1_method_8_code (5 : Nat) (Option.some Jvm.ClassFile.FieldType.int)) ∈ gw := gwt 1072 (by decide +kernel) rfl
theorem kw_1124 : (Jvm.Cond.methodLink "TrunkDuelLaw" (23 : Nat) ({ cls := "TrunkDuel", name := "fastenStrap", desc := "(III)I" } : Jvm.MethodName)) ∈ gw := gwt 1124 (by decide +kernel) rfl
theorem kw_1125 : (Jvm.Cond.instanceMethod ({ cls := "TrunkDuel", name := "fastenStrap", desc := "(III)I" } : Jvm.MethodName)) ∈ gw := gwt 1125 (by decide +kernel) rfl
theorem kw_1126 : (Jvm.Cond.selects "TrunkDuel" ({ cls := "TrunkDuel", name := "fastenStrap", desc := "(III)I" } : Jvm.MethodName) ({ cls := "TrunkDuel", name := "fastenStrap", desc := "(III)I" } : Jvm.MethodName)) ∈ gw := gwt 1126 (by decide +kernel) rfl
theorem kw_1127 : (Jvm.Cond.code ({ cls := "TrunkDuel", name := "fastenStrap", desc := "(III)I" } : Jvm.MethodName) prog_1_method_9_code (4 : Nat) (Option.some Jvm.ClassFile.FieldType.int)) ∈ gw := gwt 1127 (by decide +kernel) rfl
theorem kw_1141 : (Jvm.Cond.methodLink "TrunkDuelLaw" (27 : Nat) ({ cls := "TrunkDuel", name := "pass", desc := "()I" } : Jvm.MethodName)) ∈ gw := gwt 1141 (by decide +kernel) rfl
theorem kw_1142 : (Jvm.Cond.instanceMethod ({ cls := "TrunkDuel", name := "pass", desc := "()I" } : Jvm.MethodName)) ∈ gw := gwt 1142 (by decide +kernel) rfl
theorem kw_1143 : (Jvm.Cond.selects "TrunkDuel" ({ cls := "TrunkDuel", name := "pass", desc := "()I" } : Jvm.MethodName) ({ cls := "TrunkDuel", name := "pass", desc := "()I" } : Jvm.MethodName)) ∈ gw := gwt 1143 (by decide +kernel) rfl
theorem kw_1144 : (Jvm.Cond.code ({ cls := "TrunkDuel", name := "pass", desc := "()I" } : Jvm.MethodName) prog_1_method_10_code (1 : Nat) (Option.some Jvm.ClassFile.FieldType.int)) ∈ gw := gwt 1144 (by decide +kernel) rfl
theorem kw_1151 : (Jvm.Cond.methodLink "TrunkDuelLaw" (31 : Nat) ({ cls := "TrunkDuel", name := "undo", desc := "()I" } : Jvm.MethodName)) ∈ gw := gwt 1151 (by decide +kernel) rfl
theorem kw_1152 : (Jvm.Cond.instanceMethod ({ cls := "TrunkDuel", name := "undo", desc := "()I" } : Jvm.MethodName)) ∈ gw := gwt 1152 (by decide +kernel) rfl
theorem kw_1153 : (Jvm.Cond.selects "TrunkDuel" ({ cls := "TrunkDuel", name := "undo", desc := "()I" } : Jvm.MethodName) ({ cls := "TrunkDuel", name := "undo", desc := "()I" } : Jvm.MethodName)) ∈ gw := gwt 1153 (by decide +kernel) rfl
theorem kw_1154 : (Jvm.Cond.code ({ cls := "TrunkDuel", name := "undo", desc := "()I" } : Jvm.MethodName) prog_1_method_11_code (1 : Nat) (Option.some Jvm.ClassFile.FieldType.int)) ∈ gw := gwt 1154 (by decide +kernel) rfl
theorem kw_1163 : (Jvm.Cond.methodLink "TrunkDuelLaw" (34 : Nat) ({ cls := "TrunkDuel", name := "save", desc := "(I)I" } : Jvm.MethodName)) ∈ gw := gwt 1163 (by decide +kernel) rfl
theorem kw_1164 : (Jvm.Cond.instanceMethod ({ cls := "TrunkDuel", name := "save", desc := "(I)I" } : Jvm.MethodName)) ∈ gw := gwt 1164 (by decide +kernel) rfl
theorem kw_1165 : (Jvm.Cond.selects "TrunkDuel" ({ cls := "TrunkDuel", name := "save", desc := "(I)I" } : Jvm.MethodName) ({ cls := "TrunkDuel", name := "save", desc := "(I)I" } : Jvm.MethodName)) ∈ gw := gwt 1165 (by decide +kernel) rfl
theorem kw_1166 : (Jvm.Cond.code ({ cls := "TrunkDuel", name := "save", desc := "(I)I" } : Jvm.MethodName) prog_1_method_12_code (2 : Nat) (Option.some Jvm.ClassFile.FieldType.int)) ∈ gw := gwt 1166 (by decide +kernel) rfl
theorem kw_1174 : (Jvm.Cond.methodLink "TrunkDuelLaw" (37 : Nat) ({ cls := "TrunkDuel", name := "restore", desc := "(I)I" } : Jvm.MethodName)) ∈ gw := gwt 1174 (by decide +kernel) rfl
theorem kw_1175 : (Jvm.Cond.instanceMethod ({ cls := "TrunkDuel", name := "restore", desc := "(I)I" } : Jvm.MethodName)) ∈ gw := gwt 1175 (by decide +kernel) rfl
theorem kw_1176 : (Jvm.Cond.selects "TrunkDuel" ({ cls := "TrunkDuel", name := "restore", desc := "(I)I" } : Jvm.MethodName) ({ cls := "TrunkDuel", name := "restore", desc := "(I)I" } : Jvm.MethodName)) ∈ gw := gwt 1176 (by decide +kernel) rfl
theorem kw_1177 : (Jvm.Cond.code ({ cls := "TrunkDuel", name := "restore", desc := "(I)I" } : Jvm.MethodName) prog_1_method_13_code (2 : Nat) (Option.some Jvm.ClassFile.FieldType.int)) ∈ gw := gwt 1177 (by decide +kernel) rfl
theorem kw_1182 : (Jvm.Cond.methodLink "TrunkDuelLaw" (40 : Nat) ({ cls := "TrunkDuel", name := "isBlocked", desc := "(II)Z" } : Jvm.MethodName)) ∈ gw := gwt 1182 (by decide +kernel) rfl
theorem kw_1183 : (Jvm.Cond.instanceMethod ({ cls := "TrunkDuel", name := "isBlocked", desc := "(II)Z" } : Jvm.MethodName)) ∈ gw := gwt 1183 (by decide +kernel) rfl
theorem kw_1184 : (Jvm.Cond.selects "TrunkDuel" ({ cls := "TrunkDuel", name := "isBlocked", desc := "(II)Z" } : Jvm.MethodName) ({ cls := "TrunkDuel", name := "isBlocked", desc := "(II)Z" } : Jvm.MethodName)) ∈ gw := gwt 1184 (by decide +kernel) rfl
theorem kw_1185 : (Jvm.Cond.code ({ cls := "TrunkDuel", name := "isBlocked", desc := "(II)Z" } : Jvm.MethodName) prog_1_method_21_code (3 : Nat) (Option.some Jvm.ClassFile.FieldType.boolean)) ∈ gw := gwt 1185 (by decide +kernel) rfl
theorem kw_1189 : (Jvm.Cond.methodLink "TrunkDuelLaw" (44 : Nat) ({ cls := "TrunkDuel", name := "pieceAt", desc := "(II)I" } : Jvm.MethodName)) ∈ gw := gwt 1189 (by decide +kernel) rfl
theorem kw_1190 : (Jvm.Cond.instanceMethod ({ cls := "TrunkDuel", name := "pieceAt", desc := "(II)I" } : Jvm.MethodName)) ∈ gw := gwt 1190 (by decide +kernel) rfl
theorem kw_1191 : (Jvm.Cond.selects "TrunkDuel" ({ cls := "TrunkDuel", name := "pieceAt", desc := "(II)I" } : Jvm.MethodName) ({ cls := "TrunkDuel", name := "pieceAt", desc := "(II)I" } : Jvm.MethodName)) ∈ gw := gwt 1191 (by decide +kernel) rfl
theorem kw_1192 : (Jvm.Cond.code ({ cls := "TrunkDuel", name := "pieceAt", desc := "(II)I" } : Jvm.MethodName) prog_1_method_22_code (4 : Nat) (Option.some Jvm.ClassFile.FieldType.int)) ∈ gw := gwt 1192 (by decide +kernel) rfl
theorem kw_1196 : (Jvm.Cond.methodLink "TrunkDuelLaw" (48 : Nat) ({ cls := "TrunkDuel", name := "hasStrap", desc := "(III)Z" } : Jvm.MethodName)) ∈ gw := gwt 1196 (by decide +kernel) rfl
theorem kw_1197 : (Jvm.Cond.instanceMethod ({ cls := "TrunkDuel", name := "hasStrap", desc := "(III)Z" } : Jvm.MethodName)) ∈ gw := gwt 1197 (by decide +kernel) rfl
theorem kw_1198 : (Jvm.Cond.selects "TrunkDuel" ({ cls := "TrunkDuel", name := "hasStrap", desc := "(III)Z" } : Jvm.MethodName) ({ cls := "TrunkDuel", name := "hasStrap", desc := "(III)Z" } : Jvm.MethodName)) ∈ gw := gwt 1198 (by decide +kernel) rfl
theorem kw_1199 : (Jvm.Cond.code ({ cls := "TrunkDuel", name := "hasStrap", desc := "(III)Z" } : Jvm.MethodName) prog_1_method_23_code (4 : Nat) (Option.some Jvm.ClassFile.FieldType.boolean)) ∈ gw := gwt 1199 (by decide +kernel) rfl
theorem kw_1204 : (Jvm.Cond.methodLink "TrunkDuelLaw" (52 : Nat) ({ cls := "TrunkDuel", name := "emptyInRow", desc := "(I)I" } : Jvm.MethodName)) ∈ gw := gwt 1204 (by decide +kernel) rfl
theorem kw_1205 : (Jvm.Cond.instanceMethod ({ cls := "TrunkDuel", name := "emptyInRow", desc := "(I)I" } : Jvm.MethodName)) ∈ gw := gwt 1205 (by decide +kernel) rfl
theorem kw_1206 : (Jvm.Cond.selects "TrunkDuel" ({ cls := "TrunkDuel", name := "emptyInRow", desc := "(I)I" } : Jvm.MethodName) ({ cls := "TrunkDuel", name := "emptyInRow", desc := "(I)I" } : Jvm.MethodName)) ∈ gw := gwt 1206 (by decide +kernel) rfl
theorem kw_1207 : (Jvm.Cond.code ({ cls := "TrunkDuel", name := "emptyInRow", desc := "(I)I" } : Jvm.MethodName) prog_1_method_24_code (2 : Nat) (Option.some Jvm.ClassFile.FieldType.int)) ∈ gw := gwt 1207 (by decide +kernel) rfl
theorem kw_1212 : (Jvm.Cond.methodLink "TrunkDuelLaw" (55 : Nat) ({ cls := "TrunkDuel", name := "pieceShape", desc := "(I)I" } : Jvm.MethodName)) ∈ gw := gwt 1212 (by decide +kernel) rfl
theorem kw_1213 : (Jvm.Cond.instanceMethod ({ cls := "TrunkDuel", name := "pieceShape", desc := "(I)I" } : Jvm.MethodName)) ∈ gw := gwt 1213 (by decide +kernel) rfl
theorem kw_1214 : (Jvm.Cond.selects "TrunkDuel" ({ cls := "TrunkDuel", name := "pieceShape", desc := "(I)I" } : Jvm.MethodName) ({ cls := "TrunkDuel", name := "pieceShape", desc := "(I)I" } : Jvm.MethodName)) ∈ gw := gwt 1214 (by decide +kernel) rfl
theorem kw_1215 : (Jvm.Cond.code ({ cls := "TrunkDuel", name := "pieceShape", desc := "(I)I" } : Jvm.MethodName) prog_1_method_25_code (2 : Nat) (Option.some Jvm.ClassFile.FieldType.int)) ∈ gw := gwt 1215 (by decide +kernel) rfl
theorem kw_1224 : (Jvm.Cond.methodLink "TrunkDuelLaw" (58 : Nat) ({ cls := "TrunkDuel", name := "pieceRotation", desc := "(I)I" } : Jvm.MethodName)) ∈ gw := gwt 1224 (by decide +kernel) rfl
theorem kw_1225 : (Jvm.Cond.instanceMethod ({ cls := "TrunkDuel", name := "pieceRotation", desc := "(I)I" } : Jvm.MethodName)) ∈ gw := gwt 1225 (by decide +kernel) rfl
theorem kw_1226 : (Jvm.Cond.selects "TrunkDuel" ({ cls := "TrunkDuel", name := "pieceRotation", desc := "(I)I" } : Jvm.MethodName) ({ cls := "TrunkDuel", name := "pieceRotation", desc := "(I)I" } : Jvm.MethodName)) ∈ gw := gwt 1226 (by decide +kernel) rfl
theorem kw_1227 : (Jvm.Cond.code ({ cls := "TrunkDuel", name := "pieceRotation", desc := "(I)I" } : Jvm.MethodName) prog_1_method_26_code (2 : Nat) (Option.some Jvm.ClassFile.FieldType.int)) ∈ gw := gwt 1227 (by decide +kernel) rfl
theorem kw_1231 : (Jvm.Cond.methodLink "TrunkDuelLaw" (61 : Nat) ({ cls := "TrunkDuel", name := "pieceColumn", desc := "(I)I" } : Jvm.MethodName)) ∈ gw := gwt 1231 (by decide +kernel) rfl
theorem kw_1232 : (Jvm.Cond.instanceMethod ({ cls := "TrunkDuel", name := "pieceColumn", desc := "(I)I" } : Jvm.MethodName)) ∈ gw := gwt 1232 (by decide +kernel) rfl
theorem kw_1233 : (Jvm.Cond.selects "TrunkDuel" ({ cls := "TrunkDuel", name := "pieceColumn", desc := "(I)I" } : Jvm.MethodName) ({ cls := "TrunkDuel", name := "pieceColumn", desc := "(I)I" } : Jvm.MethodName)) ∈ gw := gwt 1233 (by decide +kernel) rfl
theorem kw_1234 : (Jvm.Cond.code ({ cls := "TrunkDuel", name := "pieceColumn", desc := "(I)I" } : Jvm.MethodName) prog_1_method_27_code (2 : Nat) (Option.some Jvm.ClassFile.FieldType.int)) ∈ gw := gwt 1234 (by decide +kernel) rfl
theorem kw_1238 : (Jvm.Cond.methodLink "TrunkDuelLaw" (64 : Nat) ({ cls := "TrunkDuel", name := "pieceRow", desc := "(I)I" } : Jvm.MethodName)) ∈ gw := gwt 1238 (by decide +kernel) rfl
theorem kw_1239 : (Jvm.Cond.instanceMethod ({ cls := "TrunkDuel", name := "pieceRow", desc := "(I)I" } : Jvm.MethodName)) ∈ gw := gwt 1239 (by decide +kernel) rfl
theorem kw_1240 : (Jvm.Cond.selects "TrunkDuel" ({ cls := "TrunkDuel", name := "pieceRow", desc := "(I)I" } : Jvm.MethodName) ({ cls := "TrunkDuel", name := "pieceRow", desc := "(I)I" } : Jvm.MethodName)) ∈ gw := gwt 1240 (by decide +kernel) rfl
theorem kw_1241 : (Jvm.Cond.code ({ cls := "TrunkDuel", name := "pieceRow", desc := "(I)I" } : Jvm.MethodName) prog_1_method_28_code (2 : Nat) (Option.some Jvm.ClassFile.FieldType.int)) ∈ gw := gwt 1241 (by decide +kernel) rfl
theorem kw_1245 : (Jvm.Cond.methodLink "TrunkDuelLaw" (67 : Nat) ({ cls := "TrunkDuel", name := "pieceOwner", desc := "(I)I" } : Jvm.MethodName)) ∈ gw := gwt 1245 (by decide +kernel) rfl
theorem kw_1246 : (Jvm.Cond.instanceMethod ({ cls := "TrunkDuel", name := "pieceOwner", desc := "(I)I" } : Jvm.MethodName)) ∈ gw := gwt 1246 (by decide +kernel) rfl
theorem kw_1247 : (Jvm.Cond.selects "TrunkDuel" ({ cls := "TrunkDuel", name := "pieceOwner", desc := "(I)I" } : Jvm.MethodName) ({ cls := "TrunkDuel", name := "pieceOwner", desc := "(I)I" } : Jvm.MethodName)) ∈ gw := gwt 1247 (by decide +kernel) rfl
theorem kw_1248 : (Jvm.Cond.code ({ cls := "TrunkDuel", name := "pieceOwner", desc := "(I)I" } : Jvm.MethodName) prog_1_method_29_code (2 : Nat) (Option.some Jvm.ClassFile.FieldType.int)) ∈ gw := gwt 1248 (by decide +kernel) rfl
theorem kw_1256 : (Jvm.Cond.methodLink "TrunkDuelLaw" (70 : Nat) ({ cls := "TrunkDuel", name := "piecePoints", desc := "(I)I" } : Jvm.MethodName)) ∈ gw := gwt 1256 (by decide +kernel) rfl
theorem kw_1257 : (Jvm.Cond.instanceMethod ({ cls := "TrunkDuel", name := "piecePoints", desc := "(I)I" } : Jvm.MethodName)) ∈ gw := gwt 1257 (by decide +kernel) rfl
theorem kw_1258 : (Jvm.Cond.selects "TrunkDuel" ({ cls := "TrunkDuel", name := "piecePoints", desc := "(I)I" } : Jvm.MethodName) ({ cls := "TrunkDuel", name := "piecePoints", desc := "(I)I" } : Jvm.MethodName)) ∈ gw := gwt 1258 (by decide +kernel) rfl
theorem kw_1259 : (Jvm.Cond.code ({ cls := "TrunkDuel", name := "piecePoints", desc := "(I)I" } : Jvm.MethodName) prog_1_method_30_code (2 : Nat) (Option.some Jvm.ClassFile.FieldType.int)) ∈ gw := gwt 1259 (by decide +kernel) rfl
theorem kw_1263 : (Jvm.Cond.methodLink "TrunkDuelLaw" (73 : Nat) ({ cls := "TrunkDuel", name := "score", desc := "(I)I" } : Jvm.MethodName)) ∈ gw := gwt 1263 (by decide +kernel) rfl
theorem kw_1264 : (Jvm.Cond.instanceMethod ({ cls := "TrunkDuel", name := "score", desc := "(I)I" } : Jvm.MethodName)) ∈ gw := gwt 1264 (by decide +kernel) rfl
theorem kw_1265 : (Jvm.Cond.selects "TrunkDuel" ({ cls := "TrunkDuel", name := "score", desc := "(I)I" } : Jvm.MethodName) ({ cls := "TrunkDuel", name := "score", desc := "(I)I" } : Jvm.MethodName)) ∈ gw := gwt 1265 (by decide +kernel) rfl
theorem kw_1266 : (Jvm.Cond.code ({ cls := "TrunkDuel", name := "score", desc := "(I)I" } : Jvm.MethodName) prog_1_method_34_code (2 : Nat) (Option.some Jvm.ClassFile.FieldType.int)) ∈ gw := gwt 1266 (by decide +kernel) rfl
theorem kw_1274 : (Jvm.Cond.methodLink "TrunkDuelLaw" (76 : Nat) ({ cls := "TrunkDuel", name := "supply", desc := "(II)I" } : Jvm.MethodName)) ∈ gw := gwt 1274 (by decide +kernel) rfl
theorem kw_1275 : (Jvm.Cond.instanceMethod ({ cls := "TrunkDuel", name := "supply", desc := "(II)I" } : Jvm.MethodName)) ∈ gw := gwt 1275 (by decide +kernel) rfl
theorem kw_1276 : (Jvm.Cond.selects "TrunkDuel" ({ cls := "TrunkDuel", name := "supply", desc := "(II)I" } : Jvm.MethodName) ({ cls := "TrunkDuel", name := "supply", desc := "(II)I" } : Jvm.MethodName)) ∈ gw := gwt 1276 (by decide +kernel) rfl
theorem kw_1277 : (Jvm.Cond.code ({ cls := "TrunkDuel", name := "supply", desc := "(II)I" } : Jvm.MethodName) prog_1_method_35_code (3 : Nat) (Option.some Jvm.ClassFile.FieldType.int)) ∈ gw := gwt 1277 (by decide +kernel) rfl
theorem kw_1282 : (Jvm.Cond.methodLink "TrunkDuelLaw" (79 : Nat) ({ cls := "TrunkDuel", name := "strapsLeft", desc := "(I)I" } : Jvm.MethodName)) ∈ gw := gwt 1282 (by decide +kernel) rfl
theorem kw_1283 : (Jvm.Cond.instanceMethod ({ cls := "TrunkDuel", name := "strapsLeft", desc := "(I)I" } : Jvm.MethodName)) ∈ gw := gwt 1283 (by decide +kernel) rfl
theorem kw_1284 : (Jvm.Cond.selects "TrunkDuel" ({ cls := "TrunkDuel", name := "strapsLeft", desc := "(I)I" } : Jvm.MethodName) ({ cls := "TrunkDuel", name := "strapsLeft", desc := "(I)I" } : Jvm.MethodName)) ∈ gw := gwt 1284 (by decide +kernel) rfl
theorem kw_1285 : (Jvm.Cond.code ({ cls := "TrunkDuel", name := "strapsLeft", desc := "(I)I" } : Jvm.MethodName) prog_1_method_36_code (2 : Nat) (Option.some Jvm.ClassFile.FieldType.int)) ∈ gw := gwt 1285 (by decide +kernel) rfl
theorem kw_1289 : (Jvm.Cond.methodLink "TrunkDuelLaw" (82 : Nat) ({ cls := "TrunkDuel", name := "nameByte", desc := "(II)I" } : Jvm.MethodName)) ∈ gw := gwt 1289 (by decide +kernel) rfl
theorem kw_1290 : (Jvm.Cond.instanceMethod ({ cls := "TrunkDuel", name := "nameByte", desc := "(II)I" } : Jvm.MethodName)) ∈ gw := gwt 1290 (by decide +kernel) rfl
theorem kw_1291 : (Jvm.Cond.selects "TrunkDuel" ({ cls := "TrunkDuel", name := "nameByte", desc := "(II)I" } : Jvm.MethodName) ({ cls := "TrunkDuel", name := "nameByte", desc := "(II)I" } : Jvm.MethodName)) ∈ gw := gwt 1291 (by decide +kernel) rfl
theorem kw_1292 : (Jvm.Cond.code ({ cls := "TrunkDuel", name := "nameByte", desc := "(II)I" } : Jvm.MethodName) prog_1_method_37_code (3 : Nat) (Option.some Jvm.ClassFile.FieldType.int)) ∈ gw := gwt 1292 (by decide +kernel) rfl
theorem kw_1300 : (Jvm.Cond.methodLink "TrunkDuelLaw" (85 : Nat) ({ cls := "TrunkDuel", name := "fits", desc := "(IIII)Z" } : Jvm.MethodName)) ∈ gw := gwt 1300 (by decide +kernel) rfl
theorem kw_1301 : (Jvm.Cond.instanceMethod ({ cls := "TrunkDuel", name := "fits", desc := "(IIII)Z" } : Jvm.MethodName)) ∈ gw := gwt 1301 (by decide +kernel) rfl
theorem kw_1302 : (Jvm.Cond.selects "TrunkDuel" ({ cls := "TrunkDuel", name := "fits", desc := "(IIII)Z" } : Jvm.MethodName) ({ cls := "TrunkDuel", name := "fits", desc := "(IIII)Z" } : Jvm.MethodName)) ∈ gw := gwt 1302 (by decide +kernel) rfl
theorem kw_1303 : (Jvm.Cond.code ({ cls := "TrunkDuel", name := "fits", desc := "(IIII)Z" } : Jvm.MethodName) prog_1_method_38_code (5 : Nat) (Option.some Jvm.ClassFile.FieldType.boolean)) ∈ gw := gwt 1303 (by decide +kernel) rfl
theorem kw_1308 : (Jvm.Cond.methodLink "TrunkDuelLaw" (89 : Nat) ({ cls := "TrunkDuel", name := "misfitReason", desc := "(IIII)I" } : Jvm.MethodName)) ∈ gw := gwt 1308 (by decide +kernel) rfl
theorem kw_1309 : (Jvm.Cond.instanceMethod ({ cls := "TrunkDuel", name := "misfitReason", desc := "(IIII)I" } : Jvm.MethodName)) ∈ gw := gwt 1309 (by decide +kernel) rfl
theorem kw_1310 : (Jvm.Cond.selects "TrunkDuel" ({ cls := "TrunkDuel", name := "misfitReason", desc := "(IIII)I" } : Jvm.MethodName) ({ cls := "TrunkDuel", name := "misfitReason", desc := "(IIII)I" } : Jvm.MethodName)) ∈ gw := gwt 1310 (by decide +kernel) rfl
theorem kw_1311 : (Jvm.Cond.code ({ cls := "TrunkDuel", name := "misfitReason", desc := "(IIII)I" } : Jvm.MethodName) prog_1_method_39_code (5 : Nat) (Option.some Jvm.ClassFile.FieldType.int)) ∈ gw := gwt 1311 (by decide +kernel) rfl
theorem kw_1315 : (Jvm.Cond.methodLink "TrunkDuelLaw" (92 : Nat) ({ cls := "TrunkDuel", name := "pointsFor", desc := "(IIII)I" } : Jvm.MethodName)) ∈ gw := gwt 1315 (by decide +kernel) rfl
theorem kw_1316 : (Jvm.Cond.instanceMethod ({ cls := "TrunkDuel", name := "pointsFor", desc := "(IIII)I" } : Jvm.MethodName)) ∈ gw := gwt 1316 (by decide +kernel) rfl
theorem kw_1317 : (Jvm.Cond.selects "TrunkDuel" ({ cls := "TrunkDuel", name := "pointsFor", desc := "(IIII)I" } : Jvm.MethodName) ({ cls := "TrunkDuel", name := "pointsFor", desc := "(IIII)I" } : Jvm.MethodName)) ∈ gw := gwt 1317 (by decide +kernel) rfl
theorem kw_1318 : (Jvm.Cond.code ({ cls := "TrunkDuel", name := "pointsFor", desc := "(IIII)I" } : Jvm.MethodName) prog_1_method_40_code (5 : Nat) (Option.some Jvm.ClassFile.FieldType.int)) ∈ gw := gwt 1318 (by decide +kernel) rfl
theorem kw_1323 : (Jvm.Cond.methodLink "TrunkDuelLaw" (95 : Nat) ({ cls := "TrunkDuel", name := "mobility", desc := "(I)I" } : Jvm.MethodName)) ∈ gw := gwt 1323 (by decide +kernel) rfl
theorem kw_1324 : (Jvm.Cond.instanceMethod ({ cls := "TrunkDuel", name := "mobility", desc := "(I)I" } : Jvm.MethodName)) ∈ gw := gwt 1324 (by decide +kernel) rfl
theorem kw_1325 : (Jvm.Cond.selects "TrunkDuel" ({ cls := "TrunkDuel", name := "mobility", desc := "(I)I" } : Jvm.MethodName) ({ cls := "TrunkDuel", name := "mobility", desc := "(I)I" } : Jvm.MethodName)) ∈ gw := gwt 1325 (by decide +kernel) rfl
theorem kw_1326 : (Jvm.Cond.code ({ cls := "TrunkDuel", name := "mobility", desc := "(I)I" } : Jvm.MethodName) prog_1_method_41_code (2 : Nat) (Option.some Jvm.ClassFile.FieldType.int)) ∈ gw := gwt 1326 (by decide +kernel) rfl
theorem kw_1340 : (Jvm.Cond.methodLink "TrunkDuelLaw" (98 : Nat) ({ cls := "TrunkDuel", name := "fittingPlacements", desc := "(I)I" } : Jvm.MethodName)) ∈ gw := gwt 1340 (by decide +kernel) rfl
theorem kw_1341 : (Jvm.Cond.instanceMethod ({ cls := "TrunkDuel", name := "fittingPlacements", desc := "(I)I" } : Jvm.MethodName)) ∈ gw := gwt 1341 (by decide +kernel) rfl
theorem kw_1342 : (Jvm.Cond.selects "TrunkDuel" ({ cls := "TrunkDuel", name := "fittingPlacements", desc := "(I)I" } : Jvm.MethodName) ({ cls := "TrunkDuel", name := "fittingPlacements", desc := "(I)I" } : Jvm.MethodName)) ∈ gw := gwt 1342 (by decide +kernel) rfl
theorem kw_1343 : (Jvm.Cond.code ({ cls := "TrunkDuel", name := "fittingPlacements", desc := "(I)I" } : Jvm.MethodName) prog_1_method_42_code (2 : Nat) (Option.some Jvm.ClassFile.FieldType.int)) ∈ gw := gwt 1343 (by decide +kernel) rfl
theorem kw_1348 : (Jvm.Cond.methodLink "TrunkDuelLaw" (101 : Nat) ({ cls := "TrunkDuel", name := "mobilityAfter", desc := "(IIIII)I" } : Jvm.MethodName)) ∈ gw := gwt 1348 (by decide +kernel) rfl
theorem kw_1349 : (Jvm.Cond.instanceMethod ({ cls := "TrunkDuel", name := "mobilityAfter", desc := "(IIIII)I" } : Jvm.MethodName)) ∈ gw := gwt 1349 (by decide +kernel) rfl
theorem kw_1350 : (Jvm.Cond.selects "TrunkDuel" ({ cls := "TrunkDuel", name := "mobilityAfter", desc := "(IIIII)I" } : Jvm.MethodName) ({ cls := "TrunkDuel", name := "mobilityAfter", desc := "(IIIII)I" } : Jvm.MethodName)) ∈ gw := gwt 1350 (by decide +kernel) rfl
theorem kw_1351 : (Jvm.Cond.code ({ cls := "TrunkDuel", name := "mobilityAfter", desc := "(IIIII)I" } : Jvm.MethodName) prog_1_method_43_code (6 : Nat) (Option.some Jvm.ClassFile.FieldType.int)) ∈ gw := gwt 1351 (by decide +kernel) rfl
theorem kw_1355 : (Jvm.Cond.methodLink "TrunkDuelLaw" (105 : Nat) ({ cls := "TrunkDuel", name := "regionSize", desc := "(II)I" } : Jvm.MethodName)) ∈ gw := gwt 1355 (by decide +kernel) rfl
theorem kw_1356 : (Jvm.Cond.instanceMethod ({ cls := "TrunkDuel", name := "regionSize", desc := "(II)I" } : Jvm.MethodName)) ∈ gw := gwt 1356 (by decide +kernel) rfl
theorem kw_1357 : (Jvm.Cond.selects "TrunkDuel" ({ cls := "TrunkDuel", name := "regionSize", desc := "(II)I" } : Jvm.MethodName) ({ cls := "TrunkDuel", name := "regionSize", desc := "(II)I" } : Jvm.MethodName)) ∈ gw := gwt 1357 (by decide +kernel) rfl
theorem kw_1358 : (Jvm.Cond.code ({ cls := "TrunkDuel", name := "regionSize", desc := "(II)I" } : Jvm.MethodName) prog_1_method_51_code (3 : Nat) (Option.some Jvm.ClassFile.FieldType.int)) ∈ gw := gwt 1358 (by decide +kernel) rfl
theorem kw_1367 : (Jvm.Cond.methodLink "TrunkDuelLaw" (108 : Nat) ({ cls := "TrunkDuel", name := "isDead", desc := "(II)Z" } : Jvm.MethodName)) ∈ gw := gwt 1367 (by decide +kernel) rfl
theorem kw_1368 : (Jvm.Cond.instanceMethod ({ cls := "TrunkDuel", name := "isDead", desc := "(II)Z" } : Jvm.MethodName)) ∈ gw := gwt 1368 (by decide +kernel) rfl
theorem kw_1369 : (Jvm.Cond.selects "TrunkDuel" ({ cls := "TrunkDuel", name := "isDead", desc := "(II)Z" } : Jvm.MethodName) ({ cls := "TrunkDuel", name := "isDead", desc := "(II)Z" } : Jvm.MethodName)) ∈ gw := gwt 1369 (by decide +kernel) rfl
theorem kw_1370 : (Jvm.Cond.code ({ cls := "TrunkDuel", name := "isDead", desc := "(II)Z" } : Jvm.MethodName) prog_1_method_52_code (3 : Nat) (Option.some Jvm.ClassFile.FieldType.boolean)) ∈ gw := gwt 1370 (by decide +kernel) rfl
theorem kw_25 : (Jvm.Cond.classLink "TrunkDuelLaw" (8 : Nat) "TrunkDuel") ∈ gw := gwt 25 (by decide +kernel) rfl
theorem kw_26 : (Jvm.Cond.instantiable "TrunkDuel" (12 : Nat)) ∈ gw := gwt 26 (by decide +kernel) rfl
theorem kw_27 : (Jvm.Cond.methodLink "TrunkDuelLaw" (111 : Nat) ({ cls := "TrunkDuel", name := "<init>", desc := "()V" } : Jvm.MethodName)) ∈ gw := gwt 27 (by decide +kernel) rfl
theorem kw_28 : (Jvm.Cond.instanceMethod ({ cls := "TrunkDuel", name := "<init>", desc := "()V" } : Jvm.MethodName)) ∈ gw := gwt 28 (by decide +kernel) rfl
theorem kw_29 : (Jvm.Cond.code ({ cls := "TrunkDuel", name := "<init>", desc := "()V" } : Jvm.MethodName) prog_1_method_1_code (1 : Nat) (Option.none : Option Jvm.ClassFile.FieldType)) ∈ gw := gwt 29 (by decide +kernel) rfl
theorem kw_1371 : (Jvm.Cond.classLink "TrunkDuelLaw" (112 : Nat) "TrunkDuelModel") ∈ gw := gwt 1371 (by decide +kernel) rfl
theorem kw_1372 : (Jvm.Cond.instantiable "TrunkDuelModel" (28 : Nat)) ∈ gw := gwt 1372 (by decide +kernel) rfl
theorem kw_1373 : (Jvm.Cond.methodLink "TrunkDuelLaw" (114 : Nat) ({ cls := "TrunkDuelModel", name := "<init>", desc := "()V" } : Jvm.MethodName)) ∈ gw := gwt 1373 (by decide +kernel) rfl
theorem kw_1374 : (Jvm.Cond.instanceMethod ({ cls := "TrunkDuelModel", name := "<init>", desc := "()V" } : Jvm.MethodName)) ∈ gw := gwt 1374 (by decide +kernel) rfl
theorem kw_1375 : (Jvm.Cond.code ({ cls := "TrunkDuelModel", name := "<init>", desc := "()V" } : Jvm.MethodName) prog_13_method_1_code (1 : Nat) (Option.none : Option Jvm.ClassFile.FieldType)) ∈ gw := gwt 1375 (by decide +kernel) rfl
theorem kw_2008 : (Jvm.Cond.arrayClass Jvm.ClassFile.FieldType.long) ∈ gw := gwt 2008 (by decide +kernel) rfl
theorem kw_748 : (Jvm.Cond.methodLink "TrunkDuelLaw" (115 : Nat) ({ cls := "TrunkDuel", name := "append", desc := "(IIIII)I" } : Jvm.MethodName)) ∈ gw := gwt 748 (by decide +kernel) rfl
theorem kw_749 : (Jvm.Cond.instanceMethod ({ cls := "TrunkDuel", name := "append", desc := "(IIIII)I" } : Jvm.MethodName)) ∈ gw := gwt 749 (by decide +kernel) rfl
theorem kw_750 : (Jvm.Cond.selects "TrunkDuel" ({ cls := "TrunkDuel", name := "append", desc := "(IIIII)I" } : Jvm.MethodName) ({ cls := "TrunkDuel", name := "append", desc := "(IIIII)I" } : Jvm.MethodName)) ∈ gw := gwt 750 (by decide +kernel) rfl
theorem kw_751 : (Jvm.Cond.code ({ cls := "TrunkDuel", name := "append", desc := "(IIIII)I" } : Jvm.MethodName) prog_1_method_2_code (6 : Nat) (Option.some Jvm.ClassFile.FieldType.int)) ∈ gw := gwt 751 (by decide +kernel) rfl
theorem kw_1695 : (Jvm.Cond.methodLink "TrunkDuelLaw" (118 : Nat) ({ cls := "TrunkDuelModel", name := "append", desc := "(IIIII)I" } : Jvm.MethodName)) ∈ gw := gwt 1695 (by decide +kernel) rfl
theorem kw_1696 : (Jvm.Cond.instanceMethod ({ cls := "TrunkDuelModel", name := "append", desc := "(IIIII)I" } : Jvm.MethodName)) ∈ gw := gwt 1696 (by decide +kernel) rfl
theorem kw_1697 : (Jvm.Cond.selects "TrunkDuelModel" ({ cls := "TrunkDuelModel", name := "append", desc := "(IIIII)I" } : Jvm.MethodName) ({ cls := "TrunkDuelModel", name := "append", desc := "(IIIII)I" } : Jvm.MethodName)) ∈ gw := gwt 1697 (by decide +kernel) rfl
theorem kw_1698 : (Jvm.Cond.code ({ cls := "TrunkDuelModel", name := "append", desc := "(IIIII)I" } : Jvm.MethodName) prog_13_method_38_code (6 : Nat) (Option.some Jvm.ClassFile.FieldType.int)) ∈ gw := gwt 1698 (by decide +kernel) rfl
theorem kw_989 : (Jvm.Cond.methodLink "TrunkDuelLaw" (119 : Nat) ({ cls := "TrunkDuelLaw", name := "truncateInput", desc := "(LTrunkDuel;I[J)I" } : Jvm.MethodName)) ∈ gw := gwt 989 (by decide +kernel) rfl
theorem kw_991 : (Jvm.Cond.codeWith ({ cls := "TrunkDuelLaw", name := "truncateInput", desc := "(LTrunkDuel;I[J)I" } : Jvm.MethodName) method_3_code (4 : Nat) (Option.some Jvm.ClassFile.FieldType.int) [((0 : Nat), (9 : Nat), (12 : Nat), (13 : Nat))]) ∈ gw := gwt 991 (by decide +kernel) rfl
theorem kw_990 : (Jvm.Cond.static ({ cls := "TrunkDuelLaw", name := "truncateInput", desc := "(LTrunkDuel;I[J)I" } : Jvm.MethodName)) ∈ gw := gwt 990 (by decide +kernel) rfl
theorem kw_0 : (Jvm.Cond.initialized "TrunkDuelLaw") ∈ gw := gwt 0 (by decide +kernel) rfl
theorem kw_1703 : (Jvm.Cond.methodLink "TrunkDuelLaw" (124 : Nat) ({ cls := "TrunkDuelModel", name := "truncateInput", desc := "(I)I" } : Jvm.MethodName)) ∈ gw := gwt 1703 (by decide +kernel) rfl
theorem kw_1704 : (Jvm.Cond.instanceMethod ({ cls := "TrunkDuelModel", name := "truncateInput", desc := "(I)I" } : Jvm.MethodName)) ∈ gw := gwt 1704 (by decide +kernel) rfl
theorem kw_1705 : (Jvm.Cond.selects "TrunkDuelModel" ({ cls := "TrunkDuelModel", name := "truncateInput", desc := "(I)I" } : Jvm.MethodName) ({ cls := "TrunkDuelModel", name := "truncateInput", desc := "(I)I" } : Jvm.MethodName)) ∈ gw := gwt 1705 (by decide +kernel) rfl
theorem kw_1706 : (Jvm.Cond.code ({ cls := "TrunkDuelModel", name := "truncateInput", desc := "(I)I" } : Jvm.MethodName) prog_13_method_40_code (2 : Nat) (Option.some Jvm.ClassFile.FieldType.int)) ∈ gw := gwt 1706 (by decide +kernel) rfl
theorem kw_1691 : (Jvm.Cond.methodLink "TrunkDuelLaw" (125 : Nat) ({ cls := "TrunkDuelModel", name := "thrown", desc := "()I" } : Jvm.MethodName)) ∈ gw := gwt 1691 (by decide +kernel) rfl
theorem kw_1692 : (Jvm.Cond.instanceMethod ({ cls := "TrunkDuelModel", name := "thrown", desc := "()I" } : Jvm.MethodName)) ∈ gw := gwt 1692 (by decide +kernel) rfl
theorem kw_1693 : (Jvm.Cond.selects "TrunkDuelModel" ({ cls := "TrunkDuelModel", name := "thrown", desc := "()I" } : Jvm.MethodName) ({ cls := "TrunkDuelModel", name := "thrown", desc := "()I" } : Jvm.MethodName)) ∈ gw := gwt 1693 (by decide +kernel) rfl
theorem kw_1694 : (Jvm.Cond.code ({ cls := "TrunkDuelModel", name := "thrown", desc := "()I" } : Jvm.MethodName) prog_13_method_3_code (1 : Nat) (Option.some Jvm.ClassFile.FieldType.int)) ∈ gw := gwt 1694 (by decide +kernel) rfl
theorem kw_760 : (Jvm.Cond.methodLink "TrunkDuelLaw" (128 : Nat) ({ cls := "TrunkDuel", name := "load", desc := "()I" } : Jvm.MethodName)) ∈ gw := gwt 760 (by decide +kernel) rfl
theorem kw_761 : (Jvm.Cond.instanceMethod ({ cls := "TrunkDuel", name := "load", desc := "()I" } : Jvm.MethodName)) ∈ gw := gwt 761 (by decide +kernel) rfl
theorem kw_762 : (Jvm.Cond.selects "TrunkDuel" ({ cls := "TrunkDuel", name := "load", desc := "()I" } : Jvm.MethodName) ({ cls := "TrunkDuel", name := "load", desc := "()I" } : Jvm.MethodName)) ∈ gw := gwt 762 (by decide +kernel) rfl
theorem kw_763 : (Jvm.Cond.code ({ cls := "TrunkDuel", name := "load", desc := "()I" } : Jvm.MethodName) prog_1_method_4_code (2 : Nat) (Option.some Jvm.ClassFile.FieldType.int)) ∈ gw := gwt 763 (by decide +kernel) rfl
theorem kw_1711 : (Jvm.Cond.methodLink "TrunkDuelLaw" (131 : Nat) ({ cls := "TrunkDuelModel", name := "load", desc := "()I" } : Jvm.MethodName)) ∈ gw := gwt 1711 (by decide +kernel) rfl
theorem kw_773 : (Jvm.Cond.methodLink "TrunkDuelLaw" (132 : Nat) ({ cls := "TrunkDuel", name := "play", desc := "()I" } : Jvm.MethodName)) ∈ gw := gwt 773 (by decide +kernel) rfl
theorem kw_774 : (Jvm.Cond.instanceMethod ({ cls := "TrunkDuel", name := "play", desc := "()I" } : Jvm.MethodName)) ∈ gw := gwt 774 (by decide +kernel) rfl
theorem kw_775 : (Jvm.Cond.selects "TrunkDuel" ({ cls := "TrunkDuel", name := "play", desc := "()I" } : Jvm.MethodName) ({ cls := "TrunkDuel", name := "play", desc := "()I" } : Jvm.MethodName)) ∈ gw := gwt 775 (by decide +kernel) rfl
theorem kw_776 : (Jvm.Cond.code ({ cls := "TrunkDuel", name := "play", desc := "()I" } : Jvm.MethodName) prog_1_method_5_code (2 : Nat) (Option.some Jvm.ClassFile.FieldType.int)) ∈ gw := gwt 776 (by decide +kernel) rfl
theorem kw_1712 : (Jvm.Cond.methodLink "TrunkDuelLaw" (135 : Nat) ({ cls := "TrunkDuelModel", name := "play", desc := "()I" } : Jvm.MethodName)) ∈ gw := gwt 1712 (by decide +kernel) rfl
theorem kw_1713 : (Jvm.Cond.instanceMethod ({ cls := "TrunkDuelModel", name := "play", desc := "()I" } : Jvm.MethodName)) ∈ gw := gwt 1713 (by decide +kernel) rfl
theorem kw_1714 : (Jvm.Cond.selects "TrunkDuelModel" ({ cls := "TrunkDuelModel", name := "play", desc := "()I" } : Jvm.MethodName) ({ cls := "TrunkDuelModel", name := "play", desc := "()I" } : Jvm.MethodName)) ∈ gw := gwt 1714 (by decide +kernel) rfl
theorem kw_1715 : (Jvm.Cond.code ({ cls := "TrunkDuelModel", name := "play", desc := "()I" } : Jvm.MethodName) prog_13_method_62_code (1 : Nat) (Option.some Jvm.ClassFile.FieldType.int)) ∈ gw := gwt 1715 (by decide +kernel) rfl
theorem kw_783 : (Jvm.Cond.methodLink "TrunkDuelLaw" (136 : Nat) ({ cls := "TrunkDuel", name := "errorCode", desc := "()I" } : Jvm.MethodName)) ∈ gw := gwt 783 (by decide +kernel) rfl
theorem kw_784 : (Jvm.Cond.instanceMethod ({ cls := "TrunkDuel", name := "errorCode", desc := "()I" } : Jvm.MethodName)) ∈ gw := gwt 784 (by decide +kernel) rfl
theorem kw_785 : (Jvm.Cond.selects "TrunkDuel" ({ cls := "TrunkDuel", name := "errorCode", desc := "()I" } : Jvm.MethodName) ({ cls := "TrunkDuel", name := "errorCode", desc := "()I" } : Jvm.MethodName)) ∈ gw := gwt 785 (by decide +kernel) rfl
theorem kw_786 : (Jvm.Cond.code ({ cls := "TrunkDuel", name := "errorCode", desc := "()I" } : Jvm.MethodName) prog_1_method_6_code (1 : Nat) (Option.some Jvm.ClassFile.FieldType.int)) ∈ gw := gwt 786 (by decide +kernel) rfl
theorem kw_1716 : (Jvm.Cond.methodLink "TrunkDuelLaw" (139 : Nat) ({ cls := "TrunkDuelModel", name := "errorCode", desc := "()I" } : Jvm.MethodName)) ∈ gw := gwt 1716 (by decide +kernel) rfl
theorem kw_1717 : (Jvm.Cond.instanceMethod ({ cls := "TrunkDuelModel", name := "errorCode", desc := "()I" } : Jvm.MethodName)) ∈ gw := gwt 1717 (by decide +kernel) rfl
theorem kw_1718 : (Jvm.Cond.selects "TrunkDuelModel" ({ cls := "TrunkDuelModel", name := "errorCode", desc := "()I" } : Jvm.MethodName) ({ cls := "TrunkDuelModel", name := "errorCode", desc := "()I" } : Jvm.MethodName)) ∈ gw := gwt 1718 (by decide +kernel) rfl
theorem kw_1719 : (Jvm.Cond.code ({ cls := "TrunkDuelModel", name := "errorCode", desc := "()I" } : Jvm.MethodName) prog_13_method_63_code (1 : Nat) (Option.some Jvm.ClassFile.FieldType.int)) ∈ gw := gwt 1719 (by decide +kernel) rfl
theorem kw_787 : (Jvm.Cond.methodLink "TrunkDuelLaw" (140 : Nat) ({ cls := "TrunkDuel", name := "errorOffset", desc := "()I" } : Jvm.MethodName)) ∈ gw := gwt 787 (by decide +kernel) rfl
theorem kw_788 : (Jvm.Cond.instanceMethod ({ cls := "TrunkDuel", name := "errorOffset", desc := "()I" } : Jvm.MethodName)) ∈ gw := gwt 788 (by decide +kernel) rfl
theorem kw_789 : (Jvm.Cond.selects "TrunkDuel" ({ cls := "TrunkDuel", name := "errorOffset", desc := "()I" } : Jvm.MethodName) ({ cls := "TrunkDuel", name := "errorOffset", desc := "()I" } : Jvm.MethodName)) ∈ gw := gwt 789 (by decide +kernel) rfl
theorem kw_790 : (Jvm.Cond.code ({ cls := "TrunkDuel", name := "errorOffset", desc := "()I" } : Jvm.MethodName) prog_1_method_7_code (1 : Nat) (Option.some Jvm.ClassFile.FieldType.int)) ∈ gw := gwt 790 (by decide +kernel) rfl
theorem kw_1724 : (Jvm.Cond.methodLink "TrunkDuelLaw" (143 : Nat) ({ cls := "TrunkDuelModel", name := "errorOffset", desc := "()I" } : Jvm.MethodName)) ∈ gw := gwt 1724 (by decide +kernel) rfl
theorem kw_1725 : (Jvm.Cond.instanceMethod ({ cls := "TrunkDuelModel", name := "errorOffset", desc := "()I" } : Jvm.MethodName)) ∈ gw := gwt 1725 (by decide +kernel) rfl
theorem kw_1726 : (Jvm.Cond.selects "TrunkDuelModel" ({ cls := "TrunkDuelModel", name := "errorOffset", desc := "()I" } : Jvm.MethodName) ({ cls := "TrunkDuelModel", name := "errorOffset", desc := "()I" } : Jvm.MethodName)) ∈ gw := gwt 1726 (by decide +kernel) rfl
theorem kw_1727 : (Jvm.Cond.code ({ cls := "TrunkDuelModel", name := "errorOffset", desc := "()I" } : Jvm.MethodName) prog_13_method_64_code (1 : Nat) (Option.some Jvm.ClassFile.FieldType.int)) ∈ gw := gwt 1727 (by decide +kernel) rfl
theorem kw_1064 : (Jvm.Cond.methodLink "TrunkDuelLaw" (144 : Nat) ({ cls := "TrunkDuelLaw", name := "place", desc := "(LTrunkDuel;IIII[J)I" } : Jvm.MethodName)) ∈ gw := gwt 1064 (by decide +kernel) rfl
theorem kw_1066 : (Jvm.Cond.codeWith ({ cls := "TrunkDuelLaw", name := "place", desc := "(LTrunkDuel;IIII[J)I" } : Jvm.MethodName) method_4_code (7 : Nat) (Option.some Jvm.ClassFile.FieldType.int) [((0 : Nat), (14 : Nat), (17 : Nat), (13 : Nat)), ((0 : Nat), (14 : Nat), (21 : Nat), (19 : Nat)), ((0 : Nat), (14 : Nat), (25 : Nat), (21 : Nat))]) ∈ gw := gwt 1066 (by decide +kernel) rfl
theorem kw_1065 : (Jvm.Cond.static ({ cls := "TrunkDuelLaw", name := "place", desc := "(LTrunkDuel;IIII[J)I" } : Jvm.MethodName)) ∈ gw := gwt 1065 (by decide +kernel) rfl
theorem kw_1728 : (Jvm.Cond.methodLink "TrunkDuelLaw" (147 : Nat) ({ cls := "TrunkDuelModel", name := "place", desc := "(IIII)I" } : Jvm.MethodName)) ∈ gw := gwt 1728 (by decide +kernel) rfl
theorem kw_1729 : (Jvm.Cond.instanceMethod ({ cls := "TrunkDuelModel", name := "place", desc := "(IIII)I" } : Jvm.MethodName)) ∈ gw := gwt 1729 (by decide +kernel) rfl
theorem kw_1730 : (Jvm.Cond.selects "TrunkDuelModel" ({ cls := "TrunkDuelModel", name := "place", desc := "(IIII)I" } : Jvm.MethodName) ({ cls := "TrunkDuelModel", name := "place", desc := "(IIII)I" } : Jvm.MethodName)) ∈ gw := gwt 1730 (by decide +kernel) rfl
theorem kw_1731 : (Jvm.Cond.code ({ cls := "TrunkDuelModel", name := "place", desc := "(IIII)I" } : Jvm.MethodName) prog_13_method_69_code (7 : Nat) (Option.some Jvm.ClassFile.FieldType.int)) ∈ gw := gwt 1731 (by decide +kernel) rfl
theorem kw_1121 : (Jvm.Cond.methodLink "TrunkDuelLaw" (148 : Nat) ({ cls := "TrunkDuelLaw", name := "fastenStrap", desc := "(LTrunkDuel;III[J)I" } : Jvm.MethodName)) ∈ gw := gwt 1121 (by decide +kernel) rfl
theorem kw_1123 : (Jvm.Cond.codeWith ({ cls := "TrunkDuelLaw", name := "fastenStrap", desc := "(LTrunkDuel;III[J)I" } : Jvm.MethodName) method_5_code (6 : Nat) (Option.some Jvm.ClassFile.FieldType.int) [((0 : Nat), (12 : Nat), (15 : Nat), (13 : Nat)), ((0 : Nat), (12 : Nat), (19 : Nat), (19 : Nat)), ((0 : Nat), (12 : Nat), (23 : Nat), (21 : Nat))]) ∈ gw := gwt 1123 (by decide +kernel) rfl
theorem kw_1122 : (Jvm.Cond.static ({ cls := "TrunkDuelLaw", name := "fastenStrap", desc := "(LTrunkDuel;III[J)I" } : Jvm.MethodName)) ∈ gw := gwt 1122 (by decide +kernel) rfl
theorem kw_1738 : (Jvm.Cond.methodLink "TrunkDuelLaw" (151 : Nat) ({ cls := "TrunkDuelModel", name := "fastenStrap", desc := "(III)I" } : Jvm.MethodName)) ∈ gw := gwt 1738 (by decide +kernel) rfl
theorem kw_1739 : (Jvm.Cond.instanceMethod ({ cls := "TrunkDuelModel", name := "fastenStrap", desc := "(III)I" } : Jvm.MethodName)) ∈ gw := gwt 1739 (by decide +kernel) rfl
theorem kw_1740 : (Jvm.Cond.selects "TrunkDuelModel" ({ cls := "TrunkDuelModel", name := "fastenStrap", desc := "(III)I" } : Jvm.MethodName) ({ cls := "TrunkDuelModel", name := "fastenStrap", desc := "(III)I" } : Jvm.MethodName)) ∈ gw := gwt 1740 (by decide +kernel) rfl
theorem kw_1741 : (Jvm.Cond.code ({ cls := "TrunkDuelModel", name := "fastenStrap", desc := "(III)I" } : Jvm.MethodName) prog_13_method_70_code (6 : Nat) (Option.some Jvm.ClassFile.FieldType.int)) ∈ gw := gwt 1741 (by decide +kernel) rfl
theorem kw_1138 : (Jvm.Cond.methodLink "TrunkDuelLaw" (152 : Nat) ({ cls := "TrunkDuelLaw", name := "pass", desc := "(LTrunkDuel;[J)I" } : Jvm.MethodName)) ∈ gw := gwt 1138 (by decide +kernel) rfl
theorem kw_1140 : (Jvm.Cond.codeWith ({ cls := "TrunkDuelLaw", name := "pass", desc := "(LTrunkDuel;[J)I" } : Jvm.MethodName) method_6_code (3 : Nat) (Option.some Jvm.ClassFile.FieldType.int) [((0 : Nat), (8 : Nat), (11 : Nat), (21 : Nat))]) ∈ gw := gwt 1140 (by decide +kernel) rfl
theorem kw_1139 : (Jvm.Cond.static ({ cls := "TrunkDuelLaw", name := "pass", desc := "(LTrunkDuel;[J)I" } : Jvm.MethodName)) ∈ gw := gwt 1139 (by decide +kernel) rfl
theorem kw_1745 : (Jvm.Cond.methodLink "TrunkDuelLaw" (155 : Nat) ({ cls := "TrunkDuelModel", name := "pass", desc := "()I" } : Jvm.MethodName)) ∈ gw := gwt 1745 (by decide +kernel) rfl
theorem kw_1746 : (Jvm.Cond.instanceMethod ({ cls := "TrunkDuelModel", name := "pass", desc := "()I" } : Jvm.MethodName)) ∈ gw := gwt 1746 (by decide +kernel) rfl
theorem kw_1747 : (Jvm.Cond.selects "TrunkDuelModel" ({ cls := "TrunkDuelModel", name := "pass", desc := "()I" } : Jvm.MethodName) ({ cls := "TrunkDuelModel", name := "pass", desc := "()I" } : Jvm.MethodName)) ∈ gw := gwt 1747 (by decide +kernel) rfl
theorem kw_1748 : (Jvm.Cond.code ({ cls := "TrunkDuelModel", name := "pass", desc := "()I" } : Jvm.MethodName) prog_13_method_71_code (1 : Nat) (Option.some Jvm.ClassFile.FieldType.int)) ∈ gw := gwt 1748 (by decide +kernel) rfl
theorem kw_1148 : (Jvm.Cond.methodLink "TrunkDuelLaw" (156 : Nat) ({ cls := "TrunkDuelLaw", name := "undo", desc := "(LTrunkDuel;[J)I" } : Jvm.MethodName)) ∈ gw := gwt 1148 (by decide +kernel) rfl
theorem kw_1150 : (Jvm.Cond.codeWith ({ cls := "TrunkDuelLaw", name := "undo", desc := "(LTrunkDuel;[J)I" } : Jvm.MethodName) method_7_code (3 : Nat) (Option.some Jvm.ClassFile.FieldType.int) [((0 : Nat), (8 : Nat), (11 : Nat), (21 : Nat))]) ∈ gw := gwt 1150 (by decide +kernel) rfl
theorem kw_1149 : (Jvm.Cond.static ({ cls := "TrunkDuelLaw", name := "undo", desc := "(LTrunkDuel;[J)I" } : Jvm.MethodName)) ∈ gw := gwt 1149 (by decide +kernel) rfl
theorem kw_1749 : (Jvm.Cond.methodLink "TrunkDuelLaw" (158 : Nat) ({ cls := "TrunkDuelModel", name := "undo", desc := "()I" } : Jvm.MethodName)) ∈ gw := gwt 1749 (by decide +kernel) rfl
theorem kw_1750 : (Jvm.Cond.instanceMethod ({ cls := "TrunkDuelModel", name := "undo", desc := "()I" } : Jvm.MethodName)) ∈ gw := gwt 1750 (by decide +kernel) rfl
theorem kw_1751 : (Jvm.Cond.selects "TrunkDuelModel" ({ cls := "TrunkDuelModel", name := "undo", desc := "()I" } : Jvm.MethodName) ({ cls := "TrunkDuelModel", name := "undo", desc := "()I" } : Jvm.MethodName)) ∈ gw := gwt 1751 (by decide +kernel) rfl
theorem kw_1752 : (Jvm.Cond.code ({ cls := "TrunkDuelModel", name := "undo", desc := "()I" } : Jvm.MethodName) prog_13_method_72_code (1 : Nat) (Option.some Jvm.ClassFile.FieldType.int)) ∈ gw := gwt 1752 (by decide +kernel) rfl
theorem kw_1160 : (Jvm.Cond.methodLink "TrunkDuelLaw" (159 : Nat) ({ cls := "TrunkDuelLaw", name := "save", desc := "(LTrunkDuel;I[J)I" } : Jvm.MethodName)) ∈ gw := gwt 1160 (by decide +kernel) rfl
theorem kw_1162 : (Jvm.Cond.codeWith ({ cls := "TrunkDuelLaw", name := "save", desc := "(LTrunkDuel;I[J)I" } : Jvm.MethodName) method_8_code (4 : Nat) (Option.some Jvm.ClassFile.FieldType.int) [((0 : Nat), (9 : Nat), (12 : Nat), (13 : Nat))]) ∈ gw := gwt 1162 (by decide +kernel) rfl
theorem kw_1161 : (Jvm.Cond.static ({ cls := "TrunkDuelLaw", name := "save", desc := "(LTrunkDuel;I[J)I" } : Jvm.MethodName)) ∈ gw := gwt 1161 (by decide +kernel) rfl
theorem kw_1753 : (Jvm.Cond.methodLink "TrunkDuelLaw" (161 : Nat) ({ cls := "TrunkDuelModel", name := "save", desc := "(I)I" } : Jvm.MethodName)) ∈ gw := gwt 1753 (by decide +kernel) rfl
theorem kw_1754 : (Jvm.Cond.instanceMethod ({ cls := "TrunkDuelModel", name := "save", desc := "(I)I" } : Jvm.MethodName)) ∈ gw := gwt 1754 (by decide +kernel) rfl
theorem kw_1755 : (Jvm.Cond.selects "TrunkDuelModel" ({ cls := "TrunkDuelModel", name := "save", desc := "(I)I" } : Jvm.MethodName) ({ cls := "TrunkDuelModel", name := "save", desc := "(I)I" } : Jvm.MethodName)) ∈ gw := gwt 1755 (by decide +kernel) rfl
theorem kw_1756 : (Jvm.Cond.code ({ cls := "TrunkDuelModel", name := "save", desc := "(I)I" } : Jvm.MethodName) prog_13_method_73_code (2 : Nat) (Option.some Jvm.ClassFile.FieldType.int)) ∈ gw := gwt 1756 (by decide +kernel) rfl
theorem kw_1171 : (Jvm.Cond.methodLink "TrunkDuelLaw" (162 : Nat) ({ cls := "TrunkDuelLaw", name := "restore", desc := "(LTrunkDuel;I[J)I" } : Jvm.MethodName)) ∈ gw := gwt 1171 (by decide +kernel) rfl
theorem kw_1173 : (Jvm.Cond.codeWith ({ cls := "TrunkDuelLaw", name := "restore", desc := "(LTrunkDuel;I[J)I" } : Jvm.MethodName) method_9_code (4 : Nat) (Option.some Jvm.ClassFile.FieldType.int) [((0 : Nat), (9 : Nat), (12 : Nat), (13 : Nat)), ((0 : Nat), (9 : Nat), (15 : Nat), (21 : Nat))]) ∈ gw := gwt 1173 (by decide +kernel) rfl
theorem kw_1172 : (Jvm.Cond.static ({ cls := "TrunkDuelLaw", name := "restore", desc := "(LTrunkDuel;I[J)I" } : Jvm.MethodName)) ∈ gw := gwt 1172 (by decide +kernel) rfl
theorem kw_1757 : (Jvm.Cond.methodLink "TrunkDuelLaw" (164 : Nat) ({ cls := "TrunkDuelModel", name := "restore", desc := "(I)I" } : Jvm.MethodName)) ∈ gw := gwt 1757 (by decide +kernel) rfl
theorem kw_1758 : (Jvm.Cond.instanceMethod ({ cls := "TrunkDuelModel", name := "restore", desc := "(I)I" } : Jvm.MethodName)) ∈ gw := gwt 1758 (by decide +kernel) rfl
theorem kw_1759 : (Jvm.Cond.selects "TrunkDuelModel" ({ cls := "TrunkDuelModel", name := "restore", desc := "(I)I" } : Jvm.MethodName) ({ cls := "TrunkDuelModel", name := "restore", desc := "(I)I" } : Jvm.MethodName)) ∈ gw := gwt 1759 (by decide +kernel) rfl
theorem kw_1760 : (Jvm.Cond.code ({ cls := "TrunkDuelModel", name := "restore", desc := "(I)I" } : Jvm.MethodName) prog_13_method_74_code (3 : Nat) (Option.some Jvm.ClassFile.FieldType.int)) ∈ gw := gwt 1760 (by decide +kernel) rfl
theorem kw_791 : (Jvm.Cond.methodLink "TrunkDuelLaw" (165 : Nat) ({ cls := "TrunkDuel", name := "columns", desc := "()I" } : Jvm.MethodName)) ∈ gw := gwt 791 (by decide +kernel) rfl
theorem kw_792 : (Jvm.Cond.instanceMethod ({ cls := "TrunkDuel", name := "columns", desc := "()I" } : Jvm.MethodName)) ∈ gw := gwt 792 (by decide +kernel) rfl
theorem kw_793 : (Jvm.Cond.selects "TrunkDuel" ({ cls := "TrunkDuel", name := "columns", desc := "()I" } : Jvm.MethodName) ({ cls := "TrunkDuel", name := "columns", desc := "()I" } : Jvm.MethodName)) ∈ gw := gwt 793 (by decide +kernel) rfl
theorem kw_794 : (Jvm.Cond.code ({ cls := "TrunkDuel", name := "columns", desc := "()I" } : Jvm.MethodName) prog_1_method_14_code (1 : Nat) (Option.some Jvm.ClassFile.FieldType.int)) ∈ gw := gwt 794 (by decide +kernel) rfl
theorem kw_1761 : (Jvm.Cond.methodLink "TrunkDuelLaw" (168 : Nat) ({ cls := "TrunkDuelModel", name := "columns", desc := "()I" } : Jvm.MethodName)) ∈ gw := gwt 1761 (by decide +kernel) rfl
theorem kw_1762 : (Jvm.Cond.instanceMethod ({ cls := "TrunkDuelModel", name := "columns", desc := "()I" } : Jvm.MethodName)) ∈ gw := gwt 1762 (by decide +kernel) rfl
theorem kw_1763 : (Jvm.Cond.selects "TrunkDuelModel" ({ cls := "TrunkDuelModel", name := "columns", desc := "()I" } : Jvm.MethodName) ({ cls := "TrunkDuelModel", name := "columns", desc := "()I" } : Jvm.MethodName)) ∈ gw := gwt 1763 (by decide +kernel) rfl
theorem kw_1764 : (Jvm.Cond.code ({ cls := "TrunkDuelModel", name := "columns", desc := "()I" } : Jvm.MethodName) prog_13_method_77_code (1 : Nat) (Option.some Jvm.ClassFile.FieldType.int)) ∈ gw := gwt 1764 (by decide +kernel) rfl
theorem kw_795 : (Jvm.Cond.methodLink "TrunkDuelLaw" (169 : Nat) ({ cls := "TrunkDuel", name := "rows", desc := "()I" } : Jvm.MethodName)) ∈ gw := gwt 795 (by decide +kernel) rfl
theorem kw_796 : (Jvm.Cond.instanceMethod ({ cls := "TrunkDuel", name := "rows", desc := "()I" } : Jvm.MethodName)) ∈ gw := gwt 796 (by decide +kernel) rfl
theorem kw_797 : (Jvm.Cond.selects "TrunkDuel" ({ cls := "TrunkDuel", name := "rows", desc := "()I" } : Jvm.MethodName) ({ cls := "TrunkDuel", name := "rows", desc := "()I" } : Jvm.MethodName)) ∈ gw := gwt 797 (by decide +kernel) rfl
theorem kw_798 : (Jvm.Cond.code ({ cls := "TrunkDuel", name := "rows", desc := "()I" } : Jvm.MethodName) prog_1_method_15_code (1 : Nat) (Option.some Jvm.ClassFile.FieldType.int)) ∈ gw := gwt 798 (by decide +kernel) rfl
theorem kw_1765 : (Jvm.Cond.methodLink "TrunkDuelLaw" (172 : Nat) ({ cls := "TrunkDuelModel", name := "rows", desc := "()I" } : Jvm.MethodName)) ∈ gw := gwt 1765 (by decide +kernel) rfl
theorem kw_1766 : (Jvm.Cond.instanceMethod ({ cls := "TrunkDuelModel", name := "rows", desc := "()I" } : Jvm.MethodName)) ∈ gw := gwt 1766 (by decide +kernel) rfl
theorem kw_1767 : (Jvm.Cond.selects "TrunkDuelModel" ({ cls := "TrunkDuelModel", name := "rows", desc := "()I" } : Jvm.MethodName) ({ cls := "TrunkDuelModel", name := "rows", desc := "()I" } : Jvm.MethodName)) ∈ gw := gwt 1767 (by decide +kernel) rfl
theorem kw_1768 : (Jvm.Cond.code ({ cls := "TrunkDuelModel", name := "rows", desc := "()I" } : Jvm.MethodName) prog_13_method_78_code (1 : Nat) (Option.some Jvm.ClassFile.FieldType.int)) ∈ gw := gwt 1768 (by decide +kernel) rfl
theorem kw_799 : (Jvm.Cond.methodLink "TrunkDuelLaw" (173 : Nat) ({ cls := "TrunkDuel", name := "emptyCells", desc := "()I" } : Jvm.MethodName)) ∈ gw := gwt 799 (by decide +kernel) rfl
theorem kw_800 : (Jvm.Cond.instanceMethod ({ cls := "TrunkDuel", name := "emptyCells", desc := "()I" } : Jvm.MethodName)) ∈ gw := gwt 800 (by decide +kernel) rfl
theorem kw_801 : (Jvm.Cond.selects "TrunkDuel" ({ cls := "TrunkDuel", name := "emptyCells", desc := "()I" } : Jvm.MethodName) ({ cls := "TrunkDuel", name := "emptyCells", desc := "()I" } : Jvm.MethodName)) ∈ gw := gwt 801 (by decide +kernel) rfl
theorem kw_802 : (Jvm.Cond.code ({ cls := "TrunkDuel", name := "emptyCells", desc := "()I" } : Jvm.MethodName) prog_1_method_16_code (1 : Nat) (Option.some Jvm.ClassFile.FieldType.int)) ∈ gw := gwt 802 (by decide +kernel) rfl
theorem kw_1769 : (Jvm.Cond.methodLink "TrunkDuelLaw" (176 : Nat) ({ cls := "TrunkDuelModel", name := "emptyCells", desc := "()I" } : Jvm.MethodName)) ∈ gw := gwt 1769 (by decide +kernel) rfl
theorem kw_1770 : (Jvm.Cond.instanceMethod ({ cls := "TrunkDuelModel", name := "emptyCells", desc := "()I" } : Jvm.MethodName)) ∈ gw := gwt 1770 (by decide +kernel) rfl
theorem kw_1771 : (Jvm.Cond.selects "TrunkDuelModel" ({ cls := "TrunkDuelModel", name := "emptyCells", desc := "()I" } : Jvm.MethodName) ({ cls := "TrunkDuelModel", name := "emptyCells", desc := "()I" } : Jvm.MethodName)) ∈ gw := gwt 1771 (by decide +kernel) rfl
theorem kw_1772 : (Jvm.Cond.code ({ cls := "TrunkDuelModel", name := "emptyCells", desc := "()I" } : Jvm.MethodName) prog_13_method_79_code (1 : Nat) (Option.some Jvm.ClassFile.FieldType.int)) ∈ gw := gwt 1772 (by decide +kernel) rfl
theorem kw_803 : (Jvm.Cond.methodLink "TrunkDuelLaw" (177 : Nat) ({ cls := "TrunkDuel", name := "pieceCount", desc := "()I" } : Jvm.MethodName)) ∈ gw := gwt 803 (by decide +kernel) rfl
theorem kw_804 : (Jvm.Cond.instanceMethod ({ cls := "TrunkDuel", name := "pieceCount", desc := "()I" } : Jvm.MethodName)) ∈ gw := gwt 804 (by decide +kernel) rfl
theorem kw_805 : (Jvm.Cond.selects "TrunkDuel" ({ cls := "TrunkDuel", name := "pieceCount", desc := "()I" } : Jvm.MethodName) ({ cls := "TrunkDuel", name := "pieceCount", desc := "()I" } : Jvm.MethodName)) ∈ gw := gwt 805 (by decide +kernel) rfl
theorem kw_806 : (Jvm.Cond.code ({ cls := "TrunkDuel", name := "pieceCount", desc := "()I" } : Jvm.MethodName) prog_1_method_17_code (1 : Nat) (Option.some Jvm.ClassFile.FieldType.int)) ∈ gw := gwt 806 (by decide +kernel) rfl
theorem kw_1773 : (Jvm.Cond.methodLink "TrunkDuelLaw" (180 : Nat) ({ cls := "TrunkDuelModel", name := "pieceCount", desc := "()I" } : Jvm.MethodName)) ∈ gw := gwt 1773 (by decide +kernel) rfl
theorem kw_1774 : (Jvm.Cond.instanceMethod ({ cls := "TrunkDuelModel", name := "pieceCount", desc := "()I" } : Jvm.MethodName)) ∈ gw := gwt 1774 (by decide +kernel) rfl
theorem kw_1775 : (Jvm.Cond.selects "TrunkDuelModel" ({ cls := "TrunkDuelModel", name := "pieceCount", desc := "()I" } : Jvm.MethodName) ({ cls := "TrunkDuelModel", name := "pieceCount", desc := "()I" } : Jvm.MethodName)) ∈ gw := gwt 1775 (by decide +kernel) rfl
theorem kw_1776 : (Jvm.Cond.code ({ cls := "TrunkDuelModel", name := "pieceCount", desc := "()I" } : Jvm.MethodName) prog_13_method_80_code (1 : Nat) (Option.some Jvm.ClassFile.FieldType.int)) ∈ gw := gwt 1776 (by decide +kernel) rfl
theorem kw_807 : (Jvm.Cond.methodLink "TrunkDuelLaw" (181 : Nat) ({ cls := "TrunkDuel", name := "strapCount", desc := "()I" } : Jvm.MethodName)) ∈ gw := gwt 807 (by decide +kernel) rfl
theorem kw_808 : (Jvm.Cond.instanceMethod ({ cls := "TrunkDuel", name := "strapCount", desc := "()I" } : Jvm.MethodName)) ∈ gw := gwt 808 (by decide +kernel) rfl
theorem kw_809 : (Jvm.Cond.selects "TrunkDuel" ({ cls := "TrunkDuel", name := "strapCount", desc := "()I" } : Jvm.MethodName) ({ cls := "TrunkDuel", name := "strapCount", desc := "()I" } : Jvm.MethodName)) ∈ gw := gwt 809 (by decide +kernel) rfl
theorem kw_810 : (Jvm.Cond.code ({ cls := "TrunkDuel", name := "strapCount", desc := "()I" } : Jvm.MethodName) prog_1_method_18_code (1 : Nat) (Option.some Jvm.ClassFile.FieldType.int)) ∈ gw := gwt 810 (by decide +kernel) rfl
theorem kw_1777 : (Jvm.Cond.methodLink "TrunkDuelLaw" (184 : Nat) ({ cls := "TrunkDuelModel", name := "strapCount", desc := "()I" } : Jvm.MethodName)) ∈ gw := gwt 1777 (by decide +kernel) rfl
theorem kw_1778 : (Jvm.Cond.instanceMethod ({ cls := "TrunkDuelModel", name := "strapCount", desc := "()I" } : Jvm.MethodName)) ∈ gw := gwt 1778 (by decide +kernel) rfl
theorem kw_1779 : (Jvm.Cond.selects "TrunkDuelModel" ({ cls := "TrunkDuelModel", name := "strapCount", desc := "()I" } : Jvm.MethodName) ({ cls := "TrunkDuelModel", name := "strapCount", desc := "()I" } : Jvm.MethodName)) ∈ gw := gwt 1779 (by decide +kernel) rfl
theorem kw_1780 : (Jvm.Cond.code ({ cls := "TrunkDuelModel", name := "strapCount", desc := "()I" } : Jvm.MethodName) prog_13_method_81_code (3 : Nat) (Option.some Jvm.ClassFile.FieldType.int)) ∈ gw := gwt 1780 (by decide +kernel) rfl
theorem kw_815 : (Jvm.Cond.methodLink "TrunkDuelLaw" (185 : Nat) ({ cls := "TrunkDuel", name := "completeRows", desc := "()I" } : Jvm.MethodName)) ∈ gw := gwt 815 (by decide +kernel) rfl
theorem kw_816 : (Jvm.Cond.instanceMethod ({ cls := "TrunkDuel", name := "completeRows", desc := "()I" } : Jvm.MethodName)) ∈ gw := gwt 816 (by decide +kernel) rfl
theorem kw_817 : (Jvm.Cond.selects "TrunkDuel" ({ cls := "TrunkDuel", name := "completeRows", desc := "()I" } : Jvm.MethodName) ({ cls := "TrunkDuel", name := "completeRows", desc := "()I" } : Jvm.MethodName)) ∈ gw := gwt 817 (by decide +kernel) rfl
theorem kw_818 : (Jvm.Cond.code ({ cls := "TrunkDuel", name := "completeRows", desc := "()I" } : Jvm.MethodName) prog_1_method_19_code (3 : Nat) (Option.some Jvm.ClassFile.FieldType.int)) ∈ gw := gwt 818 (by decide +kernel) rfl
theorem kw_1781 : (Jvm.Cond.methodLink "TrunkDuelLaw" (188 : Nat) ({ cls := "TrunkDuelModel", name := "completeRows", desc := "()I" } : Jvm.MethodName)) ∈ gw := gwt 1781 (by decide +kernel) rfl
theorem kw_1782 : (Jvm.Cond.instanceMethod ({ cls := "TrunkDuelModel", name := "completeRows", desc := "()I" } : Jvm.MethodName)) ∈ gw := gwt 1782 (by decide +kernel) rfl
theorem kw_1783 : (Jvm.Cond.selects "TrunkDuelModel" ({ cls := "TrunkDuelModel", name := "completeRows", desc := "()I" } : Jvm.MethodName) ({ cls := "TrunkDuelModel", name := "completeRows", desc := "()I" } : Jvm.MethodName)) ∈ gw := gwt 1783 (by decide +kernel) rfl
theorem kw_1784 : (Jvm.Cond.code ({ cls := "TrunkDuelModel", name := "completeRows", desc := "()I" } : Jvm.MethodName) prog_13_method_82_code (3 : Nat) (Option.some Jvm.ClassFile.FieldType.int)) ∈ gw := gwt 1784 (by decide +kernel) rfl
theorem kw_820 : (Jvm.Cond.methodLink "TrunkDuelLaw" (189 : Nat) ({ cls := "TrunkDuel", name := "undoableChanges", desc := "()I" } : Jvm.MethodName)) ∈ gw := gwt 820 (by decide +kernel) rfl
theorem kw_821 : (Jvm.Cond.instanceMethod ({ cls := "TrunkDuel", name := "undoableChanges", desc := "()I" } : Jvm.MethodName)) ∈ gw := gwt 821 (by decide +kernel) rfl
theorem kw_822 : (Jvm.Cond.selects "TrunkDuel" ({ cls := "TrunkDuel", name := "undoableChanges", desc := "()I" } : Jvm.MethodName) ({ cls := "TrunkDuel", name := "undoableChanges", desc := "()I" } : Jvm.MethodName)) ∈ gw := gwt 822 (by decide +kernel) rfl
theorem kw_823 : (Jvm.Cond.code ({ cls := "TrunkDuel", name := "undoableChanges", desc := "()I" } : Jvm.MethodName) prog_1_method_20_code (1 : Nat) (Option.some Jvm.ClassFile.FieldType.int)) ∈ gw := gwt 823 (by decide +kernel) rfl
theorem kw_1785 : (Jvm.Cond.methodLink "TrunkDuelLaw" (192 : Nat) ({ cls := "TrunkDuelModel", name := "undoableChanges", desc := "()I" } : Jvm.MethodName)) ∈ gw := gwt 1785 (by decide +kernel) rfl
theorem kw_1786 : (Jvm.Cond.instanceMethod ({ cls := "TrunkDuelModel", name := "undoableChanges", desc := "()I" } : Jvm.MethodName)) ∈ gw := gwt 1786 (by decide +kernel) rfl
theorem kw_1787 : (Jvm.Cond.selects "TrunkDuelModel" ({ cls := "TrunkDuelModel", name := "undoableChanges", desc := "()I" } : Jvm.MethodName) ({ cls := "TrunkDuelModel", name := "undoableChanges", desc := "()I" } : Jvm.MethodName)) ∈ gw := gwt 1787 (by decide +kernel) rfl
theorem kw_1788 : (Jvm.Cond.code ({ cls := "TrunkDuelModel", name := "undoableChanges", desc := "()I" } : Jvm.MethodName) prog_13_method_83_code (1 : Nat) (Option.some Jvm.ClassFile.FieldType.int)) ∈ gw := gwt 1788 (by decide +kernel) rfl
theorem kw_1179 : (Jvm.Cond.methodLink "TrunkDuelLaw" (193 : Nat) ({ cls := "TrunkDuelLaw", name := "isBlocked", desc := "(LTrunkDuel;II[J)I" } : Jvm.MethodName)) ∈ gw := gwt 1179 (by decide +kernel) rfl
theorem kw_1181 : (Jvm.Cond.codeWith ({ cls := "TrunkDuelLaw", name := "isBlocked", desc := "(LTrunkDuel;II[J)I" } : Jvm.MethodName) method_10_code (5 : Nat) (Option.some Jvm.ClassFile.FieldType.int) [((0 : Nat), (17 : Nat), (20 : Nat), (19 : Nat))]) ∈ gw := gwt 1181 (by decide +kernel) rfl
theorem kw_1180 : (Jvm.Cond.static ({ cls := "TrunkDuelLaw", name := "isBlocked", desc := "(LTrunkDuel;II[J)I" } : Jvm.MethodName)) ∈ gw := gwt 1180 (by decide +kernel) rfl
theorem kw_1789 : (Jvm.Cond.methodLink "TrunkDuelLaw" (196 : Nat) ({ cls := "TrunkDuelModel", name := "isBlocked", desc := "(II)Z" } : Jvm.MethodName)) ∈ gw := gwt 1789 (by decide +kernel) rfl
theorem kw_1790 : (Jvm.Cond.instanceMethod ({ cls := "TrunkDuelModel", name := "isBlocked", desc := "(II)Z" } : Jvm.MethodName)) ∈ gw := gwt 1790 (by decide +kernel) rfl
theorem kw_1791 : (Jvm.Cond.selects "TrunkDuelModel" ({ cls := "TrunkDuelModel", name := "isBlocked", desc := "(II)Z" } : Jvm.MethodName) ({ cls := "TrunkDuelModel", name := "isBlocked", desc := "(II)Z" } : Jvm.MethodName)) ∈ gw := gwt 1791 (by decide +kernel) rfl
theorem kw_1792 : (Jvm.Cond.code ({ cls := "TrunkDuelModel", name := "isBlocked", desc := "(II)Z" } : Jvm.MethodName) prog_13_method_84_code (3 : Nat) (Option.some Jvm.ClassFile.FieldType.boolean)) ∈ gw := gwt 1792 (by decide +kernel) rfl
theorem kw_1186 : (Jvm.Cond.methodLink "TrunkDuelLaw" (197 : Nat) ({ cls := "TrunkDuelLaw", name := "pieceAt", desc := "(LTrunkDuel;II[J)I" } : Jvm.MethodName)) ∈ gw := gwt 1186 (by decide +kernel) rfl
theorem kw_1188 : (Jvm.Cond.codeWith ({ cls := "TrunkDuelLaw", name := "pieceAt", desc := "(LTrunkDuel;II[J)I" } : Jvm.MethodName) method_11_code (5 : Nat) (Option.some Jvm.ClassFile.FieldType.int) [((0 : Nat), (10 : Nat), (13 : Nat), (19 : Nat))]) ∈ gw := gwt 1188 (by decide +kernel) rfl
theorem kw_1187 : (Jvm.Cond.static ({ cls := "TrunkDuelLaw", name := "pieceAt", desc := "(LTrunkDuel;II[J)I" } : Jvm.MethodName)) ∈ gw := gwt 1187 (by decide +kernel) rfl
theorem kw_1793 : (Jvm.Cond.methodLink "TrunkDuelLaw" (199 : Nat) ({ cls := "TrunkDuelModel", name := "pieceAt", desc := "(II)I" } : Jvm.MethodName)) ∈ gw := gwt 1793 (by decide +kernel) rfl
theorem kw_1794 : (Jvm.Cond.instanceMethod ({ cls := "TrunkDuelModel", name := "pieceAt", desc := "(II)I" } : Jvm.MethodName)) ∈ gw := gwt 1794 (by decide +kernel) rfl
theorem kw_1795 : (Jvm.Cond.selects "TrunkDuelModel" ({ cls := "TrunkDuelModel", name := "pieceAt", desc := "(II)I" } : Jvm.MethodName) ({ cls := "TrunkDuelModel", name := "pieceAt", desc := "(II)I" } : Jvm.MethodName)) ∈ gw := gwt 1795 (by decide +kernel) rfl
theorem kw_1796 : (Jvm.Cond.code ({ cls := "TrunkDuelModel", name := "pieceAt", desc := "(II)I" } : Jvm.MethodName) prog_13_method_85_code (3 : Nat) (Option.some Jvm.ClassFile.FieldType.int)) ∈ gw := gwt 1796 (by decide +kernel) rfl
theorem kw_1193 : (Jvm.Cond.methodLink "TrunkDuelLaw" (200 : Nat) ({ cls := "TrunkDuelLaw", name := "hasStrap", desc := "(LTrunkDuel;III[J)I" } : Jvm.MethodName)) ∈ gw := gwt 1193 (by decide +kernel) rfl
theorem kw_1195 : (Jvm.Cond.codeWith ({ cls := "TrunkDuelLaw", name := "hasStrap", desc := "(LTrunkDuel;III[J)I" } : Jvm.MethodName) method_12_code (6 : Nat) (Option.some Jvm.ClassFile.FieldType.int) [((0 : Nat), (19 : Nat), (22 : Nat), (13 : Nat)), ((0 : Nat), (19 : Nat), (26 : Nat), (19 : Nat))]) ∈ gw := gwt 1195 (by decide +kernel) rfl
theorem kw_1194 : (Jvm.Cond.static ({ cls := "TrunkDuelLaw", name := "hasStrap", desc := "(LTrunkDuel;III[J)I" } : Jvm.MethodName)) ∈ gw := gwt 1194 (by decide +kernel) rfl
theorem kw_1797 : (Jvm.Cond.methodLink "TrunkDuelLaw" (202 : Nat) ({ cls := "TrunkDuelModel", name := "hasStrap", desc := "(III)Z" } : Jvm.MethodName)) ∈ gw := gwt 1797 (by decide +kernel) rfl
theorem kw_1798 : (Jvm.Cond.instanceMethod ({ cls := "TrunkDuelModel", name := "hasStrap", desc := "(III)Z" } : Jvm.MethodName)) ∈ gw := gwt 1798 (by decide +kernel) rfl
theorem kw_1799 : (Jvm.Cond.selects "TrunkDuelModel" ({ cls := "TrunkDuelModel", name := "hasStrap", desc := "(III)Z" } : Jvm.MethodName) ({ cls := "TrunkDuelModel", name := "hasStrap", desc := "(III)Z" } : Jvm.MethodName)) ∈ gw := gwt 1799 (by decide +kernel) rfl
theorem kw_1800 : (Jvm.Cond.code ({ cls := "TrunkDuelModel", name := "hasStrap", desc := "(III)Z" } : Jvm.MethodName) prog_13_method_86_code (4 : Nat) (Option.some Jvm.ClassFile.FieldType.boolean)) ∈ gw := gwt 1800 (by decide +kernel) rfl
theorem kw_1201 : (Jvm.Cond.methodLink "TrunkDuelLaw" (203 : Nat) ({ cls := "TrunkDuelLaw", name := "emptyInRow", desc := "(LTrunkDuel;I[J)I" } : Jvm.MethodName)) ∈ gw := gwt 1201 (by decide +kernel) rfl
theorem kw_1203 : (Jvm.Cond.codeWith ({ cls := "TrunkDuelLaw", name := "emptyInRow", desc := "(LTrunkDuel;I[J)I" } : Jvm.MethodName) method_13_code (4 : Nat) (Option.some Jvm.ClassFile.FieldType.int) [((0 : Nat), (9 : Nat), (12 : Nat), (19 : Nat))]) ∈ gw := gwt 1203 (by decide +kernel) rfl
theorem kw_1202 : (Jvm.Cond.static ({ cls := "TrunkDuelLaw", name := "emptyInRow", desc := "(LTrunkDuel;I[J)I" } : Jvm.MethodName)) ∈ gw := gwt 1202 (by decide +kernel) rfl
theorem kw_1801 : (Jvm.Cond.methodLink "TrunkDuelLaw" (205 : Nat) ({ cls := "TrunkDuelModel", name := "emptyInRow", desc := "(I)I" } : Jvm.MethodName)) ∈ gw := gwt 1801 (by decide +kernel) rfl
theorem kw_1802 : (Jvm.Cond.instanceMethod ({ cls := "TrunkDuelModel", name := "emptyInRow", desc := "(I)I" } : Jvm.MethodName)) ∈ gw := gwt 1802 (by decide +kernel) rfl
theorem kw_1803 : (Jvm.Cond.selects "TrunkDuelModel" ({ cls := "TrunkDuelModel", name := "emptyInRow", desc := "(I)I" } : Jvm.MethodName) ({ cls := "TrunkDuelModel", name := "emptyInRow", desc := "(I)I" } : Jvm.MethodName)) ∈ gw := gwt 1803 (by decide +kernel) rfl
theorem kw_1804 : (Jvm.Cond.code ({ cls := "TrunkDuelModel", name := "emptyInRow", desc := "(I)I" } : Jvm.MethodName) prog_13_method_87_code (2 : Nat) (Option.some Jvm.ClassFile.FieldType.int)) ∈ gw := gwt 1804 (by decide +kernel) rfl
theorem kw_1209 : (Jvm.Cond.methodLink "TrunkDuelLaw" (206 : Nat) ({ cls := "TrunkDuelLaw", name := "pieceShape", desc := "(LTrunkDuel;I[J)I" } : Jvm.MethodName)) ∈ gw := gwt 1209 (by decide +kernel) rfl
theorem kw_1211 : (Jvm.Cond.codeWith ({ cls := "TrunkDuelLaw", name := "pieceShape", desc := "(LTrunkDuel;I[J)I" } : Jvm.MethodName) method_14_code (4 : Nat) (Option.some Jvm.ClassFile.FieldType.int) [((0 : Nat), (9 : Nat), (12 : Nat), (19 : Nat))]) ∈ gw := gwt 1211 (by decide +kernel) rfl
theorem kw_1210 : (Jvm.Cond.static ({ cls := "TrunkDuelLaw", name := "pieceShape", desc := "(LTrunkDuel;I[J)I" } : Jvm.MethodName)) ∈ gw := gwt 1210 (by decide +kernel) rfl
theorem kw_1805 : (Jvm.Cond.methodLink "TrunkDuelLaw" (208 : Nat) ({ cls := "TrunkDuelModel", name := "pieceShape", desc := "(I)I" } : Jvm.MethodName)) ∈ gw := gwt 1805 (by decide +kernel) rfl
theorem kw_1806 : (Jvm.Cond.instanceMethod ({ cls := "TrunkDuelModel", name := "pieceShape", desc := "(I)I" } : Jvm.MethodName)) ∈ gw := gwt 1806 (by decide +kernel) rfl
theorem kw_1807 : (Jvm.Cond.selects "TrunkDuelModel" ({ cls := "TrunkDuelModel", name := "pieceShape", desc := "(I)I" } : Jvm.MethodName) ({ cls := "TrunkDuelModel", name := "pieceShape", desc := "(I)I" } : Jvm.MethodName)) ∈ gw := gwt 1807 (by decide +kernel) rfl
theorem kw_1808 : (Jvm.Cond.code ({ cls := "TrunkDuelModel", name := "pieceShape", desc := "(I)I" } : Jvm.MethodName) prog_13_method_89_code (2 : Nat) (Option.some Jvm.ClassFile.FieldType.int)) ∈ gw := gwt 1808 (by decide +kernel) rfl
theorem kw_1221 : (Jvm.Cond.methodLink "TrunkDuelLaw" (209 : Nat) ({ cls := "TrunkDuelLaw", name := "pieceRotation", desc := "(LTrunkDuel;I[J)I" } : Jvm.MethodName)) ∈ gw := gwt 1221 (by decide +kernel) rfl
theorem kw_1223 : (Jvm.Cond.codeWith ({ cls := "TrunkDuelLaw", name := "pieceRotation", desc := "(LTrunkDuel;I[J)I" } : Jvm.MethodName) method_15_code (4 : Nat) (Option.some Jvm.ClassFile.FieldType.int) [((0 : Nat), (9 : Nat), (12 : Nat), (19 : Nat))]) ∈ gw := gwt 1223 (by decide +kernel) rfl
theorem kw_1222 : (Jvm.Cond.static ({ cls := "TrunkDuelLaw", name := "pieceRotation", desc := "(LTrunkDuel;I[J)I" } : Jvm.MethodName)) ∈ gw := gwt 1222 (by decide +kernel) rfl
theorem kw_1813 : (Jvm.Cond.methodLink "TrunkDuelLaw" (211 : Nat) ({ cls := "TrunkDuelModel", name := "pieceRotation", desc := "(I)I" } : Jvm.MethodName)) ∈ gw := gwt 1813 (by decide +kernel) rfl
theorem kw_1814 : (Jvm.Cond.instanceMethod ({ cls := "TrunkDuelModel", name := "pieceRotation", desc := "(I)I" } : Jvm.MethodName)) ∈ gw := gwt 1814 (by decide +kernel) rfl
theorem kw_1815 : (Jvm.Cond.selects "TrunkDuelModel" ({ cls := "TrunkDuelModel", name := "pieceRotation", desc := "(I)I" } : Jvm.MethodName) ({ cls := "TrunkDuelModel", name := "pieceRotation", desc := "(I)I" } : Jvm.MethodName)) ∈ gw := gwt 1815 (by decide +kernel) rfl
theorem kw_1816 : (Jvm.Cond.code ({ cls := "TrunkDuelModel", name := "pieceRotation", desc := "(I)I" } : Jvm.MethodName) prog_13_method_90_code (2 : Nat) (Option.some Jvm.ClassFile.FieldType.int)) ∈ gw := gwt 1816 (by decide +kernel) rfl
theorem kw_1228 : (Jvm.Cond.methodLink "TrunkDuelLaw" (212 : Nat) ({ cls := "TrunkDuelLaw", name := "pieceColumn", desc := "(LTrunkDuel;I[J)I" } : Jvm.MethodName)) ∈ gw := gwt 1228 (by decide +kernel) rfl
theorem kw_1230 : (Jvm.Cond.codeWith ({ cls := "TrunkDuelLaw", name := "pieceColumn", desc := "(LTrunkDuel;I[J)I" } : Jvm.MethodName) method_16_code (4 : Nat) (Option.some Jvm.ClassFile.FieldType.int) [((0 : Nat), (9 : Nat), (12 : Nat), (19 : Nat))]) ∈ gw := gwt 1230 (by decide +kernel) rfl
theorem kw_1229 : (Jvm.Cond.static ({ cls := "TrunkDuelLaw", name := "pieceColumn", desc := "(LTrunkDuel;I[J)I" } : Jvm.MethodName)) ∈ gw := gwt 1229 (by decide +kernel) rfl
theorem kw_1817 : (Jvm.Cond.methodLink "TrunkDuelLaw" (214 : Nat) ({ cls := "TrunkDuelModel", name := "pieceColumn", desc := "(I)I" } : Jvm.MethodName)) ∈ gw := gwt 1817 (by decide +kernel) rfl
theorem kw_1818 : (Jvm.Cond.instanceMethod ({ cls := "TrunkDuelModel", name := "pieceColumn", desc := "(I)I" } : Jvm.MethodName)) ∈ gw := gwt 1818 (by decide +kernel) rfl
theorem kw_1819 : (Jvm.Cond.selects "TrunkDuelModel" ({ cls := "TrunkDuelModel", name := "pieceColumn", desc := "(I)I" } : Jvm.MethodName) ({ cls := "TrunkDuelModel", name := "pieceColumn", desc := "(I)I" } : Jvm.MethodName)) ∈ gw := gwt 1819 (by decide +kernel) rfl
theorem kw_1820 : (Jvm.Cond.code ({ cls := "TrunkDuelModel", name := "pieceColumn", desc := "(I)I" } : Jvm.MethodName) prog_13_method_91_code (2 : Nat) (Option.some Jvm.ClassFile.FieldType.int)) ∈ gw := gwt 1820 (by decide +kernel) rfl
theorem kw_1235 : (Jvm.Cond.methodLink "TrunkDuelLaw" (215 : Nat) ({ cls := "TrunkDuelLaw", name := "pieceRow", desc := "(LTrunkDuel;I[J)I" } : Jvm.MethodName)) ∈ gw := gwt 1235 (by decide +kernel) rfl
theorem kw_1237 : (Jvm.Cond.codeWith ({ cls := "TrunkDuelLaw", name := "pieceRow", desc := "(LTrunkDuel;I[J)I" } : Jvm.MethodName) method_17_code (4 : Nat) (Option.some Jvm.ClassFile.FieldType.int) [((0 : Nat), (9 : Nat), (12 : Nat), (19 : Nat))]) ∈ gw := gwt 1237 (by decide +kernel) rfl
theorem kw_1236 : (Jvm.Cond.static ({ cls := "TrunkDuelLaw", name := "pieceRow", desc := "(LTrunkDuel;I[J)I" } : Jvm.MethodName)) ∈ gw := gwt 1236 (by decide +kernel) rfl
theorem kw_1821 : (Jvm.Cond.methodLink "TrunkDuelLaw" (217 : Nat) ({ cls := "TrunkDuelModel", name := "pieceRow", desc := "(I)I" } : Jvm.MethodName)) ∈ gw := gwt 1821 (by decide +kernel) rfl
theorem kw_1822 : (Jvm.Cond.instanceMethod ({ cls := "TrunkDuelModel", name := "pieceRow", desc := "(I)I" } : Jvm.MethodName)) ∈ gw := gwt 1822 (by decide +kernel) rfl
theorem kw_1823 : (Jvm.Cond.selects "TrunkDuelModel" ({ cls := "TrunkDuelModel", name := "pieceRow", desc := "(I)I" } : Jvm.MethodName) ({ cls := "TrunkDuelModel", name := "pieceRow", desc := "(I)I" } : Jvm.MethodName)) ∈ gw := gwt 1823 (by decide +kernel) rfl
theorem kw_1824 : (Jvm.Cond.code ({ cls := "TrunkDuelModel", name := "pieceRow", desc := "(I)I" } : Jvm.MethodName) prog_13_method_92_code (2 : Nat) (Option.some Jvm.ClassFile.FieldType.int)) ∈ gw := gwt 1824 (by decide +kernel) rfl
theorem kw_1242 : (Jvm.Cond.methodLink "TrunkDuelLaw" (218 : Nat) ({ cls := "TrunkDuelLaw", name := "pieceOwner", desc := "(LTrunkDuel;I[J)I" } : Jvm.MethodName)) ∈ gw := gwt 1242 (by decide +kernel) rfl
theorem kw_1244 : (Jvm.Cond.codeWith ({ cls := "TrunkDuelLaw", name := "pieceOwner", desc := "(LTrunkDuel;I[J)I" } : Jvm.MethodName) method_18_code (4 : Nat) (Option.some Jvm.ClassFile.FieldType.int) [((0 : Nat), (9 : Nat), (12 : Nat), (19 : Nat))]) ∈ gw := gwt 1244 (by decide +kernel) rfl
theorem kw_1243 : (Jvm.Cond.static ({ cls := "TrunkDuelLaw", name := "pieceOwner", desc := "(LTrunkDuel;I[J)I" } : Jvm.MethodName)) ∈ gw := gwt 1243 (by decide +kernel) rfl
theorem kw_1825 : (Jvm.Cond.methodLink "TrunkDuelLaw" (220 : Nat) ({ cls := "TrunkDuelModel", name := "pieceOwner", desc := "(I)I" } : Jvm.MethodName)) ∈ gw := gwt 1825 (by decide +kernel) rfl
theorem kw_1826 : (Jvm.Cond.instanceMethod ({ cls := "TrunkDuelModel", name := "pieceOwner", desc := "(I)I" } : Jvm.MethodName)) ∈ gw := gwt 1826 (by decide +kernel) rfl
theorem kw_1827 : (Jvm.Cond.selects "TrunkDuelModel" ({ cls := "TrunkDuelModel", name := "pieceOwner", desc := "(I)I" } : Jvm.MethodName) ({ cls := "TrunkDuelModel", name := "pieceOwner", desc := "(I)I" } : Jvm.MethodName)) ∈ gw := gwt 1827 (by decide +kernel) rfl
theorem kw_1828 : (Jvm.Cond.code ({ cls := "TrunkDuelModel", name := "pieceOwner", desc := "(I)I" } : Jvm.MethodName) prog_13_method_93_code (2 : Nat) (Option.some Jvm.ClassFile.FieldType.int)) ∈ gw := gwt 1828 (by decide +kernel) rfl
theorem kw_1253 : (Jvm.Cond.methodLink "TrunkDuelLaw" (221 : Nat) ({ cls := "TrunkDuelLaw", name := "piecePoints", desc := "(LTrunkDuel;I[J)I" } : Jvm.MethodName)) ∈ gw := gwt 1253 (by decide +kernel) rfl
theorem kw_1255 : (Jvm.Cond.codeWith ({ cls := "TrunkDuelLaw", name := "piecePoints", desc := "(LTrunkDuel;I[J)I" } : Jvm.MethodName) method_19_code (4 : Nat) (Option.some Jvm.ClassFile.FieldType.int) [((0 : Nat), (9 : Nat), (12 : Nat), (19 : Nat))]) ∈ gw := gwt 1255 (by decide +kernel) rfl
theorem kw_1254 : (Jvm.Cond.static ({ cls := "TrunkDuelLaw", name := "piecePoints", desc := "(LTrunkDuel;I[J)I" } : Jvm.MethodName)) ∈ gw := gwt 1254 (by decide +kernel) rfl
theorem kw_1829 : (Jvm.Cond.methodLink "TrunkDuelLaw" (223 : Nat) ({ cls := "TrunkDuelModel", name := "piecePoints", desc := "(I)I" } : Jvm.MethodName)) ∈ gw := gwt 1829 (by decide +kernel) rfl
theorem kw_1830 : (Jvm.Cond.instanceMethod ({ cls := "TrunkDuelModel", name := "piecePoints", desc := "(I)I" } : Jvm.MethodName)) ∈ gw := gwt 1830 (by decide +kernel) rfl
theorem kw_1831 : (Jvm.Cond.selects "TrunkDuelModel" ({ cls := "TrunkDuelModel", name := "piecePoints", desc := "(I)I" } : Jvm.MethodName) ({ cls := "TrunkDuelModel", name := "piecePoints", desc := "(I)I" } : Jvm.MethodName)) ∈ gw := gwt 1831 (by decide +kernel) rfl
theorem kw_1832 : (Jvm.Cond.code ({ cls := "TrunkDuelModel", name := "piecePoints", desc := "(I)I" } : Jvm.MethodName) prog_13_method_94_code (2 : Nat) (Option.some Jvm.ClassFile.FieldType.int)) ∈ gw := gwt 1832 (by decide +kernel) rfl
theorem kw_824 : (Jvm.Cond.methodLink "TrunkDuelLaw" (224 : Nat) ({ cls := "TrunkDuel", name := "playerToMove", desc := "()I" } : Jvm.MethodName)) ∈ gw := gwt 824 (by decide +kernel) rfl
theorem kw_825 : (Jvm.Cond.instanceMethod ({ cls := "TrunkDuel", name := "playerToMove", desc := "()I" } : Jvm.MethodName)) ∈ gw := gwt 825 (by decide +kernel) rfl
theorem kw_826 : (Jvm.Cond.selects "TrunkDuel" ({ cls := "TrunkDuel", name := "playerToMove", desc := "()I" } : Jvm.MethodName) ({ cls := "TrunkDuel", name := "playerToMove", desc := "()I" } : Jvm.MethodName)) ∈ gw := gwt 826 (by decide +kernel) rfl
theorem kw_827 : (Jvm.Cond.code ({ cls := "TrunkDuel", name := "playerToMove", desc := "()I" } : Jvm.MethodName) prog_1_method_31_code (1 : Nat) (Option.some Jvm.ClassFile.FieldType.int)) ∈ gw := gwt 827 (by decide +kernel) rfl
theorem kw_1833 : (Jvm.Cond.methodLink "TrunkDuelLaw" (227 : Nat) ({ cls := "TrunkDuelModel", name := "playerToMove", desc := "()I" } : Jvm.MethodName)) ∈ gw := gwt 1833 (by decide +kernel) rfl
theorem kw_1834 : (Jvm.Cond.instanceMethod ({ cls := "TrunkDuelModel", name := "playerToMove", desc := "()I" } : Jvm.MethodName)) ∈ gw := gwt 1834 (by decide +kernel) rfl
theorem kw_1835 : (Jvm.Cond.selects "TrunkDuelModel" ({ cls := "TrunkDuelModel", name := "playerToMove", desc := "()I" } : Jvm.MethodName) ({ cls := "TrunkDuelModel", name := "playerToMove", desc := "()I" } : Jvm.MethodName)) ∈ gw := gwt 1835 (by decide +kernel) rfl
theorem kw_1836 : (Jvm.Cond.code ({ cls := "TrunkDuelModel", name := "playerToMove", desc := "()I" } : Jvm.MethodName) prog_13_method_95_code (1 : Nat) (Option.some Jvm.ClassFile.FieldType.int)) ∈ gw := gwt 1836 (by decide +kernel) rfl
theorem kw_829 : (Jvm.Cond.methodLink "TrunkDuelLaw" (228 : Nat) ({ cls := "TrunkDuel", name := "isOver", desc := "()Z" } : Jvm.MethodName)) ∈ gw := gwt 829 (by decide +kernel) rfl
theorem kw_830 : (Jvm.Cond.instanceMethod ({ cls := "TrunkDuel", name := "isOver", desc := "()Z" } : Jvm.MethodName)) ∈ gw := gwt 830 (by decide +kernel) rfl
theorem kw_831 : (Jvm.Cond.selects "TrunkDuel" ({ cls := "TrunkDuel", name := "isOver", desc := "()Z" } : Jvm.MethodName) ({ cls := "TrunkDuel", name := "isOver", desc := "()Z" } : Jvm.MethodName)) ∈ gw := gwt 831 (by decide +kernel) rfl
theorem kw_832 : (Jvm.Cond.code ({ cls := "TrunkDuel", name := "isOver", desc := "()Z" } : Jvm.MethodName) prog_1_method_32_code (1 : Nat) (Option.some Jvm.ClassFile.FieldType.boolean)) ∈ gw := gwt 832 (by decide +kernel) rfl
theorem kw_1837 : (Jvm.Cond.methodLink "TrunkDuelLaw" (232 : Nat) ({ cls := "TrunkDuelModel", name := "isOver", desc := "()Z" } : Jvm.MethodName)) ∈ gw := gwt 1837 (by decide +kernel) rfl
theorem kw_1838 : (Jvm.Cond.instanceMethod ({ cls := "TrunkDuelModel", name := "isOver", desc := "()Z" } : Jvm.MethodName)) ∈ gw := gwt 1838 (by decide +kernel) rfl
theorem kw_1839 : (Jvm.Cond.selects "TrunkDuelModel" ({ cls := "TrunkDuelModel", name := "isOver", desc := "()Z" } : Jvm.MethodName) ({ cls := "TrunkDuelModel", name := "isOver", desc := "()Z" } : Jvm.MethodName)) ∈ gw := gwt 1839 (by decide +kernel) rfl
theorem kw_1840 : (Jvm.Cond.code ({ cls := "TrunkDuelModel", name := "isOver", desc := "()Z" } : Jvm.MethodName) prog_13_method_96_code (1 : Nat) (Option.some Jvm.ClassFile.FieldType.boolean)) ∈ gw := gwt 1840 (by decide +kernel) rfl
theorem kw_833 : (Jvm.Cond.methodLink "TrunkDuelLaw" (233 : Nat) ({ cls := "TrunkDuel", name := "leader", desc := "()I" } : Jvm.MethodName)) ∈ gw := gwt 833 (by decide +kernel) rfl
theorem kw_834 : (Jvm.Cond.instanceMethod ({ cls := "TrunkDuel", name := "leader", desc := "()I" } : Jvm.MethodName)) ∈ gw := gwt 834 (by decide +kernel) rfl
theorem kw_835 : (Jvm.Cond.selects "TrunkDuel" ({ cls := "TrunkDuel", name := "leader", desc := "()I" } : Jvm.MethodName) ({ cls := "TrunkDuel", name := "leader", desc := "()I" } : Jvm.MethodName)) ∈ gw := gwt 835 (by decide +kernel) rfl
theorem kw_836 : (Jvm.Cond.code ({ cls := "TrunkDuel", name := "leader", desc := "()I" } : Jvm.MethodName) prog_1_method_33_code (2 : Nat) (Option.some Jvm.ClassFile.FieldType.int)) ∈ gw := gwt 836 (by decide +kernel) rfl
theorem kw_1841 : (Jvm.Cond.methodLink "TrunkDuelLaw" (236 : Nat) ({ cls := "TrunkDuelModel", name := "leader", desc := "()I" } : Jvm.MethodName)) ∈ gw := gwt 1841 (by decide +kernel) rfl
theorem kw_1842 : (Jvm.Cond.instanceMethod ({ cls := "TrunkDuelModel", name := "leader", desc := "()I" } : Jvm.MethodName)) ∈ gw := gwt 1842 (by decide +kernel) rfl
theorem kw_1843 : (Jvm.Cond.selects "TrunkDuelModel" ({ cls := "TrunkDuelModel", name := "leader", desc := "()I" } : Jvm.MethodName) ({ cls := "TrunkDuelModel", name := "leader", desc := "()I" } : Jvm.MethodName)) ∈ gw := gwt 1843 (by decide +kernel) rfl
theorem kw_1844 : (Jvm.Cond.code ({ cls := "TrunkDuelModel", name := "leader", desc := "()I" } : Jvm.MethodName) prog_13_method_97_code (2 : Nat) (Option.some Jvm.ClassFile.FieldType.int)) ∈ gw := gwt 1844 (by decide +kernel) rfl
theorem kw_1260 : (Jvm.Cond.methodLink "TrunkDuelLaw" (237 : Nat) ({ cls := "TrunkDuelLaw", name := "score", desc := "(LTrunkDuel;I[J)I" } : Jvm.MethodName)) ∈ gw := gwt 1260 (by decide +kernel) rfl
theorem kw_1262 : (Jvm.Cond.codeWith ({ cls := "TrunkDuelLaw", name := "score", desc := "(LTrunkDuel;I[J)I" } : Jvm.MethodName) method_20_code (4 : Nat) (Option.some Jvm.ClassFile.FieldType.int) [((0 : Nat), (9 : Nat), (12 : Nat), (19 : Nat))]) ∈ gw := gwt 1262 (by decide +kernel) rfl
theorem kw_1261 : (Jvm.Cond.static ({ cls := "TrunkDuelLaw", name := "score", desc := "(LTrunkDuel;I[J)I" } : Jvm.MethodName)) ∈ gw := gwt 1261 (by decide +kernel) rfl
theorem kw_1845 : (Jvm.Cond.methodLink "TrunkDuelLaw" (239 : Nat) ({ cls := "TrunkDuelModel", name := "score", desc := "(I)I" } : Jvm.MethodName)) ∈ gw := gwt 1845 (by decide +kernel) rfl
theorem kw_1846 : (Jvm.Cond.instanceMethod ({ cls := "TrunkDuelModel", name := "score", desc := "(I)I" } : Jvm.MethodName)) ∈ gw := gwt 1846 (by decide +kernel) rfl
theorem kw_1847 : (Jvm.Cond.selects "TrunkDuelModel" ({ cls := "TrunkDuelModel", name := "score", desc := "(I)I" } : Jvm.MethodName) ({ cls := "TrunkDuelModel", name := "score", desc := "(I)I" } : Jvm.MethodName)) ∈ gw := gwt 1847 (by decide +kernel) rfl
theorem kw_1848 : (Jvm.Cond.code ({ cls := "TrunkDuelModel", name := "score", desc := "(I)I" } : Jvm.MethodName) prog_13_method_98_code (2 : Nat) (Option.some Jvm.ClassFile.FieldType.int)) ∈ gw := gwt 1848 (by decide +kernel) rfl
theorem kw_1271 : (Jvm.Cond.methodLink "TrunkDuelLaw" (240 : Nat) ({ cls := "TrunkDuelLaw", name := "supply", desc := "(LTrunkDuel;II[J)I" } : Jvm.MethodName)) ∈ gw := gwt 1271 (by decide +kernel) rfl
theorem kw_1273 : (Jvm.Cond.codeWith ({ cls := "TrunkDuelLaw", name := "supply", desc := "(LTrunkDuel;II[J)I" } : Jvm.MethodName) method_21_code (5 : Nat) (Option.some Jvm.ClassFile.FieldType.int) [((0 : Nat), (10 : Nat), (13 : Nat), (19 : Nat)), ((0 : Nat), (10 : Nat), (17 : Nat), (13 : Nat))]) ∈ gw := gwt 1273 (by decide +kernel) rfl
theorem kw_1272 : (Jvm.Cond.static ({ cls := "TrunkDuelLaw", name := "supply", desc := "(LTrunkDuel;II[J)I" } : Jvm.MethodName)) ∈ gw := gwt 1272 (by decide +kernel) rfl
theorem kw_1852 : (Jvm.Cond.methodLink "TrunkDuelLaw" (242 : Nat) ({ cls := "TrunkDuelModel", name := "supply", desc := "(II)I" } : Jvm.MethodName)) ∈ gw := gwt 1852 (by decide +kernel) rfl
theorem kw_1853 : (Jvm.Cond.instanceMethod ({ cls := "TrunkDuelModel", name := "supply", desc := "(II)I" } : Jvm.MethodName)) ∈ gw := gwt 1853 (by decide +kernel) rfl
theorem kw_1854 : (Jvm.Cond.selects "TrunkDuelModel" ({ cls := "TrunkDuelModel", name := "supply", desc := "(II)I" } : Jvm.MethodName) ({ cls := "TrunkDuelModel", name := "supply", desc := "(II)I" } : Jvm.MethodName)) ∈ gw := gwt 1854 (by decide +kernel) rfl
theorem kw_1855 : (Jvm.Cond.code ({ cls := "TrunkDuelModel", name := "supply", desc := "(II)I" } : Jvm.MethodName) prog_13_method_99_code (3 : Nat) (Option.some Jvm.ClassFile.FieldType.int)) ∈ gw := gwt 1855 (by decide +kernel) rfl
theorem kw_1279 : (Jvm.Cond.methodLink "TrunkDuelLaw" (243 : Nat) ({ cls := "TrunkDuelLaw", name := "strapsLeft", desc := "(LTrunkDuel;I[J)I" } : Jvm.MethodName)) ∈ gw := gwt 1279 (by decide +kernel) rfl
theorem kw_1281 : (Jvm.Cond.codeWith ({ cls := "TrunkDuelLaw", name := "strapsLeft", desc := "(LTrunkDuel;I[J)I" } : Jvm.MethodName) method_22_code (4 : Nat) (Option.some Jvm.ClassFile.FieldType.int) [((0 : Nat), (9 : Nat), (12 : Nat), (19 : Nat))]) ∈ gw := gwt 1281 (by decide +kernel) rfl
theorem kw_1280 : (Jvm.Cond.static ({ cls := "TrunkDuelLaw", name := "strapsLeft", desc := "(LTrunkDuel;I[J)I" } : Jvm.MethodName)) ∈ gw := gwt 1280 (by decide +kernel) rfl
theorem kw_1856 : (Jvm.Cond.methodLink "TrunkDuelLaw" (245 : Nat) ({ cls := "TrunkDuelModel", name := "strapsLeft", desc := "(I)I" } : Jvm.MethodName)) ∈ gw := gwt 1856 (by decide +kernel) rfl
theorem kw_1857 : (Jvm.Cond.instanceMethod ({ cls := "TrunkDuelModel", name := "strapsLeft", desc := "(I)I" } : Jvm.MethodName)) ∈ gw := gwt 1857 (by decide +kernel) rfl
theorem kw_1858 : (Jvm.Cond.selects "TrunkDuelModel" ({ cls := "TrunkDuelModel", name := "strapsLeft", desc := "(I)I" } : Jvm.MethodName) ({ cls := "TrunkDuelModel", name := "strapsLeft", desc := "(I)I" } : Jvm.MethodName)) ∈ gw := gwt 1858 (by decide +kernel) rfl
theorem kw_1859 : (Jvm.Cond.code ({ cls := "TrunkDuelModel", name := "strapsLeft", desc := "(I)I" } : Jvm.MethodName) prog_13_method_100_code (2 : Nat) (Option.some Jvm.ClassFile.FieldType.int)) ∈ gw := gwt 1859 (by decide +kernel) rfl
theorem kw_1286 : (Jvm.Cond.methodLink "TrunkDuelLaw" (246 : Nat) ({ cls := "TrunkDuelLaw", name := "nameByte", desc := "(LTrunkDuel;II[J)I" } : Jvm.MethodName)) ∈ gw := gwt 1286 (by decide +kernel) rfl
theorem kw_1288 : (Jvm.Cond.codeWith ({ cls := "TrunkDuelLaw", name := "nameByte", desc := "(LTrunkDuel;II[J)I" } : Jvm.MethodName) method_23_code (5 : Nat) (Option.some Jvm.ClassFile.FieldType.int) [((0 : Nat), (10 : Nat), (13 : Nat), (19 : Nat))]) ∈ gw := gwt 1288 (by decide +kernel) rfl
theorem kw_1287 : (Jvm.Cond.static ({ cls := "TrunkDuelLaw", name := "nameByte", desc := "(LTrunkDuel;II[J)I" } : Jvm.MethodName)) ∈ gw := gwt 1287 (by decide +kernel) rfl
theorem kw_1860 : (Jvm.Cond.methodLink "TrunkDuelLaw" (248 : Nat) ({ cls := "TrunkDuelModel", name := "nameByte", desc := "(II)I" } : Jvm.MethodName)) ∈ gw := gwt 1860 (by decide +kernel) rfl
theorem kw_1861 : (Jvm.Cond.instanceMethod ({ cls := "TrunkDuelModel", name := "nameByte", desc := "(II)I" } : Jvm.MethodName)) ∈ gw := gwt 1861 (by decide +kernel) rfl
theorem kw_1862 : (Jvm.Cond.selects "TrunkDuelModel" ({ cls := "TrunkDuelModel", name := "nameByte", desc := "(II)I" } : Jvm.MethodName) ({ cls := "TrunkDuelModel", name := "nameByte", desc := "(II)I" } : Jvm.MethodName)) ∈ gw := gwt 1862 (by decide +kernel) rfl
theorem kw_1863 : (Jvm.Cond.code ({ cls := "TrunkDuelModel", name := "nameByte", desc := "(II)I" } : Jvm.MethodName) prog_13_method_101_code (3 : Nat) (Option.some Jvm.ClassFile.FieldType.int)) ∈ gw := gwt 1863 (by decide +kernel) rfl
theorem kw_1297 : (Jvm.Cond.methodLink "TrunkDuelLaw" (249 : Nat) ({ cls := "TrunkDuelLaw", name := "fits", desc := "(LTrunkDuel;IIII[J)I" } : Jvm.MethodName)) ∈ gw := gwt 1297 (by decide +kernel) rfl
theorem kw_1299 : (Jvm.Cond.codeWith ({ cls := "TrunkDuelLaw", name := "fits", desc := "(LTrunkDuel;IIII[J)I" } : Jvm.MethodName) method_24_code (7 : Nat) (Option.some Jvm.ClassFile.FieldType.int) [((0 : Nat), (21 : Nat), (24 : Nat), (13 : Nat)), ((0 : Nat), (21 : Nat), (28 : Nat), (19 : Nat))]) ∈ gw := gwt 1299 (by decide +kernel) rfl
theorem kw_1298 : (Jvm.Cond.static ({ cls := "TrunkDuelLaw", name := "fits", desc := "(LTrunkDuel;IIII[J)I" } : Jvm.MethodName)) ∈ gw := gwt 1298 (by decide +kernel) rfl
theorem kw_1864 : (Jvm.Cond.methodLink "TrunkDuelLaw" (251 : Nat) ({ cls := "TrunkDuelModel", name := "fits", desc := "(IIII)Z" } : Jvm.MethodName)) ∈ gw := gwt 1864 (by decide +kernel) rfl
theorem kw_1865 : (Jvm.Cond.instanceMethod ({ cls := "TrunkDuelModel", name := "fits", desc := "(IIII)Z" } : Jvm.MethodName)) ∈ gw := gwt 1865 (by decide +kernel) rfl
theorem kw_1866 : (Jvm.Cond.selects "TrunkDuelModel" ({ cls := "TrunkDuelModel", name := "fits", desc := "(IIII)Z" } : Jvm.MethodName) ({ cls := "TrunkDuelModel", name := "fits", desc := "(IIII)Z" } : Jvm.MethodName)) ∈ gw := gwt 1866 (by decide +kernel) rfl
theorem kw_1867 : (Jvm.Cond.code ({ cls := "TrunkDuelModel", name := "fits", desc := "(IIII)Z" } : Jvm.MethodName) prog_13_method_103_code (5 : Nat) (Option.some Jvm.ClassFile.FieldType.boolean)) ∈ gw := gwt 1867 (by decide +kernel) rfl
theorem kw_1305 : (Jvm.Cond.methodLink "TrunkDuelLaw" (252 : Nat) ({ cls := "TrunkDuelLaw", name := "misfitReason", desc := "(LTrunkDuel;IIII[J)I" } : Jvm.MethodName)) ∈ gw := gwt 1305 (by decide +kernel) rfl
theorem kw_1307 : (Jvm.Cond.codeWith ({ cls := "TrunkDuelLaw", name := "misfitReason", desc := "(LTrunkDuel;IIII[J)I" } : Jvm.MethodName) method_25_code (7 : Nat) (Option.some Jvm.ClassFile.FieldType.int) [((0 : Nat), (14 : Nat), (17 : Nat), (13 : Nat)), ((0 : Nat), (14 : Nat), (21 : Nat), (19 : Nat))]) ∈ gw := gwt 1307 (by decide +kernel) rfl
theorem kw_1306 : (Jvm.Cond.static ({ cls := "TrunkDuelLaw", name := "misfitReason", desc := "(LTrunkDuel;IIII[J)I" } : Jvm.MethodName)) ∈ gw := gwt 1306 (by decide +kernel) rfl
theorem kw_1872 : (Jvm.Cond.methodLink "TrunkDuelLaw" (254 : Nat) ({ cls := "TrunkDuelModel", name := "misfitReason", desc := "(IIII)I" } : Jvm.MethodName)) ∈ gw := gwt 1872 (by decide +kernel) rfl
theorem kw_1873 : (Jvm.Cond.instanceMethod ({ cls := "TrunkDuelModel", name := "misfitReason", desc := "(IIII)I" } : Jvm.MethodName)) ∈ gw := gwt 1873 (by decide +kernel) rfl
theorem kw_1874 : (Jvm.Cond.selects "TrunkDuelModel" ({ cls := "TrunkDuelModel", name := "misfitReason", desc := "(IIII)I" } : Jvm.MethodName) ({ cls := "TrunkDuelModel", name := "misfitReason", desc := "(IIII)I" } : Jvm.MethodName)) ∈ gw := gwt 1874 (by decide +kernel) rfl
theorem kw_1875 : (Jvm.Cond.code ({ cls := "TrunkDuelModel", name := "misfitReason", desc := "(IIII)I" } : Jvm.MethodName) prog_13_method_104_code (5 : Nat) (Option.some Jvm.ClassFile.FieldType.int)) ∈ gw := gwt 1875 (by decide +kernel) rfl
theorem kw_1312 : (Jvm.Cond.methodLink "TrunkDuelLaw" (255 : Nat) ({ cls := "TrunkDuelLaw", name := "pointsFor", desc := "(LTrunkDuel;IIII[J)I" } : Jvm.MethodName)) ∈ gw := gwt 1312 (by decide +kernel) rfl
theorem kw_1314 : (Jvm.Cond.codeWith ({ cls := "TrunkDuelLaw", name := "pointsFor", desc := "(LTrunkDuel;IIII[J)I" } : Jvm.MethodName) method_26_code (7 : Nat) (Option.some Jvm.ClassFile.FieldType.int) [((0 : Nat), (14 : Nat), (17 : Nat), (13 : Nat)), ((0 : Nat), (14 : Nat), (21 : Nat), (19 : Nat))]) ∈ gw := gwt 1314 (by decide +kernel) rfl
theorem kw_1313 : (Jvm.Cond.static ({ cls := "TrunkDuelLaw", name := "pointsFor", desc := "(LTrunkDuel;IIII[J)I" } : Jvm.MethodName)) ∈ gw := gwt 1313 (by decide +kernel) rfl
theorem kw_1876 : (Jvm.Cond.methodLink "TrunkDuelLaw" (257 : Nat) ({ cls := "TrunkDuelModel", name := "pointsFor", desc := "(IIII)I" } : Jvm.MethodName)) ∈ gw := gwt 1876 (by decide +kernel) rfl
theorem kw_1877 : (Jvm.Cond.instanceMethod ({ cls := "TrunkDuelModel", name := "pointsFor", desc := "(IIII)I" } : Jvm.MethodName)) ∈ gw := gwt 1877 (by decide +kernel) rfl
theorem kw_1878 : (Jvm.Cond.selects "TrunkDuelModel" ({ cls := "TrunkDuelModel", name := "pointsFor", desc := "(IIII)I" } : Jvm.MethodName) ({ cls := "TrunkDuelModel", name := "pointsFor", desc := "(IIII)I" } : Jvm.MethodName)) ∈ gw := gwt 1878 (by decide +kernel) rfl
theorem kw_1879 : (Jvm.Cond.code ({ cls := "TrunkDuelModel", name := "pointsFor", desc := "(IIII)I" } : Jvm.MethodName) prog_13_method_105_code (5 : Nat) (Option.some Jvm.ClassFile.FieldType.int)) ∈ gw := gwt 1879 (by decide +kernel) rfl
theorem kw_1320 : (Jvm.Cond.methodLink "TrunkDuelLaw" (258 : Nat) ({ cls := "TrunkDuelLaw", name := "mobility", desc := "(LTrunkDuel;I[J)I" } : Jvm.MethodName)) ∈ gw := gwt 1320 (by decide +kernel) rfl
theorem kw_1322 : (Jvm.Cond.codeWith ({ cls := "TrunkDuelLaw", name := "mobility", desc := "(LTrunkDuel;I[J)I" } : Jvm.MethodName) method_27_code (4 : Nat) (Option.some Jvm.ClassFile.FieldType.int) [((0 : Nat), (9 : Nat), (12 : Nat), (19 : Nat))]) ∈ gw := gwt 1322 (by decide +kernel) rfl
theorem kw_1321 : (Jvm.Cond.static ({ cls := "TrunkDuelLaw", name := "mobility", desc := "(LTrunkDuel;I[J)I" } : Jvm.MethodName)) ∈ gw := gwt 1321 (by decide +kernel) rfl
theorem kw_1880 : (Jvm.Cond.methodLink "TrunkDuelLaw" (260 : Nat) ({ cls := "TrunkDuelModel", name := "mobility", desc := "(I)I" } : Jvm.MethodName)) ∈ gw := gwt 1880 (by decide +kernel) rfl
theorem kw_1881 : (Jvm.Cond.instanceMethod ({ cls := "TrunkDuelModel", name := "mobility", desc := "(I)I" } : Jvm.MethodName)) ∈ gw := gwt 1881 (by decide +kernel) rfl
theorem kw_1882 : (Jvm.Cond.selects "TrunkDuelModel" ({ cls := "TrunkDuelModel", name := "mobility", desc := "(I)I" } : Jvm.MethodName) ({ cls := "TrunkDuelModel", name := "mobility", desc := "(I)I" } : Jvm.MethodName)) ∈ gw := gwt 1882 (by decide +kernel) rfl
theorem kw_1883 : (Jvm.Cond.code ({ cls := "TrunkDuelModel", name := "mobility", desc := "(I)I" } : Jvm.MethodName) prog_13_method_106_code (2 : Nat) (Option.some Jvm.ClassFile.FieldType.int)) ∈ gw := gwt 1883 (by decide +kernel) rfl
theorem kw_1337 : (Jvm.Cond.methodLink "TrunkDuelLaw" (261 : Nat) ({ cls := "TrunkDuelLaw", name := "fittingPlacements", desc := "(LTrunkDuel;I[J)I" } : Jvm.MethodName)) ∈ gw := gwt 1337 (by decide +kernel) rfl
theorem kw_1339 : (Jvm.Cond.codeWith ({ cls := "TrunkDuelLaw", name := "fittingPlacements", desc := "(LTrunkDuel;I[J)I" } : Jvm.MethodName) method_28_code (4 : Nat) (Option.some Jvm.ClassFile.FieldType.int) [((0 : Nat), (9 : Nat), (12 : Nat), (13 : Nat))]) ∈ gw := gwt 1339 (by decide +kernel) rfl
theorem kw_1338 : (Jvm.Cond.static ({ cls := "TrunkDuelLaw", name := "fittingPlacements", desc := "(LTrunkDuel;I[J)I" } : Jvm.MethodName)) ∈ gw := gwt 1338 (by decide +kernel) rfl
theorem kw_1884 : (Jvm.Cond.methodLink "TrunkDuelLaw" (263 : Nat) ({ cls := "TrunkDuelModel", name := "fittingPlacements", desc := "(I)I" } : Jvm.MethodName)) ∈ gw := gwt 1884 (by decide +kernel) rfl
theorem kw_1885 : (Jvm.Cond.instanceMethod ({ cls := "TrunkDuelModel", name := "fittingPlacements", desc := "(I)I" } : Jvm.MethodName)) ∈ gw := gwt 1885 (by decide +kernel) rfl
theorem kw_1886 : (Jvm.Cond.selects "TrunkDuelModel" ({ cls := "TrunkDuelModel", name := "fittingPlacements", desc := "(I)I" } : Jvm.MethodName) ({ cls := "TrunkDuelModel", name := "fittingPlacements", desc := "(I)I" } : Jvm.MethodName)) ∈ gw := gwt 1886 (by decide +kernel) rfl
theorem kw_1887 : (Jvm.Cond.code ({ cls := "TrunkDuelModel", name := "fittingPlacements", desc := "(I)I" } : Jvm.MethodName) prog_13_method_107_code (2 : Nat) (Option.some Jvm.ClassFile.FieldType.int)) ∈ gw := gwt 1887 (by decide +kernel) rfl
theorem kw_1345 : (Jvm.Cond.methodLink "TrunkDuelLaw" (264 : Nat) ({ cls := "TrunkDuelLaw", name := "mobilityAfter", desc := "(LTrunkDuel;IIIII[J)I" } : Jvm.MethodName)) ∈ gw := gwt 1345 (by decide +kernel) rfl
theorem kw_1347 : (Jvm.Cond.codeWith ({ cls := "TrunkDuelLaw", name := "mobilityAfter", desc := "(LTrunkDuel;IIIII[J)I" } : Jvm.MethodName) method_29_code (8 : Nat) (Option.some Jvm.ClassFile.FieldType.int) [((0 : Nat), (16 : Nat), (19 : Nat), (13 : Nat)), ((0 : Nat), (16 : Nat), (23 : Nat), (19 : Nat))]) ∈ gw := gwt 1347 (by decide +kernel) rfl
theorem kw_1346 : (Jvm.Cond.static ({ cls := "TrunkDuelLaw", name := "mobilityAfter", desc := "(LTrunkDuel;IIIII[J)I" } : Jvm.MethodName)) ∈ gw := gwt 1346 (by decide +kernel) rfl
theorem kw_1888 : (Jvm.Cond.methodLink "TrunkDuelLaw" (267 : Nat) ({ cls := "TrunkDuelModel", name := "mobilityAfter", desc := "(IIIII)I" } : Jvm.MethodName)) ∈ gw := gwt 1888 (by decide +kernel) rfl
theorem kw_1889 : (Jvm.Cond.instanceMethod ({ cls := "TrunkDuelModel", name := "mobilityAfter", desc := "(IIIII)I" } : Jvm.MethodName)) ∈ gw := gwt 1889 (by decide +kernel) rfl
theorem kw_1890 : (Jvm.Cond.selects "TrunkDuelModel" ({ cls := "TrunkDuelModel", name := "mobilityAfter", desc := "(IIIII)I" } : Jvm.MethodName) ({ cls := "TrunkDuelModel", name := "mobilityAfter", desc := "(IIIII)I" } : Jvm.MethodName)) ∈ gw := gwt 1890 (by decide +kernel) rfl
theorem kw_1891 : (Jvm.Cond.code ({ cls := "TrunkDuelModel", name := "mobilityAfter", desc := "(IIIII)I" } : Jvm.MethodName) prog_13_method_110_code (7 : Nat) (Option.some Jvm.ClassFile.FieldType.int)) ∈ gw := gwt 1891 (by decide +kernel) rfl
theorem kw_837 : (Jvm.Cond.methodLink "TrunkDuelLaw" (268 : Nat) ({ cls := "TrunkDuel", name := "bestShape", desc := "()I" } : Jvm.MethodName)) ∈ gw := gwt 837 (by decide +kernel) rfl
theorem kw_838 : (Jvm.Cond.instanceMethod ({ cls := "TrunkDuel", name := "bestShape", desc := "()I" } : Jvm.MethodName)) ∈ gw := gwt 838 (by decide +kernel) rfl
theorem kw_839 : (Jvm.Cond.selects "TrunkDuel" ({ cls := "TrunkDuel", name := "bestShape", desc := "()I" } : Jvm.MethodName) ({ cls := "TrunkDuel", name := "bestShape", desc := "()I" } : Jvm.MethodName)) ∈ gw := gwt 839 (by decide +kernel) rfl
theorem kw_840 : (Jvm.Cond.code ({ cls := "TrunkDuel", name := "bestShape", desc := "()I" } : Jvm.MethodName) prog_1_method_44_code (1 : Nat) (Option.some Jvm.ClassFile.FieldType.int)) ∈ gw := gwt 840 (by decide +kernel) rfl
theorem kw_1900 : (Jvm.Cond.methodLink "TrunkDuelLaw" (271 : Nat) ({ cls := "TrunkDuelModel", name := "bestShape", desc := "()I" } : Jvm.MethodName)) ∈ gw := gwt 1900 (by decide +kernel) rfl
theorem kw_1901 : (Jvm.Cond.instanceMethod ({ cls := "TrunkDuelModel", name := "bestShape", desc := "()I" } : Jvm.MethodName)) ∈ gw := gwt 1901 (by decide +kernel) rfl
theorem kw_1902 : (Jvm.Cond.selects "TrunkDuelModel" ({ cls := "TrunkDuelModel", name := "bestShape", desc := "()I" } : Jvm.MethodName) ({ cls := "TrunkDuelModel", name := "bestShape", desc := "()I" } : Jvm.MethodName)) ∈ gw := gwt 1902 (by decide +kernel) rfl
theorem kw_1903 : (Jvm.Cond.code ({ cls := "TrunkDuelModel", name := "bestShape", desc := "()I" } : Jvm.MethodName) prog_13_method_113_code (1 : Nat) (Option.some Jvm.ClassFile.FieldType.int)) ∈ gw := gwt 1903 (by decide +kernel) rfl
theorem kw_859 : (Jvm.Cond.methodLink "TrunkDuelLaw" (272 : Nat) ({ cls := "TrunkDuel", name := "bestRotation", desc := "()I" } : Jvm.MethodName)) ∈ gw := gwt 859 (by decide +kernel) rfl
theorem kw_860 : (Jvm.Cond.instanceMethod ({ cls := "TrunkDuel", name := "bestRotation", desc := "()I" } : Jvm.MethodName)) ∈ gw := gwt 860 (by decide +kernel) rfl
theorem kw_861 : (Jvm.Cond.selects "TrunkDuel" ({ cls := "TrunkDuel", name := "bestRotation", desc := "()I" } : Jvm.MethodName) ({ cls := "TrunkDuel", name := "bestRotation", desc := "()I" } : Jvm.MethodName)) ∈ gw := gwt 861 (by decide +kernel) rfl
theorem kw_862 : (Jvm.Cond.code ({ cls := "TrunkDuel", name := "bestRotation", desc := "()I" } : Jvm.MethodName) prog_1_method_45_code (1 : Nat) (Option.some Jvm.ClassFile.FieldType.int)) ∈ gw := gwt 862 (by decide +kernel) rfl
theorem kw_1912 : (Jvm.Cond.methodLink "TrunkDuelLaw" (275 : Nat) ({ cls := "TrunkDuelModel", name := "bestRotation", desc := "()I" } : Jvm.MethodName)) ∈ gw := gwt 1912 (by decide +kernel) rfl
theorem kw_1913 : (Jvm.Cond.instanceMethod ({ cls := "TrunkDuelModel", name := "bestRotation", desc := "()I" } : Jvm.MethodName)) ∈ gw := gwt 1913 (by decide +kernel) rfl
theorem kw_1914 : (Jvm.Cond.selects "TrunkDuelModel" ({ cls := "TrunkDuelModel", name := "bestRotation", desc := "()I" } : Jvm.MethodName) ({ cls := "TrunkDuelModel", name := "bestRotation", desc := "()I" } : Jvm.MethodName)) ∈ gw := gwt 1914 (by decide +kernel) rfl
theorem kw_1915 : (Jvm.Cond.code ({ cls := "TrunkDuelModel", name := "bestRotation", desc := "()I" } : Jvm.MethodName) prog_13_method_114_code (1 : Nat) (Option.some Jvm.ClassFile.FieldType.int)) ∈ gw := gwt 1915 (by decide +kernel) rfl
theorem kw_863 : (Jvm.Cond.methodLink "TrunkDuelLaw" (276 : Nat) ({ cls := "TrunkDuel", name := "bestColumn", desc := "()I" } : Jvm.MethodName)) ∈ gw := gwt 863 (by decide +kernel) rfl
theorem kw_864 : (Jvm.Cond.instanceMethod ({ cls := "TrunkDuel", name := "bestColumn", desc := "()I" } : Jvm.MethodName)) ∈ gw := gwt 864 (by decide +kernel) rfl
theorem kw_865 : (Jvm.Cond.selects "TrunkDuel" ({ cls := "TrunkDuel", name := "bestColumn", desc := "()I" } : Jvm.MethodName) ({ cls := "TrunkDuel", name := "bestColumn", desc := "()I" } : Jvm.MethodName)) ∈ gw := gwt 865 (by decide +kernel) rfl
theorem kw_866 : (Jvm.Cond.code ({ cls := "TrunkDuel", name := "bestColumn", desc := "()I" } : Jvm.MethodName) prog_1_method_46_code (1 : Nat) (Option.some Jvm.ClassFile.FieldType.int)) ∈ gw := gwt 866 (by decide +kernel) rfl
theorem kw_1916 : (Jvm.Cond.methodLink "TrunkDuelLaw" (279 : Nat) ({ cls := "TrunkDuelModel", name := "bestColumn", desc := "()I" } : Jvm.MethodName)) ∈ gw := gwt 1916 (by decide +kernel) rfl
theorem kw_1917 : (Jvm.Cond.instanceMethod ({ cls := "TrunkDuelModel", name := "bestColumn", desc := "()I" } : Jvm.MethodName)) ∈ gw := gwt 1917 (by decide +kernel) rfl
theorem kw_1918 : (Jvm.Cond.selects "TrunkDuelModel" ({ cls := "TrunkDuelModel", name := "bestColumn", desc := "()I" } : Jvm.MethodName) ({ cls := "TrunkDuelModel", name := "bestColumn", desc := "()I" } : Jvm.MethodName)) ∈ gw := gwt 1918 (by decide +kernel) rfl
theorem kw_1919 : (Jvm.Cond.code ({ cls := "TrunkDuelModel", name := "bestColumn", desc := "()I" } : Jvm.MethodName) prog_13_method_115_code (1 : Nat) (Option.some Jvm.ClassFile.FieldType.int)) ∈ gw := gwt 1919 (by decide +kernel) rfl
theorem kw_867 : (Jvm.Cond.methodLink "TrunkDuelLaw" (280 : Nat) ({ cls := "TrunkDuel", name := "bestRow", desc := "()I" } : Jvm.MethodName)) ∈ gw := gwt 867 (by decide +kernel) rfl
theorem kw_868 : (Jvm.Cond.instanceMethod ({ cls := "TrunkDuel", name := "bestRow", desc := "()I" } : Jvm.MethodName)) ∈ gw := gwt 868 (by decide +kernel) rfl
theorem kw_869 : (Jvm.Cond.selects "TrunkDuel" ({ cls := "TrunkDuel", name := "bestRow", desc := "()I" } : Jvm.MethodName) ({ cls := "TrunkDuel", name := "bestRow", desc := "()I" } : Jvm.MethodName)) ∈ gw := gwt 869 (by decide +kernel) rfl
theorem kw_870 : (Jvm.Cond.code ({ cls := "TrunkDuel", name := "bestRow", desc := "()I" } : Jvm.MethodName) prog_1_method_47_code (1 : Nat) (Option.some Jvm.ClassFile.FieldType.int)) ∈ gw := gwt 870 (by decide +kernel) rfl
theorem kw_1920 : (Jvm.Cond.methodLink "TrunkDuelLaw" (283 : Nat) ({ cls := "TrunkDuelModel", name := "bestRow", desc := "()I" } : Jvm.MethodName)) ∈ gw := gwt 1920 (by decide +kernel) rfl
theorem kw_1921 : (Jvm.Cond.instanceMethod ({ cls := "TrunkDuelModel", name := "bestRow", desc := "()I" } : Jvm.MethodName)) ∈ gw := gwt 1921 (by decide +kernel) rfl
theorem kw_1922 : (Jvm.Cond.selects "TrunkDuelModel" ({ cls := "TrunkDuelModel", name := "bestRow", desc := "()I" } : Jvm.MethodName) ({ cls := "TrunkDuelModel", name := "bestRow", desc := "()I" } : Jvm.MethodName)) ∈ gw := gwt 1922 (by decide +kernel) rfl
theorem kw_1923 : (Jvm.Cond.code ({ cls := "TrunkDuelModel", name := "bestRow", desc := "()I" } : Jvm.MethodName) prog_13_method_116_code (1 : Nat) (Option.some Jvm.ClassFile.FieldType.int)) ∈ gw := gwt 1923 (by decide +kernel) rfl
theorem kw_871 : (Jvm.Cond.methodLink "TrunkDuelLaw" (284 : Nat) ({ cls := "TrunkDuel", name := "bestStrapEffect", desc := "()I" } : Jvm.MethodName)) ∈ gw := gwt 871 (by decide +kernel) rfl
theorem kw_872 : (Jvm.Cond.instanceMethod ({ cls := "TrunkDuel", name := "bestStrapEffect", desc := "()I" } : Jvm.MethodName)) ∈ gw := gwt 872 (by decide +kernel) rfl
theorem kw_873 : (Jvm.Cond.selects "TrunkDuel" ({ cls := "TrunkDuel", name := "bestStrapEffect", desc := "()I" } : Jvm.MethodName) ({ cls := "TrunkDuel", name := "bestStrapEffect", desc := "()I" } : Jvm.MethodName)) ∈ gw := gwt 873 (by decide +kernel) rfl
theorem kw_874 : (Jvm.Cond.code ({ cls := "TrunkDuel", name := "bestStrapEffect", desc := "()I" } : Jvm.MethodName) prog_1_method_48_code (1 : Nat) (Option.some Jvm.ClassFile.FieldType.int)) ∈ gw := gwt 874 (by decide +kernel) rfl
theorem kw_1924 : (Jvm.Cond.methodLink "TrunkDuelLaw" (287 : Nat) ({ cls := "TrunkDuelModel", name := "bestStrapEffect", desc := "()I" } : Jvm.MethodName)) ∈ gw := gwt 1924 (by decide +kernel) rfl
theorem kw_1925 : (Jvm.Cond.instanceMethod ({ cls := "TrunkDuelModel", name := "bestStrapEffect", desc := "()I" } : Jvm.MethodName)) ∈ gw := gwt 1925 (by decide +kernel) rfl
theorem kw_1926 : (Jvm.Cond.selects "TrunkDuelModel" ({ cls := "TrunkDuelModel", name := "bestStrapEffect", desc := "()I" } : Jvm.MethodName) ({ cls := "TrunkDuelModel", name := "bestStrapEffect", desc := "()I" } : Jvm.MethodName)) ∈ gw := gwt 1926 (by decide +kernel) rfl
theorem kw_1927 : (Jvm.Cond.code ({ cls := "TrunkDuelModel", name := "bestStrapEffect", desc := "()I" } : Jvm.MethodName) prog_13_method_117_code (7 : Nat) (Option.some Jvm.ClassFile.FieldType.int)) ∈ gw := gwt 1927 (by decide +kernel) rfl
theorem kw_897 : (Jvm.Cond.methodLink "TrunkDuelLaw" (288 : Nat) ({ cls := "TrunkDuel", name := "regionCount", desc := "()I" } : Jvm.MethodName)) ∈ gw := gwt 897 (by decide +kernel) rfl
theorem kw_898 : (Jvm.Cond.instanceMethod ({ cls := "TrunkDuel", name := "regionCount", desc := "()I" } : Jvm.MethodName)) ∈ gw := gwt 898 (by decide +kernel) rfl
theorem kw_899 : (Jvm.Cond.selects "TrunkDuel" ({ cls := "TrunkDuel", name := "regionCount", desc := "()I" } : Jvm.MethodName) ({ cls := "TrunkDuel", name := "regionCount", desc := "()I" } : Jvm.MethodName)) ∈ gw := gwt 899 (by decide +kernel) rfl
theorem kw_900 : (Jvm.Cond.code ({ cls := "TrunkDuel", name := "regionCount", desc := "()I" } : Jvm.MethodName) prog_1_method_49_code (1 : Nat) (Option.some Jvm.ClassFile.FieldType.int)) ∈ gw := gwt 900 (by decide +kernel) rfl
theorem kw_1928 : (Jvm.Cond.methodLink "TrunkDuelLaw" (291 : Nat) ({ cls := "TrunkDuelModel", name := "regionCount", desc := "()I" } : Jvm.MethodName)) ∈ gw := gwt 1928 (by decide +kernel) rfl
theorem kw_1929 : (Jvm.Cond.instanceMethod ({ cls := "TrunkDuelModel", name := "regionCount", desc := "()I" } : Jvm.MethodName)) ∈ gw := gwt 1929 (by decide +kernel) rfl
theorem kw_1930 : (Jvm.Cond.selects "TrunkDuelModel" ({ cls := "TrunkDuelModel", name := "regionCount", desc := "()I" } : Jvm.MethodName) ({ cls := "TrunkDuelModel", name := "regionCount", desc := "()I" } : Jvm.MethodName)) ∈ gw := gwt 1930 (by decide +kernel) rfl
theorem kw_1931 : (Jvm.Cond.code ({ cls := "TrunkDuelModel", name := "regionCount", desc := "()I" } : Jvm.MethodName) prog_13_method_122_code (1 : Nat) (Option.some Jvm.ClassFile.FieldType.int)) ∈ gw := gwt 1931 (by decide +kernel) rfl
theorem kw_915 : (Jvm.Cond.methodLink "TrunkDuelLaw" (292 : Nat) ({ cls := "TrunkDuel", name := "largestRegion", desc := "()I" } : Jvm.MethodName)) ∈ gw := gwt 915 (by decide +kernel) rfl
theorem kw_916 : (Jvm.Cond.instanceMethod ({ cls := "TrunkDuel", name := "largestRegion", desc := "()I" } : Jvm.MethodName)) ∈ gw := gwt 916 (by decide +kernel) rfl
theorem kw_917 : (Jvm.Cond.selects "TrunkDuel" ({ cls := "TrunkDuel", name := "largestRegion", desc := "()I" } : Jvm.MethodName) ({ cls := "TrunkDuel", name := "largestRegion", desc := "()I" } : Jvm.MethodName)) ∈ gw := gwt 917 (by decide +kernel) rfl
theorem kw_918 : (Jvm.Cond.code ({ cls := "TrunkDuel", name := "largestRegion", desc := "()I" } : Jvm.MethodName) prog_1_method_50_code (3 : Nat) (Option.some Jvm.ClassFile.FieldType.int)) ∈ gw := gwt 918 (by decide +kernel) rfl
theorem kw_1948 : (Jvm.Cond.methodLink "TrunkDuelLaw" (295 : Nat) ({ cls := "TrunkDuelModel", name := "largestRegion", desc := "()I" } : Jvm.MethodName)) ∈ gw := gwt 1948 (by decide +kernel) rfl
theorem kw_1949 : (Jvm.Cond.instanceMethod ({ cls := "TrunkDuelModel", name := "largestRegion", desc := "()I" } : Jvm.MethodName)) ∈ gw := gwt 1949 (by decide +kernel) rfl
theorem kw_1950 : (Jvm.Cond.selects "TrunkDuelModel" ({ cls := "TrunkDuelModel", name := "largestRegion", desc := "()I" } : Jvm.MethodName) ({ cls := "TrunkDuelModel", name := "largestRegion", desc := "()I" } : Jvm.MethodName)) ∈ gw := gwt 1950 (by decide +kernel) rfl
theorem kw_1951 : (Jvm.Cond.code ({ cls := "TrunkDuelModel", name := "largestRegion", desc := "()I" } : Jvm.MethodName) prog_13_method_123_code (4 : Nat) (Option.some Jvm.ClassFile.FieldType.int)) ∈ gw := gwt 1951 (by decide +kernel) rfl
theorem kw_1352 : (Jvm.Cond.methodLink "TrunkDuelLaw" (296 : Nat) ({ cls := "TrunkDuelLaw", name := "regionSize", desc := "(LTrunkDuel;II[J)I" } : Jvm.MethodName)) ∈ gw := gwt 1352 (by decide +kernel) rfl
theorem kw_1354 : (Jvm.Cond.codeWith ({ cls := "TrunkDuelLaw", name := "regionSize", desc := "(LTrunkDuel;II[J)I" } : Jvm.MethodName) method_30_code (5 : Nat) (Option.some Jvm.ClassFile.FieldType.int) [((0 : Nat), (10 : Nat), (13 : Nat), (19 : Nat))]) ∈ gw := gwt 1354 (by decide +kernel) rfl
theorem kw_1353 : (Jvm.Cond.static ({ cls := "TrunkDuelLaw", name := "regionSize", desc := "(LTrunkDuel;II[J)I" } : Jvm.MethodName)) ∈ gw := gwt 1353 (by decide +kernel) rfl
theorem kw_1956 : (Jvm.Cond.methodLink "TrunkDuelLaw" (298 : Nat) ({ cls := "TrunkDuelModel", name := "regionSize", desc := "(II)I" } : Jvm.MethodName)) ∈ gw := gwt 1956 (by decide +kernel) rfl
theorem kw_1957 : (Jvm.Cond.instanceMethod ({ cls := "TrunkDuelModel", name := "regionSize", desc := "(II)I" } : Jvm.MethodName)) ∈ gw := gwt 1957 (by decide +kernel) rfl
theorem kw_1958 : (Jvm.Cond.selects "TrunkDuelModel" ({ cls := "TrunkDuelModel", name := "regionSize", desc := "(II)I" } : Jvm.MethodName) ({ cls := "TrunkDuelModel", name := "regionSize", desc := "(II)I" } : Jvm.MethodName)) ∈ gw := gwt 1958 (by decide +kernel) rfl
theorem kw_1959 : (Jvm.Cond.code ({ cls := "TrunkDuelModel", name := "regionSize", desc := "(II)I" } : Jvm.MethodName) prog_13_method_124_code (3 : Nat) (Option.some Jvm.ClassFile.FieldType.int)) ∈ gw := gwt 1959 (by decide +kernel) rfl
theorem kw_1364 : (Jvm.Cond.methodLink "TrunkDuelLaw" (299 : Nat) ({ cls := "TrunkDuelLaw", name := "isDead", desc := "(LTrunkDuel;II[J)I" } : Jvm.MethodName)) ∈ gw := gwt 1364 (by decide +kernel) rfl
theorem kw_1366 : (Jvm.Cond.codeWith ({ cls := "TrunkDuelLaw", name := "isDead", desc := "(LTrunkDuel;II[J)I" } : Jvm.MethodName) method_31_code (5 : Nat) (Option.some Jvm.ClassFile.FieldType.int) [((0 : Nat), (17 : Nat), (20 : Nat), (19 : Nat))]) ∈ gw := gwt 1366 (by decide +kernel) rfl
theorem kw_1365 : (Jvm.Cond.static ({ cls := "TrunkDuelLaw", name := "isDead", desc := "(LTrunkDuel;II[J)I" } : Jvm.MethodName)) ∈ gw := gwt 1365 (by decide +kernel) rfl
theorem kw_1960 : (Jvm.Cond.methodLink "TrunkDuelLaw" (301 : Nat) ({ cls := "TrunkDuelModel", name := "isDead", desc := "(II)Z" } : Jvm.MethodName)) ∈ gw := gwt 1960 (by decide +kernel) rfl
theorem kw_1961 : (Jvm.Cond.instanceMethod ({ cls := "TrunkDuelModel", name := "isDead", desc := "(II)Z" } : Jvm.MethodName)) ∈ gw := gwt 1961 (by decide +kernel) rfl
theorem kw_1962 : (Jvm.Cond.selects "TrunkDuelModel" ({ cls := "TrunkDuelModel", name := "isDead", desc := "(II)Z" } : Jvm.MethodName) ({ cls := "TrunkDuelModel", name := "isDead", desc := "(II)Z" } : Jvm.MethodName)) ∈ gw := gwt 1962 (by decide +kernel) rfl
theorem kw_1963 : (Jvm.Cond.code ({ cls := "TrunkDuelModel", name := "isDead", desc := "(II)Z" } : Jvm.MethodName) prog_13_method_127_code (3 : Nat) (Option.some Jvm.ClassFile.FieldType.boolean)) ∈ gw := gwt 1963 (by decide +kernel) rfl
theorem kw_924 : (Jvm.Cond.methodLink "TrunkDuelLaw" (302 : Nat) ({ cls := "TrunkDuel", name := "deadCells", desc := "()I" } : Jvm.MethodName)) ∈ gw := gwt 924 (by decide +kernel) rfl
theorem kw_925 : (Jvm.Cond.instanceMethod ({ cls := "TrunkDuel", name := "deadCells", desc := "()I" } : Jvm.MethodName)) ∈ gw := gwt 925 (by decide +kernel) rfl
theorem kw_926 : (Jvm.Cond.selects "TrunkDuel" ({ cls := "TrunkDuel", name := "deadCells", desc := "()I" } : Jvm.MethodName) ({ cls := "TrunkDuel", name := "deadCells", desc := "()I" } : Jvm.MethodName)) ∈ gw := gwt 926 (by decide +kernel) rfl
theorem kw_927 : (Jvm.Cond.code ({ cls := "TrunkDuel", name := "deadCells", desc := "()I" } : Jvm.MethodName) prog_1_method_53_code (3 : Nat) (Option.some Jvm.ClassFile.FieldType.int)) ∈ gw := gwt 927 (by decide +kernel) rfl
theorem kw_1972 : (Jvm.Cond.methodLink "TrunkDuelLaw" (305 : Nat) ({ cls := "TrunkDuelModel", name := "deadCells", desc := "()I" } : Jvm.MethodName)) ∈ gw := gwt 1972 (by decide +kernel) rfl
theorem kw_1973 : (Jvm.Cond.instanceMethod ({ cls := "TrunkDuelModel", name := "deadCells", desc := "()I" } : Jvm.MethodName)) ∈ gw := gwt 1973 (by decide +kernel) rfl
theorem kw_1974 : (Jvm.Cond.selects "TrunkDuelModel" ({ cls := "TrunkDuelModel", name := "deadCells", desc := "()I" } : Jvm.MethodName) ({ cls := "TrunkDuelModel", name := "deadCells", desc := "()I" } : Jvm.MethodName)) ∈ gw := gwt 1974 (by decide +kernel) rfl
theorem kw_1975 : (Jvm.Cond.code ({ cls := "TrunkDuelModel", name := "deadCells", desc := "()I" } : Jvm.MethodName) prog_13_method_128_code (4 : Nat) (Option.some Jvm.ClassFile.FieldType.int)) ∈ gw := gwt 1975 (by decide +kernel) rfl
theorem kw_928 : (Jvm.Cond.methodLink "TrunkDuelLaw" (306 : Nat) ({ cls := "TrunkDuel", name := "inconsistencies", desc := "()I" } : Jvm.MethodName)) ∈ gw := gwt 928 (by decide +kernel) rfl
theorem kw_929 : (Jvm.Cond.instanceMethod ({ cls := "TrunkDuel", name := "inconsistencies", desc := "()I" } : Jvm.MethodName)) ∈ gw := gwt 929 (by decide +kernel) rfl
theorem kw_930 : (Jvm.Cond.selects "TrunkDuel" ({ cls := "TrunkDuel", name := "inconsistencies", desc := "()I" } : Jvm.MethodName) ({ cls := "TrunkDuel", name := "inconsistencies", desc := "()I" } : Jvm.MethodName)) ∈ gw := gwt 930 (by decide +kernel) rfl
theorem kw_931 : (Jvm.Cond.code ({ cls := "TrunkDuel", name := "inconsistencies", desc := "()I" } : Jvm.MethodName) prog_1_method_54_code (6 : Nat) (Option.some Jvm.ClassFile.FieldType.int)) ∈ gw := gwt 931 (by decide +kernel) rfl
theorem kw_1976 : (Jvm.Cond.methodLink "TrunkDuelLaw" (309 : Nat) ({ cls := "TrunkDuelModel", name := "inconsistencies", desc := "()I" } : Jvm.MethodName)) ∈ gw := gwt 1976 (by decide +kernel) rfl
theorem kw_1977 : (Jvm.Cond.instanceMethod ({ cls := "TrunkDuelModel", name := "inconsistencies", desc := "()I" } : Jvm.MethodName)) ∈ gw := gwt 1977 (by decide +kernel) rfl
theorem kw_1978 : (Jvm.Cond.selects "TrunkDuelModel" ({ cls := "TrunkDuelModel", name := "inconsistencies", desc := "()I" } : Jvm.MethodName) ({ cls := "TrunkDuelModel", name := "inconsistencies", desc := "()I" } : Jvm.MethodName)) ∈ gw := gwt 1978 (by decide +kernel) rfl
theorem kw_1979 : (Jvm.Cond.code ({ cls := "TrunkDuelModel", name := "inconsistencies", desc := "()I" } : Jvm.MethodName) prog_13_method_130_code (4 : Nat) (Option.some Jvm.ClassFile.FieldType.int)) ∈ gw := gwt 1979 (by decide +kernel) rfl
theorem kw_965 : (Jvm.Cond.methodLink "TrunkDuelLaw" (310 : Nat) ({ cls := "TrunkDuel", name := "coverage", desc := "()D" } : Jvm.MethodName)) ∈ gw := gwt 965 (by decide +kernel) rfl
theorem kw_966 : (Jvm.Cond.instanceMethod ({ cls := "TrunkDuel", name := "coverage", desc := "()D" } : Jvm.MethodName)) ∈ gw := gwt 966 (by decide +kernel) rfl
theorem kw_967 : (Jvm.Cond.selects "TrunkDuel" ({ cls := "TrunkDuel", name := "coverage", desc := "()D" } : Jvm.MethodName) ({ cls := "TrunkDuel", name := "coverage", desc := "()D" } : Jvm.MethodName)) ∈ gw := gwt 967 (by decide +kernel) rfl
theorem kw_968 : (Jvm.Cond.code ({ cls := "TrunkDuel", name := "coverage", desc := "()D" } : Jvm.MethodName) prog_1_method_55_code (3 : Nat) (Option.some Jvm.ClassFile.FieldType.double)) ∈ gw := gwt 968 (by decide +kernel) rfl
theorem kw_1988 : (Jvm.Cond.methodLink "TrunkDuelLaw" (314 : Nat) ({ cls := "TrunkDuelModel", name := "coverage", desc := "()D" } : Jvm.MethodName)) ∈ gw := gwt 1988 (by decide +kernel) rfl
theorem kw_1989 : (Jvm.Cond.instanceMethod ({ cls := "TrunkDuelModel", name := "coverage", desc := "()D" } : Jvm.MethodName)) ∈ gw := gwt 1989 (by decide +kernel) rfl
theorem kw_1990 : (Jvm.Cond.selects "TrunkDuelModel" ({ cls := "TrunkDuelModel", name := "coverage", desc := "()D" } : Jvm.MethodName) ({ cls := "TrunkDuelModel", name := "coverage", desc := "()D" } : Jvm.MethodName)) ∈ gw := gwt 1990 (by decide +kernel) rfl
theorem kw_1991 : (Jvm.Cond.code ({ cls := "TrunkDuelModel", name := "coverage", desc := "()D" } : Jvm.MethodName) prog_13_method_131_code (2 : Nat) (Option.some Jvm.ClassFile.FieldType.double)) ∈ gw := gwt 1991 (by decide +kernel) rfl
theorem kw_969 : (Jvm.Cond.methodLink "TrunkDuelLaw" (315 : Nat) ({ cls := "TrunkDuel", name := "meanRegion", desc := "()F" } : Jvm.MethodName)) ∈ gw := gwt 969 (by decide +kernel) rfl
theorem kw_970 : (Jvm.Cond.instanceMethod ({ cls := "TrunkDuel", name := "meanRegion", desc := "()F" } : Jvm.MethodName)) ∈ gw := gwt 970 (by decide +kernel) rfl
theorem kw_971 : (Jvm.Cond.selects "TrunkDuel" ({ cls := "TrunkDuel", name := "meanRegion", desc := "()F" } : Jvm.MethodName) ({ cls := "TrunkDuel", name := "meanRegion", desc := "()F" } : Jvm.MethodName)) ∈ gw := gwt 971 (by decide +kernel) rfl
theorem kw_972 : (Jvm.Cond.code ({ cls := "TrunkDuel", name := "meanRegion", desc := "()F" } : Jvm.MethodName) prog_1_method_56_code (1 : Nat) (Option.some Jvm.ClassFile.FieldType.float)) ∈ gw := gwt 972 (by decide +kernel) rfl
theorem kw_1992 : (Jvm.Cond.methodLink "TrunkDuelLaw" (319 : Nat) ({ cls := "TrunkDuelModel", name := "meanRegion", desc := "()F" } : Jvm.MethodName)) ∈ gw := gwt 1992 (by decide +kernel) rfl
theorem kw_1993 : (Jvm.Cond.instanceMethod ({ cls := "TrunkDuelModel", name := "meanRegion", desc := "()F" } : Jvm.MethodName)) ∈ gw := gwt 1993 (by decide +kernel) rfl
theorem kw_1994 : (Jvm.Cond.selects "TrunkDuelModel" ({ cls := "TrunkDuelModel", name := "meanRegion", desc := "()F" } : Jvm.MethodName) ({ cls := "TrunkDuelModel", name := "meanRegion", desc := "()F" } : Jvm.MethodName)) ∈ gw := gwt 1994 (by decide +kernel) rfl
theorem kw_1995 : (Jvm.Cond.code ({ cls := "TrunkDuelModel", name := "meanRegion", desc := "()F" } : Jvm.MethodName) prog_13_method_132_code (2 : Nat) (Option.some Jvm.ClassFile.FieldType.float)) ∈ gw := gwt 1995 (by decide +kernel) rfl
theorem kw_973 : (Jvm.Cond.methodLink "TrunkDuelLaw" (320 : Nat) ({ cls := "TrunkDuel", name := "writeTrunk", desc := "()I" } : Jvm.MethodName)) ∈ gw := gwt 973 (by decide +kernel) rfl
theorem kw_974 : (Jvm.Cond.instanceMethod ({ cls := "TrunkDuel", name := "writeTrunk", desc := "()I" } : Jvm.MethodName)) ∈ gw := gwt 974 (by decide +kernel) rfl
theorem kw_975 : (Jvm.Cond.selects "TrunkDuel" ({ cls := "TrunkDuel", name := "writeTrunk", desc := "()I" } : Jvm.MethodName) ({ cls := "TrunkDuel", name := "writeTrunk", desc := "()I" } : Jvm.MethodName)) ∈ gw := gwt 975 (by decide +kernel) rfl
theorem kw_976 : (Jvm.Cond.code ({ cls := "TrunkDuel", name := "writeTrunk", desc := "()I" } : Jvm.MethodName) prog_1_method_57_code (3 : Nat) (Option.some Jvm.ClassFile.FieldType.int)) ∈ gw := gwt 976 (by decide +kernel) rfl
theorem kw_1996 : (Jvm.Cond.methodLink "TrunkDuelLaw" (323 : Nat) ({ cls := "TrunkDuelModel", name := "writeTrunk", desc := "()I" } : Jvm.MethodName)) ∈ gw := gwt 1996 (by decide +kernel) rfl
theorem kw_1997 : (Jvm.Cond.instanceMethod ({ cls := "TrunkDuelModel", name := "writeTrunk", desc := "()I" } : Jvm.MethodName)) ∈ gw := gwt 1997 (by decide +kernel) rfl
theorem kw_1998 : (Jvm.Cond.selects "TrunkDuelModel" ({ cls := "TrunkDuelModel", name := "writeTrunk", desc := "()I" } : Jvm.MethodName) ({ cls := "TrunkDuelModel", name := "writeTrunk", desc := "()I" } : Jvm.MethodName)) ∈ gw := gwt 1998 (by decide +kernel) rfl
theorem kw_1999 : (Jvm.Cond.code ({ cls := "TrunkDuelModel", name := "writeTrunk", desc := "()I" } : Jvm.MethodName) prog_13_method_134_code (4 : Nat) (Option.some Jvm.ClassFile.FieldType.int)) ∈ gw := gwt 1999 (by decide +kernel) rfl
theorem kw_985 : (Jvm.Cond.methodLink "TrunkDuelLaw" (324 : Nat) ({ cls := "TrunkDuel", name := "outputByte", desc := "(I)I" } : Jvm.MethodName)) ∈ gw := gwt 985 (by decide +kernel) rfl
theorem kw_986 : (Jvm.Cond.instanceMethod ({ cls := "TrunkDuel", name := "outputByte", desc := "(I)I" } : Jvm.MethodName)) ∈ gw := gwt 986 (by decide +kernel) rfl
theorem kw_987 : (Jvm.Cond.selects "TrunkDuel" ({ cls := "TrunkDuel", name := "outputByte", desc := "(I)I" } : Jvm.MethodName) ({ cls := "TrunkDuel", name := "outputByte", desc := "(I)I" } : Jvm.MethodName)) ∈ gw := gwt 987 (by decide +kernel) rfl
theorem kw_988 : (Jvm.Cond.code ({ cls := "TrunkDuel", name := "outputByte", desc := "(I)I" } : Jvm.MethodName) prog_1_method_58_code (2 : Nat) (Option.some Jvm.ClassFile.FieldType.int)) ∈ gw := gwt 988 (by decide +kernel) rfl
theorem kw_2004 : (Jvm.Cond.methodLink "TrunkDuelLaw" (327 : Nat) ({ cls := "TrunkDuelModel", name := "outputByte", desc := "(I)I" } : Jvm.MethodName)) ∈ gw := gwt 2004 (by decide +kernel) rfl
theorem kw_2005 : (Jvm.Cond.instanceMethod ({ cls := "TrunkDuelModel", name := "outputByte", desc := "(I)I" } : Jvm.MethodName)) ∈ gw := gwt 2005 (by decide +kernel) rfl
theorem kw_2006 : (Jvm.Cond.selects "TrunkDuelModel" ({ cls := "TrunkDuelModel", name := "outputByte", desc := "(I)I" } : Jvm.MethodName) ({ cls := "TrunkDuelModel", name := "outputByte", desc := "(I)I" } : Jvm.MethodName)) ∈ gw := gwt 2006 (by decide +kernel) rfl
theorem kw_2007 : (Jvm.Cond.code ({ cls := "TrunkDuelModel", name := "outputByte", desc := "(I)I" } : Jvm.MethodName) prog_13_method_135_code (2 : Nat) (Option.some Jvm.ClassFile.FieldType.int)) ∈ gw := gwt 2007 (by decide +kernel) rfl
theorem kw_421 : (Jvm.Cond.static ({ cls := "java/lang/Math", name := "min", desc := "(II)I" } : Jvm.MethodName)) ∈ gw := gwt 421 (by decide +kernel) rfl
theorem kw_895 : (Jvm.Cond.static ({ cls := "java/lang/Math", name := "max", desc := "(II)I" } : Jvm.MethodName)) ∈ gw := gwt 895 (by decide +kernel) rfl
theorem kw_569 : (Jvm.Cond.static ({ cls := "java/lang/Math", name := "abs", desc := "(I)I" } : Jvm.MethodName)) ∈ gw := gwt 569 (by decide +kernel) rfl
theorem kw_16 : (Jvm.Cond.initialized "java/lang/Math") ∈ gw := gwt 16 (by decide +kernel) rfl
theorem kw_422 : (Jvm.Cond.code ({ cls := "java/lang/Math", name := "min", desc := "(II)I" } : Jvm.MethodName) prog_18_method_69_code (2 : Nat) (Option.some Jvm.ClassFile.FieldType.int)) ∈ gw := gwt 422 (by decide +kernel) rfl
theorem kw_896 : (Jvm.Cond.code ({ cls := "java/lang/Math", name := "max", desc := "(II)I" } : Jvm.MethodName) prog_18_method_65_code (2 : Nat) (Option.some Jvm.ClassFile.FieldType.int)) ∈ gw := gwt 896 (by decide +kernel) rfl
theorem kw_570 : (Jvm.Cond.code ({ cls := "java/lang/Math", name := "abs", desc := "(I)I" } : Jvm.MethodName) prog_18_method_59_code (1 : Nat) (Option.some Jvm.ClassFile.FieldType.int)) ∈ gw := gwt 570 (by decide +kernel) rfl
theorem kw_695 : (Jvm.Cond.native ({ cls := "java/lang/System", name := "arraycopy", desc := "(Ljava/lang/Object;ILjava/lang/Object;II)V" } : Jvm.MethodName)) ∈ gw := gwt 695 (by decide +kernel) rfl
theorem kw_694 : (Jvm.Cond.static ({ cls := "java/lang/System", name := "arraycopy", desc := "(Ljava/lang/Object;ILjava/lang/Object;II)V" } : Jvm.MethodName)) ∈ gw := gwt 694 (by decide +kernel) rfl
theorem kw_17 : (Jvm.Cond.initialized "java/lang/System") ∈ gw := gwt 17 (by decide +kernel) rfl
theorem kw_31 : (Jvm.Cond.instanceMethod ({ cls := "java/lang/Object", name := "<init>", desc := "()V" } : Jvm.MethodName)) ∈ gw := gwt 31 (by decide +kernel) rfl
theorem kw_32 : (Jvm.Cond.code ({ cls := "java/lang/Object", name := "<init>", desc := "()V" } : Jvm.MethodName) object_method_1_code (1 : Nat) (Option.none : Option Jvm.ClassFile.FieldType)) ∈ gw := gwt 32 (by decide +kernel) rfl
theorem kw_349 : (Jvm.Cond.instanceMethod ({ cls := "java/lang/String", name := "length", desc := "()I" } : Jvm.MethodName)) ∈ gw := gwt 349 (by decide +kernel) rfl
theorem kw_350 : (Jvm.Cond.selects "java/lang/String" ({ cls := "java/lang/String", name := "length", desc := "()I" } : Jvm.MethodName) ({ cls := "java/lang/String", name := "length", desc := "()I" } : Jvm.MethodName)) ∈ gw := gwt 350 (by decide +kernel) rfl
theorem kw_12 : (Jvm.Cond.initialized "java/lang/String") ∈ gw := gwt 12 (by decide +kernel) rfl
theorem kw_351 : (Jvm.Cond.code ({ cls := "java/lang/String", name := "length", desc := "()I" } : Jvm.MethodName) prog_20_method_54_code (1 : Nat) (Option.some Jvm.ClassFile.FieldType.int)) ∈ gw := gwt 351 (by decide +kernel) rfl
theorem kw_359 : (Jvm.Cond.instanceMethod ({ cls := "java/lang/String", name := "charAt", desc := "(I)C" } : Jvm.MethodName)) ∈ gw := gwt 359 (by decide +kernel) rfl
theorem kw_360 : (Jvm.Cond.selects "java/lang/String" ({ cls := "java/lang/String", name := "charAt", desc := "(I)C" } : Jvm.MethodName) ({ cls := "java/lang/String", name := "charAt", desc := "(I)C" } : Jvm.MethodName)) ∈ gw := gwt 360 (by decide +kernel) rfl
theorem kw_361 : (Jvm.Cond.code ({ cls := "java/lang/String", name := "charAt", desc := "(I)C" } : Jvm.MethodName) prog_20_method_56_code (2 : Nat) (Option.some Jvm.ClassFile.FieldType.char)) ∈ gw := gwt 361 (by decide +kernel) rfl
theorem kw_299 : (Jvm.Cond.lays "TrunkDuel$Choice" "TrunkDuel$Choice" "shape" "I") ∈ gw := gwt 299 (by decide +kernel) rfl
theorem kw_301 : (Jvm.Cond.lays "TrunkDuel$Choice" "TrunkDuel$Choice" "rotation" "I") ∈ gw := gwt 301 (by decide +kernel) rfl
theorem kw_303 : (Jvm.Cond.lays "TrunkDuel$Choice" "TrunkDuel$Choice" "column" "I") ∈ gw := gwt 303 (by decide +kernel) rfl
theorem kw_305 : (Jvm.Cond.lays "TrunkDuel$Choice" "TrunkDuel$Choice" "row" "I") ∈ gw := gwt 305 (by decide +kernel) rfl
theorem kw_307 : (Jvm.Cond.lays "TrunkDuel$Choice" "TrunkDuel$Choice" "points" "I") ∈ gw := gwt 307 (by decide +kernel) rfl
theorem kw_317 : (Jvm.Cond.laysFinal "TrunkDuel$Crossings" "TrunkDuel$Crossings" "counts" "[I") ∈ gw := gwt 317 (by decide +kernel) rfl
theorem kw_189 : (Jvm.Cond.lays "TrunkDuel$Footprint" "TrunkDuel$Footprint" "shape" "I") ∈ gw := gwt 189 (by decide +kernel) rfl
theorem kw_191 : (Jvm.Cond.lays "TrunkDuel$Footprint" "TrunkDuel$Footprint" "rotation" "I") ∈ gw := gwt 191 (by decide +kernel) rfl
theorem kw_193 : (Jvm.Cond.lays "TrunkDuel$Footprint" "TrunkDuel$Footprint" "column" "I") ∈ gw := gwt 193 (by decide +kernel) rfl
theorem kw_195 : (Jvm.Cond.lays "TrunkDuel$Footprint" "TrunkDuel$Footprint" "row" "I") ∈ gw := gwt 195 (by decide +kernel) rfl
theorem kw_197 : (Jvm.Cond.lays "TrunkDuel$Footprint" "TrunkDuel$Footprint" "size" "I") ∈ gw := gwt 197 (by decide +kernel) rfl
theorem kw_199 : (Jvm.Cond.lays "TrunkDuel$Footprint" "TrunkDuel$Footprint" "edges" "I") ∈ gw := gwt 199 (by decide +kernel) rfl
theorem kw_201 : (Jvm.Cond.laysFinal "TrunkDuel$Footprint" "TrunkDuel$Footprint" "right" "[I") ∈ gw := gwt 201 (by decide +kernel) rfl
theorem kw_203 : (Jvm.Cond.laysFinal "TrunkDuel$Footprint" "TrunkDuel$Footprint" "down" "[I") ∈ gw := gwt 203 (by decide +kernel) rfl
theorem kw_205 : (Jvm.Cond.laysFinal "TrunkDuel$Footprint" "TrunkDuel$Footprint" "edgeRight" "[I") ∈ gw := gwt 205 (by decide +kernel) rfl
theorem kw_207 : (Jvm.Cond.laysFinal "TrunkDuel$Footprint" "TrunkDuel$Footprint" "edgeDown" "[I") ∈ gw := gwt 207 (by decide +kernel) rfl
theorem kw_209 : (Jvm.Cond.laysFinal "TrunkDuel$Footprint" "TrunkDuel$Footprint" "edgeSide" "[I") ∈ gw := gwt 209 (by decide +kernel) rfl
theorem kw_275 : (Jvm.Cond.lays "TrunkDuel$History" "TrunkDuel$History" "count" "I") ∈ gw := gwt 275 (by decide +kernel) rfl
theorem kw_277 : (Jvm.Cond.lays "TrunkDuel$History" "TrunkDuel$History" "oldest" "I") ∈ gw := gwt 277 (by decide +kernel) rfl
theorem kw_279 : (Jvm.Cond.laysFinal "TrunkDuel$History" "TrunkDuel$History" "states" "[LTrunkDuel$State;") ∈ gw := gwt 279 (by decide +kernel) rfl
theorem kw_87 : (Jvm.Cond.lays "TrunkDuel$Pieces" "TrunkDuel$Pieces" "count" "I") ∈ gw := gwt 87 (by decide +kernel) rfl
theorem kw_89 : (Jvm.Cond.laysFinal "TrunkDuel$Pieces" "TrunkDuel$Pieces" "shapes" "[I") ∈ gw := gwt 89 (by decide +kernel) rfl
theorem kw_91 : (Jvm.Cond.laysFinal "TrunkDuel$Pieces" "TrunkDuel$Pieces" "rotations" "[I") ∈ gw := gwt 91 (by decide +kernel) rfl
theorem kw_93 : (Jvm.Cond.laysFinal "TrunkDuel$Pieces" "TrunkDuel$Pieces" "anchorColumns" "[I") ∈ gw := gwt 93 (by decide +kernel) rfl
theorem kw_95 : (Jvm.Cond.laysFinal "TrunkDuel$Pieces" "TrunkDuel$Pieces" "anchorRows" "[I") ∈ gw := gwt 95 (by decide +kernel) rfl
theorem kw_97 : (Jvm.Cond.laysFinal "TrunkDuel$Pieces" "TrunkDuel$Pieces" "owners" "[I") ∈ gw := gwt 97 (by decide +kernel) rfl
theorem kw_99 : (Jvm.Cond.laysFinal "TrunkDuel$Pieces" "TrunkDuel$Pieces" "points" "[I") ∈ gw := gwt 99 (by decide +kernel) rfl
theorem kw_118 : (Jvm.Cond.lays "TrunkDuel$Player" "TrunkDuel$Player" "score" "I") ∈ gw := gwt 118 (by decide +kernel) rfl
theorem kw_120 : (Jvm.Cond.lays "TrunkDuel$Player" "TrunkDuel$Player" "straps" "I") ∈ gw := gwt 120 (by decide +kernel) rfl
theorem kw_122 : (Jvm.Cond.lays "TrunkDuel$Player" "TrunkDuel$Player" "nameLength" "I") ∈ gw := gwt 122 (by decide +kernel) rfl
theorem kw_124 : (Jvm.Cond.laysFinal "TrunkDuel$Player" "TrunkDuel$Player" "name" "[I") ∈ gw := gwt 124 (by decide +kernel) rfl
theorem kw_126 : (Jvm.Cond.laysFinal "TrunkDuel$Player" "TrunkDuel$Player" "supplies" "[I") ∈ gw := gwt 126 (by decide +kernel) rfl
theorem kw_231 : (Jvm.Cond.lays "TrunkDuel$Reader" "TrunkDuel$Reader" "length" "I") ∈ gw := gwt 231 (by decide +kernel) rfl
theorem kw_233 : (Jvm.Cond.lays "TrunkDuel$Reader" "TrunkDuel$Reader" "errorCode" "I") ∈ gw := gwt 233 (by decide +kernel) rfl
theorem kw_235 : (Jvm.Cond.lays "TrunkDuel$Reader" "TrunkDuel$Reader" "errorOffset" "I") ∈ gw := gwt 235 (by decide +kernel) rfl
theorem kw_237 : (Jvm.Cond.lays "TrunkDuel$Reader" "TrunkDuel$Reader" "commands" "I") ∈ gw := gwt 237 (by decide +kernel) rfl
theorem kw_239 : (Jvm.Cond.laysFinal "TrunkDuel$Reader" "TrunkDuel$Reader" "draft" "LTrunkDuel$State;") ∈ gw := gwt 239 (by decide +kernel) rfl
theorem kw_241 : (Jvm.Cond.laysFinal "TrunkDuel$Reader" "TrunkDuel$Reader" "footprint" "LTrunkDuel$Footprint;") ∈ gw := gwt 241 (by decide +kernel) rfl
theorem kw_243 : (Jvm.Cond.laysFinal "TrunkDuel$Reader" "TrunkDuel$Reader" "bytes" "[I") ∈ gw := gwt 243 (by decide +kernel) rfl
theorem kw_245 : (Jvm.Cond.lays "TrunkDuel$Reader" "TrunkDuel$Reader" "position" "I") ∈ gw := gwt 245 (by decide +kernel) rfl
theorem kw_247 : (Jvm.Cond.lays "TrunkDuel$Reader" "TrunkDuel$Reader" "tokenKind" "I") ∈ gw := gwt 247 (by decide +kernel) rfl
theorem kw_249 : (Jvm.Cond.lays "TrunkDuel$Reader" "TrunkDuel$Reader" "tokenStart" "I") ∈ gw := gwt 249 (by decide +kernel) rfl
theorem kw_251 : (Jvm.Cond.lays "TrunkDuel$Reader" "TrunkDuel$Reader" "number" "I") ∈ gw := gwt 251 (by decide +kernel) rfl
theorem kw_253 : (Jvm.Cond.lays "TrunkDuel$Reader" "TrunkDuel$Reader" "edgeColumn" "I") ∈ gw := gwt 253 (by decide +kernel) rfl
theorem kw_255 : (Jvm.Cond.lays "TrunkDuel$Reader" "TrunkDuel$Reader" "edgeRow" "I") ∈ gw := gwt 255 (by decide +kernel) rfl
theorem kw_257 : (Jvm.Cond.lays "TrunkDuel$Reader" "TrunkDuel$Reader" "edgeSide" "I") ∈ gw := gwt 257 (by decide +kernel) rfl
theorem kw_332 : (Jvm.Cond.lays "TrunkDuel$Regions" "TrunkDuel$Regions" "count" "I") ∈ gw := gwt 332 (by decide +kernel) rfl
theorem kw_334 : (Jvm.Cond.laysFinal "TrunkDuel$Regions" "TrunkDuel$Regions" "labels" "[I") ∈ gw := gwt 334 (by decide +kernel) rfl
theorem kw_336 : (Jvm.Cond.laysFinal "TrunkDuel$Regions" "TrunkDuel$Regions" "sizes" "[I") ∈ gw := gwt 336 (by decide +kernel) rfl
theorem kw_338 : (Jvm.Cond.laysFinal "TrunkDuel$Regions" "TrunkDuel$Regions" "queue" "[I") ∈ gw := gwt 338 (by decide +kernel) rfl
theorem kw_340 : (Jvm.Cond.lays "TrunkDuel$Regions" "TrunkDuel$Regions" "queued" "I") ∈ gw := gwt 340 (by decide +kernel) rfl
theorem kw_145 : (Jvm.Cond.laysFinal "TrunkDuel$State" "TrunkDuel$State" "trunk" "LTrunkDuel$Trunk;") ∈ gw := gwt 145 (by decide +kernel) rfl
theorem kw_147 : (Jvm.Cond.laysFinal "TrunkDuel$State" "TrunkDuel$State" "pieces" "LTrunkDuel$Pieces;") ∈ gw := gwt 147 (by decide +kernel) rfl
theorem kw_149 : (Jvm.Cond.laysFinal "TrunkDuel$State" "TrunkDuel$State" "first" "LTrunkDuel$Player;") ∈ gw := gwt 149 (by decide +kernel) rfl
theorem kw_151 : (Jvm.Cond.laysFinal "TrunkDuel$State" "TrunkDuel$State" "second" "LTrunkDuel$Player;") ∈ gw := gwt 151 (by decide +kernel) rfl
theorem kw_153 : (Jvm.Cond.lays "TrunkDuel$State" "TrunkDuel$State" "mover" "I") ∈ gw := gwt 153 (by decide +kernel) rfl
theorem kw_155 : (Jvm.Cond.lays "TrunkDuel$State" "TrunkDuel$State" "passes" "I") ∈ gw := gwt 155 (by decide +kernel) rfl
theorem kw_61 : (Jvm.Cond.lays "TrunkDuel$Trunk" "TrunkDuel$Trunk" "columns" "I") ∈ gw := gwt 61 (by decide +kernel) rfl
theorem kw_63 : (Jvm.Cond.lays "TrunkDuel$Trunk" "TrunkDuel$Trunk" "rows" "I") ∈ gw := gwt 63 (by decide +kernel) rfl
theorem kw_65 : (Jvm.Cond.laysFinal "TrunkDuel$Trunk" "TrunkDuel$Trunk" "cells" "[I") ∈ gw := gwt 65 (by decide +kernel) rfl
theorem kw_67 : (Jvm.Cond.laysFinal "TrunkDuel$Trunk" "TrunkDuel$Trunk" "straps" "[Z") ∈ gw := gwt 67 (by decide +kernel) rfl
theorem kw_722 : (Jvm.Cond.laysFinal "TrunkDuel" "TrunkDuel" "reader" "LTrunkDuel$Reader;") ∈ gw := gwt 722 (by decide +kernel) rfl
theorem kw_724 : (Jvm.Cond.laysFinal "TrunkDuel" "TrunkDuel" "present" "LTrunkDuel$State;") ∈ gw := gwt 724 (by decide +kernel) rfl
theorem kw_726 : (Jvm.Cond.laysFinal "TrunkDuel" "TrunkDuel" "trial" "LTrunkDuel$State;") ∈ gw := gwt 726 (by decide +kernel) rfl
theorem kw_728 : (Jvm.Cond.laysFinal "TrunkDuel" "TrunkDuel" "history" "LTrunkDuel$History;") ∈ gw := gwt 728 (by decide +kernel) rfl
theorem kw_730 : (Jvm.Cond.laysFinal "TrunkDuel" "TrunkDuel" "saved" "[LTrunkDuel$State;") ∈ gw := gwt 730 (by decide +kernel) rfl
theorem kw_732 : (Jvm.Cond.laysFinal "TrunkDuel" "TrunkDuel" "isSaved" "[Z") ∈ gw := gwt 732 (by decide +kernel) rfl
theorem kw_734 : (Jvm.Cond.laysFinal "TrunkDuel" "TrunkDuel" "footprint" "LTrunkDuel$Footprint;") ∈ gw := gwt 734 (by decide +kernel) rfl
theorem kw_736 : (Jvm.Cond.laysFinal "TrunkDuel" "TrunkDuel" "best" "LTrunkDuel$Choice;") ∈ gw := gwt 736 (by decide +kernel) rfl
theorem kw_738 : (Jvm.Cond.laysFinal "TrunkDuel" "TrunkDuel" "crossings" "LTrunkDuel$Crossings;") ∈ gw := gwt 738 (by decide +kernel) rfl
theorem kw_740 : (Jvm.Cond.laysFinal "TrunkDuel" "TrunkDuel" "regions" "LTrunkDuel$Regions;") ∈ gw := gwt 740 (by decide +kernel) rfl
theorem kw_742 : (Jvm.Cond.laysFinal "TrunkDuel" "TrunkDuel" "output" "[I") ∈ gw := gwt 742 (by decide +kernel) rfl
theorem kw_744 : (Jvm.Cond.lays "TrunkDuel" "TrunkDuel" "outputLength" "I") ∈ gw := gwt 744 (by decide +kernel) rfl
theorem kw_1634 : (Jvm.Cond.laysFinal "TrunkDuelModel" "TrunkDuelModel" "s" "[I") ∈ gw := gwt 1634 (by decide +kernel) rfl
theorem kw_1636 : (Jvm.Cond.laysFinal "TrunkDuelModel" "TrunkDuelModel" "aside" "[I") ∈ gw := gwt 1636 (by decide +kernel) rfl
theorem kw_1638 : (Jvm.Cond.laysFinal "TrunkDuelModel" "TrunkDuelModel" "kept" "[I") ∈ gw := gwt 1638 (by decide +kernel) rfl
theorem kw_1640 : (Jvm.Cond.laysFinal "TrunkDuelModel" "TrunkDuelModel" "slots" "[I") ∈ gw := gwt 1640 (by decide +kernel) rfl
theorem kw_1642 : (Jvm.Cond.laysFinal "TrunkDuelModel" "TrunkDuelModel" "before" "[I") ∈ gw := gwt 1642 (by decide +kernel) rfl
theorem kw_1644 : (Jvm.Cond.laysFinal "TrunkDuelModel" "TrunkDuelModel" "isSaved" "[Z") ∈ gw := gwt 1644 (by decide +kernel) rfl
theorem kw_1646 : (Jvm.Cond.lays "TrunkDuelModel" "TrunkDuelModel" "changes" "I") ∈ gw := gwt 1646 (by decide +kernel) rfl
theorem kw_1648 : (Jvm.Cond.lays "TrunkDuelModel" "TrunkDuelModel" "thrown" "I") ∈ gw := gwt 1648 (by decide +kernel) rfl
theorem kw_1650 : (Jvm.Cond.laysFinal "TrunkDuelModel" "TrunkDuelModel" "input" "[I") ∈ gw := gwt 1650 (by decide +kernel) rfl
theorem kw_1652 : (Jvm.Cond.laysFinal "TrunkDuelModel" "TrunkDuelModel" "output" "[I") ∈ gw := gwt 1652 (by decide +kernel) rfl
theorem kw_1654 : (Jvm.Cond.laysFinal "TrunkDuelModel" "TrunkDuelModel" "atX" "[I") ∈ gw := gwt 1654 (by decide +kernel) rfl
theorem kw_1656 : (Jvm.Cond.laysFinal "TrunkDuelModel" "TrunkDuelModel" "atY" "[I") ∈ gw := gwt 1656 (by decide +kernel) rfl
theorem kw_1658 : (Jvm.Cond.laysFinal "TrunkDuelModel" "TrunkDuelModel" "region" "[I") ∈ gw := gwt 1658 (by decide +kernel) rfl
theorem kw_1660 : (Jvm.Cond.lays "TrunkDuelModel" "TrunkDuelModel" "inputMany" "I") ∈ gw := gwt 1660 (by decide +kernel) rfl
theorem kw_1662 : (Jvm.Cond.lays "TrunkDuelModel" "TrunkDuelModel" "outputMany" "I") ∈ gw := gwt 1662 (by decide +kernel) rfl
theorem kw_1664 : (Jvm.Cond.lays "TrunkDuelModel" "TrunkDuelModel" "errorCode" "I") ∈ gw := gwt 1664 (by decide +kernel) rfl
theorem kw_1666 : (Jvm.Cond.lays "TrunkDuelModel" "TrunkDuelModel" "errorOffset" "I") ∈ gw := gwt 1666 (by decide +kernel) rfl
theorem kw_1668 : (Jvm.Cond.lays "TrunkDuelModel" "TrunkDuelModel" "size" "I") ∈ gw := gwt 1668 (by decide +kernel) rfl
theorem kw_1670 : (Jvm.Cond.lays "TrunkDuelModel" "TrunkDuelModel" "token" "I") ∈ gw := gwt 1670 (by decide +kernel) rfl
theorem kw_1672 : (Jvm.Cond.lays "TrunkDuelModel" "TrunkDuelModel" "from" "I") ∈ gw := gwt 1672 (by decide +kernel) rfl
theorem kw_1674 : (Jvm.Cond.lays "TrunkDuelModel" "TrunkDuelModel" "to" "I") ∈ gw := gwt 1674 (by decide +kernel) rfl
theorem kw_1676 : (Jvm.Cond.lays "TrunkDuelModel" "TrunkDuelModel" "value" "I") ∈ gw := gwt 1676 (by decide +kernel) rfl
theorem kw_1678 : (Jvm.Cond.lays "TrunkDuelModel" "TrunkDuelModel" "isWrong" "Z") ∈ gw := gwt 1678 (by decide +kernel) rfl
theorem kw_1680 : (Jvm.Cond.lays "TrunkDuelModel" "TrunkDuelModel" "gave" "I") ∈ gw := gwt 1680 (by decide +kernel) rfl
theorem kw_1682 : (Jvm.Cond.lays "TrunkDuelModel" "TrunkDuelModel" "bestS" "I") ∈ gw := gwt 1682 (by decide +kernel) rfl
theorem kw_1684 : (Jvm.Cond.lays "TrunkDuelModel" "TrunkDuelModel" "bestT" "I") ∈ gw := gwt 1684 (by decide +kernel) rfl
theorem kw_1686 : (Jvm.Cond.lays "TrunkDuelModel" "TrunkDuelModel" "bestX" "I") ∈ gw := gwt 1686 (by decide +kernel) rfl
theorem kw_1688 : (Jvm.Cond.lays "TrunkDuelModel" "TrunkDuelModel" "bestY" "I") ∈ gw := gwt 1688 (by decide +kernel) rfl
theorem kw_992 : (Jvm.Cond.classLink "TrunkDuelLaw" (13 : Nat) "java/lang/IllegalArgumentException") ∈ gw := gwt 992 (by decide +kernel) rfl
theorem kw_1067 : (Jvm.Cond.classLink "TrunkDuelLaw" (19 : Nat) "java/lang/IndexOutOfBoundsException") ∈ gw := gwt 1067 (by decide +kernel) rfl
theorem kw_1068 : (Jvm.Cond.classLink "TrunkDuelLaw" (21 : Nat) "java/lang/IllegalStateException") ∈ gw := gwt 1068 (by decide +kernel) rfl
