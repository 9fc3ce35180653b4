/-! ===== the words that the tables rest on; by wip/p60/gen_facts.py ===== -/
theorem kw_290 : (Jvm.Cond.methodLink "TrunkDuel$Choice" (3 : Nat) ({ cls := "java/lang/Object", name := "<init>", desc := "()V" } : Jvm.MethodName)) ∈ gw := gwt 290 (by decide +kernel) rfl
theorem kw_291 : (Jvm.Cond.fieldLink "TrunkDuel$Choice" (9 : Nat) "TrunkDuel$Choice" "shape" "I") ∈ gw := gwt 291 (by decide +kernel) rfl
theorem kw_293 : (Jvm.Cond.fieldLink "TrunkDuel$Choice" (15 : Nat) "TrunkDuel$Choice" "rotation" "I") ∈ gw := gwt 293 (by decide +kernel) rfl
theorem kw_295 : (Jvm.Cond.fieldLink "TrunkDuel$Choice" (18 : Nat) "TrunkDuel$Choice" "column" "I") ∈ gw := gwt 295 (by decide +kernel) rfl
theorem kw_297 : (Jvm.Cond.fieldLink "TrunkDuel$Choice" (21 : Nat) "TrunkDuel$Choice" "row" "I") ∈ gw := gwt 297 (by decide +kernel) rfl
theorem kw_299 : (Jvm.Cond.fieldLink "TrunkDuel$Choice" (24 : Nat) "TrunkDuel$Choice" "points" "I") ∈ gw := gwt 299 (by decide +kernel) rfl
theorem kw_1174 : (Jvm.Cond.methodLink "TrunkDuel$Choice" (27 : Nat) ({ cls := "TrunkDuel$State", name := "isFinished", desc := "()Z" } : Jvm.MethodName)) ∈ gw := gwt 1174 (by decide +kernel) rfl
theorem kw_582 : (Jvm.Cond.instanceMethod ({ cls := "TrunkDuel$State", name := "isFinished", desc := "()Z" } : Jvm.MethodName)) ∈ gw := gwt 582 (by decide +kernel) rfl
theorem kw_583 : (Jvm.Cond.selects "TrunkDuel$State" ({ cls := "TrunkDuel$State", name := "isFinished", desc := "()Z" } : Jvm.MethodName) ({ cls := "TrunkDuel$State", name := "isFinished", desc := "()Z" } : Jvm.MethodName)) ∈ gw := gwt 583 (by decide +kernel) rfl
theorem kw_3 : (Jvm.Cond.initialized "TrunkDuel$State") ∈ gw := gwt 3 (by decide +kernel) rfl
theorem kw_584 : (Jvm.Cond.code ({ cls := "TrunkDuel$State", name := "isFinished", desc := "()Z" } : Jvm.MethodName) prog_10_method_4_code (1 : Nat) (Option.some Jvm.ClassFile.FieldType.boolean)) ∈ gw := gwt 584 (by decide +kernel) rfl
theorem kw_146 : (Jvm.Cond.fieldLink "TrunkDuel$Choice" (33 : Nat) "TrunkDuel$State" "mover" "I") ∈ gw := gwt 146 (by decide +kernel) rfl
theorem kw_1175 : (Jvm.Cond.methodLink "TrunkDuel$Choice" (36 : Nat) ({ cls := "TrunkDuel$State", name := "playerOf", desc := "(I)LTrunkDuel$Player;" } : Jvm.MethodName)) ∈ gw := gwt 1175 (by decide +kernel) rfl
theorem kw_522 : (Jvm.Cond.instanceMethod ({ cls := "TrunkDuel$State", name := "playerOf", desc := "(I)LTrunkDuel$Player;" } : Jvm.MethodName)) ∈ gw := gwt 522 (by decide +kernel) rfl
theorem kw_523 : (Jvm.Cond.selects "TrunkDuel$State" ({ cls := "TrunkDuel$State", name := "playerOf", desc := "(I)LTrunkDuel$Player;" } : Jvm.MethodName) ({ cls := "TrunkDuel$State", name := "playerOf", desc := "(I)LTrunkDuel$Player;" } : Jvm.MethodName)) ∈ gw := gwt 523 (by decide +kernel) rfl
theorem kw_524 : (Jvm.Cond.code ({ cls := "TrunkDuel$State", name := "playerOf", desc := "(I)LTrunkDuel$Player;" } : Jvm.MethodName) prog_10_method_5_code (2 : Nat) (Option.some (Jvm.ClassFile.FieldType.object "TrunkDuel$Player"))) ∈ gw := gwt 524 (by decide +kernel) rfl
theorem kw_1176 : (Jvm.Cond.methodLink "TrunkDuel$Choice" (40 : Nat) ({ cls := "TrunkDuel$Player", name := "supplyOf", desc := "(I)I" } : Jvm.MethodName)) ∈ gw := gwt 1176 (by decide +kernel) rfl
theorem kw_587 : (Jvm.Cond.instanceMethod ({ cls := "TrunkDuel$Player", name := "supplyOf", desc := "(I)I" } : Jvm.MethodName)) ∈ gw := gwt 587 (by decide +kernel) rfl
theorem kw_588 : (Jvm.Cond.selects "TrunkDuel$Player" ({ cls := "TrunkDuel$Player", name := "supplyOf", desc := "(I)I" } : Jvm.MethodName) ({ cls := "TrunkDuel$Player", name := "supplyOf", desc := "(I)I" } : Jvm.MethodName)) ∈ gw := gwt 588 (by decide +kernel) rfl
theorem kw_6 : (Jvm.Cond.initialized "TrunkDuel$Player") ∈ gw := gwt 6 (by decide +kernel) rfl
theorem kw_589 : (Jvm.Cond.code ({ cls := "TrunkDuel$Player", name := "supplyOf", desc := "(I)I" } : Jvm.MethodName) prog_7_method_7_code (2 : Nat) (Option.some Jvm.ClassFile.FieldType.int)) ∈ gw := gwt 589 (by decide +kernel) rfl
theorem kw_134 : (Jvm.Cond.fieldLink "TrunkDuel$Choice" (46 : Nat) "TrunkDuel$State" "trunk" "LTrunkDuel$Trunk;") ∈ gw := gwt 134 (by decide +kernel) rfl
theorem kw_1177 : (Jvm.Cond.methodLink "TrunkDuel$Choice" (50 : Nat) ({ cls := "TrunkDuel$Choice", name := "searchShape", desc := "(ILTrunkDuel$Trunk;LTrunkDuel$Footprint;)V" } : Jvm.MethodName)) ∈ gw := gwt 1177 (by decide +kernel) rfl
theorem kw_1179 : (Jvm.Cond.instanceMethod ({ cls := "TrunkDuel$Choice", name := "searchShape", desc := "(ILTrunkDuel$Trunk;LTrunkDuel$Footprint;)V" } : Jvm.MethodName)) ∈ gw := gwt 1179 (by decide +kernel) rfl
theorem kp_27 : (Jvm.Cond.selects "TrunkDuel$Choice" ({ cls := "TrunkDuel$Choice", name := "searchShape", desc := "(ILTrunkDuel$Trunk;LTrunkDuel$Footprint;)V" } : Jvm.MethodName) ({ cls := "TrunkDuel$Choice", name := "searchShape", desc := "(ILTrunkDuel$Trunk;LTrunkDuel$Footprint;)V" } : Jvm.MethodName)) ∈ gw := gws 27 (by decide +kernel) rfl
theorem kw_9 : (Jvm.Cond.initialized "TrunkDuel$Choice") ∈ gw := gwt 9 (by decide +kernel) rfl
theorem kw_1180 : (Jvm.Cond.code ({ cls := "TrunkDuel$Choice", name := "searchShape", desc := "(ILTrunkDuel$Trunk;LTrunkDuel$Footprint;)V" } : Jvm.MethodName) prog_2_method_3_code (5 : Nat) (Option.none : Option Jvm.ClassFile.FieldType)) ∈ gw := gwt 1180 (by decide +kernel) rfl
theorem kw_1181 : (Jvm.Cond.methodLink "TrunkDuel$Choice" (54 : Nat) ({ cls := "TrunkDuel$Footprint", name := "startAll", desc := "(I)V" } : Jvm.MethodName)) ∈ gw := gwt 1181 (by decide +kernel) rfl
theorem kw_668 : (Jvm.Cond.instanceMethod ({ cls := "TrunkDuel$Footprint", name := "startAll", desc := "(I)V" } : Jvm.MethodName)) ∈ gw := gwt 668 (by decide +kernel) rfl
theorem kw_669 : (Jvm.Cond.selects "TrunkDuel$Footprint" ({ cls := "TrunkDuel$Footprint", name := "startAll", desc := "(I)V" } : Jvm.MethodName) ({ cls := "TrunkDuel$Footprint", name := "startAll", desc := "(I)V" } : Jvm.MethodName)) ∈ gw := gwt 669 (by decide +kernel) rfl
theorem kw_7 : (Jvm.Cond.initialized "TrunkDuel$Footprint") ∈ gw := gwt 7 (by decide +kernel) rfl
theorem kw_670 : (Jvm.Cond.code ({ cls := "TrunkDuel$Footprint", name := "startAll", desc := "(I)V" } : Jvm.MethodName) prog_4_method_4_code (2 : Nat) (Option.none : Option Jvm.ClassFile.FieldType)) ∈ gw := gwt 670 (by decide +kernel) rfl
theorem kw_1182 : (Jvm.Cond.methodLink "TrunkDuel$Choice" (60 : Nat) ({ cls := "TrunkDuel$Trunk", name := "findNext", desc := "(LTrunkDuel$Footprint;)Z" } : Jvm.MethodName)) ∈ gw := gwt 1182 (by decide +kernel) rfl
theorem kw_674 : (Jvm.Cond.instanceMethod ({ cls := "TrunkDuel$Trunk", name := "findNext", desc := "(LTrunkDuel$Footprint;)Z" } : Jvm.MethodName)) ∈ gw := gwt 674 (by decide +kernel) rfl
theorem kw_675 : (Jvm.Cond.selects "TrunkDuel$Trunk" ({ cls := "TrunkDuel$Trunk", name := "findNext", desc := "(LTrunkDuel$Footprint;)Z" } : Jvm.MethodName) ({ cls := "TrunkDuel$Trunk", name := "findNext", desc := "(LTrunkDuel$Footprint;)Z" } : Jvm.MethodName)) ∈ gw := gwt 675 (by decide +kernel) rfl
theorem kw_4 : (Jvm.Cond.initialized "TrunkDuel$Trunk") ∈ gw := gwt 4 (by decide +kernel) rfl
theorem kw_676 : (Jvm.Cond.code ({ cls := "TrunkDuel$Trunk", name := "findNext", desc := "(LTrunkDuel$Footprint;)Z" } : Jvm.MethodName) prog_11_method_19_code (3 : Nat) (Option.some Jvm.ClassFile.FieldType.boolean)) ∈ gw := gwt 676 (by decide +kernel) rfl
theorem kw_1183 : (Jvm.Cond.methodLink "TrunkDuel$Choice" (66 : Nat) ({ cls := "TrunkDuel$Trunk", name := "pointsOf", desc := "(LTrunkDuel$Footprint;)I" } : Jvm.MethodName)) ∈ gw := gwt 1183 (by decide +kernel) rfl
theorem kw_624 : (Jvm.Cond.instanceMethod ({ cls := "TrunkDuel$Trunk", name := "pointsOf", desc := "(LTrunkDuel$Footprint;)I" } : Jvm.MethodName)) ∈ gw := gwt 624 (by decide +kernel) rfl
theorem kw_625 : (Jvm.Cond.selects "TrunkDuel$Trunk" ({ cls := "TrunkDuel$Trunk", name := "pointsOf", desc := "(LTrunkDuel$Footprint;)I" } : Jvm.MethodName) ({ cls := "TrunkDuel$Trunk", name := "pointsOf", desc := "(LTrunkDuel$Footprint;)I" } : Jvm.MethodName)) ∈ gw := gwt 625 (by decide +kernel) rfl
theorem kw_626 : (Jvm.Cond.code ({ cls := "TrunkDuel$Trunk", name := "pointsOf", desc := "(LTrunkDuel$Footprint;)I" } : Jvm.MethodName) prog_11_method_21_code (6 : Nat) (Option.some Jvm.ClassFile.FieldType.int)) ∈ gw := gwt 626 (by decide +kernel) rfl
theorem kw_1184 : (Jvm.Cond.methodLink "TrunkDuel$Choice" (70 : Nat) ({ cls := "TrunkDuel$Choice", name := "take", desc := "(LTrunkDuel$Footprint;I)V" } : Jvm.MethodName)) ∈ gw := gwt 1184 (by decide +kernel) rfl
theorem kw_1186 : (Jvm.Cond.instanceMethod ({ cls := "TrunkDuel$Choice", name := "take", desc := "(LTrunkDuel$Footprint;I)V" } : Jvm.MethodName)) ∈ gw := gwt 1186 (by decide +kernel) rfl
theorem kp_28 : (Jvm.Cond.selects "TrunkDuel$Choice" ({ cls := "TrunkDuel$Choice", name := "take", desc := "(LTrunkDuel$Footprint;I)V" } : Jvm.MethodName) ({ cls := "TrunkDuel$Choice", name := "take", desc := "(LTrunkDuel$Footprint;I)V" } : Jvm.MethodName)) ∈ gw := gws 28 (by decide +kernel) rfl
theorem kw_1187 : (Jvm.Cond.code ({ cls := "TrunkDuel$Choice", name := "take", desc := "(LTrunkDuel$Footprint;I)V" } : Jvm.MethodName) prog_2_method_4_code (3 : Nat) (Option.none : Option Jvm.ClassFile.FieldType)) ∈ gw := gwt 1187 (by decide +kernel) rfl
theorem kw_170 : (Jvm.Cond.fieldLink "TrunkDuel$Choice" (74 : Nat) "TrunkDuel$Footprint" "shape" "I") ∈ gw := gwt 170 (by decide +kernel) rfl
theorem kw_174 : (Jvm.Cond.fieldLink "TrunkDuel$Choice" (75 : Nat) "TrunkDuel$Footprint" "rotation" "I") ∈ gw := gwt 174 (by decide +kernel) rfl
theorem kw_177 : (Jvm.Cond.fieldLink "TrunkDuel$Choice" (76 : Nat) "TrunkDuel$Footprint" "column" "I") ∈ gw := gwt 177 (by decide +kernel) rfl
theorem kw_180 : (Jvm.Cond.fieldLink "TrunkDuel$Choice" (77 : Nat) "TrunkDuel$Footprint" "row" "I") ∈ gw := gwt 180 (by decide +kernel) rfl
theorem kw_316 : (Jvm.Cond.methodLink "TrunkDuel$Crossings" (3 : Nat) ({ cls := "java/lang/Object", name := "<init>", desc := "()V" } : Jvm.MethodName)) ∈ gw := gwt 316 (by decide +kernel) rfl
theorem kw_74 : (Jvm.Cond.arrayClass Jvm.ClassFile.FieldType.int) ∈ gw := gwt 74 (by decide +kernel) rfl
theorem kw_317 : (Jvm.Cond.fieldLink "TrunkDuel$Crossings" (9 : Nat) "TrunkDuel$Crossings" "counts" "[I") ∈ gw := gwt 317 (by decide +kernel) rfl
theorem kw_1196 : (Jvm.Cond.methodLink "TrunkDuel$Crossings" (15 : Nat) ({ cls := "TrunkDuel$Player", name := "supplyOf", desc := "(I)I" } : Jvm.MethodName)) ∈ gw := gwt 1196 (by decide +kernel) rfl
theorem kw_1197 : (Jvm.Cond.methodLink "TrunkDuel$Crossings" (21 : Nat) ({ cls := "TrunkDuel$Crossings", name := "countShape", desc := "(ILTrunkDuel$Trunk;LTrunkDuel$Footprint;)V" } : Jvm.MethodName)) ∈ gw := gwt 1197 (by decide +kernel) rfl
theorem kw_1199 : (Jvm.Cond.instanceMethod ({ cls := "TrunkDuel$Crossings", name := "countShape", desc := "(ILTrunkDuel$Trunk;LTrunkDuel$Footprint;)V" } : Jvm.MethodName)) ∈ gw := gwt 1199 (by decide +kernel) rfl
theorem kp_29 : (Jvm.Cond.selects "TrunkDuel$Crossings" ({ cls := "TrunkDuel$Crossings", name := "countShape", desc := "(ILTrunkDuel$Trunk;LTrunkDuel$Footprint;)V" } : Jvm.MethodName) ({ cls := "TrunkDuel$Crossings", name := "countShape", desc := "(ILTrunkDuel$Trunk;LTrunkDuel$Footprint;)V" } : Jvm.MethodName)) ∈ gw := gws 29 (by decide +kernel) rfl
theorem kw_10 : (Jvm.Cond.initialized "TrunkDuel$Crossings") ∈ gw := gwt 10 (by decide +kernel) rfl
theorem kw_1200 : (Jvm.Cond.code ({ cls := "TrunkDuel$Crossings", name := "countShape", desc := "(ILTrunkDuel$Trunk;LTrunkDuel$Footprint;)V" } : Jvm.MethodName) prog_3_method_3_code (8 : Nat) (Option.none : Option Jvm.ClassFile.FieldType)) ∈ gw := gwt 1200 (by decide +kernel) rfl
theorem kw_1210 : (Jvm.Cond.methodLink "TrunkDuel$Crossings" (25 : Nat) ({ cls := "java/lang/Math", name := "max", desc := "(II)I" } : Jvm.MethodName)) ∈ gw := gwt 1210 (by decide +kernel) rfl
theorem kw_1201 : (Jvm.Cond.methodLink "TrunkDuel$Crossings" (31 : Nat) ({ cls := "TrunkDuel$Footprint", name := "startAll", desc := "(I)V" } : Jvm.MethodName)) ∈ gw := gwt 1201 (by decide +kernel) rfl
theorem kw_1202 : (Jvm.Cond.methodLink "TrunkDuel$Crossings" (37 : Nat) ({ cls := "TrunkDuel$Trunk", name := "findNext", desc := "(LTrunkDuel$Footprint;)Z" } : Jvm.MethodName)) ∈ gw := gwt 1202 (by decide +kernel) rfl
theorem kw_186 : (Jvm.Cond.fieldLink "TrunkDuel$Crossings" (43 : Nat) "TrunkDuel$Footprint" "edges" "I") ∈ gw := gwt 186 (by decide +kernel) rfl
theorem kw_1203 : (Jvm.Cond.methodLink "TrunkDuel$Crossings" (47 : Nat) ({ cls := "TrunkDuel$Footprint", name := "edgeColumnOf", desc := "(I)I" } : Jvm.MethodName)) ∈ gw := gwt 1203 (by decide +kernel) rfl
theorem kw_607 : (Jvm.Cond.instanceMethod ({ cls := "TrunkDuel$Footprint", name := "edgeColumnOf", desc := "(I)I" } : Jvm.MethodName)) ∈ gw := gwt 607 (by decide +kernel) rfl
theorem kw_608 : (Jvm.Cond.selects "TrunkDuel$Footprint" ({ cls := "TrunkDuel$Footprint", name := "edgeColumnOf", desc := "(I)I" } : Jvm.MethodName) ({ cls := "TrunkDuel$Footprint", name := "edgeColumnOf", desc := "(I)I" } : Jvm.MethodName)) ∈ gw := gwt 608 (by decide +kernel) rfl
theorem kw_609 : (Jvm.Cond.code ({ cls := "TrunkDuel$Footprint", name := "edgeColumnOf", desc := "(I)I" } : Jvm.MethodName) prog_4_method_8_code (2 : Nat) (Option.some Jvm.ClassFile.FieldType.int)) ∈ gw := gwt 609 (by decide +kernel) rfl
theorem kw_1204 : (Jvm.Cond.methodLink "TrunkDuel$Crossings" (50 : Nat) ({ cls := "TrunkDuel$Footprint", name := "edgeRowOf", desc := "(I)I" } : Jvm.MethodName)) ∈ gw := gwt 1204 (by decide +kernel) rfl
theorem kw_611 : (Jvm.Cond.instanceMethod ({ cls := "TrunkDuel$Footprint", name := "edgeRowOf", desc := "(I)I" } : Jvm.MethodName)) ∈ gw := gwt 611 (by decide +kernel) rfl
theorem kw_612 : (Jvm.Cond.selects "TrunkDuel$Footprint" ({ cls := "TrunkDuel$Footprint", name := "edgeRowOf", desc := "(I)I" } : Jvm.MethodName) ({ cls := "TrunkDuel$Footprint", name := "edgeRowOf", desc := "(I)I" } : Jvm.MethodName)) ∈ gw := gwt 612 (by decide +kernel) rfl
theorem kw_613 : (Jvm.Cond.code ({ cls := "TrunkDuel$Footprint", name := "edgeRowOf", desc := "(I)I" } : Jvm.MethodName) prog_4_method_9_code (2 : Nat) (Option.some Jvm.ClassFile.FieldType.int)) ∈ gw := gwt 613 (by decide +kernel) rfl
theorem kw_1205 : (Jvm.Cond.methodLink "TrunkDuel$Crossings" (53 : Nat) ({ cls := "TrunkDuel$Footprint", name := "sideOf", desc := "(I)I" } : Jvm.MethodName)) ∈ gw := gwt 1205 (by decide +kernel) rfl
theorem kw_615 : (Jvm.Cond.instanceMethod ({ cls := "TrunkDuel$Footprint", name := "sideOf", desc := "(I)I" } : Jvm.MethodName)) ∈ gw := gwt 615 (by decide +kernel) rfl
theorem kw_616 : (Jvm.Cond.selects "TrunkDuel$Footprint" ({ cls := "TrunkDuel$Footprint", name := "sideOf", desc := "(I)I" } : Jvm.MethodName) ({ cls := "TrunkDuel$Footprint", name := "sideOf", desc := "(I)I" } : Jvm.MethodName)) ∈ gw := gwt 616 (by decide +kernel) rfl
theorem kw_617 : (Jvm.Cond.code ({ cls := "TrunkDuel$Footprint", name := "sideOf", desc := "(I)I" } : Jvm.MethodName) prog_4_method_10_code (2 : Nat) (Option.some Jvm.ClassFile.FieldType.int)) ∈ gw := gwt 617 (by decide +kernel) rfl
theorem kw_1206 : (Jvm.Cond.methodLink "TrunkDuel$Crossings" (56 : Nat) ({ cls := "TrunkDuel$Crossings", name := "countEdge", desc := "(III)V" } : Jvm.MethodName)) ∈ gw := gwt 1206 (by decide +kernel) rfl
theorem kw_1208 : (Jvm.Cond.instanceMethod ({ cls := "TrunkDuel$Crossings", name := "countEdge", desc := "(III)V" } : Jvm.MethodName)) ∈ gw := gwt 1208 (by decide +kernel) rfl
theorem kp_30 : (Jvm.Cond.selects "TrunkDuel$Crossings" ({ cls := "TrunkDuel$Crossings", name := "countEdge", desc := "(III)V" } : Jvm.MethodName) ({ cls := "TrunkDuel$Crossings", name := "countEdge", desc := "(III)V" } : Jvm.MethodName)) ∈ gw := gws 30 (by decide +kernel) rfl
theorem kw_1209 : (Jvm.Cond.code ({ cls := "TrunkDuel$Crossings", name := "countEdge", desc := "(III)V" } : Jvm.MethodName) prog_3_method_4_code (5 : Nat) (Option.none : Option Jvm.ClassFile.FieldType)) ∈ gw := gwt 1209 (by decide +kernel) rfl
theorem kw_167 : (Jvm.Cond.methodLink "TrunkDuel$Footprint" (3 : Nat) ({ cls := "java/lang/Object", name := "<init>", desc := "()V" } : Jvm.MethodName)) ∈ gw := gwt 167 (by decide +kernel) rfl
theorem kw_168 : (Jvm.Cond.fieldLink "TrunkDuel$Footprint" (9 : Nat) "TrunkDuel$Footprint" "shape" "I") ∈ gw := gwt 168 (by decide +kernel) rfl
theorem kw_172 : (Jvm.Cond.fieldLink "TrunkDuel$Footprint" (15 : Nat) "TrunkDuel$Footprint" "rotation" "I") ∈ gw := gwt 172 (by decide +kernel) rfl
theorem kw_175 : (Jvm.Cond.fieldLink "TrunkDuel$Footprint" (18 : Nat) "TrunkDuel$Footprint" "column" "I") ∈ gw := gwt 175 (by decide +kernel) rfl
theorem kw_178 : (Jvm.Cond.fieldLink "TrunkDuel$Footprint" (21 : Nat) "TrunkDuel$Footprint" "row" "I") ∈ gw := gwt 178 (by decide +kernel) rfl
theorem kw_181 : (Jvm.Cond.fieldLink "TrunkDuel$Footprint" (24 : Nat) "TrunkDuel$Footprint" "size" "I") ∈ gw := gwt 181 (by decide +kernel) rfl
theorem kw_185 : (Jvm.Cond.fieldLink "TrunkDuel$Footprint" (27 : Nat) "TrunkDuel$Footprint" "edges" "I") ∈ gw := gwt 185 (by decide +kernel) rfl
theorem kw_188 : (Jvm.Cond.fieldLink "TrunkDuel$Footprint" (30 : Nat) "TrunkDuel$Footprint" "right" "[I") ∈ gw := gwt 188 (by decide +kernel) rfl
theorem kw_189 : (Jvm.Cond.fieldLink "TrunkDuel$Footprint" (34 : Nat) "TrunkDuel$Footprint" "down" "[I") ∈ gw := gwt 189 (by decide +kernel) rfl
theorem kw_190 : (Jvm.Cond.fieldLink "TrunkDuel$Footprint" (37 : Nat) "TrunkDuel$Footprint" "edgeRight" "[I") ∈ gw := gwt 190 (by decide +kernel) rfl
theorem kw_191 : (Jvm.Cond.fieldLink "TrunkDuel$Footprint" (40 : Nat) "TrunkDuel$Footprint" "edgeDown" "[I") ∈ gw := gwt 191 (by decide +kernel) rfl
theorem kw_192 : (Jvm.Cond.fieldLink "TrunkDuel$Footprint" (43 : Nat) "TrunkDuel$Footprint" "edgeSide" "[I") ∈ gw := gwt 192 (by decide +kernel) rfl
theorem kw_559 : (Jvm.Cond.fieldLink "TrunkDuel$Footprint" (46 : Nat) "TrunkDuel$Footprint" "SIZES" "[I") ∈ gw := gwt 559 (by decide +kernel) rfl
theorem kw_561 : (Jvm.Cond.fieldLink "TrunkDuel$Footprint" (49 : Nat) "TrunkDuel$Footprint" "OFFSETS_RIGHT" "[I") ∈ gw := gwt 561 (by decide +kernel) rfl
theorem kw_563 : (Jvm.Cond.fieldLink "TrunkDuel$Footprint" (52 : Nat) "TrunkDuel$Footprint" "OFFSETS_DOWN" "[I") ∈ gw := gwt 563 (by decide +kernel) rfl
theorem kw_565 : (Jvm.Cond.methodLink "TrunkDuel$Footprint" (55 : Nat) ({ cls := "TrunkDuel$Footprint", name := "findEdges", desc := "()V" } : Jvm.MethodName)) ∈ gw := gwt 565 (by decide +kernel) rfl
theorem kw_567 : (Jvm.Cond.instanceMethod ({ cls := "TrunkDuel$Footprint", name := "findEdges", desc := "()V" } : Jvm.MethodName)) ∈ gw := gwt 567 (by decide +kernel) rfl
theorem kp_17 : (Jvm.Cond.selects "TrunkDuel$Footprint" ({ cls := "TrunkDuel$Footprint", name := "findEdges", desc := "()V" } : Jvm.MethodName) ({ cls := "TrunkDuel$Footprint", name := "findEdges", desc := "()V" } : Jvm.MethodName)) ∈ gw := gws 17 (by decide +kernel) rfl
theorem kw_568 : (Jvm.Cond.code ({ cls := "TrunkDuel$Footprint", name := "findEdges", desc := "()V" } : Jvm.MethodName) prog_4_method_11_code (5 : Nat) (Option.none : Option Jvm.ClassFile.FieldType)) ∈ gw := gwt 568 (by decide +kernel) rfl
theorem kw_671 : (Jvm.Cond.methodLink "TrunkDuel$Footprint" (58 : Nat) ({ cls := "TrunkDuel$Footprint", name := "turn", desc := "(II)V" } : Jvm.MethodName)) ∈ gw := gwt 671 (by decide +kernel) rfl
theorem kw_556 : (Jvm.Cond.instanceMethod ({ cls := "TrunkDuel$Footprint", name := "turn", desc := "(II)V" } : Jvm.MethodName)) ∈ gw := gwt 556 (by decide +kernel) rfl
theorem kw_557 : (Jvm.Cond.selects "TrunkDuel$Footprint" ({ cls := "TrunkDuel$Footprint", name := "turn", desc := "(II)V" } : Jvm.MethodName) ({ cls := "TrunkDuel$Footprint", name := "turn", desc := "(II)V" } : Jvm.MethodName)) ∈ gw := gwt 557 (by decide +kernel) rfl
theorem kw_558 : (Jvm.Cond.code ({ cls := "TrunkDuel$Footprint", name := "turn", desc := "(II)V" } : Jvm.MethodName) prog_4_method_2_code (8 : Nat) (Option.none : Option Jvm.ClassFile.FieldType)) ∈ gw := gwt 558 (by decide +kernel) rfl
theorem kw_672 : (Jvm.Cond.methodLink "TrunkDuel$Footprint" (62 : Nat) ({ cls := "TrunkDuel$Footprint", name := "moveTo", desc := "(II)V" } : Jvm.MethodName)) ∈ gw := gwt 672 (by decide +kernel) rfl
theorem kw_574 : (Jvm.Cond.instanceMethod ({ cls := "TrunkDuel$Footprint", name := "moveTo", desc := "(II)V" } : Jvm.MethodName)) ∈ gw := gwt 574 (by decide +kernel) rfl
theorem kw_575 : (Jvm.Cond.selects "TrunkDuel$Footprint" ({ cls := "TrunkDuel$Footprint", name := "moveTo", desc := "(II)V" } : Jvm.MethodName) ({ cls := "TrunkDuel$Footprint", name := "moveTo", desc := "(II)V" } : Jvm.MethodName)) ∈ gw := gwt 575 (by decide +kernel) rfl
theorem kw_576 : (Jvm.Cond.code ({ cls := "TrunkDuel$Footprint", name := "moveTo", desc := "(II)V" } : Jvm.MethodName) prog_4_method_3_code (3 : Nat) (Option.none : Option Jvm.ClassFile.FieldType)) ∈ gw := gwt 576 (by decide +kernel) rfl
theorem kw_569 : (Jvm.Cond.methodLink "TrunkDuel$Footprint" (65 : Nat) ({ cls := "java/lang/Math", name := "abs", desc := "(I)I" } : Jvm.MethodName)) ∈ gw := gwt 569 (by decide +kernel) rfl
theorem kw_572 : (Jvm.Cond.methodLink "TrunkDuel$Footprint" (71 : Nat) ({ cls := "java/lang/Math", name := "min", desc := "(II)I" } : Jvm.MethodName)) ∈ gw := gwt 572 (by decide +kernel) rfl
theorem kw_268 : (Jvm.Cond.methodLink "TrunkDuel$History" (3 : Nat) ({ cls := "java/lang/Object", name := "<init>", desc := "()V" } : Jvm.MethodName)) ∈ gw := gwt 268 (by decide +kernel) rfl
theorem kw_272 : (Jvm.Cond.fieldLink "TrunkDuel$History" (9 : Nat) "TrunkDuel$History" "count" "I") ∈ gw := gwt 272 (by decide +kernel) rfl
theorem kw_274 : (Jvm.Cond.fieldLink "TrunkDuel$History" (15 : Nat) "TrunkDuel$History" "oldest" "I") ∈ gw := gwt 274 (by decide +kernel) rfl
theorem kw_269 : (Jvm.Cond.classLink "TrunkDuel$History" (18 : Nat) "TrunkDuel$State") ∈ gw := gwt 269 (by decide +kernel) rfl
theorem kw_275 : (Jvm.Cond.fieldLink "TrunkDuel$History" (20 : Nat) "TrunkDuel$History" "states" "[LTrunkDuel$State;") ∈ gw := gwt 275 (by decide +kernel) rfl
theorem kw_44 : (Jvm.Cond.instantiable "TrunkDuel$State" (6 : Nat)) ∈ gw := gwt 44 (by decide +kernel) rfl
theorem kw_46 : (Jvm.Cond.instanceMethod ({ cls := "TrunkDuel$State", name := "<init>", desc := "()V" } : Jvm.MethodName)) ∈ gw := gwt 46 (by decide +kernel) rfl
theorem kw_47 : (Jvm.Cond.code ({ cls := "TrunkDuel$State", name := "<init>", desc := "()V" } : Jvm.MethodName) prog_10_method_1_code (1 : Nat) (Option.none : Option Jvm.ClassFile.FieldType)) ∈ gw := gwt 47 (by decide +kernel) rfl
theorem kw_757 : (Jvm.Cond.methodLink "TrunkDuel$History" (25 : Nat) ({ cls := "TrunkDuel$State", name := "copyFrom", desc := "(LTrunkDuel$State;)V" } : Jvm.MethodName)) ∈ gw := gwt 757 (by decide +kernel) rfl
theorem kw_687 : (Jvm.Cond.instanceMethod ({ cls := "TrunkDuel$State", name := "copyFrom", desc := "(LTrunkDuel$State;)V" } : Jvm.MethodName)) ∈ gw := gwt 687 (by decide +kernel) rfl
theorem kw_688 : (Jvm.Cond.selects "TrunkDuel$State" ({ cls := "TrunkDuel$State", name := "copyFrom", desc := "(LTrunkDuel$State;)V" } : Jvm.MethodName) ({ cls := "TrunkDuel$State", name := "copyFrom", desc := "(LTrunkDuel$State;)V" } : Jvm.MethodName)) ∈ gw := gwt 688 (by decide +kernel) rfl
theorem kw_689 : (Jvm.Cond.code ({ cls := "TrunkDuel$State", name := "copyFrom", desc := "(LTrunkDuel$State;)V" } : Jvm.MethodName) prog_10_method_3_code (2 : Nat) (Option.none : Option Jvm.ClassFile.FieldType)) ∈ gw := gwt 689 (by decide +kernel) rfl
theorem kw_81 : (Jvm.Cond.methodLink "TrunkDuel$Pieces" (3 : Nat) ({ cls := "java/lang/Object", name := "<init>", desc := "()V" } : Jvm.MethodName)) ∈ gw := gwt 81 (by decide +kernel) rfl
theorem kw_82 : (Jvm.Cond.fieldLink "TrunkDuel$Pieces" (9 : Nat) "TrunkDuel$Pieces" "count" "I") ∈ gw := gwt 82 (by decide +kernel) rfl
theorem kw_85 : (Jvm.Cond.fieldLink "TrunkDuel$Pieces" (15 : Nat) "TrunkDuel$Pieces" "shapes" "[I") ∈ gw := gwt 85 (by decide +kernel) rfl
theorem kw_86 : (Jvm.Cond.fieldLink "TrunkDuel$Pieces" (19 : Nat) "TrunkDuel$Pieces" "rotations" "[I") ∈ gw := gwt 86 (by decide +kernel) rfl
theorem kw_87 : (Jvm.Cond.fieldLink "TrunkDuel$Pieces" (22 : Nat) "TrunkDuel$Pieces" "anchorColumns" "[I") ∈ gw := gwt 87 (by decide +kernel) rfl
theorem kw_88 : (Jvm.Cond.fieldLink "TrunkDuel$Pieces" (25 : Nat) "TrunkDuel$Pieces" "anchorRows" "[I") ∈ gw := gwt 88 (by decide +kernel) rfl
theorem kw_89 : (Jvm.Cond.fieldLink "TrunkDuel$Pieces" (28 : Nat) "TrunkDuel$Pieces" "owners" "[I") ∈ gw := gwt 89 (by decide +kernel) rfl
theorem kw_90 : (Jvm.Cond.fieldLink "TrunkDuel$Pieces" (31 : Nat) "TrunkDuel$Pieces" "points" "[I") ∈ gw := gwt 90 (by decide +kernel) rfl
theorem kw_701 : (Jvm.Cond.methodLink "TrunkDuel$Pieces" (34 : Nat) ({ cls := "java/lang/System", name := "arraycopy", desc := "(Ljava/lang/Object;ILjava/lang/Object;II)V" } : Jvm.MethodName)) ∈ gw := gwt 701 (by decide +kernel) rfl
theorem kw_169 : (Jvm.Cond.fieldLink "TrunkDuel$Pieces" (40 : Nat) "TrunkDuel$Footprint" "shape" "I") ∈ gw := gwt 169 (by decide +kernel) rfl
theorem kw_173 : (Jvm.Cond.fieldLink "TrunkDuel$Pieces" (45 : Nat) "TrunkDuel$Footprint" "rotation" "I") ∈ gw := gwt 173 (by decide +kernel) rfl
theorem kw_176 : (Jvm.Cond.fieldLink "TrunkDuel$Pieces" (48 : Nat) "TrunkDuel$Footprint" "column" "I") ∈ gw := gwt 176 (by decide +kernel) rfl
theorem kw_179 : (Jvm.Cond.fieldLink "TrunkDuel$Pieces" (51 : Nat) "TrunkDuel$Footprint" "row" "I") ∈ gw := gwt 179 (by decide +kernel) rfl
theorem kw_1057 : (Jvm.Cond.methodLink "TrunkDuel$Pieces" (54 : Nat) ({ cls := "TrunkDuel$Pieces", name := "has", desc := "(I)Z" } : Jvm.MethodName)) ∈ gw := gwt 1057 (by decide +kernel) rfl
theorem kw_1058 : (Jvm.Cond.instanceMethod ({ cls := "TrunkDuel$Pieces", name := "has", desc := "(I)Z" } : Jvm.MethodName)) ∈ gw := gwt 1058 (by decide +kernel) rfl
theorem kw_1059 : (Jvm.Cond.selects "TrunkDuel$Pieces" ({ cls := "TrunkDuel$Pieces", name := "has", desc := "(I)Z" } : Jvm.MethodName) ({ cls := "TrunkDuel$Pieces", name := "has", desc := "(I)Z" } : Jvm.MethodName)) ∈ gw := gwt 1059 (by decide +kernel) rfl
theorem kw_5 : (Jvm.Cond.initialized "TrunkDuel$Pieces") ∈ gw := gwt 5 (by decide +kernel) rfl
theorem kw_1060 : (Jvm.Cond.code ({ cls := "TrunkDuel$Pieces", name := "has", desc := "(I)Z" } : Jvm.MethodName) prog_6_method_4_code (2 : Nat) (Option.some Jvm.ClassFile.FieldType.boolean)) ∈ gw := gwt 1060 (by decide +kernel) rfl
theorem kw_111 : (Jvm.Cond.methodLink "TrunkDuel$Player" (3 : Nat) ({ cls := "java/lang/Object", name := "<init>", desc := "()V" } : Jvm.MethodName)) ∈ gw := gwt 111 (by decide +kernel) rfl
theorem kw_112 : (Jvm.Cond.fieldLink "TrunkDuel$Player" (9 : Nat) "TrunkDuel$Player" "score" "I") ∈ gw := gwt 112 (by decide +kernel) rfl
theorem kw_115 : (Jvm.Cond.fieldLink "TrunkDuel$Player" (15 : Nat) "TrunkDuel$Player" "straps" "I") ∈ gw := gwt 115 (by decide +kernel) rfl
theorem kw_119 : (Jvm.Cond.fieldLink "TrunkDuel$Player" (18 : Nat) "TrunkDuel$Player" "nameLength" "I") ∈ gw := gwt 119 (by decide +kernel) rfl
theorem kw_120 : (Jvm.Cond.fieldLink "TrunkDuel$Player" (21 : Nat) "TrunkDuel$Player" "name" "[I") ∈ gw := gwt 120 (by decide +kernel) rfl
theorem kw_121 : (Jvm.Cond.fieldLink "TrunkDuel$Player" (25 : Nat) "TrunkDuel$Player" "supplies" "[I") ∈ gw := gwt 121 (by decide +kernel) rfl
theorem kw_706 : (Jvm.Cond.methodLink "TrunkDuel$Player" (28 : Nat) ({ cls := "java/lang/System", name := "arraycopy", desc := "(Ljava/lang/Object;ILjava/lang/Object;II)V" } : Jvm.MethodName)) ∈ gw := gwt 706 (by decide +kernel) rfl
theorem kw_42 : (Jvm.Cond.methodLink "TrunkDuel$Reader" (3 : Nat) ({ cls := "java/lang/Object", name := "<init>", desc := "()V" } : Jvm.MethodName)) ∈ gw := gwt 42 (by decide +kernel) rfl
theorem kw_216 : (Jvm.Cond.fieldLink "TrunkDuel$Reader" (9 : Nat) "TrunkDuel$Reader" "length" "I") ∈ gw := gwt 216 (by decide +kernel) rfl
theorem kw_218 : (Jvm.Cond.fieldLink "TrunkDuel$Reader" (15 : Nat) "TrunkDuel$Reader" "errorCode" "I") ∈ gw := gwt 218 (by decide +kernel) rfl
theorem kw_219 : (Jvm.Cond.fieldLink "TrunkDuel$Reader" (18 : Nat) "TrunkDuel$Reader" "errorOffset" "I") ∈ gw := gwt 219 (by decide +kernel) rfl
theorem kw_220 : (Jvm.Cond.fieldLink "TrunkDuel$Reader" (21 : Nat) "TrunkDuel$Reader" "commands" "I") ∈ gw := gwt 220 (by decide +kernel) rfl
theorem kw_43 : (Jvm.Cond.classLink "TrunkDuel$Reader" (24 : Nat) "TrunkDuel$State") ∈ gw := gwt 43 (by decide +kernel) rfl
theorem kw_221 : (Jvm.Cond.fieldLink "TrunkDuel$Reader" (27 : Nat) "TrunkDuel$Reader" "draft" "LTrunkDuel$State;") ∈ gw := gwt 221 (by decide +kernel) rfl
theorem kw_162 : (Jvm.Cond.classLink "TrunkDuel$Reader" (31 : Nat) "TrunkDuel$Footprint") ∈ gw := gwt 162 (by decide +kernel) rfl
theorem kw_163 : (Jvm.Cond.instantiable "TrunkDuel$Footprint" (11 : Nat)) ∈ gw := gwt 163 (by decide +kernel) rfl
theorem kw_165 : (Jvm.Cond.instanceMethod ({ cls := "TrunkDuel$Footprint", name := "<init>", desc := "()V" } : Jvm.MethodName)) ∈ gw := gwt 165 (by decide +kernel) rfl
theorem kw_166 : (Jvm.Cond.code ({ cls := "TrunkDuel$Footprint", name := "<init>", desc := "()V" } : Jvm.MethodName) prog_4_method_1_code (1 : Nat) (Option.none : Option Jvm.ClassFile.FieldType)) ∈ gw := gwt 166 (by decide +kernel) rfl
theorem kw_223 : (Jvm.Cond.fieldLink "TrunkDuel$Reader" (34 : Nat) "TrunkDuel$Reader" "footprint" "LTrunkDuel$Footprint;") ∈ gw := gwt 223 (by decide +kernel) rfl
theorem kw_224 : (Jvm.Cond.fieldLink "TrunkDuel$Reader" (38 : Nat) "TrunkDuel$Reader" "bytes" "[I") ∈ gw := gwt 224 (by decide +kernel) rfl
theorem kw_225 : (Jvm.Cond.fieldLink "TrunkDuel$Reader" (42 : Nat) "TrunkDuel$Reader" "position" "I") ∈ gw := gwt 225 (by decide +kernel) rfl
theorem kw_226 : (Jvm.Cond.fieldLink "TrunkDuel$Reader" (45 : Nat) "TrunkDuel$Reader" "tokenKind" "I") ∈ gw := gwt 226 (by decide +kernel) rfl
theorem kw_227 : (Jvm.Cond.fieldLink "TrunkDuel$Reader" (48 : Nat) "TrunkDuel$Reader" "tokenStart" "I") ∈ gw := gwt 227 (by decide +kernel) rfl
theorem kw_228 : (Jvm.Cond.fieldLink "TrunkDuel$Reader" (51 : Nat) "TrunkDuel$Reader" "number" "I") ∈ gw := gwt 228 (by decide +kernel) rfl
theorem kw_229 : (Jvm.Cond.fieldLink "TrunkDuel$Reader" (54 : Nat) "TrunkDuel$Reader" "edgeColumn" "I") ∈ gw := gwt 229 (by decide +kernel) rfl
theorem kw_230 : (Jvm.Cond.fieldLink "TrunkDuel$Reader" (57 : Nat) "TrunkDuel$Reader" "edgeRow" "I") ∈ gw := gwt 230 (by decide +kernel) rfl
theorem kw_231 : (Jvm.Cond.fieldLink "TrunkDuel$Reader" (60 : Nat) "TrunkDuel$Reader" "edgeSide" "I") ∈ gw := gwt 231 (by decide +kernel) rfl
theorem kw_349 : (Jvm.Cond.methodLink "TrunkDuel$Reader" (63 : Nat) ({ cls := "java/lang/String", name := "length", desc := "()I" } : Jvm.MethodName)) ∈ gw := gwt 349 (by decide +kernel) rfl
theorem kw_359 : (Jvm.Cond.methodLink "TrunkDuel$Reader" (68 : Nat) ({ cls := "java/lang/String", name := "charAt", desc := "(I)C" } : Jvm.MethodName)) ∈ gw := gwt 359 (by decide +kernel) rfl
theorem kw_397 : (Jvm.Cond.methodLink "TrunkDuel$Reader" (72 : Nat) ({ cls := "TrunkDuel$Reader", name := "writeByte", desc := "(I)V" } : Jvm.MethodName)) ∈ gw := gwt 397 (by decide +kernel) rfl
theorem kw_399 : (Jvm.Cond.instanceMethod ({ cls := "TrunkDuel$Reader", name := "writeByte", desc := "(I)V" } : Jvm.MethodName)) ∈ gw := gwt 399 (by decide +kernel) rfl
theorem kp_0 : (Jvm.Cond.selects "TrunkDuel$Reader" ({ cls := "TrunkDuel$Reader", name := "writeByte", desc := "(I)V" } : Jvm.MethodName) ({ cls := "TrunkDuel$Reader", name := "writeByte", desc := "(I)V" } : Jvm.MethodName)) ∈ gw := gws 0 (by decide +kernel) rfl
theorem kw_2 : (Jvm.Cond.initialized "TrunkDuel$Reader") ∈ gw := gwt 2 (by decide +kernel) rfl
theorem kw_400 : (Jvm.Cond.code ({ cls := "TrunkDuel$Reader", name := "writeByte", desc := "(I)V" } : Jvm.MethodName) prog_8_method_5_code (2 : Nat) (Option.none : Option Jvm.ClassFile.FieldType)) ∈ gw := gwt 400 (by decide +kernel) rfl
theorem kw_405 : (Jvm.Cond.methodLink "TrunkDuel$Reader" (76 : Nat) ({ cls := "TrunkDuel$Reader", name := "nextToken", desc := "()V" } : Jvm.MethodName)) ∈ gw := gwt 405 (by decide +kernel) rfl
theorem kw_407 : (Jvm.Cond.instanceMethod ({ cls := "TrunkDuel$Reader", name := "nextToken", desc := "()V" } : Jvm.MethodName)) ∈ gw := gwt 407 (by decide +kernel) rfl
theorem kp_1 : (Jvm.Cond.selects "TrunkDuel$Reader" ({ cls := "TrunkDuel$Reader", name := "nextToken", desc := "()V" } : Jvm.MethodName) ({ cls := "TrunkDuel$Reader", name := "nextToken", desc := "()V" } : Jvm.MethodName)) ∈ gw := gws 1 (by decide +kernel) rfl
theorem kw_408 : (Jvm.Cond.code ({ cls := "TrunkDuel$Reader", name := "nextToken", desc := "()V" } : Jvm.MethodName) prog_8_method_22_code (2 : Nat) (Option.none : Option Jvm.ClassFile.FieldType)) ∈ gw := gwt 408 (by decide +kernel) rfl
theorem kw_428 : (Jvm.Cond.methodLink "TrunkDuel$Reader" (86 : Nat) ({ cls := "TrunkDuel$Reader", name := "readSize", desc := "()Z" } : Jvm.MethodName)) ∈ gw := gwt 428 (by decide +kernel) rfl
theorem kw_430 : (Jvm.Cond.instanceMethod ({ cls := "TrunkDuel$Reader", name := "readSize", desc := "()Z" } : Jvm.MethodName)) ∈ gw := gwt 430 (by decide +kernel) rfl
theorem kp_5 : (Jvm.Cond.selects "TrunkDuel$Reader" ({ cls := "TrunkDuel$Reader", name := "readSize", desc := "()Z" } : Jvm.MethodName) ({ cls := "TrunkDuel$Reader", name := "readSize", desc := "()Z" } : Jvm.MethodName)) ∈ gw := gws 5 (by decide +kernel) rfl
theorem kw_431 : (Jvm.Cond.code ({ cls := "TrunkDuel$Reader", name := "readSize", desc := "()Z" } : Jvm.MethodName) prog_8_method_10_code (3 : Nat) (Option.some Jvm.ClassFile.FieldType.boolean)) ∈ gw := gwt 431 (by decide +kernel) rfl
theorem kw_462 : (Jvm.Cond.methodLink "TrunkDuel$Reader" (90 : Nat) ({ cls := "TrunkDuel$Reader", name := "readBlocks", desc := "()Z" } : Jvm.MethodName)) ∈ gw := gwt 462 (by decide +kernel) rfl
theorem kw_464 : (Jvm.Cond.instanceMethod ({ cls := "TrunkDuel$Reader", name := "readBlocks", desc := "()Z" } : Jvm.MethodName)) ∈ gw := gwt 464 (by decide +kernel) rfl
theorem kp_10 : (Jvm.Cond.selects "TrunkDuel$Reader" ({ cls := "TrunkDuel$Reader", name := "readBlocks", desc := "()Z" } : Jvm.MethodName) ({ cls := "TrunkDuel$Reader", name := "readBlocks", desc := "()Z" } : Jvm.MethodName)) ∈ gw := gws 10 (by decide +kernel) rfl
theorem kw_465 : (Jvm.Cond.code ({ cls := "TrunkDuel$Reader", name := "readBlocks", desc := "()Z" } : Jvm.MethodName) prog_8_method_11_code (4 : Nat) (Option.some Jvm.ClassFile.FieldType.boolean)) ∈ gw := gwt 465 (by decide +kernel) rfl
theorem kw_479 : (Jvm.Cond.methodLink "TrunkDuel$Reader" (93 : Nat) ({ cls := "TrunkDuel$Reader", name := "readFreeStraps", desc := "()Z" } : Jvm.MethodName)) ∈ gw := gwt 479 (by decide +kernel) rfl
theorem kw_481 : (Jvm.Cond.instanceMethod ({ cls := "TrunkDuel$Reader", name := "readFreeStraps", desc := "()Z" } : Jvm.MethodName)) ∈ gw := gwt 481 (by decide +kernel) rfl
theorem kp_11 : (Jvm.Cond.selects "TrunkDuel$Reader" ({ cls := "TrunkDuel$Reader", name := "readFreeStraps", desc := "()Z" } : Jvm.MethodName) ({ cls := "TrunkDuel$Reader", name := "readFreeStraps", desc := "()Z" } : Jvm.MethodName)) ∈ gw := gws 11 (by decide +kernel) rfl
theorem kw_482 : (Jvm.Cond.code ({ cls := "TrunkDuel$Reader", name := "readFreeStraps", desc := "()Z" } : Jvm.MethodName) prog_8_method_12_code (2 : Nat) (Option.some Jvm.ClassFile.FieldType.boolean)) ∈ gw := gwt 482 (by decide +kernel) rfl
theorem kw_512 : (Jvm.Cond.methodLink "TrunkDuel$Reader" (96 : Nat) ({ cls := "TrunkDuel$Reader", name := "readPlayer", desc := "(I)Z" } : Jvm.MethodName)) ∈ gw := gwt 512 (by decide +kernel) rfl
theorem kw_514 : (Jvm.Cond.instanceMethod ({ cls := "TrunkDuel$Reader", name := "readPlayer", desc := "(I)Z" } : Jvm.MethodName)) ∈ gw := gwt 514 (by decide +kernel) rfl
theorem kp_13 : (Jvm.Cond.selects "TrunkDuel$Reader" ({ cls := "TrunkDuel$Reader", name := "readPlayer", desc := "(I)Z" } : Jvm.MethodName) ({ cls := "TrunkDuel$Reader", name := "readPlayer", desc := "(I)Z" } : Jvm.MethodName)) ∈ gw := gws 13 (by decide +kernel) rfl
theorem kw_515 : (Jvm.Cond.code ({ cls := "TrunkDuel$Reader", name := "readPlayer", desc := "(I)Z" } : Jvm.MethodName) prog_8_method_13_code (4 : Nat) (Option.some Jvm.ClassFile.FieldType.boolean)) ∈ gw := gwt 515 (by decide +kernel) rfl
theorem kw_433 : (Jvm.Cond.methodLink "TrunkDuel$Reader" (102 : Nat) ({ cls := "TrunkDuel$Reader", name := "wordIs", desc := "(Ljava/lang/String;)Z" } : Jvm.MethodName)) ∈ gw := gwt 433 (by decide +kernel) rfl
theorem kw_435 : (Jvm.Cond.instanceMethod ({ cls := "TrunkDuel$Reader", name := "wordIs", desc := "(Ljava/lang/String;)Z" } : Jvm.MethodName)) ∈ gw := gwt 435 (by decide +kernel) rfl
theorem kp_6 : (Jvm.Cond.selects "TrunkDuel$Reader" ({ cls := "TrunkDuel$Reader", name := "wordIs", desc := "(Ljava/lang/String;)Z" } : Jvm.MethodName) ({ cls := "TrunkDuel$Reader", name := "wordIs", desc := "(Ljava/lang/String;)Z" } : Jvm.MethodName)) ∈ gw := gws 6 (by decide +kernel) rfl
theorem kw_436 : (Jvm.Cond.code ({ cls := "TrunkDuel$Reader", name := "wordIs", desc := "(Ljava/lang/String;)Z" } : Jvm.MethodName) prog_8_method_25_code (3 : Nat) (Option.some Jvm.ClassFile.FieldType.boolean)) ∈ gw := gwt 436 (by decide +kernel) rfl
theorem kw_542 : (Jvm.Cond.methodLink "TrunkDuel$Reader" (106 : Nat) ({ cls := "TrunkDuel$Reader", name := "readPiece", desc := "()Z" } : Jvm.MethodName)) ∈ gw := gwt 542 (by decide +kernel) rfl
theorem kw_544 : (Jvm.Cond.instanceMethod ({ cls := "TrunkDuel$Reader", name := "readPiece", desc := "()Z" } : Jvm.MethodName)) ∈ gw := gwt 544 (by decide +kernel) rfl
theorem kp_15 : (Jvm.Cond.selects "TrunkDuel$Reader" ({ cls := "TrunkDuel$Reader", name := "readPiece", desc := "()Z" } : Jvm.MethodName) ({ cls := "TrunkDuel$Reader", name := "readPiece", desc := "()Z" } : Jvm.MethodName)) ∈ gw := gws 15 (by decide +kernel) rfl
theorem kw_545 : (Jvm.Cond.code ({ cls := "TrunkDuel$Reader", name := "readPiece", desc := "()Z" } : Jvm.MethodName) prog_8_method_15_code (5 : Nat) (Option.some Jvm.ClassFile.FieldType.boolean)) ∈ gw := gwt 545 (by decide +kernel) rfl
theorem kw_643 : (Jvm.Cond.methodLink "TrunkDuel$Reader" (111 : Nat) ({ cls := "TrunkDuel$Reader", name := "readStrap", desc := "()Z" } : Jvm.MethodName)) ∈ gw := gwt 643 (by decide +kernel) rfl
theorem kw_645 : (Jvm.Cond.instanceMethod ({ cls := "TrunkDuel$Reader", name := "readStrap", desc := "()Z" } : Jvm.MethodName)) ∈ gw := gwt 645 (by decide +kernel) rfl
theorem kp_19 : (Jvm.Cond.selects "TrunkDuel$Reader" ({ cls := "TrunkDuel$Reader", name := "readStrap", desc := "()Z" } : Jvm.MethodName) ({ cls := "TrunkDuel$Reader", name := "readStrap", desc := "()Z" } : Jvm.MethodName)) ∈ gw := gws 19 (by decide +kernel) rfl
theorem kw_646 : (Jvm.Cond.code ({ cls := "TrunkDuel$Reader", name := "readStrap", desc := "()Z" } : Jvm.MethodName) prog_8_method_16_code (1 : Nat) (Option.some Jvm.ClassFile.FieldType.boolean)) ∈ gw := gwt 646 (by decide +kernel) rfl
theorem kw_663 : (Jvm.Cond.methodLink "TrunkDuel$Reader" (116 : Nat) ({ cls := "TrunkDuel$State", name := "allowsPass", desc := "(LTrunkDuel$Footprint;)Z" } : Jvm.MethodName)) ∈ gw := gwt 663 (by decide +kernel) rfl
theorem kw_664 : (Jvm.Cond.instanceMethod ({ cls := "TrunkDuel$State", name := "allowsPass", desc := "(LTrunkDuel$Footprint;)Z" } : Jvm.MethodName)) ∈ gw := gwt 664 (by decide +kernel) rfl
theorem kw_665 : (Jvm.Cond.selects "TrunkDuel$State" ({ cls := "TrunkDuel$State", name := "allowsPass", desc := "(LTrunkDuel$Footprint;)Z" } : Jvm.MethodName) ({ cls := "TrunkDuel$State", name := "allowsPass", desc := "(LTrunkDuel$Footprint;)Z" } : Jvm.MethodName)) ∈ gw := gwt 665 (by decide +kernel) rfl
theorem kw_666 : (Jvm.Cond.code ({ cls := "TrunkDuel$State", name := "allowsPass", desc := "(LTrunkDuel$Footprint;)Z" } : Jvm.MethodName) prog_10_method_10_code (4 : Nat) (Option.some Jvm.ClassFile.FieldType.boolean)) ∈ gw := gwt 666 (by decide +kernel) rfl
theorem kw_437 : (Jvm.Cond.methodLink "TrunkDuel$Reader" (120 : Nat) ({ cls := "TrunkDuel$Reader", name := "fail", desc := "(I)Z" } : Jvm.MethodName)) ∈ gw := gwt 437 (by decide +kernel) rfl
theorem kw_439 : (Jvm.Cond.instanceMethod ({ cls := "TrunkDuel$Reader", name := "fail", desc := "(I)Z" } : Jvm.MethodName)) ∈ gw := gwt 439 (by decide +kernel) rfl
theorem kp_7 : (Jvm.Cond.selects "TrunkDuel$Reader" ({ cls := "TrunkDuel$Reader", name := "fail", desc := "(I)Z" } : Jvm.MethodName) ({ cls := "TrunkDuel$Reader", name := "fail", desc := "(I)Z" } : Jvm.MethodName)) ∈ gw := gws 7 (by decide +kernel) rfl
theorem kw_440 : (Jvm.Cond.code ({ cls := "TrunkDuel$Reader", name := "fail", desc := "(I)Z" } : Jvm.MethodName) prog_8_method_21_code (2 : Nat) (Option.some Jvm.ClassFile.FieldType.boolean)) ∈ gw := gwt 440 (by decide +kernel) rfl
theorem kw_682 : (Jvm.Cond.methodLink "TrunkDuel$Reader" (123 : Nat) ({ cls := "TrunkDuel$State", name := "skipTurn", desc := "()I" } : Jvm.MethodName)) ∈ gw := gwt 682 (by decide +kernel) rfl
theorem kw_683 : (Jvm.Cond.instanceMethod ({ cls := "TrunkDuel$State", name := "skipTurn", desc := "()I" } : Jvm.MethodName)) ∈ gw := gwt 683 (by decide +kernel) rfl
theorem kw_684 : (Jvm.Cond.selects "TrunkDuel$State" ({ cls := "TrunkDuel$State", name := "skipTurn", desc := "()I" } : Jvm.MethodName) ({ cls := "TrunkDuel$State", name := "skipTurn", desc := "()I" } : Jvm.MethodName)) ∈ gw := gwt 684 (by decide +kernel) rfl
theorem kw_685 : (Jvm.Cond.code ({ cls := "TrunkDuel$State", name := "skipTurn", desc := "()I" } : Jvm.MethodName) prog_10_method_11_code (1 : Nat) (Option.some Jvm.ClassFile.FieldType.int)) ∈ gw := gwt 685 (by decide +kernel) rfl
theorem kw_458 : (Jvm.Cond.methodLink "TrunkDuel$Reader" (126 : Nat) ({ cls := "TrunkDuel$Reader", name := "endStatement", desc := "()Z" } : Jvm.MethodName)) ∈ gw := gwt 458 (by decide +kernel) rfl
theorem kw_460 : (Jvm.Cond.instanceMethod ({ cls := "TrunkDuel$Reader", name := "endStatement", desc := "()Z" } : Jvm.MethodName)) ∈ gw := gwt 460 (by decide +kernel) rfl
theorem kp_9 : (Jvm.Cond.selects "TrunkDuel$Reader" ({ cls := "TrunkDuel$Reader", name := "endStatement", desc := "()Z" } : Jvm.MethodName) ({ cls := "TrunkDuel$Reader", name := "endStatement", desc := "()Z" } : Jvm.MethodName)) ∈ gw := gws 9 (by decide +kernel) rfl
theorem kw_461 : (Jvm.Cond.code ({ cls := "TrunkDuel$Reader", name := "endStatement", desc := "()Z" } : Jvm.MethodName) prog_8_method_20_code (1 : Nat) (Option.some Jvm.ClassFile.FieldType.boolean)) ∈ gw := gwt 461 (by decide +kernel) rfl
theorem kw_441 : (Jvm.Cond.methodLink "TrunkDuel$Reader" (131 : Nat) ({ cls := "TrunkDuel$Reader", name := "expectNumber", desc := "(II)I" } : Jvm.MethodName)) ∈ gw := gwt 441 (by decide +kernel) rfl
theorem kw_443 : (Jvm.Cond.instanceMethod ({ cls := "TrunkDuel$Reader", name := "expectNumber", desc := "(II)I" } : Jvm.MethodName)) ∈ gw := gwt 443 (by decide +kernel) rfl
theorem kp_8 : (Jvm.Cond.selects "TrunkDuel$Reader" ({ cls := "TrunkDuel$Reader", name := "expectNumber", desc := "(II)I" } : Jvm.MethodName) ({ cls := "TrunkDuel$Reader", name := "expectNumber", desc := "(II)I" } : Jvm.MethodName)) ∈ gw := gws 8 (by decide +kernel) rfl
theorem kw_444 : (Jvm.Cond.code ({ cls := "TrunkDuel$Reader", name := "expectNumber", desc := "(II)I" } : Jvm.MethodName) prog_8_method_19_code (3 : Nat) (Option.some Jvm.ClassFile.FieldType.int)) ∈ gw := gwt 444 (by decide +kernel) rfl
theorem kw_445 : (Jvm.Cond.methodLink "TrunkDuel$Reader" (135 : Nat) ({ cls := "TrunkDuel$State", name := "clear", desc := "(II)V" } : Jvm.MethodName)) ∈ gw := gwt 445 (by decide +kernel) rfl
theorem kw_446 : (Jvm.Cond.instanceMethod ({ cls := "TrunkDuel$State", name := "clear", desc := "(II)V" } : Jvm.MethodName)) ∈ gw := gwt 446 (by decide +kernel) rfl
theorem kw_447 : (Jvm.Cond.selects "TrunkDuel$State" ({ cls := "TrunkDuel$State", name := "clear", desc := "(II)V" } : Jvm.MethodName) ({ cls := "TrunkDuel$State", name := "clear", desc := "(II)V" } : Jvm.MethodName)) ∈ gw := gwt 447 (by decide +kernel) rfl
theorem kw_448 : (Jvm.Cond.code ({ cls := "TrunkDuel$State", name := "clear", desc := "(II)V" } : Jvm.MethodName) prog_10_method_2_code (3 : Nat) (Option.none : Option Jvm.ClassFile.FieldType)) ∈ gw := gwt 448 (by decide +kernel) rfl
theorem kw_136 : (Jvm.Cond.fieldLink "TrunkDuel$Reader" (141 : Nat) "TrunkDuel$State" "trunk" "LTrunkDuel$Trunk;") ∈ gw := gwt 136 (by decide +kernel) rfl
theorem kw_57 : (Jvm.Cond.fieldLink "TrunkDuel$Reader" (144 : Nat) "TrunkDuel$Trunk" "columns" "I") ∈ gw := gwt 57 (by decide +kernel) rfl
theorem kw_61 : (Jvm.Cond.fieldLink "TrunkDuel$Reader" (149 : Nat) "TrunkDuel$Trunk" "rows" "I") ∈ gw := gwt 61 (by decide +kernel) rfl
theorem kw_467 : (Jvm.Cond.methodLink "TrunkDuel$Reader" (152 : Nat) ({ cls := "TrunkDuel$Trunk", name := "cellAt", desc := "(II)I" } : Jvm.MethodName)) ∈ gw := gwt 467 (by decide +kernel) rfl
theorem kw_468 : (Jvm.Cond.instanceMethod ({ cls := "TrunkDuel$Trunk", name := "cellAt", desc := "(II)I" } : Jvm.MethodName)) ∈ gw := gwt 468 (by decide +kernel) rfl
theorem kw_469 : (Jvm.Cond.selects "TrunkDuel$Trunk" ({ cls := "TrunkDuel$Trunk", name := "cellAt", desc := "(II)I" } : Jvm.MethodName) ({ cls := "TrunkDuel$Trunk", name := "cellAt", desc := "(II)I" } : Jvm.MethodName)) ∈ gw := gwt 469 (by decide +kernel) rfl
theorem kw_470 : (Jvm.Cond.code ({ cls := "TrunkDuel$Trunk", name := "cellAt", desc := "(II)I" } : Jvm.MethodName) prog_11_method_6_code (3 : Nat) (Option.some Jvm.ClassFile.FieldType.int)) ∈ gw := gwt 470 (by decide +kernel) rfl
theorem kw_471 : (Jvm.Cond.methodLink "TrunkDuel$Reader" (155 : Nat) ({ cls := "TrunkDuel$Trunk", name := "setCell", desc := "(III)V" } : Jvm.MethodName)) ∈ gw := gwt 471 (by decide +kernel) rfl
theorem kw_472 : (Jvm.Cond.instanceMethod ({ cls := "TrunkDuel$Trunk", name := "setCell", desc := "(III)V" } : Jvm.MethodName)) ∈ gw := gwt 472 (by decide +kernel) rfl
theorem kw_473 : (Jvm.Cond.selects "TrunkDuel$Trunk" ({ cls := "TrunkDuel$Trunk", name := "setCell", desc := "(III)V" } : Jvm.MethodName) ({ cls := "TrunkDuel$Trunk", name := "setCell", desc := "(III)V" } : Jvm.MethodName)) ∈ gw := gwt 473 (by decide +kernel) rfl
theorem kw_474 : (Jvm.Cond.code ({ cls := "TrunkDuel$Trunk", name := "setCell", desc := "(III)V" } : Jvm.MethodName) prog_11_method_7_code (4 : Nat) (Option.none : Option Jvm.ClassFile.FieldType)) ∈ gw := gwt 474 (by decide +kernel) rfl
theorem kw_484 : (Jvm.Cond.methodLink "TrunkDuel$Reader" (159 : Nat) ({ cls := "TrunkDuel$Reader", name := "readEdge", desc := "()Z" } : Jvm.MethodName)) ∈ gw := gwt 484 (by decide +kernel) rfl
theorem kw_486 : (Jvm.Cond.instanceMethod ({ cls := "TrunkDuel$Reader", name := "readEdge", desc := "()Z" } : Jvm.MethodName)) ∈ gw := gwt 486 (by decide +kernel) rfl
theorem kp_12 : (Jvm.Cond.selects "TrunkDuel$Reader" ({ cls := "TrunkDuel$Reader", name := "readEdge", desc := "()Z" } : Jvm.MethodName) ({ cls := "TrunkDuel$Reader", name := "readEdge", desc := "()Z" } : Jvm.MethodName)) ∈ gw := gws 12 (by decide +kernel) rfl
theorem kw_487 : (Jvm.Cond.code ({ cls := "TrunkDuel$Reader", name := "readEdge", desc := "()Z" } : Jvm.MethodName) prog_8_method_17_code (1 : Nat) (Option.some Jvm.ClassFile.FieldType.boolean)) ∈ gw := gwt 487 (by decide +kernel) rfl
theorem kw_494 : (Jvm.Cond.methodLink "TrunkDuel$Reader" (162 : Nat) ({ cls := "TrunkDuel$Trunk", name := "strapAt", desc := "(III)Z" } : Jvm.MethodName)) ∈ gw := gwt 494 (by decide +kernel) rfl
theorem kw_495 : (Jvm.Cond.instanceMethod ({ cls := "TrunkDuel$Trunk", name := "strapAt", desc := "(III)Z" } : Jvm.MethodName)) ∈ gw := gwt 495 (by decide +kernel) rfl
theorem kw_496 : (Jvm.Cond.selects "TrunkDuel$Trunk" ({ cls := "TrunkDuel$Trunk", name := "strapAt", desc := "(III)Z" } : Jvm.MethodName) ({ cls := "TrunkDuel$Trunk", name := "strapAt", desc := "(III)Z" } : Jvm.MethodName)) ∈ gw := gwt 496 (by decide +kernel) rfl
theorem kw_497 : (Jvm.Cond.code ({ cls := "TrunkDuel$Trunk", name := "strapAt", desc := "(III)Z" } : Jvm.MethodName) prog_11_method_8_code (4 : Nat) (Option.some Jvm.ClassFile.FieldType.boolean)) ∈ gw := gwt 497 (by decide +kernel) rfl
theorem kw_498 : (Jvm.Cond.methodLink "TrunkDuel$Reader" (166 : Nat) ({ cls := "TrunkDuel$Trunk", name := "isEdgeBlocked", desc := "(III)Z" } : Jvm.MethodName)) ∈ gw := gwt 498 (by decide +kernel) rfl
theorem kw_499 : (Jvm.Cond.instanceMethod ({ cls := "TrunkDuel$Trunk", name := "isEdgeBlocked", desc := "(III)Z" } : Jvm.MethodName)) ∈ gw := gwt 499 (by decide +kernel) rfl
theorem kw_500 : (Jvm.Cond.selects "TrunkDuel$Trunk" ({ cls := "TrunkDuel$Trunk", name := "isEdgeBlocked", desc := "(III)Z" } : Jvm.MethodName) ({ cls := "TrunkDuel$Trunk", name := "isEdgeBlocked", desc := "(III)Z" } : Jvm.MethodName)) ∈ gw := gwt 500 (by decide +kernel) rfl
theorem kw_501 : (Jvm.Cond.code ({ cls := "TrunkDuel$Trunk", name := "isEdgeBlocked", desc := "(III)Z" } : Jvm.MethodName) prog_11_method_11_code (4 : Nat) (Option.some Jvm.ClassFile.FieldType.boolean)) ∈ gw := gwt 501 (by decide +kernel) rfl
theorem kw_507 : (Jvm.Cond.methodLink "TrunkDuel$Reader" (169 : Nat) ({ cls := "TrunkDuel$Trunk", name := "setStrap", desc := "(III)V" } : Jvm.MethodName)) ∈ gw := gwt 507 (by decide +kernel) rfl
theorem kw_508 : (Jvm.Cond.instanceMethod ({ cls := "TrunkDuel$Trunk", name := "setStrap", desc := "(III)V" } : Jvm.MethodName)) ∈ gw := gwt 508 (by decide +kernel) rfl
theorem kw_509 : (Jvm.Cond.selects "TrunkDuel$Trunk" ({ cls := "TrunkDuel$Trunk", name := "setStrap", desc := "(III)V" } : Jvm.MethodName) ({ cls := "TrunkDuel$Trunk", name := "setStrap", desc := "(III)V" } : Jvm.MethodName)) ∈ gw := gwt 509 (by decide +kernel) rfl
theorem kw_510 : (Jvm.Cond.code ({ cls := "TrunkDuel$Trunk", name := "setStrap", desc := "(III)V" } : Jvm.MethodName) prog_11_method_9_code (4 : Nat) (Option.none : Option Jvm.ClassFile.FieldType)) ∈ gw := gwt 510 (by decide +kernel) rfl
theorem kw_517 : (Jvm.Cond.methodLink "TrunkDuel$Reader" (174 : Nat) ({ cls := "TrunkDuel$Reader", name := "readName", desc := "(I)Z" } : Jvm.MethodName)) ∈ gw := gwt 517 (by decide +kernel) rfl
theorem kw_519 : (Jvm.Cond.instanceMethod ({ cls := "TrunkDuel$Reader", name := "readName", desc := "(I)Z" } : Jvm.MethodName)) ∈ gw := gwt 519 (by decide +kernel) rfl
theorem kp_14 : (Jvm.Cond.selects "TrunkDuel$Reader" ({ cls := "TrunkDuel$Reader", name := "readName", desc := "(I)Z" } : Jvm.MethodName) ({ cls := "TrunkDuel$Reader", name := "readName", desc := "(I)Z" } : Jvm.MethodName)) ∈ gw := gws 14 (by decide +kernel) rfl
theorem kw_520 : (Jvm.Cond.code ({ cls := "TrunkDuel$Reader", name := "readName", desc := "(I)Z" } : Jvm.MethodName) prog_8_method_14_code (3 : Nat) (Option.some Jvm.ClassFile.FieldType.boolean)) ∈ gw := gwt 520 (by decide +kernel) rfl
theorem kw_521 : (Jvm.Cond.methodLink "TrunkDuel$Reader" (177 : Nat) ({ cls := "TrunkDuel$State", name := "playerOf", desc := "(I)LTrunkDuel$Player;" } : Jvm.MethodName)) ∈ gw := gwt 521 (by decide +kernel) rfl
theorem kw_533 : (Jvm.Cond.methodLink "TrunkDuel$Reader" (181 : Nat) ({ cls := "TrunkDuel$Player", name := "setSupply", desc := "(II)V" } : Jvm.MethodName)) ∈ gw := gwt 533 (by decide +kernel) rfl
theorem kw_534 : (Jvm.Cond.instanceMethod ({ cls := "TrunkDuel$Player", name := "setSupply", desc := "(II)V" } : Jvm.MethodName)) ∈ gw := gwt 534 (by decide +kernel) rfl
theorem kw_535 : (Jvm.Cond.selects "TrunkDuel$Player" ({ cls := "TrunkDuel$Player", name := "setSupply", desc := "(II)V" } : Jvm.MethodName) ({ cls := "TrunkDuel$Player", name := "setSupply", desc := "(II)V" } : Jvm.MethodName)) ∈ gw := gwt 535 (by decide +kernel) rfl
theorem kw_536 : (Jvm.Cond.code ({ cls := "TrunkDuel$Player", name := "setSupply", desc := "(II)V" } : Jvm.MethodName) prog_7_method_8_code (3 : Nat) (Option.none : Option Jvm.ClassFile.FieldType)) ∈ gw := gwt 536 (by decide +kernel) rfl
theorem kw_117 : (Jvm.Cond.fieldLink "TrunkDuel$Reader" (186 : Nat) "TrunkDuel$Player" "straps" "I") ∈ gw := gwt 117 (by decide +kernel) rfl
theorem kw_413 : (Jvm.Cond.methodLink "TrunkDuel$Reader" (189 : Nat) ({ cls := "TrunkDuel$Reader", name := "byteAt", desc := "(I)I" } : Jvm.MethodName)) ∈ gw := gwt 413 (by decide +kernel) rfl
theorem kw_415 : (Jvm.Cond.instanceMethod ({ cls := "TrunkDuel$Reader", name := "byteAt", desc := "(I)I" } : Jvm.MethodName)) ∈ gw := gwt 415 (by decide +kernel) rfl
theorem kp_3 : (Jvm.Cond.selects "TrunkDuel$Reader" ({ cls := "TrunkDuel$Reader", name := "byteAt", desc := "(I)I" } : Jvm.MethodName) ({ cls := "TrunkDuel$Reader", name := "byteAt", desc := "(I)I" } : Jvm.MethodName)) ∈ gw := gws 3 (by decide +kernel) rfl
theorem kw_416 : (Jvm.Cond.code ({ cls := "TrunkDuel$Reader", name := "byteAt", desc := "(I)I" } : Jvm.MethodName) prog_8_method_26_code (2 : Nat) (Option.some Jvm.ClassFile.FieldType.int)) ∈ gw := gwt 416 (by decide +kernel) rfl
theorem kw_525 : (Jvm.Cond.methodLink "TrunkDuel$Reader" (193 : Nat) ({ cls := "TrunkDuel$Player", name := "addLetter", desc := "(I)V" } : Jvm.MethodName)) ∈ gw := gwt 525 (by decide +kernel) rfl
theorem kw_526 : (Jvm.Cond.instanceMethod ({ cls := "TrunkDuel$Player", name := "addLetter", desc := "(I)V" } : Jvm.MethodName)) ∈ gw := gwt 526 (by decide +kernel) rfl
theorem kw_527 : (Jvm.Cond.selects "TrunkDuel$Player" ({ cls := "TrunkDuel$Player", name := "addLetter", desc := "(I)V" } : Jvm.MethodName) ({ cls := "TrunkDuel$Player", name := "addLetter", desc := "(I)V" } : Jvm.MethodName)) ∈ gw := gwt 527 (by decide +kernel) rfl
theorem kw_528 : (Jvm.Cond.code ({ cls := "TrunkDuel$Player", name := "addLetter", desc := "(I)V" } : Jvm.MethodName) prog_7_method_4_code (2 : Nat) (Option.none : Option Jvm.ClassFile.FieldType)) ∈ gw := gwt 528 (by decide +kernel) rfl
theorem kw_143 : (Jvm.Cond.fieldLink "TrunkDuel$Reader" (196 : Nat) "TrunkDuel$State" "second" "LTrunkDuel$Player;") ∈ gw := gwt 143 (by decide +kernel) rfl
theorem kw_140 : (Jvm.Cond.fieldLink "TrunkDuel$Reader" (200 : Nat) "TrunkDuel$State" "first" "LTrunkDuel$Player;") ∈ gw := gwt 140 (by decide +kernel) rfl
theorem kw_529 : (Jvm.Cond.methodLink "TrunkDuel$Reader" (203 : Nat) ({ cls := "TrunkDuel$Player", name := "hasNameOf", desc := "(LTrunkDuel$Player;)Z" } : Jvm.MethodName)) ∈ gw := gwt 529 (by decide +kernel) rfl
theorem kw_530 : (Jvm.Cond.instanceMethod ({ cls := "TrunkDuel$Player", name := "hasNameOf", desc := "(LTrunkDuel$Player;)Z" } : Jvm.MethodName)) ∈ gw := gwt 530 (by decide +kernel) rfl
theorem kw_531 : (Jvm.Cond.selects "TrunkDuel$Player" ({ cls := "TrunkDuel$Player", name := "hasNameOf", desc := "(LTrunkDuel$Player;)Z" } : Jvm.MethodName) ({ cls := "TrunkDuel$Player", name := "hasNameOf", desc := "(LTrunkDuel$Player;)Z" } : Jvm.MethodName)) ∈ gw := gwt 531 (by decide +kernel) rfl
theorem kw_532 : (Jvm.Cond.code ({ cls := "TrunkDuel$Player", name := "hasNameOf", desc := "(LTrunkDuel$Player;)Z" } : Jvm.MethodName) prog_7_method_6_code (3 : Nat) (Option.some Jvm.ClassFile.FieldType.boolean)) ∈ gw := gwt 532 (by decide +kernel) rfl
theorem kw_546 : (Jvm.Cond.methodLink "TrunkDuel$Reader" (207 : Nat) ({ cls := "TrunkDuel$Reader", name := "shapeOfToken", desc := "()I" } : Jvm.MethodName)) ∈ gw := gwt 546 (by decide +kernel) rfl
theorem kw_548 : (Jvm.Cond.instanceMethod ({ cls := "TrunkDuel$Reader", name := "shapeOfToken", desc := "()I" } : Jvm.MethodName)) ∈ gw := gwt 548 (by decide +kernel) rfl
theorem kp_16 : (Jvm.Cond.selects "TrunkDuel$Reader" ({ cls := "TrunkDuel$Reader", name := "shapeOfToken", desc := "()I" } : Jvm.MethodName) ({ cls := "TrunkDuel$Reader", name := "shapeOfToken", desc := "()I" } : Jvm.MethodName)) ∈ gw := gws 16 (by decide +kernel) rfl
theorem kw_549 : (Jvm.Cond.code ({ cls := "TrunkDuel$Reader", name := "shapeOfToken", desc := "()I" } : Jvm.MethodName) prog_8_method_18_code (1 : Nat) (Option.some Jvm.ClassFile.FieldType.int)) ∈ gw := gwt 549 (by decide +kernel) rfl
theorem kw_555 : (Jvm.Cond.methodLink "TrunkDuel$Reader" (210 : Nat) ({ cls := "TrunkDuel$Footprint", name := "turn", desc := "(II)V" } : Jvm.MethodName)) ∈ gw := gwt 555 (by decide +kernel) rfl
theorem kw_573 : (Jvm.Cond.methodLink "TrunkDuel$Reader" (213 : Nat) ({ cls := "TrunkDuel$Footprint", name := "moveTo", desc := "(II)V" } : Jvm.MethodName)) ∈ gw := gwt 573 (by decide +kernel) rfl
theorem kw_577 : (Jvm.Cond.methodLink "TrunkDuel$Reader" (216 : Nat) ({ cls := "TrunkDuel$State", name := "allowsPiece", desc := "(LTrunkDuel$Footprint;)Z" } : Jvm.MethodName)) ∈ gw := gwt 577 (by decide +kernel) rfl
theorem kw_578 : (Jvm.Cond.instanceMethod ({ cls := "TrunkDuel$State", name := "allowsPiece", desc := "(LTrunkDuel$Footprint;)Z" } : Jvm.MethodName)) ∈ gw := gwt 578 (by decide +kernel) rfl
theorem kw_579 : (Jvm.Cond.selects "TrunkDuel$State" ({ cls := "TrunkDuel$State", name := "allowsPiece", desc := "(LTrunkDuel$Footprint;)Z" } : Jvm.MethodName) ({ cls := "TrunkDuel$State", name := "allowsPiece", desc := "(LTrunkDuel$Footprint;)Z" } : Jvm.MethodName)) ∈ gw := gwt 579 (by decide +kernel) rfl
theorem kw_580 : (Jvm.Cond.code ({ cls := "TrunkDuel$State", name := "allowsPiece", desc := "(LTrunkDuel$Footprint;)Z" } : Jvm.MethodName) prog_10_method_6_code (2 : Nat) (Option.some Jvm.ClassFile.FieldType.boolean)) ∈ gw := gwt 580 (by decide +kernel) rfl
theorem kw_619 : (Jvm.Cond.methodLink "TrunkDuel$Reader" (219 : Nat) ({ cls := "TrunkDuel$State", name := "putPiece", desc := "(LTrunkDuel$Footprint;)I" } : Jvm.MethodName)) ∈ gw := gwt 619 (by decide +kernel) rfl
theorem kw_620 : (Jvm.Cond.instanceMethod ({ cls := "TrunkDuel$State", name := "putPiece", desc := "(LTrunkDuel$Footprint;)I" } : Jvm.MethodName)) ∈ gw := gwt 620 (by decide +kernel) rfl
theorem kw_621 : (Jvm.Cond.selects "TrunkDuel$State" ({ cls := "TrunkDuel$State", name := "putPiece", desc := "(LTrunkDuel$Footprint;)I" } : Jvm.MethodName) ({ cls := "TrunkDuel$State", name := "putPiece", desc := "(LTrunkDuel$Footprint;)I" } : Jvm.MethodName)) ∈ gw := gwt 621 (by decide +kernel) rfl
theorem kw_622 : (Jvm.Cond.code ({ cls := "TrunkDuel$State", name := "putPiece", desc := "(LTrunkDuel$Footprint;)I" } : Jvm.MethodName) prog_10_method_7_code (5 : Nat) (Option.some Jvm.ClassFile.FieldType.int)) ∈ gw := gwt 622 (by decide +kernel) rfl
theorem kw_647 : (Jvm.Cond.methodLink "TrunkDuel$Reader" (223 : Nat) ({ cls := "TrunkDuel$State", name := "allowsStrap", desc := "(III)Z" } : Jvm.MethodName)) ∈ gw := gwt 647 (by decide +kernel) rfl
theorem kw_648 : (Jvm.Cond.instanceMethod ({ cls := "TrunkDuel$State", name := "allowsStrap", desc := "(III)Z" } : Jvm.MethodName)) ∈ gw := gwt 648 (by decide +kernel) rfl
theorem kw_649 : (Jvm.Cond.selects "TrunkDuel$State" ({ cls := "TrunkDuel$State", name := "allowsStrap", desc := "(III)Z" } : Jvm.MethodName) ({ cls := "TrunkDuel$State", name := "allowsStrap", desc := "(III)Z" } : Jvm.MethodName)) ∈ gw := gwt 649 (by decide +kernel) rfl
theorem kw_650 : (Jvm.Cond.code ({ cls := "TrunkDuel$State", name := "allowsStrap", desc := "(III)Z" } : Jvm.MethodName) prog_10_method_8_code (4 : Nat) (Option.some Jvm.ClassFile.FieldType.boolean)) ∈ gw := gwt 650 (by decide +kernel) rfl
theorem kw_657 : (Jvm.Cond.methodLink "TrunkDuel$Reader" (226 : Nat) ({ cls := "TrunkDuel$State", name := "putStrap", desc := "(III)I" } : Jvm.MethodName)) ∈ gw := gwt 657 (by decide +kernel) rfl
theorem kw_658 : (Jvm.Cond.instanceMethod ({ cls := "TrunkDuel$State", name := "putStrap", desc := "(III)I" } : Jvm.MethodName)) ∈ gw := gwt 658 (by decide +kernel) rfl
theorem kw_659 : (Jvm.Cond.selects "TrunkDuel$State" ({ cls := "TrunkDuel$State", name := "putStrap", desc := "(III)I" } : Jvm.MethodName) ({ cls := "TrunkDuel$State", name := "putStrap", desc := "(III)I" } : Jvm.MethodName)) ∈ gw := gwt 659 (by decide +kernel) rfl
theorem kw_660 : (Jvm.Cond.code ({ cls := "TrunkDuel$State", name := "putStrap", desc := "(III)I" } : Jvm.MethodName) prog_10_method_9_code (5 : Nat) (Option.some Jvm.ClassFile.FieldType.int)) ∈ gw := gwt 660 (by decide +kernel) rfl
theorem kw_490 : (Jvm.Cond.methodLink "TrunkDuel$Reader" (234 : Nat) ({ cls := "TrunkDuel$Trunk", name := "holdsEdge", desc := "(III)Z" } : Jvm.MethodName)) ∈ gw := gwt 490 (by decide +kernel) rfl
theorem kw_491 : (Jvm.Cond.instanceMethod ({ cls := "TrunkDuel$Trunk", name := "holdsEdge", desc := "(III)Z" } : Jvm.MethodName)) ∈ gw := gwt 491 (by decide +kernel) rfl
theorem kw_492 : (Jvm.Cond.selects "TrunkDuel$Trunk" ({ cls := "TrunkDuel$Trunk", name := "holdsEdge", desc := "(III)Z" } : Jvm.MethodName) ({ cls := "TrunkDuel$Trunk", name := "holdsEdge", desc := "(III)Z" } : Jvm.MethodName)) ∈ gw := gwt 492 (by decide +kernel) rfl
theorem kw_493 : (Jvm.Cond.code ({ cls := "TrunkDuel$Trunk", name := "holdsEdge", desc := "(III)Z" } : Jvm.MethodName) prog_11_method_5_code (4 : Nat) (Option.some Jvm.ClassFile.FieldType.boolean)) ∈ gw := gwt 493 (by decide +kernel) rfl
theorem kw_409 : (Jvm.Cond.methodLink "TrunkDuel$Reader" (247 : Nat) ({ cls := "TrunkDuel$Reader", name := "endOfRun", desc := "(II)I" } : Jvm.MethodName)) ∈ gw := gwt 409 (by decide +kernel) rfl
theorem kw_411 : (Jvm.Cond.instanceMethod ({ cls := "TrunkDuel$Reader", name := "endOfRun", desc := "(II)I" } : Jvm.MethodName)) ∈ gw := gwt 411 (by decide +kernel) rfl
theorem kp_2 : (Jvm.Cond.selects "TrunkDuel$Reader" ({ cls := "TrunkDuel$Reader", name := "endOfRun", desc := "(II)I" } : Jvm.MethodName) ({ cls := "TrunkDuel$Reader", name := "endOfRun", desc := "(II)I" } : Jvm.MethodName)) ∈ gw := gws 2 (by decide +kernel) rfl
theorem kw_412 : (Jvm.Cond.code ({ cls := "TrunkDuel$Reader", name := "endOfRun", desc := "(II)I" } : Jvm.MethodName) prog_8_method_23_code (4 : Nat) (Option.some Jvm.ClassFile.FieldType.int)) ∈ gw := gwt 412 (by decide +kernel) rfl
theorem kw_417 : (Jvm.Cond.methodLink "TrunkDuel$Reader" (250 : Nat) ({ cls := "TrunkDuel$Reader", name := "valueOfToken", desc := "()I" } : Jvm.MethodName)) ∈ gw := gwt 417 (by decide +kernel) rfl
theorem kw_419 : (Jvm.Cond.instanceMethod ({ cls := "TrunkDuel$Reader", name := "valueOfToken", desc := "()I" } : Jvm.MethodName)) ∈ gw := gwt 419 (by decide +kernel) rfl
theorem kp_4 : (Jvm.Cond.selects "TrunkDuel$Reader" ({ cls := "TrunkDuel$Reader", name := "valueOfToken", desc := "()I" } : Jvm.MethodName) ({ cls := "TrunkDuel$Reader", name := "valueOfToken", desc := "()I" } : Jvm.MethodName)) ∈ gw := gws 4 (by decide +kernel) rfl
theorem kw_420 : (Jvm.Cond.code ({ cls := "TrunkDuel$Reader", name := "valueOfToken", desc := "()I" } : Jvm.MethodName) prog_8_method_24_code (3 : Nat) (Option.some Jvm.ClassFile.FieldType.int)) ∈ gw := gwt 420 (by decide +kernel) rfl
theorem kw_421 : (Jvm.Cond.methodLink "TrunkDuel$Reader" (253 : Nat) ({ cls := "java/lang/Math", name := "min", desc := "(II)I" } : Jvm.MethodName)) ∈ gw := gwt 421 (by decide +kernel) rfl
theorem kw_326 : (Jvm.Cond.methodLink "TrunkDuel$Regions" (3 : Nat) ({ cls := "java/lang/Object", name := "<init>", desc := "()V" } : Jvm.MethodName)) ∈ gw := gwt 326 (by decide +kernel) rfl
theorem kw_327 : (Jvm.Cond.fieldLink "TrunkDuel$Regions" (9 : Nat) "TrunkDuel$Regions" "count" "I") ∈ gw := gwt 327 (by decide +kernel) rfl
theorem kw_329 : (Jvm.Cond.fieldLink "TrunkDuel$Regions" (15 : Nat) "TrunkDuel$Regions" "labels" "[I") ∈ gw := gwt 329 (by decide +kernel) rfl
theorem kw_330 : (Jvm.Cond.fieldLink "TrunkDuel$Regions" (19 : Nat) "TrunkDuel$Regions" "sizes" "[I") ∈ gw := gwt 330 (by decide +kernel) rfl
theorem kw_331 : (Jvm.Cond.fieldLink "TrunkDuel$Regions" (22 : Nat) "TrunkDuel$Regions" "queue" "[I") ∈ gw := gwt 331 (by decide +kernel) rfl
theorem kw_332 : (Jvm.Cond.fieldLink "TrunkDuel$Regions" (25 : Nat) "TrunkDuel$Regions" "queued" "I") ∈ gw := gwt 332 (by decide +kernel) rfl
theorem kw_60 : (Jvm.Cond.fieldLink "TrunkDuel$Regions" (28 : Nat) "TrunkDuel$Trunk" "rows" "I") ∈ gw := gwt 60 (by decide +kernel) rfl
theorem kw_56 : (Jvm.Cond.fieldLink "TrunkDuel$Regions" (33 : Nat) "TrunkDuel$Trunk" "columns" "I") ∈ gw := gwt 56 (by decide +kernel) rfl
theorem kw_973 : (Jvm.Cond.methodLink "TrunkDuel$Regions" (36 : Nat) ({ cls := "TrunkDuel$Regions", name := "spreadFrom", desc := "(IILTrunkDuel$Trunk;)V" } : Jvm.MethodName)) ∈ gw := gwt 973 (by decide +kernel) rfl
theorem kw_975 : (Jvm.Cond.instanceMethod ({ cls := "TrunkDuel$Regions", name := "spreadFrom", desc := "(IILTrunkDuel$Trunk;)V" } : Jvm.MethodName)) ∈ gw := gwt 975 (by decide +kernel) rfl
theorem kp_22 : (Jvm.Cond.selects "TrunkDuel$Regions" ({ cls := "TrunkDuel$Regions", name := "spreadFrom", desc := "(IILTrunkDuel$Trunk;)V" } : Jvm.MethodName) ({ cls := "TrunkDuel$Regions", name := "spreadFrom", desc := "(IILTrunkDuel$Trunk;)V" } : Jvm.MethodName)) ∈ gw := gws 22 (by decide +kernel) rfl
theorem kw_11 : (Jvm.Cond.initialized "TrunkDuel$Regions") ∈ gw := gwt 11 (by decide +kernel) rfl
theorem kw_976 : (Jvm.Cond.code ({ cls := "TrunkDuel$Regions", name := "spreadFrom", desc := "(IILTrunkDuel$Trunk;)V" } : Jvm.MethodName) prog_9_method_5_code (7 : Nat) (Option.none : Option Jvm.ClassFile.FieldType)) ∈ gw := gwt 976 (by decide +kernel) rfl
theorem kw_987 : (Jvm.Cond.methodLink "TrunkDuel$Regions" (40 : Nat) ({ cls := "TrunkDuel$Regions", name := "sizeOf", desc := "(I)I" } : Jvm.MethodName)) ∈ gw := gwt 987 (by decide +kernel) rfl
theorem kw_988 : (Jvm.Cond.instanceMethod ({ cls := "TrunkDuel$Regions", name := "sizeOf", desc := "(I)I" } : Jvm.MethodName)) ∈ gw := gwt 988 (by decide +kernel) rfl
theorem kw_989 : (Jvm.Cond.selects "TrunkDuel$Regions" ({ cls := "TrunkDuel$Regions", name := "sizeOf", desc := "(I)I" } : Jvm.MethodName) ({ cls := "TrunkDuel$Regions", name := "sizeOf", desc := "(I)I" } : Jvm.MethodName)) ∈ gw := gwt 989 (by decide +kernel) rfl
theorem kw_990 : (Jvm.Cond.code ({ cls := "TrunkDuel$Regions", name := "sizeOf", desc := "(I)I" } : Jvm.MethodName) prog_9_method_3_code (2 : Nat) (Option.some Jvm.ClassFile.FieldType.int)) ∈ gw := gwt 990 (by decide +kernel) rfl
theorem kw_977 : (Jvm.Cond.methodLink "TrunkDuel$Regions" (44 : Nat) ({ cls := "TrunkDuel$Regions", name := "reach", desc := "(IILTrunkDuel$Trunk;)V" } : Jvm.MethodName)) ∈ gw := gwt 977 (by decide +kernel) rfl
theorem kw_979 : (Jvm.Cond.instanceMethod ({ cls := "TrunkDuel$Regions", name := "reach", desc := "(IILTrunkDuel$Trunk;)V" } : Jvm.MethodName)) ∈ gw := gwt 979 (by decide +kernel) rfl
theorem kp_23 : (Jvm.Cond.selects "TrunkDuel$Regions" ({ cls := "TrunkDuel$Regions", name := "reach", desc := "(IILTrunkDuel$Trunk;)V" } : Jvm.MethodName) ({ cls := "TrunkDuel$Regions", name := "reach", desc := "(IILTrunkDuel$Trunk;)V" } : Jvm.MethodName)) ∈ gw := gws 23 (by decide +kernel) rfl
theorem kw_980 : (Jvm.Cond.code ({ cls := "TrunkDuel$Regions", name := "reach", desc := "(IILTrunkDuel$Trunk;)V" } : Jvm.MethodName) prog_9_method_6_code (5 : Nat) (Option.none : Option Jvm.ClassFile.FieldType)) ∈ gw := gwt 980 (by decide +kernel) rfl
theorem kw_982 : (Jvm.Cond.methodLink "TrunkDuel$Regions" (47 : Nat) ({ cls := "TrunkDuel$Trunk", name := "strapAt", desc := "(III)Z" } : Jvm.MethodName)) ∈ gw := gwt 982 (by decide +kernel) rfl
theorem kw_981 : (Jvm.Cond.methodLink "TrunkDuel$Regions" (51 : Nat) ({ cls := "TrunkDuel$Trunk", name := "cellAt", desc := "(II)I" } : Jvm.MethodName)) ∈ gw := gwt 981 (by decide +kernel) rfl
theorem kw_48 : (Jvm.Cond.methodLink "TrunkDuel$State" (3 : Nat) ({ cls := "java/lang/Object", name := "<init>", desc := "()V" } : Jvm.MethodName)) ∈ gw := gwt 48 (by decide +kernel) rfl
theorem kw_49 : (Jvm.Cond.classLink "TrunkDuel$State" (9 : Nat) "TrunkDuel$Trunk") ∈ gw := gwt 49 (by decide +kernel) rfl
theorem kw_50 : (Jvm.Cond.instantiable "TrunkDuel$Trunk" (4 : Nat)) ∈ gw := gwt 50 (by decide +kernel) rfl
theorem kw_52 : (Jvm.Cond.instanceMethod ({ cls := "TrunkDuel$Trunk", name := "<init>", desc := "()V" } : Jvm.MethodName)) ∈ gw := gwt 52 (by decide +kernel) rfl
theorem kw_53 : (Jvm.Cond.code ({ cls := "TrunkDuel$Trunk", name := "<init>", desc := "()V" } : Jvm.MethodName) prog_11_method_1_code (1 : Nat) (Option.none : Option Jvm.ClassFile.FieldType)) ∈ gw := gwt 53 (by decide +kernel) rfl
theorem kw_133 : (Jvm.Cond.fieldLink "TrunkDuel$State" (12 : Nat) "TrunkDuel$State" "trunk" "LTrunkDuel$Trunk;") ∈ gw := gwt 133 (by decide +kernel) rfl
theorem kw_76 : (Jvm.Cond.classLink "TrunkDuel$State" (18 : Nat) "TrunkDuel$Pieces") ∈ gw := gwt 76 (by decide +kernel) rfl
theorem kw_77 : (Jvm.Cond.instantiable "TrunkDuel$Pieces" (7 : Nat)) ∈ gw := gwt 77 (by decide +kernel) rfl
theorem kw_79 : (Jvm.Cond.instanceMethod ({ cls := "TrunkDuel$Pieces", name := "<init>", desc := "()V" } : Jvm.MethodName)) ∈ gw := gwt 79 (by decide +kernel) rfl
theorem kw_80 : (Jvm.Cond.code ({ cls := "TrunkDuel$Pieces", name := "<init>", desc := "()V" } : Jvm.MethodName) prog_6_method_1_code (1 : Nat) (Option.none : Option Jvm.ClassFile.FieldType)) ∈ gw := gwt 80 (by decide +kernel) rfl
theorem kw_137 : (Jvm.Cond.fieldLink "TrunkDuel$State" (21 : Nat) "TrunkDuel$State" "pieces" "LTrunkDuel$Pieces;") ∈ gw := gwt 137 (by decide +kernel) rfl
theorem kw_106 : (Jvm.Cond.classLink "TrunkDuel$State" (25 : Nat) "TrunkDuel$Player") ∈ gw := gwt 106 (by decide +kernel) rfl
theorem kw_107 : (Jvm.Cond.instantiable "TrunkDuel$Player" (5 : Nat)) ∈ gw := gwt 107 (by decide +kernel) rfl
theorem kw_109 : (Jvm.Cond.instanceMethod ({ cls := "TrunkDuel$Player", name := "<init>", desc := "()V" } : Jvm.MethodName)) ∈ gw := gwt 109 (by decide +kernel) rfl
theorem kw_110 : (Jvm.Cond.code ({ cls := "TrunkDuel$Player", name := "<init>", desc := "()V" } : Jvm.MethodName) prog_7_method_1_code (1 : Nat) (Option.none : Option Jvm.ClassFile.FieldType)) ∈ gw := gwt 110 (by decide +kernel) rfl
theorem kw_139 : (Jvm.Cond.fieldLink "TrunkDuel$State" (28 : Nat) "TrunkDuel$State" "first" "LTrunkDuel$Player;") ∈ gw := gwt 139 (by decide +kernel) rfl
theorem kw_142 : (Jvm.Cond.fieldLink "TrunkDuel$State" (32 : Nat) "TrunkDuel$State" "second" "LTrunkDuel$Player;") ∈ gw := gwt 142 (by decide +kernel) rfl
theorem kw_145 : (Jvm.Cond.fieldLink "TrunkDuel$State" (35 : Nat) "TrunkDuel$State" "mover" "I") ∈ gw := gwt 145 (by decide +kernel) rfl
theorem kw_148 : (Jvm.Cond.fieldLink "TrunkDuel$State" (39 : Nat) "TrunkDuel$State" "passes" "I") ∈ gw := gwt 148 (by decide +kernel) rfl
theorem kw_449 : (Jvm.Cond.methodLink "TrunkDuel$State" (42 : Nat) ({ cls := "TrunkDuel$Trunk", name := "clear", desc := "(II)V" } : Jvm.MethodName)) ∈ gw := gwt 449 (by decide +kernel) rfl
theorem kw_450 : (Jvm.Cond.instanceMethod ({ cls := "TrunkDuel$Trunk", name := "clear", desc := "(II)V" } : Jvm.MethodName)) ∈ gw := gwt 450 (by decide +kernel) rfl
theorem kw_451 : (Jvm.Cond.selects "TrunkDuel$Trunk" ({ cls := "TrunkDuel$Trunk", name := "clear", desc := "(II)V" } : Jvm.MethodName) ({ cls := "TrunkDuel$Trunk", name := "clear", desc := "(II)V" } : Jvm.MethodName)) ∈ gw := gwt 451 (by decide +kernel) rfl
theorem kw_452 : (Jvm.Cond.code ({ cls := "TrunkDuel$Trunk", name := "clear", desc := "(II)V" } : Jvm.MethodName) prog_11_method_2_code (4 : Nat) (Option.none : Option Jvm.ClassFile.FieldType)) ∈ gw := gwt 452 (by decide +kernel) rfl
theorem kw_83 : (Jvm.Cond.fieldLink "TrunkDuel$State" (46 : Nat) "TrunkDuel$Pieces" "count" "I") ∈ gw := gwt 83 (by decide +kernel) rfl
theorem kw_454 : (Jvm.Cond.methodLink "TrunkDuel$State" (49 : Nat) ({ cls := "TrunkDuel$Player", name := "clear", desc := "()V" } : Jvm.MethodName)) ∈ gw := gwt 454 (by decide +kernel) rfl
theorem kw_455 : (Jvm.Cond.instanceMethod ({ cls := "TrunkDuel$Player", name := "clear", desc := "()V" } : Jvm.MethodName)) ∈ gw := gwt 455 (by decide +kernel) rfl
theorem kw_456 : (Jvm.Cond.selects "TrunkDuel$Player" ({ cls := "TrunkDuel$Player", name := "clear", desc := "()V" } : Jvm.MethodName) ({ cls := "TrunkDuel$Player", name := "clear", desc := "()V" } : Jvm.MethodName)) ∈ gw := gwt 456 (by decide +kernel) rfl
theorem kw_457 : (Jvm.Cond.code ({ cls := "TrunkDuel$Player", name := "clear", desc := "()V" } : Jvm.MethodName) prog_7_method_2_code (2 : Nat) (Option.none : Option Jvm.ClassFile.FieldType)) ∈ gw := gwt 457 (by decide +kernel) rfl
theorem kw_690 : (Jvm.Cond.methodLink "TrunkDuel$State" (51 : Nat) ({ cls := "TrunkDuel$Trunk", name := "copyFrom", desc := "(LTrunkDuel$Trunk;)V" } : Jvm.MethodName)) ∈ gw := gwt 690 (by decide +kernel) rfl
theorem kw_691 : (Jvm.Cond.instanceMethod ({ cls := "TrunkDuel$Trunk", name := "copyFrom", desc := "(LTrunkDuel$Trunk;)V" } : Jvm.MethodName)) ∈ gw := gwt 691 (by decide +kernel) rfl
theorem kw_692 : (Jvm.Cond.selects "TrunkDuel$Trunk" ({ cls := "TrunkDuel$Trunk", name := "copyFrom", desc := "(LTrunkDuel$Trunk;)V" } : Jvm.MethodName) ({ cls := "TrunkDuel$Trunk", name := "copyFrom", desc := "(LTrunkDuel$Trunk;)V" } : Jvm.MethodName)) ∈ gw := gwt 692 (by decide +kernel) rfl
theorem kw_693 : (Jvm.Cond.code ({ cls := "TrunkDuel$Trunk", name := "copyFrom", desc := "(LTrunkDuel$Trunk;)V" } : Jvm.MethodName) prog_11_method_3_code (2 : Nat) (Option.none : Option Jvm.ClassFile.FieldType)) ∈ gw := gwt 693 (by decide +kernel) rfl
theorem kw_697 : (Jvm.Cond.methodLink "TrunkDuel$State" (55 : Nat) ({ cls := "TrunkDuel$Pieces", name := "copyFrom", desc := "(LTrunkDuel$Pieces;)V" } : Jvm.MethodName)) ∈ gw := gwt 697 (by decide +kernel) rfl
theorem kw_698 : (Jvm.Cond.instanceMethod ({ cls := "TrunkDuel$Pieces", name := "copyFrom", desc := "(LTrunkDuel$Pieces;)V" } : Jvm.MethodName)) ∈ gw := gwt 698 (by decide +kernel) rfl
theorem kw_699 : (Jvm.Cond.selects "TrunkDuel$Pieces" ({ cls := "TrunkDuel$Pieces", name := "copyFrom", desc := "(LTrunkDuel$Pieces;)V" } : Jvm.MethodName) ({ cls := "TrunkDuel$Pieces", name := "copyFrom", desc := "(LTrunkDuel$Pieces;)V" } : Jvm.MethodName)) ∈ gw := gwt 699 (by decide +kernel) rfl
theorem kw_700 : (Jvm.Cond.code ({ cls := "TrunkDuel$Pieces", name := "copyFrom", desc := "(LTrunkDuel$Pieces;)V" } : Jvm.MethodName) prog_6_method_2_code (2 : Nat) (Option.none : Option Jvm.ClassFile.FieldType)) ∈ gw := gwt 700 (by decide +kernel) rfl
theorem kw_702 : (Jvm.Cond.methodLink "TrunkDuel$State" (58 : Nat) ({ cls := "TrunkDuel$Player", name := "copyFrom", desc := "(LTrunkDuel$Player;)V" } : Jvm.MethodName)) ∈ gw := gwt 702 (by decide +kernel) rfl
theorem kw_703 : (Jvm.Cond.instanceMethod ({ cls := "TrunkDuel$Player", name := "copyFrom", desc := "(LTrunkDuel$Player;)V" } : Jvm.MethodName)) ∈ gw := gwt 703 (by decide +kernel) rfl
theorem kw_704 : (Jvm.Cond.selects "TrunkDuel$Player" ({ cls := "TrunkDuel$Player", name := "copyFrom", desc := "(LTrunkDuel$Player;)V" } : Jvm.MethodName) ({ cls := "TrunkDuel$Player", name := "copyFrom", desc := "(LTrunkDuel$Player;)V" } : Jvm.MethodName)) ∈ gw := gwt 704 (by decide +kernel) rfl
theorem kw_705 : (Jvm.Cond.code ({ cls := "TrunkDuel$Player", name := "copyFrom", desc := "(LTrunkDuel$Player;)V" } : Jvm.MethodName) prog_7_method_3_code (2 : Nat) (Option.none : Option Jvm.ClassFile.FieldType)) ∈ gw := gwt 705 (by decide +kernel) rfl
theorem kw_581 : (Jvm.Cond.methodLink "TrunkDuel$State" (61 : Nat) ({ cls := "TrunkDuel$State", name := "isFinished", desc := "()Z" } : Jvm.MethodName)) ∈ gw := gwt 581 (by decide +kernel) rfl
theorem kw_585 : (Jvm.Cond.methodLink "TrunkDuel$State" (65 : Nat) ({ cls := "TrunkDuel$State", name := "playerOf", desc := "(I)LTrunkDuel$Player;" } : Jvm.MethodName)) ∈ gw := gwt 585 (by decide +kernel) rfl
theorem kw_171 : (Jvm.Cond.fieldLink "TrunkDuel$State" (69 : Nat) "TrunkDuel$Footprint" "shape" "I") ∈ gw := gwt 171 (by decide +kernel) rfl
theorem kw_586 : (Jvm.Cond.methodLink "TrunkDuel$State" (74 : Nat) ({ cls := "TrunkDuel$Player", name := "supplyOf", desc := "(I)I" } : Jvm.MethodName)) ∈ gw := gwt 586 (by decide +kernel) rfl
theorem kw_590 : (Jvm.Cond.methodLink "TrunkDuel$State" (78 : Nat) ({ cls := "TrunkDuel$Trunk", name := "misfitOf", desc := "(LTrunkDuel$Footprint;)I" } : Jvm.MethodName)) ∈ gw := gwt 590 (by decide +kernel) rfl
theorem kw_591 : (Jvm.Cond.instanceMethod ({ cls := "TrunkDuel$Trunk", name := "misfitOf", desc := "(LTrunkDuel$Footprint;)I" } : Jvm.MethodName)) ∈ gw := gwt 591 (by decide +kernel) rfl
theorem kw_592 : (Jvm.Cond.selects "TrunkDuel$Trunk" ({ cls := "TrunkDuel$Trunk", name := "misfitOf", desc := "(LTrunkDuel$Footprint;)I" } : Jvm.MethodName) ({ cls := "TrunkDuel$Trunk", name := "misfitOf", desc := "(LTrunkDuel$Footprint;)I" } : Jvm.MethodName)) ∈ gw := gwt 592 (by decide +kernel) rfl
theorem kw_593 : (Jvm.Cond.code ({ cls := "TrunkDuel$Trunk", name := "misfitOf", desc := "(LTrunkDuel$Footprint;)I" } : Jvm.MethodName) prog_11_method_17_code (6 : Nat) (Option.some Jvm.ClassFile.FieldType.int)) ∈ gw := gwt 593 (by decide +kernel) rfl
theorem kw_623 : (Jvm.Cond.methodLink "TrunkDuel$State" (82 : Nat) ({ cls := "TrunkDuel$Trunk", name := "pointsOf", desc := "(LTrunkDuel$Footprint;)I" } : Jvm.MethodName)) ∈ gw := gwt 623 (by decide +kernel) rfl
theorem kw_182 : (Jvm.Cond.fieldLink "TrunkDuel$State" (85 : Nat) "TrunkDuel$Footprint" "size" "I") ∈ gw := gwt 182 (by decide +kernel) rfl
theorem kw_631 : (Jvm.Cond.methodLink "TrunkDuel$State" (88 : Nat) ({ cls := "TrunkDuel$Footprint", name := "columnOf", desc := "(I)I" } : Jvm.MethodName)) ∈ gw := gwt 631 (by decide +kernel) rfl
theorem kw_595 : (Jvm.Cond.instanceMethod ({ cls := "TrunkDuel$Footprint", name := "columnOf", desc := "(I)I" } : Jvm.MethodName)) ∈ gw := gwt 595 (by decide +kernel) rfl
theorem kw_596 : (Jvm.Cond.selects "TrunkDuel$Footprint" ({ cls := "TrunkDuel$Footprint", name := "columnOf", desc := "(I)I" } : Jvm.MethodName) ({ cls := "TrunkDuel$Footprint", name := "columnOf", desc := "(I)I" } : Jvm.MethodName)) ∈ gw := gwt 596 (by decide +kernel) rfl
theorem kw_597 : (Jvm.Cond.code ({ cls := "TrunkDuel$Footprint", name := "columnOf", desc := "(I)I" } : Jvm.MethodName) prog_4_method_6_code (2 : Nat) (Option.some Jvm.ClassFile.FieldType.int)) ∈ gw := gwt 597 (by decide +kernel) rfl
theorem kw_632 : (Jvm.Cond.methodLink "TrunkDuel$State" (91 : Nat) ({ cls := "TrunkDuel$Footprint", name := "rowOf", desc := "(I)I" } : Jvm.MethodName)) ∈ gw := gwt 632 (by decide +kernel) rfl
theorem kw_599 : (Jvm.Cond.instanceMethod ({ cls := "TrunkDuel$Footprint", name := "rowOf", desc := "(I)I" } : Jvm.MethodName)) ∈ gw := gwt 599 (by decide +kernel) rfl
theorem kw_600 : (Jvm.Cond.selects "TrunkDuel$Footprint" ({ cls := "TrunkDuel$Footprint", name := "rowOf", desc := "(I)I" } : Jvm.MethodName) ({ cls := "TrunkDuel$Footprint", name := "rowOf", desc := "(I)I" } : Jvm.MethodName)) ∈ gw := gwt 600 (by decide +kernel) rfl
theorem kw_601 : (Jvm.Cond.code ({ cls := "TrunkDuel$Footprint", name := "rowOf", desc := "(I)I" } : Jvm.MethodName) prog_4_method_7_code (2 : Nat) (Option.some Jvm.ClassFile.FieldType.int)) ∈ gw := gwt 601 (by decide +kernel) rfl
theorem kw_633 : (Jvm.Cond.methodLink "TrunkDuel$State" (94 : Nat) ({ cls := "TrunkDuel$Trunk", name := "setCell", desc := "(III)V" } : Jvm.MethodName)) ∈ gw := gwt 633 (by decide +kernel) rfl
theorem kw_634 : (Jvm.Cond.methodLink "TrunkDuel$State" (98 : Nat) ({ cls := "TrunkDuel$Pieces", name := "add", desc := "(LTrunkDuel$Footprint;II)V" } : Jvm.MethodName)) ∈ gw := gwt 634 (by decide +kernel) rfl
theorem kw_635 : (Jvm.Cond.instanceMethod ({ cls := "TrunkDuel$Pieces", name := "add", desc := "(LTrunkDuel$Footprint;II)V" } : Jvm.MethodName)) ∈ gw := gwt 635 (by decide +kernel) rfl
theorem kw_636 : (Jvm.Cond.selects "TrunkDuel$Pieces" ({ cls := "TrunkDuel$Pieces", name := "add", desc := "(LTrunkDuel$Footprint;II)V" } : Jvm.MethodName) ({ cls := "TrunkDuel$Pieces", name := "add", desc := "(LTrunkDuel$Footprint;II)V" } : Jvm.MethodName)) ∈ gw := gwt 636 (by decide +kernel) rfl
theorem kw_637 : (Jvm.Cond.code ({ cls := "TrunkDuel$Pieces", name := "add", desc := "(LTrunkDuel$Footprint;II)V" } : Jvm.MethodName) prog_6_method_3_code (4 : Nat) (Option.none : Option Jvm.ClassFile.FieldType)) ∈ gw := gwt 637 (by decide +kernel) rfl
theorem kw_638 : (Jvm.Cond.methodLink "TrunkDuel$State" (102 : Nat) ({ cls := "TrunkDuel$Player", name := "setSupply", desc := "(II)V" } : Jvm.MethodName)) ∈ gw := gwt 638 (by decide +kernel) rfl
theorem kw_113 : (Jvm.Cond.fieldLink "TrunkDuel$State" (105 : Nat) "TrunkDuel$Player" "score" "I") ∈ gw := gwt 113 (by decide +kernel) rfl
theorem kw_639 : (Jvm.Cond.methodLink "TrunkDuel$State" (108 : Nat) ({ cls := "TrunkDuel$State", name := "endTurn", desc := "(I)V" } : Jvm.MethodName)) ∈ gw := gwt 639 (by decide +kernel) rfl
theorem kw_641 : (Jvm.Cond.instanceMethod ({ cls := "TrunkDuel$State", name := "endTurn", desc := "(I)V" } : Jvm.MethodName)) ∈ gw := gwt 641 (by decide +kernel) rfl
theorem kp_18 : (Jvm.Cond.selects "TrunkDuel$State" ({ cls := "TrunkDuel$State", name := "endTurn", desc := "(I)V" } : Jvm.MethodName) ({ cls := "TrunkDuel$State", name := "endTurn", desc := "(I)V" } : Jvm.MethodName)) ∈ gw := gws 18 (by decide +kernel) rfl
theorem kw_642 : (Jvm.Cond.code ({ cls := "TrunkDuel$State", name := "endTurn", desc := "(I)V" } : Jvm.MethodName) prog_10_method_13_code (2 : Nat) (Option.none : Option Jvm.ClassFile.FieldType)) ∈ gw := gwt 642 (by decide +kernel) rfl
theorem kw_116 : (Jvm.Cond.fieldLink "TrunkDuel$State" (112 : Nat) "TrunkDuel$Player" "straps" "I") ∈ gw := gwt 116 (by decide +kernel) rfl
theorem kw_651 : (Jvm.Cond.methodLink "TrunkDuel$State" (115 : Nat) ({ cls := "TrunkDuel$Trunk", name := "strapAt", desc := "(III)Z" } : Jvm.MethodName)) ∈ gw := gwt 651 (by decide +kernel) rfl
theorem kw_652 : (Jvm.Cond.methodLink "TrunkDuel$State" (119 : Nat) ({ cls := "TrunkDuel$Trunk", name := "isEdgeBlocked", desc := "(III)Z" } : Jvm.MethodName)) ∈ gw := gwt 652 (by decide +kernel) rfl
theorem kw_653 : (Jvm.Cond.methodLink "TrunkDuel$State" (122 : Nat) ({ cls := "TrunkDuel$Trunk", name := "isEdgeCovered", desc := "(III)Z" } : Jvm.MethodName)) ∈ gw := gwt 653 (by decide +kernel) rfl
theorem kw_654 : (Jvm.Cond.instanceMethod ({ cls := "TrunkDuel$Trunk", name := "isEdgeCovered", desc := "(III)Z" } : Jvm.MethodName)) ∈ gw := gwt 654 (by decide +kernel) rfl
theorem kw_655 : (Jvm.Cond.selects "TrunkDuel$Trunk" ({ cls := "TrunkDuel$Trunk", name := "isEdgeCovered", desc := "(III)Z" } : Jvm.MethodName) ({ cls := "TrunkDuel$Trunk", name := "isEdgeCovered", desc := "(III)Z" } : Jvm.MethodName)) ∈ gw := gwt 655 (by decide +kernel) rfl
theorem kw_656 : (Jvm.Cond.code ({ cls := "TrunkDuel$Trunk", name := "isEdgeCovered", desc := "(III)Z" } : Jvm.MethodName) prog_11_method_12_code (5 : Nat) (Option.some Jvm.ClassFile.FieldType.boolean)) ∈ gw := gwt 656 (by decide +kernel) rfl
theorem kw_661 : (Jvm.Cond.methodLink "TrunkDuel$State" (125 : Nat) ({ cls := "TrunkDuel$Trunk", name := "setStrap", desc := "(III)V" } : Jvm.MethodName)) ∈ gw := gwt 661 (by decide +kernel) rfl
theorem kw_667 : (Jvm.Cond.methodLink "TrunkDuel$State" (128 : Nat) ({ cls := "TrunkDuel$Footprint", name := "startAll", desc := "(I)V" } : Jvm.MethodName)) ∈ gw := gwt 667 (by decide +kernel) rfl
theorem kw_673 : (Jvm.Cond.methodLink "TrunkDuel$State" (131 : Nat) ({ cls := "TrunkDuel$Trunk", name := "findNext", desc := "(LTrunkDuel$Footprint;)Z" } : Jvm.MethodName)) ∈ gw := gwt 673 (by decide +kernel) rfl
theorem kw_1232 : (Jvm.Cond.methodLink "TrunkDuel$State" (135 : Nat) ({ cls := "TrunkDuel$Trunk", name := "countFitting", desc := "(ILTrunkDuel$Footprint;)I" } : Jvm.MethodName)) ∈ gw := gwt 1232 (by decide +kernel) rfl
theorem kw_1233 : (Jvm.Cond.instanceMethod ({ cls := "TrunkDuel$Trunk", name := "countFitting", desc := "(ILTrunkDuel$Footprint;)I" } : Jvm.MethodName)) ∈ gw := gwt 1233 (by decide +kernel) rfl
theorem kw_1234 : (Jvm.Cond.selects "TrunkDuel$Trunk" ({ cls := "TrunkDuel$Trunk", name := "countFitting", desc := "(ILTrunkDuel$Footprint;)I" } : Jvm.MethodName) ({ cls := "TrunkDuel$Trunk", name := "countFitting", desc := "(ILTrunkDuel$Footprint;)I" } : Jvm.MethodName)) ∈ gw := gwt 1234 (by decide +kernel) rfl
theorem kw_1235 : (Jvm.Cond.code ({ cls := "TrunkDuel$Trunk", name := "countFitting", desc := "(ILTrunkDuel$Footprint;)I" } : Jvm.MethodName) prog_11_method_20_code (4 : Nat) (Option.some Jvm.ClassFile.FieldType.int)) ∈ gw := gwt 1235 (by decide +kernel) rfl
theorem kw_54 : (Jvm.Cond.methodLink "TrunkDuel$Trunk" (3 : Nat) ({ cls := "java/lang/Object", name := "<init>", desc := "()V" } : Jvm.MethodName)) ∈ gw := gwt 54 (by decide +kernel) rfl
theorem kw_55 : (Jvm.Cond.fieldLink "TrunkDuel$Trunk" (9 : Nat) "TrunkDuel$Trunk" "columns" "I") ∈ gw := gwt 55 (by decide +kernel) rfl
theorem kw_59 : (Jvm.Cond.fieldLink "TrunkDuel$Trunk" (15 : Nat) "TrunkDuel$Trunk" "rows" "I") ∈ gw := gwt 59 (by decide +kernel) rfl
theorem kw_63 : (Jvm.Cond.fieldLink "TrunkDuel$Trunk" (18 : Nat) "TrunkDuel$Trunk" "cells" "[I") ∈ gw := gwt 63 (by decide +kernel) rfl
theorem kw_75 : (Jvm.Cond.arrayClass Jvm.ClassFile.FieldType.boolean) ∈ gw := gwt 75 (by decide +kernel) rfl
theorem kw_64 : (Jvm.Cond.fieldLink "TrunkDuel$Trunk" (22 : Nat) "TrunkDuel$Trunk" "straps" "[Z") ∈ gw := gwt 64 (by decide +kernel) rfl
theorem kw_453 : (Jvm.Cond.methodLink "TrunkDuel$Trunk" (26 : Nat) ({ cls := "java/lang/Math", name := "min", desc := "(II)I" } : Jvm.MethodName)) ∈ gw := gwt 453 (by decide +kernel) rfl
theorem kw_694 : (Jvm.Cond.methodLink "TrunkDuel$Trunk" (32 : Nat) ({ cls := "java/lang/System", name := "arraycopy", desc := "(Ljava/lang/Object;ILjava/lang/Object;II)V" } : Jvm.MethodName)) ∈ gw := gwt 694 (by decide +kernel) rfl
theorem kw_475 : (Jvm.Cond.methodLink "TrunkDuel$Trunk" (38 : Nat) ({ cls := "TrunkDuel$Trunk", name := "holds", desc := "(II)Z" } : Jvm.MethodName)) ∈ gw := gwt 475 (by decide +kernel) rfl
theorem kw_476 : (Jvm.Cond.instanceMethod ({ cls := "TrunkDuel$Trunk", name := "holds", desc := "(II)Z" } : Jvm.MethodName)) ∈ gw := gwt 476 (by decide +kernel) rfl
theorem kw_477 : (Jvm.Cond.selects "TrunkDuel$Trunk" ({ cls := "TrunkDuel$Trunk", name := "holds", desc := "(II)Z" } : Jvm.MethodName) ({ cls := "TrunkDuel$Trunk", name := "holds", desc := "(II)Z" } : Jvm.MethodName)) ∈ gw := gwt 477 (by decide +kernel) rfl
theorem kw_478 : (Jvm.Cond.code ({ cls := "TrunkDuel$Trunk", name := "holds", desc := "(II)Z" } : Jvm.MethodName) prog_11_method_4_code (3 : Nat) (Option.some Jvm.ClassFile.FieldType.boolean)) ∈ gw := gwt 478 (by decide +kernel) rfl
theorem kw_511 : (Jvm.Cond.methodLink "TrunkDuel$Trunk" (42 : Nat) ({ cls := "TrunkDuel$Trunk", name := "holdsEdge", desc := "(III)Z" } : Jvm.MethodName)) ∈ gw := gwt 511 (by decide +kernel) rfl
theorem kw_502 : (Jvm.Cond.methodLink "TrunkDuel$Trunk" (46 : Nat) ({ cls := "TrunkDuel$Trunk", name := "cellAt", desc := "(II)I" } : Jvm.MethodName)) ∈ gw := gwt 502 (by decide +kernel) rfl
theorem kw_503 : (Jvm.Cond.methodLink "TrunkDuel$Trunk" (49 : Nat) ({ cls := "TrunkDuel$Trunk", name := "cellBeyond", desc := "(III)I" } : Jvm.MethodName)) ∈ gw := gwt 503 (by decide +kernel) rfl
theorem kw_504 : (Jvm.Cond.instanceMethod ({ cls := "TrunkDuel$Trunk", name := "cellBeyond", desc := "(III)I" } : Jvm.MethodName)) ∈ gw := gwt 504 (by decide +kernel) rfl
theorem kw_505 : (Jvm.Cond.selects "TrunkDuel$Trunk" ({ cls := "TrunkDuel$Trunk", name := "cellBeyond", desc := "(III)I" } : Jvm.MethodName) ({ cls := "TrunkDuel$Trunk", name := "cellBeyond", desc := "(III)I" } : Jvm.MethodName)) ∈ gw := gwt 505 (by decide +kernel) rfl
theorem kw_506 : (Jvm.Cond.code ({ cls := "TrunkDuel$Trunk", name := "cellBeyond", desc := "(III)I" } : Jvm.MethodName) prog_11_method_10_code (4 : Nat) (Option.some Jvm.ClassFile.FieldType.int)) ∈ gw := gwt 506 (by decide +kernel) rfl
theorem kw_1157 : (Jvm.Cond.methodLink "TrunkDuel$Trunk" (53 : Nat) ({ cls := "TrunkDuel$Trunk", name := "countCells", desc := "(I)I" } : Jvm.MethodName)) ∈ gw := gwt 1157 (by decide +kernel) rfl
theorem kw_759 : (Jvm.Cond.instanceMethod ({ cls := "TrunkDuel$Trunk", name := "countCells", desc := "(I)I" } : Jvm.MethodName)) ∈ gw := gwt 759 (by decide +kernel) rfl
theorem kw_760 : (Jvm.Cond.selects "TrunkDuel$Trunk" ({ cls := "TrunkDuel$Trunk", name := "countCells", desc := "(I)I" } : Jvm.MethodName) ({ cls := "TrunkDuel$Trunk", name := "countCells", desc := "(I)I" } : Jvm.MethodName)) ∈ gw := gwt 760 (by decide +kernel) rfl
theorem kw_761 : (Jvm.Cond.code ({ cls := "TrunkDuel$Trunk", name := "countCells", desc := "(I)I" } : Jvm.MethodName) prog_11_method_14_code (5 : Nat) (Option.some Jvm.ClassFile.FieldType.int)) ∈ gw := gwt 761 (by decide +kernel) rfl
theorem kw_183 : (Jvm.Cond.fieldLink "TrunkDuel$Trunk" (57 : Nat) "TrunkDuel$Footprint" "size" "I") ∈ gw := gwt 183 (by decide +kernel) rfl
theorem kw_594 : (Jvm.Cond.methodLink "TrunkDuel$Trunk" (62 : Nat) ({ cls := "TrunkDuel$Footprint", name := "columnOf", desc := "(I)I" } : Jvm.MethodName)) ∈ gw := gwt 594 (by decide +kernel) rfl
theorem kw_598 : (Jvm.Cond.methodLink "TrunkDuel$Trunk" (65 : Nat) ({ cls := "TrunkDuel$Footprint", name := "rowOf", desc := "(I)I" } : Jvm.MethodName)) ∈ gw := gwt 598 (by decide +kernel) rfl
theorem kw_602 : (Jvm.Cond.methodLink "TrunkDuel$Trunk" (68 : Nat) ({ cls := "TrunkDuel$Trunk", name := "isCrossedBy", desc := "(LTrunkDuel$Footprint;)Z" } : Jvm.MethodName)) ∈ gw := gwt 602 (by decide +kernel) rfl
theorem kw_603 : (Jvm.Cond.instanceMethod ({ cls := "TrunkDuel$Trunk", name := "isCrossedBy", desc := "(LTrunkDuel$Footprint;)Z" } : Jvm.MethodName)) ∈ gw := gwt 603 (by decide +kernel) rfl
theorem kw_604 : (Jvm.Cond.selects "TrunkDuel$Trunk" ({ cls := "TrunkDuel$Trunk", name := "isCrossedBy", desc := "(LTrunkDuel$Footprint;)Z" } : Jvm.MethodName) ({ cls := "TrunkDuel$Trunk", name := "isCrossedBy", desc := "(LTrunkDuel$Footprint;)Z" } : Jvm.MethodName)) ∈ gw := gwt 604 (by decide +kernel) rfl
theorem kw_605 : (Jvm.Cond.code ({ cls := "TrunkDuel$Trunk", name := "isCrossedBy", desc := "(LTrunkDuel$Footprint;)Z" } : Jvm.MethodName) prog_11_method_18_code (5 : Nat) (Option.some Jvm.ClassFile.FieldType.boolean)) ∈ gw := gwt 605 (by decide +kernel) rfl
theorem kw_187 : (Jvm.Cond.fieldLink "TrunkDuel$Trunk" (72 : Nat) "TrunkDuel$Footprint" "edges" "I") ∈ gw := gwt 187 (by decide +kernel) rfl
theorem kw_606 : (Jvm.Cond.methodLink "TrunkDuel$Trunk" (75 : Nat) ({ cls := "TrunkDuel$Footprint", name := "edgeColumnOf", desc := "(I)I" } : Jvm.MethodName)) ∈ gw := gwt 606 (by decide +kernel) rfl
theorem kw_610 : (Jvm.Cond.methodLink "TrunkDuel$Trunk" (78 : Nat) ({ cls := "TrunkDuel$Footprint", name := "edgeRowOf", desc := "(I)I" } : Jvm.MethodName)) ∈ gw := gwt 610 (by decide +kernel) rfl
theorem kw_614 : (Jvm.Cond.methodLink "TrunkDuel$Trunk" (81 : Nat) ({ cls := "TrunkDuel$Footprint", name := "sideOf", desc := "(I)I" } : Jvm.MethodName)) ∈ gw := gwt 614 (by decide +kernel) rfl
theorem kw_618 : (Jvm.Cond.methodLink "TrunkDuel$Trunk" (84 : Nat) ({ cls := "TrunkDuel$Trunk", name := "strapAt", desc := "(III)Z" } : Jvm.MethodName)) ∈ gw := gwt 618 (by decide +kernel) rfl
theorem kw_677 : (Jvm.Cond.methodLink "TrunkDuel$Trunk" (87 : Nat) ({ cls := "TrunkDuel$Footprint", name := "advance", desc := "(II)Z" } : Jvm.MethodName)) ∈ gw := gwt 677 (by decide +kernel) rfl
theorem kw_678 : (Jvm.Cond.instanceMethod ({ cls := "TrunkDuel$Footprint", name := "advance", desc := "(II)Z" } : Jvm.MethodName)) ∈ gw := gwt 678 (by decide +kernel) rfl
theorem kw_679 : (Jvm.Cond.selects "TrunkDuel$Footprint" ({ cls := "TrunkDuel$Footprint", name := "advance", desc := "(II)Z" } : Jvm.MethodName) ({ cls := "TrunkDuel$Footprint", name := "advance", desc := "(II)Z" } : Jvm.MethodName)) ∈ gw := gwt 679 (by decide +kernel) rfl
theorem kw_680 : (Jvm.Cond.code ({ cls := "TrunkDuel$Footprint", name := "advance", desc := "(II)Z" } : Jvm.MethodName) prog_4_method_5_code (3 : Nat) (Option.some Jvm.ClassFile.FieldType.boolean)) ∈ gw := gwt 680 (by decide +kernel) rfl
theorem kw_681 : (Jvm.Cond.methodLink "TrunkDuel$Trunk" (90 : Nat) ({ cls := "TrunkDuel$Trunk", name := "misfitOf", desc := "(LTrunkDuel$Footprint;)I" } : Jvm.MethodName)) ∈ gw := gwt 681 (by decide +kernel) rfl
theorem kw_1236 : (Jvm.Cond.methodLink "TrunkDuel$Trunk" (94 : Nat) ({ cls := "TrunkDuel$Footprint", name := "startAll", desc := "(I)V" } : Jvm.MethodName)) ∈ gw := gwt 1236 (by decide +kernel) rfl
theorem kw_1237 : (Jvm.Cond.methodLink "TrunkDuel$Trunk" (98 : Nat) ({ cls := "TrunkDuel$Trunk", name := "findNext", desc := "(LTrunkDuel$Footprint;)Z" } : Jvm.MethodName)) ∈ gw := gwt 1237 (by decide +kernel) rfl
theorem kw_627 : (Jvm.Cond.methodLink "TrunkDuel$Trunk" (101 : Nat) ({ cls := "TrunkDuel$Trunk", name := "countEmptyIn", desc := "(I)I" } : Jvm.MethodName)) ∈ gw := gwt 627 (by decide +kernel) rfl
theorem kw_628 : (Jvm.Cond.instanceMethod ({ cls := "TrunkDuel$Trunk", name := "countEmptyIn", desc := "(I)I" } : Jvm.MethodName)) ∈ gw := gwt 628 (by decide +kernel) rfl
theorem kw_629 : (Jvm.Cond.selects "TrunkDuel$Trunk" ({ cls := "TrunkDuel$Trunk", name := "countEmptyIn", desc := "(I)I" } : Jvm.MethodName) ({ cls := "TrunkDuel$Trunk", name := "countEmptyIn", desc := "(I)I" } : Jvm.MethodName)) ∈ gw := gwt 629 (by decide +kernel) rfl
theorem kw_630 : (Jvm.Cond.code ({ cls := "TrunkDuel$Trunk", name := "countEmptyIn", desc := "(I)I" } : Jvm.MethodName) prog_11_method_13_code (4 : Nat) (Option.some Jvm.ClassFile.FieldType.int)) ∈ gw := gwt 630 (by decide +kernel) rfl
theorem kw_34 : (Jvm.Cond.methodLink "TrunkDuel" (3 : Nat) ({ cls := "java/lang/Object", name := "<init>", desc := "()V" } : Jvm.MethodName)) ∈ gw := gwt 34 (by decide +kernel) rfl
theorem kw_37 : (Jvm.Cond.classLink "TrunkDuel" (9 : Nat) "TrunkDuel$Reader") ∈ gw := gwt 37 (by decide +kernel) rfl
theorem kw_38 : (Jvm.Cond.instantiable "TrunkDuel$Reader" (14 : Nat)) ∈ gw := gwt 38 (by decide +kernel) rfl
theorem kw_40 : (Jvm.Cond.instanceMethod ({ cls := "TrunkDuel$Reader", name := "<init>", desc := "()V" } : Jvm.MethodName)) ∈ gw := gwt 40 (by decide +kernel) rfl
theorem kw_41 : (Jvm.Cond.code ({ cls := "TrunkDuel$Reader", name := "<init>", desc := "()V" } : Jvm.MethodName) prog_8_method_1_code (1 : Nat) (Option.none : Option Jvm.ClassFile.FieldType)) ∈ gw := gwt 41 (by decide +kernel) rfl
theorem kw_711 : (Jvm.Cond.fieldLink "TrunkDuel" (12 : Nat) "TrunkDuel" "reader" "LTrunkDuel$Reader;") ∈ gw := gwt 711 (by decide +kernel) rfl
theorem kw_261 : (Jvm.Cond.classLink "TrunkDuel" (16 : Nat) "TrunkDuel$State") ∈ gw := gwt 261 (by decide +kernel) rfl
theorem kw_712 : (Jvm.Cond.fieldLink "TrunkDuel" (19 : Nat) "TrunkDuel" "present" "LTrunkDuel$State;") ∈ gw := gwt 712 (by decide +kernel) rfl
theorem kw_713 : (Jvm.Cond.fieldLink "TrunkDuel" (23 : Nat) "TrunkDuel" "trial" "LTrunkDuel$State;") ∈ gw := gwt 713 (by decide +kernel) rfl
theorem kw_263 : (Jvm.Cond.classLink "TrunkDuel" (26 : Nat) "TrunkDuel$History") ∈ gw := gwt 263 (by decide +kernel) rfl
theorem kw_264 : (Jvm.Cond.instantiable "TrunkDuel$History" (3 : Nat)) ∈ gw := gwt 264 (by decide +kernel) rfl
theorem kw_8 : (Jvm.Cond.initialized "TrunkDuel$History") ∈ gw := gwt 8 (by decide +kernel) rfl
theorem kw_265 : (Jvm.Cond.methodLink "TrunkDuel" (28 : Nat) ({ cls := "TrunkDuel$History", name := "<init>", desc := "()V" } : Jvm.MethodName)) ∈ gw := gwt 265 (by decide +kernel) rfl
theorem kw_266 : (Jvm.Cond.instanceMethod ({ cls := "TrunkDuel$History", name := "<init>", desc := "()V" } : Jvm.MethodName)) ∈ gw := gwt 266 (by decide +kernel) rfl
theorem kw_267 : (Jvm.Cond.code ({ cls := "TrunkDuel$History", name := "<init>", desc := "()V" } : Jvm.MethodName) prog_5_method_1_code (2 : Nat) (Option.none : Option Jvm.ClassFile.FieldType)) ∈ gw := gwt 267 (by decide +kernel) rfl
theorem kw_714 : (Jvm.Cond.fieldLink "TrunkDuel" (29 : Nat) "TrunkDuel" "history" "LTrunkDuel$History;") ∈ gw := gwt 714 (by decide +kernel) rfl
theorem kw_715 : (Jvm.Cond.fieldLink "TrunkDuel" (33 : Nat) "TrunkDuel" "saved" "[LTrunkDuel$State;") ∈ gw := gwt 715 (by decide +kernel) rfl
theorem kw_716 : (Jvm.Cond.fieldLink "TrunkDuel" (37 : Nat) "TrunkDuel" "isSaved" "[Z") ∈ gw := gwt 716 (by decide +kernel) rfl
theorem kw_283 : (Jvm.Cond.classLink "TrunkDuel" (41 : Nat) "TrunkDuel$Footprint") ∈ gw := gwt 283 (by decide +kernel) rfl
theorem kw_717 : (Jvm.Cond.fieldLink "TrunkDuel" (44 : Nat) "TrunkDuel" "footprint" "LTrunkDuel$Footprint;") ∈ gw := gwt 717 (by decide +kernel) rfl
theorem kw_285 : (Jvm.Cond.classLink "TrunkDuel" (48 : Nat) "TrunkDuel$Choice") ∈ gw := gwt 285 (by decide +kernel) rfl
theorem kw_286 : (Jvm.Cond.instantiable "TrunkDuel$Choice" (5 : Nat)) ∈ gw := gwt 286 (by decide +kernel) rfl
theorem kw_288 : (Jvm.Cond.instanceMethod ({ cls := "TrunkDuel$Choice", name := "<init>", desc := "()V" } : Jvm.MethodName)) ∈ gw := gwt 288 (by decide +kernel) rfl
theorem kw_289 : (Jvm.Cond.code ({ cls := "TrunkDuel$Choice", name := "<init>", desc := "()V" } : Jvm.MethodName) prog_2_method_1_code (1 : Nat) (Option.none : Option Jvm.ClassFile.FieldType)) ∈ gw := gwt 289 (by decide +kernel) rfl
theorem kw_718 : (Jvm.Cond.fieldLink "TrunkDuel" (51 : Nat) "TrunkDuel" "best" "LTrunkDuel$Choice;") ∈ gw := gwt 718 (by decide +kernel) rfl
theorem kw_311 : (Jvm.Cond.classLink "TrunkDuel" (55 : Nat) "TrunkDuel$Crossings") ∈ gw := gwt 311 (by decide +kernel) rfl
theorem kw_312 : (Jvm.Cond.instantiable "TrunkDuel$Crossings" (1 : Nat)) ∈ gw := gwt 312 (by decide +kernel) rfl
theorem kw_314 : (Jvm.Cond.instanceMethod ({ cls := "TrunkDuel$Crossings", name := "<init>", desc := "()V" } : Jvm.MethodName)) ∈ gw := gwt 314 (by decide +kernel) rfl
theorem kw_315 : (Jvm.Cond.code ({ cls := "TrunkDuel$Crossings", name := "<init>", desc := "()V" } : Jvm.MethodName) prog_3_method_1_code (1 : Nat) (Option.none : Option Jvm.ClassFile.FieldType)) ∈ gw := gwt 315 (by decide +kernel) rfl
theorem kw_719 : (Jvm.Cond.fieldLink "TrunkDuel" (58 : Nat) "TrunkDuel" "crossings" "LTrunkDuel$Crossings;") ∈ gw := gwt 719 (by decide +kernel) rfl
theorem kw_321 : (Jvm.Cond.classLink "TrunkDuel" (62 : Nat) "TrunkDuel$Regions") ∈ gw := gwt 321 (by decide +kernel) rfl
theorem kw_322 : (Jvm.Cond.instantiable "TrunkDuel$Regions" (5 : Nat)) ∈ gw := gwt 322 (by decide +kernel) rfl
theorem kw_324 : (Jvm.Cond.instanceMethod ({ cls := "TrunkDuel$Regions", name := "<init>", desc := "()V" } : Jvm.MethodName)) ∈ gw := gwt 324 (by decide +kernel) rfl
theorem kw_325 : (Jvm.Cond.code ({ cls := "TrunkDuel$Regions", name := "<init>", desc := "()V" } : Jvm.MethodName) prog_9_method_1_code (1 : Nat) (Option.none : Option Jvm.ClassFile.FieldType)) ∈ gw := gwt 325 (by decide +kernel) rfl
theorem kw_720 : (Jvm.Cond.fieldLink "TrunkDuel" (65 : Nat) "TrunkDuel" "regions" "LTrunkDuel$Regions;") ∈ gw := gwt 720 (by decide +kernel) rfl
theorem kw_721 : (Jvm.Cond.fieldLink "TrunkDuel" (69 : Nat) "TrunkDuel" "output" "[I") ∈ gw := gwt 721 (by decide +kernel) rfl
theorem kw_722 : (Jvm.Cond.fieldLink "TrunkDuel" (73 : Nat) "TrunkDuel" "outputLength" "I") ∈ gw := gwt 722 (by decide +kernel) rfl
theorem kw_345 : (Jvm.Cond.methodLink "TrunkDuel" (79 : Nat) ({ cls := "TrunkDuel$Reader", name := "writeText", desc := "(Ljava/lang/String;)V" } : Jvm.MethodName)) ∈ gw := gwt 345 (by decide +kernel) rfl
theorem kw_346 : (Jvm.Cond.instanceMethod ({ cls := "TrunkDuel$Reader", name := "writeText", desc := "(Ljava/lang/String;)V" } : Jvm.MethodName)) ∈ gw := gwt 346 (by decide +kernel) rfl
theorem kw_347 : (Jvm.Cond.selects "TrunkDuel$Reader" ({ cls := "TrunkDuel$Reader", name := "writeText", desc := "(Ljava/lang/String;)V" } : Jvm.MethodName) ({ cls := "TrunkDuel$Reader", name := "writeText", desc := "(Ljava/lang/String;)V" } : Jvm.MethodName)) ∈ gw := gwt 347 (by decide +kernel) rfl
theorem kw_348 : (Jvm.Cond.code ({ cls := "TrunkDuel$Reader", name := "writeText", desc := "(Ljava/lang/String;)V" } : Jvm.MethodName) prog_8_method_3_code (3 : Nat) (Option.none : Option Jvm.ClassFile.FieldType)) ∈ gw := gwt 348 (by decide +kernel) rfl
theorem kw_401 : (Jvm.Cond.methodLink "TrunkDuel" (83 : Nat) ({ cls := "TrunkDuel$Reader", name := "startSetup", desc := "()V" } : Jvm.MethodName)) ∈ gw := gwt 401 (by decide +kernel) rfl
theorem kw_402 : (Jvm.Cond.instanceMethod ({ cls := "TrunkDuel$Reader", name := "startSetup", desc := "()V" } : Jvm.MethodName)) ∈ gw := gwt 402 (by decide +kernel) rfl
theorem kw_403 : (Jvm.Cond.selects "TrunkDuel$Reader" ({ cls := "TrunkDuel$Reader", name := "startSetup", desc := "()V" } : Jvm.MethodName) ({ cls := "TrunkDuel$Reader", name := "startSetup", desc := "()V" } : Jvm.MethodName)) ∈ gw := gwt 403 (by decide +kernel) rfl
theorem kw_404 : (Jvm.Cond.code ({ cls := "TrunkDuel$Reader", name := "startSetup", desc := "()V" } : Jvm.MethodName) prog_8_method_6_code (1 : Nat) (Option.none : Option Jvm.ClassFile.FieldType)) ∈ gw := gwt 404 (by decide +kernel) rfl
theorem kw_424 : (Jvm.Cond.methodLink "TrunkDuel" (86 : Nat) ({ cls := "TrunkDuel$Reader", name := "readSetup", desc := "()Z" } : Jvm.MethodName)) ∈ gw := gwt 424 (by decide +kernel) rfl
theorem kw_425 : (Jvm.Cond.instanceMethod ({ cls := "TrunkDuel$Reader", name := "readSetup", desc := "()Z" } : Jvm.MethodName)) ∈ gw := gwt 425 (by decide +kernel) rfl
theorem kw_426 : (Jvm.Cond.selects "TrunkDuel$Reader" ({ cls := "TrunkDuel$Reader", name := "readSetup", desc := "()Z" } : Jvm.MethodName) ({ cls := "TrunkDuel$Reader", name := "readSetup", desc := "()Z" } : Jvm.MethodName)) ∈ gw := gwt 426 (by decide +kernel) rfl
theorem kw_427 : (Jvm.Cond.code ({ cls := "TrunkDuel$Reader", name := "readSetup", desc := "()Z" } : Jvm.MethodName) prog_8_method_8_code (1 : Nat) (Option.some Jvm.ClassFile.FieldType.boolean)) ∈ gw := gwt 427 (by decide +kernel) rfl
theorem kw_537 : (Jvm.Cond.methodLink "TrunkDuel" (90 : Nat) ({ cls := "TrunkDuel$Reader", name := "readCommands", desc := "()Z" } : Jvm.MethodName)) ∈ gw := gwt 537 (by decide +kernel) rfl
theorem kw_538 : (Jvm.Cond.instanceMethod ({ cls := "TrunkDuel$Reader", name := "readCommands", desc := "()Z" } : Jvm.MethodName)) ∈ gw := gwt 538 (by decide +kernel) rfl
theorem kw_539 : (Jvm.Cond.selects "TrunkDuel$Reader" ({ cls := "TrunkDuel$Reader", name := "readCommands", desc := "()Z" } : Jvm.MethodName) ({ cls := "TrunkDuel$Reader", name := "readCommands", desc := "()Z" } : Jvm.MethodName)) ∈ gw := gwt 539 (by decide +kernel) rfl
theorem kw_540 : (Jvm.Cond.code ({ cls := "TrunkDuel$Reader", name := "readCommands", desc := "()Z" } : Jvm.MethodName) prog_8_method_9_code (3 : Nat) (Option.some Jvm.ClassFile.FieldType.boolean)) ∈ gw := gwt 540 (by decide +kernel) rfl
theorem kw_222 : (Jvm.Cond.fieldLink "TrunkDuel" (93 : Nat) "TrunkDuel$Reader" "draft" "LTrunkDuel$State;") ∈ gw := gwt 222 (by decide +kernel) rfl
theorem kw_686 : (Jvm.Cond.methodLink "TrunkDuel" (96 : Nat) ({ cls := "TrunkDuel$State", name := "copyFrom", desc := "(LTrunkDuel$State;)V" } : Jvm.MethodName)) ∈ gw := gwt 686 (by decide +kernel) rfl
theorem kw_707 : (Jvm.Cond.methodLink "TrunkDuel" (100 : Nat) ({ cls := "TrunkDuel$Reader", name := "clear", desc := "()V" } : Jvm.MethodName)) ∈ gw := gwt 707 (by decide +kernel) rfl
theorem kw_708 : (Jvm.Cond.instanceMethod ({ cls := "TrunkDuel$Reader", name := "clear", desc := "()V" } : Jvm.MethodName)) ∈ gw := gwt 708 (by decide +kernel) rfl
theorem kw_709 : (Jvm.Cond.selects "TrunkDuel$Reader" ({ cls := "TrunkDuel$Reader", name := "clear", desc := "()V" } : Jvm.MethodName) ({ cls := "TrunkDuel$Reader", name := "clear", desc := "()V" } : Jvm.MethodName)) ∈ gw := gwt 709 (by decide +kernel) rfl
theorem kw_710 : (Jvm.Cond.code ({ cls := "TrunkDuel$Reader", name := "clear", desc := "()V" } : Jvm.MethodName) prog_8_method_27_code (1 : Nat) (Option.none : Option Jvm.ClassFile.FieldType)) ∈ gw := gwt 710 (by decide +kernel) rfl
theorem kw_918 : (Jvm.Cond.methodLink "TrunkDuel" (103 : Nat) ({ cls := "TrunkDuel$Reader", name := "hasRoom", desc := "()Z" } : Jvm.MethodName)) ∈ gw := gwt 918 (by decide +kernel) rfl
theorem kw_919 : (Jvm.Cond.instanceMethod ({ cls := "TrunkDuel$Reader", name := "hasRoom", desc := "()Z" } : Jvm.MethodName)) ∈ gw := gwt 919 (by decide +kernel) rfl
theorem kw_920 : (Jvm.Cond.selects "TrunkDuel$Reader" ({ cls := "TrunkDuel$Reader", name := "hasRoom", desc := "()Z" } : Jvm.MethodName) ({ cls := "TrunkDuel$Reader", name := "hasRoom", desc := "()Z" } : Jvm.MethodName)) ∈ gw := gwt 920 (by decide +kernel) rfl
theorem kw_921 : (Jvm.Cond.code ({ cls := "TrunkDuel$Reader", name := "hasRoom", desc := "()Z" } : Jvm.MethodName) prog_8_method_2_code (1 : Nat) (Option.some Jvm.ClassFile.FieldType.boolean)) ∈ gw := gwt 921 (by decide +kernel) rfl
theorem kw_922 : (Jvm.Cond.methodLink "TrunkDuel" (106 : Nat) ({ cls := "TrunkDuel$Reader", name := "writeFour", desc := "(I)V" } : Jvm.MethodName)) ∈ gw := gwt 922 (by decide +kernel) rfl
theorem kw_923 : (Jvm.Cond.instanceMethod ({ cls := "TrunkDuel$Reader", name := "writeFour", desc := "(I)V" } : Jvm.MethodName)) ∈ gw := gwt 923 (by decide +kernel) rfl
theorem kw_924 : (Jvm.Cond.selects "TrunkDuel$Reader" ({ cls := "TrunkDuel$Reader", name := "writeFour", desc := "(I)V" } : Jvm.MethodName) ({ cls := "TrunkDuel$Reader", name := "writeFour", desc := "(I)V" } : Jvm.MethodName)) ∈ gw := gwt 924 (by decide +kernel) rfl
theorem kw_925 : (Jvm.Cond.code ({ cls := "TrunkDuel$Reader", name := "writeFour", desc := "(I)V" } : Jvm.MethodName) prog_8_method_4_code (2 : Nat) (Option.none : Option Jvm.ClassFile.FieldType)) ∈ gw := gwt 925 (by decide +kernel) rfl
theorem kw_217 : (Jvm.Cond.fieldLink "TrunkDuel" (110 : Nat) "TrunkDuel$Reader" "length" "I") ∈ gw := gwt 217 (by decide +kernel) rfl
theorem kw_893 : (Jvm.Cond.classLink "TrunkDuel" (113 : Nat) "java/lang/IllegalArgumentException") ∈ gw := gwt 893 (by decide +kernel) rfl
theorem kw_26 : (Jvm.Cond.initialized "java/lang/IllegalArgumentException") ∈ gw := gwt 26 (by decide +kernel) rfl
theorem kw_753 : (Jvm.Cond.methodLink "TrunkDuel" (119 : Nat) ({ cls := "TrunkDuel$History", name := "remember", desc := "(LTrunkDuel$State;)V" } : Jvm.MethodName)) ∈ gw := gwt 753 (by decide +kernel) rfl
theorem kw_754 : (Jvm.Cond.instanceMethod ({ cls := "TrunkDuel$History", name := "remember", desc := "(LTrunkDuel$State;)V" } : Jvm.MethodName)) ∈ gw := gwt 754 (by decide +kernel) rfl
theorem kw_755 : (Jvm.Cond.selects "TrunkDuel$History" ({ cls := "TrunkDuel$History", name := "remember", desc := "(LTrunkDuel$State;)V" } : Jvm.MethodName) ({ cls := "TrunkDuel$History", name := "remember", desc := "(LTrunkDuel$State;)V" } : Jvm.MethodName)) ∈ gw := gwt 755 (by decide +kernel) rfl
theorem kw_756 : (Jvm.Cond.code ({ cls := "TrunkDuel$History", name := "remember", desc := "(LTrunkDuel$State;)V" } : Jvm.MethodName) prog_5_method_2_code (2 : Nat) (Option.none : Option Jvm.ClassFile.FieldType)) ∈ gw := gwt 756 (by decide +kernel) rfl
theorem kw_135 : (Jvm.Cond.fieldLink "TrunkDuel" (122 : Nat) "TrunkDuel$State" "trunk" "LTrunkDuel$Trunk;") ∈ gw := gwt 135 (by decide +kernel) rfl
theorem kw_758 : (Jvm.Cond.methodLink "TrunkDuel" (126 : Nat) ({ cls := "TrunkDuel$Trunk", name := "countCells", desc := "(I)I" } : Jvm.MethodName)) ∈ gw := gwt 758 (by decide +kernel) rfl
theorem kw_1005 : (Jvm.Cond.methodLink "TrunkDuel" (144 : Nat) ({ cls := "TrunkDuel", name := "aimAt", desc := "(IIII)V" } : Jvm.MethodName)) ∈ gw := gwt 1005 (by decide +kernel) rfl
theorem kw_1007 : (Jvm.Cond.instanceMethod ({ cls := "TrunkDuel", name := "aimAt", desc := "(IIII)V" } : Jvm.MethodName)) ∈ gw := gwt 1007 (by decide +kernel) rfl
theorem kp_24 : (Jvm.Cond.selects "TrunkDuel" ({ cls := "TrunkDuel", name := "aimAt", desc := "(IIII)V" } : Jvm.MethodName) ({ cls := "TrunkDuel", name := "aimAt", desc := "(IIII)V" } : Jvm.MethodName)) ∈ gw := gws 24 (by decide +kernel) rfl
theorem kw_1 : (Jvm.Cond.initialized "TrunkDuel") ∈ gw := gwt 1 (by decide +kernel) rfl
theorem kw_1008 : (Jvm.Cond.code ({ cls := "TrunkDuel", name := "aimAt", desc := "(IIII)V" } : Jvm.MethodName) prog_1_method_61_code (5 : Nat) (Option.none : Option Jvm.ClassFile.FieldType)) ∈ gw := gwt 1008 (by decide +kernel) rfl
theorem kw_1281 : (Jvm.Cond.methodLink "TrunkDuel" (148 : Nat) ({ cls := "TrunkDuel$State", name := "allowsPiece", desc := "(LTrunkDuel$Footprint;)Z" } : Jvm.MethodName)) ∈ gw := gwt 1281 (by decide +kernel) rfl
theorem kw_783 : (Jvm.Cond.classLink "TrunkDuel" (152 : Nat) "java/lang/IllegalStateException") ∈ gw := gwt 783 (by decide +kernel) rfl
theorem kw_27 : (Jvm.Cond.initialized "java/lang/IllegalStateException") ∈ gw := gwt 27 (by decide +kernel) rfl
theorem kw_1282 : (Jvm.Cond.methodLink "TrunkDuel" (157 : Nat) ({ cls := "TrunkDuel$State", name := "putPiece", desc := "(LTrunkDuel$Footprint;)I" } : Jvm.MethodName)) ∈ gw := gwt 1282 (by decide +kernel) rfl
theorem kw_1024 : (Jvm.Cond.methodLink "TrunkDuel" (161 : Nat) ({ cls := "TrunkDuel", name := "requireEdge", desc := "(III)V" } : Jvm.MethodName)) ∈ gw := gwt 1024 (by decide +kernel) rfl
theorem kw_1026 : (Jvm.Cond.instanceMethod ({ cls := "TrunkDuel", name := "requireEdge", desc := "(III)V" } : Jvm.MethodName)) ∈ gw := gwt 1026 (by decide +kernel) rfl
theorem kp_25 : (Jvm.Cond.selects "TrunkDuel" ({ cls := "TrunkDuel", name := "requireEdge", desc := "(III)V" } : Jvm.MethodName) ({ cls := "TrunkDuel", name := "requireEdge", desc := "(III)V" } : Jvm.MethodName)) ∈ gw := gws 25 (by decide +kernel) rfl
theorem kw_1027 : (Jvm.Cond.code ({ cls := "TrunkDuel", name := "requireEdge", desc := "(III)V" } : Jvm.MethodName) prog_1_method_66_code (4 : Nat) (Option.none : Option Jvm.ClassFile.FieldType)) ∈ gw := gwt 1027 (by decide +kernel) rfl
theorem kw_1252 : (Jvm.Cond.methodLink "TrunkDuel" (165 : Nat) ({ cls := "TrunkDuel$State", name := "allowsStrap", desc := "(III)Z" } : Jvm.MethodName)) ∈ gw := gwt 1252 (by decide +kernel) rfl
theorem kw_1254 : (Jvm.Cond.methodLink "TrunkDuel" (171 : Nat) ({ cls := "TrunkDuel$State", name := "putStrap", desc := "(III)I" } : Jvm.MethodName)) ∈ gw := gwt 1254 (by decide +kernel) rfl
theorem kw_1218 : (Jvm.Cond.methodLink "TrunkDuel" (175 : Nat) ({ cls := "TrunkDuel$State", name := "allowsPass", desc := "(LTrunkDuel$Footprint;)Z" } : Jvm.MethodName)) ∈ gw := gwt 1218 (by decide +kernel) rfl
theorem kw_1220 : (Jvm.Cond.methodLink "TrunkDuel" (180 : Nat) ({ cls := "TrunkDuel$State", name := "skipTurn", desc := "()I" } : Jvm.MethodName)) ∈ gw := gwt 1220 (by decide +kernel) rfl
theorem kw_273 : (Jvm.Cond.fieldLink "TrunkDuel" (184 : Nat) "TrunkDuel$History" "count" "I") ∈ gw := gwt 273 (by decide +kernel) rfl
theorem kw_850 : (Jvm.Cond.methodLink "TrunkDuel" (189 : Nat) ({ cls := "TrunkDuel$History", name := "bringBack", desc := "(LTrunkDuel$State;)V" } : Jvm.MethodName)) ∈ gw := gwt 850 (by decide +kernel) rfl
theorem kw_851 : (Jvm.Cond.instanceMethod ({ cls := "TrunkDuel$History", name := "bringBack", desc := "(LTrunkDuel$State;)V" } : Jvm.MethodName)) ∈ gw := gwt 851 (by decide +kernel) rfl
theorem kw_852 : (Jvm.Cond.selects "TrunkDuel$History" ({ cls := "TrunkDuel$History", name := "bringBack", desc := "(LTrunkDuel$State;)V" } : Jvm.MethodName) ({ cls := "TrunkDuel$History", name := "bringBack", desc := "(LTrunkDuel$State;)V" } : Jvm.MethodName)) ∈ gw := gwt 852 (by decide +kernel) rfl
theorem kw_853 : (Jvm.Cond.code ({ cls := "TrunkDuel$History", name := "bringBack", desc := "(LTrunkDuel$State;)V" } : Jvm.MethodName) prog_5_method_3_code (2 : Nat) (Option.none : Option Jvm.ClassFile.FieldType)) ∈ gw := gwt 853 (by decide +kernel) rfl
theorem kw_58 : (Jvm.Cond.fieldLink "TrunkDuel" (204 : Nat) "TrunkDuel$Trunk" "columns" "I") ∈ gw := gwt 58 (by decide +kernel) rfl
theorem kw_62 : (Jvm.Cond.fieldLink "TrunkDuel" (207 : Nat) "TrunkDuel$Trunk" "rows" "I") ∈ gw := gwt 62 (by decide +kernel) rfl
theorem kw_138 : (Jvm.Cond.fieldLink "TrunkDuel" (195 : Nat) "TrunkDuel$State" "pieces" "LTrunkDuel$Pieces;") ∈ gw := gwt 138 (by decide +kernel) rfl
theorem kw_84 : (Jvm.Cond.fieldLink "TrunkDuel" (199 : Nat) "TrunkDuel$Pieces" "count" "I") ∈ gw := gwt 84 (by decide +kernel) rfl
theorem kw_1129 : (Jvm.Cond.methodLink "TrunkDuel" (210 : Nat) ({ cls := "TrunkDuel$Trunk", name := "countStraps", desc := "()I" } : Jvm.MethodName)) ∈ gw := gwt 1129 (by decide +kernel) rfl
theorem kw_1130 : (Jvm.Cond.instanceMethod ({ cls := "TrunkDuel$Trunk", name := "countStraps", desc := "()I" } : Jvm.MethodName)) ∈ gw := gwt 1130 (by decide +kernel) rfl
theorem kw_1131 : (Jvm.Cond.selects "TrunkDuel$Trunk" ({ cls := "TrunkDuel$Trunk", name := "countStraps", desc := "()I" } : Jvm.MethodName) ({ cls := "TrunkDuel$Trunk", name := "countStraps", desc := "()I" } : Jvm.MethodName)) ∈ gw := gwt 1131 (by decide +kernel) rfl
theorem kw_1132 : (Jvm.Cond.code ({ cls := "TrunkDuel$Trunk", name := "countStraps", desc := "()I" } : Jvm.MethodName) prog_11_method_16_code (3 : Nat) (Option.some Jvm.ClassFile.FieldType.int)) ∈ gw := gwt 1132 (by decide +kernel) rfl
theorem kw_1040 : (Jvm.Cond.methodLink "TrunkDuel" (213 : Nat) ({ cls := "TrunkDuel$Trunk", name := "countEmptyIn", desc := "(I)I" } : Jvm.MethodName)) ∈ gw := gwt 1040 (by decide +kernel) rfl
theorem kw_948 : (Jvm.Cond.methodLink "TrunkDuel" (216 : Nat) ({ cls := "TrunkDuel", name := "requireCell", desc := "(II)V" } : Jvm.MethodName)) ∈ gw := gwt 948 (by decide +kernel) rfl
theorem kw_950 : (Jvm.Cond.instanceMethod ({ cls := "TrunkDuel", name := "requireCell", desc := "(II)V" } : Jvm.MethodName)) ∈ gw := gwt 950 (by decide +kernel) rfl
theorem kp_21 : (Jvm.Cond.selects "TrunkDuel" ({ cls := "TrunkDuel", name := "requireCell", desc := "(II)V" } : Jvm.MethodName) ({ cls := "TrunkDuel", name := "requireCell", desc := "(II)V" } : Jvm.MethodName)) ∈ gw := gws 21 (by decide +kernel) rfl
theorem kw_951 : (Jvm.Cond.code ({ cls := "TrunkDuel", name := "requireCell", desc := "(II)V" } : Jvm.MethodName) prog_1_method_65_code (3 : Nat) (Option.none : Option Jvm.ClassFile.FieldType)) ∈ gw := gwt 951 (by decide +kernel) rfl
theorem kw_954 : (Jvm.Cond.methodLink "TrunkDuel" (220 : Nat) ({ cls := "TrunkDuel$Trunk", name := "cellAt", desc := "(II)I" } : Jvm.MethodName)) ∈ gw := gwt 954 (by decide +kernel) rfl
theorem kw_1031 : (Jvm.Cond.methodLink "TrunkDuel" (224 : Nat) ({ cls := "TrunkDuel$Trunk", name := "strapAt", desc := "(III)Z" } : Jvm.MethodName)) ∈ gw := gwt 1031 (by decide +kernel) rfl
theorem kw_865 : (Jvm.Cond.classLink "TrunkDuel" (227 : Nat) "java/lang/IndexOutOfBoundsException") ∈ gw := gwt 865 (by decide +kernel) rfl
theorem kw_28 : (Jvm.Cond.initialized "java/lang/IndexOutOfBoundsException") ∈ gw := gwt 28 (by decide +kernel) rfl
theorem kw_1048 : (Jvm.Cond.methodLink "TrunkDuel" (232 : Nat) ({ cls := "TrunkDuel", name := "requirePiece", desc := "(I)V" } : Jvm.MethodName)) ∈ gw := gwt 1048 (by decide +kernel) rfl
theorem kw_1050 : (Jvm.Cond.instanceMethod ({ cls := "TrunkDuel", name := "requirePiece", desc := "(I)V" } : Jvm.MethodName)) ∈ gw := gwt 1050 (by decide +kernel) rfl
theorem kp_26 : (Jvm.Cond.selects "TrunkDuel" ({ cls := "TrunkDuel", name := "requirePiece", desc := "(I)V" } : Jvm.MethodName) ({ cls := "TrunkDuel", name := "requirePiece", desc := "(I)V" } : Jvm.MethodName)) ∈ gw := gws 26 (by decide +kernel) rfl
theorem kw_1051 : (Jvm.Cond.code ({ cls := "TrunkDuel", name := "requirePiece", desc := "(I)V" } : Jvm.MethodName) prog_1_method_67_code (2 : Nat) (Option.none : Option Jvm.ClassFile.FieldType)) ∈ gw := gwt 1051 (by decide +kernel) rfl
theorem kw_1068 : (Jvm.Cond.methodLink "TrunkDuel" (235 : Nat) ({ cls := "TrunkDuel$Pieces", name := "shapeOf", desc := "(I)I" } : Jvm.MethodName)) ∈ gw := gwt 1068 (by decide +kernel) rfl
theorem kw_1069 : (Jvm.Cond.instanceMethod ({ cls := "TrunkDuel$Pieces", name := "shapeOf", desc := "(I)I" } : Jvm.MethodName)) ∈ gw := gwt 1069 (by decide +kernel) rfl
theorem kw_1070 : (Jvm.Cond.selects "TrunkDuel$Pieces" ({ cls := "TrunkDuel$Pieces", name := "shapeOf", desc := "(I)I" } : Jvm.MethodName) ({ cls := "TrunkDuel$Pieces", name := "shapeOf", desc := "(I)I" } : Jvm.MethodName)) ∈ gw := gwt 1070 (by decide +kernel) rfl
theorem kw_1071 : (Jvm.Cond.code ({ cls := "TrunkDuel$Pieces", name := "shapeOf", desc := "(I)I" } : Jvm.MethodName) prog_6_method_5_code (2 : Nat) (Option.some Jvm.ClassFile.FieldType.int)) ∈ gw := gwt 1071 (by decide +kernel) rfl
theorem kw_1101 : (Jvm.Cond.methodLink "TrunkDuel" (238 : Nat) ({ cls := "TrunkDuel$Pieces", name := "rotationOf", desc := "(I)I" } : Jvm.MethodName)) ∈ gw := gwt 1101 (by decide +kernel) rfl
theorem kw_1102 : (Jvm.Cond.instanceMethod ({ cls := "TrunkDuel$Pieces", name := "rotationOf", desc := "(I)I" } : Jvm.MethodName)) ∈ gw := gwt 1102 (by decide +kernel) rfl
theorem kw_1103 : (Jvm.Cond.selects "TrunkDuel$Pieces" ({ cls := "TrunkDuel$Pieces", name := "rotationOf", desc := "(I)I" } : Jvm.MethodName) ({ cls := "TrunkDuel$Pieces", name := "rotationOf", desc := "(I)I" } : Jvm.MethodName)) ∈ gw := gwt 1103 (by decide +kernel) rfl
theorem kw_1104 : (Jvm.Cond.code ({ cls := "TrunkDuel$Pieces", name := "rotationOf", desc := "(I)I" } : Jvm.MethodName) prog_6_method_6_code (2 : Nat) (Option.some Jvm.ClassFile.FieldType.int)) ∈ gw := gwt 1104 (by decide +kernel) rfl
theorem kw_1079 : (Jvm.Cond.methodLink "TrunkDuel" (241 : Nat) ({ cls := "TrunkDuel$Pieces", name := "anchorColumnOf", desc := "(I)I" } : Jvm.MethodName)) ∈ gw := gwt 1079 (by decide +kernel) rfl
theorem kw_1080 : (Jvm.Cond.instanceMethod ({ cls := "TrunkDuel$Pieces", name := "anchorColumnOf", desc := "(I)I" } : Jvm.MethodName)) ∈ gw := gwt 1080 (by decide +kernel) rfl
theorem kw_1081 : (Jvm.Cond.selects "TrunkDuel$Pieces" ({ cls := "TrunkDuel$Pieces", name := "anchorColumnOf", desc := "(I)I" } : Jvm.MethodName) ({ cls := "TrunkDuel$Pieces", name := "anchorColumnOf", desc := "(I)I" } : Jvm.MethodName)) ∈ gw := gwt 1081 (by decide +kernel) rfl
theorem kw_1082 : (Jvm.Cond.code ({ cls := "TrunkDuel$Pieces", name := "anchorColumnOf", desc := "(I)I" } : Jvm.MethodName) prog_6_method_7_code (2 : Nat) (Option.some Jvm.ClassFile.FieldType.int)) ∈ gw := gwt 1082 (by decide +kernel) rfl
theorem kw_1090 : (Jvm.Cond.methodLink "TrunkDuel" (244 : Nat) ({ cls := "TrunkDuel$Pieces", name := "anchorRowOf", desc := "(I)I" } : Jvm.MethodName)) ∈ gw := gwt 1090 (by decide +kernel) rfl
theorem kw_1091 : (Jvm.Cond.instanceMethod ({ cls := "TrunkDuel$Pieces", name := "anchorRowOf", desc := "(I)I" } : Jvm.MethodName)) ∈ gw := gwt 1091 (by decide +kernel) rfl
theorem kw_1092 : (Jvm.Cond.selects "TrunkDuel$Pieces" ({ cls := "TrunkDuel$Pieces", name := "anchorRowOf", desc := "(I)I" } : Jvm.MethodName) ({ cls := "TrunkDuel$Pieces", name := "anchorRowOf", desc := "(I)I" } : Jvm.MethodName)) ∈ gw := gwt 1092 (by decide +kernel) rfl
theorem kw_1093 : (Jvm.Cond.code ({ cls := "TrunkDuel$Pieces", name := "anchorRowOf", desc := "(I)I" } : Jvm.MethodName) prog_6_method_8_code (2 : Nat) (Option.some Jvm.ClassFile.FieldType.int)) ∈ gw := gwt 1093 (by decide +kernel) rfl
theorem kw_1298 : (Jvm.Cond.methodLink "TrunkDuel" (247 : Nat) ({ cls := "TrunkDuel$Pieces", name := "ownerOf", desc := "(I)I" } : Jvm.MethodName)) ∈ gw := gwt 1298 (by decide +kernel) rfl
theorem kw_1299 : (Jvm.Cond.instanceMethod ({ cls := "TrunkDuel$Pieces", name := "ownerOf", desc := "(I)I" } : Jvm.MethodName)) ∈ gw := gwt 1299 (by decide +kernel) rfl
theorem kw_1300 : (Jvm.Cond.selects "TrunkDuel$Pieces" ({ cls := "TrunkDuel$Pieces", name := "ownerOf", desc := "(I)I" } : Jvm.MethodName) ({ cls := "TrunkDuel$Pieces", name := "ownerOf", desc := "(I)I" } : Jvm.MethodName)) ∈ gw := gwt 1300 (by decide +kernel) rfl
theorem kw_1301 : (Jvm.Cond.code ({ cls := "TrunkDuel$Pieces", name := "ownerOf", desc := "(I)I" } : Jvm.MethodName) prog_6_method_9_code (2 : Nat) (Option.some Jvm.ClassFile.FieldType.int)) ∈ gw := gwt 1301 (by decide +kernel) rfl
theorem kw_1053 : (Jvm.Cond.methodLink "TrunkDuel" (250 : Nat) ({ cls := "TrunkDuel$Pieces", name := "pointsOf", desc := "(I)I" } : Jvm.MethodName)) ∈ gw := gwt 1053 (by decide +kernel) rfl
theorem kw_1054 : (Jvm.Cond.instanceMethod ({ cls := "TrunkDuel$Pieces", name := "pointsOf", desc := "(I)I" } : Jvm.MethodName)) ∈ gw := gwt 1054 (by decide +kernel) rfl
theorem kw_1055 : (Jvm.Cond.selects "TrunkDuel$Pieces" ({ cls := "TrunkDuel$Pieces", name := "pointsOf", desc := "(I)I" } : Jvm.MethodName) ({ cls := "TrunkDuel$Pieces", name := "pointsOf", desc := "(I)I" } : Jvm.MethodName)) ∈ gw := gwt 1055 (by decide +kernel) rfl
theorem kw_1056 : (Jvm.Cond.code ({ cls := "TrunkDuel$Pieces", name := "pointsOf", desc := "(I)I" } : Jvm.MethodName) prog_6_method_10_code (2 : Nat) (Option.some Jvm.ClassFile.FieldType.int)) ∈ gw := gwt 1056 (by decide +kernel) rfl
theorem kw_774 : (Jvm.Cond.methodLink "TrunkDuel" (253 : Nat) ({ cls := "TrunkDuel$State", name := "isFinished", desc := "()Z" } : Jvm.MethodName)) ∈ gw := gwt 774 (by decide +kernel) rfl
theorem kw_147 : (Jvm.Cond.fieldLink "TrunkDuel" (256 : Nat) "TrunkDuel$State" "mover" "I") ∈ gw := gwt 147 (by decide +kernel) rfl
theorem kw_141 : (Jvm.Cond.fieldLink "TrunkDuel" (259 : Nat) "TrunkDuel$State" "first" "LTrunkDuel$Player;") ∈ gw := gwt 141 (by decide +kernel) rfl
theorem kw_114 : (Jvm.Cond.fieldLink "TrunkDuel" (263 : Nat) "TrunkDuel$Player" "score" "I") ∈ gw := gwt 114 (by decide +kernel) rfl
theorem kw_144 : (Jvm.Cond.fieldLink "TrunkDuel" (268 : Nat) "TrunkDuel$State" "second" "LTrunkDuel$Player;") ∈ gw := gwt 144 (by decide +kernel) rfl
theorem kw_862 : (Jvm.Cond.methodLink "TrunkDuel" (271 : Nat) ({ cls := "TrunkDuel", name := "requirePlayer", desc := "(I)V" } : Jvm.MethodName)) ∈ gw := gwt 862 (by decide +kernel) rfl
theorem kw_864 : (Jvm.Cond.code ({ cls := "TrunkDuel", name := "requirePlayer", desc := "(I)V" } : Jvm.MethodName) prog_1_method_64_code (1 : Nat) (Option.none : Option Jvm.ClassFile.FieldType)) ∈ gw := gwt 864 (by decide +kernel) rfl
theorem kw_863 : (Jvm.Cond.static ({ cls := "TrunkDuel", name := "requirePlayer", desc := "(I)V" } : Jvm.MethodName)) ∈ gw := gwt 863 (by decide +kernel) rfl
theorem kw_881 : (Jvm.Cond.methodLink "TrunkDuel" (274 : Nat) ({ cls := "TrunkDuel$State", name := "playerOf", desc := "(I)LTrunkDuel$Player;" } : Jvm.MethodName)) ∈ gw := gwt 881 (by decide +kernel) rfl
theorem kw_1009 : (Jvm.Cond.methodLink "TrunkDuel" (278 : Nat) ({ cls := "TrunkDuel", name := "requireShape", desc := "(I)V" } : Jvm.MethodName)) ∈ gw := gwt 1009 (by decide +kernel) rfl
theorem kw_1011 : (Jvm.Cond.code ({ cls := "TrunkDuel", name := "requireShape", desc := "(I)V" } : Jvm.MethodName) prog_1_method_62_code (1 : Nat) (Option.none : Option Jvm.ClassFile.FieldType)) ∈ gw := gwt 1011 (by decide +kernel) rfl
theorem kw_1010 : (Jvm.Cond.static ({ cls := "TrunkDuel", name := "requireShape", desc := "(I)V" } : Jvm.MethodName)) ∈ gw := gwt 1010 (by decide +kernel) rfl
theorem kw_1273 : (Jvm.Cond.methodLink "TrunkDuel" (281 : Nat) ({ cls := "TrunkDuel$Player", name := "supplyOf", desc := "(I)I" } : Jvm.MethodName)) ∈ gw := gwt 1273 (by decide +kernel) rfl
theorem kw_118 : (Jvm.Cond.fieldLink "TrunkDuel" (284 : Nat) "TrunkDuel$Player" "straps" "I") ∈ gw := gwt 118 (by decide +kernel) rfl
theorem kw_1016 : (Jvm.Cond.methodLink "TrunkDuel" (290 : Nat) ({ cls := "TrunkDuel$Trunk", name := "misfitOf", desc := "(LTrunkDuel$Footprint;)I" } : Jvm.MethodName)) ∈ gw := gwt 1016 (by decide +kernel) rfl
theorem kw_1265 : (Jvm.Cond.methodLink "TrunkDuel" (293 : Nat) ({ cls := "TrunkDuel$Trunk", name := "pointsOf", desc := "(LTrunkDuel$Footprint;)I" } : Jvm.MethodName)) ∈ gw := gwt 1265 (by decide +kernel) rfl
theorem kw_1228 : (Jvm.Cond.methodLink "TrunkDuel" (295 : Nat) ({ cls := "TrunkDuel$State", name := "countMoves", desc := "(ILTrunkDuel$Footprint;)I" } : Jvm.MethodName)) ∈ gw := gwt 1228 (by decide +kernel) rfl
theorem kw_1229 : (Jvm.Cond.instanceMethod ({ cls := "TrunkDuel$State", name := "countMoves", desc := "(ILTrunkDuel$Footprint;)I" } : Jvm.MethodName)) ∈ gw := gwt 1229 (by decide +kernel) rfl
theorem kw_1230 : (Jvm.Cond.selects "TrunkDuel$State" ({ cls := "TrunkDuel$State", name := "countMoves", desc := "(ILTrunkDuel$Footprint;)I" } : Jvm.MethodName) ({ cls := "TrunkDuel$State", name := "countMoves", desc := "(ILTrunkDuel$Footprint;)I" } : Jvm.MethodName)) ∈ gw := gwt 1230 (by decide +kernel) rfl
theorem kw_1231 : (Jvm.Cond.code ({ cls := "TrunkDuel$State", name := "countMoves", desc := "(ILTrunkDuel$Footprint;)I" } : Jvm.MethodName) prog_10_method_12_code (5 : Nat) (Option.some Jvm.ClassFile.FieldType.int)) ∈ gw := gwt 1231 (by decide +kernel) rfl
theorem kw_1170 : (Jvm.Cond.methodLink "TrunkDuel" (302 : Nat) ({ cls := "TrunkDuel$Choice", name := "search", desc := "(LTrunkDuel$State;LTrunkDuel$Footprint;)V" } : Jvm.MethodName)) ∈ gw := gwt 1170 (by decide +kernel) rfl
theorem kw_1171 : (Jvm.Cond.instanceMethod ({ cls := "TrunkDuel$Choice", name := "search", desc := "(LTrunkDuel$State;LTrunkDuel$Footprint;)V" } : Jvm.MethodName)) ∈ gw := gwt 1171 (by decide +kernel) rfl
theorem kw_1172 : (Jvm.Cond.selects "TrunkDuel$Choice" ({ cls := "TrunkDuel$Choice", name := "search", desc := "(LTrunkDuel$State;LTrunkDuel$Footprint;)V" } : Jvm.MethodName) ({ cls := "TrunkDuel$Choice", name := "search", desc := "(LTrunkDuel$State;LTrunkDuel$Footprint;)V" } : Jvm.MethodName)) ∈ gw := gwt 1172 (by decide +kernel) rfl
theorem kw_1173 : (Jvm.Cond.code ({ cls := "TrunkDuel$Choice", name := "search", desc := "(LTrunkDuel$State;LTrunkDuel$Footprint;)V" } : Jvm.MethodName) prog_2_method_2_code (4 : Nat) (Option.none : Option Jvm.ClassFile.FieldType)) ∈ gw := gwt 1173 (by decide +kernel) rfl
theorem kw_292 : (Jvm.Cond.fieldLink "TrunkDuel" (306 : Nat) "TrunkDuel$Choice" "shape" "I") ∈ gw := gwt 292 (by decide +kernel) rfl
theorem kw_294 : (Jvm.Cond.fieldLink "TrunkDuel" (309 : Nat) "TrunkDuel$Choice" "rotation" "I") ∈ gw := gwt 294 (by decide +kernel) rfl
theorem kw_296 : (Jvm.Cond.fieldLink "TrunkDuel" (312 : Nat) "TrunkDuel$Choice" "column" "I") ∈ gw := gwt 296 (by decide +kernel) rfl
theorem kw_298 : (Jvm.Cond.fieldLink "TrunkDuel" (315 : Nat) "TrunkDuel$Choice" "row" "I") ∈ gw := gwt 298 (by decide +kernel) rfl
theorem kw_1192 : (Jvm.Cond.methodLink "TrunkDuel" (318 : Nat) ({ cls := "TrunkDuel$Crossings", name := "mostFor", desc := "(LTrunkDuel$Player;LTrunkDuel$Trunk;LTrunkDuel$Footprint;)I" } : Jvm.MethodName)) ∈ gw := gwt 1192 (by decide +kernel) rfl
theorem kw_1193 : (Jvm.Cond.instanceMethod ({ cls := "TrunkDuel$Crossings", name := "mostFor", desc := "(LTrunkDuel$Player;LTrunkDuel$Trunk;LTrunkDuel$Footprint;)I" } : Jvm.MethodName)) ∈ gw := gwt 1193 (by decide +kernel) rfl
theorem kw_1194 : (Jvm.Cond.selects "TrunkDuel$Crossings" ({ cls := "TrunkDuel$Crossings", name := "mostFor", desc := "(LTrunkDuel$Player;LTrunkDuel$Trunk;LTrunkDuel$Footprint;)I" } : Jvm.MethodName) ({ cls := "TrunkDuel$Crossings", name := "mostFor", desc := "(LTrunkDuel$Player;LTrunkDuel$Trunk;LTrunkDuel$Footprint;)I" } : Jvm.MethodName)) ∈ gw := gwt 1194 (by decide +kernel) rfl
theorem kw_1195 : (Jvm.Cond.code ({ cls := "TrunkDuel$Crossings", name := "mostFor", desc := "(LTrunkDuel$Player;LTrunkDuel$Trunk;LTrunkDuel$Footprint;)I" } : Jvm.MethodName) prog_3_method_2_code (6 : Nat) (Option.some Jvm.ClassFile.FieldType.int)) ∈ gw := gwt 1195 (by decide +kernel) rfl
theorem kw_969 : (Jvm.Cond.methodLink "TrunkDuel" (322 : Nat) ({ cls := "TrunkDuel$Regions", name := "survey", desc := "(LTrunkDuel$Trunk;)V" } : Jvm.MethodName)) ∈ gw := gwt 969 (by decide +kernel) rfl
theorem kw_970 : (Jvm.Cond.instanceMethod ({ cls := "TrunkDuel$Regions", name := "survey", desc := "(LTrunkDuel$Trunk;)V" } : Jvm.MethodName)) ∈ gw := gwt 970 (by decide +kernel) rfl
theorem kw_971 : (Jvm.Cond.selects "TrunkDuel$Regions" ({ cls := "TrunkDuel$Regions", name := "survey", desc := "(LTrunkDuel$Trunk;)V" } : Jvm.MethodName) ({ cls := "TrunkDuel$Regions", name := "survey", desc := "(LTrunkDuel$Trunk;)V" } : Jvm.MethodName)) ∈ gw := gwt 971 (by decide +kernel) rfl
theorem kw_972 : (Jvm.Cond.code ({ cls := "TrunkDuel$Regions", name := "survey", desc := "(LTrunkDuel$Trunk;)V" } : Jvm.MethodName) prog_9_method_2_code (4 : Nat) (Option.none : Option Jvm.ClassFile.FieldType)) ∈ gw := gwt 972 (by decide +kernel) rfl
theorem kw_328 : (Jvm.Cond.fieldLink "TrunkDuel" (326 : Nat) "TrunkDuel$Regions" "count" "I") ∈ gw := gwt 328 (by decide +kernel) rfl
theorem kw_1120 : (Jvm.Cond.methodLink "TrunkDuel" (327 : Nat) ({ cls := "TrunkDuel$Regions", name := "sizeOf", desc := "(I)I" } : Jvm.MethodName)) ∈ gw := gwt 1120 (by decide +kernel) rfl
theorem kw_1141 : (Jvm.Cond.methodLink "TrunkDuel" (330 : Nat) ({ cls := "java/lang/Math", name := "max", desc := "(II)I" } : Jvm.MethodName)) ∈ gw := gwt 1141 (by decide +kernel) rfl
theorem kw_983 : (Jvm.Cond.methodLink "TrunkDuel" (335 : Nat) ({ cls := "TrunkDuel$Regions", name := "sizeAt", desc := "(II)I" } : Jvm.MethodName)) ∈ gw := gwt 983 (by decide +kernel) rfl
theorem kw_984 : (Jvm.Cond.instanceMethod ({ cls := "TrunkDuel$Regions", name := "sizeAt", desc := "(II)I" } : Jvm.MethodName)) ∈ gw := gwt 984 (by decide +kernel) rfl
theorem kw_985 : (Jvm.Cond.selects "TrunkDuel$Regions" ({ cls := "TrunkDuel$Regions", name := "sizeAt", desc := "(II)I" } : Jvm.MethodName) ({ cls := "TrunkDuel$Regions", name := "sizeAt", desc := "(II)I" } : Jvm.MethodName)) ∈ gw := gwt 985 (by decide +kernel) rfl
theorem kw_986 : (Jvm.Cond.code ({ cls := "TrunkDuel$Regions", name := "sizeAt", desc := "(II)I" } : Jvm.MethodName) prog_9_method_4_code (3 : Nat) (Option.some Jvm.ClassFile.FieldType.int)) ∈ gw := gwt 986 (by decide +kernel) rfl
theorem kw_1014 : (Jvm.Cond.methodLink "TrunkDuel" (338 : Nat) ({ cls := "TrunkDuel$Footprint", name := "turn", desc := "(II)V" } : Jvm.MethodName)) ∈ gw := gwt 1014 (by decide +kernel) rfl
theorem kw_1015 : (Jvm.Cond.methodLink "TrunkDuel" (341 : Nat) ({ cls := "TrunkDuel$Footprint", name := "moveTo", desc := "(II)V" } : Jvm.MethodName)) ∈ gw := gwt 1015 (by decide +kernel) rfl
theorem kw_184 : (Jvm.Cond.fieldLink "TrunkDuel" (344 : Nat) "TrunkDuel$Footprint" "size" "I") ∈ gw := gwt 184 (by decide +kernel) rfl
theorem kw_1152 : (Jvm.Cond.methodLink "TrunkDuel" (347 : Nat) ({ cls := "TrunkDuel$Trunk", name := "isCrossedBy", desc := "(LTrunkDuel$Footprint;)Z" } : Jvm.MethodName)) ∈ gw := gwt 1152 (by decide +kernel) rfl
theorem kw_1153 : (Jvm.Cond.methodLink "TrunkDuel" (350 : Nat) ({ cls := "TrunkDuel$Trunk", name := "countCovered", desc := "()I" } : Jvm.MethodName)) ∈ gw := gwt 1153 (by decide +kernel) rfl
theorem kw_1154 : (Jvm.Cond.instanceMethod ({ cls := "TrunkDuel$Trunk", name := "countCovered", desc := "()I" } : Jvm.MethodName)) ∈ gw := gwt 1154 (by decide +kernel) rfl
theorem kw_1155 : (Jvm.Cond.selects "TrunkDuel$Trunk" ({ cls := "TrunkDuel$Trunk", name := "countCovered", desc := "()I" } : Jvm.MethodName) ({ cls := "TrunkDuel$Trunk", name := "countCovered", desc := "()I" } : Jvm.MethodName)) ∈ gw := gwt 1155 (by decide +kernel) rfl
theorem kw_1156 : (Jvm.Cond.code ({ cls := "TrunkDuel$Trunk", name := "countCovered", desc := "()I" } : Jvm.MethodName) prog_11_method_15_code (1 : Nat) (Option.some Jvm.ClassFile.FieldType.int)) ∈ gw := gwt 1156 (by decide +kernel) rfl
theorem kw_1158 : (Jvm.Cond.methodLink "TrunkDuel" (353 : Nat) ({ cls := "java/lang/Math", name := "abs", desc := "(I)I" } : Jvm.MethodName)) ∈ gw := gwt 1158 (by decide +kernel) rfl
theorem kw_952 : (Jvm.Cond.methodLink "TrunkDuel" (370 : Nat) ({ cls := "TrunkDuel$Trunk", name := "holds", desc := "(II)Z" } : Jvm.MethodName)) ∈ gw := gwt 952 (by decide +kernel) rfl
theorem kw_1029 : (Jvm.Cond.methodLink "TrunkDuel" (378 : Nat) ({ cls := "TrunkDuel$Trunk", name := "holdsEdge", desc := "(III)Z" } : Jvm.MethodName)) ∈ gw := gwt 1029 (by decide +kernel) rfl
theorem kw_889 : (Jvm.Cond.methodLink "TrunkDuelLaw" (7 : Nat) ({ cls := "TrunkDuel", name := "truncateInput", desc := "(I)I" } : Jvm.MethodName)) ∈ gw := gwt 889 (by decide +kernel) rfl
theorem kw_890 : (Jvm.Cond.instanceMethod ({ cls := "TrunkDuel", name := "truncateInput", desc := "(I)I" } : Jvm.MethodName)) ∈ gw := gwt 890 (by decide +kernel) rfl
theorem kw_891 : (Jvm.Cond.selects "TrunkDuel" ({ cls := "TrunkDuel", name := "truncateInput", desc := "(I)I" } : Jvm.MethodName) ({ cls := "TrunkDuel", name := "truncateInput", desc := "(I)I" } : Jvm.MethodName)) ∈ gw := gwt 891 (by decide +kernel) rfl
theorem kw_892 : (Jvm.Cond.code ({ cls := "TrunkDuel", name := "truncateInput", desc := "(I)I" } : Jvm.MethodName) prog_1_method_3_code (2 : Nat) (Option.some Jvm.ClassFile.FieldType.int)) ∈ gw := gwt 892 (by decide +kernel) rfl
theorem kw_1286 : (Jvm.Cond.methodLink "TrunkDuelLaw" (15 : Nat) ({ cls := "TrunkDuel", name := "place", desc := "(IIII)I" } : Jvm.MethodName)) ∈ gw := gwt 1286 (by decide +kernel) rfl
theorem kw_1287 : (Jvm.Cond.instanceMethod ({ cls := "TrunkDuel", name := "place", desc := "(IIII)I" } : Jvm.MethodName)) ∈ gw := gwt 1287 (by decide +kernel) rfl
theorem kw_1288 : (Jvm.Cond.selects "TrunkDuel" ({ cls := "TrunkDuel", name := "place", desc := "(IIII)I" } : Jvm.MethodName) ({ cls := "TrunkDuel", name := "place", desc := "(IIII)I" } : Jvm.MethodName)) ∈ gw := gwt 1288 (by decide +kernel) rfl
theorem kw_1289 : (Jvm.Cond.code ({ cls := "TrunkDuel", name := "place", desc := "(IIII)I" } : Jvm.MethodName) prog_1_method_8_code (5 : Nat) (Option.some Jvm.ClassFile.FieldType.int)) ∈ gw := gwt 1289 (by decide +kernel) rfl
theorem kw_1248 : (Jvm.Cond.methodLink "TrunkDuelLaw" (23 : Nat) ({ cls := "TrunkDuel", name := "fastenStrap", desc := "(III)I" } : Jvm.MethodName)) ∈ gw := gwt 1248 (by decide +kernel) rfl
theorem kw_1249 : (Jvm.Cond.instanceMethod ({ cls := "TrunkDuel", name := "fastenStrap", desc := "(III)I" } : Jvm.MethodName)) ∈ gw := gwt 1249 (by decide +kernel) rfl
theorem kw_1250 : (Jvm.Cond.selects "TrunkDuel" ({ cls := "TrunkDuel", name := "fastenStrap", desc := "(III)I" } : Jvm.MethodName) ({ cls := "TrunkDuel", name := "fastenStrap", desc := "(III)I" } : Jvm.MethodName)) ∈ gw := gwt 1250 (by decide +kernel) rfl
theorem kw_1251 : (Jvm.Cond.code ({ cls := "TrunkDuel", name := "fastenStrap", desc := "(III)I" } : Jvm.MethodName) prog_1_method_9_code (4 : Nat) (Option.some Jvm.ClassFile.FieldType.int)) ∈ gw := gwt 1251 (by decide +kernel) rfl
theorem kw_1214 : (Jvm.Cond.methodLink "TrunkDuelLaw" (27 : Nat) ({ cls := "TrunkDuel", name := "pass", desc := "()I" } : Jvm.MethodName)) ∈ gw := gwt 1214 (by decide +kernel) rfl
theorem kw_1215 : (Jvm.Cond.instanceMethod ({ cls := "TrunkDuel", name := "pass", desc := "()I" } : Jvm.MethodName)) ∈ gw := gwt 1215 (by decide +kernel) rfl
theorem kw_1216 : (Jvm.Cond.selects "TrunkDuel" ({ cls := "TrunkDuel", name := "pass", desc := "()I" } : Jvm.MethodName) ({ cls := "TrunkDuel", name := "pass", desc := "()I" } : Jvm.MethodName)) ∈ gw := gwt 1216 (by decide +kernel) rfl
theorem kw_1217 : (Jvm.Cond.code ({ cls := "TrunkDuel", name := "pass", desc := "()I" } : Jvm.MethodName) prog_1_method_10_code (1 : Nat) (Option.some Jvm.ClassFile.FieldType.int)) ∈ gw := gwt 1217 (by decide +kernel) rfl
theorem kw_779 : (Jvm.Cond.methodLink "TrunkDuelLaw" (31 : Nat) ({ cls := "TrunkDuel", name := "undo", desc := "()I" } : Jvm.MethodName)) ∈ gw := gwt 779 (by decide +kernel) rfl
theorem kw_780 : (Jvm.Cond.instanceMethod ({ cls := "TrunkDuel", name := "undo", desc := "()I" } : Jvm.MethodName)) ∈ gw := gwt 780 (by decide +kernel) rfl
theorem kw_781 : (Jvm.Cond.selects "TrunkDuel" ({ cls := "TrunkDuel", name := "undo", desc := "()I" } : Jvm.MethodName) ({ cls := "TrunkDuel", name := "undo", desc := "()I" } : Jvm.MethodName)) ∈ gw := gwt 781 (by decide +kernel) rfl
theorem kw_782 : (Jvm.Cond.code ({ cls := "TrunkDuel", name := "undo", desc := "()I" } : Jvm.MethodName) prog_1_method_11_code (1 : Nat) (Option.some Jvm.ClassFile.FieldType.int)) ∈ gw := gwt 782 (by decide +kernel) rfl
theorem kw_958 : (Jvm.Cond.methodLink "TrunkDuelLaw" (34 : Nat) ({ cls := "TrunkDuel", name := "isBlocked", desc := "(II)Z" } : Jvm.MethodName)) ∈ gw := gwt 958 (by decide +kernel) rfl
theorem kw_959 : (Jvm.Cond.instanceMethod ({ cls := "TrunkDuel", name := "isBlocked", desc := "(II)Z" } : Jvm.MethodName)) ∈ gw := gwt 959 (by decide +kernel) rfl
theorem kw_960 : (Jvm.Cond.selects "TrunkDuel" ({ cls := "TrunkDuel", name := "isBlocked", desc := "(II)Z" } : Jvm.MethodName) ({ cls := "TrunkDuel", name := "isBlocked", desc := "(II)Z" } : Jvm.MethodName)) ∈ gw := gwt 960 (by decide +kernel) rfl
theorem kw_961 : (Jvm.Cond.code ({ cls := "TrunkDuel", name := "isBlocked", desc := "(II)Z" } : Jvm.MethodName) prog_1_method_21_code (3 : Nat) (Option.some Jvm.ClassFile.FieldType.boolean)) ∈ gw := gwt 961 (by decide +kernel) rfl
theorem kw_944 : (Jvm.Cond.methodLink "TrunkDuelLaw" (38 : Nat) ({ cls := "TrunkDuel", name := "pieceAt", desc := "(II)I" } : Jvm.MethodName)) ∈ gw := gwt 944 (by decide +kernel) rfl
theorem kw_945 : (Jvm.Cond.instanceMethod ({ cls := "TrunkDuel", name := "pieceAt", desc := "(II)I" } : Jvm.MethodName)) ∈ gw := gwt 945 (by decide +kernel) rfl
theorem kw_946 : (Jvm.Cond.selects "TrunkDuel" ({ cls := "TrunkDuel", name := "pieceAt", desc := "(II)I" } : Jvm.MethodName) ({ cls := "TrunkDuel", name := "pieceAt", desc := "(II)I" } : Jvm.MethodName)) ∈ gw := gwt 946 (by decide +kernel) rfl
theorem kw_947 : (Jvm.Cond.code ({ cls := "TrunkDuel", name := "pieceAt", desc := "(II)I" } : Jvm.MethodName) prog_1_method_22_code (4 : Nat) (Option.some Jvm.ClassFile.FieldType.int)) ∈ gw := gwt 947 (by decide +kernel) rfl
theorem kw_1020 : (Jvm.Cond.methodLink "TrunkDuelLaw" (42 : Nat) ({ cls := "TrunkDuel", name := "hasStrap", desc := "(III)Z" } : Jvm.MethodName)) ∈ gw := gwt 1020 (by decide +kernel) rfl
theorem kw_1021 : (Jvm.Cond.instanceMethod ({ cls := "TrunkDuel", name := "hasStrap", desc := "(III)Z" } : Jvm.MethodName)) ∈ gw := gwt 1021 (by decide +kernel) rfl
theorem kw_1022 : (Jvm.Cond.selects "TrunkDuel" ({ cls := "TrunkDuel", name := "hasStrap", desc := "(III)Z" } : Jvm.MethodName) ({ cls := "TrunkDuel", name := "hasStrap", desc := "(III)Z" } : Jvm.MethodName)) ∈ gw := gwt 1022 (by decide +kernel) rfl
theorem kw_1023 : (Jvm.Cond.code ({ cls := "TrunkDuel", name := "hasStrap", desc := "(III)Z" } : Jvm.MethodName) prog_1_method_23_code (4 : Nat) (Option.some Jvm.ClassFile.FieldType.boolean)) ∈ gw := gwt 1023 (by decide +kernel) rfl
theorem kw_1035 : (Jvm.Cond.methodLink "TrunkDuelLaw" (46 : Nat) ({ cls := "TrunkDuel", name := "emptyInRow", desc := "(I)I" } : Jvm.MethodName)) ∈ gw := gwt 1035 (by decide +kernel) rfl
theorem kw_1036 : (Jvm.Cond.instanceMethod ({ cls := "TrunkDuel", name := "emptyInRow", desc := "(I)I" } : Jvm.MethodName)) ∈ gw := gwt 1036 (by decide +kernel) rfl
theorem kw_1037 : (Jvm.Cond.selects "TrunkDuel" ({ cls := "TrunkDuel", name := "emptyInRow", desc := "(I)I" } : Jvm.MethodName) ({ cls := "TrunkDuel", name := "emptyInRow", desc := "(I)I" } : Jvm.MethodName)) ∈ gw := gwt 1037 (by decide +kernel) rfl
theorem kw_1038 : (Jvm.Cond.code ({ cls := "TrunkDuel", name := "emptyInRow", desc := "(I)I" } : Jvm.MethodName) prog_1_method_24_code (2 : Nat) (Option.some Jvm.ClassFile.FieldType.int)) ∈ gw := gwt 1038 (by decide +kernel) rfl
theorem kw_1064 : (Jvm.Cond.methodLink "TrunkDuelLaw" (49 : Nat) ({ cls := "TrunkDuel", name := "pieceShape", desc := "(I)I" } : Jvm.MethodName)) ∈ gw := gwt 1064 (by decide +kernel) rfl
theorem kw_1065 : (Jvm.Cond.instanceMethod ({ cls := "TrunkDuel", name := "pieceShape", desc := "(I)I" } : Jvm.MethodName)) ∈ gw := gwt 1065 (by decide +kernel) rfl
theorem kw_1066 : (Jvm.Cond.selects "TrunkDuel" ({ cls := "TrunkDuel", name := "pieceShape", desc := "(I)I" } : Jvm.MethodName) ({ cls := "TrunkDuel", name := "pieceShape", desc := "(I)I" } : Jvm.MethodName)) ∈ gw := gwt 1066 (by decide +kernel) rfl
theorem kw_1067 : (Jvm.Cond.code ({ cls := "TrunkDuel", name := "pieceShape", desc := "(I)I" } : Jvm.MethodName) prog_1_method_25_code (2 : Nat) (Option.some Jvm.ClassFile.FieldType.int)) ∈ gw := gwt 1067 (by decide +kernel) rfl
theorem kw_1097 : (Jvm.Cond.methodLink "TrunkDuelLaw" (52 : Nat) ({ cls := "TrunkDuel", name := "pieceRotation", desc := "(I)I" } : Jvm.MethodName)) ∈ gw := gwt 1097 (by decide +kernel) rfl
theorem kw_1098 : (Jvm.Cond.instanceMethod ({ cls := "TrunkDuel", name := "pieceRotation", desc := "(I)I" } : Jvm.MethodName)) ∈ gw := gwt 1098 (by decide +kernel) rfl
theorem kw_1099 : (Jvm.Cond.selects "TrunkDuel" ({ cls := "TrunkDuel", name := "pieceRotation", desc := "(I)I" } : Jvm.MethodName) ({ cls := "TrunkDuel", name := "pieceRotation", desc := "(I)I" } : Jvm.MethodName)) ∈ gw := gwt 1099 (by decide +kernel) rfl
theorem kw_1100 : (Jvm.Cond.code ({ cls := "TrunkDuel", name := "pieceRotation", desc := "(I)I" } : Jvm.MethodName) prog_1_method_26_code (2 : Nat) (Option.some Jvm.ClassFile.FieldType.int)) ∈ gw := gwt 1100 (by decide +kernel) rfl
theorem kw_1075 : (Jvm.Cond.methodLink "TrunkDuelLaw" (55 : Nat) ({ cls := "TrunkDuel", name := "pieceColumn", desc := "(I)I" } : Jvm.MethodName)) ∈ gw := gwt 1075 (by decide +kernel) rfl
theorem kw_1076 : (Jvm.Cond.instanceMethod ({ cls := "TrunkDuel", name := "pieceColumn", desc := "(I)I" } : Jvm.MethodName)) ∈ gw := gwt 1076 (by decide +kernel) rfl
theorem kw_1077 : (Jvm.Cond.selects "TrunkDuel" ({ cls := "TrunkDuel", name := "pieceColumn", desc := "(I)I" } : Jvm.MethodName) ({ cls := "TrunkDuel", name := "pieceColumn", desc := "(I)I" } : Jvm.MethodName)) ∈ gw := gwt 1077 (by decide +kernel) rfl
theorem kw_1078 : (Jvm.Cond.code ({ cls := "TrunkDuel", name := "pieceColumn", desc := "(I)I" } : Jvm.MethodName) prog_1_method_27_code (2 : Nat) (Option.some Jvm.ClassFile.FieldType.int)) ∈ gw := gwt 1078 (by decide +kernel) rfl
theorem kw_1086 : (Jvm.Cond.methodLink "TrunkDuelLaw" (58 : Nat) ({ cls := "TrunkDuel", name := "pieceRow", desc := "(I)I" } : Jvm.MethodName)) ∈ gw := gwt 1086 (by decide +kernel) rfl
theorem kw_1087 : (Jvm.Cond.instanceMethod ({ cls := "TrunkDuel", name := "pieceRow", desc := "(I)I" } : Jvm.MethodName)) ∈ gw := gwt 1087 (by decide +kernel) rfl
theorem kw_1088 : (Jvm.Cond.selects "TrunkDuel" ({ cls := "TrunkDuel", name := "pieceRow", desc := "(I)I" } : Jvm.MethodName) ({ cls := "TrunkDuel", name := "pieceRow", desc := "(I)I" } : Jvm.MethodName)) ∈ gw := gwt 1088 (by decide +kernel) rfl
theorem kw_1089 : (Jvm.Cond.code ({ cls := "TrunkDuel", name := "pieceRow", desc := "(I)I" } : Jvm.MethodName) prog_1_method_28_code (2 : Nat) (Option.some Jvm.ClassFile.FieldType.int)) ∈ gw := gwt 1089 (by decide +kernel) rfl
theorem kw_1294 : (Jvm.Cond.methodLink "TrunkDuelLaw" (61 : Nat) ({ cls := "TrunkDuel", name := "pieceOwner", desc := "(I)I" } : Jvm.MethodName)) ∈ gw := gwt 1294 (by decide +kernel) rfl
theorem kw_1295 : (Jvm.Cond.instanceMethod ({ cls := "TrunkDuel", name := "pieceOwner", desc := "(I)I" } : Jvm.MethodName)) ∈ gw := gwt 1295 (by decide +kernel) rfl
theorem kw_1296 : (Jvm.Cond.selects "TrunkDuel" ({ cls := "TrunkDuel", name := "pieceOwner", desc := "(I)I" } : Jvm.MethodName) ({ cls := "TrunkDuel", name := "pieceOwner", desc := "(I)I" } : Jvm.MethodName)) ∈ gw := gwt 1296 (by decide +kernel) rfl
theorem kw_1297 : (Jvm.Cond.code ({ cls := "TrunkDuel", name := "pieceOwner", desc := "(I)I" } : Jvm.MethodName) prog_1_method_29_code (2 : Nat) (Option.some Jvm.ClassFile.FieldType.int)) ∈ gw := gwt 1297 (by decide +kernel) rfl
theorem kw_1044 : (Jvm.Cond.methodLink "TrunkDuelLaw" (64 : Nat) ({ cls := "TrunkDuel", name := "piecePoints", desc := "(I)I" } : Jvm.MethodName)) ∈ gw := gwt 1044 (by decide +kernel) rfl
theorem kw_1045 : (Jvm.Cond.instanceMethod ({ cls := "TrunkDuel", name := "piecePoints", desc := "(I)I" } : Jvm.MethodName)) ∈ gw := gwt 1045 (by decide +kernel) rfl
theorem kw_1046 : (Jvm.Cond.selects "TrunkDuel" ({ cls := "TrunkDuel", name := "piecePoints", desc := "(I)I" } : Jvm.MethodName) ({ cls := "TrunkDuel", name := "piecePoints", desc := "(I)I" } : Jvm.MethodName)) ∈ gw := gwt 1046 (by decide +kernel) rfl
theorem kw_1047 : (Jvm.Cond.code ({ cls := "TrunkDuel", name := "piecePoints", desc := "(I)I" } : Jvm.MethodName) prog_1_method_30_code (2 : Nat) (Option.some Jvm.ClassFile.FieldType.int)) ∈ gw := gwt 1047 (by decide +kernel) rfl
theorem kw_858 : (Jvm.Cond.methodLink "TrunkDuelLaw" (67 : Nat) ({ cls := "TrunkDuel", name := "score", desc := "(I)I" } : Jvm.MethodName)) ∈ gw := gwt 858 (by decide +kernel) rfl
theorem kw_859 : (Jvm.Cond.instanceMethod ({ cls := "TrunkDuel", name := "score", desc := "(I)I" } : Jvm.MethodName)) ∈ gw := gwt 859 (by decide +kernel) rfl
theorem kw_860 : (Jvm.Cond.selects "TrunkDuel" ({ cls := "TrunkDuel", name := "score", desc := "(I)I" } : Jvm.MethodName) ({ cls := "TrunkDuel", name := "score", desc := "(I)I" } : Jvm.MethodName)) ∈ gw := gwt 860 (by decide +kernel) rfl
theorem kw_861 : (Jvm.Cond.code ({ cls := "TrunkDuel", name := "score", desc := "(I)I" } : Jvm.MethodName) prog_1_method_34_code (2 : Nat) (Option.some Jvm.ClassFile.FieldType.int)) ∈ gw := gwt 861 (by decide +kernel) rfl
theorem kw_1269 : (Jvm.Cond.methodLink "TrunkDuelLaw" (70 : Nat) ({ cls := "TrunkDuel", name := "supply", desc := "(II)I" } : Jvm.MethodName)) ∈ gw := gwt 1269 (by decide +kernel) rfl
theorem kw_1270 : (Jvm.Cond.instanceMethod ({ cls := "TrunkDuel", name := "supply", desc := "(II)I" } : Jvm.MethodName)) ∈ gw := gwt 1270 (by decide +kernel) rfl
theorem kw_1271 : (Jvm.Cond.selects "TrunkDuel" ({ cls := "TrunkDuel", name := "supply", desc := "(II)I" } : Jvm.MethodName) ({ cls := "TrunkDuel", name := "supply", desc := "(II)I" } : Jvm.MethodName)) ∈ gw := gwt 1271 (by decide +kernel) rfl
theorem kw_1272 : (Jvm.Cond.code ({ cls := "TrunkDuel", name := "supply", desc := "(II)I" } : Jvm.MethodName) prog_1_method_35_code (3 : Nat) (Option.some Jvm.ClassFile.FieldType.int)) ∈ gw := gwt 1272 (by decide +kernel) rfl
theorem kw_1241 : (Jvm.Cond.methodLink "TrunkDuelLaw" (73 : Nat) ({ cls := "TrunkDuel", name := "strapsLeft", desc := "(I)I" } : Jvm.MethodName)) ∈ gw := gwt 1241 (by decide +kernel) rfl
theorem kw_1242 : (Jvm.Cond.instanceMethod ({ cls := "TrunkDuel", name := "strapsLeft", desc := "(I)I" } : Jvm.MethodName)) ∈ gw := gwt 1242 (by decide +kernel) rfl
theorem kw_1243 : (Jvm.Cond.selects "TrunkDuel" ({ cls := "TrunkDuel", name := "strapsLeft", desc := "(I)I" } : Jvm.MethodName) ({ cls := "TrunkDuel", name := "strapsLeft", desc := "(I)I" } : Jvm.MethodName)) ∈ gw := gwt 1243 (by decide +kernel) rfl
theorem kw_1244 : (Jvm.Cond.code ({ cls := "TrunkDuel", name := "strapsLeft", desc := "(I)I" } : Jvm.MethodName) prog_1_method_36_code (2 : Nat) (Option.some Jvm.ClassFile.FieldType.int)) ∈ gw := gwt 1244 (by decide +kernel) rfl
theorem kw_1001 : (Jvm.Cond.methodLink "TrunkDuelLaw" (76 : Nat) ({ cls := "TrunkDuel", name := "fits", desc := "(IIII)Z" } : Jvm.MethodName)) ∈ gw := gwt 1001 (by decide +kernel) rfl
theorem kw_1002 : (Jvm.Cond.instanceMethod ({ cls := "TrunkDuel", name := "fits", desc := "(IIII)Z" } : Jvm.MethodName)) ∈ gw := gwt 1002 (by decide +kernel) rfl
theorem kw_1003 : (Jvm.Cond.selects "TrunkDuel" ({ cls := "TrunkDuel", name := "fits", desc := "(IIII)Z" } : Jvm.MethodName) ({ cls := "TrunkDuel", name := "fits", desc := "(IIII)Z" } : Jvm.MethodName)) ∈ gw := gwt 1003 (by decide +kernel) rfl
theorem kw_1004 : (Jvm.Cond.code ({ cls := "TrunkDuel", name := "fits", desc := "(IIII)Z" } : Jvm.MethodName) prog_1_method_38_code (5 : Nat) (Option.some Jvm.ClassFile.FieldType.boolean)) ∈ gw := gwt 1004 (by decide +kernel) rfl
theorem kw_1108 : (Jvm.Cond.methodLink "TrunkDuelLaw" (80 : Nat) ({ cls := "TrunkDuel", name := "misfitReason", desc := "(IIII)I" } : Jvm.MethodName)) ∈ gw := gwt 1108 (by decide +kernel) rfl
theorem kw_1109 : (Jvm.Cond.instanceMethod ({ cls := "TrunkDuel", name := "misfitReason", desc := "(IIII)I" } : Jvm.MethodName)) ∈ gw := gwt 1109 (by decide +kernel) rfl
theorem kw_1110 : (Jvm.Cond.selects "TrunkDuel" ({ cls := "TrunkDuel", name := "misfitReason", desc := "(IIII)I" } : Jvm.MethodName) ({ cls := "TrunkDuel", name := "misfitReason", desc := "(IIII)I" } : Jvm.MethodName)) ∈ gw := gwt 1110 (by decide +kernel) rfl
theorem kw_1111 : (Jvm.Cond.code ({ cls := "TrunkDuel", name := "misfitReason", desc := "(IIII)I" } : Jvm.MethodName) prog_1_method_39_code (5 : Nat) (Option.some Jvm.ClassFile.FieldType.int)) ∈ gw := gwt 1111 (by decide +kernel) rfl
theorem kw_1261 : (Jvm.Cond.methodLink "TrunkDuelLaw" (83 : Nat) ({ cls := "TrunkDuel", name := "pointsFor", desc := "(IIII)I" } : Jvm.MethodName)) ∈ gw := gwt 1261 (by decide +kernel) rfl
theorem kw_1262 : (Jvm.Cond.instanceMethod ({ cls := "TrunkDuel", name := "pointsFor", desc := "(IIII)I" } : Jvm.MethodName)) ∈ gw := gwt 1262 (by decide +kernel) rfl
theorem kw_1263 : (Jvm.Cond.selects "TrunkDuel" ({ cls := "TrunkDuel", name := "pointsFor", desc := "(IIII)I" } : Jvm.MethodName) ({ cls := "TrunkDuel", name := "pointsFor", desc := "(IIII)I" } : Jvm.MethodName)) ∈ gw := gwt 1263 (by decide +kernel) rfl
theorem kw_1264 : (Jvm.Cond.code ({ cls := "TrunkDuel", name := "pointsFor", desc := "(IIII)I" } : Jvm.MethodName) prog_1_method_40_code (5 : Nat) (Option.some Jvm.ClassFile.FieldType.int)) ∈ gw := gwt 1264 (by decide +kernel) rfl
theorem kw_1224 : (Jvm.Cond.methodLink "TrunkDuelLaw" (86 : Nat) ({ cls := "TrunkDuel", name := "mobility", desc := "(I)I" } : Jvm.MethodName)) ∈ gw := gwt 1224 (by decide +kernel) rfl
theorem kw_1225 : (Jvm.Cond.instanceMethod ({ cls := "TrunkDuel", name := "mobility", desc := "(I)I" } : Jvm.MethodName)) ∈ gw := gwt 1225 (by decide +kernel) rfl
theorem kw_1226 : (Jvm.Cond.selects "TrunkDuel" ({ cls := "TrunkDuel", name := "mobility", desc := "(I)I" } : Jvm.MethodName) ({ cls := "TrunkDuel", name := "mobility", desc := "(I)I" } : Jvm.MethodName)) ∈ gw := gwt 1226 (by decide +kernel) rfl
theorem kw_1227 : (Jvm.Cond.code ({ cls := "TrunkDuel", name := "mobility", desc := "(I)I" } : Jvm.MethodName) prog_1_method_41_code (2 : Nat) (Option.some Jvm.ClassFile.FieldType.int)) ∈ gw := gwt 1227 (by decide +kernel) rfl
theorem kw_1277 : (Jvm.Cond.methodLink "TrunkDuelLaw" (89 : Nat) ({ cls := "TrunkDuel", name := "mobilityAfter", desc := "(IIIII)I" } : Jvm.MethodName)) ∈ gw := gwt 1277 (by decide +kernel) rfl
theorem kw_1278 : (Jvm.Cond.instanceMethod ({ cls := "TrunkDuel", name := "mobilityAfter", desc := "(IIIII)I" } : Jvm.MethodName)) ∈ gw := gwt 1278 (by decide +kernel) rfl
theorem kw_1279 : (Jvm.Cond.selects "TrunkDuel" ({ cls := "TrunkDuel", name := "mobilityAfter", desc := "(IIIII)I" } : Jvm.MethodName) ({ cls := "TrunkDuel", name := "mobilityAfter", desc := "(IIIII)I" } : Jvm.MethodName)) ∈ gw := gwt 1279 (by decide +kernel) rfl
theorem kw_1280 : (Jvm.Cond.code ({ cls := "TrunkDuel", name := "mobilityAfter", desc := "(IIIII)I" } : Jvm.MethodName) prog_1_method_43_code (6 : Nat) (Option.some Jvm.ClassFile.FieldType.int)) ∈ gw := gwt 1280 (by decide +kernel) rfl
theorem kw_965 : (Jvm.Cond.methodLink "TrunkDuelLaw" (93 : Nat) ({ cls := "TrunkDuel", name := "regionSize", desc := "(II)I" } : Jvm.MethodName)) ∈ gw := gwt 965 (by decide +kernel) rfl
theorem kw_966 : (Jvm.Cond.instanceMethod ({ cls := "TrunkDuel", name := "regionSize", desc := "(II)I" } : Jvm.MethodName)) ∈ gw := gwt 966 (by decide +kernel) rfl
theorem kw_967 : (Jvm.Cond.selects "TrunkDuel" ({ cls := "TrunkDuel", name := "regionSize", desc := "(II)I" } : Jvm.MethodName) ({ cls := "TrunkDuel", name := "regionSize", desc := "(II)I" } : Jvm.MethodName)) ∈ gw := gwt 967 (by decide +kernel) rfl
theorem kw_968 : (Jvm.Cond.code ({ cls := "TrunkDuel", name := "regionSize", desc := "(II)I" } : Jvm.MethodName) prog_1_method_51_code (3 : Nat) (Option.some Jvm.ClassFile.FieldType.int)) ∈ gw := gwt 968 (by decide +kernel) rfl
theorem kw_994 : (Jvm.Cond.methodLink "TrunkDuelLaw" (96 : Nat) ({ cls := "TrunkDuel", name := "isDead", desc := "(II)Z" } : Jvm.MethodName)) ∈ gw := gwt 994 (by decide +kernel) rfl
theorem kw_995 : (Jvm.Cond.instanceMethod ({ cls := "TrunkDuel", name := "isDead", desc := "(II)Z" } : Jvm.MethodName)) ∈ gw := gwt 995 (by decide +kernel) rfl
theorem kw_996 : (Jvm.Cond.selects "TrunkDuel" ({ cls := "TrunkDuel", name := "isDead", desc := "(II)Z" } : Jvm.MethodName) ({ cls := "TrunkDuel", name := "isDead", desc := "(II)Z" } : Jvm.MethodName)) ∈ gw := gwt 996 (by decide +kernel) rfl
theorem kw_997 : (Jvm.Cond.code ({ cls := "TrunkDuel", name := "isDead", desc := "(II)Z" } : Jvm.MethodName) prog_1_method_52_code (3 : Nat) (Option.some Jvm.ClassFile.FieldType.boolean)) ∈ gw := gwt 997 (by decide +kernel) rfl
theorem kw_909 : (Jvm.Cond.methodLink "TrunkDuelLaw" (99 : Nat) ({ cls := "java/lang/String", name := "length", desc := "()I" } : Jvm.MethodName)) ∈ gw := gwt 909 (by decide +kernel) rfl
theorem kw_913 : (Jvm.Cond.methodLink "TrunkDuelLaw" (104 : Nat) ({ cls := "java/lang/String", name := "charAt", desc := "(I)C" } : Jvm.MethodName)) ∈ gw := gwt 913 (by decide +kernel) rfl
theorem kw_885 : (Jvm.Cond.methodLink "TrunkDuelLaw" (108 : Nat) ({ cls := "TrunkDuelLaw", name := "truncateInput", desc := "(LTrunkDuel;I)I" } : Jvm.MethodName)) ∈ gw := gwt 885 (by decide +kernel) rfl
theorem kw_887 : (Jvm.Cond.codeWith ({ cls := "TrunkDuelLaw", name := "truncateInput", desc := "(LTrunkDuel;I)I" } : Jvm.MethodName) method_2_code (3 : Nat) (Option.some Jvm.ClassFile.FieldType.int) [((0 : Nat), (5 : Nat), (6 : Nat), (13 : Nat))]) ∈ gw := gwt 887 (by decide +kernel) rfl
theorem kw_886 : (Jvm.Cond.static ({ cls := "TrunkDuelLaw", name := "truncateInput", desc := "(LTrunkDuel;I)I" } : Jvm.MethodName)) ∈ gw := gwt 886 (by decide +kernel) rfl
theorem kw_0 : (Jvm.Cond.initialized "TrunkDuelLaw") ∈ gw := gwt 0 (by decide +kernel) rfl
theorem kw_910 : (Jvm.Cond.methodLink "TrunkDuelLaw" (113 : Nat) ({ cls := "TrunkDuelLaw", name := "word", desc := "(Ljava/lang/String;I)I" } : Jvm.MethodName)) ∈ gw := gwt 910 (by decide +kernel) rfl
theorem kw_912 : (Jvm.Cond.code ({ cls := "TrunkDuelLaw", name := "word", desc := "(Ljava/lang/String;I)I" } : Jvm.MethodName) method_27_code (4 : Nat) (Option.some Jvm.ClassFile.FieldType.int)) ∈ gw := gwt 912 (by decide +kernel) rfl
theorem kw_911 : (Jvm.Cond.static ({ cls := "TrunkDuelLaw", name := "word", desc := "(Ljava/lang/String;I)I" } : Jvm.MethodName)) ∈ gw := gwt 911 (by decide +kernel) rfl
theorem kw_914 : (Jvm.Cond.methodLink "TrunkDuelLaw" (117 : Nat) ({ cls := "TrunkDuel", name := "append", desc := "(IIIII)I" } : Jvm.MethodName)) ∈ gw := gwt 914 (by decide +kernel) rfl
theorem kw_915 : (Jvm.Cond.instanceMethod ({ cls := "TrunkDuel", name := "append", desc := "(IIIII)I" } : Jvm.MethodName)) ∈ gw := gwt 915 (by decide +kernel) rfl
theorem kw_916 : (Jvm.Cond.selects "TrunkDuel" ({ cls := "TrunkDuel", name := "append", desc := "(IIIII)I" } : Jvm.MethodName) ({ cls := "TrunkDuel", name := "append", desc := "(IIIII)I" } : Jvm.MethodName)) ∈ gw := gwt 916 (by decide +kernel) rfl
theorem kw_917 : (Jvm.Cond.code ({ cls := "TrunkDuel", name := "append", desc := "(IIIII)I" } : Jvm.MethodName) prog_1_method_2_code (6 : Nat) (Option.some Jvm.ClassFile.FieldType.int)) ∈ gw := gwt 917 (by decide +kernel) rfl
theorem kw_929 : (Jvm.Cond.constant "TrunkDuelLaw" (120 : Nat) (1103515245 : Int32)) ∈ gw := gwt 929 (by decide +kernel) rfl
theorem kw_933 : (Jvm.Cond.methodLink "TrunkDuelLaw" (121 : Nat) ({ cls := "TrunkDuel", name := "rows", desc := "()I" } : Jvm.MethodName)) ∈ gw := gwt 933 (by decide +kernel) rfl
theorem kw_934 : (Jvm.Cond.instanceMethod ({ cls := "TrunkDuel", name := "rows", desc := "()I" } : Jvm.MethodName)) ∈ gw := gwt 934 (by decide +kernel) rfl
theorem kw_935 : (Jvm.Cond.selects "TrunkDuel" ({ cls := "TrunkDuel", name := "rows", desc := "()I" } : Jvm.MethodName) ({ cls := "TrunkDuel", name := "rows", desc := "()I" } : Jvm.MethodName)) ∈ gw := gwt 935 (by decide +kernel) rfl
theorem kw_936 : (Jvm.Cond.code ({ cls := "TrunkDuel", name := "rows", desc := "()I" } : Jvm.MethodName) prog_1_method_15_code (1 : Nat) (Option.some Jvm.ClassFile.FieldType.int)) ∈ gw := gwt 936 (by decide +kernel) rfl
theorem kw_937 : (Jvm.Cond.methodLink "TrunkDuelLaw" (124 : Nat) ({ cls := "TrunkDuel", name := "columns", desc := "()I" } : Jvm.MethodName)) ∈ gw := gwt 937 (by decide +kernel) rfl
theorem kw_938 : (Jvm.Cond.instanceMethod ({ cls := "TrunkDuel", name := "columns", desc := "()I" } : Jvm.MethodName)) ∈ gw := gwt 938 (by decide +kernel) rfl
theorem kw_939 : (Jvm.Cond.selects "TrunkDuel" ({ cls := "TrunkDuel", name := "columns", desc := "()I" } : Jvm.MethodName) ({ cls := "TrunkDuel", name := "columns", desc := "()I" } : Jvm.MethodName)) ∈ gw := gwt 939 (by decide +kernel) rfl
theorem kw_940 : (Jvm.Cond.code ({ cls := "TrunkDuel", name := "columns", desc := "()I" } : Jvm.MethodName) prog_1_method_14_code (1 : Nat) (Option.some Jvm.ClassFile.FieldType.int)) ∈ gw := gwt 940 (by decide +kernel) rfl
theorem kw_941 : (Jvm.Cond.methodLink "TrunkDuelLaw" (127 : Nat) ({ cls := "TrunkDuelLaw", name := "pieceAt", desc := "(LTrunkDuel;II)I" } : Jvm.MethodName)) ∈ gw := gwt 941 (by decide +kernel) rfl
theorem kw_943 : (Jvm.Cond.codeWith ({ cls := "TrunkDuelLaw", name := "pieceAt", desc := "(LTrunkDuel;II)I" } : Jvm.MethodName) method_8_code (4 : Nat) (Option.some Jvm.ClassFile.FieldType.int) [((0 : Nat), (6 : Nat), (7 : Nat), (19 : Nat))]) ∈ gw := gwt 943 (by decide +kernel) rfl
theorem kw_942 : (Jvm.Cond.static ({ cls := "TrunkDuelLaw", name := "pieceAt", desc := "(LTrunkDuel;II)I" } : Jvm.MethodName)) ∈ gw := gwt 942 (by decide +kernel) rfl
theorem kw_955 : (Jvm.Cond.methodLink "TrunkDuelLaw" (130 : Nat) ({ cls := "TrunkDuelLaw", name := "isBlocked", desc := "(LTrunkDuel;II)I" } : Jvm.MethodName)) ∈ gw := gwt 955 (by decide +kernel) rfl
theorem kw_957 : (Jvm.Cond.codeWith ({ cls := "TrunkDuelLaw", name := "isBlocked", desc := "(LTrunkDuel;II)I" } : Jvm.MethodName) method_7_code (4 : Nat) (Option.some Jvm.ClassFile.FieldType.int) [((0 : Nat), (14 : Nat), (15 : Nat), (19 : Nat))]) ∈ gw := gwt 957 (by decide +kernel) rfl
theorem kw_956 : (Jvm.Cond.static ({ cls := "TrunkDuelLaw", name := "isBlocked", desc := "(LTrunkDuel;II)I" } : Jvm.MethodName)) ∈ gw := gwt 956 (by decide +kernel) rfl
theorem kw_762 : (Jvm.Cond.methodLink "TrunkDuelLaw" (132 : Nat) ({ cls := "TrunkDuel", name := "pieceCount", desc := "()I" } : Jvm.MethodName)) ∈ gw := gwt 762 (by decide +kernel) rfl
theorem kw_763 : (Jvm.Cond.instanceMethod ({ cls := "TrunkDuel", name := "pieceCount", desc := "()I" } : Jvm.MethodName)) ∈ gw := gwt 763 (by decide +kernel) rfl
theorem kw_764 : (Jvm.Cond.selects "TrunkDuel" ({ cls := "TrunkDuel", name := "pieceCount", desc := "()I" } : Jvm.MethodName) ({ cls := "TrunkDuel", name := "pieceCount", desc := "()I" } : Jvm.MethodName)) ∈ gw := gwt 764 (by decide +kernel) rfl
theorem kw_765 : (Jvm.Cond.code ({ cls := "TrunkDuel", name := "pieceCount", desc := "()I" } : Jvm.MethodName) prog_1_method_17_code (1 : Nat) (Option.some Jvm.ClassFile.FieldType.int)) ∈ gw := gwt 765 (by decide +kernel) rfl
theorem kw_962 : (Jvm.Cond.methodLink "TrunkDuelLaw" (135 : Nat) ({ cls := "TrunkDuelLaw", name := "regionSize", desc := "(LTrunkDuel;II)I" } : Jvm.MethodName)) ∈ gw := gwt 962 (by decide +kernel) rfl
theorem kw_964 : (Jvm.Cond.codeWith ({ cls := "TrunkDuelLaw", name := "regionSize", desc := "(LTrunkDuel;II)I" } : Jvm.MethodName) method_25_code (4 : Nat) (Option.some Jvm.ClassFile.FieldType.int) [((0 : Nat), (6 : Nat), (7 : Nat), (19 : Nat))]) ∈ gw := gwt 964 (by decide +kernel) rfl
theorem kw_963 : (Jvm.Cond.static ({ cls := "TrunkDuelLaw", name := "regionSize", desc := "(LTrunkDuel;II)I" } : Jvm.MethodName)) ∈ gw := gwt 963 (by decide +kernel) rfl
theorem kw_991 : (Jvm.Cond.methodLink "TrunkDuelLaw" (137 : Nat) ({ cls := "TrunkDuelLaw", name := "isDead", desc := "(LTrunkDuel;II)I" } : Jvm.MethodName)) ∈ gw := gwt 991 (by decide +kernel) rfl
theorem kw_993 : (Jvm.Cond.codeWith ({ cls := "TrunkDuelLaw", name := "isDead", desc := "(LTrunkDuel;II)I" } : Jvm.MethodName) method_26_code (4 : Nat) (Option.some Jvm.ClassFile.FieldType.int) [((0 : Nat), (14 : Nat), (15 : Nat), (19 : Nat))]) ∈ gw := gwt 993 (by decide +kernel) rfl
theorem kw_992 : (Jvm.Cond.static ({ cls := "TrunkDuelLaw", name := "isDead", desc := "(LTrunkDuel;II)I" } : Jvm.MethodName)) ∈ gw := gwt 992 (by decide +kernel) rfl
theorem kw_998 : (Jvm.Cond.methodLink "TrunkDuelLaw" (139 : Nat) ({ cls := "TrunkDuelLaw", name := "fits", desc := "(LTrunkDuel;IIII)I" } : Jvm.MethodName)) ∈ gw := gwt 998 (by decide +kernel) rfl
theorem kw_1000 : (Jvm.Cond.codeWith ({ cls := "TrunkDuelLaw", name := "fits", desc := "(LTrunkDuel;IIII)I" } : Jvm.MethodName) method_20_code (6 : Nat) (Option.some Jvm.ClassFile.FieldType.int) [((0 : Nat), (17 : Nat), (18 : Nat), (13 : Nat)), ((0 : Nat), (17 : Nat), (23 : Nat), (19 : Nat))]) ∈ gw := gwt 1000 (by decide +kernel) rfl
theorem kw_999 : (Jvm.Cond.static ({ cls := "TrunkDuelLaw", name := "fits", desc := "(LTrunkDuel;IIII)I" } : Jvm.MethodName)) ∈ gw := gwt 999 (by decide +kernel) rfl
theorem kw_1017 : (Jvm.Cond.methodLink "TrunkDuelLaw" (142 : Nat) ({ cls := "TrunkDuelLaw", name := "hasStrap", desc := "(LTrunkDuel;III)I" } : Jvm.MethodName)) ∈ gw := gwt 1017 (by decide +kernel) rfl
theorem kw_1019 : (Jvm.Cond.codeWith ({ cls := "TrunkDuelLaw", name := "hasStrap", desc := "(LTrunkDuel;III)I" } : Jvm.MethodName) method_9_code (5 : Nat) (Option.some Jvm.ClassFile.FieldType.int) [((0 : Nat), (15 : Nat), (16 : Nat), (13 : Nat)), ((0 : Nat), (15 : Nat), (21 : Nat), (19 : Nat))]) ∈ gw := gwt 1019 (by decide +kernel) rfl
theorem kw_1018 : (Jvm.Cond.static ({ cls := "TrunkDuelLaw", name := "hasStrap", desc := "(LTrunkDuel;III)I" } : Jvm.MethodName)) ∈ gw := gwt 1018 (by decide +kernel) rfl
theorem kw_1032 : (Jvm.Cond.methodLink "TrunkDuelLaw" (145 : Nat) ({ cls := "TrunkDuelLaw", name := "emptyInRow", desc := "(LTrunkDuel;I)I" } : Jvm.MethodName)) ∈ gw := gwt 1032 (by decide +kernel) rfl
theorem kw_1034 : (Jvm.Cond.codeWith ({ cls := "TrunkDuelLaw", name := "emptyInRow", desc := "(LTrunkDuel;I)I" } : Jvm.MethodName) method_10_code (3 : Nat) (Option.some Jvm.ClassFile.FieldType.int) [((0 : Nat), (5 : Nat), (6 : Nat), (19 : Nat))]) ∈ gw := gwt 1034 (by decide +kernel) rfl
theorem kw_1033 : (Jvm.Cond.static ({ cls := "TrunkDuelLaw", name := "emptyInRow", desc := "(LTrunkDuel;I)I" } : Jvm.MethodName)) ∈ gw := gwt 1033 (by decide +kernel) rfl
theorem kw_1041 : (Jvm.Cond.methodLink "TrunkDuelLaw" (147 : Nat) ({ cls := "TrunkDuelLaw", name := "piecePoints", desc := "(LTrunkDuel;I)I" } : Jvm.MethodName)) ∈ gw := gwt 1041 (by decide +kernel) rfl
theorem kw_1043 : (Jvm.Cond.codeWith ({ cls := "TrunkDuelLaw", name := "piecePoints", desc := "(LTrunkDuel;I)I" } : Jvm.MethodName) method_16_code (3 : Nat) (Option.some Jvm.ClassFile.FieldType.int) [((0 : Nat), (5 : Nat), (6 : Nat), (19 : Nat))]) ∈ gw := gwt 1043 (by decide +kernel) rfl
theorem kw_1042 : (Jvm.Cond.static ({ cls := "TrunkDuelLaw", name := "piecePoints", desc := "(LTrunkDuel;I)I" } : Jvm.MethodName)) ∈ gw := gwt 1042 (by decide +kernel) rfl
theorem kw_1061 : (Jvm.Cond.methodLink "TrunkDuelLaw" (149 : Nat) ({ cls := "TrunkDuelLaw", name := "pieceShape", desc := "(LTrunkDuel;I)I" } : Jvm.MethodName)) ∈ gw := gwt 1061 (by decide +kernel) rfl
theorem kw_1063 : (Jvm.Cond.codeWith ({ cls := "TrunkDuelLaw", name := "pieceShape", desc := "(LTrunkDuel;I)I" } : Jvm.MethodName) method_11_code (3 : Nat) (Option.some Jvm.ClassFile.FieldType.int) [((0 : Nat), (5 : Nat), (6 : Nat), (19 : Nat))]) ∈ gw := gwt 1063 (by decide +kernel) rfl
theorem kw_1062 : (Jvm.Cond.static ({ cls := "TrunkDuelLaw", name := "pieceShape", desc := "(LTrunkDuel;I)I" } : Jvm.MethodName)) ∈ gw := gwt 1062 (by decide +kernel) rfl
theorem kw_1072 : (Jvm.Cond.methodLink "TrunkDuelLaw" (151 : Nat) ({ cls := "TrunkDuelLaw", name := "pieceColumn", desc := "(LTrunkDuel;I)I" } : Jvm.MethodName)) ∈ gw := gwt 1072 (by decide +kernel) rfl
theorem kw_1074 : (Jvm.Cond.codeWith ({ cls := "TrunkDuelLaw", name := "pieceColumn", desc := "(LTrunkDuel;I)I" } : Jvm.MethodName) method_13_code (3 : Nat) (Option.some Jvm.ClassFile.FieldType.int) [((0 : Nat), (5 : Nat), (6 : Nat), (19 : Nat))]) ∈ gw := gwt 1074 (by decide +kernel) rfl
theorem kw_1073 : (Jvm.Cond.static ({ cls := "TrunkDuelLaw", name := "pieceColumn", desc := "(LTrunkDuel;I)I" } : Jvm.MethodName)) ∈ gw := gwt 1073 (by decide +kernel) rfl
theorem kw_1083 : (Jvm.Cond.methodLink "TrunkDuelLaw" (153 : Nat) ({ cls := "TrunkDuelLaw", name := "pieceRow", desc := "(LTrunkDuel;I)I" } : Jvm.MethodName)) ∈ gw := gwt 1083 (by decide +kernel) rfl
theorem kw_1085 : (Jvm.Cond.codeWith ({ cls := "TrunkDuelLaw", name := "pieceRow", desc := "(LTrunkDuel;I)I" } : Jvm.MethodName) method_14_code (3 : Nat) (Option.some Jvm.ClassFile.FieldType.int) [((0 : Nat), (5 : Nat), (6 : Nat), (19 : Nat))]) ∈ gw := gwt 1085 (by decide +kernel) rfl
theorem kw_1084 : (Jvm.Cond.static ({ cls := "TrunkDuelLaw", name := "pieceRow", desc := "(LTrunkDuel;I)I" } : Jvm.MethodName)) ∈ gw := gwt 1084 (by decide +kernel) rfl
theorem kw_1094 : (Jvm.Cond.methodLink "TrunkDuelLaw" (155 : Nat) ({ cls := "TrunkDuelLaw", name := "pieceRotation", desc := "(LTrunkDuel;I)I" } : Jvm.MethodName)) ∈ gw := gwt 1094 (by decide +kernel) rfl
theorem kw_1096 : (Jvm.Cond.codeWith ({ cls := "TrunkDuelLaw", name := "pieceRotation", desc := "(LTrunkDuel;I)I" } : Jvm.MethodName) method_12_code (3 : Nat) (Option.some Jvm.ClassFile.FieldType.int) [((0 : Nat), (5 : Nat), (6 : Nat), (19 : Nat))]) ∈ gw := gwt 1096 (by decide +kernel) rfl
theorem kw_1095 : (Jvm.Cond.static ({ cls := "TrunkDuelLaw", name := "pieceRotation", desc := "(LTrunkDuel;I)I" } : Jvm.MethodName)) ∈ gw := gwt 1095 (by decide +kernel) rfl
theorem kw_1105 : (Jvm.Cond.methodLink "TrunkDuelLaw" (157 : Nat) ({ cls := "TrunkDuelLaw", name := "misfitReason", desc := "(LTrunkDuel;IIII)I" } : Jvm.MethodName)) ∈ gw := gwt 1105 (by decide +kernel) rfl
theorem kw_1107 : (Jvm.Cond.codeWith ({ cls := "TrunkDuelLaw", name := "misfitReason", desc := "(LTrunkDuel;IIII)I" } : Jvm.MethodName) method_21_code (6 : Nat) (Option.some Jvm.ClassFile.FieldType.int) [((0 : Nat), (9 : Nat), (10 : Nat), (13 : Nat)), ((0 : Nat), (9 : Nat), (15 : Nat), (19 : Nat))]) ∈ gw := gwt 1107 (by decide +kernel) rfl
theorem kw_1106 : (Jvm.Cond.static ({ cls := "TrunkDuelLaw", name := "misfitReason", desc := "(LTrunkDuel;IIII)I" } : Jvm.MethodName)) ∈ gw := gwt 1106 (by decide +kernel) rfl
theorem kw_854 : (Jvm.Cond.methodLink "TrunkDuelLaw" (159 : Nat) ({ cls := "TrunkDuelLaw", name := "score", desc := "(LTrunkDuel;I)I" } : Jvm.MethodName)) ∈ gw := gwt 854 (by decide +kernel) rfl
theorem kw_856 : (Jvm.Cond.codeWith ({ cls := "TrunkDuelLaw", name := "score", desc := "(LTrunkDuel;I)I" } : Jvm.MethodName) method_17_code (3 : Nat) (Option.some Jvm.ClassFile.FieldType.int) [((0 : Nat), (5 : Nat), (6 : Nat), (19 : Nat))]) ∈ gw := gwt 856 (by decide +kernel) rfl
theorem kw_855 : (Jvm.Cond.static ({ cls := "TrunkDuelLaw", name := "score", desc := "(LTrunkDuel;I)I" } : Jvm.MethodName)) ∈ gw := gwt 855 (by decide +kernel) rfl
theorem kw_1112 : (Jvm.Cond.methodLink "TrunkDuelLaw" (161 : Nat) ({ cls := "TrunkDuel", name := "emptyCells", desc := "()I" } : Jvm.MethodName)) ∈ gw := gwt 1112 (by decide +kernel) rfl
theorem kw_1113 : (Jvm.Cond.instanceMethod ({ cls := "TrunkDuel", name := "emptyCells", desc := "()I" } : Jvm.MethodName)) ∈ gw := gwt 1113 (by decide +kernel) rfl
theorem kw_1114 : (Jvm.Cond.selects "TrunkDuel" ({ cls := "TrunkDuel", name := "emptyCells", desc := "()I" } : Jvm.MethodName) ({ cls := "TrunkDuel", name := "emptyCells", desc := "()I" } : Jvm.MethodName)) ∈ gw := gwt 1114 (by decide +kernel) rfl
theorem kw_1115 : (Jvm.Cond.code ({ cls := "TrunkDuel", name := "emptyCells", desc := "()I" } : Jvm.MethodName) prog_1_method_16_code (1 : Nat) (Option.some Jvm.ClassFile.FieldType.int)) ∈ gw := gwt 1115 (by decide +kernel) rfl
theorem kw_1116 : (Jvm.Cond.methodLink "TrunkDuelLaw" (164 : Nat) ({ cls := "TrunkDuel", name := "deadCells", desc := "()I" } : Jvm.MethodName)) ∈ gw := gwt 1116 (by decide +kernel) rfl
theorem kw_1117 : (Jvm.Cond.instanceMethod ({ cls := "TrunkDuel", name := "deadCells", desc := "()I" } : Jvm.MethodName)) ∈ gw := gwt 1117 (by decide +kernel) rfl
theorem kw_1118 : (Jvm.Cond.selects "TrunkDuel" ({ cls := "TrunkDuel", name := "deadCells", desc := "()I" } : Jvm.MethodName) ({ cls := "TrunkDuel", name := "deadCells", desc := "()I" } : Jvm.MethodName)) ∈ gw := gwt 1118 (by decide +kernel) rfl
theorem kw_1119 : (Jvm.Cond.code ({ cls := "TrunkDuel", name := "deadCells", desc := "()I" } : Jvm.MethodName) prog_1_method_53_code (3 : Nat) (Option.some Jvm.ClassFile.FieldType.int)) ∈ gw := gwt 1119 (by decide +kernel) rfl
theorem kw_1121 : (Jvm.Cond.methodLink "TrunkDuelLaw" (167 : Nat) ({ cls := "TrunkDuel", name := "completeRows", desc := "()I" } : Jvm.MethodName)) ∈ gw := gwt 1121 (by decide +kernel) rfl
theorem kw_1122 : (Jvm.Cond.instanceMethod ({ cls := "TrunkDuel", name := "completeRows", desc := "()I" } : Jvm.MethodName)) ∈ gw := gwt 1122 (by decide +kernel) rfl
theorem kw_1123 : (Jvm.Cond.selects "TrunkDuel" ({ cls := "TrunkDuel", name := "completeRows", desc := "()I" } : Jvm.MethodName) ({ cls := "TrunkDuel", name := "completeRows", desc := "()I" } : Jvm.MethodName)) ∈ gw := gwt 1123 (by decide +kernel) rfl
theorem kw_1124 : (Jvm.Cond.code ({ cls := "TrunkDuel", name := "completeRows", desc := "()I" } : Jvm.MethodName) prog_1_method_19_code (3 : Nat) (Option.some Jvm.ClassFile.FieldType.int)) ∈ gw := gwt 1124 (by decide +kernel) rfl
theorem kw_1125 : (Jvm.Cond.methodLink "TrunkDuelLaw" (170 : Nat) ({ cls := "TrunkDuel", name := "strapCount", desc := "()I" } : Jvm.MethodName)) ∈ gw := gwt 1125 (by decide +kernel) rfl
theorem kw_1126 : (Jvm.Cond.instanceMethod ({ cls := "TrunkDuel", name := "strapCount", desc := "()I" } : Jvm.MethodName)) ∈ gw := gwt 1126 (by decide +kernel) rfl
theorem kw_1127 : (Jvm.Cond.selects "TrunkDuel" ({ cls := "TrunkDuel", name := "strapCount", desc := "()I" } : Jvm.MethodName) ({ cls := "TrunkDuel", name := "strapCount", desc := "()I" } : Jvm.MethodName)) ∈ gw := gwt 1127 (by decide +kernel) rfl
theorem kw_1128 : (Jvm.Cond.code ({ cls := "TrunkDuel", name := "strapCount", desc := "()I" } : Jvm.MethodName) prog_1_method_18_code (1 : Nat) (Option.some Jvm.ClassFile.FieldType.int)) ∈ gw := gwt 1128 (by decide +kernel) rfl
theorem kw_1133 : (Jvm.Cond.methodLink "TrunkDuelLaw" (173 : Nat) ({ cls := "TrunkDuel", name := "leader", desc := "()I" } : Jvm.MethodName)) ∈ gw := gwt 1133 (by decide +kernel) rfl
theorem kw_1134 : (Jvm.Cond.instanceMethod ({ cls := "TrunkDuel", name := "leader", desc := "()I" } : Jvm.MethodName)) ∈ gw := gwt 1134 (by decide +kernel) rfl
theorem kw_1135 : (Jvm.Cond.selects "TrunkDuel" ({ cls := "TrunkDuel", name := "leader", desc := "()I" } : Jvm.MethodName) ({ cls := "TrunkDuel", name := "leader", desc := "()I" } : Jvm.MethodName)) ∈ gw := gwt 1135 (by decide +kernel) rfl
theorem kw_1136 : (Jvm.Cond.code ({ cls := "TrunkDuel", name := "leader", desc := "()I" } : Jvm.MethodName) prog_1_method_33_code (2 : Nat) (Option.some Jvm.ClassFile.FieldType.int)) ∈ gw := gwt 1136 (by decide +kernel) rfl
theorem kw_1137 : (Jvm.Cond.methodLink "TrunkDuelLaw" (176 : Nat) ({ cls := "TrunkDuel", name := "largestRegion", desc := "()I" } : Jvm.MethodName)) ∈ gw := gwt 1137 (by decide +kernel) rfl
theorem kw_1138 : (Jvm.Cond.instanceMethod ({ cls := "TrunkDuel", name := "largestRegion", desc := "()I" } : Jvm.MethodName)) ∈ gw := gwt 1138 (by decide +kernel) rfl
theorem kw_1139 : (Jvm.Cond.selects "TrunkDuel" ({ cls := "TrunkDuel", name := "largestRegion", desc := "()I" } : Jvm.MethodName) ({ cls := "TrunkDuel", name := "largestRegion", desc := "()I" } : Jvm.MethodName)) ∈ gw := gwt 1139 (by decide +kernel) rfl
theorem kw_1140 : (Jvm.Cond.code ({ cls := "TrunkDuel", name := "largestRegion", desc := "()I" } : Jvm.MethodName) prog_1_method_50_code (3 : Nat) (Option.some Jvm.ClassFile.FieldType.int)) ∈ gw := gwt 1140 (by decide +kernel) rfl
theorem kw_1144 : (Jvm.Cond.methodLink "TrunkDuelLaw" (179 : Nat) ({ cls := "TrunkDuel", name := "regionCount", desc := "()I" } : Jvm.MethodName)) ∈ gw := gwt 1144 (by decide +kernel) rfl
theorem kw_1145 : (Jvm.Cond.instanceMethod ({ cls := "TrunkDuel", name := "regionCount", desc := "()I" } : Jvm.MethodName)) ∈ gw := gwt 1145 (by decide +kernel) rfl
theorem kw_1146 : (Jvm.Cond.selects "TrunkDuel" ({ cls := "TrunkDuel", name := "regionCount", desc := "()I" } : Jvm.MethodName) ({ cls := "TrunkDuel", name := "regionCount", desc := "()I" } : Jvm.MethodName)) ∈ gw := gwt 1146 (by decide +kernel) rfl
theorem kw_1147 : (Jvm.Cond.code ({ cls := "TrunkDuel", name := "regionCount", desc := "()I" } : Jvm.MethodName) prog_1_method_49_code (1 : Nat) (Option.some Jvm.ClassFile.FieldType.int)) ∈ gw := gwt 1147 (by decide +kernel) rfl
theorem kw_1148 : (Jvm.Cond.methodLink "TrunkDuelLaw" (182 : Nat) ({ cls := "TrunkDuel", name := "inconsistencies", desc := "()I" } : Jvm.MethodName)) ∈ gw := gwt 1148 (by decide +kernel) rfl
theorem kw_1149 : (Jvm.Cond.instanceMethod ({ cls := "TrunkDuel", name := "inconsistencies", desc := "()I" } : Jvm.MethodName)) ∈ gw := gwt 1149 (by decide +kernel) rfl
theorem kw_1150 : (Jvm.Cond.selects "TrunkDuel" ({ cls := "TrunkDuel", name := "inconsistencies", desc := "()I" } : Jvm.MethodName) ({ cls := "TrunkDuel", name := "inconsistencies", desc := "()I" } : Jvm.MethodName)) ∈ gw := gwt 1150 (by decide +kernel) rfl
theorem kw_1151 : (Jvm.Cond.code ({ cls := "TrunkDuel", name := "inconsistencies", desc := "()I" } : Jvm.MethodName) prog_1_method_54_code (6 : Nat) (Option.some Jvm.ClassFile.FieldType.int)) ∈ gw := gwt 1151 (by decide +kernel) rfl
theorem kw_770 : (Jvm.Cond.methodLink "TrunkDuelLaw" (185 : Nat) ({ cls := "TrunkDuel", name := "playerToMove", desc := "()I" } : Jvm.MethodName)) ∈ gw := gwt 770 (by decide +kernel) rfl
theorem kw_771 : (Jvm.Cond.instanceMethod ({ cls := "TrunkDuel", name := "playerToMove", desc := "()I" } : Jvm.MethodName)) ∈ gw := gwt 771 (by decide +kernel) rfl
theorem kw_772 : (Jvm.Cond.selects "TrunkDuel" ({ cls := "TrunkDuel", name := "playerToMove", desc := "()I" } : Jvm.MethodName) ({ cls := "TrunkDuel", name := "playerToMove", desc := "()I" } : Jvm.MethodName)) ∈ gw := gwt 772 (by decide +kernel) rfl
theorem kw_773 : (Jvm.Cond.code ({ cls := "TrunkDuel", name := "playerToMove", desc := "()I" } : Jvm.MethodName) prog_1_method_31_code (1 : Nat) (Option.some Jvm.ClassFile.FieldType.int)) ∈ gw := gwt 773 (by decide +kernel) rfl
theorem kw_1162 : (Jvm.Cond.methodLink "TrunkDuelLaw" (188 : Nat) ({ cls := "TrunkDuel", name := "isOver", desc := "()Z" } : Jvm.MethodName)) ∈ gw := gwt 1162 (by decide +kernel) rfl
theorem kw_1163 : (Jvm.Cond.instanceMethod ({ cls := "TrunkDuel", name := "isOver", desc := "()Z" } : Jvm.MethodName)) ∈ gw := gwt 1163 (by decide +kernel) rfl
theorem kw_1164 : (Jvm.Cond.selects "TrunkDuel" ({ cls := "TrunkDuel", name := "isOver", desc := "()Z" } : Jvm.MethodName) ({ cls := "TrunkDuel", name := "isOver", desc := "()Z" } : Jvm.MethodName)) ∈ gw := gwt 1164 (by decide +kernel) rfl
theorem kw_1165 : (Jvm.Cond.code ({ cls := "TrunkDuel", name := "isOver", desc := "()Z" } : Jvm.MethodName) prog_1_method_32_code (1 : Nat) (Option.some Jvm.ClassFile.FieldType.boolean)) ∈ gw := gwt 1165 (by decide +kernel) rfl
theorem kw_1166 : (Jvm.Cond.methodLink "TrunkDuelLaw" (192 : Nat) ({ cls := "TrunkDuel", name := "bestShape", desc := "()I" } : Jvm.MethodName)) ∈ gw := gwt 1166 (by decide +kernel) rfl
theorem kw_1167 : (Jvm.Cond.instanceMethod ({ cls := "TrunkDuel", name := "bestShape", desc := "()I" } : Jvm.MethodName)) ∈ gw := gwt 1167 (by decide +kernel) rfl
theorem kw_1168 : (Jvm.Cond.selects "TrunkDuel" ({ cls := "TrunkDuel", name := "bestShape", desc := "()I" } : Jvm.MethodName) ({ cls := "TrunkDuel", name := "bestShape", desc := "()I" } : Jvm.MethodName)) ∈ gw := gwt 1168 (by decide +kernel) rfl
theorem kw_1169 : (Jvm.Cond.code ({ cls := "TrunkDuel", name := "bestShape", desc := "()I" } : Jvm.MethodName) prog_1_method_44_code (1 : Nat) (Option.some Jvm.ClassFile.FieldType.int)) ∈ gw := gwt 1169 (by decide +kernel) rfl
theorem kw_1188 : (Jvm.Cond.methodLink "TrunkDuelLaw" (195 : Nat) ({ cls := "TrunkDuel", name := "bestStrapEffect", desc := "()I" } : Jvm.MethodName)) ∈ gw := gwt 1188 (by decide +kernel) rfl
theorem kw_1189 : (Jvm.Cond.instanceMethod ({ cls := "TrunkDuel", name := "bestStrapEffect", desc := "()I" } : Jvm.MethodName)) ∈ gw := gwt 1189 (by decide +kernel) rfl
theorem kw_1190 : (Jvm.Cond.selects "TrunkDuel" ({ cls := "TrunkDuel", name := "bestStrapEffect", desc := "()I" } : Jvm.MethodName) ({ cls := "TrunkDuel", name := "bestStrapEffect", desc := "()I" } : Jvm.MethodName)) ∈ gw := gwt 1190 (by decide +kernel) rfl
theorem kw_1191 : (Jvm.Cond.code ({ cls := "TrunkDuel", name := "bestStrapEffect", desc := "()I" } : Jvm.MethodName) prog_1_method_48_code (1 : Nat) (Option.some Jvm.ClassFile.FieldType.int)) ∈ gw := gwt 1191 (by decide +kernel) rfl
theorem kw_1211 : (Jvm.Cond.methodLink "TrunkDuelLaw" (198 : Nat) ({ cls := "TrunkDuelLaw", name := "pass", desc := "(LTrunkDuel;)I" } : Jvm.MethodName)) ∈ gw := gwt 1211 (by decide +kernel) rfl
theorem kw_1213 : (Jvm.Cond.codeWith ({ cls := "TrunkDuelLaw", name := "pass", desc := "(LTrunkDuel;)I" } : Jvm.MethodName) method_5_code (2 : Nat) (Option.some Jvm.ClassFile.FieldType.int) [((0 : Nat), (4 : Nat), (5 : Nat), (21 : Nat))]) ∈ gw := gwt 1213 (by decide +kernel) rfl
theorem kw_1212 : (Jvm.Cond.static ({ cls := "TrunkDuelLaw", name := "pass", desc := "(LTrunkDuel;)I" } : Jvm.MethodName)) ∈ gw := gwt 1212 (by decide +kernel) rfl
theorem kw_1221 : (Jvm.Cond.methodLink "TrunkDuelLaw" (201 : Nat) ({ cls := "TrunkDuelLaw", name := "mobility", desc := "(LTrunkDuel;I)I" } : Jvm.MethodName)) ∈ gw := gwt 1221 (by decide +kernel) rfl
theorem kw_1223 : (Jvm.Cond.codeWith ({ cls := "TrunkDuelLaw", name := "mobility", desc := "(LTrunkDuel;I)I" } : Jvm.MethodName) method_23_code (3 : Nat) (Option.some Jvm.ClassFile.FieldType.int) [((0 : Nat), (5 : Nat), (6 : Nat), (19 : Nat))]) ∈ gw := gwt 1223 (by decide +kernel) rfl
theorem kw_1222 : (Jvm.Cond.static ({ cls := "TrunkDuelLaw", name := "mobility", desc := "(LTrunkDuel;I)I" } : Jvm.MethodName)) ∈ gw := gwt 1222 (by decide +kernel) rfl
theorem kw_926 : (Jvm.Cond.methodLink "TrunkDuelLaw" (203 : Nat) ({ cls := "TrunkDuelLaw", name := "draw", desc := "([II)I" } : Jvm.MethodName)) ∈ gw := gwt 926 (by decide +kernel) rfl
theorem kw_928 : (Jvm.Cond.code ({ cls := "TrunkDuelLaw", name := "draw", desc := "([II)I" } : Jvm.MethodName) method_29_code (2 : Nat) (Option.some Jvm.ClassFile.FieldType.int)) ∈ gw := gwt 928 (by decide +kernel) rfl
theorem kw_927 : (Jvm.Cond.static ({ cls := "TrunkDuelLaw", name := "draw", desc := "([II)I" } : Jvm.MethodName)) ∈ gw := gwt 927 (by decide +kernel) rfl
theorem kw_1238 : (Jvm.Cond.methodLink "TrunkDuelLaw" (207 : Nat) ({ cls := "TrunkDuelLaw", name := "strapsLeft", desc := "(LTrunkDuel;I)I" } : Jvm.MethodName)) ∈ gw := gwt 1238 (by decide +kernel) rfl
theorem kw_1240 : (Jvm.Cond.codeWith ({ cls := "TrunkDuelLaw", name := "strapsLeft", desc := "(LTrunkDuel;I)I" } : Jvm.MethodName) method_19_code (3 : Nat) (Option.some Jvm.ClassFile.FieldType.int) [((0 : Nat), (5 : Nat), (6 : Nat), (19 : Nat))]) ∈ gw := gwt 1240 (by decide +kernel) rfl
theorem kw_1239 : (Jvm.Cond.static ({ cls := "TrunkDuelLaw", name := "strapsLeft", desc := "(LTrunkDuel;I)I" } : Jvm.MethodName)) ∈ gw := gwt 1239 (by decide +kernel) rfl
theorem kw_1245 : (Jvm.Cond.methodLink "TrunkDuelLaw" (209 : Nat) ({ cls := "TrunkDuelLaw", name := "fastenStrap", desc := "(LTrunkDuel;III)I" } : Jvm.MethodName)) ∈ gw := gwt 1245 (by decide +kernel) rfl
theorem kw_1247 : (Jvm.Cond.codeWith ({ cls := "TrunkDuelLaw", name := "fastenStrap", desc := "(LTrunkDuel;III)I" } : Jvm.MethodName) method_4_code (5 : Nat) (Option.some Jvm.ClassFile.FieldType.int) [((0 : Nat), (7 : Nat), (8 : Nat), (13 : Nat)), ((0 : Nat), (7 : Nat), (13 : Nat), (19 : Nat)), ((0 : Nat), (7 : Nat), (18 : Nat), (21 : Nat))]) ∈ gw := gwt 1247 (by decide +kernel) rfl
theorem kw_1246 : (Jvm.Cond.static ({ cls := "TrunkDuelLaw", name := "fastenStrap", desc := "(LTrunkDuel;III)I" } : Jvm.MethodName)) ∈ gw := gwt 1246 (by decide +kernel) rfl
theorem kw_1255 : (Jvm.Cond.methodLink "TrunkDuelLaw" (211 : Nat) ({ cls := "TrunkDuelLaw", name := "places", desc := "(LTrunkDuel;IIIII)Z" } : Jvm.MethodName)) ∈ gw := gwt 1255 (by decide +kernel) rfl
theorem kw_1257 : (Jvm.Cond.code ({ cls := "TrunkDuelLaw", name := "places", desc := "(LTrunkDuel;IIIII)Z" } : Jvm.MethodName) method_32_code (15 : Nat) (Option.some Jvm.ClassFile.FieldType.boolean)) ∈ gw := gwt 1257 (by decide +kernel) rfl
theorem kw_1256 : (Jvm.Cond.static ({ cls := "TrunkDuelLaw", name := "places", desc := "(LTrunkDuel;IIIII)Z" } : Jvm.MethodName)) ∈ gw := gwt 1256 (by decide +kernel) rfl
theorem kw_1302 : (Jvm.Cond.methodLink "TrunkDuelLaw" (215 : Nat) ({ cls := "TrunkDuel", name := "bestRotation", desc := "()I" } : Jvm.MethodName)) ∈ gw := gwt 1302 (by decide +kernel) rfl
theorem kw_1303 : (Jvm.Cond.instanceMethod ({ cls := "TrunkDuel", name := "bestRotation", desc := "()I" } : Jvm.MethodName)) ∈ gw := gwt 1303 (by decide +kernel) rfl
theorem kw_1304 : (Jvm.Cond.selects "TrunkDuel" ({ cls := "TrunkDuel", name := "bestRotation", desc := "()I" } : Jvm.MethodName) ({ cls := "TrunkDuel", name := "bestRotation", desc := "()I" } : Jvm.MethodName)) ∈ gw := gwt 1304 (by decide +kernel) rfl
theorem kw_1305 : (Jvm.Cond.code ({ cls := "TrunkDuel", name := "bestRotation", desc := "()I" } : Jvm.MethodName) prog_1_method_45_code (1 : Nat) (Option.some Jvm.ClassFile.FieldType.int)) ∈ gw := gwt 1305 (by decide +kernel) rfl
theorem kw_1306 : (Jvm.Cond.methodLink "TrunkDuelLaw" (218 : Nat) ({ cls := "TrunkDuel", name := "bestColumn", desc := "()I" } : Jvm.MethodName)) ∈ gw := gwt 1306 (by decide +kernel) rfl
theorem kw_1307 : (Jvm.Cond.instanceMethod ({ cls := "TrunkDuel", name := "bestColumn", desc := "()I" } : Jvm.MethodName)) ∈ gw := gwt 1307 (by decide +kernel) rfl
theorem kw_1308 : (Jvm.Cond.selects "TrunkDuel" ({ cls := "TrunkDuel", name := "bestColumn", desc := "()I" } : Jvm.MethodName) ({ cls := "TrunkDuel", name := "bestColumn", desc := "()I" } : Jvm.MethodName)) ∈ gw := gwt 1308 (by decide +kernel) rfl
theorem kw_1309 : (Jvm.Cond.code ({ cls := "TrunkDuel", name := "bestColumn", desc := "()I" } : Jvm.MethodName) prog_1_method_46_code (1 : Nat) (Option.some Jvm.ClassFile.FieldType.int)) ∈ gw := gwt 1309 (by decide +kernel) rfl
theorem kw_1310 : (Jvm.Cond.methodLink "TrunkDuelLaw" (221 : Nat) ({ cls := "TrunkDuel", name := "bestRow", desc := "()I" } : Jvm.MethodName)) ∈ gw := gwt 1310 (by decide +kernel) rfl
theorem kw_1311 : (Jvm.Cond.instanceMethod ({ cls := "TrunkDuel", name := "bestRow", desc := "()I" } : Jvm.MethodName)) ∈ gw := gwt 1311 (by decide +kernel) rfl
theorem kw_1312 : (Jvm.Cond.selects "TrunkDuel" ({ cls := "TrunkDuel", name := "bestRow", desc := "()I" } : Jvm.MethodName) ({ cls := "TrunkDuel", name := "bestRow", desc := "()I" } : Jvm.MethodName)) ∈ gw := gwt 1312 (by decide +kernel) rfl
theorem kw_1313 : (Jvm.Cond.code ({ cls := "TrunkDuel", name := "bestRow", desc := "()I" } : Jvm.MethodName) prog_1_method_47_code (1 : Nat) (Option.some Jvm.ClassFile.FieldType.int)) ∈ gw := gwt 1313 (by decide +kernel) rfl
theorem kw_1258 : (Jvm.Cond.methodLink "TrunkDuelLaw" (224 : Nat) ({ cls := "TrunkDuelLaw", name := "pointsFor", desc := "(LTrunkDuel;IIII)I" } : Jvm.MethodName)) ∈ gw := gwt 1258 (by decide +kernel) rfl
theorem kw_1260 : (Jvm.Cond.codeWith ({ cls := "TrunkDuelLaw", name := "pointsFor", desc := "(LTrunkDuel;IIII)I" } : Jvm.MethodName) method_22_code (6 : Nat) (Option.some Jvm.ClassFile.FieldType.int) [((0 : Nat), (9 : Nat), (10 : Nat), (13 : Nat)), ((0 : Nat), (9 : Nat), (15 : Nat), (19 : Nat))]) ∈ gw := gwt 1260 (by decide +kernel) rfl
theorem kw_1259 : (Jvm.Cond.static ({ cls := "TrunkDuelLaw", name := "pointsFor", desc := "(LTrunkDuel;IIII)I" } : Jvm.MethodName)) ∈ gw := gwt 1259 (by decide +kernel) rfl
theorem kw_1266 : (Jvm.Cond.methodLink "TrunkDuelLaw" (226 : Nat) ({ cls := "TrunkDuelLaw", name := "supply", desc := "(LTrunkDuel;II)I" } : Jvm.MethodName)) ∈ gw := gwt 1266 (by decide +kernel) rfl
theorem kw_1268 : (Jvm.Cond.codeWith ({ cls := "TrunkDuelLaw", name := "supply", desc := "(LTrunkDuel;II)I" } : Jvm.MethodName) method_18_code (4 : Nat) (Option.some Jvm.ClassFile.FieldType.int) [((0 : Nat), (6 : Nat), (7 : Nat), (19 : Nat)), ((0 : Nat), (6 : Nat), (11 : Nat), (13 : Nat))]) ∈ gw := gwt 1268 (by decide +kernel) rfl
theorem kw_1267 : (Jvm.Cond.static ({ cls := "TrunkDuelLaw", name := "supply", desc := "(LTrunkDuel;II)I" } : Jvm.MethodName)) ∈ gw := gwt 1267 (by decide +kernel) rfl
theorem kw_1274 : (Jvm.Cond.methodLink "TrunkDuelLaw" (228 : Nat) ({ cls := "TrunkDuelLaw", name := "mobilityAfter", desc := "(LTrunkDuel;IIIII)I" } : Jvm.MethodName)) ∈ gw := gwt 1274 (by decide +kernel) rfl
theorem kw_1276 : (Jvm.Cond.codeWith ({ cls := "TrunkDuelLaw", name := "mobilityAfter", desc := "(LTrunkDuel;IIIII)I" } : Jvm.MethodName) method_24_code (7 : Nat) (Option.some Jvm.ClassFile.FieldType.int) [((0 : Nat), (11 : Nat), (12 : Nat), (13 : Nat)), ((0 : Nat), (11 : Nat), (17 : Nat), (19 : Nat))]) ∈ gw := gwt 1276 (by decide +kernel) rfl
theorem kw_1275 : (Jvm.Cond.static ({ cls := "TrunkDuelLaw", name := "mobilityAfter", desc := "(LTrunkDuel;IIIII)I" } : Jvm.MethodName)) ∈ gw := gwt 1275 (by decide +kernel) rfl
theorem kw_1283 : (Jvm.Cond.methodLink "TrunkDuelLaw" (231 : Nat) ({ cls := "TrunkDuelLaw", name := "place", desc := "(LTrunkDuel;IIII)I" } : Jvm.MethodName)) ∈ gw := gwt 1283 (by decide +kernel) rfl
theorem kw_1285 : (Jvm.Cond.codeWith ({ cls := "TrunkDuelLaw", name := "place", desc := "(LTrunkDuel;IIII)I" } : Jvm.MethodName) method_3_code (6 : Nat) (Option.some Jvm.ClassFile.FieldType.int) [((0 : Nat), (9 : Nat), (10 : Nat), (13 : Nat)), ((0 : Nat), (9 : Nat), (15 : Nat), (19 : Nat)), ((0 : Nat), (9 : Nat), (20 : Nat), (21 : Nat))]) ∈ gw := gwt 1285 (by decide +kernel) rfl
theorem kw_1284 : (Jvm.Cond.static ({ cls := "TrunkDuelLaw", name := "place", desc := "(LTrunkDuel;IIII)I" } : Jvm.MethodName)) ∈ gw := gwt 1284 (by decide +kernel) rfl
theorem kw_1291 : (Jvm.Cond.methodLink "TrunkDuelLaw" (233 : Nat) ({ cls := "TrunkDuelLaw", name := "pieceOwner", desc := "(LTrunkDuel;I)I" } : Jvm.MethodName)) ∈ gw := gwt 1291 (by decide +kernel) rfl
theorem kw_1293 : (Jvm.Cond.codeWith ({ cls := "TrunkDuelLaw", name := "pieceOwner", desc := "(LTrunkDuel;I)I" } : Jvm.MethodName) method_15_code (3 : Nat) (Option.some Jvm.ClassFile.FieldType.int) [((0 : Nat), (5 : Nat), (6 : Nat), (19 : Nat))]) ∈ gw := gwt 1293 (by decide +kernel) rfl
theorem kw_1292 : (Jvm.Cond.static ({ cls := "TrunkDuelLaw", name := "pieceOwner", desc := "(LTrunkDuel;I)I" } : Jvm.MethodName)) ∈ gw := gwt 1292 (by decide +kernel) rfl
theorem kw_882 : (Jvm.Cond.methodLink "TrunkDuelLaw" (264 : Nat) ({ cls := "TrunkDuelLaw", name := "write", desc := "(LTrunkDuel;Ljava/lang/String;)Z" } : Jvm.MethodName)) ∈ gw := gwt 882 (by decide +kernel) rfl
theorem kw_884 : (Jvm.Cond.code ({ cls := "TrunkDuelLaw", name := "write", desc := "(LTrunkDuel;Ljava/lang/String;)Z" } : Jvm.MethodName) method_28_code (3 : Nat) (Option.some Jvm.ClassFile.FieldType.boolean)) ∈ gw := gwt 884 (by decide +kernel) rfl
theorem kw_883 : (Jvm.Cond.static ({ cls := "TrunkDuelLaw", name := "write", desc := "(LTrunkDuel;Ljava/lang/String;)Z" } : Jvm.MethodName)) ∈ gw := gwt 883 (by decide +kernel) rfl
theorem kw_749 : (Jvm.Cond.methodLink "TrunkDuelLaw" (268 : Nat) ({ cls := "TrunkDuel", name := "load", desc := "()I" } : Jvm.MethodName)) ∈ gw := gwt 749 (by decide +kernel) rfl
theorem kw_750 : (Jvm.Cond.instanceMethod ({ cls := "TrunkDuel", name := "load", desc := "()I" } : Jvm.MethodName)) ∈ gw := gwt 750 (by decide +kernel) rfl
theorem kw_751 : (Jvm.Cond.selects "TrunkDuel" ({ cls := "TrunkDuel", name := "load", desc := "()I" } : Jvm.MethodName) ({ cls := "TrunkDuel", name := "load", desc := "()I" } : Jvm.MethodName)) ∈ gw := gwt 751 (by decide +kernel) rfl
theorem kw_752 : (Jvm.Cond.code ({ cls := "TrunkDuel", name := "load", desc := "()I" } : Jvm.MethodName) prog_1_method_4_code (2 : Nat) (Option.some Jvm.ClassFile.FieldType.int)) ∈ gw := gwt 752 (by decide +kernel) rfl
theorem kw_1159 : (Jvm.Cond.methodLink "TrunkDuelLaw" (271 : Nat) ({ cls := "TrunkDuelLaw", name := "moves", desc := "(LTrunkDuel;[I)Z" } : Jvm.MethodName)) ∈ gw := gwt 1159 (by decide +kernel) rfl
theorem kw_1161 : (Jvm.Cond.code ({ cls := "TrunkDuelLaw", name := "moves", desc := "(LTrunkDuel;[I)Z" } : Jvm.MethodName) method_31_code (13 : Nat) (Option.some Jvm.ClassFile.FieldType.boolean)) ∈ gw := gwt 1161 (by decide +kernel) rfl
theorem kw_1160 : (Jvm.Cond.static ({ cls := "TrunkDuelLaw", name := "moves", desc := "(LTrunkDuel;[I)Z" } : Jvm.MethodName)) ∈ gw := gwt 1160 (by decide +kernel) rfl
theorem kw_930 : (Jvm.Cond.methodLink "TrunkDuelLaw" (275 : Nat) ({ cls := "TrunkDuelLaw", name := "isSound", desc := "(LTrunkDuel;)Z" } : Jvm.MethodName)) ∈ gw := gwt 930 (by decide +kernel) rfl
theorem kw_932 : (Jvm.Cond.code ({ cls := "TrunkDuelLaw", name := "isSound", desc := "(LTrunkDuel;)Z" } : Jvm.MethodName) method_30_code (13 : Nat) (Option.some Jvm.ClassFile.FieldType.boolean)) ∈ gw := gwt 932 (by decide +kernel) rfl
theorem kw_931 : (Jvm.Cond.static ({ cls := "TrunkDuelLaw", name := "isSound", desc := "(LTrunkDuel;)Z" } : Jvm.MethodName)) ∈ gw := gwt 931 (by decide +kernel) rfl
theorem kw_766 : (Jvm.Cond.methodLink "TrunkDuelLaw" (279 : Nat) ({ cls := "TrunkDuel", name := "undoableChanges", desc := "()I" } : Jvm.MethodName)) ∈ gw := gwt 766 (by decide +kernel) rfl
theorem kw_767 : (Jvm.Cond.instanceMethod ({ cls := "TrunkDuel", name := "undoableChanges", desc := "()I" } : Jvm.MethodName)) ∈ gw := gwt 767 (by decide +kernel) rfl
theorem kw_768 : (Jvm.Cond.selects "TrunkDuel" ({ cls := "TrunkDuel", name := "undoableChanges", desc := "()I" } : Jvm.MethodName) ({ cls := "TrunkDuel", name := "undoableChanges", desc := "()I" } : Jvm.MethodName)) ∈ gw := gwt 768 (by decide +kernel) rfl
theorem kw_769 : (Jvm.Cond.code ({ cls := "TrunkDuel", name := "undoableChanges", desc := "()I" } : Jvm.MethodName) prog_1_method_20_code (1 : Nat) (Option.some Jvm.ClassFile.FieldType.int)) ∈ gw := gwt 769 (by decide +kernel) rfl
theorem kw_775 : (Jvm.Cond.methodLink "TrunkDuelLaw" (282 : Nat) ({ cls := "TrunkDuelLaw", name := "undo", desc := "(LTrunkDuel;)I" } : Jvm.MethodName)) ∈ gw := gwt 775 (by decide +kernel) rfl
theorem kw_777 : (Jvm.Cond.codeWith ({ cls := "TrunkDuelLaw", name := "undo", desc := "(LTrunkDuel;)I" } : Jvm.MethodName) method_6_code (2 : Nat) (Option.some Jvm.ClassFile.FieldType.int) [((0 : Nat), (4 : Nat), (5 : Nat), (21 : Nat))]) ∈ gw := gwt 777 (by decide +kernel) rfl
theorem kw_776 : (Jvm.Cond.static ({ cls := "TrunkDuelLaw", name := "undo", desc := "(LTrunkDuel;)I" } : Jvm.MethodName)) ∈ gw := gwt 776 (by decide +kernel) rfl
theorem kw_1314 : (Jvm.Cond.methodLink "TrunkDuelLaw" (284 : Nat) ({ cls := "java/lang/Math", name := "min", desc := "(II)I" } : Jvm.MethodName)) ∈ gw := gwt 1314 (by decide +kernel) rfl
theorem kw_422 : (Jvm.Cond.static ({ cls := "java/lang/Math", name := "min", desc := "(II)I" } : Jvm.MethodName)) ∈ gw := gwt 422 (by decide +kernel) rfl
theorem kw_1142 : (Jvm.Cond.static ({ cls := "java/lang/Math", name := "max", desc := "(II)I" } : Jvm.MethodName)) ∈ gw := gwt 1142 (by decide +kernel) rfl
theorem kw_570 : (Jvm.Cond.static ({ cls := "java/lang/Math", name := "abs", desc := "(I)I" } : Jvm.MethodName)) ∈ gw := gwt 570 (by decide +kernel) rfl
theorem kw_16 : (Jvm.Cond.initialized "java/lang/Math") ∈ gw := gwt 16 (by decide +kernel) rfl
theorem kw_423 : (Jvm.Cond.code ({ cls := "java/lang/Math", name := "min", desc := "(II)I" } : Jvm.MethodName) prog_21_method_69_code (2 : Nat) (Option.some Jvm.ClassFile.FieldType.int)) ∈ gw := gwt 423 (by decide +kernel) rfl
theorem kw_1143 : (Jvm.Cond.code ({ cls := "java/lang/Math", name := "max", desc := "(II)I" } : Jvm.MethodName) prog_21_method_65_code (2 : Nat) (Option.some Jvm.ClassFile.FieldType.int)) ∈ gw := gwt 1143 (by decide +kernel) rfl
theorem kw_571 : (Jvm.Cond.code ({ cls := "java/lang/Math", name := "abs", desc := "(I)I" } : Jvm.MethodName) prog_21_method_59_code (1 : Nat) (Option.some Jvm.ClassFile.FieldType.int)) ∈ gw := gwt 571 (by decide +kernel) rfl
theorem kw_696 : (Jvm.Cond.native ({ cls := "java/lang/System", name := "arraycopy", desc := "(Ljava/lang/Object;ILjava/lang/Object;II)V" } : Jvm.MethodName)) ∈ gw := gwt 696 (by decide +kernel) rfl
theorem kw_695 : (Jvm.Cond.static ({ cls := "java/lang/System", name := "arraycopy", desc := "(Ljava/lang/Object;ILjava/lang/Object;II)V" } : Jvm.MethodName)) ∈ gw := gwt 695 (by decide +kernel) rfl
theorem kw_17 : (Jvm.Cond.initialized "java/lang/System") ∈ gw := gwt 17 (by decide +kernel) rfl
theorem kw_35 : (Jvm.Cond.instanceMethod ({ cls := "java/lang/Object", name := "<init>", desc := "()V" } : Jvm.MethodName)) ∈ gw := gwt 35 (by decide +kernel) rfl
theorem kw_36 : (Jvm.Cond.code ({ cls := "java/lang/Object", name := "<init>", desc := "()V" } : Jvm.MethodName) object_method_1_code (1 : Nat) (Option.none : Option Jvm.ClassFile.FieldType)) ∈ gw := gwt 36 (by decide +kernel) rfl
theorem kw_350 : (Jvm.Cond.instanceMethod ({ cls := "java/lang/String", name := "length", desc := "()I" } : Jvm.MethodName)) ∈ gw := gwt 350 (by decide +kernel) rfl
theorem kw_351 : (Jvm.Cond.selects "java/lang/String" ({ cls := "java/lang/String", name := "length", desc := "()I" } : Jvm.MethodName) ({ cls := "java/lang/String", name := "length", desc := "()I" } : Jvm.MethodName)) ∈ gw := gwt 351 (by decide +kernel) rfl
theorem kw_12 : (Jvm.Cond.initialized "java/lang/String") ∈ gw := gwt 12 (by decide +kernel) rfl
theorem kw_352 : (Jvm.Cond.code ({ cls := "java/lang/String", name := "length", desc := "()I" } : Jvm.MethodName) prog_23_method_54_code (1 : Nat) (Option.some Jvm.ClassFile.FieldType.int)) ∈ gw := gwt 352 (by decide +kernel) rfl
theorem kw_360 : (Jvm.Cond.instanceMethod ({ cls := "java/lang/String", name := "charAt", desc := "(I)C" } : Jvm.MethodName)) ∈ gw := gwt 360 (by decide +kernel) rfl
theorem kw_361 : (Jvm.Cond.selects "java/lang/String" ({ cls := "java/lang/String", name := "charAt", desc := "(I)C" } : Jvm.MethodName) ({ cls := "java/lang/String", name := "charAt", desc := "(I)C" } : Jvm.MethodName)) ∈ gw := gwt 361 (by decide +kernel) rfl
theorem kw_362 : (Jvm.Cond.code ({ cls := "java/lang/String", name := "charAt", desc := "(I)C" } : Jvm.MethodName) prog_23_method_56_code (2 : Nat) (Option.some Jvm.ClassFile.FieldType.char)) ∈ gw := gwt 362 (by decide +kernel) rfl
theorem kw_300 : (Jvm.Cond.lays "TrunkDuel$Choice" "TrunkDuel$Choice" "shape" "I") ∈ gw := gwt 300 (by decide +kernel) rfl
theorem kw_302 : (Jvm.Cond.lays "TrunkDuel$Choice" "TrunkDuel$Choice" "rotation" "I") ∈ gw := gwt 302 (by decide +kernel) rfl
theorem kw_304 : (Jvm.Cond.lays "TrunkDuel$Choice" "TrunkDuel$Choice" "column" "I") ∈ gw := gwt 304 (by decide +kernel) rfl
theorem kw_306 : (Jvm.Cond.lays "TrunkDuel$Choice" "TrunkDuel$Choice" "row" "I") ∈ gw := gwt 306 (by decide +kernel) rfl
theorem kw_308 : (Jvm.Cond.lays "TrunkDuel$Choice" "TrunkDuel$Choice" "points" "I") ∈ gw := gwt 308 (by decide +kernel) rfl
theorem kw_318 : (Jvm.Cond.laysFinal "TrunkDuel$Crossings" "TrunkDuel$Crossings" "counts" "[I") ∈ gw := gwt 318 (by decide +kernel) rfl
theorem kw_193 : (Jvm.Cond.lays "TrunkDuel$Footprint" "TrunkDuel$Footprint" "shape" "I") ∈ gw := gwt 193 (by decide +kernel) rfl
theorem kw_195 : (Jvm.Cond.lays "TrunkDuel$Footprint" "TrunkDuel$Footprint" "rotation" "I") ∈ gw := gwt 195 (by decide +kernel) rfl
theorem kw_197 : (Jvm.Cond.lays "TrunkDuel$Footprint" "TrunkDuel$Footprint" "column" "I") ∈ gw := gwt 197 (by decide +kernel) rfl
theorem kw_199 : (Jvm.Cond.lays "TrunkDuel$Footprint" "TrunkDuel$Footprint" "row" "I") ∈ gw := gwt 199 (by decide +kernel) rfl
theorem kw_201 : (Jvm.Cond.lays "TrunkDuel$Footprint" "TrunkDuel$Footprint" "size" "I") ∈ gw := gwt 201 (by decide +kernel) rfl
theorem kw_203 : (Jvm.Cond.lays "TrunkDuel$Footprint" "TrunkDuel$Footprint" "edges" "I") ∈ gw := gwt 203 (by decide +kernel) rfl
theorem kw_205 : (Jvm.Cond.laysFinal "TrunkDuel$Footprint" "TrunkDuel$Footprint" "right" "[I") ∈ gw := gwt 205 (by decide +kernel) rfl
theorem kw_207 : (Jvm.Cond.laysFinal "TrunkDuel$Footprint" "TrunkDuel$Footprint" "down" "[I") ∈ gw := gwt 207 (by decide +kernel) rfl
theorem kw_209 : (Jvm.Cond.laysFinal "TrunkDuel$Footprint" "TrunkDuel$Footprint" "edgeRight" "[I") ∈ gw := gwt 209 (by decide +kernel) rfl
theorem kw_211 : (Jvm.Cond.laysFinal "TrunkDuel$Footprint" "TrunkDuel$Footprint" "edgeDown" "[I") ∈ gw := gwt 211 (by decide +kernel) rfl
theorem kw_213 : (Jvm.Cond.laysFinal "TrunkDuel$Footprint" "TrunkDuel$Footprint" "edgeSide" "[I") ∈ gw := gwt 213 (by decide +kernel) rfl
theorem kw_276 : (Jvm.Cond.lays "TrunkDuel$History" "TrunkDuel$History" "count" "I") ∈ gw := gwt 276 (by decide +kernel) rfl
theorem kw_278 : (Jvm.Cond.lays "TrunkDuel$History" "TrunkDuel$History" "oldest" "I") ∈ gw := gwt 278 (by decide +kernel) rfl
theorem kw_280 : (Jvm.Cond.laysFinal "TrunkDuel$History" "TrunkDuel$History" "states" "[LTrunkDuel$State;") ∈ gw := gwt 280 (by decide +kernel) rfl
theorem kw_91 : (Jvm.Cond.lays "TrunkDuel$Pieces" "TrunkDuel$Pieces" "count" "I") ∈ gw := gwt 91 (by decide +kernel) rfl
theorem kw_93 : (Jvm.Cond.laysFinal "TrunkDuel$Pieces" "TrunkDuel$Pieces" "shapes" "[I") ∈ gw := gwt 93 (by decide +kernel) rfl
theorem kw_95 : (Jvm.Cond.laysFinal "TrunkDuel$Pieces" "TrunkDuel$Pieces" "rotations" "[I") ∈ gw := gwt 95 (by decide +kernel) rfl
theorem kw_97 : (Jvm.Cond.laysFinal "TrunkDuel$Pieces" "TrunkDuel$Pieces" "anchorColumns" "[I") ∈ gw := gwt 97 (by decide +kernel) rfl
theorem kw_99 : (Jvm.Cond.laysFinal "TrunkDuel$Pieces" "TrunkDuel$Pieces" "anchorRows" "[I") ∈ gw := gwt 99 (by decide +kernel) rfl
theorem kw_101 : (Jvm.Cond.laysFinal "TrunkDuel$Pieces" "TrunkDuel$Pieces" "owners" "[I") ∈ gw := gwt 101 (by decide +kernel) rfl
theorem kw_103 : (Jvm.Cond.laysFinal "TrunkDuel$Pieces" "TrunkDuel$Pieces" "points" "[I") ∈ gw := gwt 103 (by decide +kernel) rfl
theorem kw_122 : (Jvm.Cond.lays "TrunkDuel$Player" "TrunkDuel$Player" "score" "I") ∈ gw := gwt 122 (by decide +kernel) rfl
theorem kw_124 : (Jvm.Cond.lays "TrunkDuel$Player" "TrunkDuel$Player" "straps" "I") ∈ gw := gwt 124 (by decide +kernel) rfl
theorem kw_126 : (Jvm.Cond.lays "TrunkDuel$Player" "TrunkDuel$Player" "nameLength" "I") ∈ gw := gwt 126 (by decide +kernel) rfl
theorem kw_128 : (Jvm.Cond.laysFinal "TrunkDuel$Player" "TrunkDuel$Player" "name" "[I") ∈ gw := gwt 128 (by decide +kernel) rfl
theorem kw_130 : (Jvm.Cond.laysFinal "TrunkDuel$Player" "TrunkDuel$Player" "supplies" "[I") ∈ gw := gwt 130 (by decide +kernel) rfl
theorem kw_232 : (Jvm.Cond.lays "TrunkDuel$Reader" "TrunkDuel$Reader" "length" "I") ∈ gw := gwt 232 (by decide +kernel) rfl
theorem kw_234 : (Jvm.Cond.lays "TrunkDuel$Reader" "TrunkDuel$Reader" "errorCode" "I") ∈ gw := gwt 234 (by decide +kernel) rfl
theorem kw_236 : (Jvm.Cond.lays "TrunkDuel$Reader" "TrunkDuel$Reader" "errorOffset" "I") ∈ gw := gwt 236 (by decide +kernel) rfl
theorem kw_238 : (Jvm.Cond.lays "TrunkDuel$Reader" "TrunkDuel$Reader" "commands" "I") ∈ gw := gwt 238 (by decide +kernel) rfl
theorem kw_240 : (Jvm.Cond.laysFinal "TrunkDuel$Reader" "TrunkDuel$Reader" "draft" "LTrunkDuel$State;") ∈ gw := gwt 240 (by decide +kernel) rfl
theorem kw_242 : (Jvm.Cond.laysFinal "TrunkDuel$Reader" "TrunkDuel$Reader" "footprint" "LTrunkDuel$Footprint;") ∈ gw := gwt 242 (by decide +kernel) rfl
theorem kw_244 : (Jvm.Cond.laysFinal "TrunkDuel$Reader" "TrunkDuel$Reader" "bytes" "[I") ∈ gw := gwt 244 (by decide +kernel) rfl
theorem kw_246 : (Jvm.Cond.lays "TrunkDuel$Reader" "TrunkDuel$Reader" "position" "I") ∈ gw := gwt 246 (by decide +kernel) rfl
theorem kw_248 : (Jvm.Cond.lays "TrunkDuel$Reader" "TrunkDuel$Reader" "tokenKind" "I") ∈ gw := gwt 248 (by decide +kernel) rfl
theorem kw_250 : (Jvm.Cond.lays "TrunkDuel$Reader" "TrunkDuel$Reader" "tokenStart" "I") ∈ gw := gwt 250 (by decide +kernel) rfl
theorem kw_252 : (Jvm.Cond.lays "TrunkDuel$Reader" "TrunkDuel$Reader" "number" "I") ∈ gw := gwt 252 (by decide +kernel) rfl
theorem kw_254 : (Jvm.Cond.lays "TrunkDuel$Reader" "TrunkDuel$Reader" "edgeColumn" "I") ∈ gw := gwt 254 (by decide +kernel) rfl
theorem kw_256 : (Jvm.Cond.lays "TrunkDuel$Reader" "TrunkDuel$Reader" "edgeRow" "I") ∈ gw := gwt 256 (by decide +kernel) rfl
theorem kw_258 : (Jvm.Cond.lays "TrunkDuel$Reader" "TrunkDuel$Reader" "edgeSide" "I") ∈ gw := gwt 258 (by decide +kernel) rfl
theorem kw_333 : (Jvm.Cond.lays "TrunkDuel$Regions" "TrunkDuel$Regions" "count" "I") ∈ gw := gwt 333 (by decide +kernel) rfl
theorem kw_335 : (Jvm.Cond.laysFinal "TrunkDuel$Regions" "TrunkDuel$Regions" "labels" "[I") ∈ gw := gwt 335 (by decide +kernel) rfl
theorem kw_337 : (Jvm.Cond.laysFinal "TrunkDuel$Regions" "TrunkDuel$Regions" "sizes" "[I") ∈ gw := gwt 337 (by decide +kernel) rfl
theorem kw_339 : (Jvm.Cond.laysFinal "TrunkDuel$Regions" "TrunkDuel$Regions" "queue" "[I") ∈ gw := gwt 339 (by decide +kernel) rfl
theorem kw_341 : (Jvm.Cond.lays "TrunkDuel$Regions" "TrunkDuel$Regions" "queued" "I") ∈ gw := gwt 341 (by decide +kernel) rfl
theorem kw_149 : (Jvm.Cond.laysFinal "TrunkDuel$State" "TrunkDuel$State" "trunk" "LTrunkDuel$Trunk;") ∈ gw := gwt 149 (by decide +kernel) rfl
theorem kw_151 : (Jvm.Cond.laysFinal "TrunkDuel$State" "TrunkDuel$State" "pieces" "LTrunkDuel$Pieces;") ∈ gw := gwt 151 (by decide +kernel) rfl
theorem kw_153 : (Jvm.Cond.laysFinal "TrunkDuel$State" "TrunkDuel$State" "first" "LTrunkDuel$Player;") ∈ gw := gwt 153 (by decide +kernel) rfl
theorem kw_155 : (Jvm.Cond.laysFinal "TrunkDuel$State" "TrunkDuel$State" "second" "LTrunkDuel$Player;") ∈ gw := gwt 155 (by decide +kernel) rfl
theorem kw_157 : (Jvm.Cond.lays "TrunkDuel$State" "TrunkDuel$State" "mover" "I") ∈ gw := gwt 157 (by decide +kernel) rfl
theorem kw_159 : (Jvm.Cond.lays "TrunkDuel$State" "TrunkDuel$State" "passes" "I") ∈ gw := gwt 159 (by decide +kernel) rfl
theorem kw_65 : (Jvm.Cond.lays "TrunkDuel$Trunk" "TrunkDuel$Trunk" "columns" "I") ∈ gw := gwt 65 (by decide +kernel) rfl
theorem kw_67 : (Jvm.Cond.lays "TrunkDuel$Trunk" "TrunkDuel$Trunk" "rows" "I") ∈ gw := gwt 67 (by decide +kernel) rfl
theorem kw_69 : (Jvm.Cond.laysFinal "TrunkDuel$Trunk" "TrunkDuel$Trunk" "cells" "[I") ∈ gw := gwt 69 (by decide +kernel) rfl
theorem kw_71 : (Jvm.Cond.laysFinal "TrunkDuel$Trunk" "TrunkDuel$Trunk" "straps" "[Z") ∈ gw := gwt 71 (by decide +kernel) rfl
theorem kw_723 : (Jvm.Cond.laysFinal "TrunkDuel" "TrunkDuel" "reader" "LTrunkDuel$Reader;") ∈ gw := gwt 723 (by decide +kernel) rfl
theorem kw_725 : (Jvm.Cond.laysFinal "TrunkDuel" "TrunkDuel" "present" "LTrunkDuel$State;") ∈ gw := gwt 725 (by decide +kernel) rfl
theorem kw_727 : (Jvm.Cond.laysFinal "TrunkDuel" "TrunkDuel" "trial" "LTrunkDuel$State;") ∈ gw := gwt 727 (by decide +kernel) rfl
theorem kw_729 : (Jvm.Cond.laysFinal "TrunkDuel" "TrunkDuel" "history" "LTrunkDuel$History;") ∈ gw := gwt 729 (by decide +kernel) rfl
theorem kw_731 : (Jvm.Cond.laysFinal "TrunkDuel" "TrunkDuel" "saved" "[LTrunkDuel$State;") ∈ gw := gwt 731 (by decide +kernel) rfl
theorem kw_733 : (Jvm.Cond.laysFinal "TrunkDuel" "TrunkDuel" "isSaved" "[Z") ∈ gw := gwt 733 (by decide +kernel) rfl
theorem kw_735 : (Jvm.Cond.laysFinal "TrunkDuel" "TrunkDuel" "footprint" "LTrunkDuel$Footprint;") ∈ gw := gwt 735 (by decide +kernel) rfl
theorem kw_737 : (Jvm.Cond.laysFinal "TrunkDuel" "TrunkDuel" "best" "LTrunkDuel$Choice;") ∈ gw := gwt 737 (by decide +kernel) rfl
theorem kw_739 : (Jvm.Cond.laysFinal "TrunkDuel" "TrunkDuel" "crossings" "LTrunkDuel$Crossings;") ∈ gw := gwt 739 (by decide +kernel) rfl
theorem kw_741 : (Jvm.Cond.laysFinal "TrunkDuel" "TrunkDuel" "regions" "LTrunkDuel$Regions;") ∈ gw := gwt 741 (by decide +kernel) rfl
theorem kw_743 : (Jvm.Cond.laysFinal "TrunkDuel" "TrunkDuel" "output" "[I") ∈ gw := gwt 743 (by decide +kernel) rfl
theorem kw_745 : (Jvm.Cond.lays "TrunkDuel" "TrunkDuel" "outputLength" "I") ∈ gw := gwt 745 (by decide +kernel) rfl
theorem kw_888 : (Jvm.Cond.classLink "TrunkDuelLaw" (13 : Nat) "java/lang/IllegalArgumentException") ∈ gw := gwt 888 (by decide +kernel) rfl
theorem kw_857 : (Jvm.Cond.classLink "TrunkDuelLaw" (19 : Nat) "java/lang/IndexOutOfBoundsException") ∈ gw := gwt 857 (by decide +kernel) rfl
theorem kw_778 : (Jvm.Cond.classLink "TrunkDuelLaw" (21 : Nat) "java/lang/IllegalStateException") ∈ gw := gwt 778 (by decide +kernel) rfl
