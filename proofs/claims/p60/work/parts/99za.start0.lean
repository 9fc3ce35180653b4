/-! ===== the words of the start; by wip/p60/gen_start.py ===== -/
abbrev sNr : List Cond := flatC narrow_1
def sTm : Nat → String × Nat
  | 0 => ("TrunkDuel", 77)
  | 1 => ("TrunkDuel$Reader", 129)
  | 2 => ("TrunkDuel$Reader", 139)
  | 3 => ("TrunkDuel$Reader", 109)
  | 4 => ("TrunkDuel$Reader", 230)
  | 5 => ("TrunkDuel$Reader", 232)
  | 6 => ("TrunkDuel$Reader", 172)
  | 7 => ("TrunkDuel$Reader", 100)
  | 8 => ("TrunkDuel$Reader", 237)
  | 9 => ("TrunkDuel$Reader", 239)
  | 10 => ("TrunkDuel$Reader", 241)
  | 11 => ("TrunkDuel$Reader", 243)
  | 12 => ("TrunkDuel$Reader", 245)
  | _ => ("TrunkDuel$Reader", 114)
abbrev sT (i : Nat) : Term := .string (sTm i).1 (sTm i).2
abbrev sTx (i : Nat) : List Nat := gTexts.getD i []
/-- what is said of a String constant -/
def sBlk (t : Term) (tx : List Nat) : List Cond := .exactly t "java/lang/String" :: .eq (.field t "java/lang/String" "coder" "B") (.int 0) :: .arrayOf (.field t "java/lang/String" "value" "[B") .byte :: .eq (.length (.field t "java/lang/String" "value" "[B")) (.int (Int32.ofNat tx.length)) ::
  (List.range tx.length).map fun j => .eq (.elem (.field t "java/lang/String" "value" "[B") (.int (Int32.ofNat j))) (.int (nI (tx.getD j 0)))
/-- what is said of a static row -/
def sArr (t : Term) (l : List Int) : List Cond := .arrayOf t .int :: .eq (.length t) (.int (Int32.ofNat l.length)) :: (List.range l.length).map fun j => .eq (.elem t (.int (Int32.ofNat j))) (.int (Int32.ofInt (l.getD j 0)))
theorem sub_nr {l : List Cond} {i n : Nat} (h : (sNr.drop i).take n = l) : ∀ w ∈ l, w ∈ sNr := fun w hw => List.mem_of_mem_drop (List.mem_of_mem_take (by rw [h]; exact hw))
theorem sB_0 : ∀ w ∈ sBlk (sT 0) (sTx 0), w ∈ sNr := sub_nr (i := 314) (n := 118) (by decide +kernel)
theorem sB_1 : ∀ w ∈ sBlk (sT 1) (sTx 1), w ∈ sNr := sub_nr (i := 432) (n := 9) (by decide +kernel)
theorem sB_2 : ∀ w ∈ sBlk (sT 2) (sTx 2), w ∈ sNr := sub_nr (i := 441) (n := 9) (by decide +kernel)
theorem sB_3 : ∀ w ∈ sBlk (sT 3) (sTx 3), w ∈ sNr := sub_nr (i := 450) (n := 9) (by decide +kernel)
theorem sB_4 : ∀ w ∈ sBlk (sT 4) (sTx 4), w ∈ sNr := sub_nr (i := 459) (n := 9) (by decide +kernel)
theorem sB_5 : ∀ w ∈ sBlk (sT 5) (sTx 5), w ∈ sNr := sub_nr (i := 468) (n := 9) (by decide +kernel)
theorem sB_6 : ∀ w ∈ sBlk (sT 6) (sTx 6), w ∈ sNr := sub_nr (i := 477) (n := 10) (by decide +kernel)
theorem sB_7 : ∀ w ∈ sBlk (sT 7) (sTx 7), w ∈ sNr := sub_nr (i := 487) (n := 9) (by decide +kernel)
theorem sB_8 : ∀ w ∈ sBlk (sT 8) (sTx 8), w ∈ sNr := sub_nr (i := 496) (n := 7) (by decide +kernel)
theorem sB_9 : ∀ w ∈ sBlk (sT 9) (sTx 9), w ∈ sNr := sub_nr (i := 503) (n := 9) (by decide +kernel)
theorem sB_10 : ∀ w ∈ sBlk (sT 10) (sTx 10), w ∈ sNr := sub_nr (i := 512) (n := 7) (by decide +kernel)
theorem sB_11 : ∀ w ∈ sBlk (sT 11) (sTx 11), w ∈ sNr := sub_nr (i := 519) (n := 10) (by decide +kernel)
theorem sB_12 : ∀ w ∈ sBlk (sT 12) (sTx 12), w ∈ sNr := sub_nr (i := 529) (n := 10) (by decide +kernel)
theorem sB_13 : ∀ w ∈ sBlk (sT 13) (sTx 13), w ∈ sNr := sub_nr (i := 539) (n := 8) (by decide +kernel)
theorem sB_all : ∀ i, i < 14 → (∀ w ∈ sBlk (sT i) (sTx i), w ∈ sNr) ∧ (sTx i).length < 2 ^ 31 := fun i hi => match i, hi with
  | 0, _ => ⟨sB_0, by decide⟩
  | 1, _ => ⟨sB_1, by decide⟩
  | 2, _ => ⟨sB_2, by decide⟩
  | 3, _ => ⟨sB_3, by decide⟩
  | 4, _ => ⟨sB_4, by decide⟩
  | 5, _ => ⟨sB_5, by decide⟩
  | 6, _ => ⟨sB_6, by decide⟩
  | 7, _ => ⟨sB_7, by decide⟩
  | 8, _ => ⟨sB_8, by decide⟩
  | 9, _ => ⟨sB_9, by decide⟩
  | 10, _ => ⟨sB_10, by decide⟩
  | 11, _ => ⟨sB_11, by decide⟩
  | 12, _ => ⟨sB_12, by decide⟩
  | 13, _ => ⟨sB_13, by decide⟩
  | k + 14, h => absurd h (by omega)
theorem sA_0 : ∀ w ∈ sArr (.static "TrunkDuel$Footprint" "SIZES" "[I") tZ, w ∈ sNr := sub_nr (i := 8) (n := 7) (by decide +kernel)
theorem sA_1 : ∀ w ∈ sArr (.static "TrunkDuel$Footprint" "OFFSETS_RIGHT" "[I") tR, w ∈ sNr := sub_nr (i := 16) (n := 22) (by decide +kernel)
theorem sA_2 : ∀ w ∈ sArr (.static "TrunkDuel$Footprint" "OFFSETS_DOWN" "[I") tD, w ∈ sNr := sub_nr (i := 39) (n := 22) (by decide +kernel)
/-- where a String constant stands: its class's own word, and that it is one of the texts -/
def sPo (q : String × Nat × String × Nat) : Prop := Cond.stringRef q.1 q.2.1 q.2.2.1 ∈ tables_1 ∧ ∃ i, i < 14 ∧ q.2.2.2 = 100016 + i ∧ (sT i = .string q.1 q.2.1 ∨ Cond.eq (sT i) (.string q.1 q.2.1) ∈ sNr)
theorem sP_0 : sPo ("TrunkDuel", 77, "trunk 5 4; block 4 0; block 0 3; strap 1 1 right; strap 2 2 below; player ann 2 2 1 1 1 1; player bob 1 3 1 0 1 2;", 100016) := ⟨List.mem_of_getElem? (i := 344) (by decide +kernel), 0, by decide, rfl, Or.inl rfl⟩
theorem sP_1 : sPo ("TrunkDuel$Reader", 100, "place", 100023) := ⟨List.mem_of_getElem? (i := 541) (by decide +kernel), 7, by decide, rfl, Or.inl rfl⟩
theorem sP_2 : sPo ("TrunkDuel$Reader", 109, "strap", 100019) := ⟨List.mem_of_getElem? (i := 483) (by decide +kernel), 3, by decide, rfl, Or.inl rfl⟩
theorem sP_3 : sPo ("TrunkDuel$Reader", 114, "pass", 100029) := ⟨List.mem_of_getElem? (i := 662) (by decide +kernel), 13, by decide, rfl, Or.inl rfl⟩
theorem sP_4 : sPo ("TrunkDuel$Reader", 129, "trunk", 100017) := ⟨List.mem_of_getElem? (i := 432) (by decide +kernel), 1, by decide, rfl, Or.inl rfl⟩
theorem sP_5 : sPo ("TrunkDuel$Reader", 139, "block", 100018) := ⟨List.mem_of_getElem? (i := 466) (by decide +kernel), 2, by decide, rfl, Or.inl rfl⟩
theorem sP_6 : sPo ("TrunkDuel$Reader", 172, "player", 100022) := ⟨List.mem_of_getElem? (i := 516) (by decide +kernel), 6, by decide, rfl, Or.inl rfl⟩
theorem sP_7 : sPo ("TrunkDuel$Reader", 230, "right", 100020) := ⟨List.mem_of_getElem? (i := 488) (by decide +kernel), 4, by decide, rfl, Or.inl rfl⟩
theorem sP_8 : sPo ("TrunkDuel$Reader", 232, "below", 100021) := ⟨List.mem_of_getElem? (i := 489) (by decide +kernel), 5, by decide, rfl, Or.inl rfl⟩
theorem sP_9 : sPo ("TrunkDuel$Reader", 237, "bar", 100024) := ⟨List.mem_of_getElem? (i := 550) (by decide +kernel), 8, by decide, rfl, Or.inl rfl⟩
theorem sP_10 : sPo ("TrunkDuel$Reader", 239, "elbow", 100025) := ⟨List.mem_of_getElem? (i := 551) (by decide +kernel), 9, by decide, rfl, Or.inl rfl⟩
theorem sP_11 : sPo ("TrunkDuel$Reader", 241, "rod", 100026) := ⟨List.mem_of_getElem? (i := 552) (by decide +kernel), 10, by decide, rfl, Or.inl rfl⟩
theorem sP_12 : sPo ("TrunkDuel$Reader", 243, "square", 100027) := ⟨List.mem_of_getElem? (i := 553) (by decide +kernel), 11, by decide, rfl, Or.inl rfl⟩
theorem sP_13 : sPo ("TrunkDuel$Reader", 245, "corner", 100028) := ⟨List.mem_of_getElem? (i := 554) (by decide +kernel), 12, by decide, rfl, Or.inl rfl⟩
theorem sP_all : ∀ q ∈ gPool, sPo q := List.forall_mem_cons.mpr ⟨sP_0, List.forall_mem_cons.mpr ⟨sP_1, List.forall_mem_cons.mpr ⟨sP_2, List.forall_mem_cons.mpr ⟨sP_3, List.forall_mem_cons.mpr ⟨sP_4, List.forall_mem_cons.mpr ⟨sP_5, List.forall_mem_cons.mpr ⟨sP_6, List.forall_mem_cons.mpr ⟨sP_7, List.forall_mem_cons.mpr ⟨sP_8, List.forall_mem_cons.mpr ⟨sP_9, List.forall_mem_cons.mpr ⟨sP_10, List.forall_mem_cons.mpr ⟨sP_11, List.forall_mem_cons.mpr ⟨sP_12, List.forall_mem_cons.mpr ⟨sP_13, fun _ h => nomatch h⟩⟩⟩⟩⟩⟩⟩⟩⟩⟩⟩⟩⟩⟩
def sMs (q : String × Nat × String) : Prop := Cond.stringRef q.1 q.2.1 q.2.2 ∈ tables_1 ∧ Cond.exactly (.string q.1 q.2.1) "java/lang/String" ∈ sNr
theorem sM_0 : sMs ("TrunkDuel", 115, "the input buffer has no such length") := ⟨List.mem_of_getElem? (i := 902) (by decide +kernel), List.mem_of_getElem? (i := 604) (by decide +kernel)⟩
theorem sM_1 : sMs ("TrunkDuel", 154, "the placement is not possible now") := ⟨List.mem_of_getElem? (i := 1290) (by decide +kernel), List.mem_of_getElem? (i := 905) (by decide +kernel)⟩
theorem sM_2 : sMs ("TrunkDuel", 169, "the strap can not be fastened now") := ⟨List.mem_of_getElem? (i := 1253) (by decide +kernel), List.mem_of_getElem? (i := 868) (by decide +kernel)⟩
theorem sM_3 : sMs ("TrunkDuel", 178, "the player can not pass now") := ⟨List.mem_of_getElem? (i := 1219) (by decide +kernel), List.mem_of_getElem? (i := 837) (by decide +kernel)⟩
theorem sM_4 : sMs ("TrunkDuel", 187, "there is no change to undo") := ⟨List.mem_of_getElem? (i := 824) (by decide +kernel), List.mem_of_getElem? (i := 547) (by decide +kernel)⟩
theorem sM_5 : sMs ("TrunkDuel", 229, "there is no such row") := ⟨List.mem_of_getElem? (i := 1039) (by decide +kernel), List.mem_of_getElem? (i := 787) (by decide +kernel)⟩
theorem sM_6 : sMs ("TrunkDuel", 362, "there is no such rotation") := ⟨List.mem_of_getElem? (i := 1013) (by decide +kernel), List.mem_of_getElem? (i := 701) (by decide +kernel)⟩
theorem sM_7 : sMs ("TrunkDuel", 364, "there is no such shape") := ⟨List.mem_of_getElem? (i := 1012) (by decide +kernel), List.mem_of_getElem? (i := 675) (by decide +kernel)⟩
theorem sM_8 : sMs ("TrunkDuel", 368, "there is no such player") := ⟨List.mem_of_getElem? (i := 874) (by decide +kernel), List.mem_of_getElem? (i := 577) (by decide +kernel)⟩
theorem sM_9 : sMs ("TrunkDuel", 374, "the cell is not in the trunk") := ⟨List.mem_of_getElem? (i := 953) (by decide +kernel), List.mem_of_getElem? (i := 643) (by decide +kernel)⟩
theorem sM_10 : sMs ("TrunkDuel", 376, "there is no such side") := ⟨List.mem_of_getElem? (i := 1028) (by decide +kernel), List.mem_of_getElem? (i := 730) (by decide +kernel)⟩
theorem sM_11 : sMs ("TrunkDuel", 381, "the edge is not in the trunk") := ⟨List.mem_of_getElem? (i := 1030) (by decide +kernel), List.mem_of_getElem? (i := 755) (by decide +kernel)⟩
theorem sM_12 : sMs ("TrunkDuel", 383, "there is no such piece") := ⟨List.mem_of_getElem? (i := 1052) (by decide +kernel), List.mem_of_getElem? (i := 811) (by decide +kernel)⟩
theorem sM_13 : sMs ("TrunkDuelLaw", 238, "trunk ") := ⟨List.mem_of_getElem? (i := 1555) (by decide +kernel), List.mem_of_getElem? (i := 949) (by decide +kernel)⟩
theorem sM_14 : sMs ("TrunkDuelLaw", 249, "block ") := ⟨List.mem_of_getElem? (i := 1556) (by decide +kernel), List.mem_of_getElem? (i := 959) (by decide +kernel)⟩
theorem sM_15 : sMs ("TrunkDuelLaw", 254, "player ") := ⟨List.mem_of_getElem? (i := 1557) (by decide +kernel), List.mem_of_getElem? (i := 969) (by decide +kernel)⟩
theorem sM_16 : sMs ("TrunkDuelLaw", 256, "a") := ⟨List.mem_of_getElem? (i := 1558) (by decide +kernel), List.mem_of_getElem? (i := 980) (by decide +kernel)⟩
theorem sM_17 : sMs ("TrunkDuelLaw", 258, "b") := ⟨List.mem_of_getElem? (i := 1559) (by decide +kernel), List.mem_of_getElem? (i := 985) (by decide +kernel)⟩
theorem sM_18 : sMs ("java/util/Arrays", 337, " > ") := ⟨List.mem_of_getElem? (i := 1530) (by decide +kernel), List.mem_of_getElem? (i := 942) (by decide +kernel)⟩
theorem sM_all : ∀ q ∈ gMsgs, sMs q := List.forall_mem_cons.mpr ⟨sM_0, List.forall_mem_cons.mpr ⟨sM_1, List.forall_mem_cons.mpr ⟨sM_2, List.forall_mem_cons.mpr ⟨sM_3, List.forall_mem_cons.mpr ⟨sM_4, List.forall_mem_cons.mpr ⟨sM_5, List.forall_mem_cons.mpr ⟨sM_6, List.forall_mem_cons.mpr ⟨sM_7, List.forall_mem_cons.mpr ⟨sM_8, List.forall_mem_cons.mpr ⟨sM_9, List.forall_mem_cons.mpr ⟨sM_10, List.forall_mem_cons.mpr ⟨sM_11, List.forall_mem_cons.mpr ⟨sM_12, List.forall_mem_cons.mpr ⟨sM_13, List.forall_mem_cons.mpr ⟨sM_14, List.forall_mem_cons.mpr ⟨sM_15, List.forall_mem_cons.mpr ⟨sM_16, List.forall_mem_cons.mpr ⟨sM_17, List.forall_mem_cons.mpr ⟨sM_18, fun _ h => nomatch h⟩⟩⟩⟩⟩⟩⟩⟩⟩⟩⟩⟩⟩⟩⟩⟩⟩⟩⟩
theorem sN_all : ∀ w ∈ gnw, w ∈ tables_1 := List.forall_mem_cons.mpr ⟨List.mem_of_getElem? (i := 39) (by decide +kernel), List.forall_mem_cons.mpr ⟨List.mem_of_getElem? (i := 45) (by decide +kernel), List.forall_mem_cons.mpr ⟨List.mem_of_getElem? (i := 51) (by decide +kernel), List.forall_mem_cons.mpr ⟨List.mem_of_getElem? (i := 78) (by decide +kernel), List.forall_mem_cons.mpr ⟨List.mem_of_getElem? (i := 108) (by decide +kernel), List.forall_mem_cons.mpr ⟨List.mem_of_getElem? (i := 164) (by decide +kernel), List.forall_mem_cons.mpr ⟨List.mem_of_getElem? (i := 262) (by decide +kernel), List.forall_mem_cons.mpr ⟨List.mem_of_getElem? (i := 271) (by decide +kernel), List.forall_mem_cons.mpr ⟨List.mem_of_getElem? (i := 284) (by decide +kernel), List.forall_mem_cons.mpr ⟨List.mem_of_getElem? (i := 287) (by decide +kernel), List.forall_mem_cons.mpr ⟨List.mem_of_getElem? (i := 313) (by decide +kernel), List.forall_mem_cons.mpr ⟨List.mem_of_getElem? (i := 323) (by decide +kernel), List.forall_mem_cons.mpr ⟨List.mem_of_getElem? (i := 786) (by decide +kernel), List.forall_mem_cons.mpr ⟨List.mem_of_getElem? (i := 787) (by decide +kernel), List.forall_mem_cons.mpr ⟨List.mem_of_getElem? (i := 788) (by decide +kernel), List.forall_mem_cons.mpr ⟨List.mem_of_getElem? (i := 789) (by decide +kernel), List.forall_mem_cons.mpr ⟨List.mem_of_getElem? (i := 790) (by decide +kernel), List.forall_mem_cons.mpr ⟨List.mem_of_getElem? (i := 791) (by decide +kernel), List.forall_mem_cons.mpr ⟨List.mem_of_getElem? (i := 785) (by decide +kernel), List.forall_mem_cons.mpr ⟨List.mem_of_getElem? (i := 867) (by decide +kernel), List.forall_mem_cons.mpr ⟨List.mem_of_getElem? (i := 895) (by decide +kernel), List.forall_mem_cons.mpr ⟨List.mem_of_getElem? (i := 1376) (by decide +kernel), fun _ h => nomatch h⟩⟩⟩⟩⟩⟩⟩⟩⟩⟩⟩⟩⟩⟩⟩⟩⟩⟩⟩⟩⟩⟩
theorem sN_on : ∀ w ∈ gnw, w.onTables = true := by decide +kernel
theorem sI_all : ∀ (c : Nat) (C : String) (T : u_T) (N : Nat), vwCl[c]? = some (C, T, N) → Cond.instantiable C N ∈ tables_1 := fun c C T N h => match c, h with
  | 0, h => by cases h; exact List.mem_of_getElem? (i := 286) (by decide +kernel)
  | 1, h => by cases h; exact List.mem_of_getElem? (i := 312) (by decide +kernel)
  | 2, h => by cases h; exact List.mem_of_getElem? (i := 163) (by decide +kernel)
  | 3, h => by cases h; exact List.mem_of_getElem? (i := 264) (by decide +kernel)
  | 4, h => by cases h; exact List.mem_of_getElem? (i := 77) (by decide +kernel)
  | 5, h => by cases h; exact List.mem_of_getElem? (i := 107) (by decide +kernel)
  | 6, h => by cases h; exact List.mem_of_getElem? (i := 38) (by decide +kernel)
  | 7, h => by cases h; exact List.mem_of_getElem? (i := 322) (by decide +kernel)
  | 8, h => by cases h; exact List.mem_of_getElem? (i := 44) (by decide +kernel)
  | 9, h => by cases h; exact List.mem_of_getElem? (i := 50) (by decide +kernel)
  | 10, h => by cases h; exact List.mem_of_getElem? (i := 30) (by decide +kernel)
  | k + 11, h => nomatch (show (none : Option vw_C) = some (C, T, N) from h)
theorem sE_all : ∀ i j, i < 3 → j < 3 → i ≠ j → Cond.not (.castable (gExc i) (gExc j)) ∈ sNr := fun i j hi hj h => match i, j, hi, hj, h with
  | 0, 0, _, _, h => absurd rfl h
  | 0, 1, _, _, _ => List.mem_of_getElem? (i := 297) (by decide +kernel)
  | 0, 2, _, _, _ => List.mem_of_getElem? (i := 282) (by decide +kernel)
  | 1, 0, _, _, _ => List.mem_of_getElem? (i := 313) (by decide +kernel)
  | 1, 1, _, _, h => absurd rfl h
  | 1, 2, _, _, _ => List.mem_of_getElem? (i := 283) (by decide +kernel)
  | 2, 0, _, _, _ => List.mem_of_getElem? (i := 312) (by decide +kernel)
  | 2, 1, _, _, _ => List.mem_of_getElem? (i := 298) (by decide +kernel)
  | 2, 2, _, _, h => absurd rfl h
  | i + 3, _, h, _, _ => absurd h (by omega)
  | _, j + 3, _, h, _ => absurd h (by omega)
theorem sw_0 : Cond.laysStatic "TrunkDuel$Footprint" "SIZES" "[I" ∈ tables_1 := List.mem_of_getElem? (i := 560) (by decide +kernel)
theorem sw_1 : Cond.laysStatic "TrunkDuel$Footprint" "OFFSETS_RIGHT" "[I" ∈ tables_1 := List.mem_of_getElem? (i := 562) (by decide +kernel)
theorem sw_2 : Cond.laysStatic "TrunkDuel$Footprint" "OFFSETS_DOWN" "[I" ∈ tables_1 := List.mem_of_getElem? (i := 564) (by decide +kernel)
theorem sw_3 : Cond.initialized "TrunkDuel$Footprint" ∈ tables_1 := List.mem_of_getElem? (i := 7) (by decide +kernel)
theorem sw_4 : Cond.laysStatic "java/lang/String" "COMPACT_STRINGS" "Z" ∈ tables_1 := List.mem_of_getElem? (i := 358) (by decide +kernel)
theorem sw_5 : Cond.initialized "java/lang/String" ∈ tables_1 := List.mem_of_getElem? (i := 12) (by decide +kernel)
theorem sw_6 : Cond.laysStatic "jdk/internal/util/Preconditions" "SIOOBE_FORMATTER" "Ljava/util/function/BiFunction;" ∈ tables_1 := List.mem_of_getElem? (i := 374) (by decide +kernel)
theorem sw_7 : Cond.initialized "jdk/internal/util/Preconditions" ∈ tables_1 := List.mem_of_getElem? (i := 14) (by decide +kernel)
theorem sw_8 : Cond.laysStatic "java/lang/Throwable" "UNASSIGNED_STACK" "[Ljava/lang/StackTraceElement;" ∈ tables_1 := List.mem_of_getElem? (i := 810) (by decide +kernel)
theorem sw_9 : Cond.laysStatic "java/lang/Throwable" "SUPPRESSED_SENTINEL" "Ljava/util/List;" ∈ tables_1 := List.mem_of_getElem? (i := 812) (by decide +kernel)
theorem sw_10 : Cond.initialized "java/lang/Throwable" ∈ tables_1 := List.mem_of_getElem? (i := 23) (by decide +kernel)
theorem sw_11 : Cond.arrayClass .int ∈ tables_1 := List.mem_of_getElem? (i := 74) (by decide +kernel)
theorem sw_12 : Cond.arrayClass .boolean ∈ tables_1 := List.mem_of_getElem? (i := 75) (by decide +kernel)
theorem sw_13 : Cond.arrayClass .byte ∈ tables_1 := List.mem_of_getElem? (i := 748) (by decide +kernel)
theorem sw_14 : Cond.arrayOver (.object "TrunkDuel$State") ∈ tables_1 := List.mem_of_getElem? (i := 270) (by decide +kernel)
theorem sn_0 : Cond.eq (.static "java/lang/String" "COMPACT_STRINGS" "Z") (.int 1) ∈ sNr := List.mem_of_getElem? (i := 2) (by decide +kernel)
theorem sn_1 : Cond.isRef (.static "jdk/internal/util/Preconditions" "SIOOBE_FORMATTER" "Ljava/util/function/BiFunction;") ∈ sNr := List.mem_of_getElem? (i := 3) (by decide +kernel)
theorem sn_2 : Cond.isRef (.static "java/lang/Throwable" "UNASSIGNED_STACK" "[Ljava/lang/StackTraceElement;") ∈ sNr := List.mem_of_getElem? (i := 61) (by decide +kernel)
theorem sn_3 : Cond.isRef (.static "java/lang/Throwable" "SUPPRESSED_SENTINEL" "Ljava/util/List;") ∈ sNr := List.mem_of_getElem? (i := 62) (by decide +kernel)
/-- the law's own String constants -/
def sLs : List (Nat × String × List Nat) := [(238, "trunk ", [116, 114, 117, 110, 107, 32]), (249, "block ", [98, 108, 111, 99, 107, 32]), (254, "player ", [112, 108, 97, 121, 101, 114, 32]), (256, "a", [97]), (258, "b", [98])]
theorem sQ_0 : (∀ w ∈ sBlk (.string "TrunkDuelLaw" 238) [116, 114, 117, 110, 107, 32], w ∈ sNr) ∧ Cond.stringRef "TrunkDuelLaw" 238 "trunk " ∈ tables_1 := ⟨sub_nr (i := 949) (n := 10) (by decide +kernel), List.mem_of_getElem? (i := 1555) (by decide +kernel)⟩
theorem sQ_1 : (∀ w ∈ sBlk (.string "TrunkDuelLaw" 249) [98, 108, 111, 99, 107, 32], w ∈ sNr) ∧ Cond.stringRef "TrunkDuelLaw" 249 "block " ∈ tables_1 := ⟨sub_nr (i := 959) (n := 10) (by decide +kernel), List.mem_of_getElem? (i := 1556) (by decide +kernel)⟩
theorem sQ_2 : (∀ w ∈ sBlk (.string "TrunkDuelLaw" 254) [112, 108, 97, 121, 101, 114, 32], w ∈ sNr) ∧ Cond.stringRef "TrunkDuelLaw" 254 "player " ∈ tables_1 := ⟨sub_nr (i := 969) (n := 11) (by decide +kernel), List.mem_of_getElem? (i := 1557) (by decide +kernel)⟩
theorem sQ_3 : (∀ w ∈ sBlk (.string "TrunkDuelLaw" 256) [97], w ∈ sNr) ∧ Cond.stringRef "TrunkDuelLaw" 256 "a" ∈ tables_1 := ⟨sub_nr (i := 980) (n := 5) (by decide +kernel), List.mem_of_getElem? (i := 1558) (by decide +kernel)⟩
theorem sQ_4 : (∀ w ∈ sBlk (.string "TrunkDuelLaw" 258) [98], w ∈ sNr) ∧ Cond.stringRef "TrunkDuelLaw" 258 "b" ∈ tables_1 := ⟨sub_nr (i := 985) (n := 5) (by decide +kernel), List.mem_of_getElem? (i := 1559) (by decide +kernel)⟩
theorem sw_15 : Cond.laysStatic "java/lang/Integer" "DigitOnes" "[B" ∈ tables_1 := List.mem_of_getElem? (i := 1474) (by decide +kernel)
theorem sw_16 : Cond.initialized "java/lang/Integer" ∈ tables_1 := List.mem_of_getElem? (i := 22) (by decide +kernel)
/-- the digits -/
def sDg : List Cond := .arrayOf (.static "java/lang/Integer" "DigitOnes" "[B") .byte :: .eq (.length (.static "java/lang/Integer" "DigitOnes" "[B")) (.int (Int32.ofNat 100)) :: (List.range 100).map fun j => .eq (.elem (.static "java/lang/Integer" "DigitOnes" "[B") (.int (Int32.ofNat j))) (.int (nI (48 + j % 10)))
theorem sDg_on : ∀ w ∈ sDg, w ∈ sNr := sub_nr (i := 64) (n := 102) (by decide +kernel)
