/-! ===== every entry of the tables is checked against the code ===== -/
def gCkL (m : Nat) : Nat → List (Option GE) → Bool
  | _, [] => true
  | pc, none :: r => gCkL m (pc + 1) r
  | pc, some E :: r => gChk m pc E && gCkL m (pc + 1) r
def gCkT (m : Nat) : Nat → List (List (Option GE)) → Bool
  | _, [] => true
  | pc, l :: r => gCkL m pc l && gCkT m (pc + 32) r
theorem gCkL_at {m : Nat} : ∀ {l : List (Option GE)} {pc k : Nat} {E : GE}, gCkL m pc l = true → l[k]? = some (some E) → gChk m (pc + k) E = true
  | none :: r, pc, 0, E, _, hk => by simp at hk
  | some E' :: r, pc, 0, E, h, hk => by
    cases hk
    simp only [gCkL, Bool.and_eq_true] at h
    exact h.1
  | none :: r, pc, k + 1, E, h, hk => by
    have := gCkL_at (l := r) (pc := pc + 1) (k := k) (E := E) h (by simpa using hk)
    rw [show pc + (k + 1) = pc + 1 + k by omega]
    exact this
  | some E' :: r, pc, k + 1, E, h, hk => by
    simp only [gCkL, Bool.and_eq_true] at h
    have := gCkL_at (l := r) (pc := pc + 1) (k := k) (E := E) h.2 (by simpa using hk)
    rw [show pc + (k + 1) = pc + 1 + k by omega]
    exact this
theorem gCkT_at {m : Nat} : ∀ {t : List (List (Option GE))} {pc j : Nat} {ch : List (Option GE)}, gCkT m pc t = true → t[j]? = some ch → gCkL m (pc + 32 * j) ch = true
  | l :: r, pc, 0, ch, h, hj => by
    cases hj
    simp only [gCkT, Bool.and_eq_true] at h
    exact h.1
  | l :: r, pc, j + 1, ch, h, hj => by
    simp only [gCkT, Bool.and_eq_true] at h
    have := gCkT_at (t := r) (pc := pc + 32) (j := j) (ch := ch) h.2 (by simpa using hj)
    rw [show pc + 32 * (j + 1) = pc + 32 + 32 * j by omega]
    exact this
theorem gCk_look {m : Nat} {t : List (List (Option GE))} (h1 : gTab m = t) (h : gCkT m 0 t = true) : ∀ pc E, gLook (gTab m) pc = some E → gChk m pc E = true := by
  intro pc E hE
  rw [h1] at hE
  unfold gLook at hE
  split at hE
  · next ch hch =>
    split at hE
    · next o ho =>
      subst hE
      have a := gCkL_at (gCkT_at h hch) ho
      rw [show 0 + 32 * (pc / 32) + pc % 32 = pc by omega] at a
      exact a
    · cases hE
  · cases hE
theorem ck_Ch_init : ∀ pc E, gLook (gTab 0) pc = some E → gChk 0 pc E = true := gCk_look (t := T_Ch_init) rfl (by decide +kernel)
theorem ck_Ch_search : ∀ pc E, gLook (gTab 1) pc = some E → gChk 1 pc E = true := gCk_look (t := T_Ch_search) rfl (by decide +kernel)
theorem ck_Ch_searchShape : ∀ pc E, gLook (gTab 2) pc = some E → gChk 2 pc E = true := gCk_look (t := T_Ch_searchShape) rfl (by decide +kernel)
theorem ck_Ch_take : ∀ pc E, gLook (gTab 3) pc = some E → gChk 3 pc E = true := gCk_look (t := T_Ch_take) rfl (by decide +kernel)
theorem ck_Cr_init : ∀ pc E, gLook (gTab 4) pc = some E → gChk 4 pc E = true := gCk_look (t := T_Cr_init) rfl (by decide +kernel)
theorem ck_Cr_mostFor : ∀ pc E, gLook (gTab 5) pc = some E → gChk 5 pc E = true := gCk_look (t := T_Cr_mostFor) rfl (by decide +kernel)
theorem ck_Cr_countShape : ∀ pc E, gLook (gTab 6) pc = some E → gChk 6 pc E = true := gCk_look (t := T_Cr_countShape) rfl (by decide +kernel)
theorem ck_Cr_countEdge : ∀ pc E, gLook (gTab 7) pc = some E → gChk 7 pc E = true := gCk_look (t := T_Cr_countEdge) rfl (by decide +kernel)
theorem ck_Fp_init : ∀ pc E, gLook (gTab 8) pc = some E → gChk 8 pc E = true := gCk_look (t := T_Fp_init) rfl (by decide +kernel)
theorem ck_Fp_turn : ∀ pc E, gLook (gTab 9) pc = some E → gChk 9 pc E = true := gCk_look (t := T_Fp_turn) rfl (by decide +kernel)
theorem ck_Fp_moveTo : ∀ pc E, gLook (gTab 10) pc = some E → gChk 10 pc E = true := gCk_look (t := T_Fp_moveTo) rfl (by decide +kernel)
theorem ck_Fp_startAll : ∀ pc E, gLook (gTab 11) pc = some E → gChk 11 pc E = true := gCk_look (t := T_Fp_startAll) rfl (by decide +kernel)
theorem ck_Fp_advance : ∀ pc E, gLook (gTab 12) pc = some E → gChk 12 pc E = true := gCk_look (t := T_Fp_advance) rfl (by decide +kernel)
theorem ck_Fp_columnOf : ∀ pc E, gLook (gTab 13) pc = some E → gChk 13 pc E = true := gCk_look (t := T_Fp_columnOf) rfl (by decide +kernel)
theorem ck_Fp_rowOf : ∀ pc E, gLook (gTab 14) pc = some E → gChk 14 pc E = true := gCk_look (t := T_Fp_rowOf) rfl (by decide +kernel)
theorem ck_Fp_edgeColumnOf : ∀ pc E, gLook (gTab 15) pc = some E → gChk 15 pc E = true := gCk_look (t := T_Fp_edgeColumnOf) rfl (by decide +kernel)
theorem ck_Fp_edgeRowOf : ∀ pc E, gLook (gTab 16) pc = some E → gChk 16 pc E = true := gCk_look (t := T_Fp_edgeRowOf) rfl (by decide +kernel)
theorem ck_Fp_sideOf : ∀ pc E, gLook (gTab 17) pc = some E → gChk 17 pc E = true := gCk_look (t := T_Fp_sideOf) rfl (by decide +kernel)
theorem ck_Fp_findEdges : ∀ pc E, gLook (gTab 18) pc = some E → gChk 18 pc E = true := gCk_look (t := T_Fp_findEdges) rfl (by decide +kernel)
theorem ck_Hi_init : ∀ pc E, gLook (gTab 19) pc = some E → gChk 19 pc E = true := gCk_look (t := T_Hi_init) rfl (by decide +kernel)
theorem ck_Hi_remember : ∀ pc E, gLook (gTab 20) pc = some E → gChk 20 pc E = true := gCk_look (t := T_Hi_remember) rfl (by decide +kernel)
theorem ck_Hi_bringBack : ∀ pc E, gLook (gTab 21) pc = some E → gChk 21 pc E = true := gCk_look (t := T_Hi_bringBack) rfl (by decide +kernel)
theorem ck_Pi_init : ∀ pc E, gLook (gTab 22) pc = some E → gChk 22 pc E = true := gCk_look (t := T_Pi_init) rfl (by decide +kernel)
theorem ck_Pi_copyFrom : ∀ pc E, gLook (gTab 23) pc = some E → gChk 23 pc E = true := gCk_look (t := T_Pi_copyFrom) rfl (by decide +kernel)
theorem ck_Pi_add : ∀ pc E, gLook (gTab 24) pc = some E → gChk 24 pc E = true := gCk_look (t := T_Pi_add) rfl (by decide +kernel)
theorem ck_Pi_has : ∀ pc E, gLook (gTab 25) pc = some E → gChk 25 pc E = true := gCk_look (t := T_Pi_has) rfl (by decide +kernel)
theorem ck_Pi_shapeOf : ∀ pc E, gLook (gTab 26) pc = some E → gChk 26 pc E = true := gCk_look (t := T_Pi_shapeOf) rfl (by decide +kernel)
theorem ck_Pi_rotationOf : ∀ pc E, gLook (gTab 27) pc = some E → gChk 27 pc E = true := gCk_look (t := T_Pi_rotationOf) rfl (by decide +kernel)
theorem ck_Pi_anchorColumnOf : ∀ pc E, gLook (gTab 28) pc = some E → gChk 28 pc E = true := gCk_look (t := T_Pi_anchorColumnOf) rfl (by decide +kernel)
theorem ck_Pi_anchorRowOf : ∀ pc E, gLook (gTab 29) pc = some E → gChk 29 pc E = true := gCk_look (t := T_Pi_anchorRowOf) rfl (by decide +kernel)
theorem ck_Pi_ownerOf : ∀ pc E, gLook (gTab 30) pc = some E → gChk 30 pc E = true := gCk_look (t := T_Pi_ownerOf) rfl (by decide +kernel)
theorem ck_Pi_pointsOf : ∀ pc E, gLook (gTab 31) pc = some E → gChk 31 pc E = true := gCk_look (t := T_Pi_pointsOf) rfl (by decide +kernel)
theorem ck_Pl_init : ∀ pc E, gLook (gTab 32) pc = some E → gChk 32 pc E = true := gCk_look (t := T_Pl_init) rfl (by decide +kernel)
theorem ck_Pl_clear : ∀ pc E, gLook (gTab 33) pc = some E → gChk 33 pc E = true := gCk_look (t := T_Pl_clear) rfl (by decide +kernel)
theorem ck_Pl_copyFrom : ∀ pc E, gLook (gTab 34) pc = some E → gChk 34 pc E = true := gCk_look (t := T_Pl_copyFrom) rfl (by decide +kernel)
theorem ck_Pl_addLetter : ∀ pc E, gLook (gTab 35) pc = some E → gChk 35 pc E = true := gCk_look (t := T_Pl_addLetter) rfl (by decide +kernel)
theorem ck_Pl_hasNameOf : ∀ pc E, gLook (gTab 36) pc = some E → gChk 36 pc E = true := gCk_look (t := T_Pl_hasNameOf) rfl (by decide +kernel)
theorem ck_Pl_supplyOf : ∀ pc E, gLook (gTab 37) pc = some E → gChk 37 pc E = true := gCk_look (t := T_Pl_supplyOf) rfl (by decide +kernel)
theorem ck_Pl_setSupply : ∀ pc E, gLook (gTab 38) pc = some E → gChk 38 pc E = true := gCk_look (t := T_Pl_setSupply) rfl (by decide +kernel)
theorem ck_Rd_init : ∀ pc E, gLook (gTab 39) pc = some E → gChk 39 pc E = true := gCk_look (t := T_Rd_init) rfl (by decide +kernel)
theorem ck_Rd_hasRoom : ∀ pc E, gLook (gTab 40) pc = some E → gChk 40 pc E = true := gCk_look (t := T_Rd_hasRoom) rfl (by decide +kernel)
theorem ck_Rd_writeText : ∀ pc E, gLook (gTab 41) pc = some E → gChk 41 pc E = true := gCk_look (t := T_Rd_writeText) rfl (by decide +kernel)
theorem ck_Rd_writeFour : ∀ pc E, gLook (gTab 42) pc = some E → gChk 42 pc E = true := gCk_look (t := T_Rd_writeFour) rfl (by decide +kernel)
theorem ck_Rd_writeByte : ∀ pc E, gLook (gTab 43) pc = some E → gChk 43 pc E = true := gCk_look (t := T_Rd_writeByte) rfl (by decide +kernel)
theorem ck_Rd_startSetup : ∀ pc E, gLook (gTab 44) pc = some E → gChk 44 pc E = true := gCk_look (t := T_Rd_startSetup) rfl (by decide +kernel)
theorem ck_Rd_readSetup : ∀ pc E, gLook (gTab 45) pc = some E → gChk 45 pc E = true := gCk_look (t := T_Rd_readSetup) rfl (by decide +kernel)
theorem ck_Rd_readCommands : ∀ pc E, gLook (gTab 46) pc = some E → gChk 46 pc E = true := gCk_look (t := T_Rd_readCommands) rfl (by decide +kernel)
theorem ck_Rd_readSize : ∀ pc E, gLook (gTab 47) pc = some E → gChk 47 pc E = true := gCk_look (t := T_Rd_readSize) rfl (by decide +kernel)
theorem ck_Rd_readBlocks : ∀ pc E, gLook (gTab 48) pc = some E → gChk 48 pc E = true := gCk_look (t := T_Rd_readBlocks) rfl (by decide +kernel)
theorem ck_Rd_readFreeStraps : ∀ pc E, gLook (gTab 49) pc = some E → gChk 49 pc E = true := gCk_look (t := T_Rd_readFreeStraps) rfl (by decide +kernel)
theorem ck_Rd_readPlayer : ∀ pc E, gLook (gTab 50) pc = some E → gChk 50 pc E = true := gCk_look (t := T_Rd_readPlayer) rfl (by decide +kernel)
theorem ck_Rd_readName : ∀ pc E, gLook (gTab 51) pc = some E → gChk 51 pc E = true := gCk_look (t := T_Rd_readName) rfl (by decide +kernel)
theorem ck_Rd_readPiece : ∀ pc E, gLook (gTab 52) pc = some E → gChk 52 pc E = true := gCk_look (t := T_Rd_readPiece) rfl (by decide +kernel)
theorem ck_Rd_readStrap : ∀ pc E, gLook (gTab 53) pc = some E → gChk 53 pc E = true := gCk_look (t := T_Rd_readStrap) rfl (by decide +kernel)
theorem ck_Rd_readEdge : ∀ pc E, gLook (gTab 54) pc = some E → gChk 54 pc E = true := gCk_look (t := T_Rd_readEdge) rfl (by decide +kernel)
theorem ck_Rd_shapeOfToken : ∀ pc E, gLook (gTab 55) pc = some E → gChk 55 pc E = true := gCk_look (t := T_Rd_shapeOfToken) rfl (by decide +kernel)
theorem ck_Rd_expectNumber : ∀ pc E, gLook (gTab 56) pc = some E → gChk 56 pc E = true := gCk_look (t := T_Rd_expectNumber) rfl (by decide +kernel)
theorem ck_Rd_endStatement : ∀ pc E, gLook (gTab 57) pc = some E → gChk 57 pc E = true := gCk_look (t := T_Rd_endStatement) rfl (by decide +kernel)
theorem ck_Rd_fail : ∀ pc E, gLook (gTab 58) pc = some E → gChk 58 pc E = true := gCk_look (t := T_Rd_fail) rfl (by decide +kernel)
theorem ck_Rd_nextToken : ∀ pc E, gLook (gTab 59) pc = some E → gChk 59 pc E = true := gCk_look (t := T_Rd_nextToken) rfl (by decide +kernel)
theorem ck_Rd_endOfRun : ∀ pc E, gLook (gTab 60) pc = some E → gChk 60 pc E = true := gCk_look (t := T_Rd_endOfRun) rfl (by decide +kernel)
theorem ck_Rd_valueOfToken : ∀ pc E, gLook (gTab 61) pc = some E → gChk 61 pc E = true := gCk_look (t := T_Rd_valueOfToken) rfl (by decide +kernel)
theorem ck_Rd_wordIs : ∀ pc E, gLook (gTab 62) pc = some E → gChk 62 pc E = true := gCk_look (t := T_Rd_wordIs) rfl (by decide +kernel)
theorem ck_Rd_byteAt : ∀ pc E, gLook (gTab 63) pc = some E → gChk 63 pc E = true := gCk_look (t := T_Rd_byteAt) rfl (by decide +kernel)
theorem ck_Rd_clear : ∀ pc E, gLook (gTab 64) pc = some E → gChk 64 pc E = true := gCk_look (t := T_Rd_clear) rfl (by decide +kernel)
theorem ck_Rg_init : ∀ pc E, gLook (gTab 65) pc = some E → gChk 65 pc E = true := gCk_look (t := T_Rg_init) rfl (by decide +kernel)
theorem ck_Rg_survey : ∀ pc E, gLook (gTab 66) pc = some E → gChk 66 pc E = true := gCk_look (t := T_Rg_survey) rfl (by decide +kernel)
theorem ck_Rg_sizeOf : ∀ pc E, gLook (gTab 67) pc = some E → gChk 67 pc E = true := gCk_look (t := T_Rg_sizeOf) rfl (by decide +kernel)
theorem ck_Rg_sizeAt : ∀ pc E, gLook (gTab 68) pc = some E → gChk 68 pc E = true := gCk_look (t := T_Rg_sizeAt) rfl (by decide +kernel)
theorem ck_Rg_spreadFrom : ∀ pc E, gLook (gTab 69) pc = some E → gChk 69 pc E = true := gCk_look (t := T_Rg_spreadFrom) rfl (by decide +kernel)
theorem ck_Rg_reach : ∀ pc E, gLook (gTab 70) pc = some E → gChk 70 pc E = true := gCk_look (t := T_Rg_reach) rfl (by decide +kernel)
theorem ck_St_init : ∀ pc E, gLook (gTab 71) pc = some E → gChk 71 pc E = true := gCk_look (t := T_St_init) rfl (by decide +kernel)
theorem ck_St_clear : ∀ pc E, gLook (gTab 72) pc = some E → gChk 72 pc E = true := gCk_look (t := T_St_clear) rfl (by decide +kernel)
theorem ck_St_copyFrom : ∀ pc E, gLook (gTab 73) pc = some E → gChk 73 pc E = true := gCk_look (t := T_St_copyFrom) rfl (by decide +kernel)
theorem ck_St_isFinished : ∀ pc E, gLook (gTab 74) pc = some E → gChk 74 pc E = true := gCk_look (t := T_St_isFinished) rfl (by decide +kernel)
theorem ck_St_playerOf : ∀ pc E, gLook (gTab 75) pc = some E → gChk 75 pc E = true := gCk_look (t := T_St_playerOf) rfl (by decide +kernel)
theorem ck_St_allowsPiece : ∀ pc E, gLook (gTab 76) pc = some E → gChk 76 pc E = true := gCk_look (t := T_St_allowsPiece) rfl (by decide +kernel)
theorem ck_St_putPiece : ∀ pc E, gLook (gTab 77) pc = some E → gChk 77 pc E = true := gCk_look (t := T_St_putPiece) rfl (by decide +kernel)
theorem ck_St_allowsStrap : ∀ pc E, gLook (gTab 78) pc = some E → gChk 78 pc E = true := gCk_look (t := T_St_allowsStrap) rfl (by decide +kernel)
theorem ck_St_putStrap : ∀ pc E, gLook (gTab 79) pc = some E → gChk 79 pc E = true := gCk_look (t := T_St_putStrap) rfl (by decide +kernel)
theorem ck_St_allowsPass : ∀ pc E, gLook (gTab 80) pc = some E → gChk 80 pc E = true := gCk_look (t := T_St_allowsPass) rfl (by decide +kernel)
theorem ck_St_skipTurn : ∀ pc E, gLook (gTab 81) pc = some E → gChk 81 pc E = true := gCk_look (t := T_St_skipTurn) rfl (by decide +kernel)
theorem ck_St_countMoves : ∀ pc E, gLook (gTab 82) pc = some E → gChk 82 pc E = true := gCk_look (t := T_St_countMoves) rfl (by decide +kernel)
theorem ck_St_endTurn : ∀ pc E, gLook (gTab 83) pc = some E → gChk 83 pc E = true := gCk_look (t := T_St_endTurn) rfl (by decide +kernel)
theorem ck_Tk_init : ∀ pc E, gLook (gTab 84) pc = some E → gChk 84 pc E = true := gCk_look (t := T_Tk_init) rfl (by decide +kernel)
theorem ck_Tk_clear : ∀ pc E, gLook (gTab 85) pc = some E → gChk 85 pc E = true := gCk_look (t := T_Tk_clear) rfl (by decide +kernel)
theorem ck_Tk_copyFrom : ∀ pc E, gLook (gTab 86) pc = some E → gChk 86 pc E = true := gCk_look (t := T_Tk_copyFrom) rfl (by decide +kernel)
theorem ck_Tk_holds : ∀ pc E, gLook (gTab 87) pc = some E → gChk 87 pc E = true := gCk_look (t := T_Tk_holds) rfl (by decide +kernel)
theorem ck_Tk_holdsEdge : ∀ pc E, gLook (gTab 88) pc = some E → gChk 88 pc E = true := gCk_look (t := T_Tk_holdsEdge) rfl (by decide +kernel)
theorem ck_Tk_cellAt : ∀ pc E, gLook (gTab 89) pc = some E → gChk 89 pc E = true := gCk_look (t := T_Tk_cellAt) rfl (by decide +kernel)
theorem ck_Tk_setCell : ∀ pc E, gLook (gTab 90) pc = some E → gChk 90 pc E = true := gCk_look (t := T_Tk_setCell) rfl (by decide +kernel)
theorem ck_Tk_strapAt : ∀ pc E, gLook (gTab 91) pc = some E → gChk 91 pc E = true := gCk_look (t := T_Tk_strapAt) rfl (by decide +kernel)
theorem ck_Tk_setStrap : ∀ pc E, gLook (gTab 92) pc = some E → gChk 92 pc E = true := gCk_look (t := T_Tk_setStrap) rfl (by decide +kernel)
theorem ck_Tk_cellBeyond : ∀ pc E, gLook (gTab 93) pc = some E → gChk 93 pc E = true := gCk_look (t := T_Tk_cellBeyond) rfl (by decide +kernel)
theorem ck_Tk_isEdgeBlocked : ∀ pc E, gLook (gTab 94) pc = some E → gChk 94 pc E = true := gCk_look (t := T_Tk_isEdgeBlocked) rfl (by decide +kernel)
theorem ck_Tk_isEdgeCovered : ∀ pc E, gLook (gTab 95) pc = some E → gChk 95 pc E = true := gCk_look (t := T_Tk_isEdgeCovered) rfl (by decide +kernel)
theorem ck_Tk_countEmptyIn : ∀ pc E, gLook (gTab 96) pc = some E → gChk 96 pc E = true := gCk_look (t := T_Tk_countEmptyIn) rfl (by decide +kernel)
theorem ck_Tk_countCells : ∀ pc E, gLook (gTab 97) pc = some E → gChk 97 pc E = true := gCk_look (t := T_Tk_countCells) rfl (by decide +kernel)
theorem ck_Tk_countCovered : ∀ pc E, gLook (gTab 98) pc = some E → gChk 98 pc E = true := gCk_look (t := T_Tk_countCovered) rfl (by decide +kernel)
theorem ck_Tk_countStraps : ∀ pc E, gLook (gTab 99) pc = some E → gChk 99 pc E = true := gCk_look (t := T_Tk_countStraps) rfl (by decide +kernel)
theorem ck_Tk_misfitOf : ∀ pc E, gLook (gTab 100) pc = some E → gChk 100 pc E = true := gCk_look (t := T_Tk_misfitOf) rfl (by decide +kernel)
theorem ck_Tk_isCrossedBy : ∀ pc E, gLook (gTab 101) pc = some E → gChk 101 pc E = true := gCk_look (t := T_Tk_isCrossedBy) rfl (by decide +kernel)
theorem ck_Tk_findNext : ∀ pc E, gLook (gTab 102) pc = some E → gChk 102 pc E = true := gCk_look (t := T_Tk_findNext) rfl (by decide +kernel)
theorem ck_Tk_countFitting : ∀ pc E, gLook (gTab 103) pc = some E → gChk 103 pc E = true := gCk_look (t := T_Tk_countFitting) rfl (by decide +kernel)
theorem ck_Tk_pointsOf : ∀ pc E, gLook (gTab 104) pc = some E → gChk 104 pc E = true := gCk_look (t := T_Tk_pointsOf) rfl (by decide +kernel)
theorem ck_TD_init : ∀ pc E, gLook (gTab 105) pc = some E → gChk 105 pc E = true := gCk_look (t := T_TD_init) rfl (by decide +kernel)
theorem ck_TD_append : ∀ pc E, gLook (gTab 106) pc = some E → gChk 106 pc E = true := gCk_look (t := T_TD_append) rfl (by decide +kernel)
theorem ck_TD_truncateInput : ∀ pc E, gLook (gTab 107) pc = some E → gChk 107 pc E = true := gCk_look (t := T_TD_truncateInput) rfl (by decide +kernel)
theorem ck_TD_load : ∀ pc E, gLook (gTab 108) pc = some E → gChk 108 pc E = true := gCk_look (t := T_TD_load) rfl (by decide +kernel)
theorem ck_TD_place : ∀ pc E, gLook (gTab 109) pc = some E → gChk 109 pc E = true := gCk_look (t := T_TD_place) rfl (by decide +kernel)
theorem ck_TD_fastenStrap : ∀ pc E, gLook (gTab 110) pc = some E → gChk 110 pc E = true := gCk_look (t := T_TD_fastenStrap) rfl (by decide +kernel)
theorem ck_TD_pass : ∀ pc E, gLook (gTab 111) pc = some E → gChk 111 pc E = true := gCk_look (t := T_TD_pass) rfl (by decide +kernel)
theorem ck_TD_undo : ∀ pc E, gLook (gTab 112) pc = some E → gChk 112 pc E = true := gCk_look (t := T_TD_undo) rfl (by decide +kernel)
theorem ck_TD_columns : ∀ pc E, gLook (gTab 113) pc = some E → gChk 113 pc E = true := gCk_look (t := T_TD_columns) rfl (by decide +kernel)
theorem ck_TD_rows : ∀ pc E, gLook (gTab 114) pc = some E → gChk 114 pc E = true := gCk_look (t := T_TD_rows) rfl (by decide +kernel)
theorem ck_TD_emptyCells : ∀ pc E, gLook (gTab 115) pc = some E → gChk 115 pc E = true := gCk_look (t := T_TD_emptyCells) rfl (by decide +kernel)
theorem ck_TD_pieceCount : ∀ pc E, gLook (gTab 116) pc = some E → gChk 116 pc E = true := gCk_look (t := T_TD_pieceCount) rfl (by decide +kernel)
theorem ck_TD_strapCount : ∀ pc E, gLook (gTab 117) pc = some E → gChk 117 pc E = true := gCk_look (t := T_TD_strapCount) rfl (by decide +kernel)
theorem ck_TD_completeRows : ∀ pc E, gLook (gTab 118) pc = some E → gChk 118 pc E = true := gCk_look (t := T_TD_completeRows) rfl (by decide +kernel)
theorem ck_TD_undoableChanges : ∀ pc E, gLook (gTab 119) pc = some E → gChk 119 pc E = true := gCk_look (t := T_TD_undoableChanges) rfl (by decide +kernel)
theorem ck_TD_isBlocked : ∀ pc E, gLook (gTab 120) pc = some E → gChk 120 pc E = true := gCk_look (t := T_TD_isBlocked) rfl (by decide +kernel)
theorem ck_TD_pieceAt : ∀ pc E, gLook (gTab 121) pc = some E → gChk 121 pc E = true := gCk_look (t := T_TD_pieceAt) rfl (by decide +kernel)
theorem ck_TD_hasStrap : ∀ pc E, gLook (gTab 122) pc = some E → gChk 122 pc E = true := gCk_look (t := T_TD_hasStrap) rfl (by decide +kernel)
theorem ck_TD_emptyInRow : ∀ pc E, gLook (gTab 123) pc = some E → gChk 123 pc E = true := gCk_look (t := T_TD_emptyInRow) rfl (by decide +kernel)
theorem ck_TD_pieceShape : ∀ pc E, gLook (gTab 124) pc = some E → gChk 124 pc E = true := gCk_look (t := T_TD_pieceShape) rfl (by decide +kernel)
theorem ck_TD_pieceRotation : ∀ pc E, gLook (gTab 125) pc = some E → gChk 125 pc E = true := gCk_look (t := T_TD_pieceRotation) rfl (by decide +kernel)
theorem ck_TD_pieceColumn : ∀ pc E, gLook (gTab 126) pc = some E → gChk 126 pc E = true := gCk_look (t := T_TD_pieceColumn) rfl (by decide +kernel)
theorem ck_TD_pieceRow : ∀ pc E, gLook (gTab 127) pc = some E → gChk 127 pc E = true := gCk_look (t := T_TD_pieceRow) rfl (by decide +kernel)
theorem ck_TD_pieceOwner : ∀ pc E, gLook (gTab 128) pc = some E → gChk 128 pc E = true := gCk_look (t := T_TD_pieceOwner) rfl (by decide +kernel)
theorem ck_TD_piecePoints : ∀ pc E, gLook (gTab 129) pc = some E → gChk 129 pc E = true := gCk_look (t := T_TD_piecePoints) rfl (by decide +kernel)
theorem ck_TD_playerToMove : ∀ pc E, gLook (gTab 130) pc = some E → gChk 130 pc E = true := gCk_look (t := T_TD_playerToMove) rfl (by decide +kernel)
theorem ck_TD_isOver : ∀ pc E, gLook (gTab 131) pc = some E → gChk 131 pc E = true := gCk_look (t := T_TD_isOver) rfl (by decide +kernel)
theorem ck_TD_leader : ∀ pc E, gLook (gTab 132) pc = some E → gChk 132 pc E = true := gCk_look (t := T_TD_leader) rfl (by decide +kernel)
theorem ck_TD_score : ∀ pc E, gLook (gTab 133) pc = some E → gChk 133 pc E = true := gCk_look (t := T_TD_score) rfl (by decide +kernel)
theorem ck_TD_supply : ∀ pc E, gLook (gTab 134) pc = some E → gChk 134 pc E = true := gCk_look (t := T_TD_supply) rfl (by decide +kernel)
theorem ck_TD_strapsLeft : ∀ pc E, gLook (gTab 135) pc = some E → gChk 135 pc E = true := gCk_look (t := T_TD_strapsLeft) rfl (by decide +kernel)
theorem ck_TD_fits : ∀ pc E, gLook (gTab 136) pc = some E → gChk 136 pc E = true := gCk_look (t := T_TD_fits) rfl (by decide +kernel)
theorem ck_TD_misfitReason : ∀ pc E, gLook (gTab 137) pc = some E → gChk 137 pc E = true := gCk_look (t := T_TD_misfitReason) rfl (by decide +kernel)
theorem ck_TD_pointsFor : ∀ pc E, gLook (gTab 138) pc = some E → gChk 138 pc E = true := gCk_look (t := T_TD_pointsFor) rfl (by decide +kernel)
theorem ck_TD_mobility : ∀ pc E, gLook (gTab 139) pc = some E → gChk 139 pc E = true := gCk_look (t := T_TD_mobility) rfl (by decide +kernel)
theorem ck_TD_mobilityAfter : ∀ pc E, gLook (gTab 140) pc = some E → gChk 140 pc E = true := gCk_look (t := T_TD_mobilityAfter) rfl (by decide +kernel)
theorem ck_TD_bestShape : ∀ pc E, gLook (gTab 141) pc = some E → gChk 141 pc E = true := gCk_look (t := T_TD_bestShape) rfl (by decide +kernel)
theorem ck_TD_bestRotation : ∀ pc E, gLook (gTab 142) pc = some E → gChk 142 pc E = true := gCk_look (t := T_TD_bestRotation) rfl (by decide +kernel)
theorem ck_TD_bestColumn : ∀ pc E, gLook (gTab 143) pc = some E → gChk 143 pc E = true := gCk_look (t := T_TD_bestColumn) rfl (by decide +kernel)
theorem ck_TD_bestRow : ∀ pc E, gLook (gTab 144) pc = some E → gChk 144 pc E = true := gCk_look (t := T_TD_bestRow) rfl (by decide +kernel)
theorem ck_TD_bestStrapEffect : ∀ pc E, gLook (gTab 145) pc = some E → gChk 145 pc E = true := gCk_look (t := T_TD_bestStrapEffect) rfl (by decide +kernel)
theorem ck_TD_regionCount : ∀ pc E, gLook (gTab 146) pc = some E → gChk 146 pc E = true := gCk_look (t := T_TD_regionCount) rfl (by decide +kernel)
theorem ck_TD_largestRegion : ∀ pc E, gLook (gTab 147) pc = some E → gChk 147 pc E = true := gCk_look (t := T_TD_largestRegion) rfl (by decide +kernel)
theorem ck_TD_regionSize : ∀ pc E, gLook (gTab 148) pc = some E → gChk 148 pc E = true := gCk_look (t := T_TD_regionSize) rfl (by decide +kernel)
theorem ck_TD_isDead : ∀ pc E, gLook (gTab 149) pc = some E → gChk 149 pc E = true := gCk_look (t := T_TD_isDead) rfl (by decide +kernel)
theorem ck_TD_deadCells : ∀ pc E, gLook (gTab 150) pc = some E → gChk 150 pc E = true := gCk_look (t := T_TD_deadCells) rfl (by decide +kernel)
theorem ck_TD_inconsistencies : ∀ pc E, gLook (gTab 151) pc = some E → gChk 151 pc E = true := gCk_look (t := T_TD_inconsistencies) rfl (by decide +kernel)
theorem ck_TD_aimAt : ∀ pc E, gLook (gTab 152) pc = some E → gChk 152 pc E = true := gCk_look (t := T_TD_aimAt) rfl (by decide +kernel)
theorem ck_TD_requireShape : ∀ pc E, gLook (gTab 153) pc = some E → gChk 153 pc E = true := gCk_look (t := T_TD_requireShape) rfl (by decide +kernel)
theorem ck_TD_requirePlayer : ∀ pc E, gLook (gTab 154) pc = some E → gChk 154 pc E = true := gCk_look (t := T_TD_requirePlayer) rfl (by decide +kernel)
theorem ck_TD_requireCell : ∀ pc E, gLook (gTab 155) pc = some E → gChk 155 pc E = true := gCk_look (t := T_TD_requireCell) rfl (by decide +kernel)
theorem ck_TD_requireEdge : ∀ pc E, gLook (gTab 156) pc = some E → gChk 156 pc E = true := gCk_look (t := T_TD_requireEdge) rfl (by decide +kernel)
theorem ck_TD_requirePiece : ∀ pc E, gLook (gTab 157) pc = some E → gChk 157 pc E = true := gCk_look (t := T_TD_requirePiece) rfl (by decide +kernel)
