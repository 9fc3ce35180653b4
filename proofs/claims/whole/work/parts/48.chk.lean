/-! ===== every entry of the tables is checked against the code ===== -/
def gCkL (m : Nat) : Nat → List (Option GE) → Bool
  | _, [] => true
  | pc, none :: r => gCkL m (pc + 1) r
  | pc, some E :: r => gChk m pc E && gCkL m (pc + 1) r
def gCkT (m : Nat) : Nat → List (List (Option GE)) → Bool
  | _, [] => true
  | pc, l :: r => gCkL m pc l && gCkT m (pc + 32) r
theorem gCkL_at {m : Nat} : ∀ {l : List (Option GE)} {pc k : Nat} {E : GE}, gCkL m pc l = true → l[k]? = some (some E) → gChk m (pc + k) E = true
  | none :: r, pc, 0, E, _, hk => by simp at hk
  | some E' :: r, pc, 0, E, h, hk => by
    cases hk
    simp only [gCkL, Bool.and_eq_true] at h
    exact h.1
  | none :: r, pc, k + 1, E, h, hk => by
    have := gCkL_at (l := r) (pc := pc + 1) (k := k) (E := E) h (by simpa using hk)
    rw [show pc + (k + 1) = pc + 1 + k by omega]
    exact this
  | some E' :: r, pc, k + 1, E, h, hk => by
    simp only [gCkL, Bool.and_eq_true] at h
    have := gCkL_at (l := r) (pc := pc + 1) (k := k) (E := E) h.2 (by simpa using hk)
    rw [show pc + (k + 1) = pc + 1 + k by omega]
    exact this
theorem gCkT_at {m : Nat} : ∀ {t : List (List (Option GE))} {pc j : Nat} {ch : List (Option GE)}, gCkT m pc t = true → t[j]? = some ch → gCkL m (pc + 32 * j) ch = true
  | l :: r, pc, 0, ch, h, hj => by
    cases hj
    simp only [gCkT, Bool.and_eq_true] at h
    exact h.1
  | l :: r, pc, j + 1, ch, h, hj => by
    simp only [gCkT, Bool.and_eq_true] at h
    have := gCkT_at (t := r) (pc := pc + 32) (j := j) (ch := ch) h.2 (by simpa using hj)
    rw [show pc + 32 * (j + 1) = pc + 32 + 32 * j by omega]
    exact this
theorem gCk_look {m : Nat} {t : List (List (Option GE))} (h1 : gTab m = t) (h : gCkT m 0 t = true) : ∀ pc E, gLook (gTab m) pc = some E → gChk m pc E = true := by
  intro pc E hE
  rw [h1] at hE
  unfold gLook at hE
  split at hE
  · next ch hch =>
    split at hE
    · next o ho =>
      subst hE
      have a := gCkL_at (gCkT_at h hch) ho
      rw [show 0 + 32 * (pc / 32) + pc % 32 = pc by omega] at a
      exact a
    · cases hE
  · cases hE
theorem ck_Ch_init : ∀ pc E, gLook (gTab 0) pc = some E → gChk 0 pc E = true := gCk_look (t := T_Ch_init) rfl (by decide +kernel)
theorem ck_Ch_search : ∀ pc E, gLook (gTab 1) pc = some E → gChk 1 pc E = true := gCk_look (t := T_Ch_search) rfl (by decide +kernel)
theorem ck_Ch_searchShape : ∀ pc E, gLook (gTab 2) pc = some E → gChk 2 pc E = true := gCk_look (t := T_Ch_searchShape) rfl (by decide +kernel)
theorem ck_Ch_take : ∀ pc E, gLook (gTab 3) pc = some E → gChk 3 pc E = true := gCk_look (t := T_Ch_take) rfl (by decide +kernel)
theorem ck_Cr_init : ∀ pc E, gLook (gTab 4) pc = some E → gChk 4 pc E = true := gCk_look (t := T_Cr_init) rfl (by decide +kernel)
theorem ck_Cr_mostFor : ∀ pc E, gLook (gTab 5) pc = some E → gChk 5 pc E = true := gCk_look (t := T_Cr_mostFor) rfl (by decide +kernel)
theorem ck_Cr_countShape : ∀ pc E, gLook (gTab 6) pc = some E → gChk 6 pc E = true := gCk_look (t := T_Cr_countShape) rfl (by decide +kernel)
theorem ck_Cr_countEdge : ∀ pc E, gLook (gTab 7) pc = some E → gChk 7 pc E = true := gCk_look (t := T_Cr_countEdge) rfl (by decide +kernel)
theorem ck_Fp_init : ∀ pc E, gLook (gTab 8) pc = some E → gChk 8 pc E = true := gCk_look (t := T_Fp_init) rfl (by decide +kernel)
theorem ck_Fp_turn : ∀ pc E, gLook (gTab 9) pc = some E → gChk 9 pc E = true := gCk_look (t := T_Fp_turn) rfl (by decide +kernel)
theorem ck_Fp_moveTo : ∀ pc E, gLook (gTab 10) pc = some E → gChk 10 pc E = true := gCk_look (t := T_Fp_moveTo) rfl (by decide +kernel)
theorem ck_Fp_startAll : ∀ pc E, gLook (gTab 11) pc = some E → gChk 11 pc E = true := gCk_look (t := T_Fp_startAll) rfl (by decide +kernel)
