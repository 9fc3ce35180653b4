/-! ===== the reference's questions: code of what was thrown, answer ===== -/
def fC (a b c : Int) : Int := if a = 0 then if b = 0 then if c = 0 then 0 else 3 else 2 else 1
/-- what the reference's questions with a code may change -/
def Fq (t : Nat) (u u' : PM) : Prop := ∀ (a : Nat) (k : Int), ¬ (a = t ∧ (k = 7 ∨ k = 17)) → a ≠ t + 9 → a ≠ t + 10 → u' a k = u a k
theorem Fm.q {t : Nat} {u v : PM} (h : Fm t u v) : Fq t u v := fun a k h1 h2 h3 => h a k (by omega) h2 h3
theorem Fq.tr {t : Nat} {u v x : PM} (h : Fq t u v) (h' : Fq t v x) : Fq t u x := fun a k h1 h2 h3 => (h' a k h1 h2 h3).trans (h a k h1 h2 h3)
theorem Fm.c {t : Nat} {u v : PM} (h : Fm t u v) : v t 7 = u t 7 := h t 7 (by omega) (by omega) (by omega)
def AnM (g : PG) (u : PM) (t : Nat) (c : Option PO) (code v : Int) : Prop := ∃ u', c = some (0, vI v, g, u') ∧ u' t 7 = code ∧ Fq t u u'
section
variable {g : PG} {u : PM} {t : Nat} {s r x y : Int}
theorem Fm7 (u : PM) (t : Nat) (v : Int) : Fq t u (up u t 7 v) := fun a k h _ _ => up_n (by omega)
theorem TM_fails (hk : kTM g t) (a b c : Int) : call M_TM_fails [vA t, vI a, vI b, vI c] g u = some (0, vI (bI (fC a b c ≠ 0)), g, up u t 7 (fC a b c)) := by
  rw [C_TM_fails]
  unfold fC
  have key : ∀ e : Int, 0 ≤ e → run M_TM_fails 26 [vA t, vI a, vI b, vI c] [vI e, vA t] g u = some (0, vI (bI (e ≠ 0)), g, up u t 7 e) := by
    intro e he
    rw [R_TM_fails_26]
    simp only [gd_O hk.1]
    rw [up_s]
    by_cases h : 0 < e
    · rw [if_pos h, bI_t (by omega)]
    · rw [if_neg h, bI_f (by omega)]
  by_cases h1 : a = 0
  · rw [if_pos h1, if_pos h1]
    by_cases h2 : b = 0
    · rw [if_pos h2, if_pos h2]
      by_cases h3 : c = 0
      · rw [if_pos h3, if_pos h3, key 0 (by decide)]
      · rw [if_neg h3, if_neg h3, key 3 (by decide)]
    · rw [if_neg h2, if_neg h2, key 2 (by decide)]
  · rw [if_neg h1, if_neg h1, key 1 (by decide)]
theorem TM_told (hk : kTM g t) (v : Int) : call M_TM_told [vA t, vI v] g u = some (0, vI v, g, up u t 7 0) := by rw [C_TM_told, gd_O hk.1]
theorem TM_columns (hk : kTM g t) : AnM g u t (call M_TM_columns [vA t] g u) 0 (bdM (u (t + 1))).1 := by
  refine ⟨up u t 7 0, ?_, up_s .., Fm7 _ _ _⟩
  rw [C_TM_columns, gd_O hk.1, gd_R hk.2.1 (by decide) (by decide), gd_O hk.1, TM_told hk, cI_some]
  rfl
theorem TM_rows (hk : kTM g t) : AnM g u t (call M_TM_rows [vA t] g u) 0 (bdM (u (t + 1))).2.1 := by
  refine ⟨up u t 7 0, ?_, up_s .., Fm7 _ _ _⟩
  rw [C_TM_rows, gd_O hk.1, gd_R hk.2.1 (by decide) (by decide), gd_O hk.1, TM_told hk, cI_some]
  rfl
theorem TM_pieceCount (hk : kTM g t) : AnM g u t (call M_TM_pieceCount [vA t] g u) 0 (absM (u (t + 1))).n := by
  refine ⟨up u t 7 0, ?_, up_s .., Fm7 _ _ _⟩
  rw [C_TM_pieceCount, gd_O hk.1, gd_R hk.2.1 (by decide) (by decide), gd_O hk.1, TM_told hk, cI_some]
  rfl
theorem TM_undoable (hk : kTM g t) : AnM g u t (call M_TM_undoableChanges [vA t] g u) 0 (u t 6) := by
  refine ⟨up u t 7 0, ?_, up_s .., Fm7 _ _ _⟩
  rw [C_TM_undoableChanges, gd_O hk.1, gd_O hk.1, TM_told hk, cI_some]
theorem TM_allEmpty (hk : kTM g t) (ho : mOk (u (t + 1))) : call M_TM_allEmpty [vA t] g u = some (0, vI (bCnt (bdM (u (t + 1))) (-1)), g, u) := by
  have h := loop_sum (F := fun a i => run M_TM_allEmpty 4 [vA t, vI a, vI i] [] g u) (f := fun y => bEmp (bdM (u (t + 1))) y) (n := u (t + 1) 1) (b := 8) (c := 0) ho.2.1.1 (by decide) (fun i _ _ => by
      have := bEmp_bd (bdM (u (t + 1))) ho.1.1 i
      have h1 : (bdM (u (t + 1))).1 ≤ 8 := ho.1.2
      omega) (fun a i h0 h1 h2 h3 => by
    have := ho.2.1
    have hb := bEmp_bd (bdM (u (t + 1))) ho.1.1 i
    have h8 : (bdM (u (t + 1))).1 ≤ 8 := ho.1.2
    show run M_TM_allEmpty 4 [vA t, vI a, vI i] [] g u = _
    rw [R_TM_allEmpty_4, gd_O hk.1, gd_R hk.2.1 (by decide) (by decide), if_pos h1, gd_O hk.1, TM_emptyIn hk ho ⟨h0, h1⟩, cI_some, w_id (x := a + _) (by omega) (by omega), w_id (x := i + 1) (by omega) (by omega)])
  rw [C_TM_allEmpty]
  refine Eq.trans h ?_
  rw [R_TM_allEmpty_4, gd_O hk.1, gd_R hk.2.1 (by decide) (by decide), if_neg (by omega), Int.zero_add]
  rfl
theorem TM_emptyCells (hk : kTM g t) (ho : mOk (u (t + 1))) : AnM g u t (call M_TM_emptyCells [vA t] g u) 0 (bCnt (bdM (u (t + 1))) (-1)) := by
  refine ⟨up u t 7 0, ?_, up_s .., Fm7 _ _ _⟩
  rw [C_TM_emptyCells, gd_O hk.1, TM_allEmpty hk ho, cI_some, gd_O hk.1, TM_told hk, cI_some]
theorem up7s (u : PM) (t : Nat) (v : Int) : up u t 7 v (t + 1) = u (t + 1) := funext fun k => up_o (by omega)
/-- rows without empty cells -/
def bCmp (B : Bd) : Int := sumI (fun y => bI (bEmp B y = 0)) B.2.1.toNat
theorem TM_completeRows (hk : kTM g t) (ho : mOk (u (t + 1))) : AnM g u t (call M_TM_completeRows [vA t] g u) 0 (bCmp (bdM (u (t + 1)))) := by
  refine ⟨up u t 7 0, ?_, up_s .., Fm7 _ _ _⟩
  rw [C_TM_completeRows, gd_O hk.1]
  obtain ⟨v, hv⟩ : ∃ v, v = up u t 7 0 := ⟨_, rfl⟩
  have hs : v (t + 1) = u (t + 1) := by rw [hv]; exact up7s ..
  rw [← hv, ← hs]
  rw [← hs] at ho
  have h := loop_sum (F := fun a i => run M_TM_completeRows 9 [vA t, vI a, vI i] [] g v) (f := fun y => bI (bEmp (bdM (v (t + 1))) y = 0)) (n := v (t + 1) 1) (b := 1) (c := 0) ho.2.1.1 (by decide) (fun i _ _ => bI_bd _) (fun a i h0 h1 h2 h3 => by
    have := ho.2.1
    show run M_TM_completeRows 9 [vA t, vI a, vI i] [] g v = run M_TM_completeRows 9 [vA t, vI (a + bI (bEmp (bdM (v (t + 1))) i = 0)), vI (i + 1)] [] g v
    rw [R_TM_completeRows_9, gd_O hk.1, gd_R hk.2.1 (by decide) (by decide), if_pos h1, gd_O hk.1, TM_emptyIn hk ho ⟨h0, h1⟩, cI_some, w_id (x := a + 1) (by omega) (by omega), w_id (x := i + 1) (by omega) (by omega)]
    by_cases hc : bEmp (bdM (v (t + 1))) i = 0
    · rw [if_pos hc, bI_t hc]
    · rw [if_neg hc, bI_f hc, Int.add_zero])
  refine Eq.trans h ?_
  rw [R_TM_completeRows_9, gd_O hk.1, gd_R hk.2.1 (by decide) (by decide), if_neg (by omega), Int.zero_add]
  rfl
theorem TM_isBlocked (hk : kTM g t) (ho : mOk (u (t + 1))) (x y : Int) : AnM g u t (call M_TM_isBlocked [vA t, vI x, vI y] g u) (bI (¬ bIn (bdM (u (t + 1))) x y)) (bI (bCell (bdM (u (t + 1))) x y = -2)) := by
  rw [C_TM_isBlocked, gd_O hk.1, TM_isInside hk ho, cI_some]
  by_cases h : bIn (bdM (u (t + 1))) x y
  · have ho' : mOk (up u t 7 0 (t + 1)) := by rw [up7s]; exact ho
    have hb := bIn_bd ho h
    have hc := ho.2.2.1 (8 * y + x) (by omega) (by omega)
    refine ⟨up u t 7 0, ?_, ?_, Fm7 _ _ _⟩
    · rw [bI_t h, if_neg (by decide), R_TM_isBlocked_15, gd_O hk.1, TM_fails hk, cI_some, show fC 0 0 0 = 0 from rfl, bI_f (by decide), if_pos rfl, gd_O hk.1, TM_cell hk ho' (by rw [up7s]; exact h), cI_some, up7s, bdM_cell ho h]
      by_cases h2 : u (t + 1) (33 + (8 * y + x)) = 1
      · rw [if_pos h2, bI_t ((enc_eq hc.1).2.1.mpr h2)]
      · rw [if_neg h2, bI_f fun q => h2 ((enc_eq hc.1).2.1.mp q)]
    · rw [up_s, bI_f fun q => q h]
  · refine ⟨up u t 7 1, ?_, ?_, Fm7 _ _ _⟩
    · rw [bI_f h, if_pos rfl, R_TM_isBlocked_15, gd_O hk.1, TM_fails hk, cI_some, show fC 1 0 0 = 1 from rfl, bI_t (by decide), if_neg (by decide), bI_f]
      unfold bCell
      rw [if_neg h]
      decide
    · rw [up_s, bI_t h]
theorem TM_pieceAt (hk : kTM g t) (ho : mOk (u (t + 1))) (x y : Int) : AnM g u t (call M_TM_pieceAt [vA t, vI x, vI y] g u) (bI (¬ bIn (bdM (u (t + 1))) x y)) (if bIn (bdM (u (t + 1))) x y then if 0 ≤ bCell (bdM (u (t + 1))) x y then bCell (bdM (u (t + 1))) x y else -1 else 0) := by
  rw [C_TM_pieceAt, gd_O hk.1, TM_isInside hk ho, cI_some]
  by_cases h : bIn (bdM (u (t + 1))) x y
  · have ho' : mOk (up u t 7 0 (t + 1)) := by rw [up7s]; exact ho
    refine ⟨up u t 7 0, ?_, ?_, Fm7 _ _ _⟩
    · rw [bI_t h, if_neg (by decide), R_TM_pieceAt_15, gd_O hk.1, TM_fails hk, cI_some, show fC 0 0 0 = 0 from rfl, bI_f (by decide), if_pos rfl, gd_O hk.1, TM_pieceOf hk ho' (by rw [up7s]; exact h), cI_some, up7s, if_pos h]
    · rw [up_s, bI_f fun q => q h]
  · refine ⟨up u t 7 1, ?_, ?_, Fm7 _ _ _⟩
    · rw [bI_f h, if_pos rfl, R_TM_pieceAt_15, gd_O hk.1, TM_fails hk, cI_some, show fC 1 0 0 = 1 from rfl, bI_t (by decide), if_neg (by decide), if_neg h]
    · rw [up_s, bI_t h]
theorem TM_emptyInRow (hk : kTM g t) (ho : mOk (u (t + 1))) (y : Int) : AnM g u t (call M_TM_emptyInRow [vA t, vI y] g u) (bI (¬ (0 ≤ y ∧ y < (bdM (u (t + 1))).2.1))) (if 0 ≤ y ∧ y < (bdM (u (t + 1))).2.1 then bEmp (bdM (u (t + 1))) y else 0) := by
  have h2 := ho.2.1
  rw [C_TM_emptyInRow, gd_O hk.1, gd_R hk.2.1 (by decide) (by decide), TM_isIn, cI_some, w_id (by omega) (by omega)]
  have e : (0 ≤ y ∧ y ≤ u (t + 1) 1 - 1) ↔ (0 ≤ y ∧ y < (bdM (u (t + 1))).2.1) := by
    show _ ↔ (0 ≤ y ∧ y < u (t + 1) 1)
    omega
  rw [bI_congr e]
  by_cases h : 0 ≤ y ∧ y < (bdM (u (t + 1))).2.1
  · have ho' : mOk (up u t 7 0 (t + 1)) := by rw [up7s]; exact ho
    refine ⟨up u t 7 0, ?_, ?_, Fm7 _ _ _⟩
    · rw [bI_t h, if_neg (by decide), R_TM_emptyInRow_22, gd_O hk.1, TM_fails hk, cI_some, show fC 0 0 0 = 0 from rfl, bI_f (by decide), if_pos rfl, gd_O hk.1, TM_emptyIn hk ho' (by rw [up7s]; exact h), cI_some, up7s, if_pos h]
    · rw [up_s, bI_f fun q => q h]
  · refine ⟨up u t 7 1, ?_, ?_, Fm7 _ _ _⟩
    · rw [bI_f h, if_pos rfl, R_TM_emptyInRow_22, gd_O hk.1, TM_fails hk, cI_some, show fC 1 0 0 = 1 from rfl, bI_t (by decide), if_neg (by decide), if_neg h]
    · rw [up_s, bI_t h]
theorem TM_isOver (hk : kTM g t) : AnM g u t (call M_TM_isOver [vA t] g u) 0 (bI ((absM (u (t + 1))).ps = 2)) := by
  refine ⟨up u t 7 0, ?_, up_s .., Fm7 _ _ _⟩
  rw [C_TM_isOver, gd_O hk.1, gd_O hk.1, TM_over hk, cI_some, b01_bI, cond_true, up7s]
  rfl
theorem TM_playerToMove (hk : kTM g t) : AnM g u t (call M_TM_playerToMove [vA t] g u) 0 (if (absM (u (t + 1))).ps = 2 then -1 else (absM (u (t + 1))).mv) := by
  refine ⟨up u t 7 0, ?_, up_s .., Fm7 _ _ _⟩
  rw [C_TM_playerToMove, gd_O hk.1, TM_over hk, cI_some]
  show _ = some (0, vI (if u (t + 1) 3 = 2 then -1 else u (t + 1) 2), g, up u t 7 0)
  by_cases h : u (t + 1) 3 = 2
  · rw [bI_t h, if_neg (by decide), gd_O hk.1, TM_told hk, cI_some, if_pos h]
  · rw [bI_f h, if_pos rfl, gd_O hk.1, gd_R hk.2.1 (by decide) (by decide), gd_O hk.1, TM_told hk, cI_some, if_neg h]
theorem TM_leader (hk : kTM g t) : AnM g u t (call M_TM_leader [vA t] g u) 0 (if w ((absM (u (t + 1))).p0.1 - (absM (u (t + 1))).p1.1) = 0 then -1 else if 0 < w ((absM (u (t + 1))).p0.1 - (absM (u (t + 1))).p1.1) then 0 else 1) := by
  refine ⟨up u t 7 0, ?_, up_s .., Fm7 _ _ _⟩
  rw [C_TM_leader, gd_O hk.1, gd_O hk.1, TM_of hk (Or.inl rfl) (by decide) (by decide), cI_some, gd_O hk.1, TM_of hk (Or.inr rfl) (by decide) (by decide), cI_some, up7s]
  show (if w (u (t + 1) 5 - u (t + 1) 19) = 0 then _ else if 0 < w (u (t + 1) 5 - u (t + 1) 19) then _ else _) = some (0, vI (if w (u (t + 1) 5 - u (t + 1) 19) = 0 then -1 else if 0 < w (u (t + 1) 5 - u (t + 1) 19) then 0 else 1), g, up u t 7 0)
  by_cases h : w (u (t + 1) 5 - u (t + 1) 19) = 0
  · rw [if_pos h, if_pos h]
  · rw [if_neg h, if_neg h]
    by_cases h2 : 0 < w (u (t + 1) 5 - u (t + 1) 19)
    · rw [if_pos h2, if_pos h2]
    · rw [if_neg h2, if_neg h2]
end
