/-! ===== saved positions, reference ===== -/
def vM (u : PM) (t : Nat) (i : Int) : Option AS := if u (t + 6) i = 0 then none else some (absM (fun k => u (t + 4) (417 * i + k)))
def wOk (g : PG) (u : PM) (t : Nat) : Prop := KA g (t + 4) (2, 0, 834) ∧ KA g (t + 6) (2, 1, 2) ∧ ∀ i : Int, 0 ≤ i → i < 2 → ∀ a, vM u t i = some a → nOk a
def FvM (t : Nat) (u u' : PM) : Prop := ∀ (a : Nat) (k : Int), ¬ (a = t ∧ k = 7) → a ≠ t + 4 → a ≠ t + 6 → u' a k = u a k
section
variable {g : PG} {u : PM} {t : Nat} {i : Int}
theorem TM_save (hk : kTM g t) (ho : nOk (absM (u (t + 1)))) (hv : wOk g u t) : (eSl i = 0 → ∃ u', call M_TM_save [vA t, vI i] g u = some (0, vI (absM (u (t + 1))).n, g, u') ∧ u' t 7 = 0 ∧ vM u' t i = some (absM (u (t + 1))) ∧ (∀ j : Int, 0 ≤ j → j < 2 → j ≠ i → vM u' t j = vM u t j) ∧ wOk g u' t ∧ FvM t u u') ∧ (eSl i ≠ 0 → ∃ u', call M_TM_save [vA t, vI i] g u = some (0, vI 0, g, u') ∧ u' t 7 = 1 ∧ Fq t u u') := by
  obtain ⟨w0, w1, w2⟩ := hv
  rw [C_TM_save, TM_isIn, cI_some]
  constructor
  · intro he
    obtain ⟨i0, i1⟩ := eSl_ok he
    obtain ⟨v, hvv⟩ : ∃ v, v = up (cpy (up u t 7 0) (t + 1) (t + 4) 0 (i * 417) 417) (t + 6) i 1 := ⟨_, rfl⟩
    have c1 : vM v t i = some (absM (u (t + 1))) := by
      unfold vM
      rw [hvv, up_s, if_neg (by decide)]
      refine congrArg some (absM_o ho fun k k0 k1 => ?_)
      rw [up_o (by omega)]
      unfold cpy
      rw [if_pos ⟨rfl, by omega, by omega⟩, up_o (by omega)]
      exact congrArg (u (t + 1)) (by omega)
    have c2 : ∀ j : Int, 0 ≤ j → j < 2 → j ≠ i → vM v t j = vM u t j := fun j j0 j1 hj => by
      have e6 : v (t + 6) j = u (t + 6) j := by rw [hvv, up_j hj, cpy_o (by omega), up_o (by omega)]
      unfold vM
      rw [e6]
      by_cases q : u (t + 6) j = 0
      · rw [if_pos q, if_pos q]
      · rw [if_neg q, if_neg q]
        have hn := w2 j j0 j1 _ (if_neg q)
        refine congrArg some (absM_o hn fun k k0 k1 => ?_)
        rw [hvv, up_o (by omega)]
        unfold cpy
        rw [if_neg (by omega), up_o (by omega)]
    refine ⟨v, ?_, by rw [hvv, up_o (by omega), cpy_o (by omega), up_s], c1, c2, ⟨w0, w1, fun j j0 j1 a ha => ?_⟩, fun a k n1 n2 n3 => by rw [hvv, up_o n3, cpy_o n2, up_n n1]⟩
    · rw [bI_t (show 0 ≤ i ∧ i ≤ 1 by omega), if_neg (by decide), R_TM_save_15, gd_O hk.1, TM_fails hk, cI_some, show fC 0 0 0 = 0 from rfl, bI_f (by decide), if_pos rfl]
      simp only [gd_O hk.1]
      rw [w_id (x := i * 417) (by omega) (by omega), C_TM_copy, gd_C hk.2.1 w0 (by decide) (by decide) (by omega) (by decide) (by decide) (by omega), cV_some]
      simp only [gd_O hk.1]
      rw [gd_W w1 i0 (by omega), gd_R hk.2.1 (by decide) (by decide), ← hvv]
      show some (0, vI (v (t + 1) 4), g, v) = some (0, vI (u (t + 1) 4), g, v)
      rw [hvv, up_o (by omega), cpy_o (by omega), up_o (by omega)]
    · by_cases hj : j = i
      · rw [hj, c1] at ha
        injection ha with ha
        rw [← ha]
        exact ho
      · rw [c2 j j0 j1 hj] at ha
        exact w2 j j0 j1 a ha
  · intro he
    have hi : ¬ (0 ≤ i ∧ i ≤ 1) := fun q => he (if_pos (by omega))
    refine ⟨up u t 7 1, ?_, up_s .., Fm7 _ _ _⟩
    rw [bI_f hi, if_pos rfl, R_TM_save_15, gd_O hk.1, TM_fails hk, cI_some, show fC 1 0 0 = 1 from rfl, bI_t (by decide), if_neg (by decide)]
theorem TM_restore (hr : rOk g u t) (ho : sOk (u (t + 1))) (hv : wOk g u t) : (eSl i ≠ 0 → ∃ u', call M_TM_restore [vA t, vI i] g u = some (0, vI 0, g, u') ∧ u' t 7 = 1 ∧ Fq t u u') ∧
    (eSl i = 0 → vM u t i = none → ∃ u', call M_TM_restore [vA t, vI i] g u = some (0, vI 0, g, u') ∧ u' t 7 = 2 ∧ Fq t u u') ∧
    (eSl i = 0 → ∀ a, vM u t i = some a → ∃ u', call M_TM_restore [vA t, vI i] g u = some (0, vI a.n, g, u') ∧ u' t 7 = 0 ∧ absM (u' (t + 1)) = a ∧ hM u' t = hPush (hM u t) (absM (u (t + 1))) ∧ rOk g u' t ∧ FdM t u u') := by
  have hk := hr.1
  obtain ⟨w0, w1, w2⟩ := hv
  rw [C_TM_restore, TM_isIn, cI_some]
  refine ⟨fun he => ?_, fun he hn => ?_, fun he a ha => ?_⟩
  · have hi : ¬ (0 ≤ i ∧ i ≤ 1) := fun q => he (if_pos (by omega))
    refine ⟨up u t 7 1, ?_, up_s .., Fm7 _ _ _⟩
    rw [bI_f hi, if_pos rfl, R_TM_restore_14, if_neg (by decide), R_TM_restore_35, gd_O hk.1, TM_fails hk, cI_some, show fC 1 0 0 = 1 from rfl, bI_t (by decide), if_neg (by decide)]
  · obtain ⟨i0, i1⟩ := eSl_ok he
    have hz : u (t + 6) i = 0 := by
      unfold vM at hn
      by_cases q : u (t + 6) i = 0
      · exact q
      · rw [if_neg q] at hn; cases hn
    refine ⟨up u t 7 2, ?_, up_s .., Fm7 _ _ _⟩
    rw [bI_t (show 0 ≤ i ∧ i ≤ 1 by omega), if_neg (by decide), R_TM_restore_14, if_pos rfl, gd_O hk.1, gd_W w1 i0 (by omega), if_pos hz, R_TM_restore_35, gd_O hk.1, TM_fails hk, cI_some, show fC 0 1 0 = 2 from rfl, bI_t (by decide), if_neg (by decide)]
  · obtain ⟨i0, i1⟩ := eSl_ok he
    have hna := w2 i i0 i1 a ha
    have hz : u (t + 6) i ≠ 0 ∧ absM (fun k => u (t + 4) (417 * i + k)) = a := by
      unfold vM at ha
      by_cases q : u (t + 6) i = 0
      · rw [if_pos q] at ha; cases ha
      · rw [if_neg q] at ha
        injection ha with ha
        exact ⟨q, ha⟩
    have hF : Fq t u (up u t 7 0) := Fm7 _ _ _
    obtain ⟨u2, e2, b2, c2, f2⟩ := TM_remember (g := g) (u := up u t 7 0) (p := t + 1) (rOk_fr (hF t 6 (by omega) (by omega) (by omega)) (funext fun k => hF _ k (by omega) (by omega) (by omega)) hr) hk.2.1 (by omega) (by rw [hF.s]; exact ho.2.1)
    rw [hF.s, hM_fr (hF t 6 (by omega) (by omega) (by omega)) (funext fun k => hF (t + 3) k (by omega) (by omega) (by omega))] at b2
    have g4 : ∀ k, u2 (t + 4) k = u (t + 4) k := fun k => by rw [f2 _ _ (by omega) (by omega), up_o (by omega)]
    have an : absM (cpy u2 (t + 4) (t + 1) (i * 417) 0 417 (t + 1)) = a := by
      rw [← hz.2]
      refine absM_o (by rw [hz.2]; exact hna) fun k k0 k1 => ?_
      unfold cpy
      rw [if_pos ⟨rfl, by omega, by omega⟩, g4]
      exact congrArg (u (t + 4)) (by omega)
    refine ⟨cpy u2 (t + 4) (t + 1) (i * 417) 0 417, ?_, ?_, an, ?_, rOk_fr (cpy_o (by omega)) (funext fun k => cpy_o (by omega)) c2, fun b k n1 n2 n3 n4 n5 => by rw [cpy_o n2, f2 b k n3 (by omega), up_n (by omega)]⟩
    · rw [bI_t (show 0 ≤ i ∧ i ≤ 1 by omega), if_neg (by decide), R_TM_restore_14, if_pos rfl, gd_O hk.1, gd_W w1 i0 (by omega), if_neg hz.1, R_TM_restore_35, gd_O hk.1, TM_fails hk, cI_some, show fC 0 0 0 = 0 from rfl, bI_f (by decide), if_pos rfl]
      simp only [gd_O hk.1, e2, cV_some]
      rw [w_id (x := i * 417) (by omega) (by omega), C_TM_copy, gd_C w0 hk.2.1 (by decide) (by decide) (by decide) (by omega) (by omega) (by decide), cV_some, gd_O hk.1, gd_R hk.2.1 (by decide) (by decide), ← an]
      rfl
    · rw [cpy_o (by omega), f2 t 7 (by omega) (by omega), up_s]
    · rw [hM_fr (cpy_o (by omega)) (funext fun k => cpy_o (by omega)), b2]
end
