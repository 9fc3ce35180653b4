/-! ===== the reference's questions about placements ===== -/
section
variable {g : PG} {u : PM} {t : Nat} {s r x y : Int}
theorem TM_aim (hk : kTM g t) (ho : mOk (u (t + 1))) (h : eAim (bdM (u (t + 1))) s r x y = 0) : ∃ v, call M_TM_misfit [vA t, vI s, vI r, vI x, vI y] g (up u t 7 ((eAim (bdM (u (t + 1))) s r x y : Nat) : Int)) = some (0, vI (bMis (bdM (u (t + 1))) s r x y), g, v) ∧ v t 7 = 0 ∧ Fq t u v ∧ v (t + 1) = u (t + 1) := by
  obtain ⟨hs, hr, hb⟩ := eAim_ok h
  have hbd := bIn_bd ho hb
  obtain ⟨v, e1, hF⟩ := TM_misfit (g := g) (u := up u t 7 ((eAim (bdM (u (t + 1))) s r x y : Nat) : Int)) (s := s) (r := r) (x := x) (y := y) hk (by rw [up7s]; exact ho) hs hr (by omega) (by omega)
  rw [up7s] at e1
  refine ⟨v, e1, ?_, (Fm7 _ _ _).tr hF.q, hF.s.trans (up7s ..)⟩
  rw [hF.c, up_s, h]
  rfl
theorem TM_fits (hk : kTM g t) (ho : mOk (u (t + 1))) (s r x y : Int) : AnM g u t (call M_TM_fits [vA t, vI s, vI r, vI x, vI y] g u) (eAim (bdM (u (t + 1))) s r x y) (if eAim (bdM (u (t + 1))) s r x y = 0 then bI (bMis (bdM (u (t + 1))) s r x y = 0) else 0) := by
  rw [C_TM_fits, gd_O hk.1, TM_isBad hk ho, cI_some]
  by_cases h : eAim (bdM (u (t + 1))) s r x y = 0
  · obtain ⟨v, e1, e2, e3, -⟩ := TM_aim hk ho h
    refine ⟨v, ?_, by rw [e2, h]; rfl, e3⟩
    rw [bI_f (by rw [h]; decide), if_pos rfl, gd_O hk.1, e1, cI_some, if_pos h]
    by_cases hm : bMis (bdM (u (t + 1))) s r x y = 0
    · rw [if_pos hm, bI_t hm]
    · rw [if_neg hm, bI_f hm]
  · refine ⟨_, ?_, up_s .., Fm7 _ _ _⟩
    rw [bI_t (by omega), if_neg (by decide), if_neg h]
theorem TM_misfitReason (hk : kTM g t) (ho : mOk (u (t + 1))) (s r x y : Int) : AnM g u t (call M_TM_misfitReason [vA t, vI s, vI r, vI x, vI y] g u) (eAim (bdM (u (t + 1))) s r x y) (if eAim (bdM (u (t + 1))) s r x y = 0 then bMis (bdM (u (t + 1))) s r x y else 0) := by
  rw [C_TM_misfitReason, gd_O hk.1, TM_isBad hk ho, cI_some]
  by_cases h : eAim (bdM (u (t + 1))) s r x y = 0
  · obtain ⟨v, e1, e2, e3, -⟩ := TM_aim hk ho h
    refine ⟨v, ?_, by rw [e2, h]; rfl, e3⟩
    rw [bI_f (by rw [h]; decide), if_pos rfl, gd_O hk.1, e1, cI_some, if_pos h]
  · refine ⟨_, ?_, up_s .., Fm7 _ _ _⟩
    rw [bI_t (by omega), if_neg (by decide), if_neg h]
theorem TM_pointsFor (hk : kTM g t) (ho : mOk (u (t + 1))) (s r x y : Int) : AnM g u t (call M_TM_pointsFor [vA t, vI s, vI r, vI x, vI y] g u) (eAim (bdM (u (t + 1))) s r x y) (if eAim (bdM (u (t + 1))) s r x y = 0 then if bMis (bdM (u (t + 1))) s r x y = 0 then bPts (bdM (u (t + 1))) s r y else -1 else 0) := by
  rw [C_TM_pointsFor, gd_O hk.1, TM_isBad hk ho, cI_some]
  by_cases h : eAim (bdM (u (t + 1))) s r x y = 0
  · obtain ⟨v, e1, e2, e3, e4⟩ := TM_aim hk ho h
    obtain ⟨hs, hr, hb⟩ := eAim_ok h
    have hbd := bIn_bd ho hb
    rw [bI_f (by rw [h]; decide), if_pos rfl, gd_O hk.1, e1, cI_some, if_pos h]
    by_cases hm : bMis (bdM (u (t + 1))) s r x y = 0
    · obtain ⟨v2, f1, -, f3⟩ := TM_points (g := g) (u := v) (s := s) (r := r) (x := x) (y := y) hk (by rw [e4]; exact ho) hs hr (by omega) (by omega)
      refine ⟨v2, ?_, by rw [f3.c, e2, h]; rfl, e3.tr f3.q⟩
      rw [if_pos hm, gd_O hk.1, f1, cI_some, if_pos hm, e4]
    · refine ⟨v, ?_, by rw [e2, h]; rfl, e3⟩
      rw [if_neg hm, if_neg hm]
  · refine ⟨_, ?_, up_s .., Fm7 _ _ _⟩
    rw [bI_t (by omega), if_neg (by decide), if_neg h]
theorem TM_mobility (hk : kTM g t) (ho : mOk (u (t + 1))) (p : Int) : AnM g u t (call M_TM_mobility [vA t, vI p] g u) (bI (ePl p ≠ 0)) (if ePl p = 0 then aMov (absM (u (t + 1))) p else 0) := by
  rw [C_TM_mobility, TM_noPlayer, cI_some, gd_O hk.1, TM_fails hk, cI_some]
  by_cases h : ePl p = 0
  · have hp := mv_or h
    obtain ⟨v, e1, hF⟩ := TM_moves (g := g) (u := up u t 7 0) hk (by rw [up7s]; exact ho) hp
    refine ⟨v, ?_, by rw [hF.c, up_s, bI_f (p := ePl p ≠ 0) fun q => q h], (Fm7 _ _ _).tr hF.q⟩
    rw [bI_f (p := ¬ (0 ≤ p ∧ p < 2)) (fun q => q (by omega)), show fC 0 0 0 = 0 from rfl, bI_f (by decide), if_pos rfl, gd_O hk.1, e1, cI_some, if_pos h, up7s]
  · have hp : ¬ (0 ≤ p ∧ p < 2) := fun q => h (if_pos q)
    refine ⟨up u t 7 1, ?_, by rw [up_s, bI_t h], Fm7 _ _ _⟩
    rw [bI_t hp, show fC 1 0 0 = 1 from rfl, bI_t (by decide), if_neg (by decide), if_neg h]
theorem TM_fittingPlacements (hk : kTM g t) (ho : mOk (u (t + 1))) (s : Int) : AnM g u t (call M_TM_fittingPlacements [vA t, vI s] g u) (eSh s) (if eSh s = 0 then bFit (bdM (u (t + 1))) s else 0) := by
  rw [C_TM_fittingPlacements, TM_noShape, cI_some, gd_O hk.1, TM_fails hk, cI_some]
  by_cases hs : 0 ≤ s ∧ s < 5
  · have h : eSh s = 0 := if_pos hs
    obtain ⟨v, e1, hF⟩ := TM_fitting2 (g := g) (u := up u t 7 0) hk (by rw [up7s]; exact ho) hs
    refine ⟨v, ?_, by rw [hF.c, up_s, h]; rfl, (Fm7 _ _ _).tr hF.q⟩
    rw [bI_f (p := ¬ (0 ≤ s ∧ s < 5)) (fun q => q hs), show fC 0 0 0 = 0 from rfl, bI_f (by decide), if_pos rfl, gd_O hk.1, e1, cI_some, if_pos h, up7s]
  · have h : eSh s = 1 := if_neg hs
    refine ⟨up u t 7 1, ?_, by rw [up_s, h]; rfl, Fm7 _ _ _⟩
    rw [bI_t hs, show fC 1 0 0 = 1 from rfl, bI_t (by decide), if_neg (by decide), h, if_neg (by decide)]
theorem TM_strapCount (hk : kTM g t) (ho : mOk (u (t + 1))) : AnM g u t (call M_TM_strapCount [vA t] g u) 0 (sumI (fun j => u (t + 1) (97 + j)) 128) := by
  refine ⟨up u t 7 0, ?_, up_s .., Fm7 _ _ _⟩
  rw [C_TM_strapCount, gd_O hk.1]
  have hb : ∀ i : Int, 0 ≤ i → i < 128 → 0 ≤ u (t + 1) (97 + i) ∧ u (t + 1) (97 + i) ≤ 1 := fun i i0 i1 => by
    rcases ho.2.2.2 i i0 i1 with e | e <;> rw [e] <;> decide
  have h := loop_sum (F := fun a i => run M_TM_strapCount 9 [vA t, vI a, vI i] [] g (up u t 7 0)) (f := fun j => u (t + 1) (97 + j)) (n := 128) (b := 1) (c := 0) (by decide) (by decide) hb (fun a i h0 h1 h2 h3 => by
    have := hb i h0 h1
    show run M_TM_strapCount 9 [vA t, vI a, vI i] [] g (up u t 7 0) = _
    rw [R_TM_strapCount_9, if_pos h1, gd_O hk.1, w_id (x := 97 + i) (by omega) (by omega), gd_R hk.2.1 (by omega) (by omega), up_o (by omega), w_id (x := a + u (t + 1) (97 + i)) (by omega) (by omega), w_id (x := i + 1) (by omega) (by omega)])
  refine Eq.trans h ?_
  rw [R_TM_strapCount_9, if_neg (by decide), Int.zero_add]
  rfl
end
