/-! ===== the reference's changes, on ===== -/
section
variable {g : PG} {u : PM} {t : Nat} {s r x y : Int}
theorem rem_inj {c : Option PO} {u2 u3 : PM} (h : c = some (0, vN, g, u2)) (h' : c = some (0, vN, g, u3)) : u2 = u3 := by
  rw [h] at h'
  injection h' with h'
  injection h' with _ h'
  injection h' with _ h'
  injection h'
theorem TM_remq (hr : rOk g u t) (ho : sOk (u (t + 1))) {v : PM} (hF : Fq t u v) : ∃ u2, call M_TM_remember [vA t, vA (t + 1)] g v = some (0, vN, g, u2) := by
  obtain ⟨u2, e2, -⟩ := TM_remember (g := g) (u := v) (p := t + 1) (rOk_fr (hF t 6 (by omega) (by omega) (by omega)) (funext fun k => hF _ k (by omega) (by omega) (by omega)) hr) hr.1.2.1 (by omega) (by rw [hF.s]; exact ho.2.1)
  exact ⟨u2, e2⟩
theorem TM_place (hr : rOk g u t) (ho : sOk (u (t + 1))) (hn : aMayP (absM (u (t + 1))) s r x y → (absM (u (t + 1))).n < 32) :
    ChM g u t (call M_TM_place [vA t, vI s, vI r, vI x, vI y] g u) ((if eAim (absM (u (t + 1))).bd s r x y ≠ 0 then eAim (absM (u (t + 1))).bd s r x y else if aMayP (absM (u (t + 1))) s r x y then 0 else 3 : Nat) : Int) (bPts (absM (u (t + 1))).bd s r y) (aPut (absM (u (t + 1))) s r x y) := by
  have hk := hr.1
  have k70 : ∀ (v : PM) (a b c d e f g' h i : Int) (hF : Fq t u v), fC a b c ≠ 0 → ∃ u', run M_TM_place 70 [vA t, vI d, vI e, vI f, vI g', vI h, vI i] [vI c, vI b, vI a, vA t] g v = some (0, vI 0, g, u') ∧ u' t 7 = fC a b c ∧ Fq t u u' := by
    intro v a b c d e f g' h i hF hc
    refine ⟨up v t 7 (fC a b c), ?_, up_s .., hF.tr (Fm7 _ _ _)⟩
    rw [R_TM_place_70, gd_O hk.1, TM_fails hk, cI_some, bI_t hc, if_neg (by decide)]
  rw [C_TM_place, TM_noShape, cI_some, TM_noTurn, cI_some]
  have k19 : ∀ q : Int, q = 0 ∨ q = 1 → (q = 1 ∨ ¬ bIn (bdM (u (t + 1))) x y) → ∃ u', run M_TM_place 19 [vA t, vI s, vI r, vI x, vI y, vN, vN] [vI q] g u = some (0, vI 0, g, u') ∧ u' t 7 = (if q = 1 then 1 else 2) ∧ Fq t u u' := by
    intro q hq hb
    rw [R_TM_place_19, gd_O hk.1, TM_isInside hk ho.1, cI_some]
    have k36 : ∀ z : Int, z = 0 ∨ z = 1 → (q = 1 ∨ z = 1) → ∃ u', run M_TM_place 36 [vA t, vI s, vI r, vI x, vI y, vI q, vN] [vI z] g u = some (0, vI 0, g, u') ∧ u' t 7 = (if q = 1 then 1 else 2) ∧ Fq t u u' := by
      intro z hz hqz
      rw [R_TM_place_36]
      rcases hq with rfl | rfl
      · rcases hz with rfl | rfl
        · omega
        · rw [if_pos rfl, if_neg (by decide), if_neg (by decide)]
          exact k70 u 0 1 0 s r x y 0 1 (Fm.rfl').q (by decide)
      · rw [if_neg (by decide), if_pos rfl]
        exact k70 u 1 z 0 s r x y 1 z (Fm.rfl').q (show (1 : Int) ≠ 0 by decide)
    by_cases h : bIn (bdM (u (t + 1))) x y
    · rw [bI_t h, if_neg (by decide)]
      exact k36 0 (Or.inl rfl) (by
        rcases hb with e | e
        · exact Or.inl e
        · exact absurd h e)
    · rw [bI_f h, if_pos rfl]
      exact k36 1 (Or.inr rfl) (Or.inr rfl)
  show ChM g u t _ ((if eAim (bdM (u (t + 1))) s r x y ≠ 0 then eAim (bdM (u (t + 1))) s r x y else _ : Nat) : Int) _ _
  by_cases hs : 0 ≤ s ∧ s < 5
  · rw [bI_f (p := ¬ (0 ≤ s ∧ s < 5)) (fun q => q hs), if_pos rfl]
    by_cases hrr : 0 ≤ r ∧ r < 4
    · rw [bI_f (p := ¬ (0 ≤ r ∧ r < 4)) (fun q => q hrr), if_pos rfl]
      by_cases h : bIn (bdM (u (t + 1))) x y
      · have hbd := bIn_bd ho.1 h
        have he : eAim (bdM (u (t + 1))) s r x y = 0 := by
          unfold eAim
          rw [if_pos (show (0 ≤ s ∧ s < 5) ∧ 0 ≤ r ∧ r < 4 from ⟨hs, hrr⟩), if_pos h]
        rw [if_neg (show ¬ eAim (bdM (u (t + 1))) s r x y ≠ 0 from fun q => q he)]
        obtain ⟨v, e1, hF⟩ := TM_mayPlace (g := g) (s := s) (r := r) (x := x) (y := y) hk ho hs hrr (by omega) (by omega)
        rw [R_TM_place_19, gd_O hk.1, TM_isInside hk ho.1, cI_some, bI_t h, if_neg (by decide), R_TM_place_36, if_pos rfl, if_pos rfl, gd_O hk.1, e1, cI_some]
        change ChM g u t (if bI (aMayP (absM (u (t + 1))) s r x y) = 0 then _ else _) _ _ _
        by_cases hm : aMayP (absM (u (t + 1))) s r x y
        · have hF2 : Fq t u (up v t 7 0) := hF.q.tr (Fm7 _ _ _)
          obtain ⟨u2, e2⟩ := TM_remq hr ho hF2
          rw [bI_t hm, if_neg (by decide), if_pos hm, R_TM_place_70, gd_O hk.1, TM_fails hk, cI_some, show fC 0 0 0 = 0 from rfl, bI_f (by decide), if_pos rfl]
          refine ⟨fun _ => ?_, fun q => absurd rfl q⟩
          refine TM_do hr ho hF2 (up_s ..) (c2 := call M_TM_places [vA t, vI s, vI r, vI x, vI y] g u2) (fun u3 h3 => ?_) (fun u3 h3 hs3 => ?_)
          · simp only [gd_O hk.1, e2, cV_some]
          · obtain rfl := rem_inj e2 h3
            obtain ⟨u4, e4, a4, f4⟩ := TM_places (g := g) (u := u2) (s := s) (r := r) (x := x) (y := y) hk (by rw [hs3]; exact ho) hs hrr (by omega) (by omega) (by rw [hs3]; exact ⟨ho.2.1.1.1, hn hm⟩) (by rw [hs3]; exact mis0_in hs hm.2.2)
            rw [hs3] at e4 a4
            exact ⟨u4, e4, a4, f4⟩
        · rw [bI_f hm, if_pos rfl, if_neg hm]
          exact ⟨fun q => absurd q (by decide), fun _ => k70 v 0 0 1 s r x y 0 0 hF.q (by decide)⟩
      · have he : eAim (bdM (u (t + 1))) s r x y = 2 := by
          unfold eAim
          rw [if_pos (show (0 ≤ s ∧ s < 5) ∧ 0 ≤ r ∧ r < 4 from ⟨hs, hrr⟩), if_neg h]
        rw [he, if_pos (show (2 : Nat) ≠ 0 by decide)]
        exact ⟨fun q => absurd q (by decide), fun _ => k19 0 (Or.inl rfl) (Or.inr h)⟩
    · have he : eAim (bdM (u (t + 1))) s r x y = 1 := by
        unfold eAim
        rw [if_neg (show ¬ ((0 ≤ s ∧ s < 5) ∧ 0 ≤ r ∧ r < 4) from fun q => hrr q.2)]
      rw [bI_t hrr, if_neg (show ¬ (1 : Int) = 0 by decide), he, if_pos (show (1 : Nat) ≠ 0 by decide)]
      exact ⟨fun q => absurd q (by decide), fun _ => k19 1 (Or.inr rfl) (Or.inl rfl)⟩
  · have he : eAim (bdM (u (t + 1))) s r x y = 1 := by
      unfold eAim
      rw [if_neg (show ¬ ((0 ≤ s ∧ s < 5) ∧ 0 ≤ r ∧ r < 4) from fun q => hs q.1)]
    rw [bI_t hs, if_neg (show ¬ (1 : Int) = 0 by decide), he, if_pos (show (1 : Nat) ≠ 0 by decide)]
    exact ⟨fun q => absurd q (by decide), fun _ => k19 1 (Or.inr rfl) (Or.inl rfl)⟩
theorem TM_fastenStrap (hr : rOk g u t) (ho : sOk (u (t + 1))) (hst : 0 ≤ u (t + 1) (5 + 14 * u (t + 1) 2 + 1)) (x y s : Int) :
    ChM g u t (call M_TM_fastenStrap [vA t, vI x, vI y, vI s] g u) ((if eEd (absM (u (t + 1))).bd x y s ≠ 0 then eEd (absM (u (t + 1))).bd x y s else if aMayS (absM (u (t + 1))) x y s then 0 else 3 : Nat) : Int) (w ((aPl (absM (u (t + 1))) (absM (u (t + 1))).mv).2.1 - 1)) (aStrap (absM (u (t + 1))) x y s) := by
  have hk := hr.1
  have k53 : ∀ (a b c d e f h i : Int), fC a b c ≠ 0 → ∃ u', run M_TM_fastenStrap 53 [vA t, vI d, vI e, vI f, vI h, vI i] [vI c, vI b, vI a, vA t] g u = some (0, vI 0, g, u') ∧ u' t 7 = fC a b c ∧ Fq t u u' := by
    intro a b c d e f h i hc
    refine ⟨up u t 7 (fC a b c), ?_, up_s .., Fm7 _ _ _⟩
    rw [R_TM_fastenStrap_53, gd_O hk.1, TM_fails hk, cI_some, bI_t hc, if_neg (by decide)]
  show ChM g u t _ ((if eEd (bdM (u (t + 1))) x y s ≠ 0 then eEd (bdM (u (t + 1))) x y s else _ : Nat) : Int) _ _
  rw [C_TM_fastenStrap, TM_noSide, cI_some, gd_O hk.1, TM_isEdge hk ho.1, cI_some]
  by_cases hs : 0 ≤ s ∧ s < 2
  · by_cases h : bEdge (bdM (u (t + 1))) x y s
    · have he : eEd (bdM (u (t + 1))) x y s = 0 := by
        unfold eEd
        rw [if_pos hs, if_pos h]
      have hMF := TM_mayFasten (g := g) (x := x) (y := y) (s := s) hk ho hst (by omega) h
      rw [bI_f (p := ¬ (0 ≤ s ∧ s < 2)) (fun q => q hs), bI_t h, if_neg (show ¬ (1 : Int) = 0 by decide), R_TM_fastenStrap_21, if_pos rfl, if_pos rfl, gd_O hk.1, hMF, cI_some, if_neg (show ¬ eEd (bdM (u (t + 1))) x y s ≠ 0 from fun q => q he)]
      change ChM g u t (if bI (aMayS (absM (u (t + 1))) x y s) = 0 then _ else _) _ _ _
      by_cases hm : aMayS (absM (u (t + 1))) x y s
      · have hF2 : Fq t u (up u t 7 0) := Fm7 _ _ _
        obtain ⟨u2, e2⟩ := TM_remq hr ho hF2
        rw [bI_t hm, if_neg (by decide), if_pos hm, R_TM_fastenStrap_53, gd_O hk.1, TM_fails hk, cI_some, show fC 0 0 0 = 0 from rfl, bI_f (by decide), if_pos rfl]
        refine ⟨fun _ => ?_, fun q => absurd rfl q⟩
        refine TM_do hr ho hF2 (up_s ..) (c2 := call M_TM_fastens [vA t, vI x, vI y, vI s] g u2) (fun u3 h3 => ?_) (fun u3 h3 hs3 => ?_)
        · simp only [gd_O hk.1, e2, cV_some]
        · obtain rfl := rem_inj e2 h3
          obtain ⟨u4, e4, a4, f4⟩ := TM_fastens (g := g) (u := u2) (x := x) (y := y) (s := s) hk (by rw [hs3]; exact ho) (by omega) (by rw [hs3]; exact h)
          rw [hs3] at e4 a4
          exact ⟨u4, e4, a4, f4⟩
      · rw [bI_f hm, if_pos rfl, if_neg hm]
        exact ⟨fun q => absurd q (by decide), fun _ => k53 0 0 1 x y s 0 0 (by decide)⟩
    · have he : eEd (bdM (u (t + 1))) x y s = 2 := by
        unfold eEd
        rw [if_pos hs, if_neg h]
      rw [bI_f (p := ¬ (0 ≤ s ∧ s < 2)) (fun q => q hs), bI_f h, if_pos rfl, he, if_pos (show (2 : Nat) ≠ 0 by decide), R_TM_fastenStrap_21, if_pos rfl, if_neg (by decide)]
      exact ⟨fun q => absurd q (by decide), fun _ => k53 0 1 0 x y s 0 1 (by decide)⟩
  · have he : eEd (bdM (u (t + 1))) x y s = 1 := by
      unfold eEd
      rw [if_neg hs]
    rw [bI_t hs, he, if_pos (show (1 : Nat) ≠ 0 by decide)]
    by_cases h : bEdge (bdM (u (t + 1))) x y s
    · rw [bI_t h, if_neg (show ¬ (1 : Int) = 0 by decide), R_TM_fastenStrap_21, if_neg (by decide)]
      exact ⟨fun q => absurd q (by decide), fun _ => k53 1 0 0 x y s 1 0 (by decide)⟩
    · rw [bI_f h, if_pos rfl, R_TM_fastenStrap_21, if_neg (by decide)]
      exact ⟨fun q => absurd q (by decide), fun _ => k53 1 1 0 x y s 1 1 (by decide)⟩
end
