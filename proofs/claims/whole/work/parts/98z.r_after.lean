/-! ===== the reference: moves after a placement ===== -/
/-- aside, places and fields only; s as before -/
def Fa (t : Nat) (u u' : PM) : Prop := ∀ (a : Nat) (k : Int), ¬ (a = t ∧ (k = 7 ∨ k = 17)) → a ≠ t + 2 → a ≠ t + 9 → a ≠ t + 10 → ¬ (a = t + 1 ∧ ¬ (0 ≤ k ∧ k < 417)) → u' a k = u a k
section
variable {g : PG} {u : PM} {t : Nat} {s r x y p : Int}
theorem TM_ma43 (hk : kTM g t) (h2 : KA g (t + 2) (2, 0, 417)) (ho : sOk (u (t + 1))) (hc : cOk (absM (u (t + 1))).bd) (hn : aMayP (absM (u (t + 1))) s r x y → (absM (u (t + 1))).n < 32) (hs : 0 ≤ s ∧ s < 5) (hr : 0 ≤ r ∧ r < 4) (hb : bIn (bdM (u (t + 1))) x y) (hp : p = 0 ∨ p = 1) :
    ∃ u', run M_TM_mobilityAfter 43 [vA t, vI s, vI r, vI x, vI y, vI p, vN] [vI 0, vI 0, vA t] g u = some (0, vI (if aMayP (absM (u (t + 1))) s r x y then aMov (aPut (absM (u (t + 1))) s r x y) p else -1), g, u') ∧ u' t 7 = 0 ∧ Fa t u u' := by
  have hbd := bIn_bd ho.1 hb
  have hF : Fq t u (up u t 7 0) := Fm7 _ _ _
  have e7 : up u t 7 0 (t + 1) = u (t + 1) := up7s ..
  obtain ⟨v, e1, hv⟩ := TM_mayPlace (g := g) (u := up u t 7 0) (s := s) (r := r) (x := x) (y := y) hk (by rw [e7]; exact ho) hs hr (by omega) (by omega)
  rw [e7] at e1
  have hvs : v (t + 1) = u (t + 1) := hv.s.trans e7
  have v7 : v t 7 = 0 := by rw [hv.c, up_s]
  have fv : ∀ (a : Nat) (k : Int), ¬ (a = t ∧ (k = 7 ∨ k = 17)) → a ≠ t + 9 → a ≠ t + 10 → v a k = u a k := fun a k n1 n2 n3 => by rw [hv a k (by omega) n2 n3, up_n (by omega)]
  rw [R_TM_mobilityAfter_43, gd_O hk.1, TM_fails hk, cI_some, show fC 0 0 0 = 0 from rfl, bI_f (by decide), if_pos rfl, gd_O hk.1, e1, cI_some]
  change ∃ u', (if bI (aMayP (absM (u (t + 1))) s r x y) = 0 then _ else _) = _ ∧ _
  by_cases hm : aMayP (absM (u (t + 1))) s r x y
  · rw [bI_t hm, if_neg (by decide), if_pos hm]
    obtain ⟨c, hcc⟩ : ∃ c, c = cpy v (t + 1) (t + 2) 0 0 417 := ⟨_, rfl⟩
    have c1 : c (t + 1) = u (t + 1) := (funext fun k => by rw [hcc, cpy_o (by omega)]).trans hvs
    obtain ⟨d, e2, a2, f2⟩ := TM_places (g := g) (u := c) (s := s) (r := r) (x := x) (y := y) hk (by rw [c1]; exact ho) hs hr (by omega) (by omega) (by rw [c1]; exact ⟨ho.2.1.1.1, hn hm⟩) (by rw [c1]; exact mis0_in hs hm.2.2)
    rw [c1] at e2 a2
    have hmd : mOk (d (t + 1)) := mOk_of (by
        have : bdM (d (t + 1)) = (aPut (absM (u (t + 1))) s r x y).bd := congrArg AS.bd a2
        rw [this]
        exact bOk_put (mOk_b ho.1)) (by
        have : bdM (d (t + 1)) = (aPut (absM (u (t + 1))) s r x y).bd := congrArg AS.bd a2
        rw [this]
        exact cOk_put hc ho.2.1.1.1 (by have := ho.2.1.1.2; omega))
    obtain ⟨e, e3, f3⟩ := TM_moves (g := g) (u := d) (p := p) hk hmd hp
    rw [a2] at e3
    have tri : call M_TM_tryOut [vA t] g v = some (0, vN, g, c) := by
      rw [C_TM_tryOut, gd_O hk.1, gd_O hk.1, C_TM_copy, gd_C hk.2.1 h2 (by decide) (by decide) (by decide) (by decide) (by decide) (by decide), cV_some, hcc]
    refine ⟨cpy e (t + 2) (t + 1) 0 0 417, ?_, ?_, fun a k n1 n2 n3 n4 n5 => ?_⟩
    · rw [gd_O hk.1, tri, cV_some]
      simp only [gd_O hk.1, e2, e3, cI_some]
      rw [C_TM_laidBack, gd_O hk.1, gd_O hk.1, C_TM_copy, gd_C h2 hk.2.1 (by decide) (by decide) (by decide) (by decide) (by decide) (by decide), cV_some, cI_some]
    · rw [cpy_o (by omega), f3 t 7 (by omega) (by omega) (by omega), f2 t 7 (by omega) (by omega) (by omega) (by omega), hcc, cpy_o (by omega), v7]
    · by_cases q : a = t + 1
      · subst q
        rw [cpy_q (by omega) (by omega), f3 (t + 2) k (by omega) (by omega) (by omega), f2 (t + 2) k (by omega) (by omega) (by omega) (by omega), hcc, cpy_q (by omega) (by omega), hvs]
      · rw [cpy_o q, f3 a k (by omega) n3 n4, f2 a k (by omega) n3 n4 q, hcc, cpy_o n2, fv a k n1 n3 n4]
  · rw [bI_f hm, if_pos rfl, if_neg hm]
    exact ⟨v, rfl, v7, fun a k n1 n2 n3 n4 n5 => fv a k n1 n3 n4⟩
end
section
variable {g : PG} {u : PM} {t : Nat} {s r x y p : Int}
theorem Fa7 (u : PM) (t : Nat) (v : Int) : Fa t u (up u t 7 v) := fun a k n1 _ _ _ _ => up_n (by omega)
theorem TM_mobilityAfter (hk : kTM g t) (h2 : KA g (t + 2) (2, 0, 417)) (ho : sOk (u (t + 1))) (hc : cOk (absM (u (t + 1))).bd) (hn : aMayP (absM (u (t + 1))) s r x y → (absM (u (t + 1))).n < 32) :
    ((if eAim (bdM (u (t + 1))) s r x y ≠ 0 then eAim (bdM (u (t + 1))) s r x y else ePl p) = 0 → ∃ u', call M_TM_mobilityAfter [vA t, vI s, vI r, vI x, vI y, vI p] g u = some (0, vI (if aMayP (absM (u (t + 1))) s r x y then aMov (aPut (absM (u (t + 1))) s r x y) p else -1), g, u') ∧ u' t 7 = 0 ∧ Fa t u u') ∧
    ((if eAim (bdM (u (t + 1))) s r x y ≠ 0 then eAim (bdM (u (t + 1))) s r x y else ePl p) ≠ 0 → ∃ u', call M_TM_mobilityAfter [vA t, vI s, vI r, vI x, vI y, vI p] g u = some (0, vI 0, g, u') ∧ u' t 7 = ((if eAim (bdM (u (t + 1))) s r x y ≠ 0 then eAim (bdM (u (t + 1))) s r x y else ePl p : Nat) : Int) ∧ Fa t u u') := by
  have k43 : ∀ a b : Int, fC b a 0 ≠ 0 → ∃ u', run M_TM_mobilityAfter 43 [vA t, vI s, vI r, vI x, vI y, vI p, vN] [vI a, vI b, vA t] g u = some (0, vI 0, g, u') ∧ u' t 7 = fC b a 0 ∧ Fa t u u' := by
    intro a b hab
    refine ⟨up u t 7 (fC b a 0), ?_, up_s .., Fa7 _ _ _⟩
    rw [R_TM_mobilityAfter_43, gd_O hk.1, TM_fails hk, cI_some, bI_t hab, if_neg (by decide)]
  have k20 : ∀ b : Int, b = 0 ∨ b = 1 → run M_TM_mobilityAfter 20 [vA t, vI s, vI r, vI x, vI y, vI p, vN] [vI b, vA t] g u = run M_TM_mobilityAfter 43 [vA t, vI s, vI r, vI x, vI y, vI p, vN] [vI (bI (¬ (bIn (bdM (u (t + 1))) x y ∧ 0 ≤ p ∧ p < 2))), vI b, vA t] g u := by
    intro b hb
    rw [R_TM_mobilityAfter_20, gd_O hk.1, TM_isInside hk ho.1, cI_some]
    by_cases h : bIn (bdM (u (t + 1))) x y
    · rw [bI_t h, if_neg (show ¬ (1 : Int) = 0 by decide), TM_noPlayer, cI_some]
      by_cases q : 0 ≤ p ∧ p < 2
      · rw [bI_f (p := ¬ (0 ≤ p ∧ p < 2)) (fun z => z q), if_pos rfl, bI_f (p := ¬ (bIn (bdM (u (t + 1))) x y ∧ 0 ≤ p ∧ p < 2)) (fun z => z ⟨h, q⟩)]
      · rw [bI_t (p := ¬ (0 ≤ p ∧ p < 2)) q, if_neg (show ¬ (1 : Int) = 0 by decide), bI_t (p := ¬ (bIn (bdM (u (t + 1))) x y ∧ 0 ≤ p ∧ p < 2)) (fun z => q z.2)]
    · rw [bI_f h, if_pos rfl, bI_t (p := ¬ (bIn (bdM (u (t + 1))) x y ∧ 0 ≤ p ∧ p < 2)) (fun z => h z.1)]
  rw [C_TM_mobilityAfter, TM_noShape, cI_some, TM_noTurn, cI_some]
  have bad : ∀ q : Int, ∃ u', run M_TM_mobilityAfter 43 [vA t, vI s, vI r, vI x, vI y, vI p, vN] [vI q, vI 1, vA t] g u = some (0, vI 0, g, u') ∧ u' t 7 = 1 ∧ Fa t u u' := fun q => k43 q 1 (show (1 : Int) ≠ 0 by decide)
  by_cases hs : 0 ≤ s ∧ s < 5
  · rw [bI_f (p := ¬ (0 ≤ s ∧ s < 5)) (fun q => q hs), if_pos rfl]
    by_cases hr : 0 ≤ r ∧ r < 4
    · rw [bI_f (p := ¬ (0 ≤ r ∧ r < 4)) (fun q => q hr), if_pos rfl, k20 0 (Or.inl rfl)]
      by_cases hb : bIn (bdM (u (t + 1))) x y
      · have he : eAim (bdM (u (t + 1))) s r x y = 0 := by
          unfold eAim
          rw [if_pos (show (0 ≤ s ∧ s < 5) ∧ 0 ≤ r ∧ r < 4 from ⟨hs, hr⟩), if_pos hb]
        rw [if_neg (show ¬ eAim (bdM (u (t + 1))) s r x y ≠ 0 from fun q => q he)]
        by_cases hp : 0 ≤ p ∧ p < 2
        · have e0 : ePl p = 0 := if_pos hp
          rw [bI_f (p := ¬ (bIn (bdM (u (t + 1))) x y ∧ 0 ≤ p ∧ p < 2)) (fun z => z ⟨hb, hp⟩)]
          exact ⟨fun _ => TM_ma43 hk h2 ho hc hn hs hr hb (by omega), fun q => absurd e0 q⟩
        · have e0 : ePl p = 2 := if_neg hp
          rw [bI_t (p := ¬ (bIn (bdM (u (t + 1))) x y ∧ 0 ≤ p ∧ p < 2)) (fun z => hp z.2), e0]
          exact ⟨fun q => absurd q (by decide), fun _ => k43 1 0 (by decide)⟩
      · have he : eAim (bdM (u (t + 1))) s r x y = 2 := by
          unfold eAim
          rw [if_pos (show (0 ≤ s ∧ s < 5) ∧ 0 ≤ r ∧ r < 4 from ⟨hs, hr⟩), if_neg hb]
        rw [bI_t (p := ¬ (bIn (bdM (u (t + 1))) x y ∧ 0 ≤ p ∧ p < 2)) (fun z => hb z.1), he, if_pos (show (2 : Nat) ≠ 0 by decide)]
        exact ⟨fun q => absurd q (by decide), fun _ => k43 1 0 (by decide)⟩
    · have he : eAim (bdM (u (t + 1))) s r x y = 1 := by
        unfold eAim
        rw [if_neg (show ¬ ((0 ≤ s ∧ s < 5) ∧ 0 ≤ r ∧ r < 4) from fun q => hr q.2)]
      rw [bI_t hr, if_neg (show ¬ (1 : Int) = 0 by decide), k20 1 (Or.inr rfl), he, if_pos (show (1 : Nat) ≠ 0 by decide)]
      exact ⟨fun q => absurd q (by decide), fun _ => bad _⟩
  · have he : eAim (bdM (u (t + 1))) s r x y = 1 := by
      unfold eAim
      rw [if_neg (show ¬ ((0 ≤ s ∧ s < 5) ∧ 0 ≤ r ∧ r < 4) from fun q => hs q.1)]
    rw [bI_t hs, if_neg (show ¬ (1 : Int) = 0 by decide), k20 1 (Or.inr rfl), he, if_pos (show (1 : Nat) ≠ 0 by decide)]
    exact ⟨fun q => absurd q (by decide), fun _ => bad _⟩
end
