/-! ===== the reference's questions about players, pieces and placements ===== -/
section
variable {g : PG} {u : PM} {t : Nat} {s r x y : Int}
theorem TM_noShape (s : Int) : call M_TM_noShape [vI s] g u = some (0, vI (bI (¬ (0 ≤ s ∧ s < 5))), g, u) := by
  rw [C_TM_noShape, TM_isIn, cI_some]
  by_cases h : 0 ≤ s ∧ s ≤ 4
  · rw [bI_t h, if_neg (by decide), bI_f (by omega)]
  · rw [bI_f h, if_pos rfl, bI_t (by omega)]
theorem TM_noTurn (s : Int) : call M_TM_noTurn [vI s] g u = some (0, vI (bI (¬ (0 ≤ s ∧ s < 4))), g, u) := by
  rw [C_TM_noTurn, TM_isIn, cI_some]
  by_cases h : 0 ≤ s ∧ s ≤ 3
  · rw [bI_t h, if_neg (by decide), bI_f (by omega)]
  · rw [bI_f h, if_pos rfl, bI_t (by omega)]
theorem TM_noSide (s : Int) : call M_TM_noSide [vI s] g u = some (0, vI (bI (¬ (0 ≤ s ∧ s < 2))), g, u) := by
  rw [C_TM_noSide, TM_isIn, cI_some]
  by_cases h : 0 ≤ s ∧ s ≤ 1
  · rw [bI_t h, if_neg (by decide), bI_f (by omega)]
  · rw [bI_f h, if_pos rfl, bI_t (by omega)]
theorem TM_noPlayer (s : Int) : call M_TM_noPlayer [vI s] g u = some (0, vI (bI (¬ (0 ≤ s ∧ s < 2))), g, u) := by
  rw [C_TM_noPlayer, TM_isIn, cI_some]
  by_cases h : 0 ≤ s ∧ s ≤ 1
  · rw [bI_t h, if_neg (by decide), bI_f (by omega)]
  · rw [bI_f h, if_pos rfl, bI_t (by omega)]
theorem TM_isEdge (hk : kTM g t) (ho : mOk (u (t + 1))) (x y s : Int) : call M_TM_isEdge [vA t, vI x, vI y, vI s] g u = some (0, vI (bI (bEdge (bdM (u (t + 1))) x y s)), g, u) := by
  rw [C_TM_isEdge, gd_O hk.1, TM_isInside hk ho, cI_some]
  by_cases h : bIn (bdM (u (t + 1))) x y
  · have hb := bIn_bd ho h
    rw [bI_t h, if_neg (by decide)]
    simp only [gd_O hk.1, TM_isInside hk ho, cI_some]
    rw [w_id (x := x + 1) (by omega) (by omega), w_id (x := y + 1) (by omega) (by omega)]
    by_cases hs : s = 0
    · rw [if_pos hs]
      by_cases h2 : bIn (bdM (u (t + 1))) (x + 1) y
      · rw [bI_t h2, if_neg (by decide), bI_t ⟨h, Or.inl ⟨hs, by have := h2.1.2; omega⟩⟩]
      · rw [bI_f h2, if_pos rfl, bI_f fun q => q.2.elim (fun a => h2 ⟨⟨by omega, by omega⟩, h.2⟩) fun a => a.1 hs]
    · rw [if_neg hs]
      by_cases h2 : bIn (bdM (u (t + 1))) x (y + 1)
      · rw [bI_t h2, if_neg (by decide), bI_t ⟨h, Or.inr ⟨hs, by have := h2.2.2; omega⟩⟩]
      · rw [bI_f h2, if_pos rfl, bI_f fun q => q.2.elim (fun a => hs a.1) fun a => h2 ⟨h.1, by omega, by omega⟩]
  · rw [bI_f h, if_pos rfl, bI_f fun q => h q.1]
theorem TM_hasStrap (hk : kTM g t) (ho : mOk (u (t + 1))) (x y s : Int) : AnM g u t (call M_TM_hasStrap [vA t, vI x, vI y, vI s] g u) (eEd (bdM (u (t + 1))) x y s) (if eEd (bdM (u (t + 1))) x y s = 0 then bStrap (bdM (u (t + 1))) x y s else 0) := by
  rw [C_TM_hasStrap, TM_noSide, cI_some, gd_O hk.1, TM_isEdge hk ho, cI_some]
  unfold eEd
  by_cases hs : 0 ≤ s ∧ s < 2
  · rw [bI_f (p := ¬ (0 ≤ s ∧ s < 2)) (fun q => q hs), if_pos hs]
    by_cases h : bEdge (bdM (u (t + 1))) x y s
    · have hb := bIn_bd ho h.1
      have hm := ho.2.2.2 (64 * s + (8 * y + x)) (by omega) (by omega)
      refine ⟨up u t 7 0, ?_, by rw [up_s, if_pos h]; rfl, Fm7 _ _ _⟩
      rw [bI_t h, if_neg (by decide), R_TM_hasStrap_20, gd_O hk.1, TM_fails hk, cI_some, show fC 0 0 0 = 0 from rfl, bI_f (by decide), if_pos rfl, gd_O hk.1, TM_edge hb.1 hb.2 (by omega), cI_some, gd_R hk.2.1 (by omega) (by omega), up_o (by omega), if_pos h, if_pos rfl, bdM_strap ho h.1 hs.1 hs.2]
      rcases hm with e | e
      · rw [e, if_neg (by decide)]
      · rw [e, if_pos rfl]
    · refine ⟨up u t 7 2, ?_, by rw [up_s, if_neg h]; rfl, Fm7 _ _ _⟩
      rw [bI_f h, if_pos rfl, R_TM_hasStrap_20, gd_O hk.1, TM_fails hk, cI_some, show fC 0 1 0 = 2 from rfl, bI_t (by decide), if_neg (by decide), if_neg h, if_neg (by decide)]
  · rw [bI_t hs, if_neg hs]
    refine ⟨up u t 7 1, ?_, by rw [up_s]; rfl, Fm7 _ _ _⟩
    have key : ∀ e : Int, run M_TM_hasStrap 20 [vA t, vI x, vI y, vI s] [vI e, vI 1, vA t] g u = some (0, vI 0, g, up u t 7 1) := fun e => by
      rw [R_TM_hasStrap_20, gd_O hk.1, TM_fails hk, cI_some, show fC 1 e 0 = 1 from rfl, bI_t (by decide), if_neg (by decide)]
    rw [key, key]
    split <;> rfl
theorem mv_or {p : Int} (h : ePl p = 0) : p = 0 ∨ p = 1 := by
  unfold ePl at h
  by_cases q : 0 ≤ p ∧ p < 2
  · omega
  · rw [if_neg q] at h; cases h
theorem TM_score (hk : kTM g t) (p : Int) : AnM g u t (call M_TM_score [vA t, vI p] g u) (bI (ePl p ≠ 0)) (if ePl p = 0 then (aPl (absM (u (t + 1))) p).1 else 0) := by
  rw [C_TM_score, TM_noPlayer, cI_some, gd_O hk.1, TM_fails hk, cI_some]
  by_cases h : ePl p = 0
  · have hp := mv_or h
    refine ⟨up u t 7 0, ?_, by rw [up_s, bI_f (p := ePl p ≠ 0) fun q => q h], Fm7 _ _ _⟩
    rw [bI_f (p := ¬ (0 ≤ p ∧ p < 2)) (fun q => q (by omega)), show fC 0 0 0 = 0 from rfl, bI_f (by decide), if_pos rfl, gd_O hk.1, TM_of hk hp (by decide) (by decide), cI_some, up7s, if_pos h, aPl_M hp, Int.add_zero]
    rfl
  · have hp : ¬ (0 ≤ p ∧ p < 2) := fun q => h (if_pos q)
    refine ⟨up u t 7 1, ?_, by rw [up_s, bI_t h], Fm7 _ _ _⟩
    rw [bI_t hp, show fC 1 0 0 = 1 from rfl, bI_t (by decide), if_neg (by decide), if_neg h]
theorem TM_strapsLeft (hk : kTM g t) (p : Int) : AnM g u t (call M_TM_strapsLeft [vA t, vI p] g u) (bI (ePl p ≠ 0)) (if ePl p = 0 then (aPl (absM (u (t + 1))) p).2.1 else 0) := by
  rw [C_TM_strapsLeft, TM_noPlayer, cI_some, gd_O hk.1, TM_fails hk, cI_some]
  by_cases h : ePl p = 0
  · have hp := mv_or h
    refine ⟨up u t 7 0, ?_, by rw [up_s, bI_f (p := ePl p ≠ 0) fun q => q h], Fm7 _ _ _⟩
    rw [bI_f (p := ¬ (0 ≤ p ∧ p < 2)) (fun q => q (by omega)), show fC 0 0 0 = 0 from rfl, bI_f (by decide), if_pos rfl, gd_O hk.1, TM_of hk hp (by decide) (by decide), cI_some, up7s, if_pos h, aPl_M hp]
    rfl
  · have hp : ¬ (0 ≤ p ∧ p < 2) := fun q => h (if_pos q)
    refine ⟨up u t 7 1, ?_, by rw [up_s, bI_t h], Fm7 _ _ _⟩
    rw [bI_t hp, show fC 1 0 0 = 1 from rfl, bI_t (by decide), if_neg (by decide), if_neg h]
theorem TM_supply (hk : kTM g t) (p s : Int) : AnM g u t (call M_TM_supply [vA t, vI p, vI s] g u) (if ePl p ≠ 0 then 1 else if eSh s ≠ 0 then 2 else 0) (if ePl p = 0 ∧ eSh s = 0 then (aPl (absM (u (t + 1))) p).2.2.2.1 s else 0) := by
  rw [C_TM_supply, TM_noPlayer, cI_some, TM_noShape, cI_some, gd_O hk.1, TM_fails hk, cI_some]
  by_cases h : ePl p = 0
  · have hp := mv_or h
    rw [bI_f (p := ¬ (0 ≤ p ∧ p < 2)) (fun q => q (by omega))]
    by_cases hs : 0 ≤ s ∧ s < 5
    · have hs' : eSh s = 0 := if_pos hs
      refine ⟨up u t 7 0, ?_, by rw [up_s, if_neg (show ¬ ePl p ≠ 0 from fun q => q h), if_neg (show ¬ eSh s ≠ 0 from fun q => q hs')], Fm7 _ _ _⟩
      rw [bI_f (p := ¬ (0 ≤ s ∧ s < 5)) (fun q => q hs), show fC 0 0 0 = 0 from rfl, bI_f (by decide), if_pos rfl, gd_O hk.1, w_id (x := 2 + s) (by omega) (by omega), TM_of hk hp (by omega) (by omega), cI_some, up7s, if_pos ⟨h, hs'⟩, aPl_M hp]
      show _ = some (0, vI (cl 5 (fun k => u (t + 1) (5 + 14 * p + 2 + k)) s), g, up u t 7 0)
      rw [cl_in hs.1 hs.2, show 5 + 14 * p + (2 + s) = 5 + 14 * p + 2 + s by omega]
    · have hs' : eSh s ≠ 0 := by unfold eSh; rw [if_neg hs]; decide
      refine ⟨up u t 7 2, ?_, by rw [up_s, if_neg (show ¬ ePl p ≠ 0 from fun q => q h), if_pos hs'], Fm7 _ _ _⟩
      rw [bI_t hs, show fC 0 1 0 = 2 from rfl, bI_t (by decide), if_neg (by decide), if_neg fun q => hs' q.2]
  · have hp : ¬ (0 ≤ p ∧ p < 2) := fun q => h (if_pos q)
    refine ⟨up u t 7 1, ?_, by rw [up_s, if_pos h], Fm7 _ _ _⟩
    rw [bI_t hp, show ∀ e : Int, fC 1 e 0 = 1 from fun e => rfl, bI_t (by decide), if_neg (by decide), if_neg fun q => h q.1]
theorem TM_nameByte (hk : kTM g t) (hn : nOk (absM (u (t + 1)))) (p i : Int) : AnM g u t (call M_TM_nameByte [vA t, vI p, vI i] g u) (bI (ePl p ≠ 0)) (if ePl p = 0 then if 0 ≤ i ∧ i < (aPl (absM (u (t + 1))) p).2.2.1 then (aPl (absM (u (t + 1))) p).2.2.2.2 i else -1 else 0) := by
  rw [C_TM_nameByte, TM_noPlayer, cI_some, gd_O hk.1, TM_fails hk, cI_some]
  by_cases h : ePl p = 0
  · have hp := mv_or h
    have h6 : 0 ≤ u (t + 1) (5 + 14 * p + 7) ∧ u (t + 1) (5 + 14 * p + 7) ≤ 6 := by
      rcases hp with rfl | rfl
      · exact hn.2.1
      · exact hn.2.2
    refine ⟨up u t 7 0, ?_, by rw [up_s, bI_f (p := ePl p ≠ 0) fun q => q h], Fm7 _ _ _⟩
    rw [bI_f (p := ¬ (0 ≤ p ∧ p < 2)) (fun q => q (by omega)), show fC 0 0 0 = 0 from rfl, bI_f (by decide), if_pos rfl, gd_O hk.1, TM_of hk hp (by decide) (by decide), cI_some, TM_isIn, cI_some, up7s, if_pos h, aPl_M hp, w_id (x := u (t + 1) (5 + 14 * p + 7) - 1) (by omega) (by omega)]
    show _ = some (0, vI (if 0 ≤ i ∧ i < u (t + 1) (5 + 14 * p + 7) then cl (u (t + 1) (5 + 14 * p + 7)) (fun k => u (t + 1) (5 + 14 * p + 8 + k)) i else -1), g, up u t 7 0)
    by_cases hi : 0 ≤ i ∧ i < u (t + 1) (5 + 14 * p + 7)
    · rw [bI_t (show 0 ≤ i ∧ i ≤ u (t + 1) (5 + 14 * p + 7) - 1 by omega), if_neg (by decide), gd_O hk.1, w_id (x := 8 + i) (by omega) (by omega), TM_of hk hp (by omega) (by omega), cI_some, if_pos hi, cl_in hi.1 hi.2, up7s, show 5 + 14 * p + (8 + i) = 5 + 14 * p + 8 + i by omega]
    · rw [bI_f (show ¬ (0 ≤ i ∧ i ≤ u (t + 1) (5 + 14 * p + 7) - 1) by omega), if_pos rfl, if_neg hi]
  · have hp : ¬ (0 ≤ p ∧ p < 2) := fun q => h (if_pos q)
    refine ⟨up u t 7 1, ?_, by rw [up_s, bI_t h], Fm7 _ _ _⟩
    rw [bI_t hp, show fC 1 0 0 = 1 from rfl, bI_t (by decide), if_neg (by decide), if_neg h]
theorem TM_isBad (hk : kTM g t) (ho : mOk (u (t + 1))) (s r x y : Int) : call M_TM_isBad [vA t, vI s, vI r, vI x, vI y] g u = some (0, vI (bI (eAim (bdM (u (t + 1))) s r x y ≠ 0)), g, up u t 7 (eAim (bdM (u (t + 1))) s r x y)) := by
  rw [C_TM_isBad, TM_noShape, cI_some, TM_noTurn, cI_some]
  unfold eAim
  have key : ∀ e : Int, run M_TM_isBad 20 [vA t, vI s, vI r, vI x, vI y] [vI e, vA t] g u = some (0, vI (bI (fC e (bI (¬ bIn (bdM (u (t + 1))) x y)) 0 ≠ 0)), g, up u t 7 (fC e (bI (¬ bIn (bdM (u (t + 1))) x y)) 0)) := by
    intro e
    rw [R_TM_isBad_20, gd_O hk.1, TM_isInside hk ho, cI_some]
    have k2 : ∀ q : Int, run M_TM_isBad 35 [vA t, vI s, vI r, vI x, vI y] [vI q, vI e, vA t] g u = some (0, vI (bI (fC e q 0 ≠ 0)), g, up u t 7 (fC e q 0)) := fun q => by
      rw [R_TM_isBad_35, gd_O hk.1, TM_fails hk, cI_some, b01_bI, cond_true]
    by_cases h : bIn (bdM (u (t + 1))) x y
    · rw [bI_t h, if_neg (by decide), k2, bI_f (p := ¬ bIn (bdM (u (t + 1))) x y) fun q => q h]
    · rw [bI_f h, if_pos rfl, k2, bI_t h]
  by_cases hs : 0 ≤ s ∧ s < 5
  · rw [bI_f (p := ¬ (0 ≤ s ∧ s < 5)) (fun q => q hs), if_pos rfl]
    by_cases hr : 0 ≤ r ∧ r < 4
    · rw [bI_f (p := ¬ (0 ≤ r ∧ r < 4)) (fun q => q hr), if_pos rfl, key, if_pos (show (0 ≤ s ∧ s < 5) ∧ 0 ≤ r ∧ r < 4 from ⟨hs, hr⟩)]
      by_cases h : bIn (bdM (u (t + 1))) x y
      · rw [bI_f (p := ¬ bIn (bdM (u (t + 1))) x y) (fun q => q h), if_pos h]; rfl
      · rw [bI_t h, if_neg h]; rfl
    · rw [bI_t hr, if_neg (by decide), key, if_neg (show ¬ ((0 ≤ s ∧ s < 5) ∧ 0 ≤ r ∧ r < 4) from fun q => hr q.2)]; rfl
  · rw [bI_t hs, if_neg (by decide), key, if_neg (show ¬ ((0 ≤ s ∧ s < 5) ∧ 0 ≤ r ∧ r < 4) from fun q => hs q.1)]; rfl
theorem eAim_ok {B : Bd} (h : eAim B s r x y = 0) : (0 ≤ s ∧ s < 5) ∧ (0 ≤ r ∧ r < 4) ∧ bIn B x y := by
  unfold eAim at h
  by_cases h1 : (0 ≤ s ∧ s < 5) ∧ 0 ≤ r ∧ r < 4
  · rw [if_pos h1] at h
    by_cases h2 : bIn B x y
    · exact ⟨h1.1, h1.2, h2⟩
    · rw [if_neg h2] at h; cases h
  · rw [if_neg h1] at h; cases h
end
