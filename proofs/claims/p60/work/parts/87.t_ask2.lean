/-! ===== the class's questions about players, pieces and placements ===== -/
section
variable {g : PG} {u : PM} {t : Nat} {s r x y : Int}
theorem ex_pass {e : Nat} {v : PV} {g : PG} {u : PM} (he : e ≠ 0) (k : PG → PM → Option PO) (h : Nat → PG → PM → Option PO) : cV (some (e, v, g, u)) k h = h (e - 1) g u := by
  obtain ⟨n, rfl⟩ : ∃ n, e = n + 1 := ⟨e - 1, by omega⟩
  rfl
theorem TD_leader (hk : kTD g t) : AnT g u t (call M_TD_leader [vA t] g u) 0 (if w ((absT u (t + 26)).p0.1 - (absT u (t + 26)).p1.1) = 0 then -1 else if 0 < w ((absT u (t + 26)).p0.1 - (absT u (t + 26)).p1.1) then 0 else 1) := by
  refine ⟨u, Fr.rfl', ?_⟩
  rw [C_TD_leader]
  simp only [gd_O hk.1, gd_O hk.2.1.1, gd_O hk.2.1.2.2.2.1.1, gd_O hk.2.1.2.2.2.2.1]
  show (if w (u (t + 26 + 11) 0 - u (t + 26 + 14) 0) = 0 then _ else if 0 < w (u (t + 26 + 11) 0 - u (t + 26 + 14) 0) then _ else _) = some (0, vI (if w (u (t + 26 + 11) 0 - u (t + 26 + 14) 0) = 0 then -1 else if 0 < w (u (t + 26 + 11) 0 - u (t + 26 + 14) 0) then 0 else 1), g, u)
  by_cases h : w (u (t + 26 + 11) 0 - u (t + 26 + 14) 0) = 0
  · rw [if_pos h, if_pos h]
  · rw [if_neg h, if_neg h]
    by_cases h2 : 0 < w (u (t + 26 + 11) 0 - u (t + 26 + 14) 0)
    · rw [if_pos h2, if_pos h2]
    · rw [if_neg h2, if_neg h2]
theorem TD_score (hk : kTD g t) (p : Int) : AnT g u t (call M_TD_score [vA t, vI p] g u) (ePl p) (aPl (absT u (t + 26)) p).1 := by
  refine ⟨u, Fr.rfl', ?_⟩
  rw [C_TD_score, TD_player, aPl_T]
  by_cases he : ePl p = 0
  · rw [if_pos he, if_pos he, cV_some, gd_O hk.1, gd_O hk.2.1.1, St_playerOf hk.2.1, cR_some, gd_O (kPl_pAd hk.2.1 p).1]
    rfl
  · rw [if_neg he, if_neg he, ex_pass he, show ePl p - 1 + 1 = ePl p by omega]
theorem TD_strapsLeft (hk : kTD g t) (p : Int) : AnT g u t (call M_TD_strapsLeft [vA t, vI p] g u) (ePl p) (aPl (absT u (t + 26)) p).2.1 := by
  refine ⟨u, Fr.rfl', ?_⟩
  rw [C_TD_strapsLeft, TD_player, aPl_T]
  by_cases he : ePl p = 0
  · rw [if_pos he, if_pos he, cV_some, gd_O hk.1, gd_O hk.2.1.1, St_playerOf hk.2.1, cR_some, gd_O (kPl_pAd hk.2.1 p).1]
    rfl
  · rw [if_neg he, if_neg he, ex_pass he, show ePl p - 1 + 1 = ePl p by omega]
theorem TD_supply (hk : kTD g t) (p s : Int) : AnT g u t (call M_TD_supply [vA t, vI p, vI s] g u) (if ePl p = 0 then eSh s else ePl p) ((aPl (absT u (t + 26)) p).2.2.2.1 s) := by
  refine ⟨u, Fr.rfl', ?_⟩
  rw [C_TD_supply, TD_player, aPl_T]
  by_cases he : ePl p = 0
  · rw [if_pos he, if_pos he, cV_some, TD_shape]
    by_cases hs : eSh s = 0
    · rw [if_pos hs, if_pos hs, cV_some, gd_O hk.1, gd_O hk.2.1.1, St_playerOf hk.2.1, cR_some, gd_O (kPl_pAd hk.2.1 p).1, Pl_supplyOf (kPl_pAd hk.2.1 p), cI_some]
    · rw [if_neg hs, if_neg hs, ex_pass hs, show eSh s - 1 + 1 = eSh s by omega]
  · rw [if_neg he, if_neg he, if_neg he, ex_pass he, show ePl p - 1 + 1 = ePl p by omega]
/-- what the class's present state stands on -/
def pOk2 (g : PG) (u : PM) (t : Nat) : Prop := kTD g t ∧ bOk (absT u (t + 26)).bd ∧ nOk (absT u (t + 26)) ∧ RO u
theorem pOk2.sq (h : pOk2 g u t) : SQ g u (t + 26) (t + 234) := by
  have := h.1.2.2.2
  exact ⟨h.1.2.1, h.1.2.2.1, by omega, by omega, h.2.1, h.2.2.2⟩
theorem aim_qok {u' : PM} (h : pOk2 g u t) (f : Fr (t + 234) u u') (hA : FpAt u' (t + 234) s r x y) (hs : 0 ≤ s ∧ s < 5) (hr : 0 ≤ r ∧ r < 4) (hb : bIn (bdT u (t + 26 + 1)) x y) : QOk g u' (t + 26 + 1) (t + 234) s r x y ∧ bdT u' (t + 26 + 1) = bdT u (t + 26 + 1) := by
  obtain ⟨hq, e⟩ := h.sq.fr f
  have e' : bdT u' (t + 26 + 1) = bdT u (t + 26 + 1) := congrArg AS.bd e
  have c1 : (bdT u (t + 26 + 1)).1 ≤ 8 := h.2.1.1.2
  have c2 : (bdT u (t + 26 + 1)).2.1 ≤ 8 := h.2.1.2.1.2
  obtain ⟨⟨b1, b2⟩, b3, b4⟩ := hb
  exact ⟨⟨h.1.2.1.2.1, tOk_of hq.2.2.2.2.1, h.1.2.2.1, hA, hs, hr, ⟨by omega, by omega⟩, by omega, by omega⟩, e'⟩
theorem TD_fits (h : pOk2 g u t) (s r x y : Int) : AnT g u t (call M_TD_fits [vA t, vI s, vI r, vI x, vI y] g u) (eAim (bdT u (t + 26 + 1)) s r x y) (bI (bMis (bdT u (t + 26 + 1)) s r x y = 0)) := by
  obtain ⟨u', f, e1, h1⟩ := TD_aimAt (u := u) h.1 h.2.2.2 s r x y
  refine ⟨u', f, ?_⟩
  rw [C_TD_fits, gd_O h.1.1, e1]
  by_cases he : eAim (bdT u (t + 26 + 1)) s r x y = 0
  · obtain ⟨hA, hs, hr, hb⟩ := h1 he
    obtain ⟨hq, eb⟩ := aim_qok h f hA hs hr hb
    rw [if_pos he, if_pos he, cV_some]
    simp only [gd_O h.1.1, gd_O h.1.2.1.1, gd_O h.1.2.1.2.1.1, Tk_misfitOf hq, cI_some]
    rw [eb]
    by_cases hm : bMis (bdT u (t + 26 + 1)) s r x y = 0
    · rw [if_pos hm, bI_t hm]
    · rw [if_neg hm, bI_f hm]
  · rw [if_neg he, if_neg he, ex_pass he, show eAim (bdT u (t + 26 + 1)) s r x y - 1 + 1 = eAim (bdT u (t + 26 + 1)) s r x y by omega]
theorem TD_misfitReason (h : pOk2 g u t) (s r x y : Int) : AnT g u t (call M_TD_misfitReason [vA t, vI s, vI r, vI x, vI y] g u) (eAim (bdT u (t + 26 + 1)) s r x y) (bMis (bdT u (t + 26 + 1)) s r x y) := by
  obtain ⟨u', f, e1, h1⟩ := TD_aimAt (u := u) h.1 h.2.2.2 s r x y
  refine ⟨u', f, ?_⟩
  rw [C_TD_misfitReason, gd_O h.1.1, e1]
  by_cases he : eAim (bdT u (t + 26 + 1)) s r x y = 0
  · obtain ⟨hA, hs, hr, hb⟩ := h1 he
    obtain ⟨hq, eb⟩ := aim_qok h f hA hs hr hb
    rw [if_pos he, if_pos he, cV_some]
    simp only [gd_O h.1.1, gd_O h.1.2.1.1, gd_O h.1.2.1.2.1.1, Tk_misfitOf hq, cI_some]
    rw [eb]
  · rw [if_neg he, if_neg he, ex_pass he, show eAim (bdT u (t + 26 + 1)) s r x y - 1 + 1 = eAim (bdT u (t + 26 + 1)) s r x y by omega]
theorem TD_pointsFor (h : pOk2 g u t) (s r x y : Int) : AnT g u t (call M_TD_pointsFor [vA t, vI s, vI r, vI x, vI y] g u) (eAim (bdT u (t + 26 + 1)) s r x y) (if bMis (bdT u (t + 26 + 1)) s r x y = 0 then bPts (bdT u (t + 26 + 1)) s r y else -1) := by
  obtain ⟨u', f, e1, h1⟩ := TD_aimAt (u := u) h.1 h.2.2.2 s r x y
  refine ⟨u', f, ?_⟩
  rw [C_TD_pointsFor, gd_O h.1.1, e1]
  by_cases he : eAim (bdT u (t + 26 + 1)) s r x y = 0
  · obtain ⟨hA, hs, hr, hb⟩ := h1 he
    obtain ⟨hq, eb⟩ := aim_qok h f hA hs hr hb
    rw [if_pos he, if_pos he, cV_some]
    simp only [gd_O h.1.1, gd_O h.1.2.1.1, gd_O h.1.2.1.2.1.1, Tk_misfitOf hq, Tk_pointsOf hq, cI_some]
    rw [eb]
    by_cases hm : bMis (bdT u (t + 26 + 1)) s r x y = 0
    · rw [if_pos hm, if_pos hm]
    · rw [if_neg hm, if_neg hm]
  · rw [if_neg he, if_neg he, ex_pass he, show eAim (bdT u (t + 26 + 1)) s r x y - 1 + 1 = eAim (bdT u (t + 26 + 1)) s r x y by omega]
theorem TD_mobility (h : pOk2 g u t) (p : Int) : AnT g u t (call M_TD_mobility [vA t, vI p] g u) (ePl p) (aMov (absT u (t + 26)) p) := by
  by_cases he : ePl p = 0
  · obtain ⟨u', e1, f⟩ := St_countMoves h.sq p
    refine ⟨u', f, ?_⟩
    rw [C_TD_mobility, TD_player, if_pos he, if_pos he, cV_some]
    simp only [gd_O h.1.1, gd_O h.1.2.1.1, e1, cI_some]
  · refine ⟨u, Fr.rfl', ?_⟩
    rw [C_TD_mobility, TD_player, if_neg he, if_neg he, ex_pass he, show ePl p - 1 + 1 = ePl p by omega]
end
