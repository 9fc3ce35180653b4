/-! ===== the class's survey: one region is gone through ===== -/
def kRg (g : PG) (t : Nat) : Prop := KA g t (1, 7, 0) ∧ KA g (t + 1) (2, 0, 64) ∧ KA g (t + 2) (2, 0, 64) ∧ KA g (t + 3) (2, 0, 64)
def LQ (B : Bd) (u : PM) (t : Nat) (L0 : Int → Int) (s i : Int) : Prop :=
  (0 ≤ u t 0 ∧ u t 0 < 64) ∧ (u t 4 = sumI (fun k => bI (u (t + 1) k = u t 0)) 64) ∧ (0 ≤ i ∧ i ≤ u t 4) ∧
  (∀ j : Int, 0 ≤ j → j < u t 4 → eC B (u (t + 3) j) ∧ u (t + 1) (u (t + 3) j) = u t 0 ∧ cn B (u (t + 3) j) s) ∧
  (∀ k : Int, 0 ≤ k → k < 64 → u (t + 1) k = L0 k ∨ (u (t + 1) k = u t 0 ∧ L0 k = -1 ∧ ∃ j : Int, (0 ≤ j ∧ j < u t 4) ∧ u (t + 3) j = k)) ∧
  (∀ j : Int, 0 ≤ j → j < i → ∀ d : Int, (adj B (u (t + 3) j) d ∨ adj B d (u (t + 3) j)) → u (t + 1) d ≠ -1)
/-- more is labelled -/
def Ex (t : Nat) (u v : PM) : Prop := (∀ k : Int, u (t + 1) k ≠ -1 → v (t + 1) k = u (t + 1) k) ∧ (∀ j : Int, 0 ≤ j → j < u t 4 → v (t + 3) j = u (t + 3) j) ∧ u t 4 ≤ v t 4 ∧ v t 0 = u t 0 ∧ ∀ (a : Nat) (k : Int), ¬ (a = t ∧ k = 4) → a ≠ t + 1 → a ≠ t + 3 → v a k = u a k
theorem Ex.rfl' {t : Nat} {u : PM} : Ex t u u := ⟨fun _ _ => rfl, fun _ _ _ => rfl, Int.le_refl _, rfl, fun _ _ _ _ _ => rfl⟩
theorem Ex.tr {t : Nat} {u v x : PM} (h : Ex t u v) (h' : Ex t v x) : Ex t u x := by
  obtain ⟨a1, a2, a3, a4, a5⟩ := h
  obtain ⟨b1, b2, b3, b4, b5⟩ := h'
  refine ⟨fun k hk => ?_, fun j j0 j1 => ?_, Int.le_trans a3 b3, b4.trans a4, fun a k h1 h2 h3 => (b5 a k h1 h2 h3).trans (a5 a k h1 h2 h3)⟩
  · rw [b1 k (by rw [a1 k hk]; exact hk), a1 k hk]
  · rw [b2 j j0 (by omega), a2 j j0 j1]
theorem bIn_of {B : Bd} {x y : Int} (h : bCell B x y = -1) : bIn B x y := by
  by_cases q : bIn B x y
  · exact q
  · unfold bCell at h
    rw [if_neg q] at h
    omega
section
variable {g : PG} {u : PM} {t p : Nat} {x y s i : Int} {L0 : Int → Int}
theorem Rg_reach (hk : kRg g t) (hT : kTk g p) (hB : bOk (bdT u p)) (h : LQ (bdT u p) u t L0 s i) (hc : bCell (bdT u p) x y = -1 → cn (bdT u p) (8 * y + x) s) :
    ∃ v, call M_Rg_reach [vA t, vI x, vI y, vA p] g u = some (0, vN, g, v) ∧ LQ (bdT u p) v t L0 s i ∧ (bCell (bdT u p) x y = -1 → v (t + 1) (8 * y + x) ≠ -1) ∧ (¬ (bCell (bdT u p) x y = -1 ∧ u (t + 1) (8 * y + x) = -1) → v = u) ∧ Ex t u v := by
  have hBT := hB
  obtain ⟨⟨c0, c1⟩, ⟨r0, r1⟩, -⟩ := hB
  rw [C_Rg_reach, gd_O hT.1, Tk_cellAt2 hT (tOk_of hBT), cI_some]
  by_cases e1 : bCell (bdT u p) x y = -1
  · have hin := bIn_of e1
    have hx : (0 ≤ x ∧ x < 8) ∧ 0 ≤ y ∧ y < 8 := by
      obtain ⟨⟨a1, a2⟩, a3, a4⟩ := hin
      omega
    rw [if_pos e1, gd_O hk.1, w8 hx.1.1 hx.1.2 hx.2.1 hx.2.2]
    by_cases e2 : u (t + 1) (8 * y + x) = -1
    · have hQ := h
      obtain ⟨⟨n0, n1⟩, hm, ⟨i0, i1⟩, q1, q2, q3⟩ := hQ
      have hlt : u t 4 < 64 := by
        rw [hm]
        have := sumI_lt (f := fun k => bI (u (t + 1) k = u t 0)) (f' := fun _ => 1) (n := 64) (fun k _ _ => (bI_bd _).2) ⟨8 * y + x, by omega, by
          show bI (u (t + 1) (8 * y + x) = u t 0) < 1
          rw [bI_f (by omega)]
          decide⟩
        have e : sumI (fun _ => (1 : Int)) 64 = 64 := rfl
        omega
      obtain ⟨v, hv⟩ : ∃ v, v = up (up (up u (t + 1) (8 * y + x) (u t 0)) (t + 3) (u t 4) (8 * y + x)) t 4 (u t 4 + 1) := ⟨_, rfl⟩
      have v0 : v t 0 = u t 0 := by
        rw [hv]
        simp (disch := omega) only [up_o, up_j]
      have v4 : v t 4 = u t 4 + 1 := by rw [hv, up_s]
      have v1 : v (t + 1) = setI (u (t + 1)) (8 * y + x) (u t 0) := by
        rw [hv]
        funext k
        rw [up_o (by omega), up_o (by omega), up_set]
      have v3 : v (t + 3) = setI (u (t + 3)) (u t 4) (8 * y + x) := by
        rw [hv]
        funext k
        rw [up_o (by omega), up_set, show up u (t + 1) (8 * y + x) (u t 0) (t + 3) = u (t + 3) from funext fun k => up_o (by omega)]
      refine ⟨v, ?_, ⟨by rw [v0]; exact ⟨n0, n1⟩, ?_, ⟨i0, by omega⟩, fun j j0 j1 => ?_, fun k k0 k1 => ?_, fun j j0 j1 d hd => ?_⟩, fun _ => ?_, fun q => absurd ⟨e1, e2⟩ q, fun k hk1 => ?_, fun j j0 j1 => ?_, by omega, v0, fun a k z1 z2 z3 => by rw [hv, up_n z1, up_o z3, up_o z2]⟩
      · rw [if_pos hlt, if_neg (by omega), if_pos (by omega), gd_O hk.1, gd_R hk.2.1 (by omega) (by omega), if_pos e2]
        simp only [gd_O hk.1]
        rw [gd_W hk.2.1 (by omega) (by omega), show up u (t + 1) (8 * y + x) (u t 0) t 4 = u t 4 from up_o (by omega), gd_W hk.2.2.2 (by omega) (by omega), show up (up u (t + 1) (8 * y + x) (u t 0)) (t + 3) (u t 4) (8 * y + x) t 4 = u t 4 by rw [up_o (by omega), up_o (by omega)], w_id (by omega) (by omega), hv]
      · rw [v4, v0, v1, sumI_set (f := fun k => bI (u (t + 1) k = u t 0)) (m := 8 * y + x) (n := 64) (by omega) (by omega) (fun k _ _ hk => by rw [setI_o hk]), ← hm, setI_s, bI_f (p := u (t + 1) (8 * y + x) = u t 0) (by omega), bI_t rfl]
        omega
      · rw [v3, v1, v0]
        by_cases e : j = u t 4
        · rw [e, setI_s, setI_s]
          exact ⟨(eC_xy hx.1.1 hx.1.2).mpr e1, rfl, hc e1⟩
        · rw [setI_o e]
          obtain ⟨z1, z2, z3⟩ := q1 j j0 (by omega)
          refine ⟨z1, ?_, z3⟩
          by_cases e' : u (t + 3) j = 8 * y + x
          · rw [e', setI_s]
          · rw [setI_o e', z2]
      · rw [v1, v0, v3, v4]
        by_cases e : k = 8 * y + x
        · right
          rw [e, setI_s]
          refine ⟨rfl, ?_, u t 4, by omega, setI_s ..⟩
          rcases q2 (8 * y + x) (by omega) (by omega) with z | ⟨z, -⟩
          · omega
          · omega
        · rw [setI_o e]
          rcases q2 k k0 k1 with z | ⟨z1, z2, j, z3, z4⟩
          · exact Or.inl z
          · exact Or.inr ⟨z1, z2, j, by omega, by rw [setI_o (by omega)]; exact z4⟩
      · rw [v3, setI_o (by omega)] at hd
        have := q3 j j0 j1 d hd
        rw [v1]
        by_cases e : d = 8 * y + x
        · rw [e, setI_s]; omega
        · rw [setI_o e]; exact this
      · rw [v1, setI_s]; omega
      · rw [v1]
        by_cases e : k = 8 * y + x
        · rw [e] at hk1; exact absurd e2 hk1
        · rw [setI_o e]
      · rw [v3, setI_o (by omega)]
    · refine ⟨u, ?_, h, fun _ => e2, fun _ => rfl, Ex.rfl'⟩
      by_cases hlt : u t 4 < 64
      · rw [if_pos hlt, if_neg (by omega), if_pos (by omega), gd_O hk.1, gd_R hk.2.1 (by omega) (by omega), if_neg e2]
      · rw [if_neg hlt]
  · rw [if_neg e1]
    exact ⟨u, rfl, h, fun q => absurd q e1, fun _ => rfl, Ex.rfl'⟩
theorem Ex.bd {v : PM} (h : Ex t u v) (dj : p + 2 < t ∨ t + 3 < p) : bdT v p = bdT u p := bdT_eq fun a k h1 h2 => h.2.2.2.2 a k (by omega) (by omega) (by omega)
theorem Rg_try (hk : kRg g t) (hT : kTk g p) {B : Bd} (hb : bdT u p = B) (hB : bOk B) (h : LQ B u t L0 s i) (sx sy ss : Int) (hc : bStrap B sx sy ss = 0 → bCell B x y = -1 → cn B (8 * y + x) s) :
    ∃ v, (bStrap B sx sy ss = 0 → call M_Rg_reach [vA t, vI x, vI y, vA p] g u = some (0, vN, g, v)) ∧ (¬ bStrap B sx sy ss = 0 → v = u) ∧ LQ B v t L0 s i ∧ (bStrap B sx sy ss = 0 → bCell B x y = -1 → v (t + 1) (8 * y + x) ≠ -1) ∧ Ex t u v := by
  subst hb
  by_cases q : bStrap (bdT u p) sx sy ss = 0
  · obtain ⟨v, e1, h1, n1, -, x1⟩ := Rg_reach (x := x) (y := y) hk hT hB h (hc q)
    exact ⟨v, fun _ => e1, fun z => absurd q z, h1, fun _ => n1, x1⟩
  · exact ⟨u, fun z => absurd z q, fun _ => rfl, h, fun z => absurd z q, Ex.rfl'⟩
theorem rd8 : ∀ n : Nat, n < 64 → rem2 n 8 = ((n % 8 : Nat) : Int) ∧ div2 n 8 = ((n / 8 : Nat) : Int) := by decide +kernel
theorem rd8i {c : Int} (h0 : 0 ≤ c) (h1 : c < 64) : rem2 c 8 = c % 8 ∧ div2 c 8 = c / 8 := by
  have := rd8 c.toNat (by omega)
  rw [show ((c.toNat : Nat) : Int) = c by omega] at this
  omega
theorem Rg_sf15 (hk : kRg g t) (hT : kTk g p) (dj : p + 2 < t ∨ t + 3 < p) {B : Bd} (hB : bOk B) (a1 a2 : Int) : ∀ (d : Nat) (i : Int) (u : PM), i + d = 64 → bdT u p = B → LQ B u t L0 s i →
    ∃ v j, run M_Rg_spreadFrom 15 [vA t, vI a1, vI a2, vA p, vI i, vN, vN] [] g u = run M_Rg_spreadFrom 157 [vA t, vI a1, vI a2, vA p, vI j, vN, vN] [] g v ∧ LQ B v t L0 s (v t 4) ∧ Ex t u v := by
  intro d
  induction d with
  | zero =>
    intro i u hi hb h
    have hle : u t 4 ≤ 64 := by
      rw [h.2.1]
      have := sumI_bd (f := fun k => bI (u (t + 1) k = u t 0)) (n := 64) (b := 1) fun k _ _ => bI_bd _
      omega
    have := h.2.2.1
    refine ⟨u, i, ?_, by rw [show u t 4 = i by omega]; exact h, Ex.rfl'⟩
    rw [R_Rg_spreadFrom_15, gd_O hk.1, if_neg (by omega)]
  | succ d ih =>
    intro i u hi hb h
    have hi2 := h.2.2.1
    by_cases q : i < u t 4
    · obtain ⟨z1, z2, z3⟩ := h.2.2.2.1 i hi2.1 q
      obtain ⟨c, hc⟩ : ∃ c, c = u (t + 3) i := ⟨_, rfl⟩
      rw [← hc] at z1 z2 z3
      have hcb := eC_bd hB z1
      have hr := rd8i hcb.1.1 hcb.1.2
      obtain ⟨x, hx⟩ : ∃ x, x = c % 8 := ⟨_, rfl⟩
      obtain ⟨y, hy⟩ : ∃ y, y = c / 8 := ⟨_, rfl⟩
      have hcxy : c = 8 * y + x := by omega
      have hc1 : bCell B x y = -1 := by rw [hx, hy]; exact z1
      have x0 : 0 ≤ x ∧ x < 8 := by omega
      have y0 : 0 ≤ y ∧ y < 8 := by omega
      have wx1 : w (x + 1) = x + 1 := w_id (by omega) (by omega)
      have wy1 : w (y + 1) = y + 1 := w_id (by omega) (by omega)
      have wx2 : w (x - 1) = x - 1 := w_id (by omega) (by omega)
      have wy2 : w (y - 1) = y - 1 := w_id (by omega) (by omega)
      obtain ⟨v1, e1, s1, h1, n1, x1⟩ := Rg_try (x := x + 1) (y := y) hk hT hb hB h x y 0 (fun g1 g2 => cn_trans (cn_symm (cn_adj ((adj_r x0.1 x0.2 hB.1.2).mpr ⟨hc1, g2, g1⟩))) (by rw [← hcxy]; exact z3))
      have b1 : bdT v1 p = B := (x1.bd dj).trans hb
      obtain ⟨v2, e2, s2, h2, n2, x2⟩ := Rg_try (x := x) (y := y + 1) hk hT b1 hB h1 x y 1 (fun g1 g2 => cn_trans (cn_symm (cn_adj ((adj_b x0.1 x0.2).mpr ⟨hc1, g2, g1⟩))) (by rw [← hcxy]; exact z3))
      have b2 : bdT v2 p = B := (x2.bd dj).trans b1
      obtain ⟨v3, e3, s3, h3, n3, x3⟩ := Rg_try (x := x - 1) (y := y) hk hT b2 hB h2 (x - 1) y 0 (fun g1 g2 => by
        have hin := bIn_of g2
        have := (adj_r (B := B) (x := x - 1) (y := y) hin.1.1 (by omega) hB.1.2).mpr ⟨g2, by rw [show x - 1 + 1 = x by omega]; exact hc1, g1⟩
        rw [show x - 1 + 1 = x by omega, ← hcxy] at this
        exact cn_trans (cn_adj this) z3)
      have b3 : bdT v3 p = B := (x3.bd dj).trans b2
      obtain ⟨v4, e4, s4, h4, n4, x4⟩ := Rg_try (x := x) (y := y - 1) hk hT b3 hB h3 x (y - 1) 1 (fun g1 g2 => by
        have := (adj_b (B := B) (x := x) (y := y - 1) x0.1 x0.2).mpr ⟨g2, by rw [show y - 1 + 1 = y by omega]; exact hc1, g1⟩
        rw [show y - 1 + 1 = y by omega, ← hcxy] at this
        exact cn_trans (cn_adj this) z3)
      have b4 : bdT v4 p = B := (x4.bd dj).trans b3
      have x14 := (x2.tr x3).tr x4
      have xu4 := x1.tr x14
      have hq : v4 (t + 3) i = c := by rw [xu4.2.1 i hi2.1 q, hc]
      have h5 : LQ B v4 t L0 s (i + 1) := by
        obtain ⟨g1, g2, g3, g4, g5, g6⟩ := h4
        refine ⟨g1, g2, ⟨by omega, by have := xu4.2.2.1; omega⟩, g4, g5, fun j j0 j1 dd hd => ?_⟩
        by_cases e : j < i
        · exact g6 j j0 e dd hd
        · obtain rfl : j = i := by omega
          rw [hq] at hd
          rcases hd with ⟨_, k2, ⟨k3, k4, k5⟩ | ⟨k3, k5⟩⟩ | ⟨k2, _, ⟨k3, k4, k5⟩ | ⟨k3, k5⟩⟩
          · rw [← hx, ← hy] at k5
            have e : dd = 8 * y + (x + 1) := by omega
            rw [e] at k2 ⊢
            have := n1 k5 ((eC_xy (by omega) (by omega)).mp k2)
            rw [x14.1 _ this]; exact this
          · rw [← hx, ← hy] at k5
            have e : dd = 8 * (y + 1) + x := by omega
            rw [e] at k2 ⊢
            have := n2 k5 ((eC_xy (by omega) (by omega)).mp k2)
            rw [(x3.tr x4).1 _ this]; exact this
          · have e : dd = 8 * y + (x - 1) := by omega
            have e5 : dd % 8 = x - 1 ∧ dd / 8 = y := by omega
            rw [e5.1, e5.2] at k5
            rw [e] at k2 ⊢
            have := n3 k5 ((eC_xy (by omega) (by omega)).mp k2)
            rw [x4.1 _ this]; exact this
          · have e : dd = 8 * (y - 1) + x := by omega
            have e5 : dd % 8 = x ∧ dd / 8 = y - 1 := by omega
            rw [e5.1, e5.2] at k5
            rw [e] at k2 ⊢
            exact n4 k5 ((eC_xy (by omega) (by omega)).mp k2)
      obtain ⟨v5, j5, e5, h6, x5⟩ := ih (i + 1) v4 (by omega) b4 h5
      refine ⟨v5, j5, ?_, h6, xu4.tr x5⟩
      have sA : ∀ (v : PM) (sx sy ss : Int), bdT v p = B → call M_Tk_strapAt [vA p, vI sx, vI sy, vI ss] g v = some (0, vI (bStrap B sx sy ss), g, v) := fun v sx sy ss hv => by
        rw [Tk_strapAt2 hT (tOk_of (by rw [hv]; exact hB)), hv]
      have p126 : run M_Rg_spreadFrom 126 [vA t, vI a1, vI a2, vA p, vI i, vI x, vI y] [] g v3 = run M_Rg_spreadFrom 15 [vA t, vI a1, vI a2, vA p, vI (i + 1), vN, vN] [] g v4 := by
        rw [R_Rg_spreadFrom_126, gd_O hT.1, wy2, sA v3 _ _ _ b3, cI_some, w_id (x := i + 1) (by omega) (by omega)]
        by_cases z : bStrap B x (y - 1) 1 = 0
        · rw [if_pos z, gd_O hk.1, e4 z, cV_some]
        · rw [if_neg z, s4 z]
      have p101 : run M_Rg_spreadFrom 101 [vA t, vI a1, vI a2, vA p, vI i, vI x, vI y] [] g v2 = run M_Rg_spreadFrom 126 [vA t, vI a1, vI a2, vA p, vI i, vI x, vI y] [] g v3 := by
        rw [R_Rg_spreadFrom_101, gd_O hT.1, wx2, sA v2 _ _ _ b2, cI_some]
        by_cases z : bStrap B (x - 1) y 0 = 0
        · rw [if_pos z, gd_O hk.1, e3 z, cV_some]
        · rw [if_neg z, s3 z]
      have p78 : run M_Rg_spreadFrom 78 [vA t, vI a1, vI a2, vA p, vI i, vI x, vI y] [] g v1 = run M_Rg_spreadFrom 101 [vA t, vI a1, vI a2, vA p, vI i, vI x, vI y] [] g v2 := by
        rw [R_Rg_spreadFrom_78, gd_O hT.1, sA v1 _ _ _ b1, cI_some, wy1]
        by_cases z : bStrap B x y 1 = 0
        · rw [if_pos z, gd_O hk.1, e2 z, cV_some]
        · rw [if_neg z, s2 z]
      have d8 : ¬ (8 = 0) := by decide
      rw [R_Rg_spreadFrom_15, gd_O hk.1, if_pos q, if_pos (by omega)]
      simp only [gd_O hk.1, gd_O hT.1]
      rw [gd_R hk.2.2.2 hi2.1 (by omega), if_neg d8, gd_R hk.2.2.2 hi2.1 (by omega), if_neg d8, ← hc, hr.1, hr.2, ← hx, ← hy, sA u _ _ _ hb, cI_some, wx1]
      by_cases z : bStrap B x y 0 = 0
      · rw [if_pos z, gd_O hk.1, e1 z, cV_some, p78, p101, p126, e5]
      · have := s1 z
        subst this
        rw [if_neg z, p78, p101, p126, e5]
    · refine ⟨u, i, ?_, by rw [show u t 4 = i by omega]; exact h, Ex.rfl'⟩
      rw [R_Rg_spreadFrom_15, gd_O hk.1, if_neg q]
end
