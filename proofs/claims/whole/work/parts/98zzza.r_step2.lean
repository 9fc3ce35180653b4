/-! ===== the reference: sides, free straps, players ===== -/
theorem absM_pl {m m' : Int → Int} {p : Int} (hp : p = 0 ∨ p = 1) (hn : nOk (absM m)) (h : ∀ k : Int, ¬ (5 + 14 * p ≤ k ∧ k < 19 + 14 * p) → m' k = m k) : absM m' = aSetPl (absM m) p (plM m' (5 + 14 * p)) := by
  have n1 : m 12 ≤ 6 := hn.2.1.2
  have n2 : m 26 ≤ 6 := hn.2.2.2
  unfold absM aSetPl
  rcases hp with rfl | rfl
  · rw [bdM_o (h 0 (by omega)) (h 1 (by omega)) (fun k k0 k1 => h k (by omega)), h 4 (by omega), pcM_o (h 4 (by omega)) (fun k k0 => h k (by omega)), plM_o (b := 19) n2 (fun k k0 k1 => h k (by omega)), h 2 (by omega), h 3 (by omega)]
    rfl
  · rw [bdM_o (h 0 (by omega)) (h 1 (by omega)) (fun k k0 k1 => h k (by omega)), h 4 (by omega), pcM_o (h 4 (by omega)) (fun k k0 => h k (by omega)), plM_o (b := 5) n1 (fun k k0 k1 => h k (by omega)), h 2 (by omega), h 3 (by omega)]
    rfl
theorem plM_su {m : Int → Int} {c k v : Int} (k0 : 0 ≤ k) (k1 : k < 5) : plM (setI m (c + (2 + k)) v) c = psSu (plM m c) k v := by
  unfold plM psSu
  rw [setI_o (by omega), setI_o (by omega), setI_o (by omega), cl_set2 (n := 5) (f := fun j => m (c + 2 + j)) (f' := fun j => setI m (c + (2 + k)) v (c + 2 + j)) k0 k1 (by rw [show c + 2 + k = c + (2 + k) by omega, setI_s]) (fun j _ _ z => setI_o (by omega)), cl_ext (f := fun j => setI m (c + (2 + k)) v (c + 8 + j)) (f' := fun j => m (c + 8 + j)) (fun j _ _ => setI_o (by omega))]
theorem plM_st {m : Int → Int} {c v : Int} : plM (setI m (c + 1) v) c = psSt (plM m c) v := by
  unfold plM psSt
  rw [setI_o (by omega), setI_s, setI_o (by omega), cl_ext (n := 5) (f := fun j => setI m (c + 1) v (c + 2 + j)) (f' := fun j => m (c + 2 + j)) (fun j _ _ => setI_o (by omega)), cl_ext (f := fun j => setI m (c + 1) v (c + 8 + j)) (f' := fun j => m (c + 8 + j)) (fun j _ _ => setI_o (by omega))]
theorem bBey_in {B : Bd} {x y s : Int} (hs : s = 0 ∨ s = 1) (h : bEdge B x y s) : (s = 0 → bIn B (x + 1) y) ∧ (s = 1 → bIn B x (y + 1)) := by
  obtain ⟨⟨⟨a1, a2⟩, a3, a4⟩, h⟩ := h
  constructor
  · intro z
    exact ⟨⟨by omega, by omega⟩, a3, a4⟩
  · intro z
    exact ⟨⟨a1, a2⟩, by omega, by omega⟩
section
variable {g : PG} {u : PM} {t : Nat} {b : Int → Int} {n : Int} {T : TkS} {A : AS}
theorem G_side (hk : kMd g t) (h : MdS u t b n T A) : (isW b T wRight ∨ isW b T wBelow → call M_TM_sideHere [vA t] g u = some (0, vI (if isW b T wRight then 0 else 1), g, u)) ∧ (¬ (isW b T wRight ∨ isW b T wBelow) → call M_TM_sideHere [vA t] g u = some (0, vI 0, g, wE u t 1)) := by
  rw [C_TM_sideHere, gd_O hk.1.1, TM_is hk h.1 wTxs.2.2.2.1 (by decide), cI_some]
  have h39 : ∀ v : Int, 0 ≤ v → run M_TM_sideHere 27 [vA t, vN] [vI v] g u = some (0, vI v, g, u) := fun v v0 => by
    rw [R_TM_sideHere_27, if_neg (by omega), R_TM_sideHere_39, gd_O hk.1.1, G_w0 hk, cV_some, show max2 0 v = v by unfold max2; split <;> omega]
  by_cases c1 : isW b T wRight
  · rw [bI_t c1, if_neg (by decide), h39 0 (by decide), if_pos c1]
    exact ⟨fun _ => rfl, fun z => absurd (Or.inl c1) z⟩
  · rw [bI_f c1, if_pos rfl, gd_O hk.1.1, TM_is hk h.1 wTxs.2.2.2.2.1 (by decide), cI_some, if_neg c1]
    by_cases c2 : isW b T wBelow
    · rw [bI_t c2, if_neg (by decide), h39 1 (by decide)]
      exact ⟨fun _ => rfl, fun z => absurd (Or.inr c2) z⟩
    · rw [bI_f c2, if_pos rfl, R_TM_sideHere_27, if_pos rfl, R_TM_sideHere_39, gd_O hk.1.1, G_w1 hk h.2.1.1, cV_some]
      exact ⟨fun z => absurd z (fun z => z.elim c1 c2), fun _ => rfl⟩
theorem TM_edgeTold (hk : kMd g t) (h : MdS u t b n T A) (hw : wf A) : xM g u t b n (call M_TM_edgeTold [vA t] g u) (xStp b n T A) := by
  have hC := hw.1.1.1
  have hR := hw.1.1.2.1
  have sok : ∀ {v : PM} {T'}, MdS v t b n T' A → sOk (v (t + 1)) := fun z => wf_s (by rw [z.2.2]; exact hw)
  have w149 : ∀ {y : PM} {e : ER}, MdE y t b n e → ∀ s p q r : Int, run M_TM_edgeTold 149 [vA t, vI p, vI q, vI r, vN] [vI s] g y = some (0, vN, g, y) := fun {y e} z s p q r => by
    have z2 := z.2.1
    rw [R_TM_edgeTold_149, gd_O hk.1.1, W_wrong hk z2, cV_some, gd_O hk.1.1, if_neg (by omega)]
  have w92 : ∀ {y : PM} {e : ER}, MdE y t b n e → ∀ s p q r : Int, run M_TM_edgeTold 92 [vA t, vI p, vI q, vI r, vN] [vI s, vA t] g y = some (0, vN, g, y) := fun {y e} z s p q r => by
    have z2 := z.2.1
    rw [R_TM_edgeTold_92, gd_O hk.1.1, W_wrong hk z2, cV_some, gd_O hk.1.1, if_neg (by omega)]
  have w60 : ∀ {y : PM} {e : ER}, MdE y t b n e → ∀ s p q r : Int, run M_TM_edgeTold 60 [vA t, vI p, vI q, vI r, vN] [vI s, vA t] g y = some (0, vN, g, y) := fun {y e} z s p q r => by
    have z2 := z.2.1
    rw [R_TM_edgeTold_60, gd_O hk.1.1, W_wrong hk z2, cV_some, gd_O hk.1.1, if_neg (by omega), w92 z]
  obtain ⟨v1, e1, s1, f1⟩ := G_go (g := g) hk h
  rw [C_TM_edgeTold, gd_O hk.1.1, e1, cV_some]
  simp only [gd_O hk.1.1]
  rw [gd_R hk.1.2.1 (by decide) (by decide), s1.e0.1, w_id (x := A.bd.1 - 1) (by omega) (by omega)]
  unfold xStp xEdge
  rcases G_number (g := g) (lo := 0) (hi := A.bd.1 - 1) hk s1 (by omega) with ⟨v2, z2, x2, b2, e2, s2, f2⟩ | ⟨v2, e, x2, e2, s2, f2⟩
  · rw [e2, cI_some, xNum_y x2]
    simp only [gd_O hk.1.1]
    rw [gd_R hk.1.2.1 (by decide) (by decide), s2.e0.2.1, w_id (x := A.bd.2.1 - 1) (by omega) (by omega)]
    show xM g u t b n _ (xb (xb (xNum b n (tkAt b n T.2.2.1) 0 (A.bd.2.1 - 1)) _) _)
    rcases G_number (g := g) (lo := 0) (hi := A.bd.2.1 - 1) hk s2 (by omega) with ⟨v3, z3, x3, b3, e3, s3, f3⟩ | ⟨v3, e, x3, e3, s3, f3⟩
    · have hin : bIn A.bd z2 z3 := ⟨⟨b2.1, by omega⟩, b3.1, by omega⟩
      have hmo := (sok s3).1
      have hbi : bIn (bdM (v3 (t + 1))) z2 z3 := by rw [s3.e0.2.2]; exact hin
      have fr3 := (f1.tr f2).tr f3
      rw [e3, cI_some, xNum_y x3, gd_O hk.1.1]
      obtain ⟨T3, hT3⟩ : ∃ T3, T3 = tkAt b n (tkAt b n (tkAt b n T.2.2.1).2.2.1).2.2.1 := ⟨_, rfl⟩
      show xM g u t b n _ (xb (if isW b (tkAt b n (tkAt b n (tkAt b n T.2.2.1).2.2.1).2.2.1) wRight ∨ isW b (tkAt b n (tkAt b n (tkAt b n T.2.2.1).2.2.1).2.2.1) wBelow then (if bEdge A.bd z2 z3 (if isW b (tkAt b n (tkAt b n (tkAt b n T.2.2.1).2.2.1).2.2.1) wRight then 0 else 1) then .ok (tkAt b n (tkAt b n (tkAt b n T.2.2.1).2.2.1).2.2.1, z2, z3, if isW b (tkAt b n (tkAt b n (tkAt b n T.2.2.1).2.2.1).2.2.1) wRight then 0 else 1) else .error (3, (tkAt b n (tkAt b n (tkAt b n T.2.2.1).2.2.1).2.2.1).2.1)) else .error (1, (tkAt b n (tkAt b n (tkAt b n T.2.2.1).2.2.1).2.2.1).2.1)) _)
      rw [← hT3] at s3 ⊢
      by_cases c1 : isW b T3 wRight ∨ isW b T3 wBelow
      · rw [(G_side (g := g) hk s3).1 c1, cI_some, gd_O hk.1.1, if_pos s3.2.1.1, gd_O hk.1.1, if_pos c1, TM_isEdge hk.1 hmo, cI_some, s3.e0.2.2]
        obtain ⟨s, hs⟩ : ∃ s : Int, s = if isW b T3 wRight then 0 else 1 := ⟨_, rfl⟩
        have s01 : s = 0 ∨ s = 1 := by rw [hs]; split <;> omega
        rw [← hs]
        by_cases c2 : bEdge A.bd z2 z3 s
        · rw [bI_t c2, if_neg (by decide), if_pos c2]
          show xM g u t b n _ (if bStrap A.bd z2 z3 s ≠ 0 then .error (4, T3.2.1) else if bCell A.bd z2 z3 = -2 ∨ bBey A.bd z2 z3 s = -2 then .error (5, T3.2.1) else xb (xEnd b n T3) fun T' => .ok (T', aStp A z2 z3 s))
          have hst : bStrap A.bd z2 z3 s = v3 (t + 1) (97 + (64 * s + (8 * z3 + z2))) := by rw [← s3.e0.2.2]; exact bdM_strap hmo hbi (by omega) (by omega)
          have hs01 := hmo.2.2.2 (64 * s + (8 * z3 + z2)) (by omega) (by omega)
          rw [R_TM_edgeTold_60, gd_O hk.1.1, G_w0 hk, cV_some, gd_O hk.1.1, if_pos s3.2.1.1, gd_O hk.1.1, TM_edge (by omega) (by omega) s01, cI_some, gd_R hk.1.2.1 (by omega) (by omega), hst]
          by_cases c3 : v3 (t + 1) (97 + (64 * s + (8 * z3 + z2))) = 1
          · obtain ⟨w1, w2⟩ := wE_E s3.1 4
            have w22 := w1.2.1
            rw [if_pos c3, if_pos (by omega), R_TM_edgeTold_92, gd_O hk.1.1, G_w1 hk s3.2.1.1, cV_some, gd_O hk.1.1, if_neg (by omega)]
            exact xM_er (fr3.tr w2) rfl rfl w1
          · rw [if_neg c3, if_neg (by omega)]
            have hcl : bCell A.bd z2 z3 = enc (v3 (t + 1) (33 + (8 * z3 + z2))) := by rw [← s3.e0.2.2]; exact bdM_cell hmo hbi
            have hen := (enc_eq (hmo.2.2.1 (8 * z3 + z2) (by omega) (by omega)).1).2.1
            have bad : xM g u t b n (run M_TM_edgeTold 149 [vA t, vI z2, vI z3, vI s, vN] [vI 1] g v3) (.error (5, T3.2.1)) := by
              obtain ⟨w1, w2⟩ := wE_E s3.1 5
              have w22 := w1.2.1
              rw [R_TM_edgeTold_149, gd_O hk.1.1, G_w1 hk s3.2.1.1, cV_some, gd_O hk.1.1, if_neg (by omega)]
              exact xM_er (fr3.tr w2) rfl rfl w1
            have good : xM g u t b n (run M_TM_edgeTold 149 [vA t, vI z2, vI z3, vI s, vN] [vI 0] g v3) (xb (xEnd b n T3) fun T' => .ok (T', aStp A z2 z3 s)) := by
              rw [R_TM_edgeTold_149, gd_O hk.1.1, G_w0 hk, cV_some, gd_O hk.1.1, if_pos s3.2.1.1, gd_O hk.1.1, TM_edge (by omega) (by omega) s01, cI_some, gd_W hk.1.2.1 (by omega) (by omega), gd_O hk.1.1]
              obtain ⟨v4, hv4⟩ : ∃ v, v = up v3 (t + 1) (97 + (64 * s + (8 * z3 + z2))) 1 := ⟨_, rfl⟩
              have f4 : ∀ (a : Nat) (k : Int), a ≠ t + 1 → v4 a k = v3 a k := fun a k z => by rw [hv4, up_o z]
              have hs4 : v4 (t + 1) = setI (v3 (t + 1)) (97 + (64 * s + (8 * z3 + z2))) 1 := by rw [hv4, up_set]
              have hA4 : absM (v4 (t + 1)) = aStp A z2 z3 s := by
                rw [absM_cells (m := v3 (t + 1)) (sok s3).2.1 (fun k z => by rw [hs4, setI_o (by omega)]), bdM_strapset (m := v3 (t + 1)) (k := 8 * z3 + z2) (v := 1) s01 (by rw [hs4, setI_o (by omega)]) (by rw [hs4, setI_o (by omega)]) (by omega) (by omega) (by rw [hs4, setI_s]) (fun j j0 j1 => by rw [hs4, setI_o j0]), s3.e0.2.2, s3.2.2]
                rfl
              have s4 : MdS v4 t b n T3 (aStp A z2 z3 s) := s3.fr (fun a k _ z _ _ => f4 a k z) hA4
              have f4' : FP t v3 v4 := fun a k _ z _ _ => f4 a k z
              rw [← hv4]
              obtain ⟨v5, e5, x5⟩ := G_end (g := g) hk s4
              rw [e5, cV_some, gd_O hk.1.1]
              obtain ⟨v6, e6, f6, x6⟩ := x5
              rw [e6, cV_some]
              exact ⟨v6, rfl, (fr3.tr f4').tr f6, x6⟩
            have p126 : ∀ p q : Int, bIn A.bd p q → bBey A.bd z2 z3 s = bCell A.bd p q → ¬ bCell A.bd z2 z3 = -2 → xM g u t b n (run M_TM_edgeTold 137 [vA t, vI z2, vI z3, vI s, vN] [vI q, vI p, vA t] g v3) (if bCell A.bd z2 z3 = -2 ∨ bBey A.bd z2 z3 s = -2 then .error (5, T3.2.1) else xb (xEnd b n T3) fun T' => .ok (T', aStp A z2 z3 s)) := fun p q hpq hb hc => by
              have hbi2 : bIn (bdM (v3 (t + 1))) p q := by rw [s3.e0.2.2]; exact hpq
              have hpb := bIn_bd hmo hbi2
              have hcl2 : bCell A.bd p q = enc (v3 (t + 1) (33 + (8 * q + p))) := by rw [← s3.e0.2.2]; exact bdM_cell hmo hbi2
              have hen2 := (enc_eq (hmo.2.2.1 (8 * q + p) (by omega) (by omega)).1).2.1
              rw [R_TM_edgeTold_137, gd_O hk.1.1, TM_cell hk.1 hmo hbi2, cI_some, hb, hcl2]
              by_cases c5 : v3 (t + 1) (33 + (8 * q + p)) = 1
              · rw [if_pos c5, if_pos (Or.inr (hen2.mpr c5))]
                exact bad
              · rw [if_neg c5, if_neg (fun z => z.elim hc (fun z => c5 (hen2.mp z)))]
                exact good
            rw [R_TM_edgeTold_92, gd_O hk.1.1, G_w0 hk, cV_some, gd_O hk.1.1, if_pos s3.2.1.1, gd_O hk.1.1, TM_cell hk.1 hmo hbi, cI_some]
            by_cases c4 : v3 (t + 1) (33 + (8 * z3 + z2)) = 1
            · rw [if_pos c4, if_pos (Or.inl (by rw [hcl]; exact hen.mpr c4))]
              exact bad
            · have hc : ¬ bCell A.bd z2 z3 = -2 := by rw [hcl]; exact fun z => c4 (hen.mp z)
              rw [if_neg c4]
              rcases s01 with z | z
              · rw [z] at p126 ⊢
                rw [if_pos rfl, R_TM_edgeTold_126, if_pos rfl, w_id (x := z2 + 1) (by omega) (by omega)]
                exact p126 _ _ ((bBey_in (Or.inl rfl) (by rw [← z]; exact c2)).1 rfl) rfl hc
              · rw [z] at p126 ⊢
                rw [if_neg (by decide), R_TM_edgeTold_126, if_neg (by decide), w_id (x := z3 + 1) (by omega) (by omega)]
                exact p126 _ _ ((bBey_in (Or.inr rfl) (by rw [← z]; exact c2)).2 rfl) rfl hc
        · obtain ⟨w1, w2⟩ := wE_E s3.1 3
          have w22 := w1.2.1
          rw [bI_f c2, if_pos rfl, if_neg c2, R_TM_edgeTold_60, gd_O hk.1.1, G_w1 hk s3.2.1.1, cV_some, gd_O hk.1.1, if_neg (by omega), w92 w1]
          exact xM_er (fr3.tr w2) rfl rfl w1
      · obtain ⟨w1, w2⟩ := wE_E s3.1 1
        have w22 := w1.2.1
        rw [(G_side (g := g) hk s3).2 c1, cI_some, gd_O hk.1.1, if_neg (by omega), if_neg c1, w60 w1]
        exact xM_er (fr3.tr w2) rfl rfl w1
    · have w22 := s3.2.1
      obtain ⟨T4, hT4⟩ := s3.1
      obtain ⟨z, -, ez⟩ := W_side (g := g) hk w22 hT4
      rw [e3, cI_some, xNum_n x3, gd_O hk.1.1, ez, cI_some, gd_O hk.1.1, if_neg (by omega), w60 s3]
      exact xM_er ((f1.tr f2).tr f3) rfl rfl s3
  · have w22 := s2.2.1
    obtain ⟨T4, hT4⟩ := s2.1
    obtain ⟨z, -, ez⟩ := W_side (g := g) hk w22 hT4
    rw [e2, cI_some, xNum_n x2]
    simp only [gd_O hk.1.1]
    rw [gd_R hk.1.2.1 (by decide) (by decide), W_number hk w22, cI_some, gd_O hk.1.1, ez, cI_some, gd_O hk.1.1, if_neg (by omega), w60 s2]
    exact xM_er (f1.tr f2) rfl rfl s2
end
