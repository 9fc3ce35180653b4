/-! ===== the reference: commands ===== -/
section
variable {b : Int → Int} {n : Int}
theorem xNum_gr {lo hi : Int} {T : TkS} {a : TkS × Int} (hT : tOkk n T) (h : xNum b n T lo hi = .ok a) : tOkk n a.1 ∧ T.2.2.1 ≤ a.1.2.1 := by
  unfold xNum at h
  obtain ⟨v, _, h2⟩ := xb_ok h
  injection h2 with h2
  rw [← h2]
  unfold tOkk at hT
  exact tkAt_ok (by omega) (by omega)
theorem xEnd_gr {T T' : TkS} (hT : tOkk n T) (h : xEnd b n T = .ok T') : tOkk n T' ∧ T.2.2.1 < T'.2.1 := by
  unfold xEnd at h
  by_cases c : (tkAt b n T.2.2.1).1 = 3
  · rw [if_pos c] at h
    injection h with h
    rw [← h]
    unfold tOkk at hT
    have k1 := tkAt_ok (b := b) (n := n) (p := T.2.2.1) (by omega) (by omega)
    have k2 := k1.1
    unfold tOkk at k2
    have k3 := tkAt_ok (b := b) (n := n) (p := (tkAt b n T.2.2.1).2.2.1) (by omega) (by omega)
    have k4 := k2.2.2.2 (by omega)
    exact ⟨k3.1, by omega⟩
  · rw [if_neg c] at h; cases h
theorem xEdge_gr {T : TkS} {B : Bd} {a : TkS × Int × Int × Int} (hT : tOkk n T) (h : xEdge b n T B = .ok a) : tOkk n a.1 ∧ T.2.2.1 ≤ a.1.2.1 := by
  unfold xEdge at h
  obtain ⟨c, y1, h⟩ := xb_ok h
  obtain ⟨q, y2, h⟩ := xb_ok h
  have g1 := xNum_gr hT y1
  have g2 := xNum_gr g1.1 y2
  have o1 := g1.1
  have o2 := g2.1
  unfold tOkk at o1 o2
  have k3 := tkAt_ok (b := b) (n := n) (p := q.1.2.2.1) (by omega) (by omega)
  by_cases c1 : isW b (tkAt b n q.1.2.2.1) wRight ∨ isW b (tkAt b n q.1.2.2.1) wBelow
  · rw [if_pos c1] at h
    by_cases c2 : bEdge B c.2 q.2 (if isW b (tkAt b n q.1.2.2.1) wRight then 0 else 1)
    · rw [if_pos c2] at h
      injection h with h
      rw [← h]
      exact ⟨k3.1, by show T.2.2.1 ≤ (tkAt b n q.1.2.2.1).2.1; omega⟩
    · rw [if_neg c2] at h
      cases h
  · rw [if_neg c1] at h
    cases h
theorem xBlk_gr {T : TkS} {A : AS} {a : TkS × AS} (hT : tOkk n T) (h : xBlk b n T A = .ok a) : T.2.2.1 < a.1.2.1 := by
  unfold xBlk at h
  obtain ⟨c, y1, h⟩ := xb_ok h
  obtain ⟨q, y2, h⟩ := xb_ok h
  have g1 := xNum_gr hT y1
  have g2 := xNum_gr g1.1 y2
  have o1 := g1.1
  have o2 := g2.1
  split at h
  · cases h
  · obtain ⟨T', y3, h⟩ := xb_ok h
    have g3 := xEnd_gr o2 y3
    injection h with h
    rw [← h]
    unfold tOkk at o1 o2
    show T.2.2.1 < T'.2.1
    omega
theorem xStp_gr {T : TkS} {A : AS} {a : TkS × AS} (hT : tOkk n T) (h : xStp b n T A = .ok a) : T.2.2.1 < a.1.2.1 := by
  unfold xStp at h
  obtain ⟨e, y1, h⟩ := xb_ok h
  have g1 := xEdge_gr hT y1
  have o1 := g1.1
  split at h
  · cases h
  · split at h
    · cases h
    · obtain ⟨T', y3, h⟩ := xb_ok h
      have g3 := xEnd_gr o1 y3
      injection h with h
      rw [← h]
      unfold tOkk at o1
      show T.2.2.1 < T'.2.1
      omega
theorem xOne_gr {T : TkS} {A : AS} {a : TkS × AS} (hT : tOkk n T) (h : xOne b n T A = .ok a) : tOkk n a.1 ∧ T.2.1 ≤ a.1.2.1 := by
  have hT' := hT
  unfold tOkk at hT'
  unfold xOne at h
  split at h
  · unfold xPlc at h
    split at h
    · cases h
    · have k1 := tkAt_ok (b := b) (n := n) (p := T.2.2.1) (by omega) (by omega)
      obtain ⟨r, y1, h⟩ := xb_ok h
      obtain ⟨c, y2, h⟩ := xb_ok h
      obtain ⟨q, y3, h⟩ := xb_ok h
      have g1 := xNum_gr k1.1 y1
      have g2 := xNum_gr g1.1 y2
      have g3 := xNum_gr g2.1 y3
      have o0 := k1.1
      have o1 := g1.1
      have o2 := g2.1
      unfold tOkk at o0 o1 o2
      split at h
      · injection h with h
        rw [← h]
        exact ⟨g3.1, by show T.2.1 ≤ q.1.2.1; omega⟩
      · cases h
  · split at h
    · unfold xFst at h
      obtain ⟨e, y1, h⟩ := xb_ok h
      have g1 := xEdge_gr hT y1
      split at h
      · injection h with h
        rw [← h]
        exact ⟨g1.1, by show T.2.1 ≤ e.1.2.1; omega⟩
      · cases h
    · split at h
      · split at h
        · injection h with h
          rw [← h]
          exact ⟨hT, Int.le_refl _⟩
        · cases h
      · cases h
end
section
variable {g : PG} {u : PM} {t : Nat} {b : Int → Int} {n : Int} {T : TkS} {A : AS}
theorem G_shape (hk : kMd g t) (h : MdS u t b n T A) : (shp b T ≠ -1 → call M_TM_shapeHere [vA t] g u = some (0, vI (shp b T), g, u)) ∧ (shp b T = -1 → call M_TM_shapeHere [vA t] g u = some (0, vI 0, g, wE u t 1)) := by
  have h67 : ∀ v : Int, 0 ≤ v → run M_TM_shapeHere 67 [vA t, vN] [vI v] g u = some (0, vI v, g, u) := fun v v0 => by
    rw [R_TM_shapeHere_67, if_neg (by omega), R_TM_shapeHere_79, gd_O hk.1.1, G_w0 hk, cV_some, show max2 0 v = v by unfold max2; split <;> omega]
  rw [C_TM_shapeHere, gd_O hk.1.1, TM_is hk h.1 wTxs.2.2.2.2.2.2.2.1 (by decide), cI_some]
  unfold shp
  by_cases c1 : isW b T wBar
  · rw [bI_t c1, if_neg (show ¬ (1 : Int) = 0 by decide), h67 0 (by decide), if_pos c1]
    exact ⟨fun _ => rfl, fun z => absurd z (by decide)⟩
  · rw [bI_f c1, if_pos rfl, gd_O hk.1.1, TM_is hk h.1 wTxs.2.2.2.2.2.2.2.2.1 (by decide), cI_some, if_neg c1]
    by_cases c2 : isW b T wElbow
    · rw [bI_t c2, if_neg (show ¬ (1 : Int) = 0 by decide), h67 1 (by decide), if_pos c2]
      exact ⟨fun _ => rfl, fun z => absurd z (by decide)⟩
    · rw [bI_f c2, if_pos rfl, gd_O hk.1.1, TM_is hk h.1 wTxs.2.2.2.2.2.2.2.2.2.1 (by decide), cI_some, if_neg c2]
      by_cases c3 : isW b T wRod
      · rw [bI_t c3, if_neg (show ¬ (1 : Int) = 0 by decide), h67 2 (by decide), if_pos c3]
        exact ⟨fun _ => rfl, fun z => absurd z (by decide)⟩
      · rw [bI_f c3, if_pos rfl, gd_O hk.1.1, TM_is hk h.1 wTxs.2.2.2.2.2.2.2.2.2.2.1 (by decide), cI_some, if_neg c3]
        by_cases c4 : isW b T wSquare
        · rw [bI_t c4, if_neg (show ¬ (1 : Int) = 0 by decide), h67 3 (by decide), if_pos c4]
          exact ⟨fun _ => rfl, fun z => absurd z (by decide)⟩
        · rw [bI_f c4, if_pos rfl, gd_O hk.1.1, TM_is hk h.1 wTxs.2.2.2.2.2.2.2.2.2.2.2.1 (by decide), cI_some, if_neg c4]
          by_cases c5 : isW b T wCorner
          · rw [bI_t c5, if_neg (show ¬ (1 : Int) = 0 by decide), h67 4 (by decide), if_pos c5]
            exact ⟨fun _ => rfl, fun z => absurd z (by decide)⟩
          · rw [bI_f c5, if_pos rfl, if_neg c5, R_TM_shapeHere_67, if_pos rfl, R_TM_shapeHere_79, gd_O hk.1.1, G_w1 hk h.2.1.1, cV_some]
            exact ⟨fun z => absurd rfl z, fun _ => rfl⟩
theorem G_hst (h : MdS u t b n T A) (hw : wf A) : 0 ≤ u (t + 1) (5 + 14 * u (t + 1) 2 + 1) := by
  have hp := wf_pl hw A.mv
  have hm : u (t + 1) 2 = A.mv := congrArg AS.mv h.2.2
  have := hp.1
  rw [← G_plA hw.2.2.1.1 h] at this
  rw [hm]
  exact this.1
theorem TM_placeTold (hk : kMd g t) (h : MdS u t b n T A) (hw : wf A) : xM g u t b n (call M_TM_placeTold [vA t] g u) (xPlc b n T A) := by
  have hC := hw.1.1.1
  have hR := hw.1.1.2.1
  have sok : ∀ {v : PM} {T'}, MdS v t b n T' A → sOk (v (t + 1)) := fun z => wf_s (by rw [z.2.2]; exact hw)
  have w85 : ∀ {y : PM} {e : ER}, MdE y t b n e → ∀ s o p q r : Int, run M_TM_placeTold 85 [vA t, vI o, vI p, vI q, vI r] [vI s, vA t] g y = some (0, vN, g, y) := fun {y e} z s o p q r => by
    have z2 := z.2.1
    rw [R_TM_placeTold_85, gd_O hk.1.1, W_wrong hk z2, cV_some, gd_O hk.1.1, if_neg (by omega)]
  obtain ⟨v1, e1, s1, f1⟩ := G_go (g := g) hk h
  rw [C_TM_placeTold, gd_O hk.1.1, e1, cV_some, gd_O hk.1.1, if_pos s1.2.1.1, gd_O hk.1.1]
  unfold xPlc
  by_cases c0 : shp b (tkAt b n T.2.2.1) = -1
  · obtain ⟨w1, w2⟩ := wE_E s1.1 1
    have w22 := w1.2.1
    rw [(G_shape (g := g) hk s1).2 c0, cI_some, if_pos c0, R_TM_placeTold_19, gd_O hk.1.1, W_go hk w22, cV_some, gd_O hk.1.1, W_number hk w22, cI_some]
    simp only [gd_O hk.1.1]
    rw [gd_R hk.1.2.1 (by decide) (by decide), W_number hk w22, cI_some]
    simp only [gd_O hk.1.1]
    rw [gd_R hk.1.2.1 (by decide) (by decide), W_here hk w22, cI_some, gd_O hk.1.1, if_neg (by omega), w85 w1]
    exact xM_er (f1.tr w2) rfl rfl w1
  · have hs := shp_bd _ _ c0
    obtain ⟨s, hsE⟩ : ∃ s, s = shp b (tkAt b n T.2.2.1) := ⟨_, rfl⟩
    obtain ⟨v2, e2, s2, f2⟩ := G_go (g := g) hk s1
    rw [(G_shape (g := g) hk s1).1 c0, cI_some, if_neg c0, R_TM_placeTold_19, gd_O hk.1.1, e2, cV_some, gd_O hk.1.1, ← hsE]
    rw [← hsE] at hs
    have fr2 := f1.tr f2
    rcases G_number (g := g) (lo := 0) (hi := 3) hk s2 (by decide) with ⟨v3, z3, x3, b3, e3, s3, f3⟩ | ⟨v3, e, x3, e3, s3, f3⟩
    · rw [e3, cI_some, xNum_y x3]
      simp only [gd_O hk.1.1]
      rw [gd_R hk.1.2.1 (by decide) (by decide), s3.e0.1, w_id (x := A.bd.1 - 1) (by omega) (by omega)]
      show xM g u t b n _ (xb (xNum b n (tkAt b n (tkAt b n T.2.2.1).2.2.1) 0 (A.bd.1 - 1)) fun c => xb (xNum b n c.1 0 (A.bd.2.1 - 1)) fun q => if aMayP A s z3 c.2 q.2 then .ok (q.1, aPut A s z3 c.2 q.2) else .error (6, q.1.2.1))
      rcases G_number (g := g) (lo := 0) (hi := A.bd.1 - 1) hk s3 (by omega) with ⟨v4, z4, x4, b4, e4, s4, f4⟩ | ⟨v4, e, x4, e4, s4, f4⟩
      · rw [e4, cI_some, xNum_y x4]
        simp only [gd_O hk.1.1]
        rw [gd_R hk.1.2.1 (by decide) (by decide), s4.e0.2.1, w_id (x := A.bd.2.1 - 1) (by omega) (by omega)]
        obtain ⟨T5, hT5⟩ : ∃ T5, T5 = tkAt b n (tkAt b n (tkAt b n (tkAt b n T.2.2.1).2.2.1).2.2.1).2.2.1 := ⟨_, rfl⟩
        show xM g u t b n _ (xb (xNum b n (tkAt b n (tkAt b n (tkAt b n T.2.2.1).2.2.1).2.2.1) 0 (A.bd.2.1 - 1)) fun q => if aMayP A s z3 z4 q.2 then .ok (q.1, aPut A s z3 z4 q.2) else .error (6, q.1.2.1))
        rw [← hT5] at s4
        have fr4 := (fr2.tr f3).tr f4
        rcases G_here (g := g) (lo := 0) (hi := A.bd.2.1 - 1) hk s4 (by omega) with ⟨z5, x5, b5, e5⟩ | ⟨e, x5, x5', e5⟩
        · rw [hT5] at x5
          rw [e5, cI_some, gd_O hk.1.1, if_pos s4.2.1.1, gd_O hk.1.1, xNum_y x5, ← hT5]
          show xM g u t b n _ (if aMayP A s z3 z4 z5 then .ok (T5, aPut A s z3 z4 z5) else .error (6, T5.2.1))
          obtain ⟨v6, e6, f6⟩ := TM_mayPlace (g := g) (u := v4) (s := s) (r := z3) (x := z4) (y := z5) hk.1 (sok s4) hs (by omega) (by omega) (by omega)
          rw [s4.2.2] at e6
          have s6 : MdS v6 t b n T5 A := s4.fr (fun a k q1 q2 q3 q4 => f6 a k (by omega) q3 q4) (by rw [f6.s]; exact s4.2.2)
          have fr6 : FP t u v6 := fr4.tr f6.fp
          rw [e6, cI_some]
          by_cases c1 : aMayP A s z3 z4 z5
          · have hin := mis0_in hs c1.2.2
            have hlt := wf_lt hw hs ⟨b3.1, by omega⟩ c1
            have hn4 : v6 (t + 1) 4 = A.n := congrArg AS.n s6.2.2
            obtain ⟨v7, e7, A7, f7⟩ := TM_places (g := g) (u := v6) (s := s) (r := z3) (x := z4) (y := z5) hk.1 (sok s6) hs (by omega) (by omega) (by omega) (by rw [hn4]; exact ⟨hw.1.2.2.1, hlt⟩) (by rw [s6.e0.2.2]; exact hin)
            rw [s6.2.2] at A7
            rw [bI_t c1, if_neg (show ¬ (1 : Int) = 0 by decide), if_pos c1, R_TM_placeTold_85, gd_O hk.1.1, G_w0 hk, cV_some, gd_O hk.1.1, if_pos s6.2.1.1, gd_O hk.1.1, e7, cI_some, gd_O hk.1.1]
            refine ⟨_, rfl, fun a k q1 q2 q3 q4 => by rw [up_n (by omega), f7 a k (by omega) q3 q4 q2, fr6 a k q1 q2 q3 q4], Or.inr ⟨_, rfl, s6.fr (fun a k q1 q2 q3 q4 => by rw [up_n (by omega), f7 a k (by omega) q3 q4 q2]) ?_⟩⟩
            rw [show up v7 t 23 (bPts (absM (v6 (t + 1))).bd s z3 z5) (t + 1) = v7 (t + 1) from funext fun k => up_o (by omega)]
            exact A7
          · obtain ⟨w1, w2⟩ := wE_E s6.1 6
            have w22 := w1.2.1
            rw [bI_f c1, if_pos rfl, if_neg c1, R_TM_placeTold_85, gd_O hk.1.1, G_w1 hk s6.2.1.1, cV_some, gd_O hk.1.1, if_neg (by omega)]
            exact xM_er (fr6.tr w2) rfl rfl w1
        · obtain ⟨w1, w2⟩ := wE_E s4.1 e.1
          rw [← x5'] at w1
          rw [hT5] at x5
          have w22 := w1.2.1
          rw [e5, cI_some, gd_O hk.1.1, if_neg (by omega), w85 w1, xNum_n x5]
          exact xM_er (fr4.tr w2) rfl rfl w1
      · have w22 := s4.2.1
        rw [e4, cI_some, xNum_n x4]
        simp only [gd_O hk.1.1]
        rw [gd_R hk.1.2.1 (by decide) (by decide), W_here hk w22, cI_some, gd_O hk.1.1, if_neg (by omega), w85 s4]
        exact xM_er ((fr2.tr f3).tr f4) rfl rfl s4
    · have w22 := s3.2.1
      rw [e3, cI_some, xNum_n x3]
      simp only [gd_O hk.1.1]
      rw [gd_R hk.1.2.1 (by decide) (by decide), W_number hk w22, cI_some]
      simp only [gd_O hk.1.1]
      rw [gd_R hk.1.2.1 (by decide) (by decide), W_here hk w22, cI_some, gd_O hk.1.1, if_neg (by omega), w85 s3]
      exact xM_er (fr2.tr f3) rfl rfl s3
theorem TM_strapTold (hk : kMd g t) (h : MdS u t b n T A) (hw : wf A) : xM g u t b n (call M_TM_strapTold [vA t] g u) (xFst b n T A) := by
  have hC := hw.1.1.1
  have hR := hw.1.1.2.1
  have sok : ∀ {v : PM} {T'}, MdS v t b n T' A → sOk (v (t + 1)) := fun z => wf_s (by rw [z.2.2]; exact hw)
  have w98 : ∀ {y : PM} {e : ER}, MdE y t b n e → ∀ s p q r : Int, run M_TM_strapTold 98 [vA t, vI p, vI q, vI r] [vI s, vA t] g y = some (0, vN, g, y) := fun {y e} z s p q r => by
    have z2 := z.2.1
    rw [R_TM_strapTold_98, gd_O hk.1.1, W_wrong hk z2, cV_some, gd_O hk.1.1, if_neg (by omega)]
  have w71 : ∀ {y : PM} {e : ER}, MdE y t b n e → ∀ s p q r : Int, run M_TM_strapTold 71 [vA t, vI p, vI q, vI r] [vI s, vA t] g y = some (0, vN, g, y) := fun {y e} z s p q r => by
    have z2 := z.2.1
    rw [R_TM_strapTold_71, gd_O hk.1.1, W_wrong hk z2, cV_some, gd_O hk.1.1, if_neg (by omega), w98 z]
  have w47 : ∀ {y : PM} {e : ER}, MdE y t b n e → ∀ s p q : Int, run M_TM_strapTold 47 [vA t, vI p, vI q, vN] [vI s] g y = some (0, vN, g, y) := fun {y e} z s p q => by
    have z2 := z.2.1
    rw [R_TM_strapTold_47, gd_O hk.1.1, if_neg (by omega), w71 z]
  obtain ⟨v1, e1, s1, f1⟩ := G_go (g := g) hk h
  rw [C_TM_strapTold, gd_O hk.1.1, e1, cV_some]
  simp only [gd_O hk.1.1]
  rw [gd_R hk.1.2.1 (by decide) (by decide), s1.e0.1, w_id (x := A.bd.1 - 1) (by omega) (by omega)]
  unfold xFst xEdge
  rcases G_number (g := g) (lo := 0) (hi := A.bd.1 - 1) hk s1 (by omega) with ⟨v2, z2, x2, b2, e2, s2, f2⟩ | ⟨v2, e, x2, e2, s2, f2⟩
  · rw [e2, cI_some, xNum_y x2]
    simp only [gd_O hk.1.1]
    rw [gd_R hk.1.2.1 (by decide) (by decide), s2.e0.2.1, w_id (x := A.bd.2.1 - 1) (by omega) (by omega)]
    show xM g u t b n _ (xb (xb (xNum b n (tkAt b n T.2.2.1) 0 (A.bd.2.1 - 1)) _) _)
    rcases G_number (g := g) (lo := 0) (hi := A.bd.2.1 - 1) hk s2 (by omega) with ⟨v3, z3, x3, b3, e3, s3, f3⟩ | ⟨v3, e, x3, e3, s3, f3⟩
    · have hin : bIn A.bd z2 z3 := ⟨⟨b2.1, by omega⟩, b3.1, by omega⟩
      have hmo := (sok s3).1
      have fr3 := (f1.tr f2).tr f3
      rw [e3, cI_some, xNum_y x3, gd_O hk.1.1, if_pos s3.2.1.1, gd_O hk.1.1]
      obtain ⟨T3, hT3⟩ : ∃ T3, T3 = tkAt b n (tkAt b n (tkAt b n T.2.2.1).2.2.1).2.2.1 := ⟨_, rfl⟩
      show xM g u t b n _ (xb (if isW b (tkAt b n (tkAt b n (tkAt b n T.2.2.1).2.2.1).2.2.1) wRight ∨ isW b (tkAt b n (tkAt b n (tkAt b n T.2.2.1).2.2.1).2.2.1) wBelow then (if bEdge A.bd z2 z3 (if isW b (tkAt b n (tkAt b n (tkAt b n T.2.2.1).2.2.1).2.2.1) wRight then 0 else 1) then .ok (tkAt b n (tkAt b n (tkAt b n T.2.2.1).2.2.1).2.2.1, z2, z3, if isW b (tkAt b n (tkAt b n (tkAt b n T.2.2.1).2.2.1).2.2.1) wRight then 0 else 1) else .error (3, (tkAt b n (tkAt b n (tkAt b n T.2.2.1).2.2.1).2.2.1).2.1)) else .error (1, (tkAt b n (tkAt b n (tkAt b n T.2.2.1).2.2.1).2.2.1).2.1)) _)
      rw [← hT3] at s3 ⊢
      by_cases c1 : isW b T3 wRight ∨ isW b T3 wBelow
      · rw [(G_side (g := g) hk s3).1 c1, cI_some, if_pos c1, R_TM_strapTold_47, gd_O hk.1.1, if_pos s3.2.1.1, gd_O hk.1.1, TM_isEdge hk.1 hmo, cI_some, s3.e0.2.2]
        obtain ⟨s, hs⟩ : ∃ s : Int, s = if isW b T3 wRight then 0 else 1 := ⟨_, rfl⟩
        have s01 : s = 0 ∨ s = 1 := by rw [hs]; split <;> omega
        rw [← hs]
        by_cases c2 : bEdge A.bd z2 z3 s
        · rw [bI_t c2, if_neg (by decide), if_pos c2]
          show xM g u t b n _ (if aMayS A z2 z3 s then .ok (T3, aStrap A z2 z3 s) else .error (6, T3.2.1))
          have hE : bEdge (bdM (v3 (t + 1))) z2 z3 s := by rw [s3.e0.2.2]; exact c2
          have e4 := TM_mayFasten (g := g) (u := v3) hk.1 (sok s3) (G_hst s3 hw) s01 hE
          rw [s3.2.2] at e4
          rw [R_TM_strapTold_71, gd_O hk.1.1, G_w0 hk, cV_some, gd_O hk.1.1, if_pos s3.2.1.1, gd_O hk.1.1, e4, cI_some]
          by_cases c3 : aMayS A z2 z3 s
          · obtain ⟨v5, e5, A5, f5⟩ := TM_fastens (g := g) (u := v3) hk.1 (sok s3) s01 hE
            rw [s3.2.2] at A5
            rw [bI_t c3, if_neg (show ¬ (1 : Int) = 0 by decide), if_pos c3, R_TM_strapTold_98, gd_O hk.1.1, G_w0 hk, cV_some, gd_O hk.1.1, if_pos s3.2.1.1, gd_O hk.1.1, e5, cI_some, gd_O hk.1.1]
            refine ⟨_, rfl, fun a k q1 q2 q3 q4 => by rw [up_n (by omega), f5 a k (by omega) q3 q4 q2, fr3 a k q1 q2 q3 q4], Or.inr ⟨_, rfl, s3.fr (fun a k q1 q2 q3 q4 => by rw [up_n (by omega), f5 a k (by omega) q3 q4 q2]) ?_⟩⟩
            rw [show up v5 t 23 (w ((aPl (absM (v3 (t + 1))) (absM (v3 (t + 1))).mv).2.1 - 1)) (t + 1) = v5 (t + 1) from funext fun k => up_o (by omega)]
            exact A5
          · obtain ⟨w1, w2⟩ := wE_E s3.1 6
            have w22 := w1.2.1
            rw [bI_f c3, if_pos rfl, if_neg c3, R_TM_strapTold_98, gd_O hk.1.1, G_w1 hk s3.2.1.1, cV_some, gd_O hk.1.1, if_neg (by omega)]
            exact xM_er (fr3.tr w2) rfl rfl w1
        · obtain ⟨w1, w2⟩ := wE_E s3.1 3
          have w22 := w1.2.1
          rw [bI_f c2, if_pos rfl, if_neg c2, R_TM_strapTold_71, gd_O hk.1.1, G_w1 hk s3.2.1.1, cV_some, gd_O hk.1.1, if_neg (by omega), w98 w1]
          exact xM_er (fr3.tr w2) rfl rfl w1
      · obtain ⟨w1, w2⟩ := wE_E s3.1 1
        have w22 := w1.2.1
        rw [(G_side (g := g) hk s3).2 c1, cI_some, if_neg c1, w47 w1]
        exact xM_er (fr3.tr w2) rfl rfl w1
    · have w22 := s3.2.1
      rw [e3, cI_some, xNum_n x3, gd_O hk.1.1, if_neg (by omega), w47 s3]
      exact xM_er ((f1.tr f2).tr f3) rfl rfl s3
  · have w22 := s2.2.1
    rw [e2, cI_some, xNum_n x2]
    simp only [gd_O hk.1.1]
    rw [gd_R hk.1.2.1 (by decide) (by decide), W_number hk w22, cI_some, gd_O hk.1.1, if_neg (by omega), w47 s2]
    exact xM_er (f1.tr f2) rfl rfl s2
theorem TM_command (hk : kMd g t) (h : MdS u t b n T A) (hw : wf A) : xM g u t b n (call M_TM_command [vA t] g u) (xb (xOne b n T A) fun p => xb (xEnd b n p.1) fun T' => .ok (T', p.2)) := by
  have sok : ∀ {v : PM} {T'}, MdS v t b n T' A → sOk (v (t + 1)) := fun z => wf_s (by rw [z.2.2]; exact hw)
  have w94 : ∀ {y : PM} {e : ER}, MdE y t b n e → run M_TM_command 94 [vA t] [] g y = some (0, vN, g, y) := fun {y e} z => by
    have z2 := z.2.1
    rw [R_TM_command_94, gd_O hk.1.1, W_go hk z2, cV_some, gd_O hk.1.1, W_semi hk z2, cV_some]
  have w74 : ∀ {y : PM} {e : ER}, MdE y t b n e → ∀ s : Int, run M_TM_command 74 [vA t] [vI s, vA t] g y = some (0, vN, g, y) := fun {y e} z s => by
    have z2 := z.2.1
    rw [R_TM_command_74, gd_O hk.1.1, W_wrong hk z2, cV_some, gd_O hk.1.1, if_neg (by omega), w94 z]
  have g94 : ∀ {y : PM} {T' : TkS} {A' : AS}, MdS y t b n T' A' → xM g y t b n (run M_TM_command 94 [vA t] [] g y) (xb (xEnd b n T') fun T'' => .ok (T'', A')) := fun {y T' A'} z => by
    obtain ⟨v, e1, e2⟩ := G_end (g := g) hk z
    rw [R_TM_command_94, gd_O hk.1.1, e1, cV_some, gd_O hk.1.1]
    obtain ⟨x, e3, e4⟩ := e2
    rw [e3, cV_some]
    exact ⟨x, rfl, e4⟩
  have thr : ∀ {c : Option PO} {X : Except ER (TkS × AS)}, xM g u t b n c X → xM g u t b n (cV c (fun g1 u2 => run M_TM_command 94 [vA t] [] g1 u2) noX) (xb X fun p => xb (xEnd b n p.1) fun T' => .ok (T', p.2)) := fun {c X} z => by
    obtain ⟨v, e1, f1, ⟨e, x1, m1⟩ | ⟨a, x1, m1⟩⟩ := z
    · rw [e1, cV_some, x1, w94 m1]
      exact xM_er f1 rfl rfl m1
    · rw [e1, cV_some, x1]
      exact xM_tr f1 (g94 m1)
  rw [C_TM_command, gd_O hk.1.1, TM_is hk h.1 wTxs.2.2.2.2.2.2.1 (by decide), cI_some]
  unfold xOne
  by_cases c1 : isW b T wPlace
  · rw [bI_t c1, if_neg (show ¬ (1 : Int) = 0 by decide), gd_O hk.1.1, if_pos c1]
    exact thr (TM_placeTold hk h hw)
  · rw [bI_f c1, if_pos rfl, gd_O hk.1.1, TM_is hk h.1 wTxs.2.2.1 (by decide), cI_some, if_neg c1]
    by_cases c2 : isW b T wStrap
    · rw [bI_t c2, if_neg (show ¬ (1 : Int) = 0 by decide), gd_O hk.1.1, if_pos c2]
      exact thr (TM_strapTold hk h hw)
    · rw [bI_f c2, if_pos rfl, gd_O hk.1.1, TM_is hk h.1 wTxs.2.2.2.2.2.2.2.2.2.2.2.2 (by decide), cI_some, if_neg c2]
      by_cases c3 : isW b T wPass
      · rw [bI_t c3, if_neg (show ¬ (1 : Int) = 0 by decide), if_pos c3, R_TM_command_50, gd_O hk.1.1, G_w0 hk, cV_some, gd_O hk.1.1, if_pos h.2.1.1, gd_O hk.1.1]
        obtain ⟨v1, e1, f1⟩ := TM_mayPass (g := g) (u := u) hk.1 (sok h)
        rw [h.2.2] at e1
        have s1 : MdS v1 t b n T A := h.fr (fun a k q1 q2 q3 q4 => f1 a k (by omega) q3 q4) (by rw [f1.s]; exact h.2.2)
        have hf1 : FP t u v1 := f1.fp
        rw [e1, cI_some]
        by_cases c4 : aMayN A
        · obtain ⟨v2, e2, A2, f2⟩ := TM_passes (g := g) (u := v1) hk.1 (sok s1)
          rw [s1.2.2] at A2
          rw [bI_t c4, if_neg (show ¬ (1 : Int) = 0 by decide), if_pos c4, R_TM_command_74, gd_O hk.1.1, G_w0 hk, cV_some, gd_O hk.1.1, if_pos s1.2.1.1, gd_O hk.1.1, e2, cI_some, gd_O hk.1.1]
          obtain ⟨v3, hv3⟩ : ∃ v, v = up v2 t 23 (w ((absM (v1 (t + 1))).ps + 1)) := ⟨_, rfl⟩
          have s3 : MdS v3 t b n T (aTurn A (w (A.ps + 1))) := s1.fr (fun a k q1 q2 q3 q4 => by rw [hv3, up_n (by omega), f2 a k (by omega) q3 q4 q2]) (by
            rw [show v3 (t + 1) = v2 (t + 1) from funext fun k => by rw [hv3, up_o (by omega)]]
            exact A2)
          have f3 : FP t v1 v3 := fun a k q1 q2 q3 q4 => by rw [hv3, up_n (by omega), f2 a k (by omega) q3 q4 q2]
          rw [← hv3]
          exact xM_tr (hf1.tr f3) (g94 s3)
        · obtain ⟨w1, w2⟩ := wE_E s1.1 6
          have w22 := w1.2.1
          rw [bI_f c4, if_pos rfl, if_neg c4, R_TM_command_74, gd_O hk.1.1, G_w1 hk s1.2.1.1, cV_some, gd_O hk.1.1, if_neg (by omega), w94 w1]
          exact xM_er (hf1.tr w2) rfl rfl w1
      · obtain ⟨w1, w2⟩ := wE_E h.1 1
        have w22 := w1.2.1
        rw [bI_f c3, if_pos rfl, if_neg c3, R_TM_command_50, gd_O hk.1.1, G_w1 hk h.2.1.1, cV_some, gd_O hk.1.1, if_neg (by omega), w74 w1]
        exact xM_er w2 rfl rfl w1
theorem TM_cmds2 (hk : kMd g t) : ∀ (d : Nat) (i : Int) (u : PM) (T : TkS) (A : AS), i + d ≤ 601 → 0 ≤ i → 601 ≤ d + T.2.1 → MdS u t b n T A → wf A →
    ∃ v j, FP t u v ∧ run M_TM_commands 2 [vA t, vI i] [] g u = run M_TM_commands 26 [vA t, vI j] [] g v ∧ ((∃ e, xCmds b n d i T A = .error e ∧ MdE v t b n e) ∨ (∃ a, xCmds b n d i T A = .ok a ∧ j = a.1 ∧ ∃ T', MdS v t b n T' a.2)) := by
  intro d
  induction d with
  | zero =>
    intro i u T A hi i0 hT h hw
    have := h.1.2.2.2
    have := h.1.1.2.2.1
    unfold tOkk at *
    omega
  | succ d ih =>
    intro i u T A hi i0 hT h hw
    rw [R_TM_commands_2, gd_O hk.1.1, if_pos h.2.1.1, gd_O hk.1.1]
    by_cases c0 : T.1 = 0
    · rw [if_pos (by rw [h.1.2.1.1]; exact c0)]
      refine ⟨u, i, FP.rfl', rfl, Or.inr ⟨(i, A), ?_, rfl, T, h⟩⟩
      unfold xCmds
      rw [if_pos c0]
    · have ex : xCmds b n (d + 1) i T A = xb (xb (xOne b n T A) fun p => xb (xEnd b n p.1) fun T' => (.ok (T', p.2) : Except ER (TkS × AS))) fun a => xCmds b n d (i + 1) a.1 a.2 := by
        show (if T.1 = 0 then _ else xb (xOne b n T A) fun p => xb (xEnd b n p.1) fun T' => xCmds b n d (i + 1) T' p.2) = _
        rw [if_neg c0]
        cases xOne b n T A with
        | error e => rfl
        | ok p =>
          show xb (xEnd b n p.1) _ = xb (xb (xEnd b n p.1) _) _
          cases xEnd b n p.1 with
          | error e => rfl
          | ok t => rfl
      rw [if_neg (by rw [h.1.2.1.1]; exact c0), gd_O hk.1.1]
      obtain ⟨v, e1, f1, ⟨e, x1, m1⟩ | ⟨a, x1, m1⟩⟩ := TM_command (g := g) hk h hw
      · have w22 := m1.2.1
        rw [e1, cV_some, R_TM_commands_2, gd_O hk.1.1, if_neg (by omega)]
        exact ⟨v, _, f1, rfl, Or.inl ⟨e, by rw [ex, x1]; rfl, m1⟩⟩
      · obtain ⟨p, y1, y2⟩ := xb_ok x1
        obtain ⟨T', y3, y4⟩ := xb_ok y2
        injection y4 with y4
        have g1 := xOne_gr h.1.2.2.2 y1
        have g2 := xEnd_gr g1.1 y3
        have o1 := g1.1
        unfold tOkk at o1
        have ha : a.1 = T' ∧ a.2 = p.2 := by rw [← y4]; exact ⟨rfl, rfl⟩
        obtain ⟨v2, j, f2, e2, h2⟩ := ih (i + 1) v a.1 a.2 (by omega) (by omega) (by rw [ha.1]; omega) m1 (by rw [ha.2]; exact xOne_ok hw y1)
        refine ⟨v2, j, f1.tr f2, ?_, ?_⟩
        · rw [e1, cV_some, w_id (x := i + 1) (by omega) (by omega), e2]
        · rw [ex, x1]
          exact h2
end
