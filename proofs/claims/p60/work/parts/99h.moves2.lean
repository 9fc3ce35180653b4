/-! ===== p60: one move of the law ===== -/
/-- what a move leaves -/
def Mv (X X' : SX) : Prop := X'.2.2.2 = X.2.2.2 ∧ ((X'.1 = X.1 ∧ X'.2.1 = X.2.1) ∨ (X'.2.1 = hPush X.2.1 X.1 ∧ aPm X'.1 ≠ aPm X.1))
def MvA (X : SX) (k : Nat) (o : Option PO) : Prop := ∃ X', Mv X X' ∧ Ask X' k o 1
section
variable {g : PG} {u : PM} {X : SX} {k : Nat}
theorem mv_same {o : Option PO} (h : Ask X k o 1) : MvA X k o := ⟨X, ⟨rfl, Or.inl ⟨rfl, rfl⟩⟩, h⟩
theorem mv_ch {A' : AS} {o : Option PO} (h : Ask (XP X A') k o 1) (hm : aPm A' ≠ aPm X.1) : MvA X k o := ⟨XP X A', ⟨rfl, Or.inr ⟨rfl, hm⟩⟩, h⟩
theorem mv_up {k' : Nat} {o : Option PO} (h : MvA X k o) (hk : k ≤ k') : MvA X k' o := by
  obtain ⟨X', a, b⟩ := h
  exact ⟨X', a, b.up hk⟩
theorem mv_d {d : Int} {o : Option PO} (h : MvA (XD X d) k o) : MvA X k o := by
  obtain ⟨X', a, b⟩ := h
  exact ⟨X', a, b⟩
theorem mv_no {A : AS} (h : wf A) : 0 ≤ A.mv ∧ A.mv ≤ 1 := by
  rcases h.2.2.1.1 with e | e <;> omega
theorem pm_turn {A : AS} (h : wf A) (hp : ¬ 2 ≤ A.ps) {q : Int} : aPm (aTurn A q) ≠ aPm A := by
  have m := mv_no h
  have e : (aTurn A q).mv = 1 - A.mv := show w (1 - A.mv) = 1 - A.mv from w_id (by omega) (by omega)
  have e2 : (aTurn A q).ps = q := rfl
  unfold aPm
  rw [e, e2, if_neg hp]
  split <;> omega
theorem pm_put {A : AS} (h : wf A) (hp : ¬ 2 ≤ A.ps) {s r x y : Int} : aPm (aPut A s r x y) = 1 - A.mv ∧ aPm A = A.mv := by
  have m := mv_no h
  have e : (aPut A s r x y).mv = 1 - A.mv := show w (1 - A.mv) = 1 - A.mv from w_id (by omega) (by omega)
  have e2 : (aPut A s r x y).ps = 0 := rfl
  unfold aPm
  rw [e, e2, if_neg hp, if_neg (by decide)]
  exact ⟨rfl, rfl⟩
theorem pm_strap {A : AS} (h : wf A) (hp : ¬ 2 ≤ A.ps) {x y s : Int} : aPm (aStrap A x y s) = 1 - A.mv ∧ aPm A = A.mv := by
  have m := mv_no h
  have e : (aStrap A x y s).mv = 1 - A.mv := show w (1 - A.mv) = 1 - A.mv from w_id (by omega) (by omega)
  have e2 : (aStrap A x y s).ps = 0 := rfl
  unfold aPm
  rw [e, e2, if_neg hp, if_neg (by decide)]
  exact ⟨rfl, rfl⟩
theorem b01_then {P : Option PO → Prop} {o : Option PO} {v : Int} (h : b01 v = true) (ho : P o) : P (bif b01 v then o else none) := by rw [h]; exact ho
theorem aMov_bd (A : AS) (p : Int) : 0 ≤ aMov A p ∧ aMov A p ≤ 1280 := by
  have := sumI_bd (f := fun s => if 0 < (aPl A p).2.2.2.1 s then bFit A.bd s else 0) (n := 5) (b := 256) fun s _ _ => by
    have := bFit_bd A.bd s
    split <;> omega
  unfold aMov
  omega
section
variable {s r x y : Int}
/-- places(): whatever is drawn -/
theorem L_places (h : St X k g u) (hp : ¬ 2 ≤ X.1.ps) (hs : 0 ≤ s ∧ s < 5) (hr : 0 ≤ r ∧ r < 4) (hi : bIn X.1.bd x y) : MvA X (k + 1) (call M_L_places [vA 1, vI s, vI r, vI x, vI y, vI X.1.mv] g u) := by
  let P : Option PO → Prop := fun o => MvA X (k + 1) o
  have m := mv_no h.w
  have m01 : X.1.mv = 0 ∨ X.1.mv = 1 := h.w.2.2.1.1
  have n01 : 1 - X.1.mv = 0 ∨ 1 - X.1.mv = 1 := by omega
  have wm : w (1 - X.1.mv) = 1 - X.1.mv := w_id (by omega) (by omega)
  have hb := bPts_le (r := r) (y := y) h.w.1.1 hs
  rw [C_L_places]
  refine (q_pointsFor h hs hr hi).go (P := P) fun g1 u1 h1 => (q_supply h1 m01 hs).go (P := P) fun g2 u2 h2 => ?_
  have e31 : (if 0 < (aPl X.1 X.1.mv).2.2.2.1 s then (if aPtsFor X.1 s r x y < 0 then run M_L_places 31 [vA 1, vI s, vI r, vI x, vI y, vI X.1.mv, vI (aPtsFor X.1 s r x y), vN, vN, vN, vN, vN, vN, vN, vN] [vI 0] g2 u2 else run M_L_places 31 [vA 1, vI s, vI r, vI x, vI y, vI X.1.mv, vI (aPtsFor X.1 s r x y), vN, vN, vN, vN, vN, vN, vN, vN] [vI 1] g2 u2) else run M_L_places 31 [vA 1, vI s, vI r, vI x, vI y, vI X.1.mv, vI (aPtsFor X.1 s r x y), vN, vN, vN, vN, vN, vN, vN, vN] [vI 0] g2 u2) = run M_L_places 31 [vA 1, vI s, vI r, vI x, vI y, vI X.1.mv, vI (aPtsFor X.1 s r x y), vN, vN, vN, vN, vN, vN, vN, vN] [vI (bI (aMayP X.1 s r x y))] g2 u2 := by
    by_cases z1 : 0 < (aPl X.1 X.1.mv).2.2.2.1 s
    · rw [if_pos z1]
      by_cases z2 : bMis X.1.bd s r x y = 0
      · rw [if_neg (by unfold aPtsFor; rw [if_pos z2]; omega), bI_t ⟨hp, z1, z2⟩]
      · rw [if_pos (by unfold aPtsFor; rw [if_neg z2]; decide), bI_f fun z => z2 z.2.2]
    · rw [if_neg z1, bI_f fun z => z1 z.2.1]
  rw [e31, R_L_places_31, wm]
  refine (q_after h2 hs hr hi m01).go (P := P) fun g3 u3 h3 => (q_after h3 hs hr hi n01).go (P := P) fun g4 u4 h4 => (q_mobility h4 n01).go (P := P) fun g5 u5 h5 => (q_score h5 m01).go (P := P) fun g6 u6 h6 => ?_
  rw [R_L_places_79]
  refine h6.td (P := P) ((d_pieceCount h6).go (P := P) fun g7 u7 h7 => (q_misfit h7 hs hr hi).go (P := P) fun g8 u8 h8 => ?_)
  have e117 : ∀ (g : PG) (u : PM) (a8 a9 a10 a11 a12 a14 : Int), (if bMis X.1.bd s r x y = 0 then run M_L_places 117 [vA 1, vI s, vI r, vI x, vI y, vI X.1.mv, vI (aPtsFor X.1 s r x y), vI (bI (aMayP X.1 s r x y)), vI a8, vI a9, vI a10, vI a11, vI a12, vI (bMis X.1.bd s r x y), vI a14] [vI 1] g u else run M_L_places 117 [vA 1, vI s, vI r, vI x, vI y, vI X.1.mv, vI (aPtsFor X.1 s r x y), vI (bI (aMayP X.1 s r x y)), vI a8, vI a9, vI a10, vI a11, vI a12, vI (bMis X.1.bd s r x y), vI a14] [vI 0] g u) = run M_L_places 127 [vA 1, vI s, vI r, vI x, vI y, vI X.1.mv, vI (aPtsFor X.1 s r x y), vI (bI (aMayP X.1 s r x y)), vI a8, vI a9, vI a10, vI a11, vI a12, vI (bMis X.1.bd s r x y), vI a14] [vI (bI (bMis X.1.bd s r x y = 0)), vI (bI (bMis X.1.bd s r x y = 0))] g u := by
    intro g u a8 a9 a10 a11 a12 a14
    by_cases z2 : bMis X.1.bd s r x y = 0
    · rw [if_pos z2, R_L_places_117, if_neg (by unfold aPtsFor; rw [if_pos z2]; omega), bI_t z2]
    · rw [if_neg z2, R_L_places_117, if_pos (by unfold aPtsFor; rw [if_neg z2]; decide), bI_f z2]
  by_cases hm : aMayP X.1 s r x y
  · refine (c_place h8 hs hr hi hm).go (P := P) fun g9 u9 h9 => ?_
    have hpt : aPtsFor X.1 s r x y = bPts X.1.bd s r y := if_pos hm.2.2
    have hsc := h.x.sc2 X.1.mv
    have hn := h.w.1.2.2
    have hpm := pm_put (s := s) (r := r) (x := x) (y := y) h.w hp
    have Q : ∀ {o : Option PO}, Ask (XP X (aPut X.1 s r x y)) k o 1 → P o := fun ho => mv_ch (ho.up (by omega)) (by rw [hpm.1, hpm.2]; omega)
    rw [e117, R_L_places_127]
    refine ite_t (P := P) rfl (ite_f (P := P) (by rw [bI_t hm]; decide) (ite_t (P := P) hpt.symm ?_))
    have m01' : X.1.mv = 0 ∨ X.1.mv = 1 := m01
    refine (q_score h9 m01').go (P := P) fun gA uA hA => ite_t (P := P) ?_ ?_
    · have e : (aPl (aPut X.1 s r x y) X.1.mv).1 = (aPl X.1 X.1.mv).1 + bPts X.1.bd s r y := by
        show (if X.1.mv = 0 then (if X.1.mv = 0 then psSc (psSu (aPl X.1 X.1.mv) s (w ((aPl X.1 X.1.mv).2.2.2.1 s - 1))) (w ((aPl X.1 X.1.mv).1 + bPts X.1.bd s r y)) else X.1.p0) else (if X.1.mv = 0 then X.1.p1 else psSc (psSu (aPl X.1 X.1.mv) s (w ((aPl X.1 X.1.mv).2.2.2.1 s - 1))) (w ((aPl X.1 X.1.mv).1 + bPts X.1.bd s r y)))).1 = _
        rw [w_id (x := (aPl X.1 X.1.mv).1 + bPts X.1.bd s r y) (by omega) (by omega)]
        by_cases z : X.1.mv = 0
        · simp only [if_pos z]; rfl
        · simp only [if_neg z]; rfl
      show (aPl (aPut X.1 s r x y) X.1.mv).1 = w ((aPl X.1 X.1.mv).1 + aPtsFor X.1 s r x y)
      rw [e, hpt, w_id (by omega) (by omega)]
    · refine hA.td (P := P) ((d_pieceCount hA).go (P := P) fun gB uB hB => ite_t (P := P) ?_ ?_)
      · show X.1.n + 1 = w (X.1.n + 1)
        rw [w_id (by omega) (by omega)]
      · refine (q_pieceOwner (p := X.1.n) hB hn.1 (by show X.1.n < X.1.n + 1; omega)).go (P := P) fun gC uC hC => ite_t (P := P) ?_ ?_
        · show (if 4 < 6 ∧ X.1.n = X.1.n then [s, r, x, y, X.1.mv, bPts X.1.bd s r y].getD 4 0 else X.1.pc 4 X.1.n) = X.1.mv
          rw [if_pos ⟨by decide, rfl⟩]
          rfl
        · refine hC.td (P := P) ((d_playerToMove hC).go (P := P) fun gD uD hD => ite_t (P := P) ?_ ?_)
          · show aPm (aPut X.1 s r x y) = w (1 - X.1.mv)
            rw [hpm.1, wm]
          · rw [R_L_places_225, wm]
            refine (q_mobility hD m01').go (P := P) fun gE uE hE => ite_t (P := P) ?_ ?_
            · show aMov (aPut X.1 s r x y) X.1.mv = if aMayP X.1 s r x y then aMov (aPut X.1 s r x y) X.1.mv else -1
              rw [if_pos hm]
            · refine (q_mobility hE n01).go (P := P) fun gF uF hF => ite_t (P := P) ?_ (ite_f (P := P) ?_ ?_)
              · show aMov (aPut X.1 s r x y) (1 - X.1.mv) = if aMayP X.1 s r x y then aMov (aPut X.1 s r x y) (1 - X.1.mv) else -1
                rw [if_pos hm]
              · show ¬ aMov X.1 (1 - X.1.mv) < if aMayP X.1 s r x y then aMov (aPut X.1 s r x y) (1 - X.1.mv) else -1
                rw [if_pos hm]
                have := aMov_put h.w hs hr hm (1 - X.1.mv)
                omega
              · exact Q hF.ret
  · refine (c_placeNo h8 hs hr hi hm).go (P := P) fun g9 u9 h9 => ?_
    rw [e117, R_L_places_127]
    refine ite_t (P := P) rfl (ite_t (P := P) (bI_f hm) (ite_t (P := P) rfl (ite_t (P := P) (if_neg hm) (ite_t (P := P) (if_neg hm) ?_))))
    exact h9.td (P := P) ((d_pieceCount h9).go (P := P) fun gA uA hA => ite_t (P := P) rfl (mv_same hA.ret))
end
section
/-- a strap, a pass, a drawn placement, a best one -/
theorem mv_strap (h : St X k g u) (hp : ¬ 2 ≤ X.1.ps) {x y : Int} (hx : 0 ≤ x ∧ x < X.1.bd.1) (hy : 0 ≤ y ∧ y < X.1.bd.2.1) : MvA X (k + 1) (run M_L_moves 112 [vA 1, vA 0, vI X.1.mv, vI (1 - X.1.mv), vI (aMov X.1 (1 - X.1.mv)), vI x, vI y, vN, vN, vN, vN, vN, vN] [] g u) := by
  have m := mv_no h.w
  have m01 : X.1.mv = 0 ∨ X.1.mv = 1 := h.w.2.2.1.1
  have n01 : 1 - X.1.mv = 0 ∨ 1 - X.1.mv = 1 := by omega
  rw [R_L_moves_112]
  obtain ⟨s, d, hs, qd⟩ := q_draw h (n := 2) (by decide)
  refine qd.go (P := fun o => MvA X (k + 1) o) fun g1 u1 h1 => mv_d (d := d) ?_
  have h := h1
  generalize hX : XD X d = Y at h ⊢
  have eY : X.1 = Y.1 := by rw [← hX]
  rw [eY] at hx hy hp m m01 n01 ⊢
  clear h1 qd hX eY
  let P : Option PO → Prop := fun o => MvA Y (k + 1) o
  refine (q_strapsLeft h m01).go (P := P) fun g2 u2 h2 => h2.td (P := P) ((d_strapCount h2).go (P := P) fun g3 u3 h3 => (q_mobility h3 m01).go (P := P) fun g4 u4 h4 => ?_)
  rw [R_L_moves_139]
  obtain ⟨v, hv, qv⟩ := d_effect h4
  rw [if_neg hp] at hv
  refine h4.td (P := P) (qv.go (P := P) fun g5 u5 h5 => ?_)
  have hs01 : s = 0 ∨ s = 1 := by omega
  have hst := (wf_pl h.w Y.1.mv).1
  have hB := h.w.1.1
  have bS := sumI_bd (f := fun k => bI (Y.1.bd.2.2.2 k ≠ 0)) (n := 128) (b := 1) fun _ _ _ => bI_bd _
  by_cases hm : bEdge Y.1.bd x y s ∧ aMayS Y.1 x y s
  · obtain ⟨hE, hm⟩ := hm
    refine (c_strap h5 hs01 hE hm).go (P := P) fun g6 u6 h6 => ite_f (P := P) (by have := hm.2.1; omega) ?_
    have hpm := pm_strap (x := x) (y := y) (s := s) h.w hp
    have Q : ∀ {o : Option PO}, Ask (XP Y (aStrap Y.1 x y s)) k o 1 → P o := fun ho => mv_ch (ho.up (by omega)) (by rw [hpm.1, hpm.2]; omega)
    refine ite_t (P := P) (by rw [w_id (by omega) (by omega)]) ?_
    have eb : (aStrap Y.1 x y s).bd = bSS Y.1.bd (2 * (8 * y + x) + s) 1 := if_pos ⟨by omega, hE⟩
    have hC := hB.1
    have hR := hB.2.1
    refine h6.td (P := P) ((d_strapCount h6).go (P := P) fun g7 u7 h7 => ite_t (P := P) ?_ ?_)
    · show bStn (aStrap Y.1 x y s).bd = w (bStn Y.1.bd + 1)
      have z : Y.1.bd.2.2.2 (2 * (8 * y + x) + s) = 0 := by
        have q := hm.2.2.1
        unfold bStrap at q
        rw [if_pos ⟨hE.1, by omega⟩] at q
        exact q
      have e : bStn (bSS Y.1.bd (2 * (8 * y + x) + s) 1) = bStn Y.1.bd + 1 := by
        refine sumI_chg (k := 2 * (8 * y + x) + s) (by omega) (by omega) ?_ fun j j0 j1 jk => ?_
        · show bI (setI Y.1.bd.2.2.2 (2 * (8 * y + x) + s) 1 (2 * (8 * y + x) + s) ≠ 0) = bI (Y.1.bd.2.2.2 (2 * (8 * y + x) + s) ≠ 0) + 1
          rw [setI_s, z]
          rfl
        · show bI (setI Y.1.bd.2.2.2 (2 * (8 * y + x) + s) 1 j ≠ 0) = bI (Y.1.bd.2.2.2 j ≠ 0)
          rw [setI_o jk]
      have bS : 0 ≤ bStn Y.1.bd ∧ bStn Y.1.bd ≤ 128 := bS
      rw [eb, e, w_id (by omega) (by omega)]
    · refine h7.td (P := P) ((d_playerToMove h7).go (P := P) fun g8 u8 h8 => ite_t (P := P) hpm.1 ?_)
      rw [R_L_moves_215]
      have b1 := aMov_bd Y.1 (1 - Y.1.mv)
      have b2 := aMov_bd (aStrap Y.1 x y s) (1 - Y.1.mv)
      have d1 := aMov_strap h.w hs01 hE (1 - Y.1.mv)
      have d2 := aMov_strap h.w hs01 hE Y.1.mv
      have x1 := xT_nn Y.1.bd (aPl Y.1 (1 - Y.1.mv)).2.2.2.1 (2 * (8 * y + x) + s)
      have x2 := xT_nn Y.1.bd (aPl Y.1 Y.1.mv).2.2.2.1 (2 * (8 * y + x) + s)
      have ef := hv.2.1 x y s hs01 hE hm
      refine (q_mobility h8 n01).go (P := P) fun g9 u9 h9 => ite_f (P := P) ?_ ((q_mobility h9 m01).go (P := P) fun gA uA hA => ite_f (P := P) ?_ ((q_mobility hA n01).go (P := P) fun gB uB hB => ite_f (P := P) ?_ (Q hB.ret)))
      · show ¬ aMov Y.1 (1 - Y.1.mv) < aMov (aStrap Y.1 x y s) (1 - Y.1.mv)
        omega
      · show ¬ aMov Y.1 Y.1.mv < aMov (aStrap Y.1 x y s) Y.1.mv
        omega
      · show ¬ v < w (aMov Y.1 (1 - Y.1.mv) - aMov (aStrap Y.1 x y s) (1 - Y.1.mv))
        rw [w_id (by omega) (by omega)]
        omega
  · obtain ⟨v2, hv2, q2⟩ := c_strapNo h5 hs01 ⟨hx, hy⟩ hm
    refine q2.go (P := P) fun g6 u6 h6 => ite_t (P := P) hv2 (h6.td (P := P) ((d_strapCount h6).go (P := P) fun g7 u7 h7 => ite_t (P := P) rfl ((q_strapsLeft h7 m01).go (P := P) fun g8 u8 h8 => ite_t (P := P) rfl ?_)))
    rw [R_L_moves_181]
    exact mv_same h8.ret
theorem mv_pass (h : St X k g u) (hp : ¬ 2 ≤ X.1.ps) {a3 a4 : Int} : MvA X (k + 1) (run M_L_moves 254 [vA 1, vA 0, vI X.1.mv, vI a3, vI a4, vN, vN, vN, vN, vN, vN, vN, vN] [] g u) := by
  let P : Option PO → Prop := fun o => MvA X (k + 1) o
  have m01 : X.1.mv = 0 ∨ X.1.mv = 1 := h.w.2.2.1.1
  have hps := h.w.2.2.1.2
  have wp : w (X.1.ps + 1) = X.1.ps + 1 := w_id (by omega) (by omega)
  rw [R_L_moves_254]
  refine (q_mobility h m01).go (P := P) fun g1 u1 h1 => ?_
  by_cases z : aMov X.1 X.1.mv = 0
  · refine ite_t (P := P) z ?_
    rw [R_L_moves_267]
    refine (c_pass h1 ⟨hp, z⟩).go (P := P) fun g2 u2 h2 => ite_f (P := P) (by decide) (ite_f (P := P) (by rw [wp]; omega) ?_)
    have Q : ∀ {o : Option PO}, Ask (XP X (aTurn X.1 (w (X.1.ps + 1)))) k o 1 → P o := fun ho => mv_ch (ho.up (by omega)) (pm_turn h.w hp)
    have eps : (aTurn X.1 (w (X.1.ps + 1))).ps = X.1.ps + 1 := wp
    by_cases z2 : w (X.1.ps + 1) = 2
    · refine ite_t (P := P) z2 ?_
      rw [R_L_moves_297]
      refine h2.td (P := P) ((d_isOver h2).go (P := P) fun g3 u3 h3 => ite_t (P := P) ?_ (Q h3.ret))
      show 1 = bI (2 ≤ (aTurn X.1 (w (X.1.ps + 1))).ps)
      rw [bI_t (by omega)]
    · refine ite_f (P := P) z2 ?_
      rw [R_L_moves_297]
      refine h2.td (P := P) ((d_isOver h2).go (P := P) fun g3 u3 h3 => ite_t (P := P) ?_ (Q h3.ret))
      show 0 = bI (2 ≤ (aTurn X.1 (w (X.1.ps + 1))).ps)
      rw [bI_f (by omega)]
  · refine ite_f (P := P) z ?_
    rw [R_L_moves_267]
    exact (c_passNo h1 fun q => z q.2).go (P := P) fun g2 u2 h2 => ite_t (P := P) rfl (ite_t (P := P) rfl (mv_same h2.ret))
theorem mvA_then {o : Option PO} (h : MvA X k o) : MvA X k (cI o (fun (x : Int) (g : PG) (u : PM) => bif b01 x then some (0, vI x, g, u) else none) noX) := by
  obtain ⟨X', a, g', u', rfl, b⟩ := h
  exact ⟨X', a, g', u', rfl, b⟩
theorem mv_drawn (h : St X k g u) (hp : ¬ 2 ≤ X.1.ps) {a3 a4 : Int} : MvA X (k + 1) (run M_L_moves 325 [vA 1, vA 0, vI X.1.mv, vI a3, vI a4, vN, vN, vN, vN, vN, vN, vN, vN] [] g u) := by
  let P : Option PO → Prop := fun o => MvA X (k + 1) o
  have hC := h.w.1.1.1
  have hR := h.w.1.1.2.1
  rw [R_L_moves_325]
  obtain ⟨s, d1, hs, q1⟩ := q_draw h (n := 5) (by decide)
  refine q1.go (P := P) fun g1 u1 h1 => ?_
  obtain ⟨r, d2, hr, q2⟩ := q_draw h1 (n := 4) (by decide)
  refine q2.go (P := P) fun g2 u2 h2 => h2.td (P := P) ((d_columns h2).go (P := P) fun g3 u3 h3 => ?_)
  obtain ⟨c0, r0⟩ := h.x.2.1.1
  · obtain ⟨x, d3, hx, q3⟩ := q_draw h3 (n := X.1.bd.1) ⟨c0, by omega⟩
    refine q3.go (P := P) fun g4 u4 h4 => ?_
    rw [R_L_moves_349]
    refine h4.td (P := P) ((d_rows h4).go (P := P) fun g5 u5 h5 => ?_)
    · obtain ⟨y, d4, hy, q4⟩ := q_draw h5 (n := X.1.bd.2.1) ⟨r0, by omega⟩
      refine q4.go (P := P) fun g6 u6 h6 => ?_
      exact mv_d (d := d1) (mv_d (d := d2) (mv_d (d := d3) (mv_d (d := d4) (mvA_then (L_places h6 hp hs hr ⟨hx, hy⟩)))))
theorem mv_best (h : St X k g u) (hp : ¬ 2 ≤ X.1.ps) {a3 a4 : Int} : MvA X (k + 1) (run M_L_moves 373 [vA 1, vA 0, vI X.1.mv, vI a3, vI a4, vN, vN, vN, vN, vN, vN, vN, vN] [] g u) := by
  let P : Option PO → Prop := fun o => MvA X (k + 1) o
  have hC := h.w.1.1.1
  have hR := h.w.1.1.2.1
  have m01 : X.1.mv = 0 ∨ X.1.mv = 1 := h.w.2.2.1.1
  have hps := h.w.2.2.1.2
  have wp : w (X.1.ps + 1) = X.1.ps + 1 := w_id (by omega) (by omega)
  obtain ⟨c0, r0⟩ := h.x.2.1.1
  rw [R_L_moves_373]
  refine h.td (P := P) ((d_bestShape h).go (P := P) fun g1 u1 h1 => ?_)
  rcases best_of h.w hp with ⟨b1, b2⟩ | ⟨b1, b2, b3, b4, b5⟩
  · refine ite_t (P := P) b1 ((q_mobility h1 m01).go (P := P) fun g2 u2 h2 => ite_t (P := P) b2 ?_)
    refine (c_pass h2 ⟨hp, b2⟩).go (P := P) fun g3 u3 h3 => ite_f (P := P) (by rw [wp]; omega) ?_
    exact mv_ch (h3.ret.up (by omega)) (pm_turn h.w hp)
  · refine ite_f (P := P) (by omega) ?_
    obtain ⟨r, d1, hr, q1⟩ := q_draw h1 (n := 4) (by decide)
    refine q1.go (P := P) fun g2 u2 h2 => h2.td (P := P) ((d_columns h2).go (P := P) fun g3 u3 h3 => ?_)
    obtain ⟨x, d2, hx, q2⟩ := q_draw h3 (n := X.1.bd.1) ⟨c0, by omega⟩
    refine q2.go (P := P) fun g4 u4 h4 => ?_
    rw [R_L_moves_424]
    refine h4.td (P := P) ((d_rows h4).go (P := P) fun g5 u5 h5 => ?_)
    obtain ⟨y, d3, hy, q3⟩ := q_draw h5 (n := X.1.bd.2.1) ⟨r0, by omega⟩
    refine q3.go (P := P) fun g6 u6 h6 => mv_d (d := d1) (mv_d (d := d2) (mv_d (d := d3) ?_))
    let Q : Option PO → Prop := fun o => MvA (XD (XD (XD X d1) d2) d3) (k + 1) o
    have hbp := bPts_le (r := (aBest X.1).2.1) (y := (aBest X.1).2.2.2.1) h.w.1.1 b1
    refine h6.td (P := Q) ((d_bestRotation h6).go (P := Q) fun g7 u7 h7 => h7.td (P := Q) ((d_bestColumn h7).go (P := Q) fun g8 u8 h8 => h8.td (P := Q) ((d_bestRow h8).go (P := Q) fun g9 u9 h9 => ?_)))
    refine (q_pointsFor h9 b1 b2 b3).go (P := Q) fun gA uA hA => ?_
    have ep : aPtsFor X.1 (aBest X.1).1 (aBest X.1).2.1 (aBest X.1).2.2.1 (aBest X.1).2.2.2.1 = bPts X.1.bd (aBest X.1).1 (aBest X.1).2.1 (aBest X.1).2.2.2.1 := if_pos b4.2.2
    show Q (run M_L_moves 454 [vA 1, vA 0, vI X.1.mv, vI a3, vI a4, vI (aBest X.1).1, vI r, vI x, vI y, vI (aPtsFor X.1 (aBest X.1).1 (aBest X.1).2.1 (aBest X.1).2.2.1 (aBest X.1).2.2.2.1), vN, vN, vN] [] gA uA)
    rw [ep, R_L_moves_454]
    refine (q_pointsFor hA b1 hr (x := x) (y := y) ⟨hx, hy⟩).go (P := Q) fun gB uB hB => ite_f (P := Q) ?_ (ite_f (P := Q) (by omega) ?_)
    · show ¬ bPts X.1.bd (aBest X.1).1 (aBest X.1).2.1 (aBest X.1).2.2.2.1 < aPtsFor X.1 (aBest X.1).1 r x y
      unfold aPtsFor
      by_cases z : bMis X.1.bd (aBest X.1).1 r x y = 0
      · rw [if_pos z]
        have := b5 r x y hr ⟨hx, hy⟩ z
        omega
      · rw [if_neg z]
        omega
    · refine hB.td (P := Q) ((d_bestRotation hB).go (P := Q) fun gC uC hC => hC.td (P := Q) ((d_bestColumn hC).go (P := Q) fun gD uD hD => hD.td (P := Q) ((d_bestRow hD).go (P := Q) fun gE uE hE => ?_)))
      exact mvA_then (L_places hE hp b1 b2 b3)
theorem L_moves (h : St X k g u) : MvA X (k + 1) (call M_L_moves [vA 1, vA 0] g u) := by
  let P : Option PO → Prop := fun o => MvA X (k + 1) o
  have hC := h.w.1.1.1
  have hR := h.w.1.1.2.1
  have m := mv_no h.w
  have m01 : X.1.mv = 0 ∨ X.1.mv = 1 := h.w.2.2.1.1
  have n01 : 1 - X.1.mv = 0 ∨ 1 - X.1.mv = 1 := by omega
  have wm : w (1 - X.1.mv) = 1 - X.1.mv := w_id (by omega) (by omega)
  rw [C_L_moves]
  refine h.td (P := P) ((d_playerToMove h).go (P := P) fun g1 u1 h1 => ?_)
  by_cases hp : 2 ≤ X.1.ps
  · have e : aPm X.1 = -1 := if_pos hp
    have eb : aBest X.1 = (-1, -1, -1, -1, -1) := if_pos hp
    refine ite_t (P := P) e (h1.td (P := P) ((d_isOver h1).go (P := P) fun g2 u2 h2 => ite_f (P := P) (by rw [bI_t hp]; decide) ?_))
    refine h2.td (P := P) ((d_bestShape h2).go (P := P) fun g3 u3 h3 => ite_t (P := P) (by rw [eb]) ?_)
    obtain ⟨v, hv, qv⟩ := d_effect h3
    rw [if_pos hp] at hv
    refine h3.td (P := P) (qv.go (P := P) fun g4 u4 h4 => ite_t (P := P) hv ?_)
    rw [R_L_moves_33]
    exact (c_passNo h4 fun q => q.1 hp).go (P := P) fun g5 u5 h5 => ite_t (P := P) rfl (mv_same h5.ret)
  · have e : aPm X.1 = X.1.mv := if_neg hp
    rw [e, wm]
    refine ite_f (P := P) (by omega) ((q_mobility h1 n01).go (P := P) fun g2 u2 h2 => ?_)
    obtain ⟨v, d, hv, q1⟩ := q_draw h2 (n := 6) (by decide)
    refine q1.go (P := P) fun g3 u3 h3 => mv_d (d := d) ?_
    let Q : Option PO → Prop := fun o => MvA (XD X d) (k + 1) o
    by_cases v3 : v < 0 ∨ 2 < v
    · exact ite_t (P := Q) v3 (mv_best h3 hp)
    · refine ite_f (P := Q) v3 ?_
      by_cases v0 : v = 0
      · refine ite_t (P := Q) v0 ?_
        obtain ⟨c0, r0⟩ := h.x.2.1.1
        rw [R_L_moves_92]
        refine h3.td (P := Q) ((d_columns h3).go (P := Q) fun g4 u4 h4 => ?_)
        obtain ⟨x, d2, hx, q2⟩ := q_draw h4 (n := X.1.bd.1) ⟨c0, by omega⟩
        refine q2.go (P := Q) fun g5 u5 h5 => h5.td (P := Q) ((d_rows h5).go (P := Q) fun g6 u6 h6 => ?_)
        obtain ⟨y, d3, hy, q3⟩ := q_draw h6 (n := X.1.bd.2.1) ⟨r0, by omega⟩
        refine q3.go (P := Q) fun g7 u7 h7 => mv_d (d := d2) (mv_d (d := d3) ?_)
        exact mv_strap h7 hp hx hy
      · refine ite_f (P := Q) v0 ?_
        by_cases v1 : v = 1
        · exact ite_t (P := Q) v1 (mv_pass h3 hp)
        · exact ite_f (P := Q) v1 (ite_t (P := Q) (by omega) (mv_drawn h3 hp))
end
end
