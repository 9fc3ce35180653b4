/-! ===== p60: isSound, one cell ===== -/
def cSt (B : Bd) (x y s : Int) : Int := if bEdge B x y s then bStrap B x y s else 0
def cDd (B : Bd) (f : Int → Int) (k : Int) : Int := bI (eC B k ∧ rSz B f k = 1)
theorem or0 : ∀ s : Nat, s < 5 → ∀ r : Nat, r < 4 → oR s r 0 = 0 ∧ oD s r 0 = 0 := by decide +kernel
theorem or0' {s r : Int} (hs : 0 ≤ s ∧ s < 5) (hr : 0 ≤ r ∧ r < 4) : oR s r 0 = 0 ∧ oD s r 0 = 0 := by
  have a := or0 s.toNat (by omega) r.toNat (by omega)
  rw [show ((s.toNat : Nat) : Int) = s by omega, show ((r.toNat : Nat) : Int) = r by omega] at a
  exact a
theorem rSz_pos {B : Bd} (hB : bOk B) {f : Int → Int} {k : Int} (hk : eC B k) : 0 < rSz B f k := by
  have b := (eC_bd hB hk).1
  have l := sumI_le (f := fun d => if d = k then (1 : Int) else 0) (f' := fun d => bI (eC B d ∧ f d = f k)) (n := 64) (fun d d0 d1 => by
    by_cases e : d = k
    · rw [if_pos e, bI_t ⟨by rw [e]; exact hk, by rw [e]⟩]
      exact Int.le_refl _
    · rw [if_neg e]
      exact (bI_bd _).1)
  rw [sumI_single (v := fun _ => 1), if_pos ⟨b.1, b.2⟩] at l
  unfold rSz
  omega
section
variable {g : PG} {u : PM} {X : SX} {k : Nat} {e c d m s i x y v : Int} {P : Option PO → Prop}
theorem cell_bd (h : wf X.1) (hin : bIn X.1.bd x y) : -2 ≤ bCell X.1.bd x y ∧ bCell X.1.bd x y < X.1.n := by
  refine ⟨?_, h.2.2.2.1 x y hin⟩
  have b := h.1.1
  have q := h.1.2.1 (8 * y + x) (by have := hin.1; have := hin.2; omega) (by have := b.1; have := b.2.1; have := hin.1; have := hin.2; omega)
  unfold bCell
  rw [if_pos hin]
  exact q.1
/-- the sides of a cell -/
theorem is_side (h : St X k g u) (hin : bIn X.1.bd x y) (hs : 0 ≤ s ∧ s ≤ 100000) {t a10 : Int} (ht : t = 0 ∨ t = 1)
    (hv : v = if 0 ≤ bCell X.1.bd x y then bCell X.1.bd x y else -1) (kk : ∀ g u, St X (k + 1) g u → P (run M_L_isSound 199 [vA 1, vI e, vI c, vI d, vI m, vI (s + cSt X.1.bd x y t), vI y, vI i, vI x, vI v, vI a10, vI (t + 1), vN] [] g u)) :
    P (run M_L_isSound 199 [vA 1, vI e, vI c, vI d, vI m, vI s, vI y, vI i, vI x, vI v, vI a10, vI t, vN] [] g u) := by
  have wt : w (t + 1) = t + 1 := w_id (by omega) (by omega)
  have ws : w (s + 1) = s + 1 := w_id (by omega) (by omega)
  have hC := h.w.1.1.1
  have hR := h.w.1.1.2.1
  have wx : w (x + 1) = x + 1 := w_id (by have := hin.1; omega) (by have := hin.1; omega)
  have wy : w (y + 1) = y + 1 := w_id (by have := hin.2; omega) (by have := hin.2; omega)
  rw [R_L_isSound_199]
  refine ite_t (by omega) ?_
  by_cases hE : bEdge X.1.bd x y t
  · refine (q_hasStrap h ⟨by omega, by omega⟩ hE).go fun g1 u1 h1 => ?_
    have ec : cSt X.1.bd x y t = bStrap X.1.bd x y t := if_pos hE
    rcases strap01 h.w.1.1 x y t with e0 | e1
    · rw [e0] at ec ⊢
      refine ite_f (by decide) ?_
      rw [R_L_isSound_226]
      refine ite_f (by decide) ?_
      rw [wt]
      have := kk g1 u1 (h1.up (by omega))
      rw [ec, Int.add_zero] at this
      exact this
    · rw [e1] at ec ⊢
      refine ite_t rfl ?_
      rw [R_L_isSound_226, ws, wt]
      refine ite_t rfl ?_
      have fin : ∀ g u, St X k g u → P (run M_L_isSound 199 [vA 1, vI e, vI c, vI d, vI m, vI (s + 1), vI y, vI i, vI x, vI v, vI a10, vI (t + 1), vN] [] g u) := fun g u hh => by
        have := kk g u (hh.up (by omega))
        rw [ec] at this
        exact this
      by_cases hv0 : v < 0
      · exact ite_t hv0 (fin g1 u1 h1)
      · have hcell : 0 ≤ bCell X.1.bd x y := by
          by_cases q : 0 ≤ bCell X.1.bd x y
          · exact q
          · rw [if_neg q] at hv; omega
        rw [if_pos hcell] at hv
        have hnb : bCell X.1.bd x y ≠ bBey X.1.bd x y t := fun q => by
          have := h.w.2.2.2.2.2 x y t ht hE hcell q
          omega
        refine ite_f hv0 ?_
        rcases ht with rfl | rfl
        · refine ite_t rfl ?_
          rw [R_L_isSound_252]
          refine ite_t rfl ?_
          rw [R_L_isSound_266, wx]
          have hi2 : bIn X.1.bd (x + 1) y := ⟨⟨by have := hin.1; omega, by have := hE.2; omega⟩, hin.2⟩
          refine (q_pieceAt h1 hi2).go fun g2 u2 h2 => ?_
          have eb : bBey X.1.bd x y 0 = bCell X.1.bd (x + 1) y := if_pos rfl
          rw [eb] at hnb
          refine ite_f (fun q => ?_) ?_
          · split at q <;> omega
          · rw [wt]; exact fin g2 u2 h2
        · refine ite_f (by decide) ?_
          rw [R_L_isSound_252]
          refine ite_f (by decide) ?_
          rw [R_L_isSound_266, wy]
          have hi2 : bIn X.1.bd x (y + 1) := ⟨hin.1, by have := hin.2; omega, by have := hE.2; omega⟩
          refine (q_pieceAt h1 hi2).go fun g2 u2 h2 => ?_
          have eb : bBey X.1.bd x y 1 = bCell X.1.bd x (y + 1) := if_neg (by decide)
          rw [eb] at hnb
          refine ite_f (fun q => ?_) ?_
          · split at q <;> omega
          · rw [wt]; exact fin g2 u2 h2
  · refine (q_noStrap h ⟨by omega, by omega⟩ hE).go fun g1 u1 h1 => ?_
    refine ite_f (by decide) ?_
    rw [R_L_isSound_226]
    refine ite_f (by decide) ?_
    rw [wt]
    have ec : cSt X.1.bd x y t = 0 := if_neg hE
    have := kk g1 u1 h1
    rw [ec, Int.add_zero] at this
    exact this
theorem cS_bd (hB : bOk X.1.bd) (x y t : Int) : 0 ≤ cSt X.1.bd x y t ∧ cSt X.1.bd x y t ≤ 1 := by
  unfold cSt
  split
  · rcases strap01 hB x y t with q | q <;> omega
  · omega
theorem is_sides (h : St X k g u) (hin : bIn X.1.bd x y) (hs : 0 ≤ s ∧ s ≤ 90000) {a10 : Int}
    (hv : v = if 0 ≤ bCell X.1.bd x y then bCell X.1.bd x y else -1) (kk : ∀ g u, St X (k + 2) g u → P (run M_L_isSound 30 [vA 1, vI e, vI c, vI d, vI m, vI (s + (cSt X.1.bd x y 0 + cSt X.1.bd x y 1)), vI y, vI i, vI (x + 1), vN, vN, vN, vN] [] g u)) :
    P (run M_L_isSound 199 [vA 1, vI e, vI c, vI d, vI m, vI s, vI y, vI i, vI x, vI v, vI a10, vI 0, vN] [] g u) := by
  have b0 := cS_bd h.w.1.1 x y 0
  refine is_side h hin ⟨hs.1, by omega⟩ (Or.inl rfl) hv fun g1 u1 h1 => is_side h1 hin ⟨by omega, by omega⟩ (Or.inr rfl) hv fun g2 u2 h2 => ?_
  rw [R_L_isSound_199]
  refine ite_f (by decide) ?_
  rw [w_id (by have := hin.1; omega) (by have := hin.1; have := h.w.1.1.1; omega), Int.add_assoc]
  exact kk g2 u2 h2
/-- no bar fits over a dead cell -/
theorem is_dead (h : St X k g u) (hin : bIn X.1.bd x y) (hd : ¬ nb X.1.bd (8 * y + x)) {a10 : Int} (kk : ∀ g u, St X k g u → P (run M_L_isSound 199 [vA 1, vI e, vI c, vI d, vI m, vI s, vI y, vI i, vI x, vI v, vI a10, vI 0, vN] [] g u)) :
    ∀ (n : Nat) (t : Int) (g : PG) (u : PM), 0 ≤ t → t + n = 4 → St X k g u → P (run M_L_isSound 167 [vA 1, vI e, vI c, vI d, vI m, vI s, vI y, vI i, vI x, vI v, vI a10, vI t, vN] [] g u)
  | 0, t, g, u, t0, t1, hh => by
    rw [R_L_isSound_167]
    exact ite_f (by omega) (kk g u hh)
  | n + 1, t, g, u, t0, t1, hh => by
    rw [R_L_isSound_167]
    refine ite_t (by omega) ((q_fits hh (by omega) ⟨t0, by omega⟩ hin).go fun g1 u1 h1 => ?_)
    have hne : ¬ bMis X.1.bd 0 t x y = 0 := fun q => by
      refine hd ((cvd_nb h.w.1.1 h.w.1.2.1 hin).mp ?_)
      have o := or0' (s := 0) (r := t) (by omega) ⟨t0, by omega⟩
      refine ⟨0, t, x, y, by decide, ⟨t0, by omega⟩, hin, q, anyF_iff.mpr ⟨0, by
        have : (sz 0).toNat = 2 := rfl
        omega, decide_eq_true ⟨?_, ?_⟩⟩⟩
      · unfold pX
        omega
      · unfold pY
        omega
    rw [bI_f hne]
    refine ite_f (by decide) ?_
    rw [w_id (by omega) (by omega)]
    exact is_dead h hin hd kk n (t + 1) g1 u1 (by omega) (by omega) h1
/-- one cell -/
theorem is_cell (h : St X k g u) (hin : bIn X.1.bd x y) {f : Int → Int} (hf : RegOf X.1.bd f) (he : 0 ≤ c ∧ c ≤ 90000) (hd : 0 ≤ d ∧ d ≤ 90000) (hs : 0 ≤ s ∧ s ≤ 90000) (hi : 0 ≤ i ∧ i ≤ 90000)
    (kk : ∀ g u, St X (k + 2) g u → P (run M_L_isSound 30 [vA 1, vI e, vI (c + bI (0 ≤ bCell X.1.bd x y)), vI (d + cDd X.1.bd f (8 * y + x)), vI m, vI (s + (cSt X.1.bd x y 0 + cSt X.1.bd x y 1)), vI y, vI (i + bI (bCell X.1.bd x y = -1)), vI (x + 1), vN, vN, vN, vN] [] g u)) :
    P (run M_L_isSound 30 [vA 1, vI e, vI c, vI d, vI m, vI s, vI y, vI i, vI x, vN, vN, vN, vN] [] g u) := by
  have hC := h.w.1.1.1
  have hR := h.w.1.1.2.1
  have hx8 : 0 ≤ x ∧ x < 8 := by have := hin.1; omega
  obtain ⟨v0, v1⟩ := cell_bd h.w hin
  have hec := eC_xy (B := X.1.bd) (x := x) (y := y) hx8.1 hx8.2
  generalize hcv : bCell X.1.bd x y = cv at *
  obtain ⟨pv, hpv⟩ : ∃ pv, pv = if 0 ≤ cv then cv else -1 := ⟨_, rfl⟩
  have hpv' : pv = if 0 ≤ bCell X.1.bd x y then bCell X.1.bd x y else -1 := by rw [hcv]; exact hpv
  rw [R_L_isSound_30]
  refine h.td (P := P) ((d_columns h).go (P := P) fun g1 u1 h1 => ite_t hin.1.2 ?_)
  have q1 := q_pieceAt h1 hin
  rw [← hpv'] at q1
  refine q1.go fun g2 u2 h2 => ?_
  have q2 := q_isBlocked h2 hin
  rw [hcv] at q2
  refine q2.go fun g3 u3 h3 => ?_
  have e66 : (if bI (cv = -2) = 1 then run M_L_isSound 66 [vA 1, vI e, vI c, vI d, vI m, vI s, vI y, vI i, vI x, vI pv, vN, vN, vN] [vI 1] g3 u3 else run M_L_isSound 66 [vA 1, vI e, vI c, vI d, vI m, vI s, vI y, vI i, vI x, vI pv, vN, vN, vN] [vI 0] g3 u3) = run M_L_isSound 79 [vA 1, vI e, vI c, vI d, vI m, vI s, vI y, vI i, vI x, vI pv, vI (bI (cv = -2)), vN, vN] [] g3 u3 := by
    by_cases z : cv = -2
    · rw [bI_t z, if_pos rfl, R_L_isSound_66, if_neg (by decide), if_pos (by rw [hpv, if_neg (by omega)])]
    · rw [bI_f z, if_neg (by decide), R_L_isSound_66, if_pos rfl]
  rw [e66, R_L_isSound_79]
  refine h3.td (P := P) ((d_pieceCount h3).go (P := P) fun g4 u4 h4 => ite_t (by rw [hpv]; have := h.w.1.2.2; split <;> omega) ?_)
  have e79 : (if pv < 0 then run M_L_isSound 98 [vA 1, vI e, vI c, vI d, vI m, vI s, vI y, vI i, vI x, vI pv, vI (bI (cv = -2)), vN, vN] [] g4 u4 else run M_L_isSound 98 [vA 1, vI e, vI (w (c + 1)), vI d, vI m, vI s, vI y, vI i, vI x, vI pv, vI (bI (cv = -2)), vN, vN] [] g4 u4) = run M_L_isSound 98 [vA 1, vI e, vI (c + bI (0 ≤ cv)), vI d, vI m, vI s, vI y, vI i, vI x, vI pv, vI (bI (cv = -2)), vN, vN] [] g4 u4 := by
    by_cases z : 0 ≤ cv
    · rw [if_neg (by rw [hpv, if_pos z]; omega), bI_t z, w_id (by omega) (by omega)]
    · rw [if_pos (by rw [hpv, if_neg z]; decide), bI_f z, Int.add_zero]
  have e98 : run M_L_isSound 98 [vA 1, vI e, vI (c + bI (0 ≤ cv)), vI d, vI m, vI s, vI y, vI i, vI x, vI pv, vI (bI (cv = -2)), vN, vN] [] g4 u4 = run M_L_isSound 112 [vA 1, vI e, vI (c + bI (0 ≤ cv)), vI d, vI m, vI s, vI y, vI (i + bI (cv = -1)), vI x, vI pv, vI (bI (cv = -2)), vN, vN] [] g4 u4 := by
    rw [R_L_isSound_98]
    by_cases z : cv = -1
    · rw [if_pos (by rw [hpv, if_neg (by omega)]), bI_f (p := cv = -2) (by omega), if_pos rfl, bI_t z, w_id (by omega) (by omega)]
    · rw [bI_f (p := cv = -1) z, Int.add_zero]
      by_cases z2 : 0 ≤ cv
      · rw [if_neg (by rw [hpv, if_pos z2]; omega)]
      · rw [if_pos (by rw [hpv, if_neg z2]), bI_t (p := cv = -2) (by omega), if_neg (by decide)]
  rw [e79, e98, R_L_isSound_112]
  obtain ⟨sv, hsz, qs⟩ := q_regionSize h4 hin
  refine qs.go fun g5 u5 h5 => ?_
  have hsv : 0 < sv ↔ cv = -1 := by
    obtain ⟨f', hf', e'⟩ := hsz
    by_cases z : cv = -1
    · rw [if_pos (hec.mpr z)] at e'
      have := rSz_pos h.w.1.1 (f := f') (hec.mpr z)
      omega
    · rw [if_neg fun q => z (hec.mp q)] at e'
      omega
  have e112 : (if 0 < sv then run M_L_isSound 128 [vA 1, vI e, vI (c + bI (0 ≤ cv)), vI d, vI m, vI s, vI y, vI (i + bI (cv = -1)), vI x, vI pv, vI (bI (cv = -2)), vN, vN] [vI 1] g5 u5 else run M_L_isSound 128 [vA 1, vI e, vI (c + bI (0 ≤ cv)), vI d, vI m, vI s, vI y, vI (i + bI (cv = -1)), vI x, vI pv, vI (bI (cv = -2)), vN, vN] [vI 0] g5 u5) = run M_L_isSound 144 [vA 1, vI e, vI (c + bI (0 ≤ cv)), vI d, vI m, vI s, vI y, vI (i + bI (cv = -1)), vI x, vI pv, vI (bI (cv = -2)), vN, vN] [vI (bI (cv = -1)), vI (bI (cv = -1))] g5 u5 := by
    by_cases z : cv = -1
    · rw [if_pos (hsv.mpr z), R_L_isSound_128, if_pos (by rw [hpv, if_neg (by omega)]), bI_f (p := cv = -2) (by omega), if_pos rfl, bI_t z]
    · rw [if_neg fun q => z (hsv.mp q), R_L_isSound_128, bI_f (p := cv = -1) z]
      by_cases z2 : 0 ≤ cv
      · rw [if_neg (by rw [hpv, if_pos z2]; omega)]
      · rw [if_pos (by rw [hpv, if_neg z2]), bI_t (p := cv = -2) (by omega), if_neg (by decide)]
  rw [e112, R_L_isSound_144]
  refine ite_t rfl ?_
  obtain ⟨dv, ⟨hd01, hdv⟩, qd⟩ := q_isDead h5 hin
  refine qd.go fun g6 u6 h6 => ?_
  have ed : dv = cDd X.1.bd f (8 * y + x) := by
    unfold cDd
    by_cases z : eC X.1.bd (8 * y + x) ∧ rSz X.1.bd f (8 * y + x) = 1
    · rw [bI_t z]
      exact hdv.mpr ⟨z.1, (rSz1 h.w.1.1 hf z.1).mp z.2⟩
    · rw [bI_f z]
      rcases hd01 with q | q
      · exact q
      · obtain ⟨a, b⟩ := hdv.mp q
        exact absurd ⟨a, (rSz1 h.w.1.1 hf a).mpr b⟩ z
  rw [← ed] at kk
  by_cases z : dv = 1
  · refine ite_t z ?_
    rw [w_id (by omega) (by omega)]
    rw [z] at kk
    exact is_dead h6 hin (hdv.mp z).2 (fun g7 u7 h7 => is_sides h7 hin hs hpv' kk) 4 0 g6 u6 (by decide) (by decide) h6
  · refine ite_f z ?_
    have z0 : dv = 0 := by omega
    rw [z0, Int.add_zero] at kk
    exact is_sides h6 hin hs hpv' kk
end
