/-! ===== p60: isSound, its end ===== -/
theorem stn_sum {B : Bd} (hB : bOk B) (hE : stE B) : sumI (fun y => sumI (fun x => cSt B x y 0 + cSt B x y 1) B.1.toNat) B.2.1.toNat = bStn B := by
  have e0 : ∀ x y s : Int, (s = 0 ∨ s = 1) → bIn B x y → cSt B x y s = bI (B.2.2.2 (2 * (8 * y + x) + s) ≠ 0) := fun x y s hs hin => by
    have a1 := hB.1
    have a2 := hB.2.1
    have b1 := hin.1
    have b2 := hin.2
    unfold cSt
    by_cases z : bEdge B x y s
    · rw [if_pos z]
      unfold bStrap
      rw [if_pos ⟨hin, by omega⟩]
      rcases hB.2.2 (2 * (8 * y + x) + s) (by omega) (by omega) with q | q
      · rw [q, bI_f (by simp)]
      · rw [q, bI_t (by decide)]
    · rw [if_neg z, bI_f]
      intro q
      have := hE.2 (2 * (8 * y + x) + s) (by omega) (by omega) q
      rw [show (2 * (8 * y + x) + s) / 2 % 8 = x by omega, show (2 * (8 * y + x) + s) / 2 / 8 = y by omega, show (2 * (8 * y + x) + s) % 2 = s by omega] at this
      exact z this
  have e1 : sumI (fun y => sumI (fun x => cSt B x y 0 + cSt B x y 1) B.1.toNat) B.2.1.toNat = sumI (fun y => sumI (fun x => (fun j => bI (B.2.2.2 (2 * j) ≠ 0) + bI (B.2.2.2 (2 * j + 1) ≠ 0)) (8 * y + x)) B.1.toNat) B.2.1.toNat := by
    refine sumI_congr fun y y0 y1 => sumI_congr fun x x0 x1 => ?_
    have hin : bIn B x y := ⟨⟨x0, by have := hB.1; omega⟩, y0, by have := hB.2.1; omega⟩
    rw [e0 x y 0 (Or.inl rfl) hin, e0 x y 1 (Or.inr rfl) hin, Int.add_zero]
  rw [e1]
  refine (sum_rows (h := fun j => bI (B.2.2.2 (2 * j) ≠ 0) + bI (B.2.2.2 (2 * j + 1) ≠ 0)) hB fun j j0 j1 hj => ?_).trans ?_
  · have z0 : ¬ B.2.2.2 (2 * j) ≠ 0 := fun q => by
      have := hE.2 (2 * j) (by omega) (by omega) q
      rw [show 2 * j / 2 % 8 = j % 8 by omega, show 2 * j / 2 / 8 = j / 8 by omega] at this
      exact hj this.1
    have z1 : ¬ B.2.2.2 (2 * j + 1) ≠ 0 := fun q => by
      have := hE.2 (2 * j + 1) (by omega) (by omega) q
      rw [show (2 * j + 1) / 2 % 8 = j % 8 by omega, show (2 * j + 1) / 2 / 8 = j / 8 by omega] at this
      exact hj this.1
    show bI (B.2.2.2 (2 * j) ≠ 0) + bI (B.2.2.2 (2 * j + 1) ≠ 0) = 0
    rw [bI_f z0, bI_f z1]
    rfl
  · exact (sumI_pair (h := fun k => bI (B.2.2.2 k ≠ 0)) 64).symm
theorem eC_out {B : Bd} {k : Int} (h : ¬ bIn B (k % 8) (k / 8)) : ¬ eC B k := fun q => by
  unfold eC bCell at q
  rw [if_neg h] at q
  exact absurd q (by decide)
theorem cnt_eC {B : Bd} (hB : bOk B) : bCnt B (-1) = sumI (fun k => bI (eC B k)) 64 := by
  rw [← sum_rows hB fun k _ _ hk => bI_f (eC_out hk)]
  refine sumI_congr fun y y0 y1 => sumI_congr fun x x0 x1 => bI_congr ?_
  exact (eC_xy x0 (by have := hB.1; omega)).symm
theorem dead_sum {B : Bd} (hB : bOk B) (f : Int → Int) : sumI (fun y => sumI (fun x => cDd B f (8 * y + x)) B.1.toNat) B.2.1.toNat = sumI (fun k => bI (eC B k ∧ rSz B f k = 1)) 64 :=
  sum_rows (h := fun k => bI (eC B k ∧ rSz B f k = 1)) hB fun k _ _ hk => bI_f fun q => eC_out hk q.1
theorem lrg_le {B : Bd} (hB : bOk B) {v : Int} (h : isLrg B v) : v ≤ bCnt B (-1) := by
  obtain ⟨f, hf, v0, h1, h2⟩ := h
  have nn : 0 ≤ bCnt B (-1) := (bCnt_bd hB.1 hB.2.1 (-1)).1
  rcases h2 with rfl | ⟨k, hk, rfl⟩
  · exact nn
  · rw [cnt_eC hB]
    refine sumI_le fun d d0 d1 => ?_
    by_cases z : eC B d
    · rw [bI_t z]; exact (bI_bd _).2
    · rw [bI_f z, bI_f fun q => z q.1]; exact Int.le_refl _
theorem num_0 {B : Bd} (hB : bOk B) {v : Int} (h : isNum B v) : v = 0 ↔ bCnt B (-1) = 0 := by
  obtain ⟨f, hf, rfl⟩ := h
  rw [cnt_eC hB]
  unfold rNum
  rw [sumI_eq0 (fun i _ _ => (bI_bd _).1), sumI_eq0 (fun i _ _ => (bI_bd _).1)]
  constructor
  · intro h k k0 k1
    refine bI_f fun hk => ?_
    have a := hf.1 k hk
    have b := eC_bd hB a.1
    have := h (f k) b.1.1 b.1.2
    rw [bI_t ⟨a.1, hf.idem hk⟩] at this
    exact absurd this (by decide)
  · intro h k k0 k1
    refine bI_f fun hk => ?_
    have := h k k0 k1
    rw [bI_t hk.1] at this
    exact absurd this (by decide)
theorem wsum_I {f : Int → Int} {b : Int} : ∀ {n : Nat}, (∀ i : Int, 0 ≤ i → i < n → 0 ≤ f i ∧ f i ≤ b) → n * b ≤ 2000000 → 0 ≤ b → wsum f n = sumI f n
  | 0, _, _, _ => rfl
  | n + 1, h, hb, b0 => by
    rw [Int.natCast_succ, Int.add_mul] at hb
    have ih := wsum_I (f := f) (n := n) (b := b) (fun i i0 i1 => h i i0 (by omega)) (by omega) b0
    have q := sumI_bd (f := f) (n := n) (b := b) (fun i i0 i1 => h i i0 (by omega))
    have q1 := h n (by omega) (by omega)
    show w (wsum f n + f n) = sumI f n + f n
    rw [ih, w_id (by omega) (by omega)]
theorem inc_0 {A : AS} (h : wfX A) : aInc A = 0 := by
  obtain ⟨h1, h2, h3, h4, h5, h6, h7⟩ := h
  have hsc := wfX.sc ⟨h1, h2, h3, h4, h5, h6, h7⟩
  have hn := h1.1.2.2
  have nn : ((A.n.toNat : Nat) : Int) = A.n := by omega
  have e1 := wsum_I (f := A.pc 5) (n := A.n.toNat) (b := 68) (fun i i0 i1 => h4 i i0 (by omega)) (by omega) (by decide)
  have hs : ∀ i : Int, 0 ≤ i → i < (A.n.toNat : Nat) → 0 ≤ sz (A.pc 0 i) ∧ sz (A.pc 0 i) ≤ 4 := fun i i0 i1 => by
    have := (h1.2.2.2.2.1 i i0 (by omega)).1
    have := sz_bd this.1 this.2
    omega
  have e2 := wsum_I (f := fun k => sz (A.pc 0 k)) (n := A.n.toNat) (b := 4) hs (by omega) (by decide)
  have e3 : bCov A.bd = bCv A.bd := (bCov_sum h1.1.1 h1.1.2.1).1
  unfold aInc
  rw [e1, e2, e3, h3, h5, w_id (x := A.p0.1 + A.p1.1) (by omega) (by omega), Int.sub_self, Int.sub_self]
  rfl
theorem lead_of {A : AS} (h : wfX A) : aLead A = if A.p0.1 = A.p1.1 then -1 else if A.p1.1 < A.p0.1 then 0 else 1 := by
  have := h.sc
  unfold aLead
  rw [w_id (by omega) (by omega)]
  by_cases e : A.p0.1 = A.p1.1
  · rw [if_pos (by omega), if_pos e]
  · rw [if_neg (by omega), if_neg e]
    by_cases e2 : A.p1.1 < A.p0.1
    · rw [if_pos (by omega), if_pos e2]
    · rw [if_neg (by omega), if_neg e2]
section
variable {X : SX}
theorem is_end558 {g : PG} {u : PM} {k : Nat} {a2 a3 a4 a5 a6 a7 a8 : Int} (h : St X k g u) : Ask X k (run M_L_isSound 558 [vA 1, vI (bCnt X.1.bd (-1)), vI a2, vI a3, vI a4, vI a5, vI a6, vI a7, vI a8, vN, vN, vN, vN] [] g u) 1 := by
  let P : Option PO → Prop := fun o => Ask X k o 1
  rw [R_L_isSound_558]
  obtain ⟨v, hv, qv⟩ := d_largest h
  refine h.td (P := P) (qv.go (P := P) fun g1 u1 h1 => ite_f (P := P) (by have := lrg_le h.w.1.1 hv; omega) ?_)
  obtain ⟨n, hn, qn⟩ := d_regions h1
  refine h1.td (P := P) (qn.go (P := P) fun g2 u2 h2 => ?_)
  have z := num_0 h.w.1.1 hn
  have fin : ∀ g u, St X k g u → ∀ s : Int, P (run M_L_isSound 587 [vA 1, vI (bCnt X.1.bd (-1)), vI a2, vI a3, vI a4, vI a5, vI a6, vI a7, vI a8, vN, vN, vN, vN] [vI s, vI s] g u) := fun g u h s => by
    rw [R_L_isSound_587]
    refine ite_t (P := P) rfl (h.td (P := P) ((d_incons h).go (P := P) fun g3 u3 h3 => ite_t (P := P) (inc_0 h.x) h3.ret))
  by_cases c : n = 0
  · refine ite_t (P := P) c ?_
    rw [R_L_isSound_578, if_pos (z.mp c)]
    exact fin g2 u2 h2 1
  · refine ite_f (P := P) c ?_
    rw [R_L_isSound_578, if_neg fun q => c (z.mpr q)]
    exact fin g2 u2 h2 0
theorem L_isSound {g : PG} {u : PM} {k : Nat} (h : St X k g u) : Ask X (k + 128) (call M_L_isSound [vA 1] g u) 1 := by
  let P : Option PO → Prop := fun o => Ask X (k + 128) o 1
  have hB := h.w.1.1
  obtain ⟨v0, ⟨f, hf, -⟩, -⟩ := d_dead h
  have hn := h.w.1.2.2
  have nR : ((X.1.bd.2.1.toNat : Nat) : Int) = X.1.bd.2.1 := by have := hB.2.1; omega
  have nN : ((X.1.n.toNat : Nat) : Int) = X.1.n := by omega
  have r8 := hB.2.1
  rw [C_L_isSound]
  refine is_rows (P := P) hf X.1.bd.2.1.toNat 0 0 0 0 0 0 k g u (by decide) (by omega) h (by omega) (by omega) (by omega) (by omega) (by omega) fun g1 u1 h1 => ?_
  simp only [sumF_0, Int.zero_add]
  have e1 : sumI (bEmp X.1.bd) X.1.bd.2.1.toNat = bCnt X.1.bd (-1) := rfl
  have e2 : sumI (fun y => sumI (fun x => bI (0 ≤ bCell X.1.bd x y)) X.1.bd.1.toNat) X.1.bd.2.1.toNat = bCv X.1.bd := rfl
  have e4 : sumI (fun y => bI (bEmp X.1.bd y = 0)) X.1.bd.2.1.toNat = bCmp X.1.bd := rfl
  rw [e1, e2, dead_sum hB, e4, stn_sum hB h.x.2.1, R_L_isSound_15]
  have h1 := h1.up (k' := k + 128) (by omega)
  refine h1.td (P := P) ((d_rows h1).go (P := P) fun g2 u2 h2 => ite_f (P := P) (by omega) ?_)
  refine is_pieces (P := P) X.1.n.toNat 0 0 0 (k + 128) g2 u2 (by decide) (by omega) h2 (by omega) (by omega) fun g3 u3 h3 => ?_
  simp only [sumF_0, Int.zero_add]
  rw [← h.x.2.2.1, h.x.2.2.2.2.1, R_L_isSound_329]
  refine h3.td (P := P) ((d_pieceCount h3).go (P := P) fun g4 u4 h4 => ite_f (P := P) (by omega) ?_)
  refine (q_score h4 (Or.inl rfl)).go (P := P) fun g5 u5 h5 => (q_score h5 (Or.inr rfl)).go (P := P) fun g6 u6 h6 => ?_
  have p0 : (aPl X.1 0).1 = X.1.p0.1 := rfl
  have p1 : (aPl X.1 1).1 = X.1.p1.1 := rfl
  have hsc := h.x.sc
  rw [p0, p1]
  have e457 : (if X.1.p0.1 = X.1.p1.1 then run M_L_isSound 457 [vA 1, vI (bCnt X.1.bd (-1)), vI (bCv X.1.bd), vI (sumI (fun k => bI (eC X.1.bd k ∧ rSz X.1.bd f k = 1)) 64), vI (bCmp X.1.bd), vI (bStn X.1.bd), vI (X.1.p0.1 + X.1.p1.1), vI (bCv X.1.bd), vI X.1.n, vN, vN, vN, vN] [vI 0] g6 u6 else run M_L_isSound 457 [vA 1, vI (bCnt X.1.bd (-1)), vI (bCv X.1.bd), vI (sumI (fun k => bI (eC X.1.bd k ∧ rSz X.1.bd f k = 1)) 64), vI (bCmp X.1.bd), vI (bStn X.1.bd), vI (X.1.p0.1 + X.1.p1.1), vI (bCv X.1.bd), vI X.1.n, vN, vN, vN, vN] [vI 1] g6 u6) = run M_L_isSound 457 [vA 1, vI (bCnt X.1.bd (-1)), vI (bCv X.1.bd), vI (sumI (fun k => bI (eC X.1.bd k ∧ rSz X.1.bd f k = 1)) 64), vI (bCmp X.1.bd), vI (bStn X.1.bd), vI (X.1.p0.1 + X.1.p1.1), vI (bCv X.1.bd), vI X.1.n, vN, vN, vN, vN] [vI (bI (X.1.p0.1 ≠ X.1.p1.1))] g6 u6 := by
    by_cases z : X.1.p0.1 = X.1.p1.1
    · rw [if_pos z, bI_f (by simpa using z)]
    · rw [if_neg z, bI_t z]
  rw [e457, R_L_isSound_457]
  refine h6.td (P := P) ((d_emptyCells h6).go (P := P) fun g7 u7 h7 => ite_t (P := P) rfl (ite_t (P := P) rfl ?_))
  obtain ⟨vd, hvd, qd⟩ := d_dead h7
  have evd : sumI (fun k => bI (eC X.1.bd k ∧ rSz X.1.bd f k = 1)) 64 = vd := isDd_u ⟨f, hf, rfl⟩ hvd
  rw [evd]
  refine h7.td (P := P) (qd.go (P := P) fun g8 u8 h8 => ite_t (P := P) rfl ?_)
  refine h8.td (P := P) ((d_completeRows h8).go (P := P) fun g9 u9 h9 => ite_t (P := P) rfl ?_)
  refine h9.td (P := P) ((d_strapCount h9).go (P := P) fun gA uA hA => ite_t (P := P) rfl ?_)
  rw [R_L_isSound_499]
  refine (q_score hA (Or.inl rfl)).go (P := P) fun gB uB hB => (q_score hB (Or.inr rfl)).go (P := P) fun gC uC hC => ?_
  rw [p0, p1, w_id (by omega) (by omega)]
  refine ite_t (P := P) rfl (hC.td (P := P) ((d_leader hC).go (P := P) fun gD uD hD => ?_))
  have hl := lead_of h.x
  by_cases z : X.1.p0.1 = X.1.p1.1
  · rw [if_pos z] at hl
    rw [hl, bI_f (p := X.1.p0.1 ≠ X.1.p1.1) (by simpa using z)]
    refine ite_t (P := P) (by decide) ?_
    rw [R_L_isSound_527]
    exact ite_t (P := P) rfl (ite_t (P := P) rfl (is_end558 hD))
  · rw [if_neg z] at hl
    rw [bI_t (p := X.1.p0.1 ≠ X.1.p1.1) z]
    refine ite_f (P := P) (by rw [hl]; split <;> decide) ?_
    rw [R_L_isSound_527]
    refine ite_t (P := P) rfl (ite_f (P := P) (by decide) ?_)
    refine hD.td (P := P) ((d_leader hD).go (P := P) fun gE uE hE => ?_)
    rw [hl]
    by_cases z2 : X.1.p1.1 < X.1.p0.1
    · rw [if_pos z2] at hl ⊢
      refine (q_score hE (Or.inl rfl)).go (P := P) fun gF uF hF => hF.td (P := P) ((d_leader hF).go (P := P) fun gG uG hG => ?_)
      rw [hl]
      refine (q_score hG (Or.inr rfl)).go (P := P) fun gH uH hH => ite_t (P := P) z2 (is_end558 hH)
    · rw [if_neg z2] at hl ⊢
      refine (q_score hE (Or.inr rfl)).go (P := P) fun gF uF hF => hF.td (P := P) ((d_leader hF).go (P := P) fun gG uG hG => ?_)
      rw [hl]
      refine (q_score hG (Or.inl rfl)).go (P := P) fun gH uH hH => ite_t (P := P) (by show X.1.p0.1 < X.1.p1.1; omega) (is_end558 hH)
end
