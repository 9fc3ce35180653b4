/-! ===== p60: what holds of states beyond wf: straps on edges alone, cells and points add up ===== -/
theorem sumI_chg {f f' : Int → Int} {n : Nat} {k c : Int} (h0 : 0 ≤ k) (h1 : k < n) (hk : f' k = f k + c) (ho : ∀ j : Int, 0 ≤ j → j < n → j ≠ k → f' j = f j) : sumI f' n = sumI f n + c := by
  induction n with
  | zero => omega
  | succ n ih =>
    simp only [sumI]
    by_cases e : k = n
    · rw [← e, hk, sumI_congr (f := f') (f' := f) fun j j0 j1 => ho j j0 (by omega) (by omega)]
      omega
    · rw [ih (by omega) fun j j0 j1 jk => ho j j0 (by omega) jk, ho n (by omega) (by omega) (fun q => e q.symm)]
      omega
/-- there are cells; straps lie on edges alone -/
def stE (B : Bd) : Prop := (0 < B.1 ∧ 0 < B.2.1) ∧ ∀ k : Int, 0 ≤ k → k < 128 → B.2.2.2 k ≠ 0 → bEdge B (k / 2 % 8) (k / 2 / 8) (k % 2)
/-- cells covered -/
def bCv (B : Bd) : Int := sumI (fun y => sumI (fun x => bI (0 ≤ bCell B x y)) B.1.toNat) B.2.1.toNat
def wfX (A : AS) : Prop := wf A ∧ stE A.bd ∧ bCv A.bd = sumI (fun k => sz (A.pc 0 k)) A.n.toNat ∧ (∀ k : Int, 0 ≤ k → k < A.n → 0 ≤ A.pc 5 k ∧ A.pc 5 k ≤ 68) ∧ sumI (A.pc 5) A.n.toNat = A.p0.1 + A.p1.1 ∧ 0 ≤ A.p0.1 ∧ 0 ≤ A.p1.1
theorem bCell_SC8 {B : Bd} (hB1 : B.1 ≤ 8) {X Y : Int} (hX : bIn B X Y) (v x y : Int) : bCell (bSC B (8 * Y + X) v) x y = if x = X ∧ y = Y then v else bCell B x y := by
  have e : bCell (bSC B (8 * Y + X) v) x y = if bIn B x y then setI B.2.2.1 (8 * Y + X) v (8 * y + x) else -3 := rfl
  rw [e]
  unfold bCell
  by_cases h : bIn B x y
  · rw [if_pos h, if_pos h]
    by_cases q : x = X ∧ y = Y
    · rw [if_pos q, q.1, q.2, setI_s]
    · rw [if_neg q, setI_o]
      intro z
      apply q
      omega
  · rw [if_neg h, if_neg h, if_neg]
    intro q
    rw [q.1, q.2] at h
    exact h hX
theorem bCv_SC {B : Bd} (hB1 : B.1 ≤ 8) {X Y : Int} (hX : bIn B X Y) (hc : bCell B X Y < 0) {v : Int} (hv : 0 ≤ v) : bCv (bSC B (8 * Y + X) v) = bCv B + 1 := by
  have e : bCv (bSC B (8 * Y + X) v) = sumI (fun y => sumI (fun x => bI (0 ≤ bCell (bSC B (8 * Y + X) v) x y)) B.1.toNat) B.2.1.toNat := rfl
  rw [e]
  unfold bCv
  refine sumI_chg (k := Y) hX.2.1 (by omega) ?_ fun j j0 j1 jk => sumI_congr fun i i0 i1 => ?_
  · refine sumI_chg (k := X) hX.1.1 (by omega) ?_ fun i i0 i1 ik => ?_
    · rw [bCell_SC8 hB1 hX, if_pos ⟨rfl, rfl⟩, bI_t hv, bI_f (by omega)]
      rfl
    · rw [bCell_SC8 hB1 hX, if_neg fun q => ik q.1]
  · rw [bCell_SC8 hB1 hX, if_neg fun q => jk q.2]
theorem cells_all : ∀ s : Nat, s < 5 → ∀ r : Nat, r < 4 → ((List.range 4).all fun i => (List.range 4).all fun j => decide ((i : Int) < sz s → (j : Int) < sz s → i ≠ j → (oR s r i ≠ oR s r j ∨ oD s r i ≠ oD s r j))) = true := by decide +kernel
theorem cells_ne {s r i j : Int} (hs : 0 ≤ s ∧ s < 5) (hr : 0 ≤ r ∧ r < 4) (hi : 0 ≤ i ∧ i < sz s) (hj : 0 ≤ j ∧ j < sz s) (e : i ≠ j) : oR s r i ≠ oR s r j ∨ oD s r i ≠ oD s r j := by
  have hz := sz_bd hs.1 hs.2
  have a := cells_all s.toNat (by omega) r.toNat (by omega)
  rw [show ((s.toNat : Nat) : Int) = s by omega, show ((r.toNat : Nat) : Int) = r by omega] at a
  have b := List.all_eq_true.mp (List.all_eq_true.mp a i.toNat (List.mem_range.mpr (by omega))) j.toNat (List.mem_range.mpr (by omega))
  simp only [decide_eq_true_eq] at b
  rw [show ((i.toNat : Nat) : Int) = i by omega, show ((j.toNat : Nat) : Int) = j by omega] at b
  exact b hi.2 hj.2 (by omega)
theorem bCv_putL {s r x y v : Int} (hv : 0 ≤ v) : ∀ (d : Nat) (i : Int) (C : Bd), C.1 ≤ 8 → (∀ j : Int, i ≤ j → j < i + d → bIn C (pX s r x j) (pY s r y j) ∧ bCell C (pX s r x j) (pY s r y j) < 0) → (∀ j k : Int, i ≤ j → j < i + d → i ≤ k → k < i + d → j ≠ k → pX s r x j ≠ pX s r x k ∨ pY s r y j ≠ pY s r y k) → bCv (bPutL s r x y v d i C) = bCv C + d
  | 0, _, C, _, _, _ => by simp [bPutL]
  | d + 1, i, C, h8, hin, hne => by
    obtain ⟨h1, h2⟩ := hin i (Int.le_refl _) (by omega)
    have e : bPutL s r x y v (d + 1) i C = bPutL s r x y v d (i + 1) (bSC C (8 * pY s r y i + pX s r x i) v) := by
      show bPutL s r x y v d (i + 1) (if bIn C (pX s r x i) (pY s r y i) then bSC C (8 * pY s r y i + pX s r x i) v else C) = _
      rw [if_pos h1]
    rw [e, bCv_putL hv d (i + 1) (bSC C (8 * pY s r y i + pX s r x i) v) h8 (fun j j0 j1 => ?_) (fun j k j0 j1 k0 k1 => hne j k (by omega) (by omega) (by omega) (by omega)), bCv_SC h8 h1 h2 hv]
    · omega
    · obtain ⟨a, b⟩ := hin j (by omega) (by omega)
      refine ⟨a, ?_⟩
      rw [bCell_SC8 h8 h1, if_neg]
      · exact b
      · have := hne j i (by omega) (by omega) (Int.le_refl _) (by omega) (by omega)
        omega
theorem in_of_cell {B : Bd} {x y : Int} (h : bCell B x y ≠ -3) : bIn B x y := by
  by_cases w : bIn B x y
  · exact w
  · exact absurd (if_neg w) h
theorem bCv_put {B : Bd} (hB : bOk B) (hc : cOk B) {s r x y v : Int} (hs : 0 ≤ s ∧ s < 5) (hr : 0 ≤ r ∧ r < 4) (hm : bMis B s r x y = 0) (hv : 0 ≤ v) : bCv (bPutL s r x y v (sz s).toNat 0 B) = bCv B + sz s := by
  have hz := sz_bd hs.1 hs.2
  have e := mis0_cell hB hc hm
  rw [bCv_putL hv (sz s).toNat 0 B hB.1.2 (fun j j0 j1 => ?_) (fun j k j0 j1 k0 k1 jk => ?_)]
  · omega
  · have q := e j j0 (by omega)
    exact ⟨in_of_cell (by omega), by omega⟩
  · have q := cells_ne hs hr (i := j) (j := k) ⟨j0, by omega⟩ ⟨k0, by omega⟩ jk
    unfold pX pY
    omega
theorem bPts_le {B : Bd} (hB : bOk B) {s r y : Int} (hs : 0 ≤ s ∧ s < 5) : 2 ≤ bPts B s r y ∧ bPts B s r y ≤ 68 := by
  have hz := sz_bd hs.1 hs.2
  have b := sumI_bd (f := fun j => if 0 < bRow s r y j ∧ bRow s r y j = bEmp B j then B.1 else 0) (n := B.2.1.toNat) (b := 8) (fun i _ _ => by
    have := hB.1
    split <;> omega)
  have := hB.2.1
  unfold bPts
  omega
theorem sum68 {f : Int → Int} {n : Nat} (h : ∀ k : Int, 0 ≤ k → k < n → 0 ≤ f k ∧ f k ≤ 68) : 0 ≤ sumI f n ∧ sumI f n ≤ n * 68 := sumI_bd h
theorem wfX.w {A : AS} (h : wfX A) : wf A := h.1
theorem wfX.sc {A : AS} (h : wfX A) : (0 ≤ A.p0.1 ∧ A.p0.1 ≤ 2176) ∧ 0 ≤ A.p1.1 ∧ A.p1.1 ≤ 2176 := by
  obtain ⟨h1, h2, h3, h4, h5, h6, h7⟩ := h
  have n := h1.1.2.2
  have b := sumI_bd (f := A.pc 5) (n := A.n.toNat) (b := 68) (fun k k0 k1 => h4 k k0 (by omega))
  have : ((A.n.toNat : Nat) : Int) = A.n := by omega
  rw [this] at b
  omega
theorem wfX.sc2 {A : AS} (h : wfX A) (p : Int) : 0 ≤ (aPl A p).1 ∧ (aPl A p).1 ≤ 2176 := by
  have a := h.sc
  unfold aPl
  split
  · exact a.1
  · exact a.2
theorem stE_dim {B B' : Bd} (h1 : B'.1 = B.1) (h2 : B'.2.1 = B.2.1) (h3 : B'.2.2.2 = B.2.2.2) (h : stE B) : stE B' := by
  refine ⟨by rw [h1, h2]; exact h.1, fun k k0 k1 hk => ?_⟩
  rw [h3] at hk
  have := h.2 k k0 k1 hk
  unfold bEdge bIn at *
  rw [h1, h2]
  exact this
theorem wfX_put {A : AS} {s r x y : Int} (h : wfX A) (hs : 0 ≤ s ∧ s < 5) (hr : 0 ≤ r ∧ r < 4) (hm : aMayP A s r x y) : wfX (aPut A s r x y) := by
  have hsc := h.sc2 A.mv
  obtain ⟨h1, h2, h3, h4, h5, h6, h7⟩ := h
  have hw := wf_put h1 hs hr hm
  obtain ⟨⟨a1, a2, a3⟩, b, c, d⟩ := h1
  obtain ⟨d1, d2, d3⟩ := bPutL_dim (s := s) (r := r) (x := x) (y := y) (v := A.n) (sz s).toNat 0 A.bd
  have hp := bPts_le (r := r) (y := y) a1 hs
  have nn : ((A.n.toNat : Nat) : Int) = A.n := by omega
  have en : (A.n + 1).toNat = A.n.toNat + 1 := by omega
  have ec : ∀ (i : Nat) (k : Int), (aPut A s r x y).pc i k = if i < 6 ∧ k = A.n then [s, r, x, y, A.mv, bPts A.bd s r y].getD i 0 else A.pc i k := fun _ _ => rfl
  refine ⟨hw, stE_dim (B := A.bd) d1 d2 d3 h2, ?_, fun k k0 k1 => ?_, ?_, ?_⟩
  · show bCv (bPutL s r x y A.n (sz s).toNat 0 A.bd) = sumI (fun k => sz ((aPut A s r x y).pc 0 k)) (A.n + 1).toNat
    rw [bCv_put a1 a2 hs hr hm.2.2 a3.1, h3, en]
    simp only [sumI]
    rw [ec, if_pos ⟨by decide, by omega⟩]
    refine congr (congrArg HAdd.hAdd (sumI_congr fun k k0 k1 => ?_)) rfl
    rw [ec, if_neg (by omega)]
  · have k1 : k < A.n + 1 := k1
    rw [ec]
    by_cases e : k = A.n
    · rw [if_pos ⟨by decide, e⟩]
      show 0 ≤ bPts A.bd s r y ∧ bPts A.bd s r y ≤ 68
      omega
    · rw [if_neg fun q => e q.2]
      exact h4 k k0 (by omega)
  · show sumI ((aPut A s r x y).pc 5) (A.n + 1).toNat = (if A.mv = 0 then psSc (psSu (aPl A A.mv) s (w ((aPl A A.mv).2.2.2.1 s - 1))) (w ((aPl A A.mv).1 + bPts A.bd s r y)) else A.p0).1 + (if A.mv = 0 then A.p1 else psSc (psSu (aPl A A.mv) s (w ((aPl A A.mv).2.2.2.1 s - 1))) (w ((aPl A A.mv).1 + bPts A.bd s r y))).1
    rw [en]
    simp only [sumI]
    rw [ec, if_pos ⟨by decide, by omega⟩, sumI_congr (f := (aPut A s r x y).pc 5) (f' := A.pc 5) (fun k k0 k1 => by rw [ec, if_neg (by omega)]), h5, w_id (x := (aPl A A.mv).1 + bPts A.bd s r y) (by omega) (by omega)]
    show A.p0.1 + A.p1.1 + bPts A.bd s r y = _
    unfold aPl
    by_cases e : A.mv = 0
    · simp only [if_pos e]
      show _ = A.p0.1 + bPts A.bd s r y + A.p1.1
      omega
    · simp only [if_neg e]
      show _ = A.p0.1 + (A.p1.1 + bPts A.bd s r y)
      omega
  · show 0 ≤ (if A.mv = 0 then psSc (psSu (aPl A A.mv) s (w ((aPl A A.mv).2.2.2.1 s - 1))) (w ((aPl A A.mv).1 + bPts A.bd s r y)) else A.p0).1 ∧ 0 ≤ (if A.mv = 0 then A.p1 else psSc (psSu (aPl A A.mv) s (w ((aPl A A.mv).2.2.2.1 s - 1))) (w ((aPl A A.mv).1 + bPts A.bd s r y))).1
    rw [w_id (x := (aPl A A.mv).1 + bPts A.bd s r y) (by omega) (by omega)]
    by_cases e : A.mv = 0
    · simp only [if_pos e]
      exact ⟨by show 0 ≤ (aPl A A.mv).1 + bPts A.bd s r y; omega, h7⟩
    · simp only [if_neg e]
      exact ⟨h6, by show 0 ≤ (aPl A A.mv).1 + bPts A.bd s r y; omega⟩
theorem wfX_strap {A : AS} {x y s : Int} (h : wfX A) (hs : s = 0 ∨ s = 1) (hE : bEdge A.bd x y s) (hm : aMayS A x y s) : wfX (aStrap A x y s) := by
  obtain ⟨h1, h2, h3, h4, h5, h6, h7⟩ := h
  have hw := wf_strap h1 hs hE hm
  have eb : (aStrap A x y s).bd = bSS A.bd (2 * (8 * y + x) + s) 1 := if_pos ⟨by omega, hE⟩
  have a1 := h1.1.1
  refine ⟨hw, ?_, ?_, h4, ?_, ?_⟩
  · rw [eb]
    refine ⟨h2.1, fun k k0 k1 hk => ?_⟩
    show bEdge A.bd (k / 2 % 8) (k / 2 / 8) (k % 2)
    have hk : setI A.bd.2.2.2 (2 * (8 * y + x) + s) 1 k ≠ 0 := hk
    by_cases e : k = 2 * (8 * y + x) + s
    · have c1 := a1.1.2
      have c2 := hE.1.1
      rw [show k / 2 % 8 = x by omega, show k / 2 / 8 = y by omega, show k % 2 = s by omega]
      exact hE
    · rw [setI_o e] at hk
      exact h2.2 k k0 k1 hk
  · rw [eb]; exact h3
  · show sumI (A.pc 5) A.n.toNat = (if A.mv = 0 then psSt (aPl A A.mv) (w ((aPl A A.mv).2.1 - 1)) else A.p0).1 + (if A.mv = 0 then A.p1 else psSt (aPl A A.mv) (w ((aPl A A.mv).2.1 - 1))).1
    rw [h5]
    unfold aPl
    by_cases e : A.mv = 0
    · simp only [if_pos e]; rfl
    · simp only [if_neg e]; rfl
  · show 0 ≤ (if A.mv = 0 then psSt (aPl A A.mv) (w ((aPl A A.mv).2.1 - 1)) else A.p0).1 ∧ 0 ≤ (if A.mv = 0 then A.p1 else psSt (aPl A A.mv) (w ((aPl A A.mv).2.1 - 1))).1
    unfold aPl
    by_cases e : A.mv = 0
    · simp only [if_pos e]; exact ⟨h6, h7⟩
    · simp only [if_neg e]; exact ⟨h6, h7⟩
theorem wfX_pass {A : AS} (h : wfX A) (hm : aMayN A) : wfX (aTurn A (w (A.ps + 1))) := ⟨wf_pass h.1 hm, h.2⟩
