/-! ===== well-formed states ===== -/
/-- the board agrees with the pieces -/
def wfB (B : Bd) (n : Int) (pc : Nat → Int → Int) : Prop :=
  (∀ x y : Int, bIn B x y → bCell B x y < n) ∧
  (∀ k : Int, 0 ≤ k → k < n → (0 ≤ pc 0 k ∧ pc 0 k < 5) ∧ (0 ≤ pc 1 k ∧ pc 1 k < 4) ∧ ∀ i : Int, 0 ≤ i → i < sz (pc 0 k) → bCell B (pX (pc 0 k) (pc 1 k) (pc 2 k) i) (pY (pc 0 k) (pc 1 k) (pc 3 k) i) = k) ∧
  ∀ x y s : Int, (s = 0 ∨ s = 1) → bEdge B x y s → 0 ≤ bCell B x y → bCell B x y = bBey B x y s → bStrap B x y s = 0
def plOk (q : PS) : Prop := (0 ≤ q.2.1 ∧ q.2.1 ≤ 9) ∧ (0 ≤ q.2.2.1 ∧ q.2.2.1 ≤ 6) ∧ ∀ k : Int, 0 ≤ k → k < 5 → 0 ≤ q.2.2.2.1 k ∧ q.2.2.2.1 k ≤ 9
def wf (A : AS) : Prop := (bOk A.bd ∧ cOk A.bd ∧ 0 ≤ A.n ∧ A.n ≤ 32) ∧ (plOk A.p0 ∧ plOk A.p1) ∧ ((A.mv = 0 ∨ A.mv = 1) ∧ 0 ≤ A.ps ∧ A.ps ≤ 2) ∧ wfB A.bd A.n A.pc
theorem wf_n {A : AS} (h : wf A) : nOk A := ⟨h.1.2.2, h.2.1.1.2.1, h.2.1.2.2.1⟩
theorem wf_pl {A : AS} (h : wf A) (p : Int) : plOk (aPl A p) := by
  unfold aPl
  split
  · exact h.2.1.1
  · exact h.2.1.2
theorem wf_s {m : Int → Int} (h : wf (absM m)) : sOk m := ⟨mOk_of h.1.1 h.1.2.1, wf_n h, h.2.2.1.1, h.2.2.1.2.1, h.2.2.1.2.2⟩
/-! where the cells of a placement lie after it is laid -/
theorem bPutL_at {s r x y v : Int} {B : Bd} (hB : bOk B) : ∀ (d : Nat) (i : Int) (C : Bd), C.1 = B.1 → C.2.1 = B.2.1 → (∀ j : Int, i ≤ j → j < i + d → bIn B (pX s r x j) (pY s r y j)) → ∀ X Y : Int, ((∃ j : Int, (i ≤ j ∧ j < i + d) ∧ pX s r x j = X ∧ pY s r y j = Y) → bCell (bPutL s r x y v d i C) X Y = v) ∧ (¬ (∃ j : Int, (i ≤ j ∧ j < i + d) ∧ pX s r x j = X ∧ pY s r y j = Y) → bCell (bPutL s r x y v d i C) X Y = bCell C X Y)
  | 0, i, C, _, _, _, X, Y => ⟨fun h => by obtain ⟨j, h, _⟩ := h; omega, fun _ => rfl⟩
  | d + 1, i, C, h1, h2, hin, X, Y => by
    have hb := hin i (Int.le_refl _) (by omega)
    have hC : bIn C (pX s r x i) (pY s r y i) := by
      obtain ⟨⟨a1, a2⟩, a3, a4⟩ := hb
      exact ⟨⟨a1, by rw [h1]; exact a2⟩, a3, by rw [h2]; exact a4⟩
    have ih := bPutL_at (s := s) (r := r) (x := x) (y := y) (v := v) hB d (i + 1) (bSC C (8 * pY s r y i + pX s r x i) v) h1 h2 (fun j j0 j1 => hin j (by omega) (by omega)) X Y
    have e : bPutL s r x y v (d + 1) i C = bPutL s r x y v d (i + 1) (bSC C (8 * pY s r y i + pX s r x i) v) := by
      show bPutL s r x y v d (i + 1) (if bIn C (pX s r x i) (pY s r y i) then bSC C (8 * pY s r y i + pX s r x i) v else C) = _
      rw [if_pos hC]
    rw [e]
    by_cases q : ∃ j : Int, (i + 1 ≤ j ∧ j < i + 1 + d) ∧ pX s r x j = X ∧ pY s r y j = Y
    · refine ⟨fun _ => ih.1 q, fun hn => ?_⟩
      obtain ⟨j, hj, q1⟩ := q
      exact absurd ⟨j, ⟨by omega, by omega⟩, q1⟩ hn
    · have e2 := ih.2 q
      rw [e2]
      have eC : bCell (bSC C (8 * pY s r y i + pX s r x i) v) X Y = if bIn C X Y then setI C.2.2.1 (8 * pY s r y i + pX s r x i) v (8 * Y + X) else -3 := rfl
      have c1 := hB.1.2
      have c2 := hB.2.1.2
      constructor
      · rintro ⟨j, hj, z1, z2⟩
        have : j = i := by
          by_cases w : j = i
          · exact w
          · exact absurd ⟨j, ⟨by omega, by omega⟩, z1, z2⟩ q
        subst this
        rw [z1, z2] at hC eC ⊢
        rw [eC, if_pos hC, setI_s]
      · intro hn
        rw [eC]
        unfold bCell
        by_cases w : bIn C X Y
        · rw [if_pos w, if_pos w, setI_o]
          intro z
          have a1 := hC.1
          have a2 := w.1
          rw [h1] at a1 a2
          exact hn ⟨i, ⟨Int.le_refl _, by omega⟩, by omega, by omega⟩
        · rw [if_neg w, if_neg w]
theorem edg_of_all : ∀ s : Nat, s < 5 → ∀ r : Nat, r < 4 → ((List.range 4).all fun i => (List.range 4).all fun j => decide ((i : Int) < sz s → (j : Int) < sz s → ((oR s r j = oR s r i + 1 ∧ oD s r j = oD s r i → (oR s r i, oD s r i, (0 : Int)) ∈ edg s r) ∧ (oR s r j = oR s r i ∧ oD s r j = oD s r i + 1 → (oR s r i, oD s r i, (1 : Int)) ∈ edg s r)))) = true := by decide +kernel
theorem edg_of {s r i j : Int} (hs : 0 ≤ s ∧ s < 5) (hr : 0 ≤ r ∧ r < 4) (hi : 0 ≤ i ∧ i < sz s) (hj : 0 ≤ j ∧ j < sz s) : (oR s r j = oR s r i + 1 ∧ oD s r j = oD s r i → (oR s r i, oD s r i, (0 : Int)) ∈ edg s r) ∧ (oR s r j = oR s r i ∧ oD s r j = oD s r i + 1 → (oR s r i, oD s r i, (1 : Int)) ∈ edg s r) := by
  have hz := sz_bd hs.1 hs.2
  have h := edg_of_all s.toNat (by omega) r.toNat (by omega)
  rw [show ((s.toNat : Nat) : Int) = s by omega, show ((r.toNat : Nat) : Int) = r by omega] at h
  have h2 := of_decide_eq_true (List.all_eq_true.mp (List.all_eq_true.mp h i.toNat (List.mem_range.mpr (by omega))) j.toNat (List.mem_range.mpr (by omega)))
  rw [show ((i.toNat : Nat) : Int) = i by omega, show ((j.toNat : Nat) : Int) = j by omega] at h2
  exact h2 hi.2 hj.2
theorem wfB_put {A : AS} {s r x y : Int} (hB : bOk A.bd) (hc : cOk A.bd) (hn : 0 ≤ A.n) (h : wfB A.bd A.n A.pc) (hs : 0 ≤ s ∧ s < 5) (hr : 0 ≤ r ∧ r < 4) (hm : bMis A.bd s r x y = 0) (q : Int) : wfB (aPiece A s r x y q).bd (aPiece A s r x y q).n (aPiece A s r x y q).pc := by
  obtain ⟨h1, h2, h3⟩ := h
  have hz := sz_bd hs.1 hs.2
  have hd := bPutL_dim (s := s) (r := r) (x := x) (y := y) (v := A.n) (sz s).toNat 0 A.bd
  have hin : ∀ j : Int, 0 ≤ j → j < 0 + ((sz s).toNat : Nat) → bIn A.bd (pX s r x j) (pY s r y j) := fun j j0 j1 => bIn_of (mis0_cell hB hc hm j j0 (by omega))
  have at' := bPutL_at (s := s) (r := r) (x := x) (y := y) (v := A.n) hB (sz s).toNat 0 A.bd rfl rfl hin
  obtain ⟨B', hB'⟩ : ∃ B', B' = bPutL s r x y A.n (sz s).toNat 0 A.bd := ⟨_, rfl⟩
  rw [← hB'] at hd at'
  have e1 : (aPiece A s r x y q).bd = B' := hB'.symm
  have e2 : (aPiece A s r x y q).n = A.n + 1 := rfl
  have e3 : (aPiece A s r x y q).pc = fun i k => if i < 6 ∧ k = A.n then [s, r, x, y, A.mv, q].getD i 0 else A.pc i k := rfl
  have bin : ∀ X Y, bIn B' X Y ↔ bIn A.bd X Y := fun X Y => by
    unfold bIn
    rw [hd.1, hd.2.1]
  have bst : ∀ X Y S, bStrap B' X Y S = bStrap A.bd X Y S := fun X Y S => by
    unfold bStrap
    rw [hd.2.2]
    by_cases w : bIn B' X Y ∧ 0 ≤ S ∧ S < 2
    · rw [if_pos w, if_pos ⟨(bin X Y).mp w.1, w.2⟩]
    · rw [if_neg w, if_neg fun z => w ⟨(bin X Y).mpr z.1, z.2⟩]
  have new : ∀ X Y, bCell B' X Y = A.n → bIn A.bd X Y → ∃ j : Int, (0 ≤ j ∧ j < sz s) ∧ pX s r x j = X ∧ pY s r y j = Y := fun X Y hc2 hb => by
    by_cases w : ∃ j : Int, (0 ≤ j ∧ j < 0 + ((sz s).toNat : Nat)) ∧ pX s r x j = X ∧ pY s r y j = Y
    · obtain ⟨j, hj, z⟩ := w
      exact ⟨j, by omega, z⟩
    · have := (at' X Y).2 w
      have := h1 X Y hb
      omega
  have same : ∀ X Y, bCell B' X Y ≠ A.n → bCell B' X Y = bCell A.bd X Y := fun X Y hc2 => by
    by_cases w : ∃ j : Int, (0 ≤ j ∧ j < 0 + ((sz s).toNat : Nat)) ∧ pX s r x j = X ∧ pY s r y j = Y
    · exact absurd ((at' X Y).1 w) hc2
    · exact (at' X Y).2 w
  rw [e1, e2, e3]
  refine ⟨fun X Y hb => ?_, fun k k0 k1 => ?_, fun X Y S hS hE h0 he => ?_⟩
  · by_cases w : bCell B' X Y = A.n
    · omega
    · rw [same X Y w]
      have := h1 X Y ((bin X Y).mp hb)
      omega
  · by_cases w : k = A.n
    · subst w
      simp only [and_true]
      rw [if_pos (by decide), if_pos (by decide), if_pos (by decide), if_pos (by decide)]
      refine ⟨hs, hr, fun i i0 i1 => ?_⟩
      have i1' : i < sz s := i1
      exact (at' _ _).1 ⟨i, ⟨i0, by omega⟩, rfl, rfl⟩
    · simp only [w, and_false]
      rw [if_neg (by decide), if_neg (by decide), if_neg (by decide), if_neg (by decide)]
      obtain ⟨z1, z2, z3⟩ := h2 k k0 (by omega)
      refine ⟨z1, z2, fun i i0 i1 => ?_⟩
      have z := z3 i i0 i1
      rw [(at' _ _).2, z]
      rintro ⟨j, hj, y1, y2⟩
      have := mis0_cell hB hc hm j hj.1 (by omega)
      rw [y1, y2, z] at this
      omega
  · rw [bst]
    have hE' : bEdge A.bd X Y S := by
      obtain ⟨y1, y2⟩ := hE
      rw [hd.1, hd.2.1] at y2
      exact ⟨(bin X Y).mp y1, y2⟩
    have hbey : ∃ X' Y', bBey B' X Y S = bCell B' X' Y' ∧ bBey A.bd X Y S = bCell A.bd X' Y' ∧ ((S = 0 ∧ X' = X + 1 ∧ Y' = Y) ∨ (S = 1 ∧ X' = X ∧ Y' = Y + 1)) ∧ bIn A.bd X' Y' := by
      rcases hS with rfl | rfl
      · refine ⟨X + 1, Y, rfl, rfl, Or.inl ⟨rfl, rfl, rfl⟩, ?_⟩
        obtain ⟨y1, y2⟩ := hE'
        exact ⟨⟨by omega, by omega⟩, y1.2⟩
      · refine ⟨X, Y + 1, rfl, rfl, Or.inr ⟨rfl, rfl, rfl⟩, ?_⟩
        obtain ⟨y1, y2⟩ := hE'
        exact ⟨y1.1, by omega, by omega⟩
    obtain ⟨X', Y', b1, b2, b3, b4⟩ := hbey
    rw [b1] at he
    by_cases w : bCell B' X Y = A.n
    · obtain ⟨i, hi, i1, i2⟩ := new X Y w hE'.1
      obtain ⟨j, hj, j1, j2⟩ := new X' Y' (by omega) b4
      have eo := edg_of hs hr hi hj
      have ce := crs_edge (bMis0 hm).2
      unfold pX at i1 j1
      unfold pY at i2 j2
      rcases b3 with ⟨rfl, z1, z2⟩ | ⟨rfl, z1, z2⟩
      · have := ce _ (eo.1 ⟨by omega, by omega⟩)
        simp only at this
        rw [i1, i2] at this
        exact this
      · have := ce _ (eo.2 ⟨by omega, by omega⟩)
        simp only at this
        rw [i1, i2] at this
        exact this
    · have w1 := same X Y w
      have w2 := same X' Y' (by rw [← he]; exact w)
      exact h3 X Y S hS hE' (by omega) (by rw [b2]; omega)
theorem plOk_sc {q : PS} {v : Int} (h : plOk q) : plOk (psSc q v) := h
theorem wf_turn {A : AS} {k : Int} (h : wf A) (hk : 0 ≤ k ∧ k ≤ 2) : wf (aTurn A k) := by
  obtain ⟨a1, a2, a3, a4⟩ := h
  refine ⟨a1, a2, ⟨?_, hk⟩, a4⟩
  show w (1 - A.mv) = 0 ∨ w (1 - A.mv) = 1
  rw [w_id (by omega) (by omega)]
  omega
theorem wf_setPl {A : AS} {p : Int} {q : PS} (h : wf A) (hq : plOk q) : wf (aSetPl A p q) := by
  obtain ⟨a1, a2, a3, a4⟩ := h
  refine ⟨a1, ⟨?_, ?_⟩, a3, a4⟩
  · show plOk (if p = 0 then q else A.p0)
    split
    · exact hq
    · exact a2.1
  · show plOk (if p = 0 then A.p1 else q)
    split
    · exact a2.2
    · exact hq
/-- no more than 31 pieces lie where another fits -/
theorem two_first : ∀ s : Nat, s < 5 → ∀ r : Nat, r < 4 → (oR s r 0 ≠ oR s r 1 ∨ oD s r 0 ≠ oD s r 1) := by decide +kernel
theorem n_lt {B : Bd} {n : Int} {pc : Nat → Int → Int} (hB : bOk B) (hc : cOk B) (hn : 0 ≤ n) (h : wfB B n pc) {s r x y : Int} (hs : 0 ≤ s ∧ s < 5) (hr : 0 ≤ r ∧ r < 4) (hm : bMis B s r x y = 0) : n < 32 := by
  obtain ⟨h1, h2, h3⟩ := h
  have c1 := hB.1.2
  have c2 := hB.2.1.2
  have two : ∀ v s r x y : Int, v ≠ -3 → (0 ≤ s ∧ s < 5) → (0 ≤ r ∧ r < 4) → (∀ i : Int, 0 ≤ i → i < sz s → bCell B (pX s r x i) (pY s r y i) = v) → 2 ≤ sumI (fun k => bI (bCell B (k % 8) (k / 8) = v)) 64 := by
    intro v s r x y hv hs hr hcell
    have hz := sz_bd hs.1 hs.2
    have t1 := two_first s.toNat (by omega) r.toNat (by omega)
    rw [show ((s.toNat : Nat) : Int) = s by omega, show ((r.toNat : Nat) : Int) = r by omega] at t1
    have a0 := hcell 0 (by decide) (by omega)
    have a1 := hcell 1 (by decide) (by omega)
    have inn : ∀ X Y, bCell B X Y = v → bIn B X Y := fun X Y e => by
      by_cases w : bIn B X Y
      · exact w
      · unfold bCell at e
        rw [if_neg w] at e
        omega
    have b0 := inn _ _ a0
    have b1 := inn _ _ a1
    have x0 := b0.1
    have y0 := b0.2
    have x1 := b1.1
    have y1 := b1.2
    have i0 := in8 (x := pX s r x 0) (y := pY s r y 0) (by omega) (by omega)
    have i1 := in8 (x := pX s r x 1) (y := pY s r y 1) (by omega) (by omega)
    have := sumI_two (f := fun k => bI (bCell B (k % 8) (k / 8) = v)) (n := 64) (fun i _ _ => (bI_bd _).1) (a := 8 * pY s r y 0 + pX s r x 0) (b := 8 * pY s r y 1 + pX s r x 1) (by omega) (by omega) (by
      unfold pX pY at *
      omega)

    rw [i0.1, i0.2, i1.1, i1.2, bI_t a0, bI_t a1] at this
    exact this
  have e0 := two (-1) s r x y (by decide) hs hr (mis0_cell hB hc hm)
  have ek : ∀ k : Int, 0 ≤ k → k < (n.toNat : Nat) → 2 ≤ sumI (fun j => bI (bCell B (j % 8) (j / 8) = k)) 64 := fun k k0 k1 => by
    obtain ⟨z1, z2, z3⟩ := h2 k k0 (by omega)
    exact two k _ _ _ _ (by omega) z1 z2 z3
  have es := sumI_le (f := fun _ => 2) (f' := fun k => sumI (fun j => bI (bCell B (j % 8) (j / 8) = k)) 64) (n := n.toNat) ek
  have e2 : sumI (fun _ => (2 : Int)) n.toNat = 2 * n := by
    have a := sumI_add (f := fun _ => 1) (f' := fun _ => 1) (n := n.toNat)
    rw [sumI_one] at a
    have b : sumI (fun _ => (2 : Int)) n.toNat = sumI (fun _ => (1 : Int) + 1) n.toNat := rfl
    rw [b, a]
    omega
  have sw := sumI_swap (F := fun j k => bI (bCell B (j % 8) (j / 8) = k)) (n := n.toNat) 64
  have tot := sumI_le (f := fun j => bI (bCell B (j % 8) (j / 8) = -1) + sumI (fun k => bI (bCell B (j % 8) (j / 8) = k)) n.toNat) (f' := fun _ => 1) (n := 64) (fun j j0 j1 => by
    rw [sumI_congr (f := fun k => bI (bCell B (j % 8) (j / 8) = k)) (f' := fun k => if k = bCell B (j % 8) (j / 8) then 1 else 0) (fun k _ _ => by
      by_cases w : bCell B (j % 8) (j / 8) = k
      · rw [bI_t w, if_pos w.symm]
      · rw [bI_f w, if_neg fun z => w z.symm]), sumI_single (v := fun _ => 1)]
    by_cases w : bCell B (j % 8) (j / 8) = -1
    · rw [bI_t w, if_neg (by omega)]; decide
    · rw [bI_f w]
      split <;> omega)
  rw [sumI_add, sw, sumI_one] at tot
  rw [e2] at es
  omega
theorem wf_put {A : AS} {s r x y : Int} (h : wf A) (hs : 0 ≤ s ∧ s < 5) (hr : 0 ≤ r ∧ r < 4) (hm : aMayP A s r x y) : wf (aPut A s r x y) := by
  obtain ⟨a1, a2, a3, a4⟩ := h
  have hpl := wf_pl ⟨a1, a2, a3, a4⟩ A.mv
  have hn := n_lt a1.1 a1.2.1 a1.2.2.1 a4 hs hr hm.2.2
  unfold aPut
  refine wf_turn (wf_setPl ⟨⟨?_, ?_, ?_⟩, a2, a3, wfB_put a1.1 a1.2.1 a1.2.2.1 a4 hs hr hm.2.2 _⟩ ⟨hpl.1, hpl.2.1, fun k k0 k1 => ?_⟩) (by decide)
  · exact bOk_put (A := A) (s := s) (r := r) (x := x) (y := y) a1.1
  · exact cOk_put (A := A) (s := s) (r := r) (x := x) (y := y) a1.2.1 a1.2.2.1 (by omega)
  · show 0 ≤ A.n + 1 ∧ A.n + 1 ≤ 32
    omega
  · show 0 ≤ setI (aPl A A.mv).2.2.2.1 s (w ((aPl A A.mv).2.2.2.1 s - 1)) k ∧ setI (aPl A A.mv).2.2.2.1 s (w ((aPl A A.mv).2.2.2.1 s - 1)) k ≤ 9
    have z := hpl.2.2 s hs.1 hs.2
    have z2 := hm.2.1
    by_cases w : k = s
    · rw [w, setI_s, w_id (by omega) (by omega)]
      omega
    · rw [setI_o w]
      exact hpl.2.2 k k0 k1
theorem wfB_strap {B : Bd} {n : Int} {pc : Nat → Int → Int} {x y s : Int} (h : wfB B n pc) (hs : s = 0 ∨ s = 1) (hE : bEdge B x y s) (hB : bOk B) (hm : ¬ (0 ≤ bCell B x y ∧ bCell B x y = bBey B x y s)) : wfB (bSS B (2 * (8 * y + x) + s) 1) n pc := by
  obtain ⟨h1, h2, h3⟩ := h
  refine ⟨h1, h2, fun X Y S hS hE' h0 he => ?_⟩
  have hE2 : bEdge B X Y S := hE'
  have old := h3 X Y S hS hE2 h0 he
  have hne : ¬ (X = x ∧ Y = y ∧ S = s) := by
    rintro ⟨rfl, rfl, rfl⟩
    exact hm ⟨h0, he⟩
  unfold bStrap at old ⊢
  by_cases w : bIn B X Y ∧ 0 ≤ S ∧ S < 2
  · rw [if_pos w] at old
    rw [if_pos (show bIn (bSS B (2 * (8 * y + x) + s) 1) X Y ∧ 0 ≤ S ∧ S < 2 from w)]
    show setI B.2.2.2 (2 * (8 * y + x) + s) 1 (2 * (8 * Y + X) + S) = 0
    rw [setI_o]
    · exact old
    · have c1 := hB.1.2
      have a1 := w.1.1
      have a2 := hE.1.1
      omega
  · rw [if_neg (show ¬ (bIn (bSS B (2 * (8 * y + x) + s) 1) X Y ∧ 0 ≤ S ∧ S < 2) from w)]
theorem wf_strap {A : AS} {x y s : Int} (h : wf A) (hs : s = 0 ∨ s = 1) (hE : bEdge A.bd x y s) (hm : aMayS A x y s) : wf (aStrap A x y s) := by
  obtain ⟨a1, a2, a3, a4⟩ := h
  have hpl := wf_pl ⟨a1, a2, a3, a4⟩ A.mv
  have hc : (0 ≤ s ∧ s < 2) ∧ bEdge A.bd x y s := ⟨by omega, hE⟩
  unfold aStrap
  rw [if_pos hc]
  refine wf_turn (wf_setPl ⟨⟨bOk_SS a1.1 _, a1.2.1, a1.2.2⟩, a2, a3, wfB_strap a4 hs hE a1.1 hm.2.2.2.2⟩ ⟨?_, hpl.2.1, hpl.2.2⟩) (by decide)
  show 0 ≤ w ((aPl A A.mv).2.1 - 1) ∧ w ((aPl A A.mv).2.1 - 1) ≤ 9
  have z := hpl.1
  have z2 := hm.2.1
  rw [w_id (by omega) (by omega)]
  omega
theorem wf_pass {A : AS} (h : wf A) (hm : aMayN A) : wf (aTurn A (w (A.ps + 1))) := by
  have hp := h.2.2.1.2
  have := hm.1
  refine wf_turn h ?_
  rw [w_id (by omega) (by omega)]
  omega
theorem wf_lt {A : AS} (h : wf A) {s r x y : Int} (hs : 0 ≤ s ∧ s < 5) (hr : 0 ≤ r ∧ r < 4) (hm : aMayP A s r x y) : A.n < 32 := n_lt h.1.1 h.1.2.1 h.1.2.2.1 h.2.2.2 hs hr hm.2.2
