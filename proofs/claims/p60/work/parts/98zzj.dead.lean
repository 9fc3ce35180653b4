/-! ===== dead cells: no placement covers them, no neighbour ===== -/
theorem bMis0 {B : Bd} {s r x y : Int} (h : bMis B s r x y = 0) : (∀ i : Int, 0 ≤ i → i < sz s → bCell B (pX s r x i) (pY s r y i) ≠ -3 ∧ bCell B (pX s r x i) (pY s r y i) ≠ -2 ∧ ¬ 0 ≤ bCell B (pX s r x i) (pY s r y i)) ∧ bCrs B s r x y = false := by
  unfold bMis at h
  by_cases h1 : anyF (fun i => decide (bCell B (pX s r x i) (pY s r y i) = -3)) (sz s).toNat 0 = true
  · rw [if_pos h1] at h; omega
  · rw [if_neg h1] at h
    by_cases h2 : anyF (fun i => decide (bCell B (pX s r x i) (pY s r y i) = -2)) (sz s).toNat 0 = true
    · rw [if_pos h2] at h; omega
    · rw [if_neg h2] at h
      by_cases h3 : anyF (fun i => decide (0 ≤ bCell B (pX s r x i) (pY s r y i))) (sz s).toNat 0 = true
      · rw [if_pos h3] at h; omega
      · rw [if_neg h3] at h
        by_cases h4 : bCrs B s r x y = true
        · rw [if_pos h4] at h; omega
        · rw [anyF_iff] at h1 h2 h3
          refine ⟨fun i i0 i1 => ⟨fun q => h1 ⟨i, ⟨i0, by omega⟩, decide_eq_true q⟩, fun q => h2 ⟨i, ⟨i0, by omega⟩, decide_eq_true q⟩, fun q => h3 ⟨i, ⟨i0, by omega⟩, decide_eq_true q⟩⟩, ?_⟩
          cases q : bCrs B s r x y
          · rfl
          · exact absurd q h4
theorem bMis0_of {B : Bd} {s r x y : Int} (h : ∀ i : Int, 0 ≤ i → i < sz s → bCell B (pX s r x i) (pY s r y i) = -1) (h' : bCrs B s r x y = false) : bMis B s r x y = 0 := by
  unfold bMis
  have no : ∀ P : Int → Bool, (∀ i : Int, 0 ≤ i → i < sz s → P i = false) → ¬ anyF P (sz s).toNat 0 = true := fun P hP q => by
    rw [anyF_iff] at q
    obtain ⟨i, ⟨i0, i1⟩, q⟩ := q
    by_cases e : i < sz s
    · rw [hP i i0 e] at q; cases q
    · omega
  rw [if_neg (no _ fun i i0 i1 => decide_eq_false (by rw [h i i0 i1]; decide)), if_neg (no _ fun i i0 i1 => decide_eq_false (by rw [h i i0 i1]; decide)), if_neg (no _ fun i i0 i1 => decide_eq_false (by rw [h i i0 i1]; decide)), h', if_neg (by decide)]
theorem mis0_cell {B : Bd} (hB : bOk B) (hc : cOk B) {s r x y : Int} (h : bMis B s r x y = 0) : ∀ i : Int, 0 ≤ i → i < sz s → bCell B (pX s r x i) (pY s r y i) = -1 := fun i i0 i1 => by
  have a := (bMis0 h).1 i i0 i1
  have b := bCell_bd hc hB.1.2 hB.2.1.2 (pX s r x i) (pY s r y i)
  omega
theorem crs_edge {B : Bd} {s r x y : Int} (h : bCrs B s r x y = false) : ∀ e ∈ edg s r, bStrap B (x + e.1) (y + e.2.1) e.2.2 = 0 := fun e he => by
  obtain ⟨k, hk⟩ := List.getElem?_of_mem he
  have hl := (List.getElem?_eq_some_iff.mp hk).1
  by_cases q : bStrap B (x + e.1) (y + e.2.1) e.2.2 = 0
  · exact q
  · exfalso
    have : bCrs B s r x y = true := by
      unfold bCrs
      rw [anyF_iff]
      refine ⟨k, ⟨by omega, by omega⟩, ?_⟩
      rw [decide_eq_true_iff, Int.toNat_natCast, List.getD_eq_getElem?_getD, hk]
      exact q
    rw [h] at this
    cases this
theorem nbr_all : ∀ s : Nat, s < 5 → ∀ r : Nat, r < 4 → ((List.range 4).all fun i => decide (¬ (i : Int) < sz s) || (List.range 4).any fun j => decide ((j : Int) < sz s ∧ ((oR s r j = oR s r i + 1 ∧ oD s r j = oD s r i ∧ (oR s r i, oD s r i, (0 : Int)) ∈ edg s r) ∨ (oR s r j = oR s r i - 1 ∧ oD s r j = oD s r i ∧ (oR s r j, oD s r j, (0 : Int)) ∈ edg s r) ∨ (oD s r j = oD s r i + 1 ∧ oR s r j = oR s r i ∧ (oR s r i, oD s r i, (1 : Int)) ∈ edg s r) ∨ (oD s r j = oD s r i - 1 ∧ oR s r j = oR s r i ∧ (oR s r j, oD s r j, (1 : Int)) ∈ edg s r)))) = true := by decide +kernel
theorem nbr_of {s r i : Int} (hs : 0 ≤ s ∧ s < 5) (hr : 0 ≤ r ∧ r < 4) (i0 : 0 ≤ i) (i1 : i < sz s) : ∃ j : Int, (0 ≤ j ∧ j < sz s) ∧ ((oR s r j = oR s r i + 1 ∧ oD s r j = oD s r i ∧ (oR s r i, oD s r i, (0 : Int)) ∈ edg s r) ∨ (oR s r j = oR s r i - 1 ∧ oD s r j = oD s r i ∧ (oR s r j, oD s r j, (0 : Int)) ∈ edg s r) ∨ (oD s r j = oD s r i + 1 ∧ oR s r j = oR s r i ∧ (oR s r i, oD s r i, (1 : Int)) ∈ edg s r) ∨ (oD s r j = oD s r i - 1 ∧ oR s r j = oR s r i ∧ (oR s r j, oD s r j, (1 : Int)) ∈ edg s r)) := by
  have hz := sz_bd hs.1 hs.2
  have h := nbr_all s.toNat (by omega) r.toNat (by omega)
  rw [show ((s.toNat : Nat) : Int) = s by omega, show ((r.toNat : Nat) : Int) = r by omega] at h
  have h2 := List.all_eq_true.mp h i.toNat (List.mem_range.mpr (by omega))
  rw [show ((i.toNat : Nat) : Int) = i by omega, Bool.or_eq_true] at h2
  rcases h2 with q | q
  · exact absurd i1 (of_decide_eq_true q)
  · obtain ⟨j, hj, q⟩ := List.any_eq_true.mp q
    obtain ⟨q1, q2⟩ := of_decide_eq_true q
    exact ⟨j, ⟨by omega, q1⟩, q2⟩
theorem bar_edg : edg 0 0 = [(0, 0, 0)] ∧ edg 0 1 = [(0, 0, 1)] := by decide +kernel
theorem bar0 {B : Bd} {x y : Int} (h1 : bCell B x y = -1) (h2 : bCell B (x + 1) y = -1) (h3 : bStrap B x y 0 = 0) : bMis B 0 0 x y = 0 := by
  refine bMis0_of (fun i i0 i1 => ?_) ?_
  · have : i = 0 ∨ i = 1 := by
      have : sz 0 = 2 := rfl
      omega
    rcases this with rfl | rfl
    · show bCell B (x + 0) (y + 0) = -1
      rw [Int.add_zero, Int.add_zero]; exact h1
    · show bCell B (x + 1) (y + 0) = -1
      rw [Int.add_zero]; exact h2
  · unfold bCrs
    rw [bar_edg.1]
    show (decide (bStrap B (x + 0) (y + 0) 0 ≠ 0) || false) = false
    rw [Int.add_zero, Int.add_zero, h3]
    rfl
theorem bar1 {B : Bd} {x y : Int} (h1 : bCell B x y = -1) (h2 : bCell B x (y + 1) = -1) (h3 : bStrap B x y 1 = 0) : bMis B 0 1 x y = 0 := by
  refine bMis0_of (fun i i0 i1 => ?_) ?_
  · have : i = 0 ∨ i = 1 := by
      have : sz 0 = 2 := rfl
      omega
    rcases this with rfl | rfl
    · show bCell B (x + 0) (y + 0) = -1
      rw [Int.add_zero, Int.add_zero]; exact h1
    · show bCell B (x + 0) (y + 1) = -1
      rw [Int.add_zero]; exact h2
  · unfold bCrs
    rw [bar_edg.2]
    show (decide (bStrap B (x + 0) (y + 0) 1 ≠ 0) || false) = false
    rw [Int.add_zero, Int.add_zero, h3]
    rfl
theorem bar_at {x y : Int} : (pX 0 0 x 0 = x ∧ pY 0 0 y 0 = y) ∧ (pX 0 0 x 1 = x + 1 ∧ pY 0 0 y 1 = y) ∧ (pX 0 1 x 0 = x ∧ pY 0 1 y 0 = y) ∧ (pX 0 1 x 1 = x ∧ pY 0 1 y 1 = y + 1) := by
  refine ⟨⟨?_, ?_⟩, ⟨?_, ?_⟩, ⟨?_, ?_⟩, ?_, ?_⟩
  · exact Int.add_zero x
  · exact Int.add_zero y
  · rfl
  · exact Int.add_zero y
  · exact Int.add_zero x
  · exact Int.add_zero y
  · exact Int.add_zero x
  · rfl
theorem cvd_nb {B : Bd} (hB : bOk B) (hc : cOk B) {x y : Int} (hin : bIn B x y) : cvd B x y ↔ nb B (8 * y + x) := by
  have hx : (0 ≤ x ∧ x < 8) ∧ 0 ≤ y ∧ y < 8 := by
    have h1 := hB.1
    have h2 := hB.2.1
    obtain ⟨⟨z1, z2⟩, z3, z4⟩ := hin
    omega
  have mk : ∀ r a b i : Int, (0 ≤ r ∧ r < 4) → (i = 0 ∨ i = 1) → bMis B 0 r a b = 0 → bIn B a b → pX 0 r a i = x → pY 0 r b i = y → cvd B x y := fun r a b i hr hi h1 h2 h3 h4 => by
    refine ⟨0, r, a, b, by decide, hr, h2, h1, ?_⟩
    rw [anyF_iff]
    exact ⟨i, by
      have : (sz 0).toNat = 2 := rfl
      omega, decide_eq_true ⟨h3, h4⟩⟩
  constructor
  · rintro ⟨s, r, a, b, hs, hr, -, h1, h2⟩
    rw [anyF_iff] at h2
    obtain ⟨i, ⟨i0, i1⟩, h2⟩ := h2
    obtain ⟨h2, h3⟩ := of_decide_eq_true h2
    have i1' : i < sz s := by omega
    obtain ⟨j, ⟨j0, j1⟩, hj⟩ := nbr_of hs hr i0 i1'
    have ci := mis0_cell hB hc h1 i i0 i1'
    have cj := mis0_cell hB hc h1 j j0 j1
    have ce := crs_edge (bMis0 h1).2
    rw [h2, h3] at ci
    unfold pX at h2 cj
    unfold pY at h3 cj
    rcases hj with ⟨e1, e2, e3⟩ | ⟨e1, e2, e3⟩ | ⟨e1, e2, e3⟩ | ⟨e1, e2, e3⟩
    · have c := ce _ e3
      simp only at c
      rw [h2, h3] at c
      rw [show a + oR s r j = x + 1 by omega, show b + oD s r j = y by omega] at cj
      exact ⟨_, Or.inl ((adj_r hx.1.1 hx.1.2 hB.1.2).mpr ⟨ci, cj, c⟩)⟩
    · have c := ce _ e3
      simp only at c
      rw [show a + oR s r j = x - 1 by omega, show b + oD s r j = y by omega] at c cj
      have hj := bIn_of cj
      have := (adj_r (B := B) (x := x - 1) (y := y) hj.1.1 (by omega) hB.1.2).mpr ⟨cj, by rw [show x - 1 + 1 = x by omega]; exact ci, c⟩
      rw [show x - 1 + 1 = x by omega] at this
      exact ⟨_, Or.inr this⟩
    · have c := ce _ e3
      simp only at c
      rw [h2, h3] at c
      rw [show a + oR s r j = x by omega, show b + oD s r j = y + 1 by omega] at cj
      exact ⟨_, Or.inl ((adj_b hx.1.1 hx.1.2).mpr ⟨ci, cj, c⟩)⟩
    · have c := ce _ e3
      simp only at c
      rw [show a + oR s r j = x by omega, show b + oD s r j = y - 1 by omega] at c cj
      have := (adj_b (B := B) (x := x) (y := y - 1) hx.1.1 hx.1.2).mpr ⟨cj, by rw [show y - 1 + 1 = y by omega]; exact ci, c⟩
      rw [show y - 1 + 1 = y by omega] at this
      exact ⟨_, Or.inr this⟩
  · have i8 := in8 (x := x) (y := y) hx.1.1 hx.1.2
    have B0 := fun x y => @bar_at x y
    rintro ⟨d, h | h⟩
    · obtain ⟨h1, h2, ⟨h3, h4, h5⟩ | ⟨h3, h5⟩⟩ := h
      · rw [i8.1, i8.2] at h5
        rw [eC_xy hx.1.1 hx.1.2] at h1
        rw [show d = 8 * y + (x + 1) by omega, eC_xy (by omega) (by omega)] at h2
        exact mk 0 x y 0 (by decide) (Or.inl rfl) (bar0 h1 h2 h5) hin (B0 x y).1.1 (B0 x y).1.2
      · rw [i8.1, i8.2] at h5
        rw [eC_xy hx.1.1 hx.1.2] at h1
        rw [show d = 8 * (y + 1) + x by omega, eC_xy (by omega) (by omega)] at h2
        exact mk 1 x y 0 (by decide) (Or.inl rfl) (bar1 h1 h2 h5) hin (B0 x y).2.2.1.1 (B0 x y).2.2.1.2
    · obtain ⟨h1, h2, ⟨h3, h4, h5⟩ | ⟨h3, h5⟩⟩ := h
      · rw [eC_xy hx.1.1 hx.1.2] at h2
        have e5 : d % 8 = x - 1 ∧ d / 8 = y := by omega
        rw [e5.1, e5.2] at h5
        rw [show d = 8 * y + (x - 1) by omega, eC_xy (by omega) (by omega)] at h1
        have := (B0 (x - 1) y).2.1
        exact mk 0 (x - 1) y 1 (by decide) (Or.inr rfl) (bar0 h1 (by rw [show x - 1 + 1 = x by omega]; exact h2) h5) (bIn_of h1) (by omega) this.2
      · rw [eC_xy hx.1.1 hx.1.2] at h2
        have e5 : d % 8 = x ∧ d / 8 = y - 1 := by omega
        rw [e5.1, e5.2] at h5
        rw [show d = 8 * (y - 1) + x by omega, eC_xy (by omega) (by omega)] at h1
        have := (B0 x (y - 1)).2.2.2
        exact mk 1 x (y - 1) 1 (by decide) (Or.inr rfl) (bar1 h1 (by rw [show y - 1 + 1 = y by omega]; exact h2) h5) (bIn_of h1) this.1 (by omega)
theorem mOk_c {m : Int → Int} (h : mOk m) : cOk (bdM m) := fun j j0 j1 => by
  have := h.2.2.1 j j0 j1
  show -2 ≤ cl 64 (fun j => enc (m (33 + j))) j ∧ cl 64 (fun j => enc (m (33 + j))) j ≤ 98
  rw [cl_in j0 j1]
  unfold enc
  repeat' split
  all_goals omega
section
variable {g : PG} {u : PM} {t : Nat} {x y : Int}
end
