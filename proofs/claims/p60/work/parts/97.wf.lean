/-! ===== what is sound about a state, and stays so ===== -/
def cOk (B : Bd) : Prop := ∀ j : Int, 0 ≤ j → j < 64 → -2 ≤ B.2.2.1 j ∧ B.2.2.1 j ≤ 98
theorem mOk_of {m : Int → Int} (h : bOk (bdM m)) (hc : cOk (bdM m)) : mOk m := by
  obtain ⟨h1, h2, h3⟩ := h
  refine ⟨h1, h2, fun j j0 j1 => ?_, fun j j0 j1 => ?_⟩
  · have := hc j j0 j1
    change -2 ≤ cl 64 (fun j => enc (m (33 + j))) j ∧ cl 64 (fun j => enc (m (33 + j))) j ≤ 98 at this
    rw [cl_in j0 j1] at this
    change -2 ≤ enc (m (33 + j)) ∧ enc (m (33 + j)) ≤ 98 at this
    unfold enc at this
    by_cases q : m (33 + j) = 0
    · omega
    · rw [if_neg q] at this
      by_cases q2 : m (33 + j) = 1
      · omega
      · rw [if_neg q2] at this
        omega
  · have := h3 (2 * (j % 64) + j / 64) (by omega) (by omega)
    change cl 128 (fun k => m (97 + 64 * (k % 2) + k / 2)) (2 * (j % 64) + j / 64) = 0 ∨ cl 128 (fun k => m (97 + 64 * (k % 2) + k / 2)) (2 * (j % 64) + j / 64) = 1 at this
    rw [cl_in (by omega) (by omega)] at this
    have e : 97 + 64 * ((2 * (j % 64) + j / 64) % 2) + (2 * (j % 64) + j / 64) / 2 = 97 + j := by omega
    change m (97 + 64 * ((2 * (j % 64) + j / 64) % 2) + (2 * (j % 64) + j / 64) / 2) = 0 ∨ m (97 + 64 * ((2 * (j % 64) + j / 64) % 2) + (2 * (j % 64) + j / 64) / 2) = 1 at this
    rw [e] at this
    exact this
theorem bPutL_dim {s r x y v : Int} : ∀ (d : Nat) (i : Int) (B : Bd), (bPutL s r x y v d i B).1 = B.1 ∧ (bPutL s r x y v d i B).2.1 = B.2.1 ∧ (bPutL s r x y v d i B).2.2.2 = B.2.2.2
  | 0, _, _ => ⟨rfl, rfl, rfl⟩
  | d + 1, i, B => by
    have h := bPutL_dim (s := s) (r := r) (x := x) (y := y) (v := v) d (i + 1) (if bIn B (pX s r x i) (pY s r y i) then bSC B (8 * pY s r y i + pX s r x i) v else B)
    unfold bPutL
    by_cases q : bIn B (pX s r x i) (pY s r y i)
    · rw [if_pos q] at h ⊢; exact h
    · rw [if_neg q] at h ⊢; exact h
theorem bPutL_cell {s r x y v : Int} : ∀ (d : Nat) (i : Int) (B : Bd) (j : Int), (bPutL s r x y v d i B).2.2.1 j = B.2.2.1 j ∨ (bPutL s r x y v d i B).2.2.1 j = v
  | 0, _, _, _ => Or.inl rfl
  | d + 1, i, B, j => by
    have h := bPutL_cell (s := s) (r := r) (x := x) (y := y) (v := v) d (i + 1) (if bIn B (pX s r x i) (pY s r y i) then bSC B (8 * pY s r y i + pX s r x i) v else B) j
    unfold bPutL
    rcases h with h | h
    · rw [h]
      by_cases q : bIn B (pX s r x i) (pY s r y i)
      · rw [if_pos q]
        show setI B.2.2.1 (8 * pY s r y i + pX s r x i) v j = _ ∨ setI B.2.2.1 (8 * pY s r y i + pX s r x i) v j = _
        unfold setI
        split
        · exact Or.inr rfl
        · exact Or.inl rfl
      · rw [if_neg q]
        exact Or.inl rfl
    · exact Or.inr h
theorem bOk_put {A : AS} {s r x y : Int} (h : bOk A.bd) : bOk (aPut A s r x y).bd := by
  obtain ⟨h1, h2, h3⟩ := bPutL_dim (s := s) (r := r) (x := x) (y := y) (v := A.n) (sz s).toNat 0 A.bd
  show bOk (bPutL s r x y A.n (sz s).toNat 0 A.bd)
  unfold bOk
  rw [h1, h2, h3]
  exact h
theorem cOk_put {A : AS} {s r x y : Int} (h : cOk A.bd) (h0 : 0 ≤ A.n) (h1 : A.n ≤ 98) : cOk (aPut A s r x y).bd := by
  intro j j0 j1
  show -2 ≤ (bPutL s r x y A.n (sz s).toNat 0 A.bd).2.2.1 j ∧ (bPutL s r x y A.n (sz s).toNat 0 A.bd).2.2.1 j ≤ 98
  rcases bPutL_cell (s := s) (r := r) (x := x) (y := y) (v := A.n) (sz s).toNat 0 A.bd j with e | e
  · rw [e]; exact h j j0 j1
  · rw [e]; omega
theorem bOk_strap {A : AS} {x y s : Int} (h : bOk A.bd) : bOk (aStrap A x y s).bd := by
  show bOk (if (0 ≤ s ∧ s < 2) ∧ bEdge A.bd x y s then bSS A.bd (2 * (8 * y + x) + s) 1 else A.bd)
  split
  · obtain ⟨h1, h2, h3⟩ := h
    refine ⟨h1, h2, fun j j0 j1 => ?_⟩
    show setI A.bd.2.2.2 (2 * (8 * y + x) + s) 1 j = 0 ∨ setI A.bd.2.2.2 (2 * (8 * y + x) + s) 1 j = 1
    unfold setI
    split
    · exact Or.inr rfl
    · exact h3 j j0 j1
  · exact h
theorem cOk_strap {A : AS} {x y s : Int} (h : cOk A.bd) : cOk (aStrap A x y s).bd := by
  show cOk (if (0 ≤ s ∧ s < 2) ∧ bEdge A.bd x y s then bSS A.bd (2 * (8 * y + x) + s) 1 else A.bd)
  split
  · exact h
  · exact h
theorem nOk_put {A : AS} {s r x y : Int} (h : nOk A) (hn : A.n < 32) : nOk (aPut A s r x y) := by
  obtain ⟨h1, h2, h3⟩ := h
  have key : ∀ q : PS, q.2.2.1 = (aPl A A.mv).2.2.1 → nOk (aTurn (aSetPl (aPiece A s r x y (bPts A.bd s r y)) A.mv q) 0) := by
    intro q hq
    unfold aPl at hq
    refine ⟨?_, ?_, ?_⟩
    · show 0 ≤ A.n + 1 ∧ A.n + 1 ≤ 32
      omega
    · show 0 ≤ (if A.mv = 0 then q else A.p0).2.2.1 ∧ (if A.mv = 0 then q else A.p0).2.2.1 ≤ 6
      by_cases e : A.mv = 0
      · rw [if_pos e] at hq ⊢
        rw [hq]; exact h2
      · rw [if_neg e]; exact h2
    · show 0 ≤ (if A.mv = 0 then A.p1 else q).2.2.1 ∧ (if A.mv = 0 then A.p1 else q).2.2.1 ≤ 6
      by_cases e : A.mv = 0
      · rw [if_pos e]; exact h3
      · rw [if_neg e] at hq ⊢
        rw [hq]; exact h3
  exact key _ rfl
theorem nOk_strap {A : AS} {x y s : Int} (h : nOk A) : nOk (aStrap A x y s) := by
  obtain ⟨h1, h2, h3⟩ := h
  refine ⟨h1, ?_, ?_⟩
  · show 0 ≤ (if A.mv = 0 then psSt (aPl A A.mv) _ else A.p0).2.2.1 ∧ (if A.mv = 0 then psSt (aPl A A.mv) _ else A.p0).2.2.1 ≤ 6
    by_cases e : A.mv = 0
    · rw [if_pos e]
      show 0 ≤ (aPl A A.mv).2.2.1 ∧ (aPl A A.mv).2.2.1 ≤ 6
      unfold aPl
      rw [if_pos e]; exact h2
    · rw [if_neg e]; exact h2
  · show 0 ≤ (if A.mv = 0 then A.p1 else psSt (aPl A A.mv) _).2.2.1 ∧ (if A.mv = 0 then A.p1 else psSt (aPl A A.mv) _).2.2.1 ≤ 6
    by_cases e : A.mv = 0
    · rw [if_pos e]; exact h3
    · rw [if_neg e]
      show 0 ≤ (aPl A A.mv).2.2.1 ∧ (aPl A A.mv).2.2.1 ≤ 6
      unfold aPl
      rw [if_neg e]; exact h3
