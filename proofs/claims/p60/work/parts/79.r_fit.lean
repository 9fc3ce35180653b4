/-! ===== the reference: misfits and points ===== -/
def crQ (B : Bd) (s r x y i j : Int) : Bool := decide (abs2 (pX s r x i - pX s r x j) + abs2 (pY s r y i - pY s r y j) = 1 ∧ bStrap B (min2 (pX s r x i) (pX s r x j)) (min2 (pY s r y i) (pY s r y j)) (if pY s r y i = pY s r y j then 0 else 1) ≠ 0)
def crP (B : Bd) (s r x y : Int) : Bool := anyF (fun i => anyF (crQ B s r x y i) i.toNat 0) (sz s).toNat 0
theorem edg_1 : ∀ s : Nat, s < 5 → ∀ r : Nat, r < 4 → ((List.range 4).all fun i => (List.range i).all fun j => decide ((i : Int) < sz s ∧ abs2 (oR s r i - oR s r j) + abs2 (oD s r i - oD s r j) = 1 → (min2 (oR s r i) (oR s r j), min2 (oD s r i) (oD s r j), if oD s r i = oD s r j then (0 : Int) else 1) ∈ edg s r)) = true := by decide +kernel
theorem edg_2 : ∀ s : Nat, s < 5 → ∀ r : Nat, r < 4 → (edg s r).all (fun e => (List.range 4).any fun i => (List.range i).any fun j => decide ((i : Int) < sz s ∧ abs2 (oR s r i - oR s r j) + abs2 (oD s r i - oD s r j) = 1 ∧ e = (min2 (oR s r i) (oR s r j), min2 (oD s r i) (oD s r j), if oD s r i = oD s r j then (0 : Int) else 1))) = true := by decide +kernel
theorem min2_add (x a b : Int) : min2 (x + a) (x + b) = x + min2 a b := by
  unfold min2
  split <;> split <;> omega
theorem crP_eq {B : Bd} {s r x y : Int} (hs : 0 ≤ s ∧ s < 5) (hr : 0 ≤ r ∧ r < 4) : crP B s r x y = bCrs B s r x y := by
  have hz := sz_bd hs.1 hs.2
  have es : ((s.toNat : Nat) : Int) = s := by omega
  have er : ((r.toNat : Nat) : Int) = r := by omega
  have q : ∀ i j : Int, crQ B s r x y i j = true ↔ abs2 (oR s r i - oR s r j) + abs2 (oD s r i - oD s r j) = 1 ∧ bStrap B (x + min2 (oR s r i) (oR s r j)) (y + min2 (oD s r i) (oD s r j)) (if oD s r i = oD s r j then 0 else 1) ≠ 0 := by
    intro i j
    unfold crQ
    rw [decide_eq_true_iff]
    unfold pX pY
    rw [min2_add, min2_add, show x + oR s r i - (x + oR s r j) = oR s r i - oR s r j by omega, show y + oD s r i - (y + oD s r j) = oD s r i - oD s r j by omega]
    have : (y + oD s r i = y + oD s r j) ↔ (oD s r i = oD s r j) := by omega
    by_cases h : oD s r i = oD s r j
    · rw [if_pos h, if_pos (this.mpr h)]
    · rw [if_neg h, if_neg fun k => h (this.mp k)]
  have e1 := edg_1 s.toNat (by omega) r.toNat (by omega)
  have e2 := edg_2 s.toNat (by omega) r.toNat (by omega)
  rw [es, er] at e1 e2
  refine Bool.eq_iff_iff.mpr ?_
  unfold crP bCrs
  rw [anyF_iff, anyF_iff]
  constructor
  · intro h
    obtain ⟨i, ⟨i0, i1⟩, h⟩ := h
    rw [anyF_iff] at h
    obtain ⟨j, ⟨j0, j1⟩, h⟩ := h
    obtain ⟨h1, h2⟩ := (q i j).mp h
    have hm := of_decide_eq_true (List.all_eq_true.mp (List.all_eq_true.mp e1 i.toNat (List.mem_range.mpr (by omega))) j.toNat (List.mem_range.mpr (by omega)))
    rw [show ((i.toNat : Nat) : Int) = i by omega, show ((j.toNat : Nat) : Int) = j by omega] at hm
    obtain ⟨k, hk⟩ := List.getElem?_of_mem (hm ⟨by omega, h1⟩)
    have hl := (List.getElem?_eq_some_iff.mp hk).1
    refine ⟨k, ⟨by omega, by omega⟩, ?_⟩
    rw [decide_eq_true_iff, Int.toNat_natCast, List.getD_eq_getElem?_getD, hk]
    exact h2
  · intro h
    obtain ⟨k, ⟨k0, k1⟩, h⟩ := h
    rw [decide_eq_true_iff] at h
    have hl : k.toNat < (edg s r).length := by omega
    have hg : (edg s r)[k.toNat]? = some ((edg s r).getD k.toNat (0, 0, 0)) := by
      rw [List.getD_eq_getElem?_getD, List.getElem?_eq_getElem hl]
      rfl
    generalize (edg s r).getD k.toNat (0, 0, 0) = e at hg h
    have hm := List.all_eq_true.mp e2 e (List.mem_of_getElem? hg)
    obtain ⟨i, hi, hm⟩ := List.any_eq_true.mp hm
    obtain ⟨j, hj, hm⟩ := List.any_eq_true.mp hm
    rw [List.mem_range] at hi hj
    obtain ⟨h1, h2, h3⟩ := of_decide_eq_true hm
    refine ⟨i, ⟨by omega, by omega⟩, ?_⟩
    rw [anyF_iff]
    refine ⟨j, ⟨by omega, by omega⟩, (q i j).mpr ⟨h2, ?_⟩⟩
    rw [h3] at h
    exact h
theorem anyF_or {P : Int → Bool} {d : Nat} {i : Int} : anyF P (d + 1) i = (P i || anyF P d (i + 1)) := rfl
section
variable {g : PG} {u : PM} {t : Nat} {s r x y : Int}
/-- what misfits and points stand on once the cells are spread -/
def MQR (g : PG) (u : PM) (t : Nat) (s r x y : Int) : Prop := kTM g t ∧ mOk (u (t + 1)) ∧ SpT u t s r x y ∧ (0 ≤ s ∧ s < 5) ∧ (0 ≤ r ∧ r < 4) ∧ (-100 ≤ x ∧ x ≤ 100) ∧ -100 ≤ y ∧ y ≤ 100
theorem pXY_bd (hx : -100 ≤ x ∧ x ≤ 100) (hy : -100 ≤ y ∧ y ≤ 100) (i : Int) : (-102 ≤ pX s r x i ∧ pX s r x i ≤ 102) ∧ -102 ≤ pY s r y i ∧ pY s r y i ≤ 102 := by
  have := oRD_bd s r i
  unfold pX pY
  omega
end
