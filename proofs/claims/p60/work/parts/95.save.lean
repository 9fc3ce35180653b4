/-! ===== saved positions, class ===== -/
def vT (u : PM) (t : Nat) (i : Int) : Option AS := if u (t + 233) i = 0 then none else some (absT u (t + 198 + 1 + 17 * i.toNat))
def vOk (g : PG) (u : PM) (t : Nat) : Prop := KA g (t + 198) (2, 3, 2) ∧ KA g (t + 233) (2, 1, 2) ∧ (∀ i : Nat, i < 2 → kSt g (t + 198 + 1 + 17 * i)) ∧ ∀ i : Int, 0 ≤ i → i < 2 → ∀ a, vT u t i = some a → nOk a
/-- what saving may alter -/
def FvT (t : Nat) (u u' : PM) : Prop := ∀ (a : Nat) (k : Int), ¬ (t + 199 ≤ a ∧ a ≤ t + 233) → u' a k = u a k
section
variable {g : PG} {u : PM} {t : Nat} {i : Int}
theorem vT_fr {u' : PM} (h : ∀ (a : Nat) (k : Int), t + 199 ≤ a → a ≤ t + 233 → u' a k = u a k) (i0 : 0 ≤ i) (i1 : i < 2) : vT u' t i = vT u t i := by
  unfold vT
  rw [h (t + 233) i (by omega) (by omega), absT_eq (u := u) (u' := u') fun a k b1 b2 => h a k (by omega) (by omega)]
theorem eSl_ok (h : eSl i = 0) : 0 ≤ i ∧ i < 2 := by
  unfold eSl at h
  by_cases q : 0 ≤ i ∧ i < 2
  · exact q
  · rw [if_neg q] at h; cases h
end
