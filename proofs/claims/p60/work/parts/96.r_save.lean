/-! ===== saved positions, reference ===== -/
def vM (u : PM) (t : Nat) (i : Int) : Option AS := if u (t + 6) i = 0 then none else some (absM (fun k => u (t + 4) (417 * i + k)))
def wOk (g : PG) (u : PM) (t : Nat) : Prop := KA g (t + 4) (2, 0, 834) ∧ KA g (t + 6) (2, 1, 2) ∧ ∀ i : Int, 0 ≤ i → i < 2 → ∀ a, vM u t i = some a → nOk a
def FvM (t : Nat) (u u' : PM) : Prop := ∀ (a : Nat) (k : Int), ¬ (a = t ∧ k = 7) → a ≠ t + 4 → a ≠ t + 6 → u' a k = u a k
section
variable {g : PG} {u : PM} {t : Nat} {i : Int}
end
