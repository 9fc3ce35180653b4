/-! ===== the reference: moves after a placement ===== -/
/-- aside, places and fields only; s as before -/
def Fa (t : Nat) (u u' : PM) : Prop := ∀ (a : Nat) (k : Int), ¬ (a = t ∧ (k = 7 ∨ k = 17)) → a ≠ t + 2 → a ≠ t + 9 → a ≠ t + 10 → ¬ (a = t + 1 ∧ ¬ (0 ≤ k ∧ k < 417)) → u' a k = u a k
section
variable {g : PG} {u : PM} {t : Nat} {s r x y p : Int}
end
section
variable {g : PG} {u : PM} {t : Nat} {s r x y p : Int}
theorem Fa7 (u : PM) (t : Nat) (v : Int) : Fa t u (up u t 7 v) := fun a k n1 _ _ _ _ => up_n (by omega)
end
