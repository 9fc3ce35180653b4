/-! ===== the opening is well said ===== -/
def isOk {α : Type} (X : Except ER α) : Bool := match X with
  | .ok _ => true
  | .error _ => false
theorem open_ok : isOk (xLoad (txB tOpen) tOpen.length) = true := by decide +kernel
theorem open_A : ∃ a, xLoad (txB tOpen) tOpen.length = .ok a := by
  have h := open_ok
  cases q : xLoad (txB tOpen) tOpen.length with
  | ok a => exact ⟨a, rfl⟩
  | error e => rw [q] at h; cases h
