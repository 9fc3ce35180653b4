/-! ===== the reference: straps, placing, passing ===== -/
theorem up_set (u : PM) (o : Nat) (k v : Int) : up u o k v o = setI (u o) k v := by
  funext j
  unfold up setI
  by_cases h : j = k
  · rw [if_pos ⟨rfl, h⟩, if_pos h]
  · rw [if_neg fun q => h q.2, if_neg h]
theorem setI_s (f : Int → Int) (k v : Int) : setI f k v k = v := if_pos rfl
theorem setI_o {f : Int → Int} {k v j : Int} (h : j ≠ k) : setI f k v j = f j := if_neg h
section
variable {g : PG} {u : PM} {t : Nat} {s r x y : Int}
/-- what the reference's changes may change: its questions' places and s -/
def Fs (t : Nat) (u u' : PM) : Prop := ∀ (a : Nat) (k : Int), ¬ (a = t ∧ k = 17) → a ≠ t + 9 → a ≠ t + 10 → a ≠ t + 1 → u' a k = u a k
end
