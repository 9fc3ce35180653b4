/-! ===== the reference: a piece is laid, a strap fastened ===== -/
theorem cl_set2 {n k v : Int} {f f' : Int → Int} (h0 : 0 ≤ k) (h1 : k < n) (e : f' k = v) (e' : ∀ j : Int, 0 ≤ j → j < n → j ≠ k → f' j = f j) : cl n f' = setI (cl n f) k v := by
  funext j
  unfold setI cl
  by_cases hj : j = k
  · rw [if_pos hj, hj, if_pos ⟨h0, h1⟩, e]
  · rw [if_neg hj]
    by_cases hr : 0 ≤ j ∧ j < n
    · rw [if_pos hr, if_pos hr, e' j hr.1 hr.2 hj]
    · rw [if_neg hr, if_neg hr]
theorem enc_n {n : Int} (h : 0 ≤ n) : enc (2 + n) = n := by
  unfold enc
  rw [if_neg (by omega), if_neg (by omega)]
  omega
section
variable {g : PG} {u : PM} {t : Nat} {s r x y : Int}
end
