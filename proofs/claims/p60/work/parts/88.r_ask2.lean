/-! ===== the reference's questions about players, pieces and placements ===== -/
section
variable {g : PG} {u : PM} {t : Nat} {s r x y : Int}
theorem mv_or {p : Int} (h : ePl p = 0) : p = 0 ∨ p = 1 := by
  unfold ePl at h
  by_cases q : 0 ≤ p ∧ p < 2
  · omega
  · rw [if_neg q] at h; cases h
theorem eAim_ok {B : Bd} (h : eAim B s r x y = 0) : (0 ≤ s ∧ s < 5) ∧ (0 ≤ r ∧ r < 4) ∧ bIn B x y := by
  unfold eAim at h
  by_cases h1 : (0 ≤ s ∧ s < 5) ∧ 0 ≤ r ∧ r < 4
  · rw [if_pos h1] at h
    by_cases h2 : bIn B x y
    · exact ⟨h1.1, h1.2, h2⟩
    · rw [if_neg h2] at h; cases h
  · rw [if_neg h1] at h; cases h
end
