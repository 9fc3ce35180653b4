/-! ===== contracts of the class: footprint's reads, trunk ===== -/
theorem w8 {x y : Int} (h0 : 0 ≤ x) (h1 : x < 8) (h2 : 0 ≤ y) (h3 : y < 8) : w ((w (y * 8)) + x) = 8 * y + x := by
  rw [w_id (x := y * 8) (by omega) (by omega), w_id (by omega) (by omega)]
  omega
theorem w8s {x y s : Int} (h0 : 0 ≤ x) (h1 : x < 8) (h2 : 0 ≤ y) (h3 : y < 8) (h4 : 0 ≤ s) (h5 : s < 2) : w ((w ((w ((w (y * 8)) + x)) * 2)) + s) = 2 * (8 * y + x) + s := by
  rw [w8 h0 h1 h2 h3, w_id (x := (8 * y + x) * 2) (by omega) (by omega), w_id (by omega) (by omega)]
  omega
/-- what the trunk at t holds at (x, y) -/
def tCell (u : PM) (t : Nat) (x y : Int) : Int := if (0 ≤ x ∧ x < u t 0) ∧ 0 ≤ y ∧ y < u t 1 then u (t + 1) (8 * y + x) else -3
def tStrap (u : PM) (t : Nat) (x y s : Int) : Int := if ((0 ≤ x ∧ x < u t 0) ∧ 0 ≤ y ∧ y < u t 1) ∧ 0 ≤ s ∧ s < 2 then u (t + 2) (2 * (8 * y + x) + s) else 0
/-- columns and rows are at most 8, straps 0 or 1 -/
def tOk (u : PM) (t : Nat) : Prop := (0 ≤ u t 0 ∧ u t 0 ≤ 8) ∧ (0 ≤ u t 1 ∧ u t 1 ≤ 8) ∧ ∀ j : Int, 0 ≤ j → j < 128 → u (t + 2) j = 0 ∨ u (t + 2) j = 1
section
variable {g : PG} {u : PM} {t f : Nat}
theorem Tk_cellAt (hk : kTk g t) (ho : tOk u t) (x y : Int) : call M_Tk_cellAt [vA t, vI x, vI y] g u = some (0, vI (tCell u t x y), g, u) := by
  obtain ⟨hc, hr, -⟩ := ho
  rw [C_Tk_cellAt]
  simp only [gd_O hk.1]
  unfold tCell
  by_cases h : (0 ≤ x ∧ x < u t 0) ∧ 0 ≤ y ∧ y < u t 1
  · rw [if_pos h, if_neg (by omega), if_pos (by omega), if_neg (by omega), if_pos (by omega), w8 (by omega) (by omega) (by omega) (by omega), gd_R hk.2.1 (by omega) (by omega)]
  · rw [if_neg h]
    repeat' split
    all_goals first | rfl | omega
theorem Tk_holds (hk : kTk g t) (x y : Int) : call M_Tk_holds [vA t, vI x, vI y] g u = some (0, vI (bI ((0 ≤ x ∧ x < u t 0) ∧ 0 ≤ y ∧ y < u t 1)), g, u) := by
  rw [C_Tk_holds]
  simp only [gd_O hk.1]
  by_cases h : (0 ≤ x ∧ x < u t 0) ∧ 0 ≤ y ∧ y < u t 1
  · rw [bI_t h, if_neg (by omega), if_pos (by omega), if_neg (by omega), if_pos (by omega)]
  · rw [bI_f h]
    repeat' split
    all_goals first | rfl | omega
theorem Tk_strapAt (hk : kTk g t) (ho : tOk u t) (x y s : Int) : call M_Tk_strapAt [vA t, vI x, vI y, vI s] g u = some (0, vI (tStrap u t x y s), g, u) := by
  obtain ⟨hc, hr, hs⟩ := ho
  rw [C_Tk_strapAt]
  simp only [gd_O hk.1]
  unfold tStrap
  by_cases h : ((0 ≤ x ∧ x < u t 0) ∧ 0 ≤ y ∧ y < u t 1) ∧ 0 ≤ s ∧ s < 2
  · rw [if_pos h, if_neg (by omega), if_pos (by omega), if_neg (by omega), if_pos (by omega), if_neg (by omega), if_pos (by omega), w8s (by omega) (by omega) (by omega) (by omega) (by omega) (by omega), gd_W hk.2.2 (by omega) (by omega)]
    rcases hs (2 * (8 * y + x) + s) (by omega) (by omega) with e | e <;> rw [e] <;> rfl
  · rw [if_neg h]
    repeat' split
    all_goals first | rfl | omega
end
