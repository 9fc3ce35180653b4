/-! ===== undo, on both sides; how many changes can be undone ===== -/
section
variable {g : PG} {u : PM} {t : Nat}
theorem hT_len (u : PM) (h : Nat) : (hT u h).length = (u h 0).toNat := by unfold hT; rw [List.length_map, List.length_range]
theorem hM_len (u : PM) (t : Nat) : (hM u t).length = (u t 6).toNat := by unfold hM; rw [List.length_map, List.length_range]
theorem TD_undoable (hk : kTD g t) (hh : hOk g u (t + 60)) : AnT g u t (call M_TD_undoableChanges [vA t] g u) 0 (hT u (t + 60)).length := by
  refine ⟨u, Fr.rfl', ?_⟩
  have h0 := hh.2.2.2.1
  rw [C_TD_undoableChanges, gd_O hk.1, gd_O hh.1, hT_len, show (((u (t + 60) 0).toNat : Nat) : Int) = u (t + 60) 0 by omega]
  rfl
theorem TD_undo (h : pOk2 g u t) (hh : hOk g u (t + 60)) (hA : ∀ a ∈ hT u (t + 60), nOk a) :
    (hT u (t + 60) = [] → ∃ u', call M_TD_undo [vA t] g u = some (3, vN, gX g, u') ∧ Fr (t + 234) u u') ∧
    ∀ l a, hT u (t + 60) = l ++ [a] → ∃ u', call M_TD_undo [vA t] g u = some (0, vI l.length, g, u') ∧ absT u' (t + 26) = a ∧ hT u' (t + 60) = l ∧ hOk g u' (t + 60) ∧ Fc t u u' := by
  have h0 := hh.2.2.2.1
  have hl := hT_len u (t + 60)
  rw [C_TD_undo, gd_O h.1.1, gd_O hh.1]
  constructor
  · intro e
    rw [e] at hl
    have : u (t + 60) 0 = 0 := by simp at hl; omega
    rw [if_pos this]
    exact ⟨u, rfl, Fr.rfl'⟩
  · intro l a e
    rw [e, List.length_append] at hl
    simp only [List.length_cons, List.length_nil] at hl
    have hc : 0 < u (t + 60) 0 := by omega
    obtain ⟨u', l', a', e', e1, e2, e3, e4, e5, e6⟩ := Hi_bringBack (g := g) (u := u) (p := t + 26) hh h.1.2.1 (by omega) hA hc
    rw [e] at e'
    obtain ⟨q1, q2⟩ := List.append_inj' e' rfl
    obtain rfl : a = a' := by injection q2
    subst q1
    rw [if_neg (by omega), gd_O h.1.1, gd_O h.1.1, gd_O hh.1, e1, cV_some, gd_O h.1.1, gd_O hh.1, e4]
    refine ⟨u', ?_, e3, e2, e5, fun b k n1 n2 n3 => e6 b k (by omega) (by omega)⟩
    rw [show u (t + 60) 0 - 1 = (l.length : Int) by omega]
end
