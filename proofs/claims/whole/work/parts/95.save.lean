/-! ===== saved positions, class ===== -/
def vT (u : PM) (t : Nat) (i : Int) : Option AS := if u (t + 233) i = 0 then none else some (absT u (t + 198 + 1 + 17 * i.toNat))
def vOk (g : PG) (u : PM) (t : Nat) : Prop := KA g (t + 198) (2, 3, 2) ∧ KA g (t + 233) (2, 1, 2) ∧ (∀ i : Nat, i < 2 → kSt g (t + 198 + 1 + 17 * i)) ∧ ∀ i : Int, 0 ≤ i → i < 2 → ∀ a, vT u t i = some a → nOk a
/-- what saving may alter -/
def FvT (t : Nat) (u u' : PM) : Prop := ∀ (a : Nat) (k : Int), ¬ (t + 199 ≤ a ∧ a ≤ t + 233) → u' a k = u a k
section
variable {g : PG} {u : PM} {t : Nat} {i : Int}
theorem vT_fr {u' : PM} (h : ∀ (a : Nat) (k : Int), t + 199 ≤ a → a ≤ t + 233 → u' a k = u a k) (i0 : 0 ≤ i) (i1 : i < 2) : vT u' t i = vT u t i := by
  unfold vT
  rw [h (t + 233) i (by omega) (by omega), absT_eq (u := u) (u' := u') fun a k b1 b2 => h a k (by omega) (by omega)]
theorem eSl_ok (h : eSl i = 0) : 0 ≤ i ∧ i < 2 := by
  unfold eSl at h
  by_cases q : 0 ≤ i ∧ i < 2
  · exact q
  · rw [if_neg q] at h; cases h
theorem TD_save (h : pOk2 g u t) (hv : vOk g u t) : (eSl i = 0 → ∃ u', call M_TD_save [vA t, vI i] g u = some (0, vI (absT u (t + 26)).n, g, u') ∧ vT u' t i = some (absT u (t + 26)) ∧ (∀ j : Int, 0 ≤ j → j < 2 → j ≠ i → vT u' t j = vT u t j) ∧ vOk g u' t ∧ FvT t u u') ∧ (eSl i ≠ 0 → call M_TD_save [vA t, vI i] g u = some (1, vN, gX g, u)) := by
  rw [C_TD_save, TD_slot]
  constructor
  · intro he
    obtain ⟨i0, i1⟩ := eSl_ok he
    obtain ⟨v0, v1, v2, v3⟩ := hv
    have hks := v2 i.toNat (by omega)
    obtain ⟨u1, e1, a1, f1⟩ := St_copyFrom (g := g) (u := u) (t := t + 198 + 1 + 17 * i.toNat) (p := t + 26) hks h.1.2.1 (by omega) h.2.2.1
    have c1 : vT (up u1 (t + 233) i 1) t i = some (absT u (t + 26)) := by
      unfold vT
      rw [up_s, if_neg (by decide), ← a1]
      exact congrArg some (absT_eq fun a k b1 b2 => up_o (by omega))
    have c2 : ∀ j : Int, 0 ≤ j → j < 2 → j ≠ i → vT (up u1 (t + 233) i 1) t j = vT u t j := fun j j0 j1 hj => by
      unfold vT
      rw [up_j hj, f1 (t + 233) j (by omega), absT_eq (u := u) (u' := up u1 (t + 233) i 1) fun a k b1 b2 => by rw [up_o (by omega), f1 a k (by omega)]]
    refine ⟨up u1 (t + 233) i 1, ?_, c1, c2, ⟨v0, v1, v2, fun j j0 j1 a ha => ?_⟩, fun a k n1 => by rw [up_o (by omega), f1 a k (by omega)]⟩
    · rw [if_pos he, cV_some, gd_O h.1.1, gd_W v0 i0 (by omega), gd_O h.1.1, gd_O hks.1, e1, cV_some]
      simp only [gd_O h.1.1, gd_O h.1.2.1.1, gd_O h.1.2.1.2.2.1.1]
      rw [gd_W v1 i0 (by omega), up_o (by omega), f1 (t + 26 + 4) 0 (by omega)]
      rfl
    · by_cases hj : j = i
      · rw [hj, c1] at ha
        injection ha with ha
        rw [← ha]
        exact h.2.2.1
      · rw [c2 j j0 j1 hj] at ha
        exact v3 j j0 j1 a ha
  · intro he
    have e1 : eSl i = 1 := by
      unfold eSl at he ⊢
      by_cases q : 0 ≤ i ∧ i < 2
      · rw [if_pos q] at he; exact absurd rfl he
      · rw [if_neg q]
    rw [if_neg he, e1]
    rfl
theorem TD_restore (h : pOk2 g u t) (hv : vOk g u t) (hh : hOk g u (t + 60)) : (eSl i ≠ 0 → call M_TD_restore [vA t, vI i] g u = some (1, vN, gX g, u)) ∧
    (eSl i = 0 → vT u t i = none → call M_TD_restore [vA t, vI i] g u = some (3, vN, gX g, u)) ∧
    (eSl i = 0 → ∀ a, vT u t i = some a → ∃ u', call M_TD_restore [vA t, vI i] g u = some (0, vI a.n, g, u') ∧ absT u' (t + 26) = a ∧ hT u' (t + 60) = hPush (hT u (t + 60)) (absT u (t + 26)) ∧ hOk g u' (t + 60) ∧ Fc t u u') := by
  obtain ⟨v0, v1, v2, v3⟩ := hv
  rw [C_TD_restore, TD_slot]
  refine ⟨fun he => ?_, fun he hn => ?_, fun he a ha => ?_⟩
  · have e1 : eSl i = 1 := by
      unfold eSl at he ⊢
      by_cases q : 0 ≤ i ∧ i < 2
      · rw [if_pos q] at he; exact absurd rfl he
      · rw [if_neg q]
    rw [if_neg he, e1]
    rfl
  · obtain ⟨i0, i1⟩ := eSl_ok he
    have hz : u (t + 233) i = 0 := by
      unfold vT at hn
      by_cases q : u (t + 233) i = 0
      · exact q
      · rw [if_neg q] at hn; cases hn
    rw [if_pos he, cV_some, gd_O h.1.1, gd_W v1 i0 (by omega), if_pos hz]
    rfl
  · obtain ⟨i0, i1⟩ := eSl_ok he
    have hks := v2 i.toNat (by omega)
    have hna := v3 i i0 i1 a ha
    have hz : u (t + 233) i ≠ 0 ∧ absT u (t + 198 + 1 + 17 * i.toNat) = a := by
      unfold vT at ha
      by_cases q : u (t + 233) i = 0
      · rw [if_pos q] at ha; cases ha
      · rw [if_neg q] at ha
        injection ha with ha
        exact ⟨q, ha⟩
    obtain ⟨u1, e1, b1, c1, f1⟩ := Hi_remember (g := g) (u := u) (p := t + 26) hh h.1.2.1 (by omega) h.2.2.1
    have as : absT u1 (t + 198 + 1 + 17 * i.toNat) = a := (absT_eq fun b k d1 d2 => f1 b k (by omega) (by omega)).trans hz.2
    obtain ⟨u2, e2, a2, f2⟩ := St_copyFrom (g := g) (u := u1) (t := t + 26) (p := t + 198 + 1 + 17 * i.toNat) h.1.2.1 hks (by omega) (by rw [as]; exact hna)
    have a2' : absT u2 (t + 26) = a := a2.trans as
    refine ⟨u2, ?_, a2', ?_, hOk_fr (fun b k d1 d2 => f2 b k (by omega)) c1, fun b k n1 n2 n3 => by rw [f2 b k n1, f1 b k (by omega) (by omega)]⟩
    · rw [if_pos he, cV_some, gd_O h.1.1, gd_W v1 i0 (by omega), if_neg hz.1]
      simp only [gd_O h.1.1, gd_O hh.1, e1, cV_some, gd_O h.1.2.1.1]
      rw [gd_W v0 i0 (by omega), e2, cV_some]
      simp only [gd_O h.1.1, gd_O h.1.2.1.1, gd_O h.1.2.1.2.2.1.1]
      rw [← a2']
      rfl
    · rw [hT_fr (fun b k d1 d2 => f2 b k (by omega)), b1]
end
