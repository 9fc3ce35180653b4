/-! ===== the start heap is represented ===== -/
theorem gRep_start {z : Nat} {ro : Nat → Nat} {cA : FieldType → ClassId} {D : va_G} {L : Nat} {xs : Nat → Int32} {H : Heap} (hz : H.size = z + 1) (hP : va_P D vwCl [] H) : gRep z ro cA D (gRo L xs) (iG (1, 0, L) (uI (bSt xs))) H := by
  have none_ : ∀ k, k < gRB → (iG (1, 0, L) (uI (bSt xs))).2 k = none := fun k hk => by
    have hk' : k < 100000 := hk
    show iCell (uI (bSt xs)) k (pK (1, 0, L) k) = none
    have : pK (1, 0, L) k = (0, 0, 0) := by
      unfold pK
      rw [show Nat.blt k 100000 = true from Nat.ble_eq_true_of_le hk']
      cases k with
      | zero => rfl
      | succ k => rfl
    rw [this]
    rfl
  refine ⟨0, by decide, fun k hk => ?_, fun _ => ⟨rfl, hz⟩, hP, iG_ro, fun k ci fs hk h => ?_⟩
  · rw [none_ k hk]
    constructor
    · rintro ⟨c, hc⟩
      cases hc
    · rintro ⟨h1, h2⟩
      omega
  · rw [none_ k hk] at h
    cases h
theorem va_P0 {D : va_G} {H : Heap} : va_P D vwCl [] H := fun k q h => nomatch (show (none : Option (Nat × va_E)) = some q from h)
