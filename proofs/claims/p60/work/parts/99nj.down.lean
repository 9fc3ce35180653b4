/-! ===== from the plain machine back to the ghost machine ===== -/
theorem run_ev {m pc : Nat} {L S : List PV} {g : PG} {u : PM} {o : PO} (h : run m pc L S g u = some o) : ∃ n, ev n m pc L S g u = some o := by
  unfold run at h
  by_cases q : ∃ o n, ev n m pc L S g u = some o
  · rw [dif_pos q] at h
    injection h with h
    rw [← h]
    exact Classical.choose_spec q
  · rw [dif_neg q] at h
    cases h
theorem run_wp {m pc : Nat} {L S : List PV} {g : PG} {u : PM} {o : PO} (h : run m pc L S g u = some o) (hL : okL L) (hS : okL S) (hM : okM g u) : G2 m pc L S g u o := by
  obtain ⟨n, e⟩ := run_ev h
  exact ev_sound n m pc L S g u o e hL hS hM
theorem bool_ok : ∀ a : Fin 249, (pKind a.val).1 = 2 → (pKind a.val).2.1 = 1 → pTks.contains a.val = false ∧ Nat.beq a.val 2 = false ∧ Nat.beq a.val 241 = false ∧ Nat.beq a.val 0 = false := by decide +kernel
theorem okM_start {B : PM} {N L : Nat} (hN : N ≤ 249) (hB : ∀ a k, inR (B a k)) (hL : L < 2147483648) : okM (N, 0, L) (uI B) := by
  refine ⟨fun a k => ?_, fun a n k h => ?_, hL⟩
  · unfold uI
    cases Nat.ble 100000 a with
    | true => exact hB a k
    | false =>
      show inR (bif Nat.beq a 0 then B 0 k else bif pTks.contains a then (if k < 2 then 3 else 0) else bif Nat.beq a 2 then (if k = 2 then -1 else 0) else bif Nat.beq a 241 then -1 else 0)
      cases Nat.beq a 0
      · unfold inR
        cases pTks.contains a
        · cases Nat.beq a 2
          · cases Nat.beq a 241
            · show (-2147483648 : Int) ≤ 0 ∧ (0 : Int) < 2147483648; decide
            · show (-2147483648 : Int) ≤ -1 ∧ (-1 : Int) < 2147483648; decide
          · show _ ≤ (if k = 2 then (-1 : Int) else 0) ∧ (if k = 2 then (-1 : Int) else 0) < _
            split <;> exact ⟨by decide, by decide⟩
        · show _ ≤ (if k < 2 then (3 : Int) else 0) ∧ (if k < 2 then (3 : Int) else 0) < _
          split <;> exact ⟨by decide, by decide⟩
      · exact hB 0 k
  · left
    have ha : a < N := by
      by_cases c : a < 100000
      · by_cases c2 : a < N
        · exact c2
        · unfold pK at h
          rw [show Nat.blt a 100000 = true from Nat.ble_eq_true_of_le c, show Nat.blt a (N, 0, L).1 = false from Bool.eq_false_iff.mpr fun h => c2 (Nat.le_of_ble_eq_true h)] at h
          cases h
      · exfalso
        unfold pK at h
        rw [show Nat.blt a 100000 = false from Bool.eq_false_iff.mpr fun h => c (Nat.le_of_ble_eq_true h)] at h
        simp only [cond_false] at h
        split at h <;> simp at h
    have hk : pKind a = (2, 1, n) := (pK_lt (g := (N, 0, L)) ha (by omega)).symm.trans h
    obtain ⟨q1, q2, q3, q4⟩ := bool_ok ⟨a, by omega⟩ (by rw [hk]) (by rw [hk])
    unfold uI
    rw [show Nat.ble 100000 a = false from Bool.eq_false_iff.mpr fun h => absurd (Nat.le_of_ble_eq_true h) (by omega), show pTks.contains a = false from q1, show Nat.beq a 2 = false from q2, show Nat.beq a 0 = false from q4, show Nat.beq a 241 = false from q3]
    rfl
