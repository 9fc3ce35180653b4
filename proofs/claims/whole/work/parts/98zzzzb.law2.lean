/-! ===== the start heap: static rows and the script ===== -/
def bSt (xs : Nat → Int32) : PM := fun a j => if a = 100000 then tZ.getD j.toNat 0 else if a = 100001 then tR.getD j.toNat 0 else if a = 100002 then tD.getD j.toNat 0 else if a = 100003 then (xs j.toNat).toInt else 0
theorem bSt_RO (xs : Nat → Int32) : RO (bSt xs) := ⟨fun i _ => by unfold bSt; rw [if_pos rfl, Int.toNat_natCast], fun i _ => by unfold bSt; rw [if_neg (by decide), if_pos rfl, Int.toNat_natCast], fun i _ => by unfold bSt; rw [if_neg (by decide), if_neg (by decide), if_pos rfl, Int.toNat_natCast]⟩
theorem getD_in {l : List Int} (h : ∀ x ∈ l, inR x) (k : Nat) : inR (l.getD k 0) := by
  rw [List.getD_eq_getElem?_getD]
  cases q : l[k]? with
  | none => exact inR_0
  | some x => exact h x (List.mem_of_getElem? q)
theorem bSt_in (xs : Nat → Int32) (a : Nat) (k : Int) : inR (bSt xs a k) := by
  unfold bSt
  split
  · exact getD_in (by unfold inR; decide) _
  · split
    · exact getD_in (by unfold inR; decide) _
    · split
      · exact getD_in (by unfold inR; decide) _
      · split
        · exact ⟨(xs k.toNat).le_toInt, (xs k.toNat).toInt_lt⟩
        · exact inR_0
def gRo (L : Nat) (xs : Nat → Int32) : Nat → Option (Nat × (Nat → Int32)) := fun k => if k = 100000 then some (5, fun j => Int32.ofInt (tZ.getD j 0)) else if k = 100001 then some (20, fun j => Int32.ofInt (tR.getD j 0)) else if k = 100002 then some (20, fun j => Int32.ofInt (tD.getD j 0)) else if k = 100003 then some (L, xs) else none
theorem law_SND {z : Nat} {ro : Nat → Nat} {cA : FieldType → ClassId} {D : va_G} {L : Nat} {xs : Nat → Int32} (hL : L ≤ 3072) : gC (SND z ro cA D (gRo L xs)) M_L_law 601024 7293034 [.ref 100003] (iG (1, 0, L) (uI (bSt xs))) (gQi (fun x _ => x = nI 1) gNo) :=
  WP.snd gFactsA_ok (law_WP (bSt_RO xs) (bSt_in xs) (by omega) (by omega) (by omega) fun _ => rfl)
/-- the start heap is represented by the machine's own rows and the script -/
theorem iG_ro {L : Nat} {xs : Nat → Int32} : ∀ k, gRB ≤ k → (iG (1, 0, L) (uI (bSt xs))).2 k = (gRo L xs k).map fun q => .inr (.int, q.1, .inl q.2) := by
  intro k hk
  have hk' : 100000 ≤ k := hk
  have hu : ∀ j, uI (bSt xs) k j = bSt xs k j := fun j => uI_B hk' j
  show iCell (uI (bSt xs)) k (pK (1, 0, L) k) = _
  have hb : Nat.blt k 100000 = false := Bool.eq_false_iff.mpr fun h => absurd (show k < 100000 from Nat.le_of_ble_eq_true h) (by omega)
  unfold gRo
  by_cases c0 : k = 100000
  · subst c0
    rw [if_pos rfl]
    show some (Sum.inr (FieldType.int, 5, Sum.inl fun j : Nat => Int32.ofInt (uI (bSt xs) 100000 j))) = _
    rw [show (fun j : Nat => Int32.ofInt (uI (bSt xs) 100000 j)) = fun j => Int32.ofInt (tZ.getD j 0) from funext fun j => by rw [hu]; unfold bSt; rw [if_pos rfl, Int.toNat_natCast]]
    rfl
  · rw [if_neg c0]
    by_cases c1 : k = 100001
    · subst c1
      rw [if_pos rfl]
      show some (Sum.inr (FieldType.int, 20, Sum.inl fun j : Nat => Int32.ofInt (uI (bSt xs) 100001 j))) = _
      rw [show (fun j : Nat => Int32.ofInt (uI (bSt xs) 100001 j)) = fun j => Int32.ofInt (tR.getD j 0) from funext fun j => by rw [hu]; unfold bSt; rw [if_neg c0, if_pos rfl, Int.toNat_natCast]]
      rfl
    · rw [if_neg c1]
      by_cases c2 : k = 100002
      · subst c2
        rw [if_pos rfl]
        show some (Sum.inr (FieldType.int, 20, Sum.inl fun j : Nat => Int32.ofInt (uI (bSt xs) 100002 j))) = _
        rw [show (fun j : Nat => Int32.ofInt (uI (bSt xs) 100002 j)) = fun j => Int32.ofInt (tD.getD j 0) from funext fun j => by rw [hu]; unfold bSt; rw [if_neg c0, if_neg c1, if_pos rfl, Int.toNat_natCast]]
        rfl
      · rw [if_neg c2]
        by_cases c3 : k = 100003
        · subst c3
          rw [if_pos rfl]
          show some (Sum.inr (FieldType.int, L, Sum.inl fun j : Nat => Int32.ofInt (uI (bSt xs) 100003 j))) = _
          rw [show (fun j : Nat => Int32.ofInt (uI (bSt xs) 100003 j)) = xs from funext fun j => by rw [hu]; unfold bSt; rw [if_neg c0, if_neg c1, if_neg c2, if_pos rfl, Int.toNat_natCast, ofInt_toInt]]
          rfl
        · rw [if_neg c3]
          have : pK (1, 0, L) k = (0, 0, 0) := by
            unfold pK
            rw [hb]
            simp only [cond_false]
          rw [this]
          rfl
