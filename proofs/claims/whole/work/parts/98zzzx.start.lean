/-! ===== both made: the invariant holds ===== -/
theorem uI_B {B : PM} {a : Nat} (h : 100000 ≤ a) (j : Int) : uI B a j = B a j := by
  unfold uI
  rw [Nat.ble_eq_true_of_le h]
  rfl
theorem K1 {g : PG} {N a : Nat} {k : Nat × Nat × Nat} (h : g.1 = N) (ha : a < N) (h2 : a < 262) (hk : pKind a = k) : KA g a k := KA_of (by omega) h2 hk
theorem Inv_start (B : PM) (hB : RO B) (L : Nat) : ∃ v1 v2, run M_TD_init 135 [vA 1] [] (249, 0, L) (uI B) = some (0, vN, (249, 0, L), v1) ∧ run M_TM_init 100 [vA 249] [] (261, 0, L) v1 = some (0, vN, (261, 0, L), v2) ∧ Inv (262, 0, L) v2 ∧ (∀ k, v2 100003 k = B 100003 k) ∧ (∀ (a : Nat) (k : Int), 249 ≤ a → v1 a k = uI B a k) ∧ ∀ k, v2 261 k = 0 := by
  have R0 : RO (uI B) := RO_eq (fun a k h => uI_B h k) hB
  obtain ⟨v1, a, ha, wa, e1, a1, ⟨l0, l1, l2⟩, o1, f1⟩ := TD_end (g := (249, 0, L)) (u := uI B) (t := 1) (K1 (N := 249) rfl (by decide) (by decide) rfl) ⟨K1 (N := 249) rfl (by decide) (by decide) rfl, kSt_of (Nat.le_refl 249) (by decide), kFp_of (Nat.le_refl 249) (Or.inl rfl), K1 (N := 249) rfl (by decide) (by decide) rfl, by decide⟩ (kSt_of (Nat.le_refl 249) (by decide)) R0 rfl
  have g1 : ∀ (a : Nat) (k : Int), 249 ≤ a → v1 a k = uI B a k := fun a k z => f1 a k (by omega) (by omega) (by omega)
  obtain ⟨v2, a', ha', e2, a2, ⟨m6, m13, m15, m16⟩, f2⟩ := TM_end (g := (261, 0, L)) (u := v1) (t := 249) ⟨⟨K1 (N := 261) rfl (by decide) (by decide) rfl, K1 (N := 261) rfl (by decide) (by decide) rfl, K1 (N := 261) rfl (by decide) (by decide) rfl, K1 (N := 261) rfl (by decide) (by decide) rfl⟩, K1 (N := 261) rfl (by decide) (by decide) rfl⟩ (K1 (N := 261) rfl (by decide) (by decide) rfl) (K1 (N := 261) rfl (by decide) (by decide) rfl) (fun k _ _ => (g1 _ k (by decide)).trans rfl) ((g1 _ _ (by decide)).trans rfl)
  rw [ha] at ha'
  injection ha' with ha'
  rw [← ha'] at a2
  have f2' : ∀ (a : Nat) (k : Int), a < 249 → v2 a k = v1 a k := fun a k z => f2 a k (by omega) (by omega) (by omega) (by omega) (by omega) (by omega) (by omega)
  have z2 : ∀ (a : Nat) (k : Int), 44 ≤ a → a < 249 → v2 a k = uI B a k := fun a k z z' => by rw [f2' a k z', f1 a k (by omega) (by omega) (by omega)]
  have c1 : absT v2 27 = a.2 := (absT_eq fun a k b1 b2 => f2' a k (by omega)).trans a1
  have c2 : absM (v2 250) = a.2 := a2
  have h610 : v2 61 0 = 0 := (z2 _ _ (by decide) (by decide)).trans rfl
  have h611 : v2 61 1 = 0 := (z2 _ _ (by decide) (by decide)).trans rfl
  have hTe : hT v2 61 = [] := by
    unfold hT
    rw [h610]
    rfl
  have hMe : hM v2 249 = [] := by
    unfold hM
    rw [m6]
    rfl
  have o14 : v2 249 14 = 0 := by rw [f2 249 14 (by omega) (by omega) (by omega) (by omega) (by omega) (by omega) (by omega)]; exact (g1 _ _ (by decide)).trans rfl
  have o11 : v2 1 11 = 0 := (f2' 1 11 (by decide)).trans o1
  refine ⟨v1, v2, e1, e2, ⟨Nat.le_refl 262, RO_eq (u := uI B) (fun a k h => ?_) R0, ⟨by rw [c1, c2], by rw [c2]; exact wa⟩, ⟨by omega, by omega, by omega, by rw [hTe, hMe], by rw [hMe]; exact fun A hA => nomatch hA⟩, fun i i0 i1 => ?_, ⟨fun _ => 0, 0, (f2' 2 0 (by decide)).trans l0, ⟨by decide, by decide, fun k k0 k1 => by omega, fun k k0 k1 => by omega⟩, m13, by decide, by decide, fun k k0 k1 => by omega, fun k k0 k1 => by omega⟩, ⟨by rw [f2' 2 1 (by decide), m15]; exact l1, by rw [f2' 2 2 (by decide), m16]; exact l2⟩, ?_, by omega, by omega⟩, fun k => ?_, g1, fun k => ?_⟩
  · rw [f2 a k (by omega) (by omega) (by omega) (by omega) (by omega) (by omega) (by omega), g1 a k (by omega)]
  · have t1 : vT v2 1 i = none := by
      unfold vT
      exact if_pos (show v2 (1 + 233) i = 0 from (z2 (1 + 233) i (by decide) (by decide)).trans rfl)
    have t2 : vM v2 249 i = none := by
      unfold vM
      exact if_pos (show v2 (249 + 6) i = 0 by rw [f2 (249 + 6) i (by omega) (by omega) (by omega) (by omega) (by omega) (by omega) (by omega)]; exact (g1 _ _ (by decide)).trans rfl)
    rw [t1, t2]
    exact ⟨rfl, fun A hA => nomatch hA⟩
  · unfold oT oM
    rw [o11, o14]
    rfl
  · rw [f2 _ _ (by omega) (by omega) (by omega) (by omega) (by omega) (by omega) (by omega), g1 _ _ (by decide)]
    exact uI_B (by decide) k
  · rw [f2 _ _ (by omega) (by omega) (by omega) (by omega) (by omega) (by omega) (by omega), g1 _ _ (by decide)]
    rfl
