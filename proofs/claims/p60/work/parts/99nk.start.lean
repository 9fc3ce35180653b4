/-! ===== the class's object is made: what stands then ===== -/
theorem uI_B {B : PM} {a : Nat} (h : 100000 ≤ a) (j : Int) : uI B a j = B a j := by
  unfold uI
  rw [Nat.ble_eq_true_of_le h]
  rfl
theorem K1 {g : PG} {N a : Nat} {k : Nat × Nat × Nat} (h : g.1 = N) (ha : a < N) (h2 : a < 249) (hk : pKind a = k) : KA g a k := KA_of (by omega) (by omega) hk
/-- the opening keeps what the law asks of states -/
def opX (A : AS) : Bool := decide (0 < A.bd.1) && (decide (0 < A.bd.2.1) && ((List.range 128).all (fun k => decide (A.bd.2.2.2 (k : Int) = 0) || decide (bEdge A.bd ((k : Int) / 2 % 8) ((k : Int) / 2 / 8) ((k : Int) % 2))) && ((List.range 8).all (fun x => (List.range 8).all fun z => decide (bCell A.bd (x : Int) (z : Int) < 0)) && (decide (A.n = 0) && (decide (A.p0.1 = 0) && decide (A.p1.1 = 0))))))
def opC : Bool := match xLoad (txB tOpen) tOpen.length with
  | .ok a => opX a.2
  | .error _ => false
theorem opC_t : opC = true := by decide +kernel
theorem open_X {a : Int × AS} (h : xLoad (txB tOpen) tOpen.length = .ok a) (w : wf a.2) : wfX a.2 := by
  have q := opC_t
  unfold opC at q
  rw [h] at q
  have q : opX a.2 = true := q
  unfold opX at q
  simp only [Bool.and_eq_true, decide_eq_true_eq, List.all_eq_true, List.mem_range, Bool.or_eq_true] at q
  obtain ⟨q1, q2, q3, q4, q5, q6, q7⟩ := q
  refine wfX_0 w ⟨⟨q1, q2⟩, fun k k0 k1 hk => ?_⟩ (fun x z hin => ?_) q5 q6 q7
  · have := q3 k.toNat (by omega)
    rw [show ((k.toNat : Nat) : Int) = k by omega] at this
    rcases this with e | e
    · exact absurd e hk
    · exact e
  · have b1 := w.1.1.1
    have b2 := w.1.1.2.1
    have hin' : (0 ≤ x ∧ x < a.2.bd.1) ∧ (0 ≤ z ∧ z < a.2.bd.2.1) := hin
    have := q4 x.toNat (by omega) z.toNat (by omega)
    rw [show ((x.toNat : Nat) : Int) = x by omega, show ((z.toNat : Nat) : Int) = z by omega] at this
    exact this
/-- what stands when the class's object has been made -/
def TdS (B v : PM) : Prop := (∃ A, absT v 27 = A ∧ wfX A) ∧ v 2 0 = 0 ∧ (v 61 0 = 0 ∧ v 61 1 = 0 ∧ hT v 61 = []) ∧ (∀ k, v 0 k = B 0 k) ∧ ∀ (a : Nat) (k : Int), 100000 ≤ a → v a k = B a k
theorem Td_start (B : PM) (hB : RO B) (L : Nat) : ∃ v, run M_TD_init 135 [vA 1] [] (249, 0, L) (uI B) = some (0, vN, (249, 0, L), v) ∧ TdS B v := by
  have R0 : RO (uI B) := RO_eq (fun a k h => uI_B h k) hB
  obtain ⟨v1, a, ha, wa, e1, a1, ⟨l0, l1, l2⟩, o1, f1⟩ := TD_end (g := (249, 0, L)) (u := uI B) (t := 1) (K1 (N := 249) rfl (by decide) (by decide) rfl) ⟨K1 (N := 249) rfl (by decide) (by decide) rfl, kSt_of (Nat.le_refl 249) (by decide), kFp_of (Nat.le_refl 249) (Or.inl rfl), K1 (N := 249) rfl (by decide) (by decide) rfl, by decide⟩ (kSt_of (Nat.le_refl 249) (by decide)) R0 rfl
  have z2 : ∀ (a : Nat) (k : Int), 44 ≤ a → v1 a k = uI B a k := fun a k z => f1 a k (by omega) (by omega) (by omega)
  have h610 : v1 61 0 = 0 := (z2 _ _ (by decide)).trans rfl
  refine ⟨v1, e1, ⟨_, a1, open_X ha wa⟩, l0, ⟨h610, (z2 _ _ (by decide)).trans rfl, ?_⟩, fun k => (f1 0 k (by omega) (by omega) (by omega)).trans rfl, fun a k h => (z2 a k (by omega)).trans (uI_B h k)⟩
  unfold hT
  rw [h610]
  rfl
theorem iCell_eq {u u' : PM} {a : Nat} {k : Nat × Nat × Nat} (h : u a = u' a) : iCell u a k = iCell u' a k := by
  unfold iCell iFld
  rw [h]
theorem okL1 (a : Nat) : okL [vA a] := fun v hv => by
  rw [List.mem_singleton.mp hv]
  exact trivial
theorem okL0 : okL [] := fun v hv => nomatch hv
theorem init_TD {B v1 : PM} {L : Nat} (hB : ∀ a k, inR (B a k)) (hL : L < 2147483648) (e1 : run M_TD_init 135 [vA 1] [] (249, 0, L) (uI B) = some (0, vN, (249, 0, L), v1)) : WP M_TD_init 247 6722 0 (gEntry M_TD_init [.ref 1]) [] (ap (iG (1, 0, L) (uI B)) [.inl (10, gBlk 10)]) (gQv (fun G2 => G2 = iG (249, 0, L) v1) gNo) ∧ okM (249, 0, L) v1 := by
  obtain ⟨o1, w1⟩ := run_wp e1 (okL1 1) okL0 (okM_start (by decide) hB hL)
  refine ⟨?_, o1.2.1⟩
  have h := w1 0 0 (gQv (fun G2 => G2 = iG (249, 0, L) v1) gNo) (Nat.le_refl 0) (Nat.le_refl 0) rfl
  have h2 : iG (249, 0, L) (uI B) = ap (iG (1, 0, L) (uI B)) (lTD 1) := (ap_iG (b := 1) (n := 248) (by decide) (cell_TD B)).symm
  rw [h2] at h
  exact mk_TD1 (G := iG (1, 0, L) (uI B)) (Nat.succ_pos 0) (by show 1 + 248 ≤ gRB; decide) (Nat.le_refl 247) (Nat.le_refl 6722) h
