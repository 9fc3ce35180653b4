/-! ===== the reference's constructor ends ===== -/
theorem wf_00 : wf (aClr 0 0) := by
  have pz : plOk pZ := ⟨by decide, by decide, fun _ _ _ => by show (0 : Int) ≤ 0 ∧ (0 : Int) ≤ 9; decide⟩
  have no : ∀ x y, ¬ bIn (aClr 0 0).bd x y := fun x y h => by
    have h1 : 0 ≤ x := h.1.1
    have h2 : x < 0 := h.1.2
    omega
  refine ⟨⟨⟨⟨Int.le_refl 0, show (0 : Int) ≤ 8 by decide⟩, ⟨Int.le_refl 0, show (0 : Int) ≤ 8 by decide⟩, fun j _ _ => Or.inl rfl⟩, fun j j0 j1 => ?_, Int.le_refl 0, show (0 : Int) ≤ 32 by decide⟩, ⟨pz, pz⟩, ⟨Or.inl rfl, Int.le_refl 0, show (0 : Int) ≤ 2 by decide⟩, fun x y h => absurd h (no x y), fun k k0 k1 => ?_, fun x y s _ hE => absurd hE.1 (no x y)⟩
  · show -2 ≤ cl 64 (fun _ => -1) j ∧ cl 64 (fun _ => -1) j ≤ 98
    rw [cl_in j0 j1]
    decide
  · have k1' : k < 0 := k1
    omega
section
variable {g : PG} {u : PM} {t : Nat}
theorem TM_lays10 (hk : kMd g t) {p : Nat} {tx : List Nat} (htx : gStr p = some tx) (hl : tx.length ≤ 600) : ∀ (d i : Nat) (u : PM), i + d = tx.length → u t 13 = tx.length → (∀ k : Int, 0 ≤ k → k < i → u (t + 7) k = txB tx k) → ∃ v, run M_TM_lays 10 [vA t, vA p, vI i] [] g u = run M_TM_lays 10 [vA t, vA p, vI tx.length] [] g v ∧ (∀ k : Int, 0 ≤ k → k < tx.length → v (t + 7) k = txB tx k) ∧ ∀ (a : Nat) (k : Int), a ≠ t + 7 → v a k = u a k := by
  intro d
  induction d with
  | zero =>
    intro i u hi h13 hb
    have : i = tx.length := by omega
    subst this
    exact ⟨u, rfl, hb, fun _ _ _ => rfl⟩
  | succ d ih =>
    intro i u hi h13 hb
    obtain ⟨v, e1, b1, f1⟩ := ih (i + 1) (up u (t + 7) i ((tx.getD i 0 : Nat) : Int)) (by omega) (by rw [up_o (by omega)]; exact h13) (fun k k0 k1 => by
      by_cases e : k = i
      · rw [e, up_s]
        unfold txB
        rw [Int.toNat_natCast]
      · rw [up_j e]; exact hb k k0 (by omega))
    refine ⟨v, ?_, b1, fun a k z => by rw [f1 a k z, up_o z]⟩
    rw [R_TM_lays_10, gd_O hk.1.1, h13, if_pos (by omega), gd_O hk.1.1, htx, pTx_some, decide_eq_true (show (0 : Int) ≤ i by omega), decide_eq_true (show (i : Int) < tx.length by omega), Bool.and_true, cond_true, gd_W hk.2 (by omega) (by omega), Int.toNat_natCast, w_id (x := (i : Int) + 1) (by omega) (by omega), show (i : Int) + 1 = ((i + 1 : Nat) : Int) by omega, e1]
theorem TM_end (hk : kMd g t) (h5 : KA g (t + 5) (2, 0, 417)) (h3 : KA g (t + 3) (2, 0, 3336)) (hz : ∀ k : Int, 0 ≤ k → k < 417 → u (t + 1) k = 0) (h6 : u t 6 = 0) : ∃ v a, xLoad (txB tOpen) tOpen.length = .ok a ∧ run M_TM_init 100 [vA t] [] g u = some (0, vN, g, v) ∧ absM (v (t + 1)) = a.2 ∧ (v t 6 = 0 ∧ v t 13 = 0 ∧ v t 15 = 0 ∧ v t 16 = -1) ∧ ∀ (a : Nat) (k : Int), ¬ (a = t ∧ (k = 6 ∨ k = 7 ∨ k = 13 ∨ (15 ≤ k ∧ k ≤ 23))) → a ≠ t + 1 → a ≠ t + 3 → a ≠ t + 5 → a ≠ t + 7 → a ≠ t + 9 → a ≠ t + 10 → v a k = u a k := by
  obtain ⟨a, ha⟩ := open_A
  obtain ⟨x, hx⟩ : ∃ x, x = up u t 13 (tOpen.length : Int) := ⟨_, rfl⟩
  have fx : ∀ (a : Nat) (k : Int), ¬ (a = t ∧ k = 13) → x a k = u a k := fun a k z => by rw [hx, up_n z]
  obtain ⟨y, e1, b1, f1⟩ := TM_lays10 (g := g) hk gOpen open_c.1 tOpen.length 0 x (by omega) (by rw [hx, up_s]) (fun k k0 k1 => by omega)
  have y13 : y t 13 = (tOpen.length : Int) := by rw [f1 _ _ (by omega), hx, up_s]
  have ys : absM (y (t + 1)) = aClr 0 0 := absM_clr (by rw [f1 _ _ (by omega), fx _ _ (by omega)]; exact hz 0 (by decide) (by decide)) (by rw [f1 _ _ (by omega), fx _ _ (by omega)]; exact hz 1 (by decide) (by decide)) fun k k0 k1 => by rw [f1 _ _ (by omega), fx _ _ (by omega)]; exact hz k (by omega) k1
  have y6 : y t 6 = 0 := by rw [f1 _ _ (by omega), fx _ _ (by omega)]; exact h6
  have hr : rOk g y t := by
    refine ⟨hk.1, h3, by omega, fun A hA => ?_⟩
    unfold hM at hA
    rw [y6] at hA
    cases hA
  have hB : MdB y t (txB tOpen) tOpen.length := ⟨y13, by omega, by have := open_c.1; omega, b1, fun k k0 k1 => by
    have := open_c.2 k.toNat (by omega)
    unfold txB
    omega⟩
  obtain ⟨v, f2, r2, q1, q2, ⟨e, z1, _⟩ | ⟨a', z1, z2, z3, z4, z5, z6⟩⟩ := TM_load (g := g) (u := y) hk h5 hr hB (by rw [ys]; exact wf_00)
  · rw [ha] at z1; cases z1
  · rw [ha] at z1
    injection z1 with z1
    rw [← z1] at z2 z5
    refine ⟨up v t 6 0, a, ha, ?_, ?_, ⟨up_s .., ?_, ?_, ?_⟩, fun a k n1 n2 n3 n4 n5 n6 n7 => ?_⟩
    · rw [R_TM_init_100, gd_O hk.1.1, C_TM_lays, gOpen, pTx_some, gd_O hk.1.1, ← hx]
      change (cV (run M_TM_lays 10 [vA t, vA 100016, vI ((0 : Nat) : Int)] [] g x) _ _) = _
      rw [e1, R_TM_lays_10, gd_O hk.1.1, y13, if_neg (by omega), gd_O hk.1.1, z2, cI_some, gd_O hk.1.1, cV_some]
    · rw [show up v t 6 0 (t + 1) = v (t + 1) from funext fun k => up_o (by omega)]
      exact z5
    · rw [up_j (by decide)]; exact q1
    · rw [up_j (by decide)]; exact z3
    · rw [up_j (by decide)]; exact z4
    · rw [up_n (by omega), f2 a k (by omega) n2 n3 n4 n6 n7, f1 a k n5, fx a k (by omega)]
end
