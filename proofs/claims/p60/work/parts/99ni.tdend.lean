/-! ===== the class's constructor ends ===== -/
section
variable {g : PG} {u : PM} {t : Nat}
theorem TD_end (hk : KA g t (1, 10, 0)) (hr : kRd g (t + 1)) (hp : kSt g (t + 26)) (hR : RO u) (h0 : u (t + 1) 0 = 0) : ∃ v a, xLoad (txB tOpen) tOpen.length = .ok a ∧ wf a.2 ∧ run M_TD_init 135 [vA t] [] g u = some (0, vN, g, v) ∧ absT v (t + 26) = a.2 ∧ (v (t + 1) 0 = 0 ∧ v (t + 1) 1 = 0 ∧ v (t + 1) 2 = -1) ∧ v t 11 = 0 ∧ ∀ (a : Nat) (k : Int), ¬ (t + 1 ≤ a ∧ a ≤ t + 25) → ¬ (t + 26 ≤ a ∧ a ≤ t + 42) → ¬ (a = t ∧ k = 11) → v a k = u a k := by
  obtain ⟨a, ha⟩ := open_A
  have ha' := ha
  rw [xLoad_as] at ha'
  obtain ⟨p, hp1, hp2⟩ := xb_ok ha'
  obtain ⟨x, hx⟩ : ∃ x, x = up u t 11 0 := ⟨_, rfl⟩
  have fx : ∀ (a : Nat) (k : Int), a ≠ t → x a k = u a k := fun a k z => by rw [hx, up_o z]
  obtain ⟨v1, e1, l1, t1, f1⟩ := Rd_text (g := g) (u := x) hr (by rw [fx _ _ (by omega)]; exact h0) gOpen open_c.1 open_c.2
  have hlt := hr.2.2.2.2
  have R1 : RO v1 := RO_eq (fun a k z => by rw [f1 a k (by omega) (by omega), fx a k (by omega)]) hR
  obtain ⟨v2, e2, s2, f2⟩ := Rd_start (g := g) hr l1 t1 R1
  obtain ⟨v3, f3, ⟨e, x3, _⟩ | ⟨a3, x3, e3, s3, w3⟩⟩ := Rd_setup (g := g) hr s2
  · change xSet (txB tOpen) tOpen.length = _ at x3
    rw [hp1] at x3
    cases x3
  · change xSet (txB tOpen) tOpen.length = _ at x3
    change _ = some (0, vI 1, g, v3) at e3
    rw [hp1] at x3
    injection x3 with x3
    subst x3
    obtain ⟨v4, f4, ⟨e, x4, _⟩ | ⟨a4, x4, e4, s4, t4, r4⟩⟩ := Rd_cmds (g := g) hr 601 0 v3 p.1 p.2 (by decide) (by decide) s3 w3.1
    · rw [hp2] at x4
      cases x4
    · change _ = some (0, vI 1, g, v4) at e4
      rw [hp2] at x4
      injection x4 with x4
      subst x4
      have wa : wf a.2 := xCmds_ok w3.1 hp2
      obtain ⟨v5, e5, t5, f5⟩ := St_copyFrom (g := g) (u := v4) (t := t + 26) (p := t + 1 + 1) hp hr.2.1 (by omega) (by rw [t4]; exact wf_n wa)
      have fr : ∀ (a : Nat) (k : Int), ¬ (t + 1 ≤ a ∧ a ≤ t + 25) → ¬ (t + 26 ≤ a ∧ a ≤ t + 42) → v5 a k = x a k := fun a k z1 z2 => by rw [f5 a k (by omega), f4 a k (by omega), f3 a k (by omega), f2 a k (by omega), f1 a k (by omega) (by omega)]
      refine ⟨up v5 (t + 1) 0 0, a, ha, wa, ?_, ?_, ⟨up_s .., ?_, ?_⟩, ?_, fun a k z1 z2 z3 => ?_⟩
      · rw [R_TD_init_135]
        simp only [gd_O hk, gd_O hr.1]
        rw [← hx, e1, cV_some]
        simp only [gd_O hk, gd_O hr.1]
        rw [e2, cV_some]
        simp only [gd_O hk, gd_O hr.1]
        rw [e3, cI_some, if_neg (by decide)]
        simp only [gd_O hk, gd_O hr.1]
        rw [C_Rd_readCommands, e4, cI_some, if_neg (by decide)]
        simp only [gd_O hk, gd_O hr.1, gd_O hp.1]
        rw [e5, cV_some, R_TD_init_190]
        simp only [gd_O hk, gd_O hr.1]
        rw [C_Rd_clear, gd_O hr.1, cV_some]
      · rw [absT_eq (u := v5) fun a k b1 b2 => up_o (by omega)]
        exact t5.trans t4
      · rw [up_j (by decide), f5 _ _ (by omega)]; exact s4.1
      · rw [up_j (by decide), f5 _ _ (by omega)]; exact s4.2.1
      · rw [up_o (by omega), fr t 11 (by omega) (by omega), hx, up_s]
      · rw [up_o (by omega), fr a k z1 z2, hx, up_n z3]
end
