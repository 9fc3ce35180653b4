/-! ===== the law: save, truncate; the loop ===== -/
section
variable {g : PG} {u : PM} {a : Int}
theorem L_725 (hI : Inv g u) (h0 : 0 ≤ a) (h1 : a + 6 ≤ (g.2.2 : Int)) (h2 : (g.2.2 : Int) < 2147483648) : Nx g u (run M_L_law 725 [vA 100003, vA 1, vA 249, vA 261, vI a, vN, vN, vN, vN] [] g u) (KL 100003 a) := by
  have cc : absT u (1 + 26) = absM (u 250) := hI.c
  obtain ⟨i, hi⟩ : ∃ i, i = u 100003 (a + 1) := ⟨_, rfl⟩
  obtain ⟨d1, d2⟩ := TD_save (g := g) (u := u) (t := 1) (i := i) hI.p hI.v
  rw [cc] at d1
  rw [R_L_law_725, w_id (x := a + 1) (by omega) (by omega), gd_S (by omega) (by omega), ← hi, C_L_save, gd_O (K_TD hI.1).1]
  by_cases hs : eSl i = 0
  · obtain ⟨i0, i1⟩ := eSl_ok hs
    obtain ⟨u1, e1, v1, v2, o1, f1⟩ := d1 hs
    obtain ⟨x, hx⟩ : ∃ x, x = up u1 261 0 (absM (u 250)).n := ⟨_, rfl⟩
    have fx : ∀ (a : Nat) (k : Int), 234 < a → a ≠ 261 → x a k = u a k := fun a k z1 z2 => by rw [hx, up_o z2, f1 a k (by omega)]
    have ha : x 250 = u 250 := funext fun k => fx _ k (by decide) (by decide)
    have hvm : ∀ j, vM x 249 j = vM u 249 j := fun j => by
      unfold vM
      rw [show x (249 + 4) = u (249 + 4) from funext fun k => fx _ k (by decide) (by decide), fx (249 + 6) j (by decide) (by decide)]
    obtain ⟨u2, e2, t2, m1, m2, w2, f2⟩ := (TM_save (g := g) (u := x) (t := 249) (i := i) (K_TM hI.1) (by rw [show x (249 + 1) = u 250 from ha]; exact wf_n hI.w) ⟨hI.x.1, hI.x.2.1, fun j j0 j1 b hb => hI.x.2.2 j j0 j1 b (by rw [← hvm]; exact hb)⟩).1 hs
    rw [show x (249 + 1) = u 250 from ha] at e2 m1
    have fr : ∀ (a : Nat) (k : Int), ¬ (200 ≤ a ∧ a ≤ 234) → ¬ (a = 249 ∧ k = 7) → a ≠ 253 → a ≠ 255 → a ≠ 261 → u2 a k = u a k := fun a k z1 z2 z3 z4 z5 => by rw [f2 a k z2 z3 z4, hx, up_o z5, f1 a k z1]
    have fr' : ∀ (a : Nat) (k : Int), (a < 200 ∨ (234 < a ∧ a < 249) ∨ (249 < a ∧ a ≠ 253 ∧ a ≠ 255 ∧ a ≠ 261)) → u2 a k = u a k := fun a k z => fr a k (by omega) (by omega) (by omega) (by omega) (by omega)
    have f9 : ∀ k : Int, k ≠ 7 → u2 249 k = u 249 k := fun k z => fr 249 k (by omega) (by omega) (by omega) (by omega) (by omega)
    have hvt : ∀ j : Int, 0 ≤ j → j < 2 → vT u2 1 j = vT u1 1 j := fun j j0 j1 => vT_fr (u := u1) (fun a k b1 b2 => by rw [f2 a k (by omega) (by omega) (by omega), hx, up_o (by omega)]) j0 j1
    refine ⟨g, u2, ⟨hI.1, RO_eq (fun a k ha => fr' a k (by omega)) hI.2.1, I_pres hI (fun a k b1 b2 => fr' a k (by omega)) (fun k _ _ => fr' _ k (by omega)), I_hist hI (fun a k b1 b2 => fr' a k (by omega)) (f9 _ (by decide)) (fun k => fr' _ k (by omega)), fun j j0 j1 => ?_, I_text hI (fr' _ _ (by omega)) (fun k => fr' _ k (by omega)) (f9 _ (by decide)) (fun k => fr' _ k (by omega)), ?_, I_out hI (fr' _ _ (by omega)) (fun k => fr' _ k (by omega)) (f9 _ (by decide)) (fun k => fr' _ k (by omega))⟩, rfl, rfl, fun k => fr' _ k (by omega), ?_⟩
    · rw [hvt j j0 j1]
      by_cases e : j = i
      · rw [e, v1, m1]
        exact ⟨rfl, fun A hA => by injection hA with hA; rw [← hA]; exact hI.w⟩
      · rw [v2 j j0 j1 e, m2 j j0 j1 e, hvm]
        exact hI.2.2.2.2.1 j j0 j1
    · rw [fr' 2 1 (by omega), fr' 2 2 (by omega), f9 15 (by decide), f9 16 (by decide)]
      exact hI.2.2.2.2.2.2.1
    · have h261 : u2 261 0 = (absM (u 250)).n := by rw [f2 261 0 (by omega) (by omega) (by omega), hx, up_s]
      rw [e1, cI_some, gd_L hI.1, cI_some, gd_S (by omega) (by omega), gd_O (K_TM hI.1).1, ← hx, fx 100003 _ (by decide) (by decide), ← hi, e2, cI_some, gd_O (K_TM hI.1).1, TM_thrown2 (K_TM hI.1), cI_some, if_pos t2, if_pos rfl, gd_L hI.1, h261, lcmp_s, if_pos rfl]
  · have e1 := d2 hs
    have hI1 : Inv (gX g) u := Inv_un hI FU.rfl' rfl
    obtain ⟨u2, e2, t2, f2⟩ := (TM_save (g := gX g) (u := u) (t := 249) (i := i) (K_TM hI.1) (wf_n hI.w) hI1.x).2 hs
    have fu2 : FU u u2 := FqM.un f2.qM
    refine ⟨gX g, u2, Inv_un hI1 fu2 rfl, rfl, rfl, fun k => fu2 _ k (by unfold Un; omega), ?_⟩
    rw [e1, cI_exc, if_pos (show gExc 0 = "java/lang/IllegalArgumentException" from rfl), cI_some, gd_S (by omega) (show a + 1 < ((gX g).2.2 : Int) by show a + 1 < (g.2.2 : Int); omega), gd_O (K_TM hI1.1).1, ← hi, e2, cI_some, gd_O (K_TM hI1.1).1, TM_thrown2 (K_TM hI1.1), cI_some, if_pos t2, if_neg (by decide)]
theorem L_357 (hI : Inv g u) (h0 : 0 ≤ a) (h1 : a + 6 ≤ (g.2.2 : Int)) (h2 : (g.2.2 : Int) < 2147483648) : Nx g u (run M_L_law 357 [vA 100003, vA 1, vA 249, vA 261, vI a, vN, vN, vN, vN] [] g u) (KL 100003 a) := by
  obtain ⟨b, n, k1, k2, k3⟩ := hI.2.2.2.2.2.1
  obtain ⟨i, hi⟩ : ∃ i, i = u 100003 (a + 1) := ⟨_, rfl⟩
  have d1 := TD_truncate (g := g) (u := u) (t := 1) (K_TD hI.1).1 (K_Rd hI.1) k1 i
  rw [R_L_law_357, w_id (x := a + 1) (by omega) (by omega), gd_S (by omega) (by omega), ← hi, C_L_truncateInput, gd_O (K_TD hI.1).1]
  by_cases c : 0 ≤ i ∧ i ≤ n
  · rw [if_pos c] at d1
    obtain ⟨x, hx⟩ : ∃ x, x = up (up u 2 0 i) 261 0 i := ⟨_, rfl⟩
    have fx : ∀ (a : Nat) (k : Int), ¬ (a = 2 ∧ k = 0) → a ≠ 261 → x a k = u a k := fun a k z1 z2 => by rw [hx, up_o z2, up_n z1]
    have d2 := TM_truncate (g := g) (u := x) (t := 249) (n := n) (K_TM hI.1) (by rw [fx _ _ (by omega) (by omega)]; exact k3.1) i
    rw [if_pos c] at d2
    obtain ⟨y, hy⟩ : ∃ y, y = up (up x 249 7 0) 249 13 i := ⟨_, rfl⟩
    rw [← hy] at d2
    have fy : ∀ (a : Nat) (k : Int), ¬ (a = 2 ∧ k = 0) → ¬ (a = 249 ∧ (k = 7 ∨ k = 13)) → a ≠ 261 → y a k = u a k := fun a k z1 z2 z3 => by rw [hy, up_n (by omega), up_n (by omega), fx a k z1 z3]
    have n6 := k2.2.1
    have hy2 : y 2 0 = i := by rw [hy, up_o (by omega), up_o (by omega), hx, up_o (by omega), up_s]
    have hI2 : Inv g (up y 261 0 (u 261 0)) := Inv_text hI (fun a k z1 z2 z3 z4 => by
      by_cases e : a = 261
      · by_cases ek : k = 0
        · rw [e, ek, up_s]
        · rw [e, up_j ek, hy, up_o (by omega), up_o (by omega), hx, up_j ek, up_o (by omega)]
      · rw [up_o e, fy a k z1 z3 e]) ⟨b, i, by rw [up_o (by omega)]; exact hy2, ⟨c.1, by omega, fun k q0 q1 => by rw [up_o (by omega), fy _ _ (by omega) (by omega) (by omega)]; exact k2.2.2.1 k q0 (by omega), fun k q0 q1 => k2.2.2.2 k q0 (by omega)⟩, by rw [up_o (by omega), hy, up_s], c.1, by omega, fun k q0 q1 => by rw [up_o (by omega), fy _ _ (by omega) (by omega) (by omega)]; exact k3.2.2.2.1 k q0 (by omega), fun k q0 q1 => k2.2.2.2 k q0 (by omega)⟩
    have hIy : Inv g y := Inv_un hI2 (fun a k z => by rw [up_o (by unfold Un at z; omega)]) rfl
    refine ⟨g, y, hIy, rfl, rfl, fun k => fy _ k (by omega) (by omega) (by omega), ?_⟩
    have h261 : y 261 0 = i := by rw [hy, up_o (by omega), up_o (by omega), hx, up_s]
    have t7 : y 249 7 = 0 := by rw [hy, up_j (by decide), up_s]
    rw [d1, cI_some, gd_L hI.1, cI_some, gd_S (by omega) (by omega), gd_O (K_TM hI.1).1, ← hx, fx 100003 _ (by omega) (by omega), ← hi, d2, cI_some, gd_O (K_TM hI.1).1, TM_thrown2 (K_TM hI.1), cI_some, if_pos t7, if_pos rfl, gd_L hI.1, h261, lcmp_s, if_pos rfl]
  · rw [if_neg c] at d1
    have hI1 : Inv (gX g) u := Inv_un hI FU.rfl' rfl
    have d2 := TM_truncate (g := gX g) (u := u) (t := 249) (n := n) (K_TM hI.1) k3.1 i
    rw [if_neg c] at d2
    have fu2 : FU u (up u 249 7 1) := FqM.un (FqM7 _ _ _)
    refine ⟨gX g, up u 249 7 1, Inv_un hI1 fu2 rfl, rfl, rfl, fun k => fu2 _ k (by unfold Un; omega), ?_⟩
    rw [d1, cI_exc, if_pos (show gExc 0 = "java/lang/IllegalArgumentException" from rfl), cI_some, gd_S (by omega) (show a + 1 < ((gX g).2.2 : Int) by show a + 1 < (g.2.2 : Int); omega), gd_O (K_TM hI1.1).1, ← hi, d2, cI_some, gd_O (K_TM hI1.1).1, TM_thrown2 (K_TM hI1.1), cI_some, if_pos (up_s ..), if_neg (by decide)]
/-- one round of the law's loop -/
theorem L_step (hI : Inv g u) (h0 : 0 ≤ a) (h1 : a + 6 ≤ (g.2.2 : Int)) (h2 : (g.2.2 : Int) < 2147483648) (hS : ∀ k, i32 (u 100003 k)) : Nx g u (run M_L_law 23 [vA 100003, vA 1, vA 249, vA 261, vI a, vN, vN, vN, vN] [] g u) (KL 100003 a) := by
  have id : Nx g u (run M_L_law 2718 [vA 100003, vA 1, vA 249, vA 261, vI a, vN, vN, vN, vN] [] g u) (KL 100003 a) := ⟨g, u, hI, rfl, rfl, fun _ => rfl, rfl⟩
  rw [R_L_law_23, show pK g 100003 = (2, 0, g.2.2) from rfl]
  show Nx g u (if w (((g.2.2 : Nat) : Int) - 6) < a then some (0, vI 1, g, u) else _) _
  rw [w_id (x := ((g.2.2 : Nat) : Int) - 6) (by omega) (by omega), if_neg (by omega), ← show pK g 100003 = (2, 0, g.2.2) from rfl, gd_S h0 (by omega)]
  obtain ⟨k, hk⟩ : ∃ k, k = and2 (u 100003 a) 63 := ⟨_, rfl⟩
  rw [← hk]
  by_cases c : k < 0 ∨ 56 < k
  · rw [if_pos c]; exact id
  · rw [if_neg c]
    sorry
end
