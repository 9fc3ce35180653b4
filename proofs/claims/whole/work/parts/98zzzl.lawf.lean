/-! ===== the law: save, truncate; the loop ===== -/
section
variable {g : PG} {u : PM} {a : Int}
theorem L_725 (hI : Inv g u) (h0 : 0 ≤ a) (h1 : a + 6 ≤ (g.2.2 : Int)) (h2 : (g.2.2 : Int) < 2147483648) : Nx g u (run M_L_law 725 [vA 100003, vA 1, vA 249, vA 261, vI a, vN, vN, vN, vN] [] g u) (KL 100003 a) := by
  have cc : absT u (1 + 26) = absM (u 250) := hI.c
  obtain ⟨i, hi⟩ : ∃ i, i = u 100003 (a + 1) := ⟨_, rfl⟩
  obtain ⟨d1, d2⟩ := TD_save (g := g) (u := u) (t := 1) (i := i) hI.p hI.v
  rw [cc] at d1
  rw [R_L_law_725, w_id (x := a + 1) (by omega) (by omega), gd_S (by omega) (by omega), ← hi, C_L_save, gd_O (K_TD hI.1).1]
  by_cases hs : eSl i = 0
  · obtain ⟨i0, i1⟩ := eSl_ok hs
    obtain ⟨u1, e1, v1, v2, o1, f1⟩ := d1 hs
    obtain ⟨x, hx⟩ : ∃ x, x = up u1 261 0 (absM (u 250)).n := ⟨_, rfl⟩
    have fx : ∀ (a : Nat) (k : Int), 234 < a → a ≠ 261 → x a k = u a k := fun a k z1 z2 => by rw [hx, up_o z2, f1 a k (by omega)]
    have ha : x 250 = u 250 := funext fun k => fx _ k (by decide) (by decide)
    have hvm : ∀ j, vM x 249 j = vM u 249 j := fun j => by
      unfold vM
      rw [show x (249 + 4) = u (249 + 4) from funext fun k => fx _ k (by decide) (by decide), fx (249 + 6) j (by decide) (by decide)]
    obtain ⟨u2, e2, t2, m1, m2, w2, f2⟩ := (TM_save (g := g) (u := x) (t := 249) (i := i) (K_TM hI.1) (by rw [show x (249 + 1) = u 250 from ha]; exact wf_n hI.w) ⟨hI.x.1, hI.x.2.1, fun j j0 j1 b hb => hI.x.2.2 j j0 j1 b (by rw [← hvm]; exact hb)⟩).1 hs
    rw [show x (249 + 1) = u 250 from ha] at e2 m1
    have fr : ∀ (a : Nat) (k : Int), ¬ (200 ≤ a ∧ a ≤ 234) → ¬ (a = 249 ∧ k = 7) → a ≠ 253 → a ≠ 255 → a ≠ 261 → u2 a k = u a k := fun a k z1 z2 z3 z4 z5 => by rw [f2 a k z2 z3 z4, hx, up_o z5, f1 a k z1]
    have fr' : ∀ (a : Nat) (k : Int), (a < 200 ∨ (234 < a ∧ a < 249) ∨ (249 < a ∧ a ≠ 253 ∧ a ≠ 255 ∧ a ≠ 261)) → u2 a k = u a k := fun a k z => fr a k (by omega) (by omega) (by omega) (by omega) (by omega)
    have f9 : ∀ k : Int, k ≠ 7 → u2 249 k = u 249 k := fun k z => fr 249 k (by omega) (by omega) (by omega) (by omega) (by omega)
    have hvt : ∀ j : Int, 0 ≤ j → j < 2 → vT u2 1 j = vT u1 1 j := fun j j0 j1 => vT_fr (u := u1) (fun a k b1 b2 => by rw [f2 a k (by omega) (by omega) (by omega), hx, up_o (by omega)]) j0 j1
    refine ⟨g, u2, ⟨hI.1, RO_eq (fun a k ha => fr' a k (by omega)) hI.2.1, I_pres hI (fun a k b1 b2 => fr' a k (by omega)) (fun k _ _ => fr' _ k (by omega)), I_hist hI (fun a k b1 b2 => fr' a k (by omega)) (f9 _ (by decide)) (fun k => fr' _ k (by omega)), fun j j0 j1 => ?_, I_text hI (fr' _ _ (by omega)) (fun k => fr' _ k (by omega)) (f9 _ (by decide)) (fun k => fr' _ k (by omega)), ?_, I_out hI (fr' _ _ (by omega)) (fun k => fr' _ k (by omega)) (f9 _ (by decide)) (fun k => fr' _ k (by omega))⟩, Gx0, rfl, fun k => fr' _ k (by omega), ?_⟩
    · rw [hvt j j0 j1]
      by_cases e : j = i
      · rw [e, v1, m1]
        exact ⟨rfl, fun A hA => by injection hA with hA; rw [← hA]; exact hI.w⟩
      · rw [v2 j j0 j1 e, m2 j j0 j1 e, hvm]
        exact hI.2.2.2.2.1 j j0 j1
    · rw [fr' 2 1 (by omega), fr' 2 2 (by omega), f9 15 (by decide), f9 16 (by decide)]
      exact hI.2.2.2.2.2.2.1
    · have h261 : u2 261 0 = (absM (u 250)).n := by rw [f2 261 0 (by omega) (by omega) (by omega), hx, up_s]
      rw [e1, cI_some, gd_L hI.1, cI_some, gd_S (by omega) (by omega), gd_O (K_TM hI.1).1, ← hx, fx 100003 _ (by decide) (by decide), ← hi, e2, cI_some, gd_O (K_TM hI.1).1, TM_thrown2 (K_TM hI.1), cI_some, if_pos t2, if_pos rfl, gd_L hI.1, h261, lcmp_s, if_pos rfl]
  · have e1 := d2 hs
    have hI1 : Inv (gX g) u := Inv_un hI FU.rfl' rfl
    obtain ⟨u2, e2, t2, f2⟩ := (TM_save (g := gX g) (u := u) (t := 249) (i := i) (K_TM hI.1) (wf_n hI.w) hI1.x).2 hs
    have fu2 : FU u u2 := FqM.un f2.qM
    refine ⟨gX g, u2, Inv_un hI1 fu2 rfl, GxX, rfl, fun k => fu2 _ k (by unfold Un; omega), ?_⟩
    rw [e1, cI_exc, if_pos (show gExc 0 = "java/lang/IllegalArgumentException" from rfl), cI_some, gd_S (by omega) (show a + 1 < ((gX g).2.2 : Int) by show a + 1 < (g.2.2 : Int); omega), gd_O (K_TM hI1.1).1, ← hi, e2, cI_some, gd_O (K_TM hI1.1).1, TM_thrown2 (K_TM hI1.1), cI_some, if_pos t2, if_neg (by decide)]
theorem L_357 (hI : Inv g u) (h0 : 0 ≤ a) (h1 : a + 6 ≤ (g.2.2 : Int)) (h2 : (g.2.2 : Int) < 2147483648) : Nx g u (run M_L_law 357 [vA 100003, vA 1, vA 249, vA 261, vI a, vN, vN, vN, vN] [] g u) (KL 100003 a) := by
  obtain ⟨b, n, k1, k2, k3⟩ := hI.2.2.2.2.2.1
  obtain ⟨i, hi⟩ : ∃ i, i = u 100003 (a + 1) := ⟨_, rfl⟩
  have d1 := TD_truncate (g := g) (u := u) (t := 1) (K_TD hI.1).1 (K_Rd hI.1) k1 i
  rw [R_L_law_357, w_id (x := a + 1) (by omega) (by omega), gd_S (by omega) (by omega), ← hi, C_L_truncateInput, gd_O (K_TD hI.1).1]
  by_cases c : 0 ≤ i ∧ i ≤ n
  · rw [if_pos c] at d1
    obtain ⟨x, hx⟩ : ∃ x, x = up (up u 2 0 i) 261 0 i := ⟨_, rfl⟩
    have fx : ∀ (a : Nat) (k : Int), ¬ (a = 2 ∧ k = 0) → a ≠ 261 → x a k = u a k := fun a k z1 z2 => by rw [hx, up_o z2, up_n z1]
    have d2 := TM_truncate (g := g) (u := x) (t := 249) (n := n) (K_TM hI.1) (by rw [fx _ _ (by omega) (by omega)]; exact k3.1) i
    rw [if_pos c] at d2
    obtain ⟨y, hy⟩ : ∃ y, y = up (up x 249 7 0) 249 13 i := ⟨_, rfl⟩
    rw [← hy] at d2
    have fy : ∀ (a : Nat) (k : Int), ¬ (a = 2 ∧ k = 0) → ¬ (a = 249 ∧ (k = 7 ∨ k = 13)) → a ≠ 261 → y a k = u a k := fun a k z1 z2 z3 => by rw [hy, up_n (by omega), up_n (by omega), fx a k z1 z3]
    have n6 := k2.2.1
    have hy2 : y 2 0 = i := by rw [hy, up_o (by omega), up_o (by omega), hx, up_o (by omega), up_s]
    have hI2 : Inv g (up y 261 0 (u 261 0)) := Inv_text hI (fun a k z1 z2 z3 z4 => by
      by_cases e : a = 261
      · by_cases ek : k = 0
        · rw [e, ek, up_s]
        · rw [e, up_j ek, hy, up_o (by omega), up_o (by omega), hx, up_j ek, up_o (by omega)]
      · rw [up_o e, fy a k z1 z3 e]) ⟨b, i, by rw [up_o (by omega)]; exact hy2, ⟨c.1, by omega, fun k q0 q1 => by rw [up_o (by omega), fy _ _ (by omega) (by omega) (by omega)]; exact k2.2.2.1 k q0 (by omega), fun k q0 q1 => k2.2.2.2 k q0 (by omega)⟩, by rw [up_o (by omega), hy, up_s], c.1, by omega, fun k q0 q1 => by rw [up_o (by omega), fy _ _ (by omega) (by omega) (by omega)]; exact k3.2.2.2.1 k q0 (by omega), fun k q0 q1 => k2.2.2.2 k q0 (by omega)⟩
    have hIy : Inv g y := Inv_un hI2 (fun a k z => by rw [up_o (by unfold Un at z; omega)]) rfl
    refine ⟨g, y, hIy, Gx0, rfl, fun k => fy _ k (by omega) (by omega) (by omega), ?_⟩
    have h261 : y 261 0 = i := by rw [hy, up_o (by omega), up_o (by omega), hx, up_s]
    have t7 : y 249 7 = 0 := by rw [hy, up_j (by decide), up_s]
    rw [d1, cI_some, gd_L hI.1, cI_some, gd_S (by omega) (by omega), gd_O (K_TM hI.1).1, ← hx, fx 100003 _ (by omega) (by omega), ← hi, d2, cI_some, gd_O (K_TM hI.1).1, TM_thrown2 (K_TM hI.1), cI_some, if_pos t7, if_pos rfl, gd_L hI.1, h261, lcmp_s, if_pos rfl]
  · rw [if_neg c] at d1
    have hI1 : Inv (gX g) u := Inv_un hI FU.rfl' rfl
    have d2 := TM_truncate (g := gX g) (u := u) (t := 249) (n := n) (K_TM hI.1) k3.1 i
    rw [if_neg c] at d2
    have fu2 : FU u (up u 249 7 1) := FqM.un (FqM7 _ _ _)
    refine ⟨gX g, up u 249 7 1, Inv_un hI1 fu2 rfl, GxX, rfl, fun k => fu2 _ k (by unfold Un; omega), ?_⟩
    rw [d1, cI_exc, if_pos (show gExc 0 = "java/lang/IllegalArgumentException" from rfl), cI_some, gd_S (by omega) (show a + 1 < ((gX g).2.2 : Int) by show a + 1 < (g.2.2 : Int); omega), gd_O (K_TM hI1.1).1, ← hi, d2, cI_some, gd_O (K_TM hI1.1).1, TM_thrown2 (K_TM hI1.1), cI_some, if_pos (up_s ..), if_neg (by decide)]
/-- one round of the law's loop -/
theorem L_step (hI : Inv g u) (h0 : 0 ≤ a) (h1 : a + 6 ≤ (g.2.2 : Int)) (h2 : (g.2.2 : Int) < 2147483648) (hS : ∀ k, i32 (u 100003 k)) : Nx g u (run M_L_law 23 [vA 100003, vA 1, vA 249, vA 261, vI a, vN, vN, vN, vN] [] g u) (KL 100003 a) := by
  have id : Nx g u (run M_L_law 2718 [vA 100003, vA 1, vA 249, vA 261, vI a, vN, vN, vN, vN] [] g u) (KL 100003 a) := ⟨g, u, hI, Gx0, rfl, fun _ => rfl, rfl⟩
  rw [R_L_law_23, show pK g 100003 = (2, 0, g.2.2) from rfl]
  show Nx g u (if w (((g.2.2 : Nat) : Int) - 6) < a then some (0, vI 1, g, u) else _) _
  rw [w_id (x := ((g.2.2 : Nat) : Int) - 6) (by omega) (by omega), if_neg (by omega), ← show pK g 100003 = (2, 0, g.2.2) from rfl, gd_S h0 (by omega)]
  obtain ⟨k, hk⟩ : ∃ k, k = and2 (u 100003 a) 63 := ⟨_, rfl⟩
  rw [← hk]
  by_cases c : k < 0 ∨ 56 < k
  · rw [if_pos c]; exact id
  · rw [if_neg c]
    by_cases c0 : k = 0
    · rw [if_pos c0]; exact L_284 hI h0 h1 h2
    rw [if_neg c0]
    by_cases c1 : k = 1
    · rw [if_pos c1]; exact L_357 hI h0 h1 h2
    rw [if_neg c1]
    by_cases c2 : k = 2
    · rw [if_pos c2]; exact L_413 hI
    rw [if_neg c2]
    by_cases c3 : k = 3
    · rw [if_pos c3]; exact L_426 hI
    rw [if_neg c3]
    by_cases c4 : k = 4
    · rw [if_pos c4]; exact L_439 hI
    rw [if_neg c4]
    by_cases c5 : k = 5
    · rw [if_pos c5]; exact L_452 hI
    rw [if_neg c5]
    by_cases c6 : k = 6
    · rw [if_pos c6]; exact L_465 hI h0 h1 h2
    rw [if_neg c6]
    by_cases c7 : k = 7
    · rw [if_pos c7]; exact L_557 hI h0 h1 h2 hS
    rw [if_neg c7]
    by_cases c8 : k = 8
    · rw [if_pos c8]; exact L_637 hI
    rw [if_neg c8]
    by_cases c9 : k = 9
    · rw [if_pos c9]; exact L_681 hI
    rw [if_neg c9]
    by_cases c10 : k = 10
    · rw [if_pos c10]; exact L_725 hI h0 h1 h2
    rw [if_neg c10]
    by_cases c11 : k = 11
    · rw [if_pos c11]; exact L_781 hI h0 h1 h2
    rw [if_neg c11]
    by_cases c12 : k = 12
    · rw [if_pos c12]; exact L_837 hI
    rw [if_neg c12]
    by_cases c13 : k = 13
    · rw [if_pos c13]; exact L_850 hI
    rw [if_neg c13]
    by_cases c14 : k = 14
    · rw [if_pos c14]; exact L_863 hI
    rw [if_neg c14]
    by_cases c15 : k = 15
    · rw [if_pos c15]; exact L_876 hI
    rw [if_neg c15]
    by_cases c16 : k = 16
    · rw [if_pos c16]; exact L_889 hI
    rw [if_neg c16]
    by_cases c17 : k = 17
    · rw [if_pos c17]; exact L_902 hI
    rw [if_neg c17]
    by_cases c18 : k = 18
    · rw [if_pos c18]; exact L_915 hI
    rw [if_neg c18]
    by_cases c19 : k = 19
    · rw [if_pos c19]; exact L_928 hI h0 h1 h2
    rw [if_neg c19]
    by_cases c20 : k = 20
    · rw [if_pos c20]; exact L_1003 hI h0 h1 h2
    rw [if_neg c20]
    by_cases c21 : k = 21
    · rw [if_pos c21]; exact L_1071 hI h0 h1 h2
    rw [if_neg c21]
    by_cases c22 : k = 22
    · rw [if_pos c22]; exact L_1158 hI h0 h1 h2
    rw [if_neg c22]
    by_cases c23 : k = 23
    · rw [if_pos c23]; exact L_1214 hI h0 h1 h2
    rw [if_neg c23]
    by_cases c24 : k = 24
    · rw [if_pos c24]; exact L_1270 hI h0 h1 h2
    rw [if_neg c24]
    by_cases c25 : k = 25
    · rw [if_pos c25]; exact L_1326 hI h0 h1 h2
    rw [if_neg c25]
    by_cases c26 : k = 26
    · rw [if_pos c26]; exact L_1382 hI h0 h1 h2
    rw [if_neg c26]
    by_cases c27 : k = 27
    · rw [if_pos c27]; exact L_1438 hI h0 h1 h2
    rw [if_neg c27]
    by_cases c28 : k = 28
    · rw [if_pos c28]; exact L_1494 hI h0 h1 h2
    rw [if_neg c28]
    by_cases c29 : k = 29
    · rw [if_pos c29]; exact L_1550 hI
    rw [if_neg c29]
    by_cases c30 : k = 30
    · rw [if_pos c30]; exact L_1563 hI
    rw [if_neg c30]
    by_cases c31 : k = 31
    · rw [if_pos c31]; exact L_1576 hI
    rw [if_neg c31]
    by_cases c32 : k = 32
    · rw [if_pos c32]; exact L_1589 hI h0 h1 h2
    rw [if_neg c32]
    by_cases c33 : k = 33
    · rw [if_pos c33]; exact L_1645 hI h0 h1 h2
    rw [if_neg c33]
    by_cases c34 : k = 34
    · rw [if_pos c34]; exact L_1713 hI h0 h1 h2
    rw [if_neg c34]
    by_cases c35 : k = 35
    · rw [if_pos c35]; exact L_1769 hI h0 h1 h2
    rw [if_neg c35]
    by_cases c36 : k = 36
    · rw [if_pos c36]; exact L_1837 hI h0 h1 h2
    rw [if_neg c36]
    by_cases c37 : k = 37
    · rw [if_pos c37]; exact L_1936 hI h0 h1 h2
    rw [if_neg c37]
    by_cases c38 : k = 38
    · rw [if_pos c38]; exact L_2028 hI h0 h1 h2
    rw [if_neg c38]
    by_cases c39 : k = 39
    · rw [if_pos c39]; exact L_2120 hI h0 h1 h2
    rw [if_neg c39]
    by_cases c40 : k = 40
    · rw [if_pos c40]; exact L_2176 hI h0 h1 h2
    rw [if_neg c40]
    by_cases c41 : k = 41
    · rw [if_pos c41]; exact L_2232 hI h0 h1 h2
    rw [if_neg c41]
    by_cases c42 : k = 42
    · rw [if_pos c42]; exact L_2336 hI
    rw [if_neg c42]
    by_cases c43 : k = 43
    · rw [if_pos c43]; exact L_2349 hI
    rw [if_neg c43]
    by_cases c44 : k = 44
    · rw [if_pos c44]; exact L_2362 hI
    rw [if_neg c44]
    by_cases c45 : k = 45
    · rw [if_pos c45]; exact L_2375 hI
    rw [if_neg c45]
    by_cases c46 : k = 46
    · rw [if_pos c46]; exact L_2388 hI
    rw [if_neg c46]
    by_cases c47 : k = 47
    · rw [if_pos c47]; exact L_2401 hI
    rw [if_neg c47]
    by_cases c48 : k = 48
    · rw [if_pos c48]; exact L_2414 hI
    rw [if_neg c48]
    by_cases c49 : k = 49
    · rw [if_pos c49]; exact L_2427 hI h0 h1 h2
    rw [if_neg c49]
    by_cases c50 : k = 50
    · rw [if_pos c50]; exact L_2495 hI h0 h1 h2
    rw [if_neg c50]
    by_cases c51 : k = 51
    · rw [if_pos c51]; exact L_2570 hI
    rw [if_neg c51]
    by_cases c52 : k = 52
    · rw [if_pos c52]; exact L_2583 hI
    rw [if_neg c52]
    by_cases c53 : k = 53
    · rw [if_pos c53]; exact L_2596 hI
    rw [if_neg c53]
    by_cases c54 : k = 54
    · rw [if_pos c54]; exact L_2637 hI
    rw [if_neg c54]
    by_cases c55 : k = 55
    · rw [if_pos c55]; exact L_2680 hI
    rw [if_neg c55]
    by_cases c56 : k = 56
    · rw [if_pos c56]; exact L_2693 hI h0 h1 h2
    rw [if_neg c56]
    exfalso; omega
end
/-- the law answers 1 -/
theorem L_all : ∀ (d : Nat) (g : PG) (u : PM) (a : Int), 0 ≤ a → ((g.2.2 : Int) - a).toNat ≤ d → (g.2.2 : Int) < 2147483640 → (∀ k, i32 (u 100003 k)) → Inv g u → a ≤ (g.2.2 : Int) + 6 → ∃ g' u', run M_L_law 23 [vA 100003, vA 1, vA 249, vA 261, vI a, vN, vN, vN, vN] [] g u = some (0, vI 1, g', u') ∧ g'.2.1 ≤ g.2.1 + d := by
  intro d
  induction d with
  | zero =>
    intro g u a h0 hd hL hS hI ha
    refine ⟨g, u, ?_, by omega⟩
    rw [R_L_law_23, show pK g 100003 = (2, 0, g.2.2) from rfl]
    show (if w (((g.2.2 : Nat) : Int) - 6) < a then some (0, vI 1, g, u) else _) = _
    rw [w_id (x := ((g.2.2 : Nat) : Int) - 6) (by omega) (by omega), if_pos (by omega)]
  | succ d ih =>
    intro g u a h0 hd hL hS hI ha
    by_cases c : ((g.2.2 : Nat) : Int) - 6 < a
    · refine ⟨g, u, ?_, by omega⟩
      rw [R_L_law_23, show pK g 100003 = (2, 0, g.2.2) from rfl]
      show (if w (((g.2.2 : Nat) : Int) - 6) < a then some (0, vI 1, g, u) else _) = _
      rw [w_id (x := ((g.2.2 : Nat) : Int) - 6) (by omega) (by omega), if_pos c]
    · obtain ⟨g1, u1, hI1, q1, q2, q3, q4⟩ := L_step hI h0 (by omega) (by omega) hS
      obtain ⟨g2, u2, e2, b2⟩ := ih g1 u1 (a + 6) (by omega) (by rw [q2]; omega) (by rw [q2]; exact hL) (fun k => by rw [q3]; exact hS k) hI1 (by rw [q2]; omega)
      refine ⟨g2, u2, ?_, by have := q1.2; omega⟩
      rw [q4]
      show run M_L_law 2718 _ _ g1 u1 = _
      rw [R_L_law_2718, w_id (x := a + 6) (by omega) (by omega), e2]
