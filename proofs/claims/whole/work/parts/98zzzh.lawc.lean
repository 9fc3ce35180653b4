/-! ===== the law: load, play, append; questions that throw: the common part ===== -/
section
variable {g : PG} {u u' : PM} {s : Nat} {a : Int}
theorem L_413 (hI : Inv g u) : Nx g u (run M_L_law 413 [vA s, vA 1, vA 249, vA 261, vI a, vN, vN, vN, vN] [] g u) (KL s a) := by
  obtain ⟨b, n, k1, k2, k3⟩ := hI.2.2.2.2.2.1
  obtain ⟨u1, v, e1, s1, f1, hh⟩ := I_load hI (TD_load (t := 1) hI.p (K_Rd hI.1) hI.h k1 k2)
  have s1' : u1 250 = u 250 := funext s1
  obtain ⟨u2, e2, hI2, s2⟩ := hh _ (TM_load (u := u1) (t := 249) (K_Md hI.1) (K_ hI.1 _ (by decide) rfl) (rOk_fr (f1 _ _ (by decide)) (funext fun k => f1 _ k (by decide)) hI.r) ⟨by rw [f1 _ _ (by decide)]; exact k3.1, k3.2.1, k3.2.2.1, fun k k0 k1 => by rw [f1 _ _ (by decide)]; exact k3.2.2.2.1 k k0 k1, k3.2.2.2.2⟩ (by rw [show u1 (249 + 1) = u 250 from s1']; exact hI.w))
  exact ⟨g, u2, hI2, Gx0, rfl, s2, by rw [R_L_law_413, gd_O (K_TD hI.1).1, e1, cI_some, gd_O (K_TM hI.1).1, e2, cI_some, if_pos rfl]⟩
theorem L_426 (hI : Inv g u) : Nx g u (run M_L_law 426 [vA s, vA 1, vA 249, vA 261, vI a, vN, vN, vN, vN] [] g u) (KL s a) := by
  obtain ⟨b, n, k1, k2, k3⟩ := hI.2.2.2.2.2.1
  have cc : absT u (1 + 26) = absM (u 250) := hI.c
  obtain ⟨u1, v, e1, s1, f1, hh⟩ := I_load hI (TD_play (t := 1) hI.p (by rw [cc]; exact hI.w) (K_Rd hI.1) hI.h k1 k2)
  have s1' : u1 250 = u 250 := funext s1
  have hM := TM_play (u := u1) (t := 249) (K_Md hI.1) (K_ hI.1 _ (by decide) rfl) (rOk_fr (f1 _ _ (by decide)) (funext fun k => f1 _ k (by decide)) hI.r) (b := b) (n := n) ⟨by rw [f1 _ _ (by decide)]; exact k3.1, k3.2.1, k3.2.2.1, fun k k0 k1 => by rw [f1 _ _ (by decide)]; exact k3.2.2.2.1 k k0 k1, k3.2.2.2.2⟩ (by rw [show u1 (249 + 1) = u 250 from s1']; exact hI.w)
  rw [show absM (u1 (249 + 1)) = absT u (1 + 26) from (congrArg absM s1').trans hI.c.symm] at hM
  obtain ⟨u2, e2, hI2, s2⟩ := hh _ hM
  exact ⟨g, u2, hI2, Gx0, rfl, s2, by rw [R_L_law_426, gd_O (K_TD hI.1).1, e1, cI_some, gd_O (K_TM hI.1).1, e2, cI_some, if_pos rfl]⟩
/-- the text alone changed -/
theorem Inv_text (hI : Inv g u) (f : ∀ (a : Nat) (k : Int), ¬ (a = 2 ∧ k = 0) → a ≠ 26 → ¬ (a = 249 ∧ (k = 7 ∨ k = 13)) → a ≠ 256 → u' a k = u a k) (ht : ∃ b n, u' 2 0 = n ∧ TxO u' 26 n b ∧ MdB u' 249 b n) : Inv g u' := by
  refine ⟨hI.1, RO_eq (fun a k ha => f a k (by omega) (by omega) (by omega) (by omega)) hI.2.1, I_pres hI (fun a k b1 b2 => f a k (by omega) (by omega) (by omega) (by omega)) (fun k _ _ => f _ k (by omega) (by omega) (by omega) (by omega)), I_hist hI (fun a k b1 b2 => f a k (by omega) (by omega) (by omega) (by omega)) (f _ _ (by omega) (by omega) (by omega) (by omega)) (fun k => f _ k (by omega) (by omega) (by omega) (by omega)), I_save hI (fun a k b1 b2 => f a k (by omega) (by omega) (by omega) (by omega)) (fun k => f _ k (by omega) (by omega) (by omega) (by omega)) (fun k => f _ k (by omega) (by omega) (by omega) (by omega)), ht, ?_, I_out hI (f _ _ (by omega) (by omega) (by omega) (by omega)) (fun k => f _ k (by omega) (by omega) (by omega) (by omega)) (f _ _ (by omega) (by omega) (by omega) (by omega)) (fun k => f _ k (by omega) (by omega) (by omega) (by omega))⟩
  rw [f 2 1 (by omega) (by omega) (by omega) (by omega), f 2 2 (by omega) (by omega) (by omega) (by omega), f 249 15 (by omega) (by omega) (by omega) (by omega), f 249 16 (by omega) (by omega) (by omega) (by omega)]
  exact hI.2.2.2.2.2.2.1
theorem L_284 (hI : Inv g u) (h0 : 0 ≤ a) (h1 : a + 6 ≤ (g.2.2 : Int)) (h2 : (g.2.2 : Int) < 2147483648) : Nx g u (run M_L_law 284 [vA 100003, vA 1, vA 249, vA 261, vI a, vN, vN, vN, vN] [] g u) (KL 100003 a) := by
  obtain ⟨b, n, k1, k2, k3⟩ := hI.2.2.2.2.2.1
  have hc := TD_append (g := g) (u := u) (t := 1) (K_TD hI.1).1 (K_Rd hI.1) k1 k2 (u 100003 (a + 1)) (u 100003 (a + 2)) (u 100003 (a + 3)) (u 100003 (a + 4)) (u 100003 (a + 5))
  rw [R_L_law_284, w_id (x := a + 1) (by omega) (by omega), w_id (x := a + 2) (by omega) (by omega), w_id (x := a + 3) (by omega) (by omega), w_id (x := a + 4) (by omega) (by omega), w_id (x := a + 5) (by omega) (by omega)]
  rw [gd_S (by omega) (by omega), gd_S (by omega) (by omega), gd_S (by omega) (by omega), gd_S (by omega) (by omega), gd_S (by omega) (by omega), gd_O (K_TD hI.1).1]
  by_cases c : 580 < n
  · rw [if_pos c] at hc
    have hm := TM_append (g := g) (u := u) (t := 249) (K_TM hI.1) (K_Md hI.1).2 k3.1 k3.2 (u 100003 (a + 1)) (u 100003 (a + 2)) (u 100003 (a + 3)) (u 100003 (a + 4)) (u 100003 (a + 5))
    rw [if_pos c] at hm
    obtain ⟨u2, e2, f2⟩ := hm
    have fu := FqM.un f2.qM
    refine ⟨g, u2, Inv_un hI fu rfl, Gx0, rfl, fun k => fu _ k (by unfold Un; omega), ?_⟩
    rw [hc, cI_some, gd_S (by omega) (by omega), gd_S (by omega) (by omega), gd_S (by omega) (by omega), gd_S (by omega) (by omega), gd_S (by omega) (by omega), gd_O (K_TM hI.1).1, e2, cI_some, if_pos rfl]
  · rw [if_neg c] at hc
    obtain ⟨u1, e1, l1, t1, f1⟩ := hc
    have hm := TM_append (g := g) (u := u1) (t := 249) (n := n) (b := b) (K_TM hI.1) (K_Md hI.1).2 (by rw [f1 _ _ (by omega) (by omega)]; exact k3.1) ⟨k3.2.1, k3.2.2.1, fun k k0 k1 => by rw [f1 _ _ (by omega) (by omega)]; exact k3.2.2.2.1 k k0 k1, k3.2.2.2.2⟩ (u 100003 (a + 1)) (u 100003 (a + 2)) (u 100003 (a + 3)) (u 100003 (a + 4)) (u 100003 (a + 5))
    rw [if_neg c] at hm
    obtain ⟨u2, e2, l2, t2, f2⟩ := hm
    have f : ∀ (a : Nat) (k : Int), ¬ (a = 2 ∧ k = 0) → a ≠ 26 → ¬ (a = 249 ∧ (k = 7 ∨ k = 13)) → a ≠ 256 → u2 a k = u a k := fun a k z1 z2 z3 z4 => by rw [f2 a k z3 z4, f1 a k z1 z2]
    refine ⟨g, u2, Inv_text hI f ⟨five b n (u 100003 (a + 1)) (u 100003 (a + 2)) (u 100003 (a + 3)) (u 100003 (a + 4)) (u 100003 (a + 5)), n + 20, by rw [f2 _ _ (by omega) (by omega)]; exact l1, ⟨t1.1, t1.2.1, fun k k0 k1 => by rw [f2 _ _ (by omega) (by omega)]; exact t1.2.2.1 k k0 k1, t1.2.2.2⟩, l2, t2⟩, Gx0, rfl, fun k => f _ k (by omega) (by omega) (by omega) (by omega), ?_⟩
    rw [e1, cI_some, gd_S (by omega) (by omega), gd_S (by omega) (by omega), gd_S (by omega) (by omega), gd_S (by omega) (by omega), gd_S (by omega) (by omega), gd_O (K_TM hI.1).1, f1 100003 _ (by omega) (by omega), f1 100003 _ (by omega) (by omega), f1 100003 _ (by omega) (by omega), f1 100003 _ (by omega) (by omega), f1 100003 _ (by omega) (by omega), e2, cI_some, if_pos rfl]
theorem TM_thrown2 {t : Nat} (hk : kTM g t) : call M_TM_thrown [vA t] g u = some (0, vI (u t 7), g, u) := by rw [C_TM_thrown, gd_O hk.1]
theorem lcmp_s (x : Int) : lcmp2 x x = 0 := by
  unfold lcmp2
  rw [if_neg (by omega), if_pos rfl]
theorem gd_L {g : PG} {k : Option PO} (h : 262 ≤ g.1) : (bif pW 261 && pR (pK g 261) 2 0 then k else none) = k := gd_W (K_ (a := 261) h (2, 2, 1) (by decide) rfl) (by decide) (by decide)
theorem Nx_tr {g1 : PG} {u1 : PM} {o : Option PO} {K : PG → PM → Option PO} (h1 : Gx g g1) (h2 : g1.2.2 = g.2.2) (h3 : ∀ k, u1 100003 k = u 100003 k) (h : Nx0 g1 u1 o K) : Nx g u o K := by
  obtain ⟨g', u', a1, a2, a3, a4, a5⟩ := h
  exact ⟨g', u', a1, ⟨a2.1.trans h1.1, by rw [a2.2]; exact h1.2⟩, a3.trans h2, fun k => (a4 k).trans (h3 k), a5⟩
/-- the wrapper of a question -/
theorem wB {cT : Option PO} {H : Nat → PG → PM → Option PO} {e : Nat} {v c : Int} (hI : Inv g u) (h : AqT g u 1 cT e v) (he : e ≠ 0 → ∀ g' u', H (e - 1) g' u' = some (0, vI c, g', u')) :
    ∃ g1 u1, (bif pW 1 && pO (pK g 1) 10 then (cI cT (fun (x3 : Int) (g1 : PG) (u2 : PM) => bif pW 261 && pR (pK g1 261) 2 0 then (some (0, vI 0, g1, up u2 261 0 x3)) else none) H) else none) = some (0, vI (if e = 0 then 0 else c), g1, u1) ∧ Inv g1 u1 ∧ FU u u1 ∧ Gx g g1 ∧ g1.2.2 = g.2.2 ∧ (e = 0 → u1 261 0 = v) := by
  obtain ⟨u1, f1, e1⟩ := h
  have fu := FqT.un f1
  by_cases c0 : e = 0
  · rw [if_pos c0] at e1
    have fu2 : FU u (up u1 261 0 v) := fun a k z => by rw [up_o (by unfold Un at z; omega), fu a k z]
    refine ⟨g, up u1 261 0 v, ?_, Inv_un hI fu2 rfl, fu2, Gx0, rfl, fun _ => up_s ..⟩
    rw [gd_O (K_TD hI.1).1, e1, cI_some, gd_L hI.1, if_pos c0]
  · rw [if_neg c0] at e1
    refine ⟨gX g, u1, ?_, Inv_un hI fu rfl, fu, GxX, rfl, fun z => absurd z c0⟩
    have : e = (e - 1) + 1 := by omega
    rw [gd_O (K_TD hI.1).1, e1, this, cI_exc, he c0, if_neg (by omega)]
/-- the same, a question with yes or no -/
theorem wB2 {cT : Option PO} {H : Nat → PG → PM → Option PO} {e : Nat} {v c : Int} (hI : Inv g u) (h : AqT g u 1 cT e v) (hv : e = 0 → v = 0 ∨ v = 1) (he : e ≠ 0 → ∀ g' u', H (e - 1) g' u' = some (0, vI c, g', u')) :
    ∃ g1 u1, (bif pW 1 && pO (pK g 1) 10 then (cI cT (fun (x3 : Int) (g1 : PG) (u2 : PM) => if x3 = 0 then bif pW 261 && pR (pK g1 261) 2 0 then (some (0, vI 0, g1, up u2 261 0 0)) else none else bif pW 261 && pR (pK g1 261) 2 0 then (some (0, vI 0, g1, up u2 261 0 1)) else none) H) else none) = some (0, vI (if e = 0 then 0 else c), g1, u1) ∧ Inv g1 u1 ∧ FU u u1 ∧ Gx g g1 ∧ g1.2.2 = g.2.2 ∧ (e = 0 → u1 261 0 = v) := by
  obtain ⟨u1, f1, e1⟩ := h
  have fu := FqT.un f1
  by_cases c0 : e = 0
  · rw [if_pos c0] at e1
    have fu2 : FU u (up u1 261 0 v) := fun a k z => by rw [up_o (by unfold Un at z; omega), fu a k z]
    refine ⟨g, up u1 261 0 v, ?_, Inv_un hI fu2 rfl, fu2, Gx0, rfl, fun _ => up_s ..⟩
    rw [gd_O (K_TD hI.1).1, e1, cI_some, gd_L hI.1, gd_L hI.1, if_pos c0]
    rcases hv c0 with z | z
    · rw [z, if_pos rfl]
    · rw [z, if_neg (by decide)]
  · rw [if_neg c0] at e1
    refine ⟨gX g, u1, ?_, Inv_un hI fu rfl, fu, GxX, rfl, fun z => absurd z c0⟩
    have : e = (e - 1) + 1 := by omega
    rw [gd_O (K_TD hI.1).1, e1, this, cI_exc, he c0, if_neg (by omega)]
/-- the reference's half of a question that throws -/
theorem stB {cM : PG → PM → Option PO} {K : PG → PM → Option PO} {x c v : Int} (hI : Inv g u) (hM : AqM g u 249 (cM g u) c v) (hx : x = c) (hv : x = 0 → u 261 0 = v) :
    Nx0 g u (bif pW 249 && pO (pK g 249) 11 then (cI (cM g u) (fun (x6 : Int) (g4 : PG) (u5 : PM) => bif pW 249 && pO (pK g4 249) 11 then (cI (call M_TM_thrown [vA 249] g4 u5) (fun (x9 : Int) (g7 : PG) (u8 : PM) => if x9 = x then (if x = 0 then bif pW 261 && pR (pK g7 261) 2 0 then (if (lcmp2 (u8 261 0) x6) = 0 then K g7 u8 else some (0, vI 0, g7, u8)) else none else K g7 u8) else some (0, vI 0, g7, u8)) noX) else none) noX) else none) K := by
  obtain ⟨u2, e2, t2, f2⟩ := hM
  have fu := FqM.un f2
  refine ⟨g, u2, Inv_un hI fu rfl, G00, rfl, fun k => fu _ k (by unfold Un; omega), ?_⟩
  rw [gd_O (K_TM hI.1).1, e2, cI_some, gd_O (K_TM hI.1).1, TM_thrown2 (K_TM hI.1), cI_some, if_pos (t2.trans hx.symm)]
  by_cases c0 : x = 0
  · have h261 : u2 261 0 = v := by rw [f2 261 0 (by omega) (by omega) (by omega) (by omega) (by omega) (by omega), hv c0]
    rw [if_pos c0, gd_L hI.1, h261, lcmp_s, if_pos rfl]
  · rw [if_neg c0]
theorem stB2 {cM : PG → PM → Option PO} {K : PG → PM → Option PO} {R : Int → Int → PG → PM → Option PO} {x c v : Int} (hI : Inv g u) (hM : AqM g u 249 (cM g u) c v) (hx : x = c) (hv : x = 0 → u 261 0 = v) (hv2 : x = 0 → v = 0 ∨ v = 1) (hR : ∀ (x6 s0 : Int) (g : PG) (u : PM), s0 = u 261 0 → R x6 s0 g u = K g u) :
    Nx0 g u (bif pW 249 && pO (pK g 249) 11 then (cI (cM g u) (fun (x6 : Int) (g4 : PG) (u5 : PM) => bif pW 249 && pO (pK g4 249) 11 then (cI (call M_TM_thrown [vA 249] g4 u5) (fun (x9 : Int) (g7 : PG) (u8 : PM) => if x9 = x then (if x = 0 then bif pW 261 && pR (pK g7 261) 2 0 then (if x6 = 0 then R x6 0 g7 u8 else R x6 1 g7 u8) else none else K g7 u8) else some (0, vI 0, g7, u8)) noX) else none) noX) else none) K := by
  obtain ⟨u2, e2, t2, f2⟩ := hM
  have fu := FqM.un f2
  refine ⟨g, u2, Inv_un hI fu rfl, G00, rfl, fun k => fu _ k (by unfold Un; omega), ?_⟩
  rw [gd_O (K_TM hI.1).1, e2, cI_some, gd_O (K_TM hI.1).1, TM_thrown2 (K_TM hI.1), cI_some, if_pos (t2.trans hx.symm)]
  by_cases c0 : x = 0
  · have h261 : u2 261 0 = v := by rw [f2 261 0 (by omega) (by omega) (by omega) (by omega) (by omega) (by omega), hv c0]
    rw [if_pos c0, gd_L hI.1]
    rcases hv2 c0 with z | z
    · rw [if_pos z]
      exact hR _ _ _ _ (by rw [h261, z])
    · rw [if_neg (by omega)]
      exact hR _ _ _ _ (by rw [h261, z])
  · rw [if_neg c0]
end
