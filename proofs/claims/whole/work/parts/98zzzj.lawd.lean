/-! ===== the law's changes: the common part ===== -/
section
variable {g : PG} {u : PM} {a : Int}
theorem I_chg {u1 u2 : PM} {v : Int} (hI : Inv g u) (fT : Fc 1 u u1) (oT : hOk g u1 61) (fM : FdM 249 (up u1 261 0 v) u2) (rM : rOk g u2 249) (hA : absT u1 27 = absM (u2 250)) (hw : wf (absM (u2 250))) (hL : hT u1 61 = hM u2 249) (hWL : ∀ A ∈ hM u2 249, wf A) : Inv g u2 := by
  have fc : ∀ (a : Nat) (k : Int), a < 249 → u2 a k = u1 a k := fun a k z => by rw [fM a k (by omega) (by omega) (by omega) (by omega) (by omega), up_o (by omega)]
  have fr : ∀ (a : Nat) (k : Int), ¬ (27 ≤ a ∧ a ≤ 43) → ¬ (61 ≤ a ∧ a < 199) → ¬ (235 ≤ a ∧ a ≤ 240) → ¬ (a = 249 ∧ (k = 6 ∨ k = 7 ∨ k = 17)) → a ≠ 250 → a ≠ 252 → a ≠ 258 → a ≠ 259 → a ≠ 261 → u2 a k = u a k := fun a k z1 z2 z3 z4 z5 z6 z7 z8 z9 => by rw [fM a k z4 z5 z6 z7 z8, up_o z9, fT a k (by omega) (by omega) (by omega)]
  have fr' : ∀ (a : Nat) (k : Int), (a < 27 ∨ (199 ≤ a ∧ a < 235) ∨ (240 < a ∧ a < 249) ∨ (249 < a ∧ a ≠ 250 ∧ a ≠ 252 ∧ a ≠ 258 ∧ a ≠ 259 ∧ a ≠ 261)) → u2 a k = u a k := fun a k z => fr a k (by omega) (by omega) (by omega) (by omega) (by omega) (by omega) (by omega) (by omega) (by omega)
  have f9 : ∀ k : Int, k ≠ 6 → k ≠ 7 → k ≠ 17 → u2 249 k = u 249 k := fun k z1 z2 z3 => fr 249 k (by omega) (by omega) (by omega) (by omega) (by omega) (by omega) (by omega) (by omega) (by omega)
  refine ⟨hI.1, RO_eq (fun a k ha => fr' a k (by omega)) hI.2.1, ⟨by rw [absT_eq (u := u1) fun a k b1 b2 => fc a k (by omega)]; exact hA, hw⟩, ⟨?_, ?_, rM.2.2.1, by rw [hT_fr (u := u1) fun a k b1 b2 => fc a k (by omega)]; exact hL, hWL⟩, I_save hI (fun a k b1 b2 => fr' a k (by omega)) (fun k => fr' _ k (by omega)) (fun k => fr' _ k (by omega)), I_text hI (fr' _ _ (by omega)) (fun k => fr' _ k (by omega)) (f9 _ (by decide) (by decide) (by decide)) (fun k => fr' _ k (by omega)), ?_, I_out hI (fr' _ _ (by omega)) (fun k => fr' _ k (by omega)) (f9 _ (by decide) (by decide) (by decide)) (fun k => fr' _ k (by omega))⟩
  · rw [fc 61 0 (by decide)]; exact oT.2.2.2.1
  · rw [fc 61 1 (by decide)]; exact oT.2.2.2.2
  · rw [fr' 2 1 (by omega), fr' 2 2 (by omega), f9 15 (by decide) (by decide) (by decide), f9 16 (by decide) (by decide) (by decide)]
    exact hI.2.2.2.2.2.2.1
def WC (g : PG) (u : PM) (o : Option PO) (x : Int) (cM : PG → PM → Option PO) : Prop := ∃ g1 u1, o = some (0, vI x, g1, u1) ∧ Gx g g1 ∧ g1.2.2 = g.2.2 ∧ (∀ k, u1 100003 k = u 100003 k) ∧ ∀ K, Nx0 g1 u1 (bif pW 249 && pO (pK g1 249) 11 then (cI (cM g1 u1) (fun (x6 : Int) (g4 : PG) (u5 : PM) => bif pW 249 && pO (pK g4 249) 11 then (cI (call M_TM_thrown [vA 249] g4 u5) (fun (x9 : Int) (g7 : PG) (u8 : PM) => if x9 = x then (if x = 0 then bif pW 261 && pR (pK g7 261) 2 0 then (if (lcmp2 (u8 261 0) x6) = 0 then K g7 u8 else some (0, vI 0, g7, u8)) else none else K g7 u8) else some (0, vI 0, g7, u8)) noX) else none) noX) else none) K
theorem stC {o cT : Option PO} {H : Nat → PG → PM → Option PO} {cM : PG → PM → Option PO} {e : Nat} {v : Int} {A' : AS} {L : List AS} (c : Int) (hI : Inv g u)
    (hT0 : e = 0 → ∃ u', cT = some (0, vI v, g, u') ∧ absT u' 27 = A' ∧ hT u' 61 = L ∧ hOk g u' 61 ∧ Fc 1 u u')
    (hT1 : e ≠ 0 → ∃ u', cT = some (e, vN, gX g, u') ∧ Fr 235 u u')
    (hC : o = (bif pW 1 && pO (pK g 1) 10 then (cI cT (fun (x3 : Int) (g1 : PG) (u2 : PM) => bif pW 261 && pR (pK g1 261) 2 0 then (some (0, vI 0, g1, up u2 261 0 x3)) else none) H) else none))
    (he : e ≠ 0 → ∀ g' u', H (e - 1) g' u' = some (0, vI c, g', u')) (hc : e ≠ 0 → c ≠ 0) (hw : e = 0 → wf A' ∧ ∀ A ∈ L, wf A)
    (hM0 : e = 0 → ∀ u', rOk g u' 249 → (∀ (a : Nat) (k : Int), 249 ≤ a → a ≠ 261 → u' a k = u a k) → ∃ u2, cM g u' = some (0, vI v, g, u2) ∧ u2 249 7 = 0 ∧ absM (u2 250) = A' ∧ hM u2 249 = L ∧ rOk g u2 249 ∧ FdM 249 u' u2)
    (hM1 : e ≠ 0 → ∀ u', Inv (gX g) u' → FU u u' → ∃ u2, cM (gX g) u' = some (0, vI 0, gX g, u2) ∧ u2 249 7 = c ∧ Fq 249 u' u2) : WC g u o (if e = 0 then 0 else c) cM := by
  by_cases c0 : e = 0
  · obtain ⟨u1, e1, a1, h1, o1, f1⟩ := hT0 c0
    obtain ⟨x, hx⟩ : ∃ x, x = up u1 261 0 v := ⟨_, rfl⟩
    have fx : ∀ (a : Nat) (k : Int), 249 ≤ a → a ≠ 261 → x a k = u a k := fun a k z1 z2 => by rw [hx, up_o z2, f1 a k (by omega) (by omega) (by omega)]
    obtain ⟨u2, e2, t2, a2, h2, r2, f2⟩ := hM0 c0 x (rOk_fr (fx _ _ (by decide) (by decide)) (funext fun k => fx _ k (by decide) (by decide)) hI.r) fx
    have hII : Inv g u2 := I_chg hI f1 o1 (v := v) (by rw [← hx]; exact f2) r2 (a1.trans a2.symm) (by rw [a2]; exact (hw c0).1) (h1.trans h2.symm) (by rw [h2]; exact (hw c0).2)
    refine ⟨g, x, ?_, Gx0, rfl, fun k => fx _ k (by decide) (by decide), fun K => ⟨g, u2, hII, G00, rfl, fun k => f2 _ k (by omega) (by omega) (by omega) (by omega) (by omega), ?_⟩⟩
    · rw [hC, gd_O (K_TD hI.1).1, e1, cI_some, gd_L hI.1, if_pos c0, hx]
    · have h261 : u2 261 0 = v := by rw [f2 261 0 (by omega) (by omega) (by omega) (by omega) (by omega), hx, up_s]
      rw [gd_O (K_TM hI.1).1, e2, cI_some, gd_O (K_TM hI.1).1, TM_thrown2 (K_TM hI.1), cI_some, if_pos c0, if_pos t2, if_pos rfl, gd_L hI.1, h261, lcmp_s, if_pos rfl]
  · obtain ⟨u1, e1, f1⟩ := hT1 c0
    have fu1 : FU u u1 := FqT.un (Fr.qT f1)
    have hI1 : Inv (gX g) u1 := Inv_un hI fu1 rfl
    obtain ⟨u2, e2, t2, f2⟩ := hM1 c0 u1 hI1 fu1
    have fu2 : FU u1 u2 := FqM.un f2.qM
    refine ⟨gX g, u1, ?_, GxX, rfl, fun k => fu1 _ k (by unfold Un; omega), fun K => ⟨gX g, u2, Inv_un hI1 fu2 rfl, G00, rfl, fun k => fu2 _ k (by unfold Un; omega), ?_⟩⟩
    · have : e = (e - 1) + 1 := by omega
      rw [hC, gd_O (K_TD hI.1).1, e1, this, cI_exc, he c0, if_neg (by omega)]
    · rw [gd_O (K_TM hI1.1).1, e2, cI_some, gd_O (K_TM hI1.1).1, TM_thrown2 (K_TM hI1.1), cI_some, if_neg c0, if_pos t2, if_neg (hc c0)]
theorem hPush_w {l : List AS} {A : AS} (h : ∀ B ∈ l, wf B) (hA : wf A) : ∀ B ∈ hPush l A, wf B := by
  intro B hB
  unfold hPush at hB
  rcases List.mem_append.mp hB with z | z
  · split at z
    · exact h B (List.mem_of_mem_tail z)
    · exact h B z
  · rw [List.mem_singleton.mp z]; exact hA
theorem stCh {o cT : Option PO} {H : Nat → PG → PM → Option PO} {cM : PG → PM → Option PO} {e : Nat} {v : Int} {A' : AS} (c : Int) (hI : Inv g u) (h1 : ChT g u 1 cT e v A')
    (hC : o = (bif pW 1 && pO (pK g 1) 10 then (cI cT (fun (x3 : Int) (g1 : PG) (u2 : PM) => bif pW 261 && pR (pK g1 261) 2 0 then (some (0, vI 0, g1, up u2 261 0 x3)) else none) H) else none))
    (he : e ≠ 0 → ∀ g' u', H (e - 1) g' u' = some (0, vI c, g', u')) (hc : e ≠ 0 → c ≠ 0) (hw : e = 0 → wf A')
    (h2 : ∀ g' u', rOk g' u' 249 → absM (u' 250) = absM (u 250) → ChM g' u' 249 (cM g' u') (if e = 0 then 0 else c) v A') : WC g u o (if e = 0 then 0 else c) cM := by
  have hh := hI.2.2.2.1.2.2.2
  refine stC (v := v) (A' := A') (L := hPush (hM u 249) (absM (u 250))) c hI (fun z => ?_) (fun z => ?_) hC he hc (fun z => ⟨hw z, hPush_w hh.2 hI.w⟩) (fun z u' hr f => ?_) (fun z u' hI' f => ?_)
  · obtain ⟨u', e1, a1, q1, o1, f1⟩ := h1.1 z
    rw [show hT u (1 + 60) = hM u 249 from hh.1, show absT u (1 + 26) = absM (u 250) from hI.c] at q1
    exact ⟨u', e1, a1, q1, o1, f1⟩
  · exact h1.2 z
  · have ha : u' 250 = u 250 := funext fun k => f _ k (by decide) (by decide)
    have hc2 := h2 g u' hr (by rw [ha])
    rw [if_pos z] at hc2
    obtain ⟨u2, e2, t2, a2, q2, r2, f2⟩ := hc2.1 rfl
    rw [hM_fr (f _ _ (by decide) (by decide)) (funext fun k => f _ k (by decide) (by decide)), show u' (249 + 1) = u 250 from ha] at q2
    exact ⟨u2, e2, t2, a2, q2, r2, f2⟩
  · have hc2 := h2 (gX g) u' hI'.r (f.A (wf_n hI.w))
    rw [if_neg z] at hc2
    exact hc2.2 (hc z)
theorem L_637 (hI : Inv g u) : Nx g u (run M_L_law 637 [vA 100003, vA 1, vA 249, vA 261, vI a, vN, vN, vN, vN] [] g u) (KL 100003 a) := by
  have cc : absT u (1 + 26) = absM (u 250) := hI.c
  have h1 := TD_pass (g := g) (u := u) (t := 1) hI.p hI.h
  rw [cc] at h1
  have hw := stCh (cM := fun G U => call M_TM_pass [vA 249] G U) 1 hI h1 (C_L_pass 1 261 g u) (fun z g' u' => by
    have e3 : (if aMayN (absM (u 250)) then 0 else 3 : Nat) = 3 := by
      by_cases q : aMayN (absM (u 250))
      · rw [if_pos q] at z; exact absurd rfl z
      · rw [if_neg q]
    show (if gExc _ = _ then _ else _) = _
    rw [exIS e3, if_pos rfl]) (fun _ => by decide) (fun z => by
    by_cases q : aMayN (absM (u 250))
    · exact wf_pass hI.w q
    · rw [if_neg q] at z; exact absurd z (by decide)) (fun g' u' hr ha => by
    have h2 := TM_pass (g := g') (u := u') (t := 249) hr (wf_s (by rw [show absM (u' (249 + 1)) = absM (u 250) from ha]; exact hI.w))
    rw [show absM (u' (249 + 1)) = absM (u 250) from ha] at h2
    by_cases q : aMayN (absM (u 250))
    · rw [if_pos q]
      rw [bI_f (fun z => z q)] at h2
      exact h2
    · rw [if_neg q]
      rw [bI_t q] at h2
      exact h2)
  obtain ⟨g1, u1, e1, q1, q2, q3, q4⟩ := hw
  rw [R_L_law_637, e1, cI_some]
  exact Nx_tr q1 q2 q3 (q4 _)
theorem L_465 (hI : Inv g u) (h0 : 0 ≤ a) (h1 : a + 6 ≤ (g.2.2 : Int)) (h2 : (g.2.2 : Int) < 2147483648) : Nx g u (run M_L_law 465 [vA 100003, vA 1, vA 249, vA 261, vI a, vN, vN, vN, vN] [] g u) (KL 100003 a) := by
  have cc : absT u (1 + 26) = absM (u 250) := hI.c
  obtain ⟨s, hs⟩ : ∃ s, s = u 100003 (a + 1) := ⟨_, rfl⟩
  obtain ⟨r, hr⟩ : ∃ r, r = u 100003 (a + 2) := ⟨_, rfl⟩
  obtain ⟨x, hx⟩ : ∃ x, x = u 100003 (a + 3) := ⟨_, rfl⟩
  obtain ⟨y, hy⟩ : ∃ y, y = u 100003 (a + 4) := ⟨_, rfl⟩
  have d1 := TD_place (g := g) (u := u) (t := 1) (s := s) (r := r) (x := x) (y := y) hI.p hI.h (fun z => by rw [cc] at z ⊢; exact may_lt hI.w z)
  rw [cc] at d1
  obtain ⟨E, hE⟩ : ∃ E : Nat, E = (if eAim (absM (u 250)).bd s r x y ≠ 0 then eAim (absM (u 250)).bd s r x y else if aMayP (absM (u 250)) s r x y then 0 else 3) := ⟨_, rfl⟩
  have hE3 : E ≠ 0 → E = 1 ∨ E = 2 ∨ E = 3 := fun z => by
    rw [hE] at z ⊢
    by_cases q : eAim (absM (u 250)).bd s r x y ≠ 0
    · rw [if_pos q]
      have := eAim_12 q
      omega
    · rw [if_neg q] at z ⊢
      by_cases q2 : aMayP (absM (u 250)) s r x y
      · rw [if_pos q2] at z; exact absurd rfl z
      · rw [if_neg q2]; exact Or.inr (Or.inr rfl)
  rw [← hE] at d1
  have hw := stCh (cM := fun G U => call M_TM_place [vA 249, vI s, vI r, vI x, vI y] G U) (E : Int) hI d1 (C_L_place 1 s r x y 261 g u) (fun z g' u' => by
    show (if gExc (E - 1) = _ then some (0, vI 1, g', u') else if gExc (E - 1) = _ then some (0, vI 2, g', u') else if gExc (E - 1) = _ then some (0, vI 3, g', u') else _) = _
    rcases hE3 z with q | q | q
    · rw [exIA q, if_pos rfl, q]; rfl
    · rw [exIO q, if_neg (by decide), if_pos rfl, q]; rfl
    · rw [exIS q, if_neg (by decide), if_neg (by decide), if_pos rfl, q]; rfl) (fun z => by omega) (fun z => by
    rw [hE] at z
    by_cases q : eAim (absM (u 250)).bd s r x y ≠ 0
    · rw [if_pos q] at z; exact absurd z q
    · rw [if_neg q] at z
      by_cases q2 : aMayP (absM (u 250)) s r x y
      · have hb : (0 ≤ s ∧ s < 5) ∧ 0 ≤ r ∧ r < 4 := by
          by_cases w : (0 ≤ s ∧ s < 5) ∧ 0 ≤ r ∧ r < 4
          · exact w
          · refine absurd ?_ q
            unfold eAim
            rw [if_neg w]
            decide
        exact wf_put hI.w hb.1 hb.2 q2
      · rw [if_neg q2] at z; exact absurd z (by decide)) (fun g' u' hr ha => by
    have h2 := TM_place (g := g') (u := u') (t := 249) (s := s) (r := r) (x := x) (y := y) hr (wf_s (by rw [show absM (u' (249 + 1)) = absM (u 250) from ha]; exact hI.w)) (fun z => may_lt (by rw [show absM (u' (249 + 1)) = absM (u 250) from ha]; exact hI.w) z)
    rw [show absM (u' (249 + 1)) = absM (u 250) from ha, ← hE] at h2
    rw [x_e]
    exact h2)
  obtain ⟨g1, u1, e1, q1, q2, q3, q4⟩ := hw
  rw [R_L_law_465, w_id (x := a + 1) (by omega) (by omega), w_id (x := a + 2) (by omega) (by omega), w_id (x := a + 3) (by omega) (by omega), w_id (x := a + 4) (by omega) (by omega), gd_S (by omega) (by omega), gd_S (by omega) (by omega), gd_S (by omega) (by omega), gd_S (by omega) (by omega), ← hs, ← hr, ← hx, ← hy, e1, cI_some, gd_S (by omega) (by omega), gd_S (by omega) (by omega), gd_S (by omega) (by omega), gd_S (by omega) (by omega)]
  simp only [q3]
  rw [← hs, ← hr, ← hx, ← hy]
  exact Nx_tr q1 q2 q3 (q4 _)
end
