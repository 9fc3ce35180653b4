/-! ===== the law's questions that throw, by wip/whole/gen_lawq.py ===== -/
theorem exIA {e : Nat} (h : e = 1) : gExc (e - 1) = "java/lang/IllegalArgumentException" := by rw [h]; rfl
theorem exIO {e : Nat} (h : e = 2) : gExc (e - 1) = "java/lang/IndexOutOfBoundsException" := by rw [h]; rfl
theorem exIS {e : Nat} (h : e = 3) : gExc (e - 1) = "java/lang/IllegalStateException" := by rw [h]; rfl
theorem eCe_2 {B : Bd} {x y : Int} (h : eCe B x y ≠ 0) : eCe B x y = 2 := by unfold eCe at h ⊢; split at h <;> simp_all
theorem ePl_2 {p : Int} (h : ePl p ≠ 0) : ePl p = 2 := by unfold ePl at h ⊢; split at h <;> simp_all
theorem ePi_2 {A : AS} {k : Int} (h : ePi A k ≠ 0) : ePi A k = 2 := by unfold ePi at h ⊢; split at h <;> simp_all
theorem eSh_1 {k : Int} (h : eSh k ≠ 0) : eSh k = 1 := by unfold eSh at h ⊢; split at h <;> simp_all
theorem eSl_1 {k : Int} (h : eSl k ≠ 0) : eSl k = 1 := by unfold eSl at h ⊢; split at h <;> simp_all
theorem eEd_12 {B : Bd} {x y s : Int} (h : eEd B x y s ≠ 0) : eEd B x y s = 1 ∨ eEd B x y s = 2 := by
  unfold eEd at h ⊢
  by_cases q : 0 ≤ s ∧ s < 2
  · rw [if_pos q] at h ⊢
    by_cases q2 : bEdge B x y s
    · rw [if_pos q2] at h; exact absurd rfl h
    · rw [if_neg q2]; exact Or.inr rfl
  · rw [if_neg q]; exact Or.inl rfl
theorem eAim_12 {B : Bd} {s r x y : Int} (h : eAim B s r x y ≠ 0) : eAim B s r x y = 1 ∨ eAim B s r x y = 2 := by
  unfold eAim at h ⊢
  by_cases q : (0 ≤ s ∧ s < 5) ∧ 0 ≤ r ∧ r < 4
  · rw [if_pos q] at h ⊢
    by_cases q2 : bIn B x y
    · rw [if_pos q2] at h; exact absurd rfl h
    · rw [if_neg q2]; exact Or.inr rfl
  · rw [if_neg q]; exact Or.inl rfl
theorem x_0 {e : Nat} {c : Int} (hc : e ≠ 0 → c ≠ 0) (h : (if e = 0 then (0 : Int) else c) = 0) : e = 0 := by
  by_cases q : e = 0
  · exact q
  · rw [if_neg q] at h; exact absurd h (hc q)
theorem x_bI {e : Nat} {p : Prop} [Decidable p] (h : e = 0 ↔ ¬ p) : (if e = 0 then (0 : Int) else 1) = bI p := by
  by_cases q : e = 0
  · rw [if_pos q, bI_f (h.mp q)]
  · rw [if_neg q, bI_t (Classical.byContradiction fun z => q (h.mpr z))]
theorem x_e {e : Nat} : (if e = 0 then (0 : Int) else (e : Int)) = (e : Int) := by split <;> omega
theorem eCe_in {B : Bd} {x y : Int} : eCe B x y = 0 ↔ bIn B x y := by
  unfold eCe
  by_cases q : bIn B x y
  · rw [if_pos q]; exact ⟨fun _ => q, fun _ => rfl⟩
  · rw [if_neg q]; exact ⟨fun z => absurd z (by decide), fun z => absurd z q⟩
def WB (g : PG) (u : PM) (o : Option PO) (e : Nat) (v c : Int) : Prop := ∃ g1 u1, o = some (0, vI (if e = 0 then 0 else c), g1, u1) ∧ Inv g1 u1 ∧ FU u u1 ∧ Gx g g1 ∧ g1.2.2 = g.2.2 ∧ (e = 0 → u1 261 0 = v)
theorem wB3 {g : PG} {u : PM} {o cT : Option PO} {H : Nat → PG → PM → Option PO} {e : Nat} {v : Int} (c : Int) (hI : Inv g u) (h : AqT g u 1 cT e v) (hC : o = (bif pW 1 && pO (pK g 1) 10 then (cI cT (fun (x3 : Int) (g1 : PG) (u2 : PM) => bif pW 261 && pR (pK g1 261) 2 0 then (some (0, vI 0, g1, up u2 261 0 x3)) else none) H) else none)) (he : e ≠ 0 → ∀ g' u', H (e - 1) g' u' = some (0, vI c, g', u')) : WB g u o e v c := by rw [hC]; exact wB hI h he
theorem wB4 {g : PG} {u : PM} {o cT : Option PO} {H : Nat → PG → PM → Option PO} {e : Nat} {v : Int} (c : Int) (hI : Inv g u) (h : AqT g u 1 cT e v) (hv : e = 0 → v = 0 ∨ v = 1) (hC : o = (bif pW 1 && pO (pK g 1) 10 then (cI cT (fun (x3 : Int) (g1 : PG) (u2 : PM) => if x3 = 0 then bif pW 261 && pR (pK g1 261) 2 0 then (some (0, vI 0, g1, up u2 261 0 0)) else none else bif pW 261 && pR (pK g1 261) 2 0 then (some (0, vI 0, g1, up u2 261 0 1)) else none) H) else none)) (he : e ≠ 0 → ∀ g' u', H (e - 1) g' u' = some (0, vI c, g', u')) : WB g u o e v c := by rw [hC]; exact wB2 hI h hv he
section
variable {g : PG} {u : PM} {a : Int}
theorem mis_r3 {B : Bd} {s r x y : Int} (h : ¬ (0 ≤ r ∧ r < 4)) : bMis B s r x y = bMis B s 3 x y := by
  have e1 : oR s r = oR s 3 := funext fun i => by
    unfold oR rotR
    rw [if_neg (by omega), if_neg (by omega), if_neg (by omega), if_neg (by decide), if_neg (by decide), if_neg (by decide)]
  have e2 : oD s r = oD s 3 := funext fun i => by
    unfold oD rotD
    rw [if_neg (by omega), if_neg (by omega), if_neg (by omega), if_neg (by decide), if_neg (by decide), if_neg (by decide)]
  unfold bMis bCrs pX pY edg
  rw [e1, e2]
theorem may_lt {m : Int → Int} {s r x y : Int} (h : wf (absM m)) (hm : aMayP (absM m) s r x y) : (absM m).n < 32 := by
  have hs : 0 ≤ s ∧ s < 5 := by
    have h2 := hm.2.1
    rw [aPl_M h.2.2.1.1] at h2
    change 0 < cl 5 (fun k => m (5 + 14 * (absM m).mv + 2 + k)) s at h2
    by_cases q : 0 ≤ s ∧ s < 5
    · exact q
    · unfold cl at h2
      rw [if_neg q] at h2
      omega
  by_cases q : 0 ≤ r ∧ r < 4
  · exact wf_lt h hs q hm
  · exact wf_lt h hs (r := 3) (by decide) (x := x) (y := y) ⟨hm.1, hm.2.1, by rw [← mis_r3 q]; exact hm.2.2⟩
theorem bStrap_01 {B : Bd} {x y s : Int} (h : bOk B) : bStrap B x y s = 0 ∨ bStrap B x y s = 1 := by
  unfold bStrap
  by_cases q : bIn B x y ∧ 0 ≤ s ∧ s < 2
  · rw [if_pos q]
    have h1 := h.1
    have h2 := h.2.1
    obtain ⟨⟨⟨a1, a2⟩, a3, a4⟩, a5, a6⟩ := q
    exact h.2.2 _ (by omega) (by omega)
  · rw [if_neg q]; exact Or.inl rfl
theorem L_1003 (hI : Inv g u) (h0 : 0 ≤ a) (h1 : a + 6 ≤ (g.2.2 : Int)) (h2 : (g.2.2 : Int) < 2147483648) : Nx g u (run M_L_law 1003 [vA 100003, vA 1, vA 249, vA 261, vI a, vN, vN, vN, vN] [] g u) (KL 100003 a) := by
  have cc : absT u (1 + 26) = absM (u 250) := hI.c
  have hT := (TD_pieceAt (g := g) (u := u) (t := 1) (K_TD hI.1) hI.bo (u 100003 (a + 1)) (u 100003 (a + 2))).q
  have hw := wB3 1 hI hT (C_L_pieceAt 1 (u 100003 (a + 1)) (u 100003 (a + 2)) 261 g u) (fun z g' u' => by show (if gExc _ = _ then _ else _) = _; rw [exIO (eCe_2 z), if_pos rfl])
  obtain ⟨g1, u1, e1, hI1, fu, q1, q2, q3⟩ := hw
  have fs : ∀ k, u1 100003 k = u 100003 k := fun k => fu _ k (by unfold Un; omega)
  have cm : absM (u1 (249 + 1)) = absT u (1 + 26) := (fu.A (wf_n hI.w)).trans hI.c.symm
  have cb : bdM (u1 (249 + 1)) = bdT u (1 + 26 + 1) := congrArg AS.bd cm
  have hM := (TM_pieceAt (g := g1) (u := u1) (t := 249) (K_TM hI1.1) hI1.m (u 100003 (a + 1)) (u 100003 (a + 2))).q
  rw [cb] at hM
  rw [R_L_law_1003, w_id (x := a + 1) (by omega) (by omega), w_id (x := a + 2) (by omega) (by omega), gd_S (by omega) (by omega), gd_S (by omega) (by omega), e1, cI_some, gd_S (by omega) (by omega), gd_S (by omega) (by omega)]
  simp only [fs]
  exact Nx_tr q1 q2 fs (stB (cM := fun G U => call M_TM_pieceAt [vA 249, vI (u 100003 (a + 1)), vI (u 100003 (a + 2))] G U) hI1 hM (x_bI (by rw [eCe_in, Classical.not_not])) (fun z => q3 (x_0 (fun _ => by decide) z)))
theorem L_928 (hI : Inv g u) (h0 : 0 ≤ a) (h1 : a + 6 ≤ (g.2.2 : Int)) (h2 : (g.2.2 : Int) < 2147483648) : Nx g u (run M_L_law 928 [vA 100003, vA 1, vA 249, vA 261, vI a, vN, vN, vN, vN] [] g u) (KL 100003 a) := by
  have cc : absT u (1 + 26) = absM (u 250) := hI.c
  have hT := (TD_isBlocked (g := g) (u := u) (t := 1) (K_TD hI.1) hI.bo (u 100003 (a + 1)) (u 100003 (a + 2))).q
  have hw := wB4 1 hI hT (fun _ => by unfold bI; split <;> omega) (C_L_isBlocked 1 (u 100003 (a + 1)) (u 100003 (a + 2)) 261 g u) (fun z g' u' => by show (if gExc _ = _ then _ else _) = _; rw [exIO (eCe_2 z), if_pos rfl])
  obtain ⟨g1, u1, e1, hI1, fu, q1, q2, q3⟩ := hw
  have fs : ∀ k, u1 100003 k = u 100003 k := fun k => fu _ k (by unfold Un; omega)
  have cm : absM (u1 (249 + 1)) = absT u (1 + 26) := (fu.A (wf_n hI.w)).trans hI.c.symm
  have cb : bdM (u1 (249 + 1)) = bdT u (1 + 26 + 1) := congrArg AS.bd cm
  have hM := (TM_isBlocked (g := g1) (u := u1) (t := 249) (K_TM hI1.1) hI1.m (u 100003 (a + 1)) (u 100003 (a + 2))).q
  rw [cb] at hM
  rw [R_L_law_928, w_id (x := a + 1) (by omega) (by omega), w_id (x := a + 2) (by omega) (by omega), gd_S (by omega) (by omega), gd_S (by omega) (by omega), e1, cI_some, gd_S (by omega) (by omega), gd_S (by omega) (by omega)]
  simp only [fs]
  exact Nx_tr q1 q2 fs (stB2 (cM := fun G U => call M_TM_isBlocked [vA 249, vI (u 100003 (a + 1)), vI (u 100003 (a + 2))] G U) (R := fun x6 s0 g u => run M_L_law 994 [vA 100003, vA 1, vA 249, vA 261, vI a, vI _, vI x6, vN, vN] [vL s0, vL (u 261 0)] g u) hI1 hM (x_bI (by rw [eCe_in, Classical.not_not])) (fun z => q3 (x_0 (fun _ => by decide) z)) (fun _ => by unfold bI; split <;> omega) (fun x6 s0 g u z => by show run M_L_law 994 _ _ g u = _; rw [R_L_law_994, z, lcmp_s, if_pos rfl]))
theorem L_1158 (hI : Inv g u) (h0 : 0 ≤ a) (h1 : a + 6 ≤ (g.2.2 : Int)) (h2 : (g.2.2 : Int) < 2147483648) : Nx g u (run M_L_law 1158 [vA 100003, vA 1, vA 249, vA 261, vI a, vN, vN, vN, vN] [] g u) (KL 100003 a) := by
  have cc : absT u (1 + 26) = absM (u 250) := hI.c
  have hT := (TD_emptyInRow (g := g) (u := u) (t := 1) (K_TD hI.1) hI.bo (u 100003 (a + 1))).q
  have hw := wB3 1 hI hT (C_L_emptyInRow 1 (u 100003 (a + 1)) 261 g u) (fun z g' u' => by show (if gExc _ = _ then _ else _) = _; rw [exIO (by split at z <;> simp_all), if_pos rfl])
  obtain ⟨g1, u1, e1, hI1, fu, q1, q2, q3⟩ := hw
  have fs : ∀ k, u1 100003 k = u 100003 k := fun k => fu _ k (by unfold Un; omega)
  have cm : absM (u1 (249 + 1)) = absT u (1 + 26) := (fu.A (wf_n hI.w)).trans hI.c.symm
  have cb : bdM (u1 (249 + 1)) = bdT u (1 + 26 + 1) := congrArg AS.bd cm
  have hM := (TM_emptyInRow (g := g1) (u := u1) (t := 249) (K_TM hI1.1) hI1.m (u 100003 (a + 1))).q
  rw [cb] at hM
  rw [R_L_law_1158, w_id (x := a + 1) (by omega) (by omega), gd_S (by omega) (by omega), e1, cI_some, gd_S (by omega) (by omega)]
  simp only [fs]
  exact Nx_tr q1 q2 fs (stB (cM := fun G U => call M_TM_emptyInRow [vA 249, vI (u 100003 (a + 1))] G U) hI1 hM (x_bI (by split <;> simp_all)) (fun z => q3 (x_0 (fun _ => by decide) z)))
theorem L_1214 (hI : Inv g u) (h0 : 0 ≤ a) (h1 : a + 6 ≤ (g.2.2 : Int)) (h2 : (g.2.2 : Int) < 2147483648) : Nx g u (run M_L_law 1214 [vA 100003, vA 1, vA 249, vA 261, vI a, vN, vN, vN, vN] [] g u) (KL 100003 a) := by
  have cc : absT u (1 + 26) = absM (u 250) := hI.c
  have hT := (TD_pieceShape (g := g) (u := u) (t := 1) (K_TD hI.1) hI.p.2.2.1 (u 100003 (a + 1))).q
  have hw := wB3 1 hI hT (C_L_pieceShape 1 (u 100003 (a + 1)) 261 g u) (fun z g' u' => by show (if gExc _ = _ then _ else _) = _; rw [exIO (ePi_2 z), if_pos rfl])
  obtain ⟨g1, u1, e1, hI1, fu, q1, q2, q3⟩ := hw
  have fs : ∀ k, u1 100003 k = u 100003 k := fun k => fu _ k (by unfold Un; omega)
  have cm : absM (u1 (249 + 1)) = absT u (1 + 26) := (fu.A (wf_n hI.w)).trans hI.c.symm
  have cb : bdM (u1 (249 + 1)) = bdT u (1 + 26 + 1) := congrArg AS.bd cm
  have hM := (TM_pieceShape (g := g1) (u := u1) (t := 249) (K_TM hI1.1) (wf_n hI1.w) (u 100003 (a + 1))).q
  rw [cm] at hM
  rw [R_L_law_1214, w_id (x := a + 1) (by omega) (by omega), gd_S (by omega) (by omega), e1, cI_some, gd_S (by omega) (by omega)]
  simp only [fs]
  exact Nx_tr q1 q2 fs (stB (cM := fun G U => call M_TM_pieceShape [vA 249, vI (u 100003 (a + 1))] G U) hI1 hM (x_bI (by simp)) (fun z => by have z0 := x_0 (fun _ => by decide) z; rw [q3 z0, if_pos z0]))
theorem L_1270 (hI : Inv g u) (h0 : 0 ≤ a) (h1 : a + 6 ≤ (g.2.2 : Int)) (h2 : (g.2.2 : Int) < 2147483648) : Nx g u (run M_L_law 1270 [vA 100003, vA 1, vA 249, vA 261, vI a, vN, vN, vN, vN] [] g u) (KL 100003 a) := by
  have cc : absT u (1 + 26) = absM (u 250) := hI.c
  have hT := (TD_pieceRotation (g := g) (u := u) (t := 1) (K_TD hI.1) hI.p.2.2.1 (u 100003 (a + 1))).q
  have hw := wB3 1 hI hT (C_L_pieceRotation 1 (u 100003 (a + 1)) 261 g u) (fun z g' u' => by show (if gExc _ = _ then _ else _) = _; rw [exIO (ePi_2 z), if_pos rfl])
  obtain ⟨g1, u1, e1, hI1, fu, q1, q2, q3⟩ := hw
  have fs : ∀ k, u1 100003 k = u 100003 k := fun k => fu _ k (by unfold Un; omega)
  have cm : absM (u1 (249 + 1)) = absT u (1 + 26) := (fu.A (wf_n hI.w)).trans hI.c.symm
  have cb : bdM (u1 (249 + 1)) = bdT u (1 + 26 + 1) := congrArg AS.bd cm
  have hM := (TM_pieceRotation (g := g1) (u := u1) (t := 249) (K_TM hI1.1) (wf_n hI1.w) (u 100003 (a + 1))).q
  rw [cm] at hM
  rw [R_L_law_1270, w_id (x := a + 1) (by omega) (by omega), gd_S (by omega) (by omega), e1, cI_some, gd_S (by omega) (by omega)]
  simp only [fs]
  exact Nx_tr q1 q2 fs (stB (cM := fun G U => call M_TM_pieceRotation [vA 249, vI (u 100003 (a + 1))] G U) hI1 hM (x_bI (by simp)) (fun z => by have z0 := x_0 (fun _ => by decide) z; rw [q3 z0, if_pos z0]))
theorem L_1326 (hI : Inv g u) (h0 : 0 ≤ a) (h1 : a + 6 ≤ (g.2.2 : Int)) (h2 : (g.2.2 : Int) < 2147483648) : Nx g u (run M_L_law 1326 [vA 100003, vA 1, vA 249, vA 261, vI a, vN, vN, vN, vN] [] g u) (KL 100003 a) := by
  have cc : absT u (1 + 26) = absM (u 250) := hI.c
  have hT := (TD_pieceColumn (g := g) (u := u) (t := 1) (K_TD hI.1) hI.p.2.2.1 (u 100003 (a + 1))).q
  have hw := wB3 1 hI hT (C_L_pieceColumn 1 (u 100003 (a + 1)) 261 g u) (fun z g' u' => by show (if gExc _ = _ then _ else _) = _; rw [exIO (ePi_2 z), if_pos rfl])
  obtain ⟨g1, u1, e1, hI1, fu, q1, q2, q3⟩ := hw
  have fs : ∀ k, u1 100003 k = u 100003 k := fun k => fu _ k (by unfold Un; omega)
  have cm : absM (u1 (249 + 1)) = absT u (1 + 26) := (fu.A (wf_n hI.w)).trans hI.c.symm
  have cb : bdM (u1 (249 + 1)) = bdT u (1 + 26 + 1) := congrArg AS.bd cm
  have hM := (TM_pieceColumn (g := g1) (u := u1) (t := 249) (K_TM hI1.1) (wf_n hI1.w) (u 100003 (a + 1))).q
  rw [cm] at hM
  rw [R_L_law_1326, w_id (x := a + 1) (by omega) (by omega), gd_S (by omega) (by omega), e1, cI_some, gd_S (by omega) (by omega)]
  simp only [fs]
  exact Nx_tr q1 q2 fs (stB (cM := fun G U => call M_TM_pieceColumn [vA 249, vI (u 100003 (a + 1))] G U) hI1 hM (x_bI (by simp)) (fun z => by have z0 := x_0 (fun _ => by decide) z; rw [q3 z0, if_pos z0]))
theorem L_1382 (hI : Inv g u) (h0 : 0 ≤ a) (h1 : a + 6 ≤ (g.2.2 : Int)) (h2 : (g.2.2 : Int) < 2147483648) : Nx g u (run M_L_law 1382 [vA 100003, vA 1, vA 249, vA 261, vI a, vN, vN, vN, vN] [] g u) (KL 100003 a) := by
  have cc : absT u (1 + 26) = absM (u 250) := hI.c
  have hT := (TD_pieceRow (g := g) (u := u) (t := 1) (K_TD hI.1) hI.p.2.2.1 (u 100003 (a + 1))).q
  have hw := wB3 1 hI hT (C_L_pieceRow 1 (u 100003 (a + 1)) 261 g u) (fun z g' u' => by show (if gExc _ = _ then _ else _) = _; rw [exIO (ePi_2 z), if_pos rfl])
  obtain ⟨g1, u1, e1, hI1, fu, q1, q2, q3⟩ := hw
  have fs : ∀ k, u1 100003 k = u 100003 k := fun k => fu _ k (by unfold Un; omega)
  have cm : absM (u1 (249 + 1)) = absT u (1 + 26) := (fu.A (wf_n hI.w)).trans hI.c.symm
  have cb : bdM (u1 (249 + 1)) = bdT u (1 + 26 + 1) := congrArg AS.bd cm
  have hM := (TM_pieceRow (g := g1) (u := u1) (t := 249) (K_TM hI1.1) (wf_n hI1.w) (u 100003 (a + 1))).q
  rw [cm] at hM
  rw [R_L_law_1382, w_id (x := a + 1) (by omega) (by omega), gd_S (by omega) (by omega), e1, cI_some, gd_S (by omega) (by omega)]
  simp only [fs]
  exact Nx_tr q1 q2 fs (stB (cM := fun G U => call M_TM_pieceRow [vA 249, vI (u 100003 (a + 1))] G U) hI1 hM (x_bI (by simp)) (fun z => by have z0 := x_0 (fun _ => by decide) z; rw [q3 z0, if_pos z0]))
theorem L_1438 (hI : Inv g u) (h0 : 0 ≤ a) (h1 : a + 6 ≤ (g.2.2 : Int)) (h2 : (g.2.2 : Int) < 2147483648) : Nx g u (run M_L_law 1438 [vA 100003, vA 1, vA 249, vA 261, vI a, vN, vN, vN, vN] [] g u) (KL 100003 a) := by
  have cc : absT u (1 + 26) = absM (u 250) := hI.c
  have hT := (TD_pieceOwner (g := g) (u := u) (t := 1) (K_TD hI.1) hI.p.2.2.1 (u 100003 (a + 1))).q
  have hw := wB3 1 hI hT (C_L_pieceOwner 1 (u 100003 (a + 1)) 261 g u) (fun z g' u' => by show (if gExc _ = _ then _ else _) = _; rw [exIO (ePi_2 z), if_pos rfl])
  obtain ⟨g1, u1, e1, hI1, fu, q1, q2, q3⟩ := hw
  have fs : ∀ k, u1 100003 k = u 100003 k := fun k => fu _ k (by unfold Un; omega)
  have cm : absM (u1 (249 + 1)) = absT u (1 + 26) := (fu.A (wf_n hI.w)).trans hI.c.symm
  have cb : bdM (u1 (249 + 1)) = bdT u (1 + 26 + 1) := congrArg AS.bd cm
  have hM := (TM_pieceOwner (g := g1) (u := u1) (t := 249) (K_TM hI1.1) (wf_n hI1.w) (u 100003 (a + 1))).q
  rw [cm] at hM
  rw [R_L_law_1438, w_id (x := a + 1) (by omega) (by omega), gd_S (by omega) (by omega), e1, cI_some, gd_S (by omega) (by omega)]
  simp only [fs]
  exact Nx_tr q1 q2 fs (stB (cM := fun G U => call M_TM_pieceOwner [vA 249, vI (u 100003 (a + 1))] G U) hI1 hM (x_bI (by simp)) (fun z => by have z0 := x_0 (fun _ => by decide) z; rw [q3 z0, if_pos z0]))
theorem L_1494 (hI : Inv g u) (h0 : 0 ≤ a) (h1 : a + 6 ≤ (g.2.2 : Int)) (h2 : (g.2.2 : Int) < 2147483648) : Nx g u (run M_L_law 1494 [vA 100003, vA 1, vA 249, vA 261, vI a, vN, vN, vN, vN] [] g u) (KL 100003 a) := by
  have cc : absT u (1 + 26) = absM (u 250) := hI.c
  have hT := (TD_piecePoints (g := g) (u := u) (t := 1) (K_TD hI.1) hI.p.2.2.1 (u 100003 (a + 1))).q
  have hw := wB3 1 hI hT (C_L_piecePoints 1 (u 100003 (a + 1)) 261 g u) (fun z g' u' => by show (if gExc _ = _ then _ else _) = _; rw [exIO (ePi_2 z), if_pos rfl])
  obtain ⟨g1, u1, e1, hI1, fu, q1, q2, q3⟩ := hw
  have fs : ∀ k, u1 100003 k = u 100003 k := fun k => fu _ k (by unfold Un; omega)
  have cm : absM (u1 (249 + 1)) = absT u (1 + 26) := (fu.A (wf_n hI.w)).trans hI.c.symm
  have cb : bdM (u1 (249 + 1)) = bdT u (1 + 26 + 1) := congrArg AS.bd cm
  have hM := (TM_piecePoints (g := g1) (u := u1) (t := 249) (K_TM hI1.1) (wf_n hI1.w) (u 100003 (a + 1))).q
  rw [cm] at hM
  rw [R_L_law_1494, w_id (x := a + 1) (by omega) (by omega), gd_S (by omega) (by omega), e1, cI_some, gd_S (by omega) (by omega)]
  simp only [fs]
  exact Nx_tr q1 q2 fs (stB (cM := fun G U => call M_TM_piecePoints [vA 249, vI (u 100003 (a + 1))] G U) hI1 hM (x_bI (by simp)) (fun z => by have z0 := x_0 (fun _ => by decide) z; rw [q3 z0, if_pos z0]))
theorem L_1589 (hI : Inv g u) (h0 : 0 ≤ a) (h1 : a + 6 ≤ (g.2.2 : Int)) (h2 : (g.2.2 : Int) < 2147483648) : Nx g u (run M_L_law 1589 [vA 100003, vA 1, vA 249, vA 261, vI a, vN, vN, vN, vN] [] g u) (KL 100003 a) := by
  have cc : absT u (1 + 26) = absM (u 250) := hI.c
  have hT := (TD_score (g := g) (u := u) (t := 1) (K_TD hI.1) (u 100003 (a + 1))).q
  have hw := wB3 1 hI hT (C_L_score 1 (u 100003 (a + 1)) 261 g u) (fun z g' u' => by show (if gExc _ = _ then _ else _) = _; rw [exIO (ePl_2 z), if_pos rfl])
  obtain ⟨g1, u1, e1, hI1, fu, q1, q2, q3⟩ := hw
  have fs : ∀ k, u1 100003 k = u 100003 k := fun k => fu _ k (by unfold Un; omega)
  have cm : absM (u1 (249 + 1)) = absT u (1 + 26) := (fu.A (wf_n hI.w)).trans hI.c.symm
  have cb : bdM (u1 (249 + 1)) = bdT u (1 + 26 + 1) := congrArg AS.bd cm
  have hM := (TM_score (g := g1) (u := u1) (t := 249) (K_TM hI1.1) (u 100003 (a + 1))).q
  rw [cm] at hM
  rw [R_L_law_1589, w_id (x := a + 1) (by omega) (by omega), gd_S (by omega) (by omega), e1, cI_some, gd_S (by omega) (by omega)]
  simp only [fs]
  exact Nx_tr q1 q2 fs (stB (cM := fun G U => call M_TM_score [vA 249, vI (u 100003 (a + 1))] G U) hI1 hM (x_bI (by simp)) (fun z => by have z0 := x_0 (fun _ => by decide) z; rw [q3 z0, if_pos z0]))
theorem L_1713 (hI : Inv g u) (h0 : 0 ≤ a) (h1 : a + 6 ≤ (g.2.2 : Int)) (h2 : (g.2.2 : Int) < 2147483648) : Nx g u (run M_L_law 1713 [vA 100003, vA 1, vA 249, vA 261, vI a, vN, vN, vN, vN] [] g u) (KL 100003 a) := by
  have cc : absT u (1 + 26) = absM (u 250) := hI.c
  have hT := (TD_strapsLeft (g := g) (u := u) (t := 1) (K_TD hI.1) (u 100003 (a + 1))).q
  have hw := wB3 1 hI hT (C_L_strapsLeft 1 (u 100003 (a + 1)) 261 g u) (fun z g' u' => by show (if gExc _ = _ then _ else _) = _; rw [exIO (ePl_2 z), if_pos rfl])
  obtain ⟨g1, u1, e1, hI1, fu, q1, q2, q3⟩ := hw
  have fs : ∀ k, u1 100003 k = u 100003 k := fun k => fu _ k (by unfold Un; omega)
  have cm : absM (u1 (249 + 1)) = absT u (1 + 26) := (fu.A (wf_n hI.w)).trans hI.c.symm
  have cb : bdM (u1 (249 + 1)) = bdT u (1 + 26 + 1) := congrArg AS.bd cm
  have hM := (TM_strapsLeft (g := g1) (u := u1) (t := 249) (K_TM hI1.1) (u 100003 (a + 1))).q
  rw [cm] at hM
  rw [R_L_law_1713, w_id (x := a + 1) (by omega) (by omega), gd_S (by omega) (by omega), e1, cI_some, gd_S (by omega) (by omega)]
  simp only [fs]
  exact Nx_tr q1 q2 fs (stB (cM := fun G U => call M_TM_strapsLeft [vA 249, vI (u 100003 (a + 1))] G U) hI1 hM (x_bI (by simp)) (fun z => by have z0 := x_0 (fun _ => by decide) z; rw [q3 z0, if_pos z0]))
theorem L_1769 (hI : Inv g u) (h0 : 0 ≤ a) (h1 : a + 6 ≤ (g.2.2 : Int)) (h2 : (g.2.2 : Int) < 2147483648) : Nx g u (run M_L_law 1769 [vA 100003, vA 1, vA 249, vA 261, vI a, vN, vN, vN, vN] [] g u) (KL 100003 a) := by
  have cc : absT u (1 + 26) = absM (u 250) := hI.c
  have hT := (TD_nameByte (g := g) (u := u) (t := 1) (K_TD hI.1) hI.p.2.2.1 (u 100003 (a + 1)) (u 100003 (a + 2))).q
  have hw := wB3 1 hI hT (C_L_nameByte 1 (u 100003 (a + 1)) (u 100003 (a + 2)) 261 g u) (fun z g' u' => by show (if gExc _ = _ then _ else _) = _; rw [exIO (ePl_2 z), if_pos rfl])
  obtain ⟨g1, u1, e1, hI1, fu, q1, q2, q3⟩ := hw
  have fs : ∀ k, u1 100003 k = u 100003 k := fun k => fu _ k (by unfold Un; omega)
  have cm : absM (u1 (249 + 1)) = absT u (1 + 26) := (fu.A (wf_n hI.w)).trans hI.c.symm
  have cb : bdM (u1 (249 + 1)) = bdT u (1 + 26 + 1) := congrArg AS.bd cm
  have hM := (TM_nameByte (g := g1) (u := u1) (t := 249) (K_TM hI1.1) (wf_n hI1.w) (u 100003 (a + 1)) (u 100003 (a + 2))).q
  rw [cm] at hM
  rw [R_L_law_1769, w_id (x := a + 1) (by omega) (by omega), w_id (x := a + 2) (by omega) (by omega), gd_S (by omega) (by omega), gd_S (by omega) (by omega), e1, cI_some, gd_S (by omega) (by omega), gd_S (by omega) (by omega)]
  simp only [fs]
  exact Nx_tr q1 q2 fs (stB (cM := fun G U => call M_TM_nameByte [vA 249, vI (u 100003 (a + 1)), vI (u 100003 (a + 2))] G U) hI1 hM (x_bI (by simp)) (fun z => by have z0 := x_0 (fun _ => by decide) z; rw [q3 z0, if_pos z0]))
theorem L_2120 (hI : Inv g u) (h0 : 0 ≤ a) (h1 : a + 6 ≤ (g.2.2 : Int)) (h2 : (g.2.2 : Int) < 2147483648) : Nx g u (run M_L_law 2120 [vA 100003, vA 1, vA 249, vA 261, vI a, vN, vN, vN, vN] [] g u) (KL 100003 a) := by
  have cc : absT u (1 + 26) = absM (u 250) := hI.c
  have hT := (TD_mobility (g := g) (u := u) (t := 1) hI.p (u 100003 (a + 1))).q
  have hw := wB3 1 hI hT (C_L_mobility 1 (u 100003 (a + 1)) 261 g u) (fun z g' u' => by show (if gExc _ = _ then _ else _) = _; rw [exIO (ePl_2 z), if_pos rfl])
  obtain ⟨g1, u1, e1, hI1, fu, q1, q2, q3⟩ := hw
  have fs : ∀ k, u1 100003 k = u 100003 k := fun k => fu _ k (by unfold Un; omega)
  have cm : absM (u1 (249 + 1)) = absT u (1 + 26) := (fu.A (wf_n hI.w)).trans hI.c.symm
  have cb : bdM (u1 (249 + 1)) = bdT u (1 + 26 + 1) := congrArg AS.bd cm
  have hM := (TM_mobility (g := g1) (u := u1) (t := 249) (K_TM hI1.1) hI1.m (u 100003 (a + 1))).q
  rw [cm] at hM
  rw [R_L_law_2120, w_id (x := a + 1) (by omega) (by omega), gd_S (by omega) (by omega), e1, cI_some, gd_S (by omega) (by omega)]
  simp only [fs]
  exact Nx_tr q1 q2 fs (stB (cM := fun G U => call M_TM_mobility [vA 249, vI (u 100003 (a + 1))] G U) hI1 hM (x_bI (by simp)) (fun z => by have z0 := x_0 (fun _ => by decide) z; rw [q3 z0, if_pos z0]))
theorem L_2176 (hI : Inv g u) (h0 : 0 ≤ a) (h1 : a + 6 ≤ (g.2.2 : Int)) (h2 : (g.2.2 : Int) < 2147483648) : Nx g u (run M_L_law 2176 [vA 100003, vA 1, vA 249, vA 261, vI a, vN, vN, vN, vN] [] g u) (KL 100003 a) := by
  have cc : absT u (1 + 26) = absM (u 250) := hI.c
  have hT := (TD_fitting (g := g) (u := u) (t := 1) hI.p (u 100003 (a + 1))).q
  have hw := wB3 ((eSh (u 100003 (a + 1)) : Nat) : Int) hI hT (C_L_fittingPlacements 1 (u 100003 (a + 1)) 261 g u) (fun z g' u' => by show (if gExc _ = _ then _ else _) = _; rw [exIA (eSh_1 z), if_pos rfl, eSh_1 z]; rfl)
  obtain ⟨g1, u1, e1, hI1, fu, q1, q2, q3⟩ := hw
  have fs : ∀ k, u1 100003 k = u 100003 k := fun k => fu _ k (by unfold Un; omega)
  have cm : absM (u1 (249 + 1)) = absT u (1 + 26) := (fu.A (wf_n hI.w)).trans hI.c.symm
  have cb : bdM (u1 (249 + 1)) = bdT u (1 + 26 + 1) := congrArg AS.bd cm
  have hM := (TM_fittingPlacements (g := g1) (u := u1) (t := 249) (K_TM hI1.1) hI1.m (u 100003 (a + 1))).q
  rw [cb] at hM
  rw [R_L_law_2176, w_id (x := a + 1) (by omega) (by omega), gd_S (by omega) (by omega), e1, cI_some, gd_S (by omega) (by omega)]
  simp only [fs]
  exact Nx_tr q1 q2 fs (stB (cM := fun G U => call M_TM_fittingPlacements [vA 249, vI (u 100003 (a + 1))] G U) hI1 hM x_e (fun z => by have z0 := x_0 (fun z => by omega) z; rw [q3 z0, if_pos z0]))
theorem L_1071 (hI : Inv g u) (h0 : 0 ≤ a) (h1 : a + 6 ≤ (g.2.2 : Int)) (h2 : (g.2.2 : Int) < 2147483648) : Nx g u (run M_L_law 1071 [vA 100003, vA 1, vA 249, vA 261, vI a, vN, vN, vN, vN] [] g u) (KL 100003 a) := by
  have cc : absT u (1 + 26) = absM (u 250) := hI.c
  have hT := (TD_hasStrap (g := g) (u := u) (t := 1) (K_TD hI.1) hI.bo (u 100003 (a + 1)) (u 100003 (a + 2)) (u 100003 (a + 3))).q
  have hw := wB4 ((eEd (bdT u (1 + 26 + 1)) (u 100003 (a + 1)) (u 100003 (a + 2)) (u 100003 (a + 3)) : Nat) : Int) hI hT (fun z => bStrap_01 hI.bo) (C_L_hasStrap 1 (u 100003 (a + 1)) (u 100003 (a + 2)) (u 100003 (a + 3)) 261 g u) (fun z g' u' => by
      show (if gExc (eEd (bdT u (1 + 26 + 1)) (u 100003 (a + 1)) (u 100003 (a + 2)) (u 100003 (a + 3)) - 1) = _ then some (0, vI 1, g', u') else if gExc (eEd (bdT u (1 + 26 + 1)) (u 100003 (a + 1)) (u 100003 (a + 2)) (u 100003 (a + 3)) - 1) = _ then some (0, vI 2, g', u') else _) = _
      rcases eEd_12 z with q | q
      · rw [exIA q, if_pos rfl, q]; rfl
      · rw [exIO q, if_neg (by decide), if_pos rfl, q]; rfl)
  obtain ⟨g1, u1, e1, hI1, fu, q1, q2, q3⟩ := hw
  have fs : ∀ k, u1 100003 k = u 100003 k := fun k => fu _ k (by unfold Un; omega)
  have cm : absM (u1 (249 + 1)) = absT u (1 + 26) := (fu.A (wf_n hI.w)).trans hI.c.symm
  have cb : bdM (u1 (249 + 1)) = bdT u (1 + 26 + 1) := congrArg AS.bd cm
  have hM := (TM_hasStrap (g := g1) (u := u1) (t := 249) (K_TM hI1.1) hI1.m (u 100003 (a + 1)) (u 100003 (a + 2)) (u 100003 (a + 3))).q
  rw [cb] at hM
  rw [R_L_law_1071, w_id (x := a + 1) (by omega) (by omega), w_id (x := a + 2) (by omega) (by omega), w_id (x := a + 3) (by omega) (by omega), gd_S (by omega) (by omega), gd_S (by omega) (by omega), gd_S (by omega) (by omega), e1, cI_some, gd_S (by omega) (by omega), gd_S (by omega) (by omega), gd_S (by omega) (by omega)]
  simp only [fs]
  exact Nx_tr q1 q2 fs (stB2 (cM := fun G U => call M_TM_hasStrap [vA 249, vI (u 100003 (a + 1)), vI (u 100003 (a + 2)), vI (u 100003 (a + 3))] G U) (R := fun x6 s0 g u => run M_L_law 1149 [vA 100003, vA 1, vA 249, vA 261, vI a, vI _, vI x6, vN, vN] [vL s0, vL (u 261 0)] g u) hI1 hM x_e (fun z => by have z0 := x_0 (fun z => by omega) z; rw [q3 z0, if_pos z0]) (fun z => by split; exact bStrap_01 hI.bo; exact Or.inl rfl) (fun x6 s0 g u z => by show run M_L_law 1149 _ _ g u = _; rw [R_L_law_1149, z, lcmp_s, if_pos rfl]))
theorem L_1837 (hI : Inv g u) (h0 : 0 ≤ a) (h1 : a + 6 ≤ (g.2.2 : Int)) (h2 : (g.2.2 : Int) < 2147483648) : Nx g u (run M_L_law 1837 [vA 100003, vA 1, vA 249, vA 261, vI a, vN, vN, vN, vN] [] g u) (KL 100003 a) := by
  have cc : absT u (1 + 26) = absM (u 250) := hI.c
  have hT := (TD_fits (g := g) (u := u) (t := 1) hI.p (u 100003 (a + 1)) (u 100003 (a + 2)) (u 100003 (a + 3)) (u 100003 (a + 4))).q
  have hw := wB4 ((eAim (bdT u (1 + 26 + 1)) (u 100003 (a + 1)) (u 100003 (a + 2)) (u 100003 (a + 3)) (u 100003 (a + 4)) : Nat) : Int) hI hT (fun _ => by unfold bI; split <;> omega) (C_L_fits 1 (u 100003 (a + 1)) (u 100003 (a + 2)) (u 100003 (a + 3)) (u 100003 (a + 4)) 261 g u) (fun z g' u' => by
      show (if gExc (eAim (bdT u (1 + 26 + 1)) (u 100003 (a + 1)) (u 100003 (a + 2)) (u 100003 (a + 3)) (u 100003 (a + 4)) - 1) = _ then some (0, vI 1, g', u') else if gExc (eAim (bdT u (1 + 26 + 1)) (u 100003 (a + 1)) (u 100003 (a + 2)) (u 100003 (a + 3)) (u 100003 (a + 4)) - 1) = _ then some (0, vI 2, g', u') else _) = _
      rcases eAim_12 z with q | q
      · rw [exIA q, if_pos rfl, q]; rfl
      · rw [exIO q, if_neg (by decide), if_pos rfl, q]; rfl)
  obtain ⟨g1, u1, e1, hI1, fu, q1, q2, q3⟩ := hw
  have fs : ∀ k, u1 100003 k = u 100003 k := fun k => fu _ k (by unfold Un; omega)
  have cm : absM (u1 (249 + 1)) = absT u (1 + 26) := (fu.A (wf_n hI.w)).trans hI.c.symm
  have cb : bdM (u1 (249 + 1)) = bdT u (1 + 26 + 1) := congrArg AS.bd cm
  have hM := (TM_fits (g := g1) (u := u1) (t := 249) (K_TM hI1.1) hI1.m (u 100003 (a + 1)) (u 100003 (a + 2)) (u 100003 (a + 3)) (u 100003 (a + 4))).q
  rw [cb] at hM
  rw [R_L_law_1837, w_id (x := a + 1) (by omega) (by omega), w_id (x := a + 2) (by omega) (by omega), w_id (x := a + 3) (by omega) (by omega), w_id (x := a + 4) (by omega) (by omega), gd_S (by omega) (by omega), gd_S (by omega) (by omega), gd_S (by omega) (by omega), gd_S (by omega) (by omega), e1, cI_some, gd_S (by omega) (by omega), gd_S (by omega) (by omega), gd_S (by omega) (by omega), gd_S (by omega) (by omega)]
  simp only [fs]
  exact Nx_tr q1 q2 fs (stB2 (cM := fun G U => call M_TM_fits [vA 249, vI (u 100003 (a + 1)), vI (u 100003 (a + 2)), vI (u 100003 (a + 3)), vI (u 100003 (a + 4))] G U) (R := fun x6 s0 g u => run M_L_law 1927 [vA 100003, vA 1, vA 249, vA 261, vI a, vI _, vI x6, vN, vN] [vL s0, vL (u 261 0)] g u) hI1 hM x_e (fun z => by have z0 := x_0 (fun z => by omega) z; rw [q3 z0, if_pos z0]) (fun z => by split; (unfold bI; split <;> omega); exact Or.inl rfl) (fun x6 s0 g u z => by show run M_L_law 1927 _ _ g u = _; rw [R_L_law_1927, z, lcmp_s, if_pos rfl]))
theorem L_1936 (hI : Inv g u) (h0 : 0 ≤ a) (h1 : a + 6 ≤ (g.2.2 : Int)) (h2 : (g.2.2 : Int) < 2147483648) : Nx g u (run M_L_law 1936 [vA 100003, vA 1, vA 249, vA 261, vI a, vN, vN, vN, vN] [] g u) (KL 100003 a) := by
  have cc : absT u (1 + 26) = absM (u 250) := hI.c
  have hT := (TD_misfitReason (g := g) (u := u) (t := 1) hI.p (u 100003 (a + 1)) (u 100003 (a + 2)) (u 100003 (a + 3)) (u 100003 (a + 4))).q
  have hw := wB3 ((eAim (bdT u (1 + 26 + 1)) (u 100003 (a + 1)) (u 100003 (a + 2)) (u 100003 (a + 3)) (u 100003 (a + 4)) : Nat) : Int) hI hT (C_L_misfitReason 1 (u 100003 (a + 1)) (u 100003 (a + 2)) (u 100003 (a + 3)) (u 100003 (a + 4)) 261 g u) (fun z g' u' => by
      show (if gExc (eAim (bdT u (1 + 26 + 1)) (u 100003 (a + 1)) (u 100003 (a + 2)) (u 100003 (a + 3)) (u 100003 (a + 4)) - 1) = _ then some (0, vI 1, g', u') else if gExc (eAim (bdT u (1 + 26 + 1)) (u 100003 (a + 1)) (u 100003 (a + 2)) (u 100003 (a + 3)) (u 100003 (a + 4)) - 1) = _ then some (0, vI 2, g', u') else _) = _
      rcases eAim_12 z with q | q
      · rw [exIA q, if_pos rfl, q]; rfl
      · rw [exIO q, if_neg (by decide), if_pos rfl, q]; rfl)
  obtain ⟨g1, u1, e1, hI1, fu, q1, q2, q3⟩ := hw
  have fs : ∀ k, u1 100003 k = u 100003 k := fun k => fu _ k (by unfold Un; omega)
  have cm : absM (u1 (249 + 1)) = absT u (1 + 26) := (fu.A (wf_n hI.w)).trans hI.c.symm
  have cb : bdM (u1 (249 + 1)) = bdT u (1 + 26 + 1) := congrArg AS.bd cm
  have hM := (TM_misfitReason (g := g1) (u := u1) (t := 249) (K_TM hI1.1) hI1.m (u 100003 (a + 1)) (u 100003 (a + 2)) (u 100003 (a + 3)) (u 100003 (a + 4))).q
  rw [cb] at hM
  rw [R_L_law_1936, w_id (x := a + 1) (by omega) (by omega), w_id (x := a + 2) (by omega) (by omega), w_id (x := a + 3) (by omega) (by omega), w_id (x := a + 4) (by omega) (by omega), gd_S (by omega) (by omega), gd_S (by omega) (by omega), gd_S (by omega) (by omega), gd_S (by omega) (by omega), e1, cI_some, gd_S (by omega) (by omega), gd_S (by omega) (by omega), gd_S (by omega) (by omega), gd_S (by omega) (by omega)]
  simp only [fs]
  exact Nx_tr q1 q2 fs (stB (cM := fun G U => call M_TM_misfitReason [vA 249, vI (u 100003 (a + 1)), vI (u 100003 (a + 2)), vI (u 100003 (a + 3)), vI (u 100003 (a + 4))] G U) hI1 hM x_e (fun z => by have z0 := x_0 (fun z => by omega) z; rw [q3 z0, if_pos z0]))
theorem L_2028 (hI : Inv g u) (h0 : 0 ≤ a) (h1 : a + 6 ≤ (g.2.2 : Int)) (h2 : (g.2.2 : Int) < 2147483648) : Nx g u (run M_L_law 2028 [vA 100003, vA 1, vA 249, vA 261, vI a, vN, vN, vN, vN] [] g u) (KL 100003 a) := by
  have cc : absT u (1 + 26) = absM (u 250) := hI.c
  have hT := (TD_pointsFor (g := g) (u := u) (t := 1) hI.p (u 100003 (a + 1)) (u 100003 (a + 2)) (u 100003 (a + 3)) (u 100003 (a + 4))).q
  have hw := wB3 ((eAim (bdT u (1 + 26 + 1)) (u 100003 (a + 1)) (u 100003 (a + 2)) (u 100003 (a + 3)) (u 100003 (a + 4)) : Nat) : Int) hI hT (C_L_pointsFor 1 (u 100003 (a + 1)) (u 100003 (a + 2)) (u 100003 (a + 3)) (u 100003 (a + 4)) 261 g u) (fun z g' u' => by
      show (if gExc (eAim (bdT u (1 + 26 + 1)) (u 100003 (a + 1)) (u 100003 (a + 2)) (u 100003 (a + 3)) (u 100003 (a + 4)) - 1) = _ then some (0, vI 1, g', u') else if gExc (eAim (bdT u (1 + 26 + 1)) (u 100003 (a + 1)) (u 100003 (a + 2)) (u 100003 (a + 3)) (u 100003 (a + 4)) - 1) = _ then some (0, vI 2, g', u') else _) = _
      rcases eAim_12 z with q | q
      · rw [exIA q, if_pos rfl, q]; rfl
      · rw [exIO q, if_neg (by decide), if_pos rfl, q]; rfl)
  obtain ⟨g1, u1, e1, hI1, fu, q1, q2, q3⟩ := hw
  have fs : ∀ k, u1 100003 k = u 100003 k := fun k => fu _ k (by unfold Un; omega)
  have cm : absM (u1 (249 + 1)) = absT u (1 + 26) := (fu.A (wf_n hI.w)).trans hI.c.symm
  have cb : bdM (u1 (249 + 1)) = bdT u (1 + 26 + 1) := congrArg AS.bd cm
  have hM := (TM_pointsFor (g := g1) (u := u1) (t := 249) (K_TM hI1.1) hI1.m (u 100003 (a + 1)) (u 100003 (a + 2)) (u 100003 (a + 3)) (u 100003 (a + 4))).q
  rw [cb] at hM
  rw [R_L_law_2028, w_id (x := a + 1) (by omega) (by omega), w_id (x := a + 2) (by omega) (by omega), w_id (x := a + 3) (by omega) (by omega), w_id (x := a + 4) (by omega) (by omega), gd_S (by omega) (by omega), gd_S (by omega) (by omega), gd_S (by omega) (by omega), gd_S (by omega) (by omega), e1, cI_some, gd_S (by omega) (by omega), gd_S (by omega) (by omega), gd_S (by omega) (by omega), gd_S (by omega) (by omega)]
  simp only [fs]
  exact Nx_tr q1 q2 fs (stB (cM := fun G U => call M_TM_pointsFor [vA 249, vI (u 100003 (a + 1)), vI (u 100003 (a + 2)), vI (u 100003 (a + 3)), vI (u 100003 (a + 4))] G U) hI1 hM x_e (fun z => by have z0 := x_0 (fun z => by omega) z; rw [q3 z0, if_pos z0]))
theorem L_1645 (hI : Inv g u) (h0 : 0 ≤ a) (h1 : a + 6 ≤ (g.2.2 : Int)) (h2 : (g.2.2 : Int) < 2147483648) : Nx g u (run M_L_law 1645 [vA 100003, vA 1, vA 249, vA 261, vI a, vN, vN, vN, vN] [] g u) (KL 100003 a) := by
  have cc : absT u (1 + 26) = absM (u 250) := hI.c
  have hT := (TD_supply (g := g) (u := u) (t := 1) (K_TD hI.1) (u 100003 (a + 1)) (u 100003 (a + 2))).q
  have hw := wB3 (if ePl (u 100003 (a + 1)) ≠ 0 then 1 else 2 : Int) hI hT (C_L_supply 1 (u 100003 (a + 1)) (u 100003 (a + 2)) 261 g u) (fun z g' u' => by
      show (if gExc _ = _ then some (0, vI 1, g', u') else if gExc _ = _ then some (0, vI 2, g', u') else _) = _
      by_cases q : ePl (u 100003 (a + 1)) = 0
      · rw [if_pos q] at z
        rw [if_pos q, exIA (eSh_1 z), if_neg (by decide), if_pos rfl, if_neg (fun w => w q)]
      · rw [if_neg q, exIO (ePl_2 q), if_pos rfl, if_pos q])
  obtain ⟨g1, u1, e1, hI1, fu, q1, q2, q3⟩ := hw
  have fs : ∀ k, u1 100003 k = u 100003 k := fun k => fu _ k (by unfold Un; omega)
  have cm : absM (u1 (249 + 1)) = absT u (1 + 26) := (fu.A (wf_n hI.w)).trans hI.c.symm
  have cb : bdM (u1 (249 + 1)) = bdT u (1 + 26 + 1) := congrArg AS.bd cm
  have hM := (TM_supply (g := g1) (u := u1) (t := 249) (K_TM hI1.1) (u 100003 (a + 1)) (u 100003 (a + 2))).q
  rw [cm] at hM
  rw [R_L_law_1645, w_id (x := a + 1) (by omega) (by omega), w_id (x := a + 2) (by omega) (by omega), gd_S (by omega) (by omega), gd_S (by omega) (by omega), e1, cI_some, gd_S (by omega) (by omega), gd_S (by omega) (by omega)]
  simp only [fs]
  exact Nx_tr q1 q2 fs (stB (cM := fun G U => call M_TM_supply [vA 249, vI (u 100003 (a + 1)), vI (u 100003 (a + 2))] G U) hI1 hM (by by_cases q : ePl (u 100003 (a + 1)) = 0 <;> by_cases q2 : eSh (u 100003 (a + 2)) = 0 <;> simp [q, q2]) (fun z => by
    have z0 := x_0 (fun _ => by split <;> decide) z
    rw [q3 z0]
    by_cases q : ePl (u 100003 (a + 1)) = 0
    · rw [if_pos q] at z0
      rw [if_pos ⟨q, z0⟩]
    · rw [if_neg q] at z0; exact absurd z0 q))
theorem L_2427 (hI : Inv g u) (h0 : 0 ≤ a) (h1 : a + 6 ≤ (g.2.2 : Int)) (h2 : (g.2.2 : Int) < 2147483648) : Nx g u (run M_L_law 2427 [vA 100003, vA 1, vA 249, vA 261, vI a, vN, vN, vN, vN] [] g u) (KL 100003 a) := by
  have cc : absT u (1 + 26) = absM (u 250) := hI.c
  obtain ⟨w1, hw1, hT⟩ := TD_regionSize (g := g) (u := u) (t := 1) hI.p (K_Rg hI.1) (u 100003 (a + 1)) (u 100003 (a + 2))
  have hw := wB3 1 hI hT (C_L_regionSize 1 (u 100003 (a + 1)) (u 100003 (a + 2)) 261 g u) (fun z g' u' => by show (if gExc _ = _ then _ else _) = _; rw [exIO (eCe_2 z), if_pos rfl])
  obtain ⟨g1, u1, e1, hI1, fu, q1, q2, q3⟩ := hw
  have fs : ∀ k, u1 100003 k = u 100003 k := fun k => fu _ k (by unfold Un; omega)
  have cm : absM (u1 (249 + 1)) = absT u (1 + 26) := (fu.A (wf_n hI.w)).trans hI.c.symm
  have cb : bdM (u1 (249 + 1)) = bdT u (1 + 26 + 1) := congrArg AS.bd cm
  obtain ⟨w2, hw2, hM⟩ := TM_regionSize (g := g1) (u := u1) (t := 249) (K_TM hI1.1) hI1.m (K_ hI1.1 _ (by decide) rfl) (u 100003 (a + 1)) (u 100003 (a + 2))
  rw [cb] at hM hw2
  rw [R_L_law_2427, w_id (x := a + 1) (by omega) (by omega), w_id (x := a + 2) (by omega) (by omega), gd_S (by omega) (by omega), gd_S (by omega) (by omega), e1, cI_some, gd_S (by omega) (by omega), gd_S (by omega) (by omega)]
  simp only [fs]
  exact Nx_tr q1 q2 fs (stB (cM := fun G U => call M_TM_regionSize [vA 249, vI (u 100003 (a + 1)), vI (u 100003 (a + 2))] G U) hI1 hM (x_bI (by rw [Classical.not_not]; exact eCe_in)) (fun z => by
    have z0 := x_0 (fun _ => by decide) z
    have hin : bIn (bdT u (1 + 26 + 1)) (u 100003 (a + 1)) (u 100003 (a + 2)) := eCe_in.mp z0
    rw [q3 z0, if_pos hin]
    exact isSz_u (hw1 hin) (hw2 hin)))
theorem L_2495 (hI : Inv g u) (h0 : 0 ≤ a) (h1 : a + 6 ≤ (g.2.2 : Int)) (h2 : (g.2.2 : Int) < 2147483648) : Nx g u (run M_L_law 2495 [vA 100003, vA 1, vA 249, vA 261, vI a, vN, vN, vN, vN] [] g u) (KL 100003 a) := by
  have cc : absT u (1 + 26) = absM (u 250) := hI.c
  obtain ⟨w1, hw1, hT⟩ := TD_isDead (g := g) (u := u) (t := 1) hI.p (K_Rg hI.1) (u 100003 (a + 1)) (u 100003 (a + 2))
  have hw := wB4 1 hI hT (fun z => (hw1 (eCe_in.mp z)).1) (C_L_isDead 1 (u 100003 (a + 1)) (u 100003 (a + 2)) 261 g u) (fun z g' u' => by show (if gExc _ = _ then _ else _) = _; rw [exIO (eCe_2 z), if_pos rfl])
  obtain ⟨g1, u1, e1, hI1, fu, q1, q2, q3⟩ := hw
  have fs : ∀ k, u1 100003 k = u 100003 k := fun k => fu _ k (by unfold Un; omega)
  have cm : absM (u1 (249 + 1)) = absT u (1 + 26) := (fu.A (wf_n hI.w)).trans hI.c.symm
  have cb : bdM (u1 (249 + 1)) = bdT u (1 + 26 + 1) := congrArg AS.bd cm
  obtain ⟨w2, hw2, hM⟩ := TM_isDead (g := g1) (u := u1) (t := 249) (K_TM hI1.1) hI1.m (K_ hI1.1 _ (by decide) rfl) (u 100003 (a + 1)) (u 100003 (a + 2))
  rw [cb] at hM hw2
  rw [R_L_law_2495, w_id (x := a + 1) (by omega) (by omega), w_id (x := a + 2) (by omega) (by omega), gd_S (by omega) (by omega), gd_S (by omega) (by omega), e1, cI_some, gd_S (by omega) (by omega), gd_S (by omega) (by omega)]
  simp only [fs]
  exact Nx_tr q1 q2 fs (stB2 (cM := fun G U => call M_TM_isDead [vA 249, vI (u 100003 (a + 1)), vI (u 100003 (a + 2))] G U) (R := fun x6 s0 g u => run M_L_law 2561 [vA 100003, vA 1, vA 249, vA 261, vI a, vI _, vI x6, vN, vN] [vL s0, vL (u 261 0)] g u) hI1 hM (x_bI (by rw [Classical.not_not]; exact eCe_in)) (fun z => by
    have z0 := x_0 (fun _ => by decide) z
    have hin : bIn (bdT u (1 + 26 + 1)) (u 100003 (a + 1)) (u 100003 (a + 2)) := eCe_in.mp z0
    rw [q3 z0, if_pos hin]
    have y1 := hw1 hin
    have y2 := hw2 hin
    rcases y1.1 with q | q
    · rcases y2.1 with q' | q'
      · rw [q, q']
      · exact absurd (y1.2.mpr (y2.2.mp q')) (by omega)
    · rw [q, y2.2.mpr (y1.2.mp q)]) (fun z => by
    have z0 := x_0 (fun _ => by decide) z
    have hin : bIn (bdT u (1 + 26 + 1)) (u 100003 (a + 1)) (u 100003 (a + 2)) := eCe_in.mp z0
    rw [if_pos hin]
    exact (hw2 hin).1) (fun x6 s0 g u z => by show run M_L_law 2561 _ _ g u = _; rw [R_L_law_2561, z, lcmp_s, if_pos rfl]))
theorem L_2232 (hI : Inv g u) (h0 : 0 ≤ a) (h1 : a + 6 ≤ (g.2.2 : Int)) (h2 : (g.2.2 : Int) < 2147483648) : Nx g u (run M_L_law 2232 [vA 100003, vA 1, vA 249, vA 261, vI a, vN, vN, vN, vN] [] g u) (KL 100003 a) := by
  have cc : absT u (1 + 26) = absM (u 250) := hI.c
  obtain ⟨ht1, ht2⟩ := TD_mobilityAfter (g := g) (u := u) (t := 1) (s := (u 100003 (a + 1))) (r := (u 100003 (a + 2))) (x := (u 100003 (a + 3))) (y := (u 100003 (a + 4))) (p := (u 100003 (a + 5))) hI.p (kSt_of (by have := hI.1; omega) (by decide)) (fun z => by rw [cc] at z ⊢; exact may_lt hI.w z)
  have hT : AqT g u 1 (call M_TD_mobilityAfter [vA 1, vI (u 100003 (a + 1)), vI (u 100003 (a + 2)), vI (u 100003 (a + 3)), vI (u 100003 (a + 4)), vI (u 100003 (a + 5))] g u) (if eAim (bdT u (1 + 26 + 1)) (u 100003 (a + 1)) (u 100003 (a + 2)) (u 100003 (a + 3)) (u 100003 (a + 4)) ≠ 0 then eAim (bdT u (1 + 26 + 1)) (u 100003 (a + 1)) (u 100003 (a + 2)) (u 100003 (a + 3)) (u 100003 (a + 4)) else ePl (u 100003 (a + 5))) (if aMayP (absT u (1 + 26)) (u 100003 (a + 1)) (u 100003 (a + 2)) (u 100003 (a + 3)) (u 100003 (a + 4)) then aMov (aPut (absT u (1 + 26)) (u 100003 (a + 1)) (u 100003 (a + 2)) (u 100003 (a + 3)) (u 100003 (a + 4))) (u 100003 (a + 5)) else -1) := by
    by_cases q : (if eAim (bdT u (1 + 26 + 1)) (u 100003 (a + 1)) (u 100003 (a + 2)) (u 100003 (a + 3)) (u 100003 (a + 4)) ≠ 0 then eAim (bdT u (1 + 26 + 1)) (u 100003 (a + 1)) (u 100003 (a + 2)) (u 100003 (a + 3)) (u 100003 (a + 4)) else ePl (u 100003 (a + 5))) = 0
    · obtain ⟨w, w1, w2⟩ := ht1 q
      exact ⟨w, fun a k z1 z2 => w2 a k (by omega) (by omega), by rw [if_pos q]; exact w1⟩
    · obtain ⟨w, w1, w2⟩ := ht2 q
      exact ⟨w, fun a k z1 z2 => w2 a k (by omega) (by omega), by rw [if_neg q]; exact w1⟩
  have hw := wB3 (((if eAim (bdT u (1 + 26 + 1)) (u 100003 (a + 1)) (u 100003 (a + 2)) (u 100003 (a + 3)) (u 100003 (a + 4)) ≠ 0 then eAim (bdT u (1 + 26 + 1)) (u 100003 (a + 1)) (u 100003 (a + 2)) (u 100003 (a + 3)) (u 100003 (a + 4)) else ePl (u 100003 (a + 5))) : Nat) : Int) hI hT (C_L_mobilityAfter 1 (u 100003 (a + 1)) (u 100003 (a + 2)) (u 100003 (a + 3)) (u 100003 (a + 4)) (u 100003 (a + 5)) 261 g u) (fun z g' u' => by
      show (if gExc ((if eAim (bdT u (1 + 26 + 1)) (u 100003 (a + 1)) (u 100003 (a + 2)) (u 100003 (a + 3)) (u 100003 (a + 4)) ≠ 0 then eAim (bdT u (1 + 26 + 1)) (u 100003 (a + 1)) (u 100003 (a + 2)) (u 100003 (a + 3)) (u 100003 (a + 4)) else ePl (u 100003 (a + 5))) - 1) = _ then some (0, vI 1, g', u') else if gExc ((if eAim (bdT u (1 + 26 + 1)) (u 100003 (a + 1)) (u 100003 (a + 2)) (u 100003 (a + 3)) (u 100003 (a + 4)) ≠ 0 then eAim (bdT u (1 + 26 + 1)) (u 100003 (a + 1)) (u 100003 (a + 2)) (u 100003 (a + 3)) (u 100003 (a + 4)) else ePl (u 100003 (a + 5))) - 1) = _ then some (0, vI 2, g', u') else _) = _
      have hh : (if eAim (bdT u (1 + 26 + 1)) (u 100003 (a + 1)) (u 100003 (a + 2)) (u 100003 (a + 3)) (u 100003 (a + 4)) ≠ 0 then eAim (bdT u (1 + 26 + 1)) (u 100003 (a + 1)) (u 100003 (a + 2)) (u 100003 (a + 3)) (u 100003 (a + 4)) else ePl (u 100003 (a + 5))) = 1 ∨ (if eAim (bdT u (1 + 26 + 1)) (u 100003 (a + 1)) (u 100003 (a + 2)) (u 100003 (a + 3)) (u 100003 (a + 4)) ≠ 0 then eAim (bdT u (1 + 26 + 1)) (u 100003 (a + 1)) (u 100003 (a + 2)) (u 100003 (a + 3)) (u 100003 (a + 4)) else ePl (u 100003 (a + 5))) = 2 := by
        by_cases q : eAim (bdT u (1 + 26 + 1)) (u 100003 (a + 1)) (u 100003 (a + 2)) (u 100003 (a + 3)) (u 100003 (a + 4)) ≠ 0
        · rw [if_pos q]; exact eAim_12 q
        · rw [if_neg q] at z ⊢; exact Or.inr (ePl_2 z)
      rcases hh with q | q
      · rw [exIA q, if_pos rfl, q]; rfl
      · rw [exIO q, if_neg (by decide), if_pos rfl, q]; rfl)
  obtain ⟨g1, u1, e1, hI1, fu, q1, q2, q3⟩ := hw
  have fs : ∀ k, u1 100003 k = u 100003 k := fun k => fu _ k (by unfold Un; omega)
  have cm : absM (u1 (249 + 1)) = absT u (1 + 26) := (fu.A (wf_n hI.w)).trans hI.c.symm
  have cb : bdM (u1 (249 + 1)) = bdT u (1 + 26 + 1) := congrArg AS.bd cm
  obtain ⟨hm1, hm2⟩ := TM_mobilityAfter (g := g1) (u := u1) (t := 249) (s := (u 100003 (a + 1))) (r := (u 100003 (a + 2))) (x := (u 100003 (a + 3))) (y := (u 100003 (a + 4))) (p := (u 100003 (a + 5))) (K_TM hI1.1) (K_ hI1.1 _ (by decide) rfl) hI1.s hI1.w.1.2.1 (fun z => may_lt hI1.w z)
  rw [cb, cm] at hm1
  rw [cb] at hm2
  have hM : AqM g1 u1 249 (call M_TM_mobilityAfter [vA 249, vI (u 100003 (a + 1)), vI (u 100003 (a + 2)), vI (u 100003 (a + 3)), vI (u 100003 (a + 4)), vI (u 100003 (a + 5))] g1 u1) (((if eAim (bdT u (1 + 26 + 1)) (u 100003 (a + 1)) (u 100003 (a + 2)) (u 100003 (a + 3)) (u 100003 (a + 4)) ≠ 0 then eAim (bdT u (1 + 26 + 1)) (u 100003 (a + 1)) (u 100003 (a + 2)) (u 100003 (a + 3)) (u 100003 (a + 4)) else ePl (u 100003 (a + 5))) : Nat) : Int) (if (if eAim (bdT u (1 + 26 + 1)) (u 100003 (a + 1)) (u 100003 (a + 2)) (u 100003 (a + 3)) (u 100003 (a + 4)) ≠ 0 then eAim (bdT u (1 + 26 + 1)) (u 100003 (a + 1)) (u 100003 (a + 2)) (u 100003 (a + 3)) (u 100003 (a + 4)) else ePl (u 100003 (a + 5))) = 0 then (if aMayP (absT u (1 + 26)) (u 100003 (a + 1)) (u 100003 (a + 2)) (u 100003 (a + 3)) (u 100003 (a + 4)) then aMov (aPut (absT u (1 + 26)) (u 100003 (a + 1)) (u 100003 (a + 2)) (u 100003 (a + 3)) (u 100003 (a + 4))) (u 100003 (a + 5)) else -1) else 0) := by
    by_cases q : (if eAim (bdT u (1 + 26 + 1)) (u 100003 (a + 1)) (u 100003 (a + 2)) (u 100003 (a + 3)) (u 100003 (a + 4)) ≠ 0 then eAim (bdT u (1 + 26 + 1)) (u 100003 (a + 1)) (u 100003 (a + 2)) (u 100003 (a + 3)) (u 100003 (a + 4)) else ePl (u 100003 (a + 5))) = 0
    · obtain ⟨w, w1, w3, w2⟩ := hm1 q
      exact ⟨w, by rw [if_pos q]; exact w1, by rw [w3, q]; rfl, fun a k z1 z2 z3 z4 z5 z6 => w2 a k (by omega) z2 z3 z4 z6⟩
    · obtain ⟨w, w1, w3, w2⟩ := hm2 q
      exact ⟨w, by rw [if_neg q]; exact w1, w3, fun a k z1 z2 z3 z4 z5 z6 => w2 a k (by omega) z2 z3 z4 z6⟩
  rw [R_L_law_2232, w_id (x := a + 1) (by omega) (by omega), w_id (x := a + 2) (by omega) (by omega), w_id (x := a + 3) (by omega) (by omega), w_id (x := a + 4) (by omega) (by omega), w_id (x := a + 5) (by omega) (by omega), gd_S (by omega) (by omega), gd_S (by omega) (by omega), gd_S (by omega) (by omega), gd_S (by omega) (by omega), gd_S (by omega) (by omega), e1, cI_some, gd_S (by omega) (by omega), gd_S (by omega) (by omega), gd_S (by omega) (by omega), gd_S (by omega) (by omega), gd_S (by omega) (by omega)]
  simp only [fs]
  exact Nx_tr q1 q2 fs (stB (cM := fun G U => call M_TM_mobilityAfter [vA 249, vI (u 100003 (a + 1)), vI (u 100003 (a + 2)), vI (u 100003 (a + 3)), vI (u 100003 (a + 4)), vI (u 100003 (a + 5))] G U) hI1 hM x_e (fun z => by have z0 := x_0 (fun z => by omega) z; rw [q3 z0, if_pos z0]))
end
