/-! ===== the invariant: class and reference agree ===== -/
def IvD (u : PM) : Prop :=
  RO u ∧ (absT u 27 = absM (u 250) ∧ wf (absM (u 250))) ∧
  ((0 ≤ u 61 0 ∧ u 61 0 ≤ 8) ∧ (0 ≤ u 61 1 ∧ u 61 1 < 8) ∧ (0 ≤ u 249 6 ∧ u 249 6 ≤ 8) ∧ hT u 61 = hM u 249 ∧ ∀ A ∈ hM u 249, wf A) ∧
  (∀ i : Int, 0 ≤ i → i < 2 → vT u 1 i = vM u 249 i ∧ ∀ A, vM u 249 i = some A → wf A) ∧
  (∃ b n, u 2 0 = n ∧ TxO u 26 n b ∧ MdB u 249 b n) ∧
  (u 2 1 = u 249 15 ∧ u 2 2 = u 249 16) ∧
  (oT u 1 = oM u 249 ∧ (0 ≤ u 1 11 ∧ u 1 11 ≤ 71) ∧ 0 ≤ u 249 14 ∧ u 249 14 ≤ 71)
def Inv (g : PG) (u : PM) : Prop := 262 ≤ g.1 ∧ IvD u
/-- cells that the invariant does not look at -/
def Un (a : Nat) (k : Int) : Prop := (44 ≤ a ∧ a ≤ 60) ∨ (235 ≤ a ∧ a ≤ 247) ∨ (a = 249 ∧ k ≠ 6 ∧ k ≠ 13 ∧ k ≠ 14 ∧ k ≠ 15 ∧ k ≠ 16) ∨ a = 251 ∨ a = 258 ∨ a = 259 ∨ a = 260 ∨ a = 261 ∨ (a = 250 ∧ ¬ (0 ≤ k ∧ k < 417))
def FU (u u' : PM) : Prop := ∀ (a : Nat) (k : Int), ¬ Un a k → u' a k = u a k
theorem FU.tr {u v x : PM} (h : FU u v) (h' : FU v x) : FU u x := fun a k z => (h' a k z).trans (h a k z)
theorem FU.rfl' {u : PM} : FU u u := fun _ _ _ => rfl
theorem FqT.un {u v : PM} (h : FqT 1 u v) : FU u v := fun a k z => h a k (by unfold Un at z; omega) (by unfold Un at z; omega)
theorem FqM.un {u v : PM} (h : FqM 249 u v) : FU u v := fun a k z => h a k (by unfold Un at z; omega) (by unfold Un at z; omega) (by unfold Un at z; omega) (by unfold Un at z; omega) (by unfold Un at z; omega) (by unfold Un at z; omega)
section
variable {g : PG} {u : PM}
theorem K_ {a : Nat} (h : 262 ≤ g.1) (k : Nat × Nat × Nat) (ha : a < 262) (hk : pKind a = k) : KA g a k := KA_of (by omega) ha hk
theorem K_TD (h : 262 ≤ g.1) : kTD g 1 := ⟨K_ h _ (by decide) rfl, kSt_of (by omega) (by decide), kFp_of (by omega) (Or.inr rfl), by decide⟩
theorem K_TM (h : 262 ≤ g.1) : kTM g 249 := ⟨K_ h _ (by decide) rfl, K_ h _ (by decide) rfl, K_ h _ (by decide) rfl, K_ h _ (by decide) rfl⟩
theorem K_Md (h : 262 ≤ g.1) : kMd g 249 := ⟨K_TM h, K_ h _ (by decide) rfl⟩
theorem K_Rd (h : 262 ≤ g.1) : kRd g 2 := ⟨K_ h _ (by decide) rfl, kSt_of (by omega) (by decide), kFp_of (by omega) (Or.inl rfl), K_ h _ (by decide) rfl, by decide⟩
theorem K_Rg (h : 262 ≤ g.1) : kRg g 244 := ⟨K_ h _ (by decide) rfl, K_ h _ (by decide) rfl, K_ h _ (by decide) rfl, K_ h _ (by decide) rfl⟩
theorem K_Hi (h : 262 ≤ g.1) : ∀ i : Nat, i < 8 → kSt g (61 + 1 + 1 + 17 * i) := fun i hi => kSt_of (by omega) (by
  have key : ∀ i : Fin 8, 61 + 1 + 1 + 17 * i.val ∈ pSts := by decide
  exact key ⟨i, hi⟩)
theorem K_Sv (h : 262 ≤ g.1) : ∀ i : Nat, i < 2 → kSt g (1 + 198 + 1 + 17 * i) := fun i hi => kSt_of (by omega) (by
  have key : ∀ i : Fin 2, 1 + 198 + 1 + 17 * i.val ∈ pSts := by decide
  exact key ⟨i, hi⟩)
theorem Inv.p (h : Inv g u) : pOk2 g u 1 := ⟨K_TD h.1, by show bOk (absT u 27).bd; rw [h.2.2.1.1]; exact h.2.2.1.2.1.1, by show nOk (absT u 27); rw [h.2.2.1.1]; exact wf_n h.2.2.1.2, h.2.1⟩
theorem Inv.w (h : Inv g u) : wf (absM (u 250)) := h.2.2.1.2
theorem Inv.c (h : Inv g u) : absT u 27 = absM (u 250) := h.2.2.1.1
theorem Inv.s (h : Inv g u) : sOk (u 250) := wf_s h.w
theorem Inv.m (h : Inv g u) : mOk (u 250) := h.s.1
theorem Inv.h (h : Inv g u) : hOk g u 61 := ⟨K_ h.1 _ (by decide) rfl, K_ h.1 _ (by decide) rfl, K_Hi h.1, h.2.2.2.1.1, h.2.2.2.1.2.1⟩
theorem Inv.r (h : Inv g u) : rOk g u 249 := ⟨K_TM h.1, K_ h.1 _ (by decide) rfl, h.2.2.2.1.2.2.1, fun a ha => wf_n (h.2.2.2.1.2.2.2.2 a ha)⟩
theorem Inv.v (h : Inv g u) : vOk g u 1 := ⟨K_ h.1 _ (by decide) rfl, K_ h.1 _ (by decide) rfl, K_Sv h.1, fun i i0 i1 a ha => wf_n ((h.2.2.2.2.1 i i0 i1).2 a (by rw [← (h.2.2.2.2.1 i i0 i1).1]; exact ha))⟩
theorem Inv.x (h : Inv g u) : wOk g u 249 := ⟨K_ h.1 _ (by decide) rfl, K_ h.1 _ (by decide) rfl, fun i i0 i1 a ha => wf_n ((h.2.2.2.2.1 i i0 i1).2 a ha)⟩
theorem FU.A {u' : PM} (f : FU u u') (hn : nOk (absM (u 250))) : absM (u' 250) = absM (u 250) := absM_o hn fun k k0 k1 => f 250 k (by unfold Un; omega)
theorem FU.T {u' : PM} (f : FU u u') : absT u' 27 = absT u 27 := absT_eq fun a k b1 b2 => f a k (by unfold Un; omega)
theorem lsO_eq {u u' : PM} {a : Nat} {n n' : Int} (hn : n' = n) (h : ∀ k : Int, u' a k = u a k) : lsO u' a n' = lsO u a n := by
  rw [hn]
  unfold lsO
  exact List.map_congr_left fun i _ => h _
theorem FU.oT {u' : PM} (f : FU u u') : oT u' 1 = oT u 1 := lsO_eq (f 1 11 (by unfold Un; omega)) fun k => f _ k (by unfold Un; omega)
theorem FU.oM {u' : PM} (f : FU u u') : oM u' 249 = oM u 249 := lsO_eq (f 249 14 (by unfold Un; omega)) fun k => f _ k (by unfold Un; omega)
theorem FU.hT {u' : PM} (f : FU u u') : hT u' 61 = hT u 61 := hT_fr fun a k b1 b2 => f a k (by unfold Un; omega)
theorem FU.hM {u' : PM} (f : FU u u') : hM u' 249 = hM u 249 := hM_fr (f 249 6 (by unfold Un; omega)) (funext fun k => f _ k (by unfold Un; omega))
theorem FU.sv {u' : PM} (f : FU u u') (i : Int) : vM u' 249 i = vM u 249 i := by
  unfold vM
  rw [show u' (249 + 4) = u (249 + 4) from funext fun k => f _ k (by unfold Un; omega), f (249 + 6) i (by unfold Un; omega)]
theorem Inv_un {g' : PG} {u' : PM} (h : Inv g u) (f : FU u u') (hg : g'.1 = g.1) : Inv g' u' := by
  obtain ⟨h0, h1, ⟨h2, h3⟩, ⟨h4, h5, h6, h7, h8⟩, h9, ⟨b, n, k1, k2, k3⟩, k4, k5, k6⟩ := h
  have fa := f.A (wf_n h3)
  refine ⟨by omega, RO_eq (fun a k ha => f a k (by unfold Un; omega)) h1, ⟨by rw [f.T, fa]; exact h2, by rw [fa]; exact h3⟩, ⟨?_, ?_, ?_, by rw [f.hT, f.hM]; exact h7, by rw [f.hM]; exact h8⟩, fun i i0 i1 => ?_, ⟨b, n, ?_, ⟨k2.1, k2.2.1, fun k k0 k1 => ?_, k2.2.2.2⟩, ?_, k3.2.1, k3.2.2.1, fun k k0 k1 => ?_, k3.2.2.2.2⟩, ?_, by rw [f.oT, f.oM]; exact k5, ?_⟩
  · rw [f 61 0 (by unfold Un; omega)]; exact h4
  · rw [f 61 1 (by unfold Un; omega)]; exact h5
  · rw [f 249 6 (by unfold Un; omega)]; exact h6
  · rw [f.sv, vT_fr (u := u) (fun a k b1 b2 => f a k (by unfold Un; omega)) i0 i1]
    exact h9 i i0 i1
  · rw [f 2 0 (by unfold Un; omega)]; exact k1
  · rw [f 26 k (by unfold Un; omega)]; exact k2.2.2.1 k k0 k1
  · rw [f 249 13 (by unfold Un; omega)]; exact k3.1
  · rw [f _ k (by unfold Un; omega)]; exact k3.2.2.2.1 k k0 k1
  · rw [f 2 1 (by unfold Un; omega), f 2 2 (by unfold Un; omega), f 249 15 (by unfold Un; omega), f 249 16 (by unfold Un; omega)]; exact k4
  · rw [f 1 11 (by unfold Un; omega), f 249 14 (by unfold Un; omega)]; exact k6
/-- as many cells, at most one exception more -/
def Gx (g g' : PG) : Prop := g'.1 = g.1 ∧ g'.2.1 ≤ g.2.1 + 1
def G0x (g g' : PG) : Prop := g'.1 = g.1 ∧ g'.2.1 = g.2.1
theorem Gx0 {g : PG} : Gx g g := ⟨rfl, Nat.le_succ _⟩
theorem GxX {g : PG} : Gx g (gX g) := ⟨rfl, Nat.le_refl _⟩
theorem G00 {g : PG} : G0x g g := ⟨rfl, rfl⟩
/-- a case of the law goes on -/
def Nx (g : PG) (u : PM) (o : Option PO) (K : PG → PM → Option PO) : Prop := ∃ g' u', Inv g' u' ∧ Gx g g' ∧ g'.2.2 = g.2.2 ∧ (∀ k, u' 100003 k = u 100003 k) ∧ o = K g' u'
def Nx0 (g : PG) (u : PM) (o : Option PO) (K : PG → PM → Option PO) : Prop := ∃ g' u', Inv g' u' ∧ G0x g g' ∧ g'.2.2 = g.2.2 ∧ (∀ k, u' 100003 k = u 100003 k) ∧ o = K g' u'
theorem stA {cT : Option PO} {cM : PG → PM → Option PO} {K : PG → PM → Option PO} {v : Int} (hI : Inv g u) (h1 : AqT g u 1 cT 0 v) (h2 : ∀ u', Inv g u' → FU u u' → AqM g u' 249 (cM g u') 0 v) :
    Nx g u (bif pW 1 && pO (pK g 1) 10 then (cI cT (fun (x3 : Int) (g1 : PG) (u2 : PM) => bif pW 249 && pO (pK g1 249) 11 then (cI (cM g1 u2) (fun (x6 : Int) (g4 : PG) (u5 : PM) => if x3 = x6 then K g4 u5 else some (0, vI 0, g4, u5)) noX) else none) noX) else none) K := by
  obtain ⟨u1, f1, e1⟩ := h1
  rw [if_pos rfl] at e1
  have fu1 := FqT.un f1
  have hI1 : Inv g u1 := Inv_un hI fu1 rfl
  obtain ⟨u2, e2, -, f2⟩ := h2 u1 hI1 fu1
  have fu2 := FqM.un f2
  refine ⟨g, u2, Inv_un hI1 fu2 rfl, Gx0, rfl, fun k => (fu1.tr fu2) _ k (by unfold Un; omega), ?_⟩
  rw [gd_O (K_TD hI.1).1, e1, cI_some, gd_O (K_TM hI.1).1, e2, cI_some, if_pos rfl]
end
section
variable {g : PG} {u : PM} {s : Nat} {a : Int}
noncomputable abbrev KL (s : Nat) (a : Int) : PG → PM → Option PO := fun g u => run M_L_law 2718 [vA s, vA 1, vA 249, vA 261, vI a, vN, vN, vN, vN] [] g u
theorem L_837 (hI : Inv g u) : Nx g u (run M_L_law 837 [vA s, vA 1, vA 249, vA 261, vI a, vN, vN, vN, vN] [] g u) (KL s a) := by
  rw [R_L_law_837]
  exact stA (cM := fun g u => call M_TM_columns [vA 249] g u) (v := (absM (u 250)).bd.1) hI (by rw [← hI.c]; exact (TD_columns (K_TD hI.1)).q) (fun u' hI' f => by rw [← f.A (wf_n hI.w)]; exact (TM_columns (K_TM hI.1)).q)
theorem L_850 (hI : Inv g u) : Nx g u (run M_L_law 850 [vA s, vA 1, vA 249, vA 261, vI a, vN, vN, vN, vN] [] g u) (KL s a) := by
  rw [R_L_law_850]
  exact stA (cM := fun g u => call M_TM_rows [vA 249] g u) (v := (absM (u 250)).bd.2.1) hI (by rw [← hI.c]; exact (TD_rows (K_TD hI.1)).q) (fun u' hI' f => by rw [← f.A (wf_n hI.w)]; exact (TM_rows (K_TM hI.1)).q)
end
