/-! ===== the law: doubles, output, text ===== -/
theorem f2d_ok : ∀ a : Nat, a < 65 → ∀ b : Nat, b < 65 → 0 < b → n64 (FP.f2d (UInt32.ofNat (fdiv2 (i2f2 a) (i2f2 b)))) = true := by decide +kernel
theorem f2d_0 : n64 (FP.f2d (UInt32.ofNat FP.fconst0.toNat)) = true := by decide +kernel
theorem isNum_bd {B : Bd} {v : Int} (h : isNum B v) : 0 ≤ v ∧ v ≤ 64 := by
  obtain ⟨f, -, h⟩ := h
  rw [h]
  have := sumI_bd (f := fun k => bI (eC B k ∧ f k = k)) (n := 64) (b := 1) fun i _ _ => bI_bd _
  unfold rNum
  exact ⟨this.1, by have := this.2; omega⟩
theorem f2d_mean {B : Bd} {v : Int} (hB : bOk B) (h : isNum B v) : n64 (FP.f2d (UInt32.ofNat (aMean B v))) = true := by
  have hb := isNum_bd h
  have hc := bCnt_bd hB.1 hB.2.1 (-1)
  unfold aMean
  by_cases q : v = 0
  · rw [if_pos q]; exact f2d_0
  · rw [if_neg q]
    have := f2d_ok (bCnt B (-1)).toNat (by omega) v.toNat (by omega) (by omega)
    rw [show (((bCnt B (-1)).toNat : Nat) : Int) = bCnt B (-1) by omega, show ((v.toNat : Nat) : Int) = v by omega] at this
    exact this
theorem gd_S {g : PG} {j : Int} {k : Option PO} (h0 : 0 ≤ j) (h1 : j < (g.2.2 : Int)) : (bif pR (pK g 100003) 0 j then k else none) = k := by
  rw [show pK g 100003 = (2, 0, g.2.2) from rfl, pR_eq h0 h1]
  rfl
theorem dd_same {α : Type} (d : Nat) (x y : α) : (if dcmp2 d d .l = 0 then x else if dcmp2 d d .l = 0 then y else if dcmp2 d d .l = 0 then y else x) = x := by
  by_cases c : dcmp2 d d .l = 0
  · rw [if_pos c]
  · rw [if_neg c, if_neg c, if_neg c]
section
variable {g : PG} {u u' : PM} {s : Nat} {a : Int}
theorem I_pres (h : Inv g u) (f1 : ∀ (a : Nat) (k : Int), 27 ≤ a → a ≤ 43 → u' a k = u a k) (f2 : ∀ k : Int, 0 ≤ k → k < 417 → u' 250 k = u 250 k) : absT u' 27 = absM (u' 250) ∧ wf (absM (u' 250)) := by
  rw [absT_eq (u := u) (u' := u') (b := 27) (fun a k b1 b2 => f1 a k b1 b2), absM_o (wf_n h.w) f2]
  exact ⟨h.c, h.w⟩
theorem I_hist (h : Inv g u) (f1 : ∀ (a : Nat) (k : Int), 61 ≤ a → a < 199 → u' a k = u a k) (f2 : u' 249 6 = u 249 6) (f3 : ∀ k : Int, u' 252 k = u 252 k) : (0 ≤ u' 61 0 ∧ u' 61 0 ≤ 8) ∧ (0 ≤ u' 61 1 ∧ u' 61 1 < 8) ∧ (0 ≤ u' 249 6 ∧ u' 249 6 ≤ 8) ∧ hT u' 61 = hM u' 249 ∧ ∀ A ∈ hM u' 249, wf A := by
  rw [f1 61 0 (by decide) (by decide), f1 61 1 (by decide) (by decide), hT_fr (u := u) (u' := u') (h := 61) (fun a k b1 b2 => f1 a k b1 b2), hM_fr (u := u) (u' := u') (t := 249) f2 (funext f3), f2]
  exact h.2.2.2.1
theorem I_save (h : Inv g u) (f1 : ∀ (a : Nat) (k : Int), 200 ≤ a → a ≤ 234 → u' a k = u a k) (f2 : ∀ k : Int, u' 253 k = u 253 k) (f3 : ∀ k : Int, u' 255 k = u 255 k) : ∀ i : Int, 0 ≤ i → i < 2 → vT u' 1 i = vM u' 249 i ∧ ∀ A, vM u' 249 i = some A → wf A := fun i i0 i1 => by
  have e : vM u' 249 i = vM u 249 i := by
    unfold vM
    rw [show u' (249 + 4) = u (249 + 4) from funext f2, f3 i]
  rw [e, vT_fr (u := u) (fun a k b1 b2 => f1 a k b1 b2) i0 i1]
  exact h.2.2.2.2.1 i i0 i1
theorem I_text (h : Inv g u) (f1 : u' 2 0 = u 2 0) (f2 : ∀ k : Int, u' 26 k = u 26 k) (f3 : u' 249 13 = u 249 13) (f4 : ∀ k : Int, u' 256 k = u 256 k) : ∃ b n, u' 2 0 = n ∧ TxO u' 26 n b ∧ MdB u' 249 b n := by
  obtain ⟨b, n, k1, k2, k3⟩ := h.2.2.2.2.2.1
  exact ⟨b, n, by rw [f1]; exact k1, ⟨k2.1, k2.2.1, fun k k0 k1 => by rw [f2]; exact k2.2.2.1 k k0 k1, k2.2.2.2⟩, by rw [f3]; exact k3.1, k3.2.1, k3.2.2.1, fun k k0 k1 => by rw [show u' (249 + 7) k = u (249 + 7) k from f4 k]; exact k3.2.2.2.1 k k0 k1, k3.2.2.2.2⟩
theorem I_out (h : Inv g u) (f1 : u' 1 11 = u 1 11) (f2 : ∀ k : Int, u' 248 k = u 248 k) (f3 : u' 249 14 = u 249 14) (f4 : ∀ k : Int, u' 257 k = u 257 k) : oT u' 1 = oM u' 249 ∧ (0 ≤ u' 1 11 ∧ u' 1 11 ≤ 71) ∧ 0 ≤ u' 249 14 ∧ u' 249 14 ≤ 71 := by
  have e1 : oT u' 1 = oT u 1 := lsO_eq f1 f2
  have e2 : oM u' 249 = oM u 249 := lsO_eq f3 f4
  rw [e1, e2, f1, f3]
  exact h.2.2.2.2.2.2.2
theorem L_2596 (hI : Inv g u) : Nx g u (run M_L_law 2596 [vA s, vA 1, vA 249, vA 261, vI a, vN, vN, vN, vN] [] g u) (KL s a) := by
  have cc : absT u (1 + 26) = absM (u 250) := hI.c
  have e1 := TD_coverage (g := g) (u := u) (t := 1) hI.p (by rw [cc]; exact hI.w.1.2.1)
  have e2 := TM_coverage (g := g) (u := u) (t := 249) (K_TM hI.1) hI.m
  rw [show bdM (u (249 + 1)) = (absT u (1 + 26)).bd from (congrArg AS.bd hI.c).symm] at e2
  have f : FU u (up u 249 7 0) := FqM.un (FqM7 _ _ _)
  refine ⟨g, up u 249 7 0, Inv_un hI f rfl, Gx0, rfl, fun k => f _ k (by unfold Un; omega), ?_⟩
  rw [R_L_law_2596, gd_O (K_TD hI.1).1, e1, cD_some, gd_O (K_TM hI.1).1, e2, cD_some]
  exact dd_same _ _ _
theorem L_2637 (hI : Inv g u) : Nx g u (run M_L_law 2637 [vA s, vA 1, vA 249, vA 261, vI a, vN, vN, vN, vN] [] g u) (KL s a) := by
  have cc : absT u (1 + 26) = absM (u 250) := hI.c
  obtain ⟨v, u1, n1, e1, f1⟩ := TD_meanRegion (g := g) (u := u) (t := 1) hI.p (K_Rg hI.1)
  have fu1 := FqT.un f1
  have hI1 : Inv g u1 := Inv_un hI fu1 rfl
  obtain ⟨v', u2, n2, e2, f2⟩ := TM_meanRegion (g := g) (u := u1) (t := 249) (K_TM hI.1) hI1.m (K_ hI.1 _ (by decide) rfl)
  have cb : bdM (u1 (249 + 1)) = (absT u (1 + 26)).bd := by
    rw [cc]
    exact congrArg AS.bd (fu1.A (wf_n hI.w))
  rw [cb] at n2 e2
  have ev : v = v' := isNum_u n1 n2
  rw [← ev] at e2
  have fu2 := FqM.un f2
  have hq := f2d_mean hI.p.2.1 n1
  refine ⟨g, u2, Inv_un hI1 fu2 rfl, Gx0, rfl, fun k => (fu1.tr fu2) _ k (by unfold Un; omega), ?_⟩
  rw [R_L_law_2637, gd_O (K_TD hI.1).1, e1, cF_some, hq, cond_true, gd_O (K_TM hI.1).1, e2, cF_some, hq, cond_true]
  exact dd_same _ _ _
theorem L_2680 (hI : Inv g u) : Nx g u (run M_L_law 2680 [vA s, vA 1, vA 249, vA 261, vI a, vN, vN, vN, vN] [] g u) (KL s a) := by
  have cc : absT u (1 + 26) = absM (u 250) := hI.c
  obtain ⟨u1, e1, o1, b1, f1⟩ := TD_writeTrunk (g := g) (u := u) (t := 1) hI.p (by rw [cc]; exact hI.w.1.2.1) (K_ hI.1 _ (by decide) rfl)
  have s1 : u1 250 = u 250 := funext fun k => f1 _ k (by omega) (by omega)
  obtain ⟨u2, e2, o2, b2, -, f2⟩ := TM_writeTrunk (g := g) (u := u1) (t := 249) (K_TM hI.1) (by rw [s1]; exact hI.m) (K_ hI.1 _ (by decide) rfl)
  have cb : bdM (u1 (249 + 1)) = (absT u (1 + 26)).bd := by
    rw [cc]
    exact congrArg (fun m => bdM m) s1
  rw [cb] at e2 o2
  have f : ∀ (a : Nat) (k : Int), ¬ (a = 1 ∧ k = 11) → a ≠ 248 → ¬ (a = 249 ∧ (k = 7 ∨ k = 14)) → a ≠ 257 → u2 a k = u a k := fun a k z1 z2 z3 z4 => by rw [f2 a k z3 z4, f1 a k z1 z2]
  have q1 : oT u2 1 = oT u1 1 := lsO_eq (f2 1 11 (by omega) (by omega)) fun k => f2 _ k (by omega) (by omega)
  refine ⟨g, u2, ⟨hI.1, RO_eq (fun a k ha => f a k (by omega) (by omega) (by omega) (by omega)) hI.2.1, I_pres hI (fun a k b1 b2 => f a k (by omega) (by omega) (by omega) (by omega)) (fun k _ _ => f _ k (by omega) (by omega) (by omega) (by omega)), I_hist hI (fun a k b1 b2 => f a k (by omega) (by omega) (by omega) (by omega)) (f _ _ (by omega) (by omega) (by omega) (by omega)) (fun k => f _ k (by omega) (by omega) (by omega) (by omega)), I_save hI (fun a k b1 b2 => f a k (by omega) (by omega) (by omega) (by omega)) (fun k => f _ k (by omega) (by omega) (by omega) (by omega)) (fun k => f _ k (by omega) (by omega) (by omega) (by omega)), I_text hI (f _ _ (by omega) (by omega) (by omega) (by omega)) (fun k => f _ k (by omega) (by omega) (by omega) (by omega)) (f _ _ (by omega) (by omega) (by omega) (by omega)) (fun k => f _ k (by omega) (by omega) (by omega) (by omega)), ?_, ?_, ?_, b2⟩, Gx0, rfl, fun k => f _ k (by omega) (by omega) (by omega) (by omega), ?_⟩
  · rw [f 2 1 (by omega) (by omega) (by omega) (by omega), f 2 2 (by omega) (by omega) (by omega) (by omega), f 249 15 (by omega) (by omega) (by omega) (by omega), f 249 16 (by omega) (by omega) (by omega) (by omega)]
    exact hI.2.2.2.2.2.2.1
  · rw [q1, o1, o2]
  · rw [f2 1 11 (by omega) (by omega)]; exact b1
  · rw [R_L_law_2680, gd_O (K_TD hI.1).1, e1, cI_some, gd_O (K_TM hI.1).1, e2, cI_some, if_pos rfl]
theorem L_2693 (hI : Inv g u) (h0 : 0 ≤ a) (h1 : a + 6 ≤ (g.2.2 : Int)) (h2 : (g.2.2 : Int) < 2147483648) : Nx g u (run M_L_law 2693 [vA 100003, vA 1, vA 249, vA 261, vI a, vN, vN, vN, vN] [] g u) (KL 100003 a) := by
  rw [R_L_law_2693, w_id (x := a + 1) (by omega) (by omega), gd_S (by omega) (by omega)]
  obtain ⟨u1, f1, e1⟩ := TD_outputByte (g := g) (u := u) (t := 1) (K_TD hI.1) (K_ hI.1 _ (by decide) rfl) hI.2.2.2.2.2.2.2.2.1.2 (u 100003 (a + 1))
  rw [if_pos rfl] at e1
  have fu1 := FqT.un f1
  have hI1 : Inv g u1 := Inv_un hI fu1 rfl
  obtain ⟨u2, e2, -, f2⟩ := TM_outputByte (g := g) (u := u1) (t := 249) (K_TM hI.1) (K_ hI.1 _ (by decide) rfl) hI1.2.2.2.2.2.2.2.2.2 (u 100003 (a + 1))
  have fu2 := FqM.un f2
  have eo : oM u1 249 = oT u 1 := (fu1.oM).trans hI.2.2.2.2.2.2.2.1.symm
  rw [eo] at e2
  refine ⟨g, u2, Inv_un hI1 fu2 rfl, Gx0, rfl, fun k => (fu1.tr fu2) _ k (by unfold Un; omega), ?_⟩
  rw [gd_O (K_TD hI.1).1, e1, cI_some, gd_S (by omega) (by omega), gd_O (K_TM hI.1).1, fu1 100003 _ (by unfold Un; omega), e2, cI_some, if_pos rfl]
/-- a load, a play on both sides -/
theorem I_load {c1 : Option PO} {X : Except ER (Int × AS)} {val : Int × AS → Int} (hI : Inv g u) (hT : LdT g u 1 c1 X val) : ∃ u1 v, c1 = some (0, vI v, g, u1) ∧ (∀ k, u1 250 k = u 250 k) ∧ (∀ (a : Nat) (k : Int), 249 ≤ a → u1 a k = u a k) ∧ ∀ c2 : Option PO, LdM g u1 249 c2 X val → ∃ u2, c2 = some (0, vI v, g, u2) ∧ Inv g u2 ∧ ∀ k, u2 100003 k = u 100003 k := by
  obtain ⟨u1, f1, o1, l1, hh⟩ := hT
  have f1' : ∀ (a : Nat) (k : Int), 249 ≤ a → u1 a k = u a k := fun a k z => f1 a k (by omega) (by omega) (by omega)
  have s1 : u1 250 = u 250 := funext fun k => f1' _ k (by decide)
  have hm1 : hM u1 249 = hM u 249 := hM_fr (f1' _ _ (by decide)) (funext fun k => f1' _ k (by decide))
  have fin : ∀ u2 : PM, FlM 249 u1 u2 → rOk g u2 249 → u2 249 13 = 0 → (absT u1 27 = absM (u2 250) ∧ wf (absM (u2 250))) → (hT u1 61 = hM u2 249 ∧ ∀ A ∈ hM u2 249, wf A) → (u1 2 1 = u2 249 15 ∧ u1 2 2 = u2 249 16) → Inv g u2 := fun u2 f2 r2 q1 q2 q3 q4 => by
    have fc : ∀ (a : Nat) (k : Int), a < 249 → u2 a k = u1 a k := fun a k z => f2 a k (by omega) (by omega) (by omega) (by omega) (by omega) (by omega)
    refine ⟨hI.1, RO_eq (fun a k ha => by rw [f2 a k (by omega) (by omega) (by omega) (by omega) (by omega) (by omega), f1' a k (by omega)]) hI.2.1, ⟨by rw [absT_eq (u := u1) fun a k b1 b2 => fc a k (by omega)]; exact q2.1, q2.2⟩, ⟨?_, ?_, r2.2.2.1, by rw [hT_fr (u := u1) fun a k b1 b2 => fc a k (by omega)]; exact q3.1, q3.2⟩, I_save hI (fun a k b1 b2 => by rw [fc a k (by omega), f1 a k (by omega) (by omega) (by omega)]) (fun k => by rw [f2 _ k (by omega) (by omega) (by omega) (by omega) (by omega) (by omega), f1' _ k (by decide)]) (fun k => by rw [f2 _ k (by omega) (by omega) (by omega) (by omega) (by omega) (by omega), f1' _ k (by decide)]), ⟨fun _ => 0, 0, by rw [fc 2 0 (by decide)]; exact l1, ⟨by decide, by decide, fun k k0 k1 => by omega, fun k k0 k1 => by omega⟩, q1, by decide, by decide, fun k k0 k1 => by omega, fun k k0 k1 => by omega⟩, by rw [fc 2 1 (by decide), fc 2 2 (by decide)]; exact q4, I_out hI (by rw [fc _ _ (by decide), f1 _ _ (by omega) (by omega) (by omega)]) (fun k => by rw [fc _ _ (by decide), f1 _ _ (by omega) (by omega) (by omega)]) (by rw [f2 _ _ (by omega) (by omega) (by omega) (by omega) (by omega) (by omega), f1' _ _ (by decide)]) (fun k => by rw [f2 _ _ (by omega) (by omega) (by omega) (by omega) (by omega) (by omega), f1' _ _ (by decide)])⟩
    · rw [fc 61 0 (by decide)]; exact o1.2.2.2.1
    · rw [fc 61 1 (by decide)]; exact o1.2.2.2.2
  rcases hh with ⟨e, x1, x2, x3, x4, x5, x6⟩ | ⟨a, x1, xw, x2, x3, x4, x5, x6⟩
  · refine ⟨u1, -1, x2, fun k => congrFun s1 k, f1', fun c2 hc => ?_⟩
    obtain ⟨u2, f2, r2, q1, q2, ⟨e', y1, y2, y3, y4, y5, y6⟩ | ⟨a', y1, y2⟩⟩ := hc
    · rw [x1] at y1
      injection y1 with y1
      rw [← y1] at y3 y4
      have y5' : absM (u2 250) = absM (u 250) := y5.trans (congrArg absM s1)
      refine ⟨u2, y2, fin u2 f2 r2 q1 ⟨?_, by rw [y5']; exact hI.w⟩ ⟨?_, by rw [y6, hm1]; exact hI.2.2.2.1.2.2.2.2⟩ ⟨x3.trans y3.symm, x4.trans y4.symm⟩, fun k => by rw [f2 _ k (by omega) (by omega) (by omega) (by omega) (by omega) (by omega), f1' _ k (by decide)]⟩
      · rw [y5']; exact x5.trans hI.c
      · rw [y6, hm1]; exact x6.trans hI.2.2.2.1.2.2.2.1
    · rw [x1] at y1; cases y1
  · refine ⟨u1, val a, x2, fun k => congrFun s1 k, f1', fun c2 hc => ?_⟩
    obtain ⟨u2, f2, r2, q1, q2, ⟨e', y1, y2⟩ | ⟨a', y1, y2, y3, y4, y5, y6⟩⟩ := hc
    · rw [x1] at y1; cases y1
    · rw [x1] at y1
      injection y1 with y1
      rw [← y1] at y2 y5
      have hp : hM u2 249 = hPush (hM u 249) (absM (u 250)) := by rw [y6, hm1, show u1 (249 + 1) = u 250 from s1]
      refine ⟨u2, y2, fin u2 f2 r2 q1 ⟨x5.trans y5.symm, by rw [y5]; exact xw⟩ ⟨?_, ?_⟩ ⟨x3.trans y3.symm, x4.trans y4.symm⟩, fun k => by rw [f2 _ k (by omega) (by omega) (by omega) (by omega) (by omega) (by omega), f1' _ k (by decide)]⟩
      · rw [hp, ← hI.c, ← hI.2.2.2.1.2.2.2.1]; exact x6
      · rw [hp]
        intro A hA
        unfold hPush at hA
        rcases List.mem_append.mp hA with z | z
        · split at z
          · exact hI.2.2.2.1.2.2.2.2 A (List.mem_of_mem_tail z)
          · exact hI.2.2.2.1.2.2.2.2 A z
        · rw [List.mem_singleton.mp z]; exact hI.w
end
