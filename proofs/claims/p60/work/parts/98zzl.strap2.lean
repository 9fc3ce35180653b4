/-! ===== the strap that hinders most, both sides ===== -/
section
variable {g : PG} {u : PM} {t c f p1 : Nat} {s : Int} {p : Pos}
theorem max2_or (x y : Int) : (max2 x y = x ∧ y ≤ x) ∨ (max2 x y = y ∧ x < y) := by
  unfold max2
  split <;> omega
def Fcr (f c : Nat) (u u' : PM) : Prop := ∀ (a : Nat) (k : Int), ¬ (f ≤ a ∧ a ≤ f + 5) → a ≠ c + 1 → u' a k = u a k
theorem Cr_27 (hc : KA g c (1, 1, 0)) (hc1 : KA g (c + 1) (2, 0, 128)) (hq : QOk g u t f s p.1 p.2.1 p.2.2) (cf : c + 1 < f ∨ f + 5 < c) (hB : bOk (bdT u t)) (hcO : cOk (bdT u t)) (hm : bMis (bdT u t) s p.1 p.2.1 p.2.2 = 0) (a4 N : Int) (hN : 0 ≤ N ∧ N ≤ 1000000) (hu : ∀ k : Int, 0 ≤ k → k < 128 → 0 ≤ u (c + 1) k ∧ u (c + 1) k ≤ N) :
    ∃ u', run M_Cr_countShape 27 [vA c, vI s, vA t, vA f, vI a4, vI 0, vN, vN] [] g u = run M_Cr_countShape 8 [vA c, vI s, vA t, vA f, vI (w (a4 + 1)), vN, vN, vN] [] g u' ∧ (∀ k : Int, 0 ≤ k → k < 128 → u' (c + 1) k = u (c + 1) k + cvE s k p ∧ u' (c + 1) k ≤ N + 4) ∧ ∀ (a : Nat) (k : Int), a ≠ c + 1 → u' a k = u a k := by
  obtain ⟨hk, ho, hf, hA, hs, hr, hx, hy⟩ := hq
  have hl := (edg_bd hs.1 hs.2 hr.1 hr.2).1
  have key : ∀ n : Nat, n ≤ (edg s p.1).length → ∃ u', run M_Cr_countShape 27 [vA c, vI s, vA t, vA f, vI a4, vI 0, vN, vN] [] g u = run M_Cr_countShape 27 [vA c, vI s, vA t, vA f, vI a4, vI n, vN, vN] [] g u' ∧ (∀ k : Int, 0 ≤ k → k < 128 → u' (c + 1) k = u (c + 1) k + sumI (fun j => bI (eI p.2.1 p.2.2 ((edg s p.1).getD j.toNat (0, 0, 0)) = k)) n ∧ u' (c + 1) k ≤ N + n) ∧ ∀ (a : Nat) (k : Int), a ≠ c + 1 → u' a k = u a k := by
    intro n
    induction n with
    | zero =>
      intro _
      exact ⟨u, rfl, fun k k0 k1 => ⟨by simp [sumI], by have := hu k k0 k1; omega⟩, fun _ _ _ => rfl⟩
    | succ n ih =>
      intro hn
      obtain ⟨v, e1, v1, f1⟩ := ih (by omega)
      have hA1 : FpAt v f s p.1 p.2.1 p.2.2 := FpAt_eq (fun a k b1 b2 => f1 a k (by omega)) hA
      have hn5 : v f 5 = (edg s p.1).length := hA1.1.2.2.2.1
      obtain ⟨q1, q2, q3⟩ := Fp_edge (g := g) (i := n) hf hA1 hx hy hs hr (by omega) (by omega)
      obtain ⟨z1, z2, z3, z4, z5⟩ := edge_in hB hcO hs hr hm (getD_mem (s := s) (r := p.1) (j := n) (by omega))
      rw [Int.toNat_natCast] at q1 q2 q3
      obtain ⟨e, he⟩ : ∃ e, e = (edg s p.1).getD n (0, 0, 0) := ⟨_, rfl⟩
      rw [← he] at q1 q2 q3 z1 z2 z3 z4 z5
      have hin := bIn_of z1
      have c1 := hB.1.2
      have c2 := hB.2.1.2
      have hX : 0 ≤ p.2.1 + e.1 ∧ p.2.1 + e.1 < 8 := by have := hin.1; omega
      have hY : 0 ≤ p.2.2 + e.2.1 ∧ p.2.2 + e.2.1 < 8 := by have := hin.2; omega
      obtain ⟨i, hi⟩ : ∃ i, i = eI p.2.1 p.2.2 e := ⟨_, rfl⟩
      have hib : 0 ≤ i ∧ i < 128 := by rw [hi]; unfold eI; omega
      have hvi := v1 i hib.1 hib.2
      have hui := hu i hib.1 hib.2
      have hsn := sumI_bd (f := fun j => bI (eI p.2.1 p.2.2 ((edg s p.1).getD j.toNat (0, 0, 0)) = i)) (n := n) (b := 1) fun i _ _ => bI_bd _
      refine ⟨up v (c + 1) i (v (c + 1) i + 1), ?_, fun k k0 k1 => ?_, fun a k h => by rw [up_o h, f1 a k h]⟩
      · rw [e1, R_Cr_countShape_27]
        simp only [gd_O hf.1, gd_O hc]
        rw [if_pos (by omega), q1, cI_some, q2, cI_some, q3, cI_some, C_Cr_countEdge, w8s hX.1 hX.2 hY.1 hY.2 (by omega) (by omega), show 2 * (8 * (p.2.2 + e.2.1) + (p.2.1 + e.1)) + e.2.2 = i from hi.symm, if_neg (by omega), if_pos (by omega)]
        simp only [gd_O hf.1, gd_O hc, gd_R hc1 hib.1 hib.2, gd_W hc1 hib.1 hib.2, cV_some]
        rw [w_id (x := v (c + 1) i + 1) (by omega) (by omega), w_id (x := (n : Int) + 1) (by omega) (by omega), show ((n + 1 : Nat) : Int) = (n : Int) + 1 by omega]
      · have hv := v1 k k0 k1
        simp only [sumI]
        rw [Int.toNat_natCast, ← he]
        by_cases q : k = i
        · rw [q, up_s, bI_t hi.symm]
          rw [q] at hv
          omega
        · rw [up_j q, bI_f (p := eI p.2.1 p.2.2 e = k) (fun z => q (by rw [hi, z]))]
          omega
  obtain ⟨v, e1, v1, f1⟩ := key (edg s p.1).length (Nat.le_refl _)
  have hA1 : FpAt v f s p.1 p.2.1 p.2.2 := FpAt_eq (fun a k b1 b2 => f1 a k (by omega)) hA
  have hn5 : v f 5 = (edg s p.1).length := hA1.1.2.2.2.1
  refine ⟨v, ?_, fun k k0 k1 => ⟨(v1 k k0 k1).1, by have := (v1 k k0 k1).2; omega⟩, f1⟩
  rw [e1, R_Cr_countShape_27, gd_O hf.1, if_neg (by omega)]
theorem fN_mis {B : Bd} {s : Int} : ∀ {d : Nat} {p q : Pos}, fN B s d p = some q → bMis B s q.1 q.2.1 q.2.2 = 0
  | 0, _, _, h => by cases h
  | d + 1, p, q, h => by
    unfold fN at h
    cases hn : nextP B.1 B.2.1 p with
    | none => rw [hn] at h; cases h
    | some x =>
      rw [hn] at h
      change (if bMis B s x.1 x.2.1 x.2.2 = 0 then some x else fN B s d x) = some q at h
      by_cases c1 : bMis B s x.1 x.2.1 x.2.2 = 0
      · rw [if_pos c1] at h
        obtain rfl := Option.some.inj h
        exact c1
      · rw [if_neg c1] at h
        exact fN_mis h
theorem Cr_countShape (hc : KA g c (1, 1, 0)) (hc1 : KA g (c + 1) (2, 0, 128)) (hq : QS g u t f s) (cf : c + 1 < f ∨ f + 5 < c) (ct : c + 1 < t ∨ t + 2 < c) (cR : c + 1 < 100000) (hcO : cOk (bdT u t)) (hB : bOk (bdT u t)) (N : Int) (hN : 0 ≤ N ∧ N ≤ 10000) (hu : ∀ k : Int, 0 ≤ k → k < 128 → 0 ≤ u (c + 1) k ∧ u (c + 1) k ≤ N) :
    ∃ u', call M_Cr_countShape [vA c, vI s, vA t, vA f] g u = some (0, vN, g, u') ∧ (∀ k : Int, 0 ≤ k → k < 128 → u' (c + 1) k = u (c + 1) k + sumL (cvE s k) (fL (bdT u t) s 256 (0, -1, 0)) ∧ u' (c + 1) k ≤ N + 1024) ∧ Fcr f c u u' := by
  have key : ∀ (d : Nat) (i N : Int) (u : PM) (p : Pos), 0 ≤ i → i + d = 256 → (0 ≤ N ∧ N + 4 * d ≤ 100000) → QS g u t f s → cOk (bdT u t) → bOk (bdT u t) → FpA u f s p → pOk p → (∀ k : Int, 0 ≤ k → k < 128 → 0 ≤ u (c + 1) k ∧ u (c + 1) k ≤ N) → ∃ u', run M_Cr_countShape 8 [vA c, vI s, vA t, vA f, vI i, vN, vN, vN] [] g u = some (0, vN, g, u') ∧ (∀ k : Int, 0 ≤ k → k < 128 → u' (c + 1) k = u (c + 1) k + sumL (cvE s k) (fL (bdT u t) s d p) ∧ u' (c + 1) k ≤ N + 4 * d) ∧ Fcr f c u u' := by
    intro d
    induction d with
    | zero =>
      intro i N u p h0 h1 hN hq hcO hB hA hp hu
      refine ⟨u, ?_, fun k k0 k1 => ⟨by simp [fL, sumL], by have := hu k k0 k1; omega⟩, fun _ _ _ _ => rfl⟩
      rw [R_Cr_countShape_8, if_neg (by omega)]
    | succ d ih =>
      intro i N u p h0 h1 hN hq hcO hB hA hp hu
      obtain ⟨u1, e1, f1, n1⟩ := Tk_findNext hq hA hp
      obtain ⟨hq1, hb1⟩ := hq.fr f1
      have uc : ∀ k, u1 (c + 1) k = u (c + 1) k := fun k => f1 (c + 1) k (by omega)
      rw [R_Cr_countShape_8, if_pos (by omega), gd_O hq.1.1, e1, cI_some]
      unfold fL
      cases hn : fN (bdT u t) s 256 p with
      | none =>
        refine ⟨u1, by simp [bI], fun k k0 k1 => ⟨by simp [sumL, uc], by rw [uc]; have := hu k k0 k1; omega⟩, fun a k z1 z2 => f1 a k z1⟩
      | some q =>
        obtain ⟨hA1, hp1⟩ := n1 q hn
        have hm := fN_mis hn
        obtain ⟨u2, e2, c2, f2⟩ := Cr_27 (g := g) (u := u1) (p := q) hc hc1 (hq1.ok hA1 hp1) cf (by rw [hb1]; exact hB) (by rw [hb1]; exact hcO) (by rw [hb1]; exact hm) i N ⟨hN.1, by omega⟩ (fun k k0 k1 => by rw [uc]; exact hu k k0 k1)
        have ft2 : ∀ (a : Nat) (k : Int), t ≤ a → a ≤ t + 2 → u2 a k = u1 a k := fun a k h1 h2 => f2 a k (by omega)
        have hb2 : bdT u2 t = bdT u t := (bdT_eq ft2).trans hb1
        obtain ⟨a1, a2, a3, a4, a5, a6, a7⟩ := hq1
        have hq2 : QS g u2 t f s := ⟨a1, a2, a3, a4, a5, tOk_eq ft2 a6, RO_eq (fun a k ha => f2 a k (by omega)) a7⟩
        obtain ⟨u3, e3, c3, f3⟩ := ih (i + 1) (N + 4) u2 q (by omega) (by omega) ⟨by omega, by omega⟩ hq2 (by rw [hb2]; exact hcO) (by rw [hb2]; exact hB) (FpA_eq (fun a k h1 h2 => f2 a k (by omega)) hA1) hp1 (fun k k0 k1 => by
          have z := c2 k k0 k1
          have z2 := hu k k0 k1
          have z3 := cvE_nn s k q
          rw [uc] at z
          omega)
        refine ⟨u3, ?_, fun k k0 k1 => ?_, fun a k z1 z2 => by rw [f3 a k z1 z2, f2 a k z2, f1 a k z1]⟩
        · rw [bI_t (p := (some q).isSome = true) rfl, if_neg (by decide), e2, w_id (x := i + 1) (by omega) (by omega), e3]
        · have y1 := c3 k k0 k1
          have y2 := c2 k k0 k1
          rw [hb2] at y1
          rw [uc] at y2
          simp only [sumL]
          omega
  obtain ⟨u1, e1, a1, f1⟩ := Fp_startAll (u := u) hq.2.1 hq.2.2.2.2.2.2 hq.2.2.2.2.1.1 hq.2.2.2.2.1.2
  obtain ⟨hq1, hb1⟩ := hq.fr f1
  have uc : ∀ k, u1 (c + 1) k = u (c + 1) k := fun k => f1 (c + 1) k (by omega)
  obtain ⟨u2, e2, c2, f2⟩ := key 256 0 N u1 _ (by decide) (by decide) ⟨hN.1, by omega⟩ hq1 (by rw [hb1]; exact hcO) (by rw [hb1]; exact hB) a1 ⟨⟨by simp only; omega, by simp only; omega⟩, ⟨by simp only; omega, by simp only; omega⟩, by simp only; omega, by simp only; omega⟩ (fun k k0 k1 => by rw [uc]; exact hu k k0 k1)
  refine ⟨u2, ?_, fun k k0 k1 => ?_, fun a k z1 z2 => by rw [f2 a k z1 z2, f1 a k z1]⟩
  · rw [C_Cr_countShape, gd_O hq.2.1.1, e1, cV_some, e2]
  · have z := c2 k k0 k1
    rw [hb1, uc] at z
    exact ⟨z.1, by omega⟩
theorem Cr_mostFor (hc : KA g c (1, 1, 0)) (hc1 : KA g (c + 1) (2, 0, 128)) (hk : kTk g t) (hf : kFp g f) (hp : kPl g p1) (tf : t + 2 < f ∨ f + 5 < t) (pf : p1 + 2 < f ∨ f + 5 < p1) (tR : t + 2 < 100000) (cf : c + 1 < f ∨ f + 5 < c) (ct : c + 1 < t ∨ t + 2 < c) (cp : c + 1 < p1 ∨ p1 + 2 < c) (cR : c + 1 < 100000) (hcO : cOk (bdT u t)) (hB : bOk (bdT u t)) (hR : RO u) :
    ∃ u' v, call M_Cr_mostFor [vA c, vA p1, vA t, vA f] g u = some (0, vI v, g, u') ∧ (0 ≤ v ∧ (∀ k : Int, 0 ≤ k → k < 128 → xT (bdT u t) (plT u p1).2.2.2.1 k ≤ v) ∧ (v = 0 ∨ ∃ k : Int, (0 ≤ k ∧ k < 128) ∧ xT (bdT u t) (plT u p1).2.2.2.1 k = v)) ∧ Fcr f c u u' := by
  have hflt := kFp_lt hf
  have init : ∀ (d : Nat) (i : Int) (v : PM), 0 ≤ i → i + d = 128 → (∀ k : Int, 0 ≤ k → k < i → v (c + 1) k = 0) → ∃ v', run M_Cr_mostFor 3 [vA c, vA p1, vA t, vA f, vI i, vN] [] g v = run M_Cr_mostFor 28 [vA c, vA p1, vA t, vA f, vI 0, vN] [] g v' ∧ (∀ k : Int, 0 ≤ k → k < 128 → v' (c + 1) k = 0) ∧ ∀ (a : Nat) (k : Int), a ≠ c + 1 → v' a k = v a k := by
    intro d
    induction d with
    | zero =>
      intro i v i0 i1 hv
      refine ⟨v, ?_, fun k k0 k1 => hv k k0 (by omega), fun _ _ _ => rfl⟩
      rw [R_Cr_mostFor_3, if_neg (by omega)]
    | succ d ih =>
      intro i v i0 i1 hv
      obtain ⟨v', e1, q1, f1⟩ := ih (i + 1) (up v (c + 1) i 0) (by omega) (by omega) (fun k k0 k1 => by
        by_cases e : k = i
        · rw [e, up_s]
        · rw [up_j e]; exact hv k k0 (by omega))
      refine ⟨v', ?_, q1, fun a k n => by rw [f1 a k n, up_o n]⟩
      rw [R_Cr_mostFor_3, if_pos (by omega), gd_O hc, gd_W hc1 i0 (by omega), w_id (x := i + 1) (by omega) (by omega), e1]
  obtain ⟨v0, e0, z0, f0⟩ := init 128 0 u (by decide) (by decide) (fun k k0 k1 => by omega)
  have fr : ∀ x : PM, Fcr f c u x → bdT x t = bdT u t ∧ plT x p1 = plT u p1 ∧ RO x := fun x hx => ⟨bdT_eq fun a k h1 h2 => hx a k (by omega) (by omega), plT_o fun a k h1 h2 => hx a k (by omega) (by omega), RO_eq (fun a k ha => hx a k (by omega) (by omega)) hR⟩
  have shapes : ∀ d : Nat, d ≤ 5 → ∃ v, run M_Cr_mostFor 28 [vA c, vA p1, vA t, vA f, vI 0, vN] [] g v0 = run M_Cr_mostFor 28 [vA c, vA p1, vA t, vA f, vI d, vN] [] g v ∧ (∀ k : Int, 0 ≤ k → k < 128 → v (c + 1) k = sumI (fun s => if 0 < (plT u p1).2.2.2.1 s then xS (bdT u t) s k else 0) d ∧ v (c + 1) k ≤ 1024 * d) ∧ Fcr f c u v := by
    intro d
    induction d with
    | zero =>
      intro _
      exact ⟨v0, rfl, fun k k0 k1 => ⟨z0 k k0 k1, by rw [z0 k k0 k1]; decide⟩, fun a k _ h2 => f0 a k h2⟩
    | succ d ih =>
      intro hd
      obtain ⟨v, e1, c1, f1⟩ := ih (by omega)
      obtain ⟨hb, hpl, hRv⟩ := fr v f1
      have wd : w ((d : Int) + 1) = ((d + 1 : Nat) : Int) := by rw [w_id (by omega) (by omega)]; omega
      have st : ∃ v', run M_Cr_mostFor 28 [vA c, vA p1, vA t, vA f, vI d, vN] [] g v = run M_Cr_mostFor 28 [vA c, vA p1, vA t, vA f, vI ((d + 1 : Nat) : Int), vN] [] g v' ∧ (∀ k : Int, 0 ≤ k → k < 128 → v' (c + 1) k = v (c + 1) k + (if 0 < (plT u p1).2.2.2.1 d then xS (bdT u t) d k else 0) ∧ v' (c + 1) k ≤ 1024 * (d + 1 : Nat)) ∧ Fcr f c v v' := by
        rw [R_Cr_mostFor_28, if_pos (by omega), gd_O hp.1, Pl_supplyOf hp, cI_some, wd, hpl]
        by_cases q : 0 < (plT u p1).2.2.2.1 d
        · have hq : QS g v t f d := ⟨hk, hf, tf, tR, by omega, tOk_of (by rw [hb]; exact hB), hRv⟩
          obtain ⟨v', e2, c2, f2⟩ := Cr_countShape (g := g) (u := v) hc hc1 hq cf ct cR (by rw [hb]; exact hcO) (by rw [hb]; exact hB) (1024 * d) ⟨by omega, by omega⟩ (fun k k0 k1 => by
            have z := c1 k k0 k1
            have nn := sumI_bd (f := fun s => if 0 < (plT u p1).2.2.2.1 s then xS (bdT u t) s k else 0) (n := d) (b := 0) 
            have : 0 ≤ sumI (fun s => if 0 < (plT u p1).2.2.2.1 s then xS (bdT u t) s k else 0) d := by
              have := sumI_le (f := fun _ => 0) (f' := fun s => if 0 < (plT u p1).2.2.2.1 s then xS (bdT u t) s k else 0) (n := d) fun i _ _ => by
                have := xS_nn (bdT u t) i k
                split <;> omega
              rw [sumI_0] at this
              exact this
            omega)
          refine ⟨v', ?_, fun k k0 k1 => ?_, f2⟩
          · rw [if_pos q, gd_O hc, e2, cV_some]
          · have z := c2 k k0 k1
            rw [hb, fL_all hB (by omega) (by omega)] at z
            rw [if_pos q]
            exact ⟨z.1, by omega⟩
        · refine ⟨v, ?_, fun k k0 k1 => ?_, fun _ _ _ _ => rfl⟩
          · rw [if_neg q]
          · rw [if_neg q]
            have z := c1 k k0 k1
            omega
      obtain ⟨v', e2, c2, f2⟩ := st
      refine ⟨v', e1.trans e2, fun k k0 k1 => ?_, fun a k n1 n2 => (f2 a k n1 n2).trans (f1 a k n1 n2)⟩
      have z := c2 k k0 k1
      have y := c1 k k0 k1
      simp only [sumI]
      omega
  obtain ⟨v, e1, c1, f1⟩ := shapes 5 (by decide)
  have most : ∀ (d : Nat) (i m : Int), 0 ≤ i → i + d = 128 → (0 ≤ m ∧ (∀ k : Int, 0 ≤ k → k < i → v (c + 1) k ≤ m) ∧ (m = 0 ∨ ∃ k : Int, (0 ≤ k ∧ k < 128) ∧ v (c + 1) k = m)) → ∃ m', run M_Cr_mostFor 63 [vA c, vA p1, vA t, vA f, vI m, vI i] [] g v = some (0, vI m', g, v) ∧ (0 ≤ m' ∧ (∀ k : Int, 0 ≤ k → k < 128 → v (c + 1) k ≤ m') ∧ (m' = 0 ∨ ∃ k : Int, (0 ≤ k ∧ k < 128) ∧ v (c + 1) k = m')) := by
    intro d
    induction d with
    | zero =>
      intro i m i0 i1 hm
      refine ⟨m, ?_, hm.1, fun k k0 k1 => hm.2.1 k k0 (by omega), hm.2.2⟩
      rw [R_Cr_mostFor_63, if_neg (by omega)]
    | succ d ih =>
      intro i m i0 i1 hm
      have hx := max2_or m (v (c + 1) i)
      obtain ⟨m', e2, h2⟩ := ih (i + 1) (max2 m (v (c + 1) i)) (by omega) (by omega) ⟨by have := hm.1; omega, fun k k0 k1 => by
        by_cases q : k < i
        · have := hm.2.1 k k0 q
          omega
        · obtain rfl : k = i := by omega
          omega, by
        rcases hx with ⟨q1, q2⟩ | ⟨q1, q2⟩
        · rw [q1]; exact hm.2.2
        · rw [q1]; exact Or.inr ⟨i, by omega, rfl⟩⟩
      refine ⟨m', ?_, h2⟩
      rw [R_Cr_mostFor_63, if_pos (by omega), gd_O hc, gd_R hc1 i0 (by omega), w_id (x := i + 1) (by omega) (by omega), e2]
  obtain ⟨m', e2, m0, m1, m2⟩ := most 128 0 0 (by decide) (by decide) ⟨by decide, fun k k0 k1 => by omega, Or.inl rfl⟩
  refine ⟨v, m', ?_, ⟨m0, fun k k0 k1 => ?_, ?_⟩, f1⟩
  · rw [C_Cr_mostFor, e0, e1, R_Cr_mostFor_28, if_neg (by decide), e2]
  · have := m1 k k0 k1
    rw [(c1 k k0 k1).1] at this
    exact this
  · rcases m2 with q | ⟨k, hk2, q⟩
    · exact Or.inl q
    · refine Or.inr ⟨k, hk2, ?_⟩
      rw [(c1 k hk2.1 hk2.2).1] at q
      exact q
theorem TD_bestStrapEffect (h : pOk2 g u t) (hc : KA g (t + 241) (1, 1, 0)) (hc1 : KA g (t + 241 + 1) (2, 0, 128)) (hcO : cOk (absT u (t + 26)).bd) (hmv : (absT u (t + 26)).mv = 0 ∨ (absT u (t + 26)).mv = 1) (hst : 0 ≤ (aPl (absT u (t + 26)) (absT u (t + 26)).mv).2.1) : ∃ v, (if 2 ≤ (absT u (t + 26)).ps then v = -1 else isEf (absT u (t + 26)) v) ∧ AqT g u t (call M_TD_bestStrapEffect [vA t] g u) 0 v := by
  have hlt := h.1.2.2.2
  have ep : plT u (pAd (t + 26) (u (t + 26) 4)) = aPl (absT u (t + 26)) (absT u (t + 26)).mv := (aPl_T u (t + 26) _).symm
  have es : u (pAd (t + 26) (u (t + 26) 4)) 1 = (aPl (absT u (t + 26)) (absT u (t + 26)).mv).2.1 := by rw [← ep]; rfl
  have hmv' : u (t + 26) 4 = 0 ∨ u (t + 26) 4 = 1 := hmv
  have hhd : call M_TD_bestStrapEffect [vA t] g u = if 2 ≤ u (t + 26) 5 then some (0, vI (-1), g, u) else if (aPl (absT u (t + 26)) (absT u (t + 26)).mv).2.1 = 0 then some (0, vI 0, g, u) else cI (call M_Cr_mostFor [vA (t + 241), vA (pAd (t + 26) (1 - u (t + 26) 4)), vA (t + 26 + 1), vA (t + 234)] g u) (fun (x12 : Int) (g10 : PG) (u11 : PM) => some (0, vI x12, g10, u11)) noX := by
    rw [C_TD_bestStrapEffect]
    simp only [gd_O h.1.1, gd_O h.1.2.1.1, St_isFinished h.1.2.1, St_playerOf h.1.2.1, cI_some, cR_some, gd_O (kPl_pAd h.1.2.1 _).1, gd_O hc]
    rw [es, w_id (x := 1 - u (t + 26) 4) (by omega) (by omega)]
    by_cases h2 : 2 ≤ u (t + 26) 5
    · rw [bI_t h2, if_neg (by decide), if_pos h2]
    · rw [bI_f h2, if_pos rfl, if_neg h2]
  rw [hhd]
  by_cases h2 : 2 ≤ u (t + 26) 5
  · rw [if_pos h2]
    refine ⟨-1, ?_, u, fun _ _ _ _ => rfl, rfl⟩
    rw [if_pos (show 2 ≤ (absT u (t + 26)).ps from h2)]
  · rw [if_neg h2]
    have h2' : ¬ 2 ≤ (absT u (t + 26)).ps := h2
    by_cases h3 : (aPl (absT u (t + 26)) (absT u (t + 26)).mv).2.1 = 0
    · rw [if_pos h3]
      refine ⟨0, ?_, u, fun _ _ _ _ => rfl, rfl⟩
      rw [if_neg h2']
      exact ⟨by decide, fun x y s _ _ hm => by have := hm.2.1; omega, Or.inl rfl⟩
    · rw [if_neg h3]
      have h9 : t + 241 + 1 < 100000 := Nat.le_of_ble_eq_true hc1.1
      have hpa : t + 26 + 11 ≤ pAd (t + 26) (1 - u (t + 26) 4) ∧ pAd (t + 26) (1 - u (t + 26) 4) ≤ t + 26 + 14 := by unfold pAd; split <;> omega
      obtain ⟨u', v, e1, ⟨v0, v1, v2⟩, f1⟩ := Cr_mostFor (g := g) (u := u) (c := t + 241) (p1 := pAd (t + 26) (1 - u (t + 26) 4)) (t := t + 26 + 1) (f := t + 234) hc hc1 h.1.2.1.2.1 h.1.2.2.1 (kPl_pAd h.1.2.1 _) (by omega) (by omega) (by omega) (by omega) (by omega) (by omega) h9 hcO h.2.1 h.2.2.2
      have ep2 : plT u (pAd (t + 26) (1 - u (t + 26) 4)) = aPl (absT u (t + 26)) (1 - (absT u (t + 26)).mv) := (aPl_T u (t + 26) _).symm
      rw [ep2] at v1 v2
      refine ⟨v, ?_, u', fun a k n1 n2 => f1 a k (by omega) (by omega), ?_⟩
      · rw [if_neg h2']
        refine ⟨v0, fun x y s hs hE hm => ?_, ?_⟩
        · have hin := hE.1
          have c1 := h.2.1.1.2
          have c2 := h.2.1.2.1.2
          have a1 : x < (absT u (t + 26)).bd.1 := hin.1.2
          have a2 : y < (absT u (t + 26)).bd.2.1 := hin.2.2
          have a3 := hin.1.1
          have a4 := hin.2.1
          exact v1 _ (by omega) (by omega)
        · by_cases q : v = 0
          · exact Or.inl q
          · rcases v2 with z | ⟨k, hk2, z⟩
            · exact Or.inl z
            · have hpos : 0 < xT (absT u (t + 26)).bd (aPl (absT u (t + 26)) (1 - (absT u (t + 26)).mv)).2.2.2.1 k := by
                change xT (absT u (t + 26)).bd (aPl (absT u (t + 26)) (1 - (absT u (t + 26)).mv)).2.2.2.1 k = v at z
                omega
              obtain ⟨x, y, s, e, hs, hE, y1, y2, y3⟩ := xT_pos h.2.1 hcO hpos
              refine Or.inr ⟨x, y, s, hs, hE, ⟨h2', by omega, y3, ?_, ?_⟩, by rw [← e]; exact z⟩
              · rw [y1, y2]; omega
              · rw [y1]; omega
      · rw [e1, cI_some]
        rfl
end
