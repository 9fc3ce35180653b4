/-! ===== p60: the law from its drawn text on ===== -/
theorem bCv_0 {B : Bd} (h : ∀ x z : Int, bIn B x z → bCell B x z < 0) : bCv B = 0 := by
  unfold bCv
  rw [sumI_congr (f' := fun _ => 0) fun y y0 y1 => by
    rw [sumI_congr (f' := fun _ => 0) fun x x0 x1 => bI_f (by have := h x y (by unfold bIn; omega); omega)]
    exact sumI_0 _]
  exact sumI_0 _
theorem wfX_0 {A : AS} (h : wf A) (hE : stE A.bd) (hc : ∀ x z : Int, bIn A.bd x z → bCell A.bd x z < 0) (hn : A.n = 0) (h0 : A.p0.1 = 0) (h1 : A.p1.1 = 0) : wfX A := by
  refine ⟨h, hE, ?_, fun k k0 k1 => by rw [hn] at k1; omega, ?_, by rw [h0]; decide, by rw [h1]; decide⟩
  · rw [bCv_0 hc, hn]; rfl
  · rw [hn, h0, h1]; rfl
section
variable {g : PG} {u : PM} {N : Nat}
/-- what the drawn text leaves -/
theorem wfX_text {A : AS} {c r y : Nat} (hc : 3 ≤ c) (hr : 3 ≤ r) (h : wf A) (hA : twOk c r (A.1, 0, fun _ _ => 0, pZ, pZ, 0, 0) y) (hn : A.2.1 = 0) (h0 : A.p0.1 = 0) (h1 : A.p1.1 = 0) : wfX A := by
  obtain ⟨a1, a2, a3, a4, -, -⟩ := hA
  have b1 : A.bd.1 = c := a1
  have b2 : A.bd.2.1 = r := a2
  exact wfX_0 h ⟨⟨by omega, by omega⟩, fun k _ _ q => absurd (a3 k) q⟩ (fun x z _ => a4 x z) hn h0 h1
theorem law_222 {k K c r : Nat} {A0 : AS} {bl : List (Nat × Nat)} {l0 l1 : List Nat} (hg : 249 ≤ g.1) (hk : g.2.1 ≤ k) (hK : k + 3200 ≤ K) (hR : RO u) (hA : absT u 27 = A0) (w0 : wfX A0) (hh : (0 ≤ u 61 0 ∧ u 61 0 ≤ 8) ∧ (0 ≤ u 61 1 ∧ u 61 1 < 8) ∧ hT u 61 = []) (hd : inR (u 0 0)) (hb0 : 0 ≤ u 2 0)
    (hc : 3 ≤ c ∧ c ≤ 8) (hr : 3 ≤ r ∧ r ≤ 8) (hb : blOk c r 0 bl) (e0 : l0.length = 6) (e1 : l1.length = 6) (v0 : ∀ v ∈ l0, v ≤ 9) (v1 : ∀ v ∈ l1, v ≤ 9) (hl : bl.length ≤ 8) (hN : g.2.2 / 1000 = 52 + 10 * bl.length) (ht : tAt (fun k => u 100004 k) 0 (twA c r bl l0 l1)) (hB : ∀ k : Int, 0 ≤ k → k < ((52 + 10 * bl.length : Nat) : Int) → 0 ≤ u 100004 k ∧ u 100004 k ≤ 255) {a4 a5 : Int} :
    PL K (run M_L_law 222 [vA 100003, vI 0, vA 0, vA 1, vI a4, vI a5, vN, vN, vN, vN, vN, vN, vN] [vA 100004, vA 1] g u) := by
  have S0 : St (A0, [], u 0 0, g.2.2) k g u := ⟨hg, rfl, hk, ⟨w0, fun A hA => absurd hA List.not_mem_nil, hd⟩, hR, hA, hh, rfl⟩
  obtain ⟨u1, q1, n1, t1, f1⟩ := L_write (g := g) (u := u) (N := 52 + 10 * bl.length) S0.t.1 (K_Rd hg) hN (by omega) hb0 hB
  have S1 : St (A0, [], u 0 0, g.2.2) k g u1 := by
    refine ⟨hg, rfl, hk, S0.2.2.2.1, RO_eq (fun a k ha => f1 a k (by omega) (by omega)) hR, ?_, ⟨?_, ?_, ?_⟩, ?_⟩
    · rw [absT_eq fun a k c1 c2 => f1 a k (by omega) (by omega)]; exact hA
    · rw [f1 61 0 (by omega) (by omega)]; exact hh.1
    · rw [f1 61 1 (by omega) (by omega)]; exact hh.2.1
    · rw [hT_fr fun a k c1 c2 => f1 a k (by omega) (by omega)]; exact hh.2.2
    · exact f1 0 0 (by omega) (by omega)
  obtain ⟨A, y, x1, x2, x3, x4, x5, x6⟩ := x_text (b := chr u (52 + 10 * bl.length)) hc hr hb e0 e1 v0 v1 hl (by
    have tl := twA_len (c := c) (r := r) (bl := bl) e0 e1
    have key : ∀ (l : List Nat) (p : Int), p + l.length ≤ ((52 + 10 * bl.length : Nat) : Int) → tAt (fun k => u 100004 k) p l → tAt (chr u (52 + 10 * bl.length)) p l := by
      intro l
      induction l with
      | nil => intro p _ _; trivial
      | cons x l ih =>
        intro p hp h
        simp only [List.length_cons] at hp
        refine ⟨?_, ih (p + 1) (by omega) h.2⟩
        unfold chr
        rw [if_pos (by omega)]
        exact h.1
    exact key _ 0 (by rw [tl]; omega) ht)
  obtain ⟨u2, F, o2, r2, lo⟩ := TD_load (g := g) (u := u1) (t := 1) (n := ((52 + 10 * bl.length : Nat) : Int)) S1.p (K_Rd hg) S1.h n1 t1
  have xc : (52 + 10 * (bl.length : Int)) = ((52 + 10 * bl.length : Nat) : Int) := by omega
  rw [xc] at x1
  rcases lo with ⟨e, z, -⟩ | ⟨a, z, wa, q2, -, -, d1, d2⟩
  · rw [x1] at z; cases z
  · rw [x1] at z
    cases z
    have wA : wfX A := wfX_text hc.1 hr.1 wa x2 x3 x5 x6
    have S2 : St (A, hPush [] A0, u 0 0, g.2.2) k g u2 := by
      refine ⟨hg, rfl, hk, ⟨wA, fun B hB => ?_, hd⟩, RO_eq (fun a k ha => F a k (by omega) (by omega) (by omega)) S1.2.2.2.2.1, d1, ⟨o2.2.2.2.1, o2.2.2.2.2, ?_⟩, ?_⟩
      · have : B = A0 := List.mem_singleton.mp hB
        rw [this]; exact w0
      · rw [d2, S1.l, S1.a]
      · rw [F 0 0 (by omega) (by omega) (by omega)]; exact S1.2.2.2.2.2.2.2
    rw [R_L_law_222, q1, cI_some, if_neg (by decide)]
    refine S1.td (P := PL K) ?_
    rw [q2, cI_some]
    have cb := bCnt_bd (B := A.bd) wA.1.1.1.1 wA.1.1.1.2.1 (-1)
    rw [if_neg (Int.not_lt.mpr cb.1)]
    refine S2.td (P := PL K) ((d_playerToMove S2).go (P := PL K) fun g3 u3 h3 => ite_t (P := PL K) ?_ ?_)
    · show (if 2 ≤ A.2.2.2.2.2.2 then (-1 : Int) else A.2.2.2.2.2.1) = 0
      rw [x4]
      rfl
    · exact law_247 22 0 _ k g3 u3 (by decide) (by decide) h3 (by omega)
end
