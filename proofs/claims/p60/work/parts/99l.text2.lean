/-! ===== p60: the players of the drawn text; the whole text ===== -/
/-- kept while supplies are read -/
def twK (A A' : AS) : Prop := A'.1 = A.1 ∧ A'.2.1 = A.2.1 ∧ A'.2.2.1 = A.2.2.1 ∧ A'.2.2.2.2.2 = A.2.2.2.2.2 ∧ A'.p0.1 = A.p0.1 ∧ A'.p1.1 = A.p1.1 ∧ A'.p0.2.2.1 = A.p0.2.2.1 ∧ A'.p0.2.2.2.2 = A.p0.2.2.2.2
theorem twK.tr {A A' A'' : AS} (h : twK A A') (h' : twK A' A'') : twK A A'' := by
  obtain ⟨a1, a2, a3, a4, a5, a6, a7, a8⟩ := h
  obtain ⟨b1, b2, b3, b4, b5, b6, b7, b8⟩ := h'
  exact ⟨b1.trans a1, b2.trans a2, b3.trans a3, b4.trans a4, b5.trans a5, b6.trans a6, b7.trans a7, b8.trans a8⟩
theorem twK_su (A : AS) (pl k v : Int) : twK A (aSetPl A pl (psSu (aPl A pl) k v)) := by
  by_cases c : pl = 0
  · subst c; exact ⟨rfl, rfl, rfl, rfl, rfl, rfl, rfl, rfl⟩
  · unfold aSetPl aPl
    rw [if_neg c]
    simp only [if_neg c]
    exact ⟨rfl, rfl, rfl, rfl, rfl, rfl, rfl, rfl⟩
theorem twK_st (A : AS) (pl v : Int) : twK A (aSetPl A pl (psSt (aPl A pl) v)) := by
  by_cases c : pl = 0
  · subst c; exact ⟨rfl, rfl, rfl, rfl, rfl, rfl, rfl, rfl⟩
  · unfold aSetPl aPl
    rw [if_neg c]
    simp only [if_neg c]
    exact ⟨rfl, rfl, rfl, rfl, rfl, rfl, rfl, rfl⟩
section
variable {b : Int → Int} {n p : Int}
theorem twS_hd : ∀ {l : List Nat} {p : Int}, tAt b p (twS l) → b p = 32 ∨ b p = 59
  | [], _, h => Or.inr h.1
  | _ :: _, _, h => Or.inl h.1
theorem twS_len : ∀ l : List Nat, (twS l).length = 2 * l.length + 1
  | [] => rfl
  | d :: l => by
    show (twS l).length + 1 + 1 = _
    rw [twS_len l, List.length_cons]
    omega
theorem x_sup (pl : Int) : ∀ (d : Nat) (l : List Nat) (k p : Int) (T : TkS) (A : AS), T.2.2.1 = p → l.length = d + 1 → (∀ v ∈ l, v ≤ 9) → tAt b p (twS l) → p + 2 * d + 2 < n → ∃ T' A' v, xSup b n pl d k T A = .ok (T', A') ∧ T'.2.2.1 = p + 2 * d ∧ v ≤ 9 ∧ tAt b (p + 2 * d) (twS [v]) ∧ twK A A'
  | 0, l, k, p, T, A, hT, hl, hv, h, hn => by
    match l, hl with
    | [v], _ => exact ⟨T, A, v, rfl, by omega, hv v (List.mem_singleton.mpr rfl), by rw [show p + 2 * ((0 : Nat) : Int) = p by omega]; exact h, ⟨rfl, rfl, rfl, rfl, rfl, rfl, rfl, rfl⟩⟩
  | d + 1, l, k, p, T, A, hT, hl, hv, h, hn => by
    match l, hl with
    | v :: l, hl =>
      have hl' : l.length = d + 1 := by simp only [List.length_cons] at hl; omega
      obtain ⟨h1, h2, h3⟩ := h
      have hh := twS_hd h3
      have v9 := hv v (List.mem_cons_self ..)
      obtain ⟨T', A', v', e1, e2, e3, e4, e5⟩ := x_sup pl d l (k + 1) (p + 1 + 1) ((2, p + 1, p + 2, (v : Int)) : TkS) (aSetPl A pl (psSu (aPl A pl) k v)) (by show p + 2 = p + 1 + 1; omega) hl' (fun z hz => hv z (List.mem_cons_of_mem _ hz)) h3 (by omega)
      refine ⟨T', A', v', ?_, by omega, e3, by rw [show p + 2 * ((d + 1 : Nat) : Int) = p + 1 + 1 + 2 * (d : Nat) by omega]; exact e4, (twK_su A pl k v).tr e5⟩
      show xb (xNum b n T 0 9) _ = _
      rw [x_num (p := p) (d := v) hT v9 (by omega) h1 h2 (by rw [show p + 2 = p + 1 + 1 by omega]; omega) (by omega)]
      exact e1
theorem aNm_p0 (A : AS) (T : TkS) (hT : T.2.2.1 - T.2.1 = 1) : (aNm A 0 b T).p0.2.2.1 = 1 ∧ (aNm A 0 b T).p0.2.2.2.2 0 = b T.2.1 := by
  refine ⟨hT, ?_⟩
  show cl (T.2.2.1 - T.2.1) (fun k => b (T.2.1 + k)) 0 = _
  rw [hT, cl_in (by decide) (by decide)]
  show b (T.2.1 + 0) = _
  rw [Int.add_zero]
theorem aNm_k (A : AS) (pl : Int) (T : TkS) : (aNm A pl b T).1 = A.1 ∧ (aNm A pl b T).2.1 = A.2.1 ∧ (aNm A pl b T).2.2.1 = A.2.2.1 ∧ (aNm A pl b T).2.2.2.2.2 = A.2.2.2.2.2 ∧ (aNm A pl b T).p0.1 = A.p0.1 ∧ (aNm A pl b T).p1.1 = A.p1.1 := by
  unfold aNm
  by_cases c : pl = 0
  · subst c; exact ⟨rfl, rfl, rfl, rfl, rfl, rfl⟩
  · unfold aSetPl aPl
    refine ⟨rfl, rfl, rfl, rfl, ?_, ?_⟩
    · show (if pl = 0 then _ else A.p0).1 = _
      rw [if_neg c]
    · show (if pl = 0 then A.p1 else psNm (if pl = 0 then A.p0 else A.p1) _ _).1 = _
      rw [if_neg c, if_neg c]
      rfl
/-- a player read -/
theorem x_pl {a : Nat} {l l' : List Nat} {pl : Int} {A : AS} (ha : 97 ≤ a ∧ a ≤ 122) (hl : l.length = 6) (hv : ∀ v ∈ l, v ≤ 9) (h : tAt b p (twP a l ++ l')) (hn : p + 21 ≤ n) (hA : pl = 0 ∨ (A.p0.2.2.1 = 1 ∧ A.p0.2.2.2.2 0 ≠ a)) :
    ∃ A', xPl b n pl (tkAt b n p) A = .ok (tkAt b n (p + 21), A') ∧ A'.1 = A.1 ∧ A'.2.1 = A.2.1 ∧ A'.2.2.1 = A.2.2.1 ∧ A'.2.2.2.2.2 = A.2.2.2.2.2 ∧ A'.p0.1 = A.p0.1 ∧ A'.p1.1 = A.p1.1 ∧ (pl = 0 → A'.p0.2.2.1 = 1 ∧ A'.p0.2.2.2.2 0 = a) := by
  obtain ⟨h, -⟩ := tAt_app h
  obtain ⟨⟨b0, b1, b2, b3, b4, b5, b6, b7, -⟩, hs⟩ := tAt_app (l := [112, 108, 97, 121, 101, 114, 32, a]) (l' := twS l) h
  have h8 : p + ((([112, 108, 97, 121, 101, 114, 32, a] : List Nat).length : Nat) : Int) = p + 8 := rfl
  rw [h8] at hs
  have hh := twS_hd hs
  have t0 : tkAt b n p = (1, p, p + 6, 0) := tk_word 6 (by decide) (by omega) (fun i i0 i1 => by
    have : i = p ∨ i = p + 1 ∨ i = p + 1 + 1 ∨ i = p + 1 + 1 + 1 ∨ i = p + 1 + 1 + 1 + 1 ∨ i = p + 1 + 1 + 1 + 1 + 1 := by omega
    rcases this with e | e | e | e | e | e <;> rw [e] <;> omega) (by rw [show p + ((6 : Nat) : Int) = p + 1 + 1 + 1 + 1 + 1 + 1 by omega]; omega)
  have w0 : isW b (tkAt b n p) wPlayer := by
    rw [t0]
    exact ⟨rfl, by show p + 6 - p = _; simp only [List.length_cons, List.length_nil]; omega, isW_of (p := p) (tx := wPlayer) ⟨b0, b1, b2, b3, b4, b5, trivial⟩⟩
  rw [show p + 1 + 1 + 1 + 1 + 1 + 1 = p + 6 by omega] at b6 b7
  have t1 : tkAt b n (p + 6) = (1, p + 6 + 1, p + 6 + 2, 0) := tk_name (by omega) b6 (by rw [b7]; omega) (by rw [show p + 6 + 2 = p + 8 by omega]; omega)
  obtain ⟨N, hN⟩ : ∃ N, N = aNm A pl b (1, p + 6 + 1, p + 6 + 2, 0) := ⟨_, rfl⟩
  have k1 := aNm_k (b := b) A pl (1, p + 6 + 1, p + 6 + 2, 0)
  rw [← hN] at k1
  have kN : pl = 0 → N.p0.2.2.1 = 1 ∧ N.p0.2.2.2.2 0 = a := fun c => by
    rw [hN, c]
    have := aNm_p0 (b := b) A (1, p + 6 + 1, p + 6 + 2, 0) (by show p + 6 + 2 - (p + 6 + 1) = 1; omega)
    exact ⟨this.1, this.2.trans b7⟩
  obtain ⟨T', A', v, e1, e2, e3, ⟨f1, f2, f3, -⟩, e5⟩ := x_sup (b := b) (n := n) pl 5 l 0 (p + 8) (1, p + 6 + 1, p + 6 + 2, 0) N (by show p + 6 + 2 = p + 8; omega) hl hv hs (by omega)
  rw [show p + 8 + 2 * ((5 : Nat) : Int) = p + 18 by omega] at e2 f1 f2 f3
  have e6 := e5.tr (twK_st A' pl v)
  refine ⟨aSetPl A' pl (psSt (aPl A' pl) v), ?_, e6.1.trans k1.1, e6.2.1.trans k1.2.1, e6.2.2.1.trans k1.2.2.1, e6.2.2.2.1.trans k1.2.2.2.1, e6.2.2.2.2.1.trans k1.2.2.2.2.1, e6.2.2.2.2.2.1.trans k1.2.2.2.2.2, fun c => ?_⟩
  · unfold xPl
    rw [if_pos w0, t0]
    show (if (tkAt b n (p + 6)).1 = 1 ∧ (tkAt b n (p + 6)).2.2.1 - (tkAt b n (p + 6)).2.1 ≤ 6 then _ else _) = _
    rw [t1, if_pos ⟨rfl, by show p + 6 + 2 - (p + 6 + 1) ≤ 6; omega⟩]
    rw [if_neg (by
      rintro ⟨q1, q2⟩
      rcases hA with z | ⟨z1, z2⟩
      · exact q1 z
      · have q3 := (nmB_iff.mp q2).2 0 (by show ((0 : Nat) : Int) < p + 6 + 2 - (p + 6 + 1); omega)
        apply z2
        rw [show (p + 6 + 1 + ((0 : Nat) : Int)) = p + 6 + 1 by omega, b7] at q3
        exact q3), ← hN, e1]
    show xb (xNum b n T' 0 9) _ = _
    rw [x_num (p := p + 18) (d := v) e2 e3 (by omega) f1 (by exact f2) (by rw [show p + 18 + 2 = p + 18 + 1 + 1 by omega]; omega) (by omega)]
    show xb (xEnd b n (2, p + 18 + 1, p + 18 + 2, (v : Int))) _ = _
    rw [x_end (p := p + 20) (by show p + 18 + 2 = p + 20; omega) (by omega) (by rw [show p + 20 = p + 18 + 1 + 1 by omega]; exact f3), show p + 20 + 1 = p + 21 by omega]
    rfl
  · have q := kN c
    rw [e6.2.2.2.2.2.2.1, e6.2.2.2.2.2.2.2]
    exact q
end
theorem twBs_len : ∀ bl : List (Nat × Nat), (twBs bl).length = 10 * bl.length
  | [] => rfl
  | q :: bl => by
    show (twB q ++ twBs bl).length = _
    rw [List.length_append, twBs_len bl, List.length_cons]
    show 10 + _ = _
    omega
theorem twA_len {c r : Nat} {bl : List (Nat × Nat)} {l0 l1 : List Nat} (h0 : l0.length = 6) (h1 : l1.length = 6) : (twA c r bl l0 l1).length = 52 + 10 * bl.length := by
  unfold twA twP
  simp only [List.length_append, twS_len, twBs_len, h0, h1]
  show 10 + (10 * bl.length + (8 + (2 * 6 + 1) + (8 + (2 * 6 + 1)))) = _
  omega
/-- the drawn text loads -/
theorem x_text {b : Int → Int} {c r : Nat} {bl : List (Nat × Nat)} {l0 l1 : List Nat} (hc : 3 ≤ c ∧ c ≤ 8) (hr : 3 ≤ r ∧ r ≤ 8) (hb : blOk c r 0 bl) (h0 : l0.length = 6) (h1 : l1.length = 6) (v0 : ∀ v ∈ l0, v ≤ 9) (v1 : ∀ v ∈ l1, v ≤ 9) (hl : bl.length ≤ 8) (h : tAt b 0 (twA c r bl l0 l1)) :
    ∃ A y, xLoad b (52 + 10 * bl.length) = .ok (0, A) ∧ twOk c r (A.1, 0, fun _ _ => 0, pZ, pZ, 0, 0) y ∧ A.2.1 = 0 ∧ A.2.2.2.2.2 = (0, 0) ∧ A.p0.1 = 0 ∧ A.p1.1 = 0 := by
  obtain ⟨n, hn⟩ : ∃ n : Int, n = 52 + 10 * bl.length := ⟨_, rfl⟩
  rw [← hn]
  obtain ⟨g1, g2⟩ := tAt_app h
  have l10 : (0 : Int) + ((twT c r).length : Nat) = 10 := rfl
  rw [l10] at g2
  have A0 : twOk c r (aClr c r) 0 := by
    refine ⟨rfl, rfl, fun _ => rfl, fun x z => ?_, fun x z _ => ?_, rfl⟩
    · unfold bCell
      split
      · show cl 64 (fun _ => -1) _ < 0
        rename_i q
        have q' : bIn (aClr c r).bd x z := q
        have q1 : (0 ≤ x ∧ x < c) ∧ (0 ≤ z ∧ z < r) := q'
        rw [cl_in (by omega) (by omega)]
        decide
      · decide
    · unfold bCell
      split
      · show cl 64 (fun _ => -1) _ ≠ -2
        rename_i q
        have q1 : (0 ≤ x ∧ x < c) ∧ (0 ≤ z ∧ z < r) := q
        rw [cl_in (by omega) (by omega)]
        decide
      · decide
  obtain ⟨A1, y1, e1, k1⟩ := x_blks (b := b) (n := n) (c := c) (r := r) (l' := 97 :: (twS l0 ++ twP 98 l1)) ⟨hc.2, hr.2⟩ bl 601 0 10 _ (by omega) hb A0 g2 (by omega)
  obtain ⟨g3, g4⟩ := tAt_app g2
  rw [twBs_len] at g4
  obtain ⟨P, hP⟩ : ∃ P : Int, P = 10 + 10 * bl.length := ⟨_, rfl⟩
  rw [show (10 : Int) + ((10 * bl.length : Nat) : Int) = P by omega] at g4
  rw [← hP] at e1
  obtain ⟨g5, g6⟩ := tAt_app g4
  have l21 : (twP 97 l0).length = 21 := by
    unfold twP
    rw [List.length_append, twS_len, h0]
    rfl
  rw [l21] at g6
  obtain ⟨A2, e2, a1, a2, a3, a4, a5, a6, a7⟩ := x_pl (b := b) (n := n) (p := P) (a := 97) (pl := 0) (A := A1) (l := l0) (by decide) h0 v0 g4 (by omega) (Or.inl rfl)
  obtain ⟨a8, a9⟩ := a7 rfl
  have g7 : tAt b (P + 21) (twP 98 l1 ++ []) := by rw [List.append_nil]; exact g6
  obtain ⟨A3, e3, b1, b2, b3, b4, b5, b6, -⟩ := x_pl (b := b) (n := n) (p := P + 21) (a := 98) (pl := 1) (A := A2) (l := l1) (by decide) h1 v1 g7 (by omega) (Or.inr ⟨a8, by rw [a9]; decide⟩)
  have z := k1.2.2.2.2.2
  have z1 : A1.2.1 = 0 := by rw [z]
  have z2 : A1.2.2.2.2.2 = (0, 0) := by rw [z]
  have z3 : A1.p0.1 = 0 := by show A1.2.2.2.1.1 = 0; rw [z]; rfl
  have z4 : A1.p1.1 = 0 := by show A1.2.2.2.2.1.1 = 0; rw [z]; rfl
  refine ⟨A3, y1, ?_, ⟨?_, ?_, ?_, ?_, ?_, rfl⟩, b2.trans (a2.trans z1), b4.trans (a4.trans z2), b5.trans (a5.trans z3), b6.trans (a6.trans z4)⟩
  · unfold xLoad
    rw [x_size hc hr g1 (by omega)]
    show xb (xBlks b n 601 (tkAt b n 10) (aClr c r)) _ = _
    rw [e1]
    show xb (xStps b n 601 (tkAt b n P) A1) _ = _
    have q : xStps b n 601 (tkAt b n P) A1 = .ok (tkAt b n P, A1) := by
      show (if isW b (tkAt b n P) wStrap then _ else Except.ok (tkAt b n P, A1)) = _
      rw [if_neg]
      intro q
      have q1 := q.2.2 0 (by decide)
      have q3 := q.2.2 1 (by decide)
      have t0 : (tkAt b n P).2.1 = P := by
        obtain ⟨s0, -⟩ := g4
        have e : eorN b n 32 32 P = P := eorN_stop (by omega)
        unfold tkAt
        rw [e]
        split
        · rfl
        · split
          · rfl
          · split <;> rfl
      rw [t0, show P + ((0 : Nat) : Int) = P by omega] at q1
      have q2 : b P = 112 := g4.1
      rw [q2] at q1
      exact absurd q1 (by decide)
    rw [q]
    show xb (xPl b n 0 (tkAt b n P) A1) _ = _
    rw [e2]
    show xb (xPl b n 1 (tkAt b n (P + 21)) A2) _ = _
    rw [e3, show P + 21 + 21 = n by omega, tk_fin]
    show xCmds b n 601 0 (0, n, n, 0) A3 = _
    rfl
  · show A3.1.1 = _; rw [b1, a1]; exact k1.1
  · show A3.1.2.1 = _; rw [b1, a1]; exact k1.2.1
  · intro k; show A3.1.2.2.2 k = _; rw [b1, a1]; exact k1.2.2.1 k
  · intro x z; show bCell A3.1 x z < 0; rw [b1, a1]; exact k1.2.2.2.1 x z
  · intro x z hz; show bCell A3.1 x z ≠ -2; rw [b1, a1]; exact k1.2.2.2.2.1 x z hz
