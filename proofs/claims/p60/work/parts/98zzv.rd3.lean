/-! ===== the class reads and does commands ===== -/
section
variable {g : PG} {u : PM} {r : Nat} {b : Int → Int} {n q p : Int} {T : TkS} {A : AS}
/-- the reader's footprint alone has changed -/
theorem RdS_fp {v : PM} (h : RdS u r b n q T A) (f : Fr (r + 18) u v) (hk : kRd g r) : RdS v r b n q T A := by
  obtain ⟨⟨⟨z0, z1, z2, z3, z4⟩, z5, z6, z7⟩, z8, z9, z10⟩ := h
  refine ⟨⟨⟨by rw [f _ _ (by omega), z0], z1, z2, fun k k0 k1 => by rw [f _ _ (by omega)]; exact z3 k k0 k1, z4⟩, ?_, ?_, z7⟩, ?_, (absT_eq fun a k b1 b2 => f a k (by omega)).trans z9, RO_fr hk (fun a k z => f a k (by omega)) z10⟩
  · rw [f r 8 (by omega), f r 9 (by omega), f r 7 (by omega)]; exact z5
  · rw [f r 10 (by omega)]; exact z6
  · rw [f r 1 (by omega), f r 2 (by omega), f r 3 (by omega)]; exact z8
theorem Fr.fR {v : PM} (h : Fr (r + 18) u v) : FR r u v := fun a k z => h a k (by omega)
theorem RdS_sq (hk : kRd g r) (h : RdS u r b n q T A) (hB : bOk A.bd) : SQ g u (r + 1) (r + 18) := by
  have := hk.2.2.2.2
  exact ⟨hk.2.1, hk.2.2.1, by omega, by omega, by rw [h.2.2.1]; exact hB, h.2.2.2⟩
theorem Rd_shape (hk : kRd g r) (h : RdT u r b n T) : call M_Rd_shapeOfToken [vA r] g u = some (0, vI (shp b T), g, u) := by
  rw [C_Rd_shapeOfToken, gd_O hk.1, Rd_wordIs hk h wTxs.2.2.2.2.2.2.2.1 (by decide), cI_some]
  unfold shp
  by_cases c0 : isW b T wBar
  · rw [bI_t c0, if_neg (by decide), if_pos c0]
  · rw [bI_f c0, if_pos rfl, if_neg c0, gd_O hk.1, Rd_wordIs hk h wTxs.2.2.2.2.2.2.2.2.1 (by decide), cI_some]
    by_cases c1 : isW b T wElbow
    · rw [bI_t c1, if_neg (by decide), if_pos c1]
    · rw [bI_f c1, if_pos rfl, if_neg c1, gd_O hk.1, Rd_wordIs hk h wTxs.2.2.2.2.2.2.2.2.2.1 (by decide), cI_some]
      by_cases c2 : isW b T wRod
      · rw [bI_t c2, if_neg (by decide), if_pos c2]
      · rw [bI_f c2, if_pos rfl, if_neg c2, gd_O hk.1, Rd_wordIs hk h wTxs.2.2.2.2.2.2.2.2.2.2.1 (by decide), cI_some]
        by_cases c3 : isW b T wSquare
        · rw [bI_t c3, if_neg (by decide), if_pos c3]
        · rw [bI_f c3, if_pos rfl, if_neg c3, gd_O hk.1, Rd_wordIs hk h wTxs.2.2.2.2.2.2.2.2.2.2.2.1 (by decide), cI_some]
          by_cases c4 : isW b T wCorner
          · rw [bI_t c4, if_neg (by decide), if_pos c4]
          · rw [bI_f c4, if_pos rfl, if_neg c4]
theorem Rd_piece (hk : kRd g r) (h : RdS u r b n q T A) (hw : wf A) : xR g u r (call M_Rd_readPiece [vA r] g u) 0 (fun _ => 1) (xPlc b n T A) (fun a v => RdS v r b n q a.1 a.2 ∧ T.2.2.1 ≤ a.1.2.1) := by
  have hB := hw.1.1
  have hC := hB.1
  have hR := hB.2.1
  have hT := h.1.2.2.2
  have e0 : ∀ {v : PM} {T'}, RdS v r b n q T' A → v (r + 1 + 1) 0 = A.bd.1 ∧ v (r + 1 + 1) 1 = A.bd.2.1 := fun z => by
    have := z.2.2.1
    exact ⟨congrArg (fun A => (AS.bd A).1) this, congrArg (fun A => (AS.bd A).2.1) this⟩
  obtain ⟨v1, e1, t1, f1⟩ := Rd_next2 (g := g) hk h.1
  have s1 := RdS_tok h t1 f1 hk
  have tk := tkAt_ok (b := b) (n := n) (p := T.2.2.1) (by unfold tOkk at hT; omega) hT.2.2.1
  rw [C_Rd_readPiece, gd_O hk.1, e1, cV_some, gd_O hk.1, Rd_shape hk t1, cI_some]
  unfold xPlc
  obtain ⟨s, hs⟩ : ∃ s, s = shp b (tkAt b n T.2.2.1) := ⟨_, rfl⟩
  have hsb : s ≠ -1 → 0 ≤ s ∧ s < 5 := fun z => by rw [hs] at z ⊢; exact shp_bd _ _ z
  rw [← hs]
  by_cases c0 : s = -1
  · rw [if_pos c0, if_pos c0]
    refine xR_err hk f1.fr (e := (1, (tkAt b n T.2.2.1).2.1)) ?_ s1.1.2.1.2.1
    rw [gd_O hk.1, Rd_fail hk, cI_some, b01_0, cond_true]
  · have hs5 := hsb c0
    rw [if_neg c0, if_neg c0, gd_O hk.1]
    obtain ⟨v2, f2, ⟨e, x2, q1, q2⟩ | ⟨a2, x2, q1, s2, r2, o2, l2, k2⟩⟩ := Rd_num (g := g) hk s1 0 3
    · rw [q1, cI_some, if_pos rfl, x2]
      exact ⟨v2, f1.fr.tr f2, Or.inl ⟨e, rfl, rfl, q2⟩⟩
    · change _ = some (0, vI a2.2, g, v2) at q1
      rw [q1, cI_some, if_neg (by omega), x2]
      simp only [gd_O hk.1, gd_O hk.2.1.1, gd_O hk.2.1.2.1.1]
      rw [(e0 s2).1, w_id (x := A.bd.1 - 1) (by omega) (by omega)]
      unfold xb
      simp only
      obtain ⟨v3, f3, ⟨e, x3, q3, q4⟩ | ⟨a3, x3, q3, s3, r3, o3, l3, k3⟩⟩ := Rd_num (g := g) hk s2 0 (A.bd.1 - 1)
      · rw [q3, cI_some, if_pos rfl, x3]
        exact ⟨v3, (f1.fr.tr f2).tr f3, Or.inl ⟨e, rfl, rfl, q4⟩⟩
      · change _ = some (0, vI a3.2, g, v3) at q3
        rw [q3, cI_some, if_neg (by omega), x3]
        simp only [gd_O hk.1, gd_O hk.2.1.1, gd_O hk.2.1.2.1.1]
        rw [(e0 s3).2, w_id (x := A.bd.2.1 - 1) (by omega) (by omega)]
        obtain ⟨v4, f4, ⟨e, x4, q5, q6⟩ | ⟨a4, x4, q5, s4, r4, o4, l4, k4⟩⟩ := Rd_num (g := g) hk s3 0 (A.bd.2.1 - 1)
        · rw [q5, cI_some, if_pos rfl, x4]
          exact ⟨v4, ((f1.fr.tr f2).tr f3).tr f4, Or.inl ⟨e, rfl, rfl, q6⟩⟩
        · have hlt := hk.2.2.2.2
          obtain ⟨v5, e5, t5, -, -, f5⟩ := Fp_turn (g := g) (u := v4) (r := a2.2) hk.2.2.1 s4.2.2.2 hs5.1 hs5.2 r2.1 (by omega)
          obtain ⟨v6, e6, t6, f6⟩ := Fp_move (g := g) hk.2.2.1 t5 a3.2 a4.2
          have s6 := RdS_fp s4 (Fr.tr f5 f6) hk
          have fr6 : FR r u v6 := (((f1.fr.tr f2).tr f3).tr f4).tr (Fr.fR (Fr.tr f5 f6))
          have hal := St_allowsPiece (g := g) (u := v6) hk.2.1 hk.2.2.1 (by rw [s6.2.2.1]; exact hB) t6 hs5 (by omega) (by omega) (by omega)
          rw [s6.2.2.1] at hal
          change call M_St_allowsPiece [vA (r + 1), vA (r + 18)] g v6 = some (0, vI (bI (aMayP A s a2.2 a3.2 a4.2)), g, v6) at hal
          change _ = some (0, vI a4.2, g, v4) at q5
          rw [q5, cI_some, if_neg (by omega), x4]
          simp only [gd_O hk.1, gd_O hk.2.2.1.1]
          rw [e5, cV_some]
          simp only [gd_O hk.1, gd_O hk.2.2.1.1]
          rw [e6, cV_some]
          simp only [gd_O hk.1, gd_O hk.2.1.1]
          rw [hal, cI_some]
          by_cases hm : aMayP A s a2.2 a3.2 a4.2
          · rw [bI_t hm, if_neg (show ¬ (1 : Int) = 0 by decide), if_pos hm]
            obtain ⟨v7, e7, b7, f7⟩ := St_putPiece (g := g) (u := v6) hk.2.1 hk.2.2.1 (by omega) (by rw [s6.2.2.1]; exact hB) t6 hs5 (by omega) (by omega) (by omega) (by rw [s6.2.2.1]; exact ⟨hw.1.2.2.1, wf_lt hw hs5 (by omega) hm⟩)
            rw [s6.2.2.1] at e7 b7
            have s7 := RdS_dr s6 (fun a k z => f7 a k (by omega)) b7 hk
            simp only [gd_O hk.1, gd_O hk.2.1.1]
            rw [e7, cI_some]
            refine ⟨v7, fr6.tr fun a k z => f7 a k (by omega), Or.inr ⟨_, rfl, rfl, s7, ?_⟩⟩
            have z1 := tk.1
            unfold tOkk at z1 o2 o3 o4
            have z2 := tk.2
            show T.2.2.1 ≤ a4.1.2.1
            omega
          · rw [bI_f hm, if_pos rfl, if_neg hm]
            refine xR_err hk fr6 (e := (6, a4.1.2.1)) ?_ s6.1.2.1.2.1
            rw [gd_O hk.1, Rd_fail hk, cI_some, b01_0, cond_true]
theorem Rd_strap (hk : kRd g r) (h : RdS u r b n q T A) (hw : wf A) : xR g u r (call M_Rd_readStrap [vA r] g u) 0 (fun _ => 1) (xFst b n T A) (fun a v => RdS v r b n q a.1 a.2 ∧ T.2.2.1 ≤ a.1.2.1) := by
  have hB := hw.1.1
  rw [C_Rd_readStrap, gd_O hk.1]
  unfold xFst
  obtain ⟨v1, f1, ⟨e, x1, q1, q2⟩ | ⟨a1, x1, q1, s1, ⟨y11, y12, y13⟩, ⟨hs, hE⟩, l1⟩⟩ := Rd_edge (g := g) hk h hB
  · rw [q1, cI_some, if_pos rfl, x1]
    exact ⟨v1, f1, Or.inl ⟨e, rfl, rfl, q2⟩⟩
  · have i3 := bcl_i32 (s := 0) hB hE.1
    have hal := St_allowsStrap (g := g) (u := v1) (b := r + 1) hk.2.1 (by rw [s1.2.2.1]; exact hB) i3.1 i3.2 a1.2.2.2
    rw [s1.2.2.1] at hal
    change call M_St_allowsStrap [vA (r + 1), vI a1.2.1, vI a1.2.2.1, vI a1.2.2.2] g v1 = some (0, vI (bI (aMayS A a1.2.1 a1.2.2.1 a1.2.2.2)), g, v1) at hal
    change _ = some (0, vI 1, g, v1) at q1
    rw [q1, cI_some, if_neg (by decide), x1]
    simp only [gd_O hk.1, gd_O hk.2.1.1]
    rw [y11, y12, y13, hal, cI_some]
    unfold xb
    simp only
    by_cases hm : aMayS A a1.2.1 a1.2.2.1 a1.2.2.2
    · rw [bI_t hm, if_neg (show ¬ (1 : Int) = 0 by decide), if_pos hm]
      obtain ⟨v2, e2, b2, f2⟩ := St_putStrap (g := g) (u := v1) hk.2.1 (by rw [s1.2.2.1]; exact hB) a1.2.1 a1.2.2.1 a1.2.2.2
      rw [s1.2.2.1] at e2 b2
      have s2 := RdS_dr s1 (fun a k z => f2 a k (by omega)) b2 hk
      simp only [gd_O hk.1, gd_O hk.2.1.1]
      rw [y11, y12, y13, e2, cI_some]
      exact ⟨v2, f1.tr fun a k z => f2 a k (by omega), Or.inr ⟨_, rfl, rfl, s2, l1⟩⟩
    · rw [bI_f hm, if_pos rfl, if_neg hm]
      refine xR_err hk f1 (e := (6, a1.1.2.1)) ?_ s1.1.2.1.2.1
      rw [gd_O hk.1, Rd_fail hk, cI_some, b01_0, cond_true]
/-- one command, with its semicolon -/
theorem Rd_one (hk : kRd g r) (h : RdS u r b n q T A) (hw : wf A) (h0 : T.1 ≠ 0) (i : Int) (hi : 0 ≤ i ∧ i ≤ 600) (hq : 0 ≤ q ∧ q ≤ 1000) :
    ∃ v, FR r u v ∧ ((∃ e, (xb (xOne b n T A) fun p => xb (xEnd b n p.1) fun T' => (.ok (T', p.2) : Except ER (TkS × AS))) = .error e ∧ run M_Rd_readCommands 2 [vA r, vI i, vN] [] g u = some (0, vI 0, g, v) ∧ v r 1 = e.1 ∧ v r 2 = e.2) ∨ (∃ a : TkS × AS, (xb (xOne b n T A) fun p => xb (xEnd b n p.1) fun T' => (.ok (T', p.2) : Except ER (TkS × AS))) = .ok a ∧ run M_Rd_readCommands 2 [vA r, vI i, vN] [] g u = run M_Rd_readCommands 2 [vA r, vI (i + 1), vN] [] g v ∧ RdS v r b n (q + 1) a.1 a.2)) := by
  have p109 : ∀ {v : PM} {T1 : TkS} {A1 : AS}, FR r u v → RdS v r b n q T1 A1 → ∃ w, FR r u w ∧ ((∃ e, (xb (xEnd b n T1) fun T' => (.ok (T', A1) : Except ER (TkS × AS))) = .error e ∧ run M_Rd_readCommands 109 [vA r, vI i, vI 1] [] g v = some (0, vI 0, g, w) ∧ w r 1 = e.1 ∧ w r 2 = e.2) ∨ (∃ a : TkS × AS, (xb (xEnd b n T1) fun T' => (.ok (T', A1) : Except ER (TkS × AS))) = .ok a ∧ run M_Rd_readCommands 109 [vA r, vI i, vI 1] [] g v = run M_Rd_readCommands 2 [vA r, vI (i + 1), vN] [] g w ∧ RdS w r b n (q + 1) a.1 a.2)) := by
    intro v T1 A1 f s
    rw [R_Rd_readCommands_109, if_neg (by decide), gd_O hk.1]
    obtain ⟨v5, f5, ⟨e, x5, q6, q7⟩ | ⟨a5, x5, q6, s5, o5, l5⟩⟩ := Rd_end (g := g) hk s
    · rw [q6, cI_some, if_pos rfl, x5]
      exact ⟨v5, f.tr f5, Or.inl ⟨e, rfl, rfl, q7⟩⟩
    · change _ = some (0, vI 1, g, v5) at q6
      rw [q6, cI_some, if_neg (by decide), x5]
      simp only [gd_O hk.1]
      obtain ⟨⟨⟨z0, z1, z2, z3, z4⟩, z5, z6, z7⟩, ⟨z8, z8', z8''⟩, z9, z10⟩ := s5
      rw [z8'', w_id (x := q + 1) (by omega) (by omega), w_id (x := i + 1) (by omega) (by omega)]
      refine ⟨_, fun a k z => by rw [up_o (by omega), f5 a k z, f a k z], Or.inr ⟨_, rfl, rfl, ⟨⟨by rw [up_j (by decide), z0], z1, z2, fun k k0 k1 => by rw [up_o (by omega)]; exact z3 k k0 k1, z4⟩, ?_, ?_, z7⟩, ⟨by rw [up_j (by decide), z8], by rw [up_j (by decide), z8'], up_s ..⟩, (absT_eq fun a k b1 b2 => up_o (by omega)).trans z9, RO_fr hk (fun a k z => up_o (by omega)) z10⟩⟩
      · rw [up_j (by decide), up_j (by decide), up_j (by decide)]; exact z5
      · rw [up_j (by decide)]; exact z6
  have q109 : ∀ v : PM, run M_Rd_readCommands 109 [vA r, vI i, vI 0] [] g v = some (0, vI 0, g, v) := fun v => by rw [R_Rd_readCommands_109, if_pos rfl]
  have use : ∀ {X : Except ER (TkS × AS)} {c : Option PO} {P : TkS × AS → PM → Prop}, xOne b n T A = X → xR g u r c 0 (fun _ => 1) X P → (∀ a v, P a v → RdS v r b n q a.1 a.2) → ∀ R : Option PO, (∀ x v, c = some (0, vI x, g, v) → R = run M_Rd_readCommands 109 [vA r, vI i, vI x] [] g v) → ∃ v, FR r u v ∧ ((∃ e, (xb (xOne b n T A) fun p => xb (xEnd b n p.1) fun T' => (.ok (T', p.2) : Except ER (TkS × AS))) = .error e ∧ R = some (0, vI 0, g, v) ∧ v r 1 = e.1 ∧ v r 2 = e.2) ∨ (∃ a : TkS × AS, (xb (xOne b n T A) fun p => xb (xEnd b n p.1) fun T' => (.ok (T', p.2) : Except ER (TkS × AS))) = .ok a ∧ R = run M_Rd_readCommands 2 [vA r, vI (i + 1), vN] [] g v ∧ RdS v r b n (q + 1) a.1 a.2)) := by
    intro X c P hX hx hP R hR
    rw [hX]
    obtain ⟨v, f, ⟨e, x1, q1, q2⟩ | ⟨a, x1, q1, s1⟩⟩ := hx
    · rw [hR 0 v q1, q109, x1]
      exact ⟨v, f, Or.inl ⟨e, rfl, rfl, q2⟩⟩
    · rw [hR 1 v q1, x1]
      exact p109 f (hP a v s1)
  rw [R_Rd_readCommands_2, if_neg (by omega), gd_O hk.1, if_neg (by rw [h.1.2.1.1]; exact h0), gd_O hk.1, Rd_wordIs hk h.1 wTxs.2.2.2.2.2.2.1 (by decide), cI_some]
  by_cases c0 : isW b T wPlace
  · rw [bI_t c0, if_neg (by decide), gd_O hk.1]
    refine use (X := xPlc b n T A) ?_ (Rd_piece hk h hw) (fun a v z => z.1) _ (fun x v hc => by rw [hc, cI_some])
    unfold xOne
    rw [if_pos c0]
  · rw [bI_f c0, if_pos rfl, gd_O hk.1, Rd_wordIs hk h.1 wTxs.2.2.1 (by decide), cI_some]
    by_cases c1 : isW b T wStrap
    · rw [bI_t c1, if_neg (by decide), gd_O hk.1]
      refine use (X := xFst b n T A) ?_ (Rd_strap hk h hw) (fun a v z => z.1) _ (fun x v hc => by rw [hc, cI_some])
      unfold xOne
      rw [if_neg c0, if_pos c1]
    · rw [bI_f c1, if_pos rfl, gd_O hk.1, Rd_wordIs hk h.1 wTxs.2.2.2.2.2.2.2.2.2.2.2.2 (by decide), cI_some]
      by_cases c2 : isW b T wPass
      · rw [bI_t c2, if_neg (by decide)]
        simp only [gd_O hk.1, gd_O hk.2.1.1]
        have hx1 : xOne b n T A = if aMayN A then .ok (T, aTurn A (w (A.ps + 1))) else .error (6, T.2.1) := by
          unfold xOne
          rw [if_neg c0, if_neg c1, if_pos c2]
        obtain ⟨v1, e1, f1⟩ := St_allowsPass (RdS_sq hk h hw.1.1)
        rw [h.2.2.1] at e1
        change call M_St_allowsPass [vA (r + 1), vA (r + 18)] g u = some (0, vI (bI (aMayN A)), g, v1) at e1
        have s1 := RdS_fp h f1 hk
        rw [e1, cI_some, hx1]
        by_cases hm : aMayN A
        · rw [bI_t hm, if_neg (show ¬ (1 : Int) = 0 by decide), if_pos hm, R_Rd_readCommands_87, if_neg (by decide)]
          obtain ⟨v2, e2, b2, f2⟩ := St_skipTurn (g := g) (u := v1) hk.2.1
          rw [s1.2.2.1] at e2 b2
          have s2 := RdS_dr s1 (fun a k z => f2 a k (by omega)) b2 hk
          simp only [gd_O hk.1, gd_O hk.2.1.1]
          rw [e2, cI_some]
          exact p109 ((Fr.fR f1).tr fun a k z => f2 a k (by omega)) s2
        · rw [bI_f hm, if_pos rfl, if_neg hm, gd_O hk.1, Rd_fail hk, cI_some, if_pos rfl, R_Rd_readCommands_87, if_pos rfl, q109]
          refine ⟨_, fun a k z => by rw [up_o (by omega), up_o (by omega), Fr.fR f1 a k z], Or.inl ⟨(6, T.2.1), rfl, rfl, by rw [up_j (by decide), up_s], by rw [up_s, s1.1.2.1.2.1]⟩⟩
      · rw [bI_f c2, if_pos rfl, gd_O hk.1, Rd_fail hk, cI_some, q109]
        refine ⟨_, fun a k z => by rw [up_o (by omega), up_o (by omega)], Or.inl ⟨(1, T.2.1), ?_, rfl, by rw [up_j (by decide), up_s], by rw [up_s, h.1.2.1.2.1]⟩⟩
        unfold xOne
        rw [if_neg c0, if_neg c1, if_neg c2]
        rfl
theorem Rd_cmds (hk : kRd g r) : ∀ (d : Nat) (i : Int) (u : PM) (T : TkS) (A : AS), i + d = 601 → 0 ≤ i → RdS u r b n i T A → wf A → xR g u r (run M_Rd_readCommands 2 [vA r, vI i, vN] [] g u) 0 (fun _ => 1) (xCmds b n d i T A) (fun a v => (v r 1 = 0 ∧ v r 2 = -1 ∧ v r 3 = a.1) ∧ absT v (r + 1) = a.2 ∧ RO v) := by
  intro d
  induction d with
  | zero =>
    intro i u T A hi i0 h hw
    refine ⟨u, FR.rfl', Or.inr ⟨(i, A), rfl, ?_, h.2.1, h.2.2.1, h.2.2.2⟩⟩
    rw [R_Rd_readCommands_2, if_pos (by omega)]
  | succ d ih =>
    intro i u T A hi i0 h hw
    by_cases c0 : T.1 = 0
    · refine ⟨u, FR.rfl', Or.inr ⟨(i, A), ?_, ?_, h.2.1, h.2.2.1, h.2.2.2⟩⟩
      · unfold xCmds
        rw [if_pos c0]
      · rw [R_Rd_readCommands_2, if_neg (by omega), gd_O hk.1, if_pos (by rw [h.1.2.1.1]; exact c0)]
    · have ex : xCmds b n (d + 1) i T A = xb (xb (xOne b n T A) fun p => xb (xEnd b n p.1) fun T' => (.ok (T', p.2) : Except ER (TkS × AS))) fun a => xCmds b n d (i + 1) a.1 a.2 := by
        show (if T.1 = 0 then _ else xb (xOne b n T A) fun p => xb (xEnd b n p.1) fun T' => xCmds b n d (i + 1) T' p.2) = _
        rw [if_neg c0]
        cases xOne b n T A with
        | error e => rfl
        | ok p =>
          show xb (xEnd b n p.1) _ = xb (xb (xEnd b n p.1) _) _
          cases xEnd b n p.1 with
          | error e => rfl
          | ok t => rfl
      obtain ⟨v, f, ⟨e, x1, q1, q2⟩ | ⟨a, x1, q1, s1⟩⟩ := Rd_one (g := g) hk h hw c0 i ⟨i0, by omega⟩ ⟨i0, by omega⟩
      · rw [ex, x1, q1]
        exact ⟨v, f, Or.inl ⟨e, rfl, rfl, q2⟩⟩
      · rw [ex, x1, q1]
        have hwa : wf a.2 := by
          obtain ⟨p, y1, y2⟩ := xb_ok x1
          obtain ⟨t, y3, y4⟩ := xb_ok y2
          injection y4 with y4
          rw [← y4]
          show wf p.2
          exact xOne_ok hw y1
        exact xR_tr f (ih (i + 1) v a.1 a.2 (by omega) (by omega) s1 hwa)
end
