/-! ===== the class reads numbers, ends, sizes, blocks, edges ===== -/
/-- reader at token T, q commands read, draft A, no error -/
def RdS (u : PM) (r : Nat) (b : Int → Int) (n q : Int) (T : TkS) (A : AS) : Prop := RdT u r b n T ∧ (u r 1 = 0 ∧ u r 2 = -1 ∧ u r 3 = q) ∧ absT u (r + 1) = A ∧ RO u
def FR (r : Nat) (u u' : PM) : Prop := ∀ (a : Nat) (k : Int), ¬ (r ≤ a ∧ a ≤ r + 23) → u' a k = u a k
theorem FR.tr {r : Nat} {u v x : PM} (h : FR r u v) (h' : FR r v x) : FR r u x := fun a k n => (h' a k n).trans (h a k n)
theorem FR.rfl' {r : Nat} {u : PM} : FR r u u := fun _ _ _ => rfl
theorem FT.fr {r : Nat} {u v : PM} (h : FT r u v) : FR r u v := fun a k n => h a k (by omega)
/-- an answer that says an error, or not -/
def xR (g : PG) (u : PM) (r : Nat) (c : Option PO) (bad : Int) {α : Type} (val : α → Int) (X : Except ER α) (P : α → PM → Prop) : Prop :=
  ∃ u', FR r u u' ∧ ((∃ e, X = .error e ∧ c = some (0, vI bad, g, u') ∧ u' r 1 = e.1 ∧ u' r 2 = e.2) ∨ (∃ a, X = .ok a ∧ c = some (0, vI (val a), g, u') ∧ P a u'))
section
variable {g : PG} {u : PM} {r : Nat} {b : Int → Int} {n q : Int} {T : TkS} {A : AS}
theorem RO_fr (hk : kRd g r) {u' : PM} (h : FR r u u') (hR : RO u) : RO u' := by
  have := hk.2.2.2.2
  exact RO_eq (fun a k ha => h a k (by omega)) hR
theorem xR_tr {c : Option PO} {bad : Int} {α : Type} {val : α → Int} {X : Except ER α} {P : α → PM → Prop} {v : PM} (h : FR r u v) (h' : xR g v r c bad val X P) : xR g u r c bad val X P := by
  obtain ⟨u', f, h'⟩ := h'
  exact ⟨u', h.tr f, h'⟩
theorem xR_err (hk : kRd g r) {c : Option PO} {bad : Int} {α : Type} {val : α → Int} {P : α → PM → Prop} {v : PM} (h : FR r u v) {e : ER} (hc : c = some (0, vI bad, g, up (up v r 1 e.1) r 2 (v r 9))) (he : v r 9 = e.2) : xR g u r c bad val (.error e) P :=
  ⟨_, fun a k z => by rw [up_o (by omega), up_o (by omega), h a k z], Or.inl ⟨e, rfl, hc, by rw [up_j (by decide), up_s], by rw [up_s, he]⟩⟩
/-- token fields alone have changed -/
theorem RdS_tok {v : PM} {T' : TkS} (h : RdS u r b n q T A) (hT : RdT v r b n T') (f : FT r u v) (hk : kRd g r) : RdS v r b n q T' A := by
  obtain ⟨-, ⟨h1, h2, h3⟩, h4, h5⟩ := h
  exact ⟨hT, ⟨by rw [f r 1 (by omega), h1], by rw [f r 2 (by omega), h2], by rw [f r 3 (by omega), h3]⟩, (absT_eq fun a k b1 b2 => f a k (by omega)).trans h4, RO_fr hk f.fr h5⟩
theorem Rd_num (hk : kRd g r) (h : RdS u r b n q T A) (lo hi : Int) : xR g u r (call M_Rd_expectNumber [vA r, vI lo, vI hi] g u) (-1) (fun a => a.2) (xNum b n T lo hi) (fun a v => RdS v r b n q a.1 A ∧ (lo ≤ a.2 ∧ a.2 ≤ hi) ∧ tOkk n a.1 ∧ T.2.2.1 ≤ a.1.2.1 ∧ ∀ k : Int, 11 ≤ k → v r k = u r k) := by
  obtain ⟨v, e1, t1, f1⟩ := Rd_next2 (g := g) hk h.1
  have hS := RdS_tok h t1 f1 hk
  obtain ⟨-, ⟨h8, h9, h7⟩, h10, hok⟩ := t1
  have tk := tkAt_ok (b := b) (n := n) (p := T.2.2.1) (by have := h.1.2.2.2; unfold tOkk at this; omega) h.1.2.2.2.2.2.1
  rw [C_Rd_expectNumber, gd_O hk.1, e1, cV_some, gd_O hk.1]
  unfold xNum xHere
  by_cases c0 : (tkAt b n T.2.2.1).1 = 2
  · have h10' := h10 c0
    rw [if_pos (by rw [h8]; exact c0), if_pos c0]
    simp only [gd_O hk.1]
    rw [h10']
    have p36 : run M_Rd_expectNumber 36 [vA r, vI lo, vI hi] [] g v = some (0, vI (-1), g, up (up v r 1 2) r 2 (v r 9)) := by
      rw [R_Rd_expectNumber_36, gd_O hk.1, Rd_fail hk, cI_some]
    by_cases c1 : lo ≤ (tkAt b n T.2.2.1).2.2.2 ∧ (tkAt b n T.2.2.1).2.2.2 ≤ hi
    · rw [if_pos c1, if_neg (by omega), if_neg (by omega)]
      exact ⟨v, f1.fr, Or.inr ⟨_, rfl, rfl, hS, c1, tk.1, tk.2, fun k hk => f1 r k (by omega)⟩⟩
    · rw [if_neg c1]
      refine xR_err hk f1.fr (e := (2, (tkAt b n T.2.2.1).2.1)) ?_ h9
      by_cases c2 : (tkAt b n T.2.2.1).2.2.2 < lo
      · rw [if_pos c2, p36]
      · rw [if_neg c2, if_pos (by omega), p36]
  · rw [if_neg (by rw [h8]; exact c0), if_neg c0]
    refine xR_err hk f1.fr (e := (1, (tkAt b n T.2.2.1).2.1)) ?_ h9
    rw [gd_O hk.1, Rd_fail hk, cI_some]
theorem Rd_end (hk : kRd g r) (h : RdS u r b n q T A) : xR g u r (call M_Rd_endStatement [vA r] g u) 0 (fun _ => 1) (xEnd b n T) (fun T' v => RdS v r b n q T' A ∧ tOkk n T' ∧ T.2.2.1 < T'.2.1) := by
  obtain ⟨v, e1, t1, f1⟩ := Rd_next2 (g := g) hk h.1
  have hS := RdS_tok h t1 f1 hk
  obtain ⟨v2, e2, t2, f2⟩ := Rd_next2 (g := g) hk hS.1
  have hS2 := RdS_tok hS t2 f2 hk
  have hT := h.1.2.2.2
  have tk := tkAt_ok (b := b) (n := n) (p := T.2.2.1) (by unfold tOkk at hT; omega) hT.2.2.1
  have tk2 := tkAt_ok (b := b) (n := n) (p := (tkAt b n T.2.2.1).2.2.1) (by have := tk.1; unfold tOkk at this; omega) tk.1.2.2.1
  obtain ⟨-, ⟨h8, h9, h7⟩, h10, hok⟩ := t1
  rw [C_Rd_endStatement, gd_O hk.1, e1, cV_some, gd_O hk.1]
  unfold xEnd
  by_cases c0 : (tkAt b n T.2.2.1).1 = 3
  · rw [if_pos (by rw [h8]; exact c0), if_pos c0, gd_O hk.1, e2, cV_some]
    refine ⟨v2, f1.fr.tr f2.fr, Or.inr ⟨_, rfl, rfl, hS2, tk2.1, ?_⟩⟩
    have z1 := tk.1.2.2.2 (by omega)
    have z2 := tk.2
    have z3 := tk2.2
    omega
  · rw [if_neg (by rw [h8]; exact c0), if_neg c0]
    refine xR_err hk f1.fr (e := (1, (tkAt b n T.2.2.1).2.1)) ?_ h9
    rw [gd_O hk.1, Rd_fail hk, cI_some, b01_0, cond_true]
theorem wTxs : gStr 100017 = some wTrunk ∧ gStr 100018 = some wBlock ∧ gStr 100019 = some wStrap ∧ gStr 100020 = some wRight ∧ gStr 100021 = some wBelow ∧ gStr 100022 = some wPlayer ∧ gStr 100023 = some wPlace ∧ gStr 100024 = some wBar ∧ gStr 100025 = some wElbow ∧ gStr 100026 = some wRod ∧ gStr 100027 = some wSquare ∧ gStr 100028 = some wCorner ∧ gStr 100029 = some wPass := ⟨rfl, rfl, rfl, rfl, rfl, rfl, rfl, rfl, rfl, rfl, rfl, rfl, rfl⟩
theorem Rd_size (hk : kRd g r) (h : RdS u r b n q T A) : xR g u r (call M_Rd_readSize [vA r] g u) 0 (fun _ => 1) (xSize b n T) (fun a v => RdS v r b n q a.1 (aClr a.2.1 a.2.2) ∧ tOkk n a.1 ∧ T.2.1 < a.1.2.1 ∧ (3 ≤ a.2.1 ∧ a.2.1 ≤ 8) ∧ 3 ≤ a.2.2 ∧ a.2.2 ≤ 8) := by
  rw [C_Rd_readSize, gd_O hk.1, Rd_wordIs hk h.1 wTxs.1 (by decide), cI_some]
  unfold xSize
  by_cases c0 : isW b T wTrunk
  · rw [bI_t c0, if_neg (by decide), if_pos c0, gd_O hk.1]
    obtain ⟨v1, f1, ⟨e, x1, q1, q2⟩ | ⟨a1, x1, q1, s1, r1, o1, l1, k1⟩⟩ := Rd_num (g := g) hk h 3 8
    · rw [q1, cI_some, if_pos rfl, x1]
      exact ⟨v1, f1, Or.inl ⟨e, rfl, rfl, q2⟩⟩
    · change _ = some (0, vI a1.2, g, v1) at q1
      rw [q1, cI_some, if_neg (by omega), gd_O hk.1, x1]
      obtain ⟨v2, f2, ⟨e, x2, q3, q4⟩ | ⟨a2, x2, q3, s2, r2, o2, l2, k2⟩⟩ := Rd_num (g := g) hk s1 3 8
      · rw [q3, cI_some, if_pos rfl]
        show xR g u r _ 0 _ (xb (xNum b n a1.1 3 8) _) _
        rw [x2]
        exact ⟨v2, f1.tr f2, Or.inl ⟨e, rfl, rfl, q4⟩⟩
      · obtain ⟨v3, e3, b3, f3⟩ := St_clear (g := g) (u := v2) hk.2.1 r1.2 r2.2
        have f3' : FR r v2 v3 := fun a k z => f3 a k (by omega)
        have s3 : RdS v3 r b n q a2.1 (aClr a1.2 a2.2) := by
          obtain ⟨⟨⟨z0, z1, z2, z3, z4⟩, z5, z6, z7⟩, z8, z9, z10⟩ := s2
          refine ⟨⟨⟨by rw [f3 _ _ (by omega), z0], z1, z2, fun k k0 k1 => by rw [f3 _ _ (by omega)]; exact z3 k k0 k1, z4⟩, ?_, ?_, z7⟩, ?_, b3, RO_fr hk f3' z10⟩
          · rw [f3 r 8 (by omega), f3 r 9 (by omega), f3 r 7 (by omega)]; exact z5
          · rw [f3 r 10 (by omega)]; exact z6
          · rw [f3 r 1 (by omega), f3 r 2 (by omega), f3 r 3 (by omega)]; exact z8
        change _ = some (0, vI a2.2, g, v2) at q3
        rw [q3, cI_some, if_neg (by omega)]
        simp only [gd_O hk.1, gd_O hk.2.1.1]
        rw [e3, cV_some, gd_O hk.1]
        show xR g u r _ 0 _ (xb (xNum b n a1.1 3 8) _) _
        rw [x2]
        show xR g u r _ 0 _ (xb (xEnd b n a2.1) _) _
        obtain ⟨v4, f4, ⟨e, x4, q5, q6⟩ | ⟨a4, x4, q5, s4, o4, l4⟩⟩ := Rd_end (g := g) hk s3
        · rw [q5, cI_some, b01_0, cond_true, x4]
          exact ⟨v4, ((f1.tr f2).tr f3').tr f4, Or.inl ⟨e, rfl, rfl, q6⟩⟩
        · rw [q5, cI_some, b01_1, cond_true, x4]
          refine ⟨v4, ((f1.tr f2).tr f3').tr f4, Or.inr ⟨_, rfl, rfl, s4, o4, ?_, r1, r2⟩⟩
          have z1 := h.1.2.2.2
          have z2 := o1
          have z3 := o2
          unfold tOkk at z1 z2 z3
          show T.2.1 < a4.2.1
          omega
  · rw [bI_f c0, if_pos rfl, if_neg c0]
    refine xR_err hk FR.rfl' (e := (1, T.2.1)) ?_ h.1.2.1.2.1
    rw [gd_O hk.1, Rd_fail hk, cI_some, b01_0, cond_true]
/-- the draft alone has changed -/
theorem RdS_dr {v : PM} {A' : AS} (h : RdS u r b n q T A) (f : ∀ (a : Nat) (k : Int), ¬ (r + 1 ≤ a ∧ a ≤ r + 17) → v a k = u a k) (hA : absT v (r + 1) = A') (hk : kRd g r) : RdS v r b n q T A' := by
  obtain ⟨⟨⟨z0, z1, z2, z3, z4⟩, z5, z6, z7⟩, z8, z9, z10⟩ := h
  refine ⟨⟨⟨by rw [f _ _ (by omega), z0], z1, z2, fun k k0 k1 => by rw [f _ _ (by omega)]; exact z3 k k0 k1, z4⟩, ?_, ?_, z7⟩, ?_, hA, RO_fr hk (fun a k z => f a k (by omega)) z10⟩
  · rw [f r 8 (by omega), f r 9 (by omega), f r 7 (by omega)]; exact z5
  · rw [f r 10 (by omega)]; exact z6
  · rw [f r 1 (by omega), f r 2 (by omega), f r 3 (by omega)]; exact z8
/-- a board alone has changed -/
theorem absT_bd {v : PM} {t : Nat} (h : ∀ (a : Nat) (k : Int), ¬ (t + 1 ≤ a ∧ a ≤ t + 3) → v a k = u a k) : absT v t = (bdT v (t + 1), (absT u t).2) := by
  unfold absT
  rw [h (t + 4) 0 (by omega), h t 4 (by omega), h t 5 (by omega), pcT_eq (u := u) (b := t) (h _ _ (by omega)) (fun i hi k _ _ => h _ _ (by omega)), plT_o (p := t + 11) (u := u) (fun a k b1 b2 => h a k (by omega)), plT_o (p := t + 14) (u := u) (fun a k b1 b2 => h a k (by omega))]
theorem Rd_blk (hk : kRd g r) (h : RdS u r b n q T A) (hB : bOk A.bd) (hw : isW b T wBlock) (i : Int) (hi : 0 ≤ i ∧ i ≤ 600) :
    ∃ v, FR r u v ∧ ((∃ e, xBlk b n T A = .error e ∧ run M_Rd_readBlocks 2 [vA r, vI i, vN, vN] [] g u = some (0, vI 0, g, v) ∧ v r 1 = e.1 ∧ v r 2 = e.2) ∨ (∃ a : TkS × AS, xBlk b n T A = .ok a ∧ run M_Rd_readBlocks 2 [vA r, vI i, vN, vN] [] g u = run M_Rd_readBlocks 2 [vA r, vI (i + 1), vN, vN] [] g v ∧ RdS v r b n q a.1 a.2 ∧ tOkk n a.1 ∧ T.2.1 < a.1.2.1 ∧ ∃ x y, bIn A.bd x y ∧ a.2 = aBlk A x y)) := by
  have hC := hB.1
  have hR := hB.2.1
  have e0 : ∀ {v : PM} {T'}, RdS v r b n q T' A → v (r + 1 + 1) 0 = A.bd.1 ∧ v (r + 1 + 1) 1 = A.bd.2.1 ∧ bdT v (r + 1 + 1) = A.bd := fun z => by
    have := z.2.2.1
    exact ⟨congrArg (fun A => (AS.bd A).1) this, congrArg (fun A => (AS.bd A).2.1) this, congrArg AS.bd this⟩
  have hT := h.1.2.2.2
  rw [R_Rd_readBlocks_2, if_neg (by omega), gd_O hk.1, Rd_wordIs hk h.1 wTxs.2.1 (by decide), cI_some, bI_t hw, if_neg (by decide)]
  simp only [gd_O hk.1, gd_O hk.2.1.1, gd_O hk.2.1.2.1.1]
  rw [(e0 h).1, w_id (x := A.bd.1 - 1) (by omega) (by omega)]
  unfold xBlk
  obtain ⟨v1, f1, ⟨e, x1, q1, q2⟩ | ⟨a1, x1, q1, s1, r1, o1, l1, k1⟩⟩ := Rd_num (g := g) hk h 0 (A.bd.1 - 1)
  · rw [q1, cI_some, if_pos rfl, x1]
    exact ⟨v1, f1, Or.inl ⟨e, rfl, rfl, q2⟩⟩
  · change _ = some (0, vI a1.2, g, v1) at q1
    rw [q1, cI_some, if_neg (by omega), x1]
    simp only [gd_O hk.1, gd_O hk.2.1.1, gd_O hk.2.1.2.1.1]
    rw [(e0 s1).2.1, w_id (x := A.bd.2.1 - 1) (by omega) (by omega)]
    unfold xb
    simp only
    obtain ⟨v2, f2, ⟨e, x2, q3, q4⟩ | ⟨a2, x2, q3, s2, r2, o2, l2, k2⟩⟩ := Rd_num (g := g) hk s1 0 (A.bd.2.1 - 1)
    · rw [q3, cI_some, if_pos rfl, x2]
      exact ⟨v2, f1.tr f2, Or.inl ⟨e, rfl, rfl, q4⟩⟩
    · have hin : bIn A.bd a1.2 a2.2 := ⟨⟨r1.1, by omega⟩, r2.1, by omega⟩
      have hto : tOk v2 (r + 1 + 1) := tOk_of (by rw [(e0 s2).2.2]; exact hB)
      change _ = some (0, vI a2.2, g, v2) at q3
      rw [q3, cI_some, if_neg (by omega), x2]
      simp only [gd_O hk.1, gd_O hk.2.1.1, gd_O hk.2.1.2.1.1]
      rw [Tk_cellAt2 hk.2.1.2.1 hto, cI_some, (e0 s2).2.2]
      by_cases c1 : bCell A.bd a1.2 a2.2 = -2
      · rw [if_pos c1, if_pos c1, gd_O hk.1, Rd_fail hk, cI_some, b01_0, cond_true]
        exact ⟨_, fun a k z => by rw [up_o (by omega), up_o (by omega), f2 a k z, f1 a k z], Or.inl ⟨(4, a2.1.2.1), rfl, rfl, by rw [up_j (by decide), up_s], by rw [up_s, s2.1.2.1.2.1]⟩⟩
      · rw [if_neg c1, if_neg c1]
        simp only [gd_O hk.1, gd_O hk.2.1.1, gd_O hk.2.1.2.1.1]
        rw [Tk_setCell hk.2.1.2.1 hto, cV_some, (e0 s2).2.2, if_pos hin]
        obtain ⟨v3, hv3⟩ : ∃ v, v = up v2 (r + 1 + 1 + 1) (8 * a2.2 + a1.2) (-2) := ⟨_, rfl⟩
        have fv3 : ∀ (a : Nat) (k : Int), ¬ (r + 1 + 1 ≤ a ∧ a ≤ r + 1 + 3) → v3 a k = v2 a k := fun a k z => by rw [hv3, up_o (by omega)]
        have hb3 : absT v3 (r + 1) = aBlk A a1.2 a2.2 := by
          rw [absT_bd (u := v2) fv3, hv3, bdT_cell (by omega) (by omega), (e0 s2).2.2, s2.2.2.1]
          rfl
        have s3 : RdS v3 r b n q a2.1 (aBlk A a1.2 a2.2) := RdS_dr s2 (fun a k z => fv3 a k (by omega)) hb3 hk
        have f3 : FR r v2 v3 := fun a k z => fv3 a k (by omega)
        rw [gd_O hk.1, ← hv3]
        obtain ⟨v4, f4, ⟨e, x4, q5, q6⟩ | ⟨a4, x4, q5, s4, o4, l4⟩⟩ := Rd_end (g := g) hk s3
        · rw [q5, cI_some, if_pos rfl, x4]
          exact ⟨v4, ((f1.tr f2).tr f3).tr f4, Or.inl ⟨e, rfl, rfl, q6⟩⟩
        · change _ = some (0, vI 1, g, v4) at q5
          rw [q5, cI_some, if_neg (by decide), x4, w_id (x := i + 1) (by omega) (by omega)]
          refine ⟨v4, ((f1.tr f2).tr f3).tr f4, Or.inr ⟨_, rfl, rfl, s4, o4, ?_, a1.2, a2.2, hin, rfl⟩⟩
          have z2 := o1
          have z3 := o2
          unfold tOkk at hT z2 z3
          show T.2.1 < a4.2.1
          omega
theorem bOk_blk {x y : Int} (h : bOk A.bd) : bOk (aBlk A x y).bd := h
theorem Rd_blks (hk : kRd g r) : ∀ (d : Nat) (u : PM) (T : TkS) (A : AS) (i : Int), i + d = 601 → 0 ≤ i → RdS u r b n q T A → bOk A.bd → xR g u r (run M_Rd_readBlocks 2 [vA r, vI i, vN, vN] [] g u) 0 (fun _ => 1) (xBlks b n d T A) (fun a v => RdS v r b n q a.1 a.2 ∧ T.2.1 ≤ a.1.2.1 ∧ bOk a.2.bd) := by
  intro d
  induction d with
  | zero =>
    intro u T A i hi i0 h hB
    refine ⟨u, FR.rfl', Or.inr ⟨(T, A), rfl, ?_, h, Int.le_refl _, hB⟩⟩
    rw [R_Rd_readBlocks_2, if_pos (by omega)]
  | succ d ih =>
    intro u T A i hi i0 h hB
    by_cases hw : isW b T wBlock
    · obtain ⟨v, f, ⟨e, x1, q1, q2⟩ | ⟨a, x1, q1, s1, o1, l1, x, y, hin, ha⟩⟩ := Rd_blk (g := g) hk h hB hw i ⟨i0, by omega⟩
      · refine ⟨v, f, Or.inl ⟨e, ?_, q1, q2⟩⟩
        unfold xBlks
        rw [if_pos hw, x1]
        rfl
      · obtain ⟨v2, f2, hh⟩ := ih v a.1 a.2 (i + 1) (by omega) (by omega) s1 (by rw [ha]; exact hB)
        refine ⟨v2, f.tr f2, ?_⟩
        rw [q1]
        have e : xBlks b n (d + 1) T A = xBlks b n d a.1 a.2 := by
          show (if isW b T wBlock then xb (xBlk b n T A) fun p => xBlks b n d p.1 p.2 else .ok (T, A)) = _
          rw [if_pos hw, x1]
          rfl
        rw [e]
        rcases hh with hh | ⟨p, y1, y2, y3, y4, y5⟩
        · exact Or.inl hh
        · exact Or.inr ⟨p, y1, y2, y3, by omega, y5⟩
    · refine ⟨u, FR.rfl', Or.inr ⟨(T, A), ?_, ?_, h, Int.le_refl _, hB⟩⟩
      · unfold xBlks
        rw [if_neg hw]
      · rw [R_Rd_readBlocks_2, if_neg (by omega), gd_O hk.1, Rd_wordIs hk h.1 wTxs.2.1 (by decide), cI_some, bI_f hw, if_pos rfl]
theorem Rd_edge (hk : kRd g r) (h : RdS u r b n q T A) (hB : bOk A.bd) : xR g u r (call M_Rd_readEdge [vA r] g u) 0 (fun _ => 1) (xEdge b n T A.bd) (fun a v => RdS v r b n q a.1 A ∧ (v r 11 = a.2.1 ∧ v r 12 = a.2.2.1 ∧ v r 13 = a.2.2.2) ∧ ((a.2.2.2 = 0 ∨ a.2.2.2 = 1) ∧ bEdge A.bd a.2.1 a.2.2.1 a.2.2.2) ∧ T.2.2.1 ≤ a.1.2.1) := by
  have hC := hB.1
  have hR := hB.2.1
  have e0 : ∀ {v : PM} {T'}, RdS v r b n q T' A → v (r + 1 + 1) 0 = A.bd.1 ∧ v (r + 1 + 1) 1 = A.bd.2.1 ∧ bdT v (r + 1 + 1) = A.bd := fun z => by
    have := z.2.2.1
    exact ⟨congrArg (fun A => (AS.bd A).1) this, congrArg (fun A => (AS.bd A).2.1) this, congrArg AS.bd this⟩
  have fld : ∀ {v : PM} {T'} {j w : Int}, RdS v r b n q T' A → 11 ≤ j → RdS (up v r j w) r b n q T' A := fun {v T' j w} z hj => by
    obtain ⟨⟨⟨z0, z1, z2, z3, z4⟩, z5, z6, z7⟩, z8, z9, z10⟩ := z
    refine ⟨⟨⟨by rw [up_j (by omega), z0], z1, z2, fun k k0 k1 => by rw [up_o (by omega)]; exact z3 k k0 k1, z4⟩, ?_, ?_, z7⟩, ?_, (absT_eq fun a k b1 b2 => up_o (by omega)).trans z9, RO_fr hk (fun a k z => up_o (by omega)) z10⟩
    · rw [up_j (by omega), up_j (by omega), up_j (by omega)]; exact z5
    · rw [up_j (by omega)]; exact z6
    · rw [up_j (by omega), up_j (by omega), up_j (by omega)]; exact z8
  rw [C_Rd_readEdge]
  simp only [gd_O hk.1, gd_O hk.2.1.1, gd_O hk.2.1.2.1.1]
  rw [(e0 h).1, w_id (x := A.bd.1 - 1) (by omega) (by omega)]
  unfold xEdge
  obtain ⟨v1, f1, ⟨e, x1, q1, q2⟩ | ⟨a1, x1, q1, s1, r1, o1, l1, k1⟩⟩ := Rd_num (g := g) hk h 0 (A.bd.1 - 1)
  · rw [q1, cI_some, x1]
    simp only [gd_O hk.1]
    rw [up_s, if_pos rfl]
    exact ⟨_, fun a k z => by rw [up_o (by omega), f1 a k z], Or.inl ⟨e, rfl, rfl, by rw [up_j (by decide)]; exact q2.1, by rw [up_j (by decide)]; exact q2.2⟩⟩
  · rw [q1, cI_some, x1]
    simp only [gd_O hk.1, gd_O hk.2.1.1, gd_O hk.2.1.2.1.1]
    rw [show up v1 r 11 a1.2 r 11 = a1.2 from up_s .., if_neg (by omega)]
    obtain ⟨w1, hw1⟩ : ∃ w, w = up v1 r 11 a1.2 := ⟨_, rfl⟩
    have s1' : RdS w1 r b n q a1.1 A := by rw [hw1]; exact fld s1 (by decide)
    have g1 : FR r u w1 := fun a k z => by rw [hw1, up_o (by omega), f1 a k z]
    rw [← hw1, (e0 s1').2.1, w_id (x := A.bd.2.1 - 1) (by omega) (by omega)]
    unfold xb
    simp only
    obtain ⟨v2, f2, ⟨e, x2, q3, q4⟩ | ⟨a2, x2, q3, s2, r2, o2, l2, k2⟩⟩ := Rd_num (g := g) hk s1' 0 (A.bd.2.1 - 1)
    · rw [q3, cI_some, x2]
      simp only [gd_O hk.1]
      rw [up_s, if_pos rfl]
      exact ⟨_, fun a k z => by rw [up_o (by omega), f2 a k z, g1 a k z], Or.inl ⟨e, rfl, rfl, by rw [up_j (by decide)]; exact q4.1, by rw [up_j (by decide)]; exact q4.2⟩⟩
    · rw [q3, cI_some, x2]
      simp only [gd_O hk.1]
      rw [show up v2 r 12 a2.2 r 12 = a2.2 from up_s .., if_neg (by omega)]
      obtain ⟨w2, hw2⟩ : ∃ w, w = up v2 r 12 a2.2 := ⟨_, rfl⟩
      have s2' : RdS w2 r b n q a2.1 A := by rw [hw2]; exact fld s2 (by decide)
      have g2 : FR r u w2 := fun a k z => by rw [hw2, up_o (by omega), f2 a k z, g1 a k z]
      have w11 : w2 r 11 = a1.2 := by rw [hw2, up_j (by decide), k2 11 (by decide), hw1, up_s]
      have w12 : w2 r 12 = a2.2 := by rw [hw2, up_s]
      have hin : bIn A.bd a1.2 a2.2 := ⟨⟨r1.1, by omega⟩, r2.1, by omega⟩
      obtain ⟨v3, e3, t3, f3⟩ := Rd_next2 (g := g) hk s2'.1
      have s3 := RdS_tok s2' t3 f3 hk
      have g3 : FR r u v3 := g2.tr f3.fr
      obtain ⟨T3, hT3⟩ : ∃ T3, T3 = tkAt b n a2.1.2.2.1 := ⟨_, rfl⟩
      have tk3 := tkAt_ok (b := b) (n := n) (p := a2.1.2.2.1) (by unfold tOkk at o2; omega) o2.2.2.1
      rw [← hT3] at s3 t3 tk3
      have hT := h.1.2.2.2
      have lT : T.2.2.1 ≤ T3.2.1 := by
        unfold tOkk at o1 o2
        omega
      have v11 : v3 r 11 = a1.2 := by rw [f3 r 11 (by omega), w11]
      have v12 : v3 r 12 = a2.2 := by rw [f3 r 12 (by omega), w12]
      rw [← hw2, e3, cV_some, gd_O hk.1, Rd_wordIs hk t3 wTxs.2.2.2.1 (by decide), cI_some]
      have p90 : ∀ c : Int, (isW b T3 wRight ∨ isW b T3 wBelow) → (c = if isW b T3 wRight then 0 else 1) → xR g u r (run M_Rd_readEdge 90 [vA r] [] g v3) 0 (fun _ => 1) (if bEdge A.bd a1.2 a2.2 c then (.ok (T3, a1.2, a2.2, c) : Except ER (TkS × Int × Int × Int)) else .error (3, T3.2.1)) (fun a v => RdS v r b n q a.1 A ∧ (v r 11 = a.2.1 ∧ v r 12 = a.2.2.1 ∧ v r 13 = a.2.2.2) ∧ ((a.2.2.2 = 0 ∨ a.2.2.2 = 1) ∧ bEdge A.bd a.2.1 a.2.2.1 a.2.2.2) ∧ T.2.2.1 ≤ a.1.2.1) := by
        intro c hw hc
        have c01 : c = 0 ∨ c = 1 := by rw [hc]; split <;> omega
        have p105 : xR g u r (run M_Rd_readEdge 105 [vA r] [vI c, vA r] g v3) 0 (fun _ => 1) (if bEdge A.bd a1.2 a2.2 c then (.ok (T3, a1.2, a2.2, c) : Except ER (TkS × Int × Int × Int)) else .error (3, T3.2.1)) (fun a v => RdS v r b n q a.1 A ∧ (v r 11 = a.2.1 ∧ v r 12 = a.2.2.1 ∧ v r 13 = a.2.2.2) ∧ ((a.2.2.2 = 0 ∨ a.2.2.2 = 1) ∧ bEdge A.bd a.2.1 a.2.2.1 a.2.2.2) ∧ T.2.2.1 ≤ a.1.2.1) := by
          obtain ⟨v4, hv4⟩ : ∃ w, w = up v3 r 13 c := ⟨_, rfl⟩
          have s4 : RdS v4 r b n q T3 A := by rw [hv4]; exact fld s3 (by decide)
          have g4 : FR r u v4 := fun a k z => by rw [hv4, up_o (by omega), g3 a k z]
          have y11 : v4 r 11 = a1.2 := by rw [hv4, up_j (by decide), v11]
          have y12 : v4 r 12 = a2.2 := by rw [hv4, up_j (by decide), v12]
          have y13 : v4 r 13 = c := by rw [hv4, up_s]
          have hto : tOk v4 (r + 1 + 1) := tOk_of (by rw [(e0 s4).2.2]; exact hB)
          rw [R_Rd_readEdge_105]
          simp only [gd_O hk.1, gd_O hk.2.1.1, gd_O hk.2.1.2.1.1]
          rw [← hv4, y11, y12, y13, Tk_holdsEdge hk.2.1.2.1 hto, cI_some, (e0 s4).2.2]
          by_cases hE : bEdge A.bd a1.2 a2.2 c
          · rw [bI_t hE, if_neg (by decide), if_pos hE]
            exact ⟨v4, g4, Or.inr ⟨_, rfl, rfl, s4, ⟨y11, y12, y13⟩, ⟨c01, hE⟩, lT⟩⟩
          · rw [bI_f hE, if_pos rfl, if_neg hE]
            refine xR_err hk g4 (e := (3, T3.2.1)) ?_ s4.1.2.1.2.1
            rw [gd_O hk.1, Rd_fail hk, cI_some, if_pos rfl]
        rw [R_Rd_readEdge_90, gd_O hk.1, Rd_wordIs hk t3 wTxs.2.2.2.1 (by decide), cI_some]
        by_cases z : isW b T3 wRight
        · rw [if_pos z] at hc
          subst hc
          rw [bI_t z, if_neg (show ¬ (1 : Int) = 0 by decide)]
          exact p105
        · rw [if_neg z] at hc
          subst hc
          rw [bI_f z, if_pos rfl]
          exact p105
      show xR g u r _ 0 (fun _ => 1) (if isW b (tkAt b n a2.1.2.2.1) wRight ∨ isW b (tkAt b n a2.1.2.2.1) wBelow then (if bEdge A.bd a1.2 a2.2 (if isW b (tkAt b n a2.1.2.2.1) wRight then 0 else 1) then .ok (tkAt b n a2.1.2.2.1, a1.2, a2.2, if isW b (tkAt b n a2.1.2.2.1) wRight then 0 else 1) else .error (3, (tkAt b n a2.1.2.2.1).2.1)) else .error (1, (tkAt b n a2.1.2.2.1).2.1)) _
      rw [← hT3]
      by_cases z1 : isW b T3 wRight
      · rw [bI_t z1, if_neg (show ¬ (1 : Int) = 0 by decide), if_pos (Or.inl z1)]
        exact p90 _ (Or.inl z1) rfl
      · rw [bI_f z1, if_pos rfl, gd_O hk.1, Rd_wordIs hk t3 wTxs.2.2.2.2.1 (by decide), cI_some]
        by_cases z2 : isW b T3 wBelow
        · rw [bI_t z2, if_neg (show ¬ (1 : Int) = 0 by decide), if_pos (Or.inr z2)]
          exact p90 _ (Or.inr z2) rfl
        · rw [bI_f z2, if_pos rfl, if_neg (fun z => z.elim z1 z2)]
          refine xR_err hk g3 (e := (1, T3.2.1)) ?_ s3.1.2.1.2.1
          rw [gd_O hk.1, Rd_fail hk, cI_some, b01_0, cond_true]
theorem bcl_i32 {x y s : Int} {B : Bd} (hB : bOk B) (h : bIn B x y) : i32 x ∧ i32 y := by
  have h1 := hB.1
  have h2 := hB.2.1
  obtain ⟨⟨a1, a2⟩, a3, a4⟩ := h
  exact ⟨⟨by omega, by omega⟩, by omega, by omega⟩
theorem Rd_stp (hk : kRd g r) (h : RdS u r b n q T A) (hB : bOk A.bd) (hw : isW b T wStrap) (i : Int) (hi : 0 ≤ i ∧ i ≤ 600) :
    ∃ v, FR r u v ∧ ((∃ e, xStp b n T A = .error e ∧ run M_Rd_readFreeStraps 2 [vA r, vI i] [] g u = some (0, vI 0, g, v) ∧ v r 1 = e.1 ∧ v r 2 = e.2) ∨ (∃ a : TkS × AS, xStp b n T A = .ok a ∧ run M_Rd_readFreeStraps 2 [vA r, vI i] [] g u = run M_Rd_readFreeStraps 2 [vA r, vI (i + 1)] [] g v ∧ RdS v r b n q a.1 a.2 ∧ tOkk n a.1 ∧ T.2.1 < a.1.2.1 ∧ ∃ x y s, (s = 0 ∨ s = 1) ∧ bEdge A.bd x y s ∧ (bCell A.bd x y ≠ -2 ∧ bBey A.bd x y s ≠ -2) ∧ a.2 = aStp A x y s)) := by
  have e0 : ∀ {v : PM} {T'}, RdS v r b n q T' A → bdT v (r + 1 + 1) = A.bd := fun z => congrArg AS.bd z.2.2.1
  have hT := h.1.2.2.2
  rw [R_Rd_readFreeStraps_2, if_neg (by omega), gd_O hk.1, Rd_wordIs hk h.1 wTxs.2.2.1 (by decide), cI_some, bI_t hw, if_neg (by decide), gd_O hk.1]
  unfold xStp
  obtain ⟨v1, f1, ⟨e, x1, q1, q2⟩ | ⟨a1, x1, q1, s1, ⟨y11, y12, y13⟩, ⟨hs, hE⟩, l1⟩⟩ := Rd_edge (g := g) hk h hB
  · rw [q1, cI_some, if_pos rfl, x1]
    exact ⟨v1, f1, Or.inl ⟨e, rfl, rfl, q2⟩⟩
  · have hto : tOk v1 (r + 1 + 1) := tOk_of (by rw [e0 s1]; exact hB)
    have i3 := bcl_i32 (s := 0) hB hE.1
    change _ = some (0, vI 1, g, v1) at q1
    rw [q1, cI_some, if_neg (by decide), x1]
    simp only [gd_O hk.1, gd_O hk.2.1.1, gd_O hk.2.1.2.1.1]
    rw [y11, y12, y13, Tk_strapAt2 hk.2.1.2.1 hto, cI_some, e0 s1]
    unfold xb
    simp only
    by_cases c1 : bStrap A.bd a1.2.1 a1.2.2.1 a1.2.2.2 = 0
    · rw [if_pos c1, if_neg (fun z => z c1)]
      simp only [gd_O hk.1, gd_O hk.2.1.1, gd_O hk.2.1.2.1.1]
      rw [y11, y12, y13, Tk_isEdgeBlocked hk.2.1.2.1 hto i3.1 i3.2, cI_some, e0 s1]
      by_cases c2 : bCell A.bd a1.2.1 a1.2.2.1 = -2 ∨ bBey A.bd a1.2.1 a1.2.2.1 a1.2.2.2 = -2
      · rw [bI_t c2, if_neg (show ¬ (1 : Int) = 0 by decide), if_pos c2, gd_O hk.1, Rd_fail hk, cI_some, b01_0, cond_true]
        exact ⟨_, fun a k z => by rw [up_o (by omega), up_o (by omega), f1 a k z], Or.inl ⟨(5, a1.1.2.1), rfl, rfl, by rw [up_j (by decide), up_s], by rw [up_s, s1.1.2.1.2.1]⟩⟩
      · rw [bI_f c2, if_pos rfl, if_neg c2]
        simp only [gd_O hk.1, gd_O hk.2.1.1, gd_O hk.2.1.2.1.1]
        rw [y11, y12, y13, Tk_setStrap hk.2.1.2.1 hto, cV_some, e0 s1, if_pos (show (0 ≤ a1.2.2.2 ∧ a1.2.2.2 < 2) ∧ bEdge A.bd a1.2.1 a1.2.2.1 a1.2.2.2 from ⟨by omega, hE⟩)]
        obtain ⟨v3, hv3⟩ : ∃ v, v = up v1 (r + 1 + 1 + 2) (2 * (8 * a1.2.2.1 + a1.2.1) + a1.2.2.2) 1 := ⟨_, rfl⟩
        have fv3 : ∀ (a : Nat) (k : Int), ¬ (r + 1 + 1 ≤ a ∧ a ≤ r + 1 + 3) → v3 a k = v1 a k := fun a k z => by rw [hv3, up_o (by omega)]
        have hx := hE.1
        have hC := hB.1
        have hR := hB.2.1
        have hx1 := hx.1
        have hx2 := hx.2
        have hb3 : absT v3 (r + 1) = aStp A a1.2.1 a1.2.2.1 a1.2.2.2 := by
          rw [absT_bd (u := v1) fv3, hv3, bdT_strap (by omega) (by omega), e0 s1, s1.2.2.1]
          rfl
        have s3 : RdS v3 r b n q a1.1 (aStp A a1.2.1 a1.2.2.1 a1.2.2.2) := RdS_dr s1 (fun a k z => fv3 a k (by omega)) hb3 hk
        have f3 : FR r v1 v3 := fun a k z => fv3 a k (by omega)
        rw [gd_O hk.1, ← hv3]
        obtain ⟨v4, f4, ⟨e, x4, q5, q6⟩ | ⟨a4, x4, q5, s4, o4, l4⟩⟩ := Rd_end (g := g) hk s3
        · rw [q5, cI_some, if_pos rfl, x4]
          exact ⟨v4, (f1.tr f3).tr f4, Or.inl ⟨e, rfl, rfl, q6⟩⟩
        · change _ = some (0, vI 1, g, v4) at q5
          rw [q5, cI_some, if_neg (by decide), x4, w_id (x := i + 1) (by omega) (by omega)]
          refine ⟨v4, (f1.tr f3).tr f4, Or.inr ⟨_, rfl, rfl, s4, o4, ?_, a1.2.1, a1.2.2.1, a1.2.2.2, hs, hE, ⟨fun z => c2 (Or.inl z), fun z => c2 (Or.inr z)⟩, rfl⟩⟩
          have z2 := s1.1.2.2.2
          unfold tOkk at hT z2
          show T.2.1 < a4.2.1
          omega
    · rw [if_neg c1, if_pos c1, gd_O hk.1, Rd_fail hk, cI_some, b01_0, cond_true]
      exact ⟨_, fun a k z => by rw [up_o (by omega), up_o (by omega), f1 a k z], Or.inl ⟨(4, a1.1.2.1), rfl, rfl, by rw [up_j (by decide), up_s], by rw [up_s, s1.1.2.1.2.1]⟩⟩
theorem Rd_stps (hk : kRd g r) : ∀ (d : Nat) (u : PM) (T : TkS) (A : AS) (i : Int), i + d = 601 → 0 ≤ i → RdS u r b n q T A → bOk A.bd → xR g u r (run M_Rd_readFreeStraps 2 [vA r, vI i] [] g u) 0 (fun _ => 1) (xStps b n d T A) (fun a v => RdS v r b n q a.1 a.2 ∧ T.2.1 ≤ a.1.2.1 ∧ bOk a.2.bd) := by
  intro d
  induction d with
  | zero =>
    intro u T A i hi i0 h hB
    refine ⟨u, FR.rfl', Or.inr ⟨(T, A), rfl, ?_, h, Int.le_refl _, hB⟩⟩
    rw [R_Rd_readFreeStraps_2, if_pos (by omega)]
  | succ d ih =>
    intro u T A i hi i0 h hB
    by_cases hw : isW b T wStrap
    · obtain ⟨v, f, ⟨e, x1, q1, q2⟩ | ⟨a, x1, q1, s1, o1, l1, x, y, s, hs, hE, hcl, ha⟩⟩ := Rd_stp (g := g) hk h hB hw i ⟨i0, by omega⟩
      · refine ⟨v, f, Or.inl ⟨e, ?_, q1, q2⟩⟩
        unfold xStps
        rw [if_pos hw, x1]
        rfl
      · obtain ⟨v2, f2, hh⟩ := ih v a.1 a.2 (i + 1) (by omega) (by omega) s1 (by rw [ha]; exact bOk_SS hB _)
        refine ⟨v2, f.tr f2, ?_⟩
        rw [q1]
        have e : xStps b n (d + 1) T A = xStps b n d a.1 a.2 := by
          show (if isW b T wStrap then xb (xStp b n T A) fun p => xStps b n d p.1 p.2 else .ok (T, A)) = _
          rw [if_pos hw, x1]
          rfl
        rw [e]
        rcases hh with hh | ⟨p, y1, y2, y3, y4, y5⟩
        · exact Or.inl hh
        · exact Or.inr ⟨p, y1, y2, y3, by omega, y5⟩
    · refine ⟨u, FR.rfl', Or.inr ⟨(T, A), ?_, ?_, h, Int.le_refl _, hB⟩⟩
      · unfold xStps
        rw [if_neg hw]
      · rw [R_Rd_readFreeStraps_2, if_neg (by omega), gd_O hk.1, Rd_wordIs hk h.1 wTxs.2.2.1 (by decide), cI_some, bI_f hw, if_pos rfl]
end
