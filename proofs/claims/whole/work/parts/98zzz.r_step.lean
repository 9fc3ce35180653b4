/-! ===== the reference: right or wrong; numbers, sides, ends, blocks, edges ===== -/
def MdS (u : PM) (t : Nat) (b : Int → Int) (n : Int) (T : TkS) (A : AS) : Prop := MdT u t b n T ∧ (u t 22 = 0 ∧ u t 15 = 0 ∧ u t 16 = -1) ∧ absM (u (t + 1)) = A
def MdE (u : PM) (t : Nat) (b : Int → Int) (n : Int) (e : ER) : Prop := (∃ T, MdT u t b n T) ∧ u t 22 = 1 ∧ u t 15 = e.1 ∧ u t 16 = e.2
/-- what the reference's reading may alter -/
def FP (t : Nat) (u u' : PM) : Prop := ∀ (a : Nat) (k : Int), ¬ (a = t ∧ 15 ≤ k ∧ k ≤ 23) → a ≠ t + 1 → a ≠ t + 9 → a ≠ t + 10 → u' a k = u a k
theorem FP.tr {t : Nat} {u v x : PM} (h : FP t u v) (h' : FP t v x) : FP t u x := fun a k h1 h2 h3 h4 => (h' a k h1 h2 h3 h4).trans (h a k h1 h2 h3 h4)
theorem FP.rfl' {t : Nat} {u : PM} : FP t u u := fun _ _ _ _ _ _ => rfl
theorem FTM.fp {t : Nat} {u v : PM} (h : FTM t u v) : FP t u v := fun a k z _ _ _ => h a k (by omega)
theorem Fs.fp {t : Nat} {u v : PM} (h : Fs t u v) : FP t u v := fun a k z1 z2 z3 z4 => h a k (by omega) z3 z4 z2
theorem Fm.fp {t : Nat} {u v : PM} (h : Fm t u v) : FP t u v := fun a k z1 _ z3 z4 => h a k (by omega) z3 z4
/-- an error noted -/
def wE (u : PM) (t : Nat) (c : Int) : PM := up (up (up u t 22 1) t 15 c) t 16 (u t 19)
theorem xNum_y {b : Int → Int} {n lo hi z : Int} {T : TkS} (h : xHere (tkAt b n T.2.2.1) lo hi = .ok z) : xNum b n T lo hi = .ok (tkAt b n T.2.2.1, z) := by unfold xNum; rw [h]; rfl
theorem xNum_n {b : Int → Int} {n lo hi : Int} {T : TkS} {e : ER} (h : xHere (tkAt b n T.2.2.1) lo hi = .error e) : xNum b n T lo hi = .error e := by unfold xNum; rw [h]; rfl
section
variable {g : PG} {u : PM} {t : Nat} {b : Int → Int} {n : Int} {T : TkS} {A : AS}
theorem MdT.fr {v : PM} (h : MdT u t b n T) (f : ∀ (a : Nat) (k : Int), ¬ (a = t ∧ k ≠ 13 ∧ ¬ (18 ≤ k ∧ k ≤ 21)) → a ≠ t + 1 → a ≠ t + 9 → a ≠ t + 10 → v a k = u a k) : MdT v t b n T := by
  have f' : ∀ k : Int, 18 ≤ k → k ≤ 21 → v t k = u t k := fun k k0 k1 => f t k (by omega) (by omega) (by omega) (by omega)
  refine ⟨h.1.fr fun a k z z2 z3 z4 => f a k (by omega) z2 z3 z4, ?_, ?_, h.2.2.2⟩
  · rw [f' 18 (by decide) (by decide), f' 19 (by decide) (by decide), f' 20 (by decide) (by decide)]; exact h.2.1
  · rw [f' 21 (by decide) (by decide)]; exact h.2.2.1
theorem MdS.fr {v : PM} {A' : AS} (h : MdS u t b n T A) (f : ∀ (a : Nat) (k : Int), ¬ (a = t ∧ (k = 17 ∨ k = 23)) → a ≠ t + 1 → a ≠ t + 9 → a ≠ t + 10 → v a k = u a k) (hA : absM (v (t + 1)) = A') : MdS v t b n T A' := by
  refine ⟨h.1.fr fun a k z1 z2 z3 z4 => f a k (by omega) z2 z3 z4, ?_, hA⟩
  rw [f t 22 (by omega) (by omega) (by omega) (by omega), f t 15 (by omega) (by omega) (by omega) (by omega), f t 16 (by omega) (by omega) (by omega) (by omega)]
  exact h.2.1
theorem MdE.fr {v : PM} {e : ER} (h : MdE u t b n e) (f : ∀ (a : Nat) (k : Int), ¬ (a = t ∧ (k = 17 ∨ k = 23)) → a ≠ t + 1 → a ≠ t + 9 → a ≠ t + 10 → v a k = u a k) : MdE v t b n e := by
  obtain ⟨⟨T, hT⟩, h2⟩ := h
  refine ⟨⟨T, hT.fr fun a k z1 z2 z3 z4 => f a k (by omega) z2 z3 z4⟩, ?_⟩
  rw [f t 22 (by omega) (by omega) (by omega) (by omega), f t 15 (by omega) (by omega) (by omega) (by omega), f t 16 (by omega) (by omega) (by omega) (by omega)]
  exact h2
theorem wE_E (h : MdT u t b n T) (c : Int) : MdE (wE u t c) t b n (c, T.2.1) ∧ FP t u (wE u t c) := by
  unfold wE
  refine ⟨⟨⟨T, h.fr fun a k z z2 z3 z4 => by rw [up_n (by omega), up_n (by omega), up_n (by omega)]⟩, by rw [up_j (by decide), up_j (by decide), up_s], by rw [up_j (by decide), up_s], by rw [up_s]; exact h.2.1.2.1⟩, fun a k z _ _ _ => by rw [up_n (by omega), up_n (by omega), up_n (by omega)]⟩
theorem W_wrong (hk : kMd g t) (h : u t 22 = 1) (s c : Int) : call M_TM_wrong [vA t, vI s, vI c] g u = some (0, vN, g, u) := by
  rw [C_TM_wrong, gd_O hk.1.1, if_neg (by omega)]
theorem W_go (hk : kMd g t) (h : u t 22 = 1) : call M_TM_go [vA t] g u = some (0, vN, g, u) := by
  rw [C_TM_go, gd_O hk.1.1, if_neg (by omega)]
theorem W_here (hk : kMd g t) (h : u t 22 = 1) (lo hi : Int) : call M_TM_here [vA t, vI lo, vI hi] g u = some (0, vI lo, g, u) := by
  have h43 : ∀ s : Int, run M_TM_here 43 [vA t, vI lo, vI hi] [vI s, vA t] g u = some (0, vI lo, g, u) := fun s => by
    rw [R_TM_here_43, gd_O hk.1.1, W_wrong hk h, cV_some, gd_O hk.1.1, if_neg (by omega)]
  have h14 : ∀ s : Int, run M_TM_here 14 [vA t, vI lo, vI hi] [vI s, vA t] g u = some (0, vI lo, g, u) := fun s => by
    rw [R_TM_here_14, gd_O hk.1.1, W_wrong hk h, cV_some, gd_O hk.1.1, if_neg (by omega), h43]
  rw [C_TM_here, gd_O hk.1.1]
  split <;> exact h14 _
theorem W_number (hk : kMd g t) (h : u t 22 = 1) (lo hi : Int) : call M_TM_number [vA t, vI lo, vI hi] g u = some (0, vI lo, g, u) := by
  rw [C_TM_number, gd_O hk.1.1, W_here hk h, cI_some, gd_O hk.1.1, W_go hk h, cV_some]
theorem W_semi (hk : kMd g t) (h : u t 22 = 1) : call M_TM_semicolon [vA t] g u = some (0, vN, g, u) := by
  have h14 : ∀ s : Int, run M_TM_semicolon 14 [vA t] [vI s, vA t] g u = some (0, vN, g, u) := fun s => by
    rw [R_TM_semicolon_14, gd_O hk.1.1, W_wrong hk h, cV_some, gd_O hk.1.1, W_go hk h, cV_some]
  rw [C_TM_semicolon, gd_O hk.1.1]
  split <;> exact h14 _
theorem W_side (hk : kMd g t) (h : u t 22 = 1) (hT : MdT u t b n T) : ∃ v, (v = 0 ∨ v = 1) ∧ call M_TM_sideHere [vA t] g u = some (0, vI v, g, u) := by
  rw [C_TM_sideHere, gd_O hk.1.1, TM_is hk hT wTxs.2.2.2.1 (by decide), cI_some]
  have h39 : ∀ s v : Int, run M_TM_sideHere 39 [vA t, vI v] [vI s, vA t] g u = some (0, vI (max2 0 v), g, u) := fun s v => by
    rw [R_TM_sideHere_39, gd_O hk.1.1, W_wrong hk h, cV_some]
  have h27 : ∀ v : Int, run M_TM_sideHere 27 [vA t, vN] [vI v] g u = some (0, vI (max2 0 v), g, u) := fun v => by
    rw [R_TM_sideHere_27]
    split <;> exact h39 _ _
  by_cases c1 : isW b T wRight
  · rw [bI_t c1, if_neg (by decide), h27]
    exact ⟨_, Or.inl rfl, rfl⟩
  · rw [bI_f c1, if_pos rfl, gd_O hk.1.1, TM_is hk hT wTxs.2.2.2.2.1 (by decide), cI_some]
    by_cases c2 : isW b T wBelow
    · rw [bI_t c2, if_neg (by decide), h27]
      exact ⟨_, Or.inr rfl, rfl⟩
    · rw [bI_f c2, if_pos rfl, h27]
      exact ⟨_, Or.inl rfl, rfl⟩
theorem G_w0 (hk : kMd g t) (c : Int) : call M_TM_wrong [vA t, vI 0, vI c] g u = some (0, vN, g, u) := by
  rw [C_TM_wrong, gd_O hk.1.1, if_pos rfl]
  split <;> rfl
theorem G_w1 (hk : kMd g t) (h : u t 22 = 0) (c : Int) : call M_TM_wrong [vA t, vI 1, vI c] g u = some (0, vN, g, wE u t c) := by
  rw [C_TM_wrong]
  simp only [gd_O hk.1.1]
  rw [if_pos h, if_neg (by decide), b01_1, cond_true, up_j (by decide), up_j (by decide)]
  rfl
theorem G_go (hk : kMd g t) (h : MdS u t b n T A) : ∃ v, call M_TM_go [vA t] g u = some (0, vN, g, v) ∧ MdS v t b n (tkAt b n T.2.2.1) A ∧ FP t u v := by
  obtain ⟨⟨hB, h1, h2, t1, t2, t3, t4⟩, h3, h4⟩ := h
  obtain ⟨v, e1, m1, f1⟩ := TM_next (g := g) hk hB (by omega) (by omega)
  rw [h1.2.2] at m1
  refine ⟨v, ?_, ⟨m1, ?_, ?_⟩, f1.fp⟩
  · rw [C_TM_go, gd_O hk.1.1, if_pos h3.1, gd_O hk.1.1, e1, cV_some]
  · rw [f1 t 22 (by omega), f1 t 15 (by omega), f1 t 16 (by omega)]; exact h3
  · rw [show v (t + 1) = u (t + 1) from funext fun k => f1 _ k (by omega)]; exact h4
theorem G_here (hk : kMd g t) (h : MdS u t b n T A) {lo hi : Int} (hhi : hi ≤ 999) : (∃ v, xHere T lo hi = .ok v ∧ (lo ≤ v ∧ v ≤ hi) ∧ call M_TM_here [vA t, vI lo, vI hi] g u = some (0, vI v, g, u)) ∨ (∃ e : ER, xHere T lo hi = .error e ∧ e.2 = T.2.1 ∧ call M_TM_here [vA t, vI lo, vI hi] g u = some (0, vI lo, g, wE u t e.1)) := by
  have w22 : ∀ c : Int, wE u t c t 22 = 1 := fun c => by unfold wE; rw [up_j (by decide), up_j (by decide), up_s]
  rw [C_TM_here, gd_O hk.1.1, h.1.2.1.1]
  by_cases c0 : T.1 = 2
  · rw [if_pos c0, R_TM_here_14, gd_O hk.1.1, G_w0 hk, cV_some, gd_O hk.1.1, if_pos h.2.1.1, gd_O hk.1.1, TM_isIn, cI_some]
    have hv := h.1.2.2.1 c0
    have hm := min2_or (u t 21) 1000
    by_cases c1 : lo ≤ u t 21 ∧ u t 21 ≤ hi
    · have hX : xHere T lo hi = .ok (u t 21) := by
        unfold xHere
        rw [if_pos c0, if_pos (by omega), show T.2.2.2 = u t 21 by omega]
      refine Or.inl ⟨_, hX, c1, ?_⟩
      rw [bI_t c1, if_neg (by decide), R_TM_here_43, gd_O hk.1.1, G_w0 hk, cV_some, gd_O hk.1.1, if_pos h.2.1.1, gd_O hk.1.1]
    · have hX : xHere T lo hi = .error (2, T.2.1) := by
        unfold xHere
        rw [if_pos c0, if_neg (by omega)]
      refine Or.inr ⟨_, hX, rfl, ?_⟩
      rw [bI_f c1, if_pos rfl, R_TM_here_43, gd_O hk.1.1, G_w1 hk h.2.1.1, cV_some, gd_O hk.1.1, if_neg (by rw [w22]; decide)]
  · have hX : xHere T lo hi = .error (1, T.2.1) := by
      unfold xHere
      rw [if_neg c0]
    refine Or.inr ⟨_, hX, rfl, ?_⟩
    rw [if_neg c0, R_TM_here_14, gd_O hk.1.1, G_w1 hk h.2.1.1, cV_some, gd_O hk.1.1, if_neg (by rw [w22]; decide), R_TM_here_43, gd_O hk.1.1, W_wrong hk (w22 _), cV_some, gd_O hk.1.1, if_neg (by rw [w22]; decide)]
theorem G_number (hk : kMd g t) (h : MdS u t b n T A) {lo hi : Int} (hhi : hi ≤ 999) : (∃ v z, xHere T lo hi = .ok z ∧ (lo ≤ z ∧ z ≤ hi) ∧ call M_TM_number [vA t, vI lo, vI hi] g u = some (0, vI z, g, v) ∧ MdS v t b n (tkAt b n T.2.2.1) A ∧ FP t u v) ∨ (∃ (v : PM) (e : ER), xHere T lo hi = .error e ∧ call M_TM_number [vA t, vI lo, vI hi] g u = some (0, vI lo, g, v) ∧ MdE v t b n e ∧ FP t u v) := by
  rw [C_TM_number, gd_O hk.1.1]
  rcases G_here (g := g) (lo := lo) (hi := hi) hk h hhi with ⟨z, x1, x2, x3⟩ | ⟨e, x1, x2, x3⟩
  · obtain ⟨v, e1, m1, f1⟩ := G_go (g := g) hk h
    refine Or.inl ⟨v, z, x1, x2, ?_, m1, f1⟩
    rw [x3, cI_some, gd_O hk.1.1, e1, cV_some]
  · obtain ⟨w1, w2⟩ := wE_E h.1 e.1
    rw [← x2] at w1
    refine Or.inr ⟨_, e, x1, ?_, w1, w2⟩
    rw [x3, cI_some, gd_O hk.1.1, W_go hk w1.2.1, cV_some]
/-- an answer of the reference's reading -/
def xM (g : PG) (u : PM) (t : Nat) (b : Int → Int) (n : Int) (c : Option PO) (X : Except ER (TkS × AS)) : Prop :=
  ∃ v, c = some (0, vN, g, v) ∧ FP t u v ∧ ((∃ e, X = .error e ∧ MdE v t b n e) ∨ (∃ a, X = .ok a ∧ MdS v t b n a.1 a.2))
theorem xM_tr {v : PM} {c : Option PO} {X : Except ER (TkS × AS)} (f : FP t u v) (h : xM g v t b n c X) : xM g u t b n c X := by
  obtain ⟨x, h1, h2, h3⟩ := h
  exact ⟨x, h1, f.tr h2, h3⟩
theorem xM_er {v : PM} {c : Option PO} {X : Except ER (TkS × AS)} {e : ER} (f : FP t u v) (hX : X = .error e) (hc : c = some (0, vN, g, v)) (hE : MdE v t b n e) : xM g u t b n c X := ⟨v, hc, f, Or.inl ⟨e, hX, hE⟩⟩
/-- a semicolon at the next token -/
theorem G_end (hk : kMd g t) (h : MdS u t b n T A) : ∃ v, call M_TM_go [vA t] g u = some (0, vN, g, v) ∧ xM g u t b n (call M_TM_semicolon [vA t] g v) (xb (xEnd b n T) fun T' => .ok (T', A)) := by
  obtain ⟨v, e1, m1, f1⟩ := G_go (g := g) hk h
  refine ⟨v, e1, ?_⟩
  rw [C_TM_semicolon, gd_O hk.1.1, m1.1.2.1.1]
  unfold xEnd
  by_cases c : (tkAt b n T.2.2.1).1 = 3
  · obtain ⟨x, e2, m2, f2⟩ := G_go (g := g) hk m1
    rw [if_pos c, if_pos c, R_TM_semicolon_14, gd_O hk.1.1, G_w0 hk, cV_some, gd_O hk.1.1, e2, cV_some]
    exact ⟨x, rfl, f1.tr f2, Or.inr ⟨_, rfl, m2⟩⟩
  · obtain ⟨w1, w2⟩ := wE_E m1.1 1
    rw [if_neg c, if_neg c, R_TM_semicolon_14, gd_O hk.1.1, G_w1 hk m1.2.1.1, cV_some, gd_O hk.1.1, W_go hk w1.2.1, cV_some]
    exact ⟨_, rfl, f1.tr w2, Or.inl ⟨_, rfl, w1⟩⟩
theorem MdS.e0 (h : MdS u t b n T A) : u (t + 1) 0 = A.bd.1 ∧ u (t + 1) 1 = A.bd.2.1 ∧ bdM (u (t + 1)) = A.bd := by
  have := h.2.2
  exact ⟨congrArg (fun A => (AS.bd A).1) this, congrArg (fun A => (AS.bd A).2.1) this, congrArg AS.bd this⟩
theorem absM_cells {m m' : Int → Int} (hn : nOk (absM m)) (h : ∀ k : Int, ¬ (33 ≤ k ∧ k < 225) → m' k = m k) : absM m' = (bdM m', (absM m).2) := by
  have n1 : m 12 ≤ 6 := hn.2.1.2
  have n2 : m 26 ≤ 6 := hn.2.2.2
  unfold absM
  rw [h 4 (by omega), pcM_o (h 4 (by omega)) (fun k k0 => h k (by omega)), plM_o (b := 5) n1 (fun k k0 k1 => h k (by omega)), plM_o (b := 19) n2 (fun k k0 k1 => h k (by omega)), h 2 (by omega), h 3 (by omega)]
theorem TM_blockTold (hk : kMd g t) (h : MdS u t b n T A) (hw : wf A) : xM g u t b n (call M_TM_blockTold [vA t] g u) (xBlk b n T A) := by
  have hC := hw.1.1.1
  have hR := hw.1.1.2.1
  have sok : ∀ {v : PM} {T'}, MdS v t b n T' A → sOk (v (t + 1)) := fun z => wf_s (by rw [z.2.2]; exact hw)
  have w55 : ∀ {y : PM} {e : ER}, MdE y t b n e → ∀ s p q : Int, run M_TM_blockTold 55 [vA t, vI p, vI q] [vI s, vA t] g y = some (0, vN, g, y) := fun {y e} z s p q => by
    have z2 := z.2.1
    rw [R_TM_blockTold_55, gd_O hk.1.1, W_wrong hk z2, cV_some, gd_O hk.1.1, if_neg (by omega)]
  obtain ⟨v1, e1, s1, f1⟩ := G_go (g := g) hk h
  rw [C_TM_blockTold, gd_O hk.1.1, e1, cV_some]
  simp only [gd_O hk.1.1]
  rw [gd_R hk.1.2.1 (by decide) (by decide), s1.e0.1, w_id (x := A.bd.1 - 1) (by omega) (by omega)]
  unfold xBlk
  rcases G_number (g := g) (lo := 0) (hi := A.bd.1 - 1) hk s1 (by omega) with ⟨v2, z2, x2, b2, e2, s2, f2⟩ | ⟨v2, e, x2, e2, s2, f2⟩
  · rw [e2, cI_some, xNum_y x2]
    simp only [gd_O hk.1.1]
    rw [gd_R hk.1.2.1 (by decide) (by decide), s2.e0.2.1, w_id (x := A.bd.2.1 - 1) (by omega) (by omega)]
    show xM g u t b n _ (xb (xNum b n (tkAt b n T.2.2.1) 0 (A.bd.2.1 - 1)) fun q => if bCell A.bd z2 q.2 = -2 then .error (4, q.1.2.1) else xb (xEnd b n q.1) fun T' => .ok (T', aBlk A z2 q.2))
    rcases G_here (g := g) (lo := 0) (hi := A.bd.2.1 - 1) hk s2 (by omega) with ⟨z3, x3, b3, e3⟩ | ⟨e, x3, x3', e3⟩
    · have hin : bIn A.bd z2 z3 := ⟨⟨b2.1, by omega⟩, b3.1, by omega⟩
      have hmo := (sok s2).1
      have hbi : bIn (bdM (v2 (t + 1))) z2 z3 := by rw [s2.e0.2.2]; exact hin
      have hcl : bCell A.bd z2 z3 = enc (v2 (t + 1) (33 + (8 * z3 + z2))) := by rw [← s2.e0.2.2]; exact bdM_cell hmo hbi
      have hen := (enc_eq (hmo.2.2.1 (8 * z3 + z2) (by omega) (by omega)).1).2.1
      rw [e3, cI_some, gd_O hk.1.1, if_pos s2.2.1.1, gd_O hk.1.1, TM_cell hk.1 hmo hbi, cI_some, xNum_y x3]
      show xM g u t b n _ (if bCell A.bd z2 z3 = -2 then .error (4, (tkAt b n (tkAt b n T.2.2.1).2.2.1).2.1) else xb (xEnd b n (tkAt b n (tkAt b n T.2.2.1).2.2.1)) fun T' => .ok (T', aBlk A z2 z3))
      rw [hcl]
      by_cases c1 : v2 (t + 1) (33 + (8 * z3 + z2)) = 1
      · obtain ⟨w1, w2⟩ := wE_E s2.1 4
        have w22 := w1.2.1
        rw [if_pos c1, if_pos (hen.mpr c1), R_TM_blockTold_55, gd_O hk.1.1, G_w1 hk s2.2.1.1, cV_some, gd_O hk.1.1, if_neg (by omega)]
        exact xM_er ((f1.tr f2).tr w2) rfl rfl w1
      · rw [if_neg c1, if_neg (fun z => c1 (hen.mp z)), R_TM_blockTold_55, gd_O hk.1.1, G_w0 hk, cV_some, gd_O hk.1.1, if_pos s2.2.1.1, gd_O hk.1.1, TM_at (by omega) (by omega), cI_some, w_id (x := 33 + (8 * z3 + z2)) (by omega) (by omega), gd_W hk.1.2.1 (by omega) (by omega), gd_O hk.1.1]
        obtain ⟨v3, hv3⟩ : ∃ v, v = up v2 (t + 1) (33 + (8 * z3 + z2)) 1 := ⟨_, rfl⟩
        have f3 : ∀ (a : Nat) (k : Int), a ≠ t + 1 → v3 a k = v2 a k := fun a k z => by rw [hv3, up_o z]
        have hs3 : v3 (t + 1) = setI (v2 (t + 1)) (33 + (8 * z3 + z2)) 1 := by rw [hv3, up_set]
        have hA3 : absM (v3 (t + 1)) = aBlk A z2 z3 := by
          rw [absM_cells (m := v2 (t + 1)) (sok s2).2.1 (fun k z => by rw [hs3, setI_o (by omega)]), bdM_cellset (m := v2 (t + 1)) (k := 8 * z3 + z2) (v := 1) (by rw [hs3, setI_o (by omega)]) (by rw [hs3, setI_o (by omega)]) (by omega) (by omega) (by rw [hs3, setI_s]) (fun j j0 j1 => by rw [hs3, setI_o j0]), s2.e0.2.2, s2.2.2]
          rfl
        have s3 : MdS v3 t b n (tkAt b n (tkAt b n T.2.2.1).2.2.1) (aBlk A z2 z3) := s2.fr (fun a k _ z _ _ => f3 a k z) hA3
        have f3' : FP t v2 v3 := fun a k _ z _ _ => f3 a k z
        rw [← hv3]
        obtain ⟨v4, e4, x4⟩ := G_end (g := g) hk s3
        rw [e4, cV_some, gd_O hk.1.1]
        obtain ⟨v5, e5, f5, x5⟩ := x4
        rw [e5, cV_some]
        exact ⟨v5, rfl, ((f1.tr f2).tr f3').tr f5, x5⟩
    · obtain ⟨w1, w2⟩ := wE_E s2.1 e.1
      rw [← x3'] at w1
      have w22 := w1.2.1
      rw [e3, cI_some, gd_O hk.1.1, if_neg (by omega), w55 w1, xNum_n x3]
      exact xM_er ((f1.tr f2).tr w2) rfl rfl w1
  · have w22 := s2.2.1
    rw [e2, cI_some, xNum_n x2]
    simp only [gd_O hk.1.1]
    rw [gd_R hk.1.2.1 (by decide) (by decide), W_here hk w22, cI_some, gd_O hk.1.1, if_neg (by omega), w55 s2]
    exact xM_er (f1.tr f2) rfl rfl s2
end
