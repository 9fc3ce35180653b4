/-! ===== the reference: dead cells ===== -/
section
variable {g : PG} {u : PM} {t : Nat} {s r x y : Int}
/-- as TM_misfit; the cells stay spread -/
theorem TM_misfit2 (hk : kTM g t) (ho : mOk (u (t + 1))) (hs : 0 ≤ s ∧ s < 5) (hr : 0 ≤ r ∧ r < 4) (hx : -100 ≤ x ∧ x ≤ 100) (hy : -100 ≤ y ∧ y ≤ 100) : ∃ u', call M_TM_misfit [vA t, vI s, vI r, vI x, vI y] g u = some (0, vI (bMis (bdM (u (t + 1))) s r x y), g, u') ∧ SpT u' t s r x y ∧ Fm t u u' := by
  obtain ⟨v, e1, hS, hF⟩ := TM_spreads (g := g) (u := u) hk hs hr hx hy
  refine ⟨v, ?_, hS, hF⟩
  have hz := sz_bd hs.1 hs.2
  rw [C_TM_misfit, gd_O hk.1, e1, cV_some, ← hF.s]
  rw [← hF.s] at ho
  have hq : MQR g v t s r x y := ⟨hk, ho, hS, hs, hr, hx, hy⟩
  have l3 : (∀ i : Int, 0 ≤ i → i < sz s → bIn (bdM (v (t + 1))) (pX s r x i) (pY s r y i)) → ∀ (d : Nat) (i : Int), 0 ≤ i → i + d = sz s → run M_TM_misfit 95 [vA t, vI s, vI r, vI x, vI y, vI i] [] g v = some (0, vI (if anyF (fun i => decide (0 ≤ bCell (bdM (v (t + 1))) (pX s r x i) (pY s r y i))) d i = true then 3 else if bCrs (bdM (v (t + 1))) s r x y = true then 4 else 0), g, v) := by
    intro hin d
    induction d with
    | zero =>
      intro i i0 i1
      rw [R_TM_misfit_95]
      simp only [gd_O hk.1]
      rw [if_neg (by rw [hS.1]; omega), TM_crosses hq hin, cI_some]
      show _ = some (0, vI (if bCrs (bdM (v (t + 1))) s r x y = true then 4 else 0), g, v)
      by_cases hc : bCrs (bdM (v (t + 1))) s r x y = true
      · rw [bI_t hc, if_pos hc, if_neg (by omega)]
      · rw [bI_f hc, if_neg hc, if_pos rfl]
    | succ d ih =>
      intro i i0 i1
      have hc := TM_cell (g := g) hk ho (hin i i0 (by omega))
      have hb := bIn_bd ho (hin i i0 (by omega))
      have hm := ho.2.2.1 (8 * pY s r y i + pX s r x i) (by omega) (by omega)
      rw [R_TM_misfit_95]
      simp only [gd_O hk.1]
      rw [if_pos (by rw [hS.1]; omega), gd_R hk.2.2.1 i0 (by omega), gd_R hk.2.2.2 i0 (by omega), (hS.2 i i0 (by omega)).1, (hS.2 i i0 (by omega)).2, hc, cI_some, w_id (x := i + 1) (by omega) (by omega), anyF_or, bdM_cell ho (hin i i0 (by omega))]
      have hE := (enc_eq hm.1).2.2.1
      by_cases h2 : v (t + 1) (33 + (8 * pY s r y i + pX s r x i)) < 2
      · rw [if_pos h2, ih (i + 1) (by omega) (by omega), decide_eq_false (by omega), Bool.false_or]
      · rw [if_neg h2, decide_eq_true (by omega), Bool.true_or, if_pos rfl]
  have l2 : (∀ i : Int, 0 ≤ i → i < sz s → bIn (bdM (v (t + 1))) (pX s r x i) (pY s r y i)) → ∀ (d : Nat) (i : Int), 0 ≤ i → i + d = sz s → run M_TM_misfit 53 [vA t, vI s, vI r, vI x, vI y, vI i] [] g v = some (0, vI (if anyF (fun i => decide (bCell (bdM (v (t + 1))) (pX s r x i) (pY s r y i) = -2)) d i = true then 2 else if anyF (fun i => decide (0 ≤ bCell (bdM (v (t + 1))) (pX s r x i) (pY s r y i))) (sz s).toNat 0 = true then 3 else if bCrs (bdM (v (t + 1))) s r x y = true then 4 else 0), g, v) := by
    intro hin d
    induction d with
    | zero =>
      intro i i0 i1
      rw [R_TM_misfit_53]
      simp only [gd_O hk.1]
      rw [if_neg (by rw [hS.1]; omega), l3 hin (sz s).toNat 0 (by omega) (by omega)]
      rfl
    | succ d ih =>
      intro i i0 i1
      have hc := TM_cell (g := g) hk ho (hin i i0 (by omega))
      have hb := bIn_bd ho (hin i i0 (by omega))
      have hm := ho.2.2.1 (8 * pY s r y i + pX s r x i) (by omega) (by omega)
      rw [R_TM_misfit_53]
      simp only [gd_O hk.1]
      rw [if_pos (by rw [hS.1]; omega), gd_R hk.2.2.1 i0 (by omega), gd_R hk.2.2.2 i0 (by omega), (hS.2 i i0 (by omega)).1, (hS.2 i i0 (by omega)).2, hc, cI_some, w_id (x := i + 1) (by omega) (by omega), anyF_or (i := i), bdM_cell ho (hin i i0 (by omega))]
      have hE := (enc_eq hm.1).2.1
      by_cases h2 : v (t + 1) (33 + (8 * pY s r y i + pX s r x i)) = 1
      · rw [if_pos h2, decide_eq_true (hE.mpr h2), Bool.true_or, if_pos rfl]
      · rw [if_neg h2, ih (i + 1) (by omega) (by omega), decide_eq_false (fun k => h2 (hE.mp k)), Bool.false_or]
  have l1 : ∀ (d : Nat) (i : Int), 0 ≤ i → i + d = sz s → (∀ j : Int, 0 ≤ j → j < i → bIn (bdM (v (t + 1))) (pX s r x j) (pY s r y j)) → run M_TM_misfit 12 [vA t, vI s, vI r, vI x, vI y, vI i] [] g v = some (0, vI (if anyF (fun i => decide (bCell (bdM (v (t + 1))) (pX s r x i) (pY s r y i) = -3)) d i = true then 1 else if anyF (fun i => decide (bCell (bdM (v (t + 1))) (pX s r x i) (pY s r y i) = -2)) (sz s).toNat 0 = true then 2 else if anyF (fun i => decide (0 ≤ bCell (bdM (v (t + 1))) (pX s r x i) (pY s r y i))) (sz s).toNat 0 = true then 3 else if bCrs (bdM (v (t + 1))) s r x y = true then 4 else 0), g, v) := by
    intro d
    induction d with
    | zero =>
      intro i i0 i1 hin
      rw [R_TM_misfit_12]
      simp only [gd_O hk.1]
      rw [if_neg (by rw [hS.1]; omega), l2 (fun j j0 j1 => hin j j0 (by omega)) (sz s).toNat 0 (by omega) (by omega)]
      rfl
    | succ d ih =>
      intro i i0 i1 hin
      rw [R_TM_misfit_12]
      simp only [gd_O hk.1]
      rw [if_pos (by rw [hS.1]; omega), gd_R hk.2.2.1 i0 (by omega), gd_R hk.2.2.2 i0 (by omega), (hS.2 i i0 (by omega)).1, (hS.2 i i0 (by omega)).2, TM_isInside hk ho, cI_some, w_id (x := i + 1) (by omega) (by omega), anyF_or (i := i)]
      by_cases h2 : bIn (bdM (v (t + 1))) (pX s r x i) (pY s r y i)
      · have hb := bIn_bd ho h2
        have hm := ho.2.2.1 (8 * pY s r y i + pX s r x i) (by omega) (by omega)
        rw [bI_t h2, if_neg (by omega), ih (i + 1) (by omega) (by omega) (fun j j0 j1 => by
          by_cases e : j = i
          · rw [e]; exact h2
          · exact hin j j0 (by omega)), decide_eq_false (by rw [bdM_cell ho h2]; exact (enc_eq hm.1).2.2.2), Bool.false_or]
      · have : bCell (bdM (v (t + 1))) (pX s r x i) (pY s r y i) = -3 := if_neg h2
        rw [bI_f h2, if_pos rfl, decide_eq_true this, Bool.true_or, if_pos rfl]
  exact l1 (sz s).toNat 0 (by omega) (by omega) (fun j j0 j1 => by omega)
theorem TM_covers (hk : kTM g t) (hs : 0 ≤ s ∧ s < 5) {p q : Int} (hS : SpT u t s r p q) (x y : Int) : call M_TM_covers [vA t, vI x, vI y] g u = some (0, vI (bI (anyF (fun i => decide (pX s r p i = x ∧ pY s r q i = y)) (sz s).toNat 0 = true)), g, u) := by
  have hz := sz_bd hs.1 hs.2
  have key : ∀ (d : Nat) (i : Int), 0 ≤ i → i + d = sz s → run M_TM_covers 2 [vA t, vI x, vI y, vI i] [] g u = some (0, vI (bI (anyF (fun i => decide (pX s r p i = x ∧ pY s r q i = y)) d i = true)), g, u) := by
    intro d
    induction d with
    | zero =>
      intro i i0 i1
      rw [R_TM_covers_2, gd_O hk.1, if_neg (by rw [hS.1]; omega)]
      rfl
    | succ d ih =>
      intro i i0 i1
      have hp := hS.2 i i0 (by omega)
      rw [R_TM_covers_2]
      simp only [gd_O hk.1]
      rw [if_pos (by rw [hS.1]; omega), gd_R hk.2.2.1 i0 (by omega), gd_R hk.2.2.2 i0 (by omega), hp.1, hp.2, w_id (x := i + 1) (by omega) (by omega), ih (i + 1) (by omega) (by omega), anyF_or]
      by_cases c1 : pX s r p i = x
      · rw [if_pos c1]
        by_cases c2 : pY s r q i = y
        · rw [if_pos c2, decide_eq_true ⟨c1, c2⟩, Bool.true_or]
          rfl
        · rw [if_neg c2, decide_eq_false (fun z => c2 z.2), Bool.false_or]
      · rw [if_neg c1, decide_eq_false (fun z => c1 z.1), Bool.false_or]
  rw [C_TM_covers, key (sz s).toNat 0 (by decide) (by omega)]
end
/-- the placement (s, r) at (a, b) fits and covers (x, y) -/
abbrev cvP (B : Bd) (s r a b x y : Int) : Prop := bMis B s r a b = 0 ∧ anyF (fun i => decide (pX s r a i = x ∧ pY s r b i = y)) (sz s).toNat 0 = true
section
variable {g : PG} {u : PM} {t : Nat} {s r x y : Int}
theorem TM_dd44 (hk : kTM g t) (m : Int → Int) (ho : mOk m) (hs : 0 ≤ s ∧ s < 5) (hr : 0 ≤ r ∧ r < 4) {b : Int} (hb : 0 ≤ b ∧ b < m 1) : ∀ (d : Nat) (a : Int) (u : PM), u (t + 1) = m → 0 ≤ a → a + d = m 0 →
    (∃ u', run M_TM_dead 44 [vA t, vI x, vI y, vI s, vI r, vI b, vI a] [] g u = some (0, vI 0, g, u') ∧ Fm t u u' ∧ ∃ a', (0 ≤ a' ∧ a' < m 0) ∧ cvP (bdM m) s r a' b x y) ∨
    (∃ u', run M_TM_dead 44 [vA t, vI x, vI y, vI s, vI r, vI b, vI a] [] g u = run M_TM_dead 30 [vA t, vI x, vI y, vI s, vI r, vI (b + 1), vN] [] g u' ∧ Fm t u u' ∧ ∀ a' : Int, a ≤ a' → a' < m 0 → ¬ cvP (bdM m) s r a' b x y) := by
  have hC := ho.1
  have hR := ho.2.1
  intro d
  induction d with
  | zero =>
    intro a u hm ha hd
    refine Or.inr ⟨u, ?_, Fm.rfl', fun a' h1 h2 => by omega⟩
    rw [R_TM_dead_44, gd_O hk.1, gd_R hk.2.1 (by decide) (by decide), if_neg (by rw [hm]; omega), w_id (x := b + 1) (by omega) (by omega)]
  | succ d ih =>
    intro a u hm ha hd
    obtain ⟨v, e1, hS, hF⟩ := TM_misfit2 (g := g) (u := u) (s := s) (r := r) (x := a) (y := b) hk (by rw [hm]; exact ho) hs hr (by omega) (by omega)
    have hv : v (t + 1) = m := hF.s.trans hm
    rw [hm] at e1
    have go : ¬ cvP (bdM m) s r a b x y → run M_TM_dead 44 [vA t, vI x, vI y, vI s, vI r, vI b, vI a] [] g u = run M_TM_dead 44 [vA t, vI x, vI y, vI s, vI r, vI b, vI (a + 1)] [] g v := by
      intro hn
      rw [R_TM_dead_44, gd_O hk.1, gd_R hk.2.1 (by decide) (by decide), if_pos (by rw [hm]; omega), gd_O hk.1, e1, cI_some, w_id (x := a + 1) (by omega) (by omega)]
      by_cases c1 : bMis (bdM m) s r a b = 0
      · rw [if_pos c1, gd_O hk.1, TM_covers hk hs hS, cI_some, bI_f fun z => hn ⟨c1, z⟩, if_pos rfl]
      · rw [if_neg c1]
    by_cases hc : cvP (bdM m) s r a b x y
    · refine Or.inl ⟨v, ?_, hF, a, ⟨ha, by omega⟩, hc⟩
      rw [R_TM_dead_44, gd_O hk.1, gd_R hk.2.1 (by decide) (by decide), if_pos (by rw [hm]; omega), gd_O hk.1, e1, cI_some, if_pos hc.1, gd_O hk.1, TM_covers hk hs hS, cI_some, bI_t hc.2, if_neg (by decide)]
    · rw [go hc]
      rcases ih (a + 1) v hv (by omega) (by omega) with ⟨u', e2, f2, h2⟩ | ⟨u', e2, f2, h2⟩
      · exact Or.inl ⟨u', e2, hF.tr f2, h2⟩
      · refine Or.inr ⟨u', e2, hF.tr f2, fun a' h3 h4 => ?_⟩
        by_cases q : a' = a
        · rw [q]; exact hc
        · exact h2 a' (by omega) h4
theorem TM_dd30 (hk : kTM g t) (m : Int → Int) (ho : mOk m) (hs : 0 ≤ s ∧ s < 5) (hr : 0 ≤ r ∧ r < 4) : ∀ (d : Nat) (b : Int) (u : PM), u (t + 1) = m → 0 ≤ b → b + d = m 1 →
    (∃ u', run M_TM_dead 30 [vA t, vI x, vI y, vI s, vI r, vI b, vN] [] g u = some (0, vI 0, g, u') ∧ Fm t u u' ∧ ∃ a' b', bIn (bdM m) a' b' ∧ cvP (bdM m) s r a' b' x y) ∨
    (∃ u', run M_TM_dead 30 [vA t, vI x, vI y, vI s, vI r, vI b, vN] [] g u = run M_TM_dead 21 [vA t, vI x, vI y, vI s, vI (r + 1), vN, vN] [] g u' ∧ Fm t u u' ∧ ∀ a' b' : Int, b ≤ b' → bIn (bdM m) a' b' → ¬ cvP (bdM m) s r a' b' x y) := by
  have hC := ho.1
  have hR := ho.2.1
  intro d
  induction d with
  | zero =>
    intro b u hm hb hd
    refine Or.inr ⟨u, ?_, Fm.rfl', fun a' b' h1 h2 => by have : b' < m 1 := h2.2.2; omega⟩
    rw [R_TM_dead_30, gd_O hk.1, gd_R hk.2.1 (by decide) (by decide), if_neg (by rw [hm]; omega), w_id (x := r + 1) (by omega) (by omega)]
  | succ d ih =>
    intro b u hm hb hd
    rw [R_TM_dead_30, gd_O hk.1, gd_R hk.2.1 (by decide) (by decide), if_pos (by rw [hm]; omega)]
    rcases TM_dd44 (g := g) (x := x) (y := y) hk m ho hs hr (b := b) ⟨hb, by omega⟩ (m 0).toNat 0 u hm (by decide) (by omega) with ⟨u1, e1, f1, a1, h1, c1⟩ | ⟨u1, e1, f1, h1⟩
    · exact Or.inl ⟨u1, e1, f1, a1, b, ⟨h1, hb, by show b < m 1; omega⟩, c1⟩
    · rw [e1]
      rcases ih (b + 1) u1 (f1.s.trans hm) (by omega) (by omega) with ⟨u2, e2, f2, h2⟩ | ⟨u2, e2, f2, h2⟩
      · exact Or.inl ⟨u2, e2, f1.tr f2, h2⟩
      · refine Or.inr ⟨u2, e2, f1.tr f2, fun a' b' h3 h4 => ?_⟩
        by_cases q : b' = b
        · rw [q]; exact h1 a' h4.1.1 h4.1.2
        · exact h2 a' b' (by omega) h4
theorem TM_dd21 (hk : kTM g t) (m : Int → Int) (ho : mOk m) (hs : 0 ≤ s ∧ s < 5) : ∀ (d : Nat) (r : Int) (u : PM), u (t + 1) = m → 0 ≤ r → r + d = 4 →
    (∃ u', run M_TM_dead 21 [vA t, vI x, vI y, vI s, vI r, vN, vN] [] g u = some (0, vI 0, g, u') ∧ Fm t u u' ∧ ∃ r' a' b', (0 ≤ r' ∧ r' < 4) ∧ bIn (bdM m) a' b' ∧ cvP (bdM m) s r' a' b' x y) ∨
    (∃ u', run M_TM_dead 21 [vA t, vI x, vI y, vI s, vI r, vN, vN] [] g u = run M_TM_dead 13 [vA t, vI x, vI y, vI (s + 1), vN, vN, vN] [] g u' ∧ Fm t u u' ∧ ∀ r' a' b' : Int, r ≤ r' → r' < 4 → bIn (bdM m) a' b' → ¬ cvP (bdM m) s r' a' b' x y) := by
  intro d
  induction d with
  | zero =>
    intro r u hm hr hd
    refine Or.inr ⟨u, ?_, Fm.rfl', fun r' a' b' h1 h2 => by omega⟩
    rw [R_TM_dead_21, if_neg (by omega), w_id (x := s + 1) (by omega) (by omega)]
  | succ d ih =>
    intro r u hm hr hd
    rw [R_TM_dead_21, if_pos (by omega)]
    rcases TM_dd30 (g := g) (x := x) (y := y) hk m ho hs ⟨hr, by omega⟩ (m 1).toNat 0 u hm (by decide) (by have := ho.2.1; omega) with ⟨u1, e1, f1, a1, b1, h1, c1⟩ | ⟨u1, e1, f1, h1⟩
    · exact Or.inl ⟨u1, e1, f1, r, a1, b1, ⟨hr, by omega⟩, h1, c1⟩
    · rw [e1]
      rcases ih (r + 1) u1 (f1.s.trans hm) (by omega) (by omega) with ⟨u2, e2, f2, h2⟩ | ⟨u2, e2, f2, h2⟩
      · exact Or.inl ⟨u2, e2, f1.tr f2, h2⟩
      · refine Or.inr ⟨u2, e2, f1.tr f2, fun r' a' b' h3 h4 h5 => ?_⟩
        by_cases q : r' = r
        · rw [q]; exact h1 a' b' h5.2.1 h5
        · exact h2 r' a' b' (by omega) h4 h5
/-- some placement that fits covers (x, y) -/
def cvd (B : Bd) (x y : Int) : Prop := ∃ s r a b, (0 ≤ s ∧ s < 5) ∧ (0 ≤ r ∧ r < 4) ∧ bIn B a b ∧ cvP B s r a b x y
theorem TM_dead (hk : kTM g t) (ho : mOk (u (t + 1))) (hin : bIn (bdM (u (t + 1))) x y) : ∃ u' c, call M_TM_dead [vA t, vI x, vI y] g u = some (0, vI c, g, u') ∧ Fm t u u' ∧ (c = 0 ∨ c = 1) ∧ (c = 1 ↔ bCell (bdM (u (t + 1))) x y = -1 ∧ ¬ cvd (bdM (u (t + 1))) x y) := by
  have hb := bIn_bd ho hin
  have hc := ho.2.2.1 (8 * y + x) (by omega) (by omega)
  have E := (enc_eq hc.1).1
  rw [← bdM_cell ho hin] at E
  have key : ∀ (d : Nat) (s : Int) (v : PM), v (t + 1) = u (t + 1) → 0 ≤ s → s + d = 5 →
      (∃ u', run M_TM_dead 13 [vA t, vI x, vI y, vI s, vN, vN, vN] [] g v = some (0, vI 0, g, u') ∧ Fm t v u' ∧ cvd (bdM (u (t + 1))) x y) ∨
      (∃ u', run M_TM_dead 13 [vA t, vI x, vI y, vI s, vN, vN, vN] [] g v = some (0, vI 1, g, u') ∧ Fm t v u' ∧ ∀ s' r' a' b' : Int, s ≤ s' → s' < 5 → (0 ≤ r' ∧ r' < 4) → bIn (bdM (u (t + 1))) a' b' → ¬ cvP (bdM (u (t + 1))) s' r' a' b' x y) := by
    intro d
    induction d with
    | zero =>
      intro s v hv h0 h1
      refine Or.inr ⟨v, ?_, Fm.rfl', fun s' r' a' b' h1 h2 => by omega⟩
      rw [R_TM_dead_13, if_neg (by omega)]
    | succ d ih =>
      intro s v hv h0 h1
      rw [R_TM_dead_13, if_pos (by omega)]
      rcases TM_dd21 (g := g) (x := x) (y := y) hk (u (t + 1)) ho (s := s) ⟨h0, by omega⟩ 4 0 v hv (by decide) (by decide) with ⟨u1, e1, f1, r1, a1, b1, h2, h3, h4⟩ | ⟨u1, e1, f1, h2⟩
      · exact Or.inl ⟨u1, e1, f1, s, r1, a1, b1, ⟨h0, by omega⟩, h2, h3, h4⟩
      · rw [e1]
        rcases ih (s + 1) u1 (f1.s.trans hv) (by omega) (by omega) with ⟨u2, e2, f2, h3⟩ | ⟨u2, e2, f2, h3⟩
        · exact Or.inl ⟨u2, e2, f1.tr f2, h3⟩
        · refine Or.inr ⟨u2, e2, f1.tr f2, fun s' r' a' b' h4 h5 h6 h7 => ?_⟩
          by_cases q : s' = s
          · rw [q]; exact h2 r' a' b' h6.1 h6.2 h7
          · exact h3 s' r' a' b' (by omega) h5 h6 h7
  rw [C_TM_dead, gd_O hk.1, TM_cell hk ho hin, cI_some]
  by_cases q : u (t + 1) (33 + (8 * y + x)) = 0
  · rw [if_pos q]
    rcases key 5 0 u rfl (by decide) (by decide) with ⟨u1, e1, f1, h1⟩ | ⟨u1, e1, f1, h1⟩
    · exact ⟨u1, 0, e1, f1, Or.inl rfl, ⟨fun z => by omega, fun z => absurd h1 z.2⟩⟩
    · refine ⟨u1, 1, e1, f1, Or.inr rfl, ⟨fun _ => ⟨E.mpr q, ?_⟩, fun _ => rfl⟩⟩
      rintro ⟨s, r, a, b, h2, h3, h4, h5⟩
      exact h1 s r a b h2.1 h2.2 h3 h4 h5
  · rw [if_neg q]
    exact ⟨u, 0, rfl, Fm.rfl', Or.inl rfl, ⟨fun z => by omega, fun z => absurd (E.mp z.1) q⟩⟩
end
