/-! ===== the reference: misfits and points ===== -/
def crQ (B : Bd) (s r x y i j : Int) : Bool := decide (abs2 (pX s r x i - pX s r x j) + abs2 (pY s r y i - pY s r y j) = 1 ∧ bStrap B (min2 (pX s r x i) (pX s r x j)) (min2 (pY s r y i) (pY s r y j)) (if pY s r y i = pY s r y j then 0 else 1) ≠ 0)
def crP (B : Bd) (s r x y : Int) : Bool := anyF (fun i => anyF (crQ B s r x y i) i.toNat 0) (sz s).toNat 0
theorem edg_1 : ∀ s : Nat, s < 5 → ∀ r : Nat, r < 4 → ((List.range 4).all fun i => (List.range i).all fun j => decide ((i : Int) < sz s ∧ abs2 (oR s r i - oR s r j) + abs2 (oD s r i - oD s r j) = 1 → (min2 (oR s r i) (oR s r j), min2 (oD s r i) (oD s r j), if oD s r i = oD s r j then (0 : Int) else 1) ∈ edg s r)) = true := by decide +kernel
theorem edg_2 : ∀ s : Nat, s < 5 → ∀ r : Nat, r < 4 → (edg s r).all (fun e => (List.range 4).any fun i => (List.range i).any fun j => decide ((i : Int) < sz s ∧ abs2 (oR s r i - oR s r j) + abs2 (oD s r i - oD s r j) = 1 ∧ e = (min2 (oR s r i) (oR s r j), min2 (oD s r i) (oD s r j), if oD s r i = oD s r j then (0 : Int) else 1))) = true := by decide +kernel
theorem min2_add (x a b : Int) : min2 (x + a) (x + b) = x + min2 a b := by
  unfold min2
  split <;> split <;> omega
theorem crP_eq {B : Bd} {s r x y : Int} (hs : 0 ≤ s ∧ s < 5) (hr : 0 ≤ r ∧ r < 4) : crP B s r x y = bCrs B s r x y := by
  have hz := sz_bd hs.1 hs.2
  have es : ((s.toNat : Nat) : Int) = s := by omega
  have er : ((r.toNat : Nat) : Int) = r := by omega
  have q : ∀ i j : Int, crQ B s r x y i j = true ↔ abs2 (oR s r i - oR s r j) + abs2 (oD s r i - oD s r j) = 1 ∧ bStrap B (x + min2 (oR s r i) (oR s r j)) (y + min2 (oD s r i) (oD s r j)) (if oD s r i = oD s r j then 0 else 1) ≠ 0 := by
    intro i j
    unfold crQ
    rw [decide_eq_true_iff]
    unfold pX pY
    rw [min2_add, min2_add, show x + oR s r i - (x + oR s r j) = oR s r i - oR s r j by omega, show y + oD s r i - (y + oD s r j) = oD s r i - oD s r j by omega]
    have : (y + oD s r i = y + oD s r j) ↔ (oD s r i = oD s r j) := by omega
    by_cases h : oD s r i = oD s r j
    · rw [if_pos h, if_pos (this.mpr h)]
    · rw [if_neg h, if_neg fun k => h (this.mp k)]
  have e1 := edg_1 s.toNat (by omega) r.toNat (by omega)
  have e2 := edg_2 s.toNat (by omega) r.toNat (by omega)
  rw [es, er] at e1 e2
  refine Bool.eq_iff_iff.mpr ?_
  unfold crP bCrs
  rw [anyF_iff, anyF_iff]
  constructor
  · intro h
    obtain ⟨i, ⟨i0, i1⟩, h⟩ := h
    rw [anyF_iff] at h
    obtain ⟨j, ⟨j0, j1⟩, h⟩ := h
    obtain ⟨h1, h2⟩ := (q i j).mp h
    have hm := of_decide_eq_true (List.all_eq_true.mp (List.all_eq_true.mp e1 i.toNat (List.mem_range.mpr (by omega))) j.toNat (List.mem_range.mpr (by omega)))
    rw [show ((i.toNat : Nat) : Int) = i by omega, show ((j.toNat : Nat) : Int) = j by omega] at hm
    obtain ⟨k, hk⟩ := List.getElem?_of_mem (hm ⟨by omega, h1⟩)
    have hl := (List.getElem?_eq_some_iff.mp hk).1
    refine ⟨k, ⟨by omega, by omega⟩, ?_⟩
    rw [decide_eq_true_iff, Int.toNat_natCast, List.getD_eq_getElem?_getD, hk]
    exact h2
  · intro h
    obtain ⟨k, ⟨k0, k1⟩, h⟩ := h
    rw [decide_eq_true_iff] at h
    have hl : k.toNat < (edg s r).length := by omega
    have hg : (edg s r)[k.toNat]? = some ((edg s r).getD k.toNat (0, 0, 0)) := by
      rw [List.getD_eq_getElem?_getD, List.getElem?_eq_getElem hl]
      rfl
    generalize (edg s r).getD k.toNat (0, 0, 0) = e at hg h
    have hm := List.all_eq_true.mp e2 e (List.mem_of_getElem? hg)
    obtain ⟨i, hi, hm⟩ := List.any_eq_true.mp hm
    obtain ⟨j, hj, hm⟩ := List.any_eq_true.mp hm
    rw [List.mem_range] at hi hj
    obtain ⟨h1, h2, h3⟩ := of_decide_eq_true hm
    refine ⟨i, ⟨by omega, by omega⟩, ?_⟩
    rw [anyF_iff]
    refine ⟨j, ⟨by omega, by omega⟩, (q i j).mpr ⟨h2, ?_⟩⟩
    rw [h3] at h
    exact h
theorem anyF_or {P : Int → Bool} {d : Nat} {i : Int} : anyF P (d + 1) i = (P i || anyF P d (i + 1)) := rfl
section
variable {g : PG} {u : PM} {t : Nat} {s r x y : Int}
/-- what misfits and points stand on once the cells are spread -/
def MQR (g : PG) (u : PM) (t : Nat) (s r x y : Int) : Prop := kTM g t ∧ mOk (u (t + 1)) ∧ SpT u t s r x y ∧ (0 ≤ s ∧ s < 5) ∧ (0 ≤ r ∧ r < 4) ∧ (-100 ≤ x ∧ x ≤ 100) ∧ -100 ≤ y ∧ y ≤ 100
theorem pXY_bd (hx : -100 ≤ x ∧ x ≤ 100) (hy : -100 ≤ y ∧ y ≤ 100) (i : Int) : (-102 ≤ pX s r x i ∧ pX s r x i ≤ 102) ∧ -102 ≤ pY s r y i ∧ pY s r y i ≤ 102 := by
  have := oRD_bd s r i
  unfold pX pY
  omega
theorem TM_cross12 (hq : MQR g u t s r x y) (hin : ∀ i : Int, 0 ≤ i → i < sz s → bIn (bdM (u (t + 1))) (pX s r x i) (pY s r y i)) {i : Int} (h0 : 0 ≤ i) (h1 : i < sz s) : ∀ (d : Nat) (j : Int), 0 ≤ j → j + d = i →
    run M_TM_crosses 12 [vA t, vI i, vI j] [] g u = if anyF (crQ (bdM (u (t + 1))) s r x y i) d j = true then some (0, vI 1, g, u) else run M_TM_crosses 2 [vA t, vI (i + 1), vN] [] g u := by
  obtain ⟨hk, ho, hS, hs, hr, hx, hy⟩ := hq
  have hz := sz_bd hs.1 hs.2
  intro d
  induction d with
  | zero =>
    intro j j0 j1
    rw [R_TM_crosses_12, if_neg (by omega), w_id (by omega) (by omega)]
    rfl
  | succ d ih =>
    intro j j0 j1
    have bi := pXY_bd (s := s) (r := r) hx hy i
    have bj := pXY_bd (s := s) (r := r) hx hy j
    have ax := abs2_id (x := pX s r x i - pX s r x j) (by omega) (by omega)
    have ay := abs2_id (x := pY s r y i - pY s r y j) (by omega) (by omega)
    rw [R_TM_crosses_12, if_pos (by omega)]
    simp only [gd_O hk.1]
    rw [gd_R hk.2.2.1 h0 (by omega), gd_R hk.2.2.2 h0 (by omega), gd_R hk.2.2.1 j0 (by omega), gd_R hk.2.2.2 j0 (by omega)]
    rw [(hS.2 i h0 h1).1, (hS.2 i h0 h1).2, (hS.2 j j0 (by omega)).1, (hS.2 j j0 (by omega)).2, C_TM_areNeighbours, w_id (x := pX s r x i - pX s r x j) (by omega) (by omega), w_id (x := pY s r y i - pY s r y j) (by omega) (by omega), w_id (x := abs2 _ + abs2 _) (by omega) (by omega), w_id (x := j + 1) (by omega) (by omega), anyF_or]
    by_cases hn : abs2 (pX s r x i - pX s r x j) + abs2 (pY s r y i - pY s r y j) = 1
    · rw [if_pos hn, cI_some, if_neg (by omega)]
      simp only [gd_O hk.1]
      rw [gd_R hk.2.2.1 h0 (by omega), gd_R hk.2.2.2 h0 (by omega), gd_R hk.2.2.1 j0 (by omega), gd_R hk.2.2.2 j0 (by omega)]
      rw [(hS.2 i h0 h1).1, (hS.2 i h0 h1).2, (hS.2 j j0 (by omega)).1, (hS.2 j j0 (by omega)).2, TM_isStrapped hk ho (bIn_min (hin i h0 h1) (hin j j0 (by omega))), cI_some]
      by_cases hb : bStrap (bdM (u (t + 1))) (min2 (pX s r x i) (pX s r x j)) (min2 (pY s r y i) (pY s r y j)) (if pY s r y i = pY s r y j then 0 else 1) ≠ 0
      · have : crQ (bdM (u (t + 1))) s r x y i j = true := decide_eq_true ⟨hn, hb⟩
        rw [bI_t hb, if_neg (by omega), this, Bool.true_or, if_pos rfl]
      · have : crQ (bdM (u (t + 1))) s r x y i j = false := decide_eq_false fun q => hb q.2
        rw [bI_f hb, if_pos rfl, this, Bool.false_or, ih (j + 1) (by omega) (by omega)]
    · have : crQ (bdM (u (t + 1))) s r x y i j = false := decide_eq_false fun q => hn q.1
      rw [if_neg hn, cI_some, if_pos rfl, this, Bool.false_or, ih (j + 1) (by omega) (by omega)]
theorem TM_crosses (hq : MQR g u t s r x y) (hin : ∀ i : Int, 0 ≤ i → i < sz s → bIn (bdM (u (t + 1))) (pX s r x i) (pY s r y i)) : call M_TM_crosses [vA t] g u = some (0, vI (bI (bCrs (bdM (u (t + 1))) s r x y = true)), g, u) := by
  rw [← crP_eq hq.2.2.2.1 hq.2.2.2.2.1]
  have key : ∀ (d : Nat) (i : Int), 0 ≤ i → i + d = sz s → run M_TM_crosses 2 [vA t, vI i, vN] [] g u = some (0, vI (bI (anyF (fun i => anyF (crQ (bdM (u (t + 1))) s r x y i) i.toNat 0) d i = true)), g, u) := by
    intro d
    induction d with
    | zero =>
      intro i i0 i1
      have := hq.2.2.1.1
      rw [R_TM_crosses_2, gd_O hq.1.1, if_neg (by omega)]
      rfl
    | succ d ih =>
      intro i i0 i1
      have := hq.2.2.1.1
      rw [R_TM_crosses_2, gd_O hq.1.1, if_pos (by omega), TM_cross12 hq hin i0 (by omega) i.toNat 0 (by omega) (by omega), ih (i + 1) (by omega) (by omega), anyF_or]
      cases h : anyF (crQ (bdM (u (t + 1))) s r x y i) i.toNat 0
      · rw [if_neg (by decide), Bool.false_or]
      · rw [if_pos rfl, Bool.true_or]
        rfl
  have hz := sz_bd hq.2.2.2.1.1 hq.2.2.2.1.2
  rw [C_TM_crosses]
  exact key (sz s).toNat 0 (by omega) (by omega)
theorem TM_misfit (hk : kTM g t) (ho : mOk (u (t + 1))) (hs : 0 ≤ s ∧ s < 5) (hr : 0 ≤ r ∧ r < 4) (hx : -100 ≤ x ∧ x ≤ 100) (hy : -100 ≤ y ∧ y ≤ 100) : ∃ u', call M_TM_misfit [vA t, vI s, vI r, vI x, vI y] g u = some (0, vI (bMis (bdM (u (t + 1))) s r x y), g, u') ∧ Fm t u u' := by
  obtain ⟨v, e1, hS, hF⟩ := TM_spreads (g := g) (u := u) hk hs hr hx hy
  refine ⟨v, ?_, hF⟩
  have hz := sz_bd hs.1 hs.2
  rw [C_TM_misfit, gd_O hk.1, e1, cV_some, ← hF.s]
  rw [← hF.s] at ho
  have hq : MQR g v t s r x y := ⟨hk, ho, hS, hs, hr, hx, hy⟩
  have l3 : (∀ i : Int, 0 ≤ i → i < sz s → bIn (bdM (v (t + 1))) (pX s r x i) (pY s r y i)) → ∀ (d : Nat) (i : Int), 0 ≤ i → i + d = sz s → run M_TM_misfit 95 [vA t, vI s, vI r, vI x, vI y, vI i] [] g v = some (0, vI (if anyF (fun i => decide (0 ≤ bCell (bdM (v (t + 1))) (pX s r x i) (pY s r y i))) d i = true then 3 else if bCrs (bdM (v (t + 1))) s r x y = true then 4 else 0), g, v) := by
    intro hin d
    induction d with
    | zero =>
      intro i i0 i1
      rw [R_TM_misfit_95]
      simp only [gd_O hk.1]
      rw [if_neg (by rw [hS.1]; omega), TM_crosses hq hin, cI_some]
      show _ = some (0, vI (if bCrs (bdM (v (t + 1))) s r x y = true then 4 else 0), g, v)
      by_cases hc : bCrs (bdM (v (t + 1))) s r x y = true
      · rw [bI_t hc, if_pos hc, if_neg (by omega)]
      · rw [bI_f hc, if_neg hc, if_pos rfl]
    | succ d ih =>
      intro i i0 i1
      have hc := TM_cell (g := g) hk ho (hin i i0 (by omega))
      have hb := bIn_bd ho (hin i i0 (by omega))
      have hm := ho.2.2.1 (8 * pY s r y i + pX s r x i) (by omega) (by omega)
      rw [R_TM_misfit_95]
      simp only [gd_O hk.1]
      rw [if_pos (by rw [hS.1]; omega), gd_R hk.2.2.1 i0 (by omega), gd_R hk.2.2.2 i0 (by omega), (hS.2 i i0 (by omega)).1, (hS.2 i i0 (by omega)).2, hc, cI_some, w_id (x := i + 1) (by omega) (by omega), anyF_or, bdM_cell ho (hin i i0 (by omega))]
      have hE := (enc_eq hm.1).2.2.1
      by_cases h2 : v (t + 1) (33 + (8 * pY s r y i + pX s r x i)) < 2
      · rw [if_pos h2, ih (i + 1) (by omega) (by omega), decide_eq_false (by omega), Bool.false_or]
      · rw [if_neg h2, decide_eq_true (by omega), Bool.true_or, if_pos rfl]
  have l2 : (∀ i : Int, 0 ≤ i → i < sz s → bIn (bdM (v (t + 1))) (pX s r x i) (pY s r y i)) → ∀ (d : Nat) (i : Int), 0 ≤ i → i + d = sz s → run M_TM_misfit 53 [vA t, vI s, vI r, vI x, vI y, vI i] [] g v = some (0, vI (if anyF (fun i => decide (bCell (bdM (v (t + 1))) (pX s r x i) (pY s r y i) = -2)) d i = true then 2 else if anyF (fun i => decide (0 ≤ bCell (bdM (v (t + 1))) (pX s r x i) (pY s r y i))) (sz s).toNat 0 = true then 3 else if bCrs (bdM (v (t + 1))) s r x y = true then 4 else 0), g, v) := by
    intro hin d
    induction d with
    | zero =>
      intro i i0 i1
      rw [R_TM_misfit_53]
      simp only [gd_O hk.1]
      rw [if_neg (by rw [hS.1]; omega), l3 hin (sz s).toNat 0 (by omega) (by omega)]
      rfl
    | succ d ih =>
      intro i i0 i1
      have hc := TM_cell (g := g) hk ho (hin i i0 (by omega))
      have hb := bIn_bd ho (hin i i0 (by omega))
      have hm := ho.2.2.1 (8 * pY s r y i + pX s r x i) (by omega) (by omega)
      rw [R_TM_misfit_53]
      simp only [gd_O hk.1]
      rw [if_pos (by rw [hS.1]; omega), gd_R hk.2.2.1 i0 (by omega), gd_R hk.2.2.2 i0 (by omega), (hS.2 i i0 (by omega)).1, (hS.2 i i0 (by omega)).2, hc, cI_some, w_id (x := i + 1) (by omega) (by omega), anyF_or (i := i), bdM_cell ho (hin i i0 (by omega))]
      have hE := (enc_eq hm.1).2.1
      by_cases h2 : v (t + 1) (33 + (8 * pY s r y i + pX s r x i)) = 1
      · rw [if_pos h2, decide_eq_true (hE.mpr h2), Bool.true_or, if_pos rfl]
      · rw [if_neg h2, ih (i + 1) (by omega) (by omega), decide_eq_false (fun k => h2 (hE.mp k)), Bool.false_or]
  have l1 : ∀ (d : Nat) (i : Int), 0 ≤ i → i + d = sz s → (∀ j : Int, 0 ≤ j → j < i → bIn (bdM (v (t + 1))) (pX s r x j) (pY s r y j)) → run M_TM_misfit 12 [vA t, vI s, vI r, vI x, vI y, vI i] [] g v = some (0, vI (if anyF (fun i => decide (bCell (bdM (v (t + 1))) (pX s r x i) (pY s r y i) = -3)) d i = true then 1 else if anyF (fun i => decide (bCell (bdM (v (t + 1))) (pX s r x i) (pY s r y i) = -2)) (sz s).toNat 0 = true then 2 else if anyF (fun i => decide (0 ≤ bCell (bdM (v (t + 1))) (pX s r x i) (pY s r y i))) (sz s).toNat 0 = true then 3 else if bCrs (bdM (v (t + 1))) s r x y = true then 4 else 0), g, v) := by
    intro d
    induction d with
    | zero =>
      intro i i0 i1 hin
      rw [R_TM_misfit_12]
      simp only [gd_O hk.1]
      rw [if_neg (by rw [hS.1]; omega), l2 (fun j j0 j1 => hin j j0 (by omega)) (sz s).toNat 0 (by omega) (by omega)]
      rfl
    | succ d ih =>
      intro i i0 i1 hin
      rw [R_TM_misfit_12]
      simp only [gd_O hk.1]
      rw [if_pos (by rw [hS.1]; omega), gd_R hk.2.2.1 i0 (by omega), gd_R hk.2.2.2 i0 (by omega), (hS.2 i i0 (by omega)).1, (hS.2 i i0 (by omega)).2, TM_isInside hk ho, cI_some, w_id (x := i + 1) (by omega) (by omega), anyF_or (i := i)]
      by_cases h2 : bIn (bdM (v (t + 1))) (pX s r x i) (pY s r y i)
      · have hb := bIn_bd ho h2
        have hm := ho.2.2.1 (8 * pY s r y i + pX s r x i) (by omega) (by omega)
        rw [bI_t h2, if_neg (by omega), ih (i + 1) (by omega) (by omega) (fun j j0 j1 => by
          by_cases e : j = i
          · rw [e]; exact h2
          · exact hin j j0 (by omega)), decide_eq_false (by rw [bdM_cell ho h2]; exact (enc_eq hm.1).2.2.2), Bool.false_or]
      · have : bCell (bdM (v (t + 1))) (pX s r x i) (pY s r y i) = -3 := if_neg h2
        rw [bI_f h2, if_pos rfl, decide_eq_true this, Bool.true_or, if_pos rfl]
  exact l1 (sz s).toNat 0 (by omega) (by omega) (fun j j0 j1 => by omega)
end
