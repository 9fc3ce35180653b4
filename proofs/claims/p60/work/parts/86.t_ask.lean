/-! ===== the class's questions ===== -/
/-- one exception more has been made -/
def gX (g : PG) : PG := (g.1, g.2.1 + 1, g.2.2)
def AnT (g : PG) (u : PM) (t : Nat) (c : Option PO) (e : Nat) (v : Int) : Prop := ∃ u', Fr (t + 234) u u' ∧ c = if e = 0 then some (0, vI v, g, u') else some (e, vN, gX g, u')
def kTD (g : PG) (t : Nat) : Prop := KA g t (1, 10, 0) ∧ kSt g (t + 26) ∧ kFp g (t + 234) ∧ t + 240 < 100000
/-- codes of the checks of arguments -/
def eSh (s : Int) : Nat := if 0 ≤ s ∧ s < 5 then 0 else 1
def ePl (p : Int) : Nat := if 0 ≤ p ∧ p < 2 then 0 else 2
def eSl (p : Int) : Nat := if 0 ≤ p ∧ p < 2 then 0 else 1
def eCe (B : Bd) (x y : Int) : Nat := if bIn B x y then 0 else 2
def eEd (B : Bd) (x y s : Int) : Nat := if 0 ≤ s ∧ s < 2 then if bEdge B x y s then 0 else 2 else 1
def eAim (B : Bd) (s r x y : Int) : Nat := if (0 ≤ s ∧ s < 5) ∧ 0 ≤ r ∧ r < 4 then if bIn B x y then 0 else 2 else 1
section
variable {g : PG} {u : PM} {t : Nat} {s r x y : Int}
theorem TD_shape (s : Int) : call M_TD_requireShape [vI s] g u = if eSh s = 0 then some (0, vN, g, u) else some (eSh s, vN, gX g, u) := by
  rw [C_TD_requireShape]
  unfold eSh
  by_cases h0 : s < 0
  · rw [if_pos h0, if_neg (show ¬ (0 ≤ s ∧ s < 5) by omega)]; rfl
  · rw [if_neg h0]
    by_cases h1 : s < 5
    · rw [if_pos h1, if_pos (show 0 ≤ s ∧ s < 5 by omega)]; rfl
    · rw [if_neg h1, if_neg (show ¬ (0 ≤ s ∧ s < 5) by omega)]; rfl
theorem TD_player (s : Int) : call M_TD_requirePlayer [vI s] g u = if ePl s = 0 then some (0, vN, g, u) else some (ePl s, vN, gX g, u) := by
  rw [C_TD_requirePlayer]
  unfold ePl
  by_cases h0 : s < 0
  · rw [if_pos h0, if_neg (show ¬ (0 ≤ s ∧ s < 2) by omega)]; rfl
  · rw [if_neg h0]
    by_cases h1 : s < 2
    · rw [if_pos h1, if_pos (show 0 ≤ s ∧ s < 2 by omega)]; rfl
    · rw [if_neg h1, if_neg (show ¬ (0 ≤ s ∧ s < 2) by omega)]; rfl
theorem TD_cell (hk : kTD g t) (x y : Int) : call M_TD_requireCell [vA t, vI x, vI y] g u = if eCe (bdT u (t + 26 + 1)) x y = 0 then some (0, vN, g, u) else some (eCe (bdT u (t + 26 + 1)) x y, vN, gX g, u) := by
  rw [C_TD_requireCell, gd_O hk.1, gd_O hk.2.1.1, gd_O hk.2.1.2.1.1, Tk_holds2 hk.2.1.2.1, cI_some]
  unfold eCe
  by_cases h : bIn (bdT u (t + 26 + 1)) x y
  · rw [bI_t h, if_neg (by decide), if_pos h]; rfl
  · rw [bI_f h, if_pos rfl, if_neg h]; rfl
theorem TD_edge (hk : kTD g t) (ho : bOk (bdT u (t + 26 + 1))) (x y s : Int) : call M_TD_requireEdge [vA t, vI x, vI y, vI s] g u = if eEd (bdT u (t + 26 + 1)) x y s = 0 then some (0, vN, g, u) else some (eEd (bdT u (t + 26 + 1)) x y s, vN, gX g, u) := by
  rw [C_TD_requireEdge]
  simp only [gd_O hk.1, gd_O hk.2.1.1, gd_O hk.2.1.2.1.1]
  rw [Tk_holdsEdge hk.2.1.2.1 (tOk_of ho), cI_some]
  unfold eEd
  by_cases h0 : s < 0
  · rw [if_pos h0, if_neg (show ¬ (0 ≤ s ∧ s < 2) by omega)]; rfl
  · rw [if_neg h0]
    by_cases h1 : s < 2
    · rw [if_pos h1, if_pos (show 0 ≤ s ∧ s < 2 by omega)]
      by_cases h : bEdge (bdT u (t + 26 + 1)) x y s
      · rw [bI_t h, if_neg (by decide), if_pos h]; rfl
      · rw [bI_f h, if_pos rfl, if_neg h]; rfl
    · rw [if_neg h1, if_neg (show ¬ (0 ≤ s ∧ s < 2) by omega)]; rfl
theorem TD_aimAt (hk : kTD g t) (hR : RO u) (s r x y : Int) : ∃ u', Fr (t + 234) u u' ∧ call M_TD_aimAt [vA t, vI s, vI r, vI x, vI y] g u = (if eAim (bdT u (t + 26 + 1)) s r x y = 0 then some (0, vN, g, u') else some (eAim (bdT u (t + 26 + 1)) s r x y, vN, gX g, u')) ∧ (eAim (bdT u (t + 26 + 1)) s r x y = 0 → FpAt u' (t + 234) s r x y ∧ (0 ≤ s ∧ s < 5) ∧ (0 ≤ r ∧ r < 4) ∧ bIn (bdT u (t + 26 + 1)) x y) := by
  rw [C_TD_aimAt, TD_shape]
  unfold eSh eAim
  by_cases hs : 0 ≤ s ∧ s < 5
  · rw [if_pos hs, if_pos rfl, cV_some]
    by_cases h0 : r < 0
    · rw [if_pos h0, if_neg (show ¬ ((0 ≤ s ∧ s < 5) ∧ 0 ≤ r ∧ r < 4) by omega)]
      exact ⟨u, Fr.rfl', rfl, fun h => by cases h⟩
    · rw [if_neg h0]
      by_cases h1 : r < 4
      · rw [if_pos h1, if_pos (show (0 ≤ s ∧ s < 5) ∧ 0 ≤ r ∧ r < 4 by omega), gd_O hk.1, TD_cell hk]
        unfold eCe
        by_cases h : bIn (bdT u (t + 26 + 1)) x y
        · obtain ⟨u1, e1, t1, x1, y1, f1⟩ := Fp_turn (g := g) (r := r) hk.2.2.1 hR hs.1 hs.2 (by omega) h1
          obtain ⟨u2, e2, a2, f2⟩ := Fp_move (g := g) hk.2.2.1 t1 x y
          rw [if_pos h, if_pos rfl, cV_some, gd_O hk.1, gd_O hk.2.2.1.1, e1, cV_some, gd_O hk.1, gd_O hk.2.2.1.1, e2, cV_some]
          exact ⟨u2, Fr.tr f1 f2, rfl, fun _ => ⟨a2, hs, ⟨by omega, h1⟩, h⟩⟩
        · rw [if_neg h]
          exact ⟨u, Fr.rfl', rfl, fun h => by cases h⟩
      · rw [if_neg h1, if_neg (show ¬ ((0 ≤ s ∧ s < 5) ∧ 0 ≤ r ∧ r < 4) by omega)]
        exact ⟨u, Fr.rfl', rfl, fun h => by cases h⟩
  · rw [if_neg hs, if_neg (show ¬ ((0 ≤ s ∧ s < 5) ∧ 0 ≤ r ∧ r < 4) from fun q => hs q.1)]
    exact ⟨u, Fr.rfl', rfl, fun h => by cases h⟩
theorem TD_columns (hk : kTD g t) : AnT g u t (call M_TD_columns [vA t] g u) 0 (bdT u (t + 26 + 1)).1 := by
  refine ⟨u, Fr.rfl', ?_⟩
  rw [C_TD_columns, gd_O hk.1, gd_O hk.2.1.1, gd_O hk.2.1.2.1.1]; rfl
theorem TD_rows (hk : kTD g t) : AnT g u t (call M_TD_rows [vA t] g u) 0 (bdT u (t + 26 + 1)).2.1 := by
  refine ⟨u, Fr.rfl', ?_⟩
  rw [C_TD_rows, gd_O hk.1, gd_O hk.2.1.1, gd_O hk.2.1.2.1.1]; rfl
theorem TD_emptyCells (hk : kTD g t) (ho : bOk (bdT u (t + 26 + 1))) : AnT g u t (call M_TD_emptyCells [vA t] g u) 0 (bCnt (bdT u (t + 26 + 1)) (-1)) := by
  refine ⟨u, Fr.rfl', ?_⟩
  rw [C_TD_emptyCells, gd_O hk.1, gd_O hk.2.1.1, gd_O hk.2.1.2.1.1, Tk_countCells hk.2.1.2.1 (tOk_of ho), cI_some]; rfl
theorem TD_pieceCount (hk : kTD g t) : AnT g u t (call M_TD_pieceCount [vA t] g u) 0 (absT u (t + 26)).n := by
  refine ⟨u, Fr.rfl', ?_⟩
  rw [C_TD_pieceCount, gd_O hk.1, gd_O hk.2.1.1, gd_O hk.2.1.2.2.1.1]; rfl
theorem TD_strapCount (hk : kTD g t) : AnT g u t (call M_TD_strapCount [vA t] g u) 0 (bStn (bdT u (t + 26 + 1))) := by
  refine ⟨u, Fr.rfl', ?_⟩
  rw [C_TD_strapCount, gd_O hk.1, gd_O hk.2.1.1, gd_O hk.2.1.2.1.1, Tk_countStraps hk.2.1.2.1, cI_some]; rfl
theorem TD_completeRows (hk : kTD g t) (ho : bOk (bdT u (t + 26 + 1))) : AnT g u t (call M_TD_completeRows [vA t] g u) 0 (bCmp (bdT u (t + 26 + 1))) := by
  refine ⟨u, Fr.rfl', ?_⟩
  have h21 : 0 ≤ u (t + 26 + 1) 1 ∧ u (t + 26 + 1) 1 ≤ 8 := ho.2.1
  have h := loop_sum (F := fun a i => run M_TD_completeRows 4 [vA t, vI a, vI i] [] g u) (f := fun y => bI (bEmp (bdT u (t + 26 + 1)) y = 0)) (n := u (t + 26 + 1) 1) (b := 1) (c := 0) h21.1 (by decide) (fun i _ _ => bI_bd _) (fun a i h0 h1 h2 h3 => by
    show run M_TD_completeRows 4 [vA t, vI a, vI i] [] g u = run M_TD_completeRows 4 [vA t, vI (a + bI (bEmp (bdT u (t + 26 + 1)) i = 0)), vI (i + 1)] [] g u
    rw [R_TD_completeRows_4]
    simp only [gd_O hk.1, gd_O hk.2.1.1, gd_O hk.2.1.2.1.1]
    rw [if_pos h1, Tk_countEmptyIn hk.2.1.2.1 (tOk_of ho), cI_some, w_id (x := a + 1) (by omega) (by omega), w_id (x := i + 1) (by omega) (by omega)]
    by_cases hc : bEmp (bdT u (t + 26 + 1)) i = 0
    · rw [if_pos hc, bI_t hc]
    · rw [if_neg hc, bI_f hc, Int.add_zero])
  rw [C_TD_completeRows]
  refine Eq.trans h ?_
  rw [R_TD_completeRows_4]
  simp only [gd_O hk.1, gd_O hk.2.1.1, gd_O hk.2.1.2.1.1]
  rw [if_neg (by omega), Int.zero_add]
  rfl
theorem TD_isBlocked (hk : kTD g t) (ho : bOk (bdT u (t + 26 + 1))) (x y : Int) : AnT g u t (call M_TD_isBlocked [vA t, vI x, vI y] g u) (eCe (bdT u (t + 26 + 1)) x y) (bI (bCell (bdT u (t + 26 + 1)) x y = -2)) := by
  refine ⟨u, Fr.rfl', ?_⟩
  rw [C_TD_isBlocked, gd_O hk.1, TD_cell hk]
  unfold eCe
  by_cases h : bIn (bdT u (t + 26 + 1)) x y
  · rw [if_pos h, if_pos rfl, cV_some]
    simp only [gd_O hk.1, gd_O hk.2.1.1, gd_O hk.2.1.2.1.1]
    rw [Tk_cellAt2 hk.2.1.2.1 (tOk_of ho), cI_some, if_pos trivial]
    by_cases h2 : bCell (bdT u (t + 26 + 1)) x y = -2
    · rw [if_pos h2, bI_t h2]
    · rw [if_neg h2, bI_f h2]
  · rw [if_neg h]
    rfl
theorem TD_pieceAt (hk : kTD g t) (ho : bOk (bdT u (t + 26 + 1))) (x y : Int) : AnT g u t (call M_TD_pieceAt [vA t, vI x, vI y] g u) (eCe (bdT u (t + 26 + 1)) x y) (if bIn (bdT u (t + 26 + 1)) x y then if 0 ≤ bCell (bdT u (t + 26 + 1)) x y then bCell (bdT u (t + 26 + 1)) x y else -1 else 0) := by
  refine ⟨u, Fr.rfl', ?_⟩
  rw [C_TD_pieceAt, gd_O hk.1, TD_cell hk]
  unfold eCe
  by_cases h : bIn (bdT u (t + 26 + 1)) x y
  · rw [if_pos h, if_pos rfl, cV_some]
    simp only [gd_O hk.1, gd_O hk.2.1.1, gd_O hk.2.1.2.1.1]
    rw [Tk_cellAt2 hk.2.1.2.1 (tOk_of ho), cI_some, if_pos trivial, if_pos h]
    by_cases h2 : bCell (bdT u (t + 26 + 1)) x y < 0
    · rw [if_pos h2, if_neg (by omega)]
    · rw [if_neg h2, if_pos (by omega)]
  · rw [if_neg h]
    rfl
theorem TD_hasStrap (hk : kTD g t) (ho : bOk (bdT u (t + 26 + 1))) (x y s : Int) : AnT g u t (call M_TD_hasStrap [vA t, vI x, vI y, vI s] g u) (eEd (bdT u (t + 26 + 1)) x y s) (bStrap (bdT u (t + 26 + 1)) x y s) := by
  refine ⟨u, Fr.rfl', ?_⟩
  rw [C_TD_hasStrap, gd_O hk.1, TD_edge hk ho]
  have hb : b01 (bStrap (bdT u (t + 26 + 1)) x y s) = true := by
    unfold bStrap
    split
    · next h =>
      obtain ⟨⟨⟨a1, a2⟩, a3, a4⟩, a5, a6⟩ := h
      have c1 : (bdT u (t + 26 + 1)).1 ≤ 8 := ho.1.2
      have c2 : (bdT u (t + 26 + 1)).2.1 ≤ 8 := ho.2.1.2
      rcases ho.2.2 (2 * (8 * y + x) + s) (by omega) (by omega) with e | e <;> rw [e] <;> rfl
    · rfl
  by_cases he : eEd (bdT u (t + 26 + 1)) x y s = 0
  · rw [if_pos he, if_pos he, cV_some]
    simp only [gd_O hk.1, gd_O hk.2.1.1, gd_O hk.2.1.2.1.1]
    rw [Tk_strapAt2 hk.2.1.2.1 (tOk_of ho), cI_some, hb, cond_true]
  · rw [if_neg he, if_neg he]
    obtain ⟨n, hn⟩ : ∃ n, eEd (bdT u (t + 26 + 1)) x y s = n + 1 := ⟨eEd (bdT u (t + 26 + 1)) x y s - 1, by omega⟩
    rw [hn]
    rfl
theorem TD_emptyInRow (hk : kTD g t) (ho : bOk (bdT u (t + 26 + 1))) (y : Int) : AnT g u t (call M_TD_emptyInRow [vA t, vI y] g u) (if 0 ≤ y ∧ y < (bdT u (t + 26 + 1)).2.1 then 0 else 2) (if 0 ≤ y ∧ y < (bdT u (t + 26 + 1)).2.1 then bEmp (bdT u (t + 26 + 1)) y else 0) := by
  refine ⟨u, Fr.rfl', ?_⟩
  rw [C_TD_emptyInRow]
  simp only [gd_O hk.1, gd_O hk.2.1.1, gd_O hk.2.1.2.1.1]
  rw [Tk_countEmptyIn hk.2.1.2.1 (tOk_of ho), cI_some]
  by_cases h : 0 ≤ y ∧ y < (bdT u (t + 26 + 1)).2.1
  · rw [if_neg (show ¬ y < 0 by omega), if_pos (show y < u (t + 26 + 1) 1 from h.2), if_pos h, if_pos h, if_pos rfl]
  · rw [if_neg h, if_neg h]
    by_cases h0 : y < 0
    · rw [if_pos h0]; rfl
    · rw [if_neg h0, if_neg (show ¬ y < u (t + 26 + 1) 1 from fun q => h ⟨by omega, q⟩)]; rfl
theorem TD_isOver (hk : kTD g t) : AnT g u t (call M_TD_isOver [vA t] g u) 0 (bI (2 ≤ (absT u (t + 26)).ps)) := by
  refine ⟨u, Fr.rfl', ?_⟩
  rw [C_TD_isOver, gd_O hk.1, gd_O hk.2.1.1, St_isFinished hk.2.1, cI_some, b01_bI, cond_true]; rfl
theorem TD_playerToMove (hk : kTD g t) : AnT g u t (call M_TD_playerToMove [vA t] g u) 0 (if 2 ≤ (absT u (t + 26)).ps then -1 else (absT u (t + 26)).mv) := by
  refine ⟨u, Fr.rfl', ?_⟩
  rw [C_TD_playerToMove, gd_O hk.1, gd_O hk.2.1.1, St_isFinished hk.2.1, cI_some]
  show _ = if (0 : Nat) = 0 then some (0, vI (if 2 ≤ u (t + 26) 5 then -1 else u (t + 26) 4), g, u) else _
  rw [if_pos (show (0 : Nat) = 0 from rfl)]
  by_cases h : 2 ≤ u (t + 26) 5
  · rw [bI_t h, if_neg (by decide), if_pos h]
  · rw [bI_f h, if_pos rfl, gd_O hk.1, gd_O hk.2.1.1, if_neg h]
end
