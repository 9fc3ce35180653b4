/-! ===== the trunk: edges, writes, counts, points ===== -/
abbrev bEdge (B : Bd) (x y s : Int) : Prop := bIn B x y ∧ ((s = 0 ∧ x < B.1 - 1) ∨ (s ≠ 0 ∧ y < B.2.1 - 1))
def bBey (B : Bd) (x y s : Int) : Int := if s = 0 then bCell B (x + 1) y else bCell B x (y + 1)
def setI (f : Int → Int) (k v : Int) : Int → Int := fun j => if j = k then v else f j
def bSC (B : Bd) (k v : Int) : Bd := (B.1, B.2.1, setI B.2.2.1 k v, B.2.2.2)
def bSS (B : Bd) (k v : Int) : Bd := (B.1, B.2.1, B.2.2.1, setI B.2.2.2 k v)
theorem cl_set {n k v : Int} {f f' : Int → Int} (h0 : 0 ≤ k) (h1 : k < n) (e : f' k = v) (e' : ∀ j : Int, j ≠ k → f' j = f j) : cl n f' = setI (cl n f) k v := by
  funext j
  unfold setI cl
  by_cases hj : j = k
  · rw [if_pos hj, hj, if_pos ⟨h0, h1⟩, e]
  · rw [if_neg hj, e' j hj]
theorem bdT_cell {u : PM} {t : Nat} {k v : Int} (h0 : 0 ≤ k) (h1 : k < 64) : bdT (up u (t + 1) k v) t = bSC (bdT u t) k v := by
  unfold bdT bSC
  rw [up_o (by omega), up_o (by omega), cl_set h0 h1 (up_s u (t + 1) k v) (fun j hj => up_j hj), show up u (t + 1) k v (t + 2) = u (t + 2) from funext fun j => up_o (by omega)]
theorem bdT_strap {u : PM} {t : Nat} {k v : Int} (h0 : 0 ≤ k) (h1 : k < 128) : bdT (up u (t + 2) k v) t = bSS (bdT u t) k v := by
  unfold bdT bSS
  rw [up_o (by omega), up_o (by omega), cl_set h0 h1 (up_s u (t + 2) k v) (fun j hj => up_j hj), show up u (t + 2) k v (t + 1) = u (t + 1) from funext fun j => up_o (by omega)]
/-- numbers of 32 bits -/
def i32 (x : Int) : Prop := -2147483648 ≤ x ∧ x ≤ 2147483647
theorem bCell_w1 {B : Bd} (h : B.1 ≤ 8) {x : Int} (hx : i32 x) (y : Int) : bCell B (w (x + 1)) y = bCell B (x + 1) y := by
  obtain ⟨h0, h1⟩ := hx
  by_cases e : x = 2147483647
  · subst e
    have : w (2147483647 + 1) = -2147483648 := by decide
    rw [this]
    unfold bCell
    rw [if_neg (by omega), if_neg (by omega)]
  · rw [w_id (by omega) (by omega)]
theorem bCell_w2 {B : Bd} (h : B.2.1 ≤ 8) {y : Int} (hy : i32 y) (x : Int) : bCell B x (w (y + 1)) = bCell B x (y + 1) := by
  obtain ⟨h0, h1⟩ := hy
  by_cases e : y = 2147483647
  · subst e
    have : w (2147483647 + 1) = -2147483648 := by decide
    rw [this]
    unfold bCell
    rw [if_neg (by omega), if_neg (by omega)]
  · rw [w_id (by omega) (by omega)]
/-- how many cells of row y are empty; how many cells hold v; cells covered; straps -/
def bEmp (B : Bd) (y : Int) : Int := sumI (fun x => bI (bCell B x y = -1)) B.1.toNat
def bCnt (B : Bd) (v : Int) : Int := sumI (fun y => sumI (fun x => bI (bCell B x y = v)) B.1.toNat) B.2.1.toNat
def bStn (B : Bd) : Int := sumI (fun k => bI (B.2.2.2 k ≠ 0)) 128
/-- how many cells of a placement lie in row j; its points -/
def bRow (s r y j : Int) : Int := sumI (fun i => bI (pY s r y i = j)) (sz s).toNat
def bPts (B : Bd) (s r y : Int) : Int := sz s + sumI (fun j => if 0 < bRow s r y j ∧ bRow s r y j = bEmp B j then B.1 else 0) B.2.1.toNat
theorem bI_bd (p : Prop) [Decidable p] : 0 ≤ bI p ∧ bI p ≤ 1 := by unfold bI; split <;> omega
theorem bEmp_bd (B : Bd) (h0 : 0 ≤ B.1) (y : Int) : 0 ≤ bEmp B y ∧ bEmp B y ≤ B.1 := by
  have := sumI_bd (f := fun x => bI (bCell B x y = -1)) (n := B.1.toNat) (b := 1) fun i _ _ => bI_bd _
  unfold bEmp
  omega
section
variable {g : PG} {u : PM} {t f : Nat} {s r x y : Int}
theorem Tk_holds2 (hk : kTk g t) (x y : Int) : call M_Tk_holds [vA t, vI x, vI y] g u = some (0, vI (bI (bIn (bdT u t) x y)), g, u) := Tk_holds hk x y
theorem Tk_holdsEdge (hk : kTk g t) (ho : tOk u t) (x y s : Int) : call M_Tk_holdsEdge [vA t, vI x, vI y, vI s] g u = some (0, vI (bI (bEdge (bdT u t) x y s)), g, u) := by
  obtain ⟨h1, h2, -⟩ := ho
  rw [C_Tk_holdsEdge, gd_O hk.1, Tk_holds2 hk, cI_some]
  simp only [gd_O hk.1]
  have e1 : w (u t 0 - 1) = (bdT u t).1 - 1 := w_id (by omega) (by omega)
  have e2 : w (u t 1 - 1) = (bdT u t).2.1 - 1 := w_id (by omega) (by omega)
  rw [e1, e2]
  by_cases h : bIn (bdT u t) x y
  · rw [bI_t h, if_neg (by omega)]
    by_cases hs : s = 0
    · rw [if_pos hs]
      by_cases hc : x < (bdT u t).1 - 1
      · rw [if_pos hc, bI_t ⟨h, Or.inl ⟨hs, hc⟩⟩]
      · rw [if_neg hc, bI_f fun q => q.2.elim (fun a => hc a.2) fun a => a.1 hs]
    · rw [if_neg hs]
      by_cases hc : y < (bdT u t).2.1 - 1
      · rw [if_pos hc, bI_t ⟨h, Or.inr ⟨hs, hc⟩⟩]
      · rw [if_neg hc, bI_f fun q => q.2.elim (fun a => hs a.1) fun a => hc a.2]
  · rw [bI_f h, if_pos rfl, bI_f fun q => h q.1]
theorem Tk_setCell (hk : kTk g t) (ho : tOk u t) (x y v : Int) : call M_Tk_setCell [vA t, vI x, vI y, vI v] g u = some (0, vN, g, if bIn (bdT u t) x y then up u (t + 1) (8 * y + x) v else u) := by
  obtain ⟨h1, h2, -⟩ := ho
  rw [C_Tk_setCell, gd_O hk.1, Tk_holds2 hk, cI_some]
  simp only [gd_O hk.1]
  by_cases h : bIn (bdT u t) x y
  · rw [bI_t h, if_neg (by omega), if_pos h]
    obtain ⟨⟨q1, q2⟩, q3, q4⟩ := h
    have q2' : x < u t 0 := q2
    have q4' : y < u t 1 := q4
    rw [w8 q1 (by omega) q3 (by omega), gd_W hk.2.1 (by omega) (by omega)]
  · rw [bI_f h, if_pos rfl, if_neg h]
theorem Tk_setStrap (hk : kTk g t) (ho : tOk u t) (x y s : Int) : call M_Tk_setStrap [vA t, vI x, vI y, vI s] g u = some (0, vN, g, if (0 ≤ s ∧ s < 2) ∧ bEdge (bdT u t) x y s then up u (t + 2) (2 * (8 * y + x) + s) 1 else u) := by
  have hE := Tk_holdsEdge (g := g) hk ho x y s
  obtain ⟨h1, h2, -⟩ := ho
  rw [C_Tk_setStrap]
  simp only [gd_O hk.1]
  rw [hE, cI_some]
  by_cases h0 : s < 0
  · rw [if_pos h0, if_neg (fun q => by omega)]
  · rw [if_neg h0]
    by_cases h3 : s < 2
    · rw [if_pos h3]
      by_cases h : bEdge (bdT u t) x y s
      · rw [bI_t h, if_neg (by omega), if_pos ⟨⟨by omega, h3⟩, h⟩]
        obtain ⟨⟨⟨q1, q2⟩, q3, q4⟩, -⟩ := h
        have q2' : x < u t 0 := q2
        have q4' : y < u t 1 := q4
        rw [w8s q1 (by omega) q3 (by omega) (by omega) h3, gd_W hk.2.2 (by omega) (by omega), gd_O hk.1]
        rfl
      · rw [bI_f h, if_pos rfl, if_neg fun q => h q.2]
    · rw [if_neg h3, if_neg (fun q => by omega)]
theorem Tk_cellBeyond (hk : kTk g t) (ho : tOk u t) (hx : i32 x) (hy : i32 y) (s : Int) : call M_Tk_cellBeyond [vA t, vI x, vI y, vI s] g u = some (0, vI (bBey (bdT u t) x y s), g, u) := by
  rw [C_Tk_cellBeyond]
  simp only [gd_O hk.1, Tk_cellAt2 hk ho, cI_some]
  rw [bCell_w1 ho.1.2 hx, bCell_w2 ho.2.1.2 hy]
  unfold bBey
  split <;> rfl
theorem Tk_isEdgeBlocked (hk : kTk g t) (ho : tOk u t) (hx : i32 x) (hy : i32 y) (s : Int) : call M_Tk_isEdgeBlocked [vA t, vI x, vI y, vI s] g u = some (0, vI (bI (bCell (bdT u t) x y = -2 ∨ bBey (bdT u t) x y s = -2)), g, u) := by
  rw [C_Tk_isEdgeBlocked]
  simp only [gd_O hk.1, Tk_cellAt2 hk ho, Tk_cellBeyond hk ho hx hy, cI_some]
  by_cases h1 : bCell (bdT u t) x y = -2
  · rw [if_pos h1, bI_t (Or.inl h1)]
  · rw [if_neg h1]
    by_cases h2 : bBey (bdT u t) x y s = -2
    · rw [if_pos h2, bI_t (Or.inr h2)]
    · rw [if_neg h2, bI_f fun q => q.elim h1 h2]
theorem Tk_isEdgeCovered (hk : kTk g t) (ho : tOk u t) (hx : i32 x) (hy : i32 y) (s : Int) : call M_Tk_isEdgeCovered [vA t, vI x, vI y, vI s] g u = some (0, vI (bI (0 ≤ bCell (bdT u t) x y ∧ bCell (bdT u t) x y = bBey (bdT u t) x y s)), g, u) := by
  rw [C_Tk_isEdgeCovered]
  simp only [gd_O hk.1, Tk_cellAt2 hk ho, Tk_cellBeyond hk ho hx hy, cI_some]
  by_cases h1 : bCell (bdT u t) x y < 0
  · rw [if_pos h1, bI_f (fun q => by omega)]
  · rw [if_neg h1]
    by_cases h2 : bCell (bdT u t) x y = bBey (bdT u t) x y s
    · rw [if_pos h2, bI_t ⟨by omega, h2⟩]
    · rw [if_neg h2, bI_f fun q => h2 q.2]
theorem Tk_countEmptyIn (hk : kTk g t) (ho : tOk u t) (y : Int) : call M_Tk_countEmptyIn [vA t, vI y] g u = some (0, vI (bEmp (bdT u t) y), g, u) := by
  have h := loop_sum (F := fun a i => run M_Tk_countEmptyIn 4 [vA t, vI y, vI a, vI i] [] g u) (f := fun x => bI (bCell (bdT u t) x y = -1)) (n := u t 0) (b := 1) (c := 0) ho.1.1 (by omega) (fun i _ _ => bI_bd _) (fun a i h0 h1 h2 h3 => by
    have := ho.1
    have wa : w (a + 1) = a + 1 := w_id (by omega) (by omega)
    have wi : w (i + 1) = i + 1 := w_id (by omega) (by omega)
    show run M_Tk_countEmptyIn 4 [vA t, vI y, vI a, vI i] [] g u = run M_Tk_countEmptyIn 4 [vA t, vI y, vI (a + bI (bCell (bdT u t) i y = -1)), vI (i + 1)] [] g u
    rw [R_Tk_countEmptyIn_4]
    simp only [gd_O hk.1, Tk_cellAt2 hk ho, cI_some]
    rw [if_pos h1, wa, wi]
    by_cases hc : bCell (bdT u t) i y = -1
    · rw [if_pos hc, bI_t hc]
    · rw [if_neg hc, bI_f hc, Int.add_zero])
  rw [C_Tk_countEmptyIn]
  refine Eq.trans h ?_
  rw [R_Tk_countEmptyIn_4, gd_O hk.1, if_neg (by omega), Int.zero_add]
  rfl
theorem Tk_countCells (hk : kTk g t) (ho : tOk u t) (v : Int) : call M_Tk_countCells [vA t, vI v] g u = some (0, vI (bCnt (bdT u t) v), g, u) := by
  have rowS : ∀ y : Int, 0 ≤ sumI (fun x => bI (bCell (bdT u t) x y = v)) (bdT u t).1.toNat ∧ sumI (fun x => bI (bCell (bdT u t) x y = v)) (bdT u t).1.toNat ≤ 8 := fun y => by
    have a := sumI_bd (f := fun x => bI (bCell (bdT u t) x y = v)) (n := (bdT u t).1.toNat) (b := 1) fun i _ _ => bI_bd _
    have b : (bdT u t).1 ≤ 8 := ho.1.2
    have c : 0 ≤ (bdT u t).1 := ho.1.1
    omega
  have row : ∀ (a y : Int), 0 ≤ a → a ≤ 64 → 0 ≤ y → y < u t 1 → run M_Tk_countCells 15 [vA t, vI v, vI a, vI y, vI 0] [] g u = run M_Tk_countCells 4 [vA t, vI v, vI (a + sumI (fun x => bI (bCell (bdT u t) x y = v)) (bdT u t).1.toNat), vI (y + 1), vN] [] g u := by
    intro a y ha ha2 hy hy2
    have := ho.2.1
    have h := loop_sum (F := fun a i => run M_Tk_countCells 15 [vA t, vI v, vI a, vI y, vI i] [] g u) (f := fun x => bI (bCell (bdT u t) x y = v)) (n := u t 0) (b := 1) (c := a) ho.1.1 (by omega) (fun i _ _ => bI_bd _) (fun a' i h0 h1 h2 h3 => by
      have := ho.1
      have wa : w (a' + 1) = a' + 1 := w_id (by omega) (by omega)
      have wi : w (i + 1) = i + 1 := w_id (by omega) (by omega)
      show run M_Tk_countCells 15 [vA t, vI v, vI a', vI y, vI i] [] g u = run M_Tk_countCells 15 [vA t, vI v, vI (a' + bI (bCell (bdT u t) i y = v)), vI y, vI (i + 1)] [] g u
      rw [R_Tk_countCells_15]
      simp only [gd_O hk.1, Tk_cellAt2 hk ho, cI_some]
      rw [if_pos h1, wa, wi]
      by_cases hc : bCell (bdT u t) i y = v
      · rw [if_pos hc, bI_t hc]
      · rw [if_neg hc, bI_f hc, Int.add_zero])
    refine Eq.trans h ?_
    rw [R_Tk_countCells_15, gd_O hk.1, if_neg (by omega), w_id (x := y + 1) (by omega) (by omega)]
    rfl
  have h := loop_sum (F := fun a i => run M_Tk_countCells 4 [vA t, vI v, vI a, vI i, vN] [] g u) (f := fun y => sumI (fun x => bI (bCell (bdT u t) x y = v)) (bdT u t).1.toNat) (n := u t 1) (b := 8) (c := 0) ho.2.1.1 (by omega) (fun i _ _ => rowS i) (fun a i h0 h1 h2 h3 => by
    have := ho.2.1
    show run M_Tk_countCells 4 [vA t, vI v, vI a, vI i, vN] [] g u = _
    rw [R_Tk_countCells_4, gd_O hk.1, if_pos h1]
    exact row a i h2 (by omega) h0 h1)
  rw [C_Tk_countCells]
  refine Eq.trans h ?_
  rw [R_Tk_countCells_4, gd_O hk.1, if_neg (by omega), Int.zero_add]
  rfl
theorem bCnt_bd {B : Bd} (h : 0 ≤ B.1 ∧ B.1 ≤ 8) (h' : 0 ≤ B.2.1 ∧ B.2.1 ≤ 8) (v : Int) : 0 ≤ bCnt B v ∧ bCnt B v ≤ 64 := by
  have a := sumI_bd (f := fun y => sumI (fun x => bI (bCell B x y = v)) B.1.toNat) (n := B.2.1.toNat) (b := 8) fun y _ _ => by
    have := sumI_bd (f := fun x => bI (bCell B x y = v)) (n := B.1.toNat) (b := 1) fun i _ _ => bI_bd _
    omega
  unfold bCnt
  omega
def bCov (B : Bd) : Int := B.1 * B.2.1 - bCnt B (-1) - bCnt B (-2)
theorem Tk_countCovered (hk : kTk g t) (ho : tOk u t) : call M_Tk_countCovered [vA t] g u = some (0, vI (bCov (bdT u t)), g, u) := by
  have a := bCnt_bd (B := bdT u t) ho.1 ho.2.1 (-1)
  have b := bCnt_bd (B := bdT u t) ho.1 ho.2.1 (-2)
  have c : 0 ≤ u t 0 * u t 1 ∧ u t 0 * u t 1 ≤ 64 := ⟨Int.mul_nonneg ho.1.1 ho.2.1.1, Int.le_trans (Int.mul_le_mul_of_nonneg_right ho.1.2 ho.2.1.1) (by have := ho.2.1; omega)⟩
  rw [C_Tk_countCovered]
  simp only [gd_O hk.1, Tk_countCells hk ho, cI_some]
  rw [w_id (x := u t 0 * u t 1) (by omega) (by omega), w_id (x := u t 0 * u t 1 - _) (by omega) (by omega), w_id (by omega) (by omega)]
  rfl
theorem Tk_countStraps (hk : kTk g t) : call M_Tk_countStraps [vA t] g u = some (0, vI (bStn (bdT u t)), g, u) := by
  have h := loop_sum (F := fun a i => run M_Tk_countStraps 4 [vA t, vI a, vI i] [] g u) (f := fun k => bI (u (t + 2) k ≠ 0)) (n := 128) (b := 1) (c := 0) (by omega) (by omega) (fun i _ _ => bI_bd _) (fun a i h0 h1 h2 h3 => by
    have wa : w (a + 1) = a + 1 := w_id (by omega) (by omega)
    have wi : w (i + 1) = i + 1 := w_id (by omega) (by omega)
    show run M_Tk_countStraps 4 [vA t, vI a, vI i] [] g u = run M_Tk_countStraps 4 [vA t, vI (a + bI (u (t + 2) i ≠ 0)), vI (i + 1)] [] g u
    rw [R_Tk_countStraps_4]
    simp only [gd_O hk.1]
    rw [if_pos h1, gd_W hk.2.2 h0 h1, wa, wi]
    by_cases hc : u (t + 2) i = 0
    · rw [if_pos hc, bI_f (fun q => q hc), Int.add_zero]
    · rw [if_neg hc, bI_t hc])
  rw [C_Tk_countStraps]
  refine Eq.trans h ?_
  rw [R_Tk_countStraps_4, if_neg (by omega), Int.zero_add]
  have e : sumI (fun k => bI (u (t + 2) k ≠ 0)) (128 : Int).toNat = bStn (bdT u t) := by
    show _ = sumI (fun k => bI (cl 128 (u (t + 2)) k ≠ 0)) 128
    exact sumI_congr (n := 128) fun i h0 h1 => by rw [cl_in h0 (show i < 128 from h1)]
  rw [e]
theorem bRow_bd (h0 : 0 ≤ s) (h1 : s < 5) (r y j : Int) : 0 ≤ bRow s r y j ∧ bRow s r y j ≤ 4 := by
  have a := sumI_bd (f := fun i => bI (pY s r y i = j)) (n := (sz s).toNat) (b := 1) fun i _ _ => bI_bd _
  have b := sz_bd h0 h1
  unfold bRow
  omega
theorem Tk_pointsOf (hq : QOk g u t f s r x y) : call M_Tk_pointsOf [vA t, vA f] g u = some (0, vI (bPts (bdT u t) s r y), g, u) := by
  obtain ⟨hk, ho, hf, hA, hs, hr, hx, hy⟩ := hq
  have hz := sz_bd hs.1 hs.2
  have hn : u f 4 = sz s := hA.1.2.2.1
  have row : ∀ (a j : Int), 0 ≤ a → a ≤ 100 → 0 ≤ j → j < u t 1 → run M_Tk_pointsOf 21 [vA t, vA f, vI a, vI j, vI 0, vI 0] [] g u = run M_Tk_pointsOf 7 [vA t, vA f, vI (a + (if 0 < bRow s r y j ∧ bRow s r y j = bEmp (bdT u t) j then u t 0 else 0)), vI (j + 1), vN, vN] [] g u := by
    intro a j ha ha2 hj hj2
    have h8 := ho.2.1
    have h9 := ho.1
    have h := loop_sum (F := fun c i => run M_Tk_pointsOf 21 [vA t, vA f, vI a, vI j, vI c, vI i] [] g u) (f := fun i => bI (pY s r y i = j)) (n := sz s) (b := 1) (c := 0) (by omega) (by omega) (fun i _ _ => bI_bd _) (fun c i h0 h1 h2 h3 => by
      have wa : w (c + 1) = c + 1 := w_id (by omega) (by omega)
      have wi : w (i + 1) = i + 1 := w_id (by omega) (by omega)
      show run M_Tk_pointsOf 21 [vA t, vA f, vI a, vI j, vI c, vI i] [] g u = run M_Tk_pointsOf 21 [vA t, vA f, vI a, vI j, vI (c + bI (pY s r y i = j)), vI (i + 1)] [] g u
      rw [R_Tk_pointsOf_21]
      simp only [gd_O hf.1]
      rw [if_pos (by omega), Fp_rowOf hf hA hy hz.2 h0 h1, cI_some, wa, wi]
      by_cases hc : pY s r y i = j
      · rw [if_pos hc, bI_t hc]
      · rw [if_neg hc, bI_f hc, Int.add_zero])
    refine Eq.trans h ?_
    have hb := bRow_bd hs.1 hs.2 r y j
    show run M_Tk_pointsOf 21 [vA t, vA f, vI a, vI j, vI (0 + bRow s r y j), vI (sz s)] [] g u = _
    rw [R_Tk_pointsOf_21]
    simp only [gd_O hf.1, gd_O hk.1, Tk_countEmptyIn hk ho, cI_some]
    rw [if_neg (by omega), Int.zero_add, w_id (x := j + 1) (by omega) (by omega), w_id (x := a + u t 0) (by omega) (by omega)]
    by_cases c1 : 0 < bRow s r y j
    · rw [if_pos c1]
      by_cases c2 : bRow s r y j = bEmp (bdT u t) j
      · rw [if_pos c2, if_pos (show 0 < bRow s r y j ∧ bRow s r y j = bEmp (bdT u t) j from ⟨c1, c2⟩)]
      · rw [if_neg c2, if_neg fun q => c2 q.2, Int.add_zero]
    · rw [if_neg c1, if_neg fun q => c1 q.1, Int.add_zero]
  have h := loop_sum (F := fun a i => run M_Tk_pointsOf 7 [vA t, vA f, vI a, vI i, vN, vN] [] g u) (f := fun j => if 0 < bRow s r y j ∧ bRow s r y j = bEmp (bdT u t) j then u t 0 else 0) (n := u t 1) (b := 8) (c := sz s) ho.2.1.1 (by omega) (fun i _ _ => by
      have := ho.1
      split <;> omega) (fun a i h0 h1 h2 h3 => by
    have := ho.2.1
    show run M_Tk_pointsOf 7 [vA t, vA f, vI a, vI i, vN, vN] [] g u = _
    rw [R_Tk_pointsOf_7, gd_O hk.1, if_pos h1]
    exact row a i (by omega) (by omega) h0 h1)
  rw [C_Tk_pointsOf, gd_O hf.1, hn]
  refine Eq.trans h ?_
  rw [R_Tk_pointsOf_7, gd_O hk.1, if_neg (by omega)]
  rfl
end
