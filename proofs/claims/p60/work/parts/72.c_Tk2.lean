/-! ===== boards: what class and reference are compared by; the trunk's reads ===== -/
def cl (n : Int) (f : Int → Int) : Int → Int := fun j => if 0 ≤ j ∧ j < n then f j else 0
theorem cl_in {n : Int} {f : Int → Int} {j : Int} (h0 : 0 ≤ j) (h1 : j < n) : cl n f j = f j := if_pos ⟨h0, h1⟩
theorem cl_ext {n : Int} {f f' : Int → Int} (h : ∀ j : Int, 0 ≤ j → j < n → f j = f' j) : cl n f = cl n f' := by
  funext j
  unfold cl
  by_cases q : 0 ≤ j ∧ j < n
  · rw [if_pos q, if_pos q, h j q.1 q.2]
  · rw [if_neg q, if_neg q]
/-- columns, rows, cells (-1 empty, -2 blocked, else the piece) at 8 y + x, straps (0, 1) at 2 (8 y + x) + side -/
abbrev Bd : Type := Int × Int × (Int → Int) × (Int → Int)
def bdT (u : PM) (t : Nat) : Bd := (u t 0, u t 1, cl 64 (u (t + 1)), cl 128 (u (t + 2)))
abbrev bIn (B : Bd) (x y : Int) : Prop := (0 ≤ x ∧ x < B.1) ∧ 0 ≤ y ∧ y < B.2.1
def bCell (B : Bd) (x y : Int) : Int := if bIn B x y then B.2.2.1 (8 * y + x) else -3
def bStrap (B : Bd) (x y s : Int) : Int := if bIn B x y ∧ 0 ≤ s ∧ s < 2 then B.2.2.2 (2 * (8 * y + x) + s) else 0
theorem tCell_b {u : PM} {t : Nat} (ho : tOk u t) (x y : Int) : tCell u t x y = bCell (bdT u t) x y := by
  obtain ⟨h1, h2, -⟩ := ho
  unfold tCell bCell
  show (if (0 ≤ x ∧ x < u t 0) ∧ 0 ≤ y ∧ y < u t 1 then _ else _) = (if (0 ≤ x ∧ x < u t 0) ∧ 0 ≤ y ∧ y < u t 1 then cl 64 (u (t + 1)) (8 * y + x) else -3)
  by_cases h : (0 ≤ x ∧ x < u t 0) ∧ 0 ≤ y ∧ y < u t 1
  · rw [if_pos h, if_pos h, cl_in (by omega) (by omega)]
  · rw [if_neg h, if_neg h]
theorem tStrap_b {u : PM} {t : Nat} (ho : tOk u t) (x y s : Int) : tStrap u t x y s = bStrap (bdT u t) x y s := by
  obtain ⟨h1, h2, -⟩ := ho
  unfold tStrap bStrap
  show (if ((0 ≤ x ∧ x < u t 0) ∧ 0 ≤ y ∧ y < u t 1) ∧ 0 ≤ s ∧ s < 2 then _ else _) = (if ((0 ≤ x ∧ x < u t 0) ∧ 0 ≤ y ∧ y < u t 1) ∧ 0 ≤ s ∧ s < 2 then cl 128 (u (t + 2)) (2 * (8 * y + x) + s) else 0)
  by_cases h : ((0 ≤ x ∧ x < u t 0) ∧ 0 ≤ y ∧ y < u t 1) ∧ 0 ≤ s ∧ s < 2
  · rw [if_pos h, if_pos h, cl_in (by omega) (by omega)]
  · rw [if_neg h, if_neg h]
/-- is one of d places from i on so? -/
def anyF (P : Int → Bool) : Nat → Int → Bool
  | 0, _ => false
  | d + 1, i => P i || anyF P d (i + 1)
theorem anyF_congr {P P' : Int → Bool} : ∀ {d : Nat} {i : Int}, (∀ j : Int, i ≤ j → j < i + d → P j = P' j) → anyF P d i = anyF P' d i
  | 0, _, _ => rfl
  | d + 1, i, h => by
    unfold anyF
    rw [h i (Int.le_refl _) (by omega), anyF_congr fun j h0 h1 => h j (by omega) (by omega)]
theorem anyF_iff {P : Int → Bool} : ∀ {d : Nat} {i : Int}, anyF P d i = true ↔ ∃ j : Int, (i ≤ j ∧ j < i + d) ∧ P j = true
  | 0, i => by
    constructor
    · intro h
      exact absurd h (by simp [anyF])
    · intro h
      obtain ⟨j, h, _⟩ := h
      exact absurd h (by omega)
  | d + 1, i => by
    unfold anyF
    rw [Bool.or_eq_true, anyF_iff]
    constructor
    · rintro (h | ⟨j, h1, h2⟩)
      · exact ⟨i, ⟨Int.le_refl _, by omega⟩, h⟩
      · exact ⟨j, ⟨by omega, by omega⟩, h2⟩
    · rintro ⟨j, h1, h2⟩
      by_cases e : j = i
      · subst e; exact Or.inl h2
      · exact Or.inr ⟨j, ⟨by omega, by omega⟩, h2⟩
def pX (s r x i : Int) : Int := x + oR s r i
def pY (s r y i : Int) : Int := y + oD s r i
/-- the answers of misfitReason() -/
def bCrs (B : Bd) (s r x y : Int) : Bool := anyF (fun k => decide (bStrap B (x + ((edg s r).getD k.toNat (0, 0, 0)).1) (y + ((edg s r).getD k.toNat (0, 0, 0)).2.1) ((edg s r).getD k.toNat (0, 0, 0)).2.2 ≠ 0)) (edg s r).length 0
def bMis (B : Bd) (s r x y : Int) : Int :=
  if anyF (fun i => decide (bCell B (pX s r x i) (pY s r y i) = -3)) (sz s).toNat 0 = true then 1
  else if anyF (fun i => decide (bCell B (pX s r x i) (pY s r y i) = -2)) (sz s).toNat 0 = true then 2
  else if anyF (fun i => decide (0 ≤ bCell B (pX s r x i) (pY s r y i))) (sz s).toNat 0 = true then 3
  else if bCrs B s r x y = true then 4 else 0
/-- the footprint at f shows shape s, turned r times, at (x, y) -/
def FpAt (u : PM) (f : Nat) (s r x y : Int) : Prop := FpT u f s r ∧ u f 2 = x ∧ u f 3 = y
theorem edg_all : ∀ s : Nat, s < 5 → ∀ r : Nat, r < 4 → (edg s r).length ≤ 4 ∧ ∀ e ∈ edg s r, (-3 ≤ e.1 ∧ e.1 ≤ 3) ∧ (-3 ≤ e.2.1 ∧ e.2.1 ≤ 3) ∧ 0 ≤ e.2.2 ∧ e.2.2 < 2 := by decide +kernel
theorem edg_bd {s r : Int} (h0 : 0 ≤ s) (h1 : s < 5) (h2 : 0 ≤ r) (h3 : r < 4) : (edg s r).length ≤ 4 ∧ ∀ e ∈ edg s r, (-3 ≤ e.1 ∧ e.1 ≤ 3) ∧ (-3 ≤ e.2.1 ∧ e.2.1 ≤ 3) ∧ 0 ≤ e.2.2 ∧ e.2.2 < 2 := by
  have := edg_all s.toNat (by omega) r.toNat (by omega)
  rw [show ((s.toNat : Nat) : Int) = s by omega, show ((r.toNat : Nat) : Int) = r by omega] at this
  exact this
section
variable {g : PG} {u : PM} {t f : Nat} {s r x y : Int}
theorem Tk_cellAt2 (hk : kTk g t) (ho : tOk u t) (x y : Int) : call M_Tk_cellAt [vA t, vI x, vI y] g u = some (0, vI (bCell (bdT u t) x y), g, u) := by rw [Tk_cellAt hk ho, tCell_b ho]
theorem Tk_strapAt2 (hk : kTk g t) (ho : tOk u t) (x y s : Int) : call M_Tk_strapAt [vA t, vI x, vI y, vI s] g u = some (0, vI (bStrap (bdT u t) x y s), g, u) := by rw [Tk_strapAt hk ho, tStrap_b ho]
theorem Fp_columnOf (hk : kFp g f) (hA : FpAt u f s r x y) (hx : -100 ≤ x ∧ x ≤ 100) (hz : sz s ≤ 4) {i : Int} (h0 : 0 ≤ i) (h1 : i < sz s) : call M_Fp_columnOf [vA f, vI i] g u = some (0, vI (pX s r x i), g, u) := by
  have b := oRD_bd s r i
  rw [C_Fp_columnOf, if_neg (by omega), if_pos (by omega)]
  simp only [gd_O hk.1]
  rw [gd_R hk.2.1 h0 (by omega), hA.2.1, (hA.1.2.2.2.2.1 i h0 h1).1, w_id (by omega) (by omega)]
  rfl
theorem Fp_rowOf (hk : kFp g f) (hA : FpAt u f s r x y) (hy : -100 ≤ y ∧ y ≤ 100) (hz : sz s ≤ 4) {i : Int} (h0 : 0 ≤ i) (h1 : i < sz s) : call M_Fp_rowOf [vA f, vI i] g u = some (0, vI (pY s r y i), g, u) := by
  have b := oRD_bd s r i
  rw [C_Fp_rowOf, if_neg (by omega), if_pos (by omega)]
  simp only [gd_O hk.1]
  rw [gd_R hk.2.2.1 h0 (by omega), hA.2.2, (hA.1.2.2.2.2.1 i h0 h1).2, w_id (by omega) (by omega)]
  rfl
theorem Fp_edge (hk : kFp g f) (hA : FpAt u f s r x y) (hx : -100 ≤ x ∧ x ≤ 100) (hy : -100 ≤ y ∧ y ≤ 100) (hs : 0 ≤ s ∧ s < 5) (hr : 0 ≤ r ∧ r < 4) {i : Int} (h0 : 0 ≤ i) (h1 : i < (edg s r).length) :
    call M_Fp_edgeColumnOf [vA f, vI i] g u = some (0, vI (x + ((edg s r).getD i.toNat (0, 0, 0)).1), g, u) ∧ call M_Fp_edgeRowOf [vA f, vI i] g u = some (0, vI (y + ((edg s r).getD i.toNat (0, 0, 0)).2.1), g, u) ∧ call M_Fp_sideOf [vA f, vI i] g u = some (0, vI ((edg s r).getD i.toNat (0, 0, 0)).2.2, g, u) := by
  obtain ⟨hl, hb⟩ := edg_bd hs.1 hs.2 hr.1 hr.2
  have hi : i.toNat < (edg s r).length := by omega
  have hg : (edg s r)[i.toNat]? = some ((edg s r).getD i.toNat (0, 0, 0)) := by
    rw [List.getD_eq_getElem?_getD, List.getElem?_eq_getElem hi]
    rfl
  generalize (edg s r).getD i.toNat (0, 0, 0) = e at hg ⊢
  have hbe := hb e (List.mem_of_getElem? hg)
  obtain ⟨q1, q2, q3⟩ := hA.1.2.2.2.2.2 _ _ hg
  rw [show ((i.toNat : Nat) : Int) = i by omega] at q1 q2 q3
  refine ⟨?_, ?_, ?_⟩
  · rw [C_Fp_edgeColumnOf, if_neg (by omega), if_pos (by omega)]
    simp only [gd_O hk.1]
    rw [gd_R hk.2.2.2.1 h0 (by omega), hA.2.1, q1, w_id (by omega) (by omega)]
  · rw [C_Fp_edgeRowOf, if_neg (by omega), if_pos (by omega)]
    simp only [gd_O hk.1]
    rw [gd_R hk.2.2.2.2.1 h0 (by omega), hA.2.2, q2, w_id (by omega) (by omega)]
  · rw [C_Fp_sideOf, if_neg (by omega), if_pos (by omega)]
    simp only [gd_O hk.1]
    rw [gd_R hk.2.2.2.2.2 h0 (by omega), q3]
/-- what reading footprint and trunk stands on -/
def QOk (g : PG) (u : PM) (t f : Nat) (s r x y : Int) : Prop := kTk g t ∧ tOk u t ∧ kFp g f ∧ FpAt u f s r x y ∧ (0 ≤ s ∧ s < 5) ∧ (0 ≤ r ∧ r < 4) ∧ (-100 ≤ x ∧ x ≤ 100) ∧ -100 ≤ y ∧ y ≤ 100
theorem Tk_isCrossedBy (hq : QOk g u t f s r x y) : call M_Tk_isCrossedBy [vA t, vA f] g u = some (0, vI (bI (bCrs (bdT u t) s r x y = true)), g, u) := by
  obtain ⟨hk, ho, hf, hA, hs, hr, hx, hy⟩ := hq
  have hl := (edg_bd hs.1 hs.2 hr.1 hr.2).1
  have hn : u f 5 = (edg s r).length := hA.1.2.2.2.1
  rw [C_Tk_isCrossedBy]
  have key : ∀ (d : Nat) (i : Int), 0 ≤ i → i + d = (edg s r).length → run M_Tk_isCrossedBy 2 [vA t, vA f, vI i, vN, vN] [] g u = some (0, vI (bI (anyF (fun k => decide (bStrap (bdT u t) (x + ((edg s r).getD k.toNat (0, 0, 0)).1) (y + ((edg s r).getD k.toNat (0, 0, 0)).2.1) ((edg s r).getD k.toNat (0, 0, 0)).2.2 ≠ 0)) d i = true)), g, u) := by
    intro d
    induction d with
    | zero =>
      intro i h0 h1
      rw [R_Tk_isCrossedBy_2]
      simp only [gd_O hf.1]
      rw [if_neg (by omega)]
      rfl
    | succ d ih =>
      intro i h0 h1
      obtain ⟨e1, e2, e3⟩ := Fp_edge (i := i) hf hA hx hy hs hr h0 (by omega)
      rw [R_Tk_isCrossedBy_2]
      simp only [gd_O hf.1, gd_O hk.1]
      rw [if_pos (by omega)]
      simp only [e1, e2, e3, cI_some, gd_O hf.1, gd_O hk.1, Tk_strapAt2 hk ho]
      unfold anyF
      by_cases hb : bStrap (bdT u t) (x + ((edg s r).getD i.toNat (0, 0, 0)).1) (y + ((edg s r).getD i.toNat (0, 0, 0)).2.1) ((edg s r).getD i.toNat (0, 0, 0)).2.2 = 0
      · rw [if_pos hb, w_id (by omega) (by omega), ih (i + 1) (by omega) (by omega)]
        simp only [ne_eq, hb, not_true, decide_false, Bool.false_or]
      · rw [if_neg hb, bI_t]
        simp only [ne_eq, hb, not_false_eq_true, decide_true, Bool.true_or]
  exact key _ 0 (Int.le_refl _) (by omega)
theorem Tk_misfitOf (hq : QOk g u t f s r x y) : call M_Tk_misfitOf [vA t, vA f] g u = some (0, vI (bMis (bdT u t) s r x y), g, u) := by
  have hc := Tk_isCrossedBy hq
  obtain ⟨hk, ho, hf, hA, hs, hr, hx, hy⟩ := hq
  have hz := sz_bd hs.1 hs.2
  have hn : u f 4 = sz s := hA.1.2.2.1
  rw [C_Tk_misfitOf]
  have key : ∀ (d : Nat) (i : Int) (b c : Bool), 0 ≤ i → i + d = sz s → run M_Tk_misfitOf 7 [vA t, vA f, vI (bI (b = true)), vI (bI (c = true)), vI i, vN] [] g u =
      some (0, vI (if anyF (fun i => decide (bCell (bdT u t) (pX s r x i) (pY s r y i) = -3)) d i = true then 1
        else if (b || anyF (fun i => decide (bCell (bdT u t) (pX s r x i) (pY s r y i) = -2)) d i) = true then 2
        else if (c || anyF (fun i => decide (0 ≤ bCell (bdT u t) (pX s r x i) (pY s r y i))) d i) = true then 3
        else if bCrs (bdT u t) s r x y = true then 4 else 0), g, u) := by
    intro d
    induction d with
    | zero =>
      intro i b c h0 h1
      rw [R_Tk_misfitOf_7]
      simp only [gd_O hf.1, gd_O hk.1]
      rw [if_neg (by omega), hc]
      simp only [cI_some, anyF, Bool.or_false]
      cases b
      · cases c
        · by_cases hcr : bCrs (bdT u t) s r x y = true
          · simp [bI, hcr]
          · simp [bI, hcr]
        · simp [bI]
      · simp [bI]
    | succ d ih =>
      intro i b c h0 h1
      rw [R_Tk_misfitOf_7]
      simp only [gd_O hf.1, gd_O hk.1]
      rw [if_pos (by omega)]
      simp only [Fp_columnOf hf hA hx hz.2 h0 (show i < sz s by omega), Fp_rowOf hf hA hy hz.2 h0 (show i < sz s by omega), Tk_cellAt2 hk ho, cI_some, gd_O hf.1, gd_O hk.1]
      have wi : w (i + 1) = i + 1 := w_id (by omega) (by omega)
      have fin : ∀ (b' : Bool) (c1 : Int), c1 = bCell (bdT u t) (pX s r x i) (pY s r y i) → run M_Tk_misfitOf 59 [vA t, vA f, vI (bI (b = true)), vI (bI (c = true)), vI i, vI c1] [vI (bI (b' = true))] g u = run M_Tk_misfitOf 7 [vA t, vA f, vI (bI (b' = true)), vI (bI ((c || decide (0 ≤ c1)) = true)), vI (i + 1), vN] [] g u := by
        intro b' c1 hc1
        rw [R_Tk_misfitOf_59]
        cases c
        · rw [if_pos (by simp [bI])]
          by_cases hn : c1 < 0
          · rw [if_pos hn, wi]
            have : ¬ 0 ≤ c1 := by omega
            simp [bI, this]
          · rw [if_neg hn, R_Tk_misfitOf_69, wi]
            have : 0 ≤ c1 := by omega
            simp [bI, this]
        · rw [if_neg (by simp [bI]), R_Tk_misfitOf_69, wi]
          simp [bI]
      generalize hc1 : bCell (bdT u t) (pX s r x i) (pY s r y i) = c1
      unfold anyF
      rw [hc1]
      by_cases h3 : c1 = -3
      · rw [if_pos h3]
        simp [h3]
      · rw [if_neg h3]
        have step : ∀ b' : Bool, (b' = (b || decide (c1 = -2))) → run M_Tk_misfitOf 59 [vA t, vA f, vI (bI (b = true)), vI (bI (c = true)), vI i, vI c1] [vI (bI (b' = true))] g u = _ := fun b' hb' => (fin b' c1 hc1.symm).trans (ih (i + 1) b' (c || decide (0 ≤ c1)) (by omega) (by omega))
        have goal : ∀ b' : Bool, (b' = (b || decide (c1 = -2))) → run M_Tk_misfitOf 59 [vA t, vA f, vI (bI (b = true)), vI (bI (c = true)), vI i, vI c1] [vI (bI (b' = true))] g u = some (0, vI (if (decide (c1 = -3) || anyF (fun i => decide (bCell (bdT u t) (pX s r x i) (pY s r y i) = -3)) d (i + 1)) = true then 1
        else if (b || (decide (c1 = -2) || anyF (fun i => decide (bCell (bdT u t) (pX s r x i) (pY s r y i) = -2)) d (i + 1))) = true then 2
        else if (c || (decide (0 ≤ c1) || anyF (fun i => decide (0 ≤ bCell (bdT u t) (pX s r x i) (pY s r y i))) d (i + 1))) = true then 3
        else if bCrs (bdT u t) s r x y = true then 4 else 0), g, u) := by
          intro b' hb'
          rw [step b' hb', hb']
          simp only [h3, decide_false, Bool.false_or, Bool.or_assoc]
        cases b
        · rw [if_pos (by simp [bI])]
          by_cases h2 : c1 = -2
          · rw [if_pos h2]
            exact goal true (by simp [h2])
          · rw [if_neg h2]
            exact goal false (by simp [h2])
        · rw [if_neg (by simp [bI])]
          exact goal true (by simp)
  have := key (sz s).toNat 0 false false (Int.le_refl _) (by omega)
  simp only [Bool.false_or] at this
  exact this
end
