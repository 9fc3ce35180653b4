/-! ===== contracts of the class: the footprint turns ===== -/
def tR : List Int := [0, 1, 0, 0, 0, 1, 0, 0, 0, 1, 2, 0, 0, 1, 0, 1, 0, 1, 2, 0]
def tD : List Int := [0, 0, 0, 0, 0, 0, 1, 0, 0, 0, 0, 0, 0, 0, 1, 1, 0, 0, 0, 1]
def tZ : List Int := [2, 3, 3, 4, 4]
/-- the static rows -/
def RO (u : PM) : Prop := (∀ i : Nat, i < 5 → u 100000 i = tZ.getD i 0) ∧ (∀ i : Nat, i < 20 → u 100001 i = tR.getD i 0) ∧ (∀ i : Nat, i < 20 → u 100002 i = tD.getD i 0)
theorem pK_st {g : PG} : pK g 100000 = (2, 0, 5) ∧ pK g 100001 = (2, 0, 20) ∧ pK g 100002 = (2, 0, 20) := ⟨rfl, rfl, rfl⟩
/-- how many cells a shape has, their offsets without and with a rotation -/
def sz (s : Int) : Int := tZ.getD s.toNat 0
def bR (s i : Int) : Int := tR.getD (4 * s + i).toNat 0
def bD (s i : Int) : Int := tD.getD (4 * s + i).toNat 0
def rotR (r x y : Int) : Int := if r = 0 then x else if r = 1 then -y else if r = 2 then -x else y
def rotD (r x y : Int) : Int := if r = 0 then y else if r = 1 then x else if r = 2 then -y else -x
def oR (s r i : Int) : Int := rotR r (bR s i) (bD s i)
def oD (s r i : Int) : Int := rotD r (bR s i) (bD s i)
/-! edges between two of n cells at (X i, Y i): the program's order -/
def eAdd (X Y : Int → Int) (es : List (Int × Int × Int)) (i j : Int) : List (Int × Int × Int) := if abs2 (X i - X j) + abs2 (Y i - Y j) = 1 ∧ es.length < 4 then es ++ [(min2 (X i) (X j), min2 (Y i) (Y j), if abs2 (Y i - Y j) = 0 then 0 else 1)] else es
def eRow (X Y : Int → Int) (i : Int) : Nat → Int → List (Int × Int × Int) → List (Int × Int × Int)
  | 0, _, es => es
  | d + 1, j, es => eRow X Y i d (j + 1) (eAdd X Y es i j)
def eAll (X Y : Int → Int) (n : Int) : Nat → Int → List (Int × Int × Int) → List (Int × Int × Int)
  | 0, _, es => es
  | d + 1, i, es => eAll X Y n d (i + 1) (eRow X Y i (n - (i + 1)).toNat (i + 1) es)
def edg (s r : Int) : List (Int × Int × Int) := eAll (oR s r) (oD s r) (sz s) (sz s).toNat 0 []
theorem abs2_id {x : Int} (h1 : -1000 ≤ x) (h2 : x ≤ 1000) : 0 ≤ abs2 x ∧ abs2 x ≤ 1000 := by
  unfold abs2
  split
  · omega
  · rw [w_id (by omega) (by omega)]; omega
def FEI (u0 u : PM) (f : Nat) (X Y : Int → Int) (n : Int) (es : List (Int × Int × Int)) : Prop := u f 4 = n ∧ u f 5 = es.length ∧ (∀ k : Int, 0 ≤ k → k < n → u (f + 1) k = X k ∧ u (f + 2) k = Y k) ∧
  (∀ (k : Nat) (e : Int × Int × Int), es[k]? = some e → u (f + 3) k = e.1 ∧ u (f + 4) k = e.2.1 ∧ u (f + 5) k = e.2.2) ∧ (∀ (a : Nat) (k : Int), ¬ (a = f ∧ k = 5) → a ≠ f + 3 → a ≠ f + 4 → a ≠ f + 5 → u a k = u0 a k)
section
variable {g : PG} {u u0 : PM} {f : Nat} {X Y : Int → Int} {n i j : Int} {es : List (Int × Int × Int)}
theorem FE_step (hk : kFp g f) (hI : FEI u0 u f X Y n es) (hn : n ≤ 4) (hX : ∀ k : Int, 0 ≤ k → k < n → -8 ≤ X k ∧ X k ≤ 8 ∧ -8 ≤ Y k ∧ Y k ≤ 8) (hi : 0 ≤ i) (hi2 : i < n) (hj : 0 ≤ j) (hj2 : j < n) :
    ∃ u', run M_Fp_findEdges 19 [vA f, vI i, vI j, vN, vN] [] g u = run M_Fp_findEdges 19 [vA f, vI i, vI (j + 1), vN, vN] [] g u' ∧ FEI u0 u' f X Y n (eAdd X Y es i j) := by
  obtain ⟨k0, k1, k2, k3, k4, k5⟩ := hk
  obtain ⟨a1, a2, a3, a4, a5⟩ := hI
  obtain ⟨xi, yi⟩ := a3 i hi hi2
  obtain ⟨xj, yj⟩ := a3 j hj hj2
  have bi := hX i hi hi2
  have bj := hX j hj hj2
  have ax := abs2_id (x := X i - X j) (by omega) (by omega)
  have ay := abs2_id (x := Y i - Y j) (by omega) (by omega)
  have w1 : w (j + 1) = j + 1 := w_id (by omega) (by omega)
  have w2 : w (X i - X j) = X i - X j := w_id (by omega) (by omega)
  have w3 : w (Y i - Y j) = Y i - Y j := w_id (by omega) (by omega)
  have w4 : w (abs2 (X i - X j) + abs2 (Y i - Y j)) = abs2 (X i - X j) + abs2 (Y i - Y j) := w_id (by omega) (by omega)
  rw [R_Fp_findEdges_19]
  simp only [gd_O k0]
  rw [if_pos (by omega)]
  rw [gd_R k1 (by omega) (by omega), gd_R k1 (by omega) (by omega), gd_R k2 (by omega) (by omega), gd_R k2 (by omega) (by omega)]
  rw [xi, xj, yi, yj, w1, w2, w3, w4]
  unfold eAdd
  by_cases hadj : abs2 (X i - X j) + abs2 (Y i - Y j) = 1
  · rw [if_pos hadj]
    by_cases hl : es.length < 4
    · rw [if_pos (by omega)]
      rw [if_pos (show abs2 (X i - X j) + abs2 (Y i - Y j) = 1 ∧ es.length < 4 from ⟨hadj, hl⟩)]
      rw [gd_R k1 (by omega) (by omega), gd_R k1 (by omega) (by omega), gd_W k3 (by omega) (by omega), gd_R k2 (by omega) (by omega), gd_R k2 (by omega) (by omega)]
      have o1 : ∀ (v : Int) (k : Int) (q : Int), up u (f + 3) q v f k = u f k := fun v k q => up_o (by omega)
      have o2 : ∀ (v : Int) (k : Int) (q : Int), up u (f + 3) q v (f + 2) k = u (f + 2) k := fun v k q => up_o (by omega)
      have o3 : ∀ (v v' : Int) (k : Int) (q q' : Int), up (up u (f + 3) q v) (f + 4) q' v' f k = u f k := fun v v' k q q' => by rw [up_o (by omega), up_o (by omega)]
      simp only [o1, o2, o3, yi, yj, a2]
      rw [gd_W k4 (by omega) (by omega)]
      have fin : ∀ sd : Int, sd = (if abs2 (Y i - Y j) = 0 then 0 else 1) → ∃ u', run M_Fp_findEdges 144 [vA f, vI i, vI j, vI (abs2 (X i - X j)), vI (abs2 (Y i - Y j))] [vI sd, vI es.length, vA (f + 5)] g (up (up u (f + 3) es.length (min2 (X i) (X j))) (f + 4) es.length (min2 (Y i) (Y j))) = run M_Fp_findEdges 19 [vA f, vI i, vI (j + 1), vN, vN] [] g u' ∧ FEI u0 u' f X Y n (es ++ [(min2 (X i) (X j), min2 (Y i) (Y j), if abs2 (Y i - Y j) = 0 then 0 else 1)]) := by
        intro sd hsd
        rw [R_Fp_findEdges_144, gd_W k5 (by omega) (by omega)]
        simp only [gd_O k0]
        rw [w1]
        refine ⟨_, rfl, ?_⟩
        have q1 : ∀ k, up (up (up u (f + 3) es.length (min2 (X i) (X j))) (f + 4) es.length (min2 (Y i) (Y j))) (f + 5) es.length sd f k = u f k := fun k => by rw [up_o (by omega), up_o (by omega), up_o (by omega)]
        rw [q1, a2, w_id (by omega) (by omega)]
        refine ⟨?_, ?_, fun k h0 h1 => ?_, fun k e hke => ?_, fun a k h1 h2 h3 h4 => ?_⟩
        · rw [up_j (by omega), q1, a1]
        · rw [up_s]; simp
        · simp (disch := omega) only [up_o]
          exact a3 k h0 h1
        · by_cases hke2 : k < es.length
          · rw [List.getElem?_append_left hke2] at hke
            obtain ⟨z1, z2, z3⟩ := a4 k e hke
            refine ⟨?_, ?_, ?_⟩
            · simp (disch := omega) only [up_o, up_j]; exact z1
            · simp (disch := omega) only [up_o, up_j]; exact z2
            · simp (disch := omega) only [up_o, up_j]; exact z3
          · have hkl : k = es.length := by
              have := (List.getElem?_eq_some_iff.mp hke).1
              simp at this
              omega
            subst hkl
            rw [List.getElem?_append_right (Nat.le_refl _)] at hke
            simp only [Nat.sub_self, List.getElem?_cons_zero, Option.some.injEq] at hke
            subst hke
            refine ⟨?_, ?_, ?_⟩
            · simp (disch := omega) only [up_o, up_s]
            · simp (disch := omega) only [up_o, up_s]
            · simp (disch := omega) only [up_o, up_s]; exact hsd
        · have e1 : up (up (up (up u (f + 3) es.length (min2 (X i) (X j))) (f + 4) es.length (min2 (Y i) (Y j))) (f + 5) es.length sd) f 5 (es.length + 1) a k = up (up (up u (f + 3) es.length (min2 (X i) (X j))) (f + 4) es.length (min2 (Y i) (Y j))) (f + 5) es.length sd a k := if_neg h1
          rw [e1, up_o h4, up_o h3, up_o h2]
          exact a5 a k h1 h2 h3 h4
      by_cases hs : abs2 (Y i - Y j) = 0
      · rw [if_pos hs]
        exact fin 0 (if_pos hs).symm
      · rw [if_neg hs]
        exact fin 1 (if_neg hs).symm
    · rw [if_neg (by omega), if_neg fun q => hl q.2]
      exact ⟨u, rfl, a1, a2, a3, a4, a5⟩
  · rw [if_neg hadj, if_neg fun q => hadj q.1]
    exact ⟨u, rfl, a1, a2, a3, a4, a5⟩
theorem FE_row (hk : kFp g f) (hn : n ≤ 4) (hX : ∀ k : Int, 0 ≤ k → k < n → -8 ≤ X k ∧ X k ≤ 8 ∧ -8 ≤ Y k ∧ Y k ≤ 8) (hi : 0 ≤ i) (hi2 : i < n) : ∀ (d : Nat) (j : Int) (es : List (Int × Int × Int)) (u : PM), 0 ≤ j → j + d = n → FEI u0 u f X Y n es →
    ∃ u', run M_Fp_findEdges 19 [vA f, vI i, vI j, vN, vN] [] g u = run M_Fp_findEdges 7 [vA f, vI (i + 1), vN, vN, vN] [] g u' ∧ FEI u0 u' f X Y n (eRow X Y i d j es)
  | 0, j, es, u, hj, hd, hI => by
    refine ⟨u, ?_, hI⟩
    have := hI.1
    rw [R_Fp_findEdges_19, gd_O hk.1, if_neg (by omega), w_id (by omega) (by omega)]
  | d + 1, j, es, u, hj, hd, hI => by
    obtain ⟨u1, e1, h1⟩ := FE_step hk hI hn hX hi hi2 hj (by omega)
    obtain ⟨u2, e2, h2⟩ := FE_row hk hn hX hi hi2 d (j + 1) _ u1 (by omega) (by omega) h1
    exact ⟨u2, e1.trans e2, h2⟩
theorem FE_all (hk : kFp g f) (hn : n ≤ 4) (hX : ∀ k : Int, 0 ≤ k → k < n → -8 ≤ X k ∧ X k ≤ 8 ∧ -8 ≤ Y k ∧ Y k ≤ 8) : ∀ (d : Nat) (i : Int) (es : List (Int × Int × Int)) (u : PM), 0 ≤ i → i + d = n → FEI u0 u f X Y n es →
    ∃ u', run M_Fp_findEdges 7 [vA f, vI i, vN, vN, vN] [] g u = some (0, vN, g, u') ∧ FEI u0 u' f X Y n (eAll X Y n d i es)
  | 0, i, es, u, hi, hd, hI => by
    refine ⟨u, ?_, hI⟩
    have := hI.1
    rw [R_Fp_findEdges_7, gd_O hk.1, if_neg (by omega)]
  | d + 1, i, es, u, hi, hd, hI => by
    have h4 := hI.1
    obtain ⟨u1, e1, h1⟩ := FE_row hk hn hX hi (by omega) (n - (i + 1)).toNat (i + 1) es u (by omega) (by omega) hI
    obtain ⟨u2, e2, h2⟩ := FE_all hk hn hX d (i + 1) _ u1 (by omega) (by omega) h1
    refine ⟨u2, ?_, h2⟩
    rw [R_Fp_findEdges_7, gd_O hk.1, if_pos (by omega), w_id (by omega) (by omega)]
    exact e1.trans e2
theorem tR_bd (n : Nat) : 0 ≤ tR.getD n 0 ∧ tR.getD n 0 ≤ 2 := by
  by_cases h : n < 20
  · exact (by decide : ∀ n : Nat, n < 20 → 0 ≤ tR.getD n 0 ∧ tR.getD n 0 ≤ 2) n h
  · rw [List.getD_eq_getElem?_getD, List.getElem?_eq_none (by show 20 ≤ n; omega)]
    decide
theorem tD_bd (n : Nat) : 0 ≤ tD.getD n 0 ∧ tD.getD n 0 ≤ 2 := by
  by_cases h : n < 20
  · exact (by decide : ∀ n : Nat, n < 20 → 0 ≤ tD.getD n 0 ∧ tD.getD n 0 ≤ 2) n h
  · rw [List.getD_eq_getElem?_getD, List.getElem?_eq_none (by show 20 ≤ n; omega)]
    decide
theorem sz_bd {s : Int} (h0 : 0 ≤ s) (h1 : s < 5) : 2 ≤ sz s ∧ sz s ≤ 4 := by
  have := (by decide : ∀ n : Nat, n < 5 → 2 ≤ tZ.getD n 0 ∧ tZ.getD n 0 ≤ 4) s.toNat (by omega)
  exact this
theorem oRD_bd (s r i : Int) : (-2 ≤ oR s r i ∧ oR s r i ≤ 2) ∧ -2 ≤ oD s r i ∧ oD s r i ≤ 2 := by
  have a := tR_bd (4 * s + i).toNat
  have b := tD_bd (4 * s + i).toNat
  unfold oR oD rotR rotD bR bD
  constructor
  · repeat' split
    all_goals omega
  · repeat' split
    all_goals omega
/-- the footprint shows shape s, turned r times -/
def FpT (u : PM) (f : Nat) (s r : Int) : Prop := u f 0 = s ∧ u f 1 = r ∧ u f 4 = sz s ∧ u f 5 = (edg s r).length ∧ (∀ k : Int, 0 ≤ k → k < sz s → u (f + 1) k = oR s r k ∧ u (f + 2) k = oD s r k) ∧
  (∀ (k : Nat) (e : Int × Int × Int), (edg s r)[k]? = some e → u (f + 3) k = e.1 ∧ u (f + 4) k = e.2.1 ∧ u (f + 5) k = e.2.2)
theorem Fp_rot {s r c x y : Int} (hk : kFp g f) (hr : r = 0 ∨ r = 1 ∨ r = 2 ∨ r = 3) (hc : 0 ≤ c) (hc2 : c < 4) (hx : -2 ≤ x ∧ x ≤ 2) (hy : -2 ≤ y ∧ y ≤ 2) : run M_Fp_turn 67 [vA f, vI s, vI r, vI c, vI x, vI y, vI 0, vN] [] g u = run M_Fp_turn 34 [vA f, vI s, vI r, vI (c + 1), vN, vN, vN, vN] [] g (up (up u (f + 1) c (rotR r x y)) (f + 2) c (rotD r x y)) := by
  obtain ⟨k0, k1, k2, k3, k4, k5⟩ := hk
  have w1 : w (c + 1) = c + 1 := w_id (by omega) (by omega)
  have wx : w (-x) = -x := w_id (by omega) (by omega)
  have wy : w (-y) = -y := w_id (by omega) (by omega)
  have wxx : w (- -x) = x := by rw [w_id (by omega) (by omega)]; omega
  have e1 : w (0 + 1) = 1 := rfl
  have e2 : w (1 + 1) = 2 := rfl
  have e3 : w (2 + 1) = 3 := rfl
  have fin : ∀ (q x y : Int), q = r → run M_Fp_turn 67 [vA f, vI s, vI r, vI c, vI x, vI y, vI q, vN] [] g u = run M_Fp_turn 34 [vA f, vI s, vI r, vI (c + 1), vN, vN, vN, vN] [] g (up (up u (f + 1) c x) (f + 2) c y) := by
    intro q x y hq
    rw [R_Fp_turn_67, if_neg (by omega), gd_O k0, gd_W k1 hc (by omega), gd_O k0, gd_W k2 hc (by omega), w1]
  rcases hr with rfl | rfl | rfl | rfl
  · rw [fin 0 x y rfl]; rfl
  · rw [R_Fp_turn_67, if_pos (by decide), e1, wy, fin 1 _ _ rfl]; rfl
  · rw [R_Fp_turn_67, if_pos (by decide), e1, wy, R_Fp_turn_67, if_pos (by decide), e2, wx, fin 2 _ _ rfl]; rfl
  · rw [R_Fp_turn_67, if_pos (by decide), e1, wy, R_Fp_turn_67, if_pos (by decide), e2, wx, R_Fp_turn_67, if_pos (by decide), e3, show w (- -y) = y by rw [w_id (by omega) (by omega)]; omega, fin 3 _ _ rfl]; rfl
theorem Fp_turn {s r : Int} (hk : kFp g f) (hR : RO u) (h0 : 0 ≤ s) (h1 : s < 5) (h2 : 0 ≤ r) (h3 : r < 4) : ∃ u', call M_Fp_turn [vA f, vI s, vI r] g u = some (0, vN, g, u') ∧ FpT u' f s r ∧ u' f 2 = u f 2 ∧ u' f 3 = u f 3 ∧ ∀ (a : Nat) (k : Int), ¬ (f ≤ a ∧ a ≤ f + 5) → u' a k = u a k := by
  have hf : f < 100000 := pW_el hk.1.1
  have hf1 : f + 1 < 100000 := pW_el hk.2.1.1
  have hf2 : f + 2 < 100000 := pW_el hk.2.2.1.1
  have hz := sz_bd h0 h1
  obtain ⟨v0, v1, v2⟩ := hR
  have z0 : u 100000 s = sz s := by
    have := v0 s.toNat (by omega)
    rw [show ((s.toNat : Nat) : Int) = s by omega] at this
    exact this
  have hr : r = 0 ∨ r = 1 ∨ r = 2 ∨ r = 3 := by omega
  obtain ⟨u1, hu1⟩ : ∃ q, q = up (up (up u f 0 s) f 1 r) f 4 (sz s) := ⟨_, rfl⟩
  have hu1a : ∀ a k, a ≠ f → u1 a k = u a k := fun a k h => by rw [hu1]; simp (disch := omega) only [up_o]
  have hcall : call M_Fp_turn [vA f, vI s, vI r] g u = run M_Fp_turn 34 [vA f, vI s, vI r, vI 0, vN, vN, vN, vN] [] g u1 := by
    rw [C_Fp_turn]
    simp only [gd_O hk.1]
    rw [if_neg (by omega), if_pos h1, pK_st.1, pR_eq h0 (by omega), cond_true, R_Fp_turn_29, gd_O hk.1, hu1]
    simp (disch := omega) only [up_o]
    rw [z0]
  have step : ∀ (v : PM) (i : Int), 0 ≤ i → i < sz s → (v f 4 = sz s ∧ (∀ a k, a ≠ f + 1 → a ≠ f + 2 → v a k = u1 a k) ∧ ∀ k : Int, 0 ≤ k → k < i → v (f + 1) k = oR s r k ∧ v (f + 2) k = oD s r k) →
      run M_Fp_turn 34 [vA f, vI s, vI r, vI i, vN, vN, vN, vN] [] g v = run M_Fp_turn 34 [vA f, vI s, vI r, vI (i + 1), vN, vN, vN, vN] [] g (up (up v (f + 1) i (oR s r i)) (f + 2) i (oD s r i)) ∧
      (up (up v (f + 1) i (oR s r i)) (f + 2) i (oD s r i) f 4 = sz s ∧ (∀ a k, a ≠ f + 1 → a ≠ f + 2 → up (up v (f + 1) i (oR s r i)) (f + 2) i (oD s r i) a k = u1 a k) ∧ ∀ k : Int, 0 ≤ k → k < i + 1 → up (up v (f + 1) i (oR s r i)) (f + 2) i (oD s r i) (f + 1) k = oR s r k ∧ up (up v (f + 1) i (oR s r i)) (f + 2) i (oD s r i) (f + 2) k = oD s r k) := by
    intro v i hi0 hi1 hI
    obtain ⟨j1, j2, j3⟩ := hI
    have eR : v 100001 (4 * s + i) = bR s i := by
      rw [j2 _ _ (by omega) (by omega), hu1a _ _ (by omega)]
      have := v1 (4 * s + i).toNat (by omega)
      rw [show (((4 * s + i).toNat : Nat) : Int) = 4 * s + i by omega] at this
      exact this
    have eD : v 100002 (4 * s + i) = bD s i := by
      rw [j2 _ _ (by omega) (by omega), hu1a _ _ (by omega)]
      have := v2 (4 * s + i).toNat (by omega)
      rw [show (((4 * s + i).toNat : Nat) : Int) = 4 * s + i by omega] at this
      exact this
    have wi : w (w (s * 4) + i) = 4 * s + i := by
      rw [w_id (x := s * 4) (by omega) (by omega), w_id (by omega) (by omega)]
      omega
    have bx := tR_bd (4 * s + i).toNat
    have by' := tD_bd (4 * s + i).toNat
    refine ⟨?_, ?_, fun a k ha hb => ?_, fun k hk0 hk1 => ?_⟩
    · rw [R_Fp_turn_34, gd_O hk.1, if_pos (by omega), wi, pK_st.2.1, pK_st.2.2, pR_eq (by omega) (by omega), cond_true, cond_true, eR, eD]
      exact Fp_rot hk hr hi0 (by omega) ⟨by unfold bR; omega, by unfold bR; omega⟩ ⟨by unfold bD; omega, by unfold bD; omega⟩
    · simp (disch := omega) only [up_o]
      exact j1
    · simp (disch := omega) only [up_o]
      exact j2 a k ha hb
    · by_cases e : k = i
      · subst e
        constructor
        · simp (disch := omega) only [up_o, up_s]
        · simp (disch := omega) only [up_s]
      · obtain ⟨p1, p2⟩ := j3 k hk0 (by omega)
        constructor
        · simp (disch := omega) only [up_o, up_j]; exact p1
        · simp (disch := omega) only [up_j, up_o]; exact p2
  obtain ⟨l1, l2⟩ := loop_up (F := fun (v : PM) (i : Int) => run M_Fp_turn 34 [vA f, vI s, vI r, vI i, vN, vN, vN, vN] [] g v) (fun v i => v f 4 = sz s ∧ (∀ a k, a ≠ f + 1 → a ≠ f + 2 → v a k = u1 a k) ∧ ∀ k : Int, 0 ≤ k → k < i → v (f + 1) k = oR s r k ∧ v (f + 2) k = oD s r k) (fun v i => up (up v (f + 1) i (oR s r i)) (f + 2) i (oD s r i)) (n := sz s) (by omega) u1 ⟨by rw [hu1, up_s], fun _ _ _ _ => rfl, fun k a b => absurd a (by omega)⟩ step
  generalize itr (fun v i => up (up v (f + 1) i (oR s r i)) (f + 2) i (oD s r i)) (sz s).toNat u1 = u2 at l1 l2
  obtain ⟨m1, m2, m3⟩ := l2
  have hB : ∀ k : Int, 0 ≤ k → k < sz s → -8 ≤ oR s r k ∧ oR s r k ≤ 8 ∧ -8 ≤ oD s r k ∧ oD s r k ≤ 8 := fun k _ _ => by
    have := oRD_bd s r k
    omega
  have hE0 : FEI (up u2 f 5 0) (up u2 f 5 0) f (oR s r) (oD s r) (sz s) [] := by
    refine ⟨?_, ?_, fun k a b => ?_, fun k e h => by simp at h, fun _ _ _ _ _ _ => rfl⟩
    · rw [up_j (by omega)]; exact m1
    · rw [up_s]; rfl
    · simp (disch := omega) only [up_o]; exact m3 k a b
  obtain ⟨u3, e3, f1, f2, f3, f4, f5⟩ := FE_all (g := g) hk (by omega) hB (sz s).toNat 0 [] (up u2 f 5 0) (by omega) (by omega) hE0
  have base : ∀ a k, a ≠ f + 1 → a ≠ f + 2 → a ≠ f + 3 → a ≠ f + 4 → a ≠ f + 5 → ¬ (a = f ∧ k = 5) → u3 a k = u1 a k := fun a k h1 h2 h3 h4 h5 h6 => by
    rw [f5 a k h6 h3 h4 h5]
    have e : up u2 f 5 0 a k = u2 a k := if_neg h6
    rw [e]
    exact m2 a k h1 h2
  refine ⟨u3, ?_, ⟨?_, ?_, f1, f2, f3, f4⟩, ?_, ?_, fun a k ha => ?_⟩
  · rw [hcall]
    refine l1.trans ?_
    show run M_Fp_turn 34 [vA f, vI s, vI r, vI (sz s), vN, vN, vN, vN] [] g u2 = _
    rw [R_Fp_turn_34, gd_O hk.1, if_neg (by omega), gd_O hk.1, C_Fp_findEdges, gd_O hk.1, e3, cV_some]
  · rw [base f 0 (by omega) (by omega) (by omega) (by omega) (by omega) (by omega), hu1]
    simp (disch := omega) only [up_j, up_s]
  · rw [base f 1 (by omega) (by omega) (by omega) (by omega) (by omega) (by omega), hu1]
    simp (disch := omega) only [up_j, up_s]
  · rw [base f 2 (by omega) (by omega) (by omega) (by omega) (by omega) (by omega), hu1]
    simp (disch := omega) only [up_j]
  · rw [base f 3 (by omega) (by omega) (by omega) (by omega) (by omega) (by omega), hu1]
    simp (disch := omega) only [up_j]
  · rw [base a k (by omega) (by omega) (by omega) (by omega) (by omega) (by omega), hu1a a k (by omega)]
end
