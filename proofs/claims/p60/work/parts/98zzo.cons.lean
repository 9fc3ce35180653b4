/-! ===== inconsistencies, both sides ===== -/
theorem w_spec (z : Int) : ∃ q : Int, w z = z + 4294967296 * q ∧ -2147483648 ≤ w z ∧ w z < 2147483648 := by
  unfold w Int.bmod
  simp only
  split
  · exact ⟨-(z / 4294967296), by omega, by omega, by omega⟩
  · exact ⟨-(z / 4294967296) - 1, by omega, by omega, by omega⟩
theorem w_sub2 (a b c : Int) : w (w (a - b) - c) = w (a - w (b + c)) := by
  obtain ⟨q1, e1, l1, u1⟩ := w_spec (a - b)
  obtain ⟨q2, e2, l2, u2⟩ := w_spec (b + c)
  obtain ⟨q3, e3, l3, u3⟩ := w_spec (w (a - b) - c)
  obtain ⟨q4, e4, l4, u4⟩ := w_spec (a - w (b + c))
  omega
def wsum (f : Int → Int) : Nat → Int
  | 0 => 0
  | n + 1 => w (wsum f n + f n)
theorem wsum_congr {f f' : Int → Int} : ∀ {n : Nat}, (∀ i : Int, 0 ≤ i → i < n → f i = f' i) → wsum f n = wsum f' n
  | 0, _ => rfl
  | n + 1, h => by
    simp only [wsum]
    rw [wsum_congr (n := n) fun i h0 h1 => h i h0 (by omega), h n (by omega) (by omega)]
theorem crs_false {B : Bd} {s r x y : Int} (h : ∀ e ∈ edg s r, bStrap B (x + e.1) (y + e.2.1) e.2.2 = 0) : bCrs B s r x y = false := by
  cases q : bCrs B s r x y
  · rfl
  · exfalso
    unfold bCrs at q
    rw [anyF_iff] at q
    obtain ⟨j, ⟨j0, j1⟩, q⟩ := q
    exact of_decide_eq_true q (h _ (getD_mem (by omega)))
/-- a piece is not crossed; it lies near the board -/
theorem piece_ok {B : Bd} {n : Int} {pc : Nat → Int → Int} (hB : bOk B) (h : wfB B n pc) {k : Int} (k0 : 0 ≤ k) (k1 : k < n) : bCrs B (pc 0 k) (pc 1 k) (pc 2 k) (pc 3 k) = false ∧ (-100 ≤ pc 2 k ∧ pc 2 k ≤ 100) ∧ -100 ≤ pc 3 k ∧ pc 3 k ≤ 100 := by
  obtain ⟨h1, h2, h3⟩ := h
  obtain ⟨z1, z2, z3⟩ := h2 k k0 k1
  have c1 := hB.1.2
  have c2 := hB.2.1.2
  have hz := sz_bd z1.1 z1.2
  have inn : ∀ X Y, bCell B X Y = k → bIn B X Y := fun X Y e => by
    by_cases w : bIn B X Y
    · exact w
    · unfold bCell at e
      rw [if_neg w] at e
      omega
  refine ⟨crs_false fun e he => ?_, ?_⟩
  · obtain ⟨i, j, ⟨i0, i1⟩, ⟨j0, j1⟩, e1, e2, e3⟩ := edg_cell z1 z2 he
    have ci := z3 i i0 i1
    have cj := z3 j j0 j1
    unfold pX pY at ci cj
    rw [← e1, ← e2] at ci
    have hi := inn _ _ ci
    have hj := inn _ _ cj
    rcases e3 with ⟨y1, y2, y3⟩ | ⟨y1, y2, y3⟩
    · rw [y2, y3] at cj hj
      rw [y1]
      refine h3 _ _ 0 (Or.inl rfl) ⟨hi, Or.inl ⟨rfl, by have := hj.1.2; omega⟩⟩ (by omega) ?_
      rw [ci]
      show k = bCell B (pc 2 k + e.1 + 1) (pc 3 k + e.2.1)
      rw [Int.add_assoc, cj]
    · rw [y2, y3] at cj hj
      rw [y1]
      refine h3 _ _ 1 (Or.inr rfl) ⟨hi, Or.inr ⟨by decide, by have := hj.2.2; omega⟩⟩ (by omega) ?_
      rw [ci]
      show k = bCell B (pc 2 k + e.1) (pc 3 k + e.2.1 + 1)
      rw [Int.add_assoc, cj]
  · have c0 := inn _ _ (z3 0 (by decide) (by omega))
    have b := oRD_bd (pc 0 k) (pc 1 k) 0
    unfold pX pY at c0
    have a1 := c0.1
    have a2 := c0.2
    omega
/-- covered cells, counted -/
theorem bCov_sum {B : Bd} (hB : bOk B) (hc : cOk B) : bCov B = sumI (fun y => sumI (fun x => bI (0 ≤ bCell B x y)) B.1.toNat) B.2.1.toNat ∧ 0 ≤ bCov B ∧ bCov B ≤ 64 := by
  obtain ⟨⟨c0, c1⟩, ⟨r0, r1⟩, -⟩ := hB
  have cell : ∀ x y : Int, 0 ≤ x → x < B.1.toNat → 0 ≤ y → y < B.2.1.toNat → bI (0 ≤ bCell B x y) + (bI (bCell B x y = -1) + bI (bCell B x y = -2)) = 1 := fun x y x0 x1 y0 y1 => by
    have hin : bIn B x y := ⟨⟨x0, by omega⟩, y0, by omega⟩
    have hb := bCell_bd hc c1 r1 x y
    have h3 : bCell B x y ≠ -3 := by
      unfold bCell
      rw [if_pos hin]
      have := hc (8 * y + x) (by omega) (by omega)
      omega
    by_cases q1 : 0 ≤ bCell B x y
    · rw [bI_t q1, bI_f (by omega), bI_f (by omega)]; rfl
    · rw [bI_f q1]
      by_cases q2 : bCell B x y = -1
      · rw [bI_t q2, bI_f (by omega)]; rfl
      · rw [bI_f q2, bI_t (by omega)]; rfl
  have row : ∀ y : Int, 0 ≤ y → y < B.2.1.toNat → sumI (fun x => bI (0 ≤ bCell B x y)) B.1.toNat + (sumI (fun x => bI (bCell B x y = -1)) B.1.toNat + sumI (fun x => bI (bCell B x y = -2)) B.1.toNat) = B.1 := fun y y0 y1 => by
    rw [← sumI_add, ← sumI_add, sumI_congr (fun x x0 x1 => cell x y x0 x1 y0 y1), sumI_one]
    omega
  have all : sumI (fun y => sumI (fun x => bI (0 ≤ bCell B x y)) B.1.toNat) B.2.1.toNat + (bCnt B (-1) + bCnt B (-2)) = B.1 * B.2.1 := by
    unfold bCnt
    rw [← sumI_add, ← sumI_add, sumI_congr (fun y y0 y1 => row y y0 y1)]
    have : ∀ n : Nat, sumI (fun _ => B.1) n = B.1 * n := by
      intro n
      induction n with
      | zero => simp [sumI]
      | succ n ih =>
        simp only [sumI]
        rw [ih, Int.natCast_succ, Int.mul_add, Int.mul_one]
    rw [this, show ((B.2.1.toNat : Nat) : Int) = B.2.1 by omega]
  have e : bCov B = sumI (fun y => sumI (fun x => bI (0 ≤ bCell B x y)) B.1.toNat) B.2.1.toNat := by
    unfold bCov
    omega
  have bd := sumI_bd (f := fun y => sumI (fun x => bI (0 ≤ bCell B x y)) B.1.toNat) (n := B.2.1.toNat) (b := 8) fun y _ _ => by
    have := sumI_bd (f := fun x => bI (0 ≤ bCell B x y)) (n := B.1.toNat) (b := 1) fun i _ _ => bI_bd _
    omega
  rw [← e] at bd
  exact ⟨e, by omega, by omega⟩
theorem abs2_sub {a b : Int} (h : -1000 ≤ a - b) (h' : a - b ≤ 1000) : abs2 (w (a - b)) = abs2 (w (b - a)) := by
  rw [w_id (x := a - b) (by omega) (by omega), w_id (x := b - a) (by omega) (by omega)]
  unfold abs2
  by_cases q : 0 ≤ a - b
  · rw [if_pos q]
    by_cases q2 : 0 ≤ b - a
    · rw [if_pos q2]; omega
    · rw [if_neg q2, w_id (by omega) (by omega)]; omega
  · rw [if_neg q, if_pos (by omega), w_id (by omega) (by omega)]; omega
/-- the answer -/
def aInc (A : AS) : Int := w (w (abs2 (w (wsum (A.pc 5) A.n.toNat - w (A.p0.1 + A.p1.1))) + 0) + abs2 (w (bCov A.bd - wsum (fun k => sz (A.pc 0 k)) A.n.toNat)))
section
variable {g : PG} {u : PM} {t : Nat} {k : Int}
theorem Pi_of (hk : kPi g t) (h32 : u t 0 ≤ 32) (k0 : 0 ≤ k) (k1 : k < u t 0) : call M_Pi_shapeOf [vA t, vI k] g u = some (0, vI (u (t + 1) k), g, u) ∧ call M_Pi_rotationOf [vA t, vI k] g u = some (0, vI (u (t + 2) k), g, u) ∧ call M_Pi_anchorColumnOf [vA t, vI k] g u = some (0, vI (u (t + 3) k), g, u) ∧ call M_Pi_anchorRowOf [vA t, vI k] g u = some (0, vI (u (t + 4) k), g, u) ∧ call M_Pi_pointsOf [vA t, vI k] g u = some (0, vI (u (t + 6) k), g, u) := by
  have hb : (0 ≤ k ∧ k < u t 0) := ⟨k0, k1⟩
  refine ⟨?_, ?_, ?_, ?_, ?_⟩
  · rw [C_Pi_shapeOf]
    simp only [gd_O hk.1, Pi_has hk, cI_some]
    rw [bI_t hb, if_neg (by decide), gd_R hk.2.1 k0 (by omega)]
  · rw [C_Pi_rotationOf]
    simp only [gd_O hk.1, Pi_has hk, cI_some]
    rw [bI_t hb, if_neg (by decide), gd_R hk.2.2.1 k0 (by omega)]
  · rw [C_Pi_anchorColumnOf]
    simp only [gd_O hk.1, Pi_has hk, cI_some]
    rw [bI_t hb, if_neg (by decide), gd_R hk.2.2.2.1 k0 (by omega)]
  · rw [C_Pi_anchorRowOf]
    simp only [gd_O hk.1, Pi_has hk, cI_some]
    rw [bI_t hb, if_neg (by decide), gd_R hk.2.2.2.2.1 k0 (by omega)]
  · rw [C_Pi_pointsOf]
    simp only [gd_O hk.1, Pi_has hk, cI_some]
    rw [bI_t hb, if_neg (by decide), gd_R hk.2.2.2.2.2.2 k0 (by omega)]
theorem TD_inconsistencies (h : pOk2 g u t) (hw : wf (absT u (t + 26))) : AqT g u t (call M_TD_inconsistencies [vA t] g u) 0 (aInc (absT u (t + 26))) := by
  obtain ⟨A, hA⟩ : ∃ A, A = absT u (t + 26) := ⟨_, rfl⟩
  rw [← hA] at hw ⊢
  have hlt := h.1.2.2.2
  have hn := hw.1.2.2
  have fr : ∀ v : PM, Fr (t + 234) u v → absT v (t + 26) = A ∧ RO v ∧ u (t + 26 + 4) 0 = A.n ∧ v (t + 26 + 4) 0 = A.n ∧ (∀ i : Nat, i < 6 → ∀ k : Int, 0 ≤ k → k < A.n → v (t + 26 + 4 + 1 + i) k = A.pc i k) := fun v hv => by
    obtain ⟨q1, q2⟩ := h.sq.fr hv
    refine ⟨q2.trans hA.symm, q1.2.2.2.2.2, by rw [hA]; rfl, by rw [hA, ← q2]; rfl, fun i hi k k0 k1 => ?_⟩
    rw [hA, ← q2] at k1 ⊢
    show v (t + 26 + 4 + 1 + i) k = pcT v (t + 26) i k
    unfold pcT
    rw [if_pos hi, cl_in k0 (show k < v (t + 26 + 4) 0 from k1), show t + 26 + 5 + i = t + 26 + 4 + 1 + i by omega]
  have key : ∀ d : Nat, (d : Int) ≤ A.n → ∃ v, run M_TD_inconsistencies 9 [vA t, vI 0, vI 0, vI 0, vI 0, vN] [] g u = run M_TD_inconsistencies 9 [vA t, vI (wsum (A.pc 5) d), vI (wsum (fun k => sz (A.pc 0 k)) d), vI 0, vI d, vN] [] g v ∧ Fr (t + 234) u v := by
    intro d
    induction d with
    | zero => intro _; exact ⟨u, rfl, Fr.rfl'⟩
    | succ d ih =>
      intro hd
      obtain ⟨v, e1, f1⟩ := ih (by omega)
      obtain ⟨a1, a2, -, a3, a4⟩ := fr v f1
      have d0 : (0 : Int) ≤ d := by omega
      have d1 : (d : Int) < A.n := by omega
      have hpk := h.1.2.1.2.2.1
      obtain ⟨o1, o2, -, -, -⟩ := Pi_of (g := g) (u := v) (k := d) hpk (by omega) d0 (by omega)
      have s0 := a4 0 (by decide) d d0 d1
      have s1 := a4 1 (by decide) d d0 d1
      obtain ⟨z1, z2, z3⟩ := hw.2.2.2.2.1 d d0 d1
      obtain ⟨y1, y2, y3⟩ := piece_ok hw.1.1 hw.2.2.2 d0 d1
      obtain ⟨v2, e2, t2, x2, y2', f2⟩ := Fp_turn (g := g) (u := v) (r := A.pc 1 d) h.1.2.2.1 a2 z1.1 z1.2 z2.1 z2.2
      have f12 : Fr (t + 234) u v2 := f1.tr f2
      obtain ⟨b1, b2, -, b3, b4⟩ := fr v2 f12
      obtain ⟨-, -, o3, o4, -⟩ := Pi_of (g := g) (u := v2) (k := d) hpk (by omega) d0 (by omega)
      obtain ⟨v3, e3, t3, f3⟩ := Fp_move (g := g) h.1.2.2.1 t2 (A.pc 2 d) (A.pc 3 d)
      have f13 : Fr (t + 234) u v3 := f12.tr f3
      obtain ⟨c1, c2, -, c3, c4⟩ := fr v3 f13
      obtain ⟨-, -, -, -, o5⟩ := Pi_of (g := g) (u := v3) (k := d) hpk (by omega) d0 (by omega)
      have s2 := b4 2 (by decide) d d0 d1
      have s3 := b4 3 (by decide) d d0 d1
      have s5 := c4 5 (by decide) d d0 d1
      have hq : QOk g v3 (t + 26 + 1) (t + 234) (A.pc 0 d) (A.pc 1 d) (A.pc 2 d) (A.pc 3 d) := ⟨h.1.2.1.2.1, tOk_of (by
        have : bdT v3 (t + 26 + 1) = A.bd := congrArg AS.bd c1
        rw [this]; exact hw.1.1), h.1.2.2.1, t3, z1, z2, y2, y3⟩
      have hcr := Tk_isCrossedBy hq
      have eb : bdT v3 (t + 26 + 1) = A.bd := congrArg AS.bd c1
      rw [eb, y1, bI_f (by decide)] at hcr
      have s4 : v3 (t + 234) 4 = sz (A.pc 0 d) := t3.1.2.2.1
      refine ⟨v3, ?_, f13⟩
      rw [e1, R_TD_inconsistencies_9]
      simp only [gd_O h.1.1, gd_O h.1.2.1.1, gd_O h.1.2.1.2.2.1.1, gd_O h.1.2.1.2.1.1]
      rw [if_pos (by omega), o1, cI_some, s0, o2, cI_some, s1, gd_O h.1.2.2.1.1, e2, cV_some, o3, cI_some, o4, cI_some, gd_O h.1.2.2.1.1, s2, s3, e3, cV_some, o5, cI_some, gd_O h.1.2.2.1.1, hcr, cI_some, if_pos rfl, s5, s4, w_id (x := (d : Int) + 1) (by omega) (by omega)]
      simp only [gd_O h.1.1, gd_O h.1.2.1.1, gd_O h.1.2.1.2.2.1.1, gd_O h.1.2.1.2.1.1, gd_O h.1.2.2.1.1]
      rfl
  obtain ⟨v, e1, f1⟩ := key A.n.toNat (by omega)
  obtain ⟨a1, a2, -, a3, a4⟩ := fr v f1
  refine ⟨v, f1.qT, ?_⟩
  have eb : bdT v (t + 26 + 1) = A.bd := congrArg AS.bd a1
  have p0 : v (t + 26 + 11) 0 = A.p0.1 := congrArg (fun A => (AS.p0 A).1) a1
  have p1 : v (t + 26 + 14) 0 = A.p1.1 := congrArg (fun A => (AS.p1 A).1) a1
  rw [C_TD_inconsistencies, e1, R_TD_inconsistencies_9]
  simp only [gd_O h.1.1, gd_O h.1.2.1.1, gd_O h.1.2.1.2.2.1.1, gd_O h.1.2.1.2.1.1, gd_O h.1.2.1.2.2.2.1.1, gd_O h.1.2.1.2.2.2.2.1]
  rw [if_neg (by omega), Tk_countCovered h.1.2.1.2.1 (tOk_of (by rw [eb]; exact hw.1.1)), cI_some, eb, p0, p1]
  rfl
end
