/-! ===== the output, on both sides ===== -/
def sgn (v : Int) : Int := if v = -1 then 46 else if v = -2 then 35 else if v < 26 then 97 + v else 39 + v
def rowO (B : Bd) (y : Int) : Nat → Int → List Int
  | 0, _ => []
  | d + 1, x => sgn (bCell B x y) :: rowO B y d (x + 1)
def outO (B : Bd) : Nat → Int → List Int
  | 0, _ => []
  | d + 1, y => ((if 0 < y then [10] else []) ++ rowO B y B.1.toNat 0) ++ outO B d (y + 1)
def lsO (u : PM) (a : Nat) (n : Int) : List Int := (List.range n.toNat).map fun i : Nat => u a i
def oT (u : PM) (t : Nat) : List Int := lsO u (t + 247) (u t 11)
def oM (u : PM) (t : Nat) : List Int := lsO u (t + 8) (u t 14)
def oGet (l : List Int) (i : Int) : Int := if 0 ≤ i then l.getD i.toNat (-1) else -1
theorem lsO_len (u : PM) (a : Nat) (n : Int) : (lsO u a n).length = n.toNat := by
  unfold lsO
  rw [List.length_map, List.length_range]
theorem lsO_snoc {u u' : PM} {a a' : Nat} {n v : Int} (h0 : 0 ≤ n) (h : ∀ k : Int, 0 ≤ k → k < n → u' a' k = u a k) (hv : u' a' n = v) : lsO u' a' (n + 1) = lsO u a n ++ [v] := by
  unfold lsO
  rw [show (n + 1).toNat = n.toNat + 1 by omega, List.range_succ, List.map_append, List.map_cons, List.map_nil, show ((n.toNat : Nat) : Int) = n by omega, hv]
  exact congrArg (· ++ [v]) (List.map_congr_left fun i hi => h i (by omega) (by have := List.mem_range.mp hi; omega))
theorem lsO_get {u : PM} {a : Nat} {n i : Int} : oGet (lsO u a n) i = if 0 ≤ i ∧ i < n then u a i else -1 := by
  unfold oGet
  by_cases h : 0 ≤ i
  · rw [if_pos h, List.getD_eq_getElem?_getD]
    by_cases h2 : i < n
    · rw [if_pos ⟨h, h2⟩]
      unfold lsO
      rw [List.getElem?_map, List.getElem?_range (by omega)]
      show u a ((i.toNat : Nat) : Int) = u a i
      rw [show ((i.toNat : Nat) : Int) = i by omega]
    · rw [if_neg fun q => h2 q.2, List.getElem?_eq_none (by rw [lsO_len]; omega)]
      rfl
  · rw [if_neg h, if_neg fun q => h q.1]
theorem rowO_len (B : Bd) (y : Int) : ∀ (d : Nat) (x : Int), (rowO B y d x).length = d
  | 0, _ => rfl
  | d + 1, x => congrArg (· + 1) (rowO_len B y d (x + 1))
theorem outO_len (B : Bd) : ∀ (d : Nat) (y : Int), 0 ≤ y → (outO B d y).length + (if y = 0 ∧ 0 < d then 1 else 0) = d * B.1.toNat + d
  | 0, y, _ => by simp [outO]
  | d + 1, y, hy => by
    have ih := outO_len B d (y + 1) (by omega)
    rw [if_neg (by omega)] at ih
    unfold outO
    rw [List.length_append, List.length_append, rowO_len, Nat.succ_mul]
    by_cases h : 0 < y
    · rw [if_pos h, if_neg (by omega)]
      simp only [List.length_cons, List.length_nil]
      omega
    · rw [if_neg h, if_pos (by omega)]
      simp only [List.length_nil]
      omega
def aOut (B : Bd) : List Int := outO B B.2.1.toNat 0
theorem aOut_len {B : Bd} (h : B.1 ≤ 8) (h' : B.2.1 ≤ 8) : (aOut B).length ≤ 71 := by
  have e := outO_len B B.2.1.toNat 0 (by decide)
  have m : B.2.1.toNat * B.1.toNat ≤ 8 * 8 := Nat.mul_le_mul (by omega) (by omega)
  unfold aOut
  by_cases q : 0 < B.2.1.toNat
  · rw [if_pos ⟨rfl, q⟩] at e
    omega
  · have : B.2.1.toNat = 0 := by omega
    rw [this] at e ⊢
    simp [outO]
def FoT (t : Nat) (u u' : PM) : Prop := ∀ (a : Nat) (k : Int), ¬ (a = t ∧ k = 11) → a ≠ t + 247 → u' a k = u a k
def FoM (t : Nat) (u u' : PM) : Prop := ∀ (a : Nat) (k : Int), ¬ (a = t ∧ (k = 7 ∨ k = 14)) → a ≠ t + 8 → u' a k = u a k
theorem bCell_bd {B : Bd} (hc : cOk B) (h1 : B.1 ≤ 8) (h2 : B.2.1 ≤ 8) (x y : Int) : -3 ≤ bCell B x y ∧ bCell B x y ≤ 98 := by
  unfold bCell
  by_cases h : bIn B x y
  · rw [if_pos h]
    obtain ⟨⟨a1, a2⟩, a3, a4⟩ := h
    have := hc (8 * y + x) (by omega) (by omega)
    omega
  · rw [if_neg h]
    omega
section
variable {g : PG} {u : PM} {t : Nat}
theorem TD_writeByte (hk : kTD g t) (ho : KA g (t + 247) (2, 0, 71)) (h0 : 0 ≤ u t 11) (h1 : u t 11 < 71) (v : Int) : ∃ u', call M_TD_writeByte [vA t, vI v] g u = some (0, vN, g, u') ∧ oT u' t = oT u t ++ [v] ∧ u' t 11 = u t 11 + 1 ∧ FoT t u u' := by
  refine ⟨up (up u (t + 247) (u t 11) v) t 11 (u t 11 + 1), ?_, ?_, up_s .., fun a k n1 n2 => by rw [up_n n1, up_o n2]⟩
  · rw [C_TD_writeByte]
    simp only [gd_O hk.1]
    rw [if_pos h1, gd_W ho h0 h1, up_o (by omega), w_id (by omega) (by omega)]
  · unfold oT
    rw [up_s]
    exact lsO_snoc h0 (fun k k0 k1 => by rw [up_o (by omega), up_j (by omega)]) (by rw [up_o (by omega), up_s])
theorem TD_signOf {v : Int} (h0 : -2 ≤ v) (h1 : v ≤ 98) : call M_TD_signOf [vI v] g u = some (0, vI (sgn v), g, u) := by
  rw [C_TD_signOf]
  unfold sgn
  by_cases e1 : v = -1
  · rw [if_pos e1, if_pos e1]
  · rw [if_neg e1, if_neg e1]
    by_cases e2 : v = -2
    · rw [if_pos e2, if_pos e2]
    · rw [if_neg e2, if_neg e2]
      by_cases e3 : v < 26
      · rw [if_pos e3, if_pos e3, w_id (by omega) (by omega)]
      · rw [if_neg e3, if_neg e3, w_id (x := 65 + v) (by omega) (by omega), w_id (by omega) (by omega), show 65 + v - 26 = 39 + v by omega]
theorem FoT.b {u' : PM} (h : FoT t u u') : absT u' (t + 26) = absT u (t + 26) := absT_eq fun a k h1 h2 => h a k (by omega) (by omega)
theorem TD_wr33 (h : pOk2 g u t) (hc : cOk (absT u (t + 26)).bd) (ho : KA g (t + 247) (2, 0, 71)) {y : Int} (hy : 0 ≤ y ∧ y < (absT u (t + 26)).bd.2.1) : ∀ (d : Nat) (x : Int) (v : PM), FoT t u v → 0 ≤ v t 11 → v t 11 + d ≤ 71 → 0 ≤ x → x + d = (absT u (t + 26)).bd.1 →
    ∃ u', run M_TD_writeTrunk 33 [vA t, vI y, vI x] [] g v = run M_TD_writeTrunk 7 [vA t, vI (y + 1), vN] [] g u' ∧ oT u' t = oT v t ++ rowO (absT u (t + 26)).bd y d x ∧ u' t 11 = v t 11 + d ∧ FoT t u u' := by
  have hb1 : (absT u (t + 26)).bd.1 ≤ 8 := h.2.1.1.2
  have hb2 : (absT u (t + 26)).bd.2.1 ≤ 8 := h.2.1.2.1.2
  intro d
  induction d with
  | zero =>
    intro x v hF h0 h1 hx hd
    have e0 : v (t + 26 + 1) 0 = (absT u (t + 26)).bd.1 := congrArg (fun A => (AS.bd A).1) hF.b
    refine ⟨v, ?_, by simp [rowO], by omega, hF⟩
    rw [R_TD_writeTrunk_33]
    simp only [gd_O h.1.1, gd_O h.1.2.1.1, gd_O h.1.2.1.2.1.1]
    rw [if_neg (by omega), w_id (x := y + 1) (by omega) (by omega)]
  | succ d ih =>
    intro x v hF h0 h1 hx hd
    have e0 : v (t + 26 + 1) 0 = (absT u (t + 26)).bd.1 := congrArg (fun A => (AS.bd A).1) hF.b
    have eb : bdT v (t + 26 + 1) = (absT u (t + 26)).bd := congrArg AS.bd hF.b
    have hin : bIn (absT u (t + 26)).bd x y := ⟨⟨hx, by omega⟩, hy⟩
    have hcb := bCell_bd hc hb1 hb2 x y
    have hc3 : bCell (absT u (t + 26)).bd x y ≠ -3 := by
      unfold bCell
      rw [if_pos hin]
      obtain ⟨⟨a1, a2⟩, a3, a4⟩ := hin
      have := hc (8 * y + x) (by omega) (by omega)
      omega
    obtain ⟨v1, e1, o1, l1, f1⟩ := TD_writeByte (g := g) (u := v) h.1 ho h0 (by omega) (sgn (bCell (absT u (t + 26)).bd x y))
    obtain ⟨u', e2, o2, l2, f2⟩ := ih (x + 1) v1 (fun a k n1 n2 => (f1 a k n1 n2).trans (hF a k n1 n2)) (by omega) (by omega) (by omega) (by omega)
    refine ⟨u', ?_, ?_, by omega, f2⟩
    · rw [R_TD_writeTrunk_33]
      simp only [gd_O h.1.1, gd_O h.1.2.1.1, gd_O h.1.2.1.2.1.1]
      rw [if_pos (by omega), Tk_cellAt2 h.1.2.1.2.1 (tOk_of (by rw [eb]; exact h.2.1)), cI_some, eb, TD_signOf (by omega) (by omega), cI_some, gd_O h.1.1, e1, cV_some, w_id (x := x + 1) (by omega) (by omega), e2]
    · rw [o2, o1]
      simp [rowO]
theorem TD_writeTrunk (h : pOk2 g u t) (hc : cOk (absT u (t + 26)).bd) (ho : KA g (t + 247) (2, 0, 71)) : ∃ u', call M_TD_writeTrunk [vA t] g u = some (0, vI (aOut (absT u (t + 26)).bd).length, g, u') ∧ oT u' t = aOut (absT u (t + 26)).bd ∧ (0 ≤ u' t 11 ∧ u' t 11 ≤ 71) ∧ FoT t u u' := by
  have hb1 : (absT u (t + 26)).bd.1 ≤ 8 := h.2.1.1.2
  have hb2 : (absT u (t + 26)).bd.2.1 ≤ 8 := h.2.1.2.1.2
  have hb0 : 0 ≤ (absT u (t + 26)).bd.1 := h.2.1.1.1
  have hb3 : 0 ≤ (absT u (t + 26)).bd.2.1 := h.2.1.2.1.1
  have key : ∀ (d : Nat) (y : Int) (v : PM), FoT t u v → 0 ≤ v t 11 → v t 11 + (outO (absT u (t + 26)).bd d y).length ≤ 71 → 0 ≤ y → y + d = (absT u (t + 26)).bd.2.1 →
      ∃ u', run M_TD_writeTrunk 7 [vA t, vI y, vN] [] g v = some (0, vI (u' t 11), g, u') ∧ oT u' t = oT v t ++ outO (absT u (t + 26)).bd d y ∧ (0 ≤ u' t 11 ∧ u' t 11 ≤ 71) ∧ FoT t u u' := by
    intro d
    induction d with
    | zero =>
      intro y v hF h0 h1 hy hd
      have e1 : v (t + 26 + 1) 1 = (absT u (t + 26)).bd.2.1 := congrArg (fun A => (AS.bd A).2.1) hF.b
      refine ⟨v, ?_, by simp [outO], ⟨h0, by simp [outO] at h1; omega⟩, hF⟩
      rw [R_TD_writeTrunk_7]
      simp only [gd_O h.1.1, gd_O h.1.2.1.1, gd_O h.1.2.1.2.1.1]
      rw [if_neg (by omega)]
    | succ d ih =>
      intro y v hF h0 h1 hy hd
      have e1 : v (t + 26 + 1) 1 = (absT u (t + 26)).bd.2.1 := congrArg (fun A => (AS.bd A).2.1) hF.b
      unfold outO at h1
      rw [List.length_append, List.length_append, rowO_len] at h1
      have fin : ∀ v1 : PM, FoT t u v1 → 0 ≤ v1 t 11 → v1 t 11 + ((absT u (t + 26)).bd.1.toNat + (outO (absT u (t + 26)).bd d (y + 1)).length : Nat) ≤ 71 → oT v1 t = oT v t ++ (if 0 < y then [10] else []) →
          ∃ u', run M_TD_writeTrunk 33 [vA t, vI y, vI 0] [] g v1 = some (0, vI (u' t 11), g, u') ∧ oT u' t = oT v t ++ outO (absT u (t + 26)).bd (d + 1) y ∧ (0 ≤ u' t 11 ∧ u' t 11 ≤ 71) ∧ FoT t u u' := by
        intro v1 f1 z0 z1 z2
        obtain ⟨v2, e2, o2, l2, f2⟩ := TD_wr33 h hc ho (y := y) ⟨hy, by omega⟩ (absT u (t + 26)).bd.1.toNat 0 v1 f1 z0 (by omega) (by omega) (by omega)
        obtain ⟨u', e3, o3, l3, f3⟩ := ih (y + 1) v2 f2 (by omega) (by omega) (by omega) (by omega)
        refine ⟨u', by rw [e2, e3], ?_, l3, f3⟩
        rw [o3, o2, z2]
        simp [outO]
      rw [R_TD_writeTrunk_7]
      simp only [gd_O h.1.1, gd_O h.1.2.1.1, gd_O h.1.2.1.2.1.1]
      rw [if_pos (by omega)]
      by_cases hy0 : 0 < y
      · rw [if_pos hy0] at h1
        simp only [List.length_cons, List.length_nil] at h1
        obtain ⟨v1, e2, o2, l2, f2⟩ := TD_writeByte (g := g) (u := v) h.1 ho h0 (by omega) 10
        rw [if_pos hy0, e2, cV_some]
        exact fin v1 (fun a k n1 n2 => (f2 a k n1 n2).trans (hF a k n1 n2)) (by omega) (by omega) (by rw [o2, if_pos hy0])
      · rw [if_neg hy0] at h1
        simp only [List.length_nil] at h1
        rw [if_neg hy0]
        exact fin v hF h0 (by omega) (by rw [if_neg hy0]; simp)
  have hl := aOut_len hb1 hb2
  obtain ⟨u', e1, o1, l1, f1⟩ := key (absT u (t + 26)).bd.2.1.toNat 0 (up u t 11 0) (fun a k n1 n2 => up_n n1) (by rw [up_s]; decide) (by rw [up_s]; show 0 + ((aOut (absT u (t + 26)).bd).length : Int) ≤ 71; omega) (by decide) (by omega)
  have e0 : oT (up u t 11 0) t = [] := by
    unfold oT
    rw [up_s]
    rfl
  rw [e0, List.nil_append] at o1
  refine ⟨u', ?_, o1, l1, f1⟩
  rw [C_TD_writeTrunk, gd_O h.1.1, e1]
  have : (oT u' t).length = (u' t 11).toNat := lsO_len ..
  rw [o1] at this
  rw [show ((aOut (absT u (t + 26)).bd).length : Int) = u' t 11 by
    unfold aOut
    omega]
theorem TD_outputByte (hk : kTD g t) (ho : KA g (t + 247) (2, 0, 71)) (h1 : u t 11 ≤ 71) (i : Int) : AqT g u t (call M_TD_outputByte [vA t, vI i] g u) 0 (oGet (oT u t) i) := by
  refine ⟨u, fun _ _ _ _ => rfl, ?_⟩
  unfold oT
  rw [C_TD_outputByte, lsO_get]
  simp only [gd_O hk.1]
  by_cases h0 : i < 0
  · rw [if_pos h0, if_neg (show ¬ (0 ≤ i ∧ i < u t 11) by omega)]; rfl
  · rw [if_neg h0]
    by_cases h2 : i < u t 11
    · rw [if_pos h2, gd_R ho (by omega) (by omega), if_pos (show 0 ≤ i ∧ i < u t 11 by omega)]; rfl
    · rw [if_neg h2, if_neg (show ¬ (0 ≤ i ∧ i < u t 11) by omega)]; rfl
theorem TM_out (hk : kTM g t) (ho : KA g (t + 8) (2, 0, 100)) (h0 : 0 ≤ u t 14) (h1 : u t 14 < 100) (v : Int) : ∃ u', call M_TM_out [vA t, vI v] g u = some (0, vN, g, u') ∧ oM u' t = oM u t ++ [v] ∧ u' t 14 = u t 14 + 1 ∧ u' t 7 = u t 7 ∧ FoM t u u' := by
  refine ⟨up (up u (t + 8) (u t 14) v) t 14 (u t 14 + 1), ?_, ?_, up_s .., by rw [up_j (by decide), up_o (by omega)], fun a k n1 n2 => by rw [up_n (by omega), up_o n2]⟩
  · rw [C_TM_out]
    simp only [gd_O hk.1]
    rw [gd_W ho h0 (by omega), up_o (by omega), w_id (by omega) (by omega)]
  · unfold oM
    rw [up_s]
    exact lsO_snoc h0 (fun k k0 k1 => by rw [up_o (by omega), up_j (by omega)]) (by rw [up_o (by omega), up_s])
theorem FoM.s {u' : PM} (h : FoM t u u') : u' (t + 1) = u (t + 1) := funext fun k => h _ k (by omega) (by omega)
theorem TM_wr34 (hk : kTM g t) (hM : mOk (u (t + 1))) (ho : KA g (t + 8) (2, 0, 100)) {y : Int} (hy : 0 ≤ y ∧ y < (bdM (u (t + 1))).2.1) : ∀ (d : Nat) (x : Int) (v : PM), FoM t u v → 0 ≤ v t 14 → v t 14 + d ≤ 71 → v t 7 = 0 → 0 ≤ x → x + d = (bdM (u (t + 1))).1 →
    ∃ u', run M_TM_writeTrunk 34 [vA t, vI y, vI x, vN] [] g v = run M_TM_writeTrunk 12 [vA t, vI (y + 1), vN, vN] [] g u' ∧ oM u' t = oM v t ++ rowO (bdM (u (t + 1))) y d x ∧ u' t 14 = v t 14 + d ∧ u' t 7 = 0 ∧ FoM t u u' := by
  have hb1 : (bdM (u (t + 1))).1 ≤ 8 := hM.1.2
  have hb2 : (bdM (u (t + 1))).2.1 ≤ 8 := hM.2.1.2
  intro d
  induction d with
  | zero =>
    intro x v hF h0 h1 h7 hx hd
    have e0 : v (t + 1) 0 = (bdM (u (t + 1))).1 := congrFun hF.s 0
    refine ⟨v, ?_, by simp [rowO], by omega, h7, hF⟩
    rw [R_TM_writeTrunk_34, gd_O hk.1, gd_R hk.2.1 (by decide) (by decide), if_neg (by omega), w_id (x := y + 1) (by omega) (by omega)]
  | succ d ih =>
    intro x v hF h0 h1 h7 hx hd
    have e0 : v (t + 1) 0 = (bdM (u (t + 1))).1 := congrFun hF.s 0
    have es := hF.s
    have hin : bIn (bdM (u (t + 1))) x y := ⟨⟨hx, by omega⟩, hy⟩
    have hbd := bIn_bd hM hin
    have hcc := hM.2.2.1 (8 * y + x) (by omega) (by omega)
    have E := enc_eq hcc.1
    rw [← bdM_cell hM hin] at E
    have hcb : bCell (bdM (u (t + 1))) x y ≤ 98 := by
      rw [bdM_cell hM hin]
      unfold enc
      repeat' split
      all_goals omega
    obtain ⟨v1, e1, o1, l1, s1, f1⟩ := TM_out (g := g) (u := v) hk ho h0 (by omega) (sgn (bCell (bdM (u (t + 1))) x y))
    obtain ⟨u', e2, o2, l2, s2, f2⟩ := ih (x + 1) v1 (fun a k n1 n2 => (f1 a k n1 n2).trans (hF a k n1 n2)) (by omega) (by omega) (by omega) (by omega) (by omega)
    refine ⟨u', ?_, ?_, by omega, s2, f2⟩
    · have k98 : ∀ q c : Int, q = sgn (bCell (bdM (u (t + 1))) x y) → run M_TM_writeTrunk 98 [vA t, vI y, vI x, vI c] [vI q, vA t] g v = run M_TM_writeTrunk 12 [vA t, vI (y + 1), vN, vN] [] g u' := by
        intro q c hq
        rw [R_TM_writeTrunk_98, gd_O hk.1, hq, e1, cV_some, w_id (x := x + 1) (by omega) (by omega), e2]
      have hM' : mOk (v (t + 1)) := by rw [es]; exact hM
      have hin' : bIn (bdM (v (t + 1))) x y := by rw [es]; exact hin
      rw [R_TM_writeTrunk_34, gd_O hk.1, gd_R hk.2.1 (by decide) (by decide), if_pos (by omega)]
      rw [gd_O hk.1, TM_pieceOf hk hM' hin', cI_some, gd_O hk.1, TM_cell hk hM' hin', cI_some, gd_O hk.1, TM_cell hk hM' hin', cI_some, es]
      unfold sgn at k98
      by_cases c0 : u (t + 1) (33 + (8 * y + x)) = 0
      · rw [if_pos c0]
        exact k98 _ _ (by rw [if_pos (E.1.mpr c0)])
      · have n0 : ¬ bCell (bdM (u (t + 1))) x y = -1 := fun q => c0 (E.1.mp q)
        rw [if_neg c0]
        by_cases c1 : u (t + 1) (33 + (8 * y + x)) = 1
        · rw [if_pos c1]
          exact k98 _ _ (by rw [if_neg n0, if_pos (E.2.1.mpr c1)])
        · have n1 : ¬ bCell (bdM (u (t + 1))) x y = -2 := fun q => c1 (E.2.1.mp q)
          have n2 : 0 ≤ bCell (bdM (u (t + 1))) x y := E.2.2.1.mpr (by omega)
          rw [if_neg c1, if_pos n2]
          by_cases c2 : bCell (bdM (u (t + 1))) x y < 26
          · rw [if_pos c2]
            exact k98 _ _ (by rw [if_neg n0, if_neg n1, if_pos c2, w_id (by omega) (by omega)])
          · rw [if_neg c2]
            exact k98 _ _ (by rw [if_neg n0, if_neg n1, if_neg c2, w_id (by omega) (by omega)])
    · rw [o2, o1]
      simp [rowO]
theorem TM_writeTrunk (hk : kTM g t) (hM : mOk (u (t + 1))) (ho : KA g (t + 8) (2, 0, 100)) : ∃ u', call M_TM_writeTrunk [vA t] g u = some (0, vI (aOut (bdM (u (t + 1)))).length, g, u') ∧ oM u' t = aOut (bdM (u (t + 1))) ∧ (0 ≤ u' t 14 ∧ u' t 14 ≤ 71) ∧ u' t 7 = 0 ∧ FoM t u u' := by
  have hb1 : (bdM (u (t + 1))).1 ≤ 8 := hM.1.2
  have hb2 : (bdM (u (t + 1))).2.1 ≤ 8 := hM.2.1.2
  have hb0 : 0 ≤ (bdM (u (t + 1))).1 := hM.1.1
  have hb3 : 0 ≤ (bdM (u (t + 1))).2.1 := hM.2.1.1
  have key : ∀ (d : Nat) (y : Int) (v : PM), FoM t u v → 0 ≤ v t 14 → v t 14 + (outO (bdM (u (t + 1))) d y).length ≤ 71 → v t 7 = 0 → 0 ≤ y → y + d = (bdM (u (t + 1))).2.1 →
      ∃ u', run M_TM_writeTrunk 12 [vA t, vI y, vN, vN] [] g v = some (0, vI (u' t 14), g, u') ∧ oM u' t = oM v t ++ outO (bdM (u (t + 1))) d y ∧ (0 ≤ u' t 14 ∧ u' t 14 ≤ 71) ∧ u' t 7 = 0 ∧ FoM t u u' := by
    intro d
    induction d with
    | zero =>
      intro y v hF h0 h1 h7 hy hd
      have e1 : v (t + 1) 1 = (bdM (u (t + 1))).2.1 := congrFun hF.s 1
      refine ⟨v, ?_, by simp [outO], ⟨h0, by simp [outO] at h1; omega⟩, h7, hF⟩
      rw [R_TM_writeTrunk_12, gd_O hk.1, gd_R hk.2.1 (by decide) (by decide), if_neg (by omega), gd_O hk.1]
    | succ d ih =>
      intro y v hF h0 h1 h7 hy hd
      have e1 : v (t + 1) 1 = (bdM (u (t + 1))).2.1 := congrFun hF.s 1
      unfold outO at h1
      rw [List.length_append, List.length_append, rowO_len] at h1
      have fin : ∀ v1 : PM, FoM t u v1 → 0 ≤ v1 t 14 → v1 t 14 + ((bdM (u (t + 1))).1.toNat + (outO (bdM (u (t + 1))) d (y + 1)).length : Nat) ≤ 71 → v1 t 7 = 0 → oM v1 t = oM v t ++ (if 0 < y then [10] else []) →
          ∃ u', run M_TM_writeTrunk 34 [vA t, vI y, vI 0, vN] [] g v1 = some (0, vI (u' t 14), g, u') ∧ oM u' t = oM v t ++ outO (bdM (u (t + 1))) (d + 1) y ∧ (0 ≤ u' t 14 ∧ u' t 14 ≤ 71) ∧ u' t 7 = 0 ∧ FoM t u u' := by
        intro v1 f1 z0 z1 z7 z2
        obtain ⟨v2, e2, o2, l2, s2, f2⟩ := TM_wr34 hk hM ho (y := y) ⟨hy, by omega⟩ (bdM (u (t + 1))).1.toNat 0 v1 f1 z0 (by omega) z7 (by omega) (by omega)
        obtain ⟨u', e3, o3, l3, s3, f3⟩ := ih (y + 1) v2 f2 (by omega) (by omega) s2 (by omega) (by omega)
        refine ⟨u', by rw [e2, e3], ?_, l3, s3, f3⟩
        rw [o3, o2, z2]
        simp [outO]
      rw [R_TM_writeTrunk_12, gd_O hk.1, gd_R hk.2.1 (by decide) (by decide), if_pos (by omega)]
      by_cases hy0 : 0 < y
      · rw [if_pos hy0] at h1
        simp only [List.length_cons, List.length_nil] at h1
        obtain ⟨v1, e2, o2, l2, s2, f2⟩ := TM_out (g := g) (u := v) hk ho h0 (by omega) 10
        rw [if_pos hy0, gd_O hk.1, e2, cV_some]
        exact fin v1 (fun a k n1 n2 => (f2 a k n1 n2).trans (hF a k n1 n2)) (by omega) (by omega) (by omega) (by rw [o2, if_pos hy0])
      · rw [if_neg hy0] at h1
        simp only [List.length_nil] at h1
        rw [if_neg hy0]
        exact fin v hF h0 (by omega) h7 (by rw [if_neg hy0]; simp)
  have hl := aOut_len hb1 hb2
  obtain ⟨u', e1, o1, l1, s1, f1⟩ := key (bdM (u (t + 1))).2.1.toNat 0 (up (up u t 7 0) t 14 0) (fun a k n1 n2 => by rw [up_n (by omega), up_n (by omega)]) (by rw [up_s]; decide) (by rw [up_s]; show 0 + ((aOut (bdM (u (t + 1)))).length : Int) ≤ 71; omega) (by rw [up_j (by decide), up_s]) (by decide) (by omega)
  have e0 : oM (up (up u t 7 0) t 14 0) t = [] := by
    unfold oM
    rw [up_s]
    rfl
  rw [e0, List.nil_append] at o1
  refine ⟨u', ?_, o1, l1, s1, f1⟩
  rw [C_TM_writeTrunk]
  simp only [gd_O hk.1]
  rw [e1]
  have : (oM u' t).length = (u' t 14).toNat := lsO_len ..
  rw [o1] at this
  rw [show ((aOut (bdM (u (t + 1)))).length : Int) = u' t 14 by
    unfold aOut
    omega]
theorem TM_outputByte (hk : kTM g t) (ho : KA g (t + 8) (2, 0, 100)) (h1 : 0 ≤ u t 14 ∧ u t 14 ≤ 71) (i : Int) : AqM g u t (call M_TM_outputByte [vA t, vI i] g u) 0 (oGet (oM u t) i) := by
  refine ⟨up u t 7 0, ?_, up_s .., fun a k n1 _ _ _ _ _ => up_n (by omega)⟩
  unfold oM
  rw [C_TM_outputByte, lsO_get]
  simp only [gd_O hk.1]
  rw [up_j (by decide), TM_isIn, cI_some, w_id (by omega) (by omega), up_o (by omega)]
  by_cases h : 0 ≤ i ∧ i < u t 14
  · rw [bI_t (show 0 ≤ i ∧ i ≤ u t 14 - 1 by omega), if_neg (by decide), gd_O hk.1, gd_R ho (by omega) (by omega), if_pos h]
  · rw [bI_f (show ¬ (0 ≤ i ∧ i ≤ u t 14 - 1) by omega), if_pos rfl, if_neg h]
end
