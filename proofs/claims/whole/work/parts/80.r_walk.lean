/-! ===== all places in order; the reference's counts ===== -/
def mis0 (B : Bd) (s : Int) (p : Pos) : Bool := decide (bMis B s p.1 p.2.1 p.2.2 = 0)
def rowL (r y : Int) : Nat → Int → List Pos
  | 0, _ => []
  | d + 1, x => (r, x, y) :: rowL r y d (x + 1)
def colL (C : Nat) (r : Int) : Nat → Int → List Pos
  | 0, _ => []
  | d + 1, y => rowL r y C 0 ++ colL C r d (y + 1)
def rotL (C R : Nat) : Nat → Int → List Pos
  | 0, _ => []
  | d + 1, r => colL C r R 0 ++ rotL C R d (r + 1)
def allP (B : Bd) : List Pos := rotL B.1.toNat B.2.1.toNat 4 0
/-- the walk from p goes through l, and ends -/
def Wk (C R : Int) : List Pos → Pos → Prop
  | [], p => nextP C R p = none
  | q :: l, p => nextP C R p = some q ∧ Wk C R l q
theorem fN_find {B : Bd} {s : Int} : ∀ {l : List Pos} {p : Pos} {K : Nat}, Wk B.1 B.2.1 l p → l.length ≤ K → fN B s K p = l.find? (mis0 B s)
  | [], p, K, h, hl => by
    have h' : nextP B.1 B.2.1 p = none := h
    cases K with
    | zero => rfl
    | succ K => unfold fN; rw [h']; rfl
  | q :: l, p, K, h, hl => by
    obtain ⟨h1, h2⟩ := h
    cases K with
    | zero => simp at hl
    | succ K =>
      unfold fN
      rw [h1]
      show (if bMis B s q.1 q.2.1 q.2.2 = 0 then some q else fN B s K q) = _
      rw [List.find?_cons]
      by_cases hm : bMis B s q.1 q.2.1 q.2.2 = 0
      · rw [if_pos hm, show mis0 B s q = true from decide_eq_true hm]
      · rw [if_neg hm, show mis0 B s q = false from decide_eq_false hm]
        exact fN_find h2 (by simp at hl; omega)
theorem fL_filter {B : Bd} {s : Int} : ∀ {l : List Pos} {p : Pos} {K : Nat}, Wk B.1 B.2.1 l p → l.length ≤ K → l.length ≤ 256 → fL B s K p = l.filter (mis0 B s)
  | [], p, K, h, hl, h256 => by
    cases K with
    | zero => rfl
    | succ K => unfold fL; rw [fN_find h h256]; rfl
  | q :: l, p, K, h, hl, h256 => by
    have hf := fN_find (s := s) h h256
    obtain ⟨h1, h2⟩ := h
    have hl' : l.length + 1 ≤ K := hl
    have h256' : l.length + 1 ≤ 256 := h256
    cases K with
    | zero => omega
    | succ K =>
      rw [List.find?_cons] at hf
      by_cases hm : bMis B s q.1 q.2.1 q.2.2 = 0
      · rw [show mis0 B s q = true from decide_eq_true hm] at hf
        rw [List.filter_cons_of_pos (show mis0 B s q = true from decide_eq_true hm)]
        unfold fL
        rw [hf]
        show q :: fL B s K q = _
        rw [fL_filter h2 (by omega) (by omega)]
      · rw [show mis0 B s q = false from decide_eq_false hm] at hf
        rw [List.filter_cons_of_neg (show ¬ mis0 B s q = true from fun k => hm (of_decide_eq_true k)), ← fL_filter (K := K + 1) h2 (by omega) (by omega)]
        unfold fL
        rw [hf, fN_find h2 (by omega)]
theorem Wk_row {C R : Int} {r y : Int} {l : List Pos} : ∀ (d : Nat) (x : Int), x + d = C - 1 → Wk C R l (r, C - 1, y) → Wk C R (rowL r y d (x + 1) ++ l) (r, x, y)
  | 0, x, h, hl => by
    rw [show x = C - 1 by omega]
    exact hl
  | d + 1, x, h, hl => by
    refine ⟨?_, Wk_row d (x + 1) (by omega) hl⟩
    unfold nextP
    rw [if_pos (by show x + 1 < C; omega)]
theorem Wk_col {C : Nat} {R : Int} {r : Int} {l : List Pos} (hC : 0 < C) : ∀ (d : Nat) (y : Int), y + d = R - 1 → Wk C R l (r, (C : Int) - 1, R - 1) → Wk C R (colL C r d (y + 1) ++ l) (r, (C : Int) - 1, y)
  | 0, y, h, hl => by
    rw [show y = R - 1 by omega]
    exact hl
  | d + 1, y, h, hl => by
    unfold colL
    obtain ⟨c, rfl⟩ : ∃ c, C = c + 1 := ⟨C - 1, by omega⟩
    rw [List.append_assoc]
    refine ⟨?_, ?_⟩
    · unfold nextP
      rw [if_neg (by show ¬ ((c + 1 : Nat) : Int) - 1 + 1 < ((c + 1 : Nat) : Int); omega), if_pos (by show y + 1 < R; omega)]
    · exact Wk_row c 0 (by omega) (Wk_col hC d (y + 1) (by omega) hl)
theorem Wk_rot {C R : Nat} (hC : 0 < C) (hR : 0 < R) : ∀ (d : Nat) (r : Int), r + d = 3 → Wk C R (rotL C R d (r + 1)) (r, (C : Int) - 1, (R : Int) - 1)
  | 0, r, h => by
    show nextP C R (r, (C : Int) - 1, (R : Int) - 1) = none
    unfold nextP
    rw [if_neg (by show ¬ (C : Int) - 1 + 1 < C; omega), if_neg (by show ¬ (R : Int) - 1 + 1 < R; omega), if_neg (by show ¬ r < 3; omega)]
  | d + 1, r, h => by
    have ih := Wk_rot hC hR d (r + 1) (by omega)
    unfold rotL
    obtain ⟨c, rfl⟩ : ∃ c, C = c + 1 := ⟨C - 1, by omega⟩
    obtain ⟨e, rfl⟩ : ∃ c, R = c + 1 := ⟨R - 1, by omega⟩
    unfold colL
    rw [List.append_assoc]
    refine ⟨?_, ?_⟩
    · unfold nextP
      rw [if_neg (by show ¬ ((c + 1 : Nat) : Int) - 1 + 1 < ((c + 1 : Nat) : Int); omega), if_neg (by show ¬ ((e + 1 : Nat) : Int) - 1 + 1 < ((e + 1 : Nat) : Int); omega), if_pos (by show r < 3; omega)]
    · exact Wk_row c 0 (by omega) (Wk_col hC e 0 (by omega) ih)
theorem Wk_all {C R : Nat} (hC : 0 < C) (hR : 0 < R) : Wk C R (rotL C R 4 0) (0, -1, 0) := by
  have ih := Wk_rot hC hR 3 0 (by omega)
  unfold rotL
  obtain ⟨c, rfl⟩ : ∃ c, C = c + 1 := ⟨C - 1, by omega⟩
  obtain ⟨e, rfl⟩ : ∃ c, R = c + 1 := ⟨R - 1, by omega⟩
  unfold colL
  rw [List.append_assoc]
  exact Wk_row (c + 1) (-1) (by omega) (Wk_col hC e 0 (by omega) ih)
theorem rowL_len (r y : Int) : ∀ (d : Nat) (x : Int), (rowL r y d x).length = d
  | 0, _ => rfl
  | d + 1, x => congrArg (· + 1) (rowL_len r y d (x + 1))
theorem colL_len (C : Nat) (r : Int) : ∀ (d : Nat) (y : Int), (colL C r d y).length = d * C
  | 0, _ => by simp [colL]
  | d + 1, y => by rw [colL, List.length_append, rowL_len, colL_len C r d, Nat.succ_mul, Nat.add_comm]
theorem rotL_len (C R : Nat) : ∀ (d : Nat) (r : Int), (rotL C R d r).length = d * (R * C)
  | 0, _ => by simp [rotL]
  | d + 1, r => by rw [rotL, List.length_append, colL_len, rotL_len C R d, Nat.succ_mul, Nat.add_comm]
theorem bMis_out {B : Bd} (h : B.1 ≤ 0 ∨ B.2.1 ≤ 0) {s : Int} (h0 : 0 ≤ s) (h1 : s < 5) (r x y : Int) : bMis B s r x y = 1 := by
  have hz := sz_bd h0 h1
  unfold bMis
  rw [if_pos]
  rw [anyF_iff]
  refine ⟨0, ⟨by omega, by omega⟩, decide_eq_true ?_⟩
  unfold bCell
  rw [if_neg (by omega)]
theorem fL_all {B : Bd} (hB : bOk B) {s : Int} (h0 : 0 ≤ s) (h1 : s < 5) : fL B s 256 (0, -1, 0) = (allP B).filter (mis0 B s) := by
  obtain ⟨⟨c0, c1⟩, ⟨r0, r1⟩, -⟩ := hB
  by_cases h : 0 < B.1 ∧ 0 < B.2.1
  · have hw := Wk_all (C := B.1.toNat) (R := B.2.1.toNat) (by omega) (by omega)
    rw [show ((B.1.toNat : Nat) : Int) = B.1 by omega, show ((B.2.1.toNat : Nat) : Int) = B.2.1 by omega] at hw
    have hl : (rotL B.1.toNat B.2.1.toNat 4 0).length ≤ 256 := by
      rw [rotL_len]
      have : B.2.1.toNat * B.1.toNat ≤ 8 * 8 := Nat.mul_le_mul (by omega) (by omega)
      omega
    exact fL_filter hw hl hl
  · have hm := bMis_out (B := B) (by omega) h0 h1
    have hn : ∀ (K : Nat) (p : Pos), fN B s K p = none := by
      intro K
      induction K with
      | zero => intro p; rfl
      | succ K ih =>
        intro p
        unfold fN
        cases nextP B.1 B.2.1 p with
        | none => rfl
        | some q =>
          show (if bMis B s q.1 q.2.1 q.2.2 = 0 then some q else fN B s K q) = none
          rw [hm, if_neg (by decide)]
          exact ih q
    have e1 : fL B s 256 (0, -1, 0) = [] := by
      show fL B s (255 + 1) (0, -1, 0) = []
      unfold fL
      rw [hn]
    rw [e1]
    refine (List.filter_eq_nil_iff.mpr fun p _ k => ?_).symm
    have := of_decide_eq_true k
    rw [hm] at this
    omega
/-- loops over all places, front to back -/
def pfold {α : Type} (F : α → Pos → α) (l : List Pos) (a : α) : α := l.foldl F a
theorem bFit_all {B : Bd} (hB : bOk B) {s : Int} (h0 : 0 ≤ s) (h1 : s < 5) : bFit B s = ((allP B).filter (mis0 B s)).length := by
  unfold bFit
  rw [fL_all hB h0 h1]
section
variable {g : PG} {u : PM} {t : Nat} {s r x y : Int}
theorem filter_row {P : Pos → Bool} {r y x : Int} {d : Nat} : ((rowL r y (d + 1) x).filter P).length = (if P (r, x, y) = true then 1 else 0) + ((rowL r y d (x + 1)).filter P).length := by
  show (((r, x, y) :: rowL r y d (x + 1)).filter P).length = _
  by_cases h : P (r, x, y) = true
  · rw [List.filter_cons_of_pos h, if_pos h, List.length_cons]; omega
  · rw [List.filter_cons_of_neg h, if_neg h]; omega
theorem TM_fit26 (hk : kTM g t) (hs : 0 ≤ s ∧ s < 5) (hr : 0 ≤ r ∧ r < 4) {y : Int} (hy : 0 ≤ y ∧ y < 8) : ∀ (d : Nat) (x c : Int) (u : PM), mOk (u (t + 1)) → 0 ≤ x → x + d = u (t + 1) 0 → 0 ≤ c → c + d ≤ 1000 →
    ∃ u', run M_TM_fitting 26 [vA t, vI s, vI c, vI r, vI y, vI x] [] g u = run M_TM_fitting 12 [vA t, vI s, vI (c + ((rowL r y d x).filter (mis0 (bdM (u (t + 1))) s)).length), vI r, vI (y + 1), vN] [] g u' ∧ Fm t u u' := by
  intro d
  induction d with
  | zero =>
    intro x c u ho hx hd hc hc2
    refine ⟨u, ?_, Fm.rfl'⟩
    rw [R_TM_fitting_26, gd_O hk.1, gd_R hk.2.1 (by omega) (by omega), if_neg (by omega), w_id (x := y + 1) (by omega) (by omega)]
    simp [rowL]
  | succ d ih =>
    intro x c u ho hx hd hc hc2
    have := ho.1
    obtain ⟨v, e1, hF⟩ := TM_misfit (g := g) (s := s) (r := r) (x := x) (y := y) hk ho hs hr (by omega) (by omega)
    rw [R_TM_fitting_26, gd_O hk.1, gd_R hk.2.1 (by omega) (by omega), if_pos (by omega), gd_O hk.1, e1, cI_some, w_id (x := x + 1) (by omega) (by omega), w_id (x := c + 1) (by omega) (by omega), filter_row]
    have hv : v (t + 1) = u (t + 1) := hF.s
    by_cases hm : bMis (bdM (u (t + 1))) s r x y = 0
    · obtain ⟨u', e2, hF2⟩ := ih (x + 1) (c + 1) v (by rw [hv]; exact ho) (by omega) (by rw [hv]; omega) (by omega) (by omega)
      rw [if_pos hm, if_pos (show mis0 (bdM (u (t + 1))) s (r, x, y) = true from decide_eq_true hm), e2, hv]
      refine ⟨u', ?_, hF.tr hF2⟩
      rw [show c + 1 + (((rowL r y d (x + 1)).filter (mis0 (bdM (u (t + 1))) s)).length : Int) = c + ((1 + ((rowL r y d (x + 1)).filter (mis0 (bdM (u (t + 1))) s)).length : Nat) : Int) by omega]
    · obtain ⟨u', e2, hF2⟩ := ih (x + 1) c v (by rw [hv]; exact ho) (by omega) (by rw [hv]; omega) (by omega) (by omega)
      rw [if_neg hm, if_neg (show ¬ mis0 (bdM (u (t + 1))) s (r, x, y) = true from fun k => hm (of_decide_eq_true k)), e2, hv]
      refine ⟨u', ?_, hF.tr hF2⟩
      rw [Nat.zero_add]
theorem TM_fit12 (hk : kTM g t) (hs : 0 ≤ s ∧ s < 5) (hr : 0 ≤ r ∧ r < 4) : ∀ (d : Nat) (y c : Int) (u : PM), mOk (u (t + 1)) → 0 ≤ y → y + d = u (t + 1) 1 → 0 ≤ c → c + 8 * d ≤ 900 →
    ∃ u', run M_TM_fitting 12 [vA t, vI s, vI c, vI r, vI y, vN] [] g u = run M_TM_fitting 4 [vA t, vI s, vI (c + ((colL (u (t + 1) 0).toNat r d y).filter (mis0 (bdM (u (t + 1))) s)).length), vI (r + 1), vN, vN] [] g u' ∧ Fm t u u' := by
  intro d
  induction d with
  | zero =>
    intro y c u ho hy hd hc hc2
    refine ⟨u, ?_, Fm.rfl'⟩
    rw [R_TM_fitting_12, gd_O hk.1, gd_R hk.2.1 (by omega) (by omega), if_neg (by omega), w_id (x := r + 1) (by omega) (by omega)]
    simp [colL]
  | succ d ih =>
    intro y c u ho hy hd hc hc2
    have h0 := ho.1
    have h1 := ho.2.1
    obtain ⟨v, e1, hF⟩ := TM_fit26 (g := g) (s := s) (r := r) hk hs hr (y := y) (by omega) (u (t + 1) 0).toNat 0 c u ho (by omega) (by omega) hc (by omega)
    have hl : ((rowL r y (u (t + 1) 0).toNat 0).filter (mis0 (bdM (u (t + 1))) s)).length ≤ (u (t + 1) 0).toNat := Nat.le_trans (List.length_filter_le _ _) (Nat.le_of_eq (rowL_len r y _ 0))
    have hv : v (t + 1) = u (t + 1) := hF.s
    obtain ⟨u', e2, hF2⟩ := ih (y + 1) (c + ((rowL r y (u (t + 1) 0).toNat 0).filter (mis0 (bdM (u (t + 1))) s)).length) v (by rw [hv]; exact ho) (by omega) (by rw [hv]; omega) (by omega) (by omega)
    refine ⟨u', ?_, hF.tr hF2⟩
    rw [R_TM_fitting_12, gd_O hk.1, gd_R hk.2.1 (by omega) (by omega), if_pos (by omega), e1, e2, hv, colL, List.filter_append, List.length_append, Int.natCast_add, Int.add_assoc]
theorem TM_fitting (hk : kTM g t) (ho : mOk (u (t + 1))) (hs : 0 ≤ s ∧ s < 5) : ∃ u', call M_TM_fitting [vA t, vI s] g u = some (0, vI ((allP (bdM (u (t + 1)))).filter (mis0 (bdM (u (t + 1))) s)).length, g, u') ∧ Fm t u u' := by
  have key : ∀ (d : Nat) (r c : Int) (u : PM), mOk (u (t + 1)) → 0 ≤ r → r + d = 4 → 0 ≤ c → c + 64 * d ≤ 500 → ∃ u', run M_TM_fitting 4 [vA t, vI s, vI c, vI r, vN, vN] [] g u = some (0, vI (c + ((rotL (u (t + 1) 0).toNat (u (t + 1) 1).toNat d r).filter (mis0 (bdM (u (t + 1))) s)).length), g, u') ∧ Fm t u u' := by
    intro d
    induction d with
    | zero =>
      intro r c u ho hr hd hc hc2
      refine ⟨u, ?_, Fm.rfl'⟩
      rw [R_TM_fitting_4, if_neg (by omega)]
      simp [rotL]
    | succ d ih =>
      intro r c u ho hr hd hc hc2
      have h0 := ho.1
      have h1 := ho.2.1
      obtain ⟨v, e1, hF⟩ := TM_fit12 (g := g) (s := s) (r := r) hk hs ⟨hr, by omega⟩ (u (t + 1) 1).toNat 0 c u ho (by omega) (by omega) hc (by omega)
      have hl : ((colL (u (t + 1) 0).toNat r (u (t + 1) 1).toNat 0).filter (mis0 (bdM (u (t + 1))) s)).length ≤ 64 := Nat.le_trans (List.length_filter_le _ _) (by
        rw [colL_len]
        have : (u (t + 1) 1).toNat * (u (t + 1) 0).toNat ≤ 8 * 8 := Nat.mul_le_mul (by omega) (by omega)
        omega)
      have hv : v (t + 1) = u (t + 1) := hF.s
      obtain ⟨u', e2, hF2⟩ := ih (r + 1) (c + ((colL (u (t + 1) 0).toNat r (u (t + 1) 1).toNat 0).filter (mis0 (bdM (u (t + 1))) s)).length) v (by rw [hv]; exact ho) (by omega) (by omega) (by omega) (by omega)
      refine ⟨u', ?_, hF.tr hF2⟩
      rw [R_TM_fitting_4, if_pos (by omega), e1, e2, hv, rotL, List.filter_append, List.length_append, Int.natCast_add, Int.add_assoc]
  obtain ⟨u', e1, hF⟩ := key 4 0 0 u ho (by omega) (by omega) (by omega) (by omega)
  refine ⟨u', ?_, hF⟩
  rw [C_TM_fitting, e1, Int.zero_add]
  rfl
theorem mOk_b {m : Int → Int} (ho : mOk m) : bOk (bdM m) := by
  obtain ⟨h1, h2, -, h4⟩ := ho
  refine ⟨h1, h2, fun j j0 j1 => ?_⟩
  show cl 128 (fun k => m (97 + 64 * (k % 2) + k / 2)) j = 0 ∨ cl 128 (fun k => m (97 + 64 * (k % 2) + k / 2)) j = 1
  rw [cl_in j0 j1]
  have := h4 (64 * (j % 2) + j / 2) (by omega) (by omega)
  rw [show 97 + 64 * (j % 2) + j / 2 = 97 + (64 * (j % 2) + j / 2) by omega]
  exact this
theorem TM_fitting2 (hk : kTM g t) (ho : mOk (u (t + 1))) (hs : 0 ≤ s ∧ s < 5) : ∃ u', call M_TM_fitting [vA t, vI s] g u = some (0, vI (bFit (bdM (u (t + 1))) s), g, u') ∧ Fm t u u' := by
  rw [bFit_all (mOk_b ho) hs.1 hs.2]
  exact TM_fitting hk ho hs
theorem TM_emptyIn (hk : kTM g t) (ho : mOk (u (t + 1))) {y : Int} (hy : 0 ≤ y ∧ y < u (t + 1) 1) : call M_TM_emptyIn [vA t, vI y] g u = some (0, vI (bEmp (bdM (u (t + 1))) y), g, u) := by
  have h := loop_sum (F := fun a i => run M_TM_emptyIn 4 [vA t, vI y, vI a, vI i] [] g u) (f := fun x => bI (bCell (bdM (u (t + 1))) x y = -1)) (n := u (t + 1) 0) (b := 1) (c := 0) ho.1.1 (by omega) (fun i _ _ => bI_bd _) (fun a i h0 h1 h2 h3 => by
    have := ho.1
    have hin : bIn (bdM (u (t + 1))) i y := ⟨⟨h0, h1⟩, hy.1, hy.2⟩
    have hb := bIn_bd ho hin
    have hm := ho.2.2.1 (8 * y + i) (by omega) (by omega)
    have hE := (enc_eq hm.1).1
    show run M_TM_emptyIn 4 [vA t, vI y, vI a, vI i] [] g u = run M_TM_emptyIn 4 [vA t, vI y, vI (a + bI (bCell (bdM (u (t + 1))) i y = -1)), vI (i + 1)] [] g u
    rw [R_TM_emptyIn_4, gd_O hk.1, gd_R hk.2.1 (by omega) (by omega), if_pos h1, gd_O hk.1, TM_cell hk ho hin, cI_some, w_id (x := a + 1) (by omega) (by omega), w_id (x := i + 1) (by omega) (by omega), bdM_cell ho hin]
    by_cases hc : u (t + 1) (33 + (8 * y + i)) = 0
    · rw [if_pos hc, bI_t (hE.mpr hc)]
    · rw [if_neg hc, bI_f (fun k => hc (hE.mp k)), Int.add_zero])
  rw [C_TM_emptyIn]
  refine Eq.trans h ?_
  rw [R_TM_emptyIn_4, gd_O hk.1, gd_R hk.2.1 (by omega) (by omega), if_neg (by omega), Int.zero_add]
  rfl
theorem TM_points (hk : kTM g t) (ho : mOk (u (t + 1))) (hs : 0 ≤ s ∧ s < 5) (hr : 0 ≤ r ∧ r < 4) (hx : -100 ≤ x ∧ x ≤ 100) (hy : -100 ≤ y ∧ y ≤ 100) : ∃ u', call M_TM_points [vA t, vI s, vI r, vI x, vI y] g u = some (0, vI (bPts (bdM (u (t + 1))) s r y), g, u') ∧ SpT u' t s r x y ∧ Fm t u u' := by
  obtain ⟨v, e1, hS, hF⟩ := TM_spreads (g := g) (u := u) hk hs hr hx hy
  refine ⟨v, ?_, hS, hF⟩
  have hz := sz_bd hs.1 hs.2
  rw [C_TM_points, gd_O hk.1, e1, cV_some, gd_O hk.1, hS.1, ← hF.s]
  rw [← hF.s] at ho
  have h8 := ho.2.1
  have h9 := ho.1
  have row : ∀ (a j : Int), 0 ≤ a → a ≤ 100 → 0 ≤ j → j < v (t + 1) 1 → run M_TM_points 35 [vA t, vI s, vI r, vI x, vI y, vI a, vI j, vI 0, vI 0] [] g v = run M_TM_points 18 [vA t, vI s, vI r, vI x, vI y, vI (a + (if 0 < bRow s r y j ∧ bRow s r y j = bEmp (bdM (v (t + 1))) j then v (t + 1) 0 else 0)), vI (j + 1), vN, vN] [] g v := by
    intro a j ha ha2 hj hj2
    have h := loop_sum (F := fun c i => run M_TM_points 35 [vA t, vI s, vI r, vI x, vI y, vI a, vI j, vI c, vI i] [] g v) (f := fun i => bI (pY s r y i = j)) (n := sz s) (b := 1) (c := 0) (by omega) (by omega) (fun i _ _ => bI_bd _) (fun c i h0 h1 h2 h3 => by
      show run M_TM_points 35 [vA t, vI s, vI r, vI x, vI y, vI a, vI j, vI c, vI i] [] g v = run M_TM_points 35 [vA t, vI s, vI r, vI x, vI y, vI a, vI j, vI (c + bI (pY s r y i = j)), vI (i + 1)] [] g v
      rw [R_TM_points_35]
      simp only [gd_O hk.1]
      rw [if_pos (by rw [hS.1]; exact h1), gd_R hk.2.2.2 h0 (by omega), (hS.2 i h0 h1).2, w_id (x := c + 1) (by omega) (by omega), w_id (x := i + 1) (by omega) (by omega)]
      by_cases hc : pY s r y i = j
      · rw [if_pos hc, bI_t hc]
      · rw [if_neg hc, bI_f hc, Int.add_zero])
    refine Eq.trans h ?_
    have hb := bRow_bd hs.1 hs.2 r y j
    show run M_TM_points 35 [vA t, vI s, vI r, vI x, vI y, vI a, vI j, vI (0 + bRow s r y j), vI (sz s)] [] g v = _
    rw [R_TM_points_35]
    simp only [gd_O hk.1, TM_emptyIn hk ho ⟨hj, hj2⟩, cI_some]
    rw [if_neg (by rw [hS.1]; omega), Int.zero_add, gd_R hk.2.1 (by omega) (by omega), w_id (x := j + 1) (by omega) (by omega), w_id (x := a + v (t + 1) 0) (by omega) (by omega)]
    by_cases c1 : 0 < bRow s r y j
    · rw [if_pos c1]
      by_cases c2 : bRow s r y j = bEmp (bdM (v (t + 1))) j
      · rw [if_pos c2, if_pos (show 0 < bRow s r y j ∧ bRow s r y j = bEmp (bdM (v (t + 1))) j from ⟨c1, c2⟩)]
      · rw [if_neg c2, if_neg fun q => c2 q.2, Int.add_zero]
    · rw [if_neg c1, if_neg fun q => c1 q.1, Int.add_zero]
  have h := loop_sum (F := fun a i => run M_TM_points 18 [vA t, vI s, vI r, vI x, vI y, vI a, vI i, vN, vN] [] g v) (f := fun j => if 0 < bRow s r y j ∧ bRow s r y j = bEmp (bdM (v (t + 1))) j then v (t + 1) 0 else 0) (n := v (t + 1) 1) (b := 8) (c := sz s) h8.1 (by omega) (fun i _ _ => by
      split <;> omega) (fun a i h0 h1 h2 h3 => by
    show run M_TM_points 18 [vA t, vI s, vI r, vI x, vI y, vI a, vI i, vN, vN] [] g v = _
    rw [R_TM_points_18, gd_O hk.1, gd_R hk.2.1 (by omega) (by omega), if_pos h1]
    exact row a i (by omega) (by omega) h0 h1)
  refine Eq.trans h ?_
  rw [R_TM_points_18, gd_O hk.1, gd_R hk.2.1 (by omega) (by omega), if_neg (by omega)]
  rfl
end
