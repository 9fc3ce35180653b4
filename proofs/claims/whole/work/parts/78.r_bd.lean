/-! ===== the reference: its board, where pieces fit ===== -/
def enc (v : Int) : Int := if v = 0 then -1 else if v = 1 then -2 else v - 2
def bdM (m : Int → Int) : Bd := (m 0, m 1, cl 64 (fun j => enc (m (33 + j))), cl 128 (fun k => m (97 + 64 * (k % 2) + k / 2)))
def mOk (m : Int → Int) : Prop := (0 ≤ m 0 ∧ m 0 ≤ 8) ∧ (0 ≤ m 1 ∧ m 1 ≤ 8) ∧ (∀ j : Int, 0 ≤ j → j < 64 → 0 ≤ m (33 + j) ∧ m (33 + j) ≤ 100) ∧ ∀ j : Int, 0 ≤ j → j < 128 → m (97 + j) = 0 ∨ m (97 + j) = 1
def kTM (g : PG) (t : Nat) : Prop := KA g t (1, 11, 0) ∧ KA g (t + 1) (2, 0, 417) ∧ KA g (t + 9) (2, 0, 4) ∧ KA g (t + 10) (2, 0, 4)
/-- what the reference's questions may change -/
def Fm (t : Nat) (u u' : PM) : Prop := ∀ (a : Nat) (k : Int), ¬ (a = t ∧ k = 17) → a ≠ t + 9 → a ≠ t + 10 → u' a k = u a k
theorem Fm.rfl' {t : Nat} {u : PM} : Fm t u u := fun _ _ _ _ _ => rfl
theorem Fm.tr {t : Nat} {u v x : PM} (h : Fm t u v) (h' : Fm t v x) : Fm t u x := fun a k h1 h2 h3 => (h' a k h1 h2 h3).trans (h a k h1 h2 h3)
theorem Fm.s {t : Nat} {u v : PM} (h : Fm t u v) : v (t + 1) = u (t + 1) := funext fun k => h _ k (by omega) (by omega) (by omega)
theorem bdM_cell {m : Int → Int} (ho : mOk m) {x y : Int} (h : bIn (bdM m) x y) : bCell (bdM m) x y = enc (m (33 + (8 * y + x))) := by
  obtain ⟨h1, h2, -⟩ := ho
  unfold bCell
  rw [if_pos h]
  obtain ⟨⟨q1, q2⟩, q3, q4⟩ := h
  have q2' : x < m 0 := q2
  have q4' : y < m 1 := q4
  show cl 64 (fun j => enc (m (33 + j))) (8 * y + x) = _
  rw [cl_in (by omega) (by omega)]
theorem bdM_strap {m : Int → Int} (ho : mOk m) {x y s : Int} (h : bIn (bdM m) x y) (h0 : 0 ≤ s) (hs : s < 2) : bStrap (bdM m) x y s = m (97 + (64 * s + (8 * y + x))) := by
  obtain ⟨h1, h2, -⟩ := ho
  unfold bStrap
  rw [if_pos ⟨h, h0, hs⟩]
  obtain ⟨⟨q1, q2⟩, q3, q4⟩ := h
  have q2' : x < m 0 := q2
  have q4' : y < m 1 := q4
  show cl 128 (fun k => m (97 + 64 * (k % 2) + k / 2)) (2 * (8 * y + x) + s) = _
  rw [cl_in (by omega) (by omega)]
  exact congrArg m (by omega)
theorem enc_eq {v : Int} (h : 0 ≤ v) : (enc v = -1 ↔ v = 0) ∧ (enc v = -2 ↔ v = 1) ∧ (0 ≤ enc v ↔ 2 ≤ v) ∧ enc v ≠ -3 := by
  unfold enc
  split
  · omega
  · split <;> omega
def SpT (u : PM) (t : Nat) (s r x y : Int) : Prop := u t 17 = sz s ∧ ∀ i : Int, 0 ≤ i → i < sz s → u (t + 9) i = pX s r x i ∧ u (t + 10) i = pY s r y i
theorem szdxy : ∀ s : Nat, s < 5 → (if (s : Int) = 0 then (2 : Int) else if (s : Int) < 3 then 3 else 4) = sz s ∧ ∀ i : Nat, i < 4 → (i : Int) < sz s → (if (s : Int) < 1 ∨ 4 < (s : Int) then (i : Int) else if (s : Int) = 1 then rem2 i 2 else if (s : Int) = 2 then i else if (s : Int) = 3 then rem2 i 2 else if (i : Int) = 3 then 0 else i) = bR s i ∧ (if (s : Int) = 1 then div2 i 2 else if (s : Int) = 3 then div2 i 2 else if (s : Int) = 4 then if (i : Int) = 3 then 1 else 0 else 0) = bD s i := by decide +kernel
section
variable {g : PG} {u : PM} {t : Nat} {s r x y : Int}
theorem TM_sizeOf (h0 : 0 ≤ s) (h1 : s < 5) : call M_TM_sizeOf [vI s] g u = some (0, vI (sz s), g, u) := by
  have h := (szdxy s.toNat (by omega)).1
  rw [show ((s.toNat : Nat) : Int) = s by omega] at h
  rw [C_TM_sizeOf, ← h]
  repeat' split
  all_goals rfl
theorem TM_dx (h0 : 0 ≤ s) (h1 : s < 5) {i : Int} (h2 : 0 ≤ i) (h3 : i < sz s) : call M_TM_dx [vI s, vI i] g u = some (0, vI (bR s i), g, u) := by
  have hz := sz_bd h0 h1
  have h := ((szdxy s.toNat (by omega)).2 i.toNat (by omega) (by rw [show ((s.toNat : Nat) : Int) = s by omega]; omega)).1
  rw [show ((s.toNat : Nat) : Int) = s by omega, show ((i.toNat : Nat) : Int) = i by omega] at h
  rw [C_TM_dx, ← h]
  repeat' split
  all_goals first | rfl | omega
theorem TM_dy (h0 : 0 ≤ s) (h1 : s < 5) {i : Int} (h2 : 0 ≤ i) (h3 : i < sz s) : call M_TM_dy [vI s, vI i] g u = some (0, vI (bD s i), g, u) := by
  have hz := sz_bd h0 h1
  have h := ((szdxy s.toNat (by omega)).2 i.toNat (by omega) (by rw [show ((s.toNat : Nat) : Int) = s by omega]; omega)).2
  rw [show ((s.toNat : Nat) : Int) = s by omega, show ((i.toNat : Nat) : Int) = i by omega] at h
  rw [C_TM_dy, ← h]
  repeat' split
  all_goals first | rfl | omega
theorem TM_sp39 (hk : kTM g t) (hr : 0 ≤ r ∧ r < 4) (hx : -100 ≤ x ∧ x ≤ 100) (hy : -100 ≤ y ∧ y ≤ 100) {c a b : Int} (hc : 0 ≤ c) (hc2 : c < 4) (ha : -2 ≤ a ∧ a ≤ 2) (hb : -2 ≤ b ∧ b ≤ 2) (s : Int) :
    run M_TM_spreads 39 [vA t, vI s, vI r, vI x, vI y, vI c, vI a, vI b, vI 0, vN] [] g u = run M_TM_spreads 11 [vA t, vI s, vI r, vI x, vI y, vI (c + 1), vN, vN, vN, vN] [] g (up (up u (t + 9) c (x + rotR r a b)) (t + 10) c (y + rotD r a b)) := by
  obtain ⟨k0, k1, k2, k3⟩ := hk
  have w1 : w (c + 1) = c + 1 := w_id (by omega) (by omega)
  have wa : w (-a) = -a := w_id (by omega) (by omega)
  have wb : w (-b) = -b := w_id (by omega) (by omega)
  have wbb : w (- -b) = b := by rw [w_id (by omega) (by omega)]; omega
  have e1 : w (0 + 1) = 1 := rfl
  have e2 : w (1 + 1) = 2 := rfl
  have e3 : w (2 + 1) = 3 := rfl
  have fin : ∀ (q a b : Int), -2 ≤ a ∧ a ≤ 2 → -2 ≤ b ∧ b ≤ 2 → q = r → run M_TM_spreads 39 [vA t, vI s, vI r, vI x, vI y, vI c, vI a, vI b, vI q, vN] [] g u = run M_TM_spreads 11 [vA t, vI s, vI r, vI x, vI y, vI (c + 1), vN, vN, vN, vN] [] g (up (up u (t + 9) c (x + a)) (t + 10) c (y + b)) := by
    intro q a b ha hb hq
    rw [R_TM_spreads_39, if_neg (by omega), gd_O k0, gd_W k2 hc (by omega), gd_O k0, gd_W k3 hc (by omega), w1, w_id (x := x + a) (by omega) (by omega), w_id (x := y + b) (by omega) (by omega)]
  have h4 : r = 0 ∨ r = 1 ∨ r = 2 ∨ r = 3 := by omega
  rcases h4 with rfl | rfl | rfl | rfl
  · rw [fin 0 a b ha hb rfl]; rfl
  · rw [R_TM_spreads_39, if_pos (by decide), e1, wb, fin 1 _ _ (by omega) (by omega) rfl]; rfl
  · rw [R_TM_spreads_39, if_pos (by decide), e1, wb, R_TM_spreads_39, if_pos (by decide), e2, wa, fin 2 _ _ (by omega) (by omega) rfl]; rfl
  · rw [R_TM_spreads_39, if_pos (by decide), e1, wb, R_TM_spreads_39, if_pos (by decide), e2, wa, R_TM_spreads_39, if_pos (by decide), e3, wbb, fin 3 _ _ (by omega) (by omega) rfl]; rfl
theorem bRD_bd (s i : Int) : (-2 ≤ bR s i ∧ bR s i ≤ 2) ∧ -2 ≤ bD s i ∧ bD s i ≤ 2 := by
  have a := tR_bd (4 * s + i).toNat
  have b := tD_bd (4 * s + i).toNat
  unfold bR bD
  omega
theorem TM_spreads (hk : kTM g t) (hs : 0 ≤ s ∧ s < 5) (hr : 0 ≤ r ∧ r < 4) (hx : -100 ≤ x ∧ x ≤ 100) (hy : -100 ≤ y ∧ y ≤ 100) : ∃ u', call M_TM_spreads [vA t, vI s, vI r, vI x, vI y] g u = some (0, vN, g, u') ∧ SpT u' t s r x y ∧ Fm t u u' := by
  have hz := sz_bd hs.1 hs.2
  have key : ∀ (d : Nat) (i : Int) (v : PM), 0 ≤ i → i + d = sz s → v t 17 = sz s → (∀ j : Int, 0 ≤ j → j < i → v (t + 9) j = pX s r x j ∧ v (t + 10) j = pY s r y j) → Fm t u v → ∃ u', run M_TM_spreads 11 [vA t, vI s, vI r, vI x, vI y, vI i, vN, vN, vN, vN] [] g v = some (0, vN, g, u') ∧ SpT u' t s r x y ∧ Fm t u u' := by
    intro d
    induction d with
    | zero =>
      intro i v h0 h1 hv hj hF
      refine ⟨v, ?_, ⟨hv, fun j j0 j1 => hj j j0 (by omega)⟩, hF⟩
      rw [R_TM_spreads_11, gd_O hk.1, if_neg (by omega)]
    | succ d ih =>
      intro i v h0 h1 hv hj hF
      rw [R_TM_spreads_11, gd_O hk.1, if_pos (by omega), TM_dx hs.1 hs.2 h0 (by omega), cI_some, TM_dy hs.1 hs.2 h0 (by omega), cI_some, TM_sp39 hk hr hx hy h0 (by omega) (bRD_bd s i).1 (bRD_bd s i).2]
      refine ih (i + 1) _ (by omega) (by omega) ?_ (fun j j0 j1 => ?_) (fun a k a1 a2 a3 => ?_)
      · rw [up_o (by omega), up_o (by omega)]; exact hv
      · by_cases e : j = i
        · subst e
          constructor
          · rw [up_o (by omega), up_s]; rfl
          · rw [up_s]; rfl
        · constructor
          · rw [up_o (by omega), up_j e]; exact (hj j j0 (by omega)).1
          · rw [up_j e, up_o (by omega)]; exact (hj j j0 (by omega)).2
      · rw [up_o a3, up_o a2]; exact hF a k a1 a2 a3
  rw [C_TM_spreads, TM_sizeOf hs.1 hs.2, cI_some, gd_O hk.1]
  exact key (sz s).toNat 0 _ (by omega) (by omega) (up_s ..) (fun j j0 j1 => by omega) (fun a k a1 a2 a3 => up_n (by omega))
theorem TM_isIn (a b c : Int) : call M_TM_isIn [vI a, vI b, vI c] g u = some (0, vI (bI (b ≤ a ∧ a ≤ c)), g, u) := by
  rw [C_TM_isIn]
  by_cases h : a < b
  · rw [if_pos h, bI_f (by omega)]
  · rw [if_neg h]
    by_cases h2 : c < a
    · rw [if_pos h2, bI_f (by omega)]
    · rw [if_neg h2, bI_t (by omega)]
theorem TM_isInside (hk : kTM g t) (ho : mOk (u (t + 1))) (x y : Int) : call M_TM_isInside [vA t, vI x, vI y] g u = some (0, vI (bI (bIn (bdM (u (t + 1))) x y)), g, u) := by
  obtain ⟨h1, h2, -⟩ := ho
  rw [C_TM_isInside, gd_O hk.1, gd_R hk.2.1 (by omega) (by omega), TM_isIn, cI_some]
  simp only [gd_O hk.1]
  rw [gd_R hk.2.1 (by omega) (by omega), TM_isIn, cI_some, w_id (x := u (t + 1) 0 - 1) (by omega) (by omega), w_id (x := u (t + 1) 1 - 1) (by omega) (by omega)]
  show _ = some (0, vI (bI ((0 ≤ x ∧ x < u (t + 1) 0) ∧ 0 ≤ y ∧ y < u (t + 1) 1)), g, u)
  by_cases hx : 0 ≤ x ∧ x ≤ u (t + 1) 0 - 1
  · rw [bI_t hx, if_neg (by omega)]
    by_cases hy : 0 ≤ y ∧ y ≤ u (t + 1) 1 - 1
    · rw [bI_t hy, if_neg (by omega), bI_t (by omega)]
    · rw [bI_f hy, if_pos rfl, bI_f (by omega)]
  · rw [bI_f hx, if_pos rfl, bI_f (by omega)]
theorem TM_at (hx : -1000 ≤ x ∧ x ≤ 1000) (hy : -1000 ≤ y ∧ y ≤ 1000) : call M_TM_at [vI x, vI y] g u = some (0, vI (8 * y + x), g, u) := by
  rw [C_TM_at, w_id (x := 8 * y) (by omega) (by omega), w_id (by omega) (by omega)]
theorem bIn_bd {m : Int → Int} (ho : mOk m) (h : bIn (bdM m) x y) : (0 ≤ x ∧ x < 8) ∧ 0 ≤ y ∧ y < 8 := by
  obtain ⟨h1, h2, -⟩ := ho
  obtain ⟨⟨q1, q2⟩, q3, q4⟩ := h
  have q2' : x < m 0 := q2
  have q4' : y < m 1 := q4
  omega
theorem TM_cell (hk : kTM g t) (ho : mOk (u (t + 1))) (h : bIn (bdM (u (t + 1))) x y) : call M_TM_cell [vA t, vI x, vI y] g u = some (0, vI (u (t + 1) (33 + (8 * y + x))), g, u) := by
  have hb := bIn_bd ho h
  rw [C_TM_cell, gd_O hk.1, TM_at (by omega) (by omega), cI_some, w_id (x := 33 + (8 * y + x)) (by omega) (by omega), gd_R hk.2.1 (by omega) (by omega)]
theorem TM_isEmpty (hk : kTM g t) (ho : mOk (u (t + 1))) (x y : Int) : call M_TM_isEmpty [vA t, vI x, vI y] g u = some (0, vI (bI (bCell (bdM (u (t + 1))) x y = -1)), g, u) := by
  rw [C_TM_isEmpty, gd_O hk.1, TM_isInside hk ho, cI_some]
  by_cases h : bIn (bdM (u (t + 1))) x y
  · rw [bI_t h, if_neg (by omega), gd_O hk.1, TM_cell hk ho h, cI_some, bdM_cell ho h]
    have hb := bIn_bd ho h
    have hc := ho.2.2.1 (8 * y + x) (by omega) (by omega)
    by_cases h2 : u (t + 1) (33 + (8 * y + x)) = 0
    · rw [if_pos h2, bI_t ((enc_eq hc.1).1.mpr h2)]
    · rw [if_neg h2, bI_f fun q => h2 ((enc_eq hc.1).1.mp q)]
  · rw [bI_f h, if_pos rfl, bI_f]
    unfold bCell
    rw [if_neg h]
    decide
theorem TM_pieceOf (hk : kTM g t) (ho : mOk (u (t + 1))) (h : bIn (bdM (u (t + 1))) x y) : call M_TM_pieceOf [vA t, vI x, vI y] g u = some (0, vI (if 0 ≤ bCell (bdM (u (t + 1))) x y then bCell (bdM (u (t + 1))) x y else -1), g, u) := by
  have hb := bIn_bd ho h
  have hc := ho.2.2.1 (8 * y + x) (by omega) (by omega)
  have he := (enc_eq hc.1).2.2.1
  rw [C_TM_pieceOf, gd_O hk.1, TM_cell hk ho h, cI_some, gd_O hk.1, TM_cell hk ho h, cI_some, bdM_cell ho h]
  by_cases h2 : u (t + 1) (33 + (8 * y + x)) < 2
  · rw [if_pos h2, if_neg (by omega)]
  · rw [if_neg h2, if_pos (by omega), w_id (by omega) (by omega)]
    unfold enc
    rw [if_neg (by omega), if_neg (by omega)]
theorem TM_edge (hx : 0 ≤ x ∧ x < 8) (hy : 0 ≤ y ∧ y < 8) {s : Int} (hs : s = 0 ∨ s = 1) : call M_TM_edge [vI x, vI y, vI s] g u = some (0, vI (97 + (64 * s + (8 * y + x))), g, u) := by
  rw [C_TM_edge]
  rcases hs with rfl | rfl
  · rw [if_pos rfl, R_TM_edge_12, TM_at (by omega) (by omega), cI_some, w_id (by omega) (by omega)]
    rw [show 97 + (8 * y + x) = 97 + (64 * 0 + (8 * y + x)) by omega]
  · rw [if_neg (by decide), R_TM_edge_12, TM_at (by omega) (by omega), cI_some, w_id (by omega) (by omega)]
    rw [show 161 + (8 * y + x) = 97 + (64 * 1 + (8 * y + x)) by omega]
theorem bIn_min {B : Bd} {x y x' y' : Int} (h : bIn B x y) (h' : bIn B x' y') : bIn B (min2 x x') (min2 y y') := by
  obtain ⟨⟨a1, a2⟩, a3, a4⟩ := h
  obtain ⟨⟨b1, b2⟩, b3, b4⟩ := h'
  unfold min2
  refine ⟨⟨?_, ?_⟩, ?_, ?_⟩ <;> split <;> omega
theorem TM_isStrapped (hk : kTM g t) (ho : mOk (u (t + 1))) {x y x' y' : Int} (h : bIn (bdM (u (t + 1))) (min2 x x') (min2 y y')) : call M_TM_isStrapped [vA t, vI x, vI y, vI x', vI y'] g u = some (0, vI (bI (bStrap (bdM (u (t + 1))) (min2 x x') (min2 y y') (if y = y' then 0 else 1) ≠ 0)), g, u) := by
  have hb := bIn_bd ho h
  have key : ∀ e : Int, e = 0 ∨ e = 1 → run M_TM_isStrapped 26 [vA t, vI x, vI y, vI x', vI y'] [vI e, vI (min2 y y'), vI (min2 x x'), vA (t + 1)] g u = some (0, vI (bI (bStrap (bdM (u (t + 1))) (min2 x x') (min2 y y') e ≠ 0)), g, u) := by
    intro e he
    have hm := ho.2.2.2 (64 * e + (8 * min2 y y' + min2 x x')) (by omega) (by omega)
    rw [R_TM_isStrapped_26, TM_edge hb.1 hb.2 he, cI_some, gd_R hk.2.1 (by omega) (by omega), bdM_strap ho h (by omega) (by omega)]
    rcases hm with h0 | h1
    · rw [h0, if_neg (by omega)]; rfl
    · rw [h1, if_pos rfl]; rfl
  rw [C_TM_isStrapped, gd_O hk.1]
  by_cases hy : y = y'
  · rw [if_pos hy, if_pos hy, key 0 (Or.inl rfl)]
  · rw [if_neg hy, if_neg hy, key 1 (Or.inr rfl)]
end
