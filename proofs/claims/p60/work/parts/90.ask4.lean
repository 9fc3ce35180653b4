/-! ===== straps counted alike; pieces asked for, on both sides ===== -/
theorem sumI_pair {h : Int → Int} : ∀ n : Nat, sumI h (2 * n) = sumI (fun j => h (2 * j) + h (2 * j + 1)) n
  | 0 => rfl
  | n + 1 => by
    rw [show 2 * (n + 1) = 2 * n + 1 + 1 by omega]
    simp only [sumI]
    rw [sumI_pair n, show ((2 * n + 1 : Nat) : Int) = 2 * (n : Int) + 1 by omega, show ((2 * n : Nat) : Int) = 2 * (n : Int) by omega]
    omega
theorem sumI_split {h : Int → Int} (m : Nat) : ∀ n : Nat, sumI h (m + n) = sumI h m + sumI (fun j => h (m + j)) n
  | 0 => by simp [sumI]
  | n + 1 => by
    rw [show m + (n + 1) = m + n + 1 by omega]
    simp only [sumI]
    rw [sumI_split m n, show ((m + n : Nat) : Int) = (m : Int) + (n : Int) by omega]
    omega
theorem bStn_M {m : Int → Int} (ho : mOk m) : bStn (bdM m) = sumI (fun j => m (97 + j)) 128 := by
  unfold bStn
  have e : sumI (fun k => bI ((bdM m).2.2.2 k ≠ 0)) 128 = sumI (fun k => m (97 + 64 * (k % 2) + k / 2)) 128 := sumI_congr fun k k0 k1 => by
    show bI (cl 128 (fun k => m (97 + 64 * (k % 2) + k / 2)) k ≠ 0) = _
    rw [cl_in k0 (show k < 128 from k1)]
    have := ho.2.2.2 (64 * (k % 2) + k / 2) (by omega) (by omega)
    rw [show 97 + 64 * (k % 2) + k / 2 = 97 + (64 * (k % 2) + k / 2) by omega]
    rcases this with e | e <;> rw [e] <;> rfl
  rw [e, show (128 : Nat) = 2 * 64 from rfl, sumI_pair, show (2 * 64 : Nat) = 64 + 64 from rfl, sumI_split, ← sumI_add]
  exact sumI_congr fun j j0 j1 => by
    have e1 : 97 + 64 * (2 * j % 2) + 2 * j / 2 = 97 + j := by omega
    have e2 : 97 + 64 * ((2 * j + 1) % 2) + (2 * j + 1) / 2 = 97 + ((64 : Nat) + j) := by omega
    rw [e1, e2]
section
variable {g : PG} {u : PM} {t : Nat} {k : Int}
def ePi (A : AS) (k : Int) : Nat := if 0 ≤ k ∧ k < A.n then 0 else 2
theorem AnM_pass {c : Option PO} {e v : Int} (h : AnM g u t c e v) (f : Int → PG → PM → Option PO) (hf : ∀ x g u, f x g u = some (0, vI x, g, u)) : AnM g u t (cI c f noX) e v := by
  obtain ⟨u', h1, h2, h3⟩ := h
  exact ⟨u', by rw [h1, cI_some, hf], h2, h3⟩
theorem TD_piece (hk : kTD g t) (k : Int) : call M_TD_requirePiece [vA t, vI k] g u = if ePi (absT u (t + 26)) k = 0 then some (0, vN, g, u) else some (ePi (absT u (t + 26)) k, vN, gX g, u) := by
  rw [C_TD_requirePiece]
  simp only [gd_O hk.1, gd_O hk.2.1.1, gd_O hk.2.1.2.2.1.1]
  by_cases h0 : k < 0
  · rw [if_pos h0, show ePi (absT u (t + 26)) k = 2 from if_neg (show ¬ (0 ≤ k ∧ k < u (t + 26 + 4) 0) by omega)]; rfl
  · rw [if_neg h0]
    by_cases h1 : k < u (t + 26 + 4) 0
    · rw [if_pos h1, show ePi (absT u (t + 26)) k = 0 from if_pos (show 0 ≤ k ∧ k < u (t + 26 + 4) 0 by omega)]; rfl
    · rw [if_neg h1, show ePi (absT u (t + 26)) k = 2 from if_neg (show ¬ (0 ≤ k ∧ k < u (t + 26 + 4) 0) by omega)]; rfl
/-- the same, whatever the field -/
theorem TD_ofPiece (hk : kTD g t) (ho : nOk (absT u (t + 26))) (k : Int) {i : Nat} (hi : i < 6) {c : Option PO} {mc : Option PO} (hc : c = cV (call M_TD_requirePiece [vA t, vI k] g u) (fun g1 u2 => bif pW t && pO (pK g1 t) 10 then (bif pW (t + 26) && pO (pK g1 (t + 26)) 8 then (bif pW ((t + 26) + 4) && pO (pK g1 ((t + 26) + 4)) 4 then mc else none) else none) else none) (fun i g u => some (i + 1, vN, g, u))) (hm : 0 ≤ k → k < u (t + 26 + 4) 0 → mc = some (0, vI (u (t + 26 + 5 + i) k), g, u)) :
    AnT g u t c (ePi (absT u (t + 26)) k) ((absT u (t + 26)).pc i k) := by
  refine ⟨u, Fr.rfl', ?_⟩
  rw [hc, TD_piece hk]
  by_cases h : 0 ≤ k ∧ k < u (t + 26 + 4) 0
  · have he : ePi (absT u (t + 26)) k = 0 := if_pos h
    rw [if_pos he, if_pos he, cV_some, gd_O hk.1, gd_O hk.2.1.1, gd_O hk.2.1.2.2.1.1, hm h.1 h.2]
    show _ = some (0, vI (pcT u (t + 26) i k), g, u)
    unfold pcT
    rw [if_pos hi, cl_in h.1 h.2]
  · have he : ePi (absT u (t + 26)) k ≠ 0 := by
      unfold ePi
      rw [if_neg (show ¬ (0 ≤ k ∧ k < (absT u (t + 26)).n) from h)]
      decide
    rw [if_neg he, if_neg he, ex_pass he, show ePi (absT u (t + 26)) k - 1 + 1 = ePi (absT u (t + 26)) k by omega]
theorem TD_pieceShape (hk : kTD g t) (ho : nOk (absT u (t + 26))) (k : Int) : AnT g u t (call M_TD_pieceShape [vA t, vI k] g u) (ePi (absT u (t + 26)) k) ((absT u (t + 26)).pc 0 k) := by
  have hn : 0 ≤ u (t + 26 + 4) 0 ∧ u (t + 26 + 4) 0 ≤ 32 := ho.1
  refine TD_ofPiece hk ho k (i := 0) (by decide) (mc := some (0, vI (u (t + 26 + 5 + 0) k), g, u)) ?_ (fun _ _ => rfl)
  rw [C_TD_pieceShape, gd_O hk.1, TD_piece hk]
  by_cases he : ePi (absT u (t + 26)) k = 0
  · have h : 0 ≤ k ∧ k < u (t + 26 + 4) 0 := by
      by_cases q : 0 ≤ k ∧ k < u (t + 26 + 4) 0
      · exact q
      · rw [show ePi (absT u (t + 26)) k = 2 from if_neg q] at he; cases he
    rw [if_pos he, cV_some, cV_some, C_Pi_shapeOf]
    simp only [gd_O hk.2.1.2.2.1.1, Pi_has hk.2.1.2.2.1, cI_some]
    rw [bI_t h, if_neg (by decide), gd_R hk.2.1.2.2.1.2.1 h.1 (by omega), cI_some]
  · rw [if_neg he, ex_pass he, ex_pass he]
theorem TD_pieceRotation (hk : kTD g t) (ho : nOk (absT u (t + 26))) (k : Int) : AnT g u t (call M_TD_pieceRotation [vA t, vI k] g u) (ePi (absT u (t + 26)) k) ((absT u (t + 26)).pc 1 k) := by
  have hn : 0 ≤ u (t + 26 + 4) 0 ∧ u (t + 26 + 4) 0 ≤ 32 := ho.1
  refine TD_ofPiece hk ho k (i := 1) (by decide) (mc := some (0, vI (u (t + 26 + 5 + 1) k), g, u)) ?_ (fun _ _ => rfl)
  rw [C_TD_pieceRotation, gd_O hk.1, TD_piece hk]
  by_cases he : ePi (absT u (t + 26)) k = 0
  · have h : 0 ≤ k ∧ k < u (t + 26 + 4) 0 := by
      by_cases q : 0 ≤ k ∧ k < u (t + 26 + 4) 0
      · exact q
      · rw [show ePi (absT u (t + 26)) k = 2 from if_neg q] at he; cases he
    rw [if_pos he, cV_some, cV_some, C_Pi_rotationOf]
    simp only [gd_O hk.2.1.2.2.1.1, Pi_has hk.2.1.2.2.1, cI_some]
    rw [bI_t h, if_neg (by decide), gd_R hk.2.1.2.2.1.2.2.1 h.1 (by omega), cI_some]
  · rw [if_neg he, ex_pass he, ex_pass he]
theorem TD_pieceColumn (hk : kTD g t) (ho : nOk (absT u (t + 26))) (k : Int) : AnT g u t (call M_TD_pieceColumn [vA t, vI k] g u) (ePi (absT u (t + 26)) k) ((absT u (t + 26)).pc 2 k) := by
  have hn : 0 ≤ u (t + 26 + 4) 0 ∧ u (t + 26 + 4) 0 ≤ 32 := ho.1
  refine TD_ofPiece hk ho k (i := 2) (by decide) (mc := some (0, vI (u (t + 26 + 5 + 2) k), g, u)) ?_ (fun _ _ => rfl)
  rw [C_TD_pieceColumn, gd_O hk.1, TD_piece hk]
  by_cases he : ePi (absT u (t + 26)) k = 0
  · have h : 0 ≤ k ∧ k < u (t + 26 + 4) 0 := by
      by_cases q : 0 ≤ k ∧ k < u (t + 26 + 4) 0
      · exact q
      · rw [show ePi (absT u (t + 26)) k = 2 from if_neg q] at he; cases he
    rw [if_pos he, cV_some, cV_some, C_Pi_anchorColumnOf]
    simp only [gd_O hk.2.1.2.2.1.1, Pi_has hk.2.1.2.2.1, cI_some]
    rw [bI_t h, if_neg (by decide), gd_R hk.2.1.2.2.1.2.2.2.1 h.1 (by omega), cI_some]
  · rw [if_neg he, ex_pass he, ex_pass he]
theorem TD_pieceRow (hk : kTD g t) (ho : nOk (absT u (t + 26))) (k : Int) : AnT g u t (call M_TD_pieceRow [vA t, vI k] g u) (ePi (absT u (t + 26)) k) ((absT u (t + 26)).pc 3 k) := by
  have hn : 0 ≤ u (t + 26 + 4) 0 ∧ u (t + 26 + 4) 0 ≤ 32 := ho.1
  refine TD_ofPiece hk ho k (i := 3) (by decide) (mc := some (0, vI (u (t + 26 + 5 + 3) k), g, u)) ?_ (fun _ _ => rfl)
  rw [C_TD_pieceRow, gd_O hk.1, TD_piece hk]
  by_cases he : ePi (absT u (t + 26)) k = 0
  · have h : 0 ≤ k ∧ k < u (t + 26 + 4) 0 := by
      by_cases q : 0 ≤ k ∧ k < u (t + 26 + 4) 0
      · exact q
      · rw [show ePi (absT u (t + 26)) k = 2 from if_neg q] at he; cases he
    rw [if_pos he, cV_some, cV_some, C_Pi_anchorRowOf]
    simp only [gd_O hk.2.1.2.2.1.1, Pi_has hk.2.1.2.2.1, cI_some]
    rw [bI_t h, if_neg (by decide), gd_R hk.2.1.2.2.1.2.2.2.2.1 h.1 (by omega), cI_some]
  · rw [if_neg he, ex_pass he, ex_pass he]
theorem TD_pieceOwner (hk : kTD g t) (ho : nOk (absT u (t + 26))) (k : Int) : AnT g u t (call M_TD_pieceOwner [vA t, vI k] g u) (ePi (absT u (t + 26)) k) ((absT u (t + 26)).pc 4 k) := by
  have hn : 0 ≤ u (t + 26 + 4) 0 ∧ u (t + 26 + 4) 0 ≤ 32 := ho.1
  refine TD_ofPiece hk ho k (i := 4) (by decide) (mc := some (0, vI (u (t + 26 + 5 + 4) k), g, u)) ?_ (fun _ _ => rfl)
  rw [C_TD_pieceOwner, gd_O hk.1, TD_piece hk]
  by_cases he : ePi (absT u (t + 26)) k = 0
  · have h : 0 ≤ k ∧ k < u (t + 26 + 4) 0 := by
      by_cases q : 0 ≤ k ∧ k < u (t + 26 + 4) 0
      · exact q
      · rw [show ePi (absT u (t + 26)) k = 2 from if_neg q] at he; cases he
    rw [if_pos he, cV_some, cV_some, C_Pi_ownerOf]
    simp only [gd_O hk.2.1.2.2.1.1, Pi_has hk.2.1.2.2.1, cI_some]
    rw [bI_t h, if_neg (by decide), gd_R hk.2.1.2.2.1.2.2.2.2.2.1 h.1 (by omega), cI_some]
  · rw [if_neg he, ex_pass he, ex_pass he]
theorem TD_piecePoints (hk : kTD g t) (ho : nOk (absT u (t + 26))) (k : Int) : AnT g u t (call M_TD_piecePoints [vA t, vI k] g u) (ePi (absT u (t + 26)) k) ((absT u (t + 26)).pc 5 k) := by
  have hn : 0 ≤ u (t + 26 + 4) 0 ∧ u (t + 26 + 4) 0 ≤ 32 := ho.1
  refine TD_ofPiece hk ho k (i := 5) (by decide) (mc := some (0, vI (u (t + 26 + 5 + 5) k), g, u)) ?_ (fun _ _ => rfl)
  rw [C_TD_piecePoints, gd_O hk.1, TD_piece hk]
  by_cases he : ePi (absT u (t + 26)) k = 0
  · have h : 0 ≤ k ∧ k < u (t + 26 + 4) 0 := by
      by_cases q : 0 ≤ k ∧ k < u (t + 26 + 4) 0
      · exact q
      · rw [show ePi (absT u (t + 26)) k = 2 from if_neg q] at he; cases he
    rw [if_pos he, cV_some, cV_some, C_Pi_pointsOf]
    simp only [gd_O hk.2.1.2.2.1.1, Pi_has hk.2.1.2.2.1, cI_some]
    rw [bI_t h, if_neg (by decide), gd_R hk.2.1.2.2.1.2.2.2.2.2.2 h.1 (by omega), cI_some]
  · rw [if_neg he, ex_pass he, ex_pass he]
end
