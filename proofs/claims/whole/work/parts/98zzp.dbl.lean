/-! ===== coverage, mean region ===== -/
theorem n64_ok : ∀ a : Nat, a < 65 → ∀ b : Nat, b < 65 → 0 < b → n64 (FP.ddiv (UInt64.ofNat (i2d2 a)) (UInt64.ofNat (i2d2 b))) = true := by decide +kernel
theorem n32_ok : ∀ a : Nat, a < 65 → ∀ b : Nat, b < 65 → 0 < b → n32 (FP.fdiv (UInt32.ofNat (i2f2 a)) (UInt32.ofNat (i2f2 b))) = true := by decide +kernel
theorem n64_i {a b : Int} (h0 : 0 ≤ a) (h1 : a ≤ 64) (h2 : 0 < b) (h3 : b ≤ 64) : n64 (FP.ddiv (UInt64.ofNat (i2d2 a)) (UInt64.ofNat (i2d2 b))) = true := by
  have := n64_ok a.toNat (by omega) b.toNat (by omega) (by omega)
  rw [show ((a.toNat : Nat) : Int) = a by omega, show ((b.toNat : Nat) : Int) = b by omega] at this
  exact this
theorem n32_i {a b : Int} (h0 : 0 ≤ a) (h1 : a ≤ 64) (h2 : 0 < b) (h3 : b ≤ 64) : n32 (FP.fdiv (UInt32.ofNat (i2f2 a)) (UInt32.ofNat (i2f2 b))) = true := by
  have := n32_ok a.toNat (by omega) b.toNat (by omega) (by omega)
  rw [show ((a.toNat : Nat) : Int) = a by omega, show ((b.toNat : Nat) : Int) = b by omega] at this
  exact this
/-- the bits of the answers -/
def aCov (B : Bd) : Nat := if bCov B + bCnt B (-1) = 0 then FP.dconst0.toNat else ddiv2 (i2d2 (bCov B)) (i2d2 (bCov B + bCnt B (-1)))
def aMean (B : Bd) (n : Int) : Nat := if n = 0 then FP.fconst0.toNat else fdiv2 (i2f2 (bCnt B (-1))) (i2f2 n)
section
variable {g : PG} {u : PM} {t : Nat}
theorem TD_coverage (h : pOk2 g u t) (hc : cOk (absT u (t + 26)).bd) : call M_TD_coverage [vA t] g u = some (0, vD (aCov (absT u (t + 26)).bd), g, u) := by
  have hcv := bCov_sum h.2.1 hc
  have hce := bCnt_bd h.2.1.1 h.2.1.2.1 (-1)
  have hcb := bCnt_bd h.2.1.1 h.2.1.2.1 (-2)
  have hto : tOk u (t + 26 + 1) := tOk_of h.2.1
  have hle : bCov (absT u (t + 26)).bd + bCnt (absT u (t + 26)).bd (-1) ≤ 64 := by
    have e : bCov (absT u (t + 26)).bd + bCnt (absT u (t + 26)).bd (-1) = (absT u (t + 26)).bd.1 * (absT u (t + 26)).bd.2.1 - bCnt (absT u (t + 26)).bd (-2) := by
      unfold bCov
      omega
    have : (absT u (t + 26)).bd.1 * (absT u (t + 26)).bd.2.1 ≤ 64 := Int.le_trans (Int.mul_le_mul_of_nonneg_right h.2.1.1.2 h.2.1.2.1.1) (by have := h.2.1.2.1; omega)
    omega
  rw [C_TD_coverage]
  simp only [gd_O h.1.1, gd_O h.1.2.1.1, gd_O h.1.2.1.2.1.1]
  rw [Tk_countCovered h.1.2.1.2.1 hto, cI_some, Tk_countCells h.1.2.1.2.1 hto, cI_some]
  simp only [gd_O h.1.1, gd_O h.1.2.1.1, gd_O h.1.2.1.2.1.1]
  change (if w (bCov (absT u (t + 26)).bd + bCnt (absT u (t + 26)).bd (-1)) = 0 then _ else _) = _
  rw [w_id (x := bCov (absT u (t + 26)).bd + bCnt (absT u (t + 26)).bd (-1)) (by omega) (by omega)]
  unfold aCov
  by_cases q : bCov (absT u (t + 26)).bd + bCnt (absT u (t + 26)).bd (-1) = 0
  · rw [if_pos q, if_pos q]
  · rw [if_neg q, if_neg q]
    have := n64_i (a := bCov (absT u (t + 26)).bd) (b := bCov (absT u (t + 26)).bd + bCnt (absT u (t + 26)).bd (-1)) hcv.2.1 hcv.2.2 (by omega) hle
    change (bif n64 (FP.ddiv (UInt64.ofNat (i2d2 (bCov (absT u (t + 26)).bd))) (UInt64.ofNat (i2d2 (w (bCov (absT u (t + 26)).bd + bCnt (absT u (t + 26)).bd (-1)))))) then some (0, vD (ddiv2 (i2d2 (bCov (absT u (t + 26)).bd)) (i2d2 (w (bCov (absT u (t + 26)).bd + bCnt (absT u (t + 26)).bd (-1))))), g, u) else none) = _
    rw [w_id (x := bCov (absT u (t + 26)).bd + bCnt (absT u (t + 26)).bd (-1)) (by omega) (by omega), this, cond_true]
theorem TM_coverage (hk : kTM g t) (ho : mOk (u (t + 1))) : call M_TM_coverage [vA t] g u = some (0, vD (aCov (bdM (u (t + 1)))), g, up u t 7 0) := by
  have hB := mOk_b ho
  have hcv := bCov_sum hB (mOk_c ho)
  have hce := bCnt_bd hB.1 hB.2.1 (-1)
  have hcb := bCnt_bd hB.1 hB.2.1 (-2)
  have e : u (t + 1) 0 * u (t + 1) 1 - bCnt (bdM (u (t + 1))) (-2) = bCov (bdM (u (t + 1))) + bCnt (bdM (u (t + 1))) (-1) := by
    unfold bCov
    show _ = u (t + 1) 0 * u (t + 1) 1 - bCnt (bdM (u (t + 1))) (-1) - bCnt (bdM (u (t + 1))) (-2) + _
    omega
  have hm : 0 ≤ u (t + 1) 0 * u (t + 1) 1 ∧ u (t + 1) 0 * u (t + 1) 1 ≤ 64 := ⟨Int.mul_nonneg ho.1.1 ho.2.1.1, Int.le_trans (Int.mul_le_mul_of_nonneg_right ho.1.2 ho.2.1.1) (by have := ho.2.1; omega)⟩
  have ho7 : mOk (up u t 7 0 (t + 1)) := by rw [up7s]; exact ho
  rw [C_TM_coverage]
  simp only [gd_O hk.1]
  rw [gd_R hk.2.1 (by decide) (by decide), gd_R hk.2.1 (by decide) (by decide), TM_counted hk ho7 (Or.inl rfl), cI_some, TM_counted hk ho7 (Or.inr rfl), cI_some, if_pos rfl, if_neg (show ¬ (2 : Int) = 1 by decide), up7s, w_id (x := u (t + 1) 0 * u (t + 1) 1) (by omega) (by omega), w_id (x := u (t + 1) 0 * u (t + 1) 1 - _) (by omega) (by omega), e]
  unfold aCov
  by_cases q : bCov (bdM (u (t + 1))) + bCnt (bdM (u (t + 1))) (-1) = 0
  · rw [if_pos q, if_pos q]
  · rw [if_neg q, if_neg q, n64_i hcv.2.1 hcv.2.2 (by omega) (by omega), cond_true, gd_O hk.1]
theorem TD_meanRegion (h : pOk2 g u t) (hr : kRg g (t + 243)) : ∃ v u', isNum (absT u (t + 26)).bd v ∧ call M_TD_meanRegion [vA t] g u = some (0, vF (aMean (absT u (t + 26)).bd v), g, u') ∧ FqT t u u' := by
  obtain ⟨v, st, e1, s1, f1, av⟩ := TD_survey h hr
  have hce := bCnt_bd h.2.1.1 h.2.1.2.1 (-1)
  have n0 := s1.1
  have eb : bdT v (t + 26 + 1) = (absT u (t + 26)).bd := congrArg AS.bd av
  refine ⟨v (t + 243) 0, v, ⟨_, s1.2.1, SV_num h.2.1 s1⟩, ?_, f1⟩
  rw [C_TD_meanRegion]
  simp only [gd_O h.1.1, gd_O h.1.2.1.1, gd_O hr.1, e1, cV_some, gd_O h.1.2.1.2.1.1]
  rw [Tk_countCells h.1.2.1.2.1 (tOk_of (by rw [eb]; exact h.2.1)), cI_some, eb]
  unfold aMean
  by_cases q : v (t + 243) 0 = 0
  · rw [if_pos q, if_pos q]
  · rw [if_neg q, if_neg q, n32_i hce.1 hce.2 (by omega) n0.2, cond_true, gd_O h.1.1, gd_O hr.1]
theorem TM_meanRegion (hk : kTM g t) (ho : mOk (u (t + 1))) (h11 : KA g (t + 11) (2, 0, 64)) : ∃ v u', isNum (bdM (u (t + 1))) v ∧ call M_TM_meanRegion [vA t] g u = some (0, vF (aMean (bdM (u (t + 1))) v), g, u') ∧ FqM t u u' := by
  obtain ⟨u', v, e1, n1, vb, f1⟩ := TM_regions (g := g) (u := up u t 7 0) hk (by rw [up7s]; exact ho) h11
  rw [up7s] at n1
  have hB := mOk_b ho
  have hce := bCnt_bd hB.1 hB.2.1 (-1)
  have hs : u' (t + 1) = u (t + 1) := (funext fun k => f1 _ k (by omega)).trans (up7s ..)
  refine ⟨v, u', n1, ?_, (FqM7 _ _ _).tr (F11q f1)⟩
  rw [C_TM_meanRegion]
  simp only [gd_O hk.1]
  rw [e1, cI_some]
  unfold aMean
  by_cases q : v = 0
  · rw [if_pos q, if_pos q]
  · rw [if_neg q, if_neg q, TM_allEmpty hk (by rw [hs]; exact ho), cI_some, hs, n32_i hce.1 hce.2 (by omega) vb.2, cond_true, gd_O hk.1]
end
