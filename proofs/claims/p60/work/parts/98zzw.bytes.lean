/-! ===== bytes appended, both sides ===== -/
theorem b255 : ∀ i : Fin 32, ¬ i.val < 8 → (255#32)[i.val]'(i.isLt) = false := by decide
theorem bv_b24 (X : BitVec 32) : (X >>> 24) &&& 255#32 = X.sshiftRight 24 &&& 255#32 := by
  ext i hi
  by_cases h : i < 8
  · simp [BitVec.getElem_sshiftRight, BitVec.getElem_ushiftRight, h, show 24 + i < 32 by omega]
  · have : (255#32)[i] = false := b255 ⟨i, hi⟩ h
    simp [this]
theorem bv_b16 (X : BitVec 32) : (X >>> 16) &&& 255#32 = X.sshiftRight 16 &&& 255#32 := by
  ext i hi
  by_cases h : i < 8
  · simp [BitVec.getElem_sshiftRight, BitVec.getElem_ushiftRight, h, show 16 + i < 32 by omega]
  · have : (255#32)[i] = false := b255 ⟨i, hi⟩ h
    simp [this]
theorem bv_b8 (X : BitVec 32) : (X >>> 8) &&& 255#32 = X.sshiftRight 8 &&& 255#32 := by
  ext i hi
  by_cases h : i < 8
  · simp [BitVec.getElem_sshiftRight, BitVec.getElem_ushiftRight, h, show 8 + i < 32 by omega]
  · have : (255#32)[i] = false := b255 ⟨i, hi⟩ h
    simp [this]
theorem i32_b24 (X : Int32) : (X.toUInt32 >>> ((Int32.ofInt 24).toUInt32 &&& Int32.toUInt32 31)).toInt32 &&& 255 = X >>> (Int32.ofInt 24 &&& 31) &&& 255 := Int32.toBitVec_inj.mp (bv_b24 X.toBitVec)
theorem i32_b16 (X : Int32) : (X.toUInt32 >>> ((Int32.ofInt 16).toUInt32 &&& Int32.toUInt32 31)).toInt32 &&& 255 = X >>> (Int32.ofInt 16 &&& 31) &&& 255 := Int32.toBitVec_inj.mp (bv_b16 X.toBitVec)
theorem i32_b8 (X : Int32) : (X.toUInt32 >>> ((Int32.ofInt 8).toUInt32 &&& Int32.toUInt32 31)).toInt32 &&& 255 = X >>> (Int32.ofInt 8 &&& 31) &&& 255 := Int32.toBitVec_inj.mp (bv_b8 X.toBitVec)
theorem i32_b0 (X : Int32) : X &&& 255 = X >>> (Int32.ofInt 0 &&& 31) &&& 255 := Int32.toBitVec_inj.mp (by
  show X.toBitVec &&& 255#32 = X.toBitVec.sshiftRight 0 &&& 255#32
  simp)
theorem and2_b (x : Int32) (y : Int) : and2 x.toInt y = (x &&& Int32.ofInt y).toInt := by
  unfold and2
  rw [ofInt_toInt]
/-- the byte of a number that begins at bit s -/
def byt (a s : Int) : Int := and2 (shr2 a s) 255
theorem byt24 (a : Int) : and2 (ushr2 a 24) 255 = byt a 24 := by
  unfold byt ushr2 shr2
  rw [and2_b, and2_b]
  exact congrArg Int32.toInt (i32_b24 (Int32.ofInt a))
theorem byt16 (a : Int) : and2 (ushr2 a 16) 255 = byt a 16 := by
  unfold byt ushr2 shr2
  rw [and2_b, and2_b]
  exact congrArg Int32.toInt (i32_b16 (Int32.ofInt a))
theorem byt8 (a : Int) : and2 (ushr2 a 8) 255 = byt a 8 := by
  unfold byt ushr2 shr2
  rw [and2_b, and2_b]
  exact congrArg Int32.toInt (i32_b8 (Int32.ofInt a))
theorem byt0 (a : Int) : and2 a 255 = byt a 0 := by
  unfold byt shr2
  rw [and2_b]
  exact congrArg Int32.toInt (i32_b0 (Int32.ofInt a))
theorem i32_rng (X : Int32) : 0 ≤ (X &&& 255).toInt ∧ (X &&& 255).toInt ≤ 255 := by
  have hm : (X &&& 255).toBitVec.toNat ≤ 255 := by
    show (X.toBitVec &&& 255#32).toNat ≤ 255
    rw [BitVec.toNat_and]
    exact Nat.and_le_right
  have e : (X &&& 255).toInt = ((X &&& 255).toBitVec.toNat : Int) := by
    show (X &&& 255).toBitVec.toInt = _
    rw [BitVec.toInt_eq_toNat_cond, if_pos (by omega)]
  rw [e]
  omega
theorem byt_bd (a s : Int) : 0 ≤ byt a s ∧ byt a s ≤ 255 := by
  unfold byt shr2
  rw [and2_b]
  exact i32_rng _
/-- the bytes of the text, one more -/
def bSet (b : Int → Int) (n v : Int) : Int → Int := setI b n v
def four (b : Int → Int) (n a : Int) : Int → Int := setI (setI (setI (setI b n (byt a 24)) (n + 1) (byt a 16)) (n + 2) (byt a 8)) (n + 3) (byt a 0)
def five (b : Int → Int) (n a1 a2 a3 a4 a5 : Int) : Int → Int := four (four (four (four (four b n a1) (n + 4) a2) (n + 8) a3) (n + 12) a4) (n + 16) a5
/-- a text in memory -/
def TxO (u : PM) (a : Nat) (n : Int) (b : Int → Int) : Prop := 0 ≤ n ∧ n ≤ 600 ∧ RB u a b n ∧ bOkb b n
theorem TxO_one {u u' : PM} {a : Nat} {n v : Int} {b : Int → Int} (h : TxO u a n b) (hn : n < 600) (hv : 0 ≤ v ∧ v ≤ 255) (f : ∀ k, u' a k = setI (u a) n v k) : TxO u' a (n + 1) (setI b n v) := by
  obtain ⟨h0, h1, h2, h3⟩ := h
  refine ⟨by omega, by omega, fun k k0 k1 => ?_, fun k k0 k1 => ?_⟩
  · rw [f]
    by_cases e : k = n
    · rw [e, setI_s, setI_s]
    · rw [setI_o e, setI_o e]; exact h2 k k0 (by omega)
  · by_cases e : k = n
    · rw [e, setI_s]; exact hv
    · rw [setI_o e]; exact h3 k k0 (by omega)
section
variable {g : PG} {u : PM} {r t : Nat} {b : Int → Int} {n : Int}
def FB (r : Nat) (u u' : PM) : Prop := ∀ (a : Nat) (k : Int), ¬ (a = r ∧ k = 0) → a ≠ r + 24 → u' a k = u a k
theorem FB.tr {v x : PM} (h : FB r u v) (h' : FB r v x) : FB r u x := fun a k h1 h2 => (h' a k h1 h2).trans (h a k h1 h2)
theorem Rd_writeByte (hk : kRd g r) (h0 : u r 0 = n) (h : TxO u (r + 24) n b) (hn : n < 600) (v : Int) (hv : 0 ≤ and2 v 255 ∧ and2 v 255 ≤ 255) : ∃ u', call M_Rd_writeByte [vA r, vI v] g u = some (0, vN, g, u') ∧ u' r 0 = n + 1 ∧ TxO u' (r + 24) (n + 1) (setI b n (and2 v 255)) ∧ FB r u u' := by
  have hh := h
  obtain ⟨z0, z1, z2, z3⟩ := h
  refine ⟨up (up u (r + 24) n (and2 v 255)) r 0 (n + 1), ?_, up_s .., TxO_one hh hn hv (fun k => ?_), fun a k n1 n2 => by rw [up_n n1, up_o n2]⟩
  · rw [C_Rd_writeByte, gd_O hk.1, h0, if_neg (by omega), gd_O hk.1, if_pos (by omega)]
    simp only [gd_O hk.1]
    rw [gd_W hk.2.2.2.1 z0 (by omega), up_o (by omega), h0, w_id (by omega) (by omega)]
  · rw [up_o (by omega), up_set]
theorem Rd_writeFour (hk : kRd g r) (h0 : u r 0 = n) (h : TxO u (r + 24) n b) (hn : n ≤ 596) (a : Int) : ∃ u', call M_Rd_writeFour [vA r, vI a] g u = some (0, vN, g, u') ∧ u' r 0 = n + 4 ∧ TxO u' (r + 24) (n + 4) (four b n a) ∧ FB r u u' := by
  obtain ⟨u1, e1, l1, t1, f1⟩ := Rd_writeByte (g := g) hk h0 h (by omega) (ushr2 a 24) (by rw [byt24]; exact byt_bd _ _)
  obtain ⟨u2, e2, l2, t2, f2⟩ := Rd_writeByte (g := g) hk l1 t1 (by omega) (ushr2 a 16) (by rw [byt16]; exact byt_bd _ _)
  obtain ⟨u3, e3, l3, t3, f3⟩ := Rd_writeByte (g := g) hk l2 t2 (by omega) (ushr2 a 8) (by rw [byt8]; exact byt_bd _ _)
  obtain ⟨u4, e4, l4, t4, f4⟩ := Rd_writeByte (g := g) hk l3 t3 (by omega) a (by rw [byt0]; exact byt_bd _ _)
  rw [byt24, byt16, byt8, byt0] at t4
  refine ⟨u4, ?_, by omega, ?_, ((f1.tr f2).tr f3).tr f4⟩
  · rw [C_Rd_writeFour, gd_O hk.1, e1, cV_some, gd_O hk.1, e2, cV_some, gd_O hk.1, e3, cV_some, gd_O hk.1, e4, cV_some]
  · unfold four
    rw [show n + 4 = n + 1 + 1 + 1 + 1 by omega, show n + 2 = n + 1 + 1 by omega, show n + 3 = n + 1 + 1 + 1 by omega]
    exact t4
theorem TD_append (hk : KA g t (1, 10, 0)) (hr : kRd g (t + 1)) (h0 : u (t + 1) 0 = n) (h : TxO u (t + 25) n b) (a1 a2 a3 a4 a5 : Int) :
    if 580 < n then call M_TD_append [vA t, vI a1, vI a2, vI a3, vI a4, vI a5] g u = some (0, vI (-1), g, u) else ∃ u', call M_TD_append [vA t, vI a1, vI a2, vI a3, vI a4, vI a5] g u = some (0, vI (n + 20), g, u') ∧ u' (t + 1) 0 = n + 20 ∧ TxO u' (t + 25) (n + 20) (five b n a1 a2 a3 a4 a5) ∧ FB (t + 1) u u' := by
  have hc : call M_Rd_hasRoom [vA (t + 1)] g u = some (0, vI (if 580 < n then 0 else 1), g, u) := by
    rw [C_Rd_hasRoom, gd_O hr.1, h0]
    split <;> rfl
  rw [C_TD_append, gd_O hk, gd_O hr.1, hc, cI_some]
  by_cases c0 : 580 < n
  · rw [if_pos c0, if_pos c0, if_pos rfl]
  · rw [if_neg c0, if_neg c0, if_neg (by decide)]
    simp only [gd_O hk, gd_O hr.1]
    obtain ⟨u1, e1, l1, t1, f1⟩ := Rd_writeFour (g := g) hr h0 h (by omega) a1
    obtain ⟨u2, e2, l2, t2, f2⟩ := Rd_writeFour (g := g) hr l1 t1 (by omega) a2
    obtain ⟨u3, e3, l3, t3, f3⟩ := Rd_writeFour (g := g) hr l2 t2 (by omega) a3
    obtain ⟨u4, e4, l4, t4, f4⟩ := Rd_writeFour (g := g) hr l3 t3 (by omega) a4
    obtain ⟨u5, e5, l5, t5, f5⟩ := Rd_writeFour (g := g) hr l4 t4 (by omega) a5
    refine ⟨u5, ?_, by omega, ?_, (((f1.tr f2).tr f3).tr f4).tr f5⟩
    · rw [e1, cV_some]
      simp only [gd_O hk, gd_O hr.1]
      rw [e2, cV_some]
      simp only [gd_O hk, gd_O hr.1]
      rw [e3, cV_some]
      simp only [gd_O hk, gd_O hr.1]
      rw [e4, cV_some]
      simp only [gd_O hk, gd_O hr.1]
      rw [e5, cV_some]
      simp only [gd_O hk, gd_O hr.1]
      rw [l5, show n + 4 + 4 + 4 + 4 + 4 = n + 20 by omega]
    · unfold five
      rw [show n + 20 = n + 4 + 4 + 4 + 4 + 4 by omega, show n + 8 = n + 4 + 4 by omega, show n + 12 = n + 4 + 4 + 4 by omega, show n + 16 = n + 4 + 4 + 4 + 4 by omega]
      exact t5
/-- the reference's text: thrown code, length and bytes may change -/
def FBM (t : Nat) (u u' : PM) : Prop := ∀ (a : Nat) (k : Int), ¬ (a = t ∧ (k = 7 ∨ k = 13)) → a ≠ t + 7 → u' a k = u a k
theorem FBM.tr {v x : PM} (h : FBM t u v) (h' : FBM t v x) : FBM t u x := fun a k h1 h2 => (h' a k h1 h2).trans (h a k h1 h2)
theorem TD_truncate (hk : KA g t (1, 10, 0)) (hr : kRd g (t + 1)) (h0 : u (t + 1) 0 = n) (a : Int) : call M_TD_truncateInput [vA t, vI a] g u = if 0 ≤ a ∧ a ≤ n then some (0, vI a, g, up u (t + 1) 0 a) else some (1, vN, gX g, u) := by
  rw [C_TD_truncateInput]
  simp only [gd_O hk, gd_O hr.1]
  rw [h0]
  by_cases c0 : a < 0
  · rw [if_pos c0, if_neg (show ¬ (0 ≤ a ∧ a ≤ n) by omega)]
    rfl
  · rw [if_neg c0]
    by_cases c1 : n < a
    · rw [if_pos c1, if_neg (show ¬ (0 ≤ a ∧ a ≤ n) by omega)]
      rfl
    · rw [if_neg c1, if_pos (show 0 ≤ a ∧ a ≤ n by omega)]
end
