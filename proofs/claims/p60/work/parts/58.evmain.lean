/-! ===== the plain machine is sound over the ghost machine: all instructions ===== -/
theorem i64_nat (k : Nat) : Int64.ofInt (k : Int) = Int64.ofNat k := Int64.ofInt_eq_ofNat
theorem toInt64_of {x : Int} (h : inR x) : (Int32.ofInt x).toInt64 = Int64.ofInt x := by
  rw [← Int64.ofInt_int32ToInt, tInt_of h]
theorem lcmp_of {x y : Int} (hx : inR x) (hy : inR y) : lg_cmp (Int64.ofInt x) (Int64.ofInt y) = Int32.ofInt (lcmp2 x y) := by
  have ex : (Int64.ofInt x).toInt = x := Int64.toInt_ofInt_of_le (by have := hx.1; omega) (by have := hx.2; omega)
  have ey : (Int64.ofInt y).toInt = y := Int64.toInt_ofInt_of_le (by have := hy.1; omega) (by have := hy.2; omega)
  unfold lg_cmp lcmp2
  simp only [gt_iff_lt, Int64.lt_iff_toInt_lt, ← Int64.toInt_inj, ex, ey]
  split
  · rfl
  · split <;> rfl
theorem lcmp_in {x y : Int} : inR (lcmp2 x y) := by
  unfold lcmp2 inR
  split
  · exact ⟨by decide, by decide⟩
  · split <;> exact ⟨by decide, by decide⟩
theorem min_of {x y : Int} (hx : inR x) (hy : inR y) : (if Int32.ofInt y < Int32.ofInt x then Int32.ofInt y else Int32.ofInt x) = Int32.ofInt (min2 x y) := by
  unfold min2
  by_cases h : y < x
  · rw [if_pos h, if_pos ((lt_of hy hx).mpr h)]
  · rw [if_neg h, if_neg fun q => h ((lt_of hy hx).mp q)]
theorem max_of {x y : Int} (hx : inR x) (hy : inR y) : (if Int32.ofInt x < Int32.ofInt y then Int32.ofInt y else Int32.ofInt x) = Int32.ofInt (max2 x y) := by
  unfold max2
  by_cases h : x < y
  · rw [if_pos h, if_pos ((lt_of hx hy).mpr h)]
  · rw [if_neg h, if_neg fun q => h ((lt_of hx hy).mp q)]
theorem abs_of {x : Int} (hx : inR x) : (if 0 ≤ Int32.ofInt x then Int32.ofInt x else 0 - Int32.ofInt x) = Int32.ofInt (abs2 x) := by
  have h0 : (0 : Int32) = Int32.ofInt 0 := rfl
  unfold abs2
  by_cases h : 0 ≤ x
  · rw [if_pos h, if_pos (by rw [h0]; exact (le_of ⟨by decide, by decide⟩ hx).mpr h)]
  · rw [if_neg h, if_neg (by rw [h0]; exact fun q => h ((le_of ⟨by decide, by decide⟩ hx).mp q)), ofInt_w, Int32.ofInt_sub]
    rfl
theorem n64_of {r : UInt64} (h : n64 r = true) : vf_n64 r := by
  unfold n64 at h
  have q := of_decide_eq_true h
  exact q
theorem n32_of {r : UInt32} (h : n32 r = true) : vf_n32 r := by
  unfold n32 at h
  have q := of_decide_eq_true h
  exact q
theorem inR_0 : inR 0 := ⟨by decide, by decide⟩
theorem inR_min {x y : Int} (hx : inR x) (hy : inR y) : inR (min2 x y) := by unfold min2; split <;> assumption
theorem inR_max {x y : Int} (hx : inR x) (hy : inR y) : inR (max2 x y) := by unfold max2; split <;> assumption
theorem inR_abs {x : Int} (hx : inR x) : inR (abs2 x) := by
  unfold abs2
  split
  · exact hx
  · exact inR_w _
theorem gStr_small {o : Nat} {tx : List Nat} (h : gStr o = some tx) : tx.length < 2147483648 ∧ ∀ (k ch : Nat), tx[k]? = some ch → ch < 128 := by
  obtain ⟨i, -, hi⟩ := gStr_el h
  obtain ⟨a, b⟩ := gTexts_small tx (List.mem_of_getElem? hi)
  exact ⟨a, fun k ch hk => b ch (List.mem_of_getElem? hk)⟩
theorem gSw_hi {XP : Nat → Prop} {pc : Nat} {x : Int32} : ∀ (os : List Int) (lo : Int), lo + os.length ≤ x.toInt → gSw XP pc x lo os
  | [], _, _ => trivial
  | q :: os, lo, h => by
    simp only [List.length_cons] at h
    exact ⟨fun e => absurd e (by omega), gSw_hi os (lo + 1) (by omega)⟩
theorem pKinds_len : ∀ k ∈ pKinds, k.2.2 < 2147483648 := by decide +kernel
theorem pK_len {g : PG} {u : PM} (hM : okM g u) {a t len : Nat} (h : pK g a = (2, t, len)) : len < 2147483648 := by
  unfold pK at h
  cases hb : Nat.blt a 100000 with
  | true =>
    rw [hb, cond_true] at h
    cases hc : Nat.blt a g.1 with
    | true =>
      rw [hc, cond_true] at h
      unfold pKind at h
      rw [List.getD_eq_getElem?_getD] at h
      cases e : pKinds[a]? with
      | none => rw [e] at h; cases h
      | some k =>
        rw [e] at h
        have := pKinds_len k (List.mem_of_getElem? e)
        rw [show k = (2, t, len) from h] at this
        exact this
    | false => rw [hc, cond_false] at h; cases h
  | false =>
    rw [hb, cond_false] at h
    split at h
    · cases h; decide
    · cases h; decide
    · cases h; decide
    · cases h; have q := hM.2.2; omega
    · cases h; have q := hM.2.2; omega
    · cases h
set_option maxHeartbeats 8000000 in
theorem ev_step {n : Nat} (ihs : ∀ m, IH n m) (m : Nat) : IH (n + 1) m := by
  intro pc L0 S g u o h hL0 hS hM
  have hL := okL_cut (m := m) (pc := pc) hL0
  replace h : step2 (fun a as g u => ev n a 0 (pEn a as) [] g u) (ev n m) (gLook (gTab m)) (gHh m) pc (pCut m pc L0) S g u = some o := h
  suffices key : G2 m pc (pCut m pc L0) S g u o from ⟨key.1, fun rc rs Q h1 h2 h3 => WP.less (key.2 rc rs Q h1 h2 h3) (Nat.le_refl _) (Nat.le_refl _) (gSub_cut m pc L0)⟩
  generalize pCut m pc L0 = L at h hL ⊢
  have ih := ihs m
  unfold step2 at h
  cases hT : gLook (gTab m) pc with
  | none => rw [hT] at h; cases h
  | some E =>
    obtain ⟨i, ni, a, b, c, d, e⟩ := E
    rw [hT] at h
    dsimp only at h
    cases i with
    | iconst v =>
      replace h := bif_el h
      obtain ⟨hb, h⟩ := h
      exact (ih _ _ _ _ _ _ h hL (okL_cons (inR_num hb) hS) hM).lin fun rc rs Q k => step_of hT (by show WP m rc rs ni _ (.int (gK b a) :: _) _ Q; rw [gK_num]; exact k)
    | bipush v =>
      replace h := bif_el h
      obtain ⟨hb, h⟩ := h
      exact (ih _ _ _ _ _ _ h hL (okL_cons (inR_num hb) hS) hM).lin fun rc rs Q k => step_of hT (by show WP m rc rs ni _ (.int (gK b a) :: _) _ Q; rw [gK_num]; exact k)
    | sipush v =>
      replace h := bif_el h
      obtain ⟨hb, h⟩ := h
      exact (ih _ _ _ _ _ _ h hL (okL_cons (inR_num hb) hS) hM).lin fun rc rs Q k => step_of hT (by show WP m rc rs ni _ (.int (gK b a) :: _) _ Q; rw [gK_num]; exact k)
    | ldc v =>
      cases e with
      | zero => exact (ih _ _ _ _ _ _ h hL (okL_cons (inR_w _) hS) hM).lin fun rc rs Q k => step_of hT (by show WP m rc rs ni _ (.int (gK b a) :: _) _ Q; rw [gK_num, ← ofInt_w]; exact k)
      | succ e => exact (ih _ _ _ _ _ _ h hL (okL_cons trivial hS) hM).lin fun rc rs Q k => step_of hT k
    | ldc_w v =>
      cases e with
      | zero => exact (ih _ _ _ _ _ _ h hL (okL_cons (inR_w _) hS) hM).lin fun rc rs Q k => step_of hT (by show WP m rc rs ni _ (.int (gK b a) :: _) _ Q; rw [gK_num, ← ofInt_w]; exact k)
      | succ e => exact (ih _ _ _ _ _ _ h hL (okL_cons trivial hS) hM).lin fun rc rs Q k => step_of hT k
    | lconst v =>
      refine (ih _ _ _ _ _ _ h hL (okL_cons (by show inR ((v : Nat) : Int); have := v.isLt; exact ⟨by omega, by omega⟩) hS) hM).lin fun rc rs Q k => step_of hT ?_
      show WP m rc rs ni _ (.long (Int64.ofNat (v : Nat)) :: _) _ Q
      rw [← i64_nat]
      exact k
    | fconst v =>
      refine (ih _ _ _ _ _ _ h hL (okL_cons (UInt32.toNat_lt _) hS) hM).lin fun rc rs Q k => step_of hT ?_
      show WP m rc rs ni _ (.float FP.fconst0 :: _) _ Q
      have e1 : iS (vF FP.fconst0.toNat :: S) = .float FP.fconst0 :: iS S := by
        show Value.float (UInt32.ofNat FP.fconst0.toNat) :: _ = _
        rw [UInt32.ofNat_toNat]
        rfl
      rw [e1] at k
      exact k
    | dconst v =>
      refine (ih _ _ _ _ _ _ h hL (okL_cons (UInt64.toNat_lt _) hS) hM).lin fun rc rs Q k => step_of hT ?_
      show WP m rc rs ni _ (.double FP.dconst0 :: _) _ Q
      have e1 : iS (vD FP.dconst0.toNat :: S) = .double FP.dconst0 :: iS S := by
        show Value.double (UInt64.ofNat FP.dconst0.toNat) :: _ = _
        rw [UInt64.ofNat_toNat]
        rfl
      rw [e1] at k
      exact k
    | iload_n v =>
      replace h := pLdI_el h
      obtain ⟨a1, x, hx, h⟩ := h
      exact (ih _ _ _ _ _ _ h hL (okL_cons (by have q := okL_get hx hL; exact q) hS) hM).lin fun rc rs Q k => step_of hT (gLdI_of (iL_get hx) k)
    | iload v =>
      replace h := pLdI_el h
      obtain ⟨a1, x, hx, h⟩ := h
      exact (ih _ _ _ _ _ _ h hL (okL_cons (by have q := okL_get hx hL; exact q) hS) hM).lin fun rc rs Q k => step_of hT (gLdI_of (iL_get hx) k)
    | aload_n v =>
      replace h := pLdA_el h
      obtain ⟨a1, x, hx, h⟩ := h
      exact (ih _ _ _ _ _ _ h hL (okL_cons trivial hS) hM).lin fun rc rs Q k => step_of hT (gLdA_of (iL_get hx) k)
    | aload v =>
      replace h := pLdA_el h
      obtain ⟨a1, x, hx, h⟩ := h
      exact (ih _ _ _ _ _ _ h hL (okL_cons trivial hS) hM).lin fun rc rs Q k => step_of hT (gLdA_of (iL_get hx) k)
    | dload v =>
      replace h := pLdD_el h
      obtain ⟨a1, x, hx, h⟩ := h
      exact (ih _ _ _ _ _ _ h hL (okL_cons (by have q := okL_get hx hL; exact q) hS) hM).lin fun rc rs Q k => step_of hT (gLdD_of (iL_get hx) k)
    | istore_n v =>
      replace h := popI_el h
      obtain ⟨a1, x, r, rfl, h⟩ := h
      refine (ih _ _ _ _ _ _ h (okL_st1 hL (by have q := okL_hd hS; exact q)) (okL_tl hS) hM).lin fun rc rs Q k => step_of hT ?_
      rw [← iL_st1 _ _ _ _ rfl] at k
      exact k
    | istore v =>
      replace h := popI_el h
      obtain ⟨a1, x, r, rfl, h⟩ := h
      refine (ih _ _ _ _ _ _ h (okL_st1 hL (by have q := okL_hd hS; exact q)) (okL_tl hS) hM).lin fun rc rs Q k => step_of hT ?_
      rw [← iL_st1 _ _ _ _ rfl] at k
      exact k
    | astore_n v =>
      replace h := popA_el h
      obtain ⟨a1, x, r, rfl, h⟩ := h
      refine (ih _ _ _ _ _ _ h (okL_st1 hL trivial) (okL_tl hS) hM).lin fun rc rs Q k => step_of hT ?_
      rw [← iL_st1 _ _ _ _ rfl] at k
      exact k
    | astore v =>
      replace h := popA_el h
      obtain ⟨a1, x, r, rfl, h⟩ := h
      refine (ih _ _ _ _ _ _ h (okL_st1 hL trivial) (okL_tl hS) hM).lin fun rc rs Q k => step_of hT ?_
      rw [← iL_st1 _ _ _ _ rfl] at k
      exact k
    | dstore v =>
      replace h := popD_el h
      obtain ⟨a1, x, r, rfl, h⟩ := h
      refine (ih _ _ _ _ _ _ h (okL_st2 hL (by have q := okL_hd hS; exact q)) (okL_tl hS) hM).lin fun rc rs Q k => step_of hT ?_
      rw [← iL_st2 _ _ _ _ rfl] at k
      exact k
    | iinc v w' =>
      replace h := pLdI_el h
      obtain ⟨a1, x, hx, h⟩ := h
      refine (ih _ _ _ _ _ _ h (okL_st1 hL inR_inc) hS hM).lin fun rc rs Q k => step_of hT (gLdI_of (iL_get hx) ?_)
      rw [gInc_of]
      rw [← iL_st1 _ _ _ _ rfl] at k
      exact k
    | iadd =>
      replace h := popI_el h
      obtain ⟨a1, y, r1, rfl, h⟩ := h
      replace h := popI_el h
      obtain ⟨a2, x, r, rfl, h⟩ := h
      refine (ih _ _ _ _ _ _ h hL (okL_cons (inR_w _) (okL_tl (okL_tl hS))) hM).lin fun rc rs Q k => step_of hT ?_
      show WP m rc rs ni _ (.int (Int32.ofInt x + Int32.ofInt y) :: _) _ Q
      rw [← Int32.ofInt_add, ← ofInt_w]
      exact k
    | isub =>
      replace h := popI_el h
      obtain ⟨a1, y, r1, rfl, h⟩ := h
      replace h := popI_el h
      obtain ⟨a2, x, r, rfl, h⟩ := h
      refine (ih _ _ _ _ _ _ h hL (okL_cons (inR_w _) (okL_tl (okL_tl hS))) hM).lin fun rc rs Q k => step_of hT ?_
      show WP m rc rs ni _ (.int (Int32.ofInt x - Int32.ofInt y) :: _) _ Q
      rw [← Int32.ofInt_sub, ← ofInt_w]
      exact k
    | imul =>
      replace h := popI_el h
      obtain ⟨a1, y, r1, rfl, h⟩ := h
      replace h := popI_el h
      obtain ⟨a2, x, r, rfl, h⟩ := h
      refine (ih _ _ _ _ _ _ h hL (okL_cons (inR_w _) (okL_tl (okL_tl hS))) hM).lin fun rc rs Q k => step_of hT ?_
      show WP m rc rs ni _ (.int (Int32.ofInt x * Int32.ofInt y) :: _) _ Q
      rw [← Int32.ofInt_mul, ← ofInt_w]
      exact k
    | iand =>
      replace h := popI_el h
      obtain ⟨a1, y, r1, rfl, h⟩ := h
      replace h := popI_el h
      obtain ⟨a2, x, r, rfl, h⟩ := h
      refine (ih _ _ _ _ _ _ h hL (okL_cons (inR_toInt _) (okL_tl (okL_tl hS))) hM).lin fun rc rs Q k => step_of hT ?_
      show WP m rc rs ni _ (.int (Int32.ofInt x &&& Int32.ofInt y) :: _) _ Q
      have e1 : iS (vI (and2 x y) :: r) = .int (Int32.ofInt x &&& Int32.ofInt y) :: iS r := congrArg (fun z => Value.int z :: iS r) (ofInt_toInt _)
      rw [e1] at k
      exact k
    | ior =>
      replace h := popI_el h
      obtain ⟨a1, y, r1, rfl, h⟩ := h
      replace h := popI_el h
      obtain ⟨a2, x, r, rfl, h⟩ := h
      refine (ih _ _ _ _ _ _ h hL (okL_cons (inR_toInt _) (okL_tl (okL_tl hS))) hM).lin fun rc rs Q k => step_of hT ?_
      show WP m rc rs ni _ (.int (Int32.ofInt x ||| Int32.ofInt y) :: _) _ Q
      have e1 : iS (vI (or2 x y) :: r) = .int (Int32.ofInt x ||| Int32.ofInt y) :: iS r := congrArg (fun z => Value.int z :: iS r) (ofInt_toInt _)
      rw [e1] at k
      exact k
    | ishl =>
      replace h := popI_el h
      obtain ⟨a1, y, r1, rfl, h⟩ := h
      replace h := popI_el h
      obtain ⟨a2, x, r, rfl, h⟩ := h
      refine (ih _ _ _ _ _ _ h hL (okL_cons (inR_toInt _) (okL_tl (okL_tl hS))) hM).lin fun rc rs Q k => step_of hT ?_
      show WP m rc rs ni _ (.int (Int32.ofInt x <<< (Int32.ofInt y &&& 31)) :: _) _ Q
      have e1 : iS (vI (shl2 x y) :: r) = .int (Int32.ofInt x <<< (Int32.ofInt y &&& 31)) :: iS r := congrArg (fun z => Value.int z :: iS r) (ofInt_toInt _)
      rw [e1] at k
      exact k
    | ishr =>
      replace h := popI_el h
      obtain ⟨a1, y, r1, rfl, h⟩ := h
      replace h := popI_el h
      obtain ⟨a2, x, r, rfl, h⟩ := h
      refine (ih _ _ _ _ _ _ h hL (okL_cons (inR_toInt _) (okL_tl (okL_tl hS))) hM).lin fun rc rs Q k => step_of hT ?_
      show WP m rc rs ni _ (.int (Int32.ofInt x >>> (Int32.ofInt y &&& 31)) :: _) _ Q
      have e1 : iS (vI (shr2 x y) :: r) = .int (Int32.ofInt x >>> (Int32.ofInt y &&& 31)) :: iS r := congrArg (fun z => Value.int z :: iS r) (ofInt_toInt _)
      rw [e1] at k
      exact k
    | iushr =>
      replace h := popI_el h
      obtain ⟨a1, y, r1, rfl, h⟩ := h
      replace h := popI_el h
      obtain ⟨a2, x, r, rfl, h⟩ := h
      refine (ih _ _ _ _ _ _ h hL (okL_cons (inR_toInt _) (okL_tl (okL_tl hS))) hM).lin fun rc rs Q k => step_of hT ?_
      show WP m rc rs ni _ (.int ((Int32.ofInt x).toUInt32 >>> ((Int32.ofInt y).toUInt32 &&& Int32.toUInt32 31)).toInt32 :: _) _ Q
      have e1 : iS (vI (ushr2 x y) :: r) = .int ((Int32.ofInt x).toUInt32 >>> ((Int32.ofInt y).toUInt32 &&& Int32.toUInt32 31)).toInt32 :: iS r := congrArg (fun z => Value.int z :: iS r) (ofInt_toInt _)
      rw [e1] at k
      exact k
    | idiv =>
      replace h := popI_el h
      obtain ⟨a1, y, r1, rfl, h⟩ := h
      replace h := popI_el h
      obtain ⟨a2, x, r, rfl, h⟩ := h
      have oky : inR y := okL_hd hS
      by_cases hy : y = 0
      · rw [if_pos hy] at h; cases h
      rw [if_neg hy] at h
      refine (ih _ _ _ _ _ _ h hL (okL_cons (inR_toInt _) (okL_tl (okL_tl hS))) hM).lin fun rc rs Q k => step_of hT ⟨fun q => hy ((eq_of2 oky inR_0).mp q), ?_⟩
      show WP m rc rs ni _ (.int (Int32.ofInt x / Int32.ofInt y) :: _) _ Q
      have e1 : iS (vI (div2 x y) :: r) = .int (Int32.ofInt x / Int32.ofInt y) :: iS r := congrArg (fun z => Value.int z :: iS r) (ofInt_toInt _)
      rw [e1] at k
      exact k
    | irem =>
      replace h := popI_el h
      obtain ⟨a1, y, r1, rfl, h⟩ := h
      replace h := popI_el h
      obtain ⟨a2, x, r, rfl, h⟩ := h
      have oky : inR y := okL_hd hS
      by_cases hy : y = 0
      · rw [if_pos hy] at h; cases h
      rw [if_neg hy] at h
      refine (ih _ _ _ _ _ _ h hL (okL_cons (inR_toInt _) (okL_tl (okL_tl hS))) hM).lin fun rc rs Q k => step_of hT ⟨fun q => hy ((eq_of2 oky inR_0).mp q), ?_⟩
      show WP m rc rs ni _ (.int (Int32.ofInt x - Int32.ofInt x / Int32.ofInt y * Int32.ofInt y) :: _) _ Q
      have e1 : iS (vI (rem2 x y) :: r) = .int (Int32.ofInt x - Int32.ofInt x / Int32.ofInt y * Int32.ofInt y) :: iS r := congrArg (fun z => Value.int z :: iS r) (ofInt_toInt _)
      rw [e1] at k
      exact k
    | ineg =>
      replace h := popI_el h
      obtain ⟨a2, x, r, rfl, h⟩ := h
      refine (ih _ _ _ _ _ _ h hL (okL_cons (inR_w _) (okL_tl hS)) hM).lin fun rc rs Q k => step_of hT ?_
      show WP m rc rs ni _ (.int (-Int32.ofInt x) :: _) _ Q
      rw [← Int32.ofInt_neg, ← ofInt_w]
      exact k
    | i2l =>
      replace h := popI_el h
      obtain ⟨a2, x, r, rfl, h⟩ := h
      have okx : inR x := okL_hd hS
      refine (ih _ _ _ _ _ _ h hL (okL_cons okx (okL_tl hS)) hM).lin fun rc rs Q k => step_of hT ?_
      show WP m rc rs ni _ (.long (Int32.ofInt x).toInt64 :: _) _ Q
      rw [toInt64_of okx]
      exact k
    | i2d =>
      replace h := popI_el h
      obtain ⟨a2, x, r, rfl, h⟩ := h
      refine (ih _ _ _ _ _ _ h hL (okL_cons (UInt64.toNat_lt _) (okL_tl hS)) hM).lin fun rc rs Q k => step_of hT ?_
      show WP m rc rs ni _ (.double (FP.i2d (Int32.ofInt x)) :: _) _ Q
      have e1 : iS (vD (i2d2 x) :: r) = .double (FP.i2d (Int32.ofInt x)) :: iS r := congrArg (fun z => Value.double z :: iS r) (UInt64.ofNat_toNat)
      rw [e1] at k
      exact k
    | i2f =>
      replace h := popI_el h
      obtain ⟨a2, x, r, rfl, h⟩ := h
      refine (ih _ _ _ _ _ _ h hL (okL_cons (UInt32.toNat_lt _) (okL_tl hS)) hM).lin fun rc rs Q k => step_of hT ?_
      show WP m rc rs ni _ (.float (FP.i2f (Int32.ofInt x)) :: _) _ Q
      have e1 : iS (vF (i2f2 x) :: r) = .float (FP.i2f (Int32.ofInt x)) :: iS r := congrArg (fun z => Value.float z :: iS r) (UInt32.ofNat_toNat)
      rw [e1] at k
      exact k
    | f2d =>
      replace h := popF_el h
      obtain ⟨x, a2, r, rfl, h⟩ := h
      replace h := bif_el h
      obtain ⟨hb, h⟩ := h
      refine (ih _ _ _ _ _ _ h hL (okL_cons (UInt64.toNat_lt _) (okL_tl hS)) hM).lin fun rc rs Q k => step_of hT ⟨n64_of hb, ?_⟩
      show WP m rc rs ni _ (.double (FP.f2d (UInt32.ofNat x)) :: _) _ Q
      have e1 : iS (vD (f2d2 x) :: r) = .double (FP.f2d (UInt32.ofNat x)) :: iS r := congrArg (fun z => Value.double z :: iS r) (UInt64.ofNat_toNat)
      rw [e1] at k
      exact k
    | ddiv =>
      replace h := popD_el h
      obtain ⟨y, a1, r1, rfl, h⟩ := h
      replace h := popD_el h
      obtain ⟨x, a2, r, rfl, h⟩ := h
      replace h := bif_el h
      obtain ⟨hb, h⟩ := h
      refine (ih _ _ _ _ _ _ h hL (okL_cons (UInt64.toNat_lt _) (okL_tl (okL_tl hS))) hM).lin fun rc rs Q k => step_of hT ⟨n64_of hb, ?_⟩
      show WP m rc rs ni _ (.double (FP.ddiv (UInt64.ofNat x) (UInt64.ofNat y)) :: _) _ Q
      have e1 : iS (vD (ddiv2 x y) :: r) = .double (FP.ddiv (UInt64.ofNat x) (UInt64.ofNat y)) :: iS r := congrArg (fun z => Value.double z :: iS r) (UInt64.ofNat_toNat)
      rw [e1] at k
      exact k
    | fdiv =>
      replace h := popF_el h
      obtain ⟨y, a1, r1, rfl, h⟩ := h
      replace h := popF_el h
      obtain ⟨x, a2, r, rfl, h⟩ := h
      replace h := bif_el h
      obtain ⟨hb, h⟩ := h
      refine (ih _ _ _ _ _ _ h hL (okL_cons (UInt32.toNat_lt _) (okL_tl (okL_tl hS))) hM).lin fun rc rs Q k => step_of hT ⟨n32_of hb, ?_⟩
      show WP m rc rs ni _ (.float (FP.fdiv (UInt32.ofNat x) (UInt32.ofNat y)) :: _) _ Q
      have e1 : iS (vF (fdiv2 x y) :: r) = .float (FP.fdiv (UInt32.ofNat x) (UInt32.ofNat y)) :: iS r := congrArg (fun z => Value.float z :: iS r) (UInt32.ofNat_toNat)
      rw [e1] at k
      exact k
    | lcmp =>
      replace h := popL_el h
      obtain ⟨a1, y, r1, rfl, h⟩ := h
      replace h := popL_el h
      obtain ⟨a2, x, r, rfl, h⟩ := h
      have oky : inR y := okL_hd hS
      have okx : inR x := okL_hd (okL_tl hS)
      refine (ih _ _ _ _ _ _ h hL (okL_cons lcmp_in (okL_tl (okL_tl hS))) hM).lin fun rc rs Q k => step_of hT ?_
      show WP m rc rs ni _ (.int (lg_cmp (Int64.ofInt x) (Int64.ofInt y)) :: _) _ Q
      rw [lcmp_of okx oky]
      exact k
    | dcmp op =>
      replace h := popD_el h
      obtain ⟨y, a1, r1, rfl, h⟩ := h
      replace h := popD_el h
      obtain ⟨x, a2, r, rfl, h⟩ := h
      refine (ih _ _ _ _ _ _ h hL (okL_cons (inR_toInt _) (okL_tl (okL_tl hS))) hM).lin fun rc rs Q k => step_of hT ?_
      show WP m rc rs ni _ (.int (Op.cmpValue (FP.dcmp (UInt64.ofNat x) (UInt64.ofNat y)) op) :: _) _ Q
      have e1 : iS (vI (dcmp2 x y op) :: r) = .int (Op.cmpValue (FP.dcmp (UInt64.ofNat x) (UInt64.ofNat y)) op) :: iS r := congrArg (fun z => Value.int z :: iS r) (ofInt_toInt _)
      rw [e1] at k
      exact k
    | pop =>
      replace h := popT_el h
      rcases h with ⟨a1, x, r, rfl, h⟩ | ⟨x, a1, r, rfl, h⟩
      · exact (ih _ _ _ _ _ _ h hL (okL_tl hS) hM).lin fun rc rs Q k => step_of hT k
      · exact (ih _ _ _ _ _ _ h hL (okL_tl hS) hM).lin fun rc rs Q k => step_of hT k
    | dup =>
      replace h := popT_el h
      rcases h with ⟨a1, x, r, rfl, h⟩ | ⟨x, a1, r, rfl, h⟩
      · exact (ih _ _ _ _ _ _ h hL (okL_cons (by have q := okL_hd hS; exact q) (okL_cons (by have q := okL_hd hS; exact q) (okL_tl hS))) hM).lin fun rc rs Q k => step_of hT k
      · exact (ih _ _ _ _ _ _ h hL (okL_cons trivial (okL_cons trivial (okL_tl hS))) hM).lin fun rc rs Q k => step_of hT k
    | dup2 =>
      replace h := popI_el h
      obtain ⟨a1, y, r1, rfl, h⟩ := h
      replace h := popA_el h
      obtain ⟨x, a2, r, rfl, h⟩ := h
      have hr := okL_tl (okL_tl hS)
      exact (ih _ _ _ _ _ _ h hL (okL_cons (by have q := okL_hd hS; exact q) (okL_cons trivial (okL_cons (by have q := okL_hd hS; exact q) (okL_cons trivial hr)))) hM).lin fun rc rs Q k => step_of hT k
    | ifCond cd off =>
      replace h := popI_el h
      obtain ⟨a1, x, r, rfl, h⟩ := h
      have okx : inR x := okL_hd hS
      have hr := okL_tl hS
      have okk : okO g o := by
        rcases pCond_or h with q | q
        · exact (ih _ _ _ _ _ _ q hL hr hM).1
        · exact (ih _ _ _ _ _ _ q hL hr hM).1
      refine ⟨okk, fun rc rs Q h1 h2 h3 => step_of hT ?_⟩
      show gCond cd (Int32.ofInt x) (nI 0) _ _
      rw [nI_of3]
      exact gCond_of okx inR_0 h (fun q => (ih _ _ _ _ _ _ q hL hr hM).2 rc rs Q h1 h2 h3) (fun q => (ih _ _ _ _ _ _ q hL hr hM).2 rc rs Q h1 h2 h3)
    | if_icmp cd off =>
      replace h := popI_el h
      obtain ⟨a1, y, r1, rfl, h⟩ := h
      replace h := popI_el h
      obtain ⟨a2, x, r, rfl, h⟩ := h
      have oky : inR y := okL_hd hS
      have okx : inR x := okL_hd (okL_tl hS)
      have hr := okL_tl (okL_tl hS)
      have okk : okO g o := by
        rcases pCond_or h with q | q
        · exact (ih _ _ _ _ _ _ q hL hr hM).1
        · exact (ih _ _ _ _ _ _ q hL hr hM).1
      refine ⟨okk, fun rc rs Q h1 h2 h3 => step_of hT ?_⟩
      exact gCond_of okx oky h (fun q => (ih _ _ _ _ _ _ q hL hr hM).2 rc rs Q h1 h2 h3) (fun q => (ih _ _ _ _ _ _ q hL hr hM).2 rc rs Q h1 h2 h3)
    | goto off => exact (ih _ _ _ _ _ _ h hL hS hM).lin fun rc rs Q k => step_of hT k
    | tableswitch df lo hi os =>
      replace h := popI_el h
      obtain ⟨a1, x, r, rfl, h⟩ := h
      have okx : inR x := okL_hd hS
      have hr := okL_tl hS
      by_cases hx : x < lo ∨ hi < x
      · rw [if_pos hx] at h
        have g2 := ih _ _ _ _ _ _ h hL hr hM
        refine ⟨g2.1, fun rc rs Q h1 h2 h3 => step_of hT ⟨fun _ => g2.2 rc rs Q h1 h2 h3, ?_⟩⟩
        by_cases q : x < lo
        · exact gSw_of.gSw_no _ _ (by rw [tInt_of okx]; exact q)
        · have hck := (gFactsA_ok.1.1 m pc _ hT).1
          simp only [gChk, Bool.and_eq_true, decide_eq_true_eq, beq_iff_eq] at hck
          have h9 := hck.2.2
          refine gSw_hi _ _ ?_
          rw [tInt_of okx, Array.length_toList]
          have := hx.resolve_left q
          omega
      · rw [if_neg hx] at h
        obtain ⟨t, ht⟩ := pSw_el _ _ h
        refine ⟨(ih _ _ _ _ _ _ ht hL hr hM).1, fun rc rs Q h1 h2 h3 => step_of hT ⟨fun q => ?_, gSw_of okx (fun t ht => (ih _ _ _ _ _ _ ht hL hr hM).2 rc rs Q h1 h2 h3) _ _ h⟩⟩
        rw [tInt_of okx] at q
        exact absurd q hx
    | getfield idx =>
      replace h := popA_el h
      obtain ⟨s, a1, r, rfl, h⟩ := h
      replace h := bif_el h
      obtain ⟨hb, h⟩ := h
      simp only [Bool.and_eq_true] at hb
      obtain ⟨hf, hw, ho⟩ := hb
      obtain ⟨f1, f2, f3⟩ := pFld_el hf
      obtain ⟨z, hk⟩ := pO_el ho
      have hG : (iG g u).2 s = some (.inl (a, (List.range (gBlk a).length).map (iFld u s a))) := by
        show iCell u s (pK g s) = _
        rw [hk]
        rfl
      have hr := okL_tl hS
      cases c with
      | zero =>
        refine (ih _ _ _ _ _ _ h hL (okL_cons (hM.1 s b) hr) hM).lin fun rc rs Q k => step_of hT ?_
        refine ⟨_, Int32.ofInt (u s b), hG, ?_, k⟩
        rw [iFld_get f1]
        unfold iFld
        rw [if_pos (f2 (Or.inl rfl))]
      | succ c =>
        have e1 : pOff a b ≠ 0 := f3 fun q => q.elim (fun q => by cases q) (fun q => by cases q)
        have hfs : ((List.range (gBlk a).length).map (iFld u s a))[b]? = some (.ref (s + pOff a b)) := by
          rw [iFld_get f1]
          unfold iFld
          rw [if_neg e1]
        refine (ih _ _ _ _ _ _ h hL (okL_cons trivial hr) hM).lin fun rc rs Q k => step_of hT ?_
        exact ⟨_, s + pOff a b, hG, hfs, k⟩
    | putfield idx =>
      replace h := popI_el h
      obtain ⟨a1, x, r1, rfl, h⟩ := h
      replace h := popA_el h
      obtain ⟨s, a2, r, rfl, h⟩ := h
      replace h := bif_el h
      obtain ⟨hb, h⟩ := h
      simp only [Bool.and_eq_true] at hb
      obtain ⟨hf, hw, ho⟩ := hb
      obtain ⟨f1, f2, f3⟩ := pFld_el hf
      obtain ⟨z, hk⟩ := pO_el ho
      have hG : (iG g u).2 s = some (.inl (a, (List.range (gBlk a).length).map (iFld u s a))) := by
        show iCell u s (pK g s) = _
        rw [hk]
        rfl
      have hr := okL_tl (okL_tl hS)
      have okx : inR x := okL_hd hS
      have hM' : okM g (up u s (b : Int) x) := okM_up hM okx (fun n e => by rw [hk] at e; cases e)
      have fin : (c = 0 ∨ c = 2) → iG g (up u s (b : Int) x) = gU (iG g u) s (.inl (a, ((List.range (gBlk a).length).map (iFld u s a)).set b (.int (Int32.ofInt x)))) := fun q => by
        refine iG_set (fun a' j ha => up_ne ha) ?_
        rw [hk]
        show some (Sum.inl (a, _)) = _
        rw [iFld_set (f2 q)]
      split at h
      · refine (ih _ _ _ _ _ _ h hL hr hM').lin fun rc rs Q k => step_of hT ?_
        rw [fin (Or.inl rfl)] at k
        exact ⟨pW_el hw, _, hG, trivial, k⟩
      · replace h := bif_el h
        obtain ⟨hb1, h⟩ := h
        refine (ih _ _ _ _ _ _ h hL hr hM').lin fun rc rs Q k => step_of hT ?_
        rw [fin (Or.inr rfl)] at k
        exact ⟨pW_el hw, _, hG, b01_of hb1, k⟩
      · cases h
    | getstatic idx => exact (ih _ _ _ _ _ _ h hL (okL_cons trivial hS) hM).lin fun rc rs Q k => step_of hT k
    | iaload =>
      replace h := popI_el h
      obtain ⟨a1, j, r1, rfl, h⟩ := h
      replace h := popA_el h
      obtain ⟨s, a2, r, rfl, h⟩ := h
      replace h := bif_el h
      obtain ⟨hb, h⟩ := h
      obtain ⟨len, hk, h0, h1⟩ := pR_el hb
      have okj : inR j := okL_hd hS
      have hr := okL_tl (okL_tl hS)
      refine (ih _ _ _ _ _ _ h hL (okL_cons (hM.1 s j) hr) hM).lin fun rc rs Q k => step_of hT ?_
      refine ⟨len, fun q => Int32.ofInt (u s q), ?_, vp_of okj h0 h1, ?_⟩
      · show iCell u s (pK g s) = _
        rw [hk]
        rfl
      · show WP m rc rs ni _ (.int (Int32.ofInt (u s (((Int32.ofInt j).toNatClampNeg : Nat) : Int))) :: _) _ Q
        rw [clmp_of okj, toNat_cast h0]
        exact k
    | baload =>
      replace h := popI_el h
      obtain ⟨a1, j, r1, rfl, h⟩ := h
      replace h := popA_el h
      obtain ⟨s, a2, r, rfl, h⟩ := h
      replace h := bif_el h
      obtain ⟨hb, h⟩ := h
      rw [Bool.and_eq_true] at hb
      obtain ⟨hw, hb⟩ := hb
      obtain ⟨len, hk, h0, h1⟩ := pR_el hb
      have okj : inR j := okL_hd hS
      have hr := okL_tl (okL_tl hS)
      refine (ih _ _ _ _ _ _ h hL (okL_cons (hM.1 s j) hr) hM).lin fun rc rs Q k => step_of hT ?_
      refine ⟨pW_el hw, len, fun q => Int32.ofInt (u s q), ?_, vp_of okj h0 h1, ?_⟩
      · show iCell u s (pK g s) = _
        rw [hk]
        rfl
      · show WP m rc rs ni _ (.int (Int32.ofInt (u s (((Int32.ofInt j).toNatClampNeg : Nat) : Int))) :: _) _ Q
        rw [clmp_of okj, toNat_cast h0]
        exact k
    | laload => cases h
    | aaload =>
      replace h := popI_el h
      obtain ⟨a1, j, r1, rfl, h⟩ := h
      replace h := popA_el h
      obtain ⟨s, a2, r, rfl, h⟩ := h
      replace h := bif_el h
      obtain ⟨hb, h⟩ := h
      rw [Bool.and_eq_true] at hb
      obtain ⟨hw, hb⟩ := hb
      obtain ⟨len, hk, h0, h1⟩ := pR_el hb
      have okj : inR j := okL_hd hS
      have hr := okL_tl (okL_tl hS)
      refine (ih _ _ _ _ _ _ h hL (okL_cons trivial hr) hM).lin fun rc rs Q k => step_of hT ?_
      refine ⟨pW_el hw, len, fun q => if q < len then some (s + 1 + 17 * q) else none, s + 1 + 17 * j.toNat, ?_, vp_of okj h0 h1, ?_, k⟩
      · show iCell u s (pK g s) = _
        rw [hk]
        rfl
      · simp only [clmp_of okj]
        rw [if_pos (by omega)]
    | iastore =>
      replace h := popI_el h
      obtain ⟨a0, x, r0, rfl, h⟩ := h
      replace h := popI_el h
      obtain ⟨a1, j, r1, rfl, h⟩ := h
      replace h := popA_el h
      obtain ⟨s, a2, r, rfl, h⟩ := h
      replace h := bif_el h
      obtain ⟨hb, h⟩ := h
      rw [Bool.and_eq_true] at hb
      obtain ⟨hw, hb⟩ := hb
      obtain ⟨len, hk, h0, h1⟩ := pR_el hb
      have okx : inR x := okL_hd hS
      have okj : inR j := okL_hd (okL_tl hS)
      have hr := okL_tl (okL_tl (okL_tl hS))
      have hM' : okM g (up u s j x) := okM_up hM okx (fun n e => by rw [hk] at e; cases e)
      have fin : iG g (up u s j x) = gU (iG g u) s (.inr (.int, len, .inl (upd (fun k : Nat => Int32.ofInt (u s k)) (Int32.ofInt j).toNatClampNeg (Int32.ofInt x)))) := by
        refine iG_set (fun a' j ha => up_ne ha) ?_
        rw [hk, ← up_arr okj h0]
        rfl
      refine (ih _ _ _ _ _ _ h hL hr hM').lin fun rc rs Q k => step_of hT ?_
      rw [fin] at k
      refine ⟨pW_el hw, len, _, ?_, vp_of okj h0 h1, k⟩
      show iCell u s (pK g s) = _
      rw [hk]
      rfl
    | bastore =>
      replace h := popI_el h
      obtain ⟨a0, x, r0, rfl, h⟩ := h
      replace h := popI_el h
      obtain ⟨a1, j, r1, rfl, h⟩ := h
      replace h := popA_el h
      obtain ⟨s, a2, r, rfl, h⟩ := h
      replace h := bif_el h
      obtain ⟨hb, h⟩ := h
      rw [Bool.and_eq_true] at hb
      obtain ⟨hw, hb⟩ := hb
      replace h := bif_el h
      obtain ⟨hb1, h⟩ := h
      obtain ⟨len, hk, h0, h1⟩ := pR_el hb
      have okx : inR x := okL_hd hS
      have okj : inR j := okL_hd (okL_tl hS)
      have hr := okL_tl (okL_tl (okL_tl hS))
      have hM' : okM g (up u s j x) := okM_up hM okx (fun n e => b01_in hb1)
      have fin : iG g (up u s j x) = gU (iG g u) s (.inr (.boolean, len, .inl (upd (fun k : Nat => Int32.ofInt (u s k)) (Int32.ofInt j).toNatClampNeg (Int32.ofInt x)))) := by
        refine iG_set (fun a' j ha => up_ne ha) ?_
        rw [hk, ← up_arr okj h0]
        rfl
      refine (ih _ _ _ _ _ _ h hL hr hM').lin fun rc rs Q k => step_of hT ?_
      rw [fin] at k
      refine ⟨pW_el hw, b01_of hb1, len, _, ?_, vp_of okj h0 h1, k⟩
      show iCell u s (pK g s) = _
      rw [hk]
      rfl
    | lastore => cases h
    | arraylength =>
      replace h := popA_el h
      obtain ⟨s, a2, r, rfl, h⟩ := h
      replace h := pLen_el h
      obtain ⟨len, hk, h⟩ := h
      have hr := okL_tl hS
      have hlen : len < 2147483648 := pK_len hM hk
      refine (ih _ _ _ _ _ _ h hL (okL_cons ⟨by omega, by omega⟩ hr) hM).lin fun rc rs Q k => step_of hT ?_
      refine ⟨len, fun q => Int32.ofInt (u s q), ?_, hlen, ?_⟩
      · show iCell u s (pK g s) = _
        rw [hk]
        rfl
      · rw [nI_of3]
        exact k
    | new idx =>
      cases e with
      | zero => cases h
      | succ e =>
        replace h := bif_el h
        obtain ⟨hb, h⟩ := h
        cases h
        refine ⟨okO_exc hM a, fun rc rs Q h1 h2 h3 => step_of hT ⟨by have : g.2.1 + 1 - g.2.1 ≤ rc := h1; omega, by have : 6 * (g.2.1 + 1 - g.2.1) ≤ rs := h2; omega, ?_⟩⟩
        show bif Nat.ble (gCat (iS S)) 8 then _ else False
        rw [iS_cat, hb]
        exact h3
    | invokevirtual idx =>
      replace h : (bif Nat.ble 20 e then pStr (ev n m) L S g u ni e else bif pRcv g a b S then pInv (fun a as g u => ev n a 0 (pEn a as) [] g u) (ev n m) (gHh m) pc L S g u ni a b e else none) = some o := h
      by_cases he : Nat.ble 20 e = true
      · rw [he, cond_true] at h
        unfold pStr at h
        split at h
        · replace h := popA_el h
          obtain ⟨s, a2, r, rfl, h⟩ := h
          replace h := bif_el h
          obtain ⟨hb, h⟩ := h
          replace h := pTx_el h
          obtain ⟨tx, htx, h⟩ := h
          have hlen := (gStr_small htx).1
          refine (ih _ _ _ _ _ _ h hL (okL_cons ⟨by omega, by omega⟩ (okL_tl hS)) hM).lin fun rc rs Q k => step_of hT ⟨trivial, ?_⟩
          show bif Nat.ble (gCat (iS r)) 8 then _ else False
          rw [iS_cat, hb]
          refine ⟨tx, htx, ?_⟩
          rw [nI_of3]
          exact k
        · replace h := popI_el h
          obtain ⟨a1, j, r1, rfl, h⟩ := h
          replace h := popA_el h
          obtain ⟨s, a2, r, rfl, h⟩ := h
          replace h := bif_el h
          obtain ⟨hb, h⟩ := h
          replace h := pTx_el h
          obtain ⟨tx, htx, h⟩ := h
          replace h := bif_el h
          obtain ⟨hj, h⟩ := h
          simp only [Bool.and_eq_true, decide_eq_true_eq] at hj
          obtain ⟨h0, h1⟩ := hj
          have hch : tx[j.toNat]? = some (tx.getD j.toNat 0) := by
            have : j.toNat < tx.length := by omega
            rw [List.getD_eq_getElem?_getD, List.getElem?_eq_getElem this]
            rfl
          have hc := (gStr_small htx).2 _ _ hch
          refine (ih _ _ _ _ _ _ h hL (okL_cons ⟨by omega, by omega⟩ (okL_tl (okL_tl hS))) hM).lin fun rc rs Q k => step_of hT ⟨trivial, ?_⟩
          show bif Nat.ble (gCat (iS r)) 8 then _ else False
          rw [iS_cat, hb]
          refine ⟨tx, j.toNat, _, htx, ?_, hch, ?_⟩
          · rw [nI_of3, toNat_cast h0]
          · rw [nI_of3]
            exact k
        · replace h := popA_el h
          obtain ⟨s, a2, r, rfl, h⟩ := h
          replace h := bif_el h
          obtain ⟨hb, h⟩ := h
          replace h := bif_el h
          obtain ⟨ho, h⟩ := h
          replace h := pLen5_el h
          obtain ⟨k, hk, h⟩ := h
          have hlen := pK_len (u := u) hM hk
          refine (ih _ _ _ _ _ _ h hL (okL_cons ⟨by omega, by omega⟩ (okL_tl hS)) hM).lin fun rc rs Q kk => step_of hT ⟨trivial, ?_⟩
          show bif Nat.ble (gCat (iS r)) 8 then _ else False
          rw [iS_cat, hb]
          refine ⟨Nat.le_of_ble_eq_true ho, k, fun j => Int32.ofInt (u s j), ?_, ?_⟩
          · show iCell u s (pK g s) = _
            rw [hk]
            rfl
          · rw [nI_of3]
            exact kk
        · replace h := popI_el h
          obtain ⟨a1, j, r1, rfl, h⟩ := h
          replace h := popA_el h
          obtain ⟨s, a2, r, rfl, h⟩ := h
          replace h := bif_el h
          obtain ⟨hb, h⟩ := h
          replace h := bif_el h
          obtain ⟨hj, h⟩ := h
          rw [Bool.and_eq_true] at hj
          obtain ⟨ho, hj⟩ := hj
          obtain ⟨k, hk, h0, h1⟩ := pR_el hj
          have okj : inR j := okL_hd hS
          refine (ih _ _ _ _ _ _ h hL (okL_cons (hM.1 s j) (okL_tl (okL_tl hS))) hM).lin fun rc rs Q kk => step_of hT ⟨trivial, ?_⟩
          show bif Nat.ble (gCat (iS r)) 8 then _ else False
          rw [iS_cat, hb]
          refine ⟨Nat.le_of_ble_eq_true ho, k, fun j => Int32.ofInt (u s j), ?_, vp_of okj h0 h1, ?_⟩
          · show iCell u s (pK g s) = _
            rw [hk]
            rfl
          · show WP m rc rs ni _ (.int (Int32.ofInt (u s (((Int32.ofInt j).toNatClampNeg : Nat) : Int))) :: _) _ Q
            rw [clmp_of okj, toNat_cast h0]
            exact kk
        · cases h
      · rw [Bool.not_eq_true] at he
        rw [he, cond_false] at h
        replace h := bif_el h
        obtain ⟨hr, h⟩ := h
        obtain ⟨k1, k2⟩ := ev_call ihs hL hS hM h
        exact ⟨k1, fun rc rs Q h1 h2 h3 => step_of hT ⟨pRcv_of hr, k2 rc rs c d Q h1 h2 h3⟩⟩
    | invokestatic idx =>
      replace h : (bif Nat.ble 20 e then pStat (ev n m) L S g u ni e else pInv (fun a as g u => ev n a 0 (pEn a as) [] g u) (ev n m) (gHh m) pc L S g u ni a b e) = some o := h
      by_cases he : Nat.ble 20 e = true
      · rw [he, cond_true] at h
        have hX : ∀ (L S : List PV) (u : PM), ev n m ni L S g u = some o → okL L → okL S → okM g u → G2 m ni L S g u o := fun L S u h1 h2 h3 h4 => ih _ _ _ _ _ _ h1 h2 h3 h4
        by_cases h25 : e = 25
        · subst h25
          exact ev_arraycopy hX ⟨idx, rfl⟩ hT hL hS hM h
        unfold pStat at h
        split at h
        · replace h := popI_el h
          obtain ⟨a1, y, r1, rfl, h⟩ := h
          replace h := popI_el h
          obtain ⟨a2, x, r, rfl, h⟩ := h
          replace h := bif_el h
          obtain ⟨hb, h⟩ := h
          have oky : inR y := okL_hd hS
          have okx : inR x := okL_hd (okL_tl hS)
          refine (ih _ _ _ _ _ _ h hL (okL_cons (inR_min okx oky) (okL_tl (okL_tl hS))) hM).lin fun rc rs Q k => step_of hT ?_
          show bif Nat.ble (gCat (iS r)) 8 then WP m rc rs ni _ (.int (if Int32.ofInt y < Int32.ofInt x then Int32.ofInt y else Int32.ofInt x) :: _) _ Q else False
          rw [iS_cat, hb, min_of okx oky]
          exact k
        · replace h := popI_el h
          obtain ⟨a1, y, r1, rfl, h⟩ := h
          replace h := popI_el h
          obtain ⟨a2, x, r, rfl, h⟩ := h
          replace h := bif_el h
          obtain ⟨hb, h⟩ := h
          have oky : inR y := okL_hd hS
          have okx : inR x := okL_hd (okL_tl hS)
          refine (ih _ _ _ _ _ _ h hL (okL_cons (inR_max okx oky) (okL_tl (okL_tl hS))) hM).lin fun rc rs Q k => step_of hT ?_
          show bif Nat.ble (gCat (iS r)) 8 then WP m rc rs ni _ (.int (if Int32.ofInt x < Int32.ofInt y then Int32.ofInt y else Int32.ofInt x) :: _) _ Q else False
          rw [iS_cat, hb, max_of okx oky]
          exact k
        · replace h := popI_el h
          obtain ⟨a2, x, r, rfl, h⟩ := h
          replace h := bif_el h
          obtain ⟨hb, h⟩ := h
          have okx : inR x := okL_hd hS
          refine (ih _ _ _ _ _ _ h hL (okL_cons (inR_abs okx) (okL_tl hS)) hM).lin fun rc rs Q k => step_of hT ?_
          show bif Nat.ble (gCat (iS r)) 8 then WP m rc rs ni _ (.int (if 0 ≤ Int32.ofInt x then Int32.ofInt x else 0 - Int32.ofInt x) :: _) _ Q else False
          rw [iS_cat, hb, abs_of okx]
          exact k
        · exact absurd rfl h25
        · cases h
      · rw [Bool.not_eq_true] at he
        rw [he, cond_false] at h
        obtain ⟨k1, k2⟩ := ev_call ihs hL hS hM h
        exact ⟨k1, fun rc rs Q h1 h2 h3 => step_of hT (k2 rc rs c d Q h1 h2 h3)⟩
    | ireturn =>
      replace h := popI_el h
      obtain ⟨a1, x, r, rfl, h⟩ := h
      replace h := popN_el h
      obtain ⟨rfl, h⟩ := h
      have okx : inR x := okL_hd hS
      cases a with
      | zero =>
        cases h
        exact G2.ret hM okx fun rc rs Q k => step_of hT k
      | succ a =>
        replace h := bif_el h
        obtain ⟨hb, h⟩ := h
        cases h
        exact G2.ret hM okx fun rc rs Q k => step_of hT ⟨b01_of hb, k⟩
    | areturn =>
      replace h := popA_el h
      obtain ⟨s, a1, r, rfl, h⟩ := h
      replace h := popN_el h
      obtain ⟨rfl, h⟩ := h
      cases h
      exact G2.ret hM trivial fun rc rs Q k => step_of hT k
    | dreturn =>
      replace h := popD_el h
      obtain ⟨s, a1, r, rfl, h⟩ := h
      replace h := popN_el h
      obtain ⟨rfl, h⟩ := h
      cases h
      exact G2.ret hM (by have q := okL_hd hS; exact q) fun rc rs Q k => step_of hT k
    | freturn =>
      replace h := popF_el h
      obtain ⟨s, a1, r, rfl, h⟩ := h
      replace h := popN_el h
      obtain ⟨rfl, h⟩ := h
      cases h
      exact G2.ret hM (by have q := okL_hd hS; exact q) fun rc rs Q k => step_of hT k
    | return_ =>
      replace h := popN_el h
      obtain ⟨rfl, h⟩ := h
      cases h
      exact G2.ret hM trivial fun rc rs Q k => step_of hT k
    | _ => cases h
theorem ev_sound : ∀ n m, IH n m
  | 0, _ => fun _ _ _ _ _ _ h => nomatch h
  | n + 1, m => ev_step (ev_sound n) m
