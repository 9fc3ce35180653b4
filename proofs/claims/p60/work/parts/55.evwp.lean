/-! ===== the plain machine is sound over the ghost machine ===== -/
def inR (x : Int) : Prop := -2147483648 ≤ x ∧ x < 2147483648
def okV (v : PV) : Prop := match v with
  | (0, _, x) => inR x
  | (2, _, x) => inR x
  | (3, b, _) => b < 18446744073709551616
  | (4, b, _) => b < 4294967296
  | _ => True
def okL (L : List PV) : Prop := ∀ v ∈ L, okV v
def okM (g : PG) (u : PM) : Prop := (∀ a k, inR (u a k)) ∧ (∀ a n k, pK g a = (2, 1, n) → u a k = 0 ∨ u a k = 1) ∧ g.2.2 < 2147483648
def okO (g : PG) (o : PO) : Prop := okV o.2.1 ∧ okM o.2.2.1 o.2.2.2 ∧ o.2.2.1.1 = g.1 ∧ o.2.2.1.2.2 = g.2.2 ∧ g.2.1 ≤ o.2.2.1.2.1
def iV (v : PV) : Value := match v with
  | (0, _, x) => .int (Int32.ofInt x)
  | (1, a, _) => .ref a
  | (2, _, x) => .long (Int64.ofInt x)
  | (3, b, _) => .double (UInt64.ofNat b)
  | (4, b, _) => .float (UInt32.ofNat b)
  | _ => .null
def iLv (v : PV) : Option Value := match v with
  | (0, _, x) => some (.int (Int32.ofInt x))
  | (1, a, _) => some (.ref a)
  | (2, _, x) => some (.long (Int64.ofInt x))
  | (3, b, _) => some (.double (UInt64.ofNat b))
  | (4, b, _) => some (.float (UInt32.ofNat b))
  | _ => none
def iL (L : List PV) : GL := L.map iLv
def iS (S : List PV) : List Value := S.map iV
def iFld (u : PM) (a c j : Nat) : Value := if pOff c j = 0 then .int (Int32.ofInt (u a j)) else .ref (a + pOff c j)
def iCell (u : PM) (a : Nat) (k : Nat × Nat × Nat) : Option GC := match k with
  | (1, c, _) => some (.inl (c, (List.range (gBlk c).length).map (iFld u a c)))
  | (2, 0, n) => some (.inr (.int, n, .inl fun j => Int32.ofInt (u a j)))
  | (2, 1, n) => some (.inr (.boolean, n, .inl fun j => Int32.ofInt (u a j)))
  | (2, 2, n) => some (.inr (.long, n, .inr (.inl fun j => Int64.ofInt (u a j))))
  | (2, 5, n) => some (.inr (.byte, n, .inl fun j => Int32.ofInt (u a j)))
  | (2, 3, n) => some (.inr (.object "TrunkDuel$State", n, .inr (.inr (.inr (.inr fun j => if j < n then some (a + 1 + 17 * j) else none)))))
  | _ => none
def iG (g : PG) (u : PM) : GH := (if g.2.1 = 0 then g.1 else 0, fun a => iCell u a (pK g a))
def Qok (Q : GQ) (o : PO) : Prop := match o with
  | (0, (0, _, x), g, u) => Q.1 (Int32.ofInt x) (iG g u)
  | (0, (5, _, _), g, u) => Q.2.1 (iG g u)
  | (0, (1, a, _), g, u) => Q.2.2.1 a (iG g u)
  | (0, (3, b, _), g, u) => Q.2.2.2.1 (UInt64.ofNat b) (iG g u)
  | (0, (4, b, _), g, u) => Q.2.2.2.2.1 (UInt32.ofNat b) (iG g u)
  | (i + 1, _, g, u) => Q.2.2.2.2.2 (gExc i) (iG g u)
  | _ => False
/-! numbers -/
theorem ofInt_w (z : Int) : Int32.ofInt (w z) = Int32.ofInt z := by
  apply Int32.toInt_inj.mp
  rw [Int32.toInt_ofInt, Int32.toInt_ofInt]
  exact Int.bmod_bmod
theorem inR_w (z : Int) : inR (w z) := by
  have h1 := @Int.le_bmod z 4294967296 (by decide)
  have h2 := @Int.bmod_lt z 4294967296 (by decide)
  unfold w inR
  constructor <;> omega
theorem w_id {x : Int} (h1 : -2147483648 ≤ x) (h2 : x < 2147483648) : w x = x := by
  unfold w
  exact Int.bmod_eq_of_le (by omega) (by omega)
theorem tInt_of {x : Int} (h : inR x) : (Int32.ofInt x).toInt = x := Int32.toInt_ofInt_of_le h.1 h.2
theorem inR_toInt (x : Int32) : inR x.toInt := ⟨Int32.le_toInt x, Int32.toInt_lt x⟩
theorem ofInt_toInt (x : Int32) : Int32.ofInt x.toInt = x := by
  apply Int32.toInt_inj.mp
  rw [tInt_of (inR_toInt x)]
theorem lt_of {x y : Int} (hx : inR x) (hy : inR y) : (Int32.ofInt x < Int32.ofInt y) ↔ x < y := by
  rw [Int32.lt_iff_toInt_lt, tInt_of hx, tInt_of hy]
theorem le_of {x y : Int} (hx : inR x) (hy : inR y) : (Int32.ofInt x ≤ Int32.ofInt y) ↔ x ≤ y := by
  rw [Int32.le_iff_toInt_le, tInt_of hx, tInt_of hy]
theorem eq_of2 {x y : Int} (hx : inR x) (hy : inR y) : (Int32.ofInt x = Int32.ofInt y) ↔ x = y := by
  rw [← Int32.toInt_inj, tInt_of hx, tInt_of hy]
theorem nI_of3 (n : Nat) : nI n = Int32.ofInt (n : Int) := Int32.ofInt_eq_ofNat.symm
theorem gK_num (b a : Nat) : gK b a = Int32.ofInt (pNum b a) := by
  cases b with
  | zero => exact nI_of3 a
  | succ b =>
    show -(nI a) = Int32.ofInt (-(a : Int))
    rw [nI_of3]
    exact (Int32.ofInt_neg _).symm
theorem clmp_of {j : Int} (h : inR j) : (Int32.ofInt j).toNatClampNeg = j.toNat := by
  show (Int32.ofInt j).toInt.toNat = j.toNat
  rw [tInt_of h]
theorem vp_of {j : Int} {n : Nat} (h : inR j) (h0 : 0 ≤ j) (h1 : j < n) : vp_in (Int32.ofInt j) n := by
  rw [vp_in_iff, tInt_of h]
  exact ⟨h0, h1⟩
theorem b01_of {x : Int} (h : b01 x = true) : Int32.ofInt x = nI 0 ∨ Int32.ofInt x = nI 1 := by
  simp only [b01, Bool.or_eq_true, decide_eq_true_eq] at h
  rcases h with rfl | rfl
  · exact Or.inl rfl
  · exact Or.inr rfl
theorem b01_in {x : Int} (h : b01 x = true) : x = 0 ∨ x = 1 := by simpa [b01] using h
/-! the memory -/
theorem iCell_ne {u u' : PM} {a : Nat} {k : Nat × Nat × Nat} (h : ∀ j, u' a j = u a j) : iCell u' a k = iCell u a k := by
  have e : u' a = u a := funext h
  have e2 : ∀ c, iFld u' a c = iFld u a c := fun c => funext fun j => by unfold iFld; rw [h]
  unfold iCell
  split <;> first | rfl | simp only [e, e2]
theorem iG_set {g : PG} {u u' : PM} {o : Nat} {c : GC} (h1 : ∀ a j, a ≠ o → u' a j = u a j) (h2 : iCell u' o (pK g o) = some c) : iG g u' = gU (iG g u) o c := by
  unfold iG gU
  refine Prod.ext rfl (funext fun a => ?_)
  show iCell u' a (pK g a) = if a = o then some c else iCell u a (pK g a)
  by_cases e : a = o
  · subst e; rw [if_pos rfl]; exact h2
  · rw [if_neg e]; exact iCell_ne fun j => h1 a j e
theorem up_ne {u : PM} {o a : Nat} {j v k : Int} (h : a ≠ o) : up u o j v a k = u a k := if_neg fun q => h q.1
theorem okM_up {g : PG} {u : PM} {o : Nat} {j v : Int} (h : okM g u) (hv : inR v) (hb : ∀ n, pK g o = (2, 1, n) → v = 0 ∨ v = 1) : okM g (up u o j v) := by
  obtain ⟨h1, h2, h3⟩ := h
  refine ⟨fun a k => ?_, fun a n k e => ?_, h3⟩
  · unfold up
    split
    · exact hv
    · exact h1 a k
  · unfold up
    split
    · next q => obtain ⟨rfl, -⟩ := q; exact hb n e
    · exact h2 a n k e
theorem pO_el {k : Nat × Nat × Nat} {c : Nat} (h : pO k c = true) : ∃ x, k = (1, c, x) := by
  unfold pO at h
  split at h
  · exact ⟨_, by rw [Nat.eq_of_beq_eq_true h]⟩
  · cases h
theorem pR_el {k : Nat × Nat × Nat} {ty : Nat} {j : Int} (h : pR k ty j = true) : ∃ n : Nat, k = (2, ty, n) ∧ 0 ≤ j ∧ j < n := by
  unfold pR at h
  split at h
  · simp only [Bool.and_eq_true, decide_eq_true_eq] at h
    exact ⟨_, by rw [Nat.eq_of_beq_eq_true h.1], h.2.1, h.2.2⟩
  · cases h
theorem pW_el {o : Nat} (h : pW o = true) : o < gRB := Nat.le_of_ble_eq_true h
/-! taking apart -/
theorem bif_el {b : Bool} {x : Option PO} {o : PO} (h : (bif b then x else none) = some o) : b = true ∧ x = some o := by
  cases b
  · cases h
  · exact ⟨rfl, h⟩
theorem popI_el {S : List PV} {K : Int → List PV → Option PO} {o : PO} (h : popI S K = some o) : ∃ a x r, S = (0, a, x) :: r ∧ K x r = some o := by
  rcases S with _ | ⟨⟨_ | t, a, x⟩, r⟩ <;> first | exact ⟨_, _, _, rfl, h⟩ | cases h
theorem popA_el {S : List PV} {K : Nat → List PV → Option PO} {o : PO} (h : popA S K = some o) : ∃ a x r, S = (1, a, x) :: r ∧ K a r = some o := by
  rcases S with _ | ⟨⟨_ | _ | t, a, x⟩, r⟩ <;> first | exact ⟨_, _, _, rfl, h⟩ | cases h
theorem popL_el {S : List PV} {K : Int → List PV → Option PO} {o : PO} (h : popL S K = some o) : ∃ a x r, S = (2, a, x) :: r ∧ K x r = some o := by
  rcases S with _ | ⟨⟨_ | _ | _ | t, a, x⟩, r⟩ <;> first | exact ⟨_, _, _, rfl, h⟩ | cases h
theorem popD_el {S : List PV} {K : Nat → List PV → Option PO} {o : PO} (h : popD S K = some o) : ∃ a x r, S = (3, a, x) :: r ∧ K a r = some o := by
  rcases S with _ | ⟨⟨_ | _ | _ | _ | t, a, x⟩, r⟩ <;> first | exact ⟨_, _, _, rfl, h⟩ | cases h
theorem popF_el {S : List PV} {K : Nat → List PV → Option PO} {o : PO} (h : popF S K = some o) : ∃ a x r, S = (4, a, x) :: r ∧ K a r = some o := by
  rcases S with _ | ⟨⟨_ | _ | _ | _ | _ | t, a, x⟩, r⟩ <;> first | exact ⟨_, _, _, rfl, h⟩ | cases h
theorem popT_el {S : List PV} {K0 : Int → List PV → Option PO} {K : Nat → List PV → Option PO} {o : PO} (h : popT S K0 K = some o) : (∃ a x r, S = (0, a, x) :: r ∧ K0 x r = some o) ∨ ∃ a x r, S = (1, a, x) :: r ∧ K a r = some o := by
  rcases S with _ | ⟨⟨_ | _ | t, a, x⟩, r⟩ <;> first | exact Or.inl ⟨_, _, _, rfl, h⟩ | exact Or.inr ⟨_, _, _, rfl, h⟩ | cases h
theorem popN_el {S : List PV} {K : Option PO} {o : PO} (h : popN S K = some o) : S = [] ∧ K = some o := by
  rcases S with _ | ⟨v, r⟩
  · exact ⟨rfl, h⟩
  · cases h
theorem pTx_el {s : Option (List Nat)} {K : List Nat → Option PO} {o : PO} (h : pTx s K = some o) : ∃ tx, s = some tx ∧ K tx = some o := by
  rcases s with _ | tx
  · cases h
  · exact ⟨tx, rfl, h⟩
theorem pLen_el {k : Nat × Nat × Nat} {K : Nat → Option PO} {o : PO} (h : pLen k K = some o) : ∃ n, k = (2, 0, n) ∧ K n = some o := by
  rcases k with ⟨_ | _ | _ | a, _ | b, c⟩ <;> first | exact ⟨_, rfl, h⟩ | cases h
theorem pLen5_el {k : Nat × Nat × Nat} {K : Nat → Option PO} {o : PO} (h : pLen5 k K = some o) : ∃ n, k = (2, 5, n) ∧ K n = some o := by
  rcases k with ⟨_ | _ | _ | a, _ | _ | _ | _ | _ | _ | b, c⟩ <;> first | exact ⟨_, rfl, h⟩ | cases h
theorem pLdI_el {L : List PV} {k : Nat} {K : Int → Option PO} {o : PO} (h : pLdI L k K = some o) : ∃ a x, L[k]? = some (0, a, x) ∧ K x = some o := by
  unfold pLdI at h
  rcases e : L[k]? with _ | ⟨_ | t, a, x⟩ <;> rw [e] at h <;> first | exact ⟨_, _, rfl, h⟩ | cases h
theorem pLdA_el {L : List PV} {k : Nat} {K : Nat → Option PO} {o : PO} (h : pLdA L k K = some o) : ∃ a x, L[k]? = some (1, a, x) ∧ K a = some o := by
  unfold pLdA at h
  rcases e : L[k]? with _ | ⟨_ | _ | t, a, x⟩ <;> rw [e] at h <;> first | exact ⟨_, _, rfl, h⟩ | cases h
theorem pLdD_el {L : List PV} {k : Nat} {K : Nat → Option PO} {o : PO} (h : pLdD L k K = some o) : ∃ a x, L[k]? = some (3, a, x) ∧ K a = some o := by
  unfold pLdD at h
  rcases e : L[k]? with _ | ⟨_ | _ | _ | _ | t, a, x⟩ <;> rw [e] at h <;> first | exact ⟨_, _, rfl, h⟩ | cases h
theorem cI_el {r : Option PO} {k : Int → PG → PM → Option PO} {h : Nat → PG → PM → Option PO} {o : PO} (e : cI r k h = some o) : (∃ a x g u, r = some (0, (0, a, x), g, u) ∧ k x g u = some o) ∨ ∃ i v g u, r = some (i + 1, v, g, u) ∧ h i g u = some o := by
  rcases r with _ | ⟨_ | i, ⟨_ | t, a, x⟩, g, u⟩ <;> first | exact Or.inl ⟨_, _, _, _, rfl, e⟩ | exact Or.inr ⟨_, _, _, _, rfl, e⟩ | cases e
theorem cV_el {r : Option PO} {k : PG → PM → Option PO} {h : Nat → PG → PM → Option PO} {o : PO} (e : cV r k h = some o) : (∃ a x g u, r = some (0, (5, a, x), g, u) ∧ k g u = some o) ∨ ∃ i v g u, r = some (i + 1, v, g, u) ∧ h i g u = some o := by
  rcases r with _ | ⟨_ | i, ⟨_ | _ | _ | _ | _ | _ | t, a, x⟩, g, u⟩ <;> first | exact Or.inl ⟨_, _, _, _, rfl, e⟩ | exact Or.inr ⟨_, _, _, _, rfl, e⟩ | cases e
theorem cR_el {r : Option PO} {k : Nat → PG → PM → Option PO} {o : PO} (e : cR r k = some o) : ∃ a x g u, r = some (0, (1, a, x), g, u) ∧ k a g u = some o := by
  rcases r with _ | ⟨_ | i, ⟨_ | _ | t, a, x⟩, g, u⟩ <;> first | exact ⟨_, _, _, _, rfl, e⟩ | cases e
theorem cD_el {r : Option PO} {k : Nat → PG → PM → Option PO} {o : PO} (e : cD r k = some o) : ∃ a x g u, r = some (0, (3, a, x), g, u) ∧ k a g u = some o := by
  rcases r with _ | ⟨_ | i, ⟨_ | _ | _ | _ | t, a, x⟩, g, u⟩ <;> first | exact ⟨_, _, _, _, rfl, e⟩ | cases e
theorem cF_el {r : Option PO} {k : Nat → PG → PM → Option PO} {o : PO} (e : cF r k = some o) : ∃ a x g u, r = some (0, (4, a, x), g, u) ∧ k a g u = some o := by
  rcases r with _ | ⟨_ | i, ⟨_ | _ | _ | _ | _ | t, a, x⟩, g, u⟩ <;> first | exact ⟨_, _, _, _, rfl, e⟩ | cases e
/-! locals -/
theorem iL_get {L : List PV} {k : Nat} {v : PV} (h : L[k]? = some v) : (iL L)[k]? = some (iLv v) := by
  unfold iL
  rw [List.getElem?_map, h]
  rfl
theorem okL_get {L : List PV} {k : Nat} {v : PV} (h : L[k]? = some v) (hL : okL L) : okV v := hL v (List.mem_of_getElem? h)
theorem iL_kill (L : List PV) (k : Nat) : gKill (iL L) k = iL (pKill L k) := by
  cases k with
  | zero => rfl
  | succ j =>
    unfold gKill pKill
    cases h : L[j]? with
    | none =>
      have e : (iL L)[j]? = none := by unfold iL; rw [List.getElem?_map, h]; rfl
      simp only [e, h]
    | some v =>
      have e := iL_get h
      rcases v with ⟨_ | _ | _ | _ | _ | t, a, x⟩ <;> simp only [e, h, iLv] <;> first | rfl | (unfold iL; rw [List.map_set]; rfl)
theorem iL_st1 (L : List PV) (k : Nat) (v : PV) (x : Value) (h : iLv v = some x) : gSt1 (iL L) k x = iL (pSt1 L k v) := by
  unfold gSt1 pSt1
  rw [iL_kill]
  unfold iL
  rw [List.map_set, h]
theorem iL_st2 (L : List PV) (k : Nat) (v : PV) (x : Value) (h : iLv v = some x) : gSt2 (iL L) k x = iL (pSt2 L k v) := by
  unfold gSt2 pSt2
  rw [iL_kill]
  unfold iL
  rw [List.map_set, List.map_set, h]
  rfl
theorem okL_set {L : List PV} {k : Nat} {v : PV} (hL : okL L) (hv : okV v) : okL (L.set k v) := fun q hq => by
  rcases List.mem_or_eq_of_mem_set hq with h | rfl
  · exact hL q h
  · exact hv
theorem okL_kill {L : List PV} {k : Nat} (hL : okL L) : okL (pKill L k) := by
  unfold pKill
  split
  · exact hL
  · split
    · exact okL_set hL trivial
    · exact okL_set hL trivial
    · exact hL
theorem okL_st1 {L : List PV} {k : Nat} {v : PV} (hL : okL L) (hv : okV v) : okL (pSt1 L k v) := okL_set (okL_kill hL) hv
theorem okL_st2 {L : List PV} {k : Nat} {v : PV} (hL : okL L) (hv : okV v) : okL (pSt2 L k v) := okL_set (okL_set (okL_kill hL) hv) trivial
theorem okL_cons {v : PV} {L : List PV} (hv : okV v) (hL : okL L) : okL (v :: L) := fun q hq => by
  rcases List.mem_cons.mp hq with rfl | h
  · exact hv
  · exact hL q h
theorem okL_tl {v : PV} {L : List PV} (h : okL (v :: L)) : okL L := fun q hq => h q (List.mem_cons_of_mem _ hq)
theorem okL_hd {v : PV} {L : List PV} (h : okL (v :: L)) : okV v := h v List.mem_cons_self
theorem okL_mask : ∀ {bs : List Bool} {L : List PV}, okL L → okL (pMask bs L)
  | [], _, h => h
  | true :: _, [], h => h
  | false :: _, [], h => h
  | true :: bs, _ :: L, h => okL_cons (okL_hd h) (okL_mask (okL_tl h))
  | false :: bs, _ :: L, h => okL_cons trivial (okL_mask (okL_tl h))
theorem okL_cut {m pc : Nat} {L : List PV} (h : okL L) : okL (pCut m pc L) := by
  unfold pCut
  split
  · exact okL_mask h
  · exact h
theorem gSub_mask : ∀ (bs : List Bool) (L : List PV), gSub (iL (pMask bs L)) (iL L)
  | [], L => gSub.rf _
  | true :: _, [] => gSub.rf _
  | false :: _, [] => gSub.rf _
  | true :: bs, v :: L => by
    obtain ⟨h1, h2⟩ := gSub_mask bs L
    refine ⟨congrArg Nat.succ h1, fun i x h => ?_⟩
    cases i with
    | zero => exact h
    | succ i => exact h2 i x h
  | false :: bs, v :: L => by
    obtain ⟨h1, h2⟩ := gSub_mask bs L
    refine ⟨congrArg Nat.succ h1, fun i x h => ?_⟩
    cases i with
    | zero => exact absurd h (by simp [pMask, iL, iLv])
    | succ i => exact h2 i x h
theorem gSub_cut (m pc : Nat) (L : List PV) : gSub (iL (pCut m pc L)) (iL L) := by
  unfold pCut
  split
  · exact gSub_mask _ _
  · exact gSub.rf _
theorem iS_cat (S : List PV) : gCat (iS S) = pCat S := by
  induction S with
  | nil => rfl
  | cons v r ih =>
    rcases v with ⟨_ | _ | _ | _ | _ | t, a, x⟩ <;> (show gCat (iV _ :: iS r) = _; simp only [iV, gCat, pCat, ih]; try rfl)
theorem pTag_el {S : List PV} (h : pTag S = true) : ∀ v ∈ S, v.1 = 0 ∨ v.1 = 1 := by
  induction S with
  | nil => intro v hv; cases hv
  | cons w r ih =>
    rcases w with ⟨_ | _ | t, a, x⟩
    · intro v hv
      rcases List.mem_cons.mp hv with rfl | hv
      · exact Or.inl rfl
      · exact ih h v hv
    · intro v hv
      rcases List.mem_cons.mp hv with rfl | hv
      · exact Or.inr rfl
      · exact ih h v hv
    · cases h
theorem pTag_cat {S : List PV} (h : ∀ v ∈ S, v.1 = 0 ∨ v.1 = 1) : pCat S = S.length := by
  induction S with
  | nil => rfl
  | cons w r ih =>
    have ih := ih fun v hv => h v (List.mem_cons_of_mem _ hv)
    rcases w with ⟨t, a, x⟩
    rcases h ⟨t, a, x⟩ List.mem_cons_self with q | q <;> (cases q; simp only [pCat, ih, List.length_cons]; omega)
theorem iLv_tag {v : PV} (h : v.1 = 0 ∨ v.1 = 1) : iLv v = some (iV v) := by
  rcases v with ⟨t, a, x⟩
  rcases h with q | q <;> (cases q; rfl)
theorem iL_en {m : Nat} {as : List PV} (h : ∀ v ∈ as, v.1 = 0 ∨ v.1 = 1) : iL (pEn m as) = gEntry m (iS as) := by
  unfold iL pEn gEntry iS
  rw [List.map_append, List.map_replicate, List.length_map, List.map_map]
  congr 1
  exact List.map_congr_left fun v hv => iLv_tag (h v hv)
theorem okL_en {m : Nat} {as : List PV} (h : okL as) : okL (pEn m as) := fun v hv => by
  rcases List.mem_append.mp hv with q | q
  · exact h v q
  · rw [(List.mem_replicate.mp q).2]
    trivial
theorem iS_take (b : Nat) (S : List PV) : (iS S).take b = iS (S.take b) := by unfold iS; rw [List.map_take]
theorem iS_drop (b : Nat) (S : List PV) : (iS S).drop b = iS (S.drop b) := by unfold iS; rw [List.map_drop]
theorem iS_rev (S : List PV) : (iS S).reverse = iS S.reverse := by unfold iS; rw [List.map_reverse]
/-! one step -/
/-- what an answer of the plain machine gives -/
def G2 (m pc : Nat) (L S : List PV) (g : PG) (u : PM) (o : PO) : Prop := okO g o ∧ ∀ (rc rs : Nat) (Q : GQ), o.2.2.1.2.1 - g.2.1 ≤ rc → 6 * (o.2.2.1.2.1 - g.2.1) ≤ rs → Qok Q o → WP m rc rs pc (iL L) (iS S) (iG g u) Q
theorem G2.lin {m pc n : Nat} {L S L' S' : List PV} {g : PG} {u u' : PM} {o : PO} (h : G2 m n L' S' g u' o) (hw : ∀ rc rs Q, WP m rc rs n (iL L') (iS S') (iG g u') Q → WP m rc rs pc (iL L) (iS S) (iG g u) Q) : G2 m pc L S g u o :=
  ⟨h.1, fun rc rs Q h1 h2 h3 => hw rc rs Q (h.2 rc rs Q h1 h2 h3)⟩
/-- the induction's hypothesis for n, at the place behind -/
def IH (n m : Nat) : Prop := ∀ (pc : Nat) (L S : List PV) (g : PG) (u : PM) (o : PO), ev n m pc L S g u = some o → okL L → okL S → okM g u → G2 m pc L S g u o
