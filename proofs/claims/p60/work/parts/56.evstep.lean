/-! ===== the plain machine is sound over the ghost machine: the steps ===== -/
theorem step_of {m rc rs pc : Nat} {ls : GL} {st : List Value} {G : GH} {Q : GQ} {E : GE} (hT : gLook (gTab m) pc = some E)
    (h : stepG gStr gExc gBlk gCls (fun _ => some E) (gHh m) (gCx WP) (fun rc rs pc ls st G => WP m rc rs pc ls st G Q) Q rc rs pc ls st G) : WP m rc rs pc ls st G Q := by
  refine WP.step ?_
  unfold gStep
  unfold stepG at h ⊢
  rw [hT]
  exact h
theorem gLdI_of {ls : GL} {k : Nat} {x : Int32} {K : Int32 → Prop} (h : ls[k]? = some (some (.int x))) (hk : K x) : gLdI ls k K := by
  unfold gLdI; rw [h]; exact hk
theorem gLdA_of {ls : GL} {k x : Nat} {K : Nat → Prop} (h : ls[k]? = some (some (.ref x))) (hk : K x) : gLdA ls k K := by
  unfold gLdA; rw [h]; exact hk
theorem gLdD_of {ls : GL} {k : Nat} {x : UInt64} {K : UInt64 → Prop} (h : ls[k]? = some (some (.double x))) (hk : K x) : gLdD ls k K := by
  unfold gLdD; rw [h]; exact hk
theorem inR_num {b a : Nat} (h : Nat.ble a 2147483647 = true) : inR (pNum b a) := by
  have h : a ≤ 2147483647 := Nat.le_of_ble_eq_true h
  cases b with
  | zero => exact ⟨by show -2147483648 ≤ (a : Int); omega, by show (a : Int) < _; omega⟩
  | succ b => exact ⟨by show -2147483648 ≤ -(a : Int); omega, by show -(a : Int) < _; omega⟩
theorem gInc_of {x : Int} {b a : Nat} : gInc (Int32.ofInt x) b a = Int32.ofInt (pInc x b a) := by
  unfold gInc pInc
  cases b with
  | zero => show _ + _ = Int32.ofInt (w _); rw [ofInt_w, Int32.ofInt_add, nI_of3]
  | succ b => show _ - _ = Int32.ofInt (w _); rw [ofInt_w, Int32.ofInt_sub, nI_of3]
theorem inR_inc {x : Int} {b a : Nat} : inR (pInc x b a) := by
  unfold pInc
  cases b
  · exact inR_w _
  · exact inR_w _
theorem gCond_of {cd : Jvm.ClassFile.Cond} {x y : Int} {P1 P2 : Option PO} {A B : Prop} {o : PO} (hx : inR x) (hy : inR y) (h : pCond cd x y P1 P2 = some o) (h1 : P1 = some o → A) (h2 : P2 = some o → B) : gCond cd (Int32.ofInt x) (Int32.ofInt y) A B := by
  cases cd
  · show if _ then _ else _
    have h : (if x = y then P1 else P2) = some o := h
    by_cases q : x = y
    · rw [if_pos q] at h; rw [if_pos ((eq_of2 hx hy).mpr q)]; exact h1 h
    · rw [if_neg q] at h; rw [if_neg fun e => q ((eq_of2 hx hy).mp e)]; exact h2 h
  · show if _ then _ else _
    have h : (if x = y then P2 else P1) = some o := h
    by_cases q : x = y
    · rw [if_pos q] at h; rw [if_pos ((eq_of2 hx hy).mpr q)]; exact h2 h
    · rw [if_neg q] at h; rw [if_neg fun e => q ((eq_of2 hx hy).mp e)]; exact h1 h
  · show if _ then _ else _
    have h : (if x < y then P1 else P2) = some o := h
    by_cases q : x < y
    · rw [if_pos q] at h; rw [if_pos ((lt_of hx hy).mpr q)]; exact h1 h
    · rw [if_neg q] at h; rw [if_neg fun e => q ((lt_of hx hy).mp e)]; exact h2 h
  · show if _ then _ else _
    have h : (if x < y then P2 else P1) = some o := h
    by_cases q : x < y
    · rw [if_pos q] at h; rw [if_pos ((lt_of hx hy).mpr q)]; exact h2 h
    · rw [if_neg q] at h; rw [if_neg fun e => q ((lt_of hx hy).mp e)]; exact h1 h
  · show if _ then _ else _
    have h : (if y < x then P1 else P2) = some o := h
    by_cases q : y < x
    · rw [if_pos q] at h; rw [if_pos ((lt_of hy hx).mpr q)]; exact h1 h
    · rw [if_neg q] at h; rw [if_neg fun e => q ((lt_of hy hx).mp e)]; exact h2 h
  · show if _ then _ else _
    have h : (if y < x then P2 else P1) = some o := h
    by_cases q : y < x
    · rw [if_pos q] at h; rw [if_pos ((lt_of hy hx).mpr q)]; exact h2 h
    · rw [if_neg q] at h; rw [if_neg fun e => q ((lt_of hy hx).mp e)]; exact h1 h
theorem pCond_or {cd : Jvm.ClassFile.Cond} {x y : Int} {P1 P2 : Option PO} {o : PO} (h : pCond cd x y P1 P2 = some o) : P1 = some o ∨ P2 = some o := by
  cases cd <;> (unfold pCond at h; dsimp only at h; split at h) <;> first | exact Or.inl h | exact Or.inr h
theorem pSw_el {X : Nat → Option PO} {pc : Nat} {x : Int} {o : PO} : ∀ (os : List Int) (lo : Int), pSw X pc x lo os = some o → ∃ t, X t = some o
  | [], _, h => nomatch h
  | q :: os, lo, h => by
    unfold pSw at h
    split at h
    · exact ⟨_, h⟩
    · exact pSw_el os _ h
theorem gSw_of {X : Nat → Option PO} {XP : Nat → Prop} {pc : Nat} {x : Int} {o : PO} (hx : inR x) (hX : ∀ t, X t = some o → XP t) : ∀ (os : List Int) (lo : Int), pSw X pc x lo os = some o → gSw XP pc (Int32.ofInt x) lo os
  | [], _, h => nomatch h
  | q :: os, lo, h => by
    unfold pSw at h
    refine ⟨fun e => ?_, ?_⟩
    · rw [tInt_of hx] at e
      rw [if_pos e] at h
      exact hX _ h
    · split at h
      · next e => exact gSw_no os (lo + 1) (by rw [tInt_of hx]; omega)
      · exact gSw_of hx hX os _ h
where gSw_no {XP : Nat → Prop} {pc : Nat} {x : Int32} : ∀ (os : List Int) (lo : Int), x.toInt < lo → gSw XP pc x lo os
  | [], _, _ => trivial
  | q :: os, lo, h => ⟨fun e => absurd e (by omega), gSw_no os (lo + 1) (by omega)⟩
theorem okO_exc {g : PG} {u : PM} (hM : okM g u) (a : Nat) : okO g (a + 1, vN, (g.1, g.2.1 + 1, g.2.2), u) := ⟨trivial, ⟨hM.1, hM.2.1, hM.2.2⟩, rfl, rfl, Nat.le_succ _⟩
theorem G2.ret {m pc : Nat} {L S : List PV} {g : PG} {u : PM} {v : PV} (hM : okM g u) (hv : okV v) (h : ∀ rc rs Q, Qok Q (0, v, g, u) → WP m rc rs pc (iL L) (iS S) (iG g u) Q) : G2 m pc L S g u (0, v, g, u) :=
  ⟨⟨hv, hM, rfl, rfl, Nat.le_refl _⟩, fun rc rs Q _ _ k => h rc rs Q k⟩
theorem iCell_obj {u : PM} {o c x : Nat} : iCell u o (1, c, x) = some (.inl (c, (List.range (gBlk c).length).map (iFld u o c))) := rfl
theorem pFld_el {a b c : Nat} (h : pFld a b c = true) : b < (gBlk a).length ∧ (c = 0 ∨ c = 2 → pOff a b = 0) ∧ (¬ (c = 0 ∨ c = 2) → pOff a b ≠ 0) := by
  unfold pFld at h
  rw [Bool.and_eq_true] at h
  obtain ⟨h1, h2⟩ := h
  refine ⟨Nat.le_of_ble_eq_true h1, fun q => ?_, fun q => ?_⟩
  · rcases q with rfl | rfl
    · exact Nat.eq_of_beq_eq_true h2
    · exact Nat.eq_of_beq_eq_true h2
  · split at h2
    · exact absurd (Or.inl rfl) q
    · exact absurd (Or.inr rfl) q
    · have : 0 < pOff a b := Nat.le_of_ble_eq_true h2
      omega
theorem iFld_get {u : PM} {o a b : Nat} (h : b < (gBlk a).length) : ((List.range (gBlk a).length).map (iFld u o a))[b]? = some (iFld u o a b) := by
  rw [List.getElem?_map, List.getElem?_range h]
  rfl
theorem iFld_set {u : PM} {o a b : Nat} {x : Int} (h0 : pOff a b = 0) : (List.range (gBlk a).length).map (iFld (up u o (b : Int) x) o a) = ((List.range (gBlk a).length).map (iFld u o a)).set b (.int (Int32.ofInt x)) := by
  refine List.ext_getElem? fun k => ?_
  rw [List.getElem?_set]
  by_cases hk : b = k
  · subst hk
    rw [if_pos rfl]
    by_cases hb : b < (gBlk a).length
    · rw [iFld_get hb, if_pos (by simpa using hb)]
      unfold iFld up
      rw [if_pos h0, if_pos ⟨rfl, rfl⟩]
    · rw [if_neg (by simpa using hb), List.getElem?_eq_none (by simpa using Nat.le_of_not_lt hb)]
  · rw [if_neg hk]
    by_cases hb : k < (gBlk a).length
    · rw [iFld_get hb, iFld_get hb]
      unfold iFld up
      have : ¬ ((k : Int) = (b : Int)) := by omega
      simp [this]
    · rw [List.getElem?_eq_none (by simpa using Nat.le_of_not_lt hb), List.getElem?_eq_none (by simpa using Nat.le_of_not_lt hb)]
theorem up_arr {u : PM} {o : Nat} {j x : Int} (hj : inR j) (h0 : 0 ≤ j) : (fun k : Nat => Int32.ofInt (up u o j x o k)) = upd (fun k : Nat => Int32.ofInt (u o k)) (Int32.ofInt j).toNatClampNeg (Int32.ofInt x) := by
  funext k
  unfold upd up
  rw [clmp_of hj]
  by_cases e : (k : Int) = j
  · rw [if_pos ⟨rfl, e⟩, if_pos (by omega)]
  · rw [if_neg fun q => e q.2, if_neg (by omega)]
theorem up_arrL {u : PM} {o : Nat} {j x : Int} (hj : inR j) (h0 : 0 ≤ j) : (fun k : Nat => Int64.ofInt (up u o j x o k)) = vp_updL (fun k : Nat => Int64.ofInt (u o k)) (Int32.ofInt j).toNatClampNeg (Int64.ofInt x) := by
  funext k
  unfold vp_updL up
  rw [clmp_of hj]
  by_cases e : (k : Int) = j
  · rw [if_pos ⟨rfl, e⟩, if_pos (by omega)]
  · rw [if_neg fun q => e q.2, if_neg (by omega)]
theorem toNat_cast {j : Int} (h : 0 ≤ j) : ((j.toNat : Nat) : Int) = j := by omega
