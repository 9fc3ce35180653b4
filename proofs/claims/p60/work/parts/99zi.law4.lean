/-! ===== p60: the law from the drawn text to its end ===== -/
theorem dL_law_216 : decode cL_law 216 = .ok (.aload_n 3, 1) := by decide +kernel
theorem dL_law_217 : decode cL_law 217 = .ok (.aload 6, 2) := by decide +kernel
theorem dL_law_219 : decode cL_law 219 = .ok (.invokevirtual 260, 3) := by decide +kernel
def lw_Q (_ : Array Value) (s : State) (o : Outcome) (t : State) : Prop := o = .returned (some (.int 1)) ∧ Framed s o t [] 600086 7301442
def lw_Z (below : List Frame) (a : Array Value) (s : State) : State → Prop := fun t => ∃ o, t.status = .running ∧ Ended t below o ∧ lw_Q a s o t
/-- the room of what is left -/
def jR2 : Room := { room_1 with cells := 599684, slots := 7251142 }
def jRo (ro : Nat → Nat) (n st : Nat) : Nat → Nat := fun k => if k = 99999 then n else if k = 100004 then st else ro k
/-- the second part's memory -/
def u2 (v B : PM) (f : Nat → Int32) : PM := fun a k => if a = 0 then (f k.toNat).toInt else if 100000 ≤ a then B a k else v a k
theorem u2_0 {v B : PM} {f : Nat → Int32} (k : Int) : u2 v B f 0 k = (f k.toNat).toInt := if_pos rfl
theorem u2_B {v B : PM} {f : Nat → Int32} {a : Nat} (h : 100000 ≤ a) (k : Int) : u2 v B f a k = B a k := by
  unfold u2
  rw [if_neg (by omega), if_pos h]
theorem u2_v {v B : PM} {f : Nat → Int32} {a : Nat} (h : 0 < a) (h2 : a < 100000) (k : Int) : u2 v B f a k = v a k := by
  unfold u2
  rw [if_neg (by omega), if_neg (by omega)]
theorem u2_ok {v B : PM} {f : Nat → Int32} {N1 N2 : Nat} (hok : okM (249, 0, N1) v) (hB : ∀ a k, inR (B a k)) (h2 : N2 < 2147483648) : okM (249, 1, N2) (u2 v B f) := by
  refine ⟨fun a k => ?_, fun a n k h => ?_, h2⟩
  · unfold u2
    split
    · exact inR_toInt _
    · split
      · exact hB a k
      · exact hok.1 a k
  · have ha : a < 100000 := by
      by_cases c : a < 100000
      · exact c
      · exfalso
        unfold pK at h
        rw [show Nat.blt a 100000 = false from Bool.eq_false_iff.mpr fun h => c (Nat.le_of_ble_eq_true h)] at h
        simp only [cond_false] at h
        split at h <;> simp at h
    have h1 : pK (249, 0, N1) a = (2, 1, n) := by
      unfold pK at h ⊢
      rw [show Nat.blt a 100000 = true from Nat.ble_eq_true_of_le ha] at h ⊢
      exact h
    have h3 : a < 249 := by
      by_cases c : a < 249
      · exact c
      · rw [pK_ge (g := (249, 0, N1)) (by show 249 ≤ a; omega) ha] at h1
        cases h1
    have hk : pKind a = (2, 1, n) := (pK_lt (g := (249, 0, N1)) h3 (by omega)).symm.trans h1
    obtain ⟨-, -, -, q4⟩ := bool_ok ⟨a, h3⟩ (by rw [hk]) (by rw [hk])
    have h0 : 0 < a := by
      rcases Nat.eq_zero_or_pos a with e | e
      · subst e; cases q4
      · exact e
    rw [u2_v h0 ha]
    exact hok.2.1 a n k h1
theorem tAt_get {b : Int → Int} : ∀ (l : List Nat) (i : Int), (∀ j : Nat, j < l.length → b (i + j) = ((l.getD j 0 : Nat) : Int)) → tAt b i l
  | [], _, _ => trivial
  | x :: l, i, h => ⟨by
      have := h 0 (by simp)
      rw [show i + ((0 : Nat) : Int) = i by omega] at this
      exact this, tAt_get l (i + 1) fun j hj => by
      have := h (j + 1) (by simpa using hj)
      rw [show i + ((j + 1 : Nat) : Int) = i + 1 + (j : Nat) by omega] at this
      exact this⟩
theorem bSt_tx {xs : Nat → Int32} {tx : List Nat} {d : Nat → Int32} (k : Int) : bSt xs tx d 100004 k = ((tx.getD k.toNat 0 : Nat) : Int) := by
  unfold bSt
  rw [if_neg (by decide), if_neg (by decide), if_neg (by decide), if_neg (by decide), if_neg (by decide), if_pos rfl]
theorem gv_ref {z : Nat} {ro : Nat → Nat} (k : Nat) : gv z ro (.ref k) = .ref (gAd z ro k) := rfl
section
variable {p : Program} {l : Launch} {e : Env} {s : State} {m : MethodId} {args : Array Value} {below : List Frame} {meth : Method} {c : Code} {z L b st : Nat} {ro : Nat → Nat} {cA : FieldType → ClassId} {D DJ : va_G} {H1 H : Heap} {locs : List Loc} {xs d : Nat → Int32} {v : PM}
/-- what the plain machine says of the second part -/
theorem law_run {cc r : Nat} {bl : List (Nat × Nat)} {lz0 lz1 : List Nat} {f : Nat → Int32} (hL : L ≤ 260) (hv : TdS (bSt xs [97] d) v) (hok : okM (249, 0, L + 1000 * 1) v) (h1 : 3 ≤ cc ∧ cc ≤ 8) (h2 : 3 ≤ r ∧ r ≤ 8) (h3 : blOk cc r 0 bl) (h4 : bl.length ≤ 5) (h5 : lz0.length = 6) (h6 : lz1.length = 6) (h7 : ∀ v ∈ lz0, v ≤ 9) (h8 : ∀ v ∈ lz1, v ≤ 9) (hch : ∀ ch ∈ twA cc r bl lz0 lz1, ch < 128) :
    WP M_L_law 3200 19200 222 (iL [vA 100003, vI 0, vA 0, vA 1, vI (cc : Int), vI (r : Int), vN, vN, vN, vN, vN, vN, vN]) (iS [vA 100004, vA 1]) (iG (249, 1, L + 1000 * (twA cc r bl lz0 lz1).length) (u2 v (bSt xs (twA cc r bl lz0 lz1) d) f)) (gQi (fun x _ => x = 1) gNo) := by
  generalize htx : twA cc r bl lz0 lz1 = tx at hch ⊢
  have tl : tx.length = 52 + 10 * bl.length := by rw [← htx]; exact twA_len h5 h6
  obtain ⟨⟨A, hA, wA⟩, l0, ⟨g0, g1, g2⟩, -, -⟩ := hv
  have w61 : ∀ k, u2 v (bSt xs tx d) f 61 k = v 61 k := fun k => u2_v (by decide) (by decide) k
  have hN : (L + 1000 * tx.length) / 1000 = 52 + 10 * bl.length := by rw [tl]; omega
  have P := law_222 (g := (249, 1, L + 1000 * tx.length)) (u := u2 v (bSt xs tx d) f) (k := 1) (K := 3201) (A0 := A) (Nat.le_refl 249) (Nat.le_refl 1) (Nat.le_refl 3201) (RO_eq (fun a k ha => u2_B ha k) (bSt_RO xs tx d)) ((absT_eq fun a k a1 a2 => u2_v (by omega) (by omega) k).trans hA) wA
    ⟨by rw [w61, g0]; decide, by rw [w61, g1]; decide, by
      unfold hT
      rw [w61 0, g0]
      rfl⟩ (by rw [u2_0]; exact inR_toInt _) (by rw [u2_v (by decide) (by decide), l0]; decide) h1 h2 h3 h5 h6 h7 h8 (by omega) hN (by
      rw [htx]
      refine tAt_get tx 0 fun j hj => ?_
      show u2 v (bSt xs tx d) f 100004 (0 + (j : Int)) = _
      rw [u2_B (by decide), bSt_tx, show (0 + (j : Int)).toNat = j by omega]) (fun k k0 k1 => by
      rw [u2_B (by decide), bSt_tx]
      have := txD hch k.toNat
      omega) (a4 := (cc : Int)) (a5 := (r : Int))
  obtain ⟨g', u', e1, e2⟩ := P
  have hm : okM (249, 1, L + 1000 * tx.length) (u2 v (bSt xs tx d) f) := u2_ok hok (fun a k => bSt_in xs hch d a k) (by rw [tl]; omega)
  refine (run_wp e1 (fun v hv => ?_) (fun v hv => ?_) hm).2 3200 19200 _ ?_ ?_ ?_
  · simp only [List.mem_cons, List.not_mem_nil, or_false] at hv
    have i1 : inR (cc : Int) := by unfold inR; omega
    have i2 : inR (r : Int) := by unfold inR; omega
    have i0 : inR 0 := inR_0
    rcases hv with rfl | rfl | rfl | rfl | rfl | rfl | rfl | rfl | rfl | rfl | rfl | rfl | rfl
    · trivial
    · exact i0
    · trivial
    · trivial
    · exact i1
    · exact i2
    all_goals trivial
  · simp only [List.mem_cons, List.not_mem_nil, or_false] at hv
    rcases hv with rfl | rfl <;> trivial
  · show g'.2.1 - 1 ≤ 3200
    omega
  · show 6 * (g'.2.1 - 1) ≤ 19200
    omega
  · show Int32.ofInt 1 = 1
    rfl
theorem law_two (hc : LC p s m args meth c z ro cA D DJ (gRo L xs [97])) (hrb : ro 100003 = b) (hL : L ≤ 260) (htr : l.stackTraces = false) (hret : meth.sig.returnType = gRet M_L_law) (hlk : meth.locks = false) (hnm : meth.name = (gY M_L_law).name) (htab : c.exceptionTable.toList = []) (hv : TdS (bSt xs [97] d) v) (hok : okM (249, 0, L + 1000 * 1) v) (hr : gRep z ro cA D (gRo L xs [97]) (iG (249, 0, L + 1000 * 1) v) H1)
    {cc r sb : Nat} {bl : List (Nat × Nat)} {lz0 lz1 : List Nat} (h1 : 3 ≤ cc ∧ cc ≤ 8) (h2 : 3 ≤ r ∧ r ≤ 8) (h3 : blOk cc r 0 bl) (h4 : bl.length ≤ 5) (h5 : lz0.length = 6) (h6 : lz1.length = 6) (h7 : ∀ v ∈ lz0, v ≤ 9) (h8 : ∀ v ∈ lz1, v ≤ 9) (hI : jBI s z ro cA DJ H1 sb (twA cc r bl lz0 lz1) H locs) {ls : Array Slot} (hl : lv_has ls 13 [(7, .int 2), (6, .ref sb), (5, .int (nI r)), (4, .int (nI cc)), (3, .ref (z + 1)), (2, .ref z), (1, .int 0), (0, .ref b)]) : W p l e room_1 s m args below meth c H locs 400 50000 (lw_Z below args s) (F0 m 216 ls []) := by
  obtain ⟨hx, hb, hml, hown, hts, hE, hK, hKi, hDg, hro, hz⟩ := id hc
  have tl : (twA cc r bl lz0 lz1).length = 52 + 10 * bl.length := twA_len h5 h6
  refine lv_aload_n hx hb dL_law_216 rfl (lv_at hl 4 rfl) ?_
  refine lv_aload hx hb dL_law_217 (lv_at hl 1 rfl) ?_
  refine B_toS hc hl hI (by rw [tl]; omega) (by decide) (by decide) (Nat.le_of_ble_eq_true rfl) dL_law_219 (fun H locs st hDI hM hch => ?_)
  obtain ⟨vv, ml, a, M, rr, cp, hP, hst, hrr, hcp⟩ := hM
  obtain ⟨⟨f, h0⟩, hS, hT, hsz⟩ := hDI
  have w1 : ∀ f : Nat → Int32, _ := fun f => law_run (f := f) hL hv hok h1 h2 h3 h4 h5 h6 h7 h8 hch
  have w2 := w1 f
  generalize htx : twA cc r bl lz0 lz1 = tx at tl hP hcp hch w2
  have hHs : ∀ q, q < s.heap.size → H[q]? = s.heap[q]? := fun q hq => hS.2.1 q hq fun h => by
    have := h.1
    omega
  have hst2 : st < H.size := (hP 2 _ rfl).lt
  have hrr2 : rr < H.size := (hP 3 _ rfl).lt
  have nA : ∀ q, z + 249 ≤ q → q < H.size → ¬ gA z (jRo ro H.size st) q := fun q h1 h2 h => by
    have h3 : q < z + 249 ∨ H.size ≤ q := h.2
    omega
  have hTx : gTx tx st (gA z (jRo ro H.size st)) s H := gTx_made hts hK hP hcp (nA st hst hst2) (nA rr hrr hrr2)
  have hE2 : ∀ u, gEnv z (jRo ro H.size st) cA D (gRo L xs tx) (jBase s H u) (jBase s H u).heap := fun u => gEnv_join (u := u) hE hro hz hHs (by rw [tl]; omega) hch hTx
  have hg : ∀ w ∈ gw, w.before args s = true := fun w hw => hts w (jgw w hw)
  have hR2 : gRep z (jRo ro H.size st) cA D (gRo L xs tx) (iG (249, 1, L + 1000 * tx.length) (u2 v (bSt xs tx d) f)) H := gRep_join (f := f) hr hT h0 (fun a a1 a2 => funext fun k => u2_v (by omega) (by omega) k) (fun j => by rw [u2_0, Int.toNat_natCast, ofInt_toInt]) (iG_ro (d := d) (fun a ha j => u2_B ha j) rfl (by omega))
  have a0 : gAd z (jRo ro H.size st) 0 = z := if_pos (by decide)
  have a1 : gAd z (jRo ro H.size st) 1 = z + 1 := if_pos (by decide)
  have a3 : gAd z (jRo ro H.size st) 100003 = b := by
    unfold gAd jRo
    rw [if_neg (by decide), if_neg (by decide), if_neg (by decide)]
    exact hrb
  have a4 : gAd z (jRo ro H.size st) 100004 = st := by
    unfold gAd jRo
    rw [if_neg (by decide), if_neg (by decide), if_pos rfl]
  have hloc : gLoc z (jRo ro H.size st) ls (gMaxL M_L_law) (iL [vA 100003, vI 0, vA 0, vA 1, vI (cc : Int), vI (r : Int), vN, vN, vN, vN, vN, vN, vN]) := by
    have e : gAs z (jRo ro H.size st) (iL [vA 100003, vI 0, vA 0, vA 1, vI (cc : Int), vI (r : Int), vN, vN, vN, vN, vN, vN, vN]) = [(0, .ref (gAd z (jRo ro H.size st) 100003)), (1, .int (Int32.ofInt 0)), (2, .ref (gAd z (jRo ro H.size st) 0)), (3, .ref (gAd z (jRo ro H.size st) 1)), (4, .int (Int32.ofInt (cc : Int))), (5, .int (Int32.ofInt (r : Int)))] := rfl
    unfold gLoc
    rw [e, a0, a1, a3, ofInt_nI, ofInt_nI]
    exact lv_sub hl [7, 6, 5, 4, 3, 2] rfl
  have hs := WP.snd (z := z) (ro := jRo ro H.size st) (cA := cA) (D := D) (roArr := gRo L xs tx) gFactsA_ok w2
  have hst4 : (iS [vA 100004, vA 1]).map (gv z (jRo ro H.size st)) = [.ref st, .ref (z + 1)] := by
    show [Value.ref (gAd z (jRo ro H.size st) 100004), Value.ref (gAd z (jRo ro H.size st) 1)] = _
    rw [a1, a4]
  refine W.rebase (R' := jR2) (Nat.le_refl _) (Nat.le_refl _) (Nat.le_of_ble_eq_true rfl) (Nat.le_of_ble_eq_true rfl) (fun s' => gZ z (jRo ro H.size st) cA D (gRo L xs tx) (gQi (fun x _ => x = 1) gNo) jR2 s' args below) (fun u => ?_) (fun T t hTH hsame hZ => ?_)
  · have k := hs p l e jR2 (jBase s H u) m args below meth c H [] 0 0 ls ⟨hx, hb, hml, hret, hown, fun w hw => word_at (U := jBase s H u) (State.WarmedH.refl s) (good_of_word (List.mem_filter.mp hw).2) (hg w hw), hlk, hnm, hE2 u, htr, htab, Nat.le_of_ble_eq_true rfl, Nat.le_of_ble_eq_true rfl⟩ hR2 hloc va_S.rf (Nat.le_of_ble_eq_true rfl) (Nat.le_of_ble_eq_true rfl)
    rw [hst4] at k
    exact k
  · obtain ⟨o, b1, b2, b3⟩ := hZ
    refine ⟨o, b1, b2, ?_⟩
    rcases b3 with ⟨⟨⟨vr, hvr, hres⟩, -⟩, Lc, hFE, hfr⟩ | ⟨q, -, E, ce, Lc, ⟨⟨G, -, hno, -⟩, -⟩, -⟩
    · have hv1 : vr = some (.int 1) := by
        rcases hres with ⟨x, G, e1, e2, -⟩ | ⟨G, -, e2, -⟩ | ⟨x, G, -, e2, -⟩ | ⟨x, G, -, e2, -⟩ | ⟨x, G, -, e2, -⟩
        · have e3 : x = 1 := e2
          rw [e1, e3]
        all_goals exact e2.elim
      have hF := j_trans hsame hFE.2.2 (fun q hq => by
        have := (hS.2.2 q hq).1
        omega) (fun q hq => by
        have := (hfr q hq).1
        omega)
      exact ⟨by rw [hvr, hv1], ⟨vr, hvr⟩, hFE.2.1, hF⟩
    · exact hno.elim
end
