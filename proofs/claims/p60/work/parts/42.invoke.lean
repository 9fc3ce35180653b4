/-! ===== soundness: the invoke instructions ===== -/
section Snd6
variable {z : Nat} {ro : Nat → Nat} {cA : FieldType → ClassId} {D : va_G} {roArr : Nat → Option (Nat × (Nat → Int32))}
variable {m rc rs pc : Nat} {ls : GL} {st : List Value} {G : GH} {Q : GQ}
theorem g_lenE_v {i e : Nat} : gLenE (.invokevirtual i) e = 3 := rfl
/-- the receiver's place on the stack -/
theorem gRcv_el {a b e : Nat} (he : e < 20) (hb : 0 < b) (hlen : (st.take b).length = b) (h : gRcv gCls e a b st G) : ∃ (X : List Value) (o : Nat) (r0 : List Value) (fs : List Value), X.length = b - 1 ∧ st = X ++ .ref o :: r0 ∧ st.take b = X ++ [.ref o] ∧ st.drop b = r0 ∧ o < gRB ∧ G.2 o = some (.inl (gCls a, fs)) := by
  unfold gRcv at h
  have hf : Nat.ble 20 e = false := by
    cases q : Nat.ble 20 e with
    | false => rfl
    | true => exact absurd (Nat.le_of_ble_eq_true q) (by omega)
  rw [hf, cond_false] at h
  have hlen2 : (st.take (b - 1)).length = b - 1 := by
    rw [List.length_take] at hlen ⊢
    omega
  split at h
  · next o r0 hd =>
    obtain ⟨ho, fs, hG⟩ := h
    have hst : st = st.take (b - 1) ++ .ref o :: r0 := by rw [← hd]; exact (List.take_append_drop _ _).symm
    generalize st.take (b - 1) = X at hst hlen2
    refine ⟨X, o, r0, fs, hlen2, hst, ?_, ?_, ho, hG⟩
    · rw [hst, show b = X.length + 1 by omega, List.take_length_add_append]
      rfl
    · rw [hst, show b = X.length + 1 by omega, List.drop_length_add_append]
      rfl
  · exact h.elim
theorem gRep.recv (hF : gFactsA) {p : Program} {l : Launch} {R : Room} {s : State} {mid : MethodId} {args : Array Value} {meth : Method} {c : Code} {H : Heap} {a o : Nat} {fs : List Value} (hC : gCtx z ro cA D roArr m p l R s mid args meth c) (hr : gRep z ro cA D roArr G H) (ho : o < gRB) (hG : G.2 o = some (.inl (gCls a, fs))) : ∃ cell : Cell, H[gAd z ro o]? = some cell ∧ cell.vm.isStatics = false ∧ s.vm.findClass (gY a).cls = some cell.cls := by
  obtain ⟨n', h1, h2, h3, hP, hw⟩ := hr.at ho hG
  obtain ⟨_, _, _, _, _, _, h6⟩ := hr
  obtain ⟨q, hq, -⟩ := h6 o _ _ ho hG
  have := va_recv hC.K hP hq hw
  rw [hF.2 a q hq] at this
  exact this
theorem snd_own_pre {p : Program} {l : Launch} {R : Room} {s : State} {mid : MethodId} {args : Array Value} {meth : Method} {c : Code} {H : Heap} {locs : List Loc} {as : List Value} (hC : gCtx z ro cA D roArr m p l R s mid args meth c) (hr : gRep z ro cA D roArr G H) (hS : va_S (gA z ro) s.heap H locs) : ∀ U : State, U.heap = H → s.WarmedH U.vm → gPc z ro cA D roArr G as (as.map (gv z ro)).toArray U :=
  fun U hU hW => ⟨rfl, by rw [hU]; exact hr, hC.env.to hW (fun q h1 h2 => by rw [hU]; exact hS.2.1 q h1 h2)⟩
theorem gMod10 {e : Nat} (he : e < 5) : e % 10 = e := Nat.mod_eq_of_lt (by omega)
/-- what a call of an own method needs: kinds e with the continuation, the callee's formula -/
theorem gOwn_el {a b c d e n : Nat} (he : e < 5 ∨ e = 10 ∨ e = 11) (hn : n = pc + 3) (h : gInv (gCx (SND z ro cA D roArr)) (fun rc rs pc ls st G => SND z ro cA D roArr m rc rs pc ls st G Q) Q gStr (gHh m) rc rs pc ls st G n a b c d e) :
    gCat (st.drop b) ≤ 8 ∧ (st.take b).length = b ∧ (∀ v ∈ (st.take b).reverse, v.category = 1) ∧ ∃ (c1 d1 : Nat) (P : GQ) (KX : String → GH → Prop), c1 ≤ rc ∧ d1 ≤ rs ∧ gC (SND z ro cA D roArr) a c1 d1 (st.take b).reverse G P ∧ gLe P (gKq (fun rc rs pc ls st G => SND z ro cA D roArr m rc rs pc ls st G Q) KX (rc - c1) (rs - d1) (pc + 3) ls (st.drop b) (e % 10)) ∧
      (e < 5 → ∀ E G, ¬ P.2.2.2.2.2 E G) ∧ (∀ E G, KX E G → gHand (fun rc rs pc ls st G => SND z ro cA D roArr m rc rs pc ls st G Q) Q.2.2.2.2.2 (rc - c1) (rs - d1) pc ls E G (gHh m)) := by
  subst hn
  obtain ⟨h3, h4, h5, c1, d1, h1, h2, P, h6, h7⟩ := gInv_own he h
  refine ⟨h3, h4, fun v hv => gCat_1 (by rw [h5, h4]) v (List.mem_reverse.mp hv), c1, d1, P, _, h1, h2, h6, h7, fun q E G hp => ?_, fun E G hk => ?_⟩
  · have := gKq_X (h7.2.2.2.2.2 E G hp)
    rw [if_pos q] at this
    exact this
  · by_cases q : e < 5
    · rw [if_pos q] at hk
      exact hk.elim
    · rw [if_neg q] at hk
      exact hk
theorem snd_virtual_own (hF : gFactsA) {idx n a b c d e : Nat} (he : e < 5 ∨ e = 10 ∨ e = 11) (hE : gEnt m pc (.invokevirtual idx, n, a, b, c, d, e)) (h0 : gRcv gCls e a b st G)
    (h : gInv (gCx (SND z ro cA D roArr)) (fun rc rs pc ls st G => SND z ro cA D roArr m rc rs pc ls st G Q) Q gStr (gHh m) rc rs pc ls st G n a b c d e) : SND z ro cA D roArr m rc rs pc ls st G Q := by
  obtain ⟨hd, hn⟩ := gChk_dec hE.1
  obtain ⟨hlk, w1, w2, w3, w4, w5, w6⟩ : Cond.methodLink (gY m).cls idx (gY a) ∈ gw ∧ gMwV a := by
    have hl := hE.2
    rcases he with he | rfl | rfl
    · match e, he, hl with
      | 0, _, hl => exact hl
      | 1, _, hl => exact hl
      | 2, _, hl => exact hl
      | 3, _, hl => exact hl
      | 4, _, hl => exact hl
    · exact hl
    · exact hl
  have hk := hE.1
  have he20 : e < 20 := by omega
  simp only [gChk, Bool.and_eq_true, decide_eq_true_eq, beq_iff_eq] at hk
  have hk := hk.2
  rw [show Nat.ble 20 e = false by (cases q : Nat.ble 20 e with | false => rfl | true => exact absurd (Nat.le_of_ble_eq_true q) (by omega))] at hk
  simp only [cond_false, Bool.and_eq_true] at hk
  obtain ⟨⟨hk, hb0⟩, hbM⟩ := hk
  have hb0 : 0 < b := Nat.le_of_ble_eq_true hb0
  have hbM : b ≤ gMaxL a := Nat.le_of_ble_eq_true hbM
  obtain ⟨c1, c2, c3, c4, c5, c6, c7, c8, -⟩ := gCk_el hk
  obtain ⟨i3, i4, i5, q1, q2, P, KX, i1, i2, i6, i7, i8, i9⟩ := gOwn_el he hn h
  obtain ⟨X, o, r0, fs, x1, x2, x3, x4, x5, x6⟩ := gRcv_el he20 hb0 i4 h0
  rw [x3] at i5 i6
  rw [x4] at i3 i7
  have has : (X ++ [Value.ref o]).reverse = .ref o :: X.reverse := by simp
  rw [has] at i5 i6
  have hlen : (Value.ref o :: X.reverse).length ≤ gMaxL a := by simp [x1]; omega
  intro p l e0 R s mid args below meth c0 H locs cells slots lsr hC hr hl hS hc hs
  have hstk : st.map (gv z ro) = ((X.reverse).map (gv z ro)).reverse ++ .ref (gAd z ro o) :: r0.map (gv z ro) := by
    rw [x2, List.map_append, List.map_reverse, List.reverse_reverse]
    rfl
  have hcw : CallW R s args (gY m).cls (gY a).cls idx (gY a) (gCode a) (gMaxL a) (gRet a) (Cond.code (gY a) (gCode a) (gMaxL a) (gRet a) :: gw) (gRm a q1 q2) q1 q2 (b - 1) :=
    cwV (b - 1) hC.hts (gGood_mem hlk w1 w2 w3 (gCode_mem w4)) rfl rfl rfl ⟨rfl, c5, c6, c7⟩ ⟨Nat.le_trans c1 hC.fr, Nat.le_trans c2 hC.lo⟩
  have hpre : PreV s H (gY a).cls (gAd z ro o) (gPc z ro cA D roArr G (.ref o :: X.reverse)) ((X.reverse).map (gv z ro)) := ⟨gPc.blind, hr.recv hF hC x5 x6, fun U hU hW => snd_own_pre hC hr hS U hU hW⟩
  have hcat : (List.map (fun v => v.category) (r0.map (gv z ro))).sum ≤ 8 := by rw [gCat_sum]; exact i3
  have hroom : cells + q1 ≤ R.cells ∧ slots + q2 ≤ R.slots := ⟨by omega, by omega⟩
  have hasl : ((X.reverse).map (gv z ro)).length = b - 1 := by simp [x1]
  refine snd_after (rest := r0) (hh := gHh m) (av := (Value.ref (gAd z ro o) :: (X.reverse).map (gv z ro)).toArray) hC hl hS hc hs i1 i2 i7 ?_
  by_cases q : e < 5
  · exact Or.inl (va_runV ⟨hC.1, hC.2.1, hC.ml, hC.own, hC.hts⟩ (vx_toMet (snd_met hC.tr c8 hlen i5 w5 i6) (gXC_no (i8 q))) hcw hpre rfl hasl hl.1 hstk (lv_room hcat) hd hroom)
  · exact Or.inr ⟨vx_runV ⟨hC.1, hC.2.1, hC.ml, hC.own, hC.hts⟩ (snd_met hC.tr c8 hlen i5 w5 i6) hcw hpre rfl hasl hl.1 hstk (lv_room hcat) hd hroom, hF.1.2.1 m, i9⟩
theorem snd_static_own (hF : gFactsA) {idx n a b c d e : Nat} (he : e < 5 ∨ e = 10 ∨ e = 11) (hE : gEnt m pc (.invokestatic idx, n, a, b, c, d, e))
    (h : gInv (gCx (SND z ro cA D roArr)) (fun rc rs pc ls st G => SND z ro cA D roArr m rc rs pc ls st G Q) Q gStr (gHh m) rc rs pc ls st G n a b c d e) : SND z ro cA D roArr m rc rs pc ls st G Q := by
  obtain ⟨hd, hn⟩ := gChk_dec hE.1
  obtain ⟨hlk, ⟨w1, w2, w3⟩, wX⟩ : Cond.methodLink (gY m).cls idx (gY a) ∈ gw ∧ gMwS a ∧ (¬ e < 5 → gHT a = []) := by
    have hl := hE.2
    rcases he with he | rfl | rfl
    · match e, he, hl with
      | 0, he, hl => exact ⟨hl.1, hl.2, fun q => absurd he q⟩
      | 1, he, hl => exact ⟨hl.1, hl.2, fun q => absurd he q⟩
      | 2, he, hl => exact ⟨hl.1, hl.2, fun q => absurd he q⟩
      | 3, he, hl => exact ⟨hl.1, hl.2, fun q => absurd he q⟩
      | 4, he, hl => exact ⟨hl.1, hl.2, fun q => absurd he q⟩
    · exact ⟨hl.1, hl.2.1, fun _ => hl.2.2⟩
    · exact ⟨hl.1, hl.2.1, fun _ => hl.2.2⟩
  have hk := hE.1
  simp only [gChk, Bool.and_eq_true, decide_eq_true_eq, beq_iff_eq] at hk
  have hk := hk.2
  rw [show Nat.ble 20 e = false by (cases q : Nat.ble 20 e with | false => rfl | true => exact absurd (Nat.le_of_ble_eq_true q) (by omega))] at hk
  simp only [cond_false, Bool.and_eq_true] at hk
  obtain ⟨c1, c2, c3, c4, c5, c6, c7, c8, c9⟩ := gCk_el hk
  obtain ⟨i3, i4, i5, q1, q2, P, KX, i1, i2, i6, i7, i8, i9⟩ := gOwn_el he hn h
  have hlen : ((st.take b).reverse).length ≤ gMaxL a := by rw [List.length_reverse, i4]; exact c9
  intro p l e0 R s mid args below meth c0 H locs cells slots lsr hC hr hl hS hc hs
  have hstk : st.map (gv z ro) = (((st.take b).reverse).map (gv z ro)).reverse ++ (st.drop b).map (gv z ro) := by
    rw [List.map_reverse, List.reverse_reverse, ← List.map_append, List.take_append_drop]
  have hpre : PreS s H (gPc z ro cA D roArr G (st.take b).reverse) (((st.take b).reverse).map (gv z ro)) := ⟨gPc.blind, fun U hU hW => snd_own_pre hC hr hS U hU hW⟩
  have hcat : (List.map (fun v => v.category) ((st.drop b).map (gv z ro))).sum ≤ 8 := by rw [gCat_sum]; exact i3
  have hroom : cells + q1 ≤ R.cells ∧ slots + q2 ≤ R.slots := ⟨by omega, by omega⟩
  have hasl : (((st.take b).reverse).map (gv z ro)).length = b := by rw [List.length_map, List.length_reverse, i4]
  have hR2 : (gRm a q1 q2).frames + 1 ≤ R.frames ∧ 8 + (gMaxL a + 11) + (gRm a q1 q2).locals ≤ R.locals := ⟨Nat.le_trans c1 hC.fr, Nat.le_trans c2 hC.lo⟩
  refine snd_after (rest := st.drop b) (hh := gHh m) (av := (((st.take b).reverse).map (gv z ro)).toArray) hC hl hS hc hs i1 i2 i7 ?_
  rcases w3 with ⟨v1, v2, v3⟩ | v3
  · have hcw : CallB R s args (gY m).cls idx (gY a) (gCode a) (gMaxL a) (gRet a) (Cond.code (gY a) (gCode a) (gMaxL a) (gRet a) :: gw) (gRm a q1 q2) q1 q2 b ∧ (Cond.static (gY a)).before args s = true :=
      ⟨callB_of b hC.hts (gGood (gCode_mem v3)) rfl rfl rfl (hC.hts _ w2) (hC.hts _ hlk) ⟨c5, c6, c7⟩ hR2, hC.hts _ w1⟩
    by_cases q : e < 5
    · exact Or.inl (va_runS ⟨hC.1, hC.2.1, hC.ml, hC.own, hC.hts⟩ (vx_toMet (snd_met hC.tr c8 hlen i5 v1 i6) (gXC_no (i8 q))) hcw hpre rfl hasl hl.1 hstk (lv_room hcat) hd hroom)
    · exact Or.inr ⟨vx_runS ⟨hC.1, hC.2.1, hC.ml, hC.own, hC.hts⟩ (snd_met hC.tr c8 hlen i5 v1 i6) hcw hpre rfl hasl hl.1 hstk (lv_room hcat) hd hroom, hF.1.2.1 m, i9⟩
  · have hcw : vx_CSW R s args (gY m).cls idx (gY a) (gCode a) (gMaxL a) (gRet a) (gHT a) (Cond.codeWith (gY a) (gCode a) (gMaxL a) (gRet a) (gHT a) :: gw) (gRm a q1 q2) q1 q2 b :=
      vx_cwSW b hC.hts (gGood_memS hlk w1 w2 (gCode_mem v3)) rfl rfl rfl ⟨c5, c6, c7⟩ hR2
    by_cases q : e < 5
    · exact Or.inl (vx_runSW ⟨hC.1, hC.2.1, hC.ml, hC.own, hC.hts⟩ (vx_toMet (snd_metW hC.tr c8 hlen i5 i6) (gXC_no (i8 q))) hcw hpre rfl hasl hl.1 hstk (lv_room hcat) hd hroom)
    · exact Or.inr ⟨vx_runSX ⟨hC.1, hC.2.1, hC.ml, hC.own, hC.hts⟩ (snd_metW hC.tr c8 hlen i5 i6) hcw hpre rfl hasl hl.1 hstk (lv_room hcat) hd hroom, hF.1.2.1 m, i9⟩
theorem snd_special_own (hF : gFactsA) {idx n a b c d : Nat} (hE : gEnt m pc (.invokespecial idx, n, a, b, c, d, 1)) (h0 : gRcv gCls 1 a b st G)
    (h : gInv (gCx (SND z ro cA D roArr)) (fun rc rs pc ls st G => SND z ro cA D roArr m rc rs pc ls st G Q) Q gStr (gHh m) rc rs pc ls st G n a b c d 1) : SND z ro cA D roArr m rc rs pc ls st G Q := by
  obtain ⟨hd, hn⟩ := gChk_dec hE.1
  obtain ⟨hlk, w1, w2, w3, w4, w5, w6, w7⟩ : (Cond.methodLink (gY m).cls idx (gY a) ∈ gw ∨ Cond.methodLinkNest (gY m).cls idx (gY a) "TrunkDuel" ∈ gnw) ∧ gMwI a := hE.2
  have hk := hE.1
  simp only [gChk, Bool.and_eq_true, decide_eq_true_eq, beq_iff_eq] at hk
  have hk := hk.2
  rw [show Nat.ble 20 1 = false from rfl] at hk
  simp only [cond_false, Bool.and_eq_true] at hk
  obtain ⟨⟨hk, hb0⟩, hbM⟩ := hk
  have hb0 : 0 < b := Nat.le_of_ble_eq_true hb0
  have hbM : b ≤ gMaxL a := Nat.le_of_ble_eq_true hbM
  obtain ⟨c1, c2, c3, c4, c5, c6, c7, c8, -⟩ := gCk_el hk
  obtain ⟨i3, i4, i5, q1, q2, P, KX, i1, i2, i6, i7, i8, i9⟩ := gOwn_el (Or.inl (by decide)) hn h
  obtain ⟨X, o, r0, fs, x1, x2, x3, x4, x5, x6⟩ := gRcv_el (by decide) hb0 i4 h0
  rw [x3] at i5 i6
  rw [x4] at i3 i7
  have has : (X ++ [Value.ref o]).reverse = .ref o :: X.reverse := by simp
  rw [has] at i5 i6
  have hlen : (Value.ref o :: X.reverse).length ≤ gMaxL a := by simp [x1]; omega
  intro p l e0 R s mid args below meth c0 H locs cells slots lsr hC hr hl hS hc hs
  have hstk : st.map (gv z ro) = ((X.reverse).map (gv z ro)).reverse ++ .ref (gAd z ro o) :: r0.map (gv z ro) := by
    rw [x2, List.map_append, List.map_reverse, List.reverse_reverse]
    rfl
  have hpre : PreS s H (gPc z ro cA D roArr G (.ref o :: X.reverse)) (.ref (gAd z ro o) :: (X.reverse).map (gv z ro)) := ⟨gPc.blind, fun U hU hW => snd_own_pre hC hr hS U hU hW⟩
  have hcat : (List.map (fun v => v.category) (r0.map (gv z ro))).sum ≤ 8 := by rw [gCat_sum]; exact i3
  have hroom : cells + q1 ≤ R.cells ∧ slots + q2 ≤ R.slots := ⟨by omega, by omega⟩
  have hasl : ((X.reverse).map (gv z ro)).length = b - 1 := by simp [x1]
  have hR2 : (gRm a q1 q2).frames + 1 ≤ R.frames ∧ 8 + (gMaxL a + 11) + (gRm a q1 q2).locals ≤ R.locals := ⟨Nat.le_trans c1 hC.fr, Nat.le_trans c2 hC.lo⟩
  have hmet := vx_toMet (snd_met (z := z) (ro := ro) (cA := cA) (D := D) (roArr := roArr) hC.tr c8 hlen i5 w4 i6) (gXC_no (i8 (by decide)))
  rw [w7] at hmet
  refine snd_after (rest := r0) (hh := gHh m) (av := (Value.ref (gAd z ro o) :: (X.reverse).map (gv z ro)).toArray) hC hl hS hc hs i1 i2 i7 (Or.inl ?_)
  rcases hlk with hlk | hlk
  · exact va_runI ⟨hC.1, hC.2.1, hC.ml, hC.own, hC.hts⟩ hmet (cwI (b - 1) hC.hts (gGood (gCode_mem w3)) rfl rfl rfl (hC.hts _ w2) (hC.hts _ hlk) (hC.hts _ w1) w6 ⟨c5, c6, c7⟩ hR2) hpre rfl hasl hl.1 hstk (lv_room hcat) hd hroom
  · exact va_runIN ⟨hC.1, hC.2.1, hC.ml, hC.own, hC.hts⟩ hmet ⟨va_cnB (b - 1) hC.hts (gGood (gCode_mem w3)) rfl rfl rfl (hC.env.2.2.1 _ hlk) (hC.hts _ w2) ⟨c5, c6, c7⟩ hR2, w6, hC.hts _ w1⟩ hpre rfl hasl hl.1 hstk (lv_room hcat) hd hroom
end Snd6
