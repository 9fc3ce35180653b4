/-! ===== p60: the law from its entry to the drawing ===== -/
theorem dL_law_0 : decode cL_law 0 = .ok (.iconst 0, 1) := by decide +kernel
theorem dL_law_1 : decode cL_law 1 = .ok (.istore_n 1, 1) := by decide +kernel
theorem dL_law_10 : decode cL_law 10 = .ok (.if_icmp .ge 428, 3) := by decide +kernel
theorem dL_law_13 : decode cL_law 13 = .ok (.iconst 1, 1) := by decide +kernel
theorem dL_law_14 : decode cL_law 14 = .ok (.newarray .int, 2) := by decide +kernel
theorem dL_law_16 : decode cL_law 16 = .ok (.dup, 1) := by decide +kernel
theorem dL_law_17 : decode cL_law 17 = .ok (.iconst 0, 1) := by decide +kernel
theorem dL_law_18 : decode cL_law 18 = .ok (.aload_n 0, 1) := by decide +kernel
theorem dL_law_19 : decode cL_law 19 = .ok (.iload_n 1, 1) := by decide +kernel
theorem dL_law_2 : decode cL_law 2 = .ok (.iload_n 1, 1) := by decide +kernel
theorem dL_law_20 : decode cL_law 20 = .ok (.iaload, 1) := by decide +kernel
theorem dL_law_21 : decode cL_law 21 = .ok (.iastore, 1) := by decide +kernel
theorem dL_law_22 : decode cL_law 22 = .ok (.astore_n 2, 1) := by decide +kernel
theorem dL_law_23 : decode cL_law 23 = .ok (.new 8, 3) := by decide +kernel
theorem dL_law_26 : decode cL_law 26 = .ok (.dup, 1) := by decide +kernel
theorem dL_law_27 : decode cL_law 27 = .ok (.invokespecial 235, 3) := by decide +kernel
theorem dL_law_3 : decode cL_law 3 = .ok (.aload_n 0, 1) := by decide +kernel
theorem dL_law_30 : decode cL_law 30 = .ok (.astore_n 3, 1) := by decide +kernel
theorem dL_law_4 : decode cL_law 4 = .ok (.arraylength, 1) := by decide +kernel
theorem dL_law_5 : decode cL_law 5 = .ok (.if_icmp .ge 433, 3) := by decide +kernel
theorem dL_law_8 : decode cL_law 8 = .ok (.iload_n 1, 1) := by decide +kernel
theorem dL_law_9 : decode cL_law 9 = .ok (.iconst 1, 1) := by decide +kernel
theorem ap_one (G : GH) (c : GC) : gPush G c = ap G [c] := by
  unfold gPush ap
  refine Prod.ext rfl (funext fun j => ?_)
  show (if j = G.1 then some c else G.2 j) = if G.1 ≤ j ∧ j < G.1 + 1 then [c][j - G.1]? else G.2 j
  by_cases h : j = G.1
  · rw [if_pos h, if_pos (by omega), h, Nat.sub_self]
    rfl
  · rw [if_neg h, if_neg (by omega)]
section
variable {p : Program} {l : Launch} {e : Env} {s : State} {m : MethodId} {args : Array Value} {below : List Frame} {meth : Method} {c : Code} {z L : Nat} {ro : Nat → Nat} {cA : FieldType → ClassId} {D DJ : va_G} {Q : State → Prop} {H : Heap} {locs : List Loc} {cells slots pc : Nat} {ls : Array Slot} {rest : List Value}
theorem j_newi (hexec : p.tables.exec = Jvm.exec) (hb : c.code = cL_law) (harr : (Cond.arrayClass .int).before args s = true) {cB : ClassId} (hK : va_K DJ jCl [(cB, .int)] s) (hS : va_S (gA z ro) s.heap H locs) (hro : ro 99999 = 0) (hz : s.heap.size = z)
    {n : Int32} {N' : Nat} (hn : ¬ n < 0) (hN : n.toNatClampNeg = N') (hbytes : N' ≤ 1000) {R : Room} (hcells : cells + 1 ≤ R.cells) (hslots : slots + N' ≤ R.slots) (hdg : decode cL_law pc = .ok (.newarray .int, 2))
    (kk : ∀ (H1 : Heap), H1.size = H.size + 1 → va_P DJ jCl [(H.size, .inl (cB, N', .inl fun _ => 0))] H1 → va_S (gA z ro) s.heap H1 locs →
      W p l e R s m args below meth c H1 locs (cells + 1) (slots + N') Q (F0 m (pc + 2) ls (.ref H.size :: rest))) : W p l e R s m args below meth c H locs cells slots Q (F0 m pc ls (.int n :: rest)) := by
  refine va_newaK (atype := .int) hexec hb harr rfl hdg rfl hn hN (by show N' * 4 ≤ _; omega) hcells hslots rfl fun H1 cA' e1 z1 o1 hAr hNm => ?_
  have hcA : cA' = cB := Option.some.inj (hNm.symm.trans (hK.2 0 (cB, .int) rfl).2)
  subst hcA
  have hat : va_at DJ jCl (H.size, .inl (cA', N', .inl fun _ => 0)) H1 := e1
  refine kk H1 z1 (fun k q hq => ?_) ⟨by rw [z1]; exact Nat.le_succ_of_le hS.1, fun q h1 h2 => ?_, hS.2.2⟩
  · match k with
    | 0 => cases hq; exact hat
    | k + 1 => cases hq
  · rw [o1 q (Nat.lt_of_lt_of_le h1 hS.1)]
    exact hS.2.1 q h1 h2
theorem gA_m {ro : Nat → Nat} (hro : ro 99999 = 0) {q : Nat} (h : z ≤ q) : gA z ro q := ⟨h, Or.inr (by rw [hro]; exact Nat.zero_le _)⟩
/-- the law from its entry to the drawing -/
theorem law_front {b : Nat} {xs : Nat → Int32} (hc : LC p s m args meth c z ro cA D DJ (gRo L xs [97])) (hL : L ≤ 260) (hrb : ro 100003 = b) (htr : l.stackTraces = false) (hl : lv_has ls 13 [(0, .ref b)])
    (kk0 : ∀ ls, W p l e room_1 s m args below meth c s.heap [] 0 0 Q (F0 m 438 ls []))
    (kk : ∀ (H : Heap) (locs : List Loc) (ls : Array Slot) (v : PM) (d : Nat → Int32), TdS (bSt xs [97] d) v → okM (249, 0, L + 1000 * 1) v → gRep z ro cA D (gRo L xs [97]) (iG (249, 0, L + 1000 * 1) v) H → DI s z ro cA H H locs → lv_has ls 13 [(3, .ref (z + 1)), (2, .ref z), (1, .int 0), (0, .ref b)] → W p l e room_1 s m args below meth c H locs 249 7000 Q (F0 m 31 ls [])) : W p l e room_1 s m args below meth c s.heap [] 0 0 Q (F0 m 0 ls []) := by
  obtain ⟨hx, hb, hml, hown, hts, hE, hK, hKi, hDg, hro, hz⟩ := id hc
  have hS : va_S (gA z ro) s.heap s.heap [] := va_S.rf
  have hT := (hE.2.2.2.2.1 100003 (L, xs) (by decide) (by unfold gRo; rw [if_neg (by decide), if_neg (by decide), if_neg (by decide), if_pos rfl])).1 (by decide)
  rw [hrb] at hT
  refine lv_iconst (v := 0) hx hb dL_law_0 (by decide) ?_
  refine lv_istore_n (nL := 13) hx hb dL_law_1 rfl hl (by decide) rfl (fun ls hl => ?_)
  have hl : lv_has ls 13 [(1, .int 0), (0, .ref b)] := hl
  refine lv_iload_n hx hb dL_law_2 rfl (lv_at hl 0 rfl) ?_
  refine lv_aload_n hx hb dL_law_3 rfl (lv_at hl 1 rfl) ?_
  refine va_tlen hx hb hT hS (v := nI L) rfl dL_law_4 ?_
  by_cases hL0 : L = 0
  · subst hL0
    exact lv_icmp_ge (tgt := 438) hx hb dL_law_5 (by decide) (fun _ => kk0 ls) (fun h0 => absurd (by decide) h0)
  refine lv_icmp_ge (tgt := 438) hx hb dL_law_5 (by decide) (fun h0 => absurd h0 (nI_nle (by omega) (by omega))) (fun _ => ?_)
  refine lv_iload_n hx hb dL_law_8 rfl (lv_at hl 0 rfl) ?_
  refine lv_iconst (v := 1) hx hb dL_law_9 (by decide) ?_
  refine lv_icmp_ge (tgt := 438) hx hb dL_law_10 (by decide) (fun h0 => absurd h0 (by decide)) (fun _ => ?_)
  refine lv_iconst (v := 1) hx hb dL_law_13 (by decide) ?_
  refine j_newi (N' := 1) hx hb (hts (.arrayClass .int) (jwt 74 (by decide +kernel) rfl)) hKi hS hro hz (by decide) (by decide) (by decide) (Nat.le_of_ble_eq_true rfl) (Nat.le_of_ble_eq_true rfl) dL_law_14 (fun H hH hP hS => ?_)
  rw [hz] at hH hP ⊢
  have hr0 := gRep_start (tx := [97]) (xs := xs) (ro := ro) (D := D) (d := fun _ => 0) hro (show L < 1000 by omega) (show H.size = z + 1 from hH) (hP 0 _ rfl)
  refine lv_dup hx hb dL_law_16 rfl ?_
  refine lv_iconst (v := 0) hx hb dL_law_17 (by decide) ?_
  refine lv_aload_n hx hb dL_law_18 rfl (lv_at hl 1 rfl) ?_
  refine lv_iload_n hx hb dL_law_19 rfl (lv_at hl 0 rfl) ?_
  refine va_ti hx hb hT hS (i := 0) (vp_in_nI (n := 0) (N := L) (by omega) (by omega)) rfl dL_law_20 ?_
  generalize hd0 : xs (0 : Int32).toNatClampNeg = d0
  have hga0 : gAd z ro 0 = z := if_pos (by decide)
  refine W.eq (g2 := F0 m 21 ls [.int d0, .int 0, .ref (gAd z ro 0), .ref z]) (by rw [hga0, ← hd0] <;> rfl) ?_
  refine g_iast (o := 0) (n := 1) (f := fun _ => 0) (D := D) (roArr := gRo L xs [97]) hx hb hE.1 hr0 hS (by decide) (by
    show some (Sum.inr (FieldType.int, 1, Sum.inl fun j : Nat => Int32.ofInt (bSt xs [97] (fun _ => 0) 0 j))) = _
    rfl) (vp_in_nI (n := 0) (N := 1) (by decide) (by decide)) dL_law_21 (fun H' locs hr hS => ?_)
  generalize (upd (fun _ => 0) (0 : Int32).toNatClampNeg d0) = d at hr
  rw [gU_start] at hr
  refine lv_astore_n (nL := 13) hx hb dL_law_22 rfl hl (by decide) rfl (fun ls hl => ?_)
  have hl : lv_has ls 13 [(2, .ref z), (1, .int 0), (0, .ref b)] := hl
  obtain ⟨hF, -⟩ := gFactsA_ok
  obtain ⟨hin, ⟨ty0, hty0, hlen, hdef⟩, hnm⟩ := gF4 10 RX10 TX10 12 rfl
  have hgw : ∀ w ∈ gw, w.before args s = true := fun w hw => hts w (jgw w hw)
  refine g_new (own := RL) (C := RX10) (T := TX10) (N := 12) (ci := 10) (fs := gBlk 10) hx hb hgw hin ty0 hty0 hlen hdef hown (hts (.classLink RL 8 RX10) (jwt 29 (by decide +kernel) rfl)) (hts (.instantiable RX10 12) (jwt 30 (by decide +kernel) rfl)) (hts (.initialized RX10) (jwt 1 (by decide +kernel) rfl)) hE.1 hr hS (show 0 < 1 from Nat.zero_lt_one) (show 1 < gRB by decide) rfl (Nat.le_of_ble_eq_true rfl) (Nat.le_of_ble_eq_true rfl) dL_law_23 (fun H hr hS => ?_)
  have hga : gAd z ro 1 = z + 1 := if_pos (by decide)
  have hg1 : (iG (1, 0, L + 1000 * 1) (uI (bSt xs [97] d))).1 = 1 := rfl
  rw [show gAd z ro (iG (1, 0, L + 1000 * [97].length) (uI (bSt xs [97] d))).1 = z + 1 from hga]
  refine lv_dup hx hb dL_law_26 rfl ?_
  obtain ⟨v, e1, hv⟩ := Td_start (bSt xs [97] d) (bSt_RO xs [97] d) (L + 1000 * 1)
  obtain ⟨w1, hok⟩ := init_TD (fun a k => bSt_in xs (by decide) d a k) (show L + 1000 * 1 < 2147483648 by omega) e1
  have hr2 : gRep z ro cA D (gRo L xs [97]) (ap (iG (1, 0, L + 1000 * 1) (uI (bSt xs [97] d))) [.inl (10, gBlk 10)]) H := by
    rw [← ap_one]
    exact hr
  have hmet := vx_toMet (snd_met (z := z) (ro := ro) (cA := cA) (D := D) (roArr := gRo L xs [97]) (a := M_TD_init) (c1 := 247) (d1 := 6722) (as := [.ref 1]) htr (by decide +kernel) (Nat.le_of_ble_eq_true rfl) (fun x hx => by rw [List.mem_singleton.mp hx]; rfl) rfl (WP.snd gFactsA_ok w1)) (gXC_no (fun _ _ h => h))
  refine g_call (P := gQv (fun G2 => G2 = iG (249, 0, L + 1000 * 1) v) gNo) (va_runI (n := 0) (As := []) (rest := [.ref (z + 1)]) (b := z + 1) ⟨hx, hb, hml, hown, hts⟩ hmet (cwI 0 hts (jGood (List.forall_mem_cons.mpr ⟨jwt 33 (by decide +kernel) rfl, jgw⟩)) rfl rfl rfl (hts (.initialized RX10) (jwt 1 (by decide +kernel) rfl)) (hts (.methodLink RL 235 yX10_init) (jwt 31 (by decide +kernel) rfl)) (hts (.instanceMethod yX10_init) (jwt 32 (by decide +kernel) rfl)) rfl (by decide +kernel) ⟨Nat.le_of_ble_eq_true rfl, Nat.le_of_ble_eq_true rfl⟩) ⟨gPc.blind, fun U hU hW => ⟨by show _ = [Value.ref (gAd z ro 1)].toArray; rw [hga], by rw [hU]; exact hr2, hE.to hW (fun q h1 h2 => (congrArg (fun h : Heap => h[q]?) hU).trans (hS.2.1 q h1 h2))⟩⟩ rfl rfl hl.1 rfl (lv_room (Nat.le_of_ble_eq_true rfl)) dL_law_27 ⟨Nat.le_of_ble_eq_true rfl, Nat.le_of_ble_eq_true rfl⟩) hS (fun vr H locs hres hS => ?_)
  have hres2 : vr = none ∧ gRep z ro cA D (gRo L xs [97]) (iG (249, 0, L + 1000 * 1) v) H := by
    rcases hres with ⟨x, G, a1, a2, -⟩ | ⟨G, a1, a2, a3⟩ | ⟨x, G, -, a2, -⟩ | ⟨x, G, -, a2, -⟩ | ⟨x, G, -, a2, -⟩
    · exact absurd a2 id
    · have a2 : G = iG (249, 0, L + 1000 * 1) v := a2
      subst a2
      exact ⟨a1, a3⟩
    · exact absurd a2 id
    · exact absurd a2 id
    · exact absurd a2 id
  obtain ⟨rfl, hr⟩ := hres2
  refine lv_astore_n (nL := 13) hx hb dL_law_30 rfl hl (by decide) rfl (fun ls hl => ?_)
  refine W.widen (k := 249) (n := 7000) (Nat.le_of_ble_eq_true rfl) (Nat.le_of_ble_eq_true rfl) ?_
  obtain ⟨n, n1, n2, ⟨n3, n4⟩, hPw, -⟩ := id hr
  have hn : H.size = z + n + 1 ∧ 248 ≤ n := ⟨(n4 (by show 0 < 249; decide)).2.1, (n2 248 (by decide)).mp ⟨_, rfl⟩⟩
  have c0 : (iG (249, 0, L + 1000 * 1) v).2 0 = some (.inr (.int, 1, .inl fun j : Nat => Int32.ofInt (v 0 j))) := rfl
  refine kk H locs ls v d hv hok hr ⟨⟨_, hPw 0 _ (gWorld_at c0 (Nat.zero_le _))⟩, hS, fun _ _ _ => rfl, by omega⟩ hl
end
