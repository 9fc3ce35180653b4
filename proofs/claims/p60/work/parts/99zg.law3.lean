/-! ===== p60: the law's first part whole, by wip/p60/jl3.py ===== -/
theorem dL_law_136 : decode cL_law 136 = .ok (.iconst 0, 1) := by decide +kernel
theorem dL_law_137 : decode cL_law 137 = .ok (.istore 7, 2) := by decide +kernel
theorem dL_law_31 : decode cL_law 31 = .ok (.iconst 3, 1) := by decide +kernel
theorem dL_law_32 : decode cL_law 32 = .ok (.aload_n 2, 1) := by decide +kernel
theorem dL_law_33 : decode cL_law 33 = .ok (.iconst 4, 1) := by decide +kernel
theorem dL_law_34 : decode cL_law 34 = .ok (.invokestatic 203, 3) := by decide +kernel
theorem dL_law_37 : decode cL_law 37 = .ok (.iadd, 1) := by decide +kernel
theorem dL_law_38 : decode cL_law 38 = .ok (.istore 4, 2) := by decide +kernel
theorem dL_law_40 : decode cL_law 40 = .ok (.iconst 3, 1) := by decide +kernel
theorem dL_law_41 : decode cL_law 41 = .ok (.aload_n 2, 1) := by decide +kernel
theorem dL_law_42 : decode cL_law 42 = .ok (.iconst 3, 1) := by decide +kernel
theorem dL_law_43 : decode cL_law 43 = .ok (.invokestatic 203, 3) := by decide +kernel
theorem dL_law_46 : decode cL_law 46 = .ok (.iadd, 1) := by decide +kernel
theorem dL_law_47 : decode cL_law 47 = .ok (.istore 5, 2) := by decide +kernel
theorem dL_law_49 : decode cL_law 49 = .ok (.new 236, 3) := by decide +kernel
theorem dL_law_52 : decode cL_law 52 = .ok (.dup, 1) := by decide +kernel
theorem dL_law_53 : decode cL_law 53 = .ok (.ldc 238, 2) := by decide +kernel
theorem dL_law_55 : decode cL_law 55 = .ok (.invokespecial 240, 3) := by decide +kernel
theorem dL_law_58 : decode cL_law 58 = .ok (.iload 4, 2) := by decide +kernel
theorem dL_law_60 : decode cL_law 60 = .ok (.invokevirtual 243, 3) := by decide +kernel
theorem dL_law_63 : decode cL_law 63 = .ok (.bipush 32, 2) := by decide +kernel
theorem dL_law_65 : decode cL_law 65 = .ok (.invokevirtual 246, 3) := by decide +kernel
theorem dL_law_68 : decode cL_law 68 = .ok (.iload 5, 2) := by decide +kernel
theorem dL_law_70 : decode cL_law 70 = .ok (.invokevirtual 243, 3) := by decide +kernel
theorem dL_law_73 : decode cL_law 73 = .ok (.bipush 59, 2) := by decide +kernel
theorem dL_law_75 : decode cL_law 75 = .ok (.invokevirtual 246, 3) := by decide +kernel
theorem dL_law_78 : decode cL_law 78 = .ok (.astore 6, 2) := by decide +kernel
theorem dL_law_80 : decode cL_law 80 = .ok (.iconst 0, 1) := by decide +kernel
theorem dL_law_81 : decode cL_law 81 = .ok (.istore 7, 2) := by decide +kernel
section
variable {p : Program} {l : Launch} {e : Env} {s : State} {m : MethodId} {args : Array Value} {below : List Frame} {meth : Method} {c : Code} {z L : Nat} {ro : Nat → Nat} {cA : FieldType → ClassId} {D DJ : va_G} {ra : Nat → Option (Nat × (Nat → Int32))} {Q : State → Prop} {H1 H : Heap} {locs : List Loc} {st0 st1 st2 st3 st4 cells slots pc sb : Nat} {ls : Array Slot} {lv : List (Nat × Value)} {tx : List Nat} {rest : List Value}
theorem B_new (hc : LC p s m args meth c z ro cA D DJ ra) (hI : DI s z ro cA H1 H locs) (hcc : cells ≤ 1000) (hss : slots ≤ 100000) (hdg : decode cL_law pc = .ok (.new 236, 3))
    (kk : ∀ H' sb, DI s z ro cA H1 H' locs → z + 249 ≤ sb → sb < H'.size → va_P DJ jCl [(sb, .inr (0, [.null, .int 0, .int 0, .int 0]))] H' → W p l e room_1 s m args below meth c H' locs (cells + 1) (slots + 4) Q (F0 m (pc + 3) ls (.ref sb :: rest))) : W p l e room_1 s m args below meth c H locs cells slots Q (F0 m pc ls rest) := by
  obtain ⟨hx, hb, hml, hown, hts, hE, hK, hKi, hDg, hro, hz⟩ := hc
  obtain ⟨⟨f, hz0⟩, hS, hT, hsz⟩ := hI
  have hKn := hK.1 0 _ rfl
  refine W.newcK (C := RJ4) hx hb hown (hts (.classLink RL 236 RJ4) (jwt 1315 (by decide +kernel) rfl)) (hts (.instantiable RJ4 4) (jwt 1316 (by decide +kernel) rfl)) (hts (.initialized RJ4) (jwt 19 (by decide +kernel) rfl)) rfl hdg (by show cells + 1 ≤ 600086; omega) (by show slots + 4 ≤ 7301442; omega) hKn.2.1 rfl fun H' kC hkC e1 z1 o1 => ?_
  refine kk H' H.size ⟨⟨f, by rw [o1 z (by omega)]; exact hz0⟩, ⟨by rw [z1]; exact Nat.le_succ_of_le hS.1, fun q h1 h2 => (o1 q (Nat.lt_of_lt_of_le h1 hS.1)).trans (hS.2.1 q h1 h2), hS.2.2⟩, fun q h1 h2 => by rw [o1 q (by omega)]; exact hT q h1 h2, by omega⟩ hsz (by omega) (fun k x hx => ?_)
  have hz : k < 1 := (List.getElem?_eq_some_iff.mp hx).1
  rw [show k = 0 by omega] at hx
  cases hx
  exact ⟨_, rfl, (u_born (C := RJ4) (T := TJ4) (N := 4) tyJ4 hts j4_in hKn hkC e1 tyJ4_ok).to (fun j hj => by rcases (show j = 0 ∨ j = 1 ∨ j = 2 ∨ j = 3 by omega) with rfl | rfl | rfl | rfl <;> rfl)⟩
/-- new StringBuilder("trunk ") -/
theorem B_init (hc : LC p s m args meth c z ro cA D DJ ra) (hl : lv_has ls 13 lv) {st : Nat} {ys : List Nat} (hst : gTx ys st (gA z ro) s s.heap) (hys : ∀ ch ∈ ys, ch < 128) (hy : ys.length = 6) (hI : DI s z ro cA H1 H locs) (hsb : z + 249 ≤ sb) (hsb2 : sb < H.size) (hP : va_P DJ jCl [(sb, .inr (0, [.null, .int 0, .int 0, .int 0]))] H) (hcc : cells ≤ 1000) (hss : slots ≤ 100000) (hrest : 2 * 0 + (rest.map fun v => v.category).sum ≤ 8) (hdg : decode cL_law pc = .ok (.invokespecial 240, 3))
    (kk : ∀ H locs, jBI s z ro cA DJ H1 sb ys H locs → W p l e room_1 s m args below meth c H locs (cells + 2) (slots + 500) Q (F0 m (pc + 3) ls rest)) : W p l e room_1 s m args below meth c H locs cells slots Q (F0 m pc ls (.ref st :: .ref sb :: rest)) := by
  obtain ⟨hx, hb, hml, hown, hts, hE, hK, hKi, hDg, hro, hz⟩ := hc
  obtain ⟨⟨f, hz0⟩, hS, hT, hsz⟩ := hI
  have hD : va_D (fun _ => True) [(sb, (.inr (0, [.null, .int 0, .int 0, .int 0]) : va_E))] := by
    refine ⟨fun i j p q hi hj _ => ?_, fun _ _ _ => trivial⟩
    match i, j with
    | 0, 0 => rfl
    | i + 1, _ => cases hi
    | 0, j + 1 => cases hj
  have hF := jF_gA (z := z) (ro := ro) (sb := sb) hro hsb hsb hsz
  refine va_callv (va_runI (n := 1) (As := [.ref st]) (rest := rest) ⟨hx, hb, hml, hown, hts⟩ (jm_init4 (z := z) (ro := ro) (cA := cA) (D := D) (DJ := DJ) (roArr := ra) l (sb := sb) (sz := H.size) (st := st) (tx := ys) (by omega) (txD hys) hF) (cwI 1 hts (jGood (List.forall_mem_cons.mpr ⟨jwt 1319 (by decide +kernel) rfl, fun w h => h⟩)) rfl rfl rfl (hts (.initialized RJ4) (jwt 19 (by decide +kernel) rfl)) (hts (.methodLink RL 240 yJ4_init_a7421) (jwt 1317 (by decide +kernel) rfl)) (hts (.instanceMethod yJ4_init_a7421) (jwt 1318 (by decide +kernel) rfl)) rfl (by decide +kernel) ⟨Nat.le_of_ble_eq_true rfl, Nat.le_of_ble_eq_true rfl⟩) ⟨fun a U g mk q => ⟨q.1, jPre.blind q.2.1, q.2.2⟩, fun U hU hW => ⟨rfl, jPre.to hU hW hE hS hK hP hD, gTx.up hU hW hst hS⟩⟩ rfl rfl hl.1 rfl hrest hdg ⟨by show cells + 2 ≤ 600086; omega, by show slots + 500 ≤ 7301442; omega⟩) hS (fun q _ h => hF q h) hF (fun u t H' locs' ht hvm hpost hB hz1 hk1 hS' => ?_)
  obtain ⟨v', M', a'⟩ := u
  obtain ⟨hP1, hD1⟩ := hB
  rw [ht] at hP1
  obtain ⟨q1, q2, q3⟩ := hpost
  have keep : ∀ q, q < z + 249 → H'[q]? = H[q]? := fun q h => hk1 q (by omega) (by
    rintro (h | h | h) <;> omega)
  have hv' : z + 249 ≤ v' := by
    rcases hD1.2 1 _ rfl with h | h | h
    · have : v' = sb := h
      omega
    · have : v' = sb := h
      omega
    · have : H.size ≤ v' := h
      omega
  have q1 : M' = ys.length + 16 := q1
  exact kk H' locs' ⟨⟨⟨f, by rw [keep z (by omega)]; exact hz0⟩, hS', fun q h1 h2 => by rw [keep q h2]; exact hT q h1 h2, by omega⟩, v', a', M', hP1, hsb, hv', fun e => absurd (hD1.1 0 1 _ _ rfl rfl e) (by decide), Or.inl (by omega), by omega, q2, q3, hys⟩
/-- the text -/
theorem B_toS (hc : LC p s m args meth c z ro cA D DJ ra) (hl : lv_has ls 13 lv) (hI : jBI s z ro cA DJ H1 sb tx H locs) (hn : tx.length = 52 ∨ tx.length = 62 ∨ tx.length = 72 ∨ tx.length = 82 ∨ tx.length = 92 ∨ tx.length = 102) (hcc : cells ≤ 1000) (hss : slots ≤ 100000) (hrest : 2 * 0 + (rest.map fun v => v.category).sum ≤ 8) (hdg : decode cL_law pc = .ok (.invokevirtual 260, 3))
    (kk : ∀ H locs st, DI s z ro cA H1 H locs → (∃ v ml a M r c, va_P DJ jCl [jS sb v ml (nI tx.length), jV (cA .byte) v a M, (st, .inr (1, [.ref r, .int 0, .int 0, .int 0])), jV (cA .byte) r c tx.length] H ∧ z + 249 ≤ st ∧ z + 249 ≤ r ∧ ∀ j, j < tx.length → c j = nI (tx.getD j 0)) → (∀ ch ∈ tx, ch < 128) → W p l e room_1 s m args below meth c H locs (cells + 2) (slots + 300) Q (F0 m (pc + 3) ls (.ref st :: rest))) : W p l e room_1 s m args below meth c H locs cells slots Q (F0 m pc ls (.ref sb :: rest)) := by
  obtain ⟨hx, hb, hml, hown, hts, hE, hK, hKi, hDg, hro, hz⟩ := hc
  obtain ⟨⟨⟨f, hz0⟩, hS, hT, hsz⟩, v, a, M, hP, p1, p2, p3, p4, p5, p6, p7, p8⟩ := id hI
  have hD := jD_of (cB := cA .byte) (ml := 0) (n := nI tx.length) (a := a) (M := M) p3
  have hF := jF_gA (z := z) (ro := ro) hro p1 p2 hsz
  refine va_callr (va_runV (n := 0) (C := RJ4) (As := []) (rest := rest) ⟨hx, hb, hml, hown, hts⟩ (jm_toStr (z := z) (ro := ro) (cA := cA) (D := D) (DJ := DJ) (roArr := ra) l (sb := sb) (v := v) (M := M) (sz := H.size) (ml := 0) (n := tx.length) (a := a) (by omega) (by omega) (by omega) p6 hF) (cwV 0 hts (jGood (List.forall_mem_cons.mpr ⟨jwt 1485 (by decide +kernel) rfl, List.forall_mem_cons.mpr ⟨jwt 1486 (by decide +kernel) rfl, List.forall_mem_cons.mpr ⟨jwt 1487 (by decide +kernel) rfl, List.forall_mem_cons.mpr ⟨jwt 19 (by decide +kernel) rfl, List.forall_mem_cons.mpr ⟨jwt 1488 (by decide +kernel) rfl, fun w h => h⟩⟩⟩⟩⟩)) rfl rfl rfl (by decide +kernel) ⟨Nat.le_of_ble_eq_true rfl, Nat.le_of_ble_eq_true rfl⟩) ⟨fun a U g mk q => ⟨q.1, jPre.blind q.2⟩, va_recv (ci := 0) (q0 := 0) hK hP rfl rfl, fun U hU hW => ⟨rfl, jPre.to hU hW hE hS hK hP hD⟩⟩ rfl rfl hl.1 rfl hrest hdg ⟨by show cells + 2 ≤ 600086; omega, by show slots + 300 ≤ 7301442; omega⟩) hS (fun q _ h => hF q h) hF (fun r st t H' locs' ht hvm hpost hB hz1 hk1 hS' => ?_)
  obtain ⟨hP1, hD1⟩ := hB
  rw [ht] at hP1
  have keep : ∀ q, q < z + 249 → H'[q]? = H[q]? := fun q h => hk1 q (by omega) (by
    rintro (h | h | h) <;> omega)
  have loc : ∀ x, jF sb v H.size x → z + 249 ≤ x := fun x h => by
    rcases h with h | h | h <;> omega
  exact kk H' locs' st ⟨⟨f, by rw [keep z (by omega)]; exact hz0⟩, hS', fun q h1 h2 => by rw [keep q h2]; exact hT q h1 h2, by omega⟩ ⟨v, 0, a, M, r, _, hP1, loc st (hD1.2 2 _ rfl), loc r (hD1.2 3 _ rfl), fun j hj => (show va_cpy a (fun _ => 0) 0 0 tx.length j = _ from (sb_cpy0 hj).trans (p7 j hj))⟩ p8
/-- the text is built -/
theorem law_mid (hc : LC p s m args meth c z ro cA D DJ ra) {o b : Nat} (hv0 : vk_R "TrunkDuelLaw" 238 "trunk " st0 s) (hg0 : gTx [116, 114, 117, 110, 107, 32] st0 (gA z ro) s s.heap) (hv1 : vk_R "TrunkDuelLaw" 249 "block " st1 s) (hg1 : gTx [98, 108, 111, 99, 107, 32] st1 (gA z ro) s s.heap) (hv2 : vk_R "TrunkDuelLaw" 254 "player " st2 s) (hg2 : gTx [112, 108, 97, 121, 101, 114, 32] st2 (gA z ro) s s.heap) (hv3 : vk_R "TrunkDuelLaw" 256 "a" st3 s) (hg3 : gTx [97] st3 (gA z ro) s s.heap) (hv4 : vk_R "TrunkDuelLaw" 258 "b" st4 s) (hg4 : gTx [98] st4 (gA z ro) s s.heap) {cells slots : Nat} {ls : Array Slot} (hI : DI s z ro cA H1 H locs) (hcl : cells ≤ 260) (hsl : slots ≤ 10000) (hl : lv_has ls 13 [(3, .ref o), (2, .ref z), (1, .int 0), (0, .ref b)])
    (kk : ∀ (cc r : Nat) (bl : List (Nat × Nat)) (lz0 lz1 : List Nat) (H : Heap) (locs : List Loc) (ls : Array Slot) (sb : Nat), 3 ≤ cc ∧ cc ≤ 8 → 3 ≤ r ∧ r ≤ 8 → blOk cc r 0 bl → bl.length ≤ 5 → lz0.length = 6 → lz1.length = 6 → (∀ v ∈ lz0, v ≤ 9) → (∀ v ∈ lz1, v ≤ 9) → jBI s z ro cA DJ H1 sb (twA cc r bl lz0 lz1) H locs → lv_has ls 13 [(7, .int 2), (6, .ref sb), (5, .int (nI r)), (4, .int (nI cc)), (3, .ref o), (2, .ref z), (1, .int 0), (0, .ref b)] → W p l e room_1 s m args below meth c H locs 400 50000 Q (F0 m 216 ls [])) : W p l e room_1 s m args below meth c H locs cells slots Q (F0 m 31 ls []) := by
  obtain ⟨hx, hb, hml, hown, hts, -⟩ := id hc
  refine lv_iconst (v := (nI 3)) hx hb dL_law_31 (by decide) ?_
  refine lv_aload_n hx hb dL_law_32 rfl (lv_at hl 1 rfl) ?_
  refine lv_iconst (v := (nI 4)) hx hb dL_law_33 (by decide) ?_
  refine L_drw hc hl (n := 4) (by omega) (by omega) hI (by omega) (by omega) (Nat.le_of_ble_eq_true rfl) dL_law_34 (fun k1 H locs hk1 hI _ => ?_)
  refine lv_iadd hx hb dL_law_37 ?_
  refine W.eq (g2 := F0 m 38 ls [.int (nI (3 + k1))]) (by rw [show (((nI 3) + (nI k1) : Int32)) = nI (3 + k1) from nI_add 3 k1]) ?_
  refine lv_istore (nL := 13) hx hb dL_law_38 hl (by decide) rfl (fun ls hl => ?_)
  have hl : lv_has ls 13 [(4, .int (nI (3 + k1))), (3, .ref o), (2, .ref z), (1, .int 0), (0, .ref b)] := hl
  refine lv_iconst (v := (nI 3)) hx hb dL_law_40 (by decide) ?_
  refine lv_aload_n hx hb dL_law_41 rfl (lv_at hl 2 rfl) ?_
  refine lv_iconst (v := (nI 3)) hx hb dL_law_42 (by decide) ?_
  refine L_drw hc hl (n := 3) (by omega) (by omega) hI (by omega) (by omega) (Nat.le_of_ble_eq_true rfl) dL_law_43 (fun k2 H locs hk2 hI _ => ?_)
  refine lv_iadd hx hb dL_law_46 ?_
  refine W.eq (g2 := F0 m 47 ls [.int (nI (3 + k2))]) (by rw [show (((nI 3) + (nI k2) : Int32)) = nI (3 + k2) from nI_add 3 k2]) ?_
  refine lv_istore (nL := 13) hx hb dL_law_47 hl (by decide) rfl (fun ls hl => ?_)
  have hl : lv_has ls 13 [(5, .int (nI (3 + k2))), (4, .int (nI (3 + k1))), (3, .ref o), (2, .ref z), (1, .int 0), (0, .ref b)] := hl
  refine B_new hc hI (by omega) (by omega) dL_law_49 (fun H sb hI hsb hsb2 hPs => ?_)
  refine lv_dup hx hb dL_law_52 rfl ?_
  refine va_ldcS hx hb hown hv0 dL_law_53 ?_
  refine B_init hc hl (ys := [116, 114, 117, 110, 107, 32]) hg0 (by decide) rfl hI hsb hsb2 hPs (by omega) (by omega) (Nat.le_of_ble_eq_true rfl) dL_law_55 (fun H locs hI => ?_)
  refine lv_iload hx hb dL_law_58 (lv_at hl 1 rfl) ?_
  refine B_dig hc hl (w := (3 + k1)) (by omega) hI (by (try simp only [List.length_append, List.length_cons, List.length_nil]); omega) (by omega) (by omega) (Nat.le_of_ble_eq_true rfl) dL_law_60 (fun H locs hI => ?_)
  refine lv_bipush (v := nI 32) hx hb dL_law_63 (by decide) ?_
  refine B_char hc hl (ch := 32) (by omega) hI (by (try simp only [List.length_append, List.length_cons, List.length_nil]); omega) (by omega) (by omega) (Nat.le_of_ble_eq_true rfl) dL_law_65 (fun H locs hI => ?_)
  refine lv_iload hx hb dL_law_68 (lv_at hl 0 rfl) ?_
  refine B_dig hc hl (w := (3 + k2)) (by omega) hI (by (try simp only [List.length_append, List.length_cons, List.length_nil]); omega) (by omega) (by omega) (Nat.le_of_ble_eq_true rfl) dL_law_70 (fun H locs hI => ?_)
  refine lv_bipush (v := nI 59) hx hb dL_law_73 (by decide) ?_
  refine B_char hc hl (ch := 59) (by omega) hI (by (try simp only [List.length_append, List.length_cons, List.length_nil]); omega) (by omega) (by omega) (Nat.le_of_ble_eq_true rfl) dL_law_75 (fun H locs hI => ?_)
  refine lv_astore (nL := 13) hx hb dL_law_78 hl (by decide) rfl (fun ls hl => ?_)
  have hl : lv_has ls 13 [(6, .ref sb), (5, .int (nI (3 + k2))), (4, .int (nI (3 + k1))), (3, .ref o), (2, .ref z), (1, .int 0), (0, .ref b)] := hl
  refine lv_iconst (v := (nI 0)) hx hb dL_law_80 (by decide) ?_
  refine lv_istore (nL := 13) hx hb dL_law_81 hl (by decide) rfl (fun ls hl => ?_)
  have hl : lv_has ls 13 [(7, .int (nI 0)), (6, .ref sb), (5, .int (nI (3 + k2))), (4, .int (nI (3 + k1))), (3, .ref o), (2, .ref z), (1, .int 0), (0, .ref b)] := hl
  refine W.widen (k := 300 + 5 * 0) (n := 20000 + 1250 * 0) (by omega) (by omega) ?_
  have hcc : 3 ≤ 3 + k1 ∧ 3 + k1 ≤ 6 := ⟨by omega, by omega⟩
  have hr : 3 ≤ 3 + k2 ∧ 3 + k2 ≤ 5 := ⟨by omega, by omega⟩
  refine law_blk hc hcc hr hv1 hg1 (t0 := (((([116, 114, 117, 110, 107, 32] ++ [48 + (3 + k1)]) ++ [32]) ++ [48 + (3 + k2)]) ++ [59])) rfl ?_ (3 + k2) 0 [] H locs ls (by omega) trivial (fun q hq => absurd hq List.not_mem_nil) (Nat.le_refl 0) (by show jBI s z ro cA DJ H1 sb (_ ++ []) H locs; rw [List.append_nil]; exact hI) hl
  intro bl H locs ls q1 q2 hI hl
  have hbl := twBs_len bl
  refine lv_iconst (v := 0) hx hb dL_law_136 (by decide) ?_
  refine lv_istore (nL := 13) hx hb dL_law_137 hl (by decide) rfl (fun ls hl => ?_)
  have hl : lv_has ls 13 [(7, .int 0), (6, .ref sb), (5, .int (nI (3 + k2))), (4, .int (nI (3 + k1))), (3, .ref o), (2, .ref z), (1, .int 0), (0, .ref b)] := hl
  refine law_p0 hc hv2 hg2 hv3 hg3 hI (by rw [List.length_append, hbl]; show 10 + 10 * bl.length ≤ 81; omega) (by omega) (by omega) hl (fun lz0 H locs ls a1 a2 hI hl => ?_)
  have hp0 : (twP 97 lz0).length = 21 := by rw [twP_eq]; simp only [List.length_append, List.length_cons, List.length_nil, twD_len, a1]
  refine law_p1 hc hv2 hg2 hv4 hg4 hI (by rw [List.length_append, List.length_append, hbl, hp0]; show 10 + 10 * bl.length + 21 ≤ 81; omega) (by omega) (by omega) hl (fun lz1 H locs ls b1 b2 hI hl => ?_)
  refine lv_iload hx hb dL_law_139 (lv_at hl 0 rfl) ?_
  refine lv_iconst (v := 2) hx hb dL_law_141 (by decide) ?_
  refine lv_icmp_ge (tgt := 216) hx hb dL_law_142 (by decide) (fun _ => ?_) (fun h0 => absurd (by decide) h0)
  refine W.widen (k := 400) (n := 50000) (by omega) (by omega) ?_
  refine kk (3 + k1) (3 + k2) bl lz0 lz1 H locs ls sb ⟨hcc.1, by omega⟩ ⟨hr.1, by omega⟩ q1 (by omega) a1 b1 a2 b2 ?_ hl
  unfold twA
  rw [← List.append_assoc, ← List.append_assoc]
  exact hI
end
