/-! ===== the JDK: a new builder, by wip/p60/jm6.py ===== -/
theorem dJ4_init_a7421_0 : decode cJ4_init_a7421 0 = .ok (.aload_n 0, 1) := by decide +kernel
theorem dJ4_init_a7421_1 : decode cJ4_init_a7421 1 = .ok (.aload_n 1, 1) := by decide +kernel
theorem dJ4_init_a7421_2 : decode cJ4_init_a7421 2 = .ok (.invokespecial 7, 3) := by decide +kernel
theorem dJ4_init_a7421_5 : decode cJ4_init_a7421 5 = .ok (.return_, 1) := by decide +kernel
theorem dJ5_init_a7421_0 : decode cJ5_init_a7421 0 = .ok (.aload_n 0, 1) := by decide +kernel
theorem dJ5_init_a7421_1 : decode cJ5_init_a7421 1 = .ok (.invokespecial 3, 3) := by decide +kernel
theorem dJ5_init_a7421_10 : decode cJ5_init_a7421 10 = .ok (.ldc 38, 2) := by decide +kernel
theorem dJ5_init_a7421_12 : decode cJ5_init_a7421 12 = .ok (.if_icmp .ge 10, 3) := by decide +kernel
theorem dJ5_init_a7421_15 : decode cJ5_init_a7421 15 = .ok (.iload_n 2, 1) := by decide +kernel
theorem dJ5_init_a7421_16 : decode cJ5_init_a7421 16 = .ok (.bipush 16, 2) := by decide +kernel
theorem dJ5_init_a7421_18 : decode cJ5_init_a7421 18 = .ok (.iadd, 1) := by decide +kernel
theorem dJ5_init_a7421_19 : decode cJ5_init_a7421 19 = .ok (.goto 5, 3) := by decide +kernel
theorem dJ5_init_a7421_24 : decode cJ5_init_a7421 24 = .ok (.istore_n 3, 1) := by decide +kernel
theorem dJ5_init_a7421_25 : decode cJ5_init_a7421 25 = .ok (.aload_n 1, 1) := by decide +kernel
theorem dJ5_init_a7421_26 : decode cJ5_init_a7421 26 = .ok (.invokevirtual 40, 3) := by decide +kernel
theorem dJ5_init_a7421_29 : decode cJ5_init_a7421 29 = .ok (.istore 4, 2) := by decide +kernel
theorem dJ5_init_a7421_31 : decode cJ5_init_a7421 31 = .ok (.aload_n 0, 1) := by decide +kernel
theorem dJ5_init_a7421_32 : decode cJ5_init_a7421 32 = .ok (.iload 4, 2) := by decide +kernel
theorem dJ5_init_a7421_34 : decode cJ5_init_a7421 34 = .ok (.putfield 22, 3) := by decide +kernel
theorem dJ5_init_a7421_37 : decode cJ5_init_a7421 37 = .ok (.aload_n 0, 1) := by decide +kernel
theorem dJ5_init_a7421_38 : decode cJ5_init_a7421 38 = .ok (.iload 4, 2) := by decide +kernel
theorem dJ5_init_a7421_4 : decode cJ5_init_a7421 4 = .ok (.aload_n 1, 1) := by decide +kernel
theorem dJ5_init_a7421_40 : decode cJ5_init_a7421 40 = .ok (.ifCond .ne 9, 3) := by decide +kernel
theorem dJ5_init_a7421_43 : decode cJ5_init_a7421 43 = .ok (.iload_n 3, 1) := by decide +kernel
theorem dJ5_init_a7421_44 : decode cJ5_init_a7421 44 = .ok (.newarray .byte, 2) := by decide +kernel
theorem dJ5_init_a7421_46 : decode cJ5_init_a7421 46 = .ok (.goto 7, 3) := by decide +kernel
theorem dJ5_init_a7421_5 : decode cJ5_init_a7421 5 = .ok (.invokevirtual 32, 3) := by decide +kernel
theorem dJ5_init_a7421_53 : decode cJ5_init_a7421 53 = .ok (.putfield 15, 3) := by decide +kernel
theorem dJ5_init_a7421_56 : decode cJ5_init_a7421 56 = .ok (.aload_n 0, 1) := by decide +kernel
theorem dJ5_init_a7421_57 : decode cJ5_init_a7421 57 = .ok (.aload_n 1, 1) := by decide +kernel
theorem dJ5_init_a7421_58 : decode cJ5_init_a7421 58 = .ok (.invokevirtual 43, 3) := by decide +kernel
theorem dJ5_init_a7421_61 : decode cJ5_init_a7421 61 = .ok (.pop, 1) := by decide +kernel
theorem dJ5_init_a7421_62 : decode cJ5_init_a7421 62 = .ok (.return_, 1) := by decide +kernel
theorem dJ5_init_a7421_8 : decode cJ5_init_a7421 8 = .ok (.istore_n 2, 1) := by decide +kernel
theorem dJ5_init_a7421_9 : decode cJ5_init_a7421 9 = .ok (.iload_n 2, 1) := by decide +kernel
theorem jF_D1 {sb sz : Nat} {e : va_E} (h : va_D (fun _ => True) [(sb, e)]) : va_D (jF sb sb sz) [(sb, e)] := ⟨h.1, fun k q hk => by
  match k with
  | 0 => cases hk; exact Or.inl rfl
  | k + 1 => cases hk⟩
section
variable {z : Nat} {ro : Nat → Nat} {cA : FieldType → ClassId} {D DJ : va_G} {roArr : Nat → Option (Nat × (Nat → Int32))}
set_option maxHeartbeats 4000000 in
set_option maxRecDepth 100000 in
/-- AbstractStringBuilder(String) -/
theorem jm_init5 (l : Launch) {sb sz st : Nat} {tx : List Nat} (hk : tx.length ≤ 20) (htx : ∀ i, tx.getD i 0 < 128) (hF : ∀ q, jF sb sb sz q → gA z ro q) : Met l yJ5_init_a7421 (jWs yJ5_init_a7421 cJ5_init_a7421 5 none) ({ frames := 8, cells := 2, slots := 500, locals := 260 }) (va_Pc [.ref sb, .ref st] (fun U => jPre z ro cA D roArr DJ sz [(sb, .inr (0, [.null, .int 0, .int 0, .int 0]))] U ∧ gTx tx st (gA z ro) U U.heap)) (va_Qv (fun u : Nat × Nat × (Nat → Int32) => u.2.1 = tx.length + 16 ∧ sb_Fit u.2.2 ∧ (∀ i, i < tx.length → u.2.2 i = nI (tx.getD i 0))) (fun u t => va_P DJ jCl (jW (cA .byte) sb u.1 0 (nI tx.length) u.2.2 u.2.1) t.heap ∧ va_D (jF sb sb sz) (jW (cA .byte) sb u.1 0 (nI tx.length) u.2.2 u.2.1)) (jF sb sb sz)) 2 500 (jF sb sb sz) := by
  refine Met.ofW (cc := cJ5_init_a7421) (maxL := 5) (ret := none) (by decide) rfl ?_
  intro p e s m args below meth c s₁ B hml hv
  obtain ⟨rfl, ⟨⟨hE, hsz, hK, hP, hD0⟩, hT⟩⟩ := hv
  have hx := B.exec
  have hb := B.bytes
  have hr := B.returns
  have hlocks := B.notSynchronized
  have hts0 := atoms_spec (ws := jWs yJ5_init_a7421 cJ5_init_a7421 5 none) B.pre
  have hts : ∀ w ∈ jw, w.before _ s = true := fun w h => hts0 w (List.mem_cons_of_mem _ h)
  have hown : s.vm.findClass RJ5 = some m.cls := findClass_of_methodNamed B.named
  subst hsz
  have hD := jF_D1 (sz := s.heap.size) hD0
  have hA : ∀ q : Nat, s.heap.size ≤ q → jF sb sb s.heap.size q := fun q h => Or.inr (Or.inr h)
  have hS : va_S (jF sb sb s.heap.size) s.heap s.heap [] := va_S.rf
  have hG := hS.up hF
  have hSS : ∀ q, jF sb sb s.heap.size q → jF sb sb s.heap.size q := fun _ h => h
  have hT0 := hT
  obtain ⟨w, hO, hco, hva, hB⟩ := hT
  have htl : tx.length < 2 ^ 31 := by omega
  have hl := lv_entry ([.ref sb, .ref st]) (n := 5) (Nat.le_of_ble_eq_true rfl)
  rw [lg_entry_eq]
  generalize (lg_sl ([.ref sb, .ref st]) ++ List.replicate (5 - (lg_sl ([.ref sb, .ref st])).length) Slot.unset).toArray = ls at hl ⊢
  have hl : lv_has ls 5 [(0, .ref sb), (1, .ref st)] := hl
  refine lv_aload_n hx hb dJ5_init_a7421_0 rfl (lv_at hl 0 rfl) ?_
  refine W.objInit hx hb hown (hts (.methodLink RJ5 3 objectInit) (jwt 1323 (by decide +kernel) rfl)) (hts (.instanceMethod objectInit) (jwt 35 (by decide +kernel) rfl)) (hts (.code objectInit ⟨#[0xb1]⟩ 1 none) (jwt 36 (by decide +kernel) rfl)) rfl (by rw [hml]; exact hl.1) rfl dJ5_init_a7421_1 (Nat.le_of_ble_eq_true rfl) (Nat.le_of_ble_eq_true rfl) ?_
  refine W.eq (g2 := F0 m 4 ls []) rfl ?_
  refine lv_aload_n hx hb dJ5_init_a7421_4 rfl (lv_at hl 1 rfl) ?_
  refine g_calln (va_runV (n := 0) (C := RJ0) (As := []) (rest := []) ⟨hx, hb, hml, hown, hts⟩ (gm_length (z := z) (ro := ro) (cA := cA) (D := D) (roArr := roArr) l st tx htl) (cwV 0 hts (jGood (List.forall_mem_cons.mpr ⟨jwt 1324 (by decide +kernel) rfl, List.forall_mem_cons.mpr ⟨jwt 350 (by decide +kernel) rfl, List.forall_mem_cons.mpr ⟨jwt 351 (by decide +kernel) rfl, List.forall_mem_cons.mpr ⟨jwt 12 (by decide +kernel) rfl, List.forall_mem_cons.mpr ⟨jwt 352 (by decide +kernel) rfl, jgw⟩⟩⟩⟩⟩)) rfl rfl rfl (by decide +kernel) ⟨Nat.le_of_ble_eq_true rfl, Nat.le_of_ble_eq_true rfl⟩) ⟨fun a U g mk q => ⟨q.1, gEnv.blind q.2.1, q.2.2⟩, va_Orecv hO hG, fun U hU hW => ⟨rfl, hE.to hW (fun q h1 h2 => (congrArg (fun h : Heap => h[q]?) hU).trans (hG.2.1 q h1 h2)), gTx.up hU hW hT0 hG⟩⟩ rfl rfl hl.1 rfl (lv_room (Nat.le_of_ble_eq_true rfl)) dJ5_init_a7421_5 ⟨Nat.zero_le _, Nat.zero_le _⟩) (fun x hx0 => ?_)
  subst hx0
  refine lv_istore_n (nL := 5) hx hb dJ5_init_a7421_8 rfl hl (by decide) rfl (fun ls hl => ?_)
  have hl : lv_has ls 5 [(2, .int (nI tx.length)), (0, .ref sb), (1, .ref st)] := hl
  refine lv_iload_n hx hb dJ5_init_a7421_9 rfl (lv_at hl 0 rfl) ?_
  refine lv_ldc (v := 2147483631) hx hb hown (hts (.constant RJ5 38 (2147483631)) (jwt 1325 (by decide +kernel) rfl)) dJ5_init_a7421_10 ?_
  refine lv_icmp_ge (tgt := 22) hx hb dJ5_init_a7421_12 (by decide) (fun h0 => absurd h0 (show ¬ nI 2147483631 ≤ nI tx.length from nI_ge (by omega) (by decide))) (fun _ => ?_)
  refine lv_iload_n hx hb dJ5_init_a7421_15 rfl (lv_at hl 0 rfl) ?_
  refine lv_bipush (v := 16) hx hb dJ5_init_a7421_16 (by decide) ?_
  refine lv_iadd hx hb dJ5_init_a7421_18 ?_
  refine W.eq (g2 := F0 m 19 ls [.int (nI (tx.length + 16))]) (by rw [show (((nI tx.length) + ((16) : Int32) : Int32)) = nI (tx.length + 16) from nI_add tx.length 16]) ?_
  refine lv_goto (tgt := 24) hx hb dJ5_init_a7421_19 (by decide) ?_
  refine lv_istore_n (nL := 5) hx hb dJ5_init_a7421_24 rfl hl (by decide) rfl (fun ls hl => ?_)
  have hl : lv_has ls 5 [(3, .int (nI (tx.length + 16))), (2, .int (nI tx.length)), (0, .ref sb), (1, .ref st)] := hl
  refine lv_aload_n hx hb dJ5_init_a7421_25 rfl (lv_at hl 3 rfl) ?_
  refine g_calln (va_runV (n := 0) (C := RJ0) (As := []) (rest := []) ⟨hx, hb, hml, hown, hts⟩ (gm_coder (z := z) (ro := ro) (cA := cA) (D := D) (roArr := roArr) l st tx) (cwV 0 hts (jGood (List.forall_mem_cons.mpr ⟨jwt 1327 (by decide +kernel) rfl, List.forall_mem_cons.mpr ⟨jwt 354 (by decide +kernel) rfl, List.forall_mem_cons.mpr ⟨jwt 355 (by decide +kernel) rfl, List.forall_mem_cons.mpr ⟨jwt 12 (by decide +kernel) rfl, List.forall_mem_cons.mpr ⟨jwt 356 (by decide +kernel) rfl, jgw⟩⟩⟩⟩⟩)) rfl rfl rfl (by decide +kernel) ⟨Nat.le_of_ble_eq_true rfl, Nat.le_of_ble_eq_true rfl⟩) ⟨fun a U g mk q => ⟨q.1, gEnv.blind q.2.1, q.2.2⟩, va_Orecv hO hG, fun U hU hW => ⟨rfl, hE.to hW (fun q h1 h2 => (congrArg (fun h : Heap => h[q]?) hU).trans (hG.2.1 q h1 h2)), gTx.up hU hW hT0 hG⟩⟩ rfl rfl hl.1 rfl (lv_room (Nat.le_of_ble_eq_true rfl)) dJ5_init_a7421_26 ⟨Nat.zero_le _, Nat.zero_le _⟩) (fun x hx0 => ?_)
  subst hx0
  refine lv_istore (nL := 5) hx hb dJ5_init_a7421_29 hl (by decide) rfl (fun ls hl => ?_)
  have hl : lv_has ls 5 [(4, .int 0), (3, .int (nI (tx.length + 16))), (2, .int (nI tx.length)), (0, .ref sb), (1, .ref st)] := hl
  refine lv_aload_n hx hb dJ5_init_a7421_31 rfl (lv_at hl 3 rfl) ?_
  refine lv_iload hx hb dJ5_init_a7421_32 (lv_at hl 0 rfl) ?_
  refine va_put (D := DJ) (ci := 0) (v := .int 0) (ty := .byte) (C := RJ4) (T := TJ4) (N := 4) hx hb hts j4_in tyJ4 tyJ4_ok nmJ4 hown hK hP hD hS 0 rfl rfl 1 (by decide) (hts (.fieldLink RJ5 22 "java/lang/AbstractStringBuilder" "coder" "B") (jwt 1435 (by decide +kernel) rfl)) (fun x hx => hx) rfl (by decide +kernel) rfl rfl (Nat.le_of_ble_eq_true rfl) dJ5_init_a7421_34 (fun H locs hP hD hS => ?_)
  have hP : va_P DJ jCl [(sb, .inr (0, [.null, .int 0, .int 0, .int 0]))] H := hP
  have hD : va_D (jF sb sb s.heap.size) [(sb, .inr (0, [.null, .int 0, .int 0, .int 0]))] := hD
  have hG := hS.up hF
  refine lv_aload_n hx hb dJ5_init_a7421_37 rfl (lv_at hl 3 rfl) ?_
  refine lv_iload hx hb dJ5_init_a7421_38 (lv_at hl 0 rfl) ?_
  refine lv_if_ne (tgt := 49) hx hb dJ5_init_a7421_40 (by decide) (fun h0 => absurd rfl h0) (fun _ => ?_)
  refine lv_iload_n hx hb dJ5_init_a7421_43 rfl (lv_at hl 1 rfl) ?_
  refine j_newb hx hb (hts (.arrayClass .byte) (jwt 748 (by decide +kernel) rfl)) hK hP hD hS hA (n := (nI (tx.length + 16))) (N' := (tx.length + 16)) (nI_pos (by omega)) (nI_clamp (by omega)) (by omega) (Nat.le_of_ble_eq_true rfl) (by show 0 + (tx.length + 16) ≤ 500; omega) dJ5_init_a7421_44 (fun v1 H hq0 hP hD hS => ?_)
  have hP : va_P DJ jCl [(sb, .inr (0, [.null, .int 0, .int 0, .int 0])), (v1, .inl (cA .byte, (tx.length + 16), .inl fun _ => 0))] H := hP
  have hD : va_D (jF sb sb s.heap.size) [(sb, .inr (0, [.null, .int 0, .int 0, .int 0])), (v1, .inl (cA .byte, (tx.length + 16), .inl fun _ => 0))] := hD
  have hG := hS.up hF
  refine W.widen (k := 1) (n := 100) (Nat.le_of_ble_eq_true rfl) (by omega) ?_
  refine lv_goto (tgt := 53) hx hb dJ5_init_a7421_46 (by decide) ?_
  refine va_put (D := DJ) (ci := 0) (v := .ref v1) (ty := .array .byte) (C := RJ4) (T := TJ4) (N := 4) hx hb hts j4_in tyJ4 tyJ4_ok nmJ4 hown hK hP hD hS 0 rfl rfl 0 (by decide) (hts (.fieldLink RJ5 15 "java/lang/AbstractStringBuilder" "value" "[B") (jwt 1434 (by decide +kernel) rfl)) (fun x hx => hx) rfl (by decide +kernel) rfl rfl (Nat.le_of_ble_eq_true rfl) dJ5_init_a7421_53 (fun H locs hP hD hS => ?_)
  have hP : va_P DJ jCl [(sb, .inr (0, [.ref v1, .int 0, .int 0, .int 0])), (v1, .inl (cA .byte, (tx.length + 16), .inl fun _ => 0))] H := hP
  have hD : va_D (jF sb sb s.heap.size) [(sb, .inr (0, [.ref v1, .int 0, .int 0, .int 0])), (v1, .inl (cA .byte, (tx.length + 16), .inl fun _ => 0))] := hD
  have hG := hS.up hF
  refine lv_aload_n hx hb dJ5_init_a7421_56 rfl (lv_at hl 3 rfl) ?_
  refine lv_aload_n hx hb dJ5_init_a7421_57 rfl (lv_at hl 4 rfl) ?_
  have hSub := jF_sub (sz := s.heap.size) (hD.2 1 _ rfl) hS.1
  refine va_callr (va_runU (x := yJ5_append_cf1ce) (n := 1) (C := RJ4) (owner := RJ5) (As := [.ref st]) (rest := []) ⟨hx, hb, hml, hown, hts⟩ (jm_app4b (z := z) (cA := cA) (D := D) (DJ := DJ) (roArr := roArr) (ro := ro) l (sb := sb) (v := v1) (M := tx.length + 16) (sz := H.size) (n := 0) (st := st) (ml := 0) (a := fun _ => 0) (tx := tx) (by omega) (by omega) (by omega) sb_fit0 (fun q h => hF q (hSub q h)) htx) (va_cwO 1 hts (jGood (List.forall_mem_cons.mpr ⟨jwt 1335 (by decide +kernel) rfl, List.forall_mem_cons.mpr ⟨jwt 1337 (by decide +kernel) rfl, List.forall_mem_cons.mpr ⟨jwt 1336 (by decide +kernel) rfl, List.forall_mem_cons.mpr ⟨jwt 1338 (by decide +kernel) rfl, List.forall_mem_cons.mpr ⟨jwt 1339 (by decide +kernel) rfl, List.forall_mem_cons.mpr ⟨jwt 19 (by decide +kernel) rfl, List.forall_mem_cons.mpr ⟨jwt 1340 (by decide +kernel) rfl, fun w h => h⟩⟩⟩⟩⟩⟩⟩)) rfl rfl rfl (b0 := cJ5_append_cf1ce) (m0 := 3) (r0 := (some (.object "java/lang/AbstractStringBuilder"))) (h0 := jwt 1347 (by decide +kernel) rfl) (by decide +kernel) ⟨Nat.le_of_ble_eq_true rfl, Nat.le_of_ble_eq_true rfl⟩) ⟨fun a U g mk q => ⟨q.1, jPre.blind q.2.1, q.2.2⟩, va_recv (ci := 0) (q0 := 0) hK hP rfl rfl, fun U hU hW => ⟨rfl, jPre.to hU hW hE hG hK hP hD, gTx.up hU hW hT0 hG⟩⟩ rfl rfl hl.1 rfl (lv_room (Nat.le_of_ble_eq_true rfl)) dJ5_init_a7421_58 ⟨Nat.le_of_ble_eq_true rfl, Nat.le_of_ble_eq_true rfl⟩) hS (fun q _ h => hSub q h) hSub (fun u ra t H locs ht hvm hpost hB1 hz1 hk1 hS => ?_)
  obtain ⟨v2, m2, a2⟩ := u
  obtain ⟨q1, ⟨q2, q2b⟩, q3, q4, q5⟩ := hpost
  obtain ⟨hra, hP1, hD1⟩ := hB1
  rw [ht] at hP1
  rw [Nat.zero_add] at hP1 hD1
  replace hD := hD1.weaken (fun _ q _ h => hSub _ h)
  have hP := hP1
  have q6 : m2 = tx.length + 16 := q2b.trans (if_pos (by omega))
  have hP : va_P DJ jCl [(sb, .inr (0, [.ref v2, .int 0, .int 0, .int (nI tx.length)])), (v2, .inl (cA .byte, m2, .inl a2))] H := hP
  have hD : va_D (jF sb sb s.heap.size) [(sb, .inr (0, [.ref v2, .int 0, .int 0, .int (nI tx.length)])), (v2, .inl (cA .byte, m2, .inl a2))] := hD
  have hG := hS.up hF
  refine lv_pop hx hb dJ5_init_a7421_61 rfl ?_
  refine W.widen (k := 2) (n := 500) (Nat.le_of_ble_eq_true rfl) (by omega) ?_
  exact W.vret hx hb hr (fun t ht hW => ⟨⟨(v2, m2, a2), rfl, ⟨q6, q3, fun i hi => by have h9 := q5 i hi; rw [Nat.zero_add] at h9; exact h9⟩, by rw [ht]; exact hP, hD⟩, hS.F ht⟩) hS.2.2 dJ5_init_a7421_62

set_option maxHeartbeats 4000000 in
set_option maxRecDepth 100000 in
/-- StringBuilder(String) -/
theorem jm_init4 (l : Launch) {sb sz st : Nat} {tx : List Nat} (hk : tx.length ≤ 20) (htx : ∀ i, tx.getD i 0 < 128) (hF : ∀ q, jF sb sb sz q → gA z ro q) : Met l yJ4_init_a7421 (jWs yJ4_init_a7421 cJ4_init_a7421 2 none) ({ frames := 9, cells := 2, slots := 500, locals := 300 }) (va_Pc [.ref sb, .ref st] (fun U => jPre z ro cA D roArr DJ sz [(sb, .inr (0, [.null, .int 0, .int 0, .int 0]))] U ∧ gTx tx st (gA z ro) U U.heap)) (va_Qv (fun u : Nat × Nat × (Nat → Int32) => u.2.1 = tx.length + 16 ∧ sb_Fit u.2.2 ∧ (∀ i, i < tx.length → u.2.2 i = nI (tx.getD i 0))) (fun u t => va_P DJ jCl (jW (cA .byte) sb u.1 0 (nI tx.length) u.2.2 u.2.1) t.heap ∧ va_D (jF sb sb sz) (jW (cA .byte) sb u.1 0 (nI tx.length) u.2.2 u.2.1)) (jF sb sb sz)) 2 500 (jF sb sb sz) := by
  refine Met.ofW (cc := cJ4_init_a7421) (maxL := 2) (ret := none) (by decide) rfl ?_
  intro p e s m args below meth c s₁ B hml hv
  obtain ⟨rfl, ⟨⟨hE, hsz, hK, hP, hD0⟩, hT⟩⟩ := hv
  have hx := B.exec
  have hb := B.bytes
  have hr := B.returns
  have hlocks := B.notSynchronized
  have hts0 := atoms_spec (ws := jWs yJ4_init_a7421 cJ4_init_a7421 2 none) B.pre
  have hts : ∀ w ∈ jw, w.before _ s = true := fun w h => hts0 w (List.mem_cons_of_mem _ h)
  have hown : s.vm.findClass RJ4 = some m.cls := findClass_of_methodNamed B.named
  subst hsz
  have hD := jF_D1 (sz := s.heap.size) hD0
  have hA : ∀ q : Nat, s.heap.size ≤ q → jF sb sb s.heap.size q := fun q h => Or.inr (Or.inr h)
  have hS : va_S (jF sb sb s.heap.size) s.heap s.heap [] := va_S.rf
  have hG := hS.up hF
  have hSS : ∀ q, jF sb sb s.heap.size q → jF sb sb s.heap.size q := fun _ h => h
  have hT0 := hT
  obtain ⟨w, hO, hco, hva, hB⟩ := hT
  have hl := lv_entry ([.ref sb, .ref st]) (n := 2) (Nat.le_of_ble_eq_true rfl)
  rw [lg_entry_eq]
  generalize (lg_sl ([.ref sb, .ref st]) ++ List.replicate (2 - (lg_sl ([.ref sb, .ref st])).length) Slot.unset).toArray = ls at hl ⊢
  have hl : lv_has ls 2 [(0, .ref sb), (1, .ref st)] := hl
  refine lv_aload_n hx hb dJ4_init_a7421_0 rfl (lv_at hl 0 rfl) ?_
  refine lv_aload_n hx hb dJ4_init_a7421_1 rfl (lv_at hl 1 rfl) ?_
  have hSub := hSS
  refine va_callv (va_runI (n := 1) (As := [.ref st]) (rest := []) ⟨hx, hb, hml, hown, hts⟩ (jm_init5 (z := z) (ro := ro) (cA := cA) (D := D) (DJ := DJ) (roArr := roArr) l (sb := sb) (sz := s.heap.size) (st := st) (tx := tx) hk htx hF) (cwI 1 hts (jGood (List.forall_mem_cons.mpr ⟨jwt 1322 (by decide +kernel) rfl, fun w h => h⟩)) rfl rfl rfl (hts (.initialized RJ5) (jwt 18 (by decide +kernel) rfl)) (hts (.methodLink RJ4 7 yJ5_init_a7421) (jwt 1320 (by decide +kernel) rfl)) (hts (.instanceMethod yJ5_init_a7421) (jwt 1321 (by decide +kernel) rfl)) rfl (by decide +kernel) ⟨Nat.le_of_ble_eq_true rfl, Nat.le_of_ble_eq_true rfl⟩) ⟨fun a U g mk q => ⟨q.1, jPre.blind q.2.1, q.2.2⟩, fun U hU hW => ⟨rfl, jPre.to hU hW hE hG hK hP hD, gTx.up hU hW hT0 hG⟩⟩ rfl rfl hl.1 rfl (lv_room (Nat.le_of_ble_eq_true rfl)) dJ4_init_a7421_2 ⟨Nat.le_of_ble_eq_true rfl, Nat.le_of_ble_eq_true rfl⟩) hS (fun q _ h => hSub q h) hSub (fun u t H locs ht hvm hpost hB1 hz1 hk1 hS => ?_)
  obtain ⟨v2, m2, a2⟩ := u
  obtain ⟨hP1, hD1⟩ := hB1
  rw [ht] at hP1
  replace hD := hD1.weaken (fun _ q _ h => hSub _ h)
  have hP := hP1
  have hP : va_P DJ jCl [(sb, .inr (0, [.ref v2, .int 0, .int 0, .int (nI tx.length)])), (v2, .inl (cA .byte, m2, .inl a2))] H := hP
  have hD : va_D (jF sb sb s.heap.size) [(sb, .inr (0, [.ref v2, .int 0, .int 0, .int (nI tx.length)])), (v2, .inl (cA .byte, m2, .inl a2))] := hD
  have hG := hS.up hF
  refine W.widen (k := 2) (n := 500) (Nat.le_of_ble_eq_true rfl) (by omega) ?_
  exact W.vret hx hb hr (fun t ht hW => ⟨⟨(v2, m2, a2), rfl, hpost, by rw [ht]; exact hP, hD⟩, hS.F ht⟩) hS.2.2 dJ4_init_a7421_5
end
