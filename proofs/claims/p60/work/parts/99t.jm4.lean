/-! ===== the JDK: append of a String, by wip/p60/jm4.py ===== -/
theorem dJ0_getBytes_840e7_0 : decode cJ0_getBytes_840e7 0 = .ok (.aload_n 0, 1) := by decide +kernel
theorem dJ0_getBytes_840e7_1 : decode cJ0_getBytes_840e7 1 = .ok (.invokevirtual 335, 3) := by decide +kernel
theorem dJ0_getBytes_840e7_12 : decode cJ0_getBytes_840e7 12 = .ok (.iconst 0, 1) := by decide +kernel
theorem dJ0_getBytes_840e7_13 : decode cJ0_getBytes_840e7 13 = .ok (.aload_n 1, 1) := by decide +kernel
theorem dJ0_getBytes_840e7_14 : decode cJ0_getBytes_840e7 14 = .ok (.iload_n 2, 1) := by decide +kernel
theorem dJ0_getBytes_840e7_15 : decode cJ0_getBytes_840e7 15 = .ok (.iload_n 3, 1) := by decide +kernel
theorem dJ0_getBytes_840e7_16 : decode cJ0_getBytes_840e7 16 = .ok (.ishl, 1) := by decide +kernel
theorem dJ0_getBytes_840e7_17 : decode cJ0_getBytes_840e7 17 = .ok (.aload_n 0, 1) := by decide +kernel
theorem dJ0_getBytes_840e7_18 : decode cJ0_getBytes_840e7 18 = .ok (.getfield 9, 3) := by decide +kernel
theorem dJ0_getBytes_840e7_21 : decode cJ0_getBytes_840e7 21 = .ok (.arraylength, 1) := by decide +kernel
theorem dJ0_getBytes_840e7_22 : decode cJ0_getBytes_840e7 22 = .ok (.invokestatic 212, 3) := by decide +kernel
theorem dJ0_getBytes_840e7_25 : decode cJ0_getBytes_840e7 25 = .ok (.goto 18, 3) := by decide +kernel
theorem dJ0_getBytes_840e7_4 : decode cJ0_getBytes_840e7 4 = .ok (.iload_n 3, 1) := by decide +kernel
theorem dJ0_getBytes_840e7_43 : decode cJ0_getBytes_840e7 43 = .ok (.return_, 1) := by decide +kernel
theorem dJ0_getBytes_840e7_5 : decode cJ0_getBytes_840e7 5 = .ok (.if_icmp .ne 23, 3) := by decide +kernel
theorem dJ0_getBytes_840e7_8 : decode cJ0_getBytes_840e7 8 = .ok (.aload_n 0, 1) := by decide +kernel
theorem dJ0_getBytes_840e7_9 : decode cJ0_getBytes_840e7 9 = .ok (.getfield 9, 3) := by decide +kernel
theorem dJ4_append_15ec4_0 : decode cJ4_append_15ec4 0 = .ok (.aload_n 0, 1) := by decide +kernel
theorem dJ4_append_15ec4_1 : decode cJ4_append_15ec4 1 = .ok (.aload_n 1, 1) := by decide +kernel
theorem dJ4_append_15ec4_2 : decode cJ4_append_15ec4 2 = .ok (.invokespecial 29, 3) := by decide +kernel
theorem dJ4_append_15ec4_5 : decode cJ4_append_15ec4 5 = .ok (.pop, 1) := by decide +kernel
theorem dJ4_append_15ec4_6 : decode cJ4_append_15ec4 6 = .ok (.aload_n 0, 1) := by decide +kernel
theorem dJ4_append_15ec4_7 : decode cJ4_append_15ec4 7 = .ok (.areturn, 1) := by decide +kernel
theorem dJ4_append_cf1ce_0 : decode cJ4_append_cf1ce 0 = .ok (.aload_n 0, 1) := by decide +kernel
theorem dJ4_append_cf1ce_1 : decode cJ4_append_cf1ce 1 = .ok (.aload_n 1, 1) := by decide +kernel
theorem dJ4_append_cf1ce_2 : decode cJ4_append_cf1ce 2 = .ok (.invokevirtual 23, 3) := by decide +kernel
theorem dJ4_append_cf1ce_5 : decode cJ4_append_cf1ce 5 = .ok (.areturn, 1) := by decide +kernel
theorem dJ5_append_cf1ce_0 : decode cJ5_append_cf1ce 0 = .ok (.aload_n 1, 1) := by decide +kernel
theorem dJ5_append_cf1ce_1 : decode cJ5_append_cf1ce 1 = .ok (.ifnonnull 8, 3) := by decide +kernel
theorem dJ5_append_cf1ce_10 : decode cJ5_append_cf1ce 10 = .ok (.invokevirtual 32, 3) := by decide +kernel
theorem dJ5_append_cf1ce_13 : decode cJ5_append_cf1ce 13 = .ok (.istore_n 2, 1) := by decide +kernel
theorem dJ5_append_cf1ce_14 : decode cJ5_append_cf1ce 14 = .ok (.aload_n 0, 1) := by decide +kernel
theorem dJ5_append_cf1ce_15 : decode cJ5_append_cf1ce 15 = .ok (.aload_n 0, 1) := by decide +kernel
theorem dJ5_append_cf1ce_16 : decode cJ5_append_cf1ce 16 = .ok (.getfield 79, 3) := by decide +kernel
theorem dJ5_append_cf1ce_19 : decode cJ5_append_cf1ce 19 = .ok (.iload_n 2, 1) := by decide +kernel
theorem dJ5_append_cf1ce_20 : decode cJ5_append_cf1ce 20 = .ok (.iadd, 1) := by decide +kernel
theorem dJ5_append_cf1ce_21 : decode cJ5_append_cf1ce 21 = .ok (.invokevirtual 100, 3) := by decide +kernel
theorem dJ5_append_cf1ce_24 : decode cJ5_append_cf1ce 24 = .ok (.aload_n 0, 1) := by decide +kernel
theorem dJ5_append_cf1ce_25 : decode cJ5_append_cf1ce 25 = .ok (.aload_n 0, 1) := by decide +kernel
theorem dJ5_append_cf1ce_26 : decode cJ5_append_cf1ce 26 = .ok (.getfield 79, 3) := by decide +kernel
theorem dJ5_append_cf1ce_29 : decode cJ5_append_cf1ce 29 = .ok (.aload_n 1, 1) := by decide +kernel
theorem dJ5_append_cf1ce_30 : decode cJ5_append_cf1ce 30 = .ok (.invokevirtual 208, 3) := by decide +kernel
theorem dJ5_append_cf1ce_33 : decode cJ5_append_cf1ce 33 = .ok (.aload_n 0, 1) := by decide +kernel
theorem dJ5_append_cf1ce_34 : decode cJ5_append_cf1ce 34 = .ok (.dup, 1) := by decide +kernel
theorem dJ5_append_cf1ce_35 : decode cJ5_append_cf1ce 35 = .ok (.getfield 79, 3) := by decide +kernel
theorem dJ5_append_cf1ce_38 : decode cJ5_append_cf1ce 38 = .ok (.iload_n 2, 1) := by decide +kernel
theorem dJ5_append_cf1ce_39 : decode cJ5_append_cf1ce 39 = .ok (.iadd, 1) := by decide +kernel
theorem dJ5_append_cf1ce_40 : decode cJ5_append_cf1ce 40 = .ok (.putfield 79, 3) := by decide +kernel
theorem dJ5_append_cf1ce_43 : decode cJ5_append_cf1ce 43 = .ok (.aload_n 0, 1) := by decide +kernel
theorem dJ5_append_cf1ce_44 : decode cJ5_append_cf1ce 44 = .ok (.areturn, 1) := by decide +kernel
theorem dJ5_append_cf1ce_9 : decode cJ5_append_cf1ce 9 = .ok (.aload_n 1, 1) := by decide +kernel
theorem dJ5_putStringAt_47b60_0 : decode cJ5_putStringAt_47b60 0 = .ok (.aload_n 0, 1) := by decide +kernel
theorem dJ5_putStringAt_47b60_1 : decode cJ5_putStringAt_47b60 1 = .ok (.aload_n 2, 1) := by decide +kernel
theorem dJ5_putStringAt_47b60_10 : decode cJ5_putStringAt_47b60 10 = .ok (.iload_n 1, 1) := by decide +kernel
theorem dJ5_putStringAt_47b60_11 : decode cJ5_putStringAt_47b60 11 = .ok (.aload_n 0, 1) := by decide +kernel
theorem dJ5_putStringAt_47b60_12 : decode cJ5_putStringAt_47b60 12 = .ok (.getfield 22, 3) := by decide +kernel
theorem dJ5_putStringAt_47b60_15 : decode cJ5_putStringAt_47b60 15 = .ok (.invokevirtual 399, 3) := by decide +kernel
theorem dJ5_putStringAt_47b60_18 : decode cJ5_putStringAt_47b60 18 = .ok (.return_, 1) := by decide +kernel
theorem dJ5_putStringAt_47b60_2 : decode cJ5_putStringAt_47b60 2 = .ok (.invokevirtual 397, 3) := by decide +kernel
theorem dJ5_putStringAt_47b60_5 : decode cJ5_putStringAt_47b60 5 = .ok (.aload_n 2, 1) := by decide +kernel
theorem dJ5_putStringAt_47b60_6 : decode cJ5_putStringAt_47b60 6 = .ok (.aload_n 0, 1) := by decide +kernel
theorem dJ5_putStringAt_47b60_7 : decode cJ5_putStringAt_47b60 7 = .ok (.getfield 15, 3) := by decide +kernel
theorem j_fit : ∀ c, c < 128 → fits .byte (.int (nI c)) = true := by decide +kernel
theorem j_cpL {f g : Nat → Int32} {n k j : Nat} (h : j < n) : va_cpy f g 0 n k j = g j := by
  unfold va_cpy
  exact if_neg (by omega)
theorem j_cpH {f g : Nat → Int32} {n k i : Nat} (h : i < k) : va_cpy f g 0 n k (n + i) = f i := by
  unfold va_cpy
  rw [if_pos (by omega), show 0 + (n + i - n) = i by omega]
section
variable {z : Nat} {ro : Nat → Nat} {cA : FieldType → ClassId} {D DJ : va_G} {roArr : Nat → Option (Nat × (Nat → Int32))}
set_option maxHeartbeats 4000000 in
set_option maxRecDepth 100000 in
/-- a String goes into the bytes -/
theorem jm_getBytes (l : Launch) {sb v M sz st : Nat} {ml n : Int32} {a : Nat → Int32} {tx : List Nat} {p0 : Nat} (h : p0 + tx.length ≤ M) (hm : M ≤ 250) (htx : ∀ i, tx.getD i 0 < 128) (hF : ∀ q, jF sb v sz q → gA z ro q) : Met l yJ0_getBytes_840e7 (jWs yJ0_getBytes_840e7 cJ0_getBytes_840e7 4 none) ({ frames := 2, cells := 0, slots := 0, locals := 60 }) (va_Pc [.ref st, .ref v, .int (nI p0), .int 0] (fun U => jPre z ro cA D roArr DJ sz (jW (cA .byte) sb v ml n a M) U ∧ gTx tx st (gA z ro) U U.heap)) (va_Qv (fun _ : Unit => True) (fun _ t => va_P DJ jCl (jW (cA .byte) sb v ml n (va_cpy (fun j => nI (tx.getD j 0)) a 0 p0 tx.length) M) t.heap ∧ va_D (jF sb v sz) (jW (cA .byte) sb v ml n (va_cpy (fun j => nI (tx.getD j 0)) a 0 p0 tx.length) M)) (jF sb v sz)) 0 0 (jF sb v sz) := by
  refine Met.ofW (cc := cJ0_getBytes_840e7) (maxL := 4) (ret := none) (by decide) rfl ?_
  intro p e s m args below meth c s₁ B hml hv
  obtain ⟨rfl, ⟨⟨hE, hsz, hK, hP, hD0⟩, hT⟩⟩ := hv
  have hx := B.exec
  have hb := B.bytes
  have hr := B.returns
  have hlocks := B.notSynchronized
  have hts0 := atoms_spec (ws := jWs yJ0_getBytes_840e7 cJ0_getBytes_840e7 4 none) B.pre
  have hts : ∀ w ∈ jw, w.before _ s = true := fun w h => hts0 w (List.mem_cons_of_mem _ h)
  have hown : s.vm.findClass RJ0 = some m.cls := findClass_of_methodNamed B.named
  subst hsz
  have hD := jF_D (sz := s.heap.size) hD0
  have hA : ∀ q : Nat, s.heap.size ≤ q → jF sb v s.heap.size q := fun q h => Or.inr (Or.inr h)
  have hS : va_S (jF sb v s.heap.size) s.heap s.heap [] := va_S.rf
  have hG := hS.up hF
  have hT0 := hT
  obtain ⟨w, hO, hco, hva, hB⟩ := hT
  have htl : tx.length < 2 ^ 31 := by omega
  have hl := lv_entry ([.ref st, .ref v, .int (nI p0), .int 0]) (n := 4) (Nat.le_of_ble_eq_true rfl)
  rw [lg_entry_eq]
  generalize (lg_sl ([.ref st, .ref v, .int (nI p0), .int 0]) ++ List.replicate (4 - (lg_sl ([.ref st, .ref v, .int (nI p0), .int 0])).length) Slot.unset).toArray = ls at hl ⊢
  have hl : lv_has ls 4 [(0, .ref st), (1, .ref v), (2, .int (nI p0)), (3, .int 0)] := hl
  refine lv_aload_n hx hb dJ0_getBytes_840e7_0 rfl (lv_at hl 0 rfl) ?_
  refine g_calln (va_runV (n := 0) (C := RJ0) (As := []) (rest := []) ⟨hx, hb, hml, hown, hts⟩ (gm_coder (z := z) (ro := ro) (cA := cA) (D := D) (roArr := roArr) l st tx) (cwV 0 hts (jGood (List.forall_mem_cons.mpr ⟨jwt 353 (by decide +kernel) rfl, List.forall_mem_cons.mpr ⟨jwt 354 (by decide +kernel) rfl, List.forall_mem_cons.mpr ⟨jwt 355 (by decide +kernel) rfl, List.forall_mem_cons.mpr ⟨jwt 12 (by decide +kernel) rfl, List.forall_mem_cons.mpr ⟨jwt 356 (by decide +kernel) rfl, jgw⟩⟩⟩⟩⟩)) rfl rfl rfl (by decide +kernel) ⟨Nat.le_of_ble_eq_true rfl, Nat.le_of_ble_eq_true rfl⟩) ⟨fun a U g mk q => ⟨q.1, gEnv.blind q.2.1, q.2.2⟩, va_Orecv hO hG, fun U hU hW => ⟨rfl, hE.to hW (fun q h1 h2 => (congrArg (fun h : Heap => h[q]?) hU).trans (hG.2.1 q h1 h2)), gTx.up hU hW hT0 hG⟩⟩ rfl rfl hl.1 rfl (lv_room (Nat.le_of_ble_eq_true rfl)) dJ0_getBytes_840e7_1 ⟨Nat.zero_le _, Nat.zero_le _⟩) (fun x hx0 => ?_)
  subst hx0
  refine lv_iload_n hx hb dJ0_getBytes_840e7_4 rfl (lv_at hl 3 rfl) ?_
  refine lv_icmp_ne (tgt := 28) hx hb dJ0_getBytes_840e7_5 (by decide) (fun h0 => absurd rfl h0) (fun _ => ?_)
  refine lv_aload_n hx hb dJ0_getBytes_840e7_8 rfl (lv_at hl 0 rfl) ?_
  refine vk_getf hx hb hva hG hown (hts (.fieldLink RJ0 9 "java/lang/String" "value" "[B") (jwt 1544 (by decide +kernel) rfl)) (fun x hx => hx) dJ0_getBytes_840e7_9 ?_
  refine lv_iconst (v := 0) hx hb dJ0_getBytes_840e7_12 (by decide) ?_
  refine lv_aload_n hx hb dJ0_getBytes_840e7_13 rfl (lv_at hl 1 rfl) ?_
  refine lv_iload_n hx hb dJ0_getBytes_840e7_14 rfl (lv_at hl 2 rfl) ?_
  refine lv_iload_n hx hb dJ0_getBytes_840e7_15 rfl (lv_at hl 3 rfl) ?_
  refine lv_ishl hx hb dJ0_getBytes_840e7_16 ?_
  refine W.eq (g2 := F0 m 17 ls [.int (nI p0), .ref v, .int 0, .ref w]) (by rw [show (((nI p0) <<< ((0 : Int32) &&& 31) : Int32)) = nI p0 from sb_shl0 _]) ?_
  refine lv_aload_n hx hb dJ0_getBytes_840e7_17 rfl (lv_at hl 0 rfl) ?_
  refine vk_getf hx hb hva hG hown (hts (.fieldLink RJ0 9 "java/lang/String" "value" "[B") (jwt 1544 (by decide +kernel) rfl)) (fun x hx => hx) dJ0_getBytes_840e7_18 ?_
  refine va_tlen hx hb hB hG (v := nI tx.length) rfl dJ0_getBytes_840e7_21 ?_
  refine j_copyT (f := fun j => nI (tx.getD j 0)) hx hb (hml.trans hl.1.symm) hown (hts (.methodLink RJ0 212 arraycopyName) (jwt 1432 (by decide +kernel) rfl)) (hts (.native arraycopyName) (jwt 696 (by decide +kernel) rfl)) (hts (.static arraycopyName) (jwt 695 (by decide +kernel) rfl)) (hts (.initialized "java/lang/System") (jwt 17 (by decide +kernel) rfl)) hK hP hD hS hG hB htl 1 rfl (nI_pos (by omega)) (by rw [nI_clamp (by omega)]; omega) (fun i _ => j_fit _ (htx i)) (Nat.le_of_ble_eq_true rfl) (Nat.le_of_ble_eq_true rfl) dJ0_getBytes_840e7_22 (fun H locs hP hD hS => ?_)
  rw [nI_clamp (by omega)] at hP hD
  have hP : va_P DJ jCl [(sb, .inr (0, [.ref v, .int 0, .int ml, .int n])), (v, .inl (cA .byte, M, .inl (va_cpy (fun j => nI (tx.getD j 0)) a 0 p0 tx.length)))] H := hP
  have hD : va_D (jF sb v s.heap.size) [(sb, .inr (0, [.ref v, .int 0, .int ml, .int n])), (v, .inl (cA .byte, M, .inl (va_cpy (fun j => nI (tx.getD j 0)) a 0 p0 tx.length)))] := hD
  have hG := hS.up hF
  refine lv_goto (tgt := 43) hx hb dJ0_getBytes_840e7_25 (by decide) ?_
  refine W.widen (k := 0) (n := 0) (Nat.le_of_ble_eq_true rfl) (by omega) ?_
  exact W.vret hx hb hr (fun t ht hW => ⟨⟨(), rfl, trivial, by rw [ht]; exact hP, hD⟩, hS.F ht⟩) hS.2.2 dJ0_getBytes_840e7_43

set_option maxHeartbeats 4000000 in
set_option maxRecDepth 100000 in
/-- putStringAt -/
theorem jm_putStr (l : Launch) {sb v M sz n st : Nat} {ml : Int32} {a : Nat → Int32} {tx : List Nat} (h : n + tx.length ≤ M) (hm : M ≤ 250) (htx : ∀ i, tx.getD i 0 < 128) (hF : ∀ q, jF sb v sz q → gA z ro q) : Met l yJ5_putStringAt_47b60 (jWs yJ5_putStringAt_47b60 cJ5_putStringAt_47b60 3 none) ({ frames := 3, cells := 0, slots := 0, locals := 100 }) (va_Pc [.ref sb, .int (nI n), .ref st] (fun U => jPre z ro cA D roArr DJ sz (jW (cA .byte) sb v ml (nI n) a M) U ∧ gTx tx st (gA z ro) U U.heap)) (va_Qv (fun _ : Unit => True) (fun _ t => va_P DJ jCl (jW (cA .byte) sb v ml (nI n) (va_cpy (fun j => nI (tx.getD j 0)) a 0 n tx.length) M) t.heap ∧ va_D (jF sb v sz) (jW (cA .byte) sb v ml (nI n) (va_cpy (fun j => nI (tx.getD j 0)) a 0 n tx.length) M)) (jF sb v sz)) 0 0 (jF sb v sz) := by
  refine Met.ofW (cc := cJ5_putStringAt_47b60) (maxL := 3) (ret := none) (by decide) rfl ?_
  intro p e s m args below meth c s₁ B hml hv
  obtain ⟨rfl, ⟨⟨hE, hsz, hK, hP, hD0⟩, hT⟩⟩ := hv
  have hx := B.exec
  have hb := B.bytes
  have hr := B.returns
  have hlocks := B.notSynchronized
  have hts0 := atoms_spec (ws := jWs yJ5_putStringAt_47b60 cJ5_putStringAt_47b60 3 none) B.pre
  have hts : ∀ w ∈ jw, w.before _ s = true := fun w h => hts0 w (List.mem_cons_of_mem _ h)
  have hown : s.vm.findClass RJ5 = some m.cls := findClass_of_methodNamed B.named
  subst hsz
  have hD := jF_D (sz := s.heap.size) hD0
  have hA : ∀ q : Nat, s.heap.size ≤ q → jF sb v s.heap.size q := fun q h => Or.inr (Or.inr h)
  have hS : va_S (jF sb v s.heap.size) s.heap s.heap [] := va_S.rf
  have hG := hS.up hF
  have hT0 := hT
  obtain ⟨w, hO, hco, hva, hB⟩ := hT
  have hl := lv_entry ([.ref sb, .int (nI n), .ref st]) (n := 3) (Nat.le_of_ble_eq_true rfl)
  rw [lg_entry_eq]
  generalize (lg_sl ([.ref sb, .int (nI n), .ref st]) ++ List.replicate (3 - (lg_sl ([.ref sb, .int (nI n), .ref st])).length) Slot.unset).toArray = ls at hl ⊢
  have hl : lv_has ls 3 [(0, .ref sb), (1, .int (nI n)), (2, .ref st)] := hl
  refine lv_aload_n hx hb dJ5_putStringAt_47b60_0 rfl (lv_at hl 0 rfl) ?_
  refine lv_aload_n hx hb dJ5_putStringAt_47b60_1 rfl (lv_at hl 2 rfl) ?_
  refine g_call0 (va_runU (x := yJ5_inflateIfNeededFor_a7421) (n := 1) (C := RJ4) (owner := RJ5) (As := [.ref st]) (rest := []) ⟨hx, hb, hml, hown, hts⟩ (jm_inflate (z := z) (ro := ro) (cA := cA) (D := D) (DJ := DJ) (roArr := roArr) l (sb := sb) (v := v) (M := M) (sz := s.heap.size) (ml := ml) (n := (nI n)) (a := a) (st := st) (tx := tx)) (va_cwU 1 hts (jGood (List.forall_mem_cons.mpr ⟨jwt 1405 (by decide +kernel) rfl, List.forall_mem_cons.mpr ⟨jwt 1565 (by decide +kernel) rfl, List.forall_mem_cons.mpr ⟨jwj 3 (by decide +kernel), List.forall_mem_cons.mpr ⟨jwt 1407 (by decide +kernel) rfl, List.forall_mem_cons.mpr ⟨jwt 18 (by decide +kernel) rfl, List.forall_mem_cons.mpr ⟨jwt 1408 (by decide +kernel) rfl, fun w h => h⟩⟩⟩⟩⟩⟩)) rfl rfl rfl rfl (by decide +kernel) ⟨Nat.le_of_ble_eq_true rfl, Nat.le_of_ble_eq_true rfl⟩) ⟨fun a U g mk q => ⟨q.1, jPre.blind q.2.1, q.2.2⟩, va_recv (ci := 0) (q0 := 0) hK hP rfl rfl, fun U hU hW => ⟨rfl, jPre.to hU hW hE hG hK hP hD, gTx.up hU hW hT0 hG⟩⟩ rfl rfl hl.1 rfl (lv_room (Nat.le_of_ble_eq_true rfl)) dJ5_putStringAt_47b60_2 ⟨Nat.le_of_ble_eq_true rfl, Nat.le_of_ble_eq_true rfl⟩) ?_
  refine lv_aload_n hx hb dJ5_putStringAt_47b60_5 rfl (lv_at hl 2 rfl) ?_
  refine lv_aload_n hx hb dJ5_putStringAt_47b60_6 rfl (lv_at hl 0 rfl) ?_
  refine va_get (D := DJ) (ci := 0) (v := .ref v) (C := RJ4) (T := TJ4) (N := 4) hx hb hts j4_in hown hK hP 0 rfl rfl 0 (by decide) (hts (.fieldLink RJ5 15 "java/lang/AbstractStringBuilder" "value" "[B") (jwt 1434 (by decide +kernel) rfl)) (fun x hx => hx) rfl dJ5_putStringAt_47b60_7 ?_
  refine lv_iload_n hx hb dJ5_putStringAt_47b60_10 rfl (lv_at hl 1 rfl) ?_
  refine lv_aload_n hx hb dJ5_putStringAt_47b60_11 rfl (lv_at hl 0 rfl) ?_
  refine va_get (D := DJ) (ci := 0) (v := .int 0) (C := RJ4) (T := TJ4) (N := 4) hx hb hts j4_in hown hK hP 0 rfl rfl 1 (by decide) (hts (.fieldLink RJ5 22 "java/lang/AbstractStringBuilder" "coder" "B") (jwt 1435 (by decide +kernel) rfl)) (fun x hx => hx) rfl dJ5_putStringAt_47b60_12 ?_
  have hSub := jF_sub (sz := s.heap.size) (hD.2 1 _ rfl) hS.1
  refine va_callv (va_runV (n := 3) (C := RJ0) (As := [.ref v, .int (nI n), .int 0]) (rest := []) ⟨hx, hb, hml, hown, hts⟩ (jm_getBytes (z := z) (ro := ro) (cA := cA) (D := D) (DJ := DJ) (roArr := roArr) l (sb := sb) (v := v) (M := M) (sz := s.heap.size) (ml := ml) (n := (nI n)) (a := a) (st := st) (tx := tx) (p0 := n) h hm htx (fun q h => hF q (hSub q h))) (cwV 3 hts (jGood (List.forall_mem_cons.mpr ⟨jwt 1428 (by decide +kernel) rfl, List.forall_mem_cons.mpr ⟨jwt 1429 (by decide +kernel) rfl, List.forall_mem_cons.mpr ⟨jwt 1430 (by decide +kernel) rfl, List.forall_mem_cons.mpr ⟨jwt 12 (by decide +kernel) rfl, List.forall_mem_cons.mpr ⟨jwt 1431 (by decide +kernel) rfl, fun w h => h⟩⟩⟩⟩⟩)) rfl rfl rfl (by decide +kernel) ⟨Nat.le_of_ble_eq_true rfl, Nat.le_of_ble_eq_true rfl⟩) ⟨fun a U g mk q => ⟨q.1, jPre.blind q.2.1, q.2.2⟩, va_Orecv hO hG, fun U hU hW => ⟨rfl, jPre.to hU hW hE hG hK hP hD, gTx.up hU hW hT0 hG⟩⟩ rfl rfl hl.1 rfl (lv_room (Nat.le_of_ble_eq_true rfl)) dJ5_putStringAt_47b60_15 ⟨Nat.le_of_ble_eq_true rfl, Nat.le_of_ble_eq_true rfl⟩) hS (fun q _ h => hSub q h) hSub (fun u t H locs ht hvm hpost hB1 hz1 hk1 hS => ?_)
  obtain ⟨hP1, hD1⟩ := hB1
  rw [ht] at hP1
  replace hD := hD1.weaken (fun _ q _ h => hSub _ h)
  have hP := hP1
  have hP : va_P DJ jCl [(sb, .inr (0, [.ref v, .int 0, .int ml, .int (nI n)])), (v, .inl (cA .byte, M, .inl (va_cpy (fun j => nI (tx.getD j 0)) a 0 n tx.length)))] H := hP
  have hD : va_D (jF sb v s.heap.size) [(sb, .inr (0, [.ref v, .int 0, .int ml, .int (nI n)])), (v, .inl (cA .byte, M, .inl (va_cpy (fun j => nI (tx.getD j 0)) a 0 n tx.length)))] := hD
  have hG := hS.up hF
  refine W.widen (k := 0) (n := 0) (Nat.le_of_ble_eq_true rfl) (by omega) ?_
  exact W.vret hx hb hr (fun t ht hW => ⟨⟨(), rfl, trivial, by rw [ht]; exact hP, hD⟩, hS.F ht⟩) hS.2.2 dJ5_putStringAt_47b60_18

set_option maxHeartbeats 4000000 in
set_option maxRecDepth 100000 in
/-- AbstractStringBuilder.append(String) -/
theorem jm_app5s (l : Launch) {sb v M sz n st : Nat} {ml : Int32} {a : Nat → Int32} {tx : List Nat} (hn : n + tx.length ≤ 120) (hnm : n ≤ M) (hm : M ≤ 250) (hfit : sb_Fit a) (hF : ∀ q, jF sb v sz q → gA z ro q) (htx : ∀ i, tx.getD i 0 < 128)  : Met l yJ5_append_cf1ce (jWs yJ5_append_cf1ce cJ5_append_cf1ce 3 (some (.object "java/lang/AbstractStringBuilder"))) ({ frames := 5, cells := 1, slots := 250, locals := 140 }) (va_Pc [.ref sb, .ref st] (fun U => jPre z ro cA D roArr DJ sz (jW (cA .byte) sb v ml (nI n) a M) U ∧ gTx tx st (gA z ro) U U.heap)) (va_Qr (fun u : Nat × Nat × (Nat → Int32) => u.2.1 ≤ 250 ∧ (n + tx.length ≤ u.2.1 ∧ u.2.1 = sb_cap (n + tx.length) M) ∧ sb_Fit u.2.2 ∧ (∀ j, j < n → u.2.2 j = a j) ∧ ∀ i, i < tx.length → u.2.2 (n + i) = nI (tx.getD i 0)) (fun u r t => r = sb ∧ va_P DJ jCl (jW (cA .byte) sb u.1 ml (nI (n + tx.length)) u.2.2 u.2.1) t.heap ∧ va_D (jF sb v sz) (jW (cA .byte) sb u.1 ml (nI (n + tx.length)) u.2.2 u.2.1)) (jF sb v sz)) 1 250 (jF sb v sz) := by
  refine Met.ofW (cc := cJ5_append_cf1ce) (maxL := 3) (ret := (some (.object "java/lang/AbstractStringBuilder"))) (by decide) rfl ?_
  intro p e s m args below meth c s₁ B hml hv
  obtain ⟨rfl, ⟨⟨hE, hsz, hK, hP, hD0⟩, hT⟩⟩ := hv
  have hx := B.exec
  have hb := B.bytes
  have hr := B.returns
  have hlocks := B.notSynchronized
  have hts0 := atoms_spec (ws := jWs yJ5_append_cf1ce cJ5_append_cf1ce 3 (some (.object "java/lang/AbstractStringBuilder"))) B.pre
  have hts : ∀ w ∈ jw, w.before _ s = true := fun w h => hts0 w (List.mem_cons_of_mem _ h)
  have hown : s.vm.findClass RJ5 = some m.cls := findClass_of_methodNamed B.named
  subst hsz
  have hD := jF_D (sz := s.heap.size) hD0
  have hA : ∀ q : Nat, s.heap.size ≤ q → jF sb v s.heap.size q := fun q h => Or.inr (Or.inr h)
  have hS : va_S (jF sb v s.heap.size) s.heap s.heap [] := va_S.rf
  have hG := hS.up hF
  have hT0 := hT
  obtain ⟨w, hO, hco, hva, hB⟩ := hT
  have htl : tx.length < 2 ^ 31 := by omega
  have hl := lv_entry ([.ref sb, .ref st]) (n := 3) (Nat.le_of_ble_eq_true rfl)
  rw [lg_entry_eq]
  generalize (lg_sl ([.ref sb, .ref st]) ++ List.replicate (3 - (lg_sl ([.ref sb, .ref st])).length) Slot.unset).toArray = ls at hl ⊢
  have hl : lv_has ls 3 [(0, .ref sb), (1, .ref st)] := hl
  refine lv_aload_n hx hb dJ5_append_cf1ce_0 rfl (lv_at hl 1 rfl) ?_
  refine lv_ifnonnull (tgt := 9) hx hb dJ5_append_cf1ce_1 (by decide) ?_
  refine lv_aload_n hx hb dJ5_append_cf1ce_9 rfl (lv_at hl 1 rfl) ?_
  refine g_calln (va_runV (n := 0) (C := RJ0) (As := []) (rest := []) ⟨hx, hb, hml, hown, hts⟩ (gm_length (z := z) (ro := ro) (cA := cA) (D := D) (roArr := roArr) l st tx htl) (cwV 0 hts (jGood (List.forall_mem_cons.mpr ⟨jwt 1324 (by decide +kernel) rfl, List.forall_mem_cons.mpr ⟨jwt 350 (by decide +kernel) rfl, List.forall_mem_cons.mpr ⟨jwt 351 (by decide +kernel) rfl, List.forall_mem_cons.mpr ⟨jwt 12 (by decide +kernel) rfl, List.forall_mem_cons.mpr ⟨jwt 352 (by decide +kernel) rfl, jgw⟩⟩⟩⟩⟩)) rfl rfl rfl (by decide +kernel) ⟨Nat.le_of_ble_eq_true rfl, Nat.le_of_ble_eq_true rfl⟩) ⟨fun a U g mk q => ⟨q.1, gEnv.blind q.2.1, q.2.2⟩, va_Orecv hO hG, fun U hU hW => ⟨rfl, hE.to hW (fun q h1 h2 => (congrArg (fun h : Heap => h[q]?) hU).trans (hG.2.1 q h1 h2)), gTx.up hU hW hT0 hG⟩⟩ rfl rfl hl.1 rfl (lv_room (Nat.le_of_ble_eq_true rfl)) dJ5_append_cf1ce_10 ⟨Nat.zero_le _, Nat.zero_le _⟩) (fun x hx0 => ?_)
  subst hx0
  refine lv_istore_n (nL := 3) hx hb dJ5_append_cf1ce_13 rfl hl (by decide) rfl (fun ls hl => ?_)
  have hl : lv_has ls 3 [(2, .int (nI tx.length)), (0, .ref sb), (1, .ref st)] := hl
  refine lv_aload_n hx hb dJ5_append_cf1ce_14 rfl (lv_at hl 1 rfl) ?_
  refine lv_aload_n hx hb dJ5_append_cf1ce_15 rfl (lv_at hl 1 rfl) ?_
  refine va_get (D := DJ) (ci := 0) (v := .int (nI n)) (C := RJ4) (T := TJ4) (N := 4) hx hb hts j4_in hown hK hP 0 rfl rfl 3 (by decide) (hts (.fieldLink RJ5 79 "java/lang/AbstractStringBuilder" "count" "I") (jwt 1437 (by decide +kernel) rfl)) (fun x hx => hx) rfl dJ5_append_cf1ce_16 ?_
  refine lv_iload_n hx hb dJ5_append_cf1ce_19 rfl (lv_at hl 0 rfl) ?_
  refine lv_iadd hx hb dJ5_append_cf1ce_20 ?_
  refine W.eq (g2 := F0 m 21 ls [.int (nI (n + tx.length)), .ref sb]) (by rw [show (((nI n) + (nI tx.length) : Int32)) = nI (n + tx.length) from nI_add n tx.length]) ?_
  have hSub := jF_sub (sz := s.heap.size) (hD.2 1 _ rfl) hS.1
  refine va_callv (va_runU (x := yJ5_ensureCapacityInternal_d00df) (n := 1) (C := RJ4) (owner := RJ5) (As := [.int (nI (n + tx.length))]) (rest := []) ⟨hx, hb, hml, hown, hts⟩ (jm_ensure (z := z) (ro := ro) (cA := cA) (D := D) (DJ := DJ) (roArr := roArr) l (sb := sb) (v := v) (M := M) (sz := s.heap.size) (ml := ml) (n := (nI n)) (a := a) (q := n + tx.length) hn hm hfit (fun q h => hF q (hSub q h))) (va_cwU 1 hts (jGood (List.forall_mem_cons.mpr ⟨jwt 1352 (by decide +kernel) rfl, List.forall_mem_cons.mpr ⟨jwt 1562 (by decide +kernel) rfl, List.forall_mem_cons.mpr ⟨jwj 0 (by decide +kernel), List.forall_mem_cons.mpr ⟨jwt 1354 (by decide +kernel) rfl, List.forall_mem_cons.mpr ⟨jwt 18 (by decide +kernel) rfl, List.forall_mem_cons.mpr ⟨jwt 1355 (by decide +kernel) rfl, fun w h => h⟩⟩⟩⟩⟩⟩)) rfl rfl rfl rfl (by decide +kernel) ⟨Nat.le_of_ble_eq_true rfl, Nat.le_of_ble_eq_true rfl⟩) ⟨fun a U g mk q => ⟨q.1, jPre.blind q.2⟩, va_recv (ci := 0) (q0 := 0) hK hP rfl rfl, fun U hU hW => ⟨rfl, jPre.to hU hW hE hG hK hP hD⟩⟩ rfl rfl hl.1 rfl (lv_room (Nat.le_of_ble_eq_true rfl)) dJ5_append_cf1ce_21 ⟨Nat.le_of_ble_eq_true rfl, Nat.le_of_ble_eq_true rfl⟩) hS (fun q _ h => hSub q h) hSub (fun u t H locs ht hvm hpost hB1 hz1 hk1 hS => ?_)
  obtain ⟨v1, m1, a1⟩ := u
  obtain ⟨q1, ⟨q2, q2b⟩, q3, q4, q5⟩ := hpost
  change m1 ≤ 250 at q1
  change _ ≤ m1 at q2
  obtain ⟨hP1, hD1⟩ := hB1
  rw [ht] at hP1
  replace hD := hD1.weaken (fun _ q _ h => hSub _ h)
  have hP := hP1
  have hP : va_P DJ jCl [(sb, .inr (0, [.ref v1, .int 0, .int ml, .int (nI n)])), (v1, .inl (cA .byte, m1, .inl a1))] H := hP
  have hD : va_D (jF sb v s.heap.size) [(sb, .inr (0, [.ref v1, .int 0, .int ml, .int (nI n)])), (v1, .inl (cA .byte, m1, .inl a1))] := hD
  have hG := hS.up hF
  refine lv_aload_n hx hb dJ5_append_cf1ce_24 rfl (lv_at hl 1 rfl) ?_
  refine lv_aload_n hx hb dJ5_append_cf1ce_25 rfl (lv_at hl 1 rfl) ?_
  refine va_get (D := DJ) (ci := 0) (v := .int (nI n)) (C := RJ4) (T := TJ4) (N := 4) hx hb hts j4_in hown hK hP 0 rfl rfl 3 (by decide) (hts (.fieldLink RJ5 79 "java/lang/AbstractStringBuilder" "count" "I") (jwt 1437 (by decide +kernel) rfl)) (fun x hx => hx) rfl dJ5_append_cf1ce_26 ?_
  refine lv_aload_n hx hb dJ5_append_cf1ce_29 rfl (lv_at hl 2 rfl) ?_
  have hSub := jF_sub (sz := s.heap.size) (hD.2 1 _ rfl) hS.1
  refine va_callv (va_runU (x := yJ5_putStringAt_47b60) (n := 2) (C := RJ4) (owner := RJ5) (As := [.int (nI n), .ref st]) (rest := []) ⟨hx, hb, hml, hown, hts⟩ (jm_putStr (z := z) (ro := ro) (cA := cA) (D := D) (DJ := DJ) (roArr := roArr) l (sb := sb) (v := v1) (M := m1) (sz := H.size) (ml := ml) (n := n) (a := a1) (st := st) (tx := tx) q2 q1 htx (fun q h => hF q (hSub q h))) (va_cwU 2 hts (jGood (List.forall_mem_cons.mpr ⟨jwt 1401 (by decide +kernel) rfl, List.forall_mem_cons.mpr ⟨jwt 1564 (by decide +kernel) rfl, List.forall_mem_cons.mpr ⟨jwj 2 (by decide +kernel), List.forall_mem_cons.mpr ⟨jwt 1403 (by decide +kernel) rfl, List.forall_mem_cons.mpr ⟨jwt 18 (by decide +kernel) rfl, List.forall_mem_cons.mpr ⟨jwt 1404 (by decide +kernel) rfl, fun w h => h⟩⟩⟩⟩⟩⟩)) rfl rfl rfl rfl (by decide +kernel) ⟨Nat.le_of_ble_eq_true rfl, Nat.le_of_ble_eq_true rfl⟩) ⟨fun a U g mk q => ⟨q.1, jPre.blind q.2.1, q.2.2⟩, va_recv (ci := 0) (q0 := 0) hK hP rfl rfl, fun U hU hW => ⟨rfl, jPre.to hU hW hE hG hK hP hD, gTx.up hU hW hT0 hG⟩⟩ rfl rfl hl.1 rfl (lv_room (Nat.le_of_ble_eq_true rfl)) dJ5_append_cf1ce_30 ⟨Nat.le_of_ble_eq_true rfl, Nat.le_of_ble_eq_true rfl⟩) hS (fun q _ h => hSub q h) hSub (fun u t H locs ht hvm hpost hB1 hz1 hk1 hS => ?_)
  obtain ⟨hP1, hD1⟩ := hB1
  rw [ht] at hP1
  replace hD := hD1.weaken (fun _ q _ h => hSub _ h)
  have hP := hP1
  have hP : va_P DJ jCl [(sb, .inr (0, [.ref v1, .int 0, .int ml, .int (nI n)])), (v1, .inl (cA .byte, m1, .inl (va_cpy (fun j => nI (tx.getD j 0)) a1 0 n tx.length)))] H := hP
  have hD : va_D (jF sb v s.heap.size) [(sb, .inr (0, [.ref v1, .int 0, .int ml, .int (nI n)])), (v1, .inl (cA .byte, m1, .inl (va_cpy (fun j => nI (tx.getD j 0)) a1 0 n tx.length)))] := hD
  have hG := hS.up hF
  refine lv_aload_n hx hb dJ5_append_cf1ce_33 rfl (lv_at hl 1 rfl) ?_
  refine lv_dup hx hb dJ5_append_cf1ce_34 rfl ?_
  refine va_get (D := DJ) (ci := 0) (v := .int (nI n)) (C := RJ4) (T := TJ4) (N := 4) hx hb hts j4_in hown hK hP 0 rfl rfl 3 (by decide) (hts (.fieldLink RJ5 79 "java/lang/AbstractStringBuilder" "count" "I") (jwt 1437 (by decide +kernel) rfl)) (fun x hx => hx) rfl dJ5_append_cf1ce_35 ?_
  refine lv_iload_n hx hb dJ5_append_cf1ce_38 rfl (lv_at hl 0 rfl) ?_
  refine lv_iadd hx hb dJ5_append_cf1ce_39 ?_
  refine W.eq (g2 := F0 m 40 ls [.int (nI (n + tx.length)), .ref sb]) (by rw [show (((nI n) + (nI tx.length) : Int32)) = nI (n + tx.length) from nI_add n tx.length]) ?_
  refine va_put (D := DJ) (ci := 0) (v := .int (nI (n + tx.length))) (ty := .int) (C := RJ4) (T := TJ4) (N := 4) hx hb hts j4_in tyJ4 tyJ4_ok nmJ4 hown hK hP hD hS 0 rfl rfl 3 (by decide) (hts (.fieldLink RJ5 79 "java/lang/AbstractStringBuilder" "count" "I") (jwt 1437 (by decide +kernel) rfl)) (fun x hx => hx) rfl (by decide +kernel) rfl rfl (Nat.le_of_ble_eq_true rfl) dJ5_append_cf1ce_40 (fun H locs hP hD hS => ?_)
  have hP : va_P DJ jCl [(sb, .inr (0, [.ref v1, .int 0, .int ml, .int (nI (n + tx.length))])), (v1, .inl (cA .byte, m1, .inl (va_cpy (fun j => nI (tx.getD j 0)) a1 0 n tx.length)))] H := hP
  have hD : va_D (jF sb v s.heap.size) [(sb, .inr (0, [.ref v1, .int 0, .int ml, .int (nI (n + tx.length))])), (v1, .inl (cA .byte, m1, .inl (va_cpy (fun j => nI (tx.getD j 0)) a1 0 n tx.length)))] := hD
  have hG := hS.up hF
  refine lv_aload_n hx hb dJ5_append_cf1ce_43 rfl (lv_at hl 1 rfl) ?_
  refine W.widen (k := 1) (n := 250) (Nat.le_of_ble_eq_true rfl) (by omega) ?_
  exact W.aret hx hb hr (Or.inl ⟨_, rfl⟩) (Or.inr ⟨_, rfl⟩) (fun t ht hW => ⟨⟨(v1, m1, va_cpy (fun j => nI (tx.getD j 0)) a1 0 n tx.length), sb, rfl, ⟨q1, ⟨q2, q2b⟩, sb_fitC (fun j => j_fit _ (htx j)) q5, fun j hj => (show va_cpy (fun j => nI (tx.getD j 0)) a1 0 n tx.length j = a j from (j_cpL hj).trans (q4 j (by omega))), fun i hi => (show va_cpy (fun j => nI (tx.getD j 0)) a1 0 n tx.length (n + i) = nI (tx.getD i 0) from j_cpH (f := fun j => nI (tx.getD j 0)) hi)⟩, rfl, by rw [ht]; exact hP, hD⟩, hS.F ht⟩) hS.2.2 dJ5_append_cf1ce_44

set_option maxHeartbeats 4000000 in
set_option maxRecDepth 100000 in
/-- StringBuilder.append(String) -/
theorem jm_app4s (l : Launch) {sb v M sz n st : Nat} {ml : Int32} {a : Nat → Int32} {tx : List Nat} (hn : n + tx.length ≤ 120) (hnm : n ≤ M) (hm : M ≤ 250) (hfit : sb_Fit a) (hF : ∀ q, jF sb v sz q → gA z ro q) (htx : ∀ i, tx.getD i 0 < 128)  : Met l yJ4_append_15ec4 (jWs yJ4_append_15ec4 cJ4_append_15ec4 2 (some (.object "java/lang/StringBuilder"))) ({ frames := 6, cells := 1, slots := 250, locals := 180 }) (va_Pc [.ref sb, .ref st] (fun U => jPre z ro cA D roArr DJ sz (jW (cA .byte) sb v ml (nI n) a M) U ∧ gTx tx st (gA z ro) U U.heap)) (va_Qr (fun u : Nat × Nat × (Nat → Int32) => u.2.1 ≤ 250 ∧ (n + tx.length ≤ u.2.1 ∧ u.2.1 = sb_cap (n + tx.length) M) ∧ sb_Fit u.2.2 ∧ (∀ j, j < n → u.2.2 j = a j) ∧ ∀ i, i < tx.length → u.2.2 (n + i) = nI (tx.getD i 0)) (fun u r t => r = sb ∧ va_P DJ jCl (jW (cA .byte) sb u.1 ml (nI (n + tx.length)) u.2.2 u.2.1) t.heap ∧ va_D (jF sb v sz) (jW (cA .byte) sb u.1 ml (nI (n + tx.length)) u.2.2 u.2.1)) (jF sb v sz)) 1 250 (jF sb v sz) := by
  refine Met.ofW (cc := cJ4_append_15ec4) (maxL := 2) (ret := (some (.object "java/lang/StringBuilder"))) (by decide) rfl ?_
  intro p e s m args below meth c s₁ B hml hv
  obtain ⟨rfl, ⟨⟨hE, hsz, hK, hP, hD0⟩, hT⟩⟩ := hv
  have hx := B.exec
  have hb := B.bytes
  have hr := B.returns
  have hlocks := B.notSynchronized
  have hts0 := atoms_spec (ws := jWs yJ4_append_15ec4 cJ4_append_15ec4 2 (some (.object "java/lang/StringBuilder"))) B.pre
  have hts : ∀ w ∈ jw, w.before _ s = true := fun w h => hts0 w (List.mem_cons_of_mem _ h)
  have hown : s.vm.findClass RJ4 = some m.cls := findClass_of_methodNamed B.named
  subst hsz
  have hD := jF_D (sz := s.heap.size) hD0
  have hA : ∀ q : Nat, s.heap.size ≤ q → jF sb v s.heap.size q := fun q h => Or.inr (Or.inr h)
  have hS : va_S (jF sb v s.heap.size) s.heap s.heap [] := va_S.rf
  have hG := hS.up hF
  have hT0 := hT
  obtain ⟨w, hO, hco, hva, hB⟩ := hT
  have hl := lv_entry ([.ref sb, .ref st]) (n := 2) (Nat.le_of_ble_eq_true rfl)
  rw [lg_entry_eq]
  generalize (lg_sl ([.ref sb, .ref st]) ++ List.replicate (2 - (lg_sl ([.ref sb, .ref st])).length) Slot.unset).toArray = ls at hl ⊢
  have hl : lv_has ls 2 [(0, .ref sb), (1, .ref st)] := hl
  refine lv_aload_n hx hb dJ4_append_15ec4_0 rfl (lv_at hl 0 rfl) ?_
  refine lv_aload_n hx hb dJ4_append_15ec4_1 rfl (lv_at hl 1 rfl) ?_
  have hSub := jF_sub (sz := s.heap.size) (hD.2 1 _ rfl) hS.1
  refine va_callr (va_runSU (n := 1) (C := RJ4) (hK.1 0 _ rfl).2 (As := [.ref st]) (rest := []) ⟨hx, hb, hml, hown, hts⟩ (jm_app5s (z := z) (ro := ro) (cA := cA) (D := D) (DJ := DJ) (roArr := roArr) l (sb := sb) (v := v) (M := M) (sz := s.heap.size) (ml := ml) (n := n) (a := a) (st := st) (tx := tx) hn hnm hm hfit (fun q h => hF q (hSub q h)) htx) (va_cwSU 1 hts (jGood (List.forall_mem_cons.mpr ⟨jwt 1345 (by decide +kernel) rfl, List.forall_mem_cons.mpr ⟨jwt 1337 (by decide +kernel) rfl, List.forall_mem_cons.mpr ⟨jwt 1346 (by decide +kernel) rfl, List.forall_mem_cons.mpr ⟨jwt 1336 (by decide +kernel) rfl, List.forall_mem_cons.mpr ⟨jwt 18 (by decide +kernel) rfl, List.forall_mem_cons.mpr ⟨jwt 1347 (by decide +kernel) rfl, fun w h => h⟩⟩⟩⟩⟩⟩)) rfl rfl rfl (by decide +kernel) ⟨Nat.le_of_ble_eq_true rfl, Nat.le_of_ble_eq_true rfl⟩) ⟨fun a U g mk q => ⟨q.1, jPre.blind q.2.1, q.2.2⟩, va_recv (ci := 0) (q0 := 0) hK hP rfl rfl, fun U hU hW => ⟨rfl, jPre.to hU hW hE hG hK hP hD, gTx.up hU hW hT0 hG⟩⟩ rfl rfl hl.1 rfl (lv_room (Nat.le_of_ble_eq_true rfl)) dJ4_append_15ec4_2 ⟨Nat.le_of_ble_eq_true rfl, Nat.le_of_ble_eq_true rfl⟩) hS (fun q _ h => hSub q h) hSub (fun u ra t H locs ht hvm hpost hB1 hz1 hk1 hS => ?_)
  obtain ⟨v1, m1, a1⟩ := u
  obtain ⟨hra, hP1, hD1⟩ := hB1
  rw [ht] at hP1
  replace hD := hD1.weaken (fun _ q _ h => hSub _ h)
  have hP := hP1
  have hP : va_P DJ jCl [(sb, .inr (0, [.ref v1, .int 0, .int ml, .int (nI (n + tx.length))])), (v1, .inl (cA .byte, m1, .inl a1))] H := hP
  have hD : va_D (jF sb v s.heap.size) [(sb, .inr (0, [.ref v1, .int 0, .int ml, .int (nI (n + tx.length))])), (v1, .inl (cA .byte, m1, .inl a1))] := hD
  have hG := hS.up hF
  refine lv_pop hx hb dJ4_append_15ec4_5 rfl ?_
  refine lv_aload_n hx hb dJ4_append_15ec4_6 rfl (lv_at hl 0 rfl) ?_
  refine W.widen (k := 1) (n := 250) (Nat.le_of_ble_eq_true rfl) (by omega) ?_
  exact W.aret hx hb hr (Or.inl ⟨_, rfl⟩) (Or.inr ⟨_, rfl⟩) (fun t ht hW => ⟨⟨(v1, m1, a1), sb, rfl, hpost, rfl, by rw [ht]; exact hP, hD⟩, hS.F ht⟩) hS.2.2 dJ4_append_15ec4_7

set_option maxHeartbeats 4000000 in
set_option maxRecDepth 100000 in
/-- its bridge -/
theorem jm_app4b (l : Launch) {sb v M sz n st : Nat} {ml : Int32} {a : Nat → Int32} {tx : List Nat} (hn : n + tx.length ≤ 120) (hnm : n ≤ M) (hm : M ≤ 250) (hfit : sb_Fit a) (hF : ∀ q, jF sb v sz q → gA z ro q) (htx : ∀ i, tx.getD i 0 < 128)  : Met l yJ4_append_cf1ce (jWs yJ4_append_cf1ce cJ4_append_cf1ce 2 (some (.object "java/lang/AbstractStringBuilder"))) ({ frames := 7, cells := 1, slots := 250, locals := 220 }) (va_Pc [.ref sb, .ref st] (fun U => jPre z ro cA D roArr DJ sz (jW (cA .byte) sb v ml (nI n) a M) U ∧ gTx tx st (gA z ro) U U.heap)) (va_Qr (fun u : Nat × Nat × (Nat → Int32) => u.2.1 ≤ 250 ∧ (n + tx.length ≤ u.2.1 ∧ u.2.1 = sb_cap (n + tx.length) M) ∧ sb_Fit u.2.2 ∧ (∀ j, j < n → u.2.2 j = a j) ∧ ∀ i, i < tx.length → u.2.2 (n + i) = nI (tx.getD i 0)) (fun u r t => r = sb ∧ va_P DJ jCl (jW (cA .byte) sb u.1 ml (nI (n + tx.length)) u.2.2 u.2.1) t.heap ∧ va_D (jF sb v sz) (jW (cA .byte) sb u.1 ml (nI (n + tx.length)) u.2.2 u.2.1)) (jF sb v sz)) 1 250 (jF sb v sz) := by
  refine Met.ofW (cc := cJ4_append_cf1ce) (maxL := 2) (ret := (some (.object "java/lang/AbstractStringBuilder"))) (by decide) rfl ?_
  intro p e s m args below meth c s₁ B hml hv
  obtain ⟨rfl, ⟨⟨hE, hsz, hK, hP, hD0⟩, hT⟩⟩ := hv
  have hx := B.exec
  have hb := B.bytes
  have hr := B.returns
  have hlocks := B.notSynchronized
  have hts0 := atoms_spec (ws := jWs yJ4_append_cf1ce cJ4_append_cf1ce 2 (some (.object "java/lang/AbstractStringBuilder"))) B.pre
  have hts : ∀ w ∈ jw, w.before _ s = true := fun w h => hts0 w (List.mem_cons_of_mem _ h)
  have hown : s.vm.findClass RJ4 = some m.cls := findClass_of_methodNamed B.named
  subst hsz
  have hD := jF_D (sz := s.heap.size) hD0
  have hA : ∀ q : Nat, s.heap.size ≤ q → jF sb v s.heap.size q := fun q h => Or.inr (Or.inr h)
  have hS : va_S (jF sb v s.heap.size) s.heap s.heap [] := va_S.rf
  have hG := hS.up hF
  have hT0 := hT
  obtain ⟨w, hO, hco, hva, hB⟩ := hT
  have hl := lv_entry ([.ref sb, .ref st]) (n := 2) (Nat.le_of_ble_eq_true rfl)
  rw [lg_entry_eq]
  generalize (lg_sl ([.ref sb, .ref st]) ++ List.replicate (2 - (lg_sl ([.ref sb, .ref st])).length) Slot.unset).toArray = ls at hl ⊢
  have hl : lv_has ls 2 [(0, .ref sb), (1, .ref st)] := hl
  refine lv_aload_n hx hb dJ4_append_cf1ce_0 rfl (lv_at hl 0 rfl) ?_
  refine lv_aload_n hx hb dJ4_append_cf1ce_1 rfl (lv_at hl 1 rfl) ?_
  have hSub := jF_sub (sz := s.heap.size) (hD.2 1 _ rfl) hS.1
  refine va_callr (va_runV (n := 1) (C := RJ4) (As := [.ref st]) (rest := []) ⟨hx, hb, hml, hown, hts⟩ (jm_app4s (z := z) (ro := ro) (cA := cA) (D := D) (DJ := DJ) (roArr := roArr) l (sb := sb) (v := v) (M := M) (sz := s.heap.size) (ml := ml) (n := n) (a := a) (st := st) (tx := tx) hn hnm hm hfit (fun q h => hF q (hSub q h)) htx) (cwV 1 hts (jGood (List.forall_mem_cons.mpr ⟨jwt 1341 (by decide +kernel) rfl, List.forall_mem_cons.mpr ⟨jwt 1342 (by decide +kernel) rfl, List.forall_mem_cons.mpr ⟨jwt 1343 (by decide +kernel) rfl, List.forall_mem_cons.mpr ⟨jwt 19 (by decide +kernel) rfl, List.forall_mem_cons.mpr ⟨jwt 1344 (by decide +kernel) rfl, fun w h => h⟩⟩⟩⟩⟩)) rfl rfl rfl (by decide +kernel) ⟨Nat.le_of_ble_eq_true rfl, Nat.le_of_ble_eq_true rfl⟩) ⟨fun a U g mk q => ⟨q.1, jPre.blind q.2.1, q.2.2⟩, va_recv (ci := 0) (q0 := 0) hK hP rfl rfl, fun U hU hW => ⟨rfl, jPre.to hU hW hE hG hK hP hD, gTx.up hU hW hT0 hG⟩⟩ rfl rfl hl.1 rfl (lv_room (Nat.le_of_ble_eq_true rfl)) dJ4_append_cf1ce_2 ⟨Nat.le_of_ble_eq_true rfl, Nat.le_of_ble_eq_true rfl⟩) hS (fun q _ h => hSub q h) hSub (fun u ra t H locs ht hvm hpost hB1 hz1 hk1 hS => ?_)
  obtain ⟨v1, m1, a1⟩ := u
  obtain ⟨hra, hP1, hD1⟩ := hB1
  rw [ht] at hP1
  replace hD := hD1.weaken (fun _ q _ h => hSub _ h)
  have hP := hP1
  have hP : va_P DJ jCl [(sb, .inr (0, [.ref v1, .int 0, .int ml, .int (nI (n + tx.length))])), (v1, .inl (cA .byte, m1, .inl a1))] H := hP
  have hD : va_D (jF sb v s.heap.size) [(sb, .inr (0, [.ref v1, .int 0, .int ml, .int (nI (n + tx.length))])), (v1, .inl (cA .byte, m1, .inl a1))] := hD
  have hG := hS.up hF
  refine W.widen (k := 1) (n := 250) (Nat.le_of_ble_eq_true rfl) (by omega) ?_
  exact W.aret hx hb hr (Or.inl ⟨_, rfl⟩) (Or.inr ⟨_, rfl⟩) (fun t ht hW => ⟨⟨(v1, m1, a1), ra, rfl, hpost, hra, by rw [ht]; exact hP, hD⟩, hS.F ht⟩) hS.2.2 dJ4_append_cf1ce_5
end
