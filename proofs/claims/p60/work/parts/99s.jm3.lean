/-! ===== the JDK: room is made, by wip/p60/jm3.py ===== -/
theorem dJ5_ensureCapacityInternal_d00df_0 : decode cJ5_ensureCapacityInternal_d00df 0 = .ok (.aload_n 0, 1) := by decide +kernel
theorem dJ5_ensureCapacityInternal_d00df_1 : decode cJ5_ensureCapacityInternal_d00df 1 = .ok (.getfield 15, 3) := by decide +kernel
theorem dJ5_ensureCapacityInternal_d00df_10 : decode cJ5_ensureCapacityInternal_d00df 10 = .ok (.istore_n 2, 1) := by decide +kernel
theorem dJ5_ensureCapacityInternal_d00df_11 : decode cJ5_ensureCapacityInternal_d00df 11 = .ok (.iload_n 1, 1) := by decide +kernel
theorem dJ5_ensureCapacityInternal_d00df_12 : decode cJ5_ensureCapacityInternal_d00df 12 = .ok (.iload_n 2, 1) := by decide +kernel
theorem dJ5_ensureCapacityInternal_d00df_13 : decode cJ5_ensureCapacityInternal_d00df 13 = .ok (.isub, 1) := by decide +kernel
theorem dJ5_ensureCapacityInternal_d00df_14 : decode cJ5_ensureCapacityInternal_d00df 14 = .ok (.ifCond .le 24, 3) := by decide +kernel
theorem dJ5_ensureCapacityInternal_d00df_17 : decode cJ5_ensureCapacityInternal_d00df 17 = .ok (.aload_n 0, 1) := by decide +kernel
theorem dJ5_ensureCapacityInternal_d00df_18 : decode cJ5_ensureCapacityInternal_d00df 18 = .ok (.aload_n 0, 1) := by decide +kernel
theorem dJ5_ensureCapacityInternal_d00df_19 : decode cJ5_ensureCapacityInternal_d00df 19 = .ok (.getfield 15, 3) := by decide +kernel
theorem dJ5_ensureCapacityInternal_d00df_22 : decode cJ5_ensureCapacityInternal_d00df 22 = .ok (.aload_n 0, 1) := by decide +kernel
theorem dJ5_ensureCapacityInternal_d00df_23 : decode cJ5_ensureCapacityInternal_d00df 23 = .ok (.iload_n 1, 1) := by decide +kernel
theorem dJ5_ensureCapacityInternal_d00df_24 : decode cJ5_ensureCapacityInternal_d00df 24 = .ok (.invokevirtual 104, 3) := by decide +kernel
theorem dJ5_ensureCapacityInternal_d00df_27 : decode cJ5_ensureCapacityInternal_d00df 27 = .ok (.aload_n 0, 1) := by decide +kernel
theorem dJ5_ensureCapacityInternal_d00df_28 : decode cJ5_ensureCapacityInternal_d00df 28 = .ok (.getfield 22, 3) := by decide +kernel
theorem dJ5_ensureCapacityInternal_d00df_31 : decode cJ5_ensureCapacityInternal_d00df 31 = .ok (.ishl, 1) := by decide +kernel
theorem dJ5_ensureCapacityInternal_d00df_32 : decode cJ5_ensureCapacityInternal_d00df 32 = .ok (.invokestatic 108, 3) := by decide +kernel
theorem dJ5_ensureCapacityInternal_d00df_35 : decode cJ5_ensureCapacityInternal_d00df 35 = .ok (.putfield 15, 3) := by decide +kernel
theorem dJ5_ensureCapacityInternal_d00df_38 : decode cJ5_ensureCapacityInternal_d00df 38 = .ok (.return_, 1) := by decide +kernel
theorem dJ5_ensureCapacityInternal_d00df_4 : decode cJ5_ensureCapacityInternal_d00df 4 = .ok (.arraylength, 1) := by decide +kernel
theorem dJ5_ensureCapacityInternal_d00df_5 : decode cJ5_ensureCapacityInternal_d00df 5 = .ok (.aload_n 0, 1) := by decide +kernel
theorem dJ5_ensureCapacityInternal_d00df_6 : decode cJ5_ensureCapacityInternal_d00df 6 = .ok (.getfield 22, 3) := by decide +kernel
theorem dJ5_ensureCapacityInternal_d00df_9 : decode cJ5_ensureCapacityInternal_d00df 9 = .ok (.ishr, 1) := by decide +kernel
theorem dJ7_copyOf_9075b_0 : decode cJ7_copyOf_9075b 0 = .ok (.iload_n 1, 1) := by decide +kernel
theorem dJ7_copyOf_9075b_1 : decode cJ7_copyOf_9075b 1 = .ok (.aload_n 0, 1) := by decide +kernel
theorem dJ7_copyOf_9075b_14 : decode cJ7_copyOf_9075b 14 = .ok (.iload_n 1, 1) := by decide +kernel
theorem dJ7_copyOf_9075b_15 : decode cJ7_copyOf_9075b 15 = .ok (.newarray .byte, 2) := by decide +kernel
theorem dJ7_copyOf_9075b_17 : decode cJ7_copyOf_9075b 17 = .ok (.astore_n 2, 1) := by decide +kernel
theorem dJ7_copyOf_9075b_18 : decode cJ7_copyOf_9075b 18 = .ok (.aload_n 0, 1) := by decide +kernel
theorem dJ7_copyOf_9075b_19 : decode cJ7_copyOf_9075b 19 = .ok (.iconst 0, 1) := by decide +kernel
theorem dJ7_copyOf_9075b_2 : decode cJ7_copyOf_9075b 2 = .ok (.arraylength, 1) := by decide +kernel
theorem dJ7_copyOf_9075b_20 : decode cJ7_copyOf_9075b 20 = .ok (.aload_n 2, 1) := by decide +kernel
theorem dJ7_copyOf_9075b_21 : decode cJ7_copyOf_9075b 21 = .ok (.iconst 0, 1) := by decide +kernel
theorem dJ7_copyOf_9075b_22 : decode cJ7_copyOf_9075b 22 = .ok (.aload_n 0, 1) := by decide +kernel
theorem dJ7_copyOf_9075b_23 : decode cJ7_copyOf_9075b 23 = .ok (.arraylength, 1) := by decide +kernel
theorem dJ7_copyOf_9075b_24 : decode cJ7_copyOf_9075b 24 = .ok (.iload_n 1, 1) := by decide +kernel
theorem dJ7_copyOf_9075b_25 : decode cJ7_copyOf_9075b 25 = .ok (.invokestatic 304, 3) := by decide +kernel
theorem dJ7_copyOf_9075b_28 : decode cJ7_copyOf_9075b 28 = .ok (.invokestatic 150, 3) := by decide +kernel
theorem dJ7_copyOf_9075b_3 : decode cJ7_copyOf_9075b 3 = .ok (.if_icmp .ne 11, 3) := by decide +kernel
theorem dJ7_copyOf_9075b_31 : decode cJ7_copyOf_9075b 31 = .ok (.aload_n 2, 1) := by decide +kernel
theorem dJ7_copyOf_9075b_32 : decode cJ7_copyOf_9075b 32 = .ok (.areturn, 1) := by decide +kernel
theorem j_cap2 {q m : Nat} (h : m < q) (h2 : q ≤ 2 * m + 2) : sb_cap q m = 2 * m + 2 := by
  unfold sb_cap
  rw [if_neg (show ¬ q ≤ m by omega), if_neg (by omega)]
section
variable {z : Nat} {ro : Nat → Nat} {cA : FieldType → ClassId} {D DJ : va_G} {roArr : Nat → Option (Nat × (Nat → Int32))}
set_option maxHeartbeats 4000000 in
set_option maxRecDepth 100000 in
/-- Arrays.copyOf, longer -/
theorem jm_copyOf (l : Launch) {sb v M sz : Nat} {ml n : Int32} {a : Nat → Int32} {q : Nat} (hq : M < q) (hq2 : q ≤ 250) (hfit : sb_Fit a) (hF : ∀ q, jF sb v sz q → gA z ro q) : Met l yJ7_copyOf_9075b (jWs yJ7_copyOf_9075b cJ7_copyOf_9075b 3 (some (.array .byte))) ({ frames := 1, cells := 1, slots := 250, locals := 60 }) (va_Pc [.ref v, .int (nI q)] (fun U => jPre z ro cA D roArr DJ sz (jW (cA .byte) sb v ml n a M) U)) (va_Qr (fun _ : Unit => True) (fun _ r t => va_P DJ jCl [jS sb v ml n, jV (cA .byte) v a M, jV (cA .byte) r (va_cpy a (fun _ => 0) 0 0 M) q] t.heap ∧ va_D (jF sb v sz) [jS sb v ml n, jV (cA .byte) v a M, jV (cA .byte) r (va_cpy a (fun _ => 0) 0 0 M) q]) (jF sb v sz)) 1 250 (jF sb v sz) := by
  refine Met.ofW (cc := cJ7_copyOf_9075b) (maxL := 3) (ret := (some (.array .byte))) (by decide) rfl ?_
  intro p e s m args below meth c s₁ B hml hv
  obtain ⟨rfl, ⟨hE, hsz, hK, hP, hD0⟩⟩ := hv
  have hx := B.exec
  have hb := B.bytes
  have hr := B.returns
  have hlocks := B.notSynchronized
  have hts0 := atoms_spec (ws := jWs yJ7_copyOf_9075b cJ7_copyOf_9075b 3 (some (.array .byte))) B.pre
  have hts : ∀ w ∈ jw, w.before _ s = true := fun w h => hts0 w (List.mem_cons_of_mem _ h)
  have hown : s.vm.findClass RJ7 = some m.cls := findClass_of_methodNamed B.named
  subst hsz
  have hD := jF_D (sz := s.heap.size) hD0
  have hA : ∀ q : Nat, s.heap.size ≤ q → jF sb v s.heap.size q := fun q h => Or.inr (Or.inr h)
  have hS : va_S (jF sb v s.heap.size) s.heap s.heap [] := va_S.rf
  have hG := hS.up hF
  have hl := lv_entry ([.ref v, .int (nI q)]) (n := 3) (Nat.le_of_ble_eq_true rfl)
  rw [lg_entry_eq]
  generalize (lg_sl ([.ref v, .int (nI q)]) ++ List.replicate (3 - (lg_sl ([.ref v, .int (nI q)])).length) Slot.unset).toArray = ls at hl ⊢
  have hl : lv_has ls 3 [(0, .ref v), (1, .int (nI q))] := hl
  refine lv_iload_n hx hb dJ7_copyOf_9075b_0 rfl (lv_at hl 1 rfl) ?_
  refine lv_aload_n hx hb dJ7_copyOf_9075b_1 rfl (lv_at hl 0 rfl) ?_
  refine va_alen hx hb hK hP 1 0 rfl rfl (v := nI M) rfl dJ7_copyOf_9075b_2 ?_
  refine lv_icmp_ne (tgt := 14) hx hb dJ7_copyOf_9075b_3 (by decide) (fun _ => ?_) (fun h0 => absurd h0 (fun z9 => by have := (nI_eq (by omega) (by omega)).mp (show nI q = nI M from z9); omega))
  refine lv_iload_n hx hb dJ7_copyOf_9075b_14 rfl (lv_at hl 1 rfl) ?_
  refine j_newb hx hb (hts (.arrayClass .byte) (jwt 748 (by decide +kernel) rfl)) hK hP hD hS hA (n := (nI q)) (N' := q) (nI_pos (by omega)) (nI_clamp (by omega)) (by omega) (Nat.le_of_ble_eq_true rfl) (by show 0 + q ≤ 250; omega) dJ7_copyOf_9075b_15 (fun r1 H hq0 hP hD hS => ?_)
  have hP : va_P DJ jCl [(sb, .inr (0, [.ref v, .int 0, .int ml, .int n])), (v, .inl (cA .byte, M, .inl a)), (r1, .inl (cA .byte, q, .inl fun _ => 0))] H := hP
  have hD : va_D (jF sb v s.heap.size) [(sb, .inr (0, [.ref v, .int 0, .int ml, .int n])), (v, .inl (cA .byte, M, .inl a)), (r1, .inl (cA .byte, q, .inl fun _ => 0))] := hD
  have hG := hS.up hF
  refine lv_astore_n (nL := 3) hx hb dJ7_copyOf_9075b_17 rfl hl (by decide) rfl (fun ls hl => ?_)
  have hl : lv_has ls 3 [(2, .ref r1), (0, .ref v), (1, .int (nI q))] := hl
  refine lv_aload_n hx hb dJ7_copyOf_9075b_18 rfl (lv_at hl 1 rfl) ?_
  refine lv_iconst (v := 0) hx hb dJ7_copyOf_9075b_19 (by decide) ?_
  refine lv_aload_n hx hb dJ7_copyOf_9075b_20 rfl (lv_at hl 0 rfl) ?_
  refine lv_iconst (v := 0) hx hb dJ7_copyOf_9075b_21 (by decide) ?_
  refine lv_aload_n hx hb dJ7_copyOf_9075b_22 rfl (lv_at hl 1 rfl) ?_
  refine va_alen hx hb hK hP 1 0 rfl rfl (v := nI M) rfl dJ7_copyOf_9075b_23 ?_
  refine lv_iload_n hx hb dJ7_copyOf_9075b_24 rfl (lv_at hl 2 rfl) ?_
  refine va_mmin hx hb (hml.trans hl.1.symm) hown (hts (.methodLink RJ7 304 Lib.Math.min.name) (jwt 1378 (by decide +kernel) rfl)) (hts (.static Lib.Math.min.name) (jwt 422 (by decide +kernel) rfl)) (hts (.initialized "java/lang/Math") (jwt 16 (by decide +kernel) rfl)) (hts (.code Lib.Math.min.name Lib.Math.min.code 2 (some .int)) (jwt 423 (by decide +kernel) rfl)) (Nat.le_of_ble_eq_true rfl) (Nat.le_of_ble_eq_true rfl) (Nat.le_of_ble_eq_true rfl) (by show 0 + q ≤ 250; omega) dJ7_copyOf_9075b_25 ?_
  rw [show (if nI q < nI M then nI q else nI M : Int32) = nI M from if_neg (nI_nlt (by omega) (by omega))]
  refine va_copyi hx hb (hml.trans hl.1.symm) hown (hts (.methodLink RJ7 150 arraycopyName) (jwt 1379 (by decide +kernel) rfl)) (hts (.native arraycopyName) (jwt 696 (by decide +kernel) rfl)) (hts (.static arraycopyName) (jwt 695 (by decide +kernel) rfl)) (hts (.initialized "java/lang/System") (jwt 17 (by decide +kernel) rfl)) hK hP hD hS 1 2 0 0 rfl rfl rfl rfl rfl (by decide) (by decide) (nI_pos (by omega)) (by rw [nI_clamp (by omega), sb_cl0]; omega) (by rw [nI_clamp (by omega), sb_cl0]; omega) (fun i _ => hfit _) (Nat.le_of_ble_eq_true rfl) (Nat.le_of_ble_eq_true rfl) dJ7_copyOf_9075b_28 (fun H locs hP hD hS => ?_)
  rw [sb_cl0, nI_clamp (by omega)] at hP hD
  have hP : va_P DJ jCl [(sb, .inr (0, [.ref v, .int 0, .int ml, .int n])), (v, .inl (cA .byte, M, .inl a)), (r1, .inl (cA .byte, q, .inl (va_cpy a (fun _ => 0) 0 0 M)))] H := hP
  have hD : va_D (jF sb v s.heap.size) [(sb, .inr (0, [.ref v, .int 0, .int ml, .int n])), (v, .inl (cA .byte, M, .inl a)), (r1, .inl (cA .byte, q, .inl (va_cpy a (fun _ => 0) 0 0 M)))] := hD
  have hG := hS.up hF
  refine lv_aload_n hx hb dJ7_copyOf_9075b_31 rfl (lv_at hl 0 rfl) ?_
  refine W.widen (k := 1) (n := 250) (Nat.le_of_ble_eq_true rfl) (by omega) ?_
  exact W.aret hx hb hr (Or.inr ⟨_, rfl⟩) (Or.inr ⟨_, rfl⟩) (fun t ht hW => ⟨⟨(), r1, rfl, trivial, by rw [ht]; exact hP, hD⟩, hS.F ht⟩) hS.2.2 dJ7_copyOf_9075b_32

set_option maxHeartbeats 4000000 in
set_option maxRecDepth 100000 in
/-- room enough -/
theorem jm_ensure0 (l : Launch) {sb v M sz : Nat} {ml n : Int32} {a : Nat → Int32} {q : Nat} (hq : q ≤ M) (hq2 : q ≤ 120) (hm : M ≤ 250) (hfit : sb_Fit a) (hF : ∀ q, jF sb v sz q → gA z ro q) : Met l yJ5_ensureCapacityInternal_d00df (jWs yJ5_ensureCapacityInternal_d00df cJ5_ensureCapacityInternal_d00df 3 none) ({ frames := 4, cells := 1, slots := 250, locals := 100 }) (va_Pc [.ref sb, .int (nI q)] (fun U => jPre z ro cA D roArr DJ sz (jW (cA .byte) sb v ml n a M) U)) (va_Qv (fun u : Nat × Nat × (Nat → Int32) => u.2.1 ≤ 250 ∧ (q ≤ u.2.1 ∧ u.2.1 = sb_cap q M) ∧ M ≤ u.2.1 ∧ (∀ j, j < M → u.2.2 j = a j) ∧ sb_Fit u.2.2) (fun u t => va_P DJ jCl (jW (cA .byte) sb u.1 ml n u.2.2 u.2.1) t.heap ∧ va_D (jF sb v sz) (jW (cA .byte) sb u.1 ml n u.2.2 u.2.1)) (jF sb v sz)) 1 250 (jF sb v sz) := by
  refine Met.ofW (cc := cJ5_ensureCapacityInternal_d00df) (maxL := 3) (ret := none) (by decide) rfl ?_
  intro p e s m args below meth c s₁ B hml hv
  obtain ⟨rfl, ⟨hE, hsz, hK, hP, hD0⟩⟩ := hv
  have hx := B.exec
  have hb := B.bytes
  have hr := B.returns
  have hlocks := B.notSynchronized
  have hts0 := atoms_spec (ws := jWs yJ5_ensureCapacityInternal_d00df cJ5_ensureCapacityInternal_d00df 3 none) B.pre
  have hts : ∀ w ∈ jw, w.before _ s = true := fun w h => hts0 w (List.mem_cons_of_mem _ h)
  have hown : s.vm.findClass RJ5 = some m.cls := findClass_of_methodNamed B.named
  subst hsz
  have hD := jF_D (sz := s.heap.size) hD0
  have hA : ∀ q : Nat, s.heap.size ≤ q → jF sb v s.heap.size q := fun q h => Or.inr (Or.inr h)
  have hS : va_S (jF sb v s.heap.size) s.heap s.heap [] := va_S.rf
  have hG := hS.up hF
  have hl := lv_entry ([.ref sb, .int (nI q)]) (n := 3) (Nat.le_of_ble_eq_true rfl)
  rw [lg_entry_eq]
  generalize (lg_sl ([.ref sb, .int (nI q)]) ++ List.replicate (3 - (lg_sl ([.ref sb, .int (nI q)])).length) Slot.unset).toArray = ls at hl ⊢
  have hl : lv_has ls 3 [(0, .ref sb), (1, .int (nI q))] := hl
  refine lv_aload_n hx hb dJ5_ensureCapacityInternal_d00df_0 rfl (lv_at hl 0 rfl) ?_
  refine va_get (D := DJ) (ci := 0) (v := .ref v) (C := RJ4) (T := TJ4) (N := 4) hx hb hts j4_in hown hK hP 0 rfl rfl 0 (by decide) (hts (.fieldLink RJ5 15 "java/lang/AbstractStringBuilder" "value" "[B") (jwt 1434 (by decide +kernel) rfl)) (fun x hx => hx) rfl dJ5_ensureCapacityInternal_d00df_1 ?_
  refine va_alen hx hb hK hP 1 0 rfl rfl (v := nI M) rfl dJ5_ensureCapacityInternal_d00df_4 ?_
  refine lv_aload_n hx hb dJ5_ensureCapacityInternal_d00df_5 rfl (lv_at hl 0 rfl) ?_
  refine va_get (D := DJ) (ci := 0) (v := .int 0) (C := RJ4) (T := TJ4) (N := 4) hx hb hts j4_in hown hK hP 0 rfl rfl 1 (by decide) (hts (.fieldLink RJ5 22 "java/lang/AbstractStringBuilder" "coder" "B") (jwt 1435 (by decide +kernel) rfl)) (fun x hx => hx) rfl dJ5_ensureCapacityInternal_d00df_6 ?_
  refine lv_ishr hx hb dJ5_ensureCapacityInternal_d00df_9 ?_
  refine W.eq (g2 := F0 m 10 ls [.int (nI M)]) (by rw [show (((nI M) >>> ((0 : Int32) &&& 31) : Int32)) = nI M from sb_shr0 (nI M)]) ?_
  refine lv_istore_n (nL := 3) hx hb dJ5_ensureCapacityInternal_d00df_10 rfl hl (by decide) rfl (fun ls hl => ?_)
  have hl : lv_has ls 3 [(2, .int (nI M)), (0, .ref sb), (1, .int (nI q))] := hl
  refine lv_iload_n hx hb dJ5_ensureCapacityInternal_d00df_11 rfl (lv_at hl 2 rfl) ?_
  refine lv_iload_n hx hb dJ5_ensureCapacityInternal_d00df_12 rfl (lv_at hl 0 rfl) ?_
  refine lv_isub hx hb dJ5_ensureCapacityInternal_d00df_13 ?_
  refine lv_if_le (tgt := 38) hx hb dJ5_ensureCapacityInternal_d00df_14 (by decide) (fun _ => ?_) (fun h0 => absurd (by rw [Int32.le_iff_toInt_le, show (nI q - nI M).toInt = (q : Int) - M from pk_sub_toInt (by omega) (by omega), Int32.toInt_zero]; omega) h0)
  refine W.widen (k := 1) (n := 250) (Nat.le_of_ble_eq_true rfl) (by omega) ?_
  exact W.vret hx hb hr (fun t ht hW => ⟨⟨(v, M, a), rfl, ⟨hm, ⟨hq, (show M = sb_cap q M from (if_pos hq).symm)⟩, Nat.le_refl _, fun _ _ => rfl, hfit⟩, by rw [ht]; exact hP, hD⟩, hS.F ht⟩) hS.2.2 dJ5_ensureCapacityInternal_d00df_38

set_option maxHeartbeats 4000000 in
set_option maxRecDepth 100000 in
/-- more room -/
theorem jm_ensure1 (l : Launch) {sb v M sz : Nat} {ml n : Int32} {a : Nat → Int32} {q : Nat} (hq : M < q) (hq2 : q ≤ 120) (hm : M ≤ 250) (hfit : sb_Fit a) (hF : ∀ q, jF sb v sz q → gA z ro q) : Met l yJ5_ensureCapacityInternal_d00df (jWs yJ5_ensureCapacityInternal_d00df cJ5_ensureCapacityInternal_d00df 3 none) ({ frames := 4, cells := 1, slots := 250, locals := 100 }) (va_Pc [.ref sb, .int (nI q)] (fun U => jPre z ro cA D roArr DJ sz (jW (cA .byte) sb v ml n a M) U)) (va_Qv (fun u : Nat × Nat × (Nat → Int32) => u.2.1 ≤ 250 ∧ (q ≤ u.2.1 ∧ u.2.1 = sb_cap q M) ∧ M ≤ u.2.1 ∧ (∀ j, j < M → u.2.2 j = a j) ∧ sb_Fit u.2.2) (fun u t => va_P DJ jCl (jW (cA .byte) sb u.1 ml n u.2.2 u.2.1) t.heap ∧ va_D (jF sb v sz) (jW (cA .byte) sb u.1 ml n u.2.2 u.2.1)) (jF sb v sz)) 1 250 (jF sb v sz) := by
  refine Met.ofW (cc := cJ5_ensureCapacityInternal_d00df) (maxL := 3) (ret := none) (by decide) rfl ?_
  intro p e s m args below meth c s₁ B hml hv
  obtain ⟨rfl, ⟨hE, hsz, hK, hP, hD0⟩⟩ := hv
  have hx := B.exec
  have hb := B.bytes
  have hr := B.returns
  have hlocks := B.notSynchronized
  have hts0 := atoms_spec (ws := jWs yJ5_ensureCapacityInternal_d00df cJ5_ensureCapacityInternal_d00df 3 none) B.pre
  have hts : ∀ w ∈ jw, w.before _ s = true := fun w h => hts0 w (List.mem_cons_of_mem _ h)
  have hown : s.vm.findClass RJ5 = some m.cls := findClass_of_methodNamed B.named
  subst hsz
  have hD := jF_D (sz := s.heap.size) hD0
  have hA : ∀ q : Nat, s.heap.size ≤ q → jF sb v s.heap.size q := fun q h => Or.inr (Or.inr h)
  have hS : va_S (jF sb v s.heap.size) s.heap s.heap [] := va_S.rf
  have hG := hS.up hF
  have hcb : sb_cap q M ≤ 250 := j_capb hq2 hm
  have hcg := sb_cap_ge q M
  have hl := lv_entry ([.ref sb, .int (nI q)]) (n := 3) (Nat.le_of_ble_eq_true rfl)
  rw [lg_entry_eq]
  generalize (lg_sl ([.ref sb, .int (nI q)]) ++ List.replicate (3 - (lg_sl ([.ref sb, .int (nI q)])).length) Slot.unset).toArray = ls at hl ⊢
  have hl : lv_has ls 3 [(0, .ref sb), (1, .int (nI q))] := hl
  refine lv_aload_n hx hb dJ5_ensureCapacityInternal_d00df_0 rfl (lv_at hl 0 rfl) ?_
  refine va_get (D := DJ) (ci := 0) (v := .ref v) (C := RJ4) (T := TJ4) (N := 4) hx hb hts j4_in hown hK hP 0 rfl rfl 0 (by decide) (hts (.fieldLink RJ5 15 "java/lang/AbstractStringBuilder" "value" "[B") (jwt 1434 (by decide +kernel) rfl)) (fun x hx => hx) rfl dJ5_ensureCapacityInternal_d00df_1 ?_
  refine va_alen hx hb hK hP 1 0 rfl rfl (v := nI M) rfl dJ5_ensureCapacityInternal_d00df_4 ?_
  refine lv_aload_n hx hb dJ5_ensureCapacityInternal_d00df_5 rfl (lv_at hl 0 rfl) ?_
  refine va_get (D := DJ) (ci := 0) (v := .int 0) (C := RJ4) (T := TJ4) (N := 4) hx hb hts j4_in hown hK hP 0 rfl rfl 1 (by decide) (hts (.fieldLink RJ5 22 "java/lang/AbstractStringBuilder" "coder" "B") (jwt 1435 (by decide +kernel) rfl)) (fun x hx => hx) rfl dJ5_ensureCapacityInternal_d00df_6 ?_
  refine lv_ishr hx hb dJ5_ensureCapacityInternal_d00df_9 ?_
  refine W.eq (g2 := F0 m 10 ls [.int (nI M)]) (by rw [show (((nI M) >>> ((0 : Int32) &&& 31) : Int32)) = nI M from sb_shr0 (nI M)]) ?_
  refine lv_istore_n (nL := 3) hx hb dJ5_ensureCapacityInternal_d00df_10 rfl hl (by decide) rfl (fun ls hl => ?_)
  have hl : lv_has ls 3 [(2, .int (nI M)), (0, .ref sb), (1, .int (nI q))] := hl
  refine lv_iload_n hx hb dJ5_ensureCapacityInternal_d00df_11 rfl (lv_at hl 2 rfl) ?_
  refine lv_iload_n hx hb dJ5_ensureCapacityInternal_d00df_12 rfl (lv_at hl 0 rfl) ?_
  refine lv_isub hx hb dJ5_ensureCapacityInternal_d00df_13 ?_
  refine W.eq (g2 := F0 m 14 ls [.int (nI (q - M))]) (by rw [show (((nI q) - (nI M) : Int32)) = nI (q - M) from pk_sub (by omega)]) ?_
  refine lv_if_le (tgt := 38) hx hb dJ5_ensureCapacityInternal_d00df_14 (by decide) (fun h0 => absurd h0 (nI_nle (by omega) (by omega))) (fun _ => ?_)
  refine lv_aload_n hx hb dJ5_ensureCapacityInternal_d00df_17 rfl (lv_at hl 1 rfl) ?_
  refine lv_aload_n hx hb dJ5_ensureCapacityInternal_d00df_18 rfl (lv_at hl 1 rfl) ?_
  refine va_get (D := DJ) (ci := 0) (v := .ref v) (C := RJ4) (T := TJ4) (N := 4) hx hb hts j4_in hown hK hP 0 rfl rfl 0 (by decide) (hts (.fieldLink RJ5 15 "java/lang/AbstractStringBuilder" "value" "[B") (jwt 1434 (by decide +kernel) rfl)) (fun x hx => hx) rfl dJ5_ensureCapacityInternal_d00df_19 ?_
  refine lv_aload_n hx hb dJ5_ensureCapacityInternal_d00df_22 rfl (lv_at hl 1 rfl) ?_
  refine lv_iload_n hx hb dJ5_ensureCapacityInternal_d00df_23 rfl (lv_at hl 2 rfl) ?_
  refine g_calln (va_runU (x := yJ5_newCapacity_0f7a4) (n := 1) (C := RJ4) (owner := RJ5) (As := [.int (nI q)]) (rest := [.ref v, .ref sb]) ⟨hx, hb, hml, hown, hts⟩ (jm_newCap (z := z) (ro := ro) (cA := cA) (D := D) (DJ := DJ) (roArr := roArr) l (sb := sb) (v := v) (M := M) (sz := s.heap.size) (ml := ml) (n := n) (a := a) (q := q) hq hq2 hm) (va_cwU 1 hts (jGood (List.forall_mem_cons.mpr ⟨jwt 1356 (by decide +kernel) rfl, List.forall_mem_cons.mpr ⟨jwt 1563 (by decide +kernel) rfl, List.forall_mem_cons.mpr ⟨jwj 1 (by decide +kernel), List.forall_mem_cons.mpr ⟨jwt 1358 (by decide +kernel) rfl, List.forall_mem_cons.mpr ⟨jwt 18 (by decide +kernel) rfl, List.forall_mem_cons.mpr ⟨jwt 1359 (by decide +kernel) rfl, fun w h => h⟩⟩⟩⟩⟩⟩)) rfl rfl rfl rfl (by decide +kernel) ⟨Nat.le_of_ble_eq_true rfl, Nat.le_of_ble_eq_true rfl⟩) ⟨fun a U g mk q => ⟨q.1, jPre.blind q.2⟩, va_recv (ci := 0) (q0 := 0) hK hP rfl rfl, fun U hU hW => ⟨rfl, jPre.to hU hW hE hG hK hP hD⟩⟩ rfl rfl hl.1 rfl (lv_room (Nat.le_of_ble_eq_true rfl)) dJ5_ensureCapacityInternal_d00df_24 ⟨Nat.le_of_ble_eq_true rfl, Nat.le_of_ble_eq_true rfl⟩) (fun x hx0 => ?_)
  subst hx0
  refine lv_aload_n hx hb dJ5_ensureCapacityInternal_d00df_27 rfl (lv_at hl 1 rfl) ?_
  refine va_get (D := DJ) (ci := 0) (v := .int 0) (C := RJ4) (T := TJ4) (N := 4) hx hb hts j4_in hown hK hP 0 rfl rfl 1 (by decide) (hts (.fieldLink RJ5 22 "java/lang/AbstractStringBuilder" "coder" "B") (jwt 1435 (by decide +kernel) rfl)) (fun x hx => hx) rfl dJ5_ensureCapacityInternal_d00df_28 ?_
  refine lv_ishl hx hb dJ5_ensureCapacityInternal_d00df_31 ?_
  refine W.eq (g2 := F0 m 32 ls [.int (nI (sb_cap q M)), .ref v, .ref sb]) (by rw [show (((nI (sb_cap q M)) <<< ((0 : Int32) &&& 31) : Int32)) = nI (sb_cap q M) from sb_shl0 _]) ?_
  have hSub := jF_sub (sz := s.heap.size) (hD.2 1 _ rfl) hS.1
  refine va_callr (va_runS (n := 2) (As := [.ref v, .int (nI (sb_cap q M))]) (rest := [.ref sb]) ⟨hx, hb, hml, hown, hts⟩ (jm_copyOf (z := z) (ro := ro) (cA := cA) (D := D) (DJ := DJ) (roArr := roArr) l (sb := sb) (v := v) (M := M) (sz := s.heap.size) (ml := ml) (n := n) (a := a) (q := sb_cap q M) (by omega) hcb hfit (fun q h => hF q (hSub q h))) (va_cwS 2 hts (jGood (List.forall_mem_cons.mpr ⟨jwt 1368 (by decide +kernel) rfl, List.forall_mem_cons.mpr ⟨jwt 1369 (by decide +kernel) rfl, List.forall_mem_cons.mpr ⟨jwt 21 (by decide +kernel) rfl, List.forall_mem_cons.mpr ⟨jwt 1370 (by decide +kernel) rfl, fun w h => h⟩⟩⟩⟩)) rfl rfl rfl (by decide +kernel) ⟨Nat.le_of_ble_eq_true rfl, Nat.le_of_ble_eq_true rfl⟩) ⟨fun a U g mk q => ⟨q.1, jPre.blind q.2⟩, fun U hU hW => ⟨rfl, jPre.to hU hW hE hG hK hP hD⟩⟩ rfl rfl hl.1 rfl (lv_room (Nat.le_of_ble_eq_true rfl)) dJ5_ensureCapacityInternal_d00df_32 ⟨Nat.le_of_ble_eq_true rfl, Nat.le_of_ble_eq_true rfl⟩) hS (fun q _ h => hSub q h) hSub (fun u ra t H locs ht hvm hpost hB1 hz1 hk1 hS => ?_)
  replace hD := hB1.2.weaken (fun _ q _ h => hSub _ h)
  have hP := hB1.1
  rw [ht] at hP
  have hP : va_P DJ jCl [(sb, .inr (0, [.ref v, .int 0, .int ml, .int n])), (v, .inl (cA .byte, M, .inl a)), (ra, .inl (cA .byte, sb_cap q M, .inl (va_cpy a (fun _ => 0) 0 0 M)))] H := hP
  have hD : va_D (jF sb v s.heap.size) [(sb, .inr (0, [.ref v, .int 0, .int ml, .int n])), (v, .inl (cA .byte, M, .inl a)), (ra, .inl (cA .byte, sb_cap q M, .inl (va_cpy a (fun _ => 0) 0 0 M)))] := hD
  have hG := hS.up hF
  refine va_put (D := DJ) (ci := 0) (v := .ref ra) (ty := .array .byte) (C := RJ4) (T := TJ4) (N := 4) hx hb hts j4_in tyJ4 tyJ4_ok nmJ4 hown hK hP hD hS 0 rfl rfl 0 (by decide) (hts (.fieldLink RJ5 15 "java/lang/AbstractStringBuilder" "value" "[B") (jwt 1434 (by decide +kernel) rfl)) (fun x hx => hx) rfl (by decide +kernel) rfl rfl (Nat.le_of_ble_eq_true rfl) dJ5_ensureCapacityInternal_d00df_35 (fun H locs hP hD hS => ?_)
  have hP : va_P DJ jCl [(sb, .inr (0, [.ref ra, .int 0, .int ml, .int n])), (v, .inl (cA .byte, M, .inl a)), (ra, .inl (cA .byte, sb_cap q M, .inl (va_cpy a (fun _ => 0) 0 0 M)))] H := hP
  have hD : va_D (jF sb v s.heap.size) [(sb, .inr (0, [.ref ra, .int 0, .int ml, .int n])), (v, .inl (cA .byte, M, .inl a)), (ra, .inl (cA .byte, sb_cap q M, .inl (va_cpy a (fun _ => 0) 0 0 M)))] := hD
  have hG := hS.up hF
  have hP := hP.sub (ws' := [(sb, .inr (0, [.ref ra, .int 0, .int ml, .int n])), (ra, .inl (cA .byte, sb_cap q M, .inl (va_cpy a (fun _ => 0) 0 0 M)))]) [0, 2] rfl
  have hD := hD.sub (ws' := [(sb, .inr (0, [.ref ra, .int 0, .int ml, .int n])), (ra, .inl (cA .byte, sb_cap q M, .inl (va_cpy a (fun _ => 0) 0 0 M)))]) [0, 2] (by decide) rfl
  refine W.widen (k := 1) (n := 250) (Nat.le_of_ble_eq_true rfl) (by omega) ?_
  exact W.vret hx hb hr (fun t ht hW => ⟨⟨(ra, sb_cap q M, va_cpy a (fun _ => 0) 0 0 M), rfl, ⟨hcb, ⟨hcg, rfl⟩, sb_cap_gem q M, fun j hj => (show va_cpy a (fun _ => 0) 0 0 M j = a j from sb_cpy0 hj), sb_fitC hfit sb_fit0⟩, by rw [ht]; exact hP, hD⟩, hS.F ht⟩) hS.2.2 dJ5_ensureCapacityInternal_d00df_38

/-- ensureCapacityInternal -/
theorem jm_ensure (l : Launch) {sb v M sz : Nat} {ml n : Int32} {a : Nat → Int32} {q : Nat} (hq2 : q ≤ 120) (hm : M ≤ 250) (hfit : sb_Fit a) (hF : ∀ q, jF sb v sz q → gA z ro q) : Met l yJ5_ensureCapacityInternal_d00df (jWs yJ5_ensureCapacityInternal_d00df cJ5_ensureCapacityInternal_d00df 3 none) ({ frames := 4, cells := 1, slots := 250, locals := 100 }) (va_Pc [.ref sb, .int (nI q)] (fun U => jPre z ro cA D roArr DJ sz (jW (cA .byte) sb v ml n a M) U)) (va_Qv (fun u : Nat × Nat × (Nat → Int32) => u.2.1 ≤ 250 ∧ (q ≤ u.2.1 ∧ u.2.1 = sb_cap q M) ∧ M ≤ u.2.1 ∧ (∀ j, j < M → u.2.2 j = a j) ∧ sb_Fit u.2.2) (fun u t => va_P DJ jCl (jW (cA .byte) sb u.1 ml n u.2.2 u.2.1) t.heap ∧ va_D (jF sb v sz) (jW (cA .byte) sb u.1 ml n u.2.2 u.2.1)) (jF sb v sz)) 1 250 (jF sb v sz) := by
  by_cases h : q ≤ M
  · exact jm_ensure0 l h hq2 hm hfit hF
  · exact jm_ensure1 l (by omega) hq2 hm hfit hF
end
