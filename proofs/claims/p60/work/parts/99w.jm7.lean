/-! ===== the JDK: toString, by wip/p60/jm7.py ===== -/
theorem dJ0_init_81219_0 : decode cJ0_init_81219 0 = .ok (.aload_n 0, 1) := by decide +kernel
theorem dJ0_init_81219_1 : decode cJ0_init_81219 1 = .ok (.aload_n 1, 1) := by decide +kernel
theorem dJ0_init_81219_2 : decode cJ0_init_81219 2 = .ok (.aconst_null, 1) := by decide +kernel
theorem dJ0_init_81219_3 : decode cJ0_init_81219 3 = .ok (.invokespecial 489, 3) := by decide +kernel
theorem dJ0_init_81219_6 : decode cJ0_init_81219 6 = .ok (.return_, 1) := by decide +kernel
theorem dJ0_init_db425_0 : decode cJ0_init_db425 0 = .ok (.aload_n 0, 1) := by decide +kernel
theorem dJ0_init_db425_1 : decode cJ0_init_db425 1 = .ok (.invokespecial 1, 3) := by decide +kernel
theorem dJ0_init_db425_10 : decode cJ0_init_db425 10 = .ok (.invokevirtual 549, 3) := by decide +kernel
theorem dJ0_init_db425_13 : decode cJ0_init_db425 13 = .ok (.istore 4, 2) := by decide +kernel
theorem dJ0_init_db425_15 : decode cJ0_init_db425 15 = .ok (.aload_n 1, 1) := by decide +kernel
theorem dJ0_init_db425_16 : decode cJ0_init_db425 16 = .ok (.invokevirtual 1047, 3) := by decide +kernel
theorem dJ0_init_db425_19 : decode cJ0_init_db425 19 = .ok (.ifCond .eq 22, 3) := by decide +kernel
theorem dJ0_init_db425_22 : decode cJ0_init_db425 22 = .ok (.aload_n 0, 1) := by decide +kernel
theorem dJ0_init_db425_23 : decode cJ0_init_db425 23 = .ok (.iconst 0, 1) := by decide +kernel
theorem dJ0_init_db425_24 : decode cJ0_init_db425 24 = .ok (.putfield 15, 3) := by decide +kernel
theorem dJ0_init_db425_27 : decode cJ0_init_db425 27 = .ok (.aload_n 0, 1) := by decide +kernel
theorem dJ0_init_db425_28 : decode cJ0_init_db425 28 = .ok (.aload_n 3, 1) := by decide +kernel
theorem dJ0_init_db425_29 : decode cJ0_init_db425 29 = .ok (.iconst 0, 1) := by decide +kernel
theorem dJ0_init_db425_30 : decode cJ0_init_db425 30 = .ok (.iload 4, 2) := by decide +kernel
theorem dJ0_init_db425_32 : decode cJ0_init_db425 32 = .ok (.invokestatic 54, 3) := by decide +kernel
theorem dJ0_init_db425_35 : decode cJ0_init_db425 35 = .ok (.putfield 9, 3) := by decide +kernel
theorem dJ0_init_db425_38 : decode cJ0_init_db425 38 = .ok (.goto 59, 3) := by decide +kernel
theorem dJ0_init_db425_4 : decode cJ0_init_db425 4 = .ok (.aload_n 1, 1) := by decide +kernel
theorem dJ0_init_db425_5 : decode cJ0_init_db425 5 = .ok (.invokevirtual 552, 3) := by decide +kernel
theorem dJ0_init_db425_8 : decode cJ0_init_db425 8 = .ok (.astore_n 3, 1) := by decide +kernel
theorem dJ0_init_db425_9 : decode cJ0_init_db425 9 = .ok (.aload_n 1, 1) := by decide +kernel
theorem dJ0_init_db425_97 : decode cJ0_init_db425 97 = .ok (.return_, 1) := by decide +kernel
theorem dJ4_toString_0e30d_0 : decode cJ4_toString_0e30d 0 = .ok (.new 18, 3) := by decide +kernel
theorem dJ4_toString_0e30d_3 : decode cJ4_toString_0e30d 3 = .ok (.dup, 1) := by decide +kernel
theorem dJ4_toString_0e30d_4 : decode cJ4_toString_0e30d 4 = .ok (.aload_n 0, 1) := by decide +kernel
theorem dJ4_toString_0e30d_5 : decode cJ4_toString_0e30d 5 = .ok (.invokespecial 137, 3) := by decide +kernel
theorem dJ4_toString_0e30d_8 : decode cJ4_toString_0e30d 8 = .ok (.areturn, 1) := by decide +kernel
theorem dJ7_checkLength_df160_0 : decode cJ7_checkLength_df160 0 = .ok (.iload_n 1, 1) := by decide +kernel
theorem dJ7_checkLength_df160_1 : decode cJ7_checkLength_df160 1 = .ok (.iload_n 0, 1) := by decide +kernel
theorem dJ7_checkLength_df160_2 : decode cJ7_checkLength_df160 2 = .ok (.if_icmp .ge 35, 3) := by decide +kernel
theorem dJ7_checkLength_df160_37 : decode cJ7_checkLength_df160 37 = .ok (.return_, 1) := by decide +kernel
theorem dJ7_copyOfRangeByte_39247_0 : decode cJ7_copyOfRangeByte_39247 0 = .ok (.iload_n 1, 1) := by decide +kernel
theorem dJ7_copyOfRangeByte_39247_1 : decode cJ7_copyOfRangeByte_39247 1 = .ok (.iload_n 2, 1) := by decide +kernel
theorem dJ7_copyOfRangeByte_39247_10 : decode cJ7_copyOfRangeByte_39247 10 = .ok (.newarray .byte, 2) := by decide +kernel
theorem dJ7_copyOfRangeByte_39247_12 : decode cJ7_copyOfRangeByte_39247 12 = .ok (.astore 4, 2) := by decide +kernel
theorem dJ7_copyOfRangeByte_39247_14 : decode cJ7_copyOfRangeByte_39247 14 = .ok (.aload_n 0, 1) := by decide +kernel
theorem dJ7_copyOfRangeByte_39247_15 : decode cJ7_copyOfRangeByte_39247 15 = .ok (.iload_n 1, 1) := by decide +kernel
theorem dJ7_copyOfRangeByte_39247_16 : decode cJ7_copyOfRangeByte_39247 16 = .ok (.aload 4, 2) := by decide +kernel
theorem dJ7_copyOfRangeByte_39247_18 : decode cJ7_copyOfRangeByte_39247 18 = .ok (.iconst 0, 1) := by decide +kernel
theorem dJ7_copyOfRangeByte_39247_19 : decode cJ7_copyOfRangeByte_39247 19 = .ok (.aload_n 0, 1) := by decide +kernel
theorem dJ7_copyOfRangeByte_39247_2 : decode cJ7_copyOfRangeByte_39247 2 = .ok (.invokestatic 343, 3) := by decide +kernel
theorem dJ7_copyOfRangeByte_39247_20 : decode cJ7_copyOfRangeByte_39247 20 = .ok (.arraylength, 1) := by decide +kernel
theorem dJ7_copyOfRangeByte_39247_21 : decode cJ7_copyOfRangeByte_39247 21 = .ok (.iload_n 1, 1) := by decide +kernel
theorem dJ7_copyOfRangeByte_39247_22 : decode cJ7_copyOfRangeByte_39247 22 = .ok (.isub, 1) := by decide +kernel
theorem dJ7_copyOfRangeByte_39247_23 : decode cJ7_copyOfRangeByte_39247 23 = .ok (.iload_n 3, 1) := by decide +kernel
theorem dJ7_copyOfRangeByte_39247_24 : decode cJ7_copyOfRangeByte_39247 24 = .ok (.invokestatic 304, 3) := by decide +kernel
theorem dJ7_copyOfRangeByte_39247_27 : decode cJ7_copyOfRangeByte_39247 27 = .ok (.invokestatic 150, 3) := by decide +kernel
theorem dJ7_copyOfRangeByte_39247_30 : decode cJ7_copyOfRangeByte_39247 30 = .ok (.aload 4, 2) := by decide +kernel
theorem dJ7_copyOfRangeByte_39247_32 : decode cJ7_copyOfRangeByte_39247 32 = .ok (.areturn, 1) := by decide +kernel
theorem dJ7_copyOfRangeByte_39247_5 : decode cJ7_copyOfRangeByte_39247 5 = .ok (.iload_n 2, 1) := by decide +kernel
theorem dJ7_copyOfRangeByte_39247_6 : decode cJ7_copyOfRangeByte_39247 6 = .ok (.iload_n 1, 1) := by decide +kernel
theorem dJ7_copyOfRangeByte_39247_7 : decode cJ7_copyOfRangeByte_39247 7 = .ok (.isub, 1) := by decide +kernel
theorem dJ7_copyOfRangeByte_39247_8 : decode cJ7_copyOfRangeByte_39247 8 = .ok (.istore_n 3, 1) := by decide +kernel
theorem dJ7_copyOfRangeByte_39247_9 : decode cJ7_copyOfRangeByte_39247 9 = .ok (.iload_n 3, 1) := by decide +kernel
theorem dJ7_copyOfRange_39247_0 : decode cJ7_copyOfRange_39247 0 = .ok (.iload_n 1, 1) := by decide +kernel
theorem dJ7_copyOfRange_39247_1 : decode cJ7_copyOfRange_39247 1 = .ok (.ifCond .ne 9, 3) := by decide +kernel
theorem dJ7_copyOfRange_39247_10 : decode cJ7_copyOfRange_39247 10 = .ok (.aload_n 0, 1) := by decide +kernel
theorem dJ7_copyOfRange_39247_11 : decode cJ7_copyOfRange_39247 11 = .ok (.iload_n 1, 1) := by decide +kernel
theorem dJ7_copyOfRange_39247_12 : decode cJ7_copyOfRange_39247 12 = .ok (.iload_n 2, 1) := by decide +kernel
theorem dJ7_copyOfRange_39247_13 : decode cJ7_copyOfRange_39247 13 = .ok (.invokestatic 339, 3) := by decide +kernel
theorem dJ7_copyOfRange_39247_16 : decode cJ7_copyOfRange_39247 16 = .ok (.areturn, 1) := by decide +kernel
theorem dJ7_copyOfRange_39247_4 : decode cJ7_copyOfRange_39247 4 = .ok (.iload_n 2, 1) := by decide +kernel
theorem dJ7_copyOfRange_39247_5 : decode cJ7_copyOfRange_39247 5 = .ok (.aload_n 0, 1) := by decide +kernel
theorem dJ7_copyOfRange_39247_6 : decode cJ7_copyOfRange_39247 6 = .ok (.arraylength, 1) := by decide +kernel
theorem dJ7_copyOfRange_39247_7 : decode cJ7_copyOfRange_39247 7 = .ok (.if_icmp .eq 10, 3) := by decide +kernel
theorem j_sub0 (x : Int32) : x - 0 = x := by simp
def jF3 (sb v st sz : Nat) : Nat → Prop := fun q => q = sb ∨ q = v ∨ q = st ∨ sz ≤ q
theorem jF_D3 {sb v st sz : Nat} {e1 e2 e3 : va_E} (h : va_D (fun _ => True) [(sb, e1), (v, e2), (st, e3)]) : va_D (jF3 sb v st sz) [(sb, e1), (v, e2), (st, e3)] := ⟨h.1, fun k q hk => by
  match k with
  | 0 => cases hk; exact Or.inl rfl
  | 1 => cases hk; exact Or.inr (Or.inl rfl)
  | 2 => cases hk; exact Or.inr (Or.inr (Or.inl rfl))
  | k + 3 => cases hk⟩
theorem jF3_sub {sb v st sz sz' : Nat} (hs : sz ≤ sz') : ∀ q, jF3 sb v st sz' q → jF3 sb v st sz q := fun q h => by
  rcases h with h | h | h | h
  · exact Or.inl h
  · exact Or.inr (Or.inl h)
  · exact Or.inr (Or.inr (Or.inl h))
  · exact Or.inr (Or.inr (Or.inr (Nat.le_trans hs h)))
theorem jF3_F {sb v st sz sz' : Nat} (hst : jF sb v sz st) (hs : sz ≤ sz') : ∀ q, jF3 sb v st sz' q → jF sb v sz q := fun q h => by
  rcases h with rfl | rfl | rfl | h
  · exact Or.inl rfl
  · exact Or.inr (Or.inl rfl)
  · exact hst
  · exact Or.inr (Or.inr (Nat.le_trans hs h))
section
variable {z : Nat} {ro : Nat → Nat} {cA : FieldType → ClassId} {D DJ : va_G} {roArr : Nat → Option (Nat × (Nat → Int32))}
set_option maxHeartbeats 4000000 in
set_option maxRecDepth 100000 in
theorem jm_chk (l : Launch) {n : Nat} (hn : n ≤ 120) : Met l yJ7_checkLength_df160 (jWs yJ7_checkLength_df160 cJ7_checkLength_df160 2 none) ({ frames := 1, cells := 0, slots := 0, locals := 12 }) (va_Pc [.int 0, .int (nI n)] (fun U => True)) (gQ0) 0 0 (fun _ => False) := by
  refine Met.ofW (cc := cJ7_checkLength_df160) (maxL := 2) (ret := none) (by decide) rfl ?_
  intro p e s m args below meth c s₁ B hml hv
  obtain ⟨rfl, -⟩ := hv
  have hx := B.exec
  have hb := B.bytes
  have hr := B.returns
  have hlocks := B.notSynchronized
  have hts0 := atoms_spec (ws := jWs yJ7_checkLength_df160 cJ7_checkLength_df160 2 none) B.pre
  have hts : ∀ w ∈ jw, w.before _ s = true := fun w h => hts0 w (List.mem_cons_of_mem _ h)
  have hown : s.vm.findClass RJ7 = some m.cls := findClass_of_methodNamed B.named
  have hl := lv_entry ([.int 0, .int (nI n)]) (n := 2) (Nat.le_of_ble_eq_true rfl)
  rw [lg_entry_eq]
  generalize (lg_sl ([.int 0, .int (nI n)]) ++ List.replicate (2 - (lg_sl ([.int 0, .int (nI n)])).length) Slot.unset).toArray = ls at hl ⊢
  have hl : lv_has ls 2 [(0, .int 0), (1, .int (nI n))] := hl
  refine lv_iload_n hx hb dJ7_checkLength_df160_0 rfl (lv_at hl 1 rfl) ?_
  refine lv_iload_n hx hb dJ7_checkLength_df160_1 rfl (lv_at hl 0 rfl) ?_
  refine lv_icmp_ge (tgt := 37) hx hb dJ7_checkLength_df160_2 (by decide) (fun _ => ?_) (fun h0 => absurd (nI_pos' (by omega)) h0)
  exact W.vret hx hb hr (fun t ht hW => ⟨rfl, ht⟩) (fun q hq => absurd hq List.not_mem_nil) dJ7_checkLength_df160_37

set_option maxHeartbeats 4000000 in
set_option maxRecDepth 100000 in
/-- copyOfRangeByte -/
theorem jm_cprb (l : Launch) {sb v st M sz n : Nat} {ml : Int32} {a : Nat → Int32} (hn : n ≤ 120) (hnm : n < M) (hm : M ≤ 250) (hfit : sb_Fit a) (hF : ∀ q, jF3 sb v st sz q → gA z ro q) : Met l yJ7_copyOfRangeByte_39247 (jWs yJ7_copyOfRangeByte_39247 cJ7_copyOfRangeByte_39247 5 (some (.array .byte))) ({ frames := 2, cells := 1, slots := 250, locals := 60 }) (va_Pc [.ref v, .int 0, .int (nI n)] (fun U => jPre z ro cA D roArr DJ sz [jS sb v ml (nI n), jV (cA .byte) v a M, (st, .inr (1, [.null, .int 0, .int 0, .int 0]))] U)) (va_Qr (fun _ : Unit => True) (fun _ r t => va_P DJ jCl [jS sb v ml (nI n), jV (cA .byte) v a M, (st, .inr (1, [.null, .int 0, .int 0, .int 0])), jV (cA .byte) r (va_cpy a (fun _ => 0) 0 0 n) n] t.heap ∧ va_D (jF3 sb v st sz) [jS sb v ml (nI n), jV (cA .byte) v a M, (st, .inr (1, [.null, .int 0, .int 0, .int 0])), jV (cA .byte) r (va_cpy a (fun _ => 0) 0 0 n) n]) (jF3 sb v st sz)) 1 250 (jF3 sb v st sz) := by
  refine Met.ofW (cc := cJ7_copyOfRangeByte_39247) (maxL := 5) (ret := (some (.array .byte))) (by decide) rfl ?_
  intro p e s m args below meth c s₁ B hml hv
  obtain ⟨rfl, ⟨hE, hsz, hK, hP, hD0⟩⟩ := hv
  have hx := B.exec
  have hb := B.bytes
  have hr := B.returns
  have hlocks := B.notSynchronized
  have hts0 := atoms_spec (ws := jWs yJ7_copyOfRangeByte_39247 cJ7_copyOfRangeByte_39247 5 (some (.array .byte))) B.pre
  have hts : ∀ w ∈ jw, w.before _ s = true := fun w h => hts0 w (List.mem_cons_of_mem _ h)
  have hown : s.vm.findClass RJ7 = some m.cls := findClass_of_methodNamed B.named
  subst hsz
  have hD := jF_D3 (sz := s.heap.size) hD0
  have hA : ∀ q : Nat, s.heap.size ≤ q → jF3 sb v st s.heap.size q := fun q h => Or.inr (Or.inr (Or.inr h))
  have hS : va_S (jF3 sb v st s.heap.size) s.heap s.heap [] := va_S.rf
  have hG := hS.up hF
  have hl := lv_entry ([.ref v, .int 0, .int (nI n)]) (n := 5) (Nat.le_of_ble_eq_true rfl)
  rw [lg_entry_eq]
  generalize (lg_sl ([.ref v, .int 0, .int (nI n)]) ++ List.replicate (5 - (lg_sl ([.ref v, .int 0, .int (nI n)])).length) Slot.unset).toArray = ls at hl ⊢
  have hl : lv_has ls 5 [(0, .ref v), (1, .int 0), (2, .int (nI n))] := hl
  refine lv_iload_n hx hb dJ7_copyOfRangeByte_39247_0 rfl (lv_at hl 1 rfl) ?_
  refine lv_iload_n hx hb dJ7_copyOfRangeByte_39247_1 rfl (lv_at hl 2 rfl) ?_
  refine g_call0 (va_runS (n := 2) (As := [.int 0, .int (nI n)]) (rest := []) ⟨hx, hb, hml, hown, hts⟩ (jm_chk l (n := n) hn) (va_cwS 2 hts (jGood (List.forall_mem_cons.mpr ⟨jwt 1518 (by decide +kernel) rfl, List.forall_mem_cons.mpr ⟨jwt 1519 (by decide +kernel) rfl, List.forall_mem_cons.mpr ⟨jwt 21 (by decide +kernel) rfl, List.forall_mem_cons.mpr ⟨jwt 1520 (by decide +kernel) rfl, fun w h => h⟩⟩⟩⟩)) rfl rfl rfl (by decide +kernel) ⟨Nat.le_of_ble_eq_true rfl, Nat.le_of_ble_eq_true rfl⟩) ⟨fun a U g mk q => q, fun U hU hW => ⟨rfl, trivial⟩⟩ rfl rfl hl.1 rfl (lv_room (Nat.le_of_ble_eq_true rfl)) dJ7_copyOfRangeByte_39247_2 ⟨Nat.le_of_ble_eq_true rfl, Nat.le_of_ble_eq_true rfl⟩) ?_
  refine lv_iload_n hx hb dJ7_copyOfRangeByte_39247_5 rfl (lv_at hl 2 rfl) ?_
  refine lv_iload_n hx hb dJ7_copyOfRangeByte_39247_6 rfl (lv_at hl 1 rfl) ?_
  refine lv_isub hx hb dJ7_copyOfRangeByte_39247_7 ?_
  refine W.eq (g2 := F0 m 8 ls [.int (nI n)]) (by rw [show (((nI n) - (0 : Int32) : Int32)) = nI n from j_sub0 (nI n)]) ?_
  refine lv_istore_n (nL := 5) hx hb dJ7_copyOfRangeByte_39247_8 rfl hl (by decide) rfl (fun ls hl => ?_)
  have hl : lv_has ls 5 [(3, .int (nI n)), (0, .ref v), (1, .int 0), (2, .int (nI n))] := hl
  refine lv_iload_n hx hb dJ7_copyOfRangeByte_39247_9 rfl (lv_at hl 0 rfl) ?_
  refine j_newb hx hb (hts (.arrayClass .byte) (jwt 748 (by decide +kernel) rfl)) hK hP hD hS hA (n := (nI n)) (N' := n) (nI_pos (by omega)) (nI_clamp (by omega)) (by omega) (Nat.le_of_ble_eq_true rfl) (by show 0 + n ≤ 250; omega) dJ7_copyOfRangeByte_39247_10 (fun r1 H hq0 hP hD hS => ?_)
  have hP : va_P DJ jCl [(sb, .inr (0, [.ref v, .int 0, .int ml, .int (nI n)])), (v, .inl (cA .byte, M, .inl a)), (st, .inr (1, [.null, .int 0, .int 0, .int 0])), (r1, .inl (cA .byte, n, .inl fun _ => 0))] H := hP
  have hD : va_D (jF3 sb v st s.heap.size) [(sb, .inr (0, [.ref v, .int 0, .int ml, .int (nI n)])), (v, .inl (cA .byte, M, .inl a)), (st, .inr (1, [.null, .int 0, .int 0, .int 0])), (r1, .inl (cA .byte, n, .inl fun _ => 0))] := hD
  have hG := hS.up hF
  refine lv_astore (nL := 5) hx hb dJ7_copyOfRangeByte_39247_12 hl (by decide) rfl (fun ls hl => ?_)
  have hl : lv_has ls 5 [(4, .ref r1), (3, .int (nI n)), (0, .ref v), (1, .int 0), (2, .int (nI n))] := hl
  refine lv_aload_n hx hb dJ7_copyOfRangeByte_39247_14 rfl (lv_at hl 2 rfl) ?_
  refine lv_iload_n hx hb dJ7_copyOfRangeByte_39247_15 rfl (lv_at hl 3 rfl) ?_
  refine lv_aload hx hb dJ7_copyOfRangeByte_39247_16 (lv_at hl 0 rfl) ?_
  refine lv_iconst (v := 0) hx hb dJ7_copyOfRangeByte_39247_18 (by decide) ?_
  refine lv_aload_n hx hb dJ7_copyOfRangeByte_39247_19 rfl (lv_at hl 2 rfl) ?_
  refine va_alen hx hb hK hP 1 0 rfl rfl (v := nI M) rfl dJ7_copyOfRangeByte_39247_20 ?_
  refine lv_iload_n hx hb dJ7_copyOfRangeByte_39247_21 rfl (lv_at hl 3 rfl) ?_
  refine lv_isub hx hb dJ7_copyOfRangeByte_39247_22 ?_
  refine W.eq (g2 := F0 m 23 ls [.int (nI M), .int 0, .ref r1, .int 0, .ref v]) (by rw [show (((nI M) - (0 : Int32) : Int32)) = nI M from j_sub0 (nI M)]) ?_
  refine lv_iload_n hx hb dJ7_copyOfRangeByte_39247_23 rfl (lv_at hl 1 rfl) ?_
  refine va_mmin hx hb (hml.trans hl.1.symm) hown (hts (.methodLink RJ7 304 Lib.Math.min.name) (jwt 1378 (by decide +kernel) rfl)) (hts (.static Lib.Math.min.name) (jwt 422 (by decide +kernel) rfl)) (hts (.initialized "java/lang/Math") (jwt 16 (by decide +kernel) rfl)) (hts (.code Lib.Math.min.name Lib.Math.min.code 2 (some .int)) (jwt 423 (by decide +kernel) rfl)) (Nat.le_of_ble_eq_true rfl) (Nat.le_of_ble_eq_true rfl) (Nat.le_of_ble_eq_true rfl) (by show 0 + n ≤ 250; omega) dJ7_copyOfRangeByte_39247_24 ?_
  rw [show (if nI n < nI M then nI n else nI M : Int32) = nI n from if_pos (nI_lt hnm (by omega))]
  refine va_copyi hx hb (hml.trans hl.1.symm) hown (hts (.methodLink RJ7 150 arraycopyName) (jwt 1379 (by decide +kernel) rfl)) (hts (.native arraycopyName) (jwt 696 (by decide +kernel) rfl)) (hts (.static arraycopyName) (jwt 695 (by decide +kernel) rfl)) (hts (.initialized "java/lang/System") (jwt 17 (by decide +kernel) rfl)) hK hP hD hS 1 3 0 0 rfl rfl rfl rfl rfl (by decide) (by decide) (nI_pos (by omega)) (by rw [nI_clamp (by omega), sb_cl0]; omega) (by rw [nI_clamp (by omega), sb_cl0]; omega) (fun i _ => hfit _) (Nat.le_of_ble_eq_true rfl) (Nat.le_of_ble_eq_true rfl) dJ7_copyOfRangeByte_39247_27 (fun H locs hP hD hS => ?_)
  rw [sb_cl0, nI_clamp (by omega)] at hP hD
  have hP : va_P DJ jCl [(sb, .inr (0, [.ref v, .int 0, .int ml, .int (nI n)])), (v, .inl (cA .byte, M, .inl a)), (st, .inr (1, [.null, .int 0, .int 0, .int 0])), (r1, .inl (cA .byte, n, .inl (va_cpy a (fun _ => 0) 0 0 n)))] H := hP
  have hD : va_D (jF3 sb v st s.heap.size) [(sb, .inr (0, [.ref v, .int 0, .int ml, .int (nI n)])), (v, .inl (cA .byte, M, .inl a)), (st, .inr (1, [.null, .int 0, .int 0, .int 0])), (r1, .inl (cA .byte, n, .inl (va_cpy a (fun _ => 0) 0 0 n)))] := hD
  have hG := hS.up hF
  refine lv_aload hx hb dJ7_copyOfRangeByte_39247_30 (lv_at hl 0 rfl) ?_
  refine W.widen (k := 1) (n := 250) (Nat.le_of_ble_eq_true rfl) (by omega) ?_
  exact W.aret hx hb hr (Or.inr ⟨_, rfl⟩) (Or.inr ⟨_, rfl⟩) (fun t ht hW => ⟨⟨(), r1, rfl, trivial, by rw [ht]; exact hP, hD⟩, hS.F ht⟩) hS.2.2 dJ7_copyOfRangeByte_39247_32

set_option maxHeartbeats 4000000 in
set_option maxRecDepth 100000 in
/-- copyOfRange -/
theorem jm_cpr (l : Launch) {sb v st M sz n : Nat} {ml : Int32} {a : Nat → Int32} (hn : n ≤ 120) (hnm : n < M) (hm : M ≤ 250) (hfit : sb_Fit a) (hF : ∀ q, jF3 sb v st sz q → gA z ro q) : Met l yJ7_copyOfRange_39247 (jWs yJ7_copyOfRange_39247 cJ7_copyOfRange_39247 3 (some (.array .byte))) ({ frames := 3, cells := 1, slots := 250, locals := 100 }) (va_Pc [.ref v, .int 0, .int (nI n)] (fun U => jPre z ro cA D roArr DJ sz [jS sb v ml (nI n), jV (cA .byte) v a M, (st, .inr (1, [.null, .int 0, .int 0, .int 0]))] U)) (va_Qr (fun _ : Unit => True) (fun _ r t => va_P DJ jCl [jS sb v ml (nI n), jV (cA .byte) v a M, (st, .inr (1, [.null, .int 0, .int 0, .int 0])), jV (cA .byte) r (va_cpy a (fun _ => 0) 0 0 n) n] t.heap ∧ va_D (jF3 sb v st sz) [jS sb v ml (nI n), jV (cA .byte) v a M, (st, .inr (1, [.null, .int 0, .int 0, .int 0])), jV (cA .byte) r (va_cpy a (fun _ => 0) 0 0 n) n]) (jF3 sb v st sz)) 1 250 (jF3 sb v st sz) := by
  refine Met.ofW (cc := cJ7_copyOfRange_39247) (maxL := 3) (ret := (some (.array .byte))) (by decide) rfl ?_
  intro p e s m args below meth c s₁ B hml hv
  obtain ⟨rfl, ⟨hE, hsz, hK, hP, hD0⟩⟩ := hv
  have hx := B.exec
  have hb := B.bytes
  have hr := B.returns
  have hlocks := B.notSynchronized
  have hts0 := atoms_spec (ws := jWs yJ7_copyOfRange_39247 cJ7_copyOfRange_39247 3 (some (.array .byte))) B.pre
  have hts : ∀ w ∈ jw, w.before _ s = true := fun w h => hts0 w (List.mem_cons_of_mem _ h)
  have hown : s.vm.findClass RJ7 = some m.cls := findClass_of_methodNamed B.named
  subst hsz
  have hD := jF_D3 (sz := s.heap.size) hD0
  have hA : ∀ q : Nat, s.heap.size ≤ q → jF3 sb v st s.heap.size q := fun q h => Or.inr (Or.inr (Or.inr h))
  have hS : va_S (jF3 sb v st s.heap.size) s.heap s.heap [] := va_S.rf
  have hG := hS.up hF
  have hSS : ∀ q, jF3 sb v st s.heap.size q → jF3 sb v st s.heap.size q := fun _ h => h
  have hl := lv_entry ([.ref v, .int 0, .int (nI n)]) (n := 3) (Nat.le_of_ble_eq_true rfl)
  rw [lg_entry_eq]
  generalize (lg_sl ([.ref v, .int 0, .int (nI n)]) ++ List.replicate (3 - (lg_sl ([.ref v, .int 0, .int (nI n)])).length) Slot.unset).toArray = ls at hl ⊢
  have hl : lv_has ls 3 [(0, .ref v), (1, .int 0), (2, .int (nI n))] := hl
  refine lv_iload_n hx hb dJ7_copyOfRange_39247_0 rfl (lv_at hl 1 rfl) ?_
  refine lv_if_ne (tgt := 10) hx hb dJ7_copyOfRange_39247_1 (by decide) (fun h0 => absurd rfl h0) (fun _ => ?_)
  refine lv_iload_n hx hb dJ7_copyOfRange_39247_4 rfl (lv_at hl 2 rfl) ?_
  refine lv_aload_n hx hb dJ7_copyOfRange_39247_5 rfl (lv_at hl 0 rfl) ?_
  refine va_alen hx hb hK hP 1 0 rfl rfl (v := nI M) rfl dJ7_copyOfRange_39247_6 ?_
  refine lv_icmp_eq (tgt := 17) hx hb dJ7_copyOfRange_39247_7 (by decide) (fun h0 => absurd h0 (fun z9 => by have := (nI_eq (by omega) (by omega)).mp (show nI n = nI M from z9); omega)) (fun _ => ?_)
  refine lv_aload_n hx hb dJ7_copyOfRange_39247_10 rfl (lv_at hl 0 rfl) ?_
  refine lv_iload_n hx hb dJ7_copyOfRange_39247_11 rfl (lv_at hl 1 rfl) ?_
  refine lv_iload_n hx hb dJ7_copyOfRange_39247_12 rfl (lv_at hl 2 rfl) ?_
  have hSub := hSS
  refine va_callr (va_runS (n := 3) (As := [.ref v, .int 0, .int (nI n)]) (rest := []) ⟨hx, hb, hml, hown, hts⟩ (jm_cprb (z := z) (ro := ro) (cA := cA) (D := D) (DJ := DJ) (roArr := roArr) l (sb := sb) (v := v) (st := st) (M := M) (sz := s.heap.size) (n := n) (ml := ml) (a := a) hn hnm hm hfit hF) (va_cwS 3 hts (jGood (List.forall_mem_cons.mpr ⟨jwt 1515 (by decide +kernel) rfl, List.forall_mem_cons.mpr ⟨jwt 1516 (by decide +kernel) rfl, List.forall_mem_cons.mpr ⟨jwt 21 (by decide +kernel) rfl, List.forall_mem_cons.mpr ⟨jwt 1517 (by decide +kernel) rfl, fun w h => h⟩⟩⟩⟩)) rfl rfl rfl (by decide +kernel) ⟨Nat.le_of_ble_eq_true rfl, Nat.le_of_ble_eq_true rfl⟩) ⟨fun a U g mk q => ⟨q.1, jPre.blind q.2⟩, fun U hU hW => ⟨rfl, jPre.to hU hW hE hG hK hP hD⟩⟩ rfl rfl hl.1 rfl (lv_room (Nat.le_of_ble_eq_true rfl)) dJ7_copyOfRange_39247_13 ⟨Nat.le_of_ble_eq_true rfl, Nat.le_of_ble_eq_true rfl⟩) hS (fun q _ h => hSub q h) hSub (fun u ra t H locs ht hvm hpost hB1 hz1 hk1 hS => ?_)
  obtain ⟨hP1, hD1⟩ := hB1
  rw [ht] at hP1
  replace hD := hD1.weaken (fun _ q _ h => hSub _ h)
  have hP := hP1
  have hP : va_P DJ jCl [(sb, .inr (0, [.ref v, .int 0, .int ml, .int (nI n)])), (v, .inl (cA .byte, M, .inl a)), (st, .inr (1, [.null, .int 0, .int 0, .int 0])), (ra, .inl (cA .byte, n, .inl (va_cpy a (fun _ => 0) 0 0 n)))] H := hP
  have hD : va_D (jF3 sb v st s.heap.size) [(sb, .inr (0, [.ref v, .int 0, .int ml, .int (nI n)])), (v, .inl (cA .byte, M, .inl a)), (st, .inr (1, [.null, .int 0, .int 0, .int 0])), (ra, .inl (cA .byte, n, .inl (va_cpy a (fun _ => 0) 0 0 n)))] := hD
  have hG := hS.up hF
  refine W.widen (k := 1) (n := 250) (Nat.le_of_ble_eq_true rfl) (by omega) ?_
  exact W.aret hx hb hr (Or.inr ⟨_, rfl⟩) (Or.inr ⟨_, rfl⟩) (fun t ht hW => ⟨⟨(), ra, rfl, trivial, by rw [ht]; exact hP, hD⟩, hS.F ht⟩) hS.2.2 dJ7_copyOfRange_39247_16

set_option maxHeartbeats 4000000 in
set_option maxRecDepth 100000 in
/-- String(AbstractStringBuilder, Void) -/
theorem jm_str0 (l : Launch) {sb v st M sz n : Nat} {ml : Int32} {a : Nat → Int32} (hn : n ≤ 120) (hnm : n < M) (hm : M ≤ 250) (hfit : sb_Fit a) (hF : ∀ q, jF3 sb v st sz q → gA z ro q) : Met l yJ0_init_db425 (jWs yJ0_init_db425 cJ0_init_db425 5 none) ({ frames := 5, cells := 1, slots := 250, locals := 180 }) (va_Pc [.ref st, .ref sb, .null] (fun U => jPre z ro cA D roArr DJ sz [jS sb v ml (nI n), jV (cA .byte) v a M, (st, .inr (1, [.null, .int 0, .int 0, .int 0]))] U)) (va_Qv (fun _ : Nat => True) (fun r t => va_P DJ jCl [jS sb v ml (nI n), jV (cA .byte) v a M, (st, .inr (1, [.ref r, .int 0, .int 0, .int 0])), jV (cA .byte) r (va_cpy a (fun _ => 0) 0 0 n) n] t.heap ∧ va_D (jF3 sb v st sz) [jS sb v ml (nI n), jV (cA .byte) v a M, (st, .inr (1, [.ref r, .int 0, .int 0, .int 0])), jV (cA .byte) r (va_cpy a (fun _ => 0) 0 0 n) n]) (jF3 sb v st sz)) 1 250 (jF3 sb v st sz) := by
  refine Met.ofW (cc := cJ0_init_db425) (maxL := 5) (ret := none) (by decide) rfl ?_
  intro p e s m args below meth c s₁ B hml hv
  obtain ⟨rfl, ⟨hE, hsz, hK, hP, hD0⟩⟩ := hv
  have hx := B.exec
  have hb := B.bytes
  have hr := B.returns
  have hlocks := B.notSynchronized
  have hts0 := atoms_spec (ws := jWs yJ0_init_db425 cJ0_init_db425 5 none) B.pre
  have hts : ∀ w ∈ jw, w.before _ s = true := fun w h => hts0 w (List.mem_cons_of_mem _ h)
  have hown : s.vm.findClass RJ0 = some m.cls := findClass_of_methodNamed B.named
  subst hsz
  have hD := jF_D3 (sz := s.heap.size) hD0
  have hA : ∀ q : Nat, s.heap.size ≤ q → jF3 sb v st s.heap.size q := fun q h => Or.inr (Or.inr (Or.inr h))
  have hS : va_S (jF3 sb v st s.heap.size) s.heap s.heap [] := va_S.rf
  have hG := hS.up hF
  have hin : meth.name = "<init>" := (name_of_methodNamed B.named B.method).1
  have hl := lv_entry ([.ref st, .ref sb, .null]) (n := 5) (Nat.le_of_ble_eq_true rfl)
  rw [lg_entry_eq]
  generalize (lg_sl ([.ref st, .ref sb, .null]) ++ List.replicate (5 - (lg_sl ([.ref st, .ref sb, .null])).length) Slot.unset).toArray = ls at hl ⊢
  have hl : lv_has ls 5 [(0, .ref st), (1, .ref sb), (2, .null)] := hl
  refine lv_aload_n hx hb dJ0_init_db425_0 rfl (lv_at hl 0 rfl) ?_
  refine W.objInit hx hb hown (hts (.methodLink RJ0 1 objectInit) (jwt 1497 (by decide +kernel) rfl)) (hts (.instanceMethod objectInit) (jwt 35 (by decide +kernel) rfl)) (hts (.code objectInit ⟨#[0xb1]⟩ 1 none) (jwt 36 (by decide +kernel) rfl)) rfl (by rw [hml]; exact hl.1) rfl dJ0_init_db425_1 (Nat.le_of_ble_eq_true rfl) (Nat.le_of_ble_eq_true rfl) ?_
  refine W.eq (g2 := F0 m 4 ls []) rfl ?_
  refine lv_aload_n hx hb dJ0_init_db425_4 rfl (lv_at hl 1 rfl) ?_
  refine j_calla (va_runU (x := yJ5_getValue_6d5f1) (n := 0) (C := RJ4) (owner := RJ5) (As := []) (rest := []) ⟨hx, hb, hml, hown, hts⟩ (jm_getValue (z := z) (ro := ro) (cA := cA) (D := D) (DJ := DJ) (roArr := roArr) l (sb := sb) (v := v) (M := M) (sz := s.heap.size) (ml := ml) (n := nI n) (a := a)) (va_cwU 0 hts (jGood (List.forall_mem_cons.mpr ⟨jwt 1498 (by decide +kernel) rfl, List.forall_mem_cons.mpr ⟨jwt 1500 (by decide +kernel) rfl, List.forall_mem_cons.mpr ⟨jwt 1501 (by decide +kernel) rfl, List.forall_mem_cons.mpr ⟨jwt 1499 (by decide +kernel) rfl, List.forall_mem_cons.mpr ⟨jwt 18 (by decide +kernel) rfl, List.forall_mem_cons.mpr ⟨jwt 1502 (by decide +kernel) rfl, fun w h => h⟩⟩⟩⟩⟩⟩)) rfl rfl rfl rfl (by decide +kernel) ⟨Nat.le_of_ble_eq_true rfl, Nat.le_of_ble_eq_true rfl⟩) ⟨fun a U g mk q => ⟨q.1, jPre.blind q.2⟩, va_recv (ci := 0) (q0 := 0) hK hP rfl rfl, fun U hU hW => ⟨rfl, jPre.to hU hW hE hG hK (hP.sub (ws' := jW (cA .byte) sb v ml (nI n) a M) [0, 1] rfl) (hD.sub (ws' := jW (cA .byte) sb v ml (nI n) a M) [0, 1] (by decide) rfl)⟩⟩ rfl rfl hl.1 rfl (lv_room (Nat.le_of_ble_eq_true rfl)) dJ0_init_db425_5 ⟨Nat.le_of_ble_eq_true rfl, Nat.le_of_ble_eq_true rfl⟩) ?_
  refine lv_astore_n (nL := 5) hx hb dJ0_init_db425_8 rfl hl (by decide) rfl (fun ls hl => ?_)
  have hl : lv_has ls 5 [(3, .ref v), (0, .ref st), (1, .ref sb), (2, .null)] := hl
  refine lv_aload_n hx hb dJ0_init_db425_9 rfl (lv_at hl 2 rfl) ?_
  refine g_calln (va_runU (x := yJ5_length_8abf5) (n := 0) (C := RJ4) (owner := RJ5) (As := []) (rest := []) ⟨hx, hb, hml, hown, hts⟩ (jm_len4 (z := z) (ro := ro) (cA := cA) (D := D) (DJ := DJ) (roArr := roArr) l (sb := sb) (v := v) (M := M) (sz := s.heap.size) (ml := ml) (n := nI n) (a := a)) (va_cwO 0 hts (jGood (List.forall_mem_cons.mpr ⟨jwt 1503 (by decide +kernel) rfl, List.forall_mem_cons.mpr ⟨jwt 1505 (by decide +kernel) rfl, List.forall_mem_cons.mpr ⟨jwt 1504 (by decide +kernel) rfl, List.forall_mem_cons.mpr ⟨jwt 1506 (by decide +kernel) rfl, List.forall_mem_cons.mpr ⟨jwt 1507 (by decide +kernel) rfl, List.forall_mem_cons.mpr ⟨jwt 19 (by decide +kernel) rfl, List.forall_mem_cons.mpr ⟨jwt 1508 (by decide +kernel) rfl, fun w h => h⟩⟩⟩⟩⟩⟩⟩)) rfl rfl rfl (b0 := cJ5_length_8abf5) (m0 := 1) (r0 := (some .int)) (h0 := jwt 1510 (by decide +kernel) rfl) (by decide +kernel) ⟨Nat.le_of_ble_eq_true rfl, Nat.le_of_ble_eq_true rfl⟩) ⟨fun a U g mk q => ⟨q.1, jPre.blind q.2⟩, va_recv (ci := 0) (q0 := 0) hK hP rfl rfl, fun U hU hW => ⟨rfl, jPre.to hU hW hE hG hK (hP.sub (ws' := jW (cA .byte) sb v ml (nI n) a M) [0, 1] rfl) (hD.sub (ws' := jW (cA .byte) sb v ml (nI n) a M) [0, 1] (by decide) rfl)⟩⟩ rfl rfl hl.1 rfl (lv_room (Nat.le_of_ble_eq_true rfl)) dJ0_init_db425_10 ⟨Nat.le_of_ble_eq_true rfl, Nat.le_of_ble_eq_true rfl⟩) (fun x hx0 => ?_)
  subst hx0
  refine lv_istore (nL := 5) hx hb dJ0_init_db425_13 hl (by decide) rfl (fun ls hl => ?_)
  have hl : lv_has ls 5 [(4, .int (nI n)), (3, .ref v), (0, .ref st), (1, .ref sb), (2, .null)] := hl
  refine lv_aload_n hx hb dJ0_init_db425_15 rfl (lv_at hl 3 rfl) ?_
  refine g_calln (va_runU (x := yJ5_isLatin1_aae02) (n := 0) (C := RJ4) (owner := RJ5) (As := []) (rest := []) ⟨hx, hb, hml, hown, hts⟩ (jm_isLatin1 (z := z) (ro := ro) (cA := cA) (D := D) (DJ := DJ) (roArr := roArr) l (sb := sb) (v := v) (M := M) (sz := s.heap.size) (ml := ml) (n := nI n) (a := a)) (va_cwU 0 hts (jGood (List.forall_mem_cons.mpr ⟨jwt 1511 (by decide +kernel) rfl, List.forall_mem_cons.mpr ⟨jwt 1382 (by decide +kernel) rfl, List.forall_mem_cons.mpr ⟨jwt 1383 (by decide +kernel) rfl, List.forall_mem_cons.mpr ⟨jwt 1381 (by decide +kernel) rfl, List.forall_mem_cons.mpr ⟨jwt 18 (by decide +kernel) rfl, List.forall_mem_cons.mpr ⟨jwt 1384 (by decide +kernel) rfl, fun w h => h⟩⟩⟩⟩⟩⟩)) rfl rfl rfl rfl (by decide +kernel) ⟨Nat.le_of_ble_eq_true rfl, Nat.le_of_ble_eq_true rfl⟩) ⟨fun a U g mk q => ⟨q.1, jPre.blind q.2⟩, va_recv (ci := 0) (q0 := 0) hK hP rfl rfl, fun U hU hW => ⟨rfl, jPre.to hU hW hE hG hK (hP.sub (ws' := jW (cA .byte) sb v ml (nI n) a M) [0, 1] rfl) (hD.sub (ws' := jW (cA .byte) sb v ml (nI n) a M) [0, 1] (by decide) rfl)⟩⟩ rfl rfl hl.1 rfl (lv_room (Nat.le_of_ble_eq_true rfl)) dJ0_init_db425_16 ⟨Nat.le_of_ble_eq_true rfl, Nat.le_of_ble_eq_true rfl⟩) (fun x hx0 => ?_)
  subst hx0
  refine lv_if_eq (tgt := 41) hx hb dJ0_init_db425_19 (by decide) (fun h0 => absurd h0 (by decide)) (fun _ => ?_)
  refine lv_aload_n hx hb dJ0_init_db425_22 rfl (lv_at hl 2 rfl) ?_
  refine lv_iconst (v := 0) hx hb dJ0_init_db425_23 (by decide) ?_
  refine va_putF (D := DJ) (ci := 1) (v := .int 0) (ty := .byte) (C := RJ0) (T := TJ0) (N := 4) hx hb hts j0_in tyJ0 tyJ0_ok nmJ0 hown hK hP hD hS 2 rfl rfl 1 (by decide) (hts (.fieldLink RJ0 15 "java/lang/String" "coder" "B") (jwt 1545 (by decide +kernel) rfl)) (fun x hx => hx) rfl hin rfl (by decide +kernel) rfl rfl (Nat.le_of_ble_eq_true rfl) dJ0_init_db425_24 (fun H locs hP hD hS => ?_)
  have hP : va_P DJ jCl [(sb, .inr (0, [.ref v, .int 0, .int ml, .int (nI n)])), (v, .inl (cA .byte, M, .inl a)), (st, .inr (1, [.null, .int 0, .int 0, .int 0]))] H := hP
  have hD : va_D (jF3 sb v st s.heap.size) [(sb, .inr (0, [.ref v, .int 0, .int ml, .int (nI n)])), (v, .inl (cA .byte, M, .inl a)), (st, .inr (1, [.null, .int 0, .int 0, .int 0]))] := hD
  have hG := hS.up hF
  refine lv_aload_n hx hb dJ0_init_db425_27 rfl (lv_at hl 2 rfl) ?_
  refine lv_aload_n hx hb dJ0_init_db425_28 rfl (lv_at hl 1 rfl) ?_
  refine lv_iconst (v := 0) hx hb dJ0_init_db425_29 (by decide) ?_
  refine lv_iload hx hb dJ0_init_db425_30 (lv_at hl 0 rfl) ?_
  have hSub : ∀ q, jF3 sb v st H.size q → jF3 sb v st s.heap.size q := jF3_sub hS.1
  refine va_callr (va_runS (n := 3) (As := [.ref v, .int 0, .int (nI n)]) (rest := [.ref st]) ⟨hx, hb, hml, hown, hts⟩ (jm_cpr (z := z) (ro := ro) (cA := cA) (D := D) (DJ := DJ) (roArr := roArr) l (sb := sb) (v := v) (st := st) (M := M) (sz := H.size) (n := n) (ml := ml) (a := a) hn hnm hm hfit (fun q h => hF q (hSub q h))) (va_cwS 3 hts (jGood (List.forall_mem_cons.mpr ⟨jwt 1512 (by decide +kernel) rfl, List.forall_mem_cons.mpr ⟨jwt 1513 (by decide +kernel) rfl, List.forall_mem_cons.mpr ⟨jwt 21 (by decide +kernel) rfl, List.forall_mem_cons.mpr ⟨jwt 1514 (by decide +kernel) rfl, fun w h => h⟩⟩⟩⟩)) rfl rfl rfl (by decide +kernel) ⟨Nat.le_of_ble_eq_true rfl, Nat.le_of_ble_eq_true rfl⟩) ⟨fun a U g mk q => ⟨q.1, jPre.blind q.2⟩, fun U hU hW => ⟨rfl, jPre.to hU hW hE hG hK hP hD⟩⟩ rfl rfl hl.1 rfl (lv_room (Nat.le_of_ble_eq_true rfl)) dJ0_init_db425_32 ⟨Nat.le_of_ble_eq_true rfl, Nat.le_of_ble_eq_true rfl⟩) hS (fun q _ h => hSub q h) hSub (fun u ra t H locs ht hvm hpost hB1 hz1 hk1 hS => ?_)
  obtain ⟨hP1, hD1⟩ := hB1
  rw [ht] at hP1
  replace hD := hD1.weaken (fun _ q _ h => hSub _ h)
  have hP := hP1
  have hP : va_P DJ jCl [(sb, .inr (0, [.ref v, .int 0, .int ml, .int (nI n)])), (v, .inl (cA .byte, M, .inl a)), (st, .inr (1, [.null, .int 0, .int 0, .int 0])), (ra, .inl (cA .byte, n, .inl (va_cpy a (fun _ => 0) 0 0 n)))] H := hP
  have hD : va_D (jF3 sb v st s.heap.size) [(sb, .inr (0, [.ref v, .int 0, .int ml, .int (nI n)])), (v, .inl (cA .byte, M, .inl a)), (st, .inr (1, [.null, .int 0, .int 0, .int 0])), (ra, .inl (cA .byte, n, .inl (va_cpy a (fun _ => 0) 0 0 n)))] := hD
  have hG := hS.up hF
  refine va_putF (D := DJ) (ci := 1) (v := .ref ra) (ty := .array .byte) (C := RJ0) (T := TJ0) (N := 4) hx hb hts j0_in tyJ0 tyJ0_ok nmJ0 hown hK hP hD hS 2 rfl rfl 0 (by decide) (hts (.fieldLink RJ0 9 "java/lang/String" "value" "[B") (jwt 1544 (by decide +kernel) rfl)) (fun x hx => hx) rfl hin rfl (by decide +kernel) rfl rfl (Nat.le_of_ble_eq_true rfl) dJ0_init_db425_35 (fun H locs hP hD hS => ?_)
  have hP : va_P DJ jCl [(sb, .inr (0, [.ref v, .int 0, .int ml, .int (nI n)])), (v, .inl (cA .byte, M, .inl a)), (st, .inr (1, [.ref ra, .int 0, .int 0, .int 0])), (ra, .inl (cA .byte, n, .inl (va_cpy a (fun _ => 0) 0 0 n)))] H := hP
  have hD : va_D (jF3 sb v st s.heap.size) [(sb, .inr (0, [.ref v, .int 0, .int ml, .int (nI n)])), (v, .inl (cA .byte, M, .inl a)), (st, .inr (1, [.ref ra, .int 0, .int 0, .int 0])), (ra, .inl (cA .byte, n, .inl (va_cpy a (fun _ => 0) 0 0 n)))] := hD
  have hG := hS.up hF
  refine lv_goto (tgt := 97) hx hb dJ0_init_db425_38 (by decide) ?_
  refine W.widen (k := 1) (n := 250) (Nat.le_of_ble_eq_true rfl) (by omega) ?_
  exact W.vret hx hb hr (fun t ht hW => ⟨⟨ra, rfl, trivial, by rw [ht]; exact hP, hD⟩, hS.F ht⟩) hS.2.2 dJ0_init_db425_97

set_option maxHeartbeats 4000000 in
set_option maxRecDepth 100000 in
/-- String(StringBuilder) -/
theorem jm_str1 (l : Launch) {sb v st M sz n : Nat} {ml : Int32} {a : Nat → Int32} (hn : n ≤ 120) (hnm : n < M) (hm : M ≤ 250) (hfit : sb_Fit a) (hF : ∀ q, jF3 sb v st sz q → gA z ro q) : Met l yJ0_init_81219 (jWs yJ0_init_81219 cJ0_init_81219 2 none) ({ frames := 6, cells := 1, slots := 250, locals := 220 }) (va_Pc [.ref st, .ref sb] (fun U => jPre z ro cA D roArr DJ sz [jS sb v ml (nI n), jV (cA .byte) v a M, (st, .inr (1, [.null, .int 0, .int 0, .int 0]))] U)) (va_Qv (fun _ : Nat => True) (fun r t => va_P DJ jCl [jS sb v ml (nI n), jV (cA .byte) v a M, (st, .inr (1, [.ref r, .int 0, .int 0, .int 0])), jV (cA .byte) r (va_cpy a (fun _ => 0) 0 0 n) n] t.heap ∧ va_D (jF3 sb v st sz) [jS sb v ml (nI n), jV (cA .byte) v a M, (st, .inr (1, [.ref r, .int 0, .int 0, .int 0])), jV (cA .byte) r (va_cpy a (fun _ => 0) 0 0 n) n]) (jF3 sb v st sz)) 1 250 (jF3 sb v st sz) := by
  refine Met.ofW (cc := cJ0_init_81219) (maxL := 2) (ret := none) (by decide) rfl ?_
  intro p e s m args below meth c s₁ B hml hv
  obtain ⟨rfl, ⟨hE, hsz, hK, hP, hD0⟩⟩ := hv
  have hx := B.exec
  have hb := B.bytes
  have hr := B.returns
  have hlocks := B.notSynchronized
  have hts0 := atoms_spec (ws := jWs yJ0_init_81219 cJ0_init_81219 2 none) B.pre
  have hts : ∀ w ∈ jw, w.before _ s = true := fun w h => hts0 w (List.mem_cons_of_mem _ h)
  have hown : s.vm.findClass RJ0 = some m.cls := findClass_of_methodNamed B.named
  subst hsz
  have hD := jF_D3 (sz := s.heap.size) hD0
  have hA : ∀ q : Nat, s.heap.size ≤ q → jF3 sb v st s.heap.size q := fun q h => Or.inr (Or.inr (Or.inr h))
  have hS : va_S (jF3 sb v st s.heap.size) s.heap s.heap [] := va_S.rf
  have hG := hS.up hF
  have hSS : ∀ q, jF3 sb v st s.heap.size q → jF3 sb v st s.heap.size q := fun _ h => h
  have hl := lv_entry ([.ref st, .ref sb]) (n := 2) (Nat.le_of_ble_eq_true rfl)
  rw [lg_entry_eq]
  generalize (lg_sl ([.ref st, .ref sb]) ++ List.replicate (2 - (lg_sl ([.ref st, .ref sb])).length) Slot.unset).toArray = ls at hl ⊢
  have hl : lv_has ls 2 [(0, .ref st), (1, .ref sb)] := hl
  refine lv_aload_n hx hb dJ0_init_81219_0 rfl (lv_at hl 0 rfl) ?_
  refine lv_aload_n hx hb dJ0_init_81219_1 rfl (lv_at hl 1 rfl) ?_
  refine lv_null hx hb dJ0_init_81219_2 ?_
  have hSub := hSS
  refine va_callv (va_runI (n := 2) (As := [.ref sb, .null]) (rest := []) ⟨hx, hb, hml, hown, hts⟩ (jm_str0 (z := z) (ro := ro) (cA := cA) (D := D) (DJ := DJ) (roArr := roArr) l (sb := sb) (v := v) (st := st) (M := M) (sz := s.heap.size) (n := n) (ml := ml) (a := a) hn hnm hm hfit hF) (cwI 2 hts (jGood (List.forall_mem_cons.mpr ⟨jwt 1496 (by decide +kernel) rfl, fun w h => h⟩)) rfl rfl rfl (hts (.initialized RJ0) (jwt 12 (by decide +kernel) rfl)) (hts (.methodLink RJ0 489 yJ0_init_db425) (jwt 1494 (by decide +kernel) rfl)) (hts (.instanceMethod yJ0_init_db425) (jwt 1495 (by decide +kernel) rfl)) rfl (by decide +kernel) ⟨Nat.le_of_ble_eq_true rfl, Nat.le_of_ble_eq_true rfl⟩) ⟨fun a U g mk q => ⟨q.1, jPre.blind q.2⟩, fun U hU hW => ⟨rfl, jPre.to hU hW hE hG hK hP hD⟩⟩ rfl rfl hl.1 rfl (lv_room (Nat.le_of_ble_eq_true rfl)) dJ0_init_81219_3 ⟨Nat.le_of_ble_eq_true rfl, Nat.le_of_ble_eq_true rfl⟩) hS (fun q _ h => hSub q h) hSub (fun u t H locs ht hvm hpost hB1 hz1 hk1 hS => ?_)
  obtain ⟨hP1, hD1⟩ := hB1
  rw [ht] at hP1
  replace hD := hD1.weaken (fun _ q _ h => hSub _ h)
  have hP := hP1
  have hP : va_P DJ jCl [(sb, .inr (0, [.ref v, .int 0, .int ml, .int (nI n)])), (v, .inl (cA .byte, M, .inl a)), (st, .inr (1, [.ref u, .int 0, .int 0, .int 0])), (u, .inl (cA .byte, n, .inl (va_cpy a (fun _ => 0) 0 0 n)))] H := hP
  have hD : va_D (jF3 sb v st s.heap.size) [(sb, .inr (0, [.ref v, .int 0, .int ml, .int (nI n)])), (v, .inl (cA .byte, M, .inl a)), (st, .inr (1, [.ref u, .int 0, .int 0, .int 0])), (u, .inl (cA .byte, n, .inl (va_cpy a (fun _ => 0) 0 0 n)))] := hD
  have hG := hS.up hF
  refine W.widen (k := 1) (n := 250) (Nat.le_of_ble_eq_true rfl) (by omega) ?_
  exact W.vret hx hb hr (fun t ht hW => ⟨⟨u, rfl, trivial, by rw [ht]; exact hP, hD⟩, hS.F ht⟩) hS.2.2 dJ0_init_81219_6

set_option maxHeartbeats 4000000 in
set_option maxRecDepth 100000 in
/-- StringBuilder.toString() -/
theorem jm_toStr (l : Launch) {sb v M sz n : Nat} {ml : Int32} {a : Nat → Int32} (hn : n ≤ 120) (hnm : n < M) (hm : M ≤ 250) (hfit : sb_Fit a) (hF : ∀ q, jF sb v sz q → gA z ro q) : Met l yJ4_toString_0e30d (jWs yJ4_toString_0e30d cJ4_toString_0e30d 1 (some (.object "java/lang/String"))) ({ frames := 7, cells := 2, slots := 300, locals := 260 }) (va_Pc [.ref sb] (fun U => jPre z ro cA D roArr DJ sz (jW (cA .byte) sb v ml (nI n) a M) U)) (va_Qr (fun _ : Nat => True) (fun r st t => va_P DJ jCl [jS sb v ml (nI n), jV (cA .byte) v a M, (st, .inr (1, [.ref r, .int 0, .int 0, .int 0])), jV (cA .byte) r (va_cpy a (fun _ => 0) 0 0 n) n] t.heap ∧ va_D (jF sb v sz) [jS sb v ml (nI n), jV (cA .byte) v a M, (st, .inr (1, [.ref r, .int 0, .int 0, .int 0])), jV (cA .byte) r (va_cpy a (fun _ => 0) 0 0 n) n]) (jF sb v sz)) 2 300 (jF sb v sz) := by
  refine Met.ofW (cc := cJ4_toString_0e30d) (maxL := 1) (ret := (some (.object "java/lang/String"))) (by decide) rfl ?_
  intro p e s m args below meth c s₁ B hml hv
  obtain ⟨rfl, ⟨hE, hsz, hK, hP, hD0⟩⟩ := hv
  have hx := B.exec
  have hb := B.bytes
  have hr := B.returns
  have hlocks := B.notSynchronized
  have hts0 := atoms_spec (ws := jWs yJ4_toString_0e30d cJ4_toString_0e30d 1 (some (.object "java/lang/String"))) B.pre
  have hts : ∀ w ∈ jw, w.before _ s = true := fun w h => hts0 w (List.mem_cons_of_mem _ h)
  have hown : s.vm.findClass RJ4 = some m.cls := findClass_of_methodNamed B.named
  subst hsz
  have hD := jF_D (sz := s.heap.size) hD0
  have hA : ∀ q : Nat, s.heap.size ≤ q → jF sb v s.heap.size q := fun q h => Or.inr (Or.inr h)
  have hS : va_S (jF sb v s.heap.size) s.heap s.heap [] := va_S.rf
  have hG := hS.up hF
  have hl := lv_entry ([.ref sb]) (n := 1) (Nat.le_of_ble_eq_true rfl)
  rw [lg_entry_eq]
  generalize (lg_sl ([.ref sb]) ++ List.replicate (1 - (lg_sl ([.ref sb])).length) Slot.unset).toArray = ls at hl ⊢
  have hl : lv_has ls 1 [(0, .ref sb)] := hl
  have h_1 : 1 ≤ 2 := by decide
  refine va_new (ci := 1) (fs := [.null, .int 0, .int 0, .int 0]) (C := RJ0) (T := TJ0) (N := 4) hx hb hts j0_in tyJ0 tyJ0_ok hown (hts (.classLink RJ4 18 RJ0) (jwt 1489 (by decide +kernel) rfl)) (hts (.instantiable RJ0 4) (jwt 1490 (by decide +kernel) rfl)) (hts (.initialized RJ0) (jwt 12 (by decide +kernel) rfl)) hK hP hD hS hA rfl (fun j hj => by rcases (show j = 0 ∨ j = 1 ∨ j = 2 ∨ j = 3 by omega) with rfl | rfl | rfl | rfl <;> rfl) (Nat.le_of_ble_eq_true rfl) (Nat.le_of_ble_eq_true rfl) dJ4_toString_0e30d_0 (fun st H hP hD hS => ?_)
  have hP : va_P DJ jCl [(sb, .inr (0, [.ref v, .int 0, .int ml, .int (nI n)])), (v, .inl (cA .byte, M, .inl a)), (st, .inr (1, [.null, .int 0, .int 0, .int 0]))] H := hP
  have hD : va_D (jF sb v s.heap.size) [(sb, .inr (0, [.ref v, .int 0, .int ml, .int (nI n)])), (v, .inl (cA .byte, M, .inl a)), (st, .inr (1, [.null, .int 0, .int 0, .int 0]))] := hD
  have hG := hS.up hF
  refine lv_dup hx hb dJ4_toString_0e30d_3 rfl ?_
  refine lv_aload_n hx hb dJ4_toString_0e30d_4 rfl (lv_at hl 0 rfl) ?_
  have hSub : ∀ q, jF3 sb v st H.size q → jF sb v s.heap.size q := jF3_F (hD.2 2 _ rfl) hS.1
  refine va_callv (va_runI (n := 1) (As := [.ref sb]) (rest := [.ref st]) ⟨hx, hb, hml, hown, hts⟩ (jm_str1 (z := z) (ro := ro) (cA := cA) (D := D) (DJ := DJ) (roArr := roArr) l (st := st) (sb := sb) (v := v) (M := M) (sz := H.size) (ml := ml) (n := n) (a := a) hn hnm hm hfit (fun q h => hF q (hSub q h))) (cwI 1 hts (jGood (List.forall_mem_cons.mpr ⟨jwt 1493 (by decide +kernel) rfl, fun w h => h⟩)) rfl rfl rfl (hts (.initialized RJ0) (jwt 12 (by decide +kernel) rfl)) (hts (.methodLink RJ4 137 yJ0_init_81219) (jwt 1491 (by decide +kernel) rfl)) (hts (.instanceMethod yJ0_init_81219) (jwt 1492 (by decide +kernel) rfl)) rfl (by decide +kernel) ⟨Nat.le_of_ble_eq_true rfl, Nat.le_of_ble_eq_true rfl⟩) ⟨fun a U g mk q => ⟨q.1, jPre.blind q.2⟩, fun U hU hW => ⟨rfl, jPre.to hU hW hE hG hK hP hD⟩⟩ rfl rfl hl.1 rfl (lv_room (Nat.le_of_ble_eq_true rfl)) dJ4_toString_0e30d_5 ⟨Nat.le_of_ble_eq_true rfl, Nat.le_of_ble_eq_true rfl⟩) hS (fun q _ h => hSub q h) hSub (fun u t H locs ht hvm hpost hB1 hz1 hk1 hS => ?_)
  obtain ⟨hP1, hD1⟩ := hB1
  rw [ht] at hP1
  replace hD := hD1.weaken (fun _ q _ h => hSub _ h)
  have hP := hP1
  have hP : va_P DJ jCl [(sb, .inr (0, [.ref v, .int 0, .int ml, .int (nI n)])), (v, .inl (cA .byte, M, .inl a)), (st, .inr (1, [.ref u, .int 0, .int 0, .int 0])), (u, .inl (cA .byte, n, .inl (va_cpy a (fun _ => 0) 0 0 n)))] H := hP
  have hD : va_D (jF sb v s.heap.size) [(sb, .inr (0, [.ref v, .int 0, .int ml, .int (nI n)])), (v, .inl (cA .byte, M, .inl a)), (st, .inr (1, [.ref u, .int 0, .int 0, .int 0])), (u, .inl (cA .byte, n, .inl (va_cpy a (fun _ => 0) 0 0 n)))] := hD
  have hG := hS.up hF
  refine W.widen (k := 2) (n := 300) (Nat.le_of_ble_eq_true rfl) (by omega) ?_
  exact W.aret hx hb hr (Or.inl ⟨_, rfl⟩) (Or.inr ⟨_, rfl⟩) (fun t ht hW => ⟨⟨u, st, rfl, trivial, by rw [ht]; exact hP, hD⟩, hS.F ht⟩) hS.2.2 dJ4_toString_0e30d_8
end
