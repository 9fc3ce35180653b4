/-! ===== the JDK: append of a digit, of a letter, by wip/p60/jm5.py ===== -/
theorem dJ4_append_bf812_0 : decode cJ4_append_bf812 0 = .ok (.aload_n 0, 1) := by decide +kernel
theorem dJ4_append_bf812_1 : decode cJ4_append_bf812 1 = .ok (.iload_n 1, 1) := by decide +kernel
theorem dJ4_append_bf812_2 : decode cJ4_append_bf812 2 = .ok (.invokespecial 53, 3) := by decide +kernel
theorem dJ4_append_bf812_5 : decode cJ4_append_bf812 5 = .ok (.pop, 1) := by decide +kernel
theorem dJ4_append_bf812_6 : decode cJ4_append_bf812 6 = .ok (.aload_n 0, 1) := by decide +kernel
theorem dJ4_append_bf812_7 : decode cJ4_append_bf812 7 = .ok (.areturn, 1) := by decide +kernel
theorem dJ4_append_cf468_0 : decode cJ4_append_cf468 0 = .ok (.aload_n 0, 1) := by decide +kernel
theorem dJ4_append_cf468_1 : decode cJ4_append_cf468 1 = .ok (.iload_n 1, 1) := by decide +kernel
theorem dJ4_append_cf468_2 : decode cJ4_append_cf468 2 = .ok (.invokespecial 50, 3) := by decide +kernel
theorem dJ4_append_cf468_5 : decode cJ4_append_cf468 5 = .ok (.pop, 1) := by decide +kernel
theorem dJ4_append_cf468_6 : decode cJ4_append_cf468 6 = .ok (.aload_n 0, 1) := by decide +kernel
theorem dJ4_append_cf468_7 : decode cJ4_append_cf468 7 = .ok (.areturn, 1) := by decide +kernel
theorem dJ5_append_3fe6f_0 : decode cJ5_append_3fe6f 0 = .ok (.aload_n 0, 1) := by decide +kernel
theorem dJ5_append_3fe6f_1 : decode cJ5_append_3fe6f 1 = .ok (.aload_n 0, 1) := by decide +kernel
theorem dJ5_append_3fe6f_10 : decode cJ5_append_3fe6f 10 = .ok (.aload_n 0, 1) := by decide +kernel
theorem dJ5_append_3fe6f_11 : decode cJ5_append_3fe6f 11 = .ok (.invokevirtual 83, 3) := by decide +kernel
theorem dJ5_append_3fe6f_14 : decode cJ5_append_3fe6f 14 = .ok (.ifCond .eq 31, 3) := by decide +kernel
theorem dJ5_append_3fe6f_17 : decode cJ5_append_3fe6f 17 = .ok (.iload_n 1, 1) := by decide +kernel
theorem dJ5_append_3fe6f_18 : decode cJ5_append_3fe6f 18 = .ok (.invokestatic 191, 3) := by decide +kernel
theorem dJ5_append_3fe6f_2 : decode cJ5_append_3fe6f 2 = .ok (.getfield 79, 3) := by decide +kernel
theorem dJ5_append_3fe6f_21 : decode cJ5_append_3fe6f 21 = .ok (.ifCond .eq 24, 3) := by decide +kernel
theorem dJ5_append_3fe6f_24 : decode cJ5_append_3fe6f 24 = .ok (.aload_n 0, 1) := by decide +kernel
theorem dJ5_append_3fe6f_25 : decode cJ5_append_3fe6f 25 = .ok (.getfield 15, 3) := by decide +kernel
theorem dJ5_append_3fe6f_28 : decode cJ5_append_3fe6f 28 = .ok (.aload_n 0, 1) := by decide +kernel
theorem dJ5_append_3fe6f_29 : decode cJ5_append_3fe6f 29 = .ok (.dup, 1) := by decide +kernel
theorem dJ5_append_3fe6f_30 : decode cJ5_append_3fe6f 30 = .ok (.getfield 79, 3) := by decide +kernel
theorem dJ5_append_3fe6f_33 : decode cJ5_append_3fe6f 33 = .ok (.dup_x1, 1) := by decide +kernel
theorem dJ5_append_3fe6f_34 : decode cJ5_append_3fe6f 34 = .ok (.iconst 1, 1) := by decide +kernel
theorem dJ5_append_3fe6f_35 : decode cJ5_append_3fe6f 35 = .ok (.iadd, 1) := by decide +kernel
theorem dJ5_append_3fe6f_36 : decode cJ5_append_3fe6f 36 = .ok (.putfield 79, 3) := by decide +kernel
theorem dJ5_append_3fe6f_39 : decode cJ5_append_3fe6f 39 = .ok (.iload_n 1, 1) := by decide +kernel
theorem dJ5_append_3fe6f_40 : decode cJ5_append_3fe6f 40 = .ok (.i2b, 1) := by decide +kernel
theorem dJ5_append_3fe6f_41 : decode cJ5_append_3fe6f 41 = .ok (.bastore, 1) := by decide +kernel
theorem dJ5_append_3fe6f_42 : decode cJ5_append_3fe6f 42 = .ok (.goto 33, 3) := by decide +kernel
theorem dJ5_append_3fe6f_5 : decode cJ5_append_3fe6f 5 = .ok (.iconst 1, 1) := by decide +kernel
theorem dJ5_append_3fe6f_6 : decode cJ5_append_3fe6f 6 = .ok (.iadd, 1) := by decide +kernel
theorem dJ5_append_3fe6f_7 : decode cJ5_append_3fe6f 7 = .ok (.invokevirtual 100, 3) := by decide +kernel
theorem dJ5_append_3fe6f_75 : decode cJ5_append_3fe6f 75 = .ok (.aload_n 0, 1) := by decide +kernel
theorem dJ5_append_3fe6f_76 : decode cJ5_append_3fe6f 76 = .ok (.areturn, 1) := by decide +kernel
theorem dJ5_append_c97b9_0 : decode cJ5_append_c97b9 0 = .ok (.aload_n 0, 1) := by decide +kernel
theorem dJ5_append_c97b9_1 : decode cJ5_append_c97b9 1 = .ok (.getfield 79, 3) := by decide +kernel
theorem dJ5_append_c97b9_10 : decode cJ5_append_c97b9 10 = .ok (.iadd, 1) := by decide +kernel
theorem dJ5_append_c97b9_11 : decode cJ5_append_c97b9 11 = .ok (.istore_n 3, 1) := by decide +kernel
theorem dJ5_append_c97b9_12 : decode cJ5_append_c97b9 12 = .ok (.aload_n 0, 1) := by decide +kernel
theorem dJ5_append_c97b9_13 : decode cJ5_append_c97b9 13 = .ok (.iload_n 3, 1) := by decide +kernel
theorem dJ5_append_c97b9_14 : decode cJ5_append_c97b9 14 = .ok (.invokevirtual 100, 3) := by decide +kernel
theorem dJ5_append_c97b9_17 : decode cJ5_append_c97b9 17 = .ok (.aload_n 0, 1) := by decide +kernel
theorem dJ5_append_c97b9_18 : decode cJ5_append_c97b9 18 = .ok (.invokevirtual 83, 3) := by decide +kernel
theorem dJ5_append_c97b9_21 : decode cJ5_append_c97b9 21 = .ok (.ifCond .eq 16, 3) := by decide +kernel
theorem dJ5_append_c97b9_24 : decode cJ5_append_c97b9 24 = .ok (.iload_n 1, 1) := by decide +kernel
theorem dJ5_append_c97b9_25 : decode cJ5_append_c97b9 25 = .ok (.iload_n 3, 1) := by decide +kernel
theorem dJ5_append_c97b9_26 : decode cJ5_append_c97b9 26 = .ok (.aload_n 0, 1) := by decide +kernel
theorem dJ5_append_c97b9_27 : decode cJ5_append_c97b9 27 = .ok (.getfield 15, 3) := by decide +kernel
theorem dJ5_append_c97b9_30 : decode cJ5_append_c97b9 30 = .ok (.invokestatic 248, 3) := by decide +kernel
theorem dJ5_append_c97b9_33 : decode cJ5_append_c97b9 33 = .ok (.pop, 1) := by decide +kernel
theorem dJ5_append_c97b9_34 : decode cJ5_append_c97b9 34 = .ok (.goto 14, 3) := by decide +kernel
theorem dJ5_append_c97b9_4 : decode cJ5_append_c97b9 4 = .ok (.istore_n 2, 1) := by decide +kernel
theorem dJ5_append_c97b9_48 : decode cJ5_append_c97b9 48 = .ok (.aload_n 0, 1) := by decide +kernel
theorem dJ5_append_c97b9_49 : decode cJ5_append_c97b9 49 = .ok (.iload_n 3, 1) := by decide +kernel
theorem dJ5_append_c97b9_5 : decode cJ5_append_c97b9 5 = .ok (.iload_n 2, 1) := by decide +kernel
theorem dJ5_append_c97b9_50 : decode cJ5_append_c97b9 50 = .ok (.putfield 79, 3) := by decide +kernel
theorem dJ5_append_c97b9_53 : decode cJ5_append_c97b9 53 = .ok (.aload_n 0, 1) := by decide +kernel
theorem dJ5_append_c97b9_54 : decode cJ5_append_c97b9 54 = .ok (.areturn, 1) := by decide +kernel
theorem dJ5_append_c97b9_6 : decode cJ5_append_c97b9 6 = .ok (.iload_n 1, 1) := by decide +kernel
theorem dJ5_append_c97b9_7 : decode cJ5_append_c97b9 7 = .ok (.invokestatic 245, 3) := by decide +kernel
theorem dJ6_getChars_ba4f3_0 : decode cJ6_getChars_ba4f3 0 = .ok (.iload_n 1, 1) := by decide +kernel
theorem dJ6_getChars_ba4f3_1 : decode cJ6_getChars_ba4f3 1 = .ok (.istore 5, 2) := by decide +kernel
theorem dJ6_getChars_ba4f3_104 : decode cJ6_getChars_ba4f3 104 = .ok (.iload 6, 2) := by decide +kernel
theorem dJ6_getChars_ba4f3_106 : decode cJ6_getChars_ba4f3 106 = .ok (.ifCond .eq 12, 3) := by decide +kernel
theorem dJ6_getChars_ba4f3_11 : decode cJ6_getChars_ba4f3 11 = .ok (.iconst 0, 1) := by decide +kernel
theorem dJ6_getChars_ba4f3_118 : decode cJ6_getChars_ba4f3 118 = .ok (.iload 5, 2) := by decide +kernel
theorem dJ6_getChars_ba4f3_12 : decode cJ6_getChars_ba4f3 12 = .ok (.istore 6, 2) := by decide +kernel
theorem dJ6_getChars_ba4f3_120 : decode cJ6_getChars_ba4f3 120 = .ok (.ireturn, 1) := by decide +kernel
theorem dJ6_getChars_ba4f3_14 : decode cJ6_getChars_ba4f3 14 = .ok (.iload 6, 2) := by decide +kernel
theorem dJ6_getChars_ba4f3_16 : decode cJ6_getChars_ba4f3 16 = .ok (.ifCond .ne 6, 3) := by decide +kernel
theorem dJ6_getChars_ba4f3_19 : decode cJ6_getChars_ba4f3 19 = .ok (.iload_n 0, 1) := by decide +kernel
theorem dJ6_getChars_ba4f3_20 : decode cJ6_getChars_ba4f3 20 = .ok (.ineg, 1) := by decide +kernel
theorem dJ6_getChars_ba4f3_21 : decode cJ6_getChars_ba4f3 21 = .ok (.istore_n 0, 1) := by decide +kernel
theorem dJ6_getChars_ba4f3_22 : decode cJ6_getChars_ba4f3 22 = .ok (.iload_n 0, 1) := by decide +kernel
theorem dJ6_getChars_ba4f3_23 : decode cJ6_getChars_ba4f3 23 = .ok (.bipush (-100), 2) := by decide +kernel
theorem dJ6_getChars_ba4f3_25 : decode cJ6_getChars_ba4f3 25 = .ok (.if_icmp .gt 47, 3) := by decide +kernel
theorem dJ6_getChars_ba4f3_3 : decode cJ6_getChars_ba4f3 3 = .ok (.iload_n 0, 1) := by decide +kernel
theorem dJ6_getChars_ba4f3_4 : decode cJ6_getChars_ba4f3 4 = .ok (.ifCond .ge 7, 3) := by decide +kernel
theorem dJ6_getChars_ba4f3_72 : decode cJ6_getChars_ba4f3 72 = .ok (.aload_n 2, 1) := by decide +kernel
theorem dJ6_getChars_ba4f3_73 : decode cJ6_getChars_ba4f3 73 = .ok (.iinc 5 (-1), 3) := by decide +kernel
theorem dJ6_getChars_ba4f3_76 : decode cJ6_getChars_ba4f3 76 = .ok (.iload 5, 2) := by decide +kernel
theorem dJ6_getChars_ba4f3_78 : decode cJ6_getChars_ba4f3 78 = .ok (.getstatic 83, 3) := by decide +kernel
theorem dJ6_getChars_ba4f3_81 : decode cJ6_getChars_ba4f3 81 = .ok (.iload_n 0, 1) := by decide +kernel
theorem dJ6_getChars_ba4f3_82 : decode cJ6_getChars_ba4f3 82 = .ok (.ineg, 1) := by decide +kernel
theorem dJ6_getChars_ba4f3_83 : decode cJ6_getChars_ba4f3 83 = .ok (.baload, 1) := by decide +kernel
theorem dJ6_getChars_ba4f3_84 : decode cJ6_getChars_ba4f3 84 = .ok (.bastore, 1) := by decide +kernel
theorem dJ6_getChars_ba4f3_85 : decode cJ6_getChars_ba4f3 85 = .ok (.iload_n 0, 1) := by decide +kernel
theorem dJ6_getChars_ba4f3_86 : decode cJ6_getChars_ba4f3 86 = .ok (.bipush (-9), 2) := by decide +kernel
theorem dJ6_getChars_ba4f3_88 : decode cJ6_getChars_ba4f3 88 = .ok (.if_icmp .ge 16, 3) := by decide +kernel
theorem j_dg100 : ∀ w, w < 10 → (-100 : Int32) < -(nI w) := by decide +kernel
theorem j_dg9 : ∀ w, w < 10 → (-9 : Int32) ≤ -(nI w) := by decide +kernel
theorem j_neg2 : ∀ w, w < 10 → (-(-(nI w)) : Int32) = nI w := by decide +kernel
theorem j_i2b : ∀ c, c < 128 → (nI c).toInt8.toInt32 = nI c := by decide +kernel
theorem j_nar : ∀ c, c < 128 → vp_nar .byte (nI c) = nI c := by decide +kernel
/-- the digits' letters -/
def jDg (A : Nat → Prop) (U : State) (H : Heap) : Prop := ∃ t, va_Z "java/lang/Integer" "DigitOnes" "[B" (.ref t) A U H ∧ va_T .byte t 100 (fun j => .int (nI (48 + j % 10))) A U H
theorem jDg.up {z : Nat} {ro : Nat → Nat} {s U : State} {H : Heap} {locs : List Loc} (hU : U.heap = H) (hW : s.WarmedH U.vm) (h : jDg (gA z ro) s s.heap) (hS : va_S (gA z ro) s.heap H locs) : jDg (gA z ro) U U.heap := by
  obtain ⟨t, h1, h2⟩ := h
  rw [hU]
  exact ⟨t, (h1.moved hW.alike).kept hS.2.1, (h2.moved hW.alike).kept hS.2.1⟩
section
variable {z : Nat} {ro : Nat → Nat} {cA : FieldType → ClassId} {D DJ : va_G} {roArr : Nat → Option (Nat × (Nat → Int32))}
set_option maxHeartbeats 4000000 in
set_option maxRecDepth 100000 in
/-- Integer.getChars of a digit -/
theorem jm_getChars (l : Launch) {sb v M sz n : Nat} {ml : Int32} {a : Nat → Int32} {w p0 : Nat} (hw : w < 10) (h0 : 0 < p0) (h1 : p0 ≤ M) (hm : M ≤ 250) (hF : ∀ q, jF sb v sz q → gA z ro q) : Met l yJ6_getChars_ba4f3 (jWs yJ6_getChars_ba4f3 cJ6_getChars_ba4f3 7 (some .int)) ({ frames := 1, cells := 0, slots := 0, locals := 12 }) (va_Pc [.int (nI w), .int (nI p0), .ref v] (fun U => jPre z ro cA D roArr DJ sz (jW (cA .byte) sb v ml (nI n) a M) U ∧ jDg (gA z ro) U U.heap)) (va_Qi (fun (_ : Int32) (_ : Unit) => True) (fun _ t => va_P DJ jCl (jW (cA .byte) sb v ml (nI n) (upd a (p0 - 1) (nI (48 + w))) M) t.heap ∧ va_D (jF sb v sz) (jW (cA .byte) sb v ml (nI n) (upd a (p0 - 1) (nI (48 + w))) M)) (jF sb v sz)) 0 0 (jF sb v sz) := by
  refine Met.ofW (cc := cJ6_getChars_ba4f3) (maxL := 7) (ret := (some .int)) (by decide) rfl ?_
  intro p e s m args below meth c s₁ B hml hv
  obtain ⟨rfl, ⟨⟨hE, hsz, hK, hP, hD0⟩, hDg⟩⟩ := hv
  have hx := B.exec
  have hb := B.bytes
  have hr := B.returns
  have hlocks := B.notSynchronized
  have hts0 := atoms_spec (ws := jWs yJ6_getChars_ba4f3 cJ6_getChars_ba4f3 7 (some .int)) B.pre
  have hts : ∀ w ∈ jw, w.before _ s = true := fun w h => hts0 w (List.mem_cons_of_mem _ h)
  have hown : s.vm.findClass RJ6 = some m.cls := findClass_of_methodNamed B.named
  subst hsz
  have hD := jF_D (sz := s.heap.size) hD0
  have hA : ∀ q : Nat, s.heap.size ≤ q → jF sb v s.heap.size q := fun q h => Or.inr (Or.inr h)
  have hS : va_S (jF sb v s.heap.size) s.heap s.heap [] := va_S.rf
  have hG := hS.up hF
  have hDg0 := hDg
  obtain ⟨td, hZd, hTd⟩ := hDg
  have hl := lv_entry ([.int (nI w), .int (nI p0), .ref v]) (n := 7) (Nat.le_of_ble_eq_true rfl)
  rw [lg_entry_eq]
  generalize (lg_sl ([.int (nI w), .int (nI p0), .ref v]) ++ List.replicate (7 - (lg_sl ([.int (nI w), .int (nI p0), .ref v])).length) Slot.unset).toArray = ls at hl ⊢
  have hl : lv_has ls 7 [(0, .int (nI w)), (1, .int (nI p0)), (2, .ref v)] := hl
  refine lv_iload_n hx hb dJ6_getChars_ba4f3_0 rfl (lv_at hl 1 rfl) ?_
  refine lv_istore (nL := 7) hx hb dJ6_getChars_ba4f3_1 hl (by decide) rfl (fun ls hl => ?_)
  have hl : lv_has ls 7 [(5, .int (nI p0)), (0, .int (nI w)), (1, .int (nI p0)), (2, .ref v)] := hl
  refine lv_iload_n hx hb dJ6_getChars_ba4f3_3 rfl (lv_at hl 1 rfl) ?_
  refine lv_if_ge (tgt := 11) hx hb dJ6_getChars_ba4f3_4 (by decide) (fun _ => ?_) (fun h0 => absurd (nI_pos' (by omega)) h0)
  refine lv_iconst (v := 0) hx hb dJ6_getChars_ba4f3_11 (by decide) ?_
  refine lv_istore (nL := 7) hx hb dJ6_getChars_ba4f3_12 hl (by decide) rfl (fun ls hl => ?_)
  have hl : lv_has ls 7 [(6, .int 0), (5, .int (nI p0)), (0, .int (nI w)), (1, .int (nI p0)), (2, .ref v)] := hl
  refine lv_iload hx hb dJ6_getChars_ba4f3_14 (lv_at hl 0 rfl) ?_
  refine lv_if_ne (tgt := 22) hx hb dJ6_getChars_ba4f3_16 (by decide) (fun h0 => absurd rfl h0) (fun _ => ?_)
  refine lv_iload_n hx hb dJ6_getChars_ba4f3_19 rfl (lv_at hl 2 rfl) ?_
  refine lv_ineg hx hb dJ6_getChars_ba4f3_20 ?_
  refine lv_istore_n (nL := 7) hx hb dJ6_getChars_ba4f3_21 rfl hl (by decide) rfl (fun ls hl => ?_)
  have hl : lv_has ls 7 [(0, .int (-(nI w))), (6, .int 0), (5, .int (nI p0)), (1, .int (nI p0)), (2, .ref v)] := hl
  refine lv_iload_n hx hb dJ6_getChars_ba4f3_22 rfl (lv_at hl 0 rfl) ?_
  refine lv_bipush (v := -100) hx hb dJ6_getChars_ba4f3_23 (by decide) ?_
  refine lv_icmp_gt (tgt := 72) hx hb dJ6_getChars_ba4f3_25 (by decide) (fun _ => ?_) (fun h0 => absurd (j_dg100 w hw) h0)
  refine lv_aload_n hx hb dJ6_getChars_ba4f3_72 rfl (lv_at hl 4 rfl) ?_
  refine lv_iinc (nL := 7) (v := nI (p0 - 1)) hx hb dJ6_getChars_ba4f3_73 hl (k := 2) rfl (show nI p0 + Int32.ofInt (-1) = nI (p0 - 1) from sb_m1 h0) (by decide) rfl (fun ls hl => ?_)
  have hl : lv_has ls 7 [(5, .int (nI (p0 - 1))), (0, .int (-(nI w))), (6, .int 0), (1, .int (nI p0)), (2, .ref v)] := hl
  refine lv_iload hx hb dJ6_getChars_ba4f3_76 (lv_at hl 0 rfl) ?_
  refine va_gets hx hb hZd hG hown (hts (.fieldLink RJ6 83 "java/lang/Integer" "DigitOnes" "[B") (jwt 1473 (by decide +kernel) rfl)) (fun x hx => hx) dJ6_getChars_ba4f3_78 ?_
  refine lv_iload_n hx hb dJ6_getChars_ba4f3_81 rfl (lv_at hl 1 rfl) ?_
  refine lv_ineg hx hb dJ6_getChars_ba4f3_82 ?_
  refine W.eq (g2 := F0 m 83 ls [.int (nI w), .ref td, .int (nI (p0 - 1)), .ref v]) (by rw [show ((-(-(nI w)) : Int32)) = nI w from j_neg2 w hw]) ?_
  refine va_tb hx hb hTd hG (vp_in_nI (by omega) (by omega)) (v := .int (nI (48 + w))) (by show Value.int (nI (48 + (nI w).toNatClampNeg % 10)) = _; rw [nI_clamp (by omega), Nat.mod_eq_of_lt hw]) dJ6_getChars_ba4f3_83 ?_
  refine va_bast hx hb hK hP hD hS 1 0 rfl rfl (vp_in_nI (by omega) (by omega)) dJ6_getChars_ba4f3_84 (fun H locs hP hD hS => ?_)
  rw [nI_clamp (by omega), j_nar _ (by omega)] at hP hD
  have hP : va_P DJ jCl [(sb, .inr (0, [.ref v, .int 0, .int ml, .int (nI n)])), (v, .inl (cA .byte, M, .inl (upd a (p0 - 1) (nI (48 + w)))))] H := hP
  have hD : va_D (jF sb v s.heap.size) [(sb, .inr (0, [.ref v, .int 0, .int ml, .int (nI n)])), (v, .inl (cA .byte, M, .inl (upd a (p0 - 1) (nI (48 + w)))))] := hD
  have hG := hS.up hF
  refine lv_iload_n hx hb dJ6_getChars_ba4f3_85 rfl (lv_at hl 1 rfl) ?_
  refine lv_bipush (v := -9) hx hb dJ6_getChars_ba4f3_86 (by decide) ?_
  refine lv_icmp_ge (tgt := 104) hx hb dJ6_getChars_ba4f3_88 (by decide) (fun _ => ?_) (fun h0 => absurd (j_dg9 w hw) h0)
  refine lv_iload hx hb dJ6_getChars_ba4f3_104 (lv_at hl 2 rfl) ?_
  refine lv_if_eq (tgt := 118) hx hb dJ6_getChars_ba4f3_106 (by decide) (fun _ => ?_) (fun h0 => absurd (rfl) h0)
  refine lv_iload hx hb dJ6_getChars_ba4f3_118 (lv_at hl 0 rfl) ?_
  exact W.iret hx hb hr (fun t ht hW => ⟨⟨_, (), rfl, trivial, by rw [ht]; exact hP, hD⟩, hS.F ht⟩) hS.2.2 dJ6_getChars_ba4f3_120

set_option maxHeartbeats 4000000 in
set_option maxRecDepth 100000 in
/-- AbstractStringBuilder.append(int) of a digit -/
theorem jm_app5i (l : Launch) {sb v M sz n : Nat} {ml : Int32} {a : Nat → Int32} {w : Nat} (hw : w < 10) (hn : n + 1 ≤ 120) (hnm : n ≤ M) (hm : M ≤ 250) (hfit : sb_Fit a) (hF : ∀ q, jF sb v sz q → gA z ro q) : Met l yJ5_append_c97b9 (jWs yJ5_append_c97b9 cJ5_append_c97b9 4 (some (.object "java/lang/AbstractStringBuilder"))) ({ frames := 5, cells := 1, slots := 250, locals := 140 }) (va_Pc [.ref sb, .int (nI w)] (fun U => jPre z ro cA D roArr DJ sz (jW (cA .byte) sb v ml (nI n) a M) U ∧ jDg (gA z ro) U U.heap)) (va_Qr (fun u : Nat × Nat × (Nat → Int32) => u.2.1 ≤ 250 ∧ (n + 1 ≤ u.2.1 ∧ u.2.1 = sb_cap (n + 1) M) ∧ sb_Fit u.2.2 ∧ (∀ j, j < n → u.2.2 j = a j) ∧ u.2.2 n = nI (48 + w)) (fun u r t => r = sb ∧ va_P DJ jCl (jW (cA .byte) sb u.1 ml (nI (n + 1)) u.2.2 u.2.1) t.heap ∧ va_D (jF sb v sz) (jW (cA .byte) sb u.1 ml (nI (n + 1)) u.2.2 u.2.1)) (jF sb v sz)) 1 250 (jF sb v sz) := by
  refine Met.ofW (cc := cJ5_append_c97b9) (maxL := 4) (ret := (some (.object "java/lang/AbstractStringBuilder"))) (by decide) rfl ?_
  intro p e s m args below meth c s₁ B hml hv
  obtain ⟨rfl, ⟨⟨hE, hsz, hK, hP, hD0⟩, hDg⟩⟩ := hv
  have hx := B.exec
  have hb := B.bytes
  have hr := B.returns
  have hlocks := B.notSynchronized
  have hts0 := atoms_spec (ws := jWs yJ5_append_c97b9 cJ5_append_c97b9 4 (some (.object "java/lang/AbstractStringBuilder"))) B.pre
  have hts : ∀ w ∈ jw, w.before _ s = true := fun w h => hts0 w (List.mem_cons_of_mem _ h)
  have hown : s.vm.findClass RJ5 = some m.cls := findClass_of_methodNamed B.named
  subst hsz
  have hD := jF_D (sz := s.heap.size) hD0
  have hA : ∀ q : Nat, s.heap.size ≤ q → jF sb v s.heap.size q := fun q h => Or.inr (Or.inr h)
  have hS : va_S (jF sb v s.heap.size) s.heap s.heap [] := va_S.rf
  have hG := hS.up hF
  have hDg0 := hDg
  obtain ⟨td, hZd, hTd⟩ := hDg
  have hl := lv_entry ([.ref sb, .int (nI w)]) (n := 4) (Nat.le_of_ble_eq_true rfl)
  rw [lg_entry_eq]
  generalize (lg_sl ([.ref sb, .int (nI w)]) ++ List.replicate (4 - (lg_sl ([.ref sb, .int (nI w)])).length) Slot.unset).toArray = ls at hl ⊢
  have hl : lv_has ls 4 [(0, .ref sb), (1, .int (nI w))] := hl
  refine lv_aload_n hx hb dJ5_append_c97b9_0 rfl (lv_at hl 0 rfl) ?_
  refine va_get (D := DJ) (ci := 0) (v := .int (nI n)) (C := RJ4) (T := TJ4) (N := 4) hx hb hts j4_in hown hK hP 0 rfl rfl 3 (by decide) (hts (.fieldLink RJ5 79 "java/lang/AbstractStringBuilder" "count" "I") (jwt 1437 (by decide +kernel) rfl)) (fun x hx => hx) rfl dJ5_append_c97b9_1 ?_
  refine lv_istore_n (nL := 4) hx hb dJ5_append_c97b9_4 rfl hl (by decide) rfl (fun ls hl => ?_)
  have hl : lv_has ls 4 [(2, .int (nI n)), (0, .ref sb), (1, .int (nI w))] := hl
  refine lv_iload_n hx hb dJ5_append_c97b9_5 rfl (lv_at hl 0 rfl) ?_
  refine lv_iload_n hx hb dJ5_append_c97b9_6 rfl (lv_at hl 2 rfl) ?_
  refine g_calln (va_runS (n := 1) (As := [.int (nI w)]) (rest := [.int (nI n)]) ⟨hx, hb, hml, hown, hts⟩ (jm_stringSize l (w := w) hw) (va_cwS 1 hts (jGood (List.forall_mem_cons.mpr ⟨jwt 1467 (by decide +kernel) rfl, List.forall_mem_cons.mpr ⟨jwt 1468 (by decide +kernel) rfl, List.forall_mem_cons.mpr ⟨jwt 22 (by decide +kernel) rfl, List.forall_mem_cons.mpr ⟨jwt 1469 (by decide +kernel) rfl, fun w h => h⟩⟩⟩⟩)) rfl rfl rfl (by decide +kernel) ⟨Nat.le_of_ble_eq_true rfl, Nat.le_of_ble_eq_true rfl⟩) ⟨fun a U g mk q => q, fun U hU hW => ⟨rfl, trivial⟩⟩ rfl rfl hl.1 rfl (lv_room (Nat.le_of_ble_eq_true rfl)) dJ5_append_c97b9_7 ⟨Nat.le_of_ble_eq_true rfl, Nat.le_of_ble_eq_true rfl⟩) (fun x hx0 => ?_)
  subst hx0
  refine lv_iadd hx hb dJ5_append_c97b9_10 ?_
  refine W.eq (g2 := F0 m 11 ls [.int (nI (n + 1))]) (by rw [show (((nI n) + (nI 1) : Int32)) = nI (n + 1) from nI_add n 1]) ?_
  refine lv_istore_n (nL := 4) hx hb dJ5_append_c97b9_11 rfl hl (by decide) rfl (fun ls hl => ?_)
  have hl : lv_has ls 4 [(3, .int (nI (n + 1))), (2, .int (nI n)), (0, .ref sb), (1, .int (nI w))] := hl
  refine lv_aload_n hx hb dJ5_append_c97b9_12 rfl (lv_at hl 2 rfl) ?_
  refine lv_iload_n hx hb dJ5_append_c97b9_13 rfl (lv_at hl 0 rfl) ?_
  have hSub := jF_sub (sz := s.heap.size) (hD.2 1 _ rfl) hS.1
  refine va_callv (va_runU (x := yJ5_ensureCapacityInternal_d00df) (n := 1) (C := RJ4) (owner := RJ5) (As := [.int (nI (n + 1))]) (rest := []) ⟨hx, hb, hml, hown, hts⟩ (jm_ensure (z := z) (ro := ro) (cA := cA) (D := D) (DJ := DJ) (roArr := roArr) l (sb := sb) (v := v) (M := M) (sz := s.heap.size) (ml := ml) (n := (nI n)) (a := a) (q := n + 1) hn hm hfit (fun q h => hF q (hSub q h))) (va_cwU 1 hts (jGood (List.forall_mem_cons.mpr ⟨jwt 1352 (by decide +kernel) rfl, List.forall_mem_cons.mpr ⟨jwt 1562 (by decide +kernel) rfl, List.forall_mem_cons.mpr ⟨jwj 0 (by decide +kernel), List.forall_mem_cons.mpr ⟨jwt 1354 (by decide +kernel) rfl, List.forall_mem_cons.mpr ⟨jwt 18 (by decide +kernel) rfl, List.forall_mem_cons.mpr ⟨jwt 1355 (by decide +kernel) rfl, fun w h => h⟩⟩⟩⟩⟩⟩)) rfl rfl rfl rfl (by decide +kernel) ⟨Nat.le_of_ble_eq_true rfl, Nat.le_of_ble_eq_true rfl⟩) ⟨fun a U g mk q => ⟨q.1, jPre.blind q.2⟩, va_recv (ci := 0) (q0 := 0) hK hP rfl rfl, fun U hU hW => ⟨rfl, jPre.to hU hW hE hG hK hP hD⟩⟩ rfl rfl hl.1 rfl (lv_room (Nat.le_of_ble_eq_true rfl)) dJ5_append_c97b9_14 ⟨Nat.le_of_ble_eq_true rfl, Nat.le_of_ble_eq_true rfl⟩) hS (fun q _ h => hSub q h) hSub (fun u t H locs ht hvm hpost hB1 hz1 hk1 hS => ?_)
  obtain ⟨v1, m1, a1⟩ := u
  obtain ⟨q1, ⟨q2, q2b⟩, q3, q4, q5⟩ := hpost
  change m1 ≤ 250 at q1
  change _ ≤ m1 at q2
  obtain ⟨hP1, hD1⟩ := hB1
  rw [ht] at hP1
  replace hD := hD1.weaken (fun _ q _ h => hSub _ h)
  have hP := hP1
  have hP : va_P DJ jCl [(sb, .inr (0, [.ref v1, .int 0, .int ml, .int (nI n)])), (v1, .inl (cA .byte, m1, .inl a1))] H := hP
  have hD : va_D (jF sb v s.heap.size) [(sb, .inr (0, [.ref v1, .int 0, .int ml, .int (nI n)])), (v1, .inl (cA .byte, m1, .inl a1))] := hD
  have hG := hS.up hF
  refine lv_aload_n hx hb dJ5_append_c97b9_17 rfl (lv_at hl 2 rfl) ?_
  refine g_calln (va_runU (x := yJ5_isLatin1_aae02) (n := 0) (C := RJ4) (owner := RJ5) (As := []) (rest := []) ⟨hx, hb, hml, hown, hts⟩ (jm_isLatin1 (z := z) (ro := ro) (cA := cA) (D := D) (DJ := DJ) (roArr := roArr) l (sb := sb) (v := v1) (M := m1) (sz := H.size) (ml := ml) (n := (nI n)) (a := a1)) (va_cwU 0 hts (jGood (List.forall_mem_cons.mpr ⟨jwt 1380 (by decide +kernel) rfl, List.forall_mem_cons.mpr ⟨jwt 1382 (by decide +kernel) rfl, List.forall_mem_cons.mpr ⟨jwt 1383 (by decide +kernel) rfl, List.forall_mem_cons.mpr ⟨jwt 1381 (by decide +kernel) rfl, List.forall_mem_cons.mpr ⟨jwt 18 (by decide +kernel) rfl, List.forall_mem_cons.mpr ⟨jwt 1384 (by decide +kernel) rfl, fun w h => h⟩⟩⟩⟩⟩⟩)) rfl rfl rfl rfl (by decide +kernel) ⟨Nat.le_of_ble_eq_true rfl, Nat.le_of_ble_eq_true rfl⟩) ⟨fun a U g mk q => ⟨q.1, jPre.blind q.2⟩, va_recv (ci := 0) (q0 := 0) hK hP rfl rfl, fun U hU hW => ⟨rfl, jPre.to hU hW hE hG hK hP hD⟩⟩ rfl rfl hl.1 rfl (lv_room (Nat.le_of_ble_eq_true rfl)) dJ5_append_c97b9_18 ⟨Nat.le_of_ble_eq_true rfl, Nat.le_of_ble_eq_true rfl⟩) (fun x hx0 => ?_)
  subst hx0
  refine lv_if_eq (tgt := 37) hx hb dJ5_append_c97b9_21 (by decide) (fun h0 => absurd h0 (by decide)) (fun _ => ?_)
  refine lv_iload_n hx hb dJ5_append_c97b9_24 rfl (lv_at hl 3 rfl) ?_
  refine lv_iload_n hx hb dJ5_append_c97b9_25 rfl (lv_at hl 0 rfl) ?_
  refine lv_aload_n hx hb dJ5_append_c97b9_26 rfl (lv_at hl 2 rfl) ?_
  refine va_get (D := DJ) (ci := 0) (v := .ref v1) (C := RJ4) (T := TJ4) (N := 4) hx hb hts j4_in hown hK hP 0 rfl rfl 0 (by decide) (hts (.fieldLink RJ5 15 "java/lang/AbstractStringBuilder" "value" "[B") (jwt 1434 (by decide +kernel) rfl)) (fun x hx => hx) rfl dJ5_append_c97b9_27 ?_
  have hSub := jF_sub (sz := s.heap.size) (hD.2 1 _ rfl) hS.1
  refine va_calli (va_runS (n := 3) (As := [.int (nI w), .int (nI (n + 1)), .ref v1]) (rest := []) ⟨hx, hb, hml, hown, hts⟩ (jm_getChars (z := z) (ro := ro) (cA := cA) (D := D) (DJ := DJ) (roArr := roArr) l (sb := sb) (v := v1) (M := m1) (sz := H.size) (ml := ml) (n := n) (a := a1) (w := w) (p0 := n + 1) hw (by omega) q2 q1 (fun q h => hF q (hSub q h))) (va_cwS 3 hts (jGood (List.forall_mem_cons.mpr ⟨jwt 1470 (by decide +kernel) rfl, List.forall_mem_cons.mpr ⟨jwt 1471 (by decide +kernel) rfl, List.forall_mem_cons.mpr ⟨jwt 22 (by decide +kernel) rfl, List.forall_mem_cons.mpr ⟨jwt 1472 (by decide +kernel) rfl, fun w h => h⟩⟩⟩⟩)) rfl rfl rfl (by decide +kernel) ⟨Nat.le_of_ble_eq_true rfl, Nat.le_of_ble_eq_true rfl⟩) ⟨fun a U g mk q => ⟨q.1, jPre.blind q.2.1, q.2.2⟩, fun U hU hW => ⟨rfl, jPre.to hU hW hE hG hK hP hD, jDg.up hU hW hDg0 hG⟩⟩ rfl rfl hl.1 rfl (lv_room (Nat.le_of_ble_eq_true rfl)) dJ5_append_c97b9_30 ⟨Nat.le_of_ble_eq_true rfl, Nat.le_of_ble_eq_true rfl⟩) hS (fun q _ h => hSub q h) hSub (fun ri u t H locs ht hvm hpost hB1 hz1 hk1 hS => ?_)
  obtain ⟨hP1, hD1⟩ := hB1
  rw [ht] at hP1
  replace hD := hD1.weaken (fun _ q _ h => hSub _ h)
  have hP := hP1
  have hP : va_P DJ jCl [(sb, .inr (0, [.ref v1, .int 0, .int ml, .int (nI n)])), (v1, .inl (cA .byte, m1, .inl (upd a1 n (nI (48 + w)))))] H := hP
  have hD : va_D (jF sb v s.heap.size) [(sb, .inr (0, [.ref v1, .int 0, .int ml, .int (nI n)])), (v1, .inl (cA .byte, m1, .inl (upd a1 n (nI (48 + w)))))] := hD
  have hG := hS.up hF
  refine lv_pop hx hb dJ5_append_c97b9_33 rfl ?_
  refine lv_goto (tgt := 48) hx hb dJ5_append_c97b9_34 (by decide) ?_
  refine lv_aload_n hx hb dJ5_append_c97b9_48 rfl (lv_at hl 2 rfl) ?_
  refine lv_iload_n hx hb dJ5_append_c97b9_49 rfl (lv_at hl 0 rfl) ?_
  refine va_put (D := DJ) (ci := 0) (v := .int (nI (n + 1))) (ty := .int) (C := RJ4) (T := TJ4) (N := 4) hx hb hts j4_in tyJ4 tyJ4_ok nmJ4 hown hK hP hD hS 0 rfl rfl 3 (by decide) (hts (.fieldLink RJ5 79 "java/lang/AbstractStringBuilder" "count" "I") (jwt 1437 (by decide +kernel) rfl)) (fun x hx => hx) rfl (by decide +kernel) rfl rfl (Nat.le_of_ble_eq_true rfl) dJ5_append_c97b9_50 (fun H locs hP hD hS => ?_)
  have hP : va_P DJ jCl [(sb, .inr (0, [.ref v1, .int 0, .int ml, .int (nI (n + 1))])), (v1, .inl (cA .byte, m1, .inl (upd a1 n (nI (48 + w)))))] H := hP
  have hD : va_D (jF sb v s.heap.size) [(sb, .inr (0, [.ref v1, .int 0, .int ml, .int (nI (n + 1))])), (v1, .inl (cA .byte, m1, .inl (upd a1 n (nI (48 + w)))))] := hD
  have hG := hS.up hF
  refine lv_aload_n hx hb dJ5_append_c97b9_53 rfl (lv_at hl 2 rfl) ?_
  refine W.widen (k := 1) (n := 250) (Nat.le_of_ble_eq_true rfl) (by omega) ?_
  exact W.aret hx hb hr (Or.inl ⟨_, rfl⟩) (Or.inr ⟨_, rfl⟩) (fun t ht hW => ⟨⟨(v1, m1, upd a1 n (nI (48 + w))), sb, rfl, ⟨q1, ⟨q2, q2b⟩, sb_fitU q5 (j_fit _ (by omega)), fun j hj => (show upd a1 n (nI (48 + w)) j = a j from (pk_un (by omega)).trans (q4 j (by omega))), (show upd a1 n (nI (48 + w)) n = nI (48 + w) from pk_us)⟩, rfl, by rw [ht]; exact hP, hD⟩, hS.F ht⟩) hS.2.2 dJ5_append_c97b9_54

set_option maxHeartbeats 4000000 in
set_option maxRecDepth 100000 in
/-- StringBuilder.append(int) of a digit -/
theorem jm_app4i (l : Launch) {sb v M sz n : Nat} {ml : Int32} {a : Nat → Int32} {w : Nat} (hw : w < 10) (hn : n + 1 ≤ 120) (hnm : n ≤ M) (hm : M ≤ 250) (hfit : sb_Fit a) (hF : ∀ q, jF sb v sz q → gA z ro q) : Met l yJ4_append_bf812 (jWs yJ4_append_bf812 cJ4_append_bf812 2 (some (.object "java/lang/StringBuilder"))) ({ frames := 6, cells := 1, slots := 250, locals := 180 }) (va_Pc [.ref sb, .int (nI w)] (fun U => jPre z ro cA D roArr DJ sz (jW (cA .byte) sb v ml (nI n) a M) U ∧ jDg (gA z ro) U U.heap)) (va_Qr (fun u : Nat × Nat × (Nat → Int32) => u.2.1 ≤ 250 ∧ (n + 1 ≤ u.2.1 ∧ u.2.1 = sb_cap (n + 1) M) ∧ sb_Fit u.2.2 ∧ (∀ j, j < n → u.2.2 j = a j) ∧ u.2.2 n = nI (48 + w)) (fun u r t => r = sb ∧ va_P DJ jCl (jW (cA .byte) sb u.1 ml (nI (n + 1)) u.2.2 u.2.1) t.heap ∧ va_D (jF sb v sz) (jW (cA .byte) sb u.1 ml (nI (n + 1)) u.2.2 u.2.1)) (jF sb v sz)) 1 250 (jF sb v sz) := by
  refine Met.ofW (cc := cJ4_append_bf812) (maxL := 2) (ret := (some (.object "java/lang/StringBuilder"))) (by decide) rfl ?_
  intro p e s m args below meth c s₁ B hml hv
  obtain ⟨rfl, ⟨⟨hE, hsz, hK, hP, hD0⟩, hDg⟩⟩ := hv
  have hx := B.exec
  have hb := B.bytes
  have hr := B.returns
  have hlocks := B.notSynchronized
  have hts0 := atoms_spec (ws := jWs yJ4_append_bf812 cJ4_append_bf812 2 (some (.object "java/lang/StringBuilder"))) B.pre
  have hts : ∀ w ∈ jw, w.before _ s = true := fun w h => hts0 w (List.mem_cons_of_mem _ h)
  have hown : s.vm.findClass RJ4 = some m.cls := findClass_of_methodNamed B.named
  subst hsz
  have hD := jF_D (sz := s.heap.size) hD0
  have hA : ∀ q : Nat, s.heap.size ≤ q → jF sb v s.heap.size q := fun q h => Or.inr (Or.inr h)
  have hS : va_S (jF sb v s.heap.size) s.heap s.heap [] := va_S.rf
  have hG := hS.up hF
  have hDg0 := hDg
  obtain ⟨td, hZd, hTd⟩ := hDg
  have hl := lv_entry ([.ref sb, .int (nI w)]) (n := 2) (Nat.le_of_ble_eq_true rfl)
  rw [lg_entry_eq]
  generalize (lg_sl ([.ref sb, .int (nI w)]) ++ List.replicate (2 - (lg_sl ([.ref sb, .int (nI w)])).length) Slot.unset).toArray = ls at hl ⊢
  have hl : lv_has ls 2 [(0, .ref sb), (1, .int (nI w))] := hl
  refine lv_aload_n hx hb dJ4_append_bf812_0 rfl (lv_at hl 0 rfl) ?_
  refine lv_iload_n hx hb dJ4_append_bf812_1 rfl (lv_at hl 1 rfl) ?_
  have hSub := jF_sub (sz := s.heap.size) (hD.2 1 _ rfl) hS.1
  refine va_callr (va_runSU (n := 1) (C := RJ4) (hK.1 0 _ rfl).2 (As := [.int (nI w)]) (rest := []) ⟨hx, hb, hml, hown, hts⟩ (jm_app5i (z := z) (ro := ro) (cA := cA) (D := D) (DJ := DJ) (roArr := roArr) l (sb := sb) (v := v) (M := M) (sz := s.heap.size) (ml := ml) (n := n) (a := a) (w := w) hw hn hnm hm hfit (fun q h => hF q (hSub q h))) (va_cwSU 1 hts (jGood (List.forall_mem_cons.mpr ⟨jwt 1464 (by decide +kernel) rfl, List.forall_mem_cons.mpr ⟨jwt 1568 (by decide +kernel) rfl, List.forall_mem_cons.mpr ⟨jwt 1346 (by decide +kernel) rfl, List.forall_mem_cons.mpr ⟨jwt 1465 (by decide +kernel) rfl, List.forall_mem_cons.mpr ⟨jwt 18 (by decide +kernel) rfl, List.forall_mem_cons.mpr ⟨jwt 1466 (by decide +kernel) rfl, fun w h => h⟩⟩⟩⟩⟩⟩)) rfl rfl rfl (by decide +kernel) ⟨Nat.le_of_ble_eq_true rfl, Nat.le_of_ble_eq_true rfl⟩) ⟨fun a U g mk q => ⟨q.1, jPre.blind q.2.1, q.2.2⟩, va_recv (ci := 0) (q0 := 0) hK hP rfl rfl, fun U hU hW => ⟨rfl, jPre.to hU hW hE hG hK hP hD, jDg.up hU hW hDg0 hG⟩⟩ rfl rfl hl.1 rfl (lv_room (Nat.le_of_ble_eq_true rfl)) dJ4_append_bf812_2 ⟨Nat.le_of_ble_eq_true rfl, Nat.le_of_ble_eq_true rfl⟩) hS (fun q _ h => hSub q h) hSub (fun u ra t H locs ht hvm hpost hB1 hz1 hk1 hS => ?_)
  obtain ⟨v1, m1, a1⟩ := u
  obtain ⟨hra, hP1, hD1⟩ := hB1
  rw [ht] at hP1
  replace hD := hD1.weaken (fun _ q _ h => hSub _ h)
  have hP := hP1
  have hP : va_P DJ jCl [(sb, .inr (0, [.ref v1, .int 0, .int ml, .int (nI (n + 1))])), (v1, .inl (cA .byte, m1, .inl a1))] H := hP
  have hD : va_D (jF sb v s.heap.size) [(sb, .inr (0, [.ref v1, .int 0, .int ml, .int (nI (n + 1))])), (v1, .inl (cA .byte, m1, .inl a1))] := hD
  have hG := hS.up hF
  refine lv_pop hx hb dJ4_append_bf812_5 rfl ?_
  refine lv_aload_n hx hb dJ4_append_bf812_6 rfl (lv_at hl 0 rfl) ?_
  refine W.widen (k := 1) (n := 250) (Nat.le_of_ble_eq_true rfl) (by omega) ?_
  exact W.aret hx hb hr (Or.inl ⟨_, rfl⟩) (Or.inr ⟨_, rfl⟩) (fun t ht hW => ⟨⟨(v1, m1, a1), sb, rfl, hpost, rfl, by rw [ht]; exact hP, hD⟩, hS.F ht⟩) hS.2.2 dJ4_append_bf812_7

set_option maxHeartbeats 4000000 in
set_option maxRecDepth 100000 in
/-- AbstractStringBuilder.append(char) -/
theorem jm_app5c (l : Launch) {sb v M sz n : Nat} {ml : Int32} {a : Nat → Int32} {ch : Nat} (hc : ch < 128) (hn : n + 1 ≤ 120) (hnm : n ≤ M) (hm : M ≤ 250) (hfit : sb_Fit a) (hF : ∀ q, jF sb v sz q → gA z ro q) : Met l yJ5_append_3fe6f (jWs yJ5_append_3fe6f cJ5_append_3fe6f 2 (some (.object "java/lang/AbstractStringBuilder"))) ({ frames := 5, cells := 1, slots := 250, locals := 140 }) (va_Pc [.ref sb, .int (nI ch)] (fun U => jPre z ro cA D roArr DJ sz (jW (cA .byte) sb v ml (nI n) a M) U)) (va_Qr (fun u : Nat × Nat × (Nat → Int32) => u.2.1 ≤ 250 ∧ (n + 1 ≤ u.2.1 ∧ u.2.1 = sb_cap (n + 1) M) ∧ sb_Fit u.2.2 ∧ (∀ j, j < n → u.2.2 j = a j) ∧ u.2.2 n = nI ch) (fun u r t => r = sb ∧ va_P DJ jCl (jW (cA .byte) sb u.1 ml (nI (n + 1)) u.2.2 u.2.1) t.heap ∧ va_D (jF sb v sz) (jW (cA .byte) sb u.1 ml (nI (n + 1)) u.2.2 u.2.1)) (jF sb v sz)) 1 250 (jF sb v sz) := by
  refine Met.ofW (cc := cJ5_append_3fe6f) (maxL := 2) (ret := (some (.object "java/lang/AbstractStringBuilder"))) (by decide) rfl ?_
  intro p e s m args below meth c s₁ B hml hv
  obtain ⟨rfl, ⟨hE, hsz, hK, hP, hD0⟩⟩ := hv
  have hx := B.exec
  have hb := B.bytes
  have hr := B.returns
  have hlocks := B.notSynchronized
  have hts0 := atoms_spec (ws := jWs yJ5_append_3fe6f cJ5_append_3fe6f 2 (some (.object "java/lang/AbstractStringBuilder"))) B.pre
  have hts : ∀ w ∈ jw, w.before _ s = true := fun w h => hts0 w (List.mem_cons_of_mem _ h)
  have hown : s.vm.findClass RJ5 = some m.cls := findClass_of_methodNamed B.named
  subst hsz
  have hD := jF_D (sz := s.heap.size) hD0
  have hA : ∀ q : Nat, s.heap.size ≤ q → jF sb v s.heap.size q := fun q h => Or.inr (Or.inr h)
  have hS : va_S (jF sb v s.heap.size) s.heap s.heap [] := va_S.rf
  have hG := hS.up hF
  have hl := lv_entry ([.ref sb, .int (nI ch)]) (n := 2) (Nat.le_of_ble_eq_true rfl)
  rw [lg_entry_eq]
  generalize (lg_sl ([.ref sb, .int (nI ch)]) ++ List.replicate (2 - (lg_sl ([.ref sb, .int (nI ch)])).length) Slot.unset).toArray = ls at hl ⊢
  have hl : lv_has ls 2 [(0, .ref sb), (1, .int (nI ch))] := hl
  refine lv_aload_n hx hb dJ5_append_3fe6f_0 rfl (lv_at hl 0 rfl) ?_
  refine lv_aload_n hx hb dJ5_append_3fe6f_1 rfl (lv_at hl 0 rfl) ?_
  refine va_get (D := DJ) (ci := 0) (v := .int (nI n)) (C := RJ4) (T := TJ4) (N := 4) hx hb hts j4_in hown hK hP 0 rfl rfl 3 (by decide) (hts (.fieldLink RJ5 79 "java/lang/AbstractStringBuilder" "count" "I") (jwt 1437 (by decide +kernel) rfl)) (fun x hx => hx) rfl dJ5_append_3fe6f_2 ?_
  refine lv_iconst (v := 1) hx hb dJ5_append_3fe6f_5 (by decide) ?_
  refine lv_iadd hx hb dJ5_append_3fe6f_6 ?_
  refine W.eq (g2 := F0 m 7 ls [.int (nI (n + 1)), .ref sb]) (by rw [show (((nI n) + (1 : Int32) : Int32)) = nI (n + 1) from nI_1 n]) ?_
  have hSub := jF_sub (sz := s.heap.size) (hD.2 1 _ rfl) hS.1
  refine va_callv (va_runU (x := yJ5_ensureCapacityInternal_d00df) (n := 1) (C := RJ4) (owner := RJ5) (As := [.int (nI (n + 1))]) (rest := []) ⟨hx, hb, hml, hown, hts⟩ (jm_ensure (z := z) (ro := ro) (cA := cA) (D := D) (DJ := DJ) (roArr := roArr) l (sb := sb) (v := v) (M := M) (sz := s.heap.size) (ml := ml) (n := (nI n)) (a := a) (q := n + 1) hn hm hfit (fun q h => hF q (hSub q h))) (va_cwU 1 hts (jGood (List.forall_mem_cons.mpr ⟨jwt 1352 (by decide +kernel) rfl, List.forall_mem_cons.mpr ⟨jwt 1562 (by decide +kernel) rfl, List.forall_mem_cons.mpr ⟨jwj 0 (by decide +kernel), List.forall_mem_cons.mpr ⟨jwt 1354 (by decide +kernel) rfl, List.forall_mem_cons.mpr ⟨jwt 18 (by decide +kernel) rfl, List.forall_mem_cons.mpr ⟨jwt 1355 (by decide +kernel) rfl, fun w h => h⟩⟩⟩⟩⟩⟩)) rfl rfl rfl rfl (by decide +kernel) ⟨Nat.le_of_ble_eq_true rfl, Nat.le_of_ble_eq_true rfl⟩) ⟨fun a U g mk q => ⟨q.1, jPre.blind q.2⟩, va_recv (ci := 0) (q0 := 0) hK hP rfl rfl, fun U hU hW => ⟨rfl, jPre.to hU hW hE hG hK hP hD⟩⟩ rfl rfl hl.1 rfl (lv_room (Nat.le_of_ble_eq_true rfl)) dJ5_append_3fe6f_7 ⟨Nat.le_of_ble_eq_true rfl, Nat.le_of_ble_eq_true rfl⟩) hS (fun q _ h => hSub q h) hSub (fun u t H locs ht hvm hpost hB1 hz1 hk1 hS => ?_)
  obtain ⟨v1, m1, a1⟩ := u
  obtain ⟨q1, ⟨q2, q2b⟩, q3, q4, q5⟩ := hpost
  change m1 ≤ 250 at q1
  change _ ≤ m1 at q2
  obtain ⟨hP1, hD1⟩ := hB1
  rw [ht] at hP1
  replace hD := hD1.weaken (fun _ q _ h => hSub _ h)
  have hP := hP1
  have hP : va_P DJ jCl [(sb, .inr (0, [.ref v1, .int 0, .int ml, .int (nI n)])), (v1, .inl (cA .byte, m1, .inl a1))] H := hP
  have hD : va_D (jF sb v s.heap.size) [(sb, .inr (0, [.ref v1, .int 0, .int ml, .int (nI n)])), (v1, .inl (cA .byte, m1, .inl a1))] := hD
  have hG := hS.up hF
  refine lv_aload_n hx hb dJ5_append_3fe6f_10 rfl (lv_at hl 0 rfl) ?_
  refine g_calln (va_runU (x := yJ5_isLatin1_aae02) (n := 0) (C := RJ4) (owner := RJ5) (As := []) (rest := []) ⟨hx, hb, hml, hown, hts⟩ (jm_isLatin1 (z := z) (ro := ro) (cA := cA) (D := D) (DJ := DJ) (roArr := roArr) l (sb := sb) (v := v1) (M := m1) (sz := H.size) (ml := ml) (n := (nI n)) (a := a1)) (va_cwU 0 hts (jGood (List.forall_mem_cons.mpr ⟨jwt 1380 (by decide +kernel) rfl, List.forall_mem_cons.mpr ⟨jwt 1382 (by decide +kernel) rfl, List.forall_mem_cons.mpr ⟨jwt 1383 (by decide +kernel) rfl, List.forall_mem_cons.mpr ⟨jwt 1381 (by decide +kernel) rfl, List.forall_mem_cons.mpr ⟨jwt 18 (by decide +kernel) rfl, List.forall_mem_cons.mpr ⟨jwt 1384 (by decide +kernel) rfl, fun w h => h⟩⟩⟩⟩⟩⟩)) rfl rfl rfl rfl (by decide +kernel) ⟨Nat.le_of_ble_eq_true rfl, Nat.le_of_ble_eq_true rfl⟩) ⟨fun a U g mk q => ⟨q.1, jPre.blind q.2⟩, va_recv (ci := 0) (q0 := 0) hK hP rfl rfl, fun U hU hW => ⟨rfl, jPre.to hU hW hE hG hK hP hD⟩⟩ rfl rfl hl.1 rfl (lv_room (Nat.le_of_ble_eq_true rfl)) dJ5_append_3fe6f_11 ⟨Nat.le_of_ble_eq_true rfl, Nat.le_of_ble_eq_true rfl⟩) (fun x hx0 => ?_)
  subst hx0
  refine lv_if_eq (tgt := 45) hx hb dJ5_append_3fe6f_14 (by decide) (fun h0 => absurd h0 (by decide)) (fun _ => ?_)
  refine lv_iload_n hx hb dJ5_append_3fe6f_17 rfl (lv_at hl 1 rfl) ?_
  refine g_calln (va_runS (n := 1) (As := [.int (nI ch)]) (rest := []) ⟨hx, hb, hml, hown, hts⟩ (jm_canEncode l (ch := ch) (by omega)) (va_cwS 1 hts (jGood (List.forall_mem_cons.mpr ⟨jwt 1454 (by decide +kernel) rfl, List.forall_mem_cons.mpr ⟨jwt 1455 (by decide +kernel) rfl, List.forall_mem_cons.mpr ⟨jwt 13 (by decide +kernel) rfl, List.forall_mem_cons.mpr ⟨jwt 1456 (by decide +kernel) rfl, fun w h => h⟩⟩⟩⟩)) rfl rfl rfl (by decide +kernel) ⟨Nat.le_of_ble_eq_true rfl, Nat.le_of_ble_eq_true rfl⟩) ⟨fun a U g mk q => q, fun U hU hW => ⟨rfl, trivial⟩⟩ rfl rfl hl.1 rfl (lv_room (Nat.le_of_ble_eq_true rfl)) dJ5_append_3fe6f_18 ⟨Nat.le_of_ble_eq_true rfl, Nat.le_of_ble_eq_true rfl⟩) (fun x hx0 => ?_)
  subst hx0
  refine lv_if_eq (tgt := 45) hx hb dJ5_append_3fe6f_21 (by decide) (fun h0 => absurd h0 (by decide)) (fun _ => ?_)
  refine lv_aload_n hx hb dJ5_append_3fe6f_24 rfl (lv_at hl 0 rfl) ?_
  refine va_get (D := DJ) (ci := 0) (v := .ref v1) (C := RJ4) (T := TJ4) (N := 4) hx hb hts j4_in hown hK hP 0 rfl rfl 0 (by decide) (hts (.fieldLink RJ5 15 "java/lang/AbstractStringBuilder" "value" "[B") (jwt 1434 (by decide +kernel) rfl)) (fun x hx => hx) rfl dJ5_append_3fe6f_25 ?_
  refine lv_aload_n hx hb dJ5_append_3fe6f_28 rfl (lv_at hl 0 rfl) ?_
  refine lv_dup hx hb dJ5_append_3fe6f_29 rfl ?_
  refine va_get (D := DJ) (ci := 0) (v := .int (nI n)) (C := RJ4) (T := TJ4) (N := 4) hx hb hts j4_in hown hK hP 0 rfl rfl 3 (by decide) (hts (.fieldLink RJ5 79 "java/lang/AbstractStringBuilder" "count" "I") (jwt 1437 (by decide +kernel) rfl)) (fun x hx => hx) rfl dJ5_append_3fe6f_30 ?_
  refine lv_dup_x1 hx hb dJ5_append_3fe6f_33 rfl rfl ?_
  refine lv_iconst (v := 1) hx hb dJ5_append_3fe6f_34 (by decide) ?_
  refine lv_iadd hx hb dJ5_append_3fe6f_35 ?_
  refine W.eq (g2 := F0 m 36 ls [.int (nI (n + 1)), .ref sb, .int (nI n), .ref v1]) (by rw [show (((nI n) + (1 : Int32) : Int32)) = nI (n + 1) from nI_1 n]) ?_
  refine va_put (D := DJ) (ci := 0) (v := .int (nI (n + 1))) (ty := .int) (C := RJ4) (T := TJ4) (N := 4) hx hb hts j4_in tyJ4 tyJ4_ok nmJ4 hown hK hP hD hS 0 rfl rfl 3 (by decide) (hts (.fieldLink RJ5 79 "java/lang/AbstractStringBuilder" "count" "I") (jwt 1437 (by decide +kernel) rfl)) (fun x hx => hx) rfl (by decide +kernel) rfl rfl (Nat.le_of_ble_eq_true rfl) dJ5_append_3fe6f_36 (fun H locs hP hD hS => ?_)
  have hP : va_P DJ jCl [(sb, .inr (0, [.ref v1, .int 0, .int ml, .int (nI (n + 1))])), (v1, .inl (cA .byte, m1, .inl a1))] H := hP
  have hD : va_D (jF sb v s.heap.size) [(sb, .inr (0, [.ref v1, .int 0, .int ml, .int (nI (n + 1))])), (v1, .inl (cA .byte, m1, .inl a1))] := hD
  have hG := hS.up hF
  refine lv_iload_n hx hb dJ5_append_3fe6f_39 rfl (lv_at hl 1 rfl) ?_
  refine lv_i2b (v := nI ch) hx hb dJ5_append_3fe6f_40 (j_i2b _ hc) ?_
  refine va_bast hx hb hK hP hD hS 1 0 rfl rfl (vp_in_nI (by omega) (by omega)) dJ5_append_3fe6f_41 (fun H locs hP hD hS => ?_)
  rw [nI_clamp (by omega), j_nar _ (by omega)] at hP hD
  have hP : va_P DJ jCl [(sb, .inr (0, [.ref v1, .int 0, .int ml, .int (nI (n + 1))])), (v1, .inl (cA .byte, m1, .inl (upd a1 n (nI ch))))] H := hP
  have hD : va_D (jF sb v s.heap.size) [(sb, .inr (0, [.ref v1, .int 0, .int ml, .int (nI (n + 1))])), (v1, .inl (cA .byte, m1, .inl (upd a1 n (nI ch))))] := hD
  have hG := hS.up hF
  refine lv_goto (tgt := 75) hx hb dJ5_append_3fe6f_42 (by decide) ?_
  refine lv_aload_n hx hb dJ5_append_3fe6f_75 rfl (lv_at hl 0 rfl) ?_
  refine W.widen (k := 1) (n := 250) (Nat.le_of_ble_eq_true rfl) (by omega) ?_
  exact W.aret hx hb hr (Or.inl ⟨_, rfl⟩) (Or.inr ⟨_, rfl⟩) (fun t ht hW => ⟨⟨(v1, m1, upd a1 n (nI ch)), sb, rfl, ⟨q1, ⟨q2, q2b⟩, sb_fitU q5 (j_fit _ hc), fun j hj => (show upd a1 n (nI ch) j = a j from (pk_un (by omega)).trans (q4 j (by omega))), (show upd a1 n (nI ch) n = nI ch from pk_us)⟩, rfl, by rw [ht]; exact hP, hD⟩, hS.F ht⟩) hS.2.2 dJ5_append_3fe6f_76

set_option maxHeartbeats 4000000 in
set_option maxRecDepth 100000 in
/-- StringBuilder.append(char) -/
theorem jm_app4c (l : Launch) {sb v M sz n : Nat} {ml : Int32} {a : Nat → Int32} {ch : Nat} (hc : ch < 128) (hn : n + 1 ≤ 120) (hnm : n ≤ M) (hm : M ≤ 250) (hfit : sb_Fit a) (hF : ∀ q, jF sb v sz q → gA z ro q) : Met l yJ4_append_cf468 (jWs yJ4_append_cf468 cJ4_append_cf468 2 (some (.object "java/lang/StringBuilder"))) ({ frames := 6, cells := 1, slots := 250, locals := 180 }) (va_Pc [.ref sb, .int (nI ch)] (fun U => jPre z ro cA D roArr DJ sz (jW (cA .byte) sb v ml (nI n) a M) U)) (va_Qr (fun u : Nat × Nat × (Nat → Int32) => u.2.1 ≤ 250 ∧ (n + 1 ≤ u.2.1 ∧ u.2.1 = sb_cap (n + 1) M) ∧ sb_Fit u.2.2 ∧ (∀ j, j < n → u.2.2 j = a j) ∧ u.2.2 n = nI ch) (fun u r t => r = sb ∧ va_P DJ jCl (jW (cA .byte) sb u.1 ml (nI (n + 1)) u.2.2 u.2.1) t.heap ∧ va_D (jF sb v sz) (jW (cA .byte) sb u.1 ml (nI (n + 1)) u.2.2 u.2.1)) (jF sb v sz)) 1 250 (jF sb v sz) := by
  refine Met.ofW (cc := cJ4_append_cf468) (maxL := 2) (ret := (some (.object "java/lang/StringBuilder"))) (by decide) rfl ?_
  intro p e s m args below meth c s₁ B hml hv
  obtain ⟨rfl, ⟨hE, hsz, hK, hP, hD0⟩⟩ := hv
  have hx := B.exec
  have hb := B.bytes
  have hr := B.returns
  have hlocks := B.notSynchronized
  have hts0 := atoms_spec (ws := jWs yJ4_append_cf468 cJ4_append_cf468 2 (some (.object "java/lang/StringBuilder"))) B.pre
  have hts : ∀ w ∈ jw, w.before _ s = true := fun w h => hts0 w (List.mem_cons_of_mem _ h)
  have hown : s.vm.findClass RJ4 = some m.cls := findClass_of_methodNamed B.named
  subst hsz
  have hD := jF_D (sz := s.heap.size) hD0
  have hA : ∀ q : Nat, s.heap.size ≤ q → jF sb v s.heap.size q := fun q h => Or.inr (Or.inr h)
  have hS : va_S (jF sb v s.heap.size) s.heap s.heap [] := va_S.rf
  have hG := hS.up hF
  have hl := lv_entry ([.ref sb, .int (nI ch)]) (n := 2) (Nat.le_of_ble_eq_true rfl)
  rw [lg_entry_eq]
  generalize (lg_sl ([.ref sb, .int (nI ch)]) ++ List.replicate (2 - (lg_sl ([.ref sb, .int (nI ch)])).length) Slot.unset).toArray = ls at hl ⊢
  have hl : lv_has ls 2 [(0, .ref sb), (1, .int (nI ch))] := hl
  refine lv_aload_n hx hb dJ4_append_cf468_0 rfl (lv_at hl 0 rfl) ?_
  refine lv_iload_n hx hb dJ4_append_cf468_1 rfl (lv_at hl 1 rfl) ?_
  have hSub := jF_sub (sz := s.heap.size) (hD.2 1 _ rfl) hS.1
  refine va_callr (va_runSU (n := 1) (C := RJ4) (hK.1 0 _ rfl).2 (As := [.int (nI ch)]) (rest := []) ⟨hx, hb, hml, hown, hts⟩ (jm_app5c (z := z) (ro := ro) (cA := cA) (D := D) (DJ := DJ) (roArr := roArr) l (sb := sb) (v := v) (M := M) (sz := s.heap.size) (ml := ml) (n := n) (a := a) (ch := ch) hc hn hnm hm hfit (fun q h => hF q (hSub q h))) (va_cwSU 1 hts (jGood (List.forall_mem_cons.mpr ⟨jwt 1451 (by decide +kernel) rfl, List.forall_mem_cons.mpr ⟨jwt 1567 (by decide +kernel) rfl, List.forall_mem_cons.mpr ⟨jwt 1346 (by decide +kernel) rfl, List.forall_mem_cons.mpr ⟨jwt 1452 (by decide +kernel) rfl, List.forall_mem_cons.mpr ⟨jwt 18 (by decide +kernel) rfl, List.forall_mem_cons.mpr ⟨jwt 1453 (by decide +kernel) rfl, fun w h => h⟩⟩⟩⟩⟩⟩)) rfl rfl rfl (by decide +kernel) ⟨Nat.le_of_ble_eq_true rfl, Nat.le_of_ble_eq_true rfl⟩) ⟨fun a U g mk q => ⟨q.1, jPre.blind q.2⟩, va_recv (ci := 0) (q0 := 0) hK hP rfl rfl, fun U hU hW => ⟨rfl, jPre.to hU hW hE hG hK hP hD⟩⟩ rfl rfl hl.1 rfl (lv_room (Nat.le_of_ble_eq_true rfl)) dJ4_append_cf468_2 ⟨Nat.le_of_ble_eq_true rfl, Nat.le_of_ble_eq_true rfl⟩) hS (fun q _ h => hSub q h) hSub (fun u ra t H locs ht hvm hpost hB1 hz1 hk1 hS => ?_)
  obtain ⟨v1, m1, a1⟩ := u
  obtain ⟨hra, hP1, hD1⟩ := hB1
  rw [ht] at hP1
  replace hD := hD1.weaken (fun _ q _ h => hSub _ h)
  have hP := hP1
  have hP : va_P DJ jCl [(sb, .inr (0, [.ref v1, .int 0, .int ml, .int (nI (n + 1))])), (v1, .inl (cA .byte, m1, .inl a1))] H := hP
  have hD : va_D (jF sb v s.heap.size) [(sb, .inr (0, [.ref v1, .int 0, .int ml, .int (nI (n + 1))])), (v1, .inl (cA .byte, m1, .inl a1))] := hD
  have hG := hS.up hF
  refine lv_pop hx hb dJ4_append_cf468_5 rfl ?_
  refine lv_aload_n hx hb dJ4_append_cf468_6 rfl (lv_at hl 0 rfl) ?_
  refine W.widen (k := 1) (n := 250) (Nat.le_of_ble_eq_true rfl) (by omega) ?_
  exact W.aret hx hb hr (Or.inl ⟨_, rfl⟩) (Or.inr ⟨_, rfl⟩) (fun t ht hW => ⟨⟨(v1, m1, a1), sb, rfl, hpost, rfl, by rw [ht]; exact hP, hD⟩, hS.F ht⟩) hS.2.2 dJ4_append_cf468_7
end
