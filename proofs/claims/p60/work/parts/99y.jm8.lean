/-! ===== the JDK: a draw, by wip/p60/jm8.py ===== -/
theorem dL_draw_0 : decode cL_draw 0 = .ok (.aload_n 0, 1) := by decide +kernel
theorem dL_draw_1 : decode cL_draw 1 = .ok (.iconst 0, 1) := by decide +kernel
theorem dL_draw_11 : decode cL_draw 11 = .ok (.iadd, 1) := by decide +kernel
theorem dL_draw_12 : decode cL_draw 12 = .ok (.iastore, 1) := by decide +kernel
theorem dL_draw_13 : decode cL_draw 13 = .ok (.aload_n 0, 1) := by decide +kernel
theorem dL_draw_14 : decode cL_draw 14 = .ok (.iconst 0, 1) := by decide +kernel
theorem dL_draw_15 : decode cL_draw 15 = .ok (.iaload, 1) := by decide +kernel
theorem dL_draw_16 : decode cL_draw 16 = .ok (.bipush 8, 2) := by decide +kernel
theorem dL_draw_18 : decode cL_draw 18 = .ok (.iushr, 1) := by decide +kernel
theorem dL_draw_19 : decode cL_draw 19 = .ok (.iload_n 1, 1) := by decide +kernel
theorem dL_draw_2 : decode cL_draw 2 = .ok (.aload_n 0, 1) := by decide +kernel
theorem dL_draw_20 : decode cL_draw 20 = .ok (.irem, 1) := by decide +kernel
theorem dL_draw_21 : decode cL_draw 21 = .ok (.ireturn, 1) := by decide +kernel
theorem dL_draw_3 : decode cL_draw 3 = .ok (.iconst 0, 1) := by decide +kernel
theorem dL_draw_4 : decode cL_draw 4 = .ok (.iaload, 1) := by decide +kernel
theorem dL_draw_5 : decode cL_draw 5 = .ok (.ldc 120, 2) := by decide +kernel
theorem dL_draw_7 : decode cL_draw 7 = .ok (.imul, 1) := by decide +kernel
theorem dL_draw_8 : decode cL_draw 8 = .ok (.sipush 12345, 3) := by decide +kernel
theorem j_ush8 (x : Int32) : ∃ w : Nat, w < 2 ^ 24 ∧ (x.toUInt32 >>> ((8 : Int32).toUInt32 &&& Int32.toUInt32 31)).toInt32 = nI w := by
  refine ⟨x.toBitVec.toNat / 2 ^ 8, ?_, ?_⟩
  · have := x.toBitVec.isLt
    omega
  · have h := pk_ushr x 8 8 (by decide)
    apply Int32.toBitVec_inj.mp
    apply BitVec.eq_of_toNat_eq
    rw [h, pk_tn (by have := x.toBitVec.isLt; omega)]
section
variable {z : Nat} {ro : Nat → Nat} {cA : FieldType → ClassId} {D DJ : va_G} {roArr : Nat → Option (Nat × (Nat → Int32))}
set_option maxHeartbeats 4000000 in
set_option maxRecDepth 100000 in
/-- a draw -/
theorem jm_draw (l : Launch) {q n : Nat} {f : Nat → Int32} (h0 : 0 < n) (hn : n < 1000) : Met l yL_draw (jWs yL_draw cL_draw 2 (some .int)) ({ frames := 1, cells := 0, slots := 0, locals := 12 }) (va_Pc [.ref q, .int (nI n)] (fun U => va_K DJ jCl [(cA .int, .int)] U ∧ va_P DJ jCl [(q, .inl (cA .int, 1, .inl f))] U.heap)) (va_Qi (fun (r : Int32) (_ : Nat → Int32) => ∃ k, k < n ∧ r = nI k) (fun g t => va_P DJ jCl [(q, .inl (cA .int, 1, .inl g))] t.heap) (fun b => b = q)) 0 0 (fun b => b = q) := by
  refine Met.ofW (cc := cL_draw) (maxL := 2) (ret := (some .int)) (by decide) rfl ?_
  intro p e s m args below meth c s₁ B hml hv
  obtain ⟨rfl, ⟨hK, hP⟩⟩ := hv
  have hx := B.exec
  have hb := B.bytes
  have hr := B.returns
  have hlocks := B.notSynchronized
  have hts0 := atoms_spec (ws := jWs yL_draw cL_draw 2 (some .int)) B.pre
  have hts : ∀ w ∈ jw, w.before _ s = true := fun w h => hts0 w (List.mem_cons_of_mem _ h)
  have hown : s.vm.findClass RL = some m.cls := findClass_of_methodNamed B.named
  have hS : va_S (fun b => b = q) s.heap s.heap [] := va_S.rf
  have hD : va_D (fun b => b = q) [(q, .inl (cA .int, 1, .inl f))] := ⟨fun i j p r hi hj _ => by (match i, j with
      | 0, 0 => rfl
      | i + 1, _ => cases hi
      | 0, j + 1 => cases hj), fun k r hk => by (match k with
      | 0 => cases hk; rfl
      | k + 1 => cases hk)⟩
  have hl := lv_entry ([.ref q, .int (nI n)]) (n := 2) (Nat.le_of_ble_eq_true rfl)
  rw [lg_entry_eq]
  generalize (lg_sl ([.ref q, .int (nI n)]) ++ List.replicate (2 - (lg_sl ([.ref q, .int (nI n)])).length) Slot.unset).toArray = ls at hl ⊢
  have hl : lv_has ls 2 [(0, .ref q), (1, .int (nI n))] := hl
  refine lv_aload_n hx hb dL_draw_0 rfl (lv_at hl 0 rfl) ?_
  refine lv_iconst (v := 0) hx hb dL_draw_1 (by decide) ?_
  refine lv_aload_n hx hb dL_draw_2 rfl (lv_at hl 0 rfl) ?_
  refine lv_iconst (v := 0) hx hb dL_draw_3 (by decide) ?_
  refine va_iald hx hb hK hP 0 0 rfl rfl (vp_in_nI (n := 0) (N := 1) (by decide) (by decide)) dL_draw_4 ?_
  refine lv_topi (fun y4 ey4 => ?_)
  refine lv_ldc (v := 1103515245) hx hb hown (hts (.constant RL 120 (1103515245)) (jwt 929 (by decide +kernel) rfl)) dL_draw_5 ?_
  refine lv_imul hx hb dL_draw_7 ?_
  refine lv_sipush (v := 12345) hx hb dL_draw_8 (by decide) ?_
  refine lv_iadd hx hb dL_draw_11 ?_
  refine va_iast hx hb hK hP hD hS 0 0 rfl rfl (vp_in_nI (n := 0) (N := 1) (by decide) (by decide)) dL_draw_12 (fun H locs hP hD hS => ?_)
  generalize (upd f (0 : Int32).toNatClampNeg ((y4 * (1103515245 : Int32)) + ((12345) : Int32))) = g at hP hD
  have hP : va_P DJ jCl [(q, .inl (cA .int, 1, .inl g))] H := hP
  have hD : va_D (fun b => b = q) [(q, .inl (cA .int, 1, .inl g))] := hD
  refine lv_aload_n hx hb dL_draw_13 rfl (lv_at hl 0 rfl) ?_
  refine lv_iconst (v := 0) hx hb dL_draw_14 (by decide) ?_
  refine va_iald hx hb hK hP 0 0 rfl rfl (vp_in_nI (n := 0) (N := 1) (by decide) (by decide)) dL_draw_15 ?_
  refine lv_topi (fun y15 ey15 => ?_)
  refine lv_bipush (v := 8) hx hb dL_draw_16 (by decide) ?_
  obtain ⟨w, hw, ew⟩ := j_ush8 y15
  refine lv_iushr (v := nI w) hx hb dL_draw_18 ew ?_
  refine lv_iload_n hx hb dL_draw_19 rfl (lv_at hl 1 rfl) ?_
  refine lv_irem hx hb dL_draw_20 (nI_ne0 h0 (by omega)) ?_
  rw [pk_rem (show w < 2 ^ 31 by omega) h0 (by omega)]
  exact W.iret hx hb hr (fun t ht hW => ⟨⟨_, g, rfl, ⟨_, Nat.mod_lt _ h0, rfl⟩, by show va_P DJ jCl _ t.heap; rw [ht]; exact hP⟩, hS.F ht⟩) hS.2.2 dL_draw_21
end
