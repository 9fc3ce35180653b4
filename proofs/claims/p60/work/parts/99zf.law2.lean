/-! ===== p60: the law builds its text, by wip/p60/jl.py ===== -/
theorem dL_law_100 : decode cL_law 100 = .ok (.ldc 249, 2) := by decide +kernel
theorem dL_law_102 : decode cL_law 102 = .ok (.invokevirtual 251, 3) := by decide +kernel
theorem dL_law_105 : decode cL_law 105 = .ok (.aload_n 2, 1) := by decide +kernel
theorem dL_law_106 : decode cL_law 106 = .ok (.iload 4, 2) := by decide +kernel
theorem dL_law_108 : decode cL_law 108 = .ok (.invokestatic 203, 3) := by decide +kernel
theorem dL_law_111 : decode cL_law 111 = .ok (.invokevirtual 243, 3) := by decide +kernel
theorem dL_law_114 : decode cL_law 114 = .ok (.bipush 32, 2) := by decide +kernel
theorem dL_law_116 : decode cL_law 116 = .ok (.invokevirtual 246, 3) := by decide +kernel
theorem dL_law_119 : decode cL_law 119 = .ok (.iload 7, 2) := by decide +kernel
theorem dL_law_121 : decode cL_law 121 = .ok (.invokevirtual 243, 3) := by decide +kernel
theorem dL_law_124 : decode cL_law 124 = .ok (.bipush 59, 2) := by decide +kernel
theorem dL_law_126 : decode cL_law 126 = .ok (.invokevirtual 246, 3) := by decide +kernel
theorem dL_law_129 : decode cL_law 129 = .ok (.pop, 1) := by decide +kernel
theorem dL_law_130 : decode cL_law 130 = .ok (.iinc 7 1, 3) := by decide +kernel
theorem dL_law_133 : decode cL_law 133 = .ok (.goto (-50), 3) := by decide +kernel
theorem dL_law_139 : decode cL_law 139 = .ok (.iload 7, 2) := by decide +kernel
theorem dL_law_141 : decode cL_law 141 = .ok (.iconst 2, 1) := by decide +kernel
theorem dL_law_142 : decode cL_law 142 = .ok (.if_icmp .ge 74, 3) := by decide +kernel
theorem dL_law_145 : decode cL_law 145 = .ok (.aload 6, 2) := by decide +kernel
theorem dL_law_147 : decode cL_law 147 = .ok (.ldc 254, 2) := by decide +kernel
theorem dL_law_149 : decode cL_law 149 = .ok (.invokevirtual 251, 3) := by decide +kernel
theorem dL_law_152 : decode cL_law 152 = .ok (.iload 7, 2) := by decide +kernel
theorem dL_law_154 : decode cL_law 154 = .ok (.ifCond .ne 9, 3) := by decide +kernel
theorem dL_law_157 : decode cL_law 157 = .ok (.ldc_w 256, 3) := by decide +kernel
theorem dL_law_160 : decode cL_law 160 = .ok (.goto 6, 3) := by decide +kernel
theorem dL_law_163 : decode cL_law 163 = .ok (.ldc_w 258, 3) := by decide +kernel
theorem dL_law_166 : decode cL_law 166 = .ok (.invokevirtual 251, 3) := by decide +kernel
theorem dL_law_169 : decode cL_law 169 = .ok (.pop, 1) := by decide +kernel
theorem dL_law_170 : decode cL_law 170 = .ok (.iconst 0, 1) := by decide +kernel
theorem dL_law_171 : decode cL_law 171 = .ok (.istore 8, 2) := by decide +kernel
theorem dL_law_173 : decode cL_law 173 = .ok (.iload 8, 2) := by decide +kernel
theorem dL_law_175 : decode cL_law 175 = .ok (.bipush 6, 2) := by decide +kernel
theorem dL_law_177 : decode cL_law 177 = .ok (.if_icmp .ge 25, 3) := by decide +kernel
theorem dL_law_180 : decode cL_law 180 = .ok (.aload 6, 2) := by decide +kernel
theorem dL_law_182 : decode cL_law 182 = .ok (.bipush 32, 2) := by decide +kernel
theorem dL_law_184 : decode cL_law 184 = .ok (.invokevirtual 246, 3) := by decide +kernel
theorem dL_law_187 : decode cL_law 187 = .ok (.aload_n 2, 1) := by decide +kernel
theorem dL_law_188 : decode cL_law 188 = .ok (.iconst 4, 1) := by decide +kernel
theorem dL_law_189 : decode cL_law 189 = .ok (.invokestatic 203, 3) := by decide +kernel
theorem dL_law_192 : decode cL_law 192 = .ok (.invokevirtual 243, 3) := by decide +kernel
theorem dL_law_195 : decode cL_law 195 = .ok (.pop, 1) := by decide +kernel
theorem dL_law_196 : decode cL_law 196 = .ok (.iinc 8 1, 3) := by decide +kernel
theorem dL_law_199 : decode cL_law 199 = .ok (.goto (-26), 3) := by decide +kernel
theorem dL_law_202 : decode cL_law 202 = .ok (.aload 6, 2) := by decide +kernel
theorem dL_law_204 : decode cL_law 204 = .ok (.bipush 59, 2) := by decide +kernel
theorem dL_law_206 : decode cL_law 206 = .ok (.invokevirtual 246, 3) := by decide +kernel
theorem dL_law_209 : decode cL_law 209 = .ok (.pop, 1) := by decide +kernel
theorem dL_law_210 : decode cL_law 210 = .ok (.iinc 7 1, 3) := by decide +kernel
theorem dL_law_213 : decode cL_law 213 = .ok (.goto (-74), 3) := by decide +kernel
theorem dL_law_83 : decode cL_law 83 = .ok (.iload 7, 2) := by decide +kernel
theorem dL_law_85 : decode cL_law 85 = .ok (.iload 5, 2) := by decide +kernel
theorem dL_law_87 : decode cL_law 87 = .ok (.if_icmp .ge 49, 3) := by decide +kernel
theorem dL_law_90 : decode cL_law 90 = .ok (.aload_n 2, 1) := by decide +kernel
theorem dL_law_91 : decode cL_law 91 = .ok (.iconst 3, 1) := by decide +kernel
theorem dL_law_92 : decode cL_law 92 = .ok (.invokestatic 203, 3) := by decide +kernel
theorem dL_law_95 : decode cL_law 95 = .ok (.ifCond .ne 35, 3) := by decide +kernel
theorem dL_law_98 : decode cL_law 98 = .ok (.aload 6, 2) := by decide +kernel
section
variable {p : Program} {l : Launch} {e : Env} {R : Room} {s : State} {m : MethodId} {args : Array Value} {below : List Frame} {meth : Method} {c : Code} {H : Heap} {locs : List Loc} {cells slots : Nat} {Q : State → Prop} {pc : Nat} {ls : Array Slot} {rest : List Value} {cc : ByteArray}
theorem j_ldcwS (hexec : p.tables.exec = Jvm.exec) (hb : c.code = cc) {own tx : String} {index q : Nat} (hown : s.vm.findClass own = some m.cls) (hZ : vk_R own index tx q s) (hdg : decode cc pc = .ok (.ldc_w index, 3))
    (k : W p l e R s m args below meth c H locs cells slots Q (F0 m (pc + 3) ls (.ref q :: rest))) : W p l e R s m args below meth c H locs cells slots Q (F0 m pc ls rest) := by
  intro T hT X
  obtain ⟨t, a1, b1⟩ := k T hT X
  obtain ⟨kc, cf, i, a', hk, hcf, hcp, -, hr, hev'⟩ := Cond.stringRef_spec hown hZ.1
  cases hZ.2.symm.trans hev'
  obtain ⟨k', hk', he⟩ := X.warmed.alike.2.2 _ _ hk
  have hr' : k'.resolved[index]? = some (some (.string q)) := by
    rcases X.warmed.entry hk hk' index with h | ⟨h, -⟩
    · rw [h]; exact hr
    · rw [hr] at h; cases h
  refine ⟨t, ?_, b1⟩
  jvm_step X.here [hexec, hb, hdg, ldc_w.wp_string (e := e) (s := T) (f := F0 m pc ls rest) X.here.top hk' (by rw [he]; exact hcf) hcp hr']
  exact a1
end
def twD : List Nat → List Nat
  | [] => []
  | d :: l => 32 :: (48 + d) :: twD l
theorem twD_len : ∀ l : List Nat, (twD l).length = 2 * l.length
  | [] => rfl
  | d :: l => by
    show (twD l).length + 1 + 1 = _
    rw [twD_len l, List.length_cons]
    omega
theorem twS_eq : ∀ l : List Nat, twS l = twD l ++ [59]
  | [] => rfl
  | d :: l => by
    show 32 :: (48 + d) :: twS l = _
    rw [twS_eq l]
    rfl
theorem twP_eq (a : Nat) (l : List Nat) : twP a l = [112, 108, 97, 121, 101, 114, 32] ++ ([a] ++ (twD l ++ [59])) := by
  unfold twP
  rw [twS_eq]
  rfl
theorem twBs_snoc : ∀ (bl : List (Nat × Nat)) (q : Nat × Nat), twBs (bl ++ [q]) = twBs bl ++ ([98, 108, 111, 99, 107, 32] ++ ([48 + q.1] ++ ([32] ++ ([48 + q.2] ++ [59]))))
  | [], q => rfl
  | x :: bl, q => by
    show twB x ++ twBs (bl ++ [q]) = (twB x ++ twBs bl) ++ _
    rw [twBs_snoc bl q, List.append_assoc]
theorem blOk_snoc {c r x y : Nat} (hx : x < c) (hy : y < r) : ∀ {bl : List (Nat × Nat)} {y0 : Nat}, y0 ≤ y → blOk c r y0 bl → (∀ q ∈ bl, q.2 < y) → blOk c r y0 (bl ++ [(x, y)])
  | [], _, h0, _, _ => ⟨hx, ⟨h0, hy⟩, trivial⟩
  | q :: bl, _, h0, h, h2 => ⟨h.1, h.2.1, blOk_snoc hx hy (by have := h2 q (List.mem_cons_self ..); omega) h.2.2 fun z hz => h2 z (List.mem_cons_of_mem _ hz)⟩
section
variable {p : Program} {l : Launch} {e : Env} {s : State} {m : MethodId} {args : Array Value} {below : List Frame} {meth : Method} {c : Code} {z L : Nat} {ro : Nat → Nat} {cA : FieldType → ClassId} {D DJ : va_G} {ra : Nat → Option (Nat × (Nat → Int32))} {Q : State → Prop} {H1 H : Heap} {locs : List Loc} {st0 st1 st2 st3 st4 : Nat}
/-- six supplies -/
theorem law_dig (hc : LC p s m args meth c z ro cA D DJ ra) {pp : Int32} {sb r cc o b : Nat} : ∀ (d i : Nat) (tx : List Nat) (H : Heap) (locs : List Loc) (cells slots : Nat) (ls : Array Slot), i + d = 6 → jBI s z ro cA DJ H1 sb tx H locs → tx.length + 2 * d ≤ 105 → cells + 2 * d ≤ 900 → slots + 500 * d ≤ 90000 → lv_has ls 13 [(8, .int (nI i)), (7, .int pp), (6, .ref sb), (5, .int (nI r)), (4, .int (nI cc)), (3, .ref o), (2, .ref z), (1, .int 0), (0, .ref b)] →
    (∀ (lz : List Nat) (H : Heap) (locs : List Loc) (ls : Array Slot), lz.length = d → (∀ v ∈ lz, v ≤ 9) → jBI s z ro cA DJ H1 sb (tx ++ twD lz) H locs → lv_has ls 13 [(8, .int (nI 6)), (7, .int pp), (6, .ref sb), (5, .int (nI r)), (4, .int (nI cc)), (3, .ref o), (2, .ref z), (1, .int 0), (0, .ref b)] → W p l e room_1 s m args below meth c H locs (cells + 2 * d) (slots + 500 * d) Q (F0 m 202 ls [])) → W p l e room_1 s m args below meth c H locs cells slots Q (F0 m 173 ls []) := by
  obtain ⟨hx, hb, hml, hown, hts, -⟩ := id hc
  intro d
  induction d with
  | zero =>
    intro i tx H locs cells slots ls hi hI h1 h2 h3 hl kk
    obtain rfl : i = 6 := by omega
    refine lv_iload hx hb dL_law_173 (lv_at hl 0 rfl) ?_
    refine lv_bipush (v := nI 6) hx hb dL_law_175 (by decide) ?_
    refine lv_icmp_ge (tgt := 202) hx hb dL_law_177 (by decide) (fun _ => ?_) (fun h0 => absurd (nI_le (Nat.le_refl 6) (by decide)) h0)
    exact kk [] H locs ls rfl (fun v hv => absurd hv List.not_mem_nil) (by show jBI s z ro cA DJ H1 sb (tx ++ []) H locs; rw [List.append_nil]; exact hI) hl
  | succ d ih =>
    intro i tx H locs cells slots ls hi hI h1 h2 h3 hl kk
    have h4 : slots + 500 ≤ 90000 := Nat.le_trans (Nat.add_le_add_left (Nat.le_mul_of_pos_right 500 (Nat.succ_pos d)) slots) h3
    refine lv_iload hx hb dL_law_173 (lv_at hl 0 rfl) ?_
    refine lv_bipush (v := nI 6) hx hb dL_law_175 (by decide) ?_
    refine lv_icmp_ge (tgt := 202) hx hb dL_law_177 (by decide) (fun h0 => absurd ((nI_leI (by decide) (by omega)).mp (show nI 6 ≤ nI i from h0)) (by omega)) (fun _ => ?_)
    refine lv_aload hx hb dL_law_180 (lv_at hl 2 rfl) ?_
    refine lv_bipush (v := nI 32) hx hb dL_law_182 (by decide) ?_
    refine B_char hc hl (ch := 32) (by omega) hI (by (try simp only [List.length_append, List.length_cons, List.length_nil]); omega) (by omega) (by omega) (Nat.le_of_ble_eq_true rfl) dL_law_184 (fun H locs hI => ?_)
    refine lv_aload_n hx hb dL_law_187 rfl (lv_at hl 6 rfl) ?_
    refine lv_iconst (v := 4) hx hb dL_law_188 (by decide) ?_
    refine B_drw hc hl (n := 4) (by omega) (by omega) hI (by omega) (by clear h3; omega) (Nat.le_of_ble_eq_true rfl) dL_law_189 (fun k H locs hk hI => ?_)
    refine B_dig hc hl (w := k) (by omega) hI (by (try simp only [List.length_append, List.length_cons, List.length_nil]); omega) (by omega) (by clear h3; omega) (Nat.le_of_ble_eq_true rfl) dL_law_192 (fun H locs hI => ?_)
    refine lv_pop hx hb dL_law_195 rfl ?_
    refine lv_iinc (nL := 13) (v := nI (i + 1)) hx hb dL_law_196 hl (k := 0) rfl (show nI i + Int32.ofInt 1 = nI (i + 1) from nI_1 i) (by decide) rfl (fun ls hl => ?_)
    have hl : lv_has ls 13 [(8, .int (nI (i + 1))), (7, .int pp), (6, .ref sb), (5, .int (nI r)), (4, .int (nI cc)), (3, .ref o), (2, .ref z), (1, .int 0), (0, .ref b)] := hl
    refine lv_goto (tgt := 173) hx hb dL_law_199 (by decide) ?_
    refine ih (i + 1) ((tx ++ [32]) ++ [48 + k]) H locs _ _ ls (by omega) hI (by (try simp only [List.length_append, List.length_cons, List.length_nil]); omega) (by omega) (by omega) hl (fun lz H locs ls z1 z2 z3 z4 => ?_)
    refine W.widen (k := cells + 2 * (d + 1)) (n := slots + 500 * (d + 1)) (by omega) (by omega) ?_
    refine kk (k :: lz) H locs ls (by rw [List.length_cons, z1]) (fun v hv => ?_) ?_ z4
    · rcases List.mem_cons.mp hv with h | h
      · omega
      · exact z2 v h
    · rw [List.append_assoc, List.append_assoc] at z3
      exact z3
theorem law_p0 (hc : LC p s m args meth c z ro cA D DJ ra) {sb r cc o b : Nat} (hv2 : vk_R "TrunkDuelLaw" 254 "player " st2 s) (hg2 : gTx [112, 108, 97, 121, 101, 114, 32] st2 (gA z ro) s s.heap) (hv3 : vk_R "TrunkDuelLaw" 256 "a" st3 s) (hg3 : gTx [97] st3 (gA z ro) s s.heap) {tx : List Nat} {cells slots : Nat} {ls : Array Slot} (hI : jBI s z ro cA DJ H1 sb tx H locs) (h1 : tx.length ≤ 81) (h2 : cells ≤ 800) (h3 : slots ≤ 70000) (hl : lv_has ls 13 [(7, .int 0), (6, .ref sb), (5, .int (nI r)), (4, .int (nI cc)), (3, .ref o), (2, .ref z), (1, .int 0), (0, .ref b)])
    (kk : ∀ (lz : List Nat) (H : Heap) (locs : List Loc) (ls : Array Slot), lz.length = 6 → (∀ v ∈ lz, v ≤ 9) → jBI s z ro cA DJ H1 sb (tx ++ twP 97 lz) H locs → lv_has ls 13 [(7, .int 1), (6, .ref sb), (5, .int (nI r)), (4, .int (nI cc)), (3, .ref o), (2, .ref z), (1, .int 0), (0, .ref b)] → W p l e room_1 s m args below meth c H locs (cells + 15) (slots + 3750) Q (F0 m 139 ls [])) : W p l e room_1 s m args below meth c H locs cells slots Q (F0 m 139 ls []) := by
  obtain ⟨hx, hb, hml, hown, hts, -⟩ := id hc
  refine lv_iload hx hb dL_law_139 (lv_at hl 0 rfl) ?_
  refine lv_iconst (v := 2) hx hb dL_law_141 (by decide) ?_
  refine lv_icmp_ge (tgt := 216) hx hb dL_law_142 (by decide) (fun h0 => absurd h0 (by decide)) (fun _ => ?_)
  refine lv_aload hx hb dL_law_145 (lv_at hl 1 rfl) ?_
  refine va_ldcS hx hb hown hv2 dL_law_147 ?_
  refine B_str hc hl (ys := [112, 108, 97, 121, 101, 114, 32]) hg2 (by decide) (by decide) hI (by (try simp only [List.length_append, List.length_cons, List.length_nil]); omega) (by omega) (by omega) (Nat.le_of_ble_eq_true rfl) dL_law_149 (fun H locs hI => ?_)
  refine lv_iload hx hb dL_law_152 (lv_at hl 0 rfl) ?_
  refine lv_if_ne (tgt := 163) hx hb dL_law_154 (by decide) (fun h0 => absurd rfl h0) (fun _ => ?_)
  refine j_ldcwS hx hb hown hv3 dL_law_157 ?_
  refine lv_goto (tgt := 166) hx hb dL_law_160 (by decide) ?_
  refine B_str hc hl (ys := [97]) hg3 (by decide) (by decide) hI (by (try simp only [List.length_append, List.length_cons, List.length_nil]); omega) (by omega) (by omega) (Nat.le_of_ble_eq_true rfl) dL_law_166 (fun H locs hI => ?_)
  refine lv_pop hx hb dL_law_169 rfl ?_
  refine lv_iconst (v := 0) hx hb dL_law_170 (by decide) ?_
  refine lv_istore (nL := 13) hx hb dL_law_171 hl (by decide) rfl (fun ls hl => ?_)
  have hl : lv_has ls 13 [(8, .int 0), (7, .int 0), (6, .ref sb), (5, .int (nI r)), (4, .int (nI cc)), (3, .ref o), (2, .ref z), (1, .int 0), (0, .ref b)] := hl
  refine law_dig hc 6 0 _ H locs _ _ ls rfl hI (by (try simp only [List.length_append, List.length_cons, List.length_nil]); omega) (by omega) (by omega) hl (fun lz H locs ls z1 z2 hI hl => ?_)
  have hlz := twD_len lz
  rw [z1] at hlz
  refine lv_aload hx hb dL_law_202 (lv_at hl 2 rfl) ?_
  refine lv_bipush (v := nI 59) hx hb dL_law_204 (by decide) ?_
  refine B_char hc hl (ch := 59) (by omega) hI (by (try simp only [List.length_append, List.length_cons, List.length_nil]); omega) (by omega) (by omega) (Nat.le_of_ble_eq_true rfl) dL_law_206 (fun H locs hI => ?_)
  refine lv_pop hx hb dL_law_209 rfl ?_
  refine lv_iinc (nL := 13) (v := 1) hx hb dL_law_210 hl (k := 1) rfl (by decide) (by decide) rfl (fun ls hl => ?_)
  have hl : lv_has ls 13 [(7, .int (1)), (8, .int (nI 6)), (6, .ref sb), (5, .int (nI r)), (4, .int (nI cc)), (3, .ref o), (2, .ref z), (1, .int 0), (0, .ref b)] := hl
  refine lv_goto (tgt := 139) hx hb dL_law_213 (by decide) ?_
  refine W.widen (k := cells + 15) (n := slots + 3750) (by omega) (by omega) ?_
  refine kk lz H locs ls z1 z2 ?_ (lv_sub hl [0, 2, 3, 4, 5, 6, 7, 8] rfl)
  rw [twP_eq]
  simpa only [List.append_assoc] using hI
theorem law_p1 (hc : LC p s m args meth c z ro cA D DJ ra) {sb r cc o b : Nat} (hv2 : vk_R "TrunkDuelLaw" 254 "player " st2 s) (hg2 : gTx [112, 108, 97, 121, 101, 114, 32] st2 (gA z ro) s s.heap) (hv4 : vk_R "TrunkDuelLaw" 258 "b" st4 s) (hg4 : gTx [98] st4 (gA z ro) s s.heap) {tx : List Nat} {cells slots : Nat} {ls : Array Slot} (hI : jBI s z ro cA DJ H1 sb tx H locs) (h1 : tx.length ≤ 81) (h2 : cells ≤ 800) (h3 : slots ≤ 70000) (hl : lv_has ls 13 [(7, .int 1), (6, .ref sb), (5, .int (nI r)), (4, .int (nI cc)), (3, .ref o), (2, .ref z), (1, .int 0), (0, .ref b)])
    (kk : ∀ (lz : List Nat) (H : Heap) (locs : List Loc) (ls : Array Slot), lz.length = 6 → (∀ v ∈ lz, v ≤ 9) → jBI s z ro cA DJ H1 sb (tx ++ twP 98 lz) H locs → lv_has ls 13 [(7, .int 2), (6, .ref sb), (5, .int (nI r)), (4, .int (nI cc)), (3, .ref o), (2, .ref z), (1, .int 0), (0, .ref b)] → W p l e room_1 s m args below meth c H locs (cells + 15) (slots + 3750) Q (F0 m 139 ls [])) : W p l e room_1 s m args below meth c H locs cells slots Q (F0 m 139 ls []) := by
  obtain ⟨hx, hb, hml, hown, hts, -⟩ := id hc
  refine lv_iload hx hb dL_law_139 (lv_at hl 0 rfl) ?_
  refine lv_iconst (v := 2) hx hb dL_law_141 (by decide) ?_
  refine lv_icmp_ge (tgt := 216) hx hb dL_law_142 (by decide) (fun h0 => absurd h0 (by decide)) (fun _ => ?_)
  refine lv_aload hx hb dL_law_145 (lv_at hl 1 rfl) ?_
  refine va_ldcS hx hb hown hv2 dL_law_147 ?_
  refine B_str hc hl (ys := [112, 108, 97, 121, 101, 114, 32]) hg2 (by decide) (by decide) hI (by (try simp only [List.length_append, List.length_cons, List.length_nil]); omega) (by omega) (by omega) (Nat.le_of_ble_eq_true rfl) dL_law_149 (fun H locs hI => ?_)
  refine lv_iload hx hb dL_law_152 (lv_at hl 0 rfl) ?_
  refine lv_if_ne (tgt := 163) hx hb dL_law_154 (by decide) (fun _ => ?_) (fun h0 => absurd h0 (by decide))
  refine j_ldcwS hx hb hown hv4 dL_law_163 ?_
  refine B_str hc hl (ys := [98]) hg4 (by decide) (by decide) hI (by (try simp only [List.length_append, List.length_cons, List.length_nil]); omega) (by omega) (by omega) (Nat.le_of_ble_eq_true rfl) dL_law_166 (fun H locs hI => ?_)
  refine lv_pop hx hb dL_law_169 rfl ?_
  refine lv_iconst (v := 0) hx hb dL_law_170 (by decide) ?_
  refine lv_istore (nL := 13) hx hb dL_law_171 hl (by decide) rfl (fun ls hl => ?_)
  have hl : lv_has ls 13 [(8, .int 0), (7, .int 1), (6, .ref sb), (5, .int (nI r)), (4, .int (nI cc)), (3, .ref o), (2, .ref z), (1, .int 0), (0, .ref b)] := hl
  refine law_dig hc 6 0 _ H locs _ _ ls rfl hI (by (try simp only [List.length_append, List.length_cons, List.length_nil]); omega) (by omega) (by omega) hl (fun lz H locs ls z1 z2 hI hl => ?_)
  have hlz := twD_len lz
  rw [z1] at hlz
  refine lv_aload hx hb dL_law_202 (lv_at hl 2 rfl) ?_
  refine lv_bipush (v := nI 59) hx hb dL_law_204 (by decide) ?_
  refine B_char hc hl (ch := 59) (by omega) hI (by (try simp only [List.length_append, List.length_cons, List.length_nil]); omega) (by omega) (by omega) (Nat.le_of_ble_eq_true rfl) dL_law_206 (fun H locs hI => ?_)
  refine lv_pop hx hb dL_law_209 rfl ?_
  refine lv_iinc (nL := 13) (v := 2) hx hb dL_law_210 hl (k := 1) rfl (by decide) (by decide) rfl (fun ls hl => ?_)
  have hl : lv_has ls 13 [(7, .int (2)), (8, .int (nI 6)), (6, .ref sb), (5, .int (nI r)), (4, .int (nI cc)), (3, .ref o), (2, .ref z), (1, .int 0), (0, .ref b)] := hl
  refine lv_goto (tgt := 139) hx hb dL_law_213 (by decide) ?_
  refine W.widen (k := cells + 15) (n := slots + 3750) (by omega) (by omega) ?_
  refine kk lz H locs ls z1 z2 ?_ (lv_sub hl [0, 2, 3, 4, 5, 6, 7, 8] rfl)
  rw [twP_eq]
  simpa only [List.append_assoc] using hI
/-- the blocks -/
theorem law_blk (hc : LC p s m args meth c z ro cA D DJ ra) {sb r cc o b : Nat} (hcc : 3 ≤ cc ∧ cc ≤ 6) (hr : 3 ≤ r ∧ r ≤ 5) (hv1 : vk_R "TrunkDuelLaw" 249 "block " st1 s) (hg1 : gTx [98, 108, 111, 99, 107, 32] st1 (gA z ro) s s.heap) {Q : State → Prop} {t0 : List Nat} (ht0 : t0.length = 10)
    (kk : ∀ (bl : List (Nat × Nat)) (H : Heap) (locs : List Loc) (ls : Array Slot), blOk cc r 0 bl → bl.length ≤ r → jBI s z ro cA DJ H1 sb (t0 ++ twBs bl) H locs → lv_has ls 13 [(7, .int (nI r)), (6, .ref sb), (5, .int (nI r)), (4, .int (nI cc)), (3, .ref o), (2, .ref z), (1, .int 0), (0, .ref b)] → W p l e room_1 s m args below meth c H locs (300 + 5 * r) (20000 + 1250 * r) Q (F0 m 136 ls [])) : ∀ (d y : Nat) (bl : List (Nat × Nat)) (H : Heap) (locs : List Loc) (ls : Array Slot), y + d = r → blOk cc r 0 bl → (∀ q ∈ bl, q.2 < y) → bl.length ≤ y → jBI s z ro cA DJ H1 sb (t0 ++ twBs bl) H locs → lv_has ls 13 [(7, .int (nI y)), (6, .ref sb), (5, .int (nI r)), (4, .int (nI cc)), (3, .ref o), (2, .ref z), (1, .int 0), (0, .ref b)] → W p l e room_1 s m args below meth c H locs (300 + 5 * y) (20000 + 1250 * y) Q (F0 m 83 ls []) := by
  obtain ⟨hx, hb, hml, hown, hts, -⟩ := id hc
  intro d
  induction d with
  | zero =>
    intro y bl H locs ls hy q1 q2 q3 hI hl
    obtain rfl : y = r := by omega
    refine lv_iload hx hb dL_law_83 (lv_at hl 0 rfl) ?_
    refine lv_iload hx hb dL_law_85 (lv_at hl 2 rfl) ?_
    refine lv_icmp_ge (tgt := 136) hx hb dL_law_87 (by decide) (fun _ => ?_) (fun h0 => absurd (nI_le (Nat.le_refl y) (by omega)) h0)
    exact kk bl H locs ls q1 q3 hI hl
  | succ d ih =>
    intro y bl H locs ls hy q1 q2 q3 hI hl
    have hbl := twBs_len bl
    obtain ⟨tx, htx⟩ : ∃ tx, tx = t0 ++ twBs bl := ⟨_, rfl⟩
    have hlen : tx.length ≤ 10 + 10 * y := by rw [htx, List.length_append, ht0, hbl]; omega
    rw [← htx] at hI
    obtain ⟨cells, hcl⟩ : ∃ n, n = 300 + 5 * y := ⟨_, rfl⟩
    obtain ⟨slots, hsl⟩ : ∃ n, n = 20000 + 1250 * y := ⟨_, rfl⟩
    rw [← hcl, ← hsl]
    refine lv_iload hx hb dL_law_83 (lv_at hl 0 rfl) ?_
    refine lv_iload hx hb dL_law_85 (lv_at hl 2 rfl) ?_
    refine lv_icmp_ge (tgt := 136) hx hb dL_law_87 (by decide) (fun h0 => absurd ((nI_leI (by omega) (by omega)).mp (show nI r ≤ nI y from h0)) (by omega)) (fun _ => ?_)
    refine lv_aload_n hx hb dL_law_90 rfl (lv_at hl 5 rfl) ?_
    refine lv_iconst (v := 3) hx hb dL_law_91 (by decide) ?_
    refine B_drw hc hl (n := 3) (by omega) (by omega) hI (by omega) (by omega) (Nat.le_of_ble_eq_true rfl) dL_law_92 (fun k H locs hk hI => ?_)
    by_cases k0 : k = 0
    · subst k0
      refine lv_if_ne (tgt := 130) hx hb dL_law_95 (by decide) (fun h0 => absurd rfl h0) (fun _ => ?_)
      refine lv_aload hx hb dL_law_98 (lv_at hl 1 rfl) ?_
      refine va_ldcS hx hb hown hv1 dL_law_100 ?_
      refine B_str hc hl (ys := [98, 108, 111, 99, 107, 32]) hg1 (by decide) (by decide) hI (by (try simp only [List.length_append, List.length_cons, List.length_nil]); omega) (by omega) (by omega) (Nat.le_of_ble_eq_true rfl) dL_law_102 (fun H locs hI => ?_)
      refine lv_aload_n hx hb dL_law_105 rfl (lv_at hl 5 rfl) ?_
      refine lv_iload hx hb dL_law_106 (lv_at hl 3 rfl) ?_
      refine B_drw hc hl (n := cc) (by omega) (by omega) hI (by omega) (by omega) (Nat.le_of_ble_eq_true rfl) dL_law_108 (fun x H locs hx9 hI => ?_)
      refine B_dig hc hl (w := x) (by omega) hI (by (try simp only [List.length_append, List.length_cons, List.length_nil]); omega) (by omega) (by omega) (Nat.le_of_ble_eq_true rfl) dL_law_111 (fun H locs hI => ?_)
      refine lv_bipush (v := nI 32) hx hb dL_law_114 (by decide) ?_
      refine B_char hc hl (ch := 32) (by omega) hI (by (try simp only [List.length_append, List.length_cons, List.length_nil]); omega) (by omega) (by omega) (Nat.le_of_ble_eq_true rfl) dL_law_116 (fun H locs hI => ?_)
      refine lv_iload hx hb dL_law_119 (lv_at hl 0 rfl) ?_
      refine B_dig hc hl (w := y) (by omega) hI (by (try simp only [List.length_append, List.length_cons, List.length_nil]); omega) (by omega) (by omega) (Nat.le_of_ble_eq_true rfl) dL_law_121 (fun H locs hI => ?_)
      refine lv_bipush (v := nI 59) hx hb dL_law_124 (by decide) ?_
      refine B_char hc hl (ch := 59) (by omega) hI (by (try simp only [List.length_append, List.length_cons, List.length_nil]); omega) (by omega) (by omega) (Nat.le_of_ble_eq_true rfl) dL_law_126 (fun H locs hI => ?_)
      refine lv_pop hx hb dL_law_129 rfl ?_
      refine lv_iinc (nL := 13) (v := nI (y + 1)) hx hb dL_law_130 hl (k := 0) rfl (show nI y + Int32.ofInt 1 = nI (y + 1) from nI_1 y) (by decide) rfl (fun ls hl => ?_)
      have hl : lv_has ls 13 [(7, .int (nI (y + 1))), (6, .ref sb), (5, .int (nI r)), (4, .int (nI cc)), (3, .ref o), (2, .ref z), (1, .int 0), (0, .ref b)] := hl
      refine lv_goto (tgt := 83) hx hb dL_law_133 (by decide) ?_
      refine W.widen (k := 300 + 5 * (y + 1)) (n := 20000 + 1250 * (y + 1)) (by omega) (by omega) ?_
      refine ih (y + 1) (bl ++ [(x, y)]) H locs ls (by omega) (blOk_snoc hx9 (by omega) (Nat.zero_le _) q1 q2) (fun q hq => ?_) (by rw [List.length_append]; simp only [List.length_cons, List.length_nil]; omega) ?_ hl
      · rcases List.mem_append.mp hq with h | h
        · have := q2 q h; omega
        · rw [List.mem_singleton.mp h]; omega
      · rw [twBs_snoc, ← List.append_assoc, ← htx]
        simpa only [List.append_assoc] using hI
    · refine lv_if_ne (tgt := 130) hx hb dL_law_95 (by decide) (fun _ => ?_) (fun h0 => absurd ((nI_eq (by omega) (by decide)).mp (show nI k = nI 0 from h0)) k0)
      refine lv_iinc (nL := 13) (v := nI (y + 1)) hx hb dL_law_130 hl (k := 0) rfl (show nI y + Int32.ofInt 1 = nI (y + 1) from nI_1 y) (by decide) rfl (fun ls hl => ?_)
      have hl : lv_has ls 13 [(7, .int (nI (y + 1))), (6, .ref sb), (5, .int (nI r)), (4, .int (nI cc)), (3, .ref o), (2, .ref z), (1, .int 0), (0, .ref b)] := hl
      refine lv_goto (tgt := 83) hx hb dL_law_133 (by decide) ?_
      refine W.widen (k := 300 + 5 * (y + 1)) (n := 20000 + 1250 * (y + 1)) (by omega) (by omega) ?_
      exact ih (y + 1) bl H locs ls (by omega) q1 (fun q hq => by have := q2 q hq; omega) (by omega) (by rw [← htx]; exact hI) hl
end
