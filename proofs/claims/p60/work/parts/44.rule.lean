/-! ===== soundness: every step; WP is sound ===== -/
section Snd8
variable {z : Nat} {ro : Nat → Nat} {cA : FieldType → ClassId} {D : va_G} {roArr : Nat → Option (Nat × (Nat → Int32))}
variable {m rc rs pc : Nat} {ls : GL} {st : List Value} {G : GH} {Q : GQ}
theorem snd_less {rc0 rs0 : Nat} {ls0 : GL} (h1 : rc0 ≤ rc) (h2 : rs0 ≤ rs) (h3 : gSub ls0 ls) (h : SND z ro cA D roArr m rc0 rs0 pc ls0 st G Q) : SND z ro cA D roArr m rc rs pc ls st G Q :=
  fun _ _ _ _ _ _ _ _ _ _ _ _ _ _ _ hC hr hl hS hc hs => h _ _ _ _ _ _ _ _ _ _ _ _ _ _ _ hC hr (hl.sub h3.2) hS (by omega) (by omega)
theorem snd_static (hF : gFactsA) {idx n a b c d e : Nat} (hE : gEnt m pc (.invokestatic idx, n, a, b, c, d, e)) (h : gInv (gCx (SND z ro cA D roArr)) (fun rc rs pc ls st G => SND z ro cA D roArr m rc rs pc ls st G Q) Q gStr (gHh m) rc rs pc ls st G n a b c d e) : SND z ro cA D roArr m rc rs pc ls st G Q := by
  by_cases he : e < 5 ∨ e = 10 ∨ e = 11
  · exact snd_static_own hF he hE h
  · have hl := hE.2
    by_cases h20 : e = 20
    · subst h20
      simp only [gInv] at h
      split at h
      · obtain ⟨h8, h⟩ := gBif_el h
        exact snd_min hF hE rfl h8 h
      · exact h.elim
    by_cases h21 : e = 21
    · subst h21
      simp only [gInv] at h
      split at h
      · obtain ⟨h8, h⟩ := gBif_el h
        exact snd_max hF hE rfl h8 h
      · exact h.elim
    by_cases h22 : e = 22
    · subst h22
      simp only [gInv] at h
      split at h
      · obtain ⟨h8, h⟩ := gBif_el h
        exact snd_abs hF hE rfl h8 h
      · exact h.elim
    by_cases h25 : e = 25
    · subst h25
      simp only [gInv] at h
      split at h
      · obtain ⟨h8, h⟩ := gBif_el h
        exact snd_acopy hF hE rfl h8 h
      · exact h.elim
    exfalso
    unfold gLnk at hl
    dsimp only at hl
    split at hl <;> first | omega | exact hl
theorem snd_virtual (hF : gFactsA) {idx n a b c d e : Nat} (hE : gEnt m pc (.invokevirtual idx, n, a, b, c, d, e)) (h0 : gRcv gCls e a b st G) (h : gInv (gCx (SND z ro cA D roArr)) (fun rc rs pc ls st G => SND z ro cA D roArr m rc rs pc ls st G Q) Q gStr (gHh m) rc rs pc ls st G n a b c d e) : SND z ro cA D roArr m rc rs pc ls st G Q := by
  by_cases he : e < 5 ∨ e = 10 ∨ e = 11
  · exact snd_virtual_own hF he hE h0 h
  · have hl := hE.2
    by_cases h23 : e = 23
    · subst h23
      simp only [gInv] at h
      split at h
      · obtain ⟨h8, tx, h1, h⟩ := gBif_el h
        exact snd_slen hF hE rfl h8 h1 h
      · exact h.elim
    by_cases h24 : e = 24
    · subst h24
      simp only [gInv] at h
      split at h
      · obtain ⟨h8, tx, k, ch, h1, rfl, h3, h⟩ := gBif_el h
        exact snd_scharAt hF hE rfl h8 h1 h3 h
      · exact h.elim
    by_cases h27 : e = 27
    · subst h27
      simp only [gInv] at h
      split at h
      · obtain ⟨h8, h0, k, f, h1, h⟩ := gBif_el h
        exact snd_dlen hF hE rfl h8 h0 h1 h
      · exact h.elim
    by_cases h28 : e = 28
    · subst h28
      simp only [gInv] at h
      split at h
      · obtain ⟨h8, h0, k, f, h1, h2, h⟩ := gBif_el h
        exact snd_dcharAt hF hE rfl h8 h0 h1 h2 h
      · exact h.elim
    exfalso
    unfold gLnk at hl
    dsimp only at hl
    split at hl <;> first | omega | exact hl
theorem snd_special (hF : gFactsA) {idx n a b c d e : Nat} (hE : gEnt m pc (.invokespecial idx, n, a, b, c, d, e)) (h0 : gRcv gCls e a b st G) (h : gInv (gCx (SND z ro cA D roArr)) (fun rc rs pc ls st G => SND z ro cA D roArr m rc rs pc ls st G Q) Q gStr (gHh m) rc rs pc ls st G n a b c d e) : SND z ro cA D roArr m rc rs pc ls st G Q := by
  by_cases he : e = 1
  · subst he
    exact snd_special_own hF hE h0 h
  · have hl := hE.2
    by_cases h26 : e = 26
    · subst h26
      simp only [gInv] at h
      split at h
      · obtain ⟨h8, h⟩ := gBif_el h
        exact snd_oinit hF hE rfl h8 h
      · exact h.elim
    exfalso
    unfold gLnk at hl
    dsimp only at hl
    split at hl <;> first | omega | exact hl
set_option maxHeartbeats 4000000 in
theorem snd_step (hF : gFactsA) (h : gStep (SND z ro cA D roArr) m rc rs pc ls st G Q) : SND z ro cA D roArr m rc rs pc ls st G Q := by
  unfold gStep stepG at h
  cases hT : gLook (gTab m) pc with
  | none => rw [hT] at h; exact h.elim
  | some E =>
    obtain ⟨i, n, a, b, c, d, e⟩ := E
    rw [hT] at h
    have hE : gEnt m pc (i, n, a, b, c, d, e) := hF.1.1 m pc _ hT
    obtain ⟨hd, hn⟩ := gChk_dec hE.1
    cases i with
    | iconst v => subst hn; exact snd_lin h fun hC _ k => lv_iconst hC.1 hC.2.1 hd (by have q := hE.1; simp only [gChk, Bool.and_eq_true, decide_eq_true_eq, beq_iff_eq] at q; exact q.2) k
    | bipush v => subst hn; exact snd_lin h fun hC _ k => lv_bipush hC.1 hC.2.1 hd (by have q := hE.1; simp only [gChk, Bool.and_eq_true, decide_eq_true_eq, beq_iff_eq] at q; exact q.2) k
    | sipush v => subst hn; exact snd_lin h fun hC _ k => lv_sipush hC.1 hC.2.1 hd (by have q := hE.1; simp only [gChk, Bool.and_eq_true, decide_eq_true_eq, beq_iff_eq] at q; exact q.2) k
    | lconst k => subst hn; exact snd_lin h fun hC _ k => lv_lconst hC.1 hC.2.1 hd rfl k
    | fconst k =>
      subst hn
      have h0 : k = 0 := by have q := hE.1; simp only [gChk, Bool.and_eq_true, decide_eq_true_eq, beq_iff_eq] at q; exact q.2
      subst h0
      exact snd_lin h fun hC _ k => lv_fconst0 hC.1 hC.2.1 hd k
    | dconst k =>
      subst hn
      have h0 : k = 0 := by have q := hE.1; simp only [gChk, Bool.and_eq_true, decide_eq_true_eq, beq_iff_eq] at q; exact q.2
      subst h0
      exact snd_lin h fun hC _ k => lv_dconst0 hC.1 hC.2.1 hd k
    | ldc idx => exact snd_ldc hE h
    | ldc_w idx => exact snd_ldcw hE h
    | iload_n k => subst hn; obtain ⟨x, hx, h⟩ := gLdI_el h; exact snd_ld hx h fun hC hv k => lv_iload_n hC.1 hC.2.1 hd rfl hv k
    | iload k => subst hn; obtain ⟨x, hx, h⟩ := gLdI_el h; exact snd_ld hx h fun hC hv k => lv_iload hC.1 hC.2.1 hd hv k
    | aload_n k => subst hn; obtain ⟨x, hx, h⟩ := gLdA_el h; exact snd_ld hx h fun hC hv k => lv_aload_n hC.1 hC.2.1 hd rfl hv k
    | aload k => subst hn; obtain ⟨x, hx, h⟩ := gLdA_el h; exact snd_ld hx h fun hC hv k => lv_aload hC.1 hC.2.1 hd hv k
    | dload k => subst hn; obtain ⟨x, hx, h⟩ := gLdD_el h; exact snd_ld hx h fun hC hv k => lv_dload hC.1 hC.2.1 hd hv k
    | istore_n k =>
      subst hn
      dsimp only at h
      split at h
      · next x r => exact snd_st h fun hC hl kk => lv_istore_n hC.1 hC.2.1 hd rfl hl (by have q := hE.1; simp only [gChk, Bool.and_eq_true, decide_eq_true_eq, beq_iff_eq] at q; exact q.2) rfl fun lsr' hl' => kk lsr' (gLoc.st1 (x := .int x) hl')
      · exact h.elim
    | istore k =>
      subst hn
      dsimp only at h
      split at h
      · next x r => exact snd_st h fun hC hl kk => lv_istore hC.1 hC.2.1 hd hl (by have q := hE.1; simp only [gChk, Bool.and_eq_true, decide_eq_true_eq, beq_iff_eq] at q; exact q.2) rfl fun lsr' hl' => kk lsr' (gLoc.st1 (x := .int x) hl')
      · exact h.elim
    | astore_n k =>
      subst hn
      dsimp only at h
      split at h
      · next x r => exact snd_st h fun hC hl kk => lv_astore_n hC.1 hC.2.1 hd rfl hl (by have q := hE.1; simp only [gChk, Bool.and_eq_true, decide_eq_true_eq, beq_iff_eq] at q; exact q.2) rfl fun lsr' hl' => kk lsr' (gLoc.st1 (x := .ref x) hl')
      · exact h.elim
    | astore k =>
      subst hn
      dsimp only at h
      split at h
      · next x r => exact snd_st h fun hC hl kk => lv_astore hC.1 hC.2.1 hd hl (by have q := hE.1; simp only [gChk, Bool.and_eq_true, decide_eq_true_eq, beq_iff_eq] at q; exact q.2) rfl fun lsr' hl' => kk lsr' (gLoc.st1 (x := .ref x) hl')
      · exact h.elim
    | dstore k =>
      subst hn
      dsimp only at h
      split at h
      · next x r => exact snd_st h fun hC hl kk => lv_dstore hC.1 hC.2.1 hd hl (by have q := hE.1; simp only [gChk, Bool.and_eq_true, decide_eq_true_eq, beq_iff_eq] at q; exact q.2) rfl fun lsr' hl' => kk lsr' (gLoc.st2 (x := .double x) hl')
      · exact h.elim
    | iinc k v => exact snd_iinc hE h
    | iadd =>
      dsimp only at h
      split at h
      · exact snd_arith (by simp) hE rfl h
      · exact h.elim
    | isub =>
      dsimp only at h
      split at h
      · exact snd_arith (by simp) hE rfl h
      · exact h.elim
    | imul =>
      dsimp only at h
      split at h
      · exact snd_arith (by simp) hE rfl h
      · exact h.elim
    | iand =>
      dsimp only at h
      split at h
      · exact snd_arith (by simp) hE rfl h
      · exact h.elim
    | ior =>
      dsimp only at h
      split at h
      · exact snd_arith (by simp) hE rfl h
      · exact h.elim
    | ishl =>
      dsimp only at h
      split at h
      · exact snd_arith (by simp) hE rfl h
      · exact h.elim
    | ishr =>
      dsimp only at h
      split at h
      · exact snd_arith (by simp) hE rfl h
      · exact h.elim
    | iushr =>
      dsimp only at h
      split at h
      · exact snd_arith (by simp) hE rfl h
      · exact h.elim
    | idiv =>
      dsimp only at h
      split at h
      · exact snd_arith (by simp) hE rfl h
      · exact h.elim
    | irem =>
      dsimp only at h
      split at h
      · exact snd_arith (by simp) hE rfl h
      · exact h.elim
    | ineg =>
      subst hn
      dsimp only at h
      split at h
      · exact snd_lin h fun hC _ k => lv_ineg hC.1 hC.2.1 hd k
      · exact h.elim
    | i2l =>
      subst hn
      dsimp only at h
      split at h
      · exact snd_lin h fun hC _ k => lv_i2l hC.1 hC.2.1 hd rfl k
      · exact h.elim
    | i2d =>
      subst hn
      dsimp only at h
      split at h
      · exact snd_lin h fun hC _ k => lv_i2d hC.1 hC.2.1 hd k
      · exact h.elim
    | i2f =>
      subst hn
      dsimp only at h
      split at h
      · exact snd_lin h fun hC _ k => lv_i2f hC.1 hC.2.1 hd k
      · exact h.elim
    | f2d =>
      subst hn
      dsimp only at h
      split at h
      · exact snd_lin h.2 fun hC _ k => lv_f2d hC.1 hC.2.1 hd h.1 k
      · exact h.elim
    | ddiv =>
      subst hn
      dsimp only at h
      split at h
      · exact snd_lin h.2 fun hC _ k => lv_ddiv hC.1 hC.2.1 hd h.1 k
      · exact h.elim
    | fdiv =>
      subst hn
      dsimp only at h
      split at h
      · exact snd_lin h.2 fun hC _ k => lv_fdiv hC.1 hC.2.1 hd h.1 k
      · exact h.elim
    | lcmp =>
      subst hn
      dsimp only at h
      split at h
      · exact snd_lin h fun hC _ k => W.lcmp hC.1 hC.2.1 hd k
      · exact h.elim
    | dcmp op =>
      subst hn
      dsimp only at h
      split at h
      · exact snd_lin h fun hC _ k => lv_dcmp hC.1 hC.2.1 hd k
      · exact h.elim
    | pop =>
      subst hn
      dsimp only at h
      split at h
      · exact snd_lin h fun hC _ k => lv_pop hC.1 hC.2.1 hd rfl k
      · exact snd_lin h fun hC _ k => lv_pop hC.1 hC.2.1 hd rfl k
      · exact h.elim
    | dup =>
      subst hn
      dsimp only at h
      split at h
      · exact snd_lin h fun hC _ k => lv_dup hC.1 hC.2.1 hd rfl k
      · exact snd_lin h fun hC _ k => lv_dup hC.1 hC.2.1 hd rfl k
      · exact h.elim
    | dup2 =>
      subst hn
      dsimp only at h
      split at h
      · exact snd_lin h fun hC _ k => lv_dup2_11 hC.1 hC.2.1 hd rfl rfl k
      · exact h.elim
    | ifCond cd o =>
      dsimp only at h
      split at h
      · exact snd_if hE rfl h
      · exact h.elim
    | if_icmp cd o =>
      dsimp only at h
      split at h
      · exact snd_icmp hE rfl h
      · exact h.elim
    | goto o => exact snd_lin h fun hC _ k => lv_goto hC.1 hC.2.1 hd (by have q := hE.1; simp only [gChk, Bool.and_eq_true, decide_eq_true_eq, beq_iff_eq] at q; exact q.2) k
    | tableswitch df lo hi os =>
      dsimp only at h
      split at h
      · exact snd_switch hE rfl h
      · exact h.elim
    | getfield idx =>
      dsimp only at h
      split at h
      · split at h
        · obtain ⟨fs, x, h1, h2, h⟩ := h
          exact snd_getfield hF.1 hE rfl h1 h2 h
        · obtain ⟨fs, x, h1, h2, h⟩ := h
          exact snd_getfield hF.1 hE rfl h1 h2 h
      · exact h.elim
    | putfield idx =>
      dsimp only at h
      split at h
      · obtain ⟨h0, fs, h1, h2, h⟩ := h
        exact snd_putfield hF.1 hE rfl h0 h1 h2 h
      · exact h.elim
    | getstatic idx => exact snd_getstatic hE h
    | iaload =>
      dsimp only at h
      split at h
      · obtain ⟨k, f, h1, h2, h⟩ := h
        exact snd_iaload hE rfl h1 h2 h
      · exact h.elim
    | baload =>
      dsimp only at h
      split at h
      · obtain ⟨h0, k, f, h1, h2, h⟩ := h
        exact snd_baload hE rfl h0 h1 h2 h
      · exact h.elim
    | laload => exact h.elim
    | aaload =>
      dsimp only at h
      split at h
      · obtain ⟨h0, k, f, y, h1, h2, h3, h⟩ := h
        exact snd_aaload hE rfl h0 h1 h2 h3 h
      · exact h.elim
    | iastore =>
      dsimp only at h
      split at h
      · obtain ⟨h0, k, f, h1, h2, h⟩ := h
        exact snd_iastore hE rfl h0 h1 h2 h
      · exact h.elim
    | bastore =>
      dsimp only at h
      split at h
      · obtain ⟨h0, h00, k, f, h1, h2, h⟩ := h
        exact snd_bastore hE rfl h0 h00 h1 h2 h
      · exact h.elim
    | lastore => exact h.elim
    | aastore =>
      dsimp only at h
      split at h
      · obtain ⟨h0, h00, k, f, fs, h1, h2, h3, h⟩ := h
        exact snd_aastore hE rfl h0 h00 h1 h2 h3 h
      · exact h.elim
    | arraylength =>
      dsimp only at h
      split at h
      · obtain ⟨k, f, h1, h2, h⟩ := h
        exact snd_alen hE rfl h1 h
      · exact h.elim
    | newarray ty =>
      dsimp only at h
      split at h
      · obtain ⟨h1, h2, h3, k, rfl, h5, h6, h⟩ := h
        exact snd_newarray hE rfl h1 h2 h3 h5 h6 h
      · exact h.elim
    | anewarray idx =>
      dsimp only at h
      split at h
      · obtain ⟨h1, h2, h3, k, rfl, h5, h6, h⟩ := h
        exact snd_anewarray hE rfl h1 h2 h3 h5 h6 h
      · exact h.elim
    | new idx =>
      cases e with
      | zero =>
        obtain ⟨h1, h2, h3, h4, h⟩ := h
        exact snd_new hF.1 hE h1 h2 h3 h4 h
      | succ e =>
        obtain ⟨h1, h2, h3⟩ := h
        obtain ⟨h3, h⟩ := gBif_el h3
        exact snd_throw hE h1 h2 h3 h
    | invokevirtual idx => exact snd_virtual hF hE h.1 h.2
    | invokestatic idx => exact snd_static hF hE h
    | invokespecial idx => exact snd_special hF hE h.1 h.2
    | ireturn =>
      dsimp only at h
      split at h
      · exact snd_ireturn hE rfl h
      · exact h.elim
    | areturn =>
      dsimp only at h
      split at h
      · exact snd_areturn hE rfl h
      · exact h.elim
    | dreturn =>
      dsimp only at h
      split at h
      · exact snd_dreturn hE rfl h
      · exact h.elim
    | freturn =>
      dsimp only at h
      split at h
      · exact snd_freturn hE rfl h
      · exact h.elim
    | return_ =>
      dsimp only at h
      split at h
      · exact snd_return hE rfl h
      · exact h.elim
    | _ => exact h.elim
/-- WP is sound -/
theorem WP.snd (hF : gFactsA) (h : WP m rc rs pc ls st G Q) : SND z ro cA D roArr m rc rs pc ls st G Q :=
  h (SND z ro cA D roArr) fun _ _ _ _ _ _ _ _ q => q.elim (snd_step hF) fun ⟨_, _, _, h1, h2, h3, h4⟩ => snd_less h1 h2 h3 h4
end Snd8
