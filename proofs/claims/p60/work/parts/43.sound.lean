/-! ===== soundness: primitives; the theorem ===== -/
theorem gTexts_small : ∀ tx ∈ gTexts, tx.length < 2 ^ 31 ∧ ∀ ch ∈ tx, ch < 128 := by decide +kernel
section Snd7
variable {z : Nat} {ro : Nat → Nat} {cA : FieldType → ClassId} {D : va_G} {roArr : Nat → Option (Nat × (Nat → Int32))}
variable {m rc rs pc : Nat} {ls : GL} {st : List Value} {G : GH} {Q : GQ}
theorem gBle_el {c : Bool} {A : Prop} (h : bif c then A else False) : c = true ∧ A := gBif_el h
theorem gCat_le {r : List Value} (h : Nat.ble (gCat r) 8 = true) : ((r.map (gv z ro)).map fun v => v.category).sum ≤ 8 := by rw [gCat_sum]; exact Nat.le_of_ble_eq_true h
theorem gPrim_chk {idx n a b c d e : Nat} (he : 20 ≤ e) (hE : gEnt m pc (.invokestatic idx, n, a, b, c, d, e)) : 2 ≤ gFrames m ∧ 8 + (nativeFrameWords "java/lang/System" "arraycopy" 5 + 11) ≤ gLocs m ∧ 21 ≤ gLocs m := by
  have hk := hE.1
  simp only [gChk, Bool.and_eq_true, decide_eq_true_eq, beq_iff_eq] at hk
  have hk := hk.2
  rw [show Nat.ble 20 e = true from Nat.ble_eq_true_of_le he] at hk
  simp only [cond_true, Bool.and_eq_true, decide_eq_true_eq] at hk
  exact ⟨hk.1.1, hk.1.2, hk.2⟩
theorem snd_min (hF : gFactsA) {idx n a b c d : Nat} {x y : Int32} {r : List Value} (hE : gEnt m pc (.invokestatic idx, n, a, b, c, d, 20)) (hst : st = .int y :: .int x :: r) (h8 : Nat.ble (gCat r) 8 = true) (h : SND z ro cA D roArr m rc rs n ls (.int (if y < x then y else x) :: r) G Q) : SND z ro cA D roArr m rc rs pc ls st G Q := by
  obtain ⟨hd, hn⟩ := gChk_dec hE.1
  subst hn
  subst hst
  obtain ⟨k1, k2, k3⟩ := gPrim_chk (by decide) hE
  obtain ⟨f1, f2, f3, f4, f5, f6, f7⟩ := hF.1.2.2.2.1
  have hl2 : Cond.methodLink (gY m).cls idx Lib.Math.min.name ∈ gw := hE.2
  intro p l e R s mid args below meth c H locs cells slots lsr hC hr hl hS hc hs
  have h9 := gCat_le (z := z) (ro := ro) h8
  have g1 := hC.fr
  have g2 := hC.lo
  exact va_mmin hC.1 hC.2.1 (hC.ml.trans hl.1.symm) hC.own (hC.hts _ hl2) (hC.hts _ f1) (hC.hts _ f4) (hC.hts _ f5) (by omega) (by omega) (by omega) (by omega) hd (h _ _ _ _ _ _ _ _ _ _ _ _ _ _ _ hC hr hl hS hc hs)
theorem snd_max (hF : gFactsA) {idx n a b c d : Nat} {x y : Int32} {r : List Value} (hE : gEnt m pc (.invokestatic idx, n, a, b, c, d, 21)) (hst : st = .int y :: .int x :: r) (h8 : Nat.ble (gCat r) 8 = true) (h : SND z ro cA D roArr m rc rs n ls (.int (if x < y then y else x) :: r) G Q) : SND z ro cA D roArr m rc rs pc ls st G Q := by
  obtain ⟨hd, hn⟩ := gChk_dec hE.1
  subst hn
  subst hst
  obtain ⟨k1, k2, k3⟩ := gPrim_chk (by decide) hE
  obtain ⟨f1, f2, f3, f4, f5, f6, f7⟩ := hF.1.2.2.2.1
  have hl2 : Cond.methodLink (gY m).cls idx Lib.Math.max.name ∈ gw := hE.2
  intro p l e R s mid args below meth c H locs cells slots lsr hC hr hl hS hc hs
  have h9 := gCat_le (z := z) (ro := ro) h8
  have g1 := hC.fr
  have g2 := hC.lo
  exact va_mmax hC.1 hC.2.1 (hC.ml.trans hl.1.symm) hC.own (hC.hts _ hl2) (hC.hts _ f2) (hC.hts _ f4) (hC.hts _ f6) (by omega) (by omega) (by omega) (by omega) hd (h _ _ _ _ _ _ _ _ _ _ _ _ _ _ _ hC hr hl hS hc hs)
theorem snd_abs (hF : gFactsA) {idx n a b c d : Nat} {x : Int32} {r : List Value} (hE : gEnt m pc (.invokestatic idx, n, a, b, c, d, 22)) (hst : st = .int x :: r) (h8 : Nat.ble (gCat r) 8 = true) (h : SND z ro cA D roArr m rc rs n ls (.int (if 0 ≤ x then x else 0 - x) :: r) G Q) : SND z ro cA D roArr m rc rs pc ls st G Q := by
  obtain ⟨hd, hn⟩ := gChk_dec hE.1
  subst hn
  subst hst
  obtain ⟨k1, k2, k3⟩ := gPrim_chk (by decide) hE
  obtain ⟨f1, f2, f3, f4, f5, f6, f7⟩ := hF.1.2.2.2.1
  have hl2 : Cond.methodLink (gY m).cls idx Lib.Math.abs.name ∈ gw := hE.2
  intro p l e R s mid args below meth c H locs cells slots lsr hC hr hl hS hc hs
  have h9 := gCat_le (z := z) (ro := ro) h8
  have g1 := hC.fr
  have g2 := hC.lo
  exact va_mabs hC.1 hC.2.1 (hC.ml.trans hl.1.symm) hC.own (hC.hts _ hl2) (hC.hts _ f3) (hC.hts _ f4) (hC.hts _ f7) (by omega) (by omega) (by omega) (by omega) hd (h _ _ _ _ _ _ _ _ _ _ _ _ _ _ _ hC hr hl hS hc hs)
theorem snd_acopy (hF : gFactsA) {idx n a b c d : Nat} {k dp sp : Int32} {q o : Nat} {r : List Value} (hE : gEnt m pc (.invokestatic idx, n, a, b, c, d, 25)) (hst : st = .int k :: .int dp :: .ref q :: .int sp :: .ref o :: r) (h8 : Nat.ble (gCat r) 8 = true)
    (h : q < gRB ∧ o < gRB ∧ ∃ ty m0 m1 f g ka da sa, G.2 o = some (.inr (ty, m0, .inl f)) ∧ G.2 q = some (.inr (ty, m1, .inl g)) ∧ (ty = .int ∨ ty = .boolean ∧ ∀ i, f i = nI 0 ∨ f i = nI 1) ∧ k = nI ka ∧ dp = nI da ∧ sp = nI sa ∧ ka < 2 ^ 31 ∧ da < 2 ^ 31 ∧ sa < 2 ^ 31 ∧ sa + ka ≤ m0 ∧ da + ka ≤ m1 ∧ SND z ro cA D roArr m rc rs n ls r (gU G q (.inr (ty, m1, .inl (va_cpy f g sa da ka)))) Q) : SND z ro cA D roArr m rc rs pc ls st G Q := by
  obtain ⟨hd, hn⟩ := gChk_dec hE.1
  subst hn
  subst hst
  obtain ⟨k1, k2, k3⟩ := gPrim_chk (by decide) hE
  obtain ⟨f1, f2, f3⟩ := hF.1.2.2.2.2.1
  have hl2 : Cond.methodLink (gY m).cls idx arraycopyName ∈ gw := hE.2
  obtain ⟨hq, ho, ty, m0, m1, f, g, ka, da, sa, e1, e2, e3, rfl, rfl, rfl, e7, e8, e9, e10, e11, h⟩ := h
  intro p l e R s mid args below meth c H locs cells slots lsr hC hr hl hS hc hs
  have h9 := gCat_le (z := z) (ro := ro) h8
  have g1 := hC.fr
  have g2 := hC.lo
  exact g_copy hC.1 hC.2.1 (hC.ml.trans hl.1.symm) hC.own (hC.hts _ hl2) (hC.hts _ f1) (hC.hts _ f2) (hC.hts _ f3) hC.K hr hS ho hq e1 e2 e3 e7 e8 e9 e10 e11 (by omega) (by omega) hd fun H1 locs1 hr1 hS1 => h _ _ _ _ _ _ _ _ _ _ _ _ _ _ _ hC hr1 hl hS1 hc hs
theorem snd_oinit (hF : gFactsA) {idx n a b c d o : Nat} {r : List Value} (hE : gEnt m pc (.invokespecial idx, n, a, b, c, d, 26)) (hst : st = .ref o :: r) (h8 : Nat.ble (gCat r) 8 = true) (h : SND z ro cA D roArr m rc rs n ls r G Q) : SND z ro cA D roArr m rc rs pc ls st G Q := by
  obtain ⟨hd, hn⟩ := gChk_dec hE.1
  subst hn
  subst hst
  have hk := hE.1
  simp only [gChk, Bool.and_eq_true, decide_eq_true_eq, beq_iff_eq] at hk
  have hk := hk.2
  rw [show Nat.ble 20 26 = true from rfl] at hk
  simp only [cond_true, Bool.and_eq_true, decide_eq_true_eq] at hk
  obtain ⟨f1, f2⟩ := hF.1.2.2.2.2.2.1
  have hl2 : Cond.methodLink (gY m).cls idx objectInit ∈ gw := hE.2
  intro p l e R s mid args below meth c H locs cells slots lsr hC hr hl hS hc hs
  have h9 := gCat_le (z := z) (ro := ro) h8
  have g1 := hC.fr
  have g2 := hC.lo
  refine W.objInit hC.1 hC.2.1 hC.own (hC.hts _ hl2) (hC.hts _ f1) (hC.hts _ f2) rfl (hl.1.trans hC.ml.symm) (a := gAd z ro o) (rest := r.map (gv z ro)) rfl hd (by omega) (by show 2 * 0 + _ + 12 ≤ _; omega) ?_
  exact h _ _ _ _ _ _ _ _ _ _ _ _ _ _ _ hC hr hl hS hc hs
theorem gStr_el {o : Nat} {tx : List Nat} (h : gStr o = some tx) : ∃ i, o = 100016 + i ∧ gTexts[i]? = some tx := by
  unfold gStr at h
  split at h
  · cases h
  · exact ⟨o - 100016, by omega, h⟩
theorem gStr_chk {idx n a b c d e : Nat} (he : 20 ≤ e) (hE : gEnt m pc (.invokevirtual idx, n, a, b, c, d, e)) : 6 ≤ gFrames m ∧ 160 ≤ gLocs m := by
  have hk := hE.1
  simp only [gChk, Bool.and_eq_true, decide_eq_true_eq, beq_iff_eq] at hk
  have hk := hk.2
  rw [show Nat.ble 20 e = true from Nat.ble_eq_true_of_le he] at hk
  simpa using hk
theorem snd_slen (hF : gFactsA) {idx n a b c d o : Nat} {r : List Value} {tx : List Nat} (hE : gEnt m pc (.invokevirtual idx, n, a, b, c, d, 23)) (hst : st = .ref o :: r) (h8 : Nat.ble (gCat r) 8 = true) (htx : gStr o = some tx) (h : SND z ro cA D roArr m rc rs n ls (.int (nI tx.length) :: r) G Q) : SND z ro cA D roArr m rc rs pc ls st G Q := by
  obtain ⟨hd, hn⟩ := gChk_dec hE.1
  subst hn
  subst hst
  obtain ⟨k1, k2⟩ := gStr_chk (by decide) hE
  obtain ⟨i, rfl, hi⟩ := gStr_el htx
  have hsm := (gTexts_small tx (List.mem_of_getElem? hi)).1
  have hl2 : Cond.methodLink (gY m).cls idx yJ0_length_8abf5 ∈ gw := hE.2
  obtain ⟨q1, q2, q3, q4, -⟩ := List.forall_mem_cons.mp hF.1.2.2.2.2.2.2 |>.imp id fun t => (List.forall_mem_cons.mp t).imp id fun t => (List.forall_mem_cons.mp t).imp id fun t => List.forall_mem_cons.mp t
  intro p l e R s mid args below meth c H locs cells slots lsr hC hr hl hS hc hs
  have h9 := gCat_le (z := z) (ro := ro) h8
  have g1 := hC.fr
  have g2 := hC.lo
  have hEH : gEnv z ro cA D roArr s H := hC.env.to (State.WarmedH.refl s) hS.2.1
  have hT := hEH.2.2.2.2.2.2.1 i tx hi
  have e1 : gAd z ro (100016 + i) = ro (100016 + i) := gAd_ro (by simp only [gRB]; omega)
  show W p l e R s mid args below meth c H locs cells slots _ (F0 mid pc lsr (.ref (gAd z ro (100016 + i)) :: r.map (gv z ro)))
  rw [e1]
  refine g_calln (va_runV (n := 0) (C := RJ0) (As := []) (rest := r.map (gv z ro)) ⟨hC.1, hC.2.1, hC.ml, hC.own, hC.hts⟩ (gm_length (z := z) (ro := ro) (cA := cA) (D := D) (roArr := roArr) l (ro (100016 + i)) tx hsm) (cwV 0 hC.hts (gGood_mem hl2 q1 q2 q3 (gCode_mem q4)) rfl rfl rfl (by decide +kernel) ⟨by show 2 + 1 ≤ _; omega, by show 8 + (1 + 11) + 40 ≤ _; omega⟩)
    ⟨fun a U g mk q => ⟨q.1, gEnv.blind q.2.1, q.2.2⟩, (by obtain ⟨v, hO, -⟩ := hT; obtain ⟨cell, h1, h2, h3, -⟩ := hO; exact ⟨cell, h1, h2, h3⟩), fun U hU hW => ⟨rfl, hEH.to hW (fun q _ _ => by rw [hU]), by
      obtain ⟨v, hO, hco, hva, hTt⟩ := hT
      rw [hU]
      exact ⟨v, hO.moved hW.alike, hco.moved hW.alike, hva.moved hW.alike, hTt.moved hW.alike⟩⟩⟩ rfl rfl hl.1 rfl (lv_room h9) hd ⟨by omega, by omega⟩) (fun x hx0 => ?_)
  subst hx0
  exact h _ _ _ _ _ _ _ _ _ _ _ _ _ _ _ hC hr hl hS hc hs
theorem snd_scharAt (hF : gFactsA) {idx n a b c d o k ch : Nat} {r : List Value} {tx : List Nat} (hE : gEnt m pc (.invokevirtual idx, n, a, b, c, d, 24)) (hst : st = .int (nI k) :: .ref o :: r) (h8 : Nat.ble (gCat r) 8 = true) (htx : gStr o = some tx) (hch : tx[k]? = some ch) (h : SND z ro cA D roArr m rc rs n ls (.int (nI ch) :: r) G Q) : SND z ro cA D roArr m rc rs pc ls st G Q := by
  obtain ⟨hd, hn⟩ := gChk_dec hE.1
  subst hn
  subst hst
  obtain ⟨k1, k2⟩ := gStr_chk (by decide) hE
  obtain ⟨i, rfl, hi⟩ := gStr_el htx
  obtain ⟨hsm, hsm2⟩ := gTexts_small tx (List.mem_of_getElem? hi)
  have hch2 := hsm2 ch (List.mem_of_getElem? hch)
  have hl2 : Cond.methodLink (gY m).cls idx yJ0_charAt_5068e ∈ gw := hE.2
  obtain ⟨q1, q2, q3, q4, q5, q6, q7, -⟩ := List.forall_mem_cons.mp hF.1.2.2.2.2.2.2 |>.imp id fun t => (List.forall_mem_cons.mp t).imp id fun t => (List.forall_mem_cons.mp t).imp id fun t => (List.forall_mem_cons.mp t).imp id fun t => (List.forall_mem_cons.mp t).imp id fun t => (List.forall_mem_cons.mp t).imp id fun t => List.forall_mem_cons.mp t
  intro p l e R s mid args below meth c H locs cells slots lsr hC hr hl hS hc hs
  have h9 := gCat_le (z := z) (ro := ro) h8
  have g1 := hC.fr
  have g2 := hC.lo
  have hEH : gEnv z ro cA D roArr s H := hC.env.to (State.WarmedH.refl s) hS.2.1
  have hT := hEH.2.2.2.2.2.2.1 i tx hi
  have e1 : gAd z ro (100016 + i) = ro (100016 + i) := gAd_ro (by simp only [gRB]; omega)
  show W p l e R s mid args below meth c H locs cells slots _ (F0 mid pc lsr (.int (nI k) :: .ref (gAd z ro (100016 + i)) :: r.map (gv z ro)))
  rw [e1]
  refine g_calln (va_runV (n := 1) (C := RJ0) (As := [.int (nI k)]) (rest := r.map (gv z ro)) ⟨hC.1, hC.2.1, hC.ml, hC.own, hC.hts⟩ (gm_charAt (z := z) (ro := ro) (cA := cA) (D := D) (roArr := roArr) l (ro (100016 + i)) k tx ch hch hch2 hsm) (cwV 1 hC.hts (gGood_mem hl2 q5 q6 q3 (gCode_mem q7)) rfl rfl rfl (by decide +kernel) ⟨by show 4 + 1 ≤ _; omega, by show 8 + (2 + 11) + 100 ≤ _; omega⟩)
    ⟨fun a U g mk q => ⟨q.1, gEnv.blind q.2.1, q.2.2⟩, (by obtain ⟨v, hO, -⟩ := hT; obtain ⟨cell, h1, h2, h3, -⟩ := hO; exact ⟨cell, h1, h2, h3⟩), fun U hU hW => ⟨rfl, hEH.to hW (fun q _ _ => by rw [hU]), by
      obtain ⟨v, hO, hco, hva, hTt⟩ := hT
      rw [hU]
      exact ⟨v, hO.moved hW.alike, hco.moved hW.alike, hva.moved hW.alike, hTt.moved hW.alike⟩⟩⟩ rfl rfl hl.1 rfl (lv_room h9) hd ⟨by omega, by omega⟩) (fun x hx0 => ?_)
  subst hx0
  exact h _ _ _ _ _ _ _ _ _ _ _ _ _ _ _ hC hr hl hS hc hs
theorem snd_dlen (hF : gFactsA) {idx n a b c d o k : Nat} {f : Nat → Int32} {r : List Value} (hE : gEnt m pc (.invokevirtual idx, n, a, b, c, d, 27)) (hst : st = .ref o :: r) (h8 : Nat.ble (gCat r) 8 = true) (ho : gRB ≤ o) (hG : G.2 o = some (.inr (.byte, k, .inl f))) (h : SND z ro cA D roArr m rc rs n ls (.int (nI k) :: r) G Q) : SND z ro cA D roArr m rc rs pc ls st G Q := by
  obtain ⟨hd, hn⟩ := gChk_dec hE.1
  subst hn
  subst hst
  obtain ⟨k1, k2⟩ := gStr_chk (by decide) hE
  have hl2 : Cond.methodLink (gY m).cls idx yJ0_length_8abf5 ∈ gw := hE.2
  obtain ⟨q1, q2, q3, q4, -⟩ := List.forall_mem_cons.mp hF.1.2.2.2.2.2.2 |>.imp id fun t => (List.forall_mem_cons.mp t).imp id fun t => (List.forall_mem_cons.mp t).imp id fun t => List.forall_mem_cons.mp t
  intro p l e R s mid args below meth c H locs cells slots lsr hC hr hl hS hc hs
  have h9 := gCat_le (z := z) (ro := ro) h8
  have g1 := hC.fr
  have g2 := hC.lo
  have hEH : gEnv z ro cA D roArr s H := hC.env.to (State.WarmedH.refl s) hS.2.1
  obtain ⟨q', hq, hgt⟩ : ∃ q', roArr o = some q' ∧ (Sum.inr (gRt o, q'.1, Sum.inl q'.2) : GC) = .inr (.byte, k, .inl f) := by
    obtain ⟨_, _, _, _, _, h4, _⟩ := hr
    have e1 := h4 o ho
    rw [hG] at e1
    cases hq : roArr o with
    | none => rw [hq] at e1; cases e1
    | some q' => rw [hq] at e1; exact ⟨q', rfl, (Option.some.inj e1).symm⟩
  have hdy : o = gDY := by
    by_cases e : o = gDY
    · exact e
    · rw [gRt, if_neg e] at hgt; cases hgt
  subst hdy
  obtain ⟨tx, t1, hsm, t3, t4, hT⟩ := (hEH.2.2.2.2.1 gDY q' ho hq).2 rfl
  cases hgt
  have e1 : gAd z ro gDY = ro gDY := gAd_ro ho
  show W p l e R s mid args below meth c H locs cells slots _ (F0 mid pc lsr (.ref (gAd z ro gDY) :: r.map (gv z ro)))
  rw [e1]
  refine g_calln (va_runV (n := 0) (C := RJ0) (As := []) (rest := r.map (gv z ro)) ⟨hC.1, hC.2.1, hC.ml, hC.own, hC.hts⟩ (gm_length (z := z) (ro := ro) (cA := cA) (D := D) (roArr := roArr) l (ro gDY) tx hsm) (cwV 0 hC.hts (gGood_mem hl2 q1 q2 q3 (gCode_mem q4)) rfl rfl rfl (by decide +kernel) ⟨by show 2 + 1 ≤ _; omega, by show 8 + (1 + 11) + 40 ≤ _; omega⟩)
    ⟨fun a U g mk q => ⟨q.1, gEnv.blind q.2.1, q.2.2⟩, (by obtain ⟨v, hO, -⟩ := hT; obtain ⟨cell, h1, h2, h3, -⟩ := hO; exact ⟨cell, h1, h2, h3⟩), fun U hU hW => ⟨rfl, hEH.to hW (fun q _ _ => by rw [hU]), by
      obtain ⟨v, hO, hco, hva, hTt⟩ := hT
      rw [hU]
      exact ⟨v, hO.moved hW.alike, hco.moved hW.alike, hva.moved hW.alike, hTt.moved hW.alike⟩⟩⟩ rfl rfl hl.1 rfl (lv_room h9) hd ⟨by omega, by omega⟩) (fun x hx0 => ?_)
  subst hx0
  rw [t1]
  exact h _ _ _ _ _ _ _ _ _ _ _ _ _ _ _ hC hr hl hS hc hs
theorem snd_dcharAt (hF : gFactsA) {idx n a b c d o kk : Nat} {f : Nat → Int32} {j : Int32} {r : List Value} (hE : gEnt m pc (.invokevirtual idx, n, a, b, c, d, 28)) (hst : st = .int j :: .ref o :: r) (h8 : Nat.ble (gCat r) 8 = true) (ho : gRB ≤ o) (hG : G.2 o = some (.inr (.byte, kk, .inl f))) (hin : vp_in j kk) (h : SND z ro cA D roArr m rc rs n ls (.int (f j.toNatClampNeg) :: r) G Q) : SND z ro cA D roArr m rc rs pc ls st G Q := by
  obtain ⟨hd, hn⟩ := gChk_dec hE.1
  subst hn
  subst hst
  obtain ⟨k1, k2⟩ := gStr_chk (by decide) hE
  have hl2 : Cond.methodLink (gY m).cls idx yJ0_charAt_5068e ∈ gw := hE.2
  obtain ⟨q1, q2, q3, q4, q5, q6, q7, -⟩ := List.forall_mem_cons.mp hF.1.2.2.2.2.2.2 |>.imp id fun t => (List.forall_mem_cons.mp t).imp id fun t => (List.forall_mem_cons.mp t).imp id fun t => (List.forall_mem_cons.mp t).imp id fun t => (List.forall_mem_cons.mp t).imp id fun t => (List.forall_mem_cons.mp t).imp id fun t => List.forall_mem_cons.mp t
  intro p l e R s mid args below meth c H locs cells slots lsr hC hr hl hS hc hs
  have h9 := gCat_le (z := z) (ro := ro) h8
  have g1 := hC.fr
  have g2 := hC.lo
  have hEH : gEnv z ro cA D roArr s H := hC.env.to (State.WarmedH.refl s) hS.2.1
  obtain ⟨q', hq, hgt⟩ : ∃ q', roArr o = some q' ∧ (Sum.inr (gRt o, q'.1, Sum.inl q'.2) : GC) = .inr (.byte, kk, .inl f) := by
    obtain ⟨_, _, _, _, _, h4, _⟩ := hr
    have e1 := h4 o ho
    rw [hG] at e1
    cases hq : roArr o with
    | none => rw [hq] at e1; cases e1
    | some q' => rw [hq] at e1; exact ⟨q', rfl, (Option.some.inj e1).symm⟩
  have hdy : o = gDY := by
    by_cases e : o = gDY
    · exact e
    · rw [gRt, if_neg e] at hgt; cases hgt
  subst hdy
  obtain ⟨tx, t1, hsm, t3, t4, hT⟩ := (hEH.2.2.2.2.1 gDY q' ho hq).2 rfl
  cases hgt
  obtain ⟨k, hkk, rfl⟩ : ∃ k, k < q'.1 ∧ j = nI k := by
    obtain ⟨j0, j1⟩ := vp_in_iff.mp hin
    refine ⟨j.toInt.toNat, by omega, Int32.toInt_inj.mp ?_⟩
    rw [nI_toInt (by omega)]
    omega
  have hch : tx[k]? = some (tx.getD k 0) := by
    rw [List.getD_eq_getElem?_getD, List.getElem?_eq_getElem (by omega)]
    rfl
  have hch2 := t3 _ (List.mem_of_getElem? hch)
  have hf := t4 k hkk
  have e1 : gAd z ro gDY = ro gDY := gAd_ro ho
  show W p l e R s mid args below meth c H locs cells slots _ (F0 mid pc lsr (.int (nI k) :: .ref (gAd z ro gDY) :: r.map (gv z ro)))
  rw [e1]
  refine g_calln (va_runV (n := 1) (C := RJ0) (As := [.int (nI k)]) (rest := r.map (gv z ro)) ⟨hC.1, hC.2.1, hC.ml, hC.own, hC.hts⟩ (gm_charAt (z := z) (ro := ro) (cA := cA) (D := D) (roArr := roArr) l (ro gDY) k tx _ hch hch2 hsm) (cwV 1 hC.hts (gGood_mem hl2 q5 q6 q3 (gCode_mem q7)) rfl rfl rfl (by decide +kernel) ⟨by show 4 + 1 ≤ _; omega, by show 8 + (2 + 11) + 100 ≤ _; omega⟩)
    ⟨fun a U g mk q => ⟨q.1, gEnv.blind q.2.1, q.2.2⟩, (by obtain ⟨v, hO, -⟩ := hT; obtain ⟨cell, h1, h2, h3, -⟩ := hO; exact ⟨cell, h1, h2, h3⟩), fun U hU hW => ⟨rfl, hEH.to hW (fun q _ _ => by rw [hU]), by
      obtain ⟨v, hO, hco, hva, hTt⟩ := hT
      rw [hU]
      exact ⟨v, hO.moved hW.alike, hco.moved hW.alike, hva.moved hW.alike, hTt.moved hW.alike⟩⟩⟩ rfl rfl hl.1 rfl (lv_room h9) hd ⟨by omega, by omega⟩) (fun x hx0 => ?_)
  subst hx0
  rw [← hf]
  rw [nI_clamp (by omega)] at h
  exact h _ _ _ _ _ _ _ _ _ _ _ _ _ _ _ hC hr hl hS hc hs
end Snd7
