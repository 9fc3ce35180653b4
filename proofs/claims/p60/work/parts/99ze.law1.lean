/-! ===== p60: the law's first part: what stands while the text is built ===== -/
section
variable {p : Program} {l : Launch} {e : Env} {s : State} {m : MethodId} {args : Array Value} {below : List Frame} {meth : Method} {c : Code} {z L : Nat} {ro : Nat → Nat} {cA : FieldType → ClassId} {D DJ : va_G} {ra : Nat → Option (Nat × (Nat → Int32))}
/-- the law's frame, the words -/
def LC (p : Program) (s : State) (m : MethodId) (args : Array Value) (meth : Method) (c : Code) (z : Nat) (ro : Nat → Nat) (cA : FieldType → ClassId) (D DJ : va_G) (ra : Nat → Option (Nat × (Nat → Int32))) : Prop :=
  p.tables.exec = Jvm.exec ∧ c.code = cL_law ∧ c.maxLocals = 13 ∧ s.vm.findClass RL = some m.cls ∧ (∀ w ∈ jw, w.before args s = true) ∧ gEnv z ro cA D ra s s.heap ∧ va_K DJ jCl [(cA .byte, .byte)] s ∧ va_K DJ jCl [(cA .int, .int)] s ∧ jDg (gA z ro) s s.heap ∧ ro 99999 = 0 ∧ s.heap.size = z
/-- the law's state alone -/
def DI (s : State) (z : Nat) (ro : Nat → Nat) (cA : FieldType → ClassId) (H1 H : Heap) (locs : List Loc) : Prop :=
  (∃ f, H[z]? = some (vp_cell (cA .int) (1, .inl f))) ∧ va_S (gA z ro) s.heap H locs ∧ (∀ q, z + 1 ≤ q → q < z + 249 → H[q]? = H1[q]?) ∧ z + 249 ≤ H.size
/-- a builder with the text tx -/
def BP (cA : FieldType → ClassId) (DJ : va_G) (z sb : Nat) (tx : List Nat) (H : Heap) : Prop :=
  ∃ v a M, va_P DJ jCl (jW (cA .byte) sb v 0 (nI tx.length) a M) H ∧ z + 249 ≤ sb ∧ z + 249 ≤ v ∧ sb ≠ v ∧ (M = 22 ∨ M = 46 ∨ M = 94 ∨ M = 190) ∧ tx.length ≤ M ∧ sb_Fit a ∧ (∀ j, j < tx.length → a j = nI (tx.getD j 0)) ∧ ∀ ch ∈ tx, ch < 128
def jBI (s : State) (z : Nat) (ro : Nat → Nat) (cA : FieldType → ClassId) (DJ : va_G) (H1 : Heap) (sb : Nat) (tx : List Nat) (H : Heap) (locs : List Loc) : Prop := DI s z ro cA H1 H locs ∧ BP cA DJ z sb tx H
theorem gA_z (hro : ro 99999 = 0) {q : Nat} (h : z ≤ q) : gA z ro q := ⟨h, Or.inr (by rw [hro]; exact Nat.zero_le _)⟩
theorem jD_of {cB : ClassId} {sb v : Nat} {ml n : Int32} {a : Nat → Int32} {M : Nat} (h : sb ≠ v) : va_D (fun _ => True) (jW cB sb v ml n a M) := by
  refine ⟨fun i j p q hi hj e => ?_, fun _ _ _ => trivial⟩
  match i, j with
  | 0, 0 => rfl
  | 1, 1 => rfl
  | 0, 1 =>
    cases hi
    cases hj
    exact absurd e h
  | 1, 0 =>
    cases hi
    cases hj
    exact absurd e.symm h
  | i + 2, _ => cases hi
  | 0, j + 2 => cases hj
  | 1, j + 2 => cases hj
theorem capset {q M : Nat} (hM : M = 22 ∨ M = 46 ∨ M = 94 ∨ M = 190) (h : q ≤ M + 7) (h2 : q ≤ 120) : sb_cap q M = 22 ∨ sb_cap q M = 46 ∨ sb_cap q M = 94 ∨ sb_cap q M = 190 := by
  unfold sb_cap
  by_cases c : q ≤ M
  · rw [if_pos c]; exact hM
  · rw [if_neg c, if_neg (by omega)]
    omega
/-- what a builder's method leaves -/
theorem jBI.next {H1 H H' : Heap} {locs locs' : List Loc} {sb v v' M M' : Nat} {a a' : Nat → Int32} {tx ys : List Nat} (hI : jBI s z ro cA DJ H1 sb tx H locs) (hv0 : z + 249 ≤ v) (hsb : z + 249 ≤ sb) (ha : ∀ j, j < tx.length → a j = nI (tx.getD j 0)) (hM : M = 22 ∨ M = 46 ∨ M = 94 ∨ M = 190) (hlen : tx.length ≤ M) (hy : ys.length ≤ 7) (h120 : tx.length + ys.length ≤ 120) (hys : ∀ ch ∈ ys, ch < 128) (htx : ∀ ch ∈ tx, ch < 128)
    (hP : va_P DJ jCl (jW (cA .byte) sb v' 0 (nI (tx.length + ys.length)) a' M') H') (hD : va_D (jF sb v H.size) (jW (cA .byte) sb v' 0 (nI (tx.length + ys.length)) a' M')) (hq : M' ≤ 250 ∧ (tx.length + ys.length ≤ M' ∧ M' = sb_cap (tx.length + ys.length) M) ∧ sb_Fit a' ∧ (∀ j, j < tx.length → a' j = a j) ∧ ∀ i, i < ys.length → a' (tx.length + i) = nI (ys.getD i 0))
    (hz1 : H.size ≤ H'.size) (hk1 : ∀ q, q < H.size → ¬ jF sb v H.size q → H'[q]? = H[q]?) (hS : va_S (gA z ro) s.heap H' locs') : jBI s z ro cA DJ H1 sb (tx ++ ys) H' locs' := by
  obtain ⟨⟨⟨f, h0⟩, -, hT, hsz⟩, -⟩ := hI
  obtain ⟨q1, ⟨q2, q3⟩, q4, q5, q6⟩ := hq
  have keep : ∀ q, q < z + 249 → H'[q]? = H[q]? := fun q h => hk1 q (by omega) (by
    rintro (h | h | h) <;> omega)
  have hv' : z + 249 ≤ v' := by
    rcases hD.2 1 _ rfl with h | h | h
    · have : v' = sb := h
      omega
    · have : v' = v := h
      omega
    · have : H.size ≤ v' := h
      omega
  refine ⟨⟨⟨f, by rw [keep z (by omega)]; exact h0⟩, hS, fun q h1 h2 => by rw [keep q h2]; exact hT q h1 h2, by omega⟩, v', a', M', ?_, hsb, hv', fun e => absurd (hD.1 0 1 _ _ rfl rfl e) (by decide), by rw [q3]; exact capset hM (by omega) h120, by rw [List.length_append]; exact q2, q4, fun j hj => ?_, fun ch hch => ?_⟩
  · rw [List.length_append]
    exact hP
  · rw [List.length_append] at hj
    rw [List.getD_eq_getElem?_getD]
    by_cases c : j < tx.length
    · rw [List.getElem?_append_left c, q5 j c, ha j c, List.getD_eq_getElem?_getD]
    · rw [List.getElem?_append_right (by omega), ← List.getD_eq_getElem?_getD, ← q6 (j - tx.length) (by omega)]
      congr 1
      omega
  · rcases List.mem_append.mp hch with h | h
    · exact htx ch h
    · exact hys ch h
theorem jBI.sz {H1 H : Heap} {locs : List Loc} {sb : Nat} {tx : List Nat} (hI : jBI s z ro cA DJ H1 sb tx H locs) : z + 249 ≤ H.size := hI.1.2.2.2
variable {Q : State → Prop} {H1 H : Heap} {locs : List Loc} {cells slots pc sb : Nat} {ls : Array Slot} {lv : List (Nat × Value)} {tx : List Nat} {rest : List Value}
theorem jF_gA (hro : ro 99999 = 0) {v sz : Nat} (h1 : z + 249 ≤ sb) (h2 : z + 249 ≤ v) (h3 : z + 249 ≤ sz) : ∀ q, jF sb v sz q → gA z ro q := fun q h => gA_z hro (by
  rcases h with h | h | h <;> omega)
/-- append(char) -/
theorem B_char (hc : LC p s m args meth c z ro cA D DJ ra) (hl : lv_has ls 13 lv) {ch : Nat} (hch : ch < 128) (hI : jBI s z ro cA DJ H1 sb tx H locs) (hn : tx.length ≤ 110) (hcc : cells ≤ 1000) (hss : slots ≤ 100000) (hrest : 2 * 0 + (rest.map fun v => v.category).sum ≤ 8) (hdg : decode cL_law pc = .ok (.invokevirtual 246, 3))
    (kk : ∀ H locs, jBI s z ro cA DJ H1 sb (tx ++ [ch]) H locs → W p l e room_1 s m args below meth c H locs (cells + 1) (slots + 250) Q (F0 m (pc + 3) ls (.ref sb :: rest))) : W p l e room_1 s m args below meth c H locs cells slots Q (F0 m pc ls (.int (nI ch) :: .ref sb :: rest)) := by
  obtain ⟨hx, hb, hml, hown, hts, hE, hK, hKi, hDg, hro, hz⟩ := hc
  obtain ⟨⟨hz0, hS, hT, hsz⟩, v, a, M, hP, p1, p2, p3, p4, p5, p6, p7, p8⟩ := id hI
  have hD := jD_of (cB := cA .byte) (ml := 0) (n := nI tx.length) (a := a) (M := M) p3
  have hF := jF_gA (z := z) (ro := ro) hro p1 p2 hsz
  refine va_callr (va_runV (n := 1) (C := RJ4) (As := [.int (nI ch)]) (rest := rest) ⟨hx, hb, hml, hown, hts⟩ (jm_app4c (z := z) (ro := ro) (cA := cA) (D := D) (DJ := DJ) (roArr := ra) l (sb := sb) (v := v) (M := M) (sz := H.size) (ml := 0) (n := tx.length) (a := a) (ch := ch) hch (by omega) p5 (by omega) p6 hF) (cwV 1 hts (jGood (List.forall_mem_cons.mpr ⟨jwt 1447 (by decide +kernel) rfl, List.forall_mem_cons.mpr ⟨jwt 1448 (by decide +kernel) rfl, List.forall_mem_cons.mpr ⟨jwt 1449 (by decide +kernel) rfl, List.forall_mem_cons.mpr ⟨jwt 19 (by decide +kernel) rfl, List.forall_mem_cons.mpr ⟨jwt 1450 (by decide +kernel) rfl, fun w h => h⟩⟩⟩⟩⟩)) rfl rfl rfl (by decide +kernel) ⟨Nat.le_of_ble_eq_true rfl, Nat.le_of_ble_eq_true rfl⟩) ⟨fun a U g mk q => ⟨q.1, jPre.blind q.2⟩, va_recv (ci := 0) (q0 := 0) hK hP rfl rfl, fun U hU hW => ⟨rfl, jPre.to hU hW hE hS hK hP hD⟩⟩ rfl rfl hl.1 rfl hrest hdg ⟨by show cells + 1 ≤ 600086; omega, by show slots + 250 ≤ 7301442; omega⟩) hS (fun q _ h => hF q h) hF (fun u rr t H' locs' ht hvm hpost hB hz1 hk1 hS' => ?_)
  obtain ⟨v', M', a'⟩ := u
  obtain ⟨hra, hP1, hD1⟩ := hB
  rw [ht] at hP1
  rw [hra]
  obtain ⟨w1, w2, w3, w4, w5⟩ := hpost
  exact kk H' locs' (hI.next (ys := [ch]) p2 p1 p7 p4 p5 (Nat.le_of_ble_eq_true rfl) (by show tx.length + 1 ≤ 120; omega) (fun x hx => by rw [List.mem_singleton.mp hx]; exact hch) p8 hP1 hD1 ⟨w1, w2, w3, w4, fun i hi => by
    have : i = 0 := by
      have : i < 1 := hi
      omega
    subst this
    exact w5⟩ hz1 hk1 hS')
/-- append(int), a digit -/
theorem B_dig (hc : LC p s m args meth c z ro cA D DJ ra) (hl : lv_has ls 13 lv) {w : Nat} (hw : w < 10) (hI : jBI s z ro cA DJ H1 sb tx H locs) (hn : tx.length ≤ 110) (hcc : cells ≤ 1000) (hss : slots ≤ 100000) (hrest : 2 * 0 + (rest.map fun v => v.category).sum ≤ 8) (hdg : decode cL_law pc = .ok (.invokevirtual 243, 3))
    (kk : ∀ H locs, jBI s z ro cA DJ H1 sb (tx ++ [48 + w]) H locs → W p l e room_1 s m args below meth c H locs (cells + 1) (slots + 250) Q (F0 m (pc + 3) ls (.ref sb :: rest))) : W p l e room_1 s m args below meth c H locs cells slots Q (F0 m pc ls (.int (nI w) :: .ref sb :: rest)) := by
  obtain ⟨hx, hb, hml, hown, hts, hE, hK, hKi, hDg, hro, hz⟩ := hc
  obtain ⟨⟨hz0, hS, hT, hsz⟩, v, a, M, hP, p1, p2, p3, p4, p5, p6, p7, p8⟩ := id hI
  have hD := jD_of (cB := cA .byte) (ml := 0) (n := nI tx.length) (a := a) (M := M) p3
  have hF := jF_gA (z := z) (ro := ro) hro p1 p2 hsz
  refine va_callr (va_runV (n := 1) (C := RJ4) (As := [.int (nI w)]) (rest := rest) ⟨hx, hb, hml, hown, hts⟩ (jm_app4i (z := z) (ro := ro) (cA := cA) (D := D) (DJ := DJ) (roArr := ra) l (sb := sb) (v := v) (M := M) (sz := H.size) (ml := 0) (n := tx.length) (a := a) (w := w) hw (by omega) p5 (by omega) p6 hF) (cwV 1 hts (jGood (List.forall_mem_cons.mpr ⟨jwt 1460 (by decide +kernel) rfl, List.forall_mem_cons.mpr ⟨jwt 1461 (by decide +kernel) rfl, List.forall_mem_cons.mpr ⟨jwt 1462 (by decide +kernel) rfl, List.forall_mem_cons.mpr ⟨jwt 19 (by decide +kernel) rfl, List.forall_mem_cons.mpr ⟨jwt 1463 (by decide +kernel) rfl, fun w h => h⟩⟩⟩⟩⟩)) rfl rfl rfl (by decide +kernel) ⟨Nat.le_of_ble_eq_true rfl, Nat.le_of_ble_eq_true rfl⟩) ⟨fun a U g mk q => ⟨q.1, jPre.blind q.2.1, q.2.2⟩, va_recv (ci := 0) (q0 := 0) hK hP rfl rfl, fun U hU hW => ⟨rfl, jPre.to hU hW hE hS hK hP hD, jDg.up hU hW hDg hS⟩⟩ rfl rfl hl.1 rfl hrest hdg ⟨by show cells + 1 ≤ 600086; omega, by show slots + 250 ≤ 7301442; omega⟩) hS (fun q _ h => hF q h) hF (fun u rr t H' locs' ht hvm hpost hB hz1 hk1 hS' => ?_)
  obtain ⟨v', M', a'⟩ := u
  obtain ⟨hra, hP1, hD1⟩ := hB
  rw [ht] at hP1
  rw [hra]
  obtain ⟨w1, w2, w3, w4, w5⟩ := hpost
  exact kk H' locs' (hI.next (ys := [48 + w]) p2 p1 p7 p4 p5 (Nat.le_of_ble_eq_true rfl) (by show tx.length + 1 ≤ 120; omega) (fun x hx => by rw [List.mem_singleton.mp hx]; omega) p8 hP1 hD1 ⟨w1, w2, w3, w4, fun i hi => by
    have : i = 0 := by
      have : i < 1 := hi
      omega
    subst this
    exact w5⟩ hz1 hk1 hS')
/-- append(String), a constant -/
theorem B_str (hc : LC p s m args meth c z ro cA D DJ ra) (hl : lv_has ls 13 lv) {st : Nat} {ys : List Nat} (hst : gTx ys st (gA z ro) s s.heap) (hys : ∀ ch ∈ ys, ch < 128) (hy : ys.length ≤ 7) (hI : jBI s z ro cA DJ H1 sb tx H locs) (hn : tx.length ≤ 110) (hcc : cells ≤ 1000) (hss : slots ≤ 100000) (hrest : 2 * 0 + (rest.map fun v => v.category).sum ≤ 8) (hdg : decode cL_law pc = .ok (.invokevirtual 251, 3))
    (kk : ∀ H locs, jBI s z ro cA DJ H1 sb (tx ++ ys) H locs → W p l e room_1 s m args below meth c H locs (cells + 1) (slots + 250) Q (F0 m (pc + 3) ls (.ref sb :: rest))) : W p l e room_1 s m args below meth c H locs cells slots Q (F0 m pc ls (.ref st :: .ref sb :: rest)) := by
  obtain ⟨hx, hb, hml, hown, hts, hE, hK, hKi, hDg, hro, hz⟩ := hc
  obtain ⟨⟨hz0, hS, hT, hsz⟩, v, a, M, hP, p1, p2, p3, p4, p5, p6, p7, p8⟩ := id hI
  have hD := jD_of (cB := cA .byte) (ml := 0) (n := nI tx.length) (a := a) (M := M) p3
  have hF := jF_gA (z := z) (ro := ro) hro p1 p2 hsz
  refine va_callr (va_runV (n := 1) (C := RJ4) (As := [.ref st]) (rest := rest) ⟨hx, hb, hml, hown, hts⟩ (jm_app4s (z := z) (ro := ro) (cA := cA) (D := D) (DJ := DJ) (roArr := ra) l (sb := sb) (v := v) (M := M) (sz := H.size) (ml := 0) (n := tx.length) (a := a) (st := st) (tx := ys) (by omega) p5 (by omega) p6 hF (txD hys)) (cwV 1 hts (jGood (List.forall_mem_cons.mpr ⟨jwt 1446 (by decide +kernel) rfl, List.forall_mem_cons.mpr ⟨jwt 1342 (by decide +kernel) rfl, List.forall_mem_cons.mpr ⟨jwt 1343 (by decide +kernel) rfl, List.forall_mem_cons.mpr ⟨jwt 19 (by decide +kernel) rfl, List.forall_mem_cons.mpr ⟨jwt 1344 (by decide +kernel) rfl, fun w h => h⟩⟩⟩⟩⟩)) rfl rfl rfl (by decide +kernel) ⟨Nat.le_of_ble_eq_true rfl, Nat.le_of_ble_eq_true rfl⟩) ⟨fun a U g mk q => ⟨q.1, jPre.blind q.2.1, q.2.2⟩, va_recv (ci := 0) (q0 := 0) hK hP rfl rfl, fun U hU hW => ⟨rfl, jPre.to hU hW hE hS hK hP hD, gTx.up hU hW hst hS⟩⟩ rfl rfl hl.1 rfl hrest hdg ⟨by show cells + 1 ≤ 600086; omega, by show slots + 250 ≤ 7301442; omega⟩) hS (fun q _ h => hF q h) hF (fun u rr t H' locs' ht hvm hpost hB hz1 hk1 hS' => ?_)
  obtain ⟨v', M', a'⟩ := u
  obtain ⟨hra, hP1, hD1⟩ := hB
  rw [ht] at hP1
  rw [hra]
  exact kk H' locs' (hI.next (ys := ys) p2 p1 p7 p4 p5 hy (by omega) hys p8 hP1 hD1 hpost hz1 hk1 hS')
/-- a draw changes the law's state alone -/
theorem L_drw (hc : LC p s m args meth c z ro cA D DJ ra) (hl : lv_has ls 13 lv) {n : Nat} (n0 : 0 < n) (n1 : n < 1000) (hI : DI s z ro cA H1 H locs) (hcc : cells ≤ 1000) (hss : slots ≤ 100000) (hrest : 2 * 0 + (rest.map fun v => v.category).sum ≤ 8) (hdg : decode cL_law pc = .ok (.invokestatic 203, 3))
    (kk : ∀ k H' locs', k < n → DI s z ro cA H1 H' locs' → (∀ q, q < H.size → q ≠ z → H'[q]? = H[q]?) → W p l e room_1 s m args below meth c H' locs' cells slots Q (F0 m (pc + 3) ls (.int (nI k) :: rest))) : W p l e room_1 s m args below meth c H locs cells slots Q (F0 m pc ls (.int (nI n) :: .ref z :: rest)) := by
  obtain ⟨hx, hb, hml, hown, hts, hE, hK, hKi, hDg, hro, hz⟩ := hc
  obtain ⟨⟨f, hz0⟩, hS, hT, hsz⟩ := hI
  have hP : va_P DJ jCl [(z, .inl (cA .int, 1, .inl f))] H := fun k q hk => by
    match k with
    | 0 => cases hk; exact hz0
    | k + 1 => cases hk
  have hF : ∀ q, q = z → gA z ro q := fun q h => gA_z hro (by omega)
  refine va_calli (va_runS (n := 2) (As := [.ref z, .int (nI n)]) (rest := rest) ⟨hx, hb, hml, hown, hts⟩ (jm_draw (cA := cA) (DJ := DJ) l (q := z) (n := n) (f := f) n0 n1) (va_cwS 2 hts (jGood (List.forall_mem_cons.mpr ⟨jwt 926 (by decide +kernel) rfl, List.forall_mem_cons.mpr ⟨jwt 927 (by decide +kernel) rfl, List.forall_mem_cons.mpr ⟨jwt 0 (by decide +kernel) rfl, List.forall_mem_cons.mpr ⟨jwt 928 (by decide +kernel) rfl, fun w h => h⟩⟩⟩⟩)) rfl rfl rfl (by decide +kernel) ⟨Nat.le_of_ble_eq_true rfl, Nat.le_of_ble_eq_true rfl⟩) ⟨fun a U g mk q => ⟨q.1, va_K.moved (u := U) (U := U.calling g mk a) (Vm.Alike.refl U.vm) q.2.1, q.2.2⟩, fun U hU hW => ⟨rfl, hKi.moved hW.alike, by rw [hU]; exact hP⟩⟩ rfl rfl hl.1 rfl hrest hdg ⟨by show cells + 0 ≤ 600086; omega, by show slots + 0 ≤ 7301442; omega⟩) hS (fun q _ h => hF q h) hF (fun ri u t H' locs' ht hvm hpost hB hz1 hk1 hS' => ?_)
  obtain ⟨k, hk, rfl⟩ := hpost
  have hB' : va_P DJ jCl [(z, .inl (cA .int, 1, .inl u))] t.heap := hB
  rw [ht] at hB'
  exact kk k H' locs' hk ⟨⟨u, hB' 0 _ rfl⟩, hS', fun q h1 h2 => by rw [hk1 q (by omega) (by omega)]; exact hT q h1 h2, by omega⟩ (fun q h1 h2 => hk1 q h1 h2)
theorem B_drw (hc : LC p s m args meth c z ro cA D DJ ra) (hl : lv_has ls 13 lv) {n : Nat} (n0 : 0 < n) (n1 : n < 1000) (hI : jBI s z ro cA DJ H1 sb tx H locs) (hcc : cells ≤ 1000) (hss : slots ≤ 100000) (hrest : 2 * 0 + (rest.map fun v => v.category).sum ≤ 8) (hdg : decode cL_law pc = .ok (.invokestatic 203, 3))
    (kk : ∀ k H locs, k < n → jBI s z ro cA DJ H1 sb tx H locs → W p l e room_1 s m args below meth c H locs cells slots Q (F0 m (pc + 3) ls (.int (nI k) :: rest))) : W p l e room_1 s m args below meth c H locs cells slots Q (F0 m pc ls (.int (nI n) :: .ref z :: rest)) := by
  obtain ⟨hI1, v, a, M, hP, p1, p2, p3, p4, p5, p6, p7, p8⟩ := hI
  refine L_drw hc hl n0 n1 hI1 hcc hss hrest hdg fun k H' locs' hk hI' hk1 => kk k H' locs' hk ⟨hI', v, a, M, fun i q hq => (hP i q hq).kept (hk1 q.1 ((hP i q hq).lt) ?_), p1, p2, p3, p4, p5, p6, p7, p8⟩
  match i with
  | 0 => cases hq; show sb ≠ z; omega
  | 1 => cases hq; show v ≠ z; omega
  | i + 2 => cases hq
end
