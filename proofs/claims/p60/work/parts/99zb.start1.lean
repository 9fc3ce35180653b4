/-! ===== from the Statement's start to the ghost machine's ===== -/
section
variable {args : Array Value} {s : State} {A : Nat → Prop}
theorem sBlk_of {t : Term} {tx : List Nat} (hl : tx.length < 2 ^ 31) (h : ∀ w ∈ sBlk t tx, w.before args s = true) (hA : ∀ a : Nat, a < s.heap.size → ¬ A a) : ∃ a : Nat, t.eval args s none [] s = some (.ref a) ∧ gTx tx a A s s.heap := by
  have h0 : (Cond.exactly t "java/lang/String").before args s = true := h _ List.mem_cons_self
  have h1 : (Cond.eq (.field t "java/lang/String" "coder" "B") (.int 0)).before args s = true := h _ (List.mem_cons_of_mem _ List.mem_cons_self)
  have h2 : (Cond.arrayOf (.field t "java/lang/String" "value" "[B") .byte).before args s = true := h _ (List.mem_cons_of_mem _ (List.mem_cons_of_mem _ List.mem_cons_self))
  have h3 : (Cond.eq (.length (.field t "java/lang/String" "value" "[B")) (.int (Int32.ofNat tx.length))).before args s = true := h _ (List.mem_cons_of_mem _ (List.mem_cons_of_mem _ (List.mem_cons_of_mem _ List.mem_cons_self)))
  have h4 : ∀ j : Nat, j < tx.length → (Cond.eq (.elem (.field t "java/lang/String" "value" "[B") (.int (Int32.ofNat j))) (.int (nI (tx.getD j 0)))).before args s = true := fun j hj => h _ (List.mem_cons_of_mem _ (List.mem_cons_of_mem _ (List.mem_cons_of_mem _ (List.mem_cons_of_mem _ (List.mem_map.mpr ⟨j, List.mem_range.mpr hj, rfl⟩)))))
  obtain ⟨a, c, cA, kA, q1, q2, q3, q4, q5, q6, -⟩ := Cond.exactly_spec (args := args) (first := s) (o := none) (s := s) (idx := []) (t := t) (cls := "java/lang/String") h0
  obtain ⟨v, hv, hT⟩ := va_Tof (f := fun j => .int (nI (tx.getD j 0))) (A := A) hl h2 (va_eqt h3) (fun j hj => va_eqt (h4 j hj)) hA
  exact ⟨a, q1, v, va_Oof h0 q1 hA, vk_OFof q1 (va_eqt h1) hA, vk_OFof q1 hv hA, hT⟩
theorem sArr_of {t : Term} {l : List Int} (hl : l.length < 2 ^ 31) (h : ∀ w ∈ sArr t l, w.before args s = true) (hA : ∀ a : Nat, a < s.heap.size → ¬ A a) : ∃ a : Nat, t.eval args s none [] s = some (.ref a) ∧ va_T .int a l.length (fun j => .int (Int32.ofInt (l.getD j 0))) A s s.heap := by
  have h2 : (Cond.arrayOf t .int).before args s = true := h _ List.mem_cons_self
  have h3 : (Cond.eq (.length t) (.int (Int32.ofNat l.length))).before args s = true := h _ (List.mem_cons_of_mem _ List.mem_cons_self)
  have h4 : ∀ j : Nat, j < l.length → (Cond.eq (.elem t (.int (Int32.ofNat j))) (.int (Int32.ofInt (l.getD j 0)))).before args s = true := fun j hj => h _ (List.mem_cons_of_mem _ (List.mem_cons_of_mem _ (List.mem_map.mpr ⟨j, List.mem_range.mpr hj, rfl⟩)))
  exact va_Tof (f := fun j => .int (Int32.ofInt (l.getD j 0))) (A := A) hl h2 (va_eqt h3) (fun j hj => va_eqt (h4 j hj)) hA
/-- the digits' letters at the start -/
theorem sDg_of (h : ∀ w ∈ sDg, w.before args s = true) (hA : ∀ a : Nat, a < s.heap.size → ¬ A a) : ∃ a : Nat, (Term.static "java/lang/Integer" "DigitOnes" "[B").eval args s none [] s = some (.ref a) ∧ va_T .byte a 100 (fun j => .int (nI (48 + j % 10))) A s s.heap := by
  have h2 : (Cond.arrayOf (.static "java/lang/Integer" "DigitOnes" "[B") .byte).before args s = true := h _ List.mem_cons_self
  have h3 : (Cond.eq (.length (.static "java/lang/Integer" "DigitOnes" "[B")) (.int (Int32.ofNat 100))).before args s = true := h _ (List.mem_cons_of_mem _ List.mem_cons_self)
  have h4 : ∀ j : Nat, j < 100 → (Cond.eq (.elem (.static "java/lang/Integer" "DigitOnes" "[B") (.int (Int32.ofNat j))) (.int (nI (48 + j % 10)))).before args s = true := fun j hj => h _ (List.mem_cons_of_mem _ (List.mem_cons_of_mem _ (List.mem_map.mpr ⟨j, List.mem_range.mpr hj, rfl⟩)))
  obtain ⟨v, hv, hT⟩ := va_Tof (N := 100) (f := fun j => .int (nI (48 + j % 10))) (A := A) (by decide) h2 (va_eqt h3) (fun j hj => va_eqt (h4 j hj)) hA
  exact ⟨v, hv, hT⟩
def sRo (t0 t1 t2 b d : Nat) (ad : Nat → Nat) (k : Nat) : Nat := if k = 99999 then 0 else if k = 100000 then t0 else if k = 100001 then t1 else if k = 100002 then t2 else if k = 100003 then b else if k = 100004 then d else ad (k - 100016)
section
variable {t0 t1 t2 b d : Nat} {ad : Nat → Nat}
theorem sRo_z : sRo t0 t1 t2 b d ad 99999 = 0 := if_pos rfl
theorem sRo_0 : sRo t0 t1 t2 b d ad 100000 = t0 := by unfold sRo; rw [if_neg (by decide), if_pos rfl]
theorem sRo_1 : sRo t0 t1 t2 b d ad 100001 = t1 := by unfold sRo; rw [if_neg (by decide), if_neg (by decide), if_pos rfl]
theorem sRo_2 : sRo t0 t1 t2 b d ad 100002 = t2 := by unfold sRo; rw [if_neg (by decide), if_neg (by decide), if_neg (by decide), if_pos rfl]
theorem sRo_3 : sRo t0 t1 t2 b d ad 100003 = b := by unfold sRo; rw [if_neg (by decide), if_neg (by decide), if_neg (by decide), if_neg (by decide), if_pos rfl]
theorem sRo_4 : sRo t0 t1 t2 b d ad 100004 = d := by unfold sRo; rw [if_neg (by decide), if_neg (by decide), if_neg (by decide), if_neg (by decide), if_neg (by decide), if_pos rfl]
theorem sRo_t (i : Nat) : sRo t0 t1 t2 b d ad (100016 + i) = ad i := by unfold sRo; rw [if_neg (by omega), if_neg (by omega), if_neg (by omega), if_neg (by omega), if_neg (by omega), if_neg (by omega), Nat.add_sub_cancel_left]
end
/-- what may be read: the static rows, the script, a text -/
def gRo (L : Nat) (xs : Nat → Int32) (tx : List Nat) : Nat → Option (Nat × (Nat → Int32)) := fun k => if k = 100000 then some (5, fun j => Int32.ofInt (tZ.getD j 0)) else if k = 100001 then some (20, fun j => Int32.ofInt (tR.getD j 0)) else if k = 100002 then some (20, fun j => Int32.ofInt (tD.getD j 0)) else if k = 100003 then some (L, xs) else if k = 100004 then some (tx.length, fun j => nI (tx.getD j 0)) else none
theorem gEnv_start {z b L : Nat} {xs : Nat → Int32} (hn : ∀ w ∈ sNr, w.before args s = true) (ht : ∀ w ∈ lw_tbl, w.before args s = true) (hX : va_X b L xs s s.heap) (hz : s.heap.size = z) : ∃ (ro : Nat → Nat) (cA : FieldType → ClassId) (D DJ : va_G), ro 100003 = b ∧ ro 99999 = 0 ∧ gEnv z ro cA D (gRo L xs [97]) s s.heap ∧ va_K DJ jCl [(cA .byte, .byte)] s ∧ va_K DJ jCl [(cA .int, .int)] s ∧ jDg (gA z ro) s s.heap ∧ (∀ q ∈ sLs, ∃ a, vk_R "TrunkDuelLaw" q.1 q.2.1 a s ∧ gTx q.2.2 a (gA z ro) s s.heap) := by
  have hA : ∀ a : Nat, a < s.heap.size → ¬ (fun q => z ≤ q) a := fun a h (q : z ≤ a) => by omega
  have htt : ∀ w ∈ tables_1, w.before args s = true := fun w hw => ht w (List.mem_append_right _ hw)
  have hgw : ∀ w ∈ gw, w.before args s = true := fun w hw => ht w (List.mem_filter.mp hw).1
  have hjw : ∀ w ∈ jw, w.before args s = true := jts ht
  have hk : ∀ c : Nat, ∃ d : ClassId × (Nat → Nat), ∀ q : vw_C, vwCl[c]? = some q → u_Kn s q.1 q.2.1 q.2.2 d.1 d.2 := by
    intro c
    cases hq : vwCl[c]? with
    | none => exact ⟨(0, fun _ => 0), fun q h => nomatch h⟩
    | some q =>
      obtain ⟨C, T, N⟩ := q
      obtain ⟨cC, iS, h⟩ := u_known (n := N) hgw (gF4 c C T N hq).1 (htt _ (sI_all c C T N hq))
      exact ⟨(cC, iS), fun q' e => by cases e; exact h⟩
  obtain ⟨dd, hdd⟩ := Classical.axiomOfChoice hk
  obtain ⟨j4, i4, h4⟩ := u_known (n := 4) hjw j4_in (htt _ (List.mem_of_getElem? (i := 1316) (by decide +kernel)) : (Cond.instantiable RJ4 4).before args s = true)
  obtain ⟨j0, i0, h0⟩ := u_known (n := 4) hjw j0_in (htt _ (List.mem_of_getElem? (i := 1490) (by decide +kernel)) : (Cond.instantiable RJ0 4).before args s = true)
  have hKJ : ∀ (c : Nat) (q : vw_C), jCl[c]? = some q → u_Kn s q.1 q.2.1 q.2.2 ((fun c => if c = 0 then j4 else j0) c) ((fun c => if c = 0 then i4 else i0) c) := fun c q hq => by
    match c, hq with
    | 0, hq => cases hq; exact h4
    | 1, hq => cases hq; exact h0
    | c + 2, hq => exact nomatch (show (none : Option vw_C) = some q from hq)
  obtain ⟨c0, k0, p0, a1, a2, a3⟩ := Cond.arrayClass_spec (args := args) (first := s) (o := none) (s := s) (idx := []) (htt _ sw_11)
  obtain ⟨c1, k1, p1, b1, b2, b3⟩ := Cond.arrayClass_spec (args := args) (first := s) (o := none) (s := s) (idx := []) (htt _ sw_12)
  obtain ⟨c2, k2, p2, e1, e2, e3⟩ := Cond.arrayClass_spec (args := args) (first := s) (o := none) (s := s) (idx := []) (htt _ sw_13)
  obtain ⟨p3, c3, k3, f1, -, f2, f3, f4⟩ := Cond.arrayOver_spec (args := args) (first := s) (o := none) (s := s) (idx := []) (htt _ sw_14)
  have hK : va_K (fun c => (dd c).1, fun c => (dd c).2) vwCl (gTys fun ty => match ty with | .int => c0 | .boolean => c1 | .byte => c2 | _ => c3) s := by
    refine ⟨fun c q hq => hdd c q hq, fun k q hq => ?_⟩
    match k, hq with
    | 0, hq => cases hq; exact ⟨fun n y => ⟨fun k h => (by cases h), k0, a2, p0, a3⟩, a1⟩
    | 1, hq => cases hq; exact ⟨fun n y => ⟨fun k h => (by cases h), k1, b2, p1, b3⟩, b1⟩
    | 2, hq => cases hq; exact ⟨fun n y => ⟨fun k h => (by cases h), k0, a2, p0, a3⟩, a1⟩
    | 3, hq => cases hq; exact ⟨fun n y => ⟨fun k h => (by cases h), k3, f2, p3, f3⟩, k3, p3, f2, f3, f1, f4⟩
    | k + 4, hq => exact nomatch (show (none : Option (ClassId × FieldType)) = some q from hq)
  have hKb : va_K (fun c => if c = 0 then j4 else j0, fun c => if c = 0 then i4 else i0) jCl [(c2, .byte)] s := by
    refine ⟨hKJ, fun k q hq => ?_⟩
    match k, hq with
    | 0, hq => cases hq; exact ⟨fun n y => ⟨fun k h => (by cases h), k2, e2, p2, e3⟩, e1⟩
    | k + 1, hq => exact nomatch (show (none : Option (ClassId × FieldType)) = some q from hq)
  have hKi : va_K (fun c => if c = 0 then j4 else j0, fun c => if c = 0 then i4 else i0) jCl [(c0, .int)] s := by
    refine ⟨hKJ, fun k q hq => ?_⟩
    match k, hq with
    | 0, hq => cases hq; exact ⟨fun n y => ⟨fun k h => (by cases h), k0, a2, p0, a3⟩, a1⟩
    | k + 1, hq => exact nomatch (show (none : Option (ClassId × FieldType)) = some q from hq)
  have hS : ∀ i : Nat, ∃ a : Nat, i < 14 → (sT i).eval args s none [] s = some (.ref a) ∧ gTx (sTx i) a (fun q => z ≤ q) s s.heap := by
    intro i
    by_cases hi : i < 14
    · obtain ⟨h1, h2⟩ := sB_all i hi
      obtain ⟨a, ha⟩ := sBlk_of h2 (fun w hw => hn w (h1 w hw)) hA
      exact ⟨a, fun _ => ha⟩
    · exact ⟨0, fun h => absurd h hi⟩
  obtain ⟨ad, had⟩ := Classical.axiomOfChoice hS
  obtain ⟨t0, x0, y0⟩ := sArr_of (l := tZ) (by decide) (fun w hw => hn w (sA_0 w hw)) hA
  obtain ⟨t1, x1, y1⟩ := sArr_of (l := tR) (by decide) (fun w hw => hn w (sA_1 w hw)) hA
  obtain ⟨t2, x2, y2⟩ := sArr_of (l := tD) (by decide) (fun w hw => hn w (sA_2 w hw)) hA
  obtain ⟨td, xd, yd⟩ := sDg_of (fun w hw => hn w (sDg_on w hw)) hA
  have hL : ∀ (i : Nat) (t : String) (tx : List Nat), tx.length < 2 ^ 31 → ((∀ w ∈ sBlk (.string "TrunkDuelLaw" i) tx, w ∈ sNr) ∧ Cond.stringRef "TrunkDuelLaw" i t ∈ tables_1) → ∃ a, vk_R "TrunkDuelLaw" i t a s ∧ gTx tx a (fun q => z ≤ q) s s.heap := fun i t tx hl h => by
    obtain ⟨a, h1, h2⟩ := sBlk_of hl (fun w hw => hn w (h.1 w hw)) hA
    exact ⟨a, vk_R.of (htt _ h.2) h1, h2⟩
  obtain ⟨la, la1, la2⟩ := hL 256 "a" [97] (by decide) sQ_3
  have hgA : gA z (sRo t0 t1 t2 b la ad) = fun q => z ≤ q := funext fun q => propext ⟨fun h => h.1, fun h => ⟨h, Or.inr (by rw [sRo_z]; exact Nat.zero_le _)⟩⟩
  refine ⟨sRo t0 t1 t2 b la ad, (fun ty => match ty with | .int => c0 | .boolean => c1 | .byte => c2 | _ => c3), (fun c => (dd c).1, fun c => (dd c).2), (fun c => if c = 0 then j4 else j0, fun c => if c = 0 then i4 else i0), sRo_3, sRo_z, ?_, hKb, hKi, ?_, ?_⟩
  · unfold gEnv
    rw [hgA]
    refine ⟨hK, va_AO.of (htt _ sw_14), fun w hw => va_Nw.of (sN_on w hw) (htt w (sN_all w hw)), fun i j hi hj h => va_Nc.of (hn _ (sE_all i j hi hj h)), fun k q hk hq => ?_, fun j c e => ?_, fun i tx e => ?_, fun q hq => ?_, fun q hq => ?_, va_Zof (htt _ sw_4) (htt _ sw_5) (va_eqi (hn _ sn_0)) hA, va_Zqof (htt _ sw_6) (htt _ sw_7) (hn _ sn_1) hA, vx_Zqof (htt _ sw_8) (htt _ sw_10) (hn _ sn_2) hA, vx_Zqof (htt _ sw_9) (htt _ sw_10) (hn _ sn_3) hA⟩
    · unfold gRo at hq
      by_cases g0 : k = 100000
      · subst g0
        rw [if_pos rfl] at hq
        cases hq
        rw [sRo_0]
        exact ⟨fun _ => y0, fun h => absurd h (by decide)⟩
      rw [if_neg g0] at hq
      by_cases g1 : k = 100001
      · subst g1
        rw [if_pos rfl] at hq
        cases hq
        rw [sRo_1]
        exact ⟨fun _ => y1, fun h => absurd h (by decide)⟩
      rw [if_neg g1] at hq
      by_cases g2 : k = 100002
      · subst g2
        rw [if_pos rfl] at hq
        cases hq
        rw [sRo_2]
        exact ⟨fun _ => y2, fun h => absurd h (by decide)⟩
      rw [if_neg g2] at hq
      by_cases g3 : k = 100003
      · subst g3
        rw [if_pos rfl] at hq
        cases hq
        rw [sRo_3]
        obtain ⟨scr, h1, h2, h3, h4, h5⟩ := hX
        exact ⟨fun _ => ⟨scr, h1, h2, h3, Nat.le_of_eq h4.symm, by rw [h4], fun j hj => h5 j hj, hA b (Array.getElem?_eq_some_iff.mp h1).1⟩, fun h => absurd h (by decide)⟩
      rw [if_neg g3] at hq
      by_cases g4 : k = 100004
      · subst g4
        rw [if_pos rfl] at hq
        cases hq
        rw [sRo_4]
        exact ⟨fun h => absurd rfl h, fun _ => ⟨[97], rfl, by decide, by decide, fun j _ => rfl, la2⟩⟩
      · rw [if_neg g4] at hq
        cases hq
    · match j, e with
      | 0, e =>
        cases e
        show va_Z "TrunkDuel$Footprint" "SIZES" "[I" (.ref (sRo t0 t1 t2 b la ad 100000)) _ s s.heap
        rw [sRo_0]
        exact va_Zref (htt _ sw_0) (htt _ sw_3) x0 hA
      | 1, e =>
        cases e
        show va_Z "TrunkDuel$Footprint" "OFFSETS_RIGHT" "[I" (.ref (sRo t0 t1 t2 b la ad 100001)) _ s s.heap
        rw [sRo_1]
        exact va_Zref (htt _ sw_1) (htt _ sw_3) x1 hA
      | 2, e =>
        cases e
        show va_Z "TrunkDuel$Footprint" "OFFSETS_DOWN" "[I" (.ref (sRo t0 t1 t2 b la ad 100002)) _ s s.heap
        rw [sRo_2]
        exact va_Zref (htt _ sw_2) (htt _ sw_3) x2 hA
      | j + 3, e => exact nomatch (show (none : Option (String × String × String)) = some c from e)
    · have hi : i < 14 := (List.getElem?_eq_some_iff.mp e).1
      have h1 : sTx i = tx := by
        show gTexts.getD i [] = tx
        rw [List.getD_eq_getElem?_getD, e]
        rfl
      rw [sRo_t, ← h1]
      exact (had i hi).2
    · obtain ⟨h1, i, hi, he, h2⟩ := sP_all q hq
      rw [he, sRo_t]
      refine vk_R.of (htt _ h1) ?_
      rcases h2 with h2 | h2
      · rw [← h2]
        exact (had i hi).1
      · exact va_eqR (hn _ h2) (had i hi).1
    · obtain ⟨h1, h2⟩ := sM_all q hq
      obtain ⟨a, c, cA, kA, q1, -⟩ := Cond.exactly_spec (args := args) (first := s) (o := none) (s := s) (idx := []) (t := .string q.1 q.2.1) (cls := "java/lang/String") (hn _ h2)
      exact ⟨a, vk_R.of (htt _ h1) q1⟩
  · rw [hgA]
    exact ⟨td, va_Zref (htt _ sw_15) (htt _ sw_16) xd hA, yd⟩
  · rw [hgA]
    intro q hq
    simp only [sLs, List.mem_cons, List.not_mem_nil, or_false] at hq
    rcases hq with rfl | rfl | rfl | rfl | rfl
    · exact hL _ _ _ (by decide) sQ_0
    · exact hL _ _ _ (by decide) sQ_1
    · exact hL _ _ _ (by decide) sQ_2
    · exact ⟨la, la1, la2⟩
    · exact hL _ _ _ (by decide) sQ_4
end
theorem same_forget {s t : State} {L : List Loc} {k n : Nat} (h : s.sameButNew t L k n) (hL : ∀ q ∈ L, s.heap.size ≤ q.base) : s.sameButNew t [] k n := by
  obtain ⟨h1, h2, h3, h4, h5, h6⟩ := h
  refine ⟨h1, h2, h3, h4, h5, fun a c hc => ?_⟩
  obtain ⟨c', e1, e2, e3, e4⟩ := h6 a c hc
  exact ⟨c', e1, e2, e3, fun i _ => e4 i fun hm => absurd (Array.getElem?_eq_some_iff.mp hc).1 (Nat.not_lt.mpr (hL _ hm))⟩
