/-! ===== soundness: calls of the program's own methods, handlers, primitives ===== -/
theorem vx_toMet {l : Launch} {y : MethodName} {ws : List Cond} {rm : Room} {Pc : Array Value → State → Prop} {Qc : Array Value → State → Outcome → State → Prop} {XC : String → State → State → Prop} {mc ms : Nat} {free : Addr → Prop} (h : vx_Met l y ws rm Pc Qc XC mc ms free) (hno : ∀ E s t, ¬ XC E s t) : Met l y ws rm Pc Qc mc ms free := by
  intro p e h1 h2 h3 s m args below h4 h5 h6 h7
  obtain ⟨n, o, a, b, c, d⟩ := h p e h1 h2 h3 s m args below h4 h5 h6 h7
  refine ⟨n, o, a, b, c, ?_⟩
  rcases d with d | ⟨q, -, E, ce, L, x, -⟩
  · exact d
  · exact absurd x (hno _ _ _)
/-- what makes the tables right, with the classes of the receivers -/
def gFactsA : Prop := gFacts ∧ ∀ a q, vwCl[gCls a]? = some q → q.1 = (gY a).cls
section Snd5
variable {z : Nat} {ro : Nat → Nat} {cA : FieldType → ClassId} {D : va_G} {roArr : Nat → Option (Nat × (Nat → Int32))}
variable {m rc rs pc : Nat} {ls : GL} {st : List Value} {G : GH} {Q : GQ}
theorem gXC_no {P : GQ} (h : ∀ E G, ¬ P.2.2.2.2.2 E G) : ∀ E s t, ¬ gXC z ro cA D roArr P E s t := fun E s t h' => by
  obtain ⟨⟨G, -, hp, -⟩, -⟩ := h'
  exact h E G hp
/-- the handlers of a method that calls -/
theorem snd_handlers {p : Program} {l : Launch} {e : Env} {R : Room} {s : State} {mid : MethodId} {args : Array Value} {below : List Frame} {meth : Method} {c : Code} {cells slots : Nat} {lsr : Array Slot} {E : String} {ce : Cell} {q9 : Addr} {H1 : Heap} {locs1 : List Loc} {rest : List Value} {rc1 rs1 : Nat}
    (hC : gCtx z ro cA D roArr m p l R s mid args meth c) (hl : gLoc z ro lsr (gMaxL m) ls) (hr : gRep z ro cA D roArr G H1) (hS : va_S (gA z ro) s.heap H1 locs1) (hc : cells + rc1 ≤ R.cells) (hs : slots + rs1 ≤ R.slots) (hcell : H1[q9]? = some ce) (hv : ce.vm = .none) (hcl : s.vm.findClass E = some ce.cls) (hEi : ∃ i, i < 3 ∧ E = gExc i) :
    ∀ (hh : GHd) (ht pre : List (Nat × Nat × Nat × Nat)), gHT m = pre ++ ht → gHdl m ht hh → (∀ q ∈ tableOf pre, covers q pc = false ∨ (q.catchType ≠ 0 ∧ ∃ nm : String, (Cond.classLink (gY m).cls q.catchType nm).before args s = true ∧ va_Nc E nm s)) →
      gHand (fun rc rs pc ls st G => SND z ro cA D roArr m rc rs pc ls st G Q) Q.2.2.2.2.2 rc1 rs1 pc ls E G hh → vx_W p l e R s mid args below meth c H1 locs1 cells slots (gZ z ro cA D roArr Q R s args below) (F0 mid pc lsr rest) q9
  | [], [], pre, hsplit, _, hpass, h => by
    refine vx_outP (own := (gY m).cls) (E := E) hC.own hC.lk ?_ hcell hv hcl (fun t ht hA => ⟨⟨G, hEi, h, by rw [ht]; exact hr⟩, hS.toF ht⟩) (fun q hq => hS.2.2 q hq) (by omega) (by omega)
    rw [hC.tab, hsplit, List.append_nil]
    exact hpass
  | [], _ :: _, _, _, hd, _, _ => hd.elim
  | _ :: _, [], _, _, hd, _, _ => hd.elim
  | (s', t', h', k, nm) :: hh, (s0, t0, h0, ci) :: ht, pre, hsplit, hd, hpass, h => by
    obtain ⟨rfl, rfl, hci, hk, hst, hcl1, ⟨i, hi, hnm⟩, hcast, hrest⟩ := hd
    have hsplit2 : gHT m = (pre ++ [(s0, t0, h0, ci)]) ++ ht := by rw [hsplit]; simp
    have hnext : (∀ q ∈ tableOf (pre ++ [(s0, t0, h0, ci)]), covers q pc = false ∨ (q.catchType ≠ 0 ∧ ∃ nm : String, (Cond.classLink (gY m).cls q.catchType nm).before args s = true ∧ va_Nc E nm s)) → gHand (fun rc rs pc ls st G => SND z ro cA D roArr m rc rs pc ls st G Q) Q.2.2.2.2.2 rc1 rs1 pc ls E G hh → vx_W p l e R s mid args below meth c H1 locs1 cells slots (gZ z ro cA D roArr Q R s args below) (F0 mid pc lsr rest) q9 :=
      fun hp hg => snd_handlers hC hl hr hS hc hs hcell hv hcl hEi hh ht _ hsplit2 hrest hp hg
    have htabs : ∀ q ∈ tableOf (pre ++ [(s0, t0, h0, ci)]), q ∈ tableOf pre ∨ q = ⟨s0, t0, h0, ci⟩ := fun q hq => by
      simp only [tableOf, List.map_append, List.mem_append, List.map_cons, List.map_nil, List.mem_singleton] at hq ⊢
      exact hq
    unfold gHand at h
    by_cases hcov : (Nat.ble s0 pc && Nat.blt pc t0) = true
    · rw [hcov, cond_true] at h
      have hcov2 : covers (⟨s0, t0, h0, ci⟩ : ExceptionTableEntry) pc = true := by
        simp only [Bool.and_eq_true] at hcov
        have h1 : s0 ≤ pc := Nat.le_of_ble_eq_true hcov.1
        have h2 : pc < t0 := Nat.le_of_ble_eq_true hcov.2
        simp [covers, h1, h2]
      by_cases hEn : E = nm
      · rw [if_pos hEn] at h
        subst hEn
        refine vx_catch (E := E) (name := E) hC.own (tableOf pre) ⟨s0, t0, h0, ci⟩ (tableOf ht) (by rw [hC.tab, hsplit]; simp [tableOf]) hpass hcov2 hci (hC.hts _ hcl1) (vx_ot_at (State.WarmedH.refl s) rfl (gnw_ot _ hcast) (hC.env.2.2.1 _ hcast)) hcell hv hcl ?_
        have goon : ∀ lsr' : Array Slot, lv_has lsr' (gMaxL m) ((k, Value.ref q9) :: (gAs z ro ls).filter (fun q => !(q.1 == k) && !(q.1 + 1 == k && q.2.category == 2))) → W p l e R s mid args below meth c H1 locs1 cells slots (gZ z ro cA D roArr Q R s args below) (F0 mid h' lsr' []) := fun lsr' hl' => by
          refine h p l e R s mid args below meth c H1 locs1 cells slots lsr' hC hr ⟨hl'.1, hl'.2.1, fun q hq => hl'.2.2 q ?_⟩ hS hc hs
          obtain ⟨j, w⟩ := q
          obtain ⟨v, hv, rfl⟩ := gAs_mem.mp hq
          rw [List.getElem?_set] at hv
          by_cases e : k = j
          · rw [if_pos e] at hv
            split at hv <;> cases hv
          · rw [if_neg e] at hv
            obtain ⟨g1, g2⟩ := gKill_get hv
            refine List.mem_cons_of_mem _ (List.mem_filter.mpr ⟨gAs_mem.mpr ⟨v, g1, rfl⟩, ?_⟩)
            simp only [gv_cat, Bool.and_eq_true, Bool.not_eq_true', beq_eq_false_iff_ne, Bool.and_eq_false_iff]
            refine ⟨fun q => e q.symm, ?_⟩
            by_cases q : j + 1 = k
            · exact Or.inr fun c => g2 ⟨q, c⟩
            · exact Or.inl q
        rcases hst with ⟨f, hf, hdec, rfl⟩ | ⟨hdec, rfl⟩
        · exact lv_astore_n hC.1 hC.2.1 hdec hf hl hk rfl goon
        · exact lv_astore hC.1 hC.2.1 hdec hl hk rfl goon
      · rw [if_neg hEn] at h
        refine hnext (fun q hq => ?_) h
        rcases htabs q hq with hq | rfl
        · exact hpass q hq
        · obtain ⟨i', hi', hE'⟩ := hEi
          refine Or.inr ⟨hci, nm, hC.hts _ hcl1, ?_⟩
          rw [hnm, hE']
          exact hC.env.2.2.2.1 i' i hi' hi (fun q => hEn (by rw [hE', hnm, q]))
    · rw [Bool.not_eq_true] at hcov
      rw [hcov, cond_false] at h
      refine hnext (fun q hq => ?_) h
      rcases htabs q hq with hq | rfl
      · exact hpass q hq
      · left
        simp only [Bool.and_eq_false_iff] at hcov
        rcases hcov with h1 | h1
        · have : ¬ s0 ≤ pc := fun q => by rw [Nat.ble_eq_true_of_le q] at h1; cases h1
          simp [covers, this]
        · have : ¬ pc < t0 := fun q => by rw [show Nat.blt pc t0 = true from Nat.ble_eq_true_of_le q] at h1; cases h1
          simp [covers, this]

theorem gKq_noX {X : GX} {KX : String → GH → Prop} {rc rs n : Nat} {ls : GL} {rest : List Value} {e : Nat} (h : ∀ E G, ¬ KX E G) : ∀ E G, ¬ (gKq X KX rc rs n ls rest e).2.2.2.2.2 E G := by
  intro E G hq
  unfold gKq at hq
  split at hq
  · exact h E G hq
  · exact h E G hq
  · exact hq
  · exact hq
  · exact hq
theorem gKq_X {X : GX} {KX : String → GH → Prop} {rc rs n : Nat} {ls : GL} {rest : List Value} {e : Nat} {E : String} {G : GH} (hq : (gKq X KX rc rs n ls rest e).2.2.2.2.2 E G) : KX E G := by
  unfold gKq at hq
  split at hq
  · exact hq
  · exact hq
  · exact hq.elim
  · exact hq.elim
  · exact hq.elim
theorem gCk_el {a b c d : Nat} (h : gCk m a b c d = true) : gFrames a + 1 ≤ gFrames m ∧ 8 + (gMaxL a + 11) + gLocs a ≤ gLocs m ∧ c = gCells a ∧ d = gSlots a ∧ (gY a).cls ≠ "java/lang/invoke/MethodHandle" ∧ (gY a).cls ≠ "java/lang/invoke/VarHandle" ∧ (parseMethodDescriptor (gY a).desc).map (fun q => q.parameters.length) = some b ∧ plainName (gY a).cls = true ∧ gMaxL a ≥ b := by
  simp only [gCk, Bool.and_eq_true, decide_eq_true_eq, beq_iff_eq] at h
  exact ⟨h.1.1.1.1.1.1.1.1, h.1.1.1.1.1.1.1.2, h.1.1.1.1.1.1.2, h.1.1.1.1.1.2, h.1.1.1.1.2, h.1.1.1.2, h.1.1.2, h.1.2, h.2⟩
theorem gGood_mem {own : String} {idx : Nat} {y : MethodName} {ws : List Cond} {C : String} (h1 : Cond.methodLink own idx y ∈ gw) (h2 : Cond.instanceMethod y ∈ gw) (h3 : Cond.selects C y y ∈ gw) (h4 : Cond.initialized C ∈ gw) (h5 : ∀ w ∈ ws, w ∈ gw) : GoodIn gw (wsV own idx C y ws) := gGood fun w hw => by
  simp only [wsV, List.cons_append, List.nil_append, List.mem_cons] at hw
  rcases hw with rfl | rfl | rfl | rfl | hw
  · exact h1
  · exact h2
  · exact h3
  · exact h4
  · exact h5 w hw
theorem gGood_memS {own : String} {idx : Nat} {y : MethodName} {ws : List Cond} (h1 : Cond.methodLink own idx y ∈ gw) (h2 : Cond.static y ∈ gw) (h3 : Cond.initialized y.cls ∈ gw) (h5 : ∀ w ∈ ws, w ∈ gw) : GoodIn gw (va_wsS own idx y ws) := gGood fun w hw => by
  simp only [va_wsS, List.cons_append, List.nil_append, List.mem_cons] at hw
  rcases hw with rfl | rfl | rfl | hw
  · exact h1
  · exact h2
  · exact h3
  · exact h5 w hw
theorem gCode_mem {w0 : Cond} (h : w0 ∈ gw) : ∀ w ∈ w0 :: gw, w ∈ gw := fun w hw => by
  rcases List.mem_cons.mp hw with rfl | hw
  · exact h
  · exact hw
/-- a callee is run: with or without throws -/
theorem snd_after {p : Program} {l : Launch} {e0 : Env} {R : Room} {s : State} {mid : MethodId} {args : Array Value} {below : List Frame} {meth : Method} {c0 : Code} {H : Heap} {locs : List Loc} {cells slots : Nat} {lsr : Array Slot} {P : GQ} {KX : String → GH → Prop} {rest : List Value} {c d e : Nat} {av : Array Value} {st0 : List Value} {hh : GHd}
    (hC : gCtx z ro cA D roArr m p l R s mid args meth c0) (hl : gLoc z ro lsr (gMaxL m) ls) (hS : va_S (gA z ro) s.heap H locs) (hc : cells + rc ≤ R.cells) (hs : slots + rs ≤ R.slots) (hcr : c ≤ rc) (hdr : d ≤ rs)
    (hP : gLe P (gKq (fun rc rs pc ls st G => SND z ro cA D roArr m rc rs pc ls st G Q) KX (rc - c) (rs - d) (pc + 3) ls rest e))
    (hr : (va_Run p l e0 R s mid args below meth c0 H locs cells slots c d (F0 mid pc lsr st0) (rest.map (gv z ro)) (gQc z ro cA D roArr P av) (gA z ro)) ∨ ((vx_Run p l e0 R s mid args below meth c0 H locs cells slots c d (F0 mid pc lsr st0) (rest.map (gv z ro)) (gQc z ro cA D roArr P av) (gXC z ro cA D roArr P) (gA z ro)) ∧ gHdl m (gHT m) hh ∧ ∀ E G, KX E G → gHand (fun rc rs pc ls st G => SND z ro cA D roArr m rc rs pc ls st G Q) Q.2.2.2.2.2 (rc - c) (rs - d) pc ls E G hh)) :
    W p l e0 R s mid args below meth c0 H locs cells slots (gZ z ro cA D roArr Q R s args below) (F0 mid pc lsr st0) := by
  have kk : ∀ v H1 locs1, gRes z ro cA D roArr P v H1 → va_S (gA z ro) s.heap H1 locs1 → W p l e0 R s mid args below meth c0 H1 locs1 (cells + c) (slots + d) (gZ z ro cA D roArr Q R s args below) (F0 mid (pc + 3) lsr (v.toList ++ rest.map (gv z ro))) := by
    intro v H1 locs1 hres hS1
    obtain ⟨G1, st', h1, h2, h3⟩ := gKq_next (hres.mono hP)
    rw [h3]
    exact h1 _ _ _ _ _ _ _ _ _ _ _ _ _ _ _ hC h2 hl hS1 (by omega) (by omega)
  rcases hr with hr | ⟨hr, hd, hk⟩
  · exact g_call hr hS kk
  · refine g_callx hr hS (fun E ce q9 G1 H1 locs1 hEi hp hr1 hS1 hcell hv hcl => ?_) kk
    exact snd_handlers hC hl hr1 hS1 (rc1 := rc - c) (rs1 := rs - d) (by omega) (by omega) hcell hv hcl hEi hh (gHT m) [] rfl hd (fun q hq => by cases hq) (hk E G1 (gKq_X (hP.2.2.2.2.2 E G1 hp)))
end Snd5
