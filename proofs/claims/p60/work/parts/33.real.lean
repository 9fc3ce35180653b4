/-! ===== what a formula of the ghost machine says of the machine ===== -/
/-- locals -/
def gAs (z : Nat) (ro : Nat → Nat) (ls : GL) : List (Nat × Value) := (List.range ls.length).filterMap fun i => match ls[i]? with
  | some (some v) => some (i, gv z ro v)
  | _ => none
theorem gAs_mem {z : Nat} {ro : Nat → Nat} {ls : GL} {i : Nat} {w : Value} : (i, w) ∈ gAs z ro ls ↔ ∃ v, ls[i]? = some (some v) ∧ w = gv z ro v := by
  unfold gAs
  rw [List.mem_filterMap]
  constructor
  · rintro ⟨j, hj, e⟩
    split at e
    · next v hv => cases e; exact ⟨v, hv, rfl⟩
    · cases e
  · rintro ⟨v, hv, rfl⟩
    refine ⟨i, List.mem_range.mpr (List.getElem?_eq_some_iff.mp hv).1, ?_⟩
    simp only [hv]
def gLoc (z : Nat) (ro : Nat → Nat) (lsr : Array Slot) (nL : Nat) (ls : GL) : Prop := lv_has lsr nL (gAs z ro ls)
theorem gv_cat {z : Nat} {ro : Nat → Nat} (v : Value) : (gv z ro v).category = v.category := by cases v <;> rfl
theorem gLoc.at {z : Nat} {ro : Nat → Nat} {lsr : Array Slot} {nL : Nat} {ls : GL} (h : gLoc z ro lsr nL ls) {i : Nat} {v : Value} (hv : ls[i]? = some (some v)) : lsr[i]? = some (.val (gv z ro v)) := h.2.2 (i, gv z ro v) (gAs_mem.mpr ⟨v, hv, rfl⟩)
theorem gLoc.sub {z : Nat} {ro : Nat → Nat} {lsr : Array Slot} {nL : Nat} {ls ls' : GL} (h : gLoc z ro lsr nL ls) (hs : ∀ (i : Nat) (v : Value), ls'[i]? = some (some v) → ls[i]? = some (some v)) : gLoc z ro lsr nL ls' := by
  refine ⟨h.1, h.2.1, fun q hq => ?_⟩
  obtain ⟨i, w⟩ := q
  obtain ⟨v, hv, rfl⟩ := gAs_mem.mp hq
  exact h.at (hs i v hv)
theorem gKill_get {ls : GL} {i j : Nat} {v : Value} (h : (gKill ls i)[j]? = some (some v)) : ls[j]? = some (some v) ∧ ¬ (j + 1 = i ∧ v.category = 2) := by
  unfold gKill at h
  split at h
  · exact ⟨h, fun q => by omega⟩
  · next i' =>
    have key : ∀ ls' : GL, ls' = ls.set i' none → ls'[j]? = some (some v) → ls[j]? = some (some v) ∧ ¬ (j + 1 = i' + 1 ∧ v.category = 2) := by
      intro ls' e h
      subst e
      rw [List.getElem?_set] at h
      by_cases e : i' = j
      · rw [if_pos e] at h
        split at h <;> cases h
      · rw [if_neg e] at h
        exact ⟨h, fun q => e (by omega)⟩
    split at h
    · exact key _ rfl h
    · exact key _ rfl h
    · next h1 h2 =>
      refine ⟨h, fun q => ?_⟩
      have e : j = i' := by omega
      subst e
      have c := q.2
      cases v with
      | double x => exact h1 x h
      | long x => exact h2 x h
      | _ => cases c
theorem gLoc.st1 {z : Nat} {ro : Nat → Nat} {lsr' : Array Slot} {nL : Nat} {ls : GL} {i : Nat} {x : Value}
    (h : lv_has lsr' nL ((i, gv z ro x) :: (gAs z ro ls).filter (fun q => !(q.1 == i) && !(q.1 + 1 == i && q.2.category == 2)))) : gLoc z ro lsr' nL (gSt1 ls i x) := by
  refine ⟨h.1, h.2.1, fun q hq => h.2.2 q ?_⟩
  obtain ⟨j, w⟩ := q
  obtain ⟨v, hv, rfl⟩ := gAs_mem.mp hq
  unfold gSt1 at hv
  rw [List.getElem?_set] at hv
  by_cases e : i = j
  · rw [if_pos e] at hv
    split at hv
    · cases hv
      subst e
      exact List.mem_cons_self
    · cases hv
  · rw [if_neg e] at hv
    obtain ⟨h1, h2⟩ := gKill_get hv
    refine List.mem_cons_of_mem _ (List.mem_filter.mpr ⟨gAs_mem.mpr ⟨v, h1, rfl⟩, ?_⟩)
    simp only [gv_cat, Bool.and_eq_true, Bool.not_eq_true', beq_eq_false_iff_ne, Bool.and_eq_false_iff]
    refine ⟨fun q => e q.symm, ?_⟩
    by_cases q : j + 1 = i
    · exact Or.inr fun c => h2 ⟨q, c⟩
    · exact Or.inl q
theorem gLoc.st2 {z : Nat} {ro : Nat → Nat} {lsr' : Array Slot} {nL : Nat} {ls : GL} {i : Nat} {x : Value}
    (h : lv_has lsr' nL ((i, gv z ro x) :: (gAs z ro ls).filter (fun q => !(q.1 == i) && (!(q.1 == i + 1) && !(q.1 + 1 == i && q.2.category == 2))))) : gLoc z ro lsr' nL (gSt2 ls i x) := by
  refine ⟨h.1, h.2.1, fun q hq => h.2.2 q ?_⟩
  obtain ⟨j, w⟩ := q
  obtain ⟨v, hv, rfl⟩ := gAs_mem.mp hq
  unfold gSt2 at hv
  rw [List.getElem?_set] at hv
  by_cases e1 : i + 1 = j
  · rw [if_pos e1] at hv
    split at hv <;> cases hv
  · rw [if_neg e1, List.getElem?_set] at hv
    by_cases e : i = j
    · rw [if_pos e] at hv
      split at hv
      · cases hv
        subst e
        exact List.mem_cons_self
      · cases hv
    · rw [if_neg e] at hv
      obtain ⟨h1, h2⟩ := gKill_get hv
      refine List.mem_cons_of_mem _ (List.mem_filter.mpr ⟨gAs_mem.mpr ⟨v, h1, rfl⟩, ?_⟩)
      simp only [gv_cat, Bool.and_eq_true, Bool.not_eq_true', beq_eq_false_iff_ne, Bool.and_eq_false_iff]
      refine ⟨fun q => e q.symm, fun q => e1 q.symm, ?_⟩
      by_cases q : j + 1 = i
      · exact Or.inr fun c => h2 ⟨q, c⟩
      · exact Or.inl q
theorem gCat_sum {z : Nat} {ro : Nat → Nat} : ∀ st : List Value, ((st.map (gv z ro)).map fun v => v.category).sum = gCat st
  | [] => rfl
  | v :: r => by
    have ih := gCat_sum (z := z) (ro := ro) r
    simp only [List.map_cons, List.sum_cons, gv_cat]
    rw [ih]
    cases v <;> rfl
/-- what a method's end gives -/
def gRes (z : Nat) (ro : Nat → Nat) (cA : FieldType → ClassId) (D : va_G) (roArr : Nat → Option (Nat × (Nat → Int32))) (P : GQ) (v : Option Value) (H : Heap) : Prop :=
  (∃ x G, v = some (.int x) ∧ P.1 x G ∧ gRep z ro cA D roArr G H) ∨ (∃ G, v = none ∧ P.2.1 G ∧ gRep z ro cA D roArr G H) ∨ (∃ k G, v = some (.ref (gAd z ro k)) ∧ P.2.2.1 k G ∧ gRep z ro cA D roArr G H) ∨
  (∃ x G, v = some (.double x) ∧ P.2.2.2.1 x G ∧ gRep z ro cA D roArr G H) ∨ (∃ x G, v = some (.float x) ∧ P.2.2.2.2.1 x G ∧ gRep z ro cA D roArr G H)
def gQc (z : Nat) (ro : Nat → Nat) (cA : FieldType → ClassId) (D : va_G) (roArr : Nat → Option (Nat × (Nat → Int32))) (P : GQ) : Array Value → State → Outcome → State → Prop := fun _ st oc t => (∃ v, oc = .returned v ∧ gRes z ro cA D roArr P v t.heap) ∧ va_F (gA z ro) st t
def gXC (z : Nat) (ro : Nat → Nat) (cA : FieldType → ClassId) (D : va_G) (roArr : Nat → Option (Nat × (Nat → Int32))) (P : GQ) : String → State → State → Prop := fun E st t => (∃ G, (∃ i, i < 3 ∧ E = gExc i) ∧ P.2.2.2.2.2 E G ∧ gRep z ro cA D roArr G t.heap) ∧ va_F (gA z ro) st t
def gPc (z : Nat) (ro : Nat → Nat) (cA : FieldType → ClassId) (D : va_G) (roArr : Nat → Option (Nat × (Nat → Int32))) (G : GH) (as : List Value) : Array Value → State → Prop := va_Pc (as.map (gv z ro)) (fun U => gRep z ro cA D roArr G U.heap ∧ gEnv z ro cA D roArr U U.heap)
theorem gPc.blind {z : Nat} {ro : Nat → Nat} {cA : FieldType → ClassId} {D : va_G} {roArr : Nat → Option (Nat × (Nat → Int32))} {G : GH} {as : List Value} : FrameBlind (gPc z ro cA D roArr G as) := fun a U g mk q => ⟨q.1, q.2.1, gEnv.blind q.2.2⟩
section CallG
variable {p : Program} {l : Launch} {e : Env} {R : Room} {s : State} {m : MethodId} {args : Array Value} {below : List Frame} {meth : Method} {c : Code} {H : Heap} {locs : List Loc} {cells slots : Nat} {Q : State → Prop} {pc : Nat} {ls : Array Slot} {rest st0 : List Value} {a : Array Value} {mc ms : Nat}
variable {z : Nat} {ro : Nat → Nat} {cA : FieldType → ClassId} {D : va_G} {roArr : Nat → Option (Nat × (Nat → Int32))} {P : GQ}
theorem g_keep {st₀ t T' : State} {L : List Loc} (h0 : st₀.heap = H) (e1 : T'.heap = t.heap) (hS : va_S (gA z ro) s.heap H locs) (hL : ∀ q ∈ L, gA z ro q.base) (hF : va_F (gA z ro) st₀ t) : va_S (gA z ro) s.heap T'.heap (locs ++ L) := by
  obtain ⟨hz, hk⟩ := hF
  rw [h0] at hz hk
  refine ⟨Nat.le_trans hS.1 (by rw [e1]; exact hz), fun q h1 h2 => by rw [e1, hk q (Nat.lt_of_lt_of_le h1 hS.1) h2]; exact hS.2.1 q h1 h2, fun q hq => ?_⟩
  rcases List.mem_append.mp hq with h | h
  · exact hS.2.2 q h
  · exact hL q h
theorem g_call (hr : va_Run p l e R s m args below meth c H locs cells slots mc ms (F0 m pc ls st0) rest (gQc z ro cA D roArr P a) (gA z ro)) (hS : va_S (gA z ro) s.heap H locs)
    (kk : ∀ v H1 locs1, gRes z ro cA D roArr P v H1 → va_S (gA z ro) s.heap H1 locs1 → W p l e R s m args below meth c H1 locs1 (cells + mc) (slots + ms) Q (F0 m (pc + 3) ls (v.toList ++ rest))) : W p l e R s m args below meth c H locs cells slots Q (F0 m pc ls st0) := by
  intro T hT X
  obtain ⟨v, st₀, t, T', L, h0, X', hL, e1, e2, ⟨⟨v', hv, hp⟩, hF⟩, st⟩ := hr T hT X
  cases hv
  obtain ⟨t2, a1, b1⟩ := kk v T'.heap (locs ++ L) (by rw [e1]; exact hp) (g_keep h0 e1 hS hL hF) T' rfl X'
  exact ⟨t2, st t2 a1, b1⟩
theorem g_callx (hr : vx_Run p l e R s m args below meth c H locs cells slots mc ms (F0 m pc ls st0) rest (gQc z ro cA D roArr P a) (gXC z ro cA D roArr P) (gA z ro)) (hS : va_S (gA z ro) s.heap H locs)
    (kx : ∀ (E : String) (ce : Cell) (q9 : Addr) (G : GH) (H1 : Heap) (locs1 : List Loc), (∃ i, i < 3 ∧ E = gExc i) → P.2.2.2.2.2 E G → gRep z ro cA D roArr G H1 → va_S (gA z ro) s.heap H1 locs1 → H1[q9]? = some ce → ce.vm = .none → s.vm.findClass E = some ce.cls → vx_W p l e R s m args below meth c H1 locs1 (cells + mc) (slots + ms) Q (F0 m pc ls rest) q9)
    (kk : ∀ v H1 locs1, gRes z ro cA D roArr P v H1 → va_S (gA z ro) s.heap H1 locs1 → W p l e R s m args below meth c H1 locs1 (cells + mc) (slots + ms) Q (F0 m (pc + 3) ls (v.toList ++ rest))) : W p l e R s m args below meth c H locs cells slots Q (F0 m pc ls st0) := by
  intro T hT X
  rcases hr T hT X with ⟨v, st₀, t, T', L, h0, X', hL, e1, e2, ⟨⟨v', hv, hp⟩, hF⟩, st⟩ | ⟨q, st₀, t, T', L, E, ce, h0, X', hL, e1, e2, ⟨⟨G, hE, hp, hb⟩, hF⟩, hce, hcv, hcl, st⟩
  · cases hv
    obtain ⟨t2, a1, b1⟩ := kk v T'.heap (locs ++ L) (by rw [e1]; exact hp) (g_keep h0 e1 hS hL hF) T' rfl X'
    exact ⟨t2, st t2 a1, b1⟩
  · obtain ⟨t2, a1, b1⟩ := kx E ce q G T'.heap (locs ++ L) hE hp (by rw [e1]; exact hb) (g_keep h0 e1 hS hL hF) (by rw [e1]; exact hce) hcv hcl T' rfl X'
    exact ⟨t2, st.trans a1, b1⟩
end CallG
