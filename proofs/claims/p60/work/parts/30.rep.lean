/-! ===== the ghost heap in the machine's heap ===== -/
def gTy : List FieldType := [.int, .boolean, .int, .object "TrunkDuel$State"]
def gTys (cA : FieldType → ClassId) : List (ClassId × FieldType) := gTy.map fun t => (cA t, t)
/-- what may be written: the tracked cells, and what comes from ro 99999 on -/
def gA (z : Nat) (ro : Nat → Nat) : Nat → Prop := fun q => z ≤ q ∧ (q < z + 249 ∨ ro 99999 ≤ q)
/-- the drawn text -/
abbrev gDY : Nat := 100004
/-- what a read-only cell is -/
def gRt (k : Nat) : FieldType := if k = gDY then .byte else .int
def gAd (z : Nat) (ro : Nat → Nat) (k : Nat) : Nat := if k < gRB then z + k else ro k
def gv (z : Nat) (ro : Nat → Nat) (v : Value) : Value := match v with
  | .ref k => .ref (gAd z ro k)
  | v => v
def gAr (z : Nat) (ro : Nat → Nat) (a : vp_A) : vp_A := match a with
  | (n, .inl f) => (n, .inl f)
  | (n, .inr (.inl f)) => (n, .inr (.inl f))
  | (n, .inr (.inr (.inl f))) => (n, .inr (.inr (.inl f)))
  | (n, .inr (.inr (.inr (.inl f)))) => (n, .inr (.inr (.inr (.inl f))))
  | (n, .inr (.inr (.inr (.inr f)))) => (n, .inr (.inr (.inr (.inr fun j => (f j).map (gAd z ro)))))
def gCell (z : Nat) (ro : Nat → Nat) (cA : FieldType → ClassId) (c : GC) : va_E := match c with
  | .inl (ci, fs) => .inr (ci, fs.map (gv z ro))
  | .inr (ty, a) => .inl (cA ty, gAr z ro a)
def gWorld (z : Nat) (ro : Nat → Nat) (cA : FieldType → ClassId) (G : GH) (n : Nat) : va_W := (List.range (n + 1)).map fun i => (z + i, gCell z ro cA ((G.2 i).getD (.inl (0, []))))
def gRep (z : Nat) (ro : Nat → Nat) (cA : FieldType → ClassId) (D : va_G) (roArr : Nat → Option (Nat × (Nat → Int32))) (G : GH) (H : Heap) : Prop :=
  ∃ n, n < gRB ∧ (∀ k, k < gRB → ((∃ c, G.2 k = some c) ↔ k ≤ n)) ∧ ((n ≤ 248 ∨ ro 99999 = 0) ∧ (0 < G.1 → G.1 = n + 1 ∧ H.size = z + n + 1 ∧ ro 99999 = 0)) ∧ va_P D vwCl (gWorld z ro cA G n) H ∧ (∀ k, gRB ≤ k → G.2 k = (roArr k).map fun q => .inr (gRt k, q.1, .inl q.2)) ∧
    (∀ k ci fs, k < gRB → G.2 k = some (.inl (ci, fs)) → ∃ q, vwCl[ci]? = some q ∧ fs.length = q.2.2)
section Rep
variable {z : Nat} {ro : Nat → Nat} {cA : FieldType → ClassId} {D : va_G} {roArr : Nat → Option (Nat × (Nat → Int32))} {G : GH} {H H1 : Heap} {n : Nat}
theorem gWorld_at {k : Nat} {c : GC} (h : G.2 k = some c) (h2 : k ≤ n) : (gWorld z ro cA G n)[k]? = some (z + k, gCell z ro cA c) := by
  have hr : (List.range (n + 1))[k]? = some k := by
    rw [List.getElem?_range (by omega)]
  simp only [gWorld, List.getElem?_map, hr, Option.map_some, h, Option.getD_some]
theorem gWorld_at2 {k : Nat} {c : GC} (hk : k < gRB) (h : G.2 k = some c) (h2 : k ≤ n) : (gWorld z ro cA G n)[k]? = some (gAd z ro k, gCell z ro cA c) := by
  rw [gWorld_at h h2]
  simp only [gAd, hk, if_true]
theorem gWorld_len : (gWorld z ro cA G n).length = n + 1 := by simp [gWorld]
theorem gWorld_D (hn : n ≤ 248 ∨ ro 99999 = 0) : va_D (gA z ro) (gWorld z ro cA G n) := by
  have key : ∀ (i : Nat) (p : Nat × va_E), (gWorld z ro cA G n)[i]? = some p → p.1 = z + i ∧ i ≤ n := by
    intro i p h
    simp only [gWorld, List.getElem?_map] at h
    cases hr : (List.range (n + 1))[i]? with
    | none => rw [hr] at h; cases h
    | some j =>
      rw [hr] at h
      have hj : j = i ∧ i < n + 1 := by
        have hl := (List.getElem?_eq_some_iff.mp hr)
        obtain ⟨hl, e⟩ := hl
        rw [List.getElem_range] at e
        exact ⟨e.symm, by simpa using hl⟩
      obtain ⟨rfl, hj⟩ := hj
      cases h
      exact ⟨rfl, by omega⟩
  refine ⟨fun i j p q hi hj e => ?_, fun k q hk => ?_⟩
  · have a := (key i p hi).1
    have b := (key j q hj).1
    omega
  · obtain ⟨a, b⟩ := key k q hk
    refine ⟨by omega, ?_⟩
    rcases hn with h | h
    · left; omega
    · right; omega
theorem gWorld_set {k : Nat} {c : GC} (h2 : k ≤ n) : gWorld z ro cA (gU G k c) n = (gWorld z ro cA G n).set k (z + k, gCell z ro cA c) := by
  refine List.ext_getElem? fun i => ?_
  rw [List.getElem?_set]
  by_cases hi : k = i
  · subst hi
    rw [if_pos rfl, gWorld_len, if_pos (by omega)]
    exact gWorld_at (by simp [gU]) h2
  · rw [if_neg hi]
    simp only [gWorld, List.getElem?_map]
    cases hr : (List.range (n + 1))[i]? with
    | none => rfl
    | some j =>
      have hj : j = i := by
        obtain ⟨hl, e⟩ := List.getElem?_eq_some_iff.mp hr
        rw [List.getElem_range] at e
        exact e.symm
      subst hj
      have hne : j ≠ k := fun e => hi e.symm
      simp [gU, hne]
theorem gWorld_push {c : GC} (h : G.1 = n + 1) : gWorld z ro cA (gPush G c) (n + 1) = gWorld z ro cA G n ++ [(z + (n + 1), gCell z ro cA c)] := by
  simp only [gWorld]
  rw [List.range_succ, List.map_append, List.map_cons, List.map_nil]
  congr 1
  · refine List.map_congr_left fun i hi => ?_
    have : i < n + 1 := List.mem_range.mp hi
    have hne : i ≠ G.1 := by omega
    simp [gPush, hne]
  · simp [gPush, h]
theorem gWorld_dirty : gWorld z ro cA (gDirty G) n = gWorld z ro cA G n := rfl
/-- a cell of the ghost heap stands in the world -/
theorem gRep.at {k : Nat} {c : GC} (h : gRep z ro cA D roArr G H) (hk : k < gRB) (hc : G.2 k = some c) : ∃ n, (n ≤ 248 ∨ ro 99999 = 0) ∧ k ≤ n ∧ n < gRB ∧ va_P D vwCl (gWorld z ro cA G n) H ∧ (gWorld z ro cA G n)[k]? = some (gAd z ro k, gCell z ro cA c) := by
  obtain ⟨n, h0, h1, h2, h3, -, -⟩ := h
  have b := (h1 k hk).mp ⟨c, hc⟩
  refine ⟨n, h2.1, b, h0, h3, ?_⟩
  rw [gWorld_at hc b]
  simp [gAd, hk]
theorem gRep.kept (h : gRep z ro cA D roArr G H) (hs : H1.size = H.size ∨ G.1 = 0) (hq : ∀ q : Nat, gA z ro q → q < H.size → H1[q]? = H[q]?) : gRep z ro cA D roArr G H1 := by
  obtain ⟨n, h0, h1, h2, h3, h4, h5⟩ := h
  refine ⟨n, h0, h1, ⟨h2.1, fun g => ?_⟩, h3.kept fun k q hk => hq q.1 ((gWorld_D h2.1).2 k q hk) ((h3 k q hk).lt), h4, h5⟩
  obtain ⟨a, b, b2⟩ := h2.2 g
  refine ⟨a, ?_, b2⟩
  rcases hs with hs | hs
  · omega
  · omega
theorem gRep.dirty (h : gRep z ro cA D roArr G H) : gRep z ro cA D roArr (gDirty G) H := by
  obtain ⟨n, h0, h1, h2, h3, h4, h5⟩ := h
  exact ⟨n, h0, h1, ⟨h2.1, fun g => absurd g (Nat.lt_irrefl 0)⟩, h3, h4, h5⟩
/-- a store -/
theorem gRep.store {k : Nat} {c c0 : GC} (h : gRep z ro cA D roArr G H) (hk : k < gRB) (hc : G.2 k = some c0) (hs : H1.size = H.size)
    (hP : ∀ n, (n ≤ 248 ∨ ro 99999 = 0) → k ≤ n → va_P D vwCl (gWorld z ro cA G n) H → va_P D vwCl ((gWorld z ro cA G n).set k (gAd z ro k, gCell z ro cA c)) H1)
    (hl : ∀ ci fs, c = .inl (ci, fs) → ∃ q, vwCl[ci]? = some q ∧ fs.length = q.2.2) : gRep z ro cA D roArr (gU G k c) H1 := by
  obtain ⟨n, h0, h1, h2, h3, h4, h5⟩ := h
  have b := (h1 k hk).mp ⟨c0, hc⟩
  refine ⟨n, h0, fun j hj => ?_, ⟨h2.1, fun g => ?_⟩, ?_, fun j hj => ?_, fun j ci fs hj e => ?_⟩
  · rw [← h1 j hj]
    by_cases e : j = k
    · subst e
      simp [gU, hc]
    · simp [gU, e]
  · obtain ⟨x, y, y2⟩ := h2.2 g
    exact ⟨x, by rw [hs]; exact y, y2⟩
  · rw [gWorld_set b]
    have := hP n h2.1 b h3
    simpa [gAd, hk] using this
  · have e : j ≠ k := by omega
    rw [← h4 j hj]
    simp [gU, e]
  · by_cases ej : j = k
    · subst ej
      simp [gU] at e
      exact hl ci fs e
    · simp [gU, ej] at e
      exact h5 j ci fs hj e
/-- a new cell -/
theorem gRep.push {c : GC} (h : gRep z ro cA D roArr G H) (h0 : 0 < G.1) (hb : G.1 < gRB) (hs : H1.size = H.size + 1)
    (hP : ∀ n, H.size = z + n + 1 → va_P D vwCl (gWorld z ro cA G n) H → va_P D vwCl (gWorld z ro cA G n ++ [(z + (n + 1), gCell z ro cA c)]) H1)
    (hl : ∀ ci fs, c = .inl (ci, fs) → ∃ q, vwCl[ci]? = some q ∧ fs.length = q.2.2) : gRep z ro cA D roArr (gPush G c) H1 ∧ gAd z ro G.1 = H.size := by
  obtain ⟨n, h00, h1, h2, h3, h4, h5⟩ := h
  obtain ⟨a, b, b2⟩ := h2.2 h0
  refine ⟨⟨n + 1, by omega, fun j hj => ?_, ⟨Or.inr b2, fun g => ?_⟩, ?_, fun j hj => ?_, fun j ci fs hj e => ?_⟩, by simp [gAd, hb]; omega⟩
  · by_cases e : j = G.1
    · subst e
      simp [gPush]
      omega
    · have := h1 j hj
      simp [gPush, e]
      rw [this]
      omega
  · refine ⟨?_, by omega, b2⟩
    show G.1 + 1 = _
    omega
  · rw [gWorld_push a]
    exact hP n b h3
  · have e : j ≠ G.1 := by omega
    rw [← h4 j hj]
    simp [gPush, e]
  · by_cases ej : j = G.1
    · subst ej
      simp [gPush] at e
      exact hl ci fs e
    · simp [gPush, ej] at e
      exact h5 j ci fs hj e
end Rep
