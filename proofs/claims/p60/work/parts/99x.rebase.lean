/-! ===== in the midst of a method: its start laid anew where it stands ===== -/
/-- the start with the heap that stands now -/
def jBase (s : State) (H : Heap) (u : Nat) : State := { s with heap := H, slotsUsed := u }
theorem jHasRoom {s : State} {pl : Platform} {R R' : Room} {H : Heap} {u cells slots : Nat} (h : s.hasRoom pl R = true) (h1 : H.size ≤ s.heap.size + cells) (h2 : u ≤ s.slotsUsed + slots) (ht : (jBase s H u).slotsTrue = true) (hf : R'.frames ≤ R.frames) (hl : R'.locals ≤ R.locals) (hc : cells + R'.cells ≤ R.cells) (hs : slots + R'.slots ≤ R.slots) : (jBase s H u).hasRoom pl R' = true := by
  simp only [State.hasRoom, Bool.and_eq_true, decide_eq_true_eq] at h ⊢
  obtain ⟨⟨⟨⟨g1, g2, g3, g4, g5, g6⟩, g7⟩, g8⟩, -⟩ := h
  refine ⟨⟨⟨⟨?_, ?_, ?_, ?_, ?_, g6⟩, ?_⟩, ?_⟩, ht⟩
  · show s.localsInUse + R'.locals + stackMargin ≤ _; omega
  · show s.frames.length + R'.frames ≤ _; omega
  · show s.frames.length + R'.frames ≤ (pl.stackLimits s.me).1; omega
  · show s.localsInUse + R'.locals ≤ _; omega
  · show s.localsInUse + R'.locals ≤ (pl.stackLimits s.me).2; omega
  · show H.size + R'.cells ≤ _; omega
  · show u + R'.slots ≤ _; omega
section
variable {p : Program} {l : Launch} {e : Env} {R R' : Room} {s : State} {m : MethodId} {args : Array Value} {below : List Frame} {meth : Method} {c : Code} {T : State} {locs : List Loc} {cells slots : Nat}
theorem jStand (X : Stand p l e R s m args below meth c T locs cells slots) (hf : R'.frames ≤ R.frames) (hl : R'.locals ≤ R.locals) (hc : cells + R'.cells ≤ R.cells) (hs : slots + R'.slots ≤ R.slots) : Stand p l e R' (jBase s T.heap T.slotsUsed) m args below meth c T [] 0 0 where
  admits := X.admits
  cas := X.cas
  clock := X.clock
  frames := X.frames
  room := jHasRoom X.room X.same.2.2.1 (by
    have h4 : T.slotsUsed = _ := X.same.2.2.2.1
    have h5 := X.same.2.2.2.2.1
    omega) X.book hf hl hc hs
  hears := X.hears
  method := X.method
  code := X.code
  here := X.here
  tail := X.tail
  warmed := X.warmed
  limits := X.limits
  bytes := X.bytes
  same := by
    have h1 := X.same.1
    refine ⟨h1, Nat.le_refl _, Nat.le_refl _, ?_, ?_, fun a cl h => ⟨cl, h, rfl, rfl, fun i _ => rfl⟩⟩
    · show T.slotsUsed = T.slotsUsed + ((T.heap.toList.drop T.heap.size).map (·.slots.size)).sum
      rw [List.drop_eq_nil_of_le (by simp)]
      rfl
    · show ((T.heap.toList.drop T.heap.size).map (·.slots.size)).sum ≤ 0
      rw [List.drop_eq_nil_of_le (by simp)]
      exact Nat.le_refl 0
end
theorem j_sum {A B : List Cell} {k n : Nat} (hA : A.length = k) (hk : n ≤ k) (hB : k ≤ B.length) (he : ∀ i, i < k → (B[i]?).map (·.slots.size) = (A[i]?).map (·.slots.size)) : ((B.drop n).map (·.slots.size)).sum = ((A.drop n).map (·.slots.size)).sum + ((B.drop k).map (·.slots.size)).sum := by
  have e1 : (B.take k).map (·.slots.size) = A.map (·.slots.size) := by
    apply List.ext_getElem?
    intro i
    rw [List.getElem?_map, List.getElem?_map, List.getElem?_take]
    by_cases hi : i < k
    · rw [if_pos hi]; exact he i hi
    · rw [if_neg hi, List.getElem?_eq_none (by omega)]
  have e2 : B = B.take k ++ B.drop k := (List.take_append_drop k B).symm
  have e3 : B.drop n = (B.take k).drop n ++ B.drop k := by
    conv => lhs; rw [e2]
    rw [List.drop_append_of_le_length (by rw [List.length_take]; omega)]
  rw [e3, List.map_append, List.sum_append]
  simp only [List.map_drop, e1]
theorem j_trans {s t T : State} {locs L' : List Loc} {cells slots c' n' : Nat} (h : s.sameButNew (T.setVm s.vm) locs cells slots) (h' : (jBase s T.heap T.slotsUsed).sameButNew t L' c' n') (hl : ∀ q ∈ locs, s.heap.size ≤ q.base) (hl' : ∀ q ∈ L', s.heap.size ≤ q.base) : s.sameButNew t [] (cells + c') (slots + n') := by
  obtain ⟨a1, a2, a3, a4, a5, a6⟩ := h
  obtain ⟨b1, b2, b3, b4, b5, b6⟩ := h'
  have a2 : s.heap.size ≤ T.heap.size := a2
  have a3 : T.heap.size ≤ s.heap.size + cells := a3
  have b2 : T.heap.size ≤ t.heap.size := b2
  have b3 : t.heap.size ≤ T.heap.size + c' := b3
  have hs := j_sum (A := T.heap.toList) (B := t.heap.toList) (k := T.heap.size) (n := s.heap.size) (by simp) a2 (by simpa using b2) (fun i hi => by
    rw [Array.getElem?_toList, Array.getElem?_toList]
    have hc : T.heap[i]? = some T.heap[i] := Array.getElem?_eq_getElem hi
    obtain ⟨cl', g1, g2, g3, -⟩ := b6 i T.heap[i] hc
    rw [g1, hc]
    exact congrArg some g3)
  have a4 : T.slotsUsed = s.slotsUsed + ((T.heap.toList.drop s.heap.size).map (·.slots.size)).sum := a4
  have a5 : ((T.heap.toList.drop s.heap.size).map (·.slots.size)).sum ≤ slots := a5
  have b4 : t.slotsUsed = T.slotsUsed + ((t.heap.toList.drop T.heap.size).map (·.slots.size)).sum := b4
  have b5 : ((t.heap.toList.drop T.heap.size).map (·.slots.size)).sum ≤ n' := b5
  refine ⟨b1, by omega, by omega, by omega, by omega, fun a cl hc => ?_⟩
  have ha : a < s.heap.size := (Array.getElem?_eq_some_iff.mp hc).1
  obtain ⟨c1, g1, g2, g3, g4⟩ := a6 a cl hc
  obtain ⟨c2, k1, k2, k3, k4⟩ := b6 a c1 g1
  refine ⟨c2, k1, ?_, by rw [k3, g3], fun i _ => ?_⟩
  · rw [k2, g2]
  · rw [k4 i (fun hm => absurd (hl' _ hm) (by simpa using ha)), g4 i (fun hm => absurd (hl _ hm) (by simpa using ha))]
section
variable {p : Program} {l : Launch} {e : Env} {R R' : Room} {s : State} {m : MethodId} {args : Array Value} {below : List Frame} {meth : Method} {c : Code} {H : Heap} {locs : List Loc} {cells slots : Nat} {Q : State → Prop} {g : JFrame}
/-- from here on with a new start -/
theorem W.rebase (hf : R'.frames ≤ R.frames) (hl : R'.locals ≤ R.locals) (hc : cells + R'.cells ≤ R.cells) (hs : slots + R'.slots ≤ R.slots) (Q' : State → State → Prop)
    (k : ∀ u, W p l e R' (jBase s H u) m args below meth c H [] 0 0 (Q' (jBase s H u)) g)
    (hq : ∀ (T t : State), T.heap = H → s.sameButNew (T.setVm s.vm) locs cells slots → Q' (jBase s T.heap T.slotsUsed) t → Q t) : W p l e R s m args below meth c H locs cells slots Q g := by
  intro T hT X
  have X' := jStand (R' := R') X hf hl hc hs
  rw [hT] at X'
  obtain ⟨t, a1, b1⟩ := k T.slotsUsed T hT X'
  exact ⟨t, a1, hq T t hT X.same (by rw [hT]; exact b1)⟩
end
