/-! ===== in the midst of a method: its start laid anew where it stands ===== -/
/-- the start with the heap that stands now -/
def jBase (s : State) (H : Heap) (u : Nat) : State := { s with heap := H, slotsUsed := u }
theorem jHasRoom {s : State} {pl : Platform} {R R' : Room} {H : Heap} {u cells slots : Nat} (h : s.hasRoom pl R = true) (h1 : H.size ≤ s.heap.size + cells) (h2 : u ≤ s.slotsUsed + slots) (ht : (jBase s H u).slotsTrue = true) (hf : R'.frames ≤ R.frames) (hl : R'.locals ≤ R.locals) (hc : cells + R'.cells ≤ R.cells) (hs : slots + R'.slots ≤ R.slots) : (jBase s H u).hasRoom pl R' = true := by
  simp only [State.hasRoom, Bool.and_eq_true, decide_eq_true_eq] at h ⊢
  obtain ⟨⟨⟨⟨g1, g2, g3, g4, g5, g6⟩, g7⟩, g8⟩, -⟩ := h
  refine ⟨⟨⟨⟨?_, ?_, ?_, ?_, ?_, g6⟩, ?_⟩, ?_⟩, ht⟩
  · show s.localsInUse + R'.locals + stackMargin ≤ _; omega
  · show s.frames.length + R'.frames ≤ _; omega
  · show s.frames.length + R'.frames ≤ (pl.stackLimits s.me).1; omega
  · show s.localsInUse + R'.locals ≤ _; omega
  · show s.localsInUse + R'.locals ≤ (pl.stackLimits s.me).2; omega
  · show H.size + R'.cells ≤ _; omega
  · show u + R'.slots ≤ _; omega
section
variable {p : Program} {l : Launch} {e : Env} {R R' : Room} {s : State} {m : MethodId} {args : Array Value} {below : List Frame} {meth : Method} {c : Code} {T : State} {locs : List Loc} {cells slots : Nat}
theorem jStand (X : Stand p l e R s m args below meth c T locs cells slots) (hf : R'.frames ≤ R.frames) (hl : R'.locals ≤ R.locals) (hc : cells + R'.cells ≤ R.cells) (hs : slots + R'.slots ≤ R.slots) : Stand p l e R' (jBase s T.heap T.slotsUsed) m args below meth c T [] 0 0 where
  admits := X.admits
  cas := X.cas
  clock := X.clock
  frames := X.frames
  room := jHasRoom X.room X.same.2.2.1 (by
    have h4 : T.slotsUsed = _ := X.same.2.2.2.1
    have h5 := X.same.2.2.2.2.1
    omega) X.book hf hl hc hs
  hears := X.hears
  method := X.method
  code := X.code
  here := X.here
  tail := X.tail
  warmed := X.warmed
  limits := X.limits
  bytes := X.bytes
  same := by
    have h1 := X.same.1
    refine ⟨h1, Nat.le_refl _, Nat.le_refl _, ?_, ?_, fun a cl h => ⟨cl, h, rfl, rfl, fun i _ => rfl⟩⟩
    · show T.slotsUsed = T.slotsUsed + ((T.heap.toList.drop T.heap.size).map (·.slots.size)).sum
      rw [List.drop_eq_nil_of_le (by simp)]
      rfl
    · show ((T.heap.toList.drop T.heap.size).map (·.slots.size)).sum ≤ 0
      rw [List.drop_eq_nil_of_le (by simp)]
      exact Nat.le_refl 0
end
