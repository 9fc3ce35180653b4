/-! ===== the least predicate closed under the steps; blocks of steps as one formula ===== -/
abbrev GW : Type := Nat → Nat → Nat → Nat → GL → List Value → GH → GQ → Prop
def gEntry (m : Nat) (as : List Value) : GL := as.map some ++ List.replicate (gMaxL m - as.length) none
/-- a call of method m with the arguments as -/
def gC (X : GW) : Nat → Nat → Nat → List Value → GH → GQ → Prop := fun m c d as G P => X m c d 0 (gEntry m as) [] G P
def gCx (X : GW) : Nat → Nat → Nat → List Value → GH → GQ → Prop := fun m c d as G K => ∃ P, gC X m c d as G P ∧ gLe P K
def gStep (X : GW) : GW := fun m rc rs pc ls st G Q => stepG gStr gExc gBlk gCls (gLook (gTab m)) (gHh m) (gCx X) (fun rc rs pc ls st G => X m rc rs pc ls st G Q) Q rc rs pc ls st G
/-- fewer locals known -/
def gSub (a b : GL) : Prop := a.length = b.length ∧ ∀ (i : Nat) (v : Value), a[i]? = some (some v) → b[i]? = some (some v)
def gRule (X : GW) : GW := fun m rc rs pc ls st G Q => gStep X m rc rs pc ls st G Q ∨ ∃ rc0 rs0 ls0, rc0 ≤ rc ∧ rs0 ≤ rs ∧ gSub ls0 ls ∧ X m rc0 rs0 pc ls0 st G Q
/-- from here, with these locals, this stack, this heap, the method comes to an end as Q wants it -/
def WP : GW := fun m rc rs pc ls st G Q => ∀ X : GW, (∀ m rc rs pc ls st G Q, gRule X m rc rs pc ls st G Q → X m rc rs pc ls st G Q) → X m rc rs pc ls st G Q
theorem gStep_mono {X X' : GW} (h : ∀ m rc rs pc ls st G Q, X m rc rs pc ls st G Q → X' m rc rs pc ls st G Q) (m rc rs pc : Nat) (ls : GL) (st : List Value) (G : GH) (Q : GQ) : gStep X m rc rs pc ls st G Q → gStep X' m rc rs pc ls st G Q :=
  stepG_mono (fun m c d as G K K' ⟨P, h1, h2⟩ h3 => ⟨P, h _ _ _ _ _ _ _ _ h1, h2.tr h3⟩) (fun rc rs pc ls st G => h _ _ _ _ _ _ _ _) (gLe.rf Q) _ _ _ _ _ _
theorem WP.step {m rc rs pc : Nat} {ls : GL} {st : List Value} {G : GH} {Q : GQ} (h : gStep WP m rc rs pc ls st G Q) : WP m rc rs pc ls st G Q := fun X hX => hX _ _ _ _ _ _ _ _ (Or.inl (gStep_mono (fun _ _ _ _ _ _ _ _ w => w X hX) _ _ _ _ _ _ _ _ h))
theorem WP.less {m rc rs pc : Nat} {ls : GL} {st : List Value} {G : GH} {Q : GQ} {rc0 rs0 : Nat} {ls0 : GL} (h : WP m rc0 rs0 pc ls0 st G Q) (h1 : rc0 ≤ rc) (h2 : rs0 ≤ rs) (h3 : gSub ls0 ls) : WP m rc rs pc ls st G Q := fun X hX => hX _ _ _ _ _ _ _ _ (Or.inr ⟨rc0, rs0, ls0, h1, h2, h3, h X hX⟩)
theorem gSub.rf (a : GL) : gSub a a := ⟨rfl, fun _ _ h => h⟩
theorem WP.mono {m rc rs pc : Nat} {ls : GL} {st : List Value} {G : GH} {Q Q' : GQ} (h : WP m rc rs pc ls st G Q) (hQ : gLe Q Q') : WP m rc rs pc ls st G Q' :=
  h (fun m rc rs pc ls st G Q => ∀ Q', gLe Q Q' → WP m rc rs pc ls st G Q') (fun m rc rs pc ls st G Q h Q' hQ => h.elim (fun h => WP.step (stepG_mono (fun m c d as G K K' ⟨P, h1, h2⟩ h3 => ⟨P, h1 P (gLe.rf P), h2.tr h3⟩) (fun rc rs pc ls st G w => w Q' hQ) hQ _ _ _ _ _ _ h)) (fun ⟨_, _, _, h1, h2, h3, h4⟩ => WP.less (h4 Q' hQ) h1 h2 h3)) Q' hQ
/-- a call that answers an int (or a boolean), may throw -/
def CI (m : Nat) (as : List Value) (G : GH) (K : Int32 → GH → Prop) (KX : String → GH → Prop) : Prop := gC WP m (gCells m) (gSlots m) as G (gQi K KX)
def CV (m : Nat) (as : List Value) (G : GH) (K : GH → Prop) (KX : String → GH → Prop) : Prop := gC WP m (gCells m) (gSlots m) as G (gQv K KX)
def CR (m : Nat) (as : List Value) (G : GH) (K : Nat → GH → Prop) : Prop := gC WP m (gCells m) (gSlots m) as G (gQr K)
def CD (m : Nat) (as : List Value) (G : GH) (K : UInt64 → GH → Prop) : Prop := gC WP m (gCells m) (gSlots m) as G (gQd K)
def CF (m : Nat) (as : List Value) (G : GH) (K : UInt32 → GH → Prop) : Prop := gC WP m (gCells m) (gSlots m) as G (gQf K)
/-- which locals are still known at a cut -/
def gMask : List Bool → GL → GL
  | [], ls => ls
  | _ :: _, [] => []
  | true :: bs, v :: ls => v :: gMask bs ls
  | false :: bs, _ :: ls => none :: gMask bs ls
theorem gMask_sub : ∀ (bs : List Bool) (ls : GL), gSub (gMask bs ls) ls
  | [], ls => gSub.rf ls
  | true :: _, [] => gSub.rf []
  | false :: _, [] => gSub.rf []
  | true :: bs, v :: ls => by
    obtain ⟨h1, h2⟩ := gMask_sub bs ls
    refine ⟨congrArg Nat.succ h1, fun i w h => ?_⟩
    cases i with
    | zero => exact h
    | succ i => exact h2 i w h
  | false :: bs, v :: ls => by
    obtain ⟨h1, h2⟩ := gMask_sub bs ls
    refine ⟨congrArg Nat.succ h1, fun i w h => ?_⟩
    cases i with
    | zero => cases h
    | succ i => exact h2 i w h
/-- the formula of a block of at most n steps, cut at the pcs of stop -/
def vc (T : Nat → Option GE) (hh : GHd) (stop : List (Nat × List Bool)) (m : Nat) (Q : GQ) : Nat → GX
  | 0 => fun rc rs pc ls st G => WP m rc rs pc ls st G Q
  | n + 1 => fun rc rs pc ls st G => match stop.lookup pc with
    | some bs => WP m rc rs pc (gMask bs ls) st G Q
    | none => stepG gStr gExc gBlk gCls T hh (gC WP) (vc T hh stop m Q n) Q rc rs pc ls st G
def vc1 (T : Nat → Option GE) (hh : GHd) (stop : List (Nat × List Bool)) (m : Nat) (Q : GQ) (n : Nat) : GX := fun rc rs pc ls st G => stepG gStr gExc gBlk gCls T hh (gC WP) (vc T hh stop m Q n) Q rc rs pc ls st G
theorem gC_x (m c d : Nat) (as : List Value) (G : GH) (K K' : GQ) (h : gC WP m c d as G K) (hk : gLe K K') : gCx WP m c d as G K' := ⟨K, h, hk⟩
theorem vc_ok {T : Nat → Option GE} {hh : GHd} {stop : List (Nat × List Bool)} {m : Nat} {Q : GQ} (hT : gLook (gTab m) = T) (hH : gHh m = hh) : ∀ (n rc rs pc : Nat) (ls : GL) (st : List Value) (G : GH), vc T hh stop m Q n rc rs pc ls st G → WP m rc rs pc ls st G Q
  | 0, _, _, _, _, _, _ => id
  | n + 1, rc, rs, pc, ls, st, G => by
    unfold vc
    cases stop.lookup pc with
    | none =>
      intro h
      refine WP.step ?_
      unfold gStep
      rw [hT, hH]
      exact stepG_mono (fun m c d as G K K' => gC_x m c d as G K K') (vc_ok hT hH n) (gLe.rf Q) _ _ _ _ _ _ h
    | some bs => exact fun h => WP.less h (Nat.le_refl _) (Nat.le_refl _) (gMask_sub bs ls)
theorem WP.ofV {T : List (List (Option GE))} {hh : GHd} {m : Nat} {Q : GQ} {rc rs pc : Nat} {ls : GL} {st : List Value} {G : GH} (hT : gTab m = T) (hH : gHh m = hh) (stop : List (Nat × List Bool)) (n : Nat) (h : vc1 (gLook T) hh stop m Q n rc rs pc ls st G) : WP m rc rs pc ls st G Q := by
  refine WP.step ?_
  unfold gStep
  rw [hT, hH]
  exact stepG_mono (fun m c d as G K K' => gC_x m c d as G K K') (vc_ok (by rw [hT]) hH n) (gLe.rf Q) _ _ _ _ _ _ h
theorem CI.mono {m : Nat} {as : List Value} {G : GH} {K K' : Int32 → GH → Prop} {KX KX' : String → GH → Prop} (h : CI m as G K KX) (h1 : ∀ x G, K x G → K' x G) (h2 : ∀ x G, KX x G → KX' x G) : CI m as G K' KX' := WP.mono h ⟨h1, fun _ h => h, fun _ _ h => h, fun _ _ h => h, fun _ _ h => h, h2⟩
theorem CV.mono {m : Nat} {as : List Value} {G : GH} {K K' : GH → Prop} {KX KX' : String → GH → Prop} (h : CV m as G K KX) (h1 : ∀ G, K G → K' G) (h2 : ∀ x G, KX x G → KX' x G) : CV m as G K' KX' := WP.mono h ⟨fun _ _ h => h, h1, fun _ _ h => h, fun _ _ h => h, fun _ _ h => h, h2⟩
theorem CI.of {m : Nat} {as : List Value} {G : GH} {K : Int32 → GH → Prop} {KX : String → GH → Prop} {ls : GL} {rc rs : Nat} (hc : gCells m = rc) (hs : gSlots m = rs) (hl : gEntry m as = ls) (h : WP m rc rs 0 ls [] G (gQi K KX)) : CI m as G K KX := by
  subst hc; subst hs; subst hl; exact h
theorem CV.of {m : Nat} {as : List Value} {G : GH} {K : GH → Prop} {KX : String → GH → Prop} {ls : GL} {rc rs : Nat} (hc : gCells m = rc) (hs : gSlots m = rs) (hl : gEntry m as = ls) (h : WP m rc rs 0 ls [] G (gQv K KX)) : CV m as G K KX := by
  subst hc; subst hs; subst hl; exact h
theorem CR.of {m : Nat} {as : List Value} {G : GH} {K : Nat → GH → Prop} {ls : GL} {rc rs : Nat} (hc : gCells m = rc) (hs : gSlots m = rs) (hl : gEntry m as = ls) (h : WP m rc rs 0 ls [] G (gQr K)) : CR m as G K := by
  subst hc; subst hs; subst hl; exact h
theorem CD.of {m : Nat} {as : List Value} {G : GH} {K : UInt64 → GH → Prop} {ls : GL} {rc rs : Nat} (hc : gCells m = rc) (hs : gSlots m = rs) (hl : gEntry m as = ls) (h : WP m rc rs 0 ls [] G (gQd K)) : CD m as G K := by
  subst hc; subst hs; subst hl; exact h
theorem CF.of {m : Nat} {as : List Value} {G : GH} {K : UInt32 → GH → Prop} {ls : GL} {rc rs : Nat} (hc : gCells m = rc) (hs : gSlots m = rs) (hl : gEntry m as = ls) (h : WP m rc rs 0 ls [] G (gQf K)) : CF m as G K := by
  subst hc; subst hs; subst hl; exact h
