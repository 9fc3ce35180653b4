/-! ===== the plain machine's run: the least fixed point of its steps, as an equation ===== -/
def RelOk {ι : Type} (ρ : (ι → Option PO) → Option PO → Prop) : Prop := ρ (fun _ => none) none ∧ (∀ o, ρ (fun _ => some o) (some o)) ∧
  (∀ (r : ι → Option PO) (r' : Option PO) (k : ι → PO → Option PO) (k' : PO → Option PO), ρ r r' → (∀ o, ρ (fun i => k i o) (k' o)) → ρ (fun i => (r i).bind (k i)) (r'.bind k'))
section Rel
variable {ι : Type} {ρ : (ι → Option PO) → Option PO → Prop} (hR : RelOk ρ)
theorem cI_bind (r : Option PO) (k : Int → PG → PM → Option PO) (h : Nat → PG → PM → Option PO) : cI r k h = r.bind fun o => match o with
  | (0, (0, _, x), g, u) => k x g u
  | (i + 1, _, g, u) => h i g u
  | _ => none := by
  rcases r with _ | ⟨_ | i, ⟨_ | t, a, x⟩, g, u⟩ <;> rfl
theorem cV_bind (r : Option PO) (k : PG → PM → Option PO) (h : Nat → PG → PM → Option PO) : cV r k h = r.bind fun o => match o with
  | (0, (5, _, _), g, u) => k g u
  | (i + 1, _, g, u) => h i g u
  | _ => none := by
  rcases r with _ | ⟨_ | i, ⟨_ | _ | _ | _ | _ | _ | t, a, x⟩, g, u⟩ <;> rfl
theorem cR_bind (r : Option PO) (k : Nat → PG → PM → Option PO) : cR r k = r.bind fun o => match o with
  | (0, (1, a, _), g, u) => k a g u
  | _ => none := by
  rcases r with _ | ⟨_ | i, ⟨_ | _ | t, a, x⟩, g, u⟩ <;> rfl
theorem cD_bind (r : Option PO) (k : Nat → PG → PM → Option PO) : cD r k = r.bind fun o => match o with
  | (0, (3, a, _), g, u) => k a g u
  | _ => none := by
  rcases r with _ | ⟨_ | i, ⟨_ | _ | _ | _ | t, a, x⟩, g, u⟩ <;> rfl
theorem cF_bind (r : Option PO) (k : Nat → PG → PM → Option PO) : cF r k = r.bind fun o => match o with
  | (0, (4, a, _), g, u) => k a g u
  | _ => none := by
  rcases r with _ | ⟨_ | i, ⟨_ | _ | _ | _ | _ | t, a, x⟩, g, u⟩ <;> rfl
theorem rel_cI {r : ι → Option PO} {r' : Option PO} {k : ι → Int → PG → PM → Option PO} {k' : Int → PG → PM → Option PO} {h : ι → Nat → PG → PM → Option PO} {h' : Nat → PG → PM → Option PO} (hR : RelOk ρ) (hr : ρ r r') (hk : ∀ x g u, ρ (fun i => k i x g u) (k' x g u)) (hh : ∀ j g u, ρ (fun i => h i j g u) (h' j g u)) : ρ (fun i => cI (r i) (k i) (h i)) (cI r' k' h') := by
  simp only [cI_bind]
  refine hR.2.2 _ _ _ _ hr fun o => ?_
  rcases o with ⟨_ | j, ⟨_ | t, a, x⟩, g, u⟩
  · exact hk _ _ _
  · exact hR.1
  · exact hh _ _ _
  · exact hh _ _ _
theorem rel_cV {r : ι → Option PO} {r' : Option PO} {k : ι → PG → PM → Option PO} {k' : PG → PM → Option PO} {h : ι → Nat → PG → PM → Option PO} {h' : Nat → PG → PM → Option PO} (hR : RelOk ρ) (hr : ρ r r') (hk : ∀ g u, ρ (fun i => k i g u) (k' g u)) (hh : ∀ j g u, ρ (fun i => h i j g u) (h' j g u)) : ρ (fun i => cV (r i) (k i) (h i)) (cV r' k' h') := by
  simp only [cV_bind]
  refine hR.2.2 _ _ _ _ hr fun o => ?_
  rcases o with ⟨_ | j, ⟨_ | _ | _ | _ | _ | _ | t, a, x⟩, g, u⟩ <;> first | exact hk _ _ | exact hh _ _ _ | exact hR.1
theorem rel_cR {r : ι → Option PO} {r' : Option PO} {k : ι → Nat → PG → PM → Option PO} {k' : Nat → PG → PM → Option PO} (hR : RelOk ρ) (hr : ρ r r') (hk : ∀ x g u, ρ (fun i => k i x g u) (k' x g u)) : ρ (fun i => cR (r i) (k i)) (cR r' k') := by
  simp only [cR_bind]
  refine hR.2.2 _ _ _ _ hr fun o => ?_
  rcases o with ⟨_ | j, ⟨_ | _ | t, a, x⟩, g, u⟩ <;> first | exact hk _ _ _ | exact hR.1
theorem rel_cD {r : ι → Option PO} {r' : Option PO} {k : ι → Nat → PG → PM → Option PO} {k' : Nat → PG → PM → Option PO} (hR : RelOk ρ) (hr : ρ r r') (hk : ∀ x g u, ρ (fun i => k i x g u) (k' x g u)) : ρ (fun i => cD (r i) (k i)) (cD r' k') := by
  simp only [cD_bind]
  refine hR.2.2 _ _ _ _ hr fun o => ?_
  rcases o with ⟨_ | j, ⟨_ | _ | _ | _ | t, a, x⟩, g, u⟩ <;> first | exact hk _ _ _ | exact hR.1
theorem rel_cF {r : ι → Option PO} {r' : Option PO} {k : ι → Nat → PG → PM → Option PO} {k' : Nat → PG → PM → Option PO} (hR : RelOk ρ) (hr : ρ r r') (hk : ∀ x g u, ρ (fun i => k i x g u) (k' x g u)) : ρ (fun i => cF (r i) (k i)) (cF r' k') := by
  simp only [cF_bind]
  refine hR.2.2 _ _ _ _ hr fun o => ?_
  rcases o with ⟨_ | j, ⟨_ | _ | _ | _ | _ | t, a, x⟩, g, u⟩ <;> first | exact hk _ _ _ | exact hR.1
theorem rel_bif (hR : RelOk ρ) {b : Bool} {r : ι → Option PO} {r' : Option PO} (h : ρ r r') : ρ (fun i => bif b then r i else none) (bif b then r' else none) := by
  cases b
  · exact hR.1
  · exact h
theorem rel_bif2 {b : Bool} {r q : ι → Option PO} {r' q' : Option PO} (h : ρ r r') (k : ρ q q') : ρ (fun i => bif b then r i else q i) (bif b then r' else q') := by
  cases b
  · exact k
  · exact h
theorem rel_ite {c : Prop} [Decidable c] {r q : ι → Option PO} {r' q' : Option PO} (h : ρ r r') (k : ρ q q') : ρ (fun i => if c then r i else q i) (if c then r' else q') := by
  by_cases hc : c
  · simp only [if_pos hc]; exact h
  · simp only [if_neg hc]; exact k
theorem rel_popI (hR : RelOk ρ) {S : List PV} {K : ι → Int → List PV → Option PO} {K' : Int → List PV → Option PO} (h : ∀ x r, ρ (fun i => K i x r) (K' x r)) : ρ (fun i => popI S (K i)) (popI S K') := by
  rcases S with _ | ⟨⟨_ | t, a, x⟩, r⟩ <;> first | exact h _ _ | exact hR.1
theorem rel_popA (hR : RelOk ρ) {S : List PV} {K : ι → Nat → List PV → Option PO} {K' : Nat → List PV → Option PO} (h : ∀ x r, ρ (fun i => K i x r) (K' x r)) : ρ (fun i => popA S (K i)) (popA S K') := by
  rcases S with _ | ⟨⟨_ | _ | t, a, x⟩, r⟩ <;> first | exact h _ _ | exact hR.1
theorem rel_popL (hR : RelOk ρ) {S : List PV} {K : ι → Int → List PV → Option PO} {K' : Int → List PV → Option PO} (h : ∀ x r, ρ (fun i => K i x r) (K' x r)) : ρ (fun i => popL S (K i)) (popL S K') := by
  rcases S with _ | ⟨⟨_ | _ | _ | t, a, x⟩, r⟩ <;> first | exact h _ _ | exact hR.1
theorem rel_popD (hR : RelOk ρ) {S : List PV} {K : ι → Nat → List PV → Option PO} {K' : Nat → List PV → Option PO} (h : ∀ x r, ρ (fun i => K i x r) (K' x r)) : ρ (fun i => popD S (K i)) (popD S K') := by
  rcases S with _ | ⟨⟨_ | _ | _ | _ | t, a, x⟩, r⟩ <;> first | exact h _ _ | exact hR.1
theorem rel_popF (hR : RelOk ρ) {S : List PV} {K : ι → Nat → List PV → Option PO} {K' : Nat → List PV → Option PO} (h : ∀ x r, ρ (fun i => K i x r) (K' x r)) : ρ (fun i => popF S (K i)) (popF S K') := by
  rcases S with _ | ⟨⟨_ | _ | _ | _ | _ | t, a, x⟩, r⟩ <;> first | exact h _ _ | exact hR.1
theorem rel_popT (hR : RelOk ρ) {S : List PV} {K0 : ι → Int → List PV → Option PO} {K0' : Int → List PV → Option PO} {K : ι → Nat → List PV → Option PO} {K' : Nat → List PV → Option PO} (h0 : ∀ x r, ρ (fun i => K0 i x r) (K0' x r)) (h : ∀ x r, ρ (fun i => K i x r) (K' x r)) : ρ (fun i => popT S (K0 i) (K i)) (popT S K0' K') := by
  rcases S with _ | ⟨⟨_ | _ | t, a, x⟩, r⟩ <;> first | exact h _ _ | exact h0 _ _ | exact hR.1
theorem rel_popN (hR : RelOk ρ) {S : List PV} {K : ι → Option PO} {K' : Option PO} (h : ρ K K') : ρ (fun i => popN S (K i)) (popN S K') := by
  rcases S with _ | ⟨v, r⟩
  · exact h
  · exact hR.1
theorem rel_pTx (hR : RelOk ρ) {s : Option (List Nat)} {K : ι → List Nat → Option PO} {K' : List Nat → Option PO} (h : ∀ x, ρ (fun i => K i x) (K' x)) : ρ (fun i => pTx s (K i)) (pTx s K') := by
  rcases s with _ | tx
  · exact hR.1
  · exact h _
theorem rel_pLen (hR : RelOk ρ) {k : Nat × Nat × Nat} {K : ι → Nat → Option PO} {K' : Nat → Option PO} (h : ∀ x, ρ (fun i => K i x) (K' x)) : ρ (fun i => pLen k (K i)) (pLen k K') := by
  rcases k with ⟨_ | _ | _ | a, _ | b, c⟩ <;> first | exact h _ | exact hR.1
theorem rel_pLen5 (hR : RelOk ρ) {k : Nat × Nat × Nat} {K : ι → Nat → Option PO} {K' : Nat → Option PO} (h : ∀ x, ρ (fun i => K i x) (K' x)) : ρ (fun i => pLen5 k (K i)) (pLen5 k K') := by
  rcases k with ⟨_ | _ | _ | a, _ | _ | _ | _ | _ | _ | b, c⟩ <;> first | exact h _ | exact hR.1
theorem rel_pLdI (hR : RelOk ρ) {L : List PV} {k : Nat} {K : ι → Int → Option PO} {K' : Int → Option PO} (h : ∀ x, ρ (fun i => K i x) (K' x)) : ρ (fun i => pLdI L k (K i)) (pLdI L k K') := by
  unfold pLdI
  rcases L[k]? with _ | ⟨_ | t, a, x⟩ <;> first | exact h _ | exact hR.1
theorem rel_pLdA (hR : RelOk ρ) {L : List PV} {k : Nat} {K : ι → Nat → Option PO} {K' : Nat → Option PO} (h : ∀ x, ρ (fun i => K i x) (K' x)) : ρ (fun i => pLdA L k (K i)) (pLdA L k K') := by
  unfold pLdA
  rcases L[k]? with _ | ⟨_ | _ | t, a, x⟩ <;> first | exact h _ | exact hR.1
theorem rel_pLdD (hR : RelOk ρ) {L : List PV} {k : Nat} {K : ι → Nat → Option PO} {K' : Nat → Option PO} (h : ∀ x, ρ (fun i => K i x) (K' x)) : ρ (fun i => pLdD L k (K i)) (pLdD L k K') := by
  unfold pLdD
  rcases L[k]? with _ | ⟨_ | _ | _ | _ | t, a, x⟩ <;> first | exact h _ | exact hR.1
theorem rel_pCond {cd : Jvm.ClassFile.Cond} {x y : Int} {r q : ι → Option PO} {r' q' : Option PO} (h : ρ r r') (k : ρ q q') : ρ (fun i => pCond cd x y (r i) (q i)) (pCond cd x y r' q') := by
  cases cd
  · exact rel_ite h k
  · exact rel_ite k h
  · exact rel_ite h k
  · exact rel_ite k h
  · exact rel_ite h k
  · exact rel_ite k h
theorem rel_pSw (hR : RelOk ρ) {X : ι → Nat → Option PO} {X' : Nat → Option PO} {pc : Nat} {x : Int} (h : ∀ t, ρ (fun i => X i t) (X' t)) : ∀ (os : List Int) (lo : Int), ρ (fun i => pSw (X i) pc x lo os) (pSw X' pc x lo os)
  | [], _ => hR.1
  | o :: os, lo => rel_ite (h _) (rel_pSw hR h os (lo + 1))
theorem rel_pHand (hR : RelOk ρ) {X : ι → PX} {X' : PX} {pc : Nat} {L : List PV} {j : Nat} {g : PG} {u : PM} (h : ∀ pc L S g u, ρ (fun i => X i pc L S g u) (X' pc L S g u)) : ∀ hh : GHd, ρ (fun i => pHand (X i) pc L j g u hh) (pHand X' pc L j g u hh)
  | [] => hR.2.1 _
  | (s, t, hd, k, nm) :: r => rel_bif2 (rel_ite (h _ _ _ _ _) (rel_pHand hR h r)) (rel_pHand hR h r)
section Main
variable {C : ι → PC} {C' : PC} {X : ι → PX} {X' : PX} {hh : GHd} {pc : Nat} {L S : List PV} {g : PG} {u : PM} {n a b e : Nat}
theorem rel_pInv (hR : RelOk ρ) (hC : ∀ a as g u, ρ (fun i => C i a as g u) (C' a as g u)) (hX : ∀ pc L S g u, ρ (fun i => X i pc L S g u) (X' pc L S g u)) : ρ (fun i => pInv (C i) (X i) hh pc L S g u n a b e) (pInv C' X' hh pc L S g u n a b e) := by
  unfold pInv
  split
  · exact rel_bif hR (rel_cI hR (hC _ _ _ _) (fun _ _ _ => hX _ _ _ _ _) (fun _ _ _ => hR.1))
  · exact rel_bif hR (rel_cV hR (hC _ _ _ _) (fun _ _ => hX _ _ _ _ _) (fun _ _ _ => hR.1))
  · exact rel_bif hR (rel_cR hR (hC _ _ _ _) (fun _ _ _ => hX _ _ _ _ _))
  · exact rel_bif hR (rel_cD hR (hC _ _ _ _) (fun _ _ _ => hX _ _ _ _ _))
  · exact rel_bif hR (rel_cF hR (hC _ _ _ _) (fun _ _ _ => hX _ _ _ _ _))
  · exact rel_bif hR (rel_cI hR (hC _ _ _ _) (fun _ _ _ => hX _ _ _ _ _) (fun _ _ _ => rel_pHand hR hX _))
  · exact rel_bif hR (rel_cV hR (hC _ _ _ _) (fun _ _ => hX _ _ _ _ _) (fun _ _ _ => rel_pHand hR hX _))
  · exact hR.1
theorem rel_pStat (hR : RelOk ρ) (hX : ∀ pc L S g u, ρ (fun i => X i pc L S g u) (X' pc L S g u)) : ρ (fun i => pStat (X i) L S g u n e) (pStat X' L S g u n e) := by
  unfold pStat
  split
  · exact rel_popI hR fun _ _ => rel_popI hR fun _ _ => rel_bif hR (hX _ _ _ _ _)
  · exact rel_popI hR fun _ _ => rel_popI hR fun _ _ => rel_bif hR (hX _ _ _ _ _)
  · exact rel_popI hR fun _ _ => rel_bif hR (hX _ _ _ _ _)
  · exact rel_popI hR fun _ _ => rel_popI hR fun _ _ => rel_popA hR fun _ _ => rel_popI hR fun _ _ => rel_popA hR fun _ _ => rel_bif hR (rel_bif hR (hX _ _ _ _ _))
  · exact hR.1
theorem rel_pStr (hR : RelOk ρ) (hX : ∀ pc L S g u, ρ (fun i => X i pc L S g u) (X' pc L S g u)) : ρ (fun i => pStr (X i) L S g u n e) (pStr X' L S g u n e) := by
  unfold pStr
  split
  · exact rel_popA hR fun _ _ => rel_bif hR (rel_pTx hR fun _ => hX _ _ _ _ _)
  · exact rel_popI hR fun _ _ => rel_popA hR fun _ _ => rel_bif hR (rel_pTx hR fun _ => rel_bif hR (hX _ _ _ _ _))
  · exact rel_popA hR fun _ _ => rel_bif hR (rel_bif hR (rel_pLen5 hR fun _ => hX _ _ _ _ _))
  · exact rel_popI hR fun _ _ => rel_popA hR fun _ _ => rel_bif hR (rel_bif hR (hX _ _ _ _ _))
  · exact hR.1
set_option maxHeartbeats 4000000 in
theorem rel_step (hR : RelOk ρ) {T : Nat → Option GE} (hC : ∀ a as g u, ρ (fun i => C i a as g u) (C' a as g u)) (hX : ∀ pc L S g u, ρ (fun i => X i pc L S g u) (X' pc L S g u)) : ρ (fun i => step2 (C i) (X i) T hh pc L S g u) (step2 C' X' T hh pc L S g u) := by
  unfold step2
  cases T pc with
  | none => exact hR.1
  | some E =>
    obtain ⟨i, n, a, b, c, d, e⟩ := E
    cases i with
    | iconst _ => exact rel_bif hR (hX _ _ _ _ _)
    | bipush _ => exact rel_bif hR (hX _ _ _ _ _)
    | sipush _ => exact rel_bif hR (hX _ _ _ _ _)
    | ldc _ =>
      dsimp only
      split
      · exact hX _ _ _ _ _
      · exact hX _ _ _ _ _
    | ldc_w _ =>
      dsimp only
      split
      · exact hX _ _ _ _ _
      · exact hX _ _ _ _ _
    | lconst _ => exact hX _ _ _ _ _
    | fconst _ => exact hX _ _ _ _ _
    | dconst _ => exact hX _ _ _ _ _
    | iload_n _ => exact rel_pLdI hR fun _ => hX _ _ _ _ _
    | iload _ => exact rel_pLdI hR fun _ => hX _ _ _ _ _
    | aload_n _ => exact rel_pLdA hR fun _ => hX _ _ _ _ _
    | aload _ => exact rel_pLdA hR fun _ => hX _ _ _ _ _
    | dload _ => exact rel_pLdD hR fun _ => hX _ _ _ _ _
    | istore_n _ => exact rel_popI hR fun _ _ => hX _ _ _ _ _
    | istore _ => exact rel_popI hR fun _ _ => hX _ _ _ _ _
    | astore_n _ => exact rel_popA hR fun _ _ => hX _ _ _ _ _
    | astore _ => exact rel_popA hR fun _ _ => hX _ _ _ _ _
    | dstore _ => exact rel_popD hR fun _ _ => hX _ _ _ _ _
    | iinc _ _ => exact rel_pLdI hR fun _ => hX _ _ _ _ _
    | iadd => exact rel_popI hR fun _ _ => rel_popI hR fun _ _ => hX _ _ _ _ _
    | isub => exact rel_popI hR fun _ _ => rel_popI hR fun _ _ => hX _ _ _ _ _
    | imul => exact rel_popI hR fun _ _ => rel_popI hR fun _ _ => hX _ _ _ _ _
    | iand => exact rel_popI hR fun _ _ => rel_popI hR fun _ _ => hX _ _ _ _ _
    | ior => exact rel_popI hR fun _ _ => rel_popI hR fun _ _ => hX _ _ _ _ _
    | ishl => exact rel_popI hR fun _ _ => rel_popI hR fun _ _ => hX _ _ _ _ _
    | ishr => exact rel_popI hR fun _ _ => rel_popI hR fun _ _ => hX _ _ _ _ _
    | iushr => exact rel_popI hR fun _ _ => rel_popI hR fun _ _ => hX _ _ _ _ _
    | idiv => exact rel_popI hR fun _ _ => rel_popI hR fun _ _ => rel_ite hR.1 (hX _ _ _ _ _)
    | irem => exact rel_popI hR fun _ _ => rel_popI hR fun _ _ => rel_ite hR.1 (hX _ _ _ _ _)
    | ineg => exact rel_popI hR fun _ _ => hX _ _ _ _ _
    | i2l => exact rel_popI hR fun _ _ => hX _ _ _ _ _
    | i2d => exact rel_popI hR fun _ _ => hX _ _ _ _ _
    | i2f => exact rel_popI hR fun _ _ => hX _ _ _ _ _
    | f2d => exact rel_popF hR fun _ _ => rel_bif hR (hX _ _ _ _ _)
    | ddiv => exact rel_popD hR fun _ _ => rel_popD hR fun _ _ => rel_bif hR (hX _ _ _ _ _)
    | fdiv => exact rel_popF hR fun _ _ => rel_popF hR fun _ _ => rel_bif hR (hX _ _ _ _ _)
    | lcmp => exact rel_popL hR fun _ _ => rel_popL hR fun _ _ => hX _ _ _ _ _
    | dcmp _ => exact rel_popD hR fun _ _ => rel_popD hR fun _ _ => hX _ _ _ _ _
    | pop => exact rel_popT hR (fun _ _ => hX _ _ _ _ _) (fun _ _ => hX _ _ _ _ _)
    | dup => exact rel_popT hR (fun _ _ => hX _ _ _ _ _) (fun _ _ => hX _ _ _ _ _)
    | dup2 => exact rel_popI hR fun _ _ => rel_popA hR fun _ _ => hX _ _ _ _ _
    | ifCond _ _ => exact rel_popI hR fun _ _ => rel_pCond (hX _ _ _ _ _) (hX _ _ _ _ _)
    | if_icmp _ _ => exact rel_popI hR fun _ _ => rel_popI hR fun _ _ => rel_pCond (hX _ _ _ _ _) (hX _ _ _ _ _)
    | goto _ => exact hX _ _ _ _ _
    | tableswitch _ _ _ _ => exact rel_popI hR fun _ _ => rel_ite (hX _ _ _ _ _) (rel_pSw hR (fun _ => hX _ _ _ _ _) _ _)
    | getfield _ =>
      refine rel_popA hR fun _ _ => rel_bif hR ?_
      split
      · exact hX _ _ _ _ _
      · exact hX _ _ _ _ _
    | putfield _ =>
      refine rel_popI hR fun _ _ => rel_popA hR fun _ _ => rel_bif hR ?_
      split
      · exact hX _ _ _ _ _
      · exact rel_bif hR (hX _ _ _ _ _)
      · exact hR.1
    | getstatic _ => exact hX _ _ _ _ _
    | iaload => exact rel_popI hR fun _ _ => rel_popA hR fun _ _ => rel_bif hR (hX _ _ _ _ _)
    | baload => exact rel_popI hR fun _ _ => rel_popA hR fun _ _ => rel_bif hR (hX _ _ _ _ _)
    | laload => exact hR.1
    | aaload => exact rel_popI hR fun _ _ => rel_popA hR fun _ _ => rel_bif hR (hX _ _ _ _ _)
    | iastore => exact rel_popI hR fun _ _ => rel_popI hR fun _ _ => rel_popA hR fun _ _ => rel_bif hR (hX _ _ _ _ _)
    | bastore => exact rel_popI hR fun _ _ => rel_popI hR fun _ _ => rel_popA hR fun _ _ => rel_bif hR (rel_bif hR (hX _ _ _ _ _))
    | lastore => exact hR.1
    | arraylength => exact rel_popA hR fun _ _ => rel_pLen hR fun _ => hX _ _ _ _ _
    | new _ =>
      dsimp only
      split
      · exact hR.1
      · exact rel_bif hR (hR.2.1 _)
    | invokevirtual _ => exact rel_bif2 (rel_pStr hR hX) (rel_bif hR (rel_pInv hR hC hX))
    | invokestatic _ => exact rel_bif2 (rel_pStat hR hX) (rel_pInv hR hC hX)
    | ireturn =>
      refine rel_popI hR fun _ _ => rel_popN hR ?_
      split
      · exact hR.2.1 _
      · exact rel_bif hR (hR.2.1 _)
    | areturn => exact rel_popA hR fun _ _ => rel_popN hR (hR.2.1 _)
    | dreturn => exact rel_popD hR fun _ _ => rel_popN hR (hR.2.1 _)
    | freturn => exact rel_popF hR fun _ _ => rel_popN hR (hR.2.1 _)
    | return_ => exact rel_popN hR (hR.2.1 _)
    | _ => exact hR.1
end Main
end Rel
/-! more fuel, the same answer -/
def pLe (r r' : Option PO) : Prop := ∀ o, r = some o → r' = some o
theorem pLe_ok : RelOk (fun (r : Unit → Option PO) r' => pLe (r ()) r') := by
  refine ⟨(fun _ h => nomatch h), fun _ _ h => h, ?_⟩
  intro r r' k k' h1 h2 o h
  obtain ⟨o1, e1, e2⟩ := Option.bind_eq_some_iff.mp h
  exact Option.bind_eq_some_iff.mpr ⟨o1, h1 o1 e1, h2 o1 o e2⟩
theorem ev_mono : ∀ (n m pc : Nat) (L S : List PV) (g : PG) (u : PM), pLe (ev n m pc L S g u) (ev (n + 1) m pc L S g u)
  | 0, _, _, _, _, _, _ => fun _ h => by cases h
  | n + 1, m, pc, L, S, g, u => rel_step (ι := Unit) (ρ := fun r r' => pLe (r ()) r') (C := fun _ a as g u => ev n a 0 (pEn a as) [] g u) (X := fun _ => ev n m) pLe_ok (fun a as g u => ev_mono n a 0 _ _ g u) (fun pc L S g u => ev_mono n m pc L S g u)
theorem ev_le {n k : Nat} (h : n ≤ k) {m pc : Nat} {L S : List PV} {g : PG} {u : PM} {o : PO} (e : ev n m pc L S g u = some o) : ev k m pc L S g u = some o := by
  induction k with
  | zero =>
    have : n = 0 := by omega
    subst this
    exact e
  | succ k ih =>
    by_cases hk : n = k + 1
    · subst hk; exact e
    · exact ev_mono k m pc L S g u o (ih (by omega))
noncomputable def run (m : Nat) : PX := fun pc L S g u => @dite (Option PO) (∃ o n, ev n m pc L S g u = some o) (Classical.propDecidable _) (fun h => some (Classical.choose h)) (fun _ => none)
noncomputable def call : PC := fun a as g u => run a 0 (pEn a as) [] g u
theorem run_some {m pc : Nat} {L S : List PV} {g : PG} {u : PM} {o : PO} : run m pc L S g u = some o ↔ ∃ n, ev n m pc L S g u = some o := by
  unfold run
  constructor
  · intro h
    split at h
    · next hq =>
      obtain ⟨n, hn⟩ := Classical.choose_spec hq
      cases h
      exact ⟨n, hn⟩
    · cases h
  · rintro ⟨n, hn⟩
    have hq : ∃ o n, ev n m pc L S g u = some o := ⟨o, n, hn⟩
    rw [dif_pos hq]
    obtain ⟨k, hk⟩ := Classical.choose_spec hq
    have e1 := ev_le (Nat.le_max_left n k) hn
    have e2 := ev_le (Nat.le_max_right n k) hk
    rw [e1] at e2
    rw [Option.some.inj e2]
def pCon (r : Nat → Option PO) (r' : Option PO) : Prop := ∀ o, r' = some o → ∃ n, ∀ k, n ≤ k → r k = some o
theorem pCon_ok : RelOk pCon := by
  refine ⟨(fun _ h => nomatch h), fun _ _ h => ⟨0, fun _ _ => h⟩, ?_⟩
  intro r r' k k' h1 h2 o h
  obtain ⟨o1, e1, e2⟩ := Option.bind_eq_some_iff.mp h
  obtain ⟨n1, g1⟩ := h1 o1 e1
  obtain ⟨n2, g2⟩ := h2 o1 o e2
  exact ⟨max n1 n2, fun q hq => Option.bind_eq_some_iff.mpr ⟨o1, g1 q (by omega), g2 q (by omega)⟩⟩
theorem run_con {m pc : Nat} {L S : List PV} {g : PG} {u : PM} : pCon (fun k => ev k m pc L S g u) (run m pc L S g u) := fun o h => by
  obtain ⟨n, hn⟩ := run_some.mp h
  exact ⟨n, fun k hk => ev_le hk hn⟩
/-- the equation -/
theorem run_eq (m pc : Nat) (L S : List PV) (g : PG) (u : PM) : run m pc L S g u = step2 call (run m) (gLook (gTab m)) (gHh m) pc (pCut m pc L) S g u := by
  have a : pLe (run m pc L S g u) (step2 call (run m) (gLook (gTab m)) (gHh m) pc (pCut m pc L) S g u) := fun o h => by
    obtain ⟨n, hn⟩ := run_some.mp h
    cases n with
    | zero => cases hn
    | succ n => exact rel_step (ι := Unit) (ρ := fun r r' => pLe (r ()) r') (C := fun _ a as g u => ev n a 0 (pEn a as) [] g u) (X := fun _ => ev n m) pLe_ok (fun a as g u o h => run_some.mpr ⟨n, h⟩) (fun pc L S g u o h => run_some.mpr ⟨n, h⟩) o hn
  have b : pLe (step2 call (run m) (gLook (gTab m)) (gHh m) pc (pCut m pc L) S g u) (run m pc L S g u) := fun o h => by
    obtain ⟨n, hn⟩ := rel_step (ι := Nat) (ρ := pCon) (C := fun n a as g u => ev n a 0 (pEn a as) [] g u) (X := fun n => ev n m) pCon_ok (fun a as g u => run_con) (fun pc L S g u => run_con) o h
    exact run_some.mpr ⟨n + 1, hn n (Nat.le_refl _)⟩
  cases h : run m pc L S g u with
  | some o => exact (a o h).symm
  | none =>
    cases h2 : step2 call (run m) (gLook (gTab m)) (gHh m) pc (pCut m pc L) S g u with
    | none => rfl
    | some o => rw [b o h2] at h; cases h
theorem pMask_twice : ∀ (bs : List Bool) (L : List PV), pMask bs (pMask bs L) = pMask bs L
  | [], _ => rfl
  | true :: bs, [] => rfl
  | false :: bs, [] => rfl
  | true :: bs, v :: L => congrArg (v :: ·) (pMask_twice bs L)
  | false :: bs, v :: L => congrArg (vN :: ·) (pMask_twice bs L)
theorem pCut_twice (m pc : Nat) (L : List PV) : pCut m pc (pCut m pc L) = pCut m pc L := by
  unfold pCut
  split
  · exact pMask_twice _ _
  · rfl
theorem run_cut (m pc : Nat) (L S : List PV) (g : PG) (u : PM) : run m pc (pCut m pc L) S g u = run m pc L S g u := by
  rw [run_eq, run_eq m pc L, pCut_twice]
/-- a block of at most n steps, cut at the pcs of stop -/
noncomputable def bl (m : Nat) (T : Nat → Option GE) (hh : GHd) (stop : List (Nat × List Bool)) : Nat → PX
  | 0 => run m
  | n + 1 => fun pc L S g u => match stop.lookup pc with
    | some bs => run m pc (pMask bs L) S g u
    | none => step2 call (bl m T hh stop n) T hh pc L S g u
noncomputable def bl1 (m : Nat) (T : Nat → Option GE) (hh : GHd) (stop : List (Nat × List Bool)) (n : Nat) : PX := fun pc L S g u => step2 call (bl m T hh stop n) T hh pc L S g u
theorem step_congr {X X' : PX} (h : ∀ pc L S g u, X pc L S g u = X' pc L S g u) : X = X' := by
  funext pc L S g u
  exact h pc L S g u
theorem bl_eq {m : Nat} {T : Nat → Option GE} {hh : GHd} {stop : List (Nat × List Bool)} (hT : gLook (gTab m) = T) (hH : gHh m = hh) (hS : pMk m = stop) : ∀ n, bl m T hh stop n = run m
  | 0 => rfl
  | n + 1 => step_congr fun pc L S g u => by
    unfold bl
    rw [bl_eq hT hH hS n, ← run_cut m pc L, run_eq m pc (pCut m pc L), pCut_twice]
    unfold pCut
    rw [hS]
    cases hl : stop.lookup pc with
    | some bs =>
      have e : pMask bs L = pCut m pc L := by unfold pCut; rw [hS, hl]
      show run m pc (pMask bs L) S g u = _
      rw [run_eq m pc (pMask bs L)]
      have e2 : pCut m pc (pMask bs L) = pMask bs L := by rw [e, pCut_twice]
      rw [e2, hT, hH]
    | none =>
      show step2 call (run m) T hh pc L S g u = _
      rw [hT, hH]
theorem run_bl {m : Nat} {T : List (List (Option GE))} {hh : GHd} {stop : List (Nat × List Bool)} (hT : gTab m = T) (hH : gHh m = hh) (hS : pMk m = stop) (n : Nat) {pc : Nat} {L S : List PV} {g : PG} {u : PM} (hL : pCut m pc L = L) : run m pc L S g u = bl1 m (gLook T) hh stop n pc L S g u := by
  rw [run_eq, hL]
  unfold bl1
  rw [bl_eq (by rw [hT]) hH hS n, hT, hH]
