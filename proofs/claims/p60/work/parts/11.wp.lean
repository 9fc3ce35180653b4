/-! ===== the ghost machine's laws: monotone; the least predicate closed under its steps; blocks of steps ===== -/
theorem gLdI_mono {ls : GL} {k : Nat} {K K' : Int32 → Prop} (h : ∀ x, K x → K' x) : gLdI ls k K → gLdI ls k K' := by
  unfold gLdI; split
  · exact h _
  · exact id
theorem gLdA_mono {ls : GL} {k : Nat} {K K' : Nat → Prop} (h : ∀ x, K x → K' x) : gLdA ls k K → gLdA ls k K' := by
  unfold gLdA; split
  · exact h _
  · exact id
theorem gLdD_mono {ls : GL} {k : Nat} {K K' : UInt64 → Prop} (h : ∀ x, K x → K' x) : gLdD ls k K → gLdD ls k K' := by
  unfold gLdD; split
  · exact h _
  · exact id
theorem gIte_mono {c : Prop} [Decidable c] {A B A' B' : Prop} (h1 : A → A') (h2 : B → B') : (if c then A else B) → (if c then A' else B') := by
  split
  · exact h1
  · exact h2
theorem gBif_mono {c : Bool} {A B A' B' : Prop} (h1 : A → A') (h2 : B → B') : (bif c then A else B) → (bif c then A' else B') := by
  cases c
  · exact h2
  · exact h1
theorem gCond_mono {cd : Jvm.ClassFile.Cond} {x y : Int32} {A B A' B' : Prop} (h1 : A → A') (h2 : B → B') : gCond cd x y A B → gCond cd x y A' B' := by
  cases cd
  · exact gIte_mono h1 h2
  · exact gIte_mono h2 h1
  · exact gIte_mono h1 h2
  · exact gIte_mono h2 h1
  · exact gIte_mono h1 h2
  · exact gIte_mono h2 h1
theorem gArith_mono {i : Instr} {x y : Int32} {K K' : Int32 → Prop} (h : ∀ x, K x → K' x) : gArith i x y K → gArith i x y K' := by
  unfold gArith; split
  all_goals first | exact id | exact h _ | exact And.imp_right (h _)
theorem gSw_mono {X X' : Nat → Prop} {pc : Nat} {x : Int32} (h : ∀ t, X t → X' t) : ∀ (os : List Int) (lo : Int), gSw X pc x lo os → gSw X' pc x lo os
  | [], _ => id
  | o :: os, lo => fun q => ⟨fun e => h _ (q.1 e), gSw_mono h os (lo + 1) q.2⟩
theorem gHand_mono {X X' : GX} {KX KX' : String → GH → Prop} {rc rs pc : Nat} {ls : GL} {E : String} {G : GH} (hX : ∀ rc rs pc ls st G, X rc rs pc ls st G → X' rc rs pc ls st G) (hK : ∀ E G, KX E G → KX' E G) : ∀ hh : GHd, gHand X KX rc rs pc ls E G hh → gHand X' KX' rc rs pc ls E G hh
  | [] => hK E G
  | (s, t, h, k, nm) :: r => gBif_mono (gIte_mono (hX _ _ _ _ _ _) (gHand_mono hX hK r)) (gHand_mono hX hK r)
section Mono
variable {S : GS} {exc : Nat → String} {blk : Nat → List Value} {cls : Nat → Nat} {T : Nat → Option GE} {hh : GHd} {C C' : Nat → Nat → Nat → List Value → GH → GQ → Prop} {X X' : GX} {Q Q' : GQ}
theorem gInv_mono (hC : ∀ m c d as G K K', C m c d as G K → gLe K K' → C' m c d as G K') (hX : ∀ rc rs pc ls st G, X rc rs pc ls st G → X' rc rs pc ls st G) (hQ : gLe Q Q') (rc rs pc : Nat) (ls : GL) (st : List Value) (G : GH) (n a b c d e : Nat) :
    gInv C X Q S hh rc rs pc ls st G n a b c d e → gInv C' X' Q' S hh rc rs pc ls st G n a b c d e := by
  have no : ∀ (E : String) (G : GH), gNo E G → gNo E G := fun _ _ h => h
  have kx : ∀ (rc rs : Nat) (E : String) (G : GH), gHand X Q.2.2.2.2.2 rc rs pc ls E G hh → gHand X' Q'.2.2.2.2.2 rc rs pc ls E G hh := fun rc rs E G => gHand_mono hX hQ.2.2.2.2.2 hh
  have f0 : ∀ G : GH, False → False := fun _ h => h
  unfold gInv
  split
  · exact gBif_mono (fun ⟨c1, d1, h1, h2, h⟩ => ⟨c1, d1, h1, h2, hC _ _ _ _ _ _ _ h ⟨fun x G => hX _ _ _ _ _ _, f0, fun _ _ h => h, fun _ _ h => h, fun _ _ h => h, no⟩⟩) id
  · exact gBif_mono (fun ⟨c1, d1, h1, h2, h⟩ => ⟨c1, d1, h1, h2, hC _ _ _ _ _ _ _ h ⟨fun _ _ h => h, fun G => hX _ _ _ _ _ _, fun _ _ h => h, fun _ _ h => h, fun _ _ h => h, no⟩⟩) id
  · exact gBif_mono (fun ⟨c1, d1, h1, h2, h⟩ => ⟨c1, d1, h1, h2, hC _ _ _ _ _ _ _ h ⟨fun _ _ h => h, f0, fun x G => hX _ _ _ _ _ _, fun _ _ h => h, fun _ _ h => h, fun _ _ h => h⟩⟩) id
  · exact gBif_mono (fun ⟨c1, d1, h1, h2, h⟩ => ⟨c1, d1, h1, h2, hC _ _ _ _ _ _ _ h ⟨fun _ _ h => h, f0, fun _ _ h => h, fun x G => hX _ _ _ _ _ _, fun _ _ h => h, fun _ _ h => h⟩⟩) id
  · exact gBif_mono (fun ⟨c1, d1, h1, h2, h⟩ => ⟨c1, d1, h1, h2, hC _ _ _ _ _ _ _ h ⟨fun _ _ h => h, f0, fun _ _ h => h, fun _ _ h => h, fun x G => hX _ _ _ _ _ _, fun _ _ h => h⟩⟩) id
  · exact gBif_mono (fun ⟨c1, d1, h1, h2, h⟩ => ⟨c1, d1, h1, h2, hC _ _ _ _ _ _ _ h ⟨fun x G => hX _ _ _ _ _ _, f0, fun _ _ h => h, fun _ _ h => h, fun _ _ h => h, kx _ _⟩⟩) id
  · exact gBif_mono (fun ⟨c1, d1, h1, h2, h⟩ => ⟨c1, d1, h1, h2, hC _ _ _ _ _ _ _ h ⟨fun _ _ h => h, fun G => hX _ _ _ _ _ _, fun _ _ h => h, fun _ _ h => h, fun _ _ h => h, kx _ _⟩⟩) id
  · split
    · exact gBif_mono (hX _ _ _ _ _ _) id
    · exact id
  · split
    · exact gBif_mono (hX _ _ _ _ _ _) id
    · exact id
  · split
    · exact gBif_mono (hX _ _ _ _ _ _) id
    · exact id
  · split
    · exact gBif_mono (fun ⟨tx, h1, h2⟩ => ⟨tx, h1, hX _ _ _ _ _ _ h2⟩) id
    · exact id
  · split
    · exact gBif_mono (fun ⟨tx, k, ch, h1, h2, h3, h4⟩ => ⟨tx, k, ch, h1, h2, h3, hX _ _ _ _ _ _ h4⟩) id
    · exact id
  · split
    · exact gBif_mono (fun ⟨h0, m, f, h1, h2⟩ => ⟨h0, m, f, h1, hX _ _ _ _ _ _ h2⟩) id
    · exact id
  · split
    · exact gBif_mono (fun ⟨h0, m, f, h1, h2, h3⟩ => ⟨h0, m, f, h1, h2, hX _ _ _ _ _ _ h3⟩) id
    · exact id
  · split
    · exact gBif_mono (fun ⟨h0, h00, ty, m0, m1, f, g, ka, da, sa, h1, h2, h3, h4, h5, h6, h7, h8, h9, h10, h11, h12⟩ => ⟨h0, h00, ty, m0, m1, f, g, ka, da, sa, h1, h2, h3, h4, h5, h6, h7, h8, h9, h10, h11, hX _ _ _ _ _ _ h12⟩) id
    · exact id
  · split
    · exact gBif_mono (hX _ _ _ _ _ _) id
    · exact id
  · exact id
set_option maxHeartbeats 4000000 in
theorem stepG_mono (hC : ∀ m c d as G K K', C m c d as G K → gLe K K' → C' m c d as G K') (hX : ∀ rc rs pc ls st G, X rc rs pc ls st G → X' rc rs pc ls st G) (hQ : gLe Q Q') (rc rs pc : Nat) (ls : GL) (st : List Value) (G : GH) :
    stepG S exc blk cls T hh C X Q rc rs pc ls st G → stepG S exc blk cls T hh C' X' Q' rc rs pc ls st G := by
  unfold stepG
  cases T pc with
  | none => exact id
  | some E =>
    obtain ⟨i, n, a, b, c, d, e⟩ := E
    cases i with
    | iconst _ => exact hX _ _ _ _ _ _
    | bipush _ => exact hX _ _ _ _ _ _
    | sipush _ => exact hX _ _ _ _ _ _
    | lconst _ => exact hX _ _ _ _ _ _
    | fconst _ => exact hX _ _ _ _ _ _
    | dconst _ => exact hX _ _ _ _ _ _
    | ldc _ =>
      dsimp only
      split
      · exact hX _ _ _ _ _ _
      · exact hX _ _ _ _ _ _
    | ldc_w _ =>
      dsimp only
      split
      · exact hX _ _ _ _ _ _
      · exact hX _ _ _ _ _ _
    | iload_n _ => exact gLdI_mono fun x => hX _ _ _ _ _ _
    | iload _ => exact gLdI_mono fun x => hX _ _ _ _ _ _
    | aload_n _ => exact gLdA_mono fun x => hX _ _ _ _ _ _
    | aload _ => exact gLdA_mono fun x => hX _ _ _ _ _ _
    | dload _ => exact gLdD_mono fun x => hX _ _ _ _ _ _
    | iinc _ _ => exact gLdI_mono fun x => hX _ _ _ _ _ _
    | istore_n _ | istore _ | astore_n _ | astore _ | dstore _ | ineg | i2l | i2d | i2f | lcmp | dcmp _ | pop | dup | dup2 =>
      dsimp only
      split
      all_goals first | exact id | exact hX _ _ _ _ _ _
    | f2d | ddiv | fdiv =>
      dsimp only
      split
      all_goals first | exact id | exact And.imp_right (hX _ _ _ _ _ _)
    | iadd | isub | imul | iand | ior | ishl | ishr | iushr | idiv | irem =>
      dsimp only
      split
      · exact gArith_mono fun x => hX _ _ _ _ _ _
      · exact id
    | ifCond _ _ =>
      dsimp only
      split
      · exact gCond_mono (hX _ _ _ _ _ _) (hX _ _ _ _ _ _)
      · exact id
    | if_icmp _ _ =>
      dsimp only
      split
      · exact gCond_mono (hX _ _ _ _ _ _) (hX _ _ _ _ _ _)
      · exact id
    | goto _ => exact hX _ _ _ _ _ _
    | tableswitch _ _ _ _ =>
      dsimp only
      split
      · exact fun q => ⟨fun e => hX _ _ _ _ _ _ (q.1 e), gSw_mono (fun t => hX _ _ _ _ _ _) _ _ q.2⟩
      · exact id
    | getfield _ =>
      dsimp only
      split
      · split
        · exact fun ⟨fs, x, h1, h2, h3⟩ => ⟨fs, x, h1, h2, hX _ _ _ _ _ _ h3⟩
        · exact fun ⟨fs, x, h1, h2, h3⟩ => ⟨fs, x, h1, h2, hX _ _ _ _ _ _ h3⟩
      · exact id
    | putfield _ =>
      dsimp only
      split
      · exact fun ⟨h0, fs, h1, h2, h3⟩ => ⟨h0, fs, h1, h2, hX _ _ _ _ _ _ h3⟩
      · exact id
    | getstatic _ => exact hX _ _ _ _ _ _
    | iaload =>
      dsimp only
      split
      · exact fun ⟨m, f, h1, h2, h3⟩ => ⟨m, f, h1, h2, hX _ _ _ _ _ _ h3⟩
      · exact id
    | laload => exact id
    | lastore => exact id
    | baload =>
      dsimp only
      split
      · exact fun ⟨h0, m, f, h1, h2, h3⟩ => ⟨h0, m, f, h1, h2, hX _ _ _ _ _ _ h3⟩
      · exact id
    | aaload =>
      dsimp only
      split
      · exact fun ⟨h0, m, f, y, h1, h2, h3, h4⟩ => ⟨h0, m, f, y, h1, h2, h3, hX _ _ _ _ _ _ h4⟩
      · exact id
    | iastore =>
      dsimp only
      split
      · exact fun ⟨h0, m, f, h1, h2, h3⟩ => ⟨h0, m, f, h1, h2, hX _ _ _ _ _ _ h3⟩
      · exact id
    | bastore =>
      dsimp only
      split
      · exact fun ⟨h0, h00, m, f, h1, h2, h3⟩ => ⟨h0, h00, m, f, h1, h2, hX _ _ _ _ _ _ h3⟩
      · exact id
    | aastore =>
      dsimp only
      split
      · exact fun ⟨h0, h00, m, f, fs, h1, h2, h3, h4⟩ => ⟨h0, h00, m, f, fs, h1, h2, h3, hX _ _ _ _ _ _ h4⟩
      · exact id
    | arraylength =>
      dsimp only
      split
      · exact fun ⟨m, f, h1, h2, h3⟩ => ⟨m, f, h1, h2, hX _ _ _ _ _ _ h3⟩
      · exact id
    | newarray ty =>
      dsimp only
      split
      · intro ⟨h1, h2, h3, m, h4, h5, h6, h7⟩
        refine ⟨h1, h2, h3, m, h4, h5, h6, ?_⟩
        cases ty <;> first | exact h7.elim | exact hX _ _ _ _ _ _ h7
      · exact id
    | anewarray _ =>
      dsimp only
      split
      · exact fun ⟨h1, h2, h3, m, h4, h5, h6, h7⟩ => ⟨h1, h2, h3, m, h4, h5, h6, hX _ _ _ _ _ _ h7⟩
      · exact id
    | new _ =>
      dsimp only
      split
      · exact fun ⟨h1, h2, h3, h4, h5⟩ => ⟨h1, h2, h3, h4, hX _ _ _ _ _ _ h5⟩
      · exact fun ⟨h1, h2, h3⟩ => ⟨h1, h2, gBif_mono (hQ.2.2.2.2.2 _ _) id h3⟩
    | invokevirtual _ => exact And.imp_right (gInv_mono hC hX hQ _ _ _ _ _ _ _ _ _ _ _ _)
    | invokestatic _ => exact gInv_mono hC hX hQ _ _ _ _ _ _ _ _ _ _ _ _
    | invokespecial _ => exact And.imp_right (gInv_mono hC hX hQ _ _ _ _ _ _ _ _ _ _ _ _)
    | ireturn =>
      dsimp only
      split
      · split
        · exact hQ.1 _ _
        · exact And.imp_right (hQ.1 _ _)
      · exact id
    | areturn =>
      dsimp only
      split
      · exact hQ.2.2.1 _ _
      · exact id
    | dreturn =>
      dsimp only
      split
      · exact hQ.2.2.2.1 _ _
      · exact id
    | freturn =>
      dsimp only
      split
      · exact hQ.2.2.2.2.1 _ _
      · exact id
    | return_ =>
      dsimp only
      split
      · exact hQ.2.1 _
      · exact id
    | _ => exact id
end Mono
