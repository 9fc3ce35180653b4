/-! ===== THE GHOST MACHINE: the bytecode over a heap of numbered cells; its steps are formulas ===== -/
/-- a ghost cell: an object (the number of its class, its fields) or an array -/
abbrev GC : Type := (Nat × List Value) ⊕ (FieldType × vp_A)
/-- a ghost heap: the next number (0: no more cells are tracked), the cells -/
abbrev GH : Type := Nat × (Nat → Option GC)
/-- what is wanted behind a method: int, void, reference, double, float, a throw -/
abbrev GQ : Type := (Int32 → GH → Prop) × (GH → Prop) × (Nat → GH → Prop) × (UInt64 → GH → Prop) × (UInt32 → GH → Prop) × (String → GH → Prop)
/-- an entry of a method's table: the instruction, the next pc, five numbers -/
abbrev GE : Type := Instr × Nat × Nat × Nat × Nat × Nat × Nat
abbrev GL : Type := List (Option Value)
abbrev GX : Type := Nat → Nat → Nat → GL → List Value → GH → Prop
abbrev GHd : Type := List (Nat × Nat × Nat × Nat × String)
def gU (G : GH) (a : Nat) (c : GC) : GH := (G.1, fun j => if j = a then some c else G.2 j)
def gPush (G : GH) (c : GC) : GH := (G.1 + 1, fun j => if j = G.1 then some c else G.2 j)
def gDirty (G : GH) : GH := (0, G.2)
def gQi (K : Int32 → GH → Prop) (KX : String → GH → Prop) : GQ := (K, fun _ => False, fun _ _ => False, fun _ _ => False, fun _ _ => False, KX)
def gQv (K : GH → Prop) (KX : String → GH → Prop) : GQ := (fun _ _ => False, K, fun _ _ => False, fun _ _ => False, fun _ _ => False, KX)
def gQr (K : Nat → GH → Prop) : GQ := (fun _ _ => False, fun _ => False, K, fun _ _ => False, fun _ _ => False, fun _ _ => False)
def gQd (K : UInt64 → GH → Prop) : GQ := (fun _ _ => False, fun _ => False, fun _ _ => False, K, fun _ _ => False, fun _ _ => False)
def gQf (K : UInt32 → GH → Prop) : GQ := (fun _ _ => False, fun _ => False, fun _ _ => False, fun _ _ => False, K, fun _ _ => False)
def gNo : String → GH → Prop := fun _ _ => False
def gLe (P Q : GQ) : Prop := (∀ x G, P.1 x G → Q.1 x G) ∧ (∀ G, P.2.1 G → Q.2.1 G) ∧ (∀ x G, P.2.2.1 x G → Q.2.2.1 x G) ∧ (∀ x G, P.2.2.2.1 x G → Q.2.2.2.1 x G) ∧ (∀ x G, P.2.2.2.2.1 x G → Q.2.2.2.2.1 x G) ∧ (∀ x G, P.2.2.2.2.2 x G → Q.2.2.2.2.2 x G)
theorem gLe.rf (P : GQ) : gLe P P := ⟨fun _ _ h => h, fun _ h => h, fun _ _ h => h, fun _ _ h => h, fun _ _ h => h, fun _ _ h => h⟩
theorem gLe.tr {P Q R : GQ} (h : gLe P Q) (k : gLe Q R) : gLe P R := ⟨fun x G q => k.1 x G (h.1 x G q), fun G q => k.2.1 G (h.2.1 G q), fun x G q => k.2.2.1 x G (h.2.2.1 x G q), fun x G q => k.2.2.2.1 x G (h.2.2.2.1 x G q), fun x G q => k.2.2.2.2.1 x G (h.2.2.2.2.1 x G q), fun x G q => k.2.2.2.2.2 x G (h.2.2.2.2.2 x G q)⟩
/-- a chunked table -/
def gLook (t : List (List (Option GE))) (pc : Nat) : Option GE := match t[pc / 32]? with
  | some ch => (match ch[pc % 32]? with
    | some o => o
    | none => none)
  | none => none
/-- a written number: b = 0: a; else -a -/
def gK (b a : Nat) : Int32 := match b with
  | 0 => nI a
  | _ => -(nI a)
def gInc (x : Int32) (b a : Nat) : Int32 := match b with
  | 0 => x + nI a
  | _ => x - nI a
def gKill (ls : GL) (i : Nat) : GL := match i with
  | 0 => ls
  | j + 1 => (match ls[j]? with
    | some (some (.double _)) => ls.set j none
    | some (some (.long _)) => ls.set j none
    | _ => ls)
def gSt1 (ls : GL) (i : Nat) (v : Value) : GL := (gKill ls i).set i (some v)
def gSt2 (ls : GL) (i : Nat) (v : Value) : GL := ((gKill ls i).set i (some v)).set (i + 1) none
def gCat : List Value → Nat
  | [] => 0
  | .double _ :: r => 2 + gCat r
  | .long _ :: r => 2 + gCat r
  | _ :: r => 1 + gCat r
def gFit (c : Nat) (v : Value) : Prop := match c, v with
  | 0, .int _ => True
  | 1, .ref _ => True
  | 2, .int x => x = nI 0 ∨ x = nI 1
  | _, _ => False
def gSw (X : Nat → Prop) (pc : Nat) (x : Int32) : Int → List Int → Prop
  | _, [] => True
  | lo, o :: os => (x.toInt = lo → X ((pc : Int) + o).toNat) ∧ gSw X pc x (lo + 1) os
/-- behind a throw of a callee: the handlers that stand over pc, then the caller -/
def gHand (X : GX) (KX : String → GH → Prop) (rc rs pc : Nat) (ls : GL) (E : String) (G : GH) : GHd → Prop
  | [] => KX E G
  | (s, t, h, k, nm) :: r => bif Nat.ble s pc && Nat.blt pc t then (if E = nm then X rc rs h ((gKill ls k).set k none) [] G else gHand X KX rc rs pc ls E G r) else gHand X KX rc rs pc ls E G r
def gLd (ls : GL) (k : Nat) (K : Value → Prop) : Prop := match ls[k]? with
  | some (some v) => K v
  | _ => False
def gLdI (ls : GL) (k : Nat) (K : Int32 → Prop) : Prop := match ls[k]? with
  | some (some (.int x)) => K x
  | _ => False
def gLdA (ls : GL) (k : Nat) (K : Nat → Prop) : Prop := match ls[k]? with
  | some (some (.ref x)) => K x
  | _ => False
def gLdD (ls : GL) (k : Nat) (K : UInt64 → Prop) : Prop := match ls[k]? with
  | some (some (.double x)) => K x
  | _ => False
def gCond (cd : Jvm.ClassFile.Cond) (x y : Int32) (A B : Prop) : Prop := match cd with
  | .eq => if x = y then A else B
  | .ne => if x = y then B else A
  | .lt => if x < y then A else B
  | .ge => if x < y then B else A
  | .gt => if y < x then A else B
  | .le => if y < x then B else A
def gArith (i : Instr) (x y : Int32) (K : Int32 → Prop) : Prop := match i with
  | .iadd => K (x + y)
  | .isub => K (x - y)
  | .imul => K (x * y)
  | .iand => K (x &&& y)
  | .ior => K (x ||| y)
  | .ishl => K (x <<< (y &&& 31))
  | .ishr => K (x >>> (y &&& 31))
  | .iushr => K (x.toUInt32 >>> (y.toUInt32 &&& Int32.toUInt32 31)).toInt32
  | .idiv => ¬ y = 0 ∧ K (x / y)
  | .irem => ¬ y = 0 ∧ K (x - x / y * y)
  | _ => False
/-- the read-only cells begin here -/
abbrev gRB : Nat := 100000
/-- String constants: which text stands at a read-only number -/
abbrev GS : Type := Nat → Option (List Nat)
def gInv (C : Nat → Nat → Nat → List Value → GH → GQ → Prop) (X : GX) (Q : GQ) (S : GS) (hh : GHd) (rc rs pc : Nat) (ls : GL) (st : List Value) (G : GH) (n a b c d e : Nat) : Prop :=
  match e with
  | 0 => bif Nat.ble (gCat (st.drop b)) 8 && (Nat.beq (st.take b).length b && Nat.beq (gCat (st.take b)) b) then ∃ c1 d1, c1 ≤ rc ∧ d1 ≤ rs ∧ C a c1 d1 (st.take b).reverse G (gQi (fun x G => X (rc - c1) (rs - d1) n ls (.int x :: st.drop b) G) gNo) else False
  | 1 => bif Nat.ble (gCat (st.drop b)) 8 && (Nat.beq (st.take b).length b && Nat.beq (gCat (st.take b)) b) then ∃ c1 d1, c1 ≤ rc ∧ d1 ≤ rs ∧ C a c1 d1 (st.take b).reverse G (gQv (fun G => X (rc - c1) (rs - d1) n ls (st.drop b) G) gNo) else False
  | 2 => bif Nat.ble (gCat (st.drop b)) 8 && (Nat.beq (st.take b).length b && Nat.beq (gCat (st.take b)) b) then ∃ c1 d1, c1 ≤ rc ∧ d1 ≤ rs ∧ C a c1 d1 (st.take b).reverse G (gQr (fun x G => X (rc - c1) (rs - d1) n ls (.ref x :: st.drop b) G)) else False
  | 3 => bif Nat.ble (gCat (st.drop b)) 8 && (Nat.beq (st.take b).length b && Nat.beq (gCat (st.take b)) b) then ∃ c1 d1, c1 ≤ rc ∧ d1 ≤ rs ∧ C a c1 d1 (st.take b).reverse G (gQd (fun x G => X (rc - c1) (rs - d1) n ls (.double x :: st.drop b) G)) else False
  | 4 => bif Nat.ble (gCat (st.drop b)) 8 && (Nat.beq (st.take b).length b && Nat.beq (gCat (st.take b)) b) then ∃ c1 d1, c1 ≤ rc ∧ d1 ≤ rs ∧ C a c1 d1 (st.take b).reverse G (gQf (fun x G => X (rc - c1) (rs - d1) n ls (.float x :: st.drop b) G)) else False
  | 10 => bif Nat.ble (gCat (st.drop b)) 8 && (Nat.beq (st.take b).length b && Nat.beq (gCat (st.take b)) b) then ∃ c1 d1, c1 ≤ rc ∧ d1 ≤ rs ∧ C a c1 d1 (st.take b).reverse G (gQi (fun x G => X (rc - c1) (rs - d1) n ls (.int x :: st.drop b) G) (fun E G => gHand X Q.2.2.2.2.2 (rc - c1) (rs - d1) pc ls E G hh)) else False
  | 11 => bif Nat.ble (gCat (st.drop b)) 8 && (Nat.beq (st.take b).length b && Nat.beq (gCat (st.take b)) b) then ∃ c1 d1, c1 ≤ rc ∧ d1 ≤ rs ∧ C a c1 d1 (st.take b).reverse G (gQv (fun G => X (rc - c1) (rs - d1) n ls (st.drop b) G) (fun E G => gHand X Q.2.2.2.2.2 (rc - c1) (rs - d1) pc ls E G hh)) else False
  | 20 => (match st with
    | .int y :: .int x :: r => bif Nat.ble (gCat r) 8 then X rc rs n ls (.int (if y < x then y else x) :: r) G else False
    | _ => False)
  | 21 => (match st with
    | .int y :: .int x :: r => bif Nat.ble (gCat r) 8 then X rc rs n ls (.int (if x < y then y else x) :: r) G else False
    | _ => False)
  | 22 => (match st with
    | .int x :: r => bif Nat.ble (gCat r) 8 then X rc rs n ls (.int (if 0 ≤ x then x else 0 - x) :: r) G else False
    | _ => False)
  | 23 => (match st with
    | .ref o :: r => bif Nat.ble (gCat r) 8 then ∃ tx, S o = some tx ∧ X rc rs n ls (.int (nI tx.length) :: r) G else False
    | _ => False)
  | 24 => (match st with
    | .int j :: .ref o :: r => bif Nat.ble (gCat r) 8 then ∃ tx k ch, S o = some tx ∧ j = nI k ∧ tx[k]? = some ch ∧ X rc rs n ls (.int (nI ch) :: r) G else False
    | _ => False)
  | 27 => (match st with
    | .ref o :: r => bif Nat.ble (gCat r) 8 then gRB ≤ o ∧ ∃ m f, G.2 o = some (.inr (.byte, m, .inl f)) ∧ X rc rs n ls (.int (nI m) :: r) G else False
    | _ => False)
  | 28 => (match st with
    | .int j :: .ref o :: r => bif Nat.ble (gCat r) 8 then gRB ≤ o ∧ ∃ m f, G.2 o = some (.inr (.byte, m, .inl f)) ∧ vp_in j m ∧ X rc rs n ls (.int (f j.toNatClampNeg) :: r) G else False
    | _ => False)
  | 25 => (match st with
    | .int k :: .int dp :: .ref q :: .int sp :: .ref o :: r => bif Nat.ble (gCat r) 8 then q < gRB ∧ o < gRB ∧ ∃ ty m0 m1 f g ka da sa, G.2 o = some (.inr (ty, m0, .inl f)) ∧ G.2 q = some (.inr (ty, m1, .inl g)) ∧ (ty = .int ∨ ty = .boolean ∧ ∀ i, f i = nI 0 ∨ f i = nI 1) ∧ k = nI ka ∧ dp = nI da ∧ sp = nI sa ∧ ka < 2 ^ 31 ∧ da < 2 ^ 31 ∧ sa < 2 ^ 31 ∧ sa + ka ≤ m0 ∧ da + ka ≤ m1 ∧ X rc rs n ls r (gU G q (.inr (ty, m1, .inl (va_cpy f g sa da ka)))) else False
    | _ => False)
  | 26 => (match st with
    | .ref _ :: r => bif Nat.ble (gCat r) 8 then X rc rs n ls r G else False
    | _ => False)
  | _ => False
/-- the receiver is an object of the method's class -/
def gRcv (cls : Nat → Nat) (e a b : Nat) (st : List Value) (G : GH) : Prop := bif Nat.ble 20 e then True else match st.drop (b - 1) with
  | .ref o :: _ => o < gRB ∧ ∃ fs, G.2 o = some (.inl (cls a, fs))
  | _ => False
def stepG (S : GS) (exc : Nat → String) (blk : Nat → List Value) (cls : Nat → Nat) (T : Nat → Option GE) (hh : GHd) (C : Nat → Nat → Nat → List Value → GH → GQ → Prop) (X : GX) (Q : GQ) (rc rs pc : Nat) (ls : GL) (st : List Value) (G : GH) : Prop :=
  match T pc with
  | none => False
  | some (i, n, a, b, c, d, e) =>
    match i with
    | .iconst _ | .bipush _ | .sipush _ => X rc rs n ls (.int (gK b a) :: st) G
    | .ldc _ | .ldc_w _ => (match e with
      | 0 => X rc rs n ls (.int (gK b a) :: st) G
      | _ => X rc rs n ls (.ref a :: st) G)
    | .lconst k => X rc rs n ls (.long (Int64.ofNat (k : Nat)) :: st) G
    | .fconst _ => X rc rs n ls (.float FP.fconst0 :: st) G
    | .dconst _ => X rc rs n ls (.double FP.dconst0 :: st) G
    | .iload_n k => gLdI ls k (fun x => X rc rs n ls (.int x :: st) G)
    | .iload k => gLdI ls k (fun x => X rc rs n ls (.int x :: st) G)
    | .aload_n k => gLdA ls k (fun x => X rc rs n ls (.ref x :: st) G)
    | .aload k => gLdA ls k (fun x => X rc rs n ls (.ref x :: st) G)
    | .dload k => gLdD ls k (fun x => X rc rs n ls (.double x :: st) G)
    | .istore_n k => (match st with
      | .int x :: r => X rc rs n (gSt1 ls k (.int x)) r G
      | _ => False)
    | .istore k => (match st with
      | .int x :: r => X rc rs n (gSt1 ls k (.int x)) r G
      | _ => False)
    | .astore_n k => (match st with
      | .ref x :: r => X rc rs n (gSt1 ls k (.ref x)) r G
      | _ => False)
    | .astore k => (match st with
      | .ref x :: r => X rc rs n (gSt1 ls k (.ref x)) r G
      | _ => False)
    | .dstore k => (match st with
      | .double x :: r => X rc rs n (gSt2 ls k (.double x)) r G
      | _ => False)
    | .iinc k _ => gLdI ls k (fun x => X rc rs n (gSt1 ls k (.int (gInc x b a))) st G)
    | .iadd | .isub | .imul | .iand | .ior | .ishl | .ishr | .iushr | .idiv | .irem => (match st with
      | .int y :: .int x :: r => gArith i x y (fun v => X rc rs n ls (.int v :: r) G)
      | _ => False)
    | .ineg => (match st with
      | .int x :: r => X rc rs n ls (.int (-x) :: r) G
      | _ => False)
    | .i2l => (match st with
      | .int x :: r => X rc rs n ls (.long x.toInt64 :: r) G
      | _ => False)
    | .i2d => (match st with
      | .int x :: r => X rc rs n ls (.double (FP.i2d x) :: r) G
      | _ => False)
    | .i2f => (match st with
      | .int x :: r => X rc rs n ls (.float (FP.i2f x) :: r) G
      | _ => False)
    | .f2d => (match st with
      | .float x :: r => vf_n64 (FP.f2d x) ∧ X rc rs n ls (.double (FP.f2d x) :: r) G
      | _ => False)
    | .ddiv => (match st with
      | .double y :: .double x :: r => vf_n64 (FP.ddiv x y) ∧ X rc rs n ls (.double (FP.ddiv x y) :: r) G
      | _ => False)
    | .fdiv => (match st with
      | .float y :: .float x :: r => vf_n32 (FP.fdiv x y) ∧ X rc rs n ls (.float (FP.fdiv x y) :: r) G
      | _ => False)
    | .lcmp => (match st with
      | .long y :: .long x :: r => X rc rs n ls (.int (lg_cmp x y) :: r) G
      | _ => False)
    | .dcmp op => (match st with
      | .double y :: .double x :: r => X rc rs n ls (.int (Op.cmpValue (FP.dcmp x y) op) :: r) G
      | _ => False)
    | .pop => (match st with
      | .int _ :: r => X rc rs n ls r G
      | .ref _ :: r => X rc rs n ls r G
      | _ => False)
    | .dup => (match st with
      | .int x :: r => X rc rs n ls (.int x :: .int x :: r) G
      | .ref x :: r => X rc rs n ls (.ref x :: .ref x :: r) G
      | _ => False)
    | .dup2 => (match st with
      | .int y :: .ref x :: r => X rc rs n ls (.int y :: .ref x :: .int y :: .ref x :: r) G
      | _ => False)
    | .ifCond cd _ => (match st with
      | .int x :: r => gCond cd x (nI 0) (X rc rs a ls r G) (X rc rs n ls r G)
      | _ => False)
    | .if_icmp cd _ => (match st with
      | .int y :: .int x :: r => gCond cd x y (X rc rs a ls r G) (X rc rs n ls r G)
      | _ => False)
    | .goto _ => X rc rs a ls st G
    | .tableswitch _ lo hi os => (match st with
      | .int x :: r => ((x.toInt < lo ∨ hi < x.toInt) → X rc rs a ls r G) ∧ gSw (fun t => X rc rs t ls r G) pc x lo os.toList
      | _ => False)
    | .getfield _ => (match st with
      | .ref o :: r => (match c with
        | 0 => ∃ fs x, G.2 o = some (.inl (a, fs)) ∧ fs[b]? = some (.int x) ∧ X rc rs n ls (.int x :: r) G
        | _ => ∃ fs y, G.2 o = some (.inl (a, fs)) ∧ fs[b]? = some (.ref y) ∧ X rc rs n ls (.ref y :: r) G)
      | _ => False)
    | .putfield _ => (match st with
      | v :: .ref o :: r => o < gRB ∧ ∃ fs, G.2 o = some (.inl (a, fs)) ∧ gFit c v ∧ X rc rs n ls r (gU G o (.inl (a, fs.set b v)))
      | _ => False)
    | .getstatic _ => X rc rs n ls (.ref a :: st) G
    | .iaload => (match st with
      | .int j :: .ref o :: r => ∃ m f, G.2 o = some (.inr (.int, m, .inl f)) ∧ vp_in j m ∧ X rc rs n ls (.int (f j.toNatClampNeg) :: r) G
      | _ => False)
    | .baload => (match st with
      | .int j :: .ref o :: r => o < gRB ∧ ∃ m f, G.2 o = some (.inr (.boolean, m, .inl f)) ∧ vp_in j m ∧ X rc rs n ls (.int (f j.toNatClampNeg) :: r) G
      | _ => False)
    | .laload => False
    | .aaload => (match st with
      | .int j :: .ref o :: r => o < gRB ∧ ∃ m f y, G.2 o = some (.inr (.object "TrunkDuel$State", m, .inr (.inr (.inr (.inr f))))) ∧ vp_in j m ∧ f j.toNatClampNeg = some y ∧ X rc rs n ls (.ref y :: r) G
      | _ => False)
    | .iastore => (match st with
      | .int x :: .int j :: .ref o :: r => o < gRB ∧ ∃ m f, G.2 o = some (.inr (.int, m, .inl f)) ∧ vp_in j m ∧ X rc rs n ls r (gU G o (.inr (.int, m, .inl (upd f j.toNatClampNeg x))))
      | _ => False)
    | .bastore => (match st with
      | .int x :: .int j :: .ref o :: r => o < gRB ∧ (x = nI 0 ∨ x = nI 1) ∧ ∃ m f, G.2 o = some (.inr (.boolean, m, .inl f)) ∧ vp_in j m ∧ X rc rs n ls r (gU G o (.inr (.boolean, m, .inl (upd f j.toNatClampNeg x))))
      | _ => False)
    | .lastore => False
    | .aastore => (match st with
      | .ref y :: .int j :: .ref o :: r => o < gRB ∧ y < gRB ∧ ∃ m f fs, G.2 o = some (.inr (.object "TrunkDuel$State", m, .inr (.inr (.inr (.inr f))))) ∧ G.2 y = some (.inl (8, fs)) ∧ vp_in j m ∧ X rc rs n ls r (gU G o (.inr (.object "TrunkDuel$State", m, .inr (.inr (.inr (.inr (va_up f j.toNatClampNeg (some y))))))))
      | _ => False)
    | .arraylength => (match st with
      | .ref o :: r => ∃ m f, G.2 o = some (.inr (.int, m, .inl f)) ∧ m < 2 ^ 31 ∧ X rc rs n ls (.int (nI m) :: r) G
      | _ => False)
    | .newarray ty => (match st with
      | .int j :: r => 1 ≤ rc ∧ 0 < G.1 ∧ G.1 < gRB ∧ ∃ m, j = nI m ∧ m ≤ 100000 ∧ m ≤ rs ∧ (match ty with
        | .int => X (rc - 1) (rs - m) n ls (.ref G.1 :: r) (gPush G (.inr (.int, m, .inl fun _ => 0)))
        | .boolean => X (rc - 1) (rs - m) n ls (.ref G.1 :: r) (gPush G (.inr (.boolean, m, .inl fun _ => 0)))
        | _ => False)
      | _ => False)
    | .anewarray _ => (match st with
      | .int j :: r => 1 ≤ rc ∧ 0 < G.1 ∧ G.1 < gRB ∧ ∃ m, j = nI m ∧ m ≤ 100000 ∧ m ≤ rs ∧ X (rc - 1) (rs - m) n ls (.ref G.1 :: r) (gPush G (.inr (.object "TrunkDuel$State", m, .inr (.inr (.inr (.inr fun _ => none))))))
      | _ => False)
    | .new _ => (match e with
      | 0 => 1 ≤ rc ∧ b ≤ rs ∧ 0 < G.1 ∧ G.1 < gRB ∧ X (rc - 1) (rs - b) n ls (.ref G.1 :: st) (gPush G (.inl (a, blk a)))
      | _ => 1 ≤ rc ∧ 6 ≤ rs ∧ (bif Nat.ble (gCat st) 8 then Q.2.2.2.2.2 (exc a) (gDirty G) else False))
    | .invokevirtual _ | .invokespecial _ => gRcv cls e a b st G ∧ gInv C X Q S hh rc rs pc ls st G n a b c d e
    | .invokestatic _ => gInv C X Q S hh rc rs pc ls st G n a b c d e
    | .ireturn => (match st with
      | [.int x] => (match a with
        | 0 => Q.1 x G
        | _ => (x = nI 0 ∨ x = nI 1) ∧ Q.1 x G)
      | _ => False)
    | .areturn => (match st with
      | [.ref x] => Q.2.2.1 x G
      | _ => False)
    | .dreturn => (match st with
      | [.double x] => Q.2.2.2.1 x G
      | _ => False)
    | .freturn => (match st with
      | [.float x] => Q.2.2.2.2.1 x G
      | _ => False)
    | .return_ => (match st with
      | [] => Q.2.1 G
      | _ => False)
    | _ => False
