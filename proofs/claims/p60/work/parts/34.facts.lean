/-! ===== what is to be checked of each entry of the tables ===== -/
def gNames : List String := ["java/lang/RuntimeException", "java/lang/Exception"]
def gLenE (i : Instr) (e : Nat) : Nat := match i with
  | .iload _ | .aload _ | .dload _ | .istore _ | .astore _ | .dstore _ | .bipush _ | .ldc _ | .newarray _ => 2
  | .sipush _ | .ldc_w _ | .getfield _ | .putfield _ | .getstatic _ | .ifCond _ _ | .if_icmp _ _ | .goto _ | .iinc _ _ | .new _ | .anewarray _ | .invokevirtual _ | .invokestatic _ | .invokespecial _ => 3
  | .tableswitch _ _ _ _ => e
  | _ => 1
def gIsRef : Option FieldType → Bool
  | some (.object _) => true
  | some (.array _) => true
  | _ => false
/-- a call of a method of the program: room, arguments -/
def gCk (m a b c d : Nat) : Bool := decide (gFrames a + 1 ≤ gFrames m) && decide (8 + (gMaxL a + 11) + gLocs a ≤ gLocs m) && (c == gCells a) && (d == gSlots a) && decide ((gY a).cls ≠ "java/lang/invoke/MethodHandle") && decide ((gY a).cls ≠ "java/lang/invoke/VarHandle") && decide ((parseMethodDescriptor (gY a).desc).map (fun q => q.parameters.length) = some b) && plainName (gY a).cls && decide (gMaxL a ≥ b)
def gChk (m pc : Nat) (E : GE) : Bool := match E with
  | (i, n, a, b, c, d, e) => decide (decode (gCode m) pc = .ok (i, gLenE i e)) && (n == pc + gLenE i e) && (match i with
    | .iconst v => decide (Int32.ofInt v = gK b a)
    | .bipush v => decide ((Int8.ofInt v).toInt32 = gK b a)
    | .sipush v => decide ((Int16.ofInt v).toInt32 = gK b a)
    | .iinc k v => decide (k < gMaxL m) && decide (Int32.ofInt v = gK b a)
    | .istore_n k => decide ((k : Nat) < gMaxL m)
    | .astore_n k => decide ((k : Nat) < gMaxL m)
    | .istore k => decide (k < gMaxL m)
    | .astore k => decide (k < gMaxL m)
    | .dstore k => decide (k + 1 < gMaxL m)
    | .fconst k => decide (k = 0)
    | .dconst k => decide (k = 0)
    | .ifCond _ o => decide ((pc : Int) + o = (a : Int))
    | .if_icmp _ o => decide ((pc : Int) + o = (a : Int))
    | .goto o => decide ((pc : Int) + o = (a : Int))
    | .tableswitch dflt lo hi os => decide ((pc : Int) + dflt = (a : Int)) && os.toList.all (fun o => decide (0 ≤ (pc : Int) + o)) && decide (hi - lo + 1 = (os.size : Int))
    | .ireturn => bif a == 0 then decide (gRet m = some .int) else decide (gRet m = some .boolean)
    | .areturn => gIsRef (gRet m)
    | .dreturn => decide (gRet m = some .double)
    | .freturn => decide (gRet m = some .float)
    | .return_ => decide (gRet m = none)
    | .new _ => bif e == 0 then true else decide (a < 3) && decide (decode (gCode m) (pc + 3) = .ok (.dup, 1)) && (bif b == 0 then decide (decode (gCode m) (pc + 4) = .ok (.ldc c, 2)) && decide (decode (gCode m) (pc + 6) = .ok (.invokespecial d, 3)) && decide (decode (gCode m) (pc + 9) = .ok (.athrow, 1)) else decide (decode (gCode m) (pc + 4) = .ok (.ldc_w c, 3)) && decide (decode (gCode m) (pc + 7) = .ok (.invokespecial d, 3)) && decide (decode (gCode m) (pc + 10) = .ok (.athrow, 1))) && decide (6 ≤ gFrames m) && decide (140 ≤ gLocs m) && (gHh m).isEmpty && (gHT m).isEmpty
    | .invokevirtual _ => bif Nat.ble 20 e then decide (6 ≤ gFrames m) && decide (160 ≤ gLocs m) else gCk m a (b - 1) c d && Nat.blt 0 b && Nat.ble b (gMaxL a)
    | .invokestatic _ => bif Nat.ble 20 e then decide (2 ≤ gFrames m) && decide (8 + (nativeFrameWords "java/lang/System" "arraycopy" 5 + 11) ≤ gLocs m) && decide (21 ≤ gLocs m) else gCk m a b c d
    | .invokespecial _ => bif Nat.ble 20 e then decide (2 ≤ gFrames m) && decide (20 ≤ gLocs m) else gCk m a (b - 1) c d && Nat.blt 0 b && Nat.ble b (gMaxL a)
    | _ => true)
/-- the words of a method that is called: on an object, by its class, as a constructor -/
def gMwV (a : Nat) : Prop := Cond.instanceMethod (gY a) ∈ gw ∧ Cond.selects (gY a).cls (gY a) (gY a) ∈ gw ∧ Cond.initialized (gY a).cls ∈ gw ∧ Cond.code (gY a) (gCode a) (gMaxL a) (gRet a) ∈ gw ∧ gHT a = [] ∧ gHh a = []
def gMwS (a : Nat) : Prop := Cond.static (gY a) ∈ gw ∧ Cond.initialized (gY a).cls ∈ gw ∧ ((gHT a = [] ∧ gHh a = [] ∧ Cond.code (gY a) (gCode a) (gMaxL a) (gRet a) ∈ gw) ∨ Cond.codeWith (gY a) (gCode a) (gMaxL a) (gRet a) (gHT a) ∈ gw)
def gMwI (a : Nat) : Prop := Cond.instanceMethod (gY a) ∈ gw ∧ Cond.initialized (gY a).cls ∈ gw ∧ Cond.code (gY a) (gCode a) (gMaxL a) none ∈ gw ∧ gHT a = [] ∧ gHh a = [] ∧ (gY a).name = "<init>" ∧ gRet a = none
/-- the words of 'throw new cls(text)' -/
def gTw (own : String) (ik ic : Nat) (cls : String) : Prop := Cond.classLink own ik cls ∈ gw ∧ Cond.initialized cls ∈ gw ∧ (∀ w ∈ vx_atS own ic cls gNames, w ∈ gw ∨ w ∈ gnw) ∧ Bundle.fit cls = true
def gLnk (m : Nat) (E : GE) : Prop := match E with
  | (i, _, a, b, c, d, e) => match i with
    | .getfield idx => ∃ C T N, vwCl[a]? = some (C, T, N) ∧ b < N ∧ (T b).1 = C ∧ Cond.fieldLink (gY m).cls idx C (T b).2.1 (T b).2.2.1 ∈ gw
    | .putfield idx => ∃ C T N ty, vwCl[a]? = some (C, T, N) ∧ b < N ∧ (T b).1 = C ∧ Cond.fieldLink (gY m).cls idx C (T b).2.1 (T b).2.2.1 ∈ gw ∧ parseFieldDescriptor (T b).2.2.1 = some ty ∧ ((c = 0 ∧ ty = .int) ∨ (c = 1 ∧ gIsRef (some ty) = true) ∨ (c = 2 ∧ ty = .boolean)) ∧ ((T b).2.2.2 = true → C = (gY m).cls ∧ (gY m).name = "<init>")
    | .getstatic idx => ∃ j q, gStats[j]? = some q ∧ a = gRB + j ∧ Cond.fieldLink (gY m).cls idx q.1 q.2.1 q.2.2 ∈ gw
    | .ldc idx => (match e with
      | 0 => Cond.constant (gY m).cls idx (gK b a) ∈ gw
      | _ => gRB ≤ a ∧ ∃ tx, ((gY m).cls, idx, tx, a) ∈ gPool)
    | .ldc_w idx => (match e with
      | 0 => False
      | _ => gRB ≤ a ∧ ∃ tx, ((gY m).cls, idx, tx, a) ∈ gPool)
    | .new idx => (match e with
      | 0 => ∃ C T N, vwCl[a]? = some (C, T, N) ∧ b = N ∧ Cond.classLink (gY m).cls idx C ∈ gw ∧ Cond.instantiable C N ∈ gw ∧ Cond.initialized C ∈ gw
      | _ => gTw (gY m).cls idx d (gExc a) ∧ ∃ tx, ((gY m).cls, c, tx) ∈ gMsgs)
    | .anewarray idx => Cond.classLink (gY m).cls idx "TrunkDuel$State" ∈ gw
    | .newarray ty => Cond.arrayClass (newarray.typeOf ty) ∈ gw
    | .invokevirtual idx => (match e with
      | 0 | 1 | 2 | 3 | 4 | 10 | 11 => Cond.methodLink (gY m).cls idx (gY a) ∈ gw ∧ gMwV a
      | 23 => Cond.methodLink (gY m).cls idx yJ0_length_8abf5 ∈ gw
      | 24 => Cond.methodLink (gY m).cls idx yJ0_charAt_5068e ∈ gw
      | 27 => Cond.methodLink (gY m).cls idx yJ0_length_8abf5 ∈ gw
      | 28 => Cond.methodLink (gY m).cls idx yJ0_charAt_5068e ∈ gw
      | _ => False)
    | .invokestatic idx => (match e with
      | 0 | 1 | 2 | 3 | 4 => Cond.methodLink (gY m).cls idx (gY a) ∈ gw ∧ gMwS a
      | 10 | 11 => Cond.methodLink (gY m).cls idx (gY a) ∈ gw ∧ gMwS a ∧ gHT a = []
      | 20 => Cond.methodLink (gY m).cls idx Lib.Math.min.name ∈ gw
      | 21 => Cond.methodLink (gY m).cls idx Lib.Math.max.name ∈ gw
      | 22 => Cond.methodLink (gY m).cls idx Lib.Math.abs.name ∈ gw
      | 25 => Cond.methodLink (gY m).cls idx arraycopyName ∈ gw
      | _ => False)
    | .invokespecial idx => (match e with
      | 1 => (Cond.methodLink (gY m).cls idx (gY a) ∈ gw ∨ Cond.methodLinkNest (gY m).cls idx (gY a) "TrunkDuel" ∈ gnw) ∧ gMwI a
      | 26 => Cond.methodLink (gY m).cls idx objectInit ∈ gw
      | _ => False)
    | _ => True
/-- a method's handlers: the table of the class file, and the ghost's -/
def gHdl (m : Nat) : List (Nat × Nat × Nat × Nat) → GHd → Prop
  | [], [] => True
  | (s, t, h, ci) :: r, (s', t', h', k, nm) :: r' => s = s' ∧ t = t' ∧ ci ≠ 0 ∧ k < gMaxL m ∧ ((∃ f : Fin 4, (f : Nat) = k ∧ decode (gCode m) h = .ok (.astore_n f, 1) ∧ h' = h + 1) ∨ (decode (gCode m) h = .ok (.astore k, 2) ∧ h' = h + 2)) ∧ Cond.classLink (gY m).cls ci nm ∈ gw ∧ (∃ i, i < 3 ∧ nm = gExc i) ∧ Cond.castable nm nm ∈ gnw ∧ gHdl m r r'
  | _, _ => False
/-- all that the tables rest on -/
def gFacts : Prop := (∀ m pc E, gLook (gTab m) pc = some E → gChk m pc E = true ∧ gLnk m E) ∧ (∀ m, gHdl m (gHT m) (gHh m)) ∧
  (∀ ci C T N, vwCl[ci]? = some (C, T, N) → (∀ w ∈ u_ws C T N, w ∈ gw) ∧ (∃ ty : Nat → FieldType, (∀ k, k < N → parseFieldDescriptor (T k).2.2.1 = some (ty k)) ∧ (gBlk ci).length = N ∧ (∀ k, k < N → defaultValue (ty k) = vp_V (gBlk ci) k)) ∧ (∀ a, a < N → ∀ b, b < N → a ≠ b → (T a).2.1 ≠ (T b).2.1)) ∧
  (Cond.static Lib.Math.min.name ∈ gw ∧ Cond.static Lib.Math.max.name ∈ gw ∧ Cond.static Lib.Math.abs.name ∈ gw ∧ Cond.initialized "java/lang/Math" ∈ gw ∧ Cond.code Lib.Math.min.name Lib.Math.min.code 2 (some .int) ∈ gw ∧ Cond.code Lib.Math.max.name Lib.Math.max.code 2 (some .int) ∈ gw ∧ Cond.code Lib.Math.abs.name Lib.Math.abs.code 1 (some .int) ∈ gw) ∧
  (Cond.native arraycopyName ∈ gw ∧ Cond.static arraycopyName ∈ gw ∧ Cond.initialized "java/lang/System" ∈ gw) ∧ (Cond.instanceMethod objectInit ∈ gw ∧ Cond.code objectInit ⟨#[0xb1]⟩ 1 none ∈ gw) ∧
  (∀ w ∈ [Cond.instanceMethod yJ0_length_8abf5, Cond.selects RJ0 yJ0_length_8abf5 yJ0_length_8abf5, Cond.initialized RJ0, Cond.code yJ0_length_8abf5 cJ0_length_8abf5 1 (some .int), Cond.instanceMethod yJ0_charAt_5068e, Cond.selects RJ0 yJ0_charAt_5068e yJ0_charAt_5068e, Cond.code yJ0_charAt_5068e cJ0_charAt_5068e 2 (some .char)], w ∈ gw)
