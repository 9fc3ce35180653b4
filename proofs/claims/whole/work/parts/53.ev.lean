/-! ===== THE PLAIN MACHINE: all cells are made; numbers are Int; the memory is a function of cell and place ===== -/
/-- tag (0 int, 1 reference, 2 long, 3 double, 4 float, 5 nothing), reference or bits, number -/
abbrev PV : Type := Nat × Nat × Int
abbrev vI (x : Int) : PV := (0, 0, x)
abbrev vA (a : Nat) : PV := (1, a, 0)
abbrev vL (x : Int) : PV := (2, 0, x)
abbrev vD (b : Nat) : PV := (3, b, 0)
abbrev vF (b : Nat) : PV := (4, b, 0)
abbrev vN : PV := (5, 0, 0)
/-- how many cells stand, how many exceptions were made, the script's length -/
abbrev PG : Type := Nat × Nat × Nat
abbrev PM : Type := Nat → Int → Int
/-- 0: an answer; i + 1: the exception i -/
abbrev PO : Type := Nat × PV × PG × PM
abbrev PX : Type := Nat → List PV → List PV → PG → PM → Option PO
abbrev PC : Type := Nat → List PV → PG → PM → Option PO
def pK (g : PG) (a : Nat) : Nat × Nat × Nat := bif Nat.blt a 100000 then (bif Nat.blt a g.1 then pKind a else (0, 0, 0)) else match a with
  | 100000 => (2, 0, 5)
  | 100001 => (2, 0, 20)
  | 100002 => (2, 0, 20)
  | 100003 => (2, 0, g.2.2)
  | _ => (0, 0, 0)
def pO (k : Nat × Nat × Nat) (c : Nat) : Bool := match k with
  | (1, d, _) => Nat.beq d c
  | _ => false
def pR (k : Nat × Nat × Nat) (ty : Nat) (j : Int) : Bool := match k with
  | (2, t, n) => Nat.beq t ty && (decide (0 ≤ j) && decide (j < (n : Int)))
  | _ => false
/-- a cell below 100000 -/
def pW (o : Nat) : Bool := Nat.blt o 100000
def up (u : PM) (o : Nat) (j v : Int) : PM := fun a k => if a = o ∧ k = j then v else u a k
def cpy (u : PM) (o q : Nat) (sp dp n : Int) : PM := fun a k => if a = q ∧ dp ≤ k ∧ k < dp + n then u o (sp + (k - dp)) else u a k
/-- what an int makes of a number -/
def w (z : Int) : Int := z.bmod 4294967296
def pNum (b a : Nat) : Int := match b with
  | 0 => (a : Int)
  | _ => -(a : Int)
def pInc (x : Int) (b a : Nat) : Int := match b with
  | 0 => w (x + (a : Int))
  | _ => w (x - (a : Int))
def and2 (x y : Int) : Int := (Int32.ofInt x &&& Int32.ofInt y).toInt
def shr2 (x y : Int) : Int := (Int32.ofInt x >>> (Int32.ofInt y &&& 31)).toInt
def ushr2 (x y : Int) : Int := ((Int32.ofInt x).toUInt32 >>> ((Int32.ofInt y).toUInt32 &&& Int32.toUInt32 31)).toInt32.toInt
def div2 (x y : Int) : Int := (Int32.ofInt x / Int32.ofInt y).toInt
def rem2 (x y : Int) : Int := (Int32.ofInt x - Int32.ofInt x / Int32.ofInt y * Int32.ofInt y).toInt
def min2 (x y : Int) : Int := if y < x then y else x
def max2 (x y : Int) : Int := if x < y then y else x
def abs2 (x : Int) : Int := if 0 ≤ x then x else w (0 - x)
def b01 (x : Int) : Bool := decide (x = 0) || decide (x = 1)
def n64 (r : UInt64) : Bool := decide (r &&& 0x7fffffffffffffff ≤ 0x7ff0000000000000)
def n32 (r : UInt32) : Bool := decide (r &&& 0x7fffffff ≤ 0x7f800000)
def i2d2 (x : Int) : Nat := (FP.i2d (Int32.ofInt x)).toNat
def i2f2 (x : Int) : Nat := (FP.i2f (Int32.ofInt x)).toNat
def f2d2 (b : Nat) : Nat := (FP.f2d (UInt32.ofNat b)).toNat
def ddiv2 (x y : Nat) : Nat := (FP.ddiv (UInt64.ofNat x) (UInt64.ofNat y)).toNat
def fdiv2 (x y : Nat) : Nat := (FP.fdiv (UInt32.ofNat x) (UInt32.ofNat y)).toNat
def dcmp2 (x y : Nat) (op : CmpOp) : Int := (Op.cmpValue (FP.dcmp (UInt64.ofNat x) (UInt64.ofNat y)) op).toInt
def lcmp2 (x y : Int) : Int := if y < x then 1 else if x = y then 0 else -1
/-! calls -/
def cI (r : Option PO) (k : Int → PG → PM → Option PO) (h : Nat → PG → PM → Option PO) : Option PO := match r with
  | some (0, (0, _, x), g, u) => k x g u
  | some (i + 1, _, g, u) => h i g u
  | _ => none
def cV (r : Option PO) (k : PG → PM → Option PO) (h : Nat → PG → PM → Option PO) : Option PO := match r with
  | some (0, _, g, u) => k g u
  | some (i + 1, _, g, u) => h i g u
  | _ => none
def cR (r : Option PO) (k : Nat → PG → PM → Option PO) : Option PO := match r with
  | some (0, (1, a, _), g, u) => k a g u
  | _ => none
def cD (r : Option PO) (k : Nat → PG → PM → Option PO) : Option PO := match r with
  | some (0, (3, b, _), g, u) => k b g u
  | _ => none
def cF (r : Option PO) (k : Nat → PG → PM → Option PO) : Option PO := match r with
  | some (0, (4, b, _), g, u) => k b g u
  | _ => none
def noX : Nat → PG → PM → Option PO := fun _ _ _ => none
def pKill (L : List PV) (i : Nat) : List PV := match i with
  | 0 => L
  | j + 1 => (match L[j]? with
    | some (2, _, _) => L.set j vN
    | some (3, _, _) => L.set j vN
    | _ => L)
def pSt1 (L : List PV) (i : Nat) (v : PV) : List PV := (pKill L i).set i v
def pSt2 (L : List PV) (i : Nat) (v : PV) : List PV := ((pKill L i).set i v).set (i + 1) vN
def pCat : List PV → Nat
  | [] => 0
  | (2, _, _) :: r => 2 + pCat r
  | (3, _, _) :: r => 2 + pCat r
  | _ :: r => 1 + pCat r
def pTag : List PV → Bool
  | [] => true
  | (0, _, _) :: r => pTag r
  | (1, _, _) :: r => pTag r
  | _ => false
def pLdI (L : List PV) (k : Nat) (K : Int → Option PO) : Option PO := match L[k]? with
  | some (0, _, x) => K x
  | _ => none
def pLdA (L : List PV) (k : Nat) (K : Nat → Option PO) : Option PO := match L[k]? with
  | some (1, a, _) => K a
  | _ => none
def pLdD (L : List PV) (k : Nat) (K : Nat → Option PO) : Option PO := match L[k]? with
  | some (3, a, _) => K a
  | _ => none
def pCond (cd : Jvm.ClassFile.Cond) (x y : Int) (P Q : Option PO) : Option PO := match cd with
  | .eq => if x = y then P else Q
  | .ne => if x = y then Q else P
  | .lt => if x < y then P else Q
  | .ge => if x < y then Q else P
  | .gt => if y < x then P else Q
  | .le => if y < x then Q else P
def pSw (X : Nat → Option PO) (pc : Nat) (x : Int) : Int → List Int → Option PO
  | _, [] => none
  | lo, o :: os => if x = lo then X ((pc : Int) + o).toNat else pSw X pc x (lo + 1) os
/-- behind a throw of a callee -/
def pHand (X : PX) (pc : Nat) (L : List PV) (i : Nat) (g : PG) (u : PM) : GHd → Option PO
  | [] => some (i + 1, vN, g, u)
  | (s, t, h, k, nm) :: r => bif Nat.ble s pc && Nat.blt pc t then (if gExc i = nm then X h ((pKill L k).set k vN) [] g u else pHand X pc L i g u r) else pHand X pc L i g u r
/-- the receiver -/
def pRcv (g : PG) (a b : Nat) (S : List PV) : Bool := match S.drop (b - 1) with
  | (1, o, _) :: _ => pW o && pO (pK g o) (gCls a)
  | _ => false
def pArgs (b : Nat) (S : List PV) : Bool := Nat.ble (pCat (S.drop b)) 8 && (Nat.beq (S.take b).length b && pTag (S.take b))
def pInv (C : PC) (X : PX) (hh : GHd) (pc : Nat) (L S : List PV) (g : PG) (u : PM) (n a b e : Nat) : Option PO :=
  match e with
  | 0 => bif pArgs b S then cI (C a (S.take b).reverse g u) (fun x g u => X n L (vI x :: S.drop b) g u) noX else none
  | 1 => bif pArgs b S then cV (C a (S.take b).reverse g u) (fun g u => X n L (S.drop b) g u) noX else none
  | 2 => bif pArgs b S then cR (C a (S.take b).reverse g u) (fun x g u => X n L (vA x :: S.drop b) g u) else none
  | 3 => bif pArgs b S then cD (C a (S.take b).reverse g u) (fun x g u => X n L (vD x :: S.drop b) g u) else none
  | 4 => bif pArgs b S then cF (C a (S.take b).reverse g u) (fun x g u => X n L (vF x :: S.drop b) g u) else none
  | 10 => bif pArgs b S then cI (C a (S.take b).reverse g u) (fun x g u => X n L (vI x :: S.drop b) g u) (fun i g u => pHand X pc L i g u hh) else none
  | 11 => bif pArgs b S then cV (C a (S.take b).reverse g u) (fun g u => X n L (S.drop b) g u) (fun i g u => pHand X pc L i g u hh) else none
  | _ => none
def pStat (X : PX) (L S : List PV) (g : PG) (u : PM) (n e : Nat) : Option PO :=
  match e with
  | 20 => (match S with
    | (0, _, y) :: (0, _, x) :: r => bif Nat.ble (pCat r) 8 then X n L (vI (min2 x y) :: r) g u else none
    | _ => none)
  | 21 => (match S with
    | (0, _, y) :: (0, _, x) :: r => bif Nat.ble (pCat r) 8 then X n L (vI (max2 x y) :: r) g u else none
    | _ => none)
  | 22 => (match S with
    | (0, _, x) :: r => bif Nat.ble (pCat r) 8 then X n L (vI (abs2 x) :: r) g u else none
    | _ => none)
  | 25 => (match S with
    | (0, _, k) :: (0, _, dp) :: (1, q, _) :: (0, _, sp) :: (1, o, _) :: r => bif Nat.ble (pCat r) 8 then
        (bif pW q && pW o then
          (match pK g o, pK g q with
          | (2, t0, m0), (2, t1, m1) => if (t0 = t1 ∧ t0 < 2) ∧ (0 ≤ k ∧ 0 ≤ dp ∧ 0 ≤ sp) ∧ sp + k ≤ (m0 : Int) ∧ dp + k ≤ (m1 : Int) then X n L r g (cpy u o q sp dp k) else none
          | _, _ => none) else none) else none
    | _ => none)
  | _ => none
def pStr (X : PX) (L S : List PV) (g : PG) (u : PM) (n e : Nat) : Option PO :=
  match e with
  | 23 => (match S with
    | (1, o, _) :: r => bif Nat.ble (pCat r) 8 then (match gStr o with
      | some tx => X n L (vI (tx.length : Int) :: r) g u
      | none => none) else none
    | _ => none)
  | 24 => (match S with
    | (0, _, j) :: (1, o, _) :: r => bif Nat.ble (pCat r) 8 then (match gStr o with
      | some tx => if 0 ≤ j ∧ j < (tx.length : Int) then X n L (vI ((tx.getD j.toNat 0 : Nat) : Int) :: r) g u else none
      | none => none) else none
    | _ => none)
  | _ => none
def step2 (C : PC) (X : PX) (T : Nat → Option GE) (hh : GHd) (pc : Nat) (L S : List PV) (g : PG) (u : PM) : Option PO :=
  match T pc with
  | none => none
  | some (i, n, a, b, _, _, e) =>
    match i with
    | .iconst _ | .bipush _ | .sipush _ => X n L (vI (pNum b a) :: S) g u
    | .ldc _ | .ldc_w _ => (match e with
      | 0 => X n L (vI (pNum b a) :: S) g u
      | _ => X n L (vA a :: S) g u)
    | .lconst k => X n L (vL (((k : Nat) : Int)) :: S) g u
    | .fconst _ => X n L (vF FP.fconst0.toNat :: S) g u
    | .dconst _ => X n L (vD FP.dconst0.toNat :: S) g u
    | .iload_n k => pLdI L k (fun x => X n L (vI x :: S) g u)
    | .iload k => pLdI L k (fun x => X n L (vI x :: S) g u)
    | .aload_n k => pLdA L k (fun x => X n L (vA x :: S) g u)
    | .aload k => pLdA L k (fun x => X n L (vA x :: S) g u)
    | .dload k => pLdD L k (fun x => X n L (vD x :: S) g u)
    | .istore_n k => (match S with
      | (0, _, x) :: r => X n (pSt1 L k (vI x)) r g u
      | _ => none)
    | .istore k => (match S with
      | (0, _, x) :: r => X n (pSt1 L k (vI x)) r g u
      | _ => none)
    | .astore_n k => (match S with
      | (1, x, _) :: r => X n (pSt1 L k (vA x)) r g u
      | _ => none)
    | .astore k => (match S with
      | (1, x, _) :: r => X n (pSt1 L k (vA x)) r g u
      | _ => none)
    | .dstore k => (match S with
      | (3, x, _) :: r => X n (pSt2 L k (vD x)) r g u
      | _ => none)
    | .iinc k _ => pLdI L k (fun x => X n (pSt1 L k (vI (pInc x b a))) S g u)
    | .iadd => (match S with
      | (0, _, y) :: (0, _, x) :: r => X n L (vI (w (x + y)) :: r) g u
      | _ => none)
    | .isub => (match S with
      | (0, _, y) :: (0, _, x) :: r => X n L (vI (w (x - y)) :: r) g u
      | _ => none)
    | .imul => (match S with
      | (0, _, y) :: (0, _, x) :: r => X n L (vI (w (x * y)) :: r) g u
      | _ => none)
    | .iand => (match S with
      | (0, _, y) :: (0, _, x) :: r => X n L (vI (and2 x y) :: r) g u
      | _ => none)
    | .ishr => (match S with
      | (0, _, y) :: (0, _, x) :: r => X n L (vI (shr2 x y) :: r) g u
      | _ => none)
    | .iushr => (match S with
      | (0, _, y) :: (0, _, x) :: r => X n L (vI (ushr2 x y) :: r) g u
      | _ => none)
    | .idiv => (match S with
      | (0, _, y) :: (0, _, x) :: r => if y = 0 then none else X n L (vI (div2 x y) :: r) g u
      | _ => none)
    | .irem => (match S with
      | (0, _, y) :: (0, _, x) :: r => if y = 0 then none else X n L (vI (rem2 x y) :: r) g u
      | _ => none)
    | .ineg => (match S with
      | (0, _, x) :: r => X n L (vI (w (-x)) :: r) g u
      | _ => none)
    | .i2l => (match S with
      | (0, _, x) :: r => X n L (vL x :: r) g u
      | _ => none)
    | .i2d => (match S with
      | (0, _, x) :: r => X n L (vD (i2d2 x) :: r) g u
      | _ => none)
    | .i2f => (match S with
      | (0, _, x) :: r => X n L (vF (i2f2 x) :: r) g u
      | _ => none)
    | .f2d => (match S with
      | (4, x, _) :: r => bif n64 (FP.f2d (UInt32.ofNat x)) then X n L (vD (f2d2 x) :: r) g u else none
      | _ => none)
    | .ddiv => (match S with
      | (3, y, _) :: (3, x, _) :: r => bif n64 (FP.ddiv (UInt64.ofNat x) (UInt64.ofNat y)) then X n L (vD (ddiv2 x y) :: r) g u else none
      | _ => none)
    | .fdiv => (match S with
      | (4, y, _) :: (4, x, _) :: r => bif n32 (FP.fdiv (UInt32.ofNat x) (UInt32.ofNat y)) then X n L (vF (fdiv2 x y) :: r) g u else none
      | _ => none)
    | .lcmp => (match S with
      | (2, _, y) :: (2, _, x) :: r => X n L (vI (lcmp2 x y) :: r) g u
      | _ => none)
    | .dcmp op => (match S with
      | (3, y, _) :: (3, x, _) :: r => X n L (vI (dcmp2 x y op) :: r) g u
      | _ => none)
    | .pop => (match S with
      | (0, _, _) :: r => X n L r g u
      | (1, _, _) :: r => X n L r g u
      | _ => none)
    | .dup => (match S with
      | (0, _, x) :: r => X n L (vI x :: vI x :: r) g u
      | (1, x, _) :: r => X n L (vA x :: vA x :: r) g u
      | _ => none)
    | .dup2 => (match S with
      | (0, _, y) :: (1, x, _) :: r => X n L (vI y :: vA x :: vI y :: vA x :: r) g u
      | _ => none)
    | .ifCond cd _ => (match S with
      | (0, _, x) :: r => pCond cd x 0 (X a L r g u) (X n L r g u)
      | _ => none)
    | .if_icmp cd _ => (match S with
      | (0, _, y) :: (0, _, x) :: r => pCond cd x y (X a L r g u) (X n L r g u)
      | _ => none)
    | .goto _ => X a L S g u
    | .tableswitch _ lo hi os => (match S with
      | (0, _, x) :: r => if x < lo ∨ hi < x then X a L r g u else pSw (fun t => X t L r g u) pc x lo os.toList
      | _ => none)
    | .getfield _ => (match S with
      | (1, o, _) :: r => bif pW o && pO (pK g o) a then (match T pc with
        | some (_, _, _, _, 0, _, _) => X n L (vI (u o (b : Int)) :: r) g u
        | _ => X n L (vA (o + pOff a b) :: r) g u) else none
      | _ => none)
    | .putfield _ => (match S with
      | (0, _, x) :: (1, o, _) :: r => bif pW o && pO (pK g o) a then (match T pc with
        | some (_, _, _, _, 0, _, _) => X n L r g (up u o (b : Int) x)
        | some (_, _, _, _, 2, _, _) => bif b01 x then X n L r g (up u o (b : Int) x) else none
        | _ => none) else none
      | _ => none)
    | .getstatic _ => X n L (vA a :: S) g u
    | .iaload => (match S with
      | (0, _, j) :: (1, o, _) :: r => bif pR (pK g o) 0 j then X n L (vI (u o j) :: r) g u else none
      | _ => none)
    | .baload => (match S with
      | (0, _, j) :: (1, o, _) :: r => bif pW o && pR (pK g o) 1 j then X n L (vI (u o j) :: r) g u else none
      | _ => none)
    | .laload => (match S with
      | (0, _, j) :: (1, o, _) :: r => bif pW o && pR (pK g o) 2 j then X n L (vL (u o j) :: r) g u else none
      | _ => none)
    | .aaload => (match S with
      | (0, _, j) :: (1, o, _) :: r => bif pW o && pR (pK g o) 3 j then X n L (vA (o + 1 + 17 * j.toNat) :: r) g u else none
      | _ => none)
    | .iastore => (match S with
      | (0, _, x) :: (0, _, j) :: (1, o, _) :: r => bif pW o && pR (pK g o) 0 j then X n L r g (up u o j x) else none
      | _ => none)
    | .bastore => (match S with
      | (0, _, x) :: (0, _, j) :: (1, o, _) :: r => bif pW o && pR (pK g o) 1 j then (bif b01 x then X n L r g (up u o j x) else none) else none
      | _ => none)
    | .lastore => (match S with
      | (2, _, x) :: (0, _, j) :: (1, o, _) :: r => bif pW o && pR (pK g o) 2 j then X n L r g (up u o j x) else none
      | _ => none)
    | .arraylength => (match S with
      | (1, o, _) :: r => (match pK g o with
        | (2, 0, k) => X n L (vI (k : Int) :: r) g u
        | _ => none)
      | _ => none)
    | .new _ => (match e with
      | 0 => none
      | _ => bif Nat.ble (pCat S) 8 then some (a + 1, vN, (g.1, g.2.1 + 1, g.2.2), u) else none)
    | .invokevirtual _ => bif Nat.ble 20 e then pStr X L S g u n e else bif pRcv g a b S then pInv C X hh pc L S g u n a b e else none
    | .invokestatic _ => bif Nat.ble 20 e then pStat X L S g u n e else pInv C X hh pc L S g u n a b e
    | .ireturn => (match S with
      | [(0, _, x)] => (match a with
        | 0 => some (0, vI x, g, u)
        | _ => bif b01 x then some (0, vI x, g, u) else none)
      | _ => none)
    | .areturn => (match S with
      | [(1, x, _)] => some (0, vA x, g, u)
      | _ => none)
    | .dreturn => (match S with
      | [(3, x, _)] => some (0, vD x, g, u)
      | _ => none)
    | .freturn => (match S with
      | [(4, x, _)] => some (0, vF x, g, u)
      | _ => none)
    | .return_ => (match S with
      | [] => some (0, vN, g, u)
      | _ => none)
    | _ => none
def pMask : List Bool → List PV → List PV
  | [], L => L
  | _ :: _, [] => []
  | true :: bs, v :: L => v :: pMask bs L
  | false :: bs, _ :: L => vN :: pMask bs L
def pCut (m pc : Nat) (L : List PV) : List PV := match (pMk m).lookup pc with
  | some bs => pMask bs L
  | none => L
def pEn (m : Nat) (as : List PV) : List PV := as ++ List.replicate (gMaxL m - as.length) vN
def ev : Nat → Nat → PX
  | 0, _ => fun _ _ _ _ _ => none
  | n + 1, m => fun pc L S g u => step2 (fun a as g u => ev n a 0 (pEn a as) [] g u) (ev n m) (gLook (gTab m)) (gHh m) pc (pCut m pc L) S g u
