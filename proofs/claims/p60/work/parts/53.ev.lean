/-! ===== THE PLAIN MACHINE: all cells are made; numbers are Int; the memory is a function of cell and place ===== -/
/-- tag (0 int, 1 reference, 2 long, 3 double, 4 float, 5 nothing), reference or bits, number -/
abbrev PV : Type := Nat × Nat × Int
abbrev vI (x : Int) : PV := (0, 0, x)
abbrev vA (a : Nat) : PV := (1, a, 0)
abbrev vL (x : Int) : PV := (2, 0, x)
abbrev vD (b : Nat) : PV := (3, b, 0)
abbrev vF (b : Nat) : PV := (4, b, 0)
abbrev vN : PV := (5, 0, 0)
/-- how many cells stand, how many exceptions were made, the script's length and a thousand times the drawn text's -/
abbrev PG : Type := Nat × Nat × Nat
abbrev PM : Type := Nat → Int → Int
/-- 0: an answer; i + 1: the exception i -/
abbrev PO : Type := Nat × PV × PG × PM
abbrev PX : Type := Nat → List PV → List PV → PG → PM → Option PO
abbrev PC : Type := Nat → List PV → PG → PM → Option PO
def pK (g : PG) (a : Nat) : Nat × Nat × Nat := bif Nat.blt a 100000 then (bif Nat.blt a g.1 then pKind a else (0, 0, 0)) else match a with
  | 100000 => (2, 0, 5)
  | 100001 => (2, 0, 20)
  | 100002 => (2, 0, 20)
  | 100003 => (2, 0, g.2.2 % 1000)
  | 100004 => (2, 5, g.2.2 / 1000)
  | _ => (0, 0, 0)
def pO (k : Nat × Nat × Nat) (c : Nat) : Bool := match k with
  | (1, d, _) => Nat.beq d c
  | _ => false
def pR (k : Nat × Nat × Nat) (ty : Nat) (j : Int) : Bool := match k with
  | (2, t, n) => Nat.beq t ty && (decide (0 ≤ j) && decide (j < (n : Int)))
  | _ => false
/-- a cell below 100000 -/
def pW (o : Nat) : Bool := Nat.blt o 100000
def up (u : PM) (o : Nat) (j v : Int) : PM := fun a k => if a = o ∧ k = j then v else u a k
def cpy (u : PM) (o q : Nat) (sp dp n : Int) : PM := fun a k => if a = q ∧ dp ≤ k ∧ k < dp + n then u o (sp + (k - dp)) else u a k
/-- what an int makes of a number -/
def w (z : Int) : Int := z.bmod 4294967296
def pNum (b a : Nat) : Int := match b with
  | 0 => (a : Int)
  | _ => -(a : Int)
def pInc (x : Int) (b a : Nat) : Int := match b with
  | 0 => w (x + (a : Int))
  | _ => w (x - (a : Int))
def and2 (x y : Int) : Int := (Int32.ofInt x &&& Int32.ofInt y).toInt
def or2 (x y : Int) : Int := (Int32.ofInt x ||| Int32.ofInt y).toInt
def shl2 (x y : Int) : Int := (Int32.ofInt x <<< (Int32.ofInt y &&& 31)).toInt
def shr2 (x y : Int) : Int := (Int32.ofInt x >>> (Int32.ofInt y &&& 31)).toInt
def ushr2 (x y : Int) : Int := ((Int32.ofInt x).toUInt32 >>> ((Int32.ofInt y).toUInt32 &&& Int32.toUInt32 31)).toInt32.toInt
def div2 (x y : Int) : Int := (Int32.ofInt x / Int32.ofInt y).toInt
def rem2 (x y : Int) : Int := (Int32.ofInt x - Int32.ofInt x / Int32.ofInt y * Int32.ofInt y).toInt
def min2 (x y : Int) : Int := if y < x then y else x
def max2 (x y : Int) : Int := if x < y then y else x
def abs2 (x : Int) : Int := if 0 ≤ x then x else w (0 - x)
def b01 (x : Int) : Bool := decide (x = 0) || decide (x = 1)
def n64 (r : UInt64) : Bool := decide (r &&& 0x7fffffffffffffff ≤ 0x7ff0000000000000)
def n32 (r : UInt32) : Bool := decide (r &&& 0x7fffffff ≤ 0x7f800000)
def i2d2 (x : Int) : Nat := (FP.i2d (Int32.ofInt x)).toNat
def i2f2 (x : Int) : Nat := (FP.i2f (Int32.ofInt x)).toNat
def f2d2 (b : Nat) : Nat := (FP.f2d (UInt32.ofNat b)).toNat
def ddiv2 (x y : Nat) : Nat := (FP.ddiv (UInt64.ofNat x) (UInt64.ofNat y)).toNat
def fdiv2 (x y : Nat) : Nat := (FP.fdiv (UInt32.ofNat x) (UInt32.ofNat y)).toNat
def dcmp2 (x y : Nat) (op : CmpOp) : Int := (Op.cmpValue (FP.dcmp (UInt64.ofNat x) (UInt64.ofNat y)) op).toInt
def lcmp2 (x y : Int) : Int := if y < x then 1 else if x = y then 0 else -1
/-! calls -/
def cI (r : Option PO) (k : Int → PG → PM → Option PO) (h : Nat → PG → PM → Option PO) : Option PO := match r with
  | some (0, (0, _, x), g, u) => k x g u
  | some (i + 1, _, g, u) => h i g u
  | _ => none
def cV (r : Option PO) (k : PG → PM → Option PO) (h : Nat → PG → PM → Option PO) : Option PO := match r with
  | some (0, (5, _, _), g, u) => k g u
  | some (i + 1, _, g, u) => h i g u
  | _ => none
def cR (r : Option PO) (k : Nat → PG → PM → Option PO) : Option PO := match r with
  | some (0, (1, a, _), g, u) => k a g u
  | _ => none
def cD (r : Option PO) (k : Nat → PG → PM → Option PO) : Option PO := match r with
  | some (0, (3, b, _), g, u) => k b g u
  | _ => none
def cF (r : Option PO) (k : Nat → PG → PM → Option PO) : Option PO := match r with
  | some (0, (4, b, _), g, u) => k b g u
  | _ => none
def noX : Nat → PG → PM → Option PO := fun _ _ _ => none
def pKill (L : List PV) (i : Nat) : List PV := match i with
  | 0 => L
  | j + 1 => (match L[j]? with
    | some (2, _, _) => L.set j vN
    | some (3, _, _) => L.set j vN
    | _ => L)
def pSt1 (L : List PV) (i : Nat) (v : PV) : List PV := (pKill L i).set i v
def pSt2 (L : List PV) (i : Nat) (v : PV) : List PV := ((pKill L i).set i v).set (i + 1) vN
def pCat : List PV → Nat
  | [] => 0
  | (2, _, _) :: r => 2 + pCat r
  | (3, _, _) :: r => 2 + pCat r
  | _ :: r => 1 + pCat r
def pTag : List PV → Bool
  | [] => true
  | (0, _, _) :: r => pTag r
  | (1, _, _) :: r => pTag r
  | _ => false
def pLdI (L : List PV) (k : Nat) (K : Int → Option PO) : Option PO := match L[k]? with
  | some (0, _, x) => K x
  | _ => none
def pLdA (L : List PV) (k : Nat) (K : Nat → Option PO) : Option PO := match L[k]? with
  | some (1, a, _) => K a
  | _ => none
def pLdD (L : List PV) (k : Nat) (K : Nat → Option PO) : Option PO := match L[k]? with
  | some (3, a, _) => K a
  | _ => none
def pCond (cd : Jvm.ClassFile.Cond) (x y : Int) (P Q : Option PO) : Option PO := match cd with
  | .eq => if x = y then P else Q
  | .ne => if x = y then Q else P
  | .lt => if x < y then P else Q
  | .ge => if x < y then Q else P
  | .gt => if y < x then P else Q
  | .le => if y < x then Q else P
def pSw (X : Nat → Option PO) (pc : Nat) (x : Int) : Int → List Int → Option PO
  | _, [] => none
  | lo, o :: os => if x = lo then X ((pc : Int) + o).toNat else pSw X pc x (lo + 1) os
/-- behind a throw of a callee -/
def pHand (X : PX) (pc : Nat) (L : List PV) (i : Nat) (g : PG) (u : PM) : GHd → Option PO
  | [] => some (i + 1, vN, g, u)
  | (s, t, h, k, nm) :: r => bif Nat.ble s pc && Nat.blt pc t then (if gExc i = nm then X h ((pKill L k).set k vN) [] g u else pHand X pc L i g u r) else pHand X pc L i g u r
/-- the receiver -/
def pRcv (g : PG) (a b : Nat) (S : List PV) : Bool := match S.drop (b - 1) with
  | (1, o, _) :: _ => pW o && pO (pK g o) (gCls a)
  | _ => false
def pArgs (b : Nat) (S : List PV) : Bool := Nat.ble (pCat (S.drop b)) 8 && (Nat.beq (S.take b).length b && pTag (S.take b))
def popI (S : List PV) (K : Int → List PV → Option PO) : Option PO := match S with
  | (0, _, x) :: r => K x r
  | _ => none
def popA (S : List PV) (K : Nat → List PV → Option PO) : Option PO := match S with
  | (1, a, _) :: r => K a r
  | _ => none
def popL (S : List PV) (K : Int → List PV → Option PO) : Option PO := match S with
  | (2, _, x) :: r => K x r
  | _ => none
def popD (S : List PV) (K : Nat → List PV → Option PO) : Option PO := match S with
  | (3, a, _) :: r => K a r
  | _ => none
def popF (S : List PV) (K : Nat → List PV → Option PO) : Option PO := match S with
  | (4, a, _) :: r => K a r
  | _ => none
def popT (S : List PV) (K0 : Int → List PV → Option PO) (K1 : Nat → List PV → Option PO) : Option PO := match S with
  | (0, _, x) :: r => K0 x r
  | (1, a, _) :: r => K1 a r
  | _ => none
def popN (S : List PV) (K : Option PO) : Option PO := match S with
  | [] => K
  | _ => none
def pTx (s : Option (List Nat)) (K : List Nat → Option PO) : Option PO := match s with
  | some tx => K tx
  | none => none
def pLen (k : Nat × Nat × Nat) (K : Nat → Option PO) : Option PO := match k with
  | (2, 0, n) => K n
  | _ => none
def pLen5 (k : Nat × Nat × Nat) (K : Nat → Option PO) : Option PO := match k with
  | (2, 5, n) => K n
  | _ => none
def pCp (k0 k1 : Nat × Nat × Nat) (k dp sp : Int) : Bool := match k0, k1 with
  | (2, t0, m0), (2, t1, m1) => (Nat.beq t0 t1 && Nat.blt t0 2) && ((decide (0 ≤ k) && (decide (0 ≤ dp) && decide (0 ≤ sp))) && (decide (sp + k ≤ (m0 : Int)) && decide (dp + k ≤ (m1 : Int))))
  | _, _ => false
/-- the field b of class a is a number (c 0 or 2), or refers -/
def pFld (a b c : Nat) : Bool := Nat.blt b (gBlk a).length && (match c with
  | 0 => Nat.beq (pOff a b) 0
  | 2 => Nat.beq (pOff a b) 0
  | _ => Nat.blt 0 (pOff a b))
def pInv (C : PC) (X : PX) (hh : GHd) (pc : Nat) (L S : List PV) (g : PG) (u : PM) (n a b e : Nat) : Option PO :=
  match e with
  | 0 => bif pArgs b S then cI (C a (S.take b).reverse g u) (fun x g u => X n L (vI x :: S.drop b) g u) noX else none
  | 1 => bif pArgs b S then cV (C a (S.take b).reverse g u) (fun g u => X n L (S.drop b) g u) noX else none
  | 2 => bif pArgs b S then cR (C a (S.take b).reverse g u) (fun x g u => X n L (vA x :: S.drop b) g u) else none
  | 3 => bif pArgs b S then cD (C a (S.take b).reverse g u) (fun x g u => X n L (vD x :: S.drop b) g u) else none
  | 4 => bif pArgs b S then cF (C a (S.take b).reverse g u) (fun x g u => X n L (vF x :: S.drop b) g u) else none
  | 10 => bif pArgs b S then cI (C a (S.take b).reverse g u) (fun x g u => X n L (vI x :: S.drop b) g u) (fun i g u => pHand X pc L i g u hh) else none
  | 11 => bif pArgs b S then cV (C a (S.take b).reverse g u) (fun g u => X n L (S.drop b) g u) (fun i g u => pHand X pc L i g u hh) else none
  | _ => none
def pStat (X : PX) (L S : List PV) (g : PG) (u : PM) (n e : Nat) : Option PO :=
  match e with
  | 20 => (popI S fun y r => popI r fun x r => bif Nat.ble (pCat r) 8 then X n L (vI (min2 x y) :: r) g u else none)
  | 21 => (popI S fun y r => popI r fun x r => bif Nat.ble (pCat r) 8 then X n L (vI (max2 x y) :: r) g u else none)
  | 22 => (popI S fun x r => bif Nat.ble (pCat r) 8 then X n L (vI (abs2 x) :: r) g u else none)
  | 25 => popI S fun k r => popI r fun dp r => popA r fun q r => popI r fun sp r => popA r fun o r => bif Nat.ble (pCat r) 8 then (bif (pW q && pW o) && pCp (pK g o) (pK g q) k dp sp then X n L r g (cpy u o q sp dp k) else none) else none
  | _ => none
def pStr (X : PX) (L S : List PV) (g : PG) (u : PM) (n e : Nat) : Option PO :=
  match e with
  | 23 => popA S fun o r => bif Nat.ble (pCat r) 8 then pTx (gStr o) fun tx => X n L (vI (tx.length : Int) :: r) g u else none
  | 24 => popI S fun j r => popA r fun o r => bif Nat.ble (pCat r) 8 then pTx (gStr o) fun tx => bif decide (0 ≤ j) && decide (j < (tx.length : Int)) then X n L (vI ((tx.getD j.toNat 0 : Nat) : Int) :: r) g u else none else none
  | 27 => popA S fun o r => bif Nat.ble (pCat r) 8 then (bif Nat.ble 100000 o then pLen5 (pK g o) fun k => X n L (vI (k : Int) :: r) g u else none) else none
  | 28 => popI S fun j r => popA r fun o r => bif Nat.ble (pCat r) 8 then (bif Nat.ble 100000 o && pR (pK g o) 5 j then X n L (vI (u o j) :: r) g u else none) else none
  | _ => none
def step2 (C : PC) (X : PX) (T : Nat → Option GE) (hh : GHd) (pc : Nat) (L S : List PV) (g : PG) (u : PM) : Option PO :=
  match T pc with
  | none => none
  | some (i, n, a, b, c, _, e) =>
    match i with
    | .iconst _ | .bipush _ | .sipush _ => bif Nat.ble a 2147483647 then X n L (vI (pNum b a) :: S) g u else none
    | .ldc _ | .ldc_w _ => (match e with
      | 0 => X n L (vI (w (pNum b a)) :: S) g u
      | _ => X n L (vA a :: S) g u)
    | .lconst k => X n L (vL (((k : Nat) : Int)) :: S) g u
    | .fconst _ => X n L (vF FP.fconst0.toNat :: S) g u
    | .dconst _ => X n L (vD FP.dconst0.toNat :: S) g u
    | .iload_n k => pLdI L k (fun x => X n L (vI x :: S) g u)
    | .iload k => pLdI L k (fun x => X n L (vI x :: S) g u)
    | .aload_n k => pLdA L k (fun x => X n L (vA x :: S) g u)
    | .aload k => pLdA L k (fun x => X n L (vA x :: S) g u)
    | .dload k => pLdD L k (fun x => X n L (vD x :: S) g u)
    | .istore_n k => (popI S fun x r => X n (pSt1 L k (vI x)) r g u)
    | .istore k => (popI S fun x r => X n (pSt1 L k (vI x)) r g u)
    | .astore_n k => (popA S fun x r => X n (pSt1 L k (vA x)) r g u)
    | .astore k => (popA S fun x r => X n (pSt1 L k (vA x)) r g u)
    | .dstore k => (popD S fun x r => X n (pSt2 L k (vD x)) r g u)
    | .iinc k _ => pLdI L k (fun x => X n (pSt1 L k (vI (pInc x b a))) S g u)
    | .iadd => (popI S fun y r => popI r fun x r => X n L (vI (w (x + y)) :: r) g u)
    | .isub => (popI S fun y r => popI r fun x r => X n L (vI (w (x - y)) :: r) g u)
    | .imul => (popI S fun y r => popI r fun x r => X n L (vI (w (x * y)) :: r) g u)
    | .iand => (popI S fun y r => popI r fun x r => X n L (vI (and2 x y) :: r) g u)
    | .ior => (popI S fun y r => popI r fun x r => X n L (vI (or2 x y) :: r) g u)
    | .ishl => (popI S fun y r => popI r fun x r => X n L (vI (shl2 x y) :: r) g u)
    | .ishr => (popI S fun y r => popI r fun x r => X n L (vI (shr2 x y) :: r) g u)
    | .iushr => (popI S fun y r => popI r fun x r => X n L (vI (ushr2 x y) :: r) g u)
    | .idiv => (popI S fun y r => popI r fun x r => if y = 0 then none else X n L (vI (div2 x y) :: r) g u)
    | .irem => (popI S fun y r => popI r fun x r => if y = 0 then none else X n L (vI (rem2 x y) :: r) g u)
    | .ineg => (popI S fun x r => X n L (vI (w (-x)) :: r) g u)
    | .i2l => (popI S fun x r => X n L (vL x :: r) g u)
    | .i2d => (popI S fun x r => X n L (vD (i2d2 x) :: r) g u)
    | .i2f => (popI S fun x r => X n L (vF (i2f2 x) :: r) g u)
    | .f2d => (popF S fun x r => bif n64 (FP.f2d (UInt32.ofNat x)) then X n L (vD (f2d2 x) :: r) g u else none)
    | .ddiv => (popD S fun y r => popD r fun x r => bif n64 (FP.ddiv (UInt64.ofNat x) (UInt64.ofNat y)) then X n L (vD (ddiv2 x y) :: r) g u else none)
    | .fdiv => (popF S fun y r => popF r fun x r => bif n32 (FP.fdiv (UInt32.ofNat x) (UInt32.ofNat y)) then X n L (vF (fdiv2 x y) :: r) g u else none)
    | .lcmp => (popL S fun y r => popL r fun x r => X n L (vI (lcmp2 x y) :: r) g u)
    | .dcmp op => (popD S fun y r => popD r fun x r => X n L (vI (dcmp2 x y op) :: r) g u)
    | .pop => popT S (fun _ r => X n L r g u) (fun _ r => X n L r g u)
    | .dup => popT S (fun x r => X n L (vI x :: vI x :: r) g u) (fun x r => X n L (vA x :: vA x :: r) g u)
    | .dup2 => (popI S fun y r => popA r fun x r => X n L (vI y :: vA x :: vI y :: vA x :: r) g u)
    | .ifCond cd _ => (popI S fun x r => pCond cd x 0 (X a L r g u) (X n L r g u))
    | .if_icmp cd _ => (popI S fun y r => popI r fun x r => pCond cd x y (X a L r g u) (X n L r g u))
    | .goto _ => X a L S g u
    | .tableswitch _ lo hi os => (popI S fun x r => if x < lo ∨ hi < x then X a L r g u else pSw (fun t => X t L r g u) pc x lo os.toList)
    | .getfield _ => popA S fun o r => bif pFld a b (match c with | 0 => 0 | _ => 1) && (pW o && pO (pK g o) a) then (match c with
      | 0 => X n L (vI (u o (b : Int)) :: r) g u
      | _ => X n L (vA (o + pOff a b) :: r) g u) else none
    | .putfield _ => popI S fun x r => popA r fun o r => bif pFld a b c && (pW o && pO (pK g o) a) then (match c with
      | 0 => X n L r g (up u o (b : Int) x)
      | 2 => bif b01 x then X n L r g (up u o (b : Int) x) else none
      | _ => none) else none
    | .getstatic _ => X n L (vA a :: S) g u
    | .iaload => (popI S fun j r => popA r fun o r => bif pR (pK g o) 0 j then X n L (vI (u o j) :: r) g u else none)
    | .baload => (popI S fun j r => popA r fun o r => bif pW o && pR (pK g o) 1 j then X n L (vI (u o j) :: r) g u else none)
    | .laload => none
    | .aaload => (popI S fun j r => popA r fun o r => bif pW o && pR (pK g o) 3 j then X n L (vA (o + 1 + 17 * j.toNat) :: r) g u else none)
    | .iastore => (popI S fun x r => popI r fun j r => popA r fun o r => bif pW o && pR (pK g o) 0 j then X n L r g (up u o j x) else none)
    | .bastore => (popI S fun x r => popI r fun j r => popA r fun o r => bif pW o && pR (pK g o) 1 j then (bif b01 x then X n L r g (up u o j x) else none) else none)
    | .lastore => none
    | .arraylength => popA S fun o r => pLen (pK g o) fun k => X n L (vI (k : Int) :: r) g u
    | .new _ => (match e with
      | 0 => none
      | _ => bif Nat.ble (pCat S) 8 then some (a + 1, vN, (g.1, g.2.1 + 1, g.2.2), u) else none)
    | .invokevirtual _ => bif Nat.ble 20 e then pStr X L S g u n e else bif pRcv g a b S then pInv C X hh pc L S g u n a b e else none
    | .invokestatic _ => bif Nat.ble 20 e then pStat X L S g u n e else pInv C X hh pc L S g u n a b e
    | .ireturn => popI S fun x r => popN r (match a with
        | 0 => some (0, vI x, g, u)
        | _ => bif b01 x then some (0, vI x, g, u) else none)
    | .areturn => (popA S fun x r => popN r (some (0, vA x, g, u)))
    | .dreturn => (popD S fun x r => popN r (some (0, vD x, g, u)))
    | .freturn => (popF S fun x r => popN r (some (0, vF x, g, u)))
    | .return_ => popN S (some (0, vN, g, u))
    | _ => none
def pMask : List Bool → List PV → List PV
  | [], L => L
  | _ :: _, [] => []
  | true :: bs, v :: L => v :: pMask bs L
  | false :: bs, _ :: L => vN :: pMask bs L
def pCut (m pc : Nat) (L : List PV) : List PV := match (pMk m).lookup pc with
  | some bs => pMask bs L
  | none => L
def pEn (m : Nat) (as : List PV) : List PV := as ++ List.replicate (gMaxL m - as.length) vN
def ev : Nat → Nat → PX
  | 0, _ => fun _ _ _ _ _ => none
  | n + 1, m => fun pc L S g u => step2 (fun a as g u => ev n a 0 (pEn a as) [] g u) (ev n m) (gLook (gTab m)) (gHh m) pc (pCut m pc L) S g u
