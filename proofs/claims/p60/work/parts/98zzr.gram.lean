/-! ===== the grammar; states cleared ===== -/
/-- code and offset of an error -/
abbrev ER : Type := Int × Int
def xb {α β : Type} (X : Except ER α) (f : α → Except ER β) : Except ER β :=
  match X with
  | .error e => .error e
  | .ok a => f a
/-- a number that stands here -/
def xHere (T : TkS) (lo hi : Int) : Except ER Int := if T.1 = 2 then if lo ≤ T.2.2.2 ∧ T.2.2.2 ≤ hi then .ok T.2.2.2 else .error (2, T.2.1) else .error (1, T.2.1)
/-- the next token is a number -/
def xNum (b : Int → Int) (n : Int) (T : TkS) (lo hi : Int) : Except ER (TkS × Int) := xb (xHere (tkAt b n T.2.2.1) lo hi) fun v => .ok (tkAt b n T.2.2.1, v)
/-- a semicolon, and the token behind it -/
def xEnd (b : Int → Int) (n : Int) (T : TkS) : Except ER TkS := if (tkAt b n T.2.2.1).1 = 3 then .ok (tkAt b n (tkAt b n T.2.2.1).2.2.1) else .error (1, (tkAt b n T.2.2.1).2.1)
abbrev wTrunk : List Nat := [116, 114, 117, 110, 107]
abbrev wBlock : List Nat := [98, 108, 111, 99, 107]
abbrev wStrap : List Nat := [115, 116, 114, 97, 112]
abbrev wRight : List Nat := [114, 105, 103, 104, 116]
abbrev wBelow : List Nat := [98, 101, 108, 111, 119]
abbrev wPlayer : List Nat := [112, 108, 97, 121, 101, 114]
abbrev wPlace : List Nat := [112, 108, 97, 99, 101]
abbrev wBar : List Nat := [98, 97, 114]
abbrev wElbow : List Nat := [101, 108, 98, 111, 119]
abbrev wRod : List Nat := [114, 111, 100]
abbrev wSquare : List Nat := [115, 113, 117, 97, 114, 101]
abbrev wCorner : List Nat := [99, 111, 114, 110, 101, 114]
abbrev wPass : List Nat := [112, 97, 115, 115]
def xSize (b : Int → Int) (n : Int) (T : TkS) : Except ER (TkS × Int × Int) :=
  if isW b T wTrunk then xb (xNum b n T 3 8) fun c => xb (xNum b n c.1 3 8) fun q => xb (xEnd b n q.1) fun T' => .ok (T', c.2, q.2) else .error (1, T.2.1)
def aBlk (A : AS) (x y : Int) : AS := (bSC A.bd (8 * y + x) (-2), A.2)
def xBlk (b : Int → Int) (n : Int) (T : TkS) (A : AS) : Except ER (TkS × AS) :=
  xb (xNum b n T 0 (A.bd.1 - 1)) fun c => xb (xNum b n c.1 0 (A.bd.2.1 - 1)) fun q => if bCell A.bd c.2 q.2 = -2 then .error (4, q.1.2.1) else xb (xEnd b n q.1) fun T' => .ok (T', aBlk A c.2 q.2)
def xBlks (b : Int → Int) (n : Int) : Nat → TkS → AS → Except ER (TkS × AS)
  | 0, T, A => .ok (T, A)
  | d + 1, T, A => if isW b T wBlock then xb (xBlk b n T A) fun p => xBlks b n d p.1 p.2 else .ok (T, A)
/-- column, row, side -/
def xEdge (b : Int → Int) (n : Int) (T : TkS) (B : Bd) : Except ER (TkS × Int × Int × Int) :=
  xb (xNum b n T 0 (B.1 - 1)) fun c => xb (xNum b n c.1 0 (B.2.1 - 1)) fun q =>
    if isW b (tkAt b n q.1.2.2.1) wRight ∨ isW b (tkAt b n q.1.2.2.1) wBelow then
      (if bEdge B c.2 q.2 (if isW b (tkAt b n q.1.2.2.1) wRight then 0 else 1) then .ok (tkAt b n q.1.2.2.1, c.2, q.2, if isW b (tkAt b n q.1.2.2.1) wRight then 0 else 1) else .error (3, (tkAt b n q.1.2.2.1).2.1))
    else .error (1, (tkAt b n q.1.2.2.1).2.1)
def aStp (A : AS) (x y s : Int) : AS := (bSS A.bd (2 * (8 * y + x) + s) 1, A.2)
def xStp (b : Int → Int) (n : Int) (T : TkS) (A : AS) : Except ER (TkS × AS) :=
  xb (xEdge b n T A.bd) fun e => if bStrap A.bd e.2.1 e.2.2.1 e.2.2.2 ≠ 0 then .error (4, e.1.2.1) else if bCell A.bd e.2.1 e.2.2.1 = -2 ∨ bBey A.bd e.2.1 e.2.2.1 e.2.2.2 = -2 then .error (5, e.1.2.1) else xb (xEnd b n e.1) fun T' => .ok (T', aStp A e.2.1 e.2.2.1 e.2.2.2)
def xStps (b : Int → Int) (n : Int) : Nat → TkS → AS → Except ER (TkS × AS)
  | 0, T, A => .ok (T, A)
  | d + 1, T, A => if isW b T wStrap then xb (xStp b n T A) fun p => xStps b n d p.1 p.2 else .ok (T, A)
/-- the name of a player set -/
def psNm (q : PS) (l : Int) (f : Int → Int) : PS := (q.1, q.2.1, l, q.2.2.2.1, cl l f)
def aNm (A : AS) (p : Int) (b : Int → Int) (T : TkS) : AS := aSetPl A p (psNm (aPl A p) (T.2.2.1 - T.2.1) fun k => b (T.2.1 + k))
abbrev sameNm (A : AS) (b : Int → Int) (T : TkS) : Prop := A.p0.2.2.1 = T.2.2.1 - T.2.1 ∧ ∀ i : Nat, (i : Int) < T.2.2.1 - T.2.1 → A.p0.2.2.2.2 i = b (T.2.1 + i)
def xSup (b : Int → Int) (n p : Int) : Nat → Int → TkS → AS → Except ER (TkS × AS)
  | 0, _, T, A => .ok (T, A)
  | d + 1, k, T, A => xb (xNum b n T 0 9) fun q => xSup b n p d (k + 1) q.1 (aSetPl A p (psSu (aPl A p) k q.2))
theorem smN (A : AS) (b : Int → Int) (T : TkS) (h : T.2.2.1 - T.2.1 ≤ 6) : sameNm A b T ↔ A.p0.2.2.1 = T.2.2.1 - T.2.1 ∧ ∀ i : Nat, i < 6 → (i : Int) < T.2.2.1 - T.2.1 → A.p0.2.2.2.2 i = b (T.2.1 + i) := ⟨fun q => ⟨q.1, fun i _ hi => q.2 i hi⟩, fun q => ⟨q.1, fun i hi => q.2 i (by omega) hi⟩⟩
/-- the same as a check that can be made -/
def nmB (A : AS) (b : Int → Int) (T : TkS) : Bool := decide (A.p0.2.2.1 = T.2.2.1 - T.2.1) && (List.range (T.2.2.1 - T.2.1).toNat).all fun i => decide (A.p0.2.2.2.2 i = b (T.2.1 + i))
theorem nmB_iff {A : AS} {b : Int → Int} {T : TkS} : nmB A b T = true ↔ sameNm A b T := by
  unfold nmB
  rw [Bool.and_eq_true, decide_eq_true_iff, List.all_eq_true]
  constructor
  · rintro ⟨h1, h2⟩
    exact ⟨h1, fun i hi => of_decide_eq_true (h2 i (List.mem_range.mpr (by omega)))⟩
  · rintro ⟨h1, h2⟩
    exact ⟨h1, fun i hi => decide_eq_true (h2 i (by have := List.mem_range.mp hi; omega))⟩
def xPl (b : Int → Int) (n p : Int) (T : TkS) (A : AS) : Except ER (TkS × AS) :=
  if isW b T wPlayer then
    if (tkAt b n T.2.2.1).1 = 1 ∧ (tkAt b n T.2.2.1).2.2.1 - (tkAt b n T.2.2.1).2.1 ≤ 6 then
      if p ≠ 0 ∧ nmB A b (tkAt b n T.2.2.1) = true then .error (4, (tkAt b n T.2.2.1).2.1)
      else xb (xSup b n p 5 0 (tkAt b n T.2.2.1) (aNm A p b (tkAt b n T.2.2.1))) fun q => xb (xNum b n q.1 0 9) fun z => xb (xEnd b n z.1) fun T' => .ok (T', aSetPl q.2 p (psSt (aPl q.2 p) z.2))
    else .error (1, (tkAt b n T.2.2.1).2.1)
  else .error (1, T.2.1)
def shp (b : Int → Int) (T : TkS) : Int := if isW b T wBar then 0 else if isW b T wElbow then 1 else if isW b T wRod then 2 else if isW b T wSquare then 3 else if isW b T wCorner then 4 else -1
def xPlc (b : Int → Int) (n : Int) (T : TkS) (A : AS) : Except ER (TkS × AS) :=
  if shp b (tkAt b n T.2.2.1) = -1 then .error (1, (tkAt b n T.2.2.1).2.1)
  else xb (xNum b n (tkAt b n T.2.2.1) 0 3) fun r => xb (xNum b n r.1 0 (A.bd.1 - 1)) fun c => xb (xNum b n c.1 0 (A.bd.2.1 - 1)) fun q =>
    if aMayP A (shp b (tkAt b n T.2.2.1)) r.2 c.2 q.2 then .ok (q.1, aPut A (shp b (tkAt b n T.2.2.1)) r.2 c.2 q.2) else .error (6, q.1.2.1)
def xFst (b : Int → Int) (n : Int) (T : TkS) (A : AS) : Except ER (TkS × AS) :=
  xb (xEdge b n T A.bd) fun e => if aMayS A e.2.1 e.2.2.1 e.2.2.2 then .ok (e.1, aStrap A e.2.1 e.2.2.1 e.2.2.2) else .error (6, e.1.2.1)
def xOne (b : Int → Int) (n : Int) (T : TkS) (A : AS) : Except ER (TkS × AS) :=
  if isW b T wPlace then xPlc b n T A
  else if isW b T wStrap then xFst b n T A
  else if isW b T wPass then if aMayN A then .ok (T, aTurn A (w (A.ps + 1))) else .error (6, T.2.1)
  else .error (1, T.2.1)
/-- commands to the end; how many -/
def xCmds (b : Int → Int) (n : Int) : Nat → Int → TkS → AS → Except ER (Int × AS)
  | 0, k, _, A => .ok (k, A)
  | d + 1, k, T, A => if T.1 = 0 then .ok (k, A) else xb (xOne b n T A) fun p => xb (xEnd b n p.1) fun T' => xCmds b n d (k + 1) T' p.2
def pZ : PS := (0, 0, 0, fun _ => 0, fun _ => 0)
def aClr (c q : Int) : AS := ((c, q, cl 64 fun _ => -1, fun _ => 0), 0, fun _ _ => 0, pZ, pZ, 0, 0)
def xLoad (b : Int → Int) (n : Int) : Except ER (Int × AS) :=
  xb (xSize b n (tkAt b n 0)) fun z => xb (xBlks b n 601 z.1 (aClr z.2.1 z.2.2)) fun p => xb (xStps b n 601 p.1 p.2) fun p => xb (xPl b n 0 p.1 p.2) fun p => xb (xPl b n 1 p.1 p.2) fun p => xCmds b n 601 0 p.1 p.2
def xPlay (b : Int → Int) (n : Int) (A : AS) : Except ER (Int × AS) := xCmds b n 601 0 (tkAt b n 0) A
theorem cl_0 (n : Int) : cl n (fun _ => 0) = fun _ => 0 := by
  funext j
  unfold cl
  split <;> rfl
theorem cl_e {n : Int} (h : n ≤ 0) (f : Int → Int) : cl n f = fun _ => 0 := by
  funext j
  unfold cl
  exact if_neg (by omega)
section
variable {g : PG} {u : PM} {t : Nat}
theorem Tk_clear (hk : kTk g t) {c q : Int} (hc : c ≤ 8) (hq : q ≤ 8) : ∃ u', call M_Tk_clear [vA t, vI c, vI q] g u = some (0, vN, g, u') ∧ bdT u' t = (c, q, cl 64 (fun _ => -1), fun _ => 0) ∧ ∀ (a : Nat) (k : Int), ¬ (t ≤ a ∧ a ≤ t + 2) → u' a k = u a k := by
  have l1 : ∀ (d : Nat) (i : Int) (v : PM), 0 ≤ i → i + d = 64 → (∀ k : Int, 0 ≤ k → k < i → v (t + 1) k = -1) → ∃ v', run M_Tk_clear 22 [vA t, vI c, vI q, vI i] [] g v = run M_Tk_clear 43 [vA t, vI c, vI q, vI 0] [] g v' ∧ (∀ k : Int, 0 ≤ k → k < 64 → v' (t + 1) k = -1) ∧ ∀ (a : Nat) (k : Int), a ≠ t + 1 → v' a k = v a k := by
    intro d
    induction d with
    | zero =>
      intro i v i0 i1 hv
      refine ⟨v, ?_, fun k k0 k1 => hv k k0 (by omega), fun _ _ _ => rfl⟩
      rw [R_Tk_clear_22, if_neg (by omega)]
    | succ d ih =>
      intro i v i0 i1 hv
      obtain ⟨v', e1, q1, f1⟩ := ih (i + 1) (up v (t + 1) i (-1)) (by omega) (by omega) (fun k k0 k1 => by
        by_cases e : k = i
        · rw [e, up_s]
        · rw [up_j e]; exact hv k k0 (by omega))
      refine ⟨v', ?_, q1, fun a k n => by rw [f1 a k n, up_o n]⟩
      rw [R_Tk_clear_22, if_pos (by omega), gd_O hk.1, gd_W hk.2.1 i0 (by omega), w_id (x := i + 1) (by omega) (by omega), e1]
  have l2 : ∀ (d : Nat) (i : Int) (v : PM), 0 ≤ i → i + d = 128 → (∀ k : Int, 0 ≤ k → k < i → v (t + 2) k = 0) → ∃ v', run M_Tk_clear 43 [vA t, vI c, vI q, vI i] [] g v = some (0, vN, g, v') ∧ (∀ k : Int, 0 ≤ k → k < 128 → v' (t + 2) k = 0) ∧ ∀ (a : Nat) (k : Int), a ≠ t + 2 → v' a k = v a k := by
    intro d
    induction d with
    | zero =>
      intro i v i0 i1 hv
      refine ⟨v, ?_, fun k k0 k1 => hv k k0 (by omega), fun _ _ _ => rfl⟩
      rw [R_Tk_clear_43, if_neg (by omega)]
    | succ d ih =>
      intro i v i0 i1 hv
      obtain ⟨v', e1, q1, f1⟩ := ih (i + 1) (up v (t + 2) i 0) (by omega) (by omega) (fun k k0 k1 => by
        by_cases e : k = i
        · rw [e, up_s]
        · rw [up_j e]; exact hv k k0 (by omega))
      refine ⟨v', ?_, q1, fun a k n => by rw [f1 a k n, up_o n]⟩
      rw [R_Tk_clear_43, if_pos (by omega), gd_O hk.1, gd_W hk.2.2 i0 (by omega), b01_0, cond_true, w_id (x := i + 1) (by omega) (by omega), e1]
  obtain ⟨v0, hv0⟩ : ∃ v, v = up (up u t 0 c) t 1 q := ⟨_, rfl⟩
  obtain ⟨v1, e1, q1, f1⟩ := l1 64 0 v0 (by decide) (by decide) (fun k k0 k1 => by omega)
  obtain ⟨v2, e2, q2, f2⟩ := l2 128 0 v1 (by decide) (by decide) (fun k k0 k1 => by omega)
  refine ⟨v2, ?_, ?_, fun a k h => by rw [f2 a k (by omega), f1 a k (by omega), hv0, up_o (by omega), up_o (by omega)]⟩
  · rw [C_Tk_clear]
    simp only [gd_O hk.1]
    rw [show min2 c 8 = c by unfold min2; split <;> omega, show min2 q 8 = q by unfold min2; split <;> omega, ← hv0, e1, e2]
  · unfold bdT
    rw [f2 t 0 (by omega), f1 t 0 (by omega), f2 t 1 (by omega), f1 t 1 (by omega), hv0, up_s, up_j (by decide), up_s, cl_ext (f := v2 (t + 1)) (f' := fun _ => -1) (fun k k0 k1 => by rw [f2 _ _ (by omega)]; exact q1 k k0 k1), cl_ext (f := v2 (t + 2)) (f' := fun _ => 0) (fun k k0 k1 => q2 k k0 k1), cl_0]
theorem Pl_clear (hk : kPl g t) : ∃ u', call M_Pl_clear [vA t] g u = some (0, vN, g, u') ∧ plT u' t = pZ ∧ ∀ (a : Nat) (k : Int), ¬ (t ≤ a ∧ a ≤ t + 2) → u' a k = u a k := by
  have l1 : ∀ (d : Nat) (i : Int) (v : PM), 0 ≤ i → i + d = 5 → (∀ k : Int, 0 ≤ k → k < i → v (t + 2) k = 0) → ∃ v', run M_Pl_clear 17 [vA t, vI i] [] g v = some (0, vN, g, v') ∧ (∀ k : Int, 0 ≤ k → k < 5 → v' (t + 2) k = 0) ∧ ∀ (a : Nat) (k : Int), a ≠ t + 2 → v' a k = v a k := by
    intro d
    induction d with
    | zero =>
      intro i v i0 i1 hv
      refine ⟨v, ?_, fun k k0 k1 => hv k k0 (by omega), fun _ _ _ => rfl⟩
      rw [R_Pl_clear_17, if_neg (by omega)]
    | succ d ih =>
      intro i v i0 i1 hv
      obtain ⟨v', e1, q1, f1⟩ := ih (i + 1) (up v (t + 2) i 0) (by omega) (by omega) (fun k k0 k1 => by
        by_cases e : k = i
        · rw [e, up_s]
        · rw [up_j e]; exact hv k k0 (by omega))
      refine ⟨v', ?_, q1, fun a k n => by rw [f1 a k n, up_o n]⟩
      rw [R_Pl_clear_17, if_pos (by omega), gd_O hk.1, gd_W hk.2.2 i0 (by omega), w_id (x := i + 1) (by omega) (by omega), e1]
  obtain ⟨v0, hv0⟩ : ∃ v, v = up (up (up u t 0 0) t 1 0) t 2 0 := ⟨_, rfl⟩
  obtain ⟨v1, e1, q1, f1⟩ := l1 5 0 v0 (by decide) (by decide) (fun k k0 k1 => by omega)
  refine ⟨v1, ?_, ?_, fun a k h => by rw [f1 a k (by omega), hv0, up_o (by omega), up_o (by omega), up_o (by omega)]⟩
  · rw [C_Pl_clear]
    simp only [gd_O hk.1]
    rw [← hv0, e1]
  · have z0 : v1 t 0 = 0 := by rw [f1 _ _ (by omega), hv0, up_j (by decide), up_j (by decide), up_s]
    have z1 : v1 t 1 = 0 := by rw [f1 _ _ (by omega), hv0, up_j (by decide), up_s]
    have z2 : v1 t 2 = 0 := by rw [f1 _ _ (by omega), hv0, up_s]
    unfold plT pZ
    rw [z0, z1, z2, cl_e (Int.le_refl _), cl_ext (f := v1 (t + 2)) (f' := fun _ => 0) (fun k k0 k1 => q1 k k0 k1), cl_0]
theorem St_clear (hk : kSt g t) {c q : Int} (hc : c ≤ 8) (hq : q ≤ 8) : ∃ u', call M_St_clear [vA t, vI c, vI q] g u = some (0, vN, g, u') ∧ absT u' t = aClr c q ∧ ∀ (a : Nat) (k : Int), ¬ (t ≤ a ∧ a ≤ t + 16) → u' a k = u a k := by
  obtain ⟨v1, e1, b1, f1⟩ := Tk_clear (g := g) (u := u) hk.2.1 hc hq
  obtain ⟨v2, hv2⟩ : ∃ v, v = up v1 (t + 4) 0 0 := ⟨_, rfl⟩
  obtain ⟨v3, e3, b3, f3⟩ := Pl_clear (g := g) (u := v2) hk.2.2.2.1
  obtain ⟨v4, e4, b4, f4⟩ := Pl_clear (g := g) (u := v3) hk.2.2.2.2
  refine ⟨up (up v4 t 4 0) t 5 0, ?_, ?_, fun a k h => by rw [up_o (by omega), up_o (by omega), f4 a k (by omega), f3 a k (by omega), hv2, up_o (by omega), f1 a k (by omega)]⟩
  · rw [C_St_clear]
    simp only [gd_O hk.1, gd_O hk.2.1.1]
    rw [e1, cV_some]
    simp only [gd_O hk.1, gd_O hk.2.2.1.1, gd_O hk.2.2.2.1.1]
    rw [← hv2, e3, cV_some]
    simp only [gd_O hk.1, gd_O hk.2.2.2.2.1]
    rw [e4, cV_some]
    simp only [gd_O hk.1]
  · have o : ∀ (a : Nat) (k : Int), a ≠ t → up (up v4 t 4 0) t 5 0 a k = v4 a k := fun a k h => by rw [up_o h, up_o h]
    have n0 : up (up v4 t 4 0) t 5 0 (t + 4) 0 = 0 := by rw [o _ _ (by omega), f4 _ _ (by omega), f3 _ _ (by omega), hv2, up_s]
    have q1 : bdT (up (up v4 t 4 0) t 5 0) (t + 1) = (c, q, cl 64 (fun _ => -1), fun _ => 0) := by
      rw [← b1]
      exact bdT_eq fun a k h0 h1 => by rw [o a k (by omega), f4 a k (by omega), f3 a k (by omega), hv2, up_o (by omega)]
    have q2 : pcT (up (up v4 t 4 0) t 5 0) t = fun _ _ => 0 := by
      funext i
      unfold pcT
      rw [n0]
      by_cases hi : i < 6
      · rw [if_pos hi, cl_e (Int.le_refl _)]
      · rw [if_neg hi]
    have q3 : plT (up (up v4 t 4 0) t 5 0) (t + 11) = pZ := by
      rw [← b3]
      exact plT_o fun a k h0 h1 => by rw [o a k (by omega), f4 a k (by omega)]
    have q4 : plT (up (up v4 t 4 0) t 5 0) (t + 14) = pZ := by
      rw [← b4]
      exact plT_o fun a k h0 h1 => by rw [o a k (by omega)]
    unfold absT aClr
    rw [q1, n0, q2, q3, q4, up_s, up_j (by decide), up_s]
end
