/-! ===== p60: the drawn text is well said ===== -/
def tAt (b : Int → Int) : Int → List Nat → Prop
  | _, [] => True
  | p, x :: l => b p = ((x : Nat) : Int) ∧ tAt b (p + 1) l
theorem tAt_app {b : Int → Int} : ∀ {l l' : List Nat} {p : Int}, tAt b p (l ++ l') → tAt b p l ∧ tAt b (p + l.length) l'
  | [], l', p, h => ⟨trivial, by simpa using h⟩
  | x :: l, l', p, h => by
    obtain ⟨h1, h2⟩ := tAt_app h.2
    refine ⟨⟨h.1, h1⟩, ?_⟩
    rw [show p + ((x :: l).length : Nat) = p + 1 + (l.length : Nat) by simp only [List.length_cons]; omega]
    exact h2
def twT (c r : Nat) : List Nat := [116, 114, 117, 110, 107, 32, 48 + c, 32, 48 + r, 59]
def twB (q : Nat × Nat) : List Nat := [98, 108, 111, 99, 107, 32, 48 + q.1, 32, 48 + q.2, 59]
def twS : List Nat → List Nat
  | [] => [59]
  | d :: l => 32 :: (48 + d) :: twS l
def twP (a : Nat) (l : List Nat) : List Nat := [112, 108, 97, 121, 101, 114, 32, a] ++ twS l
def twBs : List (Nat × Nat) → List Nat
  | [] => []
  | q :: l => twB q ++ twBs l
/-- the drawn text -/
def twA (c r : Nat) (bl : List (Nat × Nat)) (l0 l1 : List Nat) : List Nat := twT c r ++ (twBs bl ++ (twP 97 l0 ++ twP 98 l1))
section
variable {b : Int → Int} {n p : Int}
theorem eor_w : ∀ (m : Nat) (p : Int), p + m ≤ n → (∀ i : Int, p ≤ i → i < p + m → 97 ≤ b i ∧ b i ≤ 122) → ¬ (97 ≤ b (p + m) ∧ b (p + m) ≤ 122) → eorN b n 97 122 p = p + m
  | 0, p, _, _, h2 => by
    have e : p + ((0 : Nat) : Int) = p := by omega
    rw [e] at h2 ⊢
    exact eorN_stop h2
  | m + 1, p, h0, h1, h2 => by
    have e : p + ((m + 1 : Nat) : Int) = p + 1 + (m : Nat) := by omega
    rw [e] at h2 ⊢
    rw [eorN_step (by omega) (h1 p (Int.le_refl _) (by omega))]
    exact eor_w m (p + 1) (by omega) (fun i i0 i1 => h1 i (by omega) (by omega)) h2
theorem tk_word (m : Nat) (m0 : 0 < m) (h0 : p + m < n) (h1 : ∀ i : Int, p ≤ i → i < p + m → 97 ≤ b i ∧ b i ≤ 122) (h2 : ¬ (97 ≤ b (p + m) ∧ b (p + m) ≤ 122)) : tkAt b n p = (1, p, p + m, 0) := by
  have a := h1 p (Int.le_refl _) (by omega)
  have e : eorN b n 32 32 p = p := eorN_stop (by omega)
  unfold tkAt
  rw [e, if_neg (by omega), if_pos a, eor_w m p (by omega) h1 h2]
theorem sp1 (h0 : p + 1 < n) (h1 : b p = 32) (h2 : b (p + 1) ≠ 32) : eorN b n 32 32 p = p + 1 := by
  rw [eorN_step (by omega) (by omega), eorN_stop (by omega)]
theorem tk_name (h0 : p + 2 < n) (h1 : b p = 32) (h2 : 97 ≤ b (p + 1) ∧ b (p + 1) ≤ 122) (h3 : ¬ (97 ≤ b (p + 2) ∧ b (p + 2) ≤ 122)) : tkAt b n p = (1, p + 1, p + 2, 0) := by
  unfold tkAt
  rw [sp1 (by omega) h1 (by omega), if_neg (by omega), if_pos h2, eor_w 1 (p + 1) (by omega) (fun i i0 i1 => by rw [show i = p + 1 by omega]; exact h2) (by rw [show p + 1 + ((1 : Nat) : Int) = p + 2 by omega]; exact h3), show p + 1 + ((1 : Nat) : Int) = p + 2 by omega]
theorem tk_num {d : Nat} (hd : d ≤ 9) (h0 : p + 2 < n) (h1 : b p = 32) (h2 : b (p + 1) = ((48 + d : Nat) : Int)) (h3 : ¬ (48 ≤ b (p + 2) ∧ b (p + 2) ≤ 57)) : tkAt b n p = (2, p + 1, p + 2, (d : Int)) := by
  have e : eorN b n 48 57 (p + 1) = p + 2 := by
    rw [eorN_step (by omega) (by omega), eorN_stop (by rw [show p + 1 + 1 = p + 2 by omega]; exact h3)]
    omega
  unfold tkAt
  rw [sp1 (by omega) h1 (by omega), if_neg (by omega), if_neg (by omega), if_pos (by omega), e, show (p + 2 - (p + 1)).toNat = 1 by omega]
  have v : vlc b 1000 1 (p + 1) 0 = d := by
    show min2 (0 * 10 + b (p + 1) - 48) 1000 = d
    rw [h2]
    have := min2_or (0 * 10 + ((48 + d : Nat) : Int) - 48) 1000
    omega
  rw [v]
theorem tk_end (h0 : p < n) (h1 : b p = 59) : tkAt b n p = (3, p, p + 1, 0) := by
  unfold tkAt
  have e : eorN b n 32 32 p = p := eorN_stop (by omega)
  rw [e, if_neg (by omega), if_neg (by omega), if_neg (by omega), if_pos h1]
theorem tk_fin : tkAt b n n = (0, n, n, 0) := by
  unfold tkAt
  have e : eorN b n 32 32 n = n := eorN_end (Int.le_refl _)
  rw [e, if_pos (Int.le_refl _)]
/-- a number, a semicolon, read -/
theorem x_num {T : TkS} {d : Nat} {lo hi : Int} (hT : T.2.2.1 = p) (hd : d ≤ 9) (h0 : p + 2 < n) (h1 : b p = 32) (h2 : b (p + 1) = ((48 + d : Nat) : Int)) (h3 : ¬ (48 ≤ b (p + 2) ∧ b (p + 2) ≤ 57)) (hl : lo ≤ d ∧ d ≤ hi) : xNum b n T lo hi = .ok ((2, p + 1, p + 2, (d : Int)), (d : Int)) := by
  unfold xNum xHere
  rw [hT, tk_num hd h0 h1 h2 h3, if_pos rfl, if_pos hl]
  rfl
theorem x_end {T : TkS} (hT : T.2.2.1 = p) (h0 : p < n) (h1 : b p = 59) : xEnd b n T = .ok (tkAt b n (p + 1)) := by
  unfold xEnd
  rw [hT, tk_end h0 h1, if_pos rfl]
theorem isW_of {p : Int} {tx : List Nat} (h : tAt b p tx) : ∀ i : Nat, i < tx.length → b (p + i) = ((tx.getD i 0 : Nat) : Int) := by
  induction tx generalizing p with
  | nil => intro i hi; simp at hi
  | cons x l ih =>
    intro i hi
    cases i with
    | zero => simpa using h.1
    | succ i =>
      have := ih h.2 i (by simp only [List.length_cons] at hi; omega)
      rw [show p + ((i + 1 : Nat) : Int) = p + 1 + (i : Nat) by omega]
      exact this
theorem x_size {c r : Nat} (hc : 3 ≤ c ∧ c ≤ 8) (hr : 3 ≤ r ∧ r ≤ 8) (h : tAt b 0 (twT c r)) (hn : 10 < n) : xSize b n (tkAt b n 0) = .ok (tkAt b n 10, (c : Int), (r : Int)) := by
  obtain ⟨a0, a1, a2, a3, a4, a5, a6, a7, a8, a9, -⟩ := h
  simp only [Int.zero_add, show (0 : Int) + 1 = 1 from rfl, show (1 : Int) + 1 = 2 from rfl, show (2 : Int) + 1 = 3 from rfl, show (3 : Int) + 1 = 4 from rfl, show (4 : Int) + 1 = 5 from rfl, show (5 : Int) + 1 = 6 from rfl, show (6 : Int) + 1 = 7 from rfl, show (7 : Int) + 1 = 8 from rfl, show (8 : Int) + 1 = 9 from rfl] at a0 a1 a2 a3 a4 a5 a6 a7 a8 a9
  have t0 : tkAt b n 0 = (1, 0, 5, 0) := tk_word 5 (by decide) (by omega) (fun i i0 i1 => by
    have : i = 0 ∨ i = 1 ∨ i = 2 ∨ i = 3 ∨ i = 4 := by omega
    rcases this with e | e | e | e | e <;> rw [e] <;> omega) (by show ¬ (97 ≤ b (0 + 5) ∧ b (0 + 5) ≤ 122); rw [show (0 : Int) + 5 = 5 from rfl]; omega)
  have w0 : isW b (tkAt b n 0) wTrunk := by
    rw [t0]
    exact ⟨rfl, rfl, isW_of (p := 0) (tx := wTrunk) ⟨a0, a1, a2, a3, a4, trivial⟩⟩
  unfold xSize
  rw [if_pos w0, t0, x_num (p := 5) (d := c) rfl (by omega) (by omega) a5 a6 (by rw [show (5 : Int) + 2 = 7 from rfl]; omega) (by omega)]
  show xb (xNum b n (2, 5 + 1, 5 + 2, (c : Int)) 3 8) _ = _
  rw [x_num (p := 7) (d := r) rfl (by omega) (by omega) a7 a8 (by rw [show (7 : Int) + 2 = 9 from rfl]; omega) (by omega)]
  show xb (xEnd b n (2, 7 + 1, 7 + 2, (r : Int))) _ = _
  rw [x_end (p := 9) rfl (by omega) a9]
  rfl
/-- what stands before the players -/
def twOk (c r : Nat) (A : AS) (y : Nat) : Prop := A.bd.1 = c ∧ A.bd.2.1 = r ∧ (∀ k : Int, A.bd.2.2.2 k = 0) ∧ (∀ x z : Int, bCell A.bd x z < 0) ∧ (∀ x z : Int, y ≤ z → bCell A.bd x z ≠ -2) ∧ A.2 = (0, fun _ _ => 0, pZ, pZ, 0, 0)
theorem x_word5 {l : List Nat} {a0 a1 a2 a3 a4 : Nat} (h : tAt b p (a0 :: a1 :: a2 :: a3 :: a4 :: 32 :: l)) (hn : p + 5 < n) (g0 : 97 ≤ a0 ∧ a0 ≤ 122) (g1 : 97 ≤ a1 ∧ a1 ≤ 122) (g2 : 97 ≤ a2 ∧ a2 ≤ 122) (g3 : 97 ≤ a3 ∧ a3 ≤ 122) (g4 : 97 ≤ a4 ∧ a4 ≤ 122) : tkAt b n p = (1, p, p + 5, 0) ∧ isW b (tkAt b n p) [a0, a1, a2, a3, a4] := by
  obtain ⟨b0, b1, b2, b3, b4, b5, -⟩ := h
  have t0 : tkAt b n p = (1, p, p + 5, 0) := tk_word 5 (by decide) (by omega) (fun i i0 i1 => by
    have : i = p ∨ i = p + 1 ∨ i = p + 1 + 1 ∨ i = p + 1 + 1 + 1 ∨ i = p + 1 + 1 + 1 + 1 := by omega
    rcases this with e | e | e | e | e <;> rw [e] <;> omega) (by rw [show p + ((5 : Nat) : Int) = p + 1 + 1 + 1 + 1 + 1 by omega]; omega)
  refine ⟨t0, ?_⟩
  rw [t0]
  exact ⟨rfl, by show p + 5 - p = _; simp only [List.length_cons, List.length_nil]; omega, isW_of (p := p) (tx := [a0, a1, a2, a3, a4]) ⟨b0, b1, b2, b3, b4, trivial⟩⟩
theorem x_blk {c r x z : Nat} {A : AS} (hc : c ≤ 8 ∧ r ≤ 8) (hA : twOk c r A z) (hx : x < c) (hz : z < r) (h : tAt b p (twB (x, z))) (hn : p + 10 < n) : isW b (tkAt b n p) wBlock ∧ xBlk b n (tkAt b n p) A = .ok (tkAt b n (p + 10), aBlk A x z) ∧ twOk c r (aBlk A x z) (z + 1) := by
  obtain ⟨t0, w0⟩ := x_word5 (b := b) (n := n) (p := p) h (by omega) (by decide) (by decide) (by decide) (by decide) (by decide)
  obtain ⟨A1, A2, A3, A4, A5, A6⟩ := hA
  have hin : bIn A.bd x z := by unfold bIn; omega
  have cl8 : A.bd.1 ≤ 8 := by omega
  obtain ⟨-, -, -, -, -, b5, b6, b7, b8, b9, -⟩ := h
  rw [show p + 1 + 1 + 1 + 1 + 1 = p + 5 by omega] at b5 b6 b7 b8 b9
  rw [show p + 5 + 1 = p + 6 by omega] at b6 b7 b8 b9
  rw [show p + 6 + 1 = p + 7 by omega] at b7 b8 b9
  rw [show p + 7 + 1 = p + 8 by omega] at b8 b9
  rw [show p + 8 + 1 = p + 9 by omega] at b9
  refine ⟨w0, ?_, A1, A2, A3, fun X Y => ?_, fun X Y hY => ?_, A6⟩
  · unfold xBlk
    rw [t0, x_num (p := p + 5) (d := x) rfl (by omega) (by omega) b5 (by rw [show p + 5 + 1 = p + 6 by omega]; exact b6) (by rw [show p + 5 + 2 = p + 7 by omega]; omega) (by omega)]
    show xb (xNum b n (2, p + 5 + 1, p + 5 + 2, (x : Int)) 0 (A.bd.2.1 - 1)) _ = _
    rw [x_num (p := p + 7) (d := z) (by show p + 5 + 2 = p + 7; omega) (by omega) (by omega) b7 (by rw [show p + 7 + 1 = p + 8 by omega]; exact b8) (by rw [show p + 7 + 2 = p + 9 by omega]; omega) (by omega)]
    show (if bCell A.bd (x : Int) (z : Int) = -2 then Except.error (4, p + 7 + 1) else xb (xEnd b n (2, p + 7 + 1, p + 7 + 2, (z : Int))) fun T' => .ok (T', aBlk A x z)) = _
    rw [if_neg (A5 x z (Int.le_refl _)), x_end (p := p + 9) (by show p + 7 + 2 = p + 9; omega) (by omega) b9, show p + 9 + 1 = p + 10 by omega]
    rfl
  · show bCell (bSC A.bd (8 * (z : Int) + x) (-2)) X Y < 0
    rw [bCell_SC8 cl8 hin]
    split
    · decide
    · exact A4 X Y
  · show bCell (bSC A.bd (8 * (z : Int) + x) (-2)) X Y ≠ -2
    rw [bCell_SC8 cl8 hin, if_neg (by omega)]
    exact A5 X Y (by omega)
def blOk (c r : Nat) : Nat → List (Nat × Nat) → Prop
  | _, [] => True
  | y, q :: l => q.1 < c ∧ (y ≤ q.2 ∧ q.2 < r) ∧ blOk c r (q.2 + 1) l
theorem twOk.up {c r y y' : Nat} {A : AS} (h : twOk c r A y) (hy : y ≤ y') : twOk c r A y' := ⟨h.1, h.2.1, h.2.2.1, h.2.2.2.1, fun x z hz => h.2.2.2.2.1 x z (by omega), h.2.2.2.2.2⟩
theorem x_blks {c r : Nat} (hc : c ≤ 8 ∧ r ≤ 8) {l' : List Nat} : ∀ (bl : List (Nat × Nat)) (d y : Nat) (p : Int) (A : AS), bl.length < d → blOk c r y bl → twOk c r A y → tAt b p (twBs bl ++ (112 :: 108 :: 97 :: 121 :: 101 :: 114 :: 32 :: l')) → p + 10 * bl.length + 6 < n → ∃ A' y', xBlks b n d (tkAt b n p) A = .ok (tkAt b n (p + 10 * bl.length), A') ∧ twOk c r A' y'
  | [], d, y, p, A, hd, hb, hA, h, hn => by
    obtain ⟨d, rfl⟩ : ∃ e, d = e + 1 := ⟨d - 1, by simp only [List.length_nil] at hd; omega⟩
    refine ⟨A, y, ?_, hA⟩
    obtain ⟨b0, b1, b2, b3, b4, b5, b6, -⟩ := h
    simp only [List.length_nil] at hn
    have t0 : tkAt b n p = (1, p, p + 6, 0) := tk_word 6 (by decide) (by omega) (fun i i0 i1 => by
      have : i = p ∨ i = p + 1 ∨ i = p + 1 + 1 ∨ i = p + 1 + 1 + 1 ∨ i = p + 1 + 1 + 1 + 1 ∨ i = p + 1 + 1 + 1 + 1 + 1 := by omega
      rcases this with e | e | e | e | e | e <;> rw [e] <;> omega) (by rw [show p + ((6 : Nat) : Int) = p + 1 + 1 + 1 + 1 + 1 + 1 by omega]; omega)
    show (if isW b (tkAt b n p) wBlock then _ else Except.ok (tkAt b n p, A)) = _
    rw [if_neg (by
      rw [t0]
      intro q
      have q2 : p + 6 - p = ((wBlock.length : Nat) : Int) := q.2.1
      have q3 : wBlock.length = 5 := rfl
      omega)]
    simp
  | (x, z) :: bl, d, y, p, A, hd, hb, hA, h, hn => by
    obtain ⟨d, rfl⟩ : ∃ e, d = e + 1 := ⟨d - 1, by simp only [List.length_cons] at hd; omega⟩
    simp only [List.length_cons] at hd hn
    have h' : tAt b p (twB (x, z) ++ (twBs bl ++ (112 :: 108 :: 97 :: 121 :: 101 :: 114 :: 32 :: l'))) := by
      rw [← List.append_assoc]; exact h
    obtain ⟨h1, h2⟩ := tAt_app h'
    have hb2 := hb.2.1
    simp only at hb2
    obtain ⟨w0, e0, A0⟩ := x_blk (b := b) (n := n) (p := p) hc (hA.up hb2.1) hb.1 hb2.2 h1 (by omega)
    obtain ⟨A', y', e1, ok1⟩ := x_blks hc bl d (z + 1) (p + 10) _ (by omega) hb.2.2 A0 h2 (by omega)
    refine ⟨A', y', ?_, ok1⟩
    show (if isW b (tkAt b n p) wBlock then xb (xBlk b n (tkAt b n p) A) fun p => xBlks b n d p.1 p.2 else _) = _
    rw [if_pos w0, e0]
    show xBlks b n d (tkAt b n (p + 10)) (aBlk A x z) = _
    rw [e1, List.length_cons, show p + 10 + 10 * ((bl.length : Nat) : Int) = p + 10 * ((bl.length + 1 : Nat) : Int) by omega]
end
