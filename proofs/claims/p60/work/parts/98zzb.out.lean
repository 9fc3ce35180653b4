/-! ===== the output, on both sides ===== -/
def sgn (v : Int) : Int := if v = -1 then 46 else if v = -2 then 35 else if v < 26 then 97 + v else 39 + v
def rowO (B : Bd) (y : Int) : Nat → Int → List Int
  | 0, _ => []
  | d + 1, x => sgn (bCell B x y) :: rowO B y d (x + 1)
def outO (B : Bd) : Nat → Int → List Int
  | 0, _ => []
  | d + 1, y => ((if 0 < y then [10] else []) ++ rowO B y B.1.toNat 0) ++ outO B d (y + 1)
def lsO (u : PM) (a : Nat) (n : Int) : List Int := (List.range n.toNat).map fun i : Nat => u a i
def oT (u : PM) (t : Nat) : List Int := lsO u (t + 247) (u t 11)
def oM (u : PM) (t : Nat) : List Int := lsO u (t + 8) (u t 14)
def oGet (l : List Int) (i : Int) : Int := if 0 ≤ i then l.getD i.toNat (-1) else -1
theorem lsO_len (u : PM) (a : Nat) (n : Int) : (lsO u a n).length = n.toNat := by
  unfold lsO
  rw [List.length_map, List.length_range]
theorem lsO_snoc {u u' : PM} {a a' : Nat} {n v : Int} (h0 : 0 ≤ n) (h : ∀ k : Int, 0 ≤ k → k < n → u' a' k = u a k) (hv : u' a' n = v) : lsO u' a' (n + 1) = lsO u a n ++ [v] := by
  unfold lsO
  rw [show (n + 1).toNat = n.toNat + 1 by omega, List.range_succ, List.map_append, List.map_cons, List.map_nil, show ((n.toNat : Nat) : Int) = n by omega, hv]
  exact congrArg (· ++ [v]) (List.map_congr_left fun i hi => h i (by omega) (by have := List.mem_range.mp hi; omega))
theorem lsO_get {u : PM} {a : Nat} {n i : Int} : oGet (lsO u a n) i = if 0 ≤ i ∧ i < n then u a i else -1 := by
  unfold oGet
  by_cases h : 0 ≤ i
  · rw [if_pos h, List.getD_eq_getElem?_getD]
    by_cases h2 : i < n
    · rw [if_pos ⟨h, h2⟩]
      unfold lsO
      rw [List.getElem?_map, List.getElem?_range (by omega)]
      show u a ((i.toNat : Nat) : Int) = u a i
      rw [show ((i.toNat : Nat) : Int) = i by omega]
    · rw [if_neg fun q => h2 q.2, List.getElem?_eq_none (by rw [lsO_len]; omega)]
      rfl
  · rw [if_neg h, if_neg fun q => h q.1]
theorem rowO_len (B : Bd) (y : Int) : ∀ (d : Nat) (x : Int), (rowO B y d x).length = d
  | 0, _ => rfl
  | d + 1, x => congrArg (· + 1) (rowO_len B y d (x + 1))
theorem outO_len (B : Bd) : ∀ (d : Nat) (y : Int), 0 ≤ y → (outO B d y).length + (if y = 0 ∧ 0 < d then 1 else 0) = d * B.1.toNat + d
  | 0, y, _ => by simp [outO]
  | d + 1, y, hy => by
    have ih := outO_len B d (y + 1) (by omega)
    rw [if_neg (by omega)] at ih
    unfold outO
    rw [List.length_append, List.length_append, rowO_len, Nat.succ_mul]
    by_cases h : 0 < y
    · rw [if_pos h, if_neg (by omega)]
      simp only [List.length_cons, List.length_nil]
      omega
    · rw [if_neg h, if_pos (by omega)]
      simp only [List.length_nil]
      omega
def aOut (B : Bd) : List Int := outO B B.2.1.toNat 0
theorem aOut_len {B : Bd} (h : B.1 ≤ 8) (h' : B.2.1 ≤ 8) : (aOut B).length ≤ 71 := by
  have e := outO_len B B.2.1.toNat 0 (by decide)
  have m : B.2.1.toNat * B.1.toNat ≤ 8 * 8 := Nat.mul_le_mul (by omega) (by omega)
  unfold aOut
  by_cases q : 0 < B.2.1.toNat
  · rw [if_pos ⟨rfl, q⟩] at e
    omega
  · have : B.2.1.toNat = 0 := by omega
    rw [this] at e ⊢
    simp [outO]
def FoT (t : Nat) (u u' : PM) : Prop := ∀ (a : Nat) (k : Int), ¬ (a = t ∧ k = 11) → a ≠ t + 247 → u' a k = u a k
def FoM (t : Nat) (u u' : PM) : Prop := ∀ (a : Nat) (k : Int), ¬ (a = t ∧ (k = 7 ∨ k = 14)) → a ≠ t + 8 → u' a k = u a k
theorem bCell_bd {B : Bd} (hc : cOk B) (h1 : B.1 ≤ 8) (h2 : B.2.1 ≤ 8) (x y : Int) : -3 ≤ bCell B x y ∧ bCell B x y ≤ 98 := by
  unfold bCell
  by_cases h : bIn B x y
  · rw [if_pos h]
    obtain ⟨⟨a1, a2⟩, a3, a4⟩ := h
    have := hc (8 * y + x) (by omega) (by omega)
    omega
  · rw [if_neg h]
    omega
section
variable {g : PG} {u : PM} {t : Nat}
theorem FoT.b {u' : PM} (h : FoT t u u') : absT u' (t + 26) = absT u (t + 26) := absT_eq fun a k h1 h2 => h a k (by omega) (by omega)
theorem FoM.s {u' : PM} (h : FoM t u u') : u' (t + 1) = u (t + 1) := funext fun k => h _ k (by omega) (by omega)
end
