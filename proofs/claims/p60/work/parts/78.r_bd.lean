/-! ===== the reference: its board, where pieces fit ===== -/
def enc (v : Int) : Int := if v = 0 then -1 else if v = 1 then -2 else v - 2
def bdM (m : Int → Int) : Bd := (m 0, m 1, cl 64 (fun j => enc (m (33 + j))), cl 128 (fun k => m (97 + 64 * (k % 2) + k / 2)))
def mOk (m : Int → Int) : Prop := (0 ≤ m 0 ∧ m 0 ≤ 8) ∧ (0 ≤ m 1 ∧ m 1 ≤ 8) ∧ (∀ j : Int, 0 ≤ j → j < 64 → 0 ≤ m (33 + j) ∧ m (33 + j) ≤ 100) ∧ ∀ j : Int, 0 ≤ j → j < 128 → m (97 + j) = 0 ∨ m (97 + j) = 1
def kTM (g : PG) (t : Nat) : Prop := KA g t (1, 11, 0) ∧ KA g (t + 1) (2, 0, 417) ∧ KA g (t + 9) (2, 0, 4) ∧ KA g (t + 10) (2, 0, 4)
/-- what the reference's questions may change -/
def Fm (t : Nat) (u u' : PM) : Prop := ∀ (a : Nat) (k : Int), ¬ (a = t ∧ k = 17) → a ≠ t + 9 → a ≠ t + 10 → u' a k = u a k
theorem Fm.rfl' {t : Nat} {u : PM} : Fm t u u := fun _ _ _ _ _ => rfl
theorem Fm.tr {t : Nat} {u v x : PM} (h : Fm t u v) (h' : Fm t v x) : Fm t u x := fun a k h1 h2 h3 => (h' a k h1 h2 h3).trans (h a k h1 h2 h3)
theorem Fm.s {t : Nat} {u v : PM} (h : Fm t u v) : v (t + 1) = u (t + 1) := funext fun k => h _ k (by omega) (by omega) (by omega)
theorem bdM_cell {m : Int → Int} (ho : mOk m) {x y : Int} (h : bIn (bdM m) x y) : bCell (bdM m) x y = enc (m (33 + (8 * y + x))) := by
  obtain ⟨h1, h2, -⟩ := ho
  unfold bCell
  rw [if_pos h]
  obtain ⟨⟨q1, q2⟩, q3, q4⟩ := h
  have q2' : x < m 0 := q2
  have q4' : y < m 1 := q4
  show cl 64 (fun j => enc (m (33 + j))) (8 * y + x) = _
  rw [cl_in (by omega) (by omega)]
theorem bdM_strap {m : Int → Int} (ho : mOk m) {x y s : Int} (h : bIn (bdM m) x y) (h0 : 0 ≤ s) (hs : s < 2) : bStrap (bdM m) x y s = m (97 + (64 * s + (8 * y + x))) := by
  obtain ⟨h1, h2, -⟩ := ho
  unfold bStrap
  rw [if_pos ⟨h, h0, hs⟩]
  obtain ⟨⟨q1, q2⟩, q3, q4⟩ := h
  have q2' : x < m 0 := q2
  have q4' : y < m 1 := q4
  show cl 128 (fun k => m (97 + 64 * (k % 2) + k / 2)) (2 * (8 * y + x) + s) = _
  rw [cl_in (by omega) (by omega)]
  exact congrArg m (by omega)
theorem enc_eq {v : Int} (h : 0 ≤ v) : (enc v = -1 ↔ v = 0) ∧ (enc v = -2 ↔ v = 1) ∧ (0 ≤ enc v ↔ 2 ≤ v) ∧ enc v ≠ -3 := by
  unfold enc
  split
  · omega
  · split <;> omega
def SpT (u : PM) (t : Nat) (s r x y : Int) : Prop := u t 17 = sz s ∧ ∀ i : Int, 0 ≤ i → i < sz s → u (t + 9) i = pX s r x i ∧ u (t + 10) i = pY s r y i
theorem szdxy : ∀ s : Nat, s < 5 → (if (s : Int) = 0 then (2 : Int) else if (s : Int) < 3 then 3 else 4) = sz s ∧ ∀ i : Nat, i < 4 → (i : Int) < sz s → (if (s : Int) < 1 ∨ 4 < (s : Int) then (i : Int) else if (s : Int) = 1 then rem2 i 2 else if (s : Int) = 2 then i else if (s : Int) = 3 then rem2 i 2 else if (i : Int) = 3 then 0 else i) = bR s i ∧ (if (s : Int) = 1 then div2 i 2 else if (s : Int) = 3 then div2 i 2 else if (s : Int) = 4 then if (i : Int) = 3 then 1 else 0 else 0) = bD s i := by decide +kernel
section
variable {g : PG} {u : PM} {t : Nat} {s r x y : Int}
theorem bRD_bd (s i : Int) : (-2 ≤ bR s i ∧ bR s i ≤ 2) ∧ -2 ≤ bD s i ∧ bD s i ≤ 2 := by
  have a := tR_bd (4 * s + i).toNat
  have b := tD_bd (4 * s + i).toNat
  unfold bR bD
  omega
theorem bIn_bd {m : Int → Int} (ho : mOk m) (h : bIn (bdM m) x y) : (0 ≤ x ∧ x < 8) ∧ 0 ≤ y ∧ y < 8 := by
  obtain ⟨h1, h2, -⟩ := ho
  obtain ⟨⟨q1, q2⟩, q3, q4⟩ := h
  have q2' : x < m 0 := q2
  have q4' : y < m 1 := q4
  omega
theorem bIn_min {B : Bd} {x y x' y' : Int} (h : bIn B x y) (h' : bIn B x' y') : bIn B (min2 x x') (min2 y y') := by
  obtain ⟨⟨a1, a2⟩, a3, a4⟩ := h
  obtain ⟨⟨b1, b2⟩, b3, b4⟩ := h'
  unfold min2
  refine ⟨⟨?_, ?_⟩, ?_, ?_⟩ <;> split <;> omega
end
