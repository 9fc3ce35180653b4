/-! ===== loops ===== -/
def itr {α : Type} (f : α → Int → α) : Nat → α → α
  | 0, s => s
  | n + 1, s => f (itr f n s) (n : Int)
def sumI (f : Int → Int) : Nat → Int
  | 0 => 0
  | n + 1 => sumI f n + f (n : Int)
theorem itr_sum (f : Int → Int) (n : Nat) (s : Int) : itr (fun a i => a + f i) n s = s + sumI f n := by
  induction n with
  | zero => simp [itr, sumI]
  | succ n ih => simp only [itr, sumI, ih]; omega
theorem sumI_congr {f f' : Int → Int} {n : Nat} (h : ∀ i : Int, 0 ≤ i → i < n → f i = f' i) : sumI f n = sumI f' n := by
  induction n with
  | zero => rfl
  | succ n ih =>
    simp only [sumI]
    rw [ih fun i h0 h1 => h i h0 (by omega), h n (by omega) (by omega)]
theorem sumI_bd {f : Int → Int} {n : Nat} {b : Int} (h : ∀ i : Int, 0 ≤ i → i < n → 0 ≤ f i ∧ f i ≤ b) : 0 ≤ sumI f n ∧ sumI f n ≤ n * b := by
  induction n with
  | zero => simp [sumI]
  | succ n ih =>
    have a := ih fun i h0 h1 => h i h0 (by omega)
    have c := h n (by omega) (by omega)
    simp only [sumI]
    constructor
    · omega
    · rw [Int.natCast_succ, Int.add_mul]
      omega
theorem sumI_add {f f' : Int → Int} {n : Nat} : sumI (fun i => f i + f' i) n = sumI f n + sumI f' n := by
  induction n with
  | zero => rfl
  | succ n ih => simp only [sumI, ih]; omega
/-- a loop that goes up to n, with an invariant -/
theorem loop_up {α : Type} {F : α → Int → Option PO} (I : α → Int → Prop) (f : α → Int → α) {n : Int} (hn : 0 ≤ n) (s : α) (h0 : I s 0) (hs : ∀ (s : α) (i : Int), 0 ≤ i → i < n → I s i → F s i = F (f s i) (i + 1) ∧ I (f s i) (i + 1)) : F s 0 = F (itr f n.toNat s) n ∧ I (itr f n.toNat s) n := by
  have key : ∀ k : Nat, (k : Int) ≤ n → F s 0 = F (itr f k s) (k : Int) ∧ I (itr f k s) (k : Int) := by
    intro k
    induction k with
    | zero => intro _; exact ⟨rfl, h0⟩
    | succ k ih =>
      intro hk
      obtain ⟨a, b⟩ := ih (by omega)
      obtain ⟨c, d⟩ := hs (itr f k s) k (by omega) (by omega) b
      exact ⟨a.trans c, d⟩
  have := key n.toNat (by omega)
  rw [show ((n.toNat : Nat) : Int) = n by omega] at this
  exact this
/-- a loop that sums up numbers from 0 to b -/
theorem loop_sum {F : Int → Int → Option PO} (f : Int → Int) {n b c : Int} (hn : 0 ≤ n) (hb : 0 ≤ b) (hf : ∀ i : Int, 0 ≤ i → i < n → 0 ≤ f i ∧ f i ≤ b) (hs : ∀ a i : Int, 0 ≤ i → i < n → c ≤ a → a ≤ c + n * b → F a i = F (a + f i) (i + 1)) : F c 0 = F (c + sumI f n.toNat) n := by
  have h := loop_up (F := F) (fun a i => c ≤ a ∧ a ≤ c + i * b) (fun a i => a + f i) hn c ⟨by omega, by omega⟩ (fun a i h0 h1 hI => by
    have hm : i * b ≤ n * b := Int.mul_le_mul_of_nonneg_right (by omega) hb
    have h2 := hf i h0 h1
    refine ⟨hs a i h0 h1 hI.1 (by omega), by omega, ?_⟩
    rw [Int.add_mul]
    omega)
  rw [itr_sum] at h
  exact h.1
/-- a loop that looks for a place -/
theorem loop_find {F : Int → Option PO} (P : Int → Prop) [DecidablePred P] {n : Int} {a : Option PO} (hn : 0 ≤ n) (h1 : ∀ i : Int, 0 ≤ i → i < n → P i → F i = a) (h2 : ∀ i : Int, 0 ≤ i → i < n → ¬ P i → F i = F (i + 1)) :
    ((∃ i : Int, (0 ≤ i ∧ i < n) ∧ P i) → F 0 = a) ∧ ((∀ i : Int, 0 ≤ i → i < n → ¬ P i) → F 0 = F n) := by
  have key : ∀ k : Nat, (k : Int) ≤ n → (∀ i : Int, 0 ≤ i → i < k → ¬ P i) → F 0 = F (k : Int) := by
    intro k
    induction k with
    | zero => intro _ _; rfl
    | succ k ih =>
      intro hk hp
      rw [ih (by omega) fun i h0 h1 => hp i h0 (by omega), h2 k (by omega) (by omega) (hp k (by omega) (by omega))]
      rfl
  constructor
  · rintro ⟨i, ⟨h0, h3⟩, hp⟩
    obtain ⟨k, hk, hmin⟩ := pk_least (fun k : Nat => (k : Int) < n ∧ P (k : Int)) ⟨i.toNat, by omega, by rw [show ((i.toNat : Nat) : Int) = i by omega]; exact hp⟩
    rw [key k (by omega) fun j h0 h1 hj => hmin j.toNat (by omega) ⟨by omega, by rw [show ((j.toNat : Nat) : Int) = j by omega]; exact hj⟩]
    exact h1 k (by omega) hk.1 hk.2
  · intro hp
    have := key n.toNat (by omega) fun i h0 h1 => hp i h0 (by omega)
    rw [show ((n.toNat : Nat) : Int) = n by omega] at this
    exact this
