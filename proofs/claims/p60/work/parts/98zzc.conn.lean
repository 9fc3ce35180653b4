/-! ===== sums; cells joined; regions ===== -/
theorem sumI_le {f f' : Int → Int} : ∀ {n : Nat}, (∀ i : Int, 0 ≤ i → i < n → f i ≤ f' i) → sumI f n ≤ sumI f' n
  | 0, _ => Int.le_refl _
  | n + 1, h => by
    have a := sumI_le (n := n) fun i h0 h1 => h i h0 (by omega)
    have b := h n (by omega) (by omega)
    simp only [sumI]
    omega
theorem sumI_lt {f f' : Int → Int} : ∀ {n : Nat}, (∀ i : Int, 0 ≤ i → i < n → f i ≤ f' i) → (∃ m : Int, (0 ≤ m ∧ m < n) ∧ f m < f' m) → sumI f n < sumI f' n
  | 0, _, h => by
    obtain ⟨m, h1, _⟩ := h
    omega
  | n + 1, h, h' => by
    have a := sumI_le (n := n) fun i h0 h1 => h i h0 (by omega)
    have b := h n (by omega) (by omega)
    obtain ⟨m, ⟨m0, m1⟩, hm⟩ := h'
    simp only [sumI]
    by_cases e : m = n
    · subst e
      omega
    · have := sumI_lt (n := n) (fun i h0 h1 => h i h0 (by omega)) ⟨m, ⟨m0, by omega⟩, hm⟩
      omega
theorem sumI_0 : ∀ n : Nat, sumI (fun _ => 0) n = 0
  | 0 => rfl
  | n + 1 => by
    simp only [sumI]
    rw [sumI_0 n]
    rfl
theorem sumI_single {v : Int → Int} {m : Int} : ∀ {n : Nat}, sumI (fun l => if l = m then v l else 0) n = if 0 ≤ m ∧ m < n then v m else 0
  | 0 => by
    rw [if_neg (by omega)]
    rfl
  | n + 1 => by
    simp only [sumI]
    rw [sumI_single]
    by_cases e : (n : Int) = m
    · rw [if_pos e, if_neg (by omega), if_pos (by omega), Int.zero_add, e]
    · rw [if_neg e, Int.add_zero]
      by_cases q : 0 ≤ m ∧ m < n
      · rw [if_pos q, if_pos (by omega)]
      · rw [if_neg q, if_neg (by omega)]
theorem sumI_swap {F : Int → Int → Int} {n : Nat} : ∀ m : Nat, sumI (fun k => sumI (fun l => F k l) n) m = sumI (fun l => sumI (fun k => F k l) m) n
  | 0 => by
    simp only [sumI]
    exact (sumI_0 n).symm
  | m + 1 => by
    simp only [sumI]
    rw [sumI_swap m, ← sumI_add]
theorem sumI_set {f f' : Int → Int} {m : Int} : ∀ {n : Nat}, 0 ≤ m → m < n → (∀ i : Int, 0 ≤ i → i < n → i ≠ m → f' i = f i) → sumI f' n = sumI f n - f m + f' m
  | 0, h0, h1, _ => by omega
  | n + 1, h0, h1, h => by
    simp only [sumI]
    by_cases e : (n : Int) = m
    · subst e
      rw [sumI_congr (f := f') (f' := f) fun i i0 i1 => h i i0 (by omega) (by omega)]
      omega
    · rw [sumI_set (n := n) h0 (by omega) fun i i0 i1 hi => h i i0 (by omega) hi, h n (by omega) (by omega) e]
      omega
/-- cell k, numbered 8 y + x, is empty; right of or below a lies b, no strap between -/
abbrev eC (B : Bd) (k : Int) : Prop := bCell B (k % 8) (k / 8) = -1
def adj (B : Bd) (a b : Int) : Prop := eC B a ∧ eC B b ∧ ((b = a + 1 ∧ a % 8 < 7 ∧ bStrap B (a % 8) (a / 8) 0 = 0) ∨ (b = a + 8 ∧ bStrap B (a % 8) (a / 8) 1 = 0))
/-- joined through a chain -/
def cn (B : Bd) (a b : Int) : Prop := ∀ P : Int → Prop, (∀ c d, adj B c d → (P c ↔ P d)) → (P a ↔ P b)
theorem cn_rfl {B : Bd} {a : Int} : cn B a a := fun _ _ => Iff.rfl
theorem cn_symm {B : Bd} {a b : Int} (h : cn B a b) : cn B b a := fun P hP => (h P hP).symm
theorem cn_trans {B : Bd} {a b c : Int} (h : cn B a b) (h' : cn B b c) : cn B a c := fun P hP => (h P hP).trans (h' P hP)
theorem cn_adj {B : Bd} {a b : Int} (h : adj B a b) : cn B a b := fun _ hP => hP a b h
theorem eC_bd {B : Bd} (hB : bOk B) {k : Int} (h : eC B k) : (0 ≤ k ∧ k < 64) ∧ bIn B (k % 8) (k / 8) := by
  have hin : bIn B (k % 8) (k / 8) := by
    by_cases q : bIn B (k % 8) (k / 8)
    · exact q
    · unfold eC bCell at h
      rw [if_neg q] at h
      omega
  have := hB.2.1
  refine ⟨?_, hin⟩
  obtain ⟨⟨a1, a2⟩, a3, a4⟩ := hin
  omega
theorem in8 {x y : Int} (h0 : 0 ≤ x) (h1 : x < 8) : (8 * y + x) % 8 = x ∧ (8 * y + x) / 8 = y := by omega
theorem eC_xy {B : Bd} {x y : Int} (h0 : 0 ≤ x) (h1 : x < 8) : eC B (8 * y + x) ↔ bCell B x y = -1 := by
  unfold eC
  rw [(in8 h0 h1).1, (in8 h0 h1).2]
/-- f gives each empty cell the least cell of its region -/
def RegOf (B : Bd) (f : Int → Int) : Prop := (∀ k, eC B k → eC B (f k) ∧ f k ≤ k ∧ cn B k (f k)) ∧ ∀ a b, adj B a b → f a = f b
theorem RegOf.of_cn {B : Bd} {f : Int → Int} (h : RegOf B f) {a b : Int} (hc : cn B a b) : f a = f b := by
  have := hc (fun c => f a = f c) fun c d hcd => by rw [h.2 c d hcd]
  exact this.mp rfl
theorem RegOf.cn_of {B : Bd} {f : Int → Int} (h : RegOf B f) {a b : Int} (ha : eC B a) (hb : eC B b) (e : f a = f b) : cn B a b := cn_trans (h.1 a ha).2.2 (by rw [e]; exact cn_symm (h.1 b hb).2.2)
theorem RegOf.uniq {B : Bd} {f f' : Int → Int} (h : RegOf B f) (h' : RegOf B f') {k : Int} (hk : eC B k) : f k = f' k := by
  have a := h.1 k hk
  have b := h'.1 k hk
  have e1 : f k = f (f' k) := h.of_cn b.2.2
  have e2 : f' k = f' (f k) := h'.of_cn a.2.2
  have l1 := (h.1 (f' k) b.1).2.1
  have l2 := (h'.1 (f k) a.1).2.1
  omega
theorem RegOf.idem {B : Bd} {f : Int → Int} (h : RegOf B f) {k : Int} (hk : eC B k) : f (f k) = f k := (h.of_cn (h.1 k hk).2.2).symm
/-- cells of the region of k; regions; the size of the largest -/
def rSz (B : Bd) (f : Int → Int) (k : Int) : Int := sumI (fun d => bI (eC B d ∧ f d = f k)) 64
def rNum (B : Bd) (f : Int → Int) : Int := sumI (fun k => bI (eC B k ∧ f k = k)) 64
theorem rSz_uniq {B : Bd} {f f' : Int → Int} (h : RegOf B f) (h' : RegOf B f') {k : Int} (hk : eC B k) : rSz B f k = rSz B f' k := sumI_congr fun d _ _ => bI_congr (by
  constructor
  · rintro ⟨e1, e2⟩
    exact ⟨e1, by rw [← h.uniq h' e1, ← h.uniq h' hk, e2]⟩
  · rintro ⟨e1, e2⟩
    exact ⟨e1, by rw [h.uniq h' e1, h.uniq h' hk, e2]⟩)
theorem rNum_uniq {B : Bd} {f f' : Int → Int} (h : RegOf B f) (h' : RegOf B f') : rNum B f = rNum B f' := sumI_congr fun d _ _ => bI_congr (by
  constructor
  · rintro ⟨e1, e2⟩
    exact ⟨e1, by rw [← h.uniq h' e1, e2]⟩
  · rintro ⟨e1, e2⟩
    exact ⟨e1, by rw [h.uniq h' e1, e2]⟩)
theorem rSz_bd (B : Bd) (f : Int → Int) (k : Int) : 0 ≤ rSz B f k ∧ rSz B f k ≤ 64 := by
  have := sumI_bd (f := fun d => bI (eC B d ∧ f d = f k)) (n := 64) (b := 1) fun i _ _ => bI_bd _
  unfold rSz
  omega
theorem rNum_bd (B : Bd) (f : Int → Int) : 0 ≤ rNum B f ∧ rNum B f ≤ 64 := by
  have := sumI_bd (f := fun k => bI (eC B k ∧ f k = k)) (n := 64) (b := 1) fun i _ _ => bI_bd _
  unfold rNum
  omega
/-- cells in the trunk, row by row, and by number -/
theorem sum_rows {B : Bd} (hB : bOk B) {h : Int → Int} (hz : ∀ k : Int, 0 ≤ k → k < 64 → ¬ bIn B (k % 8) (k / 8) → h k = 0) : sumI (fun y => sumI (fun x => h (8 * y + x)) B.1.toNat) B.2.1.toNat = sumI h 64 := by
  obtain ⟨⟨c0, c1⟩, ⟨r0, r1⟩, -⟩ := hB
  have row : ∀ y : Int, 0 ≤ y → y < B.2.1 → sumI (fun x => h (8 * y + x)) B.1.toNat = sumI (fun x => h (8 * y + x)) 8 := fun y y0 y1 => by
    obtain ⟨d, hd⟩ : ∃ d : Nat, 8 = B.1.toNat + d := ⟨8 - B.1.toNat, by omega⟩
    have hs := sumI_split (h := fun x => h (8 * y + x)) B.1.toNat d
    rw [← hd] at hs
    rw [hs, sumI_congr (n := d) (f := fun j => h (8 * y + ((B.1.toNat : Nat) + j))) (f' := fun _ => 0) (fun j j0 j1 => hz _ (by omega) (by omega) (by
      rw [(in8 (x := (B.1.toNat : Int) + j) (by omega) (by omega)).1]
      omega)), sumI_0, Int.add_zero]
  rw [sumI_congr fun y y0 y1 => row y y0 (by omega)]
  have all : ∀ n : Nat, sumI (fun y => sumI (fun x => h (8 * y + x)) 8) n = sumI h (8 * n) := by
    intro n
    induction n with
    | zero => rfl
    | succ n ih =>
      have hs := sumI_split (h := h) (8 * n) 8
      rw [show 8 * (n + 1) = 8 * n + 8 by omega, hs, ← ih]
      show sumI (fun y => sumI (fun x => h (8 * y + x)) 8) n + sumI (fun x => h (8 * (n : Int) + x)) 8 = _
      refine congrArg (_ + ·) (sumI_congr fun j _ _ => ?_)
      rw [show ((8 * n : Nat) : Int) = 8 * (n : Int) by omega]
  rw [all]
  obtain ⟨d, hd⟩ : ∃ d : Nat, 64 = 8 * B.2.1.toNat + d := ⟨64 - 8 * B.2.1.toNat, by omega⟩
  have hs := sumI_split (h := h) (8 * B.2.1.toNat) d
  rw [← hd] at hs
  rw [hs, sumI_congr (n := d) (f := fun j => h (((8 * B.2.1.toNat : Nat) : Int) + j)) (f' := fun _ => 0) (fun j j0 j1 => hz _ (by omega) (by omega) (by omega)), sumI_0, Int.add_zero]
