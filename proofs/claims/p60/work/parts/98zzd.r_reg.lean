/-! ===== the reference's regions ===== -/
def RJ (B : Bd) (f : Int → Int) : Prop := (∀ k, eC B k → eC B (f k) ∧ f k ≤ k ∧ cn B k (f k)) ∧ ∀ k : Int, 0 ≤ k → k < 64 → 0 ≤ f k
def setJ (f : Int → Int) (a b : Int) : Int → Int := fun k => if k = b then min2 (f a) (f b) else if k = a then min2 (f a) (f b) else f k
theorem min2_or (x y : Int) : (min2 x y = x ∧ x ≤ y) ∨ (min2 x y = y ∧ y < x) := by
  unfold min2
  split <;> omega
theorem RJ_set {B : Bd} (hB : bOk B) {f : Int → Int} {a b : Int} (h : RJ B f) (hab : adj B a b) : RJ B (setJ f a b) ∧ (f a ≠ f b → sumI (setJ f a b) 64 < sumI f 64) ∧ (f a = f b → ∀ k, setJ f a b k = f k) := by
  obtain ⟨h1, h2⟩ := h
  have ha := h1 a hab.1
  have hb := h1 b hab.2.1
  have hc := cn_adj hab
  have hlt : a < b := by
    obtain ⟨-, -, q⟩ := hab
    omega
  have hm : eC B (min2 (f a) (f b)) ∧ cn B a (min2 (f a) (f b)) := by
    rcases min2_or (f a) (f b) with ⟨e, -⟩ | ⟨e, -⟩
    · rw [e]; exact ⟨ha.1, ha.2.2⟩
    · rw [e]; exact ⟨hb.1, cn_trans hc hb.2.2⟩
  have hle : min2 (f a) (f b) ≤ f a ∧ min2 (f a) (f b) ≤ f b := by
    rcases min2_or (f a) (f b) with ⟨e, l⟩ | ⟨e, l⟩ <;> omega
  have ple : ∀ k, setJ f a b k ≤ f k := by
    intro k
    unfold setJ
    by_cases e : k = b
    · rw [if_pos e, e]; exact hle.2
    · rw [if_neg e]
      by_cases e2 : k = a
      · rw [if_pos e2, e2]; exact hle.1
      · rw [if_neg e2]; exact Int.le_refl _
  have nn : ∀ k, eC B k → 0 ≤ k := fun k hk => (eC_bd hB hk).1.1
  refine ⟨⟨fun k hk => ?_, fun k k0 k1 => ?_⟩, fun hne => ?_, fun he k => ?_⟩
  · unfold setJ
    by_cases e : k = b
    · rw [if_pos e, e]
      exact ⟨hm.1, by omega, cn_trans (cn_symm hc) hm.2⟩
    · rw [if_neg e]
      by_cases e2 : k = a
      · rw [if_pos e2, e2]
        exact ⟨hm.1, by omega, hm.2⟩
      · rw [if_neg e2]
        exact h1 k hk
  · unfold setJ
    by_cases e : k = b
    · rw [if_pos e]; exact nn _ hm.1
    · rw [if_neg e]
      by_cases e2 : k = a
      · rw [if_pos e2]; exact nn _ hm.1
      · rw [if_neg e2]; exact h2 k k0 k1
  · have a0 := nn a hab.1
    have b0 := nn b hab.2.1
    have b63 := (eC_bd hB hab.2.1).1
    refine sumI_lt (fun i _ _ => ple i) ?_
    rcases min2_or (f a) (f b) with ⟨e, l⟩ | ⟨e, l⟩
    · refine ⟨b, by omega, ?_⟩
      unfold setJ
      rw [if_pos rfl]
      omega
    · refine ⟨a, by omega, ?_⟩
      unfold setJ
      rw [if_neg (by omega), if_pos rfl]
      omega
  · unfold setJ
    by_cases e : k = b
    · rw [if_pos e, e, ← he]
      unfold min2
      split <;> rfl
    · rw [if_neg e]
      by_cases e2 : k = a
      · rw [if_pos e2, e2, ← he]
        unfold min2
        split <;> rfl
      · rw [if_neg e2]
def frK (B : Bd) (f0 : Int → Int) (p c : Int) (f : Int → Int) : Prop := RJ B f ∧ ((c = 0 ∧ (∀ k, f k = f0 k) ∧ ∀ a b, adj B a b → a < p → f0 a = f0 b) ∨ (c = 1 ∧ sumI f 64 < sumI f0 64))
/-- what joins did -/
def jnK (B : Bd) (a b : Int) (f f' : Int → Int) (c : Int) : Prop := RJ B f' ∧ ((c = 0 ∧ (∀ k, f' k = f k) ∧ (adj B a b → f a = f b)) ∨ (c = 1 ∧ sumI f' 64 < sumI f 64))
section
variable {g : PG} {u : PM} {t : Nat} {x y : Int}
theorem adj_r {B : Bd} (h0 : 0 ≤ x) (h1 : x < 8) (hB : B.1 ≤ 8) : adj B (8 * y + x) (8 * y + (x + 1)) ↔ bCell B x y = -1 ∧ bCell B (x + 1) y = -1 ∧ bStrap B x y 0 = 0 := by
  have i1 := in8 (y := y) h0 h1
  unfold adj
  rw [eC_xy h0 h1, i1.1, i1.2]
  by_cases q : x < 7
  · rw [eC_xy (x := x + 1) (by omega) (by omega)]
    constructor
    · rintro ⟨a1, a2, ⟨a3, a4, a5⟩ | ⟨a3, a4⟩⟩
      · exact ⟨a1, a2, a5⟩
      · omega
    · rintro ⟨a1, a2, a3⟩
      exact ⟨a1, a2, Or.inl ⟨by omega, q, a3⟩⟩
  · constructor
    · rintro ⟨a1, a2, ⟨a3, a4, a5⟩ | ⟨a3, a4⟩⟩
      · omega
      · omega
    · rintro ⟨a1, a2, a3⟩
      unfold bCell at a2
      rw [if_neg (by omega)] at a2
      omega
theorem adj_b {B : Bd} (h0 : 0 ≤ x) (h1 : x < 8) : adj B (8 * y + x) (8 * (y + 1) + x) ↔ bCell B x y = -1 ∧ bCell B x (y + 1) = -1 ∧ bStrap B x y 1 = 0 := by
  have i1 := in8 (y := y) h0 h1
  unfold adj
  rw [eC_xy h0 h1, i1.1, i1.2, eC_xy h0 h1]
  constructor
  · rintro ⟨a1, a2, ⟨a3, a4, a5⟩ | ⟨a3, a4⟩⟩
    · omega
    · exact ⟨a1, a2, a4⟩
  · rintro ⟨a1, a2, a3⟩
    exact ⟨a1, a2, Or.inr ⟨by omega, a3⟩⟩
end
