/-! ===== the reference's answers about regions ===== -/
def isNum (B : Bd) (v : Int) : Prop := ∃ f, RegOf B f ∧ v = rNum B f
def isSz (B : Bd) (k v : Int) : Prop := ∃ f, RegOf B f ∧ v = if eC B k then rSz B f k else 0
def isLrg (B : Bd) (v : Int) : Prop := ∃ f, RegOf B f ∧ 0 ≤ v ∧ (∀ k, eC B k → rSz B f k ≤ v) ∧ (v = 0 ∨ ∃ k, eC B k ∧ rSz B f k = v)
theorem isNum_u {B : Bd} {v v' : Int} (h : isNum B v) (h' : isNum B v') : v = v' := by
  obtain ⟨f, r, e⟩ := h
  obtain ⟨f', r', e'⟩ := h'
  rw [e, e', rNum_uniq r r']
theorem isSz_u {B : Bd} {k v v' : Int} (h : isSz B k v) (h' : isSz B k v') : v = v' := by
  obtain ⟨f, r, e⟩ := h
  obtain ⟨f', r', e'⟩ := h'
  rw [e, e']
  by_cases q : eC B k
  · rw [if_pos q, if_pos q, rSz_uniq r r' q]
  · rw [if_neg q, if_neg q]
theorem isLrg_le {B : Bd} {v v' : Int} (h : isLrg B v) (h' : isLrg B v') : v ≤ v' := by
  obtain ⟨f, r, _, _, e⟩ := h
  obtain ⟨f', r', z, a, _⟩ := h'
  rcases e with e | ⟨k, hk, e⟩
  · omega
  · have := a k hk
    rw [rSz_uniq r' r hk, e] at this
    exact this
theorem isLrg_u {B : Bd} {v v' : Int} (h : isLrg B v) (h' : isLrg B v') : v = v' := Int.le_antisymm (isLrg_le h h') (isLrg_le h' h)
section
variable {g : PG} {u : PM} {t : Nat} {x y : Int}
theorem F11q {u' : PM} (h : ∀ (a : Nat) (k : Int), a ≠ t + 11 → u' a k = u a k) : FqM t u u' := fun a k _ _ _ _ h5 _ => h a k h5
theorem FqM.tr {v x : PM} (h : FqM t u v) (h' : FqM t v x) : FqM t u x := fun a k h1 h2 h3 h4 h5 h6 => (h' a k h1 h2 h3 h4 h5 h6).trans (h a k h1 h2 h3 h4 h5 h6)
theorem FqM7 (u : PM) (t : Nat) (v : Int) : FqM t u (up u t 7 v) := fun a k n1 _ _ _ _ _ => up_n (by omega)
end
