/-! ===== the reference: dead cells ===== -/
section
variable {g : PG} {u : PM} {t : Nat} {s r x y : Int}
end
/-- the placement (s, r) at (a, b) fits and covers (x, y) -/
abbrev cvP (B : Bd) (s r a b x y : Int) : Prop := bMis B s r a b = 0 ∧ anyF (fun i => decide (pX s r a i = x ∧ pY s r b i = y)) (sz s).toNat 0 = true
section
variable {g : PG} {u : PM} {t : Nat} {s r x y : Int}
/-- some placement that fits covers (x, y) -/
def cvd (B : Bd) (x y : Int) : Prop := ∃ s r a b, (0 ≤ s ∧ s < 5) ∧ (0 ≤ r ∧ r < 4) ∧ bIn B a b ∧ cvP B s r a b x y
end
