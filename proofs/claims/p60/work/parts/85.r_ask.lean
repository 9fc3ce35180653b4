/-! ===== the reference's questions: code of what was thrown, answer ===== -/
def fC (a b c : Int) : Int := if a = 0 then if b = 0 then if c = 0 then 0 else 3 else 2 else 1
/-- what the reference's questions with a code may change -/
def Fq (t : Nat) (u u' : PM) : Prop := ∀ (a : Nat) (k : Int), ¬ (a = t ∧ (k = 7 ∨ k = 17)) → a ≠ t + 9 → a ≠ t + 10 → u' a k = u a k
theorem Fm.q {t : Nat} {u v : PM} (h : Fm t u v) : Fq t u v := fun a k h1 h2 h3 => h a k (by omega) h2 h3
theorem Fq.tr {t : Nat} {u v x : PM} (h : Fq t u v) (h' : Fq t v x) : Fq t u x := fun a k h1 h2 h3 => (h' a k h1 h2 h3).trans (h a k h1 h2 h3)
theorem Fm.c {t : Nat} {u v : PM} (h : Fm t u v) : v t 7 = u t 7 := h t 7 (by omega) (by omega) (by omega)
def AnM (g : PG) (u : PM) (t : Nat) (c : Option PO) (code v : Int) : Prop := ∃ u', c = some (0, vI v, g, u') ∧ u' t 7 = code ∧ Fq t u u'
section
variable {g : PG} {u : PM} {t : Nat} {s r x y : Int}
theorem Fm7 (u : PM) (t : Nat) (v : Int) : Fq t u (up u t 7 v) := fun a k h _ _ => up_n (by omega)
theorem up7s (u : PM) (t : Nat) (v : Int) : up u t 7 v (t + 1) = u (t + 1) := funext fun k => up_o (by omega)
/-- rows without empty cells -/
def bCmp (B : Bd) : Int := sumI (fun y => bI (bEmp B y = 0)) B.2.1.toNat
end
