/-! ===== coverage, mean region ===== -/
theorem n64_ok : ∀ a : Nat, a < 65 → ∀ b : Nat, b < 65 → 0 < b → n64 (FP.ddiv (UInt64.ofNat (i2d2 a)) (UInt64.ofNat (i2d2 b))) = true := by decide +kernel
theorem n32_ok : ∀ a : Nat, a < 65 → ∀ b : Nat, b < 65 → 0 < b → n32 (FP.fdiv (UInt32.ofNat (i2f2 a)) (UInt32.ofNat (i2f2 b))) = true := by decide +kernel
theorem n64_i {a b : Int} (h0 : 0 ≤ a) (h1 : a ≤ 64) (h2 : 0 < b) (h3 : b ≤ 64) : n64 (FP.ddiv (UInt64.ofNat (i2d2 a)) (UInt64.ofNat (i2d2 b))) = true := by
  have := n64_ok a.toNat (by omega) b.toNat (by omega) (by omega)
  rw [show ((a.toNat : Nat) : Int) = a by omega, show ((b.toNat : Nat) : Int) = b by omega] at this
  exact this
theorem n32_i {a b : Int} (h0 : 0 ≤ a) (h1 : a ≤ 64) (h2 : 0 < b) (h3 : b ≤ 64) : n32 (FP.fdiv (UInt32.ofNat (i2f2 a)) (UInt32.ofNat (i2f2 b))) = true := by
  have := n32_ok a.toNat (by omega) b.toNat (by omega) (by omega)
  rw [show ((a.toNat : Nat) : Int) = a by omega, show ((b.toNat : Nat) : Int) = b by omega] at this
  exact this
/-- the bits of the answers -/
def aCov (B : Bd) : Nat := if bCov B + bCnt B (-1) = 0 then FP.dconst0.toNat else ddiv2 (i2d2 (bCov B)) (i2d2 (bCov B + bCnt B (-1)))
def aMean (B : Bd) (n : Int) : Nat := if n = 0 then FP.fconst0.toNat else fdiv2 (i2f2 (bCnt B (-1))) (i2f2 n)
section
variable {g : PG} {u : PM} {t : Nat}
end
