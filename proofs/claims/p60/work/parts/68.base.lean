/-! ===== words for contracts in the plain machine ===== -/
theorem cI_some (x : Int) (g : PG) (u : PM) (k : Int → PG → PM → Option PO) (h : Nat → PG → PM → Option PO) : cI (some (0, vI x, g, u)) k h = k x g u := rfl
theorem cI_exc (i : Nat) (v : PV) (g : PG) (u : PM) (k : Int → PG → PM → Option PO) (h : Nat → PG → PM → Option PO) : cI (some (i + 1, v, g, u)) k h = h i g u := rfl
theorem cV_some (g : PG) (u : PM) (k : PG → PM → Option PO) (h : Nat → PG → PM → Option PO) : cV (some (0, vN, g, u)) k h = k g u := rfl
theorem cV_exc (i : Nat) (v : PV) (g : PG) (u : PM) (k : PG → PM → Option PO) (h : Nat → PG → PM → Option PO) : cV (some (i + 1, v, g, u)) k h = h i g u := rfl
theorem cR_some (a : Nat) (g : PG) (u : PM) (k : Nat → PG → PM → Option PO) : cR (some (0, vA a, g, u)) k = k a g u := rfl
theorem cD_some (a : Nat) (g : PG) (u : PM) (k : Nat → PG → PM → Option PO) : cD (some (0, vD a, g, u)) k = k a g u := rfl
theorem cF_some (a : Nat) (g : PG) (u : PM) (k : Nat → PG → PM → Option PO) : cF (some (0, vF a, g, u)) k = k a g u := rfl
theorem pTx_some (tx : List Nat) (K : List Nat → Option PO) : pTx (some tx) K = K tx := rfl
theorem pLen_some (n : Nat) (K : Nat → Option PO) : pLen (2, 0, n) K = K n := rfl
theorem pO_eq (c x : Nat) : pO (1, c, x) c = true := by simp [pO]
theorem pR_eq {t n : Nat} {j : Int} (h0 : 0 ≤ j) (h1 : j < n) : pR (2, t, n) t j = true := by simp [pR, h0, h1]
theorem pCp_eq {t m0 m1 : Nat} {k dp sp : Int} (ht : t < 2) (h1 : 0 ≤ k) (h2 : 0 ≤ dp) (h3 : 0 ≤ sp) (h4 : sp + k ≤ m0) (h5 : dp + k ≤ m1) : pCp (2, t, m0) (2, t, m1) k dp sp = true := by
  have hb : Nat.blt t 2 = true := Nat.ble_eq_true_of_le ht
  simp [pCp, hb, h1, h2, h3, h4, h5]
theorem b01_0 : b01 0 = true := rfl
theorem b01_1 : b01 1 = true := rfl
/-- a boolean as a number -/
def bI (p : Prop) [Decidable p] : Int := if p then 1 else 0
theorem b01_bI (p : Prop) [Decidable p] : b01 (bI p) = true := by unfold bI; split <;> rfl
theorem bI_eq0 (p : Prop) [Decidable p] : bI p = 0 ↔ ¬ p := by
  unfold bI
  split
  · next h => exact ⟨fun q => absurd q (by decide), fun q => absurd h q⟩
  · next h => exact ⟨fun _ => h, fun _ => rfl⟩
theorem bI_t {p : Prop} [Decidable p] (h : p) : bI p = 1 := if_pos h
theorem bI_f {p : Prop} [Decidable p] (h : ¬ p) : bI p = 0 := if_neg h
theorem bI_congr {p q : Prop} [Decidable p] [Decidable q] (h : p ↔ q) : bI p = bI q := by
  unfold bI
  by_cases hp : p
  · rw [if_pos hp, if_pos (h.mp hp)]
  · rw [if_neg hp, if_neg fun x => hp (h.mpr x)]
/-- the cell at a is of kind k -/
def KA (g : PG) (a : Nat) (k : Nat × Nat × Nat) : Prop := pW a = true ∧ pK g a = k
theorem pK_lt {g : PG} {a : Nat} (h : a < g.1) (h2 : a < 100000) : pK g a = pKind a := by
  unfold pK
  rw [show Nat.blt a 100000 = true from Nat.ble_eq_true_of_le h2, show Nat.blt a g.1 = true from Nat.ble_eq_true_of_le h]
  rfl
theorem KA_of {g : PG} {a : Nat} {k : Nat × Nat × Nat} (h : a < g.1) (h2 : a < 262) (hk : pKind a = k) : KA g a k := ⟨Nat.ble_eq_true_of_le (by omega), (pK_lt h (by omega)).trans hk⟩
/-- the addresses of the States -/
def pSts : List Nat := [3, 27, 44, 63, 80, 97, 114, 131, 148, 165, 182, 200, 217]
def kTk (g : PG) (t : Nat) : Prop := KA g t (1, 9, 0) ∧ KA g (t + 1) (2, 0, 64) ∧ KA g (t + 2) (2, 1, 128)
def kPi (g : PG) (t : Nat) : Prop := KA g t (1, 4, 0) ∧ KA g (t + 1) (2, 0, 32) ∧ KA g (t + 2) (2, 0, 32) ∧ KA g (t + 3) (2, 0, 32) ∧ KA g (t + 4) (2, 0, 32) ∧ KA g (t + 5) (2, 0, 32) ∧ KA g (t + 6) (2, 0, 32)
def kPl (g : PG) (t : Nat) : Prop := KA g t (1, 5, 0) ∧ KA g (t + 1) (2, 0, 6) ∧ KA g (t + 2) (2, 0, 5)
def kFp (g : PG) (t : Nat) : Prop := KA g t (1, 2, 0) ∧ KA g (t + 1) (2, 0, 4) ∧ KA g (t + 2) (2, 0, 4) ∧ KA g (t + 3) (2, 0, 4) ∧ KA g (t + 4) (2, 0, 4) ∧ KA g (t + 5) (2, 0, 4)
def kSt (g : PG) (t : Nat) : Prop := KA g t (1, 8, 0) ∧ kTk g (t + 1) ∧ kPi g (t + 4) ∧ kPl g (t + 11) ∧ kPl g (t + 14)
theorem kSt_of {g : PG} {b : Nat} (hg : 249 ≤ g.1) (hb : b ∈ pSts) : kSt g b := by
  have key : ∀ k : Nat × Nat × Nat, ∀ a, a < 249 → pKind a = k → KA g a k := fun k a h1 h2 => KA_of (by omega) (by omega) h2
  simp only [pSts, List.mem_cons, List.not_mem_nil, or_false] at hb
  rcases hb with rfl | rfl | rfl | rfl | rfl | rfl | rfl | rfl | rfl | rfl | rfl | rfl | rfl <;>
    exact ⟨key _ _ (by decide) rfl, ⟨key _ _ (by decide) rfl, key _ _ (by decide) rfl, key _ _ (by decide) rfl⟩, ⟨key _ _ (by decide) rfl, key _ _ (by decide) rfl, key _ _ (by decide) rfl, key _ _ (by decide) rfl, key _ _ (by decide) rfl, key _ _ (by decide) rfl, key _ _ (by decide) rfl⟩, ⟨key _ _ (by decide) rfl, key _ _ (by decide) rfl, key _ _ (by decide) rfl⟩, ⟨key _ _ (by decide) rfl, key _ _ (by decide) rfl, key _ _ (by decide) rfl⟩⟩
theorem kFp_of {g : PG} {f : Nat} (hg : 249 ≤ g.1) (hf : f = 20 ∨ f = 235) : kFp g f := by
  have key : ∀ k : Nat × Nat × Nat, ∀ a, a < 249 → pKind a = k → KA g a k := fun k a h1 h2 => KA_of (by omega) (by omega) h2
  rcases hf with rfl | rfl <;> exact ⟨key _ _ (by decide) rfl, key _ _ (by decide) rfl, key _ _ (by decide) rfl, key _ _ (by decide) rfl, key _ _ (by decide) rfl, key _ _ (by decide) rfl⟩
/-- guards: 'bif pW t && pO (pK g t) c' and the like -/
theorem gd_O {g : PG} {t c x : Nat} {k : Option PO} (h : KA g t (1, c, x)) : (bif pW t && pO (pK g t) c then k else none) = k := by
  rw [h.1, h.2, pO_eq]
  rfl
theorem gd_R {g : PG} {t n : Nat} {j : Int} {k : Option PO} (h : KA g t (2, 0, n)) (h0 : 0 ≤ j) (h1 : j < n) : (bif pR (pK g t) 0 j then k else none) = k := by
  rw [h.2, pR_eq h0 h1]
  rfl
theorem gd_W {g : PG} {t n ty : Nat} {j : Int} {k : Option PO} (h : KA g t (2, ty, n)) (h0 : 0 ≤ j) (h1 : j < n) : (bif pW t && pR (pK g t) ty j then k else none) = k := by
  rw [h.1, h.2, pR_eq h0 h1]
  rfl
theorem gd_C {g : PG} {o q t n0 n1 : Nat} {j dp sp : Int} {k : Option PO} (h : KA g o (2, t, n0)) (h' : KA g q (2, t, n1)) (ht : t < 2) (h1 : 0 ≤ j) (h2 : 0 ≤ dp) (h3 : 0 ≤ sp) (h4 : sp + j ≤ n0) (h5 : dp + j ≤ n1) : (bif (pW q && pW o) && pCp (pK g o) (pK g q) j dp sp then k else none) = k := by
  rw [h.1, h'.1, h.2, h'.2, pCp_eq ht h1 h2 h3 h4 h5]
  rfl
theorem up_s (u : PM) (o : Nat) (j v : Int) : up u o j v o j = v := if_pos ⟨rfl, rfl⟩
theorem up_o {u : PM} {o a : Nat} {j v k : Int} (h : a ≠ o) : up u o j v a k = u a k := if_neg fun q => h q.1
theorem up_j {u : PM} {o a : Nat} {j v k : Int} (h : k ≠ j) : up u o j v a k = u a k := if_neg fun q => h q.2
