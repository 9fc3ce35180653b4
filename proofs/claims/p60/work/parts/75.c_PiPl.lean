/-! ===== states: pieces and players; copies ===== -/
/-- score, straps left, letters of the name, supplies, the name -/
abbrev PS : Type := Int × Int × Int × (Int → Int) × (Int → Int)
def plT (u : PM) (p : Nat) : PS := (u p 0, u p 1, u p 2, cl 5 (u (p + 2)), cl (u p 2) (u (p + 1)))
/-- all that a state holds -/
abbrev AS : Type := Bd × Int × (Nat → Int → Int) × PS × PS × Int × Int
abbrev AS.bd (A : AS) : Bd := A.1
abbrev AS.n (A : AS) : Int := A.2.1
abbrev AS.pc (A : AS) : Nat → Int → Int := A.2.2.1
abbrev AS.p0 (A : AS) : PS := A.2.2.2.1
abbrev AS.p1 (A : AS) : PS := A.2.2.2.2.1
abbrev AS.mv (A : AS) : Int := A.2.2.2.2.2.1
abbrev AS.ps (A : AS) : Int := A.2.2.2.2.2.2
def pcT (u : PM) (b : Nat) : Nat → Int → Int := fun i => if i < 6 then cl (u (b + 4) 0) (u (b + 5 + i)) else fun _ => 0
def absT (u : PM) (b : Nat) : AS := (bdT u (b + 1), u (b + 4) 0, pcT u b, plT u (b + 11), plT u (b + 14), u b 4, u b 5)
def bOk (B : Bd) : Prop := (0 ≤ B.1 ∧ B.1 ≤ 8) ∧ (0 ≤ B.2.1 ∧ B.2.1 ≤ 8) ∧ ∀ j : Int, 0 ≤ j → j < 128 → B.2.2.2 j = 0 ∨ B.2.2.2 j = 1
theorem tOk_of {u : PM} {t : Nat} (h : bOk (bdT u t)) : tOk u t := by
  obtain ⟨h1, h2, h3⟩ := h
  refine ⟨h1, h2, fun j j0 j1 => ?_⟩
  have := h3 j j0 j1
  change cl 128 (u (t + 2)) j = 0 ∨ cl 128 (u (t + 2)) j = 1 at this
  rwa [cl_in j0 j1] at this
/-- what copies of states stand on -/
def nOk (A : AS) : Prop := (0 ≤ A.n ∧ A.n ≤ 32) ∧ (0 ≤ A.p0.2.2.1 ∧ A.p0.2.2.1 ≤ 6) ∧ 0 ≤ A.p1.2.2.1 ∧ A.p1.2.2.1 ≤ 6
theorem cpy_o {u : PM} {o q a : Nat} {sp dp n k : Int} (h : a ≠ q) : cpy u o q sp dp n a k = u a k := if_neg fun x => h x.1
theorem cpy_q {u : PM} {o q : Nat} {n k : Int} (h0 : 0 ≤ k) (h1 : k < n) : cpy u o q 0 0 n q k = u o k := by
  unfold cpy
  rw [if_pos ⟨rfl, h0, by omega⟩, Int.zero_add, Int.sub_zero]
theorem gd_C0 {g : PG} {o q t : Nat} {n : Nat} {j : Int} {k : Option PO} (h : KA g o (2, t, n)) (h' : KA g q (2, t, n)) (ht : t < 2 ∧ 0 ≤ j ∧ j ≤ n) : (bif (pW q && pW o) && pCp (pK g o) (pK g q) j 0 0 then k else none) = k := gd_C h h' ht.1 ht.2.1 (by omega) (by omega) (by omega) (by omega)
theorem pcT_eq {u u' : PM} {b b' : Nat} (hn : u' (b' + 4) 0 = u (b + 4) 0) (h : ∀ i : Nat, i < 6 → ∀ k : Int, 0 ≤ k → k < u (b + 4) 0 → u' (b' + 5 + i) k = u (b + 5 + i) k) : pcT u' b' = pcT u b := by
  unfold pcT
  funext i
  by_cases hi : i < 6
  · rw [if_pos hi, if_pos hi, hn]
    exact cl_ext (h i hi)
  · rw [if_neg hi, if_neg hi]
theorem plT_eq {u u' : PM} {p p' : Nat} (h0 : u' p' 0 = u p 0) (h1 : u' p' 1 = u p 1) (h2 : u' p' 2 = u p 2) (h3 : ∀ k : Int, 0 ≤ k → k < 5 → u' (p' + 2) k = u (p + 2) k) (h4 : ∀ k : Int, 0 ≤ k → k < u p 2 → u' (p' + 1) k = u (p + 1) k) : plT u' p' = plT u p := by
  unfold plT
  rw [h0, h1, h2, cl_ext h3, cl_ext h4]
theorem absT_eq {u u' : PM} {b : Nat} (h : ∀ (a : Nat) (k : Int), b ≤ a → a ≤ b + 16 → u' a k = u a k) : absT u' b = absT u b := by
  unfold absT
  rw [bdT_eq (fun a k h0 h1 => h a k (by omega) (by omega)), h (b + 4) 0 (by omega) (by omega), h b 4 (by omega) (by omega), h b 5 (by omega) (by omega), pcT_eq (u := u) (b := b) (h _ _ (by omega) (by omega)) (fun i hi k _ _ => h _ _ (by omega) (by omega)),
    plT_eq (u := u) (p := b + 11) (h _ _ (by omega) (by omega)) (h _ _ (by omega) (by omega)) (h _ _ (by omega) (by omega)) (fun k _ _ => h _ _ (by omega) (by omega)) (fun k _ _ => h _ _ (by omega) (by omega)),
    plT_eq (u := u) (p := b + 14) (h _ _ (by omega) (by omega)) (h _ _ (by omega) (by omega)) (h _ _ (by omega) (by omega)) (fun k _ _ => h _ _ (by omega) (by omega)) (fun k _ _ => h _ _ (by omega) (by omega))]
section
variable {g : PG} {u : PM} {t p f : Nat}
theorem Tk_copyFrom (hk : kTk g t) (hp : kTk g p) (dj : t + 2 < p ∨ p + 2 < t) : ∃ u', call M_Tk_copyFrom [vA t, vA p] g u = some (0, vN, g, u') ∧ bdT u' t = bdT u p ∧ ∀ (a : Nat) (k : Int), ¬ (t ≤ a ∧ a ≤ t + 2) → u' a k = u a k := by
  rw [C_Tk_copyFrom]
  simp only [gd_O hk.1, gd_O hp.1]
  rw [gd_C0 hp.2.1 hk.2.1 (by omega), gd_C0 hp.2.2 hk.2.2 (by omega)]
  refine ⟨_, rfl, ?_, fun a k h => ?_⟩
  · unfold bdT
    have e1 : cl 64 (cpy (cpy (up (up u t 0 (u p 0)) t 1 ((up u t 0 (u p 0)) p 1)) (p + 1) (t + 1) 0 0 64) (p + 2) (t + 2) 0 0 128 (t + 1)) = cl 64 (u (p + 1)) := cl_ext fun k h0 h1 => by
      rw [cpy_o (by omega), cpy_q h0 h1, up_o (by omega), up_o (by omega)]
    have e2 : cl 128 (cpy (cpy (up (up u t 0 (u p 0)) t 1 ((up u t 0 (u p 0)) p 1)) (p + 1) (t + 1) 0 0 64) (p + 2) (t + 2) 0 0 128 (t + 2)) = cl 128 (u (p + 2)) := cl_ext fun k h0 h1 => by
      rw [cpy_q h0 h1, cpy_o (by omega), up_o (by omega), up_o (by omega)]
    rw [e1, e2]
    simp (disch := omega) only [cpy_o, up_o, up_j, up_s]
  · simp (disch := omega) only [cpy_o, up_o]
theorem Pi_copyFrom (hk : kPi g t) (hp : kPi g p) (dj : t + 6 < p ∨ p + 6 < t) : ∃ u', call M_Pi_copyFrom [vA t, vA p] g u = some (0, vN, g, u') ∧ (u' t 0 = u p 0 ∧ ∀ i : Nat, i < 6 → ∀ k : Int, 0 ≤ k → k < 32 → u' (t + 1 + i) k = u (p + 1 + i) k) ∧ ∀ (a : Nat) (k : Int), ¬ (t ≤ a ∧ a ≤ t + 6) → u' a k = u a k := by
  rw [C_Pi_copyFrom]
  simp only [gd_O hk.1, gd_O hp.1]
  rw [gd_C0 hp.2.1 hk.2.1 (by omega), gd_C0 hp.2.2.1 hk.2.2.1 (by omega), gd_C0 hp.2.2.2.1 hk.2.2.2.1 (by omega), gd_C0 hp.2.2.2.2.1 hk.2.2.2.2.1 (by omega), R_Pi_copyFrom_68]
  simp only [gd_O hk.1, gd_O hp.1]
  rw [gd_C0 hp.2.2.2.2.2.1 hk.2.2.2.2.2.1 (by omega), gd_C0 hp.2.2.2.2.2.2 hk.2.2.2.2.2.2 (by omega)]
  refine ⟨_, rfl, ⟨?_, fun i hi k h0 h1 => ?_⟩, fun a k h => ?_⟩
  · simp (disch := omega) only [cpy_o, up_s]
  · have : i = 0 ∨ i = 1 ∨ i = 2 ∨ i = 3 ∨ i = 4 ∨ i = 5 := by omega
    rcases this with rfl | rfl | rfl | rfl | rfl | rfl <;>
      simp (disch := omega) only [Nat.add_zero, Nat.add_assoc, Nat.reduceAdd, cpy_o, cpy_q h0 h1, up_o]
  · simp (disch := omega) only [cpy_o, up_o]
theorem Pl_copyFrom (hk : kPl g t) (hp : kPl g p) (dj : t + 2 < p ∨ p + 2 < t) (hn : u p 2 ≤ 6) : ∃ u', call M_Pl_copyFrom [vA t, vA p] g u = some (0, vN, g, u') ∧ plT u' t = plT u p ∧ ∀ (a : Nat) (k : Int), ¬ (t ≤ a ∧ a ≤ t + 2) → u' a k = u a k := by
  rw [C_Pl_copyFrom]
  simp only [gd_O hk.1, gd_O hp.1]
  rw [gd_C0 hp.2.1 hk.2.1 (by omega), gd_C0 hp.2.2 hk.2.2 (by omega), R_Pl_copyFrom_53]
  refine ⟨_, rfl, plT_eq ?_ ?_ ?_ (fun k h0 h1 => ?_) (fun k h0 h1 => ?_), fun a k h => ?_⟩
  · simp (disch := omega) only [cpy_o, up_o, up_j, up_s]
  · simp (disch := omega) only [cpy_o, up_o, up_j, up_s]
  · simp (disch := omega) only [cpy_o, up_o, up_j, up_s]
  · rw [cpy_q h0 h1]
    simp (disch := omega) only [cpy_o, up_o]
  · rw [cpy_o (by omega), cpy_q h0 (by omega)]
    simp (disch := omega) only [up_o]
  · simp (disch := omega) only [cpy_o, up_o]
theorem St_copyFrom (hk : kSt g t) (hp : kSt g p) (dj : t + 16 < p ∨ p + 16 < t) (hA : nOk (absT u p)) : ∃ u', call M_St_copyFrom [vA t, vA p] g u = some (0, vN, g, u') ∧ absT u' t = absT u p ∧ ∀ (a : Nat) (k : Int), ¬ (t ≤ a ∧ a ≤ t + 16) → u' a k = u a k := by
  obtain ⟨a1, a2, a3⟩ := hA
  have n0 : 0 ≤ u (p + 4) 0 ∧ u (p + 4) 0 ≤ 32 := a1
  have n1 : 0 ≤ u (p + 11) 2 ∧ u (p + 11) 2 ≤ 6 := a2
  have n2 : 0 ≤ u (p + 14) 2 ∧ u (p + 14) 2 ≤ 6 := a3
  obtain ⟨u1, e1, b1, f1⟩ := Tk_copyFrom (u := u) hk.2.1 hp.2.1 (by omega)
  obtain ⟨u2, e2, b2, f2⟩ := Pi_copyFrom (u := u1) hk.2.2.1 hp.2.2.1 (by omega)
  have g2 : ∀ (a : Nat) (k : Int), ¬ (t ≤ a ∧ a ≤ t + 10) → u2 a k = u a k := fun a k h => by rw [f2 a k (by omega), f1 a k (by omega)]
  obtain ⟨u3, e3, b3, f3⟩ := Pl_copyFrom (u := u2) hk.2.2.2.1 hp.2.2.2.1 (by omega) (by rw [g2 _ _ (by omega)]; omega)
  have g3 : ∀ (a : Nat) (k : Int), ¬ (t ≤ a ∧ a ≤ t + 13) → u3 a k = u a k := fun a k h => by rw [f3 a k (by omega), g2 a k (by omega)]
  obtain ⟨u4, e4, b4, f4⟩ := Pl_copyFrom (u := u3) hk.2.2.2.2 hp.2.2.2.2 (by omega) (by rw [g3 _ _ (by omega)]; omega)
  have g4 : ∀ (a : Nat) (k : Int), ¬ (t ≤ a ∧ a ≤ t + 16) → u4 a k = u a k := fun a k h => by rw [f4 a k (by omega), g3 a k (by omega)]
  refine ⟨up (up u4 t 4 (u4 p 4)) t 5 ((up u4 t 4 (u4 p 4)) p 5), ?_, ?_, fun a k h => by rw [up_o (by omega), up_o (by omega), g4 a k h]⟩
  · rw [C_St_copyFrom]
    simp only [gd_O hk.1, gd_O hp.1, gd_O hk.2.1.1, gd_O hk.2.2.1.1, gd_O hk.2.2.2.1.1, gd_O hk.2.2.2.2.1, e1, e2, e3, e4, cV_some]
  · have o : ∀ (a : Nat) (k : Int), a ≠ t → up (up u4 t 4 (u4 p 4)) t 5 ((up u4 t 4 (u4 p 4)) p 5) a k = u4 a k := fun a k h => by rw [up_o h, up_o h]
    have q1 : bdT (up (up u4 t 4 (u4 p 4)) t 5 ((up u4 t 4 (u4 p 4)) p 5)) (t + 1) = bdT u (p + 1) := by
      rw [← b1]
      exact bdT_eq fun a k h0 h1 => by rw [o a k (by omega), f4 a k (by omega), f3 a k (by omega), f2 a k (by omega)]
    have q2 : up (up u4 t 4 (u4 p 4)) t 5 ((up u4 t 4 (u4 p 4)) p 5) (t + 4) 0 = u (p + 4) 0 := by
      rw [o _ _ (by omega), f4 _ _ (by omega), f3 _ _ (by omega), b2.1, f1 _ _ (by omega)]
    have q3 : pcT (up (up u4 t 4 (u4 p 4)) t 5 ((up u4 t 4 (u4 p 4)) p 5)) t = pcT u p := pcT_eq q2 fun i hi k h0 h1 => by
      have := b2.2 i hi k h0 (by omega)
      rw [o _ _ (by omega), f4 _ _ (by omega), f3 _ _ (by omega), show t + 5 + i = t + 4 + 1 + i by omega, this, f1 _ _ (by omega)]
    have q4 : plT (up (up u4 t 4 (u4 p 4)) t 5 ((up u4 t 4 (u4 p 4)) p 5)) (t + 11) = plT u (p + 11) := by
      have e : plT u2 (p + 11) = plT u (p + 11) := plT_eq (g2 _ _ (by omega)) (g2 _ _ (by omega)) (g2 _ _ (by omega)) (fun _ _ _ => g2 _ _ (by omega)) (fun _ _ _ => g2 _ _ (by omega))
      rw [← e, ← b3]
      exact plT_eq (by rw [o _ _ (by omega), f4 _ _ (by omega)]) (by rw [o _ _ (by omega), f4 _ _ (by omega)]) (by rw [o _ _ (by omega), f4 _ _ (by omega)]) (fun _ _ _ => by rw [o _ _ (by omega), f4 _ _ (by omega)]) (fun _ _ _ => by rw [o _ _ (by omega), f4 _ _ (by omega)])
    have q5 : plT (up (up u4 t 4 (u4 p 4)) t 5 ((up u4 t 4 (u4 p 4)) p 5)) (t + 14) = plT u (p + 14) := by
      have e : plT u3 (p + 14) = plT u (p + 14) := plT_eq (g3 _ _ (by omega)) (g3 _ _ (by omega)) (g3 _ _ (by omega)) (fun _ _ _ => g3 _ _ (by omega)) (fun _ _ _ => g3 _ _ (by omega))
      rw [← e, ← b4]
      exact plT_eq (o _ _ (by omega)) (o _ _ (by omega)) (o _ _ (by omega)) (fun _ _ _ => o _ _ (by omega)) (fun _ _ _ => o _ _ (by omega))
    unfold absT
    rw [q1, q2, q3, q4, q5]
    simp (disch := omega) only [up_o, up_j, up_s, g4]
theorem Pi_add (hk : kPi g t) (hf : KA g f (1, 2, 0)) (dj : f < t ∨ t + 6 < f) (h0 : 0 ≤ u t 0) (h1 : u t 0 < 32) (o q : Int) : ∃ u', call M_Pi_add [vA t, vA f, vI o, vI q] g u = some (0, vN, g, u') ∧ (u' t 0 = u t 0 + 1 ∧ (∀ i : Nat, i < 6 → ∀ k : Int, k ≠ u t 0 → u' (t + 1 + i) k = u (t + 1 + i) k) ∧ u' (t + 1) (u t 0) = u f 0 ∧ u' (t + 2) (u t 0) = u f 1 ∧ u' (t + 3) (u t 0) = u f 2 ∧ u' (t + 4) (u t 0) = u f 3 ∧ u' (t + 5) (u t 0) = o ∧ u' (t + 6) (u t 0) = q) ∧ ∀ (a : Nat) (k : Int), ¬ (t ≤ a ∧ a ≤ t + 6) → u' a k = u a k := by
  rw [C_Pi_add]
  simp only [gd_O hk.1, gd_O hf]
  rw [if_pos h1]
  simp (disch := omega) only [up_o]
  rw [gd_W hk.2.1 h0 h1, gd_W hk.2.2.1 h0 h1, gd_W hk.2.2.2.1 h0 h1, gd_W hk.2.2.2.2.1 h0 h1, gd_W hk.2.2.2.2.2.1 h0 h1, R_Pi_add_71]
  simp only [gd_O hk.1]
  simp (disch := omega) only [up_o]
  rw [gd_W hk.2.2.2.2.2.2 h0 h1, w_id (by omega) (by omega)]
  refine ⟨_, rfl, ⟨up_s .., fun i hi k hk => ?_, ?_, ?_, ?_, ?_, ?_, ?_⟩, fun a k h => ?_⟩
  · have : i = 0 ∨ i = 1 ∨ i = 2 ∨ i = 3 ∨ i = 4 ∨ i = 5 := by omega
    rcases this with rfl | rfl | rfl | rfl | rfl | rfl <;>
      simp (disch := omega) only [Nat.add_zero, Nat.add_assoc, Nat.reduceAdd, up_o, up_j hk]
  · simp (disch := omega) only [up_o, up_s]
  · simp (disch := omega) only [up_o, up_s]
  · simp (disch := omega) only [up_o, up_s]
  · simp (disch := omega) only [up_o, up_s]
  · simp (disch := omega) only [up_o, up_s]
  · simp (disch := omega) only [up_o, up_s]
  · simp (disch := omega) only [up_o]
theorem Pi_has (hk : kPi g t) (k : Int) : call M_Pi_has [vA t, vI k] g u = some (0, vI (bI (0 ≤ k ∧ k < u t 0)), g, u) := by
  rw [C_Pi_has]
  simp only [gd_O hk.1]
  by_cases h0 : k < 0
  · rw [if_pos h0, bI_f (fun q => by omega)]
  · rw [if_neg h0]
    by_cases h1 : k < u t 0
    · rw [if_pos h1, bI_t ⟨by omega, h1⟩]
    · rw [if_neg h1, bI_f fun q => h1 q.2]
theorem Pl_supplyOf (hk : kPl g t) (k : Int) : call M_Pl_supplyOf [vA t, vI k] g u = some (0, vI ((plT u t).2.2.2.1 k), g, u) := by
  rw [C_Pl_supplyOf]
  simp only [gd_O hk.1]
  show _ = some (0, vI (cl 5 (u (t + 2)) k), g, u)
  by_cases h0 : k < 0
  · rw [if_pos h0]
    unfold cl
    rw [if_neg (by omega)]
  · rw [if_neg h0]
    by_cases h1 : k < 5
    · rw [if_pos h1, gd_R hk.2.2 (by omega) (by omega), cl_in (by omega) h1]
    · rw [if_neg h1]
      unfold cl
      rw [if_neg (by omega)]
theorem Pl_setSupply (hk : kPl g t) {k : Int} (h0 : 0 ≤ k) (h1 : k < 5) (v : Int) : call M_Pl_setSupply [vA t, vI k, vI v] g u = some (0, vN, g, up u (t + 2) k v) := by
  rw [C_Pl_setSupply, if_neg (by omega), if_pos h1, gd_O hk.1, gd_W hk.2.2 h0 (by omega)]
end
