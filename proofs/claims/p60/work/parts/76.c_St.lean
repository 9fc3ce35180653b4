/-! ===== states: what may be done and what it does ===== -/
theorem FpAt_eq {u u' : PM} {f : Nat} {s r x y : Int} (h : ∀ (a : Nat) (k : Int), f ≤ a → a ≤ f + 5 → u' a k = u a k) (hA : FpAt u f s r x y) : FpAt u' f s r x y := by
  obtain ⟨⟨a1, a2, a3, a4, a5, a6⟩, a7, a8⟩ := hA
  refine ⟨⟨?_, ?_, ?_, ?_, fun k h0 h1 => ?_, fun k e he => ?_⟩, ?_, ?_⟩
  · rw [h _ _ (by omega) (by omega)]; exact a1
  · rw [h _ _ (by omega) (by omega)]; exact a2
  · rw [h _ _ (by omega) (by omega)]; exact a3
  · rw [h _ _ (by omega) (by omega)]; exact a4
  · rw [h (f + 1) _ (by omega) (by omega), h (f + 2) _ (by omega) (by omega)]; exact a5 k h0 h1
  · rw [h (f + 3) _ (by omega) (by omega), h (f + 4) _ (by omega) (by omega), h (f + 5) _ (by omega) (by omega)]; exact a6 k e he
  · rw [h _ _ (by omega) (by omega)]; exact a7
  · rw [h _ _ (by omega) (by omega)]; exact a8
def psSc (q : PS) (v : Int) : PS := (v, q.2)
def psSt (q : PS) (v : Int) : PS := (q.1, v, q.2.2)
def psSu (q : PS) (k v : Int) : PS := (q.1, q.2.1, q.2.2.1, setI q.2.2.2.1 k v, q.2.2.2.2)
theorem plT_sc {u : PM} {p : Nat} {v : Int} : plT (up u p 0 v) p = psSc (plT u p) v := by
  unfold plT psSc
  rw [up_s, up_j (by omega), up_j (by omega)]
  rw [show up u p 0 v (p + 2) = u (p + 2) from funext fun k => up_o (by omega), show up u p 0 v (p + 1) = u (p + 1) from funext fun k => up_o (by omega)]
theorem plT_st {u : PM} {p : Nat} {v : Int} : plT (up u p 1 v) p = psSt (plT u p) v := by
  unfold plT psSt
  rw [up_s, up_j (by omega), up_j (by omega)]
  rw [show up u p 1 v (p + 2) = u (p + 2) from funext fun k => up_o (by omega), show up u p 1 v (p + 1) = u (p + 1) from funext fun k => up_o (by omega)]
theorem plT_su {u : PM} {p : Nat} {k v : Int} (h0 : 0 ≤ k) (h1 : k < 5) : plT (up u (p + 2) k v) p = psSu (plT u p) k v := by
  unfold plT psSu
  rw [up_o (by omega), up_o (by omega), up_o (by omega), cl_set h0 h1 (up_s u (p + 2) k v) (fun j hj => up_j hj), show up u (p + 2) k v (p + 1) = u (p + 1) from funext fun j => up_o (by omega)]
theorem plT_o {u u' : PM} {p : Nat} (h : ∀ (a : Nat) (k : Int), p ≤ a → a ≤ p + 2 → u' a k = u a k) : plT u' p = plT u p :=
  plT_eq (h _ _ (by omega) (by omega)) (h _ _ (by omega) (by omega)) (h _ _ (by omega) (by omega)) (fun _ _ _ => h _ _ (by omega) (by omega)) (fun _ _ _ => h _ _ (by omega) (by omega))
def aPl (A : AS) (p : Int) : PS := if p = 0 then A.p0 else A.p1
def aSetPl (A : AS) (p : Int) (q : PS) : AS := (A.1, A.2.1, A.2.2.1, if p = 0 then q else A.p0, if p = 0 then A.p1 else q, A.2.2.2.2.2)
def aTurn (A : AS) (k : Int) : AS := (A.1, A.2.1, A.2.2.1, A.2.2.2.1, A.2.2.2.2.1, w (1 - A.mv), k)
def bPutL (s r x y v : Int) : Nat → Int → Bd → Bd
  | 0, _, B => B
  | d + 1, i, B => bPutL s r x y v d (i + 1) (if bIn B (pX s r x i) (pY s r y i) then bSC B (8 * pY s r y i + pX s r x i) v else B)
def aPiece (A : AS) (s r x y q : Int) : AS := (bPutL s r x y A.n (sz s).toNat 0 A.bd, A.n + 1, fun i k => if i < 6 ∧ k = A.n then [s, r, x, y, A.mv, q].getD i 0 else A.pc i k, A.2.2.2)
def aPut (A : AS) (s r x y : Int) : AS :=
  aTurn (aSetPl (aPiece A s r x y (bPts A.bd s r y)) A.mv (psSc (psSu (aPl A A.mv) s (w ((aPl A A.mv).2.2.2.1 s - 1))) (w ((aPl A A.mv).1 + bPts A.bd s r y)))) 0
def aStrap (A : AS) (x y s : Int) : AS :=
  aTurn (aSetPl (if (0 ≤ s ∧ s < 2) ∧ bEdge A.bd x y s then bSS A.bd (2 * (8 * y + x) + s) 1 else A.bd, A.2) A.mv (psSt (aPl A A.mv) (w ((aPl A A.mv).2.1 - 1)))) 0
/-- the address of the player who is p -/
def pAd (b : Nat) (p : Int) : Nat := if p = 0 then b + 11 else b + 14
section
variable {g : PG} {u : PM} {b f : Nat} {s r x y : Int}
theorem kPl_pAd (hk : kSt g b) (p : Int) : kPl g (pAd b p) := by
  unfold pAd
  split
  · exact hk.2.2.2.1
  · exact hk.2.2.2.2
theorem aPl_T (u : PM) (b : Nat) (p : Int) : aPl (absT u b) p = plT u (pAd b p) := by
  unfold aPl pAd
  split <;> rfl
theorem St_isFinished (hk : kSt g b) : call M_St_isFinished [vA b] g u = some (0, vI (bI (2 ≤ u b 5)), g, u) := by
  rw [C_St_isFinished, gd_O hk.1]
  by_cases h : u b 5 < 2
  · rw [if_pos h, bI_f (by omega)]
  · rw [if_neg h, bI_t (by omega)]
theorem St_playerOf (hk : kSt g b) (p : Int) : call M_St_playerOf [vA b, vI p] g u = some (0, vA (pAd b p), g, u) := by
  rw [C_St_playerOf]
  simp only [gd_O hk.1]
  unfold pAd
  split <;> rfl
theorem St_endTurn (hk : kSt g b) (k : Int) : call M_St_endTurn [vA b, vI k] g u = some (0, vN, g, up (up u b 5 k) b 4 (w (1 - u b 4))) := by
  rw [C_St_endTurn]
  simp only [gd_O hk.1]
  rw [up_j (by omega)]
theorem absT_turn {k : Int} : absT (up (up u b 5 k) b 4 (w (1 - u b 4))) b = aTurn (absT u b) k := by
  have o : ∀ (a : Nat) (j : Int), b < a → up (up u b 5 k) b 4 (w (1 - u b 4)) a j = u a j := fun a j h => by rw [up_o (by omega), up_o (by omega)]
  unfold aTurn absT
  rw [bdT_eq (t := b + 1) (fun a j h0 h1 => o a j (by omega)), o _ _ (by omega), pcT_eq (u := u) (b := b) (o _ _ (by omega)) (fun i hi j _ _ => o _ _ (by omega)), plT_o (p := b + 11) (fun a j h0 h1 => o a j (by omega)), plT_o (p := b + 14) (fun a j h0 h1 => o a j (by omega)), up_s, up_j (by omega), up_s]
theorem absT_pl {u' : PM} (p : Int) (h : ∀ (a : Nat) (k : Int), ¬ (pAd b p ≤ a ∧ a ≤ pAd b p + 2) → u' a k = u a k) : absT u' b = aSetPl (absT u b) p (plT u' (pAd b p)) := by
  have hl : b + 11 ≤ pAd b p := by unfold pAd; split <;> omega
  unfold aSetPl absT
  rw [bdT_eq (t := b + 1) (fun a j h0 h1 => h a j (by omega)), h (b + 4) _ (by omega), h b _ (by omega), h b _ (by omega), pcT_eq (u := u) (b := b) (h _ _ (by omega)) (fun i hi j _ _ => h _ _ (by omega))]
  unfold pAd at h ⊢
  by_cases hp : p = 0
  · simp only [if_pos hp] at h ⊢
    rw [plT_o (p := b + 14) (fun a j h0 h1 => h a j (by omega))]
  · simp only [if_neg hp] at h ⊢
    rw [plT_o (p := b + 11) (fun a j h0 h1 => h a j (by omega))]
theorem St_allowsPiece (hk : kSt g b) (hf : kFp g f) (hB : bOk (absT u b).bd) (hA : FpAt u f s r x y) (hs : 0 ≤ s ∧ s < 5) (hr : 0 ≤ r ∧ r < 4) (hx : -100 ≤ x ∧ x ≤ 100) (hy : -100 ≤ y ∧ y ≤ 100) :
    call M_St_allowsPiece [vA b, vA f] g u = some (0, vI (bI (¬ 2 ≤ (absT u b).ps ∧ 0 < (aPl (absT u b) (absT u b).mv).2.2.2.1 s ∧ bMis (absT u b).bd s r x y = 0)), g, u) := by
  have hq : QOk g u (b + 1) f s r x y := ⟨hk.2.1, tOk_of hB, hf, hA, hs, hr, hx, hy⟩
  rw [C_St_allowsPiece]
  simp only [gd_O hk.1, gd_O hf.1, gd_O hk.2.1.1, St_isFinished hk, St_playerOf hk, cI_some, cR_some, Pl_supplyOf (kPl_pAd hk _), gd_O (kPl_pAd hk _).1, Tk_misfitOf hq, hA.1.1]
  rw [aPl_T]
  show (if bI (2 ≤ u b 5) = 0 then if 0 < (plT u (pAd b (u b 4))).2.2.2.1 s then if bMis (bdT u (b + 1)) s r x y = 0 then _ else _ else _ else _) = some (0, vI (bI (¬ 2 ≤ u b 5 ∧ 0 < (plT u (pAd b (u b 4))).2.2.2.1 s ∧ bMis (bdT u (b + 1)) s r x y = 0)), g, u)
  by_cases h1 : 2 ≤ u b 5
  · rw [bI_t h1, if_neg (by omega), bI_f fun q => q.1 h1]
  · rw [bI_f h1, if_pos rfl]
    by_cases h2 : 0 < (plT u (pAd b (u b 4))).2.2.2.1 s
    · rw [if_pos h2]
      by_cases h3 : bMis (bdT u (b + 1)) s r x y = 0
      · rw [if_pos h3, bI_t ⟨h1, h2, h3⟩]
      · rw [if_neg h3, bI_f fun q => h3 q.2.2]
    · rw [if_neg h2, bI_f fun q => h2 q.2.1]
theorem St_put21 (hk : kSt g b) (hf : kFp g f) (dj : b + 16 < f ∨ f + 5 < b) (hs : 0 ≤ s ∧ s < 5) (hx : -100 ≤ x ∧ x ≤ 100) (hy : -100 ≤ y ∧ y ≤ 100) (q : Nat) (e : Int) : ∀ (d : Nat) (i : Int) (u : PM), 0 ≤ i → i + d = sz s → bOk (bdT u (b + 1)) → FpAt u f s r x y →
    ∃ u', run M_St_putPiece 21 [vA b, vA f, vA q, vI e, vI i] [] g u = run M_St_putPiece 21 [vA b, vA f, vA q, vI e, vI (sz s)] [] g u' ∧ bdT u' (b + 1) = bPutL s r x y (u (b + 4) 0) d i (bdT u (b + 1)) ∧ ∀ (a : Nat) (k : Int), a ≠ b + 2 → u' a k = u a k := by
  have hz := sz_bd hs.1 hs.2
  intro d
  induction d with
  | zero =>
    intro i u h0 h1 hB hA
    refine ⟨u, ?_, rfl, fun _ _ _ => rfl⟩
    rw [show i = sz s by omega]
  | succ d ih =>
    intro i u h0 h1 hB hA
    have hn : u f 4 = sz s := hA.1.2.2.1
    rw [R_St_putPiece_21]
    simp only [gd_O hf.1, gd_O hk.1, gd_O hk.2.1.1, gd_O hk.2.2.1.1]
    rw [if_pos (by omega)]
    simp only [Fp_columnOf hf hA hx hz.2 h0 (show i < sz s by omega), Fp_rowOf hf hA hy hz.2 h0 (show i < sz s by omega), cI_some, Tk_setCell hk.2.1 (tOk_of hB), cV_some, gd_O hf.1, gd_O hk.1, gd_O hk.2.1.1, gd_O hk.2.2.1.1]
    rw [w_id (x := i + 1) (by omega) (by omega)]
    obtain ⟨v, hv⟩ : ∃ v, v = (if bIn (bdT u (b + 1)) (pX s r x i) (pY s r y i) then up u (b + 1 + 1) (8 * pY s r y i + pX s r x i) (u (b + 4) 0) else u) := ⟨_, rfl⟩
    rw [← hv]
    have fv : ∀ (a : Nat) (k : Int), a ≠ b + 2 → v a k = u a k := fun a k h => by
      rw [hv]
      split
      · rw [up_o (by omega)]
      · rfl
    have bv : bdT v (b + 1) = if bIn (bdT u (b + 1)) (pX s r x i) (pY s r y i) then bSC (bdT u (b + 1)) (8 * pY s r y i + pX s r x i) (u (b + 4) 0) else bdT u (b + 1) := by
      rw [hv]
      by_cases hb : bIn (bdT u (b + 1)) (pX s r x i) (pY s r y i)
      · rw [if_pos hb, if_pos hb]
        obtain ⟨b1, b2, -⟩ := hB
        exact bdT_cell (by omega) (by omega)
      · rw [if_neg hb, if_neg hb]
    have hB' : bOk (bdT v (b + 1)) := by
      rw [bv]
      split
      · exact hB
      · exact hB
    obtain ⟨u', e1, e2, e3⟩ := ih (i + 1) v (by omega) (by omega) hB' (FpAt_eq (fun a k _ _ => fv a k (by omega)) hA)
    refine ⟨u', e1, ?_, fun a k h => (e3 a k h).trans (fv a k h)⟩
    rw [e2, bv, fv _ _ (by omega)]
    rfl
theorem St_putPiece (hk : kSt g b) (hf : kFp g f) (dj : b + 16 < f ∨ f + 5 < b) (hB : bOk (absT u b).bd) (hA : FpAt u f s r x y) (hs : 0 ≤ s ∧ s < 5) (hr : 0 ≤ r ∧ r < 4) (hx : -100 ≤ x ∧ x ≤ 100) (hy : -100 ≤ y ∧ y ≤ 100) (hn : 0 ≤ (absT u b).n ∧ (absT u b).n < 32) :
    ∃ u', call M_St_putPiece [vA b, vA f] g u = some (0, vI (bPts (absT u b).bd s r y), g, u') ∧ absT u' b = aPut (absT u b) s r x y ∧ ∀ (a : Nat) (k : Int), ¬ (b ≤ a ∧ a ≤ b + 16) → u' a k = u a k := by
  have hq : QOk g u (b + 1) f s r x y := ⟨hk.2.1, tOk_of hB, hf, hA, hs, hr, hx, hy⟩
  have hz := sz_bd hs.1 hs.2
  have hpa : b + 11 ≤ pAd b (u b 4) ∧ pAd b (u b 4) ≤ b + 14 := by unfold pAd; split <;> omega
  have hkp := kPl_pAd hk (u b 4)
  have nb : 0 ≤ u (b + 4) 0 ∧ u (b + 4) 0 < 32 := hn
  obtain ⟨u1, e1, b1, f1⟩ := St_put21 (r := r) (x := x) (y := y) hk hf dj hs hx hy (pAd b (u b 4)) (bPts (bdT u (b + 1)) s r y) (sz s).toNat 0 u (by omega) (by omega) hB hA
  have hA1 : FpAt u1 f s r x y := FpAt_eq (fun a k _ _ => f1 a k (by omega)) hA
  obtain ⟨u2, e2, p2, f2⟩ := Pi_add (u := u1) hk.2.2.1 hf.1 (by omega) (by rw [f1 _ _ (by omega)]; omega) (by rw [f1 _ _ (by omega)]; omega) (u b 4) (bPts (bdT u (b + 1)) s r y)
  rw [f1 (b + 4) 0 (by omega)] at p2
  have g2 : ∀ (a : Nat) (k : Int), a ≠ b + 2 → ¬ (b + 4 ≤ a ∧ a ≤ b + 10) → u2 a k = u a k := fun a k h h' => by rw [f2 a k (by omega), f1 a k h]
  have hA2 : FpAt u2 f s r x y := FpAt_eq (fun a k _ _ => g2 a k (by omega) (by omega)) hA
  have es : (plT u2 (pAd b (u b 4))) = plT u (pAd b (u b 4)) := plT_o fun a k h0 h1 => g2 a k (by omega) (by omega)
  obtain ⟨u3, hu3⟩ : ∃ v, v = up (up u2 (pAd b (u b 4) + 2) s (w ((plT u (pAd b (u b 4))).2.2.2.1 s - 1))) (pAd b (u b 4)) 0 (w (u (pAd b (u b 4)) 0 + bPts (bdT u (b + 1)) s r y)) := ⟨_, rfl⟩
  have g3 : ∀ (a : Nat) (k : Int), ¬ (pAd b (u b 4) ≤ a ∧ a ≤ pAd b (u b 4) + 2) → u3 a k = u2 a k := fun a k h => by rw [hu3, up_o (by omega), up_o (by omega)]
  refine ⟨up (up u3 b 5 0) b 4 (w (1 - u3 b 4)), ?_, ?_, fun a k h => ?_⟩
  · rw [C_St_putPiece]
    simp only [gd_O hk.1, gd_O hk.2.1.1, St_playerOf hk, cR_some, Tk_pointsOf hq, cI_some]
    rw [e1, R_St_putPiece_21]
    simp only [gd_O hk.1, gd_O hf.1, gd_O hk.2.2.1.1]
    rw [if_neg (by rw [hA1.1.2.2.1]; omega)]
    rw [f1 b 4 (by omega), e2]
    simp only [cV_some, gd_O hf.1, gd_O hkp.1, hA2.1.1, Pl_supplyOf hkp, cI_some]
    rw [Pl_setSupply hkp hs.1 hs.2, es]
    simp only [cV_some, gd_O hk.1]
    rw [up_o (by omega), g2 (pAd b (u b 4)) 0 (by omega) (by omega), ← hu3, gd_O hkp.1, gd_O hkp.1, St_endTurn hk]
    rfl
  · rw [absT_turn, absT_pl (u := u2) (u b 4) g3]
    have q1 : absT u2 b = aPiece (absT u b) s r x y (bPts (bdT u (b + 1)) s r y) := by
      unfold aPiece absT
      have c1 : bdT u2 (b + 1) = bPutL s r x y (u (b + 4) 0) (sz s).toNat 0 (bdT u (b + 1)) := by
        rw [← b1]
        exact bdT_eq fun a k h0 h1 => f2 a k (by omega)
      have c3 : pcT u2 b = fun i k => if i < 6 ∧ k = u (b + 4) 0 then [s, r, x, y, u b 4, bPts (bdT u (b + 1)) s r y].getD i 0 else pcT u b i k := by
        funext i k
        unfold pcT
        by_cases hi : i < 6
        · rw [if_pos hi, if_pos hi, p2.1]
          by_cases hk' : k = u (b + 4) 0
          · rw [if_pos ⟨hi, hk'⟩, hk', cl_in nb.1 (by omega)]
            obtain ⟨-, -, z1, z2, z3, z4, z5, z6⟩ := p2
            rw [hA1.1.1] at z1
            rw [hA1.1.2.1] at z2
            rw [hA1.2.1] at z3
            rw [hA1.2.2] at z4
            have : i = 0 ∨ i = 1 ∨ i = 2 ∨ i = 3 ∨ i = 4 ∨ i = 5 := by omega
            rcases this with rfl | rfl | rfl | rfl | rfl | rfl
            · exact z1
            · exact z2
            · exact z3
            · exact z4
            · exact z5
            · exact z6
          · rw [if_neg fun q => hk' q.2]
            unfold cl
            have z := p2.2.1 i hi k hk'
            by_cases hr : 0 ≤ k ∧ k < u (b + 4) 0
            · rw [if_pos hr, if_pos (by omega), show b + 5 + i = b + 4 + 1 + i by omega, z, f1 _ _ (by omega)]
            · rw [if_neg hr, if_neg (by omega)]
        · rw [if_neg hi, if_neg hi, if_neg fun q => hi q.1]
      rw [c1, p2.1, c3, plT_o (p := b + 11) (fun a k h0 h1 => g2 a k (by omega) (by omega)), plT_o (p := b + 14) (fun a k h0 h1 => g2 a k (by omega) (by omega)), g2 b 4 (by omega) (by omega), g2 b 5 (by omega) (by omega)]
    have q2 : plT u3 (pAd b (u b 4)) = psSc (psSu (plT u (pAd b (u b 4))) s (w ((plT u (pAd b (u b 4))).2.2.2.1 s - 1))) (w (u (pAd b (u b 4)) 0 + bPts (bdT u (b + 1)) s r y)) := by
      rw [hu3, plT_sc, plT_su hs.1 hs.2, es]
    rw [q1, q2]
    unfold aPut
    rw [aPl_T]
    rfl
  · rw [up_o (by omega), up_o (by omega), g3 a k (by omega), g2 a k (by omega) (by omega)]
end
