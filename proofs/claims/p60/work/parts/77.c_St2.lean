/-! ===== states: straps, passes, moves, clearing; history ===== -/
/-- how many placements of shape s fit; how many moves with supplies q -/
def bFit (B : Bd) (s : Int) : Int := (fL B s 256 (0, -1, 0)).length
def aMov (A : AS) (p : Int) : Int := sumI (fun s => if 0 < (aPl A p).2.2.2.1 s then bFit A.bd s else 0) 5
theorem bFit_bd (B : Bd) (s : Int) : 0 ≤ bFit B s ∧ bFit B s ≤ 256 := by
  have := fL_len B s 256 (0, -1, 0)
  unfold bFit
  omega
theorem fN_none_len {B : Bd} {s : Int} {p : Pos} : (fL B s 256 p).length = 0 ↔ fN B s 256 p = none := by
  cases h : fN B s 256 p with
  | none =>
    constructor
    · intro _; rfl
    · intro _
      show (fL B s (255 + 1) p).length = 0
      unfold fL
      rw [h]
      rfl
  | some q =>
    constructor
    · intro h2
      exfalso
      change (fL B s (255 + 1) p).length = 0 at h2
      unfold fL at h2
      rw [h] at h2
      simp at h2
    · intro h2
      cases h2
section
variable {g : PG} {u : PM} {b f : Nat} {s r x y : Int}
theorem St_allowsStrap (hk : kSt g b) (hB : bOk (absT u b).bd) (hx : i32 x) (hy : i32 y) (s : Int) :
    call M_St_allowsStrap [vA b, vI x, vI y, vI s] g u = some (0, vI (bI (¬ 2 ≤ (absT u b).ps ∧ 0 < (aPl (absT u b) (absT u b).mv).2.1 ∧ bStrap (absT u b).bd x y s = 0 ∧ ¬ (bCell (absT u b).bd x y = -2 ∨ bBey (absT u b).bd x y s = -2) ∧ ¬ (0 ≤ bCell (absT u b).bd x y ∧ bCell (absT u b).bd x y = bBey (absT u b).bd x y s))), g, u) := by
  rw [C_St_allowsStrap]
  simp only [gd_O hk.1, gd_O hk.2.1.1, St_isFinished hk, St_playerOf hk, cI_some, cR_some, gd_O (kPl_pAd hk _).1, Tk_strapAt2 hk.2.1 (tOk_of hB), Tk_isEdgeBlocked hk.2.1 (tOk_of hB) hx hy, Tk_isEdgeCovered hk.2.1 (tOk_of hB) hx hy]
  rw [aPl_T]
  show _ = some (0, vI (bI (¬ 2 ≤ u b 5 ∧ 0 < u (pAd b (u b 4)) 1 ∧ bStrap (bdT u (b + 1)) x y s = 0 ∧ ¬ (bCell (bdT u (b + 1)) x y = -2 ∨ bBey (bdT u (b + 1)) x y s = -2) ∧ ¬ (0 ≤ bCell (bdT u (b + 1)) x y ∧ bCell (bdT u (b + 1)) x y = bBey (bdT u (b + 1)) x y s))), g, u)
  by_cases h1 : 2 ≤ u b 5
  · rw [bI_t h1, if_neg (by omega), bI_f fun q => q.1 h1]
  · rw [bI_f h1, if_pos rfl]
    by_cases h2 : 0 < u (pAd b (u b 4)) 1
    · rw [if_pos h2]
      by_cases h3 : bStrap (bdT u (b + 1)) x y s = 0
      · rw [if_pos h3]
        by_cases h4 : bCell (bdT u (b + 1)) x y = -2 ∨ bBey (bdT u (b + 1)) x y s = -2
        · rw [bI_t h4, if_neg (by omega), bI_f fun q => q.2.2.2.1 h4]
        · rw [bI_f h4, if_pos rfl]
          by_cases h5 : 0 ≤ bCell (bdT u (b + 1)) x y ∧ bCell (bdT u (b + 1)) x y = bBey (bdT u (b + 1)) x y s
          · rw [bI_t h5, if_neg (by omega), bI_f fun q => q.2.2.2.2 h5]
          · rw [bI_f h5, if_pos rfl, bI_t ⟨h1, h2, h3, h4, h5⟩]
      · rw [if_neg h3, bI_f fun q => h3 q.2.2.1]
    · rw [if_neg h2, bI_f fun q => h2 q.2.1]
theorem St_putStrap (hk : kSt g b) (hB : bOk (absT u b).bd) (x y s : Int) :
    ∃ u', call M_St_putStrap [vA b, vI x, vI y, vI s] g u = some (0, vI (w ((aPl (absT u b) (absT u b).mv).2.1 - 1)), g, u') ∧ absT u' b = aStrap (absT u b) x y s ∧ ∀ (a : Nat) (k : Int), ¬ (b ≤ a ∧ a ≤ b + 16) → u' a k = u a k := by
  have hkp := kPl_pAd hk (u b 4)
  have hpa : b + 11 ≤ pAd b (u b 4) ∧ pAd b (u b 4) ≤ b + 14 := by unfold pAd; split <;> omega
  obtain ⟨v, hv⟩ : ∃ v, v = (if (0 ≤ s ∧ s < 2) ∧ bEdge (bdT u (b + 1)) x y s then up u (b + 1 + 2) (2 * (8 * y + x) + s) 1 else u) := ⟨_, rfl⟩
  have fv : ∀ (a : Nat) (k : Int), a ≠ b + 3 → v a k = u a k := fun a k h => by
    rw [hv]
    split
    · rw [up_o (by omega)]
    · rfl
  obtain ⟨u3, hu3⟩ : ∃ q, q = up v (pAd b (u b 4)) 1 (w (u (pAd b (u b 4)) 1 - 1)) := ⟨_, rfl⟩
  have g3 : ∀ (a : Nat) (k : Int), ¬ (pAd b (u b 4) ≤ a ∧ a ≤ pAd b (u b 4) + 2) → u3 a k = v a k := fun a k h => by rw [hu3, up_o (by omega)]
  refine ⟨up (up u3 b 5 0) b 4 (w (1 - u3 b 4)), ?_, ?_, fun a k h => ?_⟩
  · rw [C_St_putStrap]
    simp only [gd_O hk.1, gd_O hk.2.1.1, St_playerOf hk, cR_some, Tk_setStrap hk.2.1 (tOk_of hB)]
    rw [← hv]
    simp only [cV_some, gd_O hkp.1, gd_O hk.1]
    rw [fv _ _ (by omega), ← hu3, St_endTurn hk, cV_some]
    simp only [gd_O hkp.1]
    rw [up_o (by omega), up_o (by omega), hu3, up_s, aPl_T]
    rfl
  · rw [absT_turn, absT_pl (u := v) (u b 4) g3]
    have q1 : absT v b = (if (0 ≤ s ∧ s < 2) ∧ bEdge (bdT u (b + 1)) x y s then bSS (bdT u (b + 1)) (2 * (8 * y + x) + s) 1 else bdT u (b + 1), (absT u b).2) := by
      unfold absT
      rw [fv (b + 4) 0 (by omega), pcT_eq (u := u) (b := b) (fv _ _ (by omega)) (fun i hi k _ _ => fv _ _ (by omega)), plT_o (p := b + 11) (fun a k h0 h1 => fv a k (by omega)), plT_o (p := b + 14) (fun a k h0 h1 => fv a k (by omega)), fv b 4 (by omega), fv b 5 (by omega)]
      refine congrArg (fun z => (z, _)) ?_
      rw [hv]
      by_cases hc : (0 ≤ s ∧ s < 2) ∧ bEdge (bdT u (b + 1)) x y s
      · rw [if_pos hc, if_pos hc]
        obtain ⟨b1, b2, -⟩ := hB
        obtain ⟨⟨s0, s1⟩, ⟨⟨c0, c1⟩, c2, c3⟩, -⟩ := hc
        have b1' : (bdT u (b + 1)).1 ≤ 8 := b1.2
        have b2' : (bdT u (b + 1)).2.1 ≤ 8 := b2.2
        exact bdT_strap (by omega) (by omega)
      · rw [if_neg hc, if_neg hc]
    have q2 : plT u3 (pAd b (u b 4)) = psSt (plT u (pAd b (u b 4))) (w (u (pAd b (u b 4)) 1 - 1)) := by
      rw [hu3, plT_st, plT_o (u := u) (fun a k h0 h1 => fv a k (by omega))]
    rw [q1, q2]
    unfold aStrap
    rw [aPl_T]
    rfl
  · rw [up_o (by omega), up_o (by omega), g3 a k (by omega), fv a k (by omega)]
theorem St_skipTurn (hk : kSt g b) : ∃ u', call M_St_skipTurn [vA b] g u = some (0, vI (w ((absT u b).ps + 1)), g, u') ∧ absT u' b = aTurn (absT u b) (w ((absT u b).ps + 1)) ∧ ∀ (a : Nat) (k : Int), ¬ (b ≤ a ∧ a ≤ b + 16) → u' a k = u a k := by
  refine ⟨up (up u b 5 (w (u b 5 + 1))) b 4 (w (1 - u b 4)), ?_, absT_turn, fun a k h => by rw [up_o (by omega), up_o (by omega)]⟩
  rw [C_St_skipTurn]
  simp only [gd_O hk.1, St_endTurn hk, cV_some]
  rw [up_j (by omega), up_s]
  rfl
/-- what the walk over the placements in a state stands on -/
def SQ (g : PG) (u : PM) (b f : Nat) : Prop := kSt g b ∧ kFp g f ∧ (b + 16 < f ∨ f + 5 < b) ∧ b + 16 < 100000 ∧ bOk (absT u b).bd ∧ RO u
theorem SQ.qs (h : SQ g u b f) (h0 : 0 ≤ s) (h1 : s < 5) : QS g u (b + 1) f s := by
  obtain ⟨a1, a2, a3, a4, a5, a6⟩ := h
  exact ⟨a1.2.1, a2, by omega, by omega, ⟨h0, h1⟩, tOk_of a5, a6⟩
theorem SQ.fr {u' : PM} (h : SQ g u b f) (hf : Fr f u u') : SQ g u' b f ∧ absT u' b = absT u b := by
  obtain ⟨a1, a2, a3, a4, a5, a6⟩ := h
  have := kFp_lt a2
  have e : absT u' b = absT u b := absT_eq fun a k h1 h2 => hf a k (by omega)
  exact ⟨⟨a1, a2, a3, a4, by rw [e]; exact a5, RO_eq (fun a k ha => hf a k (by omega)) a6⟩, e⟩
theorem St_countMoves (hq : SQ g u b f) (p : Int) : ∃ u', call M_St_countMoves [vA b, vI p, vA f] g u = some (0, vI (aMov (absT u b) p), g, u') ∧ Fr f u u' := by
  have key : ∀ (d : Nat) (u : PM), (d : Int) ≤ 5 → SQ g u b f → ∃ u', run M_St_countMoves 5 [vA b, vI p, vA f, vI 0, vI 0] [] g u = run M_St_countMoves 5 [vA b, vI p, vA f, vI (sumI (fun s => if 0 < (aPl (absT u b) p).2.2.2.1 s then bFit (absT u b).bd s else 0) d), vI d] [] g u' ∧ Fr f u u' := by
    intro d
    induction d with
    | zero => intro u _ _; exact ⟨u, rfl, Fr.rfl'⟩
    | succ d ih =>
      intro u hd hq
      obtain ⟨u1, e1, f1⟩ := ih u (by omega) hq
      obtain ⟨hq1, ha1⟩ := hq.fr f1
      have hsb := sumI_bd (f := fun s => if 0 < (aPl (absT u b) p).2.2.2.1 s then bFit (absT u b).bd s else 0) (n := d) (b := 256) fun i _ _ => by
        have := bFit_bd (absT u b).bd i
        split <;> omega
      have wd : w ((d : Int) + 1) = ((d + 1 : Nat) : Int) := by rw [w_id (by omega) (by omega)]; omega
      have st : ∃ u', run M_St_countMoves 5 [vA b, vI p, vA f, vI (sumI (fun s => if 0 < (aPl (absT u b) p).2.2.2.1 s then bFit (absT u b).bd s else 0) d), vI d] [] g u1 = run M_St_countMoves 5 [vA b, vI p, vA f, vI (sumI (fun s => if 0 < (aPl (absT u b) p).2.2.2.1 s then bFit (absT u b).bd s else 0) (d + 1)), vI ((d + 1 : Nat) : Int)] [] g u' ∧ Fr f u1 u' := by
        rw [R_St_countMoves_5, if_pos (by omega)]
        simp only [gd_O hq.1.1, gd_O hq.1.2.1.1, St_playerOf hq.1, cR_some, gd_O (kPl_pAd hq.1 _).1, Pl_supplyOf (kPl_pAd hq.1 _), cI_some, wd, sumI]
        rw [← aPl_T, ha1]
        by_cases hp : 0 < (aPl (absT u b) p).2.2.2.1 d
        · rw [if_pos hp, if_pos hp]
          obtain ⟨u2, e2, f2⟩ := Tk_countFitting (hq1.qs (s := d) (by omega) (by omega))
          rw [e2]
          simp only [cI_some]
          refine ⟨u2, ?_, f2⟩
          have eb : bdT u1 (b + 1) = (absT u b).bd := congrArg AS.bd ha1
          rw [eb]
          change run M_St_countMoves 5 [vA b, vI p, vA f, vI (w (_ + bFit (absT u b).bd d)), _] [] g u2 = _
          have := bFit_bd (absT u b).bd d
          rw [w_id (by omega) (by omega)]
        · rw [if_neg hp, if_neg hp, Int.add_zero]
          exact ⟨u1, rfl, Fr.rfl'⟩
      obtain ⟨u2, e2, f2⟩ := st
      exact ⟨u2, e1.trans e2, f1.tr f2⟩
  obtain ⟨u1, e1, f1⟩ := key 5 u (by omega) hq
  refine ⟨u1, ?_, f1⟩
  rw [C_St_countMoves, e1, R_St_countMoves_5, if_neg (by omega)]
  rfl
theorem sumI_eq0 {f : Int → Int} {n : Nat} (h : ∀ i : Int, 0 ≤ i → i < n → 0 ≤ f i) : sumI f n = 0 ↔ ∀ i : Int, 0 ≤ i → i < n → f i = 0 := by
  have hn : ∀ m : Nat, m ≤ n → 0 ≤ sumI f m := by
    intro m
    induction m with
    | zero => intro _; exact Int.le_refl _
    | succ m ih =>
      intro hm
      have := ih (by omega)
      have := h m (by omega) (by omega)
      simp only [sumI]
      omega
  induction n with
  | zero => exact ⟨fun _ i h0 h1 => by omega, fun _ => rfl⟩
  | succ n ih =>
    have a := ih (fun i h0 h1 => h i h0 (by omega)) (fun m hm => hn m (by omega))
    have b := hn n (by omega)
    have c := h n (by omega) (by omega)
    simp only [sumI]
    constructor
    · intro e i h0 h1
      by_cases hi : i = n
      · subst hi; omega
      · exact a.mp (by omega) i h0 (by omega)
    · intro e
      have := a.mpr fun i h0 h1 => e i h0 (by omega)
      have := e n (by omega) (by omega)
      omega
theorem St_allowsPass (hq : SQ g u b f) : ∃ u', call M_St_allowsPass [vA b, vA f] g u = some (0, vI (bI (¬ 2 ≤ (absT u b).ps ∧ aMov (absT u b) (absT u b).mv = 0)), g, u') ∧ Fr f u u' := by
  have key : ∀ (d : Nat) (i : Int) (u : PM), 0 ≤ i → i + d = 5 → SQ g u b f → ∃ u' c, run M_St_allowsPass 20 [vA b, vA f, vA (pAd b (u b 4)), vI i] [] g u = some (0, vI c, g, u') ∧ Fr f u u' ∧ ((c = 1 ∧ ∀ j : Int, i ≤ j → j < 5 → (if 0 < (aPl (absT u b) (absT u b).mv).2.2.2.1 j then bFit (absT u b).bd j else 0) = 0) ∨ (c = 0 ∧ ∃ j : Int, 0 ≤ j ∧ j < 5 ∧ (if 0 < (aPl (absT u b) (absT u b).mv).2.2.2.1 j then bFit (absT u b).bd j else 0) ≠ 0)) := by
    intro d
    induction d with
    | zero =>
      intro i u h0 h1 hq
      refine ⟨u, 1, ?_, Fr.rfl', Or.inl ⟨rfl, fun j a c => by omega⟩⟩
      rw [R_St_allowsPass_20, if_neg (by omega)]
    | succ d ih =>
      intro i u h0 h1 hq
      obtain ⟨u1, e1, a1, f1⟩ := Fp_startAll (g := g) (u := u) (f := f) hq.2.1 hq.2.2.2.2.2 h0 (show i < 5 by omega)
      obtain ⟨hq1, ha1⟩ := hq.fr f1
      have em : u1 b 4 = u b 4 := congrArg AS.mv ha1
      obtain ⟨u3, c3, e3, f3, d3⟩ := ih (i + 1) u1 (by omega) (by omega) hq1
      rw [em] at e3
      rw [ha1] at d3
      rw [R_St_allowsPass_20, if_pos (by omega)]
      simp only [gd_O hq.1.1, gd_O hq.1.2.1.1, gd_O hq.2.1.1, e1, cV_some, gd_O (kPl_pAd hq.1 _).1, Pl_supplyOf (kPl_pAd hq.1 _), cI_some]
      rw [w_id (x := i + 1) (by omega) (by omega), plT_o (u := u) (fun a k z0 z1 => f1 a k (by
        have : b + 11 ≤ pAd b (u b 4) ∧ pAd b (u b 4) ≤ b + 14 := by unfold pAd; split <;> omega
        have := hq.2.2.1
        omega)), ← aPl_T]
      have em2 : (absT u b).mv = u b 4 := rfl
      rw [← em2]
      rw [← em2] at e3
      by_cases hp : 0 < (aPl (absT u b) (absT u b).mv).2.2.2.1 i
      · rw [if_pos hp]
        obtain ⟨u2, e2, f2, -⟩ := Tk_findNext (hq1.qs (s := i) (by omega) (by omega)) a1 ⟨⟨by simp only; omega, by simp only; omega⟩, ⟨by simp only; omega, by simp only; omega⟩, by simp only; omega, by simp only; omega⟩
        obtain ⟨hq2, ha2⟩ := hq1.fr f2
        have eb : bdT u1 (b + 1) = (absT u b).bd := congrArg AS.bd ha1
        rw [e2, cI_some, eb]
        cases hn : fN (absT u b).bd i 256 (0, -1, 0) with
        | none =>
          obtain ⟨u4, c4, e4, f4, d4⟩ := ih (i + 1) u2 (by omega) (by omega) hq2
          have em3 : u2 b 4 = (absT u b).mv := (congrArg AS.mv ha2).trans em
          rw [em3] at e4
          rw [ha2, ha1] at d4
          have hl : bFit (absT u b).bd i = 0 := by
            have := fN_none_len.mpr hn
            unfold bFit
            omega
          rw [bI_f (by simp), if_pos rfl]
          refine ⟨u4, c4, e4, (f1.tr f2).tr f4, ?_⟩
          rcases d4 with ⟨z1, z2⟩ | z
          · refine Or.inl ⟨z1, fun j j0 j1 => ?_⟩
            by_cases hj : j = i
            · subst hj; rw [if_pos hp, hl]
            · exact z2 j (by omega) j1
          · exact Or.inr z
        | some q =>
          rw [bI_t (p := (some q).isSome = true) rfl, if_neg (by omega)]
          refine ⟨u2, 0, rfl, f1.tr f2, Or.inr ⟨rfl, i, h0, by omega, ?_⟩⟩
          rw [if_pos hp]
          intro hl
          have : fN (absT u b).bd i 256 (0, -1, 0) = none := fN_none_len.mp (by unfold bFit at hl; omega)
          rw [hn] at this
          cases this
      · rw [if_neg hp]
        refine ⟨u3, c3, e3, f1.tr f3, ?_⟩
        rcases d3 with ⟨z1, z2⟩ | z
        · refine Or.inl ⟨z1, fun j j0 j1 => ?_⟩
          by_cases hj : j = i
          · subst hj; rw [if_neg hp]
          · exact z2 j (by omega) j1
        · exact Or.inr z
  obtain ⟨u1, c1, e1, f1, d1⟩ := key 5 0 u (by omega) (by omega) hq
  rw [C_St_allowsPass]
  simp only [gd_O hq.1.1, St_isFinished hq.1, St_playerOf hq.1, cR_some, cI_some]
  have hz := sumI_eq0 (f := fun s => if 0 < (aPl (absT u b) (absT u b).mv).2.2.2.1 s then bFit (absT u b).bd s else 0) (n := 5) fun i _ _ => by
    have := bFit_bd (absT u b).bd i
    split <;> omega
  show ∃ u', (if bI (2 ≤ u b 5) = 0 then _ else _) = some (0, vI (bI (¬ 2 ≤ u b 5 ∧ aMov (absT u b) (absT u b).mv = 0)), g, u') ∧ _
  by_cases h1 : 2 ≤ u b 5
  · rw [bI_t h1, if_neg (by omega)]
    exact ⟨u, by rw [bI_f fun q => q.1 h1], Fr.rfl'⟩
  · rw [bI_f h1, if_pos rfl]
    refine ⟨u1, e1.trans ?_, f1⟩
    rcases d1 with ⟨z1, z2⟩ | ⟨z1, j, j0, j1, z2⟩
    · rw [z1, bI_t ⟨h1, hz.mpr fun i i0 i1 => z2 i i0 i1⟩]
    · rw [z1, bI_f fun q => z2 (hz.mp q.2 j j0 j1)]
end
