/-! ===== the class: the best placement ===== -/
abbrev Cho : Type := Int × Int × Int × Int × Int
def choT (u : PM) (c : Nat) : Cho := (u c 0, u c 1, u c 2, u c 3, u c 4)
def chTake (B : Bd) (s : Int) (c : Cho) (p : Pos) : Cho := if c.2.2.2.2 < bPts B s p.1 p.2.2 then (s, p.1, p.2.1, p.2.2, bPts B s p.1 p.2.2) else c
def Fb (f c : Nat) (u u' : PM) : Prop := ∀ (a : Nat) (k : Int), ¬ (f ≤ a ∧ a ≤ f + 5) → a ≠ c → u' a k = u a k
section
variable {g : PG} {u : PM} {t f c : Nat} {s : Int} {p : Pos}
theorem Ch_take (hc : KA g c (1, 0, 0)) (hf : kFp g f) (hA : FpA u f s p) (cf : c < f ∨ f + 5 < c) (B : Bd) : ∃ u', call M_Ch_take [vA c, vA f, vI (bPts B s p.1 p.2.2)] g u = some (0, vN, g, u') ∧ choT u' c = chTake B s (choT u c) p ∧ ∀ (a : Nat) (k : Int), a ≠ c → u' a k = u a k := by
  obtain ⟨hT, hx, hy⟩ := hA
  rw [C_Ch_take]
  simp only [gd_O hc, gd_O hf.1]
  unfold chTake
  by_cases h : u c 4 < bPts B s p.1 p.2.2
  · rw [if_pos h, if_pos (show (choT u c).2.2.2.2 < bPts B s p.1 p.2.2 from h), R_Ch_take_45]
    refine ⟨_, rfl, ?_, fun a k ha => ?_⟩
    · unfold choT
      simp (disch := omega) only [up_o, up_j, up_s]
      rw [hx, hy, hT.1, hT.2.1]
    · rw [up_o ha, up_o ha, up_o ha, up_o ha, up_o ha]
  · rw [if_neg h, if_neg (show ¬ (choT u c).2.2.2.2 < bPts B s p.1 p.2.2 from h), R_Ch_take_45]
    exact ⟨u, rfl, rfl, fun _ _ _ => rfl⟩
theorem FpA_eq {u' : PM} (h : ∀ (a : Nat) (k : Int), f ≤ a → a ≤ f + 5 → u' a k = u a k) (hA : FpA u f s p) : FpA u' f s p := FpAt_eq h hA
theorem Ch_shape (hq : QS g u t f s) (hc : KA g c (1, 0, 0)) (cf : c < f ∨ f + 5 < c) (ct : c < t ∨ t + 2 < c) (cR : c < 100000) : ∃ u', call M_Ch_searchShape [vA c, vI s, vA t, vA f] g u = some (0, vN, g, u') ∧ choT u' c = (fL (bdT u t) s 256 (0, -1, 0)).foldl (chTake (bdT u t) s) (choT u c) ∧ Fb f c u u' := by
  have key : ∀ (d : Nat) (i : Int) (u : PM) (p : Pos), 0 ≤ i → i + d = 256 → QS g u t f s → FpA u f s p → pOk p → ∃ u', run M_Ch_searchShape 8 [vA c, vI s, vA t, vA f, vI i] [] g u = some (0, vN, g, u') ∧ choT u' c = (fL (bdT u t) s d p).foldl (chTake (bdT u t) s) (choT u c) ∧ Fb f c u u' := by
    intro d
    induction d with
    | zero =>
      intro i u p h0 h1 hq hA hp
      refine ⟨u, ?_, rfl, fun _ _ _ _ => rfl⟩
      rw [R_Ch_searchShape_8, if_neg (by omega)]
    | succ d ih =>
      intro i u p h0 h1 hq hA hp
      obtain ⟨u1, e1, f1, n1⟩ := Tk_findNext hq hA hp
      obtain ⟨hq1, hb1⟩ := hq.fr f1
      have ec1 : choT u1 c = choT u c := by
        unfold choT
        rw [f1 c 0 (by omega), f1 c 1 (by omega), f1 c 2 (by omega), f1 c 3 (by omega), f1 c 4 (by omega)]
      rw [R_Ch_searchShape_8, if_pos (by omega)]
      simp only [gd_O hq.1.1, e1, cI_some]
      unfold fL
      cases hn : fN (bdT u t) s 256 p with
      | none => exact ⟨u1, by simp [bI], ec1, fun a k h1 h2 => f1 a k h1⟩
      | some q =>
        obtain ⟨hA1, hp1⟩ := n1 q hn
        obtain ⟨u2, e2, c2, f2⟩ := Ch_take (g := g) (u := u1) (p := q) hc hq.2.1 hA1 cf (bdT u t)
        have ft2 : ∀ (a : Nat) (k : Int), t ≤ a → a ≤ t + 2 → u2 a k = u1 a k := fun a k h1 h2 => f2 a k (by omega)
        have hb2 : bdT u2 t = bdT u t := (bdT_eq ft2).trans hb1
        obtain ⟨a1, a2, a3, a4, a5, a6, a7⟩ := hq1
        have hq2 : QS g u2 t f s := ⟨a1, a2, a3, a4, a5, tOk_eq ft2 a6, RO_eq (fun a k ha => f2 a k (by omega)) a7⟩
        obtain ⟨u3, e3, c3, f3⟩ := ih (i + 1) u2 q (by omega) (by omega) hq2 (FpA_eq (fun a k h1 h2 => f2 a k (by omega)) hA1) hp1
        have hpt := Tk_pointsOf (QS.ok ⟨a1, a2, a3, a4, a5, a6, a7⟩ hA1 hp1)
        rw [hb1] at hpt
        rw [bI_t (p := (some q).isSome = true) rfl, if_neg (by omega), hpt, cI_some]
        simp only [gd_O hc, e2, cV_some]
        rw [w_id (x := i + 1) (by omega) (by omega)]
        refine ⟨u3, e3, ?_, fun a k h1 h2 => by rw [f3 a k h1 h2, f2 a k h2, f1 a k h1]⟩
        rw [c3, hb2, c2, ec1]
        rfl
  obtain ⟨u1, e1, a1, f1⟩ := Fp_startAll (u := u) hq.2.1 hq.2.2.2.2.2.2 hq.2.2.2.2.1.1 hq.2.2.2.2.1.2
  obtain ⟨hq1, hb1⟩ := hq.fr f1
  obtain ⟨u2, e2, c2, f2⟩ := key 256 0 u1 _ (by omega) (by omega) hq1 a1 ⟨⟨by simp only; omega, by simp only; omega⟩, ⟨by simp only; omega, by simp only; omega⟩, by simp only; omega, by simp only; omega⟩
  refine ⟨u2, ?_, ?_, fun a k h1 h2 => by rw [f2 a k h1 h2, f1 a k h1]⟩
  · rw [C_Ch_searchShape]
    simp only [gd_O hq.2.1.1, e1, cV_some]
    exact e2
  · rw [c2, hb1]
    unfold choT
    rw [f1 c 0 (by omega), f1 c 1 (by omega), f1 c 2 (by omega), f1 c 3 (by omega), f1 c 4 (by omega)]
end
def bestTo (A : AS) : Nat → Cho
  | 0 => (-1, -1, -1, -1, -1)
  | d + 1 => if 0 < (aPl A A.mv).2.2.2.1 d then (fL A.bd d 256 (0, -1, 0)).foldl (chTake A.bd d) (bestTo A d) else bestTo A d
/-- the best placement for the mover -/
def aBest (A : AS) : Cho := if 2 ≤ A.ps then (-1, -1, -1, -1, -1) else bestTo A 5
section
variable {g : PG} {u : PM} {b f c : Nat}
theorem Ch_search (hq : SQ g u b f) (hc : KA g c (1, 0, 0)) (cf : c < f ∨ f + 5 < c) (cb : c < b ∨ b + 16 < c) (cR : c < 100000) : ∃ u', call M_Ch_search [vA c, vA b, vA f] g u = some (0, vN, g, u') ∧ choT u' c = aBest (absT u b) ∧ Fb f c u u' := by
  obtain ⟨v, hv⟩ : ∃ v, v = up (up (up (up (up u c 0 (-1)) c 1 (-1)) c 2 (-1)) c 3 (-1)) c 4 (-1) := ⟨_, rfl⟩
  have fv : ∀ (a : Nat) (k : Int), a ≠ c → v a k = u a k := fun a k h => by rw [hv, up_o h, up_o h, up_o h, up_o h, up_o h]
  have cv : choT v c = (-1, -1, -1, -1, -1) := by
    unfold choT
    rw [hv]
    simp (disch := omega) only [up_j, up_s]
  have av : absT v b = absT u b := absT_eq fun a k h1 h2 => fv a k (by omega)
  have step : ∀ u : PM, SQ g u b f → ∀ u', (Fb f c u u') → SQ g u' b f ∧ absT u' b = absT u b := fun u hq u' hF => by
    obtain ⟨a1, a2, a3, a4, a5, a6⟩ := hq
    have e : absT u' b = absT u b := absT_eq fun a k h1 h2 => hF a k (by omega) (by omega)
    have := kFp_lt a2
    exact ⟨⟨a1, a2, a3, a4, by rw [e]; exact a5, RO_eq (fun a k ha => hF a k (by omega) (by omega)) a6⟩, e⟩
  have fbv : Fb f c u v := fun a k _ h => fv a k h
  obtain ⟨hqv, -⟩ := step u hq v fbv
  have key : ∀ d : Nat, (d : Int) ≤ 5 → ∃ u', run M_Ch_search 35 [vA c, vA b, vA f, vI 0] [] g v = run M_Ch_search 35 [vA c, vA b, vA f, vI d] [] g u' ∧ choT u' c = bestTo (absT u b) d ∧ Fb f c u u' := by
    intro d
    induction d with
    | zero => intro _; exact ⟨v, rfl, cv, fbv⟩
    | succ d ih =>
      intro hd
      obtain ⟨u1, e1, c1, f1⟩ := ih (by omega)
      obtain ⟨hq1, a1⟩ := step u hq u1 f1
      have wd : w ((d : Int) + 1) = ((d + 1 : Nat) : Int) := by rw [w_id (by omega) (by omega)]; omega
      have em : u1 b 4 = (absT u b).mv := congrArg AS.mv a1
      have hs : ∃ u', run M_Ch_search 35 [vA c, vA b, vA f, vI d] [] g u1 = run M_Ch_search 35 [vA c, vA b, vA f, vI ((d + 1 : Nat) : Int)] [] g u' ∧ choT u' c = bestTo (absT u b) (d + 1) ∧ Fb f c u1 u' := by
        rw [R_Ch_search_35, if_pos (by omega)]
        simp only [gd_O hq1.1.1, St_playerOf hq1.1, cR_some, gd_O (kPl_pAd hq1.1 _).1, Pl_supplyOf (kPl_pAd hq1.1 _), cI_some, wd]
        rw [em, ← aPl_T, a1]
        unfold bestTo
        by_cases hp : 0 < (aPl (absT u b) (absT u b).mv).2.2.2.1 d
        · rw [if_pos hp, if_pos hp]
          obtain ⟨u2, e2, c2, f2⟩ := Ch_shape (c := c) (hq1.qs (s := d) (by omega) (by omega)) hc cf (by omega) cR
          have eb : bdT u1 (b + 1) = (absT u b).bd := congrArg AS.bd a1
          rw [gd_O hc, e2, cV_some]
          rw [eb, c1] at c2
          exact ⟨u2, rfl, c2, f2⟩
        · rw [if_neg hp, if_neg hp]
          exact ⟨u1, rfl, c1, fun _ _ _ _ => rfl⟩
      obtain ⟨u2, e2, c2, f2⟩ := hs
      exact ⟨u2, e1.trans e2, c2, fun a k h1 h2 => (f2 a k h1 h2).trans (f1 a k h1 h2)⟩
  rw [C_Ch_search]
  simp only [gd_O hc]
  rw [← hv, R_Ch_search_25, gd_O hqv.1.1, St_isFinished hqv.1, cI_some, fv b 5 (by omega)]
  unfold aBest
  show ∃ u', _ ∧ choT u' c = (if 2 ≤ u b 5 then _ else _) ∧ _
  by_cases h5 : 2 ≤ u b 5
  · rw [bI_t h5, if_neg (by decide), if_pos h5]
    exact ⟨v, rfl, cv, fbv⟩
  · rw [bI_f h5, if_pos rfl, if_neg h5]
    obtain ⟨u1, e1, c1, f1⟩ := key 5 (by decide)
    refine ⟨u1, e1.trans ?_, c1, f1⟩
    rw [R_Ch_search_35, if_neg (by decide)]
end
