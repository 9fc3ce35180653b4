/-! ===== the footprint goes over all places; the trunk's counts of fitting placements ===== -/
/-- only the footprint at f has changed -/
def Fr (f : Nat) (u u' : PM) : Prop := ∀ (a : Nat) (k : Int), ¬ (f ≤ a ∧ a ≤ f + 5) → u' a k = u a k
theorem Fr.rfl' {f : Nat} {u : PM} : Fr f u u := fun _ _ _ => rfl
theorem Fr.tr {f : Nat} {u v x : PM} (h : Fr f u v) (h' : Fr f v x) : Fr f u x := fun a k ha => (h' a k ha).trans (h a k ha)
theorem bdT_eq {u u' : PM} {t : Nat} (h : ∀ (a : Nat) (k : Int), t ≤ a → a ≤ t + 2 → u' a k = u a k) : bdT u' t = bdT u t := by
  unfold bdT
  rw [h t 0 (by omega) (by omega), h t 1 (by omega) (by omega), show u' (t + 1) = u (t + 1) from funext fun k => h _ k (by omega) (by omega), show u' (t + 2) = u (t + 2) from funext fun k => h _ k (by omega) (by omega)]
theorem tOk_eq {u u' : PM} {t : Nat} (h : ∀ (a : Nat) (k : Int), t ≤ a → a ≤ t + 2 → u' a k = u a k) (ho : tOk u t) : tOk u' t := by
  obtain ⟨h1, h2, h3⟩ := ho
  refine ⟨?_, ?_, fun j j0 j1 => ?_⟩
  · rw [h t 0 (by omega) (by omega)]; exact h1
  · rw [h t 1 (by omega) (by omega)]; exact h2
  · rw [h (t + 2) j (by omega) (by omega)]; exact h3 j j0 j1
theorem RO_eq {u u' : PM} (h : ∀ (a : Nat) (k : Int), 100000 ≤ a → u' a k = u a k) (hR : RO u) : RO u' := by
  obtain ⟨h1, h2, h3⟩ := hR
  refine ⟨fun i hi => ?_, fun i hi => ?_, fun i hi => ?_⟩
  · rw [h _ _ (by omega)]; exact h1 i hi
  · rw [h _ _ (by omega)]; exact h2 i hi
  · rw [h _ _ (by omega)]; exact h3 i hi
/-- places: rotation, column, row -/
abbrev Pos : Type := Int × Int × Int
def pOk (p : Pos) : Prop := (0 ≤ p.1 ∧ p.1 < 4) ∧ (-1 ≤ p.2.1 ∧ p.2.1 ≤ 8) ∧ 0 ≤ p.2.2 ∧ p.2.2 ≤ 8
def nextP (C R : Int) (p : Pos) : Option Pos := if p.2.1 + 1 < C then some (p.1, p.2.1 + 1, p.2.2) else if p.2.2 + 1 < R then some (p.1, 0, p.2.2 + 1) else if p.1 < 3 then some (p.1 + 1, 0, 0) else none
def FpA (u : PM) (f : Nat) (s : Int) (p : Pos) : Prop := FpAt u f s p.1 p.2.1 p.2.2
theorem FpT_mv {u u' : PM} {f : Nat} {s r : Int} (h : ∀ (a : Nat) (k : Int), ¬ (a = f ∧ (k = 2 ∨ k = 3)) → u' a k = u a k) (hT : FpT u f s r) : FpT u' f s r := by
  obtain ⟨a1, a2, a3, a4, a5, a6⟩ := hT
  have e : ∀ k : Int, k ≠ 2 → k ≠ 3 → u' f k = u f k := fun k h2 h3 => h f k (by omega)
  have e' : ∀ (a : Nat) (k : Int), a ≠ f → u' a k = u a k := fun a k ha => h a k (by omega)
  refine ⟨?_, ?_, ?_, ?_, fun k h0 h1 => ?_, fun k x hx => ?_⟩
  · rw [e 0 (by omega) (by omega)]; exact a1
  · rw [e 1 (by omega) (by omega)]; exact a2
  · rw [e 4 (by omega) (by omega)]; exact a3
  · rw [e 5 (by omega) (by omega)]; exact a4
  · rw [e' (f + 1) k (by omega), e' (f + 2) k (by omega)]; exact a5 k h0 h1
  · rw [e' (f + 3) k (by omega), e' (f + 4) k (by omega), e' (f + 5) k (by omega)]; exact a6 k x hx
theorem up_n {u : PM} {o a : Nat} {j v k : Int} (h : ¬ (a = o ∧ k = j)) : up u o j v a k = u a k := if_neg h
section
variable {g : PG} {u : PM} {t f : Nat} {s r x y : Int} {p : Pos}
theorem Fp_moveTo (hk : kFp g f) (x y : Int) : call M_Fp_moveTo [vA f, vI x, vI y] g u = some (0, vN, g, up (up u f 2 x) f 3 y) := by
  rw [C_Fp_moveTo]
  simp only [gd_O hk.1]
theorem Fp_move (hk : kFp g f) (hT : FpT u f s r) (x y : Int) : ∃ u', call M_Fp_moveTo [vA f, vI x, vI y] g u = some (0, vN, g, u') ∧ FpAt u' f s r x y ∧ Fr f u u' := by
  refine ⟨_, Fp_moveTo hk x y, ⟨FpT_mv (fun a k h => ?_) hT, ?_, ?_⟩, fun a k h => ?_⟩
  · rw [up_n (by omega), up_n (by omega)]
  · rw [up_j (by omega), up_s]
  · rw [up_s]
  · rw [up_o (by omega), up_o (by omega)]
theorem kFp_lt (hk : kFp g f) : f + 5 < 100000 := pW_el hk.2.2.2.2.2.1
theorem Fp_startAll (hk : kFp g f) (hR : RO u) (h0 : 0 ≤ s) (h1 : s < 5) : ∃ u', call M_Fp_startAll [vA f, vI s] g u = some (0, vN, g, u') ∧ FpA u' f s (0, -1, 0) ∧ Fr f u u' := by
  obtain ⟨u1, e1, t1, -, -, f1⟩ := Fp_turn (r := 0) hk hR h0 h1 (by omega) (by omega)
  obtain ⟨u2, e2, t2, f2⟩ := Fp_move hk t1 (-1) 0
  refine ⟨u2, ?_, t2, Fr.tr f1 f2⟩
  rw [C_Fp_startAll]
  simp only [gd_O hk.1, e1, e2, cV_some]
theorem Fp_advance (hk : kFp g f) (hR : RO u) (h0 : 0 ≤ s) (h1 : s < 5) (hA : FpA u f s p) (hp : pOk p) {C R : Int} (hC : C ≤ 8) (hRR : R ≤ 8) :
    ∃ u', call M_Fp_advance [vA f, vI C, vI R] g u = some (0, vI (bI ((nextP C R p).isSome = true)), g, u') ∧ Fr f u u' ∧ ∀ q, nextP C R p = some q → FpA u' f s q ∧ pOk q := by
  obtain ⟨r, x, y⟩ := p
  obtain ⟨⟨p1, p2⟩, ⟨p3, p4⟩, p5, p6⟩ := hp
  simp only at p1 p2 p3 p4 p5 p6
  obtain ⟨hT, hx, hy⟩ := hA
  simp only at hT hx hy
  have hlt := kFp_lt hk
  have wx : w (x + 1) = x + 1 := w_id (by omega) (by omega)
  have wy : w (y + 1) = y + 1 := w_id (by omega) (by omega)
  have wr : w (r + 1) = r + 1 := w_id (by omega) (by omega)
  rw [C_Fp_advance]
  simp only [gd_O hk.1]
  simp (disch := decide) only [up_s, up_j]
  rw [hx, hy, hT.1, hT.2.1, wx, wy, wr]
  unfold nextP
  simp only
  by_cases c1 : x + 1 < C
  · rw [if_pos c1, if_pos c1]
    refine ⟨_, rfl, fun a k ha => up_o (by omega), fun q hq => ?_⟩
    obtain rfl := Option.some.inj hq
    refine ⟨⟨FpT_mv (fun a k h => up_n (by omega)) hT, up_s .., ?_⟩, ⟨p1, p2⟩, ⟨by simp only; omega, by simp only; omega⟩, p5, p6⟩
    simp only
    rw [up_j (by omega), hy]
  · rw [if_neg c1, if_neg c1]
    by_cases c2 : y + 1 < R
    · rw [if_pos c2, if_pos c2]
      refine ⟨_, rfl, fun a k ha => ?_, fun q hq => ?_⟩
      · rw [up_o (by omega), up_o (by omega), up_o (by omega)]
      · obtain rfl := Option.some.inj hq
        refine ⟨⟨FpT_mv (fun a k h => ?_) hT, ?_, up_s ..⟩, ⟨p1, p2⟩, ⟨by simp only; omega, by simp only; omega⟩, by simp only; omega, by simp only; omega⟩
        · rw [up_n (by omega), up_n (by omega), up_n (by omega)]
        · simp only
          rw [up_j (by omega), up_s]
    · rw [if_neg c2, if_neg c2]
      have fr : Fr f u (up (up (up (up u f 2 (x + 1)) f 2 0) f 3 (y + 1)) f 3 0) := fun a k ha => by rw [up_o (by omega), up_o (by omega), up_o (by omega), up_o (by omega)]
      by_cases c3 : r < 3
      · rw [if_pos c3, if_pos c3]
        obtain ⟨u1, e1, t1, x1, y1, f1⟩ := Fp_turn (g := g) (r := r + 1) hk (RO_eq (fun a k ha => fr a k (by omega)) hR) h0 h1 (by omega) (by omega)
        refine ⟨u1, ?_, fr.tr f1, fun q hq => ?_⟩
        · rw [e1, cV_some]; rfl
        · obtain rfl := Option.some.inj hq
          refine ⟨⟨t1, ?_, ?_⟩, ⟨by simp only; omega, by simp only; omega⟩, ⟨by simp only; omega, by simp only; omega⟩, by simp only; omega, by simp only; omega⟩
          · rw [x1, up_j (by omega), up_j (by omega), up_s]
          · rw [y1, up_s]
      · rw [if_neg c3, if_neg c3]
        exact ⟨_, rfl, fr, fun q hq => by cases hq⟩
/-- the next place at which the shape fits; all of them -/
def fN (B : Bd) (s : Int) : Nat → Pos → Option Pos
  | 0, _ => none
  | k + 1, p => match nextP B.1 B.2.1 p with
    | none => none
    | some q => if bMis B s q.1 q.2.1 q.2.2 = 0 then some q else fN B s k q
def fL (B : Bd) (s : Int) : Nat → Pos → List Pos
  | 0, _ => []
  | k + 1, p => match fN B s 256 p with
    | none => []
    | some q => q :: fL B s k q
/-- what the walk over all places stands on -/
def QS (g : PG) (u : PM) (t f : Nat) (s : Int) : Prop := kTk g t ∧ kFp g f ∧ (t + 2 < f ∨ f + 5 < t) ∧ t + 2 < 100000 ∧ (0 ≤ s ∧ s < 5) ∧ tOk u t ∧ RO u
theorem QS.fr {u' : PM} (h : QS g u t f s) (hf : Fr f u u') : QS g u' t f s ∧ bdT u' t = bdT u t := by
  obtain ⟨a1, a2, a3, a4, a5, a6, a7⟩ := h
  have := kFp_lt a2
  have e : ∀ (a : Nat) (k : Int), t ≤ a → a ≤ t + 2 → u' a k = u a k := fun a k h1 h2 => hf a k (by omega)
  exact ⟨⟨a1, a2, a3, a4, a5, tOk_eq e a6, RO_eq (fun a k ha => hf a k (by omega)) a7⟩, bdT_eq e⟩
theorem QS.ok (h : QS g u t f s) (hA : FpA u f s p) (hp : pOk p) : QOk g u t f s p.1 p.2.1 p.2.2 := by
  obtain ⟨a1, a2, a3, a4, a5, a6, a7⟩ := h
  obtain ⟨p1, p2, p3⟩ := hp
  exact ⟨a1, a6, a2, hA, a5, p1, ⟨by omega, by omega⟩, by omega, by omega⟩
theorem Tk_findNext (hq : QS g u t f s) (hA : FpA u f s p) (hp : pOk p) : ∃ u', call M_Tk_findNext [vA t, vA f] g u = some (0, vI (bI ((fN (bdT u t) s 256 p).isSome = true)), g, u') ∧ Fr f u u' ∧ ∀ q, fN (bdT u t) s 256 p = some q → FpA u' f s q ∧ pOk q := by
  rw [C_Tk_findNext]
  have key : ∀ (d : Nat) (i : Int) (u : PM) (p : Pos), 0 ≤ i → i + d = 256 → QS g u t f s → FpA u f s p → pOk p → ∃ u', run M_Tk_findNext 2 [vA t, vA f, vI i] [] g u = some (0, vI (bI ((fN (bdT u t) s d p).isSome = true)), g, u') ∧ Fr f u u' ∧ ∀ q, fN (bdT u t) s d p = some q → FpA u' f s q ∧ pOk q := by
    intro d
    induction d with
    | zero =>
      intro i u p h0 h1 hq hA hp
      refine ⟨u, ?_, Fr.rfl', fun q h => by cases h⟩
      rw [R_Tk_findNext_2, if_neg (by omega)]
      rfl
    | succ d ih =>
      intro i u p h0 h1 hq hA hp
      obtain ⟨k1, k2, dj, tl, hs, ho, hR⟩ := hq
      obtain ⟨u1, e1, f1, n1⟩ := Fp_advance k2 hR hs.1 hs.2 hA hp ho.1.2 ho.2.1.2
      obtain ⟨hq1, hb1⟩ := QS.fr ⟨k1, k2, dj, tl, hs, ho, hR⟩ f1
      rw [R_Tk_findNext_2, if_pos (by omega)]
      simp only [gd_O k1.1, gd_O k2.1, e1, cI_some]
      show ∃ u', (if bI ((nextP (bdT u t).1 (bdT u t).2.1 p).isSome = true) = 0 then _ else _) = _ ∧ _
      unfold fN
      change ∀ q, nextP (bdT u t).1 (bdT u t).2.1 p = some q → _ at n1
      cases hn : nextP (bdT u t).1 (bdT u t).2.1 p with
      | none => exact ⟨u1, rfl, f1, fun q h => by cases h⟩
      | some q =>
        obtain ⟨hA1, hp1⟩ := n1 q hn
        simp only [Option.isSome_some, bI_t]
        rw [if_neg (by omega), Tk_misfitOf (hq1.ok hA1 hp1), cI_some, hb1]
        by_cases hm : bMis (bdT u t) s q.1 q.2.1 q.2.2 = 0
        · rw [if_pos hm]
          refine ⟨u1, ?_, f1, fun q' h => ?_⟩
          · exact congrArg (fun z => some (0, vI z, g, u1)) (bI_t (by rw [if_pos hm]; rfl)).symm
          · rw [if_pos hm] at h
            obtain rfl := Option.some.inj h
            exact ⟨hA1, hp1⟩
        · rw [if_neg hm, w_id (by omega) (by omega)]
          obtain ⟨u2, e2, f2, n2⟩ := ih (i + 1) u1 q (by omega) (by omega) hq1 hA1 hp1
          rw [hb1] at e2 n2
          refine ⟨u2, ?_, f1.tr f2, fun q' h => ?_⟩
          · exact e2.trans (congrArg (fun z => some (0, vI z, g, u2)) (bI_congr (by rw [if_neg hm])))
          · rw [if_neg hm] at h
            exact n2 q' h
  exact key 256 0 u p (by omega) (by omega) hq hA hp
theorem fL_len (B : Bd) (s : Int) : ∀ (k : Nat) (p : Pos), (fL B s k p).length ≤ k
  | 0, _ => Nat.le_refl _
  | k + 1, p => by
    unfold fL
    split
    · exact Nat.zero_le _
    · exact Nat.succ_le_succ (fL_len B s k _)
theorem Tk_countFitting (hq : QS g u t f s) : ∃ u', call M_Tk_countFitting [vA t, vI s, vA f] g u = some (0, vI (fL (bdT u t) s 256 (0, -1, 0)).length, g, u') ∧ Fr f u u' := by
  have key : ∀ (d : Nat) (i : Int) (u : PM) (p : Pos), 0 ≤ i → i + d = 256 → QS g u t f s → FpA u f s p → pOk p → ∃ u', run M_Tk_countFitting 7 [vA t, vI s, vA f, vI i] [] g u = some (0, vI (i + (fL (bdT u t) s d p).length), g, u') ∧ Fr f u u' := by
    intro d
    induction d with
    | zero =>
      intro i u p h0 h1 hq hA hp
      refine ⟨u, ?_, Fr.rfl'⟩
      rw [R_Tk_countFitting_7, if_neg (by omega)]
      simp [fL]
    | succ d ih =>
      intro i u p h0 h1 hq hA hp
      obtain ⟨u1, e1, f1, n1⟩ := Tk_findNext hq hA hp
      obtain ⟨hq1, hb1⟩ := hq.fr f1
      rw [R_Tk_countFitting_7, if_pos (by omega)]
      simp only [gd_O hq.1.1, e1, cI_some]
      unfold fL
      cases hn : fN (bdT u t) s 256 p with
      | none => exact ⟨u1, by simp [bI], f1⟩
      | some q =>
        obtain ⟨hA1, hp1⟩ := n1 q hn
        simp only [Option.isSome_some, bI_t]
        rw [if_neg (by omega), w_id (by omega) (by omega)]
        obtain ⟨u2, e2, f2⟩ := ih (i + 1) u1 q (by omega) (by omega) hq1 hA1 hp1
        refine ⟨u2, ?_, f1.tr f2⟩
        rw [e2, hb1]
        simp only [List.length_cons, Int.natCast_succ]
        rw [show i + 1 + ((fL (bdT u t) s d q).length : Int) = i + ((fL (bdT u t) s d q).length + 1) by omega]
  obtain ⟨u1, e1, a1, f1⟩ := Fp_startAll (u := u) hq.2.1 hq.2.2.2.2.2.2 hq.2.2.2.2.1.1 hq.2.2.2.2.1.2
  obtain ⟨hq1, hb1⟩ := hq.fr f1
  obtain ⟨u2, e2, f2⟩ := key 256 0 u1 _ (by omega) (by omega) hq1 a1 ⟨⟨by simp only; omega, by simp only; omega⟩, ⟨by simp only; omega, by simp only; omega⟩, by simp only; omega, by simp only; omega⟩
  refine ⟨u2, ?_, f1.tr f2⟩
  rw [C_Tk_countFitting]
  simp only [gd_O hq.2.1.1, e1, cV_some]
  rw [e2, hb1, Int.zero_add]
end
