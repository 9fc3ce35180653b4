/-! ===== the best placement: the class's answers, the reference's search ===== -/
/-- what the class's questions may alter; what the reference's may -/
def FqT (t : Nat) (u u' : PM) : Prop := ∀ (a : Nat) (k : Int), ¬ (t + 43 ≤ a ∧ a ≤ t + 59) → ¬ (t + 234 ≤ a ∧ a ≤ t + 246) → u' a k = u a k
def FqM (t : Nat) (u u' : PM) : Prop := ∀ (a : Nat) (k : Int), ¬ (a = t ∧ (k = 7 ∨ k = 17 ∨ (24 ≤ k ∧ k ≤ 27))) → a ≠ t + 2 → a ≠ t + 9 → a ≠ t + 10 → a ≠ t + 11 → ¬ (a = t + 1 ∧ ¬ (0 ≤ k ∧ k < 417)) → u' a k = u a k
def AqT (g : PG) (u : PM) (t : Nat) (c : Option PO) (e : Nat) (v : Int) : Prop := ∃ u', FqT t u u' ∧ c = if e = 0 then some (0, vI v, g, u') else some (e, vN, gX g, u')
def AqM (g : PG) (u : PM) (t : Nat) (c : Option PO) (code v : Int) : Prop := ∃ u', c = some (0, vI v, g, u') ∧ u' t 7 = code ∧ FqM t u u'
theorem Fr.qT {t : Nat} {u v : PM} (h : Fr (t + 234) u v) : FqT t u v := fun a k _ h2 => h a k (by omega)
theorem AnT.q {g : PG} {u : PM} {t : Nat} {c : Option PO} {e : Nat} {v : Int} (h : AnT g u t c e v) : AqT g u t c e v := by
  obtain ⟨u', h1, h2⟩ := h
  exact ⟨u', h1.qT, h2⟩
theorem Fq.qM {t : Nat} {u v : PM} (h : Fq t u v) : FqM t u v := fun a k h1 _ h3 h4 _ _ => h a k (by omega) h3 h4
theorem AnM.q {g : PG} {u : PM} {t : Nat} {c : Option PO} {e v : Int} (h : AnM g u t c e v) : AqM g u t c e v := by
  obtain ⟨u', h1, h2, h3⟩ := h
  exact ⟨u', h1, h2, h3.qM⟩
section
variable {g : PG} {u : PM} {t : Nat}
theorem TD_bestAll (h : pOk2 g u t) (hc : KA g (t + 240) (1, 0, 0)) : ∃ u', call M_Ch_search [vA (t + 240), vA (t + 26), vA (t + 234)] g u = some (0, vN, g, u') ∧ choT u' (t + 240) = aBest (absT u (t + 26)) ∧ FqT t u u' := by
  have hlt := h.1.2.2.2
  obtain ⟨u', e1, c1, f1⟩ := Ch_search (c := t + 240) h.sq hc (by omega) (by omega) (by omega)
  exact ⟨u', e1, c1, fun a k _ n2 => f1 a k (by omega) (by omega)⟩
theorem TD_bestShape (h : pOk2 g u t) (hc : KA g (t + 240) (1, 0, 0)) : AqT g u t (call M_TD_bestShape [vA t] g u) 0 (aBest (absT u (t + 26))).1 := by
  obtain ⟨u', e1, c1, f1⟩ := TD_bestAll h hc
  refine ⟨u', f1, ?_⟩
  rw [C_TD_bestShape]
  simp only [gd_O h.1.1, gd_O hc, e1, cV_some]
  rw [← c1]
  rfl
theorem TD_bestRotation (h : pOk2 g u t) (hc : KA g (t + 240) (1, 0, 0)) : AqT g u t (call M_TD_bestRotation [vA t] g u) 0 (aBest (absT u (t + 26))).2.1 := by
  obtain ⟨u', e1, c1, f1⟩ := TD_bestAll h hc
  refine ⟨u', f1, ?_⟩
  rw [C_TD_bestRotation]
  simp only [gd_O h.1.1, gd_O hc, e1, cV_some]
  rw [← c1]
  rfl
theorem TD_bestColumn (h : pOk2 g u t) (hc : KA g (t + 240) (1, 0, 0)) : AqT g u t (call M_TD_bestColumn [vA t] g u) 0 (aBest (absT u (t + 26))).2.2.1 := by
  obtain ⟨u', e1, c1, f1⟩ := TD_bestAll h hc
  refine ⟨u', f1, ?_⟩
  rw [C_TD_bestColumn]
  simp only [gd_O h.1.1, gd_O hc, e1, cV_some]
  rw [← c1]
  rfl
theorem TD_bestRow (h : pOk2 g u t) (hc : KA g (t + 240) (1, 0, 0)) : AqT g u t (call M_TD_bestRow [vA t] g u) 0 (aBest (absT u (t + 26))).2.2.2.1 := by
  obtain ⟨u', e1, c1, f1⟩ := TD_bestAll h hc
  refine ⟨u', f1, ?_⟩
  rw [C_TD_bestRow]
  simp only [gd_O h.1.1, gd_O hc, e1, cV_some]
  rw [← c1]
  rfl
end
theorem bPts_pos {B : Bd} {s r y : Int} (h0 : 0 ≤ B.1) (hs : 0 ≤ s ∧ s < 5) : 0 < bPts B s r y := by
  have hz := sz_bd hs.1 hs.2
  have : 0 ≤ sumI (fun j => if 0 < bRow s r y j ∧ bRow s r y j = bEmp B j then B.1 else 0) B.2.1.toNat := (sumI_bd (b := B.1) fun i _ _ => by split <;> omega).1
  unfold bPts
  omega
/-- two searches that began with -1 and with 0 points -/
def chR (a b : Cho) : Prop := a = b ∨ (a = (-1, -1, -1, -1, -1) ∧ b = (-1, -1, -1, -1, 0))
theorem chR_take {B : Bd} {s : Int} (h0 : 0 ≤ B.1) (hs : 0 ≤ s ∧ s < 5) {a b : Cho} (h : chR a b) (p : Pos) : chR (chTake B s a p) (chTake B s b p) := by
  rcases h with rfl | ⟨rfl, rfl⟩
  · exact Or.inl rfl
  · have := bPts_pos (r := p.1) (y := p.2.2) h0 hs
    left
    unfold chTake
    rw [if_pos (by show -1 < bPts B s p.1 p.2.2; omega), if_pos (by show 0 < bPts B s p.1 p.2.2; omega)]
theorem chR_fold {B : Bd} {s : Int} (h0 : 0 ≤ B.1) (hs : 0 ≤ s ∧ s < 5) : ∀ (l : List Pos) {a b : Cho}, chR a b → chR (l.foldl (chTake B s) a) (l.foldl (chTake B s) b)
  | [], _, _, h => h
  | p :: l, _, _, h => chR_fold h0 hs l (chR_take h0 hs h p)
/-- the reference's search -/
def bestM (A : AS) : Nat → Cho
  | 0 => (-1, -1, -1, -1, 0)
  | d + 1 => if 0 < (aPl A A.mv).2.2.2.1 d then ((allP A.bd).filter (mis0 A.bd d)).foldl (chTake A.bd d) (bestM A d) else bestM A d
theorem bestM_R {A : AS} (hB : bOk A.bd) : ∀ d : Nat, d ≤ 5 → chR (bestTo A d) (bestM A d)
  | 0, _ => Or.inr ⟨rfl, rfl⟩
  | d + 1, hd => by
    have ih := bestM_R hB d (by omega)
    unfold bestTo bestM
    by_cases hp : 0 < (aPl A A.mv).2.2.2.1 d
    · rw [if_pos hp, if_pos hp, fL_all hB (by omega) (by omega)]
      exact chR_fold hB.1.1 (by omega) _ ih
    · rw [if_neg hp, if_neg hp]
      exact ih
theorem chR_4 {a b : Cho} (h : chR a b) : a.1 = b.1 ∧ a.2.1 = b.2.1 ∧ a.2.2.1 = b.2.2.1 ∧ a.2.2.2.1 = b.2.2.2.1 := by
  rcases h with rfl | ⟨rfl, rfl⟩
  · exact ⟨rfl, rfl, rfl, rfl⟩
  · exact ⟨rfl, rfl, rfl, rfl⟩
def choM (u : PM) (t : Nat) (m : Int) : Cho := (u t 24, u t 25, u t 26, u t 27, m)
def Fbm (t : Nat) (u u' : PM) : Prop := ∀ (a : Nat) (k : Int), ¬ (a = t ∧ (k = 17 ∨ (24 ≤ k ∧ k ≤ 27))) → a ≠ t + 9 → a ≠ t + 10 → u' a k = u a k
theorem Fbm.rfl' {t : Nat} {u : PM} : Fbm t u u := fun _ _ _ _ _ => rfl
theorem Fbm.tr {t : Nat} {u v x : PM} (h : Fbm t u v) (h' : Fbm t v x) : Fbm t u x := fun a k h1 h2 h3 => (h' a k h1 h2 h3).trans (h a k h1 h2 h3)
theorem Fm.bm {t : Nat} {u v : PM} (h : Fm t u v) : Fbm t u v := fun a k h1 h2 h3 => h a k (by omega) h2 h3
theorem Fbm.s {t : Nat} {u v : PM} (h : Fbm t u v) : v (t + 1) = u (t + 1) := funext fun k => h _ k (by omega) (by omega) (by omega)
theorem Fm.cho {t : Nat} {u v : PM} (h : Fm t u v) (m : Int) : choM v t m = choM u t m := by
  unfold choM
  rw [h t 24 (by omega) (by omega) (by omega), h t 25 (by omega) (by omega) (by omega), h t 26 (by omega) (by omega) (by omega), h t 27 (by omega) (by omega) (by omega)]
section
variable {g : PG} {u : PM} {t : Nat} {s r : Int}
/-- the supply that the reference reads -/
theorem sup_M {m : Int → Int} {p k : Int} (hp : p = 0 ∨ p = 1) (h0 : 0 ≤ k) (h1 : k < 5) : (aPl (absM m) p).2.2.2.1 k = m (5 + 14 * p + (2 + k)) := by
  rw [aPl_M hp]
  show cl 5 (fun k => m (5 + 14 * p + 2 + k)) k = _
  rw [cl_in h0 h1, show 5 + 14 * p + 2 + k = 5 + 14 * p + (2 + k) by omega]
end
