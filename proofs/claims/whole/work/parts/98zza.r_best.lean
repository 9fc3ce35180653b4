/-! ===== the best placement: the class's answers, the reference's search ===== -/
/-- what the class's questions may alter; what the reference's may -/
def FqT (t : Nat) (u u' : PM) : Prop := ∀ (a : Nat) (k : Int), ¬ (t + 43 ≤ a ∧ a ≤ t + 59) → ¬ (t + 234 ≤ a ∧ a ≤ t + 246) → u' a k = u a k
def FqM (t : Nat) (u u' : PM) : Prop := ∀ (a : Nat) (k : Int), ¬ (a = t ∧ (k = 7 ∨ k = 17 ∨ (24 ≤ k ∧ k ≤ 27))) → a ≠ t + 2 → a ≠ t + 9 → a ≠ t + 10 → a ≠ t + 11 → ¬ (a = t + 1 ∧ ¬ (0 ≤ k ∧ k < 417)) → u' a k = u a k
def AqT (g : PG) (u : PM) (t : Nat) (c : Option PO) (e : Nat) (v : Int) : Prop := ∃ u', FqT t u u' ∧ c = if e = 0 then some (0, vI v, g, u') else some (e, vN, gX g, u')
def AqM (g : PG) (u : PM) (t : Nat) (c : Option PO) (code v : Int) : Prop := ∃ u', c = some (0, vI v, g, u') ∧ u' t 7 = code ∧ FqM t u u'
theorem Fr.qT {t : Nat} {u v : PM} (h : Fr (t + 234) u v) : FqT t u v := fun a k _ h2 => h a k (by omega)
theorem AnT.q {g : PG} {u : PM} {t : Nat} {c : Option PO} {e : Nat} {v : Int} (h : AnT g u t c e v) : AqT g u t c e v := by
  obtain ⟨u', h1, h2⟩ := h
  exact ⟨u', h1.qT, h2⟩
theorem Fq.qM {t : Nat} {u v : PM} (h : Fq t u v) : FqM t u v := fun a k h1 _ h3 h4 _ _ => h a k (by omega) h3 h4
theorem AnM.q {g : PG} {u : PM} {t : Nat} {c : Option PO} {e v : Int} (h : AnM g u t c e v) : AqM g u t c e v := by
  obtain ⟨u', h1, h2, h3⟩ := h
  exact ⟨u', h1, h2, h3.qM⟩
section
variable {g : PG} {u : PM} {t : Nat}
theorem TD_bestAll (h : pOk2 g u t) (hc : KA g (t + 240) (1, 0, 0)) : ∃ u', call M_Ch_search [vA (t + 240), vA (t + 26), vA (t + 234)] g u = some (0, vN, g, u') ∧ choT u' (t + 240) = aBest (absT u (t + 26)) ∧ FqT t u u' := by
  have hlt := h.1.2.2.2
  obtain ⟨u', e1, c1, f1⟩ := Ch_search (c := t + 240) h.sq hc (by omega) (by omega) (by omega)
  exact ⟨u', e1, c1, fun a k _ n2 => f1 a k (by omega) (by omega)⟩
theorem TD_bestShape (h : pOk2 g u t) (hc : KA g (t + 240) (1, 0, 0)) : AqT g u t (call M_TD_bestShape [vA t] g u) 0 (aBest (absT u (t + 26))).1 := by
  obtain ⟨u', e1, c1, f1⟩ := TD_bestAll h hc
  refine ⟨u', f1, ?_⟩
  rw [C_TD_bestShape]
  simp only [gd_O h.1.1, gd_O hc, e1, cV_some]
  rw [← c1]
  rfl
theorem TD_bestRotation (h : pOk2 g u t) (hc : KA g (t + 240) (1, 0, 0)) : AqT g u t (call M_TD_bestRotation [vA t] g u) 0 (aBest (absT u (t + 26))).2.1 := by
  obtain ⟨u', e1, c1, f1⟩ := TD_bestAll h hc
  refine ⟨u', f1, ?_⟩
  rw [C_TD_bestRotation]
  simp only [gd_O h.1.1, gd_O hc, e1, cV_some]
  rw [← c1]
  rfl
theorem TD_bestColumn (h : pOk2 g u t) (hc : KA g (t + 240) (1, 0, 0)) : AqT g u t (call M_TD_bestColumn [vA t] g u) 0 (aBest (absT u (t + 26))).2.2.1 := by
  obtain ⟨u', e1, c1, f1⟩ := TD_bestAll h hc
  refine ⟨u', f1, ?_⟩
  rw [C_TD_bestColumn]
  simp only [gd_O h.1.1, gd_O hc, e1, cV_some]
  rw [← c1]
  rfl
theorem TD_bestRow (h : pOk2 g u t) (hc : KA g (t + 240) (1, 0, 0)) : AqT g u t (call M_TD_bestRow [vA t] g u) 0 (aBest (absT u (t + 26))).2.2.2.1 := by
  obtain ⟨u', e1, c1, f1⟩ := TD_bestAll h hc
  refine ⟨u', f1, ?_⟩
  rw [C_TD_bestRow]
  simp only [gd_O h.1.1, gd_O hc, e1, cV_some]
  rw [← c1]
  rfl
end
theorem bPts_pos {B : Bd} {s r y : Int} (h0 : 0 ≤ B.1) (hs : 0 ≤ s ∧ s < 5) : 0 < bPts B s r y := by
  have hz := sz_bd hs.1 hs.2
  have : 0 ≤ sumI (fun j => if 0 < bRow s r y j ∧ bRow s r y j = bEmp B j then B.1 else 0) B.2.1.toNat := (sumI_bd (b := B.1) fun i _ _ => by split <;> omega).1
  unfold bPts
  omega
/-- two searches that began with -1 and with 0 points -/
def chR (a b : Cho) : Prop := a = b ∨ (a = (-1, -1, -1, -1, -1) ∧ b = (-1, -1, -1, -1, 0))
theorem chR_take {B : Bd} {s : Int} (h0 : 0 ≤ B.1) (hs : 0 ≤ s ∧ s < 5) {a b : Cho} (h : chR a b) (p : Pos) : chR (chTake B s a p) (chTake B s b p) := by
  rcases h with rfl | ⟨rfl, rfl⟩
  · exact Or.inl rfl
  · have := bPts_pos (r := p.1) (y := p.2.2) h0 hs
    left
    unfold chTake
    rw [if_pos (by show -1 < bPts B s p.1 p.2.2; omega), if_pos (by show 0 < bPts B s p.1 p.2.2; omega)]
theorem chR_fold {B : Bd} {s : Int} (h0 : 0 ≤ B.1) (hs : 0 ≤ s ∧ s < 5) : ∀ (l : List Pos) {a b : Cho}, chR a b → chR (l.foldl (chTake B s) a) (l.foldl (chTake B s) b)
  | [], _, _, h => h
  | p :: l, _, _, h => chR_fold h0 hs l (chR_take h0 hs h p)
/-- the reference's search -/
def bestM (A : AS) : Nat → Cho
  | 0 => (-1, -1, -1, -1, 0)
  | d + 1 => if 0 < (aPl A A.mv).2.2.2.1 d then ((allP A.bd).filter (mis0 A.bd d)).foldl (chTake A.bd d) (bestM A d) else bestM A d
theorem bestM_R {A : AS} (hB : bOk A.bd) : ∀ d : Nat, d ≤ 5 → chR (bestTo A d) (bestM A d)
  | 0, _ => Or.inr ⟨rfl, rfl⟩
  | d + 1, hd => by
    have ih := bestM_R hB d (by omega)
    unfold bestTo bestM
    by_cases hp : 0 < (aPl A A.mv).2.2.2.1 d
    · rw [if_pos hp, if_pos hp, fL_all hB (by omega) (by omega)]
      exact chR_fold hB.1.1 (by omega) _ ih
    · rw [if_neg hp, if_neg hp]
      exact ih
theorem chR_4 {a b : Cho} (h : chR a b) : a.1 = b.1 ∧ a.2.1 = b.2.1 ∧ a.2.2.1 = b.2.2.1 ∧ a.2.2.2.1 = b.2.2.2.1 := by
  rcases h with rfl | ⟨rfl, rfl⟩
  · exact ⟨rfl, rfl, rfl, rfl⟩
  · exact ⟨rfl, rfl, rfl, rfl⟩
def choM (u : PM) (t : Nat) (m : Int) : Cho := (u t 24, u t 25, u t 26, u t 27, m)
def Fbm (t : Nat) (u u' : PM) : Prop := ∀ (a : Nat) (k : Int), ¬ (a = t ∧ (k = 17 ∨ (24 ≤ k ∧ k ≤ 27))) → a ≠ t + 9 → a ≠ t + 10 → u' a k = u a k
theorem Fbm.rfl' {t : Nat} {u : PM} : Fbm t u u := fun _ _ _ _ _ => rfl
theorem Fbm.tr {t : Nat} {u v x : PM} (h : Fbm t u v) (h' : Fbm t v x) : Fbm t u x := fun a k h1 h2 h3 => (h' a k h1 h2 h3).trans (h a k h1 h2 h3)
theorem Fm.bm {t : Nat} {u v : PM} (h : Fm t u v) : Fbm t u v := fun a k h1 h2 h3 => h a k (by omega) h2 h3
theorem Fbm.s {t : Nat} {u v : PM} (h : Fbm t u v) : v (t + 1) = u (t + 1) := funext fun k => h _ k (by omega) (by omega) (by omega)
theorem Fm.cho {t : Nat} {u v : PM} (h : Fm t u v) (m : Int) : choM v t m = choM u t m := by
  unfold choM
  rw [h t 24 (by omega) (by omega) (by omega), h t 25 (by omega) (by omega) (by omega), h t 26 (by omega) (by omega) (by omega), h t 27 (by omega) (by omega) (by omega)]
section
variable {g : PG} {u : PM} {t : Nat} {s r : Int}
theorem TM_bo20 (hk : kTM g t) (hs : 0 ≤ s ∧ s < 5) (hr : 0 ≤ r ∧ r < 4) {y : Int} (hy : 0 ≤ y ∧ y < 8) (m0 : Int) : ∀ (d : Nat) (x m : Int) (u : PM), mOk (u (t + 1)) → 0 ≤ x → x + d = u (t + 1) 0 →
    ∃ u' m', run M_TM_bestOf 20 [vA t, vI s, vI r, vI m0, vI m, vI y, vI x, vN] [] g u = run M_TM_bestOf 6 [vA t, vI s, vI r, vI m0, vI m', vI (y + 1), vN, vN] [] g u' ∧ choM u' t m' = ((rowL r y d x).filter (mis0 (bdM (u (t + 1))) s)).foldl (chTake (bdM (u (t + 1))) s) (choM u t m) ∧ Fbm t u u' := by
  intro d
  induction d with
  | zero =>
    intro x m u ho hx hd
    refine ⟨u, m, ?_, rfl, Fbm.rfl'⟩
    rw [R_TM_bestOf_20, gd_O hk.1, gd_R hk.2.1 (by omega) (by omega), if_neg (by omega), w_id (x := y + 1) (by omega) (by omega)]
  | succ d ih =>
    intro x m u ho hx hd
    have := ho.1
    obtain ⟨v, e1, hF⟩ := TM_misfit (g := g) (s := s) (r := r) (x := x) (y := y) hk ho hs hr (by omega) (by omega)
    have hv : v (t + 1) = u (t + 1) := hF.s
    rw [R_TM_bestOf_20, gd_O hk.1, gd_R hk.2.1 (by omega) (by omega), if_pos (by omega), gd_O hk.1, e1, cI_some, w_id (x := x + 1) (by omega) (by omega)]
    show ∃ u' m', _ ∧ choM u' t m' = (((r, x, y) :: rowL r y d (x + 1)).filter (mis0 (bdM (u (t + 1))) s)).foldl (chTake (bdM (u (t + 1))) s) (choM u t m) ∧ _
    by_cases hm : bMis (bdM (u (t + 1))) s r x y = 0
    · obtain ⟨v2, e2, -, hF2⟩ := TM_points (g := g) (u := v) (s := s) (r := r) (x := x) (y := y) hk (by rw [hv]; exact ho) hs hr (by omega) (by omega)
      have hv2 : v2 (t + 1) = u (t + 1) := hF2.s.trans hv
      rw [hv] at e2
      rw [if_pos hm, gd_O hk.1, e2, cI_some, List.filter_cons_of_pos (show mis0 (bdM (u (t + 1))) s (r, x, y) = true from decide_eq_true hm), List.foldl_cons]
      have hch : chTake (bdM (u (t + 1))) s (choM u t m) (r, x, y) = if m < bPts (bdM (u (t + 1))) s r y then (s, r, x, y, bPts (bdM (u (t + 1))) s r y) else choM u t m := rfl
      rw [hch]
      by_cases hp : m < bPts (bdM (u (t + 1))) s r y
      · rw [if_pos hp, if_pos hp]
        simp only [gd_O hk.1]
        obtain ⟨v3, hv3⟩ : ∃ q, q = up (up (up (up v2 t 24 s) t 25 r) t 26 x) t 27 y := ⟨_, rfl⟩
        have f3 : Fbm t v2 v3 := fun a k h1 h2 h3 => by rw [hv3, up_n (by omega), up_n (by omega), up_n (by omega), up_n (by omega)]
        have hs3 : v3 (t + 1) = u (t + 1) := f3.s.trans hv2
        obtain ⟨u', m', e4, c4, f4⟩ := ih (x + 1) (bPts (bdM (u (t + 1))) s r y) v3 (by rw [hs3]; exact ho) (by omega) (by rw [hs3]; omega)
        rw [← hv3]
        refine ⟨u', m', e4, ?_, ((hF.tr hF2).bm.tr f3).tr f4⟩
        rw [c4, hs3]
        have : choM v3 t (bPts (bdM (u (t + 1))) s r y) = (s, r, x, y, bPts (bdM (u (t + 1))) s r y) := by
          unfold choM
          rw [hv3]
          simp (disch := omega) only [up_j, up_s]
        rw [this]
      · rw [if_neg hp, if_neg hp]
        obtain ⟨u', m', e4, c4, f4⟩ := ih (x + 1) m v2 (by rw [hv2]; exact ho) (by omega) (by rw [hv2]; omega)
        refine ⟨u', m', e4, ?_, (hF.tr hF2).bm.tr f4⟩
        rw [c4, hv2, (hF.tr hF2).cho]
    · obtain ⟨u', m', e4, c4, f4⟩ := ih (x + 1) m v (by rw [hv]; exact ho) (by omega) (by rw [hv]; omega)
      rw [if_neg hm, List.filter_cons_of_neg (show ¬ mis0 (bdM (u (t + 1))) s (r, x, y) = true from fun k => hm (of_decide_eq_true k))]
      refine ⟨u', m', e4, ?_, hF.bm.tr f4⟩
      rw [c4, hv, hF.cho]
theorem TM_bestOf (hk : kTM g t) (ho : mOk (u (t + 1))) (hs : 0 ≤ s ∧ s < 5) (hr : 0 ≤ r ∧ r < 4) (m0 : Int) :
    ∃ u' m', call M_TM_bestOf [vA t, vI s, vI r, vI m0] g u = some (0, vI m', g, u') ∧ choM u' t m' = ((colL (u (t + 1) 0).toNat r (u (t + 1) 1).toNat 0).filter (mis0 (bdM (u (t + 1))) s)).foldl (chTake (bdM (u (t + 1))) s) (choM u t m0) ∧ Fbm t u u' := by
  have key : ∀ (d : Nat) (y m : Int) (u : PM), mOk (u (t + 1)) → 0 ≤ y → y + d = u (t + 1) 1 → ∃ u' m', run M_TM_bestOf 6 [vA t, vI s, vI r, vI m0, vI m, vI y, vN, vN] [] g u = some (0, vI m', g, u') ∧ choM u' t m' = ((colL (u (t + 1) 0).toNat r d y).filter (mis0 (bdM (u (t + 1))) s)).foldl (chTake (bdM (u (t + 1))) s) (choM u t m) ∧ Fbm t u u' := by
    intro d
    induction d with
    | zero =>
      intro y m u ho hy hd
      refine ⟨u, m, ?_, rfl, Fbm.rfl'⟩
      rw [R_TM_bestOf_6, gd_O hk.1, gd_R hk.2.1 (by omega) (by omega), if_neg (by omega)]
    | succ d ih =>
      intro y m u ho hy hd
      have h0 := ho.1
      have h1 := ho.2.1
      obtain ⟨v, m1, e1, c1, f1⟩ := TM_bo20 (g := g) (s := s) (r := r) hk hs hr (y := y) (by omega) m0 (u (t + 1) 0).toNat 0 m u ho (by omega) (by omega)
      have hv : v (t + 1) = u (t + 1) := f1.s
      obtain ⟨u', m2, e2, c2, f2⟩ := ih (y + 1) m1 v (by rw [hv]; exact ho) (by omega) (by rw [hv]; omega)
      refine ⟨u', m2, ?_, ?_, f1.tr f2⟩
      · rw [R_TM_bestOf_6, gd_O hk.1, gd_R hk.2.1 (by omega) (by omega), if_pos (by omega), e1, e2]
      · rw [c2, hv, c1, colL, List.filter_append, List.foldl_append]
  obtain ⟨u', m', e1, c1, f1⟩ := key (u (t + 1) 1).toNat 0 m0 u ho (by omega) (by have := ho.2.1; omega)
  refine ⟨u', m', ?_, c1, f1⟩
  rw [C_TM_bestOf, e1]
theorem TM_fb62 (hk : kTM g t) (hs : 0 ≤ s ∧ s < 5) : ∀ (d : Nat) (r m : Int) (u : PM), mOk (u (t + 1)) → 0 ≤ r → r + d = 4 → ∃ u' m', run M_TM_findBest 62 [vA t, vI m, vI s, vI r] [] g u = run M_TM_findBest 29 [vA t, vI m', vI (s + 1), vN] [] g u' ∧ choM u' t m' = ((rotL (u (t + 1) 0).toNat (u (t + 1) 1).toNat d r).filter (mis0 (bdM (u (t + 1))) s)).foldl (chTake (bdM (u (t + 1))) s) (choM u t m) ∧ Fbm t u u' := by
  intro d
  induction d with
  | zero =>
    intro r m u ho hr hd
    refine ⟨u, m, ?_, rfl, Fbm.rfl'⟩
    rw [R_TM_findBest_62, if_neg (by omega), w_id (x := s + 1) (by omega) (by omega)]
  | succ d ih =>
    intro r m u ho hr hd
    obtain ⟨v, m1, e1, c1, f1⟩ := TM_bestOf (g := g) (r := r) hk ho hs (by omega) m
    have hv : v (t + 1) = u (t + 1) := f1.s
    obtain ⟨u', m2, e2, c2, f2⟩ := ih (r + 1) m1 v (by rw [hv]; exact ho) (by omega) (by omega)
    refine ⟨u', m2, ?_, ?_, f1.tr f2⟩
    · rw [R_TM_findBest_62, if_pos (by omega), gd_O hk.1, e1, cI_some, w_id (x := r + 1) (by omega) (by omega), e2]
    · rw [c2, hv, c1, rotL, List.filter_append, List.foldl_append]
/-- the supply that the reference reads -/
theorem sup_M {m : Int → Int} {p k : Int} (hp : p = 0 ∨ p = 1) (h0 : 0 ≤ k) (h1 : k < 5) : (aPl (absM m) p).2.2.2.1 k = m (5 + 14 * p + (2 + k)) := by
  rw [aPl_M hp]
  show cl 5 (fun k => m (5 + 14 * p + 2 + k)) k = _
  rw [cl_in h0 h1, show 5 + 14 * p + 2 + k = 5 + 14 * p + (2 + k) by omega]
theorem TM_findBest (hk : kTM g t) (ho : sOk (u (t + 1))) (hsup : ∀ k : Int, 0 ≤ k → k < 5 → 0 ≤ (aPl (absM (u (t + 1))) (absM (u (t + 1))).mv).2.2.2.1 k) : ∃ u' m', call M_TM_findBest [vA t] g u = some (0, vN, g, u') ∧ choM u' t m' = (if 2 ≤ (absM (u (t + 1))).ps then (-1, -1, -1, -1, 0) else bestM (absM (u (t + 1))) 5) ∧ u' t 7 = 0 ∧ FqM t u u' := by
  obtain ⟨om, on, hmv, hps⟩ := ho
  obtain ⟨v, hv⟩ : ∃ v, v = up (up (up (up (up u t 7 0) t 24 (-1)) t 25 (-1)) t 26 (-1)) t 27 (-1) := ⟨_, rfl⟩
  have vs : v (t + 1) = u (t + 1) := funext fun k => by rw [hv, up_o (by omega), up_o (by omega), up_o (by omega), up_o (by omega), up_o (by omega)]
  have v7 : v t 7 = 0 := by
    rw [hv]
    simp (disch := omega) only [up_j, up_s]
  have vf : FqM t u v := fun a k h1 _ _ _ _ _ => by rw [hv, up_n (by omega), up_n (by omega), up_n (by omega), up_n (by omega), up_n (by omega)]
  have vc : choM v t 0 = (-1, -1, -1, -1, 0) := by
    unfold choM
    rw [hv]
    simp (disch := omega) only [up_j, up_s]
  have fin : ∀ x : PM, Fbm t v x → x t 7 = 0 ∧ FqM t u x := fun x hx => ⟨by rw [hx t 7 (by omega) (by omega) (by omega), v7], fun a k h1 h2 h3 h4 h5 h6 => by rw [hx a k (by omega) h3 h4, vf a k h1 h2 h3 h4 h5 h6]⟩
  rw [C_TM_findBest]
  simp only [gd_O hk.1]
  rw [← hv, R_TM_findBest_25]
  have hov := fun (x : PM) (hx : x (t + 1) = u (t + 1)) => (TM_over (g := g) (u := x) hk)
  by_cases h2 : 2 ≤ u (t + 1) 3
  · rw [if_pos (show 2 ≤ (absM (u (t + 1))).ps from h2)]
    refine ⟨v, 0, ?_, vc, v7, vf⟩
    rw [R_TM_findBest_29, if_pos (by decide), gd_O hk.1, TM_over hk, cI_some, vs, bI_t (by omega), if_neg (by decide)]
  · rw [if_neg (show ¬ 2 ≤ (absM (u (t + 1))).ps from h2)]
    have key : ∀ (d : Nat), (d : Int) ≤ 5 → ∃ u' m', run M_TM_findBest 29 [vA t, vI 0, vI 0, vN] [] g v = run M_TM_findBest 29 [vA t, vI m', vI d, vN] [] g u' ∧ choM u' t m' = bestM (absM (u (t + 1))) d ∧ Fbm t v u' := by
      intro d
      induction d with
      | zero => intro _; exact ⟨v, 0, rfl, vc, Fbm.rfl'⟩
      | succ d ih =>
        intro hd
        obtain ⟨u1, m1, e1, c1, f1⟩ := ih (by omega)
        have hs1 : u1 (t + 1) = u (t + 1) := f1.s.trans vs
        have hsd := hsup d (by omega) (by omega)
        have hsm := sup_M (m := u (t + 1)) (p := u (t + 1) 2) (k := d) hmv (by omega) (by omega)
        have e2 : run M_TM_findBest 29 [vA t, vI m1, vI d, vN] [] g u1 = if (aPl (absM (u (t + 1))) (absM (u (t + 1))).mv).2.2.2.1 d = 0 then run M_TM_findBest 29 [vA t, vI m1, vI (((d + 1 : Nat)) : Int), vN] [] g u1 else run M_TM_findBest 62 [vA t, vI m1, vI d, vI 0] [] g u1 := by
          rw [R_TM_findBest_29, if_pos (by omega), gd_O hk.1, TM_over hk, cI_some, hs1, bI_f (by omega), if_pos rfl, gd_O hk.1, gd_R hk.2.1 (by decide) (by decide), gd_O hk.1, w_id (x := 2 + (d : Int)) (by omega) (by omega), TM_of hk hmv (by omega) (by omega), cI_some, hs1, w_id (x := (d : Int) + 1) (by omega) (by omega)]
          rw [show (aPl (absM (u (t + 1))) (absM (u (t + 1))).mv).2.2.2.1 d = u (t + 1) (5 + 14 * u (t + 1) 2 + (2 + (d : Int))) from hsm]
          rfl
        rw [e1, e2]
        unfold bestM
        by_cases hz : (aPl (absM (u (t + 1))) (absM (u (t + 1))).mv).2.2.2.1 d = 0
        · rw [if_pos hz, if_neg (by omega)]
          exact ⟨u1, m1, rfl, c1, f1⟩
        · obtain ⟨u2, m2, e3, c3, f3⟩ := TM_fb62 (g := g) (s := d) hk (by omega) 4 0 m1 u1 (by rw [hs1]; exact om) (by omega) (by omega)
          rw [if_neg hz, if_pos (by omega), e3]
          refine ⟨u2, m2, rfl, ?_, f1.tr f3⟩
          rw [c3, hs1, c1]
          rfl
    obtain ⟨u1, m1, e1, c1, f1⟩ := key 5 (by decide)
    obtain ⟨q1, q2⟩ := fin u1 f1
    refine ⟨u1, m1, ?_, c1, q1, q2⟩
    rw [e1, R_TM_findBest_29, if_neg (by decide)]
theorem TM_bestAll (hk : kTM g t) (ho : sOk (u (t + 1))) (hsup : ∀ k : Int, 0 ≤ k → k < 5 → 0 ≤ (aPl (absM (u (t + 1))) (absM (u (t + 1))).mv).2.2.2.1 k) : ∃ u', call M_TM_findBest [vA t] g u = some (0, vN, g, u') ∧ (u' t 24 = (aBest (absM (u (t + 1)))).1 ∧ u' t 25 = (aBest (absM (u (t + 1)))).2.1 ∧ u' t 26 = (aBest (absM (u (t + 1)))).2.2.1 ∧ u' t 27 = (aBest (absM (u (t + 1)))).2.2.2.1) ∧ u' t 7 = 0 ∧ FqM t u u' := by
  obtain ⟨u', m', e1, c1, h7, hF⟩ := TM_findBest hk ho hsup
  refine ⟨u', e1, ?_, h7, hF⟩
  have hr : chR (aBest (absM (u (t + 1)))) (choM u' t m') := by
    rw [c1]
    unfold aBest
    by_cases h2 : 2 ≤ (absM (u (t + 1))).ps
    · rw [if_pos h2, if_pos h2]
      exact Or.inr ⟨rfl, rfl⟩
    · rw [if_neg h2, if_neg h2]
      exact bestM_R (mOk_b ho.1) 5 (by omega)
  obtain ⟨q1, q2, q3, q4⟩ := chR_4 hr
  exact ⟨q1.symm, q2.symm, q3.symm, q4.symm⟩
theorem TM_bestShape (hk : kTM g t) (ho : sOk (u (t + 1))) (hsup : ∀ k : Int, 0 ≤ k → k < 5 → 0 ≤ (aPl (absM (u (t + 1))) (absM (u (t + 1))).mv).2.2.2.1 k) : AqM g u t (call M_TM_bestShape [vA t] g u) 0 (aBest (absM (u (t + 1)))).1 := by
  obtain ⟨u', e1, ⟨c1, c2, c3, c4⟩, h7, hF⟩ := TM_bestAll hk ho hsup
  refine ⟨u', ?_, h7, hF⟩
  rw [C_TM_bestShape]
  simp only [gd_O hk.1, e1, cV_some]
  rw [c1]
theorem TM_bestRotation (hk : kTM g t) (ho : sOk (u (t + 1))) (hsup : ∀ k : Int, 0 ≤ k → k < 5 → 0 ≤ (aPl (absM (u (t + 1))) (absM (u (t + 1))).mv).2.2.2.1 k) : AqM g u t (call M_TM_bestRotation [vA t] g u) 0 (aBest (absM (u (t + 1)))).2.1 := by
  obtain ⟨u', e1, ⟨c1, c2, c3, c4⟩, h7, hF⟩ := TM_bestAll hk ho hsup
  refine ⟨u', ?_, h7, hF⟩
  rw [C_TM_bestRotation]
  simp only [gd_O hk.1, e1, cV_some]
  rw [c2]
theorem TM_bestColumn (hk : kTM g t) (ho : sOk (u (t + 1))) (hsup : ∀ k : Int, 0 ≤ k → k < 5 → 0 ≤ (aPl (absM (u (t + 1))) (absM (u (t + 1))).mv).2.2.2.1 k) : AqM g u t (call M_TM_bestColumn [vA t] g u) 0 (aBest (absM (u (t + 1)))).2.2.1 := by
  obtain ⟨u', e1, ⟨c1, c2, c3, c4⟩, h7, hF⟩ := TM_bestAll hk ho hsup
  refine ⟨u', ?_, h7, hF⟩
  rw [C_TM_bestColumn]
  simp only [gd_O hk.1, e1, cV_some]
  rw [c3]
theorem TM_bestRow (hk : kTM g t) (ho : sOk (u (t + 1))) (hsup : ∀ k : Int, 0 ≤ k → k < 5 → 0 ≤ (aPl (absM (u (t + 1))) (absM (u (t + 1))).mv).2.2.2.1 k) : AqM g u t (call M_TM_bestRow [vA t] g u) 0 (aBest (absM (u (t + 1)))).2.2.2.1 := by
  obtain ⟨u', e1, ⟨c1, c2, c3, c4⟩, h7, hF⟩ := TM_bestAll hk ho hsup
  refine ⟨u', ?_, h7, hF⟩
  rw [C_TM_bestRow]
  simp only [gd_O hk.1, e1, cV_some]
  rw [c4]
end
