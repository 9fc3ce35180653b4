/-! ===== the strap that hinders most: the reference ===== -/
theorem sumI_nn {f : Int → Int} {n : Nat} (h : ∀ i : Int, 0 ≤ i → i < n → 0 ≤ f i) : 0 ≤ sumI f n := by
  have := sumI_le (f := fun _ => 0) (f' := f) (n := n) h
  rw [sumI_0] at this
  exact this
theorem xT_nn (B : Bd) (q : Int → Int) (k : Int) : 0 ≤ xT B q k := sumI_nn fun s _ _ => by
  have := xS_nn B s k
  split <;> omega
theorem aMov_diff {A A' : AS} {p k : Int} (hB : bOk A.bd) (hc : cOk A.bd) (hb : A'.bd = bSS A.bd k 1) (hs : ∀ s : Int, 0 ≤ s → s < 5 → (aPl A' p).2.2.2.1 s = (aPl A p).2.2.2.1 s) : aMov A p - aMov A' p = xT A.bd (aPl A p).2.2.2.1 k := by
  have e : aMov A p = xT A.bd (aPl A p).2.2.2.1 k + aMov A' p := by
    unfold aMov xT
    rw [← sumI_add]
    refine sumI_congr fun s s0 s1 => ?_
    rw [hs s s0 (by omega), hb]
    have := fit_strap hB hc (s := s) (k := k) (by omega)
    split <;> omega
  omega
/-- edges before number c are done -/
def EfK (A : AS) (c v : Int) : Prop := 0 ≤ v ∧ (∀ x y s, (s = 0 ∨ s = 1) → bEdge A.bd x y s → aMayS A x y s → 2 * (8 * y + x) + s < c → xT A.bd (aPl A (1 - A.mv)).2.2.2.1 (2 * (8 * y + x) + s) ≤ v) ∧ (v = 0 ∨ ∃ x y s, (s = 0 ∨ s = 1) ∧ bEdge A.bd x y s ∧ aMayS A x y s ∧ xT A.bd (aPl A (1 - A.mv)).2.2.2.1 (2 * (8 * y + x) + s) = v)
theorem EfK_le {A : AS} {c c' v : Int} (h : EfK A c v) (hn : ∀ x y s, (s = 0 ∨ s = 1) → bEdge A.bd x y s → 2 * (8 * y + x) + s < c' → 2 * (8 * y + x) + s < c) : EfK A c' v := ⟨h.1, fun x y s h1 h2 h3 h4 => h.2.1 x y s h1 h2 h3 (hn x y s h1 h2 h4), h.2.2⟩
section
variable {g : PG} {u : PM} {t : Nat} {x y s : Int}
theorem Fs.tr {v x : PM} (h : Fs t u v) (h' : Fs t v x) : Fs t u x := fun a k h1 h2 h3 h4 => (h' a k h1 h2 h3 h4).trans (h a k h1 h2 h3 h4)
theorem Fm.fs {v : PM} (h : Fm t u v) : Fs t u v := fun a k h1 h2 h3 _ => h a k h1 h2 h3
theorem TM_se (hk : kTM g t) (m : Int → Int) (ho : sOk m) (hst : 0 ≤ m (5 + 14 * m 2 + 1)) (hin : bIn (bdM m) x y) (hs : s = 0 ∨ s = 1) {b : Int} (hb : EfK (absM m) (2 * (8 * y + x) + s) b) (hb2 : b ≤ 100000) (hu : u (t + 1) = m) :
    ∃ u' b', run M_TM_bestStrapEffect 62 [vA t, vI (1 - m 2), vI (aMov (absM m) (1 - m 2)), vI b, vI y, vI x, vI s] [] g u = run M_TM_bestStrapEffect 62 [vA t, vI (1 - m 2), vI (aMov (absM m) (1 - m 2)), vI b', vI y, vI x, vI (s + 1)] [] g u' ∧ EfK (absM m) (2 * (8 * y + x) + s + 1) b' ∧ b' ≤ 100000 ∧ u' (t + 1) = m ∧ Fs t u u' := by
  have hbd := bIn_bd ho.1 hin
  have hmv := ho.2.2.1
  have hB := mOk_b ho.1
  have hc := mOk_c ho.1
  have ab : ∀ p : Int, 0 ≤ aMov (absM m) p ∧ aMov (absM m) p ≤ 5 * 256 := fun p => by
    have := sumI_bd (f := fun s => if 0 < (aPl (absM m) p).2.2.2.1 s then bFit (absM m).bd s else 0) (n := 5) (b := 256) fun i _ _ => by
      have := bFit_bd (absM m).bd i
      split <;> omega
    unfold aMov
    omega
  have only : ∀ x' y' s', (s' = 0 ∨ s' = 1) → bEdge (absM m).bd x' y' s' → 2 * (8 * y' + x') + s' < 2 * (8 * y + x) + s + 1 → 2 * (8 * y' + x') + s' < 2 * (8 * y + x) + s ∨ (x' = x ∧ y' = y ∧ s' = s) := fun x' y' s' h1 h2 h3 => by
    have hb2 := bIn_bd ho.1 h2.1
    omega
  rw [R_TM_bestStrapEffect_62, if_pos (by omega), gd_O hk.1, TM_isEdge hk (by rw [hu]; exact ho.1), cI_some, w_id (x := s + 1) (by omega) (by omega), hu]
  by_cases hE : bEdge (bdM m) x y s
  · have hMF := TM_mayFasten (g := g) (u := u) (x := x) (y := y) (s := s) hk (by rw [hu]; exact ho) (by rw [hu]; exact hst) hs (by rw [hu]; exact hE)
    rw [hu] at hMF
    change call M_TM_mayFasten [vA t, vI x, vI y, vI s] g u = some (0, vI (bI (aMayS (absM m) x y s)), g, u) at hMF
    rw [bI_t hE, if_neg (by decide), gd_O hk.1, hMF, cI_some]
    by_cases hm : aMayS (absM m) x y s
    · obtain ⟨e, he⟩ : ∃ e, e = 97 + (64 * s + (8 * y + x)) := ⟨_, rfl⟩
      have heb : 0 ≤ e ∧ e < 417 := by omega
      have hz : m e = 0 := by
        have := hm.2.2.1
        change bStrap (bdM m) x y s = 0 at this
        rw [bdM_strap ho.1 hin (by omega) (by omega), ← he] at this
        exact this
      obtain ⟨v, hv⟩ : ∃ v, v = up u (t + 1) e 1 := ⟨_, rfl⟩
      have hvs : v (t + 1) = setI m e 1 := by rw [hv, up_set, hu]
      have hbv : bdM (setI m e 1) = bSS (bdM m) (2 * (8 * y + x) + s) 1 := bdM_strapset hs (setI_o (by omega)) (setI_o (by omega)) (by omega) (by omega) (by rw [he, setI_s]) (fun j h1 h2 => setI_o (by rw [he]; exact h1))
      have hmO : mOk (v (t + 1)) := by
        rw [hvs]
        exact mOk_of (by rw [hbv]; exact bOk_SS hB _) (by rw [hbv]; exact hc)
      obtain ⟨v2, e2, f2⟩ := TM_moves (g := g) (u := v) (p := 1 - m 2) hk hmO (by omega)
      rw [hvs] at e2
      have hd := aMov_diff (A := absM m) (A' := absM (setI m e 1)) (p := 1 - m 2) (k := 2 * (8 * y + x) + s) hB hc hbv (fun s' s0 s1 => by
        rw [sup_M (by omega) s0 s1, sup_M (by omega) s0 s1, setI_o (by omega)])
      have a1 := ab (1 - m 2)
      have a2 : 0 ≤ aMov (absM (setI m e 1)) (1 - m 2) := (sumI_bd (b := 256) fun i _ _ => by
        have := bFit_bd (absM (setI m e 1)).bd i
        split <;> omega).1
      have hv2s : v2 (t + 1) = setI m e 1 := f2.s.trans hvs
      have hxn := xT_nn (absM m).bd (aPl (absM m) (1 - m 2)).2.2.2.1 (2 * (8 * y + x) + s)
      obtain ⟨v3, hv3⟩ : ∃ v, v = up v2 (t + 1) e 0 := ⟨_, rfl⟩
      have hv3s : v3 (t + 1) = m := by
        rw [hv3, up_set, hv2s]
        funext k
        by_cases q : k = e
        · rw [q, setI_s, hz]
        · rw [setI_o q, setI_o q]
      have f3 : Fs t u v3 := fun a k h1 h2 h3 h4 => by rw [hv3, up_o h4, f2 a k h1 h2 h3, hv, up_o h4]
      have hx := max2_or b (w (aMov (absM m) (1 - m 2) - aMov (absM (setI m e 1)) (1 - m 2)))
      rw [w_id (x := aMov (absM m) (1 - m 2) - aMov (absM (setI m e 1)) (1 - m 2)) (by omega) (by omega), hd] at hx
      refine ⟨v3, max2 b (xT (absM m).bd (aPl (absM m) (1 - m 2)).2.2.2.1 (2 * (8 * y + x) + s)), ?_, ⟨?_, fun x' y' s' h1 h2 h3 h4 => ?_, ?_⟩, ?_, hv3s, f3⟩
      · rw [bI_t hm, if_neg (by decide)]
        simp only [gd_O hk.1]
        rw [TM_edge hbd.1 hbd.2 hs, cI_some, ← he, gd_W hk.2.1 heb.1 (by omega), ← hv, e2, cI_some, TM_edge hbd.1 hbd.2 hs, cI_some, ← he, gd_W hk.2.1 heb.1 (by omega), ← hv3, w_id (x := aMov (absM m) (1 - m 2) - aMov (absM (setI m e 1)) (1 - m 2)) (by omega) (by omega), hd]
        simp only [gd_O hk.1]
      · have := hb.1
        change _ ≤ max2 b (xT (absM m).bd (aPl (absM m) (1 - m 2)).2.2.2.1 (2 * (8 * y + x) + s))
        omega
      · rcases only x' y' s' h1 h2 h4 with q | ⟨rfl, rfl, rfl⟩
        · have := hb.2.1 x' y' s' h1 h2 h3 q
          omega
        · change xT (absM m).bd (aPl (absM m) (1 - m 2)).2.2.2.1 (2 * (8 * y' + x') + s') ≤ _
          omega
      · rcases hx with ⟨q1, q2⟩ | ⟨q1, q2⟩
        · rw [q1]; exact hb.2.2
        · rw [q1]; exact Or.inr ⟨x, y, s, hs, hE, hm, rfl⟩
      · omega
    · rw [bI_f hm, if_pos rfl]
      refine ⟨u, b, rfl, ⟨hb.1, fun x' y' s' h1 h2 h3 h4 => ?_, hb.2.2⟩, hb2, hu, fun _ _ _ _ _ _ => rfl⟩
      rcases only x' y' s' h1 h2 h4 with q | ⟨rfl, rfl, rfl⟩
      · exact hb.2.1 x' y' s' h1 h2 h3 q
      · exact absurd h3 hm
  · rw [bI_f hE, if_pos rfl]
    refine ⟨u, b, rfl, ⟨hb.1, fun x' y' s' h1 h2 h3 h4 => ?_, hb.2.2⟩, hb2, hu, fun _ _ _ _ _ _ => rfl⟩
    rcases only x' y' s' h1 h2 h4 with q | ⟨rfl, rfl, rfl⟩
    · exact hb.2.1 x' y' s' h1 h2 h3 q
    · exact absurd h2 hE
theorem TM_se48 (hk : kTM g t) (m : Int → Int) (ho : sOk m) (hst : 0 ≤ m (5 + 14 * m 2 + 1)) (hy : 0 ≤ y ∧ y < m 1) : ∀ (d : Nat) (x b : Int) (u : PM), 0 ≤ x → x + d = m 0 → EfK (absM m) (2 * (8 * y + x)) b → b ≤ 100000 → u (t + 1) = m →
    ∃ u' b', run M_TM_bestStrapEffect 48 [vA t, vI (1 - m 2), vI (aMov (absM m) (1 - m 2)), vI b, vI y, vI x, vN] [] g u = run M_TM_bestStrapEffect 34 [vA t, vI (1 - m 2), vI (aMov (absM m) (1 - m 2)), vI b', vI (y + 1), vN, vN] [] g u' ∧ EfK (absM m) (2 * (8 * (y + 1))) b' ∧ b' ≤ 100000 ∧ u' (t + 1) = m ∧ Fs t u u' := by
  have hC := ho.1.1
  have hR := ho.1.2.1
  intro d
  induction d with
  | zero =>
    intro x b u hx hd hb hb2 hu
    refine ⟨u, b, ?_, EfK_le hb (fun x' y' s' h1 h2 h3 => ?_), hb2, hu, fun _ _ _ _ _ _ => rfl⟩
    · rw [R_TM_bestStrapEffect_48, gd_O hk.1, gd_R hk.2.1 (by decide) (by decide), if_neg (by rw [hu]; omega), w_id (x := y + 1) (by omega) (by omega)]
    · have hi := h2.1.1.2
      have hi' : x' < m 0 := hi
      omega
  | succ d ih =>
    intro x b u hx hd hb hb2 hu
    have hin : bIn (bdM m) x y := ⟨⟨hx, by show x < m 0; omega⟩, hy⟩
    obtain ⟨u1, b1, e1, k1, l1, s1, f1⟩ := TM_se (g := g) (u := u) (s := 0) hk m ho hst hin (Or.inl rfl) (b := b) (by rw [Int.add_zero]; exact hb) hb2 hu
    rw [Int.add_zero] at k1
    obtain ⟨u2, b2, e2, k2, l2, s2, f2⟩ := TM_se (g := g) (u := u1) (s := 1) hk m ho hst hin (Or.inr rfl) (b := b1) k1 l1 s1
    obtain ⟨u3, b3, e3, k3, l3, s3, f3⟩ := ih (x + 1) b2 u2 (by omega) (by omega) (by rw [show 2 * (8 * y + (x + 1)) = 2 * (8 * y + x) + 1 + 1 by omega]; exact k2) l2 s2
    refine ⟨u3, b3, ?_, k3, l3, s3, (f1.tr f2).tr f3⟩
    rw [R_TM_bestStrapEffect_48, gd_O hk.1, gd_R hk.2.1 (by decide) (by decide), if_pos (by rw [hu]; omega), e1, Int.zero_add, e2, R_TM_bestStrapEffect_62, if_neg (by decide), w_id (x := x + 1) (by omega) (by omega), e3]
theorem TM_bestStrapEffect (hk : kTM g t) (ho : sOk (u (t + 1))) (hst : 0 ≤ (aPl (absM (u (t + 1))) (absM (u (t + 1))).mv).2.1) : ∃ v, (if 2 ≤ (absM (u (t + 1))).ps then v = -1 else isEf (absM (u (t + 1))) v) ∧ AqM g u t (call M_TM_bestStrapEffect [vA t] g u) 0 v := by
  obtain ⟨m, hm⟩ : ∃ m, m = u (t + 1) := ⟨_, rfl⟩
  rw [← hm] at ho hst ⊢
  have hmv := ho.2.2.1
  have hps := ho.2.2.2
  have hst' : 0 ≤ m (5 + 14 * m 2 + 1) := by
    have e : (aPl (absM m) (absM m).mv).2.1 = m (5 + 14 * m 2 + 1) := by
      rw [show aPl (absM m) (absM m).mv = plM m (5 + 14 * m 2) from aPl_M hmv]
      rfl
    rw [← e]; exact hst
  have e7 : up u t 7 0 (t + 1) = m := by rw [up7s, hm]
  rw [C_TM_bestStrapEffect]
  simp only [gd_O hk.1]
  rw [TM_over hk, cI_some, e7]
  by_cases h2 : 2 ≤ m 3
  · refine ⟨-1, ?_, up u t 7 0, ?_, up_s .., FqM7 _ _ _⟩
    · rw [if_pos (show 2 ≤ (absM m).ps from h2)]
    · rw [bI_t (by omega), if_neg (by decide)]
  · obtain ⟨u1, e1, f1⟩ := TM_moves (g := g) (u := up u t 7 0) (p := 1 - m 2) hk (by rw [e7]; exact ho.1) (by omega)
    rw [e7] at e1
    have hu1 : u1 (t + 1) = m := f1.s.trans e7
    have key : ∀ (d : Nat) (y b : Int) (u : PM), 0 ≤ y → y + d = m 1 → EfK (absM m) (2 * (8 * y)) b → b ≤ 100000 → u (t + 1) = m → ∃ u' b', run M_TM_bestStrapEffect 34 [vA t, vI (1 - m 2), vI (aMov (absM m) (1 - m 2)), vI b, vI y, vN, vN] [] g u = some (0, vI b', g, u') ∧ EfK (absM m) (2 * (8 * m 1)) b' ∧ u' (t + 1) = m ∧ Fs t u u' := by
      intro d
      induction d with
      | zero =>
        intro y b u hy hd hb hb2 hu
        refine ⟨u, b, ?_, by rw [show m 1 = y by omega]; exact hb, hu, fun _ _ _ _ _ _ => rfl⟩
        rw [R_TM_bestStrapEffect_34, gd_O hk.1, gd_R hk.2.1 (by decide) (by decide), if_neg (by rw [hu]; omega)]
      | succ d ih =>
        intro y b u hy hd hb hb2 hu
        obtain ⟨u1, b1, e1, k1, l1, s1, f1⟩ := TM_se48 (g := g) (y := y) hk m ho hst' ⟨hy, by omega⟩ (m 0).toNat 0 b u (by decide) (by have := ho.1.1; omega) (by rw [Int.add_zero]; exact hb) hb2 hu
        obtain ⟨u2, b2, e2, k2, s2, f2⟩ := ih (y + 1) b1 u1 (by omega) (by omega) k1 l1 s1
        refine ⟨u2, b2, ?_, k2, s2, f1.tr f2⟩
        rw [R_TM_bestStrapEffect_34, gd_O hk.1, gd_R hk.2.1 (by decide) (by decide), if_pos (by rw [hu]; omega), e1, e2]
    obtain ⟨u2, b2, e2, k2, s2, f2⟩ := key (m 1).toNat 0 0 u1 (by decide) (by have := ho.1.2.1; omega) ⟨by decide, fun x y s h1 h2 h3 h4 => by have := bIn_bd ho.1 h2.1; omega, Or.inl rfl⟩ (by decide) hu1
    refine ⟨b2, ?_, u2, ?_, ?_, fun a k n1 n2 n3 n4 n5 n6 => ?_⟩
    · rw [if_neg (show ¬ 2 ≤ (absM m).ps from h2)]
      refine ⟨k2.1, fun x y s h1 h3 h4 => k2.2.1 x y s h1 h3 h4 ?_, k2.2.2⟩
      have hi := h3.1.2.2
      have hi' : y < m 1 := hi
      have := bIn_bd ho.1 h3.1
      omega
    · rw [bI_f (by omega), if_pos rfl, gd_R hk.2.1 (by decide) (by decide)]
      simp only [gd_O hk.1]
      rw [w_id (x := 1 - m 2) (by omega) (by omega), e1, cI_some, e2]
    · rw [f2 t 7 (by omega) (by omega) (by omega) (by omega), f1.c, up_s]
    · by_cases q : a = t + 1
      · rw [q, s2, hm]
      · rw [f2 a k (by omega) n3 n4 q, f1 a k (by omega) n3 n4, up_n (by omega)]
end
