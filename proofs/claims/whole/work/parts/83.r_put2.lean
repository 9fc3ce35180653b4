/-! ===== the reference: a piece is laid, a strap fastened ===== -/
theorem cl_set2 {n k v : Int} {f f' : Int → Int} (h0 : 0 ≤ k) (h1 : k < n) (e : f' k = v) (e' : ∀ j : Int, 0 ≤ j → j < n → j ≠ k → f' j = f j) : cl n f' = setI (cl n f) k v := by
  funext j
  unfold setI cl
  by_cases hj : j = k
  · rw [if_pos hj, hj, if_pos ⟨h0, h1⟩, e]
  · rw [if_neg hj]
    by_cases hr : 0 ≤ j ∧ j < n
    · rw [if_pos hr, if_pos hr, e' j hr.1 hr.2 hj]
    · rw [if_neg hr, if_neg hr]
theorem enc_n {n : Int} (h : 0 ≤ n) : enc (2 + n) = n := by
  unfold enc
  rw [if_neg (by omega), if_neg (by omega)]
  omega
section
variable {g : PG} {u : PM} {t : Nat} {s r x y : Int}
theorem TM_pl33 (hk : kTM g t) (hs : 0 ≤ s ∧ s < 5) (c1 c2 c3 c4 q n e : Int) (hn : 0 ≤ n ∧ n < 32) : ∀ (d : Nat) (i : Int) (u : PM), 0 ≤ i → i + d = sz s → mOk (u (t + 1)) → SpT u t s r x y → (∀ i : Int, 0 ≤ i → i < sz s → bIn (bdM (u (t + 1))) (pX s r x i) (pY s r y i)) →
    ∃ u', run M_TM_places 33 [vA t, vI c1, vI c2, vI c3, vI c4, vI q, vI n, vI e, vI i] [] g u = run M_TM_places 33 [vA t, vI c1, vI c2, vI c3, vI c4, vI q, vI n, vI e, vI (sz s)] [] g u' ∧ bdM (u' (t + 1)) = bPutL s r x y n d i (bdM (u (t + 1))) ∧ (∀ (a : Nat) (k : Int), a ≠ t + 1 → u' a k = u a k) ∧ ∀ k : Int, ¬ (33 ≤ k ∧ k < 97) → u' (t + 1) k = u (t + 1) k := by
  have hz := sz_bd hs.1 hs.2
  intro d
  induction d with
  | zero =>
    intro i u i0 i1 ho hS hin
    refine ⟨u, ?_, rfl, fun _ _ _ => rfl, fun _ _ => rfl⟩
    rw [show i = sz s by omega]
  | succ d ih =>
    intro i u i0 i1 ho hS hin
    have hb := bIn_bd ho (hin i i0 (by omega))
    obtain ⟨v, hv⟩ : ∃ v, v = up u (t + 1) (33 + (8 * pY s r y i + pX s r x i)) (2 + n) := ⟨_, rfl⟩
    have vo : ∀ (a : Nat) (k : Int), a ≠ t + 1 → v a k = u a k := fun a k h => by rw [hv, up_o h]
    have vj : ∀ k : Int, k ≠ 33 + (8 * pY s r y i + pX s r x i) → v (t + 1) k = u (t + 1) k := fun k h => by rw [hv, up_j h]
    have hbd : bdM (v (t + 1)) = bSC (bdM (u (t + 1))) (8 * pY s r y i + pX s r x i) n := by
      rw [bdM_cellset (v := 2 + n) (vj 0 (by omega)) (vj 1 (by omega)) (by omega) (by omega) (by rw [hv, up_s]) (fun j h1 h2 => vj j h1), enc_n hn.1]
    have mo : mOk (v (t + 1)) := by
      obtain ⟨o1, o2, o3, o4⟩ := ho
      refine ⟨by rw [vj 0 (by omega)]; exact o1, by rw [vj 1 (by omega)]; exact o2, fun j j0 j1 => ?_, fun j j0 j1 => by rw [vj _ (by omega)]; exact o4 j j0 j1⟩
      by_cases e : j = 8 * pY s r y i + pX s r x i
      · rw [e, hv, up_s]; omega
      · rw [vj _ (by omega)]; exact o3 j j0 j1
    have hS' : SpT v t s r x y := ⟨by rw [vo _ _ (by omega)]; exact hS.1, fun j j0 j1 => by rw [vo (t + 9) _ (by omega), vo (t + 10) _ (by omega)]; exact hS.2 j j0 j1⟩
    obtain ⟨u', e1, e2, e3, e4⟩ := ih (i + 1) v (by omega) (by omega) mo hS' (fun j j0 j1 => by rw [hbd]; exact hin j j0 j1)
    refine ⟨u', ?_, ?_, fun a k h => (e3 a k h).trans (vo a k h), fun k h => (e4 k h).trans (vj k (by omega))⟩
    · rw [R_TM_places_33]
      simp only [gd_O hk.1]
      rw [if_pos (by rw [hS.1]; omega), gd_R hk.2.2.1 i0 (by omega), gd_R hk.2.2.2 i0 (by omega), (hS.2 i i0 (by omega)).1, (hS.2 i i0 (by omega)).2, TM_at (by omega) (by omega), cI_some, w_id (x := 33 + (8 * pY s r y i + pX s r x i)) (by omega) (by omega), gd_W hk.2.1 (by omega) (by omega), w_id (x := 2 + n) (by omega) (by omega), w_id (x := i + 1) (by omega) (by omega), ← hv, e1]
    · rw [e2, hbd]
      show _ = bPutL s r x y n d (i + 1) (if bIn (bdM (u (t + 1))) (pX s r x i) (pY s r y i) then bSC (bdM (u (t + 1))) (8 * pY s r y i + pX s r x i) n else bdM (u (t + 1)))
      rw [if_pos (hin i i0 (by omega))]
theorem TM_turns (hk : kTM g t) : call M_TM_turns [vA t] g u = some (0, vN, g, up (up u (t + 1) 2 (w (1 - u (t + 1) 2))) (t + 1) 3 0) := by
  rw [C_TM_turns]
  simp only [gd_O hk.1]
  rw [gd_R hk.2.1 (by omega) (by omega), gd_W hk.2.1 (by omega) (by omega), gd_W hk.2.1 (by omega) (by omega)]
theorem TM_fastens (hk : kTM g t) (ho : sOk (u (t + 1))) (hs : s = 0 ∨ s = 1) (hE : bEdge (bdM (u (t + 1))) x y s) :
    ∃ u', call M_TM_fastens [vA t, vI x, vI y, vI s] g u = some (0, vI (w ((aPl (absM (u (t + 1))) (absM (u (t + 1))).mv).2.1 - 1)), g, u') ∧ absM (u' (t + 1)) = aStrap (absM (u (t + 1))) x y s ∧ Fs t u u' := by
  obtain ⟨om, on, hmv, hps⟩ := ho
  have hb := bIn_bd om hE.1
  have n1 : u (t + 1) 12 ≤ 6 := on.2.1.2
  have n2 : u (t + 1) 26 ≤ 6 := on.2.2.2
  obtain ⟨p, hp⟩ : ∃ p, p = u (t + 1) 2 := ⟨_, rfl⟩
  rw [← hp] at hmv
  have hpl : aPl (absM (u (t + 1))) (absM (u (t + 1))).mv = plM (u (t + 1)) (5 + 14 * p) := by
    rw [hp]
    exact aPl_M (show u (t + 1) 2 = 0 ∨ u (t + 1) 2 = 1 by rw [← hp]; exact hmv)
  obtain ⟨v, hv⟩ : ∃ v, v = up (up u (t + 1) (97 + (64 * s + (8 * y + x))) 1) (t + 1) (5 + 14 * p + 1) (w (u (t + 1) (5 + 14 * p + 1) - 1)) := ⟨_, rfl⟩
  have vj : ∀ k : Int, k ≠ 97 + (64 * s + (8 * y + x)) → k ≠ 5 + 14 * p + 1 → v (t + 1) k = u (t + 1) k := fun k h h' => by rw [hv, up_j h', up_j h]
  refine ⟨up (up v (t + 1) 2 (w (1 - v (t + 1) 2))) (t + 1) 3 0, ?_, ?_, fun a k h1 h2 h3 h4 => by rw [up_o h4, up_o h4, hv, up_o h4, up_o h4]⟩
  · rw [C_TM_fastens, gd_O hk.1, TM_edge hb.1 hb.2 hs, cI_some, gd_W hk.2.1 (by omega) (by omega)]
    simp only [gd_O hk.1]
    rw [gd_R hk.2.1 (by omega) (by omega), up_j (by omega), ← hp, TM_of hk hmv (by omega) (by omega), cI_some]
    simp only [gd_O hk.1]
    rw [gd_R hk.2.1 (by omega) (by omega), up_j (by omega), ← hp, TM_put hk hmv (by omega) (by omega), cV_some, up_j (by omega), ← hv, gd_O hk.1, TM_turns hk, cV_some]
    rw [hpl]
    rfl
  · rw [up_set, up_set]
    have o : ∀ k : Int, k ≠ 2 → k ≠ 3 → setI (setI (v (t + 1)) 2 (w (1 - v (t + 1) 2))) 3 0 k = v (t + 1) k := fun k h2 h3 => by rw [setI_o h3, setI_o h2]
    have q1 : bdM (v (t + 1)) = bSS (bdM (u (t + 1))) (2 * (8 * y + x) + s) 1 := bdM_strapset hs (vj 0 (by omega) (by omega)) (vj 1 (by omega) (by omega)) (by omega) (by omega) (by rw [hv, up_j (by omega), up_s]) (fun j h1 h2 => vj j h1 (by omega))
    have q2 : ∀ b : Int, b = 5 ∨ b = 19 → b ≠ 5 + 14 * p → plM (v (t + 1)) b = plM (u (t + 1)) b := fun b hb hb' => plM_o (by rcases hb with rfl | rfl <;> assumption) (fun k a b => vj k (by omega) (by omega))
    have q3 : plM (v (t + 1)) (5 + 14 * p) = psSt (plM (u (t + 1)) (5 + 14 * p)) (w (u (t + 1) (5 + 14 * p + 1) - 1)) := by
      have nl : u (t + 1) (5 + 14 * p + 7) ≤ 6 := by
        rcases hmv with e | e <;> rw [e]
        · exact n1
        · exact n2
      unfold plM psSt
      have e1 : v (t + 1) (5 + 14 * p + 1) = w (u (t + 1) (5 + 14 * p + 1) - 1) := by rw [hv, up_s]
      rw [e1, vj (5 + 14 * p) (by omega) (by omega), vj (5 + 14 * p + 7) (by omega) (by omega), cl_ext (f := fun k => v (t + 1) (5 + 14 * p + 2 + k)) (f' := fun k => u (t + 1) (5 + 14 * p + 2 + k)) (fun j j0 j1 => vj _ (by omega) (by omega)), cl_ext (f := fun k => v (t + 1) (5 + 14 * p + 8 + k)) (f' := fun k => u (t + 1) (5 + 14 * p + 8 + k)) (fun j j0 j1 => vj _ (by omega) (by omega))]
    have vn : ∀ b : Int, b = 5 ∨ b = 19 → v (t + 1) (b + 7) ≤ 6 := fun b hb => by
      rw [vj _ (by omega) (by omega)]
      rcases hb with rfl | rfl <;> assumption
    unfold aStrap
    rw [hpl]
    have hc : (0 ≤ s ∧ s < 2) ∧ bEdge (absM (u (t + 1))).bd x y s := ⟨by omega, hE⟩
    rw [if_pos hc]
    unfold aTurn aSetPl absM
    rw [bdM_o (o 0 (by decide) (by decide)) (o 1 (by decide) (by decide)) (fun k a b => o k (by omega) (by omega)), q1, pcM_o (o 4 (by decide) (by decide)) (fun k a => o k (by omega) (by omega)), pcM_o (m := u (t + 1)) (vj 4 (by omega) (by omega)) (fun k a => vj k (by omega) (by omega)), o 4 (by decide) (by decide), vj 4 (by omega) (by omega), plM_o (b := 5) (m := v (t + 1)) (vn 5 (Or.inl rfl)) (fun k a b => o k (by omega) (by omega)), plM_o (b := 19) (m := v (t + 1)) (vn 19 (Or.inr rfl)) (fun k a b => o k (by omega) (by omega)), setI_s, setI_o (by decide), setI_s, vj 2 (by omega) (by omega)]
    simp only [← hp]
    rcases hmv with e | e
    · rw [e] at q2 q3 ⊢
      rw [if_pos rfl, if_pos rfl, q2 19 (Or.inr rfl) (by decide)]
      exact congrArg (fun z => (_, _, _, z, _, _, _)) q3
    · rw [e] at q2 q3 ⊢
      rw [if_neg (show ¬ (1 : Int) = 0 by decide), if_neg (show ¬ (1 : Int) = 0 by decide), q2 5 (Or.inl rfl) (by decide)]
      exact congrArg (fun z => (_, _, _, _, z, _, _)) q3
theorem TM_places (hk : kTM g t) (ho : sOk (u (t + 1))) (hs : 0 ≤ s ∧ s < 5) (hr : 0 ≤ r ∧ r < 4) (hx : -100 ≤ x ∧ x ≤ 100) (hy : -100 ≤ y ∧ y ≤ 100) (hn : 0 ≤ u (t + 1) 4 ∧ u (t + 1) 4 < 32) (hin : ∀ i : Int, 0 ≤ i → i < sz s → bIn (bdM (u (t + 1))) (pX s r x i) (pY s r y i)) :
    ∃ u', call M_TM_places [vA t, vI s, vI r, vI x, vI y] g u = some (0, vI (bPts (absM (u (t + 1))).bd s r y), g, u') ∧ absM (u' (t + 1)) = aPut (absM (u (t + 1))) s r x y ∧ Fs t u u' := by
  obtain ⟨om, on, hmv, hps⟩ := ho
  have hz := sz_bd hs.1 hs.2
  have n1 : u (t + 1) 12 ≤ 6 := on.2.1.2
  have n2 : u (t + 1) 26 ≤ 6 := on.2.2.2
  obtain ⟨p, hp⟩ : ∃ p, p = u (t + 1) 2 := ⟨_, rfl⟩
  rw [← hp] at hmv
  have hpl : aPl (absM (u (t + 1))) (absM (u (t + 1))).mv = plM (u (t + 1)) (5 + 14 * p) := by
    rw [hp]
    exact aPl_M (show u (t + 1) 2 = 0 ∨ u (t + 1) 2 = 1 by rw [← hp]; exact hmv)
  obtain ⟨n, hnn⟩ : ∃ n, n = u (t + 1) 4 := ⟨_, rfl⟩
  rw [← hnn] at hn
  obtain ⟨q, hq⟩ : ∃ q, q = bPts (bdM (u (t + 1))) s r y := ⟨_, rfl⟩
  obtain ⟨u1, e1, hS, hF⟩ := TM_points (g := g) hk om hs hr hx hy
  have h1s : u1 (t + 1) = u (t + 1) := hF.s
  obtain ⟨u2, e2, b2, f2, j2⟩ := TM_pl33 (g := g) (r := r) (x := x) (y := y) hk hs s r x y q n (225 + n * 6) hn (sz s).toNat 0 u1 (by omega) (by omega) (by rw [h1s]; exact om) hS (by rw [h1s]; exact hin)
  rw [h1s] at b2 j2
  obtain ⟨v, hv⟩ : ∃ v, v = up (up (up (up (up (up (up (up (up u2 (t + 1) (225 + n * 6) s) (t + 1) (225 + n * 6 + 1) r) (t + 1) (225 + n * 6 + 2) x) (t + 1) (225 + n * 6 + 3) y) (t + 1) (225 + n * 6 + 4) p) (t + 1) (225 + n * 6 + 5) q) (t + 1) 4 (n + 1)) (t + 1) (5 + 14 * p + 0) (w (u (t + 1) (5 + 14 * p + 0) + q))) (t + 1) (5 + 14 * p + (2 + s)) (w (u (t + 1) (5 + 14 * p + (2 + s)) - 1)) := ⟨_, rfl⟩
  refine ⟨up (up v (t + 1) 2 (w (1 - v (t + 1) 2))) (t + 1) 3 0, ?_, ?_, fun a k h1 h2 h3 h4 => by
    rw [up_o h4, up_o h4, hv]
    simp only [up_o h4]
    rw [f2 a k h4, hF a k h1 h2 h3]⟩
  · rw [C_TM_places, gd_O hk.1, e1, cI_some, gd_O hk.1, gd_R hk.2.1 (by omega) (by omega), h1s, ← hnn, ← hq, w_id (x := n * 6) (by omega) (by omega), w_id (x := 225 + n * 6) (by omega) (by omega), e2, R_TM_places_33, gd_O hk.1, if_neg (by rw [f2 _ _ (by omega), hS.1]; omega)]
    simp only [gd_O hk.1]
    rw [w_id (x := 225 + n * 6 + 0) (by omega) (by omega), w_id (x := 225 + n * 6 + 1) (by omega) (by omega), w_id (x := 225 + n * 6 + 2) (by omega) (by omega), w_id (x := 225 + n * 6 + 3) (by omega) (by omega), w_id (x := 225 + n * 6 + 4) (by omega) (by omega)]
    rw [gd_W hk.2.1 (by omega) (by omega), gd_W hk.2.1 (by omega) (by omega), gd_W hk.2.1 (by omega) (by omega), gd_W hk.2.1 (by omega) (by omega), gd_R hk.2.1 (by omega) (by omega), gd_W hk.2.1 (by omega) (by omega)]
    simp (disch := omega) only [up_j, Int.add_zero]
    rw [j2 2 (by omega), ← hp, R_TM_places_133]
    simp only [gd_O hk.1]
    rw [w_id (x := 225 + n * 6 + 5) (by omega) (by omega)]
    rw [gd_W hk.2.1 (by omega) (by omega), gd_R hk.2.1 (by omega) (by omega), gd_W hk.2.1 (by omega) (by omega), gd_R hk.2.1 (by omega) (by omega), gd_R hk.2.1 (by omega) (by omega)]
    simp (disch := omega) only [up_j]
    rw [j2 2 (by omega), j2 4 (by omega), ← hp, ← hnn, w_id (x := n + 1) (by omega) (by omega), TM_of hk hmv (by omega) (by omega), cI_some]
    simp only [gd_O hk.1]
    rw [TM_put hk hmv (by omega) (by omega), cV_some]
    simp only [gd_O hk.1]
    rw [gd_R hk.2.1 (by omega) (by omega), gd_R hk.2.1 (by omega) (by omega)]
    simp (disch := omega) only [up_j]
    rw [j2 2 (by omega), ← hp, w_id (x := 2 + s) (by omega) (by omega), TM_of hk hmv (by omega) (by omega), cI_some]
    simp only [gd_O hk.1]
    rw [TM_put hk hmv (by omega) (by omega), cV_some]
    simp only [gd_O hk.1]
    simp (disch := omega) only [up_j]
    rw [j2 (5 + 14 * p + 0) (by omega), j2 (5 + 14 * p + (2 + s)) (by omega), ← hv, TM_turns hk, cV_some, hq]
    rfl
  · rw [up_set, up_set]
    have o : ∀ k : Int, k ≠ 2 → k ≠ 3 → setI (setI (v (t + 1)) 2 (w (1 - v (t + 1) 2))) 3 0 k = v (t + 1) k := fun k h2 h3 => by rw [setI_o h3, setI_o h2]
    have vj : ∀ k : Int, ¬ (225 + n * 6 ≤ k ∧ k ≤ 225 + n * 6 + 5) → k ≠ 4 → k ≠ 5 + 14 * p → k ≠ 5 + 14 * p + (2 + s) → v (t + 1) k = u2 (t + 1) k := fun k h1 h2 h3 h4 => by
      rw [hv]
      simp (disch := omega) only [up_j]
    have vk : ∀ k : Int, ¬ (33 ≤ k ∧ k < 97) → ¬ (225 + n * 6 ≤ k ∧ k ≤ 225 + n * 6 + 5) → k ≠ 4 → k ≠ 5 + 14 * p → k ≠ 5 + 14 * p + (2 + s) → v (t + 1) k = u (t + 1) k := fun k h0 h1 h2 h3 h4 => (vj k h1 h2 h3 h4).trans (j2 k h0)
    have q1 : bdM (v (t + 1)) = bPutL s r x y n (sz s).toNat 0 (bdM (u (t + 1))) := by
      rw [← b2]
      exact bdM_o (vj 0 (by omega) (by omega) (by omega) (by omega)) (vj 1 (by omega) (by omega) (by omega) (by omega)) (fun k a b => vj k (by omega) (by omega) (by omega) (by omega))
    have q2 : ∀ b : Int, b = 5 ∨ b = 19 → b ≠ 5 + 14 * p → plM (v (t + 1)) b = plM (u (t + 1)) b := fun b hb hb' => plM_o (by rcases hb with rfl | rfl <;> assumption) (fun k a b => vk k (by omega) (by omega) (by omega) (by omega) (by omega))
    have nl : u (t + 1) (5 + 14 * p + 7) ≤ 6 := by
      rcases hmv with e | e <;> rw [e]
      · exact n1
      · exact n2
    have v4 : v (t + 1) 4 = n + 1 := by
      rw [hv]
      simp (disch := omega) only [up_j, up_s]
    have q3 : plM (v (t + 1)) (5 + 14 * p) = psSc (psSu (plM (u (t + 1)) (5 + 14 * p)) s (w ((plM (u (t + 1)) (5 + 14 * p)).2.2.2.1 s - 1))) (w ((plM (u (t + 1)) (5 + 14 * p)).1 + q)) := by
      have e1 : v (t + 1) (5 + 14 * p) = w (u (t + 1) (5 + 14 * p) + q) := by
        rw [hv, up_j (by omega), Int.add_zero, up_s]
      have e2 : (plM (u (t + 1)) (5 + 14 * p)).2.2.2.1 s = u (t + 1) (5 + 14 * p + (2 + s)) := by
        show cl 5 (fun k => u (t + 1) (5 + 14 * p + 2 + k)) s = _
        rw [cl_in hs.1 hs.2, Int.add_assoc]
      rw [e2]
      unfold psSc psSu plM
      have e3 : cl 5 (fun k => v (t + 1) (5 + 14 * p + 2 + k)) = setI (cl 5 (fun k => u (t + 1) (5 + 14 * p + 2 + k))) s (w (u (t + 1) (5 + 14 * p + (2 + s)) - 1)) := by
        refine cl_set2 hs.1 hs.2 ?_ (fun j j0 j1 hj => ?_)
        · rw [Int.add_assoc, hv, up_s]
        · exact vk _ (by omega) (by omega) (by omega) (by omega) (by omega)
      rw [e1, e3, vk (5 + 14 * p + 1) (by omega) (by omega) (by omega) (by omega) (by omega), vk (5 + 14 * p + 7) (by omega) (by omega) (by omega) (by omega) (by omega), cl_ext (f := fun k => v (t + 1) (5 + 14 * p + 8 + k)) (f' := fun k => u (t + 1) (5 + 14 * p + 8 + k)) (fun j j0 j1 => vk _ (by omega) (by omega) (by omega) (by omega) (by omega))]
    have vn : ∀ b : Int, b = 5 ∨ b = 19 → v (t + 1) (b + 7) ≤ 6 := fun b hb => by
      rw [vk _ (by omega) (by omega) (by omega) (by omega) (by omega)]
      rcases hb with rfl | rfl <;> assumption
    have q4 : pcM (v (t + 1)) = (fun i k => if i < 6 ∧ k = n then [s, r, x, y, p, q].getD i 0 else pcM (u (t + 1)) i k) := by
      funext i k
      unfold pcM
      by_cases hi : i < 6
      · rw [if_pos hi, if_pos hi, v4]
        by_cases hk' : k = n
        · rw [if_pos ⟨hi, hk'⟩, hk', cl_in hn.1 (by omega)]
          have : i = 0 ∨ i = 1 ∨ i = 2 ∨ i = 3 ∨ i = 4 ∨ i = 5 := by omega
          rw [hv]
          rcases this with rfl | rfl | rfl | rfl | rfl | rfl
          · rw [show 225 + 6 * n + ((0 : Nat) : Int) = 225 + n * 6 by omega]
            simp (disch := omega) only [up_j, up_s]
            rfl
          · rw [show 225 + 6 * n + ((1 : Nat) : Int) = 225 + n * 6 + 1 by omega]
            simp (disch := omega) only [up_j, up_s]
            rfl
          · rw [show 225 + 6 * n + ((2 : Nat) : Int) = 225 + n * 6 + 2 by omega]
            simp (disch := omega) only [up_j, up_s]
            rfl
          · rw [show 225 + 6 * n + ((3 : Nat) : Int) = 225 + n * 6 + 3 by omega]
            simp (disch := omega) only [up_j, up_s]
            rfl
          · rw [show 225 + 6 * n + ((4 : Nat) : Int) = 225 + n * 6 + 4 by omega]
            simp (disch := omega) only [up_j, up_s]
            rfl
          · rw [show 225 + 6 * n + ((5 : Nat) : Int) = 225 + n * 6 + 5 by omega]
            simp (disch := omega) only [up_j, up_s]
            rfl
        · rw [if_neg fun q => hk' q.2, ← hnn]
          unfold cl
          by_cases hr' : 0 ≤ k ∧ k < n
          · rw [if_pos hr', if_pos (by omega)]
            exact vk _ (by omega) (by omega) (by omega) (by omega) (by omega)
          · rw [if_neg hr', if_neg (by omega)]
      · rw [if_neg hi, if_neg hi, if_neg fun q => hi q.1]
    unfold aPut
    rw [hpl]
    unfold aTurn aSetPl aPiece absM
    rw [bdM_o (o 0 (by decide) (by decide)) (o 1 (by decide) (by decide)) (fun k a b => o k (by omega) (by omega)), q1, pcM_o (m := v (t + 1)) (o 4 (by decide) (by decide)) (fun k a => o k (by omega) (by omega)), q4, o 4 (by decide) (by decide), v4, plM_o (b := 5) (m := v (t + 1)) (vn 5 (Or.inl rfl)) (fun k a b => o k (by omega) (by omega)), plM_o (b := 19) (m := v (t + 1)) (vn 19 (Or.inr rfl)) (fun k a b => o k (by omega) (by omega)), setI_s, setI_o (by decide), setI_s, vk 2 (by omega) (by omega) (by omega) (by omega) (by omega)]
    simp only [← hp, ← hnn, ← hq]
    rcases hmv with e | e
    · rw [e] at q2 q3 ⊢
      rw [if_pos rfl, if_pos rfl, q2 19 (Or.inr rfl) (by decide)]
      exact congrArg (fun z => (_, _, _, z, _, _, _)) q3
    · rw [e] at q2 q3 ⊢
      rw [if_neg (show ¬ (1 : Int) = 0 by decide), if_neg (show ¬ (1 : Int) = 0 by decide), q2 5 (Or.inl rfl) (by decide)]
      exact congrArg (fun z => (_, _, _, _, z, _, _)) q3
end
