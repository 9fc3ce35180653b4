/-! ===== the reference's state: what may be done and what it does ===== -/
def plM (m : Int → Int) (b : Int) : PS := (m b, m (b + 1), m (b + 7), cl 5 (fun k => m (b + 2 + k)), cl (m (b + 7)) (fun k => m (b + 8 + k)))
def pcM (m : Int → Int) : Nat → Int → Int := fun i => if i < 6 then cl (m 4) (fun k => m (225 + 6 * k + i)) else fun _ => 0
def absM (m : Int → Int) : AS := (bdM m, m 4, pcM m, plM m 5, plM m 19, m 2, m 3)
theorem bdM_o {m m' : Int → Int} (h0 : m' 0 = m 0) (h1 : m' 1 = m 1) (h : ∀ k : Int, 33 ≤ k → k < 225 → m' k = m k) : bdM m' = bdM m := by
  unfold bdM
  rw [h0, h1, cl_ext (f := fun j => enc (m' (33 + j))) (f' := fun j => enc (m (33 + j))) (fun j j0 j1 => congrArg enc (h _ (by omega) (by omega))), cl_ext (f := fun k => m' (97 + 64 * (k % 2) + k / 2)) (f' := fun k => m (97 + 64 * (k % 2) + k / 2)) (fun j j0 j1 => h _ (by omega) (by omega))]
theorem plM_o {m m' : Int → Int} {b : Int} (hn : m (b + 7) ≤ 6) (h : ∀ k : Int, b ≤ k → k < b + 14 → m' k = m k) : plM m' b = plM m b := by
  unfold plM
  rw [h b (by omega) (by omega), h (b + 1) (by omega) (by omega), h (b + 7) (by omega) (by omega), cl_ext (f := fun k => m' (b + 2 + k)) (f' := fun k => m (b + 2 + k)) (fun j j0 j1 => h _ (by omega) (by omega)), cl_ext (f := fun k => m' (b + 8 + k)) (f' := fun k => m (b + 8 + k)) (fun j j0 j1 => h _ (by omega) (by omega))]
theorem pcM_o {m m' : Int → Int} (h4 : m' 4 = m 4) (h : ∀ k : Int, 225 ≤ k → m' k = m k) : pcM m' = pcM m := by
  unfold pcM
  funext i
  by_cases hi : i < 6
  · rw [if_pos hi, if_pos hi, h4]
    exact cl_ext fun k k0 k1 => h _ (by omega)
  · rw [if_neg hi, if_neg hi]
theorem bdM_cellset {m m' : Int → Int} {k v : Int} (h0 : m' 0 = m 0) (h1 : m' 1 = m 1) (k0 : 0 ≤ k) (k1 : k < 64) (hk : m' (33 + k) = v) (h : ∀ j : Int, j ≠ 33 + k → 33 ≤ j → m' j = m j) : bdM m' = bSC (bdM m) k (enc v) := by
  unfold bdM bSC
  rw [h0, h1, cl_ext (f := fun k => m' (97 + 64 * (k % 2) + k / 2)) (f' := fun k => m (97 + 64 * (k % 2) + k / 2)) (fun j j0 j1 => h _ (by omega) (by omega))]
  have e : cl 64 (fun j => enc (m' (33 + j))) = setI (cl 64 (fun j => enc (m (33 + j)))) k (enc v) := by
    funext j
    unfold setI cl
    by_cases hj : j = k
    · rw [if_pos hj, hj, if_pos ⟨k0, k1⟩]
      exact congrArg enc hk
    · rw [if_neg hj]
      by_cases hr : 0 ≤ j ∧ j < 64
      · rw [if_pos hr, if_pos hr]
        exact congrArg enc (h _ (by omega) (by omega))
      · rw [if_neg hr, if_neg hr]
  rw [e]
theorem bdM_strapset {m m' : Int → Int} {s k v : Int} (hs : s = 0 ∨ s = 1) (h0 : m' 0 = m 0) (h1 : m' 1 = m 1) (k0 : 0 ≤ k) (k1 : k < 64) (hk : m' (97 + (64 * s + k)) = v) (h : ∀ j : Int, j ≠ 97 + (64 * s + k) → 33 ≤ j → m' j = m j) : bdM m' = bSS (bdM m) (2 * k + s) v := by
  unfold bdM bSS
  rw [h0, h1, cl_ext (f := fun j => enc (m' (33 + j))) (f' := fun j => enc (m (33 + j))) (fun j j0 j1 => congrArg enc (h _ (by omega) (by omega)))]
  have e : cl 128 (fun k => m' (97 + 64 * (k % 2) + k / 2)) = setI (cl 128 (fun k => m (97 + 64 * (k % 2) + k / 2))) (2 * k + s) v := by
    funext j
    unfold setI cl
    by_cases hj : j = 2 * k + s
    · rw [if_pos hj, hj, if_pos ⟨by omega, by omega⟩, ← hk]
      exact congrArg m' (by omega)
    · rw [if_neg hj]
      by_cases hr : 0 ≤ j ∧ j < 128
      · rw [if_pos hr, if_pos hr]
        exact h _ (by omega) (by omega)
      · rw [if_neg hr, if_neg hr]
  rw [e]
/-- the reference's state is sound -/
def sOk (m : Int → Int) : Prop := mOk m ∧ nOk (absM m) ∧ (m 2 = 0 ∨ m 2 = 1) ∧ 0 ≤ m 3 ∧ m 3 ≤ 2
theorem aPl_M {m : Int → Int} {p : Int} (hp : p = 0 ∨ p = 1) : aPl (absM m) p = plM m (5 + 14 * p) := by
  unfold aPl
  rcases hp with rfl | rfl <;> rfl
section
variable {g : PG} {u : PM} {t : Nat} {s r x y : Int}
theorem TM_of (hk : kTM g t) {p k : Int} (hp : p = 0 ∨ p = 1) (h0 : 0 ≤ k) (h1 : k < 14) : call M_TM_of [vA t, vI p, vI k] g u = some (0, vI (u (t + 1) (5 + 14 * p + k)), g, u) := by
  rw [C_TM_of, gd_O hk.1, w_id (x := p * 14) (by omega) (by omega), w_id (x := 5 + p * 14) (by omega) (by omega), w_id (by omega) (by omega), gd_R hk.2.1 (by omega) (by omega), show 5 + p * 14 + k = 5 + 14 * p + k by omega]
theorem TM_put (hk : kTM g t) {p k : Int} (hp : p = 0 ∨ p = 1) (h0 : 0 ≤ k) (h1 : k < 14) (v : Int) : call M_TM_put [vA t, vI p, vI k, vI v] g u = some (0, vN, g, up u (t + 1) (5 + 14 * p + k) v) := by
  rw [C_TM_put, gd_O hk.1, w_id (x := p * 14) (by omega) (by omega), w_id (x := 5 + p * 14) (by omega) (by omega), w_id (by omega) (by omega), gd_W hk.2.1 (by omega) (by omega), show 5 + p * 14 + k = 5 + 14 * p + k by omega]
theorem TM_over (hk : kTM g t) : call M_TM_over [vA t] g u = some (0, vI (bI (u (t + 1) 3 = 2)), g, u) := by
  rw [C_TM_over, gd_O hk.1, gd_R hk.2.1 (by omega) (by omega)]
  by_cases h : u (t + 1) 3 = 2
  · rw [if_pos h, bI_t h]
  · rw [if_neg h, bI_f h]
theorem TM_mayPlace (hk : kTM g t) (ho : sOk (u (t + 1))) (hs : 0 ≤ s ∧ s < 5) (hr : 0 ≤ r ∧ r < 4) (hx : -100 ≤ x ∧ x ≤ 100) (hy : -100 ≤ y ∧ y ≤ 100) :
    ∃ u', call M_TM_mayPlace [vA t, vI s, vI r, vI x, vI y] g u = some (0, vI (bI (¬ 2 ≤ (absM (u (t + 1))).ps ∧ 0 < (aPl (absM (u (t + 1))) (absM (u (t + 1))).mv).2.2.2.1 s ∧ bMis (absM (u (t + 1))).bd s r x y = 0)), g, u') ∧ Fm t u u' := by
  obtain ⟨om, on, hmv, hps⟩ := ho
  obtain ⟨v, e1, hF⟩ := TM_misfit (g := g) (s := s) (r := r) (x := x) (y := y) hk om hs hr hx hy
  have hsup : (plM (u (t + 1)) (5 + 14 * u (t + 1) 2)).2.2.2.1 s = u (t + 1) (5 + 14 * u (t + 1) 2 + 2 + s) := by
    show cl 5 (fun k => u (t + 1) (5 + 14 * u (t + 1) 2 + 2 + k)) s = _
    rw [cl_in hs.1 hs.2]
  rw [C_TM_mayPlace]
  simp only [gd_O hk.1, TM_over hk, cI_some]
  rw [gd_R hk.2.1 (by omega) (by omega), w_id (x := 2 + s) (by omega) (by omega), TM_of hk hmv (by omega) (by omega), cI_some, e1, cI_some]
  rw [show aPl (absM (u (t + 1))) (absM (u (t + 1))).mv = plM (u (t + 1)) (5 + 14 * u (t + 1) 2) from aPl_M hmv]
  show ∃ u', _ = some (0, vI (bI (¬ 2 ≤ u (t + 1) 3 ∧ 0 < (plM (u (t + 1)) (5 + 14 * u (t + 1) 2)).2.2.2.1 s ∧ bMis (bdM (u (t + 1))) s r x y = 0)), g, u') ∧ _
  rw [hsup, show 5 + 14 * u (t + 1) 2 + (2 + s) = 5 + 14 * u (t + 1) 2 + 2 + s by omega]
  by_cases h1 : u (t + 1) 3 = 2
  · rw [bI_t h1, if_neg (by omega)]
    exact ⟨u, by rw [bI_f fun q => q.1 (by omega)], Fm.rfl'⟩
  · rw [bI_f h1, if_pos rfl]
    by_cases h2 : 0 < u (t + 1) (5 + 14 * u (t + 1) 2 + 2 + s)
    · rw [if_pos h2]
      by_cases h3 : bMis (bdM (u (t + 1))) s r x y = 0
      · rw [if_pos h3]
        exact ⟨v, by rw [gd_O hk.1, bI_t ⟨by omega, h2, h3⟩], hF⟩
      · rw [if_neg h3]
        exact ⟨v, by rw [gd_O hk.1, bI_f fun q => h3 q.2.2], hF⟩
    · rw [if_neg h2]
      exact ⟨u, by rw [bI_f fun q => h2 q.2.1], Fm.rfl'⟩
theorem TM_moves (hk : kTM g t) (ho : mOk (u (t + 1))) {p : Int} (hp : p = 0 ∨ p = 1) : ∃ u', call M_TM_moves [vA t, vI p] g u = some (0, vI (aMov (absM (u (t + 1))) p), g, u') ∧ Fm t u u' := by
  have key : ∀ (d : Nat) (u : PM), (d : Int) ≤ 5 → mOk (u (t + 1)) → ∃ u', run M_TM_moves 4 [vA t, vI p, vI 0, vI 0] [] g u = run M_TM_moves 4 [vA t, vI p, vI (sumI (fun s => if 0 < (aPl (absM (u (t + 1))) p).2.2.2.1 s then bFit (absM (u (t + 1))).bd s else 0) d), vI d] [] g u' ∧ Fm t u u' := by
    intro d
    induction d with
    | zero => intro u _ _; exact ⟨u, rfl, Fm.rfl'⟩
    | succ d ih =>
      intro u hd ho
      obtain ⟨u1, e1, f1⟩ := ih u (by omega) ho
      have hv : u1 (t + 1) = u (t + 1) := f1.s
      have hsb := sumI_bd (f := fun s => if 0 < (aPl (absM (u (t + 1))) p).2.2.2.1 s then bFit (absM (u (t + 1))).bd s else 0) (n := d) (b := 256) fun i _ _ => by
        have := bFit_bd (absM (u (t + 1))).bd i
        split <;> omega
      have wd : w ((d : Int) + 1) = ((d + 1 : Nat) : Int) := by rw [w_id (by omega) (by omega)]; omega
      have hsup : (aPl (absM (u (t + 1))) p).2.2.2.1 d = u1 (t + 1) (5 + 14 * p + (2 + d)) := by
        rw [aPl_M hp, hv]
        show cl 5 (fun k => u (t + 1) (5 + 14 * p + 2 + k)) (d : Int) = _
        rw [cl_in (by omega) (by omega), show 5 + 14 * p + 2 + (d : Int) = 5 + 14 * p + (2 + d) by omega]
      have st : ∃ u', run M_TM_moves 4 [vA t, vI p, vI (sumI (fun s => if 0 < (aPl (absM (u (t + 1))) p).2.2.2.1 s then bFit (absM (u (t + 1))).bd s else 0) d), vI d] [] g u1 = run M_TM_moves 4 [vA t, vI p, vI (sumI (fun s => if 0 < (aPl (absM (u (t + 1))) p).2.2.2.1 s then bFit (absM (u (t + 1))).bd s else 0) (d + 1)), vI ((d + 1 : Nat) : Int)] [] g u' ∧ Fm t u1 u' := by
        rw [R_TM_moves_4, if_pos (by omega), gd_O hk.1, w_id (x := 2 + (d : Int)) (by omega) (by omega), TM_of hk hp (by omega) (by omega), cI_some, wd]
        simp only [sumI]
        rw [hsup]
        by_cases hc : 0 < u1 (t + 1) (5 + 14 * p + (2 + d))
        · rw [if_pos hc, if_pos hc]
          obtain ⟨u2, e2, f2⟩ := TM_fitting2 (g := g) (u := u1) (s := d) hk (by rw [hv]; exact ho) ⟨by omega, by omega⟩
          rw [gd_O hk.1, e2, cI_some, hv]
          refine ⟨u2, ?_, f2⟩
          have := bFit_bd (absM (u (t + 1))).bd d
          rw [show bFit (bdM (u (t + 1))) d = bFit (absM (u (t + 1))).bd d from rfl, w_id (by omega) (by omega)]
        · rw [if_neg hc, if_neg hc, Int.add_zero]
          exact ⟨u1, rfl, Fm.rfl'⟩
      obtain ⟨u2, e2, f2⟩ := st
      exact ⟨u2, e1.trans e2, f1.tr f2⟩
  obtain ⟨u1, e1, f1⟩ := key 5 u (by omega) ho
  refine ⟨u1, ?_, f1⟩
  rw [C_TM_moves, e1, R_TM_moves_4, if_neg (by omega)]
  rfl
theorem TM_mayPass (hk : kTM g t) (ho : sOk (u (t + 1))) : ∃ u', call M_TM_mayPass [vA t] g u = some (0, vI (bI (¬ 2 ≤ (absM (u (t + 1))).ps ∧ aMov (absM (u (t + 1))) (absM (u (t + 1))).mv = 0)), g, u') ∧ Fm t u u' := by
  obtain ⟨om, on, hmv, hps⟩ := ho
  obtain ⟨v, e1, hF⟩ := TM_moves (g := g) hk om hmv
  rw [C_TM_mayPass]
  simp only [gd_O hk.1, TM_over hk, cI_some]
  rw [gd_R hk.2.1 (by omega) (by omega), e1, cI_some]
  show ∃ u', _ = some (0, vI (bI (¬ 2 ≤ u (t + 1) 3 ∧ aMov (absM (u (t + 1))) (u (t + 1) 2) = 0)), g, u') ∧ _
  by_cases h1 : u (t + 1) 3 = 2
  · rw [bI_t h1, if_neg (by omega)]
    exact ⟨u, by rw [bI_f fun q => q.1 (by omega)], Fm.rfl'⟩
  · rw [bI_f h1, if_pos rfl]
    by_cases h2 : aMov (absM (u (t + 1))) (u (t + 1) 2) = 0
    · rw [if_pos h2]
      exact ⟨v, by rw [bI_t ⟨by omega, h2⟩], hF⟩
    · rw [if_neg h2]
      exact ⟨v, by rw [bI_f fun q => h2 q.2], hF⟩
end
