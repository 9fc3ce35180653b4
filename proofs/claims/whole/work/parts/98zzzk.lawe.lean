/-! ===== the law's changes: straps, undo, save, restore, truncate ===== -/
section
variable {g : PG} {u : PM} {a : Int}
theorem L_557 (hI : Inv g u) (h0 : 0 ≤ a) (h1 : a + 6 ≤ (g.2.2 : Int)) (h2 : (g.2.2 : Int) < 2147483648) (hS : ∀ k, i32 (u 100003 k)) : Nx g u (run M_L_law 557 [vA 100003, vA 1, vA 249, vA 261, vI a, vN, vN, vN, vN] [] g u) (KL 100003 a) := by
  have cc : absT u (1 + 26) = absM (u 250) := hI.c
  obtain ⟨x, hx⟩ : ∃ x, x = u 100003 (a + 1) := ⟨_, rfl⟩
  obtain ⟨y, hy⟩ : ∃ y, y = u 100003 (a + 2) := ⟨_, rfl⟩
  obtain ⟨s, hs⟩ : ∃ s, s = u 100003 (a + 3) := ⟨_, rfl⟩
  have d1 := TD_fastenStrap (g := g) (u := u) (t := 1) (x := x) (y := y) hI.p hI.h (by rw [hx]; exact hS _) (by rw [hy]; exact hS _) s
  rw [cc] at d1
  obtain ⟨E, hE⟩ : ∃ E : Nat, E = (if eEd (absM (u 250)).bd x y s ≠ 0 then eEd (absM (u 250)).bd x y s else if aMayS (absM (u 250)) x y s then 0 else 3) := ⟨_, rfl⟩
  have hE3 : E ≠ 0 → E = 1 ∨ E = 2 ∨ E = 3 := fun z => by
    rw [hE] at z ⊢
    by_cases q : eEd (absM (u 250)).bd x y s ≠ 0
    · rw [if_pos q]
      have := eEd_12 q
      omega
    · rw [if_neg q] at z ⊢
      by_cases q2 : aMayS (absM (u 250)) x y s
      · rw [if_pos q2] at z; exact absurd rfl z
      · rw [if_neg q2]; exact Or.inr (Or.inr rfl)
  rw [← hE] at d1
  have hw := stCh (cM := fun G U => call M_TM_fastenStrap [vA 249, vI x, vI y, vI s] G U) (E : Int) hI d1 (C_L_fastenStrap 1 x y s 261 g u) (fun z g' u' => by
    show (if gExc (E - 1) = _ then some (0, vI 1, g', u') else if gExc (E - 1) = _ then some (0, vI 2, g', u') else if gExc (E - 1) = _ then some (0, vI 3, g', u') else _) = _
    rcases hE3 z with q | q | q
    · rw [exIA q, if_pos rfl, q]; rfl
    · rw [exIO q, if_neg (by decide), if_pos rfl, q]; rfl
    · rw [exIS q, if_neg (by decide), if_neg (by decide), if_pos rfl, q]; rfl) (fun z => by omega) (fun z => by
    rw [hE] at z
    by_cases q : eEd (absM (u 250)).bd x y s ≠ 0
    · rw [if_pos q] at z; exact absurd z q
    · rw [if_neg q] at z
      by_cases q2 : aMayS (absM (u 250)) x y s
      · have hb : (0 ≤ s ∧ s < 2) ∧ bEdge (absM (u 250)).bd x y s := by
          by_cases w : 0 ≤ s ∧ s < 2
          · by_cases w2 : bEdge (absM (u 250)).bd x y s
            · exact ⟨w, w2⟩
            · refine absurd ?_ q
              unfold eEd
              rw [if_pos w, if_neg w2]
              decide
          · refine absurd ?_ q
            unfold eEd
            rw [if_neg w]
            decide
        exact wf_strap hI.w (by omega) hb.2 q2
      · rw [if_neg q2] at z; exact absurd z (by decide)) (fun g' u' hr ha => by
    have hw' : wf (absM (u' (249 + 1))) := by rw [show absM (u' (249 + 1)) = absM (u 250) from ha]; exact hI.w
    have hst : 0 ≤ u' (249 + 1) (5 + 14 * u' (249 + 1) 2 + 1) := by
      have := (wf_pl hw' (absM (u' (249 + 1))).mv).1.1
      rw [aPl_M hw'.2.2.1.1] at this
      exact this
    have h2 := TM_fastenStrap (g := g') (u := u') (t := 249) hr (wf_s hw') hst x y s
    rw [show absM (u' (249 + 1)) = absM (u 250) from ha, ← hE] at h2
    rw [x_e]
    exact h2)
  obtain ⟨g1, u1, e1, q1, q2, q3, q4⟩ := hw
  rw [R_L_law_557, w_id (x := a + 1) (by omega) (by omega), w_id (x := a + 2) (by omega) (by omega), w_id (x := a + 3) (by omega) (by omega), gd_S (by omega) (by omega), gd_S (by omega) (by omega), gd_S (by omega) (by omega), ← hx, ← hy, ← hs, e1, cI_some, gd_S (by omega) (by omega), gd_S (by omega) (by omega), gd_S (by omega) (by omega)]
  simp only [q3]
  rw [← hx, ← hy, ← hs]
  exact Nx_tr q1 q2 q3 (q4 _)
theorem L_681 (hI : Inv g u) : Nx g u (run M_L_law 681 [vA 100003, vA 1, vA 249, vA 261, vI a, vN, vN, vN, vN] [] g u) (KL 100003 a) := by
  have hh := hI.2.2.2.1.2.2.2
  have hh1 : hT u (1 + 60) = hM u 249 := hh.1
  obtain ⟨d1, d2⟩ := TD_undo (g := g) (u := u) (t := 1) hI.p hI.h (by rw [hh1]; exact fun a ha => wf_n (hh.2 a ha))
  rw [hh1] at d1 d2
  have fin : ∀ x : Int, WC g u (call M_L_undo [vA 1, vA 261] g u) x (fun G U => call M_TM_undo [vA 249] G U) → Nx g u (run M_L_law 681 [vA 100003, vA 1, vA 249, vA 261, vI a, vN, vN, vN, vN] [] g u) (KL 100003 a) := fun x hw => by
    obtain ⟨g1, u1, e1, q1, q2, q3, q4⟩ := hw
    rw [R_L_law_681, e1, cI_some]
    exact Nx_tr q1 q2 q3 (q4 _)
  by_cases hn : hM u 249 = []
  · refine fin _ (stC (e := 3) (v := 0) (A' := absM (u 250)) (L := []) 1 hI (fun z => absurd z (by decide)) (fun _ => d1 hn) (C_L_undo 1 261 g u) (fun z g' u' => ?_) (fun _ => by decide) (fun z => absurd z (by decide)) (fun z => absurd z (by decide)) (fun z u' hI' f => (TM_undo hI'.r).1 (by rw [f.hM]; exact hn)))
    show (if gExc _ = _ then _ else _) = _
    rw [exIS rfl, if_pos rfl]
  · have hl := List.dropLast_concat_getLast hn
    obtain ⟨l, hl1⟩ : ∃ l, l = (hM u 249).dropLast := ⟨_, rfl⟩
    obtain ⟨A, hA⟩ : ∃ A, A = (hM u 249).getLast hn := ⟨_, rfl⟩
    rw [← hl1, ← hA] at hl
    obtain ⟨u1, e1, a1, t1, o1, f1⟩ := d2 l A hl.symm
    refine fin _ (stC (e := 0) (v := l.length) (A' := A) (L := l) 0 hI (fun _ => ⟨u1, e1, a1, t1, o1, f1⟩) (fun z => absurd rfl z) (C_L_undo 1 261 g u) (fun z => absurd rfl z) (fun z => absurd rfl z) (fun _ => ⟨hh.2 A (by rw [← hl]; exact List.mem_append_right _ (List.mem_singleton.mpr rfl)), fun B hB => hh.2 B (by rw [← hl]; exact List.mem_append_left _ hB)⟩) (fun _ u' hr f => ?_) (fun z => absurd rfl z))
    have hm : hM u' 249 = hM u 249 := hM_fr (f _ _ (by decide) (by decide)) (funext fun k => f _ k (by decide) (by decide))
    obtain ⟨u2, e2, t2, a2, q2, r2, f2⟩ := (TM_undo hr).2 l A (by rw [hm]; exact hl.symm)
    exact ⟨u2, e2, t2, a2, q2, r2, f2⟩
theorem L_781 (hI : Inv g u) (h0 : 0 ≤ a) (h1 : a + 6 ≤ (g.2.2 : Int)) (h2 : (g.2.2 : Int) < 2147483648) : Nx g u (run M_L_law 781 [vA 100003, vA 1, vA 249, vA 261, vI a, vN, vN, vN, vN] [] g u) (KL 100003 a) := by
  have hh := hI.2.2.2.1.2.2.2
  have hh1 : hT u (1 + 60) = hM u 249 := hh.1
  have cc : absT u (1 + 26) = absM (u 250) := hI.c
  obtain ⟨i, hi⟩ : ∃ i, i = u 100003 (a + 1) := ⟨_, rfl⟩
  obtain ⟨d1, d2, d3⟩ := TD_restore (g := g) (u := u) (t := 1) (i := i) hI.p hI.v hI.h
  rw [hh1, cc] at d3
  have fin : ∀ x : Int, WC g u (call M_L_restore [vA 1, vI i, vA 261] g u) x (fun G U => call M_TM_restore [vA 249, vI i] G U) → Nx g u (run M_L_law 781 [vA 100003, vA 1, vA 249, vA 261, vI a, vN, vN, vN, vN] [] g u) (KL 100003 a) := fun x hw => by
    obtain ⟨g1, u1, e1, q1, q2, q3, q4⟩ := hw
    rw [R_L_law_781, w_id (x := a + 1) (by omega) (by omega), gd_S (by omega) (by omega), ← hi, e1, cI_some, gd_S (by omega) (by omega), q3, ← hi]
    exact Nx_tr q1 q2 q3 (q4 _)
  by_cases hs : eSl i = 0
  · obtain ⟨i0, i1⟩ := eSl_ok hs
    obtain ⟨v1, v2⟩ := hI.2.2.2.2.1 i i0 i1
    cases hv : vM u 249 i with
    | none =>
      refine fin _ (stC (e := 3) (v := 0) (A' := absM (u 250)) (L := []) 2 hI (fun z => absurd z (by decide)) (fun _ => ⟨u, d2 hs (v1.trans hv), Fr.rfl'⟩) (C_L_restore 1 i 261 g u) (fun z g' u' => ?_) (fun _ => by decide) (fun z => absurd z (by decide)) (fun z => absurd z (by decide)) (fun z u' hI' f => (TM_restore (i := i) hI'.r hI'.s hI'.x).2.1 hs (by rw [f.sv]; exact hv)))
      show (if gExc _ = _ then some (0, vI 1, g', u') else if gExc _ = _ then some (0, vI 2, g', u') else _) = _
      rw [exIS rfl, if_neg (by decide), if_pos rfl]
    | some A =>
      obtain ⟨u1, e1, a1, t1, o1, f1⟩ := d3 hs A (v1.trans hv)
      refine fin _ (stC (e := 0) (v := A.n) (A' := A) (L := hPush (hM u 249) (absM (u 250))) 0 hI (fun _ => ⟨u1, e1, a1, t1, o1, f1⟩) (fun z => absurd rfl z) (C_L_restore 1 i 261 g u) (fun z => absurd rfl z) (fun z => absurd rfl z) (fun _ => ⟨v2 A hv, hPush_w hh.2 hI.w⟩) (fun _ u' hr f => ?_) (fun z => absurd rfl z))
      have ha : u' 250 = u 250 := funext fun k => f _ k (by decide) (by decide)
      have hm : hM u' 249 = hM u 249 := hM_fr (f _ _ (by decide) (by decide)) (funext fun k => f _ k (by decide) (by decide))
      have hvm : ∀ j, vM u' 249 j = vM u 249 j := fun j => by
        unfold vM
        rw [show u' (249 + 4) = u (249 + 4) from funext fun k => f _ k (by decide) (by decide), f (249 + 6) j (by decide) (by decide)]
      obtain ⟨u2, e2, t2, a2, q2, r2, f2⟩ := (TM_restore (i := i) hr (by rw [show u' (249 + 1) = u 250 from ha]; exact hI.s) ⟨hI.x.1, hI.x.2.1, fun j j0 j1 b hb => hI.x.2.2 j j0 j1 b (by rw [← hvm]; exact hb)⟩).2.2 hs A (by rw [hvm]; exact hv)
      rw [hm, show u' (249 + 1) = u 250 from ha] at q2
      exact ⟨u2, e2, t2, a2, q2, r2, f2⟩
  · refine fin _ (stC (e := 1) (v := 0) (A' := absM (u 250)) (L := []) 1 hI (fun z => absurd z (by decide)) (fun _ => ⟨u, d1 hs, Fr.rfl'⟩) (C_L_restore 1 i 261 g u) (fun z g' u' => ?_) (fun _ => by decide) (fun z => absurd z (by decide)) (fun z => absurd z (by decide)) (fun z u' hI' f => (TM_restore (i := i) hI'.r hI'.s hI'.x).1 hs))
    show (if gExc _ = _ then some (0, vI 1, g', u') else if gExc _ = _ then some (0, vI 2, g', u') else _) = _
    rw [exIA rfl, if_pos rfl]
end
