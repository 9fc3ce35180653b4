/-! ===== the law's questions without a throw ===== -/
section
variable {g : PG} {u : PM} {s : Nat} {a : Int}
theorem Inv.sup (h : Inv g u) : ∀ k : Int, 0 ≤ k → k < 5 → 0 ≤ (aPl (absM (u 250)) (absM (u 250)).mv).2.2.2.1 k := fun k k0 k1 => ((wf_pl h.w _).2.2 k k0 k1).1
theorem Inv.st (h : Inv g u) : 0 ≤ (aPl (absM (u 250)) (absM (u 250)).mv).2.1 := (wf_pl h.w _).1.1
theorem Inv.bo (h : Inv g u) : bOk (bdT u 28) := by
  have : bdT u 28 = (absM (u 250)).bd := congrArg AS.bd h.c
  rw [this]; exact h.w.1.1
theorem Inv.ps (h : Inv g u) : (absM (u 250)).ps ≤ 2 := h.w.2.2.1.2.2
theorem L_863 (hI : Inv g u) : Nx g u (run M_L_law 863 [vA s, vA 1, vA 249, vA 261, vI a, vN, vN, vN, vN] [] g u) (KL s a) := by
  rw [R_L_law_863]
  exact stA (cM := fun g u => call M_TM_emptyCells [vA 249] g u) (v := bCnt (absM (u 250)).bd (-1)) hI (by rw [← hI.c]; exact (TD_emptyCells (K_TD hI.1) hI.bo).q) (fun u' hI' f => by rw [← f.A (wf_n hI.w)]; exact (TM_emptyCells (K_TM hI.1) hI'.m).q)
theorem L_876 (hI : Inv g u) : Nx g u (run M_L_law 876 [vA s, vA 1, vA 249, vA 261, vI a, vN, vN, vN, vN] [] g u) (KL s a) := by
  rw [R_L_law_876]
  exact stA (cM := fun g u => call M_TM_pieceCount [vA 249] g u) (v := (absM (u 250)).n) hI (by rw [← hI.c]; exact (TD_pieceCount (K_TD hI.1)).q) (fun u' hI' f => by rw [← f.A (wf_n hI.w)]; exact (TM_pieceCount (K_TM hI.1)).q)
theorem L_889 (hI : Inv g u) : Nx g u (run M_L_law 889 [vA s, vA 1, vA 249, vA 261, vI a, vN, vN, vN, vN] [] g u) (KL s a) := by
  rw [R_L_law_889]
  exact stA (cM := fun g u => call M_TM_strapCount [vA 249] g u) (v := bStn (absM (u 250)).bd) hI (by rw [← hI.c]; exact (TD_strapCount (K_TD hI.1)).q) (fun u' hI' f => by
    have := (TM_strapCount (g := g) (K_TM hI.1) hI'.m).q
    rw [← bStn_M hI'.m] at this
    rw [← f.A (wf_n hI.w)]
    exact this)
theorem L_902 (hI : Inv g u) : Nx g u (run M_L_law 902 [vA s, vA 1, vA 249, vA 261, vI a, vN, vN, vN, vN] [] g u) (KL s a) := by
  rw [R_L_law_902]
  exact stA (cM := fun g u => call M_TM_completeRows [vA 249] g u) (v := bCmp (absM (u 250)).bd) hI (by rw [← hI.c]; exact (TD_completeRows (K_TD hI.1) hI.bo).q) (fun u' hI' f => by rw [← f.A (wf_n hI.w)]; exact (TM_completeRows (K_TM hI.1) hI'.m).q)
theorem L_915 (hI : Inv g u) : Nx g u (run M_L_law 915 [vA s, vA 1, vA 249, vA 261, vI a, vN, vN, vN, vN] [] g u) (KL s a) := by
  rw [R_L_law_915]
  exact stA (cM := fun g u => call M_TM_undoableChanges [vA 249] g u) (v := (hM u 249).length) hI (by rw [← hI.2.2.2.1.2.2.2.1]; exact (TD_undoable (K_TD hI.1) hI.h).q) (fun u' hI' f => by rw [← f.hM]; exact (TM_undoable2 hI'.r).q)
theorem L_1550 (hI : Inv g u) : Nx g u (run M_L_law 1550 [vA s, vA 1, vA 249, vA 261, vI a, vN, vN, vN, vN] [] g u) (KL s a) := by
  rw [R_L_law_1550]
  exact stA (cM := fun g u => call M_TM_playerToMove [vA 249] g u) (v := if 2 ≤ (absM (u 250)).ps then -1 else (absM (u 250)).mv) hI (by rw [← hI.c]; exact (TD_playerToMove (K_TD hI.1)).q) (fun u' hI' f => by
    have h2 := hI'.ps
    have := (TM_playerToMove (g := g) (u := u') (K_TM hI.1)).q
    rw [← f.A (wf_n hI.w)]
    by_cases c : 2 ≤ (absM (u' 250)).ps
    · rw [if_pos (show (absM (u' (249 + 1))).ps = 2 from Int.le_antisymm h2 c)] at this
      rw [if_pos c]; exact this
    · rw [if_neg (show ¬ (absM (u' (249 + 1))).ps = 2 from fun z => c (by rw [show (absM (u' 250)).ps = 2 from z]; decide))] at this
      rw [if_neg c]; exact this)
theorem L_1563 (hI : Inv g u) : Nx g u (run M_L_law 1563 [vA s, vA 1, vA 249, vA 261, vI a, vN, vN, vN, vN] [] g u) (KL s a) := by
  rw [R_L_law_1563]
  exact stA (cM := fun g u => call M_TM_isOver [vA 249] g u) (v := bI (2 ≤ (absM (u 250)).ps)) hI (by rw [← hI.c]; exact (TD_isOver (K_TD hI.1)).q) (fun u' hI' f => by
    have h2 := hI'.ps
    have := (TM_isOver (g := g) (u := u') (K_TM hI.1)).q
    rw [← f.A (wf_n hI.w), bI_congr (show 2 ≤ (absM (u' 250)).ps ↔ (absM (u' 250)).ps = 2 by omega)]
    exact this)
theorem L_1576 (hI : Inv g u) : Nx g u (run M_L_law 1576 [vA s, vA 1, vA 249, vA 261, vI a, vN, vN, vN, vN] [] g u) (KL s a) := by
  rw [R_L_law_1576]
  exact stA (cM := fun g u => call M_TM_leader [vA 249] g u) hI (TD_leader (K_TD hI.1)).q (fun u' hI' f => by
    have := (TM_leader (g := g) (u := u') (K_TM hI.1)).q
    rw [show absM (u' (249 + 1)) = absT u (1 + 26) from (f.A (wf_n hI.w)).trans hI.c.symm] at this
    exact this)
theorem L_2336 (hI : Inv g u) : Nx g u (run M_L_law 2336 [vA s, vA 1, vA 249, vA 261, vI a, vN, vN, vN, vN] [] g u) (KL s a) := by
  rw [R_L_law_2336]
  exact stA (cM := fun g u => call M_TM_bestShape [vA 249] g u) (v := (aBest (absM (u 250))).1) hI (by rw [← hI.c]; exact TD_bestShape hI.p (K_ hI.1 _ (by decide) rfl)) (fun u' hI' f => by rw [← f.A (wf_n hI.w)]; exact TM_bestShape (K_TM hI.1) hI'.s hI'.sup)
theorem L_2349 (hI : Inv g u) : Nx g u (run M_L_law 2349 [vA s, vA 1, vA 249, vA 261, vI a, vN, vN, vN, vN] [] g u) (KL s a) := by
  rw [R_L_law_2349]
  exact stA (cM := fun g u => call M_TM_bestRotation [vA 249] g u) (v := (aBest (absM (u 250))).2.1) hI (by rw [← hI.c]; exact TD_bestRotation hI.p (K_ hI.1 _ (by decide) rfl)) (fun u' hI' f => by rw [← f.A (wf_n hI.w)]; exact TM_bestRotation (K_TM hI.1) hI'.s hI'.sup)
theorem L_2362 (hI : Inv g u) : Nx g u (run M_L_law 2362 [vA s, vA 1, vA 249, vA 261, vI a, vN, vN, vN, vN] [] g u) (KL s a) := by
  rw [R_L_law_2362]
  exact stA (cM := fun g u => call M_TM_bestColumn [vA 249] g u) (v := (aBest (absM (u 250))).2.2.1) hI (by rw [← hI.c]; exact TD_bestColumn hI.p (K_ hI.1 _ (by decide) rfl)) (fun u' hI' f => by rw [← f.A (wf_n hI.w)]; exact TM_bestColumn (K_TM hI.1) hI'.s hI'.sup)
theorem L_2375 (hI : Inv g u) : Nx g u (run M_L_law 2375 [vA s, vA 1, vA 249, vA 261, vI a, vN, vN, vN, vN] [] g u) (KL s a) := by
  rw [R_L_law_2375]
  exact stA (cM := fun g u => call M_TM_bestRow [vA 249] g u) (v := (aBest (absM (u 250))).2.2.2.1) hI (by rw [← hI.c]; exact TD_bestRow hI.p (K_ hI.1 _ (by decide) rfl)) (fun u' hI' f => by rw [← f.A (wf_n hI.w)]; exact TM_bestRow (K_TM hI.1) hI'.s hI'.sup)
theorem L_2388 (hI : Inv g u) : Nx g u (run M_L_law 2388 [vA s, vA 1, vA 249, vA 261, vI a, vN, vN, vN, vN] [] g u) (KL s a) := by
  rw [R_L_law_2388]
  have cc : absT u (1 + 26) = absM (u 250) := hI.c
  obtain ⟨v, hv, h1⟩ := TD_bestStrapEffect (g := g) (u := u) (t := 1) hI.p (K_ hI.1 _ (by decide) rfl) (K_ hI.1 _ (by decide) rfl) (by rw [cc]; exact hI.w.1.2.1) (by rw [cc]; exact hI.w.2.2.1.1) (by rw [cc]; exact hI.st)
  rw [cc] at hv
  refine stA (cM := fun g u => call M_TM_bestStrapEffect [vA 249] g u) hI h1 (fun u' hI' f => ?_)
  obtain ⟨v', hv', h2⟩ := TM_bestStrapEffect (g := g) (u := u') (t := 249) (K_TM hI.1) hI'.s hI'.st
  have cc' : absM (u' (249 + 1)) = absM (u 250) := f.A (wf_n hI.w)
  rw [cc'] at hv'
  have : v = v' := by
    by_cases c : 2 ≤ (absM (u 250)).ps
    · rw [if_pos c] at hv hv'; omega
    · rw [if_neg c] at hv hv'
      exact isEf_u hv hv'
  rw [this]
  exact h2
theorem L_2401 (hI : Inv g u) : Nx g u (run M_L_law 2401 [vA s, vA 1, vA 249, vA 261, vI a, vN, vN, vN, vN] [] g u) (KL s a) := by
  rw [R_L_law_2401]
  have cc : absT u (1 + 26) = absM (u 250) := hI.c
  obtain ⟨v, hv, h1⟩ := TD_regionCount (g := g) (u := u) (t := 1) hI.p (K_Rg hI.1)
  rw [cc] at hv
  refine stA (cM := fun g u => call M_TM_regionCount [vA 249] g u) hI h1 (fun u' hI' f => ?_)
  obtain ⟨v', hv', h2⟩ := TM_regionCount (g := g) (u := u') (t := 249) (K_TM hI.1) hI'.m (K_ hI.1 _ (by decide) rfl)
  have cc' : bdM (u' (249 + 1)) = (absM (u 250)).bd := congrArg AS.bd (f.A (wf_n hI.w))
  rw [cc'] at hv'
  rw [show v = v' from isNum_u hv hv']
  exact h2
theorem L_2414 (hI : Inv g u) : Nx g u (run M_L_law 2414 [vA s, vA 1, vA 249, vA 261, vI a, vN, vN, vN, vN] [] g u) (KL s a) := by
  rw [R_L_law_2414]
  have cc : absT u (1 + 26) = absM (u 250) := hI.c
  obtain ⟨v, hv, h1⟩ := TD_largestRegion (g := g) (u := u) (t := 1) hI.p (K_Rg hI.1)
  rw [cc] at hv
  refine stA (cM := fun g u => call M_TM_largestRegion [vA 249] g u) hI h1 (fun u' hI' f => ?_)
  obtain ⟨v', hv', h2⟩ := TM_largestRegion (g := g) (u := u') (t := 249) (K_TM hI.1) hI'.m (K_ hI.1 _ (by decide) rfl)
  have cc' : bdM (u' (249 + 1)) = (absM (u 250)).bd := congrArg AS.bd (f.A (wf_n hI.w))
  rw [cc'] at hv'
  rw [show v = v' from isLrg_u hv hv']
  exact h2
theorem L_2570 (hI : Inv g u) : Nx g u (run M_L_law 2570 [vA s, vA 1, vA 249, vA 261, vI a, vN, vN, vN, vN] [] g u) (KL s a) := by
  rw [R_L_law_2570]
  have cc : absT u (1 + 26) = absM (u 250) := hI.c
  obtain ⟨v, hv, h1⟩ := TD_deadCells (g := g) (u := u) (t := 1) hI.p (K_Rg hI.1)
  rw [cc] at hv
  refine stA (cM := fun g u => call M_TM_deadCells [vA 249] g u) hI h1 (fun u' hI' f => ?_)
  obtain ⟨v', hv', h2⟩ := TM_deadCells (g := g) (u := u') (t := 249) (K_TM hI.1) hI'.m (K_ hI.1 _ (by decide) rfl)
  have cc' : bdM (u' (249 + 1)) = (absM (u 250)).bd := congrArg AS.bd (f.A (wf_n hI.w))
  rw [cc'] at hv'
  rw [show v = v' from isDd_u hv hv']
  exact h2
theorem L_2583 (hI : Inv g u) : Nx g u (run M_L_law 2583 [vA s, vA 1, vA 249, vA 261, vI a, vN, vN, vN, vN] [] g u) (KL s a) := by
  rw [R_L_law_2583]
  have cc : absT u (1 + 26) = absM (u 250) := hI.c
  exact stA (cM := fun g u => call M_TM_inconsistencies [vA 249] g u) (v := aInc (absM (u 250))) hI (by rw [← hI.c]; exact TD_inconsistencies hI.p (by rw [cc]; exact hI.w)) (fun u' hI' f => by rw [← f.A (wf_n hI.w)]; exact TM_inconsistencies (K_TM hI.1) hI'.w)
theorem L_439 (hI : Inv g u) : Nx g u (run M_L_law 439 [vA s, vA 1, vA 249, vA 261, vI a, vN, vN, vN, vN] [] g u) (KL s a) := by
  rw [R_L_law_439]
  refine stA (cM := fun g u => call M_TM_errorCode [vA 249] g u) (v := u 2 1) hI ⟨u, fun _ _ _ _ => rfl, (TD_errs (t := 1) (K_TD hI.1).1 (K_Rd hI.1)).1⟩ (fun u' hI' f => ⟨_, ?_, up_s u' 249 7 0, FqM7 _ _ _⟩)
  rw [hI.2.2.2.2.2.2.1.1, ← f 249 15 (by unfold Un; omega)]
  exact (TM_errs (K_TM hI.1)).1
theorem L_452 (hI : Inv g u) : Nx g u (run M_L_law 452 [vA s, vA 1, vA 249, vA 261, vI a, vN, vN, vN, vN] [] g u) (KL s a) := by
  rw [R_L_law_452]
  refine stA (cM := fun g u => call M_TM_errorOffset [vA 249] g u) (v := u 2 2) hI ⟨u, fun _ _ _ _ => rfl, (TD_errs (t := 1) (K_TD hI.1).1 (K_Rd hI.1)).2⟩ (fun u' hI' f => ⟨_, ?_, up_s u' 249 7 0, FqM7 _ _ _⟩)
  rw [hI.2.2.2.2.2.2.1.2, ← f 249 16 (by unfold Un; omega)]
  exact (TM_errs (K_TM hI.1)).2
end
