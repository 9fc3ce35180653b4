/-! ===== the law makes both ===== -/
theorem iCell_eq {u u' : PM} {a : Nat} {k : Nat × Nat × Nat} (h : u a = u' a) : iCell u a k = iCell u' a k := by
  unfold iCell iFld
  rw [h]
theorem cell_TM12 (B : PM) : (lTM 249).map some = (List.range 12).map (fun i => iCell (uI B) (249 + i) (pKind (249 + i))) := rfl
theorem okL1 (a : Nat) : okL [vA a] := fun v hv => by
  rw [List.mem_singleton.mp hv]
  exact trivial
theorem okL0 : okL [] := fun v hv => nomatch hv
theorem init_TD {B v1 : PM} {L : Nat} (hB : ∀ a k, inR (B a k)) (hL : L < 2147483648) (e1 : run M_TD_init 135 [vA 1] [] (249, 0, L) (uI B) = some (0, vN, (249, 0, L), v1)) : WP M_TD_init 247 6722 0 (gEntry M_TD_init [.ref 1]) [] (ap (iG (1, 0, L) (uI B)) [.inl (10, gBlk 10)]) (gQv (fun G2 => G2 = iG (249, 0, L) v1) gNo) ∧ okM (249, 0, L) v1 := by
  obtain ⟨o1, w1⟩ := run_wp e1 (okL1 1) okL0 (okM_start (by decide) hB hL)
  refine ⟨?_, o1.2.1⟩
  have h := w1 0 0 (gQv (fun G2 => G2 = iG (249, 0, L) v1) gNo) (Nat.le_refl 0) (Nat.le_refl 0) rfl
  have h2 : iG (249, 0, L) (uI B) = ap (iG (1, 0, L) (uI B)) (lTD 1) := (ap_iG (b := 1) (n := 248) (by decide) (cell_TD B)).symm
  rw [h2] at h
  exact mk_TD1 (G := iG (1, 0, L) (uI B)) (Nat.succ_pos 0) (by show 1 + 248 ≤ gRB; decide) (Nat.le_refl 247) (Nat.le_refl 6722) h
theorem init_TM {B v1 v2 : PM} {L : Nat} (hB : ∀ a k, inR (B a k)) (hL : L < 2147483648) (hM : okM (249, 0, L) v1) (g1 : ∀ (a : Nat) (k : Int), 249 ≤ a → v1 a k = uI B a k) (e2 : run M_TM_init 100 [vA 249] [] (261, 0, L) v1 = some (0, vN, (261, 0, L), v2)) : WP M_TM_init 11 6195 0 (gEntry M_TM_init [.ref 249]) [] (ap (iG (249, 0, L) v1) [.inl (11, gBlk 11)]) (gQv (fun G2 => G2 = iG (261, 0, L) v2) gNo) ∧ okM (261, 0, L) v2 := by
  have hM1 : okM (261, 0, L) v1 := by
    refine ⟨hM.1, fun a n k h => ?_, hL⟩
    by_cases c : 249 ≤ a
    · rw [g1 a k c]
      exact (okM_start (N := 261) (by decide) hB hL).2.1 a n k h
    · refine hM.2.1 a n k ?_
      rw [← h, pK_lt (g := (249, 0, L)) (by show a < 249; omega) (by omega), pK_lt (g := (261, 0, L)) (by show a < 261; omega) (by omega)]
  obtain ⟨o1, w1⟩ := run_wp e2 (okL1 249) okL0 hM1
  refine ⟨?_, o1.2.1⟩
  have h := w1 0 0 (gQv (fun G2 => G2 = iG (261, 0, L) v2) gNo) (Nat.le_refl 0) (Nat.le_refl 0) rfl
  have hc : (lTM 249).map some = (List.range 12).map (fun i => iCell v1 (249 + i) (pKind (249 + i))) := by
    rw [cell_TM12 B]
    exact List.map_congr_left fun i _ => (iCell_eq (funext fun k => g1 _ k (by omega))).symm
  have h2 : iG (261, 0, L) v1 = ap (iG (249, 0, L) v1) (lTM 249) := (ap_iG (b := 249) (n := 12) (by decide) hc).symm
  rw [h2] at h
  exact mk_TM1 (G := iG (249, 0, L) v1) (Nat.succ_pos 248) (by show 249 + 12 ≤ gRB; decide) (Nat.le_refl 11) (Nat.le_refl 6195) h
