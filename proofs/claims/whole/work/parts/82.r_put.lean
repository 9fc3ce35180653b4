/-! ===== the reference: straps, placing, passing ===== -/
theorem up_set (u : PM) (o : Nat) (k v : Int) : up u o k v o = setI (u o) k v := by
  funext j
  unfold up setI
  by_cases h : j = k
  · rw [if_pos ⟨rfl, h⟩, if_pos h]
  · rw [if_neg fun q => h q.2, if_neg h]
theorem setI_s (f : Int → Int) (k v : Int) : setI f k v k = v := if_pos rfl
theorem setI_o {f : Int → Int} {k v j : Int} (h : j ≠ k) : setI f k v j = f j := if_neg h
section
variable {g : PG} {u : PM} {t : Nat} {s r x y : Int}
theorem TM_mf24 (hk : kTM g t) (ho : sOk (u (t + 1))) (hst : 0 ≤ u (t + 1) (5 + 14 * u (t + 1) 2 + 1)) (h : bIn (bdM (u (t + 1))) x y) {x' y' : Int} (h' : bIn (bdM (u (t + 1))) x' y') (hx : min2 x x' = x) (hy : min2 y y' = y) (hs : (if y = y' then (0 : Int) else 1) = s) (hb : bBey (bdM (u (t + 1))) x y s = bCell (bdM (u (t + 1))) x' y') (c : Int) :
    run M_TM_mayFasten 24 [vA t, vI x, vI y, vI c, vI x', vN] [vI y'] g u = some (0, vI (bI (¬ 2 ≤ (absM (u (t + 1))).ps ∧ 0 < (aPl (absM (u (t + 1))) (absM (u (t + 1))).mv).2.1 ∧ bStrap (absM (u (t + 1))).bd x y s = 0 ∧ ¬ (bCell (absM (u (t + 1))).bd x y = -2 ∨ bBey (absM (u (t + 1))).bd x y s = -2) ∧ ¬ (0 ≤ bCell (absM (u (t + 1))).bd x y ∧ bCell (absM (u (t + 1))).bd x y = bBey (absM (u (t + 1))).bd x y s))), g, u) := by
  obtain ⟨om, on, hmv, hps⟩ := ho
  have b1 := bIn_bd om h
  have b2 := bIn_bd om h'
  have m1 := om.2.2.1 (8 * y + x) (by omega) (by omega)
  have m2 := om.2.2.1 (8 * y' + x') (by omega) (by omega)
  have hS := TM_isStrapped (g := g) (x := x) (y := y) (x' := x') (y' := y') hk om (by rw [hx, hy]; exact h)
  rw [hx, hy, hs] at hS
  rw [show aPl (absM (u (t + 1))) (absM (u (t + 1))).mv = plM (u (t + 1)) (5 + 14 * u (t + 1) 2) from aPl_M hmv]
  rw [R_TM_mayFasten_24]
  simp only [gd_O hk.1, TM_over hk, cI_some]
  rw [gd_R hk.2.1 (by omega) (by omega), TM_of hk hmv (by omega) (by omega), cI_some]
  simp only [gd_O hk.1, hS, cI_some, TM_cell hk om h, TM_cell hk om h', TM_pieceOf hk om h, TM_pieceOf hk om h']
  show _ = some (0, vI (bI (¬ 2 ≤ u (t + 1) 3 ∧ 0 < u (t + 1) (5 + 14 * u (t + 1) 2 + 1) ∧ bStrap (bdM (u (t + 1))) x y s = 0 ∧ ¬ (bCell (bdM (u (t + 1))) x y = -2 ∨ bBey (bdM (u (t + 1))) x y s = -2) ∧ ¬ (0 ≤ bCell (bdM (u (t + 1))) x y ∧ bCell (bdM (u (t + 1))) x y = bBey (bdM (u (t + 1))) x y s))), g, u)
  rw [hb]
  have E1 := enc_eq m1.1
  have E2 := enc_eq m2.1
  rw [← bdM_cell om h] at E1
  rw [← bdM_cell om h'] at E2
  by_cases h1 : u (t + 1) 3 = 2
  · rw [bI_t h1, if_neg (by omega), bI_f fun q => q.1 (by omega)]
  · rw [bI_f h1, if_pos rfl]
    by_cases h2 : u (t + 1) (5 + 14 * u (t + 1) 2 + 1) = 0
    · rw [if_pos h2, bI_f fun q => by have := q.2.1; omega]
    · rw [if_neg h2]
      by_cases h3 : bStrap (bdM (u (t + 1))) x y s = 0
      · rw [bI_f (fun q => q h3), if_pos rfl]
        by_cases h4 : u (t + 1) (33 + (8 * y + x)) = 1
        · rw [if_pos h4, bI_f fun q => q.2.2.2.1 (Or.inl (E1.2.1.mpr h4))]
        · rw [if_neg h4]
          by_cases h5 : u (t + 1) (33 + (8 * y' + x')) = 1
          · rw [if_pos h5, bI_f fun q => q.2.2.2.1 (Or.inr (E2.2.1.mpr h5))]
          · rw [if_neg h5]
            have n4 : ¬ bCell (bdM (u (t + 1))) x y = -2 := fun k => h4 (E1.2.1.mp k)
            have n5 : ¬ bCell (bdM (u (t + 1))) x' y' = -2 := fun k => h5 (E2.2.1.mp k)
            by_cases h6 : 0 ≤ bCell (bdM (u (t + 1))) x y
            · rw [if_pos h6, if_neg (by omega)]
              by_cases h7 : bCell (bdM (u (t + 1))) x y = bCell (bdM (u (t + 1))) x' y'
              · rw [if_pos (by rw [if_pos (by omega)]; exact h7), bI_f fun q => q.2.2.2.2 ⟨h6, h7⟩]
              · rw [if_neg (by split <;> omega), bI_t ⟨by omega, by omega, h3, fun q => q.elim n4 n5, fun q => h7 q.2⟩]
            · rw [if_neg h6, if_pos rfl, bI_t ⟨by omega, by omega, h3, fun q => q.elim n4 n5, fun q => h6 q.1⟩]
      · rw [bI_t h3, if_neg (by omega), bI_f fun q => h3 q.2.2.1]
theorem TM_mayFasten (hk : kTM g t) (ho : sOk (u (t + 1))) (hst : 0 ≤ u (t + 1) (5 + 14 * u (t + 1) 2 + 1)) (hs : s = 0 ∨ s = 1) (hE : bEdge (bdM (u (t + 1))) x y s) :
    call M_TM_mayFasten [vA t, vI x, vI y, vI s] g u = some (0, vI (bI (¬ 2 ≤ (absM (u (t + 1))).ps ∧ 0 < (aPl (absM (u (t + 1))) (absM (u (t + 1))).mv).2.1 ∧ bStrap (absM (u (t + 1))).bd x y s = 0 ∧ ¬ (bCell (absM (u (t + 1))).bd x y = -2 ∨ bBey (absM (u (t + 1))).bd x y s = -2) ∧ ¬ (0 ≤ bCell (absM (u (t + 1))).bd x y ∧ bCell (absM (u (t + 1))).bd x y = bBey (absM (u (t + 1))).bd x y s))), g, u) := by
  have b1 := bIn_bd ho.1 hE.1
  obtain ⟨h, he⟩ := hE
  rw [C_TM_mayFasten, w_id (x := x + 1) (by omega) (by omega), R_TM_mayFasten_11, R_TM_mayFasten_11, w_id (x := y + 1) (by omega) (by omega)]
  rcases hs with rfl | rfl
  · rw [if_pos rfl, if_pos rfl]
    have hx : x < (bdM (u (t + 1))).1 - 1 := by omega
    exact TM_mf24 hk ho hst h ⟨⟨by omega, by omega⟩, h.2⟩ (by unfold min2; split <;> omega) (by unfold min2; split <;> omega) (if_pos rfl) (if_pos rfl) 0
  · rw [if_neg (by decide), if_neg (by decide)]
    have hy : y < (bdM (u (t + 1))).2.1 - 1 := by omega
    exact TM_mf24 hk ho hst h ⟨h.1, by omega, by omega⟩ (by unfold min2; split <;> omega) (by unfold min2; split <;> omega) (if_neg (by omega)) (if_neg (by decide)) 1
/-- what the reference's changes may change: its questions' places and s -/
def Fs (t : Nat) (u u' : PM) : Prop := ∀ (a : Nat) (k : Int), ¬ (a = t ∧ k = 17) → a ≠ t + 9 → a ≠ t + 10 → a ≠ t + 1 → u' a k = u a k
theorem TM_passes (hk : kTM g t) (ho : sOk (u (t + 1))) : ∃ u', call M_TM_passes [vA t] g u = some (0, vI (w ((absM (u (t + 1))).ps + 1)), g, u') ∧ absM (u' (t + 1)) = aTurn (absM (u (t + 1))) (w ((absM (u (t + 1))).ps + 1)) ∧ Fs t u u' := by
  refine ⟨up (up u (t + 1) 3 (w (u (t + 1) 3 + 1))) (t + 1) 2 (w (1 - u (t + 1) 2)), ?_, ?_, fun a k h1 h2 h3 h4 => by rw [up_o h4, up_o h4]⟩
  · rw [C_TM_passes]
    simp only [gd_O hk.1]
    rw [gd_R hk.2.1 (by omega) (by omega), gd_W hk.2.1 (by omega) (by omega), gd_R hk.2.1 (by omega) (by omega), gd_W hk.2.1 (by omega) (by omega), gd_R hk.2.1 (by omega) (by omega)]
    simp (disch := decide) only [up_j, up_s]
    rfl
  · rw [up_set, up_set]
    obtain ⟨om, on, hmv, hps⟩ := ho
    have n1 : u (t + 1) 12 ≤ 6 := on.2.1.2
    have n2 : u (t + 1) 26 ≤ 6 := on.2.2.2
    have o : ∀ k : Int, k ≠ 2 → k ≠ 3 → setI (setI (u (t + 1)) 3 (w (u (t + 1) 3 + 1))) 2 (w (1 - u (t + 1) 2)) k = u (t + 1) k := fun k h2 h3 => by rw [setI_o h2, setI_o h3]
    unfold aTurn absM
    rw [bdM_o (o 0 (by decide) (by decide)) (o 1 (by decide) (by decide)) (fun k a b => o k (by omega) (by omega)), pcM_o (o 4 (by decide) (by decide)) (fun k a => o k (by omega) (by omega)), plM_o (b := 5) n1 (fun k a b => o k (by omega) (by omega)), plM_o (b := 19) n2 (fun k a b => o k (by omega) (by omega)), o 4 (by decide) (by decide), setI_s, setI_o (by decide), setI_s]
end
