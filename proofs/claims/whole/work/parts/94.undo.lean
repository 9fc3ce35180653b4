/-! ===== undo, on both sides; how many changes can be undone ===== -/
section
variable {g : PG} {u : PM} {t : Nat}
theorem hT_len (u : PM) (h : Nat) : (hT u h).length = (u h 0).toNat := by unfold hT; rw [List.length_map, List.length_range]
theorem hM_len (u : PM) (t : Nat) : (hM u t).length = (u t 6).toNat := by unfold hM; rw [List.length_map, List.length_range]
theorem TD_undoable (hk : kTD g t) (hh : hOk g u (t + 60)) : AnT g u t (call M_TD_undoableChanges [vA t] g u) 0 (hT u (t + 60)).length := by
  refine ⟨u, Fr.rfl', ?_⟩
  have h0 := hh.2.2.2.1
  rw [C_TD_undoableChanges, gd_O hk.1, gd_O hh.1, hT_len, show (((u (t + 60) 0).toNat : Nat) : Int) = u (t + 60) 0 by omega]
  rfl
theorem TM_undoable2 (hr : rOk g u t) : AnM g u t (call M_TM_undoableChanges [vA t] g u) 0 (hM u t).length := by
  have h0 := hr.2.2.1
  rw [hM_len, show (((u t 6).toNat : Nat) : Int) = u t 6 by omega]
  exact TM_undoable hr.1
theorem TD_undo (h : pOk2 g u t) (hh : hOk g u (t + 60)) (hA : ∀ a ∈ hT u (t + 60), nOk a) :
    (hT u (t + 60) = [] → ∃ u', call M_TD_undo [vA t] g u = some (3, vN, gX g, u') ∧ Fr (t + 234) u u') ∧
    ∀ l a, hT u (t + 60) = l ++ [a] → ∃ u', call M_TD_undo [vA t] g u = some (0, vI l.length, g, u') ∧ absT u' (t + 26) = a ∧ hT u' (t + 60) = l ∧ hOk g u' (t + 60) ∧ Fc t u u' := by
  have h0 := hh.2.2.2.1
  have hl := hT_len u (t + 60)
  rw [C_TD_undo, gd_O h.1.1, gd_O hh.1]
  constructor
  · intro e
    rw [e] at hl
    have : u (t + 60) 0 = 0 := by simp at hl; omega
    rw [if_pos this]
    exact ⟨u, rfl, Fr.rfl'⟩
  · intro l a e
    rw [e, List.length_append] at hl
    simp only [List.length_cons, List.length_nil] at hl
    have hc : 0 < u (t + 60) 0 := by omega
    obtain ⟨u', l', a', e', e1, e2, e3, e4, e5, e6⟩ := Hi_bringBack (g := g) (u := u) (p := t + 26) hh h.1.2.1 (by omega) hA hc
    rw [e] at e'
    obtain ⟨q1, q2⟩ := List.append_inj' e' rfl
    obtain rfl : a = a' := by injection q2
    subst q1
    rw [if_neg (by omega), gd_O h.1.1, gd_O h.1.1, gd_O hh.1, e1, cV_some, gd_O h.1.1, gd_O hh.1, e4]
    refine ⟨u', ?_, e3, e2, e5, fun b k n1 n2 n3 => e6 b k (by omega) (by omega)⟩
    rw [show u (t + 60) 0 - 1 = (l.length : Int) by omega]
theorem TM_undo (hr : rOk g u t) :
    (hM u t = [] → ∃ u', call M_TM_undo [vA t] g u = some (0, vI 0, g, u') ∧ u' t 7 = 1 ∧ Fq t u u') ∧
    ∀ l a, hM u t = l ++ [a] → ∃ u', call M_TM_undo [vA t] g u = some (0, vI l.length, g, u') ∧ u' t 7 = 0 ∧ absM (u' (t + 1)) = a ∧ hM u' t = l ∧ rOk g u' t ∧ FdM t u u' := by
  have hr' := hr
  obtain ⟨hk, k3, ⟨c0, c1⟩, hA⟩ := hr
  have hl := hM_len u t
  rw [C_TM_undo, gd_O hk.1]
  constructor
  · intro e
    rw [e] at hl
    have : u t 6 = 0 := by simp at hl; omega
    refine ⟨up u t 7 1, ?_, up_s .., Fm7 _ _ _⟩
    rw [if_pos this, R_TM_undo_13, gd_O hk.1, TM_fails hk, cI_some, show fC 1 0 0 = 1 from rfl, bI_t (by decide), if_neg (by decide)]
  · intro l a e
    have hl2 := hl
    rw [e, List.length_append] at hl2
    simp only [List.length_cons, List.length_nil] at hl2
    obtain ⟨n, hn⟩ : ∃ n : Nat, (u t 6).toNat = n + 1 := ⟨(u t 6).toNat - 1, by omega⟩
    have es : hM u t = (List.range n).map (fun i : Nat => absM (fun k => u (t + 3) (417 * (i : Int) + k))) ++ [absM (fun k => u (t + 3) (417 * (n : Int) + k))] := by
      unfold hM
      rw [hn]
      exact map_range_snoc (fun _ _ => rfl) rfl
    have e' := e
    rw [es] at e'
    obtain ⟨q1, q2⟩ := List.append_inj' e' rfl
    have q3 : absM (fun k => u (t + 3) (417 * (n : Int) + k)) = a := by injection q2
    have hln : l.length = n := by omega
    have w1 : w (u t 6 - 1) = (n : Int) := by rw [w_id (by omega) (by omega)]; omega
    have eN : hM (cpy (up (up u t 7 0) t 6 (n : Int)) (t + 3) (t + 1) (n * 417) 0 417) t = l := by
      rw [← q1]
      unfold hM
      rw [cpy_o (by omega), up_s, Int.toNat_natCast]
      refine map_range_eq fun i hi => congrArg absM (funext fun k => ?_)
      rw [cpy_o (by omega), up_o (by omega), up_o (by omega)]
    refine ⟨cpy (up (up u t 7 0) t 6 (n : Int)) (t + 3) (t + 1) (n * 417) 0 417, ?_, ?_, ?_, eN, ⟨hk, k3, ?_, fun b hb => ?_⟩, fun b k n1 n2 n3 n4 n5 => ?_⟩
    · rw [if_neg (by omega), R_TM_undo_13, gd_O hk.1, TM_fails hk, cI_some, show fC 0 0 0 = 0 from rfl, bI_f (by decide), if_pos rfl]
      simp only [gd_O hk.1]
      rw [up_s, show up u t 7 0 t 6 = u t 6 from up_j (by decide), w1, w_id (x := (n : Int) * 417) (by omega) (by omega), C_TM_copy, gd_C k3 hk.2.1 (by decide) (by decide) (by decide) (by omega) (by omega) (by decide), cV_some, gd_O hk.1, cpy_o (by omega), up_s, hln]
    · rw [cpy_o (by omega), up_j (by decide), up_s]
    · rw [← q3]
      refine absM_o (hM_nOk hr' (by omega)) fun k b1 b2 => ?_
      unfold cpy
      rw [if_pos ⟨rfl, by omega, by omega⟩, up_o (by omega), up_o (by omega)]
      exact congrArg (u (t + 3)) (by omega)
    · rw [cpy_o (by omega), up_s]; omega
    · rw [eN] at hb
      exact hA b (by rw [e]; exact List.mem_append.mpr (Or.inl hb))
    · rw [cpy_o n2, up_n (by omega), up_n (by omega)]
end
