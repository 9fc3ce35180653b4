/-! ===== the class's changes: place, strap, pass ===== -/
abbrev aMayP (A : AS) (s r x y : Int) : Prop := ¬ 2 ≤ A.ps ∧ 0 < (aPl A A.mv).2.2.2.1 s ∧ bMis A.bd s r x y = 0
abbrev aMayS (A : AS) (x y s : Int) : Prop := ¬ 2 ≤ A.ps ∧ 0 < (aPl A A.mv).2.1 ∧ bStrap A.bd x y s = 0 ∧ ¬ (bCell A.bd x y = -2 ∨ bBey A.bd x y s = -2) ∧ ¬ (0 ≤ bCell A.bd x y ∧ bCell A.bd x y = bBey A.bd x y s)
abbrev aMayN (A : AS) : Prop := ¬ 2 ≤ A.ps ∧ aMov A A.mv = 0
/-- what a change of the class may alter -/
def Fc (t : Nat) (u u' : PM) : Prop := ∀ (a : Nat) (k : Int), ¬ (t + 26 ≤ a ∧ a ≤ t + 42) → ¬ (t + 60 ≤ a ∧ a < t + 198) → ¬ (t + 234 ≤ a ∧ a ≤ t + 239) → u' a k = u a k
def ChT (g : PG) (u : PM) (t : Nat) (c : Option PO) (e : Nat) (v : Int) (A' : AS) : Prop := (e = 0 → ∃ u', c = some (0, vI v, g, u') ∧ absT u' (t + 26) = A' ∧ hT u' (t + 60) = hPush (hT u (t + 60)) (absT u (t + 26)) ∧ hOk g u' (t + 60) ∧ Fc t u u') ∧ (e ≠ 0 → ∃ u', c = some (e, vN, gX g, u') ∧ Fr (t + 234) u u')
theorem hT_fr {u u' : PM} {h : Nat} (f : ∀ (a : Nat) (k : Int), h ≤ a → a < h + 138 → u' a k = u a k) : hT u' h = hT u h := by
  unfold hT
  rw [f h 0 (by omega) (by omega), f h 1 (by omega) (by omega)]
  exact map_range_eq fun i _ => absT_eq fun a k b1 b2 => f a k (by unfold hSlot at b1; omega) (by unfold hSlot at b2; omega)
theorem hOk_fr {g : PG} {u u' : PM} {h : Nat} (f : ∀ (a : Nat) (k : Int), h ≤ a → a < h + 138 → u' a k = u a k) (ho : hOk g u h) : hOk g u' h := by
  obtain ⟨a1, a2, a3, a4, a5⟩ := ho
  refine ⟨a1, a2, a3, ?_, ?_⟩
  · rw [f h 0 (by omega) (by omega)]; exact a4
  · rw [f h 1 (by omega) (by omega)]; exact a5
section
variable {g : PG} {u : PM} {t : Nat} {s r x y : Int}
theorem TD_place (h : pOk2 g u t) (hh : hOk g u (t + 60)) (hn : aMayP (absT u (t + 26)) s r x y → (absT u (t + 26)).n < 32) :
    ChT g u t (call M_TD_place [vA t, vI s, vI r, vI x, vI y] g u) (if eAim (absT u (t + 26)).bd s r x y ≠ 0 then eAim (absT u (t + 26)).bd s r x y else if aMayP (absT u (t + 26)) s r x y then 0 else 3) (bPts (absT u (t + 26)).bd s r y) (aPut (absT u (t + 26)) s r x y) := by
  obtain ⟨u1, f1, e1, h1⟩ := TD_aimAt (u := u) h.1 h.2.2.2 s r x y
  rw [C_TD_place, gd_O h.1.1, e1]
  show ChT g u t _ (if eAim (bdT u (t + 26 + 1)) s r x y ≠ 0 then eAim (bdT u (t + 26 + 1)) s r x y else _) _ _
  by_cases he : eAim (bdT u (t + 26 + 1)) s r x y = 0
  · obtain ⟨hA, hs, hr, hb⟩ := h1 he
    obtain ⟨hq1, a1⟩ := h.sq.fr f1
    obtain ⟨hq, -⟩ := aim_qok h f1 hA hs hr hb
    obtain ⟨-, -, -, -, -, -, hx, hy⟩ := hq
    have hal := St_allowsPiece (g := g) h.1.2.1 h.1.2.2.1 hq1.2.2.2.2.1 hA hs hr hx hy
    rw [a1] at hal
    rw [if_pos he, if_neg (show ¬ eAim (bdT u (t + 26 + 1)) s r x y ≠ 0 from fun q => q he), cV_some]
    simp only [gd_O h.1.1, gd_O h.1.2.1.1, hal, cI_some]
    change ChT g u t (if bI (aMayP (absT u (t + 26)) s r x y) = 0 then _ else _) _ _ _
    by_cases hm : aMayP (absT u (t + 26)) s r x y
    · have hh1 : hOk g u1 (t + 60) := hOk_fr (fun a k b1 b2 => f1 a k (by omega)) hh
      obtain ⟨u2, e2, b2, c2, f2⟩ := Hi_remember (g := g) (u := u1) (p := t + 26) hh1 h.1.2.1 (by omega) (by rw [a1]; exact h.2.2.1)
      have a2 : absT u2 (t + 26) = absT u (t + 26) := (absT_eq fun a k b1 b2 => f2 a k (by omega) (by omega)).trans a1
      have hA2 : FpAt u2 (t + 234) s r x y := FpAt_eq (fun a k b1 b2 => f2 a k (by omega) (by omega)) hA
      obtain ⟨u3, e3, a3, f3⟩ := St_putPiece (g := g) (u := u2) h.1.2.1 h.1.2.2.1 (by omega) (by rw [a2]; exact h.2.1) hA2 hs hr hx hy (by rw [a2]; exact ⟨h.2.2.1.1.1, hn hm⟩)
      rw [a2] at e3 a3
      rw [bI_t hm, if_neg (by decide), if_pos hm, gd_O hh1.1, e2, cV_some]
      simp only [gd_O h.1.1, gd_O h.1.2.1.1, e3, cI_some]
      refine ⟨fun _ => ⟨u3, rfl, a3, ?_, hOk_fr (fun a k b1 b2 => f3 a k (by omega)) c2, fun a k n1 n2 n3 => ?_⟩, fun q => absurd rfl q⟩
      · rw [hT_fr (fun a k b1 b2 => f3 a k (by omega)), b2, hT_fr (fun a k b1 b2 => f1 a k (by omega)), a1]
      · rw [f3 a k (by omega), f2 a k (by omega) (by omega), f1 a k (by omega)]
    · rw [bI_f hm, if_pos rfl, if_neg hm]
      exact ⟨fun q => absurd q (by decide), fun _ => ⟨u1, rfl, f1⟩⟩
  · rw [if_neg he, if_pos he, ex_pass he, show eAim (bdT u (t + 26 + 1)) s r x y - 1 + 1 = eAim (bdT u (t + 26 + 1)) s r x y by omega]
    exact ⟨fun q => absurd q he, fun _ => ⟨u1, rfl, f1⟩⟩
theorem TD_fastenStrap (h : pOk2 g u t) (hh : hOk g u (t + 60)) (hx : i32 x) (hy : i32 y) (s : Int) :
    ChT g u t (call M_TD_fastenStrap [vA t, vI x, vI y, vI s] g u) (if eEd (absT u (t + 26)).bd x y s ≠ 0 then eEd (absT u (t + 26)).bd x y s else if aMayS (absT u (t + 26)) x y s then 0 else 3) (w ((aPl (absT u (t + 26)) (absT u (t + 26)).mv).2.1 - 1)) (aStrap (absT u (t + 26)) x y s) := by
  rw [C_TD_fastenStrap, gd_O h.1.1, TD_edge h.1 h.2.1]
  show ChT g u t _ (if eEd (bdT u (t + 26 + 1)) x y s ≠ 0 then eEd (bdT u (t + 26 + 1)) x y s else _) _ _
  by_cases he : eEd (bdT u (t + 26 + 1)) x y s = 0
  · have hal := St_allowsStrap (g := g) h.1.2.1 h.2.1 hx hy s
    rw [if_pos he, if_neg (show ¬ eEd (bdT u (t + 26 + 1)) x y s ≠ 0 from fun q => q he), cV_some]
    simp only [gd_O h.1.1, gd_O h.1.2.1.1, hal, cI_some]
    change ChT g u t (if bI (aMayS (absT u (t + 26)) x y s) = 0 then _ else _) _ _ _
    by_cases hm : aMayS (absT u (t + 26)) x y s
    · obtain ⟨u2, e2, b2, c2, f2⟩ := Hi_remember (g := g) (u := u) (p := t + 26) hh h.1.2.1 (by omega) h.2.2.1
      have a2 : absT u2 (t + 26) = absT u (t + 26) := absT_eq fun a k b1 b2 => f2 a k (by omega) (by omega)
      obtain ⟨u3, e3, a3, f3⟩ := St_putStrap (g := g) (u := u2) h.1.2.1 (by rw [a2]; exact h.2.1) x y s
      rw [a2] at e3 a3
      rw [bI_t hm, if_neg (by decide), if_pos hm, gd_O hh.1, e2, cV_some]
      simp only [gd_O h.1.1, gd_O h.1.2.1.1, e3, cI_some]
      refine ⟨fun _ => ⟨u3, rfl, a3, ?_, hOk_fr (fun a k b1 b2 => f3 a k (by omega)) c2, fun a k n1 n2 n3 => ?_⟩, fun q => absurd rfl q⟩
      · rw [hT_fr (fun a k b1 b2 => f3 a k (by omega)), b2]
      · rw [f3 a k (by omega), f2 a k (by omega) (by omega)]
    · rw [bI_f hm, if_pos rfl, if_neg hm]
      exact ⟨fun q => absurd q (by decide), fun _ => ⟨u, rfl, Fr.rfl'⟩⟩
  · rw [if_neg he, if_pos he, ex_pass he, show eEd (bdT u (t + 26 + 1)) x y s - 1 + 1 = eEd (bdT u (t + 26 + 1)) x y s by omega]
    exact ⟨fun q => absurd q he, fun _ => ⟨u, rfl, Fr.rfl'⟩⟩
theorem TD_pass (h : pOk2 g u t) (hh : hOk g u (t + 60)) :
    ChT g u t (call M_TD_pass [vA t] g u) (if aMayN (absT u (t + 26)) then 0 else 3) (w ((absT u (t + 26)).ps + 1)) (aTurn (absT u (t + 26)) (w ((absT u (t + 26)).ps + 1))) := by
  obtain ⟨u1, e1, f1⟩ := St_allowsPass h.sq
  obtain ⟨hq1, a1⟩ := h.sq.fr f1
  rw [C_TD_pass]
  simp only [gd_O h.1.1, gd_O h.1.2.1.1, e1, cI_some]
  change ChT g u t (if bI (aMayN (absT u (t + 26))) = 0 then _ else _) _ _ _
  by_cases hm : aMayN (absT u (t + 26))
  · have hh1 : hOk g u1 (t + 60) := hOk_fr (fun a k b1 b2 => f1 a k (by omega)) hh
    obtain ⟨u2, e2, b2, c2, f2⟩ := Hi_remember (g := g) (u := u1) (p := t + 26) hh1 h.1.2.1 (by omega) (by rw [a1]; exact h.2.2.1)
    have a2 : absT u2 (t + 26) = absT u (t + 26) := (absT_eq fun a k b1 b2 => f2 a k (by omega) (by omega)).trans a1
    obtain ⟨u3, e3, a3, f3⟩ := St_skipTurn (g := g) (u := u2) h.1.2.1
    rw [a2] at e3 a3
    rw [bI_t hm, if_neg (by decide), if_pos hm, gd_O hh1.1, e2, cV_some]
    simp only [gd_O h.1.1, gd_O h.1.2.1.1, e3, cI_some]
    refine ⟨fun _ => ⟨u3, rfl, a3, ?_, hOk_fr (fun a k b1 b2 => f3 a k (by omega)) c2, fun a k n1 n2 n3 => ?_⟩, fun q => absurd rfl q⟩
    · rw [hT_fr (fun a k b1 b2 => f3 a k (by omega)), b2, hT_fr (fun a k b1 b2 => f1 a k (by omega)), a1]
    · rw [f3 a k (by omega), f2 a k (by omega) (by omega), f1 a k (by omega)]
  · rw [bI_f hm, if_pos rfl, if_neg hm]
    exact ⟨fun q => absurd q (by decide), fun _ => ⟨u1, rfl, f1⟩⟩
end
