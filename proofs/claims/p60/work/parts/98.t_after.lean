/-! ===== the class: moves after a placement ===== -/
/-- trial and footprint only -/
def Ft (t : Nat) (u u' : PM) : Prop := ∀ (a : Nat) (k : Int), ¬ (t + 43 ≤ a ∧ a ≤ t + 59) → ¬ (t + 234 ≤ a ∧ a ≤ t + 239) → u' a k = u a k
section
variable {g : PG} {u : PM} {t : Nat} {s r x y p : Int}
theorem TD_mobilityAfter (h : pOk2 g u t) (hk : kSt g (t + 43)) (hn : aMayP (absT u (t + 26)) s r x y → (absT u (t + 26)).n < 32) :
    ((if eAim (bdT u (t + 26 + 1)) s r x y ≠ 0 then eAim (bdT u (t + 26 + 1)) s r x y else ePl p) = 0 → ∃ u', call M_TD_mobilityAfter [vA t, vI s, vI r, vI x, vI y, vI p] g u = some (0, vI (if aMayP (absT u (t + 26)) s r x y then aMov (aPut (absT u (t + 26)) s r x y) p else -1), g, u') ∧ Ft t u u') ∧
    ((if eAim (bdT u (t + 26 + 1)) s r x y ≠ 0 then eAim (bdT u (t + 26 + 1)) s r x y else ePl p) ≠ 0 → ∃ u', call M_TD_mobilityAfter [vA t, vI s, vI r, vI x, vI y, vI p] g u = some ((if eAim (bdT u (t + 26 + 1)) s r x y ≠ 0 then eAim (bdT u (t + 26 + 1)) s r x y else ePl p), vN, gX g, u') ∧ Ft t u u') := by
  obtain ⟨u1, f1, e1, h1⟩ := TD_aimAt (u := u) h.1 h.2.2.2 s r x y
  have ft1 : Ft t u u1 := fun a k _ n2 => f1 a k (by omega)
  rw [C_TD_mobilityAfter, gd_O h.1.1, e1]
  by_cases he : eAim (bdT u (t + 26 + 1)) s r x y = 0
  · obtain ⟨hA, hs, hr, hb⟩ := h1 he
    obtain ⟨hq1, a1⟩ := h.sq.fr f1
    obtain ⟨hq, -⟩ := aim_qok h f1 hA hs hr hb
    obtain ⟨-, -, -, -, -, -, hx, hy⟩ := hq
    have hal := St_allowsPiece (g := g) h.1.2.1 h.1.2.2.1 hq1.2.2.2.2.1 hA hs hr hx hy
    rw [a1] at hal
    rw [if_pos he, if_neg (show ¬ eAim (bdT u (t + 26 + 1)) s r x y ≠ 0 from fun q => q he), cV_some, TD_player]
    by_cases hp : ePl p = 0
    · rw [if_pos hp, cV_some]
      refine ⟨fun _ => ?_, fun q => absurd hp q⟩
      simp only [gd_O h.1.1, gd_O h.1.2.1.1, hal, cI_some]
      change ∃ u', (if bI (aMayP (absT u (t + 26)) s r x y) = 0 then _ else _) = _ ∧ _
      by_cases hm : aMayP (absT u (t + 26)) s r x y
      · obtain ⟨u2, e2, a2, f2⟩ := St_copyFrom (g := g) (u := u1) (t := t + 43) (p := t + 26) hk h.1.2.1 (by omega) (by rw [a1]; exact h.2.2.1)
        rw [a1] at a2
        have hA2 : FpAt u2 (t + 234) s r x y := FpAt_eq (fun a k b1 b2 => f2 a k (by omega)) hA
        obtain ⟨u3, e3, a3, f3⟩ := St_putPiece (g := g) (u := u2) hk h.1.2.2.1 (by omega) (by rw [a2]; exact h.2.1) hA2 hs hr hx hy (by rw [a2]; exact ⟨h.2.2.1.1.1, hn hm⟩)
        rw [a2] at e3 a3
        have hlt := h.1.2.2.2
        have hR3 : RO u3 := RO_eq (fun a k ha => by rw [f3 a k (by omega), f2 a k (by omega)]) hq1.2.2.2.2.2
        obtain ⟨u4, e4, f4⟩ := St_countMoves (g := g) (u := u3) (b := t + 43) (f := t + 234) ⟨hk, h.1.2.2.1, by omega, by omega, by rw [a3]; exact bOk_put h.2.1, hR3⟩ p
        rw [a3] at e4
        rw [bI_t hm, if_neg (by decide), if_pos hm]
        simp only [gd_O h.1.1, gd_O hk.1, e2, cV_some, e3, cI_some, e4]
        exact ⟨u4, rfl, fun a k n1 n2 => by rw [f4 a k (by omega), f3 a k (by omega), f2 a k (by omega), f1 a k (by omega)]⟩
      · rw [bI_f hm, if_pos rfl, if_neg hm]
        exact ⟨u1, rfl, ft1⟩
    · rw [if_neg hp, ex_pass hp, show ePl p - 1 + 1 = ePl p by omega]
      exact ⟨fun q => absurd q hp, fun _ => ⟨u1, rfl, ft1⟩⟩
  · rw [if_neg he, if_pos he, ex_pass he, show eAim (bdT u (t + 26 + 1)) s r x y - 1 + 1 = eAim (bdT u (t + 26 + 1)) s r x y by omega]
    exact ⟨fun q => absurd q he, fun _ => ⟨u1, rfl, ft1⟩⟩
end
