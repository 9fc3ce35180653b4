/-! ===== the reference's changes: place, strap, pass ===== -/
def FdM (t : Nat) (u u' : PM) : Prop := ∀ (a : Nat) (k : Int), ¬ (a = t ∧ (k = 6 ∨ k = 7 ∨ k = 17)) → a ≠ t + 1 → a ≠ t + 3 → a ≠ t + 9 → a ≠ t + 10 → u' a k = u a k
def ChM (g : PG) (u : PM) (t : Nat) (c : Option PO) (e v : Int) (A' : AS) : Prop := (e = 0 → ∃ u', c = some (0, vI v, g, u') ∧ u' t 7 = 0 ∧ absM (u' (t + 1)) = A' ∧ hM u' t = hPush (hM u t) (absM (u (t + 1))) ∧ rOk g u' t ∧ FdM t u u') ∧ (e ≠ 0 → ∃ u', c = some (0, vI 0, g, u') ∧ u' t 7 = e ∧ Fq t u u')
theorem mis0_in {B : Bd} {s r x y : Int} (hs : 0 ≤ s ∧ s < 5) (h : bMis B s r x y = 0) : ∀ i : Int, 0 ≤ i → i < sz s → bIn B (pX s r x i) (pY s r y i) := by
  have hz := sz_bd hs.1 hs.2
  intro i i0 i1
  by_cases hb : bIn B (pX s r x i) (pY s r y i)
  · exact hb
  · exfalso
    unfold bMis at h
    rw [if_pos] at h
    · omega
    · rw [anyF_iff]
      refine ⟨i, ⟨i0, by omega⟩, decide_eq_true ?_⟩
      unfold bCell
      rw [if_neg hb]
theorem hM_fr {u u' : PM} {t : Nat} (h6 : u' t 6 = u t 6) (h3 : u' (t + 3) = u (t + 3)) : hM u' t = hM u t := by
  unfold hM
  rw [h6, h3]
theorem rOk_fr {g : PG} {u u' : PM} {t : Nat} (h6 : u' t 6 = u t 6) (h3 : u' (t + 3) = u (t + 3)) (hr : rOk g u t) : rOk g u' t := by
  obtain ⟨a1, a2, a3, a4⟩ := hr
  refine ⟨a1, a2, by rw [h6]; exact a3, ?_⟩
  rw [hM_fr h6 h3]
  exact a4
theorem Fq.s {t : Nat} {u v : PM} (h : Fq t u v) : v (t + 1) = u (t + 1) := funext fun k => h _ k (by omega) (by omega) (by omega)
section
variable {g : PG} {u : PM} {t : Nat} {s r x y : Int}
/-- after the checks: the state is remembered, then changed -/
theorem TM_do (hr : rOk g u t) (ho : sOk (u (t + 1))) {v : PM} (hF : Fq t u v) {c c2 : Option PO} {a : Int} {A' : AS} (h7 : v t 7 = 0) (hc : ∀ u2, call M_TM_remember [vA t, vA (t + 1)] g v = some (0, vN, g, u2) → c = cI (c2) (fun x g u => some (0, vI x, g, u)) noX)
    (h2 : ∀ u2, call M_TM_remember [vA t, vA (t + 1)] g v = some (0, vN, g, u2) → u2 (t + 1) = u (t + 1) → ∃ u', c2 = some (0, vI a, g, u') ∧ absM (u' (t + 1)) = A' ∧ Fs t u2 u') :
    ∃ u', c = some (0, vI a, g, u') ∧ u' t 7 = 0 ∧ absM (u' (t + 1)) = A' ∧ hM u' t = hPush (hM u t) (absM (u (t + 1))) ∧ rOk g u' t ∧ FdM t u u' := by
  have hs : v (t + 1) = u (t + 1) := hF.s
  have h6 : v t 6 = u t 6 := hF t 6 (by omega) (by omega) (by omega)
  have h3 : v (t + 3) = u (t + 3) := funext fun k => hF _ k (by omega) (by omega) (by omega)
  obtain ⟨u2, e2, b2, c2', f2⟩ := TM_remember (g := g) (u := v) (p := t + 1) (rOk_fr h6 h3 hr) hr.1.2.1 (by omega) (by rw [hs]; exact ho.2.1)
  have hs2 : u2 (t + 1) = u (t + 1) := (funext fun k => f2 _ k (by omega) (by omega)).trans hs
  obtain ⟨u', e3, a3, f3⟩ := h2 u2 e2 hs2
  have g6 : u' t 6 = u2 t 6 := f3 t 6 (by omega) (by omega) (by omega) (by omega)
  have g3 : u' (t + 3) = u2 (t + 3) := funext fun k => f3 _ k (by omega) (by omega) (by omega) (by omega)
  refine ⟨u', ?_, ?_, a3, ?_, rOk_fr g6 g3 c2', fun b k n1 n2 n3 n4 n5 => ?_⟩
  · rw [hc u2 e2, e3, cI_some]
  · rw [f3 t 7 (by omega) (by omega) (by omega) (by omega), f2 t 7 (by omega) (by omega), h7]
  · rw [hM_fr g6 g3, b2, hM_fr h6 h3, hs]
  · rw [f3 b k (by omega) n4 n5 n2, f2 b k n3 (by omega), hF b k (by omega) n4 n5]
theorem TM_pass (hr : rOk g u t) (ho : sOk (u (t + 1))) : ChM g u t (call M_TM_pass [vA t] g u) (bI (¬ aMayN (absM (u (t + 1))))) (w ((absM (u (t + 1))).ps + 1)) (aTurn (absM (u (t + 1))) (w ((absM (u (t + 1))).ps + 1))) := by
  have hk := hr.1
  obtain ⟨v, e1, hF⟩ := TM_mayPass (g := g) hk ho
  rw [C_TM_pass, gd_O hk.1, e1, cI_some]
  change ChM g u t (if bI (aMayN (absM (u (t + 1)))) = 0 then _ else _) _ _ _
  by_cases hm : aMayN (absM (u (t + 1)))
  · rw [bI_t hm, if_neg (by decide), bI_f (p := ¬ aMayN (absM (u (t + 1)))) fun q => q hm, R_TM_pass_13, gd_O hk.1, TM_fails hk, cI_some, show fC 0 0 0 = 0 from rfl, bI_f (by decide), if_pos rfl]
    refine ⟨fun _ => ?_, fun q => absurd rfl q⟩
    have hF2 : Fq t u (up v t 7 0) := hF.q.tr (Fm7 _ _ _)
    obtain ⟨u2, e2, -⟩ := TM_remember (g := g) (u := up v t 7 0) (p := t + 1) (rOk_fr (hF2 t 6 (by omega) (by omega) (by omega)) (funext fun k => hF2 _ k (by omega) (by omega) (by omega)) hr) hk.2.1 (by omega) (by rw [hF2.s]; exact ho.2.1)
    refine TM_do hr ho hF2 (up_s ..) (c2 := call M_TM_passes [vA t] g u2) (fun u3 h3 => ?_) (fun u3 h3 hs3 => ?_)
    · rw [e2] at h3
      simp only [gd_O hk.1, e2, cV_some]
    · rw [e2] at h3
      obtain rfl : u2 = u3 := by injection h3 with h3; injection h3 with _ h3; injection h3 with _ h3; injection h3
      obtain ⟨u4, e4, a4, f4⟩ := TM_passes (g := g) (u := u2) hk (by rw [hs3]; exact ho)
      rw [hs3] at e4 a4
      exact ⟨u4, e4, a4, f4⟩
  · rw [bI_f hm, if_pos rfl, bI_t (p := ¬ aMayN (absM (u (t + 1)))) hm, R_TM_pass_13, gd_O hk.1, TM_fails hk, cI_some, show fC 1 0 0 = 1 from rfl, bI_t (by decide), if_neg (by decide)]
    exact ⟨fun q => absurd q (by decide), fun _ => ⟨_, rfl, up_s .., hF.q.tr (Fm7 _ _ _)⟩⟩
end
