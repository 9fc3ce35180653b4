/-! ===== the reference's changes: place, strap, pass ===== -/
def FdM (t : Nat) (u u' : PM) : Prop := ∀ (a : Nat) (k : Int), ¬ (a = t ∧ (k = 6 ∨ k = 7 ∨ k = 17)) → a ≠ t + 1 → a ≠ t + 3 → a ≠ t + 9 → a ≠ t + 10 → u' a k = u a k
def ChM (g : PG) (u : PM) (t : Nat) (c : Option PO) (e v : Int) (A' : AS) : Prop := (e = 0 → ∃ u', c = some (0, vI v, g, u') ∧ u' t 7 = 0 ∧ absM (u' (t + 1)) = A' ∧ hM u' t = hPush (hM u t) (absM (u (t + 1))) ∧ rOk g u' t ∧ FdM t u u') ∧ (e ≠ 0 → ∃ u', c = some (0, vI 0, g, u') ∧ u' t 7 = e ∧ Fq t u u')
theorem mis0_in {B : Bd} {s r x y : Int} (hs : 0 ≤ s ∧ s < 5) (h : bMis B s r x y = 0) : ∀ i : Int, 0 ≤ i → i < sz s → bIn B (pX s r x i) (pY s r y i) := by
  have hz := sz_bd hs.1 hs.2
  intro i i0 i1
  by_cases hb : bIn B (pX s r x i) (pY s r y i)
  · exact hb
  · exfalso
    unfold bMis at h
    rw [if_pos] at h
    · omega
    · rw [anyF_iff]
      refine ⟨i, ⟨i0, by omega⟩, decide_eq_true ?_⟩
      unfold bCell
      rw [if_neg hb]
theorem hM_fr {u u' : PM} {t : Nat} (h6 : u' t 6 = u t 6) (h3 : u' (t + 3) = u (t + 3)) : hM u' t = hM u t := by
  unfold hM
  rw [h6, h3]
theorem rOk_fr {g : PG} {u u' : PM} {t : Nat} (h6 : u' t 6 = u t 6) (h3 : u' (t + 3) = u (t + 3)) (hr : rOk g u t) : rOk g u' t := by
  obtain ⟨a1, a2, a3, a4⟩ := hr
  refine ⟨a1, a2, by rw [h6]; exact a3, ?_⟩
  rw [hM_fr h6 h3]
  exact a4
theorem Fq.s {t : Nat} {u v : PM} (h : Fq t u v) : v (t + 1) = u (t + 1) := funext fun k => h _ k (by omega) (by omega) (by omega)
section
variable {g : PG} {u : PM} {t : Nat} {s r x y : Int}
end
