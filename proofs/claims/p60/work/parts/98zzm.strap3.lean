/-! ===== the strap that hinders most: the reference ===== -/
theorem sumI_nn {f : Int → Int} {n : Nat} (h : ∀ i : Int, 0 ≤ i → i < n → 0 ≤ f i) : 0 ≤ sumI f n := by
  have := sumI_le (f := fun _ => 0) (f' := f) (n := n) h
  rw [sumI_0] at this
  exact this
theorem xT_nn (B : Bd) (q : Int → Int) (k : Int) : 0 ≤ xT B q k := sumI_nn fun s _ _ => by
  have := xS_nn B s k
  split <;> omega
theorem aMov_diff {A A' : AS} {p k : Int} (hB : bOk A.bd) (hc : cOk A.bd) (hb : A'.bd = bSS A.bd k 1) (hs : ∀ s : Int, 0 ≤ s → s < 5 → (aPl A' p).2.2.2.1 s = (aPl A p).2.2.2.1 s) : aMov A p - aMov A' p = xT A.bd (aPl A p).2.2.2.1 k := by
  have e : aMov A p = xT A.bd (aPl A p).2.2.2.1 k + aMov A' p := by
    unfold aMov xT
    rw [← sumI_add]
    refine sumI_congr fun s s0 s1 => ?_
    rw [hs s s0 (by omega), hb]
    have := fit_strap hB hc (s := s) (k := k) (by omega)
    split <;> omega
  omega
/-- edges before number c are done -/
def EfK (A : AS) (c v : Int) : Prop := 0 ≤ v ∧ (∀ x y s, (s = 0 ∨ s = 1) → bEdge A.bd x y s → aMayS A x y s → 2 * (8 * y + x) + s < c → xT A.bd (aPl A (1 - A.mv)).2.2.2.1 (2 * (8 * y + x) + s) ≤ v) ∧ (v = 0 ∨ ∃ x y s, (s = 0 ∨ s = 1) ∧ bEdge A.bd x y s ∧ aMayS A x y s ∧ xT A.bd (aPl A (1 - A.mv)).2.2.2.1 (2 * (8 * y + x) + s) = v)
theorem EfK_le {A : AS} {c c' v : Int} (h : EfK A c v) (hn : ∀ x y s, (s = 0 ∨ s = 1) → bEdge A.bd x y s → 2 * (8 * y + x) + s < c' → 2 * (8 * y + x) + s < c) : EfK A c' v := ⟨h.1, fun x y s h1 h2 h3 h4 => h.2.1 x y s h1 h2 h3 (hn x y s h1 h2 h4), h.2.2⟩
section
variable {g : PG} {u : PM} {t : Nat} {x y s : Int}
theorem Fs.tr {v x : PM} (h : Fs t u v) (h' : Fs t v x) : Fs t u x := fun a k h1 h2 h3 h4 => (h' a k h1 h2 h3 h4).trans (h a k h1 h2 h3 h4)
theorem Fm.fs {v : PM} (h : Fm t u v) : Fs t u v := fun a k h1 h2 h3 _ => h a k h1 h2 h3
end
