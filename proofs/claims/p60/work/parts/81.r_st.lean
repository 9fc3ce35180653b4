/-! ===== the reference's state: what may be done and what it does ===== -/
def plM (m : Int → Int) (b : Int) : PS := (m b, m (b + 1), m (b + 7), cl 5 (fun k => m (b + 2 + k)), cl (m (b + 7)) (fun k => m (b + 8 + k)))
def pcM (m : Int → Int) : Nat → Int → Int := fun i => if i < 6 then cl (m 4) (fun k => m (225 + 6 * k + i)) else fun _ => 0
def absM (m : Int → Int) : AS := (bdM m, m 4, pcM m, plM m 5, plM m 19, m 2, m 3)
theorem bdM_o {m m' : Int → Int} (h0 : m' 0 = m 0) (h1 : m' 1 = m 1) (h : ∀ k : Int, 33 ≤ k → k < 225 → m' k = m k) : bdM m' = bdM m := by
  unfold bdM
  rw [h0, h1, cl_ext (f := fun j => enc (m' (33 + j))) (f' := fun j => enc (m (33 + j))) (fun j j0 j1 => congrArg enc (h _ (by omega) (by omega))), cl_ext (f := fun k => m' (97 + 64 * (k % 2) + k / 2)) (f' := fun k => m (97 + 64 * (k % 2) + k / 2)) (fun j j0 j1 => h _ (by omega) (by omega))]
theorem plM_o {m m' : Int → Int} {b : Int} (hn : m (b + 7) ≤ 6) (h : ∀ k : Int, b ≤ k → k < b + 14 → m' k = m k) : plM m' b = plM m b := by
  unfold plM
  rw [h b (by omega) (by omega), h (b + 1) (by omega) (by omega), h (b + 7) (by omega) (by omega), cl_ext (f := fun k => m' (b + 2 + k)) (f' := fun k => m (b + 2 + k)) (fun j j0 j1 => h _ (by omega) (by omega)), cl_ext (f := fun k => m' (b + 8 + k)) (f' := fun k => m (b + 8 + k)) (fun j j0 j1 => h _ (by omega) (by omega))]
theorem pcM_o {m m' : Int → Int} (h4 : m' 4 = m 4) (h : ∀ k : Int, 225 ≤ k → m' k = m k) : pcM m' = pcM m := by
  unfold pcM
  funext i
  by_cases hi : i < 6
  · rw [if_pos hi, if_pos hi, h4]
    exact cl_ext fun k k0 k1 => h _ (by omega)
  · rw [if_neg hi, if_neg hi]
theorem bdM_cellset {m m' : Int → Int} {k v : Int} (h0 : m' 0 = m 0) (h1 : m' 1 = m 1) (k0 : 0 ≤ k) (k1 : k < 64) (hk : m' (33 + k) = v) (h : ∀ j : Int, j ≠ 33 + k → 33 ≤ j → m' j = m j) : bdM m' = bSC (bdM m) k (enc v) := by
  unfold bdM bSC
  rw [h0, h1, cl_ext (f := fun k => m' (97 + 64 * (k % 2) + k / 2)) (f' := fun k => m (97 + 64 * (k % 2) + k / 2)) (fun j j0 j1 => h _ (by omega) (by omega))]
  have e : cl 64 (fun j => enc (m' (33 + j))) = setI (cl 64 (fun j => enc (m (33 + j)))) k (enc v) := by
    funext j
    unfold setI cl
    by_cases hj : j = k
    · rw [if_pos hj, hj, if_pos ⟨k0, k1⟩]
      exact congrArg enc hk
    · rw [if_neg hj]
      by_cases hr : 0 ≤ j ∧ j < 64
      · rw [if_pos hr, if_pos hr]
        exact congrArg enc (h _ (by omega) (by omega))
      · rw [if_neg hr, if_neg hr]
  rw [e]
theorem bdM_strapset {m m' : Int → Int} {s k v : Int} (hs : s = 0 ∨ s = 1) (h0 : m' 0 = m 0) (h1 : m' 1 = m 1) (k0 : 0 ≤ k) (k1 : k < 64) (hk : m' (97 + (64 * s + k)) = v) (h : ∀ j : Int, j ≠ 97 + (64 * s + k) → 33 ≤ j → m' j = m j) : bdM m' = bSS (bdM m) (2 * k + s) v := by
  unfold bdM bSS
  rw [h0, h1, cl_ext (f := fun j => enc (m' (33 + j))) (f' := fun j => enc (m (33 + j))) (fun j j0 j1 => congrArg enc (h _ (by omega) (by omega)))]
  have e : cl 128 (fun k => m' (97 + 64 * (k % 2) + k / 2)) = setI (cl 128 (fun k => m (97 + 64 * (k % 2) + k / 2))) (2 * k + s) v := by
    funext j
    unfold setI cl
    by_cases hj : j = 2 * k + s
    · rw [if_pos hj, hj, if_pos ⟨by omega, by omega⟩, ← hk]
      exact congrArg m' (by omega)
    · rw [if_neg hj]
      by_cases hr : 0 ≤ j ∧ j < 128
      · rw [if_pos hr, if_pos hr]
        exact h _ (by omega) (by omega)
      · rw [if_neg hr, if_neg hr]
  rw [e]
/-- the reference's state is sound -/
def sOk (m : Int → Int) : Prop := mOk m ∧ nOk (absM m) ∧ (m 2 = 0 ∨ m 2 = 1) ∧ 0 ≤ m 3 ∧ m 3 ≤ 2
theorem aPl_M {m : Int → Int} {p : Int} (hp : p = 0 ∨ p = 1) : aPl (absM m) p = plM m (5 + 14 * p) := by
  unfold aPl
  rcases hp with rfl | rfl <;> rfl
section
variable {g : PG} {u : PM} {t : Nat} {s r x y : Int}
end
