/-! ===== the cells made are those of the plain machine ===== -/
def pTks : List Nat := pSts.map fun b => b + 1
/-- what stands in the cells when they have been made -/
def uI (B : PM) : PM := fun a j => bif Nat.ble 100000 a then B a j else bif Nat.beq a 0 then B 0 j else bif pTks.contains a then (if j < 2 then 3 else 0) else bif Nat.beq a 2 then (if j = 2 then -1 else 0) else bif Nat.beq a 241 then -1 else 0
theorem cell_27 (B : PM) : (lSt 27).map some = (List.range 17).map (fun i => iCell (uI B) (27 + i) (pKind (27 + i))) := rfl
set_option maxRecDepth 100000 in
theorem cell_TD (B : PM) : (lTD 1).map some = (List.range 248).map (fun i => iCell (uI B) (1 + i) (pKind (1 + i))) := rfl
theorem map_some_get {l : List GC} {n b : Nat} {f : Nat → Option GC} (h : l.map some = (List.range n).map fun i => f (b + i)) : l.length = n ∧ ∀ i, i < n → l[i]? = f (b + i) := by
  have hl : l.length = n := by
    have := congrArg List.length h
    rw [List.length_map, List.length_map, List.length_range] at this
    exact this
  refine ⟨hl, fun i hi => ?_⟩
  have h2 := congrArg (fun z => z[i]?) h
  simp only [List.getElem?_map] at h2
  rw [List.getElem?_range hi] at h2
  rw [List.getElem?_eq_getElem (by omega)] at h2 ⊢
  simp only [Option.map_some] at h2
  injection h2
/-- cells made behind the plain machine's: the plain machine's -/
theorem ap_iG {l : List GC} {b n L : Nat} {u : PM} (hb : b + n ≤ 262) (h : l.map some = (List.range n).map fun i => iCell u (b + i) (pKind (b + i))) : ap (iG (b, 0, L) u) l = iG (b + n, 0, L) u := by
  obtain ⟨hl, hg⟩ := map_some_get (f := fun a => iCell u a (pKind a)) h
  unfold ap iG
  refine Prod.ext ?_ (funext fun a => ?_)
  · show b + l.length = b + n
    omega
  · show (if b ≤ a ∧ a < b + l.length then l[a - b]? else iCell u a (pK (b, 0, L) a)) = iCell u a (pK (b + n, 0, L) a)
    by_cases c : b ≤ a ∧ a < b + l.length
    · rw [if_pos c, hg (a - b) (by omega), show b + (a - b) = a by omega, pK_lt (g := (b + n, 0, L)) (by show a < b + n; omega) (by omega)]
    · rw [if_neg c]
      congr 1
      unfold pK
      by_cases c2 : a < 100000
      · rw [show Nat.blt a 100000 = true from Nat.ble_eq_true_of_le c2]
        by_cases c3 : a < b
        · rw [show Nat.blt a b = true from Nat.ble_eq_true_of_le c3, show Nat.blt a (b + n) = true from Nat.ble_eq_true_of_le (by omega)]
        · rw [show Nat.blt a b = false from Bool.eq_false_iff.mpr fun h => c3 (Nat.le_of_ble_eq_true h), show Nat.blt a (b + n) = false from Bool.eq_false_iff.mpr fun h => absurd (Nat.le_of_ble_eq_true h) (by omega)]
      · rw [show Nat.blt a 100000 = false from Bool.eq_false_iff.mpr fun h => c2 (Nat.le_of_ble_eq_true h)]
        rfl
