/-! ===== p60: the heaps of the two starts are represented ===== -/
/-- what stands: the law's state, the static rows, the script, a text -/
def bSt (xs : Nat → Int32) (tx : List Nat) (d : Nat → Int32) : PM := fun a j => if a = 0 then (d j.toNat).toInt else if a = 100000 then tZ.getD j.toNat 0 else if a = 100001 then tR.getD j.toNat 0 else if a = 100002 then tD.getD j.toNat 0 else if a = 100003 then (xs j.toNat).toInt else if a = 100004 then ((tx.getD j.toNat 0 : Nat) : Int) else 0
theorem bSt_RO (xs : Nat → Int32) (tx : List Nat) (d : Nat → Int32) : RO (bSt xs tx d) := ⟨fun i _ => by unfold bSt; rw [if_neg (by decide), if_pos rfl, Int.toNat_natCast], fun i _ => by unfold bSt; rw [if_neg (by decide), if_neg (by decide), if_pos rfl, Int.toNat_natCast], fun i _ => by unfold bSt; rw [if_neg (by decide), if_neg (by decide), if_neg (by decide), if_pos rfl, Int.toNat_natCast]⟩
theorem getD_in {l : List Int} (h : ∀ x ∈ l, inR x) (k : Nat) : inR (l.getD k 0) := by
  rw [List.getD_eq_getElem?_getD]
  cases q : l[k]? with
  | none => exact inR_0
  | some x => exact h x (List.mem_of_getElem? q)
theorem txD {tx : List Nat} (h : ∀ ch ∈ tx, ch < 128) (j : Nat) : tx.getD j 0 < 128 := by
  rw [List.getD_eq_getElem?_getD]
  cases q : tx[j]? with
  | none => exact (by decide : 0 < 128)
  | some x => exact h x (List.mem_of_getElem? q)
theorem bSt_in (xs : Nat → Int32) {tx : List Nat} (ht : ∀ ch ∈ tx, ch < 128) (d : Nat → Int32) (a : Nat) (k : Int) : inR (bSt xs tx d a k) := by
  unfold bSt
  split
  · exact ⟨(d k.toNat).le_toInt, (d k.toNat).toInt_lt⟩
  · split
    · exact getD_in (by unfold inR; decide) _
    · split
      · exact getD_in (by unfold inR; decide) _
      · split
        · exact getD_in (by unfold inR; decide) _
        · split
          · exact ⟨(xs k.toNat).le_toInt, (xs k.toNat).toInt_lt⟩
          · split
            · have := txD ht k.toNat
              unfold inR
              omega
            · exact inR_0
theorem ofInt_nI (n : Nat) : Int32.ofInt (n : Int) = nI n := Int32.toBitVec_inj.mp (BitVec.ofInt_natCast 32 n)
/-- the read-only cells -/
theorem iG_ro {L : Nat} {xs : Nat → Int32} {tx : List Nat} {d : Nat → Int32} {g : PG} {u : PM} (hu : ∀ a, 100000 ≤ a → ∀ j, u a j = bSt xs tx d a j) (hg : g.2.2 = L + 1000 * tx.length) (hL : L < 1000) : ∀ k, gRB ≤ k → (iG g u).2 k = (gRo L xs tx k).map fun q => .inr (gRt k, q.1, .inl q.2) := by
  intro k hk
  have hk' : 100000 ≤ k := hk
  show iCell u k (pK g k) = _
  have hb : Nat.blt k 100000 = false := Bool.eq_false_iff.mpr fun h => absurd (show k < 100000 from Nat.le_of_ble_eq_true h) (by omega)
  unfold gRo
  by_cases c0 : k = 100000
  · subst c0
    rw [if_pos rfl]
    show some (Sum.inr (FieldType.int, 5, Sum.inl fun j : Nat => Int32.ofInt (u 100000 j))) = _
    rw [show (fun j : Nat => Int32.ofInt (u 100000 j)) = fun j => Int32.ofInt (tZ.getD j 0) from funext fun j => by rw [hu _ hk']; unfold bSt; rw [if_neg (by decide), if_pos rfl, Int.toNat_natCast]]
    rfl
  · rw [if_neg c0]
    by_cases c1 : k = 100001
    · subst c1
      rw [if_pos rfl]
      show some (Sum.inr (FieldType.int, 20, Sum.inl fun j : Nat => Int32.ofInt (u 100001 j))) = _
      rw [show (fun j : Nat => Int32.ofInt (u 100001 j)) = fun j => Int32.ofInt (tR.getD j 0) from funext fun j => by rw [hu _ hk']; unfold bSt; rw [if_neg (by decide), if_neg c0, if_pos rfl, Int.toNat_natCast]]
      rfl
    · rw [if_neg c1]
      by_cases c2 : k = 100002
      · subst c2
        rw [if_pos rfl]
        show some (Sum.inr (FieldType.int, 20, Sum.inl fun j : Nat => Int32.ofInt (u 100002 j))) = _
        rw [show (fun j : Nat => Int32.ofInt (u 100002 j)) = fun j => Int32.ofInt (tD.getD j 0) from funext fun j => by rw [hu _ hk']; unfold bSt; rw [if_neg (by decide), if_neg c0, if_neg c1, if_pos rfl, Int.toNat_natCast]]
        rfl
      · rw [if_neg c2]
        by_cases c3 : k = 100003
        · subst c3
          rw [if_pos rfl]
          show some (Sum.inr (FieldType.int, g.2.2 % 1000, Sum.inl fun j : Nat => Int32.ofInt (u 100003 j))) = _
          rw [show g.2.2 % 1000 = L by omega, show (fun j : Nat => Int32.ofInt (u 100003 j)) = xs from funext fun j => by rw [hu _ hk']; unfold bSt; rw [if_neg (by decide), if_neg c0, if_neg c1, if_neg c2, if_pos rfl, Int.toNat_natCast, ofInt_toInt]]
          rfl
        · rw [if_neg c3]
          by_cases c4 : k = 100004
          · subst c4
            rw [if_pos rfl]
            show some (Sum.inr (FieldType.byte, g.2.2 / 1000, Sum.inl fun j : Nat => Int32.ofInt (u 100004 j))) = _
            rw [show g.2.2 / 1000 = tx.length by omega, show (fun j : Nat => Int32.ofInt (u 100004 j)) = fun j => nI (tx.getD j 0) from funext fun j => by rw [hu _ hk']; unfold bSt; rw [if_neg (by decide), if_neg c0, if_neg c1, if_neg c2, if_neg c3, if_pos rfl, Int.toNat_natCast, ofInt_nI]]
            rfl
          · rw [if_neg c4]
            have : pK g k = (0, 0, 0) := by
              unfold pK
              rw [hb]
              simp only [cond_false]
            rw [this]
            rfl
/-- the kinds below -/
theorem pK_ge {g : PG} {k : Nat} (h : g.1 ≤ k) (h2 : k < 100000) : pK g k = (0, 0, 0) := by
  unfold pK
  rw [show Nat.blt k 100000 = true from Nat.ble_eq_true_of_le h2, show Nat.blt k g.1 = false from Bool.eq_false_iff.mpr fun q => absurd (show k < g.1 from Nat.le_of_ble_eq_true q) (by omega)]
  rfl
section
variable {z L : Nat} {ro ro' : Nat → Nat} {cA : FieldType → ClassId} {D : va_G} {xs : Nat → Int32} {tx : List Nat} {d : Nat → Int32} {H H1 H2 : Heap}
theorem gRep_start (hro : ro 99999 = 0) (hL : L < 1000) (hz : H.size = z + 1) (h0 : H[z]? = some (vp_cell (cA .int) (1, .inl d))) : gRep z ro cA D (gRo L xs tx) (iG (1, 0, L + 1000 * tx.length) (uI (bSt xs tx d))) H := by
  have c0 : (iG (1, 0, L + 1000 * tx.length) (uI (bSt xs tx d))).2 0 = some (.inr (.int, 1, .inl d)) := by
    show some (Sum.inr (FieldType.int, 1, Sum.inl fun j : Nat => Int32.ofInt (uI (bSt xs tx d) 0 j))) = _
    rw [show (fun j : Nat => Int32.ofInt (uI (bSt xs tx d) 0 j)) = d from funext fun j => by
      show Int32.ofInt (bSt xs tx d 0 j) = _
      unfold bSt
      rw [if_pos rfl, Int.toNat_natCast, ofInt_toInt]]
  have none_ : ∀ k, 1 ≤ k → k < gRB → (iG (1, 0, L + 1000 * tx.length) (uI (bSt xs tx d))).2 k = none := fun k h1 h2 => by
    have h2' : k < 100000 := h2
    show iCell _ k (pK (1, 0, L + 1000 * tx.length) k) = none
    rw [pK_ge h1 h2']
    rfl
  refine ⟨0, by decide, fun k hk => ⟨fun ⟨c, hc⟩ => ?_, fun h => ?_⟩, ⟨Or.inl (by decide), fun _ => ⟨rfl, hz, hro⟩⟩, fun k q hq => ?_, iG_ro (fun a ha j => uI_B ha j) rfl hL, fun k ci fs hk h => ?_⟩
  · by_cases h1 : k = 0
    · omega
    · rw [none_ k (by omega) hk] at hc
      cases hc
  · rw [show k = 0 by omega]
    exact ⟨_, c0⟩
  · have hk0 : k = 0 := by
      have := (List.getElem?_eq_some_iff.mp hq).1
      rw [gWorld_len] at this
      omega
    subst hk0
    rw [gWorld_at c0 (Nat.le_refl 0)] at hq
    cases hq
    exact h0
  · by_cases h1 : k = 0
    · rw [h1, c0] at h
      cases h
    · rw [none_ k (by omega) hk] at h
      cases h
/-- the state's first word -/
theorem gU_start {N : Nat} {d d' : Nat → Int32} : gU (iG (1, 0, N) (uI (bSt xs tx d'))) 0 (.inr (.int, 1, .inl d)) = iG (1, 0, N) (uI (bSt xs tx d)) := by
  unfold gU
  refine Prod.ext rfl (funext fun j => ?_)
  show (if j = 0 then some (Sum.inr (FieldType.int, 1, Sum.inl d)) else iCell (uI (bSt xs tx d')) j (pK (1, 0, N) j)) = iCell (uI (bSt xs tx d)) j (pK (1, 0, N) j)
  by_cases h : j = 0
  · rw [if_pos h, h]
    show _ = some (Sum.inr (FieldType.int, 1, Sum.inl fun j : Nat => Int32.ofInt (uI (bSt xs tx d) 0 j)))
    rw [show (fun j : Nat => Int32.ofInt (uI (bSt xs tx d) 0 j)) = d from funext fun j => by
      show Int32.ofInt (bSt xs tx d 0 j) = _
      unfold bSt
      rw [if_pos rfl, Int.toNat_natCast, ofInt_toInt]]
  · rw [if_neg h]
    refine iCell_eq (funext fun k => ?_)
    unfold uI bSt
    rw [show Nat.beq j 0 = false from Bool.eq_false_iff.mpr fun q => h (Nat.eq_of_beq_eq_true q)]
    simp only [if_neg h, cond_false]
theorem pOff_bd (c j : Nat) : pOff c j ≤ 247 := by
  unfold pOff
  split <;> decide
/-- no cell of the class refers to what may only be read -/
theorem gCell_ro {u : PM} {a : Nat} {k : Nat × Nat × Nat} {c : GC} (ha : a < 249) (hk : k.2.2 ≤ 1000) (h : iCell u a k = some c) : gCell z ro cA c = gCell z ro' cA c := by
  have ad : ∀ x : Nat, x < 100000 → gAd z ro x = gAd z ro' x := fun x hx => by
    unfold gAd
    rw [if_pos (show x < gRB from hx), if_pos (show x < gRB from hx)]
  have key : ∀ c j : Nat, a + pOff c j < 100000 := fun c j => by
    have := pOff_bd c j
    omega
  unfold iCell at h
  split at h
  · cases h
    show (Sum.inr (_, _) : va_E) = Sum.inr (_, _)
    congr 2
    rw [List.map_map, List.map_map]
    refine List.map_congr_left fun j _ => ?_
    show gv z ro (iFld u a _ j) = gv z ro' (iFld u a _ j)
    unfold iFld
    split
    · rfl
    · show Value.ref _ = Value.ref _
      rw [ad _ (key _ _)]
  · cases h; rfl
  · cases h; rfl
  · cases h; rfl
  · cases h; rfl
  · rename_i n
    cases h
    show (Sum.inl (_, _) : va_E) = Sum.inl (_, _)
    congr 2
    show ((n, Sum.inr (Sum.inr (Sum.inr (Sum.inr fun j => (if j < n then some (a + 1 + 17 * j) else none).map (gAd z ro))))) : vp_A) = (n, Sum.inr (Sum.inr (Sum.inr (Sum.inr fun j => (if j < n then some (a + 1 + 17 * j) else none).map (gAd z ro')))))
    congr 5
    funext j
    split
    · show some _ = some _
      rw [ad _ (by
        have : n ≤ 1000 := hk
        omega)]
    · rfl
  · cases h
theorem pKind_n : ∀ a : Fin 249, (pKind a.val).2.2 ≤ 1000 := by decide +kernel
theorem iG_at {g : PG} {u : PM} {k : Nat} (h : k < 249) (hg : g.1 = 249) : (iG g u).2 k = iCell u k (pKind k) := by
  show iCell u k (pK g k) = _
  rw [pK_lt (by omega) (by omega)]
/-- from the first part's heap to the second's -/
theorem gRep_join {N1 N2 : Nat} {v u : PM} {ra ra' : Nat → Option (Nat × (Nat → Int32))} {f : Nat → Int32} (h : gRep z ro cA D ra (iG (249, 0, N1) v) H1) (hH : ∀ q, z + 1 ≤ q → q < z + 249 → H2[q]? = H1[q]?) (h0 : H2[z]? = some (vp_cell (cA .int) (1, .inl f))) (hu : ∀ a, 1 ≤ a → a < 249 → u a = v a) (hu0 : ∀ j : Nat, Int32.ofInt (u 0 j) = f j) (hr : ∀ k, gRB ≤ k → (iG (249, 1, N2) u).2 k = (ra' k).map fun q => .inr (gRt k, q.1, .inl q.2)) : gRep z ro' cA D ra' (iG (249, 1, N2) u) H2 := by
  obtain ⟨n, n1, n2, ⟨n3, n4⟩, hP, -, n6⟩ := h
  have same : ∀ k, 1 ≤ k → k < 249 → (iG (249, 1, N2) u).2 k = (iG (249, 0, N1) v).2 k := fun k k1 k2 => by
    rw [iG_at k2 rfl, iG_at k2 rfl]
    exact iCell_eq (hu k k1 k2)
  have c0 : (iG (249, 1, N2) u).2 0 = some (.inr (.int, 1, .inl f)) := by
    show some (Sum.inr (FieldType.int, 1, Sum.inl fun j : Nat => Int32.ofInt (u 0 j))) = _
    rw [show (fun j : Nat => Int32.ofInt (u 0 j)) = f from funext hu0]
  have c1 : (iG (249, 0, N1) v).2 0 = some (.inr (.int, 1, .inl fun j : Nat => Int32.ofInt (v 0 j))) := rfl
  have none_ : ∀ (g : PG) (w : PM), g.1 = 249 → ∀ k, 249 ≤ k → k < gRB → (iG g w).2 k = none := fun g w hg k h1 h2 => by
    have h2' : k < 100000 := h2
    show iCell w k (pK g k) = none
    rw [pK_ge (by omega) h2']
    rfl
  have hn : n = 248 := by
    have a1 : 248 ≤ n := (n2 248 (by decide)).mp ⟨_, rfl⟩
    by_cases c : 249 ≤ n
    · obtain ⟨x, hx⟩ := (n2 249 (by decide)).mpr c
      rw [none_ _ _ rfl 249 (Nat.le_refl _) (by decide)] at hx
      cases hx
    · omega
  subst hn
  have some_ : ∀ k, k ≤ 248 → ∃ c, (iG (249, 1, N2) u).2 k = some c := fun k hk => by
    by_cases k0 : k = 0
    · rw [k0]; exact ⟨_, c0⟩
    · rw [same k (by omega) (by omega)]
      exact (n2 k (by show k < 100000; omega)).mpr hk
  refine ⟨248, n1, fun k hk => ⟨fun ⟨c, hc⟩ => ?_, some_ k⟩, ⟨Or.inl (Nat.le_refl _), fun q => absurd q (by show ¬ 0 < (if (1 : Nat) = 0 then 249 else 0); decide)⟩, fun k q hq => ?_, hr, fun k ci fs hk h => ?_⟩
  · by_cases h1 : k ≤ 248
    · exact h1
    · rw [none_ _ _ rfl k (by omega) hk] at hc
      cases hc
  · have hk0 : k ≤ 248 := by
      have := (List.getElem?_eq_some_iff.mp hq).1
      rw [gWorld_len] at this
      omega
    obtain ⟨c, hc⟩ := some_ k hk0
    rw [gWorld_at hc hk0] at hq
    cases hq
    by_cases k0 : k = 0
    · subst k0
      rw [c0] at hc
      cases hc
      exact h0
    · have hc1 := hc
      rw [same k (by omega) (by omega)] at hc1
      have hv := hP k _ (gWorld_at hc1 hk0)
      have e : gCell z ro cA c = gCell z ro' cA c := by
        rw [iG_at (by omega) rfl] at hc1
        exact gCell_ro (by omega) (pKind_n ⟨k, by omega⟩) hc1
      rw [e] at hv
      exact hv.kept (hH (z + k) (by omega) (by omega))
  · by_cases k0 : k = 0
    · rw [k0, c0] at h
      cases h
    · by_cases h1 : k ≤ 248
      · rw [same k (by omega) (by omega)] at h
        exact n6 k ci fs hk h
      · rw [none_ _ _ rfl k (by omega) hk] at h
        cases h
end
