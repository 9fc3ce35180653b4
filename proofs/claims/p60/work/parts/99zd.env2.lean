/-! ===== p60: the second start's words ===== -/
section
variable {z L : Nat} {ro ro' : Nat → Nat} {cA : FieldType → ClassId} {D DJ : va_G} {ra ra' : Nat → Option (Nat × (Nat → Int32))} {U s : State} {H : Heap} {args : Array Value}
/-- fewer cells may be written, another text stands to be read -/
theorem gEnv_nar (h : gEnv z ro cA D ra U H) (hA : ∀ q, gA z ro' q → gA z ro q) (hr : ∀ k, k ≠ 99999 → k ≠ 100004 → ro' k = ro k) (h5 : ∀ k q, gRB ≤ k → ra' k = some q → k ≠ gDY → ra k = some q) (hd : ∀ q, ra' gDY = some q → gDt q.1 q.2 (ro' gDY) (gA z ro') U H) : gEnv z ro' cA D ra' U H := by
  obtain ⟨b1, b2, b3, b4, b5, b6, b7, b8, b9, b10, b11, b12, b13⟩ := h
  refine ⟨b1, b2, b3, b4, fun k q hk e => ⟨fun ne => ?_, fun eq => ?_⟩, fun j c e => ?_, fun i tx e => ?_, fun q hq => ?_, b9, b10.narrow hA, b11.narrow hA, b12.narrow hA, b13.narrow hA⟩
  · rw [hr k (by have : 100000 ≤ k := hk; omega) ne]
    exact ((b5 k q hk (h5 k q hk e ne)).1 ne).narrow hA
  · subst eq
    exact hd q e
  · have hj : j < 3 := (List.getElem?_eq_some_iff.mp e).1
    rw [hr _ (by show 100000 + j ≠ 99999; omega) (by show 100000 + j ≠ 100004; omega)]
    exact (b6 j c e).narrow hA
  · rw [hr _ (by omega) (by omega)]
    obtain ⟨v, a, b, c, d⟩ := b7 i tx e
    exact ⟨v, a.narrow hA, b.narrow hA, c.narrow hA, d.narrow hA⟩
  · have hp : ∀ q ∈ gPool, 100016 ≤ q.2.2.2 := by decide +kernel
    have := hp q hq
    rw [hr _ (by omega) (by omega)]
    exact b8 q hq
/-- a String that was made -/
theorem gTx_made {A : Nat → Prop} {sb v st r : Nat} {ml nn : Int32} {a c : Nat → Int32} {M : Nat} {tx : List Nat} (hts : ∀ w ∈ jw, w.before args s = true) (hK : va_K DJ jCl [(cA .byte, .byte)] s) (hP : va_P DJ jCl [jS sb v ml nn, jV (cA .byte) v a M, (st, .inr (1, [.ref r, .int 0, .int 0, .int 0])), jV (cA .byte) r c tx.length] H) (hc : ∀ j, j < tx.length → c j = nI (tx.getD j 0)) (h1 : ¬ A st) (h2 : ¬ A r) : gTx tx st A s H := by
  obtain ⟨hS, hfc, kC, hkC, hkind⟩ := hK.1 1 _ rfl
  obtain ⟨q, e1, cell, q1, q2, q3, q4⟩ := hP 2 _ rfl
  cases e1
  have fld : ∀ k, k < 4 → ∀ v, [Value.ref r, .int 0, .int 0, .int 0][k]? = some v → va_OF (TJ0 k).1 (TJ0 k).2.1 (TJ0 k).2.2.1 v st A s H := fun k hk v hv => by
    obtain ⟨cf, kf, fi, f, hi, hsl⟩ := hS k hk
    refine ⟨cf, kf, fi, f, cell, hi, (u_facts hfc hkC (u_lays hts j0_in hk) hi).1, q1, (by rw [q3]; exact fun h => nomatch h), ?_, h1⟩
    rw [hsl, q4 k hk]
    simp only [vp_V, List.getD_eq_getElem?_getD, hv, Option.getD_some]
  have hb : H[r]? = some (vp_cell (cA .byte) (tx.length, .inl c)) := hP 3 _ rfl
  refine ⟨r, ⟨cell, q1, by rw [q3]; rfl, by rw [q2]; exact hfc, h1⟩, fld 1 (by decide) _ rfl, fld 0 (by decide) _ rfl, ⟨_, hb, (hK.2 0 _ rfl).1 tx.length (fun j => .int (c j)), (fun h => nomatch h), ?_, ?_, fun j hj => ?_, h2⟩⟩
  · show tx.length ≤ (arrV (cA .byte) tx.length (fun j => .int (c j))).slots.size
    rw [arrV_size]
    exact Nat.le_refl _
  · show (arrV (cA .byte) tx.length (fun j => .int (c j))).slots.size.toInt32 = _
    rw [arrV_size]
  · show (arrV (cA .byte) tx.length (fun j => .int (c j))).slots[j]? = _
    rw [arrV_read _ _ hj, hc j hj]
/-- the words at the second start -/
theorem gEnv_join {xs : Nat → Int32} {tx tx0 : List Nat} {u st : Nat} (h : gEnv z ro cA D (gRo L xs tx0) s s.heap) (hro : ro 99999 = 0) (hz : s.heap.size = z) (hH : ∀ q, q < s.heap.size → H[q]? = s.heap[q]?) (ht : tx.length < 2 ^ 31) (hc : ∀ ch ∈ tx, ch < 128) (hx : gTx tx st (gA z fun k => if k = 99999 then H.size else if k = 100004 then st else ro k) s H) : gEnv z (fun k => if k = 99999 then H.size else if k = 100004 then st else ro k) cA D (gRo L xs tx) (jBase s H u) (jBase s H u).heap := by
  have h1 : gEnv z ro cA D (gRo L xs tx0) (jBase s H u) H := h.to (State.WarmedH.refl s) (fun a ha _ => hH a ha)
  refine gEnv_nar h1 (fun q hq => ⟨hq.1, Or.inr (by rw [hro]; exact Nat.zero_le _)⟩) (fun k k1 k2 => by simp only [if_neg k1, if_neg k2]) (fun k q hk e ne => ?_) (fun q e => ?_)
  · have ne' : k ≠ 100004 := ne
    unfold gRo at e ⊢
    rw [if_neg ne'] at e ⊢
    exact e
  · have e' : gRo L xs tx 100004 = some q := e
    unfold gRo at e'
    rw [if_neg (by decide), if_neg (by decide), if_neg (by decide), if_neg (by decide), if_pos rfl] at e'
    cases e'
    refine ⟨tx, rfl, ht, hc, fun j _ => rfl, ?_⟩
    show gTx tx (if gDY = 99999 then H.size else if gDY = 100004 then st else ro gDY) _ (jBase s H u) H
    rw [if_neg (by decide), if_pos rfl]
    obtain ⟨v, a, b, c, d⟩ := hx
    exact ⟨v, a, b, c, d⟩
end
