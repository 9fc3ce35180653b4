/-! ===== the JDK: rows for byte arrays and calls ===== -/
def jQa (r : Nat) : Array Value → State → Outcome → State → Prop := fun _ st oc t => oc = .returned (some (.ref r)) ∧ t.heap = st.heap
section
variable {p : Program} {l : Launch} {e : Env} {R : Room} {s : State} {m : MethodId} {args : Array Value} {below : List Frame} {meth : Method} {c : Code} {H : Heap} {locs : List Loc} {cells slots : Nat} {Q : State → Prop} {pc : Nat} {ls : Array Slot} {rest st0 : List Value} {aa : Array Value} {A : Nat → Prop} {H0 : Heap} {DJ : va_G} {ws : va_W} {cB : ClassId} {cc : ByteArray}
theorem j_calla {r : Nat} (hr : va_Run p l e R s m args below meth c H locs cells slots 0 0 (F0 m pc ls st0) rest (jQa r aa) (fun _ => False))
    (kk : W p l e R s m args below meth c H locs cells slots Q (F0 m (pc + 3) ls (.ref r :: rest))) : W p l e R s m args below meth c H locs cells slots Q (F0 m pc ls st0) := by
  intro T hT X
  obtain ⟨v, st₀, t, T', L, h0, X', hL, e1, e2, ⟨hv, hh⟩, st⟩ := hr T hT X
  cases hv
  have hLe : L = [] := List.eq_nil_iff_forall_not_mem.mpr fun q hq => hL q hq
  subst hLe
  rw [List.append_nil] at X'
  obtain ⟨t2, a1, b1⟩ := kk T' (by rw [e1, hh, h0]) X'
  exact ⟨t2, st t2 a1, b1⟩
theorem j_newb (hexec : p.tables.exec = Jvm.exec) (hb : c.code = cc) (harr : (Cond.arrayClass .byte).before args s = true) (hK : va_K DJ jCl [(cB, .byte)] s) (hP : va_P DJ jCl ws H) (hD : va_D A ws) (hS : va_S A H0 H locs) (hA : ∀ q, H0.size ≤ q → A q)
    {n : Int32} {N' : Nat} (hn : ¬ n < 0) (hN : n.toNatClampNeg = N') (hbytes : N' ≤ 1000) (hcells : cells + 1 ≤ R.cells) (hslots : slots + N' ≤ R.slots) (hdg : decode cc pc = .ok (.newarray .byte, 2))
    (kk : ∀ (q : Nat) (H1 : Heap), q = H.size → va_P DJ jCl (ws ++ [(q, .inl (cB, N', .inl fun _ => 0))]) H1 → va_D A (ws ++ [(q, .inl (cB, N', .inl fun _ => 0))]) → va_S A H0 H1 locs →
      W p l e R s m args below meth c H1 locs (cells + 1) (slots + N') Q (F0 m (pc + 2) ls (.ref q :: rest))) : W p l e R s m args below meth c H locs cells slots Q (F0 m pc ls (.int n :: rest)) := by
  refine va_newaK (atype := .byte) hexec hb harr rfl hdg rfl hn hN (by show N' * 1 ≤ _; omega) hcells hslots rfl fun H1 cA e1 z1 o1 hAr hNm => ?_
  have hcA : cA = cB := Option.some.inj (hNm.symm.trans (hK.2 0 (cB, .byte) rfl).2)
  subst hcA
  have hk : ∀ (k : Nat) (x : Nat × va_E), ws[k]? = some x → H1[x.1]? = H[x.1]? := fun k x hx => o1 x.1 ((hP k x hx).lt)
  have hat : va_at DJ jCl (H.size, .inl (cA, N', .inl fun _ => 0)) H1 := e1
  refine kk H.size H1 rfl ((hP.kept hk).app (fun k q hq => ?_)) (hD.push hP rfl (hA _ hS.1)) ⟨by rw [z1]; exact Nat.le_succ_of_le hS.1, fun q h1 h2 => ?_, hS.2.2⟩
  · match k with
    | 0 => cases hq; exact hat
    | k + 1 => cases hq
  · rw [o1 q (Nat.lt_of_lt_of_le h1 hS.1)]
    exact hS.2.1 q h1 h2
/-- arraycopy out of a given byte array into one of the world -/
theorem j_copyT (hexec : p.tables.exec = Jvm.exec) (hb : c.code = cc) (hml : c.maxLocals = ls.size) {own : String} {index : Nat} (hown : s.vm.findClass own = some m.cls) (hlink : (Cond.methodLink own index arraycopyName).before args s = true) (hnat : (Cond.native arraycopyName).before args s = true) (hstat : (Cond.static arraycopyName).before args s = true) (hini : (Cond.initialized "java/lang/System").before args s = true)
    (hK : va_K DJ jCl [(cB, .byte)] s) (hP : va_P DJ jCl ws H) (hD : va_D A ws) (hS : va_S A H0 H locs) {G : Nat → Prop} (hG : va_S G s.heap H locs) {b0 n0 : Nat} {f : Nat → Int32} (hX : va_T .byte b0 n0 (fun j => .int (f j)) G s s.heap) (hn0 : n0 < 2 ^ 31) (q1 : Nat) {a n1 : Nat} {g : Nat → Int32} (ha1 : ws[q1]? = some (a, .inl (cB, n1, .inl g)))
    {dp : Int32} (h2 : ¬ dp < 0) (h5 : dp.toNatClampNeg + n0 ≤ n1) (hfit : ∀ i, i < n0 → fits .byte (.int (f i)) = true)
    (hframes : 1 ≤ R.frames) (hlocals : (rest.map fun v => v.category).sum + (nativeFrameWords "java/lang/System" "arraycopy" 5 + 11) ≤ R.locals) (hdg : decode cc pc = .ok (.invokestatic index, 3))
    (kk : ∀ (H1 : Heap) (locs1 : List Loc), va_P DJ jCl (ws.set q1 (a, .inl (cB, n1, .inl (va_cpy f g 0 dp.toNatClampNeg n0)))) H1 → va_D A (ws.set q1 (a, .inl (cB, n1, .inl (va_cpy f g 0 dp.toNatClampNeg n0)))) → va_S A H0 H1 locs1 → W p l e R s m args below meth c H1 locs1 cells slots Q (F0 m (pc + 3) ls rest)) : W p l e R s m args below meth c H locs cells slots Q (F0 m pc ls (.int (nI n0) :: .int dp :: .ref a :: .int 0 :: .ref b0 :: rest)) := by
  have nn : dp.toInt = (dp.toNatClampNeg : Int) := by
    have hz0 : (0 : Int) ≤ dp.toInt := by
      have := Int32.not_lt.mp h2
      simpa using Int32.le_iff_toInt_le.mp this
    show dp.toInt = ((dp.toInt.toNat : Nat) : Int)
    omega
  intro T hT X
  have hX' := hX.kept hG.2.1
  obtain ⟨scr, hc0, hs2, hs3, hs4, hs4', hs5, -⟩ := hX'
  have hc1 : H[a]? = some (vp_cell cB (n1, .inl g)) := hP q1 _ ha1
  obtain ⟨hs6, k0, hk0, cm0, hkk0⟩ := hs2
  obtain ⟨-, k1, hk1, cm1, hkk1⟩ := (hK.2 0 _ rfl).1 n1 (fun j => .int (g j))
  obtain ⟨vm', X', step⟩ := X.arraycopy hexec hown hlink hnat hstat hini (src := b0) (dst := a) (cs := scr) (cd := vp_cell cB (n1, .inl g)) (srcPos := 0) (destPos := dp) (n := nI n0) (by rw [hT]; exact hc0) (by rw [hT]; exact hc1)
    hs6 (fun _ h => by cases h) hs3 (fun h => by cases h) hk0 hk1 hkk0 hkk1 (by simp [refKind]) (by decide) h2 (nI_pos hn0)
    (by rw [nI_toInt hn0]; show ¬ (0 : Int32).toInt + _ > _; rw [Int32.toInt_zero]; omega)
    (by rw [nn, nI_toInt hn0]; show ¬ _ > ((arrV cB n1 (fun j => .int (g j))).slots.size : Int); rw [arrV_size]; omega)
    (fun vm₁ _ i hi => by
      rw [nI_clamp hn0] at hi
      have e : scr.slots.getD ((0 : Int32).toNatClampNeg + i) .null = .int (f i) := by
        rw [sb_cl0, Nat.zero_add, Array.getD_eq_getD_getElem?, hs5 _ hi]
        rfl
      refine ⟨?_, ?_⟩
      · rw [e]; exact hfit i hi
      · rw [e]; exact trivial)
    (g := F0 m pc ls (.int (nI n0) :: .int dp :: .ref a :: .int 0 :: .ref b0 :: rest)) rfl (by rw [hml]) (rest := rest) rfl (by rw [hb]; exact hdg) hframes (by show 2 * 0 + _ + _ ≤ _; omega)
  have e1 : copied scr (vp_cell cB (n1, .inl g)) 0 dp (nI n0) = vp_cell cB (n1, .inl (va_cpy f g 0 dp.toNatClampNeg n0)) := by
    have h := va_copiedX (n1 := n1) (sp := 0) (dp := dp.toNatClampNeg) (n := n0) (fun z => .int z) scr cB f g hs5 (by omega)
    have e0 : copied scr (vp_cell cB (n1, .inl g)) 0 dp (nI n0) = (arrV cB n1 (fun j => .int (g j))).storeRun dp.toNatClampNeg (scr.stretch (0 : Int32).toNatClampNeg (nI n0).toNatClampNeg) := rfl
    rw [e0, sb_cl0, nI_clamp hn0]
    exact h
  rw [e1] at X' step
  have hl : a < H.size := (Array.getElem?_eq_some_iff.mp hc1).1
  have hheap : ((T.setVm vm').setCell a (vp_cell cB (n1, .inl (va_cpy f g 0 dp.toNatClampNeg n0)))).heap = H.setIfInBounds a (vp_cell cB (n1, .inl (va_cpy f g 0 dp.toNatClampNeg n0))) := by rw [← hT]; rfl
  have oq : ∀ q : Nat, q ≠ a → (H.setIfInBounds a (vp_cell cB (n1, .inl (va_cpy f g 0 dp.toNatClampNeg n0))))[q]? = H[q]? := fun q hq => by simp [Array.getElem?_setIfInBounds, Ne.symm hq]
  obtain ⟨t, a1, b1⟩ := kk _ _ (hP.set hD ha1 (show (H.setIfInBounds a _)[a]? = some _ by simp [Array.getElem?_setIfInBounds, hl]) oq) (hD.set ha1) ⟨by simp; exact hS.1, fun q g1 g2 => by
      rw [oq q (fun e => g2 (by rw [e]; exact hD.2 q1 _ ha1))]
      exact hS.2.1 q g1 g2, fun q hq => by
      rcases List.mem_append.mp hq with h | h
      · exact hS.2.2 q h
      · obtain ⟨z, -, hz⟩ := List.mem_map.mp h
        rw [← hz]
        exact hD.2 q1 _ ha1⟩ _ hheap X'
  exact ⟨t, step t a1, b1⟩
end
