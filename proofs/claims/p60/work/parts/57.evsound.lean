/-! ===== the plain machine is sound over the ghost machine: the theorem ===== -/
section EvS
variable {n m pc : Nat} {L S : List PV} {g : PG} {u : PM} {o : PO}
theorem ev_arraycopy {X : PX} {ni ai bi ci di : Nat} {i : Instr} (hX : ∀ (L S : List PV) (u : PM), X ni L S g u = some o → okL L → okL S → okM g u → G2 m ni L S g u o) (hi : ∃ idx, i = .invokestatic idx) (hT : gLook (gTab m) pc = some (i, ni, ai, bi, ci, di, 25)) (hL : okL L) (hS : okL S) (hM : okM g u)
    (h : pStat X L S g u ni 25 = some o) : G2 m pc L S g u o := by
  obtain ⟨idx, rfl⟩ := hi
  obtain ⟨x1, k, r1, rfl, h⟩ := popI_el h
  obtain ⟨x2, dp, r2, rfl, h⟩ := popI_el h
  obtain ⟨q, x3, r3, rfl, h⟩ := popA_el h
  obtain ⟨x4, sp, r4, rfl, h⟩ := popI_el h
  obtain ⟨s, x5, r, rfl, h⟩ := popA_el h
  obtain ⟨h8, h⟩ := bif_el h
  obtain ⟨hc, h⟩ := bif_el h
  simp only [Bool.and_eq_true] at hc
  obtain ⟨⟨hq, hs⟩, hc⟩ := hc
  have hq := pW_el hq
  have hs := pW_el hs
  have okk : inR k := okL_hd hS
  have hS2 := okL_tl hS
  have okd : inR dp := okL_hd hS2
  have hS3 := okL_tl (okL_tl hS2)
  have oks : inR sp := okL_hd hS3
  have hSr := okL_tl (okL_tl hS3)
  unfold pCp at hc
  split at hc
  · next t0 m0 t1 m1 e0 e1 =>
    simp only [Bool.and_eq_true, decide_eq_true_eq] at hc
    obtain ⟨⟨ht, ht2⟩, ⟨hk0, hd0, hs0⟩, hm0, hm1⟩ := hc
    have ht := Nat.eq_of_beq_eq_true ht
    subst ht
    have ht2 : t0 < 2 := Nat.le_of_ble_eq_true ht2
    have hM' : okM g (cpy u s q sp dp k) := by
      obtain ⟨a1, a2, a3⟩ := hM
      refine ⟨fun a j => ?_, fun a n j e => ?_, a3⟩
      · unfold cpy
        split
        · exact a1 _ _
        · exact a1 _ _
      · unfold cpy
        split
        · next hh =>
          obtain ⟨rfl, -⟩ := hh
          rw [e1] at e
          cases e
          exact a2 s m0 _ e0
        · exact a2 a n j e
    refine (hX L r _ h hL hSr hM').lin fun rc rs Q kk => step_of hT ?_
    show bif Nat.ble (gCat (iS r)) 8 then _ else False
    rw [iS_cat, h8, cond_true]
    have key : ∀ j : Nat, (Int32.ofInt (cpy u s q sp dp k q (j : Int))) = va_cpy (fun j : Nat => Int32.ofInt (u s j)) (fun j : Nat => Int32.ofInt (u q j)) sp.toNat dp.toNat k.toNat j := fun j => by
      unfold cpy va_cpy
      by_cases e : dp ≤ (j : Int) ∧ (j : Int) < dp + k
      · rw [if_pos ⟨rfl, e.1, e.2⟩, if_pos ⟨by omega, by omega⟩]
        congr 2
        omega
      · rw [if_neg fun z => e z.2, if_neg fun z => e ⟨by omega, by omega⟩]
    have cong : iG g (cpy u s q sp dp k) = gU (iG g u) q (.inr ((if t0 = 0 then .int else .boolean), m1, .inl (va_cpy (fun j : Nat => Int32.ofInt (u s j)) (fun j : Nat => Int32.ofInt (u q j)) sp.toNat dp.toNat k.toNat))) := by
      refine iG_set (fun a j ha => if_neg fun z => ha z.1) ?_
      rw [e1]
      have ht3 : t0 = 0 ∨ t0 = 1 := by omega
      rcases ht3 with rfl | rfl
      · show some (Sum.inr (FieldType.int, m1, Sum.inl _)) = _
        rw [funext key]
        rfl
      · show some (Sum.inr (FieldType.boolean, m1, Sum.inl _)) = _
        rw [funext key]
        rfl
    rw [cong] at kk
    have l1 := okk.2
    have l2 := okd.2
    have l3 := oks.2
    refine ⟨hq, hs, (if t0 = 0 then .int else .boolean), m0, m1, fun j => Int32.ofInt (u s j), fun j => Int32.ofInt (u q j), k.toNat, dp.toNat, sp.toNat, ?_, ?_, ?_, ?_, ?_, ?_, by omega, by omega, by omega, by omega, by omega, kk⟩
    · show iCell u s (pK g s) = _
      rw [e0]
      have ht3 : t0 = 0 ∨ t0 = 1 := by omega
      rcases ht3 with rfl | rfl <;> rfl
    · show iCell u q (pK g q) = _
      rw [e1]
      have ht3 : t0 = 0 ∨ t0 = 1 := by omega
      rcases ht3 with rfl | rfl <;> rfl
    · have ht3 : t0 = 0 ∨ t0 = 1 := by omega
      rcases ht3 with rfl | rfl
      · exact Or.inl rfl
      · refine Or.inr ⟨rfl, fun j => ?_⟩
        rcases hM.2.1 s m0 j e0 with e | e
        · left; show Int32.ofInt (u s j) = _; rw [e]; rfl
        · right; show Int32.ofInt (u s j) = _; rw [e]; rfl
    · rw [nI_of3, toNat_cast hk0]
    · rw [nI_of3, toNat_cast hd0]
    · rw [nI_of3, toNat_cast hs0]
  · cases hc
/-- behind a throw -/
theorem ev_hand (ih : IH n m) {i : Nat} (hL : okL L) (hM : okM g u) {rc rs : Nat} {Q : GQ} (h1 : o.2.2.1.2.1 - g.2.1 ≤ rc) (h2 : 6 * (o.2.2.1.2.1 - g.2.1) ≤ rs) (h3 : Qok Q o) : ∀ hh : GHd, pHand (ev n m) pc L i g u hh = some o → gHand (fun rc rs pc ls st G => WP m rc rs pc ls st G Q) Q.2.2.2.2.2 rc rs pc (iL L) (gExc i) (iG g u) hh
  | [], h => by
    cases h
    exact h3
  | (s, t, hd, k, nm) :: r, h => by
    unfold pHand at h
    unfold gHand
    cases hb : (Nat.ble s pc && Nat.blt pc t) with
    | false =>
      rw [hb, cond_false] at h
      rw [cond_false]
      exact ev_hand ih hL hM h1 h2 h3 r h
    | true =>
      rw [hb, cond_true] at h
      rw [cond_true]
      by_cases e : gExc i = nm
      · rw [if_pos e] at h ⊢
        have g2 := ih hd _ [] g u o h (okL_set (okL_kill hL) trivial) (fun v hv => nomatch hv) hM
        have e2 : (gKill (iL L) k).set k none = iL ((pKill L k).set k vN) := by
          rw [iL_kill]
          unfold iL
          rw [List.map_set]
          rfl
        rw [e2]
        exact g2.2 rc rs Q h1 h2 h3
      · rw [if_neg e] at h ⊢
        exact ev_hand ih hL hM h1 h2 h3 r h
theorem okO_exc_hand (ih : IH n m) {i : Nat} (hL : okL L) (hM : okM g u) : ∀ hh : GHd, pHand (ev n m) pc L i g u hh = some o → okO g o
  | [], h => by
    cases h
    exact ⟨trivial, hM, rfl, rfl, Nat.le_refl _⟩
  | (s, t, hd, k, nm) :: r, h => by
    unfold pHand at h
    cases hb : (Nat.ble s pc && Nat.blt pc t) with
    | false => rw [hb, cond_false] at h; exact okO_exc_hand ih hL hM r h
    | true =>
      rw [hb, cond_true] at h
      by_cases e : gExc i = nm
      · rw [if_pos e] at h
        exact (ih hd _ [] g u o h (okL_set (okL_kill hL) trivial) (fun v hv => nomatch hv) hM).1
      · rw [if_neg e] at h
        exact okO_exc_hand ih hL hM r h
theorem okO_tr {g1 : PG} {o1 o2 : PO} (h1 : okO g o1) (e : o1.2.2.1 = g1) (h2 : okO g1 o2) : okO g o2 := by
  subst e
  exact ⟨h2.1, h2.2.1, h2.2.2.1.trans h1.2.2.1, h2.2.2.2.1.trans h1.2.2.2.1, Nat.le_trans h1.2.2.2.2 h2.2.2.2.2⟩
/-- a call of an own method -/
theorem ev_call (ihs : ∀ m, IH n m) {ni a b e : Nat} (hL : okL L) (hS : okL S) (hM : okM g u) (h : pInv (fun a as g u => ev n a 0 (pEn a as) [] g u) (ev n m) (gHh m) pc L S g u ni a b e = some o) :
    okO g o ∧ ∀ (rc rs c d : Nat) (Q : GQ), o.2.2.1.2.1 - g.2.1 ≤ rc → 6 * (o.2.2.1.2.1 - g.2.1) ≤ rs → Qok Q o → gInv (gCx WP) (fun rc rs pc ls st G => WP m rc rs pc ls st G Q) Q gStr (gHh m) rc rs pc (iL L) (iS S) (iG g u) ni a b c d e := by
  have hargs : ∀ {A : Option PO}, (bif pArgs b S then A else none) = some o → A = some o ∧ (Nat.ble (gCat ((iS S).drop b)) 8 && (Nat.beq ((iS S).take b).length b && Nat.beq (gCat ((iS S).take b)) b)) = true ∧ (∀ v ∈ (S.take b).reverse, v.1 = 0 ∨ v.1 = 1) := by
    intro A h
    obtain ⟨ha, h⟩ := bif_el h
    unfold pArgs at ha
    simp only [Bool.and_eq_true] at ha
    obtain ⟨a1, a2, a3⟩ := ha
    have ht := pTag_el a3
    have hlen := Nat.eq_of_beq_eq_true a2
    refine ⟨h, ?_, fun v hv => ht v (List.mem_reverse.mp hv)⟩
    rw [iS_drop, iS_take, iS_cat, iS_cat, a1, pTag_cat ht, hlen]
    unfold iS
    rw [List.length_map, hlen]
    simp
  have hSd : okL (S.drop b) := fun v hv => hS v (List.mem_of_mem_drop hv)
  have hSt : okL (S.take b).reverse := fun v hv => hS v (List.mem_of_mem_take (List.mem_reverse.mp hv))
  have callee : ∀ {o1 : PO}, ev n a 0 (pEn a (S.take b).reverse) [] g u = some o1 → (∀ v ∈ (S.take b).reverse, v.1 = 0 ∨ v.1 = 1) → okO g o1 ∧ ∀ (K : GQ), Qok K o1 → gCx WP a (o1.2.2.1.2.1 - g.2.1) (6 * (o1.2.2.1.2.1 - g.2.1)) ((iS S).take b).reverse (iG g u) K := by
    intro o1 h1 ht
    have g2 := ihs a 0 _ [] g u o1 h1 (okL_en hSt) (fun v hv => nomatch hv) hM
    refine ⟨g2.1, fun K hK => ⟨K, ?_, gLe.rf K⟩⟩
    have := g2.2 _ _ K (Nat.le_refl _) (Nat.le_refl _) hK
    rw [iL_en ht] at this
    rw [iS_take, iS_rev]
    exact this
  have hdr : (iS S).drop b = iS (S.drop b) := iS_drop b S
  have bud : ∀ {o1 : PO} {g1 : PG} {rc : Nat}, o1.2.2.1 = g1 → g.2.1 ≤ g1.2.1 → g1.2.1 ≤ o.2.2.1.2.1 → o.2.2.1.2.1 - g.2.1 ≤ rc → o1.2.2.1.2.1 - g.2.1 ≤ rc ∧ o.2.2.1.2.1 - g1.2.1 ≤ rc - (o1.2.2.1.2.1 - g.2.1) := by
    intro o1 g1 rc e h1 h2 h3
    subst e
    omega
  have bud6 : ∀ {o1 : PO} {g1 : PG} {rs : Nat}, o1.2.2.1 = g1 → g.2.1 ≤ g1.2.1 → g1.2.1 ≤ o.2.2.1.2.1 → 6 * (o.2.2.1.2.1 - g.2.1) ≤ rs → 6 * (o1.2.2.1.2.1 - g.2.1) ≤ rs ∧ 6 * (o.2.2.1.2.1 - g1.2.1) ≤ rs - 6 * (o1.2.2.1.2.1 - g.2.1) := by
    intro o1 g1 rs e h1 h2 h3
    subst e
    omega
  unfold pInv at h
  split at h
  · obtain ⟨h, hck, ht⟩ := hargs h
    rcases cI_el h with ⟨a1, x, g1, u1, hc, h⟩ | ⟨i, v, g1, u1, hc, h⟩
    · obtain ⟨k1, k2⟩ := callee hc ht
      have g2 := ihs m ni L _ g1 u1 o h hL (okL_cons k1.1 hSd) k1.2.1
      refine ⟨okO_tr k1 rfl g2.1, fun rc rs c d Q q1 q2 q3 => ?_⟩
      have b1 := bud (o1 := (0, (0, a1, x), g1, u1)) rfl k1.2.2.2.2 g2.1.2.2.2.2 q1
      have b2 := bud6 (o1 := (0, (0, a1, x), g1, u1)) rfl k1.2.2.2.2 g2.1.2.2.2.2 q2
      show bif _ then _ else False
      rw [hck, cond_true]
      refine ⟨_, _, b1.1, b2.1, k2 _ ?_⟩
      show WP m _ _ ni (iL L) (.int (Int32.ofInt x) :: (iS S).drop b) (iG g1 u1) Q
      rw [hdr]
      exact g2.2 _ _ Q b1.2 b2.2 q3
    · cases h
  · obtain ⟨h, hck, ht⟩ := hargs h
    rcases cV_el h with ⟨a1, x, g1, u1, hc, h⟩ | ⟨i, v, g1, u1, hc, h⟩
    · obtain ⟨k1, k2⟩ := callee hc ht
      have g2 := ihs m ni L _ g1 u1 o h hL hSd k1.2.1
      refine ⟨okO_tr k1 rfl g2.1, fun rc rs c d Q q1 q2 q3 => ?_⟩
      have b1 := bud (o1 := (0, (5, a1, x), g1, u1)) rfl k1.2.2.2.2 g2.1.2.2.2.2 q1
      have b2 := bud6 (o1 := (0, (5, a1, x), g1, u1)) rfl k1.2.2.2.2 g2.1.2.2.2.2 q2
      show bif _ then _ else False
      rw [hck, cond_true]
      refine ⟨_, _, b1.1, b2.1, k2 _ ?_⟩
      show WP m _ _ ni (iL L) ((iS S).drop b) (iG g1 u1) Q
      rw [hdr]
      exact g2.2 _ _ Q b1.2 b2.2 q3
    · cases h
  · obtain ⟨h, hck, ht⟩ := hargs h
    obtain ⟨a1, x, g1, u1, hc, h⟩ := cR_el h
    obtain ⟨k1, k2⟩ := callee hc ht
    have g2 := ihs m ni L _ g1 u1 o h hL (okL_cons trivial hSd) k1.2.1
    refine ⟨okO_tr k1 rfl g2.1, fun rc rs c d Q q1 q2 q3 => ?_⟩
    have b1 := bud (o1 := (0, (1, a1, x), g1, u1)) rfl k1.2.2.2.2 g2.1.2.2.2.2 q1
    have b2 := bud6 (o1 := (0, (1, a1, x), g1, u1)) rfl k1.2.2.2.2 g2.1.2.2.2.2 q2
    show bif _ then _ else False
    rw [hck, cond_true]
    refine ⟨_, _, b1.1, b2.1, k2 _ ?_⟩
    show WP m _ _ ni (iL L) (.ref a1 :: (iS S).drop b) (iG g1 u1) Q
    rw [hdr]
    exact g2.2 _ _ Q b1.2 b2.2 q3
  · obtain ⟨h, hck, ht⟩ := hargs h
    obtain ⟨a1, x, g1, u1, hc, h⟩ := cD_el h
    obtain ⟨k1, k2⟩ := callee hc ht
    have g2 := ihs m ni L _ g1 u1 o h hL (okL_cons k1.1 hSd) k1.2.1
    refine ⟨okO_tr k1 rfl g2.1, fun rc rs c d Q q1 q2 q3 => ?_⟩
    have b1 := bud (o1 := (0, (3, a1, x), g1, u1)) rfl k1.2.2.2.2 g2.1.2.2.2.2 q1
    have b2 := bud6 (o1 := (0, (3, a1, x), g1, u1)) rfl k1.2.2.2.2 g2.1.2.2.2.2 q2
    show bif _ then _ else False
    rw [hck, cond_true]
    refine ⟨_, _, b1.1, b2.1, k2 _ ?_⟩
    show WP m _ _ ni (iL L) (.double (UInt64.ofNat a1) :: (iS S).drop b) (iG g1 u1) Q
    rw [hdr]
    exact g2.2 _ _ Q b1.2 b2.2 q3
  · obtain ⟨h, hck, ht⟩ := hargs h
    obtain ⟨a1, x, g1, u1, hc, h⟩ := cF_el h
    obtain ⟨k1, k2⟩ := callee hc ht
    have g2 := ihs m ni L _ g1 u1 o h hL (okL_cons k1.1 hSd) k1.2.1
    refine ⟨okO_tr k1 rfl g2.1, fun rc rs c d Q q1 q2 q3 => ?_⟩
    have b1 := bud (o1 := (0, (4, a1, x), g1, u1)) rfl k1.2.2.2.2 g2.1.2.2.2.2 q1
    have b2 := bud6 (o1 := (0, (4, a1, x), g1, u1)) rfl k1.2.2.2.2 g2.1.2.2.2.2 q2
    show bif _ then _ else False
    rw [hck, cond_true]
    refine ⟨_, _, b1.1, b2.1, k2 _ ?_⟩
    show WP m _ _ ni (iL L) (.float (UInt32.ofNat a1) :: (iS S).drop b) (iG g1 u1) Q
    rw [hdr]
    exact g2.2 _ _ Q b1.2 b2.2 q3
  · obtain ⟨h, hck, ht⟩ := hargs h
    rcases cI_el h with ⟨a1, x, g1, u1, hc, h⟩ | ⟨i, v, g1, u1, hc, h⟩
    · obtain ⟨k1, k2⟩ := callee hc ht
      have g2 := ihs m ni L _ g1 u1 o h hL (okL_cons k1.1 hSd) k1.2.1
      refine ⟨okO_tr k1 rfl g2.1, fun rc rs c d Q q1 q2 q3 => ?_⟩
      have b1 := bud (o1 := (0, (0, a1, x), g1, u1)) rfl k1.2.2.2.2 g2.1.2.2.2.2 q1
      have b2 := bud6 (o1 := (0, (0, a1, x), g1, u1)) rfl k1.2.2.2.2 g2.1.2.2.2.2 q2
      show bif _ then _ else False
      rw [hck, cond_true]
      refine ⟨_, _, b1.1, b2.1, k2 _ ?_⟩
      show WP m _ _ ni (iL L) (.int (Int32.ofInt x) :: (iS S).drop b) (iG g1 u1) Q
      rw [hdr]
      exact g2.2 _ _ Q b1.2 b2.2 q3
    · obtain ⟨k1, k2⟩ := callee hc ht
      have ok2 := okO_exc_hand (ihs m) hL k1.2.1 _ h
      refine ⟨okO_tr k1 rfl ok2, fun rc rs c d Q q1 q2 q3 => ?_⟩
      have b1 := bud (o1 := (i + 1, v, g1, u1)) rfl k1.2.2.2.2 ok2.2.2.2.2 q1
      have b2 := bud6 (o1 := (i + 1, v, g1, u1)) rfl k1.2.2.2.2 ok2.2.2.2.2 q2
      show bif _ then _ else False
      rw [hck, cond_true]
      exact ⟨_, _, b1.1, b2.1, k2 _ (ev_hand (ihs m) hL k1.2.1 b1.2 b2.2 q3 _ h)⟩
  · obtain ⟨h, hck, ht⟩ := hargs h
    rcases cV_el h with ⟨a1, x, g1, u1, hc, h⟩ | ⟨i, v, g1, u1, hc, h⟩
    · obtain ⟨k1, k2⟩ := callee hc ht
      have g2 := ihs m ni L _ g1 u1 o h hL hSd k1.2.1
      refine ⟨okO_tr k1 rfl g2.1, fun rc rs c d Q q1 q2 q3 => ?_⟩
      have b1 := bud (o1 := (0, (5, a1, x), g1, u1)) rfl k1.2.2.2.2 g2.1.2.2.2.2 q1
      have b2 := bud6 (o1 := (0, (5, a1, x), g1, u1)) rfl k1.2.2.2.2 g2.1.2.2.2.2 q2
      show bif _ then _ else False
      rw [hck, cond_true]
      refine ⟨_, _, b1.1, b2.1, k2 _ ?_⟩
      show WP m _ _ ni (iL L) ((iS S).drop b) (iG g1 u1) Q
      rw [hdr]
      exact g2.2 _ _ Q b1.2 b2.2 q3
    · obtain ⟨k1, k2⟩ := callee hc ht
      have ok2 := okO_exc_hand (ihs m) hL k1.2.1 _ h
      refine ⟨okO_tr k1 rfl ok2, fun rc rs c d Q q1 q2 q3 => ?_⟩
      have b1 := bud (o1 := (i + 1, v, g1, u1)) rfl k1.2.2.2.2 ok2.2.2.2.2 q1
      have b2 := bud6 (o1 := (i + 1, v, g1, u1)) rfl k1.2.2.2.2 ok2.2.2.2.2 q2
      show bif _ then _ else False
      rw [hck, cond_true]
      exact ⟨_, _, b1.1, b2.1, k2 _ (ev_hand (ihs m) hL k1.2.1 b1.2 b2.2 q3 _ h)⟩
  · cases h
theorem pRcv_of {a b e : Nat} (h : pRcv g a b S = true) : gRcv gCls e a b (iS S) (iG g u) := by
  unfold gRcv
  cases Nat.ble 20 e with
  | true => trivial
  | false =>
    rw [cond_false, iS_drop]
    unfold pRcv at h
    split at h
    · next o x r hd =>
      rw [hd]
      rw [Bool.and_eq_true] at h
      obtain ⟨x', hx⟩ := pO_el h.2
      refine ⟨pW_el h.1, (List.range (gBlk (gCls a)).length).map (iFld u o (gCls a)), ?_⟩
      show iCell u o (pK g o) = _
      rw [hx]
      rfl
    · cases h
end EvS
