/-! ===== the law from its first line ===== -/
theorem gPush_ap (G : GH) (c : GC) : gPush G c = ap G [c] := by
  unfold gPush ap
  refine Prod.ext rfl (funext fun j => ?_)
  show (if j = G.1 then some c else G.2 j) = if G.1 ≤ j ∧ j < G.1 + 1 then [c][j - G.1]? else G.2 j
  by_cases h : j = G.1
  · rw [if_pos h, if_pos (by omega), h, Nat.sub_self]
    rfl
  · rw [if_neg h, if_neg (by omega)]
section
variable {m rc rs pc n a b c d e : Nat} {ls : GL} {st : List Value} {G : GH} {Q : GQ} {x : Nat}
theorem wp_as {k : Fin 4} (hE : gLook (gTab m) pc = some (.astore_n k, n, a, b, c, d, e)) (h : WP m rc rs n (gSt1 ls k (.ref x)) st G Q) : WP m rc rs pc ls (.ref x :: st) G Q := by
  refine WP.step ?_
  unfold gStep stepG
  rw [hE]
  exact h
theorem wp_isk {k : _} {v : Int32} (hE : gLook (gTab m) pc = some (.istore k, n, a, b, c, d, e)) (h : WP m rc rs n (gSt1 ls k (.int v)) st G Q) : WP m rc rs pc ls (.int v :: st) G Q := by
  refine WP.step ?_
  unfold gStep stepG
  rw [hE]
  exact h
theorem wp_nl {j : Int32} {w : Nat} (hE : gLook (gTab m) pc = some (.newarray .long, n, a, b, c, d, e)) (hj : j = nI w) (h1 : 1 ≤ rc) (h2 : 0 < G.1) (h3 : G.1 < gRB) (h4 : w ≤ 100000) (h5 : w ≤ rs) (h : WP m (rc - 1) (rs - w) n ls (.ref G.1 :: st) (gPush G (.inr (.long, w, .inr (.inl fun _ => 0)))) Q) : WP m rc rs pc ls (.int j :: st) G Q := by
  refine WP.step ?_
  unfold gStep stepG
  rw [hE]
  exact ⟨h1, h2, h3, w, hj, h4, h5, h⟩
end
theorem law_WP {B : PM} {L rc rs : Nat} {Q : GQ} (hR : RO B) (hB : ∀ a k, inR (B a k)) (hL : L < 2147483640) (hc : 261 + L ≤ rc) (hs : 13000 + 6 * L ≤ rs) (hQ : ∀ G, Q.1 (nI 1) G) : WP M_L_law rc rs 0 (gEntry M_L_law [.ref 100003]) [] (iG (1, 0, L) (uI B)) Q := by
  obtain ⟨v1, v2, e1, e2, hI, s1, g1, z261⟩ := Inv_start B hR L
  obtain ⟨w1, m1⟩ := init_TD hB (by omega) e1
  obtain ⟨w2, m2⟩ := init_TM hB (by omega) m1 g1 e2
  have m3 : okM (262, 0, L) v2 := by
    refine ⟨m2.1, fun a n k h => ?_, by show L < _; omega⟩
    by_cases c : a < 261
    · refine m2.2.1 a n k ?_
      rw [← h, pK_lt (g := (261, 0, L)) c (by omega), pK_lt (g := (262, 0, L)) (by show a < 262; omega) (by omega)]
    · by_cases c2 : a = 261
      · left; rw [c2]; exact z261 k
      · refine m2.2.1 a n k ?_
        rw [← h]
        unfold pK
        by_cases c3 : a < 100000
        · rw [show Nat.blt a 100000 = true from Nat.ble_eq_true_of_le c3, show Nat.blt a (261, 0, L).1 = false from Bool.eq_false_iff.mpr fun h => c (Nat.le_of_ble_eq_true h), show Nat.blt a (262, 0, L).1 = false from Bool.eq_false_iff.mpr fun h => absurd (show a < 262 from Nat.le_of_ble_eq_true h) (by omega)]
        · rw [show Nat.blt a 100000 = false from Bool.eq_false_iff.mpr fun h => c3 (Nat.le_of_ble_eq_true h)]
          rfl
  obtain ⟨g', u', e3, b3⟩ := L_all L (262, 0, L) v2 0 (Int.le_refl 0) (by show ((L : Int) - 0).toNat ≤ L; omega) (by show (L : Int) < _; omega) (fun k => by have z := m2.1 100003 k; unfold inR at z; unfold i32; omega) hI (by show (0 : Int) ≤ (L : Int) + 6; omega)
  have b3' : g'.2.1 ≤ 0 + L := b3
  obtain ⟨-, w3⟩ := run_wp e3 (fun v hv => by
    simp only [List.mem_cons, List.not_mem_nil, or_false] at hv
    rcases hv with rfl | rfl | rfl | rfl | rfl | rfl | rfl | rfl | rfl
    · exact trivial
    · exact trivial
    · exact trivial
    · exact trivial
    · exact ⟨by decide, by decide⟩
    · exact trivial
    · exact trivial
    · exact trivial
    · exact trivial) okL0 m3
  have h23 := w3 (rc - 1 - 247 - 1 - 11 - 1) (rs - 12 - 6722 - 28 - 6195 - 1) Q (by show g'.2.1 - 0 ≤ _; omega) (by show 6 * (g'.2.1 - 0) ≤ _; omega) (hQ _)
  have hz : iG (262, 0, L) v2 = ap (iG (261, 0, L) v2) [zL] := by
    refine (ap_iG (b := 261) (n := 1) (by decide) ?_).symm
    show [some zL] = [iCell v2 261 (2, 2, 1)]
    unfold iCell zL
    rw [show (fun j : Nat => Int64.ofInt (v2 261 j)) = fun _ => 0 from funext fun j => by rw [z261]; rfl]
    rfl
  rw [hz] at h23
  refine wp_new rfl (by omega) (by omega) (Nat.succ_pos 0) (by show 1 < gRB; decide) (wp_dup rfl ?_)
  rw [gPush_ap]
  refine wp_init (fs := gBlk 10) (c1 := 247) (d1 := 6722) rfl (Nat.le_of_ble_eq_true rfl) (by show 1 < gRB; decide) (ap_get _ _ 0 (by decide)) (by omega) (by omega) w1 (wp_as rfl ?_)
  refine wp_new rfl (by omega) (by omega) (Nat.succ_pos 248) (by show 249 < gRB; decide) (wp_dup rfl ?_)
  rw [gPush_ap]
  refine wp_init (fs := gBlk 11) (c1 := 11) (d1 := 6195) rfl (Nat.le_of_ble_eq_true rfl) (by show 249 < gRB; decide) (ap_get _ _ 0 (by decide)) (by omega) (by omega) w2 (wp_as rfl ?_)
  refine wp_ic rfl (wp_nl (w := 1) rfl rfl (by omega) (Nat.succ_pos 260) (by show 261 < gRB; decide) (by decide) (by omega) ?_)
  rw [gPush_ap]
  exact wp_as rfl (wp_ic rfl (wp_isk rfl h23))
