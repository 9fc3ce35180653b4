/-! ===== histories, on both sides ===== -/
def hPush (l : List AS) (a : AS) : List AS := (if l.length = 8 then l.tail else l) ++ [a]
theorem rem8 : ∀ n : Nat, n < 17 → rem2 n 8 = ((n % 8 : Nat) : Int) := by decide +kernel
def hSlot (h n : Nat) : Nat := h + 1 + 1 + 17 * (n % 8)
def hT (u : PM) (h : Nat) : List AS := (List.range (u h 0).toNat).map fun i => absT u (hSlot h ((u h 1).toNat + i))
def hM (u : PM) (t : Nat) : List AS := (List.range (u t 6).toNat).map fun (i : Nat) => absM (fun k => u (t + 3) (417 * (i : Int) + k))
theorem map_range_eq {f f' : Nat → AS} {n : Nat} (h : ∀ i, i < n → f i = f' i) : (List.range n).map f = (List.range n).map f' := List.map_congr_left fun i hi => h i (List.mem_range.mp hi)
theorem map_range_tail {f f' : Nat → AS} {n : Nat} (h : ∀ i, i < n → f i = f' (i + 1)) : (List.range n).map f = ((List.range (n + 1)).map f').tail := by
  rw [List.range_succ_eq_map, List.map_cons, List.tail_cons, List.map_map]
  exact map_range_eq h
theorem map_range_snoc {f f' : Nat → AS} {n : Nat} {a : AS} (h : ∀ i, i < n → f i = f' i) (ha : f n = a) : (List.range (n + 1)).map f = (List.range n).map f' ++ [a] := by
  rw [List.range_succ, List.map_append, map_range_eq h, List.map_cons, List.map_nil, ha]
def hOk (g : PG) (u : PM) (h : Nat) : Prop := KA g h (1, 3, 0) ∧ KA g (h + 1) (2, 3, 8) ∧ (∀ i : Nat, i < 8 → kSt g (h + 1 + 1 + 17 * i)) ∧ (0 ≤ u h 0 ∧ u h 0 ≤ 8) ∧ 0 ≤ u h 1 ∧ u h 1 < 8
section
variable {g : PG} {u : PM} {h p t : Nat}
theorem Hi_rem32 (hk : hOk g u h) (hp : kSt g p) (dj : p + 16 < h ∨ h + 138 ≤ p) (hA : nOk (absT u p)) (hc : u h 0 < 8) : ∃ u', run M_Hi_remember 32 [vA h, vA p] [] g u = some (0, vN, g, u') ∧ hT u' h = hT u h ++ [absT u p] ∧ hOk g u' h ∧ ∀ (a : Nat) (k : Int), a ≠ h → ¬ (h + 2 ≤ a ∧ a < h + 138) → u' a k = u a k := by
  obtain ⟨k0, k1, k2, ⟨c0, c1⟩, o0, o1⟩ := hk
  have hr := rem8 ((u h 1).toNat + (u h 0).toNat) (by omega)
  have hw : w (u h 1 + u h 0) = (((u h 1).toNat + (u h 0).toNat : Nat) : Int) := by rw [w_id (by omega) (by omega)]; omega
  have es : h + 1 + 1 + 17 * Int.toNat (rem2 (w (u h 1 + u h 0)) 8) = hSlot h ((u h 1).toNat + (u h 0).toNat) := by
    rw [hw, hr, Int.toNat_natCast]
    rfl
  have hs : hSlot h ((u h 1).toNat + (u h 0).toNat) = h + 1 + 1 + 17 * (((u h 1).toNat + (u h 0).toNat) % 8) := rfl
  have hks := k2 (((u h 1).toNat + (u h 0).toNat) % 8) (by omega)
  rw [← hs] at hks
  obtain ⟨u2, e2, a2, f2⟩ := St_copyFrom (u := u) hks hp (by omega) hA
  have q0 : ∀ k, u2 h k = u h k := fun k => f2 h k (by omega)
  refine ⟨up u2 h 0 (u h 0 + 1), ?_, ?_, ⟨k0, k1, k2, ?_, ?_⟩, fun a k n1 n2 => ?_⟩
  · rw [R_Hi_remember_32]
    simp only [gd_O k0]
    rw [if_neg (by decide), gd_W k1 (by rw [hw, hr]; omega) (by rw [hw, hr]; omega), es, gd_O hks.1, e2, cV_some]
    simp only [gd_O k0]
    rw [q0, w_id (by omega) (by omega)]
  · unfold hT
    rw [up_s, up_j (by decide), q0, show (u h 0 + 1).toNat = (u h 0).toNat + 1 by omega]
    refine map_range_snoc (fun i hi => ?_) ?_
    · have h1 : hSlot h ((u h 1).toNat + i) = h + 1 + 1 + 17 * (((u h 1).toNat + i) % 8) := rfl
      exact absT_eq fun a k b1 b2 => by rw [up_o (by omega), f2 a k (by omega)]
    · rw [← a2]
      exact absT_eq fun a k b1 b2 => up_o (by omega)
  · rw [up_s]; omega
  · rw [up_j (by decide), q0]; exact ⟨o0, o1⟩
  · rw [up_o n1, f2 a k (by omega)]
theorem Hi_remember (hk : hOk g u h) (hp : kSt g p) (dj : p + 16 < h ∨ h + 138 ≤ p) (hA : nOk (absT u p)) : ∃ u', call M_Hi_remember [vA h, vA p] g u = some (0, vN, g, u') ∧ hT u' h = hPush (hT u h) (absT u p) ∧ hOk g u' h ∧ ∀ (a : Nat) (k : Int), a ≠ h → ¬ (h + 2 ≤ a ∧ a < h + 138) → u' a k = u a k := by
  have hk' := hk
  obtain ⟨k0, k1, k2, ⟨c0, c1⟩, o0, o1⟩ := hk
  have hl : (hT u h).length = (u h 0).toNat := by unfold hT; rw [List.length_map, List.length_range]
  rw [C_Hi_remember]
  simp only [gd_O k0]
  unfold hPush
  by_cases h8 : u h 0 = 8
  · have hr := rem8 ((u h 1).toNat + 1) (by omega)
    have hw : w (u h 1 + 1) = (((u h 1).toNat + 1 : Nat) : Int) := by rw [w_id (by omega) (by omega)]; omega
    rw [if_pos h8, if_neg (by decide), hw, hr, up_j (by decide), h8, if_pos (show (hT u h).length = 8 by omega), show w (8 - 1) = 7 from rfl]
    obtain ⟨v, hv⟩ : ∃ v, v = up (up u h 1 ((((u h 1).toNat + 1) % 8 : Nat) : Int)) h 0 7 := ⟨_, rfl⟩
    have vo : ∀ (a : Nat) (k : Int), a ≠ h → v a k = u a k := fun a k ha => by rw [hv, up_o ha, up_o ha]
    have v0 : v h 0 = 7 := by rw [hv, up_s]
    have v1 : v h 1 = ((((u h 1).toNat + 1) % 8 : Nat) : Int) := by rw [hv, up_j (by decide), up_s]
    have ap : absT v p = absT u p := absT_eq fun a k b1 b2 => vo a k (by omega)
    have ht : hT v h = (hT u h).tail := by
      unfold hT
      rw [v0, v1, h8]
      refine map_range_tail (n := 7) fun i hi => ?_
      have e : hSlot h (((((u h 1).toNat + 1) % 8 : Nat) : Int).toNat + i) = hSlot h ((u h 1).toNat + (i + 1)) := by
        unfold hSlot
        omega
      rw [e]
      exact absT_eq fun a k b1 b2 => vo a k (by unfold hSlot at b1; omega)
    obtain ⟨u', e1, e2, e3, e4⟩ := Hi_rem32 (g := g) (u := v) ⟨k0, k1, k2, by omega, by omega⟩ hp dj (by rw [ap]; exact hA) (by omega)
    rw [← hv]
    exact ⟨u', e1, by rw [e2, ht, ap], e3, fun a k n1 n2 => (e4 a k n1 n2).trans (vo a k n1)⟩
  · rw [if_neg h8, if_neg (show ¬ (hT u h).length = 8 by omega)]
    exact Hi_rem32 hk' hp dj hA (by omega)
theorem Hi_bringBack (hk : hOk g u h) (hp : kSt g p) (dj : p + 16 < h ∨ h + 138 ≤ p) (hA : ∀ a ∈ hT u h, nOk a) (hc : 0 < u h 0) : ∃ u' l a, hT u h = l ++ [a] ∧ call M_Hi_bringBack [vA h, vA p] g u = some (0, vN, g, u') ∧ hT u' h = l ∧ absT u' p = a ∧ u' h 0 = u h 0 - 1 ∧ hOk g u' h ∧ ∀ (b : Nat) (k : Int), b ≠ h → ¬ (p ≤ b ∧ b ≤ p + 16) → u' b k = u b k := by
  obtain ⟨k0, k1, k2, ⟨c0, c1⟩, o0, o1⟩ := hk
  obtain ⟨n, hn⟩ : ∃ n : Nat, (u h 0).toNat = n + 1 := ⟨(u h 0).toNat - 1, by omega⟩
  have hr := rem8 ((u h 1).toNat + n) (by omega)
  obtain ⟨v, hv⟩ : ∃ v, v = up u h 0 (n : Int) := ⟨_, rfl⟩
  have vo : ∀ (a : Nat) (k : Int), a ≠ h → v a k = u a k := fun a k ha => by rw [hv, up_o ha]
  have hs : hSlot h ((u h 1).toNat + n) = h + 1 + 1 + 17 * (((u h 1).toNat + n) % 8) := rfl
  have hks := k2 (((u h 1).toNat + n) % 8) (by omega)
  rw [← hs] at hks
  have ha : absT v (hSlot h ((u h 1).toNat + n)) = absT u (hSlot h ((u h 1).toNat + n)) := absT_eq fun a k b1 b2 => vo a k (by omega)
  have hl : hT u h = (List.range n).map (fun i => absT u (hSlot h ((u h 1).toNat + i))) ++ [absT u (hSlot h ((u h 1).toNat + n))] := by
    unfold hT
    rw [hn]
    exact map_range_snoc (fun _ _ => rfl) rfl
  obtain ⟨u2, e2, a2, f2⟩ := St_copyFrom (u := v) hp hks (by omega) (by rw [ha]; exact hA _ (by rw [hl]; simp))
  have q0 : ∀ k, u2 h k = v h k := fun k => f2 h k (by omega)
  refine ⟨u2, _, _, hl, ?_, ?_, a2.trans ha, ?_, ⟨k0, k1, k2, ?_, ?_⟩, fun b k n1 n2 => by rw [f2 b k n2, vo b k n1]⟩
  · have w1 : w (u h 0 - 1) = (n : Int) := by rw [w_id (by omega) (by omega)]; omega
    rw [C_Hi_bringBack]
    simp only [gd_O k0]
    rw [if_pos hc, if_neg (by decide), w1, up_j (by decide), up_s]
    have hw : w (u h 1 + (n : Int)) = (((u h 1).toNat + n : Nat) : Int) := by rw [w_id (by omega) (by omega)]; omega
    rw [hw, hr, gd_W k1 (by omega) (by omega), gd_O hp.1, Int.toNat_natCast, ← hs, ← hv, e2, cV_some]
  · unfold hT
    rw [q0, q0, hv, up_s, up_j (by decide), Int.toNat_natCast]
    refine map_range_eq fun i hi => ?_
    have h1 : hSlot h ((u h 1).toNat + i) = h + 1 + 1 + 17 * (((u h 1).toNat + i) % 8) := rfl
    exact absT_eq fun a k b1 b2 => by rw [f2 a k (by omega), vo a k (by omega)]
  · rw [q0, hv, up_s]; omega
  · rw [q0, hv, up_s]; omega
  · rw [q0, hv, up_j (by decide)]; exact ⟨o0, o1⟩
theorem absM_o {m m' : Int → Int} (hA : nOk (absM m)) (hm : ∀ k : Int, 0 ≤ k → k < 417 → m' k = m k) : absM m' = absM m := by
  obtain ⟨⟨n0, n1⟩, ⟨-, a1⟩, -, b1⟩ := hA
  have n1' : m 4 ≤ 32 := n1
  have a1' : m (5 + 7) ≤ 6 := a1
  have b1' : m (19 + 7) ≤ 6 := b1
  unfold absM
  have e : pcM m' = pcM m := by
    unfold pcM
    funext i
    by_cases hi : i < 6
    · rw [if_pos hi, if_pos hi, hm 4 (by decide) (by decide)]
      exact cl_ext fun k k0 k1 => hm _ (by omega) (by omega)
    · rw [if_neg hi, if_neg hi]
  rw [bdM_o (hm 0 (by decide) (by decide)) (hm 1 (by decide) (by decide)) (fun k b c => hm k (by omega) (by omega)), hm 4 (by decide) (by decide), e, plM_o a1' (fun k b c => hm k (by omega) (by omega)), plM_o b1' (fun k b c => hm k (by omega) (by omega)), hm 2 (by decide) (by decide), hm 3 (by decide) (by decide)]
def rOk (g : PG) (u : PM) (t : Nat) : Prop := kTM g t ∧ KA g (t + 3) (2, 0, 3336) ∧ (0 ≤ u t 6 ∧ u t 6 ≤ 8) ∧ ∀ a ∈ hM u t, nOk a
theorem hM_nOk (hr : rOk g u t) {i : Nat} (hi : i < (u t 6).toNat) : nOk (absM (fun k => u (t + 3) (417 * (i : Int) + k))) := hr.2.2.2 _ (List.mem_map.mpr ⟨i, List.mem_range.mpr hi, rfl⟩)
end
