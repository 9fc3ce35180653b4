/-! ===== the reference's answers about regions ===== -/
def isNum (B : Bd) (v : Int) : Prop := ∃ f, RegOf B f ∧ v = rNum B f
def isSz (B : Bd) (k v : Int) : Prop := ∃ f, RegOf B f ∧ v = if eC B k then rSz B f k else 0
def isLrg (B : Bd) (v : Int) : Prop := ∃ f, RegOf B f ∧ 0 ≤ v ∧ (∀ k, eC B k → rSz B f k ≤ v) ∧ (v = 0 ∨ ∃ k, eC B k ∧ rSz B f k = v)
theorem isNum_u {B : Bd} {v v' : Int} (h : isNum B v) (h' : isNum B v') : v = v' := by
  obtain ⟨f, r, e⟩ := h
  obtain ⟨f', r', e'⟩ := h'
  rw [e, e', rNum_uniq r r']
theorem isSz_u {B : Bd} {k v v' : Int} (h : isSz B k v) (h' : isSz B k v') : v = v' := by
  obtain ⟨f, r, e⟩ := h
  obtain ⟨f', r', e'⟩ := h'
  rw [e, e']
  by_cases q : eC B k
  · rw [if_pos q, if_pos q, rSz_uniq r r' q]
  · rw [if_neg q, if_neg q]
theorem isLrg_le {B : Bd} {v v' : Int} (h : isLrg B v) (h' : isLrg B v') : v ≤ v' := by
  obtain ⟨f, r, _, _, e⟩ := h
  obtain ⟨f', r', z, a, _⟩ := h'
  rcases e with e | ⟨k, hk, e⟩
  · omega
  · have := a k hk
    rw [rSz_uniq r' r hk, e] at this
    exact this
theorem isLrg_u {B : Bd} {v v' : Int} (h : isLrg B v) (h' : isLrg B v') : v = v' := Int.le_antisymm (isLrg_le h h') (isLrg_le h' h)
section
variable {g : PG} {u : PM} {t : Nat} {x y : Int}
theorem TM_sizeAt (hk : kTM g t) (ho : mOk (u (t + 1))) (h11 : KA g (t + 11) (2, 0, 64)) (hin : bIn (bdM (u (t + 1))) x y) : call M_TM_sizeAt [vA t, vI x, vI y] g u = some (0, vI (if eC (bdM (u (t + 1))) (8 * y + x) then rSz (bdM (u (t + 1))) (u (t + 11)) (8 * y + x) else 0), g, u) := by
  have hC := ho.1
  have hR := ho.2.1
  have hb := bIn_bd ho hin
  have E : ∀ i j : Int, bIn (bdM (u (t + 1))) i j → (u (t + 1) (33 + (8 * j + i)) = 0 ↔ eC (bdM (u (t + 1))) (8 * j + i)) := fun i j h => by
    have hbi := bIn_bd ho h
    have hc := ho.2.2.1 (8 * j + i) (by omega) (by omega)
    rw [eC_xy (by omega) (by omega), bdM_cell ho h]
    exact (enc_eq hc.1).1.symm
  have row : ∀ (a v : Int), 0 ≤ a → a ≤ 100 → 0 ≤ v → v < u (t + 1) 1 → run M_TM_sizeAt 19 [vA t, vI x, vI y, vI a, vI v, vI 0] [] g u = run M_TM_sizeAt 5 [vA t, vI x, vI y, vI (a + sumI (fun i => bI (eC (bdM (u (t + 1))) (8 * v + i) ∧ u (t + 11) (8 * v + i) = u (t + 11) (8 * y + x))) (u (t + 1) 0).toNat), vI (v + 1), vN] [] g u := by
    intro a v ha ha2 hv hv2
    have h := loop_sum (F := fun a i => run M_TM_sizeAt 19 [vA t, vI x, vI y, vI a, vI v, vI i] [] g u) (f := fun i => bI (eC (bdM (u (t + 1))) (8 * v + i) ∧ u (t + 11) (8 * v + i) = u (t + 11) (8 * y + x))) (n := u (t + 1) 0) (b := 1) (c := a) hC.1 (by decide) (fun i _ _ => bI_bd _) (fun c i h0 h1 h2 h3 => by
      show run M_TM_sizeAt 19 [vA t, vI x, vI y, vI c, vI v, vI i] [] g u = run M_TM_sizeAt 19 [vA t, vI x, vI y, vI (c + bI (eC (bdM (u (t + 1))) (8 * v + i) ∧ u (t + 11) (8 * v + i) = u (t + 11) (8 * y + x))), vI v, vI (i + 1)] [] g u
      have hin2 : bIn (bdM (u (t + 1))) i v := ⟨⟨h0, h1⟩, hv, hv2⟩
      have e := E i v hin2
      rw [R_TM_sizeAt_19, gd_O hk.1, gd_R hk.2.1 (by decide) (by decide), if_pos h1, gd_O hk.1, TM_cell hk ho hin2, cI_some, w_id (x := i + 1) (by omega) (by omega), w_id (x := c + 1) (by omega) (by omega)]
      by_cases q : u (t + 1) (33 + (8 * v + i)) = 0
      · rw [if_pos q, gd_O hk.1, TM_at (by omega) (by omega), cI_some, gd_R h11 (by omega) (by omega), gd_O hk.1, TM_at (by omega) (by omega), cI_some, gd_R h11 (by omega) (by omega)]
        by_cases q2 : u (t + 11) (8 * v + i) = u (t + 11) (8 * y + x)
        · rw [if_pos q2, bI_t (p := eC (bdM (u (t + 1))) (8 * v + i) ∧ u (t + 11) (8 * v + i) = u (t + 11) (8 * y + x)) ⟨e.mp q, q2⟩]
        · rw [if_neg q2, bI_f (p := eC (bdM (u (t + 1))) (8 * v + i) ∧ u (t + 11) (8 * v + i) = u (t + 11) (8 * y + x)) fun z => q2 z.2, Int.add_zero]
      · rw [if_neg q, bI_f (p := eC (bdM (u (t + 1))) (8 * v + i) ∧ u (t + 11) (8 * v + i) = u (t + 11) (8 * y + x)) fun z => q (e.mpr z.1), Int.add_zero])
    refine Eq.trans h ?_
    show run M_TM_sizeAt 19 [vA t, vI x, vI y, vI (a + _), vI v, vI (u (t + 1) 0)] [] g u = _
    rw [R_TM_sizeAt_19, gd_O hk.1, gd_R hk.2.1 (by decide) (by decide), if_neg (by omega), w_id (x := v + 1) (by omega) (by omega)]
  have h := loop_sum (F := fun a i => run M_TM_sizeAt 5 [vA t, vI x, vI y, vI a, vI i, vN] [] g u) (f := fun v => sumI (fun i => bI (eC (bdM (u (t + 1))) (8 * v + i) ∧ u (t + 11) (8 * v + i) = u (t + 11) (8 * y + x))) (u (t + 1) 0).toNat) (n := u (t + 1) 1) (b := 8) (c := 0) hR.1 (by decide) (fun i _ _ => by
    have := sumI_bd (f := fun j => bI (eC (bdM (u (t + 1))) (8 * i + j) ∧ u (t + 11) (8 * i + j) = u (t + 11) (8 * y + x))) (n := (u (t + 1) 0).toNat) (b := 1) fun j _ _ => bI_bd _
    omega) (fun a i h0 h1 h2 h3 => by
    show run M_TM_sizeAt 5 [vA t, vI x, vI y, vI a, vI i, vN] [] g u = _
    rw [R_TM_sizeAt_5, gd_O hk.1, gd_R hk.2.1 (by decide) (by decide), if_pos h1]
    exact row a i h2 (by omega) h0 h1)
  rw [C_TM_sizeAt]
  refine Eq.trans h ?_
  have hs := sum_rows (B := bdM (u (t + 1))) (mOk_b ho) (h := fun k => bI (eC (bdM (u (t + 1))) k ∧ u (t + 11) k = u (t + 11) (8 * y + x))) (fun k k0 k1 hn => bI_f fun z => hn (eC_bd (mOk_b ho) z.1).2)
  have hs' : sumI (fun v => sumI (fun i => bI (eC (bdM (u (t + 1))) (8 * v + i) ∧ u (t + 11) (8 * v + i) = u (t + 11) (8 * y + x))) (u (t + 1) 0).toNat) (u (t + 1) 1).toNat = rSz (bdM (u (t + 1))) (u (t + 11)) (8 * y + x) := hs
  rw [hs', R_TM_sizeAt_5, gd_O hk.1, gd_R hk.2.1 (by decide) (by decide), if_neg (by omega), gd_O hk.1, TM_cell hk ho hin, cI_some, Int.zero_add]
  by_cases q : u (t + 1) (33 + (8 * y + x)) = 0
  · rw [if_pos q, if_pos ((E x y hin).mp q)]
  · rw [if_neg q, if_neg fun z => q ((E x y hin).mpr z)]
theorem TM_regions (hk : kTM g t) (ho : mOk (u (t + 1))) (h11 : KA g (t + 11) (2, 0, 64)) : ∃ u' v, call M_TM_regions [vA t] g u = some (0, vI v, g, u') ∧ isNum (bdM (u (t + 1))) v ∧ (0 ≤ v ∧ v ≤ 64) ∧ ∀ (a : Nat) (k : Int), a ≠ t + 11 → u' a k = u a k := by
  obtain ⟨w1, e1, r1, f1⟩ := TM_findRegions (g := g) hk ho h11
  have hs1 : w1 (t + 1) = u (t + 1) := funext fun k => f1 _ k (by omega)
  refine ⟨w1, rNum (bdM (u (t + 1))) (w1 (t + 11)), ?_, ⟨_, r1, rfl⟩, rNum_bd _ _, f1⟩
  rw [C_TM_regions, gd_O hk.1, e1, cV_some]
  rw [← hs1] at ho ⊢
  have hC := ho.1
  have hR := ho.2.1
  have E : ∀ i j : Int, bIn (bdM (w1 (t + 1))) i j → (w1 (t + 1) (33 + (8 * j + i)) = 0 ↔ eC (bdM (w1 (t + 1))) (8 * j + i)) := fun i j h => by
    have hbi := bIn_bd ho h
    have hc := ho.2.2.1 (8 * j + i) (by omega) (by omega)
    rw [eC_xy (by omega) (by omega), bdM_cell ho h]
    exact (enc_eq hc.1).1.symm
  have row : ∀ (a v : Int), 0 ≤ a → a ≤ 100 → 0 ≤ v → v < w1 (t + 1) 1 → run M_TM_regions 20 [vA t, vI a, vI v, vI 0] [] g w1 = run M_TM_regions 8 [vA t, vI (a + sumI (fun i => bI (eC (bdM (w1 (t + 1))) (8 * v + i) ∧ w1 (t + 11) (8 * v + i) = 8 * v + i)) (w1 (t + 1) 0).toNat), vI (v + 1), vN] [] g w1 := by
    intro a v ha ha2 hv hv2
    have h := loop_sum (F := fun a i => run M_TM_regions 20 [vA t, vI a, vI v, vI i] [] g w1) (f := fun i => bI (eC (bdM (w1 (t + 1))) (8 * v + i) ∧ w1 (t + 11) (8 * v + i) = 8 * v + i)) (n := w1 (t + 1) 0) (b := 1) (c := a) hC.1 (by decide) (fun i _ _ => bI_bd _) (fun c i h0 h1 h2 h3 => by
      show run M_TM_regions 20 [vA t, vI c, vI v, vI i] [] g w1 = run M_TM_regions 20 [vA t, vI (c + bI (eC (bdM (w1 (t + 1))) (8 * v + i) ∧ w1 (t + 11) (8 * v + i) = 8 * v + i)), vI v, vI (i + 1)] [] g w1
      have hin2 : bIn (bdM (w1 (t + 1))) i v := ⟨⟨h0, h1⟩, hv, hv2⟩
      have e := E i v hin2
      rw [R_TM_regions_20, gd_O hk.1, gd_R hk.2.1 (by decide) (by decide), if_pos h1, gd_O hk.1, TM_cell hk ho hin2, cI_some, w_id (x := i + 1) (by omega) (by omega), w_id (x := c + 1) (by omega) (by omega)]
      by_cases q : w1 (t + 1) (33 + (8 * v + i)) = 0
      · rw [if_pos q, gd_O hk.1, TM_at (by omega) (by omega), cI_some, gd_R h11 (by omega) (by omega), TM_at (by omega) (by omega), cI_some]
        by_cases q2 : w1 (t + 11) (8 * v + i) = 8 * v + i
        · rw [if_pos q2, bI_t (p := eC (bdM (w1 (t + 1))) (8 * v + i) ∧ w1 (t + 11) (8 * v + i) = 8 * v + i) ⟨e.mp q, q2⟩]
        · rw [if_neg q2, bI_f (p := eC (bdM (w1 (t + 1))) (8 * v + i) ∧ w1 (t + 11) (8 * v + i) = 8 * v + i) fun z => q2 z.2, Int.add_zero]
      · rw [if_neg q, bI_f (p := eC (bdM (w1 (t + 1))) (8 * v + i) ∧ w1 (t + 11) (8 * v + i) = 8 * v + i) fun z => q (e.mpr z.1), Int.add_zero])
    refine Eq.trans h ?_
    show run M_TM_regions 20 [vA t, vI (a + _), vI v, vI (w1 (t + 1) 0)] [] g w1 = _
    rw [R_TM_regions_20, gd_O hk.1, gd_R hk.2.1 (by decide) (by decide), if_neg (by omega), w_id (x := v + 1) (by omega) (by omega)]
  have h := loop_sum (F := fun a i => run M_TM_regions 8 [vA t, vI a, vI i, vN] [] g w1) (f := fun v => sumI (fun i => bI (eC (bdM (w1 (t + 1))) (8 * v + i) ∧ w1 (t + 11) (8 * v + i) = 8 * v + i)) (w1 (t + 1) 0).toNat) (n := w1 (t + 1) 1) (b := 8) (c := 0) hR.1 (by decide) (fun i _ _ => by
    have := sumI_bd (f := fun j => bI (eC (bdM (w1 (t + 1))) (8 * i + j) ∧ w1 (t + 11) (8 * i + j) = 8 * i + j)) (n := (w1 (t + 1) 0).toNat) (b := 1) fun j _ _ => bI_bd _
    omega) (fun a i h0 h1 h2 h3 => by
    show run M_TM_regions 8 [vA t, vI a, vI i, vN] [] g w1 = _
    rw [R_TM_regions_8, gd_O hk.1, gd_R hk.2.1 (by decide) (by decide), if_pos h1]
    exact row a i h2 (by omega) h0 h1)
  refine Eq.trans h ?_
  have hs' : sumI (fun v => sumI (fun i => bI (eC (bdM (w1 (t + 1))) (8 * v + i) ∧ w1 (t + 11) (8 * v + i) = 8 * v + i)) (w1 (t + 1) 0).toNat) (w1 (t + 1) 1).toNat = rNum (bdM (w1 (t + 1))) (w1 (t + 11)) := sum_rows (B := bdM (w1 (t + 1))) (mOk_b ho) (h := fun k => bI (eC (bdM (w1 (t + 1))) k ∧ w1 (t + 11) k = k)) (fun k k0 k1 hn => bI_f fun z => hn (eC_bd (mOk_b ho) z.1).2)
  rw [hs', R_TM_regions_8, gd_O hk.1, gd_R hk.2.1 (by decide) (by decide), if_neg (by omega), Int.zero_add]
theorem F11q {u' : PM} (h : ∀ (a : Nat) (k : Int), a ≠ t + 11 → u' a k = u a k) : FqM t u u' := fun a k _ _ _ _ h5 _ => h a k h5
theorem FqM.tr {v x : PM} (h : FqM t u v) (h' : FqM t v x) : FqM t u x := fun a k h1 h2 h3 h4 h5 h6 => (h' a k h1 h2 h3 h4 h5 h6).trans (h a k h1 h2 h3 h4 h5 h6)
theorem FqM7 (u : PM) (t : Nat) (v : Int) : FqM t u (up u t 7 v) := fun a k n1 _ _ _ _ _ => up_n (by omega)
theorem TM_regionCount (hk : kTM g t) (ho : mOk (u (t + 1))) (h11 : KA g (t + 11) (2, 0, 64)) : ∃ v, isNum (bdM (u (t + 1))) v ∧ AqM g u t (call M_TM_regionCount [vA t] g u) 0 v := by
  obtain ⟨u', v, e1, n1, -, f1⟩ := TM_regions (g := g) hk ho h11
  refine ⟨v, n1, up u' t 7 0, ?_, up_s .., (F11q f1).tr (FqM7 _ _ _)⟩
  rw [C_TM_regionCount, gd_O hk.1, e1, cI_some, gd_O hk.1, TM_told hk, cI_some]
theorem TM_lg25 (hk : kTM g t) (ho : mOk (u (t + 1))) (h11 : KA g (t + 11) (2, 0, 64)) {y : Int} (hy : 0 ≤ y ∧ y < u (t + 1) 1) : ∀ (d : Nat) (x m : Int), 0 ≤ x → x + d = u (t + 1) 0 → (0 ≤ m ∧ (∀ k, eC (bdM (u (t + 1))) k → k < 8 * y + x → rSz (bdM (u (t + 1))) (u (t + 11)) k ≤ m) ∧ (m = 0 ∨ ∃ k, eC (bdM (u (t + 1))) k ∧ rSz (bdM (u (t + 1))) (u (t + 11)) k = m)) →
    ∃ m', run M_TM_largestRegion 25 [vA t, vI m, vI y, vI x] [] g u = run M_TM_largestRegion 13 [vA t, vI m', vI (y + 1), vN] [] g u ∧ (0 ≤ m' ∧ (∀ k, eC (bdM (u (t + 1))) k → k < 8 * (y + 1) → rSz (bdM (u (t + 1))) (u (t + 11)) k ≤ m') ∧ (m' = 0 ∨ ∃ k, eC (bdM (u (t + 1))) k ∧ rSz (bdM (u (t + 1))) (u (t + 11)) k = m')) := by
  have hC := ho.1
  have hR := ho.2.1
  intro d
  induction d with
  | zero =>
    intro x m hx hd hm
    obtain ⟨m0, m1, m2⟩ := hm
    refine ⟨m, ?_, m0, fun k hk2 hlt => m1 k hk2 ?_, m2⟩
    · rw [R_TM_largestRegion_25, gd_O hk.1, gd_R hk.2.1 (by decide) (by decide), if_neg (by omega), w_id (x := y + 1) (by omega) (by omega)]
    · have hi := (eC_bd (mOk_b ho) hk2).2.1.2
      have hi' : k % 8 < u (t + 1) 0 := hi
      omega
  | succ d ih =>
    intro x m hx hd hm
    obtain ⟨m0, m1, m2⟩ := hm
    have hin : bIn (bdM (u (t + 1))) x y := ⟨⟨hx, by show x < u (t + 1) 0; omega⟩, hy⟩
    have hb := rSz_bd (bdM (u (t + 1))) (u (t + 11)) (8 * y + x)
    obtain ⟨z, hz⟩ : ∃ z, z = (if eC (bdM (u (t + 1))) (8 * y + x) then rSz (bdM (u (t + 1))) (u (t + 11)) (8 * y + x) else 0) := ⟨_, rfl⟩
    have hx2 : max2 m z = m ∧ z ≤ m ∨ max2 m z = z ∧ m < z := by unfold max2; split <;> omega
    obtain ⟨m', e1, h1⟩ := ih (x + 1) (max2 m z) (by omega) (by omega) ⟨by omega, fun k hk2 hlt => by
      by_cases q : k < 8 * y + x
      · have := m1 k hk2 q
        omega
      · obtain rfl : k = 8 * y + x := by omega
        rw [if_pos hk2] at hz
        omega, by
      rcases hx2 with ⟨q1, q2⟩ | ⟨q1, q2⟩
      · rw [q1]; exact m2
      · by_cases q : eC (bdM (u (t + 1))) (8 * y + x)
        · rw [if_pos q] at hz
          exact Or.inr ⟨_, q, by rw [q1, hz]⟩
        · rw [if_neg q] at hz
          omega⟩
    refine ⟨m', ?_, h1⟩
    rw [R_TM_largestRegion_25, gd_O hk.1, gd_R hk.2.1 (by decide) (by decide), if_pos (by omega), gd_O hk.1, TM_sizeAt hk ho h11 hin, cI_some, w_id (x := x + 1) (by omega) (by omega), ← hz, e1]
theorem TM_largestRegion (hk : kTM g t) (ho : mOk (u (t + 1))) (h11 : KA g (t + 11) (2, 0, 64)) : ∃ v, isLrg (bdM (u (t + 1))) v ∧ AqM g u t (call M_TM_largestRegion [vA t] g u) 0 v := by
  obtain ⟨w1, e1, r1, f1⟩ := TM_findRegions (g := g) (u := up u t 7 0) hk (by rw [up7s]; exact ho) h11
  have hs1 : w1 (t + 1) = u (t + 1) := (funext fun k => f1 _ k (by omega)).trans (up7s ..)
  rw [up7s] at r1
  have key : ∀ (d : Nat) (y m : Int), 0 ≤ y → y + d = w1 (t + 1) 1 → (0 ≤ m ∧ (∀ k, eC (bdM (w1 (t + 1))) k → k < 8 * y → rSz (bdM (w1 (t + 1))) (w1 (t + 11)) k ≤ m) ∧ (m = 0 ∨ ∃ k, eC (bdM (w1 (t + 1))) k ∧ rSz (bdM (w1 (t + 1))) (w1 (t + 11)) k = m)) →
      ∃ m', run M_TM_largestRegion 13 [vA t, vI m, vI y, vN] [] g w1 = some (0, vI m', g, w1) ∧ (0 ≤ m' ∧ (∀ k, eC (bdM (w1 (t + 1))) k → rSz (bdM (w1 (t + 1))) (w1 (t + 11)) k ≤ m') ∧ (m' = 0 ∨ ∃ k, eC (bdM (w1 (t + 1))) k ∧ rSz (bdM (w1 (t + 1))) (w1 (t + 11)) k = m')) := by
    have ho1 : mOk (w1 (t + 1)) := by rw [hs1]; exact ho
    intro d
    induction d with
    | zero =>
      intro y m hy hd hm
      obtain ⟨m0, m1, m2⟩ := hm
      refine ⟨m, ?_, m0, fun k hk2 => m1 k hk2 ?_, m2⟩
      · rw [R_TM_largestRegion_13, gd_O hk.1, gd_R hk.2.1 (by decide) (by decide), if_neg (by omega)]
      · have hi := (eC_bd (mOk_b ho1) hk2).2.2.2
        have hi' : k / 8 < w1 (t + 1) 1 := hi
        omega
    | succ d ih =>
      intro y m hy hd hm
      obtain ⟨m1, e2, h2⟩ := TM_lg25 (g := g) hk ho1 h11 (y := y) ⟨hy, by omega⟩ (w1 (t + 1) 0).toNat 0 m (by decide) (by have := ho1.1; omega) (by rw [Int.add_zero]; exact hm)
      obtain ⟨m2, e3, h3⟩ := ih (y + 1) m1 (by omega) (by omega) h2
      refine ⟨m2, ?_, h3⟩
      rw [R_TM_largestRegion_13, gd_O hk.1, gd_R hk.2.1 (by decide) (by decide), if_pos (by omega), e2, e3]
  obtain ⟨m', e2, h0, h1, h2⟩ := key (w1 (t + 1) 1).toNat 0 0 (by decide) (by rw [hs1]; have := ho.2.1; omega) ⟨by decide, fun k hk2 hlt => by have := (eC_bd (by rw [hs1]; exact mOk_b ho) hk2).1; omega, Or.inl rfl⟩
  rw [hs1] at h1 h2
  refine ⟨m', ⟨_, r1, h0, h1, h2⟩, w1, ?_, by rw [f1 t 7 (by omega), up_s], (FqM7 _ _ _).tr (F11q f1)⟩
  rw [C_TM_largestRegion]
  simp only [gd_O hk.1]
  rw [e1, cV_some, e2]
theorem TM_regionSize (hk : kTM g t) (ho : mOk (u (t + 1))) (h11 : KA g (t + 11) (2, 0, 64)) (x y : Int) : ∃ v, (bIn (bdM (u (t + 1))) x y → isSz (bdM (u (t + 1))) (8 * y + x) v) ∧ AqM g u t (call M_TM_regionSize [vA t, vI x, vI y] g u) (bI (¬ bIn (bdM (u (t + 1))) x y)) (if bIn (bdM (u (t + 1))) x y then v else 0) := by
  rw [C_TM_regionSize, gd_O hk.1, TM_isInside hk ho, cI_some]
  by_cases h : bIn (bdM (u (t + 1))) x y
  · obtain ⟨w1, e1, r1, f1⟩ := TM_findRegions (g := g) (u := up u t 7 0) hk (by rw [up7s]; exact ho) h11
    have hs1 : w1 (t + 1) = u (t + 1) := (funext fun k => f1 _ k (by omega)).trans (up7s ..)
    rw [up7s] at r1
    refine ⟨_, fun _ => ⟨_, r1, rfl⟩, w1, ?_, by rw [f1 t 7 (by omega), up_s, bI_f (p := ¬ bIn (bdM (u (t + 1))) x y) fun q => q h], (FqM7 _ _ _).tr (F11q f1)⟩
    rw [bI_t h, if_neg (by decide), R_TM_regionSize_15, gd_O hk.1, TM_fails hk, cI_some, show fC 0 0 0 = 0 from rfl, bI_f (by decide), if_pos rfl, gd_O hk.1, e1, cV_some, gd_O hk.1, TM_sizeAt hk (by rw [hs1]; exact ho) h11 (by rw [hs1]; exact h), cI_some, if_pos h, hs1]
  · refine ⟨0, fun q => absurd q h, up u t 7 1, ?_, by rw [up_s, bI_t h], FqM7 _ _ _⟩
    rw [bI_f h, if_pos rfl, R_TM_regionSize_15, gd_O hk.1, TM_fails hk, cI_some, show fC 1 0 0 = 1 from rfl, bI_t (by decide), if_neg (by decide), if_neg h]
end
