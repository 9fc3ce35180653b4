/-! ===== the class's answers about regions ===== -/
theorem sumI_one : ∀ n : Nat, sumI (fun _ => (1 : Int)) n = n
  | 0 => rfl
  | n + 1 => by
    simp only [sumI]
    rw [sumI_one n]
    omega
theorem sumI_two {f : Int → Int} {n : Nat} (h : ∀ i : Int, 0 ≤ i → i < n → 0 ≤ f i) {a b : Int} (ha : 0 ≤ a ∧ a < n) (hb : 0 ≤ b ∧ b < n) (hab : a ≠ b) : f a + f b ≤ sumI f n := by
  have h1 := sumI_set (f := f) (f' := setI f a 0) (n := n) ha.1 ha.2 (fun i _ _ hi => setI_o hi)
  have h2 := sumI_set (f := setI f a 0) (f' := setI (setI f a 0) b 0) (n := n) hb.1 hb.2 (fun i _ _ hi => setI_o hi)
  have h3 := sumI_le (f := fun _ => 0) (f' := setI (setI f a 0) b 0) (n := n) (fun i i0 i1 => by
    unfold setI
    split
    · exact Int.le_refl _
    · split
      · exact Int.le_refl _
      · exact h i i0 i1)
  rw [sumI_0] at h3
  rw [setI_s] at h1 h2
  rw [setI_o (fun q => hab q.symm)] at h2
  omega
theorem RegOf.sz_f {B : Bd} {f : Int → Int} (h : RegOf B f) {k : Int} (hk : eC B k) : rSz B f (f k) = rSz B f k := by
  unfold rSz
  rw [h.idem hk]
/-- neighbours -/
def nb (B : Bd) (k : Int) : Prop := ∃ d, adj B k d ∨ adj B d k
theorem rSz1 {B : Bd} (hB : bOk B) {f : Int → Int} (h : RegOf B f) {k : Int} (hk : eC B k) : rSz B f k = 1 ↔ ¬ nb B k := by
  have hkb := (eC_bd hB hk).1
  constructor
  · rintro e ⟨d, hd⟩
    have hd2 : eC B d ∧ f d = f k ∧ k ≠ d := by
      rcases hd with q | q
      · exact ⟨q.2.1, (h.2 _ _ q).symm, by obtain ⟨_, _, q⟩ := q; omega⟩
      · exact ⟨q.1, h.2 _ _ q, by obtain ⟨_, _, q⟩ := q; omega⟩
    have hdb := (eC_bd hB hd2.1).1
    have two := sumI_two (f := fun d => bI (eC B d ∧ f d = f k)) (n := 64) (fun i _ _ => (bI_bd _).1) hkb hdb hd2.2.2
    have b1 : bI (eC B k ∧ f k = f k) = 1 := bI_t ⟨hk, rfl⟩
    have b2 : bI (eC B d ∧ f d = f k) = 1 := bI_t ⟨hd2.1, hd2.2.1⟩
    have this : bI (eC B k ∧ f k = f k) + bI (eC B d ∧ f d = f k) ≤ sumI (fun d => bI (eC B d ∧ f d = f k)) 64 := two
    rw [b1, b2] at this
    unfold rSz at e
    omega
  · intro hn
    have key : ∀ d, eC B d → f d = f k → d = k := fun d hd e => by
      have hc := cn_symm (h.cn_of hd hk e)
      refine (hc (fun c => c = k) fun c e2 hce => ?_).mp rfl
      constructor
      · intro q
        rw [q] at hce
        exact absurd ⟨e2, Or.inl hce⟩ hn
      · intro q
        rw [q] at hce
        exact absurd ⟨c, Or.inr hce⟩ hn
    unfold rSz
    rw [sumI_congr (f := fun d => bI (eC B d ∧ f d = f k)) (f' := fun d => if d = k then 1 else 0) (fun d _ _ => by
      by_cases e : d = k
      · rw [if_pos e, bI_t (by rw [e]; exact ⟨hk, rfl⟩)]
      · rw [if_neg e, bI_f fun q => e (key d q.1 q.2)]), sumI_single (v := fun _ => 1), if_pos (show 0 ≤ k ∧ k < ((64 : Nat) : Int) by omega)]
def isDd (B : Bd) (v : Int) : Prop := ∃ f, RegOf B f ∧ v = sumI (fun k => bI (eC B k ∧ rSz B f k = 1)) 64
theorem isDd_u {B : Bd} {v v' : Int} (h : isDd B v) (h' : isDd B v') : v = v' := by
  obtain ⟨f, r, e⟩ := h
  obtain ⟨f', r', e'⟩ := h'
  rw [e, e']
  refine sumI_congr fun k _ _ => bI_congr ?_
  constructor
  · rintro ⟨a, b⟩
    exact ⟨a, by rw [rSz_uniq r' r a]; exact b⟩
  · rintro ⟨a, b⟩
    exact ⟨a, by rw [rSz_uniq r r' a]; exact b⟩
section
variable {g : PG} {u : PM} {t : Nat} {x y : Int}
theorem SV_sum {B : Bd} (hB : bOk B) {st h : Int → Int} (hS : SVf B u t st) : sumI (fun l => h (st l)) (u t 0).toNat = sumI (fun k => if eC B k ∧ st (u (t + 1) k) = k then h k else 0) 64 := by
  obtain ⟨n0, hR, hL, hl⟩ := hS
  have e1 : ∀ k : Int, 0 ≤ k → k < (64 : Nat) → (if eC B k ∧ st (u (t + 1) k) = k then h k else 0) = sumI (fun l => if st l = k then h k else 0) (u t 0).toNat := by
    intro k k0 k1
    have hk := hL k k0 k1
    by_cases q : eC B k ∧ st (u (t + 1) k) = k
    · rw [if_pos q.1] at hk
      rw [if_pos q, sumI_congr (f := fun l => if st l = k then h k else 0) (f' := fun l => if l = u (t + 1) k then h k else 0) (fun l l0 l1 => by
        have z := hl l l0 (by omega)
        by_cases e : st l = k
        · rw [if_pos e, if_pos (by rw [← z.2.1, e])]
        · rw [if_neg e, if_neg fun e2 => e (by rw [e2]; exact q.2)]), sumI_single (v := fun _ => h k), if_pos (by omega)]
    · rw [if_neg q, sumI_congr (f := fun l => if st l = k then h k else 0) (f' := fun _ => 0) (fun l l0 l1 => if_neg fun e => by
        have z := hl l l0 (by omega)
        rw [e] at z
        exact q ⟨z.1, by rw [z.2.1, e]⟩), sumI_0]
  rw [sumI_congr (n := 64) e1, sumI_swap]
  refine sumI_congr fun l l0 l1 => ?_
  have z := hl l l0 (by omega)
  have zb := (eC_bd hB z.1).1
  rw [sumI_congr (f := fun k => if st l = k then h k else 0) (f' := fun k => if k = st l then h k else 0) (fun k _ _ => by
    by_cases e : st l = k
    · rw [if_pos e, if_pos e.symm]
    · rw [if_neg e, if_neg fun q => e q.symm]), sumI_single (v := h), if_pos (show 0 ≤ st l ∧ st l < ((64 : Nat) : Int) by omega)]
theorem Rg_sizeOf (hk : kRg g t) (h64 : u t 0 ≤ 64) (l : Int) : call M_Rg_sizeOf [vA t, vI l] g u = some (0, vI (if 0 ≤ l ∧ l < u t 0 then u (t + 2) l else 0), g, u) := by
  rw [C_Rg_sizeOf]
  by_cases h0 : l < 0
  · rw [if_pos h0, if_neg (show ¬ (0 ≤ l ∧ l < u t 0) by omega)]
  · rw [if_neg h0, gd_O hk.1]
    by_cases h1 : l < u t 0
    · rw [if_pos h1, gd_O hk.1, gd_R hk.2.2.1 (by omega) (by omega), if_pos (show 0 ≤ l ∧ l < u t 0 by omega)]
    · rw [if_neg h1, if_neg (show ¬ (0 ≤ l ∧ l < u t 0) by omega)]
theorem Rg_sizeAt (hk : kRg g t) {B : Bd} (hB : bOk B) {st : Int → Int} (hS : SVf B u t st) (hin : bIn B x y) : call M_Rg_sizeAt [vA t, vI x, vI y] g u = some (0, vI (if eC B (8 * y + x) then rSz B (fun k => st (u (t + 1) k)) (8 * y + x) else 0), g, u) := by
  obtain ⟨n0, hR, hL, hl⟩ := hS
  have hx : (0 ≤ x ∧ x < 8) ∧ 0 ≤ y ∧ y < 8 := by
    obtain ⟨⟨c0, c1⟩, ⟨r0, r1⟩, -⟩ := hB
    obtain ⟨⟨z1, z2⟩, z3, z4⟩ := hin
    omega
  have hk2 := hL (8 * y + x) (by omega) (by omega)
  rw [C_Rg_sizeAt, if_neg (by omega), if_pos (by omega), if_neg (by omega), if_pos (by omega), gd_O hk.1, w8 hx.1.1 hx.1.2 hx.2.1 hx.2.2, gd_R hk.2.1 (by omega) (by omega), gd_O hk.1, Rg_sizeOf hk n0.2, cI_some]
  by_cases q : eC B (8 * y + x)
  · rw [if_pos q] at hk2
    rw [if_pos q, if_pos (show 0 ≤ u (t + 1) (8 * y + x) ∧ u (t + 1) (8 * y + x) < u t 0 from hk2), (hl _ hk2.1 hk2.2).2.2]
    exact congrArg (fun z => some (0, vI z, g, u)) (hR.sz_f q)
  · rw [if_neg q] at hk2
    rw [if_neg q, if_neg (show ¬ (0 ≤ u (t + 1) (8 * y + x) ∧ u (t + 1) (8 * y + x) < u t 0) by omega)]
theorem TD_survey (h : pOk2 g u t) (hr : kRg g (t + 243)) : ∃ v st, call M_Rg_survey [vA (t + 243), vA (t + 26 + 1)] g u = some (0, vN, g, v) ∧ SVf (absT u (t + 26)).bd v (t + 243) st ∧ FqT t u v ∧ absT v (t + 26) = absT u (t + 26) := by
  obtain ⟨v, st, e1, s1, f1⟩ := Rg_survey (g := g) (u := u) (t := t + 243) (p := t + 26 + 1) hr h.1.2.1.2.1 (by omega) h.2.1
  exact ⟨v, st, e1, s1, fun a k _ n2 => f1 a k (by omega), absT_eq fun a k b1 b2 => f1 a k (by omega)⟩
theorem SV_num {B : Bd} (hB : bOk B) {st : Int → Int} (hS : SVf B u t st) : u t 0 = rNum B (fun k => st (u (t + 1) k)) := by
  have := SV_sum (h := fun _ => 1) hB hS
  rw [sumI_one] at this
  have n0 := hS.1
  unfold rNum
  rw [show u t 0 = (((u t 0).toNat : Nat) : Int) by omega, this]
  rfl
theorem TD_regionCount (h : pOk2 g u t) (hr : kRg g (t + 243)) : ∃ v, isNum (absT u (t + 26)).bd v ∧ AqT g u t (call M_TD_regionCount [vA t] g u) 0 v := by
  obtain ⟨v, st, e1, s1, f1, -⟩ := TD_survey h hr
  refine ⟨v (t + 243) 0, ⟨_, s1.2.1, SV_num h.2.1 s1⟩, v, f1, ?_⟩
  rw [C_TD_regionCount]
  simp only [gd_O h.1.1, gd_O h.1.2.1.1, gd_O hr.1, e1, cV_some]
  rfl
theorem TD_largestRegion (h : pOk2 g u t) (hr : kRg g (t + 243)) : ∃ v, isLrg (absT u (t + 26)).bd v ∧ AqT g u t (call M_TD_largestRegion [vA t] g u) 0 v := by
  obtain ⟨v, st, e1, s1, f1, -⟩ := TD_survey h hr
  obtain ⟨n0, hR, hL, hl⟩ := s1
  have key : ∀ (d : Nat) (i m : Int), 0 ≤ i → i + d = v (t + 243) 0 → (0 ≤ m ∧ (∀ l : Int, 0 ≤ l → l < i → v (t + 243 + 2) l ≤ m) ∧ (m = 0 ∨ ∃ l : Int, (0 ≤ l ∧ l < v (t + 243) 0) ∧ v (t + 243 + 2) l = m)) → ∃ m', run M_TD_largestRegion 18 [vA t, vI m, vI i] [] g v = some (0, vI m', g, v) ∧ (0 ≤ m' ∧ (∀ l : Int, 0 ≤ l → l < v (t + 243) 0 → v (t + 243 + 2) l ≤ m') ∧ (m' = 0 ∨ ∃ l : Int, (0 ≤ l ∧ l < v (t + 243) 0) ∧ v (t + 243 + 2) l = m')) := by
    intro d
    induction d with
    | zero =>
      intro i m i0 i1 hm
      refine ⟨m, ?_, hm.1, fun l l0 l1 => hm.2.1 l l0 (by omega), hm.2.2⟩
      rw [R_TD_largestRegion_18, gd_O h.1.1, gd_O hr.1, if_neg (by omega)]
    | succ d ih =>
      intro i m i0 i1 hm
      have hx2 : max2 m (v (t + 243 + 2) i) = m ∧ v (t + 243 + 2) i ≤ m ∨ max2 m (v (t + 243 + 2) i) = v (t + 243 + 2) i ∧ m < v (t + 243 + 2) i := by unfold max2; split <;> omega
      obtain ⟨m', e2, h2⟩ := ih (i + 1) (max2 m (v (t + 243 + 2) i)) (by omega) (by omega) ⟨by have := hm.1; omega, fun l l0 l1 => by
        by_cases q : l < i
        · have := hm.2.1 l l0 q
          omega
        · obtain rfl : l = i := by omega
          omega, by
        rcases hx2 with ⟨q1, q2⟩ | ⟨q1, q2⟩
        · rw [q1]; exact hm.2.2
        · rw [q1]; exact Or.inr ⟨i, by omega, rfl⟩⟩
      refine ⟨m', ?_, h2⟩
      rw [R_TD_largestRegion_18]
      simp only [gd_O h.1.1, gd_O hr.1]
      rw [if_pos (by omega), Rg_sizeOf hr n0.2, cI_some, if_pos (show 0 ≤ i ∧ i < v (t + 243) 0 by omega), w_id (x := i + 1) (by omega) (by omega), e2]
  obtain ⟨m', e2, m0, m1, m2⟩ := key (v (t + 243) 0).toNat 0 0 (by decide) (by omega) ⟨by decide, fun l l0 l1 => by omega, Or.inl rfl⟩
  refine ⟨m', ⟨_, hR, m0, fun k hk => ?_, ?_⟩, v, f1, ?_⟩
  · have hkb := (eC_bd h.2.1 hk).1
    have hk2 := hL k hkb.1 hkb.2
    rw [if_pos hk] at hk2
    have := m1 _ hk2.1 hk2.2
    rw [(hl _ hk2.1 hk2.2).2.2] at this
    have e : rSz (absT u (t + 26)).bd (fun k => st (v (t + 243 + 1) k)) (st (v (t + 243 + 1) k)) = rSz (absT u (t + 26)).bd (fun k => st (v (t + 243 + 1) k)) k := hR.sz_f hk
    rw [e] at this
    exact this
  · rcases m2 with q | ⟨l, ⟨l0, l1⟩, q⟩
    · exact Or.inl q
    · obtain ⟨z1, z2, z3⟩ := hl l l0 l1
      exact Or.inr ⟨st l, z1, by rw [← z3, q]⟩
  · rw [C_TD_largestRegion]
    simp only [gd_O h.1.1, gd_O h.1.2.1.1, gd_O hr.1, e1, cV_some]
    rw [e2]
    rfl
theorem TD_regionSize (h : pOk2 g u t) (hr : kRg g (t + 243)) (x y : Int) : ∃ v, (bIn (absT u (t + 26)).bd x y → isSz (absT u (t + 26)).bd (8 * y + x) v) ∧ AqT g u t (call M_TD_regionSize [vA t, vI x, vI y] g u) (eCe (absT u (t + 26)).bd x y) v := by
  rw [C_TD_regionSize, gd_O h.1.1, TD_cell h.1]
  show ∃ v, (bIn (bdT u (t + 26 + 1)) x y → isSz (bdT u (t + 26 + 1)) (8 * y + x) v) ∧ AqT g u t _ (eCe (bdT u (t + 26 + 1)) x y) v
  unfold eCe
  by_cases hb : bIn (bdT u (t + 26 + 1)) x y
  · obtain ⟨v, st, e1, s1, f1, -⟩ := TD_survey h hr
    refine ⟨_, fun _ => ⟨_, s1.2.1, rfl⟩, v, f1, ?_⟩
    rw [if_pos hb, if_pos rfl, cV_some]
    simp only [gd_O h.1.1, gd_O h.1.2.1.1, gd_O hr.1, e1, cV_some]
    rw [Rg_sizeAt hr h.2.1 s1 hb, cI_some]
    rfl
  · refine ⟨0, fun q => absurd q hb, u, fun _ _ _ _ => rfl, ?_⟩
    rw [if_neg hb]
    rfl
theorem TD_isDead (h : pOk2 g u t) (hr : kRg g (t + 243)) (x y : Int) : ∃ v, (bIn (absT u (t + 26)).bd x y → (v = 0 ∨ v = 1) ∧ (v = 1 ↔ eC (absT u (t + 26)).bd (8 * y + x) ∧ ¬ nb (absT u (t + 26)).bd (8 * y + x))) ∧ AqT g u t (call M_TD_isDead [vA t, vI x, vI y] g u) (eCe (absT u (t + 26)).bd x y) v := by
  rw [C_TD_isDead, gd_O h.1.1, TD_cell h.1]
  show ∃ v, (bIn (bdT u (t + 26 + 1)) x y → (v = 0 ∨ v = 1) ∧ (v = 1 ↔ eC (bdT u (t + 26 + 1)) (8 * y + x) ∧ ¬ nb (bdT u (t + 26 + 1)) (8 * y + x))) ∧ AqT g u t _ (eCe (bdT u (t + 26 + 1)) x y) v
  unfold eCe
  by_cases hb : bIn (bdT u (t + 26 + 1)) x y
  · obtain ⟨v, st, e1, s1, f1, -⟩ := TD_survey h hr
    obtain ⟨z, hz⟩ : ∃ z : Int, z = (if eC (absT u (t + 26)).bd (8 * y + x) then rSz (absT u (t + 26)).bd (fun k => st (v (t + 243 + 1) k)) (8 * y + x) else 0) := ⟨_, rfl⟩
    refine ⟨if z = 1 then 1 else 0, fun _ => ⟨by split <;> omega, ?_⟩, v, f1, ?_⟩
    · change z = (if eC (bdT u (t + 26 + 1)) (8 * y + x) then rSz (bdT u (t + 26 + 1)) (fun k => st (v (t + 243 + 1) k)) (8 * y + x) else 0) at hz
      by_cases q : eC (bdT u (t + 26 + 1)) (8 * y + x)
      · rw [if_pos q] at hz
        have e := rSz1 h.2.1 s1.2.1 q
        change rSz (bdT u (t + 26 + 1)) (fun k => st (v (t + 243 + 1) k)) (8 * y + x) = 1 ↔ _ at e
        rw [← hz] at e
        constructor
        · intro w
          refine ⟨q, e.mp ?_⟩
          by_cases q2 : z = 1
          · exact q2
          · rw [if_neg q2] at w; omega
        · intro w
          rw [if_pos (e.mpr w.2)]
      · rw [if_neg q] at hz
        rw [if_neg (by omega)]
        constructor
        · intro w; omega
        · intro w; exact absurd w.1 q
    · rw [if_pos hb, if_pos rfl, cV_some]
      simp only [gd_O h.1.1, gd_O h.1.2.1.1, gd_O hr.1, e1, cV_some]
      rw [Rg_sizeAt hr h.2.1 s1 hb, cI_some, ← hz, if_pos trivial]
      by_cases q : z = 1
      · rw [if_pos q, if_pos q]
      · rw [if_neg q, if_neg q]
  · refine ⟨0, fun q => absurd q hb, u, fun _ _ _ _ => rfl, ?_⟩
    rw [if_neg hb]
    rfl
theorem TD_deadCells (h : pOk2 g u t) (hr : kRg g (t + 243)) : ∃ v, isDd (absT u (t + 26)).bd v ∧ AqT g u t (call M_TD_deadCells [vA t] g u) 0 v := by
  obtain ⟨v, st, e1, s1, f1, -⟩ := TD_survey h hr
  have hS := s1
  obtain ⟨n0, hR, hL, hl⟩ := s1
  have hs := loop_sum (F := fun a i => run M_TD_deadCells 18 [vA t, vI a, vI i] [] g v) (f := fun l => bI (v (t + 243 + 2) l = 1)) (n := v (t + 243) 0) (b := 1) (c := 0) n0.1 (by decide) (fun i _ _ => bI_bd _) (fun a i h0 h1 h2 h3 => by
    show run M_TD_deadCells 18 [vA t, vI a, vI i] [] g v = run M_TD_deadCells 18 [vA t, vI (a + bI (v (t + 243 + 2) i = 1)), vI (i + 1)] [] g v
    rw [R_TD_deadCells_18]
    simp only [gd_O h.1.1, gd_O hr.1]
    rw [if_pos h1, Rg_sizeOf hr n0.2, cI_some, if_pos (show 0 ≤ i ∧ i < v (t + 243) 0 by omega), w_id (x := i + 1) (by omega) (by omega), w_id (x := a + 1) (by omega) (by omega)]
    by_cases q : v (t + 243 + 2) i = 1
    · rw [if_pos q, bI_t q]
    · rw [if_neg q, bI_f q, Int.add_zero])
  refine ⟨sumI (fun l => bI (v (t + 243 + 2) l = 1)) (v (t + 243) 0).toNat, ⟨_, hR, ?_⟩, v, f1, ?_⟩
  · rw [sumI_congr (f := fun l => bI (v (t + 243 + 2) l = 1)) (f' := fun l => bI (rSz (absT u (t + 26)).bd (fun k => st (v (t + 243 + 1) k)) (st l) = 1)) (fun l l0 l1 => by rw [(hl l l0 (by omega)).2.2]), SV_sum (h := fun k => bI (rSz (absT u (t + 26)).bd (fun k => st (v (t + 243 + 1) k)) k = 1)) h.2.1 hS]
    refine sumI_congr fun k k0 k1 => ?_
    by_cases q : eC (absT u (t + 26)).bd k
    · by_cases q2 : st (v (t + 243 + 1) k) = k
      · rw [if_pos ⟨q, q2⟩]
        exact bI_congr ⟨fun z => ⟨q, z⟩, fun z => z.2⟩
      · rw [if_neg fun z => q2 z.2, bI_f]
        rintro ⟨_, z⟩
        have hf := (hR.1 k q).1
        have hfb : 0 ≤ st (v (t + 243 + 1) k) ∧ st (v (t + 243 + 1) k) < 64 := (eC_bd h.2.1 hf).1
        have two := sumI_two (f := fun d => bI (eC (absT u (t + 26)).bd d ∧ st (v (t + 243 + 1) d) = st (v (t + 243 + 1) k))) (n := 64) (fun i _ _ => (bI_bd _).1) ⟨k0, k1⟩ hfb (fun e => q2 e.symm)
        have b1 : bI (eC (absT u (t + 26)).bd k ∧ st (v (t + 243 + 1) k) = st (v (t + 243 + 1) k)) = 1 := bI_t ⟨q, rfl⟩
        have b2 : bI (eC (absT u (t + 26)).bd (st (v (t + 243 + 1) k)) ∧ st (v (t + 243 + 1) (st (v (t + 243 + 1) k))) = st (v (t + 243 + 1) k)) = 1 := bI_t ⟨hf, hR.idem q⟩
        have this : bI (eC (absT u (t + 26)).bd k ∧ st (v (t + 243 + 1) k) = st (v (t + 243 + 1) k)) + bI (eC (absT u (t + 26)).bd (st (v (t + 243 + 1) k)) ∧ st (v (t + 243 + 1) (st (v (t + 243 + 1) k))) = st (v (t + 243 + 1) k)) ≤ sumI (fun d => bI (eC (absT u (t + 26)).bd d ∧ st (v (t + 243 + 1) d) = st (v (t + 243 + 1) k))) 64 := two
        rw [b1, b2] at this
        have z' : sumI (fun d => bI (eC (absT u (t + 26)).bd d ∧ st (v (t + 243 + 1) d) = st (v (t + 243 + 1) k))) 64 = 1 := z
        omega
    · rw [if_neg fun z => q z.1, bI_f fun z => q z.1]
  · rw [C_TD_deadCells]
    simp only [gd_O h.1.1, gd_O h.1.2.1.1, gd_O hr.1, e1, cV_some]
    refine Eq.trans hs ?_
    show run M_TD_deadCells 18 [vA t, vI (0 + _), vI (v (t + 243) 0)] [] g v = _
    rw [R_TD_deadCells_18]
    simp only [gd_O h.1.1, gd_O hr.1]
    rw [if_neg (by omega), Int.zero_add]
    rfl
end
