/-! ===== the reference's regions ===== -/
def RJ (B : Bd) (f : Int → Int) : Prop := (∀ k, eC B k → eC B (f k) ∧ f k ≤ k ∧ cn B k (f k)) ∧ ∀ k : Int, 0 ≤ k → k < 64 → 0 ≤ f k
def setJ (f : Int → Int) (a b : Int) : Int → Int := fun k => if k = b then min2 (f a) (f b) else if k = a then min2 (f a) (f b) else f k
theorem min2_or (x y : Int) : (min2 x y = x ∧ x ≤ y) ∨ (min2 x y = y ∧ y < x) := by
  unfold min2
  split <;> omega
theorem RJ_set {B : Bd} (hB : bOk B) {f : Int → Int} {a b : Int} (h : RJ B f) (hab : adj B a b) : RJ B (setJ f a b) ∧ (f a ≠ f b → sumI (setJ f a b) 64 < sumI f 64) ∧ (f a = f b → ∀ k, setJ f a b k = f k) := by
  obtain ⟨h1, h2⟩ := h
  have ha := h1 a hab.1
  have hb := h1 b hab.2.1
  have hc := cn_adj hab
  have hlt : a < b := by
    obtain ⟨-, -, q⟩ := hab
    omega
  have hm : eC B (min2 (f a) (f b)) ∧ cn B a (min2 (f a) (f b)) := by
    rcases min2_or (f a) (f b) with ⟨e, -⟩ | ⟨e, -⟩
    · rw [e]; exact ⟨ha.1, ha.2.2⟩
    · rw [e]; exact ⟨hb.1, cn_trans hc hb.2.2⟩
  have hle : min2 (f a) (f b) ≤ f a ∧ min2 (f a) (f b) ≤ f b := by
    rcases min2_or (f a) (f b) with ⟨e, l⟩ | ⟨e, l⟩ <;> omega
  have ple : ∀ k, setJ f a b k ≤ f k := by
    intro k
    unfold setJ
    by_cases e : k = b
    · rw [if_pos e, e]; exact hle.2
    · rw [if_neg e]
      by_cases e2 : k = a
      · rw [if_pos e2, e2]; exact hle.1
      · rw [if_neg e2]; exact Int.le_refl _
  have nn : ∀ k, eC B k → 0 ≤ k := fun k hk => (eC_bd hB hk).1.1
  refine ⟨⟨fun k hk => ?_, fun k k0 k1 => ?_⟩, fun hne => ?_, fun he k => ?_⟩
  · unfold setJ
    by_cases e : k = b
    · rw [if_pos e, e]
      exact ⟨hm.1, by omega, cn_trans (cn_symm hc) hm.2⟩
    · rw [if_neg e]
      by_cases e2 : k = a
      · rw [if_pos e2, e2]
        exact ⟨hm.1, by omega, hm.2⟩
      · rw [if_neg e2]
        exact h1 k hk
  · unfold setJ
    by_cases e : k = b
    · rw [if_pos e]; exact nn _ hm.1
    · rw [if_neg e]
      by_cases e2 : k = a
      · rw [if_pos e2]; exact nn _ hm.1
      · rw [if_neg e2]; exact h2 k k0 k1
  · have a0 := nn a hab.1
    have b0 := nn b hab.2.1
    have b63 := (eC_bd hB hab.2.1).1
    refine sumI_lt (fun i _ _ => ple i) ?_
    rcases min2_or (f a) (f b) with ⟨e, l⟩ | ⟨e, l⟩
    · refine ⟨b, by omega, ?_⟩
      unfold setJ
      rw [if_pos rfl]
      omega
    · refine ⟨a, by omega, ?_⟩
      unfold setJ
      rw [if_neg (by omega), if_pos rfl]
      omega
  · unfold setJ
    by_cases e : k = b
    · rw [if_pos e, e, ← he]
      unfold min2
      split <;> rfl
    · rw [if_neg e]
      by_cases e2 : k = a
      · rw [if_pos e2, e2, ← he]
        unfold min2
        split <;> rfl
      · rw [if_neg e2]
def frK (B : Bd) (f0 : Int → Int) (p c : Int) (f : Int → Int) : Prop := RJ B f ∧ ((c = 0 ∧ (∀ k, f k = f0 k) ∧ ∀ a b, adj B a b → a < p → f0 a = f0 b) ∨ (c = 1 ∧ sumI f 64 < sumI f0 64))
/-- what joins did -/
def jnK (B : Bd) (a b : Int) (f f' : Int → Int) (c : Int) : Prop := RJ B f' ∧ ((c = 0 ∧ (∀ k, f' k = f k) ∧ (adj B a b → f a = f b)) ∨ (c = 1 ∧ sumI f' 64 < sumI f 64))
section
variable {g : PG} {u : PM} {t : Nat} {x y : Int}
theorem TM_joinsG (hk : kTM g t) (ho : mOk (u (t + 1))) (h11 : KA g (t + 11) (2, 0, 64)) {x' y' s : Int} (hin : bIn (bdM (u (t + 1))) x y) (hx : min2 x x' = x) (hy : min2 y y' = y) (hs : (if y = y' then (0 : Int) else 1) = s) (hA : adj (bdM (u (t + 1))) (8 * y + x) (8 * y' + x') ↔ bCell (bdM (u (t + 1))) x y = -1 ∧ bCell (bdM (u (t + 1))) x' y' = -1 ∧ bStrap (bdM (u (t + 1))) x y s = 0) (hJ : RJ (bdM (u (t + 1))) (u (t + 11))) :
    ∃ u' c, call M_TM_joins [vA t, vI x, vI y, vI x', vI y'] g u = some (0, vI c, g, u') ∧ jnK (bdM (u (t + 1))) (8 * y + x) (8 * y' + x') (u (t + 11)) (u' (t + 11)) c ∧ ∀ (a : Nat) (k : Int), a ≠ t + 11 → u' a k = u a k := by
  have hb := bIn_bd ho hin
  have no : ¬ adj (bdM (u (t + 1))) (8 * y + x) (8 * y' + x') → ∃ u' c, some (0, vI 0, g, u) = some (0, vI c, g, u') ∧ jnK (bdM (u (t + 1))) (8 * y + x) (8 * y' + x') (u (t + 11)) (u' (t + 11)) c ∧ ∀ (a : Nat) (k : Int), a ≠ t + 11 → u' a k = u a k := fun h => ⟨u, 0, rfl, ⟨hJ, Or.inl ⟨rfl, fun _ => rfl, fun q => absurd q h⟩⟩, fun _ _ _ => rfl⟩
  rw [C_TM_joins, gd_O hk.1, TM_isEmpty hk ho, cI_some]
  by_cases c1 : bCell (bdM (u (t + 1))) x y = -1
  · rw [bI_t c1, if_neg (by decide), gd_O hk.1, TM_isEmpty hk ho, cI_some]
    by_cases c2 : bCell (bdM (u (t + 1))) x' y' = -1
    · rw [bI_t c2, if_neg (by decide), gd_O hk.1, TM_isStrapped hk ho (by rw [hx, hy]; exact hin), cI_some, hx, hy, hs]
      by_cases c3 : bStrap (bdM (u (t + 1))) x y s = 0
      · have hadj := hA.mpr ⟨c1, c2, c3⟩
        have hin' : bIn (bdM (u (t + 1))) x' y' := by
          by_cases q : bIn (bdM (u (t + 1))) x' y'
          · exact q
          · unfold bCell at c2
            rw [if_neg q] at c2
            omega
        have hb' := bIn_bd ho hin'
        obtain ⟨j1, j2, j3⟩ := RJ_set (mOk_b ho) hJ hadj
        have eu : (up (up u (t + 11) (8 * y + x) (min2 (u (t + 11) (8 * y + x)) (u (t + 11) (8 * y' + x')))) (t + 11) (8 * y' + x') (min2 (u (t + 11) (8 * y + x)) (u (t + 11) (8 * y' + x')))) (t + 11) = setJ (u (t + 11)) (8 * y + x) (8 * y' + x') := by
          rw [up_set, up_set]
          rfl
        rw [bI_f (fun q => q c3), if_pos rfl]
        simp only [gd_O hk.1]
        rw [TM_at (by omega) (by omega), cI_some, gd_R h11 (by omega) (by omega)]
        simp only [gd_O hk.1]
        rw [TM_at (by omega) (by omega), cI_some, gd_R h11 (by omega) (by omega)]
        simp only [gd_O hk.1]
        rw [TM_at (by omega) (by omega), cI_some, gd_W h11 (by omega) (by omega)]
        simp only [gd_O hk.1]
        rw [TM_at (by omega) (by omega), cI_some, gd_W h11 (by omega) (by omega)]
        by_cases e : u (t + 11) (8 * y + x) = u (t + 11) (8 * y' + x')
        · rw [if_pos e]
          refine ⟨_, 0, rfl, ?_, fun a k h => by rw [up_o h, up_o h]⟩
          rw [eu]
          exact ⟨j1, Or.inl ⟨rfl, j3 e, fun _ => e⟩⟩
        · rw [if_neg e]
          refine ⟨_, 1, rfl, ?_, fun a k h => by rw [up_o h, up_o h]⟩
          rw [eu]
          exact ⟨j1, Or.inr ⟨rfl, j2 e⟩⟩
      · rw [bI_t c3, if_neg (by decide)]
        exact no fun q => c3 (hA.mp q).2.2
    · rw [bI_f c2, if_pos rfl]
      exact no fun q => c2 (hA.mp q).2.1
  · rw [bI_f c1, if_pos rfl]
    exact no fun q => c1 (hA.mp q).1
theorem adj_r {B : Bd} (h0 : 0 ≤ x) (h1 : x < 8) (hB : B.1 ≤ 8) : adj B (8 * y + x) (8 * y + (x + 1)) ↔ bCell B x y = -1 ∧ bCell B (x + 1) y = -1 ∧ bStrap B x y 0 = 0 := by
  have i1 := in8 (y := y) h0 h1
  unfold adj
  rw [eC_xy h0 h1, i1.1, i1.2]
  by_cases q : x < 7
  · rw [eC_xy (x := x + 1) (by omega) (by omega)]
    constructor
    · rintro ⟨a1, a2, ⟨a3, a4, a5⟩ | ⟨a3, a4⟩⟩
      · exact ⟨a1, a2, a5⟩
      · omega
    · rintro ⟨a1, a2, a3⟩
      exact ⟨a1, a2, Or.inl ⟨by omega, q, a3⟩⟩
  · constructor
    · rintro ⟨a1, a2, ⟨a3, a4, a5⟩ | ⟨a3, a4⟩⟩
      · omega
      · omega
    · rintro ⟨a1, a2, a3⟩
      unfold bCell at a2
      rw [if_neg (by omega)] at a2
      omega
theorem adj_b {B : Bd} (h0 : 0 ≤ x) (h1 : x < 8) : adj B (8 * y + x) (8 * (y + 1) + x) ↔ bCell B x y = -1 ∧ bCell B x (y + 1) = -1 ∧ bStrap B x y 1 = 0 := by
  have i1 := in8 (y := y) h0 h1
  unfold adj
  rw [eC_xy h0 h1, i1.1, i1.2, eC_xy h0 h1]
  constructor
  · rintro ⟨a1, a2, ⟨a3, a4, a5⟩ | ⟨a3, a4⟩⟩
    · omega
    · exact ⟨a1, a2, a4⟩
  · rintro ⟨a1, a2, a3⟩
    exact ⟨a1, a2, Or.inr ⟨by omega, a3⟩⟩
theorem TM_fr43 (hk : kTM g t) (h11 : KA g (t + 11) (2, 0, 64)) (m : Int → Int) (ho : mOk m) (f0 : Int → Int) {y : Int} (hy : 0 ≤ y ∧ y < m 1) : ∀ (d : Nat) (x c : Int) (u : PM), u (t + 1) = m → 0 ≤ x → x + d = m 0 → frK (bdM m) f0 (8 * y + x) c (u (t + 11)) →
    ∃ u' c', run M_TM_findRegions 43 [vA t, vI c, vI y, vI x] [] g u = run M_TM_findRegions 31 [vA t, vI c', vI (y + 1), vN] [] g u' ∧ frK (bdM m) f0 (8 * (y + 1)) c' (u' (t + 11)) ∧ ∀ (a : Nat) (k : Int), a ≠ t + 11 → u' a k = u a k := by
  have hC := ho.1
  have hR := ho.2.1
  intro d
  induction d with
  | zero =>
    intro x c u hm hx hd hK
    refine ⟨u, c, ?_, ?_, fun _ _ _ => rfl⟩
    · rw [R_TM_findRegions_43, gd_O hk.1, gd_R hk.2.1 (by decide) (by decide), if_neg (by rw [hm]; omega), w_id (x := y + 1) (by omega) (by omega)]
    · obtain ⟨k1, k2⟩ := hK
      refine ⟨k1, ?_⟩
      rcases k2 with ⟨q1, q2, q3⟩ | q
      · refine Or.inl ⟨q1, q2, fun a b hab hlt => q3 a b hab ?_⟩
        have hi := (eC_bd (mOk_b ho) hab.1).2.1.2
        have hi' : a % 8 < m 0 := hi
        omega
      · exact Or.inr q
  | succ d ih =>
    intro x c u hm hx hd hK
    have hin : bIn (bdM m) x y := ⟨⟨hx, by show x < m 0; omega⟩, hy.1, hy.2⟩
    obtain ⟨kJ, kC⟩ := hK
    have hm1 : bdM (u (t + 1)) = bdM m := by rw [hm]
    obtain ⟨u1, c1, e1, jn1, f1⟩ := TM_joinsG (g := g) (u := u) (x := x) (y := y) (x' := x + 1) (y' := y) (s := 0) hk (by rw [hm]; exact ho) h11 (by rw [hm1]; exact hin) (by unfold min2; split <;> omega) (by unfold min2; split <;> omega) (if_pos rfl) (adj_r hx (by omega) (by rw [hm1]; exact hC.2)) (by rw [hm1]; exact kJ)
    have hs1 : u1 (t + 1) = m := (funext fun k => f1 _ k (by omega)).trans hm
    rw [hm1] at jn1
    obtain ⟨u2, c2, e2, jn2, f2⟩ := TM_joinsG (g := g) (u := u1) (x := x) (y := y) (x' := x) (y' := y + 1) (s := 1) hk (by rw [hs1]; exact ho) h11 (by rw [hs1]; exact hin) (by unfold min2; split <;> omega) (by unfold min2; split <;> omega) (if_neg (by omega)) (adj_b hx (by omega)) (by rw [hs1]; exact jn1.1)
    have hs2 : u2 (t + 1) = m := (funext fun k => f2 _ k (by omega)).trans hs1
    rw [hs1] at jn2
    obtain ⟨j1, j1'⟩ := jn1
    obtain ⟨j2, j2'⟩ := jn2
    have fin : ∀ c3 : Int, (c3 = if c2 = 0 then (if c1 = 0 then c else 1) else 1) → frK (bdM m) f0 (8 * y + (x + 1)) c3 (u2 (t + 11)) := by
      intro c3 hc3
      refine ⟨j2, ?_⟩
      rcases j2' with ⟨z1, z2, z3⟩ | ⟨z1, z2⟩
      · have e2 : sumI (u2 (t + 11)) 64 = sumI (u1 (t + 11)) 64 := sumI_congr fun k _ _ => z2 k
        rcases j1' with ⟨y1, y2, y3⟩ | ⟨y1, y2⟩
        · have e1 : sumI (u1 (t + 11)) 64 = sumI (u (t + 11)) 64 := sumI_congr fun k _ _ => y2 k
          rw [if_pos z1, if_pos y1] at hc3
          rcases kC with ⟨w1, w2, w3⟩ | ⟨w1, w2⟩
          · refine Or.inl ⟨by omega, fun k => by rw [z2, y2, w2], fun a b hab hlt => ?_⟩
            by_cases ha : a < 8 * y + x
            · exact w3 a b hab ha
            · obtain rfl : a = 8 * y + x := by omega
              obtain ⟨g1, g2, g3⟩ := hab
              rcases g3 with ⟨rfl, g4⟩ | ⟨rfl, g4⟩
              · have := y3 (by rw [show 8 * y + (x + 1) = 8 * y + x + 1 by omega]; exact ⟨g1, g2, Or.inl ⟨rfl, g4⟩⟩)
                rw [← w2, ← w2, this]
                exact congrArg _ (by omega)
              · have := z3 (by rw [show 8 * (y + 1) + x = 8 * y + x + 8 by omega]; exact ⟨g1, g2, Or.inr ⟨rfl, g4⟩⟩)
                rw [y2, y2] at this
                rw [← w2, ← w2, this]
                exact congrArg _ (by omega)
          · exact Or.inr ⟨by omega, by omega⟩
        · rw [if_pos z1, if_neg (by omega)] at hc3
          rcases kC with ⟨w1, w2, w3⟩ | ⟨w1, w2⟩
          · have e0 : sumI (u (t + 11)) 64 = sumI f0 64 := sumI_congr fun k _ _ => w2 k
            exact Or.inr ⟨hc3, by omega⟩
          · exact Or.inr ⟨hc3, by omega⟩
      · rw [if_neg (by omega)] at hc3
        have : sumI (u1 (t + 11)) 64 ≤ sumI (u (t + 11)) 64 := by
          rcases j1' with ⟨y1, y2, y3⟩ | ⟨y1, y2⟩
          · exact Int.le_of_eq (sumI_congr fun k _ _ => y2 k)
          · omega
        have : sumI (u (t + 11)) 64 ≤ sumI f0 64 := by
          rcases kC with ⟨w1, w2, w3⟩ | ⟨w1, w2⟩
          · exact Int.le_of_eq (sumI_congr fun k _ _ => w2 k)
          · omega
        exact Or.inr ⟨hc3, by omega⟩
    have p68 : ∀ c' : Int, run M_TM_findRegions 68 [vA t, vI c', vI y, vI x] [] g u1 = run M_TM_findRegions 43 [vA t, vI (if c2 = 0 then c' else 1), vI y, vI (x + 1)] [] g u2 := by
      intro c'
      rw [R_TM_findRegions_68, gd_O hk.1, w_id (x := y + 1) (by omega) (by omega), e2, cI_some, w_id (x := x + 1) (by omega) (by omega)]
      by_cases q : c2 = 0
      · rw [if_pos q, if_pos q]
      · rw [if_neg q, if_neg q]
    obtain ⟨u3, c3, e3, k3, f3⟩ := ih (x + 1) (if c2 = 0 then (if c1 = 0 then c else 1) else 1) u2 hs2 (by omega) (by omega) (fin _ rfl)
    refine ⟨u3, c3, ?_, k3, fun a k h => by rw [f3 a k h, f2 a k h, f1 a k h]⟩
    rw [R_TM_findRegions_43, gd_O hk.1, gd_R hk.2.1 (by decide) (by decide), if_pos (by rw [hm]; omega), gd_O hk.1, w_id (x := x + 1) (by omega) (by omega), e1, cI_some, p68, p68, ← e3]
    by_cases q : c1 = 0
    · rw [if_pos q, if_pos q]
    · rw [if_neg q, if_neg q]
theorem TM_fr31 (hk : kTM g t) (h11 : KA g (t + 11) (2, 0, 64)) (m : Int → Int) (ho : mOk m) (f0 : Int → Int) : ∀ (d : Nat) (y c : Int) (u : PM), u (t + 1) = m → 0 ≤ y → y + d = m 1 → frK (bdM m) f0 (8 * y) c (u (t + 11)) →
    ∃ u' c', run M_TM_findRegions 31 [vA t, vI c, vI y, vN] [] g u = run M_TM_findRegions 23 [vA t, vI c', vN, vN] [] g u' ∧ frK (bdM m) f0 (8 * m 1) c' (u' (t + 11)) ∧ ∀ (a : Nat) (k : Int), a ≠ t + 11 → u' a k = u a k := by
  have hC := ho.1
  intro d
  induction d with
  | zero =>
    intro y c u hm hy hd hK
    refine ⟨u, c, ?_, by rw [show m 1 = y by omega]; exact hK, fun _ _ _ => rfl⟩
    rw [R_TM_findRegions_31, gd_O hk.1, gd_R hk.2.1 (by decide) (by decide), if_neg (by rw [hm]; omega)]
  | succ d ih =>
    intro y c u hm hy hd hK
    obtain ⟨u1, c1, e1, k1, f1⟩ := TM_fr43 hk h11 m ho f0 (y := y) ⟨hy, by omega⟩ (m 0).toNat 0 c u hm (by decide) (by omega) (by rw [Int.add_zero]; exact hK)
    obtain ⟨u2, c2, e2, k2, f2⟩ := ih (y + 1) c1 u1 ((funext fun k => f1 _ k (by omega)).trans hm) (by omega) (by omega) k1
    refine ⟨u2, c2, ?_, k2, fun a k h => by rw [f2 a k h, f1 a k h]⟩
    rw [R_TM_findRegions_31, gd_O hk.1, gd_R hk.2.1 (by decide) (by decide), if_pos (by rw [hm]; omega), e1, e2]
theorem TM_fr23 (hk : kTM g t) (h11 : KA g (t + 11) (2, 0, 64)) (m : Int → Int) (ho : mOk m) : ∀ (n : Nat) (u : PM), u (t + 1) = m → RJ (bdM m) (u (t + 11)) → sumI (u (t + 11)) 64 < n →
    ∃ u', run M_TM_findRegions 23 [vA t, vI 1, vN, vN] [] g u = some (0, vN, g, u') ∧ RegOf (bdM m) (u' (t + 11)) ∧ ∀ (a : Nat) (k : Int), a ≠ t + 11 → u' a k = u a k := by
  intro n
  induction n with
  | zero =>
    intro u hm hJ hn
    have : 0 ≤ sumI (u (t + 11)) 64 := by
      have := sumI_le (f := fun _ => 0) (f' := u (t + 11)) (n := 64) fun i i0 i1 => hJ.2 i i0 i1
      rw [sumI_0] at this
      exact this
    omega
  | succ n ih =>
    intro u hm hJ hn
    have hR := ho.2.1
    obtain ⟨u1, c1, e1, k1, f1⟩ := TM_fr31 (g := g) hk h11 m ho (u (t + 11)) (m 1).toNat 0 0 u hm (by decide) (by omega) ⟨hJ, Or.inl ⟨rfl, fun _ => rfl, fun a b hab hlt => by have := (eC_bd (mOk_b ho) hab.1).1; omega⟩⟩
    have hs1 : u1 (t + 1) = m := (funext fun k => f1 _ k (by omega)).trans hm
    rw [R_TM_findRegions_23, if_neg (by decide), e1]
    obtain ⟨kJ, kC⟩ := k1
    rcases kC with ⟨w1, w2, w3⟩ | ⟨w1, w2⟩
    · refine ⟨u1, by rw [R_TM_findRegions_23, if_pos w1], ⟨kJ.1, fun a b hab => ?_⟩, f1⟩
      rw [w2, w2]
      refine w3 a b hab ?_
      have hi := (eC_bd (mOk_b ho) hab.1).2.2.2
      have hi' : a / 8 < m 1 := hi
      omega
    · obtain ⟨u2, e2, r2, f2⟩ := ih u1 hs1 kJ (by omega)
      refine ⟨u2, ?_, r2, fun a k h => by rw [f2 a k h, f1 a k h]⟩
      rw [w1, e2]
theorem TM_findRegions (hk : kTM g t) (ho : mOk (u (t + 1))) (h11 : KA g (t + 11) (2, 0, 64)) : ∃ u', call M_TM_findRegions [vA t] g u = some (0, vN, g, u') ∧ RegOf (bdM (u (t + 1))) (u' (t + 11)) ∧ ∀ (a : Nat) (k : Int), a ≠ t + 11 → u' a k = u a k := by
  have key : ∀ (d : Nat) (i : Int) (v : PM), 0 ≤ i → i + d = 64 → (∀ k : Int, 0 ≤ k → k < i → v (t + 11) k = k) → ∃ v', run M_TM_findRegions 2 [vA t, vI i, vN, vN] [] g v = run M_TM_findRegions 23 [vA t, vI 1, vN, vN] [] g v' ∧ (∀ k : Int, 0 ≤ k → k < 64 → v' (t + 11) k = k) ∧ ∀ (a : Nat) (k : Int), a ≠ t + 11 → v' a k = v a k := by
    intro d
    induction d with
    | zero =>
      intro i v i0 i1 hv
      refine ⟨v, ?_, fun k k0 k1 => hv k k0 (by omega), fun _ _ _ => rfl⟩
      rw [R_TM_findRegions_2, if_neg (by omega)]
    | succ d ih =>
      intro i v i0 i1 hv
      obtain ⟨v', e1, h1, f1⟩ := ih (i + 1) (up v (t + 11) i i) (by omega) (by omega) (fun k k0 k1 => by
        by_cases e : k = i
        · rw [e, up_s]
        · rw [up_j e]; exact hv k k0 (by omega))
      refine ⟨v', ?_, h1, fun a k h => by rw [f1 a k h, up_o h]⟩
      rw [R_TM_findRegions_2, if_pos (by omega), gd_O hk.1, gd_W h11 i0 (by omega), w_id (x := i + 1) (by omega) (by omega), e1]
  obtain ⟨v, e1, h1, f1⟩ := key 64 0 u (by decide) (by decide) (fun k k0 k1 => by omega)
  have hs : v (t + 1) = u (t + 1) := funext fun k => f1 _ k (by omega)
  have hb := fun k => @eC_bd _ (mOk_b ho) k
  obtain ⟨u', e2, r2, f2⟩ := TM_fr23 (g := g) hk h11 (u (t + 1)) ho ((sumI (v (t + 11)) 64).toNat + 1) v hs ⟨fun k hk' => by
      have := (hb k hk').1
      rw [h1 k this.1 this.2]
      exact ⟨hk', Int.le_refl _, cn_rfl⟩, fun k k0 k1 => by rw [h1 k k0 k1]; exact k0⟩ (by omega)
  refine ⟨u', ?_, r2, fun a k h => by rw [f2 a k h, f1 a k h]⟩
  rw [C_TM_findRegions, e1, e2]
end
