/-! ===== the class's survey: all regions ===== -/
/-- cells before p have their labels; st gives the first cell of a region -/
def SVi (B : Bd) (u : PM) (t : Nat) (p : Int) (st : Int → Int) : Prop :=
  (0 ≤ u t 0 ∧ u t 0 ≤ p) ∧
  (∀ k : Int, 0 ≤ k → k < 64 → u (t + 1) k = -1 ∨ (eC B k ∧ (0 ≤ u (t + 1) k ∧ u (t + 1) k < u t 0) ∧ st (u (t + 1) k) ≤ k ∧ cn B k (st (u (t + 1) k)))) ∧
  (∀ l : Int, 0 ≤ l → l < u t 0 → eC B (st l) ∧ u (t + 1) (st l) = l ∧ u (t + 2) l = sumI (fun k => bI (u (t + 1) k = l)) 64) ∧
  (∀ a b, adj B a b → u (t + 1) a = u (t + 1) b) ∧
  (∀ k, eC B k → k < p → u (t + 1) k ≠ -1)
def FRg (t : Nat) (u v : PM) : Prop := ∀ (a : Nat) (k : Int), ¬ (t ≤ a ∧ a ≤ t + 3) → v a k = u a k
theorem FRg.tr {t : Nat} {u v x : PM} (h : FRg t u v) (h' : FRg t v x) : FRg t u x := fun a k n => (h' a k n).trans (h a k n)
section
variable {g : PG} {u : PM} {t p : Nat} {x y s i : Int}
theorem FRg.bd {v : PM} (h : FRg t u v) (dj : p + 2 < t ∨ t + 3 < p) : bdT v p = bdT u p := bdT_eq fun a k h1 h2 => h a k (by omega)
theorem SVi_le {B : Bd} {p p' : Int} {st : Int → Int} (h : SVi B u t p st) (hp : p ≤ p') (hn : ∀ k, eC B k → k < p' → k < p) : SVi B u t p' st := by
  obtain ⟨a1, a2, a3, a4, a5⟩ := h
  exact ⟨by omega, a2, a3, a4, fun k hk h => a5 k hk (hn k hk h)⟩
theorem Rg_spread (hk : kRg g t) (hT : kTk g p) (dj : p + 2 < t ∨ t + 3 < p) {B : Bd} (hB : bOk B) (hb : bdT u p = B) {st : Int → Int} (hin : bIn B x y) (h : SVi B u t (8 * y + x) st) :
    ∃ v st', call M_Rg_spreadFrom [vA t, vI x, vI y, vA p] g u = some (0, vN, g, v) ∧ SVi B v t (8 * y + x + 1) st' ∧ FRg t u v := by
  have hS := h
  obtain ⟨⟨n0, n1⟩, a2, a3, a4, a5⟩ := h
  have hx : (0 ≤ x ∧ x < 8) ∧ 0 ≤ y ∧ y < 8 := by
    obtain ⟨⟨c0, c1⟩, ⟨r0, r1⟩, -⟩ := hB
    obtain ⟨⟨z1, z2⟩, z3, z4⟩ := hin
    omega
  obtain ⟨u0, hu0⟩ : ∃ q, q = up u t 4 0 := ⟨_, rfl⟩
  have e0 : u0 t 0 = u t 0 := by rw [hu0, up_j (by decide)]
  have e1 : u0 (t + 1) = u (t + 1) := by rw [hu0]; funext k; exact up_o (by omega)
  have e2 : u0 (t + 2) = u (t + 2) := by rw [hu0]; funext k; exact up_o (by omega)
  have b0 : bdT u0 p = B := by
    rw [← hb, hu0]
    exact bdT_eq fun a k h1 h2 => up_o (by omega)
  have f0 : FRg t u u0 := fun a k n => by rw [hu0, up_o (by omega)]
  have hLQ : LQ B u0 t (u (t + 1)) (8 * y + x) 0 := by
    refine ⟨by omega, ?_, ⟨by decide, by rw [hu0, up_s]; decide⟩, fun j j0 j1 => ?_, fun k _ _ => Or.inl (by rw [e1]), fun j j0 j1 => by omega⟩
    · rw [hu0, up_s, ← hu0, e0, e1]
      rw [sumI_congr (f := fun k => bI (u (t + 1) k = u t 0)) (f' := fun _ => 0) (fun k k0 k1 => bI_f (by
        rcases a2 k k0 k1 with z | ⟨_, z, _⟩ <;> omega)), sumI_0]
    · rw [hu0, up_s] at j1; omega
  obtain ⟨v1, r1, q1, m1, s1, x1⟩ := Rg_reach (g := g) (u := u0) (x := x) (y := y) hk hT (by rw [b0]; exact hB) (by rw [b0]; exact hLQ) (fun _ => cn_rfl)
  rw [b0] at q1 m1 s1
  have b1 : bdT v1 p = B := (x1.bd dj).trans b0
  have fx : ∀ {v w : PM}, Ex t v w → FRg t v w := fun h a k n => h.2.2.2.2 a k (by omega) (by omega) (by omega)
  have hcall : call M_Rg_spreadFrom [vA t, vI x, vI y, vA p] g u = run M_Rg_spreadFrom 15 [vA t, vI x, vI y, vA p, vI 0, vN, vN] [] g v1 := by
    rw [C_Rg_spreadFrom]
    simp only [gd_O hk.1]
    rw [← hu0, r1, cV_some]
  obtain ⟨v2, j2, r2, q2, x2⟩ := Rg_sf15 (g := g) hk hT dj hB x y 64 0 v1 (by decide) b1 q1
  by_cases hA : eC B (8 * y + x) ∧ u (t + 1) (8 * y + x) = -1
  · obtain ⟨hA1, hA2⟩ := hA
    have hA1' := (eC_xy hx.1.1 hx.1.2).mp hA1
    have x02 := x1.tr x2
    have n2 : v2 t 0 = u t 0 := x02.2.2.2.1.trans e0
    obtain ⟨_, g2, g3, g4, g5, g6⟩ := q2
    rw [n2] at g2 g4 g5
    have lS : v2 (t + 1) (8 * y + x) = u t 0 := by
      have z : v2 (t + 1) (8 * y + x) ≠ -1 := by
        rw [x2.1 _ (m1 hA1')]
        exact m1 hA1'
      rcases g5 (8 * y + x) (by omega) (by omega) with q | ⟨q, -⟩
      · omega
      · exact q
    obtain ⟨m, hm⟩ : ∃ m, m = v2 t 4 := ⟨_, rfl⟩
    have m64 : m ≤ 64 := by
      rw [hm, g2]
      have := sumI_bd (f := fun k => bI (v2 (t + 1) k = u t 0)) (n := 64) (b := 1) fun k _ _ => bI_bd _
      omega
    have mpos : 0 < m := by
      by_cases q : 0 < m
      · exact q
      · exfalso
        rcases g5 (8 * y + x) (by omega) (by omega) with z | ⟨_, _, j, z, _⟩
        · omega
        · omega
    obtain ⟨v, hv⟩ : ∃ v, v = up (up v2 (t + 2) (u t 0) m) t 0 (u t 0 + 1) := ⟨_, rfl⟩
    have l1 : v (t + 1) = v2 (t + 1) := by
      rw [hv]; funext k; rw [up_o (by omega), up_o (by omega)]
    have n3 : v t 0 = u t 0 + 1 := by rw [hv, up_s]
    have old : ∀ l : Int, 0 ≤ l → l < u t 0 → ∀ k : Int, 0 ≤ k → k < 64 → (v2 (t + 1) k = l ↔ u (t + 1) k = l) := fun l l0 l1' k k0 k1 => by
      rcases g5 k k0 k1 with z | ⟨z1, z2, _⟩ <;> omega
    refine ⟨v, fun l => if l = u t 0 then 8 * y + x else st l, ?_, ⟨by omega, fun k k0 k1 => ?_, fun l l0 l2 => ?_, fun a b hab => ?_, fun k hk2 hlt => ?_⟩, ?_⟩
    · rw [hcall, r2, R_Rg_spreadFrom_157]
      simp only [gd_O hk.1]
      rw [if_pos (by omega), n2, if_pos (by omega), gd_W hk.2.2.1 n0 (by omega), show up v2 (t + 2) (u t 0) (v2 t 4) t 0 = u t 0 by rw [up_o (by omega), n2], w_id (by omega) (by omega), ← hm, hv]
    · rw [l1, n3]
      rcases g5 k k0 k1 with z | ⟨z1, z2, j, ⟨j0, j1⟩, z3⟩
      · rw [z]
        rcases a2 k k0 k1 with q | ⟨q1, q2, q3, q4⟩
        · exact Or.inl q
        · right
          simp only
          rw [if_neg (by omega)]
          exact ⟨q1, by omega, q3, q4⟩
      · right
        obtain ⟨w1, w2, w3⟩ := g4 j j0 j1
        rw [z3] at w1 w3
        rw [z1]
        simp only
        rw [if_pos trivial]
        refine ⟨w1, by omega, ?_, w3⟩
        by_cases q : k < 8 * y + x
        · exact absurd z2 (a5 k w1 q)
        · omega
    · simp only
      rw [l1]
      by_cases e : l = u t 0
      · rw [if_pos e, e, hv, up_o (by omega), up_s, hm, g2]
        exact ⟨hA1, lS, rfl⟩
      · rw [if_neg e]
        obtain ⟨w1, w2, w3⟩ := a3 l l0 (by omega)
        have hb1 := (eC_bd hB w1).1
        refine ⟨w1, (old l l0 (by omega) _ hb1.1 hb1.2).mpr w2, ?_⟩
        rw [hv, up_o (by omega), up_j e, (fx x02) (t + 2) l |> fun f => show v2 (t + 2) l = u (t + 2) l from ?_, w3]
        · exact sumI_congr fun k k0 k1 => bI_congr (old l l0 (by omega) k k0 k1).symm
        · have := x02.2.2.2.2 (t + 2) l (by omega) (by omega) (by omega)
          rw [this, e2]
    · rw [l1]
      have ha := (eC_bd hB hab.1).1
      have hb' := (eC_bd hB hab.2.1).1
      have h0 := a4 a b hab
      have new : ∀ c d : Int, 0 ≤ c → c < 64 → 0 ≤ d → d < 64 → (adj B c d ∨ adj B d c) → u (t + 1) c = u (t + 1) d → v2 (t + 1) c = u t 0 → u (t + 1) c = -1 → v2 (t + 1) d = u t 0 := by
        intro c d c0 c1 d0 d1 hcd e z z'
        rcases g5 c c0 c1 with q | ⟨_, _, j, ⟨j0, j1⟩, q⟩
        · omega
        · have := g6 j j0 j1 d (by rw [q]; exact hcd)
          rcases g5 d d0 d1 with w | ⟨w, _⟩
          · omega
          · exact w
      rcases g5 a ha.1 ha.2 with z | ⟨z1, z2, _⟩
      · rcases g5 b hb'.1 hb'.2 with w | ⟨w1, w2, _⟩
        · rw [z, w, h0]
        · rw [new b a hb'.1 hb'.2 ha.1 ha.2 (Or.inr hab) h0.symm w1 w2, w1]
      · rw [new a b ha.1 ha.2 hb'.1 hb'.2 (Or.inl hab) h0 z1 z2, z1]
    · rw [l1]
      by_cases q : k < 8 * y + x
      · have hb1 := (eC_bd hB hk2).1
        have := a5 k hk2 q
        rcases g5 k hb1.1 hb1.2 with z | ⟨_, z, _⟩
        · rw [z]; exact this
        · exact absurd z this
      · obtain rfl : k = 8 * y + x := by omega
        omega
    · exact (f0.tr (fx x02)).tr fun a k n => by rw [hv, up_o (by omega), up_o (by omega)]
  · have hv1 : v1 = u0 := s1 (by rw [e1]; rw [eC_xy hx.1.1 hx.1.2] at hA; exact hA)
    subst hv1
    have m0 : v1 t 4 = 0 := by rw [hu0, up_s]
    refine ⟨v1, st, ?_, ⟨by omega, by rw [e0, e1]; exact a2, by rw [e0, e1, e2]; exact a3, by rw [e1]; exact a4, fun k hk2 hlt => ?_⟩, f0⟩
    · rw [hcall, R_Rg_spreadFrom_15, gd_O hk.1, if_neg (by omega), R_Rg_spreadFrom_157, gd_O hk.1, if_neg (by omega)]
    · rw [e1]
      by_cases q : k < 8 * y + x
      · exact a5 k hk2 q
      · obtain rfl : k = 8 * y + x := by omega
        exact fun z => hA ⟨hk2, z⟩
theorem Rg_sv45 (hk : kRg g t) (hT : kTk g p) (dj : p + 2 < t ∨ t + 3 < p) {B : Bd} (hB : bOk B) {y : Int} (hy : 0 ≤ y ∧ y < B.2.1) : ∀ (d : Nat) (x : Int) (u : PM) (st : Int → Int), bdT u p = B → 0 ≤ x → x + d = B.1 → SVi B u t (8 * y + x) st →
    ∃ v st', run M_Rg_survey 45 [vA t, vA p, vI y, vI x] [] g u = run M_Rg_survey 35 [vA t, vA p, vI (y + 1), vN] [] g v ∧ SVi B v t (8 * (y + 1)) st' ∧ FRg t u v := by
  have h1 := hB.1
  have h2 := hB.2.1
  intro d
  induction d with
  | zero =>
    intro x u st hb hx hd h
    have e : u p 0 = B.1 := congrArg (fun B : Bd => B.1) hb
    refine ⟨u, st, ?_, SVi_le h (by omega) (fun k hk2 hlt => ?_), fun _ _ _ => rfl⟩
    · rw [R_Rg_survey_45, gd_O hT.1, if_neg (by omega), w_id (x := y + 1) (by omega) (by omega)]
    · have := (eC_bd hB hk2).2.1.2
      omega
  | succ d ih =>
    intro x u st hb hx hd h
    have e : u p 0 = B.1 := congrArg (fun B : Bd => B.1) hb
    obtain ⟨v, st', e1, s1, f1⟩ := Rg_spread (g := g) (u := u) (x := x) (y := y) hk hT dj hB hb ⟨⟨hx, by omega⟩, hy⟩ h
    obtain ⟨v2, st2, e2, s2, f2⟩ := ih (x + 1) v st' ((f1.bd dj).trans hb) (by omega) (by omega) (by rw [show 8 * y + (x + 1) = 8 * y + x + 1 by omega]; exact s1)
    refine ⟨v2, st2, ?_, s2, f1.tr f2⟩
    rw [R_Rg_survey_45, gd_O hT.1, if_pos (by omega), gd_O hk.1, e1, cV_some, w_id (x := x + 1) (by omega) (by omega), e2]
/-- what a survey leaves -/
def SVf (B : Bd) (u : PM) (t : Nat) (st : Int → Int) : Prop :=
  (0 ≤ u t 0 ∧ u t 0 ≤ 64) ∧ RegOf B (fun k => st (u (t + 1) k)) ∧ (∀ k : Int, 0 ≤ k → k < 64 → if eC B k then 0 ≤ u (t + 1) k ∧ u (t + 1) k < u t 0 else u (t + 1) k = -1) ∧
  ∀ l : Int, 0 ≤ l → l < u t 0 → eC B (st l) ∧ u (t + 1) (st l) = l ∧ u (t + 2) l = rSz B (fun k => st (u (t + 1) k)) (st l)
theorem Rg_survey (hk : kRg g t) (hT : kTk g p) (dj : p + 2 < t ∨ t + 3 < p) (hB : bOk (bdT u p)) : ∃ v st, call M_Rg_survey [vA t, vA p] g u = some (0, vN, g, v) ∧ SVf (bdT u p) v t st ∧ FRg t u v := by
  obtain ⟨B, hBB⟩ : ∃ B, B = bdT u p := ⟨_, rfl⟩
  rw [← hBB] at hB ⊢
  have h1 := hB.1
  have h2 := hB.2.1
  have init : ∀ (d : Nat) (i : Int) (v : PM), 0 ≤ i → i + d = 64 → (∀ k : Int, 0 ≤ k → k < i → v (t + 1) k = -1) → v t 0 = 0 → ∃ v', run M_Rg_survey 7 [vA t, vA p, vI i, vN] [] g v = run M_Rg_survey 35 [vA t, vA p, vI 0, vN] [] g v' ∧ (∀ k : Int, 0 ≤ k → k < 64 → v' (t + 1) k = -1) ∧ v' t 0 = 0 ∧ FRg t v v' := by
    intro d
    induction d with
    | zero =>
      intro i v i0 i1 hv h0
      refine ⟨v, ?_, fun k k0 k1 => hv k k0 (by omega), h0, fun _ _ _ => rfl⟩
      rw [R_Rg_survey_7, if_neg (by omega)]
    | succ d ih =>
      intro i v i0 i1 hv h0
      obtain ⟨v', e1, q1, q2, f1⟩ := ih (i + 1) (up (up v (t + 1) i (-1)) (t + 2) i 0) (by omega) (by omega) (fun k k0 k1 => by
        rw [up_o (by omega)]
        by_cases e : k = i
        · rw [e, up_s]
        · rw [up_j e]; exact hv k k0 (by omega)) (by rw [up_o (by omega), up_o (by omega), h0])
      refine ⟨v', ?_, q1, q2, fun a k n => by rw [f1 a k n, up_o (by omega), up_o (by omega)]⟩
      rw [R_Rg_survey_7, if_pos (by omega)]
      simp only [gd_O hk.1]
      rw [gd_W hk.2.1 i0 (by omega), gd_W hk.2.2.1 i0 (by omega), w_id (x := i + 1) (by omega) (by omega), e1]
  have rows : ∀ (d : Nat) (y : Int) (u : PM) (st : Int → Int), bdT u p = B → 0 ≤ y → y + d = B.2.1 → SVi B u t (8 * y) st → ∃ v st', run M_Rg_survey 35 [vA t, vA p, vI y, vN] [] g u = some (0, vN, g, v) ∧ SVi B v t (8 * B.2.1) st' ∧ FRg t u v := by
    intro d
    induction d with
    | zero =>
      intro y u st hb hy hd h
      have e : u p 1 = B.2.1 := congrArg (fun B : Bd => B.2.1) hb
      refine ⟨u, st, ?_, by rw [show B.2.1 = y by omega]; exact h, fun _ _ _ => rfl⟩
      rw [R_Rg_survey_35, gd_O hT.1, if_neg (by omega)]
    | succ d ih =>
      intro y u st hb hy hd h
      have e : u p 1 = B.2.1 := congrArg (fun B : Bd => B.2.1) hb
      obtain ⟨v, st1, e1, s1, f1⟩ := Rg_sv45 (g := g) hk hT dj hB (y := y) ⟨hy, by omega⟩ B.1.toNat 0 u st hb (by decide) (by omega) (by rw [Int.add_zero]; exact h)
      obtain ⟨v2, st2, e2, s2, f2⟩ := ih (y + 1) v st1 ((f1.bd dj).trans hb) (by omega) (by omega) s1
      refine ⟨v2, st2, ?_, s2, f1.tr f2⟩
      rw [R_Rg_survey_35, gd_O hT.1, if_pos (by omega), e1, e2]
  obtain ⟨v1, e1, q1, q2, f1⟩ := init 64 0 (up u t 0 0) (by decide) (by decide) (fun k k0 k1 => by omega) (up_s ..)
  have f01 : FRg t u v1 := fun a k n => by rw [f1 a k n, up_o (by omega)]
  obtain ⟨v, st, e2, s2, f2⟩ := rows B.2.1.toNat 0 v1 (fun k => k) (((f01.bd dj)).trans hBB.symm) (by decide) (by omega) ⟨by omega, fun k k0 k1 => Or.inl (q1 k k0 k1), fun l l0 l1 => by omega, fun a b hab => by
    have ha := (eC_bd hB hab.1).1
    have hb := (eC_bd hB hab.2.1).1
    rw [q1 a ha.1 ha.2, q1 b hb.1 hb.2], fun k hk2 hlt => by have := (eC_bd hB hk2).1; omega⟩
  obtain ⟨⟨n0, n1⟩, a2, a3, a4, a5⟩ := s2
  have lab : ∀ k, eC B k → (0 ≤ v (t + 1) k ∧ v (t + 1) k < v t 0) ∧ st (v (t + 1) k) ≤ k ∧ cn B k (st (v (t + 1) k)) := fun k hk2 => by
    have hb := eC_bd hB hk2
    have hlt := hb.2.2.2
    have := a5 k hk2 (by omega)
    rcases a2 k hb.1.1 hb.1.2 with z | ⟨_, z1, z2, z3⟩
    · exact absurd z this
    · exact ⟨z1, z2, z3⟩
  have hReg : RegOf B (fun k => st (v (t + 1) k)) := ⟨fun k hk2 => by
    obtain ⟨z1, z2, z3⟩ := lab k hk2
    exact ⟨(a3 _ z1.1 z1.2).1, z2, z3⟩, fun a b hab => congrArg st (a4 a b hab)⟩
  refine ⟨v, st, ?_, ⟨by omega, hReg, fun k k0 k1 => ?_, fun l l0 l1 => ?_⟩, f01.tr f2⟩
  · rw [C_Rg_survey, gd_O hk.1, e1, e2]
  · by_cases q : eC B k
    · rw [if_pos q]; exact (lab k q).1
    · rw [if_neg q]
      rcases a2 k k0 k1 with z | ⟨z, _⟩
      · exact z
      · exact absurd z q
  · obtain ⟨z1, z2, z3⟩ := a3 l l0 l1
    refine ⟨z1, z2, ?_⟩
    rw [z3]
    refine sumI_congr fun k k0 k1 => bI_congr ?_
    show v (t + 1) k = l ↔ eC B k ∧ st (v (t + 1) k) = st (v (t + 1) (st l))
    rw [z2]
    constructor
    · intro e
      rcases a2 k k0 k1 with z | ⟨z, _⟩
      · omega
      · exact ⟨z, by rw [e]⟩
    · rintro ⟨e1, e2⟩
      have hl := (lab k e1).1
      have := (a3 _ hl.1 hl.2).2.1
      rw [e2, z2] at this
      exact this.symm
end
