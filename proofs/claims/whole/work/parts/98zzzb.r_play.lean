/-! ===== the reference: names, players ===== -/
section
variable {g : PG} {u : PM} {t : Nat} {b : Int → Int} {n p : Int} {T : TkS} {A : AS}
theorem TM_hasName (hk : kMd g t) (h : MdT u t b n T) (hA : absM (u (t + 1)) = A) (hl : T.2.2.1 - T.2.1 ≤ 6) : call M_TM_hasNameHere [vA t, vI 0] g u = some (0, vI (bI (nmB A b T = true)), g, u) := by
  obtain ⟨⟨h0, n0, hn, hb, hB⟩, ⟨h8, h9, h7⟩, -, t1, t2, t3, -⟩ := h
  have e7 : A.p0.2.2.1 = u (t + 1) (5 + 14 * 0 + 7) := by rw [← hA]; rfl
  have eN : ∀ i : Int, 0 ≤ i → i < A.p0.2.2.1 → A.p0.2.2.2.2 i = u (t + 1) (5 + 14 * 0 + (8 + i)) := fun i i0 i1 => by
    rw [← hA] at i1 ⊢
    show cl (u (t + 1) (5 + 7)) (fun k => u (t + 1) (5 + 8 + k)) i = _
    rw [cl_in i0 (show i < u (t + 1) (5 + 7) from i1), show (5 : Int) + 8 + i = 5 + 14 * 0 + (8 + i) by omega]
  have z27 : ∀ i : Int, run M_TM_hasNameHere 27 [vA t, vI 0, vI 0, vI i] [] g u = some (0, vI 0, g, u) := fun i => by
    rw [R_TM_hasNameHere_27, if_pos rfl, b01_0, cond_true]
  rw [C_TM_hasNameHere, gd_O hk.1.1, TM_of hk.1 (Or.inl rfl) (by decide) (by decide), cI_some]
  simp only [gd_O hk.1.1]
  rw [h7, h9, w_id (x := T.2.2.1 - T.2.1) (by omega) (by omega), ← e7]
  by_cases c : A.p0.2.2.1 = T.2.2.1 - T.2.1
  · rw [if_pos c]
    have key : ∀ (d i : Nat), (i : Int) + d = T.2.2.1 - T.2.1 → (∀ j : Nat, j < i → A.p0.2.2.2.2 j = b (T.2.1 + j)) → run M_TM_hasNameHere 27 [vA t, vI 0, vI 1, vI i] [] g u = some (0, vI (bI (nmB A b T = true)), g, u) := by
      intro d
      induction d with
      | zero =>
        intro i hi hj
        rw [R_TM_hasNameHere_27, if_neg (by decide)]
        simp only [gd_O hk.1.1]
        rw [h7, h9, w_id (x := T.2.2.1 - T.2.1) (by omega) (by omega), if_neg (by omega), b01_1, cond_true, bI_t (nmB_iff.mpr ⟨c, fun j hj2 => hj j (by omega)⟩)]
      | succ d ih =>
        intro i hi hj
        rw [R_TM_hasNameHere_27, if_neg (by decide)]
        simp only [gd_O hk.1.1]
        rw [h7, h9, w_id (x := T.2.2.1 - T.2.1) (by omega) (by omega), if_pos (by omega), w_id (x := 8 + (i : Int)) (by omega) (by omega), TM_of hk.1 (Or.inl rfl) (by omega) (by omega), cI_some]
        simp only [gd_O hk.1.1]
        rw [h9, w_id (x := T.2.1 + (i : Int)) (by omega) (by omega), gd_R hk.2 (by omega) (by omega), hb _ (by omega) (by omega), ← eN i (by omega) (by omega), w_id (x := (i : Int) + 1) (by omega) (by omega)]
        by_cases c3 : A.p0.2.2.2.2 i = b (T.2.1 + i)
        · rw [if_pos c3]
          have := ih (i + 1) (by omega) (fun j hj2 => by
            by_cases e : j = i
            · rw [e]; exact c3
            · exact hj j (by omega))
          rw [show ((i + 1 : Nat) : Int) = (i : Int) + 1 by omega] at this
          exact this
        · rw [if_neg c3, z27, bI_f fun z => c3 ((nmB_iff.mp z).2 i (by omega))]
    exact key (T.2.2.1 - T.2.1).toNat 0 (by omega) (fun j hj => by omega)
  · rw [if_neg c, z27, bI_f fun z => c (nmB_iff.mp z).1]
/-- letters of a name -/
theorem TM_letters (hk : kMd g t) (hp : p = 0 ∨ p = 1) (h : MdT u t b n T) (hl : T.2.2.1 - T.2.1 ≤ 6) : ∃ v, run M_TM_playerTold 111 [vA t, vI p, vI 0] [] g u = run M_TM_playerTold 111 [vA t, vI p, vI (T.2.2.1 - T.2.1)] [] g v ∧ (∀ k : Int, 0 ≤ k → k < T.2.2.1 - T.2.1 → v (t + 1) (5 + 14 * p + (8 + k)) = b (T.2.1 + k)) ∧ ∀ (a : Nat) (k : Int), ¬ (a = t + 1 ∧ 5 + 14 * p + 8 ≤ k ∧ k < 19 + 14 * p) → v a k = u a k := by
  obtain ⟨⟨h0, n0, hn, hb, hB⟩, ⟨h8, h9, h7⟩, -, t1, t2, t3, -⟩ := h
  have key : ∀ d : Nat, (d : Int) ≤ T.2.2.1 - T.2.1 → ∃ v, run M_TM_playerTold 111 [vA t, vI p, vI 0] [] g u = run M_TM_playerTold 111 [vA t, vI p, vI d] [] g v ∧ (∀ k : Int, 0 ≤ k → k < d → v (t + 1) (5 + 14 * p + (8 + k)) = b (T.2.1 + k)) ∧ ∀ (a : Nat) (k : Int), ¬ (a = t + 1 ∧ 5 + 14 * p + 8 ≤ k ∧ k < 19 + 14 * p) → v a k = u a k := by
    intro d
    induction d with
    | zero => intro _; exact ⟨u, rfl, fun k k0 k1 => by omega, fun _ _ _ => rfl⟩
    | succ d ih =>
      intro hd
      obtain ⟨v, e1, n1, f1⟩ := ih (by omega)
      refine ⟨up v (t + 1) (5 + 14 * p + (8 + d)) (b (T.2.1 + d)), ?_, fun k k0 k1 => ?_, fun a k z => by rw [up_n (by omega), f1 a k z]⟩
      · rw [e1, R_TM_playerTold_111]
        simp only [gd_O hk.1.1]
        rw [f1 t 20 (by omega), f1 t 19 (by omega), h7, h9, w_id (x := T.2.2.1 - T.2.1) (by omega) (by omega), if_pos (by omega), w_id (x := T.2.1 + (d : Int)) (by omega) (by omega), gd_R hk.2 (by omega) (by omega), f1 (t + 7) _ (by omega), hb _ (by omega) (by omega), w_id (x := 8 + (d : Int)) (by omega) (by omega), TM_put hk.1 hp (by omega) (by omega), cV_some, w_id (x := (d : Int) + 1) (by omega) (by omega), show ((d + 1 : Nat) : Int) = (d : Int) + 1 by omega]
      · by_cases e : k = d
        · rw [e, up_s]
        · rw [up_j (by omega)]; exact n1 k k0 (by omega)
  obtain ⟨v, e1, n1, f1⟩ := key (T.2.2.1 - T.2.1).toNat (by omega)
  rw [show (((T.2.2.1 - T.2.1).toNat : Nat) : Int) = T.2.2.1 - T.2.1 by omega] at e1 n1
  exact ⟨v, e1, n1, f1⟩
/-- wrong already: the numbers of a player -/
theorem W_156 (hk : kMd g t) (hp : p = 0 ∨ p = 1) {e : ER} : ∀ (d : Nat) (k : Int) (u : PM), k + d = 5 → 0 ≤ k → MdE u t b n e → ∃ v, run M_TM_playerTold 156 [vA t, vI p, vI k] [] g u = some (0, vN, g, v) ∧ MdE v t b n e ∧ FP t u v := by
  intro d
  induction d with
  | zero =>
    intro k u hd k0 h
    obtain ⟨x, hx⟩ : ∃ x, x = up u (t + 1) (5 + 14 * p + 1) 0 := ⟨_, rfl⟩
    have fx : ∀ (a : Nat) (j : Int), a ≠ t + 1 → x a j = u a j := fun a j z => by rw [hx, up_o z]
    have hE : MdE x t b n e := h.fr fun a j _ z _ _ => fx a j z
    refine ⟨x, ?_, hE, fun a j _ z _ _ => fx a j z⟩
    rw [R_TM_playerTold_156, if_neg (by omega), gd_O hk.1.1, W_number hk h.2.1, cI_some, gd_O hk.1.1, TM_put hk.1 hp (by omega) (by omega), cV_some, gd_O hk.1.1, ← hx, W_semi hk hE.2.1, cV_some]
  | succ d ih =>
    intro k u hd k0 h
    obtain ⟨x, hx⟩ : ∃ x, x = up u (t + 1) (5 + 14 * p + (2 + k)) 0 := ⟨_, rfl⟩
    have fx : ∀ (a : Nat) (j : Int), a ≠ t + 1 → x a j = u a j := fun a j z => by rw [hx, up_o z]
    have hE : MdE x t b n e := h.fr fun a j _ z _ _ => fx a j z
    obtain ⟨v, e1, m1, f1⟩ := ih (k + 1) x (by omega) (by omega) hE
    refine ⟨v, ?_, m1, FP.tr (fun a j _ z _ _ => fx a j z) f1⟩
    rw [R_TM_playerTold_156, if_pos (by omega), gd_O hk.1.1, W_number hk h.2.1, cI_some, gd_O hk.1.1, w_id (x := 2 + k) (by omega) (by omega), TM_put hk.1 hp (by omega) (by omega), cV_some, w_id (x := k + 1) (by omega) (by omega), ← hx, e1]
theorem G_put {v : PM} {q : PS} (hp : p = 0 ∨ p = 1) (h : MdS u t b n T A) (hn : nOk A) (f : ∀ (a : Nat) (k : Int), ¬ (a = t + 1 ∧ 5 + 14 * p ≤ k ∧ k < 19 + 14 * p) → v a k = u a k) (hq : plM (v (t + 1)) (5 + 14 * p) = q) : MdS v t b n T (aSetPl A p q) := by
  refine h.fr (fun a k _ z _ _ => f a k (by omega)) ?_
  rw [absM_pl (m := u (t + 1)) hp (by rw [h.2.2]; exact hn) (fun k z => f (t + 1) k (by omega)), h.2.2, hq]
theorem G_plA (hp : p = 0 ∨ p = 1) (h : MdS u t b n T A) : plM (u (t + 1)) (5 + 14 * p) = aPl A p := by rw [← h.2.2, aPl_M hp]
theorem G_semi (hk : kMd g t) (h : MdS u t b n (tkAt b n T.2.2.1) A) : xM g u t b n (call M_TM_semicolon [vA t] g u) (xb (xEnd b n T) fun T' => .ok (T', A)) := by
  rw [C_TM_semicolon, gd_O hk.1.1, h.1.2.1.1]
  unfold xEnd
  by_cases c : (tkAt b n T.2.2.1).1 = 3
  · obtain ⟨x, e2, m2, f2⟩ := G_go (g := g) hk h
    rw [if_pos c, if_pos c, R_TM_semicolon_14, gd_O hk.1.1, G_w0 hk, cV_some, gd_O hk.1.1, e2, cV_some]
    exact ⟨x, rfl, f2, Or.inr ⟨_, rfl, m2⟩⟩
  · obtain ⟨w1, w2⟩ := wE_E h.1 1
    rw [if_neg c, if_neg c, R_TM_semicolon_14, gd_O hk.1.1, G_w1 hk h.2.1.1, cV_some, gd_O hk.1.1, W_go hk w1.2.1, cV_some]
    exact ⟨_, rfl, w2, Or.inl ⟨_, rfl, w1⟩⟩
theorem TM_sup (hk : kMd g t) (hp : p = 0 ∨ p = 1) : ∀ (d : Nat) (k : Int) (u : PM) (T : TkS) (A : AS), k + d = 5 → 0 ≤ k → nOk A → MdS u t b n (tkAt b n T.2.2.1) A →
    ∃ v, FP t u v ∧ ((∃ e, xSup b n p d k T A = .error e ∧ run M_TM_playerTold 156 [vA t, vI p, vI k] [] g u = some (0, vN, g, v) ∧ MdE v t b n e) ∨ (∃ a, xSup b n p d k T A = .ok a ∧ run M_TM_playerTold 156 [vA t, vI p, vI k] [] g u = run M_TM_playerTold 156 [vA t, vI p, vI 5] [] g v ∧ MdS v t b n (tkAt b n a.1.2.2.1) a.2 ∧ nOk a.2)) := by
  intro d
  induction d with
  | zero =>
    intro k u T A hd k0 hn h
    refine ⟨u, FP.rfl', Or.inr ⟨(T, A), rfl, ?_, h, hn⟩⟩
    rw [show k = 5 by omega]
  | succ d ih =>
    intro k u T A hd k0 hn h
    unfold xSup
    rw [R_TM_playerTold_156, if_pos (by omega), gd_O hk.1.1]
    rcases G_number (g := g) (lo := 0) (hi := 9) hk h (by decide) with ⟨v2, z2, x2, b2, e2, s2, f2⟩ | ⟨v2, e, x2, e2, s2, f2⟩
    · obtain ⟨v3, hv3⟩ : ∃ v, v = up v2 (t + 1) (5 + 14 * p + (2 + k)) z2 := ⟨_, rfl⟩
      have hpl : plM (v3 (t + 1)) (5 + 14 * p) = psSu (aPl A p) k z2 := by
        rw [hv3, up_set, plM_su k0 (by omega), G_plA hp s2]
      have s3 := G_put (v := v3) hp s2 hn (fun a j z => by rw [hv3, up_n (by omega)]) hpl
      have f3 : FP t v2 v3 := fun a j _ z _ _ => by rw [hv3, up_o z]
      have hn3 : nOk (aSetPl A p (psSu (aPl A p) k z2)) := by
        obtain ⟨q1, q2, q3⟩ := hn
        rcases hp with rfl | rfl
        · exact ⟨q1, q2, q3⟩
        · exact ⟨q1, q2, q3⟩
      obtain ⟨v4, f4, hh⟩ := ih (k + 1) v3 (tkAt b n T.2.2.1) _ (by omega) (by omega) hn3 s3
      refine ⟨v4, (f2.tr f3).tr f4, ?_⟩
      rw [e2, cI_some, gd_O hk.1.1, w_id (x := 2 + k) (by omega) (by omega), TM_put hk.1 hp (by omega) (by omega), cV_some, w_id (x := k + 1) (by omega) (by omega), ← hv3, xNum_y x2]
      exact hh
    · obtain ⟨x, hx⟩ : ∃ x, x = up v2 (t + 1) (5 + 14 * p + (2 + k)) 0 := ⟨_, rfl⟩
      have fx : ∀ (a : Nat) (j : Int), a ≠ t + 1 → x a j = v2 a j := fun a j z => by rw [hx, up_o z]
      have hE : MdE x t b n e := s2.fr fun a j _ z _ _ => fx a j z
      obtain ⟨v, e1, m1, f1⟩ := W_156 (g := g) hk hp d (k + 1) x (by omega) (by omega) hE
      refine ⟨v, (f2.tr fun a j _ z _ _ => fx a j z).tr f1, Or.inl ⟨e, ?_, ?_, m1⟩⟩
      · rw [xNum_n x2]; rfl
      · rw [e2, cI_some, gd_O hk.1.1, w_id (x := 2 + k) (by omega) (by omega), TM_put hk.1 hp (by omega) (by omega), cV_some, w_id (x := k + 1) (by omega) (by omega), ← hx, e1]
theorem TM_playerTold (hk : kMd g t) (hp : p = 0 ∨ p = 1) (h : MdS u t b n T A) (hn : nOk A) : xM g u t b n (call M_TM_playerTold [vA t, vI p] g u) (xPl b n p T A) := by
  have w81 : ∀ {y : PM} {e : ER}, MdE y t b n e → ∀ s : Int, run M_TM_playerTold 81 [vA t, vI p, vN] [vI s, vA t] g y = some (0, vN, g, y) := fun {y e} z s => by
    have z2 := z.2.1
    rw [R_TM_playerTold_81, gd_O hk.1.1, W_wrong hk z2, cV_some, gd_O hk.1.1, if_neg (by omega)]
  have w51 : ∀ {y : PM} {e : ER}, MdE y t b n e → ∀ s : Int, run M_TM_playerTold 51 [vA t, vI p, vN] [vI s, vA t] g y = some (0, vN, g, y) := fun {y e} z s => by
    have z2 := z.2.1
    rw [R_TM_playerTold_51, gd_O hk.1.1, W_wrong hk z2, cV_some, gd_O hk.1.1, if_neg (by omega), w81 z]
  rw [C_TM_playerTold, gd_O hk.1.1, TM_is hk h.1 wTxs.2.2.2.2.2.1 (by decide), cI_some]
  unfold xPl
  by_cases c0 : isW b T wPlayer
  · obtain ⟨v1, e1, s1, f1⟩ := G_go (g := g) hk h
    rw [bI_t c0, if_neg (by decide), if_pos c0, R_TM_playerTold_15, gd_O hk.1.1, G_w0 hk, cV_some, gd_O hk.1.1, e1, cV_some]
    obtain ⟨T1, hT1⟩ : ∃ T1, T1 = tkAt b n T.2.2.1 := ⟨_, rfl⟩
    rw [← hT1] at s1 ⊢
    have hok := s1.1.2.2.2
    have hn6 := s1.1.1.2.2.1
    unfold tOkk at hok
    have bad : xM g u t b n (run M_TM_playerTold 51 [vA t, vI p, vN] [vI 1, vA t] g v1) (.error (1, T1.2.1)) := by
      obtain ⟨w1, w2⟩ := wE_E s1.1 1
      have w22 := w1.2.1
      rw [R_TM_playerTold_51, gd_O hk.1.1, G_w1 hk s1.2.1.1, cV_some, gd_O hk.1.1, if_neg (by omega), w81 w1]
      exact xM_er (f1.tr w2) rfl rfl w1
    simp only [gd_O hk.1.1]
    rw [s1.1.2.1.1, s1.1.2.1.2.1, s1.1.2.1.2.2]
    by_cases c1 : T1.1 = 1
    · rw [if_pos c1, w_id (x := T1.2.2.1 - T1.2.1) (by omega) (by omega)]
      by_cases c2 : T1.2.2.1 - T1.2.1 ≤ 6
      · rw [if_neg (by omega), if_pos (show T1.1 = 1 ∧ T1.2.2.1 - T1.2.1 ≤ 6 from ⟨c1, c2⟩), R_TM_playerTold_51, gd_O hk.1.1, G_w0 hk, cV_some, gd_O hk.1.1, if_pos s1.2.1.1]
        have good : xM g u t b n (run M_TM_playerTold 81 [vA t, vI p, vN] [vI 0, vA t] g v1) (xb (xSup b n p 5 0 T1 (aNm A p b T1)) fun q => xb (xNum b n q.1 0 9) fun z => xb (xEnd b n z.1) fun T' => .ok (T', aSetPl q.2 p (psSt (aPl q.2 p) z.2))) := by
          rw [R_TM_playerTold_81, gd_O hk.1.1, G_w0 hk, cV_some, gd_O hk.1.1, if_pos s1.2.1.1]
          simp only [gd_O hk.1.1]
          rw [s1.1.2.1.2.1, s1.1.2.1.2.2, w_id (x := T1.2.2.1 - T1.2.1) (by omega) (by omega), TM_put hk.1 hp (by decide) (by decide), cV_some]
          obtain ⟨v2, hv2⟩ : ∃ v, v = up v1 (t + 1) (5 + 14 * p + 7) (T1.2.2.1 - T1.2.1) := ⟨_, rfl⟩
          have f2 : ∀ (a : Nat) (k : Int), ¬ (a = t + 1 ∧ k = 5 + 14 * p + 7) → v2 a k = v1 a k := fun a k z => by rw [hv2, up_n z]
          have m2 : MdT v2 t b n T1 := s1.1.fr fun a k _ z _ _ => f2 a k (by omega)
          obtain ⟨v3, e3, n3, f3⟩ := TM_letters (g := g) hk hp m2 c2
          have f23 : ∀ (a : Nat) (k : Int), ¬ (a = t + 1 ∧ 5 + 14 * p + 7 ≤ k ∧ k < 19 + 14 * p) → v3 a k = v1 a k := fun a k z => by rw [f3 a k (by omega), f2 a k (by omega)]
          have hpl : plM (v3 (t + 1)) (5 + 14 * p) = psNm (aPl A p) (T1.2.2.1 - T1.2.1) fun k => b (T1.2.1 + k) := by
            rw [← G_plA hp s1]
            unfold plM psNm
            rw [f23 (t + 1) (5 + 14 * p) (by omega), f23 (t + 1) (5 + 14 * p + 1) (by omega), show v3 (t + 1) (5 + 14 * p + 7) = T1.2.2.1 - T1.2.1 by rw [f3 _ _ (by omega), hv2, up_s], cl_ext (n := 5) (f := fun k => v3 (t + 1) (5 + 14 * p + 2 + k)) (f' := fun k => v1 (t + 1) (5 + 14 * p + 2 + k)) (fun k k0 k1 => f23 _ _ (by omega)), cl_ext (n := T1.2.2.1 - T1.2.1) (f := fun k => v3 (t + 1) (5 + 14 * p + 8 + k)) (f' := fun k => b (T1.2.1 + k)) (fun k k0 k1 => by rw [show 5 + 14 * p + 8 + k = 5 + 14 * p + (8 + k) by omega]; exact n3 k k0 k1)]
          have s3 := G_put (v := v3) hp s1 hn (fun a k z => f23 a k (by omega)) hpl
          have hn3 : nOk (aNm A p b T1) := by
            obtain ⟨q1, q2, q3⟩ := hn
            rcases hp with rfl | rfl
            · exact ⟨q1, ⟨by show 0 ≤ T1.2.2.1 - T1.2.1; omega, c2⟩, q3⟩
            · exact ⟨q1, q2, ⟨by show 0 ≤ T1.2.2.1 - T1.2.1; omega, c2⟩⟩
          obtain ⟨v4, e4, s4, f4⟩ := G_go (g := g) hk s3
          have fr4 : FP t u v4 := (f1.tr fun a k _ z _ _ => f23 a k (by omega)).tr f4
          rw [← hv2, e3, R_TM_playerTold_111]
          simp only [gd_O hk.1.1]
          rw [f23 t 20 (by omega), f23 t 19 (by omega), s1.1.2.1.2.1, s1.1.2.1.2.2, w_id (x := T1.2.2.1 - T1.2.1) (by omega) (by omega), if_neg (by omega), e4, cV_some]
          obtain ⟨v5, f5, ⟨e, x5, e5, m5⟩ | ⟨a5, x5, e5, m5, n5⟩⟩ := TM_sup (g := g) hk hp 5 0 v4 T1 (aNm A p b T1) (by decide) (by decide) hn3 s4
          · rw [x5]
            exact xM_er (fr4.tr f5) rfl e5 m5
          · rw [e5, x5, R_TM_playerTold_156, if_neg (by decide), gd_O hk.1.1]
            show xM g u t b n _ (xb (xNum b n a5.1 0 9) fun z => xb (xEnd b n z.1) fun T' => .ok (T', aSetPl a5.2 p (psSt (aPl a5.2 p) z.2)))
            rcases G_number (g := g) (lo := 0) (hi := 9) hk m5 (by decide) with ⟨v6, z6, x6, b6, e6, s6, f6⟩ | ⟨v6, e, x6, e6, s6, f6⟩
            · obtain ⟨x, hx⟩ : ∃ x, x = up v6 (t + 1) (5 + 14 * p + 1) z6 := ⟨_, rfl⟩
              have hpl6 : plM (x (t + 1)) (5 + 14 * p) = psSt (aPl a5.2 p) z6 := by
                rw [hx, up_set, plM_st, G_plA hp s6]
              have s7 := G_put (v := x) hp s6 n5 (fun a j z => by rw [hx, up_n (by omega)]) hpl6
              have f7 : FP t v6 x := fun a j _ z _ _ => by rw [hx, up_o z]
              rw [e6, cI_some, gd_O hk.1.1, TM_put hk.1 hp (by decide) (by decide), cV_some, gd_O hk.1.1, ← hx, xNum_y x6]
              obtain ⟨v8, e8, f8, x8⟩ := G_semi (g := g) hk s7
              rw [e8, cV_some]
              exact ⟨v8, rfl, (((fr4.tr f5).tr f6).tr f7).tr f8, x8⟩
            · obtain ⟨x, hx⟩ : ∃ x, x = up v6 (t + 1) (5 + 14 * p + 1) 0 := ⟨_, rfl⟩
              have fx : ∀ (a : Nat) (j : Int), a ≠ t + 1 → x a j = v6 a j := fun a j z => by rw [hx, up_o z]
              have hE : MdE x t b n e := s6.fr fun a j _ z _ _ => fx a j z
              rw [e6, cI_some, gd_O hk.1.1, TM_put hk.1 hp (by decide) (by decide), cV_some, gd_O hk.1.1, ← hx, xNum_n x6, W_semi hk hE.2.1, cV_some]
              exact xM_er (((fr4.tr f5).tr f6).tr fun a j _ z _ _ => fx a j z) rfl rfl hE
        rcases hp with rfl | rfl
        · rw [if_neg (show ¬ (0 : Int) = 1 by decide), if_neg (show ¬ ((0 : Int) ≠ 0 ∧ nmB A b T1 = true) from fun z => z.1 rfl)]
          exact good
        · rw [if_pos rfl, gd_O hk.1.1, TM_hasName hk s1.1 s1.2.2 c2, cI_some]
          by_cases c3 : nmB A b T1 = true
          · obtain ⟨w1, w2⟩ := wE_E s1.1 4
            have w22 := w1.2.1
            rw [bI_t c3, if_neg (show ¬ (1 : Int) = 0 by decide), if_pos (show (1 : Int) ≠ 0 ∧ nmB A b T1 = true from ⟨by decide, c3⟩), R_TM_playerTold_81, gd_O hk.1.1, G_w1 hk s1.2.1.1, cV_some, gd_O hk.1.1, if_neg (by omega)]
            exact xM_er (f1.tr w2) rfl rfl w1
          · rw [bI_f c3, if_pos rfl, if_neg (fun z => c3 z.2)]
            exact good
      · rw [if_pos (by omega), if_neg (show ¬ (T1.1 = 1 ∧ T1.2.2.1 - T1.2.1 ≤ 6) from fun z => c2 z.2)]
        exact bad
    · rw [if_neg c1, if_neg (show ¬ (T1.1 = 1 ∧ T1.2.2.1 - T1.2.1 ≤ 6) from fun z => c1 z.1)]
      exact bad
  · obtain ⟨w1, w2⟩ := wE_E h.1 1
    have w22 := w1.2.1
    rw [bI_f c0, if_pos rfl, if_neg c0, R_TM_playerTold_15, gd_O hk.1.1, G_w1 hk h.2.1.1, cV_some, gd_O hk.1.1, W_go hk w22, cV_some]
    simp only [gd_O hk.1.1, w51 w1, ite_self]
    exact xM_er w2 rfl rfl w1
end
