/-! ===== the reference loads a setup, plays a script ===== -/
theorem absM_clr {m : Int → Int} {c q : Int} (h0 : m 0 = c) (h1 : m 1 = q) (h : ∀ k : Int, 2 ≤ k → k < 417 → m k = 0) : absM m = aClr c q := by
  have pc : pcM m = fun _ _ => 0 := by
    funext i
    unfold pcM
    split
    · rw [h 4 (by decide) (by decide), cl_e (Int.le_refl _)]
    · rfl
  have pl : ∀ j : Int, 5 ≤ j → j ≤ 19 → plM m j = pZ := fun j j0 j1 => by
    unfold plM pZ
    rw [h j (by omega) (by omega), h (j + 1) (by omega) (by omega), h (j + 7) (by omega) (by omega), cl_e (Int.le_refl _), cl_ext (n := 5) (f := fun k => m (j + 2 + k)) (f' := fun _ => 0) (fun k k0 k1 => h _ (by omega) (by omega)), cl_0]
  have bd : bdM m = (c, q, cl 64 (fun _ => -1), fun _ => 0) := by
    unfold bdM
    rw [h0, h1, cl_ext (n := 64) (f := fun j => enc (m (33 + j))) (f' := fun _ => -1) (fun k k0 k1 => by show enc (m (33 + k)) = -1; rw [h _ (by omega) (by omega)]; rfl), cl_ext (n := 128) (f := fun k => m (97 + 64 * (k % 2) + k / 2)) (f' := fun _ => 0) (fun k k0 k1 => h _ (by omega) (by omega)), cl_0]
  unfold absM aClr
  rw [bd, pc, pl 5 (by decide) (by decide), pl 19 (by decide) (by decide), h 4 (by decide) (by decide), h 2 (by decide) (by decide), h 3 (by decide) (by decide)]
theorem absM_hd {m m' : Int → Int} (hn : nOk (absM m)) (h : ∀ k : Int, 2 ≤ k → m' k = m k) : absM m' = ((m' 0, m' 1, (absM m).bd.2.2), (absM m).2) := by
  have n1 : m 12 ≤ 6 := hn.2.1.2
  have n2 : m 26 ≤ 6 := hn.2.2.2
  unfold absM
  rw [h 4 (by omega), pcM_o (h 4 (by omega)) (fun k k0 => h k (by omega)), plM_o (b := 5) n1 (fun k k0 k1 => h k (by omega)), plM_o (b := 19) n2 (fun k k0 k1 => h k (by omega)), h 2 (by omega), h 3 (by omega)]
  unfold bdM
  rw [cl_ext (n := 64) (f := fun j => enc (m' (33 + j))) (f' := fun j => enc (m (33 + j))) (fun k k0 k1 => by show enc (m' (33 + k)) = enc (m (33 + k)); rw [h _ (by omega)]), cl_ext (n := 128) (f := fun k => m' (97 + 64 * (k % 2) + k / 2)) (f' := fun k => m (97 + 64 * (k % 2) + k / 2)) (fun k k0 k1 => h _ (by omega))]
theorem clr_n {c q : Int} : nOk (aClr c q) := ⟨⟨Int.le_refl 0, show (0 : Int) ≤ 32 by decide⟩, ⟨Int.le_refl 0, show (0 : Int) ≤ 6 by decide⟩, Int.le_refl 0, show (0 : Int) ≤ 6 by decide⟩
/-- what a load, a play may alter in the reference -/
def FlM (t : Nat) (u u' : PM) : Prop := ∀ (a : Nat) (k : Int), ¬ (a = t ∧ (k = 6 ∨ k = 7 ∨ k = 13 ∨ (15 ≤ k ∧ k ≤ 23))) → a ≠ t + 1 → a ≠ t + 3 → a ≠ t + 5 → a ≠ t + 9 → a ≠ t + 10 → u' a k = u a k
/-- started: the state put by, the thrown code cleared -/
def St0 (u : PM) (t : Nat) (v : PM) : Prop := (∀ k : Int, 0 ≤ k → k < 417 → v (t + 5) k = u (t + 1) k) ∧ v t 7 = 0 ∧ ∀ (a : Nat) (k : Int), ¬ (a = t ∧ (k = 7 ∨ (15 ≤ k ∧ k ≤ 23))) → a ≠ t + 5 → v a k = u a k
/-- the answer of a load, of a play: reference -/
def LdM (g : PG) (u : PM) (t : Nat) (c : Option PO) (X : Except ER (Int × AS)) (val : Int × AS → Int) : Prop :=
  ∃ u', FlM t u u' ∧ rOk g u' t ∧ u' t 13 = 0 ∧ u' t 7 = 0 ∧ ((∃ e, X = .error e ∧ c = some (0, vI (-1), g, u') ∧ u' t 15 = e.1 ∧ u' t 16 = e.2 ∧ absM (u' (t + 1)) = absM (u (t + 1)) ∧ hM u' t = hM u t) ∨ (∃ a, X = .ok a ∧ c = some (0, vI (val a), g, u') ∧ u' t 15 = 0 ∧ u' t 16 = -1 ∧ absM (u' (t + 1)) = a.2 ∧ hM u' t = hPush (hM u t) (absM (u (t + 1)))))
section
variable {g : PG} {u : PM} {t : Nat} {b : Int → Int} {n : Int} {T : TkS} {A : AS}
theorem TM_cp {p q : Nat} (hp : KA g p (2, 0, 417)) (hq : KA g q (2, 0, 417)) : call M_TM_copy [vA p, vI 0, vA q, vI 0] g u = some (0, vN, g, cpy u p q 0 0 417) := by
  rw [C_TM_copy, gd_C hp hq (by decide) (by decide) (by decide) (by decide) (by decide) (by decide)]
theorem TM_starts (hk : kMd g t) (h5 : KA g (t + 5) (2, 0, 417)) (hB : MdB u t b n) : ∃ v, call M_TM_starts [vA t] g u = some (0, vN, g, v) ∧ MdS v t b n (tkAt b n 0) (absM (u (t + 1))) ∧ St0 u t v := by
  obtain ⟨x, hx⟩ : ∃ x, x = up (up (up (up (up u t 7 0) t 20 0) t 22 0) t 15 0) t 16 (-1) := ⟨_, rfl⟩
  have fx : ∀ (a : Nat) (k : Int), ¬ (a = t ∧ (k = 7 ∨ (15 ≤ k ∧ k ≤ 23))) → x a k = u a k := fun a k z => by rw [hx, up_n (by omega), up_n (by omega), up_n (by omega), up_n (by omega), up_n (by omega)]
  obtain ⟨y, hy⟩ : ∃ y, y = cpy x (t + 1) (t + 5) 0 0 417 := ⟨_, rfl⟩
  have fy : ∀ (a : Nat) (k : Int), a ≠ t + 5 → y a k = x a k := fun a k z => by rw [hy, cpy_o z]
  have hBy : MdB y t b n := by
    refine ⟨by rw [fy _ _ (by omega), fx _ _ (by omega)]; exact hB.1, hB.2.1, hB.2.2.1, fun k k0 k1 => by rw [fy _ _ (by omega), fx _ _ (by omega)]; exact hB.2.2.2.1 k k0 k1, hB.2.2.2.2⟩
  have y20 : y t 20 = 0 := by rw [fy _ _ (by omega), hx, up_j (by decide), up_j (by decide), up_j (by decide), up_s]
  obtain ⟨v, e1, m1, f1⟩ := TM_next (g := g) hk hBy (by omega) (by rw [y20]; exact hB.2.1)
  rw [y20] at m1
  refine ⟨v, ?_, ⟨m1, ⟨?_, ?_, ?_⟩, ?_⟩, ?_, ?_, fun a k z1 z2 => by rw [f1 a k (by omega), fy a k z2, fx a k z1]⟩
  · rw [C_TM_starts]
    simp only [gd_O hk.1.1, b01_0, cond_true]
    rw [← hx, R_TM_starts_25]
    simp only [gd_O hk.1.1]
    rw [TM_cp hk.1.2.1 h5, cV_some, gd_O hk.1.1, ← hy, e1, cV_some]
  · rw [f1 t 22 (by omega), fy t 22 (by omega), hx, up_j (by decide), up_j (by decide), up_s]
  · rw [f1 t 15 (by omega), fy t 15 (by omega), hx, up_j (by decide), up_s]
  · rw [f1 t 16 (by omega), fy t 16 (by omega), hx, up_s]
  · rw [show v (t + 1) = u (t + 1) from funext fun k => by rw [f1 _ k (by omega), fy _ k (by omega), fx _ k (by omega)]]
  · intro k k0 k1
    rw [f1 _ _ (by omega), hy, cpy_q k0 k1, fx _ _ (by omega)]
  · rw [f1 t 7 (by omega), fy t 7 (by omega), hx, up_j (by decide), up_j (by decide), up_j (by decide), up_j (by decide), up_s]
/-- commands ended wrong -/
theorem TM_26er (hk : kMd g t) (h5 : KA g (t + 5) (2, 0, 417)) (hr : rOk g u t) (hn : nOk (absM (u (t + 1)))) {v0 v : PM} {e : ER} (s0 : St0 u t v0) (f : FP t v0 v) (hE : MdE v t b n e) (j : Int) : ∃ y, run M_TM_commands 26 [vA t, vI j] [] g v = some (0, vI (-1), g, y) ∧ FlM t u y ∧ rOk g y t ∧ y t 13 = 0 ∧ y t 7 = 0 ∧ y t 15 = e.1 ∧ y t 16 = e.2 ∧ absM (y (t + 1)) = absM (u (t + 1)) ∧ hM y t = hM u t := by
  obtain ⟨x, hx⟩ : ∃ x, x = up v t 13 0 := ⟨_, rfl⟩
  obtain ⟨y, hy⟩ : ∃ y, y = cpy x (t + 5) (t + 1) 0 0 417 := ⟨_, rfl⟩
  have fy : ∀ (a : Nat) (k : Int), ¬ (a = t ∧ k = 13) → a ≠ t + 1 → y a k = v a k := fun a k z1 z2 => by rw [hy, cpy_o z2, hx, up_n z1]
  have w22 := hE.2.1
  have y22 : y t 22 = 1 := by rw [fy t 22 (by omega) (by omega), w22]
  have fl : FlM t u y := fun a k z1 z2 z3 z4 z5 z6 => by rw [fy a k (by omega) z2, f a k (by omega) z2 z5 z6, s0.2.2 a k (by omega) z4]
  have h6 : y t 6 = u t 6 := by rw [fy t 6 (by omega) (by omega), f t 6 (by omega) (by omega) (by omega) (by omega), s0.2.2 t 6 (by omega) (by omega)]
  have h3 : y (t + 3) = u (t + 3) := funext fun k => by rw [fy _ k (by omega) (by omega), f _ k (by omega) (by omega) (by omega) (by omega), s0.2.2 _ k (by omega) (by omega)]
  refine ⟨y, ?_, fl, rOk_fr h6 h3 hr, ?_, ?_, ?_, ?_, ?_, hM_fr h6 h3⟩
  · rw [R_TM_commands_26]
    simp only [gd_O hk.1.1]
    rw [up_j (by decide), if_neg (by omega), ← hx, TM_cp h5 hk.1.2.1, cV_some, R_TM_commands_62, gd_O hk.1.1, ← hy, if_neg (by omega)]
  · rw [hy, cpy_o (by omega), hx, up_s]
  · rw [fy t 7 (by omega) (by omega), f t 7 (by omega) (by omega) (by omega) (by omega), s0.2.1]
  · rw [fy t 15 (by omega) (by omega), hE.2.2.1]
  · rw [fy t 16 (by omega) (by omega), hE.2.2.2]
  · refine absM_o hn fun k k0 k1 => ?_
    rw [hy, cpy_q k0 k1, hx, up_o (by omega), f _ _ (by omega) (by omega) (by omega) (by omega), s0.1 k k0 k1]
/-- commands ended right -/
theorem TM_26ok (hk : kMd g t) (h5 : KA g (t + 5) (2, 0, 417)) (hr : rOk g u t) (hn : nOk (absM (u (t + 1)))) {v0 v : PM} (s0 : St0 u t v0) (f : FP t v0 v) (hS : MdS v t b n T A) (j : Int) : ∃ y, run M_TM_commands 26 [vA t, vI j] [] g v = some (0, vI j, g, y) ∧ FlM t u y ∧ rOk g y t ∧ y t 13 = 0 ∧ y t 7 = 0 ∧ y t 15 = 0 ∧ y t 16 = -1 ∧ absM (y (t + 1)) = A ∧ hM y t = hPush (hM u t) (absM (u (t + 1))) := by
  obtain ⟨x, hx⟩ : ∃ x, x = up v t 13 0 := ⟨_, rfl⟩
  have fx : ∀ (a : Nat) (k : Int), ¬ (a = t ∧ k = 13) → x a k = v a k := fun a k z => by rw [hx, up_n z]
  have h6 : x t 6 = u t 6 := by rw [fx t 6 (by omega), f t 6 (by omega) (by omega) (by omega) (by omega), s0.2.2 t 6 (by omega) (by omega)]
  have h3 : x (t + 3) = u (t + 3) := funext fun k => by rw [fx _ k (by omega), f _ k (by omega) (by omega) (by omega) (by omega), s0.2.2 _ k (by omega) (by omega)]
  have hb : absM (x (t + 5)) = absM (u (t + 1)) := absM_o hn fun k k0 k1 => by rw [fx _ k (by omega), f _ k (by omega) (by omega) (by omega) (by omega), s0.1 k k0 k1]
  obtain ⟨y, e1, m1, r1, fy⟩ := TM_remember (g := g) (u := x) (t := t) (p := t + 5) (rOk_fr h6 h3 hr) h5 (by omega) (by rw [hb]; exact hn)
  rw [hb, hM_fr h6 h3] at m1
  have y22 : y t 22 = 0 := by rw [fy t 22 (by omega) (by omega), fx t 22 (by omega), hS.2.1.1]
  refine ⟨y, ?_, fun a k z1 z2 z3 z4 z5 z6 => by rw [fy a k z3 (by omega), fx a k (by omega), f a k (by omega) z2 z5 z6, s0.2.2 a k (by omega) z4], r1, ?_, ?_, ?_, ?_, ?_, m1⟩
  · have v22 := hS.2.1.1
    rw [R_TM_commands_26]
    simp only [gd_O hk.1.1]
    rw [up_j (by decide), if_pos v22, ← hx, e1, cV_some, R_TM_commands_62, gd_O hk.1.1, if_pos y22]
  · rw [fy t 13 (by omega) (by omega), hx, up_s]
  · rw [fy t 7 (by omega) (by omega), fx t 7 (by omega), f t 7 (by omega) (by omega) (by omega) (by omega), s0.2.1]
  · rw [fy t 15 (by omega) (by omega), fx t 15 (by omega), hS.2.1.2.1]
  · rw [fy t 16 (by omega) (by omega), fx t 16 (by omega), hS.2.1.2.2]
  · rw [show y (t + 1) = v (t + 1) from funext fun k => by rw [fy _ k (by omega) (by omega), fx _ k (by omega)]]
    exact hS.2.2
theorem TM_play (hk : kMd g t) (h5 : KA g (t + 5) (2, 0, 417)) (hr : rOk g u t) (hB : MdB u t b n) (hw : wf (absM (u (t + 1)))) : LdM g u t (call M_TM_play [vA t] g u) (xPlay b n (absM (u (t + 1)))) fun a => a.1 := by
  obtain ⟨v0, e0, m0, s0⟩ := TM_starts (g := g) hk h5 hB
  have hT := m0.1.2.2.2
  unfold tOkk at hT
  obtain ⟨v, j, f1, e1, h1⟩ := TM_cmds2 (g := g) hk 601 0 v0 _ _ (by decide) (by decide) (by omega) m0 hw
  rw [C_TM_play, gd_O hk.1.1, e0, cV_some, gd_O hk.1.1, C_TM_commands, e1]
  unfold xPlay
  rcases h1 with ⟨e, x1, m1⟩ | ⟨a, x1, hj, T', m1⟩
  · obtain ⟨y, e2, y1, y2, y3, y4, y5, y6, y7, y8⟩ := TM_26er (g := g) hk h5 hr (wf_n hw) s0 f1 m1 j
    rw [e2, cI_some, x1]
    exact ⟨y, y1, y2, y3, y4, Or.inl ⟨e, rfl, rfl, y5, y6, y7, y8⟩⟩
  · obtain ⟨y, e2, y1, y2, y3, y4, y5, y6, y7, y8⟩ := TM_26ok (g := g) hk h5 hr (wf_n hw) s0 f1 m1 j
    rw [e2, cI_some, x1, hj]
    exact ⟨y, y1, y2, y3, y4, Or.inr ⟨a, rfl, rfl, y5, y6, y7, y8⟩⟩
theorem TM_ld80 (hk : kMd g t) : ∀ (d : Nat) (u : PM) (T : TkS) (A : AS) (i : Int), 601 ≤ d + T.2.1 → MdS u t b n T A → wf0 A →
    ∃ v, FP t u v ∧ run M_TM_load 80 [vA t, vI i] [] g u = run M_TM_load 104 [vA t, vI i] [] g v ∧ ((∃ e, xBlks b n d T A = .error e ∧ MdE v t b n e) ∨ (∃ a, xBlks b n d T A = .ok a ∧ MdS v t b n a.1 a.2)) := by
  intro d
  induction d with
  | zero =>
    intro u T A i hT h hw
    have := h.1.2.2.2
    have := h.1.1.2.2.1
    unfold tOkk at *
    omega
  | succ d ih =>
    intro u T A i hT h hw
    rw [R_TM_load_80, gd_O hk.1.1, if_pos h.2.1.1, gd_O hk.1.1, TM_is hk h.1 wTxs.2.1 (by decide), cI_some]
    by_cases c : isW b T wBlock
    · rw [bI_t c, if_neg (show ¬ (1 : Int) = 0 by decide), gd_O hk.1.1]
      obtain ⟨v, e1, f1, ⟨e, x1, m1⟩ | ⟨a, x1, m1⟩⟩ := TM_blockTold (g := g) hk h hw.1
      · have w22 := m1.2.1
        rw [e1, cV_some, R_TM_load_80, gd_O hk.1.1, if_neg (by omega)]
        refine ⟨v, f1, rfl, Or.inl ⟨e, ?_, m1⟩⟩
        unfold xBlks
        rw [if_pos c, x1]
        rfl
      · have gr := xBlk_gr h.1.2.2.2 x1
        have o1 := h.1.2.2.2
        unfold tOkk at o1
        have ex : ∀ d' : Nat, xBlks b n (d' + 1) T A = xBlks b n d' a.1 a.2 := fun d' => by
          show (if isW b T wBlock then xb (xBlk b n T A) fun p => xBlks b n d' p.1 p.2 else .ok (T, A)) = _
          rw [if_pos c, x1]
          rfl
        have w1 : wf0 a.2 := (xBlks_ok (d := 1) (p := a) hw (by rw [ex 0]; rfl)).1
        obtain ⟨v2, f2, e2, h2⟩ := ih v a.1 a.2 i (by omega) m1 w1
        refine ⟨v2, f1.tr f2, ?_, ?_⟩
        · rw [e1, cV_some, e2]
        · rw [ex d]; exact h2
    · rw [bI_f c, if_pos rfl]
      refine ⟨u, FP.rfl', rfl, Or.inr ⟨(T, A), ?_, h⟩⟩
      unfold xBlks
      rw [if_neg c]
theorem TM_ld104 (hk : kMd g t) : ∀ (d : Nat) (u : PM) (T : TkS) (A : AS) (i : Int), 601 ≤ d + T.2.1 → MdS u t b n T A → wf0 A →
    ∃ v, FP t u v ∧ run M_TM_load 104 [vA t, vI i] [] g u = run M_TM_load 130 [vA t, vI 0] [] g v ∧ ((∃ e, xStps b n d T A = .error e ∧ MdE v t b n e) ∨ (∃ a, xStps b n d T A = .ok a ∧ MdS v t b n a.1 a.2)) := by
  intro d
  induction d with
  | zero =>
    intro u T A i hT h hw
    have := h.1.2.2.2
    have := h.1.1.2.2.1
    unfold tOkk at *
    omega
  | succ d ih =>
    intro u T A i hT h hw
    rw [R_TM_load_104, gd_O hk.1.1, if_pos h.2.1.1, gd_O hk.1.1, TM_is hk h.1 wTxs.2.2.1 (by decide), cI_some]
    by_cases c : isW b T wStrap
    · rw [bI_t c, if_neg (show ¬ (1 : Int) = 0 by decide), gd_O hk.1.1]
      obtain ⟨v, e1, f1, ⟨e, x1, m1⟩ | ⟨a, x1, m1⟩⟩ := TM_edgeTold (g := g) hk h hw.1
      · have w22 := m1.2.1
        rw [e1, cV_some, R_TM_load_104, gd_O hk.1.1, if_neg (by omega)]
        refine ⟨v, f1, rfl, Or.inl ⟨e, ?_, m1⟩⟩
        unfold xStps
        rw [if_pos c, x1]
        rfl
      · have gr := xStp_gr h.1.2.2.2 x1
        have o1 := h.1.2.2.2
        unfold tOkk at o1
        have ex : ∀ d' : Nat, xStps b n (d' + 1) T A = xStps b n d' a.1 a.2 := fun d' => by
          show (if isW b T wStrap then xb (xStp b n T A) fun p => xStps b n d' p.1 p.2 else .ok (T, A)) = _
          rw [if_pos c, x1]
          rfl
        have w1 : wf0 a.2 := (xStps_ok (d := 1) (p := a) hw (by rw [ex 0]; rfl)).1
        obtain ⟨v2, f2, e2, h2⟩ := ih v a.1 a.2 i (by omega) m1 w1
        refine ⟨v2, f1.tr f2, ?_, ?_⟩
        · rw [e1, cV_some, e2]
        · rw [ex d]; exact h2
    · rw [bI_f c, if_pos rfl]
      refine ⟨u, FP.rfl', rfl, Or.inr ⟨(T, A), ?_, h⟩⟩
      unfold xStps
      rw [if_neg c]
theorem xCmds_k : ∀ (d : Nat) (k : Int) (T : TkS) (A : AS) (q : Int × AS), xCmds b n d k T A = .ok q → k ≤ q.1
  | 0, k, T, A, q, h => by
    injection h with h
    rw [← h]
    exact Int.le_refl _
  | d + 1, k, T, A, q, h => by
    unfold xCmds at h
    by_cases c : T.1 = 0
    · rw [if_pos c] at h
      injection h with h
      rw [← h]
      exact Int.le_refl _
    · rw [if_neg c] at h
      obtain ⟨p, _, h⟩ := xb_ok h
      obtain ⟨T', _, h⟩ := xb_ok h
      have := xCmds_k d (k + 1) T' p.2 q h
      omega
theorem TM_ld6 (hk : kMd g t) : ∀ (d : Nat) (i : Int) (u : PM), i + d = 417 → 0 ≤ i → (∀ k : Int, 0 ≤ k → k < i → u (t + 1) k = 0) → ∃ v, run M_TM_load 6 [vA t, vI i] [] g u = run M_TM_load 6 [vA t, vI 417] [] g v ∧ (∀ k : Int, 0 ≤ k → k < 417 → v (t + 1) k = 0) ∧ ∀ (a : Nat) (k : Int), a ≠ t + 1 → v a k = u a k := by
  intro d
  induction d with
  | zero =>
    intro i u hd i0 hu
    exact ⟨u, by rw [show i = 417 by omega], fun k k0 k1 => hu k k0 (by omega), fun _ _ _ => rfl⟩
  | succ d ih =>
    intro i u hd i0 hu
    obtain ⟨v, e1, z1, f1⟩ := ih (i + 1) (up u (t + 1) i 0) (by omega) (by omega) (fun k k0 k1 => by
      by_cases e : k = i
      · rw [e, up_s]
      · rw [up_j e]; exact hu k k0 (by omega))
    refine ⟨v, ?_, z1, fun a k z => by rw [f1 a k z, up_o z]⟩
    rw [R_TM_load_6, if_pos (by omega), gd_O hk.1.1, gd_W hk.1.2.1 i0 (by omega), w_id (x := i + 1) (by omega) (by omega), e1]
theorem TM_load (hk : kMd g t) (h5 : KA g (t + 5) (2, 0, 417)) (hr : rOk g u t) (hB : MdB u t b n) (hw : wf (absM (u (t + 1)))) : LdM g u t (call M_TM_load [vA t] g u) (xLoad b n) fun a => bCnt a.2.bd (-1) := by
  obtain ⟨v0, e0, m0, s0⟩ := TM_starts (g := g) hk h5 hB
  have hn := wf_n hw
  -- wrong: to the end
  have w153 : ∀ {v : PM} {e : ER}, FP t v0 v → MdE v t b n e → ∀ i : Int, LdM g u t (run M_TM_load 153 [vA t, vI i] [] g v) (.error e) fun a => bCnt a.2.bd (-1) := fun {v e} f m i => by
    have w22 := m.2.1
    obtain ⟨y, e2, y1, y2, y3, y4, y5, y6, y7, y8⟩ := TM_26er (g := g) hk h5 hr hn s0 f m 0
    rw [R_TM_load_153, gd_O hk.1.1, C_TM_commands, R_TM_commands_2, gd_O hk.1.1, if_neg (by omega), e2, cI_some, if_pos rfl]
    exact ⟨y, y1, y2, y3, y4, Or.inl ⟨e, rfl, rfl, y5, y6, y7, y8⟩⟩
  have w130 : ∀ {v : PM} {e : ER}, FP t v0 v → MdE v t b n e → ∀ i : Int, LdM g u t (run M_TM_load 130 [vA t, vI i] [] g v) (.error e) fun a => bCnt a.2.bd (-1) := fun {v e} f m i => by
    have w22 := m.2.1
    rw [R_TM_load_130]
    by_cases c : i < 2
    · rw [if_pos c, gd_O hk.1.1, if_neg (by omega)]
      exact w153 f m i
    · rw [if_neg c]
      exact w153 f m i
  have w80 : ∀ {v : PM} {e : ER}, FP t v0 v → MdE v t b n e → ∀ i : Int, LdM g u t (run M_TM_load 80 [vA t, vI i] [] g v) (.error e) fun a => bCnt a.2.bd (-1) := fun {v e} f m i => by
    have w22 := m.2.1
    rw [R_TM_load_80, gd_O hk.1.1, if_neg (by omega), R_TM_load_104, gd_O hk.1.1, if_neg (by omega)]
    exact w130 f m 0
  -- right: commands
  have g153 : ∀ {v : PM} {T : TkS} {A : AS}, FP t v0 v → MdS v t b n T A → wf A → ∀ i : Int, LdM g u t (run M_TM_load 153 [vA t, vI i] [] g v) (xCmds b n 601 0 T A) fun a => bCnt a.2.bd (-1) := fun {v T A} f m w i => by
    have hT := m.1.2.2.2
    unfold tOkk at hT
    obtain ⟨v2, j, f2, e1, h1⟩ := TM_cmds2 (g := g) hk 601 0 v _ _ (by decide) (by decide) (by omega) m w
    rw [R_TM_load_153, gd_O hk.1.1, C_TM_commands, e1]
    rcases h1 with ⟨e, x1, m1⟩ | ⟨a, x1, hj, T', m1⟩
    · obtain ⟨y, e2, y1, y2, y3, y4, y5, y6, y7, y8⟩ := TM_26er (g := g) hk h5 hr hn s0 (f.tr f2) m1 j
      rw [e2, cI_some, if_pos rfl, x1]
      exact ⟨y, y1, y2, y3, y4, Or.inl ⟨e, rfl, rfl, y5, y6, y7, y8⟩⟩
    · have ha := xCmds_ok w x1
      have hk0 := xCmds_k _ _ _ _ _ x1
      obtain ⟨y, e2, y1, y2, y3, y4, y5, y6, y7, y8⟩ := TM_26ok (g := g) hk h5 hr hn s0 (f.tr f2) m1 j
      have hmo : mOk (y (t + 1)) := (wf_s (by rw [y7]; exact ha)).1
      have hb : bdM (y (t + 1)) = a.2.bd := congrArg AS.bd y7
      rw [e2, cI_some, if_neg (by omega), gd_O hk.1.1, TM_allEmpty hk.1 hmo, cI_some, hb, x1]
      exact ⟨y, y1, y2, y3, y4, Or.inr ⟨a, rfl, rfl, y5, y6, y7, y8⟩⟩
  have g130 : ∀ {v : PM} {T : TkS} {A : AS}, FP t v0 v → MdS v t b n T A → wf0 A → LdM g u t (run M_TM_load 130 [vA t, vI 0] [] g v) (xb (xPl b n 0 T A) fun p => xb (xPl b n 1 p.1 p.2) fun p => xCmds b n 601 0 p.1 p.2) fun a => bCnt a.2.bd (-1) := fun {v T A} f m w => by
    rw [R_TM_load_130, if_pos (by decide), gd_O hk.1.1, if_pos m.2.1.1, gd_O hk.1.1]
    obtain ⟨v2, e2, f2, ⟨e, x2, m2⟩ | ⟨a, x2, m2⟩⟩ := TM_playerTold (g := g) (p := 0) hk (Or.inl rfl) m (wf_n w.1)
    · rw [e2, cV_some, x2]
      exact w130 (f.tr f2) m2 _
    · have wa := xPl_ok m.1.2.2.2 (Or.inl rfl) w x2
      rw [e2, cV_some, x2, w_id (x := (0 : Int) + 1) (by decide) (by decide), R_TM_load_130, if_pos (by decide), gd_O hk.1.1, if_pos m2.2.1.1, gd_O hk.1.1]
      show LdM g u t _ (xb (xPl b n 1 a.1 a.2) fun p => xCmds b n 601 0 p.1 p.2) _
      obtain ⟨v3, e3, f3, ⟨e, x3, m3⟩ | ⟨a3, x3, m3⟩⟩ := TM_playerTold (g := g) (p := 1) hk (Or.inr rfl) m2 (wf_n wa.1.1)
      · rw [show (0 : Int) + 1 = 1 from rfl, e3, cV_some, x3]
        exact w130 ((f.tr f2).tr f3) m3 _
      · have wb := xPl_ok m2.1.2.2.2 (Or.inr rfl) wa.1 x3
        rw [show (0 : Int) + 1 = 1 from rfl, e3, cV_some, x3, w_id (x := (1 : Int) + 1) (by decide) (by decide), R_TM_load_130, if_neg (by decide)]
        exact g153 ((f.tr f2).tr f3) m3 wb.1.1 _
  have g80 : ∀ {v : PM} {T : TkS} {A : AS}, FP t v0 v → MdS v t b n T A → wf0 A → ∀ i : Int, LdM g u t (run M_TM_load 80 [vA t, vI i] [] g v) (xb (xBlks b n 601 T A) fun p => xb (xStps b n 601 p.1 p.2) fun p => xb (xPl b n 0 p.1 p.2) fun p => xb (xPl b n 1 p.1 p.2) fun p => xCmds b n 601 0 p.1 p.2) fun a => bCnt a.2.bd (-1) := fun {v T A} f m w i => by
    have hT := m.1.2.2.2
    unfold tOkk at hT
    obtain ⟨v2, f2, e2, h2⟩ := TM_ld80 (g := g) hk 601 v T A i (by omega) m w
    rw [e2]
    rcases h2 with ⟨e, x2, m2⟩ | ⟨a, x2, m2⟩
    · have w22 := m2.2.1
      rw [x2, R_TM_load_104, gd_O hk.1.1, if_neg (by omega)]
      exact w130 (f.tr f2) m2 0
    · have wa := xBlks_ok w x2
      have hT2 := m2.1.2.2.2
      unfold tOkk at hT2
      rw [x2]
      show LdM g u t _ (xb (xStps b n 601 a.1 a.2) fun p => xb (xPl b n 0 p.1 p.2) fun p => xb (xPl b n 1 p.1 p.2) fun p => xCmds b n 601 0 p.1 p.2) _
      obtain ⟨v3, f3, e3, h3⟩ := TM_ld104 (g := g) hk 601 v2 a.1 a.2 i (by omega) m2 wa.1
      rw [e3]
      rcases h3 with ⟨e, x3, m3⟩ | ⟨a3, x3, m3⟩
      · rw [x3]
        exact w130 ((f.tr f2).tr f3) m3 0
      · rw [x3]
        exact g130 ((f.tr f2).tr f3) m3 (xStps_ok wa.1 x3).1
  -- the head
  obtain ⟨v1, e1, z1, f1⟩ := TM_ld6 (g := g) hk 417 0 v0 (by decide) (by decide) (fun k k0 k1 => by omega)
  have f1' : FP t v0 v1 := fun a k _ z _ _ => f1 a k z
  have m1 : MdS v1 t b n (tkAt b n 0) (aClr 0 0) := m0.fr (fun a k _ z _ _ => f1 a k z) (absM_clr (z1 0 (by decide) (by decide)) (z1 1 (by decide) (by decide)) fun k k0 k1 => z1 k (by omega) k1)
  rw [C_TM_load, gd_O hk.1.1, e0, cV_some, e1, R_TM_load_6, if_neg (by decide), gd_O hk.1.1, TM_is hk m1.1 wTxs.1 (by decide), cI_some]
  unfold xLoad xSize
  obtain ⟨T0, hT0⟩ : ∃ T0, T0 = tkAt b n 0 := ⟨_, rfl⟩
  rw [← hT0] at m1 ⊢
  have h42e : ∀ {v : PM} {e : ER}, FP t v0 v → MdE v t b n e → ∃ v', FP t v0 v' ∧ MdE v' t b n e ∧ call M_TM_semicolon [vA t] g (up (up v (t + 1) 0 3) (t + 1) 1 3) = some (0, vN, g, v') := fun {v e} f m => by
    have m' : MdE (up (up v (t + 1) 0 3) (t + 1) 1 3) t b n e := m.fr fun a k _ z _ _ => by rw [up_o z, up_o z]
    exact ⟨_, fun a k q1 q2 q3 q4 => by rw [up_o q2, up_o q2, f a k q1 q2 q3 q4], m', W_semi hk m'.2.1⟩
  by_cases c0 : isW b T0 wTrunk
  · rw [bI_t c0, if_neg (show ¬ (1 : Int) = 0 by decide), if_pos c0, R_TM_load_42, gd_O hk.1.1, G_w0 hk, cV_some, gd_O hk.1.1]
    obtain ⟨v2, e2, m2, f2⟩ := G_go (g := g) hk m1
    have fr2 := f1'.tr f2
    rw [e2, cV_some]
    simp only [gd_O hk.1.1]
    rw [xb_as]
    rcases G_number (g := g) (lo := 3) (hi := 8) hk m2 (by decide) with ⟨v3, z3, x3, b3, e3, m3, f3⟩ | ⟨v3, e, x3, e3, m3, f3⟩
    · obtain ⟨v4, hv4⟩ : ∃ v, v = up v3 (t + 1) 0 z3 := ⟨_, rfl⟩
      have f4 : ∀ (a : Nat) (k : Int), ¬ (a = t + 1 ∧ k = 0) → v4 a k = v3 a k := fun a k z => by rw [hv4, up_n z]
      have f4' : FP t v3 v4 := fun a k _ z _ _ => f4 a k (by omega)
      have m4 : MdS v4 t b n (tkAt b n (tkAt b n T0.2.2.1).2.2.1) (aClr z3 0) := m3.fr (fun a k _ z _ _ => f4 a k (by omega)) (by
        rw [absM_hd (m := v3 (t + 1)) (by rw [m3.2.2]; exact clr_n) (fun k k0 => f4 _ k (by omega)), m3.2.2, hv4, up_s, up_j (by decide), m3.e0.2.1]
        rfl)
      rw [e3, cI_some, gd_W hk.1.2.1 (by decide) (by decide)]
      simp only [gd_O hk.1.1]
      rw [← hv4, xNum_y x3]
      show LdM g u t _ (xb (xb (xNum b n (tkAt b n T0.2.2.1) 3 8) fun q => xb (xEnd b n q.1) fun T' => .ok (T', z3, q.2)) _) _
      rw [xb_as]
      rcases G_number (g := g) (lo := 3) (hi := 8) hk m4 (by decide) with ⟨v5, z5, x5, b5, e5, m5, f5⟩ | ⟨v5, e, x5, e5, m5, f5⟩
      · obtain ⟨v6, hv6⟩ : ∃ v, v = up v5 (t + 1) 1 z5 := ⟨_, rfl⟩
        have f6 : ∀ (a : Nat) (k : Int), ¬ (a = t + 1 ∧ k = 1) → v6 a k = v5 a k := fun a k z => by rw [hv6, up_n z]
        have f6' : FP t v5 v6 := fun a k _ z _ _ => f6 a k (by omega)
        have m6 : MdS v6 t b n (tkAt b n (tkAt b n (tkAt b n T0.2.2.1).2.2.1).2.2.1) (aClr z3 z5) := m5.fr (fun a k _ z _ _ => f6 a k (by omega)) (by
          rw [absM_hd (m := v5 (t + 1)) (by rw [m5.2.2]; exact clr_n) (fun k k0 => f6 _ k (by omega)), m5.2.2, hv6, up_s, up_j (by decide), m5.e0.1]
          rfl)
        rw [e5, cI_some, gd_W hk.1.2.1 (by decide) (by decide), gd_O hk.1.1, ← hv6, xNum_y x5]
        show LdM g u t _ (xb (xb (xEnd b n (tkAt b n (tkAt b n T0.2.2.1).2.2.1)) fun T' => .ok (T', z3, z5)) _) _
        obtain ⟨v7, e7, f7, h7⟩ := G_semi (g := g) hk m6
        have fr7 := ((((fr2.tr f3).tr f4').tr f5).tr f6').tr f7
        rw [e7, cV_some]
        rcases h7 with ⟨e, x7, m7⟩ | ⟨a7, x7, m7⟩
        · cases y : xEnd b n (tkAt b n (tkAt b n T0.2.2.1).2.2.1) with
          | error e' =>
            rw [y] at x7
            injection x7 with x7
            rw [x7]
            exact w80 fr7 m7 _
          | ok T' =>
            rw [y] at x7
            cases x7
        · cases y : xEnd b n (tkAt b n (tkAt b n T0.2.2.1).2.2.1) with
          | error e' =>
            rw [y] at x7
            cases x7
          | ok T' =>
            rw [y] at x7
            injection x7 with x7
            rw [← x7] at m7
            exact g80 fr7 m7 (wf0_clr b3 b5) _
      · have m6 : MdE (up v5 (t + 1) 1 3) t b n e := m5.fr fun a k _ z _ _ => up_o z
        rw [e5, cI_some, gd_W hk.1.2.1 (by decide) (by decide), gd_O hk.1.1, W_semi hk m6.2.1, cV_some, xNum_n x5]
        exact w80 ((((fr2.tr f3).tr f4').tr f5).tr fun a k _ z _ _ => up_o z) m6 _
    · have m4 : MdE (up v3 (t + 1) 0 3) t b n e := m3.fr fun a k _ z _ _ => up_o z
      obtain ⟨v5, f5, m5, e5⟩ := h42e (fr2.tr f3) m3
      rw [e3, cI_some, gd_W hk.1.2.1 (by decide) (by decide)]
      simp only [gd_O hk.1.1]
      rw [W_number hk m4.2.1, cI_some, gd_W hk.1.2.1 (by decide) (by decide), gd_O hk.1.1, e5, cV_some, xNum_n x3]
      exact w80 f5 m5 _
  · obtain ⟨w1, w2⟩ := wE_E m1.1 1
    have w22 := w1.2.1
    have m4 : MdE (up (wE v1 t 1) (t + 1) 0 3) t b n (1, T0.2.1) := w1.fr fun a k _ z _ _ => up_o z
    obtain ⟨v5, f5, m5, e5⟩ := h42e (f1'.tr w2) w1
    rw [bI_f c0, if_pos rfl, if_neg c0, R_TM_load_42, gd_O hk.1.1, G_w1 hk m1.2.1.1, cV_some, gd_O hk.1.1, W_go hk w22, cV_some]
    simp only [gd_O hk.1.1]
    rw [W_number hk w22, cI_some, gd_W hk.1.2.1 (by decide) (by decide)]
    simp only [gd_O hk.1.1]
    rw [W_number hk m4.2.1, cI_some, gd_W hk.1.2.1 (by decide) (by decide), gd_O hk.1.1, e5, cV_some]
    exact w80 f5 m5 _
end
