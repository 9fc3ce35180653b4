/-! ===== the class reads players and commands ===== -/
section
variable {g : PG} {u : PM} {r : Nat} {b : Int → Int} {n q p : Int} {T : TkS} {A : AS}
theorem plA_of {v : PM} (h : RdS v r b n q T A) (p : Int) : plT v (pAd (r + 1) p) = aPl A p := by
  rw [← h.2.2.1, aPl_T]
theorem pAd_bd (b : Nat) (p : Int) : b + 11 ≤ pAd b p ∧ pAd b p ≤ b + 14 := by unfold pAd; split <;> omega
/-- a player alone has changed -/
theorem RdS_pl {v : PM} (h : RdS u r b n q T A) (p : Int) (f : ∀ (a : Nat) (k : Int), ¬ (pAd (r + 1) p ≤ a ∧ a ≤ pAd (r + 1) p + 2) → v a k = u a k) (hk : kRd g r) : RdS v r b n q T (aSetPl A p (plT v (pAd (r + 1) p))) := by
  have hb := pAd_bd (r + 1) p
  refine RdS_dr h (fun a k z => f a k (by omega)) ?_ hk
  rw [absT_pl (u := u) p f, h.2.2.1]
theorem Rd_letters (hk : kRd g r) (h : RdS u r b n q T A) (hT : T.1 = 1) (hl : T.2.2.1 - T.2.1 ≤ 6) (h0 : (aPl A p).2.2.1 = 0) :
    ∃ v, run M_Rd_readName 37 [vA r, vI p, vI T.2.1] [] g u = run M_Rd_readName 37 [vA r, vI p, vI T.2.2.1] [] g v ∧ RdS v r b n q T (aNm A p b T) ∧ FR r u v ∧ v (pAd (r + 1) p) 2 = T.2.2.1 - T.2.1 ∧ (∀ k : Int, 0 ≤ k → k < T.2.2.1 - T.2.1 → v (pAd (r + 1) p + 1) k = b (T.2.1 + k)) ∧ ∀ (a : Nat) (k : Int), ¬ (pAd (r + 1) p ≤ a ∧ a ≤ pAd (r + 1) p + 2) → v a k = u a k := by
  have hb := pAd_bd (r + 1) p
  have hkp := kPl_pAd hk.2.1 p
  have hok := h.1.2.2.2
  have hn6 := h.1.1.2.2.1
  unfold tOkk at hok
  have hl0 : u (pAd (r + 1) p) 2 = 0 := by
    have := plA_of h p
    rw [← this] at h0
    exact h0
  have key : ∀ d : Nat, (d : Int) ≤ T.2.2.1 - T.2.1 → ∃ v, run M_Rd_readName 37 [vA r, vI p, vI T.2.1] [] g u = run M_Rd_readName 37 [vA r, vI p, vI (T.2.1 + d)] [] g v ∧ v (pAd (r + 1) p) 2 = d ∧ (∀ k : Int, 0 ≤ k → k < d → v (pAd (r + 1) p + 1) k = b (T.2.1 + k)) ∧ ∀ (a : Nat) (k : Int), ¬ (a = pAd (r + 1) p ∧ k = 2) → a ≠ pAd (r + 1) p + 1 → v a k = u a k := by
    intro d
    induction d with
    | zero =>
      intro _
      refine ⟨u, ?_, hl0, fun k k0 k1 => by omega, fun _ _ _ _ => rfl⟩
      rw [show T.2.1 + ((0 : Nat) : Int) = T.2.1 by omega]
    | succ d ih =>
      intro hd
      obtain ⟨v, e1, l1, n1, f1⟩ := ih (by omega)
      have y7 : v r 7 = T.2.2.1 := by rw [f1 r 7 (by omega) (by omega), h.1.2.1.2.2]
      have hba := Rd_byteAt (g := g) (u := v) (r := r) (b := b) (n := n) hk (by rw [f1 r 0 (by omega) (by omega)]; exact h.1.1.1) h.1.1.2.2.1 (fun k k0 k1 => by rw [f1 _ _ (by omega) (by omega)]; exact h.1.1.2.2.2.1 k k0 k1) (p := T.2.1 + d) (by omega)
      rw [if_pos (by omega)] at hba
      refine ⟨up (up v (pAd (r + 1) p + 1) d (b (T.2.1 + d))) (pAd (r + 1) p) 2 (d + 1), ?_, ?_, fun k k0 k1 => ?_, fun a k z1 z2 => by rw [up_n z1, up_o z2, f1 a k z1 z2]⟩
      · rw [e1, R_Rd_readName_37, gd_O hk.1, if_pos (by omega)]
        simp only [gd_O hk.1, gd_O hk.2.1.1]
        rw [St_playerOf hk.2.1, cR_some, gd_O hk.1, hba, cI_some, gd_O hkp.1, C_Pl_addLetter]
        simp only [gd_O hkp.1]
        rw [l1, if_pos (by omega), gd_W hkp.2.1 (by omega) (by omega), up_o (by omega), l1, cV_some, w_id (x := (d : Int) + 1) (by omega) (by omega), w_id (x := T.2.1 + (d : Int) + 1) (by omega) (by omega), show T.2.1 + (d : Int) + 1 = T.2.1 + ((d + 1 : Nat) : Int) by omega]
      · rw [up_s]; omega
      · rw [up_o (by omega)]
        by_cases e : k = d
        · rw [e, up_s]
        · rw [up_j e]; exact n1 k k0 (by omega)
  obtain ⟨v, e1, l1, n1, f1⟩ := key (T.2.2.1 - T.2.1).toNat (by omega)
  have fp : ∀ (a : Nat) (k : Int), ¬ (pAd (r + 1) p ≤ a ∧ a ≤ pAd (r + 1) p + 2) → v a k = u a k := fun a k z => f1 a k (by omega) (by omega)
  have hpl : plT v (pAd (r + 1) p) = psNm (aPl A p) (T.2.2.1 - T.2.1) fun k => b (T.2.1 + k) := by
    rw [← plA_of h p]
    unfold plT psNm
    rw [l1, show (((T.2.2.1 - T.2.1).toNat : Nat) : Int) = T.2.2.1 - T.2.1 by omega, f1 _ 0 (by omega) (by omega), f1 _ 1 (by omega) (by omega), cl_ext (f := v (pAd (r + 1) p + 2)) (f' := u (pAd (r + 1) p + 2)) (fun k _ _ => f1 _ _ (by omega) (by omega)), cl_ext (n := T.2.2.1 - T.2.1) (f := v (pAd (r + 1) p + 1)) (f' := fun k => b (T.2.1 + k)) (fun k k0 k1 => n1 k k0 (by omega))]
  refine ⟨v, ?_, ?_, fun a k z => fp a k (by omega), by omega, fun k k0 k1 => n1 k k0 (by omega), fp⟩
  · rw [e1, show T.2.1 + (((T.2.2.1 - T.2.1).toNat : Nat) : Int) = T.2.2.1 by omega]
  · have := RdS_pl h p fp hk
    rw [hpl] at this
    exact this
theorem Rd_name (hk : kRd g r) (h : RdS u r b n q T A) (hp : p = 0 ∨ p = 1) (h0 : (aPl A p).2.2.1 = 0) : xR g u r (call M_Rd_readName [vA r, vI p] g u) 0 (fun _ => 1) (if (tkAt b n T.2.2.1).1 = 1 ∧ (tkAt b n T.2.2.1).2.2.1 - (tkAt b n T.2.2.1).2.1 ≤ 6 then (if p ≠ 0 ∧ nmB A b (tkAt b n T.2.2.1) = true then .error (4, (tkAt b n T.2.2.1).2.1) else (.ok (tkAt b n T.2.2.1) : Except ER TkS)) else .error (1, (tkAt b n T.2.2.1).2.1)) (fun T' v => RdS v r b n q T' (aNm A p b T') ∧ tOkk n T' ∧ T.2.2.1 ≤ T'.2.1) := by
  obtain ⟨v1, e1, t1, f1⟩ := Rd_next2 (g := g) hk h.1
  have s1 := RdS_tok h t1 f1 hk
  have hT := h.1.2.2.2
  have tk := tkAt_ok (b := b) (n := n) (p := T.2.2.1) (by unfold tOkk at hT; omega) hT.2.2.1
  obtain ⟨T1, hT1⟩ : ∃ T1, T1 = tkAt b n T.2.2.1 := ⟨_, rfl⟩
  rw [← hT1] at s1 t1 tk ⊢
  have tk1 := tk.1
  have hn6 := h.1.1.2.2.1
  unfold tOkk at tk1
  have p26 : xR g u r (run M_Rd_readName 26 [vA r, vI p, vN] [] g v1) 0 (fun _ => 1) (.error (1, T1.2.1) : Except ER TkS) (fun T' v => RdS v r b n q T' (aNm A p b T') ∧ tOkk n T' ∧ T.2.2.1 ≤ T'.2.1) := by
    refine xR_err hk f1.fr (e := (1, T1.2.1)) ?_ s1.1.2.1.2.1
    rw [R_Rd_readName_26, gd_O hk.1, Rd_fail hk, cI_some, b01_0, cond_true]
  rw [C_Rd_readName, gd_O hk.1, e1, cV_some]
  simp only [gd_O hk.1]
  rw [s1.1.2.1.1, s1.1.2.1.2.1, s1.1.2.1.2.2]
  by_cases c0 : T1.1 = 1
  · rw [if_pos c0, w_id (x := T1.2.2.1 - T1.2.1) (by omega) (by omega)]
    by_cases c1 : T1.2.2.1 - T1.2.1 ≤ 6
    · rw [if_neg (by omega), if_pos (show T1.1 = 1 ∧ T1.2.2.1 - T1.2.1 ≤ 6 from ⟨c0, c1⟩)]
      obtain ⟨v2, e2, s2, f2, l2, n2, g2⟩ := Rd_letters (g := g) (p := p) hk s1 c0 c1 h0
      have hb := pAd_bd (r + 1) p
      rw [e2, R_Rd_readName_37, gd_O hk.1, if_neg (by rw [s2.1.2.1.2.2]; omega)]
      rcases hp with rfl | rfl
      · rw [if_pos rfl, if_neg (fun z => z.1 rfl)]
        exact ⟨v2, f1.fr.tr f2, Or.inr ⟨T1, rfl, rfl, s2, tk.1, tk.2⟩⟩
      · rw [if_neg (by decide)]
        have k1 : kPl g (r + 1 + 14) := hk.2.1.2.2.2.2
        have k0 : kPl g (r + 1 + 11) := hk.2.1.2.2.2.1
        have z2 : v2 (r + 1 + 14) 2 = T1.2.2.1 - T1.2.1 := l2
        have zn : ∀ k : Int, 0 ≤ k → k < T1.2.2.1 - T1.2.1 → v2 (r + 1 + 14 + 1) k = b (T1.2.1 + k) := n2
        have hp0 : A.p0 = plT v1 (r + 1 + 11) := (plA_of s1 0).symm
        have y2 : v2 (r + 1 + 11) 2 = A.p0.2.2.1 := by
          rw [g2 _ _ (show ¬ (r + 1 + 14 ≤ r + 1 + 11 ∧ r + 1 + 11 ≤ r + 1 + 14 + 2) by omega), hp0]
          rfl
        have yn : ∀ k : Int, 0 ≤ k → k < A.p0.2.2.1 → v2 (r + 1 + 11 + 1) k = A.p0.2.2.2.2 k := fun k k0 k1 => by
          rw [g2 _ _ (show ¬ (r + 1 + 14 ≤ r + 1 + 11 + 1 ∧ r + 1 + 11 + 1 ≤ r + 1 + 14 + 2) by omega)]
          rw [hp0] at k1 ⊢
          exact (cl_in k0 k1).symm
        have hsame : call M_Pl_hasNameOf [vA (r + 1 + 14), vA (r + 1 + 11)] g v2 = some (0, vI (bI (nmB A b T1 = true)), g, v2) := by
          rw [C_Pl_hasNameOf, gd_O k1.1, gd_O k0.1, z2, y2]
          by_cases c2 : T1.2.2.1 - T1.2.1 = A.p0.2.2.1
          · rw [if_pos c2]
            have key : ∀ (d i : Nat), (i : Int) + d = T1.2.2.1 - T1.2.1 → (∀ j : Nat, j < i → A.p0.2.2.2.2 j = b (T1.2.1 + j)) → run M_Pl_hasNameOf 15 [vA (r + 1 + 14), vA (r + 1 + 11), vI i] [] g v2 = some (0, vI (bI (nmB A b T1 = true)), g, v2) := by
              intro d
              induction d with
              | zero =>
                intro i hi hj
                rw [R_Pl_hasNameOf_15, gd_O k1.1, if_neg (by omega), bI_t (nmB_iff.mpr ⟨c2.symm, fun j hj2 => hj j (by omega)⟩)]
              | succ d ih =>
                intro i hi hj
                rw [R_Pl_hasNameOf_15, gd_O k1.1, if_pos (by omega), gd_O k1.1, gd_R k1.2.1 (by omega) (by omega), gd_O k0.1, gd_R k0.2.1 (by omega) (by omega), zn i (by omega) (by omega), yn i (by omega) (by omega)]
                by_cases c3 : b (T1.2.1 + i) = A.p0.2.2.2.2 i
                · rw [if_pos c3, w_id (x := (i : Int) + 1) (by omega) (by omega)]
                  have := ih (i + 1) (by omega) (fun j hj2 => by
                    by_cases e : j = i
                    · rw [e]; exact c3.symm
                    · exact hj j (by omega))
                  rw [show ((i + 1 : Nat) : Int) = (i : Int) + 1 by omega] at this
                  exact this
                · rw [if_neg c3, bI_f fun z => c3 ((nmB_iff.mp z).2 i (by omega)).symm]
            exact key (T1.2.2.1 - T1.2.1).toNat 0 (by omega) (fun j hj => by omega)
          · rw [if_neg c2, bI_f fun z => c2 (nmB_iff.mp z).1.symm]
        simp only [gd_O hk.1, gd_O hk.2.1.1]
        rw [gd_O k1.1, hsame, cI_some]
        by_cases c2 : nmB A b T1 = true
        · rw [bI_t c2, if_neg (show ¬ (1 : Int) = 0 by decide), if_pos (show (1 : Int) ≠ 0 ∧ nmB A b T1 = true from ⟨by decide, c2⟩), gd_O hk.1, Rd_fail hk, cI_some, if_pos rfl]
          exact xR_err hk (f1.fr.tr f2) (e := (4, T1.2.1)) rfl s2.1.2.1.2.1
        · rw [bI_f c2, if_pos rfl, if_neg (fun z => c2 z.2)]
          exact ⟨v2, f1.fr.tr f2, Or.inr ⟨T1, rfl, rfl, s2, tk.1, tk.2⟩⟩
    · rw [if_pos (by omega), if_neg (show ¬ (T1.1 = 1 ∧ T1.2.2.1 - T1.2.1 ≤ 6) from fun z => c1 z.2)]
      exact p26
  · rw [if_neg c0, if_neg (show ¬ (T1.1 = 1 ∧ T1.2.2.1 - T1.2.1 ≤ 6) from fun z => c0 z.1)]
    exact p26
theorem Rd_sup (hk : kRd g r) : ∀ (d : Nat) (k : Int) (u : PM) (T : TkS) (A : AS), 0 ≤ k → k + d = 5 → RdS u r b n q T A →
    ∃ v, FR r u v ∧ ((∃ e, xSup b n p d k T A = .error e ∧ run M_Rd_readPlayer 27 [vA r, vI p, vI k, vN] [] g u = some (0, vI 0, g, v) ∧ v r 1 = e.1 ∧ v r 2 = e.2) ∨ (∃ a, xSup b n p d k T A = .ok a ∧ run M_Rd_readPlayer 27 [vA r, vI p, vI k, vN] [] g u = run M_Rd_readPlayer 27 [vA r, vI p, vI 5, vN] [] g v ∧ RdS v r b n q a.1 a.2 ∧ T.2.1 ≤ a.1.2.1)) := by
  intro d
  induction d with
  | zero =>
    intro k u T A k0 k1 h
    refine ⟨u, FR.rfl', Or.inr ⟨(T, A), rfl, ?_, h, Int.le_refl _⟩⟩
    rw [show k = 5 by omega]
  | succ d ih =>
    intro k u T A k0 k1 h
    have hkp := kPl_pAd hk.2.1 p
    have hb := pAd_bd (r + 1) p
    have hT := h.1.2.2.2
    rw [R_Rd_readPlayer_27, if_pos (by omega), gd_O hk.1]
    unfold xSup
    obtain ⟨v1, f1, ⟨e, x1, q1, q2⟩ | ⟨a1, x1, q1, s1, r1, o1, l1, k1'⟩⟩ := Rd_num (g := g) hk h 0 9
    · rw [q1, cI_some, if_pos rfl, x1]
      exact ⟨v1, f1, Or.inl ⟨e, rfl, rfl, q2⟩⟩
    · change _ = some (0, vI a1.2, g, v1) at q1
      rw [q1, cI_some, if_neg (by omega), x1]
      simp only [gd_O hk.1, gd_O hk.2.1.1]
      rw [St_playerOf hk.2.1, cR_some, gd_O hkp.1, Pl_setSupply hkp k0 (by omega), cV_some, w_id (x := k + 1) (by omega) (by omega)]
      obtain ⟨v2, hv2⟩ : ∃ v, v = up v1 (pAd (r + 1) p + 2) k a1.2 := ⟨_, rfl⟩
      have fp : ∀ (a : Nat) (j : Int), ¬ (pAd (r + 1) p ≤ a ∧ a ≤ pAd (r + 1) p + 2) → v2 a j = v1 a j := fun a j z => by rw [hv2, up_o (by omega)]
      have s2 := RdS_pl s1 p fp hk
      have hpl : plT v2 (pAd (r + 1) p) = psSu (aPl A p) k a1.2 := by
        rw [hv2, plT_su k0 (by omega), plA_of s1 p]
      rw [hpl] at s2
      rw [← hv2]
      obtain ⟨v3, f3, hh⟩ := ih (k + 1) v2 a1.1 _ (by omega) (by omega) s2
      have fr : FR r u v3 := (f1.tr fun a j z => fp a j (by omega)).tr f3
      refine ⟨v3, fr, ?_⟩
      show (∃ e, xSup b n p d (k + 1) a1.1 (aSetPl A p (psSu (aPl A p) k a1.2)) = .error e ∧ _) ∨ ∃ a, xSup b n p d (k + 1) a1.1 (aSetPl A p (psSu (aPl A p) k a1.2)) = .ok a ∧ _
      rcases hh with hh | ⟨a, y1, y2, y3, y4⟩
      · exact Or.inl hh
      · refine Or.inr ⟨a, y1, y2, y3, ?_⟩
        unfold tOkk at hT
        omega
theorem Rd_player (hk : kRd g r) (h : RdS u r b n q T A) (hp : p = 0 ∨ p = 1) (h0 : (aPl A p).2.2.1 = 0) : xR g u r (call M_Rd_readPlayer [vA r, vI p] g u) 0 (fun _ => 1) (xPl b n p T A) (fun a v => RdS v r b n q a.1 a.2 ∧ T.2.1 ≤ a.1.2.1) := by
  have hkp := kPl_pAd hk.2.1 p
  have hb := pAd_bd (r + 1) p
  have hT := h.1.2.2.2
  rw [C_Rd_readPlayer, gd_O hk.1, Rd_wordIs hk h.1 wTxs.2.2.2.2.2.1 (by decide), cI_some]
  unfold xPl
  by_cases c0 : isW b T wPlayer
  · rw [bI_t c0, if_neg (by decide), if_pos c0, gd_O hk.1]
    obtain ⟨v1, f1, hh⟩ := Rd_name (g := g) hk h hp h0
    by_cases c1 : (tkAt b n T.2.2.1).1 = 1 ∧ (tkAt b n T.2.2.1).2.2.1 - (tkAt b n T.2.2.1).2.1 ≤ 6
    · rw [if_pos c1] at hh ⊢
      by_cases c2 : p ≠ 0 ∧ nmB A b (tkAt b n T.2.2.1) = true
      · rw [if_pos c2] at hh ⊢
        rcases hh with ⟨e, x1, q1, q2⟩ | ⟨a, x1, _⟩
        · rw [q1, cI_some, if_pos rfl]
          exact ⟨v1, f1, Or.inl ⟨e, x1.trans rfl |> fun z => by injection z with z; rw [z], rfl, q2⟩⟩
        · cases x1
      · rw [if_neg c2] at hh ⊢
        rcases hh with ⟨e, x1, _⟩ | ⟨a, x1, q1, s1, o1, l1⟩
        · cases x1
        · injection x1 with x1
          rw [x1]
          change _ = some (0, vI 1, g, v1) at q1
          rw [q1, cI_some, if_neg (by decide)]
          obtain ⟨v2, f2, ⟨e, x2, q2, q3⟩ | ⟨a2, x2, q2, s2, l2⟩⟩ := Rd_sup (g := g) (p := p) hk 5 0 v1 a _ (by decide) (by decide) s1
          · rw [q2, x2]
            exact ⟨v2, f1.tr f2, Or.inl ⟨e, rfl, rfl, q3⟩⟩
          · rw [q2, x2, R_Rd_readPlayer_27, if_neg (by decide), gd_O hk.1]
            unfold xb
            simp only
            obtain ⟨v3, f3, ⟨e, x3, q4, q5⟩ | ⟨a3, x3, q4, s3, r3, o3, l3, k3⟩⟩ := Rd_num (g := g) hk s2 0 9
            · rw [q4, cI_some, if_pos rfl, x3]
              exact ⟨v3, (f1.tr f2).tr f3, Or.inl ⟨e, rfl, rfl, q5⟩⟩
            · change _ = some (0, vI a3.2, g, v3) at q4
              rw [q4, cI_some, if_neg (by omega), x3]
              simp only [gd_O hk.1, gd_O hk.2.1.1]
              rw [St_playerOf hk.2.1, cR_some, gd_O hkp.1, gd_O hk.1]
              obtain ⟨v4, hv4⟩ : ∃ v, v = up v3 (pAd (r + 1) p) 1 a3.2 := ⟨_, rfl⟩
              have fp : ∀ (a : Nat) (j : Int), ¬ (pAd (r + 1) p ≤ a ∧ a ≤ pAd (r + 1) p + 2) → v4 a j = v3 a j := fun a j z => by rw [hv4, up_o (by omega)]
              have s4 := RdS_pl s3 p fp hk
              have hpl : plT v4 (pAd (r + 1) p) = psSt (aPl a2.2 p) a3.2 := by
                rw [hv4, plT_st, plA_of s3 p]
              rw [hpl] at s4
              rw [← hv4]
              have f4 : FR r v3 v4 := fun a j z => fp a j (by omega)
              obtain ⟨v5, f5, ⟨e, x5, q6, q7⟩ | ⟨a5, x5, q6, s5, o5, l5⟩⟩ := Rd_end (g := g) hk s4
              · rw [q6, cI_some, b01_0, cond_true, x5]
                exact ⟨v5, (((f1.tr f2).tr f3).tr f4).tr f5, Or.inl ⟨e, rfl, rfl, q7⟩⟩
              · rw [q6, cI_some, b01_1, cond_true, x5]
                refine ⟨v5, (((f1.tr f2).tr f3).tr f4).tr f5, Or.inr ⟨_, rfl, rfl, s5, ?_⟩⟩
                have z2 := s2.1.2.2.2
                unfold tOkk at hT o1 o3 z2
                show T.2.1 ≤ a5.2.1
                omega
    · rw [if_neg c1] at hh ⊢
      rcases hh with ⟨e, x1, q1, q2⟩ | ⟨a, x1, _⟩
      · rw [q1, cI_some, if_pos rfl]
        exact ⟨v1, f1, Or.inl ⟨e, (by injection x1 with z; rw [z]), rfl, q2⟩⟩
      · cases x1
  · rw [bI_f c0, if_pos rfl, if_neg c0]
    refine xR_err hk FR.rfl' (e := (1, T.2.1)) ?_ h.1.2.1.2.1
    rw [gd_O hk.1, Rd_fail hk, cI_some, b01_0, cond_true]
theorem Rd_setup (hk : kRd g r) (h : RdS u r b n q T A) : xR g u r (call M_Rd_readSetup [vA r] g u) 0 (fun _ => 1) (xb (xSize b n T) fun z => xb (xBlks b n 601 z.1 (aClr z.2.1 z.2.2)) fun p => xb (xStps b n 601 p.1 p.2) fun p => xb (xPl b n 0 p.1 p.2) fun p => xPl b n 1 p.1 p.2) (fun a v => RdS v r b n q a.1 a.2 ∧ wf0 a.2) := by
  rw [C_Rd_readSetup, gd_O hk.1]
  obtain ⟨v1, f1, ⟨e, x1, q1, q2⟩ | ⟨a1, x1, q1, s1, o1, l1, rc, rr⟩⟩ := Rd_size (g := g) hk h
  · rw [q1, cI_some, if_pos rfl, x1]
    exact ⟨v1, f1, Or.inl ⟨e, rfl, rfl, q2⟩⟩
  · have w1 := wf0_clr rc rr
    change _ = some (0, vI 1, g, v1) at q1
    rw [q1, cI_some, if_neg (by decide), gd_O hk.1, x1, C_Rd_readBlocks]
    unfold xb
    simp only
    obtain ⟨v2, f2, ⟨e, x2, q3, q4⟩ | ⟨a2, x2, q3, s2, l2, -⟩⟩ := Rd_blks (g := g) hk 601 v1 _ _ 0 (by decide) (by decide) s1 w1.1.1.1
    · rw [q3, cI_some, if_pos rfl, x2]
      exact ⟨v2, f1.tr f2, Or.inl ⟨e, rfl, rfl, q4⟩⟩
    · have w2 := xBlks_ok w1 x2
      change _ = some (0, vI 1, g, v2) at q3
      rw [q3, cI_some, if_neg (by decide), gd_O hk.1, x2, C_Rd_readFreeStraps]
      simp only
      obtain ⟨v3, f3, ⟨e, x3, q5, q6⟩ | ⟨a3, x3, q5, s3, l3, -⟩⟩ := Rd_stps (g := g) hk 601 v2 _ _ 0 (by decide) (by decide) s2 w2.1.1.1.1
      · rw [q5, cI_some, if_pos rfl, x3]
        exact ⟨v3, (f1.tr f2).tr f3, Or.inl ⟨e, rfl, rfl, q6⟩⟩
      · have w3 := xStps_ok w2.1 x3
        have hz : a3.2.2 = (aClr a1.2.1 a1.2.2).2 := w3.2.trans w2.2
        have z0 : ∀ p', (aPl a3.2 p').2.2.1 = 0 := fun p' => by
          unfold aPl
          rw [show a3.2.p0 = pZ from congrArg (fun z => z.2.2.1) hz, show a3.2.p1 = pZ from congrArg (fun z => z.2.2.2.1) hz]
          split <;> rfl
        change _ = some (0, vI 1, g, v3) at q5
        rw [q5, cI_some, if_neg (by decide), gd_O hk.1, x3]
        simp only
        obtain ⟨v4, f4, ⟨e, x4, q7, q8⟩ | ⟨a4, x4, q7, s4, l4⟩⟩ := Rd_player (g := g) (p := 0) hk s3 (Or.inl rfl) (z0 0)
        · rw [q7, cI_some, if_pos rfl, x4]
          exact ⟨v4, ((f1.tr f2).tr f3).tr f4, Or.inl ⟨e, rfl, rfl, q8⟩⟩
        · have w4 := xPl_ok s3.1.2.2.2 (Or.inl rfl) w3.1 x4
          change _ = some (0, vI 1, g, v4) at q7
          rw [q7, cI_some, if_neg (by decide), gd_O hk.1, x4]
          simp only
          obtain ⟨v5, f5, ⟨e, x5, q9, q10⟩ | ⟨a5, x5, q9, s5, l5⟩⟩ := Rd_player (g := g) (p := 1) hk s4 (Or.inr rfl) (by rw [w4.2 1 (Or.inr rfl) (by decide)]; exact z0 1)
          · rw [q9, cI_some, if_pos rfl, x5]
            exact ⟨v5, (((f1.tr f2).tr f3).tr f4).tr f5, Or.inl ⟨e, rfl, rfl, q10⟩⟩
          · have w5 := xPl_ok s4.1.2.2.2 (Or.inr rfl) w4.1 x5
            change _ = some (0, vI 1, g, v5) at q9
            rw [q9, cI_some, if_neg (by decide), x5]
            exact ⟨v5, (((f1.tr f2).tr f3).tr f4).tr f5, Or.inr ⟨_, rfl, rfl, s5, w5.1⟩⟩
end
