/-! ===== p60: the law from its loop on ===== -/
def PL (K : Nat) (o : Option PO) : Prop := ∃ g' u', o = some (0, vI 1, g', u') ∧ g'.2.1 ≤ K
section
variable {g : PG} {u : PM} {X : SX} {k K : Nat}
theorem St.len (h : St X k g u) : X.2.1.length ≤ 8 := by
  have a := hT_len u 61
  rw [h.l] at a
  have b := h.2.2.2.2.2.2.1.1
  omega
theorem St.pl (h : St X k g u) (hk : k ≤ K) : PL K (some (0, vI 1, g, u)) := ⟨g, u, rfl, Nat.le_trans h.2.2.1 hk⟩
theorem law_2 (h : St X k g u) (hk : k ≤ K) {p2 p3 : Nat} {a4 a5 a7 a8 a9 a10 : Int} : PL K (run M_L_law 2 [vA 100003, vI (w (0 + 1)), vA p2, vA p3, vI a4, vI a5, vN, vI a7, vI a8, vI a9, vI a10, vN, vN] [] g u) := by
  rw [R_L_law_2]
  have e : pK g 100003 = (2, 0, g.2.2 % 1000) := rfl
  rw [e, pLen_some]
  have w1 : w (0 + 1) = 1 := by decide
  rw [w1]
  by_cases c : (1 : Int) < ((g.2.2 % 1000 : Nat) : Int)
  · exact ite_t (P := PL K) c (ite_f (P := PL K) (by decide) (h.pl hk))
  · exact ite_f (P := PL K) c (h.pl hk)
theorem law_389 (h : St X k g u) (hk : k + 128 ≤ K) {a4 a5 a9 a11 a12 : Int} : PL K (run M_L_law 389 [vA 100003, vI 0, vA 0, vA 1, vI a4, vI a5, vN, vI X.1.n, vI (w (X.1.p0.1 - X.1.p1.1)), vI a9, vI (aPm X.1), vI a11, vI a12] [] g u) := by
  rw [R_L_law_389]
  refine h.td (P := PL K) ((d_pieceCount h).go (P := PL K) fun g1 u1 h1 => ite_t (P := PL K) rfl ?_)
  refine (q_score h1 (Or.inl rfl)).go (P := PL K) fun g2 u2 h2 => (q_score h2 (Or.inr rfl)).go (P := PL K) fun g3 u3 h3 => ite_t (P := PL K) rfl ?_
  refine h3.td (P := PL K) ((d_playerToMove h3).go (P := PL K) fun g4 u4 h4 => ite_t (P := PL K) rfl ?_)
  rw [R_L_law_423]
  exact (L_isSound h4).go (P := PL K) fun g5 u5 h5 => ite_f (P := PL K) (by decide) (law_2 h5 hk)
theorem push_end (l : List AS) (a : AS) : ∃ l', hPush l a = l' ++ [a] ∧ (l.length ≤ 8 → (l'.length : Int) = w (min2 8 (w ((l.length : Int) + 1)) - 1)) := by
  refine ⟨_, rfl, fun h8 => ?_⟩
  have w1 : w ((l.length : Int) + 1) = (l.length : Int) + 1 := w_id (by omega) (by omega)
  rw [w1]
  unfold min2
  by_cases c : l.length = 8
  · rw [if_pos c, if_neg (by omega), List.length_tail, w_id (by omega) (by omega)]
    omega
  · rw [if_neg c]
    by_cases d : (l.length : Int) + 1 < 8
    · rw [if_pos d, w_id (by omega) (by omega)]
      omega
    · rw [if_neg d, w_id (by omega) (by omega)]
      omega
theorem law_315 (h : St X k g u) (hk : k + 129 ≤ K) {a4 a5 : Int} : PL K (run M_L_law 315 [vA 100003, vI 0, vA 0, vA 1, vI a4, vI a5, vN, vI X.1.n, vI (w (X.1.p0.1 - X.1.p1.1)), vN, vN, vN, vN] [] g u) := by
  rw [R_L_law_315]
  refine h.td (P := PL K) ((d_undoable h).go (P := PL K) fun g1 u1 h1 => ?_)
  refine h1.td (P := PL K) ((d_playerToMove h1).go (P := PL K) fun g2 u2 h2 => ?_)
  by_cases c : aPm X.1 = -1
  · exact ite_t (P := PL K) c (law_2 h2 (by omega))
  · refine ite_f (P := PL K) c ?_
    obtain ⟨X', ⟨m0, m⟩, ha⟩ := L_moves h2
    refine ha.go (P := PL K) fun g3 u3 h3 => ite_f (P := PL K) (by decide) (h3.td (P := PL K) ((d_playerToMove h3).go (P := PL K) fun g4 u4 h4 => ?_))
    rcases m with ⟨m1, m2⟩ | ⟨m1, m2⟩
    · refine ite_t (P := PL K) (by rw [m1]) ?_
      rw [R_L_law_363, R_L_law_364]
      refine ite_t (P := PL K) rfl ?_
      rw [← m1]
      exact law_389 h4 (by omega)
    · refine ite_f (P := PL K) m2 ?_
      rw [R_L_law_359, R_L_law_364]
      refine ite_f (P := PL K) (by decide) ?_
      obtain ⟨l', e1, e2⟩ := push_end X.2.1 X.1
      rw [e1] at m1
      refine (c_undo h4 m1).go (P := PL K) fun g5 u5 h5 => ite_t (P := PL K) (e2 h.len) ?_
      exact law_389 h5 (by omega)
theorem law_247 {a4 a5 : Int} : ∀ (n : Nat) (i : Int) (X : SX) (k : Nat) (g : PG) (u : PM), 0 ≤ i → i + n = 22 → St X k g u → k + 129 * n + 257 ≤ K → PL K (run M_L_law 247 [vA 100003, vI 0, vA 0, vA 1, vI a4, vI a5, vN, vI i, vN, vN, vN, vN, vN] [] g u)
  | 0, i, X, k, g, u, i0, i1, h, hk => by
    rw [R_L_law_247]
    refine ite_f (P := PL K) (by omega) ((L_isSound h).go (P := PL K) fun g1 u1 h1 => ite_f (P := PL K) (by decide) ?_)
    refine h1.td (P := PL K) ((d_pieceCount h1).go (P := PL K) fun g2 u2 h2 => (q_score h2 (Or.inl rfl)).go (P := PL K) fun g3 u3 h3 => (q_score h3 (Or.inr rfl)).go (P := PL K) fun g4 u4 h4 => ?_)
    exact law_315 h4 (by omega)
  | n + 1, i, X, k, g, u, i0, i1, h, hk => by
    have wi : w (i + 1) = i + 1 := w_id (by omega) (by omega)
    rw [R_L_law_247]
    refine ite_t (P := PL K) (by omega) ?_
    obtain ⟨X', -, ha⟩ := L_moves h
    refine ha.go (P := PL K) fun g1 u1 h1 => ite_f (P := PL K) (by decide) (ite_f (P := PL K) (by decide) ?_)
    rw [wi]
    by_cases c : rem2 i 7 = 0
    · refine ite_t (P := PL K) c ((L_isSound h1).go (P := PL K) fun g2 u2 h2 => ite_f (P := PL K) (by decide) ?_)
      exact law_247 n (i + 1) X' (k + 1 + 128) g2 u2 (by omega) (by omega) h2 (by omega)
    · exact ite_f (P := PL K) c (law_247 n (i + 1) X' (k + 1) g1 u1 (by omega) (by omega) h1 (by omega))
end
