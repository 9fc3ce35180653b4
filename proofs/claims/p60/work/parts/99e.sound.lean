/-! ===== p60: isSound, rows and pieces ===== -/
def sumF (f : Int → Int) : Nat → Int → Int
  | 0, _ => 0
  | n + 1, x => f x + sumF f n (x + 1)
theorem sumF_I (f : Int → Int) : ∀ (n : Nat) (x : Int), sumF f n x = sumI (fun j => f (x + j)) n
  | 0, _ => rfl
  | n + 1, x => by
    have h := sumI_split (h := fun j => f (x + j)) 1 n
    rw [Nat.add_comm 1 n] at h
    rw [h]
    unfold sumF
    rw [sumF_I f n (x + 1)]
    show _ = (0 + f (x + ((0 : Nat) : Int))) + sumI (fun j => f (x + (((1 : Nat) : Int) + j))) n
    rw [Int.zero_add, show x + ((0 : Nat) : Int) = x by omega, sumI_congr (f := fun j => f (x + 1 + j)) (f' := fun j => f (x + (((1 : Nat) : Int) + j))) fun j _ _ => by
      rw [show x + 1 + j = x + (((1 : Nat) : Int) + j) by omega]]
theorem sumF_0 (f : Int → Int) (n : Nat) : sumF f n 0 = sumI f n := by
  rw [sumF_I]
  exact sumI_congr fun j _ _ => by rw [Int.zero_add]
theorem sumF_bd {f : Int → Int} {b : Int} : ∀ {n : Nat} {x : Int}, (∀ j : Int, x ≤ j → j < x + n → 0 ≤ f j ∧ f j ≤ b) → 0 ≤ sumF f n x ∧ sumF f n x ≤ n * b
  | 0, x, _ => by simp [sumF]
  | n + 1, x, h => by
    have a := h x (Int.le_refl _) (by omega)
    have ih := sumF_bd (f := f) (b := b) (n := n) (x := x + 1) fun j j0 j1 => h j (by omega) (by omega)
    unfold sumF
    rw [Int.natCast_succ, Int.add_mul]
    omega
section
variable {X : SX} {e m y : Int} {P : Option PO → Prop} {f : Int → Int}
theorem is_row (hf : RegOf X.1.bd f) (hy : 0 ≤ y ∧ y < X.1.bd.2.1) : ∀ (n : Nat) (x c d s i : Int) (k : Nat) (g : PG) (u : PM), 0 ≤ x → x + n = X.1.bd.1 → St X k g u → (0 ≤ c ∧ c + n ≤ 90000) → (0 ≤ d ∧ d + n ≤ 90000) → (0 ≤ s ∧ s + 2 * n ≤ 90000) → (0 ≤ i ∧ i + n ≤ 90000) →
    (∀ g u, St X (k + 2 * n) g u → P (run M_L_isSound 30 [vA 1, vI e, vI (c + sumF (fun x => bI (0 ≤ bCell X.1.bd x y)) n x), vI (d + sumF (fun x => cDd X.1.bd f (8 * y + x)) n x), vI m, vI (s + sumF (fun x => cSt X.1.bd x y 0 + cSt X.1.bd x y 1) n x), vI y, vI (i + sumF (fun x => bI (bCell X.1.bd x y = -1)) n x), vI X.1.bd.1, vN, vN, vN, vN] [] g u)) →
    P (run M_L_isSound 30 [vA 1, vI e, vI c, vI d, vI m, vI s, vI y, vI i, vI x, vN, vN, vN, vN] [] g u)
  | 0, x, c, d, s, i, k, g, u, x0, x1, h, hc, hd, hs, hi, kk => by
    have := kk g u h
    simp only [sumF, Int.add_zero] at this
    rw [show x = X.1.bd.1 by omega]
    exact this
  | n + 1, x, c, d, s, i, k, g, u, x0, x1, h, hc, hd, hs, hi, kk => by
    have hin : bIn X.1.bd x y := ⟨⟨x0, by omega⟩, hy⟩
    have b1 := bI_bd (0 ≤ bCell X.1.bd x y)
    have b2 := bI_bd (eC X.1.bd (8 * y + x) ∧ rSz X.1.bd f (8 * y + x) = 1)
    have b3 := cS_bd h.w.1.1 x y 0
    have b4 := cS_bd h.w.1.1 x y 1
    have b5 := bI_bd (bCell X.1.bd x y = -1)
    refine is_cell h hin hf ⟨hc.1, by omega⟩ ⟨hd.1, by omega⟩ ⟨hs.1, by omega⟩ ⟨hi.1, by omega⟩ fun g1 u1 h1 => ?_
    refine is_row hf hy n (x + 1) _ _ _ _ (k + 2) g1 u1 (by omega) (by omega) h1 (by omega) (by unfold cDd; omega) (by omega) (by omega) fun g2 u2 h2 => ?_
    have := kk g2 u2 (h2.up (by omega))
    simp only [sumF, ← Int.add_assoc] at this ⊢
    exact this
/-- the end of a row -/
theorem is_rowend {g : PG} {u : PM} {k : Nat} {c d s : Int} (h : St X k g u) (hy : 0 ≤ y ∧ y < X.1.bd.2.1) (he : 0 ≤ e ∧ e ≤ 90000) (hm : 0 ≤ m ∧ m ≤ 90000) (kk : ∀ g u, St X k g u → P (run M_L_isSound 15 [vA 1, vI (e + bEmp X.1.bd y), vI c, vI d, vI (m + bI (bEmp X.1.bd y = 0)), vI s, vI (y + 1), vN, vN, vN, vN, vN, vN] [] g u)) :
    P (run M_L_isSound 30 [vA 1, vI e, vI c, vI d, vI m, vI s, vI y, vI (bEmp X.1.bd y), vI X.1.bd.1, vN, vN, vN, vN] [] g u) := by
  have b := bEmp_bd X.1.bd h.w.1.1.1.1 y
  have hC := h.w.1.1.1
  have hR := h.w.1.1.2.1
  rw [R_L_isSound_30]
  refine h.td (P := P) ((d_columns h).go (P := P) fun g1 u1 h1 => ite_f (by omega) ?_)
  refine (q_emptyInRow h1 hy).go fun g2 u2 h2 => ite_t rfl ?_
  have wy : w (y + 1) = y + 1 := w_id (by omega) (by omega)
  have we : w (e + bEmp X.1.bd y) = e + bEmp X.1.bd y := w_id (by omega) (by omega)
  have wm : w (m + 1) = m + 1 := w_id (by omega) (by omega)
  by_cases z : bEmp X.1.bd y = 0
  · refine ite_t z ?_
    rw [R_L_isSound_309, wy, we, wm]
    have := kk g2 u2 h2
    rw [bI_t z] at this
    exact this
  · refine ite_f z ?_
    rw [R_L_isSound_309, wy, we]
    have := kk g2 u2 h2
    rw [bI_f z, Int.add_zero] at this
    exact this
theorem is_rows (hf : RegOf X.1.bd f) : ∀ (n : Nat) (y e c d m s : Int) (k : Nat) (g : PG) (u : PM), 0 ≤ y → y + n = X.1.bd.2.1 → St X k g u → (0 ≤ e ∧ e + 8 * n ≤ 80000) → (0 ≤ c ∧ c + 8 * n ≤ 80000) → (0 ≤ d ∧ d + 8 * n ≤ 80000) → (0 ≤ m ∧ m + n ≤ 80000) → (0 ≤ s ∧ s + 16 * n ≤ 80000) →
    (∀ g u, St X (k + 16 * n) g u → P (run M_L_isSound 15 [vA 1, vI (e + sumF (bEmp X.1.bd) n y), vI (c + sumF (fun y => sumI (fun x => bI (0 ≤ bCell X.1.bd x y)) X.1.bd.1.toNat) n y), vI (d + sumF (fun y => sumI (fun x => cDd X.1.bd f (8 * y + x)) X.1.bd.1.toNat) n y), vI (m + sumF (fun y => bI (bEmp X.1.bd y = 0)) n y), vI (s + sumF (fun y => sumI (fun x => cSt X.1.bd x y 0 + cSt X.1.bd x y 1) X.1.bd.1.toNat) n y), vI X.1.bd.2.1, vN, vN, vN, vN, vN, vN] [] g u)) →
    P (run M_L_isSound 15 [vA 1, vI e, vI c, vI d, vI m, vI s, vI y, vN, vN, vN, vN, vN, vN] [] g u)
  | 0, y, e, c, d, m, s, k, g, u, y0, y1, h, he, hc, hd, hm, hs, kk => by
    have := kk g u h
    simp only [sumF, Int.add_zero] at this
    rw [show y = X.1.bd.2.1 by omega]
    exact this
  | n + 1, y, e, c, d, m, s, k, g, u, y0, y1, h, he, hc, hd, hm, hs, kk => by
    have hC := h.w.1.1.1
    have hy : 0 ≤ y ∧ y < X.1.bd.2.1 := ⟨y0, by omega⟩
    have nn : ((X.1.bd.1.toNat : Nat) : Int) = X.1.bd.1 := by omega
    rw [R_L_isSound_15]
    refine h.td (P := P) ((d_rows h).go (P := P) fun g1 u1 h1 => ite_t hy.2 ?_)
    have t1 := sumI_bd (f := fun x => bI (0 ≤ bCell X.1.bd x y)) (n := X.1.bd.1.toNat) (b := 1) fun _ _ _ => bI_bd _
    have t2 := sumI_bd (f := fun x => cDd X.1.bd f (8 * y + x)) (n := X.1.bd.1.toNat) (b := 1) fun _ _ _ => bI_bd _
    have t3 := sumI_bd (f := fun x => cSt X.1.bd x y 0 + cSt X.1.bd x y 1) (n := X.1.bd.1.toNat) (b := 2) fun x _ _ => by
      have b3 := cS_bd h.w.1.1 x y 0
      have b4 := cS_bd h.w.1.1 x y 1
      omega
    have t4 := bEmp_bd X.1.bd h.w.1.1.1.1 y
    have t5 := bI_bd (bEmp X.1.bd y = 0)
    refine is_row hf hy X.1.bd.1.toNat 0 c d s 0 k g1 u1 (by decide) (by omega) h1 (by omega) (by omega) (by omega) (by omega) fun g2 u2 h2 => ?_
    simp only [sumF_0, Int.zero_add]
    have eb : sumI (fun x => bI (bCell X.1.bd x y = -1)) X.1.bd.1.toNat = bEmp X.1.bd y := rfl
    rw [eb]
    refine is_rowend h2 hy (by omega) (by omega) fun g3 u3 h3 => ?_
    refine is_rows hf n (y + 1) _ _ _ _ _ (k + 16) g3 u3 (by omega) (by omega) (h3.up (by omega)) (by omega) (by omega) (by omega) (by omega) (by omega) fun g4 u4 h4 => ?_
    have := kk g4 u4 (h4.up (by omega))
    simp only [sumF, ← Int.add_assoc] at this ⊢
    exact this
/-- a piece lies where it does not fit any more -/
theorem mis_lies {B : Bd} {s r x y k : Int} (hs : 0 ≤ s ∧ s < 5) (hk : 0 ≤ k) (h : ∀ i : Int, 0 ≤ i → i < sz s → bCell B (pX s r x i) (pY s r y i) = k) : bMis B s r x y = 3 := by
  have hz := sz_bd hs.1 hs.2
  unfold bMis
  rw [if_neg, if_neg, if_pos]
  · rw [anyF_iff]
    exact ⟨0, ⟨by omega, by omega⟩, decide_eq_true (by rw [h 0 (by omega) (by omega)]; exact hk)⟩
  · rw [anyF_iff]
    rintro ⟨j, j1, j2⟩
    have := of_decide_eq_true j2
    rw [h j j1.1 (by omega)] at this
    omega
  · rw [anyF_iff]
    rintro ⟨j, j1, j2⟩
    have := of_decide_eq_true j2
    rw [h j j1.1 (by omega)] at this
    omega
theorem sz_law {s : Int} (hs : 0 ≤ s ∧ s < 5) : (s = 0 → sz s = 2) ∧ (s ≠ 0 → s < 3 → sz s = 3) ∧ (s ≠ 0 → ¬ s < 3 → sz s = 4) := by
  have : s = 0 ∨ s = 1 ∨ s = 2 ∨ s = 3 ∨ s = 4 := by omega
  rcases this with rfl | rfl | rfl | rfl | rfl <;> decide
theorem is_pieces {a1 a2 a3 a4 a5 : Int} : ∀ (n : Nat) (p q j : Int) (k : Nat) (g : PG) (u : PM), 0 ≤ j → j + n = X.1.n → St X k g u → (0 ≤ p ∧ p + 68 * n ≤ 80000) → (0 ≤ q ∧ q + 4 * n ≤ 80000) →
    (∀ g u, St X k g u → P (run M_L_isSound 329 [vA 1, vI a1, vI a2, vI a3, vI a4, vI a5, vI (p + sumF (X.1.pc 5) n j), vI (q + sumF (fun j => sz (X.1.pc 0 j)) n j), vI X.1.n, vN, vN, vN, vN] [] g u)) →
    P (run M_L_isSound 329 [vA 1, vI a1, vI a2, vI a3, vI a4, vI a5, vI p, vI q, vI j, vN, vN, vN, vN] [] g u)
  | 0, p, q, j, k, g, u, j0, j1, h, hp, hq, kk => by
    have := kk g u h
    simp only [sumF, Int.add_zero] at this
    rw [show j = X.1.n by omega]
    exact this
  | n + 1, p, q, j, k, g, u, j0, j1, h, hp, hq, kk => by
    have jn : j < X.1.n := by omega
    have hn := h.w.1.2.2
    obtain ⟨w1, w2, w3⟩ := h.w.2.2.2.2.1 j j0 jn
    have hz := sz_bd w1.1 w1.2
    have h5 := h.x.2.2.2.1 j j0 jn
    have o0 := or0' w1 w2
    have hc0 := w3 0 (by omega) (by omega)
    have ex : pX (X.1.pc 0 j) (X.1.pc 1 j) (X.1.pc 2 j) 0 = X.1.pc 2 j := by unfold pX; omega
    have ey : pY (X.1.pc 0 j) (X.1.pc 1 j) (X.1.pc 3 j) 0 = X.1.pc 3 j := by unfold pY; omega
    rw [ex, ey] at hc0
    have hin : bIn X.1.bd (X.1.pc 2 j) (X.1.pc 3 j) := in_of_cell (by omega)
    have hm := mis_lies w1 j0 w3
    have wp : w (p + X.1.pc 5 j) = p + X.1.pc 5 j := w_id (by omega) (by omega)
    have wj : w (j + 1) = j + 1 := w_id (by omega) (by omega)
    rw [R_L_isSound_329]
    refine h.td (P := P) ((d_pieceCount h).go (P := P) fun g1 u1 h1 => ite_t jn ?_)
    refine (q_piecePoints h1 j0 jn).go fun g2 u2 h2 => (q_pieceShape h2 j0 jn).go fun g3 u3 h3 => ?_
    rw [wp]
    obtain ⟨z1, z2, z3⟩ := sz_law w1
    have e379 : (if X.1.pc 0 j = 0 then run M_L_isSound 379 [vA 1, vI a1, vI a2, vI a3, vI a4, vI a5, vI (p + X.1.pc 5 j), vI q, vI j, vI (X.1.pc 0 j), vN, vN, vN] [vI 2, vI q] g3 u3 else if X.1.pc 0 j < 3 then run M_L_isSound 379 [vA 1, vI a1, vI a2, vI a3, vI a4, vI a5, vI (p + X.1.pc 5 j), vI q, vI j, vI (X.1.pc 0 j), vN, vN, vN] [vI 3, vI q] g3 u3 else run M_L_isSound 379 [vA 1, vI a1, vI a2, vI a3, vI a4, vI a5, vI (p + X.1.pc 5 j), vI q, vI j, vI (X.1.pc 0 j), vN, vN, vN] [vI 4, vI q] g3 u3) = run M_L_isSound 379 [vA 1, vI a1, vI a2, vI a3, vI a4, vI a5, vI (p + X.1.pc 5 j), vI q, vI j, vI (X.1.pc 0 j), vN, vN, vN] [vI (sz (X.1.pc 0 j)), vI q] g3 u3 := by
      by_cases y1 : X.1.pc 0 j = 0
      · rw [if_pos y1, z1 y1]
      · rw [if_neg y1]
        by_cases y2 : X.1.pc 0 j < 3
        · rw [if_pos y2, z2 y1 y2]
        · rw [if_neg y2, z3 y1 y2]
    rw [e379, R_L_isSound_379]
    refine (q_pieceColumn h3 j0 jn).go fun g4 u4 h4 => (q_pieceRow h4 j0 jn).go fun g5 u5 h5 => (q_pieceAt h5 hin).go fun g6 u6 h6 => ?_
    refine ite_t (by rw [hc0, if_pos j0]) ?_
    refine (q_pieceRotation h6 j0 jn).go fun g7 u7 h7 => (q_pieceColumn h7 j0 jn).go fun g8 u8 h8 => (q_pieceRow h8 j0 jn).go fun g9 u9 h9 => (q_misfit h9 w1 w2 hin).go fun gA uA hA => ?_
    rw [hm]
    refine ite_f (by decide) ?_
    rw [R_L_isSound_433, wj, w_id (x := q + sz (X.1.pc 0 j)) (by omega) (by omega)]
    refine is_pieces n _ _ (j + 1) k gA uA (by omega) (by omega) hA (by omega) (by omega) fun gB uB hB => ?_
    have := kk gB uB hB
    simp only [sumF, ← Int.add_assoc] at this ⊢
    exact this
end
