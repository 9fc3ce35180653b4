/-! ===== p60: words of the drawn text; the class takes it over ===== -/
theorem b255t : ∀ i : Fin 8, (255#32)[i.val]'(Nat.lt_trans i.isLt (by decide)) = true := by decide
theorem bv_fB (v c : BitVec 32) (i : Nat) (h : i < 32) : ((v <<< 8) ||| (c &&& 255#32))[i]'h = if q : i < 8 then c[i]'h else v[i - 8]'(by omega) := by
  by_cases q : i < 8
  · have e : (255#32)[i]'h = true := b255t ⟨i, q⟩
    simp [q, e]
  · have e : (255#32)[i]'h = false := b255 ⟨i, h⟩ q
    simp [q, e]
def fB (v c : BitVec 32) : BitVec 32 := (v <<< 8) ||| (c &&& 255#32)
def wB (a b c d : BitVec 32) : BitVec 32 := fB (fB (fB (fB 0#32 a) b) c) d
theorem fB_lo (v c : BitVec 32) (i : Nat) (h : i < 8) : (fB v c)[i]'(by omega) = c[i]'(by omega) := by
  unfold fB
  rw [bv_fB _ _ _ (by omega), dif_pos h]
theorem fB_hi (v c : BitVec 32) (i : Nat) (h : i < 24) : (fB v c)[8 + i]'(by omega) = v[i]'(by omega) := by
  unfold fB
  rw [bv_fB _ _ _ (by omega), dif_neg (by omega)]
  congr 1
  omega
theorem bv_take (W A : BitVec 32) (s : Nat) (hs : s ≤ 24) (e : ∀ i : Nat, (h : i < 8) → W[s + i]'(by omega) = A[i]'(by omega)) : W.sshiftRight s &&& 255#32 = A &&& 255#32 := by
  ext i hi
  by_cases h : i < 8
  · simp [BitVec.getElem_sshiftRight, show s + i < 32 by omega, e i h]
  · have : (255#32)[i] = false := b255 ⟨i, hi⟩ h
    simp [this]
theorem wB24 (a b c d : BitVec 32) : (wB a b c d).sshiftRight 24 &&& 255#32 = a &&& 255#32 := bv_take _ _ 24 (by decide) fun i h => by
  unfold wB
  rw [show (fB (fB (fB (fB 0#32 a) b) c) d)[24 + i]'(by omega) = (fB (fB (fB (fB 0#32 a) b) c) d)[8 + (16 + i)]'(by omega) by congr 1; omega, fB_hi _ _ _ (by omega)]
  rw [show (fB (fB (fB 0#32 a) b) c)[16 + i]'(by omega) = (fB (fB (fB 0#32 a) b) c)[8 + (8 + i)]'(by omega) by congr 1; omega, fB_hi _ _ _ (by omega), fB_hi _ _ _ (by omega), fB_lo _ _ _ h]
theorem wB16 (a b c d : BitVec 32) : (wB a b c d).sshiftRight 16 &&& 255#32 = b &&& 255#32 := bv_take _ _ 16 (by decide) fun i h => by
  unfold wB
  rw [show (fB (fB (fB (fB 0#32 a) b) c) d)[16 + i]'(by omega) = (fB (fB (fB (fB 0#32 a) b) c) d)[8 + (8 + i)]'(by omega) by congr 1; omega, fB_hi _ _ _ (by omega), fB_hi _ _ _ (by omega), fB_lo _ _ _ h]
theorem wB8 (a b c d : BitVec 32) : (wB a b c d).sshiftRight 8 &&& 255#32 = c &&& 255#32 := bv_take _ _ 8 (by decide) fun i h => by
  unfold wB
  rw [fB_hi _ _ _ (by omega), fB_lo _ _ _ h]
theorem wB0 (a b c d : BitVec 32) : (wB a b c d).sshiftRight 0 &&& 255#32 = d &&& 255#32 := bv_take _ _ 0 (by decide) fun i h => by
  unfold wB
  rw [show (fB (fB (fB (fB 0#32 a) b) c) d)[0 + i]'(by omega) = (fB (fB (fB (fB 0#32 a) b) c) d)[i]'(by omega) by congr 1; omega, fB_lo _ _ _ h]
theorem c255 : ∀ c : Fin 256, Int32.ofInt ((c.val : Nat) : Int) = (Int32.ofInt ((c.val : Nat) : Int) &&& 255) ∧ (Int32.ofInt ((c.val : Nat) : Int) &&& 255).toInt = ((c.val : Nat) : Int) := by decide +kernel
theorem c255' {c : Int} (h0 : 0 ≤ c) (h1 : c ≤ 255) : Int32.ofInt c = (Int32.ofInt c &&& 255) ∧ (Int32.ofInt c &&& 255).toInt = c := by
  have := c255 ⟨c.toNat, by omega⟩
  rw [show ((c.toNat : Nat) : Int) = c by omega] at this
  exact this
def w1 (v c : Int) : Int := or2 (shl2 v 8) c
def w4 (a b c d : Int) : Int := w1 (w1 (w1 (w1 0 a) b) c) d
def iB (v : Int) : BitVec 32 := (Int32.ofInt v).toBitVec
theorem iB_w1 {v c : Int} (h0 : 0 ≤ c) (h1 : c ≤ 255) : iB (w1 v c) = fB (iB v) (iB c) := by
  have h : (Int32.ofInt c).toBitVec &&& 255#32 = (Int32.ofInt c).toBitVec := (congrArg Int32.toBitVec (c255' h0 h1).1).symm
  unfold w1 or2 shl2 iB fB
  rw [Int32.ofInt_toInt, Int32.ofInt_toInt, h]
  rfl
theorem byt_w4 {a b c d : Int} (ha : 0 ≤ a ∧ a ≤ 255) (hb : 0 ≤ b ∧ b ≤ 255) (hc : 0 ≤ c ∧ c ≤ 255) (hd : 0 ≤ d ∧ d ≤ 255) : byt (w4 a b c d) 24 = a ∧ byt (w4 a b c d) 16 = b ∧ byt (w4 a b c d) 8 = c ∧ byt (w4 a b c d) 0 = d := by
  have e : iB (w4 a b c d) = wB (iB a) (iB b) (iB c) (iB d) := by
    unfold w4 wB
    rw [iB_w1 hd.1 hd.2, iB_w1 hc.1 hc.2, iB_w1 hb.1 hb.2, iB_w1 ha.1 ha.2]
    rfl
  have g : ∀ (s : Int) (m : Nat) (x : Int), 0 ≤ x ∧ x ≤ 255 → ((Int32.ofInt (w4 a b c d) >>> (Int32.ofInt s &&& 31) &&& 255).toBitVec = (iB (w4 a b c d)).sshiftRight m &&& 255#32) → (iB (w4 a b c d)).sshiftRight m &&& 255#32 = iB x &&& 255#32 → byt (w4 a b c d) s = x := fun s m x hx q1 q2 => by
    unfold byt shr2
    rw [and2_b]
    refine Eq.trans ?_ (c255' hx.1 hx.2).2
    refine congrArg Int32.toInt (Int32.toBitVec_inj.mp ?_)
    exact q1.trans q2
  exact ⟨g 24 24 a ha rfl (by rw [e, wB24]), g 16 16 b hb rfl (by rw [e, wB16]), g 8 8 c hc rfl (by rw [e, wB8]), g 0 0 d hd rfl (by rw [e, wB0])⟩
section
variable {g : PG} {u : PM} {N : Nat}
/-- the drawn text, behind its end 0 -/
def chr (u : PM) (N : Nat) (k : Int) : Int := if k < N then u 100004 k else 0
theorem R_len {o : Option PO} (hN : g.2.2 / 1000 = N) {K : Nat → Option PO} (h : K N = o) : (bif Nat.ble 100000 100004 then pLen5 (pK g 100004) K else none) = o := by
  have e : pK g 100004 = (2, 5, g.2.2 / 1000) := rfl
  rw [e, hN]
  exact h
theorem R_chr {o k : Option PO} {p : Int} (hN : g.2.2 / 1000 = N) (p0 : 0 ≤ p) (p1 : p < N) (h : k = o) : (bif Nat.ble 100000 100004 && pR (pK g 100004) 5 p then k else none) = o := by
  have e : pK g 100004 = (2, 5, g.2.2 / 1000) := rfl
  rw [e, hN]
  show (bif (true && (decide (0 ≤ p) && decide (p < (N : Int)))) then k else none) = o
  rw [decide_eq_true p0, decide_eq_true p1]
  exact h
theorem L_word (hN : g.2.2 / 1000 = N) (hn : N ≤ 1000) {p : Int} (p0 : 0 ≤ p) (p1 : p ≤ 2000) : call M_L_word [vA 100004, vI p] g u = some (0, vI (w4 (chr u N p) (chr u N (p + 1)) (chr u N (p + 2)) (chr u N (p + 3))), g, u) := by
  have w4' : w (p + 4) = p + 4 := w_id (by omega) (by omega)
  have st : ∀ (k v : Int), 0 ≤ k → k < p + 4 → run M_L_word 4 [vA 100004, vI p, vI v, vI k] [] g u = run M_L_word 4 [vA 100004, vI p, vI (w1 v (chr u N k)), vI (k + 1)] [] g u := fun k v k0 k1 => by
    have wk : w (k + 1) = k + 1 := w_id (by omega) (by omega)
    conv => lhs; rw [R_L_word_4]
    rw [w4', if_pos k1, wk]
    refine R_len hN ?_
    unfold chr w1
    by_cases c : k < N
    · rw [if_pos c, if_pos c]
      exact R_chr hN k0 c rfl
    · rw [if_neg c, if_neg c]
  rw [C_L_word, st p 0 p0 (by omega), st (p + 1) _ (by omega) (by omega), st (p + 1 + 1) _ (by omega) (by omega), st (p + 1 + 1 + 1) _ (by omega) (by omega), R_L_word_4, w4', if_neg (by omega), show p + 1 + 1 + 1 = p + 3 by omega, show p + 1 + 1 = p + 2 by omega]
  rfl
def w4f (f : Int → Int) (n : Int) : Int := w4 (f n) (f (n + 1)) (f (n + 2)) (f (n + 3))
theorem four_at {b f : Int → Int} (n : Int) (hf : ∀ k : Int, 0 ≤ f k ∧ f k ≤ 255) (k : Int) : four b n (w4f f n) k = if n ≤ k ∧ k < n + 4 then f k else b k := by
  obtain ⟨e0, e1, e2, e3⟩ := byt_w4 (hf n) (hf (n + 1)) (hf (n + 2)) (hf (n + 3))
  unfold four w4f
  rw [e0, e1, e2, e3]
  unfold setI
  by_cases q3 : k = n + 3
  · rw [if_pos q3, if_pos (by omega), q3]
  · rw [if_neg q3]
    by_cases q2 : k = n + 2
    · rw [if_pos q2, if_pos (by omega), q2]
    · rw [if_neg q2]
      by_cases q1 : k = n + 1
      · rw [if_pos q1, if_pos (by omega), q1]
      · rw [if_neg q1]
        by_cases q0 : k = n
        · rw [if_pos q0, if_pos (by omega), q0]
        · rw [if_neg q0, if_neg (by omega)]
theorem five_at {b f : Int → Int} (n : Int) (hf : ∀ k : Int, 0 ≤ f k ∧ f k ≤ 255) (k : Int) : five b n (w4f f n) (w4f f (n + 4)) (w4f f (n + 8)) (w4f f (n + 12)) (w4f f (n + 16)) k = if n ≤ k ∧ k < n + 20 then f k else b k := by
  unfold five
  rw [four_at _ hf, four_at _ hf, four_at _ hf, four_at _ hf, four_at _ hf]
  by_cases q : n ≤ k ∧ k < n + 20
  · rw [if_pos q]
    by_cases q4 : n + 16 ≤ k
    · rw [if_pos (by omega)]
    · rw [if_neg (by omega)]
      by_cases q3 : n + 12 ≤ k
      · rw [if_pos (by omega)]
      · rw [if_neg (by omega)]
        by_cases q2 : n + 8 ≤ k
        · rw [if_pos (by omega)]
        · rw [if_neg (by omega)]
          by_cases q1 : n + 4 ≤ k
          · rw [if_pos (by omega)]
          · rw [if_neg (by omega), if_pos (by omega)]
  · rw [if_neg q, if_neg (by omega), if_neg (by omega), if_neg (by omega), if_neg (by omega), if_neg (by omega)]
/-- the text stands in the reader's buffer -/
theorem L_write (hk : KA g 1 (1, 10, 0)) (hr : kRd g 2) (hN : g.2.2 / 1000 = N) (hn : N ≤ 500) (h0 : 0 ≤ u 2 0) (hb : ∀ k : Int, 0 ≤ k → k < N → 0 ≤ u 100004 k ∧ u 100004 k ≤ 255) : ∃ u', call M_L_write [vA 1, vA 100004] g u = some (0, vI 1, g, u') ∧ u' 2 0 = N ∧ TxO u' 26 N (chr u N) ∧ FB 2 u u' := by
  have hc : ∀ k : Int, 0 ≤ k → 0 ≤ chr u N k ∧ chr u N k ≤ 255 := fun k k0 => by
    unfold chr
    by_cases c : k < N
    · rw [if_pos c]; exact hb k k0 c
    · rw [if_neg c]; omega
  obtain ⟨f, hf, hf'⟩ : ∃ f : Int → Int, (∀ k, 0 ≤ f k ∧ f k ≤ 255) ∧ ∀ k, 0 ≤ k → f k = chr u N k := ⟨fun k => if 0 ≤ k then chr u N k else 0, fun k => by
    by_cases c : 0 ≤ k
    · simp only [if_pos c]; exact hc k c
    · simp only [if_neg c]; omega, fun k k0 => if_pos k0⟩
  have hw : ∀ p : Int, 0 ≤ p → w4 (chr u N p) (chr u N (p + 1)) (chr u N (p + 2)) (chr u N (p + 3)) = w4f f p := fun p p0 => by
    unfold w4f
    rw [hf' _ p0, hf' _ (by omega), hf' _ (by omega), hf' _ (by omega)]
  have tr : ∀ (v : PM) (a n : Int), 0 ≤ a → a ≤ n → v 2 0 = n → call M_L_truncateInput [vA 1, vI a] g v = some (0, vI a, g, up v 2 0 a) := fun v a n a0 a1 vn => by
    rw [C_L_truncateInput, gd_O hk, TD_truncate hk hr vn, if_pos ⟨a0, a1⟩]
    rfl
  have key : ∀ (d : Nat) (p : Int) (v : PM) (b : Int → Int), 0 ≤ p → p ≤ N + 20 → (N - p).toNat ≤ d → v 2 0 = p → TxO v 26 p b → (∀ k : Int, 0 ≤ k → k < p → b k = f k) → (∀ k : Int, v 100004 k = u 100004 k) → ∃ u', run M_L_write 12 [vA 1, vA 100004, vI p] [] g v = some (0, vI 1, g, u') ∧ u' 2 0 = N ∧ TxO u' 26 N (chr u N) ∧ FB 2 v u' := by
    have fin : ∀ (p : Int) (v : PM) (b : Int → Int), 0 ≤ p → ¬ p < N → v 2 0 = p → TxO v 26 p b → (∀ k : Int, 0 ≤ k → k < p → b k = f k) → ∃ u', run M_L_write 12 [vA 1, vA 100004, vI p] [] g v = some (0, vI 1, g, u') ∧ u' 2 0 = N ∧ TxO u' 26 N (chr u N) ∧ FB 2 v u' := by
      intro p v b p0 c v0 ht hbf
      refine ⟨up v 2 0 N, ?_, up_s .., ⟨by omega, by omega, fun k k0 k1 => ?_, fun k k0 k1 => hc k k0⟩, fun a k n1 n2 => up_n (by omega)⟩
      · rw [R_L_write_12]
        refine R_len hN ?_
        rw [if_neg c]
        refine R_len hN ?_
        rw [tr v N p (by omega) (by omega) v0, cI_some]
        refine R_len hN ?_
        rw [if_pos rfl]
      · rw [up_o (by decide), ht.2.2.1 k k0 (by omega), hbf k k0 (by omega), hf' k k0]
    intro d
    induction d with
    | zero => intro p v b p0 p1 hd v0 ht hbf hv; exact fin p v b p0 (by omega) v0 ht hbf
    | succ d ih =>
      intro p v b p0 p1 hd v0 ht hbf hv
      by_cases c : p < N
      · have wp : ∀ j : Int, 0 ≤ j → j ≤ 20 → w (p + j) = p + j := fun j j0 j1 => w_id (by omega) (by omega)
        have lw : ∀ q : Int, 0 ≤ q → q ≤ 600 → call M_L_word [vA 100004, vI q] g v = some (0, vI (w4f f q), g, v) := fun q q0 q1 => by
          rw [L_word hN (by omega) q0 (by omega), ← hw q q0]
          have hx : ∀ k, chr v N k = chr u N k := fun k => by unfold chr; rw [hv]
          rw [hx, hx, hx, hx]
        have ha := TD_append (g := g) (u := v) (t := 1) (b := b) (n := p) hk hr v0 ht (w4f f p) (w4f f (p + 4)) (w4f f (p + 8)) (w4f f (p + 12)) (w4f f (p + 16))
        rw [if_neg (by omega)] at ha
        obtain ⟨v1, e1, l1, t1, f1⟩ := ha
        obtain ⟨u', e2, l2, t2, f2⟩ := ih (p + 20) v1 _ (by omega) (by omega) (by omega) l1 t1 (fun k k0 k1 => by
          rw [five_at p hf]
          by_cases q : p ≤ k
          · rw [if_pos (by omega)]
          · rw [if_neg (by omega)]; exact hbf k k0 (by omega)) (fun k => by rw [f1 _ _ (by omega) (by decide), hv])
        refine ⟨u', ?_, l2, t2, fun a k n1 n2 => (f2 a k n1 n2).trans (f1 a k n1 n2)⟩
        rw [R_L_write_12]
        refine R_len hN ?_
        rw [if_pos c, wp 4 (by decide) (by decide), wp 8 (by decide) (by decide), wp 12 (by decide) (by decide), wp 16 (by decide) (by decide), wp 20 (by decide) (by decide), lw p p0 (by omega), cI_some, lw _ (by omega) (by omega), cI_some, lw _ (by omega) (by omega), cI_some, lw _ (by omega) (by omega), cI_some, lw _ (by omega) (by omega), cI_some, gd_O hk, e1, cI_some, if_pos rfl]
        exact e2
      · exact fin p v b p0 c v0 ht hbf
  obtain ⟨u', e, l, t, f1⟩ := key N 0 (up u 2 0 0) (fun _ => 0) (by decide) (by omega) (by omega) (up_s ..) ⟨by decide, by decide, fun k k0 k1 => by omega, fun k k0 k1 => by omega⟩ (fun k k0 k1 => by omega) (fun k => up_o (by decide))
  refine ⟨u', ?_, l, t, fun a k n1 n2 => (f1 a k n1 n2).trans (up_n (by omega))⟩
  rw [C_L_write, tr u 0 (u 2 0) (by decide) h0 rfl, cI_some, if_pos rfl]
  exact e
end
