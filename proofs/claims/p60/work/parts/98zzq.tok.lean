/-! ===== tokens; the class reads them ===== -/
/-- kind (0 end, 1 word, 2 number, 3 semicolon, 4 stray), first byte, byte behind, value of a number (at most 1000) -/
abbrev TkS : Type := Int × Int × Int × Int
def eor (b : Int → Int) (lo hi : Int) : Nat → Int → Int
  | 0, p => p
  | d + 1, p => if lo ≤ b p ∧ b p ≤ hi then eor b lo hi d (p + 1) else p
def eorN (b : Int → Int) (n lo hi p : Int) : Int := eor b lo hi (n - p).toNat p
theorem eor_bd {b : Int → Int} {lo hi : Int} : ∀ (d : Nat) (p : Int), p ≤ eor b lo hi d p ∧ eor b lo hi d p ≤ p + d
  | 0, p => ⟨Int.le_refl _, by unfold eor; omega⟩
  | d + 1, p => by
    have ih := eor_bd (b := b) (lo := lo) (hi := hi) d (p + 1)
    unfold eor
    split <;> omega
theorem eorN_bd {b : Int → Int} {n lo hi p : Int} (h : p ≤ n) : p ≤ eorN b n lo hi p ∧ eorN b n lo hi p ≤ n := by
  have := eor_bd (b := b) (lo := lo) (hi := hi) (n - p).toNat p
  unfold eorN
  omega
theorem eorN_end {b : Int → Int} {n lo hi p : Int} (h : n ≤ p) : eorN b n lo hi p = p := by
  unfold eorN
  rw [show (n - p).toNat = 0 by omega]
  rfl
theorem eorN_stop {b : Int → Int} {n lo hi p : Int} (h : ¬ (lo ≤ b p ∧ b p ≤ hi)) : eorN b n lo hi p = p := by
  unfold eorN
  cases (n - p).toNat with
  | zero => rfl
  | succ d => exact if_neg h
theorem eorN_step {b : Int → Int} {n lo hi p : Int} (hp : p < n) (h : lo ≤ b p ∧ b p ≤ hi) : eorN b n lo hi p = eorN b n lo hi (p + 1) := by
  unfold eorN
  rw [show (n - p).toNat = (n - (p + 1)).toNat + 1 by omega]
  exact if_pos h
theorem eor_all {b : Int → Int} {lo hi : Int} : ∀ (d : Nat) (p : Int) (k : Int), p ≤ k → k < eor b lo hi d p → lo ≤ b k ∧ b k ≤ hi
  | 0, p, k, h0, h1 => by unfold eor at h1; omega
  | d + 1, p, k, h0, h1 => by
    unfold eor at h1
    by_cases q : lo ≤ b p ∧ b p ≤ hi
    · rw [if_pos q] at h1
      by_cases e : k = p
      · rw [e]; exact q
      · exact eor_all d (p + 1) k (by omega) h1
    · rw [if_neg q] at h1; omega
theorem eorN_all {b : Int → Int} {n lo hi p k : Int} (h0 : p ≤ k) (h1 : k < eorN b n lo hi p) : lo ≤ b k ∧ b k ≤ hi := eor_all _ _ _ h0 h1
/-- the number, no more than M -/
def vlc (b : Int → Int) (M : Int) : Nat → Int → Int → Int
  | 0, _, a => a
  | d + 1, p, a => vlc b M d (p + 1) (min2 (a * 10 + b p - 48) M)
def tkAt (b : Int → Int) (n p : Int) : TkS :=
  if n ≤ eorN b n 32 32 p then (0, eorN b n 32 32 p, eorN b n 32 32 p, 0)
  else if 97 ≤ b (eorN b n 32 32 p) ∧ b (eorN b n 32 32 p) ≤ 122 then (1, eorN b n 32 32 p, eorN b n 97 122 (eorN b n 32 32 p), 0)
  else if 48 ≤ b (eorN b n 32 32 p) ∧ b (eorN b n 32 32 p) ≤ 57 then (2, eorN b n 32 32 p, eorN b n 48 57 (eorN b n 32 32 p), vlc b 1000 (eorN b n 48 57 (eorN b n 32 32 p) - eorN b n 32 32 p).toNat (eorN b n 32 32 p) 0)
  else (if b (eorN b n 32 32 p) = 59 then 3 else 4, eorN b n 32 32 p, eorN b n 32 32 p + 1, 0)
/-- a token that lies in the text -/
def tOkk (n : Int) (T : TkS) : Prop := 0 ≤ T.2.1 ∧ T.2.1 ≤ T.2.2.1 ∧ T.2.2.1 ≤ n ∧ (T.1 ≠ 0 → T.2.1 < T.2.2.1)
theorem tkAt_ok {b : Int → Int} {n p : Int} (h0 : 0 ≤ p) (h1 : p ≤ n) : tOkk n (tkAt b n p) ∧ p ≤ (tkAt b n p).2.1 := by
  have e1 := eorN_bd (b := b) (lo := 32) (hi := 32) h1
  obtain ⟨f, hf⟩ : ∃ f, f = eorN b n 32 32 p := ⟨_, rfl⟩
  unfold tkAt tOkk
  rw [← hf] at e1 ⊢
  by_cases c0 : n ≤ f
  · rw [if_pos c0]
    simp only
    omega
  · rw [if_neg c0]
    by_cases c1 : 97 ≤ b f ∧ b f ≤ 122
    · have e2 := eorN_bd (b := b) (n := n) (lo := 97) (hi := 122) (p := f + 1) (by omega)
      have e3 := eorN_step (n := n) (by omega) c1
      rw [if_pos c1]
      simp only
      omega
    · rw [if_neg c1]
      by_cases c2 : 48 ≤ b f ∧ b f ≤ 57
      · have e2 := eorN_bd (b := b) (n := n) (lo := 48) (hi := 57) (p := f + 1) (by omega)
        have e3 := eorN_step (n := n) (by omega) c2
        rw [if_pos c2]
        simp only
        omega
      · rw [if_neg c2]
        simp only
        omega
/-- a word as text -/
abbrev isW (b : Int → Int) (T : TkS) (tx : List Nat) : Prop := T.1 = 1 ∧ T.2.2.1 - T.2.1 = tx.length ∧ ∀ i : Nat, i < tx.length → b (T.2.1 + i) = ((tx.getD i 0 : Nat) : Int)
/-- the reader's cells -/
def kRd (g : PG) (r : Nat) : Prop := KA g r (1, 6, 0) ∧ kSt g (r + 1) ∧ kFp g (r + 18) ∧ KA g (r + 24) (2, 0, 600) ∧ r + 30 < 100000
def bOkb (b : Int → Int) (n : Int) : Prop := ∀ k : Int, 0 ≤ k → k < n → 0 ≤ b k ∧ b k ≤ 255
def RB (u : PM) (a : Nat) (b : Int → Int) (n : Int) : Prop := ∀ k : Int, 0 ≤ k → k < n → u a k = b k
/-- at token T -/
def RdT (u : PM) (r : Nat) (b : Int → Int) (n : Int) (T : TkS) : Prop := (u r 0 = n ∧ 0 ≤ n ∧ n ≤ 600 ∧ RB u (r + 24) b n ∧ bOkb b n) ∧ (u r 8 = T.1 ∧ u r 9 = T.2.1 ∧ u r 7 = T.2.2.1) ∧ (T.1 = 2 → u r 10 = T.2.2.2) ∧ tOkk n T
/-- token fields only -/
def FT (r : Nat) (u u' : PM) : Prop := ∀ (a : Nat) (k : Int), ¬ (a = r ∧ 7 ≤ k ∧ k ≤ 10) → u' a k = u a k
section
variable {g : PG} {u : PM} {r : Nat} {b : Int → Int} {n : Int}
theorem Rd_endOfRun (hk : kRd g r) (h0 : u r 0 = n) (hn : n ≤ 600) (hb : RB u (r + 24) b n) (p0 : 0 ≤ u r 7) (lo hi : Int) : call M_Rd_endOfRun [vA r, vI lo, vI hi] g u = some (0, vI (eorN b n lo hi (u r 7)), g, u) := by
  have key : ∀ (d : Nat) (p : Int), 0 ≤ p → (n - p).toNat = d → run M_Rd_endOfRun 5 [vA r, vI lo, vI hi, vI p] [] g u = some (0, vI (eorN b n lo hi p), g, u) := by
    intro d
    induction d with
    | zero =>
      intro p hp hd
      rw [R_Rd_endOfRun_5, gd_O hk.1, if_neg (by omega), eorN_end (by omega)]
    | succ d ih =>
      intro p hp hd
      have hbp := hb p hp (by omega)
      rw [R_Rd_endOfRun_5, gd_O hk.1, if_pos (by omega), if_pos (by omega), gd_O hk.1, gd_R hk.2.2.2.1 hp (by omega), hbp]
      by_cases c1 : b p < lo
      · rw [if_pos c1, eorN_stop (by omega)]
      · rw [if_neg c1, gd_O hk.1, gd_R hk.2.2.2.1 hp (by omega)]
        by_cases c2 : hi < b p
        · rw [if_pos c2, eorN_stop (by omega)]
        · rw [if_neg c2, w_id (x := p + 1) (by omega) (by omega), ih (p + 1) (by omega) (by omega), ← eorN_step (n := n) (p := p) (by omega) ⟨by omega, by omega⟩]
  rw [C_Rd_endOfRun, gd_O hk.1, key _ _ p0 rfl]
theorem Rd_byteAt (hk : kRd g r) (h0 : u r 0 = n) (hn : n ≤ 600) (hb : RB u (r + 24) b n) {p : Int} (p0 : 0 ≤ p) : call M_Rd_byteAt [vA r, vI p] g u = some (0, vI (if p < n then b p else -1), g, u) := by
  rw [C_Rd_byteAt, if_neg (by omega), gd_O hk.1]
  by_cases c : p < n
  · rw [if_pos (by omega), if_pos (by omega), gd_O hk.1, gd_R hk.2.2.2.1 p0 (by omega), hb p p0 c, if_pos c]
  · rw [if_neg (by omega), if_neg c]
theorem vlc_bd {b : Int → Int} {M : Int} (hM : 1000 ≤ M) : ∀ (d : Nat) (p a : Int), 0 ≤ a → a ≤ M → (∀ k : Int, p ≤ k → k < p + d → 48 ≤ b k ∧ b k ≤ 57) → 0 ≤ vlc b M d p a ∧ vlc b M d p a ≤ M
  | 0, _, a, h0, h1, _ => ⟨h0, h1⟩
  | d + 1, p, a, h0, h1, hb => by
    have hp := hb p (Int.le_refl _) (by omega)
    have hm := min2_or (a * 10 + b p - 48) M
    exact vlc_bd hM d (p + 1) _ (by omega) (by omega) fun k k0 k1 => hb k (by omega) (by omega)
theorem Rd_value (hk : kRd g r) (hn : n ≤ 600) (hb : RB u (r + 24) b n) (p0 : 0 ≤ u r 9) (p1 : u r 9 ≤ u r 7) (p2 : u r 7 ≤ n) (hd : ∀ k : Int, u r 9 ≤ k → k < u r 7 → 48 ≤ b k ∧ b k ≤ 57) : call M_Rd_valueOfToken [vA r] g u = some (0, vI (vlc b 1000 (u r 7 - u r 9).toNat (u r 9) 0), g, u) := by
  have key : ∀ (d : Nat) (p a : Int), u r 9 ≤ p → (u r 7 - p).toNat = d → 0 ≤ a → a ≤ 1000 → run M_Rd_valueOfToken 7 [vA r, vI a, vI p] [] g u = some (0, vI (vlc b 1000 d p a), g, u) := by
    intro d
    induction d with
    | zero =>
      intro p a hp hd a0 a1
      rw [R_Rd_valueOfToken_7, gd_O hk.1, if_neg (by omega)]
      rfl
    | succ d ih =>
      intro p a hp hd' a0 a1
      have hbp := hb p (by omega) (by omega)
      have hdp := hd p hp (by omega)
      have hm := min2_or (a * 10 + b p - 48) 1000
      rw [R_Rd_valueOfToken_7, gd_O hk.1, if_pos (by omega), if_pos (by omega), gd_O hk.1, gd_R hk.2.2.2.1 (by omega) (by omega), hbp, w_id (x := a * 10) (by omega) (by omega), w_id (x := a * 10 + b p) (by omega) (by omega), w_id (x := a * 10 + b p - 48) (by omega) (by omega), w_id (x := p + 1) (by omega) (by omega), ih (p + 1) _ (by omega) (by omega) (by omega) (by omega)]
      rfl
  rw [C_Rd_valueOfToken, gd_O hk.1, key _ _ _ (Int.le_refl _) rfl (by decide) (by decide)]
theorem Rd_next (hk : kRd g r) (h0 : u r 0 = n) (n0 : 0 ≤ n) (hn : n ≤ 600) (hb : RB u (r + 24) b n) (hB : bOkb b n) (p0 : 0 ≤ u r 7) (p1 : u r 7 ≤ n) : ∃ u', call M_Rd_nextToken [vA r] g u = some (0, vN, g, u') ∧ RdT u' r b n (tkAt b n (u r 7)) ∧ FT r u u' := by
  have hok := (tkAt_ok (b := b) (n := n) p0 p1).1
  have e1 := eorN_bd (b := b) (lo := 32) (hi := 32) p1
  obtain ⟨f, hf⟩ : ∃ f, f = eorN b n 32 32 (u r 7) := ⟨_, rfl⟩
  obtain ⟨v, hv⟩ : ∃ v, v = up (up u r 7 f) r 9 f := ⟨_, rfl⟩
  have v7 : v r 7 = f := by rw [hv, up_j (by decide), up_s]
  have v9 : v r 9 = f := by rw [hv, up_s]
  have v0 : v r 0 = n := by rw [hv, up_j (by decide), up_j (by decide), h0]
  have vb : RB v (r + 24) b n := fun k k0 k1 => by rw [hv, up_o (by omega), up_o (by omega)]; exact hb k k0 k1
  have fv : FT r u v := fun a k h => by rw [hv, up_n (by omega), up_n (by omega)]
  have fin : ∀ (x : PM) (T : TkS), tkAt b n (u r 7) = T → FT r v x → x r 8 = T.1 → x r 9 = T.2.1 → x r 7 = T.2.2.1 → (T.1 = 2 → x r 10 = T.2.2.2) → RdT x r b n (tkAt b n (u r 7)) ∧ FT r u x := fun x T hT fx q8 q9 q7 q10 => by
    have fx2 : FT r u x := fun a k h => (fx a k h).trans (fv a k h)
    rw [hT] at hok ⊢
    exact ⟨⟨⟨by rw [fx2 r 0 (by omega), h0], n0, hn, fun k k0 k1 => by rw [fx2 (r + 24) k (by omega)]; exact hb k k0 k1, hB⟩, ⟨q8, q9, q7⟩, q10, hok⟩, fx2⟩
  have hT : tkAt b n (u r 7) = if n ≤ f then (0, f, f, 0) else if 97 ≤ b f ∧ b f ≤ 122 then (1, f, eorN b n 97 122 f, 0) else if 48 ≤ b f ∧ b f ≤ 57 then (2, f, eorN b n 48 57 f, vlc b 1000 (eorN b n 48 57 f - f).toNat f 0) else (if b f = 59 then 3 else 4, f, f + 1, 0) := by
    unfold tkAt
    rw [← hf]
  rw [C_Rd_nextToken, gd_O hk.1, Rd_endOfRun hk h0 hn hb p0, cI_some, ← hf]
  simp only [gd_O hk.1]
  rw [show up u r 7 f r 7 = f from up_s .., ← hv, v7, Rd_byteAt hk v0 hn vb (by omega), cI_some]
  by_cases c0 : n ≤ f
  · rw [if_pos c0] at hT
    rw [if_neg (show ¬ f < n by omega), if_pos rfl, gd_O hk.1]
    exact ⟨_, rfl, fin _ _ hT (fun a k h => up_n (by omega)) (up_s ..) (by rw [up_j (by decide), v9]) (by rw [up_j (by decide), v7]) (fun z => absurd z (show ¬ (0 : Int) = 2 by decide))⟩
  · rw [if_neg c0] at hT
    have hbf := hB f (by omega) (by omega)
    rw [if_pos (show f < n by omega)]
    by_cases c1 : 97 ≤ b f ∧ b f ≤ 122
    · rw [if_pos c1] at hT
      rw [if_neg (show ¬ b f = -1 by omega), if_neg (show ¬ b f < 97 by omega), if_neg (show ¬ 122 < b f by omega)]
      simp only [gd_O hk.1]
      rw [Rd_endOfRun (n := n) (b := b) hk (by rw [up_j (by decide), v0]) hn (fun k k0 k1 => by rw [up_o (by omega)]; exact vb k k0 k1) (by rw [up_j (by decide), v7]; omega), cI_some, gd_O hk.1]
      rw [show up v r 8 1 r 7 = f by rw [up_j (by decide), v7]]
      exact ⟨_, rfl, fin _ _ hT (fun a k h => by rw [up_n (by omega), up_n (by omega)]) (by rw [up_j (by decide), up_s]) (by rw [up_j (by decide), up_j (by decide), v9]) (up_s ..) (fun z => absurd z (show ¬ (1 : Int) = 2 by decide))⟩
    · rw [if_neg c1] at hT
      have h74 : (if b f < 97 then run M_Rd_nextToken 74 [vA r, vI (b f)] [] g v else if 122 < b f then run M_Rd_nextToken 74 [vA r, vI (b f)] [] g v else (bif pW r && pO (pK g r) 6 then (bif pW r && pO (pK g r) 6 then cI (call M_Rd_endOfRun [vA r, vI 97, vI 122] g (up v r 8 1)) (fun x9 g7 u8 => bif pW r && pO (pK g7 r) 6 then some (0, vN, g7, up u8 r 7 x9) else none) noX else none) else none)) = run M_Rd_nextToken 74 [vA r, vI (b f)] [] g v := by
        by_cases z1 : b f < 97
        · rw [if_pos z1]
        · rw [if_neg z1, if_pos (show 122 < b f by omega)]
      rw [if_neg (show ¬ b f = -1 by omega)]
      suffices hs : ∃ u', run M_Rd_nextToken 74 [vA r, vI (b f)] [] g v = some (0, vN, g, u') ∧ RdT u' r b n (tkAt b n (u r 7)) ∧ FT r u u' from by
        obtain ⟨u', k1, k2⟩ := hs
        exact ⟨u', h74.trans k1, k2⟩
      by_cases c2 : 48 ≤ b f ∧ b f ≤ 57
      · rw [if_pos c2] at hT
        have e2 := eorN_bd (b := b) (n := n) (lo := 48) (hi := 57) (p := f) (by omega)
        rw [R_Rd_nextToken_74, if_neg (show ¬ b f < 48 by omega), if_neg (show ¬ 57 < b f by omega)]
        simp only [gd_O hk.1]
        obtain ⟨x, hx⟩ : ∃ x, x = up (up v r 8 2) r 7 (eorN b n 48 57 f) := ⟨_, rfl⟩
        have x9 : x r 9 = f := by rw [hx, up_j (by decide), up_j (by decide), v9]
        have x7 : x r 7 = eorN b n 48 57 f := by rw [hx, up_s]
        have hval := Rd_value (g := g) (u := x) (b := b) (n := n) hk hn (fun k k0 k1 => by rw [hx, up_o (by omega), up_o (by omega)]; exact vb k k0 k1) (by omega) (by omega) (by omega) (fun k k0 k1 => eorN_all (n := n) (p := f) (by omega) (by omega))
        rw [x7, x9] at hval
        rw [Rd_endOfRun (n := n) (b := b) hk (by rw [up_j (by decide), v0]) hn (fun k k0 k1 => by rw [up_o (by omega)]; exact vb k k0 k1) (by rw [up_j (by decide), v7]; omega), cI_some]
        simp only [gd_O hk.1]
        rw [show up v r 8 2 r 7 = f by rw [up_j (by decide), v7], ← hx, hval, cI_some, gd_O hk.1]
        exact ⟨_, rfl, fin _ _ hT (fun a k h => by rw [up_n (by omega), hx, up_n (by omega), up_n (by omega)]) (by rw [up_j (by decide), hx, up_j (by decide), up_s]) (by rw [up_j (by decide), x9]) (by rw [up_j (by decide), x7]) (fun _ => up_s ..)⟩
      · rw [if_neg c2] at hT
        have h114 : run M_Rd_nextToken 74 [vA r, vI (b f)] [] g v = run M_Rd_nextToken 114 [vA r, vI (b f)] [] g v := by
          rw [R_Rd_nextToken_74]
          by_cases z1 : b f < 48
          · rw [if_pos z1]
          · rw [if_neg z1, if_pos (show 57 < b f by omega)]
        have h126 : ∀ c : Int, run M_Rd_nextToken 126 [vA r, vI (b f)] [vI c, vA r] g v = some (0, vN, g, up (up v r 8 c) r 7 (f + 1)) := fun c => by
          rw [R_Rd_nextToken_126]
          simp only [gd_O hk.1]
          rw [show up v r 8 c r 7 = f by rw [up_j (by decide), v7], w_id (by omega) (by omega)]
        rw [h114, R_Rd_nextToken_114]
        by_cases c3 : b f = 59
        · rw [if_pos c3, h126]
          rw [if_pos c3] at hT
          exact ⟨_, rfl, fin _ _ hT (fun a k h => by rw [up_n (by omega), up_n (by omega)]) (by rw [up_j (by decide), up_s]) (by rw [up_j (by decide), up_j (by decide), v9]) (up_s ..) (fun z => absurd z (show ¬ (3 : Int) = 2 by decide))⟩
        · rw [if_neg c3, h126]
          rw [if_neg c3] at hT
          exact ⟨_, rfl, fin _ _ hT (fun a k h => by rw [up_n (by omega), up_n (by omega)]) (by rw [up_j (by decide), up_s]) (by rw [up_j (by decide), up_j (by decide), v9]) (up_s ..) (fun z => absurd z (show ¬ (4 : Int) = 2 by decide))⟩
theorem Rd_next2 {T : TkS} (hk : kRd g r) (h : RdT u r b n T) : ∃ u', call M_Rd_nextToken [vA r] g u = some (0, vN, g, u') ∧ RdT u' r b n (tkAt b n T.2.2.1) ∧ FT r u u' := by
  obtain ⟨⟨h0, n0, hn, hb, hB⟩, ⟨-, -, h7⟩, -, t1, t2, t3, -⟩ := h
  have := Rd_next (g := g) hk h0 n0 hn hb hB (by omega) (by omega)
  rw [h7] at this
  exact this
theorem Rd_fail (hk : kRd g r) (c : Int) : call M_Rd_fail [vA r, vI c] g u = some (0, vI 0, g, up (up u r 1 c) r 2 (u r 9)) := by
  rw [C_Rd_fail]
  simp only [gd_O hk.1]
  rw [up_j (by decide)]
/-- is the token this word? -/
theorem Rd_wordIs {T : TkS} (hk : kRd g r) (h : RdT u r b n T) {p : Nat} {tx : List Nat} (htx : gStr p = some tx) (hl : tx.length ≤ 600) : call M_Rd_wordIs [vA r, vA p] g u = some (0, vI (bI (isW b T tx)), g, u) := by
  obtain ⟨⟨h0, n0, hn, hb, hB⟩, ⟨h8, h9, h7⟩, -, t1, t2, t3, -⟩ := h
  rw [C_Rd_wordIs, gd_O hk.1]
  by_cases c0 : T.1 = 1
  · rw [if_pos (by rw [h8]; exact c0)]
    simp only [gd_O hk.1]
    rw [htx, pTx_some, h7, h9, w_id (by omega) (by omega)]
    by_cases c1 : T.2.2.1 - T.2.1 = tx.length
    · rw [if_pos c1]
      have key : ∀ (d i : Nat), i + d = tx.length → (∀ j : Nat, j < i → b (T.2.1 + j) = ((tx.getD j 0 : Nat) : Int)) → run M_Rd_wordIs 28 [vA r, vA p, vI i] [] g u = some (0, vI (bI (isW b T tx)), g, u) := by
        intro d
        induction d with
        | zero =>
          intro i hi hj
          rw [R_Rd_wordIs_28, htx, pTx_some, if_neg (by omega), bI_t ⟨c0, c1, fun j hj2 => hj j (by omega)⟩]
        | succ d ih =>
          intro i hi hj
          rw [R_Rd_wordIs_28, htx, pTx_some, if_pos (by omega)]
          simp only [gd_O hk.1]
          rw [h9, w_id (x := T.2.1 + (i : Int)) (by omega) (by omega), Rd_byteAt hk h0 hn hb (by omega), cI_some, pTx_some, if_pos (show T.2.1 + (i : Int) < n by omega), decide_eq_true (show (0 : Int) ≤ i by omega), decide_eq_true (show (i : Int) < tx.length by omega), Bool.and_true, cond_true, Int.toNat_natCast]
          by_cases c2 : b (T.2.1 + i) = ((tx.getD i 0 : Nat) : Int)
          · rw [if_pos c2, w_id (x := (i : Int) + 1) (by omega) (by omega)]
            have := ih (i + 1) (by omega) (fun j hj2 => by
              by_cases e : j = i
              · rw [e]; exact c2
              · exact hj j (by omega))
            rw [show ((i + 1 : Nat) : Int) = (i : Int) + 1 by omega] at this
            exact this
          · rw [if_neg c2, bI_f fun q => c2 (q.2.2 i (by omega))]
      exact key tx.length 0 (by omega) (fun j hj => by omega)
    · rw [if_neg c1, bI_f fun q => c1 q.2.1]
  · rw [if_neg (by rw [h8]; exact c0), bI_f fun q => c0 q.1]
end
