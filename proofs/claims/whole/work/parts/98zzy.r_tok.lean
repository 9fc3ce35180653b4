/-! ===== the reference reads tokens ===== -/
theorem min2_cm (a b : Int) : min2 a b = min2 b a := by
  have h1 := min2_or a b
  have h2 := min2_or b a
  omega
theorem vlc_cap {b : Int → Int} : ∀ (d : Nat) (p a a' : Int), 0 ≤ a → min2 a 1000 = a' → (∀ k : Int, p ≤ k → k < p + d → 48 ≤ b k ∧ b k ≤ 57) → min2 (vlc b 100000 d p a) 1000 = vlc b 1000 d p a'
  | 0, _, _, _, _, h, _ => h
  | d + 1, p, a, a', h0, h, hb => by
    have hp := hb p (Int.le_refl _) (by omega)
    have m1 := min2_or (a * 10 + b p - 48) 100000
    have m2 := min2_or (a' * 10 + b p - 48) 1000
    have m3 := min2_or (min2 (a * 10 + b p - 48) 100000) 1000
    have m4 := min2_or a 1000
    exact vlc_cap d (p + 1) _ _ (by omega) (by omega) fun k k0 k1 => hb k (by omega) (by omega)
def kMd (g : PG) (t : Nat) : Prop := kTM g t ∧ KA g (t + 7) (2, 0, 600)
/-- the reference's text -/
def MdB (u : PM) (t : Nat) (b : Int → Int) (n : Int) : Prop := u t 13 = n ∧ TxO u (t + 7) n b
/-- the reference at token T -/
def MdT (u : PM) (t : Nat) (b : Int → Int) (n : Int) (T : TkS) : Prop := MdB u t b n ∧ (u t 18 = T.1 ∧ u t 19 = T.2.1 ∧ u t 20 = T.2.2.1) ∧ (T.1 = 2 → min2 (u t 21) 1000 = T.2.2.2) ∧ tOkk n T
/-- token fields of the reference -/
def FTM (t : Nat) (u u' : PM) : Prop := ∀ (a : Nat) (k : Int), ¬ (a = t ∧ 18 ≤ k ∧ k ≤ 21) → u' a k = u a k
theorem FTM.tr {t : Nat} {u v x : PM} (h : FTM t u v) (h' : FTM t v x) : FTM t u x := fun a k z => (h' a k z).trans (h a k z)
theorem FTM.rfl' {t : Nat} {u : PM} : FTM t u u := fun _ _ _ => rfl
section
variable {g : PG} {u : PM} {t : Nat} {b : Int → Int} {n : Int} {T : TkS}
theorem MdB.fr {v : PM} (h : MdB u t b n) (f : ∀ (a : Nat) (k : Int), ¬ (a = t ∧ k ≠ 13) → a ≠ t + 1 → a ≠ t + 9 → a ≠ t + 10 → v a k = u a k) : MdB v t b n :=
  ⟨by rw [f t 13 (by omega) (by omega) (by omega) (by omega)]; exact h.1, h.2.1, h.2.2.1, fun k k0 k1 => by rw [f _ _ (by omega) (by omega) (by omega) (by omega)]; exact h.2.2.2.1 k k0 k1, h.2.2.2.2⟩
theorem MdB.ft {v : PM} (h : MdB u t b n) (f : FTM t u v) : MdB v t b n := h.fr fun a k z _ _ _ => f a k (by omega)
theorem TM_isLetter (hk : kMd g t) (h : MdB u t b n) {a : Int} (a0 : 0 ≤ a) : call M_TM_isLetter [vA t, vI a] g u = some (0, vI (bI (a < n ∧ 97 ≤ b a ∧ b a ≤ 122)), g, u) := by
  have z := h.2.2.1
  rw [C_TM_isLetter, gd_O hk.1.1, h.1]
  by_cases c : a < n
  · rw [if_pos c, gd_O hk.1.1, gd_R hk.2 a0 (by omega), h.2.2.2.1 a a0 c, TM_isIn, cI_some]
    by_cases c1 : 97 ≤ b a ∧ b a ≤ 122
    · rw [bI_t c1, if_neg (by decide), bI_t ⟨c, c1⟩]
    · rw [bI_f c1, if_pos rfl, bI_f fun q => c1 q.2]
  · rw [if_neg c, bI_f fun q => c q.1]
theorem TM_isDigit (hk : kMd g t) (h : MdB u t b n) {a : Int} (a0 : 0 ≤ a) : call M_TM_isDigit [vA t, vI a] g u = some (0, vI (bI (a < n ∧ 48 ≤ b a ∧ b a ≤ 57)), g, u) := by
  have z := h.2.2.1
  rw [C_TM_isDigit, gd_O hk.1.1, h.1]
  by_cases c : a < n
  · rw [if_pos c, gd_O hk.1.1, gd_R hk.2 a0 (by omega), h.2.2.2.1 a a0 c, TM_isIn, cI_some]
    by_cases c1 : 48 ≤ b a ∧ b a ≤ 57
    · rw [bI_t c1, if_neg (by decide), bI_t ⟨c, c1⟩]
    · rw [bI_f c1, if_pos rfl, bI_f fun q => c1 q.2]
  · rw [if_neg c, bI_f fun q => c q.1]
theorem TM_next0 (hk : kMd g t) : ∀ (d : Nat) (u : PM), MdB u t b n → 0 ≤ u t 20 → (n - u t 20).toNat = d → ∃ v, run M_TM_next 0 [vA t] [] g u = run M_TM_next 38 [vA t] [] g v ∧ v t 20 = eorN b n 32 32 (u t 20) ∧ FTM t u v := by
  intro d
  induction d with
  | zero =>
    intro u h p0 hd
    refine ⟨u, ?_, (eorN_end (by omega)).symm, FTM.rfl'⟩
    rw [R_TM_next_0]
    simp only [gd_O hk.1.1]
    rw [h.1, if_neg (by omega)]
  | succ d ih =>
    intro u h p0 hd
    have z := h.2.2.1
    by_cases c : b (u t 20) = 32
    · obtain ⟨x, hx⟩ : ∃ x, x = up u t 20 (u t 20 + 1) := ⟨_, rfl⟩
      have fx : FTM t u x := fun a k q => by rw [hx, up_n (by omega)]
      have x20 : x t 20 = u t 20 + 1 := by rw [hx, up_s]
      obtain ⟨v, e1, l1, f1⟩ := ih x (h.ft fx) (by omega) (by omega)
      refine ⟨v, ?_, ?_, fx.tr f1⟩
      · rw [R_TM_next_0]
        simp only [gd_O hk.1.1]
        rw [h.1, if_pos (by omega), gd_R hk.2 p0 (by omega), h.2.2.2.1 _ p0 (by omega), if_pos c, w_id (x := u t 20 + 1) (by omega) (by omega), ← hx, e1]
      · rw [l1, x20, ← eorN_step (n := n) (p := u t 20) (by omega) ⟨by omega, by omega⟩]
    · refine ⟨u, ?_, (eorN_stop (by omega)).symm, FTM.rfl'⟩
      rw [R_TM_next_0]
      simp only [gd_O hk.1.1]
      rw [h.1, if_pos (by omega), gd_R hk.2 p0 (by omega), h.2.2.2.1 _ p0 (by omega), if_neg c]
theorem TM_next81 (hk : kMd g t) : ∀ (d : Nat) (u : PM), MdB u t b n → 0 ≤ u t 20 → (n - u t 20).toNat = d → ∃ v, run M_TM_next 81 [vA t] [] g u = some (0, vN, g, v) ∧ v t 20 = eorN b n 97 122 (u t 20) ∧ ∀ (a : Nat) (k : Int), ¬ (a = t ∧ k = 20) → v a k = u a k := by
  intro d
  induction d with
  | zero =>
    intro u h p0 hd
    refine ⟨u, ?_, (eorN_end (by omega)).symm, fun _ _ _ => rfl⟩
    rw [R_TM_next_81]
    simp only [gd_O hk.1.1]
    rw [TM_isLetter hk h p0, cI_some, bI_f (by omega), if_pos rfl]
  | succ d ih =>
    intro u h p0 hd
    have z := h.2.2.1
    by_cases c : 97 ≤ b (u t 20) ∧ b (u t 20) ≤ 122
    · obtain ⟨x, hx⟩ : ∃ x, x = up u t 20 (u t 20 + 1) := ⟨_, rfl⟩
      have fx : ∀ (a : Nat) (k : Int), ¬ (a = t ∧ k = 20) → x a k = u a k := fun a k q => by rw [hx, up_n q]
      have x20 : x t 20 = u t 20 + 1 := by rw [hx, up_s]
      obtain ⟨v, e1, l1, f1⟩ := ih x (h.ft fun a k q => fx a k (by omega)) (by omega) (by omega)
      refine ⟨v, ?_, ?_, fun a k q => (f1 a k q).trans (fx a k q)⟩
      · rw [R_TM_next_81]
        simp only [gd_O hk.1.1]
        rw [TM_isLetter hk h p0, cI_some, bI_t ⟨by omega, c⟩, if_neg (by decide)]
        simp only [gd_O hk.1.1]
        rw [w_id (x := u t 20 + 1) (by omega) (by omega), ← hx, e1]
      · rw [l1, x20, ← eorN_step (n := n) (p := u t 20) (by omega) c]
    · refine ⟨u, ?_, (eorN_stop c).symm, fun _ _ _ => rfl⟩
      rw [R_TM_next_81]
      simp only [gd_O hk.1.1]
      rw [TM_isLetter hk h p0, cI_some, bI_f (fun q => c q.2), if_pos rfl]
theorem TM_next126 (hk : kMd g t) : ∀ (d : Nat) (u : PM), MdB u t b n → 0 ≤ u t 20 → (n - u t 20).toNat = d → (0 ≤ u t 21 ∧ u t 21 ≤ 100000) → ∃ v, run M_TM_next 126 [vA t] [] g u = some (0, vN, g, v) ∧ v t 20 = eorN b n 48 57 (u t 20) ∧ v t 21 = vlc b 100000 (eorN b n 48 57 (u t 20) - u t 20).toNat (u t 20) (u t 21) ∧ ∀ (a : Nat) (k : Int), ¬ (a = t ∧ (k = 20 ∨ k = 21)) → v a k = u a k := by
  intro d
  induction d with
  | zero =>
    intro u h p0 hd v0
    have e := eorN_end (b := b) (lo := 48) (hi := 57) (n := n) (p := u t 20) (by omega)
    refine ⟨u, ?_, e.symm, ?_, fun _ _ _ => rfl⟩
    · rw [R_TM_next_126]
      simp only [gd_O hk.1.1]
      rw [TM_isDigit hk h p0, cI_some, bI_f (by omega), if_pos rfl]
    · rw [e, show (u t 20 - u t 20).toNat = 0 by omega]
      rfl
  | succ d ih =>
    intro u h p0 hd v0
    have z := h.2.2.1
    by_cases c : 48 ≤ b (u t 20) ∧ b (u t 20) ≤ 57
    · obtain ⟨x, hx⟩ : ∃ x, x = up (up u t 21 (min2 (u t 21 * 10 + b (u t 20) - 48) 100000)) t 20 (u t 20 + 1) := ⟨_, rfl⟩
      have fx : ∀ (a : Nat) (k : Int), ¬ (a = t ∧ (k = 20 ∨ k = 21)) → x a k = u a k := fun a k q => by rw [hx, up_n (by omega), up_n (by omega)]
      have x20 : x t 20 = u t 20 + 1 := by rw [hx, up_s]
      have x21 : x t 21 = min2 (u t 21 * 10 + b (u t 20) - 48) 100000 := by rw [hx, up_j (by decide), up_s]
      have hm := min2_or (u t 21 * 10 + b (u t 20) - 48) 100000
      obtain ⟨v, e1, l1, l2, f1⟩ := ih x (h.ft fun a k q => fx a k (by omega)) (by omega) (by omega) (by omega)
      have es := eorN_step (n := n) (p := u t 20) (by omega) c
      have eb := eorN_bd (b := b) (n := n) (lo := 48) (hi := 57) (p := u t 20 + 1) (by omega)
      refine ⟨v, ?_, ?_, ?_, fun a k q => (f1 a k q).trans (fx a k q)⟩
      · rw [R_TM_next_126]
        simp only [gd_O hk.1.1]
        rw [TM_isDigit hk h p0, cI_some, bI_t ⟨by omega, c⟩, if_neg (by decide)]
        simp only [gd_O hk.1.1]
        rw [gd_R hk.2 p0 (by omega), h.2.2.2.1 _ p0 (by omega), show w (pNum 0 100000) = 100000 from rfl, w_id (x := u t 21 * 10) (by omega) (by omega), w_id (x := u t 21 * 10 + b (u t 20)) (by omega) (by omega), w_id (x := u t 21 * 10 + b (u t 20) - 48) (by omega) (by omega), min2_cm 100000, up_j (by decide), w_id (x := u t 20 + 1) (by omega) (by omega), ← hx, e1]
      · rw [l1, x20, ← es]
      · rw [l2, x20, x21, es, show (eorN b n 48 57 (u t 20 + 1) - u t 20).toNat = (eorN b n 48 57 (u t 20 + 1) - (u t 20 + 1)).toNat + 1 by omega]
        rfl
    · have e := eorN_stop (b := b) (lo := 48) (hi := 57) (n := n) (p := u t 20) c
      refine ⟨u, ?_, e.symm, ?_, fun _ _ _ => rfl⟩
      · rw [R_TM_next_126]
        simp only [gd_O hk.1.1]
        rw [TM_isDigit hk h p0, cI_some, bI_f (fun q => c q.2), if_pos rfl]
      · rw [e, show (u t 20 - u t 20).toNat = 0 by omega]
        rfl
theorem TM_next (hk : kMd g t) (h : MdB u t b n) (p0 : 0 ≤ u t 20) (p1 : u t 20 ≤ n) : ∃ v, call M_TM_next [vA t] g u = some (0, vN, g, v) ∧ MdT v t b n (tkAt b n (u t 20)) ∧ FTM t u v := by
  have hok := (tkAt_ok (b := b) (n := n) p0 p1).1
  have e1 := eorN_bd (b := b) (lo := 32) (hi := 32) p1
  have hn6 := h.2.2.1
  obtain ⟨f, hf⟩ : ∃ f, f = eorN b n 32 32 (u t 20) := ⟨_, rfl⟩
  obtain ⟨x, ex, x20, fx⟩ := TM_next0 hk _ u h p0 rfl
  rw [← hf] at x20 e1
  obtain ⟨v, hv⟩ : ∃ v, v = up x t 19 f := ⟨_, rfl⟩
  have fv : FTM t u v := fx.tr fun a k z => by rw [hv, up_n (by omega)]
  have hvB := h.ft fv
  have v19 : v t 19 = f := by rw [hv, up_s]
  have v20 : v t 20 = f := by rw [hv, up_j (by decide), x20]
  have fin : ∀ (y : PM) (T : TkS), tkAt b n (u t 20) = T → FTM t v y → y t 18 = T.1 → y t 19 = T.2.1 → y t 20 = T.2.2.1 → (T.1 = 2 → min2 (y t 21) 1000 = T.2.2.2) → MdT y t b n (tkAt b n (u t 20)) ∧ FTM t u y := fun y T hT fy q8 q9 q7 q10 => by
    rw [hT] at hok ⊢
    exact ⟨⟨h.ft (fv.tr fy), ⟨q8, q9, q7⟩, q10, hok⟩, fv.tr fy⟩
  have hT : tkAt b n (u t 20) = if n ≤ f then (0, f, f, 0) else if 97 ≤ b f ∧ b f ≤ 122 then (1, f, eorN b n 97 122 f, 0) else if 48 ≤ b f ∧ b f ≤ 57 then (2, f, eorN b n 48 57 f, vlc b 1000 (eorN b n 48 57 f - f).toNat f 0) else (if b f = 59 then 3 else 4, f, f + 1, 0) := by
    unfold tkAt
    rw [← hf]
  rw [(C_TM_next t g u).trans (R_TM_next_0 t g u).symm, ex, R_TM_next_38]
  simp only [gd_O hk.1.1]
  rw [x20, ← hv, v20, hvB.1]
  by_cases c0 : n ≤ f
  · rw [if_pos c0] at hT
    rw [if_pos (by omega)]
    exact ⟨_, rfl, fin _ _ hT (fun a k z => up_n (by omega)) (up_s ..) (by rw [up_j (by decide), v19]) (by rw [up_j (by decide), v20]) (fun z => absurd z (show ¬ (0 : Int) = 2 by decide))⟩
  · rw [if_neg c0] at hT
    rw [if_neg (by omega), TM_isLetter hk hvB (by omega), cI_some]
    by_cases c1 : 97 ≤ b f ∧ b f ≤ 122
    · rw [if_pos c1] at hT
      rw [bI_t ⟨by omega, c1⟩, if_neg (by decide), gd_O hk.1.1]
      obtain ⟨y, hy⟩ : ∃ y, y = up v t 18 1 := ⟨_, rfl⟩
      have fy : FTM t v y := fun a k z => by rw [hy, up_n (by omega)]
      have y20 : y t 20 = f := by rw [hy, up_j (by decide), v20]
      obtain ⟨o, eo, o20, fo⟩ := TM_next81 hk _ y (hvB.ft fy) (by omega) rfl
      rw [← hy, eo]
      exact ⟨o, rfl, fin o _ hT (fy.tr fun a k z => fo a k (by omega)) (by rw [fo t 18 (by omega), hy, up_s]) (by rw [fo t 19 (by omega), hy, up_j (by decide), v19]) (by rw [o20, y20]) (fun z => absurd z (show ¬ (1 : Int) = 2 by decide))⟩
    · rw [if_neg c1] at hT
      rw [bI_f (fun q => c1 q.2), if_pos rfl]
      simp only [gd_O hk.1.1]
      rw [v20, TM_isDigit hk hvB (by omega), cI_some]
      by_cases c2 : 48 ≤ b f ∧ b f ≤ 57
      · rw [if_pos c2] at hT
        rw [bI_t ⟨by omega, c2⟩, if_neg (by decide)]
        simp only [gd_O hk.1.1]
        obtain ⟨y, hy⟩ : ∃ y, y = up (up v t 18 2) t 21 0 := ⟨_, rfl⟩
        have fy : FTM t v y := fun a k z => by rw [hy, up_n (by omega), up_n (by omega)]
        have y20 : y t 20 = f := by rw [hy, up_j (by decide), up_j (by decide), v20]
        have y21 : y t 21 = 0 := by rw [hy, up_s]
        obtain ⟨o, eo, o20, o21, fo⟩ := TM_next126 hk _ y (hvB.ft fy) (by omega) rfl (by omega)
        rw [← hy, eo]
        rw [y20] at o20 o21
        rw [y21] at o21
        have eb := eorN_bd (b := b) (n := n) (lo := 48) (hi := 57) (p := f) (by omega)
        exact ⟨o, rfl, fin o _ hT (fy.tr fun a k z => fo a k (by omega)) (by rw [fo t 18 (by omega), hy, up_j (by decide), up_s]) (by rw [fo t 19 (by omega), hy, up_j (by decide), up_j (by decide), v19]) o20 (fun _ => by
          rw [o21]
          exact vlc_cap _ _ _ _ (by decide) (by decide) fun k k0 k1 => eorN_all (n := n) (p := f) k0 (by omega))⟩
      · rw [if_neg c2] at hT
        have hbf := hvB.2.2.2.1 f (by omega) (by omega)
        have h199 : ∀ c : Int, run M_TM_next 199 [vA t] [vI c, vA t] g v = some (0, vN, g, up (up v t 18 c) t 20 (f + 1)) := fun c => by
          rw [R_TM_next_199]
          simp only [gd_O hk.1.1]
          rw [show up v t 18 c t 20 = f by rw [up_j (by decide), v20], w_id (by omega) (by omega)]
        rw [bI_f (fun q => c2 q.2), if_pos rfl]
        simp only [gd_O hk.1.1]
        rw [v20, gd_R hk.2 (by omega) (by omega), hbf]
        by_cases c3 : b f = 59
        · rw [if_pos c3, h199]
          rw [if_pos c3] at hT
          exact ⟨_, rfl, fin _ _ hT (fun a k z => by rw [up_n (by omega), up_n (by omega)]) (by rw [up_j (by decide), up_s]) (by rw [up_j (by decide), up_j (by decide), v19]) (up_s ..) (fun z => absurd z (show ¬ (3 : Int) = 2 by decide))⟩
        · rw [if_neg c3, h199]
          rw [if_neg c3] at hT
          exact ⟨_, rfl, fin _ _ hT (fun a k z => by rw [up_n (by omega), up_n (by omega)]) (by rw [up_j (by decide), up_s]) (by rw [up_j (by decide), up_j (by decide), v19]) (up_s ..) (fun z => absurd z (show ¬ (4 : Int) = 2 by decide))⟩
theorem TM_is (hk : kMd g t) (h : MdT u t b n T) {p : Nat} {tx : List Nat} (htx : gStr p = some tx) (hl : tx.length ≤ 600) : call M_TM_is [vA t, vA p] g u = some (0, vI (bI (isW b T tx)), g, u) := by
  obtain ⟨⟨h0, n0, hn, hb, hB⟩, ⟨h8, h9, h7⟩, -, t1, t2, t3, -⟩ := h
  rw [C_TM_is, gd_O hk.1.1]
  by_cases c0 : T.1 = 1
  · rw [if_pos (by rw [h8]; exact c0)]
    simp only [gd_O hk.1.1]
    rw [htx, pTx_some, h7, h9, w_id (by omega) (by omega)]
    by_cases c1 : T.2.2.1 - T.2.1 = tx.length
    · rw [if_pos c1]
      have key : ∀ (d i : Nat), i + d = tx.length → (∀ j : Nat, j < i → b (T.2.1 + j) = ((tx.getD j 0 : Nat) : Int)) → run M_TM_is 28 [vA t, vA p, vI i] [] g u = some (0, vI (bI (isW b T tx)), g, u) := by
        intro d
        induction d with
        | zero =>
          intro i hi hj
          rw [R_TM_is_28, htx, pTx_some, if_neg (by omega), bI_t ⟨c0, c1, fun j hj2 => hj j (by omega)⟩]
        | succ d ih =>
          intro i hi hj
          rw [R_TM_is_28, htx, pTx_some, if_pos (by omega)]
          simp only [gd_O hk.1.1]
          rw [h9, w_id (x := T.2.1 + (i : Int)) (by omega) (by omega), gd_R hk.2 (by omega) (by omega), hb _ (by omega) (by omega), pTx_some, decide_eq_true (show (0 : Int) ≤ i by omega), decide_eq_true (show (i : Int) < tx.length by omega), Bool.and_true, cond_true, Int.toNat_natCast]
          by_cases c2 : b (T.2.1 + i) = ((tx.getD i 0 : Nat) : Int)
          · rw [if_pos c2, w_id (x := (i : Int) + 1) (by omega) (by omega)]
            have := ih (i + 1) (by omega) (fun j hj2 => by
              by_cases e : j = i
              · rw [e]; exact c2
              · exact hj j (by omega))
            rw [show ((i + 1 : Nat) : Int) = (i : Int) + 1 by omega] at this
            exact this
          · rw [if_neg c2, bI_f fun q => c2 (q.2.2 i (by omega))]
      exact key tx.length 0 (by omega) (fun j hj => by omega)
    · rw [if_neg c1, bI_f fun q => c1 q.2.1]
  · rw [if_neg (by rw [h8]; exact c0), bI_f fun q => c0 q.1]
end
