/-! ===== the class loads a setup, plays a script ===== -/
theorem xb_as {α β γ : Type} (X : Except ER α) (f : α → Except ER β) (f' : β → Except ER γ) : xb (xb X f) f' = xb X fun a => xb (f a) f' := by cases X <;> rfl
def xSet (b : Int → Int) (n : Int) : Except ER (TkS × AS) :=
  xb (xSize b n (tkAt b n 0)) fun z => xb (xBlks b n 601 z.1 (aClr z.2.1 z.2.2)) fun p => xb (xStps b n 601 p.1 p.2) fun p => xb (xPl b n 0 p.1 p.2) fun p => xPl b n 1 p.1 p.2
theorem xLoad_as (b : Int → Int) (n : Int) : xLoad b n = xb (xSet b n) fun p => xCmds b n 601 0 p.1 p.2 := by
  unfold xLoad xSet
  simp only [xb_as]
/-- what a load, a play may alter in the class -/
def Fl (t : Nat) (u u' : PM) : Prop := ∀ (a : Nat) (k : Int), ¬ (t + 1 ≤ a ∧ a ≤ t + 24) → ¬ (t + 26 ≤ a ∧ a ≤ t + 42) → ¬ (t + 60 ≤ a ∧ a < t + 198) → u' a k = u a k
section
variable {g : PG} {u : PM} {r t : Nat} {b : Int → Int} {n : Int}
theorem Rd_start (hk : kRd g r) (h0 : u r 0 = n) (h : TxO u (r + 24) n b) (hR : RO u) : ∃ v, call M_Rd_startSetup [vA r] g u = some (0, vN, g, v) ∧ RdS v r b n 0 (tkAt b n 0) (absT u (r + 1)) ∧ FR r u v := by
  obtain ⟨x, hx⟩ : ∃ x, x = up (up (up (up u r 3 0) r 1 0) r 2 (-1)) r 7 0 := ⟨_, rfl⟩
  have fx : ∀ (a : Nat) (k : Int), a ≠ r → x a k = u a k := fun a k z => by rw [hx, up_o z, up_o z, up_o z, up_o z]
  have x7 : x r 7 = 0 := by rw [hx, up_s]
  have hx0 : x r 0 = n := by rw [hx, up_j (by decide), up_j (by decide), up_j (by decide), up_j (by decide), h0]
  obtain ⟨v, e1, t1, f1⟩ := Rd_next (g := g) (u := x) hk hx0 h.1 h.2.1 (fun k k0 k1 => by rw [fx _ _ (by omega)]; exact h.2.2.1 k k0 k1) h.2.2.2 (by omega) (by rw [x7]; exact h.1)
  rw [x7] at t1
  have fr : FR r u v := fun a k z => by rw [f1 a k (by omega), fx a k (by omega)]
  refine ⟨v, ?_, ⟨t1, ⟨?_, ?_, ?_⟩, absT_eq fun a k b1 b2 => by rw [f1 a k (by omega), fx a k (by omega)], RO_fr hk fr hR⟩, fr⟩
  · rw [C_Rd_startSetup]
    simp only [gd_O hk.1]
    rw [← hx, e1, cV_some]
  · rw [f1 r 1 (by omega), hx, up_j (by decide), up_j (by decide), up_s]
  · rw [f1 r 2 (by omega), hx, up_j (by decide), up_s]
  · rw [f1 r 3 (by omega), hx, up_j (by decide), up_j (by decide), up_j (by decide), up_s]
/-- a script read well: cleared, remembered, taken over -/
theorem TD_take (h : pOk2 g u t) (hr : kRd g (t + 1)) (hh : hOk g u (t + 60)) {v : PM} (f : FR (t + 1) u v) {A : AS} {q : Int} (h1 : v (t + 1) 1 = 0 ∧ v (t + 1) 2 = -1 ∧ v (t + 1) 3 = q) (hA : absT v (t + 2) = A) (hw : wf A) :
    ∃ v1 v2, call M_Hi_remember [vA (t + 60), vA (t + 26)] g (up v (t + 1) 0 0) = some (0, vN, g, v1) ∧ call M_St_copyFrom [vA (t + 26), vA (t + 1 + 1)] g v1 = some (0, vN, g, v2) ∧ Fl t u v2 ∧ absT v2 (t + 26) = A ∧ hT v2 (t + 60) = hPush (hT u (t + 60)) (absT u (t + 26)) ∧ hOk g v2 (t + 60) ∧ v2 (t + 1) 0 = 0 ∧ v2 (t + 1) 1 = 0 ∧ v2 (t + 1) 2 = -1 ∧ v2 (t + 1) 3 = q := by
  obtain ⟨x, hx⟩ : ∃ x, x = up v (t + 1) 0 0 := ⟨_, rfl⟩
  have fx : ∀ (a : Nat) (k : Int), ¬ (t + 1 ≤ a ∧ a ≤ t + 24) → x a k = u a k := fun a k z => by rw [hx, up_o (by omega), f a k (by omega)]
  have px : absT x (t + 26) = absT u (t + 26) := absT_eq fun a k b1 b2 => fx a k (by omega)
  have gx : hT x (t + 60) = hT u (t + 60) := hT_fr fun a k b1 b2 => fx a k (by omega)
  obtain ⟨v1, e1, t1, o1, f1⟩ := Hi_remember (g := g) (u := x) (h := t + 60) (p := t + 26) (hOk_fr (fun a k b1 b2 => fx a k (by omega)) hh) h.1.2.1 (by omega) (by rw [px]; exact h.2.2.1)
  have d1 : absT v1 (t + 1 + 1) = A := by
    rw [← hA]
    exact absT_eq fun a k b1 b2 => by rw [f1 a k (by omega) (by omega), hx, up_o (by omega)]
  obtain ⟨v2, e2, t2, f2⟩ := St_copyFrom (g := g) (u := v1) (t := t + 26) (p := t + 1 + 1) h.1.2.1 hr.2.1 (by omega) (by rw [d1]; exact wf_n hw)
  have fin : ∀ (a : Nat) (k : Int), ¬ (t + 26 ≤ a ∧ a ≤ t + 42) → ¬ (t + 60 ≤ a ∧ a < t + 198) → v2 a k = x a k := fun a k z1 z2 => by rw [f2 a k (by omega), f1 a k (by omega) (by omega)]
  refine ⟨v1, v2, by rw [← hx]; exact e1, e2, fun a k z1 z2 z3 => by rw [fin a k z2 z3, fx a k z1], t2.trans d1, ?_, ?_, ?_, ?_, ?_, ?_⟩
  · rw [hT_fr (u := v1) fun a k b1 b2 => f2 a k (by omega), t1, gx, px]
  · exact hOk_fr (fun a k b1 b2 => f2 a k (by omega)) o1
  · rw [fin _ _ (by omega) (by omega), hx, up_s]
  · rw [fin _ _ (by omega) (by omega), hx, up_j (by decide), h1.1]
  · rw [fin _ _ (by omega) (by omega), hx, up_j (by decide), h1.2.1]
  · rw [fin _ _ (by omega) (by omega), hx, up_j (by decide), h1.2.2]
/-- the answer of a load, of a play: class -/
def LdT (g : PG) (u : PM) (t : Nat) (c : Option PO) (X : Except ER (Int × AS)) (val : Int × AS → Int) : Prop :=
  ∃ u', Fl t u u' ∧ hOk g u' (t + 60) ∧ u' (t + 1) 0 = 0 ∧ ((∃ e, X = .error e ∧ c = some (0, vI (-1), g, u') ∧ u' (t + 1) 1 = e.1 ∧ u' (t + 1) 2 = e.2 ∧ absT u' (t + 26) = absT u (t + 26) ∧ hT u' (t + 60) = hT u (t + 60)) ∨ (∃ a, X = .ok a ∧ wf a.2 ∧ c = some (0, vI (val a), g, u') ∧ u' (t + 1) 1 = 0 ∧ u' (t + 1) 2 = -1 ∧ absT u' (t + 26) = a.2 ∧ hT u' (t + 60) = hPush (hT u (t + 60)) (absT u (t + 26))))
theorem LdT_err {c : Option PO} {X : Except ER (Int × AS)} {val : Int × AS → Int} {v : PM} {e : ER} (hh : hOk g u (t + 60)) (f : FR (t + 1) u v) (hX : X = .error e) (hc : c = some (0, vI (-1), g, up v (t + 1) 0 0)) (h1 : v (t + 1) 1 = e.1 ∧ v (t + 1) 2 = e.2) : LdT g u t c X val := by
  have fx : ∀ (a : Nat) (k : Int), ¬ (t + 1 ≤ a ∧ a ≤ t + 24) → up v (t + 1) 0 0 a k = u a k := fun a k z => by rw [up_o (by omega), f a k (by omega)]
  exact ⟨_, fun a k z _ _ => fx a k z, hOk_fr (fun a k b1 b2 => fx a k (by omega)) hh, up_s .., Or.inl ⟨e, hX, hc, by rw [up_j (by decide)]; exact h1.1, by rw [up_j (by decide)]; exact h1.2, absT_eq fun a k b1 b2 => fx a k (by omega), hT_fr fun a k b1 b2 => fx a k (by omega)⟩⟩
theorem TD_load (h : pOk2 g u t) (hr : kRd g (t + 1)) (hh : hOk g u (t + 60)) (h0 : u (t + 1) 0 = n) (hx : TxO u (t + 25) n b) : LdT g u t (call M_TD_load [vA t] g u) (xLoad b n) fun a => bCnt a.2.bd (-1) := by
  obtain ⟨v1, e1, s1, f1⟩ := Rd_start (g := g) hr h0 hx h.2.2.2
  rw [C_TD_load, gd_O h.1.1, gd_O hr.1, e1, cV_some, gd_O h.1.1, gd_O hr.1, xLoad_as]
  have hs := Rd_setup (g := g) hr s1
  have bad : ∀ v : PM, run M_TD_load 32 [vA t, vN] [vI 0] g v = some (0, vI (-1), g, up v (t + 1) 0 0) := fun v => by
    rw [R_TD_load_32, gd_O h.1.1, gd_O hr.1, C_Rd_clear, gd_O hr.1, cV_some, if_pos rfl]
  obtain ⟨v2, f2, ⟨e, x2, q1, q2⟩ | ⟨a2, x2, q1, s2, w2⟩⟩ := hs
  · change xSet b n = _ at x2
    rw [q1, cI_some, if_pos rfl, bad, x2]
    exact LdT_err hh (f1.tr f2) rfl rfl q2
  · change _ = some (0, vI 1, g, v2) at q1
    change xSet b n = _ at x2
    rw [q1, cI_some, if_neg (by decide), gd_O h.1.1, gd_O hr.1, C_Rd_readCommands, x2]
    show LdT g u t _ (xCmds b n 601 0 a2.1 a2.2) _
    obtain ⟨v3, f3, ⟨e, x3, q3, q4⟩ | ⟨a3, x3, q3, s3, t3, r3⟩⟩ := Rd_cmds (g := g) hr 601 0 v2 a2.1 a2.2 (by decide) (by decide) s2 w2.1
    · rw [q3, cI_some, if_pos rfl, bad, x3]
      exact LdT_err hh ((f1.tr f2).tr f3) rfl rfl q4
    · have w3 : wf a3.2 := xCmds_ok w2.1 x3
      change _ = some (0, vI 1, g, v3) at q3
      obtain ⟨y1, y2, e4, e5, f5, t5, h5, o5, l0, l1, l2, l3⟩ := TD_take h hr hh ((f1.tr f2).tr f3) s3 t3 w3
      have hto : tOk y2 (t + 26 + 1) := tOk_of (by
        have : bdT y2 (t + 26 + 1) = a3.2.bd := congrArg AS.bd t5
        rw [this]; exact w3.1.1)
      have eb : bdT y2 (t + 26 + 1) = a3.2.bd := congrArg AS.bd t5
      rw [q3, cI_some, if_neg (by decide), x3, R_TD_load_32]
      simp only [gd_O h.1.1, gd_O hr.1, C_Rd_clear, cV_some, gd_O h.1.2.1.1, gd_O h.1.2.1.2.1.1, gd_O hh.1]
      rw [if_neg (by decide), e4, cV_some]
      simp only [gd_O h.1.1, gd_O hr.1, gd_O h.1.2.1.1, gd_O h.1.2.1.2.1.1, gd_O hh.1]
      rw [e5, cV_some]
      simp only [gd_O h.1.1, gd_O hr.1, gd_O h.1.2.1.1, gd_O h.1.2.1.2.1.1, gd_O hh.1]
      rw [Tk_countCells h.1.2.1.2.1 hto, cI_some, eb]
      exact ⟨y2, f5, o5, l0, Or.inr ⟨a3, rfl, w3, rfl, l1, l2, t5, h5⟩⟩
end
