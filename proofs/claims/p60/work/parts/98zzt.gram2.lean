/-! ===== what the grammar builds is well-formed ===== -/
theorem xb_ok {α β : Type} {X : Except ER α} {f : α → Except ER β} {a : β} (h : xb X f = .ok a) : ∃ y, X = .ok y ∧ f y = .ok a := by
  unfold xb at h
  cases X with
  | error e => cases h
  | ok y => exact ⟨y, rfl, h⟩
theorem xNum_ok {b : Int → Int} {n lo hi : Int} {T : TkS} {a : TkS × Int} (h : xNum b n T lo hi = .ok a) : lo ≤ a.2 ∧ a.2 ≤ hi := by
  obtain ⟨v, h1, h2⟩ := xb_ok h
  unfold xHere at h1
  by_cases c0 : (tkAt b n T.2.2.1).1 = 2
  · rw [if_pos c0] at h1
    by_cases c1 : lo ≤ (tkAt b n T.2.2.1).2.2.2 ∧ (tkAt b n T.2.2.1).2.2.2 ≤ hi
    · rw [if_pos c1] at h1
      injection h1 with h1
      injection h2 with h2
      rw [← h2, ← h1]
      exact c1
    · rw [if_neg c1] at h1; cases h1
  · rw [if_neg c0] at h1; cases h1
theorem xSize_ok {b : Int → Int} {n : Int} {T : TkS} {a : TkS × Int × Int} (h : xSize b n T = .ok a) : (3 ≤ a.2.1 ∧ a.2.1 ≤ 8) ∧ 3 ≤ a.2.2 ∧ a.2.2 ≤ 8 := by
  unfold xSize at h
  by_cases c0 : isW b T wTrunk
  · rw [if_pos c0] at h
    obtain ⟨y, h1, h⟩ := xb_ok h
    obtain ⟨z, h2, h⟩ := xb_ok h
    obtain ⟨t, h3, h⟩ := xb_ok h
    injection h with h
    rw [← h]
    exact ⟨xNum_ok h1, xNum_ok h2⟩
  · rw [if_neg c0] at h; cases h
/-- nothing is placed yet -/
def wf0 (A : AS) : Prop := wf A ∧ A.n = 0
theorem wf0_clr {c q : Int} (hc : 3 ≤ c ∧ c ≤ 8) (hq : 3 ≤ q ∧ q ≤ 8) : wf0 (aClr c q) := by
  have pz : plOk pZ := ⟨by decide, by decide, fun _ _ _ => by show (0 : Int) ≤ 0 ∧ (0 : Int) ≤ 9; decide⟩
  have cell : ∀ x y, bIn (aClr c q).bd x y → bCell (aClr c q).bd x y = -1 := fun x y h => by
    unfold bCell
    rw [if_pos h]
    obtain ⟨⟨a1, a2⟩, a3, a4⟩ := h
    have a2' : x < c := a2
    have a4' : y < q := a4
    exact cl_in (n := 64) (f := fun _ => -1) (j := 8 * y + x) (by omega) (by omega)
  refine ⟨⟨⟨⟨⟨?_, ?_⟩, ⟨?_, ?_⟩, fun j _ _ => Or.inl rfl⟩, fun j j0 j1 => ?_, show (0 : Int) ≤ 0 by decide, show (0 : Int) ≤ 32 by decide⟩, ⟨pz, pz⟩, ⟨Or.inl rfl, show (0 : Int) ≤ 0 by decide, show (0 : Int) ≤ 2 by decide⟩, fun x y h => ?_, fun k k0 k1 => ?_, fun x y s hs hE h0 he => ?_⟩, rfl⟩
  · show 0 ≤ c; omega
  · exact hc.2
  · show 0 ≤ q; omega
  · exact hq.2
  · show -2 ≤ cl 64 (fun _ => -1) j ∧ cl 64 (fun _ => -1) j ≤ 98
    rw [cl_in j0 j1]
    decide
  · rw [cell x y h]
    show (-1 : Int) < 0
    decide
  · have k1' : k < 0 := k1
    omega
  · rw [cell x y hE.1] at h0
    omega
theorem bCell_SC {B : Bd} {x y X Y v : Int} (hB : bOk B) (hin : bIn B x y) : bCell (bSC B (8 * y + x) v) X Y = if X = x ∧ Y = y then v else bCell B X Y := by
  have h1 := hB.1
  have a1 := hin.1
  unfold bCell
  by_cases h : bIn B X Y
  · rw [if_pos (show bIn (bSC B (8 * y + x) v) X Y from h), if_pos h]
    show setI B.2.2.1 (8 * y + x) v (8 * Y + X) = _
    have a2 := h.1
    by_cases e : X = x ∧ Y = y
    · rw [if_pos e, e.1, e.2, setI_s]
    · rw [if_neg e, setI_o (fun z => e (by omega))]
  · rw [if_neg (show ¬ bIn (bSC B (8 * y + x) v) X Y from h), if_neg h]
    rw [if_neg]
    rintro ⟨rfl, rfl⟩
    exact h hin
theorem wf0_blk {A : AS} {x y : Int} (h : wf0 A) (hin : bIn A.bd x y) : wf0 (aBlk A x y) := by
  obtain ⟨⟨⟨a1, a2, a3⟩, a4, a5, b1, b2, b3⟩, hn⟩ := h
  have h1 := a1.1
  have h2 := a1.2.1
  have z1 := hin.1
  have z2 := hin.2
  have neg : ∀ X Y, bIn A.bd X Y → bCell (aBlk A x y).bd X Y < 0 := fun X Y hb => by
    show bCell (bSC A.bd (8 * y + x) (-2)) X Y < 0
    rw [bCell_SC a1 hin]
    have := b1 X Y hb
    split <;> omega
  refine ⟨⟨⟨a1, fun j j0 j1 => ?_, a3⟩, a4, a5, fun X Y hb => ?_, fun k k0 k1 => ?_, fun X Y s hs hE h0 he => ?_⟩, hn⟩
  · show -2 ≤ setI A.bd.2.2.1 (8 * y + x) (-2) j ∧ setI A.bd.2.2.1 (8 * y + x) (-2) j ≤ 98
    unfold setI
    split
    · omega
    · exact a2 j j0 j1
  · have := neg X Y hb
    show _ < A.n
    omega
  · have k1' : k < A.n := k1
    omega
  · have := neg X Y hE.1
    omega
theorem xBlks_ok {b : Int → Int} {n : Int} : ∀ {d : Nat} {T : TkS} {A : AS} {p : TkS × AS}, wf0 A → xBlks b n d T A = .ok p → wf0 p.2 ∧ p.2.2 = A.2
  | 0, T, A, p, h, hx => by
    injection hx with hx
    rw [← hx]
    exact ⟨h, rfl⟩
  | d + 1, T, A, p, h, hx => by
    unfold xBlks at hx
    by_cases c0 : isW b T wBlock
    · rw [if_pos c0] at hx
      obtain ⟨z, h1, hx⟩ := xb_ok hx
      unfold xBlk at h1
      obtain ⟨c, y1, h1⟩ := xb_ok h1
      obtain ⟨q, y2, h1⟩ := xb_ok h1
      by_cases c1 : bCell A.bd c.2 q.2 = -2
      · rw [if_pos c1] at h1; cases h1
      · rw [if_neg c1] at h1
        obtain ⟨t, y3, h1⟩ := xb_ok h1
        injection h1 with h1
        have r1 := xNum_ok y1
        have r2 := xNum_ok y2
        have hz : z.2 = aBlk A c.2 q.2 := by rw [← h1]
        have := xBlks_ok (A := z.2) (by rw [hz]; exact wf0_blk h ⟨⟨r1.1, by omega⟩, r2.1, by omega⟩) hx
        refine ⟨this.1, this.2.trans ?_⟩
        rw [hz]
        rfl
    · rw [if_neg c0] at hx
      injection hx with hx
      rw [← hx]
      exact ⟨h, rfl⟩
theorem xEdge_ok {b : Int → Int} {n : Int} {T : TkS} {B : Bd} {a : TkS × Int × Int × Int} (h : xEdge b n T B = .ok a) : (a.2.2.2 = 0 ∨ a.2.2.2 = 1) ∧ bEdge B a.2.1 a.2.2.1 a.2.2.2 := by
  unfold xEdge at h
  obtain ⟨c, y1, h⟩ := xb_ok h
  obtain ⟨q, y2, h⟩ := xb_ok h
  by_cases c0 : isW b (tkAt b n q.1.2.2.1) wRight ∨ isW b (tkAt b n q.1.2.2.1) wBelow
  · rw [if_pos c0] at h
    by_cases c1 : bEdge B c.2 q.2 (if isW b (tkAt b n q.1.2.2.1) wRight then 0 else 1)
    · rw [if_pos c1] at h
      injection h with h
      rw [← h]
      refine ⟨?_, c1⟩
      show (if isW b (tkAt b n q.1.2.2.1) wRight then (0 : Int) else 1) = 0 ∨ (if isW b (tkAt b n q.1.2.2.1) wRight then (0 : Int) else 1) = 1
      split
      · exact Or.inl rfl
      · exact Or.inr rfl
    · rw [if_neg c1] at h; cases h
  · rw [if_neg c0] at h; cases h
theorem wf0_stp {A : AS} {x y s : Int} (h : wf0 A) (hs : s = 0 ∨ s = 1) (hE : bEdge A.bd x y s) : wf0 (aStp A x y s) := by
  obtain ⟨⟨⟨a1, a2, a3⟩, a4, a5, b⟩, hn⟩ := h
  refine ⟨⟨⟨bOk_SS a1 _, a2, a3⟩, a4, a5, wfB_strap b hs hE a1 ?_⟩, hn⟩
  have := b.1 x y hE.1
  omega
theorem xStps_ok {b : Int → Int} {n : Int} : ∀ {d : Nat} {T : TkS} {A : AS} {p : TkS × AS}, wf0 A → xStps b n d T A = .ok p → wf0 p.2 ∧ p.2.2 = A.2
  | 0, T, A, p, h, hx => by
    injection hx with hx
    rw [← hx]
    exact ⟨h, rfl⟩
  | d + 1, T, A, p, h, hx => by
    unfold xStps at hx
    by_cases c0 : isW b T wStrap
    · rw [if_pos c0] at hx
      obtain ⟨z, h1, hx⟩ := xb_ok hx
      unfold xStp at h1
      obtain ⟨e, y1, h1⟩ := xb_ok h1
      have r1 := xEdge_ok y1
      by_cases c1 : bStrap A.bd e.2.1 e.2.2.1 e.2.2.2 ≠ 0
      · rw [if_pos c1] at h1; cases h1
      · rw [if_neg c1] at h1
        by_cases c2 : bCell A.bd e.2.1 e.2.2.1 = -2 ∨ bBey A.bd e.2.1 e.2.2.1 e.2.2.2 = -2
        · rw [if_pos c2] at h1; cases h1
        · rw [if_neg c2] at h1
          obtain ⟨t, y3, h1⟩ := xb_ok h1
          injection h1 with h1
          have hz : z.2 = aStp A e.2.1 e.2.2.1 e.2.2.2 := by rw [← h1]
          have := xStps_ok (A := z.2) (by rw [hz]; exact wf0_stp h r1.1 r1.2) hx
          refine ⟨this.1, this.2.trans ?_⟩
          rw [hz]
          rfl
    · rw [if_neg c0] at hx
      injection hx with hx
      rw [← hx]
      exact ⟨h, rfl⟩
theorem aPl_set {A : AS} {p p' : Int} {q : PS} (hp : p = 0 ∨ p = 1) (hp' : p' = 0 ∨ p' = 1) : aPl (aSetPl A p q) p' = if p' = p then q else aPl A p' := by
  unfold aPl aSetPl
  rcases hp with rfl | rfl <;> rcases hp' with rfl | rfl <;> rfl
theorem wf0_setPl {A : AS} {p : Int} {q : PS} (h : wf0 A) (hq : plOk q) : wf0 (aSetPl A p q) := ⟨wf_setPl h.1 hq, h.2⟩
theorem xSup_ok {b : Int → Int} {n p : Int} (hp : p = 0 ∨ p = 1) : ∀ {d : Nat} {k : Int} {T : TkS} {A : AS} {q : TkS × AS}, wf0 A → xSup b n p d k T A = .ok q → wf0 q.2 ∧ ∀ p', (p' = 0 ∨ p' = 1) → p' ≠ p → aPl q.2 p' = aPl A p'
  | 0, k, T, A, q, h, hx => by
    injection hx with hx
    rw [← hx]
    exact ⟨h, fun _ _ _ => rfl⟩
  | d + 1, k, T, A, q, h, hx => by
    unfold xSup at hx
    obtain ⟨z, y1, hx⟩ := xb_ok hx
    have r1 := xNum_ok y1
    have hpl := wf_pl h.1 p
    have := xSup_ok hp (wf0_setPl (p := p) (q := psSu (aPl A p) k z.2) h ⟨hpl.1, hpl.2.1, fun j j0 j1 => by
      show 0 ≤ setI (aPl A p).2.2.2.1 k z.2 j ∧ setI (aPl A p).2.2.2.1 k z.2 j ≤ 9
      unfold setI
      split
      · exact r1
      · exact hpl.2.2 j j0 j1⟩) hx
    refine ⟨this.1, fun p' hp' hne => (this.2 p' hp' hne).trans ?_⟩
    rw [aPl_set hp hp', if_neg hne]
theorem xPl_ok {b : Int → Int} {n p : Int} {T : TkS} {A : AS} {q : TkS × AS} (hT : tOkk n T) (hp : p = 0 ∨ p = 1) (h : wf0 A) (hx : xPl b n p T A = .ok q) : wf0 q.2 ∧ ∀ p', (p' = 0 ∨ p' = 1) → p' ≠ p → aPl q.2 p' = aPl A p' := by
  unfold xPl at hx
  by_cases c0 : isW b T wPlayer
  · rw [if_pos c0] at hx
    by_cases c1 : (tkAt b n T.2.2.1).1 = 1 ∧ (tkAt b n T.2.2.1).2.2.1 - (tkAt b n T.2.2.1).2.1 ≤ 6
    · rw [if_pos c1] at hx
      by_cases c2 : p ≠ 0 ∧ nmB A b (tkAt b n T.2.2.1) = true
      · rw [if_pos c2] at hx; cases hx
      · rw [if_neg c2] at hx
        obtain ⟨z, y1, hx⟩ := xb_ok hx
        obtain ⟨w, y2, hx⟩ := xb_ok hx
        obtain ⟨t, y3, hx⟩ := xb_ok hx
        injection hx with hx
        have tk := tkAt_ok (b := b) (n := n) (p := T.2.2.1) (by unfold tOkk at hT; omega) hT.2.2.1
        have hpl := wf_pl h.1 p
        have z1 := tk.1
        unfold tOkk at z1
        have s1 := xSup_ok hp (wf0_setPl (p := p) (q := psNm (aPl A p) ((tkAt b n T.2.2.1).2.2.1 - (tkAt b n T.2.2.1).2.1) fun k => b ((tkAt b n T.2.2.1).2.1 + k)) h ⟨hpl.1, by
          show 0 ≤ (tkAt b n T.2.2.1).2.2.1 - (tkAt b n T.2.2.1).2.1 ∧ (tkAt b n T.2.2.1).2.2.1 - (tkAt b n T.2.2.1).2.1 ≤ 6
          omega, hpl.2.2⟩) y1
        have hpl2 := wf_pl s1.1.1 p
        have hq2 : q.2 = aSetPl z.2 p (psSt (aPl z.2 p) w.2) := by rw [← hx]
        rw [hq2]
        refine ⟨wf0_setPl s1.1 ⟨xNum_ok y2, hpl2.2.1, hpl2.2.2⟩, fun p' hp' hne => ?_⟩
        rw [aPl_set hp hp', if_neg hne, s1.2 p' hp' hne, aPl_set hp hp', if_neg hne]
    · rw [if_neg c1] at hx; cases hx
  · rw [if_neg c0] at hx; cases hx
theorem shp_bd (b : Int → Int) (T : TkS) (h : shp b T ≠ -1) : 0 ≤ shp b T ∧ shp b T < 5 := by
  unfold shp at h ⊢
  repeat' split
  all_goals first | decide | (rename_i z1 z2 z3 z4 z5; exfalso; rw [if_neg z1, if_neg z2, if_neg z3, if_neg z4, if_neg z5] at h; exact h rfl)
theorem xOne_ok {b : Int → Int} {n : Int} {T : TkS} {A : AS} {q : TkS × AS} (h : wf A) (hx : xOne b n T A = .ok q) : wf q.2 := by
  unfold xOne at hx
  by_cases c0 : isW b T wPlace
  · rw [if_pos c0] at hx
    unfold xPlc at hx
    by_cases c1 : shp b (tkAt b n T.2.2.1) = -1
    · rw [if_pos c1] at hx; cases hx
    · rw [if_neg c1] at hx
      obtain ⟨r, y1, hx⟩ := xb_ok hx
      obtain ⟨c, y2, hx⟩ := xb_ok hx
      obtain ⟨z, y3, hx⟩ := xb_ok hx
      have r1 := xNum_ok y1
      by_cases c2 : aMayP A (shp b (tkAt b n T.2.2.1)) r.2 c.2 z.2
      · rw [if_pos c2] at hx
        injection hx with hx
        rw [← hx]
        exact wf_put h (shp_bd _ _ c1) (by omega) c2
      · rw [if_neg c2] at hx; cases hx
  · rw [if_neg c0] at hx
    by_cases c1 : isW b T wStrap
    · rw [if_pos c1] at hx
      unfold xFst at hx
      obtain ⟨e, y1, hx⟩ := xb_ok hx
      have r1 := xEdge_ok y1
      by_cases c2 : aMayS A e.2.1 e.2.2.1 e.2.2.2
      · rw [if_pos c2] at hx
        injection hx with hx
        rw [← hx]
        exact wf_strap h r1.1 r1.2 c2
      · rw [if_neg c2] at hx; cases hx
    · rw [if_neg c1] at hx
      by_cases c2 : isW b T wPass
      · rw [if_pos c2] at hx
        by_cases c3 : aMayN A
        · rw [if_pos c3] at hx
          injection hx with hx
          rw [← hx]
          exact wf_pass h c3
        · rw [if_neg c3] at hx; cases hx
      · rw [if_neg c2] at hx; cases hx
theorem xCmds_ok {b : Int → Int} {n : Int} : ∀ {d : Nat} {k : Int} {T : TkS} {A : AS} {q : Int × AS}, wf A → xCmds b n d k T A = .ok q → wf q.2
  | 0, k, T, A, q, h, hx => by
    injection hx with hx
    rw [← hx]
    exact h
  | d + 1, k, T, A, q, h, hx => by
    unfold xCmds at hx
    by_cases c0 : T.1 = 0
    · rw [if_pos c0] at hx
      injection hx with hx
      rw [← hx]
      exact h
    · rw [if_neg c0] at hx
      obtain ⟨z, y1, hx⟩ := xb_ok hx
      obtain ⟨t, y2, hx⟩ := xb_ok hx
      exact xCmds_ok (xOne_ok h y1) hx
