/-! ===== p60: draws, changes ===== -/
theorem ushr8 (x : Int) : 0 ≤ ushr2 x 8 ∧ ushr2 x 8 < 16777216 := by
  unfold ushr2
  generalize (Int32.ofInt x).toUInt32 = a
  have e : ((Int32.ofInt 8).toUInt32 &&& Int32.toUInt32 31) = 8 := by decide
  rw [e]
  have h : (a >>> 8).toNat < 16777216 := by
    rw [UInt32.toNat_shiftRight, show (8 : UInt32).toNat % 32 = 8 from rfl, Nat.shiftRight_eq_div_pow]
    have := a.toNat_lt
    omega
  generalize a >>> 8 = b at h
  have e2 : b.toInt32.toInt = (b.toNat : Int) := by
    have : b.toInt32.toInt = ((b.toNat : Nat) : Int).bmod (2 ^ 32) := by
      show (BitVec.toInt b.toBitVec) = _
      rw [BitVec.toInt_eq_toNat_bmod]
      rfl
    rw [this]
    exact Int.bmod_eq_of_le (by omega) (by omega)
  rw [e2]
  omega
theorem rem_pos {v n : Int} (hv : 0 ≤ v ∧ v < 2147483648) (hn : 0 < n ∧ n < 2147483648) : 0 ≤ rem2 v n ∧ rem2 v n < n := by
  unfold rem2
  have a : (Int32.ofInt v).toInt = v := tInt_of ⟨by omega, by omega⟩
  have b : (Int32.ofInt n).toInt = n := tInt_of ⟨by omega, by omega⟩
  have hq : (Int32.ofInt v / Int32.ofInt n).toInt = v / n := by
    rw [Int32.toInt_div, a, b, Int.tdiv_eq_ediv_of_nonneg hv.1]
    have h1 : 0 ≤ v / n := Int.ediv_nonneg hv.1 (by omega)
    have h2 : v / n ≤ v := Int.ediv_le_self n hv.1
    exact Int.bmod_eq_of_le (by omega) (by omega)
  have hm : (Int32.ofInt v / Int32.ofInt n * Int32.ofInt n).toInt = v / n * n := by
    rw [Int32.toInt_mul, hq, b]
    have h1 : 0 ≤ v / n := Int.ediv_nonneg hv.1 (by omega)
    have h3 : v / n * n ≤ v := Int.ediv_mul_le v (by omega)
    have h4 : 0 ≤ v / n * n := Int.mul_nonneg h1 (by omega)
    exact Int.bmod_eq_of_le (by omega) (by omega)
  rw [Int32.toInt_sub, a, hm]
  have h5 := Int.emod_nonneg v (show n ≠ 0 by omega)
  have h6 := Int.emod_lt_of_pos v hn.1
  have h7 : v - v / n * n = v % n := by
    have := Int.emod_add_mul_ediv v n
    rw [Int.mul_comm] at this
    omega
  rw [h7, Int.bmod_eq_of_le (by omega) (by omega)]
  exact ⟨h5, h6⟩
abbrev XD (X : SX) (d : Int) : SX := (X.1, X.2.1, d, X.2.2.2)
abbrev XP (X : SX) (A' : AS) : SX := (A', hPush X.2.1 X.1, X.2.2)
theorem hPush_mem {l : List AS} {a b : AS} (h : b ∈ hPush l a) : b ∈ l ∨ b = a := by
  unfold hPush at h
  rcases List.mem_append.mp h with h | h
  · left
    split at h
    · exact List.mem_of_mem_tail h
    · exact h
  · right
    simpa using h
section
variable {g : PG} {u : PM} {X : SX} {k : Nat}
theorem q_draw (h : St X k g u) {n : Int} (hn : 0 < n ∧ n ≤ 1000) : ∃ v d, (0 ≤ v ∧ v < n) ∧ Ask (XD X d) k (call M_L_draw [vA 0, vI n] g u) v := by
  have hk : KA g 0 (2, 0, 1) := K_ h.1 _ (by decide) rfl
  rw [C_L_draw, gd_R hk (by decide) (by decide), gd_W hk (by decide) (by decide), gd_R hk (by decide) (by decide), if_neg (by omega), up_s]
  obtain ⟨a1, a2, a3, ⟨b1, b2, b3⟩, c1, c2, ⟨c3, c4, c5⟩, c6⟩ := h
  obtain ⟨d, hd, e⟩ : ∃ d, inR d ∧ w (w (u 0 0 * w (pNum 0 1103515245)) + 12345) = d := ⟨_, inR_w _, rfl⟩
  rw [e]
  have h8 := ushr8 d
  have o : ∀ (a : Nat) (j : Int), 0 < a → up u 0 0 d a j = u a j := fun a j ha => up_o (by omega)
  refine ⟨_, d, rem_pos ⟨h8.1, by omega⟩ ⟨hn.1, by omega⟩, g, _, rfl, a1, a2, a3, ⟨b1, b2, hd⟩, RO_eq (fun a j ha => o a j (by omega)) c1, ?_, ⟨?_, ?_, ?_⟩, up_s ..⟩
  · rw [absT_eq (u := u) fun a j c1 c2 => o a j (by omega)]; exact c2
  · rw [o 61 0 (by decide)]; exact c3
  · rw [o 61 1 (by decide)]; exact c4
  · rw [hT_fr (u := u) fun a j c1 c2 => o a j (by omega)]; exact c5
theorem ask_ok2 {X' : SX} {c : Option PO} {v r : Int} {K : Int → PG → PM → Option PO} {hx : Nat → PG → PM → Option PO} (h : St X k g u) (hq : Ask X' k c v) (hK : ∀ g u, K v g u = some (0, vI r, g, u)) : Ask X' k (bif pW 1 && pO (pK g 1) 10 then cI c K hx else none) r := by
  refine h.td (P := fun o => Ask X' k o r) (hq.go (P := fun o => Ask X' k o r) fun g1 u1 h1 => ?_)
  rw [hK]
  exact h1.ret
/-- a change -/
theorem ask_ch {c : Option PO} {e : Nat} {v : Int} {A' : AS} (h : St X k g u) (hc : ChT g u 1 c e v A') (he : e = 0) (hw : wfX A') : Ask (XP X A') k c v := by
  obtain ⟨u', e1, e2, e3, e4, f⟩ := hc.1 he
  obtain ⟨a1, a2, a3, ⟨b1, b2, b3⟩, c1, c2, ⟨c3, c4, c5⟩, c6⟩ := h
  have ea : absT u (1 + 26) = X.1 := c2
  have eh : hT u (1 + 60) = X.2.1 := c5
  rw [ea, eh] at e3
  refine ⟨g, u', e1, a1, a2, a3, ⟨hw, fun B hB => ?_, b3⟩, RO_eq (fun a j ha => f a j (by omega) (by omega) (by omega)) c1, e2, ⟨e4.2.2.2.1, e4.2.2.2.2, e3⟩, ?_⟩
  · rcases hPush_mem hB with q | q
    · exact b2 B q
    · rw [q]; exact b1
  · rw [f 0 0 (by omega) (by omega) (by omega)]; exact c6
theorem ask_ch0 {c : Option PO} {e : Nat} {v r : Int} {A' : AS} {K : Int → PG → PM → Option PO} {hx : Nat → PG → PM → Option PO} (h : St X k g u) (hc : ChT g u 1 c e v A') (he : e ≠ 0) (hh : ∀ g u, hx (e - 1) g u = some (0, vI r, g, u)) : Ask X (k + 1) (bif pW 1 && pO (pK g 1) 10 then cI c K hx else none) r := by
  obtain ⟨u', e1, f⟩ := hc.2 he
  refine h.td (P := fun o => Ask X (k + 1) o r) ?_
  obtain ⟨e, rfl⟩ : ∃ d, e = d + 1 := ⟨e - 1, by omega⟩
  rw [e1, cI_exc, show e = e + 1 - 1 by omega, hh]
  exact ⟨_, _, rfl, St_un h (Fr.un f) rfl rfl (Nat.succ_le_succ h.2.2.1)⟩
section
variable {s r x y : Int}
theorem c_place (h : St X k g u) (hs : 0 ≤ s ∧ s < 5) (hr : 0 ≤ r ∧ r < 4) (hi : bIn X.1.bd x y) (hm : aMayP X.1 s r x y) : Ask (XP X (aPut X.1 s r x y)) k (call M_L_place [vA 1, vI s, vI r, vI x, vI y] g u) (bPts X.1.bd s r y) := by
  have q := TD_place h.p h.h (s := s) (r := r) (x := x) (y := y) (fun hm => by rw [h.a] at hm ⊢; exact wf_lt h.w hs hr hm)
  rw [h.a, eAim0 hs hr hi, if_neg (by simp), if_pos hm] at q
  rw [C_L_place]
  exact ask_ok2 h (ask_ch h q rfl (wfX_put h.x hs hr hm)) fun _ _ => rfl
theorem c_placeNo (h : St X k g u) (hs : 0 ≤ s ∧ s < 5) (hr : 0 ≤ r ∧ r < 4) (hi : bIn X.1.bd x y) (hm : ¬ aMayP X.1 s r x y) : Ask X (k + 1) (call M_L_place [vA 1, vI s, vI r, vI x, vI y] g u) (-19) := by
  have q := TD_place h.p h.h (s := s) (r := r) (x := x) (y := y) (fun hm => by rw [h.a] at hm ⊢; exact wf_lt h.w hs hr hm)
  rw [h.a, eAim0 hs hr hi, if_neg (by simp), if_neg hm] at q
  rw [C_L_place]
  exact ask_ch0 h q (by decide) fun _ _ => rfl
theorem c_strap (h : St X k g u) (hs : s = 0 ∨ s = 1) (hE : bEdge X.1.bd x y s) (hm : aMayS X.1 x y s) : Ask (XP X (aStrap X.1 x y s)) k (call M_L_fastenStrap [vA 1, vI x, vI y, vI s] g u) ((aPl X.1 X.1.mv).2.1 - 1) := by
  have hC := h.w.1.1.1
  have hR := h.w.1.1.2.1
  have h1 := hE.1.1
  have h2 := hE.1.2
  have q := TD_fastenStrap h.p h.h (x := x) (y := y) (by unfold i32; omega) (by unfold i32; omega) s
  have hst := (wf_pl h.w X.1.mv).1
  rw [h.a, show eEd X.1.bd x y s = 0 by unfold eEd; rw [if_pos (by omega), if_pos hE], if_neg (by simp), if_pos hm, w_id (by omega) (by omega)] at q
  rw [C_L_fastenStrap]
  exact ask_ok2 h (ask_ch h q rfl (wfX_strap h.x hs hE hm)) fun _ _ => rfl
theorem c_strapNo (h : St X k g u) (hs : s = 0 ∨ s = 1) (hi : bIn X.1.bd x y) (hm : ¬ (bEdge X.1.bd x y s ∧ aMayS X.1 x y s)) : ∃ v, v < 0 ∧ Ask X (k + 1) (call M_L_fastenStrap [vA 1, vI x, vI y, vI s] g u) v := by
  have hC := h.w.1.1.1
  have hR := h.w.1.1.2.1
  have h1 := hi.1
  have h2 := hi.2
  have q := TD_fastenStrap h.p h.h (x := x) (y := y) (by unfold i32; omega) (by unfold i32; omega) s
  rw [h.a] at q
  rw [C_L_fastenStrap]
  by_cases hE : bEdge X.1.bd x y s
  · rw [show eEd X.1.bd x y s = 0 by unfold eEd; rw [if_pos (by omega), if_pos hE], if_neg (by simp), if_neg fun z => hm ⟨hE, z⟩] at q
    exact ⟨-19, by decide, ask_ch0 h q (by decide) fun _ _ => rfl⟩
  · rw [show eEd X.1.bd x y s = 2 by unfold eEd; rw [if_pos (by omega), if_neg hE], if_pos (by decide)] at q
    exact ⟨-17, by decide, ask_ch0 h q (by decide) fun _ _ => rfl⟩
end
theorem c_pass (h : St X k g u) (hm : aMayN X.1) : Ask (XP X (aTurn X.1 (w (X.1.ps + 1)))) k (call M_L_pass [vA 1] g u) (w (X.1.ps + 1)) := by
  have q := TD_pass h.p h.h
  rw [h.a, if_pos hm] at q
  rw [C_L_pass]
  exact ask_ok2 h (ask_ch h q rfl (wfX_pass h.x hm)) fun _ _ => rfl
theorem c_passNo (h : St X k g u) (hm : ¬ aMayN X.1) : Ask X (k + 1) (call M_L_pass [vA 1] g u) (-19) := by
  have q := TD_pass h.p h.h
  rw [h.a, if_neg hm] at q
  rw [C_L_pass]
  exact ask_ch0 h q (by decide) fun _ _ => rfl
theorem c_undo (h : St X k g u) {l : List AS} {A : AS} (hl : X.2.1 = l ++ [A]) : Ask (A, l, X.2.2) k (call M_L_undo [vA 1] g u) l.length := by
  have q := (TD_undo h.p h.h (fun a ha => by rw [show hT u (1 + 60) = X.2.1 from h.l] at ha; exact wf_n (h.2.2.2.1.2.1 a ha).1)).2 l A (by rw [show hT u (1 + 60) = X.2.1 from h.l]; exact hl)
  obtain ⟨u', e1, e2, e3, e4, f⟩ := q
  rw [C_L_undo]
  refine ask_ok2 (X' := (A, l, X.2.2)) h ?_ fun _ _ => rfl
  obtain ⟨a1, a2, a3, ⟨b1, b2, b3⟩, c1, c2, ⟨c3, c4, c5⟩, c6⟩ := h
  rw [hl] at b2
  refine ⟨g, u', e1, a1, a2, a3, ⟨b2 A (by simp), fun B hB => b2 B (by simp [hB]), b3⟩, RO_eq (fun a j ha => f a j (by omega) (by omega) (by omega)) c1, e2, ⟨e4.2.2.2.1, e4.2.2.2.2, e3⟩, ?_⟩
  rw [f 0 0 (by omega) (by omega) (by omega)]
  exact c6
end
