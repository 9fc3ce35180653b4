/-! ===== soundness: the ends of a method, throws ===== -/
section Snd3
variable {z : Nat} {ro : Nat → Nat} {cA : FieldType → ClassId} {D : va_G} {roArr : Nat → Option (Nat × (Nat → Int32))}
variable {m rc rs pc : Nat} {ls : GL} {st : List Value} {G : GH} {Q : GQ}
theorem va_S.toF {s t : State} {H : Heap} {locs : List Loc} (hS : va_S (gA z ro) s.heap H locs) (ht : t.heap = H) : va_F (gA z ro) s t := ⟨by rw [ht]; exact hS.1, fun q h1 h2 => by rw [ht]; exact hS.2.1 q h1 h2⟩
theorem snd_fin {p : Program} {l : Launch} {e : Env} {R : Room} {s : State} {mid : MethodId} {args : Array Value} {below : List Frame} {meth : Method} {c : Code} {H : Heap} {locs : List Loc} {cells slots : Nat} {g : JFrame} (hc : cells + rc ≤ R.cells) (hs : slots + rs ≤ R.slots)
    (k : W p l e R s mid args below meth c H locs cells slots (MQ below (gQc z ro cA D roArr Q) args s cells slots (gA z ro)) g) : W p l e R s mid args below meth c H locs cells slots (gZ z ro cA D roArr Q R s args below) g := by
  refine vx_ret ?_
  intro T hT X
  obtain ⟨t, a1, o, b1, b2, b3, L, b4, b5⟩ := k T hT X
  exact ⟨t, a1, o, b1, b2, b3, L, ⟨b4.1, b4.2.1, b4.2.2.mono (by omega) (by omega)⟩, b5⟩
theorem snd_ireturn {n a b c d e : Nat} {x : Int32} (hE : gEnt m pc (.ireturn, n, a, b, c, d, e)) (hst : st = [.int x]) (h : match (generalizing := false) a with
        | 0 => Q.1 x G
        | _ => (x = nI 0 ∨ x = nI 1) ∧ Q.1 x G) : SND z ro cA D roArr m rc rs pc ls st G Q := by
  obtain ⟨hd, hn⟩ := gChk_dec hE.1
  have hk := hE.1
  simp only [gChk, Bool.and_eq_true, decide_eq_true_eq, beq_iff_eq] at hk
  have hk := hk.2
  subst hst
  intro p l e R s mid args below meth c H locs cells slots lsr hC hr hl hS hc hs
  cases a with
  | zero =>
    have hret : gRet m = some .int := of_decide_eq_true hk
    exact snd_fin hc hs (W.iret hC.1 hC.2.1 (hC.ret.trans hret) (fun t ht hW => ⟨⟨_, rfl, Or.inl ⟨x, G, rfl, h, by rw [ht]; exact hr⟩⟩, hS.toF ht⟩) (fun q hq => hS.2.2 q hq) hd hC.lk)
  | succ a =>
    have hret : gRet m = some .boolean := of_decide_eq_true hk
    obtain ⟨h0, h⟩ := h
    exact snd_fin hc hs (W.zret hC.1 hC.2.1 (hC.ret.trans hret) (by rcases h0 with rfl | rfl <;> rfl) (fun t ht hW => ⟨⟨_, rfl, Or.inl ⟨x, G, rfl, h, by rw [ht]; exact hr⟩⟩, hS.toF ht⟩) (fun q hq => hS.2.2 q hq) hd hC.lk)
theorem snd_return {n a b c d e : Nat} (hE : gEnt m pc (.return_, n, a, b, c, d, e)) (hst : st = []) (h : Q.2.1 G) : SND z ro cA D roArr m rc rs pc ls st G Q := by
  obtain ⟨hd, hn⟩ := gChk_dec hE.1
  have hk := hE.1
  simp only [gChk, Bool.and_eq_true, decide_eq_true_eq, beq_iff_eq] at hk
  have hk := hk.2
  subst hst
  intro p l e R s mid args below meth c H locs cells slots lsr hC hr hl hS hc hs
  exact snd_fin hc hs (W.vret hC.1 hC.2.1 (hC.ret.trans hk) (fun t ht hW => ⟨⟨_, rfl, Or.inr (Or.inl ⟨G, rfl, h, by rw [ht]; exact hr⟩)⟩, hS.toF ht⟩) (fun q hq => hS.2.2 q hq) hd hC.lk)
theorem snd_areturn {n a b c d e x : Nat} (hE : gEnt m pc (.areturn, n, a, b, c, d, e)) (hst : st = [.ref x]) (h : Q.2.2.1 x G) : SND z ro cA D roArr m rc rs pc ls st G Q := by
  obtain ⟨hd, hn⟩ := gChk_dec hE.1
  have hk := hE.1
  simp only [gChk, Bool.and_eq_true, decide_eq_true_eq, beq_iff_eq] at hk
  have hk := hk.2
  subst hst
  intro p l e R s mid args below meth c H locs cells slots lsr hC hr hl hS hc hs
  obtain ⟨rt, hrt, hrf⟩ : ∃ rt, gRet m = some rt ∧ ((∃ n, rt = .object n) ∨ ∃ t, rt = .array t) := by
    cases hq : gRet m with
    | none => rw [hq] at hk; cases hk
    | some rt =>
      rw [hq] at hk
      cases rt <;> first | exact ⟨_, rfl, Or.inl ⟨_, rfl⟩⟩ | exact ⟨_, rfl, Or.inr ⟨_, rfl⟩⟩ | cases hk
  exact snd_fin hc hs (W.aret hC.1 hC.2.1 (hC.ret.trans hrt) hrf (Or.inr ⟨_, rfl⟩) (fun t ht hW => ⟨⟨_, rfl, Or.inr (Or.inr (Or.inl ⟨x, G, rfl, h, by rw [ht]; exact hr⟩))⟩, hS.toF ht⟩) (fun q hq => hS.2.2 q hq) hd hC.lk)
theorem snd_dreturn {n a b c d e : Nat} {x : UInt64} (hE : gEnt m pc (.dreturn, n, a, b, c, d, e)) (hst : st = [.double x]) (h : Q.2.2.2.1 x G) : SND z ro cA D roArr m rc rs pc ls st G Q := by
  obtain ⟨hd, hn⟩ := gChk_dec hE.1
  have hk := hE.1
  simp only [gChk, Bool.and_eq_true, decide_eq_true_eq, beq_iff_eq] at hk
  have hk := hk.2
  subst hst
  intro p l e R s mid args below meth c H locs cells slots lsr hC hr hl hS hc hs
  exact snd_fin hc hs (W.dret hC.1 hC.2.1 (hC.ret.trans hk) (fun t ht hW => ⟨⟨_, rfl, Or.inr (Or.inr (Or.inr (Or.inl ⟨x, G, rfl, h, by rw [ht]; exact hr⟩)))⟩, hS.toF ht⟩) (fun q hq => hS.2.2 q hq) hd hC.lk)
theorem snd_freturn {n a b c d e : Nat} {x : UInt32} (hE : gEnt m pc (.freturn, n, a, b, c, d, e)) (hst : st = [.float x]) (h : Q.2.2.2.2.1 x G) : SND z ro cA D roArr m rc rs pc ls st G Q := by
  obtain ⟨hd, hn⟩ := gChk_dec hE.1
  have hk := hE.1
  simp only [gChk, Bool.and_eq_true, decide_eq_true_eq, beq_iff_eq] at hk
  have hk := hk.2
  subst hst
  intro p l e R s mid args below meth c H locs cells slots lsr hC hr hl hS hc hs
  exact snd_fin hc hs (W.fret hC.1 hC.2.1 (hC.ret.trans hk) (fun t ht hW => ⟨⟨_, rfl, Or.inr (Or.inr (Or.inr (Or.inr ⟨x, G, rfl, h, by rw [ht]; exact hr⟩)))⟩, hS.toF ht⟩) (fun q hq => hS.2.2 q hq) hd hC.lk)
theorem gnw_ot : ∀ w ∈ gnw, vx_ot w = true := by decide +kernel
theorem gw_ot : ∀ w ∈ gw, vx_ot w = true := fun w hw => by
  have := (List.mem_filter.mp hw).2
  simp [vx_ot, this]
theorem gNames_fit : ∀ n ∈ gNames, Bundle.fit n = true := by decide +kernel
/-- throw new X("..") -/
theorem snd_throw {idx n a b c d e : Nat} (hE : gEnt m pc (.new idx, n, a, b, c, d, e + 1)) (h1 : 1 ≤ rc) (h2 : 6 ≤ rs) (h3 : Nat.ble (gCat st) 8 = true) (h : Q.2.2.2.2.2 (gExc a) (gDirty G)) : SND z ro cA D roArr m rc rs pc ls st G Q := by
  obtain ⟨hd, hn⟩ := gChk_dec hE.1
  have hk := hE.1
  simp only [gChk, Bool.and_eq_true, decide_eq_true_eq, beq_iff_eq] at hk
  have hk := hk.2
  have hk : (decide (a < 3) && decide (decode (gCode m) (pc + 3) = .ok (.dup, 1)) && (bif b == 0 then decide (decode (gCode m) (pc + 4) = .ok (.ldc c, 2)) && decide (decode (gCode m) (pc + 6) = .ok (.invokespecial d, 3)) && decide (decode (gCode m) (pc + 9) = .ok (.athrow, 1)) else decide (decode (gCode m) (pc + 4) = .ok (.ldc_w c, 3)) && decide (decode (gCode m) (pc + 7) = .ok (.invokespecial d, 3)) && decide (decode (gCode m) (pc + 10) = .ok (.athrow, 1))) && decide (6 ≤ gFrames m) && decide (140 ≤ gLocs m) && (gHh m).isEmpty && (gHT m).isEmpty) = true := hk
  simp only [Bool.and_eq_true, decide_eq_true_eq] at hk
  obtain ⟨⟨⟨⟨⟨⟨k1, k2⟩, k3⟩, k4⟩, k5⟩, k6⟩, k7⟩ := hk
  obtain ⟨⟨t1, t2, t3, t4⟩, tx, t5⟩ := hE.2
  have h8 : gCat st ≤ 8 := Nat.le_of_ble_eq_true h3
  intro p l e R s mid args below meth cd H locs cells slots lsr hC hr hl hS hc hs
  obtain ⟨sa, hsa⟩ := hC.env.2.2.2.2.2.2.2.2.1 _ t5
  have hat : ∀ w ∈ vx_atS (gY m).cls d (gExc a) gNames, w.before args s = true := fun w hw => by
    rcases t3 w hw with q | q
    · exact hC.hts w q
    · exact vx_ot_at (State.WarmedH.refl s) rfl (gnw_ot w q) (hC.env.2.2.1 w q)
  have hgood : ∀ w ∈ Cond.classLink (gY m).cls idx (gExc a) :: Cond.initialized (gExc a) :: vx_atS (gY m).cls d (gExc a) gNames, vx_ot w = true := fun w hw => by
    rcases List.mem_cons.mp hw with rfl | hw
    · exact gw_ot _ t1
    rcases List.mem_cons.mp hw with rfl | hw
    · exact gw_ot _ t2
    rcases t3 w hw with q | q
    · exact gw_ot w q
    · exact gnw_ot w q
  have hHT : gHT m = [] := List.isEmpty_iff.mp k7
  have htab : cd.exceptionTable.toList = [] := by rw [hC.tab, hHT]; rfl
  have hXC : ∀ t : State, s.vm.Alike t.vm → H.size ≤ t.heap.size → (∀ q : Nat, q < H.size → t.heap[q]? = H[q]?) → gXC z ro cA D roArr Q (gExc a) s t := fun t ht hz hq =>
    ⟨⟨gDirty G, ⟨a, k1, rfl⟩, h, hr.dirty.kept (Or.inr rfl) (fun q _ hlt => hq q hlt)⟩, ⟨Nat.le_trans hS.1 hz, fun q g1 g2 => (hq q (Nat.lt_of_lt_of_le g1 hS.1)).trans (hS.2.1 q g1 g2)⟩⟩
  have e1 : ((st.map (gv z ro)).map fun v => v.category).sum = gCat st := gCat_sum st
  have hfr := hC.fr
  have hlo := hC.lo
  cases b with
  | zero =>
    simp only [beq_self_eq_true, cond_true, Bool.and_eq_true, decide_eq_true_eq] at k3
    obtain ⟨⟨d4, d6⟩, d9⟩ := k3
    exact vx_throwS hC.1 hC.2.1 hC.tr hC.own t4 gNames_fit (hC.hts _ t1) (hC.hts _ t2) hsa hat hgood hC.env.2.2.2.2.2.2.2.2.2.2.2.1 hC.env.2.2.2.2.2.2.2.2.2.2.2.2 hS (hl.1.trans hC.ml.symm) hd k2 d4 d6 d9 (fun x hx => by rw [htab] at hx; cases hx)
      (by show 2 + 3 < R.frames; omega) (by rw [e1]; show gCat st + (13 * (2 + 1) + 43) ≤ R.locals; omega) (by omega) (by omega) hC.lk hXC (fun q hq => hS.2.2 q hq) (by omega) (by omega)
  | succ b =>
    have k3 : (decide (decode (gCode m) (pc + 4) = .ok (.ldc_w c, 3)) && decide (decode (gCode m) (pc + 7) = .ok (.invokespecial d, 3)) && decide (decode (gCode m) (pc + 10) = .ok (.athrow, 1))) = true := k3
    simp only [Bool.and_eq_true, decide_eq_true_eq] at k3
    obtain ⟨⟨d4, d6⟩, d9⟩ := k3
    exact vx_throwSW hC.1 hC.2.1 hC.tr hC.own t4 gNames_fit (hC.hts _ t1) (hC.hts _ t2) hsa hat hgood hC.env.2.2.2.2.2.2.2.2.2.2.2.1 hC.env.2.2.2.2.2.2.2.2.2.2.2.2 hS (hl.1.trans hC.ml.symm) hd k2 d4 d6 d9 (fun x hx => by rw [htab] at hx; cases hx)
      (by show 2 + 3 < R.frames; omega) (by rw [e1]; show gCat st + (13 * (2 + 1) + 43) ≤ R.locals; omega) (by omega) (by omega) hC.lk hXC (fun q hq => hS.2.2 q hq) (by omega) (by omega)
theorem snd_ldc {idx n a b c d e : Nat} (hE : gEnt m pc (.ldc idx, n, a, b, c, d, e)) (h : match (generalizing := false) e with
      | 0 => SND z ro cA D roArr m rc rs n ls (.int (gK b a) :: st) G Q
      | _ => SND z ro cA D roArr m rc rs n ls (.ref a :: st) G Q) : SND z ro cA D roArr m rc rs pc ls st G Q := by
  obtain ⟨hd, hn⟩ := gChk_dec hE.1
  subst hn
  cases e with
  | zero => exact snd_lin h fun hC _ k => lv_ldc hC.1 hC.2.1 hC.own (hC.hts _ hE.2) hd k
  | succ e =>
    obtain ⟨h1, tx, h2⟩ := hE.2
    intro p l e R s mid args below meth c H locs cells slots lsr hC hr hl hS hc hs
    have hk := h _ _ e _ _ _ _ below _ _ _ _ _ _ _ hC hr hl hS hc hs
    rw [List.map_cons, show gv z ro (.ref a) = .ref (ro a) from congrArg Value.ref (gAd_ro h1)] at hk
    exact va_ldcS hC.1 hC.2.1 hC.own (hC.env.2.2.2.2.2.2.2.1 _ h2) hd hk
theorem snd_ldcw {idx n a b c d e : Nat} (hE : gEnt m pc (.ldc_w idx, n, a, b, c, d, e)) (h : match (generalizing := false) e with
      | 0 => SND z ro cA D roArr m rc rs n ls (.int (gK b a) :: st) G Q
      | _ => SND z ro cA D roArr m rc rs n ls (.ref a :: st) G Q) : SND z ro cA D roArr m rc rs pc ls st G Q := by
  obtain ⟨hd, hn⟩ := gChk_dec hE.1
  subst hn
  cases e with
  | zero => exact (show False from hE.2).elim
  | succ e =>
    obtain ⟨h1, tx, h2⟩ := hE.2
    intro p l e R s mid args below meth c H locs cells slots lsr hC hr hl hS hc hs
    have hk := h _ _ e _ _ _ _ below _ _ _ _ _ _ _ hC hr hl hS hc hs
    rw [List.map_cons, show gv z ro (.ref a) = .ref (ro a) from congrArg Value.ref (gAd_ro h1)] at hk
    have hZ := hC.env.2.2.2.2.2.2.2.1 _ h2
    intro T hT X
    obtain ⟨t, a1, b1⟩ := hk T hT X
    exact ⟨t, X.ldcStringW hC.1 hC.own (text := tx) (a := ro a) hZ.1 hZ.2 (g := F0 mid pc lsr (st.map (gv z ro))) rfl (by rw [hC.2.1]; exact hd) t a1, b1⟩
end Snd3
