/-! ===== soundness: fields, arrays, makings, constants, ends ===== -/
section Snd2
variable {z : Nat} {ro : Nat → Nat} {cA : FieldType → ClassId} {D : va_G} {roArr : Nat → Option (Nat × (Nat → Int32))}
variable {m rc rs pc : Nat} {ls : GL} {st : List Value} {G : GH} {Q : GQ}
section Acc
variable {p : Program} {l : Launch} {R : Room} {s : State} {mid : MethodId} {args : Array Value} {meth : Method} {c : Code}
theorem gCtx.ml (h : gCtx z ro cA D roArr m p l R s mid args meth c) : c.maxLocals = gMaxL m := h.2.2.1
theorem gCtx.ret (h : gCtx z ro cA D roArr m p l R s mid args meth c) : meth.sig.returnType = gRet m := h.2.2.2.1
theorem gCtx.own (h : gCtx z ro cA D roArr m p l R s mid args meth c) : s.vm.findClass (gY m).cls = some mid.cls := h.2.2.2.2.1
theorem gCtx.hts (h : gCtx z ro cA D roArr m p l R s mid args meth c) : ∀ w ∈ gw, w.before args s = true := h.2.2.2.2.2.1
theorem gCtx.lk (h : gCtx z ro cA D roArr m p l R s mid args meth c) : meth.locks = false := h.2.2.2.2.2.2.1
theorem gCtx.nm (h : gCtx z ro cA D roArr m p l R s mid args meth c) : meth.name = (gY m).name := h.2.2.2.2.2.2.2.1
theorem gCtx.env (h : gCtx z ro cA D roArr m p l R s mid args meth c) : gEnv z ro cA D roArr s s.heap := h.2.2.2.2.2.2.2.2.1
theorem gCtx.tr (h : gCtx z ro cA D roArr m p l R s mid args meth c) : l.stackTraces = false := h.2.2.2.2.2.2.2.2.2.1
theorem gCtx.tab (h : gCtx z ro cA D roArr m p l R s mid args meth c) : c.exceptionTable.toList = tableOf (gHT m) := h.2.2.2.2.2.2.2.2.2.2.1
theorem gCtx.fr (h : gCtx z ro cA D roArr m p l R s mid args meth c) : gFrames m ≤ R.frames := h.2.2.2.2.2.2.2.2.2.2.2.1
theorem gCtx.lo (h : gCtx z ro cA D roArr m p l R s mid args meth c) : gLocs m ≤ R.locals := h.2.2.2.2.2.2.2.2.2.2.2.2
theorem gCtx.K (h : gCtx z ro cA D roArr m p l R s mid args meth c) : va_K D vwCl (gTys cA) s := h.env.1
end Acc
theorem gRep.lt {H : Heap} {o : Nat} {q : Nat × List Value} (h : gRep z ro cA D roArr G H) (hG : G.2 o = some (.inl q)) : o < gRB := by
  refine Nat.lt_of_not_le fun k => ?_
  obtain ⟨_, _, _, _, _, h4, _⟩ := h
  have e := h4 o k
  rw [hG] at e
  cases hq : roArr o with
  | none => rw [hq] at e; cases e
  | some q' => rw [hq] at e; cases e
theorem gAd_ro {k : Nat} (h : gRB ≤ k) : gAd z ro k = ro k := if_neg (Nat.not_lt.mpr h)
theorem snd_getfield (hF : gFacts) {idx n a b c d e o : Nat} {r : List Value} (hE : gEnt m pc (.getfield idx, n, a, b, c, d, e)) (hst : st = .ref o :: r) {fs : List Value} {v : Value} (hG : G.2 o = some (.inl (a, fs))) (hv : fs[b]? = some v) (h : SND z ro cA D roArr m rc rs n ls (v :: r) G Q) : SND z ro cA D roArr m rc rs pc ls st G Q := by
  obtain ⟨hd, hn⟩ := gChk_dec hE.1
  subst hn
  subst hst
  obtain ⟨C, T, N, e1, e2, e3, e4⟩ := hE.2
  obtain ⟨hin, -, -⟩ := hF.2.2.1 a C T N e1
  intro p l e R s mid args below meth c H locs cells slots lsr hC hr hl hS hc hs
  obtain ⟨n', h1, h2, h3, hP, hw⟩ := hr.at (hr.lt hG) hG
  exact va_get hC.1 hC.2.1 hC.hts hin hC.own hC.K hP _ hw e1 b e2 (hC.hts _ e4) (fun x hx => by rw [e3] at hx; exact hx) (v := gv z ro v) (by rw [List.getElem?_map, hv]; rfl) hd (h _ _ _ _ _ _ _ _ _ _ _ _ _ _ _ hC hr hl hS hc hs)
theorem gFit_narrow {c : Nat} {v : Value} {ty : FieldType} (hf : gFit c v) (hty : (c = 0 ∧ ty = .int) ∨ (c = 1 ∧ gIsRef (some ty) = true) ∨ (c = 2 ∧ ty = .boolean)) : narrow ty (gv z ro v) = gv z ro v ∧ fits ty (gv z ro v) = true := by
  rcases hty with ⟨rfl, rfl⟩ | ⟨rfl, h⟩ | ⟨rfl, rfl⟩
  · cases v <;> first | exact ⟨rfl, rfl⟩ | exact hf.elim
  · cases v <;> first | exact hf.elim | skip
    cases ty <;> first | exact ⟨rfl, rfl⟩ | cases h
  · cases v <;> first | exact hf.elim | skip
    rcases hf with rfl | rfl <;> exact ⟨rfl, rfl⟩
theorem snd_putfield (hF : gFacts) {idx n a b c d e o : Nat} {v : Value} {r : List Value} (hE : gEnt m pc (.putfield idx, n, a, b, c, d, e)) (hst : st = v :: .ref o :: r) (ho : o < gRB) {fs : List Value} (hG : G.2 o = some (.inl (a, fs))) (hf : gFit c v) (h : SND z ro cA D roArr m rc rs n ls r (gU G o (.inl (a, fs.set b v))) Q) : SND z ro cA D roArr m rc rs pc ls st G Q := by
  obtain ⟨hd, hn⟩ := gChk_dec hE.1
  subst hn
  subst hst
  obtain ⟨C, T, N, ty, e1, e2, e3, e4, e5, e6, e7⟩ := hE.2
  obtain ⟨hin, ⟨ty0, hty0, -, -⟩, hnm⟩ := hF.2.2.1 a C T N e1
  obtain ⟨n1, n2⟩ := gFit_narrow (z := z) (ro := ro) hf e6
  intro p l e R s mid args below meth c H locs cells slots lsr hC hr hl hS hc hs
  exact g_put hC.1 hC.2.1 hC.hts hin ty0 hty0 hnm hC.own hC.K hr hS ho hG e1 e2 e3 (hC.hts _ e4) (fun q => ⟨(e7 q).1, hC.nm.trans (e7 q).2⟩) e5 n1 n2 hd (fun H1 locs1 hr1 hS1 => h _ _ _ _ _ _ _ _ _ _ _ _ _ _ _ hC hr1 hl hS1 hc hs)
theorem snd_getstatic {idx n a b c d e : Nat} (hE : gEnt m pc (.getstatic idx, n, a, b, c, d, e)) (h : SND z ro cA D roArr m rc rs n ls (.ref a :: st) G Q) : SND z ro cA D roArr m rc rs pc ls st G Q := by
  obtain ⟨hd, hn⟩ := gChk_dec hE.1
  subst hn
  obtain ⟨j, q, e1, e2, e3⟩ := hE.2
  subst e2
  intro p l e R s mid args below meth c H locs cells slots lsr hC hr hl hS hc hs
  have hk := h _ _ e _ _ _ _ below _ _ _ _ _ _ _ hC hr hl hS hc hs
  rw [List.map_cons, show gv z ro (.ref (gRB + j)) = .ref (ro (gRB + j)) from congrArg Value.ref (gAd_ro (Nat.le_add_right _ _))] at hk
  exact va_gets hC.1 hC.2.1 (hC.env.2.2.2.2.2.1 j q e1) hS hC.own (hC.hts _ e3) (fun _ h => h) hd hk
theorem snd_iaload {n a b c d e o : Nat} {j : Int32} {r : List Value} (hE : gEnt m pc (.iaload, n, a, b, c, d, e)) (hst : st = .int j :: .ref o :: r) {k : Nat} {f : Nat → Int32} (hG : G.2 o = some (.inr (.int, k, .inl f))) (hin : vp_in j k) (h : SND z ro cA D roArr m rc rs n ls (.int (f j.toNatClampNeg) :: r) G Q) : SND z ro cA D roArr m rc rs pc ls st G Q := by
  obtain ⟨hd, hn⟩ := gChk_dec hE.1
  subst hn
  subst hst
  intro p l e R s mid args below meth c H locs cells slots lsr hC hr hl hS hc hs
  have hk := h _ _ e _ _ _ _ below _ _ _ _ _ _ _ hC hr hl hS hc hs
  by_cases ho : o < gRB
  · obtain ⟨n', h1, h2, h3, hP, hw⟩ := hr.at ho hG
    exact va_iald hC.1 hC.2.1 hC.K hP _ 0 hw rfl hin hd hk
  · have ho' := Nat.le_of_not_lt ho
    obtain ⟨_, _, _, _, _, h4, _⟩ := hr
    have e1 := h4 o ho'
    rw [hG] at e1
    cases hq : roArr o with
    | none => rw [hq] at e1; cases e1
    | some q' =>
      rw [hq] at e1
      have hne : o ≠ gDY := fun q => by subst q; cases e1
      have e1 : some (Sum.inr (FieldType.int, k, Sum.inl f)) = some (Sum.inr (gRt o, q'.1, Sum.inl q'.2) : GC) := e1
      rw [gRt, if_neg hne] at e1
      cases e1
      have hT := (hC.env.2.2.2.2.1 o _ ho' hq).1 hne
      show W p l e R s mid args below meth c H locs cells slots _ (F0 mid pc lsr (.int j :: .ref (gAd z ro o) :: r.map (gv z ro)))
      rw [gAd_ro ho']
      exact va_ti hC.1 hC.2.1 hT hS hin rfl hd hk
theorem snd_alen {n a b c d e o : Nat} {r : List Value} (hE : gEnt m pc (.arraylength, n, a, b, c, d, e)) (hst : st = .ref o :: r) {k : Nat} {f : Nat → Int32} (hG : G.2 o = some (.inr (.int, k, .inl f))) (h : SND z ro cA D roArr m rc rs n ls (.int (nI k) :: r) G Q) : SND z ro cA D roArr m rc rs pc ls st G Q := by
  obtain ⟨hd, hn⟩ := gChk_dec hE.1
  subst hn
  subst hst
  intro p l e R s mid args below meth c H locs cells slots lsr hC hr hl hS hc hs
  have hk := h _ _ e _ _ _ _ below _ _ _ _ _ _ _ hC hr hl hS hc hs
  by_cases ho : o < gRB
  · obtain ⟨n', h1, h2, h3, hP, hw⟩ := hr.at ho hG
    exact va_alen hC.1 hC.2.1 hC.K hP _ 0 hw rfl rfl hd hk
  · have ho' := Nat.le_of_not_lt ho
    obtain ⟨_, _, _, _, _, h4, _⟩ := hr
    have e1 := h4 o ho'
    rw [hG] at e1
    cases hq : roArr o with
    | none => rw [hq] at e1; cases e1
    | some q' =>
      rw [hq] at e1
      have hne : o ≠ gDY := fun q => by subst q; cases e1
      have e1 : some (Sum.inr (FieldType.int, k, Sum.inl f)) = some (Sum.inr (gRt o, q'.1, Sum.inl q'.2) : GC) := e1
      rw [gRt, if_neg hne] at e1
      cases e1
      have hT := (hC.env.2.2.2.2.1 o _ ho' hq).1 hne
      show W p l e R s mid args below meth c H locs cells slots _ (F0 mid pc lsr (.ref (gAd z ro o) :: r.map (gv z ro)))
      rw [gAd_ro ho']
      exact va_tlen hC.1 hC.2.1 hT hS rfl hd hk
theorem snd_baload {n a b c d e o : Nat} {j : Int32} {r : List Value} (hE : gEnt m pc (.baload, n, a, b, c, d, e)) (hst : st = .int j :: .ref o :: r) (ho : o < gRB) {k : Nat} {f : Nat → Int32} (hG : G.2 o = some (.inr (.boolean, k, .inl f))) (hin : vp_in j k) (h : SND z ro cA D roArr m rc rs n ls (.int (f j.toNatClampNeg) :: r) G Q) : SND z ro cA D roArr m rc rs pc ls st G Q := by
  obtain ⟨hd, hn⟩ := gChk_dec hE.1
  subst hn
  subst hst
  intro p l e R s mid args below meth c H locs cells slots lsr hC hr hl hS hc hs
  obtain ⟨n', h1, h2, h3, hP, hw⟩ := hr.at ho hG
  exact va_zald hC.1 hC.2.1 hC.K hP _ 1 hw rfl hin hd (h _ _ _ _ _ _ _ _ _ _ _ _ _ _ _ hC hr hl hS hc hs)
theorem snd_aaload {n a b c d e o : Nat} {j : Int32} {r : List Value} (hE : gEnt m pc (.aaload, n, a, b, c, d, e)) (hst : st = .int j :: .ref o :: r) (ho : o < gRB) {k y : Nat} {f : Nat → Option Nat} (hG : G.2 o = some (.inr (.object "TrunkDuel$State", k, .inr (.inr (.inr (.inr f)))))) (hin : vp_in j k) (hy : f j.toNatClampNeg = some y) (h : SND z ro cA D roArr m rc rs n ls (.ref y :: r) G Q) : SND z ro cA D roArr m rc rs pc ls st G Q := by
  obtain ⟨hd, hn⟩ := gChk_dec hE.1
  subst hn
  subst hst
  intro p l e R s mid args below meth c H locs cells slots lsr hC hr hl hS hc hs
  obtain ⟨n', h1, h2, h3, hP, hw⟩ := hr.at ho hG
  refine va_aldq hC.1 hC.2.1 hC.K hP _ 3 hw rfl hin hd ?_
  rw [hy]
  exact h _ _ _ _ _ _ _ _ _ _ _ _ _ _ _ hC hr hl hS hc hs
theorem snd_iastore {n a b c d e o : Nat} {j x : Int32} {r : List Value} (hE : gEnt m pc (.iastore, n, a, b, c, d, e)) (hst : st = .int x :: .int j :: .ref o :: r) (ho : o < gRB) {k : Nat} {f : Nat → Int32} (hG : G.2 o = some (.inr (.int, k, .inl f))) (hin : vp_in j k) (h : SND z ro cA D roArr m rc rs n ls r (gU G o (.inr (.int, k, .inl (upd f j.toNatClampNeg x)))) Q) : SND z ro cA D roArr m rc rs pc ls st G Q := by
  obtain ⟨hd, hn⟩ := gChk_dec hE.1
  subst hn
  subst hst
  intro p l e R s mid args below meth c H locs cells slots lsr hC hr hl hS hc hs
  exact g_iast hC.1 hC.2.1 hC.K hr hS ho hG hin hd fun H1 locs1 hr1 hS1 => h _ _ _ _ _ _ _ _ _ _ _ _ _ _ _ hC hr1 hl hS1 hc hs
theorem snd_bastore {n a b c d e o : Nat} {j x : Int32} {r : List Value} (hE : gEnt m pc (.bastore, n, a, b, c, d, e)) (hst : st = .int x :: .int j :: .ref o :: r) (ho : o < gRB) (hx : x = nI 0 ∨ x = nI 1) {k : Nat} {f : Nat → Int32} (hG : G.2 o = some (.inr (.boolean, k, .inl f))) (hin : vp_in j k) (h : SND z ro cA D roArr m rc rs n ls r (gU G o (.inr (.boolean, k, .inl (upd f j.toNatClampNeg x)))) Q) : SND z ro cA D roArr m rc rs pc ls st G Q := by
  obtain ⟨hd, hn⟩ := gChk_dec hE.1
  subst hn
  subst hst
  intro p l e R s mid args below meth c H locs cells slots lsr hC hr hl hS hc hs
  exact g_zast hC.1 hC.2.1 hC.K hr hS ho hG hin hx hd fun H1 locs1 hr1 hS1 => h _ _ _ _ _ _ _ _ _ _ _ _ _ _ _ hC hr1 hl hS1 hc hs
theorem snd_aastore {n a b c d e o y : Nat} {j : Int32} {r : List Value} (hE : gEnt m pc (.aastore, n, a, b, c, d, e)) (hst : st = .ref y :: .int j :: .ref o :: r) (ho : o < gRB) (hy : y < gRB) {k : Nat} {f : Nat → Option Nat} {fs : List Value} (hG : G.2 o = some (.inr (.object "TrunkDuel$State", k, .inr (.inr (.inr (.inr f)))))) (hGy : G.2 y = some (.inl (8, fs))) (hin : vp_in j k) (h : SND z ro cA D roArr m rc rs n ls r (gU G o (.inr (.object "TrunkDuel$State", k, .inr (.inr (.inr (.inr (va_up f j.toNatClampNeg (some y)))))))) Q) : SND z ro cA D roArr m rc rs pc ls st G Q := by
  obtain ⟨hd, hn⟩ := gChk_dec hE.1
  subst hn
  subst hst
  intro p l e R s mid args below meth c H locs cells slots lsr hC hr hl hS hc hs
  exact g_qast hC.1 hC.2.1 hC.K hr hS ho hy hG hGy hin hd fun H1 locs1 hr1 hS1 => h _ _ _ _ _ _ _ _ _ _ _ _ _ _ _ hC hr1 hl hS1 hc hs
theorem snd_newarray {ty : ArrayType} {n a b c d e k : Nat} {r : List Value} (hE : gEnt m pc (.newarray ty, n, a, b, c, d, e)) (hst : st = .int (nI k) :: r) (h1 : 1 ≤ rc) (h2 : 0 < G.1) (h3 : G.1 < gRB) (hk : k ≤ 100000) (hks : k ≤ rs)
    (h : match (generalizing := false) ty with
        | .int => SND z ro cA D roArr m (rc - 1) (rs - k) n ls (.ref G.1 :: r) (gPush G (.inr (.int, k, .inl fun _ => 0))) Q
        | .boolean => SND z ro cA D roArr m (rc - 1) (rs - k) n ls (.ref G.1 :: r) (gPush G (.inr (.boolean, k, .inl fun _ => 0))) Q
        | _ => False) : SND z ro cA D roArr m rc rs pc ls st G Q := by
  obtain ⟨hd, hn⟩ := gChk_dec hE.1
  subst hn
  subst hst
  intro p l e R s mid args below meth c H locs cells slots lsr hC hr hl hS hc hs
  have hl2 : Cond.arrayClass (newarray.typeOf ty) ∈ gw := hE.2
  cases ty <;> first | exact h.elim | skip
  · exact g_newa hC.1 hC.2.1 (hC.hts _ hl2) rfl (i0 := 1) rfl hC.K hr hS h2 h3 (N := k) (a0 := (k, .inl fun _ => 0)) (fun cB => vp_cell_i _ _ _) rfl hk (by omega) (by omega) hd fun H1 hr1 hS1 => h _ _ _ _ _ _ _ _ _ _ _ _ _ _ _ hC hr1 hl hS1 (by omega) (by omega)
  · exact g_newa hC.1 hC.2.1 (hC.hts _ hl2) rfl (i0 := 0) rfl hC.K hr hS h2 h3 (N := k) (a0 := (k, .inl fun _ => 0)) (fun cB => vp_cell_i _ _ _) rfl hk (by omega) (by omega) hd fun H1 hr1 hS1 => h _ _ _ _ _ _ _ _ _ _ _ _ _ _ _ hC hr1 hl hS1 (by omega) (by omega)
theorem snd_anewarray {idx n a b c d e k : Nat} {r : List Value} (hE : gEnt m pc (.anewarray idx, n, a, b, c, d, e)) (hst : st = .int (nI k) :: r) (h1 : 1 ≤ rc) (h2 : 0 < G.1) (h3 : G.1 < gRB) (hk : k ≤ 100000) (hks : k ≤ rs)
    (h : SND z ro cA D roArr m (rc - 1) (rs - k) n ls (.ref G.1 :: r) (gPush G (.inr (.object "TrunkDuel$State", k, .inr (.inr (.inr (.inr fun _ => none)))))) Q) : SND z ro cA D roArr m rc rs pc ls st G Q := by
  obtain ⟨hd, hn⟩ := gChk_dec hE.1
  subst hn
  subst hst
  intro p l e R s mid args below meth c H locs cells slots lsr hC hr hl hS hc hs
  have hl2 : Cond.classLink (gY m).cls idx "TrunkDuel$State" ∈ gw := hE.2
  exact g_newq hC.1 hC.2.1 hC.own (hC.hts _ hl2) hC.env.2.1 hC.K hr hS h2 h3 hk (by omega) (by omega) hd fun H1 hr1 hS1 => h _ _ _ _ _ _ _ _ _ _ _ _ _ _ _ hC hr1 hl hS1 (by omega) (by omega)
theorem snd_new (hF : gFacts) {idx n a b c d : Nat} (hE : gEnt m pc (.new idx, n, a, b, c, d, 0)) (h1 : 1 ≤ rc) (h2 : b ≤ rs) (h3 : 0 < G.1) (h4 : G.1 < gRB)
    (h : SND z ro cA D roArr m (rc - 1) (rs - b) n ls (.ref G.1 :: st) (gPush G (.inl (a, gBlk a))) Q) : SND z ro cA D roArr m rc rs pc ls st G Q := by
  obtain ⟨hd, hn⟩ := gChk_dec hE.1
  subst hn
  obtain ⟨C, T, N, e1, e2, e3, e4, e5⟩ := hE.2
  subst e2
  obtain ⟨hin, ⟨ty0, hty0, hlen, hdef⟩, hnm⟩ := hF.2.2.1 a C T b e1
  intro p l e R s mid args below meth c H locs cells slots lsr hC hr hl hS hc hs
  exact g_new hC.1 hC.2.1 hC.hts hin ty0 hty0 hlen hdef hC.own (hC.hts _ e3) (hC.hts _ e4) (hC.hts _ e5) hC.K hr hS h3 h4 e1 (by omega) (by omega) hd fun H1 hr1 hS1 => h _ _ _ _ _ _ _ _ _ _ _ _ _ _ _ hC hr1 hl hS1 (by omega) (by omega)
end Snd2
