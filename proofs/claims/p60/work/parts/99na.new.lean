/-! ===== cells are made: the ghost machine's instructions in constructors ===== -/
/-- a heap and cells made after it -/
def ap (G : GH) (l : List GC) : GH := (G.1 + l.length, fun j => if G.1 ≤ j ∧ j < G.1 + l.length then l[j - G.1]? else G.2 j)
theorem ap_push (G : GH) (l : List GC) (c : GC) : gPush (ap G l) c = ap G (l ++ [c]) := by
  unfold gPush ap
  refine Prod.ext ?_ (funext fun j => ?_)
  · simp only [List.length_append, List.length_singleton]; omega
  · simp only [List.length_append, List.length_singleton]
    by_cases h : j = G.1 + l.length
    · rw [if_pos h, if_pos (by omega), List.getElem?_append_right (by omega), h, show G.1 + l.length - G.1 - l.length = 0 by omega]
      rfl
    · rw [if_neg h]
      by_cases h2 : G.1 ≤ j ∧ j < G.1 + l.length
      · rw [if_pos h2, if_pos (by omega), List.getElem?_append_left (by omega)]
      · rw [if_neg h2, if_neg (by omega)]
theorem ap_upd (G : GH) (l : List GC) (i : Nat) (c : GC) (hi : i < l.length) : gU (ap G l) (G.1 + i) c = ap G (l.set i c) := by
  unfold gU ap
  refine Prod.ext ?_ (funext fun j => ?_)
  · simp only [List.length_set]
  · simp only [List.length_set]
    by_cases h : j = G.1 + i
    · rw [if_pos h, if_pos (by omega), h, show G.1 + i - G.1 = i by omega, List.getElem?_set_self hi]
    · rw [if_neg h]
      by_cases h2 : G.1 ≤ j ∧ j < G.1 + l.length
      · rw [if_pos h2, if_pos h2, List.getElem?_set_ne (by omega)]
      · rw [if_neg h2, if_neg h2]
theorem ap_get (G : GH) (l : List GC) (i : Nat) (hi : i < l.length) : (ap G l).2 (G.1 + i) = l[i]? := by
  unfold ap
  simp only
  rw [if_pos (by omega), show G.1 + i - G.1 = i by omega]
theorem ap_ap (G : GH) (l l' : List GC) : ap (ap G l) l' = ap G (l ++ l') := by
  unfold ap
  refine Prod.ext ?_ (funext fun j => ?_)
  · simp only [List.length_append]; omega
  · simp only [List.length_append]
    by_cases h : G.1 + l.length ≤ j ∧ j < G.1 + l.length + l'.length
    · rw [if_pos h, if_pos (by omega), List.getElem?_append_right (by omega), show j - G.1 - l.length = j - (G.1 + l.length) by omega]
    · rw [if_neg h]
      by_cases h2 : G.1 ≤ j ∧ j < G.1 + l.length
      · rw [if_pos h2, if_pos (by omega), List.getElem?_append_left (by omega)]
      · rw [if_neg h2, if_neg (by omega)]
section
variable {m rc rs pc n a b c d e : Nat} {ls : GL} {st : List Value} {G : GH} {Q : GQ} {x : Nat}
theorem wp_al {k : Fin 4} (hE : gLook (gTab m) pc = some (.aload_n k, n, a, b, c, d, e)) (hv : ls[(k : Nat)]? = some (some (.ref x))) (h : WP m rc rs n ls (.ref x :: st) G Q) : WP m rc rs pc ls st G Q := by
  refine WP.step ?_
  unfold gStep stepG
  rw [hE]
  show gLdA ls k _
  unfold gLdA
  rw [hv]
  exact h
theorem wp_ic {k : _} (hE : gLook (gTab m) pc = some (.iconst k, n, a, b, c, d, e)) (h : WP m rc rs n ls (.int (gK b a) :: st) G Q) : WP m rc rs pc ls st G Q := by
  refine WP.step ?_
  unfold gStep stepG
  rw [hE]
  exact h
theorem wp_bp {k : _} (hE : gLook (gTab m) pc = some (.bipush k, n, a, b, c, d, e)) (h : WP m rc rs n ls (.int (gK b a) :: st) G Q) : WP m rc rs pc ls st G Q := by
  refine WP.step ?_
  unfold gStep stepG
  rw [hE]
  exact h
theorem wp_sp {k : _} (hE : gLook (gTab m) pc = some (.sipush k, n, a, b, c, d, e)) (h : WP m rc rs n ls (.int (gK b a) :: st) G Q) : WP m rc rs pc ls st G Q := by
  refine WP.step ?_
  unfold gStep stepG
  rw [hE]
  exact h
theorem wp_dup (hE : gLook (gTab m) pc = some (.dup, n, a, b, c, d, e)) (h : WP m rc rs n ls (.ref x :: .ref x :: st) G Q) : WP m rc rs pc ls (.ref x :: st) G Q := by
  refine WP.step ?_
  unfold gStep stepG
  rw [hE]
  exact h
theorem wp_obj {k : _} (hE : gLook (gTab m) pc = some (.invokespecial k, n, a, b, c, d, 26)) (hs : gCat st ≤ 8) (h : WP m rc rs n ls st G Q) : WP m rc rs pc ls (.ref x :: st) G Q := by
  refine WP.step ?_
  unfold gStep stepG
  rw [hE]
  refine ⟨trivial, ?_⟩
  show (bif Nat.ble (gCat st) 8 then WP m rc rs n ls st G Q else False)
  rw [Nat.ble_eq_true_of_le hs]
  exact h
theorem wp_pf {k : _} {v : Value} {fs : List Value} (hE : gLook (gTab m) pc = some (.putfield k, n, a, b, c, d, e)) (hx : x < gRB) (hf : G.2 x = some (.inl (a, fs))) (hv : gFit c v) (h : WP m rc rs n ls st (gU G x (.inl (a, fs.set b v))) Q) : WP m rc rs pc ls (v :: .ref x :: st) G Q := by
  refine WP.step ?_
  unfold gStep stepG
  rw [hE]
  exact ⟨hx, fs, hf, hv, h⟩
theorem wp_na {j : Int32} {w : Nat} (hE : gLook (gTab m) pc = some (.newarray .int, n, a, b, c, d, e)) (hj : j = nI w) (h1 : 1 ≤ rc) (h2 : 0 < G.1) (h3 : G.1 < gRB) (h4 : w ≤ 100000) (h5 : w ≤ rs) (h : WP m (rc - 1) (rs - w) n ls (.ref G.1 :: st) (gPush G (.inr (.int, w, .inl fun _ => 0))) Q) : WP m rc rs pc ls (.int j :: st) G Q := by
  refine WP.step ?_
  unfold gStep stepG
  rw [hE]
  exact ⟨h1, h2, h3, w, hj, h4, h5, h⟩
theorem wp_nb {j : Int32} {w : Nat} (hE : gLook (gTab m) pc = some (.newarray .boolean, n, a, b, c, d, e)) (hj : j = nI w) (h1 : 1 ≤ rc) (h2 : 0 < G.1) (h3 : G.1 < gRB) (h4 : w ≤ 100000) (h5 : w ≤ rs) (h : WP m (rc - 1) (rs - w) n ls (.ref G.1 :: st) (gPush G (.inr (.boolean, w, .inl fun _ => 0))) Q) : WP m rc rs pc ls (.int j :: st) G Q := by
  refine WP.step ?_
  unfold gStep stepG
  rw [hE]
  exact ⟨h1, h2, h3, w, hj, h4, h5, h⟩
theorem wp_new {k : _} (hE : gLook (gTab m) pc = some (.new k, n, a, b, c, d, 0)) (h1 : 1 ≤ rc) (h4 : b ≤ rs) (h2 : 0 < G.1) (h3 : G.1 < gRB) (h : WP m (rc - 1) (rs - b) n ls (.ref G.1 :: st) (gPush G (.inl (a, gBlk a))) Q) : WP m rc rs pc ls st G Q := by
  refine WP.step ?_
  unfold gStep stepG
  rw [hE]
  exact ⟨h1, h4, h2, h3, h⟩
theorem wp_ret (hE : gLook (gTab m) pc = some (.return_, n, a, b, c, d, e)) (h : Q.2.1 G) : WP m rc rs pc ls [] G Q := by
  refine WP.step ?_
  unfold gStep stepG
  rw [hE]
  exact h
/-- a constructor is called -/
theorem wp_init {k : _} {c1 d1 : Nat} {fs : List Value} {G' : GH} (hE : gLook (gTab m) pc = some (.invokespecial k, n, a, 1, c, d, 1)) (hs : gCat st ≤ 8) (hx : x < gRB) (hf : G.2 x = some (.inl (gCls a, fs))) (h1 : c1 ≤ rc) (h2 : d1 ≤ rs) (hc : WP a c1 d1 0 (gEntry a [.ref x]) [] G (gQv (fun G2 => G2 = G') gNo)) (h : WP m (rc - c1) (rs - d1) n ls st G' Q) : WP m rc rs pc ls (.ref x :: st) G Q := by
  refine WP.step ?_
  unfold gStep stepG
  rw [hE]
  refine ⟨⟨hx, fs, hf⟩, ?_⟩
  show (bif Nat.ble (gCat st) 8 && (Nat.beq 1 1 && Nat.beq 1 1) then _ else False)
  rw [Nat.ble_eq_true_of_le hs]
  exact ⟨c1, d1, h1, h2, gC_x _ _ _ _ _ _ _ hc ⟨fun _ _ h => h, fun G2 q => by rw [q]; exact h, fun _ _ h => h, fun _ _ h => h, fun _ _ h => h, fun _ _ h => h⟩⟩
end
/-- the constructor of method m makes the cells of l behind (and at) its object -/
def MkC (m cls c1 d1 : Nat) (l : Nat → List GC) : Prop := ∀ G : GH, 0 < G.1 → G.1 + (l G.1).length ≤ gRB → WP m c1 d1 0 (gEntry m [.ref G.1]) [] (ap G [.inl (cls, gBlk cls)]) (gQv (fun G2 => G2 = ap G (l G.1)) gNo)
def zI (n : Nat) : GC := .inr (.int, n, .inl fun _ => 0)
def zB (n : Nat) : GC := .inr (.boolean, n, .inl fun _ => 0)
section
variable {G : GH} {l : List GC} {N : Nat}
theorem ap_lt (hg : G.1 + N ≤ gRB) (h : Nat.blt l.length N = true) : (ap G l).1 < gRB := by
  have : l.length < N := Nat.le_of_ble_eq_true h
  show G.1 + l.length < gRB
  omega
theorem ap_pos (h0 : 0 < G.1) : 0 < (ap G l).1 := by show 0 < G.1 + l.length; omega
theorem ap_g0 (h : Nat.blt 0 l.length = true) : (ap G l).2 G.1 = l[0]? := ap_get G l 0 (Nat.le_of_ble_eq_true h)
theorem ap_u0 (h : Nat.blt 0 l.length = true) (c : GC) : gU (ap G l) G.1 c = ap G (l.set 0 c) := ap_upd G l 0 c (Nat.le_of_ble_eq_true h)
/-- putfield of the object itself -/
theorem wp_me {m rc rs pc n a b c d e : Nat} {ls : GL} {st : List Value} {Q : GQ} {k : _} {v : Value} {fs : List Value} (hE : gLook (gTab m) pc = some (.putfield k, n, a, b, c, d, e)) (hg : G.1 + N ≤ gRB) (hN : 0 < N) (hl : Nat.blt 0 l.length = true) (hf : l[0]? = some (.inl (a, fs))) (hv : gFit c v) (h : WP m rc rs n ls st (ap G (l.set 0 (.inl (a, fs.set b v)))) Q) : WP m rc rs pc ls (v :: .ref G.1 :: st) (ap G l) Q :=
  wp_pf hE (by omega) ((ap_g0 hl).trans hf) hv (by rw [ap_u0 hl]; exact h)
theorem wp_nai {m rc rs pc n a b c d e : Nat} {ls : GL} {st : List Value} {Q : GQ} {j : Int32} {w : Nat} (hE : gLook (gTab m) pc = some (.newarray .int, n, a, b, c, d, e)) (hj : j = nI w) (h1 : 1 ≤ rc) (h0 : 0 < G.1) (hg : G.1 + N ≤ gRB) (hl : Nat.blt l.length N = true) (h4 : w ≤ 100000) (h5 : w ≤ rs) (h : WP m (rc - 1) (rs - w) n ls (.ref (G.1 + l.length) :: st) (ap G (l ++ [zI w])) Q) : WP m rc rs pc ls (.int j :: st) (ap G l) Q :=
  wp_na hE hj h1 (ap_pos h0) (ap_lt hg hl) h4 h5 (by rw [ap_push]; exact h)
theorem wp_nab {m rc rs pc n a b c d e : Nat} {ls : GL} {st : List Value} {Q : GQ} {j : Int32} {w : Nat} (hE : gLook (gTab m) pc = some (.newarray .boolean, n, a, b, c, d, e)) (hj : j = nI w) (h1 : 1 ≤ rc) (h0 : 0 < G.1) (hg : G.1 + N ≤ gRB) (hl : Nat.blt l.length N = true) (h4 : w ≤ 100000) (h5 : w ≤ rs) (h : WP m (rc - 1) (rs - w) n ls (.ref (G.1 + l.length) :: st) (ap G (l ++ [zB w])) Q) : WP m rc rs pc ls (.int j :: st) (ap G l) Q :=
  wp_nb hE hj h1 (ap_pos h0) (ap_lt hg hl) h4 h5 (by rw [ap_push]; exact h)
/-- new X; dup; X.<init> -/
theorem wp_mk {m rc rs pc n b c d n2 n3 c2 d2 k2 cls c1 d1 : Nat} {x2 x3 x4 x5 x6 : Nat} {ls : GL} {st : List Value} {Q : GQ} {k k3 : _} {L : Nat → List GC} (hE : gLook (gTab m) pc = some (.new k, n, cls, b, c, d, 0)) (hE2 : gLook (gTab m) n = some (.dup, n2, x2, x3, x4, x5, x6)) (hE3 : gLook (gTab m) n2 = some (.invokespecial k3, n3, k2, 1, c2, d2, 1)) (hc : gCls k2 = cls) (hm : MkC k2 cls c1 d1 L) (h1 : c1 + 1 ≤ rc) (h4 : b + d1 ≤ rs) (h0 : 0 < G.1) (hg : G.1 + N ≤ gRB) (hN : l.length + (L (G.1 + l.length)).length ≤ N) (hL : 0 < (L (G.1 + l.length)).length) (hs : gCat (.ref 0 :: st) ≤ 8) (h : WP m (rc - 1 - c1) (rs - b - d1) n3 ls (.ref (G.1 + l.length) :: st) (ap G (l ++ L (G.1 + l.length))) Q) : WP m rc rs pc ls st (ap G l) Q := by
  refine wp_new hE (by omega) (by omega) (ap_pos h0) (by show G.1 + l.length < gRB; omega) (wp_dup hE2 ?_)
  refine wp_init (fs := gBlk cls) (G' := ap G (l ++ L (G.1 + l.length))) hE3 hs (by show G.1 + l.length < gRB; omega) ?_ (c1 := c1) (d1 := d1) (by omega) (by omega) ?_ h
  · rw [hc]
    unfold gPush
    exact if_pos rfl
  · have hh := hm (ap G l) (ap_pos h0) (by show G.1 + l.length + (L (G.1 + l.length)).length ≤ gRB; omega)
    rw [show gPush (ap G l) (.inl (cls, gBlk cls)) = ap (ap G l) [.inl (cls, gBlk cls)] by rw [ap_push, ap_ap]]
    refine WP.mono hh ⟨fun _ _ h => h, fun G2 q => ?_, fun _ _ h => h, fun _ _ h => h, fun _ _ h => h, fun _ _ h => h⟩
    exact q.trans (ap_ap _ _ _)
end
def lTk (o : Nat) : List GC := [.inl (9, [.int 3, .int 3, .ref (o + 1), .ref (o + 2)]), zI 64, zB 128]
theorem mk_Tk : MkC M_Tk_init 9 2 192 lTk := by
  intro G h0 h1
  have hg : G.1 + 3 ≤ gRB := h1
  refine wp_al (k := 0) rfl rfl (wp_obj rfl (by decide) ?_)
  refine wp_al (k := 0) rfl rfl (wp_ic rfl (wp_me rfl hg (by decide) rfl rfl trivial ?_))
  refine wp_al (k := 0) rfl rfl (wp_ic rfl (wp_me rfl hg (by decide) rfl rfl trivial ?_))
  refine wp_al (k := 0) rfl rfl (wp_bp rfl (wp_nai (w := 64) rfl rfl (by decide) h0 hg rfl (by decide) (by decide) (wp_me rfl hg (by decide) rfl rfl trivial ?_)))
  refine wp_al (k := 0) rfl rfl (wp_sp rfl (wp_nab (w := 128) rfl rfl (by decide) h0 hg rfl (by decide) (by decide) (wp_me rfl hg (by decide) rfl rfl trivial ?_)))
  exact wp_ret rfl rfl
