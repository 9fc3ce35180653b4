/-! ===== the class's object is made: its cells (to pc 135) ===== -/
def lTD (o : Nat) : List GC := .inl (10, [.ref (o + 1), .ref (o + 26), .ref (o + 43), .ref (o + 60), .ref (o + 198), .ref (o + 233), .ref (o + 234), .ref (o + 240), .ref (o + 241), .ref (o + 243), .ref (o + 247), .int 0]) :: (((((((lRd (o + 1) ++ lSt (o + 26) ++ lSt (o + 43) ++ lHi (o + 60)) ++ zS 2 (gS (o + 199) 2) :: (lSt (o + 199) ++ lSt (o + 216))) ++ [zB 2]) ++ lFp (o + 234)) ++ lCh (o + 240)) ++ lCr (o + 241)) ++ lRg (o + 243) ++ [zI 71])
theorem lHi_len (o : Nat) : (lHi o).length = 138 := lHk_len o 8
theorem get_mid {α : Type} {A B : List α} {z : α} {i : Nat} (h : A.length = i) : (A ++ z :: B)[i]? = some z := by
  subst h
  rw [List.getElem?_append_right (Nat.le_refl _), Nat.sub_self]
  rfl
theorem set_mid {α : Type} {A B : List α} {z z' : α} {i : Nat} (h : A.length = i) : (A ++ z :: B).set i z' = A ++ z' :: B := by
  subst h
  induction A with
  | nil => rfl
  | cons a A ih =>
    show a :: (A ++ z :: B).set A.length z' = _
    rw [ih]
    rfl
theorem lSt_c (o : Nat) : ∃ fs t, lSt o = .inl (8, fs) :: t := ⟨_, _, rfl⟩
theorem wp_du {m rc rs pc n a b c d e x : Nat} {ls : GL} {st : List Value} {G : GH} {Q : GQ} (hE : gLook (gTab m) pc = some (.dup, n, a, b, c, d, e)) (h : WP m rc rs n ls (.ref x :: .ref x :: st) G Q) : WP m rc rs pc ls (.ref x :: st) G Q := wp_dup hE h
section
variable {m rc rs pc n0 n1 n2 n3 n4 i N : Nat} {st : List Value} {G : GH} {Q : GQ} {t : List GC} {fs : List Value}
/-- a field gets a new object -/
theorem td_new {a0 b0 c0 d0 e0 b c d x2 x3 x4 x5 x6 k2 c2 d2 cl cls c1 d1 fi d4 e4 : Nat} {k k3 k4 : _} {L : Nat → List GC}
    (hE0 : gLook (gTab m) pc = some (.aload_n 0, n0, a0, b0, c0, d0, e0)) (hE : gLook (gTab m) n0 = some (.new k, n1, cls, b, c, d, 0)) (hE2 : gLook (gTab m) n1 = some (.dup, n2, x2, x3, x4, x5, x6)) (hE3 : gLook (gTab m) n2 = some (.invokespecial k3, n3, k2, 1, c2, d2, 1)) (hE4 : gLook (gTab m) n3 = some (.putfield k4, n4, cl, fi, 1, d4, e4))
    (hc : gCls k2 = cls) (hm : MkC k2 cls c1 d1 L) (h1 : c1 + 1 ≤ rc) (h4 : b + d1 ≤ rs) (h0 : 0 < G.1) (hg : G.1 + N ≤ gRB) (hi : t.length + 1 = i) {w : Nat} (hw : ∀ o, (L o).length = w + 1) (hN : i + (w + 1) ≤ N)
    (h : WP m (rc - 1 - c1) (rs - b - d1) n4 [some (.ref G.1)] [] (ap G (.inl (cl, fs.set fi (.ref (G.1 + i))) :: (t ++ L (G.1 + i)))) Q) : WP m rc rs pc [some (.ref G.1)] [] (ap G (.inl (cl, fs) :: t)) Q := by
  subst hi
  refine wp_al (k := 0) hE0 rfl (wp_mk (N := N) hE hE2 hE3 hc hm h1 h4 h0 hg (by rw [hw]; exact hN) (by rw [hw]; omega) (Nat.le_of_ble_eq_true rfl) ?_)
  exact wp_me (N := N) (fs := fs) hE4 hg (by omega) rfl rfl trivial h
theorem td_arr {a0 b0 c0 d0 e0 a1 b1 c1 d1 e1 a2 b2 c2 d2 e2 cl fi d4 e4 w : Nat} {k k4 : _}
    (hE0 : gLook (gTab m) pc = some (.aload_n 0, n0, a0, b0, c0, d0, e0)) (hE : gLook (gTab m) n0 = some (.iconst k, n1, a1, b1, c1, d1, e1)) (hE2 : gLook (gTab m) n1 = some (.newarray .boolean, n2, a2, b2, c2, d2, e2)) (hE4 : gLook (gTab m) n2 = some (.putfield k4, n4, cl, fi, 1, d4, e4))
    (hj : gK b1 a1 = nI w) (h1 : 1 ≤ rc) (h5 : w ≤ rs) (h4 : w ≤ 100000) (h0 : 0 < G.1) (hg : G.1 + N ≤ gRB) (hi : t.length + 1 = i) (hN : i + 1 ≤ N)
    (h : WP m (rc - 1) (rs - w) n4 [some (.ref G.1)] [] (ap G (.inl (cl, fs.set fi (.ref (G.1 + i))) :: (t ++ [zB w]))) Q) : WP m rc rs pc [some (.ref G.1)] [] (ap G (.inl (cl, fs) :: t)) Q := by
  subst hi
  refine wp_al (k := 0) hE0 rfl (wp_ic hE (wp_nb (w := w) hE2 hj h1 (ap_pos h0) (by show G.1 + (t.length + 1) < gRB; omega) h4 h5 ?_))
  rw [ap_push]
  exact wp_me (N := N) (fs := fs) hE4 hg (by omega) rfl rfl trivial h
theorem td_ari {a0 b0 c0 d0 e0 a1 b1 c1 d1 e1 a2 b2 c2 d2 e2 cl fi d4 e4 w : Nat} {k k4 : _}
    (hE0 : gLook (gTab m) pc = some (.aload_n 0, n0, a0, b0, c0, d0, e0)) (hE : gLook (gTab m) n0 = some (.bipush k, n1, a1, b1, c1, d1, e1)) (hE2 : gLook (gTab m) n1 = some (.newarray .int, n2, a2, b2, c2, d2, e2)) (hE4 : gLook (gTab m) n2 = some (.putfield k4, n4, cl, fi, 1, d4, e4))
    (hj : gK b1 a1 = nI w) (h1 : 1 ≤ rc) (h5 : w ≤ rs) (h4 : w ≤ 100000) (h0 : 0 < G.1) (hg : G.1 + N ≤ gRB) (hi : t.length + 1 = i) (hN : i + 1 ≤ N)
    (h : WP m (rc - 1) (rs - w) n4 [some (.ref G.1)] [] (ap G (.inl (cl, fs.set fi (.ref (G.1 + i))) :: (t ++ [zI w]))) Q) : WP m rc rs pc [some (.ref G.1)] [] (ap G (.inl (cl, fs) :: t)) Q := by
  subst hi
  refine wp_al (k := 0) hE0 rfl (wp_bp hE (wp_na (w := w) hE2 hj h1 (ap_pos h0) (by show G.1 + (t.length + 1) < gRB; omega) h4 h5 ?_))
  rw [ap_push]
  exact wp_me (N := N) (fs := fs) hE4 hg (by omega) rfl rfl trivial h
end
theorem len_add {t l : List GC} {i w j : Nat} (h : t.length + 1 = i) (hl : l.length = w) (hj : i + w = j) : (t ++ l).length + 1 = j := by rw [List.length_append]; omega
theorem mk_TD1 {G : GH} {Q : GQ} (h0 : 0 < G.1) (hg : G.1 + 248 ≤ gRB) {rc rs : Nat} (hc : 247 ≤ rc) (hs : 6722 ≤ rs) (h : WP M_TD_init (rc - 247) (rs - 6722) 135 [some (.ref G.1)] [] (ap G (lTD G.1)) Q) : WP M_TD_init rc rs 0 [some (.ref G.1)] [] (ap G [.inl (10, gBlk 10)]) Q := by
  refine wp_al (k := 0) rfl rfl (wp_obj rfl (by decide) ?_)
  refine wp_al (k := 0) rfl rfl (wp_mk rfl rfl rfl rfl mk_Rd (by omega) (by omega) h0 hg (Nat.le_of_ble_eq_true rfl) (Nat.le_of_ble_eq_true rfl) (Nat.le_of_ble_eq_true rfl) (wp_me rfl hg (by decide) rfl rfl trivial ?_))
  refine wp_al (k := 0) rfl rfl (wp_mk rfl rfl rfl rfl mk_St (by omega) (by omega) h0 hg (Nat.le_of_ble_eq_true rfl) (Nat.le_of_ble_eq_true rfl) (Nat.le_of_ble_eq_true rfl) (wp_me rfl hg (by decide) rfl rfl trivial ?_))
  refine wp_al (k := 0) rfl rfl (wp_mk rfl rfl rfl rfl mk_St (by omega) (by omega) h0 hg (Nat.le_of_ble_eq_true rfl) (Nat.le_of_ble_eq_true rfl) (Nat.le_of_ble_eq_true rfl) (wp_me rfl hg (by decide) rfl rfl trivial ?_))
  refine wp_al (k := 0) rfl rfl (wp_mk rfl rfl rfl rfl mk_Hi (by omega) (by omega) h0 hg (Nat.le_of_ble_eq_true rfl) (Nat.le_of_ble_eq_true rfl) (Nat.le_of_ble_eq_true rfl) (wp_me rfl hg (by decide) rfl rfl trivial ?_))
  obtain ⟨tl, htl⟩ : ∃ tl, tl = lRd (G.1 + 1) ++ lSt (G.1 + 26) ++ lSt (G.1 + 43) ++ lHi (G.1 + 60) := ⟨_, rfl⟩
  have hlen : tl.length = 197 := by
    rw [htl, List.length_append, lHi_len]
    rfl
  show WP M_TD_init (rc - 1 - 24 - 1 - 16 - 1 - 16 - 1 - 137) (rs - 14 - 1064 - 6 - 427 - 6 - 427 - 3 - 3472) 48 [some (.ref G.1)] [] (ap G (.inl (10, [.ref (G.1 + 1), .ref (G.1 + 26), .ref (G.1 + 43), .ref (G.1 + 60), .null, .null, .null, .null, .null, .null, .null, .int 0]) :: (lRd (G.1 + 1) ++ lSt (G.1 + 26) ++ lSt (G.1 + 43) ++ lHi (G.1 + 60)))) Q
  rw [← htl]
  refine wp_al (k := 0) rfl rfl (wp_ic rfl (wp_ana (w := 2) rfl rfl (by omega) (ap_pos h0) (by show G.1 + (tl.length + 1) < gRB; omega) (by decide) (by omega) ?_))
  rw [ap_push, gS_0 (G.1 + 199)]
  obtain ⟨A, hA⟩ : ∃ A : List GC, A = .inl (10, [.ref (G.1 + 1), .ref (G.1 + 26), .ref (G.1 + 43), .ref (G.1 + 60), .null, .null, .null, .null, .null, .null, .null, .int 0]) :: tl := ⟨_, rfl⟩
  have hAl : A.length = 198 := by rw [hA]; show tl.length + 1 = 198; omega
  show WP _ _ _ _ _ [.ref (G.1 + (tl.length + 1)), .ref G.1] (ap G ((.inl (10, [.ref (G.1 + 1), .ref (G.1 + 26), .ref (G.1 + 43), .ref (G.1 + 60), .null, .null, .null, .null, .null, .null, .null, .int 0]) :: tl) ++ [zS 2 (gS (G.1 + 199) 0)])) Q
  rw [hlen, ← hA]
  have l1 : (A ++ [zS 2 (gS (G.1 + 199) 0)]).length = 199 := by rw [List.length_append, hAl]; rfl
  refine wp_du rfl (wp_ic rfl (wp_mk (N := 248) rfl rfl rfl rfl mk_St (by omega) (by omega) h0 hg (by rw [l1]; exact Nat.le_of_ble_eq_true rfl) (Nat.le_of_ble_eq_true rfl) (Nat.le_of_ble_eq_true rfl) ?_))
  rw [l1]
  obtain ⟨fs1, t1, e1⟩ := lSt_c (G.1 + 199)
  have hz : (ap G (A ++ [zS 2 (gS (G.1 + 199) 0)] ++ lSt (G.1 + 199))).2 (G.1 + 199) = some (.inl (8, fs1)) := (ap_get G _ 199 (by rw [List.length_append, l1, e1]; exact Nat.lt_add_of_pos_right (Nat.succ_pos _))).trans (by rw [e1]; exact get_mid l1)
  rw [List.append_assoc] at hz ⊢
  refine wp_aas (w := 2) (f := gS (G.1 + 199) 0) rfl (by omega) (by omega) ((ap_get G _ 198 (by rw [List.length_append, hAl]; exact Nat.lt_add_of_pos_right (Nat.succ_pos _))).trans (get_mid hAl)) hz (by show ¬ (gK 0 0 < 0 ∨ 2 ≤ (gK 0 0).toNatClampNeg); decide) ?_
  rw [ap_upd G _ 198 _ (by rw [List.length_append, hAl]; exact Nat.lt_add_of_pos_right (Nat.succ_pos _))]
  show WP _ _ _ _ _ _ (ap G ((A ++ zS 2 (gS (G.1 + 199) 0) :: lSt (G.1 + 199)).set 198 _)) Q
  rw [set_mid hAl, show (gK 0 0).toNatClampNeg = 0 from rfl, show va_up (gS (G.1 + 199) 0) 0 (some (G.1 + 199)) = gS (G.1 + 199) 1 from gS_up (G.1 + 199) 0]
  have l2 : (A ++ zS 2 (gS (G.1 + 199) 1) :: lSt (G.1 + 199)).length = 216 := by rw [List.length_append, hAl]; rfl
  refine wp_du rfl (wp_ic rfl (wp_mk (N := 248) rfl rfl rfl rfl mk_St (by omega) (by omega) h0 hg (by rw [l2]; exact Nat.le_of_ble_eq_true rfl) (Nat.le_of_ble_eq_true rfl) (Nat.le_of_ble_eq_true rfl) ?_))
  rw [l2]
  obtain ⟨fs2, t2, e2⟩ := lSt_c (G.1 + 216)
  have hz2 : (ap G (A ++ zS 2 (gS (G.1 + 199) 1) :: lSt (G.1 + 199) ++ lSt (G.1 + 216))).2 (G.1 + 216) = some (.inl (8, fs2)) := (ap_get G _ 216 (by rw [List.length_append, l2, e2]; exact Nat.lt_add_of_pos_right (Nat.succ_pos _))).trans (by rw [e2]; exact get_mid l2)
  rw [List.append_assoc] at hz2 ⊢
  refine wp_aas (w := 2) (f := gS (G.1 + 199) 1) rfl (by omega) (by omega) ((ap_get G _ 198 (by rw [List.length_append, hAl]; exact Nat.lt_add_of_pos_right (Nat.succ_pos _))).trans (get_mid hAl)) hz2 (by show ¬ (gK 0 1 < 0 ∨ 2 ≤ (gK 0 1).toNatClampNeg); decide) ?_
  rw [ap_upd G _ 198 _ (by rw [List.length_append, hAl]; exact Nat.lt_add_of_pos_right (Nat.succ_pos _))]
  show WP _ _ _ _ _ _ (ap G ((A ++ zS 2 (gS (G.1 + 199) 1) :: (lSt (G.1 + 199) ++ lSt (G.1 + 216))).set 198 _)) Q
  rw [set_mid hAl, show (gK 0 1).toNatClampNeg = 1 from rfl, show va_up (gS (G.1 + 199) 1) 1 (some (G.1 + 216)) = gS (G.1 + 199) 2 from gS_up (G.1 + 199) 1]
  obtain ⟨t0, ht0⟩ : ∃ t0, t0 = tl ++ zS 2 (gS (G.1 + 199) 2) :: (lSt (G.1 + 199) ++ lSt (G.1 + 216)) := ⟨_, rfl⟩
  have hl0 : t0.length + 1 = 233 := by
    rw [ht0, List.length_append, hlen]
    rfl
  rw [hA]
  refine wp_me (l := .inl (10, [.ref (G.1 + 1), .ref (G.1 + 26), .ref (G.1 + 43), .ref (G.1 + 60), .null, .null, .null, .null, .null, .null, .null, .int 0]) :: (tl ++ zS 2 (gS (G.1 + 199) 2) :: (lSt (G.1 + 199) ++ lSt (G.1 + 216)))) rfl hg (by decide) rfl rfl trivial ?_
  show WP _ _ _ _ _ _ (ap G (.inl (10, [.ref (G.1 + 1), .ref (G.1 + 26), .ref (G.1 + 43), .ref (G.1 + 60), .ref (G.1 + 198), .null, .null, .null, .null, .null, .null, .int 0]) :: (tl ++ zS 2 (gS (G.1 + 199) 2) :: (lSt (G.1 + 199) ++ lSt (G.1 + 216))))) Q
  rw [← ht0]
  refine td_arr (w := 2) rfl rfl rfl rfl rfl (by omega) (by omega) (by decide) h0 hg hl0 (by decide) ?_
  have hl1 := len_add (l := [zB 2]) (j := 234) hl0 rfl rfl
  refine td_new rfl rfl rfl rfl rfl rfl mk_Fp (by omega) (by omega) h0 hg hl1 (w := 5) (fun _ => rfl) (by decide) ?_
  have hl2 := len_add (l := lFp (G.1 + 234)) (j := 240) hl1 rfl rfl
  refine td_new rfl rfl rfl rfl rfl rfl mk_Ch (by omega) (by omega) h0 hg hl2 (w := 0) (fun _ => rfl) (by decide) ?_
  have hl3 := len_add (l := lCh (G.1 + 240)) (j := 241) hl2 rfl rfl
  refine td_new rfl rfl rfl rfl rfl rfl mk_Cr (by omega) (by omega) h0 hg hl3 (w := 1) (fun _ => rfl) (by decide) ?_
  have hl4 := len_add (l := lCr (G.1 + 241)) (j := 243) hl3 rfl rfl
  refine td_new rfl rfl rfl rfl rfl rfl mk_Rg (by omega) (by omega) h0 hg hl4 (w := 3) (fun _ => rfl) (by decide) ?_
  have hl5 := len_add (l := lRg (G.1 + 243)) (j := 247) hl4 rfl rfl
  refine td_ari (w := 71) rfl rfl rfl rfl rfl (by omega) (by omega) (by decide) h0 hg hl5 (by decide) ?_
  refine WP.less (rc0 := rc - 247) (rs0 := rs - 6722) (ls0 := [some (.ref G.1)]) ?_ (by omega) (by omega) (gSub.rf _)
  rw [ht0, htl]
  exact h
