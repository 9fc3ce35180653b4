/-! ===== the history is made: a loop of eight ===== -/
section
variable {m rc rs pc n a b c d e : Nat} {ls : GL} {st : List Value} {G : GH} {Q : GQ} {x : Nat}
theorem wp_is {k : Fin 4} {v : Int32} (hE : gLook (gTab m) pc = some (.istore_n k, n, a, b, c, d, e)) (h : WP m rc rs n (gSt1 ls k (.int v)) st G Q) : WP m rc rs pc ls (.int v :: st) G Q := by
  refine WP.step ?_
  unfold gStep stepG
  rw [hE]
  exact h
theorem wp_il {k : Fin 4} {v : Int32} (hE : gLook (gTab m) pc = some (.iload_n k, n, a, b, c, d, e)) (hv : ls[(k : Nat)]? = some (some (.int v))) (h : WP m rc rs n ls (.int v :: st) G Q) : WP m rc rs pc ls st G Q := by
  refine WP.step ?_
  unfold gStep stepG
  rw [hE]
  show gLdI ls k _
  unfold gLdI
  rw [hv]
  exact h
theorem wp_ge1 {k : _} {v w : Int32} (hE : gLook (gTab m) pc = some (.if_icmp .ge k, n, a, b, c, d, e)) (hv : v < w) (h : WP m rc rs n ls st G Q) : WP m rc rs pc ls (.int w :: .int v :: st) G Q := by
  refine WP.step ?_
  unfold gStep stepG
  rw [hE]
  show (if v < w then _ else _)
  rw [if_pos hv]
  exact h
theorem wp_ge2 {k : _} {v w : Int32} (hE : gLook (gTab m) pc = some (.if_icmp .ge k, n, a, b, c, d, e)) (hv : ¬ v < w) (h : WP m rc rs a ls st G Q) : WP m rc rs pc ls (.int w :: .int v :: st) G Q := by
  refine WP.step ?_
  unfold gStep stepG
  rw [hE]
  show (if v < w then _ else _)
  rw [if_neg hv]
  exact h
theorem wp_gr {k : _} {fs : List Value} {y : Nat} (hE : gLook (gTab m) pc = some (.getfield k, n, a, b, 1, d, e)) (hf : G.2 x = some (.inl (a, fs))) (hy : fs[b]? = some (.ref y)) (h : WP m rc rs n ls (.ref y :: st) G Q) : WP m rc rs pc ls (.ref x :: st) G Q := by
  refine WP.step ?_
  unfold gStep stepG
  rw [hE]
  exact ⟨fs, y, hf, hy, h⟩
theorem wp_go {k : _} (hE : gLook (gTab m) pc = some (.goto k, n, a, b, c, d, e)) (h : WP m rc rs a ls st G Q) : WP m rc rs pc ls st G Q := by
  refine WP.step ?_
  unfold gStep stepG
  rw [hE]
  exact h
theorem wp_inc {k : _} {w : _} {v : Int32} (hE : gLook (gTab m) pc = some (.iinc k w, n, a, b, c, d, e)) (hv : ls[k]? = some (some (.int v))) (h : WP m rc rs n (gSt1 ls k (.int (gInc v b a))) st G Q) : WP m rc rs pc ls st G Q := by
  refine WP.step ?_
  unfold gStep stepG
  rw [hE]
  show gLdI ls _ _
  unfold gLdI
  rw [hv]
  exact h
def zS (n : Nat) (f : Nat → Option Nat) : GC := .inr (.object "TrunkDuel$State", n, .inr (.inr (.inr (.inr f))))
def gS (o k : Nat) : Nat → Option Nat := fun j => if j < k then some (o + 17 * j) else none
theorem gS_up (o k : Nat) : va_up (gS o k) k (some (o + 17 * k)) = gS o (k + 1) := by
  funext j
  unfold va_up gS
  by_cases h : j = k
  · rw [if_pos h, if_pos (by omega), h]
  · rw [if_neg h]
    by_cases h2 : j < k
    · rw [if_pos h2, if_pos (by omega)]
    · rw [if_neg h2, if_neg (by omega)]
theorem gS_0 (o : Nat) : (fun _ => none) = gS o 0 := by
  funext j
  unfold gS
  exact (if_neg (by omega)).symm
theorem wp_ana {k : _} {j : Int32} {w : Nat} (hE : gLook (gTab m) pc = some (.anewarray k, n, a, b, c, d, e)) (hj : j = nI w) (h1 : 1 ≤ rc) (h2 : 0 < G.1) (h3 : G.1 < gRB) (h4 : w ≤ 100000) (h5 : w ≤ rs) (h : WP m (rc - 1) (rs - w) n ls (.ref G.1 :: st) (gPush G (zS w fun _ => none)) Q) : WP m rc rs pc ls (.int j :: st) G Q := by
  refine WP.step ?_
  unfold gStep stepG
  rw [hE]
  exact ⟨h1, h2, h3, w, hj, h4, h5, h⟩
theorem wp_aas {j : Int32} {y w : Nat} {f : Nat → Option Nat} {fs : List Value} (hE : gLook (gTab m) pc = some (.aastore, n, a, b, c, d, e)) (hx : x < gRB) (hy : y < gRB) (hf : G.2 x = some (zS w f)) (hg : G.2 y = some (.inl (8, fs))) (hj : vp_in j w) (h : WP m rc rs n ls st (gU G x (zS w (va_up f j.toNatClampNeg (some y)))) Q) : WP m rc rs pc ls (.ref y :: .int j :: .ref x :: st) G Q := by
  refine WP.step ?_
  unfold gStep stepG
  rw [hE]
  exact ⟨hx, hy, w, f, fs, hf, hg, hj, h⟩
end
/-- k States behind each other from o -/
def sts (o : Nat) : Nat → List GC
  | 0 => []
  | k + 1 => sts o k ++ lSt (o + 17 * k)
theorem sts_len (o : Nat) : ∀ k, (sts o k).length = 17 * k
  | 0 => rfl
  | k + 1 => by
    show (sts o k ++ lSt (o + 17 * k)).length = _
    rw [List.length_append, sts_len o k]
    show 17 * k + 17 = _
    omega
def lHk (o k : Nat) : List GC := [.inl (3, [.int 0, .int 0, .ref (o + 1)]), zS 8 (gS (o + 2) k)] ++ sts (o + 2) k
def lHi (o : Nat) : List GC := lHk o 8
theorem k8 : ∀ k : Fin 8, nI k.val < nI 8 ∧ (¬ (nI k.val < 0 ∨ 8 ≤ (nI k.val).toNatClampNeg)) ∧ (nI k.val).toNatClampNeg = k.val ∧ gInc (nI k.val) 0 1 = nI (k.val + 1) := by decide
theorem lHk_len (o k : Nat) : (lHk o k).length = 2 + 17 * k := by
  unfold lHk
  rw [List.length_append, sts_len]
  rfl
theorem mk_Hi : MkC M_Hi_init 3 137 3472 lHi := by
  intro G h0 h1
  have hg : G.1 + 138 ≤ gRB := by
    have := h1
    unfold lHi at this
    rw [lHk_len] at this
    exact this
  have it : ∀ (d k rc rs : Nat), k + d = 8 → 17 * d ≤ rc → 433 * d ≤ rs → WP M_Hi_init rc rs 25 [some (.ref G.1), some (.int (nI k))] [] (ap G (lHk G.1 k)) (gQv (fun G2 => G2 = ap G (lHi G.1)) gNo) := by
    intro d
    induction d with
    | zero =>
      intro k rc rs hk _ _
      have : k = 8 := by omega
      subst this
      refine wp_il (k := 1) rfl rfl (wp_bp rfl (wp_ge2 rfl (by decide) (wp_ret rfl rfl)))
    | succ d ih =>
      intro k rc rs hk hc hs
      obtain ⟨q1, q2, q3, q4⟩ := k8 ⟨k, by omega⟩
      have hlen := lHk_len G.1 k
      refine wp_il (k := 1) rfl rfl (wp_bp rfl (wp_ge1 rfl q1 ?_))
      refine wp_al (k := 0) rfl rfl (wp_gr (y := G.1 + 1) (fs := [.int 0, .int 0, .ref (G.1 + 1)]) rfl ?_ rfl ?_)
      · exact (ap_get G (lHk G.1 k) 0 (by omega)).trans rfl
      refine wp_il (k := 1) rfl rfl ?_
      refine wp_mk (G := G) (N := 138) rfl rfl rfl rfl mk_St (by omega) (by omega) h0 hg (by rw [hlen]; show 2 + 17 * k + 17 ≤ 138; omega) (by show 0 < 17; decide) (Nat.le_of_ble_eq_true rfl) ?_
      rw [hlen]
      refine wp_aas (w := 8) (f := gS (G.1 + 2) k) (fs := [.ref (G.1 + (2 + 17 * k) + 1), .ref (G.1 + (2 + 17 * k) + 4), .ref (G.1 + (2 + 17 * k) + 11), .ref (G.1 + (2 + 17 * k) + 14), .int 0, .int 0]) rfl (by omega) (by omega) ?_ ?_ q2 ?_
      · refine (ap_get G _ 1 (by rw [List.length_append, hlen]; omega)).trans ?_
        rw [List.getElem?_append_left (by omega)]
        rfl
      · refine (ap_get G _ (2 + 17 * k) (by rw [List.length_append, hlen]; show 2 + 17 * k < 2 + 17 * k + 17; omega)).trans ?_
        rw [List.getElem?_append_right (by omega), hlen, show 2 + 17 * k - (2 + 17 * k) = 0 by omega]
        rfl
      · rw [q3, ap_upd G _ 1 _ (by rw [List.length_append, hlen]; omega)]
        refine wp_inc (v := nI k) rfl rfl (wp_go rfl ?_)
        rw [q4, show G.1 + (2 + 17 * k) = G.1 + 2 + 17 * k by omega, gS_up]
        exact ih (k + 1) _ _ (by omega) (by omega) (by omega)
  refine wp_al (k := 0) rfl rfl (wp_obj rfl (by decide) ?_)
  refine wp_al (k := 0) rfl rfl (wp_ic rfl (wp_me rfl hg (by decide) rfl rfl trivial ?_))
  refine wp_al (k := 0) rfl rfl (wp_ic rfl (wp_me rfl hg (by decide) rfl rfl trivial ?_))
  refine wp_al (k := 0) rfl rfl (wp_bp rfl (wp_ana (w := 8) rfl rfl (by decide) (ap_pos h0) (ap_lt hg rfl) (by decide) (by decide) ?_))
  rw [ap_push]
  refine wp_me rfl hg (by decide) rfl rfl trivial (wp_ic rfl (wp_is (k := 1) rfl ?_))
  have := it 8 0 136 3464 rfl (by decide) (by decide)
  unfold lHk at this
  rw [← gS_0] at this
  exact this
