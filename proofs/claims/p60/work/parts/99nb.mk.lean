/-! ===== the constructors without loops, by wip/p60/gen_new.py ===== -/
def lPl (o : Nat) : List GC := .inl (5, [.int 0, .int 0, .int 0, .ref (o + 1), .ref (o + 2)]) :: ([zI 6] ++ [zI 5])
theorem mk_Pl : MkC M_Pl_init 5 2 11 lPl := by
  intro G h0 h1
  have hg : G.1 + 3 ≤ gRB := h1
  refine wp_al (k := 0) rfl rfl (wp_obj rfl (by decide) ?_)
  refine wp_al (k := 0) rfl rfl (wp_ic rfl (wp_me rfl hg (by decide) rfl rfl trivial ?_))
  refine wp_al (k := 0) rfl rfl (wp_ic rfl (wp_me rfl hg (by decide) rfl rfl trivial ?_))
  refine wp_al (k := 0) rfl rfl (wp_ic rfl (wp_me rfl hg (by decide) rfl rfl trivial ?_))
  refine wp_al (k := 0) rfl rfl (wp_bp rfl (wp_nai (w := 6) rfl rfl (by decide) h0 hg rfl (by decide) (by decide) (wp_me rfl hg (by decide) rfl rfl trivial ?_)))
  refine wp_al (k := 0) rfl rfl (wp_ic rfl (wp_nai (w := 5) rfl rfl (by decide) h0 hg rfl (by decide) (by decide) (wp_me rfl hg (by decide) rfl rfl trivial ?_)))
  exact wp_ret rfl rfl
def lPi (o : Nat) : List GC := .inl (4, [.int 0, .ref (o + 1), .ref (o + 2), .ref (o + 3), .ref (o + 4), .ref (o + 5), .ref (o + 6)]) :: ([zI 32] ++ [zI 32] ++ [zI 32] ++ [zI 32] ++ [zI 32] ++ [zI 32])
theorem mk_Pi : MkC M_Pi_init 4 6 192 lPi := by
  intro G h0 h1
  have hg : G.1 + 7 ≤ gRB := h1
  refine wp_al (k := 0) rfl rfl (wp_obj rfl (by decide) ?_)
  refine wp_al (k := 0) rfl rfl (wp_ic rfl (wp_me rfl hg (by decide) rfl rfl trivial ?_))
  refine wp_al (k := 0) rfl rfl (wp_bp rfl (wp_nai (w := 32) rfl rfl (by decide) h0 hg rfl (by decide) (by decide) (wp_me rfl hg (by decide) rfl rfl trivial ?_)))
  refine wp_al (k := 0) rfl rfl (wp_bp rfl (wp_nai (w := 32) rfl rfl (by decide) h0 hg rfl (by decide) (by decide) (wp_me rfl hg (by decide) rfl rfl trivial ?_)))
  refine wp_al (k := 0) rfl rfl (wp_bp rfl (wp_nai (w := 32) rfl rfl (by decide) h0 hg rfl (by decide) (by decide) (wp_me rfl hg (by decide) rfl rfl trivial ?_)))
  refine wp_al (k := 0) rfl rfl (wp_bp rfl (wp_nai (w := 32) rfl rfl (by decide) h0 hg rfl (by decide) (by decide) (wp_me rfl hg (by decide) rfl rfl trivial ?_)))
  refine wp_al (k := 0) rfl rfl (wp_bp rfl (wp_nai (w := 32) rfl rfl (by decide) h0 hg rfl (by decide) (by decide) (wp_me rfl hg (by decide) rfl rfl trivial ?_)))
  refine wp_al (k := 0) rfl rfl (wp_bp rfl (wp_nai (w := 32) rfl rfl (by decide) h0 hg rfl (by decide) (by decide) (wp_me rfl hg (by decide) rfl rfl trivial ?_)))
  exact wp_ret rfl rfl
def lFp (o : Nat) : List GC := .inl (2, [.int 0, .int 0, .int 0, .int 0, .int 0, .int 0, .ref (o + 1), .ref (o + 2), .ref (o + 3), .ref (o + 4), .ref (o + 5)]) :: ([zI 4] ++ [zI 4] ++ [zI 4] ++ [zI 4] ++ [zI 4])
theorem mk_Fp : MkC M_Fp_init 2 5 20 lFp := by
  intro G h0 h1
  have hg : G.1 + 6 ≤ gRB := h1
  refine wp_al (k := 0) rfl rfl (wp_obj rfl (by decide) ?_)
  refine wp_al (k := 0) rfl rfl (wp_ic rfl (wp_me rfl hg (by decide) rfl rfl trivial ?_))
  refine wp_al (k := 0) rfl rfl (wp_ic rfl (wp_me rfl hg (by decide) rfl rfl trivial ?_))
  refine wp_al (k := 0) rfl rfl (wp_ic rfl (wp_me rfl hg (by decide) rfl rfl trivial ?_))
  refine wp_al (k := 0) rfl rfl (wp_ic rfl (wp_me rfl hg (by decide) rfl rfl trivial ?_))
  refine wp_al (k := 0) rfl rfl (wp_ic rfl (wp_me rfl hg (by decide) rfl rfl trivial ?_))
  refine wp_al (k := 0) rfl rfl (wp_ic rfl (wp_me rfl hg (by decide) rfl rfl trivial ?_))
  refine wp_al (k := 0) rfl rfl (wp_ic rfl (wp_nai (w := 4) rfl rfl (by decide) h0 hg rfl (by decide) (by decide) (wp_me rfl hg (by decide) rfl rfl trivial ?_)))
  refine wp_al (k := 0) rfl rfl (wp_ic rfl (wp_nai (w := 4) rfl rfl (by decide) h0 hg rfl (by decide) (by decide) (wp_me rfl hg (by decide) rfl rfl trivial ?_)))
  refine wp_al (k := 0) rfl rfl (wp_ic rfl (wp_nai (w := 4) rfl rfl (by decide) h0 hg rfl (by decide) (by decide) (wp_me rfl hg (by decide) rfl rfl trivial ?_)))
  refine wp_al (k := 0) rfl rfl (wp_ic rfl (wp_nai (w := 4) rfl rfl (by decide) h0 hg rfl (by decide) (by decide) (wp_me rfl hg (by decide) rfl rfl trivial ?_)))
  refine wp_al (k := 0) rfl rfl (wp_ic rfl (wp_nai (w := 4) rfl rfl (by decide) h0 hg rfl (by decide) (by decide) (wp_me rfl hg (by decide) rfl rfl trivial ?_)))
  exact wp_ret rfl rfl
def lCh (_ : Nat) : List GC := .inl (0, [.int (-1), .int (-1), .int (-1), .int (-1), .int (-1)]) :: ([])
theorem mk_Ch : MkC M_Ch_init 0 0 0 lCh := by
  intro G h0 h1
  have hg : G.1 + 1 ≤ gRB := h1
  refine wp_al (k := 0) rfl rfl (wp_obj rfl (by decide) ?_)
  refine wp_al (k := 0) rfl rfl (wp_ic rfl (wp_me rfl hg (by decide) rfl rfl trivial ?_))
  refine wp_al (k := 0) rfl rfl (wp_ic rfl (wp_me rfl hg (by decide) rfl rfl trivial ?_))
  refine wp_al (k := 0) rfl rfl (wp_ic rfl (wp_me rfl hg (by decide) rfl rfl trivial ?_))
  refine wp_al (k := 0) rfl rfl (wp_ic rfl (wp_me rfl hg (by decide) rfl rfl trivial ?_))
  refine wp_al (k := 0) rfl rfl (wp_ic rfl (wp_me rfl hg (by decide) rfl rfl trivial ?_))
  exact wp_ret rfl rfl
def lCr (o : Nat) : List GC := .inl (1, [.ref (o + 1)]) :: ([zI 128])
theorem mk_Cr : MkC M_Cr_init 1 1 128 lCr := by
  intro G h0 h1
  have hg : G.1 + 2 ≤ gRB := h1
  refine wp_al (k := 0) rfl rfl (wp_obj rfl (by decide) ?_)
  refine wp_al (k := 0) rfl rfl (wp_sp rfl (wp_nai (w := 128) rfl rfl (by decide) h0 hg rfl (by decide) (by decide) (wp_me rfl hg (by decide) rfl rfl trivial ?_)))
  exact wp_ret rfl rfl
def lRg (o : Nat) : List GC := .inl (7, [.int 0, .ref (o + 1), .ref (o + 2), .ref (o + 3), .int 0]) :: ([zI 64] ++ [zI 64] ++ [zI 64])
theorem mk_Rg : MkC M_Rg_init 7 3 192 lRg := by
  intro G h0 h1
  have hg : G.1 + 4 ≤ gRB := h1
  refine wp_al (k := 0) rfl rfl (wp_obj rfl (by decide) ?_)
  refine wp_al (k := 0) rfl rfl (wp_ic rfl (wp_me rfl hg (by decide) rfl rfl trivial ?_))
  refine wp_al (k := 0) rfl rfl (wp_bp rfl (wp_nai (w := 64) rfl rfl (by decide) h0 hg rfl (by decide) (by decide) (wp_me rfl hg (by decide) rfl rfl trivial ?_)))
  refine wp_al (k := 0) rfl rfl (wp_bp rfl (wp_nai (w := 64) rfl rfl (by decide) h0 hg rfl (by decide) (by decide) (wp_me rfl hg (by decide) rfl rfl trivial ?_)))
  refine wp_al (k := 0) rfl rfl (wp_bp rfl (wp_nai (w := 64) rfl rfl (by decide) h0 hg rfl (by decide) (by decide) (wp_me rfl hg (by decide) rfl rfl trivial ?_)))
  refine wp_al (k := 0) rfl rfl (wp_ic rfl (wp_me rfl hg (by decide) rfl rfl trivial ?_))
  exact wp_ret rfl rfl
def lSt (o : Nat) : List GC := .inl (8, [.ref (o + 1), .ref (o + 4), .ref (o + 11), .ref (o + 14), .int 0, .int 0]) :: (lTk (o + 1) ++ lPi (o + 4) ++ lPl (o + 11) ++ lPl (o + 14))
theorem mk_St : MkC M_St_init 8 16 427 lSt := by
  intro G h0 h1
  have hg : G.1 + 17 ≤ gRB := h1
  refine wp_al (k := 0) rfl rfl (wp_obj rfl (by decide) ?_)
  refine wp_al (k := 0) rfl rfl (wp_mk rfl rfl rfl rfl mk_Tk (by decide) (by decide) h0 hg (Nat.le_of_ble_eq_true rfl) (Nat.le_of_ble_eq_true rfl) (Nat.le_of_ble_eq_true rfl) (wp_me rfl hg (by decide) rfl rfl trivial ?_))
  refine wp_al (k := 0) rfl rfl (wp_mk rfl rfl rfl rfl mk_Pi (by decide) (by decide) h0 hg (Nat.le_of_ble_eq_true rfl) (Nat.le_of_ble_eq_true rfl) (Nat.le_of_ble_eq_true rfl) (wp_me rfl hg (by decide) rfl rfl trivial ?_))
  refine wp_al (k := 0) rfl rfl (wp_mk rfl rfl rfl rfl mk_Pl (by decide) (by decide) h0 hg (Nat.le_of_ble_eq_true rfl) (Nat.le_of_ble_eq_true rfl) (Nat.le_of_ble_eq_true rfl) (wp_me rfl hg (by decide) rfl rfl trivial ?_))
  refine wp_al (k := 0) rfl rfl (wp_mk rfl rfl rfl rfl mk_Pl (by decide) (by decide) h0 hg (Nat.le_of_ble_eq_true rfl) (Nat.le_of_ble_eq_true rfl) (Nat.le_of_ble_eq_true rfl) (wp_me rfl hg (by decide) rfl rfl trivial ?_))
  refine wp_al (k := 0) rfl rfl (wp_ic rfl (wp_me rfl hg (by decide) rfl rfl trivial ?_))
  refine wp_al (k := 0) rfl rfl (wp_ic rfl (wp_me rfl hg (by decide) rfl rfl trivial ?_))
  exact wp_ret rfl rfl
def lRd (o : Nat) : List GC := .inl (6, [.int 0, .int 0, .int (-1), .int 0, .ref (o + 1), .ref (o + 18), .ref (o + 24), .int 0, .int 0, .int 0, .int 0, .int 0, .int 0, .int 0]) :: (lSt (o + 1) ++ lFp (o + 18) ++ [zI 600])
theorem mk_Rd : MkC M_Rd_init 6 24 1064 lRd := by
  intro G h0 h1
  have hg : G.1 + 25 ≤ gRB := h1
  refine wp_al (k := 0) rfl rfl (wp_obj rfl (by decide) ?_)
  refine wp_al (k := 0) rfl rfl (wp_ic rfl (wp_me rfl hg (by decide) rfl rfl trivial ?_))
  refine wp_al (k := 0) rfl rfl (wp_ic rfl (wp_me rfl hg (by decide) rfl rfl trivial ?_))
  refine wp_al (k := 0) rfl rfl (wp_ic rfl (wp_me rfl hg (by decide) rfl rfl trivial ?_))
  refine wp_al (k := 0) rfl rfl (wp_ic rfl (wp_me rfl hg (by decide) rfl rfl trivial ?_))
  refine wp_al (k := 0) rfl rfl (wp_mk rfl rfl rfl rfl mk_St (by decide) (by decide) h0 hg (Nat.le_of_ble_eq_true rfl) (Nat.le_of_ble_eq_true rfl) (Nat.le_of_ble_eq_true rfl) (wp_me rfl hg (by decide) rfl rfl trivial ?_))
  refine wp_al (k := 0) rfl rfl (wp_mk rfl rfl rfl rfl mk_Fp (by decide) (by decide) h0 hg (Nat.le_of_ble_eq_true rfl) (Nat.le_of_ble_eq_true rfl) (Nat.le_of_ble_eq_true rfl) (wp_me rfl hg (by decide) rfl rfl trivial ?_))
  refine wp_al (k := 0) rfl rfl (wp_sp rfl (wp_nai (w := 600) rfl rfl (by decide) h0 hg rfl (by decide) (by decide) (wp_me rfl hg (by decide) rfl rfl trivial ?_)))
  refine wp_al (k := 0) rfl rfl (wp_ic rfl (wp_me rfl hg (by decide) rfl rfl trivial ?_))
  refine wp_al (k := 0) rfl rfl (wp_ic rfl (wp_me rfl hg (by decide) rfl rfl trivial ?_))
  refine wp_al (k := 0) rfl rfl (wp_ic rfl (wp_me rfl hg (by decide) rfl rfl trivial ?_))
  refine wp_al (k := 0) rfl rfl (wp_ic rfl (wp_me rfl hg (by decide) rfl rfl trivial ?_))
  refine wp_al (k := 0) rfl rfl (wp_ic rfl (wp_me rfl hg (by decide) rfl rfl trivial ?_))
  refine wp_al (k := 0) rfl rfl (wp_ic rfl (wp_me rfl hg (by decide) rfl rfl trivial ?_))
  refine wp_al (k := 0) rfl rfl (wp_ic rfl (wp_me rfl hg (by decide) rfl rfl trivial ?_))
  exact wp_ret rfl rfl
