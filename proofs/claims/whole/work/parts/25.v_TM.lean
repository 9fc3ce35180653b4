def V_TM_init_0 (t : Nat) (G : GH) (Q : GQ) : Prop :=
  1 ≤ 11 ∧ 0 < G.1 ∧ G.1 < gRB ∧ ∃ (m1 : Nat), (nI 417) = nI m1 ∧ m1 ≤ 100000 ∧ m1 ≤ 6195 ∧
  let G2 : GH := gPush G (.inr (.int, m1, .inl fun _ => 0));
  t < gRB ∧ ∃ (fs3 : List Value), G2.2 t = some (.inl (11, fs3)) ∧ gFit 1 (.ref G.1) ∧
  let G4 : GH := gU G2 t (.inl (11, fs3.set 0 (.ref G.1)));
  1 ≤ (11 - 1) ∧ 0 < G4.1 ∧ G4.1 < gRB ∧ ∃ (m5 : Nat), (nI 417) = nI m5 ∧ m5 ≤ 100000 ∧ m5 ≤ (6195 - m1) ∧
  let G6 : GH := gPush G4 (.inr (.int, m5, .inl fun _ => 0));
  t < gRB ∧ ∃ (fs7 : List Value), G6.2 t = some (.inl (11, fs7)) ∧ gFit 1 (.ref G4.1) ∧
  let G8 : GH := gU G6 t (.inl (11, fs7.set 1 (.ref G4.1)));
  1 ≤ ((11 - 1) - 1) ∧ 0 < G8.1 ∧ G8.1 < gRB ∧ ∃ (m9 : Nat), (nI 3336) = nI m9 ∧ m9 ≤ 100000 ∧ m9 ≤ ((6195 - m1) - m5) ∧
  let G10 : GH := gPush G8 (.inr (.int, m9, .inl fun _ => 0));
  t < gRB ∧ ∃ (fs11 : List Value), G10.2 t = some (.inl (11, fs11)) ∧ gFit 1 (.ref G8.1) ∧
  let G12 : GH := gU G10 t (.inl (11, fs11.set 2 (.ref G8.1)));
  WP M_TM_init (((11 - 1) - 1) - 1) (((6195 - m1) - m5) - m9) 31 [some (.ref t)] [] G12 Q
set_option maxRecDepth 100000 in
theorem V_TM_init_0_ok {t : Nat} {G : GH} {Q : GQ} (h : V_TM_init_0 t G Q) : WP M_TM_init 11 6195 0 [some (.ref t)] [] G Q := WP.ofV (T := T_TM_init) (hh := []) rfl rfl [(31, [true]), (56, [true]), (80, [true]), (100, [true])] 58 h
theorem E_TM_init {t : Nat} {G : GH} {K : GH → Prop} {KX : String → GH → Prop} (h : V_TM_init_0 t G (gQv K KX)) : CV M_TM_init [.ref t] G K KX := CV.of rfl rfl rfl (V_TM_init_0_ok h)
def V_TM_init_31 (rc rs : Nat) (t : Nat) (G : GH) (Q : GQ) : Prop :=
  1 ≤ rc ∧ 0 < G.1 ∧ G.1 < gRB ∧ ∃ (m1 : Nat), (nI 834) = nI m1 ∧ m1 ≤ 100000 ∧ m1 ≤ rs ∧
  let G2 : GH := gPush G (.inr (.int, m1, .inl fun _ => 0));
  t < gRB ∧ ∃ (fs3 : List Value), G2.2 t = some (.inl (11, fs3)) ∧ gFit 1 (.ref G.1) ∧
  let G4 : GH := gU G2 t (.inl (11, fs3.set 3 (.ref G.1)));
  1 ≤ (rc - 1) ∧ 0 < G4.1 ∧ G4.1 < gRB ∧ ∃ (m5 : Nat), (nI 417) = nI m5 ∧ m5 ≤ 100000 ∧ m5 ≤ (rs - m1) ∧
  let G6 : GH := gPush G4 (.inr (.int, m5, .inl fun _ => 0));
  t < gRB ∧ ∃ (fs7 : List Value), G6.2 t = some (.inl (11, fs7)) ∧ gFit 1 (.ref G4.1) ∧
  let G8 : GH := gU G6 t (.inl (11, fs7.set 4 (.ref G4.1)));
  1 ≤ ((rc - 1) - 1) ∧ 0 < G8.1 ∧ G8.1 < gRB ∧ ∃ (m9 : Nat), (nI 2) = nI m9 ∧ m9 ≤ 100000 ∧ m9 ≤ ((rs - m1) - m5) ∧
  let G10 : GH := gPush G8 (.inr (.boolean, m9, .inl fun _ => 0));
  t < gRB ∧ ∃ (fs11 : List Value), G10.2 t = some (.inl (11, fs11)) ∧ gFit 1 (.ref G8.1) ∧
  let G12 : GH := gU G10 t (.inl (11, fs11.set 5 (.ref G8.1)));
  WP M_TM_init (((rc - 1) - 1) - 1) (((rs - m1) - m5) - m9) 56 [some (.ref t)] [] G12 Q
set_option maxRecDepth 100000 in
theorem V_TM_init_31_ok {rc rs : Nat} {t : Nat} {G : GH} {Q : GQ} (h : V_TM_init_31 rc rs t G Q) : WP M_TM_init rc rs 31 [some (.ref t)] [] G Q := WP.ofV (T := T_TM_init) (hh := []) rfl rfl [(31, [true]), (56, [true]), (80, [true]), (100, [true])] 58 h
def V_TM_init_56 (rc rs : Nat) (t : Nat) (G : GH) (Q : GQ) : Prop :=
  1 ≤ rc ∧ 0 < G.1 ∧ G.1 < gRB ∧ ∃ (m1 : Nat), (nI 600) = nI m1 ∧ m1 ≤ 100000 ∧ m1 ≤ rs ∧
  let G2 : GH := gPush G (.inr (.int, m1, .inl fun _ => 0));
  t < gRB ∧ ∃ (fs3 : List Value), G2.2 t = some (.inl (11, fs3)) ∧ gFit 1 (.ref G.1) ∧
  let G4 : GH := gU G2 t (.inl (11, fs3.set 8 (.ref G.1)));
  1 ≤ (rc - 1) ∧ 0 < G4.1 ∧ G4.1 < gRB ∧ ∃ (m5 : Nat), (nI 100) = nI m5 ∧ m5 ≤ 100000 ∧ m5 ≤ (rs - m1) ∧
  let G6 : GH := gPush G4 (.inr (.int, m5, .inl fun _ => 0));
  t < gRB ∧ ∃ (fs7 : List Value), G6.2 t = some (.inl (11, fs7)) ∧ gFit 1 (.ref G4.1) ∧
  let G8 : GH := gU G6 t (.inl (11, fs7.set 9 (.ref G4.1)));
  1 ≤ ((rc - 1) - 1) ∧ 0 < G8.1 ∧ G8.1 < gRB ∧ ∃ (m9 : Nat), (nI 4) = nI m9 ∧ m9 ≤ 100000 ∧ m9 ≤ ((rs - m1) - m5) ∧
  let G10 : GH := gPush G8 (.inr (.int, m9, .inl fun _ => 0));
  t < gRB ∧ ∃ (fs11 : List Value), G10.2 t = some (.inl (11, fs11)) ∧ gFit 1 (.ref G8.1) ∧
  let G12 : GH := gU G10 t (.inl (11, fs11.set 10 (.ref G8.1)));
  WP M_TM_init (((rc - 1) - 1) - 1) (((rs - m1) - m5) - m9) 80 [some (.ref t)] [] G12 Q
set_option maxRecDepth 100000 in
theorem V_TM_init_56_ok {rc rs : Nat} {t : Nat} {G : GH} {Q : GQ} (h : V_TM_init_56 rc rs t G Q) : WP M_TM_init rc rs 56 [some (.ref t)] [] G Q := WP.ofV (T := T_TM_init) (hh := []) rfl rfl [(31, [true]), (56, [true]), (80, [true]), (100, [true])] 58 h
def V_TM_init_80 (rc rs : Nat) (t : Nat) (G : GH) (Q : GQ) : Prop :=
  1 ≤ rc ∧ 0 < G.1 ∧ G.1 < gRB ∧ ∃ (m1 : Nat), (nI 4) = nI m1 ∧ m1 ≤ 100000 ∧ m1 ≤ rs ∧
  let G2 : GH := gPush G (.inr (.int, m1, .inl fun _ => 0));
  t < gRB ∧ ∃ (fs3 : List Value), G2.2 t = some (.inl (11, fs3)) ∧ gFit 1 (.ref G.1) ∧
  let G4 : GH := gU G2 t (.inl (11, fs3.set 11 (.ref G.1)));
  1 ≤ (rc - 1) ∧ 0 < G4.1 ∧ G4.1 < gRB ∧ ∃ (m5 : Nat), (nI 64) = nI m5 ∧ m5 ≤ 100000 ∧ m5 ≤ (rs - m1) ∧
  let G6 : GH := gPush G4 (.inr (.int, m5, .inl fun _ => 0));
  t < gRB ∧ ∃ (fs7 : List Value), G6.2 t = some (.inl (11, fs7)) ∧ gFit 1 (.ref G4.1) ∧
  let G8 : GH := gU G6 t (.inl (11, fs7.set 12 (.ref G4.1)));
  t < gRB ∧ ∃ (fs9 : List Value), G8.2 t = some (.inl (11, fs9)) ∧ gFit 0 (.int (-nI 1)) ∧
  let G10 : GH := gU G8 t (.inl (11, fs9.set 16 (.int (-nI 1))));
  WP M_TM_init ((rc - 1) - 1) ((rs - m1) - m5) 100 [some (.ref t)] [] G10 Q
set_option maxRecDepth 100000 in
theorem V_TM_init_80_ok {rc rs : Nat} {t : Nat} {G : GH} {Q : GQ} (h : V_TM_init_80 rc rs t G Q) : WP M_TM_init rc rs 80 [some (.ref t)] [] G Q := WP.ofV (T := T_TM_init) (hh := []) rfl rfl [(31, [true]), (56, [true]), (80, [true]), (100, [true])] 58 h
def V_TM_init_100 (rc rs : Nat) (t : Nat) (G : GH) (Q : GQ) : Prop :=
  CV M_TM_lays [.ref t, .ref 100016] G (fun (G1 : GH) =>
    Q.2.1 G1) gNo
set_option maxRecDepth 100000 in
theorem V_TM_init_100_ok {rc rs : Nat} {t : Nat} {G : GH} {Q : GQ} (h : V_TM_init_100 rc rs t G Q) : WP M_TM_init rc rs 100 [some (.ref t)] [] G Q := WP.ofV (T := T_TM_init) (hh := []) rfl rfl [(31, [true]), (56, [true]), (80, [true]), (100, [true])] 58 h
def V_TM_lays_0 (t : Nat) (p1 : Nat) (G : GH) (Q : GQ) : Prop :=
  ∃ (tx1 : List Nat), gStr p1 = some tx1 ∧
  t < gRB ∧ ∃ (fs2 : List Value), G.2 t = some (.inl (11, fs2)) ∧ gFit 0 (.int (nI tx1.length)) ∧
  let G3 : GH := gU G t (.inl (11, fs2.set 13 (.int (nI tx1.length))));
  WP M_TM_lays 0 0 10 [some (.ref t), some (.ref p1), some (.int (nI 0))] [] G3 Q
set_option maxRecDepth 100000 in
theorem V_TM_lays_0_ok {t : Nat} {p1 : Nat} {G : GH} {Q : GQ} (h : V_TM_lays_0 t p1 G Q) : WP M_TM_lays 0 0 0 [some (.ref t), some (.ref p1), none] [] G Q := WP.ofV (T := T_TM_lays) (hh := []) rfl rfl [(10, [true, true, true])] 31 h
theorem E_TM_lays {t : Nat} {p1 : Nat} {G : GH} {K : GH → Prop} {KX : String → GH → Prop} (h : V_TM_lays_0 t p1 G (gQv K KX)) : CV M_TM_lays [.ref t, .ref p1] G K KX := CV.of rfl rfl rfl (V_TM_lays_0_ok h)
def V_TM_lays_10 (t : Nat) (p1 : Nat) (a2 : Int32) (G : GH) (Q : GQ) : Prop :=
  ∃ (fs1 : List Value) (x2 : Int32), G.2 t = some (.inl (11, fs1)) ∧ fs1[13]? = some (.int x2) ∧
  if a2 < x2 then
    ∃ (fs3 : List Value) (r4 : Nat), G.2 t = some (.inl (11, fs3)) ∧ fs3[8]? = some (.ref r4) ∧
    ∃ (tx5 : List Nat) (k6 ch7 : Nat), gStr p1 = some tx5 ∧ a2 = nI k6 ∧ tx5[k6]? = some ch7 ∧
    r4 < gRB ∧ ∃ (m8 : Nat) (f9 : Nat → Int32), G.2 r4 = some (.inr (.int, m8, .inl f9)) ∧ vp_in a2 m8 ∧
    let G10 : GH := gU G r4 (.inr (.int, m8, .inl (upd f9 (a2).toNatClampNeg (nI ch7))));
    WP M_TM_lays 0 0 10 [some (.ref t), some (.ref p1), some (.int (a2 + nI 1))] [] G10 Q
  else
    CI M_TM_load [.ref t] G (fun (x12 : Int32) (G11 : GH) =>
      t < gRB ∧ ∃ (fs13 : List Value), G11.2 t = some (.inl (11, fs13)) ∧ gFit 0 (.int (nI 0)) ∧
      let G14 : GH := gU G11 t (.inl (11, fs13.set 6 (.int (nI 0))));
      Q.2.1 G14) gNo
set_option maxRecDepth 100000 in
theorem V_TM_lays_10_ok {t : Nat} {p1 : Nat} {a2 : Int32} {G : GH} {Q : GQ} (h : V_TM_lays_10 t p1 a2 G Q) : WP M_TM_lays 0 0 10 [some (.ref t), some (.ref p1), some (.int a2)] [] G Q := WP.ofV (T := T_TM_lays) (hh := []) rfl rfl [(10, [true, true, true])] 31 h
def V_TM_thrown_0 (t : Nat) (G : GH) (Q : GQ) : Prop :=
  ∃ (fs1 : List Value) (x2 : Int32), G.2 t = some (.inl (11, fs1)) ∧ fs1[7]? = some (.int x2) ∧
  Q.1 x2 G
set_option maxRecDepth 100000 in
theorem V_TM_thrown_0_ok {t : Nat} {G : GH} {Q : GQ} (h : V_TM_thrown_0 t G Q) : WP M_TM_thrown 0 0 0 [some (.ref t)] [] G Q := WP.ofV (T := T_TM_thrown) (hh := []) rfl rfl [] 8 h
theorem E_TM_thrown {t : Nat} {G : GH} {K : Int32 → GH → Prop} {KX : String → GH → Prop} (h : V_TM_thrown_0 t G (gQi K KX)) : CI M_TM_thrown [.ref t] G K KX := CI.of rfl rfl rfl (V_TM_thrown_0_ok h)
def V_TM_fails_0 (t : Nat) (a1 : Int32) (a2 : Int32) (a3 : Int32) (G : GH) (Q : GQ) : Prop :=
  if a1 = (nI 0) then
    if a2 = (nI 0) then
      if a3 = (nI 0) then
        WP M_TM_fails 0 0 26 [some (.ref t), some (.int a1), some (.int a2), some (.int a3)] [.int (nI 0), .ref t] G Q
      else
        WP M_TM_fails 0 0 26 [some (.ref t), some (.int a1), some (.int a2), some (.int a3)] [.int (nI 3), .ref t] G Q
    else
      WP M_TM_fails 0 0 26 [some (.ref t), some (.int a1), some (.int a2), some (.int a3)] [.int (nI 2), .ref t] G Q
  else
    WP M_TM_fails 0 0 26 [some (.ref t), some (.int a1), some (.int a2), some (.int a3)] [.int (nI 1), .ref t] G Q
set_option maxRecDepth 100000 in
theorem V_TM_fails_0_ok {t : Nat} {a1 : Int32} {a2 : Int32} {a3 : Int32} {G : GH} {Q : GQ} (h : V_TM_fails_0 t a1 a2 a3 G Q) : WP M_TM_fails 0 0 0 [some (.ref t), some (.int a1), some (.int a2), some (.int a3)] [] G Q := WP.ofV (T := T_TM_fails) (hh := []) rfl rfl [(26, [true, true, true, true])] 27 h
theorem E_TM_fails {t : Nat} {a1 : Int32} {a2 : Int32} {a3 : Int32} {G : GH} {K : Int32 → GH → Prop} {KX : String → GH → Prop} (h : V_TM_fails_0 t a1 a2 a3 G (gQi K KX)) : CI M_TM_fails [.ref t, .int a1, .int a2, .int a3] G K KX := CI.of rfl rfl rfl (V_TM_fails_0_ok h)
def V_TM_fails_26 (t : Nat) (a1 : Int32) (a2 : Int32) (a3 : Int32) (s0 : Int32) (s1 : Nat) (G : GH) (Q : GQ) : Prop :=
  s1 < gRB ∧ ∃ (fs1 : List Value), G.2 s1 = some (.inl (11, fs1)) ∧ gFit 0 (.int s0) ∧
  let G2 : GH := gU G s1 (.inl (11, fs1.set 7 (.int s0)));
  ∃ (fs3 : List Value) (x4 : Int32), G2.2 t = some (.inl (11, fs3)) ∧ fs3[7]? = some (.int x4) ∧
  if (nI 0) < x4 then
    ((nI 1) = nI 0 ∨ (nI 1) = nI 1) ∧ Q.1 (nI 1) G2
  else
    ((nI 0) = nI 0 ∨ (nI 0) = nI 1) ∧ Q.1 (nI 0) G2
set_option maxRecDepth 100000 in
theorem V_TM_fails_26_ok {t : Nat} {a1 : Int32} {a2 : Int32} {a3 : Int32} {s0 : Int32} {s1 : Nat} {G : GH} {Q : GQ} (h : V_TM_fails_26 t a1 a2 a3 s0 s1 G Q) : WP M_TM_fails 0 0 26 [some (.ref t), some (.int a1), some (.int a2), some (.int a3)] [.int s0, .ref s1] G Q := WP.ofV (T := T_TM_fails) (hh := []) rfl rfl [(26, [true, true, true, true])] 27 h
def V_TM_told_0 (t : Nat) (a1 : Int32) (G : GH) (Q : GQ) : Prop :=
  t < gRB ∧ ∃ (fs1 : List Value), G.2 t = some (.inl (11, fs1)) ∧ gFit 0 (.int (nI 0)) ∧
  let G2 : GH := gU G t (.inl (11, fs1.set 7 (.int (nI 0))));
  Q.1 a1 G2
set_option maxRecDepth 100000 in
theorem V_TM_told_0_ok {t : Nat} {a1 : Int32} {G : GH} {Q : GQ} (h : V_TM_told_0 t a1 G Q) : WP M_TM_told 0 0 0 [some (.ref t), some (.int a1)] [] G Q := WP.ofV (T := T_TM_told) (hh := []) rfl rfl [] 10 h
theorem E_TM_told {t : Nat} {a1 : Int32} {G : GH} {K : Int32 → GH → Prop} {KX : String → GH → Prop} (h : V_TM_told_0 t a1 G (gQi K KX)) : CI M_TM_told [.ref t, .int a1] G K KX := CI.of rfl rfl rfl (V_TM_told_0_ok h)
def V_TM_isIn_0 (a0 : Int32) (a1 : Int32) (a2 : Int32) (G : GH) (Q : GQ) : Prop :=
  if a0 < a1 then
    ((nI 0) = nI 0 ∨ (nI 0) = nI 1) ∧ Q.1 (nI 0) G
  else
    if a2 < a0 then
      ((nI 0) = nI 0 ∨ (nI 0) = nI 1) ∧ Q.1 (nI 0) G
    else
      ((nI 1) = nI 0 ∨ (nI 1) = nI 1) ∧ Q.1 (nI 1) G
set_option maxRecDepth 100000 in
theorem V_TM_isIn_0_ok {a0 : Int32} {a1 : Int32} {a2 : Int32} {G : GH} {Q : GQ} (h : V_TM_isIn_0 a0 a1 a2 G Q) : WP M_TM_isIn 0 0 0 [some (.int a0), some (.int a1), some (.int a2)] [] G Q := WP.ofV (T := T_TM_isIn) (hh := []) rfl rfl [] 15 h
theorem E_TM_isIn {a0 : Int32} {a1 : Int32} {a2 : Int32} {G : GH} {K : Int32 → GH → Prop} {KX : String → GH → Prop} (h : V_TM_isIn_0 a0 a1 a2 G (gQi K KX)) : CI M_TM_isIn [.int a0, .int a1, .int a2] G K KX := CI.of rfl rfl rfl (V_TM_isIn_0_ok h)
def V_TM_copy_0 (p0 : Nat) (a1 : Int32) (p2 : Nat) (a3 : Int32) (G : GH) (Q : GQ) : Prop :=
  p2 < gRB ∧ p0 < gRB ∧ ∃ (ty1 : FieldType) (m2 w3 : Nat) (f4 h5 : Nat → Int32) (ka6 da7 sa8 : Nat), G.2 p0 = some (.inr (ty1, m2, .inl f4)) ∧ G.2 p2 = some (.inr (ty1, w3, .inl h5)) ∧ (ty1 = .int ∨ ty1 = .boolean ∧ ∀ i, f4 i = nI 0 ∨ f4 i = nI 1) ∧ (nI 417) = nI ka6 ∧ a3 = nI da7 ∧ a1 = nI sa8 ∧ ka6 < 2 ^ 31 ∧ da7 < 2 ^ 31 ∧ sa8 < 2 ^ 31 ∧ sa8 + ka6 ≤ m2 ∧ da7 + ka6 ≤ w3 ∧
  let G9 : GH := gU G p2 (.inr (ty1, w3, .inl (va_cpy f4 h5 sa8 da7 ka6)));
  Q.2.1 G9
set_option maxRecDepth 100000 in
theorem V_TM_copy_0_ok {p0 : Nat} {a1 : Int32} {p2 : Nat} {a3 : Int32} {G : GH} {Q : GQ} (h : V_TM_copy_0 p0 a1 p2 a3 G Q) : WP M_TM_copy 0 0 0 [some (.ref p0), some (.int a1), some (.ref p2), some (.int a3)] [] G Q := WP.ofV (T := T_TM_copy) (hh := []) rfl rfl [] 12 h
theorem E_TM_copy {p0 : Nat} {a1 : Int32} {p2 : Nat} {a3 : Int32} {G : GH} {K : GH → Prop} {KX : String → GH → Prop} (h : V_TM_copy_0 p0 a1 p2 a3 G (gQv K KX)) : CV M_TM_copy [.ref p0, .int a1, .ref p2, .int a3] G K KX := CV.of rfl rfl rfl (V_TM_copy_0_ok h)
def V_TM_remember_0 (t : Nat) (p1 : Nat) (G : GH) (Q : GQ) : Prop :=
  ∃ (fs1 : List Value) (x2 : Int32), G.2 t = some (.inl (11, fs1)) ∧ fs1[6]? = some (.int x2) ∧
  if x2 = (nI 8) then
    ∃ (fs3 : List Value) (r4 : Nat), G.2 t = some (.inl (11, fs3)) ∧ fs3[2]? = some (.ref r4) ∧
    ∃ (fs5 : List Value) (r6 : Nat), G.2 t = some (.inl (11, fs5)) ∧ fs5[2]? = some (.ref r6) ∧
    r6 < gRB ∧ r4 < gRB ∧ ∃ (ty7 : FieldType) (m8 w9 : Nat) (f10 h11 : Nat → Int32) (ka12 da13 sa14 : Nat), G.2 r4 = some (.inr (ty7, m8, .inl f10)) ∧ G.2 r6 = some (.inr (ty7, w9, .inl h11)) ∧ (ty7 = .int ∨ ty7 = .boolean ∧ ∀ i, f10 i = nI 0 ∨ f10 i = nI 1) ∧ (nI 2919) = nI ka12 ∧ (nI 0) = nI da13 ∧ (nI 417) = nI sa14 ∧ ka12 < 2 ^ 31 ∧ da13 < 2 ^ 31 ∧ sa14 < 2 ^ 31 ∧ sa14 + ka12 ≤ m8 ∧ da13 + ka12 ≤ w9 ∧
    let G15 : GH := gU G r6 (.inr (ty7, w9, .inl (va_cpy f10 h11 sa14 da13 ka12)));
    ∃ (fs16 : List Value) (x17 : Int32), G15.2 t = some (.inl (11, fs16)) ∧ fs16[6]? = some (.int x17) ∧
    t < gRB ∧ ∃ (fs18 : List Value), G15.2 t = some (.inl (11, fs18)) ∧ gFit 0 (.int (x17 - (nI 1))) ∧
    let G19 : GH := gU G15 t (.inl (11, fs18.set 6 (.int (x17 - (nI 1)))));
    WP M_TM_remember 0 0 37 [some (.ref t), some (.ref p1)] [] G19 Q
  else
    WP M_TM_remember 0 0 37 [some (.ref t), some (.ref p1)] [] G Q
set_option maxRecDepth 100000 in
theorem V_TM_remember_0_ok {t : Nat} {p1 : Nat} {G : GH} {Q : GQ} (h : V_TM_remember_0 t p1 G Q) : WP M_TM_remember 0 0 0 [some (.ref t), some (.ref p1)] [] G Q := WP.ofV (T := T_TM_remember) (hh := []) rfl rfl [(37, [true, true])] 39 h
theorem E_TM_remember {t : Nat} {p1 : Nat} {G : GH} {K : GH → Prop} {KX : String → GH → Prop} (h : V_TM_remember_0 t p1 G (gQv K KX)) : CV M_TM_remember [.ref t, .ref p1] G K KX := CV.of rfl rfl rfl (V_TM_remember_0_ok h)
def V_TM_remember_37 (t : Nat) (p1 : Nat) (G : GH) (Q : GQ) : Prop :=
  ∃ (fs1 : List Value) (r2 : Nat), G.2 t = some (.inl (11, fs1)) ∧ fs1[2]? = some (.ref r2) ∧
  ∃ (fs3 : List Value) (x4 : Int32), G.2 t = some (.inl (11, fs3)) ∧ fs3[6]? = some (.int x4) ∧
  CV M_TM_copy [.ref p1, .int (nI 0), .ref r2, .int (x4 * (nI 417))] G (fun (G5 : GH) =>
    ∃ (fs6 : List Value) (x7 : Int32), G5.2 t = some (.inl (11, fs6)) ∧ fs6[6]? = some (.int x7) ∧
    t < gRB ∧ ∃ (fs8 : List Value), G5.2 t = some (.inl (11, fs8)) ∧ gFit 0 (.int (x7 + (nI 1))) ∧
    let G9 : GH := gU G5 t (.inl (11, fs8.set 6 (.int (x7 + (nI 1)))));
    Q.2.1 G9) gNo
set_option maxRecDepth 100000 in
theorem V_TM_remember_37_ok {t : Nat} {p1 : Nat} {G : GH} {Q : GQ} (h : V_TM_remember_37 t p1 G Q) : WP M_TM_remember 0 0 37 [some (.ref t), some (.ref p1)] [] G Q := WP.ofV (T := T_TM_remember) (hh := []) rfl rfl [(37, [true, true])] 39 h
def V_TM_isInside_0 (t : Nat) (a1 : Int32) (a2 : Int32) (G : GH) (Q : GQ) : Prop :=
  ∃ (fs1 : List Value) (r2 : Nat), G.2 t = some (.inl (11, fs1)) ∧ fs1[0]? = some (.ref r2) ∧
  ∃ (m3 : Nat) (f4 : Nat → Int32), G.2 r2 = some (.inr (.int, m3, .inl f4)) ∧ vp_in (nI 0) m3 ∧
  CI M_TM_isIn [.int a1, .int (nI 0), .int ((f4 (nI 0).toNatClampNeg) - (nI 1))] G (fun (x6 : Int32) (G5 : GH) =>
    if x6 = (nI 0) then
      ((nI 0) = nI 0 ∨ (nI 0) = nI 1) ∧ Q.1 (nI 0) G5
    else
      ∃ (fs7 : List Value) (r8 : Nat), G5.2 t = some (.inl (11, fs7)) ∧ fs7[0]? = some (.ref r8) ∧
      ∃ (m9 : Nat) (f10 : Nat → Int32), G5.2 r8 = some (.inr (.int, m9, .inl f10)) ∧ vp_in (nI 1) m9 ∧
      CI M_TM_isIn [.int a2, .int (nI 0), .int ((f10 (nI 1).toNatClampNeg) - (nI 1))] G5 (fun (x12 : Int32) (G11 : GH) =>
        if x12 = (nI 0) then
          ((nI 0) = nI 0 ∨ (nI 0) = nI 1) ∧ Q.1 (nI 0) G11
        else
          ((nI 1) = nI 0 ∨ (nI 1) = nI 1) ∧ Q.1 (nI 1) G11) gNo) gNo
set_option maxRecDepth 100000 in
theorem V_TM_isInside_0_ok {t : Nat} {a1 : Int32} {a2 : Int32} {G : GH} {Q : GQ} (h : V_TM_isInside_0 t a1 a2 G Q) : WP M_TM_isInside 0 0 0 [some (.ref t), some (.int a1), some (.int a2)] [] G Q := WP.ofV (T := T_TM_isInside) (hh := []) rfl rfl [] 29 h
theorem E_TM_isInside {t : Nat} {a1 : Int32} {a2 : Int32} {G : GH} {K : Int32 → GH → Prop} {KX : String → GH → Prop} (h : V_TM_isInside_0 t a1 a2 G (gQi K KX)) : CI M_TM_isInside [.ref t, .int a1, .int a2] G K KX := CI.of rfl rfl rfl (V_TM_isInside_0_ok h)
def V_TM_at_0 (a0 : Int32) (a1 : Int32) (G : GH) (Q : GQ) : Prop :=
  Q.1 (((nI 8) * a1) + a0) G
set_option maxRecDepth 100000 in
theorem V_TM_at_0_ok {a0 : Int32} {a1 : Int32} {G : GH} {Q : GQ} (h : V_TM_at_0 a0 a1 G Q) : WP M_TM_at 0 0 0 [some (.int a0), some (.int a1)] [] G Q := WP.ofV (T := T_TM_at) (hh := []) rfl rfl [] 11 h
theorem E_TM_at {a0 : Int32} {a1 : Int32} {G : GH} {K : Int32 → GH → Prop} {KX : String → GH → Prop} (h : V_TM_at_0 a0 a1 G (gQi K KX)) : CI M_TM_at [.int a0, .int a1] G K KX := CI.of rfl rfl rfl (V_TM_at_0_ok h)
def V_TM_cell_0 (t : Nat) (a1 : Int32) (a2 : Int32) (G : GH) (Q : GQ) : Prop :=
  ∃ (fs1 : List Value) (r2 : Nat), G.2 t = some (.inl (11, fs1)) ∧ fs1[0]? = some (.ref r2) ∧
  CI M_TM_at [.int a1, .int a2] G (fun (x4 : Int32) (G3 : GH) =>
    ∃ (m5 : Nat) (f6 : Nat → Int32), G3.2 r2 = some (.inr (.int, m5, .inl f6)) ∧ vp_in ((nI 33) + x4) m5 ∧
    Q.1 (f6 ((nI 33) + x4).toNatClampNeg) G3) gNo
set_option maxRecDepth 100000 in
theorem V_TM_cell_0_ok {t : Nat} {a1 : Int32} {a2 : Int32} {G : GH} {Q : GQ} (h : V_TM_cell_0 t a1 a2 G Q) : WP M_TM_cell 0 0 0 [some (.ref t), some (.int a1), some (.int a2)] [] G Q := WP.ofV (T := T_TM_cell) (hh := []) rfl rfl [] 14 h
theorem E_TM_cell {t : Nat} {a1 : Int32} {a2 : Int32} {G : GH} {K : Int32 → GH → Prop} {KX : String → GH → Prop} (h : V_TM_cell_0 t a1 a2 G (gQi K KX)) : CI M_TM_cell [.ref t, .int a1, .int a2] G K KX := CI.of rfl rfl rfl (V_TM_cell_0_ok h)
def V_TM_isEmpty_0 (t : Nat) (a1 : Int32) (a2 : Int32) (G : GH) (Q : GQ) : Prop :=
  CI M_TM_isInside [.ref t, .int a1, .int a2] G (fun (x2 : Int32) (G1 : GH) =>
    if x2 = (nI 0) then
      ((nI 0) = nI 0 ∨ (nI 0) = nI 1) ∧ Q.1 (nI 0) G1
    else
      CI M_TM_cell [.ref t, .int a1, .int a2] G1 (fun (x4 : Int32) (G3 : GH) =>
        if x4 = (nI 0) then
          ((nI 1) = nI 0 ∨ (nI 1) = nI 1) ∧ Q.1 (nI 1) G3
        else
          ((nI 0) = nI 0 ∨ (nI 0) = nI 1) ∧ Q.1 (nI 0) G3) gNo) gNo
set_option maxRecDepth 100000 in
theorem V_TM_isEmpty_0_ok {t : Nat} {a1 : Int32} {a2 : Int32} {G : GH} {Q : GQ} (h : V_TM_isEmpty_0 t a1 a2 G Q) : WP M_TM_isEmpty 0 0 0 [some (.ref t), some (.int a1), some (.int a2)] [] G Q := WP.ofV (T := T_TM_isEmpty) (hh := []) rfl rfl [] 19 h
theorem E_TM_isEmpty {t : Nat} {a1 : Int32} {a2 : Int32} {G : GH} {K : Int32 → GH → Prop} {KX : String → GH → Prop} (h : V_TM_isEmpty_0 t a1 a2 G (gQi K KX)) : CI M_TM_isEmpty [.ref t, .int a1, .int a2] G K KX := CI.of rfl rfl rfl (V_TM_isEmpty_0_ok h)
def V_TM_pieceOf_0 (t : Nat) (a1 : Int32) (a2 : Int32) (G : GH) (Q : GQ) : Prop :=
  CI M_TM_cell [.ref t, .int a1, .int a2] G (fun (x2 : Int32) (G1 : GH) =>
    if x2 < (nI 2) then
      Q.1 (-nI 1) G1
    else
      CI M_TM_cell [.ref t, .int a1, .int a2] G1 (fun (x4 : Int32) (G3 : GH) =>
        Q.1 (x4 - (nI 2)) G3) gNo) gNo
set_option maxRecDepth 100000 in
theorem V_TM_pieceOf_0_ok {t : Nat} {a1 : Int32} {a2 : Int32} {G : GH} {Q : GQ} (h : V_TM_pieceOf_0 t a1 a2 G Q) : WP M_TM_pieceOf 0 0 0 [some (.ref t), some (.int a1), some (.int a2)] [] G Q := WP.ofV (T := T_TM_pieceOf) (hh := []) rfl rfl [] 20 h
theorem E_TM_pieceOf {t : Nat} {a1 : Int32} {a2 : Int32} {G : GH} {K : Int32 → GH → Prop} {KX : String → GH → Prop} (h : V_TM_pieceOf_0 t a1 a2 G (gQi K KX)) : CI M_TM_pieceOf [.ref t, .int a1, .int a2] G K KX := CI.of rfl rfl rfl (V_TM_pieceOf_0_ok h)
def V_TM_isEdge_0 (t : Nat) (a1 : Int32) (a2 : Int32) (a3 : Int32) (G : GH) (Q : GQ) : Prop :=
  CI M_TM_isInside [.ref t, .int a1, .int a2] G (fun (x2 : Int32) (G1 : GH) =>
    if x2 = (nI 0) then
      ((nI 0) = nI 0 ∨ (nI 0) = nI 1) ∧ Q.1 (nI 0) G1
    else
      if a3 = (nI 0) then
        CI M_TM_isInside [.ref t, .int (a1 + (nI 1)), .int a2] G1 (fun (x4 : Int32) (G3 : GH) =>
          if x4 = (nI 0) then
            ((nI 0) = nI 0 ∨ (nI 0) = nI 1) ∧ Q.1 (nI 0) G3
          else
            ((nI 1) = nI 0 ∨ (nI 1) = nI 1) ∧ Q.1 (nI 1) G3) gNo
      else
        CI M_TM_isInside [.ref t, .int a1, .int (a2 + (nI 1))] G1 (fun (x6 : Int32) (G5 : GH) =>
          if x6 = (nI 0) then
            ((nI 0) = nI 0 ∨ (nI 0) = nI 1) ∧ Q.1 (nI 0) G5
          else
            ((nI 1) = nI 0 ∨ (nI 1) = nI 1) ∧ Q.1 (nI 1) G5) gNo) gNo
set_option maxRecDepth 100000 in
theorem V_TM_isEdge_0_ok {t : Nat} {a1 : Int32} {a2 : Int32} {a3 : Int32} {G : GH} {Q : GQ} (h : V_TM_isEdge_0 t a1 a2 a3 G Q) : WP M_TM_isEdge 0 0 0 [some (.ref t), some (.int a1), some (.int a2), some (.int a3)] [] G Q := WP.ofV (T := T_TM_isEdge) (hh := []) rfl rfl [] 31 h
theorem E_TM_isEdge {t : Nat} {a1 : Int32} {a2 : Int32} {a3 : Int32} {G : GH} {K : Int32 → GH → Prop} {KX : String → GH → Prop} (h : V_TM_isEdge_0 t a1 a2 a3 G (gQi K KX)) : CI M_TM_isEdge [.ref t, .int a1, .int a2, .int a3] G K KX := CI.of rfl rfl rfl (V_TM_isEdge_0_ok h)
def V_TM_edge_0 (a0 : Int32) (a1 : Int32) (a2 : Int32) (G : GH) (Q : GQ) : Prop :=
  if a2 = (nI 0) then
    WP M_TM_edge 0 0 12 [some (.int a0), some (.int a1), some (.int a2)] [.int (nI 97)] G Q
  else
    WP M_TM_edge 0 0 12 [some (.int a0), some (.int a1), some (.int a2)] [.int (nI 161)] G Q
set_option maxRecDepth 100000 in
theorem V_TM_edge_0_ok {a0 : Int32} {a1 : Int32} {a2 : Int32} {G : GH} {Q : GQ} (h : V_TM_edge_0 a0 a1 a2 G Q) : WP M_TM_edge 0 0 0 [some (.int a0), some (.int a1), some (.int a2)] [] G Q := WP.ofV (T := T_TM_edge) (hh := []) rfl rfl [(12, [true, true, true])] 15 h
theorem E_TM_edge {a0 : Int32} {a1 : Int32} {a2 : Int32} {G : GH} {K : Int32 → GH → Prop} {KX : String → GH → Prop} (h : V_TM_edge_0 a0 a1 a2 G (gQi K KX)) : CI M_TM_edge [.int a0, .int a1, .int a2] G K KX := CI.of rfl rfl rfl (V_TM_edge_0_ok h)
def V_TM_edge_12 (a0 : Int32) (a1 : Int32) (a2 : Int32) (s0 : Int32) (G : GH) (Q : GQ) : Prop :=
  CI M_TM_at [.int a0, .int a1] G (fun (x2 : Int32) (G1 : GH) =>
    Q.1 (s0 + x2) G1) gNo
set_option maxRecDepth 100000 in
theorem V_TM_edge_12_ok {a0 : Int32} {a1 : Int32} {a2 : Int32} {s0 : Int32} {G : GH} {Q : GQ} (h : V_TM_edge_12 a0 a1 a2 s0 G Q) : WP M_TM_edge 0 0 12 [some (.int a0), some (.int a1), some (.int a2)] [.int s0] G Q := WP.ofV (T := T_TM_edge) (hh := []) rfl rfl [(12, [true, true, true])] 15 h
def V_TM_isStrapped_0 (t : Nat) (a1 : Int32) (a2 : Int32) (a3 : Int32) (a4 : Int32) (G : GH) (Q : GQ) : Prop :=
  ∃ (fs1 : List Value) (r2 : Nat), G.2 t = some (.inl (11, fs1)) ∧ fs1[0]? = some (.ref r2) ∧
  if a2 = a4 then
    WP M_TM_isStrapped 0 0 26 [some (.ref t), some (.int a1), some (.int a2), some (.int a3), some (.int a4)] [.int (nI 0), .int (if a4 < a2 then a4 else a2), .int (if a3 < a1 then a3 else a1), .ref r2] G Q
  else
    WP M_TM_isStrapped 0 0 26 [some (.ref t), some (.int a1), some (.int a2), some (.int a3), some (.int a4)] [.int (nI 1), .int (if a4 < a2 then a4 else a2), .int (if a3 < a1 then a3 else a1), .ref r2] G Q
set_option maxRecDepth 100000 in
theorem V_TM_isStrapped_0_ok {t : Nat} {a1 : Int32} {a2 : Int32} {a3 : Int32} {a4 : Int32} {G : GH} {Q : GQ} (h : V_TM_isStrapped_0 t a1 a2 a3 a4 G Q) : WP M_TM_isStrapped 0 0 0 [some (.ref t), some (.int a1), some (.int a2), some (.int a3), some (.int a4)] [] G Q := WP.ofV (T := T_TM_isStrapped) (hh := []) rfl rfl [(26, [true, true, true, true, true])] 27 h
theorem E_TM_isStrapped {t : Nat} {a1 : Int32} {a2 : Int32} {a3 : Int32} {a4 : Int32} {G : GH} {K : Int32 → GH → Prop} {KX : String → GH → Prop} (h : V_TM_isStrapped_0 t a1 a2 a3 a4 G (gQi K KX)) : CI M_TM_isStrapped [.ref t, .int a1, .int a2, .int a3, .int a4] G K KX := CI.of rfl rfl rfl (V_TM_isStrapped_0_ok h)
def V_TM_isStrapped_26 (t : Nat) (a1 : Int32) (a2 : Int32) (a3 : Int32) (a4 : Int32) (s0 : Int32) (s1 : Int32) (s2 : Int32) (s3 : Nat) (G : GH) (Q : GQ) : Prop :=
  CI M_TM_edge [.int s2, .int s1, .int s0] G (fun (x2 : Int32) (G1 : GH) =>
    ∃ (m3 : Nat) (f4 : Nat → Int32), G1.2 s3 = some (.inr (.int, m3, .inl f4)) ∧ vp_in x2 m3 ∧
    if (f4 (x2).toNatClampNeg) = (nI 1) then
      ((nI 1) = nI 0 ∨ (nI 1) = nI 1) ∧ Q.1 (nI 1) G1
    else
      ((nI 0) = nI 0 ∨ (nI 0) = nI 1) ∧ Q.1 (nI 0) G1) gNo
set_option maxRecDepth 100000 in
theorem V_TM_isStrapped_26_ok {t : Nat} {a1 : Int32} {a2 : Int32} {a3 : Int32} {a4 : Int32} {s0 : Int32} {s1 : Int32} {s2 : Int32} {s3 : Nat} {G : GH} {Q : GQ} (h : V_TM_isStrapped_26 t a1 a2 a3 a4 s0 s1 s2 s3 G Q) : WP M_TM_isStrapped 0 0 26 [some (.ref t), some (.int a1), some (.int a2), some (.int a3), some (.int a4)] [.int s0, .int s1, .int s2, .ref s3] G Q := WP.ofV (T := T_TM_isStrapped) (hh := []) rfl rfl [(26, [true, true, true, true, true])] 27 h
def V_TM_areNeighbours_0 (a0 : Int32) (a1 : Int32) (a2 : Int32) (a3 : Int32) (G : GH) (Q : GQ) : Prop :=
  if ((if 0 ≤ (a0 - a2) then a0 - a2 else 0 - (a0 - a2)) + (if 0 ≤ (a1 - a3) then a1 - a3 else 0 - (a1 - a3))) = (nI 1) then
    ((nI 1) = nI 0 ∨ (nI 1) = nI 1) ∧ Q.1 (nI 1) G
  else
    ((nI 0) = nI 0 ∨ (nI 0) = nI 1) ∧ Q.1 (nI 0) G
set_option maxRecDepth 100000 in
theorem V_TM_areNeighbours_0_ok {a0 : Int32} {a1 : Int32} {a2 : Int32} {a3 : Int32} {G : GH} {Q : GQ} (h : V_TM_areNeighbours_0 a0 a1 a2 a3 G Q) : WP M_TM_areNeighbours 0 0 0 [some (.int a0), some (.int a1), some (.int a2), some (.int a3)] [] G Q := WP.ofV (T := T_TM_areNeighbours) (hh := []) rfl rfl [] 20 h
theorem E_TM_areNeighbours {a0 : Int32} {a1 : Int32} {a2 : Int32} {a3 : Int32} {G : GH} {K : Int32 → GH → Prop} {KX : String → GH → Prop} (h : V_TM_areNeighbours_0 a0 a1 a2 a3 G (gQi K KX)) : CI M_TM_areNeighbours [.int a0, .int a1, .int a2, .int a3] G K KX := CI.of rfl rfl rfl (V_TM_areNeighbours_0_ok h)
def V_TM_dx_0 (a0 : Int32) (a1 : Int32) (G : GH) (Q : GQ) : Prop :=
  ((a0.toInt < 1 ∨ 4 < a0.toInt) → Q.1 a1 G) ∧
  (a0.toInt = 1 → ¬ (nI 2) = 0 ∧
    Q.1 (a1 - a1 / (nI 2) * (nI 2)) G) ∧
  (a0.toInt = 2 → Q.1 a1 G) ∧
  (a0.toInt = 3 → ¬ (nI 2) = 0 ∧
    Q.1 (a1 - a1 / (nI 2) * (nI 2)) G) ∧
  (a0.toInt = 4 → if a1 = (nI 3) then
      Q.1 (nI 0) G
    else
      Q.1 a1 G) ∧
  True
set_option maxRecDepth 100000 in
theorem V_TM_dx_0_ok {a0 : Int32} {a1 : Int32} {G : GH} {Q : GQ} (h : V_TM_dx_0 a0 a1 G Q) : WP M_TM_dx 0 0 0 [some (.int a0), some (.int a1)] [] G Q := WP.ofV (T := T_TM_dx) (hh := []) rfl rfl [] 20 h
theorem E_TM_dx {a0 : Int32} {a1 : Int32} {G : GH} {K : Int32 → GH → Prop} {KX : String → GH → Prop} (h : V_TM_dx_0 a0 a1 G (gQi K KX)) : CI M_TM_dx [.int a0, .int a1] G K KX := CI.of rfl rfl rfl (V_TM_dx_0_ok h)
def V_TM_dy_0 (a0 : Int32) (a1 : Int32) (G : GH) (Q : GQ) : Prop :=
  if a0 = (nI 1) then
    ¬ (nI 2) = 0 ∧
    Q.1 (a1 / (nI 2)) G
  else
    if a0 = (nI 3) then
      ¬ (nI 2) = 0 ∧
      Q.1 (a1 / (nI 2)) G
    else
      if a0 = (nI 4) then
        if a1 = (nI 3) then
          Q.1 (nI 1) G
        else
          Q.1 (nI 0) G
      else
        Q.1 (nI 0) G
set_option maxRecDepth 100000 in
theorem V_TM_dy_0_ok {a0 : Int32} {a1 : Int32} {G : GH} {Q : GQ} (h : V_TM_dy_0 a0 a1 G Q) : WP M_TM_dy 0 0 0 [some (.int a0), some (.int a1)] [] G Q := WP.ofV (T := T_TM_dy) (hh := []) rfl rfl [] 25 h
theorem E_TM_dy {a0 : Int32} {a1 : Int32} {G : GH} {K : Int32 → GH → Prop} {KX : String → GH → Prop} (h : V_TM_dy_0 a0 a1 G (gQi K KX)) : CI M_TM_dy [.int a0, .int a1] G K KX := CI.of rfl rfl rfl (V_TM_dy_0_ok h)
def V_TM_sizeOf_0 (a0 : Int32) (G : GH) (Q : GQ) : Prop :=
  if a0 = (nI 0) then
    Q.1 (nI 2) G
  else
    if a0 < (nI 3) then
      Q.1 (nI 3) G
    else
      Q.1 (nI 4) G
set_option maxRecDepth 100000 in
theorem V_TM_sizeOf_0_ok {a0 : Int32} {G : GH} {Q : GQ} (h : V_TM_sizeOf_0 a0 G Q) : WP M_TM_sizeOf 0 0 0 [some (.int a0)] [] G Q := WP.ofV (T := T_TM_sizeOf) (hh := []) rfl rfl [] 16 h
theorem E_TM_sizeOf {a0 : Int32} {G : GH} {K : Int32 → GH → Prop} {KX : String → GH → Prop} (h : V_TM_sizeOf_0 a0 G (gQi K KX)) : CI M_TM_sizeOf [.int a0] G K KX := CI.of rfl rfl rfl (V_TM_sizeOf_0_ok h)
def V_TM_spreads_0 (t : Nat) (a1 : Int32) (a2 : Int32) (a3 : Int32) (a4 : Int32) (G : GH) (Q : GQ) : Prop :=
  CI M_TM_sizeOf [.int a1] G (fun (x2 : Int32) (G1 : GH) =>
    t < gRB ∧ ∃ (fs3 : List Value), G1.2 t = some (.inl (11, fs3)) ∧ gFit 0 (.int x2) ∧
    let G4 : GH := gU G1 t (.inl (11, fs3.set 17 (.int x2)));
    WP M_TM_spreads 0 0 11 [some (.ref t), some (.int a1), some (.int a2), some (.int a3), some (.int a4), some (.int (nI 0)), none, none, none, none] [] G4 Q) gNo
set_option maxRecDepth 100000 in
theorem V_TM_spreads_0_ok {t : Nat} {a1 : Int32} {a2 : Int32} {a3 : Int32} {a4 : Int32} {G : GH} {Q : GQ} (h : V_TM_spreads_0 t a1 a2 a3 a4 G Q) : WP M_TM_spreads 0 0 0 [some (.ref t), some (.int a1), some (.int a2), some (.int a3), some (.int a4), none, none, none, none, none] [] G Q := WP.ofV (T := T_TM_spreads) (hh := []) rfl rfl [(11, [true, true, true, true, true, true, false, false, false, false]), (39, [true, true, true, true, true, true, true, true, true, false])] 54 h
theorem E_TM_spreads {t : Nat} {a1 : Int32} {a2 : Int32} {a3 : Int32} {a4 : Int32} {G : GH} {K : GH → Prop} {KX : String → GH → Prop} (h : V_TM_spreads_0 t a1 a2 a3 a4 G (gQv K KX)) : CV M_TM_spreads [.ref t, .int a1, .int a2, .int a3, .int a4] G K KX := CV.of rfl rfl rfl (V_TM_spreads_0_ok h)
def V_TM_spreads_11 (t : Nat) (a1 : Int32) (a2 : Int32) (a3 : Int32) (a4 : Int32) (a5 : Int32) (G : GH) (Q : GQ) : Prop :=
  ∃ (fs1 : List Value) (x2 : Int32), G.2 t = some (.inl (11, fs1)) ∧ fs1[17]? = some (.int x2) ∧
  if a5 < x2 then
    CI M_TM_dx [.int a1, .int a5] G (fun (x4 : Int32) (G3 : GH) =>
      CI M_TM_dy [.int a1, .int a5] G3 (fun (x6 : Int32) (G5 : GH) =>
        WP M_TM_spreads 0 0 39 [some (.ref t), some (.int a1), some (.int a2), some (.int a3), some (.int a4), some (.int a5), some (.int x4), some (.int x6), some (.int (nI 0)), none] [] G5 Q) gNo) gNo
  else
    Q.2.1 G
set_option maxRecDepth 100000 in
theorem V_TM_spreads_11_ok {t : Nat} {a1 : Int32} {a2 : Int32} {a3 : Int32} {a4 : Int32} {a5 : Int32} {G : GH} {Q : GQ} (h : V_TM_spreads_11 t a1 a2 a3 a4 a5 G Q) : WP M_TM_spreads 0 0 11 [some (.ref t), some (.int a1), some (.int a2), some (.int a3), some (.int a4), some (.int a5), none, none, none, none] [] G Q := WP.ofV (T := T_TM_spreads) (hh := []) rfl rfl [(11, [true, true, true, true, true, true, false, false, false, false]), (39, [true, true, true, true, true, true, true, true, true, false])] 54 h
def V_TM_spreads_39 (t : Nat) (a1 : Int32) (a2 : Int32) (a3 : Int32) (a4 : Int32) (a5 : Int32) (a6 : Int32) (a7 : Int32) (a8 : Int32) (G : GH) (Q : GQ) : Prop :=
  if a8 < a2 then
    WP M_TM_spreads 0 0 39 [some (.ref t), some (.int a1), some (.int a2), some (.int a3), some (.int a4), some (.int a5), some (.int (-a7)), some (.int a6), some (.int (a8 + nI 1)), none] [] G Q
  else
    ∃ (fs1 : List Value) (r2 : Nat), G.2 t = some (.inl (11, fs1)) ∧ fs1[10]? = some (.ref r2) ∧
    r2 < gRB ∧ ∃ (m3 : Nat) (f4 : Nat → Int32), G.2 r2 = some (.inr (.int, m3, .inl f4)) ∧ vp_in a5 m3 ∧
    let G5 : GH := gU G r2 (.inr (.int, m3, .inl (upd f4 (a5).toNatClampNeg (a3 + a6))));
    ∃ (fs6 : List Value) (r7 : Nat), G5.2 t = some (.inl (11, fs6)) ∧ fs6[11]? = some (.ref r7) ∧
    r7 < gRB ∧ ∃ (m8 : Nat) (f9 : Nat → Int32), G5.2 r7 = some (.inr (.int, m8, .inl f9)) ∧ vp_in a5 m8 ∧
    let G10 : GH := gU G5 r7 (.inr (.int, m8, .inl (upd f9 (a5).toNatClampNeg (a4 + a7))));
    WP M_TM_spreads 0 0 11 [some (.ref t), some (.int a1), some (.int a2), some (.int a3), some (.int a4), some (.int (a5 + nI 1)), none, none, none, none] [] G10 Q
set_option maxRecDepth 100000 in
theorem V_TM_spreads_39_ok {t : Nat} {a1 : Int32} {a2 : Int32} {a3 : Int32} {a4 : Int32} {a5 : Int32} {a6 : Int32} {a7 : Int32} {a8 : Int32} {G : GH} {Q : GQ} (h : V_TM_spreads_39 t a1 a2 a3 a4 a5 a6 a7 a8 G Q) : WP M_TM_spreads 0 0 39 [some (.ref t), some (.int a1), some (.int a2), some (.int a3), some (.int a4), some (.int a5), some (.int a6), some (.int a7), some (.int a8), none] [] G Q := WP.ofV (T := T_TM_spreads) (hh := []) rfl rfl [(11, [true, true, true, true, true, true, false, false, false, false]), (39, [true, true, true, true, true, true, true, true, true, false])] 54 h
def V_TM_crosses_0 (t : Nat) (G : GH) (Q : GQ) : Prop :=
  WP M_TM_crosses 0 0 2 [some (.ref t), some (.int (nI 0)), none] [] G Q
set_option maxRecDepth 100000 in
theorem V_TM_crosses_0_ok {t : Nat} {G : GH} {Q : GQ} (h : V_TM_crosses_0 t G Q) : WP M_TM_crosses 0 0 0 [some (.ref t), none, none] [] G Q := WP.ofV (T := T_TM_crosses) (hh := []) rfl rfl [(2, [true, true, false]), (12, [true, true, true])] 61 h
theorem E_TM_crosses {t : Nat} {G : GH} {K : Int32 → GH → Prop} {KX : String → GH → Prop} (h : V_TM_crosses_0 t G (gQi K KX)) : CI M_TM_crosses [.ref t] G K KX := CI.of rfl rfl rfl (V_TM_crosses_0_ok h)
def V_TM_crosses_2 (t : Nat) (a1 : Int32) (G : GH) (Q : GQ) : Prop :=
  ∃ (fs1 : List Value) (x2 : Int32), G.2 t = some (.inl (11, fs1)) ∧ fs1[17]? = some (.int x2) ∧
  if a1 < x2 then
    WP M_TM_crosses 0 0 12 [some (.ref t), some (.int a1), some (.int (nI 0))] [] G Q
  else
    ((nI 0) = nI 0 ∨ (nI 0) = nI 1) ∧ Q.1 (nI 0) G
set_option maxRecDepth 100000 in
theorem V_TM_crosses_2_ok {t : Nat} {a1 : Int32} {G : GH} {Q : GQ} (h : V_TM_crosses_2 t a1 G Q) : WP M_TM_crosses 0 0 2 [some (.ref t), some (.int a1), none] [] G Q := WP.ofV (T := T_TM_crosses) (hh := []) rfl rfl [(2, [true, true, false]), (12, [true, true, true])] 61 h
def V_TM_crosses_12 (t : Nat) (a1 : Int32) (a2 : Int32) (G : GH) (Q : GQ) : Prop :=
  if a2 < a1 then
    ∃ (fs1 : List Value) (r2 : Nat), G.2 t = some (.inl (11, fs1)) ∧ fs1[10]? = some (.ref r2) ∧
    ∃ (m3 : Nat) (f4 : Nat → Int32), G.2 r2 = some (.inr (.int, m3, .inl f4)) ∧ vp_in a1 m3 ∧
    ∃ (fs5 : List Value) (r6 : Nat), G.2 t = some (.inl (11, fs5)) ∧ fs5[11]? = some (.ref r6) ∧
    ∃ (m7 : Nat) (f8 : Nat → Int32), G.2 r6 = some (.inr (.int, m7, .inl f8)) ∧ vp_in a1 m7 ∧
    ∃ (fs9 : List Value) (r10 : Nat), G.2 t = some (.inl (11, fs9)) ∧ fs9[10]? = some (.ref r10) ∧
    ∃ (m11 : Nat) (f12 : Nat → Int32), G.2 r10 = some (.inr (.int, m11, .inl f12)) ∧ vp_in a2 m11 ∧
    ∃ (fs13 : List Value) (r14 : Nat), G.2 t = some (.inl (11, fs13)) ∧ fs13[11]? = some (.ref r14) ∧
    ∃ (m15 : Nat) (f16 : Nat → Int32), G.2 r14 = some (.inr (.int, m15, .inl f16)) ∧ vp_in a2 m15 ∧
    CI M_TM_areNeighbours [.int (f4 (a1).toNatClampNeg), .int (f8 (a1).toNatClampNeg), .int (f12 (a2).toNatClampNeg), .int (f16 (a2).toNatClampNeg)] G (fun (x18 : Int32) (G17 : GH) =>
      if x18 = (nI 0) then
        WP M_TM_crosses 0 0 12 [some (.ref t), some (.int a1), some (.int (a2 + nI 1))] [] G17 Q
      else
        ∃ (fs19 : List Value) (r20 : Nat), G17.2 t = some (.inl (11, fs19)) ∧ fs19[10]? = some (.ref r20) ∧
        ∃ (m21 : Nat) (f22 : Nat → Int32), G17.2 r20 = some (.inr (.int, m21, .inl f22)) ∧ vp_in a1 m21 ∧
        ∃ (fs23 : List Value) (r24 : Nat), G17.2 t = some (.inl (11, fs23)) ∧ fs23[11]? = some (.ref r24) ∧
        ∃ (m25 : Nat) (f26 : Nat → Int32), G17.2 r24 = some (.inr (.int, m25, .inl f26)) ∧ vp_in a1 m25 ∧
        ∃ (fs27 : List Value) (r28 : Nat), G17.2 t = some (.inl (11, fs27)) ∧ fs27[10]? = some (.ref r28) ∧
        ∃ (m29 : Nat) (f30 : Nat → Int32), G17.2 r28 = some (.inr (.int, m29, .inl f30)) ∧ vp_in a2 m29 ∧
        ∃ (fs31 : List Value) (r32 : Nat), G17.2 t = some (.inl (11, fs31)) ∧ fs31[11]? = some (.ref r32) ∧
        ∃ (m33 : Nat) (f34 : Nat → Int32), G17.2 r32 = some (.inr (.int, m33, .inl f34)) ∧ vp_in a2 m33 ∧
        CI M_TM_isStrapped [.ref t, .int (f22 (a1).toNatClampNeg), .int (f26 (a1).toNatClampNeg), .int (f30 (a2).toNatClampNeg), .int (f34 (a2).toNatClampNeg)] G17 (fun (x36 : Int32) (G35 : GH) =>
          if x36 = (nI 0) then
            WP M_TM_crosses 0 0 12 [some (.ref t), some (.int a1), some (.int (a2 + nI 1))] [] G35 Q
          else
            ((nI 1) = nI 0 ∨ (nI 1) = nI 1) ∧ Q.1 (nI 1) G35) gNo) gNo
  else
    WP M_TM_crosses 0 0 2 [some (.ref t), some (.int (a1 + nI 1)), none] [] G Q
set_option maxRecDepth 100000 in
theorem V_TM_crosses_12_ok {t : Nat} {a1 : Int32} {a2 : Int32} {G : GH} {Q : GQ} (h : V_TM_crosses_12 t a1 a2 G Q) : WP M_TM_crosses 0 0 12 [some (.ref t), some (.int a1), some (.int a2)] [] G Q := WP.ofV (T := T_TM_crosses) (hh := []) rfl rfl [(2, [true, true, false]), (12, [true, true, true])] 61 h
def V_TM_misfit_0 (t : Nat) (a1 : Int32) (a2 : Int32) (a3 : Int32) (a4 : Int32) (G : GH) (Q : GQ) : Prop :=
  CV M_TM_spreads [.ref t, .int a1, .int a2, .int a3, .int a4] G (fun (G1 : GH) =>
    WP M_TM_misfit 0 0 12 [some (.ref t), some (.int a1), some (.int a2), some (.int a3), some (.int a4), some (.int (nI 0))] [] G1 Q) gNo
set_option maxRecDepth 100000 in
theorem V_TM_misfit_0_ok {t : Nat} {a1 : Int32} {a2 : Int32} {a3 : Int32} {a4 : Int32} {G : GH} {Q : GQ} (h : V_TM_misfit_0 t a1 a2 a3 a4 G Q) : WP M_TM_misfit 0 0 0 [some (.ref t), some (.int a1), some (.int a2), some (.int a3), some (.int a4), none] [] G Q := WP.ofV (T := T_TM_misfit) (hh := []) rfl rfl [(12, [true, true, true, true, true, true]), (53, [true, true, true, true, true, true]), (95, [true, true, true, true, true, true])] 83 h
theorem E_TM_misfit {t : Nat} {a1 : Int32} {a2 : Int32} {a3 : Int32} {a4 : Int32} {G : GH} {K : Int32 → GH → Prop} {KX : String → GH → Prop} (h : V_TM_misfit_0 t a1 a2 a3 a4 G (gQi K KX)) : CI M_TM_misfit [.ref t, .int a1, .int a2, .int a3, .int a4] G K KX := CI.of rfl rfl rfl (V_TM_misfit_0_ok h)
def V_TM_misfit_12 (t : Nat) (a1 : Int32) (a2 : Int32) (a3 : Int32) (a4 : Int32) (a5 : Int32) (G : GH) (Q : GQ) : Prop :=
  ∃ (fs1 : List Value) (x2 : Int32), G.2 t = some (.inl (11, fs1)) ∧ fs1[17]? = some (.int x2) ∧
  if a5 < x2 then
    ∃ (fs3 : List Value) (r4 : Nat), G.2 t = some (.inl (11, fs3)) ∧ fs3[10]? = some (.ref r4) ∧
    ∃ (m5 : Nat) (f6 : Nat → Int32), G.2 r4 = some (.inr (.int, m5, .inl f6)) ∧ vp_in a5 m5 ∧
    ∃ (fs7 : List Value) (r8 : Nat), G.2 t = some (.inl (11, fs7)) ∧ fs7[11]? = some (.ref r8) ∧
    ∃ (m9 : Nat) (f10 : Nat → Int32), G.2 r8 = some (.inr (.int, m9, .inl f10)) ∧ vp_in a5 m9 ∧
    CI M_TM_isInside [.ref t, .int (f6 (a5).toNatClampNeg), .int (f10 (a5).toNatClampNeg)] G (fun (x12 : Int32) (G11 : GH) =>
      if x12 = (nI 0) then
        Q.1 (nI 1) G11
      else
        WP M_TM_misfit 0 0 12 [some (.ref t), some (.int a1), some (.int a2), some (.int a3), some (.int a4), some (.int (a5 + nI 1))] [] G11 Q) gNo
  else
    WP M_TM_misfit 0 0 53 [some (.ref t), some (.int a1), some (.int a2), some (.int a3), some (.int a4), some (.int (nI 0))] [] G Q
set_option maxRecDepth 100000 in
theorem V_TM_misfit_12_ok {t : Nat} {a1 : Int32} {a2 : Int32} {a3 : Int32} {a4 : Int32} {a5 : Int32} {G : GH} {Q : GQ} (h : V_TM_misfit_12 t a1 a2 a3 a4 a5 G Q) : WP M_TM_misfit 0 0 12 [some (.ref t), some (.int a1), some (.int a2), some (.int a3), some (.int a4), some (.int a5)] [] G Q := WP.ofV (T := T_TM_misfit) (hh := []) rfl rfl [(12, [true, true, true, true, true, true]), (53, [true, true, true, true, true, true]), (95, [true, true, true, true, true, true])] 83 h
def V_TM_misfit_53 (t : Nat) (a1 : Int32) (a2 : Int32) (a3 : Int32) (a4 : Int32) (a5 : Int32) (G : GH) (Q : GQ) : Prop :=
  ∃ (fs1 : List Value) (x2 : Int32), G.2 t = some (.inl (11, fs1)) ∧ fs1[17]? = some (.int x2) ∧
  if a5 < x2 then
    ∃ (fs3 : List Value) (r4 : Nat), G.2 t = some (.inl (11, fs3)) ∧ fs3[10]? = some (.ref r4) ∧
    ∃ (m5 : Nat) (f6 : Nat → Int32), G.2 r4 = some (.inr (.int, m5, .inl f6)) ∧ vp_in a5 m5 ∧
    ∃ (fs7 : List Value) (r8 : Nat), G.2 t = some (.inl (11, fs7)) ∧ fs7[11]? = some (.ref r8) ∧
    ∃ (m9 : Nat) (f10 : Nat → Int32), G.2 r8 = some (.inr (.int, m9, .inl f10)) ∧ vp_in a5 m9 ∧
    CI M_TM_cell [.ref t, .int (f6 (a5).toNatClampNeg), .int (f10 (a5).toNatClampNeg)] G (fun (x12 : Int32) (G11 : GH) =>
      if x12 = (nI 1) then
        Q.1 (nI 2) G11
      else
        WP M_TM_misfit 0 0 53 [some (.ref t), some (.int a1), some (.int a2), some (.int a3), some (.int a4), some (.int (a5 + nI 1))] [] G11 Q) gNo
  else
    WP M_TM_misfit 0 0 95 [some (.ref t), some (.int a1), some (.int a2), some (.int a3), some (.int a4), some (.int (nI 0))] [] G Q
set_option maxRecDepth 100000 in
theorem V_TM_misfit_53_ok {t : Nat} {a1 : Int32} {a2 : Int32} {a3 : Int32} {a4 : Int32} {a5 : Int32} {G : GH} {Q : GQ} (h : V_TM_misfit_53 t a1 a2 a3 a4 a5 G Q) : WP M_TM_misfit 0 0 53 [some (.ref t), some (.int a1), some (.int a2), some (.int a3), some (.int a4), some (.int a5)] [] G Q := WP.ofV (T := T_TM_misfit) (hh := []) rfl rfl [(12, [true, true, true, true, true, true]), (53, [true, true, true, true, true, true]), (95, [true, true, true, true, true, true])] 83 h
def V_TM_misfit_95 (t : Nat) (a1 : Int32) (a2 : Int32) (a3 : Int32) (a4 : Int32) (a5 : Int32) (G : GH) (Q : GQ) : Prop :=
  ∃ (fs1 : List Value) (x2 : Int32), G.2 t = some (.inl (11, fs1)) ∧ fs1[17]? = some (.int x2) ∧
  if a5 < x2 then
    ∃ (fs3 : List Value) (r4 : Nat), G.2 t = some (.inl (11, fs3)) ∧ fs3[10]? = some (.ref r4) ∧
    ∃ (m5 : Nat) (f6 : Nat → Int32), G.2 r4 = some (.inr (.int, m5, .inl f6)) ∧ vp_in a5 m5 ∧
    ∃ (fs7 : List Value) (r8 : Nat), G.2 t = some (.inl (11, fs7)) ∧ fs7[11]? = some (.ref r8) ∧
    ∃ (m9 : Nat) (f10 : Nat → Int32), G.2 r8 = some (.inr (.int, m9, .inl f10)) ∧ vp_in a5 m9 ∧
    CI M_TM_cell [.ref t, .int (f6 (a5).toNatClampNeg), .int (f10 (a5).toNatClampNeg)] G (fun (x12 : Int32) (G11 : GH) =>
      if x12 < (nI 2) then
        WP M_TM_misfit 0 0 95 [some (.ref t), some (.int a1), some (.int a2), some (.int a3), some (.int a4), some (.int (a5 + nI 1))] [] G11 Q
      else
        Q.1 (nI 3) G11) gNo
  else
    CI M_TM_crosses [.ref t] G (fun (x14 : Int32) (G13 : GH) =>
      if x14 = (nI 0) then
        Q.1 (nI 0) G13
      else
        Q.1 (nI 4) G13) gNo
set_option maxRecDepth 100000 in
theorem V_TM_misfit_95_ok {t : Nat} {a1 : Int32} {a2 : Int32} {a3 : Int32} {a4 : Int32} {a5 : Int32} {G : GH} {Q : GQ} (h : V_TM_misfit_95 t a1 a2 a3 a4 a5 G Q) : WP M_TM_misfit 0 0 95 [some (.ref t), some (.int a1), some (.int a2), some (.int a3), some (.int a4), some (.int a5)] [] G Q := WP.ofV (T := T_TM_misfit) (hh := []) rfl rfl [(12, [true, true, true, true, true, true]), (53, [true, true, true, true, true, true]), (95, [true, true, true, true, true, true])] 83 h
def V_TM_emptyIn_0 (t : Nat) (a1 : Int32) (G : GH) (Q : GQ) : Prop :=
  WP M_TM_emptyIn 0 0 4 [some (.ref t), some (.int a1), some (.int (nI 0)), some (.int (nI 0))] [] G Q
set_option maxRecDepth 100000 in
theorem V_TM_emptyIn_0_ok {t : Nat} {a1 : Int32} {G : GH} {Q : GQ} (h : V_TM_emptyIn_0 t a1 G Q) : WP M_TM_emptyIn 0 0 0 [some (.ref t), some (.int a1), none, none] [] G Q := WP.ofV (T := T_TM_emptyIn) (hh := []) rfl rfl [(4, [true, true, true, true])] 25 h
theorem E_TM_emptyIn {t : Nat} {a1 : Int32} {G : GH} {K : Int32 → GH → Prop} {KX : String → GH → Prop} (h : V_TM_emptyIn_0 t a1 G (gQi K KX)) : CI M_TM_emptyIn [.ref t, .int a1] G K KX := CI.of rfl rfl rfl (V_TM_emptyIn_0_ok h)
def V_TM_emptyIn_4 (t : Nat) (a1 : Int32) (a2 : Int32) (a3 : Int32) (G : GH) (Q : GQ) : Prop :=
  ∃ (fs1 : List Value) (r2 : Nat), G.2 t = some (.inl (11, fs1)) ∧ fs1[0]? = some (.ref r2) ∧
  ∃ (m3 : Nat) (f4 : Nat → Int32), G.2 r2 = some (.inr (.int, m3, .inl f4)) ∧ vp_in (nI 0) m3 ∧
  if a3 < (f4 (nI 0).toNatClampNeg) then
    CI M_TM_cell [.ref t, .int a3, .int a1] G (fun (x6 : Int32) (G5 : GH) =>
      if x6 = (nI 0) then
        WP M_TM_emptyIn 0 0 4 [some (.ref t), some (.int a1), some (.int (a2 + nI 1)), some (.int (a3 + nI 1))] [] G5 Q
      else
        WP M_TM_emptyIn 0 0 4 [some (.ref t), some (.int a1), some (.int a2), some (.int (a3 + nI 1))] [] G5 Q) gNo
  else
    Q.1 a2 G
set_option maxRecDepth 100000 in
theorem V_TM_emptyIn_4_ok {t : Nat} {a1 : Int32} {a2 : Int32} {a3 : Int32} {G : GH} {Q : GQ} (h : V_TM_emptyIn_4 t a1 a2 a3 G Q) : WP M_TM_emptyIn 0 0 4 [some (.ref t), some (.int a1), some (.int a2), some (.int a3)] [] G Q := WP.ofV (T := T_TM_emptyIn) (hh := []) rfl rfl [(4, [true, true, true, true])] 25 h
def V_TM_points_0 (t : Nat) (a1 : Int32) (a2 : Int32) (a3 : Int32) (a4 : Int32) (G : GH) (Q : GQ) : Prop :=
  CV M_TM_spreads [.ref t, .int a1, .int a2, .int a3, .int a4] G (fun (G1 : GH) =>
    ∃ (fs2 : List Value) (x3 : Int32), G1.2 t = some (.inl (11, fs2)) ∧ fs2[17]? = some (.int x3) ∧
    WP M_TM_points 0 0 18 [some (.ref t), some (.int a1), some (.int a2), some (.int a3), some (.int a4), some (.int x3), some (.int (nI 0)), none, none] [] G1 Q) gNo
set_option maxRecDepth 100000 in
theorem V_TM_points_0_ok {t : Nat} {a1 : Int32} {a2 : Int32} {a3 : Int32} {a4 : Int32} {G : GH} {Q : GQ} (h : V_TM_points_0 t a1 a2 a3 a4 G Q) : WP M_TM_points 0 0 0 [some (.ref t), some (.int a1), some (.int a2), some (.int a3), some (.int a4), none, none, none, none] [] G Q := WP.ofV (T := T_TM_points) (hh := []) rfl rfl [(18, [true, true, true, true, true, true, true, false, false]), (35, [true, true, true, true, true, true, true, true, true])] 57 h
theorem E_TM_points {t : Nat} {a1 : Int32} {a2 : Int32} {a3 : Int32} {a4 : Int32} {G : GH} {K : Int32 → GH → Prop} {KX : String → GH → Prop} (h : V_TM_points_0 t a1 a2 a3 a4 G (gQi K KX)) : CI M_TM_points [.ref t, .int a1, .int a2, .int a3, .int a4] G K KX := CI.of rfl rfl rfl (V_TM_points_0_ok h)
def V_TM_points_18 (t : Nat) (a1 : Int32) (a2 : Int32) (a3 : Int32) (a4 : Int32) (a5 : Int32) (a6 : Int32) (G : GH) (Q : GQ) : Prop :=
  ∃ (fs1 : List Value) (r2 : Nat), G.2 t = some (.inl (11, fs1)) ∧ fs1[0]? = some (.ref r2) ∧
  ∃ (m3 : Nat) (f4 : Nat → Int32), G.2 r2 = some (.inr (.int, m3, .inl f4)) ∧ vp_in (nI 1) m3 ∧
  if a6 < (f4 (nI 1).toNatClampNeg) then
    WP M_TM_points 0 0 35 [some (.ref t), some (.int a1), some (.int a2), some (.int a3), some (.int a4), some (.int a5), some (.int a6), some (.int (nI 0)), some (.int (nI 0))] [] G Q
  else
    Q.1 a5 G
set_option maxRecDepth 100000 in
theorem V_TM_points_18_ok {t : Nat} {a1 : Int32} {a2 : Int32} {a3 : Int32} {a4 : Int32} {a5 : Int32} {a6 : Int32} {G : GH} {Q : GQ} (h : V_TM_points_18 t a1 a2 a3 a4 a5 a6 G Q) : WP M_TM_points 0 0 18 [some (.ref t), some (.int a1), some (.int a2), some (.int a3), some (.int a4), some (.int a5), some (.int a6), none, none] [] G Q := WP.ofV (T := T_TM_points) (hh := []) rfl rfl [(18, [true, true, true, true, true, true, true, false, false]), (35, [true, true, true, true, true, true, true, true, true])] 57 h
def V_TM_points_35 (t : Nat) (a1 : Int32) (a2 : Int32) (a3 : Int32) (a4 : Int32) (a5 : Int32) (a6 : Int32) (a7 : Int32) (a8 : Int32) (G : GH) (Q : GQ) : Prop :=
  ∃ (fs1 : List Value) (x2 : Int32), G.2 t = some (.inl (11, fs1)) ∧ fs1[17]? = some (.int x2) ∧
  if a8 < x2 then
    ∃ (fs3 : List Value) (r4 : Nat), G.2 t = some (.inl (11, fs3)) ∧ fs3[11]? = some (.ref r4) ∧
    ∃ (m5 : Nat) (f6 : Nat → Int32), G.2 r4 = some (.inr (.int, m5, .inl f6)) ∧ vp_in a8 m5 ∧
    if (f6 (a8).toNatClampNeg) = a6 then
      WP M_TM_points 0 0 35 [some (.ref t), some (.int a1), some (.int a2), some (.int a3), some (.int a4), some (.int a5), some (.int a6), some (.int (a7 + nI 1)), some (.int (a8 + nI 1))] [] G Q
    else
      WP M_TM_points 0 0 35 [some (.ref t), some (.int a1), some (.int a2), some (.int a3), some (.int a4), some (.int a5), some (.int a6), some (.int a7), some (.int (a8 + nI 1))] [] G Q
  else
    if (nI 0) < a7 then
      CI M_TM_emptyIn [.ref t, .int a6] G (fun (x8 : Int32) (G7 : GH) =>
        if a7 = x8 then
          ∃ (fs9 : List Value) (r10 : Nat), G7.2 t = some (.inl (11, fs9)) ∧ fs9[0]? = some (.ref r10) ∧
          ∃ (m11 : Nat) (f12 : Nat → Int32), G7.2 r10 = some (.inr (.int, m11, .inl f12)) ∧ vp_in (nI 0) m11 ∧
          WP M_TM_points 0 0 18 [some (.ref t), some (.int a1), some (.int a2), some (.int a3), some (.int a4), some (.int (a5 + (f12 (nI 0).toNatClampNeg))), some (.int (a6 + nI 1)), none, none] [] G7 Q
        else
          WP M_TM_points 0 0 18 [some (.ref t), some (.int a1), some (.int a2), some (.int a3), some (.int a4), some (.int a5), some (.int (a6 + nI 1)), none, none] [] G7 Q) gNo
    else
      WP M_TM_points 0 0 18 [some (.ref t), some (.int a1), some (.int a2), some (.int a3), some (.int a4), some (.int a5), some (.int (a6 + nI 1)), none, none] [] G Q
set_option maxRecDepth 100000 in
theorem V_TM_points_35_ok {t : Nat} {a1 : Int32} {a2 : Int32} {a3 : Int32} {a4 : Int32} {a5 : Int32} {a6 : Int32} {a7 : Int32} {a8 : Int32} {G : GH} {Q : GQ} (h : V_TM_points_35 t a1 a2 a3 a4 a5 a6 a7 a8 G Q) : WP M_TM_points 0 0 35 [some (.ref t), some (.int a1), some (.int a2), some (.int a3), some (.int a4), some (.int a5), some (.int a6), some (.int a7), some (.int a8)] [] G Q := WP.ofV (T := T_TM_points) (hh := []) rfl rfl [(18, [true, true, true, true, true, true, true, false, false]), (35, [true, true, true, true, true, true, true, true, true])] 57 h
def V_TM_fitting_0 (t : Nat) (a1 : Int32) (G : GH) (Q : GQ) : Prop :=
  WP M_TM_fitting 0 0 4 [some (.ref t), some (.int a1), some (.int (nI 0)), some (.int (nI 0)), none, none] [] G Q
set_option maxRecDepth 100000 in
theorem V_TM_fitting_0_ok {t : Nat} {a1 : Int32} {G : GH} {Q : GQ} (h : V_TM_fitting_0 t a1 G Q) : WP M_TM_fitting 0 0 0 [some (.ref t), some (.int a1), none, none, none, none] [] G Q := WP.ofV (T := T_TM_fitting) (hh := []) rfl rfl [(4, [true, true, true, true, false, false]), (12, [true, true, true, true, true, false]), (26, [true, true, true, true, true, true])] 44 h
theorem E_TM_fitting {t : Nat} {a1 : Int32} {G : GH} {K : Int32 → GH → Prop} {KX : String → GH → Prop} (h : V_TM_fitting_0 t a1 G (gQi K KX)) : CI M_TM_fitting [.ref t, .int a1] G K KX := CI.of rfl rfl rfl (V_TM_fitting_0_ok h)
def V_TM_fitting_4 (t : Nat) (a1 : Int32) (a2 : Int32) (a3 : Int32) (G : GH) (Q : GQ) : Prop :=
  if a3 < (nI 4) then
    WP M_TM_fitting 0 0 12 [some (.ref t), some (.int a1), some (.int a2), some (.int a3), some (.int (nI 0)), none] [] G Q
  else
    Q.1 a2 G
set_option maxRecDepth 100000 in
theorem V_TM_fitting_4_ok {t : Nat} {a1 : Int32} {a2 : Int32} {a3 : Int32} {G : GH} {Q : GQ} (h : V_TM_fitting_4 t a1 a2 a3 G Q) : WP M_TM_fitting 0 0 4 [some (.ref t), some (.int a1), some (.int a2), some (.int a3), none, none] [] G Q := WP.ofV (T := T_TM_fitting) (hh := []) rfl rfl [(4, [true, true, true, true, false, false]), (12, [true, true, true, true, true, false]), (26, [true, true, true, true, true, true])] 44 h
def V_TM_fitting_12 (t : Nat) (a1 : Int32) (a2 : Int32) (a3 : Int32) (a4 : Int32) (G : GH) (Q : GQ) : Prop :=
  ∃ (fs1 : List Value) (r2 : Nat), G.2 t = some (.inl (11, fs1)) ∧ fs1[0]? = some (.ref r2) ∧
  ∃ (m3 : Nat) (f4 : Nat → Int32), G.2 r2 = some (.inr (.int, m3, .inl f4)) ∧ vp_in (nI 1) m3 ∧
  if a4 < (f4 (nI 1).toNatClampNeg) then
    WP M_TM_fitting 0 0 26 [some (.ref t), some (.int a1), some (.int a2), some (.int a3), some (.int a4), some (.int (nI 0))] [] G Q
  else
    WP M_TM_fitting 0 0 4 [some (.ref t), some (.int a1), some (.int a2), some (.int (a3 + nI 1)), none, none] [] G Q
set_option maxRecDepth 100000 in
theorem V_TM_fitting_12_ok {t : Nat} {a1 : Int32} {a2 : Int32} {a3 : Int32} {a4 : Int32} {G : GH} {Q : GQ} (h : V_TM_fitting_12 t a1 a2 a3 a4 G Q) : WP M_TM_fitting 0 0 12 [some (.ref t), some (.int a1), some (.int a2), some (.int a3), some (.int a4), none] [] G Q := WP.ofV (T := T_TM_fitting) (hh := []) rfl rfl [(4, [true, true, true, true, false, false]), (12, [true, true, true, true, true, false]), (26, [true, true, true, true, true, true])] 44 h
def V_TM_fitting_26 (t : Nat) (a1 : Int32) (a2 : Int32) (a3 : Int32) (a4 : Int32) (a5 : Int32) (G : GH) (Q : GQ) : Prop :=
  ∃ (fs1 : List Value) (r2 : Nat), G.2 t = some (.inl (11, fs1)) ∧ fs1[0]? = some (.ref r2) ∧
  ∃ (m3 : Nat) (f4 : Nat → Int32), G.2 r2 = some (.inr (.int, m3, .inl f4)) ∧ vp_in (nI 0) m3 ∧
  if a5 < (f4 (nI 0).toNatClampNeg) then
    CI M_TM_misfit [.ref t, .int a1, .int a3, .int a5, .int a4] G (fun (x6 : Int32) (G5 : GH) =>
      if x6 = (nI 0) then
        WP M_TM_fitting 0 0 26 [some (.ref t), some (.int a1), some (.int (a2 + nI 1)), some (.int a3), some (.int a4), some (.int (a5 + nI 1))] [] G5 Q
      else
        WP M_TM_fitting 0 0 26 [some (.ref t), some (.int a1), some (.int a2), some (.int a3), some (.int a4), some (.int (a5 + nI 1))] [] G5 Q) gNo
  else
    WP M_TM_fitting 0 0 12 [some (.ref t), some (.int a1), some (.int a2), some (.int a3), some (.int (a4 + nI 1)), none] [] G Q
set_option maxRecDepth 100000 in
theorem V_TM_fitting_26_ok {t : Nat} {a1 : Int32} {a2 : Int32} {a3 : Int32} {a4 : Int32} {a5 : Int32} {G : GH} {Q : GQ} (h : V_TM_fitting_26 t a1 a2 a3 a4 a5 G Q) : WP M_TM_fitting 0 0 26 [some (.ref t), some (.int a1), some (.int a2), some (.int a3), some (.int a4), some (.int a5)] [] G Q := WP.ofV (T := T_TM_fitting) (hh := []) rfl rfl [(4, [true, true, true, true, false, false]), (12, [true, true, true, true, true, false]), (26, [true, true, true, true, true, true])] 44 h
def V_TM_of_0 (t : Nat) (a1 : Int32) (a2 : Int32) (G : GH) (Q : GQ) : Prop :=
  ∃ (fs1 : List Value) (r2 : Nat), G.2 t = some (.inl (11, fs1)) ∧ fs1[0]? = some (.ref r2) ∧
  ∃ (m3 : Nat) (f4 : Nat → Int32), G.2 r2 = some (.inr (.int, m3, .inl f4)) ∧ vp_in (((nI 5) + (a1 * (nI 14))) + a2) m3 ∧
  Q.1 (f4 (((nI 5) + (a1 * (nI 14))) + a2).toNatClampNeg) G
set_option maxRecDepth 100000 in
theorem V_TM_of_0_ok {t : Nat} {a1 : Int32} {a2 : Int32} {G : GH} {Q : GQ} (h : V_TM_of_0 t a1 a2 G Q) : WP M_TM_of 0 0 0 [some (.ref t), some (.int a1), some (.int a2)] [] G Q := WP.ofV (T := T_TM_of) (hh := []) rfl rfl [] 16 h
theorem E_TM_of {t : Nat} {a1 : Int32} {a2 : Int32} {G : GH} {K : Int32 → GH → Prop} {KX : String → GH → Prop} (h : V_TM_of_0 t a1 a2 G (gQi K KX)) : CI M_TM_of [.ref t, .int a1, .int a2] G K KX := CI.of rfl rfl rfl (V_TM_of_0_ok h)
def V_TM_put_0 (t : Nat) (a1 : Int32) (a2 : Int32) (a3 : Int32) (G : GH) (Q : GQ) : Prop :=
  ∃ (fs1 : List Value) (r2 : Nat), G.2 t = some (.inl (11, fs1)) ∧ fs1[0]? = some (.ref r2) ∧
  r2 < gRB ∧ ∃ (m3 : Nat) (f4 : Nat → Int32), G.2 r2 = some (.inr (.int, m3, .inl f4)) ∧ vp_in (((nI 5) + (a1 * (nI 14))) + a2) m3 ∧
  let G5 : GH := gU G r2 (.inr (.int, m3, .inl (upd f4 (((nI 5) + (a1 * (nI 14))) + a2).toNatClampNeg a3)));
  Q.2.1 G5
set_option maxRecDepth 100000 in
theorem V_TM_put_0_ok {t : Nat} {a1 : Int32} {a2 : Int32} {a3 : Int32} {G : GH} {Q : GQ} (h : V_TM_put_0 t a1 a2 a3 G Q) : WP M_TM_put 0 0 0 [some (.ref t), some (.int a1), some (.int a2), some (.int a3)] [] G Q := WP.ofV (T := T_TM_put) (hh := []) rfl rfl [] 17 h
theorem E_TM_put {t : Nat} {a1 : Int32} {a2 : Int32} {a3 : Int32} {G : GH} {K : GH → Prop} {KX : String → GH → Prop} (h : V_TM_put_0 t a1 a2 a3 G (gQv K KX)) : CV M_TM_put [.ref t, .int a1, .int a2, .int a3] G K KX := CV.of rfl rfl rfl (V_TM_put_0_ok h)
def V_TM_over_0 (t : Nat) (G : GH) (Q : GQ) : Prop :=
  ∃ (fs1 : List Value) (r2 : Nat), G.2 t = some (.inl (11, fs1)) ∧ fs1[0]? = some (.ref r2) ∧
  ∃ (m3 : Nat) (f4 : Nat → Int32), G.2 r2 = some (.inr (.int, m3, .inl f4)) ∧ vp_in (nI 3) m3 ∧
  if (f4 (nI 3).toNatClampNeg) = (nI 2) then
    ((nI 1) = nI 0 ∨ (nI 1) = nI 1) ∧ Q.1 (nI 1) G
  else
    ((nI 0) = nI 0 ∨ (nI 0) = nI 1) ∧ Q.1 (nI 0) G
set_option maxRecDepth 100000 in
theorem V_TM_over_0_ok {t : Nat} {G : GH} {Q : GQ} (h : V_TM_over_0 t G Q) : WP M_TM_over 0 0 0 [some (.ref t)] [] G Q := WP.ofV (T := T_TM_over) (hh := []) rfl rfl [] 15 h
theorem E_TM_over {t : Nat} {G : GH} {K : Int32 → GH → Prop} {KX : String → GH → Prop} (h : V_TM_over_0 t G (gQi K KX)) : CI M_TM_over [.ref t] G K KX := CI.of rfl rfl rfl (V_TM_over_0_ok h)
def V_TM_moves_0 (t : Nat) (a1 : Int32) (G : GH) (Q : GQ) : Prop :=
  WP M_TM_moves 0 0 4 [some (.ref t), some (.int a1), some (.int (nI 0)), some (.int (nI 0))] [] G Q
set_option maxRecDepth 100000 in
theorem V_TM_moves_0_ok {t : Nat} {a1 : Int32} {G : GH} {Q : GQ} (h : V_TM_moves_0 t a1 G Q) : WP M_TM_moves 0 0 0 [some (.ref t), some (.int a1), none, none] [] G Q := WP.ofV (T := T_TM_moves) (hh := []) rfl rfl [(4, [true, true, true, true])] 29 h
theorem E_TM_moves {t : Nat} {a1 : Int32} {G : GH} {K : Int32 → GH → Prop} {KX : String → GH → Prop} (h : V_TM_moves_0 t a1 G (gQi K KX)) : CI M_TM_moves [.ref t, .int a1] G K KX := CI.of rfl rfl rfl (V_TM_moves_0_ok h)
def V_TM_moves_4 (t : Nat) (a1 : Int32) (a2 : Int32) (a3 : Int32) (G : GH) (Q : GQ) : Prop :=
  if a3 < (nI 5) then
    CI M_TM_of [.ref t, .int a1, .int ((nI 2) + a3)] G (fun (x2 : Int32) (G1 : GH) =>
      if (nI 0) < x2 then
        CI M_TM_fitting [.ref t, .int a3] G1 (fun (x4 : Int32) (G3 : GH) =>
          WP M_TM_moves 0 0 4 [some (.ref t), some (.int a1), some (.int (a2 + x4)), some (.int (a3 + nI 1))] [] G3 Q) gNo
      else
        WP M_TM_moves 0 0 4 [some (.ref t), some (.int a1), some (.int a2), some (.int (a3 + nI 1))] [] G1 Q) gNo
  else
    Q.1 a2 G
set_option maxRecDepth 100000 in
theorem V_TM_moves_4_ok {t : Nat} {a1 : Int32} {a2 : Int32} {a3 : Int32} {G : GH} {Q : GQ} (h : V_TM_moves_4 t a1 a2 a3 G Q) : WP M_TM_moves 0 0 4 [some (.ref t), some (.int a1), some (.int a2), some (.int a3)] [] G Q := WP.ofV (T := T_TM_moves) (hh := []) rfl rfl [(4, [true, true, true, true])] 29 h
def V_TM_mayPlace_0 (t : Nat) (a1 : Int32) (a2 : Int32) (a3 : Int32) (a4 : Int32) (G : GH) (Q : GQ) : Prop :=
  CI M_TM_over [.ref t] G (fun (x2 : Int32) (G1 : GH) =>
    if x2 = (nI 0) then
      ∃ (fs3 : List Value) (r4 : Nat), G1.2 t = some (.inl (11, fs3)) ∧ fs3[0]? = some (.ref r4) ∧
      ∃ (m5 : Nat) (f6 : Nat → Int32), G1.2 r4 = some (.inr (.int, m5, .inl f6)) ∧ vp_in (nI 2) m5 ∧
      CI M_TM_of [.ref t, .int (f6 (nI 2).toNatClampNeg), .int ((nI 2) + a1)] G1 (fun (x8 : Int32) (G7 : GH) =>
        if (nI 0) < x8 then
          CI M_TM_misfit [.ref t, .int a1, .int a2, .int a3, .int a4] G7 (fun (x10 : Int32) (G9 : GH) =>
            if x10 = (nI 0) then
              ((nI 1) = nI 0 ∨ (nI 1) = nI 1) ∧ Q.1 (nI 1) G9
            else
              ((nI 0) = nI 0 ∨ (nI 0) = nI 1) ∧ Q.1 (nI 0) G9) gNo
        else
          ((nI 0) = nI 0 ∨ (nI 0) = nI 1) ∧ Q.1 (nI 0) G7) gNo
    else
      ((nI 0) = nI 0 ∨ (nI 0) = nI 1) ∧ Q.1 (nI 0) G1) gNo
set_option maxRecDepth 100000 in
theorem V_TM_mayPlace_0_ok {t : Nat} {a1 : Int32} {a2 : Int32} {a3 : Int32} {a4 : Int32} {G : GH} {Q : GQ} (h : V_TM_mayPlace_0 t a1 a2 a3 a4 G Q) : WP M_TM_mayPlace 0 0 0 [some (.ref t), some (.int a1), some (.int a2), some (.int a3), some (.int a4)] [] G Q := WP.ofV (T := T_TM_mayPlace) (hh := []) rfl rfl [] 29 h
theorem E_TM_mayPlace {t : Nat} {a1 : Int32} {a2 : Int32} {a3 : Int32} {a4 : Int32} {G : GH} {K : Int32 → GH → Prop} {KX : String → GH → Prop} (h : V_TM_mayPlace_0 t a1 a2 a3 a4 G (gQi K KX)) : CI M_TM_mayPlace [.ref t, .int a1, .int a2, .int a3, .int a4] G K KX := CI.of rfl rfl rfl (V_TM_mayPlace_0_ok h)
def V_TM_turns_0 (t : Nat) (G : GH) (Q : GQ) : Prop :=
  ∃ (fs1 : List Value) (r2 : Nat), G.2 t = some (.inl (11, fs1)) ∧ fs1[0]? = some (.ref r2) ∧
  ∃ (fs3 : List Value) (r4 : Nat), G.2 t = some (.inl (11, fs3)) ∧ fs3[0]? = some (.ref r4) ∧
  ∃ (m5 : Nat) (f6 : Nat → Int32), G.2 r4 = some (.inr (.int, m5, .inl f6)) ∧ vp_in (nI 2) m5 ∧
  r2 < gRB ∧ ∃ (m7 : Nat) (f8 : Nat → Int32), G.2 r2 = some (.inr (.int, m7, .inl f8)) ∧ vp_in (nI 2) m7 ∧
  let G9 : GH := gU G r2 (.inr (.int, m7, .inl (upd f8 (nI 2).toNatClampNeg ((nI 1) - (f6 (nI 2).toNatClampNeg)))));
  ∃ (fs10 : List Value) (r11 : Nat), G9.2 t = some (.inl (11, fs10)) ∧ fs10[0]? = some (.ref r11) ∧
  r11 < gRB ∧ ∃ (m12 : Nat) (f13 : Nat → Int32), G9.2 r11 = some (.inr (.int, m12, .inl f13)) ∧ vp_in (nI 3) m12 ∧
  let G14 : GH := gU G9 r11 (.inr (.int, m12, .inl (upd f13 (nI 3).toNatClampNeg (nI 0))));
  Q.2.1 G14
set_option maxRecDepth 100000 in
theorem V_TM_turns_0_ok {t : Nat} {G : GH} {Q : GQ} (h : V_TM_turns_0 t G Q) : WP M_TM_turns 0 0 0 [some (.ref t)] [] G Q := WP.ofV (T := T_TM_turns) (hh := []) rfl rfl [] 21 h
theorem E_TM_turns {t : Nat} {G : GH} {K : GH → Prop} {KX : String → GH → Prop} (h : V_TM_turns_0 t G (gQv K KX)) : CV M_TM_turns [.ref t] G K KX := CV.of rfl rfl rfl (V_TM_turns_0_ok h)
def V_TM_places_0 (t : Nat) (a1 : Int32) (a2 : Int32) (a3 : Int32) (a4 : Int32) (G : GH) (Q : GQ) : Prop :=
  CI M_TM_points [.ref t, .int a1, .int a2, .int a3, .int a4] G (fun (x2 : Int32) (G1 : GH) =>
    ∃ (fs3 : List Value) (r4 : Nat), G1.2 t = some (.inl (11, fs3)) ∧ fs3[0]? = some (.ref r4) ∧
    ∃ (m5 : Nat) (f6 : Nat → Int32), G1.2 r4 = some (.inr (.int, m5, .inl f6)) ∧ vp_in (nI 4) m5 ∧
    WP M_TM_places 0 0 33 [some (.ref t), some (.int a1), some (.int a2), some (.int a3), some (.int a4), some (.int x2), some (.int (f6 (nI 4).toNatClampNeg)), some (.int ((nI 225) + ((f6 (nI 4).toNatClampNeg) * (nI 6)))), some (.int (nI 0))] [] G1 Q) gNo
set_option maxRecDepth 100000 in
theorem V_TM_places_0_ok {t : Nat} {a1 : Int32} {a2 : Int32} {a3 : Int32} {a4 : Int32} {G : GH} {Q : GQ} (h : V_TM_places_0 t a1 a2 a3 a4 G Q) : WP M_TM_places 0 0 0 [some (.ref t), some (.int a1), some (.int a2), some (.int a3), some (.int a4), none, none, none, none] [] G Q := WP.ofV (T := T_TM_places) (hh := []) rfl rfl [(33, [true, true, true, true, true, true, true, true, true]), (133, [true, true, true, true, true, true, true, true, true])] 141 h
theorem E_TM_places {t : Nat} {a1 : Int32} {a2 : Int32} {a3 : Int32} {a4 : Int32} {G : GH} {K : Int32 → GH → Prop} {KX : String → GH → Prop} (h : V_TM_places_0 t a1 a2 a3 a4 G (gQi K KX)) : CI M_TM_places [.ref t, .int a1, .int a2, .int a3, .int a4] G K KX := CI.of rfl rfl rfl (V_TM_places_0_ok h)
def V_TM_places_33 (t : Nat) (a1 : Int32) (a2 : Int32) (a3 : Int32) (a4 : Int32) (a5 : Int32) (a6 : Int32) (a7 : Int32) (a8 : Int32) (G : GH) (Q : GQ) : Prop :=
  ∃ (fs1 : List Value) (x2 : Int32), G.2 t = some (.inl (11, fs1)) ∧ fs1[17]? = some (.int x2) ∧
  if a8 < x2 then
    ∃ (fs3 : List Value) (r4 : Nat), G.2 t = some (.inl (11, fs3)) ∧ fs3[0]? = some (.ref r4) ∧
    ∃ (fs5 : List Value) (r6 : Nat), G.2 t = some (.inl (11, fs5)) ∧ fs5[10]? = some (.ref r6) ∧
    ∃ (m7 : Nat) (f8 : Nat → Int32), G.2 r6 = some (.inr (.int, m7, .inl f8)) ∧ vp_in a8 m7 ∧
    ∃ (fs9 : List Value) (r10 : Nat), G.2 t = some (.inl (11, fs9)) ∧ fs9[11]? = some (.ref r10) ∧
    ∃ (m11 : Nat) (f12 : Nat → Int32), G.2 r10 = some (.inr (.int, m11, .inl f12)) ∧ vp_in a8 m11 ∧
    CI M_TM_at [.int (f8 (a8).toNatClampNeg), .int (f12 (a8).toNatClampNeg)] G (fun (x14 : Int32) (G13 : GH) =>
      r4 < gRB ∧ ∃ (m15 : Nat) (f16 : Nat → Int32), G13.2 r4 = some (.inr (.int, m15, .inl f16)) ∧ vp_in ((nI 33) + x14) m15 ∧
      let G17 : GH := gU G13 r4 (.inr (.int, m15, .inl (upd f16 ((nI 33) + x14).toNatClampNeg ((nI 2) + a6))));
      WP M_TM_places 0 0 33 [some (.ref t), some (.int a1), some (.int a2), some (.int a3), some (.int a4), some (.int a5), some (.int a6), some (.int a7), some (.int (a8 + nI 1))] [] G17 Q) gNo
  else
    ∃ (fs18 : List Value) (r19 : Nat), G.2 t = some (.inl (11, fs18)) ∧ fs18[0]? = some (.ref r19) ∧
    r19 < gRB ∧ ∃ (m20 : Nat) (f21 : Nat → Int32), G.2 r19 = some (.inr (.int, m20, .inl f21)) ∧ vp_in (a7 + (nI 0)) m20 ∧
    let G22 : GH := gU G r19 (.inr (.int, m20, .inl (upd f21 (a7 + (nI 0)).toNatClampNeg a1)));
    ∃ (fs23 : List Value) (r24 : Nat), G22.2 t = some (.inl (11, fs23)) ∧ fs23[0]? = some (.ref r24) ∧
    r24 < gRB ∧ ∃ (m25 : Nat) (f26 : Nat → Int32), G22.2 r24 = some (.inr (.int, m25, .inl f26)) ∧ vp_in (a7 + (nI 1)) m25 ∧
    let G27 : GH := gU G22 r24 (.inr (.int, m25, .inl (upd f26 (a7 + (nI 1)).toNatClampNeg a2)));
    ∃ (fs28 : List Value) (r29 : Nat), G27.2 t = some (.inl (11, fs28)) ∧ fs28[0]? = some (.ref r29) ∧
    r29 < gRB ∧ ∃ (m30 : Nat) (f31 : Nat → Int32), G27.2 r29 = some (.inr (.int, m30, .inl f31)) ∧ vp_in (a7 + (nI 2)) m30 ∧
    let G32 : GH := gU G27 r29 (.inr (.int, m30, .inl (upd f31 (a7 + (nI 2)).toNatClampNeg a3)));
    ∃ (fs33 : List Value) (r34 : Nat), G32.2 t = some (.inl (11, fs33)) ∧ fs33[0]? = some (.ref r34) ∧
    r34 < gRB ∧ ∃ (m35 : Nat) (f36 : Nat → Int32), G32.2 r34 = some (.inr (.int, m35, .inl f36)) ∧ vp_in (a7 + (nI 3)) m35 ∧
    let G37 : GH := gU G32 r34 (.inr (.int, m35, .inl (upd f36 (a7 + (nI 3)).toNatClampNeg a4)));
    ∃ (fs38 : List Value) (r39 : Nat), G37.2 t = some (.inl (11, fs38)) ∧ fs38[0]? = some (.ref r39) ∧
    ∃ (fs40 : List Value) (r41 : Nat), G37.2 t = some (.inl (11, fs40)) ∧ fs40[0]? = some (.ref r41) ∧
    ∃ (m42 : Nat) (f43 : Nat → Int32), G37.2 r41 = some (.inr (.int, m42, .inl f43)) ∧ vp_in (nI 2) m42 ∧
    r39 < gRB ∧ ∃ (m44 : Nat) (f45 : Nat → Int32), G37.2 r39 = some (.inr (.int, m44, .inl f45)) ∧ vp_in (a7 + (nI 4)) m44 ∧
    let G46 : GH := gU G37 r39 (.inr (.int, m44, .inl (upd f45 (a7 + (nI 4)).toNatClampNeg (f43 (nI 2).toNatClampNeg))));
    WP M_TM_places 0 0 133 [some (.ref t), some (.int a1), some (.int a2), some (.int a3), some (.int a4), some (.int a5), some (.int a6), some (.int a7), some (.int a8)] [] G46 Q
set_option maxRecDepth 100000 in
theorem V_TM_places_33_ok {t : Nat} {a1 : Int32} {a2 : Int32} {a3 : Int32} {a4 : Int32} {a5 : Int32} {a6 : Int32} {a7 : Int32} {a8 : Int32} {G : GH} {Q : GQ} (h : V_TM_places_33 t a1 a2 a3 a4 a5 a6 a7 a8 G Q) : WP M_TM_places 0 0 33 [some (.ref t), some (.int a1), some (.int a2), some (.int a3), some (.int a4), some (.int a5), some (.int a6), some (.int a7), some (.int a8)] [] G Q := WP.ofV (T := T_TM_places) (hh := []) rfl rfl [(33, [true, true, true, true, true, true, true, true, true]), (133, [true, true, true, true, true, true, true, true, true])] 141 h
def V_TM_places_133 (t : Nat) (a1 : Int32) (a2 : Int32) (a3 : Int32) (a4 : Int32) (a5 : Int32) (a6 : Int32) (a7 : Int32) (a8 : Int32) (G : GH) (Q : GQ) : Prop :=
  ∃ (fs1 : List Value) (r2 : Nat), G.2 t = some (.inl (11, fs1)) ∧ fs1[0]? = some (.ref r2) ∧
  r2 < gRB ∧ ∃ (m3 : Nat) (f4 : Nat → Int32), G.2 r2 = some (.inr (.int, m3, .inl f4)) ∧ vp_in (a7 + (nI 5)) m3 ∧
  let G5 : GH := gU G r2 (.inr (.int, m3, .inl (upd f4 (a7 + (nI 5)).toNatClampNeg a5)));
  ∃ (fs6 : List Value) (r7 : Nat), G5.2 t = some (.inl (11, fs6)) ∧ fs6[0]? = some (.ref r7) ∧
  ∃ (m8 : Nat) (f9 : Nat → Int32), G5.2 r7 = some (.inr (.int, m8, .inl f9)) ∧ vp_in (nI 4) m8 ∧
  r7 < gRB ∧ ∃ (m10 : Nat) (f11 : Nat → Int32), G5.2 r7 = some (.inr (.int, m10, .inl f11)) ∧ vp_in (nI 4) m10 ∧
  let G12 : GH := gU G5 r7 (.inr (.int, m10, .inl (upd f11 (nI 4).toNatClampNeg ((f9 (nI 4).toNatClampNeg) + (nI 1)))));
  ∃ (fs13 : List Value) (r14 : Nat), G12.2 t = some (.inl (11, fs13)) ∧ fs13[0]? = some (.ref r14) ∧
  ∃ (m15 : Nat) (f16 : Nat → Int32), G12.2 r14 = some (.inr (.int, m15, .inl f16)) ∧ vp_in (nI 2) m15 ∧
  ∃ (fs17 : List Value) (r18 : Nat), G12.2 t = some (.inl (11, fs17)) ∧ fs17[0]? = some (.ref r18) ∧
  ∃ (m19 : Nat) (f20 : Nat → Int32), G12.2 r18 = some (.inr (.int, m19, .inl f20)) ∧ vp_in (nI 2) m19 ∧
  CI M_TM_of [.ref t, .int (f20 (nI 2).toNatClampNeg), .int (nI 0)] G12 (fun (x22 : Int32) (G21 : GH) =>
    CV M_TM_put [.ref t, .int (f16 (nI 2).toNatClampNeg), .int (nI 0), .int (x22 + a5)] G21 (fun (G23 : GH) =>
      ∃ (fs24 : List Value) (r25 : Nat), G23.2 t = some (.inl (11, fs24)) ∧ fs24[0]? = some (.ref r25) ∧
      ∃ (m26 : Nat) (f27 : Nat → Int32), G23.2 r25 = some (.inr (.int, m26, .inl f27)) ∧ vp_in (nI 2) m26 ∧
      ∃ (fs28 : List Value) (r29 : Nat), G23.2 t = some (.inl (11, fs28)) ∧ fs28[0]? = some (.ref r29) ∧
      ∃ (m30 : Nat) (f31 : Nat → Int32), G23.2 r29 = some (.inr (.int, m30, .inl f31)) ∧ vp_in (nI 2) m30 ∧
      CI M_TM_of [.ref t, .int (f31 (nI 2).toNatClampNeg), .int ((nI 2) + a1)] G23 (fun (x33 : Int32) (G32 : GH) =>
        CV M_TM_put [.ref t, .int (f27 (nI 2).toNatClampNeg), .int ((nI 2) + a1), .int (x33 - (nI 1))] G32 (fun (G34 : GH) =>
          CV M_TM_turns [.ref t] G34 (fun (G35 : GH) =>
            Q.1 a5 G35) gNo) gNo) gNo) gNo) gNo
set_option maxRecDepth 100000 in
theorem V_TM_places_133_ok {t : Nat} {a1 : Int32} {a2 : Int32} {a3 : Int32} {a4 : Int32} {a5 : Int32} {a6 : Int32} {a7 : Int32} {a8 : Int32} {G : GH} {Q : GQ} (h : V_TM_places_133 t a1 a2 a3 a4 a5 a6 a7 a8 G Q) : WP M_TM_places 0 0 133 [some (.ref t), some (.int a1), some (.int a2), some (.int a3), some (.int a4), some (.int a5), some (.int a6), some (.int a7), some (.int a8)] [] G Q := WP.ofV (T := T_TM_places) (hh := []) rfl rfl [(33, [true, true, true, true, true, true, true, true, true]), (133, [true, true, true, true, true, true, true, true, true])] 141 h
def V_TM_mayFasten_0 (t : Nat) (a1 : Int32) (a2 : Int32) (a3 : Int32) (G : GH) (Q : GQ) : Prop :=
  if a3 = (nI 0) then
    WP M_TM_mayFasten 0 0 11 [some (.ref t), some (.int a1), some (.int a2), some (.int a3), none, none] [.int (a1 + (nI 1))] G Q
  else
    WP M_TM_mayFasten 0 0 11 [some (.ref t), some (.int a1), some (.int a2), some (.int a3), none, none] [.int a1] G Q
set_option maxRecDepth 100000 in
theorem V_TM_mayFasten_0_ok {t : Nat} {a1 : Int32} {a2 : Int32} {a3 : Int32} {G : GH} {Q : GQ} (h : V_TM_mayFasten_0 t a1 a2 a3 G Q) : WP M_TM_mayFasten 0 0 0 [some (.ref t), some (.int a1), some (.int a2), some (.int a3), none, none] [] G Q := WP.ofV (T := T_TM_mayFasten) (hh := []) rfl rfl [(11, [true, true, true, true, false, false]), (24, [true, true, true, true, true, false])] 72 h
theorem E_TM_mayFasten {t : Nat} {a1 : Int32} {a2 : Int32} {a3 : Int32} {G : GH} {K : Int32 → GH → Prop} {KX : String → GH → Prop} (h : V_TM_mayFasten_0 t a1 a2 a3 G (gQi K KX)) : CI M_TM_mayFasten [.ref t, .int a1, .int a2, .int a3] G K KX := CI.of rfl rfl rfl (V_TM_mayFasten_0_ok h)
def V_TM_mayFasten_11 (t : Nat) (a1 : Int32) (a2 : Int32) (a3 : Int32) (s0 : Int32) (G : GH) (Q : GQ) : Prop :=
  if a3 = (nI 0) then
    WP M_TM_mayFasten 0 0 24 [some (.ref t), some (.int a1), some (.int a2), some (.int a3), some (.int s0), none] [.int a2] G Q
  else
    WP M_TM_mayFasten 0 0 24 [some (.ref t), some (.int a1), some (.int a2), some (.int a3), some (.int s0), none] [.int (a2 + (nI 1))] G Q
set_option maxRecDepth 100000 in
theorem V_TM_mayFasten_11_ok {t : Nat} {a1 : Int32} {a2 : Int32} {a3 : Int32} {s0 : Int32} {G : GH} {Q : GQ} (h : V_TM_mayFasten_11 t a1 a2 a3 s0 G Q) : WP M_TM_mayFasten 0 0 11 [some (.ref t), some (.int a1), some (.int a2), some (.int a3), none, none] [.int s0] G Q := WP.ofV (T := T_TM_mayFasten) (hh := []) rfl rfl [(11, [true, true, true, true, false, false]), (24, [true, true, true, true, true, false])] 72 h
def V_TM_mayFasten_24 (t : Nat) (a1 : Int32) (a2 : Int32) (a3 : Int32) (a4 : Int32) (s0 : Int32) (G : GH) (Q : GQ) : Prop :=
  CI M_TM_over [.ref t] G (fun (x2 : Int32) (G1 : GH) =>
    if x2 = (nI 0) then
      ∃ (fs3 : List Value) (r4 : Nat), G1.2 t = some (.inl (11, fs3)) ∧ fs3[0]? = some (.ref r4) ∧
      ∃ (m5 : Nat) (f6 : Nat → Int32), G1.2 r4 = some (.inr (.int, m5, .inl f6)) ∧ vp_in (nI 2) m5 ∧
      CI M_TM_of [.ref t, .int (f6 (nI 2).toNatClampNeg), .int (nI 1)] G1 (fun (x8 : Int32) (G7 : GH) =>
        if x8 = (nI 0) then
          ((nI 0) = nI 0 ∨ (nI 0) = nI 1) ∧ Q.1 (nI 0) G7
        else
          CI M_TM_isStrapped [.ref t, .int a1, .int a2, .int a4, .int s0] G7 (fun (x10 : Int32) (G9 : GH) =>
            if x10 = (nI 0) then
              CI M_TM_cell [.ref t, .int a1, .int a2] G9 (fun (x12 : Int32) (G11 : GH) =>
                if x12 = (nI 1) then
                  ((nI 0) = nI 0 ∨ (nI 0) = nI 1) ∧ Q.1 (nI 0) G11
                else
                  CI M_TM_cell [.ref t, .int a4, .int s0] G11 (fun (x14 : Int32) (G13 : GH) =>
                    if x14 = (nI 1) then
                      ((nI 0) = nI 0 ∨ (nI 0) = nI 1) ∧ Q.1 (nI 0) G13
                    else
                      CI M_TM_pieceOf [.ref t, .int a1, .int a2] G13 (fun (x16 : Int32) (G15 : GH) =>
                        if x16 = (-nI 1) then
                          ((nI 1) = nI 0 ∨ (nI 1) = nI 1) ∧ Q.1 (nI 1) G15
                        else
                          CI M_TM_pieceOf [.ref t, .int a1, .int a2] G15 (fun (x18 : Int32) (G17 : GH) =>
                            CI M_TM_pieceOf [.ref t, .int a4, .int s0] G17 (fun (x20 : Int32) (G19 : GH) =>
                              if x18 = x20 then
                                ((nI 0) = nI 0 ∨ (nI 0) = nI 1) ∧ Q.1 (nI 0) G19
                              else
                                ((nI 1) = nI 0 ∨ (nI 1) = nI 1) ∧ Q.1 (nI 1) G19) gNo) gNo) gNo) gNo) gNo
            else
              ((nI 0) = nI 0 ∨ (nI 0) = nI 1) ∧ Q.1 (nI 0) G9) gNo) gNo
    else
      ((nI 0) = nI 0 ∨ (nI 0) = nI 1) ∧ Q.1 (nI 0) G1) gNo
set_option maxRecDepth 100000 in
theorem V_TM_mayFasten_24_ok {t : Nat} {a1 : Int32} {a2 : Int32} {a3 : Int32} {a4 : Int32} {s0 : Int32} {G : GH} {Q : GQ} (h : V_TM_mayFasten_24 t a1 a2 a3 a4 s0 G Q) : WP M_TM_mayFasten 0 0 24 [some (.ref t), some (.int a1), some (.int a2), some (.int a3), some (.int a4), none] [.int s0] G Q := WP.ofV (T := T_TM_mayFasten) (hh := []) rfl rfl [(11, [true, true, true, true, false, false]), (24, [true, true, true, true, true, false])] 72 h
def V_TM_fastens_0 (t : Nat) (a1 : Int32) (a2 : Int32) (a3 : Int32) (G : GH) (Q : GQ) : Prop :=
  ∃ (fs1 : List Value) (r2 : Nat), G.2 t = some (.inl (11, fs1)) ∧ fs1[0]? = some (.ref r2) ∧
  CI M_TM_edge [.int a1, .int a2, .int a3] G (fun (x4 : Int32) (G3 : GH) =>
    r2 < gRB ∧ ∃ (m5 : Nat) (f6 : Nat → Int32), G3.2 r2 = some (.inr (.int, m5, .inl f6)) ∧ vp_in x4 m5 ∧
    let G7 : GH := gU G3 r2 (.inr (.int, m5, .inl (upd f6 (x4).toNatClampNeg (nI 1))));
    ∃ (fs8 : List Value) (r9 : Nat), G7.2 t = some (.inl (11, fs8)) ∧ fs8[0]? = some (.ref r9) ∧
    ∃ (m10 : Nat) (f11 : Nat → Int32), G7.2 r9 = some (.inr (.int, m10, .inl f11)) ∧ vp_in (nI 2) m10 ∧
    CI M_TM_of [.ref t, .int (f11 (nI 2).toNatClampNeg), .int (nI 1)] G7 (fun (x13 : Int32) (G12 : GH) =>
      ∃ (fs14 : List Value) (r15 : Nat), G12.2 t = some (.inl (11, fs14)) ∧ fs14[0]? = some (.ref r15) ∧
      ∃ (m16 : Nat) (f17 : Nat → Int32), G12.2 r15 = some (.inr (.int, m16, .inl f17)) ∧ vp_in (nI 2) m16 ∧
      CV M_TM_put [.ref t, .int (f17 (nI 2).toNatClampNeg), .int (nI 1), .int (x13 - (nI 1))] G12 (fun (G18 : GH) =>
        CV M_TM_turns [.ref t] G18 (fun (G19 : GH) =>
          Q.1 (x13 - (nI 1)) G19) gNo) gNo) gNo) gNo
set_option maxRecDepth 100000 in
theorem V_TM_fastens_0_ok {t : Nat} {a1 : Int32} {a2 : Int32} {a3 : Int32} {G : GH} {Q : GQ} (h : V_TM_fastens_0 t a1 a2 a3 G Q) : WP M_TM_fastens 0 0 0 [some (.ref t), some (.int a1), some (.int a2), some (.int a3), none] [] G Q := WP.ofV (T := T_TM_fastens) (hh := []) rfl rfl [] 35 h
theorem E_TM_fastens {t : Nat} {a1 : Int32} {a2 : Int32} {a3 : Int32} {G : GH} {K : Int32 → GH → Prop} {KX : String → GH → Prop} (h : V_TM_fastens_0 t a1 a2 a3 G (gQi K KX)) : CI M_TM_fastens [.ref t, .int a1, .int a2, .int a3] G K KX := CI.of rfl rfl rfl (V_TM_fastens_0_ok h)
def V_TM_mayPass_0 (t : Nat) (G : GH) (Q : GQ) : Prop :=
  CI M_TM_over [.ref t] G (fun (x2 : Int32) (G1 : GH) =>
    if x2 = (nI 0) then
      ∃ (fs3 : List Value) (r4 : Nat), G1.2 t = some (.inl (11, fs3)) ∧ fs3[0]? = some (.ref r4) ∧
      ∃ (m5 : Nat) (f6 : Nat → Int32), G1.2 r4 = some (.inr (.int, m5, .inl f6)) ∧ vp_in (nI 2) m5 ∧
      CI M_TM_moves [.ref t, .int (f6 (nI 2).toNatClampNeg)] G1 (fun (x8 : Int32) (G7 : GH) =>
        if x8 = (nI 0) then
          ((nI 1) = nI 0 ∨ (nI 1) = nI 1) ∧ Q.1 (nI 1) G7
        else
          ((nI 0) = nI 0 ∨ (nI 0) = nI 1) ∧ Q.1 (nI 0) G7) gNo
    else
      ((nI 0) = nI 0 ∨ (nI 0) = nI 1) ∧ Q.1 (nI 0) G1) gNo
set_option maxRecDepth 100000 in
theorem V_TM_mayPass_0_ok {t : Nat} {G : GH} {Q : GQ} (h : V_TM_mayPass_0 t G Q) : WP M_TM_mayPass 0 0 0 [some (.ref t)] [] G Q := WP.ofV (T := T_TM_mayPass) (hh := []) rfl rfl [] 19 h
theorem E_TM_mayPass {t : Nat} {G : GH} {K : Int32 → GH → Prop} {KX : String → GH → Prop} (h : V_TM_mayPass_0 t G (gQi K KX)) : CI M_TM_mayPass [.ref t] G K KX := CI.of rfl rfl rfl (V_TM_mayPass_0_ok h)
def V_TM_passes_0 (t : Nat) (G : GH) (Q : GQ) : Prop :=
  ∃ (fs1 : List Value) (r2 : Nat), G.2 t = some (.inl (11, fs1)) ∧ fs1[0]? = some (.ref r2) ∧
  ∃ (m3 : Nat) (f4 : Nat → Int32), G.2 r2 = some (.inr (.int, m3, .inl f4)) ∧ vp_in (nI 3) m3 ∧
  r2 < gRB ∧ ∃ (m5 : Nat) (f6 : Nat → Int32), G.2 r2 = some (.inr (.int, m5, .inl f6)) ∧ vp_in (nI 3) m5 ∧
  let G7 : GH := gU G r2 (.inr (.int, m5, .inl (upd f6 (nI 3).toNatClampNeg ((f4 (nI 3).toNatClampNeg) + (nI 1)))));
  ∃ (fs8 : List Value) (r9 : Nat), G7.2 t = some (.inl (11, fs8)) ∧ fs8[0]? = some (.ref r9) ∧
  ∃ (fs10 : List Value) (r11 : Nat), G7.2 t = some (.inl (11, fs10)) ∧ fs10[0]? = some (.ref r11) ∧
  ∃ (m12 : Nat) (f13 : Nat → Int32), G7.2 r11 = some (.inr (.int, m12, .inl f13)) ∧ vp_in (nI 2) m12 ∧
  r9 < gRB ∧ ∃ (m14 : Nat) (f15 : Nat → Int32), G7.2 r9 = some (.inr (.int, m14, .inl f15)) ∧ vp_in (nI 2) m14 ∧
  let G16 : GH := gU G7 r9 (.inr (.int, m14, .inl (upd f15 (nI 2).toNatClampNeg ((nI 1) - (f13 (nI 2).toNatClampNeg)))));
  ∃ (fs17 : List Value) (r18 : Nat), G16.2 t = some (.inl (11, fs17)) ∧ fs17[0]? = some (.ref r18) ∧
  ∃ (m19 : Nat) (f20 : Nat → Int32), G16.2 r18 = some (.inr (.int, m19, .inl f20)) ∧ vp_in (nI 3) m19 ∧
  Q.1 (f20 (nI 3).toNatClampNeg) G16
set_option maxRecDepth 100000 in
theorem V_TM_passes_0_ok {t : Nat} {G : GH} {Q : GQ} (h : V_TM_passes_0 t G Q) : WP M_TM_passes 0 0 0 [some (.ref t)] [] G Q := WP.ofV (T := T_TM_passes) (hh := []) rfl rfl [] 28 h
theorem E_TM_passes {t : Nat} {G : GH} {K : Int32 → GH → Prop} {KX : String → GH → Prop} (h : V_TM_passes_0 t G (gQi K KX)) : CI M_TM_passes [.ref t] G K KX := CI.of rfl rfl rfl (V_TM_passes_0_ok h)
def V_TM_append_0 (t : Nat) (a1 : Int32) (a2 : Int32) (a3 : Int32) (a4 : Int32) (a5 : Int32) (G : GH) (Q : GQ) : Prop :=
  t < gRB ∧ ∃ (fs1 : List Value), G.2 t = some (.inl (11, fs1)) ∧ gFit 0 (.int (nI 0)) ∧
  let G2 : GH := gU G t (.inl (11, fs1.set 7 (.int (nI 0))));
  ∃ (fs3 : List Value) (x4 : Int32), G2.2 t = some (.inl (11, fs3)) ∧ fs3[13]? = some (.int x4) ∧
  if (nI 600) < (x4 + (nI 20)) then
    Q.1 (-nI 1) G2
  else
    CV M_TM_four [.ref t, .int a1] G2 (fun (G5 : GH) =>
      CV M_TM_four [.ref t, .int a2] G5 (fun (G6 : GH) =>
        CV M_TM_four [.ref t, .int a3] G6 (fun (G7 : GH) =>
          CV M_TM_four [.ref t, .int a4] G7 (fun (G8 : GH) =>
            CV M_TM_four [.ref t, .int a5] G8 (fun (G9 : GH) =>
              ∃ (fs10 : List Value) (x11 : Int32), G9.2 t = some (.inl (11, fs10)) ∧ fs10[13]? = some (.int x11) ∧
              Q.1 x11 G9) gNo) gNo) gNo) gNo) gNo
set_option maxRecDepth 100000 in
theorem V_TM_append_0_ok {t : Nat} {a1 : Int32} {a2 : Int32} {a3 : Int32} {a4 : Int32} {a5 : Int32} {G : GH} {Q : GQ} (h : V_TM_append_0 t a1 a2 a3 a4 a5 G Q) : WP M_TM_append 0 0 0 [some (.ref t), some (.int a1), some (.int a2), some (.int a3), some (.int a4), some (.int a5)] [] G Q := WP.ofV (T := T_TM_append) (hh := []) rfl rfl [] 34 h
theorem E_TM_append {t : Nat} {a1 : Int32} {a2 : Int32} {a3 : Int32} {a4 : Int32} {a5 : Int32} {G : GH} {K : Int32 → GH → Prop} {KX : String → GH → Prop} (h : V_TM_append_0 t a1 a2 a3 a4 a5 G (gQi K KX)) : CI M_TM_append [.ref t, .int a1, .int a2, .int a3, .int a4, .int a5] G K KX := CI.of rfl rfl rfl (V_TM_append_0_ok h)
def V_TM_four_0 (t : Nat) (a1 : Int32) (G : GH) (Q : GQ) : Prop :=
  WP M_TM_four 0 0 3 [some (.ref t), some (.int a1), some (.int (nI 24))] [] G Q
set_option maxRecDepth 100000 in
theorem V_TM_four_0_ok {t : Nat} {a1 : Int32} {G : GH} {Q : GQ} (h : V_TM_four_0 t a1 G Q) : WP M_TM_four 0 0 0 [some (.ref t), some (.int a1), none] [] G Q := WP.ofV (T := T_TM_four) (hh := []) rfl rfl [(3, [true, true, true])] 28 h
theorem E_TM_four {t : Nat} {a1 : Int32} {G : GH} {K : GH → Prop} {KX : String → GH → Prop} (h : V_TM_four_0 t a1 G (gQv K KX)) : CV M_TM_four [.ref t, .int a1] G K KX := CV.of rfl rfl rfl (V_TM_four_0_ok h)
def V_TM_four_3 (t : Nat) (a1 : Int32) (a2 : Int32) (G : GH) (Q : GQ) : Prop :=
  if a2 < (nI 0) then
    Q.2.1 G
  else
    ∃ (fs1 : List Value) (r2 : Nat), G.2 t = some (.inl (11, fs1)) ∧ fs1[8]? = some (.ref r2) ∧
    ∃ (fs3 : List Value) (x4 : Int32), G.2 t = some (.inl (11, fs3)) ∧ fs3[13]? = some (.int x4) ∧
    r2 < gRB ∧ ∃ (m5 : Nat) (f6 : Nat → Int32), G.2 r2 = some (.inr (.int, m5, .inl f6)) ∧ vp_in x4 m5 ∧
    let G7 : GH := gU G r2 (.inr (.int, m5, .inl (upd f6 (x4).toNatClampNeg ((a1 >>> (a2 &&& 31)) &&& (nI 255)))));
    ∃ (fs8 : List Value) (x9 : Int32), G7.2 t = some (.inl (11, fs8)) ∧ fs8[13]? = some (.int x9) ∧
    t < gRB ∧ ∃ (fs10 : List Value), G7.2 t = some (.inl (11, fs10)) ∧ gFit 0 (.int (x9 + (nI 1))) ∧
    let G11 : GH := gU G7 t (.inl (11, fs10.set 13 (.int (x9 + (nI 1)))));
    WP M_TM_four 0 0 3 [some (.ref t), some (.int a1), some (.int (a2 - nI 8))] [] G11 Q
set_option maxRecDepth 100000 in
theorem V_TM_four_3_ok {t : Nat} {a1 : Int32} {a2 : Int32} {G : GH} {Q : GQ} (h : V_TM_four_3 t a1 a2 G Q) : WP M_TM_four 0 0 3 [some (.ref t), some (.int a1), some (.int a2)] [] G Q := WP.ofV (T := T_TM_four) (hh := []) rfl rfl [(3, [true, true, true])] 28 h
def V_TM_truncateInput_0 (t : Nat) (a1 : Int32) (G : GH) (Q : GQ) : Prop :=
  ∃ (fs1 : List Value) (x2 : Int32), G.2 t = some (.inl (11, fs1)) ∧ fs1[13]? = some (.int x2) ∧
  CI M_TM_isIn [.int a1, .int (nI 0), .int x2] G (fun (x4 : Int32) (G3 : GH) =>
    if x4 = (nI 0) then
      WP M_TM_truncateInput 0 0 18 [some (.ref t), some (.int a1)] [.int (nI 1), .ref t] G3 Q
    else
      WP M_TM_truncateInput 0 0 18 [some (.ref t), some (.int a1)] [.int (nI 0), .ref t] G3 Q) gNo
set_option maxRecDepth 100000 in
theorem V_TM_truncateInput_0_ok {t : Nat} {a1 : Int32} {G : GH} {Q : GQ} (h : V_TM_truncateInput_0 t a1 G Q) : WP M_TM_truncateInput 0 0 0 [some (.ref t), some (.int a1)] [] G Q := WP.ofV (T := T_TM_truncateInput) (hh := []) rfl rfl [(18, [true, true])] 26 h
theorem E_TM_truncateInput {t : Nat} {a1 : Int32} {G : GH} {K : Int32 → GH → Prop} {KX : String → GH → Prop} (h : V_TM_truncateInput_0 t a1 G (gQi K KX)) : CI M_TM_truncateInput [.ref t, .int a1] G K KX := CI.of rfl rfl rfl (V_TM_truncateInput_0_ok h)
def V_TM_truncateInput_18 (t : Nat) (a1 : Int32) (s0 : Int32) (s1 : Nat) (G : GH) (Q : GQ) : Prop :=
  CI M_TM_fails [.ref s1, .int s0, .int (nI 0), .int (nI 0)] G (fun (x2 : Int32) (G1 : GH) =>
    if x2 = (nI 0) then
      t < gRB ∧ ∃ (fs3 : List Value), G1.2 t = some (.inl (11, fs3)) ∧ gFit 0 (.int a1) ∧
      let G4 : GH := gU G1 t (.inl (11, fs3.set 13 (.int a1)));
      Q.1 a1 G4
    else
      Q.1 (nI 0) G1) gNo
set_option maxRecDepth 100000 in
theorem V_TM_truncateInput_18_ok {t : Nat} {a1 : Int32} {s0 : Int32} {s1 : Nat} {G : GH} {Q : GQ} (h : V_TM_truncateInput_18 t a1 s0 s1 G Q) : WP M_TM_truncateInput 0 0 18 [some (.ref t), some (.int a1)] [.int s0, .ref s1] G Q := WP.ofV (T := T_TM_truncateInput) (hh := []) rfl rfl [(18, [true, true])] 26 h
def V_TM_isLetter_0 (t : Nat) (a1 : Int32) (G : GH) (Q : GQ) : Prop :=
  ∃ (fs1 : List Value) (x2 : Int32), G.2 t = some (.inl (11, fs1)) ∧ fs1[13]? = some (.int x2) ∧
  if a1 < x2 then
    ∃ (fs3 : List Value) (r4 : Nat), G.2 t = some (.inl (11, fs3)) ∧ fs3[8]? = some (.ref r4) ∧
    ∃ (m5 : Nat) (f6 : Nat → Int32), G.2 r4 = some (.inr (.int, m5, .inl f6)) ∧ vp_in a1 m5 ∧
    CI M_TM_isIn [.int (f6 (a1).toNatClampNeg), .int (nI 97), .int (nI 122)] G (fun (x8 : Int32) (G7 : GH) =>
      if x8 = (nI 0) then
        ((nI 0) = nI 0 ∨ (nI 0) = nI 1) ∧ Q.1 (nI 0) G7
      else
        ((nI 1) = nI 0 ∨ (nI 1) = nI 1) ∧ Q.1 (nI 1) G7) gNo
  else
    ((nI 0) = nI 0 ∨ (nI 0) = nI 1) ∧ Q.1 (nI 0) G
set_option maxRecDepth 100000 in
theorem V_TM_isLetter_0_ok {t : Nat} {a1 : Int32} {G : GH} {Q : GQ} (h : V_TM_isLetter_0 t a1 G Q) : WP M_TM_isLetter 0 0 0 [some (.ref t), some (.int a1)] [] G Q := WP.ofV (T := T_TM_isLetter) (hh := []) rfl rfl [] 21 h
theorem E_TM_isLetter {t : Nat} {a1 : Int32} {G : GH} {K : Int32 → GH → Prop} {KX : String → GH → Prop} (h : V_TM_isLetter_0 t a1 G (gQi K KX)) : CI M_TM_isLetter [.ref t, .int a1] G K KX := CI.of rfl rfl rfl (V_TM_isLetter_0_ok h)
def V_TM_isDigit_0 (t : Nat) (a1 : Int32) (G : GH) (Q : GQ) : Prop :=
  ∃ (fs1 : List Value) (x2 : Int32), G.2 t = some (.inl (11, fs1)) ∧ fs1[13]? = some (.int x2) ∧
  if a1 < x2 then
    ∃ (fs3 : List Value) (r4 : Nat), G.2 t = some (.inl (11, fs3)) ∧ fs3[8]? = some (.ref r4) ∧
    ∃ (m5 : Nat) (f6 : Nat → Int32), G.2 r4 = some (.inr (.int, m5, .inl f6)) ∧ vp_in a1 m5 ∧
    CI M_TM_isIn [.int (f6 (a1).toNatClampNeg), .int (nI 48), .int (nI 57)] G (fun (x8 : Int32) (G7 : GH) =>
      if x8 = (nI 0) then
        ((nI 0) = nI 0 ∨ (nI 0) = nI 1) ∧ Q.1 (nI 0) G7
      else
        ((nI 1) = nI 0 ∨ (nI 1) = nI 1) ∧ Q.1 (nI 1) G7) gNo
  else
    ((nI 0) = nI 0 ∨ (nI 0) = nI 1) ∧ Q.1 (nI 0) G
set_option maxRecDepth 100000 in
theorem V_TM_isDigit_0_ok {t : Nat} {a1 : Int32} {G : GH} {Q : GQ} (h : V_TM_isDigit_0 t a1 G Q) : WP M_TM_isDigit 0 0 0 [some (.ref t), some (.int a1)] [] G Q := WP.ofV (T := T_TM_isDigit) (hh := []) rfl rfl [] 21 h
theorem E_TM_isDigit {t : Nat} {a1 : Int32} {G : GH} {K : Int32 → GH → Prop} {KX : String → GH → Prop} (h : V_TM_isDigit_0 t a1 G (gQi K KX)) : CI M_TM_isDigit [.ref t, .int a1] G K KX := CI.of rfl rfl rfl (V_TM_isDigit_0_ok h)
def V_TM_next_0 (t : Nat) (G : GH) (Q : GQ) : Prop :=
  ∃ (fs1 : List Value) (x2 : Int32), G.2 t = some (.inl (11, fs1)) ∧ fs1[20]? = some (.int x2) ∧
  ∃ (fs3 : List Value) (x4 : Int32), G.2 t = some (.inl (11, fs3)) ∧ fs3[13]? = some (.int x4) ∧
  if x2 < x4 then
    ∃ (fs5 : List Value) (r6 : Nat), G.2 t = some (.inl (11, fs5)) ∧ fs5[8]? = some (.ref r6) ∧
    ∃ (fs7 : List Value) (x8 : Int32), G.2 t = some (.inl (11, fs7)) ∧ fs7[20]? = some (.int x8) ∧
    ∃ (m9 : Nat) (f10 : Nat → Int32), G.2 r6 = some (.inr (.int, m9, .inl f10)) ∧ vp_in x8 m9 ∧
    if (f10 (x8).toNatClampNeg) = (nI 32) then
      ∃ (fs11 : List Value) (x12 : Int32), G.2 t = some (.inl (11, fs11)) ∧ fs11[20]? = some (.int x12) ∧
      t < gRB ∧ ∃ (fs13 : List Value), G.2 t = some (.inl (11, fs13)) ∧ gFit 0 (.int (x12 + (nI 1))) ∧
      let G14 : GH := gU G t (.inl (11, fs13.set 20 (.int (x12 + (nI 1)))));
      WP M_TM_next 0 0 0 [some (.ref t)] [] G14 Q
    else
      WP M_TM_next 0 0 38 [some (.ref t)] [] G Q
  else
    WP M_TM_next 0 0 38 [some (.ref t)] [] G Q
set_option maxRecDepth 100000 in
theorem V_TM_next_0_ok {t : Nat} {G : GH} {Q : GQ} (h : V_TM_next_0 t G Q) : WP M_TM_next 0 0 0 [some (.ref t)] [] G Q := WP.ofV (T := T_TM_next) (hh := []) rfl rfl [(0, [true]), (38, [true]), (81, [true]), (126, [true]), (199, [true])] 115 h
theorem E_TM_next {t : Nat} {G : GH} {K : GH → Prop} {KX : String → GH → Prop} (h : V_TM_next_0 t G (gQv K KX)) : CV M_TM_next [.ref t] G K KX := CV.of rfl rfl rfl (V_TM_next_0_ok h)
def V_TM_next_38 (t : Nat) (G : GH) (Q : GQ) : Prop :=
  ∃ (fs1 : List Value) (x2 : Int32), G.2 t = some (.inl (11, fs1)) ∧ fs1[20]? = some (.int x2) ∧
  t < gRB ∧ ∃ (fs3 : List Value), G.2 t = some (.inl (11, fs3)) ∧ gFit 0 (.int x2) ∧
  let G4 : GH := gU G t (.inl (11, fs3.set 19 (.int x2)));
  ∃ (fs5 : List Value) (x6 : Int32), G4.2 t = some (.inl (11, fs5)) ∧ fs5[20]? = some (.int x6) ∧
  ∃ (fs7 : List Value) (x8 : Int32), G4.2 t = some (.inl (11, fs7)) ∧ fs7[13]? = some (.int x8) ∧
  if x6 = x8 then
    t < gRB ∧ ∃ (fs9 : List Value), G4.2 t = some (.inl (11, fs9)) ∧ gFit 0 (.int (nI 0)) ∧
    let G10 : GH := gU G4 t (.inl (11, fs9.set 18 (.int (nI 0))));
    Q.2.1 G10
  else
    ∃ (fs11 : List Value) (x12 : Int32), G4.2 t = some (.inl (11, fs11)) ∧ fs11[20]? = some (.int x12) ∧
    CI M_TM_isLetter [.ref t, .int x12] G4 (fun (x14 : Int32) (G13 : GH) =>
      if x14 = (nI 0) then
        ∃ (fs15 : List Value) (x16 : Int32), G13.2 t = some (.inl (11, fs15)) ∧ fs15[20]? = some (.int x16) ∧
        CI M_TM_isDigit [.ref t, .int x16] G13 (fun (x18 : Int32) (G17 : GH) =>
          if x18 = (nI 0) then
            ∃ (fs19 : List Value) (r20 : Nat), G17.2 t = some (.inl (11, fs19)) ∧ fs19[8]? = some (.ref r20) ∧
            ∃ (fs21 : List Value) (x22 : Int32), G17.2 t = some (.inl (11, fs21)) ∧ fs21[20]? = some (.int x22) ∧
            ∃ (m23 : Nat) (f24 : Nat → Int32), G17.2 r20 = some (.inr (.int, m23, .inl f24)) ∧ vp_in x22 m23 ∧
            if (f24 (x22).toNatClampNeg) = (nI 59) then
              WP M_TM_next 0 0 199 [some (.ref t)] [.int (nI 3), .ref t] G17 Q
            else
              WP M_TM_next 0 0 199 [some (.ref t)] [.int (nI 4), .ref t] G17 Q
          else
            t < gRB ∧ ∃ (fs25 : List Value), G17.2 t = some (.inl (11, fs25)) ∧ gFit 0 (.int (nI 2)) ∧
            let G26 : GH := gU G17 t (.inl (11, fs25.set 18 (.int (nI 2))));
            t < gRB ∧ ∃ (fs27 : List Value), G26.2 t = some (.inl (11, fs27)) ∧ gFit 0 (.int (nI 0)) ∧
            let G28 : GH := gU G26 t (.inl (11, fs27.set 21 (.int (nI 0))));
            WP M_TM_next 0 0 126 [some (.ref t)] [] G28 Q) gNo
      else
        t < gRB ∧ ∃ (fs29 : List Value), G13.2 t = some (.inl (11, fs29)) ∧ gFit 0 (.int (nI 1)) ∧
        let G30 : GH := gU G13 t (.inl (11, fs29.set 18 (.int (nI 1))));
        WP M_TM_next 0 0 81 [some (.ref t)] [] G30 Q) gNo
set_option maxRecDepth 100000 in
theorem V_TM_next_38_ok {t : Nat} {G : GH} {Q : GQ} (h : V_TM_next_38 t G Q) : WP M_TM_next 0 0 38 [some (.ref t)] [] G Q := WP.ofV (T := T_TM_next) (hh := []) rfl rfl [(0, [true]), (38, [true]), (81, [true]), (126, [true]), (199, [true])] 115 h
def V_TM_next_81 (t : Nat) (G : GH) (Q : GQ) : Prop :=
  ∃ (fs1 : List Value) (x2 : Int32), G.2 t = some (.inl (11, fs1)) ∧ fs1[20]? = some (.int x2) ∧
  CI M_TM_isLetter [.ref t, .int x2] G (fun (x4 : Int32) (G3 : GH) =>
    if x4 = (nI 0) then
      Q.2.1 G3
    else
      ∃ (fs5 : List Value) (x6 : Int32), G3.2 t = some (.inl (11, fs5)) ∧ fs5[20]? = some (.int x6) ∧
      t < gRB ∧ ∃ (fs7 : List Value), G3.2 t = some (.inl (11, fs7)) ∧ gFit 0 (.int (x6 + (nI 1))) ∧
      let G8 : GH := gU G3 t (.inl (11, fs7.set 20 (.int (x6 + (nI 1)))));
      WP M_TM_next 0 0 81 [some (.ref t)] [] G8 Q) gNo
set_option maxRecDepth 100000 in
theorem V_TM_next_81_ok {t : Nat} {G : GH} {Q : GQ} (h : V_TM_next_81 t G Q) : WP M_TM_next 0 0 81 [some (.ref t)] [] G Q := WP.ofV (T := T_TM_next) (hh := []) rfl rfl [(0, [true]), (38, [true]), (81, [true]), (126, [true]), (199, [true])] 115 h
def V_TM_next_126 (t : Nat) (G : GH) (Q : GQ) : Prop :=
  ∃ (fs1 : List Value) (x2 : Int32), G.2 t = some (.inl (11, fs1)) ∧ fs1[20]? = some (.int x2) ∧
  CI M_TM_isDigit [.ref t, .int x2] G (fun (x4 : Int32) (G3 : GH) =>
    if x4 = (nI 0) then
      Q.2.1 G3
    else
      ∃ (fs5 : List Value) (x6 : Int32), G3.2 t = some (.inl (11, fs5)) ∧ fs5[21]? = some (.int x6) ∧
      ∃ (fs7 : List Value) (r8 : Nat), G3.2 t = some (.inl (11, fs7)) ∧ fs7[8]? = some (.ref r8) ∧
      ∃ (fs9 : List Value) (x10 : Int32), G3.2 t = some (.inl (11, fs9)) ∧ fs9[20]? = some (.int x10) ∧
      ∃ (m11 : Nat) (f12 : Nat → Int32), G3.2 r8 = some (.inr (.int, m11, .inl f12)) ∧ vp_in x10 m11 ∧
      t < gRB ∧ ∃ (fs13 : List Value), G3.2 t = some (.inl (11, fs13)) ∧ gFit 0 (.int (if (((x6 * (nI 10)) + (f12 (x10).toNatClampNeg)) - (nI 48)) < (nI 100000) then ((x6 * (nI 10)) + (f12 (x10).toNatClampNeg)) - (nI 48) else nI 100000)) ∧
      let G14 : GH := gU G3 t (.inl (11, fs13.set 21 (.int (if (((x6 * (nI 10)) + (f12 (x10).toNatClampNeg)) - (nI 48)) < (nI 100000) then ((x6 * (nI 10)) + (f12 (x10).toNatClampNeg)) - (nI 48) else nI 100000))));
      ∃ (fs15 : List Value) (x16 : Int32), G14.2 t = some (.inl (11, fs15)) ∧ fs15[20]? = some (.int x16) ∧
      t < gRB ∧ ∃ (fs17 : List Value), G14.2 t = some (.inl (11, fs17)) ∧ gFit 0 (.int (x16 + (nI 1))) ∧
      let G18 : GH := gU G14 t (.inl (11, fs17.set 20 (.int (x16 + (nI 1)))));
      WP M_TM_next 0 0 126 [some (.ref t)] [] G18 Q) gNo
set_option maxRecDepth 100000 in
theorem V_TM_next_126_ok {t : Nat} {G : GH} {Q : GQ} (h : V_TM_next_126 t G Q) : WP M_TM_next 0 0 126 [some (.ref t)] [] G Q := WP.ofV (T := T_TM_next) (hh := []) rfl rfl [(0, [true]), (38, [true]), (81, [true]), (126, [true]), (199, [true])] 115 h
def V_TM_next_199 (t : Nat) (s0 : Int32) (s1 : Nat) (G : GH) (Q : GQ) : Prop :=
  s1 < gRB ∧ ∃ (fs1 : List Value), G.2 s1 = some (.inl (11, fs1)) ∧ gFit 0 (.int s0) ∧
  let G2 : GH := gU G s1 (.inl (11, fs1.set 18 (.int s0)));
  ∃ (fs3 : List Value) (x4 : Int32), G2.2 t = some (.inl (11, fs3)) ∧ fs3[20]? = some (.int x4) ∧
  t < gRB ∧ ∃ (fs5 : List Value), G2.2 t = some (.inl (11, fs5)) ∧ gFit 0 (.int (x4 + (nI 1))) ∧
  let G6 : GH := gU G2 t (.inl (11, fs5.set 20 (.int (x4 + (nI 1)))));
  Q.2.1 G6
set_option maxRecDepth 100000 in
theorem V_TM_next_199_ok {t : Nat} {s0 : Int32} {s1 : Nat} {G : GH} {Q : GQ} (h : V_TM_next_199 t s0 s1 G Q) : WP M_TM_next 0 0 199 [some (.ref t)] [.int s0, .ref s1] G Q := WP.ofV (T := T_TM_next) (hh := []) rfl rfl [(0, [true]), (38, [true]), (81, [true]), (126, [true]), (199, [true])] 115 h
def V_TM_is_0 (t : Nat) (p1 : Nat) (G : GH) (Q : GQ) : Prop :=
  ∃ (fs1 : List Value) (x2 : Int32), G.2 t = some (.inl (11, fs1)) ∧ fs1[18]? = some (.int x2) ∧
  if x2 = (nI 1) then
    ∃ (fs3 : List Value) (x4 : Int32), G.2 t = some (.inl (11, fs3)) ∧ fs3[20]? = some (.int x4) ∧
    ∃ (fs5 : List Value) (x6 : Int32), G.2 t = some (.inl (11, fs5)) ∧ fs5[19]? = some (.int x6) ∧
    ∃ (tx7 : List Nat), gStr p1 = some tx7 ∧
    if (x4 - x6) = (nI tx7.length) then
      WP M_TM_is 0 0 28 [some (.ref t), some (.ref p1), some (.int (nI 0))] [] G Q
    else
      ((nI 0) = nI 0 ∨ (nI 0) = nI 1) ∧ Q.1 (nI 0) G
  else
    ((nI 0) = nI 0 ∨ (nI 0) = nI 1) ∧ Q.1 (nI 0) G
set_option maxRecDepth 100000 in
theorem V_TM_is_0_ok {t : Nat} {p1 : Nat} {G : GH} {Q : GQ} (h : V_TM_is_0 t p1 G Q) : WP M_TM_is 0 0 0 [some (.ref t), some (.ref p1), none] [] G Q := WP.ofV (T := T_TM_is) (hh := []) rfl rfl [(28, [true, true, true])] 42 h
theorem E_TM_is {t : Nat} {p1 : Nat} {G : GH} {K : Int32 → GH → Prop} {KX : String → GH → Prop} (h : V_TM_is_0 t p1 G (gQi K KX)) : CI M_TM_is [.ref t, .ref p1] G K KX := CI.of rfl rfl rfl (V_TM_is_0_ok h)
def V_TM_is_28 (t : Nat) (p1 : Nat) (a2 : Int32) (G : GH) (Q : GQ) : Prop :=
  ∃ (tx1 : List Nat), gStr p1 = some tx1 ∧
  if a2 < (nI tx1.length) then
    ∃ (fs2 : List Value) (r3 : Nat), G.2 t = some (.inl (11, fs2)) ∧ fs2[8]? = some (.ref r3) ∧
    ∃ (fs4 : List Value) (x5 : Int32), G.2 t = some (.inl (11, fs4)) ∧ fs4[19]? = some (.int x5) ∧
    ∃ (m6 : Nat) (f7 : Nat → Int32), G.2 r3 = some (.inr (.int, m6, .inl f7)) ∧ vp_in (x5 + a2) m6 ∧
    ∃ (tx8 : List Nat) (k9 ch10 : Nat), gStr p1 = some tx8 ∧ a2 = nI k9 ∧ tx8[k9]? = some ch10 ∧
    if (f7 (x5 + a2).toNatClampNeg) = (nI ch10) then
      WP M_TM_is 0 0 28 [some (.ref t), some (.ref p1), some (.int (a2 + nI 1))] [] G Q
    else
      ((nI 0) = nI 0 ∨ (nI 0) = nI 1) ∧ Q.1 (nI 0) G
  else
    ((nI 1) = nI 0 ∨ (nI 1) = nI 1) ∧ Q.1 (nI 1) G
set_option maxRecDepth 100000 in
theorem V_TM_is_28_ok {t : Nat} {p1 : Nat} {a2 : Int32} {G : GH} {Q : GQ} (h : V_TM_is_28 t p1 a2 G Q) : WP M_TM_is 0 0 28 [some (.ref t), some (.ref p1), some (.int a2)] [] G Q := WP.ofV (T := T_TM_is) (hh := []) rfl rfl [(28, [true, true, true])] 42 h
def V_TM_wrong_0 (t : Nat) (a1 : Int32) (a2 : Int32) (G : GH) (Q : GQ) : Prop :=
  ∃ (fs1 : List Value) (x2 : Int32), G.2 t = some (.inl (11, fs1)) ∧ fs1[22]? = some (.int x2) ∧
  if x2 = (nI 0) then
    if a1 = (nI 0) then
      Q.2.1 G
    else
      t < gRB ∧ ∃ (fs3 : List Value), G.2 t = some (.inl (11, fs3)) ∧ gFit 2 (.int (nI 1)) ∧
      let G4 : GH := gU G t (.inl (11, fs3.set 22 (.int (nI 1))));
      t < gRB ∧ ∃ (fs5 : List Value), G4.2 t = some (.inl (11, fs5)) ∧ gFit 0 (.int a2) ∧
      let G6 : GH := gU G4 t (.inl (11, fs5.set 15 (.int a2)));
      ∃ (fs7 : List Value) (x8 : Int32), G6.2 t = some (.inl (11, fs7)) ∧ fs7[19]? = some (.int x8) ∧
      t < gRB ∧ ∃ (fs9 : List Value), G6.2 t = some (.inl (11, fs9)) ∧ gFit 0 (.int x8) ∧
      let G10 : GH := gU G6 t (.inl (11, fs9.set 16 (.int x8)));
      Q.2.1 G10
  else
    Q.2.1 G
set_option maxRecDepth 100000 in
theorem V_TM_wrong_0_ok {t : Nat} {a1 : Int32} {a2 : Int32} {G : GH} {Q : GQ} (h : V_TM_wrong_0 t a1 a2 G Q) : WP M_TM_wrong 0 0 0 [some (.ref t), some (.int a1), some (.int a2)] [] G Q := WP.ofV (T := T_TM_wrong) (hh := []) rfl rfl [] 22 h
theorem E_TM_wrong {t : Nat} {a1 : Int32} {a2 : Int32} {G : GH} {K : GH → Prop} {KX : String → GH → Prop} (h : V_TM_wrong_0 t a1 a2 G (gQv K KX)) : CV M_TM_wrong [.ref t, .int a1, .int a2] G K KX := CV.of rfl rfl rfl (V_TM_wrong_0_ok h)
def V_TM_go_0 (t : Nat) (G : GH) (Q : GQ) : Prop :=
  ∃ (fs1 : List Value) (x2 : Int32), G.2 t = some (.inl (11, fs1)) ∧ fs1[22]? = some (.int x2) ∧
  if x2 = (nI 0) then
    CV M_TM_next [.ref t] G (fun (G3 : GH) =>
      Q.2.1 G3) gNo
  else
    Q.2.1 G
set_option maxRecDepth 100000 in
theorem V_TM_go_0_ok {t : Nat} {G : GH} {Q : GQ} (h : V_TM_go_0 t G Q) : WP M_TM_go 0 0 0 [some (.ref t)] [] G Q := WP.ofV (T := T_TM_go) (hh := []) rfl rfl [] 11 h
theorem E_TM_go {t : Nat} {G : GH} {K : GH → Prop} {KX : String → GH → Prop} (h : V_TM_go_0 t G (gQv K KX)) : CV M_TM_go [.ref t] G K KX := CV.of rfl rfl rfl (V_TM_go_0_ok h)
def V_TM_here_0 (t : Nat) (a1 : Int32) (a2 : Int32) (G : GH) (Q : GQ) : Prop :=
  ∃ (fs1 : List Value) (x2 : Int32), G.2 t = some (.inl (11, fs1)) ∧ fs1[18]? = some (.int x2) ∧
  if x2 = (nI 2) then
    WP M_TM_here 0 0 14 [some (.ref t), some (.int a1), some (.int a2)] [.int (nI 0), .ref t] G Q
  else
    WP M_TM_here 0 0 14 [some (.ref t), some (.int a1), some (.int a2)] [.int (nI 1), .ref t] G Q
set_option maxRecDepth 100000 in
theorem V_TM_here_0_ok {t : Nat} {a1 : Int32} {a2 : Int32} {G : GH} {Q : GQ} (h : V_TM_here_0 t a1 a2 G Q) : WP M_TM_here 0 0 0 [some (.ref t), some (.int a1), some (.int a2)] [] G Q := WP.ofV (T := T_TM_here) (hh := []) rfl rfl [(14, [true, true, true]), (43, [true, true, true])] 38 h
theorem E_TM_here {t : Nat} {a1 : Int32} {a2 : Int32} {G : GH} {K : Int32 → GH → Prop} {KX : String → GH → Prop} (h : V_TM_here_0 t a1 a2 G (gQi K KX)) : CI M_TM_here [.ref t, .int a1, .int a2] G K KX := CI.of rfl rfl rfl (V_TM_here_0_ok h)
def V_TM_here_14 (t : Nat) (a1 : Int32) (a2 : Int32) (s0 : Int32) (s1 : Nat) (G : GH) (Q : GQ) : Prop :=
  CV M_TM_wrong [.ref s1, .int s0, .int (nI 1)] G (fun (G1 : GH) =>
    ∃ (fs2 : List Value) (x3 : Int32), G1.2 t = some (.inl (11, fs2)) ∧ fs2[22]? = some (.int x3) ∧
    if x3 = (nI 0) then
      ∃ (fs4 : List Value) (x5 : Int32), G1.2 t = some (.inl (11, fs4)) ∧ fs4[21]? = some (.int x5) ∧
      CI M_TM_isIn [.int x5, .int a1, .int a2] G1 (fun (x7 : Int32) (G6 : GH) =>
        if x7 = (nI 0) then
          WP M_TM_here 0 0 43 [some (.ref t), some (.int a1), some (.int a2)] [.int (nI 1), .ref t] G6 Q
        else
          WP M_TM_here 0 0 43 [some (.ref t), some (.int a1), some (.int a2)] [.int (nI 0), .ref t] G6 Q) gNo
    else
      WP M_TM_here 0 0 43 [some (.ref t), some (.int a1), some (.int a2)] [.int (nI 0), .ref t] G1 Q) gNo
set_option maxRecDepth 100000 in
theorem V_TM_here_14_ok {t : Nat} {a1 : Int32} {a2 : Int32} {s0 : Int32} {s1 : Nat} {G : GH} {Q : GQ} (h : V_TM_here_14 t a1 a2 s0 s1 G Q) : WP M_TM_here 0 0 14 [some (.ref t), some (.int a1), some (.int a2)] [.int s0, .ref s1] G Q := WP.ofV (T := T_TM_here) (hh := []) rfl rfl [(14, [true, true, true]), (43, [true, true, true])] 38 h
def V_TM_here_43 (t : Nat) (a1 : Int32) (a2 : Int32) (s0 : Int32) (s1 : Nat) (G : GH) (Q : GQ) : Prop :=
  CV M_TM_wrong [.ref s1, .int s0, .int (nI 2)] G (fun (G1 : GH) =>
    ∃ (fs2 : List Value) (x3 : Int32), G1.2 t = some (.inl (11, fs2)) ∧ fs2[22]? = some (.int x3) ∧
    if x3 = (nI 0) then
      ∃ (fs4 : List Value) (x5 : Int32), G1.2 t = some (.inl (11, fs4)) ∧ fs4[21]? = some (.int x5) ∧
      Q.1 x5 G1
    else
      Q.1 a1 G1) gNo
set_option maxRecDepth 100000 in
theorem V_TM_here_43_ok {t : Nat} {a1 : Int32} {a2 : Int32} {s0 : Int32} {s1 : Nat} {G : GH} {Q : GQ} (h : V_TM_here_43 t a1 a2 s0 s1 G Q) : WP M_TM_here 0 0 43 [some (.ref t), some (.int a1), some (.int a2)] [.int s0, .ref s1] G Q := WP.ofV (T := T_TM_here) (hh := []) rfl rfl [(14, [true, true, true]), (43, [true, true, true])] 38 h
def V_TM_number_0 (t : Nat) (a1 : Int32) (a2 : Int32) (G : GH) (Q : GQ) : Prop :=
  CI M_TM_here [.ref t, .int a1, .int a2] G (fun (x2 : Int32) (G1 : GH) =>
    CV M_TM_go [.ref t] G1 (fun (G3 : GH) =>
      Q.1 x2 G3) gNo) gNo
set_option maxRecDepth 100000 in
theorem V_TM_number_0_ok {t : Nat} {a1 : Int32} {a2 : Int32} {G : GH} {Q : GQ} (h : V_TM_number_0 t a1 a2 G Q) : WP M_TM_number 0 0 0 [some (.ref t), some (.int a1), some (.int a2), none] [] G Q := WP.ofV (T := T_TM_number) (hh := []) rfl rfl [] 14 h
theorem E_TM_number {t : Nat} {a1 : Int32} {a2 : Int32} {G : GH} {K : Int32 → GH → Prop} {KX : String → GH → Prop} (h : V_TM_number_0 t a1 a2 G (gQi K KX)) : CI M_TM_number [.ref t, .int a1, .int a2] G K KX := CI.of rfl rfl rfl (V_TM_number_0_ok h)
def V_TM_sideHere_0 (t : Nat) (G : GH) (Q : GQ) : Prop :=
  CI M_TM_is [.ref t, .ref 100020] G (fun (x2 : Int32) (G1 : GH) =>
    if x2 = (nI 0) then
      CI M_TM_is [.ref t, .ref 100021] G1 (fun (x4 : Int32) (G3 : GH) =>
        if x4 = (nI 0) then
          WP M_TM_sideHere 0 0 27 [some (.ref t), none] [.int (-nI 1)] G3 Q
        else
          WP M_TM_sideHere 0 0 27 [some (.ref t), none] [.int (nI 1)] G3 Q) gNo
    else
      WP M_TM_sideHere 0 0 27 [some (.ref t), none] [.int (nI 0)] G1 Q) gNo
set_option maxRecDepth 100000 in
theorem V_TM_sideHere_0_ok {t : Nat} {G : GH} {Q : GQ} (h : V_TM_sideHere_0 t G Q) : WP M_TM_sideHere 0 0 0 [some (.ref t), none] [] G Q := WP.ofV (T := T_TM_sideHere) (hh := []) rfl rfl [(27, [true, false]), (39, [true, true])] 32 h
theorem E_TM_sideHere {t : Nat} {G : GH} {K : Int32 → GH → Prop} {KX : String → GH → Prop} (h : V_TM_sideHere_0 t G (gQi K KX)) : CI M_TM_sideHere [.ref t] G K KX := CI.of rfl rfl rfl (V_TM_sideHere_0_ok h)
def V_TM_sideHere_27 (t : Nat) (s0 : Int32) (G : GH) (Q : GQ) : Prop :=
  if s0 = (-nI 1) then
    WP M_TM_sideHere 0 0 39 [some (.ref t), some (.int s0)] [.int (nI 1), .ref t] G Q
  else
    WP M_TM_sideHere 0 0 39 [some (.ref t), some (.int s0)] [.int (nI 0), .ref t] G Q
set_option maxRecDepth 100000 in
theorem V_TM_sideHere_27_ok {t : Nat} {s0 : Int32} {G : GH} {Q : GQ} (h : V_TM_sideHere_27 t s0 G Q) : WP M_TM_sideHere 0 0 27 [some (.ref t), none] [.int s0] G Q := WP.ofV (T := T_TM_sideHere) (hh := []) rfl rfl [(27, [true, false]), (39, [true, true])] 32 h
def V_TM_sideHere_39 (t : Nat) (a1 : Int32) (s0 : Int32) (s1 : Nat) (G : GH) (Q : GQ) : Prop :=
  CV M_TM_wrong [.ref s1, .int s0, .int (nI 1)] G (fun (G1 : GH) =>
    Q.1 (if (nI 0) < a1 then a1 else nI 0) G1) gNo
set_option maxRecDepth 100000 in
theorem V_TM_sideHere_39_ok {t : Nat} {a1 : Int32} {s0 : Int32} {s1 : Nat} {G : GH} {Q : GQ} (h : V_TM_sideHere_39 t a1 s0 s1 G Q) : WP M_TM_sideHere 0 0 39 [some (.ref t), some (.int a1)] [.int s0, .ref s1] G Q := WP.ofV (T := T_TM_sideHere) (hh := []) rfl rfl [(27, [true, false]), (39, [true, true])] 32 h
def V_TM_semicolon_0 (t : Nat) (G : GH) (Q : GQ) : Prop :=
  ∃ (fs1 : List Value) (x2 : Int32), G.2 t = some (.inl (11, fs1)) ∧ fs1[18]? = some (.int x2) ∧
  if x2 = (nI 3) then
    WP M_TM_semicolon 0 0 14 [some (.ref t)] [.int (nI 0), .ref t] G Q
  else
    WP M_TM_semicolon 0 0 14 [some (.ref t)] [.int (nI 1), .ref t] G Q
set_option maxRecDepth 100000 in
theorem V_TM_semicolon_0_ok {t : Nat} {G : GH} {Q : GQ} (h : V_TM_semicolon_0 t G Q) : WP M_TM_semicolon 0 0 0 [some (.ref t)] [] G Q := WP.ofV (T := T_TM_semicolon) (hh := []) rfl rfl [(14, [true])] 18 h
theorem E_TM_semicolon {t : Nat} {G : GH} {K : GH → Prop} {KX : String → GH → Prop} (h : V_TM_semicolon_0 t G (gQv K KX)) : CV M_TM_semicolon [.ref t] G K KX := CV.of rfl rfl rfl (V_TM_semicolon_0_ok h)
def V_TM_semicolon_14 (t : Nat) (s0 : Int32) (s1 : Nat) (G : GH) (Q : GQ) : Prop :=
  CV M_TM_wrong [.ref s1, .int s0, .int (nI 1)] G (fun (G1 : GH) =>
    CV M_TM_go [.ref t] G1 (fun (G2 : GH) =>
      Q.2.1 G2) gNo) gNo
set_option maxRecDepth 100000 in
theorem V_TM_semicolon_14_ok {t : Nat} {s0 : Int32} {s1 : Nat} {G : GH} {Q : GQ} (h : V_TM_semicolon_14 t s0 s1 G Q) : WP M_TM_semicolon 0 0 14 [some (.ref t)] [.int s0, .ref s1] G Q := WP.ofV (T := T_TM_semicolon) (hh := []) rfl rfl [(14, [true])] 18 h
def V_TM_blockTold_0 (t : Nat) (G : GH) (Q : GQ) : Prop :=
  CV M_TM_go [.ref t] G (fun (G1 : GH) =>
    ∃ (fs2 : List Value) (r3 : Nat), G1.2 t = some (.inl (11, fs2)) ∧ fs2[0]? = some (.ref r3) ∧
    ∃ (m4 : Nat) (f5 : Nat → Int32), G1.2 r3 = some (.inr (.int, m4, .inl f5)) ∧ vp_in (nI 0) m4 ∧
    CI M_TM_number [.ref t, .int (nI 0), .int ((f5 (nI 0).toNatClampNeg) - (nI 1))] G1 (fun (x7 : Int32) (G6 : GH) =>
      ∃ (fs8 : List Value) (r9 : Nat), G6.2 t = some (.inl (11, fs8)) ∧ fs8[0]? = some (.ref r9) ∧
      ∃ (m10 : Nat) (f11 : Nat → Int32), G6.2 r9 = some (.inr (.int, m10, .inl f11)) ∧ vp_in (nI 1) m10 ∧
      CI M_TM_here [.ref t, .int (nI 0), .int ((f11 (nI 1).toNatClampNeg) - (nI 1))] G6 (fun (x13 : Int32) (G12 : GH) =>
        ∃ (fs14 : List Value) (x15 : Int32), G12.2 t = some (.inl (11, fs14)) ∧ fs14[22]? = some (.int x15) ∧
        if x15 = (nI 0) then
          CI M_TM_cell [.ref t, .int x7, .int x13] G12 (fun (x17 : Int32) (G16 : GH) =>
            if x17 = (nI 1) then
              WP M_TM_blockTold 0 0 55 [some (.ref t), some (.int x7), some (.int x13)] [.int (nI 1), .ref t] G16 Q
            else
              WP M_TM_blockTold 0 0 55 [some (.ref t), some (.int x7), some (.int x13)] [.int (nI 0), .ref t] G16 Q) gNo
        else
          WP M_TM_blockTold 0 0 55 [some (.ref t), some (.int x7), some (.int x13)] [.int (nI 0), .ref t] G12 Q) gNo) gNo) gNo
set_option maxRecDepth 100000 in
theorem V_TM_blockTold_0_ok {t : Nat} {G : GH} {Q : GQ} (h : V_TM_blockTold_0 t G Q) : WP M_TM_blockTold 0 0 0 [some (.ref t), none, none] [] G Q := WP.ofV (T := T_TM_blockTold) (hh := []) rfl rfl [(55, [true, true, true])] 60 h
theorem E_TM_blockTold {t : Nat} {G : GH} {K : GH → Prop} {KX : String → GH → Prop} (h : V_TM_blockTold_0 t G (gQv K KX)) : CV M_TM_blockTold [.ref t] G K KX := CV.of rfl rfl rfl (V_TM_blockTold_0_ok h)
def V_TM_blockTold_55 (t : Nat) (a1 : Int32) (a2 : Int32) (s0 : Int32) (s1 : Nat) (G : GH) (Q : GQ) : Prop :=
  CV M_TM_wrong [.ref s1, .int s0, .int (nI 4)] G (fun (G1 : GH) =>
    ∃ (fs2 : List Value) (x3 : Int32), G1.2 t = some (.inl (11, fs2)) ∧ fs2[22]? = some (.int x3) ∧
    if x3 = (nI 0) then
      ∃ (fs4 : List Value) (r5 : Nat), G1.2 t = some (.inl (11, fs4)) ∧ fs4[0]? = some (.ref r5) ∧
      CI M_TM_at [.int a1, .int a2] G1 (fun (x7 : Int32) (G6 : GH) =>
        r5 < gRB ∧ ∃ (m8 : Nat) (f9 : Nat → Int32), G6.2 r5 = some (.inr (.int, m8, .inl f9)) ∧ vp_in ((nI 33) + x7) m8 ∧
        let G10 : GH := gU G6 r5 (.inr (.int, m8, .inl (upd f9 ((nI 33) + x7).toNatClampNeg (nI 1))));
        CV M_TM_go [.ref t] G10 (fun (G11 : GH) =>
          CV M_TM_semicolon [.ref t] G11 (fun (G12 : GH) =>
            Q.2.1 G12) gNo) gNo) gNo
    else
      Q.2.1 G1) gNo
set_option maxRecDepth 100000 in
theorem V_TM_blockTold_55_ok {t : Nat} {a1 : Int32} {a2 : Int32} {s0 : Int32} {s1 : Nat} {G : GH} {Q : GQ} (h : V_TM_blockTold_55 t a1 a2 s0 s1 G Q) : WP M_TM_blockTold 0 0 55 [some (.ref t), some (.int a1), some (.int a2)] [.int s0, .ref s1] G Q := WP.ofV (T := T_TM_blockTold) (hh := []) rfl rfl [(55, [true, true, true])] 60 h
def V_TM_edgeTold_0 (t : Nat) (G : GH) (Q : GQ) : Prop :=
  CV M_TM_go [.ref t] G (fun (G1 : GH) =>
    ∃ (fs2 : List Value) (r3 : Nat), G1.2 t = some (.inl (11, fs2)) ∧ fs2[0]? = some (.ref r3) ∧
    ∃ (m4 : Nat) (f5 : Nat → Int32), G1.2 r3 = some (.inr (.int, m4, .inl f5)) ∧ vp_in (nI 0) m4 ∧
    CI M_TM_number [.ref t, .int (nI 0), .int ((f5 (nI 0).toNatClampNeg) - (nI 1))] G1 (fun (x7 : Int32) (G6 : GH) =>
      ∃ (fs8 : List Value) (r9 : Nat), G6.2 t = some (.inl (11, fs8)) ∧ fs8[0]? = some (.ref r9) ∧
      ∃ (m10 : Nat) (f11 : Nat → Int32), G6.2 r9 = some (.inr (.int, m10, .inl f11)) ∧ vp_in (nI 1) m10 ∧
      CI M_TM_number [.ref t, .int (nI 0), .int ((f11 (nI 1).toNatClampNeg) - (nI 1))] G6 (fun (x13 : Int32) (G12 : GH) =>
        CI M_TM_sideHere [.ref t] G12 (fun (x15 : Int32) (G14 : GH) =>
          ∃ (fs16 : List Value) (x17 : Int32), G14.2 t = some (.inl (11, fs16)) ∧ fs16[22]? = some (.int x17) ∧
          if x17 = (nI 0) then
            CI M_TM_isEdge [.ref t, .int x7, .int x13, .int x15] G14 (fun (x19 : Int32) (G18 : GH) =>
              if x19 = (nI 0) then
                WP M_TM_edgeTold 0 0 60 [some (.ref t), some (.int x7), some (.int x13), some (.int x15), none] [.int (nI 1), .ref t] G18 Q
              else
                WP M_TM_edgeTold 0 0 60 [some (.ref t), some (.int x7), some (.int x13), some (.int x15), none] [.int (nI 0), .ref t] G18 Q) gNo
          else
            WP M_TM_edgeTold 0 0 60 [some (.ref t), some (.int x7), some (.int x13), some (.int x15), none] [.int (nI 0), .ref t] G14 Q) gNo) gNo) gNo) gNo
set_option maxRecDepth 100000 in
theorem V_TM_edgeTold_0_ok {t : Nat} {G : GH} {Q : GQ} (h : V_TM_edgeTold_0 t G Q) : WP M_TM_edgeTold 0 0 0 [some (.ref t), none, none, none, none] [] G Q := WP.ofV (T := T_TM_edgeTold) (hh := []) rfl rfl [(60, [true, true, true, true, false]), (92, [true, true, true, true, false]), (126, [true, true, true, true, false]), (137, [true, true, true, true, false]), (149, [true, true, true, true, false])] 116 h
theorem E_TM_edgeTold {t : Nat} {G : GH} {K : GH → Prop} {KX : String → GH → Prop} (h : V_TM_edgeTold_0 t G (gQv K KX)) : CV M_TM_edgeTold [.ref t] G K KX := CV.of rfl rfl rfl (V_TM_edgeTold_0_ok h)
def V_TM_edgeTold_60 (t : Nat) (a1 : Int32) (a2 : Int32) (a3 : Int32) (s0 : Int32) (s1 : Nat) (G : GH) (Q : GQ) : Prop :=
  CV M_TM_wrong [.ref s1, .int s0, .int (nI 3)] G (fun (G1 : GH) =>
    ∃ (fs2 : List Value) (x3 : Int32), G1.2 t = some (.inl (11, fs2)) ∧ fs2[22]? = some (.int x3) ∧
    if x3 = (nI 0) then
      ∃ (fs4 : List Value) (r5 : Nat), G1.2 t = some (.inl (11, fs4)) ∧ fs4[0]? = some (.ref r5) ∧
      CI M_TM_edge [.int a1, .int a2, .int a3] G1 (fun (x7 : Int32) (G6 : GH) =>
        ∃ (m8 : Nat) (f9 : Nat → Int32), G6.2 r5 = some (.inr (.int, m8, .inl f9)) ∧ vp_in x7 m8 ∧
        if (f9 (x7).toNatClampNeg) = (nI 1) then
          WP M_TM_edgeTold 0 0 92 [some (.ref t), some (.int a1), some (.int a2), some (.int a3), none] [.int (nI 1), .ref t] G6 Q
        else
          WP M_TM_edgeTold 0 0 92 [some (.ref t), some (.int a1), some (.int a2), some (.int a3), none] [.int (nI 0), .ref t] G6 Q) gNo
    else
      WP M_TM_edgeTold 0 0 92 [some (.ref t), some (.int a1), some (.int a2), some (.int a3), none] [.int (nI 0), .ref t] G1 Q) gNo
set_option maxRecDepth 100000 in
theorem V_TM_edgeTold_60_ok {t : Nat} {a1 : Int32} {a2 : Int32} {a3 : Int32} {s0 : Int32} {s1 : Nat} {G : GH} {Q : GQ} (h : V_TM_edgeTold_60 t a1 a2 a3 s0 s1 G Q) : WP M_TM_edgeTold 0 0 60 [some (.ref t), some (.int a1), some (.int a2), some (.int a3), none] [.int s0, .ref s1] G Q := WP.ofV (T := T_TM_edgeTold) (hh := []) rfl rfl [(60, [true, true, true, true, false]), (92, [true, true, true, true, false]), (126, [true, true, true, true, false]), (137, [true, true, true, true, false]), (149, [true, true, true, true, false])] 116 h
def V_TM_edgeTold_92 (t : Nat) (a1 : Int32) (a2 : Int32) (a3 : Int32) (s0 : Int32) (s1 : Nat) (G : GH) (Q : GQ) : Prop :=
  CV M_TM_wrong [.ref s1, .int s0, .int (nI 4)] G (fun (G1 : GH) =>
    ∃ (fs2 : List Value) (x3 : Int32), G1.2 t = some (.inl (11, fs2)) ∧ fs2[22]? = some (.int x3) ∧
    if x3 = (nI 0) then
      CI M_TM_cell [.ref t, .int a1, .int a2] G1 (fun (x5 : Int32) (G4 : GH) =>
        if x5 = (nI 1) then
          WP M_TM_edgeTold 0 0 149 [some (.ref t), some (.int a1), some (.int a2), some (.int a3), none] [.int (nI 1)] G4 Q
        else
          if a3 = (nI 0) then
            WP M_TM_edgeTold 0 0 126 [some (.ref t), some (.int a1), some (.int a2), some (.int a3), none] [.int (a1 + (nI 1)), .ref t] G4 Q
          else
            WP M_TM_edgeTold 0 0 126 [some (.ref t), some (.int a1), some (.int a2), some (.int a3), none] [.int a1, .ref t] G4 Q) gNo
    else
      Q.2.1 G1) gNo
set_option maxRecDepth 100000 in
theorem V_TM_edgeTold_92_ok {t : Nat} {a1 : Int32} {a2 : Int32} {a3 : Int32} {s0 : Int32} {s1 : Nat} {G : GH} {Q : GQ} (h : V_TM_edgeTold_92 t a1 a2 a3 s0 s1 G Q) : WP M_TM_edgeTold 0 0 92 [some (.ref t), some (.int a1), some (.int a2), some (.int a3), none] [.int s0, .ref s1] G Q := WP.ofV (T := T_TM_edgeTold) (hh := []) rfl rfl [(60, [true, true, true, true, false]), (92, [true, true, true, true, false]), (126, [true, true, true, true, false]), (137, [true, true, true, true, false]), (149, [true, true, true, true, false])] 116 h
def V_TM_edgeTold_126 (t : Nat) (a1 : Int32) (a2 : Int32) (a3 : Int32) (s0 : Int32) (s1 : Nat) (G : GH) (Q : GQ) : Prop :=
  if a3 = (nI 0) then
    WP M_TM_edgeTold 0 0 137 [some (.ref t), some (.int a1), some (.int a2), some (.int a3), none] [.int a2, .int s0, .ref s1] G Q
  else
    WP M_TM_edgeTold 0 0 137 [some (.ref t), some (.int a1), some (.int a2), some (.int a3), none] [.int (a2 + (nI 1)), .int s0, .ref s1] G Q
set_option maxRecDepth 100000 in
theorem V_TM_edgeTold_126_ok {t : Nat} {a1 : Int32} {a2 : Int32} {a3 : Int32} {s0 : Int32} {s1 : Nat} {G : GH} {Q : GQ} (h : V_TM_edgeTold_126 t a1 a2 a3 s0 s1 G Q) : WP M_TM_edgeTold 0 0 126 [some (.ref t), some (.int a1), some (.int a2), some (.int a3), none] [.int s0, .ref s1] G Q := WP.ofV (T := T_TM_edgeTold) (hh := []) rfl rfl [(60, [true, true, true, true, false]), (92, [true, true, true, true, false]), (126, [true, true, true, true, false]), (137, [true, true, true, true, false]), (149, [true, true, true, true, false])] 116 h
def V_TM_edgeTold_137 (t : Nat) (a1 : Int32) (a2 : Int32) (a3 : Int32) (s0 : Int32) (s1 : Int32) (s2 : Nat) (G : GH) (Q : GQ) : Prop :=
  CI M_TM_cell [.ref s2, .int s1, .int s0] G (fun (x2 : Int32) (G1 : GH) =>
    if x2 = (nI 1) then
      WP M_TM_edgeTold 0 0 149 [some (.ref t), some (.int a1), some (.int a2), some (.int a3), none] [.int (nI 1)] G1 Q
    else
      WP M_TM_edgeTold 0 0 149 [some (.ref t), some (.int a1), some (.int a2), some (.int a3), none] [.int (nI 0)] G1 Q) gNo
set_option maxRecDepth 100000 in
theorem V_TM_edgeTold_137_ok {t : Nat} {a1 : Int32} {a2 : Int32} {a3 : Int32} {s0 : Int32} {s1 : Int32} {s2 : Nat} {G : GH} {Q : GQ} (h : V_TM_edgeTold_137 t a1 a2 a3 s0 s1 s2 G Q) : WP M_TM_edgeTold 0 0 137 [some (.ref t), some (.int a1), some (.int a2), some (.int a3), none] [.int s0, .int s1, .ref s2] G Q := WP.ofV (T := T_TM_edgeTold) (hh := []) rfl rfl [(60, [true, true, true, true, false]), (92, [true, true, true, true, false]), (126, [true, true, true, true, false]), (137, [true, true, true, true, false]), (149, [true, true, true, true, false])] 116 h
def V_TM_edgeTold_149 (t : Nat) (a1 : Int32) (a2 : Int32) (a3 : Int32) (s0 : Int32) (G : GH) (Q : GQ) : Prop :=
  CV M_TM_wrong [.ref t, .int s0, .int (nI 5)] G (fun (G1 : GH) =>
    ∃ (fs2 : List Value) (x3 : Int32), G1.2 t = some (.inl (11, fs2)) ∧ fs2[22]? = some (.int x3) ∧
    if x3 = (nI 0) then
      ∃ (fs4 : List Value) (r5 : Nat), G1.2 t = some (.inl (11, fs4)) ∧ fs4[0]? = some (.ref r5) ∧
      CI M_TM_edge [.int a1, .int a2, .int a3] G1 (fun (x7 : Int32) (G6 : GH) =>
        r5 < gRB ∧ ∃ (m8 : Nat) (f9 : Nat → Int32), G6.2 r5 = some (.inr (.int, m8, .inl f9)) ∧ vp_in x7 m8 ∧
        let G10 : GH := gU G6 r5 (.inr (.int, m8, .inl (upd f9 (x7).toNatClampNeg (nI 1))));
        CV M_TM_go [.ref t] G10 (fun (G11 : GH) =>
          CV M_TM_semicolon [.ref t] G11 (fun (G12 : GH) =>
            Q.2.1 G12) gNo) gNo) gNo
    else
      Q.2.1 G1) gNo
set_option maxRecDepth 100000 in
theorem V_TM_edgeTold_149_ok {t : Nat} {a1 : Int32} {a2 : Int32} {a3 : Int32} {s0 : Int32} {G : GH} {Q : GQ} (h : V_TM_edgeTold_149 t a1 a2 a3 s0 G Q) : WP M_TM_edgeTold 0 0 149 [some (.ref t), some (.int a1), some (.int a2), some (.int a3), none] [.int s0] G Q := WP.ofV (T := T_TM_edgeTold) (hh := []) rfl rfl [(60, [true, true, true, true, false]), (92, [true, true, true, true, false]), (126, [true, true, true, true, false]), (137, [true, true, true, true, false]), (149, [true, true, true, true, false])] 116 h
def V_TM_hasNameHere_0 (t : Nat) (a1 : Int32) (G : GH) (Q : GQ) : Prop :=
  CI M_TM_of [.ref t, .int a1, .int (nI 7)] G (fun (x2 : Int32) (G1 : GH) =>
    ∃ (fs3 : List Value) (x4 : Int32), G1.2 t = some (.inl (11, fs3)) ∧ fs3[20]? = some (.int x4) ∧
    ∃ (fs5 : List Value) (x6 : Int32), G1.2 t = some (.inl (11, fs5)) ∧ fs5[19]? = some (.int x6) ∧
    if x2 = (x4 - x6) then
      WP M_TM_hasNameHere 0 0 27 [some (.ref t), some (.int a1), some (.int (nI 1)), some (.int (nI 0))] [] G1 Q
    else
      WP M_TM_hasNameHere 0 0 27 [some (.ref t), some (.int a1), some (.int (nI 0)), some (.int (nI 0))] [] G1 Q) gNo
set_option maxRecDepth 100000 in
theorem V_TM_hasNameHere_0_ok {t : Nat} {a1 : Int32} {G : GH} {Q : GQ} (h : V_TM_hasNameHere_0 t a1 G Q) : WP M_TM_hasNameHere 0 0 0 [some (.ref t), some (.int a1), none, none] [] G Q := WP.ofV (T := T_TM_hasNameHere) (hh := []) rfl rfl [(27, [true, true, true, true])] 52 h
theorem E_TM_hasNameHere {t : Nat} {a1 : Int32} {G : GH} {K : Int32 → GH → Prop} {KX : String → GH → Prop} (h : V_TM_hasNameHere_0 t a1 G (gQi K KX)) : CI M_TM_hasNameHere [.ref t, .int a1] G K KX := CI.of rfl rfl rfl (V_TM_hasNameHere_0_ok h)
def V_TM_hasNameHere_27 (t : Nat) (a1 : Int32) (a2 : Int32) (a3 : Int32) (G : GH) (Q : GQ) : Prop :=
  if a2 = (nI 0) then
    (a2 = nI 0 ∨ a2 = nI 1) ∧ Q.1 a2 G
  else
    ∃ (fs1 : List Value) (x2 : Int32), G.2 t = some (.inl (11, fs1)) ∧ fs1[20]? = some (.int x2) ∧
    ∃ (fs3 : List Value) (x4 : Int32), G.2 t = some (.inl (11, fs3)) ∧ fs3[19]? = some (.int x4) ∧
    if a3 < (x2 - x4) then
      CI M_TM_of [.ref t, .int a1, .int ((nI 8) + a3)] G (fun (x6 : Int32) (G5 : GH) =>
        ∃ (fs7 : List Value) (r8 : Nat), G5.2 t = some (.inl (11, fs7)) ∧ fs7[8]? = some (.ref r8) ∧
        ∃ (fs9 : List Value) (x10 : Int32), G5.2 t = some (.inl (11, fs9)) ∧ fs9[19]? = some (.int x10) ∧
        ∃ (m11 : Nat) (f12 : Nat → Int32), G5.2 r8 = some (.inr (.int, m11, .inl f12)) ∧ vp_in (x10 + a3) m11 ∧
        if x6 = (f12 (x10 + a3).toNatClampNeg) then
          WP M_TM_hasNameHere 0 0 27 [some (.ref t), some (.int a1), some (.int (nI 1)), some (.int (a3 + nI 1))] [] G5 Q
        else
          WP M_TM_hasNameHere 0 0 27 [some (.ref t), some (.int a1), some (.int (nI 0)), some (.int (a3 + nI 1))] [] G5 Q) gNo
    else
      (a2 = nI 0 ∨ a2 = nI 1) ∧ Q.1 a2 G
set_option maxRecDepth 100000 in
theorem V_TM_hasNameHere_27_ok {t : Nat} {a1 : Int32} {a2 : Int32} {a3 : Int32} {G : GH} {Q : GQ} (h : V_TM_hasNameHere_27 t a1 a2 a3 G Q) : WP M_TM_hasNameHere 0 0 27 [some (.ref t), some (.int a1), some (.int a2), some (.int a3)] [] G Q := WP.ofV (T := T_TM_hasNameHere) (hh := []) rfl rfl [(27, [true, true, true, true])] 52 h
def V_TM_playerTold_0 (t : Nat) (a1 : Int32) (G : GH) (Q : GQ) : Prop :=
  CI M_TM_is [.ref t, .ref 100022] G (fun (x2 : Int32) (G1 : GH) =>
    if x2 = (nI 0) then
      WP M_TM_playerTold 0 0 15 [some (.ref t), some (.int a1), none] [.int (nI 1), .ref t] G1 Q
    else
      WP M_TM_playerTold 0 0 15 [some (.ref t), some (.int a1), none] [.int (nI 0), .ref t] G1 Q) gNo
set_option maxRecDepth 100000 in
theorem V_TM_playerTold_0_ok {t : Nat} {a1 : Int32} {G : GH} {Q : GQ} (h : V_TM_playerTold_0 t a1 G Q) : WP M_TM_playerTold 0 0 0 [some (.ref t), some (.int a1), none] [] G Q := WP.ofV (T := T_TM_playerTold) (hh := []) rfl rfl [(15, [true, true, false]), (51, [true, true, false]), (81, [true, true, false]), (111, [true, true, true]), (156, [true, true, true])] 117 h
theorem E_TM_playerTold {t : Nat} {a1 : Int32} {G : GH} {K : GH → Prop} {KX : String → GH → Prop} (h : V_TM_playerTold_0 t a1 G (gQv K KX)) : CV M_TM_playerTold [.ref t, .int a1] G K KX := CV.of rfl rfl rfl (V_TM_playerTold_0_ok h)
def V_TM_playerTold_15 (t : Nat) (a1 : Int32) (s0 : Int32) (s1 : Nat) (G : GH) (Q : GQ) : Prop :=
  CV M_TM_wrong [.ref s1, .int s0, .int (nI 1)] G (fun (G1 : GH) =>
    CV M_TM_go [.ref t] G1 (fun (G2 : GH) =>
      ∃ (fs3 : List Value) (x4 : Int32), G2.2 t = some (.inl (11, fs3)) ∧ fs3[18]? = some (.int x4) ∧
      if x4 = (nI 1) then
        ∃ (fs5 : List Value) (x6 : Int32), G2.2 t = some (.inl (11, fs5)) ∧ fs5[20]? = some (.int x6) ∧
        ∃ (fs7 : List Value) (x8 : Int32), G2.2 t = some (.inl (11, fs7)) ∧ fs7[19]? = some (.int x8) ∧
        if (nI 6) < (x6 - x8) then
          WP M_TM_playerTold 0 0 51 [some (.ref t), some (.int a1), none] [.int (nI 1), .ref t] G2 Q
        else
          WP M_TM_playerTold 0 0 51 [some (.ref t), some (.int a1), none] [.int (nI 0), .ref t] G2 Q
      else
        WP M_TM_playerTold 0 0 51 [some (.ref t), some (.int a1), none] [.int (nI 1), .ref t] G2 Q) gNo) gNo
set_option maxRecDepth 100000 in
theorem V_TM_playerTold_15_ok {t : Nat} {a1 : Int32} {s0 : Int32} {s1 : Nat} {G : GH} {Q : GQ} (h : V_TM_playerTold_15 t a1 s0 s1 G Q) : WP M_TM_playerTold 0 0 15 [some (.ref t), some (.int a1), none] [.int s0, .ref s1] G Q := WP.ofV (T := T_TM_playerTold) (hh := []) rfl rfl [(15, [true, true, false]), (51, [true, true, false]), (81, [true, true, false]), (111, [true, true, true]), (156, [true, true, true])] 117 h
def V_TM_playerTold_51 (t : Nat) (a1 : Int32) (s0 : Int32) (s1 : Nat) (G : GH) (Q : GQ) : Prop :=
  CV M_TM_wrong [.ref s1, .int s0, .int (nI 1)] G (fun (G1 : GH) =>
    ∃ (fs2 : List Value) (x3 : Int32), G1.2 t = some (.inl (11, fs2)) ∧ fs2[22]? = some (.int x3) ∧
    if x3 = (nI 0) then
      if a1 = (nI 1) then
        CI M_TM_hasNameHere [.ref t, .int (nI 0)] G1 (fun (x5 : Int32) (G4 : GH) =>
          if x5 = (nI 0) then
            WP M_TM_playerTold 0 0 81 [some (.ref t), some (.int a1), none] [.int (nI 0), .ref t] G4 Q
          else
            WP M_TM_playerTold 0 0 81 [some (.ref t), some (.int a1), none] [.int (nI 1), .ref t] G4 Q) gNo
      else
        WP M_TM_playerTold 0 0 81 [some (.ref t), some (.int a1), none] [.int (nI 0), .ref t] G1 Q
    else
      WP M_TM_playerTold 0 0 81 [some (.ref t), some (.int a1), none] [.int (nI 0), .ref t] G1 Q) gNo
set_option maxRecDepth 100000 in
theorem V_TM_playerTold_51_ok {t : Nat} {a1 : Int32} {s0 : Int32} {s1 : Nat} {G : GH} {Q : GQ} (h : V_TM_playerTold_51 t a1 s0 s1 G Q) : WP M_TM_playerTold 0 0 51 [some (.ref t), some (.int a1), none] [.int s0, .ref s1] G Q := WP.ofV (T := T_TM_playerTold) (hh := []) rfl rfl [(15, [true, true, false]), (51, [true, true, false]), (81, [true, true, false]), (111, [true, true, true]), (156, [true, true, true])] 117 h
def V_TM_playerTold_81 (t : Nat) (a1 : Int32) (s0 : Int32) (s1 : Nat) (G : GH) (Q : GQ) : Prop :=
  CV M_TM_wrong [.ref s1, .int s0, .int (nI 4)] G (fun (G1 : GH) =>
    ∃ (fs2 : List Value) (x3 : Int32), G1.2 t = some (.inl (11, fs2)) ∧ fs2[22]? = some (.int x3) ∧
    if x3 = (nI 0) then
      ∃ (fs4 : List Value) (x5 : Int32), G1.2 t = some (.inl (11, fs4)) ∧ fs4[20]? = some (.int x5) ∧
      ∃ (fs6 : List Value) (x7 : Int32), G1.2 t = some (.inl (11, fs6)) ∧ fs6[19]? = some (.int x7) ∧
      CV M_TM_put [.ref t, .int a1, .int (nI 7), .int (x5 - x7)] G1 (fun (G8 : GH) =>
        WP M_TM_playerTold 0 0 111 [some (.ref t), some (.int a1), some (.int (nI 0))] [] G8 Q) gNo
    else
      Q.2.1 G1) gNo
set_option maxRecDepth 100000 in
theorem V_TM_playerTold_81_ok {t : Nat} {a1 : Int32} {s0 : Int32} {s1 : Nat} {G : GH} {Q : GQ} (h : V_TM_playerTold_81 t a1 s0 s1 G Q) : WP M_TM_playerTold 0 0 81 [some (.ref t), some (.int a1), none] [.int s0, .ref s1] G Q := WP.ofV (T := T_TM_playerTold) (hh := []) rfl rfl [(15, [true, true, false]), (51, [true, true, false]), (81, [true, true, false]), (111, [true, true, true]), (156, [true, true, true])] 117 h
def V_TM_playerTold_111 (t : Nat) (a1 : Int32) (a2 : Int32) (G : GH) (Q : GQ) : Prop :=
  ∃ (fs1 : List Value) (x2 : Int32), G.2 t = some (.inl (11, fs1)) ∧ fs1[20]? = some (.int x2) ∧
  ∃ (fs3 : List Value) (x4 : Int32), G.2 t = some (.inl (11, fs3)) ∧ fs3[19]? = some (.int x4) ∧
  if a2 < (x2 - x4) then
    ∃ (fs5 : List Value) (r6 : Nat), G.2 t = some (.inl (11, fs5)) ∧ fs5[8]? = some (.ref r6) ∧
    ∃ (fs7 : List Value) (x8 : Int32), G.2 t = some (.inl (11, fs7)) ∧ fs7[19]? = some (.int x8) ∧
    ∃ (m9 : Nat) (f10 : Nat → Int32), G.2 r6 = some (.inr (.int, m9, .inl f10)) ∧ vp_in (x8 + a2) m9 ∧
    CV M_TM_put [.ref t, .int a1, .int ((nI 8) + a2), .int (f10 (x8 + a2).toNatClampNeg)] G (fun (G11 : GH) =>
      WP M_TM_playerTold 0 0 111 [some (.ref t), some (.int a1), some (.int (a2 + nI 1))] [] G11 Q) gNo
  else
    CV M_TM_go [.ref t] G (fun (G12 : GH) =>
      WP M_TM_playerTold 0 0 156 [some (.ref t), some (.int a1), some (.int (nI 0))] [] G12 Q) gNo
set_option maxRecDepth 100000 in
theorem V_TM_playerTold_111_ok {t : Nat} {a1 : Int32} {a2 : Int32} {G : GH} {Q : GQ} (h : V_TM_playerTold_111 t a1 a2 G Q) : WP M_TM_playerTold 0 0 111 [some (.ref t), some (.int a1), some (.int a2)] [] G Q := WP.ofV (T := T_TM_playerTold) (hh := []) rfl rfl [(15, [true, true, false]), (51, [true, true, false]), (81, [true, true, false]), (111, [true, true, true]), (156, [true, true, true])] 117 h
def V_TM_playerTold_156 (t : Nat) (a1 : Int32) (a2 : Int32) (G : GH) (Q : GQ) : Prop :=
  if a2 < (nI 5) then
    CI M_TM_number [.ref t, .int (nI 0), .int (nI 9)] G (fun (x2 : Int32) (G1 : GH) =>
      CV M_TM_put [.ref t, .int a1, .int ((nI 2) + a2), .int x2] G1 (fun (G3 : GH) =>
        WP M_TM_playerTold 0 0 156 [some (.ref t), some (.int a1), some (.int (a2 + nI 1))] [] G3 Q) gNo) gNo
  else
    CI M_TM_number [.ref t, .int (nI 0), .int (nI 9)] G (fun (x5 : Int32) (G4 : GH) =>
      CV M_TM_put [.ref t, .int a1, .int (nI 1), .int x5] G4 (fun (G6 : GH) =>
        CV M_TM_semicolon [.ref t] G6 (fun (G7 : GH) =>
          Q.2.1 G7) gNo) gNo) gNo
set_option maxRecDepth 100000 in
theorem V_TM_playerTold_156_ok {t : Nat} {a1 : Int32} {a2 : Int32} {G : GH} {Q : GQ} (h : V_TM_playerTold_156 t a1 a2 G Q) : WP M_TM_playerTold 0 0 156 [some (.ref t), some (.int a1), some (.int a2)] [] G Q := WP.ofV (T := T_TM_playerTold) (hh := []) rfl rfl [(15, [true, true, false]), (51, [true, true, false]), (81, [true, true, false]), (111, [true, true, true]), (156, [true, true, true])] 117 h
def V_TM_shapeHere_0 (t : Nat) (G : GH) (Q : GQ) : Prop :=
  CI M_TM_is [.ref t, .ref 100024] G (fun (x2 : Int32) (G1 : GH) =>
    if x2 = (nI 0) then
      CI M_TM_is [.ref t, .ref 100025] G1 (fun (x4 : Int32) (G3 : GH) =>
        if x4 = (nI 0) then
          CI M_TM_is [.ref t, .ref 100026] G3 (fun (x6 : Int32) (G5 : GH) =>
            if x6 = (nI 0) then
              CI M_TM_is [.ref t, .ref 100027] G5 (fun (x8 : Int32) (G7 : GH) =>
                if x8 = (nI 0) then
                  CI M_TM_is [.ref t, .ref 100028] G7 (fun (x10 : Int32) (G9 : GH) =>
                    if x10 = (nI 0) then
                      WP M_TM_shapeHere 0 0 67 [some (.ref t), none] [.int (-nI 1)] G9 Q
                    else
                      WP M_TM_shapeHere 0 0 67 [some (.ref t), none] [.int (nI 4)] G9 Q) gNo
                else
                  WP M_TM_shapeHere 0 0 67 [some (.ref t), none] [.int (nI 3)] G7 Q) gNo
            else
              WP M_TM_shapeHere 0 0 67 [some (.ref t), none] [.int (nI 2)] G5 Q) gNo
        else
          WP M_TM_shapeHere 0 0 67 [some (.ref t), none] [.int (nI 1)] G3 Q) gNo
    else
      WP M_TM_shapeHere 0 0 67 [some (.ref t), none] [.int (nI 0)] G1 Q) gNo
set_option maxRecDepth 100000 in
theorem V_TM_shapeHere_0_ok {t : Nat} {G : GH} {Q : GQ} (h : V_TM_shapeHere_0 t G Q) : WP M_TM_shapeHere 0 0 0 [some (.ref t), none] [] G Q := WP.ofV (T := T_TM_shapeHere) (hh := []) rfl rfl [(67, [true, false]), (79, [true, true])] 50 h
theorem E_TM_shapeHere {t : Nat} {G : GH} {K : Int32 → GH → Prop} {KX : String → GH → Prop} (h : V_TM_shapeHere_0 t G (gQi K KX)) : CI M_TM_shapeHere [.ref t] G K KX := CI.of rfl rfl rfl (V_TM_shapeHere_0_ok h)
def V_TM_shapeHere_67 (t : Nat) (s0 : Int32) (G : GH) (Q : GQ) : Prop :=
  if s0 = (-nI 1) then
    WP M_TM_shapeHere 0 0 79 [some (.ref t), some (.int s0)] [.int (nI 1), .ref t] G Q
  else
    WP M_TM_shapeHere 0 0 79 [some (.ref t), some (.int s0)] [.int (nI 0), .ref t] G Q
set_option maxRecDepth 100000 in
theorem V_TM_shapeHere_67_ok {t : Nat} {s0 : Int32} {G : GH} {Q : GQ} (h : V_TM_shapeHere_67 t s0 G Q) : WP M_TM_shapeHere 0 0 67 [some (.ref t), none] [.int s0] G Q := WP.ofV (T := T_TM_shapeHere) (hh := []) rfl rfl [(67, [true, false]), (79, [true, true])] 50 h
def V_TM_shapeHere_79 (t : Nat) (a1 : Int32) (s0 : Int32) (s1 : Nat) (G : GH) (Q : GQ) : Prop :=
  CV M_TM_wrong [.ref s1, .int s0, .int (nI 1)] G (fun (G1 : GH) =>
    Q.1 (if (nI 0) < a1 then a1 else nI 0) G1) gNo
set_option maxRecDepth 100000 in
theorem V_TM_shapeHere_79_ok {t : Nat} {a1 : Int32} {s0 : Int32} {s1 : Nat} {G : GH} {Q : GQ} (h : V_TM_shapeHere_79 t a1 s0 s1 G Q) : WP M_TM_shapeHere 0 0 79 [some (.ref t), some (.int a1)] [.int s0, .ref s1] G Q := WP.ofV (T := T_TM_shapeHere) (hh := []) rfl rfl [(67, [true, false]), (79, [true, true])] 50 h
def V_TM_placeTold_0 (t : Nat) (G : GH) (Q : GQ) : Prop :=
  CV M_TM_go [.ref t] G (fun (G1 : GH) =>
    ∃ (fs2 : List Value) (x3 : Int32), G1.2 t = some (.inl (11, fs2)) ∧ fs2[22]? = some (.int x3) ∧
    if x3 = (nI 0) then
      CI M_TM_shapeHere [.ref t] G1 (fun (x5 : Int32) (G4 : GH) =>
        WP M_TM_placeTold 0 0 19 [some (.ref t), none, none, none, none] [.int x5] G4 Q) gNo
    else
      WP M_TM_placeTold 0 0 19 [some (.ref t), none, none, none, none] [.int (nI 0)] G1 Q) gNo
set_option maxRecDepth 100000 in
theorem V_TM_placeTold_0_ok {t : Nat} {G : GH} {Q : GQ} (h : V_TM_placeTold_0 t G Q) : WP M_TM_placeTold 0 0 0 [some (.ref t), none, none, none, none] [] G Q := WP.ofV (T := T_TM_placeTold) (hh := []) rfl rfl [(19, [true, false, false, false, false]), (85, [true, true, true, true, true])] 70 h
theorem E_TM_placeTold {t : Nat} {G : GH} {K : GH → Prop} {KX : String → GH → Prop} (h : V_TM_placeTold_0 t G (gQv K KX)) : CV M_TM_placeTold [.ref t] G K KX := CV.of rfl rfl rfl (V_TM_placeTold_0_ok h)
def V_TM_placeTold_19 (t : Nat) (s0 : Int32) (G : GH) (Q : GQ) : Prop :=
  CV M_TM_go [.ref t] G (fun (G1 : GH) =>
    CI M_TM_number [.ref t, .int (nI 0), .int (nI 3)] G1 (fun (x3 : Int32) (G2 : GH) =>
      ∃ (fs4 : List Value) (r5 : Nat), G2.2 t = some (.inl (11, fs4)) ∧ fs4[0]? = some (.ref r5) ∧
      ∃ (m6 : Nat) (f7 : Nat → Int32), G2.2 r5 = some (.inr (.int, m6, .inl f7)) ∧ vp_in (nI 0) m6 ∧
      CI M_TM_number [.ref t, .int (nI 0), .int ((f7 (nI 0).toNatClampNeg) - (nI 1))] G2 (fun (x9 : Int32) (G8 : GH) =>
        ∃ (fs10 : List Value) (r11 : Nat), G8.2 t = some (.inl (11, fs10)) ∧ fs10[0]? = some (.ref r11) ∧
        ∃ (m12 : Nat) (f13 : Nat → Int32), G8.2 r11 = some (.inr (.int, m12, .inl f13)) ∧ vp_in (nI 1) m12 ∧
        CI M_TM_here [.ref t, .int (nI 0), .int ((f13 (nI 1).toNatClampNeg) - (nI 1))] G8 (fun (x15 : Int32) (G14 : GH) =>
          ∃ (fs16 : List Value) (x17 : Int32), G14.2 t = some (.inl (11, fs16)) ∧ fs16[22]? = some (.int x17) ∧
          if x17 = (nI 0) then
            CI M_TM_mayPlace [.ref t, .int s0, .int x3, .int x9, .int x15] G14 (fun (x19 : Int32) (G18 : GH) =>
              if x19 = (nI 0) then
                WP M_TM_placeTold 0 0 85 [some (.ref t), some (.int s0), some (.int x3), some (.int x9), some (.int x15)] [.int (nI 1), .ref t] G18 Q
              else
                WP M_TM_placeTold 0 0 85 [some (.ref t), some (.int s0), some (.int x3), some (.int x9), some (.int x15)] [.int (nI 0), .ref t] G18 Q) gNo
          else
            WP M_TM_placeTold 0 0 85 [some (.ref t), some (.int s0), some (.int x3), some (.int x9), some (.int x15)] [.int (nI 0), .ref t] G14 Q) gNo) gNo) gNo) gNo
set_option maxRecDepth 100000 in
theorem V_TM_placeTold_19_ok {t : Nat} {s0 : Int32} {G : GH} {Q : GQ} (h : V_TM_placeTold_19 t s0 G Q) : WP M_TM_placeTold 0 0 19 [some (.ref t), none, none, none, none] [.int s0] G Q := WP.ofV (T := T_TM_placeTold) (hh := []) rfl rfl [(19, [true, false, false, false, false]), (85, [true, true, true, true, true])] 70 h
def V_TM_placeTold_85 (t : Nat) (a1 : Int32) (a2 : Int32) (a3 : Int32) (a4 : Int32) (s0 : Int32) (s1 : Nat) (G : GH) (Q : GQ) : Prop :=
  CV M_TM_wrong [.ref s1, .int s0, .int (nI 6)] G (fun (G1 : GH) =>
    ∃ (fs2 : List Value) (x3 : Int32), G1.2 t = some (.inl (11, fs2)) ∧ fs2[22]? = some (.int x3) ∧
    if x3 = (nI 0) then
      CI M_TM_places [.ref t, .int a1, .int a2, .int a3, .int a4] G1 (fun (x5 : Int32) (G4 : GH) =>
        t < gRB ∧ ∃ (fs6 : List Value), G4.2 t = some (.inl (11, fs6)) ∧ gFit 0 (.int x5) ∧
        let G7 : GH := gU G4 t (.inl (11, fs6.set 23 (.int x5)));
        Q.2.1 G7) gNo
    else
      Q.2.1 G1) gNo
set_option maxRecDepth 100000 in
theorem V_TM_placeTold_85_ok {t : Nat} {a1 : Int32} {a2 : Int32} {a3 : Int32} {a4 : Int32} {s0 : Int32} {s1 : Nat} {G : GH} {Q : GQ} (h : V_TM_placeTold_85 t a1 a2 a3 a4 s0 s1 G Q) : WP M_TM_placeTold 0 0 85 [some (.ref t), some (.int a1), some (.int a2), some (.int a3), some (.int a4)] [.int s0, .ref s1] G Q := WP.ofV (T := T_TM_placeTold) (hh := []) rfl rfl [(19, [true, false, false, false, false]), (85, [true, true, true, true, true])] 70 h
def V_TM_strapTold_0 (t : Nat) (G : GH) (Q : GQ) : Prop :=
  CV M_TM_go [.ref t] G (fun (G1 : GH) =>
    ∃ (fs2 : List Value) (r3 : Nat), G1.2 t = some (.inl (11, fs2)) ∧ fs2[0]? = some (.ref r3) ∧
    ∃ (m4 : Nat) (f5 : Nat → Int32), G1.2 r3 = some (.inr (.int, m4, .inl f5)) ∧ vp_in (nI 0) m4 ∧
    CI M_TM_number [.ref t, .int (nI 0), .int ((f5 (nI 0).toNatClampNeg) - (nI 1))] G1 (fun (x7 : Int32) (G6 : GH) =>
      ∃ (fs8 : List Value) (r9 : Nat), G6.2 t = some (.inl (11, fs8)) ∧ fs8[0]? = some (.ref r9) ∧
      ∃ (m10 : Nat) (f11 : Nat → Int32), G6.2 r9 = some (.inr (.int, m10, .inl f11)) ∧ vp_in (nI 1) m10 ∧
      CI M_TM_number [.ref t, .int (nI 0), .int ((f11 (nI 1).toNatClampNeg) - (nI 1))] G6 (fun (x13 : Int32) (G12 : GH) =>
        ∃ (fs14 : List Value) (x15 : Int32), G12.2 t = some (.inl (11, fs14)) ∧ fs14[22]? = some (.int x15) ∧
        if x15 = (nI 0) then
          CI M_TM_sideHere [.ref t] G12 (fun (x17 : Int32) (G16 : GH) =>
            WP M_TM_strapTold 0 0 47 [some (.ref t), some (.int x7), some (.int x13), none] [.int x17] G16 Q) gNo
        else
          WP M_TM_strapTold 0 0 47 [some (.ref t), some (.int x7), some (.int x13), none] [.int (nI 0)] G12 Q) gNo) gNo) gNo
set_option maxRecDepth 100000 in
theorem V_TM_strapTold_0_ok {t : Nat} {G : GH} {Q : GQ} (h : V_TM_strapTold_0 t G Q) : WP M_TM_strapTold 0 0 0 [some (.ref t), none, none, none] [] G Q := WP.ofV (T := T_TM_strapTold) (hh := []) rfl rfl [(47, [true, true, true, false]), (71, [true, true, true, true]), (98, [true, true, true, true])] 76 h
theorem E_TM_strapTold {t : Nat} {G : GH} {K : GH → Prop} {KX : String → GH → Prop} (h : V_TM_strapTold_0 t G (gQv K KX)) : CV M_TM_strapTold [.ref t] G K KX := CV.of rfl rfl rfl (V_TM_strapTold_0_ok h)
def V_TM_strapTold_47 (t : Nat) (a1 : Int32) (a2 : Int32) (s0 : Int32) (G : GH) (Q : GQ) : Prop :=
  ∃ (fs1 : List Value) (x2 : Int32), G.2 t = some (.inl (11, fs1)) ∧ fs1[22]? = some (.int x2) ∧
  if x2 = (nI 0) then
    CI M_TM_isEdge [.ref t, .int a1, .int a2, .int s0] G (fun (x4 : Int32) (G3 : GH) =>
      if x4 = (nI 0) then
        WP M_TM_strapTold 0 0 71 [some (.ref t), some (.int a1), some (.int a2), some (.int s0)] [.int (nI 1), .ref t] G3 Q
      else
        WP M_TM_strapTold 0 0 71 [some (.ref t), some (.int a1), some (.int a2), some (.int s0)] [.int (nI 0), .ref t] G3 Q) gNo
  else
    WP M_TM_strapTold 0 0 71 [some (.ref t), some (.int a1), some (.int a2), some (.int s0)] [.int (nI 0), .ref t] G Q
set_option maxRecDepth 100000 in
theorem V_TM_strapTold_47_ok {t : Nat} {a1 : Int32} {a2 : Int32} {s0 : Int32} {G : GH} {Q : GQ} (h : V_TM_strapTold_47 t a1 a2 s0 G Q) : WP M_TM_strapTold 0 0 47 [some (.ref t), some (.int a1), some (.int a2), none] [.int s0] G Q := WP.ofV (T := T_TM_strapTold) (hh := []) rfl rfl [(47, [true, true, true, false]), (71, [true, true, true, true]), (98, [true, true, true, true])] 76 h
def V_TM_strapTold_71 (t : Nat) (a1 : Int32) (a2 : Int32) (a3 : Int32) (s0 : Int32) (s1 : Nat) (G : GH) (Q : GQ) : Prop :=
  CV M_TM_wrong [.ref s1, .int s0, .int (nI 3)] G (fun (G1 : GH) =>
    ∃ (fs2 : List Value) (x3 : Int32), G1.2 t = some (.inl (11, fs2)) ∧ fs2[22]? = some (.int x3) ∧
    if x3 = (nI 0) then
      CI M_TM_mayFasten [.ref t, .int a1, .int a2, .int a3] G1 (fun (x5 : Int32) (G4 : GH) =>
        if x5 = (nI 0) then
          WP M_TM_strapTold 0 0 98 [some (.ref t), some (.int a1), some (.int a2), some (.int a3)] [.int (nI 1), .ref t] G4 Q
        else
          WP M_TM_strapTold 0 0 98 [some (.ref t), some (.int a1), some (.int a2), some (.int a3)] [.int (nI 0), .ref t] G4 Q) gNo
    else
      WP M_TM_strapTold 0 0 98 [some (.ref t), some (.int a1), some (.int a2), some (.int a3)] [.int (nI 0), .ref t] G1 Q) gNo
set_option maxRecDepth 100000 in
theorem V_TM_strapTold_71_ok {t : Nat} {a1 : Int32} {a2 : Int32} {a3 : Int32} {s0 : Int32} {s1 : Nat} {G : GH} {Q : GQ} (h : V_TM_strapTold_71 t a1 a2 a3 s0 s1 G Q) : WP M_TM_strapTold 0 0 71 [some (.ref t), some (.int a1), some (.int a2), some (.int a3)] [.int s0, .ref s1] G Q := WP.ofV (T := T_TM_strapTold) (hh := []) rfl rfl [(47, [true, true, true, false]), (71, [true, true, true, true]), (98, [true, true, true, true])] 76 h
def V_TM_strapTold_98 (t : Nat) (a1 : Int32) (a2 : Int32) (a3 : Int32) (s0 : Int32) (s1 : Nat) (G : GH) (Q : GQ) : Prop :=
  CV M_TM_wrong [.ref s1, .int s0, .int (nI 6)] G (fun (G1 : GH) =>
    ∃ (fs2 : List Value) (x3 : Int32), G1.2 t = some (.inl (11, fs2)) ∧ fs2[22]? = some (.int x3) ∧
    if x3 = (nI 0) then
      CI M_TM_fastens [.ref t, .int a1, .int a2, .int a3] G1 (fun (x5 : Int32) (G4 : GH) =>
        t < gRB ∧ ∃ (fs6 : List Value), G4.2 t = some (.inl (11, fs6)) ∧ gFit 0 (.int x5) ∧
        let G7 : GH := gU G4 t (.inl (11, fs6.set 23 (.int x5)));
        Q.2.1 G7) gNo
    else
      Q.2.1 G1) gNo
set_option maxRecDepth 100000 in
theorem V_TM_strapTold_98_ok {t : Nat} {a1 : Int32} {a2 : Int32} {a3 : Int32} {s0 : Int32} {s1 : Nat} {G : GH} {Q : GQ} (h : V_TM_strapTold_98 t a1 a2 a3 s0 s1 G Q) : WP M_TM_strapTold 0 0 98 [some (.ref t), some (.int a1), some (.int a2), some (.int a3)] [.int s0, .ref s1] G Q := WP.ofV (T := T_TM_strapTold) (hh := []) rfl rfl [(47, [true, true, true, false]), (71, [true, true, true, true]), (98, [true, true, true, true])] 76 h
def V_TM_command_0 (t : Nat) (G : GH) (Q : GQ) : Prop :=
  CI M_TM_is [.ref t, .ref 100023] G (fun (x2 : Int32) (G1 : GH) =>
    if x2 = (nI 0) then
      CI M_TM_is [.ref t, .ref 100019] G1 (fun (x4 : Int32) (G3 : GH) =>
        if x4 = (nI 0) then
          CI M_TM_is [.ref t, .ref 100029] G3 (fun (x6 : Int32) (G5 : GH) =>
            if x6 = (nI 0) then
              WP M_TM_command 0 0 50 [some (.ref t)] [.int (nI 1), .ref t] G5 Q
            else
              WP M_TM_command 0 0 50 [some (.ref t)] [.int (nI 0), .ref t] G5 Q) gNo
        else
          CV M_TM_strapTold [.ref t] G3 (fun (G7 : GH) =>
            WP M_TM_command 0 0 94 [some (.ref t)] [] G7 Q) gNo) gNo
    else
      CV M_TM_placeTold [.ref t] G1 (fun (G8 : GH) =>
        WP M_TM_command 0 0 94 [some (.ref t)] [] G8 Q) gNo) gNo
set_option maxRecDepth 100000 in
theorem V_TM_command_0_ok {t : Nat} {G : GH} {Q : GQ} (h : V_TM_command_0 t G Q) : WP M_TM_command 0 0 0 [some (.ref t)] [] G Q := WP.ofV (T := T_TM_command) (hh := []) rfl rfl [(50, [true]), (74, [true]), (94, [true])] 53 h
theorem E_TM_command {t : Nat} {G : GH} {K : GH → Prop} {KX : String → GH → Prop} (h : V_TM_command_0 t G (gQv K KX)) : CV M_TM_command [.ref t] G K KX := CV.of rfl rfl rfl (V_TM_command_0_ok h)
def V_TM_command_50 (t : Nat) (s0 : Int32) (s1 : Nat) (G : GH) (Q : GQ) : Prop :=
  CV M_TM_wrong [.ref s1, .int s0, .int (nI 1)] G (fun (G1 : GH) =>
    ∃ (fs2 : List Value) (x3 : Int32), G1.2 t = some (.inl (11, fs2)) ∧ fs2[22]? = some (.int x3) ∧
    if x3 = (nI 0) then
      CI M_TM_mayPass [.ref t] G1 (fun (x5 : Int32) (G4 : GH) =>
        if x5 = (nI 0) then
          WP M_TM_command 0 0 74 [some (.ref t)] [.int (nI 1), .ref t] G4 Q
        else
          WP M_TM_command 0 0 74 [some (.ref t)] [.int (nI 0), .ref t] G4 Q) gNo
    else
      WP M_TM_command 0 0 74 [some (.ref t)] [.int (nI 0), .ref t] G1 Q) gNo
set_option maxRecDepth 100000 in
theorem V_TM_command_50_ok {t : Nat} {s0 : Int32} {s1 : Nat} {G : GH} {Q : GQ} (h : V_TM_command_50 t s0 s1 G Q) : WP M_TM_command 0 0 50 [some (.ref t)] [.int s0, .ref s1] G Q := WP.ofV (T := T_TM_command) (hh := []) rfl rfl [(50, [true]), (74, [true]), (94, [true])] 53 h
def V_TM_command_74 (t : Nat) (s0 : Int32) (s1 : Nat) (G : GH) (Q : GQ) : Prop :=
  CV M_TM_wrong [.ref s1, .int s0, .int (nI 6)] G (fun (G1 : GH) =>
    ∃ (fs2 : List Value) (x3 : Int32), G1.2 t = some (.inl (11, fs2)) ∧ fs2[22]? = some (.int x3) ∧
    if x3 = (nI 0) then
      CI M_TM_passes [.ref t] G1 (fun (x5 : Int32) (G4 : GH) =>
        t < gRB ∧ ∃ (fs6 : List Value), G4.2 t = some (.inl (11, fs6)) ∧ gFit 0 (.int x5) ∧
        let G7 : GH := gU G4 t (.inl (11, fs6.set 23 (.int x5)));
        WP M_TM_command 0 0 94 [some (.ref t)] [] G7 Q) gNo
    else
      WP M_TM_command 0 0 94 [some (.ref t)] [] G1 Q) gNo
set_option maxRecDepth 100000 in
theorem V_TM_command_74_ok {t : Nat} {s0 : Int32} {s1 : Nat} {G : GH} {Q : GQ} (h : V_TM_command_74 t s0 s1 G Q) : WP M_TM_command 0 0 74 [some (.ref t)] [.int s0, .ref s1] G Q := WP.ofV (T := T_TM_command) (hh := []) rfl rfl [(50, [true]), (74, [true]), (94, [true])] 53 h
def V_TM_command_94 (t : Nat) (G : GH) (Q : GQ) : Prop :=
  CV M_TM_go [.ref t] G (fun (G1 : GH) =>
    CV M_TM_semicolon [.ref t] G1 (fun (G2 : GH) =>
      Q.2.1 G2) gNo) gNo
set_option maxRecDepth 100000 in
theorem V_TM_command_94_ok {t : Nat} {G : GH} {Q : GQ} (h : V_TM_command_94 t G Q) : WP M_TM_command 0 0 94 [some (.ref t)] [] G Q := WP.ofV (T := T_TM_command) (hh := []) rfl rfl [(50, [true]), (74, [true]), (94, [true])] 53 h
def V_TM_starts_0 (t : Nat) (G : GH) (Q : GQ) : Prop :=
  t < gRB ∧ ∃ (fs1 : List Value), G.2 t = some (.inl (11, fs1)) ∧ gFit 0 (.int (nI 0)) ∧
  let G2 : GH := gU G t (.inl (11, fs1.set 7 (.int (nI 0))));
  t < gRB ∧ ∃ (fs3 : List Value), G2.2 t = some (.inl (11, fs3)) ∧ gFit 0 (.int (nI 0)) ∧
  let G4 : GH := gU G2 t (.inl (11, fs3.set 20 (.int (nI 0))));
  t < gRB ∧ ∃ (fs5 : List Value), G4.2 t = some (.inl (11, fs5)) ∧ gFit 2 (.int (nI 0)) ∧
  let G6 : GH := gU G4 t (.inl (11, fs5.set 22 (.int (nI 0))));
  t < gRB ∧ ∃ (fs7 : List Value), G6.2 t = some (.inl (11, fs7)) ∧ gFit 0 (.int (nI 0)) ∧
  let G8 : GH := gU G6 t (.inl (11, fs7.set 15 (.int (nI 0))));
  t < gRB ∧ ∃ (fs9 : List Value), G8.2 t = some (.inl (11, fs9)) ∧ gFit 0 (.int (-nI 1)) ∧
  let G10 : GH := gU G8 t (.inl (11, fs9.set 16 (.int (-nI 1))));
  WP M_TM_starts 0 0 25 [some (.ref t)] [] G10 Q
set_option maxRecDepth 100000 in
theorem V_TM_starts_0_ok {t : Nat} {G : GH} {Q : GQ} (h : V_TM_starts_0 t G Q) : WP M_TM_starts 0 0 0 [some (.ref t)] [] G Q := WP.ofV (T := T_TM_starts) (hh := []) rfl rfl [(25, [true])] 30 h
theorem E_TM_starts {t : Nat} {G : GH} {K : GH → Prop} {KX : String → GH → Prop} (h : V_TM_starts_0 t G (gQv K KX)) : CV M_TM_starts [.ref t] G K KX := CV.of rfl rfl rfl (V_TM_starts_0_ok h)
def V_TM_starts_25 (t : Nat) (G : GH) (Q : GQ) : Prop :=
  ∃ (fs1 : List Value) (r2 : Nat), G.2 t = some (.inl (11, fs1)) ∧ fs1[0]? = some (.ref r2) ∧
  ∃ (fs3 : List Value) (r4 : Nat), G.2 t = some (.inl (11, fs3)) ∧ fs3[4]? = some (.ref r4) ∧
  CV M_TM_copy [.ref r2, .int (nI 0), .ref r4, .int (nI 0)] G (fun (G5 : GH) =>
    CV M_TM_next [.ref t] G5 (fun (G6 : GH) =>
      Q.2.1 G6) gNo) gNo
set_option maxRecDepth 100000 in
theorem V_TM_starts_25_ok {t : Nat} {G : GH} {Q : GQ} (h : V_TM_starts_25 t G Q) : WP M_TM_starts 0 0 25 [some (.ref t)] [] G Q := WP.ofV (T := T_TM_starts) (hh := []) rfl rfl [(25, [true])] 30 h
def V_TM_commands_0 (t : Nat) (G : GH) (Q : GQ) : Prop :=
  WP M_TM_commands 0 0 2 [some (.ref t), some (.int (nI 0))] [] G Q
set_option maxRecDepth 100000 in
theorem V_TM_commands_0_ok {t : Nat} {G : GH} {Q : GQ} (h : V_TM_commands_0 t G Q) : WP M_TM_commands 0 0 0 [some (.ref t), none] [] G Q := WP.ofV (T := T_TM_commands) (hh := []) rfl rfl [(2, [true, true]), (26, [true, true]), (62, [true, true])] 42 h
theorem E_TM_commands {t : Nat} {G : GH} {K : Int32 → GH → Prop} {KX : String → GH → Prop} (h : V_TM_commands_0 t G (gQi K KX)) : CI M_TM_commands [.ref t] G K KX := CI.of rfl rfl rfl (V_TM_commands_0_ok h)
def V_TM_commands_2 (t : Nat) (a1 : Int32) (G : GH) (Q : GQ) : Prop :=
  ∃ (fs1 : List Value) (x2 : Int32), G.2 t = some (.inl (11, fs1)) ∧ fs1[22]? = some (.int x2) ∧
  if x2 = (nI 0) then
    ∃ (fs3 : List Value) (x4 : Int32), G.2 t = some (.inl (11, fs3)) ∧ fs3[18]? = some (.int x4) ∧
    if x4 = (nI 0) then
      WP M_TM_commands 0 0 26 [some (.ref t), some (.int a1)] [] G Q
    else
      CV M_TM_command [.ref t] G (fun (G5 : GH) =>
        WP M_TM_commands 0 0 2 [some (.ref t), some (.int (a1 + nI 1))] [] G5 Q) gNo
  else
    WP M_TM_commands 0 0 26 [some (.ref t), some (.int a1)] [] G Q
set_option maxRecDepth 100000 in
theorem V_TM_commands_2_ok {t : Nat} {a1 : Int32} {G : GH} {Q : GQ} (h : V_TM_commands_2 t a1 G Q) : WP M_TM_commands 0 0 2 [some (.ref t), some (.int a1)] [] G Q := WP.ofV (T := T_TM_commands) (hh := []) rfl rfl [(2, [true, true]), (26, [true, true]), (62, [true, true])] 42 h
def V_TM_commands_26 (t : Nat) (a1 : Int32) (G : GH) (Q : GQ) : Prop :=
  t < gRB ∧ ∃ (fs1 : List Value), G.2 t = some (.inl (11, fs1)) ∧ gFit 0 (.int (nI 0)) ∧
  let G2 : GH := gU G t (.inl (11, fs1.set 13 (.int (nI 0))));
  ∃ (fs3 : List Value) (x4 : Int32), G2.2 t = some (.inl (11, fs3)) ∧ fs3[22]? = some (.int x4) ∧
  if x4 = (nI 0) then
    ∃ (fs5 : List Value) (r6 : Nat), G2.2 t = some (.inl (11, fs5)) ∧ fs5[4]? = some (.ref r6) ∧
    CV M_TM_remember [.ref t, .ref r6] G2 (fun (G7 : GH) =>
      WP M_TM_commands 0 0 62 [some (.ref t), some (.int a1)] [] G7 Q) gNo
  else
    ∃ (fs8 : List Value) (r9 : Nat), G2.2 t = some (.inl (11, fs8)) ∧ fs8[4]? = some (.ref r9) ∧
    ∃ (fs10 : List Value) (r11 : Nat), G2.2 t = some (.inl (11, fs10)) ∧ fs10[0]? = some (.ref r11) ∧
    CV M_TM_copy [.ref r9, .int (nI 0), .ref r11, .int (nI 0)] G2 (fun (G12 : GH) =>
      WP M_TM_commands 0 0 62 [some (.ref t), some (.int a1)] [] G12 Q) gNo
set_option maxRecDepth 100000 in
theorem V_TM_commands_26_ok {t : Nat} {a1 : Int32} {G : GH} {Q : GQ} (h : V_TM_commands_26 t a1 G Q) : WP M_TM_commands 0 0 26 [some (.ref t), some (.int a1)] [] G Q := WP.ofV (T := T_TM_commands) (hh := []) rfl rfl [(2, [true, true]), (26, [true, true]), (62, [true, true])] 42 h
def V_TM_commands_62 (t : Nat) (a1 : Int32) (G : GH) (Q : GQ) : Prop :=
  ∃ (fs1 : List Value) (x2 : Int32), G.2 t = some (.inl (11, fs1)) ∧ fs1[22]? = some (.int x2) ∧
  if x2 = (nI 0) then
    Q.1 a1 G
  else
    Q.1 (-nI 1) G
set_option maxRecDepth 100000 in
theorem V_TM_commands_62_ok {t : Nat} {a1 : Int32} {G : GH} {Q : GQ} (h : V_TM_commands_62 t a1 G Q) : WP M_TM_commands 0 0 62 [some (.ref t), some (.int a1)] [] G Q := WP.ofV (T := T_TM_commands) (hh := []) rfl rfl [(2, [true, true]), (26, [true, true]), (62, [true, true])] 42 h
def V_TM_load_0 (t : Nat) (G : GH) (Q : GQ) : Prop :=
  CV M_TM_starts [.ref t] G (fun (G1 : GH) =>
    WP M_TM_load 0 0 6 [some (.ref t), some (.int (nI 0))] [] G1 Q) gNo
set_option maxRecDepth 100000 in
theorem V_TM_load_0_ok {t : Nat} {G : GH} {Q : GQ} (h : V_TM_load_0 t G Q) : WP M_TM_load 0 0 0 [some (.ref t), none] [] G Q := WP.ofV (T := T_TM_load) (hh := []) rfl rfl [(6, [true, true]), (42, [true, true]), (80, [true, true]), (104, [true, true]), (130, [true, true]), (153, [true, true])] 91 h
theorem E_TM_load {t : Nat} {G : GH} {K : Int32 → GH → Prop} {KX : String → GH → Prop} (h : V_TM_load_0 t G (gQi K KX)) : CI M_TM_load [.ref t] G K KX := CI.of rfl rfl rfl (V_TM_load_0_ok h)
def V_TM_load_6 (t : Nat) (a1 : Int32) (G : GH) (Q : GQ) : Prop :=
  if a1 < (nI 417) then
    ∃ (fs1 : List Value) (r2 : Nat), G.2 t = some (.inl (11, fs1)) ∧ fs1[0]? = some (.ref r2) ∧
    r2 < gRB ∧ ∃ (m3 : Nat) (f4 : Nat → Int32), G.2 r2 = some (.inr (.int, m3, .inl f4)) ∧ vp_in a1 m3 ∧
    let G5 : GH := gU G r2 (.inr (.int, m3, .inl (upd f4 (a1).toNatClampNeg (nI 0))));
    WP M_TM_load 0 0 6 [some (.ref t), some (.int (a1 + nI 1))] [] G5 Q
  else
    CI M_TM_is [.ref t, .ref 100017] G (fun (x7 : Int32) (G6 : GH) =>
      if x7 = (nI 0) then
        WP M_TM_load 0 0 42 [some (.ref t), some (.int a1)] [.int (nI 1), .ref t] G6 Q
      else
        WP M_TM_load 0 0 42 [some (.ref t), some (.int a1)] [.int (nI 0), .ref t] G6 Q) gNo
set_option maxRecDepth 100000 in
theorem V_TM_load_6_ok {t : Nat} {a1 : Int32} {G : GH} {Q : GQ} (h : V_TM_load_6 t a1 G Q) : WP M_TM_load 0 0 6 [some (.ref t), some (.int a1)] [] G Q := WP.ofV (T := T_TM_load) (hh := []) rfl rfl [(6, [true, true]), (42, [true, true]), (80, [true, true]), (104, [true, true]), (130, [true, true]), (153, [true, true])] 91 h
def V_TM_load_42 (t : Nat) (a1 : Int32) (s0 : Int32) (s1 : Nat) (G : GH) (Q : GQ) : Prop :=
  CV M_TM_wrong [.ref s1, .int s0, .int (nI 1)] G (fun (G1 : GH) =>
    CV M_TM_go [.ref t] G1 (fun (G2 : GH) =>
      ∃ (fs3 : List Value) (r4 : Nat), G2.2 t = some (.inl (11, fs3)) ∧ fs3[0]? = some (.ref r4) ∧
      CI M_TM_number [.ref t, .int (nI 3), .int (nI 8)] G2 (fun (x6 : Int32) (G5 : GH) =>
        r4 < gRB ∧ ∃ (m7 : Nat) (f8 : Nat → Int32), G5.2 r4 = some (.inr (.int, m7, .inl f8)) ∧ vp_in (nI 0) m7 ∧
        let G9 : GH := gU G5 r4 (.inr (.int, m7, .inl (upd f8 (nI 0).toNatClampNeg x6)));
        ∃ (fs10 : List Value) (r11 : Nat), G9.2 t = some (.inl (11, fs10)) ∧ fs10[0]? = some (.ref r11) ∧
        CI M_TM_number [.ref t, .int (nI 3), .int (nI 8)] G9 (fun (x13 : Int32) (G12 : GH) =>
          r11 < gRB ∧ ∃ (m14 : Nat) (f15 : Nat → Int32), G12.2 r11 = some (.inr (.int, m14, .inl f15)) ∧ vp_in (nI 1) m14 ∧
          let G16 : GH := gU G12 r11 (.inr (.int, m14, .inl (upd f15 (nI 1).toNatClampNeg x13)));
          CV M_TM_semicolon [.ref t] G16 (fun (G17 : GH) =>
            WP M_TM_load 0 0 80 [some (.ref t), some (.int a1)] [] G17 Q) gNo) gNo) gNo) gNo) gNo
set_option maxRecDepth 100000 in
theorem V_TM_load_42_ok {t : Nat} {a1 : Int32} {s0 : Int32} {s1 : Nat} {G : GH} {Q : GQ} (h : V_TM_load_42 t a1 s0 s1 G Q) : WP M_TM_load 0 0 42 [some (.ref t), some (.int a1)] [.int s0, .ref s1] G Q := WP.ofV (T := T_TM_load) (hh := []) rfl rfl [(6, [true, true]), (42, [true, true]), (80, [true, true]), (104, [true, true]), (130, [true, true]), (153, [true, true])] 91 h
def V_TM_load_80 (t : Nat) (a1 : Int32) (G : GH) (Q : GQ) : Prop :=
  ∃ (fs1 : List Value) (x2 : Int32), G.2 t = some (.inl (11, fs1)) ∧ fs1[22]? = some (.int x2) ∧
  if x2 = (nI 0) then
    CI M_TM_is [.ref t, .ref 100018] G (fun (x4 : Int32) (G3 : GH) =>
      if x4 = (nI 0) then
        WP M_TM_load 0 0 104 [some (.ref t), some (.int a1)] [] G3 Q
      else
        CV M_TM_blockTold [.ref t] G3 (fun (G5 : GH) =>
          WP M_TM_load 0 0 80 [some (.ref t), some (.int a1)] [] G5 Q) gNo) gNo
  else
    WP M_TM_load 0 0 104 [some (.ref t), some (.int a1)] [] G Q
set_option maxRecDepth 100000 in
theorem V_TM_load_80_ok {t : Nat} {a1 : Int32} {G : GH} {Q : GQ} (h : V_TM_load_80 t a1 G Q) : WP M_TM_load 0 0 80 [some (.ref t), some (.int a1)] [] G Q := WP.ofV (T := T_TM_load) (hh := []) rfl rfl [(6, [true, true]), (42, [true, true]), (80, [true, true]), (104, [true, true]), (130, [true, true]), (153, [true, true])] 91 h
def V_TM_load_104 (t : Nat) (a1 : Int32) (G : GH) (Q : GQ) : Prop :=
  ∃ (fs1 : List Value) (x2 : Int32), G.2 t = some (.inl (11, fs1)) ∧ fs1[22]? = some (.int x2) ∧
  if x2 = (nI 0) then
    CI M_TM_is [.ref t, .ref 100019] G (fun (x4 : Int32) (G3 : GH) =>
      if x4 = (nI 0) then
        WP M_TM_load 0 0 130 [some (.ref t), some (.int (nI 0))] [] G3 Q
      else
        CV M_TM_edgeTold [.ref t] G3 (fun (G5 : GH) =>
          WP M_TM_load 0 0 104 [some (.ref t), some (.int a1)] [] G5 Q) gNo) gNo
  else
    WP M_TM_load 0 0 130 [some (.ref t), some (.int (nI 0))] [] G Q
set_option maxRecDepth 100000 in
theorem V_TM_load_104_ok {t : Nat} {a1 : Int32} {G : GH} {Q : GQ} (h : V_TM_load_104 t a1 G Q) : WP M_TM_load 0 0 104 [some (.ref t), some (.int a1)] [] G Q := WP.ofV (T := T_TM_load) (hh := []) rfl rfl [(6, [true, true]), (42, [true, true]), (80, [true, true]), (104, [true, true]), (130, [true, true]), (153, [true, true])] 91 h
def V_TM_load_130 (t : Nat) (a1 : Int32) (G : GH) (Q : GQ) : Prop :=
  if a1 < (nI 2) then
    ∃ (fs1 : List Value) (x2 : Int32), G.2 t = some (.inl (11, fs1)) ∧ fs1[22]? = some (.int x2) ∧
    if x2 = (nI 0) then
      CV M_TM_playerTold [.ref t, .int a1] G (fun (G3 : GH) =>
        WP M_TM_load 0 0 130 [some (.ref t), some (.int (a1 + nI 1))] [] G3 Q) gNo
    else
      WP M_TM_load 0 0 153 [some (.ref t), some (.int a1)] [] G Q
  else
    WP M_TM_load 0 0 153 [some (.ref t), some (.int a1)] [] G Q
set_option maxRecDepth 100000 in
theorem V_TM_load_130_ok {t : Nat} {a1 : Int32} {G : GH} {Q : GQ} (h : V_TM_load_130 t a1 G Q) : WP M_TM_load 0 0 130 [some (.ref t), some (.int a1)] [] G Q := WP.ofV (T := T_TM_load) (hh := []) rfl rfl [(6, [true, true]), (42, [true, true]), (80, [true, true]), (104, [true, true]), (130, [true, true]), (153, [true, true])] 91 h
def V_TM_load_153 (t : Nat) (a1 : Int32) (G : GH) (Q : GQ) : Prop :=
  CI M_TM_commands [.ref t] G (fun (x2 : Int32) (G1 : GH) =>
    if x2 = (-nI 1) then
      Q.1 (-nI 1) G1
    else
      CI M_TM_allEmpty [.ref t] G1 (fun (x4 : Int32) (G3 : GH) =>
        Q.1 x4 G3) gNo) gNo
set_option maxRecDepth 100000 in
theorem V_TM_load_153_ok {t : Nat} {a1 : Int32} {G : GH} {Q : GQ} (h : V_TM_load_153 t a1 G Q) : WP M_TM_load 0 0 153 [some (.ref t), some (.int a1)] [] G Q := WP.ofV (T := T_TM_load) (hh := []) rfl rfl [(6, [true, true]), (42, [true, true]), (80, [true, true]), (104, [true, true]), (130, [true, true]), (153, [true, true])] 91 h
def V_TM_play_0 (t : Nat) (G : GH) (Q : GQ) : Prop :=
  CV M_TM_starts [.ref t] G (fun (G1 : GH) =>
    CI M_TM_commands [.ref t] G1 (fun (x3 : Int32) (G2 : GH) =>
      Q.1 x3 G2) gNo) gNo
set_option maxRecDepth 100000 in
theorem V_TM_play_0_ok {t : Nat} {G : GH} {Q : GQ} (h : V_TM_play_0 t G Q) : WP M_TM_play 0 0 0 [some (.ref t)] [] G Q := WP.ofV (T := T_TM_play) (hh := []) rfl rfl [] 10 h
theorem E_TM_play {t : Nat} {G : GH} {K : Int32 → GH → Prop} {KX : String → GH → Prop} (h : V_TM_play_0 t G (gQi K KX)) : CI M_TM_play [.ref t] G K KX := CI.of rfl rfl rfl (V_TM_play_0_ok h)
def V_TM_errorCode_0 (t : Nat) (G : GH) (Q : GQ) : Prop :=
  ∃ (fs1 : List Value) (x2 : Int32), G.2 t = some (.inl (11, fs1)) ∧ fs1[15]? = some (.int x2) ∧
  CI M_TM_told [.ref t, .int x2] G (fun (x4 : Int32) (G3 : GH) =>
    Q.1 x4 G3) gNo
set_option maxRecDepth 100000 in
theorem V_TM_errorCode_0_ok {t : Nat} {G : GH} {Q : GQ} (h : V_TM_errorCode_0 t G Q) : WP M_TM_errorCode 0 0 0 [some (.ref t)] [] G Q := WP.ofV (T := T_TM_errorCode) (hh := []) rfl rfl [] 10 h
theorem E_TM_errorCode {t : Nat} {G : GH} {K : Int32 → GH → Prop} {KX : String → GH → Prop} (h : V_TM_errorCode_0 t G (gQi K KX)) : CI M_TM_errorCode [.ref t] G K KX := CI.of rfl rfl rfl (V_TM_errorCode_0_ok h)
def V_TM_errorOffset_0 (t : Nat) (G : GH) (Q : GQ) : Prop :=
  ∃ (fs1 : List Value) (x2 : Int32), G.2 t = some (.inl (11, fs1)) ∧ fs1[16]? = some (.int x2) ∧
  CI M_TM_told [.ref t, .int x2] G (fun (x4 : Int32) (G3 : GH) =>
    Q.1 x4 G3) gNo
set_option maxRecDepth 100000 in
theorem V_TM_errorOffset_0_ok {t : Nat} {G : GH} {Q : GQ} (h : V_TM_errorOffset_0 t G Q) : WP M_TM_errorOffset 0 0 0 [some (.ref t)] [] G Q := WP.ofV (T := T_TM_errorOffset) (hh := []) rfl rfl [] 10 h
theorem E_TM_errorOffset {t : Nat} {G : GH} {K : Int32 → GH → Prop} {KX : String → GH → Prop} (h : V_TM_errorOffset_0 t G (gQi K KX)) : CI M_TM_errorOffset [.ref t] G K KX := CI.of rfl rfl rfl (V_TM_errorOffset_0_ok h)
def V_TM_noShape_0 (a0 : Int32) (G : GH) (Q : GQ) : Prop :=
  CI M_TM_isIn [.int a0, .int (nI 0), .int (nI 4)] G (fun (x2 : Int32) (G1 : GH) =>
    if x2 = (nI 0) then
      ((nI 1) = nI 0 ∨ (nI 1) = nI 1) ∧ Q.1 (nI 1) G1
    else
      ((nI 0) = nI 0 ∨ (nI 0) = nI 1) ∧ Q.1 (nI 0) G1) gNo
set_option maxRecDepth 100000 in
theorem V_TM_noShape_0_ok {a0 : Int32} {G : GH} {Q : GQ} (h : V_TM_noShape_0 a0 G Q) : WP M_TM_noShape 0 0 0 [some (.int a0)] [] G Q := WP.ofV (T := T_TM_noShape) (hh := []) rfl rfl [] 14 h
theorem E_TM_noShape {a0 : Int32} {G : GH} {K : Int32 → GH → Prop} {KX : String → GH → Prop} (h : V_TM_noShape_0 a0 G (gQi K KX)) : CI M_TM_noShape [.int a0] G K KX := CI.of rfl rfl rfl (V_TM_noShape_0_ok h)
def V_TM_noTurn_0 (a0 : Int32) (G : GH) (Q : GQ) : Prop :=
  CI M_TM_isIn [.int a0, .int (nI 0), .int (nI 3)] G (fun (x2 : Int32) (G1 : GH) =>
    if x2 = (nI 0) then
      ((nI 1) = nI 0 ∨ (nI 1) = nI 1) ∧ Q.1 (nI 1) G1
    else
      ((nI 0) = nI 0 ∨ (nI 0) = nI 1) ∧ Q.1 (nI 0) G1) gNo
set_option maxRecDepth 100000 in
theorem V_TM_noTurn_0_ok {a0 : Int32} {G : GH} {Q : GQ} (h : V_TM_noTurn_0 a0 G Q) : WP M_TM_noTurn 0 0 0 [some (.int a0)] [] G Q := WP.ofV (T := T_TM_noTurn) (hh := []) rfl rfl [] 14 h
theorem E_TM_noTurn {a0 : Int32} {G : GH} {K : Int32 → GH → Prop} {KX : String → GH → Prop} (h : V_TM_noTurn_0 a0 G (gQi K KX)) : CI M_TM_noTurn [.int a0] G K KX := CI.of rfl rfl rfl (V_TM_noTurn_0_ok h)
def V_TM_noSide_0 (a0 : Int32) (G : GH) (Q : GQ) : Prop :=
  CI M_TM_isIn [.int a0, .int (nI 0), .int (nI 1)] G (fun (x2 : Int32) (G1 : GH) =>
    if x2 = (nI 0) then
      ((nI 1) = nI 0 ∨ (nI 1) = nI 1) ∧ Q.1 (nI 1) G1
    else
      ((nI 0) = nI 0 ∨ (nI 0) = nI 1) ∧ Q.1 (nI 0) G1) gNo
set_option maxRecDepth 100000 in
theorem V_TM_noSide_0_ok {a0 : Int32} {G : GH} {Q : GQ} (h : V_TM_noSide_0 a0 G Q) : WP M_TM_noSide 0 0 0 [some (.int a0)] [] G Q := WP.ofV (T := T_TM_noSide) (hh := []) rfl rfl [] 14 h
theorem E_TM_noSide {a0 : Int32} {G : GH} {K : Int32 → GH → Prop} {KX : String → GH → Prop} (h : V_TM_noSide_0 a0 G (gQi K KX)) : CI M_TM_noSide [.int a0] G K KX := CI.of rfl rfl rfl (V_TM_noSide_0_ok h)
def V_TM_noPlayer_0 (a0 : Int32) (G : GH) (Q : GQ) : Prop :=
  CI M_TM_isIn [.int a0, .int (nI 0), .int (nI 1)] G (fun (x2 : Int32) (G1 : GH) =>
    if x2 = (nI 0) then
      ((nI 1) = nI 0 ∨ (nI 1) = nI 1) ∧ Q.1 (nI 1) G1
    else
      ((nI 0) = nI 0 ∨ (nI 0) = nI 1) ∧ Q.1 (nI 0) G1) gNo
set_option maxRecDepth 100000 in
theorem V_TM_noPlayer_0_ok {a0 : Int32} {G : GH} {Q : GQ} (h : V_TM_noPlayer_0 a0 G Q) : WP M_TM_noPlayer 0 0 0 [some (.int a0)] [] G Q := WP.ofV (T := T_TM_noPlayer) (hh := []) rfl rfl [] 14 h
theorem E_TM_noPlayer {a0 : Int32} {G : GH} {K : Int32 → GH → Prop} {KX : String → GH → Prop} (h : V_TM_noPlayer_0 a0 G (gQi K KX)) : CI M_TM_noPlayer [.int a0] G K KX := CI.of rfl rfl rfl (V_TM_noPlayer_0_ok h)
def V_TM_place_0 (t : Nat) (a1 : Int32) (a2 : Int32) (a3 : Int32) (a4 : Int32) (G : GH) (Q : GQ) : Prop :=
  CI M_TM_noShape [.int a1] G (fun (x2 : Int32) (G1 : GH) =>
    if x2 = (nI 0) then
      CI M_TM_noTurn [.int a2] G1 (fun (x4 : Int32) (G3 : GH) =>
        if x4 = (nI 0) then
          WP M_TM_place 0 0 19 [some (.ref t), some (.int a1), some (.int a2), some (.int a3), some (.int a4), none, none] [.int (nI 0)] G3 Q
        else
          WP M_TM_place 0 0 19 [some (.ref t), some (.int a1), some (.int a2), some (.int a3), some (.int a4), none, none] [.int (nI 1)] G3 Q) gNo
    else
      WP M_TM_place 0 0 19 [some (.ref t), some (.int a1), some (.int a2), some (.int a3), some (.int a4), none, none] [.int (nI 1)] G1 Q) gNo
set_option maxRecDepth 100000 in
theorem V_TM_place_0_ok {t : Nat} {a1 : Int32} {a2 : Int32} {a3 : Int32} {a4 : Int32} {G : GH} {Q : GQ} (h : V_TM_place_0 t a1 a2 a3 a4 G Q) : WP M_TM_place 0 0 0 [some (.ref t), some (.int a1), some (.int a2), some (.int a3), some (.int a4), none, none] [] G Q := WP.ofV (T := T_TM_place) (hh := []) rfl rfl [(19, [true, true, true, true, true, false, false]), (36, [true, true, true, true, true, true, false]), (70, [true, true, true, true, true, true, true])] 56 h
theorem E_TM_place {t : Nat} {a1 : Int32} {a2 : Int32} {a3 : Int32} {a4 : Int32} {G : GH} {K : Int32 → GH → Prop} {KX : String → GH → Prop} (h : V_TM_place_0 t a1 a2 a3 a4 G (gQi K KX)) : CI M_TM_place [.ref t, .int a1, .int a2, .int a3, .int a4] G K KX := CI.of rfl rfl rfl (V_TM_place_0_ok h)
def V_TM_place_19 (t : Nat) (a1 : Int32) (a2 : Int32) (a3 : Int32) (a4 : Int32) (s0 : Int32) (G : GH) (Q : GQ) : Prop :=
  CI M_TM_isInside [.ref t, .int a3, .int a4] G (fun (x2 : Int32) (G1 : GH) =>
    if x2 = (nI 0) then
      WP M_TM_place 0 0 36 [some (.ref t), some (.int a1), some (.int a2), some (.int a3), some (.int a4), some (.int s0), none] [.int (nI 1)] G1 Q
    else
      WP M_TM_place 0 0 36 [some (.ref t), some (.int a1), some (.int a2), some (.int a3), some (.int a4), some (.int s0), none] [.int (nI 0)] G1 Q) gNo
set_option maxRecDepth 100000 in
theorem V_TM_place_19_ok {t : Nat} {a1 : Int32} {a2 : Int32} {a3 : Int32} {a4 : Int32} {s0 : Int32} {G : GH} {Q : GQ} (h : V_TM_place_19 t a1 a2 a3 a4 s0 G Q) : WP M_TM_place 0 0 19 [some (.ref t), some (.int a1), some (.int a2), some (.int a3), some (.int a4), none, none] [.int s0] G Q := WP.ofV (T := T_TM_place) (hh := []) rfl rfl [(19, [true, true, true, true, true, false, false]), (36, [true, true, true, true, true, true, false]), (70, [true, true, true, true, true, true, true])] 56 h
def V_TM_place_36 (t : Nat) (a1 : Int32) (a2 : Int32) (a3 : Int32) (a4 : Int32) (a5 : Int32) (s0 : Int32) (G : GH) (Q : GQ) : Prop :=
  if a5 = (nI 0) then
    if s0 = (nI 0) then
      CI M_TM_mayPlace [.ref t, .int a1, .int a2, .int a3, .int a4] G (fun (x2 : Int32) (G1 : GH) =>
        if x2 = (nI 0) then
          WP M_TM_place 0 0 70 [some (.ref t), some (.int a1), some (.int a2), some (.int a3), some (.int a4), some (.int a5), some (.int s0)] [.int (nI 1), .int s0, .int a5, .ref t] G1 Q
        else
          WP M_TM_place 0 0 70 [some (.ref t), some (.int a1), some (.int a2), some (.int a3), some (.int a4), some (.int a5), some (.int s0)] [.int (nI 0), .int s0, .int a5, .ref t] G1 Q) gNo
    else
      WP M_TM_place 0 0 70 [some (.ref t), some (.int a1), some (.int a2), some (.int a3), some (.int a4), some (.int a5), some (.int s0)] [.int (nI 0), .int s0, .int a5, .ref t] G Q
  else
    WP M_TM_place 0 0 70 [some (.ref t), some (.int a1), some (.int a2), some (.int a3), some (.int a4), some (.int a5), some (.int s0)] [.int (nI 0), .int s0, .int a5, .ref t] G Q
set_option maxRecDepth 100000 in
theorem V_TM_place_36_ok {t : Nat} {a1 : Int32} {a2 : Int32} {a3 : Int32} {a4 : Int32} {a5 : Int32} {s0 : Int32} {G : GH} {Q : GQ} (h : V_TM_place_36 t a1 a2 a3 a4 a5 s0 G Q) : WP M_TM_place 0 0 36 [some (.ref t), some (.int a1), some (.int a2), some (.int a3), some (.int a4), some (.int a5), none] [.int s0] G Q := WP.ofV (T := T_TM_place) (hh := []) rfl rfl [(19, [true, true, true, true, true, false, false]), (36, [true, true, true, true, true, true, false]), (70, [true, true, true, true, true, true, true])] 56 h
def V_TM_place_70 (t : Nat) (a1 : Int32) (a2 : Int32) (a3 : Int32) (a4 : Int32) (a5 : Int32) (a6 : Int32) (s0 : Int32) (s1 : Int32) (s2 : Int32) (s3 : Nat) (G : GH) (Q : GQ) : Prop :=
  CI M_TM_fails [.ref s3, .int s2, .int s1, .int s0] G (fun (x2 : Int32) (G1 : GH) =>
    if x2 = (nI 0) then
      ∃ (fs3 : List Value) (r4 : Nat), G1.2 t = some (.inl (11, fs3)) ∧ fs3[0]? = some (.ref r4) ∧
      CV M_TM_remember [.ref t, .ref r4] G1 (fun (G5 : GH) =>
        CI M_TM_places [.ref t, .int a1, .int a2, .int a3, .int a4] G5 (fun (x7 : Int32) (G6 : GH) =>
          Q.1 x7 G6) gNo) gNo
    else
      Q.1 (nI 0) G1) gNo
set_option maxRecDepth 100000 in
theorem V_TM_place_70_ok {t : Nat} {a1 : Int32} {a2 : Int32} {a3 : Int32} {a4 : Int32} {a5 : Int32} {a6 : Int32} {s0 : Int32} {s1 : Int32} {s2 : Int32} {s3 : Nat} {G : GH} {Q : GQ} (h : V_TM_place_70 t a1 a2 a3 a4 a5 a6 s0 s1 s2 s3 G Q) : WP M_TM_place 0 0 70 [some (.ref t), some (.int a1), some (.int a2), some (.int a3), some (.int a4), some (.int a5), some (.int a6)] [.int s0, .int s1, .int s2, .ref s3] G Q := WP.ofV (T := T_TM_place) (hh := []) rfl rfl [(19, [true, true, true, true, true, false, false]), (36, [true, true, true, true, true, true, false]), (70, [true, true, true, true, true, true, true])] 56 h
def V_TM_fastenStrap_0 (t : Nat) (a1 : Int32) (a2 : Int32) (a3 : Int32) (G : GH) (Q : GQ) : Prop :=
  CI M_TM_noSide [.int a3] G (fun (x2 : Int32) (G1 : GH) =>
    CI M_TM_isEdge [.ref t, .int a1, .int a2, .int a3] G1 (fun (x4 : Int32) (G3 : GH) =>
      if x4 = (nI 0) then
        WP M_TM_fastenStrap 0 0 21 [some (.ref t), some (.int a1), some (.int a2), some (.int a3), some (.int x2), none] [.int (nI 1)] G3 Q
      else
        WP M_TM_fastenStrap 0 0 21 [some (.ref t), some (.int a1), some (.int a2), some (.int a3), some (.int x2), none] [.int (nI 0)] G3 Q) gNo) gNo
set_option maxRecDepth 100000 in
theorem V_TM_fastenStrap_0_ok {t : Nat} {a1 : Int32} {a2 : Int32} {a3 : Int32} {G : GH} {Q : GQ} (h : V_TM_fastenStrap_0 t a1 a2 a3 G Q) : WP M_TM_fastenStrap 0 0 0 [some (.ref t), some (.int a1), some (.int a2), some (.int a3), none, none] [] G Q := WP.ofV (T := T_TM_fastenStrap) (hh := []) rfl rfl [(21, [true, true, true, true, true, false]), (53, [true, true, true, true, true, true])] 48 h
theorem E_TM_fastenStrap {t : Nat} {a1 : Int32} {a2 : Int32} {a3 : Int32} {G : GH} {K : Int32 → GH → Prop} {KX : String → GH → Prop} (h : V_TM_fastenStrap_0 t a1 a2 a3 G (gQi K KX)) : CI M_TM_fastenStrap [.ref t, .int a1, .int a2, .int a3] G K KX := CI.of rfl rfl rfl (V_TM_fastenStrap_0_ok h)
def V_TM_fastenStrap_21 (t : Nat) (a1 : Int32) (a2 : Int32) (a3 : Int32) (a4 : Int32) (s0 : Int32) (G : GH) (Q : GQ) : Prop :=
  if a4 = (nI 0) then
    if s0 = (nI 0) then
      CI M_TM_mayFasten [.ref t, .int a1, .int a2, .int a3] G (fun (x2 : Int32) (G1 : GH) =>
        if x2 = (nI 0) then
          WP M_TM_fastenStrap 0 0 53 [some (.ref t), some (.int a1), some (.int a2), some (.int a3), some (.int a4), some (.int s0)] [.int (nI 1), .int s0, .int a4, .ref t] G1 Q
        else
          WP M_TM_fastenStrap 0 0 53 [some (.ref t), some (.int a1), some (.int a2), some (.int a3), some (.int a4), some (.int s0)] [.int (nI 0), .int s0, .int a4, .ref t] G1 Q) gNo
    else
      WP M_TM_fastenStrap 0 0 53 [some (.ref t), some (.int a1), some (.int a2), some (.int a3), some (.int a4), some (.int s0)] [.int (nI 0), .int s0, .int a4, .ref t] G Q
  else
    WP M_TM_fastenStrap 0 0 53 [some (.ref t), some (.int a1), some (.int a2), some (.int a3), some (.int a4), some (.int s0)] [.int (nI 0), .int s0, .int a4, .ref t] G Q
set_option maxRecDepth 100000 in
theorem V_TM_fastenStrap_21_ok {t : Nat} {a1 : Int32} {a2 : Int32} {a3 : Int32} {a4 : Int32} {s0 : Int32} {G : GH} {Q : GQ} (h : V_TM_fastenStrap_21 t a1 a2 a3 a4 s0 G Q) : WP M_TM_fastenStrap 0 0 21 [some (.ref t), some (.int a1), some (.int a2), some (.int a3), some (.int a4), none] [.int s0] G Q := WP.ofV (T := T_TM_fastenStrap) (hh := []) rfl rfl [(21, [true, true, true, true, true, false]), (53, [true, true, true, true, true, true])] 48 h
def V_TM_fastenStrap_53 (t : Nat) (a1 : Int32) (a2 : Int32) (a3 : Int32) (a4 : Int32) (a5 : Int32) (s0 : Int32) (s1 : Int32) (s2 : Int32) (s3 : Nat) (G : GH) (Q : GQ) : Prop :=
  CI M_TM_fails [.ref s3, .int s2, .int s1, .int s0] G (fun (x2 : Int32) (G1 : GH) =>
    if x2 = (nI 0) then
      ∃ (fs3 : List Value) (r4 : Nat), G1.2 t = some (.inl (11, fs3)) ∧ fs3[0]? = some (.ref r4) ∧
      CV M_TM_remember [.ref t, .ref r4] G1 (fun (G5 : GH) =>
        CI M_TM_fastens [.ref t, .int a1, .int a2, .int a3] G5 (fun (x7 : Int32) (G6 : GH) =>
          Q.1 x7 G6) gNo) gNo
    else
      Q.1 (nI 0) G1) gNo
set_option maxRecDepth 100000 in
theorem V_TM_fastenStrap_53_ok {t : Nat} {a1 : Int32} {a2 : Int32} {a3 : Int32} {a4 : Int32} {a5 : Int32} {s0 : Int32} {s1 : Int32} {s2 : Int32} {s3 : Nat} {G : GH} {Q : GQ} (h : V_TM_fastenStrap_53 t a1 a2 a3 a4 a5 s0 s1 s2 s3 G Q) : WP M_TM_fastenStrap 0 0 53 [some (.ref t), some (.int a1), some (.int a2), some (.int a3), some (.int a4), some (.int a5)] [.int s0, .int s1, .int s2, .ref s3] G Q := WP.ofV (T := T_TM_fastenStrap) (hh := []) rfl rfl [(21, [true, true, true, true, true, false]), (53, [true, true, true, true, true, true])] 48 h
def V_TM_pass_0 (t : Nat) (G : GH) (Q : GQ) : Prop :=
  CI M_TM_mayPass [.ref t] G (fun (x2 : Int32) (G1 : GH) =>
    if x2 = (nI 0) then
      WP M_TM_pass 0 0 13 [some (.ref t)] [.int (nI 1), .ref t] G1 Q
    else
      WP M_TM_pass 0 0 13 [some (.ref t)] [.int (nI 0), .ref t] G1 Q) gNo
set_option maxRecDepth 100000 in
theorem V_TM_pass_0_ok {t : Nat} {G : GH} {Q : GQ} (h : V_TM_pass_0 t G Q) : WP M_TM_pass 0 0 0 [some (.ref t)] [] G Q := WP.ofV (T := T_TM_pass) (hh := []) rfl rfl [(13, [true])] 25 h
theorem E_TM_pass {t : Nat} {G : GH} {K : Int32 → GH → Prop} {KX : String → GH → Prop} (h : V_TM_pass_0 t G (gQi K KX)) : CI M_TM_pass [.ref t] G K KX := CI.of rfl rfl rfl (V_TM_pass_0_ok h)
def V_TM_pass_13 (t : Nat) (s0 : Int32) (s1 : Nat) (G : GH) (Q : GQ) : Prop :=
  CI M_TM_fails [.ref s1, .int s0, .int (nI 0), .int (nI 0)] G (fun (x2 : Int32) (G1 : GH) =>
    if x2 = (nI 0) then
      ∃ (fs3 : List Value) (r4 : Nat), G1.2 t = some (.inl (11, fs3)) ∧ fs3[0]? = some (.ref r4) ∧
      CV M_TM_remember [.ref t, .ref r4] G1 (fun (G5 : GH) =>
        CI M_TM_passes [.ref t] G5 (fun (x7 : Int32) (G6 : GH) =>
          Q.1 x7 G6) gNo) gNo
    else
      Q.1 (nI 0) G1) gNo
set_option maxRecDepth 100000 in
theorem V_TM_pass_13_ok {t : Nat} {s0 : Int32} {s1 : Nat} {G : GH} {Q : GQ} (h : V_TM_pass_13 t s0 s1 G Q) : WP M_TM_pass 0 0 13 [some (.ref t)] [.int s0, .ref s1] G Q := WP.ofV (T := T_TM_pass) (hh := []) rfl rfl [(13, [true])] 25 h
def V_TM_undo_0 (t : Nat) (G : GH) (Q : GQ) : Prop :=
  ∃ (fs1 : List Value) (x2 : Int32), G.2 t = some (.inl (11, fs1)) ∧ fs1[6]? = some (.int x2) ∧
  if x2 = (nI 0) then
    WP M_TM_undo 0 0 13 [some (.ref t)] [.int (nI 1), .ref t] G Q
  else
    WP M_TM_undo 0 0 13 [some (.ref t)] [.int (nI 0), .ref t] G Q
set_option maxRecDepth 100000 in
theorem V_TM_undo_0_ok {t : Nat} {G : GH} {Q : GQ} (h : V_TM_undo_0 t G Q) : WP M_TM_undo 0 0 0 [some (.ref t)] [] G Q := WP.ofV (T := T_TM_undo) (hh := []) rfl rfl [(13, [true])] 37 h
theorem E_TM_undo {t : Nat} {G : GH} {K : Int32 → GH → Prop} {KX : String → GH → Prop} (h : V_TM_undo_0 t G (gQi K KX)) : CI M_TM_undo [.ref t] G K KX := CI.of rfl rfl rfl (V_TM_undo_0_ok h)
def V_TM_undo_13 (t : Nat) (s0 : Int32) (s1 : Nat) (G : GH) (Q : GQ) : Prop :=
  CI M_TM_fails [.ref s1, .int s0, .int (nI 0), .int (nI 0)] G (fun (x2 : Int32) (G1 : GH) =>
    if x2 = (nI 0) then
      ∃ (fs3 : List Value) (x4 : Int32), G1.2 t = some (.inl (11, fs3)) ∧ fs3[6]? = some (.int x4) ∧
      t < gRB ∧ ∃ (fs5 : List Value), G1.2 t = some (.inl (11, fs5)) ∧ gFit 0 (.int (x4 - (nI 1))) ∧
      let G6 : GH := gU G1 t (.inl (11, fs5.set 6 (.int (x4 - (nI 1)))));
      ∃ (fs7 : List Value) (r8 : Nat), G6.2 t = some (.inl (11, fs7)) ∧ fs7[2]? = some (.ref r8) ∧
      ∃ (fs9 : List Value) (x10 : Int32), G6.2 t = some (.inl (11, fs9)) ∧ fs9[6]? = some (.int x10) ∧
      ∃ (fs11 : List Value) (r12 : Nat), G6.2 t = some (.inl (11, fs11)) ∧ fs11[0]? = some (.ref r12) ∧
      CV M_TM_copy [.ref r8, .int (x10 * (nI 417)), .ref r12, .int (nI 0)] G6 (fun (G13 : GH) =>
        ∃ (fs14 : List Value) (x15 : Int32), G13.2 t = some (.inl (11, fs14)) ∧ fs14[6]? = some (.int x15) ∧
        Q.1 x15 G13) gNo
    else
      Q.1 (nI 0) G1) gNo
set_option maxRecDepth 100000 in
theorem V_TM_undo_13_ok {t : Nat} {s0 : Int32} {s1 : Nat} {G : GH} {Q : GQ} (h : V_TM_undo_13 t s0 s1 G Q) : WP M_TM_undo 0 0 13 [some (.ref t)] [.int s0, .ref s1] G Q := WP.ofV (T := T_TM_undo) (hh := []) rfl rfl [(13, [true])] 37 h
def V_TM_save_0 (t : Nat) (a1 : Int32) (G : GH) (Q : GQ) : Prop :=
  CI M_TM_isIn [.int a1, .int (nI 0), .int (nI 1)] G (fun (x2 : Int32) (G1 : GH) =>
    if x2 = (nI 0) then
      WP M_TM_save 0 0 15 [some (.ref t), some (.int a1)] [.int (nI 1), .ref t] G1 Q
    else
      WP M_TM_save 0 0 15 [some (.ref t), some (.int a1)] [.int (nI 0), .ref t] G1 Q) gNo
set_option maxRecDepth 100000 in
theorem V_TM_save_0_ok {t : Nat} {a1 : Int32} {G : GH} {Q : GQ} (h : V_TM_save_0 t a1 G Q) : WP M_TM_save 0 0 0 [some (.ref t), some (.int a1)] [] G Q := WP.ofV (T := T_TM_save) (hh := []) rfl rfl [(15, [true, true])] 39 h
theorem E_TM_save {t : Nat} {a1 : Int32} {G : GH} {K : Int32 → GH → Prop} {KX : String → GH → Prop} (h : V_TM_save_0 t a1 G (gQi K KX)) : CI M_TM_save [.ref t, .int a1] G K KX := CI.of rfl rfl rfl (V_TM_save_0_ok h)
def V_TM_save_15 (t : Nat) (a1 : Int32) (s0 : Int32) (s1 : Nat) (G : GH) (Q : GQ) : Prop :=
  CI M_TM_fails [.ref s1, .int s0, .int (nI 0), .int (nI 0)] G (fun (x2 : Int32) (G1 : GH) =>
    if x2 = (nI 0) then
      ∃ (fs3 : List Value) (r4 : Nat), G1.2 t = some (.inl (11, fs3)) ∧ fs3[0]? = some (.ref r4) ∧
      ∃ (fs5 : List Value) (r6 : Nat), G1.2 t = some (.inl (11, fs5)) ∧ fs5[3]? = some (.ref r6) ∧
      CV M_TM_copy [.ref r4, .int (nI 0), .ref r6, .int (a1 * (nI 417))] G1 (fun (G7 : GH) =>
        ∃ (fs8 : List Value) (r9 : Nat), G7.2 t = some (.inl (11, fs8)) ∧ fs8[5]? = some (.ref r9) ∧
        r9 < gRB ∧ ((nI 1) = nI 0 ∨ (nI 1) = nI 1) ∧ ∃ (m10 : Nat) (f11 : Nat → Int32), G7.2 r9 = some (.inr (.boolean, m10, .inl f11)) ∧ vp_in a1 m10 ∧
        let G12 : GH := gU G7 r9 (.inr (.boolean, m10, .inl (upd f11 (a1).toNatClampNeg (nI 1))));
        ∃ (fs13 : List Value) (r14 : Nat), G12.2 t = some (.inl (11, fs13)) ∧ fs13[0]? = some (.ref r14) ∧
        ∃ (m15 : Nat) (f16 : Nat → Int32), G12.2 r14 = some (.inr (.int, m15, .inl f16)) ∧ vp_in (nI 4) m15 ∧
        Q.1 (f16 (nI 4).toNatClampNeg) G12) gNo
    else
      Q.1 (nI 0) G1) gNo
set_option maxRecDepth 100000 in
theorem V_TM_save_15_ok {t : Nat} {a1 : Int32} {s0 : Int32} {s1 : Nat} {G : GH} {Q : GQ} (h : V_TM_save_15 t a1 s0 s1 G Q) : WP M_TM_save 0 0 15 [some (.ref t), some (.int a1)] [.int s0, .ref s1] G Q := WP.ofV (T := T_TM_save) (hh := []) rfl rfl [(15, [true, true])] 39 h
def V_TM_restore_0 (t : Nat) (a1 : Int32) (G : GH) (Q : GQ) : Prop :=
  CI M_TM_isIn [.int a1, .int (nI 0), .int (nI 1)] G (fun (x2 : Int32) (G1 : GH) =>
    if x2 = (nI 0) then
      WP M_TM_restore 0 0 14 [some (.ref t), some (.int a1), none] [.int (nI 1)] G1 Q
    else
      WP M_TM_restore 0 0 14 [some (.ref t), some (.int a1), none] [.int (nI 0)] G1 Q) gNo
set_option maxRecDepth 100000 in
theorem V_TM_restore_0_ok {t : Nat} {a1 : Int32} {G : GH} {Q : GQ} (h : V_TM_restore_0 t a1 G Q) : WP M_TM_restore 0 0 0 [some (.ref t), some (.int a1), none] [] G Q := WP.ofV (T := T_TM_restore) (hh := []) rfl rfl [(14, [true, true, false]), (35, [true, true, true])] 49 h
theorem E_TM_restore {t : Nat} {a1 : Int32} {G : GH} {K : Int32 → GH → Prop} {KX : String → GH → Prop} (h : V_TM_restore_0 t a1 G (gQi K KX)) : CI M_TM_restore [.ref t, .int a1] G K KX := CI.of rfl rfl rfl (V_TM_restore_0_ok h)
def V_TM_restore_14 (t : Nat) (a1 : Int32) (s0 : Int32) (G : GH) (Q : GQ) : Prop :=
  if s0 = (nI 0) then
    ∃ (fs1 : List Value) (r2 : Nat), G.2 t = some (.inl (11, fs1)) ∧ fs1[5]? = some (.ref r2) ∧
    r2 < gRB ∧ ∃ (m3 : Nat) (f4 : Nat → Int32), G.2 r2 = some (.inr (.boolean, m3, .inl f4)) ∧ vp_in a1 m3 ∧
    if (f4 (a1).toNatClampNeg) = (nI 0) then
      WP M_TM_restore 0 0 35 [some (.ref t), some (.int a1), some (.int s0)] [.int (nI 1), .int s0, .ref t] G Q
    else
      WP M_TM_restore 0 0 35 [some (.ref t), some (.int a1), some (.int s0)] [.int (nI 0), .int s0, .ref t] G Q
  else
    WP M_TM_restore 0 0 35 [some (.ref t), some (.int a1), some (.int s0)] [.int (nI 0), .int s0, .ref t] G Q
set_option maxRecDepth 100000 in
theorem V_TM_restore_14_ok {t : Nat} {a1 : Int32} {s0 : Int32} {G : GH} {Q : GQ} (h : V_TM_restore_14 t a1 s0 G Q) : WP M_TM_restore 0 0 14 [some (.ref t), some (.int a1), none] [.int s0] G Q := WP.ofV (T := T_TM_restore) (hh := []) rfl rfl [(14, [true, true, false]), (35, [true, true, true])] 49 h
def V_TM_restore_35 (t : Nat) (a1 : Int32) (a2 : Int32) (s0 : Int32) (s1 : Int32) (s2 : Nat) (G : GH) (Q : GQ) : Prop :=
  CI M_TM_fails [.ref s2, .int s1, .int s0, .int (nI 0)] G (fun (x2 : Int32) (G1 : GH) =>
    if x2 = (nI 0) then
      ∃ (fs3 : List Value) (r4 : Nat), G1.2 t = some (.inl (11, fs3)) ∧ fs3[0]? = some (.ref r4) ∧
      CV M_TM_remember [.ref t, .ref r4] G1 (fun (G5 : GH) =>
        ∃ (fs6 : List Value) (r7 : Nat), G5.2 t = some (.inl (11, fs6)) ∧ fs6[3]? = some (.ref r7) ∧
        ∃ (fs8 : List Value) (r9 : Nat), G5.2 t = some (.inl (11, fs8)) ∧ fs8[0]? = some (.ref r9) ∧
        CV M_TM_copy [.ref r7, .int (a1 * (nI 417)), .ref r9, .int (nI 0)] G5 (fun (G10 : GH) =>
          ∃ (fs11 : List Value) (r12 : Nat), G10.2 t = some (.inl (11, fs11)) ∧ fs11[0]? = some (.ref r12) ∧
          ∃ (m13 : Nat) (f14 : Nat → Int32), G10.2 r12 = some (.inr (.int, m13, .inl f14)) ∧ vp_in (nI 4) m13 ∧
          Q.1 (f14 (nI 4).toNatClampNeg) G10) gNo) gNo
    else
      Q.1 (nI 0) G1) gNo
set_option maxRecDepth 100000 in
theorem V_TM_restore_35_ok {t : Nat} {a1 : Int32} {a2 : Int32} {s0 : Int32} {s1 : Int32} {s2 : Nat} {G : GH} {Q : GQ} (h : V_TM_restore_35 t a1 a2 s0 s1 s2 G Q) : WP M_TM_restore 0 0 35 [some (.ref t), some (.int a1), some (.int a2)] [.int s0, .int s1, .ref s2] G Q := WP.ofV (T := T_TM_restore) (hh := []) rfl rfl [(14, [true, true, false]), (35, [true, true, true])] 49 h
def V_TM_allEmpty_0 (t : Nat) (G : GH) (Q : GQ) : Prop :=
  WP M_TM_allEmpty 0 0 4 [some (.ref t), some (.int (nI 0)), some (.int (nI 0))] [] G Q
set_option maxRecDepth 100000 in
theorem V_TM_allEmpty_0_ok {t : Nat} {G : GH} {Q : GQ} (h : V_TM_allEmpty_0 t G Q) : WP M_TM_allEmpty 0 0 0 [some (.ref t), none, none] [] G Q := WP.ofV (T := T_TM_allEmpty) (hh := []) rfl rfl [(4, [true, true, true])] 25 h
theorem E_TM_allEmpty {t : Nat} {G : GH} {K : Int32 → GH → Prop} {KX : String → GH → Prop} (h : V_TM_allEmpty_0 t G (gQi K KX)) : CI M_TM_allEmpty [.ref t] G K KX := CI.of rfl rfl rfl (V_TM_allEmpty_0_ok h)
def V_TM_allEmpty_4 (t : Nat) (a1 : Int32) (a2 : Int32) (G : GH) (Q : GQ) : Prop :=
  ∃ (fs1 : List Value) (r2 : Nat), G.2 t = some (.inl (11, fs1)) ∧ fs1[0]? = some (.ref r2) ∧
  ∃ (m3 : Nat) (f4 : Nat → Int32), G.2 r2 = some (.inr (.int, m3, .inl f4)) ∧ vp_in (nI 1) m3 ∧
  if a2 < (f4 (nI 1).toNatClampNeg) then
    CI M_TM_emptyIn [.ref t, .int a2] G (fun (x6 : Int32) (G5 : GH) =>
      WP M_TM_allEmpty 0 0 4 [some (.ref t), some (.int (a1 + x6)), some (.int (a2 + nI 1))] [] G5 Q) gNo
  else
    Q.1 a1 G
set_option maxRecDepth 100000 in
theorem V_TM_allEmpty_4_ok {t : Nat} {a1 : Int32} {a2 : Int32} {G : GH} {Q : GQ} (h : V_TM_allEmpty_4 t a1 a2 G Q) : WP M_TM_allEmpty 0 0 4 [some (.ref t), some (.int a1), some (.int a2)] [] G Q := WP.ofV (T := T_TM_allEmpty) (hh := []) rfl rfl [(4, [true, true, true])] 25 h
def V_TM_counted_0 (t : Nat) (a1 : Int32) (G : GH) (Q : GQ) : Prop :=
  WP M_TM_counted 0 0 4 [some (.ref t), some (.int a1), some (.int (nI 0)), some (.int (nI 0)), none] [] G Q
set_option maxRecDepth 100000 in
theorem V_TM_counted_0_ok {t : Nat} {a1 : Int32} {G : GH} {Q : GQ} (h : V_TM_counted_0 t a1 G Q) : WP M_TM_counted 0 0 0 [some (.ref t), some (.int a1), none, none, none] [] G Q := WP.ofV (T := T_TM_counted) (hh := []) rfl rfl [(4, [true, true, true, true, false]), (17, [true, true, true, true, true])] 46 h
theorem E_TM_counted {t : Nat} {a1 : Int32} {G : GH} {K : Int32 → GH → Prop} {KX : String → GH → Prop} (h : V_TM_counted_0 t a1 G (gQi K KX)) : CI M_TM_counted [.ref t, .int a1] G K KX := CI.of rfl rfl rfl (V_TM_counted_0_ok h)
def V_TM_counted_4 (t : Nat) (a1 : Int32) (a2 : Int32) (a3 : Int32) (G : GH) (Q : GQ) : Prop :=
  ∃ (fs1 : List Value) (r2 : Nat), G.2 t = some (.inl (11, fs1)) ∧ fs1[0]? = some (.ref r2) ∧
  ∃ (m3 : Nat) (f4 : Nat → Int32), G.2 r2 = some (.inr (.int, m3, .inl f4)) ∧ vp_in (nI 1) m3 ∧
  if a3 < (f4 (nI 1).toNatClampNeg) then
    WP M_TM_counted 0 0 17 [some (.ref t), some (.int a1), some (.int a2), some (.int a3), some (.int (nI 0))] [] G Q
  else
    Q.1 a2 G
set_option maxRecDepth 100000 in
theorem V_TM_counted_4_ok {t : Nat} {a1 : Int32} {a2 : Int32} {a3 : Int32} {G : GH} {Q : GQ} (h : V_TM_counted_4 t a1 a2 a3 G Q) : WP M_TM_counted 0 0 4 [some (.ref t), some (.int a1), some (.int a2), some (.int a3), none] [] G Q := WP.ofV (T := T_TM_counted) (hh := []) rfl rfl [(4, [true, true, true, true, false]), (17, [true, true, true, true, true])] 46 h
def V_TM_counted_17 (t : Nat) (a1 : Int32) (a2 : Int32) (a3 : Int32) (a4 : Int32) (G : GH) (Q : GQ) : Prop :=
  ∃ (fs1 : List Value) (r2 : Nat), G.2 t = some (.inl (11, fs1)) ∧ fs1[0]? = some (.ref r2) ∧
  ∃ (m3 : Nat) (f4 : Nat → Int32), G.2 r2 = some (.inr (.int, m3, .inl f4)) ∧ vp_in (nI 0) m3 ∧
  if a4 < (f4 (nI 0).toNatClampNeg) then
    if a1 = (nI 2) then
      CI M_TM_cell [.ref t, .int a4, .int a3] G (fun (x6 : Int32) (G5 : GH) =>
        if x6 < (nI 2) then
          WP M_TM_counted 0 0 17 [some (.ref t), some (.int a1), some (.int a2), some (.int a3), some (.int (a4 + nI 1))] [] G5 Q
        else
          WP M_TM_counted 0 0 17 [some (.ref t), some (.int a1), some (.int (a2 + nI 1)), some (.int a3), some (.int (a4 + nI 1))] [] G5 Q) gNo
    else
      CI M_TM_cell [.ref t, .int a4, .int a3] G (fun (x8 : Int32) (G7 : GH) =>
        if x8 = a1 then
          WP M_TM_counted 0 0 17 [some (.ref t), some (.int a1), some (.int (a2 + nI 1)), some (.int a3), some (.int (a4 + nI 1))] [] G7 Q
        else
          WP M_TM_counted 0 0 17 [some (.ref t), some (.int a1), some (.int a2), some (.int a3), some (.int (a4 + nI 1))] [] G7 Q) gNo
  else
    WP M_TM_counted 0 0 4 [some (.ref t), some (.int a1), some (.int a2), some (.int (a3 + nI 1)), none] [] G Q
set_option maxRecDepth 100000 in
theorem V_TM_counted_17_ok {t : Nat} {a1 : Int32} {a2 : Int32} {a3 : Int32} {a4 : Int32} {G : GH} {Q : GQ} (h : V_TM_counted_17 t a1 a2 a3 a4 G Q) : WP M_TM_counted 0 0 17 [some (.ref t), some (.int a1), some (.int a2), some (.int a3), some (.int a4)] [] G Q := WP.ofV (T := T_TM_counted) (hh := []) rfl rfl [(4, [true, true, true, true, false]), (17, [true, true, true, true, true])] 46 h
def V_TM_columns_0 (t : Nat) (G : GH) (Q : GQ) : Prop :=
  ∃ (fs1 : List Value) (r2 : Nat), G.2 t = some (.inl (11, fs1)) ∧ fs1[0]? = some (.ref r2) ∧
  ∃ (m3 : Nat) (f4 : Nat → Int32), G.2 r2 = some (.inr (.int, m3, .inl f4)) ∧ vp_in (nI 0) m3 ∧
  CI M_TM_told [.ref t, .int (f4 (nI 0).toNatClampNeg)] G (fun (x6 : Int32) (G5 : GH) =>
    Q.1 x6 G5) gNo
set_option maxRecDepth 100000 in
theorem V_TM_columns_0_ok {t : Nat} {G : GH} {Q : GQ} (h : V_TM_columns_0 t G Q) : WP M_TM_columns 0 0 0 [some (.ref t)] [] G Q := WP.ofV (T := T_TM_columns) (hh := []) rfl rfl [] 12 h
theorem E_TM_columns {t : Nat} {G : GH} {K : Int32 → GH → Prop} {KX : String → GH → Prop} (h : V_TM_columns_0 t G (gQi K KX)) : CI M_TM_columns [.ref t] G K KX := CI.of rfl rfl rfl (V_TM_columns_0_ok h)
def V_TM_rows_0 (t : Nat) (G : GH) (Q : GQ) : Prop :=
  ∃ (fs1 : List Value) (r2 : Nat), G.2 t = some (.inl (11, fs1)) ∧ fs1[0]? = some (.ref r2) ∧
  ∃ (m3 : Nat) (f4 : Nat → Int32), G.2 r2 = some (.inr (.int, m3, .inl f4)) ∧ vp_in (nI 1) m3 ∧
  CI M_TM_told [.ref t, .int (f4 (nI 1).toNatClampNeg)] G (fun (x6 : Int32) (G5 : GH) =>
    Q.1 x6 G5) gNo
set_option maxRecDepth 100000 in
theorem V_TM_rows_0_ok {t : Nat} {G : GH} {Q : GQ} (h : V_TM_rows_0 t G Q) : WP M_TM_rows 0 0 0 [some (.ref t)] [] G Q := WP.ofV (T := T_TM_rows) (hh := []) rfl rfl [] 12 h
theorem E_TM_rows {t : Nat} {G : GH} {K : Int32 → GH → Prop} {KX : String → GH → Prop} (h : V_TM_rows_0 t G (gQi K KX)) : CI M_TM_rows [.ref t] G K KX := CI.of rfl rfl rfl (V_TM_rows_0_ok h)
def V_TM_emptyCells_0 (t : Nat) (G : GH) (Q : GQ) : Prop :=
  CI M_TM_allEmpty [.ref t] G (fun (x2 : Int32) (G1 : GH) =>
    CI M_TM_told [.ref t, .int x2] G1 (fun (x4 : Int32) (G3 : GH) =>
      Q.1 x4 G3) gNo) gNo
set_option maxRecDepth 100000 in
theorem V_TM_emptyCells_0_ok {t : Nat} {G : GH} {Q : GQ} (h : V_TM_emptyCells_0 t G Q) : WP M_TM_emptyCells 0 0 0 [some (.ref t)] [] G Q := WP.ofV (T := T_TM_emptyCells) (hh := []) rfl rfl [] 10 h
theorem E_TM_emptyCells {t : Nat} {G : GH} {K : Int32 → GH → Prop} {KX : String → GH → Prop} (h : V_TM_emptyCells_0 t G (gQi K KX)) : CI M_TM_emptyCells [.ref t] G K KX := CI.of rfl rfl rfl (V_TM_emptyCells_0_ok h)
def V_TM_pieceCount_0 (t : Nat) (G : GH) (Q : GQ) : Prop :=
  ∃ (fs1 : List Value) (r2 : Nat), G.2 t = some (.inl (11, fs1)) ∧ fs1[0]? = some (.ref r2) ∧
  ∃ (m3 : Nat) (f4 : Nat → Int32), G.2 r2 = some (.inr (.int, m3, .inl f4)) ∧ vp_in (nI 4) m3 ∧
  CI M_TM_told [.ref t, .int (f4 (nI 4).toNatClampNeg)] G (fun (x6 : Int32) (G5 : GH) =>
    Q.1 x6 G5) gNo
set_option maxRecDepth 100000 in
theorem V_TM_pieceCount_0_ok {t : Nat} {G : GH} {Q : GQ} (h : V_TM_pieceCount_0 t G Q) : WP M_TM_pieceCount 0 0 0 [some (.ref t)] [] G Q := WP.ofV (T := T_TM_pieceCount) (hh := []) rfl rfl [] 12 h
theorem E_TM_pieceCount {t : Nat} {G : GH} {K : Int32 → GH → Prop} {KX : String → GH → Prop} (h : V_TM_pieceCount_0 t G (gQi K KX)) : CI M_TM_pieceCount [.ref t] G K KX := CI.of rfl rfl rfl (V_TM_pieceCount_0_ok h)
def V_TM_strapCount_0 (t : Nat) (G : GH) (Q : GQ) : Prop :=
  t < gRB ∧ ∃ (fs1 : List Value), G.2 t = some (.inl (11, fs1)) ∧ gFit 0 (.int (nI 0)) ∧
  let G2 : GH := gU G t (.inl (11, fs1.set 7 (.int (nI 0))));
  WP M_TM_strapCount 0 0 9 [some (.ref t), some (.int (nI 0)), some (.int (nI 0))] [] G2 Q
set_option maxRecDepth 100000 in
theorem V_TM_strapCount_0_ok {t : Nat} {G : GH} {Q : GQ} (h : V_TM_strapCount_0 t G Q) : WP M_TM_strapCount 0 0 0 [some (.ref t), none, none] [] G Q := WP.ofV (T := T_TM_strapCount) (hh := []) rfl rfl [(9, [true, true, true])] 28 h
theorem E_TM_strapCount {t : Nat} {G : GH} {K : Int32 → GH → Prop} {KX : String → GH → Prop} (h : V_TM_strapCount_0 t G (gQi K KX)) : CI M_TM_strapCount [.ref t] G K KX := CI.of rfl rfl rfl (V_TM_strapCount_0_ok h)
def V_TM_strapCount_9 (t : Nat) (a1 : Int32) (a2 : Int32) (G : GH) (Q : GQ) : Prop :=
  if a2 < (nI 128) then
    ∃ (fs1 : List Value) (r2 : Nat), G.2 t = some (.inl (11, fs1)) ∧ fs1[0]? = some (.ref r2) ∧
    ∃ (m3 : Nat) (f4 : Nat → Int32), G.2 r2 = some (.inr (.int, m3, .inl f4)) ∧ vp_in ((nI 97) + a2) m3 ∧
    WP M_TM_strapCount 0 0 9 [some (.ref t), some (.int (a1 + (f4 ((nI 97) + a2).toNatClampNeg))), some (.int (a2 + nI 1))] [] G Q
  else
    Q.1 a1 G
set_option maxRecDepth 100000 in
theorem V_TM_strapCount_9_ok {t : Nat} {a1 : Int32} {a2 : Int32} {G : GH} {Q : GQ} (h : V_TM_strapCount_9 t a1 a2 G Q) : WP M_TM_strapCount 0 0 9 [some (.ref t), some (.int a1), some (.int a2)] [] G Q := WP.ofV (T := T_TM_strapCount) (hh := []) rfl rfl [(9, [true, true, true])] 28 h
def V_TM_completeRows_0 (t : Nat) (G : GH) (Q : GQ) : Prop :=
  t < gRB ∧ ∃ (fs1 : List Value), G.2 t = some (.inl (11, fs1)) ∧ gFit 0 (.int (nI 0)) ∧
  let G2 : GH := gU G t (.inl (11, fs1.set 7 (.int (nI 0))));
  WP M_TM_completeRows 0 0 9 [some (.ref t), some (.int (nI 0)), some (.int (nI 0))] [] G2 Q
set_option maxRecDepth 100000 in
theorem V_TM_completeRows_0_ok {t : Nat} {G : GH} {Q : GQ} (h : V_TM_completeRows_0 t G Q) : WP M_TM_completeRows 0 0 0 [some (.ref t), none, none] [] G Q := WP.ofV (T := T_TM_completeRows) (hh := []) rfl rfl [(9, [true, true, true])] 27 h
theorem E_TM_completeRows {t : Nat} {G : GH} {K : Int32 → GH → Prop} {KX : String → GH → Prop} (h : V_TM_completeRows_0 t G (gQi K KX)) : CI M_TM_completeRows [.ref t] G K KX := CI.of rfl rfl rfl (V_TM_completeRows_0_ok h)
def V_TM_completeRows_9 (t : Nat) (a1 : Int32) (a2 : Int32) (G : GH) (Q : GQ) : Prop :=
  ∃ (fs1 : List Value) (r2 : Nat), G.2 t = some (.inl (11, fs1)) ∧ fs1[0]? = some (.ref r2) ∧
  ∃ (m3 : Nat) (f4 : Nat → Int32), G.2 r2 = some (.inr (.int, m3, .inl f4)) ∧ vp_in (nI 1) m3 ∧
  if a2 < (f4 (nI 1).toNatClampNeg) then
    CI M_TM_emptyIn [.ref t, .int a2] G (fun (x6 : Int32) (G5 : GH) =>
      if x6 = (nI 0) then
        WP M_TM_completeRows 0 0 9 [some (.ref t), some (.int (a1 + nI 1)), some (.int (a2 + nI 1))] [] G5 Q
      else
        WP M_TM_completeRows 0 0 9 [some (.ref t), some (.int a1), some (.int (a2 + nI 1))] [] G5 Q) gNo
  else
    Q.1 a1 G
set_option maxRecDepth 100000 in
theorem V_TM_completeRows_9_ok {t : Nat} {a1 : Int32} {a2 : Int32} {G : GH} {Q : GQ} (h : V_TM_completeRows_9 t a1 a2 G Q) : WP M_TM_completeRows 0 0 9 [some (.ref t), some (.int a1), some (.int a2)] [] G Q := WP.ofV (T := T_TM_completeRows) (hh := []) rfl rfl [(9, [true, true, true])] 27 h
def V_TM_undoableChanges_0 (t : Nat) (G : GH) (Q : GQ) : Prop :=
  ∃ (fs1 : List Value) (x2 : Int32), G.2 t = some (.inl (11, fs1)) ∧ fs1[6]? = some (.int x2) ∧
  CI M_TM_told [.ref t, .int x2] G (fun (x4 : Int32) (G3 : GH) =>
    Q.1 x4 G3) gNo
set_option maxRecDepth 100000 in
theorem V_TM_undoableChanges_0_ok {t : Nat} {G : GH} {Q : GQ} (h : V_TM_undoableChanges_0 t G Q) : WP M_TM_undoableChanges 0 0 0 [some (.ref t)] [] G Q := WP.ofV (T := T_TM_undoableChanges) (hh := []) rfl rfl [] 10 h
theorem E_TM_undoableChanges {t : Nat} {G : GH} {K : Int32 → GH → Prop} {KX : String → GH → Prop} (h : V_TM_undoableChanges_0 t G (gQi K KX)) : CI M_TM_undoableChanges [.ref t] G K KX := CI.of rfl rfl rfl (V_TM_undoableChanges_0_ok h)
def V_TM_isBlocked_0 (t : Nat) (a1 : Int32) (a2 : Int32) (G : GH) (Q : GQ) : Prop :=
  CI M_TM_isInside [.ref t, .int a1, .int a2] G (fun (x2 : Int32) (G1 : GH) =>
    if x2 = (nI 0) then
      WP M_TM_isBlocked 0 0 15 [some (.ref t), some (.int a1), some (.int a2)] [.int (nI 1), .ref t] G1 Q
    else
      WP M_TM_isBlocked 0 0 15 [some (.ref t), some (.int a1), some (.int a2)] [.int (nI 0), .ref t] G1 Q) gNo
set_option maxRecDepth 100000 in
theorem V_TM_isBlocked_0_ok {t : Nat} {a1 : Int32} {a2 : Int32} {G : GH} {Q : GQ} (h : V_TM_isBlocked_0 t a1 a2 G Q) : WP M_TM_isBlocked 0 0 0 [some (.ref t), some (.int a1), some (.int a2)] [] G Q := WP.ofV (T := T_TM_isBlocked) (hh := []) rfl rfl [(15, [true, true, true])] 28 h
theorem E_TM_isBlocked {t : Nat} {a1 : Int32} {a2 : Int32} {G : GH} {K : Int32 → GH → Prop} {KX : String → GH → Prop} (h : V_TM_isBlocked_0 t a1 a2 G (gQi K KX)) : CI M_TM_isBlocked [.ref t, .int a1, .int a2] G K KX := CI.of rfl rfl rfl (V_TM_isBlocked_0_ok h)
def V_TM_isBlocked_15 (t : Nat) (a1 : Int32) (a2 : Int32) (s0 : Int32) (s1 : Nat) (G : GH) (Q : GQ) : Prop :=
  CI M_TM_fails [.ref s1, .int s0, .int (nI 0), .int (nI 0)] G (fun (x2 : Int32) (G1 : GH) =>
    if x2 = (nI 0) then
      CI M_TM_cell [.ref t, .int a1, .int a2] G1 (fun (x4 : Int32) (G3 : GH) =>
        if x4 = (nI 1) then
          ((nI 1) = nI 0 ∨ (nI 1) = nI 1) ∧ Q.1 (nI 1) G3
        else
          ((nI 0) = nI 0 ∨ (nI 0) = nI 1) ∧ Q.1 (nI 0) G3) gNo
    else
      ((nI 0) = nI 0 ∨ (nI 0) = nI 1) ∧ Q.1 (nI 0) G1) gNo
set_option maxRecDepth 100000 in
theorem V_TM_isBlocked_15_ok {t : Nat} {a1 : Int32} {a2 : Int32} {s0 : Int32} {s1 : Nat} {G : GH} {Q : GQ} (h : V_TM_isBlocked_15 t a1 a2 s0 s1 G Q) : WP M_TM_isBlocked 0 0 15 [some (.ref t), some (.int a1), some (.int a2)] [.int s0, .ref s1] G Q := WP.ofV (T := T_TM_isBlocked) (hh := []) rfl rfl [(15, [true, true, true])] 28 h
def V_TM_pieceAt_0 (t : Nat) (a1 : Int32) (a2 : Int32) (G : GH) (Q : GQ) : Prop :=
  CI M_TM_isInside [.ref t, .int a1, .int a2] G (fun (x2 : Int32) (G1 : GH) =>
    if x2 = (nI 0) then
      WP M_TM_pieceAt 0 0 15 [some (.ref t), some (.int a1), some (.int a2)] [.int (nI 1), .ref t] G1 Q
    else
      WP M_TM_pieceAt 0 0 15 [some (.ref t), some (.int a1), some (.int a2)] [.int (nI 0), .ref t] G1 Q) gNo
set_option maxRecDepth 100000 in
theorem V_TM_pieceAt_0_ok {t : Nat} {a1 : Int32} {a2 : Int32} {G : GH} {Q : GQ} (h : V_TM_pieceAt_0 t a1 a2 G Q) : WP M_TM_pieceAt 0 0 0 [some (.ref t), some (.int a1), some (.int a2)] [] G Q := WP.ofV (T := T_TM_pieceAt) (hh := []) rfl rfl [(15, [true, true, true])] 25 h
theorem E_TM_pieceAt {t : Nat} {a1 : Int32} {a2 : Int32} {G : GH} {K : Int32 → GH → Prop} {KX : String → GH → Prop} (h : V_TM_pieceAt_0 t a1 a2 G (gQi K KX)) : CI M_TM_pieceAt [.ref t, .int a1, .int a2] G K KX := CI.of rfl rfl rfl (V_TM_pieceAt_0_ok h)
def V_TM_pieceAt_15 (t : Nat) (a1 : Int32) (a2 : Int32) (s0 : Int32) (s1 : Nat) (G : GH) (Q : GQ) : Prop :=
  CI M_TM_fails [.ref s1, .int s0, .int (nI 0), .int (nI 0)] G (fun (x2 : Int32) (G1 : GH) =>
    if x2 = (nI 0) then
      CI M_TM_pieceOf [.ref t, .int a1, .int a2] G1 (fun (x4 : Int32) (G3 : GH) =>
        Q.1 x4 G3) gNo
    else
      Q.1 (nI 0) G1) gNo
set_option maxRecDepth 100000 in
theorem V_TM_pieceAt_15_ok {t : Nat} {a1 : Int32} {a2 : Int32} {s0 : Int32} {s1 : Nat} {G : GH} {Q : GQ} (h : V_TM_pieceAt_15 t a1 a2 s0 s1 G Q) : WP M_TM_pieceAt 0 0 15 [some (.ref t), some (.int a1), some (.int a2)] [.int s0, .ref s1] G Q := WP.ofV (T := T_TM_pieceAt) (hh := []) rfl rfl [(15, [true, true, true])] 25 h
def V_TM_hasStrap_0 (t : Nat) (a1 : Int32) (a2 : Int32) (a3 : Int32) (G : GH) (Q : GQ) : Prop :=
  CI M_TM_noSide [.int a3] G (fun (x2 : Int32) (G1 : GH) =>
    CI M_TM_isEdge [.ref t, .int a1, .int a2, .int a3] G1 (fun (x4 : Int32) (G3 : GH) =>
      if x4 = (nI 0) then
        WP M_TM_hasStrap 0 0 20 [some (.ref t), some (.int a1), some (.int a2), some (.int a3)] [.int (nI 1), .int x2, .ref t] G3 Q
      else
        WP M_TM_hasStrap 0 0 20 [some (.ref t), some (.int a1), some (.int a2), some (.int a3)] [.int (nI 0), .int x2, .ref t] G3 Q) gNo) gNo
set_option maxRecDepth 100000 in
theorem V_TM_hasStrap_0_ok {t : Nat} {a1 : Int32} {a2 : Int32} {a3 : Int32} {G : GH} {Q : GQ} (h : V_TM_hasStrap_0 t a1 a2 a3 G Q) : WP M_TM_hasStrap 0 0 0 [some (.ref t), some (.int a1), some (.int a2), some (.int a3)] [] G Q := WP.ofV (T := T_TM_hasStrap) (hh := []) rfl rfl [(20, [true, true, true, true])] 33 h
theorem E_TM_hasStrap {t : Nat} {a1 : Int32} {a2 : Int32} {a3 : Int32} {G : GH} {K : Int32 → GH → Prop} {KX : String → GH → Prop} (h : V_TM_hasStrap_0 t a1 a2 a3 G (gQi K KX)) : CI M_TM_hasStrap [.ref t, .int a1, .int a2, .int a3] G K KX := CI.of rfl rfl rfl (V_TM_hasStrap_0_ok h)
def V_TM_hasStrap_20 (t : Nat) (a1 : Int32) (a2 : Int32) (a3 : Int32) (s0 : Int32) (s1 : Int32) (s2 : Nat) (G : GH) (Q : GQ) : Prop :=
  CI M_TM_fails [.ref s2, .int s1, .int s0, .int (nI 0)] G (fun (x2 : Int32) (G1 : GH) =>
    if x2 = (nI 0) then
      ∃ (fs3 : List Value) (r4 : Nat), G1.2 t = some (.inl (11, fs3)) ∧ fs3[0]? = some (.ref r4) ∧
      CI M_TM_edge [.int a1, .int a2, .int a3] G1 (fun (x6 : Int32) (G5 : GH) =>
        ∃ (m7 : Nat) (f8 : Nat → Int32), G5.2 r4 = some (.inr (.int, m7, .inl f8)) ∧ vp_in x6 m7 ∧
        if (f8 (x6).toNatClampNeg) = (nI 1) then
          ((nI 1) = nI 0 ∨ (nI 1) = nI 1) ∧ Q.1 (nI 1) G5
        else
          ((nI 0) = nI 0 ∨ (nI 0) = nI 1) ∧ Q.1 (nI 0) G5) gNo
    else
      ((nI 0) = nI 0 ∨ (nI 0) = nI 1) ∧ Q.1 (nI 0) G1) gNo
set_option maxRecDepth 100000 in
theorem V_TM_hasStrap_20_ok {t : Nat} {a1 : Int32} {a2 : Int32} {a3 : Int32} {s0 : Int32} {s1 : Int32} {s2 : Nat} {G : GH} {Q : GQ} (h : V_TM_hasStrap_20 t a1 a2 a3 s0 s1 s2 G Q) : WP M_TM_hasStrap 0 0 20 [some (.ref t), some (.int a1), some (.int a2), some (.int a3)] [.int s0, .int s1, .ref s2] G Q := WP.ofV (T := T_TM_hasStrap) (hh := []) rfl rfl [(20, [true, true, true, true])] 33 h
def V_TM_emptyInRow_0 (t : Nat) (a1 : Int32) (G : GH) (Q : GQ) : Prop :=
  ∃ (fs1 : List Value) (r2 : Nat), G.2 t = some (.inl (11, fs1)) ∧ fs1[0]? = some (.ref r2) ∧
  ∃ (m3 : Nat) (f4 : Nat → Int32), G.2 r2 = some (.inr (.int, m3, .inl f4)) ∧ vp_in (nI 1) m3 ∧
  CI M_TM_isIn [.int a1, .int (nI 0), .int ((f4 (nI 1).toNatClampNeg) - (nI 1))] G (fun (x6 : Int32) (G5 : GH) =>
    if x6 = (nI 0) then
      WP M_TM_emptyInRow 0 0 22 [some (.ref t), some (.int a1)] [.int (nI 1), .ref t] G5 Q
    else
      WP M_TM_emptyInRow 0 0 22 [some (.ref t), some (.int a1)] [.int (nI 0), .ref t] G5 Q) gNo
set_option maxRecDepth 100000 in
theorem V_TM_emptyInRow_0_ok {t : Nat} {a1 : Int32} {G : GH} {Q : GQ} (h : V_TM_emptyInRow_0 t a1 G Q) : WP M_TM_emptyInRow 0 0 0 [some (.ref t), some (.int a1)] [] G Q := WP.ofV (T := T_TM_emptyInRow) (hh := []) rfl rfl [(22, [true, true])] 29 h
theorem E_TM_emptyInRow {t : Nat} {a1 : Int32} {G : GH} {K : Int32 → GH → Prop} {KX : String → GH → Prop} (h : V_TM_emptyInRow_0 t a1 G (gQi K KX)) : CI M_TM_emptyInRow [.ref t, .int a1] G K KX := CI.of rfl rfl rfl (V_TM_emptyInRow_0_ok h)
def V_TM_emptyInRow_22 (t : Nat) (a1 : Int32) (s0 : Int32) (s1 : Nat) (G : GH) (Q : GQ) : Prop :=
  CI M_TM_fails [.ref s1, .int s0, .int (nI 0), .int (nI 0)] G (fun (x2 : Int32) (G1 : GH) =>
    if x2 = (nI 0) then
      CI M_TM_emptyIn [.ref t, .int a1] G1 (fun (x4 : Int32) (G3 : GH) =>
        Q.1 x4 G3) gNo
    else
      Q.1 (nI 0) G1) gNo
set_option maxRecDepth 100000 in
theorem V_TM_emptyInRow_22_ok {t : Nat} {a1 : Int32} {s0 : Int32} {s1 : Nat} {G : GH} {Q : GQ} (h : V_TM_emptyInRow_22 t a1 s0 s1 G Q) : WP M_TM_emptyInRow 0 0 22 [some (.ref t), some (.int a1)] [.int s0, .ref s1] G Q := WP.ofV (T := T_TM_emptyInRow) (hh := []) rfl rfl [(22, [true, true])] 29 h
def V_TM_ofPiece_0 (t : Nat) (a1 : Int32) (a2 : Int32) (G : GH) (Q : GQ) : Prop :=
  ∃ (fs1 : List Value) (r2 : Nat), G.2 t = some (.inl (11, fs1)) ∧ fs1[0]? = some (.ref r2) ∧
  ∃ (m3 : Nat) (f4 : Nat → Int32), G.2 r2 = some (.inr (.int, m3, .inl f4)) ∧ vp_in (nI 4) m3 ∧
  CI M_TM_isIn [.int a1, .int (nI 0), .int ((f4 (nI 4).toNatClampNeg) - (nI 1))] G (fun (x6 : Int32) (G5 : GH) =>
    if x6 = (nI 0) then
      WP M_TM_ofPiece 0 0 22 [some (.ref t), some (.int a1), some (.int a2)] [.int (nI 1), .ref t] G5 Q
    else
      WP M_TM_ofPiece 0 0 22 [some (.ref t), some (.int a1), some (.int a2)] [.int (nI 0), .ref t] G5 Q) gNo
set_option maxRecDepth 100000 in
theorem V_TM_ofPiece_0_ok {t : Nat} {a1 : Int32} {a2 : Int32} {G : GH} {Q : GQ} (h : V_TM_ofPiece_0 t a1 a2 G Q) : WP M_TM_ofPiece 0 0 0 [some (.ref t), some (.int a1), some (.int a2)] [] G Q := WP.ofV (T := T_TM_ofPiece) (hh := []) rfl rfl [(22, [true, true, true])] 36 h
theorem E_TM_ofPiece {t : Nat} {a1 : Int32} {a2 : Int32} {G : GH} {K : Int32 → GH → Prop} {KX : String → GH → Prop} (h : V_TM_ofPiece_0 t a1 a2 G (gQi K KX)) : CI M_TM_ofPiece [.ref t, .int a1, .int a2] G K KX := CI.of rfl rfl rfl (V_TM_ofPiece_0_ok h)
def V_TM_ofPiece_22 (t : Nat) (a1 : Int32) (a2 : Int32) (s0 : Int32) (s1 : Nat) (G : GH) (Q : GQ) : Prop :=
  CI M_TM_fails [.ref s1, .int s0, .int (nI 0), .int (nI 0)] G (fun (x2 : Int32) (G1 : GH) =>
    if x2 = (nI 0) then
      ∃ (fs3 : List Value) (r4 : Nat), G1.2 t = some (.inl (11, fs3)) ∧ fs3[0]? = some (.ref r4) ∧
      ∃ (m5 : Nat) (f6 : Nat → Int32), G1.2 r4 = some (.inr (.int, m5, .inl f6)) ∧ vp_in (((nI 225) + (a1 * (nI 6))) + a2) m5 ∧
      Q.1 (f6 (((nI 225) + (a1 * (nI 6))) + a2).toNatClampNeg) G1
    else
      Q.1 (nI 0) G1) gNo
set_option maxRecDepth 100000 in
theorem V_TM_ofPiece_22_ok {t : Nat} {a1 : Int32} {a2 : Int32} {s0 : Int32} {s1 : Nat} {G : GH} {Q : GQ} (h : V_TM_ofPiece_22 t a1 a2 s0 s1 G Q) : WP M_TM_ofPiece 0 0 22 [some (.ref t), some (.int a1), some (.int a2)] [.int s0, .ref s1] G Q := WP.ofV (T := T_TM_ofPiece) (hh := []) rfl rfl [(22, [true, true, true])] 36 h
def V_TM_pieceShape_0 (t : Nat) (a1 : Int32) (G : GH) (Q : GQ) : Prop :=
  CI M_TM_ofPiece [.ref t, .int a1, .int (nI 0)] G (fun (x2 : Int32) (G1 : GH) =>
    Q.1 x2 G1) gNo
set_option maxRecDepth 100000 in
theorem V_TM_pieceShape_0_ok {t : Nat} {a1 : Int32} {G : GH} {Q : GQ} (h : V_TM_pieceShape_0 t a1 G Q) : WP M_TM_pieceShape 0 0 0 [some (.ref t), some (.int a1)] [] G Q := WP.ofV (T := T_TM_pieceShape) (hh := []) rfl rfl [] 10 h
theorem E_TM_pieceShape {t : Nat} {a1 : Int32} {G : GH} {K : Int32 → GH → Prop} {KX : String → GH → Prop} (h : V_TM_pieceShape_0 t a1 G (gQi K KX)) : CI M_TM_pieceShape [.ref t, .int a1] G K KX := CI.of rfl rfl rfl (V_TM_pieceShape_0_ok h)
def V_TM_pieceRotation_0 (t : Nat) (a1 : Int32) (G : GH) (Q : GQ) : Prop :=
  CI M_TM_ofPiece [.ref t, .int a1, .int (nI 1)] G (fun (x2 : Int32) (G1 : GH) =>
    Q.1 x2 G1) gNo
set_option maxRecDepth 100000 in
theorem V_TM_pieceRotation_0_ok {t : Nat} {a1 : Int32} {G : GH} {Q : GQ} (h : V_TM_pieceRotation_0 t a1 G Q) : WP M_TM_pieceRotation 0 0 0 [some (.ref t), some (.int a1)] [] G Q := WP.ofV (T := T_TM_pieceRotation) (hh := []) rfl rfl [] 10 h
theorem E_TM_pieceRotation {t : Nat} {a1 : Int32} {G : GH} {K : Int32 → GH → Prop} {KX : String → GH → Prop} (h : V_TM_pieceRotation_0 t a1 G (gQi K KX)) : CI M_TM_pieceRotation [.ref t, .int a1] G K KX := CI.of rfl rfl rfl (V_TM_pieceRotation_0_ok h)
def V_TM_pieceColumn_0 (t : Nat) (a1 : Int32) (G : GH) (Q : GQ) : Prop :=
  CI M_TM_ofPiece [.ref t, .int a1, .int (nI 2)] G (fun (x2 : Int32) (G1 : GH) =>
    Q.1 x2 G1) gNo
set_option maxRecDepth 100000 in
theorem V_TM_pieceColumn_0_ok {t : Nat} {a1 : Int32} {G : GH} {Q : GQ} (h : V_TM_pieceColumn_0 t a1 G Q) : WP M_TM_pieceColumn 0 0 0 [some (.ref t), some (.int a1)] [] G Q := WP.ofV (T := T_TM_pieceColumn) (hh := []) rfl rfl [] 10 h
theorem E_TM_pieceColumn {t : Nat} {a1 : Int32} {G : GH} {K : Int32 → GH → Prop} {KX : String → GH → Prop} (h : V_TM_pieceColumn_0 t a1 G (gQi K KX)) : CI M_TM_pieceColumn [.ref t, .int a1] G K KX := CI.of rfl rfl rfl (V_TM_pieceColumn_0_ok h)
def V_TM_pieceRow_0 (t : Nat) (a1 : Int32) (G : GH) (Q : GQ) : Prop :=
  CI M_TM_ofPiece [.ref t, .int a1, .int (nI 3)] G (fun (x2 : Int32) (G1 : GH) =>
    Q.1 x2 G1) gNo
set_option maxRecDepth 100000 in
theorem V_TM_pieceRow_0_ok {t : Nat} {a1 : Int32} {G : GH} {Q : GQ} (h : V_TM_pieceRow_0 t a1 G Q) : WP M_TM_pieceRow 0 0 0 [some (.ref t), some (.int a1)] [] G Q := WP.ofV (T := T_TM_pieceRow) (hh := []) rfl rfl [] 10 h
theorem E_TM_pieceRow {t : Nat} {a1 : Int32} {G : GH} {K : Int32 → GH → Prop} {KX : String → GH → Prop} (h : V_TM_pieceRow_0 t a1 G (gQi K KX)) : CI M_TM_pieceRow [.ref t, .int a1] G K KX := CI.of rfl rfl rfl (V_TM_pieceRow_0_ok h)
def V_TM_pieceOwner_0 (t : Nat) (a1 : Int32) (G : GH) (Q : GQ) : Prop :=
  CI M_TM_ofPiece [.ref t, .int a1, .int (nI 4)] G (fun (x2 : Int32) (G1 : GH) =>
    Q.1 x2 G1) gNo
set_option maxRecDepth 100000 in
theorem V_TM_pieceOwner_0_ok {t : Nat} {a1 : Int32} {G : GH} {Q : GQ} (h : V_TM_pieceOwner_0 t a1 G Q) : WP M_TM_pieceOwner 0 0 0 [some (.ref t), some (.int a1)] [] G Q := WP.ofV (T := T_TM_pieceOwner) (hh := []) rfl rfl [] 10 h
theorem E_TM_pieceOwner {t : Nat} {a1 : Int32} {G : GH} {K : Int32 → GH → Prop} {KX : String → GH → Prop} (h : V_TM_pieceOwner_0 t a1 G (gQi K KX)) : CI M_TM_pieceOwner [.ref t, .int a1] G K KX := CI.of rfl rfl rfl (V_TM_pieceOwner_0_ok h)
def V_TM_piecePoints_0 (t : Nat) (a1 : Int32) (G : GH) (Q : GQ) : Prop :=
  CI M_TM_ofPiece [.ref t, .int a1, .int (nI 5)] G (fun (x2 : Int32) (G1 : GH) =>
    Q.1 x2 G1) gNo
set_option maxRecDepth 100000 in
theorem V_TM_piecePoints_0_ok {t : Nat} {a1 : Int32} {G : GH} {Q : GQ} (h : V_TM_piecePoints_0 t a1 G Q) : WP M_TM_piecePoints 0 0 0 [some (.ref t), some (.int a1)] [] G Q := WP.ofV (T := T_TM_piecePoints) (hh := []) rfl rfl [] 10 h
theorem E_TM_piecePoints {t : Nat} {a1 : Int32} {G : GH} {K : Int32 → GH → Prop} {KX : String → GH → Prop} (h : V_TM_piecePoints_0 t a1 G (gQi K KX)) : CI M_TM_piecePoints [.ref t, .int a1] G K KX := CI.of rfl rfl rfl (V_TM_piecePoints_0_ok h)
def V_TM_playerToMove_0 (t : Nat) (G : GH) (Q : GQ) : Prop :=
  CI M_TM_over [.ref t] G (fun (x2 : Int32) (G1 : GH) =>
    if x2 = (nI 0) then
      ∃ (fs3 : List Value) (r4 : Nat), G1.2 t = some (.inl (11, fs3)) ∧ fs3[0]? = some (.ref r4) ∧
      ∃ (m5 : Nat) (f6 : Nat → Int32), G1.2 r4 = some (.inr (.int, m5, .inl f6)) ∧ vp_in (nI 2) m5 ∧
      CI M_TM_told [.ref t, .int (f6 (nI 2).toNatClampNeg)] G1 (fun (x8 : Int32) (G7 : GH) =>
        Q.1 x8 G7) gNo
    else
      CI M_TM_told [.ref t, .int (-nI 1)] G1 (fun (x10 : Int32) (G9 : GH) =>
        Q.1 x10 G9) gNo) gNo
set_option maxRecDepth 100000 in
theorem V_TM_playerToMove_0_ok {t : Nat} {G : GH} {Q : GQ} (h : V_TM_playerToMove_0 t G Q) : WP M_TM_playerToMove 0 0 0 [some (.ref t)] [] G Q := WP.ofV (T := T_TM_playerToMove) (hh := []) rfl rfl [] 17 h
theorem E_TM_playerToMove {t : Nat} {G : GH} {K : Int32 → GH → Prop} {KX : String → GH → Prop} (h : V_TM_playerToMove_0 t G (gQi K KX)) : CI M_TM_playerToMove [.ref t] G K KX := CI.of rfl rfl rfl (V_TM_playerToMove_0_ok h)
def V_TM_isOver_0 (t : Nat) (G : GH) (Q : GQ) : Prop :=
  t < gRB ∧ ∃ (fs1 : List Value), G.2 t = some (.inl (11, fs1)) ∧ gFit 0 (.int (nI 0)) ∧
  let G2 : GH := gU G t (.inl (11, fs1.set 7 (.int (nI 0))));
  CI M_TM_over [.ref t] G2 (fun (x4 : Int32) (G3 : GH) =>
    (x4 = nI 0 ∨ x4 = nI 1) ∧ Q.1 x4 G3) gNo
set_option maxRecDepth 100000 in
theorem V_TM_isOver_0_ok {t : Nat} {G : GH} {Q : GQ} (h : V_TM_isOver_0 t G Q) : WP M_TM_isOver 0 0 0 [some (.ref t)] [] G Q := WP.ofV (T := T_TM_isOver) (hh := []) rfl rfl [] 11 h
theorem E_TM_isOver {t : Nat} {G : GH} {K : Int32 → GH → Prop} {KX : String → GH → Prop} (h : V_TM_isOver_0 t G (gQi K KX)) : CI M_TM_isOver [.ref t] G K KX := CI.of rfl rfl rfl (V_TM_isOver_0_ok h)
def V_TM_leader_0 (t : Nat) (G : GH) (Q : GQ) : Prop :=
  t < gRB ∧ ∃ (fs1 : List Value), G.2 t = some (.inl (11, fs1)) ∧ gFit 0 (.int (nI 0)) ∧
  let G2 : GH := gU G t (.inl (11, fs1.set 7 (.int (nI 0))));
  CI M_TM_of [.ref t, .int (nI 0), .int (nI 0)] G2 (fun (x4 : Int32) (G3 : GH) =>
    CI M_TM_of [.ref t, .int (nI 1), .int (nI 0)] G3 (fun (x6 : Int32) (G5 : GH) =>
      if (x4 - x6) = (nI 0) then
        Q.1 (-nI 1) G5
      else
        if (nI 0) < (x4 - x6) then
          Q.1 (nI 0) G5
        else
          Q.1 (nI 1) G5) gNo) gNo
set_option maxRecDepth 100000 in
theorem V_TM_leader_0_ok {t : Nat} {G : GH} {Q : GQ} (h : V_TM_leader_0 t G Q) : WP M_TM_leader 0 0 0 [some (.ref t), none] [] G Q := WP.ofV (T := T_TM_leader) (hh := []) rfl rfl [] 28 h
theorem E_TM_leader {t : Nat} {G : GH} {K : Int32 → GH → Prop} {KX : String → GH → Prop} (h : V_TM_leader_0 t G (gQi K KX)) : CI M_TM_leader [.ref t] G K KX := CI.of rfl rfl rfl (V_TM_leader_0_ok h)
def V_TM_score_0 (t : Nat) (a1 : Int32) (G : GH) (Q : GQ) : Prop :=
  CI M_TM_noPlayer [.int a1] G (fun (x2 : Int32) (G1 : GH) =>
    CI M_TM_fails [.ref t, .int x2, .int (nI 0), .int (nI 0)] G1 (fun (x4 : Int32) (G3 : GH) =>
      if x4 = (nI 0) then
        CI M_TM_of [.ref t, .int a1, .int (nI 0)] G3 (fun (x6 : Int32) (G5 : GH) =>
          Q.1 x6 G5) gNo
      else
        Q.1 (nI 0) G3) gNo) gNo
set_option maxRecDepth 100000 in
theorem V_TM_score_0_ok {t : Nat} {a1 : Int32} {G : GH} {Q : GQ} (h : V_TM_score_0 t a1 G Q) : WP M_TM_score 0 0 0 [some (.ref t), some (.int a1)] [] G Q := WP.ofV (T := T_TM_score) (hh := []) rfl rfl [] 19 h
theorem E_TM_score {t : Nat} {a1 : Int32} {G : GH} {K : Int32 → GH → Prop} {KX : String → GH → Prop} (h : V_TM_score_0 t a1 G (gQi K KX)) : CI M_TM_score [.ref t, .int a1] G K KX := CI.of rfl rfl rfl (V_TM_score_0_ok h)
def V_TM_supply_0 (t : Nat) (a1 : Int32) (a2 : Int32) (G : GH) (Q : GQ) : Prop :=
  CI M_TM_noPlayer [.int a1] G (fun (x2 : Int32) (G1 : GH) =>
    CI M_TM_noShape [.int a2] G1 (fun (x4 : Int32) (G3 : GH) =>
      CI M_TM_fails [.ref t, .int x2, .int x4, .int (nI 0)] G3 (fun (x6 : Int32) (G5 : GH) =>
        if x6 = (nI 0) then
          CI M_TM_of [.ref t, .int a1, .int ((nI 2) + a2)] G5 (fun (x8 : Int32) (G7 : GH) =>
            Q.1 x8 G7) gNo
        else
          Q.1 (nI 0) G5) gNo) gNo) gNo
set_option maxRecDepth 100000 in
theorem V_TM_supply_0_ok {t : Nat} {a1 : Int32} {a2 : Int32} {G : GH} {Q : GQ} (h : V_TM_supply_0 t a1 a2 G Q) : WP M_TM_supply 0 0 0 [some (.ref t), some (.int a1), some (.int a2)] [] G Q := WP.ofV (T := T_TM_supply) (hh := []) rfl rfl [] 22 h
theorem E_TM_supply {t : Nat} {a1 : Int32} {a2 : Int32} {G : GH} {K : Int32 → GH → Prop} {KX : String → GH → Prop} (h : V_TM_supply_0 t a1 a2 G (gQi K KX)) : CI M_TM_supply [.ref t, .int a1, .int a2] G K KX := CI.of rfl rfl rfl (V_TM_supply_0_ok h)
def V_TM_strapsLeft_0 (t : Nat) (a1 : Int32) (G : GH) (Q : GQ) : Prop :=
  CI M_TM_noPlayer [.int a1] G (fun (x2 : Int32) (G1 : GH) =>
    CI M_TM_fails [.ref t, .int x2, .int (nI 0), .int (nI 0)] G1 (fun (x4 : Int32) (G3 : GH) =>
      if x4 = (nI 0) then
        CI M_TM_of [.ref t, .int a1, .int (nI 1)] G3 (fun (x6 : Int32) (G5 : GH) =>
          Q.1 x6 G5) gNo
      else
        Q.1 (nI 0) G3) gNo) gNo
set_option maxRecDepth 100000 in
theorem V_TM_strapsLeft_0_ok {t : Nat} {a1 : Int32} {G : GH} {Q : GQ} (h : V_TM_strapsLeft_0 t a1 G Q) : WP M_TM_strapsLeft 0 0 0 [some (.ref t), some (.int a1)] [] G Q := WP.ofV (T := T_TM_strapsLeft) (hh := []) rfl rfl [] 19 h
theorem E_TM_strapsLeft {t : Nat} {a1 : Int32} {G : GH} {K : Int32 → GH → Prop} {KX : String → GH → Prop} (h : V_TM_strapsLeft_0 t a1 G (gQi K KX)) : CI M_TM_strapsLeft [.ref t, .int a1] G K KX := CI.of rfl rfl rfl (V_TM_strapsLeft_0_ok h)
def V_TM_nameByte_0 (t : Nat) (a1 : Int32) (a2 : Int32) (G : GH) (Q : GQ) : Prop :=
  CI M_TM_noPlayer [.int a1] G (fun (x2 : Int32) (G1 : GH) =>
    CI M_TM_fails [.ref t, .int x2, .int (nI 0), .int (nI 0)] G1 (fun (x4 : Int32) (G3 : GH) =>
      if x4 = (nI 0) then
        CI M_TM_of [.ref t, .int a1, .int (nI 7)] G3 (fun (x6 : Int32) (G5 : GH) =>
          CI M_TM_isIn [.int a2, .int (nI 0), .int (x6 - (nI 1))] G5 (fun (x8 : Int32) (G7 : GH) =>
            if x8 = (nI 0) then
              Q.1 (-nI 1) G7
            else
              CI M_TM_of [.ref t, .int a1, .int ((nI 8) + a2)] G7 (fun (x10 : Int32) (G9 : GH) =>
                Q.1 x10 G9) gNo) gNo) gNo
      else
        Q.1 (nI 0) G3) gNo) gNo
set_option maxRecDepth 100000 in
theorem V_TM_nameByte_0_ok {t : Nat} {a1 : Int32} {a2 : Int32} {G : GH} {Q : GQ} (h : V_TM_nameByte_0 t a1 a2 G Q) : WP M_TM_nameByte 0 0 0 [some (.ref t), some (.int a1), some (.int a2)] [] G Q := WP.ofV (T := T_TM_nameByte) (hh := []) rfl rfl [] 33 h
theorem E_TM_nameByte {t : Nat} {a1 : Int32} {a2 : Int32} {G : GH} {K : Int32 → GH → Prop} {KX : String → GH → Prop} (h : V_TM_nameByte_0 t a1 a2 G (gQi K KX)) : CI M_TM_nameByte [.ref t, .int a1, .int a2] G K KX := CI.of rfl rfl rfl (V_TM_nameByte_0_ok h)
def V_TM_isBad_0 (t : Nat) (a1 : Int32) (a2 : Int32) (a3 : Int32) (a4 : Int32) (G : GH) (Q : GQ) : Prop :=
  CI M_TM_noShape [.int a1] G (fun (x2 : Int32) (G1 : GH) =>
    if x2 = (nI 0) then
      CI M_TM_noTurn [.int a2] G1 (fun (x4 : Int32) (G3 : GH) =>
        if x4 = (nI 0) then
          WP M_TM_isBad 0 0 20 [some (.ref t), some (.int a1), some (.int a2), some (.int a3), some (.int a4)] [.int (nI 0), .ref t] G3 Q
        else
          WP M_TM_isBad 0 0 20 [some (.ref t), some (.int a1), some (.int a2), some (.int a3), some (.int a4)] [.int (nI 1), .ref t] G3 Q) gNo
    else
      WP M_TM_isBad 0 0 20 [some (.ref t), some (.int a1), some (.int a2), some (.int a3), some (.int a4)] [.int (nI 1), .ref t] G1 Q) gNo
set_option maxRecDepth 100000 in
theorem V_TM_isBad_0_ok {t : Nat} {a1 : Int32} {a2 : Int32} {a3 : Int32} {a4 : Int32} {G : GH} {Q : GQ} (h : V_TM_isBad_0 t a1 a2 a3 a4 G Q) : WP M_TM_isBad 0 0 0 [some (.ref t), some (.int a1), some (.int a2), some (.int a3), some (.int a4)] [] G Q := WP.ofV (T := T_TM_isBad) (hh := []) rfl rfl [(20, [true, true, true, true, true]), (35, [true, true, true, true, true])] 26 h
theorem E_TM_isBad {t : Nat} {a1 : Int32} {a2 : Int32} {a3 : Int32} {a4 : Int32} {G : GH} {K : Int32 → GH → Prop} {KX : String → GH → Prop} (h : V_TM_isBad_0 t a1 a2 a3 a4 G (gQi K KX)) : CI M_TM_isBad [.ref t, .int a1, .int a2, .int a3, .int a4] G K KX := CI.of rfl rfl rfl (V_TM_isBad_0_ok h)
def V_TM_isBad_20 (t : Nat) (a1 : Int32) (a2 : Int32) (a3 : Int32) (a4 : Int32) (s0 : Int32) (s1 : Nat) (G : GH) (Q : GQ) : Prop :=
  CI M_TM_isInside [.ref t, .int a3, .int a4] G (fun (x2 : Int32) (G1 : GH) =>
    if x2 = (nI 0) then
      WP M_TM_isBad 0 0 35 [some (.ref t), some (.int a1), some (.int a2), some (.int a3), some (.int a4)] [.int (nI 1), .int s0, .ref s1] G1 Q
    else
      WP M_TM_isBad 0 0 35 [some (.ref t), some (.int a1), some (.int a2), some (.int a3), some (.int a4)] [.int (nI 0), .int s0, .ref s1] G1 Q) gNo
set_option maxRecDepth 100000 in
theorem V_TM_isBad_20_ok {t : Nat} {a1 : Int32} {a2 : Int32} {a3 : Int32} {a4 : Int32} {s0 : Int32} {s1 : Nat} {G : GH} {Q : GQ} (h : V_TM_isBad_20 t a1 a2 a3 a4 s0 s1 G Q) : WP M_TM_isBad 0 0 20 [some (.ref t), some (.int a1), some (.int a2), some (.int a3), some (.int a4)] [.int s0, .ref s1] G Q := WP.ofV (T := T_TM_isBad) (hh := []) rfl rfl [(20, [true, true, true, true, true]), (35, [true, true, true, true, true])] 26 h
def V_TM_isBad_35 (t : Nat) (a1 : Int32) (a2 : Int32) (a3 : Int32) (a4 : Int32) (s0 : Int32) (s1 : Int32) (s2 : Nat) (G : GH) (Q : GQ) : Prop :=
  CI M_TM_fails [.ref s2, .int s1, .int s0, .int (nI 0)] G (fun (x2 : Int32) (G1 : GH) =>
    (x2 = nI 0 ∨ x2 = nI 1) ∧ Q.1 x2 G1) gNo
set_option maxRecDepth 100000 in
theorem V_TM_isBad_35_ok {t : Nat} {a1 : Int32} {a2 : Int32} {a3 : Int32} {a4 : Int32} {s0 : Int32} {s1 : Int32} {s2 : Nat} {G : GH} {Q : GQ} (h : V_TM_isBad_35 t a1 a2 a3 a4 s0 s1 s2 G Q) : WP M_TM_isBad 0 0 35 [some (.ref t), some (.int a1), some (.int a2), some (.int a3), some (.int a4)] [.int s0, .int s1, .ref s2] G Q := WP.ofV (T := T_TM_isBad) (hh := []) rfl rfl [(20, [true, true, true, true, true]), (35, [true, true, true, true, true])] 26 h
def V_TM_fits_0 (t : Nat) (a1 : Int32) (a2 : Int32) (a3 : Int32) (a4 : Int32) (G : GH) (Q : GQ) : Prop :=
  CI M_TM_isBad [.ref t, .int a1, .int a2, .int a3, .int a4] G (fun (x2 : Int32) (G1 : GH) =>
    if x2 = (nI 0) then
      CI M_TM_misfit [.ref t, .int a1, .int a2, .int a3, .int a4] G1 (fun (x4 : Int32) (G3 : GH) =>
        if x4 = (nI 0) then
          ((nI 1) = nI 0 ∨ (nI 1) = nI 1) ∧ Q.1 (nI 1) G3
        else
          ((nI 0) = nI 0 ∨ (nI 0) = nI 1) ∧ Q.1 (nI 0) G3) gNo
    else
      ((nI 0) = nI 0 ∨ (nI 0) = nI 1) ∧ Q.1 (nI 0) G1) gNo
set_option maxRecDepth 100000 in
theorem V_TM_fits_0_ok {t : Nat} {a1 : Int32} {a2 : Int32} {a3 : Int32} {a4 : Int32} {G : GH} {Q : GQ} (h : V_TM_fits_0 t a1 a2 a3 a4 G Q) : WP M_TM_fits 0 0 0 [some (.ref t), some (.int a1), some (.int a2), some (.int a3), some (.int a4)] [] G Q := WP.ofV (T := T_TM_fits) (hh := []) rfl rfl [] 23 h
theorem E_TM_fits {t : Nat} {a1 : Int32} {a2 : Int32} {a3 : Int32} {a4 : Int32} {G : GH} {K : Int32 → GH → Prop} {KX : String → GH → Prop} (h : V_TM_fits_0 t a1 a2 a3 a4 G (gQi K KX)) : CI M_TM_fits [.ref t, .int a1, .int a2, .int a3, .int a4] G K KX := CI.of rfl rfl rfl (V_TM_fits_0_ok h)
def V_TM_misfitReason_0 (t : Nat) (a1 : Int32) (a2 : Int32) (a3 : Int32) (a4 : Int32) (G : GH) (Q : GQ) : Prop :=
  CI M_TM_isBad [.ref t, .int a1, .int a2, .int a3, .int a4] G (fun (x2 : Int32) (G1 : GH) =>
    if x2 = (nI 0) then
      CI M_TM_misfit [.ref t, .int a1, .int a2, .int a3, .int a4] G1 (fun (x4 : Int32) (G3 : GH) =>
        Q.1 x4 G3) gNo
    else
      Q.1 (nI 0) G1) gNo
set_option maxRecDepth 100000 in
theorem V_TM_misfitReason_0_ok {t : Nat} {a1 : Int32} {a2 : Int32} {a3 : Int32} {a4 : Int32} {G : GH} {Q : GQ} (h : V_TM_misfitReason_0 t a1 a2 a3 a4 G Q) : WP M_TM_misfitReason 0 0 0 [some (.ref t), some (.int a1), some (.int a2), some (.int a3), some (.int a4)] [] G Q := WP.ofV (T := T_TM_misfitReason) (hh := []) rfl rfl [] 21 h
theorem E_TM_misfitReason {t : Nat} {a1 : Int32} {a2 : Int32} {a3 : Int32} {a4 : Int32} {G : GH} {K : Int32 → GH → Prop} {KX : String → GH → Prop} (h : V_TM_misfitReason_0 t a1 a2 a3 a4 G (gQi K KX)) : CI M_TM_misfitReason [.ref t, .int a1, .int a2, .int a3, .int a4] G K KX := CI.of rfl rfl rfl (V_TM_misfitReason_0_ok h)
def V_TM_pointsFor_0 (t : Nat) (a1 : Int32) (a2 : Int32) (a3 : Int32) (a4 : Int32) (G : GH) (Q : GQ) : Prop :=
  CI M_TM_isBad [.ref t, .int a1, .int a2, .int a3, .int a4] G (fun (x2 : Int32) (G1 : GH) =>
    if x2 = (nI 0) then
      CI M_TM_misfit [.ref t, .int a1, .int a2, .int a3, .int a4] G1 (fun (x4 : Int32) (G3 : GH) =>
        if x4 = (nI 0) then
          CI M_TM_points [.ref t, .int a1, .int a2, .int a3, .int a4] G3 (fun (x6 : Int32) (G5 : GH) =>
            Q.1 x6 G5) gNo
        else
          Q.1 (-nI 1) G3) gNo
    else
      Q.1 (nI 0) G1) gNo
set_option maxRecDepth 100000 in
theorem V_TM_pointsFor_0_ok {t : Nat} {a1 : Int32} {a2 : Int32} {a3 : Int32} {a4 : Int32} {G : GH} {Q : GQ} (h : V_TM_pointsFor_0 t a1 a2 a3 a4 G Q) : WP M_TM_pointsFor 0 0 0 [some (.ref t), some (.int a1), some (.int a2), some (.int a3), some (.int a4)] [] G Q := WP.ofV (T := T_TM_pointsFor) (hh := []) rfl rfl [] 30 h
theorem E_TM_pointsFor {t : Nat} {a1 : Int32} {a2 : Int32} {a3 : Int32} {a4 : Int32} {G : GH} {K : Int32 → GH → Prop} {KX : String → GH → Prop} (h : V_TM_pointsFor_0 t a1 a2 a3 a4 G (gQi K KX)) : CI M_TM_pointsFor [.ref t, .int a1, .int a2, .int a3, .int a4] G K KX := CI.of rfl rfl rfl (V_TM_pointsFor_0_ok h)
def V_TM_mobility_0 (t : Nat) (a1 : Int32) (G : GH) (Q : GQ) : Prop :=
  CI M_TM_noPlayer [.int a1] G (fun (x2 : Int32) (G1 : GH) =>
    CI M_TM_fails [.ref t, .int x2, .int (nI 0), .int (nI 0)] G1 (fun (x4 : Int32) (G3 : GH) =>
      if x4 = (nI 0) then
        CI M_TM_moves [.ref t, .int a1] G3 (fun (x6 : Int32) (G5 : GH) =>
          Q.1 x6 G5) gNo
      else
        Q.1 (nI 0) G3) gNo) gNo
set_option maxRecDepth 100000 in
theorem V_TM_mobility_0_ok {t : Nat} {a1 : Int32} {G : GH} {Q : GQ} (h : V_TM_mobility_0 t a1 G Q) : WP M_TM_mobility 0 0 0 [some (.ref t), some (.int a1)] [] G Q := WP.ofV (T := T_TM_mobility) (hh := []) rfl rfl [] 18 h
theorem E_TM_mobility {t : Nat} {a1 : Int32} {G : GH} {K : Int32 → GH → Prop} {KX : String → GH → Prop} (h : V_TM_mobility_0 t a1 G (gQi K KX)) : CI M_TM_mobility [.ref t, .int a1] G K KX := CI.of rfl rfl rfl (V_TM_mobility_0_ok h)
def V_TM_fittingPlacements_0 (t : Nat) (a1 : Int32) (G : GH) (Q : GQ) : Prop :=
  CI M_TM_noShape [.int a1] G (fun (x2 : Int32) (G1 : GH) =>
    CI M_TM_fails [.ref t, .int x2, .int (nI 0), .int (nI 0)] G1 (fun (x4 : Int32) (G3 : GH) =>
      if x4 = (nI 0) then
        CI M_TM_fitting [.ref t, .int a1] G3 (fun (x6 : Int32) (G5 : GH) =>
          Q.1 x6 G5) gNo
      else
        Q.1 (nI 0) G3) gNo) gNo
set_option maxRecDepth 100000 in
theorem V_TM_fittingPlacements_0_ok {t : Nat} {a1 : Int32} {G : GH} {Q : GQ} (h : V_TM_fittingPlacements_0 t a1 G Q) : WP M_TM_fittingPlacements 0 0 0 [some (.ref t), some (.int a1)] [] G Q := WP.ofV (T := T_TM_fittingPlacements) (hh := []) rfl rfl [] 18 h
theorem E_TM_fittingPlacements {t : Nat} {a1 : Int32} {G : GH} {K : Int32 → GH → Prop} {KX : String → GH → Prop} (h : V_TM_fittingPlacements_0 t a1 G (gQi K KX)) : CI M_TM_fittingPlacements [.ref t, .int a1] G K KX := CI.of rfl rfl rfl (V_TM_fittingPlacements_0_ok h)
def V_TM_tryOut_0 (t : Nat) (G : GH) (Q : GQ) : Prop :=
  ∃ (fs1 : List Value) (r2 : Nat), G.2 t = some (.inl (11, fs1)) ∧ fs1[0]? = some (.ref r2) ∧
  ∃ (fs3 : List Value) (r4 : Nat), G.2 t = some (.inl (11, fs3)) ∧ fs3[1]? = some (.ref r4) ∧
  CV M_TM_copy [.ref r2, .int (nI 0), .ref r4, .int (nI 0)] G (fun (G5 : GH) =>
    Q.2.1 G5) gNo
set_option maxRecDepth 100000 in
theorem V_TM_tryOut_0_ok {t : Nat} {G : GH} {Q : GQ} (h : V_TM_tryOut_0 t G Q) : WP M_TM_tryOut 0 0 0 [some (.ref t)] [] G Q := WP.ofV (T := T_TM_tryOut) (hh := []) rfl rfl [] 13 h
theorem E_TM_tryOut {t : Nat} {G : GH} {K : GH → Prop} {KX : String → GH → Prop} (h : V_TM_tryOut_0 t G (gQv K KX)) : CV M_TM_tryOut [.ref t] G K KX := CV.of rfl rfl rfl (V_TM_tryOut_0_ok h)
def V_TM_laidBack_0 (t : Nat) (a1 : Int32) (G : GH) (Q : GQ) : Prop :=
  ∃ (fs1 : List Value) (r2 : Nat), G.2 t = some (.inl (11, fs1)) ∧ fs1[1]? = some (.ref r2) ∧
  ∃ (fs3 : List Value) (r4 : Nat), G.2 t = some (.inl (11, fs3)) ∧ fs3[0]? = some (.ref r4) ∧
  CV M_TM_copy [.ref r2, .int (nI 0), .ref r4, .int (nI 0)] G (fun (G5 : GH) =>
    Q.1 a1 G5) gNo
set_option maxRecDepth 100000 in
theorem V_TM_laidBack_0_ok {t : Nat} {a1 : Int32} {G : GH} {Q : GQ} (h : V_TM_laidBack_0 t a1 G Q) : WP M_TM_laidBack 0 0 0 [some (.ref t), some (.int a1)] [] G Q := WP.ofV (T := T_TM_laidBack) (hh := []) rfl rfl [] 14 h
theorem E_TM_laidBack {t : Nat} {a1 : Int32} {G : GH} {K : Int32 → GH → Prop} {KX : String → GH → Prop} (h : V_TM_laidBack_0 t a1 G (gQi K KX)) : CI M_TM_laidBack [.ref t, .int a1] G K KX := CI.of rfl rfl rfl (V_TM_laidBack_0_ok h)
def V_TM_mobilityAfter_0 (t : Nat) (a1 : Int32) (a2 : Int32) (a3 : Int32) (a4 : Int32) (a5 : Int32) (G : GH) (Q : GQ) : Prop :=
  CI M_TM_noShape [.int a1] G (fun (x2 : Int32) (G1 : GH) =>
    if x2 = (nI 0) then
      CI M_TM_noTurn [.int a2] G1 (fun (x4 : Int32) (G3 : GH) =>
        if x4 = (nI 0) then
          WP M_TM_mobilityAfter 0 0 20 [some (.ref t), some (.int a1), some (.int a2), some (.int a3), some (.int a4), some (.int a5), none] [.int (nI 0), .ref t] G3 Q
        else
          WP M_TM_mobilityAfter 0 0 20 [some (.ref t), some (.int a1), some (.int a2), some (.int a3), some (.int a4), some (.int a5), none] [.int (nI 1), .ref t] G3 Q) gNo
    else
      WP M_TM_mobilityAfter 0 0 20 [some (.ref t), some (.int a1), some (.int a2), some (.int a3), some (.int a4), some (.int a5), none] [.int (nI 1), .ref t] G1 Q) gNo
set_option maxRecDepth 100000 in
theorem V_TM_mobilityAfter_0_ok {t : Nat} {a1 : Int32} {a2 : Int32} {a3 : Int32} {a4 : Int32} {a5 : Int32} {G : GH} {Q : GQ} (h : V_TM_mobilityAfter_0 t a1 a2 a3 a4 a5 G Q) : WP M_TM_mobilityAfter 0 0 0 [some (.ref t), some (.int a1), some (.int a2), some (.int a3), some (.int a4), some (.int a5), none] [] G Q := WP.ofV (T := T_TM_mobilityAfter) (hh := []) rfl rfl [(20, [true, true, true, true, true, true, false]), (43, [true, true, true, true, true, true, false])] 55 h
theorem E_TM_mobilityAfter {t : Nat} {a1 : Int32} {a2 : Int32} {a3 : Int32} {a4 : Int32} {a5 : Int32} {G : GH} {K : Int32 → GH → Prop} {KX : String → GH → Prop} (h : V_TM_mobilityAfter_0 t a1 a2 a3 a4 a5 G (gQi K KX)) : CI M_TM_mobilityAfter [.ref t, .int a1, .int a2, .int a3, .int a4, .int a5] G K KX := CI.of rfl rfl rfl (V_TM_mobilityAfter_0_ok h)
def V_TM_mobilityAfter_20 (t : Nat) (a1 : Int32) (a2 : Int32) (a3 : Int32) (a4 : Int32) (a5 : Int32) (s0 : Int32) (s1 : Nat) (G : GH) (Q : GQ) : Prop :=
  CI M_TM_isInside [.ref t, .int a3, .int a4] G (fun (x2 : Int32) (G1 : GH) =>
    if x2 = (nI 0) then
      WP M_TM_mobilityAfter 0 0 43 [some (.ref t), some (.int a1), some (.int a2), some (.int a3), some (.int a4), some (.int a5), none] [.int (nI 1), .int s0, .ref s1] G1 Q
    else
      CI M_TM_noPlayer [.int a5] G1 (fun (x4 : Int32) (G3 : GH) =>
        if x4 = (nI 0) then
          WP M_TM_mobilityAfter 0 0 43 [some (.ref t), some (.int a1), some (.int a2), some (.int a3), some (.int a4), some (.int a5), none] [.int (nI 0), .int s0, .ref s1] G3 Q
        else
          WP M_TM_mobilityAfter 0 0 43 [some (.ref t), some (.int a1), some (.int a2), some (.int a3), some (.int a4), some (.int a5), none] [.int (nI 1), .int s0, .ref s1] G3 Q) gNo) gNo
set_option maxRecDepth 100000 in
theorem V_TM_mobilityAfter_20_ok {t : Nat} {a1 : Int32} {a2 : Int32} {a3 : Int32} {a4 : Int32} {a5 : Int32} {s0 : Int32} {s1 : Nat} {G : GH} {Q : GQ} (h : V_TM_mobilityAfter_20 t a1 a2 a3 a4 a5 s0 s1 G Q) : WP M_TM_mobilityAfter 0 0 20 [some (.ref t), some (.int a1), some (.int a2), some (.int a3), some (.int a4), some (.int a5), none] [.int s0, .ref s1] G Q := WP.ofV (T := T_TM_mobilityAfter) (hh := []) rfl rfl [(20, [true, true, true, true, true, true, false]), (43, [true, true, true, true, true, true, false])] 55 h
def V_TM_mobilityAfter_43 (t : Nat) (a1 : Int32) (a2 : Int32) (a3 : Int32) (a4 : Int32) (a5 : Int32) (s0 : Int32) (s1 : Int32) (s2 : Nat) (G : GH) (Q : GQ) : Prop :=
  CI M_TM_fails [.ref s2, .int s1, .int s0, .int (nI 0)] G (fun (x2 : Int32) (G1 : GH) =>
    if x2 = (nI 0) then
      CI M_TM_mayPlace [.ref t, .int a1, .int a2, .int a3, .int a4] G1 (fun (x4 : Int32) (G3 : GH) =>
        if x4 = (nI 0) then
          Q.1 (-nI 1) G3
        else
          CV M_TM_tryOut [.ref t] G3 (fun (G5 : GH) =>
            CI M_TM_places [.ref t, .int a1, .int a2, .int a3, .int a4] G5 (fun (x7 : Int32) (G6 : GH) =>
              CI M_TM_moves [.ref t, .int a5] G6 (fun (x9 : Int32) (G8 : GH) =>
                CI M_TM_laidBack [.ref t, .int x9] G8 (fun (x11 : Int32) (G10 : GH) =>
                  Q.1 x11 G10) gNo) gNo) gNo) gNo) gNo
    else
      Q.1 (nI 0) G1) gNo
set_option maxRecDepth 100000 in
theorem V_TM_mobilityAfter_43_ok {t : Nat} {a1 : Int32} {a2 : Int32} {a3 : Int32} {a4 : Int32} {a5 : Int32} {s0 : Int32} {s1 : Int32} {s2 : Nat} {G : GH} {Q : GQ} (h : V_TM_mobilityAfter_43 t a1 a2 a3 a4 a5 s0 s1 s2 G Q) : WP M_TM_mobilityAfter 0 0 43 [some (.ref t), some (.int a1), some (.int a2), some (.int a3), some (.int a4), some (.int a5), none] [.int s0, .int s1, .ref s2] G Q := WP.ofV (T := T_TM_mobilityAfter) (hh := []) rfl rfl [(20, [true, true, true, true, true, true, false]), (43, [true, true, true, true, true, true, false])] 55 h
def V_TM_findBest_0 (t : Nat) (G : GH) (Q : GQ) : Prop :=
  t < gRB ∧ ∃ (fs1 : List Value), G.2 t = some (.inl (11, fs1)) ∧ gFit 0 (.int (nI 0)) ∧
  let G2 : GH := gU G t (.inl (11, fs1.set 7 (.int (nI 0))));
  t < gRB ∧ ∃ (fs3 : List Value), G2.2 t = some (.inl (11, fs3)) ∧ gFit 0 (.int (-nI 1)) ∧
  let G4 : GH := gU G2 t (.inl (11, fs3.set 24 (.int (-nI 1))));
  t < gRB ∧ ∃ (fs5 : List Value), G4.2 t = some (.inl (11, fs5)) ∧ gFit 0 (.int (-nI 1)) ∧
  let G6 : GH := gU G4 t (.inl (11, fs5.set 25 (.int (-nI 1))));
  t < gRB ∧ ∃ (fs7 : List Value), G6.2 t = some (.inl (11, fs7)) ∧ gFit 0 (.int (-nI 1)) ∧
  let G8 : GH := gU G6 t (.inl (11, fs7.set 26 (.int (-nI 1))));
  t < gRB ∧ ∃ (fs9 : List Value), G8.2 t = some (.inl (11, fs9)) ∧ gFit 0 (.int (-nI 1)) ∧
  let G10 : GH := gU G8 t (.inl (11, fs9.set 27 (.int (-nI 1))));
  WP M_TM_findBest 0 0 25 [some (.ref t), none, none, none] [] G10 Q
set_option maxRecDepth 100000 in
theorem V_TM_findBest_0_ok {t : Nat} {G : GH} {Q : GQ} (h : V_TM_findBest_0 t G Q) : WP M_TM_findBest 0 0 0 [some (.ref t), none, none, none] [] G Q := WP.ofV (T := T_TM_findBest) (hh := []) rfl rfl [(25, [true, false, false, false]), (29, [true, true, true, false]), (62, [true, true, true, true])] 57 h
theorem E_TM_findBest {t : Nat} {G : GH} {K : GH → Prop} {KX : String → GH → Prop} (h : V_TM_findBest_0 t G (gQv K KX)) : CV M_TM_findBest [.ref t] G K KX := CV.of rfl rfl rfl (V_TM_findBest_0_ok h)
def V_TM_findBest_25 (t : Nat) (G : GH) (Q : GQ) : Prop :=
  WP M_TM_findBest 0 0 29 [some (.ref t), some (.int (nI 0)), some (.int (nI 0)), none] [] G Q
set_option maxRecDepth 100000 in
theorem V_TM_findBest_25_ok {t : Nat} {G : GH} {Q : GQ} (h : V_TM_findBest_25 t G Q) : WP M_TM_findBest 0 0 25 [some (.ref t), none, none, none] [] G Q := WP.ofV (T := T_TM_findBest) (hh := []) rfl rfl [(25, [true, false, false, false]), (29, [true, true, true, false]), (62, [true, true, true, true])] 57 h
def V_TM_findBest_29 (t : Nat) (a1 : Int32) (a2 : Int32) (G : GH) (Q : GQ) : Prop :=
  if a2 < (nI 5) then
    CI M_TM_over [.ref t] G (fun (x2 : Int32) (G1 : GH) =>
      if x2 = (nI 0) then
        ∃ (fs3 : List Value) (r4 : Nat), G1.2 t = some (.inl (11, fs3)) ∧ fs3[0]? = some (.ref r4) ∧
        ∃ (m5 : Nat) (f6 : Nat → Int32), G1.2 r4 = some (.inr (.int, m5, .inl f6)) ∧ vp_in (nI 2) m5 ∧
        CI M_TM_of [.ref t, .int (f6 (nI 2).toNatClampNeg), .int ((nI 2) + a2)] G1 (fun (x8 : Int32) (G7 : GH) =>
          if x8 = (nI 0) then
            WP M_TM_findBest 0 0 29 [some (.ref t), some (.int a1), some (.int (a2 + nI 1)), none] [] G7 Q
          else
            WP M_TM_findBest 0 0 62 [some (.ref t), some (.int a1), some (.int a2), some (.int (nI 0))] [] G7 Q) gNo
      else
        Q.2.1 G1) gNo
  else
    Q.2.1 G
set_option maxRecDepth 100000 in
theorem V_TM_findBest_29_ok {t : Nat} {a1 : Int32} {a2 : Int32} {G : GH} {Q : GQ} (h : V_TM_findBest_29 t a1 a2 G Q) : WP M_TM_findBest 0 0 29 [some (.ref t), some (.int a1), some (.int a2), none] [] G Q := WP.ofV (T := T_TM_findBest) (hh := []) rfl rfl [(25, [true, false, false, false]), (29, [true, true, true, false]), (62, [true, true, true, true])] 57 h
def V_TM_findBest_62 (t : Nat) (a1 : Int32) (a2 : Int32) (a3 : Int32) (G : GH) (Q : GQ) : Prop :=
  if a3 < (nI 4) then
    CI M_TM_bestOf [.ref t, .int a2, .int a3, .int a1] G (fun (x2 : Int32) (G1 : GH) =>
      WP M_TM_findBest 0 0 62 [some (.ref t), some (.int x2), some (.int a2), some (.int (a3 + nI 1))] [] G1 Q) gNo
  else
    WP M_TM_findBest 0 0 29 [some (.ref t), some (.int a1), some (.int (a2 + nI 1)), none] [] G Q
set_option maxRecDepth 100000 in
theorem V_TM_findBest_62_ok {t : Nat} {a1 : Int32} {a2 : Int32} {a3 : Int32} {G : GH} {Q : GQ} (h : V_TM_findBest_62 t a1 a2 a3 G Q) : WP M_TM_findBest 0 0 62 [some (.ref t), some (.int a1), some (.int a2), some (.int a3)] [] G Q := WP.ofV (T := T_TM_findBest) (hh := []) rfl rfl [(25, [true, false, false, false]), (29, [true, true, true, false]), (62, [true, true, true, true])] 57 h
def V_TM_bestOf_0 (t : Nat) (a1 : Int32) (a2 : Int32) (a3 : Int32) (G : GH) (Q : GQ) : Prop :=
  WP M_TM_bestOf 0 0 6 [some (.ref t), some (.int a1), some (.int a2), some (.int a3), some (.int a3), some (.int (nI 0)), none, none] [] G Q
set_option maxRecDepth 100000 in
theorem V_TM_bestOf_0_ok {t : Nat} {a1 : Int32} {a2 : Int32} {a3 : Int32} {G : GH} {Q : GQ} (h : V_TM_bestOf_0 t a1 a2 a3 G Q) : WP M_TM_bestOf 0 0 0 [some (.ref t), some (.int a1), some (.int a2), some (.int a3), none, none, none, none] [] G Q := WP.ofV (T := T_TM_bestOf) (hh := []) rfl rfl [(6, [true, true, true, true, true, true, false, false]), (20, [true, true, true, true, true, true, true, false])] 62 h
theorem E_TM_bestOf {t : Nat} {a1 : Int32} {a2 : Int32} {a3 : Int32} {G : GH} {K : Int32 → GH → Prop} {KX : String → GH → Prop} (h : V_TM_bestOf_0 t a1 a2 a3 G (gQi K KX)) : CI M_TM_bestOf [.ref t, .int a1, .int a2, .int a3] G K KX := CI.of rfl rfl rfl (V_TM_bestOf_0_ok h)
def V_TM_bestOf_6 (t : Nat) (a1 : Int32) (a2 : Int32) (a3 : Int32) (a4 : Int32) (a5 : Int32) (G : GH) (Q : GQ) : Prop :=
  ∃ (fs1 : List Value) (r2 : Nat), G.2 t = some (.inl (11, fs1)) ∧ fs1[0]? = some (.ref r2) ∧
  ∃ (m3 : Nat) (f4 : Nat → Int32), G.2 r2 = some (.inr (.int, m3, .inl f4)) ∧ vp_in (nI 1) m3 ∧
  if a5 < (f4 (nI 1).toNatClampNeg) then
    WP M_TM_bestOf 0 0 20 [some (.ref t), some (.int a1), some (.int a2), some (.int a3), some (.int a4), some (.int a5), some (.int (nI 0)), none] [] G Q
  else
    Q.1 a4 G
set_option maxRecDepth 100000 in
theorem V_TM_bestOf_6_ok {t : Nat} {a1 : Int32} {a2 : Int32} {a3 : Int32} {a4 : Int32} {a5 : Int32} {G : GH} {Q : GQ} (h : V_TM_bestOf_6 t a1 a2 a3 a4 a5 G Q) : WP M_TM_bestOf 0 0 6 [some (.ref t), some (.int a1), some (.int a2), some (.int a3), some (.int a4), some (.int a5), none, none] [] G Q := WP.ofV (T := T_TM_bestOf) (hh := []) rfl rfl [(6, [true, true, true, true, true, true, false, false]), (20, [true, true, true, true, true, true, true, false])] 62 h
def V_TM_bestOf_20 (t : Nat) (a1 : Int32) (a2 : Int32) (a3 : Int32) (a4 : Int32) (a5 : Int32) (a6 : Int32) (G : GH) (Q : GQ) : Prop :=
  ∃ (fs1 : List Value) (r2 : Nat), G.2 t = some (.inl (11, fs1)) ∧ fs1[0]? = some (.ref r2) ∧
  ∃ (m3 : Nat) (f4 : Nat → Int32), G.2 r2 = some (.inr (.int, m3, .inl f4)) ∧ vp_in (nI 0) m3 ∧
  if a6 < (f4 (nI 0).toNatClampNeg) then
    CI M_TM_misfit [.ref t, .int a1, .int a2, .int a6, .int a5] G (fun (x6 : Int32) (G5 : GH) =>
      if x6 = (nI 0) then
        CI M_TM_points [.ref t, .int a1, .int a2, .int a6, .int a5] G5 (fun (x8 : Int32) (G7 : GH) =>
          if a4 < x8 then
            t < gRB ∧ ∃ (fs9 : List Value), G7.2 t = some (.inl (11, fs9)) ∧ gFit 0 (.int a1) ∧
            let G10 : GH := gU G7 t (.inl (11, fs9.set 24 (.int a1)));
            t < gRB ∧ ∃ (fs11 : List Value), G10.2 t = some (.inl (11, fs11)) ∧ gFit 0 (.int a2) ∧
            let G12 : GH := gU G10 t (.inl (11, fs11.set 25 (.int a2)));
            t < gRB ∧ ∃ (fs13 : List Value), G12.2 t = some (.inl (11, fs13)) ∧ gFit 0 (.int a6) ∧
            let G14 : GH := gU G12 t (.inl (11, fs13.set 26 (.int a6)));
            t < gRB ∧ ∃ (fs15 : List Value), G14.2 t = some (.inl (11, fs15)) ∧ gFit 0 (.int a5) ∧
            let G16 : GH := gU G14 t (.inl (11, fs15.set 27 (.int a5)));
            WP M_TM_bestOf 0 0 20 [some (.ref t), some (.int a1), some (.int a2), some (.int a3), some (.int x8), some (.int a5), some (.int (a6 + nI 1)), none] [] G16 Q
          else
            WP M_TM_bestOf 0 0 20 [some (.ref t), some (.int a1), some (.int a2), some (.int a3), some (.int a4), some (.int a5), some (.int (a6 + nI 1)), none] [] G7 Q) gNo
      else
        WP M_TM_bestOf 0 0 20 [some (.ref t), some (.int a1), some (.int a2), some (.int a3), some (.int a4), some (.int a5), some (.int (a6 + nI 1)), none] [] G5 Q) gNo
  else
    WP M_TM_bestOf 0 0 6 [some (.ref t), some (.int a1), some (.int a2), some (.int a3), some (.int a4), some (.int (a5 + nI 1)), none, none] [] G Q
set_option maxRecDepth 100000 in
theorem V_TM_bestOf_20_ok {t : Nat} {a1 : Int32} {a2 : Int32} {a3 : Int32} {a4 : Int32} {a5 : Int32} {a6 : Int32} {G : GH} {Q : GQ} (h : V_TM_bestOf_20 t a1 a2 a3 a4 a5 a6 G Q) : WP M_TM_bestOf 0 0 20 [some (.ref t), some (.int a1), some (.int a2), some (.int a3), some (.int a4), some (.int a5), some (.int a6), none] [] G Q := WP.ofV (T := T_TM_bestOf) (hh := []) rfl rfl [(6, [true, true, true, true, true, true, false, false]), (20, [true, true, true, true, true, true, true, false])] 62 h
def V_TM_bestShape_0 (t : Nat) (G : GH) (Q : GQ) : Prop :=
  CV M_TM_findBest [.ref t] G (fun (G1 : GH) =>
    ∃ (fs2 : List Value) (x3 : Int32), G1.2 t = some (.inl (11, fs2)) ∧ fs2[24]? = some (.int x3) ∧
    Q.1 x3 G1) gNo
set_option maxRecDepth 100000 in
theorem V_TM_bestShape_0_ok {t : Nat} {G : GH} {Q : GQ} (h : V_TM_bestShape_0 t G Q) : WP M_TM_bestShape 0 0 0 [some (.ref t)] [] G Q := WP.ofV (T := T_TM_bestShape) (hh := []) rfl rfl [] 10 h
theorem E_TM_bestShape {t : Nat} {G : GH} {K : Int32 → GH → Prop} {KX : String → GH → Prop} (h : V_TM_bestShape_0 t G (gQi K KX)) : CI M_TM_bestShape [.ref t] G K KX := CI.of rfl rfl rfl (V_TM_bestShape_0_ok h)
def V_TM_bestRotation_0 (t : Nat) (G : GH) (Q : GQ) : Prop :=
  CV M_TM_findBest [.ref t] G (fun (G1 : GH) =>
    ∃ (fs2 : List Value) (x3 : Int32), G1.2 t = some (.inl (11, fs2)) ∧ fs2[25]? = some (.int x3) ∧
    Q.1 x3 G1) gNo
set_option maxRecDepth 100000 in
theorem V_TM_bestRotation_0_ok {t : Nat} {G : GH} {Q : GQ} (h : V_TM_bestRotation_0 t G Q) : WP M_TM_bestRotation 0 0 0 [some (.ref t)] [] G Q := WP.ofV (T := T_TM_bestRotation) (hh := []) rfl rfl [] 10 h
theorem E_TM_bestRotation {t : Nat} {G : GH} {K : Int32 → GH → Prop} {KX : String → GH → Prop} (h : V_TM_bestRotation_0 t G (gQi K KX)) : CI M_TM_bestRotation [.ref t] G K KX := CI.of rfl rfl rfl (V_TM_bestRotation_0_ok h)
def V_TM_bestColumn_0 (t : Nat) (G : GH) (Q : GQ) : Prop :=
  CV M_TM_findBest [.ref t] G (fun (G1 : GH) =>
    ∃ (fs2 : List Value) (x3 : Int32), G1.2 t = some (.inl (11, fs2)) ∧ fs2[26]? = some (.int x3) ∧
    Q.1 x3 G1) gNo
set_option maxRecDepth 100000 in
theorem V_TM_bestColumn_0_ok {t : Nat} {G : GH} {Q : GQ} (h : V_TM_bestColumn_0 t G Q) : WP M_TM_bestColumn 0 0 0 [some (.ref t)] [] G Q := WP.ofV (T := T_TM_bestColumn) (hh := []) rfl rfl [] 10 h
theorem E_TM_bestColumn {t : Nat} {G : GH} {K : Int32 → GH → Prop} {KX : String → GH → Prop} (h : V_TM_bestColumn_0 t G (gQi K KX)) : CI M_TM_bestColumn [.ref t] G K KX := CI.of rfl rfl rfl (V_TM_bestColumn_0_ok h)
def V_TM_bestRow_0 (t : Nat) (G : GH) (Q : GQ) : Prop :=
  CV M_TM_findBest [.ref t] G (fun (G1 : GH) =>
    ∃ (fs2 : List Value) (x3 : Int32), G1.2 t = some (.inl (11, fs2)) ∧ fs2[27]? = some (.int x3) ∧
    Q.1 x3 G1) gNo
set_option maxRecDepth 100000 in
theorem V_TM_bestRow_0_ok {t : Nat} {G : GH} {Q : GQ} (h : V_TM_bestRow_0 t G Q) : WP M_TM_bestRow 0 0 0 [some (.ref t)] [] G Q := WP.ofV (T := T_TM_bestRow) (hh := []) rfl rfl [] 10 h
theorem E_TM_bestRow {t : Nat} {G : GH} {K : Int32 → GH → Prop} {KX : String → GH → Prop} (h : V_TM_bestRow_0 t G (gQi K KX)) : CI M_TM_bestRow [.ref t] G K KX := CI.of rfl rfl rfl (V_TM_bestRow_0_ok h)
def V_TM_bestStrapEffect_0 (t : Nat) (G : GH) (Q : GQ) : Prop :=
  t < gRB ∧ ∃ (fs1 : List Value), G.2 t = some (.inl (11, fs1)) ∧ gFit 0 (.int (nI 0)) ∧
  let G2 : GH := gU G t (.inl (11, fs1.set 7 (.int (nI 0))));
  CI M_TM_over [.ref t] G2 (fun (x4 : Int32) (G3 : GH) =>
    if x4 = (nI 0) then
      ∃ (fs5 : List Value) (r6 : Nat), G3.2 t = some (.inl (11, fs5)) ∧ fs5[0]? = some (.ref r6) ∧
      ∃ (m7 : Nat) (f8 : Nat → Int32), G3.2 r6 = some (.inr (.int, m7, .inl f8)) ∧ vp_in (nI 2) m7 ∧
      CI M_TM_moves [.ref t, .int ((nI 1) - (f8 (nI 2).toNatClampNeg))] G3 (fun (x10 : Int32) (G9 : GH) =>
        WP M_TM_bestStrapEffect 0 0 34 [some (.ref t), some (.int ((nI 1) - (f8 (nI 2).toNatClampNeg))), some (.int x10), some (.int (nI 0)), some (.int (nI 0)), none, none] [] G9 Q) gNo
    else
      Q.1 (-nI 1) G3) gNo
set_option maxRecDepth 100000 in
theorem V_TM_bestStrapEffect_0_ok {t : Nat} {G : GH} {Q : GQ} (h : V_TM_bestStrapEffect_0 t G Q) : WP M_TM_bestStrapEffect 0 0 0 [some (.ref t), none, none, none, none, none, none] [] G Q := WP.ofV (T := T_TM_bestStrapEffect) (hh := []) rfl rfl [(34, [true, true, true, true, true, false, false]), (48, [true, true, true, true, true, true, false]), (62, [true, true, true, true, true, true, true])] 92 h
theorem E_TM_bestStrapEffect {t : Nat} {G : GH} {K : Int32 → GH → Prop} {KX : String → GH → Prop} (h : V_TM_bestStrapEffect_0 t G (gQi K KX)) : CI M_TM_bestStrapEffect [.ref t] G K KX := CI.of rfl rfl rfl (V_TM_bestStrapEffect_0_ok h)
def V_TM_bestStrapEffect_34 (t : Nat) (a1 : Int32) (a2 : Int32) (a3 : Int32) (a4 : Int32) (G : GH) (Q : GQ) : Prop :=
  ∃ (fs1 : List Value) (r2 : Nat), G.2 t = some (.inl (11, fs1)) ∧ fs1[0]? = some (.ref r2) ∧
  ∃ (m3 : Nat) (f4 : Nat → Int32), G.2 r2 = some (.inr (.int, m3, .inl f4)) ∧ vp_in (nI 1) m3 ∧
  if a4 < (f4 (nI 1).toNatClampNeg) then
    WP M_TM_bestStrapEffect 0 0 48 [some (.ref t), some (.int a1), some (.int a2), some (.int a3), some (.int a4), some (.int (nI 0)), none] [] G Q
  else
    Q.1 a3 G
set_option maxRecDepth 100000 in
theorem V_TM_bestStrapEffect_34_ok {t : Nat} {a1 : Int32} {a2 : Int32} {a3 : Int32} {a4 : Int32} {G : GH} {Q : GQ} (h : V_TM_bestStrapEffect_34 t a1 a2 a3 a4 G Q) : WP M_TM_bestStrapEffect 0 0 34 [some (.ref t), some (.int a1), some (.int a2), some (.int a3), some (.int a4), none, none] [] G Q := WP.ofV (T := T_TM_bestStrapEffect) (hh := []) rfl rfl [(34, [true, true, true, true, true, false, false]), (48, [true, true, true, true, true, true, false]), (62, [true, true, true, true, true, true, true])] 92 h
def V_TM_bestStrapEffect_48 (t : Nat) (a1 : Int32) (a2 : Int32) (a3 : Int32) (a4 : Int32) (a5 : Int32) (G : GH) (Q : GQ) : Prop :=
  ∃ (fs1 : List Value) (r2 : Nat), G.2 t = some (.inl (11, fs1)) ∧ fs1[0]? = some (.ref r2) ∧
  ∃ (m3 : Nat) (f4 : Nat → Int32), G.2 r2 = some (.inr (.int, m3, .inl f4)) ∧ vp_in (nI 0) m3 ∧
  if a5 < (f4 (nI 0).toNatClampNeg) then
    WP M_TM_bestStrapEffect 0 0 62 [some (.ref t), some (.int a1), some (.int a2), some (.int a3), some (.int a4), some (.int a5), some (.int (nI 0))] [] G Q
  else
    WP M_TM_bestStrapEffect 0 0 34 [some (.ref t), some (.int a1), some (.int a2), some (.int a3), some (.int (a4 + nI 1)), none, none] [] G Q
set_option maxRecDepth 100000 in
theorem V_TM_bestStrapEffect_48_ok {t : Nat} {a1 : Int32} {a2 : Int32} {a3 : Int32} {a4 : Int32} {a5 : Int32} {G : GH} {Q : GQ} (h : V_TM_bestStrapEffect_48 t a1 a2 a3 a4 a5 G Q) : WP M_TM_bestStrapEffect 0 0 48 [some (.ref t), some (.int a1), some (.int a2), some (.int a3), some (.int a4), some (.int a5), none] [] G Q := WP.ofV (T := T_TM_bestStrapEffect) (hh := []) rfl rfl [(34, [true, true, true, true, true, false, false]), (48, [true, true, true, true, true, true, false]), (62, [true, true, true, true, true, true, true])] 92 h
def V_TM_bestStrapEffect_62 (t : Nat) (a1 : Int32) (a2 : Int32) (a3 : Int32) (a4 : Int32) (a5 : Int32) (a6 : Int32) (G : GH) (Q : GQ) : Prop :=
  if a6 < (nI 2) then
    CI M_TM_isEdge [.ref t, .int a5, .int a4, .int a6] G (fun (x2 : Int32) (G1 : GH) =>
      if x2 = (nI 0) then
        WP M_TM_bestStrapEffect 0 0 62 [some (.ref t), some (.int a1), some (.int a2), some (.int a3), some (.int a4), some (.int a5), some (.int (a6 + nI 1))] [] G1 Q
      else
        CI M_TM_mayFasten [.ref t, .int a5, .int a4, .int a6] G1 (fun (x4 : Int32) (G3 : GH) =>
          if x4 = (nI 0) then
            WP M_TM_bestStrapEffect 0 0 62 [some (.ref t), some (.int a1), some (.int a2), some (.int a3), some (.int a4), some (.int a5), some (.int (a6 + nI 1))] [] G3 Q
          else
            ∃ (fs5 : List Value) (r6 : Nat), G3.2 t = some (.inl (11, fs5)) ∧ fs5[0]? = some (.ref r6) ∧
            CI M_TM_edge [.int a5, .int a4, .int a6] G3 (fun (x8 : Int32) (G7 : GH) =>
              r6 < gRB ∧ ∃ (m9 : Nat) (f10 : Nat → Int32), G7.2 r6 = some (.inr (.int, m9, .inl f10)) ∧ vp_in x8 m9 ∧
              let G11 : GH := gU G7 r6 (.inr (.int, m9, .inl (upd f10 (x8).toNatClampNeg (nI 1))));
              CI M_TM_moves [.ref t, .int a1] G11 (fun (x13 : Int32) (G12 : GH) =>
                ∃ (fs14 : List Value) (r15 : Nat), G12.2 t = some (.inl (11, fs14)) ∧ fs14[0]? = some (.ref r15) ∧
                CI M_TM_edge [.int a5, .int a4, .int a6] G12 (fun (x17 : Int32) (G16 : GH) =>
                  r15 < gRB ∧ ∃ (m18 : Nat) (f19 : Nat → Int32), G16.2 r15 = some (.inr (.int, m18, .inl f19)) ∧ vp_in x17 m18 ∧
                  let G20 : GH := gU G16 r15 (.inr (.int, m18, .inl (upd f19 (x17).toNatClampNeg (nI 0))));
                  WP M_TM_bestStrapEffect 0 0 62 [some (.ref t), some (.int a1), some (.int a2), some (.int (if a3 < (a2 - x13) then a2 - x13 else a3)), some (.int a4), some (.int a5), some (.int (a6 + nI 1))] [] G20 Q) gNo) gNo) gNo) gNo) gNo
  else
    WP M_TM_bestStrapEffect 0 0 48 [some (.ref t), some (.int a1), some (.int a2), some (.int a3), some (.int a4), some (.int (a5 + nI 1)), none] [] G Q
set_option maxRecDepth 100000 in
theorem V_TM_bestStrapEffect_62_ok {t : Nat} {a1 : Int32} {a2 : Int32} {a3 : Int32} {a4 : Int32} {a5 : Int32} {a6 : Int32} {G : GH} {Q : GQ} (h : V_TM_bestStrapEffect_62 t a1 a2 a3 a4 a5 a6 G Q) : WP M_TM_bestStrapEffect 0 0 62 [some (.ref t), some (.int a1), some (.int a2), some (.int a3), some (.int a4), some (.int a5), some (.int a6)] [] G Q := WP.ofV (T := T_TM_bestStrapEffect) (hh := []) rfl rfl [(34, [true, true, true, true, true, false, false]), (48, [true, true, true, true, true, true, false]), (62, [true, true, true, true, true, true, true])] 92 h
def V_TM_joins_0 (t : Nat) (a1 : Int32) (a2 : Int32) (a3 : Int32) (a4 : Int32) (G : GH) (Q : GQ) : Prop :=
  CI M_TM_isEmpty [.ref t, .int a1, .int a2] G (fun (x2 : Int32) (G1 : GH) =>
    if x2 = (nI 0) then
      ((nI 0) = nI 0 ∨ (nI 0) = nI 1) ∧ Q.1 (nI 0) G1
    else
      CI M_TM_isEmpty [.ref t, .int a3, .int a4] G1 (fun (x4 : Int32) (G3 : GH) =>
        if x4 = (nI 0) then
          ((nI 0) = nI 0 ∨ (nI 0) = nI 1) ∧ Q.1 (nI 0) G3
        else
          CI M_TM_isStrapped [.ref t, .int a1, .int a2, .int a3, .int a4] G3 (fun (x6 : Int32) (G5 : GH) =>
            if x6 = (nI 0) then
              ∃ (fs7 : List Value) (r8 : Nat), G5.2 t = some (.inl (11, fs7)) ∧ fs7[12]? = some (.ref r8) ∧
              CI M_TM_at [.int a1, .int a2] G5 (fun (x10 : Int32) (G9 : GH) =>
                ∃ (m11 : Nat) (f12 : Nat → Int32), G9.2 r8 = some (.inr (.int, m11, .inl f12)) ∧ vp_in x10 m11 ∧
                ∃ (fs13 : List Value) (r14 : Nat), G9.2 t = some (.inl (11, fs13)) ∧ fs13[12]? = some (.ref r14) ∧
                CI M_TM_at [.int a3, .int a4] G9 (fun (x16 : Int32) (G15 : GH) =>
                  ∃ (m17 : Nat) (f18 : Nat → Int32), G15.2 r14 = some (.inr (.int, m17, .inl f18)) ∧ vp_in x16 m17 ∧
                  ∃ (fs19 : List Value) (r20 : Nat), G15.2 t = some (.inl (11, fs19)) ∧ fs19[12]? = some (.ref r20) ∧
                  CI M_TM_at [.int a1, .int a2] G15 (fun (x22 : Int32) (G21 : GH) =>
                    r20 < gRB ∧ ∃ (m23 : Nat) (f24 : Nat → Int32), G21.2 r20 = some (.inr (.int, m23, .inl f24)) ∧ vp_in x22 m23 ∧
                    let G25 : GH := gU G21 r20 (.inr (.int, m23, .inl (upd f24 (x22).toNatClampNeg (if (f18 (x16).toNatClampNeg) < (f12 (x10).toNatClampNeg) then f18 (x16).toNatClampNeg else f12 (x10).toNatClampNeg))));
                    ∃ (fs26 : List Value) (r27 : Nat), G25.2 t = some (.inl (11, fs26)) ∧ fs26[12]? = some (.ref r27) ∧
                    CI M_TM_at [.int a3, .int a4] G25 (fun (x29 : Int32) (G28 : GH) =>
                      r27 < gRB ∧ ∃ (m30 : Nat) (f31 : Nat → Int32), G28.2 r27 = some (.inr (.int, m30, .inl f31)) ∧ vp_in x29 m30 ∧
                      let G32 : GH := gU G28 r27 (.inr (.int, m30, .inl (upd f31 (x29).toNatClampNeg (if (f18 (x16).toNatClampNeg) < (f12 (x10).toNatClampNeg) then f18 (x16).toNatClampNeg else f12 (x10).toNatClampNeg))));
                      if (f12 (x10).toNatClampNeg) = (f18 (x16).toNatClampNeg) then
                        ((nI 0) = nI 0 ∨ (nI 0) = nI 1) ∧ Q.1 (nI 0) G32
                      else
                        ((nI 1) = nI 0 ∨ (nI 1) = nI 1) ∧ Q.1 (nI 1) G32) gNo) gNo) gNo) gNo
            else
              ((nI 0) = nI 0 ∨ (nI 0) = nI 1) ∧ Q.1 (nI 0) G5) gNo) gNo) gNo
set_option maxRecDepth 100000 in
theorem V_TM_joins_0_ok {t : Nat} {a1 : Int32} {a2 : Int32} {a3 : Int32} {a4 : Int32} {G : GH} {Q : GQ} (h : V_TM_joins_0 t a1 a2 a3 a4 G Q) : WP M_TM_joins 0 0 0 [some (.ref t), some (.int a1), some (.int a2), some (.int a3), some (.int a4), none, none] [] G Q := WP.ofV (T := T_TM_joins) (hh := []) rfl rfl [] 63 h
theorem E_TM_joins {t : Nat} {a1 : Int32} {a2 : Int32} {a3 : Int32} {a4 : Int32} {G : GH} {K : Int32 → GH → Prop} {KX : String → GH → Prop} (h : V_TM_joins_0 t a1 a2 a3 a4 G (gQi K KX)) : CI M_TM_joins [.ref t, .int a1, .int a2, .int a3, .int a4] G K KX := CI.of rfl rfl rfl (V_TM_joins_0_ok h)
def V_TM_findRegions_0 (t : Nat) (G : GH) (Q : GQ) : Prop :=
  WP M_TM_findRegions 0 0 2 [some (.ref t), some (.int (nI 0)), none, none] [] G Q
set_option maxRecDepth 100000 in
theorem V_TM_findRegions_0_ok {t : Nat} {G : GH} {Q : GQ} (h : V_TM_findRegions_0 t G Q) : WP M_TM_findRegions 0 0 0 [some (.ref t), none, none, none] [] G Q := WP.ofV (T := T_TM_findRegions) (hh := []) rfl rfl [(2, [true, true, false, false]), (23, [true, true, false, false]), (31, [true, true, true, false]), (43, [true, true, true, true]), (68, [true, true, true, true])] 67 h
theorem E_TM_findRegions {t : Nat} {G : GH} {K : GH → Prop} {KX : String → GH → Prop} (h : V_TM_findRegions_0 t G (gQv K KX)) : CV M_TM_findRegions [.ref t] G K KX := CV.of rfl rfl rfl (V_TM_findRegions_0_ok h)
def V_TM_findRegions_2 (t : Nat) (a1 : Int32) (G : GH) (Q : GQ) : Prop :=
  if a1 < (nI 64) then
    ∃ (fs1 : List Value) (r2 : Nat), G.2 t = some (.inl (11, fs1)) ∧ fs1[12]? = some (.ref r2) ∧
    r2 < gRB ∧ ∃ (m3 : Nat) (f4 : Nat → Int32), G.2 r2 = some (.inr (.int, m3, .inl f4)) ∧ vp_in a1 m3 ∧
    let G5 : GH := gU G r2 (.inr (.int, m3, .inl (upd f4 (a1).toNatClampNeg a1)));
    WP M_TM_findRegions 0 0 2 [some (.ref t), some (.int (a1 + nI 1)), none, none] [] G5 Q
  else
    WP M_TM_findRegions 0 0 23 [some (.ref t), some (.int (nI 1)), none, none] [] G Q
set_option maxRecDepth 100000 in
theorem V_TM_findRegions_2_ok {t : Nat} {a1 : Int32} {G : GH} {Q : GQ} (h : V_TM_findRegions_2 t a1 G Q) : WP M_TM_findRegions 0 0 2 [some (.ref t), some (.int a1), none, none] [] G Q := WP.ofV (T := T_TM_findRegions) (hh := []) rfl rfl [(2, [true, true, false, false]), (23, [true, true, false, false]), (31, [true, true, true, false]), (43, [true, true, true, true]), (68, [true, true, true, true])] 67 h
def V_TM_findRegions_23 (t : Nat) (a1 : Int32) (G : GH) (Q : GQ) : Prop :=
  if a1 = (nI 0) then
    Q.2.1 G
  else
    WP M_TM_findRegions 0 0 31 [some (.ref t), some (.int (nI 0)), some (.int (nI 0)), none] [] G Q
set_option maxRecDepth 100000 in
theorem V_TM_findRegions_23_ok {t : Nat} {a1 : Int32} {G : GH} {Q : GQ} (h : V_TM_findRegions_23 t a1 G Q) : WP M_TM_findRegions 0 0 23 [some (.ref t), some (.int a1), none, none] [] G Q := WP.ofV (T := T_TM_findRegions) (hh := []) rfl rfl [(2, [true, true, false, false]), (23, [true, true, false, false]), (31, [true, true, true, false]), (43, [true, true, true, true]), (68, [true, true, true, true])] 67 h
def V_TM_findRegions_31 (t : Nat) (a1 : Int32) (a2 : Int32) (G : GH) (Q : GQ) : Prop :=
  ∃ (fs1 : List Value) (r2 : Nat), G.2 t = some (.inl (11, fs1)) ∧ fs1[0]? = some (.ref r2) ∧
  ∃ (m3 : Nat) (f4 : Nat → Int32), G.2 r2 = some (.inr (.int, m3, .inl f4)) ∧ vp_in (nI 1) m3 ∧
  if a2 < (f4 (nI 1).toNatClampNeg) then
    WP M_TM_findRegions 0 0 43 [some (.ref t), some (.int a1), some (.int a2), some (.int (nI 0))] [] G Q
  else
    WP M_TM_findRegions 0 0 23 [some (.ref t), some (.int a1), none, none] [] G Q
set_option maxRecDepth 100000 in
theorem V_TM_findRegions_31_ok {t : Nat} {a1 : Int32} {a2 : Int32} {G : GH} {Q : GQ} (h : V_TM_findRegions_31 t a1 a2 G Q) : WP M_TM_findRegions 0 0 31 [some (.ref t), some (.int a1), some (.int a2), none] [] G Q := WP.ofV (T := T_TM_findRegions) (hh := []) rfl rfl [(2, [true, true, false, false]), (23, [true, true, false, false]), (31, [true, true, true, false]), (43, [true, true, true, true]), (68, [true, true, true, true])] 67 h
def V_TM_findRegions_43 (t : Nat) (a1 : Int32) (a2 : Int32) (a3 : Int32) (G : GH) (Q : GQ) : Prop :=
  ∃ (fs1 : List Value) (r2 : Nat), G.2 t = some (.inl (11, fs1)) ∧ fs1[0]? = some (.ref r2) ∧
  ∃ (m3 : Nat) (f4 : Nat → Int32), G.2 r2 = some (.inr (.int, m3, .inl f4)) ∧ vp_in (nI 0) m3 ∧
  if a3 < (f4 (nI 0).toNatClampNeg) then
    CI M_TM_joins [.ref t, .int a3, .int a2, .int (a3 + (nI 1)), .int a2] G (fun (x6 : Int32) (G5 : GH) =>
      if x6 = (nI 0) then
        WP M_TM_findRegions 0 0 68 [some (.ref t), some (.int a1), some (.int a2), some (.int a3)] [] G5 Q
      else
        WP M_TM_findRegions 0 0 68 [some (.ref t), some (.int (nI 1)), some (.int a2), some (.int a3)] [] G5 Q) gNo
  else
    WP M_TM_findRegions 0 0 31 [some (.ref t), some (.int a1), some (.int (a2 + nI 1)), none] [] G Q
set_option maxRecDepth 100000 in
theorem V_TM_findRegions_43_ok {t : Nat} {a1 : Int32} {a2 : Int32} {a3 : Int32} {G : GH} {Q : GQ} (h : V_TM_findRegions_43 t a1 a2 a3 G Q) : WP M_TM_findRegions 0 0 43 [some (.ref t), some (.int a1), some (.int a2), some (.int a3)] [] G Q := WP.ofV (T := T_TM_findRegions) (hh := []) rfl rfl [(2, [true, true, false, false]), (23, [true, true, false, false]), (31, [true, true, true, false]), (43, [true, true, true, true]), (68, [true, true, true, true])] 67 h
def V_TM_findRegions_68 (t : Nat) (a1 : Int32) (a2 : Int32) (a3 : Int32) (G : GH) (Q : GQ) : Prop :=
  CI M_TM_joins [.ref t, .int a3, .int a2, .int a3, .int (a2 + (nI 1))] G (fun (x2 : Int32) (G1 : GH) =>
    if x2 = (nI 0) then
      WP M_TM_findRegions 0 0 43 [some (.ref t), some (.int a1), some (.int a2), some (.int (a3 + nI 1))] [] G1 Q
    else
      WP M_TM_findRegions 0 0 43 [some (.ref t), some (.int (nI 1)), some (.int a2), some (.int (a3 + nI 1))] [] G1 Q) gNo
set_option maxRecDepth 100000 in
theorem V_TM_findRegions_68_ok {t : Nat} {a1 : Int32} {a2 : Int32} {a3 : Int32} {G : GH} {Q : GQ} (h : V_TM_findRegions_68 t a1 a2 a3 G Q) : WP M_TM_findRegions 0 0 68 [some (.ref t), some (.int a1), some (.int a2), some (.int a3)] [] G Q := WP.ofV (T := T_TM_findRegions) (hh := []) rfl rfl [(2, [true, true, false, false]), (23, [true, true, false, false]), (31, [true, true, true, false]), (43, [true, true, true, true]), (68, [true, true, true, true])] 67 h
def V_TM_sizeAt_0 (t : Nat) (a1 : Int32) (a2 : Int32) (G : GH) (Q : GQ) : Prop :=
  WP M_TM_sizeAt 0 0 5 [some (.ref t), some (.int a1), some (.int a2), some (.int (nI 0)), some (.int (nI 0)), none] [] G Q
set_option maxRecDepth 100000 in
theorem V_TM_sizeAt_0_ok {t : Nat} {a1 : Int32} {a2 : Int32} {G : GH} {Q : GQ} (h : V_TM_sizeAt_0 t a1 a2 G Q) : WP M_TM_sizeAt 0 0 0 [some (.ref t), some (.int a1), some (.int a2), none, none, none] [] G Q := WP.ofV (T := T_TM_sizeAt) (hh := []) rfl rfl [(5, [true, true, true, true, true, false]), (19, [true, true, true, true, true, true])] 55 h
theorem E_TM_sizeAt {t : Nat} {a1 : Int32} {a2 : Int32} {G : GH} {K : Int32 → GH → Prop} {KX : String → GH → Prop} (h : V_TM_sizeAt_0 t a1 a2 G (gQi K KX)) : CI M_TM_sizeAt [.ref t, .int a1, .int a2] G K KX := CI.of rfl rfl rfl (V_TM_sizeAt_0_ok h)
def V_TM_sizeAt_5 (t : Nat) (a1 : Int32) (a2 : Int32) (a3 : Int32) (a4 : Int32) (G : GH) (Q : GQ) : Prop :=
  ∃ (fs1 : List Value) (r2 : Nat), G.2 t = some (.inl (11, fs1)) ∧ fs1[0]? = some (.ref r2) ∧
  ∃ (m3 : Nat) (f4 : Nat → Int32), G.2 r2 = some (.inr (.int, m3, .inl f4)) ∧ vp_in (nI 1) m3 ∧
  if a4 < (f4 (nI 1).toNatClampNeg) then
    WP M_TM_sizeAt 0 0 19 [some (.ref t), some (.int a1), some (.int a2), some (.int a3), some (.int a4), some (.int (nI 0))] [] G Q
  else
    CI M_TM_cell [.ref t, .int a1, .int a2] G (fun (x6 : Int32) (G5 : GH) =>
      if x6 = (nI 0) then
        Q.1 a3 G5
      else
        Q.1 (nI 0) G5) gNo
set_option maxRecDepth 100000 in
theorem V_TM_sizeAt_5_ok {t : Nat} {a1 : Int32} {a2 : Int32} {a3 : Int32} {a4 : Int32} {G : GH} {Q : GQ} (h : V_TM_sizeAt_5 t a1 a2 a3 a4 G Q) : WP M_TM_sizeAt 0 0 5 [some (.ref t), some (.int a1), some (.int a2), some (.int a3), some (.int a4), none] [] G Q := WP.ofV (T := T_TM_sizeAt) (hh := []) rfl rfl [(5, [true, true, true, true, true, false]), (19, [true, true, true, true, true, true])] 55 h
def V_TM_sizeAt_19 (t : Nat) (a1 : Int32) (a2 : Int32) (a3 : Int32) (a4 : Int32) (a5 : Int32) (G : GH) (Q : GQ) : Prop :=
  ∃ (fs1 : List Value) (r2 : Nat), G.2 t = some (.inl (11, fs1)) ∧ fs1[0]? = some (.ref r2) ∧
  ∃ (m3 : Nat) (f4 : Nat → Int32), G.2 r2 = some (.inr (.int, m3, .inl f4)) ∧ vp_in (nI 0) m3 ∧
  if a5 < (f4 (nI 0).toNatClampNeg) then
    CI M_TM_cell [.ref t, .int a5, .int a4] G (fun (x6 : Int32) (G5 : GH) =>
      if x6 = (nI 0) then
        ∃ (fs7 : List Value) (r8 : Nat), G5.2 t = some (.inl (11, fs7)) ∧ fs7[12]? = some (.ref r8) ∧
        CI M_TM_at [.int a5, .int a4] G5 (fun (x10 : Int32) (G9 : GH) =>
          ∃ (m11 : Nat) (f12 : Nat → Int32), G9.2 r8 = some (.inr (.int, m11, .inl f12)) ∧ vp_in x10 m11 ∧
          ∃ (fs13 : List Value) (r14 : Nat), G9.2 t = some (.inl (11, fs13)) ∧ fs13[12]? = some (.ref r14) ∧
          CI M_TM_at [.int a1, .int a2] G9 (fun (x16 : Int32) (G15 : GH) =>
            ∃ (m17 : Nat) (f18 : Nat → Int32), G15.2 r14 = some (.inr (.int, m17, .inl f18)) ∧ vp_in x16 m17 ∧
            if (f12 (x10).toNatClampNeg) = (f18 (x16).toNatClampNeg) then
              WP M_TM_sizeAt 0 0 19 [some (.ref t), some (.int a1), some (.int a2), some (.int (a3 + nI 1)), some (.int a4), some (.int (a5 + nI 1))] [] G15 Q
            else
              WP M_TM_sizeAt 0 0 19 [some (.ref t), some (.int a1), some (.int a2), some (.int a3), some (.int a4), some (.int (a5 + nI 1))] [] G15 Q) gNo) gNo
      else
        WP M_TM_sizeAt 0 0 19 [some (.ref t), some (.int a1), some (.int a2), some (.int a3), some (.int a4), some (.int (a5 + nI 1))] [] G5 Q) gNo
  else
    WP M_TM_sizeAt 0 0 5 [some (.ref t), some (.int a1), some (.int a2), some (.int a3), some (.int (a4 + nI 1)), none] [] G Q
set_option maxRecDepth 100000 in
theorem V_TM_sizeAt_19_ok {t : Nat} {a1 : Int32} {a2 : Int32} {a3 : Int32} {a4 : Int32} {a5 : Int32} {G : GH} {Q : GQ} (h : V_TM_sizeAt_19 t a1 a2 a3 a4 a5 G Q) : WP M_TM_sizeAt 0 0 19 [some (.ref t), some (.int a1), some (.int a2), some (.int a3), some (.int a4), some (.int a5)] [] G Q := WP.ofV (T := T_TM_sizeAt) (hh := []) rfl rfl [(5, [true, true, true, true, true, false]), (19, [true, true, true, true, true, true])] 55 h
def V_TM_regions_0 (t : Nat) (G : GH) (Q : GQ) : Prop :=
  CV M_TM_findRegions [.ref t] G (fun (G1 : GH) =>
    WP M_TM_regions 0 0 8 [some (.ref t), some (.int (nI 0)), some (.int (nI 0)), none] [] G1 Q) gNo
set_option maxRecDepth 100000 in
theorem V_TM_regions_0_ok {t : Nat} {G : GH} {Q : GQ} (h : V_TM_regions_0 t G Q) : WP M_TM_regions 0 0 0 [some (.ref t), none, none, none] [] G Q := WP.ofV (T := T_TM_regions) (hh := []) rfl rfl [(8, [true, true, true, false]), (20, [true, true, true, true])] 47 h
theorem E_TM_regions {t : Nat} {G : GH} {K : Int32 → GH → Prop} {KX : String → GH → Prop} (h : V_TM_regions_0 t G (gQi K KX)) : CI M_TM_regions [.ref t] G K KX := CI.of rfl rfl rfl (V_TM_regions_0_ok h)
def V_TM_regions_8 (t : Nat) (a1 : Int32) (a2 : Int32) (G : GH) (Q : GQ) : Prop :=
  ∃ (fs1 : List Value) (r2 : Nat), G.2 t = some (.inl (11, fs1)) ∧ fs1[0]? = some (.ref r2) ∧
  ∃ (m3 : Nat) (f4 : Nat → Int32), G.2 r2 = some (.inr (.int, m3, .inl f4)) ∧ vp_in (nI 1) m3 ∧
  if a2 < (f4 (nI 1).toNatClampNeg) then
    WP M_TM_regions 0 0 20 [some (.ref t), some (.int a1), some (.int a2), some (.int (nI 0))] [] G Q
  else
    Q.1 a1 G
set_option maxRecDepth 100000 in
theorem V_TM_regions_8_ok {t : Nat} {a1 : Int32} {a2 : Int32} {G : GH} {Q : GQ} (h : V_TM_regions_8 t a1 a2 G Q) : WP M_TM_regions 0 0 8 [some (.ref t), some (.int a1), some (.int a2), none] [] G Q := WP.ofV (T := T_TM_regions) (hh := []) rfl rfl [(8, [true, true, true, false]), (20, [true, true, true, true])] 47 h
def V_TM_regions_20 (t : Nat) (a1 : Int32) (a2 : Int32) (a3 : Int32) (G : GH) (Q : GQ) : Prop :=
  ∃ (fs1 : List Value) (r2 : Nat), G.2 t = some (.inl (11, fs1)) ∧ fs1[0]? = some (.ref r2) ∧
  ∃ (m3 : Nat) (f4 : Nat → Int32), G.2 r2 = some (.inr (.int, m3, .inl f4)) ∧ vp_in (nI 0) m3 ∧
  if a3 < (f4 (nI 0).toNatClampNeg) then
    CI M_TM_cell [.ref t, .int a3, .int a2] G (fun (x6 : Int32) (G5 : GH) =>
      if x6 = (nI 0) then
        ∃ (fs7 : List Value) (r8 : Nat), G5.2 t = some (.inl (11, fs7)) ∧ fs7[12]? = some (.ref r8) ∧
        CI M_TM_at [.int a3, .int a2] G5 (fun (x10 : Int32) (G9 : GH) =>
          ∃ (m11 : Nat) (f12 : Nat → Int32), G9.2 r8 = some (.inr (.int, m11, .inl f12)) ∧ vp_in x10 m11 ∧
          CI M_TM_at [.int a3, .int a2] G9 (fun (x14 : Int32) (G13 : GH) =>
            if (f12 (x10).toNatClampNeg) = x14 then
              WP M_TM_regions 0 0 20 [some (.ref t), some (.int (a1 + nI 1)), some (.int a2), some (.int (a3 + nI 1))] [] G13 Q
            else
              WP M_TM_regions 0 0 20 [some (.ref t), some (.int a1), some (.int a2), some (.int (a3 + nI 1))] [] G13 Q) gNo) gNo
      else
        WP M_TM_regions 0 0 20 [some (.ref t), some (.int a1), some (.int a2), some (.int (a3 + nI 1))] [] G5 Q) gNo
  else
    WP M_TM_regions 0 0 8 [some (.ref t), some (.int a1), some (.int (a2 + nI 1)), none] [] G Q
set_option maxRecDepth 100000 in
theorem V_TM_regions_20_ok {t : Nat} {a1 : Int32} {a2 : Int32} {a3 : Int32} {G : GH} {Q : GQ} (h : V_TM_regions_20 t a1 a2 a3 G Q) : WP M_TM_regions 0 0 20 [some (.ref t), some (.int a1), some (.int a2), some (.int a3)] [] G Q := WP.ofV (T := T_TM_regions) (hh := []) rfl rfl [(8, [true, true, true, false]), (20, [true, true, true, true])] 47 h
def V_TM_regionCount_0 (t : Nat) (G : GH) (Q : GQ) : Prop :=
  CI M_TM_regions [.ref t] G (fun (x2 : Int32) (G1 : GH) =>
    CI M_TM_told [.ref t, .int x2] G1 (fun (x4 : Int32) (G3 : GH) =>
      Q.1 x4 G3) gNo) gNo
set_option maxRecDepth 100000 in
theorem V_TM_regionCount_0_ok {t : Nat} {G : GH} {Q : GQ} (h : V_TM_regionCount_0 t G Q) : WP M_TM_regionCount 0 0 0 [some (.ref t)] [] G Q := WP.ofV (T := T_TM_regionCount) (hh := []) rfl rfl [] 10 h
theorem E_TM_regionCount {t : Nat} {G : GH} {K : Int32 → GH → Prop} {KX : String → GH → Prop} (h : V_TM_regionCount_0 t G (gQi K KX)) : CI M_TM_regionCount [.ref t] G K KX := CI.of rfl rfl rfl (V_TM_regionCount_0_ok h)
def V_TM_largestRegion_0 (t : Nat) (G : GH) (Q : GQ) : Prop :=
  t < gRB ∧ ∃ (fs1 : List Value), G.2 t = some (.inl (11, fs1)) ∧ gFit 0 (.int (nI 0)) ∧
  let G2 : GH := gU G t (.inl (11, fs1.set 7 (.int (nI 0))));
  CV M_TM_findRegions [.ref t] G2 (fun (G3 : GH) =>
    WP M_TM_largestRegion 0 0 13 [some (.ref t), some (.int (nI 0)), some (.int (nI 0)), none] [] G3 Q) gNo
set_option maxRecDepth 100000 in
theorem V_TM_largestRegion_0_ok {t : Nat} {G : GH} {Q : GQ} (h : V_TM_largestRegion_0 t G Q) : WP M_TM_largestRegion 0 0 0 [some (.ref t), none, none, none] [] G Q := WP.ofV (T := T_TM_largestRegion) (hh := []) rfl rfl [(13, [true, true, true, false]), (25, [true, true, true, true])] 41 h
theorem E_TM_largestRegion {t : Nat} {G : GH} {K : Int32 → GH → Prop} {KX : String → GH → Prop} (h : V_TM_largestRegion_0 t G (gQi K KX)) : CI M_TM_largestRegion [.ref t] G K KX := CI.of rfl rfl rfl (V_TM_largestRegion_0_ok h)
def V_TM_largestRegion_13 (t : Nat) (a1 : Int32) (a2 : Int32) (G : GH) (Q : GQ) : Prop :=
  ∃ (fs1 : List Value) (r2 : Nat), G.2 t = some (.inl (11, fs1)) ∧ fs1[0]? = some (.ref r2) ∧
  ∃ (m3 : Nat) (f4 : Nat → Int32), G.2 r2 = some (.inr (.int, m3, .inl f4)) ∧ vp_in (nI 1) m3 ∧
  if a2 < (f4 (nI 1).toNatClampNeg) then
    WP M_TM_largestRegion 0 0 25 [some (.ref t), some (.int a1), some (.int a2), some (.int (nI 0))] [] G Q
  else
    Q.1 a1 G
set_option maxRecDepth 100000 in
theorem V_TM_largestRegion_13_ok {t : Nat} {a1 : Int32} {a2 : Int32} {G : GH} {Q : GQ} (h : V_TM_largestRegion_13 t a1 a2 G Q) : WP M_TM_largestRegion 0 0 13 [some (.ref t), some (.int a1), some (.int a2), none] [] G Q := WP.ofV (T := T_TM_largestRegion) (hh := []) rfl rfl [(13, [true, true, true, false]), (25, [true, true, true, true])] 41 h
def V_TM_largestRegion_25 (t : Nat) (a1 : Int32) (a2 : Int32) (a3 : Int32) (G : GH) (Q : GQ) : Prop :=
  ∃ (fs1 : List Value) (r2 : Nat), G.2 t = some (.inl (11, fs1)) ∧ fs1[0]? = some (.ref r2) ∧
  ∃ (m3 : Nat) (f4 : Nat → Int32), G.2 r2 = some (.inr (.int, m3, .inl f4)) ∧ vp_in (nI 0) m3 ∧
  if a3 < (f4 (nI 0).toNatClampNeg) then
    CI M_TM_sizeAt [.ref t, .int a3, .int a2] G (fun (x6 : Int32) (G5 : GH) =>
      WP M_TM_largestRegion 0 0 25 [some (.ref t), some (.int (if a1 < x6 then x6 else a1)), some (.int a2), some (.int (a3 + nI 1))] [] G5 Q) gNo
  else
    WP M_TM_largestRegion 0 0 13 [some (.ref t), some (.int a1), some (.int (a2 + nI 1)), none] [] G Q
set_option maxRecDepth 100000 in
theorem V_TM_largestRegion_25_ok {t : Nat} {a1 : Int32} {a2 : Int32} {a3 : Int32} {G : GH} {Q : GQ} (h : V_TM_largestRegion_25 t a1 a2 a3 G Q) : WP M_TM_largestRegion 0 0 25 [some (.ref t), some (.int a1), some (.int a2), some (.int a3)] [] G Q := WP.ofV (T := T_TM_largestRegion) (hh := []) rfl rfl [(13, [true, true, true, false]), (25, [true, true, true, true])] 41 h
def V_TM_regionSize_0 (t : Nat) (a1 : Int32) (a2 : Int32) (G : GH) (Q : GQ) : Prop :=
  CI M_TM_isInside [.ref t, .int a1, .int a2] G (fun (x2 : Int32) (G1 : GH) =>
    if x2 = (nI 0) then
      WP M_TM_regionSize 0 0 15 [some (.ref t), some (.int a1), some (.int a2)] [.int (nI 1), .ref t] G1 Q
    else
      WP M_TM_regionSize 0 0 15 [some (.ref t), some (.int a1), some (.int a2)] [.int (nI 0), .ref t] G1 Q) gNo
set_option maxRecDepth 100000 in
theorem V_TM_regionSize_0_ok {t : Nat} {a1 : Int32} {a2 : Int32} {G : GH} {Q : GQ} (h : V_TM_regionSize_0 t a1 a2 G Q) : WP M_TM_regionSize 0 0 0 [some (.ref t), some (.int a1), some (.int a2)] [] G Q := WP.ofV (T := T_TM_regionSize) (hh := []) rfl rfl [(15, [true, true, true])] 27 h
theorem E_TM_regionSize {t : Nat} {a1 : Int32} {a2 : Int32} {G : GH} {K : Int32 → GH → Prop} {KX : String → GH → Prop} (h : V_TM_regionSize_0 t a1 a2 G (gQi K KX)) : CI M_TM_regionSize [.ref t, .int a1, .int a2] G K KX := CI.of rfl rfl rfl (V_TM_regionSize_0_ok h)
def V_TM_regionSize_15 (t : Nat) (a1 : Int32) (a2 : Int32) (s0 : Int32) (s1 : Nat) (G : GH) (Q : GQ) : Prop :=
  CI M_TM_fails [.ref s1, .int s0, .int (nI 0), .int (nI 0)] G (fun (x2 : Int32) (G1 : GH) =>
    if x2 = (nI 0) then
      CV M_TM_findRegions [.ref t] G1 (fun (G3 : GH) =>
        CI M_TM_sizeAt [.ref t, .int a1, .int a2] G3 (fun (x5 : Int32) (G4 : GH) =>
          Q.1 x5 G4) gNo) gNo
    else
      Q.1 (nI 0) G1) gNo
set_option maxRecDepth 100000 in
theorem V_TM_regionSize_15_ok {t : Nat} {a1 : Int32} {a2 : Int32} {s0 : Int32} {s1 : Nat} {G : GH} {Q : GQ} (h : V_TM_regionSize_15 t a1 a2 s0 s1 G Q) : WP M_TM_regionSize 0 0 15 [some (.ref t), some (.int a1), some (.int a2)] [.int s0, .ref s1] G Q := WP.ofV (T := T_TM_regionSize) (hh := []) rfl rfl [(15, [true, true, true])] 27 h
def V_TM_covers_0 (t : Nat) (a1 : Int32) (a2 : Int32) (G : GH) (Q : GQ) : Prop :=
  WP M_TM_covers 0 0 2 [some (.ref t), some (.int a1), some (.int a2), some (.int (nI 0))] [] G Q
set_option maxRecDepth 100000 in
theorem V_TM_covers_0_ok {t : Nat} {a1 : Int32} {a2 : Int32} {G : GH} {Q : GQ} (h : V_TM_covers_0 t a1 a2 G Q) : WP M_TM_covers 0 0 0 [some (.ref t), some (.int a1), some (.int a2), none] [] G Q := WP.ofV (T := T_TM_covers) (hh := []) rfl rfl [(2, [true, true, true, true])] 29 h
theorem E_TM_covers {t : Nat} {a1 : Int32} {a2 : Int32} {G : GH} {K : Int32 → GH → Prop} {KX : String → GH → Prop} (h : V_TM_covers_0 t a1 a2 G (gQi K KX)) : CI M_TM_covers [.ref t, .int a1, .int a2] G K KX := CI.of rfl rfl rfl (V_TM_covers_0_ok h)
def V_TM_covers_2 (t : Nat) (a1 : Int32) (a2 : Int32) (a3 : Int32) (G : GH) (Q : GQ) : Prop :=
  ∃ (fs1 : List Value) (x2 : Int32), G.2 t = some (.inl (11, fs1)) ∧ fs1[17]? = some (.int x2) ∧
  if a3 < x2 then
    ∃ (fs3 : List Value) (r4 : Nat), G.2 t = some (.inl (11, fs3)) ∧ fs3[10]? = some (.ref r4) ∧
    ∃ (m5 : Nat) (f6 : Nat → Int32), G.2 r4 = some (.inr (.int, m5, .inl f6)) ∧ vp_in a3 m5 ∧
    if (f6 (a3).toNatClampNeg) = a1 then
      ∃ (fs7 : List Value) (r8 : Nat), G.2 t = some (.inl (11, fs7)) ∧ fs7[11]? = some (.ref r8) ∧
      ∃ (m9 : Nat) (f10 : Nat → Int32), G.2 r8 = some (.inr (.int, m9, .inl f10)) ∧ vp_in a3 m9 ∧
      if (f10 (a3).toNatClampNeg) = a2 then
        ((nI 1) = nI 0 ∨ (nI 1) = nI 1) ∧ Q.1 (nI 1) G
      else
        WP M_TM_covers 0 0 2 [some (.ref t), some (.int a1), some (.int a2), some (.int (a3 + nI 1))] [] G Q
    else
      WP M_TM_covers 0 0 2 [some (.ref t), some (.int a1), some (.int a2), some (.int (a3 + nI 1))] [] G Q
  else
    ((nI 0) = nI 0 ∨ (nI 0) = nI 1) ∧ Q.1 (nI 0) G
set_option maxRecDepth 100000 in
theorem V_TM_covers_2_ok {t : Nat} {a1 : Int32} {a2 : Int32} {a3 : Int32} {G : GH} {Q : GQ} (h : V_TM_covers_2 t a1 a2 a3 G Q) : WP M_TM_covers 0 0 2 [some (.ref t), some (.int a1), some (.int a2), some (.int a3)] [] G Q := WP.ofV (T := T_TM_covers) (hh := []) rfl rfl [(2, [true, true, true, true])] 29 h
def V_TM_dead_0 (t : Nat) (a1 : Int32) (a2 : Int32) (G : GH) (Q : GQ) : Prop :=
  CI M_TM_cell [.ref t, .int a1, .int a2] G (fun (x2 : Int32) (G1 : GH) =>
    if x2 = (nI 0) then
      WP M_TM_dead 0 0 13 [some (.ref t), some (.int a1), some (.int a2), some (.int (nI 0)), none, none, none] [] G1 Q
    else
      ((nI 0) = nI 0 ∨ (nI 0) = nI 1) ∧ Q.1 (nI 0) G1) gNo
set_option maxRecDepth 100000 in
theorem V_TM_dead_0_ok {t : Nat} {a1 : Int32} {a2 : Int32} {G : GH} {Q : GQ} (h : V_TM_dead_0 t a1 a2 G Q) : WP M_TM_dead 0 0 0 [some (.ref t), some (.int a1), some (.int a2), none, none, none, none] [] G Q := WP.ofV (T := T_TM_dead) (hh := []) rfl rfl [(13, [true, true, true, true, false, false, false]), (21, [true, true, true, true, true, false, false]), (30, [true, true, true, true, true, true, false]), (44, [true, true, true, true, true, true, true])] 62 h
theorem E_TM_dead {t : Nat} {a1 : Int32} {a2 : Int32} {G : GH} {K : Int32 → GH → Prop} {KX : String → GH → Prop} (h : V_TM_dead_0 t a1 a2 G (gQi K KX)) : CI M_TM_dead [.ref t, .int a1, .int a2] G K KX := CI.of rfl rfl rfl (V_TM_dead_0_ok h)
def V_TM_dead_13 (t : Nat) (a1 : Int32) (a2 : Int32) (a3 : Int32) (G : GH) (Q : GQ) : Prop :=
  if a3 < (nI 5) then
    WP M_TM_dead 0 0 21 [some (.ref t), some (.int a1), some (.int a2), some (.int a3), some (.int (nI 0)), none, none] [] G Q
  else
    ((nI 1) = nI 0 ∨ (nI 1) = nI 1) ∧ Q.1 (nI 1) G
set_option maxRecDepth 100000 in
theorem V_TM_dead_13_ok {t : Nat} {a1 : Int32} {a2 : Int32} {a3 : Int32} {G : GH} {Q : GQ} (h : V_TM_dead_13 t a1 a2 a3 G Q) : WP M_TM_dead 0 0 13 [some (.ref t), some (.int a1), some (.int a2), some (.int a3), none, none, none] [] G Q := WP.ofV (T := T_TM_dead) (hh := []) rfl rfl [(13, [true, true, true, true, false, false, false]), (21, [true, true, true, true, true, false, false]), (30, [true, true, true, true, true, true, false]), (44, [true, true, true, true, true, true, true])] 62 h
def V_TM_dead_21 (t : Nat) (a1 : Int32) (a2 : Int32) (a3 : Int32) (a4 : Int32) (G : GH) (Q : GQ) : Prop :=
  if a4 < (nI 4) then
    WP M_TM_dead 0 0 30 [some (.ref t), some (.int a1), some (.int a2), some (.int a3), some (.int a4), some (.int (nI 0)), none] [] G Q
  else
    WP M_TM_dead 0 0 13 [some (.ref t), some (.int a1), some (.int a2), some (.int (a3 + nI 1)), none, none, none] [] G Q
set_option maxRecDepth 100000 in
theorem V_TM_dead_21_ok {t : Nat} {a1 : Int32} {a2 : Int32} {a3 : Int32} {a4 : Int32} {G : GH} {Q : GQ} (h : V_TM_dead_21 t a1 a2 a3 a4 G Q) : WP M_TM_dead 0 0 21 [some (.ref t), some (.int a1), some (.int a2), some (.int a3), some (.int a4), none, none] [] G Q := WP.ofV (T := T_TM_dead) (hh := []) rfl rfl [(13, [true, true, true, true, false, false, false]), (21, [true, true, true, true, true, false, false]), (30, [true, true, true, true, true, true, false]), (44, [true, true, true, true, true, true, true])] 62 h
def V_TM_dead_30 (t : Nat) (a1 : Int32) (a2 : Int32) (a3 : Int32) (a4 : Int32) (a5 : Int32) (G : GH) (Q : GQ) : Prop :=
  ∃ (fs1 : List Value) (r2 : Nat), G.2 t = some (.inl (11, fs1)) ∧ fs1[0]? = some (.ref r2) ∧
  ∃ (m3 : Nat) (f4 : Nat → Int32), G.2 r2 = some (.inr (.int, m3, .inl f4)) ∧ vp_in (nI 1) m3 ∧
  if a5 < (f4 (nI 1).toNatClampNeg) then
    WP M_TM_dead 0 0 44 [some (.ref t), some (.int a1), some (.int a2), some (.int a3), some (.int a4), some (.int a5), some (.int (nI 0))] [] G Q
  else
    WP M_TM_dead 0 0 21 [some (.ref t), some (.int a1), some (.int a2), some (.int a3), some (.int (a4 + nI 1)), none, none] [] G Q
set_option maxRecDepth 100000 in
theorem V_TM_dead_30_ok {t : Nat} {a1 : Int32} {a2 : Int32} {a3 : Int32} {a4 : Int32} {a5 : Int32} {G : GH} {Q : GQ} (h : V_TM_dead_30 t a1 a2 a3 a4 a5 G Q) : WP M_TM_dead 0 0 30 [some (.ref t), some (.int a1), some (.int a2), some (.int a3), some (.int a4), some (.int a5), none] [] G Q := WP.ofV (T := T_TM_dead) (hh := []) rfl rfl [(13, [true, true, true, true, false, false, false]), (21, [true, true, true, true, true, false, false]), (30, [true, true, true, true, true, true, false]), (44, [true, true, true, true, true, true, true])] 62 h
def V_TM_dead_44 (t : Nat) (a1 : Int32) (a2 : Int32) (a3 : Int32) (a4 : Int32) (a5 : Int32) (a6 : Int32) (G : GH) (Q : GQ) : Prop :=
  ∃ (fs1 : List Value) (r2 : Nat), G.2 t = some (.inl (11, fs1)) ∧ fs1[0]? = some (.ref r2) ∧
  ∃ (m3 : Nat) (f4 : Nat → Int32), G.2 r2 = some (.inr (.int, m3, .inl f4)) ∧ vp_in (nI 0) m3 ∧
  if a6 < (f4 (nI 0).toNatClampNeg) then
    CI M_TM_misfit [.ref t, .int a3, .int a4, .int a6, .int a5] G (fun (x6 : Int32) (G5 : GH) =>
      if x6 = (nI 0) then
        CI M_TM_covers [.ref t, .int a1, .int a2] G5 (fun (x8 : Int32) (G7 : GH) =>
          if x8 = (nI 0) then
            WP M_TM_dead 0 0 44 [some (.ref t), some (.int a1), some (.int a2), some (.int a3), some (.int a4), some (.int a5), some (.int (a6 + nI 1))] [] G7 Q
          else
            ((nI 0) = nI 0 ∨ (nI 0) = nI 1) ∧ Q.1 (nI 0) G7) gNo
      else
        WP M_TM_dead 0 0 44 [some (.ref t), some (.int a1), some (.int a2), some (.int a3), some (.int a4), some (.int a5), some (.int (a6 + nI 1))] [] G5 Q) gNo
  else
    WP M_TM_dead 0 0 30 [some (.ref t), some (.int a1), some (.int a2), some (.int a3), some (.int a4), some (.int (a5 + nI 1)), none] [] G Q
set_option maxRecDepth 100000 in
theorem V_TM_dead_44_ok {t : Nat} {a1 : Int32} {a2 : Int32} {a3 : Int32} {a4 : Int32} {a5 : Int32} {a6 : Int32} {G : GH} {Q : GQ} (h : V_TM_dead_44 t a1 a2 a3 a4 a5 a6 G Q) : WP M_TM_dead 0 0 44 [some (.ref t), some (.int a1), some (.int a2), some (.int a3), some (.int a4), some (.int a5), some (.int a6)] [] G Q := WP.ofV (T := T_TM_dead) (hh := []) rfl rfl [(13, [true, true, true, true, false, false, false]), (21, [true, true, true, true, true, false, false]), (30, [true, true, true, true, true, true, false]), (44, [true, true, true, true, true, true, true])] 62 h
def V_TM_isDead_0 (t : Nat) (a1 : Int32) (a2 : Int32) (G : GH) (Q : GQ) : Prop :=
  CI M_TM_isInside [.ref t, .int a1, .int a2] G (fun (x2 : Int32) (G1 : GH) =>
    if x2 = (nI 0) then
      WP M_TM_isDead 0 0 15 [some (.ref t), some (.int a1), some (.int a2)] [.int (nI 1), .ref t] G1 Q
    else
      WP M_TM_isDead 0 0 15 [some (.ref t), some (.int a1), some (.int a2)] [.int (nI 0), .ref t] G1 Q) gNo
set_option maxRecDepth 100000 in
theorem V_TM_isDead_0_ok {t : Nat} {a1 : Int32} {a2 : Int32} {G : GH} {Q : GQ} (h : V_TM_isDead_0 t a1 a2 G Q) : WP M_TM_isDead 0 0 0 [some (.ref t), some (.int a1), some (.int a2)] [] G Q := WP.ofV (T := T_TM_isDead) (hh := []) rfl rfl [(15, [true, true, true])] 27 h
theorem E_TM_isDead {t : Nat} {a1 : Int32} {a2 : Int32} {G : GH} {K : Int32 → GH → Prop} {KX : String → GH → Prop} (h : V_TM_isDead_0 t a1 a2 G (gQi K KX)) : CI M_TM_isDead [.ref t, .int a1, .int a2] G K KX := CI.of rfl rfl rfl (V_TM_isDead_0_ok h)
def V_TM_isDead_15 (t : Nat) (a1 : Int32) (a2 : Int32) (s0 : Int32) (s1 : Nat) (G : GH) (Q : GQ) : Prop :=
  CI M_TM_fails [.ref s1, .int s0, .int (nI 0), .int (nI 0)] G (fun (x2 : Int32) (G1 : GH) =>
    if x2 = (nI 0) then
      CI M_TM_dead [.ref t, .int a1, .int a2] G1 (fun (x4 : Int32) (G3 : GH) =>
        if x4 = (nI 0) then
          ((nI 0) = nI 0 ∨ (nI 0) = nI 1) ∧ Q.1 (nI 0) G3
        else
          ((nI 1) = nI 0 ∨ (nI 1) = nI 1) ∧ Q.1 (nI 1) G3) gNo
    else
      ((nI 0) = nI 0 ∨ (nI 0) = nI 1) ∧ Q.1 (nI 0) G1) gNo
set_option maxRecDepth 100000 in
theorem V_TM_isDead_15_ok {t : Nat} {a1 : Int32} {a2 : Int32} {s0 : Int32} {s1 : Nat} {G : GH} {Q : GQ} (h : V_TM_isDead_15 t a1 a2 s0 s1 G Q) : WP M_TM_isDead 0 0 15 [some (.ref t), some (.int a1), some (.int a2)] [.int s0, .ref s1] G Q := WP.ofV (T := T_TM_isDead) (hh := []) rfl rfl [(15, [true, true, true])] 27 h
def V_TM_deadCells_0 (t : Nat) (G : GH) (Q : GQ) : Prop :=
  t < gRB ∧ ∃ (fs1 : List Value), G.2 t = some (.inl (11, fs1)) ∧ gFit 0 (.int (nI 0)) ∧
  let G2 : GH := gU G t (.inl (11, fs1.set 7 (.int (nI 0))));
  WP M_TM_deadCells 0 0 9 [some (.ref t), some (.int (nI 0)), some (.int (nI 0)), none] [] G2 Q
set_option maxRecDepth 100000 in
theorem V_TM_deadCells_0_ok {t : Nat} {G : GH} {Q : GQ} (h : V_TM_deadCells_0 t G Q) : WP M_TM_deadCells 0 0 0 [some (.ref t), none, none, none] [] G Q := WP.ofV (T := T_TM_deadCells) (hh := []) rfl rfl [(9, [true, true, true, false]), (21, [true, true, true, true])] 38 h
theorem E_TM_deadCells {t : Nat} {G : GH} {K : Int32 → GH → Prop} {KX : String → GH → Prop} (h : V_TM_deadCells_0 t G (gQi K KX)) : CI M_TM_deadCells [.ref t] G K KX := CI.of rfl rfl rfl (V_TM_deadCells_0_ok h)
def V_TM_deadCells_9 (t : Nat) (a1 : Int32) (a2 : Int32) (G : GH) (Q : GQ) : Prop :=
  ∃ (fs1 : List Value) (r2 : Nat), G.2 t = some (.inl (11, fs1)) ∧ fs1[0]? = some (.ref r2) ∧
  ∃ (m3 : Nat) (f4 : Nat → Int32), G.2 r2 = some (.inr (.int, m3, .inl f4)) ∧ vp_in (nI 1) m3 ∧
  if a2 < (f4 (nI 1).toNatClampNeg) then
    WP M_TM_deadCells 0 0 21 [some (.ref t), some (.int a1), some (.int a2), some (.int (nI 0))] [] G Q
  else
    Q.1 a1 G
set_option maxRecDepth 100000 in
theorem V_TM_deadCells_9_ok {t : Nat} {a1 : Int32} {a2 : Int32} {G : GH} {Q : GQ} (h : V_TM_deadCells_9 t a1 a2 G Q) : WP M_TM_deadCells 0 0 9 [some (.ref t), some (.int a1), some (.int a2), none] [] G Q := WP.ofV (T := T_TM_deadCells) (hh := []) rfl rfl [(9, [true, true, true, false]), (21, [true, true, true, true])] 38 h
def V_TM_deadCells_21 (t : Nat) (a1 : Int32) (a2 : Int32) (a3 : Int32) (G : GH) (Q : GQ) : Prop :=
  ∃ (fs1 : List Value) (r2 : Nat), G.2 t = some (.inl (11, fs1)) ∧ fs1[0]? = some (.ref r2) ∧
  ∃ (m3 : Nat) (f4 : Nat → Int32), G.2 r2 = some (.inr (.int, m3, .inl f4)) ∧ vp_in (nI 0) m3 ∧
  if a3 < (f4 (nI 0).toNatClampNeg) then
    CI M_TM_dead [.ref t, .int a3, .int a2] G (fun (x6 : Int32) (G5 : GH) =>
      if x6 = (nI 0) then
        WP M_TM_deadCells 0 0 21 [some (.ref t), some (.int a1), some (.int a2), some (.int (a3 + nI 1))] [] G5 Q
      else
        WP M_TM_deadCells 0 0 21 [some (.ref t), some (.int (a1 + nI 1)), some (.int a2), some (.int (a3 + nI 1))] [] G5 Q) gNo
  else
    WP M_TM_deadCells 0 0 9 [some (.ref t), some (.int a1), some (.int (a2 + nI 1)), none] [] G Q
set_option maxRecDepth 100000 in
theorem V_TM_deadCells_21_ok {t : Nat} {a1 : Int32} {a2 : Int32} {a3 : Int32} {G : GH} {Q : GQ} (h : V_TM_deadCells_21 t a1 a2 a3 G Q) : WP M_TM_deadCells 0 0 21 [some (.ref t), some (.int a1), some (.int a2), some (.int a3)] [] G Q := WP.ofV (T := T_TM_deadCells) (hh := []) rfl rfl [(9, [true, true, true, false]), (21, [true, true, true, true])] 38 h
def V_TM_crossed_0 (t : Nat) (G : GH) (Q : GQ) : Prop :=
  WP M_TM_crossed 0 0 4 [some (.ref t), some (.int (nI 0)), some (.int (nI 0)), none, none] [] G Q
set_option maxRecDepth 100000 in
theorem V_TM_crossed_0_ok {t : Nat} {G : GH} {Q : GQ} (h : V_TM_crossed_0 t G Q) : WP M_TM_crossed 0 0 0 [some (.ref t), none, none, none, none] [] G Q := WP.ofV (T := T_TM_crossed) (hh := []) rfl rfl [(4, [true, true, true, false, false]), (16, [true, true, true, true, false]), (84, [true, true, true, true, true])] 86 h
theorem E_TM_crossed {t : Nat} {G : GH} {K : Int32 → GH → Prop} {KX : String → GH → Prop} (h : V_TM_crossed_0 t G (gQi K KX)) : CI M_TM_crossed [.ref t] G K KX := CI.of rfl rfl rfl (V_TM_crossed_0_ok h)
def V_TM_crossed_4 (t : Nat) (a1 : Int32) (a2 : Int32) (G : GH) (Q : GQ) : Prop :=
  ∃ (fs1 : List Value) (r2 : Nat), G.2 t = some (.inl (11, fs1)) ∧ fs1[0]? = some (.ref r2) ∧
  ∃ (m3 : Nat) (f4 : Nat → Int32), G.2 r2 = some (.inr (.int, m3, .inl f4)) ∧ vp_in (nI 1) m3 ∧
  if a2 < (f4 (nI 1).toNatClampNeg) then
    WP M_TM_crossed 0 0 16 [some (.ref t), some (.int a1), some (.int a2), some (.int (nI 0)), none] [] G Q
  else
    Q.1 a1 G
set_option maxRecDepth 100000 in
theorem V_TM_crossed_4_ok {t : Nat} {a1 : Int32} {a2 : Int32} {G : GH} {Q : GQ} (h : V_TM_crossed_4 t a1 a2 G Q) : WP M_TM_crossed 0 0 4 [some (.ref t), some (.int a1), some (.int a2), none, none] [] G Q := WP.ofV (T := T_TM_crossed) (hh := []) rfl rfl [(4, [true, true, true, false, false]), (16, [true, true, true, true, false]), (84, [true, true, true, true, true])] 86 h
def V_TM_crossed_16 (t : Nat) (a1 : Int32) (a2 : Int32) (a3 : Int32) (G : GH) (Q : GQ) : Prop :=
  ∃ (fs1 : List Value) (r2 : Nat), G.2 t = some (.inl (11, fs1)) ∧ fs1[0]? = some (.ref r2) ∧
  ∃ (m3 : Nat) (f4 : Nat → Int32), G.2 r2 = some (.inr (.int, m3, .inl f4)) ∧ vp_in (nI 0) m3 ∧
  if a3 < (f4 (nI 0).toNatClampNeg) then
    CI M_TM_pieceOf [.ref t, .int a3, .int a2] G (fun (x6 : Int32) (G5 : GH) =>
      if x6 = (-nI 1) then
        WP M_TM_crossed 0 0 16 [some (.ref t), some (.int a1), some (.int a2), some (.int (a3 + nI 1)), none] [] G5 Q
      else
        CI M_TM_isEdge [.ref t, .int a3, .int a2, .int (nI 0)] G5 (fun (x8 : Int32) (G7 : GH) =>
          if x8 = (nI 0) then
            WP M_TM_crossed 0 0 84 [some (.ref t), some (.int a1), some (.int a2), some (.int a3), some (.int x6)] [] G7 Q
          else
            ∃ (fs9 : List Value) (r10 : Nat), G7.2 t = some (.inl (11, fs9)) ∧ fs9[0]? = some (.ref r10) ∧
            CI M_TM_edge [.int a3, .int a2, .int (nI 0)] G7 (fun (x12 : Int32) (G11 : GH) =>
              ∃ (m13 : Nat) (f14 : Nat → Int32), G11.2 r10 = some (.inr (.int, m13, .inl f14)) ∧ vp_in x12 m13 ∧
              if (f14 (x12).toNatClampNeg) = (nI 1) then
                CI M_TM_pieceOf [.ref t, .int (a3 + (nI 1)), .int a2] G11 (fun (x16 : Int32) (G15 : GH) =>
                  if x16 = x6 then
                    WP M_TM_crossed 0 0 84 [some (.ref t), some (.int (a1 + nI 1)), some (.int a2), some (.int a3), some (.int x6)] [] G15 Q
                  else
                    WP M_TM_crossed 0 0 84 [some (.ref t), some (.int a1), some (.int a2), some (.int a3), some (.int x6)] [] G15 Q) gNo
              else
                WP M_TM_crossed 0 0 84 [some (.ref t), some (.int a1), some (.int a2), some (.int a3), some (.int x6)] [] G11 Q) gNo) gNo) gNo
  else
    WP M_TM_crossed 0 0 4 [some (.ref t), some (.int a1), some (.int (a2 + nI 1)), none, none] [] G Q
set_option maxRecDepth 100000 in
theorem V_TM_crossed_16_ok {t : Nat} {a1 : Int32} {a2 : Int32} {a3 : Int32} {G : GH} {Q : GQ} (h : V_TM_crossed_16 t a1 a2 a3 G Q) : WP M_TM_crossed 0 0 16 [some (.ref t), some (.int a1), some (.int a2), some (.int a3), none] [] G Q := WP.ofV (T := T_TM_crossed) (hh := []) rfl rfl [(4, [true, true, true, false, false]), (16, [true, true, true, true, false]), (84, [true, true, true, true, true])] 86 h
def V_TM_crossed_84 (t : Nat) (a1 : Int32) (a2 : Int32) (a3 : Int32) (a4 : Int32) (G : GH) (Q : GQ) : Prop :=
  CI M_TM_isEdge [.ref t, .int a3, .int a2, .int (nI 1)] G (fun (x2 : Int32) (G1 : GH) =>
    if x2 = (nI 0) then
      WP M_TM_crossed 0 0 16 [some (.ref t), some (.int a1), some (.int a2), some (.int (a3 + nI 1)), none] [] G1 Q
    else
      ∃ (fs3 : List Value) (r4 : Nat), G1.2 t = some (.inl (11, fs3)) ∧ fs3[0]? = some (.ref r4) ∧
      CI M_TM_edge [.int a3, .int a2, .int (nI 1)] G1 (fun (x6 : Int32) (G5 : GH) =>
        ∃ (m7 : Nat) (f8 : Nat → Int32), G5.2 r4 = some (.inr (.int, m7, .inl f8)) ∧ vp_in x6 m7 ∧
        if (f8 (x6).toNatClampNeg) = (nI 1) then
          CI M_TM_pieceOf [.ref t, .int a3, .int (a2 + (nI 1))] G5 (fun (x10 : Int32) (G9 : GH) =>
            if x10 = a4 then
              WP M_TM_crossed 0 0 16 [some (.ref t), some (.int (a1 + nI 1)), some (.int a2), some (.int (a3 + nI 1)), none] [] G9 Q
            else
              WP M_TM_crossed 0 0 16 [some (.ref t), some (.int a1), some (.int a2), some (.int (a3 + nI 1)), none] [] G9 Q) gNo
        else
          WP M_TM_crossed 0 0 16 [some (.ref t), some (.int a1), some (.int a2), some (.int (a3 + nI 1)), none] [] G5 Q) gNo) gNo
set_option maxRecDepth 100000 in
theorem V_TM_crossed_84_ok {t : Nat} {a1 : Int32} {a2 : Int32} {a3 : Int32} {a4 : Int32} {G : GH} {Q : GQ} (h : V_TM_crossed_84 t a1 a2 a3 a4 G Q) : WP M_TM_crossed 0 0 84 [some (.ref t), some (.int a1), some (.int a2), some (.int a3), some (.int a4)] [] G Q := WP.ofV (T := T_TM_crossed) (hh := []) rfl rfl [(4, [true, true, true, false, false]), (16, [true, true, true, true, false]), (84, [true, true, true, true, true])] 86 h
def V_TM_inconsistencies_0 (t : Nat) (G : GH) (Q : GQ) : Prop :=
  t < gRB ∧ ∃ (fs1 : List Value), G.2 t = some (.inl (11, fs1)) ∧ gFit 0 (.int (nI 0)) ∧
  let G2 : GH := gU G t (.inl (11, fs1.set 7 (.int (nI 0))));
  WP M_TM_inconsistencies 0 0 11 [some (.ref t), some (.int (nI 0)), some (.int (nI 0)), some (.int (nI 0))] [] G2 Q
set_option maxRecDepth 100000 in
theorem V_TM_inconsistencies_0_ok {t : Nat} {G : GH} {Q : GQ} (h : V_TM_inconsistencies_0 t G Q) : WP M_TM_inconsistencies 0 0 0 [some (.ref t), none, none, none] [] G Q := WP.ofV (T := T_TM_inconsistencies) (hh := []) rfl rfl [(11, [true, true, true, true])] 72 h
theorem E_TM_inconsistencies {t : Nat} {G : GH} {K : Int32 → GH → Prop} {KX : String → GH → Prop} (h : V_TM_inconsistencies_0 t G (gQi K KX)) : CI M_TM_inconsistencies [.ref t] G K KX := CI.of rfl rfl rfl (V_TM_inconsistencies_0_ok h)
def V_TM_inconsistencies_11 (t : Nat) (a1 : Int32) (a2 : Int32) (a3 : Int32) (G : GH) (Q : GQ) : Prop :=
  ∃ (fs1 : List Value) (r2 : Nat), G.2 t = some (.inl (11, fs1)) ∧ fs1[0]? = some (.ref r2) ∧
  ∃ (m3 : Nat) (f4 : Nat → Int32), G.2 r2 = some (.inr (.int, m3, .inl f4)) ∧ vp_in (nI 4) m3 ∧
  if a3 < (f4 (nI 4).toNatClampNeg) then
    ∃ (fs5 : List Value) (r6 : Nat), G.2 t = some (.inl (11, fs5)) ∧ fs5[0]? = some (.ref r6) ∧
    ∃ (m7 : Nat) (f8 : Nat → Int32), G.2 r6 = some (.inr (.int, m7, .inl f8)) ∧ vp_in (((nI 225) + (a3 * (nI 6))) + (nI 5)) m7 ∧
    ∃ (fs9 : List Value) (r10 : Nat), G.2 t = some (.inl (11, fs9)) ∧ fs9[0]? = some (.ref r10) ∧
    ∃ (m11 : Nat) (f12 : Nat → Int32), G.2 r10 = some (.inr (.int, m11, .inl f12)) ∧ vp_in (((nI 225) + (a3 * (nI 6))) + (nI 0)) m11 ∧
    CI M_TM_sizeOf [.int (f12 (((nI 225) + (a3 * (nI 6))) + (nI 0)).toNatClampNeg)] G (fun (x14 : Int32) (G13 : GH) =>
      WP M_TM_inconsistencies 0 0 11 [some (.ref t), some (.int (a1 + (f8 (((nI 225) + (a3 * (nI 6))) + (nI 5)).toNatClampNeg))), some (.int (a2 + x14)), some (.int (a3 + nI 1))] [] G13 Q) gNo
  else
    CI M_TM_of [.ref t, .int (nI 0), .int (nI 0)] G (fun (x16 : Int32) (G15 : GH) =>
      CI M_TM_of [.ref t, .int (nI 1), .int (nI 0)] G15 (fun (x18 : Int32) (G17 : GH) =>
        CI M_TM_crossed [.ref t] G17 (fun (x20 : Int32) (G19 : GH) =>
          CI M_TM_counted [.ref t, .int (nI 2)] G19 (fun (x22 : Int32) (G21 : GH) =>
            Q.1 (((if 0 ≤ ((a1 - x16) - x18) then (a1 - x16) - x18 else 0 - ((a1 - x16) - x18)) + x20) + (if 0 ≤ (a2 - x22) then a2 - x22 else 0 - (a2 - x22))) G21) gNo) gNo) gNo) gNo
set_option maxRecDepth 100000 in
theorem V_TM_inconsistencies_11_ok {t : Nat} {a1 : Int32} {a2 : Int32} {a3 : Int32} {G : GH} {Q : GQ} (h : V_TM_inconsistencies_11 t a1 a2 a3 G Q) : WP M_TM_inconsistencies 0 0 11 [some (.ref t), some (.int a1), some (.int a2), some (.int a3)] [] G Q := WP.ofV (T := T_TM_inconsistencies) (hh := []) rfl rfl [(11, [true, true, true, true])] 72 h
def V_TM_coverage_0 (t : Nat) (G : GH) (Q : GQ) : Prop :=
  t < gRB ∧ ∃ (fs1 : List Value), G.2 t = some (.inl (11, fs1)) ∧ gFit 0 (.int (nI 0)) ∧
  let G2 : GH := gU G t (.inl (11, fs1.set 7 (.int (nI 0))));
  ∃ (fs3 : List Value) (r4 : Nat), G2.2 t = some (.inl (11, fs3)) ∧ fs3[0]? = some (.ref r4) ∧
  ∃ (m5 : Nat) (f6 : Nat → Int32), G2.2 r4 = some (.inr (.int, m5, .inl f6)) ∧ vp_in (nI 0) m5 ∧
  ∃ (fs7 : List Value) (r8 : Nat), G2.2 t = some (.inl (11, fs7)) ∧ fs7[0]? = some (.ref r8) ∧
  ∃ (m9 : Nat) (f10 : Nat → Int32), G2.2 r8 = some (.inr (.int, m9, .inl f10)) ∧ vp_in (nI 1) m9 ∧
  CI M_TM_counted [.ref t, .int (nI 1)] G2 (fun (x12 : Int32) (G11 : GH) =>
    if (((f6 (nI 0).toNatClampNeg) * (f10 (nI 1).toNatClampNeg)) - x12) = (nI 0) then
      Q.2.2.2.1 FP.dconst0 G11
    else
      CI M_TM_counted [.ref t, .int (nI 2)] G11 (fun (x14 : Int32) (G13 : GH) =>
        vf_n64 (FP.ddiv (FP.i2d x14) (FP.i2d (((f6 (nI 0).toNatClampNeg) * (f10 (nI 1).toNatClampNeg)) - x12))) ∧
        Q.2.2.2.1 (FP.ddiv (FP.i2d x14) (FP.i2d (((f6 (nI 0).toNatClampNeg) * (f10 (nI 1).toNatClampNeg)) - x12))) G13) gNo) gNo
set_option maxRecDepth 100000 in
theorem V_TM_coverage_0_ok {t : Nat} {G : GH} {Q : GQ} (h : V_TM_coverage_0 t G Q) : WP M_TM_coverage 0 0 0 [some (.ref t), none] [] G Q := WP.ofV (T := T_TM_coverage) (hh := []) rfl rfl [] 34 h
theorem E_TM_coverage {t : Nat} {G : GH} {K : UInt64 → GH → Prop} (h : V_TM_coverage_0 t G (gQd K)) : CD M_TM_coverage [.ref t] G K := CD.of rfl rfl rfl (V_TM_coverage_0_ok h)
def V_TM_meanRegion_0 (t : Nat) (G : GH) (Q : GQ) : Prop :=
  t < gRB ∧ ∃ (fs1 : List Value), G.2 t = some (.inl (11, fs1)) ∧ gFit 0 (.int (nI 0)) ∧
  let G2 : GH := gU G t (.inl (11, fs1.set 7 (.int (nI 0))));
  CI M_TM_regions [.ref t] G2 (fun (x4 : Int32) (G3 : GH) =>
    if x4 = (nI 0) then
      Q.2.2.2.2.1 FP.fconst0 G3
    else
      CI M_TM_allEmpty [.ref t] G3 (fun (x6 : Int32) (G5 : GH) =>
        vf_n32 (FP.fdiv (FP.i2f x6) (FP.i2f x4)) ∧
        Q.2.2.2.2.1 (FP.fdiv (FP.i2f x6) (FP.i2f x4)) G5) gNo) gNo
set_option maxRecDepth 100000 in
theorem V_TM_meanRegion_0_ok {t : Nat} {G : GH} {Q : GQ} (h : V_TM_meanRegion_0 t G Q) : WP M_TM_meanRegion 0 0 0 [some (.ref t), none] [] G Q := WP.ofV (T := T_TM_meanRegion) (hh := []) rfl rfl [] 22 h
theorem E_TM_meanRegion {t : Nat} {G : GH} {K : UInt32 → GH → Prop} (h : V_TM_meanRegion_0 t G (gQf K)) : CF M_TM_meanRegion [.ref t] G K := CF.of rfl rfl rfl (V_TM_meanRegion_0_ok h)
def V_TM_out_0 (t : Nat) (a1 : Int32) (G : GH) (Q : GQ) : Prop :=
  ∃ (fs1 : List Value) (r2 : Nat), G.2 t = some (.inl (11, fs1)) ∧ fs1[9]? = some (.ref r2) ∧
  ∃ (fs3 : List Value) (x4 : Int32), G.2 t = some (.inl (11, fs3)) ∧ fs3[14]? = some (.int x4) ∧
  r2 < gRB ∧ ∃ (m5 : Nat) (f6 : Nat → Int32), G.2 r2 = some (.inr (.int, m5, .inl f6)) ∧ vp_in x4 m5 ∧
  let G7 : GH := gU G r2 (.inr (.int, m5, .inl (upd f6 (x4).toNatClampNeg a1)));
  ∃ (fs8 : List Value) (x9 : Int32), G7.2 t = some (.inl (11, fs8)) ∧ fs8[14]? = some (.int x9) ∧
  t < gRB ∧ ∃ (fs10 : List Value), G7.2 t = some (.inl (11, fs10)) ∧ gFit 0 (.int (x9 + (nI 1))) ∧
  let G11 : GH := gU G7 t (.inl (11, fs10.set 14 (.int (x9 + (nI 1)))));
  Q.2.1 G11
set_option maxRecDepth 100000 in
theorem V_TM_out_0_ok {t : Nat} {a1 : Int32} {G : GH} {Q : GQ} (h : V_TM_out_0 t a1 G Q) : WP M_TM_out 0 0 0 [some (.ref t), some (.int a1)] [] G Q := WP.ofV (T := T_TM_out) (hh := []) rfl rfl [] 18 h
theorem E_TM_out {t : Nat} {a1 : Int32} {G : GH} {K : GH → Prop} {KX : String → GH → Prop} (h : V_TM_out_0 t a1 G (gQv K KX)) : CV M_TM_out [.ref t, .int a1] G K KX := CV.of rfl rfl rfl (V_TM_out_0_ok h)
def V_TM_writeTrunk_0 (t : Nat) (G : GH) (Q : GQ) : Prop :=
  t < gRB ∧ ∃ (fs1 : List Value), G.2 t = some (.inl (11, fs1)) ∧ gFit 0 (.int (nI 0)) ∧
  let G2 : GH := gU G t (.inl (11, fs1.set 7 (.int (nI 0))));
  t < gRB ∧ ∃ (fs3 : List Value), G2.2 t = some (.inl (11, fs3)) ∧ gFit 0 (.int (nI 0)) ∧
  let G4 : GH := gU G2 t (.inl (11, fs3.set 14 (.int (nI 0))));
  WP M_TM_writeTrunk 0 0 12 [some (.ref t), some (.int (nI 0)), none, none] [] G4 Q
set_option maxRecDepth 100000 in
theorem V_TM_writeTrunk_0_ok {t : Nat} {G : GH} {Q : GQ} (h : V_TM_writeTrunk_0 t G Q) : WP M_TM_writeTrunk 0 0 0 [some (.ref t), none, none, none] [] G Q := WP.ofV (T := T_TM_writeTrunk) (hh := []) rfl rfl [(12, [true, true, false, false]), (34, [true, true, true, false]), (98, [true, true, true, true])] 71 h
theorem E_TM_writeTrunk {t : Nat} {G : GH} {K : Int32 → GH → Prop} {KX : String → GH → Prop} (h : V_TM_writeTrunk_0 t G (gQi K KX)) : CI M_TM_writeTrunk [.ref t] G K KX := CI.of rfl rfl rfl (V_TM_writeTrunk_0_ok h)
def V_TM_writeTrunk_12 (t : Nat) (a1 : Int32) (G : GH) (Q : GQ) : Prop :=
  ∃ (fs1 : List Value) (r2 : Nat), G.2 t = some (.inl (11, fs1)) ∧ fs1[0]? = some (.ref r2) ∧
  ∃ (m3 : Nat) (f4 : Nat → Int32), G.2 r2 = some (.inr (.int, m3, .inl f4)) ∧ vp_in (nI 1) m3 ∧
  if a1 < (f4 (nI 1).toNatClampNeg) then
    if (nI 0) < a1 then
      CV M_TM_out [.ref t, .int (nI 10)] G (fun (G5 : GH) =>
        WP M_TM_writeTrunk 0 0 34 [some (.ref t), some (.int a1), some (.int (nI 0)), none] [] G5 Q) gNo
    else
      WP M_TM_writeTrunk 0 0 34 [some (.ref t), some (.int a1), some (.int (nI 0)), none] [] G Q
  else
    ∃ (fs6 : List Value) (x7 : Int32), G.2 t = some (.inl (11, fs6)) ∧ fs6[14]? = some (.int x7) ∧
    Q.1 x7 G
set_option maxRecDepth 100000 in
theorem V_TM_writeTrunk_12_ok {t : Nat} {a1 : Int32} {G : GH} {Q : GQ} (h : V_TM_writeTrunk_12 t a1 G Q) : WP M_TM_writeTrunk 0 0 12 [some (.ref t), some (.int a1), none, none] [] G Q := WP.ofV (T := T_TM_writeTrunk) (hh := []) rfl rfl [(12, [true, true, false, false]), (34, [true, true, true, false]), (98, [true, true, true, true])] 71 h
def V_TM_writeTrunk_34 (t : Nat) (a1 : Int32) (a2 : Int32) (G : GH) (Q : GQ) : Prop :=
  ∃ (fs1 : List Value) (r2 : Nat), G.2 t = some (.inl (11, fs1)) ∧ fs1[0]? = some (.ref r2) ∧
  ∃ (m3 : Nat) (f4 : Nat → Int32), G.2 r2 = some (.inr (.int, m3, .inl f4)) ∧ vp_in (nI 0) m3 ∧
  if a2 < (f4 (nI 0).toNatClampNeg) then
    CI M_TM_pieceOf [.ref t, .int a2, .int a1] G (fun (x6 : Int32) (G5 : GH) =>
      CI M_TM_cell [.ref t, .int a2, .int a1] G5 (fun (x8 : Int32) (G7 : GH) =>
        if x8 = (nI 0) then
          WP M_TM_writeTrunk 0 0 98 [some (.ref t), some (.int a1), some (.int a2), some (.int x6)] [.int (nI 46), .ref t] G7 Q
        else
          CI M_TM_cell [.ref t, .int a2, .int a1] G7 (fun (x10 : Int32) (G9 : GH) =>
            if x10 = (nI 1) then
              WP M_TM_writeTrunk 0 0 98 [some (.ref t), some (.int a1), some (.int a2), some (.int x6)] [.int (nI 35), .ref t] G9 Q
            else
              if x6 < (nI 26) then
                WP M_TM_writeTrunk 0 0 98 [some (.ref t), some (.int a1), some (.int a2), some (.int x6)] [.int ((nI 97) + x6), .ref t] G9 Q
              else
                WP M_TM_writeTrunk 0 0 98 [some (.ref t), some (.int a1), some (.int a2), some (.int x6)] [.int ((nI 39) + x6), .ref t] G9 Q) gNo) gNo) gNo
  else
    WP M_TM_writeTrunk 0 0 12 [some (.ref t), some (.int (a1 + nI 1)), none, none] [] G Q
set_option maxRecDepth 100000 in
theorem V_TM_writeTrunk_34_ok {t : Nat} {a1 : Int32} {a2 : Int32} {G : GH} {Q : GQ} (h : V_TM_writeTrunk_34 t a1 a2 G Q) : WP M_TM_writeTrunk 0 0 34 [some (.ref t), some (.int a1), some (.int a2), none] [] G Q := WP.ofV (T := T_TM_writeTrunk) (hh := []) rfl rfl [(12, [true, true, false, false]), (34, [true, true, true, false]), (98, [true, true, true, true])] 71 h
def V_TM_writeTrunk_98 (t : Nat) (a1 : Int32) (a2 : Int32) (a3 : Int32) (s0 : Int32) (s1 : Nat) (G : GH) (Q : GQ) : Prop :=
  CV M_TM_out [.ref s1, .int s0] G (fun (G1 : GH) =>
    WP M_TM_writeTrunk 0 0 34 [some (.ref t), some (.int a1), some (.int (a2 + nI 1)), none] [] G1 Q) gNo
set_option maxRecDepth 100000 in
theorem V_TM_writeTrunk_98_ok {t : Nat} {a1 : Int32} {a2 : Int32} {a3 : Int32} {s0 : Int32} {s1 : Nat} {G : GH} {Q : GQ} (h : V_TM_writeTrunk_98 t a1 a2 a3 s0 s1 G Q) : WP M_TM_writeTrunk 0 0 98 [some (.ref t), some (.int a1), some (.int a2), some (.int a3)] [.int s0, .ref s1] G Q := WP.ofV (T := T_TM_writeTrunk) (hh := []) rfl rfl [(12, [true, true, false, false]), (34, [true, true, true, false]), (98, [true, true, true, true])] 71 h
def V_TM_outputByte_0 (t : Nat) (a1 : Int32) (G : GH) (Q : GQ) : Prop :=
  t < gRB ∧ ∃ (fs1 : List Value), G.2 t = some (.inl (11, fs1)) ∧ gFit 0 (.int (nI 0)) ∧
  let G2 : GH := gU G t (.inl (11, fs1.set 7 (.int (nI 0))));
  ∃ (fs3 : List Value) (x4 : Int32), G2.2 t = some (.inl (11, fs3)) ∧ fs3[14]? = some (.int x4) ∧
  CI M_TM_isIn [.int a1, .int (nI 0), .int (x4 - (nI 1))] G2 (fun (x6 : Int32) (G5 : GH) =>
    if x6 = (nI 0) then
      Q.1 (-nI 1) G5
    else
      ∃ (fs7 : List Value) (r8 : Nat), G5.2 t = some (.inl (11, fs7)) ∧ fs7[9]? = some (.ref r8) ∧
      ∃ (m9 : Nat) (f10 : Nat → Int32), G5.2 r8 = some (.inr (.int, m9, .inl f10)) ∧ vp_in a1 m9 ∧
      Q.1 (f10 (a1).toNatClampNeg) G5) gNo
set_option maxRecDepth 100000 in
theorem V_TM_outputByte_0_ok {t : Nat} {a1 : Int32} {G : GH} {Q : GQ} (h : V_TM_outputByte_0 t a1 G Q) : WP M_TM_outputByte 0 0 0 [some (.ref t), some (.int a1)] [] G Q := WP.ofV (T := T_TM_outputByte) (hh := []) rfl rfl [] 23 h
theorem E_TM_outputByte {t : Nat} {a1 : Int32} {G : GH} {K : Int32 → GH → Prop} {KX : String → GH → Prop} (h : V_TM_outputByte_0 t a1 G (gQi K KX)) : CI M_TM_outputByte [.ref t, .int a1] G K KX := CI.of rfl rfl rfl (V_TM_outputByte_0_ok h)
