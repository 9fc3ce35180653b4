def V_Fp_init_0 (t : Nat) (G : GH) (Q : GQ) : Prop :=
  t < gRB ∧ ∃ (fs1 : List Value), G.2 t = some (.inl (2, fs1)) ∧ gFit 0 (.int (nI 0)) ∧
  let G2 : GH := gU G t (.inl (2, fs1.set 0 (.int (nI 0))));
  t < gRB ∧ ∃ (fs3 : List Value), G2.2 t = some (.inl (2, fs3)) ∧ gFit 0 (.int (nI 0)) ∧
  let G4 : GH := gU G2 t (.inl (2, fs3.set 1 (.int (nI 0))));
  t < gRB ∧ ∃ (fs5 : List Value), G4.2 t = some (.inl (2, fs5)) ∧ gFit 0 (.int (nI 0)) ∧
  let G6 : GH := gU G4 t (.inl (2, fs5.set 2 (.int (nI 0))));
  t < gRB ∧ ∃ (fs7 : List Value), G6.2 t = some (.inl (2, fs7)) ∧ gFit 0 (.int (nI 0)) ∧
  let G8 : GH := gU G6 t (.inl (2, fs7.set 3 (.int (nI 0))));
  t < gRB ∧ ∃ (fs9 : List Value), G8.2 t = some (.inl (2, fs9)) ∧ gFit 0 (.int (nI 0)) ∧
  let G10 : GH := gU G8 t (.inl (2, fs9.set 4 (.int (nI 0))));
  WP M_Fp_init 5 20 29 [some (.ref t)] [] G10 Q
set_option maxRecDepth 100000 in
theorem V_Fp_init_0_ok {t : Nat} {G : GH} {Q : GQ} (h : V_Fp_init_0 t G Q) : WP M_Fp_init 5 20 0 [some (.ref t)] [] G Q := WP.ofV (T := T_Fp_init) (hh := []) rfl rfl [(29, [true]), (48, [true]), (69, [true])] 46 h
theorem E_Fp_init {t : Nat} {G : GH} {K : GH → Prop} {KX : String → GH → Prop} (h : V_Fp_init_0 t G (gQv K KX)) : CV M_Fp_init [.ref t] G K KX := CV.of rfl rfl rfl (V_Fp_init_0_ok h)
def V_Fp_init_29 (rc rs : Nat) (t : Nat) (G : GH) (Q : GQ) : Prop :=
  t < gRB ∧ ∃ (fs1 : List Value), G.2 t = some (.inl (2, fs1)) ∧ gFit 0 (.int (nI 0)) ∧
  let G2 : GH := gU G t (.inl (2, fs1.set 5 (.int (nI 0))));
  1 ≤ rc ∧ 0 < G2.1 ∧ G2.1 < gRB ∧ ∃ (m3 : Nat), (nI 4) = nI m3 ∧ m3 ≤ 100000 ∧ m3 ≤ rs ∧
  let G4 : GH := gPush G2 (.inr (.int, m3, .inl fun _ => 0));
  t < gRB ∧ ∃ (fs5 : List Value), G4.2 t = some (.inl (2, fs5)) ∧ gFit 1 (.ref G2.1) ∧
  let G6 : GH := gU G4 t (.inl (2, fs5.set 6 (.ref G2.1)));
  1 ≤ (rc - 1) ∧ 0 < G6.1 ∧ G6.1 < gRB ∧ ∃ (m7 : Nat), (nI 4) = nI m7 ∧ m7 ≤ 100000 ∧ m7 ≤ (rs - m3) ∧
  let G8 : GH := gPush G6 (.inr (.int, m7, .inl fun _ => 0));
  t < gRB ∧ ∃ (fs9 : List Value), G8.2 t = some (.inl (2, fs9)) ∧ gFit 1 (.ref G6.1) ∧
  let G10 : GH := gU G8 t (.inl (2, fs9.set 7 (.ref G6.1)));
  WP M_Fp_init ((rc - 1) - 1) ((rs - m3) - m7) 48 [some (.ref t)] [] G10 Q
set_option maxRecDepth 100000 in
theorem V_Fp_init_29_ok {rc rs : Nat} {t : Nat} {G : GH} {Q : GQ} (h : V_Fp_init_29 rc rs t G Q) : WP M_Fp_init rc rs 29 [some (.ref t)] [] G Q := WP.ofV (T := T_Fp_init) (hh := []) rfl rfl [(29, [true]), (48, [true]), (69, [true])] 46 h
def V_Fp_init_48 (rc rs : Nat) (t : Nat) (G : GH) (Q : GQ) : Prop :=
  1 ≤ rc ∧ 0 < G.1 ∧ G.1 < gRB ∧ ∃ (m1 : Nat), (nI 4) = nI m1 ∧ m1 ≤ 100000 ∧ m1 ≤ rs ∧
  let G2 : GH := gPush G (.inr (.int, m1, .inl fun _ => 0));
  t < gRB ∧ ∃ (fs3 : List Value), G2.2 t = some (.inl (2, fs3)) ∧ gFit 1 (.ref G.1) ∧
  let G4 : GH := gU G2 t (.inl (2, fs3.set 8 (.ref G.1)));
  1 ≤ (rc - 1) ∧ 0 < G4.1 ∧ G4.1 < gRB ∧ ∃ (m5 : Nat), (nI 4) = nI m5 ∧ m5 ≤ 100000 ∧ m5 ≤ (rs - m1) ∧
  let G6 : GH := gPush G4 (.inr (.int, m5, .inl fun _ => 0));
  t < gRB ∧ ∃ (fs7 : List Value), G6.2 t = some (.inl (2, fs7)) ∧ gFit 1 (.ref G4.1) ∧
  let G8 : GH := gU G6 t (.inl (2, fs7.set 9 (.ref G4.1)));
  1 ≤ ((rc - 1) - 1) ∧ 0 < G8.1 ∧ G8.1 < gRB ∧ ∃ (m9 : Nat), (nI 4) = nI m9 ∧ m9 ≤ 100000 ∧ m9 ≤ ((rs - m1) - m5) ∧
  let G10 : GH := gPush G8 (.inr (.int, m9, .inl fun _ => 0));
  t < gRB ∧ ∃ (fs11 : List Value), G10.2 t = some (.inl (2, fs11)) ∧ gFit 1 (.ref G8.1) ∧
  let G12 : GH := gU G10 t (.inl (2, fs11.set 10 (.ref G8.1)));
  WP M_Fp_init (((rc - 1) - 1) - 1) (((rs - m1) - m5) - m9) 69 [some (.ref t)] [] G12 Q
set_option maxRecDepth 100000 in
theorem V_Fp_init_48_ok {rc rs : Nat} {t : Nat} {G : GH} {Q : GQ} (h : V_Fp_init_48 rc rs t G Q) : WP M_Fp_init rc rs 48 [some (.ref t)] [] G Q := WP.ofV (T := T_Fp_init) (hh := []) rfl rfl [(29, [true]), (48, [true]), (69, [true])] 46 h
def V_Fp_init_69 (rc rs : Nat) (t : Nat) (G : GH) (Q : GQ) : Prop :=
  Q.2.1 G
set_option maxRecDepth 100000 in
theorem V_Fp_init_69_ok {rc rs : Nat} {t : Nat} {G : GH} {Q : GQ} (h : V_Fp_init_69 rc rs t G Q) : WP M_Fp_init rc rs 69 [some (.ref t)] [] G Q := WP.ofV (T := T_Fp_init) (hh := []) rfl rfl [(29, [true]), (48, [true]), (69, [true])] 46 h
def V_Fp_turn_0 (t : Nat) (a1 : Int32) (a2 : Int32) (G : GH) (Q : GQ) : Prop :=
  t < gRB ∧ ∃ (fs1 : List Value), G.2 t = some (.inl (2, fs1)) ∧ gFit 0 (.int a1) ∧
  let G2 : GH := gU G t (.inl (2, fs1.set 0 (.int a1)));
  t < gRB ∧ ∃ (fs3 : List Value), G2.2 t = some (.inl (2, fs3)) ∧ gFit 0 (.int a2) ∧
  let G4 : GH := gU G2 t (.inl (2, fs3.set 1 (.int a2)));
  if a1 < (nI 0) then
    WP M_Fp_turn 0 0 29 [some (.ref t), some (.int a1), some (.int a2), none, none, none, none, none] [.int (nI 0), .ref t] G4 Q
  else
    if a1 < (nI 5) then
      ∃ (m5 : Nat) (f6 : Nat → Int32), G4.2 100000 = some (.inr (.int, m5, .inl f6)) ∧ vp_in a1 m5 ∧
      WP M_Fp_turn 0 0 29 [some (.ref t), some (.int a1), some (.int a2), none, none, none, none, none] [.int (f6 (a1).toNatClampNeg), .ref t] G4 Q
    else
      WP M_Fp_turn 0 0 29 [some (.ref t), some (.int a1), some (.int a2), none, none, none, none, none] [.int (nI 0), .ref t] G4 Q
set_option maxRecDepth 100000 in
theorem V_Fp_turn_0_ok {t : Nat} {a1 : Int32} {a2 : Int32} {G : GH} {Q : GQ} (h : V_Fp_turn_0 t a1 a2 G Q) : WP M_Fp_turn 0 0 0 [some (.ref t), some (.int a1), some (.int a2), none, none, none, none, none] [] G Q := WP.ofV (T := T_Fp_turn) (hh := []) rfl rfl [(29, [true, true, true, false, false, false, false, false]), (34, [true, true, true, true, false, false, false, false]), (67, [true, true, true, true, true, true, true, false])] 74 h
theorem E_Fp_turn {t : Nat} {a1 : Int32} {a2 : Int32} {G : GH} {K : GH → Prop} {KX : String → GH → Prop} (h : V_Fp_turn_0 t a1 a2 G (gQv K KX)) : CV M_Fp_turn [.ref t, .int a1, .int a2] G K KX := CV.of rfl rfl rfl (V_Fp_turn_0_ok h)
def V_Fp_turn_29 (t : Nat) (a1 : Int32) (a2 : Int32) (s0 : Int32) (s1 : Nat) (G : GH) (Q : GQ) : Prop :=
  s1 < gRB ∧ ∃ (fs1 : List Value), G.2 s1 = some (.inl (2, fs1)) ∧ gFit 0 (.int s0) ∧
  let G2 : GH := gU G s1 (.inl (2, fs1.set 4 (.int s0)));
  WP M_Fp_turn 0 0 34 [some (.ref t), some (.int a1), some (.int a2), some (.int (nI 0)), none, none, none, none] [] G2 Q
set_option maxRecDepth 100000 in
theorem V_Fp_turn_29_ok {t : Nat} {a1 : Int32} {a2 : Int32} {s0 : Int32} {s1 : Nat} {G : GH} {Q : GQ} (h : V_Fp_turn_29 t a1 a2 s0 s1 G Q) : WP M_Fp_turn 0 0 29 [some (.ref t), some (.int a1), some (.int a2), none, none, none, none, none] [.int s0, .ref s1] G Q := WP.ofV (T := T_Fp_turn) (hh := []) rfl rfl [(29, [true, true, true, false, false, false, false, false]), (34, [true, true, true, true, false, false, false, false]), (67, [true, true, true, true, true, true, true, false])] 74 h
def V_Fp_turn_34 (t : Nat) (a1 : Int32) (a2 : Int32) (a3 : Int32) (G : GH) (Q : GQ) : Prop :=
  ∃ (fs1 : List Value) (x2 : Int32), G.2 t = some (.inl (2, fs1)) ∧ fs1[4]? = some (.int x2) ∧
  if a3 < x2 then
    ∃ (m3 : Nat) (f4 : Nat → Int32), G.2 100001 = some (.inr (.int, m3, .inl f4)) ∧ vp_in ((a1 * (nI 4)) + a3) m3 ∧
    ∃ (m5 : Nat) (f6 : Nat → Int32), G.2 100002 = some (.inr (.int, m5, .inl f6)) ∧ vp_in ((a1 * (nI 4)) + a3) m5 ∧
    WP M_Fp_turn 0 0 67 [some (.ref t), some (.int a1), some (.int a2), some (.int a3), some (.int (f4 ((a1 * (nI 4)) + a3).toNatClampNeg)), some (.int (f6 ((a1 * (nI 4)) + a3).toNatClampNeg)), some (.int (nI 0)), none] [] G Q
  else
    CV M_Fp_findEdges [.ref t] G (fun (G7 : GH) =>
      Q.2.1 G7) gNo
set_option maxRecDepth 100000 in
theorem V_Fp_turn_34_ok {t : Nat} {a1 : Int32} {a2 : Int32} {a3 : Int32} {G : GH} {Q : GQ} (h : V_Fp_turn_34 t a1 a2 a3 G Q) : WP M_Fp_turn 0 0 34 [some (.ref t), some (.int a1), some (.int a2), some (.int a3), none, none, none, none] [] G Q := WP.ofV (T := T_Fp_turn) (hh := []) rfl rfl [(29, [true, true, true, false, false, false, false, false]), (34, [true, true, true, true, false, false, false, false]), (67, [true, true, true, true, true, true, true, false])] 74 h
def V_Fp_turn_67 (t : Nat) (a1 : Int32) (a2 : Int32) (a3 : Int32) (a4 : Int32) (a5 : Int32) (a6 : Int32) (G : GH) (Q : GQ) : Prop :=
  if a6 < a2 then
    WP M_Fp_turn 0 0 67 [some (.ref t), some (.int a1), some (.int a2), some (.int a3), some (.int (-a5)), some (.int a4), some (.int (a6 + nI 1)), none] [] G Q
  else
    ∃ (fs1 : List Value) (r2 : Nat), G.2 t = some (.inl (2, fs1)) ∧ fs1[6]? = some (.ref r2) ∧
    r2 < gRB ∧ ∃ (m3 : Nat) (f4 : Nat → Int32), G.2 r2 = some (.inr (.int, m3, .inl f4)) ∧ vp_in a3 m3 ∧
    let G5 : GH := gU G r2 (.inr (.int, m3, .inl (upd f4 (a3).toNatClampNeg a4)));
    ∃ (fs6 : List Value) (r7 : Nat), G5.2 t = some (.inl (2, fs6)) ∧ fs6[7]? = some (.ref r7) ∧
    r7 < gRB ∧ ∃ (m8 : Nat) (f9 : Nat → Int32), G5.2 r7 = some (.inr (.int, m8, .inl f9)) ∧ vp_in a3 m8 ∧
    let G10 : GH := gU G5 r7 (.inr (.int, m8, .inl (upd f9 (a3).toNatClampNeg a5)));
    WP M_Fp_turn 0 0 34 [some (.ref t), some (.int a1), some (.int a2), some (.int (a3 + nI 1)), none, none, none, none] [] G10 Q
set_option maxRecDepth 100000 in
theorem V_Fp_turn_67_ok {t : Nat} {a1 : Int32} {a2 : Int32} {a3 : Int32} {a4 : Int32} {a5 : Int32} {a6 : Int32} {G : GH} {Q : GQ} (h : V_Fp_turn_67 t a1 a2 a3 a4 a5 a6 G Q) : WP M_Fp_turn 0 0 67 [some (.ref t), some (.int a1), some (.int a2), some (.int a3), some (.int a4), some (.int a5), some (.int a6), none] [] G Q := WP.ofV (T := T_Fp_turn) (hh := []) rfl rfl [(29, [true, true, true, false, false, false, false, false]), (34, [true, true, true, true, false, false, false, false]), (67, [true, true, true, true, true, true, true, false])] 74 h
def V_Fp_moveTo_0 (t : Nat) (a1 : Int32) (a2 : Int32) (G : GH) (Q : GQ) : Prop :=
  t < gRB ∧ ∃ (fs1 : List Value), G.2 t = some (.inl (2, fs1)) ∧ gFit 0 (.int a1) ∧
  let G2 : GH := gU G t (.inl (2, fs1.set 2 (.int a1)));
  t < gRB ∧ ∃ (fs3 : List Value), G2.2 t = some (.inl (2, fs3)) ∧ gFit 0 (.int a2) ∧
  let G4 : GH := gU G2 t (.inl (2, fs3.set 3 (.int a2)));
  Q.2.1 G4
set_option maxRecDepth 100000 in
theorem V_Fp_moveTo_0_ok {t : Nat} {a1 : Int32} {a2 : Int32} {G : GH} {Q : GQ} (h : V_Fp_moveTo_0 t a1 a2 G Q) : WP M_Fp_moveTo 0 0 0 [some (.ref t), some (.int a1), some (.int a2)] [] G Q := WP.ofV (T := T_Fp_moveTo) (hh := []) rfl rfl [] 12 h
theorem E_Fp_moveTo {t : Nat} {a1 : Int32} {a2 : Int32} {G : GH} {K : GH → Prop} {KX : String → GH → Prop} (h : V_Fp_moveTo_0 t a1 a2 G (gQv K KX)) : CV M_Fp_moveTo [.ref t, .int a1, .int a2] G K KX := CV.of rfl rfl rfl (V_Fp_moveTo_0_ok h)
def V_Fp_startAll_0 (t : Nat) (a1 : Int32) (G : GH) (Q : GQ) : Prop :=
  CV M_Fp_turn [.ref t, .int a1, .int (nI 0)] G (fun (G1 : GH) =>
    CV M_Fp_moveTo [.ref t, .int (-nI 1), .int (nI 0)] G1 (fun (G2 : GH) =>
      Q.2.1 G2) gNo) gNo
set_option maxRecDepth 100000 in
theorem V_Fp_startAll_0_ok {t : Nat} {a1 : Int32} {G : GH} {Q : GQ} (h : V_Fp_startAll_0 t a1 G Q) : WP M_Fp_startAll 0 0 0 [some (.ref t), some (.int a1)] [] G Q := WP.ofV (T := T_Fp_startAll) (hh := []) rfl rfl [] 14 h
theorem E_Fp_startAll {t : Nat} {a1 : Int32} {G : GH} {K : GH → Prop} {KX : String → GH → Prop} (h : V_Fp_startAll_0 t a1 G (gQv K KX)) : CV M_Fp_startAll [.ref t, .int a1] G K KX := CV.of rfl rfl rfl (V_Fp_startAll_0_ok h)
def V_Fp_advance_0 (t : Nat) (a1 : Int32) (a2 : Int32) (G : GH) (Q : GQ) : Prop :=
  ∃ (fs1 : List Value) (x2 : Int32), G.2 t = some (.inl (2, fs1)) ∧ fs1[2]? = some (.int x2) ∧
  t < gRB ∧ ∃ (fs3 : List Value), G.2 t = some (.inl (2, fs3)) ∧ gFit 0 (.int (x2 + (nI 1))) ∧
  let G4 : GH := gU G t (.inl (2, fs3.set 2 (.int (x2 + (nI 1)))));
  ∃ (fs5 : List Value) (x6 : Int32), G4.2 t = some (.inl (2, fs5)) ∧ fs5[2]? = some (.int x6) ∧
  if x6 < a1 then
    ((nI 1) = nI 0 ∨ (nI 1) = nI 1) ∧ Q.1 (nI 1) G4
  else
    t < gRB ∧ ∃ (fs7 : List Value), G4.2 t = some (.inl (2, fs7)) ∧ gFit 0 (.int (nI 0)) ∧
    let G8 : GH := gU G4 t (.inl (2, fs7.set 2 (.int (nI 0))));
    ∃ (fs9 : List Value) (x10 : Int32), G8.2 t = some (.inl (2, fs9)) ∧ fs9[3]? = some (.int x10) ∧
    t < gRB ∧ ∃ (fs11 : List Value), G8.2 t = some (.inl (2, fs11)) ∧ gFit 0 (.int (x10 + (nI 1))) ∧
    let G12 : GH := gU G8 t (.inl (2, fs11.set 3 (.int (x10 + (nI 1)))));
    ∃ (fs13 : List Value) (x14 : Int32), G12.2 t = some (.inl (2, fs13)) ∧ fs13[3]? = some (.int x14) ∧
    if x14 < a2 then
      ((nI 1) = nI 0 ∨ (nI 1) = nI 1) ∧ Q.1 (nI 1) G12
    else
      t < gRB ∧ ∃ (fs15 : List Value), G12.2 t = some (.inl (2, fs15)) ∧ gFit 0 (.int (nI 0)) ∧
      let G16 : GH := gU G12 t (.inl (2, fs15.set 3 (.int (nI 0))));
      ∃ (fs17 : List Value) (x18 : Int32), G16.2 t = some (.inl (2, fs17)) ∧ fs17[1]? = some (.int x18) ∧
      if x18 < (nI 3) then
        ∃ (fs19 : List Value) (x20 : Int32), G16.2 t = some (.inl (2, fs19)) ∧ fs19[0]? = some (.int x20) ∧
        ∃ (fs21 : List Value) (x22 : Int32), G16.2 t = some (.inl (2, fs21)) ∧ fs21[1]? = some (.int x22) ∧
        CV M_Fp_turn [.ref t, .int x20, .int (x22 + (nI 1))] G16 (fun (G23 : GH) =>
          ((nI 1) = nI 0 ∨ (nI 1) = nI 1) ∧ Q.1 (nI 1) G23) gNo
      else
        ((nI 0) = nI 0 ∨ (nI 0) = nI 1) ∧ Q.1 (nI 0) G16
set_option maxRecDepth 100000 in
theorem V_Fp_advance_0_ok {t : Nat} {a1 : Int32} {a2 : Int32} {G : GH} {Q : GQ} (h : V_Fp_advance_0 t a1 a2 G Q) : WP M_Fp_advance 0 0 0 [some (.ref t), some (.int a1), some (.int a2)] [] G Q := WP.ofV (T := T_Fp_advance) (hh := []) rfl rfl [] 51 h
theorem E_Fp_advance {t : Nat} {a1 : Int32} {a2 : Int32} {G : GH} {K : Int32 → GH → Prop} {KX : String → GH → Prop} (h : V_Fp_advance_0 t a1 a2 G (gQi K KX)) : CI M_Fp_advance [.ref t, .int a1, .int a2] G K KX := CI.of rfl rfl rfl (V_Fp_advance_0_ok h)
def V_Fp_columnOf_0 (t : Nat) (a1 : Int32) (G : GH) (Q : GQ) : Prop :=
  if a1 < (nI 0) then
    Q.1 (-nI 1) G
  else
    if a1 < (nI 4) then
      ∃ (fs1 : List Value) (x2 : Int32), G.2 t = some (.inl (2, fs1)) ∧ fs1[2]? = some (.int x2) ∧
      ∃ (fs3 : List Value) (r4 : Nat), G.2 t = some (.inl (2, fs3)) ∧ fs3[6]? = some (.ref r4) ∧
      ∃ (m5 : Nat) (f6 : Nat → Int32), G.2 r4 = some (.inr (.int, m5, .inl f6)) ∧ vp_in a1 m5 ∧
      Q.1 (x2 + (f6 (a1).toNatClampNeg)) G
    else
      Q.1 (-nI 1) G
set_option maxRecDepth 100000 in
theorem V_Fp_columnOf_0_ok {t : Nat} {a1 : Int32} {G : GH} {Q : GQ} (h : V_Fp_columnOf_0 t a1 G Q) : WP M_Fp_columnOf 0 0 0 [some (.ref t), some (.int a1)] [] G Q := WP.ofV (T := T_Fp_columnOf) (hh := []) rfl rfl [] 20 h
theorem E_Fp_columnOf {t : Nat} {a1 : Int32} {G : GH} {K : Int32 → GH → Prop} {KX : String → GH → Prop} (h : V_Fp_columnOf_0 t a1 G (gQi K KX)) : CI M_Fp_columnOf [.ref t, .int a1] G K KX := CI.of rfl rfl rfl (V_Fp_columnOf_0_ok h)
def V_Fp_rowOf_0 (t : Nat) (a1 : Int32) (G : GH) (Q : GQ) : Prop :=
  if a1 < (nI 0) then
    Q.1 (-nI 1) G
  else
    if a1 < (nI 4) then
      ∃ (fs1 : List Value) (x2 : Int32), G.2 t = some (.inl (2, fs1)) ∧ fs1[3]? = some (.int x2) ∧
      ∃ (fs3 : List Value) (r4 : Nat), G.2 t = some (.inl (2, fs3)) ∧ fs3[7]? = some (.ref r4) ∧
      ∃ (m5 : Nat) (f6 : Nat → Int32), G.2 r4 = some (.inr (.int, m5, .inl f6)) ∧ vp_in a1 m5 ∧
      Q.1 (x2 + (f6 (a1).toNatClampNeg)) G
    else
      Q.1 (-nI 1) G
set_option maxRecDepth 100000 in
theorem V_Fp_rowOf_0_ok {t : Nat} {a1 : Int32} {G : GH} {Q : GQ} (h : V_Fp_rowOf_0 t a1 G Q) : WP M_Fp_rowOf 0 0 0 [some (.ref t), some (.int a1)] [] G Q := WP.ofV (T := T_Fp_rowOf) (hh := []) rfl rfl [] 20 h
theorem E_Fp_rowOf {t : Nat} {a1 : Int32} {G : GH} {K : Int32 → GH → Prop} {KX : String → GH → Prop} (h : V_Fp_rowOf_0 t a1 G (gQi K KX)) : CI M_Fp_rowOf [.ref t, .int a1] G K KX := CI.of rfl rfl rfl (V_Fp_rowOf_0_ok h)
def V_Fp_edgeColumnOf_0 (t : Nat) (a1 : Int32) (G : GH) (Q : GQ) : Prop :=
  if a1 < (nI 0) then
    Q.1 (-nI 1) G
  else
    if a1 < (nI 4) then
      ∃ (fs1 : List Value) (x2 : Int32), G.2 t = some (.inl (2, fs1)) ∧ fs1[2]? = some (.int x2) ∧
      ∃ (fs3 : List Value) (r4 : Nat), G.2 t = some (.inl (2, fs3)) ∧ fs3[8]? = some (.ref r4) ∧
      ∃ (m5 : Nat) (f6 : Nat → Int32), G.2 r4 = some (.inr (.int, m5, .inl f6)) ∧ vp_in a1 m5 ∧
      Q.1 (x2 + (f6 (a1).toNatClampNeg)) G
    else
      Q.1 (-nI 1) G
set_option maxRecDepth 100000 in
theorem V_Fp_edgeColumnOf_0_ok {t : Nat} {a1 : Int32} {G : GH} {Q : GQ} (h : V_Fp_edgeColumnOf_0 t a1 G Q) : WP M_Fp_edgeColumnOf 0 0 0 [some (.ref t), some (.int a1)] [] G Q := WP.ofV (T := T_Fp_edgeColumnOf) (hh := []) rfl rfl [] 20 h
theorem E_Fp_edgeColumnOf {t : Nat} {a1 : Int32} {G : GH} {K : Int32 → GH → Prop} {KX : String → GH → Prop} (h : V_Fp_edgeColumnOf_0 t a1 G (gQi K KX)) : CI M_Fp_edgeColumnOf [.ref t, .int a1] G K KX := CI.of rfl rfl rfl (V_Fp_edgeColumnOf_0_ok h)
def V_Fp_edgeRowOf_0 (t : Nat) (a1 : Int32) (G : GH) (Q : GQ) : Prop :=
  if a1 < (nI 0) then
    Q.1 (-nI 1) G
  else
    if a1 < (nI 4) then
      ∃ (fs1 : List Value) (x2 : Int32), G.2 t = some (.inl (2, fs1)) ∧ fs1[3]? = some (.int x2) ∧
      ∃ (fs3 : List Value) (r4 : Nat), G.2 t = some (.inl (2, fs3)) ∧ fs3[9]? = some (.ref r4) ∧
      ∃ (m5 : Nat) (f6 : Nat → Int32), G.2 r4 = some (.inr (.int, m5, .inl f6)) ∧ vp_in a1 m5 ∧
      Q.1 (x2 + (f6 (a1).toNatClampNeg)) G
    else
      Q.1 (-nI 1) G
set_option maxRecDepth 100000 in
theorem V_Fp_edgeRowOf_0_ok {t : Nat} {a1 : Int32} {G : GH} {Q : GQ} (h : V_Fp_edgeRowOf_0 t a1 G Q) : WP M_Fp_edgeRowOf 0 0 0 [some (.ref t), some (.int a1)] [] G Q := WP.ofV (T := T_Fp_edgeRowOf) (hh := []) rfl rfl [] 20 h
theorem E_Fp_edgeRowOf {t : Nat} {a1 : Int32} {G : GH} {K : Int32 → GH → Prop} {KX : String → GH → Prop} (h : V_Fp_edgeRowOf_0 t a1 G (gQi K KX)) : CI M_Fp_edgeRowOf [.ref t, .int a1] G K KX := CI.of rfl rfl rfl (V_Fp_edgeRowOf_0_ok h)
def V_Fp_sideOf_0 (t : Nat) (a1 : Int32) (G : GH) (Q : GQ) : Prop :=
  if a1 < (nI 0) then
    Q.1 (-nI 1) G
  else
    if a1 < (nI 4) then
      ∃ (fs1 : List Value) (r2 : Nat), G.2 t = some (.inl (2, fs1)) ∧ fs1[10]? = some (.ref r2) ∧
      ∃ (m3 : Nat) (f4 : Nat → Int32), G.2 r2 = some (.inr (.int, m3, .inl f4)) ∧ vp_in a1 m3 ∧
      Q.1 (f4 (a1).toNatClampNeg) G
    else
      Q.1 (-nI 1) G
set_option maxRecDepth 100000 in
theorem V_Fp_sideOf_0_ok {t : Nat} {a1 : Int32} {G : GH} {Q : GQ} (h : V_Fp_sideOf_0 t a1 G Q) : WP M_Fp_sideOf 0 0 0 [some (.ref t), some (.int a1)] [] G Q := WP.ofV (T := T_Fp_sideOf) (hh := []) rfl rfl [] 17 h
theorem E_Fp_sideOf {t : Nat} {a1 : Int32} {G : GH} {K : Int32 → GH → Prop} {KX : String → GH → Prop} (h : V_Fp_sideOf_0 t a1 G (gQi K KX)) : CI M_Fp_sideOf [.ref t, .int a1] G K KX := CI.of rfl rfl rfl (V_Fp_sideOf_0_ok h)
def V_Fp_findEdges_0 (t : Nat) (G : GH) (Q : GQ) : Prop :=
  t < gRB ∧ ∃ (fs1 : List Value), G.2 t = some (.inl (2, fs1)) ∧ gFit 0 (.int (nI 0)) ∧
  let G2 : GH := gU G t (.inl (2, fs1.set 5 (.int (nI 0))));
  WP M_Fp_findEdges 0 0 7 [some (.ref t), some (.int (nI 0)), none, none, none] [] G2 Q
set_option maxRecDepth 100000 in
theorem V_Fp_findEdges_0_ok {t : Nat} {G : GH} {Q : GQ} (h : V_Fp_findEdges_0 t G Q) : WP M_Fp_findEdges 0 0 0 [some (.ref t), none, none, none, none] [] G Q := WP.ofV (T := T_Fp_findEdges) (hh := []) rfl rfl [(7, [true, true, false, false, false]), (19, [true, true, true, false, false]), (144, [true, true, true, true, true])] 102 h
theorem E_Fp_findEdges {t : Nat} {G : GH} {K : GH → Prop} {KX : String → GH → Prop} (h : V_Fp_findEdges_0 t G (gQv K KX)) : CV M_Fp_findEdges [.ref t] G K KX := CV.of rfl rfl rfl (V_Fp_findEdges_0_ok h)
def V_Fp_findEdges_7 (t : Nat) (a1 : Int32) (G : GH) (Q : GQ) : Prop :=
  ∃ (fs1 : List Value) (x2 : Int32), G.2 t = some (.inl (2, fs1)) ∧ fs1[4]? = some (.int x2) ∧
  if a1 < x2 then
    WP M_Fp_findEdges 0 0 19 [some (.ref t), some (.int a1), some (.int (a1 + (nI 1))), none, none] [] G Q
  else
    Q.2.1 G
set_option maxRecDepth 100000 in
theorem V_Fp_findEdges_7_ok {t : Nat} {a1 : Int32} {G : GH} {Q : GQ} (h : V_Fp_findEdges_7 t a1 G Q) : WP M_Fp_findEdges 0 0 7 [some (.ref t), some (.int a1), none, none, none] [] G Q := WP.ofV (T := T_Fp_findEdges) (hh := []) rfl rfl [(7, [true, true, false, false, false]), (19, [true, true, true, false, false]), (144, [true, true, true, true, true])] 102 h
def V_Fp_findEdges_19 (t : Nat) (a1 : Int32) (a2 : Int32) (G : GH) (Q : GQ) : Prop :=
  ∃ (fs1 : List Value) (x2 : Int32), G.2 t = some (.inl (2, fs1)) ∧ fs1[4]? = some (.int x2) ∧
  if a2 < x2 then
    ∃ (fs3 : List Value) (r4 : Nat), G.2 t = some (.inl (2, fs3)) ∧ fs3[6]? = some (.ref r4) ∧
    ∃ (m5 : Nat) (f6 : Nat → Int32), G.2 r4 = some (.inr (.int, m5, .inl f6)) ∧ vp_in a1 m5 ∧
    ∃ (fs7 : List Value) (r8 : Nat), G.2 t = some (.inl (2, fs7)) ∧ fs7[6]? = some (.ref r8) ∧
    ∃ (m9 : Nat) (f10 : Nat → Int32), G.2 r8 = some (.inr (.int, m9, .inl f10)) ∧ vp_in a2 m9 ∧
    ∃ (fs11 : List Value) (r12 : Nat), G.2 t = some (.inl (2, fs11)) ∧ fs11[7]? = some (.ref r12) ∧
    ∃ (m13 : Nat) (f14 : Nat → Int32), G.2 r12 = some (.inr (.int, m13, .inl f14)) ∧ vp_in a1 m13 ∧
    ∃ (fs15 : List Value) (r16 : Nat), G.2 t = some (.inl (2, fs15)) ∧ fs15[7]? = some (.ref r16) ∧
    ∃ (m17 : Nat) (f18 : Nat → Int32), G.2 r16 = some (.inr (.int, m17, .inl f18)) ∧ vp_in a2 m17 ∧
    if ((if 0 ≤ ((f6 (a1).toNatClampNeg) - (f10 (a2).toNatClampNeg)) then (f6 (a1).toNatClampNeg) - (f10 (a2).toNatClampNeg) else 0 - ((f6 (a1).toNatClampNeg) - (f10 (a2).toNatClampNeg))) + (if 0 ≤ ((f14 (a1).toNatClampNeg) - (f18 (a2).toNatClampNeg)) then (f14 (a1).toNatClampNeg) - (f18 (a2).toNatClampNeg) else 0 - ((f14 (a1).toNatClampNeg) - (f18 (a2).toNatClampNeg)))) = (nI 1) then
      ∃ (fs19 : List Value) (x20 : Int32), G.2 t = some (.inl (2, fs19)) ∧ fs19[5]? = some (.int x20) ∧
      if x20 < (nI 4) then
        ∃ (fs21 : List Value) (r22 : Nat), G.2 t = some (.inl (2, fs21)) ∧ fs21[8]? = some (.ref r22) ∧
        ∃ (fs23 : List Value) (x24 : Int32), G.2 t = some (.inl (2, fs23)) ∧ fs23[5]? = some (.int x24) ∧
        ∃ (fs25 : List Value) (r26 : Nat), G.2 t = some (.inl (2, fs25)) ∧ fs25[6]? = some (.ref r26) ∧
        ∃ (m27 : Nat) (f28 : Nat → Int32), G.2 r26 = some (.inr (.int, m27, .inl f28)) ∧ vp_in a1 m27 ∧
        ∃ (fs29 : List Value) (r30 : Nat), G.2 t = some (.inl (2, fs29)) ∧ fs29[6]? = some (.ref r30) ∧
        ∃ (m31 : Nat) (f32 : Nat → Int32), G.2 r30 = some (.inr (.int, m31, .inl f32)) ∧ vp_in a2 m31 ∧
        r22 < gRB ∧ ∃ (m33 : Nat) (f34 : Nat → Int32), G.2 r22 = some (.inr (.int, m33, .inl f34)) ∧ vp_in x24 m33 ∧
        let G35 : GH := gU G r22 (.inr (.int, m33, .inl (upd f34 (x24).toNatClampNeg (if (f32 (a2).toNatClampNeg) < (f28 (a1).toNatClampNeg) then f32 (a2).toNatClampNeg else f28 (a1).toNatClampNeg))));
        ∃ (fs36 : List Value) (r37 : Nat), G35.2 t = some (.inl (2, fs36)) ∧ fs36[9]? = some (.ref r37) ∧
        ∃ (fs38 : List Value) (x39 : Int32), G35.2 t = some (.inl (2, fs38)) ∧ fs38[5]? = some (.int x39) ∧
        ∃ (fs40 : List Value) (r41 : Nat), G35.2 t = some (.inl (2, fs40)) ∧ fs40[7]? = some (.ref r41) ∧
        ∃ (m42 : Nat) (f43 : Nat → Int32), G35.2 r41 = some (.inr (.int, m42, .inl f43)) ∧ vp_in a1 m42 ∧
        ∃ (fs44 : List Value) (r45 : Nat), G35.2 t = some (.inl (2, fs44)) ∧ fs44[7]? = some (.ref r45) ∧
        ∃ (m46 : Nat) (f47 : Nat → Int32), G35.2 r45 = some (.inr (.int, m46, .inl f47)) ∧ vp_in a2 m46 ∧
        r37 < gRB ∧ ∃ (m48 : Nat) (f49 : Nat → Int32), G35.2 r37 = some (.inr (.int, m48, .inl f49)) ∧ vp_in x39 m48 ∧
        let G50 : GH := gU G35 r37 (.inr (.int, m48, .inl (upd f49 (x39).toNatClampNeg (if (f47 (a2).toNatClampNeg) < (f43 (a1).toNatClampNeg) then f47 (a2).toNatClampNeg else f43 (a1).toNatClampNeg))));
        ∃ (fs51 : List Value) (r52 : Nat), G50.2 t = some (.inl (2, fs51)) ∧ fs51[10]? = some (.ref r52) ∧
        ∃ (fs53 : List Value) (x54 : Int32), G50.2 t = some (.inl (2, fs53)) ∧ fs53[5]? = some (.int x54) ∧
        if (if 0 ≤ ((f14 (a1).toNatClampNeg) - (f18 (a2).toNatClampNeg)) then (f14 (a1).toNatClampNeg) - (f18 (a2).toNatClampNeg) else 0 - ((f14 (a1).toNatClampNeg) - (f18 (a2).toNatClampNeg))) = (nI 0) then
          WP M_Fp_findEdges 0 0 144 [some (.ref t), some (.int a1), some (.int a2), some (.int (if 0 ≤ ((f6 (a1).toNatClampNeg) - (f10 (a2).toNatClampNeg)) then (f6 (a1).toNatClampNeg) - (f10 (a2).toNatClampNeg) else 0 - ((f6 (a1).toNatClampNeg) - (f10 (a2).toNatClampNeg)))), some (.int (if 0 ≤ ((f14 (a1).toNatClampNeg) - (f18 (a2).toNatClampNeg)) then (f14 (a1).toNatClampNeg) - (f18 (a2).toNatClampNeg) else 0 - ((f14 (a1).toNatClampNeg) - (f18 (a2).toNatClampNeg))))] [.int (nI 0), .int x54, .ref r52] G50 Q
        else
          WP M_Fp_findEdges 0 0 144 [some (.ref t), some (.int a1), some (.int a2), some (.int (if 0 ≤ ((f6 (a1).toNatClampNeg) - (f10 (a2).toNatClampNeg)) then (f6 (a1).toNatClampNeg) - (f10 (a2).toNatClampNeg) else 0 - ((f6 (a1).toNatClampNeg) - (f10 (a2).toNatClampNeg)))), some (.int (if 0 ≤ ((f14 (a1).toNatClampNeg) - (f18 (a2).toNatClampNeg)) then (f14 (a1).toNatClampNeg) - (f18 (a2).toNatClampNeg) else 0 - ((f14 (a1).toNatClampNeg) - (f18 (a2).toNatClampNeg))))] [.int (nI 1), .int x54, .ref r52] G50 Q
      else
        WP M_Fp_findEdges 0 0 19 [some (.ref t), some (.int a1), some (.int (a2 + nI 1)), none, none] [] G Q
    else
      WP M_Fp_findEdges 0 0 19 [some (.ref t), some (.int a1), some (.int (a2 + nI 1)), none, none] [] G Q
  else
    WP M_Fp_findEdges 0 0 7 [some (.ref t), some (.int (a1 + nI 1)), none, none, none] [] G Q
set_option maxRecDepth 100000 in
theorem V_Fp_findEdges_19_ok {t : Nat} {a1 : Int32} {a2 : Int32} {G : GH} {Q : GQ} (h : V_Fp_findEdges_19 t a1 a2 G Q) : WP M_Fp_findEdges 0 0 19 [some (.ref t), some (.int a1), some (.int a2), none, none] [] G Q := WP.ofV (T := T_Fp_findEdges) (hh := []) rfl rfl [(7, [true, true, false, false, false]), (19, [true, true, true, false, false]), (144, [true, true, true, true, true])] 102 h
def V_Fp_findEdges_144 (t : Nat) (a1 : Int32) (a2 : Int32) (a3 : Int32) (a4 : Int32) (s0 : Int32) (s1 : Int32) (s2 : Nat) (G : GH) (Q : GQ) : Prop :=
  s2 < gRB ∧ ∃ (m1 : Nat) (f2 : Nat → Int32), G.2 s2 = some (.inr (.int, m1, .inl f2)) ∧ vp_in s1 m1 ∧
  let G3 : GH := gU G s2 (.inr (.int, m1, .inl (upd f2 (s1).toNatClampNeg s0)));
  ∃ (fs4 : List Value) (x5 : Int32), G3.2 t = some (.inl (2, fs4)) ∧ fs4[5]? = some (.int x5) ∧
  t < gRB ∧ ∃ (fs6 : List Value), G3.2 t = some (.inl (2, fs6)) ∧ gFit 0 (.int (x5 + (nI 1))) ∧
  let G7 : GH := gU G3 t (.inl (2, fs6.set 5 (.int (x5 + (nI 1)))));
  WP M_Fp_findEdges 0 0 19 [some (.ref t), some (.int a1), some (.int (a2 + nI 1)), none, none] [] G7 Q
set_option maxRecDepth 100000 in
theorem V_Fp_findEdges_144_ok {t : Nat} {a1 : Int32} {a2 : Int32} {a3 : Int32} {a4 : Int32} {s0 : Int32} {s1 : Int32} {s2 : Nat} {G : GH} {Q : GQ} (h : V_Fp_findEdges_144 t a1 a2 a3 a4 s0 s1 s2 G Q) : WP M_Fp_findEdges 0 0 144 [some (.ref t), some (.int a1), some (.int a2), some (.int a3), some (.int a4)] [.int s0, .int s1, .ref s2] G Q := WP.ofV (T := T_Fp_findEdges) (hh := []) rfl rfl [(7, [true, true, false, false, false]), (19, [true, true, true, false, false]), (144, [true, true, true, true, true])] 102 h
def V_Pi_init_0 (t : Nat) (G : GH) (Q : GQ) : Prop :=
  t < gRB ∧ ∃ (fs1 : List Value), G.2 t = some (.inl (4, fs1)) ∧ gFit 0 (.int (nI 0)) ∧
  let G2 : GH := gU G t (.inl (4, fs1.set 0 (.int (nI 0))));
  1 ≤ 6 ∧ 0 < G2.1 ∧ G2.1 < gRB ∧ ∃ (m3 : Nat), (nI 32) = nI m3 ∧ m3 ≤ 100000 ∧ m3 ≤ 192 ∧
  let G4 : GH := gPush G2 (.inr (.int, m3, .inl fun _ => 0));
  t < gRB ∧ ∃ (fs5 : List Value), G4.2 t = some (.inl (4, fs5)) ∧ gFit 1 (.ref G2.1) ∧
  let G6 : GH := gU G4 t (.inl (4, fs5.set 1 (.ref G2.1)));
  1 ≤ (6 - 1) ∧ 0 < G6.1 ∧ G6.1 < gRB ∧ ∃ (m7 : Nat), (nI 32) = nI m7 ∧ m7 ≤ 100000 ∧ m7 ≤ (192 - m3) ∧
  let G8 : GH := gPush G6 (.inr (.int, m7, .inl fun _ => 0));
  t < gRB ∧ ∃ (fs9 : List Value), G8.2 t = some (.inl (4, fs9)) ∧ gFit 1 (.ref G6.1) ∧
  let G10 : GH := gU G8 t (.inl (4, fs9.set 2 (.ref G6.1)));
  WP M_Pi_init ((6 - 1) - 1) ((192 - m3) - m7) 25 [some (.ref t)] [] G10 Q
set_option maxRecDepth 100000 in
theorem V_Pi_init_0_ok {t : Nat} {G : GH} {Q : GQ} (h : V_Pi_init_0 t G Q) : WP M_Pi_init 6 192 0 [some (.ref t)] [] G Q := WP.ofV (T := T_Pi_init) (hh := []) rfl rfl [(25, [true]), (49, [true])] 35 h
theorem E_Pi_init {t : Nat} {G : GH} {K : GH → Prop} {KX : String → GH → Prop} (h : V_Pi_init_0 t G (gQv K KX)) : CV M_Pi_init [.ref t] G K KX := CV.of rfl rfl rfl (V_Pi_init_0_ok h)
def V_Pi_init_25 (rc rs : Nat) (t : Nat) (G : GH) (Q : GQ) : Prop :=
  1 ≤ rc ∧ 0 < G.1 ∧ G.1 < gRB ∧ ∃ (m1 : Nat), (nI 32) = nI m1 ∧ m1 ≤ 100000 ∧ m1 ≤ rs ∧
  let G2 : GH := gPush G (.inr (.int, m1, .inl fun _ => 0));
  t < gRB ∧ ∃ (fs3 : List Value), G2.2 t = some (.inl (4, fs3)) ∧ gFit 1 (.ref G.1) ∧
  let G4 : GH := gU G2 t (.inl (4, fs3.set 3 (.ref G.1)));
  1 ≤ (rc - 1) ∧ 0 < G4.1 ∧ G4.1 < gRB ∧ ∃ (m5 : Nat), (nI 32) = nI m5 ∧ m5 ≤ 100000 ∧ m5 ≤ (rs - m1) ∧
  let G6 : GH := gPush G4 (.inr (.int, m5, .inl fun _ => 0));
  t < gRB ∧ ∃ (fs7 : List Value), G6.2 t = some (.inl (4, fs7)) ∧ gFit 1 (.ref G4.1) ∧
  let G8 : GH := gU G6 t (.inl (4, fs7.set 4 (.ref G4.1)));
  1 ≤ ((rc - 1) - 1) ∧ 0 < G8.1 ∧ G8.1 < gRB ∧ ∃ (m9 : Nat), (nI 32) = nI m9 ∧ m9 ≤ 100000 ∧ m9 ≤ ((rs - m1) - m5) ∧
  let G10 : GH := gPush G8 (.inr (.int, m9, .inl fun _ => 0));
  t < gRB ∧ ∃ (fs11 : List Value), G10.2 t = some (.inl (4, fs11)) ∧ gFit 1 (.ref G8.1) ∧
  let G12 : GH := gU G10 t (.inl (4, fs11.set 5 (.ref G8.1)));
  WP M_Pi_init (((rc - 1) - 1) - 1) (((rs - m1) - m5) - m9) 49 [some (.ref t)] [] G12 Q
set_option maxRecDepth 100000 in
theorem V_Pi_init_25_ok {rc rs : Nat} {t : Nat} {G : GH} {Q : GQ} (h : V_Pi_init_25 rc rs t G Q) : WP M_Pi_init rc rs 25 [some (.ref t)] [] G Q := WP.ofV (T := T_Pi_init) (hh := []) rfl rfl [(25, [true]), (49, [true])] 35 h
def V_Pi_init_49 (rc rs : Nat) (t : Nat) (G : GH) (Q : GQ) : Prop :=
  1 ≤ rc ∧ 0 < G.1 ∧ G.1 < gRB ∧ ∃ (m1 : Nat), (nI 32) = nI m1 ∧ m1 ≤ 100000 ∧ m1 ≤ rs ∧
  let G2 : GH := gPush G (.inr (.int, m1, .inl fun _ => 0));
  t < gRB ∧ ∃ (fs3 : List Value), G2.2 t = some (.inl (4, fs3)) ∧ gFit 1 (.ref G.1) ∧
  let G4 : GH := gU G2 t (.inl (4, fs3.set 6 (.ref G.1)));
  Q.2.1 G4
set_option maxRecDepth 100000 in
theorem V_Pi_init_49_ok {rc rs : Nat} {t : Nat} {G : GH} {Q : GQ} (h : V_Pi_init_49 rc rs t G Q) : WP M_Pi_init rc rs 49 [some (.ref t)] [] G Q := WP.ofV (T := T_Pi_init) (hh := []) rfl rfl [(25, [true]), (49, [true])] 35 h
def V_Pi_copyFrom_0 (t : Nat) (p1 : Nat) (G : GH) (Q : GQ) : Prop :=
  ∃ (fs1 : List Value) (x2 : Int32), G.2 p1 = some (.inl (4, fs1)) ∧ fs1[0]? = some (.int x2) ∧
  t < gRB ∧ ∃ (fs3 : List Value), G.2 t = some (.inl (4, fs3)) ∧ gFit 0 (.int x2) ∧
  let G4 : GH := gU G t (.inl (4, fs3.set 0 (.int x2)));
  ∃ (fs5 : List Value) (r6 : Nat), G4.2 p1 = some (.inl (4, fs5)) ∧ fs5[1]? = some (.ref r6) ∧
  ∃ (fs7 : List Value) (r8 : Nat), G4.2 t = some (.inl (4, fs7)) ∧ fs7[1]? = some (.ref r8) ∧
  r8 < gRB ∧ r6 < gRB ∧ ∃ (ty9 : FieldType) (m10 w11 : Nat) (f12 h13 : Nat → Int32) (ka14 da15 sa16 : Nat), G4.2 r6 = some (.inr (ty9, m10, .inl f12)) ∧ G4.2 r8 = some (.inr (ty9, w11, .inl h13)) ∧ (ty9 = .int ∨ ty9 = .boolean ∧ ∀ i, f12 i = nI 0 ∨ f12 i = nI 1) ∧ (nI 32) = nI ka14 ∧ (nI 0) = nI da15 ∧ (nI 0) = nI sa16 ∧ ka14 < 2 ^ 31 ∧ da15 < 2 ^ 31 ∧ sa16 < 2 ^ 31 ∧ sa16 + ka14 ≤ m10 ∧ da15 + ka14 ≤ w11 ∧
  let G17 : GH := gU G4 r8 (.inr (ty9, w11, .inl (va_cpy f12 h13 sa16 da15 ka14)));
  ∃ (fs18 : List Value) (r19 : Nat), G17.2 p1 = some (.inl (4, fs18)) ∧ fs18[2]? = some (.ref r19) ∧
  ∃ (fs20 : List Value) (r21 : Nat), G17.2 t = some (.inl (4, fs20)) ∧ fs20[2]? = some (.ref r21) ∧
  r21 < gRB ∧ r19 < gRB ∧ ∃ (ty22 : FieldType) (m23 w24 : Nat) (f25 h26 : Nat → Int32) (ka27 da28 sa29 : Nat), G17.2 r19 = some (.inr (ty22, m23, .inl f25)) ∧ G17.2 r21 = some (.inr (ty22, w24, .inl h26)) ∧ (ty22 = .int ∨ ty22 = .boolean ∧ ∀ i, f25 i = nI 0 ∨ f25 i = nI 1) ∧ (nI 32) = nI ka27 ∧ (nI 0) = nI da28 ∧ (nI 0) = nI sa29 ∧ ka27 < 2 ^ 31 ∧ da28 < 2 ^ 31 ∧ sa29 < 2 ^ 31 ∧ sa29 + ka27 ≤ m23 ∧ da28 + ka27 ≤ w24 ∧
  let G30 : GH := gU G17 r21 (.inr (ty22, w24, .inl (va_cpy f25 h26 sa29 da28 ka27)));
  ∃ (fs31 : List Value) (r32 : Nat), G30.2 p1 = some (.inl (4, fs31)) ∧ fs31[3]? = some (.ref r32) ∧
  ∃ (fs33 : List Value) (r34 : Nat), G30.2 t = some (.inl (4, fs33)) ∧ fs33[3]? = some (.ref r34) ∧
  r34 < gRB ∧ r32 < gRB ∧ ∃ (ty35 : FieldType) (m36 w37 : Nat) (f38 h39 : Nat → Int32) (ka40 da41 sa42 : Nat), G30.2 r32 = some (.inr (ty35, m36, .inl f38)) ∧ G30.2 r34 = some (.inr (ty35, w37, .inl h39)) ∧ (ty35 = .int ∨ ty35 = .boolean ∧ ∀ i, f38 i = nI 0 ∨ f38 i = nI 1) ∧ (nI 32) = nI ka40 ∧ (nI 0) = nI da41 ∧ (nI 0) = nI sa42 ∧ ka40 < 2 ^ 31 ∧ da41 < 2 ^ 31 ∧ sa42 < 2 ^ 31 ∧ sa42 + ka40 ≤ m36 ∧ da41 + ka40 ≤ w37 ∧
  let G43 : GH := gU G30 r34 (.inr (ty35, w37, .inl (va_cpy f38 h39 sa42 da41 ka40)));
  ∃ (fs44 : List Value) (r45 : Nat), G43.2 p1 = some (.inl (4, fs44)) ∧ fs44[4]? = some (.ref r45) ∧
  ∃ (fs46 : List Value) (r47 : Nat), G43.2 t = some (.inl (4, fs46)) ∧ fs46[4]? = some (.ref r47) ∧
  r47 < gRB ∧ r45 < gRB ∧ ∃ (ty48 : FieldType) (m49 w50 : Nat) (f51 h52 : Nat → Int32) (ka53 da54 sa55 : Nat), G43.2 r45 = some (.inr (ty48, m49, .inl f51)) ∧ G43.2 r47 = some (.inr (ty48, w50, .inl h52)) ∧ (ty48 = .int ∨ ty48 = .boolean ∧ ∀ i, f51 i = nI 0 ∨ f51 i = nI 1) ∧ (nI 32) = nI ka53 ∧ (nI 0) = nI da54 ∧ (nI 0) = nI sa55 ∧ ka53 < 2 ^ 31 ∧ da54 < 2 ^ 31 ∧ sa55 < 2 ^ 31 ∧ sa55 + ka53 ≤ m49 ∧ da54 + ka53 ≤ w50 ∧
  let G56 : GH := gU G43 r47 (.inr (ty48, w50, .inl (va_cpy f51 h52 sa55 da54 ka53)));
  WP M_Pi_copyFrom 0 0 68 [some (.ref t), some (.ref p1)] [] G56 Q
set_option maxRecDepth 100000 in
theorem V_Pi_copyFrom_0_ok {t : Nat} {p1 : Nat} {G : GH} {Q : GQ} (h : V_Pi_copyFrom_0 t p1 G Q) : WP M_Pi_copyFrom 0 0 0 [some (.ref t), some (.ref p1)] [] G Q := WP.ofV (T := T_Pi_copyFrom) (hh := []) rfl rfl [(68, [true, true])] 58 h
theorem E_Pi_copyFrom {t : Nat} {p1 : Nat} {G : GH} {K : GH → Prop} {KX : String → GH → Prop} (h : V_Pi_copyFrom_0 t p1 G (gQv K KX)) : CV M_Pi_copyFrom [.ref t, .ref p1] G K KX := CV.of rfl rfl rfl (V_Pi_copyFrom_0_ok h)
def V_Pi_copyFrom_68 (t : Nat) (p1 : Nat) (G : GH) (Q : GQ) : Prop :=
  ∃ (fs1 : List Value) (r2 : Nat), G.2 p1 = some (.inl (4, fs1)) ∧ fs1[5]? = some (.ref r2) ∧
  ∃ (fs3 : List Value) (r4 : Nat), G.2 t = some (.inl (4, fs3)) ∧ fs3[5]? = some (.ref r4) ∧
  r4 < gRB ∧ r2 < gRB ∧ ∃ (ty5 : FieldType) (m6 w7 : Nat) (f8 h9 : Nat → Int32) (ka10 da11 sa12 : Nat), G.2 r2 = some (.inr (ty5, m6, .inl f8)) ∧ G.2 r4 = some (.inr (ty5, w7, .inl h9)) ∧ (ty5 = .int ∨ ty5 = .boolean ∧ ∀ i, f8 i = nI 0 ∨ f8 i = nI 1) ∧ (nI 32) = nI ka10 ∧ (nI 0) = nI da11 ∧ (nI 0) = nI sa12 ∧ ka10 < 2 ^ 31 ∧ da11 < 2 ^ 31 ∧ sa12 < 2 ^ 31 ∧ sa12 + ka10 ≤ m6 ∧ da11 + ka10 ≤ w7 ∧
  let G13 : GH := gU G r4 (.inr (ty5, w7, .inl (va_cpy f8 h9 sa12 da11 ka10)));
  ∃ (fs14 : List Value) (r15 : Nat), G13.2 p1 = some (.inl (4, fs14)) ∧ fs14[6]? = some (.ref r15) ∧
  ∃ (fs16 : List Value) (r17 : Nat), G13.2 t = some (.inl (4, fs16)) ∧ fs16[6]? = some (.ref r17) ∧
  r17 < gRB ∧ r15 < gRB ∧ ∃ (ty18 : FieldType) (m19 w20 : Nat) (f21 h22 : Nat → Int32) (ka23 da24 sa25 : Nat), G13.2 r15 = some (.inr (ty18, m19, .inl f21)) ∧ G13.2 r17 = some (.inr (ty18, w20, .inl h22)) ∧ (ty18 = .int ∨ ty18 = .boolean ∧ ∀ i, f21 i = nI 0 ∨ f21 i = nI 1) ∧ (nI 32) = nI ka23 ∧ (nI 0) = nI da24 ∧ (nI 0) = nI sa25 ∧ ka23 < 2 ^ 31 ∧ da24 < 2 ^ 31 ∧ sa25 < 2 ^ 31 ∧ sa25 + ka23 ≤ m19 ∧ da24 + ka23 ≤ w20 ∧
  let G26 : GH := gU G13 r17 (.inr (ty18, w20, .inl (va_cpy f21 h22 sa25 da24 ka23)));
  Q.2.1 G26
set_option maxRecDepth 100000 in
theorem V_Pi_copyFrom_68_ok {t : Nat} {p1 : Nat} {G : GH} {Q : GQ} (h : V_Pi_copyFrom_68 t p1 G Q) : WP M_Pi_copyFrom 0 0 68 [some (.ref t), some (.ref p1)] [] G Q := WP.ofV (T := T_Pi_copyFrom) (hh := []) rfl rfl [(68, [true, true])] 58 h
def V_Pi_add_0 (t : Nat) (p1 : Nat) (a2 : Int32) (a3 : Int32) (G : GH) (Q : GQ) : Prop :=
  ∃ (fs1 : List Value) (x2 : Int32), G.2 t = some (.inl (4, fs1)) ∧ fs1[0]? = some (.int x2) ∧
  if x2 < (nI 32) then
    ∃ (fs3 : List Value) (r4 : Nat), G.2 t = some (.inl (4, fs3)) ∧ fs3[1]? = some (.ref r4) ∧
    ∃ (fs5 : List Value) (x6 : Int32), G.2 t = some (.inl (4, fs5)) ∧ fs5[0]? = some (.int x6) ∧
    ∃ (fs7 : List Value) (x8 : Int32), G.2 p1 = some (.inl (2, fs7)) ∧ fs7[0]? = some (.int x8) ∧
    r4 < gRB ∧ ∃ (m9 : Nat) (f10 : Nat → Int32), G.2 r4 = some (.inr (.int, m9, .inl f10)) ∧ vp_in x6 m9 ∧
    let G11 : GH := gU G r4 (.inr (.int, m9, .inl (upd f10 (x6).toNatClampNeg x8)));
    ∃ (fs12 : List Value) (r13 : Nat), G11.2 t = some (.inl (4, fs12)) ∧ fs12[2]? = some (.ref r13) ∧
    ∃ (fs14 : List Value) (x15 : Int32), G11.2 t = some (.inl (4, fs14)) ∧ fs14[0]? = some (.int x15) ∧
    ∃ (fs16 : List Value) (x17 : Int32), G11.2 p1 = some (.inl (2, fs16)) ∧ fs16[1]? = some (.int x17) ∧
    r13 < gRB ∧ ∃ (m18 : Nat) (f19 : Nat → Int32), G11.2 r13 = some (.inr (.int, m18, .inl f19)) ∧ vp_in x15 m18 ∧
    let G20 : GH := gU G11 r13 (.inr (.int, m18, .inl (upd f19 (x15).toNatClampNeg x17)));
    ∃ (fs21 : List Value) (r22 : Nat), G20.2 t = some (.inl (4, fs21)) ∧ fs21[3]? = some (.ref r22) ∧
    ∃ (fs23 : List Value) (x24 : Int32), G20.2 t = some (.inl (4, fs23)) ∧ fs23[0]? = some (.int x24) ∧
    ∃ (fs25 : List Value) (x26 : Int32), G20.2 p1 = some (.inl (2, fs25)) ∧ fs25[2]? = some (.int x26) ∧
    r22 < gRB ∧ ∃ (m27 : Nat) (f28 : Nat → Int32), G20.2 r22 = some (.inr (.int, m27, .inl f28)) ∧ vp_in x24 m27 ∧
    let G29 : GH := gU G20 r22 (.inr (.int, m27, .inl (upd f28 (x24).toNatClampNeg x26)));
    ∃ (fs30 : List Value) (r31 : Nat), G29.2 t = some (.inl (4, fs30)) ∧ fs30[4]? = some (.ref r31) ∧
    ∃ (fs32 : List Value) (x33 : Int32), G29.2 t = some (.inl (4, fs32)) ∧ fs32[0]? = some (.int x33) ∧
    ∃ (fs34 : List Value) (x35 : Int32), G29.2 p1 = some (.inl (2, fs34)) ∧ fs34[3]? = some (.int x35) ∧
    r31 < gRB ∧ ∃ (m36 : Nat) (f37 : Nat → Int32), G29.2 r31 = some (.inr (.int, m36, .inl f37)) ∧ vp_in x33 m36 ∧
    let G38 : GH := gU G29 r31 (.inr (.int, m36, .inl (upd f37 (x33).toNatClampNeg x35)));
    ∃ (fs39 : List Value) (r40 : Nat), G38.2 t = some (.inl (4, fs39)) ∧ fs39[5]? = some (.ref r40) ∧
    ∃ (fs41 : List Value) (x42 : Int32), G38.2 t = some (.inl (4, fs41)) ∧ fs41[0]? = some (.int x42) ∧
    r40 < gRB ∧ ∃ (m43 : Nat) (f44 : Nat → Int32), G38.2 r40 = some (.inr (.int, m43, .inl f44)) ∧ vp_in x42 m43 ∧
    let G45 : GH := gU G38 r40 (.inr (.int, m43, .inl (upd f44 (x42).toNatClampNeg a2)));
    WP M_Pi_add 0 0 71 [some (.ref t), some (.ref p1), some (.int a2), some (.int a3)] [] G45 Q
  else
    Q.2.1 G
set_option maxRecDepth 100000 in
theorem V_Pi_add_0_ok {t : Nat} {p1 : Nat} {a2 : Int32} {a3 : Int32} {G : GH} {Q : GQ} (h : V_Pi_add_0 t p1 a2 a3 G Q) : WP M_Pi_add 0 0 0 [some (.ref t), some (.ref p1), some (.int a2), some (.int a3)] [] G Q := WP.ofV (T := T_Pi_add) (hh := []) rfl rfl [(71, [true, true, true, true])] 56 h
theorem E_Pi_add {t : Nat} {p1 : Nat} {a2 : Int32} {a3 : Int32} {G : GH} {K : GH → Prop} {KX : String → GH → Prop} (h : V_Pi_add_0 t p1 a2 a3 G (gQv K KX)) : CV M_Pi_add [.ref t, .ref p1, .int a2, .int a3] G K KX := CV.of rfl rfl rfl (V_Pi_add_0_ok h)
def V_Pi_add_71 (t : Nat) (p1 : Nat) (a2 : Int32) (a3 : Int32) (G : GH) (Q : GQ) : Prop :=
  ∃ (fs1 : List Value) (r2 : Nat), G.2 t = some (.inl (4, fs1)) ∧ fs1[6]? = some (.ref r2) ∧
  ∃ (fs3 : List Value) (x4 : Int32), G.2 t = some (.inl (4, fs3)) ∧ fs3[0]? = some (.int x4) ∧
  r2 < gRB ∧ ∃ (m5 : Nat) (f6 : Nat → Int32), G.2 r2 = some (.inr (.int, m5, .inl f6)) ∧ vp_in x4 m5 ∧
  let G7 : GH := gU G r2 (.inr (.int, m5, .inl (upd f6 (x4).toNatClampNeg a3)));
  ∃ (fs8 : List Value) (x9 : Int32), G7.2 t = some (.inl (4, fs8)) ∧ fs8[0]? = some (.int x9) ∧
  t < gRB ∧ ∃ (fs10 : List Value), G7.2 t = some (.inl (4, fs10)) ∧ gFit 0 (.int (x9 + (nI 1))) ∧
  let G11 : GH := gU G7 t (.inl (4, fs10.set 0 (.int (x9 + (nI 1)))));
  Q.2.1 G11
set_option maxRecDepth 100000 in
theorem V_Pi_add_71_ok {t : Nat} {p1 : Nat} {a2 : Int32} {a3 : Int32} {G : GH} {Q : GQ} (h : V_Pi_add_71 t p1 a2 a3 G Q) : WP M_Pi_add 0 0 71 [some (.ref t), some (.ref p1), some (.int a2), some (.int a3)] [] G Q := WP.ofV (T := T_Pi_add) (hh := []) rfl rfl [(71, [true, true, true, true])] 56 h
def V_Pi_has_0 (t : Nat) (a1 : Int32) (G : GH) (Q : GQ) : Prop :=
  if a1 < (nI 0) then
    ((nI 0) = nI 0 ∨ (nI 0) = nI 1) ∧ Q.1 (nI 0) G
  else
    ∃ (fs1 : List Value) (x2 : Int32), G.2 t = some (.inl (4, fs1)) ∧ fs1[0]? = some (.int x2) ∧
    if a1 < x2 then
      ((nI 1) = nI 0 ∨ (nI 1) = nI 1) ∧ Q.1 (nI 1) G
    else
      ((nI 0) = nI 0 ∨ (nI 0) = nI 1) ∧ Q.1 (nI 0) G
set_option maxRecDepth 100000 in
theorem V_Pi_has_0_ok {t : Nat} {a1 : Int32} {G : GH} {Q : GQ} (h : V_Pi_has_0 t a1 G Q) : WP M_Pi_has 0 0 0 [some (.ref t), some (.int a1)] [] G Q := WP.ofV (T := T_Pi_has) (hh := []) rfl rfl [] 15 h
theorem E_Pi_has {t : Nat} {a1 : Int32} {G : GH} {K : Int32 → GH → Prop} {KX : String → GH → Prop} (h : V_Pi_has_0 t a1 G (gQi K KX)) : CI M_Pi_has [.ref t, .int a1] G K KX := CI.of rfl rfl rfl (V_Pi_has_0_ok h)
def V_Pi_shapeOf_0 (t : Nat) (a1 : Int32) (G : GH) (Q : GQ) : Prop :=
  CI M_Pi_has [.ref t, .int a1] G (fun (x2 : Int32) (G1 : GH) =>
    if x2 = (nI 0) then
      Q.1 (-nI 1) G1
    else
      ∃ (fs3 : List Value) (r4 : Nat), G1.2 t = some (.inl (4, fs3)) ∧ fs3[1]? = some (.ref r4) ∧
      ∃ (m5 : Nat) (f6 : Nat → Int32), G1.2 r4 = some (.inr (.int, m5, .inl f6)) ∧ vp_in a1 m5 ∧
      Q.1 (f6 (a1).toNatClampNeg) G1) gNo
set_option maxRecDepth 100000 in
theorem V_Pi_shapeOf_0_ok {t : Nat} {a1 : Int32} {G : GH} {Q : GQ} (h : V_Pi_shapeOf_0 t a1 G Q) : WP M_Pi_shapeOf 0 0 0 [some (.ref t), some (.int a1)] [] G Q := WP.ofV (T := T_Pi_shapeOf) (hh := []) rfl rfl [] 16 h
theorem E_Pi_shapeOf {t : Nat} {a1 : Int32} {G : GH} {K : Int32 → GH → Prop} {KX : String → GH → Prop} (h : V_Pi_shapeOf_0 t a1 G (gQi K KX)) : CI M_Pi_shapeOf [.ref t, .int a1] G K KX := CI.of rfl rfl rfl (V_Pi_shapeOf_0_ok h)
def V_Pi_rotationOf_0 (t : Nat) (a1 : Int32) (G : GH) (Q : GQ) : Prop :=
  CI M_Pi_has [.ref t, .int a1] G (fun (x2 : Int32) (G1 : GH) =>
    if x2 = (nI 0) then
      Q.1 (-nI 1) G1
    else
      ∃ (fs3 : List Value) (r4 : Nat), G1.2 t = some (.inl (4, fs3)) ∧ fs3[2]? = some (.ref r4) ∧
      ∃ (m5 : Nat) (f6 : Nat → Int32), G1.2 r4 = some (.inr (.int, m5, .inl f6)) ∧ vp_in a1 m5 ∧
      Q.1 (f6 (a1).toNatClampNeg) G1) gNo
set_option maxRecDepth 100000 in
theorem V_Pi_rotationOf_0_ok {t : Nat} {a1 : Int32} {G : GH} {Q : GQ} (h : V_Pi_rotationOf_0 t a1 G Q) : WP M_Pi_rotationOf 0 0 0 [some (.ref t), some (.int a1)] [] G Q := WP.ofV (T := T_Pi_rotationOf) (hh := []) rfl rfl [] 16 h
theorem E_Pi_rotationOf {t : Nat} {a1 : Int32} {G : GH} {K : Int32 → GH → Prop} {KX : String → GH → Prop} (h : V_Pi_rotationOf_0 t a1 G (gQi K KX)) : CI M_Pi_rotationOf [.ref t, .int a1] G K KX := CI.of rfl rfl rfl (V_Pi_rotationOf_0_ok h)
def V_Pi_anchorColumnOf_0 (t : Nat) (a1 : Int32) (G : GH) (Q : GQ) : Prop :=
  CI M_Pi_has [.ref t, .int a1] G (fun (x2 : Int32) (G1 : GH) =>
    if x2 = (nI 0) then
      Q.1 (-nI 1) G1
    else
      ∃ (fs3 : List Value) (r4 : Nat), G1.2 t = some (.inl (4, fs3)) ∧ fs3[3]? = some (.ref r4) ∧
      ∃ (m5 : Nat) (f6 : Nat → Int32), G1.2 r4 = some (.inr (.int, m5, .inl f6)) ∧ vp_in a1 m5 ∧
      Q.1 (f6 (a1).toNatClampNeg) G1) gNo
set_option maxRecDepth 100000 in
theorem V_Pi_anchorColumnOf_0_ok {t : Nat} {a1 : Int32} {G : GH} {Q : GQ} (h : V_Pi_anchorColumnOf_0 t a1 G Q) : WP M_Pi_anchorColumnOf 0 0 0 [some (.ref t), some (.int a1)] [] G Q := WP.ofV (T := T_Pi_anchorColumnOf) (hh := []) rfl rfl [] 16 h
theorem E_Pi_anchorColumnOf {t : Nat} {a1 : Int32} {G : GH} {K : Int32 → GH → Prop} {KX : String → GH → Prop} (h : V_Pi_anchorColumnOf_0 t a1 G (gQi K KX)) : CI M_Pi_anchorColumnOf [.ref t, .int a1] G K KX := CI.of rfl rfl rfl (V_Pi_anchorColumnOf_0_ok h)
def V_Pi_anchorRowOf_0 (t : Nat) (a1 : Int32) (G : GH) (Q : GQ) : Prop :=
  CI M_Pi_has [.ref t, .int a1] G (fun (x2 : Int32) (G1 : GH) =>
    if x2 = (nI 0) then
      Q.1 (-nI 1) G1
    else
      ∃ (fs3 : List Value) (r4 : Nat), G1.2 t = some (.inl (4, fs3)) ∧ fs3[4]? = some (.ref r4) ∧
      ∃ (m5 : Nat) (f6 : Nat → Int32), G1.2 r4 = some (.inr (.int, m5, .inl f6)) ∧ vp_in a1 m5 ∧
      Q.1 (f6 (a1).toNatClampNeg) G1) gNo
set_option maxRecDepth 100000 in
theorem V_Pi_anchorRowOf_0_ok {t : Nat} {a1 : Int32} {G : GH} {Q : GQ} (h : V_Pi_anchorRowOf_0 t a1 G Q) : WP M_Pi_anchorRowOf 0 0 0 [some (.ref t), some (.int a1)] [] G Q := WP.ofV (T := T_Pi_anchorRowOf) (hh := []) rfl rfl [] 16 h
theorem E_Pi_anchorRowOf {t : Nat} {a1 : Int32} {G : GH} {K : Int32 → GH → Prop} {KX : String → GH → Prop} (h : V_Pi_anchorRowOf_0 t a1 G (gQi K KX)) : CI M_Pi_anchorRowOf [.ref t, .int a1] G K KX := CI.of rfl rfl rfl (V_Pi_anchorRowOf_0_ok h)
def V_Pi_ownerOf_0 (t : Nat) (a1 : Int32) (G : GH) (Q : GQ) : Prop :=
  CI M_Pi_has [.ref t, .int a1] G (fun (x2 : Int32) (G1 : GH) =>
    if x2 = (nI 0) then
      Q.1 (-nI 1) G1
    else
      ∃ (fs3 : List Value) (r4 : Nat), G1.2 t = some (.inl (4, fs3)) ∧ fs3[5]? = some (.ref r4) ∧
      ∃ (m5 : Nat) (f6 : Nat → Int32), G1.2 r4 = some (.inr (.int, m5, .inl f6)) ∧ vp_in a1 m5 ∧
      Q.1 (f6 (a1).toNatClampNeg) G1) gNo
set_option maxRecDepth 100000 in
theorem V_Pi_ownerOf_0_ok {t : Nat} {a1 : Int32} {G : GH} {Q : GQ} (h : V_Pi_ownerOf_0 t a1 G Q) : WP M_Pi_ownerOf 0 0 0 [some (.ref t), some (.int a1)] [] G Q := WP.ofV (T := T_Pi_ownerOf) (hh := []) rfl rfl [] 16 h
theorem E_Pi_ownerOf {t : Nat} {a1 : Int32} {G : GH} {K : Int32 → GH → Prop} {KX : String → GH → Prop} (h : V_Pi_ownerOf_0 t a1 G (gQi K KX)) : CI M_Pi_ownerOf [.ref t, .int a1] G K KX := CI.of rfl rfl rfl (V_Pi_ownerOf_0_ok h)
def V_Pi_pointsOf_0 (t : Nat) (a1 : Int32) (G : GH) (Q : GQ) : Prop :=
  CI M_Pi_has [.ref t, .int a1] G (fun (x2 : Int32) (G1 : GH) =>
    if x2 = (nI 0) then
      Q.1 (-nI 1) G1
    else
      ∃ (fs3 : List Value) (r4 : Nat), G1.2 t = some (.inl (4, fs3)) ∧ fs3[6]? = some (.ref r4) ∧
      ∃ (m5 : Nat) (f6 : Nat → Int32), G1.2 r4 = some (.inr (.int, m5, .inl f6)) ∧ vp_in a1 m5 ∧
      Q.1 (f6 (a1).toNatClampNeg) G1) gNo
set_option maxRecDepth 100000 in
theorem V_Pi_pointsOf_0_ok {t : Nat} {a1 : Int32} {G : GH} {Q : GQ} (h : V_Pi_pointsOf_0 t a1 G Q) : WP M_Pi_pointsOf 0 0 0 [some (.ref t), some (.int a1)] [] G Q := WP.ofV (T := T_Pi_pointsOf) (hh := []) rfl rfl [] 16 h
theorem E_Pi_pointsOf {t : Nat} {a1 : Int32} {G : GH} {K : Int32 → GH → Prop} {KX : String → GH → Prop} (h : V_Pi_pointsOf_0 t a1 G (gQi K KX)) : CI M_Pi_pointsOf [.ref t, .int a1] G K KX := CI.of rfl rfl rfl (V_Pi_pointsOf_0_ok h)
def V_Pl_init_0 (t : Nat) (G : GH) (Q : GQ) : Prop :=
  t < gRB ∧ ∃ (fs1 : List Value), G.2 t = some (.inl (5, fs1)) ∧ gFit 0 (.int (nI 0)) ∧
  let G2 : GH := gU G t (.inl (5, fs1.set 0 (.int (nI 0))));
  t < gRB ∧ ∃ (fs3 : List Value), G2.2 t = some (.inl (5, fs3)) ∧ gFit 0 (.int (nI 0)) ∧
  let G4 : GH := gU G2 t (.inl (5, fs3.set 1 (.int (nI 0))));
  t < gRB ∧ ∃ (fs5 : List Value), G4.2 t = some (.inl (5, fs5)) ∧ gFit 0 (.int (nI 0)) ∧
  let G6 : GH := gU G4 t (.inl (5, fs5.set 2 (.int (nI 0))));
  1 ≤ 2 ∧ 0 < G6.1 ∧ G6.1 < gRB ∧ ∃ (m7 : Nat), (nI 6) = nI m7 ∧ m7 ≤ 100000 ∧ m7 ≤ 11 ∧
  let G8 : GH := gPush G6 (.inr (.int, m7, .inl fun _ => 0));
  t < gRB ∧ ∃ (fs9 : List Value), G8.2 t = some (.inl (5, fs9)) ∧ gFit 1 (.ref G6.1) ∧
  let G10 : GH := gU G8 t (.inl (5, fs9.set 3 (.ref G6.1)));
  WP M_Pl_init (2 - 1) (11 - m7) 27 [some (.ref t)] [] G10 Q
set_option maxRecDepth 100000 in
theorem V_Pl_init_0_ok {t : Nat} {G : GH} {Q : GQ} (h : V_Pl_init_0 t G Q) : WP M_Pl_init 2 11 0 [some (.ref t)] [] G Q := WP.ofV (T := T_Pl_init) (hh := []) rfl rfl [(27, [true])] 25 h
theorem E_Pl_init {t : Nat} {G : GH} {K : GH → Prop} {KX : String → GH → Prop} (h : V_Pl_init_0 t G (gQv K KX)) : CV M_Pl_init [.ref t] G K KX := CV.of rfl rfl rfl (V_Pl_init_0_ok h)
def V_Pl_init_27 (rc rs : Nat) (t : Nat) (G : GH) (Q : GQ) : Prop :=
  1 ≤ rc ∧ 0 < G.1 ∧ G.1 < gRB ∧ ∃ (m1 : Nat), (nI 5) = nI m1 ∧ m1 ≤ 100000 ∧ m1 ≤ rs ∧
  let G2 : GH := gPush G (.inr (.int, m1, .inl fun _ => 0));
  t < gRB ∧ ∃ (fs3 : List Value), G2.2 t = some (.inl (5, fs3)) ∧ gFit 1 (.ref G.1) ∧
  let G4 : GH := gU G2 t (.inl (5, fs3.set 4 (.ref G.1)));
  Q.2.1 G4
set_option maxRecDepth 100000 in
theorem V_Pl_init_27_ok {rc rs : Nat} {t : Nat} {G : GH} {Q : GQ} (h : V_Pl_init_27 rc rs t G Q) : WP M_Pl_init rc rs 27 [some (.ref t)] [] G Q := WP.ofV (T := T_Pl_init) (hh := []) rfl rfl [(27, [true])] 25 h
def V_Pl_clear_0 (t : Nat) (G : GH) (Q : GQ) : Prop :=
  t < gRB ∧ ∃ (fs1 : List Value), G.2 t = some (.inl (5, fs1)) ∧ gFit 0 (.int (nI 0)) ∧
  let G2 : GH := gU G t (.inl (5, fs1.set 0 (.int (nI 0))));
  t < gRB ∧ ∃ (fs3 : List Value), G2.2 t = some (.inl (5, fs3)) ∧ gFit 0 (.int (nI 0)) ∧
  let G4 : GH := gU G2 t (.inl (5, fs3.set 1 (.int (nI 0))));
  t < gRB ∧ ∃ (fs5 : List Value), G4.2 t = some (.inl (5, fs5)) ∧ gFit 0 (.int (nI 0)) ∧
  let G6 : GH := gU G4 t (.inl (5, fs5.set 2 (.int (nI 0))));
  WP M_Pl_clear 0 0 17 [some (.ref t), some (.int (nI 0))] [] G6 Q
set_option maxRecDepth 100000 in
theorem V_Pl_clear_0_ok {t : Nat} {G : GH} {Q : GQ} (h : V_Pl_clear_0 t G Q) : WP M_Pl_clear 0 0 0 [some (.ref t), none] [] G Q := WP.ofV (T := T_Pl_clear) (hh := []) rfl rfl [(17, [true, true])] 27 h
theorem E_Pl_clear {t : Nat} {G : GH} {K : GH → Prop} {KX : String → GH → Prop} (h : V_Pl_clear_0 t G (gQv K KX)) : CV M_Pl_clear [.ref t] G K KX := CV.of rfl rfl rfl (V_Pl_clear_0_ok h)
def V_Pl_clear_17 (t : Nat) (a1 : Int32) (G : GH) (Q : GQ) : Prop :=
  if a1 < (nI 5) then
    ∃ (fs1 : List Value) (r2 : Nat), G.2 t = some (.inl (5, fs1)) ∧ fs1[4]? = some (.ref r2) ∧
    r2 < gRB ∧ ∃ (m3 : Nat) (f4 : Nat → Int32), G.2 r2 = some (.inr (.int, m3, .inl f4)) ∧ vp_in a1 m3 ∧
    let G5 : GH := gU G r2 (.inr (.int, m3, .inl (upd f4 (a1).toNatClampNeg (nI 0))));
    WP M_Pl_clear 0 0 17 [some (.ref t), some (.int (a1 + nI 1))] [] G5 Q
  else
    Q.2.1 G
set_option maxRecDepth 100000 in
theorem V_Pl_clear_17_ok {t : Nat} {a1 : Int32} {G : GH} {Q : GQ} (h : V_Pl_clear_17 t a1 G Q) : WP M_Pl_clear 0 0 17 [some (.ref t), some (.int a1)] [] G Q := WP.ofV (T := T_Pl_clear) (hh := []) rfl rfl [(17, [true, true])] 27 h
def V_Pl_copyFrom_0 (t : Nat) (p1 : Nat) (G : GH) (Q : GQ) : Prop :=
  ∃ (fs1 : List Value) (x2 : Int32), G.2 p1 = some (.inl (5, fs1)) ∧ fs1[0]? = some (.int x2) ∧
  t < gRB ∧ ∃ (fs3 : List Value), G.2 t = some (.inl (5, fs3)) ∧ gFit 0 (.int x2) ∧
  let G4 : GH := gU G t (.inl (5, fs3.set 0 (.int x2)));
  ∃ (fs5 : List Value) (x6 : Int32), G4.2 p1 = some (.inl (5, fs5)) ∧ fs5[1]? = some (.int x6) ∧
  t < gRB ∧ ∃ (fs7 : List Value), G4.2 t = some (.inl (5, fs7)) ∧ gFit 0 (.int x6) ∧
  let G8 : GH := gU G4 t (.inl (5, fs7.set 1 (.int x6)));
  ∃ (fs9 : List Value) (x10 : Int32), G8.2 p1 = some (.inl (5, fs9)) ∧ fs9[2]? = some (.int x10) ∧
  t < gRB ∧ ∃ (fs11 : List Value), G8.2 t = some (.inl (5, fs11)) ∧ gFit 0 (.int x10) ∧
  let G12 : GH := gU G8 t (.inl (5, fs11.set 2 (.int x10)));
  ∃ (fs13 : List Value) (r14 : Nat), G12.2 p1 = some (.inl (5, fs13)) ∧ fs13[3]? = some (.ref r14) ∧
  ∃ (fs15 : List Value) (r16 : Nat), G12.2 t = some (.inl (5, fs15)) ∧ fs15[3]? = some (.ref r16) ∧
  r16 < gRB ∧ r14 < gRB ∧ ∃ (ty17 : FieldType) (m18 w19 : Nat) (f20 h21 : Nat → Int32) (ka22 da23 sa24 : Nat), G12.2 r14 = some (.inr (ty17, m18, .inl f20)) ∧ G12.2 r16 = some (.inr (ty17, w19, .inl h21)) ∧ (ty17 = .int ∨ ty17 = .boolean ∧ ∀ i, f20 i = nI 0 ∨ f20 i = nI 1) ∧ (nI 6) = nI ka22 ∧ (nI 0) = nI da23 ∧ (nI 0) = nI sa24 ∧ ka22 < 2 ^ 31 ∧ da23 < 2 ^ 31 ∧ sa24 < 2 ^ 31 ∧ sa24 + ka22 ≤ m18 ∧ da23 + ka22 ≤ w19 ∧
  let G25 : GH := gU G12 r16 (.inr (ty17, w19, .inl (va_cpy f20 h21 sa24 da23 ka22)));
  ∃ (fs26 : List Value) (r27 : Nat), G25.2 p1 = some (.inl (5, fs26)) ∧ fs26[4]? = some (.ref r27) ∧
  ∃ (fs28 : List Value) (r29 : Nat), G25.2 t = some (.inl (5, fs28)) ∧ fs28[4]? = some (.ref r29) ∧
  r29 < gRB ∧ r27 < gRB ∧ ∃ (ty30 : FieldType) (m31 w32 : Nat) (f33 h34 : Nat → Int32) (ka35 da36 sa37 : Nat), G25.2 r27 = some (.inr (ty30, m31, .inl f33)) ∧ G25.2 r29 = some (.inr (ty30, w32, .inl h34)) ∧ (ty30 = .int ∨ ty30 = .boolean ∧ ∀ i, f33 i = nI 0 ∨ f33 i = nI 1) ∧ (nI 5) = nI ka35 ∧ (nI 0) = nI da36 ∧ (nI 0) = nI sa37 ∧ ka35 < 2 ^ 31 ∧ da36 < 2 ^ 31 ∧ sa37 < 2 ^ 31 ∧ sa37 + ka35 ≤ m31 ∧ da36 + ka35 ≤ w32 ∧
  let G38 : GH := gU G25 r29 (.inr (ty30, w32, .inl (va_cpy f33 h34 sa37 da36 ka35)));
  WP M_Pl_copyFrom 0 0 53 [some (.ref t), some (.ref p1)] [] G38 Q
set_option maxRecDepth 100000 in
theorem V_Pl_copyFrom_0_ok {t : Nat} {p1 : Nat} {G : GH} {Q : GQ} (h : V_Pl_copyFrom_0 t p1 G Q) : WP M_Pl_copyFrom 0 0 0 [some (.ref t), some (.ref p1)] [] G Q := WP.ofV (T := T_Pl_copyFrom) (hh := []) rfl rfl [(53, [true, true])] 34 h
theorem E_Pl_copyFrom {t : Nat} {p1 : Nat} {G : GH} {K : GH → Prop} {KX : String → GH → Prop} (h : V_Pl_copyFrom_0 t p1 G (gQv K KX)) : CV M_Pl_copyFrom [.ref t, .ref p1] G K KX := CV.of rfl rfl rfl (V_Pl_copyFrom_0_ok h)
def V_Pl_copyFrom_53 (t : Nat) (p1 : Nat) (G : GH) (Q : GQ) : Prop :=
  Q.2.1 G
set_option maxRecDepth 100000 in
theorem V_Pl_copyFrom_53_ok {t : Nat} {p1 : Nat} {G : GH} {Q : GQ} (h : V_Pl_copyFrom_53 t p1 G Q) : WP M_Pl_copyFrom 0 0 53 [some (.ref t), some (.ref p1)] [] G Q := WP.ofV (T := T_Pl_copyFrom) (hh := []) rfl rfl [(53, [true, true])] 34 h
def V_Pl_addLetter_0 (t : Nat) (a1 : Int32) (G : GH) (Q : GQ) : Prop :=
  ∃ (fs1 : List Value) (x2 : Int32), G.2 t = some (.inl (5, fs1)) ∧ fs1[2]? = some (.int x2) ∧
  if x2 < (nI 6) then
    ∃ (fs3 : List Value) (r4 : Nat), G.2 t = some (.inl (5, fs3)) ∧ fs3[3]? = some (.ref r4) ∧
    ∃ (fs5 : List Value) (x6 : Int32), G.2 t = some (.inl (5, fs5)) ∧ fs5[2]? = some (.int x6) ∧
    r4 < gRB ∧ ∃ (m7 : Nat) (f8 : Nat → Int32), G.2 r4 = some (.inr (.int, m7, .inl f8)) ∧ vp_in x6 m7 ∧
    let G9 : GH := gU G r4 (.inr (.int, m7, .inl (upd f8 (x6).toNatClampNeg a1)));
    ∃ (fs10 : List Value) (x11 : Int32), G9.2 t = some (.inl (5, fs10)) ∧ fs10[2]? = some (.int x11) ∧
    t < gRB ∧ ∃ (fs12 : List Value), G9.2 t = some (.inl (5, fs12)) ∧ gFit 0 (.int (x11 + (nI 1))) ∧
    let G13 : GH := gU G9 t (.inl (5, fs12.set 2 (.int (x11 + (nI 1)))));
    Q.2.1 G13
  else
    Q.2.1 G
set_option maxRecDepth 100000 in
theorem V_Pl_addLetter_0_ok {t : Nat} {a1 : Int32} {G : GH} {Q : GQ} (h : V_Pl_addLetter_0 t a1 G Q) : WP M_Pl_addLetter 0 0 0 [some (.ref t), some (.int a1)] [] G Q := WP.ofV (T := T_Pl_addLetter) (hh := []) rfl rfl [] 22 h
theorem E_Pl_addLetter {t : Nat} {a1 : Int32} {G : GH} {K : GH → Prop} {KX : String → GH → Prop} (h : V_Pl_addLetter_0 t a1 G (gQv K KX)) : CV M_Pl_addLetter [.ref t, .int a1] G K KX := CV.of rfl rfl rfl (V_Pl_addLetter_0_ok h)
def V_Pl_letterAt_0 (t : Nat) (a1 : Int32) (G : GH) (Q : GQ) : Prop :=
  if a1 < (nI 0) then
    Q.1 (-nI 1) G
  else
    ∃ (fs1 : List Value) (x2 : Int32), G.2 t = some (.inl (5, fs1)) ∧ fs1[2]? = some (.int x2) ∧
    if a1 < x2 then
      ∃ (fs3 : List Value) (r4 : Nat), G.2 t = some (.inl (5, fs3)) ∧ fs3[3]? = some (.ref r4) ∧
      ∃ (m5 : Nat) (f6 : Nat → Int32), G.2 r4 = some (.inr (.int, m5, .inl f6)) ∧ vp_in a1 m5 ∧
      Q.1 (f6 (a1).toNatClampNeg) G
    else
      Q.1 (-nI 1) G
set_option maxRecDepth 100000 in
theorem V_Pl_letterAt_0_ok {t : Nat} {a1 : Int32} {G : GH} {Q : GQ} (h : V_Pl_letterAt_0 t a1 G Q) : WP M_Pl_letterAt 0 0 0 [some (.ref t), some (.int a1)] [] G Q := WP.ofV (T := T_Pl_letterAt) (hh := []) rfl rfl [] 18 h
theorem E_Pl_letterAt {t : Nat} {a1 : Int32} {G : GH} {K : Int32 → GH → Prop} {KX : String → GH → Prop} (h : V_Pl_letterAt_0 t a1 G (gQi K KX)) : CI M_Pl_letterAt [.ref t, .int a1] G K KX := CI.of rfl rfl rfl (V_Pl_letterAt_0_ok h)
def V_Pl_hasNameOf_0 (t : Nat) (p1 : Nat) (G : GH) (Q : GQ) : Prop :=
  ∃ (fs1 : List Value) (x2 : Int32), G.2 t = some (.inl (5, fs1)) ∧ fs1[2]? = some (.int x2) ∧
  ∃ (fs3 : List Value) (x4 : Int32), G.2 p1 = some (.inl (5, fs3)) ∧ fs3[2]? = some (.int x4) ∧
  if x2 = x4 then
    WP M_Pl_hasNameOf 0 0 15 [some (.ref t), some (.ref p1), some (.int (nI 0))] [] G Q
  else
    ((nI 0) = nI 0 ∨ (nI 0) = nI 1) ∧ Q.1 (nI 0) G
set_option maxRecDepth 100000 in
theorem V_Pl_hasNameOf_0_ok {t : Nat} {p1 : Nat} {G : GH} {Q : GQ} (h : V_Pl_hasNameOf_0 t p1 G Q) : WP M_Pl_hasNameOf 0 0 0 [some (.ref t), some (.ref p1), none] [] G Q := WP.ofV (T := T_Pl_hasNameOf) (hh := []) rfl rfl [(15, [true, true, true])] 33 h
theorem E_Pl_hasNameOf {t : Nat} {p1 : Nat} {G : GH} {K : Int32 → GH → Prop} {KX : String → GH → Prop} (h : V_Pl_hasNameOf_0 t p1 G (gQi K KX)) : CI M_Pl_hasNameOf [.ref t, .ref p1] G K KX := CI.of rfl rfl rfl (V_Pl_hasNameOf_0_ok h)
def V_Pl_hasNameOf_15 (t : Nat) (p1 : Nat) (a2 : Int32) (G : GH) (Q : GQ) : Prop :=
  ∃ (fs1 : List Value) (x2 : Int32), G.2 t = some (.inl (5, fs1)) ∧ fs1[2]? = some (.int x2) ∧
  if a2 < x2 then
    ∃ (fs3 : List Value) (r4 : Nat), G.2 t = some (.inl (5, fs3)) ∧ fs3[3]? = some (.ref r4) ∧
    ∃ (m5 : Nat) (f6 : Nat → Int32), G.2 r4 = some (.inr (.int, m5, .inl f6)) ∧ vp_in a2 m5 ∧
    ∃ (fs7 : List Value) (r8 : Nat), G.2 p1 = some (.inl (5, fs7)) ∧ fs7[3]? = some (.ref r8) ∧
    ∃ (m9 : Nat) (f10 : Nat → Int32), G.2 r8 = some (.inr (.int, m9, .inl f10)) ∧ vp_in a2 m9 ∧
    if (f6 (a2).toNatClampNeg) = (f10 (a2).toNatClampNeg) then
      WP M_Pl_hasNameOf 0 0 15 [some (.ref t), some (.ref p1), some (.int (a2 + nI 1))] [] G Q
    else
      ((nI 0) = nI 0 ∨ (nI 0) = nI 1) ∧ Q.1 (nI 0) G
  else
    ((nI 1) = nI 0 ∨ (nI 1) = nI 1) ∧ Q.1 (nI 1) G
set_option maxRecDepth 100000 in
theorem V_Pl_hasNameOf_15_ok {t : Nat} {p1 : Nat} {a2 : Int32} {G : GH} {Q : GQ} (h : V_Pl_hasNameOf_15 t p1 a2 G Q) : WP M_Pl_hasNameOf 0 0 15 [some (.ref t), some (.ref p1), some (.int a2)] [] G Q := WP.ofV (T := T_Pl_hasNameOf) (hh := []) rfl rfl [(15, [true, true, true])] 33 h
def V_Pl_supplyOf_0 (t : Nat) (a1 : Int32) (G : GH) (Q : GQ) : Prop :=
  if a1 < (nI 0) then
    Q.1 (nI 0) G
  else
    if a1 < (nI 5) then
      ∃ (fs1 : List Value) (r2 : Nat), G.2 t = some (.inl (5, fs1)) ∧ fs1[4]? = some (.ref r2) ∧
      ∃ (m3 : Nat) (f4 : Nat → Int32), G.2 r2 = some (.inr (.int, m3, .inl f4)) ∧ vp_in a1 m3 ∧
      Q.1 (f4 (a1).toNatClampNeg) G
    else
      Q.1 (nI 0) G
set_option maxRecDepth 100000 in
theorem V_Pl_supplyOf_0_ok {t : Nat} {a1 : Int32} {G : GH} {Q : GQ} (h : V_Pl_supplyOf_0 t a1 G Q) : WP M_Pl_supplyOf 0 0 0 [some (.ref t), some (.int a1)] [] G Q := WP.ofV (T := T_Pl_supplyOf) (hh := []) rfl rfl [] 17 h
theorem E_Pl_supplyOf {t : Nat} {a1 : Int32} {G : GH} {K : Int32 → GH → Prop} {KX : String → GH → Prop} (h : V_Pl_supplyOf_0 t a1 G (gQi K KX)) : CI M_Pl_supplyOf [.ref t, .int a1] G K KX := CI.of rfl rfl rfl (V_Pl_supplyOf_0_ok h)
def V_Pl_setSupply_0 (t : Nat) (a1 : Int32) (a2 : Int32) (G : GH) (Q : GQ) : Prop :=
  if a1 < (nI 0) then
    Q.2.1 G
  else
    if a1 < (nI 5) then
      ∃ (fs1 : List Value) (r2 : Nat), G.2 t = some (.inl (5, fs1)) ∧ fs1[4]? = some (.ref r2) ∧
      r2 < gRB ∧ ∃ (m3 : Nat) (f4 : Nat → Int32), G.2 r2 = some (.inr (.int, m3, .inl f4)) ∧ vp_in a1 m3 ∧
      let G5 : GH := gU G r2 (.inr (.int, m3, .inl (upd f4 (a1).toNatClampNeg a2)));
      Q.2.1 G5
    else
      Q.2.1 G
set_option maxRecDepth 100000 in
theorem V_Pl_setSupply_0_ok {t : Nat} {a1 : Int32} {a2 : Int32} {G : GH} {Q : GQ} (h : V_Pl_setSupply_0 t a1 a2 G Q) : WP M_Pl_setSupply 0 0 0 [some (.ref t), some (.int a1), some (.int a2)] [] G Q := WP.ofV (T := T_Pl_setSupply) (hh := []) rfl rfl [] 16 h
theorem E_Pl_setSupply {t : Nat} {a1 : Int32} {a2 : Int32} {G : GH} {K : GH → Prop} {KX : String → GH → Prop} (h : V_Pl_setSupply_0 t a1 a2 G (gQv K KX)) : CV M_Pl_setSupply [.ref t, .int a1, .int a2] G K KX := CV.of rfl rfl rfl (V_Pl_setSupply_0_ok h)
