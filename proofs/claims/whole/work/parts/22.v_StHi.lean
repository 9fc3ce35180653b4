def V_Hi_init_0 (t : Nat) (G : GH) (Q : GQ) : Prop :=
  t < gRB ∧ ∃ (fs1 : List Value), G.2 t = some (.inl (3, fs1)) ∧ gFit 0 (.int (nI 0)) ∧
  let G2 : GH := gU G t (.inl (3, fs1.set 0 (.int (nI 0))));
  t < gRB ∧ ∃ (fs3 : List Value), G2.2 t = some (.inl (3, fs3)) ∧ gFit 0 (.int (nI 0)) ∧
  let G4 : GH := gU G2 t (.inl (3, fs3.set 1 (.int (nI 0))));
  1 ≤ 137 ∧ 0 < G4.1 ∧ G4.1 < gRB ∧ ∃ (m5 : Nat), (nI 8) = nI m5 ∧ m5 ≤ 100000 ∧ m5 ≤ 3472 ∧
  let G6 : GH := gPush G4 (.inr (.object "TrunkDuel$State", m5, .inr (.inr (.inr (.inr fun _ => none)))));
  t < gRB ∧ ∃ (fs7 : List Value), G6.2 t = some (.inl (3, fs7)) ∧ gFit 1 (.ref G4.1) ∧
  let G8 : GH := gU G6 t (.inl (3, fs7.set 2 (.ref G4.1)));
  WP M_Hi_init (137 - 1) (3472 - m5) 25 [some (.ref t), some (.int (nI 0))] [] G8 Q
set_option maxRecDepth 100000 in
theorem V_Hi_init_0_ok {t : Nat} {G : GH} {Q : GQ} (h : V_Hi_init_0 t G Q) : WP M_Hi_init 137 3472 0 [some (.ref t), none] [] G Q := WP.ofV (T := T_Hi_init) (hh := []) rfl rfl [(25, [true, true])] 32 h
theorem E_Hi_init {t : Nat} {G : GH} {K : GH → Prop} {KX : String → GH → Prop} (h : V_Hi_init_0 t G (gQv K KX)) : CV M_Hi_init [.ref t] G K KX := CV.of rfl rfl rfl (V_Hi_init_0_ok h)
def V_Hi_init_25 (rc rs : Nat) (t : Nat) (a1 : Int32) (G : GH) (Q : GQ) : Prop :=
  if a1 < (nI 8) then
    ∃ (fs1 : List Value) (r2 : Nat), G.2 t = some (.inl (3, fs1)) ∧ fs1[2]? = some (.ref r2) ∧
    1 ≤ rc ∧ 6 ≤ rs ∧ 0 < G.1 ∧ G.1 < gRB ∧
    let G3 : GH := gPush G (.inl (8, gBlk 8));
    bif Nat.ble 16 (rc - 1) && (Nat.ble 427 (rs - 6) && Nat.ble (gCat [.ref G.1, .int a1, .ref r2]) 8) then CV M_St_init [.ref G.1] G3 (fun (G4 : GH) =>
      r2 < gRB ∧ G.1 < gRB ∧ ∃ (m5 : Nat) (f6 : Nat → Option Nat) (fs7 : List Value), G4.2 r2 = some (.inr (.object "TrunkDuel$State", m5, .inr (.inr (.inr (.inr f6))))) ∧ G4.2 G.1 = some (.inl (8, fs7)) ∧ vp_in a1 m5 ∧
      let G8 : GH := gU G4 r2 (.inr (.object "TrunkDuel$State", m5, .inr (.inr (.inr (.inr (va_up f6 (a1).toNatClampNeg (some G.1)))))));
      WP M_Hi_init ((rc - 1) - 16) ((rs - 6) - 427) 25 [some (.ref t), some (.int (a1 + nI 1))] [] G8 Q) gNo else False
  else
    Q.2.1 G
set_option maxRecDepth 100000 in
theorem V_Hi_init_25_ok {rc rs : Nat} {t : Nat} {a1 : Int32} {G : GH} {Q : GQ} (h : V_Hi_init_25 rc rs t a1 G Q) : WP M_Hi_init rc rs 25 [some (.ref t), some (.int a1)] [] G Q := WP.ofV (T := T_Hi_init) (hh := []) rfl rfl [(25, [true, true])] 32 h
def V_Hi_remember_0 (t : Nat) (p1 : Nat) (G : GH) (Q : GQ) : Prop :=
  ∃ (fs1 : List Value) (x2 : Int32), G.2 t = some (.inl (3, fs1)) ∧ fs1[0]? = some (.int x2) ∧
  if x2 = (nI 8) then
    ∃ (fs3 : List Value) (x4 : Int32), G.2 t = some (.inl (3, fs3)) ∧ fs3[1]? = some (.int x4) ∧
    ¬ (nI 8) = 0 ∧
    t < gRB ∧ ∃ (fs5 : List Value), G.2 t = some (.inl (3, fs5)) ∧ gFit 0 (.int ((x4 + (nI 1)) - (x4 + (nI 1)) / (nI 8) * (nI 8))) ∧
    let G6 : GH := gU G t (.inl (3, fs5.set 1 (.int ((x4 + (nI 1)) - (x4 + (nI 1)) / (nI 8) * (nI 8)))));
    ∃ (fs7 : List Value) (x8 : Int32), G6.2 t = some (.inl (3, fs7)) ∧ fs7[0]? = some (.int x8) ∧
    t < gRB ∧ ∃ (fs9 : List Value), G6.2 t = some (.inl (3, fs9)) ∧ gFit 0 (.int (x8 - (nI 1))) ∧
    let G10 : GH := gU G6 t (.inl (3, fs9.set 0 (.int (x8 - (nI 1)))));
    WP M_Hi_remember 0 0 32 [some (.ref t), some (.ref p1)] [] G10 Q
  else
    WP M_Hi_remember 0 0 32 [some (.ref t), some (.ref p1)] [] G Q
set_option maxRecDepth 100000 in
theorem V_Hi_remember_0_ok {t : Nat} {p1 : Nat} {G : GH} {Q : GQ} (h : V_Hi_remember_0 t p1 G Q) : WP M_Hi_remember 0 0 0 [some (.ref t), some (.ref p1)] [] G Q := WP.ofV (T := T_Hi_remember) (hh := []) rfl rfl [(32, [true, true])] 42 h
theorem E_Hi_remember {t : Nat} {p1 : Nat} {G : GH} {K : GH → Prop} {KX : String → GH → Prop} (h : V_Hi_remember_0 t p1 G (gQv K KX)) : CV M_Hi_remember [.ref t, .ref p1] G K KX := CV.of rfl rfl rfl (V_Hi_remember_0_ok h)
def V_Hi_remember_32 (t : Nat) (p1 : Nat) (G : GH) (Q : GQ) : Prop :=
  ∃ (fs1 : List Value) (r2 : Nat), G.2 t = some (.inl (3, fs1)) ∧ fs1[2]? = some (.ref r2) ∧
  ∃ (fs3 : List Value) (x4 : Int32), G.2 t = some (.inl (3, fs3)) ∧ fs3[1]? = some (.int x4) ∧
  ∃ (fs5 : List Value) (x6 : Int32), G.2 t = some (.inl (3, fs5)) ∧ fs5[0]? = some (.int x6) ∧
  ¬ (nI 8) = 0 ∧
  r2 < gRB ∧ ∃ (C7 : String) (m8 : Nat) (f9 : Nat → Option Nat) (r10 : Nat), G.2 r2 = some (.inr (.object C7, m8, .inr (.inr (.inr (.inr f9))))) ∧ vp_in ((x4 + x6) - (x4 + x6) / (nI 8) * (nI 8)) m8 ∧ f9 ((x4 + x6) - (x4 + x6) / (nI 8) * (nI 8)).toNatClampNeg = some r10 ∧
  CV M_St_copyFrom [.ref r10, .ref p1] G (fun (G11 : GH) =>
    ∃ (fs12 : List Value) (x13 : Int32), G11.2 t = some (.inl (3, fs12)) ∧ fs12[0]? = some (.int x13) ∧
    t < gRB ∧ ∃ (fs14 : List Value), G11.2 t = some (.inl (3, fs14)) ∧ gFit 0 (.int (x13 + (nI 1))) ∧
    let G15 : GH := gU G11 t (.inl (3, fs14.set 0 (.int (x13 + (nI 1)))));
    Q.2.1 G15) gNo
set_option maxRecDepth 100000 in
theorem V_Hi_remember_32_ok {t : Nat} {p1 : Nat} {G : GH} {Q : GQ} (h : V_Hi_remember_32 t p1 G Q) : WP M_Hi_remember 0 0 32 [some (.ref t), some (.ref p1)] [] G Q := WP.ofV (T := T_Hi_remember) (hh := []) rfl rfl [(32, [true, true])] 42 h
def V_Hi_bringBack_0 (t : Nat) (p1 : Nat) (G : GH) (Q : GQ) : Prop :=
  ∃ (fs1 : List Value) (x2 : Int32), G.2 t = some (.inl (3, fs1)) ∧ fs1[0]? = some (.int x2) ∧
  if (nI 0) < x2 then
    ∃ (fs3 : List Value) (x4 : Int32), G.2 t = some (.inl (3, fs3)) ∧ fs3[0]? = some (.int x4) ∧
    t < gRB ∧ ∃ (fs5 : List Value), G.2 t = some (.inl (3, fs5)) ∧ gFit 0 (.int (x4 - (nI 1))) ∧
    let G6 : GH := gU G t (.inl (3, fs5.set 0 (.int (x4 - (nI 1)))));
    ∃ (fs7 : List Value) (r8 : Nat), G6.2 t = some (.inl (3, fs7)) ∧ fs7[2]? = some (.ref r8) ∧
    ∃ (fs9 : List Value) (x10 : Int32), G6.2 t = some (.inl (3, fs9)) ∧ fs9[1]? = some (.int x10) ∧
    ∃ (fs11 : List Value) (x12 : Int32), G6.2 t = some (.inl (3, fs11)) ∧ fs11[0]? = some (.int x12) ∧
    ¬ (nI 8) = 0 ∧
    r8 < gRB ∧ ∃ (C13 : String) (m14 : Nat) (f15 : Nat → Option Nat) (r16 : Nat), G6.2 r8 = some (.inr (.object C13, m14, .inr (.inr (.inr (.inr f15))))) ∧ vp_in ((x10 + x12) - (x10 + x12) / (nI 8) * (nI 8)) m14 ∧ f15 ((x10 + x12) - (x10 + x12) / (nI 8) * (nI 8)).toNatClampNeg = some r16 ∧
    CV M_St_copyFrom [.ref p1, .ref r16] G6 (fun (G17 : GH) =>
      Q.2.1 G17) gNo
  else
    Q.2.1 G
set_option maxRecDepth 100000 in
theorem V_Hi_bringBack_0_ok {t : Nat} {p1 : Nat} {G : GH} {Q : GQ} (h : V_Hi_bringBack_0 t p1 G Q) : WP M_Hi_bringBack 0 0 0 [some (.ref t), some (.ref p1)] [] G Q := WP.ofV (T := T_Hi_bringBack) (hh := []) rfl rfl [] 27 h
theorem E_Hi_bringBack {t : Nat} {p1 : Nat} {G : GH} {K : GH → Prop} {KX : String → GH → Prop} (h : V_Hi_bringBack_0 t p1 G (gQv K KX)) : CV M_Hi_bringBack [.ref t, .ref p1] G K KX := CV.of rfl rfl rfl (V_Hi_bringBack_0_ok h)
def V_St_init_0 (t : Nat) (G : GH) (Q : GQ) : Prop :=
  1 ≤ 16 ∧ 4 ≤ 427 ∧ 0 < G.1 ∧ G.1 < gRB ∧
  let G1 : GH := gPush G (.inl (9, gBlk 9));
  bif Nat.ble 2 (16 - 1) && (Nat.ble 192 (427 - 4) && Nat.ble (gCat [.ref G.1, .ref t]) 8) then CV M_Tk_init [.ref G.1] G1 (fun (G2 : GH) =>
    t < gRB ∧ ∃ (fs3 : List Value), G2.2 t = some (.inl (8, fs3)) ∧ gFit 1 (.ref G.1) ∧
    let G4 : GH := gU G2 t (.inl (8, fs3.set 0 (.ref G.1)));
    1 ≤ ((16 - 1) - 2) ∧ 7 ≤ ((427 - 4) - 192) ∧ 0 < G4.1 ∧ G4.1 < gRB ∧
    let G5 : GH := gPush G4 (.inl (4, gBlk 4));
    bif Nat.ble 6 (((16 - 1) - 2) - 1) && (Nat.ble 192 (((427 - 4) - 192) - 7) && Nat.ble (gCat [.ref G4.1, .ref t]) 8) then CV M_Pi_init [.ref G4.1] G5 (fun (G6 : GH) =>
      t < gRB ∧ ∃ (fs7 : List Value), G6.2 t = some (.inl (8, fs7)) ∧ gFit 1 (.ref G4.1) ∧
      let G8 : GH := gU G6 t (.inl (8, fs7.set 1 (.ref G4.1)));
      1 ≤ ((((16 - 1) - 2) - 1) - 6) ∧ 5 ≤ ((((427 - 4) - 192) - 7) - 192) ∧ 0 < G8.1 ∧ G8.1 < gRB ∧
      let G9 : GH := gPush G8 (.inl (5, gBlk 5));
      bif Nat.ble 2 (((((16 - 1) - 2) - 1) - 6) - 1) && (Nat.ble 11 (((((427 - 4) - 192) - 7) - 192) - 5) && Nat.ble (gCat [.ref G8.1, .ref t]) 8) then CV M_Pl_init [.ref G8.1] G9 (fun (G10 : GH) =>
        t < gRB ∧ ∃ (fs11 : List Value), G10.2 t = some (.inl (8, fs11)) ∧ gFit 1 (.ref G8.1) ∧
        let G12 : GH := gU G10 t (.inl (8, fs11.set 2 (.ref G8.1)));
        WP M_St_init ((((((16 - 1) - 2) - 1) - 6) - 1) - 2) ((((((427 - 4) - 192) - 7) - 192) - 5) - 11) 37 [some (.ref t)] [] G12 Q) gNo else False) gNo else False) gNo else False
set_option maxRecDepth 100000 in
theorem V_St_init_0_ok {t : Nat} {G : GH} {Q : GQ} (h : V_St_init_0 t G Q) : WP M_St_init 16 427 0 [some (.ref t)] [] G Q := WP.ofV (T := T_St_init) (hh := []) rfl rfl [(37, [true])] 34 h
theorem E_St_init {t : Nat} {G : GH} {K : GH → Prop} {KX : String → GH → Prop} (h : V_St_init_0 t G (gQv K KX)) : CV M_St_init [.ref t] G K KX := CV.of rfl rfl rfl (V_St_init_0_ok h)
def V_St_init_37 (rc rs : Nat) (t : Nat) (G : GH) (Q : GQ) : Prop :=
  1 ≤ rc ∧ 5 ≤ rs ∧ 0 < G.1 ∧ G.1 < gRB ∧
  let G1 : GH := gPush G (.inl (5, gBlk 5));
  bif Nat.ble 2 (rc - 1) && (Nat.ble 11 (rs - 5) && Nat.ble (gCat [.ref G.1, .ref t]) 8) then CV M_Pl_init [.ref G.1] G1 (fun (G2 : GH) =>
    t < gRB ∧ ∃ (fs3 : List Value), G2.2 t = some (.inl (8, fs3)) ∧ gFit 1 (.ref G.1) ∧
    let G4 : GH := gU G2 t (.inl (8, fs3.set 3 (.ref G.1)));
    t < gRB ∧ ∃ (fs5 : List Value), G4.2 t = some (.inl (8, fs5)) ∧ gFit 0 (.int (nI 0)) ∧
    let G6 : GH := gU G4 t (.inl (8, fs5.set 4 (.int (nI 0))));
    t < gRB ∧ ∃ (fs7 : List Value), G6.2 t = some (.inl (8, fs7)) ∧ gFit 0 (.int (nI 0)) ∧
    let G8 : GH := gU G6 t (.inl (8, fs7.set 5 (.int (nI 0))));
    Q.2.1 G8) gNo else False
set_option maxRecDepth 100000 in
theorem V_St_init_37_ok {rc rs : Nat} {t : Nat} {G : GH} {Q : GQ} (h : V_St_init_37 rc rs t G Q) : WP M_St_init rc rs 37 [some (.ref t)] [] G Q := WP.ofV (T := T_St_init) (hh := []) rfl rfl [(37, [true])] 34 h
def V_St_clear_0 (t : Nat) (a1 : Int32) (a2 : Int32) (G : GH) (Q : GQ) : Prop :=
  ∃ (fs1 : List Value) (r2 : Nat), G.2 t = some (.inl (8, fs1)) ∧ fs1[0]? = some (.ref r2) ∧
  CV M_Tk_clear [.ref r2, .int a1, .int a2] G (fun (G3 : GH) =>
    ∃ (fs4 : List Value) (r5 : Nat), G3.2 t = some (.inl (8, fs4)) ∧ fs4[1]? = some (.ref r5) ∧
    r5 < gRB ∧ ∃ (fs6 : List Value), G3.2 r5 = some (.inl (4, fs6)) ∧ gFit 0 (.int (nI 0)) ∧
    let G7 : GH := gU G3 r5 (.inl (4, fs6.set 0 (.int (nI 0))));
    ∃ (fs8 : List Value) (r9 : Nat), G7.2 t = some (.inl (8, fs8)) ∧ fs8[2]? = some (.ref r9) ∧
    CV M_Pl_clear [.ref r9] G7 (fun (G10 : GH) =>
      ∃ (fs11 : List Value) (r12 : Nat), G10.2 t = some (.inl (8, fs11)) ∧ fs11[3]? = some (.ref r12) ∧
      CV M_Pl_clear [.ref r12] G10 (fun (G13 : GH) =>
        t < gRB ∧ ∃ (fs14 : List Value), G13.2 t = some (.inl (8, fs14)) ∧ gFit 0 (.int (nI 0)) ∧
        let G15 : GH := gU G13 t (.inl (8, fs14.set 4 (.int (nI 0))));
        t < gRB ∧ ∃ (fs16 : List Value), G15.2 t = some (.inl (8, fs16)) ∧ gFit 0 (.int (nI 0)) ∧
        let G17 : GH := gU G15 t (.inl (8, fs16.set 5 (.int (nI 0))));
        Q.2.1 G17) gNo) gNo) gNo
set_option maxRecDepth 100000 in
theorem V_St_clear_0_ok {t : Nat} {a1 : Int32} {a2 : Int32} {G : GH} {Q : GQ} (h : V_St_clear_0 t a1 a2 G Q) : WP M_St_clear 0 0 0 [some (.ref t), some (.int a1), some (.int a2)] [] G Q := WP.ofV (T := T_St_clear) (hh := []) rfl rfl [] 27 h
theorem E_St_clear {t : Nat} {a1 : Int32} {a2 : Int32} {G : GH} {K : GH → Prop} {KX : String → GH → Prop} (h : V_St_clear_0 t a1 a2 G (gQv K KX)) : CV M_St_clear [.ref t, .int a1, .int a2] G K KX := CV.of rfl rfl rfl (V_St_clear_0_ok h)
def V_St_copyFrom_0 (t : Nat) (p1 : Nat) (G : GH) (Q : GQ) : Prop :=
  ∃ (fs1 : List Value) (r2 : Nat), G.2 t = some (.inl (8, fs1)) ∧ fs1[0]? = some (.ref r2) ∧
  ∃ (fs3 : List Value) (r4 : Nat), G.2 p1 = some (.inl (8, fs3)) ∧ fs3[0]? = some (.ref r4) ∧
  CV M_Tk_copyFrom [.ref r2, .ref r4] G (fun (G5 : GH) =>
    ∃ (fs6 : List Value) (r7 : Nat), G5.2 t = some (.inl (8, fs6)) ∧ fs6[1]? = some (.ref r7) ∧
    ∃ (fs8 : List Value) (r9 : Nat), G5.2 p1 = some (.inl (8, fs8)) ∧ fs8[1]? = some (.ref r9) ∧
    CV M_Pi_copyFrom [.ref r7, .ref r9] G5 (fun (G10 : GH) =>
      ∃ (fs11 : List Value) (r12 : Nat), G10.2 t = some (.inl (8, fs11)) ∧ fs11[2]? = some (.ref r12) ∧
      ∃ (fs13 : List Value) (r14 : Nat), G10.2 p1 = some (.inl (8, fs13)) ∧ fs13[2]? = some (.ref r14) ∧
      CV M_Pl_copyFrom [.ref r12, .ref r14] G10 (fun (G15 : GH) =>
        ∃ (fs16 : List Value) (r17 : Nat), G15.2 t = some (.inl (8, fs16)) ∧ fs16[3]? = some (.ref r17) ∧
        ∃ (fs18 : List Value) (r19 : Nat), G15.2 p1 = some (.inl (8, fs18)) ∧ fs18[3]? = some (.ref r19) ∧
        CV M_Pl_copyFrom [.ref r17, .ref r19] G15 (fun (G20 : GH) =>
          ∃ (fs21 : List Value) (x22 : Int32), G20.2 p1 = some (.inl (8, fs21)) ∧ fs21[4]? = some (.int x22) ∧
          t < gRB ∧ ∃ (fs23 : List Value), G20.2 t = some (.inl (8, fs23)) ∧ gFit 0 (.int x22) ∧
          let G24 : GH := gU G20 t (.inl (8, fs23.set 4 (.int x22)));
          ∃ (fs25 : List Value) (x26 : Int32), G24.2 p1 = some (.inl (8, fs25)) ∧ fs25[5]? = some (.int x26) ∧
          t < gRB ∧ ∃ (fs27 : List Value), G24.2 t = some (.inl (8, fs27)) ∧ gFit 0 (.int x26) ∧
          let G28 : GH := gU G24 t (.inl (8, fs27.set 5 (.int x26)));
          Q.2.1 G28) gNo) gNo) gNo) gNo
set_option maxRecDepth 100000 in
theorem V_St_copyFrom_0_ok {t : Nat} {p1 : Nat} {G : GH} {Q : GQ} (h : V_St_copyFrom_0 t p1 G Q) : WP M_St_copyFrom 0 0 0 [some (.ref t), some (.ref p1)] [] G Q := WP.ofV (T := T_St_copyFrom) (hh := []) rfl rfl [] 34 h
theorem E_St_copyFrom {t : Nat} {p1 : Nat} {G : GH} {K : GH → Prop} {KX : String → GH → Prop} (h : V_St_copyFrom_0 t p1 G (gQv K KX)) : CV M_St_copyFrom [.ref t, .ref p1] G K KX := CV.of rfl rfl rfl (V_St_copyFrom_0_ok h)
def V_St_isFinished_0 (t : Nat) (G : GH) (Q : GQ) : Prop :=
  ∃ (fs1 : List Value) (x2 : Int32), G.2 t = some (.inl (8, fs1)) ∧ fs1[5]? = some (.int x2) ∧
  if x2 < (nI 2) then
    ((nI 0) = nI 0 ∨ (nI 0) = nI 1) ∧ Q.1 (nI 0) G
  else
    ((nI 1) = nI 0 ∨ (nI 1) = nI 1) ∧ Q.1 (nI 1) G
set_option maxRecDepth 100000 in
theorem V_St_isFinished_0_ok {t : Nat} {G : GH} {Q : GQ} (h : V_St_isFinished_0 t G Q) : WP M_St_isFinished 0 0 0 [some (.ref t)] [] G Q := WP.ofV (T := T_St_isFinished) (hh := []) rfl rfl [] 13 h
theorem E_St_isFinished {t : Nat} {G : GH} {K : Int32 → GH → Prop} {KX : String → GH → Prop} (h : V_St_isFinished_0 t G (gQi K KX)) : CI M_St_isFinished [.ref t] G K KX := CI.of rfl rfl rfl (V_St_isFinished_0_ok h)
def V_St_playerOf_0 (t : Nat) (a1 : Int32) (G : GH) (Q : GQ) : Prop :=
  if a1 = (nI 0) then
    ∃ (fs1 : List Value) (r2 : Nat), G.2 t = some (.inl (8, fs1)) ∧ fs1[2]? = some (.ref r2) ∧
    Q.2.2.1 r2 G
  else
    ∃ (fs3 : List Value) (r4 : Nat), G.2 t = some (.inl (8, fs3)) ∧ fs3[3]? = some (.ref r4) ∧
    Q.2.2.1 r4 G
set_option maxRecDepth 100000 in
theorem V_St_playerOf_0_ok {t : Nat} {a1 : Int32} {G : GH} {Q : GQ} (h : V_St_playerOf_0 t a1 G Q) : WP M_St_playerOf 0 0 0 [some (.ref t), some (.int a1)] [] G Q := WP.ofV (T := T_St_playerOf) (hh := []) rfl rfl [] 13 h
theorem E_St_playerOf {t : Nat} {a1 : Int32} {G : GH} {K : Nat → GH → Prop} (h : V_St_playerOf_0 t a1 G (gQr K)) : CR M_St_playerOf [.ref t, .int a1] G K := CR.of rfl rfl rfl (V_St_playerOf_0_ok h)
def V_St_allowsPiece_0 (t : Nat) (p1 : Nat) (G : GH) (Q : GQ) : Prop :=
  CI M_St_isFinished [.ref t] G (fun (x2 : Int32) (G1 : GH) =>
    if x2 = (nI 0) then
      ∃ (fs3 : List Value) (x4 : Int32), G1.2 t = some (.inl (8, fs3)) ∧ fs3[4]? = some (.int x4) ∧
      CR M_St_playerOf [.ref t, .int x4] G1 (fun (r6 : Nat) (G5 : GH) =>
        ∃ (fs7 : List Value) (x8 : Int32), G5.2 p1 = some (.inl (2, fs7)) ∧ fs7[0]? = some (.int x8) ∧
        CI M_Pl_supplyOf [.ref r6, .int x8] G5 (fun (x10 : Int32) (G9 : GH) =>
          if (nI 0) < x10 then
            ∃ (fs11 : List Value) (r12 : Nat), G9.2 t = some (.inl (8, fs11)) ∧ fs11[0]? = some (.ref r12) ∧
            CI M_Tk_misfitOf [.ref r12, .ref p1] G9 (fun (x14 : Int32) (G13 : GH) =>
              if x14 = (nI 0) then
                ((nI 1) = nI 0 ∨ (nI 1) = nI 1) ∧ Q.1 (nI 1) G13
              else
                ((nI 0) = nI 0 ∨ (nI 0) = nI 1) ∧ Q.1 (nI 0) G13) gNo
          else
            ((nI 0) = nI 0 ∨ (nI 0) = nI 1) ∧ Q.1 (nI 0) G9) gNo)
    else
      ((nI 0) = nI 0 ∨ (nI 0) = nI 1) ∧ Q.1 (nI 0) G1) gNo
set_option maxRecDepth 100000 in
theorem V_St_allowsPiece_0_ok {t : Nat} {p1 : Nat} {G : GH} {Q : GQ} (h : V_St_allowsPiece_0 t p1 G Q) : WP M_St_allowsPiece 0 0 0 [some (.ref t), some (.ref p1)] [] G Q := WP.ofV (T := T_St_allowsPiece) (hh := []) rfl rfl [] 25 h
theorem E_St_allowsPiece {t : Nat} {p1 : Nat} {G : GH} {K : Int32 → GH → Prop} {KX : String → GH → Prop} (h : V_St_allowsPiece_0 t p1 G (gQi K KX)) : CI M_St_allowsPiece [.ref t, .ref p1] G K KX := CI.of rfl rfl rfl (V_St_allowsPiece_0_ok h)
def V_St_putPiece_0 (t : Nat) (p1 : Nat) (G : GH) (Q : GQ) : Prop :=
  ∃ (fs1 : List Value) (x2 : Int32), G.2 t = some (.inl (8, fs1)) ∧ fs1[4]? = some (.int x2) ∧
  CR M_St_playerOf [.ref t, .int x2] G (fun (r4 : Nat) (G3 : GH) =>
    ∃ (fs5 : List Value) (r6 : Nat), G3.2 t = some (.inl (8, fs5)) ∧ fs5[0]? = some (.ref r6) ∧
    CI M_Tk_pointsOf [.ref r6, .ref p1] G3 (fun (x8 : Int32) (G7 : GH) =>
      WP M_St_putPiece 0 0 21 [some (.ref t), some (.ref p1), some (.ref r4), some (.int x8), some (.int (nI 0))] [] G7 Q) gNo)
set_option maxRecDepth 100000 in
theorem V_St_putPiece_0_ok {t : Nat} {p1 : Nat} {G : GH} {Q : GQ} (h : V_St_putPiece_0 t p1 G Q) : WP M_St_putPiece 0 0 0 [some (.ref t), some (.ref p1), none, none, none] [] G Q := WP.ofV (T := T_St_putPiece) (hh := []) rfl rfl [(21, [true, true, true, true, true])] 63 h
theorem E_St_putPiece {t : Nat} {p1 : Nat} {G : GH} {K : Int32 → GH → Prop} {KX : String → GH → Prop} (h : V_St_putPiece_0 t p1 G (gQi K KX)) : CI M_St_putPiece [.ref t, .ref p1] G K KX := CI.of rfl rfl rfl (V_St_putPiece_0_ok h)
def V_St_putPiece_21 (t : Nat) (p1 : Nat) (p2 : Nat) (a3 : Int32) (a4 : Int32) (G : GH) (Q : GQ) : Prop :=
  ∃ (fs1 : List Value) (x2 : Int32), G.2 p1 = some (.inl (2, fs1)) ∧ fs1[4]? = some (.int x2) ∧
  if a4 < x2 then
    ∃ (fs3 : List Value) (r4 : Nat), G.2 t = some (.inl (8, fs3)) ∧ fs3[0]? = some (.ref r4) ∧
    CI M_Fp_columnOf [.ref p1, .int a4] G (fun (x6 : Int32) (G5 : GH) =>
      CI M_Fp_rowOf [.ref p1, .int a4] G5 (fun (x8 : Int32) (G7 : GH) =>
        ∃ (fs9 : List Value) (r10 : Nat), G7.2 t = some (.inl (8, fs9)) ∧ fs9[1]? = some (.ref r10) ∧
        ∃ (fs11 : List Value) (x12 : Int32), G7.2 r10 = some (.inl (4, fs11)) ∧ fs11[0]? = some (.int x12) ∧
        CV M_Tk_setCell [.ref r4, .int x6, .int x8, .int x12] G7 (fun (G13 : GH) =>
          WP M_St_putPiece 0 0 21 [some (.ref t), some (.ref p1), some (.ref p2), some (.int a3), some (.int (a4 + nI 1))] [] G13 Q) gNo) gNo) gNo
  else
    ∃ (fs14 : List Value) (r15 : Nat), G.2 t = some (.inl (8, fs14)) ∧ fs14[1]? = some (.ref r15) ∧
    ∃ (fs16 : List Value) (x17 : Int32), G.2 t = some (.inl (8, fs16)) ∧ fs16[4]? = some (.int x17) ∧
    CV M_Pi_add [.ref r15, .ref p1, .int x17, .int a3] G (fun (G18 : GH) =>
      ∃ (fs19 : List Value) (x20 : Int32), G18.2 p1 = some (.inl (2, fs19)) ∧ fs19[0]? = some (.int x20) ∧
      ∃ (fs21 : List Value) (x22 : Int32), G18.2 p1 = some (.inl (2, fs21)) ∧ fs21[0]? = some (.int x22) ∧
      CI M_Pl_supplyOf [.ref p2, .int x22] G18 (fun (x24 : Int32) (G23 : GH) =>
        CV M_Pl_setSupply [.ref p2, .int x20, .int (x24 - (nI 1))] G23 (fun (G25 : GH) =>
          ∃ (fs26 : List Value) (x27 : Int32), G25.2 p2 = some (.inl (5, fs26)) ∧ fs26[0]? = some (.int x27) ∧
          p2 < gRB ∧ ∃ (fs28 : List Value), G25.2 p2 = some (.inl (5, fs28)) ∧ gFit 0 (.int (x27 + a3)) ∧
          let G29 : GH := gU G25 p2 (.inl (5, fs28.set 0 (.int (x27 + a3))));
          CV M_St_endTurn [.ref t, .int (nI 0)] G29 (fun (G30 : GH) =>
            Q.1 a3 G30) gNo) gNo) gNo) gNo
set_option maxRecDepth 100000 in
theorem V_St_putPiece_21_ok {t : Nat} {p1 : Nat} {p2 : Nat} {a3 : Int32} {a4 : Int32} {G : GH} {Q : GQ} (h : V_St_putPiece_21 t p1 p2 a3 a4 G Q) : WP M_St_putPiece 0 0 21 [some (.ref t), some (.ref p1), some (.ref p2), some (.int a3), some (.int a4)] [] G Q := WP.ofV (T := T_St_putPiece) (hh := []) rfl rfl [(21, [true, true, true, true, true])] 63 h
def V_St_allowsStrap_0 (t : Nat) (a1 : Int32) (a2 : Int32) (a3 : Int32) (G : GH) (Q : GQ) : Prop :=
  CI M_St_isFinished [.ref t] G (fun (x2 : Int32) (G1 : GH) =>
    if x2 = (nI 0) then
      ∃ (fs3 : List Value) (x4 : Int32), G1.2 t = some (.inl (8, fs3)) ∧ fs3[4]? = some (.int x4) ∧
      CR M_St_playerOf [.ref t, .int x4] G1 (fun (r6 : Nat) (G5 : GH) =>
        ∃ (fs7 : List Value) (x8 : Int32), G5.2 r6 = some (.inl (5, fs7)) ∧ fs7[1]? = some (.int x8) ∧
        if (nI 0) < x8 then
          ∃ (fs9 : List Value) (r10 : Nat), G5.2 t = some (.inl (8, fs9)) ∧ fs9[0]? = some (.ref r10) ∧
          CI M_Tk_strapAt [.ref r10, .int a1, .int a2, .int a3] G5 (fun (x12 : Int32) (G11 : GH) =>
            if x12 = (nI 0) then
              ∃ (fs13 : List Value) (r14 : Nat), G11.2 t = some (.inl (8, fs13)) ∧ fs13[0]? = some (.ref r14) ∧
              CI M_Tk_isEdgeBlocked [.ref r14, .int a1, .int a2, .int a3] G11 (fun (x16 : Int32) (G15 : GH) =>
                if x16 = (nI 0) then
                  ∃ (fs17 : List Value) (r18 : Nat), G15.2 t = some (.inl (8, fs17)) ∧ fs17[0]? = some (.ref r18) ∧
                  CI M_Tk_isEdgeCovered [.ref r18, .int a1, .int a2, .int a3] G15 (fun (x20 : Int32) (G19 : GH) =>
                    if x20 = (nI 0) then
                      ((nI 1) = nI 0 ∨ (nI 1) = nI 1) ∧ Q.1 (nI 1) G19
                    else
                      ((nI 0) = nI 0 ∨ (nI 0) = nI 1) ∧ Q.1 (nI 0) G19) gNo
                else
                  ((nI 0) = nI 0 ∨ (nI 0) = nI 1) ∧ Q.1 (nI 0) G15) gNo
            else
              ((nI 0) = nI 0 ∨ (nI 0) = nI 1) ∧ Q.1 (nI 0) G11) gNo
        else
          ((nI 0) = nI 0 ∨ (nI 0) = nI 1) ∧ Q.1 (nI 0) G5)
    else
      ((nI 0) = nI 0 ∨ (nI 0) = nI 1) ∧ Q.1 (nI 0) G1) gNo
set_option maxRecDepth 100000 in
theorem V_St_allowsStrap_0_ok {t : Nat} {a1 : Int32} {a2 : Int32} {a3 : Int32} {G : GH} {Q : GQ} (h : V_St_allowsStrap_0 t a1 a2 a3 G Q) : WP M_St_allowsStrap 0 0 0 [some (.ref t), some (.int a1), some (.int a2), some (.int a3)] [] G Q := WP.ofV (T := T_St_allowsStrap) (hh := []) rfl rfl [] 39 h
theorem E_St_allowsStrap {t : Nat} {a1 : Int32} {a2 : Int32} {a3 : Int32} {G : GH} {K : Int32 → GH → Prop} {KX : String → GH → Prop} (h : V_St_allowsStrap_0 t a1 a2 a3 G (gQi K KX)) : CI M_St_allowsStrap [.ref t, .int a1, .int a2, .int a3] G K KX := CI.of rfl rfl rfl (V_St_allowsStrap_0_ok h)
def V_St_putStrap_0 (t : Nat) (a1 : Int32) (a2 : Int32) (a3 : Int32) (G : GH) (Q : GQ) : Prop :=
  ∃ (fs1 : List Value) (x2 : Int32), G.2 t = some (.inl (8, fs1)) ∧ fs1[4]? = some (.int x2) ∧
  CR M_St_playerOf [.ref t, .int x2] G (fun (r4 : Nat) (G3 : GH) =>
    ∃ (fs5 : List Value) (r6 : Nat), G3.2 t = some (.inl (8, fs5)) ∧ fs5[0]? = some (.ref r6) ∧
    CV M_Tk_setStrap [.ref r6, .int a1, .int a2, .int a3] G3 (fun (G7 : GH) =>
      ∃ (fs8 : List Value) (x9 : Int32), G7.2 r4 = some (.inl (5, fs8)) ∧ fs8[1]? = some (.int x9) ∧
      r4 < gRB ∧ ∃ (fs10 : List Value), G7.2 r4 = some (.inl (5, fs10)) ∧ gFit 0 (.int (x9 - (nI 1))) ∧
      let G11 : GH := gU G7 r4 (.inl (5, fs10.set 1 (.int (x9 - (nI 1)))));
      CV M_St_endTurn [.ref t, .int (nI 0)] G11 (fun (G12 : GH) =>
        ∃ (fs13 : List Value) (x14 : Int32), G12.2 r4 = some (.inl (5, fs13)) ∧ fs13[1]? = some (.int x14) ∧
        Q.1 x14 G12) gNo) gNo)
set_option maxRecDepth 100000 in
theorem V_St_putStrap_0_ok {t : Nat} {a1 : Int32} {a2 : Int32} {a3 : Int32} {G : GH} {Q : GQ} (h : V_St_putStrap_0 t a1 a2 a3 G Q) : WP M_St_putStrap 0 0 0 [some (.ref t), some (.int a1), some (.int a2), some (.int a3), none] [] G Q := WP.ofV (T := T_St_putStrap) (hh := []) rfl rfl [] 28 h
theorem E_St_putStrap {t : Nat} {a1 : Int32} {a2 : Int32} {a3 : Int32} {G : GH} {K : Int32 → GH → Prop} {KX : String → GH → Prop} (h : V_St_putStrap_0 t a1 a2 a3 G (gQi K KX)) : CI M_St_putStrap [.ref t, .int a1, .int a2, .int a3] G K KX := CI.of rfl rfl rfl (V_St_putStrap_0_ok h)
def V_St_allowsPass_0 (t : Nat) (p1 : Nat) (G : GH) (Q : GQ) : Prop :=
  CI M_St_isFinished [.ref t] G (fun (x2 : Int32) (G1 : GH) =>
    if x2 = (nI 0) then
      ∃ (fs3 : List Value) (x4 : Int32), G1.2 t = some (.inl (8, fs3)) ∧ fs3[4]? = some (.int x4) ∧
      CR M_St_playerOf [.ref t, .int x4] G1 (fun (r6 : Nat) (G5 : GH) =>
        WP M_St_allowsPass 0 0 20 [some (.ref t), some (.ref p1), some (.ref r6), some (.int (nI 0))] [] G5 Q)
    else
      ((nI 0) = nI 0 ∨ (nI 0) = nI 1) ∧ Q.1 (nI 0) G1) gNo
set_option maxRecDepth 100000 in
theorem V_St_allowsPass_0_ok {t : Nat} {p1 : Nat} {G : GH} {Q : GQ} (h : V_St_allowsPass_0 t p1 G Q) : WP M_St_allowsPass 0 0 0 [some (.ref t), some (.ref p1), none, none] [] G Q := WP.ofV (T := T_St_allowsPass) (hh := []) rfl rfl [(20, [true, true, true, true])] 38 h
theorem E_St_allowsPass {t : Nat} {p1 : Nat} {G : GH} {K : Int32 → GH → Prop} {KX : String → GH → Prop} (h : V_St_allowsPass_0 t p1 G (gQi K KX)) : CI M_St_allowsPass [.ref t, .ref p1] G K KX := CI.of rfl rfl rfl (V_St_allowsPass_0_ok h)
def V_St_allowsPass_20 (t : Nat) (p1 : Nat) (p2 : Nat) (a3 : Int32) (G : GH) (Q : GQ) : Prop :=
  if a3 < (nI 5) then
    CV M_Fp_startAll [.ref p1, .int a3] G (fun (G1 : GH) =>
      CI M_Pl_supplyOf [.ref p2, .int a3] G1 (fun (x3 : Int32) (G2 : GH) =>
        if (nI 0) < x3 then
          ∃ (fs4 : List Value) (r5 : Nat), G2.2 t = some (.inl (8, fs4)) ∧ fs4[0]? = some (.ref r5) ∧
          CI M_Tk_findNext [.ref r5, .ref p1] G2 (fun (x7 : Int32) (G6 : GH) =>
            if x7 = (nI 0) then
              WP M_St_allowsPass 0 0 20 [some (.ref t), some (.ref p1), some (.ref p2), some (.int (a3 + nI 1))] [] G6 Q
            else
              ((nI 0) = nI 0 ∨ (nI 0) = nI 1) ∧ Q.1 (nI 0) G6) gNo
        else
          WP M_St_allowsPass 0 0 20 [some (.ref t), some (.ref p1), some (.ref p2), some (.int (a3 + nI 1))] [] G2 Q) gNo) gNo
  else
    ((nI 1) = nI 0 ∨ (nI 1) = nI 1) ∧ Q.1 (nI 1) G
set_option maxRecDepth 100000 in
theorem V_St_allowsPass_20_ok {t : Nat} {p1 : Nat} {p2 : Nat} {a3 : Int32} {G : GH} {Q : GQ} (h : V_St_allowsPass_20 t p1 p2 a3 G Q) : WP M_St_allowsPass 0 0 20 [some (.ref t), some (.ref p1), some (.ref p2), some (.int a3)] [] G Q := WP.ofV (T := T_St_allowsPass) (hh := []) rfl rfl [(20, [true, true, true, true])] 38 h
def V_St_skipTurn_0 (t : Nat) (G : GH) (Q : GQ) : Prop :=
  ∃ (fs1 : List Value) (x2 : Int32), G.2 t = some (.inl (8, fs1)) ∧ fs1[5]? = some (.int x2) ∧
  CV M_St_endTurn [.ref t, .int (x2 + (nI 1))] G (fun (G3 : GH) =>
    ∃ (fs4 : List Value) (x5 : Int32), G3.2 t = some (.inl (8, fs4)) ∧ fs4[5]? = some (.int x5) ∧
    Q.1 x5 G3) gNo
set_option maxRecDepth 100000 in
theorem V_St_skipTurn_0_ok {t : Nat} {G : GH} {Q : GQ} (h : V_St_skipTurn_0 t G Q) : WP M_St_skipTurn 0 0 0 [some (.ref t)] [] G Q := WP.ofV (T := T_St_skipTurn) (hh := []) rfl rfl [] 14 h
theorem E_St_skipTurn {t : Nat} {G : GH} {K : Int32 → GH → Prop} {KX : String → GH → Prop} (h : V_St_skipTurn_0 t G (gQi K KX)) : CI M_St_skipTurn [.ref t] G K KX := CI.of rfl rfl rfl (V_St_skipTurn_0_ok h)
def V_St_countMoves_0 (t : Nat) (a1 : Int32) (p2 : Nat) (G : GH) (Q : GQ) : Prop :=
  WP M_St_countMoves 0 0 5 [some (.ref t), some (.int a1), some (.ref p2), some (.int (nI 0)), some (.int (nI 0))] [] G Q
set_option maxRecDepth 100000 in
theorem V_St_countMoves_0_ok {t : Nat} {a1 : Int32} {p2 : Nat} {G : GH} {Q : GQ} (h : V_St_countMoves_0 t a1 p2 G Q) : WP M_St_countMoves 0 0 0 [some (.ref t), some (.int a1), some (.ref p2), none, none] [] G Q := WP.ofV (T := T_St_countMoves) (hh := []) rfl rfl [(5, [true, true, true, true, true])] 30 h
theorem E_St_countMoves {t : Nat} {a1 : Int32} {p2 : Nat} {G : GH} {K : Int32 → GH → Prop} {KX : String → GH → Prop} (h : V_St_countMoves_0 t a1 p2 G (gQi K KX)) : CI M_St_countMoves [.ref t, .int a1, .ref p2] G K KX := CI.of rfl rfl rfl (V_St_countMoves_0_ok h)
def V_St_countMoves_5 (t : Nat) (a1 : Int32) (p2 : Nat) (a3 : Int32) (a4 : Int32) (G : GH) (Q : GQ) : Prop :=
  if a4 < (nI 5) then
    CR M_St_playerOf [.ref t, .int a1] G (fun (r2 : Nat) (G1 : GH) =>
      CI M_Pl_supplyOf [.ref r2, .int a4] G1 (fun (x4 : Int32) (G3 : GH) =>
        if (nI 0) < x4 then
          ∃ (fs5 : List Value) (r6 : Nat), G3.2 t = some (.inl (8, fs5)) ∧ fs5[0]? = some (.ref r6) ∧
          CI M_Tk_countFitting [.ref r6, .int a4, .ref p2] G3 (fun (x8 : Int32) (G7 : GH) =>
            WP M_St_countMoves 0 0 5 [some (.ref t), some (.int a1), some (.ref p2), some (.int (a3 + x8)), some (.int (a4 + nI 1))] [] G7 Q) gNo
        else
          WP M_St_countMoves 0 0 5 [some (.ref t), some (.int a1), some (.ref p2), some (.int a3), some (.int (a4 + nI 1))] [] G3 Q) gNo)
  else
    Q.1 a3 G
set_option maxRecDepth 100000 in
theorem V_St_countMoves_5_ok {t : Nat} {a1 : Int32} {p2 : Nat} {a3 : Int32} {a4 : Int32} {G : GH} {Q : GQ} (h : V_St_countMoves_5 t a1 p2 a3 a4 G Q) : WP M_St_countMoves 0 0 5 [some (.ref t), some (.int a1), some (.ref p2), some (.int a3), some (.int a4)] [] G Q := WP.ofV (T := T_St_countMoves) (hh := []) rfl rfl [(5, [true, true, true, true, true])] 30 h
def V_St_endTurn_0 (t : Nat) (a1 : Int32) (G : GH) (Q : GQ) : Prop :=
  t < gRB ∧ ∃ (fs1 : List Value), G.2 t = some (.inl (8, fs1)) ∧ gFit 0 (.int a1) ∧
  let G2 : GH := gU G t (.inl (8, fs1.set 5 (.int a1)));
  ∃ (fs3 : List Value) (x4 : Int32), G2.2 t = some (.inl (8, fs3)) ∧ fs3[4]? = some (.int x4) ∧
  t < gRB ∧ ∃ (fs5 : List Value), G2.2 t = some (.inl (8, fs5)) ∧ gFit 0 (.int ((nI 1) - x4)) ∧
  let G6 : GH := gU G2 t (.inl (8, fs5.set 4 (.int ((nI 1) - x4))));
  Q.2.1 G6
set_option maxRecDepth 100000 in
theorem V_St_endTurn_0_ok {t : Nat} {a1 : Int32} {G : GH} {Q : GQ} (h : V_St_endTurn_0 t a1 G Q) : WP M_St_endTurn 0 0 0 [some (.ref t), some (.int a1)] [] G Q := WP.ofV (T := T_St_endTurn) (hh := []) rfl rfl [] 15 h
theorem E_St_endTurn {t : Nat} {a1 : Int32} {G : GH} {K : GH → Prop} {KX : String → GH → Prop} (h : V_St_endTurn_0 t a1 G (gQv K KX)) : CV M_St_endTurn [.ref t, .int a1] G K KX := CV.of rfl rfl rfl (V_St_endTurn_0_ok h)
