def V_Rd_init_0 (t : Nat) (G : GH) (Q : GQ) : Prop :=
  t < gRB ∧ ∃ (fs1 : List Value), G.2 t = some (.inl (6, fs1)) ∧ gFit 0 (.int (nI 0)) ∧
  let G2 : GH := gU G t (.inl (6, fs1.set 0 (.int (nI 0))));
  t < gRB ∧ ∃ (fs3 : List Value), G2.2 t = some (.inl (6, fs3)) ∧ gFit 0 (.int (nI 0)) ∧
  let G4 : GH := gU G2 t (.inl (6, fs3.set 1 (.int (nI 0))));
  t < gRB ∧ ∃ (fs5 : List Value), G4.2 t = some (.inl (6, fs5)) ∧ gFit 0 (.int (-nI 1)) ∧
  let G6 : GH := gU G4 t (.inl (6, fs5.set 2 (.int (-nI 1))));
  t < gRB ∧ ∃ (fs7 : List Value), G6.2 t = some (.inl (6, fs7)) ∧ gFit 0 (.int (nI 0)) ∧
  let G8 : GH := gU G6 t (.inl (6, fs7.set 3 (.int (nI 0))));
  1 ≤ 24 ∧ 6 ≤ 1064 ∧ 0 < G8.1 ∧ G8.1 < gRB ∧
  let G9 : GH := gPush G8 (.inl (8, gBlk 8));
  bif Nat.ble 16 (24 - 1) && (Nat.ble 427 (1064 - 6) && Nat.ble (gCat [.ref G8.1, .ref t]) 8) then CV M_St_init [.ref G8.1] G9 (fun (G10 : GH) =>
    t < gRB ∧ ∃ (fs11 : List Value), G10.2 t = some (.inl (6, fs11)) ∧ gFit 1 (.ref G8.1) ∧
    let G12 : GH := gU G10 t (.inl (6, fs11.set 4 (.ref G8.1)));
    WP M_Rd_init ((24 - 1) - 16) ((1064 - 6) - 427) 35 [some (.ref t)] [] G12 Q) gNo else False
set_option maxRecDepth 100000 in
theorem V_Rd_init_0_ok {t : Nat} {G : GH} {Q : GQ} (h : V_Rd_init_0 t G Q) : WP M_Rd_init 24 1064 0 [some (.ref t)] [] G Q := WP.ofV (T := T_Rd_init) (hh := []) rfl rfl [(35, [true]), (60, [true]), (85, [true])] 55 h
theorem E_Rd_init {t : Nat} {G : GH} {K : GH → Prop} {KX : String → GH → Prop} (h : V_Rd_init_0 t G (gQv K KX)) : CV M_Rd_init [.ref t] G K KX := CV.of rfl rfl rfl (V_Rd_init_0_ok h)
def V_Rd_init_35 (rc rs : Nat) (t : Nat) (G : GH) (Q : GQ) : Prop :=
  1 ≤ rc ∧ 11 ≤ rs ∧ 0 < G.1 ∧ G.1 < gRB ∧
  let G1 : GH := gPush G (.inl (2, gBlk 2));
  bif Nat.ble 5 (rc - 1) && (Nat.ble 20 (rs - 11) && Nat.ble (gCat [.ref G.1, .ref t]) 8) then CV M_Fp_init [.ref G.1] G1 (fun (G2 : GH) =>
    t < gRB ∧ ∃ (fs3 : List Value), G2.2 t = some (.inl (6, fs3)) ∧ gFit 1 (.ref G.1) ∧
    let G4 : GH := gU G2 t (.inl (6, fs3.set 5 (.ref G.1)));
    1 ≤ ((rc - 1) - 5) ∧ 0 < G4.1 ∧ G4.1 < gRB ∧ ∃ (m5 : Nat), (nI 600) = nI m5 ∧ m5 ≤ 100000 ∧ m5 ≤ ((rs - 11) - 20) ∧
    let G6 : GH := gPush G4 (.inr (.int, m5, .inl fun _ => 0));
    t < gRB ∧ ∃ (fs7 : List Value), G6.2 t = some (.inl (6, fs7)) ∧ gFit 1 (.ref G4.1) ∧
    let G8 : GH := gU G6 t (.inl (6, fs7.set 6 (.ref G4.1)));
    t < gRB ∧ ∃ (fs9 : List Value), G8.2 t = some (.inl (6, fs9)) ∧ gFit 0 (.int (nI 0)) ∧
    let G10 : GH := gU G8 t (.inl (6, fs9.set 7 (.int (nI 0))));
    WP M_Rd_init (((rc - 1) - 5) - 1) (((rs - 11) - 20) - m5) 60 [some (.ref t)] [] G10 Q) gNo else False
set_option maxRecDepth 100000 in
theorem V_Rd_init_35_ok {rc rs : Nat} {t : Nat} {G : GH} {Q : GQ} (h : V_Rd_init_35 rc rs t G Q) : WP M_Rd_init rc rs 35 [some (.ref t)] [] G Q := WP.ofV (T := T_Rd_init) (hh := []) rfl rfl [(35, [true]), (60, [true]), (85, [true])] 55 h
def V_Rd_init_60 (rc rs : Nat) (t : Nat) (G : GH) (Q : GQ) : Prop :=
  t < gRB ∧ ∃ (fs1 : List Value), G.2 t = some (.inl (6, fs1)) ∧ gFit 0 (.int (nI 0)) ∧
  let G2 : GH := gU G t (.inl (6, fs1.set 8 (.int (nI 0))));
  t < gRB ∧ ∃ (fs3 : List Value), G2.2 t = some (.inl (6, fs3)) ∧ gFit 0 (.int (nI 0)) ∧
  let G4 : GH := gU G2 t (.inl (6, fs3.set 9 (.int (nI 0))));
  t < gRB ∧ ∃ (fs5 : List Value), G4.2 t = some (.inl (6, fs5)) ∧ gFit 0 (.int (nI 0)) ∧
  let G6 : GH := gU G4 t (.inl (6, fs5.set 10 (.int (nI 0))));
  t < gRB ∧ ∃ (fs7 : List Value), G6.2 t = some (.inl (6, fs7)) ∧ gFit 0 (.int (nI 0)) ∧
  let G8 : GH := gU G6 t (.inl (6, fs7.set 11 (.int (nI 0))));
  t < gRB ∧ ∃ (fs9 : List Value), G8.2 t = some (.inl (6, fs9)) ∧ gFit 0 (.int (nI 0)) ∧
  let G10 : GH := gU G8 t (.inl (6, fs9.set 12 (.int (nI 0))));
  WP M_Rd_init rc rs 85 [some (.ref t)] [] G10 Q
set_option maxRecDepth 100000 in
theorem V_Rd_init_60_ok {rc rs : Nat} {t : Nat} {G : GH} {Q : GQ} (h : V_Rd_init_60 rc rs t G Q) : WP M_Rd_init rc rs 60 [some (.ref t)] [] G Q := WP.ofV (T := T_Rd_init) (hh := []) rfl rfl [(35, [true]), (60, [true]), (85, [true])] 55 h
def V_Rd_init_85 (rc rs : Nat) (t : Nat) (G : GH) (Q : GQ) : Prop :=
  t < gRB ∧ ∃ (fs1 : List Value), G.2 t = some (.inl (6, fs1)) ∧ gFit 0 (.int (nI 0)) ∧
  let G2 : GH := gU G t (.inl (6, fs1.set 13 (.int (nI 0))));
  Q.2.1 G2
set_option maxRecDepth 100000 in
theorem V_Rd_init_85_ok {rc rs : Nat} {t : Nat} {G : GH} {Q : GQ} (h : V_Rd_init_85 rc rs t G Q) : WP M_Rd_init rc rs 85 [some (.ref t)] [] G Q := WP.ofV (T := T_Rd_init) (hh := []) rfl rfl [(35, [true]), (60, [true]), (85, [true])] 55 h
def V_Rd_hasRoom_0 (t : Nat) (G : GH) (Q : GQ) : Prop :=
  ∃ (fs1 : List Value) (x2 : Int32), G.2 t = some (.inl (6, fs1)) ∧ fs1[0]? = some (.int x2) ∧
  if (nI 580) < x2 then
    ((nI 0) = nI 0 ∨ (nI 0) = nI 1) ∧ Q.1 (nI 0) G
  else
    ((nI 1) = nI 0 ∨ (nI 1) = nI 1) ∧ Q.1 (nI 1) G
set_option maxRecDepth 100000 in
theorem V_Rd_hasRoom_0_ok {t : Nat} {G : GH} {Q : GQ} (h : V_Rd_hasRoom_0 t G Q) : WP M_Rd_hasRoom 0 0 0 [some (.ref t)] [] G Q := WP.ofV (T := T_Rd_hasRoom) (hh := []) rfl rfl [] 13 h
theorem E_Rd_hasRoom {t : Nat} {G : GH} {K : Int32 → GH → Prop} {KX : String → GH → Prop} (h : V_Rd_hasRoom_0 t G (gQi K KX)) : CI M_Rd_hasRoom [.ref t] G K KX := CI.of rfl rfl rfl (V_Rd_hasRoom_0_ok h)
def V_Rd_writeText_0 (t : Nat) (p1 : Nat) (G : GH) (Q : GQ) : Prop :=
  WP M_Rd_writeText 0 0 2 [some (.ref t), some (.ref p1), some (.int (nI 0))] [] G Q
set_option maxRecDepth 100000 in
theorem V_Rd_writeText_0_ok {t : Nat} {p1 : Nat} {G : GH} {Q : GQ} (h : V_Rd_writeText_0 t p1 G Q) : WP M_Rd_writeText 0 0 0 [some (.ref t), some (.ref p1), none] [] G Q := WP.ofV (T := T_Rd_writeText) (hh := []) rfl rfl [(2, [true, true, true])] 19 h
theorem E_Rd_writeText {t : Nat} {p1 : Nat} {G : GH} {K : GH → Prop} {KX : String → GH → Prop} (h : V_Rd_writeText_0 t p1 G (gQv K KX)) : CV M_Rd_writeText [.ref t, .ref p1] G K KX := CV.of rfl rfl rfl (V_Rd_writeText_0_ok h)
def V_Rd_writeText_2 (t : Nat) (p1 : Nat) (a2 : Int32) (G : GH) (Q : GQ) : Prop :=
  ∃ (tx1 : List Nat), gStr p1 = some tx1 ∧
  if a2 < (nI tx1.length) then
    ∃ (tx2 : List Nat) (k3 ch4 : Nat), gStr p1 = some tx2 ∧ a2 = nI k3 ∧ tx2[k3]? = some ch4 ∧
    CV M_Rd_writeByte [.ref t, .int (nI ch4)] G (fun (G5 : GH) =>
      WP M_Rd_writeText 0 0 2 [some (.ref t), some (.ref p1), some (.int (a2 + nI 1))] [] G5 Q) gNo
  else
    Q.2.1 G
set_option maxRecDepth 100000 in
theorem V_Rd_writeText_2_ok {t : Nat} {p1 : Nat} {a2 : Int32} {G : GH} {Q : GQ} (h : V_Rd_writeText_2 t p1 a2 G Q) : WP M_Rd_writeText 0 0 2 [some (.ref t), some (.ref p1), some (.int a2)] [] G Q := WP.ofV (T := T_Rd_writeText) (hh := []) rfl rfl [(2, [true, true, true])] 19 h
def V_Rd_writeFour_0 (t : Nat) (a1 : Int32) (G : GH) (Q : GQ) : Prop :=
  CV M_Rd_writeByte [.ref t, .int ((a1.toUInt32 >>> ((nI 24).toUInt32 &&& Int32.toUInt32 31)).toInt32)] G (fun (G1 : GH) =>
    CV M_Rd_writeByte [.ref t, .int ((a1.toUInt32 >>> ((nI 16).toUInt32 &&& Int32.toUInt32 31)).toInt32)] G1 (fun (G2 : GH) =>
      CV M_Rd_writeByte [.ref t, .int ((a1.toUInt32 >>> ((nI 8).toUInt32 &&& Int32.toUInt32 31)).toInt32)] G2 (fun (G3 : GH) =>
        CV M_Rd_writeByte [.ref t, .int a1] G3 (fun (G4 : GH) =>
          Q.2.1 G4) gNo) gNo) gNo) gNo
set_option maxRecDepth 100000 in
theorem V_Rd_writeFour_0_ok {t : Nat} {a1 : Int32} {G : GH} {Q : GQ} (h : V_Rd_writeFour_0 t a1 G Q) : WP M_Rd_writeFour 0 0 0 [some (.ref t), some (.int a1)] [] G Q := WP.ofV (T := T_Rd_writeFour) (hh := []) rfl rfl [] 24 h
theorem E_Rd_writeFour {t : Nat} {a1 : Int32} {G : GH} {K : GH → Prop} {KX : String → GH → Prop} (h : V_Rd_writeFour_0 t a1 G (gQv K KX)) : CV M_Rd_writeFour [.ref t, .int a1] G K KX := CV.of rfl rfl rfl (V_Rd_writeFour_0_ok h)
def V_Rd_writeByte_0 (t : Nat) (a1 : Int32) (G : GH) (Q : GQ) : Prop :=
  ∃ (fs1 : List Value) (x2 : Int32), G.2 t = some (.inl (6, fs1)) ∧ fs1[0]? = some (.int x2) ∧
  if x2 < (nI 0) then
    Q.2.1 G
  else
    ∃ (fs3 : List Value) (x4 : Int32), G.2 t = some (.inl (6, fs3)) ∧ fs3[0]? = some (.int x4) ∧
    if x4 < (nI 600) then
      ∃ (fs5 : List Value) (r6 : Nat), G.2 t = some (.inl (6, fs5)) ∧ fs5[6]? = some (.ref r6) ∧
      ∃ (fs7 : List Value) (x8 : Int32), G.2 t = some (.inl (6, fs7)) ∧ fs7[0]? = some (.int x8) ∧
      r6 < gRB ∧ ∃ (m9 : Nat) (f10 : Nat → Int32), G.2 r6 = some (.inr (.int, m9, .inl f10)) ∧ vp_in x8 m9 ∧
      let G11 : GH := gU G r6 (.inr (.int, m9, .inl (upd f10 (x8).toNatClampNeg (a1 &&& (nI 255)))));
      ∃ (fs12 : List Value) (x13 : Int32), G11.2 t = some (.inl (6, fs12)) ∧ fs12[0]? = some (.int x13) ∧
      t < gRB ∧ ∃ (fs14 : List Value), G11.2 t = some (.inl (6, fs14)) ∧ gFit 0 (.int (x13 + (nI 1))) ∧
      let G15 : GH := gU G11 t (.inl (6, fs14.set 0 (.int (x13 + (nI 1)))));
      Q.2.1 G15
    else
      Q.2.1 G
set_option maxRecDepth 100000 in
theorem V_Rd_writeByte_0_ok {t : Nat} {a1 : Int32} {G : GH} {Q : GQ} (h : V_Rd_writeByte_0 t a1 G Q) : WP M_Rd_writeByte 0 0 0 [some (.ref t), some (.int a1)] [] G Q := WP.ofV (T := T_Rd_writeByte) (hh := []) rfl rfl [] 27 h
theorem E_Rd_writeByte {t : Nat} {a1 : Int32} {G : GH} {K : GH → Prop} {KX : String → GH → Prop} (h : V_Rd_writeByte_0 t a1 G (gQv K KX)) : CV M_Rd_writeByte [.ref t, .int a1] G K KX := CV.of rfl rfl rfl (V_Rd_writeByte_0_ok h)
def V_Rd_startSetup_0 (t : Nat) (G : GH) (Q : GQ) : Prop :=
  t < gRB ∧ ∃ (fs1 : List Value), G.2 t = some (.inl (6, fs1)) ∧ gFit 0 (.int (nI 0)) ∧
  let G2 : GH := gU G t (.inl (6, fs1.set 3 (.int (nI 0))));
  t < gRB ∧ ∃ (fs3 : List Value), G2.2 t = some (.inl (6, fs3)) ∧ gFit 0 (.int (nI 0)) ∧
  let G4 : GH := gU G2 t (.inl (6, fs3.set 1 (.int (nI 0))));
  t < gRB ∧ ∃ (fs5 : List Value), G4.2 t = some (.inl (6, fs5)) ∧ gFit 0 (.int (-nI 1)) ∧
  let G6 : GH := gU G4 t (.inl (6, fs5.set 2 (.int (-nI 1))));
  t < gRB ∧ ∃ (fs7 : List Value), G6.2 t = some (.inl (6, fs7)) ∧ gFit 0 (.int (nI 0)) ∧
  let G8 : GH := gU G6 t (.inl (6, fs7.set 7 (.int (nI 0))));
  CV M_Rd_nextToken [.ref t] G8 (fun (G9 : GH) =>
    Q.2.1 G9) gNo
set_option maxRecDepth 100000 in
theorem V_Rd_startSetup_0_ok {t : Nat} {G : GH} {Q : GQ} (h : V_Rd_startSetup_0 t G Q) : WP M_Rd_startSetup 0 0 0 [some (.ref t)] [] G Q := WP.ofV (T := T_Rd_startSetup) (hh := []) rfl rfl [] 20 h
theorem E_Rd_startSetup {t : Nat} {G : GH} {K : GH → Prop} {KX : String → GH → Prop} (h : V_Rd_startSetup_0 t G (gQv K KX)) : CV M_Rd_startSetup [.ref t] G K KX := CV.of rfl rfl rfl (V_Rd_startSetup_0_ok h)
def V_Rd_startScript_0 (t : Nat) (p1 : Nat) (G : GH) (Q : GQ) : Prop :=
  CV M_Rd_startSetup [.ref t] G (fun (G1 : GH) =>
    ∃ (fs2 : List Value) (r3 : Nat), G1.2 t = some (.inl (6, fs2)) ∧ fs2[4]? = some (.ref r3) ∧
    CV M_St_copyFrom [.ref r3, .ref p1] G1 (fun (G4 : GH) =>
      Q.2.1 G4) gNo) gNo
set_option maxRecDepth 100000 in
theorem V_Rd_startScript_0_ok {t : Nat} {p1 : Nat} {G : GH} {Q : GQ} (h : V_Rd_startScript_0 t p1 G Q) : WP M_Rd_startScript 0 0 0 [some (.ref t), some (.ref p1)] [] G Q := WP.ofV (T := T_Rd_startScript) (hh := []) rfl rfl [] 12 h
theorem E_Rd_startScript {t : Nat} {p1 : Nat} {G : GH} {K : GH → Prop} {KX : String → GH → Prop} (h : V_Rd_startScript_0 t p1 G (gQv K KX)) : CV M_Rd_startScript [.ref t, .ref p1] G K KX := CV.of rfl rfl rfl (V_Rd_startScript_0_ok h)
def V_Rd_readSetup_0 (t : Nat) (G : GH) (Q : GQ) : Prop :=
  CI M_Rd_readSize [.ref t] G (fun (x2 : Int32) (G1 : GH) =>
    if x2 = (nI 0) then
      ((nI 0) = nI 0 ∨ (nI 0) = nI 1) ∧ Q.1 (nI 0) G1
    else
      CI M_Rd_readBlocks [.ref t] G1 (fun (x4 : Int32) (G3 : GH) =>
        if x4 = (nI 0) then
          ((nI 0) = nI 0 ∨ (nI 0) = nI 1) ∧ Q.1 (nI 0) G3
        else
          CI M_Rd_readFreeStraps [.ref t] G3 (fun (x6 : Int32) (G5 : GH) =>
            if x6 = (nI 0) then
              ((nI 0) = nI 0 ∨ (nI 0) = nI 1) ∧ Q.1 (nI 0) G5
            else
              CI M_Rd_readPlayer [.ref t, .int (nI 0)] G5 (fun (x8 : Int32) (G7 : GH) =>
                if x8 = (nI 0) then
                  ((nI 0) = nI 0 ∨ (nI 0) = nI 1) ∧ Q.1 (nI 0) G7
                else
                  CI M_Rd_readPlayer [.ref t, .int (nI 1)] G7 (fun (x10 : Int32) (G9 : GH) =>
                    if x10 = (nI 0) then
                      ((nI 0) = nI 0 ∨ (nI 0) = nI 1) ∧ Q.1 (nI 0) G9
                    else
                      ((nI 1) = nI 0 ∨ (nI 1) = nI 1) ∧ Q.1 (nI 1) G9) gNo) gNo) gNo) gNo) gNo
set_option maxRecDepth 100000 in
theorem V_Rd_readSetup_0_ok {t : Nat} {G : GH} {Q : GQ} (h : V_Rd_readSetup_0 t G Q) : WP M_Rd_readSetup 0 0 0 [some (.ref t)] [] G Q := WP.ofV (T := T_Rd_readSetup) (hh := []) rfl rfl [] 26 h
theorem E_Rd_readSetup {t : Nat} {G : GH} {K : Int32 → GH → Prop} {KX : String → GH → Prop} (h : V_Rd_readSetup_0 t G (gQi K KX)) : CI M_Rd_readSetup [.ref t] G K KX := CI.of rfl rfl rfl (V_Rd_readSetup_0_ok h)
def V_Rd_readCommands_0 (t : Nat) (G : GH) (Q : GQ) : Prop :=
  WP M_Rd_readCommands 0 0 2 [some (.ref t), some (.int (nI 0)), none] [] G Q
set_option maxRecDepth 100000 in
theorem V_Rd_readCommands_0_ok {t : Nat} {G : GH} {Q : GQ} (h : V_Rd_readCommands_0 t G Q) : WP M_Rd_readCommands 0 0 0 [some (.ref t), none, none] [] G Q := WP.ofV (T := T_Rd_readCommands) (hh := []) rfl rfl [(2, [true, true, false]), (87, [true, true, false]), (109, [true, true, true])] 75 h
theorem E_Rd_readCommands {t : Nat} {G : GH} {K : Int32 → GH → Prop} {KX : String → GH → Prop} (h : V_Rd_readCommands_0 t G (gQi K KX)) : CI M_Rd_readCommands [.ref t] G K KX := CI.of rfl rfl rfl (V_Rd_readCommands_0_ok h)
def V_Rd_readCommands_2 (t : Nat) (a1 : Int32) (G : GH) (Q : GQ) : Prop :=
  if (nI 600) < a1 then
    ((nI 1) = nI 0 ∨ (nI 1) = nI 1) ∧ Q.1 (nI 1) G
  else
    ∃ (fs1 : List Value) (x2 : Int32), G.2 t = some (.inl (6, fs1)) ∧ fs1[8]? = some (.int x2) ∧
    if x2 = (nI 0) then
      ((nI 1) = nI 0 ∨ (nI 1) = nI 1) ∧ Q.1 (nI 1) G
    else
      CI M_Rd_wordIs [.ref t, .ref 100023] G (fun (x4 : Int32) (G3 : GH) =>
        if x4 = (nI 0) then
          CI M_Rd_wordIs [.ref t, .ref 100019] G3 (fun (x6 : Int32) (G5 : GH) =>
            if x6 = (nI 0) then
              CI M_Rd_wordIs [.ref t, .ref 100029] G5 (fun (x8 : Int32) (G7 : GH) =>
                if x8 = (nI 0) then
                  CI M_Rd_fail [.ref t, .int (nI 1)] G7 (fun (x10 : Int32) (G9 : GH) =>
                    WP M_Rd_readCommands 0 0 109 [some (.ref t), some (.int a1), some (.int x10)] [] G9 Q) gNo
                else
                  ∃ (fs11 : List Value) (r12 : Nat), G7.2 t = some (.inl (6, fs11)) ∧ fs11[4]? = some (.ref r12) ∧
                  ∃ (fs13 : List Value) (r14 : Nat), G7.2 t = some (.inl (6, fs13)) ∧ fs13[5]? = some (.ref r14) ∧
                  CI M_St_allowsPass [.ref r12, .ref r14] G7 (fun (x16 : Int32) (G15 : GH) =>
                    if x16 = (nI 0) then
                      CI M_Rd_fail [.ref t, .int (nI 6)] G15 (fun (x18 : Int32) (G17 : GH) =>
                        if x18 = (nI 0) then
                          WP M_Rd_readCommands 0 0 87 [some (.ref t), some (.int a1), none] [.int (nI 0)] G17 Q
                        else
                          WP M_Rd_readCommands 0 0 87 [some (.ref t), some (.int a1), none] [.int (nI 1)] G17 Q) gNo
                    else
                      WP M_Rd_readCommands 0 0 87 [some (.ref t), some (.int a1), none] [.int (nI 1)] G15 Q) gNo) gNo
            else
              CI M_Rd_readStrap [.ref t] G5 (fun (x20 : Int32) (G19 : GH) =>
                WP M_Rd_readCommands 0 0 109 [some (.ref t), some (.int a1), some (.int x20)] [] G19 Q) gNo) gNo
        else
          CI M_Rd_readPiece [.ref t] G3 (fun (x22 : Int32) (G21 : GH) =>
            WP M_Rd_readCommands 0 0 109 [some (.ref t), some (.int a1), some (.int x22)] [] G21 Q) gNo) gNo
set_option maxRecDepth 100000 in
theorem V_Rd_readCommands_2_ok {t : Nat} {a1 : Int32} {G : GH} {Q : GQ} (h : V_Rd_readCommands_2 t a1 G Q) : WP M_Rd_readCommands 0 0 2 [some (.ref t), some (.int a1), none] [] G Q := WP.ofV (T := T_Rd_readCommands) (hh := []) rfl rfl [(2, [true, true, false]), (87, [true, true, false]), (109, [true, true, true])] 75 h
def V_Rd_readCommands_87 (t : Nat) (a1 : Int32) (s0 : Int32) (G : GH) (Q : GQ) : Prop :=
  if s0 = (nI 0) then
    WP M_Rd_readCommands 0 0 109 [some (.ref t), some (.int a1), some (.int s0)] [] G Q
  else
    ∃ (fs1 : List Value) (r2 : Nat), G.2 t = some (.inl (6, fs1)) ∧ fs1[4]? = some (.ref r2) ∧
    CI M_St_skipTurn [.ref r2] G (fun (x4 : Int32) (G3 : GH) =>
      WP M_Rd_readCommands 0 0 109 [some (.ref t), some (.int a1), some (.int s0)] [] G3 Q) gNo
set_option maxRecDepth 100000 in
theorem V_Rd_readCommands_87_ok {t : Nat} {a1 : Int32} {s0 : Int32} {G : GH} {Q : GQ} (h : V_Rd_readCommands_87 t a1 s0 G Q) : WP M_Rd_readCommands 0 0 87 [some (.ref t), some (.int a1), none] [.int s0] G Q := WP.ofV (T := T_Rd_readCommands) (hh := []) rfl rfl [(2, [true, true, false]), (87, [true, true, false]), (109, [true, true, true])] 75 h
def V_Rd_readCommands_109 (t : Nat) (a1 : Int32) (a2 : Int32) (G : GH) (Q : GQ) : Prop :=
  if a2 = (nI 0) then
    ((nI 0) = nI 0 ∨ (nI 0) = nI 1) ∧ Q.1 (nI 0) G
  else
    CI M_Rd_endStatement [.ref t] G (fun (x2 : Int32) (G1 : GH) =>
      if x2 = (nI 0) then
        ((nI 0) = nI 0 ∨ (nI 0) = nI 1) ∧ Q.1 (nI 0) G1
      else
        ∃ (fs3 : List Value) (x4 : Int32), G1.2 t = some (.inl (6, fs3)) ∧ fs3[3]? = some (.int x4) ∧
        t < gRB ∧ ∃ (fs5 : List Value), G1.2 t = some (.inl (6, fs5)) ∧ gFit 0 (.int (x4 + (nI 1))) ∧
        let G6 : GH := gU G1 t (.inl (6, fs5.set 3 (.int (x4 + (nI 1)))));
        WP M_Rd_readCommands 0 0 2 [some (.ref t), some (.int (a1 + nI 1)), none] [] G6 Q) gNo
set_option maxRecDepth 100000 in
theorem V_Rd_readCommands_109_ok {t : Nat} {a1 : Int32} {a2 : Int32} {G : GH} {Q : GQ} (h : V_Rd_readCommands_109 t a1 a2 G Q) : WP M_Rd_readCommands 0 0 109 [some (.ref t), some (.int a1), some (.int a2)] [] G Q := WP.ofV (T := T_Rd_readCommands) (hh := []) rfl rfl [(2, [true, true, false]), (87, [true, true, false]), (109, [true, true, true])] 75 h
def V_Rd_readSize_0 (t : Nat) (G : GH) (Q : GQ) : Prop :=
  CI M_Rd_wordIs [.ref t, .ref 100017] G (fun (x2 : Int32) (G1 : GH) =>
    if x2 = (nI 0) then
      CI M_Rd_fail [.ref t, .int (nI 1)] G1 (fun (x4 : Int32) (G3 : GH) =>
        (x4 = nI 0 ∨ x4 = nI 1) ∧ Q.1 x4 G3) gNo
    else
      CI M_Rd_expectNumber [.ref t, .int (nI 3), .int (nI 8)] G1 (fun (x6 : Int32) (G5 : GH) =>
        if x6 = (-nI 1) then
          ((nI 0) = nI 0 ∨ (nI 0) = nI 1) ∧ Q.1 (nI 0) G5
        else
          CI M_Rd_expectNumber [.ref t, .int (nI 3), .int (nI 8)] G5 (fun (x8 : Int32) (G7 : GH) =>
            if x8 = (-nI 1) then
              ((nI 0) = nI 0 ∨ (nI 0) = nI 1) ∧ Q.1 (nI 0) G7
            else
              ∃ (fs9 : List Value) (r10 : Nat), G7.2 t = some (.inl (6, fs9)) ∧ fs9[4]? = some (.ref r10) ∧
              CV M_St_clear [.ref r10, .int x6, .int x8] G7 (fun (G11 : GH) =>
                CI M_Rd_endStatement [.ref t] G11 (fun (x13 : Int32) (G12 : GH) =>
                  (x13 = nI 0 ∨ x13 = nI 1) ∧ Q.1 x13 G12) gNo) gNo) gNo) gNo) gNo
set_option maxRecDepth 100000 in
theorem V_Rd_readSize_0_ok {t : Nat} {G : GH} {Q : GQ} (h : V_Rd_readSize_0 t G Q) : WP M_Rd_readSize 0 0 0 [some (.ref t), none, none] [] G Q := WP.ofV (T := T_Rd_readSize) (hh := []) rfl rfl [] 41 h
theorem E_Rd_readSize {t : Nat} {G : GH} {K : Int32 → GH → Prop} {KX : String → GH → Prop} (h : V_Rd_readSize_0 t G (gQi K KX)) : CI M_Rd_readSize [.ref t] G K KX := CI.of rfl rfl rfl (V_Rd_readSize_0_ok h)
def V_Rd_readBlocks_0 (t : Nat) (G : GH) (Q : GQ) : Prop :=
  WP M_Rd_readBlocks 0 0 2 [some (.ref t), some (.int (nI 0)), none, none] [] G Q
set_option maxRecDepth 100000 in
theorem V_Rd_readBlocks_0_ok {t : Nat} {G : GH} {Q : GQ} (h : V_Rd_readBlocks_0 t G Q) : WP M_Rd_readBlocks 0 0 0 [some (.ref t), none, none, none] [] G Q := WP.ofV (T := T_Rd_readBlocks) (hh := []) rfl rfl [(2, [true, true, false, false])] 72 h
theorem E_Rd_readBlocks {t : Nat} {G : GH} {K : Int32 → GH → Prop} {KX : String → GH → Prop} (h : V_Rd_readBlocks_0 t G (gQi K KX)) : CI M_Rd_readBlocks [.ref t] G K KX := CI.of rfl rfl rfl (V_Rd_readBlocks_0_ok h)
def V_Rd_readBlocks_2 (t : Nat) (a1 : Int32) (G : GH) (Q : GQ) : Prop :=
  if (nI 600) < a1 then
    ((nI 1) = nI 0 ∨ (nI 1) = nI 1) ∧ Q.1 (nI 1) G
  else
    CI M_Rd_wordIs [.ref t, .ref 100018] G (fun (x2 : Int32) (G1 : GH) =>
      if x2 = (nI 0) then
        ((nI 1) = nI 0 ∨ (nI 1) = nI 1) ∧ Q.1 (nI 1) G1
      else
        ∃ (fs3 : List Value) (r4 : Nat), G1.2 t = some (.inl (6, fs3)) ∧ fs3[4]? = some (.ref r4) ∧
        ∃ (fs5 : List Value) (r6 : Nat), G1.2 r4 = some (.inl (8, fs5)) ∧ fs5[0]? = some (.ref r6) ∧
        ∃ (fs7 : List Value) (x8 : Int32), G1.2 r6 = some (.inl (9, fs7)) ∧ fs7[0]? = some (.int x8) ∧
        CI M_Rd_expectNumber [.ref t, .int (nI 0), .int (x8 - (nI 1))] G1 (fun (x10 : Int32) (G9 : GH) =>
          if x10 = (-nI 1) then
            ((nI 0) = nI 0 ∨ (nI 0) = nI 1) ∧ Q.1 (nI 0) G9
          else
            ∃ (fs11 : List Value) (r12 : Nat), G9.2 t = some (.inl (6, fs11)) ∧ fs11[4]? = some (.ref r12) ∧
            ∃ (fs13 : List Value) (r14 : Nat), G9.2 r12 = some (.inl (8, fs13)) ∧ fs13[0]? = some (.ref r14) ∧
            ∃ (fs15 : List Value) (x16 : Int32), G9.2 r14 = some (.inl (9, fs15)) ∧ fs15[1]? = some (.int x16) ∧
            CI M_Rd_expectNumber [.ref t, .int (nI 0), .int (x16 - (nI 1))] G9 (fun (x18 : Int32) (G17 : GH) =>
              if x18 = (-nI 1) then
                ((nI 0) = nI 0 ∨ (nI 0) = nI 1) ∧ Q.1 (nI 0) G17
              else
                ∃ (fs19 : List Value) (r20 : Nat), G17.2 t = some (.inl (6, fs19)) ∧ fs19[4]? = some (.ref r20) ∧
                ∃ (fs21 : List Value) (r22 : Nat), G17.2 r20 = some (.inl (8, fs21)) ∧ fs21[0]? = some (.ref r22) ∧
                CI M_Tk_cellAt [.ref r22, .int x10, .int x18] G17 (fun (x24 : Int32) (G23 : GH) =>
                  if x24 = (-nI 2) then
                    CI M_Rd_fail [.ref t, .int (nI 4)] G23 (fun (x26 : Int32) (G25 : GH) =>
                      (x26 = nI 0 ∨ x26 = nI 1) ∧ Q.1 x26 G25) gNo
                  else
                    ∃ (fs27 : List Value) (r28 : Nat), G23.2 t = some (.inl (6, fs27)) ∧ fs27[4]? = some (.ref r28) ∧
                    ∃ (fs29 : List Value) (r30 : Nat), G23.2 r28 = some (.inl (8, fs29)) ∧ fs29[0]? = some (.ref r30) ∧
                    CV M_Tk_setCell [.ref r30, .int x10, .int x18, .int (-nI 2)] G23 (fun (G31 : GH) =>
                      CI M_Rd_endStatement [.ref t] G31 (fun (x33 : Int32) (G32 : GH) =>
                        if x33 = (nI 0) then
                          ((nI 0) = nI 0 ∨ (nI 0) = nI 1) ∧ Q.1 (nI 0) G32
                        else
                          WP M_Rd_readBlocks 0 0 2 [some (.ref t), some (.int (a1 + nI 1)), none, none] [] G32 Q) gNo) gNo) gNo) gNo) gNo) gNo
set_option maxRecDepth 100000 in
theorem V_Rd_readBlocks_2_ok {t : Nat} {a1 : Int32} {G : GH} {Q : GQ} (h : V_Rd_readBlocks_2 t a1 G Q) : WP M_Rd_readBlocks 0 0 2 [some (.ref t), some (.int a1), none, none] [] G Q := WP.ofV (T := T_Rd_readBlocks) (hh := []) rfl rfl [(2, [true, true, false, false])] 72 h
def V_Rd_readFreeStraps_0 (t : Nat) (G : GH) (Q : GQ) : Prop :=
  WP M_Rd_readFreeStraps 0 0 2 [some (.ref t), some (.int (nI 0))] [] G Q
set_option maxRecDepth 100000 in
theorem V_Rd_readFreeStraps_0_ok {t : Nat} {G : GH} {Q : GQ} (h : V_Rd_readFreeStraps_0 t G Q) : WP M_Rd_readFreeStraps 0 0 0 [some (.ref t), none] [] G Q := WP.ofV (T := T_Rd_readFreeStraps) (hh := []) rfl rfl [(2, [true, true])] 68 h
theorem E_Rd_readFreeStraps {t : Nat} {G : GH} {K : Int32 → GH → Prop} {KX : String → GH → Prop} (h : V_Rd_readFreeStraps_0 t G (gQi K KX)) : CI M_Rd_readFreeStraps [.ref t] G K KX := CI.of rfl rfl rfl (V_Rd_readFreeStraps_0_ok h)
def V_Rd_readFreeStraps_2 (t : Nat) (a1 : Int32) (G : GH) (Q : GQ) : Prop :=
  if (nI 600) < a1 then
    ((nI 1) = nI 0 ∨ (nI 1) = nI 1) ∧ Q.1 (nI 1) G
  else
    CI M_Rd_wordIs [.ref t, .ref 100019] G (fun (x2 : Int32) (G1 : GH) =>
      if x2 = (nI 0) then
        ((nI 1) = nI 0 ∨ (nI 1) = nI 1) ∧ Q.1 (nI 1) G1
      else
        CI M_Rd_readEdge [.ref t] G1 (fun (x4 : Int32) (G3 : GH) =>
          if x4 = (nI 0) then
            ((nI 0) = nI 0 ∨ (nI 0) = nI 1) ∧ Q.1 (nI 0) G3
          else
            ∃ (fs5 : List Value) (r6 : Nat), G3.2 t = some (.inl (6, fs5)) ∧ fs5[4]? = some (.ref r6) ∧
            ∃ (fs7 : List Value) (r8 : Nat), G3.2 r6 = some (.inl (8, fs7)) ∧ fs7[0]? = some (.ref r8) ∧
            ∃ (fs9 : List Value) (x10 : Int32), G3.2 t = some (.inl (6, fs9)) ∧ fs9[11]? = some (.int x10) ∧
            ∃ (fs11 : List Value) (x12 : Int32), G3.2 t = some (.inl (6, fs11)) ∧ fs11[12]? = some (.int x12) ∧
            ∃ (fs13 : List Value) (x14 : Int32), G3.2 t = some (.inl (6, fs13)) ∧ fs13[13]? = some (.int x14) ∧
            CI M_Tk_strapAt [.ref r8, .int x10, .int x12, .int x14] G3 (fun (x16 : Int32) (G15 : GH) =>
              if x16 = (nI 0) then
                ∃ (fs17 : List Value) (r18 : Nat), G15.2 t = some (.inl (6, fs17)) ∧ fs17[4]? = some (.ref r18) ∧
                ∃ (fs19 : List Value) (r20 : Nat), G15.2 r18 = some (.inl (8, fs19)) ∧ fs19[0]? = some (.ref r20) ∧
                ∃ (fs21 : List Value) (x22 : Int32), G15.2 t = some (.inl (6, fs21)) ∧ fs21[11]? = some (.int x22) ∧
                ∃ (fs23 : List Value) (x24 : Int32), G15.2 t = some (.inl (6, fs23)) ∧ fs23[12]? = some (.int x24) ∧
                ∃ (fs25 : List Value) (x26 : Int32), G15.2 t = some (.inl (6, fs25)) ∧ fs25[13]? = some (.int x26) ∧
                CI M_Tk_isEdgeBlocked [.ref r20, .int x22, .int x24, .int x26] G15 (fun (x28 : Int32) (G27 : GH) =>
                  if x28 = (nI 0) then
                    ∃ (fs29 : List Value) (r30 : Nat), G27.2 t = some (.inl (6, fs29)) ∧ fs29[4]? = some (.ref r30) ∧
                    ∃ (fs31 : List Value) (r32 : Nat), G27.2 r30 = some (.inl (8, fs31)) ∧ fs31[0]? = some (.ref r32) ∧
                    ∃ (fs33 : List Value) (x34 : Int32), G27.2 t = some (.inl (6, fs33)) ∧ fs33[11]? = some (.int x34) ∧
                    ∃ (fs35 : List Value) (x36 : Int32), G27.2 t = some (.inl (6, fs35)) ∧ fs35[12]? = some (.int x36) ∧
                    ∃ (fs37 : List Value) (x38 : Int32), G27.2 t = some (.inl (6, fs37)) ∧ fs37[13]? = some (.int x38) ∧
                    CV M_Tk_setStrap [.ref r32, .int x34, .int x36, .int x38] G27 (fun (G39 : GH) =>
                      CI M_Rd_endStatement [.ref t] G39 (fun (x41 : Int32) (G40 : GH) =>
                        if x41 = (nI 0) then
                          ((nI 0) = nI 0 ∨ (nI 0) = nI 1) ∧ Q.1 (nI 0) G40
                        else
                          WP M_Rd_readFreeStraps 0 0 2 [some (.ref t), some (.int (a1 + nI 1))] [] G40 Q) gNo) gNo
                  else
                    CI M_Rd_fail [.ref t, .int (nI 5)] G27 (fun (x43 : Int32) (G42 : GH) =>
                      (x43 = nI 0 ∨ x43 = nI 1) ∧ Q.1 x43 G42) gNo) gNo
              else
                CI M_Rd_fail [.ref t, .int (nI 4)] G15 (fun (x45 : Int32) (G44 : GH) =>
                  (x45 = nI 0 ∨ x45 = nI 1) ∧ Q.1 x45 G44) gNo) gNo) gNo) gNo
set_option maxRecDepth 100000 in
theorem V_Rd_readFreeStraps_2_ok {t : Nat} {a1 : Int32} {G : GH} {Q : GQ} (h : V_Rd_readFreeStraps_2 t a1 G Q) : WP M_Rd_readFreeStraps 0 0 2 [some (.ref t), some (.int a1)] [] G Q := WP.ofV (T := T_Rd_readFreeStraps) (hh := []) rfl rfl [(2, [true, true])] 68 h
def V_Rd_readPlayer_0 (t : Nat) (a1 : Int32) (G : GH) (Q : GQ) : Prop :=
  CI M_Rd_wordIs [.ref t, .ref 100022] G (fun (x2 : Int32) (G1 : GH) =>
    if x2 = (nI 0) then
      CI M_Rd_fail [.ref t, .int (nI 1)] G1 (fun (x4 : Int32) (G3 : GH) =>
        (x4 = nI 0 ∨ x4 = nI 1) ∧ Q.1 x4 G3) gNo
    else
      CI M_Rd_readName [.ref t, .int a1] G1 (fun (x6 : Int32) (G5 : GH) =>
        if x6 = (nI 0) then
          ((nI 0) = nI 0 ∨ (nI 0) = nI 1) ∧ Q.1 (nI 0) G5
        else
          WP M_Rd_readPlayer 0 0 27 [some (.ref t), some (.int a1), some (.int (nI 0)), none] [] G5 Q) gNo) gNo
set_option maxRecDepth 100000 in
theorem V_Rd_readPlayer_0_ok {t : Nat} {a1 : Int32} {G : GH} {Q : GQ} (h : V_Rd_readPlayer_0 t a1 G Q) : WP M_Rd_readPlayer 0 0 0 [some (.ref t), some (.int a1), none, none] [] G Q := WP.ofV (T := T_Rd_readPlayer) (hh := []) rfl rfl [(27, [true, true, true, false])] 62 h
theorem E_Rd_readPlayer {t : Nat} {a1 : Int32} {G : GH} {K : Int32 → GH → Prop} {KX : String → GH → Prop} (h : V_Rd_readPlayer_0 t a1 G (gQi K KX)) : CI M_Rd_readPlayer [.ref t, .int a1] G K KX := CI.of rfl rfl rfl (V_Rd_readPlayer_0_ok h)
def V_Rd_readPlayer_27 (t : Nat) (a1 : Int32) (a2 : Int32) (G : GH) (Q : GQ) : Prop :=
  if a2 < (nI 5) then
    CI M_Rd_expectNumber [.ref t, .int (nI 0), .int (nI 9)] G (fun (x2 : Int32) (G1 : GH) =>
      if x2 = (-nI 1) then
        ((nI 0) = nI 0 ∨ (nI 0) = nI 1) ∧ Q.1 (nI 0) G1
      else
        ∃ (fs3 : List Value) (r4 : Nat), G1.2 t = some (.inl (6, fs3)) ∧ fs3[4]? = some (.ref r4) ∧
        CR M_St_playerOf [.ref r4, .int a1] G1 (fun (r6 : Nat) (G5 : GH) =>
          CV M_Pl_setSupply [.ref r6, .int a2, .int x2] G5 (fun (G7 : GH) =>
            WP M_Rd_readPlayer 0 0 27 [some (.ref t), some (.int a1), some (.int (a2 + nI 1)), none] [] G7 Q) gNo)) gNo
  else
    CI M_Rd_expectNumber [.ref t, .int (nI 0), .int (nI 9)] G (fun (x9 : Int32) (G8 : GH) =>
      if x9 = (-nI 1) then
        ((nI 0) = nI 0 ∨ (nI 0) = nI 1) ∧ Q.1 (nI 0) G8
      else
        ∃ (fs10 : List Value) (r11 : Nat), G8.2 t = some (.inl (6, fs10)) ∧ fs10[4]? = some (.ref r11) ∧
        CR M_St_playerOf [.ref r11, .int a1] G8 (fun (r13 : Nat) (G12 : GH) =>
          r13 < gRB ∧ ∃ (fs14 : List Value), G12.2 r13 = some (.inl (5, fs14)) ∧ gFit 0 (.int x9) ∧
          let G15 : GH := gU G12 r13 (.inl (5, fs14.set 1 (.int x9)));
          CI M_Rd_endStatement [.ref t] G15 (fun (x17 : Int32) (G16 : GH) =>
            (x17 = nI 0 ∨ x17 = nI 1) ∧ Q.1 x17 G16) gNo)) gNo
set_option maxRecDepth 100000 in
theorem V_Rd_readPlayer_27_ok {t : Nat} {a1 : Int32} {a2 : Int32} {G : GH} {Q : GQ} (h : V_Rd_readPlayer_27 t a1 a2 G Q) : WP M_Rd_readPlayer 0 0 27 [some (.ref t), some (.int a1), some (.int a2), none] [] G Q := WP.ofV (T := T_Rd_readPlayer) (hh := []) rfl rfl [(27, [true, true, true, false])] 62 h
def V_Rd_readName_0 (t : Nat) (a1 : Int32) (G : GH) (Q : GQ) : Prop :=
  CV M_Rd_nextToken [.ref t] G (fun (G1 : GH) =>
    ∃ (fs2 : List Value) (x3 : Int32), G1.2 t = some (.inl (6, fs2)) ∧ fs2[8]? = some (.int x3) ∧
    if x3 = (nI 1) then
      ∃ (fs4 : List Value) (x5 : Int32), G1.2 t = some (.inl (6, fs4)) ∧ fs4[7]? = some (.int x5) ∧
      ∃ (fs6 : List Value) (x7 : Int32), G1.2 t = some (.inl (6, fs6)) ∧ fs6[9]? = some (.int x7) ∧
      if (nI 6) < (x5 - x7) then
        WP M_Rd_readName 0 0 26 [some (.ref t), some (.int a1), none] [] G1 Q
      else
        ∃ (fs8 : List Value) (x9 : Int32), G1.2 t = some (.inl (6, fs8)) ∧ fs8[9]? = some (.int x9) ∧
        WP M_Rd_readName 0 0 37 [some (.ref t), some (.int a1), some (.int x9)] [] G1 Q
    else
      WP M_Rd_readName 0 0 26 [some (.ref t), some (.int a1), none] [] G1 Q) gNo
set_option maxRecDepth 100000 in
theorem V_Rd_readName_0_ok {t : Nat} {a1 : Int32} {G : GH} {Q : GQ} (h : V_Rd_readName_0 t a1 G Q) : WP M_Rd_readName 0 0 0 [some (.ref t), some (.int a1), none] [] G Q := WP.ofV (T := T_Rd_readName) (hh := []) rfl rfl [(26, [true, true, false]), (37, [true, true, true])] 57 h
theorem E_Rd_readName {t : Nat} {a1 : Int32} {G : GH} {K : Int32 → GH → Prop} {KX : String → GH → Prop} (h : V_Rd_readName_0 t a1 G (gQi K KX)) : CI M_Rd_readName [.ref t, .int a1] G K KX := CI.of rfl rfl rfl (V_Rd_readName_0_ok h)
def V_Rd_readName_26 (t : Nat) (a1 : Int32) (G : GH) (Q : GQ) : Prop :=
  CI M_Rd_fail [.ref t, .int (nI 1)] G (fun (x2 : Int32) (G1 : GH) =>
    (x2 = nI 0 ∨ x2 = nI 1) ∧ Q.1 x2 G1) gNo
set_option maxRecDepth 100000 in
theorem V_Rd_readName_26_ok {t : Nat} {a1 : Int32} {G : GH} {Q : GQ} (h : V_Rd_readName_26 t a1 G Q) : WP M_Rd_readName 0 0 26 [some (.ref t), some (.int a1), none] [] G Q := WP.ofV (T := T_Rd_readName) (hh := []) rfl rfl [(26, [true, true, false]), (37, [true, true, true])] 57 h
def V_Rd_readName_37 (t : Nat) (a1 : Int32) (a2 : Int32) (G : GH) (Q : GQ) : Prop :=
  ∃ (fs1 : List Value) (x2 : Int32), G.2 t = some (.inl (6, fs1)) ∧ fs1[7]? = some (.int x2) ∧
  if a2 < x2 then
    ∃ (fs3 : List Value) (r4 : Nat), G.2 t = some (.inl (6, fs3)) ∧ fs3[4]? = some (.ref r4) ∧
    CR M_St_playerOf [.ref r4, .int a1] G (fun (r6 : Nat) (G5 : GH) =>
      CI M_Rd_byteAt [.ref t, .int a2] G5 (fun (x8 : Int32) (G7 : GH) =>
        CV M_Pl_addLetter [.ref r6, .int x8] G7 (fun (G9 : GH) =>
          WP M_Rd_readName 0 0 37 [some (.ref t), some (.int a1), some (.int (a2 + nI 1))] [] G9 Q) gNo) gNo)
  else
    if a1 = (nI 0) then
      ((nI 1) = nI 0 ∨ (nI 1) = nI 1) ∧ Q.1 (nI 1) G
    else
      ∃ (fs10 : List Value) (r11 : Nat), G.2 t = some (.inl (6, fs10)) ∧ fs10[4]? = some (.ref r11) ∧
      ∃ (fs12 : List Value) (r13 : Nat), G.2 r11 = some (.inl (8, fs12)) ∧ fs12[3]? = some (.ref r13) ∧
      ∃ (fs14 : List Value) (r15 : Nat), G.2 t = some (.inl (6, fs14)) ∧ fs14[4]? = some (.ref r15) ∧
      ∃ (fs16 : List Value) (r17 : Nat), G.2 r15 = some (.inl (8, fs16)) ∧ fs16[2]? = some (.ref r17) ∧
      CI M_Pl_hasNameOf [.ref r13, .ref r17] G (fun (x19 : Int32) (G18 : GH) =>
        if x19 = (nI 0) then
          ((nI 1) = nI 0 ∨ (nI 1) = nI 1) ∧ Q.1 (nI 1) G18
        else
          CI M_Rd_fail [.ref t, .int (nI 4)] G18 (fun (x21 : Int32) (G20 : GH) =>
            if x21 = (nI 0) then
              ((nI 0) = nI 0 ∨ (nI 0) = nI 1) ∧ Q.1 (nI 0) G20
            else
              ((nI 1) = nI 0 ∨ (nI 1) = nI 1) ∧ Q.1 (nI 1) G20) gNo) gNo
set_option maxRecDepth 100000 in
theorem V_Rd_readName_37_ok {t : Nat} {a1 : Int32} {a2 : Int32} {G : GH} {Q : GQ} (h : V_Rd_readName_37 t a1 a2 G Q) : WP M_Rd_readName 0 0 37 [some (.ref t), some (.int a1), some (.int a2)] [] G Q := WP.ofV (T := T_Rd_readName) (hh := []) rfl rfl [(26, [true, true, false]), (37, [true, true, true])] 57 h
def V_Rd_readPiece_0 (t : Nat) (G : GH) (Q : GQ) : Prop :=
  CV M_Rd_nextToken [.ref t] G (fun (G1 : GH) =>
    CI M_Rd_shapeOfToken [.ref t] G1 (fun (x3 : Int32) (G2 : GH) =>
      if x3 = (-nI 1) then
        CI M_Rd_fail [.ref t, .int (nI 1)] G2 (fun (x5 : Int32) (G4 : GH) =>
          (x5 = nI 0 ∨ x5 = nI 1) ∧ Q.1 x5 G4) gNo
      else
        CI M_Rd_expectNumber [.ref t, .int (nI 0), .int (nI 3)] G2 (fun (x7 : Int32) (G6 : GH) =>
          if x7 = (-nI 1) then
            ((nI 0) = nI 0 ∨ (nI 0) = nI 1) ∧ Q.1 (nI 0) G6
          else
            ∃ (fs8 : List Value) (r9 : Nat), G6.2 t = some (.inl (6, fs8)) ∧ fs8[4]? = some (.ref r9) ∧
            ∃ (fs10 : List Value) (r11 : Nat), G6.2 r9 = some (.inl (8, fs10)) ∧ fs10[0]? = some (.ref r11) ∧
            ∃ (fs12 : List Value) (x13 : Int32), G6.2 r11 = some (.inl (9, fs12)) ∧ fs12[0]? = some (.int x13) ∧
            CI M_Rd_expectNumber [.ref t, .int (nI 0), .int (x13 - (nI 1))] G6 (fun (x15 : Int32) (G14 : GH) =>
              if x15 = (-nI 1) then
                ((nI 0) = nI 0 ∨ (nI 0) = nI 1) ∧ Q.1 (nI 0) G14
              else
                ∃ (fs16 : List Value) (r17 : Nat), G14.2 t = some (.inl (6, fs16)) ∧ fs16[4]? = some (.ref r17) ∧
                ∃ (fs18 : List Value) (r19 : Nat), G14.2 r17 = some (.inl (8, fs18)) ∧ fs18[0]? = some (.ref r19) ∧
                ∃ (fs20 : List Value) (x21 : Int32), G14.2 r19 = some (.inl (9, fs20)) ∧ fs20[1]? = some (.int x21) ∧
                CI M_Rd_expectNumber [.ref t, .int (nI 0), .int (x21 - (nI 1))] G14 (fun (x23 : Int32) (G22 : GH) =>
                  if x23 = (-nI 1) then
                    ((nI 0) = nI 0 ∨ (nI 0) = nI 1) ∧ Q.1 (nI 0) G22
                  else
                    ∃ (fs24 : List Value) (r25 : Nat), G22.2 t = some (.inl (6, fs24)) ∧ fs24[5]? = some (.ref r25) ∧
                    CV M_Fp_turn [.ref r25, .int x3, .int x7] G22 (fun (G26 : GH) =>
                      ∃ (fs27 : List Value) (r28 : Nat), G26.2 t = some (.inl (6, fs27)) ∧ fs27[5]? = some (.ref r28) ∧
                      CV M_Fp_moveTo [.ref r28, .int x15, .int x23] G26 (fun (G29 : GH) =>
                        ∃ (fs30 : List Value) (r31 : Nat), G29.2 t = some (.inl (6, fs30)) ∧ fs30[4]? = some (.ref r31) ∧
                        ∃ (fs32 : List Value) (r33 : Nat), G29.2 t = some (.inl (6, fs32)) ∧ fs32[5]? = some (.ref r33) ∧
                        CI M_St_allowsPiece [.ref r31, .ref r33] G29 (fun (x35 : Int32) (G34 : GH) =>
                          if x35 = (nI 0) then
                            CI M_Rd_fail [.ref t, .int (nI 6)] G34 (fun (x37 : Int32) (G36 : GH) =>
                              (x37 = nI 0 ∨ x37 = nI 1) ∧ Q.1 x37 G36) gNo
                          else
                            ∃ (fs38 : List Value) (r39 : Nat), G34.2 t = some (.inl (6, fs38)) ∧ fs38[4]? = some (.ref r39) ∧
                            ∃ (fs40 : List Value) (r41 : Nat), G34.2 t = some (.inl (6, fs40)) ∧ fs40[5]? = some (.ref r41) ∧
                            CI M_St_putPiece [.ref r39, .ref r41] G34 (fun (x43 : Int32) (G42 : GH) =>
                              ((nI 1) = nI 0 ∨ (nI 1) = nI 1) ∧ Q.1 (nI 1) G42) gNo) gNo) gNo) gNo) gNo) gNo) gNo) gNo) gNo
set_option maxRecDepth 100000 in
theorem V_Rd_readPiece_0_ok {t : Nat} {G : GH} {Q : GQ} (h : V_Rd_readPiece_0 t G Q) : WP M_Rd_readPiece 0 0 0 [some (.ref t), none, none, none, none] [] G Q := WP.ofV (T := T_Rd_readPiece) (hh := []) rfl rfl [] 85 h
theorem E_Rd_readPiece {t : Nat} {G : GH} {K : Int32 → GH → Prop} {KX : String → GH → Prop} (h : V_Rd_readPiece_0 t G (gQi K KX)) : CI M_Rd_readPiece [.ref t] G K KX := CI.of rfl rfl rfl (V_Rd_readPiece_0_ok h)
def V_Rd_readStrap_0 (t : Nat) (G : GH) (Q : GQ) : Prop :=
  CI M_Rd_readEdge [.ref t] G (fun (x2 : Int32) (G1 : GH) =>
    if x2 = (nI 0) then
      ((nI 0) = nI 0 ∨ (nI 0) = nI 1) ∧ Q.1 (nI 0) G1
    else
      ∃ (fs3 : List Value) (r4 : Nat), G1.2 t = some (.inl (6, fs3)) ∧ fs3[4]? = some (.ref r4) ∧
      ∃ (fs5 : List Value) (x6 : Int32), G1.2 t = some (.inl (6, fs5)) ∧ fs5[11]? = some (.int x6) ∧
      ∃ (fs7 : List Value) (x8 : Int32), G1.2 t = some (.inl (6, fs7)) ∧ fs7[12]? = some (.int x8) ∧
      ∃ (fs9 : List Value) (x10 : Int32), G1.2 t = some (.inl (6, fs9)) ∧ fs9[13]? = some (.int x10) ∧
      CI M_St_allowsStrap [.ref r4, .int x6, .int x8, .int x10] G1 (fun (x12 : Int32) (G11 : GH) =>
        if x12 = (nI 0) then
          CI M_Rd_fail [.ref t, .int (nI 6)] G11 (fun (x14 : Int32) (G13 : GH) =>
            (x14 = nI 0 ∨ x14 = nI 1) ∧ Q.1 x14 G13) gNo
        else
          ∃ (fs15 : List Value) (r16 : Nat), G11.2 t = some (.inl (6, fs15)) ∧ fs15[4]? = some (.ref r16) ∧
          ∃ (fs17 : List Value) (x18 : Int32), G11.2 t = some (.inl (6, fs17)) ∧ fs17[11]? = some (.int x18) ∧
          ∃ (fs19 : List Value) (x20 : Int32), G11.2 t = some (.inl (6, fs19)) ∧ fs19[12]? = some (.int x20) ∧
          ∃ (fs21 : List Value) (x22 : Int32), G11.2 t = some (.inl (6, fs21)) ∧ fs21[13]? = some (.int x22) ∧
          CI M_St_putStrap [.ref r16, .int x18, .int x20, .int x22] G11 (fun (x24 : Int32) (G23 : GH) =>
            ((nI 1) = nI 0 ∨ (nI 1) = nI 1) ∧ Q.1 (nI 1) G23) gNo) gNo) gNo
set_option maxRecDepth 100000 in
theorem V_Rd_readStrap_0_ok {t : Nat} {G : GH} {Q : GQ} (h : V_Rd_readStrap_0 t G Q) : WP M_Rd_readStrap 0 0 0 [some (.ref t)] [] G Q := WP.ofV (T := T_Rd_readStrap) (hh := []) rfl rfl [] 36 h
theorem E_Rd_readStrap {t : Nat} {G : GH} {K : Int32 → GH → Prop} {KX : String → GH → Prop} (h : V_Rd_readStrap_0 t G (gQi K KX)) : CI M_Rd_readStrap [.ref t] G K KX := CI.of rfl rfl rfl (V_Rd_readStrap_0_ok h)
def V_Rd_readEdge_0 (t : Nat) (G : GH) (Q : GQ) : Prop :=
  ∃ (fs1 : List Value) (r2 : Nat), G.2 t = some (.inl (6, fs1)) ∧ fs1[4]? = some (.ref r2) ∧
  ∃ (fs3 : List Value) (r4 : Nat), G.2 r2 = some (.inl (8, fs3)) ∧ fs3[0]? = some (.ref r4) ∧
  ∃ (fs5 : List Value) (x6 : Int32), G.2 r4 = some (.inl (9, fs5)) ∧ fs5[0]? = some (.int x6) ∧
  CI M_Rd_expectNumber [.ref t, .int (nI 0), .int (x6 - (nI 1))] G (fun (x8 : Int32) (G7 : GH) =>
    t < gRB ∧ ∃ (fs9 : List Value), G7.2 t = some (.inl (6, fs9)) ∧ gFit 0 (.int x8) ∧
    let G10 : GH := gU G7 t (.inl (6, fs9.set 11 (.int x8)));
    ∃ (fs11 : List Value) (x12 : Int32), G10.2 t = some (.inl (6, fs11)) ∧ fs11[11]? = some (.int x12) ∧
    if x12 = (-nI 1) then
      ((nI 0) = nI 0 ∨ (nI 0) = nI 1) ∧ Q.1 (nI 0) G10
    else
      ∃ (fs13 : List Value) (r14 : Nat), G10.2 t = some (.inl (6, fs13)) ∧ fs13[4]? = some (.ref r14) ∧
      ∃ (fs15 : List Value) (r16 : Nat), G10.2 r14 = some (.inl (8, fs15)) ∧ fs15[0]? = some (.ref r16) ∧
      ∃ (fs17 : List Value) (x18 : Int32), G10.2 r16 = some (.inl (9, fs17)) ∧ fs17[1]? = some (.int x18) ∧
      CI M_Rd_expectNumber [.ref t, .int (nI 0), .int (x18 - (nI 1))] G10 (fun (x20 : Int32) (G19 : GH) =>
        t < gRB ∧ ∃ (fs21 : List Value), G19.2 t = some (.inl (6, fs21)) ∧ gFit 0 (.int x20) ∧
        let G22 : GH := gU G19 t (.inl (6, fs21.set 12 (.int x20)));
        ∃ (fs23 : List Value) (x24 : Int32), G22.2 t = some (.inl (6, fs23)) ∧ fs23[12]? = some (.int x24) ∧
        if x24 = (-nI 1) then
          ((nI 0) = nI 0 ∨ (nI 0) = nI 1) ∧ Q.1 (nI 0) G22
        else
          CV M_Rd_nextToken [.ref t] G22 (fun (G25 : GH) =>
            CI M_Rd_wordIs [.ref t, .ref 100020] G25 (fun (x27 : Int32) (G26 : GH) =>
              if x27 = (nI 0) then
                CI M_Rd_wordIs [.ref t, .ref 100021] G26 (fun (x29 : Int32) (G28 : GH) =>
                  if x29 = (nI 0) then
                    CI M_Rd_fail [.ref t, .int (nI 1)] G28 (fun (x31 : Int32) (G30 : GH) =>
                      (x31 = nI 0 ∨ x31 = nI 1) ∧ Q.1 x31 G30) gNo
                  else
                    WP M_Rd_readEdge 0 0 90 [some (.ref t)] [] G28 Q) gNo
              else
                WP M_Rd_readEdge 0 0 90 [some (.ref t)] [] G26 Q) gNo) gNo) gNo) gNo
set_option maxRecDepth 100000 in
theorem V_Rd_readEdge_0_ok {t : Nat} {G : GH} {Q : GQ} (h : V_Rd_readEdge_0 t G Q) : WP M_Rd_readEdge 0 0 0 [some (.ref t)] [] G Q := WP.ofV (T := T_Rd_readEdge) (hh := []) rfl rfl [(90, [true]), (105, [true])] 81 h
theorem E_Rd_readEdge {t : Nat} {G : GH} {K : Int32 → GH → Prop} {KX : String → GH → Prop} (h : V_Rd_readEdge_0 t G (gQi K KX)) : CI M_Rd_readEdge [.ref t] G K KX := CI.of rfl rfl rfl (V_Rd_readEdge_0_ok h)
def V_Rd_readEdge_90 (t : Nat) (G : GH) (Q : GQ) : Prop :=
  CI M_Rd_wordIs [.ref t, .ref 100020] G (fun (x2 : Int32) (G1 : GH) =>
    if x2 = (nI 0) then
      WP M_Rd_readEdge 0 0 105 [some (.ref t)] [.int (nI 1), .ref t] G1 Q
    else
      WP M_Rd_readEdge 0 0 105 [some (.ref t)] [.int (nI 0), .ref t] G1 Q) gNo
set_option maxRecDepth 100000 in
theorem V_Rd_readEdge_90_ok {t : Nat} {G : GH} {Q : GQ} (h : V_Rd_readEdge_90 t G Q) : WP M_Rd_readEdge 0 0 90 [some (.ref t)] [] G Q := WP.ofV (T := T_Rd_readEdge) (hh := []) rfl rfl [(90, [true]), (105, [true])] 81 h
def V_Rd_readEdge_105 (t : Nat) (s0 : Int32) (s1 : Nat) (G : GH) (Q : GQ) : Prop :=
  s1 < gRB ∧ ∃ (fs1 : List Value), G.2 s1 = some (.inl (6, fs1)) ∧ gFit 0 (.int s0) ∧
  let G2 : GH := gU G s1 (.inl (6, fs1.set 13 (.int s0)));
  ∃ (fs3 : List Value) (r4 : Nat), G2.2 t = some (.inl (6, fs3)) ∧ fs3[4]? = some (.ref r4) ∧
  ∃ (fs5 : List Value) (r6 : Nat), G2.2 r4 = some (.inl (8, fs5)) ∧ fs5[0]? = some (.ref r6) ∧
  ∃ (fs7 : List Value) (x8 : Int32), G2.2 t = some (.inl (6, fs7)) ∧ fs7[11]? = some (.int x8) ∧
  ∃ (fs9 : List Value) (x10 : Int32), G2.2 t = some (.inl (6, fs9)) ∧ fs9[12]? = some (.int x10) ∧
  ∃ (fs11 : List Value) (x12 : Int32), G2.2 t = some (.inl (6, fs11)) ∧ fs11[13]? = some (.int x12) ∧
  CI M_Tk_holdsEdge [.ref r6, .int x8, .int x10, .int x12] G2 (fun (x14 : Int32) (G13 : GH) =>
    if x14 = (nI 0) then
      CI M_Rd_fail [.ref t, .int (nI 3)] G13 (fun (x16 : Int32) (G15 : GH) =>
        if x16 = (nI 0) then
          ((nI 0) = nI 0 ∨ (nI 0) = nI 1) ∧ Q.1 (nI 0) G15
        else
          ((nI 1) = nI 0 ∨ (nI 1) = nI 1) ∧ Q.1 (nI 1) G15) gNo
    else
      ((nI 1) = nI 0 ∨ (nI 1) = nI 1) ∧ Q.1 (nI 1) G13) gNo
set_option maxRecDepth 100000 in
theorem V_Rd_readEdge_105_ok {t : Nat} {s0 : Int32} {s1 : Nat} {G : GH} {Q : GQ} (h : V_Rd_readEdge_105 t s0 s1 G Q) : WP M_Rd_readEdge 0 0 105 [some (.ref t)] [.int s0, .ref s1] G Q := WP.ofV (T := T_Rd_readEdge) (hh := []) rfl rfl [(90, [true]), (105, [true])] 81 h
def V_Rd_shapeOfToken_0 (t : Nat) (G : GH) (Q : GQ) : Prop :=
  CI M_Rd_wordIs [.ref t, .ref 100024] G (fun (x2 : Int32) (G1 : GH) =>
    if x2 = (nI 0) then
      CI M_Rd_wordIs [.ref t, .ref 100025] G1 (fun (x4 : Int32) (G3 : GH) =>
        if x4 = (nI 0) then
          CI M_Rd_wordIs [.ref t, .ref 100026] G3 (fun (x6 : Int32) (G5 : GH) =>
            if x6 = (nI 0) then
              CI M_Rd_wordIs [.ref t, .ref 100027] G5 (fun (x8 : Int32) (G7 : GH) =>
                if x8 = (nI 0) then
                  CI M_Rd_wordIs [.ref t, .ref 100028] G7 (fun (x10 : Int32) (G9 : GH) =>
                    if x10 = (nI 0) then
                      Q.1 (-nI 1) G9
                    else
                      Q.1 (nI 4) G9) gNo
                else
                  Q.1 (nI 3) G7) gNo
            else
              Q.1 (nI 2) G5) gNo
        else
          Q.1 (nI 1) G3) gNo
    else
      Q.1 (nI 0) G1) gNo
set_option maxRecDepth 100000 in
theorem V_Rd_shapeOfToken_0_ok {t : Nat} {G : GH} {Q : GQ} (h : V_Rd_shapeOfToken_0 t G Q) : WP M_Rd_shapeOfToken 0 0 0 [some (.ref t)] [] G Q := WP.ofV (T := T_Rd_shapeOfToken) (hh := []) rfl rfl [] 37 h
theorem E_Rd_shapeOfToken {t : Nat} {G : GH} {K : Int32 → GH → Prop} {KX : String → GH → Prop} (h : V_Rd_shapeOfToken_0 t G (gQi K KX)) : CI M_Rd_shapeOfToken [.ref t] G K KX := CI.of rfl rfl rfl (V_Rd_shapeOfToken_0_ok h)
def V_Rd_expectNumber_0 (t : Nat) (a1 : Int32) (a2 : Int32) (G : GH) (Q : GQ) : Prop :=
  CV M_Rd_nextToken [.ref t] G (fun (G1 : GH) =>
    ∃ (fs2 : List Value) (x3 : Int32), G1.2 t = some (.inl (6, fs2)) ∧ fs2[8]? = some (.int x3) ∧
    if x3 = (nI 2) then
      ∃ (fs4 : List Value) (x5 : Int32), G1.2 t = some (.inl (6, fs4)) ∧ fs4[10]? = some (.int x5) ∧
      if x5 < a1 then
        WP M_Rd_expectNumber 0 0 36 [some (.ref t), some (.int a1), some (.int a2)] [] G1 Q
      else
        ∃ (fs6 : List Value) (x7 : Int32), G1.2 t = some (.inl (6, fs6)) ∧ fs6[10]? = some (.int x7) ∧
        if a2 < x7 then
          WP M_Rd_expectNumber 0 0 36 [some (.ref t), some (.int a1), some (.int a2)] [] G1 Q
        else
          ∃ (fs8 : List Value) (x9 : Int32), G1.2 t = some (.inl (6, fs8)) ∧ fs8[10]? = some (.int x9) ∧
          Q.1 x9 G1
    else
      CI M_Rd_fail [.ref t, .int (nI 1)] G1 (fun (x11 : Int32) (G10 : GH) =>
        Q.1 (-nI 1) G10) gNo) gNo
set_option maxRecDepth 100000 in
theorem V_Rd_expectNumber_0_ok {t : Nat} {a1 : Int32} {a2 : Int32} {G : GH} {Q : GQ} (h : V_Rd_expectNumber_0 t a1 a2 G Q) : WP M_Rd_expectNumber 0 0 0 [some (.ref t), some (.int a1), some (.int a2)] [] G Q := WP.ofV (T := T_Rd_expectNumber) (hh := []) rfl rfl [(36, [true, true, true])] 34 h
theorem E_Rd_expectNumber {t : Nat} {a1 : Int32} {a2 : Int32} {G : GH} {K : Int32 → GH → Prop} {KX : String → GH → Prop} (h : V_Rd_expectNumber_0 t a1 a2 G (gQi K KX)) : CI M_Rd_expectNumber [.ref t, .int a1, .int a2] G K KX := CI.of rfl rfl rfl (V_Rd_expectNumber_0_ok h)
def V_Rd_expectNumber_36 (t : Nat) (a1 : Int32) (a2 : Int32) (G : GH) (Q : GQ) : Prop :=
  CI M_Rd_fail [.ref t, .int (nI 2)] G (fun (x2 : Int32) (G1 : GH) =>
    Q.1 (-nI 1) G1) gNo
set_option maxRecDepth 100000 in
theorem V_Rd_expectNumber_36_ok {t : Nat} {a1 : Int32} {a2 : Int32} {G : GH} {Q : GQ} (h : V_Rd_expectNumber_36 t a1 a2 G Q) : WP M_Rd_expectNumber 0 0 36 [some (.ref t), some (.int a1), some (.int a2)] [] G Q := WP.ofV (T := T_Rd_expectNumber) (hh := []) rfl rfl [(36, [true, true, true])] 34 h
def V_Rd_endStatement_0 (t : Nat) (G : GH) (Q : GQ) : Prop :=
  CV M_Rd_nextToken [.ref t] G (fun (G1 : GH) =>
    ∃ (fs2 : List Value) (x3 : Int32), G1.2 t = some (.inl (6, fs2)) ∧ fs2[8]? = some (.int x3) ∧
    if x3 = (nI 3) then
      CV M_Rd_nextToken [.ref t] G1 (fun (G4 : GH) =>
        ((nI 1) = nI 0 ∨ (nI 1) = nI 1) ∧ Q.1 (nI 1) G4) gNo
    else
      CI M_Rd_fail [.ref t, .int (nI 1)] G1 (fun (x6 : Int32) (G5 : GH) =>
        (x6 = nI 0 ∨ x6 = nI 1) ∧ Q.1 x6 G5) gNo) gNo
set_option maxRecDepth 100000 in
theorem V_Rd_endStatement_0_ok {t : Nat} {G : GH} {Q : GQ} (h : V_Rd_endStatement_0 t G Q) : WP M_Rd_endStatement 0 0 0 [some (.ref t)] [] G Q := WP.ofV (T := T_Rd_endStatement) (hh := []) rfl rfl [] 19 h
theorem E_Rd_endStatement {t : Nat} {G : GH} {K : Int32 → GH → Prop} {KX : String → GH → Prop} (h : V_Rd_endStatement_0 t G (gQi K KX)) : CI M_Rd_endStatement [.ref t] G K KX := CI.of rfl rfl rfl (V_Rd_endStatement_0_ok h)
def V_Rd_fail_0 (t : Nat) (a1 : Int32) (G : GH) (Q : GQ) : Prop :=
  t < gRB ∧ ∃ (fs1 : List Value), G.2 t = some (.inl (6, fs1)) ∧ gFit 0 (.int a1) ∧
  let G2 : GH := gU G t (.inl (6, fs1.set 1 (.int a1)));
  ∃ (fs3 : List Value) (x4 : Int32), G2.2 t = some (.inl (6, fs3)) ∧ fs3[9]? = some (.int x4) ∧
  t < gRB ∧ ∃ (fs5 : List Value), G2.2 t = some (.inl (6, fs5)) ∧ gFit 0 (.int x4) ∧
  let G6 : GH := gU G2 t (.inl (6, fs5.set 2 (.int x4)));
  ((nI 0) = nI 0 ∨ (nI 0) = nI 1) ∧ Q.1 (nI 0) G6
set_option maxRecDepth 100000 in
theorem V_Rd_fail_0_ok {t : Nat} {a1 : Int32} {G : GH} {Q : GQ} (h : V_Rd_fail_0 t a1 G Q) : WP M_Rd_fail 0 0 0 [some (.ref t), some (.int a1)] [] G Q := WP.ofV (T := T_Rd_fail) (hh := []) rfl rfl [] 14 h
theorem E_Rd_fail {t : Nat} {a1 : Int32} {G : GH} {K : Int32 → GH → Prop} {KX : String → GH → Prop} (h : V_Rd_fail_0 t a1 G (gQi K KX)) : CI M_Rd_fail [.ref t, .int a1] G K KX := CI.of rfl rfl rfl (V_Rd_fail_0_ok h)
def V_Rd_nextToken_0 (t : Nat) (G : GH) (Q : GQ) : Prop :=
  CI M_Rd_endOfRun [.ref t, .int (nI 32), .int (nI 32)] G (fun (x2 : Int32) (G1 : GH) =>
    t < gRB ∧ ∃ (fs3 : List Value), G1.2 t = some (.inl (6, fs3)) ∧ gFit 0 (.int x2) ∧
    let G4 : GH := gU G1 t (.inl (6, fs3.set 7 (.int x2)));
    ∃ (fs5 : List Value) (x6 : Int32), G4.2 t = some (.inl (6, fs5)) ∧ fs5[7]? = some (.int x6) ∧
    t < gRB ∧ ∃ (fs7 : List Value), G4.2 t = some (.inl (6, fs7)) ∧ gFit 0 (.int x6) ∧
    let G8 : GH := gU G4 t (.inl (6, fs7.set 9 (.int x6)));
    ∃ (fs9 : List Value) (x10 : Int32), G8.2 t = some (.inl (6, fs9)) ∧ fs9[7]? = some (.int x10) ∧
    CI M_Rd_byteAt [.ref t, .int x10] G8 (fun (x12 : Int32) (G11 : GH) =>
      if x12 = (-nI 1) then
        t < gRB ∧ ∃ (fs13 : List Value), G11.2 t = some (.inl (6, fs13)) ∧ gFit 0 (.int (nI 0)) ∧
        let G14 : GH := gU G11 t (.inl (6, fs13.set 8 (.int (nI 0))));
        Q.2.1 G14
      else
        if x12 < (nI 97) then
          WP M_Rd_nextToken 0 0 74 [some (.ref t), some (.int x12)] [] G11 Q
        else
          if (nI 122) < x12 then
            WP M_Rd_nextToken 0 0 74 [some (.ref t), some (.int x12)] [] G11 Q
          else
            t < gRB ∧ ∃ (fs15 : List Value), G11.2 t = some (.inl (6, fs15)) ∧ gFit 0 (.int (nI 1)) ∧
            let G16 : GH := gU G11 t (.inl (6, fs15.set 8 (.int (nI 1))));
            CI M_Rd_endOfRun [.ref t, .int (nI 97), .int (nI 122)] G16 (fun (x18 : Int32) (G17 : GH) =>
              t < gRB ∧ ∃ (fs19 : List Value), G17.2 t = some (.inl (6, fs19)) ∧ gFit 0 (.int x18) ∧
              let G20 : GH := gU G17 t (.inl (6, fs19.set 7 (.int x18)));
              Q.2.1 G20) gNo) gNo) gNo
set_option maxRecDepth 100000 in
theorem V_Rd_nextToken_0_ok {t : Nat} {G : GH} {Q : GQ} (h : V_Rd_nextToken_0 t G Q) : WP M_Rd_nextToken 0 0 0 [some (.ref t), none] [] G Q := WP.ofV (T := T_Rd_nextToken) (hh := []) rfl rfl [(74, [true, true]), (114, [true, true]), (126, [true, true])] 78 h
theorem E_Rd_nextToken {t : Nat} {G : GH} {K : GH → Prop} {KX : String → GH → Prop} (h : V_Rd_nextToken_0 t G (gQv K KX)) : CV M_Rd_nextToken [.ref t] G K KX := CV.of rfl rfl rfl (V_Rd_nextToken_0_ok h)
def V_Rd_nextToken_74 (t : Nat) (a1 : Int32) (G : GH) (Q : GQ) : Prop :=
  if a1 < (nI 48) then
    WP M_Rd_nextToken 0 0 114 [some (.ref t), some (.int a1)] [] G Q
  else
    if (nI 57) < a1 then
      WP M_Rd_nextToken 0 0 114 [some (.ref t), some (.int a1)] [] G Q
    else
      t < gRB ∧ ∃ (fs1 : List Value), G.2 t = some (.inl (6, fs1)) ∧ gFit 0 (.int (nI 2)) ∧
      let G2 : GH := gU G t (.inl (6, fs1.set 8 (.int (nI 2))));
      CI M_Rd_endOfRun [.ref t, .int (nI 48), .int (nI 57)] G2 (fun (x4 : Int32) (G3 : GH) =>
        t < gRB ∧ ∃ (fs5 : List Value), G3.2 t = some (.inl (6, fs5)) ∧ gFit 0 (.int x4) ∧
        let G6 : GH := gU G3 t (.inl (6, fs5.set 7 (.int x4)));
        CI M_Rd_valueOfToken [.ref t] G6 (fun (x8 : Int32) (G7 : GH) =>
          t < gRB ∧ ∃ (fs9 : List Value), G7.2 t = some (.inl (6, fs9)) ∧ gFit 0 (.int x8) ∧
          let G10 : GH := gU G7 t (.inl (6, fs9.set 10 (.int x8)));
          Q.2.1 G10) gNo) gNo
set_option maxRecDepth 100000 in
theorem V_Rd_nextToken_74_ok {t : Nat} {a1 : Int32} {G : GH} {Q : GQ} (h : V_Rd_nextToken_74 t a1 G Q) : WP M_Rd_nextToken 0 0 74 [some (.ref t), some (.int a1)] [] G Q := WP.ofV (T := T_Rd_nextToken) (hh := []) rfl rfl [(74, [true, true]), (114, [true, true]), (126, [true, true])] 78 h
def V_Rd_nextToken_114 (t : Nat) (a1 : Int32) (G : GH) (Q : GQ) : Prop :=
  if a1 = (nI 59) then
    WP M_Rd_nextToken 0 0 126 [some (.ref t), some (.int a1)] [.int (nI 3), .ref t] G Q
  else
    WP M_Rd_nextToken 0 0 126 [some (.ref t), some (.int a1)] [.int (nI 4), .ref t] G Q
set_option maxRecDepth 100000 in
theorem V_Rd_nextToken_114_ok {t : Nat} {a1 : Int32} {G : GH} {Q : GQ} (h : V_Rd_nextToken_114 t a1 G Q) : WP M_Rd_nextToken 0 0 114 [some (.ref t), some (.int a1)] [] G Q := WP.ofV (T := T_Rd_nextToken) (hh := []) rfl rfl [(74, [true, true]), (114, [true, true]), (126, [true, true])] 78 h
def V_Rd_nextToken_126 (t : Nat) (a1 : Int32) (s0 : Int32) (s1 : Nat) (G : GH) (Q : GQ) : Prop :=
  s1 < gRB ∧ ∃ (fs1 : List Value), G.2 s1 = some (.inl (6, fs1)) ∧ gFit 0 (.int s0) ∧
  let G2 : GH := gU G s1 (.inl (6, fs1.set 8 (.int s0)));
  ∃ (fs3 : List Value) (x4 : Int32), G2.2 t = some (.inl (6, fs3)) ∧ fs3[7]? = some (.int x4) ∧
  t < gRB ∧ ∃ (fs5 : List Value), G2.2 t = some (.inl (6, fs5)) ∧ gFit 0 (.int (x4 + (nI 1))) ∧
  let G6 : GH := gU G2 t (.inl (6, fs5.set 7 (.int (x4 + (nI 1)))));
  Q.2.1 G6
set_option maxRecDepth 100000 in
theorem V_Rd_nextToken_126_ok {t : Nat} {a1 : Int32} {s0 : Int32} {s1 : Nat} {G : GH} {Q : GQ} (h : V_Rd_nextToken_126 t a1 s0 s1 G Q) : WP M_Rd_nextToken 0 0 126 [some (.ref t), some (.int a1)] [.int s0, .ref s1] G Q := WP.ofV (T := T_Rd_nextToken) (hh := []) rfl rfl [(74, [true, true]), (114, [true, true]), (126, [true, true])] 78 h
def V_Rd_endOfRun_0 (t : Nat) (a1 : Int32) (a2 : Int32) (G : GH) (Q : GQ) : Prop :=
  ∃ (fs1 : List Value) (x2 : Int32), G.2 t = some (.inl (6, fs1)) ∧ fs1[7]? = some (.int x2) ∧
  WP M_Rd_endOfRun 0 0 5 [some (.ref t), some (.int a1), some (.int a2), some (.int x2)] [] G Q
set_option maxRecDepth 100000 in
theorem V_Rd_endOfRun_0_ok {t : Nat} {a1 : Int32} {a2 : Int32} {G : GH} {Q : GQ} (h : V_Rd_endOfRun_0 t a1 a2 G Q) : WP M_Rd_endOfRun 0 0 0 [some (.ref t), some (.int a1), some (.int a2), none] [] G Q := WP.ofV (T := T_Rd_endOfRun) (hh := []) rfl rfl [(5, [true, true, true, true])] 31 h
theorem E_Rd_endOfRun {t : Nat} {a1 : Int32} {a2 : Int32} {G : GH} {K : Int32 → GH → Prop} {KX : String → GH → Prop} (h : V_Rd_endOfRun_0 t a1 a2 G (gQi K KX)) : CI M_Rd_endOfRun [.ref t, .int a1, .int a2] G K KX := CI.of rfl rfl rfl (V_Rd_endOfRun_0_ok h)
def V_Rd_endOfRun_5 (t : Nat) (a1 : Int32) (a2 : Int32) (a3 : Int32) (G : GH) (Q : GQ) : Prop :=
  ∃ (fs1 : List Value) (x2 : Int32), G.2 t = some (.inl (6, fs1)) ∧ fs1[0]? = some (.int x2) ∧
  if a3 < x2 then
    if a3 < (nI 600) then
      ∃ (fs3 : List Value) (r4 : Nat), G.2 t = some (.inl (6, fs3)) ∧ fs3[6]? = some (.ref r4) ∧
      ∃ (m5 : Nat) (f6 : Nat → Int32), G.2 r4 = some (.inr (.int, m5, .inl f6)) ∧ vp_in a3 m5 ∧
      if (f6 (a3).toNatClampNeg) < a1 then
        Q.1 a3 G
      else
        ∃ (fs7 : List Value) (r8 : Nat), G.2 t = some (.inl (6, fs7)) ∧ fs7[6]? = some (.ref r8) ∧
        ∃ (m9 : Nat) (f10 : Nat → Int32), G.2 r8 = some (.inr (.int, m9, .inl f10)) ∧ vp_in a3 m9 ∧
        if a2 < (f10 (a3).toNatClampNeg) then
          Q.1 a3 G
        else
          WP M_Rd_endOfRun 0 0 5 [some (.ref t), some (.int a1), some (.int a2), some (.int (a3 + nI 1))] [] G Q
    else
      Q.1 a3 G
  else
    Q.1 a3 G
set_option maxRecDepth 100000 in
theorem V_Rd_endOfRun_5_ok {t : Nat} {a1 : Int32} {a2 : Int32} {a3 : Int32} {G : GH} {Q : GQ} (h : V_Rd_endOfRun_5 t a1 a2 a3 G Q) : WP M_Rd_endOfRun 0 0 5 [some (.ref t), some (.int a1), some (.int a2), some (.int a3)] [] G Q := WP.ofV (T := T_Rd_endOfRun) (hh := []) rfl rfl [(5, [true, true, true, true])] 31 h
def V_Rd_valueOfToken_0 (t : Nat) (G : GH) (Q : GQ) : Prop :=
  ∃ (fs1 : List Value) (x2 : Int32), G.2 t = some (.inl (6, fs1)) ∧ fs1[9]? = some (.int x2) ∧
  WP M_Rd_valueOfToken 0 0 7 [some (.ref t), some (.int (nI 0)), some (.int x2)] [] G Q
set_option maxRecDepth 100000 in
theorem V_Rd_valueOfToken_0_ok {t : Nat} {G : GH} {Q : GQ} (h : V_Rd_valueOfToken_0 t G Q) : WP M_Rd_valueOfToken 0 0 0 [some (.ref t), none, none] [] G Q := WP.ofV (T := T_Rd_valueOfToken) (hh := []) rfl rfl [(7, [true, true, true])] 34 h
theorem E_Rd_valueOfToken {t : Nat} {G : GH} {K : Int32 → GH → Prop} {KX : String → GH → Prop} (h : V_Rd_valueOfToken_0 t G (gQi K KX)) : CI M_Rd_valueOfToken [.ref t] G K KX := CI.of rfl rfl rfl (V_Rd_valueOfToken_0_ok h)
def V_Rd_valueOfToken_7 (t : Nat) (a1 : Int32) (a2 : Int32) (G : GH) (Q : GQ) : Prop :=
  ∃ (fs1 : List Value) (x2 : Int32), G.2 t = some (.inl (6, fs1)) ∧ fs1[7]? = some (.int x2) ∧
  if a2 < x2 then
    if a2 < (nI 600) then
      ∃ (fs3 : List Value) (r4 : Nat), G.2 t = some (.inl (6, fs3)) ∧ fs3[6]? = some (.ref r4) ∧
      ∃ (m5 : Nat) (f6 : Nat → Int32), G.2 r4 = some (.inr (.int, m5, .inl f6)) ∧ vp_in a2 m5 ∧
      WP M_Rd_valueOfToken 0 0 7 [some (.ref t), some (.int (if (nI 1000) < (((a1 * (nI 10)) + (f6 (a2).toNatClampNeg)) - (nI 48)) then nI 1000 else ((a1 * (nI 10)) + (f6 (a2).toNatClampNeg)) - (nI 48))), some (.int (a2 + nI 1))] [] G Q
    else
      Q.1 a1 G
  else
    Q.1 a1 G
set_option maxRecDepth 100000 in
theorem V_Rd_valueOfToken_7_ok {t : Nat} {a1 : Int32} {a2 : Int32} {G : GH} {Q : GQ} (h : V_Rd_valueOfToken_7 t a1 a2 G Q) : WP M_Rd_valueOfToken 0 0 7 [some (.ref t), some (.int a1), some (.int a2)] [] G Q := WP.ofV (T := T_Rd_valueOfToken) (hh := []) rfl rfl [(7, [true, true, true])] 34 h
def V_Rd_wordIs_0 (t : Nat) (p1 : Nat) (G : GH) (Q : GQ) : Prop :=
  ∃ (fs1 : List Value) (x2 : Int32), G.2 t = some (.inl (6, fs1)) ∧ fs1[8]? = some (.int x2) ∧
  if x2 = (nI 1) then
    ∃ (fs3 : List Value) (x4 : Int32), G.2 t = some (.inl (6, fs3)) ∧ fs3[7]? = some (.int x4) ∧
    ∃ (fs5 : List Value) (x6 : Int32), G.2 t = some (.inl (6, fs5)) ∧ fs5[9]? = some (.int x6) ∧
    ∃ (tx7 : List Nat), gStr p1 = some tx7 ∧
    if (x4 - x6) = (nI tx7.length) then
      WP M_Rd_wordIs 0 0 28 [some (.ref t), some (.ref p1), some (.int (nI 0))] [] G Q
    else
      ((nI 0) = nI 0 ∨ (nI 0) = nI 1) ∧ Q.1 (nI 0) G
  else
    ((nI 0) = nI 0 ∨ (nI 0) = nI 1) ∧ Q.1 (nI 0) G
set_option maxRecDepth 100000 in
theorem V_Rd_wordIs_0_ok {t : Nat} {p1 : Nat} {G : GH} {Q : GQ} (h : V_Rd_wordIs_0 t p1 G Q) : WP M_Rd_wordIs 0 0 0 [some (.ref t), some (.ref p1), none] [] G Q := WP.ofV (T := T_Rd_wordIs) (hh := []) rfl rfl [(28, [true, true, true])] 41 h
theorem E_Rd_wordIs {t : Nat} {p1 : Nat} {G : GH} {K : Int32 → GH → Prop} {KX : String → GH → Prop} (h : V_Rd_wordIs_0 t p1 G (gQi K KX)) : CI M_Rd_wordIs [.ref t, .ref p1] G K KX := CI.of rfl rfl rfl (V_Rd_wordIs_0_ok h)
def V_Rd_wordIs_28 (t : Nat) (p1 : Nat) (a2 : Int32) (G : GH) (Q : GQ) : Prop :=
  ∃ (tx1 : List Nat), gStr p1 = some tx1 ∧
  if a2 < (nI tx1.length) then
    ∃ (fs2 : List Value) (x3 : Int32), G.2 t = some (.inl (6, fs2)) ∧ fs2[9]? = some (.int x3) ∧
    CI M_Rd_byteAt [.ref t, .int (x3 + a2)] G (fun (x5 : Int32) (G4 : GH) =>
      ∃ (tx6 : List Nat) (k7 ch8 : Nat), gStr p1 = some tx6 ∧ a2 = nI k7 ∧ tx6[k7]? = some ch8 ∧
      if x5 = (nI ch8) then
        WP M_Rd_wordIs 0 0 28 [some (.ref t), some (.ref p1), some (.int (a2 + nI 1))] [] G4 Q
      else
        ((nI 0) = nI 0 ∨ (nI 0) = nI 1) ∧ Q.1 (nI 0) G4) gNo
  else
    ((nI 1) = nI 0 ∨ (nI 1) = nI 1) ∧ Q.1 (nI 1) G
set_option maxRecDepth 100000 in
theorem V_Rd_wordIs_28_ok {t : Nat} {p1 : Nat} {a2 : Int32} {G : GH} {Q : GQ} (h : V_Rd_wordIs_28 t p1 a2 G Q) : WP M_Rd_wordIs 0 0 28 [some (.ref t), some (.ref p1), some (.int a2)] [] G Q := WP.ofV (T := T_Rd_wordIs) (hh := []) rfl rfl [(28, [true, true, true])] 41 h
def V_Rd_byteAt_0 (t : Nat) (a1 : Int32) (G : GH) (Q : GQ) : Prop :=
  if a1 < (nI 0) then
    Q.1 (-nI 1) G
  else
    ∃ (fs1 : List Value) (x2 : Int32), G.2 t = some (.inl (6, fs1)) ∧ fs1[0]? = some (.int x2) ∧
    if a1 < x2 then
      if a1 < (nI 600) then
        ∃ (fs3 : List Value) (r4 : Nat), G.2 t = some (.inl (6, fs3)) ∧ fs3[6]? = some (.ref r4) ∧
        ∃ (m5 : Nat) (f6 : Nat → Int32), G.2 r4 = some (.inr (.int, m5, .inl f6)) ∧ vp_in a1 m5 ∧
        Q.1 (f6 (a1).toNatClampNeg) G
      else
        Q.1 (-nI 1) G
    else
      Q.1 (-nI 1) G
set_option maxRecDepth 100000 in
theorem V_Rd_byteAt_0_ok {t : Nat} {a1 : Int32} {G : GH} {Q : GQ} (h : V_Rd_byteAt_0 t a1 G Q) : WP M_Rd_byteAt 0 0 0 [some (.ref t), some (.int a1)] [] G Q := WP.ofV (T := T_Rd_byteAt) (hh := []) rfl rfl [] 21 h
theorem E_Rd_byteAt {t : Nat} {a1 : Int32} {G : GH} {K : Int32 → GH → Prop} {KX : String → GH → Prop} (h : V_Rd_byteAt_0 t a1 G (gQi K KX)) : CI M_Rd_byteAt [.ref t, .int a1] G K KX := CI.of rfl rfl rfl (V_Rd_byteAt_0_ok h)
def V_Rd_clear_0 (t : Nat) (G : GH) (Q : GQ) : Prop :=
  t < gRB ∧ ∃ (fs1 : List Value), G.2 t = some (.inl (6, fs1)) ∧ gFit 0 (.int (nI 0)) ∧
  let G2 : GH := gU G t (.inl (6, fs1.set 0 (.int (nI 0))));
  Q.2.1 G2
set_option maxRecDepth 100000 in
theorem V_Rd_clear_0_ok {t : Nat} {G : GH} {Q : GQ} (h : V_Rd_clear_0 t G Q) : WP M_Rd_clear 0 0 0 [some (.ref t)] [] G Q := WP.ofV (T := T_Rd_clear) (hh := []) rfl rfl [] 9 h
theorem E_Rd_clear {t : Nat} {G : GH} {K : GH → Prop} {KX : String → GH → Prop} (h : V_Rd_clear_0 t G (gQv K KX)) : CV M_Rd_clear [.ref t] G K KX := CV.of rfl rfl rfl (V_Rd_clear_0_ok h)
