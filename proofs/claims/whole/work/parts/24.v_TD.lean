def V_TD_init_0 (t : Nat) (G : GH) (Q : GQ) : Prop :=
  1 ≤ 247 ∧ 14 ≤ 6722 ∧ 0 < G.1 ∧ G.1 < gRB ∧
  let G1 : GH := gPush G (.inl (6, gBlk 6));
  bif Nat.ble 24 (247 - 1) && (Nat.ble 1064 (6722 - 14) && Nat.ble (gCat [.ref G.1, .ref t]) 8) then CV M_Rd_init [.ref G.1] G1 (fun (G2 : GH) =>
    t < gRB ∧ ∃ (fs3 : List Value), G2.2 t = some (.inl (10, fs3)) ∧ gFit 1 (.ref G.1) ∧
    let G4 : GH := gU G2 t (.inl (10, fs3.set 0 (.ref G.1)));
    1 ≤ ((247 - 1) - 24) ∧ 6 ≤ ((6722 - 14) - 1064) ∧ 0 < G4.1 ∧ G4.1 < gRB ∧
    let G5 : GH := gPush G4 (.inl (8, gBlk 8));
    bif Nat.ble 16 (((247 - 1) - 24) - 1) && (Nat.ble 427 (((6722 - 14) - 1064) - 6) && Nat.ble (gCat [.ref G4.1, .ref t]) 8) then CV M_St_init [.ref G4.1] G5 (fun (G6 : GH) =>
      t < gRB ∧ ∃ (fs7 : List Value), G6.2 t = some (.inl (10, fs7)) ∧ gFit 1 (.ref G4.1) ∧
      let G8 : GH := gU G6 t (.inl (10, fs7.set 1 (.ref G4.1)));
      1 ≤ ((((247 - 1) - 24) - 1) - 16) ∧ 6 ≤ ((((6722 - 14) - 1064) - 6) - 427) ∧ 0 < G8.1 ∧ G8.1 < gRB ∧
      let G9 : GH := gPush G8 (.inl (8, gBlk 8));
      bif Nat.ble 16 (((((247 - 1) - 24) - 1) - 16) - 1) && (Nat.ble 427 (((((6722 - 14) - 1064) - 6) - 427) - 6) && Nat.ble (gCat [.ref G8.1, .ref t]) 8) then CV M_St_init [.ref G8.1] G9 (fun (G10 : GH) =>
        t < gRB ∧ ∃ (fs11 : List Value), G10.2 t = some (.inl (10, fs11)) ∧ gFit 1 (.ref G8.1) ∧
        let G12 : GH := gU G10 t (.inl (10, fs11.set 2 (.ref G8.1)));
        WP M_TD_init ((((((247 - 1) - 24) - 1) - 16) - 1) - 16) ((((((6722 - 14) - 1064) - 6) - 427) - 6) - 427) 37 [some (.ref t)] [] G12 Q) gNo else False) gNo else False) gNo else False
set_option maxRecDepth 100000 in
theorem V_TD_init_0_ok {t : Nat} {G : GH} {Q : GQ} (h : V_TD_init_0 t G Q) : WP M_TD_init 247 6722 0 [some (.ref t)] [] G Q := WP.ofV (T := T_TD_init) (hh := []) rfl rfl [(37, [true]), (76, [true]), (105, [true]), (135, [true]), (190, [true])] 99 h
theorem E_TD_init {t : Nat} {G : GH} {K : GH → Prop} {KX : String → GH → Prop} (h : V_TD_init_0 t G (gQv K KX)) : CV M_TD_init [.ref t] G K KX := CV.of rfl rfl rfl (V_TD_init_0_ok h)
def V_TD_init_37 (rc rs : Nat) (t : Nat) (G : GH) (Q : GQ) : Prop :=
  1 ≤ rc ∧ 3 ≤ rs ∧ 0 < G.1 ∧ G.1 < gRB ∧
  let G1 : GH := gPush G (.inl (3, gBlk 3));
  bif Nat.ble 137 (rc - 1) && (Nat.ble 3472 (rs - 3) && Nat.ble (gCat [.ref G.1, .ref t]) 8) then CV M_Hi_init [.ref G.1] G1 (fun (G2 : GH) =>
    t < gRB ∧ ∃ (fs3 : List Value), G2.2 t = some (.inl (10, fs3)) ∧ gFit 1 (.ref G.1) ∧
    let G4 : GH := gU G2 t (.inl (10, fs3.set 3 (.ref G.1)));
    1 ≤ ((rc - 1) - 137) ∧ 0 < G4.1 ∧ G4.1 < gRB ∧ ∃ (m5 : Nat), (nI 2) = nI m5 ∧ m5 ≤ 100000 ∧ m5 ≤ ((rs - 3) - 3472) ∧
    let G6 : GH := gPush G4 (.inr (.object "TrunkDuel$State", m5, .inr (.inr (.inr (.inr fun _ => none)))));
    1 ≤ (((rc - 1) - 137) - 1) ∧ 6 ≤ (((rs - 3) - 3472) - m5) ∧ 0 < G6.1 ∧ G6.1 < gRB ∧
    let G7 : GH := gPush G6 (.inl (8, gBlk 8));
    bif Nat.ble 16 ((((rc - 1) - 137) - 1) - 1) && (Nat.ble 427 ((((rs - 3) - 3472) - m5) - 6) && Nat.ble (gCat [.ref G6.1, .int (nI 0), .ref G4.1, .ref G4.1, .ref t]) 8) then CV M_St_init [.ref G6.1] G7 (fun (G8 : GH) =>
      G4.1 < gRB ∧ G6.1 < gRB ∧ ∃ (m9 : Nat) (f10 : Nat → Option Nat) (fs11 : List Value), G8.2 G4.1 = some (.inr (.object "TrunkDuel$State", m9, .inr (.inr (.inr (.inr f10))))) ∧ G8.2 G6.1 = some (.inl (8, fs11)) ∧ vp_in (nI 0) m9 ∧
      let G12 : GH := gU G8 G4.1 (.inr (.object "TrunkDuel$State", m9, .inr (.inr (.inr (.inr (va_up f10 (nI 0).toNatClampNeg (some G6.1)))))));
      1 ≤ (((((rc - 1) - 137) - 1) - 1) - 16) ∧ 6 ≤ (((((rs - 3) - 3472) - m5) - 6) - 427) ∧ 0 < G12.1 ∧ G12.1 < gRB ∧
      let G13 : GH := gPush G12 (.inl (8, gBlk 8));
      bif Nat.ble 16 ((((((rc - 1) - 137) - 1) - 1) - 16) - 1) && (Nat.ble 427 ((((((rs - 3) - 3472) - m5) - 6) - 427) - 6) && Nat.ble (gCat [.ref G12.1, .int (nI 1), .ref G4.1, .ref G4.1, .ref t]) 8) then CV M_St_init [.ref G12.1] G13 (fun (G14 : GH) =>
        G4.1 < gRB ∧ G12.1 < gRB ∧ ∃ (m15 : Nat) (f16 : Nat → Option Nat) (fs17 : List Value), G14.2 G4.1 = some (.inr (.object "TrunkDuel$State", m15, .inr (.inr (.inr (.inr f16))))) ∧ G14.2 G12.1 = some (.inl (8, fs17)) ∧ vp_in (nI 1) m15 ∧
        let G18 : GH := gU G14 G4.1 (.inr (.object "TrunkDuel$State", m15, .inr (.inr (.inr (.inr (va_up f16 (nI 1).toNatClampNeg (some G12.1)))))));
        t < gRB ∧ ∃ (fs19 : List Value), G18.2 t = some (.inl (10, fs19)) ∧ gFit 1 (.ref G4.1) ∧
        let G20 : GH := gU G18 t (.inl (10, fs19.set 4 (.ref G4.1)));
        WP M_TD_init (((((((rc - 1) - 137) - 1) - 1) - 16) - 1) - 16) (((((((rs - 3) - 3472) - m5) - 6) - 427) - 6) - 427) 76 [some (.ref t)] [] G20 Q) gNo else False) gNo else False) gNo else False
set_option maxRecDepth 100000 in
theorem V_TD_init_37_ok {rc rs : Nat} {t : Nat} {G : GH} {Q : GQ} (h : V_TD_init_37 rc rs t G Q) : WP M_TD_init rc rs 37 [some (.ref t)] [] G Q := WP.ofV (T := T_TD_init) (hh := []) rfl rfl [(37, [true]), (76, [true]), (105, [true]), (135, [true]), (190, [true])] 99 h
def V_TD_init_76 (rc rs : Nat) (t : Nat) (G : GH) (Q : GQ) : Prop :=
  1 ≤ rc ∧ 0 < G.1 ∧ G.1 < gRB ∧ ∃ (m1 : Nat), (nI 2) = nI m1 ∧ m1 ≤ 100000 ∧ m1 ≤ rs ∧
  let G2 : GH := gPush G (.inr (.boolean, m1, .inl fun _ => 0));
  t < gRB ∧ ∃ (fs3 : List Value), G2.2 t = some (.inl (10, fs3)) ∧ gFit 1 (.ref G.1) ∧
  let G4 : GH := gU G2 t (.inl (10, fs3.set 5 (.ref G.1)));
  1 ≤ (rc - 1) ∧ 11 ≤ (rs - m1) ∧ 0 < G4.1 ∧ G4.1 < gRB ∧
  let G5 : GH := gPush G4 (.inl (2, gBlk 2));
  bif Nat.ble 5 ((rc - 1) - 1) && (Nat.ble 20 ((rs - m1) - 11) && Nat.ble (gCat [.ref G4.1, .ref t]) 8) then CV M_Fp_init [.ref G4.1] G5 (fun (G6 : GH) =>
    t < gRB ∧ ∃ (fs7 : List Value), G6.2 t = some (.inl (10, fs7)) ∧ gFit 1 (.ref G4.1) ∧
    let G8 : GH := gU G6 t (.inl (10, fs7.set 6 (.ref G4.1)));
    1 ≤ (((rc - 1) - 1) - 5) ∧ 5 ≤ (((rs - m1) - 11) - 20) ∧ 0 < G8.1 ∧ G8.1 < gRB ∧
    let G9 : GH := gPush G8 (.inl (0, gBlk 0));
    CV M_Ch_init [.ref G8.1] G9 (fun (G10 : GH) =>
      t < gRB ∧ ∃ (fs11 : List Value), G10.2 t = some (.inl (10, fs11)) ∧ gFit 1 (.ref G8.1) ∧
      let G12 : GH := gU G10 t (.inl (10, fs11.set 7 (.ref G8.1)));
      WP M_TD_init ((((rc - 1) - 1) - 5) - 1) ((((rs - m1) - 11) - 20) - 5) 105 [some (.ref t)] [] G12 Q) gNo) gNo else False
set_option maxRecDepth 100000 in
theorem V_TD_init_76_ok {rc rs : Nat} {t : Nat} {G : GH} {Q : GQ} (h : V_TD_init_76 rc rs t G Q) : WP M_TD_init rc rs 76 [some (.ref t)] [] G Q := WP.ofV (T := T_TD_init) (hh := []) rfl rfl [(37, [true]), (76, [true]), (105, [true]), (135, [true]), (190, [true])] 99 h
def V_TD_init_105 (rc rs : Nat) (t : Nat) (G : GH) (Q : GQ) : Prop :=
  1 ≤ rc ∧ 1 ≤ rs ∧ 0 < G.1 ∧ G.1 < gRB ∧
  let G1 : GH := gPush G (.inl (1, gBlk 1));
  bif Nat.ble 1 (rc - 1) && (Nat.ble 128 (rs - 1) && Nat.ble (gCat [.ref G.1, .ref t]) 8) then CV M_Cr_init [.ref G.1] G1 (fun (G2 : GH) =>
    t < gRB ∧ ∃ (fs3 : List Value), G2.2 t = some (.inl (10, fs3)) ∧ gFit 1 (.ref G.1) ∧
    let G4 : GH := gU G2 t (.inl (10, fs3.set 8 (.ref G.1)));
    1 ≤ ((rc - 1) - 1) ∧ 5 ≤ ((rs - 1) - 128) ∧ 0 < G4.1 ∧ G4.1 < gRB ∧
    let G5 : GH := gPush G4 (.inl (7, gBlk 7));
    bif Nat.ble 3 (((rc - 1) - 1) - 1) && (Nat.ble 192 (((rs - 1) - 128) - 5) && Nat.ble (gCat [.ref G4.1, .ref t]) 8) then CV M_Rg_init [.ref G4.1] G5 (fun (G6 : GH) =>
      t < gRB ∧ ∃ (fs7 : List Value), G6.2 t = some (.inl (10, fs7)) ∧ gFit 1 (.ref G4.1) ∧
      let G8 : GH := gU G6 t (.inl (10, fs7.set 9 (.ref G4.1)));
      1 ≤ ((((rc - 1) - 1) - 1) - 3) ∧ 0 < G8.1 ∧ G8.1 < gRB ∧ ∃ (m9 : Nat), (nI 71) = nI m9 ∧ m9 ≤ 100000 ∧ m9 ≤ ((((rs - 1) - 128) - 5) - 192) ∧
      let G10 : GH := gPush G8 (.inr (.int, m9, .inl fun _ => 0));
      t < gRB ∧ ∃ (fs11 : List Value), G10.2 t = some (.inl (10, fs11)) ∧ gFit 1 (.ref G8.1) ∧
      let G12 : GH := gU G10 t (.inl (10, fs11.set 10 (.ref G8.1)));
      WP M_TD_init (((((rc - 1) - 1) - 1) - 3) - 1) (((((rs - 1) - 128) - 5) - 192) - m9) 135 [some (.ref t)] [] G12 Q) gNo else False) gNo else False
set_option maxRecDepth 100000 in
theorem V_TD_init_105_ok {rc rs : Nat} {t : Nat} {G : GH} {Q : GQ} (h : V_TD_init_105 rc rs t G Q) : WP M_TD_init rc rs 105 [some (.ref t)] [] G Q := WP.ofV (T := T_TD_init) (hh := []) rfl rfl [(37, [true]), (76, [true]), (105, [true]), (135, [true]), (190, [true])] 99 h
def V_TD_init_135 (rc rs : Nat) (t : Nat) (G : GH) (Q : GQ) : Prop :=
  t < gRB ∧ ∃ (fs1 : List Value), G.2 t = some (.inl (10, fs1)) ∧ gFit 0 (.int (nI 0)) ∧
  let G2 : GH := gU G t (.inl (10, fs1.set 11 (.int (nI 0))));
  ∃ (fs3 : List Value) (r4 : Nat), G2.2 t = some (.inl (10, fs3)) ∧ fs3[0]? = some (.ref r4) ∧
  CV M_Rd_writeText [.ref r4, .ref 100016] G2 (fun (G5 : GH) =>
    ∃ (fs6 : List Value) (r7 : Nat), G5.2 t = some (.inl (10, fs6)) ∧ fs6[0]? = some (.ref r7) ∧
    CV M_Rd_startSetup [.ref r7] G5 (fun (G8 : GH) =>
      ∃ (fs9 : List Value) (r10 : Nat), G8.2 t = some (.inl (10, fs9)) ∧ fs9[0]? = some (.ref r10) ∧
      CI M_Rd_readSetup [.ref r10] G8 (fun (x12 : Int32) (G11 : GH) =>
        if x12 = (nI 0) then
          WP M_TD_init rc rs 190 [some (.ref t)] [] G11 Q
        else
          ∃ (fs13 : List Value) (r14 : Nat), G11.2 t = some (.inl (10, fs13)) ∧ fs13[0]? = some (.ref r14) ∧
          CI M_Rd_readCommands [.ref r14] G11 (fun (x16 : Int32) (G15 : GH) =>
            if x16 = (nI 0) then
              WP M_TD_init rc rs 190 [some (.ref t)] [] G15 Q
            else
              ∃ (fs17 : List Value) (r18 : Nat), G15.2 t = some (.inl (10, fs17)) ∧ fs17[1]? = some (.ref r18) ∧
              ∃ (fs19 : List Value) (r20 : Nat), G15.2 t = some (.inl (10, fs19)) ∧ fs19[0]? = some (.ref r20) ∧
              ∃ (fs21 : List Value) (r22 : Nat), G15.2 r20 = some (.inl (6, fs21)) ∧ fs21[4]? = some (.ref r22) ∧
              CV M_St_copyFrom [.ref r18, .ref r22] G15 (fun (G23 : GH) =>
                WP M_TD_init rc rs 190 [some (.ref t)] [] G23 Q) gNo) gNo) gNo) gNo) gNo
set_option maxRecDepth 100000 in
theorem V_TD_init_135_ok {rc rs : Nat} {t : Nat} {G : GH} {Q : GQ} (h : V_TD_init_135 rc rs t G Q) : WP M_TD_init rc rs 135 [some (.ref t)] [] G Q := WP.ofV (T := T_TD_init) (hh := []) rfl rfl [(37, [true]), (76, [true]), (105, [true]), (135, [true]), (190, [true])] 99 h
def V_TD_init_190 (rc rs : Nat) (t : Nat) (G : GH) (Q : GQ) : Prop :=
  ∃ (fs1 : List Value) (r2 : Nat), G.2 t = some (.inl (10, fs1)) ∧ fs1[0]? = some (.ref r2) ∧
  CV M_Rd_clear [.ref r2] G (fun (G3 : GH) =>
    Q.2.1 G3) gNo
set_option maxRecDepth 100000 in
theorem V_TD_init_190_ok {rc rs : Nat} {t : Nat} {G : GH} {Q : GQ} (h : V_TD_init_190 rc rs t G Q) : WP M_TD_init rc rs 190 [some (.ref t)] [] G Q := WP.ofV (T := T_TD_init) (hh := []) rfl rfl [(37, [true]), (76, [true]), (105, [true]), (135, [true]), (190, [true])] 99 h
def V_TD_append_0 (t : Nat) (a1 : Int32) (a2 : Int32) (a3 : Int32) (a4 : Int32) (a5 : Int32) (G : GH) (Q : GQ) : Prop :=
  ∃ (fs1 : List Value) (r2 : Nat), G.2 t = some (.inl (10, fs1)) ∧ fs1[0]? = some (.ref r2) ∧
  CI M_Rd_hasRoom [.ref r2] G (fun (x4 : Int32) (G3 : GH) =>
    if x4 = (nI 0) then
      Q.1 (-nI 1) G3
    else
      ∃ (fs5 : List Value) (r6 : Nat), G3.2 t = some (.inl (10, fs5)) ∧ fs5[0]? = some (.ref r6) ∧
      CV M_Rd_writeFour [.ref r6, .int a1] G3 (fun (G7 : GH) =>
        ∃ (fs8 : List Value) (r9 : Nat), G7.2 t = some (.inl (10, fs8)) ∧ fs8[0]? = some (.ref r9) ∧
        CV M_Rd_writeFour [.ref r9, .int a2] G7 (fun (G10 : GH) =>
          ∃ (fs11 : List Value) (r12 : Nat), G10.2 t = some (.inl (10, fs11)) ∧ fs11[0]? = some (.ref r12) ∧
          CV M_Rd_writeFour [.ref r12, .int a3] G10 (fun (G13 : GH) =>
            ∃ (fs14 : List Value) (r15 : Nat), G13.2 t = some (.inl (10, fs14)) ∧ fs14[0]? = some (.ref r15) ∧
            CV M_Rd_writeFour [.ref r15, .int a4] G13 (fun (G16 : GH) =>
              ∃ (fs17 : List Value) (r18 : Nat), G16.2 t = some (.inl (10, fs17)) ∧ fs17[0]? = some (.ref r18) ∧
              CV M_Rd_writeFour [.ref r18, .int a5] G16 (fun (G19 : GH) =>
                ∃ (fs20 : List Value) (r21 : Nat), G19.2 t = some (.inl (10, fs20)) ∧ fs20[0]? = some (.ref r21) ∧
                ∃ (fs22 : List Value) (x23 : Int32), G19.2 r21 = some (.inl (6, fs22)) ∧ fs22[0]? = some (.int x23) ∧
                Q.1 x23 G19) gNo) gNo) gNo) gNo) gNo) gNo
set_option maxRecDepth 100000 in
theorem V_TD_append_0_ok {t : Nat} {a1 : Int32} {a2 : Int32} {a3 : Int32} {a4 : Int32} {a5 : Int32} {G : GH} {Q : GQ} (h : V_TD_append_0 t a1 a2 a3 a4 a5 G Q) : WP M_TD_append 0 0 0 [some (.ref t), some (.int a1), some (.int a2), some (.int a3), some (.int a4), some (.int a5)] [] G Q := WP.ofV (T := T_TD_append) (hh := []) rfl rfl [] 35 h
theorem E_TD_append {t : Nat} {a1 : Int32} {a2 : Int32} {a3 : Int32} {a4 : Int32} {a5 : Int32} {G : GH} {K : Int32 → GH → Prop} {KX : String → GH → Prop} (h : V_TD_append_0 t a1 a2 a3 a4 a5 G (gQi K KX)) : CI M_TD_append [.ref t, .int a1, .int a2, .int a3, .int a4, .int a5] G K KX := CI.of rfl rfl rfl (V_TD_append_0_ok h)
def V_TD_truncateInput_0 (t : Nat) (a1 : Int32) (G : GH) (Q : GQ) : Prop :=
  if a1 < (nI 0) then
    1 ≤ 1 ∧ 6 ≤ 6 ∧ Q.2.2.2.2.2 "java/lang/IllegalArgumentException" (gDirty G)
  else
    ∃ (fs1 : List Value) (r2 : Nat), G.2 t = some (.inl (10, fs1)) ∧ fs1[0]? = some (.ref r2) ∧
    ∃ (fs3 : List Value) (x4 : Int32), G.2 r2 = some (.inl (6, fs3)) ∧ fs3[0]? = some (.int x4) ∧
    if x4 < a1 then
      1 ≤ 1 ∧ 6 ≤ 6 ∧ Q.2.2.2.2.2 "java/lang/IllegalArgumentException" (gDirty G)
    else
      ∃ (fs5 : List Value) (r6 : Nat), G.2 t = some (.inl (10, fs5)) ∧ fs5[0]? = some (.ref r6) ∧
      r6 < gRB ∧ ∃ (fs7 : List Value), G.2 r6 = some (.inl (6, fs7)) ∧ gFit 0 (.int a1) ∧
      let G8 : GH := gU G r6 (.inl (6, fs7.set 0 (.int a1)));
      Q.1 a1 G8
set_option maxRecDepth 100000 in
theorem V_TD_truncateInput_0_ok {t : Nat} {a1 : Int32} {G : GH} {Q : GQ} (h : V_TD_truncateInput_0 t a1 G Q) : WP M_TD_truncateInput 1 6 0 [some (.ref t), some (.int a1)] [] G Q := WP.ofV (T := T_TD_truncateInput) (hh := []) rfl rfl [] 19 h
theorem E_TD_truncateInput {t : Nat} {a1 : Int32} {G : GH} {K : Int32 → GH → Prop} {KX : String → GH → Prop} (h : V_TD_truncateInput_0 t a1 G (gQi K KX)) : CI M_TD_truncateInput [.ref t, .int a1] G K KX := CI.of rfl rfl rfl (V_TD_truncateInput_0_ok h)
def V_TD_load_0 (t : Nat) (G : GH) (Q : GQ) : Prop :=
  ∃ (fs1 : List Value) (r2 : Nat), G.2 t = some (.inl (10, fs1)) ∧ fs1[0]? = some (.ref r2) ∧
  CV M_Rd_startSetup [.ref r2] G (fun (G3 : GH) =>
    ∃ (fs4 : List Value) (r5 : Nat), G3.2 t = some (.inl (10, fs4)) ∧ fs4[0]? = some (.ref r5) ∧
    CI M_Rd_readSetup [.ref r5] G3 (fun (x7 : Int32) (G6 : GH) =>
      if x7 = (nI 0) then
        WP M_TD_load 0 0 32 [some (.ref t), none] [.int (nI 0)] G6 Q
      else
        ∃ (fs8 : List Value) (r9 : Nat), G6.2 t = some (.inl (10, fs8)) ∧ fs8[0]? = some (.ref r9) ∧
        CI M_Rd_readCommands [.ref r9] G6 (fun (x11 : Int32) (G10 : GH) =>
          if x11 = (nI 0) then
            WP M_TD_load 0 0 32 [some (.ref t), none] [.int (nI 0)] G10 Q
          else
            WP M_TD_load 0 0 32 [some (.ref t), none] [.int (nI 1)] G10 Q) gNo) gNo) gNo
set_option maxRecDepth 100000 in
theorem V_TD_load_0_ok {t : Nat} {G : GH} {Q : GQ} (h : V_TD_load_0 t G Q) : WP M_TD_load 0 0 0 [some (.ref t), none] [] G Q := WP.ofV (T := T_TD_load) (hh := []) rfl rfl [(32, [true, false])] 44 h
theorem E_TD_load {t : Nat} {G : GH} {K : Int32 → GH → Prop} {KX : String → GH → Prop} (h : V_TD_load_0 t G (gQi K KX)) : CI M_TD_load [.ref t] G K KX := CI.of rfl rfl rfl (V_TD_load_0_ok h)
def V_TD_load_32 (t : Nat) (s0 : Int32) (G : GH) (Q : GQ) : Prop :=
  ∃ (fs1 : List Value) (r2 : Nat), G.2 t = some (.inl (10, fs1)) ∧ fs1[0]? = some (.ref r2) ∧
  CV M_Rd_clear [.ref r2] G (fun (G3 : GH) =>
    if s0 = (nI 0) then
      Q.1 (-nI 1) G3
    else
      ∃ (fs4 : List Value) (r5 : Nat), G3.2 t = some (.inl (10, fs4)) ∧ fs4[3]? = some (.ref r5) ∧
      ∃ (fs6 : List Value) (r7 : Nat), G3.2 t = some (.inl (10, fs6)) ∧ fs6[1]? = some (.ref r7) ∧
      CV M_Hi_remember [.ref r5, .ref r7] G3 (fun (G8 : GH) =>
        ∃ (fs9 : List Value) (r10 : Nat), G8.2 t = some (.inl (10, fs9)) ∧ fs9[1]? = some (.ref r10) ∧
        ∃ (fs11 : List Value) (r12 : Nat), G8.2 t = some (.inl (10, fs11)) ∧ fs11[0]? = some (.ref r12) ∧
        ∃ (fs13 : List Value) (r14 : Nat), G8.2 r12 = some (.inl (6, fs13)) ∧ fs13[4]? = some (.ref r14) ∧
        CV M_St_copyFrom [.ref r10, .ref r14] G8 (fun (G15 : GH) =>
          ∃ (fs16 : List Value) (r17 : Nat), G15.2 t = some (.inl (10, fs16)) ∧ fs16[1]? = some (.ref r17) ∧
          ∃ (fs18 : List Value) (r19 : Nat), G15.2 r17 = some (.inl (8, fs18)) ∧ fs18[0]? = some (.ref r19) ∧
          CI M_Tk_countCells [.ref r19, .int (-nI 1)] G15 (fun (x21 : Int32) (G20 : GH) =>
            Q.1 x21 G20) gNo) gNo) gNo) gNo
set_option maxRecDepth 100000 in
theorem V_TD_load_32_ok {t : Nat} {s0 : Int32} {G : GH} {Q : GQ} (h : V_TD_load_32 t s0 G Q) : WP M_TD_load 0 0 32 [some (.ref t), none] [.int s0] G Q := WP.ofV (T := T_TD_load) (hh := []) rfl rfl [(32, [true, false])] 44 h
def V_TD_play_0 (t : Nat) (G : GH) (Q : GQ) : Prop :=
  ∃ (fs1 : List Value) (r2 : Nat), G.2 t = some (.inl (10, fs1)) ∧ fs1[0]? = some (.ref r2) ∧
  ∃ (fs3 : List Value) (r4 : Nat), G.2 t = some (.inl (10, fs3)) ∧ fs3[1]? = some (.ref r4) ∧
  CV M_Rd_startScript [.ref r2, .ref r4] G (fun (G5 : GH) =>
    ∃ (fs6 : List Value) (r7 : Nat), G5.2 t = some (.inl (10, fs6)) ∧ fs6[0]? = some (.ref r7) ∧
    CI M_Rd_readCommands [.ref r7] G5 (fun (x9 : Int32) (G8 : GH) =>
      ∃ (fs10 : List Value) (r11 : Nat), G8.2 t = some (.inl (10, fs10)) ∧ fs10[0]? = some (.ref r11) ∧
      CV M_Rd_clear [.ref r11] G8 (fun (G12 : GH) =>
        if x9 = (nI 0) then
          Q.1 (-nI 1) G12
        else
          ∃ (fs13 : List Value) (r14 : Nat), G12.2 t = some (.inl (10, fs13)) ∧ fs13[3]? = some (.ref r14) ∧
          ∃ (fs15 : List Value) (r16 : Nat), G12.2 t = some (.inl (10, fs15)) ∧ fs15[1]? = some (.ref r16) ∧
          CV M_Hi_remember [.ref r14, .ref r16] G12 (fun (G17 : GH) =>
            ∃ (fs18 : List Value) (r19 : Nat), G17.2 t = some (.inl (10, fs18)) ∧ fs18[1]? = some (.ref r19) ∧
            ∃ (fs20 : List Value) (r21 : Nat), G17.2 t = some (.inl (10, fs20)) ∧ fs20[0]? = some (.ref r21) ∧
            ∃ (fs22 : List Value) (r23 : Nat), G17.2 r21 = some (.inl (6, fs22)) ∧ fs22[4]? = some (.ref r23) ∧
            CV M_St_copyFrom [.ref r19, .ref r23] G17 (fun (G24 : GH) =>
              ∃ (fs25 : List Value) (r26 : Nat), G24.2 t = some (.inl (10, fs25)) ∧ fs25[0]? = some (.ref r26) ∧
              ∃ (fs27 : List Value) (x28 : Int32), G24.2 r26 = some (.inl (6, fs27)) ∧ fs27[3]? = some (.int x28) ∧
              Q.1 x28 G24) gNo) gNo) gNo) gNo) gNo
set_option maxRecDepth 100000 in
theorem V_TD_play_0_ok {t : Nat} {G : GH} {Q : GQ} (h : V_TD_play_0 t G Q) : WP M_TD_play 0 0 0 [some (.ref t), none] [] G Q := WP.ofV (T := T_TD_play) (hh := []) rfl rfl [] 36 h
theorem E_TD_play {t : Nat} {G : GH} {K : Int32 → GH → Prop} {KX : String → GH → Prop} (h : V_TD_play_0 t G (gQi K KX)) : CI M_TD_play [.ref t] G K KX := CI.of rfl rfl rfl (V_TD_play_0_ok h)
def V_TD_errorCode_0 (t : Nat) (G : GH) (Q : GQ) : Prop :=
  ∃ (fs1 : List Value) (r2 : Nat), G.2 t = some (.inl (10, fs1)) ∧ fs1[0]? = some (.ref r2) ∧
  ∃ (fs3 : List Value) (x4 : Int32), G.2 r2 = some (.inl (6, fs3)) ∧ fs3[1]? = some (.int x4) ∧
  Q.1 x4 G
set_option maxRecDepth 100000 in
theorem V_TD_errorCode_0_ok {t : Nat} {G : GH} {Q : GQ} (h : V_TD_errorCode_0 t G Q) : WP M_TD_errorCode 0 0 0 [some (.ref t)] [] G Q := WP.ofV (T := T_TD_errorCode) (hh := []) rfl rfl [] 9 h
theorem E_TD_errorCode {t : Nat} {G : GH} {K : Int32 → GH → Prop} {KX : String → GH → Prop} (h : V_TD_errorCode_0 t G (gQi K KX)) : CI M_TD_errorCode [.ref t] G K KX := CI.of rfl rfl rfl (V_TD_errorCode_0_ok h)
def V_TD_errorOffset_0 (t : Nat) (G : GH) (Q : GQ) : Prop :=
  ∃ (fs1 : List Value) (r2 : Nat), G.2 t = some (.inl (10, fs1)) ∧ fs1[0]? = some (.ref r2) ∧
  ∃ (fs3 : List Value) (x4 : Int32), G.2 r2 = some (.inl (6, fs3)) ∧ fs3[2]? = some (.int x4) ∧
  Q.1 x4 G
set_option maxRecDepth 100000 in
theorem V_TD_errorOffset_0_ok {t : Nat} {G : GH} {Q : GQ} (h : V_TD_errorOffset_0 t G Q) : WP M_TD_errorOffset 0 0 0 [some (.ref t)] [] G Q := WP.ofV (T := T_TD_errorOffset) (hh := []) rfl rfl [] 9 h
theorem E_TD_errorOffset {t : Nat} {G : GH} {K : Int32 → GH → Prop} {KX : String → GH → Prop} (h : V_TD_errorOffset_0 t G (gQi K KX)) : CI M_TD_errorOffset [.ref t] G K KX := CI.of rfl rfl rfl (V_TD_errorOffset_0_ok h)
def V_TD_place_0 (t : Nat) (a1 : Int32) (a2 : Int32) (a3 : Int32) (a4 : Int32) (G : GH) (Q : GQ) : Prop :=
  bif Nat.ble 3 4 && (Nat.ble 18 24 && Nat.ble (gCat []) 8) then CV M_TD_aimAt [.ref t, .int a1, .int a2, .int a3, .int a4] G (fun (G1 : GH) =>
    ∃ (fs2 : List Value) (r3 : Nat), G1.2 t = some (.inl (10, fs2)) ∧ fs2[1]? = some (.ref r3) ∧
    ∃ (fs4 : List Value) (r5 : Nat), G1.2 t = some (.inl (10, fs4)) ∧ fs4[6]? = some (.ref r5) ∧
    CI M_St_allowsPiece [.ref r3, .ref r5] G1 (fun (x7 : Int32) (G6 : GH) =>
      if x7 = (nI 0) then
        1 ≤ 1 ∧ 6 ≤ 6 ∧ Q.2.2.2.2.2 "java/lang/IllegalStateException" (gDirty G6)
      else
        ∃ (fs8 : List Value) (r9 : Nat), G6.2 t = some (.inl (10, fs8)) ∧ fs8[3]? = some (.ref r9) ∧
        ∃ (fs10 : List Value) (r11 : Nat), G6.2 t = some (.inl (10, fs10)) ∧ fs10[1]? = some (.ref r11) ∧
        CV M_Hi_remember [.ref r9, .ref r11] G6 (fun (G12 : GH) =>
          ∃ (fs13 : List Value) (r14 : Nat), G12.2 t = some (.inl (10, fs13)) ∧ fs13[1]? = some (.ref r14) ∧
          ∃ (fs15 : List Value) (r16 : Nat), G12.2 t = some (.inl (10, fs15)) ∧ fs15[6]? = some (.ref r16) ∧
          CI M_St_putPiece [.ref r14, .ref r16] G12 (fun (x18 : Int32) (G17 : GH) =>
            Q.1 x18 G17) gNo) gNo) gNo) (fun (E : String) (G : GH) => Q.2.2.2.2.2 E G) else False
set_option maxRecDepth 100000 in
theorem V_TD_place_0_ok {t : Nat} {a1 : Int32} {a2 : Int32} {a3 : Int32} {a4 : Int32} {G : GH} {Q : GQ} (h : V_TD_place_0 t a1 a2 a3 a4 G Q) : WP M_TD_place 4 24 0 [some (.ref t), some (.int a1), some (.int a2), some (.int a3), some (.int a4)] [] G Q := WP.ofV (T := T_TD_place) (hh := []) rfl rfl [] 29 h
theorem E_TD_place {t : Nat} {a1 : Int32} {a2 : Int32} {a3 : Int32} {a4 : Int32} {G : GH} {K : Int32 → GH → Prop} {KX : String → GH → Prop} (h : V_TD_place_0 t a1 a2 a3 a4 G (gQi K KX)) : CI M_TD_place [.ref t, .int a1, .int a2, .int a3, .int a4] G K KX := CI.of rfl rfl rfl (V_TD_place_0_ok h)
def V_TD_fastenStrap_0 (t : Nat) (a1 : Int32) (a2 : Int32) (a3 : Int32) (G : GH) (Q : GQ) : Prop :=
  bif Nat.ble 2 3 && (Nat.ble 12 18 && Nat.ble (gCat []) 8) then CV M_TD_requireEdge [.ref t, .int a1, .int a2, .int a3] G (fun (G1 : GH) =>
    ∃ (fs2 : List Value) (r3 : Nat), G1.2 t = some (.inl (10, fs2)) ∧ fs2[1]? = some (.ref r3) ∧
    CI M_St_allowsStrap [.ref r3, .int a1, .int a2, .int a3] G1 (fun (x5 : Int32) (G4 : GH) =>
      if x5 = (nI 0) then
        1 ≤ 1 ∧ 6 ≤ 6 ∧ Q.2.2.2.2.2 "java/lang/IllegalStateException" (gDirty G4)
      else
        ∃ (fs6 : List Value) (r7 : Nat), G4.2 t = some (.inl (10, fs6)) ∧ fs6[3]? = some (.ref r7) ∧
        ∃ (fs8 : List Value) (r9 : Nat), G4.2 t = some (.inl (10, fs8)) ∧ fs8[1]? = some (.ref r9) ∧
        CV M_Hi_remember [.ref r7, .ref r9] G4 (fun (G10 : GH) =>
          ∃ (fs11 : List Value) (r12 : Nat), G10.2 t = some (.inl (10, fs11)) ∧ fs11[1]? = some (.ref r12) ∧
          CI M_St_putStrap [.ref r12, .int a1, .int a2, .int a3] G10 (fun (x14 : Int32) (G13 : GH) =>
            Q.1 x14 G13) gNo) gNo) gNo) (fun (E : String) (G : GH) => Q.2.2.2.2.2 E G) else False
set_option maxRecDepth 100000 in
theorem V_TD_fastenStrap_0_ok {t : Nat} {a1 : Int32} {a2 : Int32} {a3 : Int32} {G : GH} {Q : GQ} (h : V_TD_fastenStrap_0 t a1 a2 a3 G Q) : WP M_TD_fastenStrap 3 18 0 [some (.ref t), some (.int a1), some (.int a2), some (.int a3)] [] G Q := WP.ofV (T := T_TD_fastenStrap) (hh := []) rfl rfl [] 30 h
theorem E_TD_fastenStrap {t : Nat} {a1 : Int32} {a2 : Int32} {a3 : Int32} {G : GH} {K : Int32 → GH → Prop} {KX : String → GH → Prop} (h : V_TD_fastenStrap_0 t a1 a2 a3 G (gQi K KX)) : CI M_TD_fastenStrap [.ref t, .int a1, .int a2, .int a3] G K KX := CI.of rfl rfl rfl (V_TD_fastenStrap_0_ok h)
def V_TD_pass_0 (t : Nat) (G : GH) (Q : GQ) : Prop :=
  ∃ (fs1 : List Value) (r2 : Nat), G.2 t = some (.inl (10, fs1)) ∧ fs1[1]? = some (.ref r2) ∧
  ∃ (fs3 : List Value) (r4 : Nat), G.2 t = some (.inl (10, fs3)) ∧ fs3[6]? = some (.ref r4) ∧
  CI M_St_allowsPass [.ref r2, .ref r4] G (fun (x6 : Int32) (G5 : GH) =>
    if x6 = (nI 0) then
      1 ≤ 1 ∧ 6 ≤ 6 ∧ Q.2.2.2.2.2 "java/lang/IllegalStateException" (gDirty G5)
    else
      ∃ (fs7 : List Value) (r8 : Nat), G5.2 t = some (.inl (10, fs7)) ∧ fs7[3]? = some (.ref r8) ∧
      ∃ (fs9 : List Value) (r10 : Nat), G5.2 t = some (.inl (10, fs9)) ∧ fs9[1]? = some (.ref r10) ∧
      CV M_Hi_remember [.ref r8, .ref r10] G5 (fun (G11 : GH) =>
        ∃ (fs12 : List Value) (r13 : Nat), G11.2 t = some (.inl (10, fs12)) ∧ fs12[1]? = some (.ref r13) ∧
        CI M_St_skipTurn [.ref r13] G11 (fun (x15 : Int32) (G14 : GH) =>
          Q.1 x15 G14) gNo) gNo) gNo
set_option maxRecDepth 100000 in
theorem V_TD_pass_0_ok {t : Nat} {G : GH} {Q : GQ} (h : V_TD_pass_0 t G Q) : WP M_TD_pass 1 6 0 [some (.ref t)] [] G Q := WP.ofV (T := T_TD_pass) (hh := []) rfl rfl [] 21 h
theorem E_TD_pass {t : Nat} {G : GH} {K : Int32 → GH → Prop} {KX : String → GH → Prop} (h : V_TD_pass_0 t G (gQi K KX)) : CI M_TD_pass [.ref t] G K KX := CI.of rfl rfl rfl (V_TD_pass_0_ok h)
def V_TD_undo_0 (t : Nat) (G : GH) (Q : GQ) : Prop :=
  ∃ (fs1 : List Value) (r2 : Nat), G.2 t = some (.inl (10, fs1)) ∧ fs1[3]? = some (.ref r2) ∧
  ∃ (fs3 : List Value) (x4 : Int32), G.2 r2 = some (.inl (3, fs3)) ∧ fs3[0]? = some (.int x4) ∧
  if x4 = (nI 0) then
    1 ≤ 1 ∧ 6 ≤ 6 ∧ Q.2.2.2.2.2 "java/lang/IllegalStateException" (gDirty G)
  else
    ∃ (fs5 : List Value) (r6 : Nat), G.2 t = some (.inl (10, fs5)) ∧ fs5[3]? = some (.ref r6) ∧
    ∃ (fs7 : List Value) (r8 : Nat), G.2 t = some (.inl (10, fs7)) ∧ fs7[1]? = some (.ref r8) ∧
    CV M_Hi_bringBack [.ref r6, .ref r8] G (fun (G9 : GH) =>
      ∃ (fs10 : List Value) (r11 : Nat), G9.2 t = some (.inl (10, fs10)) ∧ fs10[3]? = some (.ref r11) ∧
      ∃ (fs12 : List Value) (x13 : Int32), G9.2 r11 = some (.inl (3, fs12)) ∧ fs12[0]? = some (.int x13) ∧
      Q.1 x13 G9) gNo
set_option maxRecDepth 100000 in
theorem V_TD_undo_0_ok {t : Nat} {G : GH} {Q : GQ} (h : V_TD_undo_0 t G Q) : WP M_TD_undo 1 6 0 [some (.ref t)] [] G Q := WP.ofV (T := T_TD_undo) (hh := []) rfl rfl [] 19 h
theorem E_TD_undo {t : Nat} {G : GH} {K : Int32 → GH → Prop} {KX : String → GH → Prop} (h : V_TD_undo_0 t G (gQi K KX)) : CI M_TD_undo [.ref t] G K KX := CI.of rfl rfl rfl (V_TD_undo_0_ok h)
def V_TD_save_0 (t : Nat) (a1 : Int32) (G : GH) (Q : GQ) : Prop :=
  bif Nat.ble 1 1 && (Nat.ble 6 6 && Nat.ble (gCat []) 8) then CV M_TD_requireSlot [.int a1] G (fun (G1 : GH) =>
    ∃ (fs2 : List Value) (r3 : Nat), G1.2 t = some (.inl (10, fs2)) ∧ fs2[4]? = some (.ref r3) ∧
    r3 < gRB ∧ ∃ (C4 : String) (m5 : Nat) (f6 : Nat → Option Nat) (r7 : Nat), G1.2 r3 = some (.inr (.object C4, m5, .inr (.inr (.inr (.inr f6))))) ∧ vp_in a1 m5 ∧ f6 (a1).toNatClampNeg = some r7 ∧
    ∃ (fs8 : List Value) (r9 : Nat), G1.2 t = some (.inl (10, fs8)) ∧ fs8[1]? = some (.ref r9) ∧
    CV M_St_copyFrom [.ref r7, .ref r9] G1 (fun (G10 : GH) =>
      ∃ (fs11 : List Value) (r12 : Nat), G10.2 t = some (.inl (10, fs11)) ∧ fs11[5]? = some (.ref r12) ∧
      r12 < gRB ∧ ((nI 1) = nI 0 ∨ (nI 1) = nI 1) ∧ ∃ (m13 : Nat) (f14 : Nat → Int32), G10.2 r12 = some (.inr (.boolean, m13, .inl f14)) ∧ vp_in a1 m13 ∧
      let G15 : GH := gU G10 r12 (.inr (.boolean, m13, .inl (upd f14 (a1).toNatClampNeg (nI 1))));
      ∃ (fs16 : List Value) (r17 : Nat), G15.2 t = some (.inl (10, fs16)) ∧ fs16[1]? = some (.ref r17) ∧
      ∃ (fs18 : List Value) (r19 : Nat), G15.2 r17 = some (.inl (8, fs18)) ∧ fs18[1]? = some (.ref r19) ∧
      ∃ (fs20 : List Value) (x21 : Int32), G15.2 r19 = some (.inl (4, fs20)) ∧ fs20[0]? = some (.int x21) ∧
      Q.1 x21 G15) gNo) (fun (E : String) (G : GH) => Q.2.2.2.2.2 E G) else False
set_option maxRecDepth 100000 in
theorem V_TD_save_0_ok {t : Nat} {a1 : Int32} {G : GH} {Q : GQ} (h : V_TD_save_0 t a1 G Q) : WP M_TD_save 1 6 0 [some (.ref t), some (.int a1)] [] G Q := WP.ofV (T := T_TD_save) (hh := []) rfl rfl [] 24 h
theorem E_TD_save {t : Nat} {a1 : Int32} {G : GH} {K : Int32 → GH → Prop} {KX : String → GH → Prop} (h : V_TD_save_0 t a1 G (gQi K KX)) : CI M_TD_save [.ref t, .int a1] G K KX := CI.of rfl rfl rfl (V_TD_save_0_ok h)
def V_TD_restore_0 (t : Nat) (a1 : Int32) (G : GH) (Q : GQ) : Prop :=
  bif Nat.ble 1 2 && (Nat.ble 6 12 && Nat.ble (gCat []) 8) then CV M_TD_requireSlot [.int a1] G (fun (G1 : GH) =>
    ∃ (fs2 : List Value) (r3 : Nat), G1.2 t = some (.inl (10, fs2)) ∧ fs2[5]? = some (.ref r3) ∧
    r3 < gRB ∧ ∃ (m4 : Nat) (f5 : Nat → Int32), G1.2 r3 = some (.inr (.boolean, m4, .inl f5)) ∧ vp_in a1 m4 ∧
    if (f5 (a1).toNatClampNeg) = (nI 0) then
      1 ≤ 1 ∧ 6 ≤ 6 ∧ Q.2.2.2.2.2 "java/lang/IllegalStateException" (gDirty G1)
    else
      ∃ (fs6 : List Value) (r7 : Nat), G1.2 t = some (.inl (10, fs6)) ∧ fs6[3]? = some (.ref r7) ∧
      ∃ (fs8 : List Value) (r9 : Nat), G1.2 t = some (.inl (10, fs8)) ∧ fs8[1]? = some (.ref r9) ∧
      CV M_Hi_remember [.ref r7, .ref r9] G1 (fun (G10 : GH) =>
        ∃ (fs11 : List Value) (r12 : Nat), G10.2 t = some (.inl (10, fs11)) ∧ fs11[1]? = some (.ref r12) ∧
        ∃ (fs13 : List Value) (r14 : Nat), G10.2 t = some (.inl (10, fs13)) ∧ fs13[4]? = some (.ref r14) ∧
        r14 < gRB ∧ ∃ (C15 : String) (m16 : Nat) (f17 : Nat → Option Nat) (r18 : Nat), G10.2 r14 = some (.inr (.object C15, m16, .inr (.inr (.inr (.inr f17))))) ∧ vp_in a1 m16 ∧ f17 (a1).toNatClampNeg = some r18 ∧
        CV M_St_copyFrom [.ref r12, .ref r18] G10 (fun (G19 : GH) =>
          ∃ (fs20 : List Value) (r21 : Nat), G19.2 t = some (.inl (10, fs20)) ∧ fs20[1]? = some (.ref r21) ∧
          ∃ (fs22 : List Value) (r23 : Nat), G19.2 r21 = some (.inl (8, fs22)) ∧ fs22[1]? = some (.ref r23) ∧
          ∃ (fs24 : List Value) (x25 : Int32), G19.2 r23 = some (.inl (4, fs24)) ∧ fs24[0]? = some (.int x25) ∧
          Q.1 x25 G19) gNo) gNo) (fun (E : String) (G : GH) => Q.2.2.2.2.2 E G) else False
set_option maxRecDepth 100000 in
theorem V_TD_restore_0_ok {t : Nat} {a1 : Int32} {G : GH} {Q : GQ} (h : V_TD_restore_0 t a1 G Q) : WP M_TD_restore 2 12 0 [some (.ref t), some (.int a1)] [] G Q := WP.ofV (T := T_TD_restore) (hh := []) rfl rfl [] 30 h
theorem E_TD_restore {t : Nat} {a1 : Int32} {G : GH} {K : Int32 → GH → Prop} {KX : String → GH → Prop} (h : V_TD_restore_0 t a1 G (gQi K KX)) : CI M_TD_restore [.ref t, .int a1] G K KX := CI.of rfl rfl rfl (V_TD_restore_0_ok h)
def V_TD_columns_0 (t : Nat) (G : GH) (Q : GQ) : Prop :=
  ∃ (fs1 : List Value) (r2 : Nat), G.2 t = some (.inl (10, fs1)) ∧ fs1[1]? = some (.ref r2) ∧
  ∃ (fs3 : List Value) (r4 : Nat), G.2 r2 = some (.inl (8, fs3)) ∧ fs3[0]? = some (.ref r4) ∧
  ∃ (fs5 : List Value) (x6 : Int32), G.2 r4 = some (.inl (9, fs5)) ∧ fs5[0]? = some (.int x6) ∧
  Q.1 x6 G
set_option maxRecDepth 100000 in
theorem V_TD_columns_0_ok {t : Nat} {G : GH} {Q : GQ} (h : V_TD_columns_0 t G Q) : WP M_TD_columns 0 0 0 [some (.ref t)] [] G Q := WP.ofV (T := T_TD_columns) (hh := []) rfl rfl [] 10 h
theorem E_TD_columns {t : Nat} {G : GH} {K : Int32 → GH → Prop} {KX : String → GH → Prop} (h : V_TD_columns_0 t G (gQi K KX)) : CI M_TD_columns [.ref t] G K KX := CI.of rfl rfl rfl (V_TD_columns_0_ok h)
def V_TD_rows_0 (t : Nat) (G : GH) (Q : GQ) : Prop :=
  ∃ (fs1 : List Value) (r2 : Nat), G.2 t = some (.inl (10, fs1)) ∧ fs1[1]? = some (.ref r2) ∧
  ∃ (fs3 : List Value) (r4 : Nat), G.2 r2 = some (.inl (8, fs3)) ∧ fs3[0]? = some (.ref r4) ∧
  ∃ (fs5 : List Value) (x6 : Int32), G.2 r4 = some (.inl (9, fs5)) ∧ fs5[1]? = some (.int x6) ∧
  Q.1 x6 G
set_option maxRecDepth 100000 in
theorem V_TD_rows_0_ok {t : Nat} {G : GH} {Q : GQ} (h : V_TD_rows_0 t G Q) : WP M_TD_rows 0 0 0 [some (.ref t)] [] G Q := WP.ofV (T := T_TD_rows) (hh := []) rfl rfl [] 10 h
theorem E_TD_rows {t : Nat} {G : GH} {K : Int32 → GH → Prop} {KX : String → GH → Prop} (h : V_TD_rows_0 t G (gQi K KX)) : CI M_TD_rows [.ref t] G K KX := CI.of rfl rfl rfl (V_TD_rows_0_ok h)
def V_TD_emptyCells_0 (t : Nat) (G : GH) (Q : GQ) : Prop :=
  ∃ (fs1 : List Value) (r2 : Nat), G.2 t = some (.inl (10, fs1)) ∧ fs1[1]? = some (.ref r2) ∧
  ∃ (fs3 : List Value) (r4 : Nat), G.2 r2 = some (.inl (8, fs3)) ∧ fs3[0]? = some (.ref r4) ∧
  CI M_Tk_countCells [.ref r4, .int (-nI 1)] G (fun (x6 : Int32) (G5 : GH) =>
    Q.1 x6 G5) gNo
set_option maxRecDepth 100000 in
theorem V_TD_emptyCells_0_ok {t : Nat} {G : GH} {Q : GQ} (h : V_TD_emptyCells_0 t G Q) : WP M_TD_emptyCells 0 0 0 [some (.ref t)] [] G Q := WP.ofV (T := T_TD_emptyCells) (hh := []) rfl rfl [] 11 h
theorem E_TD_emptyCells {t : Nat} {G : GH} {K : Int32 → GH → Prop} {KX : String → GH → Prop} (h : V_TD_emptyCells_0 t G (gQi K KX)) : CI M_TD_emptyCells [.ref t] G K KX := CI.of rfl rfl rfl (V_TD_emptyCells_0_ok h)
def V_TD_pieceCount_0 (t : Nat) (G : GH) (Q : GQ) : Prop :=
  ∃ (fs1 : List Value) (r2 : Nat), G.2 t = some (.inl (10, fs1)) ∧ fs1[1]? = some (.ref r2) ∧
  ∃ (fs3 : List Value) (r4 : Nat), G.2 r2 = some (.inl (8, fs3)) ∧ fs3[1]? = some (.ref r4) ∧
  ∃ (fs5 : List Value) (x6 : Int32), G.2 r4 = some (.inl (4, fs5)) ∧ fs5[0]? = some (.int x6) ∧
  Q.1 x6 G
set_option maxRecDepth 100000 in
theorem V_TD_pieceCount_0_ok {t : Nat} {G : GH} {Q : GQ} (h : V_TD_pieceCount_0 t G Q) : WP M_TD_pieceCount 0 0 0 [some (.ref t)] [] G Q := WP.ofV (T := T_TD_pieceCount) (hh := []) rfl rfl [] 10 h
theorem E_TD_pieceCount {t : Nat} {G : GH} {K : Int32 → GH → Prop} {KX : String → GH → Prop} (h : V_TD_pieceCount_0 t G (gQi K KX)) : CI M_TD_pieceCount [.ref t] G K KX := CI.of rfl rfl rfl (V_TD_pieceCount_0_ok h)
def V_TD_strapCount_0 (t : Nat) (G : GH) (Q : GQ) : Prop :=
  ∃ (fs1 : List Value) (r2 : Nat), G.2 t = some (.inl (10, fs1)) ∧ fs1[1]? = some (.ref r2) ∧
  ∃ (fs3 : List Value) (r4 : Nat), G.2 r2 = some (.inl (8, fs3)) ∧ fs3[0]? = some (.ref r4) ∧
  CI M_Tk_countStraps [.ref r4] G (fun (x6 : Int32) (G5 : GH) =>
    Q.1 x6 G5) gNo
set_option maxRecDepth 100000 in
theorem V_TD_strapCount_0_ok {t : Nat} {G : GH} {Q : GQ} (h : V_TD_strapCount_0 t G Q) : WP M_TD_strapCount 0 0 0 [some (.ref t)] [] G Q := WP.ofV (T := T_TD_strapCount) (hh := []) rfl rfl [] 10 h
theorem E_TD_strapCount {t : Nat} {G : GH} {K : Int32 → GH → Prop} {KX : String → GH → Prop} (h : V_TD_strapCount_0 t G (gQi K KX)) : CI M_TD_strapCount [.ref t] G K KX := CI.of rfl rfl rfl (V_TD_strapCount_0_ok h)
def V_TD_completeRows_0 (t : Nat) (G : GH) (Q : GQ) : Prop :=
  WP M_TD_completeRows 0 0 4 [some (.ref t), some (.int (nI 0)), some (.int (nI 0))] [] G Q
set_option maxRecDepth 100000 in
theorem V_TD_completeRows_0_ok {t : Nat} {G : GH} {Q : GQ} (h : V_TD_completeRows_0 t G Q) : WP M_TD_completeRows 0 0 0 [some (.ref t), none, none] [] G Q := WP.ofV (T := T_TD_completeRows) (hh := []) rfl rfl [(4, [true, true, true])] 26 h
theorem E_TD_completeRows {t : Nat} {G : GH} {K : Int32 → GH → Prop} {KX : String → GH → Prop} (h : V_TD_completeRows_0 t G (gQi K KX)) : CI M_TD_completeRows [.ref t] G K KX := CI.of rfl rfl rfl (V_TD_completeRows_0_ok h)
def V_TD_completeRows_4 (t : Nat) (a1 : Int32) (a2 : Int32) (G : GH) (Q : GQ) : Prop :=
  ∃ (fs1 : List Value) (r2 : Nat), G.2 t = some (.inl (10, fs1)) ∧ fs1[1]? = some (.ref r2) ∧
  ∃ (fs3 : List Value) (r4 : Nat), G.2 r2 = some (.inl (8, fs3)) ∧ fs3[0]? = some (.ref r4) ∧
  ∃ (fs5 : List Value) (x6 : Int32), G.2 r4 = some (.inl (9, fs5)) ∧ fs5[1]? = some (.int x6) ∧
  if a2 < x6 then
    ∃ (fs7 : List Value) (r8 : Nat), G.2 t = some (.inl (10, fs7)) ∧ fs7[1]? = some (.ref r8) ∧
    ∃ (fs9 : List Value) (r10 : Nat), G.2 r8 = some (.inl (8, fs9)) ∧ fs9[0]? = some (.ref r10) ∧
    CI M_Tk_countEmptyIn [.ref r10, .int a2] G (fun (x12 : Int32) (G11 : GH) =>
      if x12 = (nI 0) then
        WP M_TD_completeRows 0 0 4 [some (.ref t), some (.int (a1 + nI 1)), some (.int (a2 + nI 1))] [] G11 Q
      else
        WP M_TD_completeRows 0 0 4 [some (.ref t), some (.int a1), some (.int (a2 + nI 1))] [] G11 Q) gNo
  else
    Q.1 a1 G
set_option maxRecDepth 100000 in
theorem V_TD_completeRows_4_ok {t : Nat} {a1 : Int32} {a2 : Int32} {G : GH} {Q : GQ} (h : V_TD_completeRows_4 t a1 a2 G Q) : WP M_TD_completeRows 0 0 4 [some (.ref t), some (.int a1), some (.int a2)] [] G Q := WP.ofV (T := T_TD_completeRows) (hh := []) rfl rfl [(4, [true, true, true])] 26 h
def V_TD_undoableChanges_0 (t : Nat) (G : GH) (Q : GQ) : Prop :=
  ∃ (fs1 : List Value) (r2 : Nat), G.2 t = some (.inl (10, fs1)) ∧ fs1[3]? = some (.ref r2) ∧
  ∃ (fs3 : List Value) (x4 : Int32), G.2 r2 = some (.inl (3, fs3)) ∧ fs3[0]? = some (.int x4) ∧
  Q.1 x4 G
set_option maxRecDepth 100000 in
theorem V_TD_undoableChanges_0_ok {t : Nat} {G : GH} {Q : GQ} (h : V_TD_undoableChanges_0 t G Q) : WP M_TD_undoableChanges 0 0 0 [some (.ref t)] [] G Q := WP.ofV (T := T_TD_undoableChanges) (hh := []) rfl rfl [] 9 h
theorem E_TD_undoableChanges {t : Nat} {G : GH} {K : Int32 → GH → Prop} {KX : String → GH → Prop} (h : V_TD_undoableChanges_0 t G (gQi K KX)) : CI M_TD_undoableChanges [.ref t] G K KX := CI.of rfl rfl rfl (V_TD_undoableChanges_0_ok h)
def V_TD_isBlocked_0 (t : Nat) (a1 : Int32) (a2 : Int32) (G : GH) (Q : GQ) : Prop :=
  bif Nat.ble 1 1 && (Nat.ble 6 6 && Nat.ble (gCat []) 8) then CV M_TD_requireCell [.ref t, .int a1, .int a2] G (fun (G1 : GH) =>
    ∃ (fs2 : List Value) (r3 : Nat), G1.2 t = some (.inl (10, fs2)) ∧ fs2[1]? = some (.ref r3) ∧
    ∃ (fs4 : List Value) (r5 : Nat), G1.2 r3 = some (.inl (8, fs4)) ∧ fs4[0]? = some (.ref r5) ∧
    CI M_Tk_cellAt [.ref r5, .int a1, .int a2] G1 (fun (x7 : Int32) (G6 : GH) =>
      if x7 = (-nI 2) then
        ((nI 1) = nI 0 ∨ (nI 1) = nI 1) ∧ Q.1 (nI 1) G6
      else
        ((nI 0) = nI 0 ∨ (nI 0) = nI 1) ∧ Q.1 (nI 0) G6) gNo) (fun (E : String) (G : GH) => Q.2.2.2.2.2 E G) else False
set_option maxRecDepth 100000 in
theorem V_TD_isBlocked_0_ok {t : Nat} {a1 : Int32} {a2 : Int32} {G : GH} {Q : GQ} (h : V_TD_isBlocked_0 t a1 a2 G Q) : WP M_TD_isBlocked 1 6 0 [some (.ref t), some (.int a1), some (.int a2)] [] G Q := WP.ofV (T := T_TD_isBlocked) (hh := []) rfl rfl [] 21 h
theorem E_TD_isBlocked {t : Nat} {a1 : Int32} {a2 : Int32} {G : GH} {K : Int32 → GH → Prop} {KX : String → GH → Prop} (h : V_TD_isBlocked_0 t a1 a2 G (gQi K KX)) : CI M_TD_isBlocked [.ref t, .int a1, .int a2] G K KX := CI.of rfl rfl rfl (V_TD_isBlocked_0_ok h)
def V_TD_pieceAt_0 (t : Nat) (a1 : Int32) (a2 : Int32) (G : GH) (Q : GQ) : Prop :=
  bif Nat.ble 1 1 && (Nat.ble 6 6 && Nat.ble (gCat []) 8) then CV M_TD_requireCell [.ref t, .int a1, .int a2] G (fun (G1 : GH) =>
    ∃ (fs2 : List Value) (r3 : Nat), G1.2 t = some (.inl (10, fs2)) ∧ fs2[1]? = some (.ref r3) ∧
    ∃ (fs4 : List Value) (r5 : Nat), G1.2 r3 = some (.inl (8, fs4)) ∧ fs4[0]? = some (.ref r5) ∧
    CI M_Tk_cellAt [.ref r5, .int a1, .int a2] G1 (fun (x7 : Int32) (G6 : GH) =>
      if x7 < (nI 0) then
        Q.1 (-nI 1) G6
      else
        Q.1 x7 G6) gNo) (fun (E : String) (G : GH) => Q.2.2.2.2.2 E G) else False
set_option maxRecDepth 100000 in
theorem V_TD_pieceAt_0_ok {t : Nat} {a1 : Int32} {a2 : Int32} {G : GH} {Q : GQ} (h : V_TD_pieceAt_0 t a1 a2 G Q) : WP M_TD_pieceAt 1 6 0 [some (.ref t), some (.int a1), some (.int a2), none] [] G Q := WP.ofV (T := T_TD_pieceAt) (hh := []) rfl rfl [] 22 h
theorem E_TD_pieceAt {t : Nat} {a1 : Int32} {a2 : Int32} {G : GH} {K : Int32 → GH → Prop} {KX : String → GH → Prop} (h : V_TD_pieceAt_0 t a1 a2 G (gQi K KX)) : CI M_TD_pieceAt [.ref t, .int a1, .int a2] G K KX := CI.of rfl rfl rfl (V_TD_pieceAt_0_ok h)
def V_TD_hasStrap_0 (t : Nat) (a1 : Int32) (a2 : Int32) (a3 : Int32) (G : GH) (Q : GQ) : Prop :=
  bif Nat.ble 2 2 && (Nat.ble 12 12 && Nat.ble (gCat []) 8) then CV M_TD_requireEdge [.ref t, .int a1, .int a2, .int a3] G (fun (G1 : GH) =>
    ∃ (fs2 : List Value) (r3 : Nat), G1.2 t = some (.inl (10, fs2)) ∧ fs2[1]? = some (.ref r3) ∧
    ∃ (fs4 : List Value) (r5 : Nat), G1.2 r3 = some (.inl (8, fs4)) ∧ fs4[0]? = some (.ref r5) ∧
    CI M_Tk_strapAt [.ref r5, .int a1, .int a2, .int a3] G1 (fun (x7 : Int32) (G6 : GH) =>
      (x7 = nI 0 ∨ x7 = nI 1) ∧ Q.1 x7 G6) gNo) (fun (E : String) (G : GH) => Q.2.2.2.2.2 E G) else False
set_option maxRecDepth 100000 in
theorem V_TD_hasStrap_0_ok {t : Nat} {a1 : Int32} {a2 : Int32} {a3 : Int32} {G : GH} {Q : GQ} (h : V_TD_hasStrap_0 t a1 a2 a3 G Q) : WP M_TD_hasStrap 2 12 0 [some (.ref t), some (.int a1), some (.int a2), some (.int a3)] [] G Q := WP.ofV (T := T_TD_hasStrap) (hh := []) rfl rfl [] 18 h
theorem E_TD_hasStrap {t : Nat} {a1 : Int32} {a2 : Int32} {a3 : Int32} {G : GH} {K : Int32 → GH → Prop} {KX : String → GH → Prop} (h : V_TD_hasStrap_0 t a1 a2 a3 G (gQi K KX)) : CI M_TD_hasStrap [.ref t, .int a1, .int a2, .int a3] G K KX := CI.of rfl rfl rfl (V_TD_hasStrap_0_ok h)
def V_TD_emptyInRow_0 (t : Nat) (a1 : Int32) (G : GH) (Q : GQ) : Prop :=
  if a1 < (nI 0) then
    1 ≤ 1 ∧ 6 ≤ 6 ∧ Q.2.2.2.2.2 "java/lang/IndexOutOfBoundsException" (gDirty G)
  else
    ∃ (fs1 : List Value) (r2 : Nat), G.2 t = some (.inl (10, fs1)) ∧ fs1[1]? = some (.ref r2) ∧
    ∃ (fs3 : List Value) (r4 : Nat), G.2 r2 = some (.inl (8, fs3)) ∧ fs3[0]? = some (.ref r4) ∧
    ∃ (fs5 : List Value) (x6 : Int32), G.2 r4 = some (.inl (9, fs5)) ∧ fs5[1]? = some (.int x6) ∧
    if a1 < x6 then
      ∃ (fs7 : List Value) (r8 : Nat), G.2 t = some (.inl (10, fs7)) ∧ fs7[1]? = some (.ref r8) ∧
      ∃ (fs9 : List Value) (r10 : Nat), G.2 r8 = some (.inl (8, fs9)) ∧ fs9[0]? = some (.ref r10) ∧
      CI M_Tk_countEmptyIn [.ref r10, .int a1] G (fun (x12 : Int32) (G11 : GH) =>
        Q.1 x12 G11) gNo
    else
      1 ≤ 1 ∧ 6 ≤ 6 ∧ Q.2.2.2.2.2 "java/lang/IndexOutOfBoundsException" (gDirty G)
set_option maxRecDepth 100000 in
theorem V_TD_emptyInRow_0_ok {t : Nat} {a1 : Int32} {G : GH} {Q : GQ} (h : V_TD_emptyInRow_0 t a1 G Q) : WP M_TD_emptyInRow 1 6 0 [some (.ref t), some (.int a1)] [] G Q := WP.ofV (T := T_TD_emptyInRow) (hh := []) rfl rfl [] 20 h
theorem E_TD_emptyInRow {t : Nat} {a1 : Int32} {G : GH} {K : Int32 → GH → Prop} {KX : String → GH → Prop} (h : V_TD_emptyInRow_0 t a1 G (gQi K KX)) : CI M_TD_emptyInRow [.ref t, .int a1] G K KX := CI.of rfl rfl rfl (V_TD_emptyInRow_0_ok h)
def V_TD_pieceShape_0 (t : Nat) (a1 : Int32) (G : GH) (Q : GQ) : Prop :=
  bif Nat.ble 1 1 && (Nat.ble 6 6 && Nat.ble (gCat []) 8) then CV M_TD_requirePiece [.ref t, .int a1] G (fun (G1 : GH) =>
    ∃ (fs2 : List Value) (r3 : Nat), G1.2 t = some (.inl (10, fs2)) ∧ fs2[1]? = some (.ref r3) ∧
    ∃ (fs4 : List Value) (r5 : Nat), G1.2 r3 = some (.inl (8, fs4)) ∧ fs4[1]? = some (.ref r5) ∧
    CI M_Pi_shapeOf [.ref r5, .int a1] G1 (fun (x7 : Int32) (G6 : GH) =>
      Q.1 x7 G6) gNo) (fun (E : String) (G : GH) => Q.2.2.2.2.2 E G) else False
set_option maxRecDepth 100000 in
theorem V_TD_pieceShape_0_ok {t : Nat} {a1 : Int32} {G : GH} {Q : GQ} (h : V_TD_pieceShape_0 t a1 G Q) : WP M_TD_pieceShape 1 6 0 [some (.ref t), some (.int a1)] [] G Q := WP.ofV (T := T_TD_pieceShape) (hh := []) rfl rfl [] 14 h
theorem E_TD_pieceShape {t : Nat} {a1 : Int32} {G : GH} {K : Int32 → GH → Prop} {KX : String → GH → Prop} (h : V_TD_pieceShape_0 t a1 G (gQi K KX)) : CI M_TD_pieceShape [.ref t, .int a1] G K KX := CI.of rfl rfl rfl (V_TD_pieceShape_0_ok h)
def V_TD_pieceRotation_0 (t : Nat) (a1 : Int32) (G : GH) (Q : GQ) : Prop :=
  bif Nat.ble 1 1 && (Nat.ble 6 6 && Nat.ble (gCat []) 8) then CV M_TD_requirePiece [.ref t, .int a1] G (fun (G1 : GH) =>
    ∃ (fs2 : List Value) (r3 : Nat), G1.2 t = some (.inl (10, fs2)) ∧ fs2[1]? = some (.ref r3) ∧
    ∃ (fs4 : List Value) (r5 : Nat), G1.2 r3 = some (.inl (8, fs4)) ∧ fs4[1]? = some (.ref r5) ∧
    CI M_Pi_rotationOf [.ref r5, .int a1] G1 (fun (x7 : Int32) (G6 : GH) =>
      Q.1 x7 G6) gNo) (fun (E : String) (G : GH) => Q.2.2.2.2.2 E G) else False
set_option maxRecDepth 100000 in
theorem V_TD_pieceRotation_0_ok {t : Nat} {a1 : Int32} {G : GH} {Q : GQ} (h : V_TD_pieceRotation_0 t a1 G Q) : WP M_TD_pieceRotation 1 6 0 [some (.ref t), some (.int a1)] [] G Q := WP.ofV (T := T_TD_pieceRotation) (hh := []) rfl rfl [] 14 h
theorem E_TD_pieceRotation {t : Nat} {a1 : Int32} {G : GH} {K : Int32 → GH → Prop} {KX : String → GH → Prop} (h : V_TD_pieceRotation_0 t a1 G (gQi K KX)) : CI M_TD_pieceRotation [.ref t, .int a1] G K KX := CI.of rfl rfl rfl (V_TD_pieceRotation_0_ok h)
def V_TD_pieceColumn_0 (t : Nat) (a1 : Int32) (G : GH) (Q : GQ) : Prop :=
  bif Nat.ble 1 1 && (Nat.ble 6 6 && Nat.ble (gCat []) 8) then CV M_TD_requirePiece [.ref t, .int a1] G (fun (G1 : GH) =>
    ∃ (fs2 : List Value) (r3 : Nat), G1.2 t = some (.inl (10, fs2)) ∧ fs2[1]? = some (.ref r3) ∧
    ∃ (fs4 : List Value) (r5 : Nat), G1.2 r3 = some (.inl (8, fs4)) ∧ fs4[1]? = some (.ref r5) ∧
    CI M_Pi_anchorColumnOf [.ref r5, .int a1] G1 (fun (x7 : Int32) (G6 : GH) =>
      Q.1 x7 G6) gNo) (fun (E : String) (G : GH) => Q.2.2.2.2.2 E G) else False
set_option maxRecDepth 100000 in
theorem V_TD_pieceColumn_0_ok {t : Nat} {a1 : Int32} {G : GH} {Q : GQ} (h : V_TD_pieceColumn_0 t a1 G Q) : WP M_TD_pieceColumn 1 6 0 [some (.ref t), some (.int a1)] [] G Q := WP.ofV (T := T_TD_pieceColumn) (hh := []) rfl rfl [] 14 h
theorem E_TD_pieceColumn {t : Nat} {a1 : Int32} {G : GH} {K : Int32 → GH → Prop} {KX : String → GH → Prop} (h : V_TD_pieceColumn_0 t a1 G (gQi K KX)) : CI M_TD_pieceColumn [.ref t, .int a1] G K KX := CI.of rfl rfl rfl (V_TD_pieceColumn_0_ok h)
def V_TD_pieceRow_0 (t : Nat) (a1 : Int32) (G : GH) (Q : GQ) : Prop :=
  bif Nat.ble 1 1 && (Nat.ble 6 6 && Nat.ble (gCat []) 8) then CV M_TD_requirePiece [.ref t, .int a1] G (fun (G1 : GH) =>
    ∃ (fs2 : List Value) (r3 : Nat), G1.2 t = some (.inl (10, fs2)) ∧ fs2[1]? = some (.ref r3) ∧
    ∃ (fs4 : List Value) (r5 : Nat), G1.2 r3 = some (.inl (8, fs4)) ∧ fs4[1]? = some (.ref r5) ∧
    CI M_Pi_anchorRowOf [.ref r5, .int a1] G1 (fun (x7 : Int32) (G6 : GH) =>
      Q.1 x7 G6) gNo) (fun (E : String) (G : GH) => Q.2.2.2.2.2 E G) else False
set_option maxRecDepth 100000 in
theorem V_TD_pieceRow_0_ok {t : Nat} {a1 : Int32} {G : GH} {Q : GQ} (h : V_TD_pieceRow_0 t a1 G Q) : WP M_TD_pieceRow 1 6 0 [some (.ref t), some (.int a1)] [] G Q := WP.ofV (T := T_TD_pieceRow) (hh := []) rfl rfl [] 14 h
theorem E_TD_pieceRow {t : Nat} {a1 : Int32} {G : GH} {K : Int32 → GH → Prop} {KX : String → GH → Prop} (h : V_TD_pieceRow_0 t a1 G (gQi K KX)) : CI M_TD_pieceRow [.ref t, .int a1] G K KX := CI.of rfl rfl rfl (V_TD_pieceRow_0_ok h)
def V_TD_pieceOwner_0 (t : Nat) (a1 : Int32) (G : GH) (Q : GQ) : Prop :=
  bif Nat.ble 1 1 && (Nat.ble 6 6 && Nat.ble (gCat []) 8) then CV M_TD_requirePiece [.ref t, .int a1] G (fun (G1 : GH) =>
    ∃ (fs2 : List Value) (r3 : Nat), G1.2 t = some (.inl (10, fs2)) ∧ fs2[1]? = some (.ref r3) ∧
    ∃ (fs4 : List Value) (r5 : Nat), G1.2 r3 = some (.inl (8, fs4)) ∧ fs4[1]? = some (.ref r5) ∧
    CI M_Pi_ownerOf [.ref r5, .int a1] G1 (fun (x7 : Int32) (G6 : GH) =>
      Q.1 x7 G6) gNo) (fun (E : String) (G : GH) => Q.2.2.2.2.2 E G) else False
set_option maxRecDepth 100000 in
theorem V_TD_pieceOwner_0_ok {t : Nat} {a1 : Int32} {G : GH} {Q : GQ} (h : V_TD_pieceOwner_0 t a1 G Q) : WP M_TD_pieceOwner 1 6 0 [some (.ref t), some (.int a1)] [] G Q := WP.ofV (T := T_TD_pieceOwner) (hh := []) rfl rfl [] 14 h
theorem E_TD_pieceOwner {t : Nat} {a1 : Int32} {G : GH} {K : Int32 → GH → Prop} {KX : String → GH → Prop} (h : V_TD_pieceOwner_0 t a1 G (gQi K KX)) : CI M_TD_pieceOwner [.ref t, .int a1] G K KX := CI.of rfl rfl rfl (V_TD_pieceOwner_0_ok h)
def V_TD_piecePoints_0 (t : Nat) (a1 : Int32) (G : GH) (Q : GQ) : Prop :=
  bif Nat.ble 1 1 && (Nat.ble 6 6 && Nat.ble (gCat []) 8) then CV M_TD_requirePiece [.ref t, .int a1] G (fun (G1 : GH) =>
    ∃ (fs2 : List Value) (r3 : Nat), G1.2 t = some (.inl (10, fs2)) ∧ fs2[1]? = some (.ref r3) ∧
    ∃ (fs4 : List Value) (r5 : Nat), G1.2 r3 = some (.inl (8, fs4)) ∧ fs4[1]? = some (.ref r5) ∧
    CI M_Pi_pointsOf [.ref r5, .int a1] G1 (fun (x7 : Int32) (G6 : GH) =>
      Q.1 x7 G6) gNo) (fun (E : String) (G : GH) => Q.2.2.2.2.2 E G) else False
set_option maxRecDepth 100000 in
theorem V_TD_piecePoints_0_ok {t : Nat} {a1 : Int32} {G : GH} {Q : GQ} (h : V_TD_piecePoints_0 t a1 G Q) : WP M_TD_piecePoints 1 6 0 [some (.ref t), some (.int a1)] [] G Q := WP.ofV (T := T_TD_piecePoints) (hh := []) rfl rfl [] 14 h
theorem E_TD_piecePoints {t : Nat} {a1 : Int32} {G : GH} {K : Int32 → GH → Prop} {KX : String → GH → Prop} (h : V_TD_piecePoints_0 t a1 G (gQi K KX)) : CI M_TD_piecePoints [.ref t, .int a1] G K KX := CI.of rfl rfl rfl (V_TD_piecePoints_0_ok h)
def V_TD_playerToMove_0 (t : Nat) (G : GH) (Q : GQ) : Prop :=
  ∃ (fs1 : List Value) (r2 : Nat), G.2 t = some (.inl (10, fs1)) ∧ fs1[1]? = some (.ref r2) ∧
  CI M_St_isFinished [.ref r2] G (fun (x4 : Int32) (G3 : GH) =>
    if x4 = (nI 0) then
      ∃ (fs5 : List Value) (r6 : Nat), G3.2 t = some (.inl (10, fs5)) ∧ fs5[1]? = some (.ref r6) ∧
      ∃ (fs7 : List Value) (x8 : Int32), G3.2 r6 = some (.inl (8, fs7)) ∧ fs7[4]? = some (.int x8) ∧
      Q.1 x8 G3
    else
      Q.1 (-nI 1) G3) gNo
set_option maxRecDepth 100000 in
theorem V_TD_playerToMove_0_ok {t : Nat} {G : GH} {Q : GQ} (h : V_TD_playerToMove_0 t G Q) : WP M_TD_playerToMove 0 0 0 [some (.ref t)] [] G Q := WP.ofV (T := T_TD_playerToMove) (hh := []) rfl rfl [] 15 h
theorem E_TD_playerToMove {t : Nat} {G : GH} {K : Int32 → GH → Prop} {KX : String → GH → Prop} (h : V_TD_playerToMove_0 t G (gQi K KX)) : CI M_TD_playerToMove [.ref t] G K KX := CI.of rfl rfl rfl (V_TD_playerToMove_0_ok h)
def V_TD_isOver_0 (t : Nat) (G : GH) (Q : GQ) : Prop :=
  ∃ (fs1 : List Value) (r2 : Nat), G.2 t = some (.inl (10, fs1)) ∧ fs1[1]? = some (.ref r2) ∧
  CI M_St_isFinished [.ref r2] G (fun (x4 : Int32) (G3 : GH) =>
    (x4 = nI 0 ∨ x4 = nI 1) ∧ Q.1 x4 G3) gNo
set_option maxRecDepth 100000 in
theorem V_TD_isOver_0_ok {t : Nat} {G : GH} {Q : GQ} (h : V_TD_isOver_0 t G Q) : WP M_TD_isOver 0 0 0 [some (.ref t)] [] G Q := WP.ofV (T := T_TD_isOver) (hh := []) rfl rfl [] 9 h
theorem E_TD_isOver {t : Nat} {G : GH} {K : Int32 → GH → Prop} {KX : String → GH → Prop} (h : V_TD_isOver_0 t G (gQi K KX)) : CI M_TD_isOver [.ref t] G K KX := CI.of rfl rfl rfl (V_TD_isOver_0_ok h)
def V_TD_leader_0 (t : Nat) (G : GH) (Q : GQ) : Prop :=
  ∃ (fs1 : List Value) (r2 : Nat), G.2 t = some (.inl (10, fs1)) ∧ fs1[1]? = some (.ref r2) ∧
  ∃ (fs3 : List Value) (r4 : Nat), G.2 r2 = some (.inl (8, fs3)) ∧ fs3[2]? = some (.ref r4) ∧
  ∃ (fs5 : List Value) (x6 : Int32), G.2 r4 = some (.inl (5, fs5)) ∧ fs5[0]? = some (.int x6) ∧
  ∃ (fs7 : List Value) (r8 : Nat), G.2 t = some (.inl (10, fs7)) ∧ fs7[1]? = some (.ref r8) ∧
  ∃ (fs9 : List Value) (r10 : Nat), G.2 r8 = some (.inl (8, fs9)) ∧ fs9[3]? = some (.ref r10) ∧
  ∃ (fs11 : List Value) (x12 : Int32), G.2 r10 = some (.inl (5, fs11)) ∧ fs11[0]? = some (.int x12) ∧
  if (x6 - x12) = (nI 0) then
    Q.1 (-nI 1) G
  else
    if (nI 0) < (x6 - x12) then
      Q.1 (nI 0) G
    else
      Q.1 (nI 1) G
set_option maxRecDepth 100000 in
theorem V_TD_leader_0_ok {t : Nat} {G : GH} {Q : GQ} (h : V_TD_leader_0 t G Q) : WP M_TD_leader 0 0 0 [some (.ref t), none] [] G Q := WP.ofV (T := T_TD_leader) (hh := []) rfl rfl [] 25 h
theorem E_TD_leader {t : Nat} {G : GH} {K : Int32 → GH → Prop} {KX : String → GH → Prop} (h : V_TD_leader_0 t G (gQi K KX)) : CI M_TD_leader [.ref t] G K KX := CI.of rfl rfl rfl (V_TD_leader_0_ok h)
def V_TD_score_0 (t : Nat) (a1 : Int32) (G : GH) (Q : GQ) : Prop :=
  bif Nat.ble 1 1 && (Nat.ble 6 6 && Nat.ble (gCat []) 8) then CV M_TD_requirePlayer [.int a1] G (fun (G1 : GH) =>
    ∃ (fs2 : List Value) (r3 : Nat), G1.2 t = some (.inl (10, fs2)) ∧ fs2[1]? = some (.ref r3) ∧
    CR M_St_playerOf [.ref r3, .int a1] G1 (fun (r5 : Nat) (G4 : GH) =>
      ∃ (fs6 : List Value) (x7 : Int32), G4.2 r5 = some (.inl (5, fs6)) ∧ fs6[0]? = some (.int x7) ∧
      Q.1 x7 G4)) (fun (E : String) (G : GH) => Q.2.2.2.2.2 E G) else False
set_option maxRecDepth 100000 in
theorem V_TD_score_0_ok {t : Nat} {a1 : Int32} {G : GH} {Q : GQ} (h : V_TD_score_0 t a1 G Q) : WP M_TD_score 1 6 0 [some (.ref t), some (.int a1)] [] G Q := WP.ofV (T := T_TD_score) (hh := []) rfl rfl [] 13 h
theorem E_TD_score {t : Nat} {a1 : Int32} {G : GH} {K : Int32 → GH → Prop} {KX : String → GH → Prop} (h : V_TD_score_0 t a1 G (gQi K KX)) : CI M_TD_score [.ref t, .int a1] G K KX := CI.of rfl rfl rfl (V_TD_score_0_ok h)
def V_TD_supply_0 (t : Nat) (a1 : Int32) (a2 : Int32) (G : GH) (Q : GQ) : Prop :=
  bif Nat.ble 1 2 && (Nat.ble 6 12 && Nat.ble (gCat []) 8) then CV M_TD_requirePlayer [.int a1] G (fun (G1 : GH) =>
    bif Nat.ble 1 1 && (Nat.ble 6 6 && Nat.ble (gCat []) 8) then CV M_TD_requireShape [.int a2] G1 (fun (G2 : GH) =>
      ∃ (fs3 : List Value) (r4 : Nat), G2.2 t = some (.inl (10, fs3)) ∧ fs3[1]? = some (.ref r4) ∧
      CR M_St_playerOf [.ref r4, .int a1] G2 (fun (r6 : Nat) (G5 : GH) =>
        CI M_Pl_supplyOf [.ref r6, .int a2] G5 (fun (x8 : Int32) (G7 : GH) =>
          Q.1 x8 G7) gNo)) (fun (E : String) (G : GH) => Q.2.2.2.2.2 E G) else False) (fun (E : String) (G : GH) => Q.2.2.2.2.2 E G) else False
set_option maxRecDepth 100000 in
theorem V_TD_supply_0_ok {t : Nat} {a1 : Int32} {a2 : Int32} {G : GH} {Q : GQ} (h : V_TD_supply_0 t a1 a2 G Q) : WP M_TD_supply 2 12 0 [some (.ref t), some (.int a1), some (.int a2)] [] G Q := WP.ofV (T := T_TD_supply) (hh := []) rfl rfl [] 16 h
theorem E_TD_supply {t : Nat} {a1 : Int32} {a2 : Int32} {G : GH} {K : Int32 → GH → Prop} {KX : String → GH → Prop} (h : V_TD_supply_0 t a1 a2 G (gQi K KX)) : CI M_TD_supply [.ref t, .int a1, .int a2] G K KX := CI.of rfl rfl rfl (V_TD_supply_0_ok h)
def V_TD_strapsLeft_0 (t : Nat) (a1 : Int32) (G : GH) (Q : GQ) : Prop :=
  bif Nat.ble 1 1 && (Nat.ble 6 6 && Nat.ble (gCat []) 8) then CV M_TD_requirePlayer [.int a1] G (fun (G1 : GH) =>
    ∃ (fs2 : List Value) (r3 : Nat), G1.2 t = some (.inl (10, fs2)) ∧ fs2[1]? = some (.ref r3) ∧
    CR M_St_playerOf [.ref r3, .int a1] G1 (fun (r5 : Nat) (G4 : GH) =>
      ∃ (fs6 : List Value) (x7 : Int32), G4.2 r5 = some (.inl (5, fs6)) ∧ fs6[1]? = some (.int x7) ∧
      Q.1 x7 G4)) (fun (E : String) (G : GH) => Q.2.2.2.2.2 E G) else False
set_option maxRecDepth 100000 in
theorem V_TD_strapsLeft_0_ok {t : Nat} {a1 : Int32} {G : GH} {Q : GQ} (h : V_TD_strapsLeft_0 t a1 G Q) : WP M_TD_strapsLeft 1 6 0 [some (.ref t), some (.int a1)] [] G Q := WP.ofV (T := T_TD_strapsLeft) (hh := []) rfl rfl [] 13 h
theorem E_TD_strapsLeft {t : Nat} {a1 : Int32} {G : GH} {K : Int32 → GH → Prop} {KX : String → GH → Prop} (h : V_TD_strapsLeft_0 t a1 G (gQi K KX)) : CI M_TD_strapsLeft [.ref t, .int a1] G K KX := CI.of rfl rfl rfl (V_TD_strapsLeft_0_ok h)
def V_TD_nameByte_0 (t : Nat) (a1 : Int32) (a2 : Int32) (G : GH) (Q : GQ) : Prop :=
  bif Nat.ble 1 1 && (Nat.ble 6 6 && Nat.ble (gCat []) 8) then CV M_TD_requirePlayer [.int a1] G (fun (G1 : GH) =>
    ∃ (fs2 : List Value) (r3 : Nat), G1.2 t = some (.inl (10, fs2)) ∧ fs2[1]? = some (.ref r3) ∧
    CR M_St_playerOf [.ref r3, .int a1] G1 (fun (r5 : Nat) (G4 : GH) =>
      CI M_Pl_letterAt [.ref r5, .int a2] G4 (fun (x7 : Int32) (G6 : GH) =>
        Q.1 x7 G6) gNo)) (fun (E : String) (G : GH) => Q.2.2.2.2.2 E G) else False
set_option maxRecDepth 100000 in
theorem V_TD_nameByte_0_ok {t : Nat} {a1 : Int32} {a2 : Int32} {G : GH} {Q : GQ} (h : V_TD_nameByte_0 t a1 a2 G Q) : WP M_TD_nameByte 1 6 0 [some (.ref t), some (.int a1), some (.int a2)] [] G Q := WP.ofV (T := T_TD_nameByte) (hh := []) rfl rfl [] 14 h
theorem E_TD_nameByte {t : Nat} {a1 : Int32} {a2 : Int32} {G : GH} {K : Int32 → GH → Prop} {KX : String → GH → Prop} (h : V_TD_nameByte_0 t a1 a2 G (gQi K KX)) : CI M_TD_nameByte [.ref t, .int a1, .int a2] G K KX := CI.of rfl rfl rfl (V_TD_nameByte_0_ok h)
def V_TD_fits_0 (t : Nat) (a1 : Int32) (a2 : Int32) (a3 : Int32) (a4 : Int32) (G : GH) (Q : GQ) : Prop :=
  bif Nat.ble 3 3 && (Nat.ble 18 18 && Nat.ble (gCat []) 8) then CV M_TD_aimAt [.ref t, .int a1, .int a2, .int a3, .int a4] G (fun (G1 : GH) =>
    ∃ (fs2 : List Value) (r3 : Nat), G1.2 t = some (.inl (10, fs2)) ∧ fs2[1]? = some (.ref r3) ∧
    ∃ (fs4 : List Value) (r5 : Nat), G1.2 r3 = some (.inl (8, fs4)) ∧ fs4[0]? = some (.ref r5) ∧
    ∃ (fs6 : List Value) (r7 : Nat), G1.2 t = some (.inl (10, fs6)) ∧ fs6[6]? = some (.ref r7) ∧
    CI M_Tk_misfitOf [.ref r5, .ref r7] G1 (fun (x9 : Int32) (G8 : GH) =>
      if x9 = (nI 0) then
        ((nI 1) = nI 0 ∨ (nI 1) = nI 1) ∧ Q.1 (nI 1) G8
      else
        ((nI 0) = nI 0 ∨ (nI 0) = nI 1) ∧ Q.1 (nI 0) G8) gNo) (fun (E : String) (G : GH) => Q.2.2.2.2.2 E G) else False
set_option maxRecDepth 100000 in
theorem V_TD_fits_0_ok {t : Nat} {a1 : Int32} {a2 : Int32} {a3 : Int32} {a4 : Int32} {G : GH} {Q : GQ} (h : V_TD_fits_0 t a1 a2 a3 a4 G Q) : WP M_TD_fits 3 18 0 [some (.ref t), some (.int a1), some (.int a2), some (.int a3), some (.int a4)] [] G Q := WP.ofV (T := T_TD_fits) (hh := []) rfl rfl [] 22 h
theorem E_TD_fits {t : Nat} {a1 : Int32} {a2 : Int32} {a3 : Int32} {a4 : Int32} {G : GH} {K : Int32 → GH → Prop} {KX : String → GH → Prop} (h : V_TD_fits_0 t a1 a2 a3 a4 G (gQi K KX)) : CI M_TD_fits [.ref t, .int a1, .int a2, .int a3, .int a4] G K KX := CI.of rfl rfl rfl (V_TD_fits_0_ok h)
def V_TD_misfitReason_0 (t : Nat) (a1 : Int32) (a2 : Int32) (a3 : Int32) (a4 : Int32) (G : GH) (Q : GQ) : Prop :=
  bif Nat.ble 3 3 && (Nat.ble 18 18 && Nat.ble (gCat []) 8) then CV M_TD_aimAt [.ref t, .int a1, .int a2, .int a3, .int a4] G (fun (G1 : GH) =>
    ∃ (fs2 : List Value) (r3 : Nat), G1.2 t = some (.inl (10, fs2)) ∧ fs2[1]? = some (.ref r3) ∧
    ∃ (fs4 : List Value) (r5 : Nat), G1.2 r3 = some (.inl (8, fs4)) ∧ fs4[0]? = some (.ref r5) ∧
    ∃ (fs6 : List Value) (r7 : Nat), G1.2 t = some (.inl (10, fs6)) ∧ fs6[6]? = some (.ref r7) ∧
    CI M_Tk_misfitOf [.ref r5, .ref r7] G1 (fun (x9 : Int32) (G8 : GH) =>
      Q.1 x9 G8) gNo) (fun (E : String) (G : GH) => Q.2.2.2.2.2 E G) else False
set_option maxRecDepth 100000 in
theorem V_TD_misfitReason_0_ok {t : Nat} {a1 : Int32} {a2 : Int32} {a3 : Int32} {a4 : Int32} {G : GH} {Q : GQ} (h : V_TD_misfitReason_0 t a1 a2 a3 a4 G Q) : WP M_TD_misfitReason 3 18 0 [some (.ref t), some (.int a1), some (.int a2), some (.int a3), some (.int a4)] [] G Q := WP.ofV (T := T_TD_misfitReason) (hh := []) rfl rfl [] 18 h
theorem E_TD_misfitReason {t : Nat} {a1 : Int32} {a2 : Int32} {a3 : Int32} {a4 : Int32} {G : GH} {K : Int32 → GH → Prop} {KX : String → GH → Prop} (h : V_TD_misfitReason_0 t a1 a2 a3 a4 G (gQi K KX)) : CI M_TD_misfitReason [.ref t, .int a1, .int a2, .int a3, .int a4] G K KX := CI.of rfl rfl rfl (V_TD_misfitReason_0_ok h)
def V_TD_pointsFor_0 (t : Nat) (a1 : Int32) (a2 : Int32) (a3 : Int32) (a4 : Int32) (G : GH) (Q : GQ) : Prop :=
  bif Nat.ble 3 3 && (Nat.ble 18 18 && Nat.ble (gCat []) 8) then CV M_TD_aimAt [.ref t, .int a1, .int a2, .int a3, .int a4] G (fun (G1 : GH) =>
    ∃ (fs2 : List Value) (r3 : Nat), G1.2 t = some (.inl (10, fs2)) ∧ fs2[1]? = some (.ref r3) ∧
    ∃ (fs4 : List Value) (r5 : Nat), G1.2 r3 = some (.inl (8, fs4)) ∧ fs4[0]? = some (.ref r5) ∧
    ∃ (fs6 : List Value) (r7 : Nat), G1.2 t = some (.inl (10, fs6)) ∧ fs6[6]? = some (.ref r7) ∧
    CI M_Tk_misfitOf [.ref r5, .ref r7] G1 (fun (x9 : Int32) (G8 : GH) =>
      if x9 = (nI 0) then
        ∃ (fs10 : List Value) (r11 : Nat), G8.2 t = some (.inl (10, fs10)) ∧ fs10[1]? = some (.ref r11) ∧
        ∃ (fs12 : List Value) (r13 : Nat), G8.2 r11 = some (.inl (8, fs12)) ∧ fs12[0]? = some (.ref r13) ∧
        ∃ (fs14 : List Value) (r15 : Nat), G8.2 t = some (.inl (10, fs14)) ∧ fs14[6]? = some (.ref r15) ∧
        CI M_Tk_pointsOf [.ref r13, .ref r15] G8 (fun (x17 : Int32) (G16 : GH) =>
          Q.1 x17 G16) gNo
      else
        Q.1 (-nI 1) G8) gNo) (fun (E : String) (G : GH) => Q.2.2.2.2.2 E G) else False
set_option maxRecDepth 100000 in
theorem V_TD_pointsFor_0_ok {t : Nat} {a1 : Int32} {a2 : Int32} {a3 : Int32} {a4 : Int32} {G : GH} {Q : GQ} (h : V_TD_pointsFor_0 t a1 a2 a3 a4 G Q) : WP M_TD_pointsFor 3 18 0 [some (.ref t), some (.int a1), some (.int a2), some (.int a3), some (.int a4)] [] G Q := WP.ofV (T := T_TD_pointsFor) (hh := []) rfl rfl [] 27 h
theorem E_TD_pointsFor {t : Nat} {a1 : Int32} {a2 : Int32} {a3 : Int32} {a4 : Int32} {G : GH} {K : Int32 → GH → Prop} {KX : String → GH → Prop} (h : V_TD_pointsFor_0 t a1 a2 a3 a4 G (gQi K KX)) : CI M_TD_pointsFor [.ref t, .int a1, .int a2, .int a3, .int a4] G K KX := CI.of rfl rfl rfl (V_TD_pointsFor_0_ok h)
def V_TD_mobility_0 (t : Nat) (a1 : Int32) (G : GH) (Q : GQ) : Prop :=
  bif Nat.ble 1 1 && (Nat.ble 6 6 && Nat.ble (gCat []) 8) then CV M_TD_requirePlayer [.int a1] G (fun (G1 : GH) =>
    ∃ (fs2 : List Value) (r3 : Nat), G1.2 t = some (.inl (10, fs2)) ∧ fs2[1]? = some (.ref r3) ∧
    ∃ (fs4 : List Value) (r5 : Nat), G1.2 t = some (.inl (10, fs4)) ∧ fs4[6]? = some (.ref r5) ∧
    CI M_St_countMoves [.ref r3, .int a1, .ref r5] G1 (fun (x7 : Int32) (G6 : GH) =>
      Q.1 x7 G6) gNo) (fun (E : String) (G : GH) => Q.2.2.2.2.2 E G) else False
set_option maxRecDepth 100000 in
theorem V_TD_mobility_0_ok {t : Nat} {a1 : Int32} {G : GH} {Q : GQ} (h : V_TD_mobility_0 t a1 G Q) : WP M_TD_mobility 1 6 0 [some (.ref t), some (.int a1)] [] G Q := WP.ofV (T := T_TD_mobility) (hh := []) rfl rfl [] 14 h
theorem E_TD_mobility {t : Nat} {a1 : Int32} {G : GH} {K : Int32 → GH → Prop} {KX : String → GH → Prop} (h : V_TD_mobility_0 t a1 G (gQi K KX)) : CI M_TD_mobility [.ref t, .int a1] G K KX := CI.of rfl rfl rfl (V_TD_mobility_0_ok h)
def V_TD_fittingPlacements_0 (t : Nat) (a1 : Int32) (G : GH) (Q : GQ) : Prop :=
  bif Nat.ble 1 1 && (Nat.ble 6 6 && Nat.ble (gCat []) 8) then CV M_TD_requireShape [.int a1] G (fun (G1 : GH) =>
    ∃ (fs2 : List Value) (r3 : Nat), G1.2 t = some (.inl (10, fs2)) ∧ fs2[1]? = some (.ref r3) ∧
    ∃ (fs4 : List Value) (r5 : Nat), G1.2 r3 = some (.inl (8, fs4)) ∧ fs4[0]? = some (.ref r5) ∧
    ∃ (fs6 : List Value) (r7 : Nat), G1.2 t = some (.inl (10, fs6)) ∧ fs6[6]? = some (.ref r7) ∧
    CI M_Tk_countFitting [.ref r5, .int a1, .ref r7] G1 (fun (x9 : Int32) (G8 : GH) =>
      Q.1 x9 G8) gNo) (fun (E : String) (G : GH) => Q.2.2.2.2.2 E G) else False
set_option maxRecDepth 100000 in
theorem V_TD_fittingPlacements_0_ok {t : Nat} {a1 : Int32} {G : GH} {Q : GQ} (h : V_TD_fittingPlacements_0 t a1 G Q) : WP M_TD_fittingPlacements 1 6 0 [some (.ref t), some (.int a1)] [] G Q := WP.ofV (T := T_TD_fittingPlacements) (hh := []) rfl rfl [] 15 h
theorem E_TD_fittingPlacements {t : Nat} {a1 : Int32} {G : GH} {K : Int32 → GH → Prop} {KX : String → GH → Prop} (h : V_TD_fittingPlacements_0 t a1 G (gQi K KX)) : CI M_TD_fittingPlacements [.ref t, .int a1] G K KX := CI.of rfl rfl rfl (V_TD_fittingPlacements_0_ok h)
def V_TD_mobilityAfter_0 (t : Nat) (a1 : Int32) (a2 : Int32) (a3 : Int32) (a4 : Int32) (a5 : Int32) (G : GH) (Q : GQ) : Prop :=
  bif Nat.ble 3 4 && (Nat.ble 18 24 && Nat.ble (gCat []) 8) then CV M_TD_aimAt [.ref t, .int a1, .int a2, .int a3, .int a4] G (fun (G1 : GH) =>
    bif Nat.ble 1 1 && (Nat.ble 6 6 && Nat.ble (gCat []) 8) then CV M_TD_requirePlayer [.int a5] G1 (fun (G2 : GH) =>
      ∃ (fs3 : List Value) (r4 : Nat), G2.2 t = some (.inl (10, fs3)) ∧ fs3[1]? = some (.ref r4) ∧
      ∃ (fs5 : List Value) (r6 : Nat), G2.2 t = some (.inl (10, fs5)) ∧ fs5[6]? = some (.ref r6) ∧
      CI M_St_allowsPiece [.ref r4, .ref r6] G2 (fun (x8 : Int32) (G7 : GH) =>
        if x8 = (nI 0) then
          Q.1 (-nI 1) G7
        else
          ∃ (fs9 : List Value) (r10 : Nat), G7.2 t = some (.inl (10, fs9)) ∧ fs9[2]? = some (.ref r10) ∧
          ∃ (fs11 : List Value) (r12 : Nat), G7.2 t = some (.inl (10, fs11)) ∧ fs11[1]? = some (.ref r12) ∧
          CV M_St_copyFrom [.ref r10, .ref r12] G7 (fun (G13 : GH) =>
            ∃ (fs14 : List Value) (r15 : Nat), G13.2 t = some (.inl (10, fs14)) ∧ fs14[2]? = some (.ref r15) ∧
            ∃ (fs16 : List Value) (r17 : Nat), G13.2 t = some (.inl (10, fs16)) ∧ fs16[6]? = some (.ref r17) ∧
            CI M_St_putPiece [.ref r15, .ref r17] G13 (fun (x19 : Int32) (G18 : GH) =>
              ∃ (fs20 : List Value) (r21 : Nat), G18.2 t = some (.inl (10, fs20)) ∧ fs20[2]? = some (.ref r21) ∧
              ∃ (fs22 : List Value) (r23 : Nat), G18.2 t = some (.inl (10, fs22)) ∧ fs22[6]? = some (.ref r23) ∧
              CI M_St_countMoves [.ref r21, .int a5, .ref r23] G18 (fun (x25 : Int32) (G24 : GH) =>
                Q.1 x25 G24) gNo) gNo) gNo) gNo) (fun (E : String) (G : GH) => Q.2.2.2.2.2 E G) else False) (fun (E : String) (G : GH) => Q.2.2.2.2.2 E G) else False
set_option maxRecDepth 100000 in
theorem V_TD_mobilityAfter_0_ok {t : Nat} {a1 : Int32} {a2 : Int32} {a3 : Int32} {a4 : Int32} {a5 : Int32} {G : GH} {Q : GQ} (h : V_TD_mobilityAfter_0 t a1 a2 a3 a4 a5 G Q) : WP M_TD_mobilityAfter 4 24 0 [some (.ref t), some (.int a1), some (.int a2), some (.int a3), some (.int a4), some (.int a5)] [] G Q := WP.ofV (T := T_TD_mobilityAfter) (hh := []) rfl rfl [] 39 h
theorem E_TD_mobilityAfter {t : Nat} {a1 : Int32} {a2 : Int32} {a3 : Int32} {a4 : Int32} {a5 : Int32} {G : GH} {K : Int32 → GH → Prop} {KX : String → GH → Prop} (h : V_TD_mobilityAfter_0 t a1 a2 a3 a4 a5 G (gQi K KX)) : CI M_TD_mobilityAfter [.ref t, .int a1, .int a2, .int a3, .int a4, .int a5] G K KX := CI.of rfl rfl rfl (V_TD_mobilityAfter_0_ok h)
def V_TD_bestShape_0 (t : Nat) (G : GH) (Q : GQ) : Prop :=
  ∃ (fs1 : List Value) (r2 : Nat), G.2 t = some (.inl (10, fs1)) ∧ fs1[7]? = some (.ref r2) ∧
  ∃ (fs3 : List Value) (r4 : Nat), G.2 t = some (.inl (10, fs3)) ∧ fs3[1]? = some (.ref r4) ∧
  ∃ (fs5 : List Value) (r6 : Nat), G.2 t = some (.inl (10, fs5)) ∧ fs5[6]? = some (.ref r6) ∧
  CV M_Ch_search [.ref r2, .ref r4, .ref r6] G (fun (G7 : GH) =>
    ∃ (fs8 : List Value) (r9 : Nat), G7.2 t = some (.inl (10, fs8)) ∧ fs8[7]? = some (.ref r9) ∧
    ∃ (fs10 : List Value) (x11 : Int32), G7.2 r9 = some (.inl (0, fs10)) ∧ fs10[0]? = some (.int x11) ∧
    Q.1 x11 G7) gNo
set_option maxRecDepth 100000 in
theorem V_TD_bestShape_0_ok {t : Nat} {G : GH} {Q : GQ} (h : V_TD_bestShape_0 t G Q) : WP M_TD_bestShape 0 0 0 [some (.ref t)] [] G Q := WP.ofV (T := T_TD_bestShape) (hh := []) rfl rfl [] 16 h
theorem E_TD_bestShape {t : Nat} {G : GH} {K : Int32 → GH → Prop} {KX : String → GH → Prop} (h : V_TD_bestShape_0 t G (gQi K KX)) : CI M_TD_bestShape [.ref t] G K KX := CI.of rfl rfl rfl (V_TD_bestShape_0_ok h)
def V_TD_bestRotation_0 (t : Nat) (G : GH) (Q : GQ) : Prop :=
  ∃ (fs1 : List Value) (r2 : Nat), G.2 t = some (.inl (10, fs1)) ∧ fs1[7]? = some (.ref r2) ∧
  ∃ (fs3 : List Value) (r4 : Nat), G.2 t = some (.inl (10, fs3)) ∧ fs3[1]? = some (.ref r4) ∧
  ∃ (fs5 : List Value) (r6 : Nat), G.2 t = some (.inl (10, fs5)) ∧ fs5[6]? = some (.ref r6) ∧
  CV M_Ch_search [.ref r2, .ref r4, .ref r6] G (fun (G7 : GH) =>
    ∃ (fs8 : List Value) (r9 : Nat), G7.2 t = some (.inl (10, fs8)) ∧ fs8[7]? = some (.ref r9) ∧
    ∃ (fs10 : List Value) (x11 : Int32), G7.2 r9 = some (.inl (0, fs10)) ∧ fs10[1]? = some (.int x11) ∧
    Q.1 x11 G7) gNo
set_option maxRecDepth 100000 in
theorem V_TD_bestRotation_0_ok {t : Nat} {G : GH} {Q : GQ} (h : V_TD_bestRotation_0 t G Q) : WP M_TD_bestRotation 0 0 0 [some (.ref t)] [] G Q := WP.ofV (T := T_TD_bestRotation) (hh := []) rfl rfl [] 16 h
theorem E_TD_bestRotation {t : Nat} {G : GH} {K : Int32 → GH → Prop} {KX : String → GH → Prop} (h : V_TD_bestRotation_0 t G (gQi K KX)) : CI M_TD_bestRotation [.ref t] G K KX := CI.of rfl rfl rfl (V_TD_bestRotation_0_ok h)
def V_TD_bestColumn_0 (t : Nat) (G : GH) (Q : GQ) : Prop :=
  ∃ (fs1 : List Value) (r2 : Nat), G.2 t = some (.inl (10, fs1)) ∧ fs1[7]? = some (.ref r2) ∧
  ∃ (fs3 : List Value) (r4 : Nat), G.2 t = some (.inl (10, fs3)) ∧ fs3[1]? = some (.ref r4) ∧
  ∃ (fs5 : List Value) (r6 : Nat), G.2 t = some (.inl (10, fs5)) ∧ fs5[6]? = some (.ref r6) ∧
  CV M_Ch_search [.ref r2, .ref r4, .ref r6] G (fun (G7 : GH) =>
    ∃ (fs8 : List Value) (r9 : Nat), G7.2 t = some (.inl (10, fs8)) ∧ fs8[7]? = some (.ref r9) ∧
    ∃ (fs10 : List Value) (x11 : Int32), G7.2 r9 = some (.inl (0, fs10)) ∧ fs10[2]? = some (.int x11) ∧
    Q.1 x11 G7) gNo
set_option maxRecDepth 100000 in
theorem V_TD_bestColumn_0_ok {t : Nat} {G : GH} {Q : GQ} (h : V_TD_bestColumn_0 t G Q) : WP M_TD_bestColumn 0 0 0 [some (.ref t)] [] G Q := WP.ofV (T := T_TD_bestColumn) (hh := []) rfl rfl [] 16 h
theorem E_TD_bestColumn {t : Nat} {G : GH} {K : Int32 → GH → Prop} {KX : String → GH → Prop} (h : V_TD_bestColumn_0 t G (gQi K KX)) : CI M_TD_bestColumn [.ref t] G K KX := CI.of rfl rfl rfl (V_TD_bestColumn_0_ok h)
def V_TD_bestRow_0 (t : Nat) (G : GH) (Q : GQ) : Prop :=
  ∃ (fs1 : List Value) (r2 : Nat), G.2 t = some (.inl (10, fs1)) ∧ fs1[7]? = some (.ref r2) ∧
  ∃ (fs3 : List Value) (r4 : Nat), G.2 t = some (.inl (10, fs3)) ∧ fs3[1]? = some (.ref r4) ∧
  ∃ (fs5 : List Value) (r6 : Nat), G.2 t = some (.inl (10, fs5)) ∧ fs5[6]? = some (.ref r6) ∧
  CV M_Ch_search [.ref r2, .ref r4, .ref r6] G (fun (G7 : GH) =>
    ∃ (fs8 : List Value) (r9 : Nat), G7.2 t = some (.inl (10, fs8)) ∧ fs8[7]? = some (.ref r9) ∧
    ∃ (fs10 : List Value) (x11 : Int32), G7.2 r9 = some (.inl (0, fs10)) ∧ fs10[3]? = some (.int x11) ∧
    Q.1 x11 G7) gNo
set_option maxRecDepth 100000 in
theorem V_TD_bestRow_0_ok {t : Nat} {G : GH} {Q : GQ} (h : V_TD_bestRow_0 t G Q) : WP M_TD_bestRow 0 0 0 [some (.ref t)] [] G Q := WP.ofV (T := T_TD_bestRow) (hh := []) rfl rfl [] 16 h
theorem E_TD_bestRow {t : Nat} {G : GH} {K : Int32 → GH → Prop} {KX : String → GH → Prop} (h : V_TD_bestRow_0 t G (gQi K KX)) : CI M_TD_bestRow [.ref t] G K KX := CI.of rfl rfl rfl (V_TD_bestRow_0_ok h)
def V_TD_bestStrapEffect_0 (t : Nat) (G : GH) (Q : GQ) : Prop :=
  ∃ (fs1 : List Value) (r2 : Nat), G.2 t = some (.inl (10, fs1)) ∧ fs1[1]? = some (.ref r2) ∧
  CI M_St_isFinished [.ref r2] G (fun (x4 : Int32) (G3 : GH) =>
    if x4 = (nI 0) then
      ∃ (fs5 : List Value) (r6 : Nat), G3.2 t = some (.inl (10, fs5)) ∧ fs5[1]? = some (.ref r6) ∧
      ∃ (fs7 : List Value) (r8 : Nat), G3.2 t = some (.inl (10, fs7)) ∧ fs7[1]? = some (.ref r8) ∧
      ∃ (fs9 : List Value) (x10 : Int32), G3.2 r8 = some (.inl (8, fs9)) ∧ fs9[4]? = some (.int x10) ∧
      CR M_St_playerOf [.ref r6, .int x10] G3 (fun (r12 : Nat) (G11 : GH) =>
        ∃ (fs13 : List Value) (x14 : Int32), G11.2 r12 = some (.inl (5, fs13)) ∧ fs13[1]? = some (.int x14) ∧
        if x14 = (nI 0) then
          Q.1 (nI 0) G11
        else
          ∃ (fs15 : List Value) (r16 : Nat), G11.2 t = some (.inl (10, fs15)) ∧ fs15[8]? = some (.ref r16) ∧
          ∃ (fs17 : List Value) (r18 : Nat), G11.2 t = some (.inl (10, fs17)) ∧ fs17[1]? = some (.ref r18) ∧
          ∃ (fs19 : List Value) (r20 : Nat), G11.2 t = some (.inl (10, fs19)) ∧ fs19[1]? = some (.ref r20) ∧
          ∃ (fs21 : List Value) (x22 : Int32), G11.2 r20 = some (.inl (8, fs21)) ∧ fs21[4]? = some (.int x22) ∧
          CR M_St_playerOf [.ref r18, .int ((nI 1) - x22)] G11 (fun (r24 : Nat) (G23 : GH) =>
            ∃ (fs25 : List Value) (r26 : Nat), G23.2 t = some (.inl (10, fs25)) ∧ fs25[1]? = some (.ref r26) ∧
            ∃ (fs27 : List Value) (r28 : Nat), G23.2 r26 = some (.inl (8, fs27)) ∧ fs27[0]? = some (.ref r28) ∧
            ∃ (fs29 : List Value) (r30 : Nat), G23.2 t = some (.inl (10, fs29)) ∧ fs29[6]? = some (.ref r30) ∧
            CI M_Cr_mostFor [.ref r16, .ref r24, .ref r28, .ref r30] G23 (fun (x32 : Int32) (G31 : GH) =>
              Q.1 x32 G31) gNo))
    else
      Q.1 (-nI 1) G3) gNo
set_option maxRecDepth 100000 in
theorem V_TD_bestStrapEffect_0_ok {t : Nat} {G : GH} {Q : GQ} (h : V_TD_bestStrapEffect_0 t G Q) : WP M_TD_bestStrapEffect 0 0 0 [some (.ref t)] [] G Q := WP.ofV (T := T_TD_bestStrapEffect) (hh := []) rfl rfl [] 38 h
theorem E_TD_bestStrapEffect {t : Nat} {G : GH} {K : Int32 → GH → Prop} {KX : String → GH → Prop} (h : V_TD_bestStrapEffect_0 t G (gQi K KX)) : CI M_TD_bestStrapEffect [.ref t] G K KX := CI.of rfl rfl rfl (V_TD_bestStrapEffect_0_ok h)
def V_TD_regionCount_0 (t : Nat) (G : GH) (Q : GQ) : Prop :=
  ∃ (fs1 : List Value) (r2 : Nat), G.2 t = some (.inl (10, fs1)) ∧ fs1[9]? = some (.ref r2) ∧
  ∃ (fs3 : List Value) (r4 : Nat), G.2 t = some (.inl (10, fs3)) ∧ fs3[1]? = some (.ref r4) ∧
  ∃ (fs5 : List Value) (r6 : Nat), G.2 r4 = some (.inl (8, fs5)) ∧ fs5[0]? = some (.ref r6) ∧
  CV M_Rg_survey [.ref r2, .ref r6] G (fun (G7 : GH) =>
    ∃ (fs8 : List Value) (r9 : Nat), G7.2 t = some (.inl (10, fs8)) ∧ fs8[9]? = some (.ref r9) ∧
    ∃ (fs10 : List Value) (x11 : Int32), G7.2 r9 = some (.inl (7, fs10)) ∧ fs10[0]? = some (.int x11) ∧
    Q.1 x11 G7) gNo
set_option maxRecDepth 100000 in
theorem V_TD_regionCount_0_ok {t : Nat} {G : GH} {Q : GQ} (h : V_TD_regionCount_0 t G Q) : WP M_TD_regionCount 0 0 0 [some (.ref t)] [] G Q := WP.ofV (T := T_TD_regionCount) (hh := []) rfl rfl [] 15 h
theorem E_TD_regionCount {t : Nat} {G : GH} {K : Int32 → GH → Prop} {KX : String → GH → Prop} (h : V_TD_regionCount_0 t G (gQi K KX)) : CI M_TD_regionCount [.ref t] G K KX := CI.of rfl rfl rfl (V_TD_regionCount_0_ok h)
def V_TD_largestRegion_0 (t : Nat) (G : GH) (Q : GQ) : Prop :=
  ∃ (fs1 : List Value) (r2 : Nat), G.2 t = some (.inl (10, fs1)) ∧ fs1[9]? = some (.ref r2) ∧
  ∃ (fs3 : List Value) (r4 : Nat), G.2 t = some (.inl (10, fs3)) ∧ fs3[1]? = some (.ref r4) ∧
  ∃ (fs5 : List Value) (r6 : Nat), G.2 r4 = some (.inl (8, fs5)) ∧ fs5[0]? = some (.ref r6) ∧
  CV M_Rg_survey [.ref r2, .ref r6] G (fun (G7 : GH) =>
    WP M_TD_largestRegion 0 0 18 [some (.ref t), some (.int (nI 0)), some (.int (nI 0))] [] G7 Q) gNo
set_option maxRecDepth 100000 in
theorem V_TD_largestRegion_0_ok {t : Nat} {G : GH} {Q : GQ} (h : V_TD_largestRegion_0 t G Q) : WP M_TD_largestRegion 0 0 0 [some (.ref t), none, none] [] G Q := WP.ofV (T := T_TD_largestRegion) (hh := []) rfl rfl [(18, [true, true, true])] 31 h
theorem E_TD_largestRegion {t : Nat} {G : GH} {K : Int32 → GH → Prop} {KX : String → GH → Prop} (h : V_TD_largestRegion_0 t G (gQi K KX)) : CI M_TD_largestRegion [.ref t] G K KX := CI.of rfl rfl rfl (V_TD_largestRegion_0_ok h)
def V_TD_largestRegion_18 (t : Nat) (a1 : Int32) (a2 : Int32) (G : GH) (Q : GQ) : Prop :=
  ∃ (fs1 : List Value) (r2 : Nat), G.2 t = some (.inl (10, fs1)) ∧ fs1[9]? = some (.ref r2) ∧
  ∃ (fs3 : List Value) (x4 : Int32), G.2 r2 = some (.inl (7, fs3)) ∧ fs3[0]? = some (.int x4) ∧
  if a2 < x4 then
    ∃ (fs5 : List Value) (r6 : Nat), G.2 t = some (.inl (10, fs5)) ∧ fs5[9]? = some (.ref r6) ∧
    CI M_Rg_sizeOf [.ref r6, .int a2] G (fun (x8 : Int32) (G7 : GH) =>
      WP M_TD_largestRegion 0 0 18 [some (.ref t), some (.int (if a1 < x8 then x8 else a1)), some (.int (a2 + nI 1))] [] G7 Q) gNo
  else
    Q.1 a1 G
set_option maxRecDepth 100000 in
theorem V_TD_largestRegion_18_ok {t : Nat} {a1 : Int32} {a2 : Int32} {G : GH} {Q : GQ} (h : V_TD_largestRegion_18 t a1 a2 G Q) : WP M_TD_largestRegion 0 0 18 [some (.ref t), some (.int a1), some (.int a2)] [] G Q := WP.ofV (T := T_TD_largestRegion) (hh := []) rfl rfl [(18, [true, true, true])] 31 h
def V_TD_regionSize_0 (t : Nat) (a1 : Int32) (a2 : Int32) (G : GH) (Q : GQ) : Prop :=
  bif Nat.ble 1 1 && (Nat.ble 6 6 && Nat.ble (gCat []) 8) then CV M_TD_requireCell [.ref t, .int a1, .int a2] G (fun (G1 : GH) =>
    ∃ (fs2 : List Value) (r3 : Nat), G1.2 t = some (.inl (10, fs2)) ∧ fs2[9]? = some (.ref r3) ∧
    ∃ (fs4 : List Value) (r5 : Nat), G1.2 t = some (.inl (10, fs4)) ∧ fs4[1]? = some (.ref r5) ∧
    ∃ (fs6 : List Value) (r7 : Nat), G1.2 r5 = some (.inl (8, fs6)) ∧ fs6[0]? = some (.ref r7) ∧
    CV M_Rg_survey [.ref r3, .ref r7] G1 (fun (G8 : GH) =>
      ∃ (fs9 : List Value) (r10 : Nat), G8.2 t = some (.inl (10, fs9)) ∧ fs9[9]? = some (.ref r10) ∧
      CI M_Rg_sizeAt [.ref r10, .int a1, .int a2] G8 (fun (x12 : Int32) (G11 : GH) =>
        Q.1 x12 G11) gNo) gNo) (fun (E : String) (G : GH) => Q.2.2.2.2.2 E G) else False
set_option maxRecDepth 100000 in
theorem V_TD_regionSize_0_ok {t : Nat} {a1 : Int32} {a2 : Int32} {G : GH} {Q : GQ} (h : V_TD_regionSize_0 t a1 a2 G Q) : WP M_TD_regionSize 1 6 0 [some (.ref t), some (.int a1), some (.int a2)] [] G Q := WP.ofV (T := T_TD_regionSize) (hh := []) rfl rfl [] 21 h
theorem E_TD_regionSize {t : Nat} {a1 : Int32} {a2 : Int32} {G : GH} {K : Int32 → GH → Prop} {KX : String → GH → Prop} (h : V_TD_regionSize_0 t a1 a2 G (gQi K KX)) : CI M_TD_regionSize [.ref t, .int a1, .int a2] G K KX := CI.of rfl rfl rfl (V_TD_regionSize_0_ok h)
def V_TD_isDead_0 (t : Nat) (a1 : Int32) (a2 : Int32) (G : GH) (Q : GQ) : Prop :=
  bif Nat.ble 1 1 && (Nat.ble 6 6 && Nat.ble (gCat []) 8) then CV M_TD_requireCell [.ref t, .int a1, .int a2] G (fun (G1 : GH) =>
    ∃ (fs2 : List Value) (r3 : Nat), G1.2 t = some (.inl (10, fs2)) ∧ fs2[9]? = some (.ref r3) ∧
    ∃ (fs4 : List Value) (r5 : Nat), G1.2 t = some (.inl (10, fs4)) ∧ fs4[1]? = some (.ref r5) ∧
    ∃ (fs6 : List Value) (r7 : Nat), G1.2 r5 = some (.inl (8, fs6)) ∧ fs6[0]? = some (.ref r7) ∧
    CV M_Rg_survey [.ref r3, .ref r7] G1 (fun (G8 : GH) =>
      ∃ (fs9 : List Value) (r10 : Nat), G8.2 t = some (.inl (10, fs9)) ∧ fs9[9]? = some (.ref r10) ∧
      CI M_Rg_sizeAt [.ref r10, .int a1, .int a2] G8 (fun (x12 : Int32) (G11 : GH) =>
        if x12 = (nI 1) then
          ((nI 1) = nI 0 ∨ (nI 1) = nI 1) ∧ Q.1 (nI 1) G11
        else
          ((nI 0) = nI 0 ∨ (nI 0) = nI 1) ∧ Q.1 (nI 0) G11) gNo) gNo) (fun (E : String) (G : GH) => Q.2.2.2.2.2 E G) else False
set_option maxRecDepth 100000 in
theorem V_TD_isDead_0_ok {t : Nat} {a1 : Int32} {a2 : Int32} {G : GH} {Q : GQ} (h : V_TD_isDead_0 t a1 a2 G Q) : WP M_TD_isDead 1 6 0 [some (.ref t), some (.int a1), some (.int a2)] [] G Q := WP.ofV (T := T_TD_isDead) (hh := []) rfl rfl [] 26 h
theorem E_TD_isDead {t : Nat} {a1 : Int32} {a2 : Int32} {G : GH} {K : Int32 → GH → Prop} {KX : String → GH → Prop} (h : V_TD_isDead_0 t a1 a2 G (gQi K KX)) : CI M_TD_isDead [.ref t, .int a1, .int a2] G K KX := CI.of rfl rfl rfl (V_TD_isDead_0_ok h)
def V_TD_deadCells_0 (t : Nat) (G : GH) (Q : GQ) : Prop :=
  ∃ (fs1 : List Value) (r2 : Nat), G.2 t = some (.inl (10, fs1)) ∧ fs1[9]? = some (.ref r2) ∧
  ∃ (fs3 : List Value) (r4 : Nat), G.2 t = some (.inl (10, fs3)) ∧ fs3[1]? = some (.ref r4) ∧
  ∃ (fs5 : List Value) (r6 : Nat), G.2 r4 = some (.inl (8, fs5)) ∧ fs5[0]? = some (.ref r6) ∧
  CV M_Rg_survey [.ref r2, .ref r6] G (fun (G7 : GH) =>
    WP M_TD_deadCells 0 0 18 [some (.ref t), some (.int (nI 0)), some (.int (nI 0))] [] G7 Q) gNo
set_option maxRecDepth 100000 in
theorem V_TD_deadCells_0_ok {t : Nat} {G : GH} {Q : GQ} (h : V_TD_deadCells_0 t G Q) : WP M_TD_deadCells 0 0 0 [some (.ref t), none, none] [] G Q := WP.ofV (T := T_TD_deadCells) (hh := []) rfl rfl [(18, [true, true, true])] 31 h
theorem E_TD_deadCells {t : Nat} {G : GH} {K : Int32 → GH → Prop} {KX : String → GH → Prop} (h : V_TD_deadCells_0 t G (gQi K KX)) : CI M_TD_deadCells [.ref t] G K KX := CI.of rfl rfl rfl (V_TD_deadCells_0_ok h)
def V_TD_deadCells_18 (t : Nat) (a1 : Int32) (a2 : Int32) (G : GH) (Q : GQ) : Prop :=
  ∃ (fs1 : List Value) (r2 : Nat), G.2 t = some (.inl (10, fs1)) ∧ fs1[9]? = some (.ref r2) ∧
  ∃ (fs3 : List Value) (x4 : Int32), G.2 r2 = some (.inl (7, fs3)) ∧ fs3[0]? = some (.int x4) ∧
  if a2 < x4 then
    ∃ (fs5 : List Value) (r6 : Nat), G.2 t = some (.inl (10, fs5)) ∧ fs5[9]? = some (.ref r6) ∧
    CI M_Rg_sizeOf [.ref r6, .int a2] G (fun (x8 : Int32) (G7 : GH) =>
      if x8 = (nI 1) then
        WP M_TD_deadCells 0 0 18 [some (.ref t), some (.int (a1 + nI 1)), some (.int (a2 + nI 1))] [] G7 Q
      else
        WP M_TD_deadCells 0 0 18 [some (.ref t), some (.int a1), some (.int (a2 + nI 1))] [] G7 Q) gNo
  else
    Q.1 a1 G
set_option maxRecDepth 100000 in
theorem V_TD_deadCells_18_ok {t : Nat} {a1 : Int32} {a2 : Int32} {G : GH} {Q : GQ} (h : V_TD_deadCells_18 t a1 a2 G Q) : WP M_TD_deadCells 0 0 18 [some (.ref t), some (.int a1), some (.int a2)] [] G Q := WP.ofV (T := T_TD_deadCells) (hh := []) rfl rfl [(18, [true, true, true])] 31 h
def V_TD_inconsistencies_0 (t : Nat) (G : GH) (Q : GQ) : Prop :=
  WP M_TD_inconsistencies 0 0 9 [some (.ref t), some (.int (nI 0)), some (.int (nI 0)), some (.int (nI 0)), some (.int (nI 0)), none] [] G Q
set_option maxRecDepth 100000 in
theorem V_TD_inconsistencies_0_ok {t : Nat} {G : GH} {Q : GQ} (h : V_TD_inconsistencies_0 t G Q) : WP M_TD_inconsistencies 0 0 0 [some (.ref t), none, none, none, none, none] [] G Q := WP.ofV (T := T_TD_inconsistencies) (hh := []) rfl rfl [(9, [true, true, true, true, true, false])] 96 h
theorem E_TD_inconsistencies {t : Nat} {G : GH} {K : Int32 → GH → Prop} {KX : String → GH → Prop} (h : V_TD_inconsistencies_0 t G (gQi K KX)) : CI M_TD_inconsistencies [.ref t] G K KX := CI.of rfl rfl rfl (V_TD_inconsistencies_0_ok h)
def V_TD_inconsistencies_9 (t : Nat) (a1 : Int32) (a2 : Int32) (a3 : Int32) (a4 : Int32) (G : GH) (Q : GQ) : Prop :=
  ∃ (fs1 : List Value) (r2 : Nat), G.2 t = some (.inl (10, fs1)) ∧ fs1[1]? = some (.ref r2) ∧
  ∃ (fs3 : List Value) (r4 : Nat), G.2 r2 = some (.inl (8, fs3)) ∧ fs3[1]? = some (.ref r4) ∧
  ∃ (fs5 : List Value) (x6 : Int32), G.2 r4 = some (.inl (4, fs5)) ∧ fs5[0]? = some (.int x6) ∧
  if a4 < x6 then
    ∃ (fs7 : List Value) (r8 : Nat), G.2 t = some (.inl (10, fs7)) ∧ fs7[6]? = some (.ref r8) ∧
    ∃ (fs9 : List Value) (r10 : Nat), G.2 t = some (.inl (10, fs9)) ∧ fs9[1]? = some (.ref r10) ∧
    ∃ (fs11 : List Value) (r12 : Nat), G.2 r10 = some (.inl (8, fs11)) ∧ fs11[1]? = some (.ref r12) ∧
    CI M_Pi_shapeOf [.ref r12, .int a4] G (fun (x14 : Int32) (G13 : GH) =>
      ∃ (fs15 : List Value) (r16 : Nat), G13.2 t = some (.inl (10, fs15)) ∧ fs15[1]? = some (.ref r16) ∧
      ∃ (fs17 : List Value) (r18 : Nat), G13.2 r16 = some (.inl (8, fs17)) ∧ fs17[1]? = some (.ref r18) ∧
      CI M_Pi_rotationOf [.ref r18, .int a4] G13 (fun (x20 : Int32) (G19 : GH) =>
        CV M_Fp_turn [.ref r8, .int x14, .int x20] G19 (fun (G21 : GH) =>
          ∃ (fs22 : List Value) (r23 : Nat), G21.2 t = some (.inl (10, fs22)) ∧ fs22[6]? = some (.ref r23) ∧
          ∃ (fs24 : List Value) (r25 : Nat), G21.2 t = some (.inl (10, fs24)) ∧ fs24[1]? = some (.ref r25) ∧
          ∃ (fs26 : List Value) (r27 : Nat), G21.2 r25 = some (.inl (8, fs26)) ∧ fs26[1]? = some (.ref r27) ∧
          CI M_Pi_anchorColumnOf [.ref r27, .int a4] G21 (fun (x29 : Int32) (G28 : GH) =>
            ∃ (fs30 : List Value) (r31 : Nat), G28.2 t = some (.inl (10, fs30)) ∧ fs30[1]? = some (.ref r31) ∧
            ∃ (fs32 : List Value) (r33 : Nat), G28.2 r31 = some (.inl (8, fs32)) ∧ fs32[1]? = some (.ref r33) ∧
            CI M_Pi_anchorRowOf [.ref r33, .int a4] G28 (fun (x35 : Int32) (G34 : GH) =>
              CV M_Fp_moveTo [.ref r23, .int x29, .int x35] G34 (fun (G36 : GH) =>
                ∃ (fs37 : List Value) (r38 : Nat), G36.2 t = some (.inl (10, fs37)) ∧ fs37[1]? = some (.ref r38) ∧
                ∃ (fs39 : List Value) (r40 : Nat), G36.2 r38 = some (.inl (8, fs39)) ∧ fs39[1]? = some (.ref r40) ∧
                CI M_Pi_pointsOf [.ref r40, .int a4] G36 (fun (x42 : Int32) (G41 : GH) =>
                  ∃ (fs43 : List Value) (r44 : Nat), G41.2 t = some (.inl (10, fs43)) ∧ fs43[6]? = some (.ref r44) ∧
                  ∃ (fs45 : List Value) (x46 : Int32), G41.2 r44 = some (.inl (2, fs45)) ∧ fs45[4]? = some (.int x46) ∧
                  ∃ (fs47 : List Value) (r48 : Nat), G41.2 t = some (.inl (10, fs47)) ∧ fs47[1]? = some (.ref r48) ∧
                  ∃ (fs49 : List Value) (r50 : Nat), G41.2 r48 = some (.inl (8, fs49)) ∧ fs49[0]? = some (.ref r50) ∧
                  ∃ (fs51 : List Value) (r52 : Nat), G41.2 t = some (.inl (10, fs51)) ∧ fs51[6]? = some (.ref r52) ∧
                  CI M_Tk_isCrossedBy [.ref r50, .ref r52] G41 (fun (x54 : Int32) (G53 : GH) =>
                    if x54 = (nI 0) then
                      WP M_TD_inconsistencies 0 0 9 [some (.ref t), some (.int (a1 + x42)), some (.int (a2 + x46)), some (.int a3), some (.int (a4 + nI 1)), none] [] G53 Q
                    else
                      WP M_TD_inconsistencies 0 0 9 [some (.ref t), some (.int (a1 + x42)), some (.int (a2 + x46)), some (.int (a3 + nI 1)), some (.int (a4 + nI 1)), none] [] G53 Q) gNo) gNo) gNo) gNo) gNo) gNo) gNo) gNo
  else
    ∃ (fs55 : List Value) (r56 : Nat), G.2 t = some (.inl (10, fs55)) ∧ fs55[1]? = some (.ref r56) ∧
    ∃ (fs57 : List Value) (r58 : Nat), G.2 r56 = some (.inl (8, fs57)) ∧ fs57[2]? = some (.ref r58) ∧
    ∃ (fs59 : List Value) (x60 : Int32), G.2 r58 = some (.inl (5, fs59)) ∧ fs59[0]? = some (.int x60) ∧
    ∃ (fs61 : List Value) (r62 : Nat), G.2 t = some (.inl (10, fs61)) ∧ fs61[1]? = some (.ref r62) ∧
    ∃ (fs63 : List Value) (r64 : Nat), G.2 r62 = some (.inl (8, fs63)) ∧ fs63[3]? = some (.ref r64) ∧
    ∃ (fs65 : List Value) (x66 : Int32), G.2 r64 = some (.inl (5, fs65)) ∧ fs65[0]? = some (.int x66) ∧
    ∃ (fs67 : List Value) (r68 : Nat), G.2 t = some (.inl (10, fs67)) ∧ fs67[1]? = some (.ref r68) ∧
    ∃ (fs69 : List Value) (r70 : Nat), G.2 r68 = some (.inl (8, fs69)) ∧ fs69[0]? = some (.ref r70) ∧
    CI M_Tk_countCovered [.ref r70] G (fun (x72 : Int32) (G71 : GH) =>
      Q.1 (((if 0 ≤ (a1 - (x60 + x66)) then a1 - (x60 + x66) else 0 - (a1 - (x60 + x66))) + a3) + (if 0 ≤ (x72 - a2) then x72 - a2 else 0 - (x72 - a2))) G71) gNo
set_option maxRecDepth 100000 in
theorem V_TD_inconsistencies_9_ok {t : Nat} {a1 : Int32} {a2 : Int32} {a3 : Int32} {a4 : Int32} {G : GH} {Q : GQ} (h : V_TD_inconsistencies_9 t a1 a2 a3 a4 G Q) : WP M_TD_inconsistencies 0 0 9 [some (.ref t), some (.int a1), some (.int a2), some (.int a3), some (.int a4), none] [] G Q := WP.ofV (T := T_TD_inconsistencies) (hh := []) rfl rfl [(9, [true, true, true, true, true, false])] 96 h
def V_TD_coverage_0 (t : Nat) (G : GH) (Q : GQ) : Prop :=
  ∃ (fs1 : List Value) (r2 : Nat), G.2 t = some (.inl (10, fs1)) ∧ fs1[1]? = some (.ref r2) ∧
  ∃ (fs3 : List Value) (r4 : Nat), G.2 r2 = some (.inl (8, fs3)) ∧ fs3[0]? = some (.ref r4) ∧
  CI M_Tk_countCovered [.ref r4] G (fun (x6 : Int32) (G5 : GH) =>
    ∃ (fs7 : List Value) (r8 : Nat), G5.2 t = some (.inl (10, fs7)) ∧ fs7[1]? = some (.ref r8) ∧
    ∃ (fs9 : List Value) (r10 : Nat), G5.2 r8 = some (.inl (8, fs9)) ∧ fs9[0]? = some (.ref r10) ∧
    CI M_Tk_countCells [.ref r10, .int (-nI 1)] G5 (fun (x12 : Int32) (G11 : GH) =>
      if (x6 + x12) = (nI 0) then
        Q.2.2.2.1 FP.dconst0 G11
      else
        vf_n64 (FP.ddiv (FP.i2d x6) (FP.i2d (x6 + x12))) ∧
        Q.2.2.2.1 (FP.ddiv (FP.i2d x6) (FP.i2d (x6 + x12))) G11) gNo) gNo
set_option maxRecDepth 100000 in
theorem V_TD_coverage_0_ok {t : Nat} {G : GH} {Q : GQ} (h : V_TD_coverage_0 t G Q) : WP M_TD_coverage 0 0 0 [some (.ref t), none, none] [] G Q := WP.ofV (T := T_TD_coverage) (hh := []) rfl rfl [] 28 h
theorem E_TD_coverage {t : Nat} {G : GH} {K : UInt64 → GH → Prop} (h : V_TD_coverage_0 t G (gQd K)) : CD M_TD_coverage [.ref t] G K := CD.of rfl rfl rfl (V_TD_coverage_0_ok h)
def V_TD_meanRegion_0 (t : Nat) (G : GH) (Q : GQ) : Prop :=
  ∃ (fs1 : List Value) (r2 : Nat), G.2 t = some (.inl (10, fs1)) ∧ fs1[9]? = some (.ref r2) ∧
  ∃ (fs3 : List Value) (r4 : Nat), G.2 t = some (.inl (10, fs3)) ∧ fs3[1]? = some (.ref r4) ∧
  ∃ (fs5 : List Value) (r6 : Nat), G.2 r4 = some (.inl (8, fs5)) ∧ fs5[0]? = some (.ref r6) ∧
  CV M_Rg_survey [.ref r2, .ref r6] G (fun (G7 : GH) =>
    ∃ (fs8 : List Value) (r9 : Nat), G7.2 t = some (.inl (10, fs8)) ∧ fs8[9]? = some (.ref r9) ∧
    ∃ (fs10 : List Value) (x11 : Int32), G7.2 r9 = some (.inl (7, fs10)) ∧ fs10[0]? = some (.int x11) ∧
    if x11 = (nI 0) then
      Q.2.2.2.2.1 FP.fconst0 G7
    else
      ∃ (fs12 : List Value) (r13 : Nat), G7.2 t = some (.inl (10, fs12)) ∧ fs12[1]? = some (.ref r13) ∧
      ∃ (fs14 : List Value) (r15 : Nat), G7.2 r13 = some (.inl (8, fs14)) ∧ fs14[0]? = some (.ref r15) ∧
      CI M_Tk_countCells [.ref r15, .int (-nI 1)] G7 (fun (x17 : Int32) (G16 : GH) =>
        ∃ (fs18 : List Value) (r19 : Nat), G16.2 t = some (.inl (10, fs18)) ∧ fs18[9]? = some (.ref r19) ∧
        ∃ (fs20 : List Value) (x21 : Int32), G16.2 r19 = some (.inl (7, fs20)) ∧ fs20[0]? = some (.int x21) ∧
        vf_n32 (FP.fdiv (FP.i2f x17) (FP.i2f x21)) ∧
        Q.2.2.2.2.1 (FP.fdiv (FP.i2f x17) (FP.i2f x21)) G16) gNo) gNo
set_option maxRecDepth 100000 in
theorem V_TD_meanRegion_0_ok {t : Nat} {G : GH} {Q : GQ} (h : V_TD_meanRegion_0 t G Q) : WP M_TD_meanRegion 0 0 0 [some (.ref t)] [] G Q := WP.ofV (T := T_TD_meanRegion) (hh := []) rfl rfl [] 29 h
theorem E_TD_meanRegion {t : Nat} {G : GH} {K : UInt32 → GH → Prop} (h : V_TD_meanRegion_0 t G (gQf K)) : CF M_TD_meanRegion [.ref t] G K := CF.of rfl rfl rfl (V_TD_meanRegion_0_ok h)
def V_TD_writeTrunk_0 (t : Nat) (G : GH) (Q : GQ) : Prop :=
  t < gRB ∧ ∃ (fs1 : List Value), G.2 t = some (.inl (10, fs1)) ∧ gFit 0 (.int (nI 0)) ∧
  let G2 : GH := gU G t (.inl (10, fs1.set 11 (.int (nI 0))));
  WP M_TD_writeTrunk 0 0 7 [some (.ref t), some (.int (nI 0)), none] [] G2 Q
set_option maxRecDepth 100000 in
theorem V_TD_writeTrunk_0_ok {t : Nat} {G : GH} {Q : GQ} (h : V_TD_writeTrunk_0 t G Q) : WP M_TD_writeTrunk 0 0 0 [some (.ref t), none, none] [] G Q := WP.ofV (T := T_TD_writeTrunk) (hh := []) rfl rfl [(7, [true, true, false]), (33, [true, true, true])] 45 h
theorem E_TD_writeTrunk {t : Nat} {G : GH} {K : Int32 → GH → Prop} {KX : String → GH → Prop} (h : V_TD_writeTrunk_0 t G (gQi K KX)) : CI M_TD_writeTrunk [.ref t] G K KX := CI.of rfl rfl rfl (V_TD_writeTrunk_0_ok h)
def V_TD_writeTrunk_7 (t : Nat) (a1 : Int32) (G : GH) (Q : GQ) : Prop :=
  ∃ (fs1 : List Value) (r2 : Nat), G.2 t = some (.inl (10, fs1)) ∧ fs1[1]? = some (.ref r2) ∧
  ∃ (fs3 : List Value) (r4 : Nat), G.2 r2 = some (.inl (8, fs3)) ∧ fs3[0]? = some (.ref r4) ∧
  ∃ (fs5 : List Value) (x6 : Int32), G.2 r4 = some (.inl (9, fs5)) ∧ fs5[1]? = some (.int x6) ∧
  if a1 < x6 then
    if (nI 0) < a1 then
      CV M_TD_writeByte [.ref t, .int (nI 10)] G (fun (G7 : GH) =>
        WP M_TD_writeTrunk 0 0 33 [some (.ref t), some (.int a1), some (.int (nI 0))] [] G7 Q) gNo
    else
      WP M_TD_writeTrunk 0 0 33 [some (.ref t), some (.int a1), some (.int (nI 0))] [] G Q
  else
    ∃ (fs8 : List Value) (x9 : Int32), G.2 t = some (.inl (10, fs8)) ∧ fs8[11]? = some (.int x9) ∧
    Q.1 x9 G
set_option maxRecDepth 100000 in
theorem V_TD_writeTrunk_7_ok {t : Nat} {a1 : Int32} {G : GH} {Q : GQ} (h : V_TD_writeTrunk_7 t a1 G Q) : WP M_TD_writeTrunk 0 0 7 [some (.ref t), some (.int a1), none] [] G Q := WP.ofV (T := T_TD_writeTrunk) (hh := []) rfl rfl [(7, [true, true, false]), (33, [true, true, true])] 45 h
def V_TD_writeTrunk_33 (t : Nat) (a1 : Int32) (a2 : Int32) (G : GH) (Q : GQ) : Prop :=
  ∃ (fs1 : List Value) (r2 : Nat), G.2 t = some (.inl (10, fs1)) ∧ fs1[1]? = some (.ref r2) ∧
  ∃ (fs3 : List Value) (r4 : Nat), G.2 r2 = some (.inl (8, fs3)) ∧ fs3[0]? = some (.ref r4) ∧
  ∃ (fs5 : List Value) (x6 : Int32), G.2 r4 = some (.inl (9, fs5)) ∧ fs5[0]? = some (.int x6) ∧
  if a2 < x6 then
    ∃ (fs7 : List Value) (r8 : Nat), G.2 t = some (.inl (10, fs7)) ∧ fs7[1]? = some (.ref r8) ∧
    ∃ (fs9 : List Value) (r10 : Nat), G.2 r8 = some (.inl (8, fs9)) ∧ fs9[0]? = some (.ref r10) ∧
    CI M_Tk_cellAt [.ref r10, .int a2, .int a1] G (fun (x12 : Int32) (G11 : GH) =>
      CI M_TD_signOf [.int x12] G11 (fun (x14 : Int32) (G13 : GH) =>
        CV M_TD_writeByte [.ref t, .int x14] G13 (fun (G15 : GH) =>
          WP M_TD_writeTrunk 0 0 33 [some (.ref t), some (.int a1), some (.int (a2 + nI 1))] [] G15 Q) gNo) gNo) gNo
  else
    WP M_TD_writeTrunk 0 0 7 [some (.ref t), some (.int (a1 + nI 1)), none] [] G Q
set_option maxRecDepth 100000 in
theorem V_TD_writeTrunk_33_ok {t : Nat} {a1 : Int32} {a2 : Int32} {G : GH} {Q : GQ} (h : V_TD_writeTrunk_33 t a1 a2 G Q) : WP M_TD_writeTrunk 0 0 33 [some (.ref t), some (.int a1), some (.int a2)] [] G Q := WP.ofV (T := T_TD_writeTrunk) (hh := []) rfl rfl [(7, [true, true, false]), (33, [true, true, true])] 45 h
def V_TD_outputByte_0 (t : Nat) (a1 : Int32) (G : GH) (Q : GQ) : Prop :=
  if a1 < (nI 0) then
    Q.1 (-nI 1) G
  else
    ∃ (fs1 : List Value) (x2 : Int32), G.2 t = some (.inl (10, fs1)) ∧ fs1[11]? = some (.int x2) ∧
    if a1 < x2 then
      ∃ (fs3 : List Value) (r4 : Nat), G.2 t = some (.inl (10, fs3)) ∧ fs3[10]? = some (.ref r4) ∧
      ∃ (m5 : Nat) (f6 : Nat → Int32), G.2 r4 = some (.inr (.int, m5, .inl f6)) ∧ vp_in a1 m5 ∧
      Q.1 (f6 (a1).toNatClampNeg) G
    else
      Q.1 (-nI 1) G
set_option maxRecDepth 100000 in
theorem V_TD_outputByte_0_ok {t : Nat} {a1 : Int32} {G : GH} {Q : GQ} (h : V_TD_outputByte_0 t a1 G Q) : WP M_TD_outputByte 0 0 0 [some (.ref t), some (.int a1)] [] G Q := WP.ofV (T := T_TD_outputByte) (hh := []) rfl rfl [] 18 h
theorem E_TD_outputByte {t : Nat} {a1 : Int32} {G : GH} {K : Int32 → GH → Prop} {KX : String → GH → Prop} (h : V_TD_outputByte_0 t a1 G (gQi K KX)) : CI M_TD_outputByte [.ref t, .int a1] G K KX := CI.of rfl rfl rfl (V_TD_outputByte_0_ok h)
def V_TD_writeByte_0 (t : Nat) (a1 : Int32) (G : GH) (Q : GQ) : Prop :=
  ∃ (fs1 : List Value) (x2 : Int32), G.2 t = some (.inl (10, fs1)) ∧ fs1[11]? = some (.int x2) ∧
  if x2 < (nI 71) then
    ∃ (fs3 : List Value) (r4 : Nat), G.2 t = some (.inl (10, fs3)) ∧ fs3[10]? = some (.ref r4) ∧
    ∃ (fs5 : List Value) (x6 : Int32), G.2 t = some (.inl (10, fs5)) ∧ fs5[11]? = some (.int x6) ∧
    r4 < gRB ∧ ∃ (m7 : Nat) (f8 : Nat → Int32), G.2 r4 = some (.inr (.int, m7, .inl f8)) ∧ vp_in x6 m7 ∧
    let G9 : GH := gU G r4 (.inr (.int, m7, .inl (upd f8 (x6).toNatClampNeg a1)));
    ∃ (fs10 : List Value) (x11 : Int32), G9.2 t = some (.inl (10, fs10)) ∧ fs10[11]? = some (.int x11) ∧
    t < gRB ∧ ∃ (fs12 : List Value), G9.2 t = some (.inl (10, fs12)) ∧ gFit 0 (.int (x11 + (nI 1))) ∧
    let G13 : GH := gU G9 t (.inl (10, fs12.set 11 (.int (x11 + (nI 1)))));
    Q.2.1 G13
  else
    Q.2.1 G
set_option maxRecDepth 100000 in
theorem V_TD_writeByte_0_ok {t : Nat} {a1 : Int32} {G : GH} {Q : GQ} (h : V_TD_writeByte_0 t a1 G Q) : WP M_TD_writeByte 0 0 0 [some (.ref t), some (.int a1)] [] G Q := WP.ofV (T := T_TD_writeByte) (hh := []) rfl rfl [] 22 h
theorem E_TD_writeByte {t : Nat} {a1 : Int32} {G : GH} {K : GH → Prop} {KX : String → GH → Prop} (h : V_TD_writeByte_0 t a1 G (gQv K KX)) : CV M_TD_writeByte [.ref t, .int a1] G K KX := CV.of rfl rfl rfl (V_TD_writeByte_0_ok h)
def V_TD_signOf_0 (a0 : Int32) (G : GH) (Q : GQ) : Prop :=
  if a0 = (-nI 1) then
    Q.1 (nI 46) G
  else
    if a0 = (-nI 2) then
      Q.1 (nI 35) G
    else
      if a0 < (nI 26) then
        Q.1 ((nI 97) + a0) G
      else
        Q.1 (((nI 65) + a0) - (nI 26)) G
set_option maxRecDepth 100000 in
theorem V_TD_signOf_0_ok {a0 : Int32} {G : GH} {Q : GQ} (h : V_TD_signOf_0 a0 G Q) : WP M_TD_signOf 0 0 0 [some (.int a0)] [] G Q := WP.ofV (T := T_TD_signOf) (hh := []) rfl rfl [] 28 h
theorem E_TD_signOf {a0 : Int32} {G : GH} {K : Int32 → GH → Prop} {KX : String → GH → Prop} (h : V_TD_signOf_0 a0 G (gQi K KX)) : CI M_TD_signOf [.int a0] G K KX := CI.of rfl rfl rfl (V_TD_signOf_0_ok h)
def V_TD_aimAt_0 (t : Nat) (a1 : Int32) (a2 : Int32) (a3 : Int32) (a4 : Int32) (G : GH) (Q : GQ) : Prop :=
  bif Nat.ble 1 3 && (Nat.ble 6 18 && Nat.ble (gCat []) 8) then CV M_TD_requireShape [.int a1] G (fun (G1 : GH) =>
    if a2 < (nI 0) then
      1 ≤ 2 ∧ 6 ≤ 12 ∧ Q.2.2.2.2.2 "java/lang/IllegalArgumentException" (gDirty G1)
    else
      if a2 < (nI 4) then
        bif Nat.ble 1 2 && (Nat.ble 6 12 && Nat.ble (gCat []) 8) then CV M_TD_requireCell [.ref t, .int a3, .int a4] G1 (fun (G2 : GH) =>
          ∃ (fs3 : List Value) (r4 : Nat), G2.2 t = some (.inl (10, fs3)) ∧ fs3[6]? = some (.ref r4) ∧
          CV M_Fp_turn [.ref r4, .int a1, .int a2] G2 (fun (G5 : GH) =>
            ∃ (fs6 : List Value) (r7 : Nat), G5.2 t = some (.inl (10, fs6)) ∧ fs6[6]? = some (.ref r7) ∧
            CV M_Fp_moveTo [.ref r7, .int a3, .int a4] G5 (fun (G8 : GH) =>
              Q.2.1 G8) gNo) gNo) (fun (E : String) (G : GH) => Q.2.2.2.2.2 E G) else False
      else
        1 ≤ 2 ∧ 6 ≤ 12 ∧ Q.2.2.2.2.2 "java/lang/IllegalArgumentException" (gDirty G1)) (fun (E : String) (G : GH) => Q.2.2.2.2.2 E G) else False
set_option maxRecDepth 100000 in
theorem V_TD_aimAt_0_ok {t : Nat} {a1 : Int32} {a2 : Int32} {a3 : Int32} {a4 : Int32} {G : GH} {Q : GQ} (h : V_TD_aimAt_0 t a1 a2 a3 a4 G Q) : WP M_TD_aimAt 3 18 0 [some (.ref t), some (.int a1), some (.int a2), some (.int a3), some (.int a4)] [] G Q := WP.ofV (T := T_TD_aimAt) (hh := []) rfl rfl [] 28 h
theorem E_TD_aimAt {t : Nat} {a1 : Int32} {a2 : Int32} {a3 : Int32} {a4 : Int32} {G : GH} {K : GH → Prop} {KX : String → GH → Prop} (h : V_TD_aimAt_0 t a1 a2 a3 a4 G (gQv K KX)) : CV M_TD_aimAt [.ref t, .int a1, .int a2, .int a3, .int a4] G K KX := CV.of rfl rfl rfl (V_TD_aimAt_0_ok h)
def V_TD_requireShape_0 (a0 : Int32) (G : GH) (Q : GQ) : Prop :=
  if a0 < (nI 0) then
    1 ≤ 1 ∧ 6 ≤ 6 ∧ Q.2.2.2.2.2 "java/lang/IllegalArgumentException" (gDirty G)
  else
    if a0 < (nI 5) then
      Q.2.1 G
    else
      1 ≤ 1 ∧ 6 ≤ 6 ∧ Q.2.2.2.2.2 "java/lang/IllegalArgumentException" (gDirty G)
set_option maxRecDepth 100000 in
theorem V_TD_requireShape_0_ok {a0 : Int32} {G : GH} {Q : GQ} (h : V_TD_requireShape_0 a0 G Q) : WP M_TD_requireShape 1 6 0 [some (.int a0)] [] G Q := WP.ofV (T := T_TD_requireShape) (hh := []) rfl rfl [] 12 h
theorem E_TD_requireShape {a0 : Int32} {G : GH} {K : GH → Prop} {KX : String → GH → Prop} (h : V_TD_requireShape_0 a0 G (gQv K KX)) : CV M_TD_requireShape [.int a0] G K KX := CV.of rfl rfl rfl (V_TD_requireShape_0_ok h)
def V_TD_requireSlot_0 (a0 : Int32) (G : GH) (Q : GQ) : Prop :=
  if a0 < (nI 0) then
    1 ≤ 1 ∧ 6 ≤ 6 ∧ Q.2.2.2.2.2 "java/lang/IllegalArgumentException" (gDirty G)
  else
    if a0 < (nI 2) then
      Q.2.1 G
    else
      1 ≤ 1 ∧ 6 ≤ 6 ∧ Q.2.2.2.2.2 "java/lang/IllegalArgumentException" (gDirty G)
set_option maxRecDepth 100000 in
theorem V_TD_requireSlot_0_ok {a0 : Int32} {G : GH} {Q : GQ} (h : V_TD_requireSlot_0 a0 G Q) : WP M_TD_requireSlot 1 6 0 [some (.int a0)] [] G Q := WP.ofV (T := T_TD_requireSlot) (hh := []) rfl rfl [] 12 h
theorem E_TD_requireSlot {a0 : Int32} {G : GH} {K : GH → Prop} {KX : String → GH → Prop} (h : V_TD_requireSlot_0 a0 G (gQv K KX)) : CV M_TD_requireSlot [.int a0] G K KX := CV.of rfl rfl rfl (V_TD_requireSlot_0_ok h)
def V_TD_requirePlayer_0 (a0 : Int32) (G : GH) (Q : GQ) : Prop :=
  if a0 < (nI 0) then
    1 ≤ 1 ∧ 6 ≤ 6 ∧ Q.2.2.2.2.2 "java/lang/IndexOutOfBoundsException" (gDirty G)
  else
    if a0 < (nI 2) then
      Q.2.1 G
    else
      1 ≤ 1 ∧ 6 ≤ 6 ∧ Q.2.2.2.2.2 "java/lang/IndexOutOfBoundsException" (gDirty G)
set_option maxRecDepth 100000 in
theorem V_TD_requirePlayer_0_ok {a0 : Int32} {G : GH} {Q : GQ} (h : V_TD_requirePlayer_0 a0 G Q) : WP M_TD_requirePlayer 1 6 0 [some (.int a0)] [] G Q := WP.ofV (T := T_TD_requirePlayer) (hh := []) rfl rfl [] 12 h
theorem E_TD_requirePlayer {a0 : Int32} {G : GH} {K : GH → Prop} {KX : String → GH → Prop} (h : V_TD_requirePlayer_0 a0 G (gQv K KX)) : CV M_TD_requirePlayer [.int a0] G K KX := CV.of rfl rfl rfl (V_TD_requirePlayer_0_ok h)
def V_TD_requireCell_0 (t : Nat) (a1 : Int32) (a2 : Int32) (G : GH) (Q : GQ) : Prop :=
  ∃ (fs1 : List Value) (r2 : Nat), G.2 t = some (.inl (10, fs1)) ∧ fs1[1]? = some (.ref r2) ∧
  ∃ (fs3 : List Value) (r4 : Nat), G.2 r2 = some (.inl (8, fs3)) ∧ fs3[0]? = some (.ref r4) ∧
  CI M_Tk_holds [.ref r4, .int a1, .int a2] G (fun (x6 : Int32) (G5 : GH) =>
    if x6 = (nI 0) then
      1 ≤ 1 ∧ 6 ≤ 6 ∧ Q.2.2.2.2.2 "java/lang/IndexOutOfBoundsException" (gDirty G5)
    else
      Q.2.1 G5) gNo
set_option maxRecDepth 100000 in
theorem V_TD_requireCell_0_ok {t : Nat} {a1 : Int32} {a2 : Int32} {G : GH} {Q : GQ} (h : V_TD_requireCell_0 t a1 a2 G Q) : WP M_TD_requireCell 1 6 0 [some (.ref t), some (.int a1), some (.int a2)] [] G Q := WP.ofV (T := T_TD_requireCell) (hh := []) rfl rfl [] 14 h
theorem E_TD_requireCell {t : Nat} {a1 : Int32} {a2 : Int32} {G : GH} {K : GH → Prop} {KX : String → GH → Prop} (h : V_TD_requireCell_0 t a1 a2 G (gQv K KX)) : CV M_TD_requireCell [.ref t, .int a1, .int a2] G K KX := CV.of rfl rfl rfl (V_TD_requireCell_0_ok h)
def V_TD_requireEdge_0 (t : Nat) (a1 : Int32) (a2 : Int32) (a3 : Int32) (G : GH) (Q : GQ) : Prop :=
  if a3 < (nI 0) then
    1 ≤ 2 ∧ 6 ≤ 12 ∧ Q.2.2.2.2.2 "java/lang/IllegalArgumentException" (gDirty G)
  else
    if a3 < (nI 2) then
      ∃ (fs1 : List Value) (r2 : Nat), G.2 t = some (.inl (10, fs1)) ∧ fs1[1]? = some (.ref r2) ∧
      ∃ (fs3 : List Value) (r4 : Nat), G.2 r2 = some (.inl (8, fs3)) ∧ fs3[0]? = some (.ref r4) ∧
      CI M_Tk_holdsEdge [.ref r4, .int a1, .int a2, .int a3] G (fun (x6 : Int32) (G5 : GH) =>
        if x6 = (nI 0) then
          1 ≤ 2 ∧ 6 ≤ 12 ∧ Q.2.2.2.2.2 "java/lang/IndexOutOfBoundsException" (gDirty G5)
        else
          Q.2.1 G5) gNo
    else
      1 ≤ 2 ∧ 6 ≤ 12 ∧ Q.2.2.2.2.2 "java/lang/IllegalArgumentException" (gDirty G)
set_option maxRecDepth 100000 in
theorem V_TD_requireEdge_0_ok {t : Nat} {a1 : Int32} {a2 : Int32} {a3 : Int32} {G : GH} {Q : GQ} (h : V_TD_requireEdge_0 t a1 a2 a3 G Q) : WP M_TD_requireEdge 2 12 0 [some (.ref t), some (.int a1), some (.int a2), some (.int a3)] [] G Q := WP.ofV (T := T_TD_requireEdge) (hh := []) rfl rfl [] 21 h
theorem E_TD_requireEdge {t : Nat} {a1 : Int32} {a2 : Int32} {a3 : Int32} {G : GH} {K : GH → Prop} {KX : String → GH → Prop} (h : V_TD_requireEdge_0 t a1 a2 a3 G (gQv K KX)) : CV M_TD_requireEdge [.ref t, .int a1, .int a2, .int a3] G K KX := CV.of rfl rfl rfl (V_TD_requireEdge_0_ok h)
def V_TD_requirePiece_0 (t : Nat) (a1 : Int32) (G : GH) (Q : GQ) : Prop :=
  if a1 < (nI 0) then
    1 ≤ 1 ∧ 6 ≤ 6 ∧ Q.2.2.2.2.2 "java/lang/IndexOutOfBoundsException" (gDirty G)
  else
    ∃ (fs1 : List Value) (r2 : Nat), G.2 t = some (.inl (10, fs1)) ∧ fs1[1]? = some (.ref r2) ∧
    ∃ (fs3 : List Value) (r4 : Nat), G.2 r2 = some (.inl (8, fs3)) ∧ fs3[1]? = some (.ref r4) ∧
    ∃ (fs5 : List Value) (x6 : Int32), G.2 r4 = some (.inl (4, fs5)) ∧ fs5[0]? = some (.int x6) ∧
    if a1 < x6 then
      Q.2.1 G
    else
      1 ≤ 1 ∧ 6 ≤ 6 ∧ Q.2.2.2.2.2 "java/lang/IndexOutOfBoundsException" (gDirty G)
set_option maxRecDepth 100000 in
theorem V_TD_requirePiece_0_ok {t : Nat} {a1 : Int32} {G : GH} {Q : GQ} (h : V_TD_requirePiece_0 t a1 G Q) : WP M_TD_requirePiece 1 6 0 [some (.ref t), some (.int a1)] [] G Q := WP.ofV (T := T_TD_requirePiece) (hh := []) rfl rfl [] 15 h
theorem E_TD_requirePiece {t : Nat} {a1 : Int32} {G : GH} {K : GH → Prop} {KX : String → GH → Prop} (h : V_TD_requirePiece_0 t a1 G (gQv K KX)) : CV M_TD_requirePiece [.ref t, .int a1] G K KX := CV.of rfl rfl rfl (V_TD_requirePiece_0_ok h)
