def V_Ch_init_0 (t : Nat) (G : GH) (Q : GQ) : Prop :=
  t < gRB ∧ ∃ (fs1 : List Value), G.2 t = some (.inl (0, fs1)) ∧ gFit 0 (.int (-nI 1)) ∧
  let G2 : GH := gU G t (.inl (0, fs1.set 0 (.int (-nI 1))));
  t < gRB ∧ ∃ (fs3 : List Value), G2.2 t = some (.inl (0, fs3)) ∧ gFit 0 (.int (-nI 1)) ∧
  let G4 : GH := gU G2 t (.inl (0, fs3.set 1 (.int (-nI 1))));
  t < gRB ∧ ∃ (fs5 : List Value), G4.2 t = some (.inl (0, fs5)) ∧ gFit 0 (.int (-nI 1)) ∧
  let G6 : GH := gU G4 t (.inl (0, fs5.set 2 (.int (-nI 1))));
  t < gRB ∧ ∃ (fs7 : List Value), G6.2 t = some (.inl (0, fs7)) ∧ gFit 0 (.int (-nI 1)) ∧
  let G8 : GH := gU G6 t (.inl (0, fs7.set 3 (.int (-nI 1))));
  t < gRB ∧ ∃ (fs9 : List Value), G8.2 t = some (.inl (0, fs9)) ∧ gFit 0 (.int (-nI 1)) ∧
  let G10 : GH := gU G8 t (.inl (0, fs9.set 4 (.int (-nI 1))));
  WP M_Ch_init 0 0 29 [some (.ref t)] [] G10 Q
set_option maxRecDepth 100000 in
theorem V_Ch_init_0_ok {t : Nat} {G : GH} {Q : GQ} (h : V_Ch_init_0 t G Q) : WP M_Ch_init 0 0 0 [some (.ref t)] [] G Q := WP.ofV (T := T_Ch_init) (hh := []) rfl rfl [(29, [true])] 23 h
theorem E_Ch_init {t : Nat} {G : GH} {K : GH → Prop} {KX : String → GH → Prop} (h : V_Ch_init_0 t G (gQv K KX)) : CV M_Ch_init [.ref t] G K KX := CV.of rfl rfl rfl (V_Ch_init_0_ok h)
def V_Ch_init_29 (t : Nat) (G : GH) (Q : GQ) : Prop :=
  Q.2.1 G
set_option maxRecDepth 100000 in
theorem V_Ch_init_29_ok {t : Nat} {G : GH} {Q : GQ} (h : V_Ch_init_29 t G Q) : WP M_Ch_init 0 0 29 [some (.ref t)] [] G Q := WP.ofV (T := T_Ch_init) (hh := []) rfl rfl [(29, [true])] 23 h
def V_Ch_search_0 (t : Nat) (p1 : Nat) (p2 : Nat) (G : GH) (Q : GQ) : Prop :=
  t < gRB ∧ ∃ (fs1 : List Value), G.2 t = some (.inl (0, fs1)) ∧ gFit 0 (.int (-nI 1)) ∧
  let G2 : GH := gU G t (.inl (0, fs1.set 0 (.int (-nI 1))));
  t < gRB ∧ ∃ (fs3 : List Value), G2.2 t = some (.inl (0, fs3)) ∧ gFit 0 (.int (-nI 1)) ∧
  let G4 : GH := gU G2 t (.inl (0, fs3.set 1 (.int (-nI 1))));
  t < gRB ∧ ∃ (fs5 : List Value), G4.2 t = some (.inl (0, fs5)) ∧ gFit 0 (.int (-nI 1)) ∧
  let G6 : GH := gU G4 t (.inl (0, fs5.set 2 (.int (-nI 1))));
  t < gRB ∧ ∃ (fs7 : List Value), G6.2 t = some (.inl (0, fs7)) ∧ gFit 0 (.int (-nI 1)) ∧
  let G8 : GH := gU G6 t (.inl (0, fs7.set 3 (.int (-nI 1))));
  t < gRB ∧ ∃ (fs9 : List Value), G8.2 t = some (.inl (0, fs9)) ∧ gFit 0 (.int (-nI 1)) ∧
  let G10 : GH := gU G8 t (.inl (0, fs9.set 4 (.int (-nI 1))));
  WP M_Ch_search 0 0 25 [some (.ref t), some (.ref p1), some (.ref p2), none] [] G10 Q
set_option maxRecDepth 100000 in
theorem V_Ch_search_0_ok {t : Nat} {p1 : Nat} {p2 : Nat} {G : GH} {Q : GQ} (h : V_Ch_search_0 t p1 p2 G Q) : WP M_Ch_search 0 0 0 [some (.ref t), some (.ref p1), some (.ref p2), none] [] G Q := WP.ofV (T := T_Ch_search) (hh := []) rfl rfl [(25, [true, true, true, false]), (35, [true, true, true, true])] 45 h
theorem E_Ch_search {t : Nat} {p1 : Nat} {p2 : Nat} {G : GH} {K : GH → Prop} {KX : String → GH → Prop} (h : V_Ch_search_0 t p1 p2 G (gQv K KX)) : CV M_Ch_search [.ref t, .ref p1, .ref p2] G K KX := CV.of rfl rfl rfl (V_Ch_search_0_ok h)
def V_Ch_search_25 (t : Nat) (p1 : Nat) (p2 : Nat) (G : GH) (Q : GQ) : Prop :=
  CI M_St_isFinished [.ref p1] G (fun (x2 : Int32) (G1 : GH) =>
    if x2 = (nI 0) then
      WP M_Ch_search 0 0 35 [some (.ref t), some (.ref p1), some (.ref p2), some (.int (nI 0))] [] G1 Q
    else
      Q.2.1 G1) gNo
set_option maxRecDepth 100000 in
theorem V_Ch_search_25_ok {t : Nat} {p1 : Nat} {p2 : Nat} {G : GH} {Q : GQ} (h : V_Ch_search_25 t p1 p2 G Q) : WP M_Ch_search 0 0 25 [some (.ref t), some (.ref p1), some (.ref p2), none] [] G Q := WP.ofV (T := T_Ch_search) (hh := []) rfl rfl [(25, [true, true, true, false]), (35, [true, true, true, true])] 45 h
def V_Ch_search_35 (t : Nat) (p1 : Nat) (p2 : Nat) (a3 : Int32) (G : GH) (Q : GQ) : Prop :=
  if a3 < (nI 5) then
    ∃ (fs1 : List Value) (x2 : Int32), G.2 p1 = some (.inl (8, fs1)) ∧ fs1[4]? = some (.int x2) ∧
    CR M_St_playerOf [.ref p1, .int x2] G (fun (r4 : Nat) (G3 : GH) =>
      CI M_Pl_supplyOf [.ref r4, .int a3] G3 (fun (x6 : Int32) (G5 : GH) =>
        if (nI 0) < x6 then
          ∃ (fs7 : List Value) (r8 : Nat), G5.2 p1 = some (.inl (8, fs7)) ∧ fs7[0]? = some (.ref r8) ∧
          CV M_Ch_searchShape [.ref t, .int a3, .ref r8, .ref p2] G5 (fun (G9 : GH) =>
            WP M_Ch_search 0 0 35 [some (.ref t), some (.ref p1), some (.ref p2), some (.int (a3 + nI 1))] [] G9 Q) gNo
        else
          WP M_Ch_search 0 0 35 [some (.ref t), some (.ref p1), some (.ref p2), some (.int (a3 + nI 1))] [] G5 Q) gNo)
  else
    Q.2.1 G
set_option maxRecDepth 100000 in
theorem V_Ch_search_35_ok {t : Nat} {p1 : Nat} {p2 : Nat} {a3 : Int32} {G : GH} {Q : GQ} (h : V_Ch_search_35 t p1 p2 a3 G Q) : WP M_Ch_search 0 0 35 [some (.ref t), some (.ref p1), some (.ref p2), some (.int a3)] [] G Q := WP.ofV (T := T_Ch_search) (hh := []) rfl rfl [(25, [true, true, true, false]), (35, [true, true, true, true])] 45 h
def V_Ch_searchShape_0 (t : Nat) (a1 : Int32) (p2 : Nat) (p3 : Nat) (G : GH) (Q : GQ) : Prop :=
  CV M_Fp_startAll [.ref p3, .int a1] G (fun (G1 : GH) =>
    WP M_Ch_searchShape 0 0 8 [some (.ref t), some (.int a1), some (.ref p2), some (.ref p3), some (.int (nI 0))] [] G1 Q) gNo
set_option maxRecDepth 100000 in
theorem V_Ch_searchShape_0_ok {t : Nat} {a1 : Int32} {p2 : Nat} {p3 : Nat} {G : GH} {Q : GQ} (h : V_Ch_searchShape_0 t a1 p2 p3 G Q) : WP M_Ch_searchShape 0 0 0 [some (.ref t), some (.int a1), some (.ref p2), some (.ref p3), none] [] G Q := WP.ofV (T := T_Ch_searchShape) (hh := []) rfl rfl [(8, [true, true, true, true, true])] 26 h
theorem E_Ch_searchShape {t : Nat} {a1 : Int32} {p2 : Nat} {p3 : Nat} {G : GH} {K : GH → Prop} {KX : String → GH → Prop} (h : V_Ch_searchShape_0 t a1 p2 p3 G (gQv K KX)) : CV M_Ch_searchShape [.ref t, .int a1, .ref p2, .ref p3] G K KX := CV.of rfl rfl rfl (V_Ch_searchShape_0_ok h)
def V_Ch_searchShape_8 (t : Nat) (a1 : Int32) (p2 : Nat) (p3 : Nat) (a4 : Int32) (G : GH) (Q : GQ) : Prop :=
  if a4 < (nI 256) then
    CI M_Tk_findNext [.ref p2, .ref p3] G (fun (x2 : Int32) (G1 : GH) =>
      if x2 = (nI 0) then
        Q.2.1 G1
      else
        CI M_Tk_pointsOf [.ref p2, .ref p3] G1 (fun (x4 : Int32) (G3 : GH) =>
          CV M_Ch_take [.ref t, .ref p3, .int x4] G3 (fun (G5 : GH) =>
            WP M_Ch_searchShape 0 0 8 [some (.ref t), some (.int a1), some (.ref p2), some (.ref p3), some (.int (a4 + nI 1))] [] G5 Q) gNo) gNo) gNo
  else
    Q.2.1 G
set_option maxRecDepth 100000 in
theorem V_Ch_searchShape_8_ok {t : Nat} {a1 : Int32} {p2 : Nat} {p3 : Nat} {a4 : Int32} {G : GH} {Q : GQ} (h : V_Ch_searchShape_8 t a1 p2 p3 a4 G Q) : WP M_Ch_searchShape 0 0 8 [some (.ref t), some (.int a1), some (.ref p2), some (.ref p3), some (.int a4)] [] G Q := WP.ofV (T := T_Ch_searchShape) (hh := []) rfl rfl [(8, [true, true, true, true, true])] 26 h
def V_Ch_take_0 (t : Nat) (p1 : Nat) (a2 : Int32) (G : GH) (Q : GQ) : Prop :=
  ∃ (fs1 : List Value) (x2 : Int32), G.2 t = some (.inl (0, fs1)) ∧ fs1[4]? = some (.int x2) ∧
  if x2 < a2 then
    t < gRB ∧ ∃ (fs3 : List Value), G.2 t = some (.inl (0, fs3)) ∧ gFit 0 (.int a2) ∧
    let G4 : GH := gU G t (.inl (0, fs3.set 4 (.int a2)));
    ∃ (fs5 : List Value) (x6 : Int32), G4.2 p1 = some (.inl (2, fs5)) ∧ fs5[0]? = some (.int x6) ∧
    t < gRB ∧ ∃ (fs7 : List Value), G4.2 t = some (.inl (0, fs7)) ∧ gFit 0 (.int x6) ∧
    let G8 : GH := gU G4 t (.inl (0, fs7.set 0 (.int x6)));
    ∃ (fs9 : List Value) (x10 : Int32), G8.2 p1 = some (.inl (2, fs9)) ∧ fs9[1]? = some (.int x10) ∧
    t < gRB ∧ ∃ (fs11 : List Value), G8.2 t = some (.inl (0, fs11)) ∧ gFit 0 (.int x10) ∧
    let G12 : GH := gU G8 t (.inl (0, fs11.set 1 (.int x10)));
    ∃ (fs13 : List Value) (x14 : Int32), G12.2 p1 = some (.inl (2, fs13)) ∧ fs13[2]? = some (.int x14) ∧
    t < gRB ∧ ∃ (fs15 : List Value), G12.2 t = some (.inl (0, fs15)) ∧ gFit 0 (.int x14) ∧
    let G16 : GH := gU G12 t (.inl (0, fs15.set 2 (.int x14)));
    ∃ (fs17 : List Value) (x18 : Int32), G16.2 p1 = some (.inl (2, fs17)) ∧ fs17[3]? = some (.int x18) ∧
    t < gRB ∧ ∃ (fs19 : List Value), G16.2 t = some (.inl (0, fs19)) ∧ gFit 0 (.int x18) ∧
    let G20 : GH := gU G16 t (.inl (0, fs19.set 3 (.int x18)));
    WP M_Ch_take 0 0 45 [some (.ref t), some (.ref p1), some (.int a2)] [] G20 Q
  else
    WP M_Ch_take 0 0 45 [some (.ref t), some (.ref p1), some (.int a2)] [] G Q
set_option maxRecDepth 100000 in
theorem V_Ch_take_0_ok {t : Nat} {p1 : Nat} {a2 : Int32} {G : GH} {Q : GQ} (h : V_Ch_take_0 t p1 a2 G Q) : WP M_Ch_take 0 0 0 [some (.ref t), some (.ref p1), some (.int a2)] [] G Q := WP.ofV (T := T_Ch_take) (hh := []) rfl rfl [(45, [true, true, true])] 29 h
theorem E_Ch_take {t : Nat} {p1 : Nat} {a2 : Int32} {G : GH} {K : GH → Prop} {KX : String → GH → Prop} (h : V_Ch_take_0 t p1 a2 G (gQv K KX)) : CV M_Ch_take [.ref t, .ref p1, .int a2] G K KX := CV.of rfl rfl rfl (V_Ch_take_0_ok h)
def V_Ch_take_45 (t : Nat) (p1 : Nat) (a2 : Int32) (G : GH) (Q : GQ) : Prop :=
  Q.2.1 G
set_option maxRecDepth 100000 in
theorem V_Ch_take_45_ok {t : Nat} {p1 : Nat} {a2 : Int32} {G : GH} {Q : GQ} (h : V_Ch_take_45 t p1 a2 G Q) : WP M_Ch_take 0 0 45 [some (.ref t), some (.ref p1), some (.int a2)] [] G Q := WP.ofV (T := T_Ch_take) (hh := []) rfl rfl [(45, [true, true, true])] 29 h
def V_Cr_init_0 (t : Nat) (G : GH) (Q : GQ) : Prop :=
  1 ≤ 1 ∧ 0 < G.1 ∧ G.1 < gRB ∧ ∃ (m1 : Nat), (nI 128) = nI m1 ∧ m1 ≤ 100000 ∧ m1 ≤ 128 ∧
  let G2 : GH := gPush G (.inr (.int, m1, .inl fun _ => 0));
  t < gRB ∧ ∃ (fs3 : List Value), G2.2 t = some (.inl (1, fs3)) ∧ gFit 1 (.ref G.1) ∧
  let G4 : GH := gU G2 t (.inl (1, fs3.set 0 (.ref G.1)));
  Q.2.1 G4
set_option maxRecDepth 100000 in
theorem V_Cr_init_0_ok {t : Nat} {G : GH} {Q : GQ} (h : V_Cr_init_0 t G Q) : WP M_Cr_init 1 128 0 [some (.ref t)] [] G Q := WP.ofV (T := T_Cr_init) (hh := []) rfl rfl [] 12 h
theorem E_Cr_init {t : Nat} {G : GH} {K : GH → Prop} {KX : String → GH → Prop} (h : V_Cr_init_0 t G (gQv K KX)) : CV M_Cr_init [.ref t] G K KX := CV.of rfl rfl rfl (V_Cr_init_0_ok h)
def V_Cr_mostFor_0 (t : Nat) (p1 : Nat) (p2 : Nat) (p3 : Nat) (G : GH) (Q : GQ) : Prop :=
  WP M_Cr_mostFor 0 0 3 [some (.ref t), some (.ref p1), some (.ref p2), some (.ref p3), some (.int (nI 0)), none] [] G Q
set_option maxRecDepth 100000 in
theorem V_Cr_mostFor_0_ok {t : Nat} {p1 : Nat} {p2 : Nat} {p3 : Nat} {G : GH} {Q : GQ} (h : V_Cr_mostFor_0 t p1 p2 p3 G Q) : WP M_Cr_mostFor 0 0 0 [some (.ref t), some (.ref p1), some (.ref p2), some (.ref p3), none, none] [] G Q := WP.ofV (T := T_Cr_mostFor) (hh := []) rfl rfl [(3, [true, true, true, true, true, false]), (28, [true, true, true, true, true, false]), (63, [true, true, true, true, true, true])] 51 h
theorem E_Cr_mostFor {t : Nat} {p1 : Nat} {p2 : Nat} {p3 : Nat} {G : GH} {K : Int32 → GH → Prop} {KX : String → GH → Prop} (h : V_Cr_mostFor_0 t p1 p2 p3 G (gQi K KX)) : CI M_Cr_mostFor [.ref t, .ref p1, .ref p2, .ref p3] G K KX := CI.of rfl rfl rfl (V_Cr_mostFor_0_ok h)
def V_Cr_mostFor_3 (t : Nat) (p1 : Nat) (p2 : Nat) (p3 : Nat) (a4 : Int32) (G : GH) (Q : GQ) : Prop :=
  if a4 < (nI 128) then
    ∃ (fs1 : List Value) (r2 : Nat), G.2 t = some (.inl (1, fs1)) ∧ fs1[0]? = some (.ref r2) ∧
    r2 < gRB ∧ ∃ (m3 : Nat) (f4 : Nat → Int32), G.2 r2 = some (.inr (.int, m3, .inl f4)) ∧ vp_in a4 m3 ∧
    let G5 : GH := gU G r2 (.inr (.int, m3, .inl (upd f4 (a4).toNatClampNeg (nI 0))));
    WP M_Cr_mostFor 0 0 3 [some (.ref t), some (.ref p1), some (.ref p2), some (.ref p3), some (.int (a4 + nI 1)), none] [] G5 Q
  else
    WP M_Cr_mostFor 0 0 28 [some (.ref t), some (.ref p1), some (.ref p2), some (.ref p3), some (.int (nI 0)), none] [] G Q
set_option maxRecDepth 100000 in
theorem V_Cr_mostFor_3_ok {t : Nat} {p1 : Nat} {p2 : Nat} {p3 : Nat} {a4 : Int32} {G : GH} {Q : GQ} (h : V_Cr_mostFor_3 t p1 p2 p3 a4 G Q) : WP M_Cr_mostFor 0 0 3 [some (.ref t), some (.ref p1), some (.ref p2), some (.ref p3), some (.int a4), none] [] G Q := WP.ofV (T := T_Cr_mostFor) (hh := []) rfl rfl [(3, [true, true, true, true, true, false]), (28, [true, true, true, true, true, false]), (63, [true, true, true, true, true, true])] 51 h
def V_Cr_mostFor_28 (t : Nat) (p1 : Nat) (p2 : Nat) (p3 : Nat) (a4 : Int32) (G : GH) (Q : GQ) : Prop :=
  if a4 < (nI 5) then
    CI M_Pl_supplyOf [.ref p1, .int a4] G (fun (x2 : Int32) (G1 : GH) =>
      if (nI 0) < x2 then
        CV M_Cr_countShape [.ref t, .int a4, .ref p2, .ref p3] G1 (fun (G3 : GH) =>
          WP M_Cr_mostFor 0 0 28 [some (.ref t), some (.ref p1), some (.ref p2), some (.ref p3), some (.int (a4 + nI 1)), none] [] G3 Q) gNo
      else
        WP M_Cr_mostFor 0 0 28 [some (.ref t), some (.ref p1), some (.ref p2), some (.ref p3), some (.int (a4 + nI 1)), none] [] G1 Q) gNo
  else
    WP M_Cr_mostFor 0 0 63 [some (.ref t), some (.ref p1), some (.ref p2), some (.ref p3), some (.int (nI 0)), some (.int (nI 0))] [] G Q
set_option maxRecDepth 100000 in
theorem V_Cr_mostFor_28_ok {t : Nat} {p1 : Nat} {p2 : Nat} {p3 : Nat} {a4 : Int32} {G : GH} {Q : GQ} (h : V_Cr_mostFor_28 t p1 p2 p3 a4 G Q) : WP M_Cr_mostFor 0 0 28 [some (.ref t), some (.ref p1), some (.ref p2), some (.ref p3), some (.int a4), none] [] G Q := WP.ofV (T := T_Cr_mostFor) (hh := []) rfl rfl [(3, [true, true, true, true, true, false]), (28, [true, true, true, true, true, false]), (63, [true, true, true, true, true, true])] 51 h
def V_Cr_mostFor_63 (t : Nat) (p1 : Nat) (p2 : Nat) (p3 : Nat) (a4 : Int32) (a5 : Int32) (G : GH) (Q : GQ) : Prop :=
  if a5 < (nI 128) then
    ∃ (fs1 : List Value) (r2 : Nat), G.2 t = some (.inl (1, fs1)) ∧ fs1[0]? = some (.ref r2) ∧
    ∃ (m3 : Nat) (f4 : Nat → Int32), G.2 r2 = some (.inr (.int, m3, .inl f4)) ∧ vp_in a5 m3 ∧
    WP M_Cr_mostFor 0 0 63 [some (.ref t), some (.ref p1), some (.ref p2), some (.ref p3), some (.int (if a4 < (f4 (a5).toNatClampNeg) then f4 (a5).toNatClampNeg else a4)), some (.int (a5 + nI 1))] [] G Q
  else
    Q.1 a4 G
set_option maxRecDepth 100000 in
theorem V_Cr_mostFor_63_ok {t : Nat} {p1 : Nat} {p2 : Nat} {p3 : Nat} {a4 : Int32} {a5 : Int32} {G : GH} {Q : GQ} (h : V_Cr_mostFor_63 t p1 p2 p3 a4 a5 G Q) : WP M_Cr_mostFor 0 0 63 [some (.ref t), some (.ref p1), some (.ref p2), some (.ref p3), some (.int a4), some (.int a5)] [] G Q := WP.ofV (T := T_Cr_mostFor) (hh := []) rfl rfl [(3, [true, true, true, true, true, false]), (28, [true, true, true, true, true, false]), (63, [true, true, true, true, true, true])] 51 h
def V_Cr_countShape_0 (t : Nat) (a1 : Int32) (p2 : Nat) (p3 : Nat) (G : GH) (Q : GQ) : Prop :=
  CV M_Fp_startAll [.ref p3, .int a1] G (fun (G1 : GH) =>
    WP M_Cr_countShape 0 0 8 [some (.ref t), some (.int a1), some (.ref p2), some (.ref p3), some (.int (nI 0)), none, none, none] [] G1 Q) gNo
set_option maxRecDepth 100000 in
theorem V_Cr_countShape_0_ok {t : Nat} {a1 : Int32} {p2 : Nat} {p3 : Nat} {G : GH} {Q : GQ} (h : V_Cr_countShape_0 t a1 p2 p3 G Q) : WP M_Cr_countShape 0 0 0 [some (.ref t), some (.int a1), some (.ref p2), some (.ref p3), none, none, none, none] [] G Q := WP.ofV (T := T_Cr_countShape) (hh := []) rfl rfl [(8, [true, true, true, true, true, false, false, false]), (27, [true, true, true, true, true, true, false, false])] 43 h
theorem E_Cr_countShape {t : Nat} {a1 : Int32} {p2 : Nat} {p3 : Nat} {G : GH} {K : GH → Prop} {KX : String → GH → Prop} (h : V_Cr_countShape_0 t a1 p2 p3 G (gQv K KX)) : CV M_Cr_countShape [.ref t, .int a1, .ref p2, .ref p3] G K KX := CV.of rfl rfl rfl (V_Cr_countShape_0_ok h)
def V_Cr_countShape_8 (t : Nat) (a1 : Int32) (p2 : Nat) (p3 : Nat) (a4 : Int32) (G : GH) (Q : GQ) : Prop :=
  if a4 < (nI 256) then
    CI M_Tk_findNext [.ref p2, .ref p3] G (fun (x2 : Int32) (G1 : GH) =>
      if x2 = (nI 0) then
        Q.2.1 G1
      else
        WP M_Cr_countShape 0 0 27 [some (.ref t), some (.int a1), some (.ref p2), some (.ref p3), some (.int a4), some (.int (nI 0)), none, none] [] G1 Q) gNo
  else
    Q.2.1 G
set_option maxRecDepth 100000 in
theorem V_Cr_countShape_8_ok {t : Nat} {a1 : Int32} {p2 : Nat} {p3 : Nat} {a4 : Int32} {G : GH} {Q : GQ} (h : V_Cr_countShape_8 t a1 p2 p3 a4 G Q) : WP M_Cr_countShape 0 0 8 [some (.ref t), some (.int a1), some (.ref p2), some (.ref p3), some (.int a4), none, none, none] [] G Q := WP.ofV (T := T_Cr_countShape) (hh := []) rfl rfl [(8, [true, true, true, true, true, false, false, false]), (27, [true, true, true, true, true, true, false, false])] 43 h
def V_Cr_countShape_27 (t : Nat) (a1 : Int32) (p2 : Nat) (p3 : Nat) (a4 : Int32) (a5 : Int32) (G : GH) (Q : GQ) : Prop :=
  ∃ (fs1 : List Value) (x2 : Int32), G.2 p3 = some (.inl (2, fs1)) ∧ fs1[5]? = some (.int x2) ∧
  if a5 < x2 then
    CI M_Fp_edgeColumnOf [.ref p3, .int a5] G (fun (x4 : Int32) (G3 : GH) =>
      CI M_Fp_edgeRowOf [.ref p3, .int a5] G3 (fun (x6 : Int32) (G5 : GH) =>
        CI M_Fp_sideOf [.ref p3, .int a5] G5 (fun (x8 : Int32) (G7 : GH) =>
          CV M_Cr_countEdge [.ref t, .int x4, .int x6, .int x8] G7 (fun (G9 : GH) =>
            WP M_Cr_countShape 0 0 27 [some (.ref t), some (.int a1), some (.ref p2), some (.ref p3), some (.int a4), some (.int (a5 + nI 1)), none, none] [] G9 Q) gNo) gNo) gNo) gNo
  else
    WP M_Cr_countShape 0 0 8 [some (.ref t), some (.int a1), some (.ref p2), some (.ref p3), some (.int (a4 + nI 1)), none, none, none] [] G Q
set_option maxRecDepth 100000 in
theorem V_Cr_countShape_27_ok {t : Nat} {a1 : Int32} {p2 : Nat} {p3 : Nat} {a4 : Int32} {a5 : Int32} {G : GH} {Q : GQ} (h : V_Cr_countShape_27 t a1 p2 p3 a4 a5 G Q) : WP M_Cr_countShape 0 0 27 [some (.ref t), some (.int a1), some (.ref p2), some (.ref p3), some (.int a4), some (.int a5), none, none] [] G Q := WP.ofV (T := T_Cr_countShape) (hh := []) rfl rfl [(8, [true, true, true, true, true, false, false, false]), (27, [true, true, true, true, true, true, false, false])] 43 h
def V_Cr_countEdge_0 (t : Nat) (a1 : Int32) (a2 : Int32) (a3 : Int32) (G : GH) (Q : GQ) : Prop :=
  if ((((a2 * (nI 8)) + a1) * (nI 2)) + a3) < (nI 0) then
    Q.2.1 G
  else
    if ((((a2 * (nI 8)) + a1) * (nI 2)) + a3) < (nI 128) then
      ∃ (fs1 : List Value) (r2 : Nat), G.2 t = some (.inl (1, fs1)) ∧ fs1[0]? = some (.ref r2) ∧
      ∃ (m3 : Nat) (f4 : Nat → Int32), G.2 r2 = some (.inr (.int, m3, .inl f4)) ∧ vp_in ((((a2 * (nI 8)) + a1) * (nI 2)) + a3) m3 ∧
      r2 < gRB ∧ ∃ (m5 : Nat) (f6 : Nat → Int32), G.2 r2 = some (.inr (.int, m5, .inl f6)) ∧ vp_in ((((a2 * (nI 8)) + a1) * (nI 2)) + a3) m5 ∧
      let G7 : GH := gU G r2 (.inr (.int, m5, .inl (upd f6 ((((a2 * (nI 8)) + a1) * (nI 2)) + a3).toNatClampNeg ((f4 ((((a2 * (nI 8)) + a1) * (nI 2)) + a3).toNatClampNeg) + (nI 1)))));
      Q.2.1 G7
    else
      Q.2.1 G
set_option maxRecDepth 100000 in
theorem V_Cr_countEdge_0_ok {t : Nat} {a1 : Int32} {a2 : Int32} {a3 : Int32} {G : GH} {Q : GQ} (h : V_Cr_countEdge_0 t a1 a2 a3 G Q) : WP M_Cr_countEdge 0 0 0 [some (.ref t), some (.int a1), some (.int a2), some (.int a3), none] [] G Q := WP.ofV (T := T_Cr_countEdge) (hh := []) rfl rfl [] 29 h
theorem E_Cr_countEdge {t : Nat} {a1 : Int32} {a2 : Int32} {a3 : Int32} {G : GH} {K : GH → Prop} {KX : String → GH → Prop} (h : V_Cr_countEdge_0 t a1 a2 a3 G (gQv K KX)) : CV M_Cr_countEdge [.ref t, .int a1, .int a2, .int a3] G K KX := CV.of rfl rfl rfl (V_Cr_countEdge_0_ok h)
def V_Rg_init_0 (t : Nat) (G : GH) (Q : GQ) : Prop :=
  t < gRB ∧ ∃ (fs1 : List Value), G.2 t = some (.inl (7, fs1)) ∧ gFit 0 (.int (nI 0)) ∧
  let G2 : GH := gU G t (.inl (7, fs1.set 0 (.int (nI 0))));
  1 ≤ 3 ∧ 0 < G2.1 ∧ G2.1 < gRB ∧ ∃ (m3 : Nat), (nI 64) = nI m3 ∧ m3 ≤ 100000 ∧ m3 ≤ 192 ∧
  let G4 : GH := gPush G2 (.inr (.int, m3, .inl fun _ => 0));
  t < gRB ∧ ∃ (fs5 : List Value), G4.2 t = some (.inl (7, fs5)) ∧ gFit 1 (.ref G2.1) ∧
  let G6 : GH := gU G4 t (.inl (7, fs5.set 1 (.ref G2.1)));
  1 ≤ (3 - 1) ∧ 0 < G6.1 ∧ G6.1 < gRB ∧ ∃ (m7 : Nat), (nI 64) = nI m7 ∧ m7 ≤ 100000 ∧ m7 ≤ (192 - m3) ∧
  let G8 : GH := gPush G6 (.inr (.int, m7, .inl fun _ => 0));
  t < gRB ∧ ∃ (fs9 : List Value), G8.2 t = some (.inl (7, fs9)) ∧ gFit 1 (.ref G6.1) ∧
  let G10 : GH := gU G8 t (.inl (7, fs9.set 2 (.ref G6.1)));
  WP M_Rg_init ((3 - 1) - 1) ((192 - m3) - m7) 25 [some (.ref t)] [] G10 Q
set_option maxRecDepth 100000 in
theorem V_Rg_init_0_ok {t : Nat} {G : GH} {Q : GQ} (h : V_Rg_init_0 t G Q) : WP M_Rg_init 3 192 0 [some (.ref t)] [] G Q := WP.ofV (T := T_Rg_init) (hh := []) rfl rfl [(25, [true])] 26 h
theorem E_Rg_init {t : Nat} {G : GH} {K : GH → Prop} {KX : String → GH → Prop} (h : V_Rg_init_0 t G (gQv K KX)) : CV M_Rg_init [.ref t] G K KX := CV.of rfl rfl rfl (V_Rg_init_0_ok h)
def V_Rg_init_25 (rc rs : Nat) (t : Nat) (G : GH) (Q : GQ) : Prop :=
  1 ≤ rc ∧ 0 < G.1 ∧ G.1 < gRB ∧ ∃ (m1 : Nat), (nI 64) = nI m1 ∧ m1 ≤ 100000 ∧ m1 ≤ rs ∧
  let G2 : GH := gPush G (.inr (.int, m1, .inl fun _ => 0));
  t < gRB ∧ ∃ (fs3 : List Value), G2.2 t = some (.inl (7, fs3)) ∧ gFit 1 (.ref G.1) ∧
  let G4 : GH := gU G2 t (.inl (7, fs3.set 3 (.ref G.1)));
  t < gRB ∧ ∃ (fs5 : List Value), G4.2 t = some (.inl (7, fs5)) ∧ gFit 0 (.int (nI 0)) ∧
  let G6 : GH := gU G4 t (.inl (7, fs5.set 4 (.int (nI 0))));
  Q.2.1 G6
set_option maxRecDepth 100000 in
theorem V_Rg_init_25_ok {rc rs : Nat} {t : Nat} {G : GH} {Q : GQ} (h : V_Rg_init_25 rc rs t G Q) : WP M_Rg_init rc rs 25 [some (.ref t)] [] G Q := WP.ofV (T := T_Rg_init) (hh := []) rfl rfl [(25, [true])] 26 h
def V_Rg_survey_0 (t : Nat) (p1 : Nat) (G : GH) (Q : GQ) : Prop :=
  t < gRB ∧ ∃ (fs1 : List Value), G.2 t = some (.inl (7, fs1)) ∧ gFit 0 (.int (nI 0)) ∧
  let G2 : GH := gU G t (.inl (7, fs1.set 0 (.int (nI 0))));
  WP M_Rg_survey 0 0 7 [some (.ref t), some (.ref p1), some (.int (nI 0)), none] [] G2 Q
set_option maxRecDepth 100000 in
theorem V_Rg_survey_0_ok {t : Nat} {p1 : Nat} {G : GH} {Q : GQ} (h : V_Rg_survey_0 t p1 G Q) : WP M_Rg_survey 0 0 0 [some (.ref t), some (.ref p1), none, none] [] G Q := WP.ofV (T := T_Rg_survey) (hh := []) rfl rfl [(7, [true, true, true, false]), (35, [true, true, true, false]), (45, [true, true, true, true])] 47 h
theorem E_Rg_survey {t : Nat} {p1 : Nat} {G : GH} {K : GH → Prop} {KX : String → GH → Prop} (h : V_Rg_survey_0 t p1 G (gQv K KX)) : CV M_Rg_survey [.ref t, .ref p1] G K KX := CV.of rfl rfl rfl (V_Rg_survey_0_ok h)
def V_Rg_survey_7 (t : Nat) (p1 : Nat) (a2 : Int32) (G : GH) (Q : GQ) : Prop :=
  if a2 < (nI 64) then
    ∃ (fs1 : List Value) (r2 : Nat), G.2 t = some (.inl (7, fs1)) ∧ fs1[1]? = some (.ref r2) ∧
    r2 < gRB ∧ ∃ (m3 : Nat) (f4 : Nat → Int32), G.2 r2 = some (.inr (.int, m3, .inl f4)) ∧ vp_in a2 m3 ∧
    let G5 : GH := gU G r2 (.inr (.int, m3, .inl (upd f4 (a2).toNatClampNeg (-nI 1))));
    ∃ (fs6 : List Value) (r7 : Nat), G5.2 t = some (.inl (7, fs6)) ∧ fs6[2]? = some (.ref r7) ∧
    r7 < gRB ∧ ∃ (m8 : Nat) (f9 : Nat → Int32), G5.2 r7 = some (.inr (.int, m8, .inl f9)) ∧ vp_in a2 m8 ∧
    let G10 : GH := gU G5 r7 (.inr (.int, m8, .inl (upd f9 (a2).toNatClampNeg (nI 0))));
    WP M_Rg_survey 0 0 7 [some (.ref t), some (.ref p1), some (.int (a2 + nI 1)), none] [] G10 Q
  else
    WP M_Rg_survey 0 0 35 [some (.ref t), some (.ref p1), some (.int (nI 0)), none] [] G Q
set_option maxRecDepth 100000 in
theorem V_Rg_survey_7_ok {t : Nat} {p1 : Nat} {a2 : Int32} {G : GH} {Q : GQ} (h : V_Rg_survey_7 t p1 a2 G Q) : WP M_Rg_survey 0 0 7 [some (.ref t), some (.ref p1), some (.int a2), none] [] G Q := WP.ofV (T := T_Rg_survey) (hh := []) rfl rfl [(7, [true, true, true, false]), (35, [true, true, true, false]), (45, [true, true, true, true])] 47 h
def V_Rg_survey_35 (t : Nat) (p1 : Nat) (a2 : Int32) (G : GH) (Q : GQ) : Prop :=
  ∃ (fs1 : List Value) (x2 : Int32), G.2 p1 = some (.inl (9, fs1)) ∧ fs1[1]? = some (.int x2) ∧
  if a2 < x2 then
    WP M_Rg_survey 0 0 45 [some (.ref t), some (.ref p1), some (.int a2), some (.int (nI 0))] [] G Q
  else
    Q.2.1 G
set_option maxRecDepth 100000 in
theorem V_Rg_survey_35_ok {t : Nat} {p1 : Nat} {a2 : Int32} {G : GH} {Q : GQ} (h : V_Rg_survey_35 t p1 a2 G Q) : WP M_Rg_survey 0 0 35 [some (.ref t), some (.ref p1), some (.int a2), none] [] G Q := WP.ofV (T := T_Rg_survey) (hh := []) rfl rfl [(7, [true, true, true, false]), (35, [true, true, true, false]), (45, [true, true, true, true])] 47 h
def V_Rg_survey_45 (t : Nat) (p1 : Nat) (a2 : Int32) (a3 : Int32) (G : GH) (Q : GQ) : Prop :=
  ∃ (fs1 : List Value) (x2 : Int32), G.2 p1 = some (.inl (9, fs1)) ∧ fs1[0]? = some (.int x2) ∧
  if a3 < x2 then
    CV M_Rg_spreadFrom [.ref t, .int a3, .int a2, .ref p1] G (fun (G3 : GH) =>
      WP M_Rg_survey 0 0 45 [some (.ref t), some (.ref p1), some (.int a2), some (.int (a3 + nI 1))] [] G3 Q) gNo
  else
    WP M_Rg_survey 0 0 35 [some (.ref t), some (.ref p1), some (.int (a2 + nI 1)), none] [] G Q
set_option maxRecDepth 100000 in
theorem V_Rg_survey_45_ok {t : Nat} {p1 : Nat} {a2 : Int32} {a3 : Int32} {G : GH} {Q : GQ} (h : V_Rg_survey_45 t p1 a2 a3 G Q) : WP M_Rg_survey 0 0 45 [some (.ref t), some (.ref p1), some (.int a2), some (.int a3)] [] G Q := WP.ofV (T := T_Rg_survey) (hh := []) rfl rfl [(7, [true, true, true, false]), (35, [true, true, true, false]), (45, [true, true, true, true])] 47 h
def V_Rg_sizeOf_0 (t : Nat) (a1 : Int32) (G : GH) (Q : GQ) : Prop :=
  if a1 < (nI 0) then
    Q.1 (nI 0) G
  else
    ∃ (fs1 : List Value) (x2 : Int32), G.2 t = some (.inl (7, fs1)) ∧ fs1[0]? = some (.int x2) ∧
    if a1 < x2 then
      ∃ (fs3 : List Value) (r4 : Nat), G.2 t = some (.inl (7, fs3)) ∧ fs3[2]? = some (.ref r4) ∧
      ∃ (m5 : Nat) (f6 : Nat → Int32), G.2 r4 = some (.inr (.int, m5, .inl f6)) ∧ vp_in a1 m5 ∧
      Q.1 (f6 (a1).toNatClampNeg) G
    else
      Q.1 (nI 0) G
set_option maxRecDepth 100000 in
theorem V_Rg_sizeOf_0_ok {t : Nat} {a1 : Int32} {G : GH} {Q : GQ} (h : V_Rg_sizeOf_0 t a1 G Q) : WP M_Rg_sizeOf 0 0 0 [some (.ref t), some (.int a1)] [] G Q := WP.ofV (T := T_Rg_sizeOf) (hh := []) rfl rfl [] 18 h
theorem E_Rg_sizeOf {t : Nat} {a1 : Int32} {G : GH} {K : Int32 → GH → Prop} {KX : String → GH → Prop} (h : V_Rg_sizeOf_0 t a1 G (gQi K KX)) : CI M_Rg_sizeOf [.ref t, .int a1] G K KX := CI.of rfl rfl rfl (V_Rg_sizeOf_0_ok h)
def V_Rg_sizeAt_0 (t : Nat) (a1 : Int32) (a2 : Int32) (G : GH) (Q : GQ) : Prop :=
  if a1 < (nI 0) then
    Q.1 (nI 0) G
  else
    if a1 < (nI 8) then
      if a2 < (nI 0) then
        Q.1 (nI 0) G
      else
        if a2 < (nI 8) then
          ∃ (fs1 : List Value) (r2 : Nat), G.2 t = some (.inl (7, fs1)) ∧ fs1[1]? = some (.ref r2) ∧
          ∃ (m3 : Nat) (f4 : Nat → Int32), G.2 r2 = some (.inr (.int, m3, .inl f4)) ∧ vp_in ((a2 * (nI 8)) + a1) m3 ∧
          CI M_Rg_sizeOf [.ref t, .int (f4 ((a2 * (nI 8)) + a1).toNatClampNeg)] G (fun (x6 : Int32) (G5 : GH) =>
            Q.1 x6 G5) gNo
        else
          Q.1 (nI 0) G
    else
      Q.1 (nI 0) G
set_option maxRecDepth 100000 in
theorem V_Rg_sizeAt_0_ok {t : Nat} {a1 : Int32} {a2 : Int32} {G : GH} {Q : GQ} (h : V_Rg_sizeAt_0 t a1 a2 G Q) : WP M_Rg_sizeAt 0 0 0 [some (.ref t), some (.int a1), some (.int a2)] [] G Q := WP.ofV (T := T_Rg_sizeAt) (hh := []) rfl rfl [] 28 h
theorem E_Rg_sizeAt {t : Nat} {a1 : Int32} {a2 : Int32} {G : GH} {K : Int32 → GH → Prop} {KX : String → GH → Prop} (h : V_Rg_sizeAt_0 t a1 a2 G (gQi K KX)) : CI M_Rg_sizeAt [.ref t, .int a1, .int a2] G K KX := CI.of rfl rfl rfl (V_Rg_sizeAt_0_ok h)
def V_Rg_spreadFrom_0 (t : Nat) (a1 : Int32) (a2 : Int32) (p3 : Nat) (G : GH) (Q : GQ) : Prop :=
  t < gRB ∧ ∃ (fs1 : List Value), G.2 t = some (.inl (7, fs1)) ∧ gFit 0 (.int (nI 0)) ∧
  let G2 : GH := gU G t (.inl (7, fs1.set 4 (.int (nI 0))));
  CV M_Rg_reach [.ref t, .int a1, .int a2, .ref p3] G2 (fun (G3 : GH) =>
    WP M_Rg_spreadFrom 0 0 15 [some (.ref t), some (.int a1), some (.int a2), some (.ref p3), some (.int (nI 0)), none, none] [] G3 Q) gNo
set_option maxRecDepth 100000 in
theorem V_Rg_spreadFrom_0_ok {t : Nat} {a1 : Int32} {a2 : Int32} {p3 : Nat} {G : GH} {Q : GQ} (h : V_Rg_spreadFrom_0 t a1 a2 p3 G Q) : WP M_Rg_spreadFrom 0 0 0 [some (.ref t), some (.int a1), some (.int a2), some (.ref p3), none, none, none] [] G Q := WP.ofV (T := T_Rg_spreadFrom) (hh := []) rfl rfl [(15, [true, true, true, true, true, false, false]), (78, [true, true, true, true, true, true, true]), (101, [true, true, true, true, true, true, true]), (126, [true, true, true, true, true, true, true]), (157, [true, true, true, true, true, false, false])] 115 h
theorem E_Rg_spreadFrom {t : Nat} {a1 : Int32} {a2 : Int32} {p3 : Nat} {G : GH} {K : GH → Prop} {KX : String → GH → Prop} (h : V_Rg_spreadFrom_0 t a1 a2 p3 G (gQv K KX)) : CV M_Rg_spreadFrom [.ref t, .int a1, .int a2, .ref p3] G K KX := CV.of rfl rfl rfl (V_Rg_spreadFrom_0_ok h)
def V_Rg_spreadFrom_15 (t : Nat) (a1 : Int32) (a2 : Int32) (p3 : Nat) (a4 : Int32) (G : GH) (Q : GQ) : Prop :=
  ∃ (fs1 : List Value) (x2 : Int32), G.2 t = some (.inl (7, fs1)) ∧ fs1[4]? = some (.int x2) ∧
  if a4 < x2 then
    if a4 < (nI 64) then
      ∃ (fs3 : List Value) (r4 : Nat), G.2 t = some (.inl (7, fs3)) ∧ fs3[3]? = some (.ref r4) ∧
      ∃ (m5 : Nat) (f6 : Nat → Int32), G.2 r4 = some (.inr (.int, m5, .inl f6)) ∧ vp_in a4 m5 ∧
      ¬ (nI 8) = 0 ∧
      ∃ (fs7 : List Value) (r8 : Nat), G.2 t = some (.inl (7, fs7)) ∧ fs7[3]? = some (.ref r8) ∧
      ∃ (m9 : Nat) (f10 : Nat → Int32), G.2 r8 = some (.inr (.int, m9, .inl f10)) ∧ vp_in a4 m9 ∧
      ¬ (nI 8) = 0 ∧
      CI M_Tk_strapAt [.ref p3, .int ((f6 (a4).toNatClampNeg) - (f6 (a4).toNatClampNeg) / (nI 8) * (nI 8)), .int ((f10 (a4).toNatClampNeg) / (nI 8)), .int (nI 0)] G (fun (x12 : Int32) (G11 : GH) =>
        if x12 = (nI 0) then
          CV M_Rg_reach [.ref t, .int (((f6 (a4).toNatClampNeg) - (f6 (a4).toNatClampNeg) / (nI 8) * (nI 8)) + (nI 1)), .int ((f10 (a4).toNatClampNeg) / (nI 8)), .ref p3] G11 (fun (G13 : GH) =>
            WP M_Rg_spreadFrom 0 0 78 [some (.ref t), some (.int a1), some (.int a2), some (.ref p3), some (.int a4), some (.int ((f6 (a4).toNatClampNeg) - (f6 (a4).toNatClampNeg) / (nI 8) * (nI 8))), some (.int ((f10 (a4).toNatClampNeg) / (nI 8)))] [] G13 Q) gNo
        else
          WP M_Rg_spreadFrom 0 0 78 [some (.ref t), some (.int a1), some (.int a2), some (.ref p3), some (.int a4), some (.int ((f6 (a4).toNatClampNeg) - (f6 (a4).toNatClampNeg) / (nI 8) * (nI 8))), some (.int ((f10 (a4).toNatClampNeg) / (nI 8)))] [] G11 Q) gNo
    else
      WP M_Rg_spreadFrom 0 0 157 [some (.ref t), some (.int a1), some (.int a2), some (.ref p3), some (.int a4), none, none] [] G Q
  else
    WP M_Rg_spreadFrom 0 0 157 [some (.ref t), some (.int a1), some (.int a2), some (.ref p3), some (.int a4), none, none] [] G Q
set_option maxRecDepth 100000 in
theorem V_Rg_spreadFrom_15_ok {t : Nat} {a1 : Int32} {a2 : Int32} {p3 : Nat} {a4 : Int32} {G : GH} {Q : GQ} (h : V_Rg_spreadFrom_15 t a1 a2 p3 a4 G Q) : WP M_Rg_spreadFrom 0 0 15 [some (.ref t), some (.int a1), some (.int a2), some (.ref p3), some (.int a4), none, none] [] G Q := WP.ofV (T := T_Rg_spreadFrom) (hh := []) rfl rfl [(15, [true, true, true, true, true, false, false]), (78, [true, true, true, true, true, true, true]), (101, [true, true, true, true, true, true, true]), (126, [true, true, true, true, true, true, true]), (157, [true, true, true, true, true, false, false])] 115 h
def V_Rg_spreadFrom_78 (t : Nat) (a1 : Int32) (a2 : Int32) (p3 : Nat) (a4 : Int32) (a5 : Int32) (a6 : Int32) (G : GH) (Q : GQ) : Prop :=
  CI M_Tk_strapAt [.ref p3, .int a5, .int a6, .int (nI 1)] G (fun (x2 : Int32) (G1 : GH) =>
    if x2 = (nI 0) then
      CV M_Rg_reach [.ref t, .int a5, .int (a6 + (nI 1)), .ref p3] G1 (fun (G3 : GH) =>
        WP M_Rg_spreadFrom 0 0 101 [some (.ref t), some (.int a1), some (.int a2), some (.ref p3), some (.int a4), some (.int a5), some (.int a6)] [] G3 Q) gNo
    else
      WP M_Rg_spreadFrom 0 0 101 [some (.ref t), some (.int a1), some (.int a2), some (.ref p3), some (.int a4), some (.int a5), some (.int a6)] [] G1 Q) gNo
set_option maxRecDepth 100000 in
theorem V_Rg_spreadFrom_78_ok {t : Nat} {a1 : Int32} {a2 : Int32} {p3 : Nat} {a4 : Int32} {a5 : Int32} {a6 : Int32} {G : GH} {Q : GQ} (h : V_Rg_spreadFrom_78 t a1 a2 p3 a4 a5 a6 G Q) : WP M_Rg_spreadFrom 0 0 78 [some (.ref t), some (.int a1), some (.int a2), some (.ref p3), some (.int a4), some (.int a5), some (.int a6)] [] G Q := WP.ofV (T := T_Rg_spreadFrom) (hh := []) rfl rfl [(15, [true, true, true, true, true, false, false]), (78, [true, true, true, true, true, true, true]), (101, [true, true, true, true, true, true, true]), (126, [true, true, true, true, true, true, true]), (157, [true, true, true, true, true, false, false])] 115 h
def V_Rg_spreadFrom_101 (t : Nat) (a1 : Int32) (a2 : Int32) (p3 : Nat) (a4 : Int32) (a5 : Int32) (a6 : Int32) (G : GH) (Q : GQ) : Prop :=
  CI M_Tk_strapAt [.ref p3, .int (a5 - (nI 1)), .int a6, .int (nI 0)] G (fun (x2 : Int32) (G1 : GH) =>
    if x2 = (nI 0) then
      CV M_Rg_reach [.ref t, .int (a5 - (nI 1)), .int a6, .ref p3] G1 (fun (G3 : GH) =>
        WP M_Rg_spreadFrom 0 0 126 [some (.ref t), some (.int a1), some (.int a2), some (.ref p3), some (.int a4), some (.int a5), some (.int a6)] [] G3 Q) gNo
    else
      WP M_Rg_spreadFrom 0 0 126 [some (.ref t), some (.int a1), some (.int a2), some (.ref p3), some (.int a4), some (.int a5), some (.int a6)] [] G1 Q) gNo
set_option maxRecDepth 100000 in
theorem V_Rg_spreadFrom_101_ok {t : Nat} {a1 : Int32} {a2 : Int32} {p3 : Nat} {a4 : Int32} {a5 : Int32} {a6 : Int32} {G : GH} {Q : GQ} (h : V_Rg_spreadFrom_101 t a1 a2 p3 a4 a5 a6 G Q) : WP M_Rg_spreadFrom 0 0 101 [some (.ref t), some (.int a1), some (.int a2), some (.ref p3), some (.int a4), some (.int a5), some (.int a6)] [] G Q := WP.ofV (T := T_Rg_spreadFrom) (hh := []) rfl rfl [(15, [true, true, true, true, true, false, false]), (78, [true, true, true, true, true, true, true]), (101, [true, true, true, true, true, true, true]), (126, [true, true, true, true, true, true, true]), (157, [true, true, true, true, true, false, false])] 115 h
def V_Rg_spreadFrom_126 (t : Nat) (a1 : Int32) (a2 : Int32) (p3 : Nat) (a4 : Int32) (a5 : Int32) (a6 : Int32) (G : GH) (Q : GQ) : Prop :=
  CI M_Tk_strapAt [.ref p3, .int a5, .int (a6 - (nI 1)), .int (nI 1)] G (fun (x2 : Int32) (G1 : GH) =>
    if x2 = (nI 0) then
      CV M_Rg_reach [.ref t, .int a5, .int (a6 - (nI 1)), .ref p3] G1 (fun (G3 : GH) =>
        WP M_Rg_spreadFrom 0 0 15 [some (.ref t), some (.int a1), some (.int a2), some (.ref p3), some (.int (a4 + nI 1)), none, none] [] G3 Q) gNo
    else
      WP M_Rg_spreadFrom 0 0 15 [some (.ref t), some (.int a1), some (.int a2), some (.ref p3), some (.int (a4 + nI 1)), none, none] [] G1 Q) gNo
set_option maxRecDepth 100000 in
theorem V_Rg_spreadFrom_126_ok {t : Nat} {a1 : Int32} {a2 : Int32} {p3 : Nat} {a4 : Int32} {a5 : Int32} {a6 : Int32} {G : GH} {Q : GQ} (h : V_Rg_spreadFrom_126 t a1 a2 p3 a4 a5 a6 G Q) : WP M_Rg_spreadFrom 0 0 126 [some (.ref t), some (.int a1), some (.int a2), some (.ref p3), some (.int a4), some (.int a5), some (.int a6)] [] G Q := WP.ofV (T := T_Rg_spreadFrom) (hh := []) rfl rfl [(15, [true, true, true, true, true, false, false]), (78, [true, true, true, true, true, true, true]), (101, [true, true, true, true, true, true, true]), (126, [true, true, true, true, true, true, true]), (157, [true, true, true, true, true, false, false])] 115 h
def V_Rg_spreadFrom_157 (t : Nat) (a1 : Int32) (a2 : Int32) (p3 : Nat) (a4 : Int32) (G : GH) (Q : GQ) : Prop :=
  ∃ (fs1 : List Value) (x2 : Int32), G.2 t = some (.inl (7, fs1)) ∧ fs1[4]? = some (.int x2) ∧
  if (nI 0) < x2 then
    ∃ (fs3 : List Value) (x4 : Int32), G.2 t = some (.inl (7, fs3)) ∧ fs3[0]? = some (.int x4) ∧
    if x4 < (nI 64) then
      ∃ (fs5 : List Value) (r6 : Nat), G.2 t = some (.inl (7, fs5)) ∧ fs5[2]? = some (.ref r6) ∧
      ∃ (fs7 : List Value) (x8 : Int32), G.2 t = some (.inl (7, fs7)) ∧ fs7[0]? = some (.int x8) ∧
      ∃ (fs9 : List Value) (x10 : Int32), G.2 t = some (.inl (7, fs9)) ∧ fs9[4]? = some (.int x10) ∧
      r6 < gRB ∧ ∃ (m11 : Nat) (f12 : Nat → Int32), G.2 r6 = some (.inr (.int, m11, .inl f12)) ∧ vp_in x8 m11 ∧
      let G13 : GH := gU G r6 (.inr (.int, m11, .inl (upd f12 (x8).toNatClampNeg x10)));
      ∃ (fs14 : List Value) (x15 : Int32), G13.2 t = some (.inl (7, fs14)) ∧ fs14[0]? = some (.int x15) ∧
      t < gRB ∧ ∃ (fs16 : List Value), G13.2 t = some (.inl (7, fs16)) ∧ gFit 0 (.int (x15 + (nI 1))) ∧
      let G17 : GH := gU G13 t (.inl (7, fs16.set 0 (.int (x15 + (nI 1)))));
      Q.2.1 G17
    else
      Q.2.1 G
  else
    Q.2.1 G
set_option maxRecDepth 100000 in
theorem V_Rg_spreadFrom_157_ok {t : Nat} {a1 : Int32} {a2 : Int32} {p3 : Nat} {a4 : Int32} {G : GH} {Q : GQ} (h : V_Rg_spreadFrom_157 t a1 a2 p3 a4 G Q) : WP M_Rg_spreadFrom 0 0 157 [some (.ref t), some (.int a1), some (.int a2), some (.ref p3), some (.int a4), none, none] [] G Q := WP.ofV (T := T_Rg_spreadFrom) (hh := []) rfl rfl [(15, [true, true, true, true, true, false, false]), (78, [true, true, true, true, true, true, true]), (101, [true, true, true, true, true, true, true]), (126, [true, true, true, true, true, true, true]), (157, [true, true, true, true, true, false, false])] 115 h
def V_Rg_reach_0 (t : Nat) (a1 : Int32) (a2 : Int32) (p3 : Nat) (G : GH) (Q : GQ) : Prop :=
  CI M_Tk_cellAt [.ref p3, .int a1, .int a2] G (fun (x2 : Int32) (G1 : GH) =>
    if x2 = (-nI 1) then
      ∃ (fs3 : List Value) (x4 : Int32), G1.2 t = some (.inl (7, fs3)) ∧ fs3[4]? = some (.int x4) ∧
      if x4 < (nI 64) then
        if ((a2 * (nI 8)) + a1) < (nI 0) then
          Q.2.1 G1
        else
          if ((a2 * (nI 8)) + a1) < (nI 64) then
            ∃ (fs5 : List Value) (r6 : Nat), G1.2 t = some (.inl (7, fs5)) ∧ fs5[1]? = some (.ref r6) ∧
            ∃ (m7 : Nat) (f8 : Nat → Int32), G1.2 r6 = some (.inr (.int, m7, .inl f8)) ∧ vp_in ((a2 * (nI 8)) + a1) m7 ∧
            if (f8 ((a2 * (nI 8)) + a1).toNatClampNeg) = (-nI 1) then
              ∃ (fs9 : List Value) (r10 : Nat), G1.2 t = some (.inl (7, fs9)) ∧ fs9[1]? = some (.ref r10) ∧
              ∃ (fs11 : List Value) (x12 : Int32), G1.2 t = some (.inl (7, fs11)) ∧ fs11[0]? = some (.int x12) ∧
              r10 < gRB ∧ ∃ (m13 : Nat) (f14 : Nat → Int32), G1.2 r10 = some (.inr (.int, m13, .inl f14)) ∧ vp_in ((a2 * (nI 8)) + a1) m13 ∧
              let G15 : GH := gU G1 r10 (.inr (.int, m13, .inl (upd f14 ((a2 * (nI 8)) + a1).toNatClampNeg x12)));
              ∃ (fs16 : List Value) (r17 : Nat), G15.2 t = some (.inl (7, fs16)) ∧ fs16[3]? = some (.ref r17) ∧
              ∃ (fs18 : List Value) (x19 : Int32), G15.2 t = some (.inl (7, fs18)) ∧ fs18[4]? = some (.int x19) ∧
              r17 < gRB ∧ ∃ (m20 : Nat) (f21 : Nat → Int32), G15.2 r17 = some (.inr (.int, m20, .inl f21)) ∧ vp_in x19 m20 ∧
              let G22 : GH := gU G15 r17 (.inr (.int, m20, .inl (upd f21 (x19).toNatClampNeg ((a2 * (nI 8)) + a1))));
              ∃ (fs23 : List Value) (x24 : Int32), G22.2 t = some (.inl (7, fs23)) ∧ fs23[4]? = some (.int x24) ∧
              t < gRB ∧ ∃ (fs25 : List Value), G22.2 t = some (.inl (7, fs25)) ∧ gFit 0 (.int (x24 + (nI 1))) ∧
              let G26 : GH := gU G22 t (.inl (7, fs25.set 4 (.int (x24 + (nI 1)))));
              Q.2.1 G26
            else
              Q.2.1 G1
          else
            Q.2.1 G1
      else
        Q.2.1 G1
    else
      Q.2.1 G1) gNo
set_option maxRecDepth 100000 in
theorem V_Rg_reach_0_ok {t : Nat} {a1 : Int32} {a2 : Int32} {p3 : Nat} {G : GH} {Q : GQ} (h : V_Rg_reach_0 t a1 a2 p3 G Q) : WP M_Rg_reach 0 0 0 [some (.ref t), some (.int a1), some (.int a2), some (.ref p3), none] [] G Q := WP.ofV (T := T_Rg_reach) (hh := []) rfl rfl [] 52 h
theorem E_Rg_reach {t : Nat} {a1 : Int32} {a2 : Int32} {p3 : Nat} {G : GH} {K : GH → Prop} {KX : String → GH → Prop} (h : V_Rg_reach_0 t a1 a2 p3 G (gQv K KX)) : CV M_Rg_reach [.ref t, .int a1, .int a2, .ref p3] G K KX := CV.of rfl rfl rfl (V_Rg_reach_0_ok h)
def V_Tk_init_0 (t : Nat) (G : GH) (Q : GQ) : Prop :=
  t < gRB ∧ ∃ (fs1 : List Value), G.2 t = some (.inl (9, fs1)) ∧ gFit 0 (.int (nI 3)) ∧
  let G2 : GH := gU G t (.inl (9, fs1.set 0 (.int (nI 3))));
  t < gRB ∧ ∃ (fs3 : List Value), G2.2 t = some (.inl (9, fs3)) ∧ gFit 0 (.int (nI 3)) ∧
  let G4 : GH := gU G2 t (.inl (9, fs3.set 1 (.int (nI 3))));
  1 ≤ 2 ∧ 0 < G4.1 ∧ G4.1 < gRB ∧ ∃ (m5 : Nat), (nI 64) = nI m5 ∧ m5 ≤ 100000 ∧ m5 ≤ 192 ∧
  let G6 : GH := gPush G4 (.inr (.int, m5, .inl fun _ => 0));
  t < gRB ∧ ∃ (fs7 : List Value), G6.2 t = some (.inl (9, fs7)) ∧ gFit 1 (.ref G4.1) ∧
  let G8 : GH := gU G6 t (.inl (9, fs7.set 2 (.ref G4.1)));
  1 ≤ (2 - 1) ∧ 0 < G8.1 ∧ G8.1 < gRB ∧ ∃ (m9 : Nat), (nI 128) = nI m9 ∧ m9 ≤ 100000 ∧ m9 ≤ (192 - m5) ∧
  let G10 : GH := gPush G8 (.inr (.boolean, m9, .inl fun _ => 0));
  t < gRB ∧ ∃ (fs11 : List Value), G10.2 t = some (.inl (9, fs11)) ∧ gFit 1 (.ref G8.1) ∧
  let G12 : GH := gU G10 t (.inl (9, fs11.set 3 (.ref G8.1)));
  WP M_Tk_init ((2 - 1) - 1) ((192 - m5) - m9) 31 [some (.ref t)] [] G12 Q
set_option maxRecDepth 100000 in
theorem V_Tk_init_0_ok {t : Nat} {G : GH} {Q : GQ} (h : V_Tk_init_0 t G Q) : WP M_Tk_init 2 192 0 [some (.ref t)] [] G Q := WP.ofV (T := T_Tk_init) (hh := []) rfl rfl [(31, [true])] 22 h
theorem E_Tk_init {t : Nat} {G : GH} {K : GH → Prop} {KX : String → GH → Prop} (h : V_Tk_init_0 t G (gQv K KX)) : CV M_Tk_init [.ref t] G K KX := CV.of rfl rfl rfl (V_Tk_init_0_ok h)
def V_Tk_init_31 (rc rs : Nat) (t : Nat) (G : GH) (Q : GQ) : Prop :=
  Q.2.1 G
set_option maxRecDepth 100000 in
theorem V_Tk_init_31_ok {rc rs : Nat} {t : Nat} {G : GH} {Q : GQ} (h : V_Tk_init_31 rc rs t G Q) : WP M_Tk_init rc rs 31 [some (.ref t)] [] G Q := WP.ofV (T := T_Tk_init) (hh := []) rfl rfl [(31, [true])] 22 h
def V_Tk_clear_0 (t : Nat) (a1 : Int32) (a2 : Int32) (G : GH) (Q : GQ) : Prop :=
  t < gRB ∧ ∃ (fs1 : List Value), G.2 t = some (.inl (9, fs1)) ∧ gFit 0 (.int (if (nI 8) < a1 then nI 8 else a1)) ∧
  let G2 : GH := gU G t (.inl (9, fs1.set 0 (.int (if (nI 8) < a1 then nI 8 else a1))));
  t < gRB ∧ ∃ (fs3 : List Value), G2.2 t = some (.inl (9, fs3)) ∧ gFit 0 (.int (if (nI 8) < a2 then nI 8 else a2)) ∧
  let G4 : GH := gU G2 t (.inl (9, fs3.set 1 (.int (if (nI 8) < a2 then nI 8 else a2))));
  WP M_Tk_clear 0 0 22 [some (.ref t), some (.int a1), some (.int a2), some (.int (nI 0))] [] G4 Q
set_option maxRecDepth 100000 in
theorem V_Tk_clear_0_ok {t : Nat} {a1 : Int32} {a2 : Int32} {G : GH} {Q : GQ} (h : V_Tk_clear_0 t a1 a2 G Q) : WP M_Tk_clear 0 0 0 [some (.ref t), some (.int a1), some (.int a2), none] [] G Q := WP.ofV (T := T_Tk_clear) (hh := []) rfl rfl [(22, [true, true, true, true]), (43, [true, true, true, true])] 40 h
theorem E_Tk_clear {t : Nat} {a1 : Int32} {a2 : Int32} {G : GH} {K : GH → Prop} {KX : String → GH → Prop} (h : V_Tk_clear_0 t a1 a2 G (gQv K KX)) : CV M_Tk_clear [.ref t, .int a1, .int a2] G K KX := CV.of rfl rfl rfl (V_Tk_clear_0_ok h)
def V_Tk_clear_22 (t : Nat) (a1 : Int32) (a2 : Int32) (a3 : Int32) (G : GH) (Q : GQ) : Prop :=
  if a3 < (nI 64) then
    ∃ (fs1 : List Value) (r2 : Nat), G.2 t = some (.inl (9, fs1)) ∧ fs1[2]? = some (.ref r2) ∧
    r2 < gRB ∧ ∃ (m3 : Nat) (f4 : Nat → Int32), G.2 r2 = some (.inr (.int, m3, .inl f4)) ∧ vp_in a3 m3 ∧
    let G5 : GH := gU G r2 (.inr (.int, m3, .inl (upd f4 (a3).toNatClampNeg (-nI 1))));
    WP M_Tk_clear 0 0 22 [some (.ref t), some (.int a1), some (.int a2), some (.int (a3 + nI 1))] [] G5 Q
  else
    WP M_Tk_clear 0 0 43 [some (.ref t), some (.int a1), some (.int a2), some (.int (nI 0))] [] G Q
set_option maxRecDepth 100000 in
theorem V_Tk_clear_22_ok {t : Nat} {a1 : Int32} {a2 : Int32} {a3 : Int32} {G : GH} {Q : GQ} (h : V_Tk_clear_22 t a1 a2 a3 G Q) : WP M_Tk_clear 0 0 22 [some (.ref t), some (.int a1), some (.int a2), some (.int a3)] [] G Q := WP.ofV (T := T_Tk_clear) (hh := []) rfl rfl [(22, [true, true, true, true]), (43, [true, true, true, true])] 40 h
def V_Tk_clear_43 (t : Nat) (a1 : Int32) (a2 : Int32) (a3 : Int32) (G : GH) (Q : GQ) : Prop :=
  if a3 < (nI 128) then
    ∃ (fs1 : List Value) (r2 : Nat), G.2 t = some (.inl (9, fs1)) ∧ fs1[3]? = some (.ref r2) ∧
    r2 < gRB ∧ ((nI 0) = nI 0 ∨ (nI 0) = nI 1) ∧ ∃ (m3 : Nat) (f4 : Nat → Int32), G.2 r2 = some (.inr (.boolean, m3, .inl f4)) ∧ vp_in a3 m3 ∧
    let G5 : GH := gU G r2 (.inr (.boolean, m3, .inl (upd f4 (a3).toNatClampNeg (nI 0))));
    WP M_Tk_clear 0 0 43 [some (.ref t), some (.int a1), some (.int a2), some (.int (a3 + nI 1))] [] G5 Q
  else
    Q.2.1 G
set_option maxRecDepth 100000 in
theorem V_Tk_clear_43_ok {t : Nat} {a1 : Int32} {a2 : Int32} {a3 : Int32} {G : GH} {Q : GQ} (h : V_Tk_clear_43 t a1 a2 a3 G Q) : WP M_Tk_clear 0 0 43 [some (.ref t), some (.int a1), some (.int a2), some (.int a3)] [] G Q := WP.ofV (T := T_Tk_clear) (hh := []) rfl rfl [(22, [true, true, true, true]), (43, [true, true, true, true])] 40 h
def V_Tk_copyFrom_0 (t : Nat) (p1 : Nat) (G : GH) (Q : GQ) : Prop :=
  ∃ (fs1 : List Value) (x2 : Int32), G.2 p1 = some (.inl (9, fs1)) ∧ fs1[0]? = some (.int x2) ∧
  t < gRB ∧ ∃ (fs3 : List Value), G.2 t = some (.inl (9, fs3)) ∧ gFit 0 (.int x2) ∧
  let G4 : GH := gU G t (.inl (9, fs3.set 0 (.int x2)));
  ∃ (fs5 : List Value) (x6 : Int32), G4.2 p1 = some (.inl (9, fs5)) ∧ fs5[1]? = some (.int x6) ∧
  t < gRB ∧ ∃ (fs7 : List Value), G4.2 t = some (.inl (9, fs7)) ∧ gFit 0 (.int x6) ∧
  let G8 : GH := gU G4 t (.inl (9, fs7.set 1 (.int x6)));
  ∃ (fs9 : List Value) (r10 : Nat), G8.2 p1 = some (.inl (9, fs9)) ∧ fs9[2]? = some (.ref r10) ∧
  ∃ (fs11 : List Value) (r12 : Nat), G8.2 t = some (.inl (9, fs11)) ∧ fs11[2]? = some (.ref r12) ∧
  r12 < gRB ∧ r10 < gRB ∧ ∃ (ty13 : FieldType) (m14 w15 : Nat) (f16 h17 : Nat → Int32) (ka18 da19 sa20 : Nat), G8.2 r10 = some (.inr (ty13, m14, .inl f16)) ∧ G8.2 r12 = some (.inr (ty13, w15, .inl h17)) ∧ (ty13 = .int ∨ ty13 = .boolean ∧ ∀ i, f16 i = nI 0 ∨ f16 i = nI 1) ∧ (nI 64) = nI ka18 ∧ (nI 0) = nI da19 ∧ (nI 0) = nI sa20 ∧ ka18 < 2 ^ 31 ∧ da19 < 2 ^ 31 ∧ sa20 < 2 ^ 31 ∧ sa20 + ka18 ≤ m14 ∧ da19 + ka18 ≤ w15 ∧
  let G21 : GH := gU G8 r12 (.inr (ty13, w15, .inl (va_cpy f16 h17 sa20 da19 ka18)));
  ∃ (fs22 : List Value) (r23 : Nat), G21.2 p1 = some (.inl (9, fs22)) ∧ fs22[3]? = some (.ref r23) ∧
  ∃ (fs24 : List Value) (r25 : Nat), G21.2 t = some (.inl (9, fs24)) ∧ fs24[3]? = some (.ref r25) ∧
  r25 < gRB ∧ r23 < gRB ∧ ∃ (ty26 : FieldType) (m27 w28 : Nat) (f29 h30 : Nat → Int32) (ka31 da32 sa33 : Nat), G21.2 r23 = some (.inr (ty26, m27, .inl f29)) ∧ G21.2 r25 = some (.inr (ty26, w28, .inl h30)) ∧ (ty26 = .int ∨ ty26 = .boolean ∧ ∀ i, f29 i = nI 0 ∨ f29 i = nI 1) ∧ (nI 128) = nI ka31 ∧ (nI 0) = nI da32 ∧ (nI 0) = nI sa33 ∧ ka31 < 2 ^ 31 ∧ da32 < 2 ^ 31 ∧ sa33 < 2 ^ 31 ∧ sa33 + ka31 ≤ m27 ∧ da32 + ka31 ≤ w28 ∧
  let G34 : GH := gU G21 r25 (.inr (ty26, w28, .inl (va_cpy f29 h30 sa33 da32 ka31)));
  Q.2.1 G34
set_option maxRecDepth 100000 in
theorem V_Tk_copyFrom_0_ok {t : Nat} {p1 : Nat} {G : GH} {Q : GQ} (h : V_Tk_copyFrom_0 t p1 G Q) : WP M_Tk_copyFrom 0 0 0 [some (.ref t), some (.ref p1)] [] G Q := WP.ofV (T := T_Tk_copyFrom) (hh := []) rfl rfl [] 30 h
theorem E_Tk_copyFrom {t : Nat} {p1 : Nat} {G : GH} {K : GH → Prop} {KX : String → GH → Prop} (h : V_Tk_copyFrom_0 t p1 G (gQv K KX)) : CV M_Tk_copyFrom [.ref t, .ref p1] G K KX := CV.of rfl rfl rfl (V_Tk_copyFrom_0_ok h)
def V_Tk_holds_0 (t : Nat) (a1 : Int32) (a2 : Int32) (G : GH) (Q : GQ) : Prop :=
  if a1 < (nI 0) then
    ((nI 0) = nI 0 ∨ (nI 0) = nI 1) ∧ Q.1 (nI 0) G
  else
    ∃ (fs1 : List Value) (x2 : Int32), G.2 t = some (.inl (9, fs1)) ∧ fs1[0]? = some (.int x2) ∧
    if a1 < x2 then
      if a2 < (nI 0) then
        ((nI 0) = nI 0 ∨ (nI 0) = nI 1) ∧ Q.1 (nI 0) G
      else
        ∃ (fs3 : List Value) (x4 : Int32), G.2 t = some (.inl (9, fs3)) ∧ fs3[1]? = some (.int x4) ∧
        if a2 < x4 then
          ((nI 1) = nI 0 ∨ (nI 1) = nI 1) ∧ Q.1 (nI 1) G
        else
          ((nI 0) = nI 0 ∨ (nI 0) = nI 1) ∧ Q.1 (nI 0) G
    else
      ((nI 0) = nI 0 ∨ (nI 0) = nI 1) ∧ Q.1 (nI 0) G
set_option maxRecDepth 100000 in
theorem V_Tk_holds_0_ok {t : Nat} {a1 : Int32} {a2 : Int32} {G : GH} {Q : GQ} (h : V_Tk_holds_0 t a1 a2 G Q) : WP M_Tk_holds 0 0 0 [some (.ref t), some (.int a1), some (.int a2)] [] G Q := WP.ofV (T := T_Tk_holds) (hh := []) rfl rfl [] 21 h
theorem E_Tk_holds {t : Nat} {a1 : Int32} {a2 : Int32} {G : GH} {K : Int32 → GH → Prop} {KX : String → GH → Prop} (h : V_Tk_holds_0 t a1 a2 G (gQi K KX)) : CI M_Tk_holds [.ref t, .int a1, .int a2] G K KX := CI.of rfl rfl rfl (V_Tk_holds_0_ok h)
def V_Tk_holdsEdge_0 (t : Nat) (a1 : Int32) (a2 : Int32) (a3 : Int32) (G : GH) (Q : GQ) : Prop :=
  CI M_Tk_holds [.ref t, .int a1, .int a2] G (fun (x2 : Int32) (G1 : GH) =>
    if x2 = (nI 0) then
      ((nI 0) = nI 0 ∨ (nI 0) = nI 1) ∧ Q.1 (nI 0) G1
    else
      if a3 = (nI 0) then
        ∃ (fs3 : List Value) (x4 : Int32), G1.2 t = some (.inl (9, fs3)) ∧ fs3[0]? = some (.int x4) ∧
        if a1 < (x4 - (nI 1)) then
          ((nI 1) = nI 0 ∨ (nI 1) = nI 1) ∧ Q.1 (nI 1) G1
        else
          ((nI 0) = nI 0 ∨ (nI 0) = nI 1) ∧ Q.1 (nI 0) G1
      else
        ∃ (fs5 : List Value) (x6 : Int32), G1.2 t = some (.inl (9, fs5)) ∧ fs5[1]? = some (.int x6) ∧
        if a2 < (x6 - (nI 1)) then
          ((nI 1) = nI 0 ∨ (nI 1) = nI 1) ∧ Q.1 (nI 1) G1
        else
          ((nI 0) = nI 0 ∨ (nI 0) = nI 1) ∧ Q.1 (nI 0) G1) gNo
set_option maxRecDepth 100000 in
theorem V_Tk_holdsEdge_0_ok {t : Nat} {a1 : Int32} {a2 : Int32} {a3 : Int32} {G : GH} {Q : GQ} (h : V_Tk_holdsEdge_0 t a1 a2 a3 G Q) : WP M_Tk_holdsEdge 0 0 0 [some (.ref t), some (.int a1), some (.int a2), some (.int a3)] [] G Q := WP.ofV (T := T_Tk_holdsEdge) (hh := []) rfl rfl [] 34 h
theorem E_Tk_holdsEdge {t : Nat} {a1 : Int32} {a2 : Int32} {a3 : Int32} {G : GH} {K : Int32 → GH → Prop} {KX : String → GH → Prop} (h : V_Tk_holdsEdge_0 t a1 a2 a3 G (gQi K KX)) : CI M_Tk_holdsEdge [.ref t, .int a1, .int a2, .int a3] G K KX := CI.of rfl rfl rfl (V_Tk_holdsEdge_0_ok h)
def V_Tk_cellAt_0 (t : Nat) (a1 : Int32) (a2 : Int32) (G : GH) (Q : GQ) : Prop :=
  if a1 < (nI 0) then
    Q.1 (-nI 3) G
  else
    ∃ (fs1 : List Value) (x2 : Int32), G.2 t = some (.inl (9, fs1)) ∧ fs1[0]? = some (.int x2) ∧
    if a1 < x2 then
      if a2 < (nI 0) then
        Q.1 (-nI 3) G
      else
        ∃ (fs3 : List Value) (x4 : Int32), G.2 t = some (.inl (9, fs3)) ∧ fs3[1]? = some (.int x4) ∧
        if a2 < x4 then
          ∃ (fs5 : List Value) (r6 : Nat), G.2 t = some (.inl (9, fs5)) ∧ fs5[2]? = some (.ref r6) ∧
          ∃ (m7 : Nat) (f8 : Nat → Int32), G.2 r6 = some (.inr (.int, m7, .inl f8)) ∧ vp_in ((a2 * (nI 8)) + a1) m7 ∧
          Q.1 (f8 ((a2 * (nI 8)) + a1).toNatClampNeg) G
        else
          Q.1 (-nI 3) G
    else
      Q.1 (-nI 3) G
set_option maxRecDepth 100000 in
theorem V_Tk_cellAt_0_ok {t : Nat} {a1 : Int32} {a2 : Int32} {G : GH} {Q : GQ} (h : V_Tk_cellAt_0 t a1 a2 G Q) : WP M_Tk_cellAt 0 0 0 [some (.ref t), some (.int a1), some (.int a2)] [] G Q := WP.ofV (T := T_Tk_cellAt) (hh := []) rfl rfl [] 28 h
theorem E_Tk_cellAt {t : Nat} {a1 : Int32} {a2 : Int32} {G : GH} {K : Int32 → GH → Prop} {KX : String → GH → Prop} (h : V_Tk_cellAt_0 t a1 a2 G (gQi K KX)) : CI M_Tk_cellAt [.ref t, .int a1, .int a2] G K KX := CI.of rfl rfl rfl (V_Tk_cellAt_0_ok h)
def V_Tk_setCell_0 (t : Nat) (a1 : Int32) (a2 : Int32) (a3 : Int32) (G : GH) (Q : GQ) : Prop :=
  CI M_Tk_holds [.ref t, .int a1, .int a2] G (fun (x2 : Int32) (G1 : GH) =>
    if x2 = (nI 0) then
      Q.2.1 G1
    else
      ∃ (fs3 : List Value) (r4 : Nat), G1.2 t = some (.inl (9, fs3)) ∧ fs3[2]? = some (.ref r4) ∧
      r4 < gRB ∧ ∃ (m5 : Nat) (f6 : Nat → Int32), G1.2 r4 = some (.inr (.int, m5, .inl f6)) ∧ vp_in ((a2 * (nI 8)) + a1) m5 ∧
      let G7 : GH := gU G1 r4 (.inr (.int, m5, .inl (upd f6 ((a2 * (nI 8)) + a1).toNatClampNeg a3)));
      Q.2.1 G7) gNo
set_option maxRecDepth 100000 in
theorem V_Tk_setCell_0_ok {t : Nat} {a1 : Int32} {a2 : Int32} {a3 : Int32} {G : GH} {Q : GQ} (h : V_Tk_setCell_0 t a1 a2 a3 G Q) : WP M_Tk_setCell 0 0 0 [some (.ref t), some (.int a1), some (.int a2), some (.int a3)] [] G Q := WP.ofV (T := T_Tk_setCell) (hh := []) rfl rfl [] 20 h
theorem E_Tk_setCell {t : Nat} {a1 : Int32} {a2 : Int32} {a3 : Int32} {G : GH} {K : GH → Prop} {KX : String → GH → Prop} (h : V_Tk_setCell_0 t a1 a2 a3 G (gQv K KX)) : CV M_Tk_setCell [.ref t, .int a1, .int a2, .int a3] G K KX := CV.of rfl rfl rfl (V_Tk_setCell_0_ok h)
def V_Tk_strapAt_0 (t : Nat) (a1 : Int32) (a2 : Int32) (a3 : Int32) (G : GH) (Q : GQ) : Prop :=
  if a1 < (nI 0) then
    ((nI 0) = nI 0 ∨ (nI 0) = nI 1) ∧ Q.1 (nI 0) G
  else
    ∃ (fs1 : List Value) (x2 : Int32), G.2 t = some (.inl (9, fs1)) ∧ fs1[0]? = some (.int x2) ∧
    if a1 < x2 then
      if a2 < (nI 0) then
        ((nI 0) = nI 0 ∨ (nI 0) = nI 1) ∧ Q.1 (nI 0) G
      else
        ∃ (fs3 : List Value) (x4 : Int32), G.2 t = some (.inl (9, fs3)) ∧ fs3[1]? = some (.int x4) ∧
        if a2 < x4 then
          if a3 < (nI 0) then
            ((nI 0) = nI 0 ∨ (nI 0) = nI 1) ∧ Q.1 (nI 0) G
          else
            if a3 < (nI 2) then
              ∃ (fs5 : List Value) (r6 : Nat), G.2 t = some (.inl (9, fs5)) ∧ fs5[3]? = some (.ref r6) ∧
              r6 < gRB ∧ ∃ (m7 : Nat) (f8 : Nat → Int32), G.2 r6 = some (.inr (.boolean, m7, .inl f8)) ∧ vp_in ((((a2 * (nI 8)) + a1) * (nI 2)) + a3) m7 ∧
              ((f8 ((((a2 * (nI 8)) + a1) * (nI 2)) + a3).toNatClampNeg) = nI 0 ∨ (f8 ((((a2 * (nI 8)) + a1) * (nI 2)) + a3).toNatClampNeg) = nI 1) ∧ Q.1 (f8 ((((a2 * (nI 8)) + a1) * (nI 2)) + a3).toNatClampNeg) G
            else
              ((nI 0) = nI 0 ∨ (nI 0) = nI 1) ∧ Q.1 (nI 0) G
        else
          ((nI 0) = nI 0 ∨ (nI 0) = nI 1) ∧ Q.1 (nI 0) G
    else
      ((nI 0) = nI 0 ∨ (nI 0) = nI 1) ∧ Q.1 (nI 0) G
set_option maxRecDepth 100000 in
theorem V_Tk_strapAt_0_ok {t : Nat} {a1 : Int32} {a2 : Int32} {a3 : Int32} {G : GH} {Q : GQ} (h : V_Tk_strapAt_0 t a1 a2 a3 G Q) : WP M_Tk_strapAt 0 0 0 [some (.ref t), some (.int a1), some (.int a2), some (.int a3)] [] G Q := WP.ofV (T := T_Tk_strapAt) (hh := []) rfl rfl [] 39 h
theorem E_Tk_strapAt {t : Nat} {a1 : Int32} {a2 : Int32} {a3 : Int32} {G : GH} {K : Int32 → GH → Prop} {KX : String → GH → Prop} (h : V_Tk_strapAt_0 t a1 a2 a3 G (gQi K KX)) : CI M_Tk_strapAt [.ref t, .int a1, .int a2, .int a3] G K KX := CI.of rfl rfl rfl (V_Tk_strapAt_0_ok h)
def V_Tk_setStrap_0 (t : Nat) (a1 : Int32) (a2 : Int32) (a3 : Int32) (G : GH) (Q : GQ) : Prop :=
  if a3 < (nI 0) then
    Q.2.1 G
  else
    if a3 < (nI 2) then
      CI M_Tk_holdsEdge [.ref t, .int a1, .int a2, .int a3] G (fun (x2 : Int32) (G1 : GH) =>
        if x2 = (nI 0) then
          Q.2.1 G1
        else
          ∃ (fs3 : List Value) (r4 : Nat), G1.2 t = some (.inl (9, fs3)) ∧ fs3[3]? = some (.ref r4) ∧
          r4 < gRB ∧ ((nI 1) = nI 0 ∨ (nI 1) = nI 1) ∧ ∃ (m5 : Nat) (f6 : Nat → Int32), G1.2 r4 = some (.inr (.boolean, m5, .inl f6)) ∧ vp_in ((((a2 * (nI 8)) + a1) * (nI 2)) + a3) m5 ∧
          let G7 : GH := gU G1 r4 (.inr (.boolean, m5, .inl (upd f6 ((((a2 * (nI 8)) + a1) * (nI 2)) + a3).toNatClampNeg (nI 1))));
          Q.2.1 G7) gNo
    else
      Q.2.1 G
set_option maxRecDepth 100000 in
theorem V_Tk_setStrap_0_ok {t : Nat} {a1 : Int32} {a2 : Int32} {a3 : Int32} {G : GH} {Q : GQ} (h : V_Tk_setStrap_0 t a1 a2 a3 G Q) : WP M_Tk_setStrap 0 0 0 [some (.ref t), some (.int a1), some (.int a2), some (.int a3)] [] G Q := WP.ofV (T := T_Tk_setStrap) (hh := []) rfl rfl [] 30 h
theorem E_Tk_setStrap {t : Nat} {a1 : Int32} {a2 : Int32} {a3 : Int32} {G : GH} {K : GH → Prop} {KX : String → GH → Prop} (h : V_Tk_setStrap_0 t a1 a2 a3 G (gQv K KX)) : CV M_Tk_setStrap [.ref t, .int a1, .int a2, .int a3] G K KX := CV.of rfl rfl rfl (V_Tk_setStrap_0_ok h)
def V_Tk_cellBeyond_0 (t : Nat) (a1 : Int32) (a2 : Int32) (a3 : Int32) (G : GH) (Q : GQ) : Prop :=
  if a3 = (nI 0) then
    CI M_Tk_cellAt [.ref t, .int (a1 + (nI 1)), .int a2] G (fun (x2 : Int32) (G1 : GH) =>
      Q.1 x2 G1) gNo
  else
    CI M_Tk_cellAt [.ref t, .int a1, .int (a2 + (nI 1))] G (fun (x4 : Int32) (G3 : GH) =>
      Q.1 x4 G3) gNo
set_option maxRecDepth 100000 in
theorem V_Tk_cellBeyond_0_ok {t : Nat} {a1 : Int32} {a2 : Int32} {a3 : Int32} {G : GH} {Q : GQ} (h : V_Tk_cellBeyond_0 t a1 a2 a3 G Q) : WP M_Tk_cellBeyond 0 0 0 [some (.ref t), some (.int a1), some (.int a2), some (.int a3)] [] G Q := WP.ofV (T := T_Tk_cellBeyond) (hh := []) rfl rfl [] 21 h
theorem E_Tk_cellBeyond {t : Nat} {a1 : Int32} {a2 : Int32} {a3 : Int32} {G : GH} {K : Int32 → GH → Prop} {KX : String → GH → Prop} (h : V_Tk_cellBeyond_0 t a1 a2 a3 G (gQi K KX)) : CI M_Tk_cellBeyond [.ref t, .int a1, .int a2, .int a3] G K KX := CI.of rfl rfl rfl (V_Tk_cellBeyond_0_ok h)
def V_Tk_isEdgeBlocked_0 (t : Nat) (a1 : Int32) (a2 : Int32) (a3 : Int32) (G : GH) (Q : GQ) : Prop :=
  CI M_Tk_cellAt [.ref t, .int a1, .int a2] G (fun (x2 : Int32) (G1 : GH) =>
    if x2 = (-nI 2) then
      ((nI 1) = nI 0 ∨ (nI 1) = nI 1) ∧ Q.1 (nI 1) G1
    else
      CI M_Tk_cellBeyond [.ref t, .int a1, .int a2, .int a3] G1 (fun (x4 : Int32) (G3 : GH) =>
        if x4 = (-nI 2) then
          ((nI 1) = nI 0 ∨ (nI 1) = nI 1) ∧ Q.1 (nI 1) G3
        else
          ((nI 0) = nI 0 ∨ (nI 0) = nI 1) ∧ Q.1 (nI 0) G3) gNo) gNo
set_option maxRecDepth 100000 in
theorem V_Tk_isEdgeBlocked_0_ok {t : Nat} {a1 : Int32} {a2 : Int32} {a3 : Int32} {G : GH} {Q : GQ} (h : V_Tk_isEdgeBlocked_0 t a1 a2 a3 G Q) : WP M_Tk_isEdgeBlocked 0 0 0 [some (.ref t), some (.int a1), some (.int a2), some (.int a3)] [] G Q := WP.ofV (T := T_Tk_isEdgeBlocked) (hh := []) rfl rfl [] 22 h
theorem E_Tk_isEdgeBlocked {t : Nat} {a1 : Int32} {a2 : Int32} {a3 : Int32} {G : GH} {K : Int32 → GH → Prop} {KX : String → GH → Prop} (h : V_Tk_isEdgeBlocked_0 t a1 a2 a3 G (gQi K KX)) : CI M_Tk_isEdgeBlocked [.ref t, .int a1, .int a2, .int a3] G K KX := CI.of rfl rfl rfl (V_Tk_isEdgeBlocked_0_ok h)
def V_Tk_isEdgeCovered_0 (t : Nat) (a1 : Int32) (a2 : Int32) (a3 : Int32) (G : GH) (Q : GQ) : Prop :=
  CI M_Tk_cellAt [.ref t, .int a1, .int a2] G (fun (x2 : Int32) (G1 : GH) =>
    if x2 < (nI 0) then
      ((nI 0) = nI 0 ∨ (nI 0) = nI 1) ∧ Q.1 (nI 0) G1
    else
      CI M_Tk_cellBeyond [.ref t, .int a1, .int a2, .int a3] G1 (fun (x4 : Int32) (G3 : GH) =>
        if x2 = x4 then
          ((nI 1) = nI 0 ∨ (nI 1) = nI 1) ∧ Q.1 (nI 1) G3
        else
          ((nI 0) = nI 0 ∨ (nI 0) = nI 1) ∧ Q.1 (nI 0) G3) gNo) gNo
set_option maxRecDepth 100000 in
theorem V_Tk_isEdgeCovered_0_ok {t : Nat} {a1 : Int32} {a2 : Int32} {a3 : Int32} {G : GH} {Q : GQ} (h : V_Tk_isEdgeCovered_0 t a1 a2 a3 G Q) : WP M_Tk_isEdgeCovered 0 0 0 [some (.ref t), some (.int a1), some (.int a2), some (.int a3), none] [] G Q := WP.ofV (T := T_Tk_isEdgeCovered) (hh := []) rfl rfl [] 23 h
theorem E_Tk_isEdgeCovered {t : Nat} {a1 : Int32} {a2 : Int32} {a3 : Int32} {G : GH} {K : Int32 → GH → Prop} {KX : String → GH → Prop} (h : V_Tk_isEdgeCovered_0 t a1 a2 a3 G (gQi K KX)) : CI M_Tk_isEdgeCovered [.ref t, .int a1, .int a2, .int a3] G K KX := CI.of rfl rfl rfl (V_Tk_isEdgeCovered_0_ok h)
def V_Tk_countEmptyIn_0 (t : Nat) (a1 : Int32) (G : GH) (Q : GQ) : Prop :=
  WP M_Tk_countEmptyIn 0 0 4 [some (.ref t), some (.int a1), some (.int (nI 0)), some (.int (nI 0))] [] G Q
set_option maxRecDepth 100000 in
theorem V_Tk_countEmptyIn_0_ok {t : Nat} {a1 : Int32} {G : GH} {Q : GQ} (h : V_Tk_countEmptyIn_0 t a1 G Q) : WP M_Tk_countEmptyIn 0 0 0 [some (.ref t), some (.int a1), none, none] [] G Q := WP.ofV (T := T_Tk_countEmptyIn) (hh := []) rfl rfl [(4, [true, true, true, true])] 24 h
theorem E_Tk_countEmptyIn {t : Nat} {a1 : Int32} {G : GH} {K : Int32 → GH → Prop} {KX : String → GH → Prop} (h : V_Tk_countEmptyIn_0 t a1 G (gQi K KX)) : CI M_Tk_countEmptyIn [.ref t, .int a1] G K KX := CI.of rfl rfl rfl (V_Tk_countEmptyIn_0_ok h)
def V_Tk_countEmptyIn_4 (t : Nat) (a1 : Int32) (a2 : Int32) (a3 : Int32) (G : GH) (Q : GQ) : Prop :=
  ∃ (fs1 : List Value) (x2 : Int32), G.2 t = some (.inl (9, fs1)) ∧ fs1[0]? = some (.int x2) ∧
  if a3 < x2 then
    CI M_Tk_cellAt [.ref t, .int a3, .int a1] G (fun (x4 : Int32) (G3 : GH) =>
      if x4 = (-nI 1) then
        WP M_Tk_countEmptyIn 0 0 4 [some (.ref t), some (.int a1), some (.int (a2 + nI 1)), some (.int (a3 + nI 1))] [] G3 Q
      else
        WP M_Tk_countEmptyIn 0 0 4 [some (.ref t), some (.int a1), some (.int a2), some (.int (a3 + nI 1))] [] G3 Q) gNo
  else
    Q.1 a2 G
set_option maxRecDepth 100000 in
theorem V_Tk_countEmptyIn_4_ok {t : Nat} {a1 : Int32} {a2 : Int32} {a3 : Int32} {G : GH} {Q : GQ} (h : V_Tk_countEmptyIn_4 t a1 a2 a3 G Q) : WP M_Tk_countEmptyIn 0 0 4 [some (.ref t), some (.int a1), some (.int a2), some (.int a3)] [] G Q := WP.ofV (T := T_Tk_countEmptyIn) (hh := []) rfl rfl [(4, [true, true, true, true])] 24 h
def V_Tk_countCells_0 (t : Nat) (a1 : Int32) (G : GH) (Q : GQ) : Prop :=
  WP M_Tk_countCells 0 0 4 [some (.ref t), some (.int a1), some (.int (nI 0)), some (.int (nI 0)), none] [] G Q
set_option maxRecDepth 100000 in
theorem V_Tk_countCells_0_ok {t : Nat} {a1 : Int32} {G : GH} {Q : GQ} (h : V_Tk_countCells_0 t a1 G Q) : WP M_Tk_countCells 0 0 0 [some (.ref t), some (.int a1), none, none, none] [] G Q := WP.ofV (T := T_Tk_countCells) (hh := []) rfl rfl [(4, [true, true, true, true, false]), (15, [true, true, true, true, true])] 32 h
theorem E_Tk_countCells {t : Nat} {a1 : Int32} {G : GH} {K : Int32 → GH → Prop} {KX : String → GH → Prop} (h : V_Tk_countCells_0 t a1 G (gQi K KX)) : CI M_Tk_countCells [.ref t, .int a1] G K KX := CI.of rfl rfl rfl (V_Tk_countCells_0_ok h)
def V_Tk_countCells_4 (t : Nat) (a1 : Int32) (a2 : Int32) (a3 : Int32) (G : GH) (Q : GQ) : Prop :=
  ∃ (fs1 : List Value) (x2 : Int32), G.2 t = some (.inl (9, fs1)) ∧ fs1[1]? = some (.int x2) ∧
  if a3 < x2 then
    WP M_Tk_countCells 0 0 15 [some (.ref t), some (.int a1), some (.int a2), some (.int a3), some (.int (nI 0))] [] G Q
  else
    Q.1 a2 G
set_option maxRecDepth 100000 in
theorem V_Tk_countCells_4_ok {t : Nat} {a1 : Int32} {a2 : Int32} {a3 : Int32} {G : GH} {Q : GQ} (h : V_Tk_countCells_4 t a1 a2 a3 G Q) : WP M_Tk_countCells 0 0 4 [some (.ref t), some (.int a1), some (.int a2), some (.int a3), none] [] G Q := WP.ofV (T := T_Tk_countCells) (hh := []) rfl rfl [(4, [true, true, true, true, false]), (15, [true, true, true, true, true])] 32 h
def V_Tk_countCells_15 (t : Nat) (a1 : Int32) (a2 : Int32) (a3 : Int32) (a4 : Int32) (G : GH) (Q : GQ) : Prop :=
  ∃ (fs1 : List Value) (x2 : Int32), G.2 t = some (.inl (9, fs1)) ∧ fs1[0]? = some (.int x2) ∧
  if a4 < x2 then
    CI M_Tk_cellAt [.ref t, .int a4, .int a3] G (fun (x4 : Int32) (G3 : GH) =>
      if x4 = a1 then
        WP M_Tk_countCells 0 0 15 [some (.ref t), some (.int a1), some (.int (a2 + nI 1)), some (.int a3), some (.int (a4 + nI 1))] [] G3 Q
      else
        WP M_Tk_countCells 0 0 15 [some (.ref t), some (.int a1), some (.int a2), some (.int a3), some (.int (a4 + nI 1))] [] G3 Q) gNo
  else
    WP M_Tk_countCells 0 0 4 [some (.ref t), some (.int a1), some (.int a2), some (.int (a3 + nI 1)), none] [] G Q
set_option maxRecDepth 100000 in
theorem V_Tk_countCells_15_ok {t : Nat} {a1 : Int32} {a2 : Int32} {a3 : Int32} {a4 : Int32} {G : GH} {Q : GQ} (h : V_Tk_countCells_15 t a1 a2 a3 a4 G Q) : WP M_Tk_countCells 0 0 15 [some (.ref t), some (.int a1), some (.int a2), some (.int a3), some (.int a4)] [] G Q := WP.ofV (T := T_Tk_countCells) (hh := []) rfl rfl [(4, [true, true, true, true, false]), (15, [true, true, true, true, true])] 32 h
def V_Tk_countCovered_0 (t : Nat) (G : GH) (Q : GQ) : Prop :=
  ∃ (fs1 : List Value) (x2 : Int32), G.2 t = some (.inl (9, fs1)) ∧ fs1[0]? = some (.int x2) ∧
  ∃ (fs3 : List Value) (x4 : Int32), G.2 t = some (.inl (9, fs3)) ∧ fs3[1]? = some (.int x4) ∧
  CI M_Tk_countCells [.ref t, .int (-nI 1)] G (fun (x6 : Int32) (G5 : GH) =>
    CI M_Tk_countCells [.ref t, .int (-nI 2)] G5 (fun (x8 : Int32) (G7 : GH) =>
      Q.1 (((x2 * x4) - x6) - x8) G7) gNo) gNo
set_option maxRecDepth 100000 in
theorem V_Tk_countCovered_0_ok {t : Nat} {G : GH} {Q : GQ} (h : V_Tk_countCovered_0 t G Q) : WP M_Tk_countCovered 0 0 0 [some (.ref t)] [] G Q := WP.ofV (T := T_Tk_countCovered) (hh := []) rfl rfl [] 19 h
theorem E_Tk_countCovered {t : Nat} {G : GH} {K : Int32 → GH → Prop} {KX : String → GH → Prop} (h : V_Tk_countCovered_0 t G (gQi K KX)) : CI M_Tk_countCovered [.ref t] G K KX := CI.of rfl rfl rfl (V_Tk_countCovered_0_ok h)
def V_Tk_countStraps_0 (t : Nat) (G : GH) (Q : GQ) : Prop :=
  WP M_Tk_countStraps 0 0 4 [some (.ref t), some (.int (nI 0)), some (.int (nI 0))] [] G Q
set_option maxRecDepth 100000 in
theorem V_Tk_countStraps_0_ok {t : Nat} {G : GH} {Q : GQ} (h : V_Tk_countStraps_0 t G Q) : WP M_Tk_countStraps 0 0 0 [some (.ref t), none, none] [] G Q := WP.ofV (T := T_Tk_countStraps) (hh := []) rfl rfl [(4, [true, true, true])] 22 h
theorem E_Tk_countStraps {t : Nat} {G : GH} {K : Int32 → GH → Prop} {KX : String → GH → Prop} (h : V_Tk_countStraps_0 t G (gQi K KX)) : CI M_Tk_countStraps [.ref t] G K KX := CI.of rfl rfl rfl (V_Tk_countStraps_0_ok h)
def V_Tk_countStraps_4 (t : Nat) (a1 : Int32) (a2 : Int32) (G : GH) (Q : GQ) : Prop :=
  if a2 < (nI 128) then
    ∃ (fs1 : List Value) (r2 : Nat), G.2 t = some (.inl (9, fs1)) ∧ fs1[3]? = some (.ref r2) ∧
    r2 < gRB ∧ ∃ (m3 : Nat) (f4 : Nat → Int32), G.2 r2 = some (.inr (.boolean, m3, .inl f4)) ∧ vp_in a2 m3 ∧
    if (f4 (a2).toNatClampNeg) = (nI 0) then
      WP M_Tk_countStraps 0 0 4 [some (.ref t), some (.int a1), some (.int (a2 + nI 1))] [] G Q
    else
      WP M_Tk_countStraps 0 0 4 [some (.ref t), some (.int (a1 + nI 1)), some (.int (a2 + nI 1))] [] G Q
  else
    Q.1 a1 G
set_option maxRecDepth 100000 in
theorem V_Tk_countStraps_4_ok {t : Nat} {a1 : Int32} {a2 : Int32} {G : GH} {Q : GQ} (h : V_Tk_countStraps_4 t a1 a2 G Q) : WP M_Tk_countStraps 0 0 4 [some (.ref t), some (.int a1), some (.int a2)] [] G Q := WP.ofV (T := T_Tk_countStraps) (hh := []) rfl rfl [(4, [true, true, true])] 22 h
def V_Tk_misfitOf_0 (t : Nat) (p1 : Nat) (G : GH) (Q : GQ) : Prop :=
  WP M_Tk_misfitOf 0 0 7 [some (.ref t), some (.ref p1), some (.int (nI 0)), some (.int (nI 0)), some (.int (nI 0)), none] [] G Q
set_option maxRecDepth 100000 in
theorem V_Tk_misfitOf_0_ok {t : Nat} {p1 : Nat} {G : GH} {Q : GQ} (h : V_Tk_misfitOf_0 t p1 G Q) : WP M_Tk_misfitOf 0 0 0 [some (.ref t), some (.ref p1), none, none, none, none] [] G Q := WP.ofV (T := T_Tk_misfitOf) (hh := []) rfl rfl [(7, [true, true, true, true, true, false]), (59, [true, true, true, true, true, true]), (69, [true, true, true, true, true, true])] 64 h
theorem E_Tk_misfitOf {t : Nat} {p1 : Nat} {G : GH} {K : Int32 → GH → Prop} {KX : String → GH → Prop} (h : V_Tk_misfitOf_0 t p1 G (gQi K KX)) : CI M_Tk_misfitOf [.ref t, .ref p1] G K KX := CI.of rfl rfl rfl (V_Tk_misfitOf_0_ok h)
def V_Tk_misfitOf_7 (t : Nat) (p1 : Nat) (a2 : Int32) (a3 : Int32) (a4 : Int32) (G : GH) (Q : GQ) : Prop :=
  ∃ (fs1 : List Value) (x2 : Int32), G.2 p1 = some (.inl (2, fs1)) ∧ fs1[4]? = some (.int x2) ∧
  if a4 < x2 then
    CI M_Fp_columnOf [.ref p1, .int a4] G (fun (x4 : Int32) (G3 : GH) =>
      CI M_Fp_rowOf [.ref p1, .int a4] G3 (fun (x6 : Int32) (G5 : GH) =>
        CI M_Tk_cellAt [.ref t, .int x4, .int x6] G5 (fun (x8 : Int32) (G7 : GH) =>
          if x8 = (-nI 3) then
            Q.1 (nI 1) G7
          else
            if a2 = (nI 0) then
              if x8 = (-nI 2) then
                WP M_Tk_misfitOf 0 0 59 [some (.ref t), some (.ref p1), some (.int a2), some (.int a3), some (.int a4), some (.int x8)] [.int (nI 1)] G7 Q
              else
                WP M_Tk_misfitOf 0 0 59 [some (.ref t), some (.ref p1), some (.int a2), some (.int a3), some (.int a4), some (.int x8)] [.int (nI 0)] G7 Q
            else
              WP M_Tk_misfitOf 0 0 59 [some (.ref t), some (.ref p1), some (.int a2), some (.int a3), some (.int a4), some (.int x8)] [.int (nI 1)] G7 Q) gNo) gNo) gNo
  else
    if a2 = (nI 0) then
      if a3 = (nI 0) then
        CI M_Tk_isCrossedBy [.ref t, .ref p1] G (fun (x10 : Int32) (G9 : GH) =>
          if x10 = (nI 0) then
            Q.1 (nI 0) G9
          else
            Q.1 (nI 4) G9) gNo
      else
        Q.1 (nI 3) G
    else
      Q.1 (nI 2) G
set_option maxRecDepth 100000 in
theorem V_Tk_misfitOf_7_ok {t : Nat} {p1 : Nat} {a2 : Int32} {a3 : Int32} {a4 : Int32} {G : GH} {Q : GQ} (h : V_Tk_misfitOf_7 t p1 a2 a3 a4 G Q) : WP M_Tk_misfitOf 0 0 7 [some (.ref t), some (.ref p1), some (.int a2), some (.int a3), some (.int a4), none] [] G Q := WP.ofV (T := T_Tk_misfitOf) (hh := []) rfl rfl [(7, [true, true, true, true, true, false]), (59, [true, true, true, true, true, true]), (69, [true, true, true, true, true, true])] 64 h
def V_Tk_misfitOf_59 (t : Nat) (p1 : Nat) (a2 : Int32) (a3 : Int32) (a4 : Int32) (a5 : Int32) (s0 : Int32) (G : GH) (Q : GQ) : Prop :=
  if a3 = (nI 0) then
    if a5 < (nI 0) then
      WP M_Tk_misfitOf 0 0 7 [some (.ref t), some (.ref p1), some (.int s0), some (.int (nI 0)), some (.int (a4 + nI 1)), none] [] G Q
    else
      WP M_Tk_misfitOf 0 0 69 [some (.ref t), some (.ref p1), some (.int s0), some (.int a3), some (.int a4), some (.int a5)] [] G Q
  else
    WP M_Tk_misfitOf 0 0 69 [some (.ref t), some (.ref p1), some (.int s0), some (.int a3), some (.int a4), some (.int a5)] [] G Q
set_option maxRecDepth 100000 in
theorem V_Tk_misfitOf_59_ok {t : Nat} {p1 : Nat} {a2 : Int32} {a3 : Int32} {a4 : Int32} {a5 : Int32} {s0 : Int32} {G : GH} {Q : GQ} (h : V_Tk_misfitOf_59 t p1 a2 a3 a4 a5 s0 G Q) : WP M_Tk_misfitOf 0 0 59 [some (.ref t), some (.ref p1), some (.int a2), some (.int a3), some (.int a4), some (.int a5)] [.int s0] G Q := WP.ofV (T := T_Tk_misfitOf) (hh := []) rfl rfl [(7, [true, true, true, true, true, false]), (59, [true, true, true, true, true, true]), (69, [true, true, true, true, true, true])] 64 h
def V_Tk_misfitOf_69 (t : Nat) (p1 : Nat) (a2 : Int32) (a3 : Int32) (a4 : Int32) (a5 : Int32) (G : GH) (Q : GQ) : Prop :=
  WP M_Tk_misfitOf 0 0 7 [some (.ref t), some (.ref p1), some (.int a2), some (.int (nI 1)), some (.int (a4 + nI 1)), none] [] G Q
set_option maxRecDepth 100000 in
theorem V_Tk_misfitOf_69_ok {t : Nat} {p1 : Nat} {a2 : Int32} {a3 : Int32} {a4 : Int32} {a5 : Int32} {G : GH} {Q : GQ} (h : V_Tk_misfitOf_69 t p1 a2 a3 a4 a5 G Q) : WP M_Tk_misfitOf 0 0 69 [some (.ref t), some (.ref p1), some (.int a2), some (.int a3), some (.int a4), some (.int a5)] [] G Q := WP.ofV (T := T_Tk_misfitOf) (hh := []) rfl rfl [(7, [true, true, true, true, true, false]), (59, [true, true, true, true, true, true]), (69, [true, true, true, true, true, true])] 64 h
def V_Tk_isCrossedBy_0 (t : Nat) (p1 : Nat) (G : GH) (Q : GQ) : Prop :=
  WP M_Tk_isCrossedBy 0 0 2 [some (.ref t), some (.ref p1), some (.int (nI 0)), none, none] [] G Q
set_option maxRecDepth 100000 in
theorem V_Tk_isCrossedBy_0_ok {t : Nat} {p1 : Nat} {G : GH} {Q : GQ} (h : V_Tk_isCrossedBy_0 t p1 G Q) : WP M_Tk_isCrossedBy 0 0 0 [some (.ref t), some (.ref p1), none, none, none] [] G Q := WP.ofV (T := T_Tk_isCrossedBy) (hh := []) rfl rfl [(2, [true, true, true, false, false])] 33 h
theorem E_Tk_isCrossedBy {t : Nat} {p1 : Nat} {G : GH} {K : Int32 → GH → Prop} {KX : String → GH → Prop} (h : V_Tk_isCrossedBy_0 t p1 G (gQi K KX)) : CI M_Tk_isCrossedBy [.ref t, .ref p1] G K KX := CI.of rfl rfl rfl (V_Tk_isCrossedBy_0_ok h)
def V_Tk_isCrossedBy_2 (t : Nat) (p1 : Nat) (a2 : Int32) (G : GH) (Q : GQ) : Prop :=
  ∃ (fs1 : List Value) (x2 : Int32), G.2 p1 = some (.inl (2, fs1)) ∧ fs1[5]? = some (.int x2) ∧
  if a2 < x2 then
    CI M_Fp_edgeColumnOf [.ref p1, .int a2] G (fun (x4 : Int32) (G3 : GH) =>
      CI M_Fp_edgeRowOf [.ref p1, .int a2] G3 (fun (x6 : Int32) (G5 : GH) =>
        CI M_Fp_sideOf [.ref p1, .int a2] G5 (fun (x8 : Int32) (G7 : GH) =>
          CI M_Tk_strapAt [.ref t, .int x4, .int x6, .int x8] G7 (fun (x10 : Int32) (G9 : GH) =>
            if x10 = (nI 0) then
              WP M_Tk_isCrossedBy 0 0 2 [some (.ref t), some (.ref p1), some (.int (a2 + nI 1)), none, none] [] G9 Q
            else
              ((nI 1) = nI 0 ∨ (nI 1) = nI 1) ∧ Q.1 (nI 1) G9) gNo) gNo) gNo) gNo
  else
    ((nI 0) = nI 0 ∨ (nI 0) = nI 1) ∧ Q.1 (nI 0) G
set_option maxRecDepth 100000 in
theorem V_Tk_isCrossedBy_2_ok {t : Nat} {p1 : Nat} {a2 : Int32} {G : GH} {Q : GQ} (h : V_Tk_isCrossedBy_2 t p1 a2 G Q) : WP M_Tk_isCrossedBy 0 0 2 [some (.ref t), some (.ref p1), some (.int a2), none, none] [] G Q := WP.ofV (T := T_Tk_isCrossedBy) (hh := []) rfl rfl [(2, [true, true, true, false, false])] 33 h
def V_Tk_findNext_0 (t : Nat) (p1 : Nat) (G : GH) (Q : GQ) : Prop :=
  WP M_Tk_findNext 0 0 2 [some (.ref t), some (.ref p1), some (.int (nI 0))] [] G Q
set_option maxRecDepth 100000 in
theorem V_Tk_findNext_0_ok {t : Nat} {p1 : Nat} {G : GH} {Q : GQ} (h : V_Tk_findNext_0 t p1 G Q) : WP M_Tk_findNext 0 0 0 [some (.ref t), some (.ref p1), none] [] G Q := WP.ofV (T := T_Tk_findNext) (hh := []) rfl rfl [(2, [true, true, true])] 29 h
theorem E_Tk_findNext {t : Nat} {p1 : Nat} {G : GH} {K : Int32 → GH → Prop} {KX : String → GH → Prop} (h : V_Tk_findNext_0 t p1 G (gQi K KX)) : CI M_Tk_findNext [.ref t, .ref p1] G K KX := CI.of rfl rfl rfl (V_Tk_findNext_0_ok h)
def V_Tk_findNext_2 (t : Nat) (p1 : Nat) (a2 : Int32) (G : GH) (Q : GQ) : Prop :=
  if a2 < (nI 256) then
    ∃ (fs1 : List Value) (x2 : Int32), G.2 t = some (.inl (9, fs1)) ∧ fs1[0]? = some (.int x2) ∧
    ∃ (fs3 : List Value) (x4 : Int32), G.2 t = some (.inl (9, fs3)) ∧ fs3[1]? = some (.int x4) ∧
    CI M_Fp_advance [.ref p1, .int x2, .int x4] G (fun (x6 : Int32) (G5 : GH) =>
      if x6 = (nI 0) then
        ((nI 0) = nI 0 ∨ (nI 0) = nI 1) ∧ Q.1 (nI 0) G5
      else
        CI M_Tk_misfitOf [.ref t, .ref p1] G5 (fun (x8 : Int32) (G7 : GH) =>
          if x8 = (nI 0) then
            ((nI 1) = nI 0 ∨ (nI 1) = nI 1) ∧ Q.1 (nI 1) G7
          else
            WP M_Tk_findNext 0 0 2 [some (.ref t), some (.ref p1), some (.int (a2 + nI 1))] [] G7 Q) gNo) gNo
  else
    ((nI 0) = nI 0 ∨ (nI 0) = nI 1) ∧ Q.1 (nI 0) G
set_option maxRecDepth 100000 in
theorem V_Tk_findNext_2_ok {t : Nat} {p1 : Nat} {a2 : Int32} {G : GH} {Q : GQ} (h : V_Tk_findNext_2 t p1 a2 G Q) : WP M_Tk_findNext 0 0 2 [some (.ref t), some (.ref p1), some (.int a2)] [] G Q := WP.ofV (T := T_Tk_findNext) (hh := []) rfl rfl [(2, [true, true, true])] 29 h
def V_Tk_countFitting_0 (t : Nat) (a1 : Int32) (p2 : Nat) (G : GH) (Q : GQ) : Prop :=
  CV M_Fp_startAll [.ref p2, .int a1] G (fun (G1 : GH) =>
    WP M_Tk_countFitting 0 0 7 [some (.ref t), some (.int a1), some (.ref p2), some (.int (nI 0))] [] G1 Q) gNo
set_option maxRecDepth 100000 in
theorem V_Tk_countFitting_0_ok {t : Nat} {a1 : Int32} {p2 : Nat} {G : GH} {Q : GQ} (h : V_Tk_countFitting_0 t a1 p2 G Q) : WP M_Tk_countFitting 0 0 0 [some (.ref t), some (.int a1), some (.ref p2), none] [] G Q := WP.ofV (T := T_Tk_countFitting) (hh := []) rfl rfl [(7, [true, true, true, true])] 21 h
theorem E_Tk_countFitting {t : Nat} {a1 : Int32} {p2 : Nat} {G : GH} {K : Int32 → GH → Prop} {KX : String → GH → Prop} (h : V_Tk_countFitting_0 t a1 p2 G (gQi K KX)) : CI M_Tk_countFitting [.ref t, .int a1, .ref p2] G K KX := CI.of rfl rfl rfl (V_Tk_countFitting_0_ok h)
def V_Tk_countFitting_7 (t : Nat) (a1 : Int32) (p2 : Nat) (a3 : Int32) (G : GH) (Q : GQ) : Prop :=
  if a3 < (nI 256) then
    CI M_Tk_findNext [.ref t, .ref p2] G (fun (x2 : Int32) (G1 : GH) =>
      if x2 = (nI 0) then
        Q.1 a3 G1
      else
        WP M_Tk_countFitting 0 0 7 [some (.ref t), some (.int a1), some (.ref p2), some (.int (a3 + nI 1))] [] G1 Q) gNo
  else
    Q.1 a3 G
set_option maxRecDepth 100000 in
theorem V_Tk_countFitting_7_ok {t : Nat} {a1 : Int32} {p2 : Nat} {a3 : Int32} {G : GH} {Q : GQ} (h : V_Tk_countFitting_7 t a1 p2 a3 G Q) : WP M_Tk_countFitting 0 0 7 [some (.ref t), some (.int a1), some (.ref p2), some (.int a3)] [] G Q := WP.ofV (T := T_Tk_countFitting) (hh := []) rfl rfl [(7, [true, true, true, true])] 21 h
def V_Tk_pointsOf_0 (t : Nat) (p1 : Nat) (G : GH) (Q : GQ) : Prop :=
  ∃ (fs1 : List Value) (x2 : Int32), G.2 p1 = some (.inl (2, fs1)) ∧ fs1[4]? = some (.int x2) ∧
  WP M_Tk_pointsOf 0 0 7 [some (.ref t), some (.ref p1), some (.int x2), some (.int (nI 0)), none, none] [] G Q
set_option maxRecDepth 100000 in
theorem V_Tk_pointsOf_0_ok {t : Nat} {p1 : Nat} {G : GH} {Q : GQ} (h : V_Tk_pointsOf_0 t p1 G Q) : WP M_Tk_pointsOf 0 0 0 [some (.ref t), some (.ref p1), none, none, none, none] [] G Q := WP.ofV (T := T_Tk_pointsOf) (hh := []) rfl rfl [(7, [true, true, true, true, false, false]), (21, [true, true, true, true, true, true])] 46 h
theorem E_Tk_pointsOf {t : Nat} {p1 : Nat} {G : GH} {K : Int32 → GH → Prop} {KX : String → GH → Prop} (h : V_Tk_pointsOf_0 t p1 G (gQi K KX)) : CI M_Tk_pointsOf [.ref t, .ref p1] G K KX := CI.of rfl rfl rfl (V_Tk_pointsOf_0_ok h)
def V_Tk_pointsOf_7 (t : Nat) (p1 : Nat) (a2 : Int32) (a3 : Int32) (G : GH) (Q : GQ) : Prop :=
  ∃ (fs1 : List Value) (x2 : Int32), G.2 t = some (.inl (9, fs1)) ∧ fs1[1]? = some (.int x2) ∧
  if a3 < x2 then
    WP M_Tk_pointsOf 0 0 21 [some (.ref t), some (.ref p1), some (.int a2), some (.int a3), some (.int (nI 0)), some (.int (nI 0))] [] G Q
  else
    Q.1 a2 G
set_option maxRecDepth 100000 in
theorem V_Tk_pointsOf_7_ok {t : Nat} {p1 : Nat} {a2 : Int32} {a3 : Int32} {G : GH} {Q : GQ} (h : V_Tk_pointsOf_7 t p1 a2 a3 G Q) : WP M_Tk_pointsOf 0 0 7 [some (.ref t), some (.ref p1), some (.int a2), some (.int a3), none, none] [] G Q := WP.ofV (T := T_Tk_pointsOf) (hh := []) rfl rfl [(7, [true, true, true, true, false, false]), (21, [true, true, true, true, true, true])] 46 h
def V_Tk_pointsOf_21 (t : Nat) (p1 : Nat) (a2 : Int32) (a3 : Int32) (a4 : Int32) (a5 : Int32) (G : GH) (Q : GQ) : Prop :=
  ∃ (fs1 : List Value) (x2 : Int32), G.2 p1 = some (.inl (2, fs1)) ∧ fs1[4]? = some (.int x2) ∧
  if a5 < x2 then
    CI M_Fp_rowOf [.ref p1, .int a5] G (fun (x4 : Int32) (G3 : GH) =>
      if x4 = a3 then
        WP M_Tk_pointsOf 0 0 21 [some (.ref t), some (.ref p1), some (.int a2), some (.int a3), some (.int (a4 + nI 1)), some (.int (a5 + nI 1))] [] G3 Q
      else
        WP M_Tk_pointsOf 0 0 21 [some (.ref t), some (.ref p1), some (.int a2), some (.int a3), some (.int a4), some (.int (a5 + nI 1))] [] G3 Q) gNo
  else
    if (nI 0) < a4 then
      CI M_Tk_countEmptyIn [.ref t, .int a3] G (fun (x6 : Int32) (G5 : GH) =>
        if a4 = x6 then
          ∃ (fs7 : List Value) (x8 : Int32), G5.2 t = some (.inl (9, fs7)) ∧ fs7[0]? = some (.int x8) ∧
          WP M_Tk_pointsOf 0 0 7 [some (.ref t), some (.ref p1), some (.int (a2 + x8)), some (.int (a3 + nI 1)), none, none] [] G5 Q
        else
          WP M_Tk_pointsOf 0 0 7 [some (.ref t), some (.ref p1), some (.int a2), some (.int (a3 + nI 1)), none, none] [] G5 Q) gNo
    else
      WP M_Tk_pointsOf 0 0 7 [some (.ref t), some (.ref p1), some (.int a2), some (.int (a3 + nI 1)), none, none] [] G Q
set_option maxRecDepth 100000 in
theorem V_Tk_pointsOf_21_ok {t : Nat} {p1 : Nat} {a2 : Int32} {a3 : Int32} {a4 : Int32} {a5 : Int32} {G : GH} {Q : GQ} (h : V_Tk_pointsOf_21 t p1 a2 a3 a4 a5 G Q) : WP M_Tk_pointsOf 0 0 21 [some (.ref t), some (.ref p1), some (.int a2), some (.int a3), some (.int a4), some (.int a5)] [] G Q := WP.ofV (T := T_Tk_pointsOf) (hh := []) rfl rfl [(7, [true, true, true, true, false, false]), (21, [true, true, true, true, true, true])] 46 h
