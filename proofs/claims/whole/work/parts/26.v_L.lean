def V_L_truncateInput_0 (p0 : Nat) (a1 : Int32) (p2 : Nat) (G : GH) (Q : GQ) : Prop :=
  bif Nat.ble 1 1 && (Nat.ble 6 6 && Nat.ble (gCat [.int (nI 0), .ref p2]) 8) then CI M_TD_truncateInput [.ref p0, .int a1] G (fun (x2 : Int32) (G1 : GH) =>
    p2 < gRB ∧ ∃ (m3 : Nat) (f4 : Nat → Int64), G1.2 p2 = some (.inr (.long, m3, .inr (.inl f4))) ∧ vp_in (nI 0) m3 ∧
    let G5 : GH := gU G1 p2 (.inr (.long, m3, .inr (.inl (vp_updL f4 (nI 0).toNatClampNeg x2.toInt64))));
    Q.1 (nI 0) G5) (fun (E : String) (G : GH) => if E = "java/lang/IllegalArgumentException" then Q.1 (nI 1) G else Q.2.2.2.2.2 E G) else False
set_option maxRecDepth 100000 in
theorem V_L_truncateInput_0_ok {p0 : Nat} {a1 : Int32} {p2 : Nat} {G : GH} {Q : GQ} (h : V_L_truncateInput_0 p0 a1 p2 G Q) : WP M_L_truncateInput 1 6 0 [some (.ref p0), some (.int a1), some (.ref p2), none] [] G Q := WP.ofV (T := T_L_truncateInput) (hh := Hd_L_truncateInput) rfl rfl [] 18 h
theorem E_L_truncateInput {p0 : Nat} {a1 : Int32} {p2 : Nat} {G : GH} {K : Int32 → GH → Prop} {KX : String → GH → Prop} (h : V_L_truncateInput_0 p0 a1 p2 G (gQi K KX)) : CI M_L_truncateInput [.ref p0, .int a1, .ref p2] G K KX := CI.of rfl rfl rfl (V_L_truncateInput_0_ok h)
def V_L_place_0 (p0 : Nat) (a1 : Int32) (a2 : Int32) (a3 : Int32) (a4 : Int32) (p5 : Nat) (G : GH) (Q : GQ) : Prop :=
  bif Nat.ble 4 4 && (Nat.ble 24 24 && Nat.ble (gCat [.int (nI 0), .ref p5]) 8) then CI M_TD_place [.ref p0, .int a1, .int a2, .int a3, .int a4] G (fun (x2 : Int32) (G1 : GH) =>
    p5 < gRB ∧ ∃ (m3 : Nat) (f4 : Nat → Int64), G1.2 p5 = some (.inr (.long, m3, .inr (.inl f4))) ∧ vp_in (nI 0) m3 ∧
    let G5 : GH := gU G1 p5 (.inr (.long, m3, .inr (.inl (vp_updL f4 (nI 0).toNatClampNeg x2.toInt64))));
    Q.1 (nI 0) G5) (fun (E : String) (G : GH) => if E = "java/lang/IllegalArgumentException" then Q.1 (nI 1) G else if E = "java/lang/IndexOutOfBoundsException" then Q.1 (nI 2) G else if E = "java/lang/IllegalStateException" then Q.1 (nI 3) G else Q.2.2.2.2.2 E G) else False
set_option maxRecDepth 100000 in
theorem V_L_place_0_ok {p0 : Nat} {a1 : Int32} {a2 : Int32} {a3 : Int32} {a4 : Int32} {p5 : Nat} {G : GH} {Q : GQ} (h : V_L_place_0 p0 a1 a2 a3 a4 p5 G Q) : WP M_L_place 4 24 0 [some (.ref p0), some (.int a1), some (.int a2), some (.int a3), some (.int a4), some (.ref p5), none] [] G Q := WP.ofV (T := T_L_place) (hh := Hd_L_place) rfl rfl [] 27 h
theorem E_L_place {p0 : Nat} {a1 : Int32} {a2 : Int32} {a3 : Int32} {a4 : Int32} {p5 : Nat} {G : GH} {K : Int32 → GH → Prop} {KX : String → GH → Prop} (h : V_L_place_0 p0 a1 a2 a3 a4 p5 G (gQi K KX)) : CI M_L_place [.ref p0, .int a1, .int a2, .int a3, .int a4, .ref p5] G K KX := CI.of rfl rfl rfl (V_L_place_0_ok h)
def V_L_fastenStrap_0 (p0 : Nat) (a1 : Int32) (a2 : Int32) (a3 : Int32) (p4 : Nat) (G : GH) (Q : GQ) : Prop :=
  bif Nat.ble 3 3 && (Nat.ble 18 18 && Nat.ble (gCat [.int (nI 0), .ref p4]) 8) then CI M_TD_fastenStrap [.ref p0, .int a1, .int a2, .int a3] G (fun (x2 : Int32) (G1 : GH) =>
    p4 < gRB ∧ ∃ (m3 : Nat) (f4 : Nat → Int64), G1.2 p4 = some (.inr (.long, m3, .inr (.inl f4))) ∧ vp_in (nI 0) m3 ∧
    let G5 : GH := gU G1 p4 (.inr (.long, m3, .inr (.inl (vp_updL f4 (nI 0).toNatClampNeg x2.toInt64))));
    Q.1 (nI 0) G5) (fun (E : String) (G : GH) => if E = "java/lang/IllegalArgumentException" then Q.1 (nI 1) G else if E = "java/lang/IndexOutOfBoundsException" then Q.1 (nI 2) G else if E = "java/lang/IllegalStateException" then Q.1 (nI 3) G else Q.2.2.2.2.2 E G) else False
set_option maxRecDepth 100000 in
theorem V_L_fastenStrap_0_ok {p0 : Nat} {a1 : Int32} {a2 : Int32} {a3 : Int32} {p4 : Nat} {G : GH} {Q : GQ} (h : V_L_fastenStrap_0 p0 a1 a2 a3 p4 G Q) : WP M_L_fastenStrap 3 18 0 [some (.ref p0), some (.int a1), some (.int a2), some (.int a3), some (.ref p4), none] [] G Q := WP.ofV (T := T_L_fastenStrap) (hh := Hd_L_fastenStrap) rfl rfl [] 26 h
theorem E_L_fastenStrap {p0 : Nat} {a1 : Int32} {a2 : Int32} {a3 : Int32} {p4 : Nat} {G : GH} {K : Int32 → GH → Prop} {KX : String → GH → Prop} (h : V_L_fastenStrap_0 p0 a1 a2 a3 p4 G (gQi K KX)) : CI M_L_fastenStrap [.ref p0, .int a1, .int a2, .int a3, .ref p4] G K KX := CI.of rfl rfl rfl (V_L_fastenStrap_0_ok h)
def V_L_pass_0 (p0 : Nat) (p1 : Nat) (G : GH) (Q : GQ) : Prop :=
  bif Nat.ble 1 1 && (Nat.ble 6 6 && Nat.ble (gCat [.int (nI 0), .ref p1]) 8) then CI M_TD_pass [.ref p0] G (fun (x2 : Int32) (G1 : GH) =>
    p1 < gRB ∧ ∃ (m3 : Nat) (f4 : Nat → Int64), G1.2 p1 = some (.inr (.long, m3, .inr (.inl f4))) ∧ vp_in (nI 0) m3 ∧
    let G5 : GH := gU G1 p1 (.inr (.long, m3, .inr (.inl (vp_updL f4 (nI 0).toNatClampNeg x2.toInt64))));
    Q.1 (nI 0) G5) (fun (E : String) (G : GH) => if E = "java/lang/IllegalStateException" then Q.1 (nI 1) G else Q.2.2.2.2.2 E G) else False
set_option maxRecDepth 100000 in
theorem V_L_pass_0_ok {p0 : Nat} {p1 : Nat} {G : GH} {Q : GQ} (h : V_L_pass_0 p0 p1 G Q) : WP M_L_pass 1 6 0 [some (.ref p0), some (.ref p1), none] [] G Q := WP.ofV (T := T_L_pass) (hh := Hd_L_pass) rfl rfl [] 17 h
theorem E_L_pass {p0 : Nat} {p1 : Nat} {G : GH} {K : Int32 → GH → Prop} {KX : String → GH → Prop} (h : V_L_pass_0 p0 p1 G (gQi K KX)) : CI M_L_pass [.ref p0, .ref p1] G K KX := CI.of rfl rfl rfl (V_L_pass_0_ok h)
def V_L_undo_0 (p0 : Nat) (p1 : Nat) (G : GH) (Q : GQ) : Prop :=
  bif Nat.ble 1 1 && (Nat.ble 6 6 && Nat.ble (gCat [.int (nI 0), .ref p1]) 8) then CI M_TD_undo [.ref p0] G (fun (x2 : Int32) (G1 : GH) =>
    p1 < gRB ∧ ∃ (m3 : Nat) (f4 : Nat → Int64), G1.2 p1 = some (.inr (.long, m3, .inr (.inl f4))) ∧ vp_in (nI 0) m3 ∧
    let G5 : GH := gU G1 p1 (.inr (.long, m3, .inr (.inl (vp_updL f4 (nI 0).toNatClampNeg x2.toInt64))));
    Q.1 (nI 0) G5) (fun (E : String) (G : GH) => if E = "java/lang/IllegalStateException" then Q.1 (nI 1) G else Q.2.2.2.2.2 E G) else False
set_option maxRecDepth 100000 in
theorem V_L_undo_0_ok {p0 : Nat} {p1 : Nat} {G : GH} {Q : GQ} (h : V_L_undo_0 p0 p1 G Q) : WP M_L_undo 1 6 0 [some (.ref p0), some (.ref p1), none] [] G Q := WP.ofV (T := T_L_undo) (hh := Hd_L_undo) rfl rfl [] 17 h
theorem E_L_undo {p0 : Nat} {p1 : Nat} {G : GH} {K : Int32 → GH → Prop} {KX : String → GH → Prop} (h : V_L_undo_0 p0 p1 G (gQi K KX)) : CI M_L_undo [.ref p0, .ref p1] G K KX := CI.of rfl rfl rfl (V_L_undo_0_ok h)
def V_L_save_0 (p0 : Nat) (a1 : Int32) (p2 : Nat) (G : GH) (Q : GQ) : Prop :=
  bif Nat.ble 1 1 && (Nat.ble 6 6 && Nat.ble (gCat [.int (nI 0), .ref p2]) 8) then CI M_TD_save [.ref p0, .int a1] G (fun (x2 : Int32) (G1 : GH) =>
    p2 < gRB ∧ ∃ (m3 : Nat) (f4 : Nat → Int64), G1.2 p2 = some (.inr (.long, m3, .inr (.inl f4))) ∧ vp_in (nI 0) m3 ∧
    let G5 : GH := gU G1 p2 (.inr (.long, m3, .inr (.inl (vp_updL f4 (nI 0).toNatClampNeg x2.toInt64))));
    Q.1 (nI 0) G5) (fun (E : String) (G : GH) => if E = "java/lang/IllegalArgumentException" then Q.1 (nI 1) G else Q.2.2.2.2.2 E G) else False
set_option maxRecDepth 100000 in
theorem V_L_save_0_ok {p0 : Nat} {a1 : Int32} {p2 : Nat} {G : GH} {Q : GQ} (h : V_L_save_0 p0 a1 p2 G Q) : WP M_L_save 1 6 0 [some (.ref p0), some (.int a1), some (.ref p2), none] [] G Q := WP.ofV (T := T_L_save) (hh := Hd_L_save) rfl rfl [] 18 h
theorem E_L_save {p0 : Nat} {a1 : Int32} {p2 : Nat} {G : GH} {K : Int32 → GH → Prop} {KX : String → GH → Prop} (h : V_L_save_0 p0 a1 p2 G (gQi K KX)) : CI M_L_save [.ref p0, .int a1, .ref p2] G K KX := CI.of rfl rfl rfl (V_L_save_0_ok h)
def V_L_restore_0 (p0 : Nat) (a1 : Int32) (p2 : Nat) (G : GH) (Q : GQ) : Prop :=
  bif Nat.ble 2 2 && (Nat.ble 12 12 && Nat.ble (gCat [.int (nI 0), .ref p2]) 8) then CI M_TD_restore [.ref p0, .int a1] G (fun (x2 : Int32) (G1 : GH) =>
    p2 < gRB ∧ ∃ (m3 : Nat) (f4 : Nat → Int64), G1.2 p2 = some (.inr (.long, m3, .inr (.inl f4))) ∧ vp_in (nI 0) m3 ∧
    let G5 : GH := gU G1 p2 (.inr (.long, m3, .inr (.inl (vp_updL f4 (nI 0).toNatClampNeg x2.toInt64))));
    Q.1 (nI 0) G5) (fun (E : String) (G : GH) => if E = "java/lang/IllegalArgumentException" then Q.1 (nI 1) G else if E = "java/lang/IllegalStateException" then Q.1 (nI 2) G else Q.2.2.2.2.2 E G) else False
set_option maxRecDepth 100000 in
theorem V_L_restore_0_ok {p0 : Nat} {a1 : Int32} {p2 : Nat} {G : GH} {Q : GQ} (h : V_L_restore_0 p0 a1 p2 G Q) : WP M_L_restore 2 12 0 [some (.ref p0), some (.int a1), some (.ref p2), none] [] G Q := WP.ofV (T := T_L_restore) (hh := Hd_L_restore) rfl rfl [] 21 h
theorem E_L_restore {p0 : Nat} {a1 : Int32} {p2 : Nat} {G : GH} {K : Int32 → GH → Prop} {KX : String → GH → Prop} (h : V_L_restore_0 p0 a1 p2 G (gQi K KX)) : CI M_L_restore [.ref p0, .int a1, .ref p2] G K KX := CI.of rfl rfl rfl (V_L_restore_0_ok h)
def V_L_isBlocked_0 (p0 : Nat) (a1 : Int32) (a2 : Int32) (p3 : Nat) (G : GH) (Q : GQ) : Prop :=
  bif Nat.ble 1 1 && (Nat.ble 6 6 && Nat.ble (gCat [.int (nI 0), .ref p3]) 8) then CI M_TD_isBlocked [.ref p0, .int a1, .int a2] G (fun (x2 : Int32) (G1 : GH) =>
    if x2 = (nI 0) then
      p3 < gRB ∧ ∃ (m3 : Nat) (f4 : Nat → Int64), G1.2 p3 = some (.inr (.long, m3, .inr (.inl f4))) ∧ vp_in (nI 0) m3 ∧
      let G5 : GH := gU G1 p3 (.inr (.long, m3, .inr (.inl (vp_updL f4 (nI 0).toNatClampNeg (Int64.ofNat 0)))));
      Q.1 (nI 0) G5
    else
      p3 < gRB ∧ ∃ (m6 : Nat) (f7 : Nat → Int64), G1.2 p3 = some (.inr (.long, m6, .inr (.inl f7))) ∧ vp_in (nI 0) m6 ∧
      let G8 : GH := gU G1 p3 (.inr (.long, m6, .inr (.inl (vp_updL f7 (nI 0).toNatClampNeg (Int64.ofNat 1)))));
      Q.1 (nI 0) G8) (fun (E : String) (G : GH) => if E = "java/lang/IndexOutOfBoundsException" then Q.1 (nI 1) G else Q.2.2.2.2.2 E G) else False
set_option maxRecDepth 100000 in
theorem V_L_isBlocked_0_ok {p0 : Nat} {a1 : Int32} {a2 : Int32} {p3 : Nat} {G : GH} {Q : GQ} (h : V_L_isBlocked_0 p0 a1 a2 p3 G Q) : WP M_L_isBlocked 1 6 0 [some (.ref p0), some (.int a1), some (.int a2), some (.ref p3), none] [] G Q := WP.ofV (T := T_L_isBlocked) (hh := Hd_L_isBlocked) rfl rfl [] 22 h
theorem E_L_isBlocked {p0 : Nat} {a1 : Int32} {a2 : Int32} {p3 : Nat} {G : GH} {K : Int32 → GH → Prop} {KX : String → GH → Prop} (h : V_L_isBlocked_0 p0 a1 a2 p3 G (gQi K KX)) : CI M_L_isBlocked [.ref p0, .int a1, .int a2, .ref p3] G K KX := CI.of rfl rfl rfl (V_L_isBlocked_0_ok h)
def V_L_pieceAt_0 (p0 : Nat) (a1 : Int32) (a2 : Int32) (p3 : Nat) (G : GH) (Q : GQ) : Prop :=
  bif Nat.ble 1 1 && (Nat.ble 6 6 && Nat.ble (gCat [.int (nI 0), .ref p3]) 8) then CI M_TD_pieceAt [.ref p0, .int a1, .int a2] G (fun (x2 : Int32) (G1 : GH) =>
    p3 < gRB ∧ ∃ (m3 : Nat) (f4 : Nat → Int64), G1.2 p3 = some (.inr (.long, m3, .inr (.inl f4))) ∧ vp_in (nI 0) m3 ∧
    let G5 : GH := gU G1 p3 (.inr (.long, m3, .inr (.inl (vp_updL f4 (nI 0).toNatClampNeg x2.toInt64))));
    Q.1 (nI 0) G5) (fun (E : String) (G : GH) => if E = "java/lang/IndexOutOfBoundsException" then Q.1 (nI 1) G else Q.2.2.2.2.2 E G) else False
set_option maxRecDepth 100000 in
theorem V_L_pieceAt_0_ok {p0 : Nat} {a1 : Int32} {a2 : Int32} {p3 : Nat} {G : GH} {Q : GQ} (h : V_L_pieceAt_0 p0 a1 a2 p3 G Q) : WP M_L_pieceAt 1 6 0 [some (.ref p0), some (.int a1), some (.int a2), some (.ref p3), none] [] G Q := WP.ofV (T := T_L_pieceAt) (hh := Hd_L_pieceAt) rfl rfl [] 19 h
theorem E_L_pieceAt {p0 : Nat} {a1 : Int32} {a2 : Int32} {p3 : Nat} {G : GH} {K : Int32 → GH → Prop} {KX : String → GH → Prop} (h : V_L_pieceAt_0 p0 a1 a2 p3 G (gQi K KX)) : CI M_L_pieceAt [.ref p0, .int a1, .int a2, .ref p3] G K KX := CI.of rfl rfl rfl (V_L_pieceAt_0_ok h)
def V_L_hasStrap_0 (p0 : Nat) (a1 : Int32) (a2 : Int32) (a3 : Int32) (p4 : Nat) (G : GH) (Q : GQ) : Prop :=
  bif Nat.ble 2 2 && (Nat.ble 12 12 && Nat.ble (gCat [.int (nI 0), .ref p4]) 8) then CI M_TD_hasStrap [.ref p0, .int a1, .int a2, .int a3] G (fun (x2 : Int32) (G1 : GH) =>
    if x2 = (nI 0) then
      p4 < gRB ∧ ∃ (m3 : Nat) (f4 : Nat → Int64), G1.2 p4 = some (.inr (.long, m3, .inr (.inl f4))) ∧ vp_in (nI 0) m3 ∧
      let G5 : GH := gU G1 p4 (.inr (.long, m3, .inr (.inl (vp_updL f4 (nI 0).toNatClampNeg (Int64.ofNat 0)))));
      Q.1 (nI 0) G5
    else
      p4 < gRB ∧ ∃ (m6 : Nat) (f7 : Nat → Int64), G1.2 p4 = some (.inr (.long, m6, .inr (.inl f7))) ∧ vp_in (nI 0) m6 ∧
      let G8 : GH := gU G1 p4 (.inr (.long, m6, .inr (.inl (vp_updL f7 (nI 0).toNatClampNeg (Int64.ofNat 1)))));
      Q.1 (nI 0) G8) (fun (E : String) (G : GH) => if E = "java/lang/IllegalArgumentException" then Q.1 (nI 1) G else if E = "java/lang/IndexOutOfBoundsException" then Q.1 (nI 2) G else Q.2.2.2.2.2 E G) else False
set_option maxRecDepth 100000 in
theorem V_L_hasStrap_0_ok {p0 : Nat} {a1 : Int32} {a2 : Int32} {a3 : Int32} {p4 : Nat} {G : GH} {Q : GQ} (h : V_L_hasStrap_0 p0 a1 a2 a3 p4 G Q) : WP M_L_hasStrap 2 12 0 [some (.ref p0), some (.int a1), some (.int a2), some (.int a3), some (.ref p4), none] [] G Q := WP.ofV (T := T_L_hasStrap) (hh := Hd_L_hasStrap) rfl rfl [] 26 h
theorem E_L_hasStrap {p0 : Nat} {a1 : Int32} {a2 : Int32} {a3 : Int32} {p4 : Nat} {G : GH} {K : Int32 → GH → Prop} {KX : String → GH → Prop} (h : V_L_hasStrap_0 p0 a1 a2 a3 p4 G (gQi K KX)) : CI M_L_hasStrap [.ref p0, .int a1, .int a2, .int a3, .ref p4] G K KX := CI.of rfl rfl rfl (V_L_hasStrap_0_ok h)
def V_L_emptyInRow_0 (p0 : Nat) (a1 : Int32) (p2 : Nat) (G : GH) (Q : GQ) : Prop :=
  bif Nat.ble 1 1 && (Nat.ble 6 6 && Nat.ble (gCat [.int (nI 0), .ref p2]) 8) then CI M_TD_emptyInRow [.ref p0, .int a1] G (fun (x2 : Int32) (G1 : GH) =>
    p2 < gRB ∧ ∃ (m3 : Nat) (f4 : Nat → Int64), G1.2 p2 = some (.inr (.long, m3, .inr (.inl f4))) ∧ vp_in (nI 0) m3 ∧
    let G5 : GH := gU G1 p2 (.inr (.long, m3, .inr (.inl (vp_updL f4 (nI 0).toNatClampNeg x2.toInt64))));
    Q.1 (nI 0) G5) (fun (E : String) (G : GH) => if E = "java/lang/IndexOutOfBoundsException" then Q.1 (nI 1) G else Q.2.2.2.2.2 E G) else False
set_option maxRecDepth 100000 in
theorem V_L_emptyInRow_0_ok {p0 : Nat} {a1 : Int32} {p2 : Nat} {G : GH} {Q : GQ} (h : V_L_emptyInRow_0 p0 a1 p2 G Q) : WP M_L_emptyInRow 1 6 0 [some (.ref p0), some (.int a1), some (.ref p2), none] [] G Q := WP.ofV (T := T_L_emptyInRow) (hh := Hd_L_emptyInRow) rfl rfl [] 18 h
theorem E_L_emptyInRow {p0 : Nat} {a1 : Int32} {p2 : Nat} {G : GH} {K : Int32 → GH → Prop} {KX : String → GH → Prop} (h : V_L_emptyInRow_0 p0 a1 p2 G (gQi K KX)) : CI M_L_emptyInRow [.ref p0, .int a1, .ref p2] G K KX := CI.of rfl rfl rfl (V_L_emptyInRow_0_ok h)
def V_L_pieceShape_0 (p0 : Nat) (a1 : Int32) (p2 : Nat) (G : GH) (Q : GQ) : Prop :=
  bif Nat.ble 1 1 && (Nat.ble 6 6 && Nat.ble (gCat [.int (nI 0), .ref p2]) 8) then CI M_TD_pieceShape [.ref p0, .int a1] G (fun (x2 : Int32) (G1 : GH) =>
    p2 < gRB ∧ ∃ (m3 : Nat) (f4 : Nat → Int64), G1.2 p2 = some (.inr (.long, m3, .inr (.inl f4))) ∧ vp_in (nI 0) m3 ∧
    let G5 : GH := gU G1 p2 (.inr (.long, m3, .inr (.inl (vp_updL f4 (nI 0).toNatClampNeg x2.toInt64))));
    Q.1 (nI 0) G5) (fun (E : String) (G : GH) => if E = "java/lang/IndexOutOfBoundsException" then Q.1 (nI 1) G else Q.2.2.2.2.2 E G) else False
set_option maxRecDepth 100000 in
theorem V_L_pieceShape_0_ok {p0 : Nat} {a1 : Int32} {p2 : Nat} {G : GH} {Q : GQ} (h : V_L_pieceShape_0 p0 a1 p2 G Q) : WP M_L_pieceShape 1 6 0 [some (.ref p0), some (.int a1), some (.ref p2), none] [] G Q := WP.ofV (T := T_L_pieceShape) (hh := Hd_L_pieceShape) rfl rfl [] 18 h
theorem E_L_pieceShape {p0 : Nat} {a1 : Int32} {p2 : Nat} {G : GH} {K : Int32 → GH → Prop} {KX : String → GH → Prop} (h : V_L_pieceShape_0 p0 a1 p2 G (gQi K KX)) : CI M_L_pieceShape [.ref p0, .int a1, .ref p2] G K KX := CI.of rfl rfl rfl (V_L_pieceShape_0_ok h)
def V_L_pieceRotation_0 (p0 : Nat) (a1 : Int32) (p2 : Nat) (G : GH) (Q : GQ) : Prop :=
  bif Nat.ble 1 1 && (Nat.ble 6 6 && Nat.ble (gCat [.int (nI 0), .ref p2]) 8) then CI M_TD_pieceRotation [.ref p0, .int a1] G (fun (x2 : Int32) (G1 : GH) =>
    p2 < gRB ∧ ∃ (m3 : Nat) (f4 : Nat → Int64), G1.2 p2 = some (.inr (.long, m3, .inr (.inl f4))) ∧ vp_in (nI 0) m3 ∧
    let G5 : GH := gU G1 p2 (.inr (.long, m3, .inr (.inl (vp_updL f4 (nI 0).toNatClampNeg x2.toInt64))));
    Q.1 (nI 0) G5) (fun (E : String) (G : GH) => if E = "java/lang/IndexOutOfBoundsException" then Q.1 (nI 1) G else Q.2.2.2.2.2 E G) else False
set_option maxRecDepth 100000 in
theorem V_L_pieceRotation_0_ok {p0 : Nat} {a1 : Int32} {p2 : Nat} {G : GH} {Q : GQ} (h : V_L_pieceRotation_0 p0 a1 p2 G Q) : WP M_L_pieceRotation 1 6 0 [some (.ref p0), some (.int a1), some (.ref p2), none] [] G Q := WP.ofV (T := T_L_pieceRotation) (hh := Hd_L_pieceRotation) rfl rfl [] 18 h
theorem E_L_pieceRotation {p0 : Nat} {a1 : Int32} {p2 : Nat} {G : GH} {K : Int32 → GH → Prop} {KX : String → GH → Prop} (h : V_L_pieceRotation_0 p0 a1 p2 G (gQi K KX)) : CI M_L_pieceRotation [.ref p0, .int a1, .ref p2] G K KX := CI.of rfl rfl rfl (V_L_pieceRotation_0_ok h)
def V_L_pieceColumn_0 (p0 : Nat) (a1 : Int32) (p2 : Nat) (G : GH) (Q : GQ) : Prop :=
  bif Nat.ble 1 1 && (Nat.ble 6 6 && Nat.ble (gCat [.int (nI 0), .ref p2]) 8) then CI M_TD_pieceColumn [.ref p0, .int a1] G (fun (x2 : Int32) (G1 : GH) =>
    p2 < gRB ∧ ∃ (m3 : Nat) (f4 : Nat → Int64), G1.2 p2 = some (.inr (.long, m3, .inr (.inl f4))) ∧ vp_in (nI 0) m3 ∧
    let G5 : GH := gU G1 p2 (.inr (.long, m3, .inr (.inl (vp_updL f4 (nI 0).toNatClampNeg x2.toInt64))));
    Q.1 (nI 0) G5) (fun (E : String) (G : GH) => if E = "java/lang/IndexOutOfBoundsException" then Q.1 (nI 1) G else Q.2.2.2.2.2 E G) else False
set_option maxRecDepth 100000 in
theorem V_L_pieceColumn_0_ok {p0 : Nat} {a1 : Int32} {p2 : Nat} {G : GH} {Q : GQ} (h : V_L_pieceColumn_0 p0 a1 p2 G Q) : WP M_L_pieceColumn 1 6 0 [some (.ref p0), some (.int a1), some (.ref p2), none] [] G Q := WP.ofV (T := T_L_pieceColumn) (hh := Hd_L_pieceColumn) rfl rfl [] 18 h
theorem E_L_pieceColumn {p0 : Nat} {a1 : Int32} {p2 : Nat} {G : GH} {K : Int32 → GH → Prop} {KX : String → GH → Prop} (h : V_L_pieceColumn_0 p0 a1 p2 G (gQi K KX)) : CI M_L_pieceColumn [.ref p0, .int a1, .ref p2] G K KX := CI.of rfl rfl rfl (V_L_pieceColumn_0_ok h)
def V_L_pieceRow_0 (p0 : Nat) (a1 : Int32) (p2 : Nat) (G : GH) (Q : GQ) : Prop :=
  bif Nat.ble 1 1 && (Nat.ble 6 6 && Nat.ble (gCat [.int (nI 0), .ref p2]) 8) then CI M_TD_pieceRow [.ref p0, .int a1] G (fun (x2 : Int32) (G1 : GH) =>
    p2 < gRB ∧ ∃ (m3 : Nat) (f4 : Nat → Int64), G1.2 p2 = some (.inr (.long, m3, .inr (.inl f4))) ∧ vp_in (nI 0) m3 ∧
    let G5 : GH := gU G1 p2 (.inr (.long, m3, .inr (.inl (vp_updL f4 (nI 0).toNatClampNeg x2.toInt64))));
    Q.1 (nI 0) G5) (fun (E : String) (G : GH) => if E = "java/lang/IndexOutOfBoundsException" then Q.1 (nI 1) G else Q.2.2.2.2.2 E G) else False
set_option maxRecDepth 100000 in
theorem V_L_pieceRow_0_ok {p0 : Nat} {a1 : Int32} {p2 : Nat} {G : GH} {Q : GQ} (h : V_L_pieceRow_0 p0 a1 p2 G Q) : WP M_L_pieceRow 1 6 0 [some (.ref p0), some (.int a1), some (.ref p2), none] [] G Q := WP.ofV (T := T_L_pieceRow) (hh := Hd_L_pieceRow) rfl rfl [] 18 h
theorem E_L_pieceRow {p0 : Nat} {a1 : Int32} {p2 : Nat} {G : GH} {K : Int32 → GH → Prop} {KX : String → GH → Prop} (h : V_L_pieceRow_0 p0 a1 p2 G (gQi K KX)) : CI M_L_pieceRow [.ref p0, .int a1, .ref p2] G K KX := CI.of rfl rfl rfl (V_L_pieceRow_0_ok h)
def V_L_pieceOwner_0 (p0 : Nat) (a1 : Int32) (p2 : Nat) (G : GH) (Q : GQ) : Prop :=
  bif Nat.ble 1 1 && (Nat.ble 6 6 && Nat.ble (gCat [.int (nI 0), .ref p2]) 8) then CI M_TD_pieceOwner [.ref p0, .int a1] G (fun (x2 : Int32) (G1 : GH) =>
    p2 < gRB ∧ ∃ (m3 : Nat) (f4 : Nat → Int64), G1.2 p2 = some (.inr (.long, m3, .inr (.inl f4))) ∧ vp_in (nI 0) m3 ∧
    let G5 : GH := gU G1 p2 (.inr (.long, m3, .inr (.inl (vp_updL f4 (nI 0).toNatClampNeg x2.toInt64))));
    Q.1 (nI 0) G5) (fun (E : String) (G : GH) => if E = "java/lang/IndexOutOfBoundsException" then Q.1 (nI 1) G else Q.2.2.2.2.2 E G) else False
set_option maxRecDepth 100000 in
theorem V_L_pieceOwner_0_ok {p0 : Nat} {a1 : Int32} {p2 : Nat} {G : GH} {Q : GQ} (h : V_L_pieceOwner_0 p0 a1 p2 G Q) : WP M_L_pieceOwner 1 6 0 [some (.ref p0), some (.int a1), some (.ref p2), none] [] G Q := WP.ofV (T := T_L_pieceOwner) (hh := Hd_L_pieceOwner) rfl rfl [] 18 h
theorem E_L_pieceOwner {p0 : Nat} {a1 : Int32} {p2 : Nat} {G : GH} {K : Int32 → GH → Prop} {KX : String → GH → Prop} (h : V_L_pieceOwner_0 p0 a1 p2 G (gQi K KX)) : CI M_L_pieceOwner [.ref p0, .int a1, .ref p2] G K KX := CI.of rfl rfl rfl (V_L_pieceOwner_0_ok h)
def V_L_piecePoints_0 (p0 : Nat) (a1 : Int32) (p2 : Nat) (G : GH) (Q : GQ) : Prop :=
  bif Nat.ble 1 1 && (Nat.ble 6 6 && Nat.ble (gCat [.int (nI 0), .ref p2]) 8) then CI M_TD_piecePoints [.ref p0, .int a1] G (fun (x2 : Int32) (G1 : GH) =>
    p2 < gRB ∧ ∃ (m3 : Nat) (f4 : Nat → Int64), G1.2 p2 = some (.inr (.long, m3, .inr (.inl f4))) ∧ vp_in (nI 0) m3 ∧
    let G5 : GH := gU G1 p2 (.inr (.long, m3, .inr (.inl (vp_updL f4 (nI 0).toNatClampNeg x2.toInt64))));
    Q.1 (nI 0) G5) (fun (E : String) (G : GH) => if E = "java/lang/IndexOutOfBoundsException" then Q.1 (nI 1) G else Q.2.2.2.2.2 E G) else False
set_option maxRecDepth 100000 in
theorem V_L_piecePoints_0_ok {p0 : Nat} {a1 : Int32} {p2 : Nat} {G : GH} {Q : GQ} (h : V_L_piecePoints_0 p0 a1 p2 G Q) : WP M_L_piecePoints 1 6 0 [some (.ref p0), some (.int a1), some (.ref p2), none] [] G Q := WP.ofV (T := T_L_piecePoints) (hh := Hd_L_piecePoints) rfl rfl [] 18 h
theorem E_L_piecePoints {p0 : Nat} {a1 : Int32} {p2 : Nat} {G : GH} {K : Int32 → GH → Prop} {KX : String → GH → Prop} (h : V_L_piecePoints_0 p0 a1 p2 G (gQi K KX)) : CI M_L_piecePoints [.ref p0, .int a1, .ref p2] G K KX := CI.of rfl rfl rfl (V_L_piecePoints_0_ok h)
def V_L_score_0 (p0 : Nat) (a1 : Int32) (p2 : Nat) (G : GH) (Q : GQ) : Prop :=
  bif Nat.ble 1 1 && (Nat.ble 6 6 && Nat.ble (gCat [.int (nI 0), .ref p2]) 8) then CI M_TD_score [.ref p0, .int a1] G (fun (x2 : Int32) (G1 : GH) =>
    p2 < gRB ∧ ∃ (m3 : Nat) (f4 : Nat → Int64), G1.2 p2 = some (.inr (.long, m3, .inr (.inl f4))) ∧ vp_in (nI 0) m3 ∧
    let G5 : GH := gU G1 p2 (.inr (.long, m3, .inr (.inl (vp_updL f4 (nI 0).toNatClampNeg x2.toInt64))));
    Q.1 (nI 0) G5) (fun (E : String) (G : GH) => if E = "java/lang/IndexOutOfBoundsException" then Q.1 (nI 1) G else Q.2.2.2.2.2 E G) else False
set_option maxRecDepth 100000 in
theorem V_L_score_0_ok {p0 : Nat} {a1 : Int32} {p2 : Nat} {G : GH} {Q : GQ} (h : V_L_score_0 p0 a1 p2 G Q) : WP M_L_score 1 6 0 [some (.ref p0), some (.int a1), some (.ref p2), none] [] G Q := WP.ofV (T := T_L_score) (hh := Hd_L_score) rfl rfl [] 18 h
theorem E_L_score {p0 : Nat} {a1 : Int32} {p2 : Nat} {G : GH} {K : Int32 → GH → Prop} {KX : String → GH → Prop} (h : V_L_score_0 p0 a1 p2 G (gQi K KX)) : CI M_L_score [.ref p0, .int a1, .ref p2] G K KX := CI.of rfl rfl rfl (V_L_score_0_ok h)
def V_L_supply_0 (p0 : Nat) (a1 : Int32) (a2 : Int32) (p3 : Nat) (G : GH) (Q : GQ) : Prop :=
  bif Nat.ble 2 2 && (Nat.ble 12 12 && Nat.ble (gCat [.int (nI 0), .ref p3]) 8) then CI M_TD_supply [.ref p0, .int a1, .int a2] G (fun (x2 : Int32) (G1 : GH) =>
    p3 < gRB ∧ ∃ (m3 : Nat) (f4 : Nat → Int64), G1.2 p3 = some (.inr (.long, m3, .inr (.inl f4))) ∧ vp_in (nI 0) m3 ∧
    let G5 : GH := gU G1 p3 (.inr (.long, m3, .inr (.inl (vp_updL f4 (nI 0).toNatClampNeg x2.toInt64))));
    Q.1 (nI 0) G5) (fun (E : String) (G : GH) => if E = "java/lang/IndexOutOfBoundsException" then Q.1 (nI 1) G else if E = "java/lang/IllegalArgumentException" then Q.1 (nI 2) G else Q.2.2.2.2.2 E G) else False
set_option maxRecDepth 100000 in
theorem V_L_supply_0_ok {p0 : Nat} {a1 : Int32} {a2 : Int32} {p3 : Nat} {G : GH} {Q : GQ} (h : V_L_supply_0 p0 a1 a2 p3 G Q) : WP M_L_supply 2 12 0 [some (.ref p0), some (.int a1), some (.int a2), some (.ref p3), none] [] G Q := WP.ofV (T := T_L_supply) (hh := Hd_L_supply) rfl rfl [] 22 h
theorem E_L_supply {p0 : Nat} {a1 : Int32} {a2 : Int32} {p3 : Nat} {G : GH} {K : Int32 → GH → Prop} {KX : String → GH → Prop} (h : V_L_supply_0 p0 a1 a2 p3 G (gQi K KX)) : CI M_L_supply [.ref p0, .int a1, .int a2, .ref p3] G K KX := CI.of rfl rfl rfl (V_L_supply_0_ok h)
def V_L_strapsLeft_0 (p0 : Nat) (a1 : Int32) (p2 : Nat) (G : GH) (Q : GQ) : Prop :=
  bif Nat.ble 1 1 && (Nat.ble 6 6 && Nat.ble (gCat [.int (nI 0), .ref p2]) 8) then CI M_TD_strapsLeft [.ref p0, .int a1] G (fun (x2 : Int32) (G1 : GH) =>
    p2 < gRB ∧ ∃ (m3 : Nat) (f4 : Nat → Int64), G1.2 p2 = some (.inr (.long, m3, .inr (.inl f4))) ∧ vp_in (nI 0) m3 ∧
    let G5 : GH := gU G1 p2 (.inr (.long, m3, .inr (.inl (vp_updL f4 (nI 0).toNatClampNeg x2.toInt64))));
    Q.1 (nI 0) G5) (fun (E : String) (G : GH) => if E = "java/lang/IndexOutOfBoundsException" then Q.1 (nI 1) G else Q.2.2.2.2.2 E G) else False
set_option maxRecDepth 100000 in
theorem V_L_strapsLeft_0_ok {p0 : Nat} {a1 : Int32} {p2 : Nat} {G : GH} {Q : GQ} (h : V_L_strapsLeft_0 p0 a1 p2 G Q) : WP M_L_strapsLeft 1 6 0 [some (.ref p0), some (.int a1), some (.ref p2), none] [] G Q := WP.ofV (T := T_L_strapsLeft) (hh := Hd_L_strapsLeft) rfl rfl [] 18 h
theorem E_L_strapsLeft {p0 : Nat} {a1 : Int32} {p2 : Nat} {G : GH} {K : Int32 → GH → Prop} {KX : String → GH → Prop} (h : V_L_strapsLeft_0 p0 a1 p2 G (gQi K KX)) : CI M_L_strapsLeft [.ref p0, .int a1, .ref p2] G K KX := CI.of rfl rfl rfl (V_L_strapsLeft_0_ok h)
def V_L_nameByte_0 (p0 : Nat) (a1 : Int32) (a2 : Int32) (p3 : Nat) (G : GH) (Q : GQ) : Prop :=
  bif Nat.ble 1 1 && (Nat.ble 6 6 && Nat.ble (gCat [.int (nI 0), .ref p3]) 8) then CI M_TD_nameByte [.ref p0, .int a1, .int a2] G (fun (x2 : Int32) (G1 : GH) =>
    p3 < gRB ∧ ∃ (m3 : Nat) (f4 : Nat → Int64), G1.2 p3 = some (.inr (.long, m3, .inr (.inl f4))) ∧ vp_in (nI 0) m3 ∧
    let G5 : GH := gU G1 p3 (.inr (.long, m3, .inr (.inl (vp_updL f4 (nI 0).toNatClampNeg x2.toInt64))));
    Q.1 (nI 0) G5) (fun (E : String) (G : GH) => if E = "java/lang/IndexOutOfBoundsException" then Q.1 (nI 1) G else Q.2.2.2.2.2 E G) else False
set_option maxRecDepth 100000 in
theorem V_L_nameByte_0_ok {p0 : Nat} {a1 : Int32} {a2 : Int32} {p3 : Nat} {G : GH} {Q : GQ} (h : V_L_nameByte_0 p0 a1 a2 p3 G Q) : WP M_L_nameByte 1 6 0 [some (.ref p0), some (.int a1), some (.int a2), some (.ref p3), none] [] G Q := WP.ofV (T := T_L_nameByte) (hh := Hd_L_nameByte) rfl rfl [] 19 h
theorem E_L_nameByte {p0 : Nat} {a1 : Int32} {a2 : Int32} {p3 : Nat} {G : GH} {K : Int32 → GH → Prop} {KX : String → GH → Prop} (h : V_L_nameByte_0 p0 a1 a2 p3 G (gQi K KX)) : CI M_L_nameByte [.ref p0, .int a1, .int a2, .ref p3] G K KX := CI.of rfl rfl rfl (V_L_nameByte_0_ok h)
def V_L_fits_0 (p0 : Nat) (a1 : Int32) (a2 : Int32) (a3 : Int32) (a4 : Int32) (p5 : Nat) (G : GH) (Q : GQ) : Prop :=
  bif Nat.ble 3 3 && (Nat.ble 18 18 && Nat.ble (gCat [.int (nI 0), .ref p5]) 8) then CI M_TD_fits [.ref p0, .int a1, .int a2, .int a3, .int a4] G (fun (x2 : Int32) (G1 : GH) =>
    if x2 = (nI 0) then
      p5 < gRB ∧ ∃ (m3 : Nat) (f4 : Nat → Int64), G1.2 p5 = some (.inr (.long, m3, .inr (.inl f4))) ∧ vp_in (nI 0) m3 ∧
      let G5 : GH := gU G1 p5 (.inr (.long, m3, .inr (.inl (vp_updL f4 (nI 0).toNatClampNeg (Int64.ofNat 0)))));
      Q.1 (nI 0) G5
    else
      p5 < gRB ∧ ∃ (m6 : Nat) (f7 : Nat → Int64), G1.2 p5 = some (.inr (.long, m6, .inr (.inl f7))) ∧ vp_in (nI 0) m6 ∧
      let G8 : GH := gU G1 p5 (.inr (.long, m6, .inr (.inl (vp_updL f7 (nI 0).toNatClampNeg (Int64.ofNat 1)))));
      Q.1 (nI 0) G8) (fun (E : String) (G : GH) => if E = "java/lang/IllegalArgumentException" then Q.1 (nI 1) G else if E = "java/lang/IndexOutOfBoundsException" then Q.1 (nI 2) G else Q.2.2.2.2.2 E G) else False
set_option maxRecDepth 100000 in
theorem V_L_fits_0_ok {p0 : Nat} {a1 : Int32} {a2 : Int32} {a3 : Int32} {a4 : Int32} {p5 : Nat} {G : GH} {Q : GQ} (h : V_L_fits_0 p0 a1 a2 a3 a4 p5 G Q) : WP M_L_fits 3 18 0 [some (.ref p0), some (.int a1), some (.int a2), some (.int a3), some (.int a4), some (.ref p5), none] [] G Q := WP.ofV (T := T_L_fits) (hh := Hd_L_fits) rfl rfl [] 27 h
theorem E_L_fits {p0 : Nat} {a1 : Int32} {a2 : Int32} {a3 : Int32} {a4 : Int32} {p5 : Nat} {G : GH} {K : Int32 → GH → Prop} {KX : String → GH → Prop} (h : V_L_fits_0 p0 a1 a2 a3 a4 p5 G (gQi K KX)) : CI M_L_fits [.ref p0, .int a1, .int a2, .int a3, .int a4, .ref p5] G K KX := CI.of rfl rfl rfl (V_L_fits_0_ok h)
def V_L_misfitReason_0 (p0 : Nat) (a1 : Int32) (a2 : Int32) (a3 : Int32) (a4 : Int32) (p5 : Nat) (G : GH) (Q : GQ) : Prop :=
  bif Nat.ble 3 3 && (Nat.ble 18 18 && Nat.ble (gCat [.int (nI 0), .ref p5]) 8) then CI M_TD_misfitReason [.ref p0, .int a1, .int a2, .int a3, .int a4] G (fun (x2 : Int32) (G1 : GH) =>
    p5 < gRB ∧ ∃ (m3 : Nat) (f4 : Nat → Int64), G1.2 p5 = some (.inr (.long, m3, .inr (.inl f4))) ∧ vp_in (nI 0) m3 ∧
    let G5 : GH := gU G1 p5 (.inr (.long, m3, .inr (.inl (vp_updL f4 (nI 0).toNatClampNeg x2.toInt64))));
    Q.1 (nI 0) G5) (fun (E : String) (G : GH) => if E = "java/lang/IllegalArgumentException" then Q.1 (nI 1) G else if E = "java/lang/IndexOutOfBoundsException" then Q.1 (nI 2) G else Q.2.2.2.2.2 E G) else False
set_option maxRecDepth 100000 in
theorem V_L_misfitReason_0_ok {p0 : Nat} {a1 : Int32} {a2 : Int32} {a3 : Int32} {a4 : Int32} {p5 : Nat} {G : GH} {Q : GQ} (h : V_L_misfitReason_0 p0 a1 a2 a3 a4 p5 G Q) : WP M_L_misfitReason 3 18 0 [some (.ref p0), some (.int a1), some (.int a2), some (.int a3), some (.int a4), some (.ref p5), none] [] G Q := WP.ofV (T := T_L_misfitReason) (hh := Hd_L_misfitReason) rfl rfl [] 24 h
theorem E_L_misfitReason {p0 : Nat} {a1 : Int32} {a2 : Int32} {a3 : Int32} {a4 : Int32} {p5 : Nat} {G : GH} {K : Int32 → GH → Prop} {KX : String → GH → Prop} (h : V_L_misfitReason_0 p0 a1 a2 a3 a4 p5 G (gQi K KX)) : CI M_L_misfitReason [.ref p0, .int a1, .int a2, .int a3, .int a4, .ref p5] G K KX := CI.of rfl rfl rfl (V_L_misfitReason_0_ok h)
def V_L_pointsFor_0 (p0 : Nat) (a1 : Int32) (a2 : Int32) (a3 : Int32) (a4 : Int32) (p5 : Nat) (G : GH) (Q : GQ) : Prop :=
  bif Nat.ble 3 3 && (Nat.ble 18 18 && Nat.ble (gCat [.int (nI 0), .ref p5]) 8) then CI M_TD_pointsFor [.ref p0, .int a1, .int a2, .int a3, .int a4] G (fun (x2 : Int32) (G1 : GH) =>
    p5 < gRB ∧ ∃ (m3 : Nat) (f4 : Nat → Int64), G1.2 p5 = some (.inr (.long, m3, .inr (.inl f4))) ∧ vp_in (nI 0) m3 ∧
    let G5 : GH := gU G1 p5 (.inr (.long, m3, .inr (.inl (vp_updL f4 (nI 0).toNatClampNeg x2.toInt64))));
    Q.1 (nI 0) G5) (fun (E : String) (G : GH) => if E = "java/lang/IllegalArgumentException" then Q.1 (nI 1) G else if E = "java/lang/IndexOutOfBoundsException" then Q.1 (nI 2) G else Q.2.2.2.2.2 E G) else False
set_option maxRecDepth 100000 in
theorem V_L_pointsFor_0_ok {p0 : Nat} {a1 : Int32} {a2 : Int32} {a3 : Int32} {a4 : Int32} {p5 : Nat} {G : GH} {Q : GQ} (h : V_L_pointsFor_0 p0 a1 a2 a3 a4 p5 G Q) : WP M_L_pointsFor 3 18 0 [some (.ref p0), some (.int a1), some (.int a2), some (.int a3), some (.int a4), some (.ref p5), none] [] G Q := WP.ofV (T := T_L_pointsFor) (hh := Hd_L_pointsFor) rfl rfl [] 24 h
theorem E_L_pointsFor {p0 : Nat} {a1 : Int32} {a2 : Int32} {a3 : Int32} {a4 : Int32} {p5 : Nat} {G : GH} {K : Int32 → GH → Prop} {KX : String → GH → Prop} (h : V_L_pointsFor_0 p0 a1 a2 a3 a4 p5 G (gQi K KX)) : CI M_L_pointsFor [.ref p0, .int a1, .int a2, .int a3, .int a4, .ref p5] G K KX := CI.of rfl rfl rfl (V_L_pointsFor_0_ok h)
def V_L_mobility_0 (p0 : Nat) (a1 : Int32) (p2 : Nat) (G : GH) (Q : GQ) : Prop :=
  bif Nat.ble 1 1 && (Nat.ble 6 6 && Nat.ble (gCat [.int (nI 0), .ref p2]) 8) then CI M_TD_mobility [.ref p0, .int a1] G (fun (x2 : Int32) (G1 : GH) =>
    p2 < gRB ∧ ∃ (m3 : Nat) (f4 : Nat → Int64), G1.2 p2 = some (.inr (.long, m3, .inr (.inl f4))) ∧ vp_in (nI 0) m3 ∧
    let G5 : GH := gU G1 p2 (.inr (.long, m3, .inr (.inl (vp_updL f4 (nI 0).toNatClampNeg x2.toInt64))));
    Q.1 (nI 0) G5) (fun (E : String) (G : GH) => if E = "java/lang/IndexOutOfBoundsException" then Q.1 (nI 1) G else Q.2.2.2.2.2 E G) else False
set_option maxRecDepth 100000 in
theorem V_L_mobility_0_ok {p0 : Nat} {a1 : Int32} {p2 : Nat} {G : GH} {Q : GQ} (h : V_L_mobility_0 p0 a1 p2 G Q) : WP M_L_mobility 1 6 0 [some (.ref p0), some (.int a1), some (.ref p2), none] [] G Q := WP.ofV (T := T_L_mobility) (hh := Hd_L_mobility) rfl rfl [] 18 h
theorem E_L_mobility {p0 : Nat} {a1 : Int32} {p2 : Nat} {G : GH} {K : Int32 → GH → Prop} {KX : String → GH → Prop} (h : V_L_mobility_0 p0 a1 p2 G (gQi K KX)) : CI M_L_mobility [.ref p0, .int a1, .ref p2] G K KX := CI.of rfl rfl rfl (V_L_mobility_0_ok h)
def V_L_fittingPlacements_0 (p0 : Nat) (a1 : Int32) (p2 : Nat) (G : GH) (Q : GQ) : Prop :=
  bif Nat.ble 1 1 && (Nat.ble 6 6 && Nat.ble (gCat [.int (nI 0), .ref p2]) 8) then CI M_TD_fittingPlacements [.ref p0, .int a1] G (fun (x2 : Int32) (G1 : GH) =>
    p2 < gRB ∧ ∃ (m3 : Nat) (f4 : Nat → Int64), G1.2 p2 = some (.inr (.long, m3, .inr (.inl f4))) ∧ vp_in (nI 0) m3 ∧
    let G5 : GH := gU G1 p2 (.inr (.long, m3, .inr (.inl (vp_updL f4 (nI 0).toNatClampNeg x2.toInt64))));
    Q.1 (nI 0) G5) (fun (E : String) (G : GH) => if E = "java/lang/IllegalArgumentException" then Q.1 (nI 1) G else Q.2.2.2.2.2 E G) else False
set_option maxRecDepth 100000 in
theorem V_L_fittingPlacements_0_ok {p0 : Nat} {a1 : Int32} {p2 : Nat} {G : GH} {Q : GQ} (h : V_L_fittingPlacements_0 p0 a1 p2 G Q) : WP M_L_fittingPlacements 1 6 0 [some (.ref p0), some (.int a1), some (.ref p2), none] [] G Q := WP.ofV (T := T_L_fittingPlacements) (hh := Hd_L_fittingPlacements) rfl rfl [] 18 h
theorem E_L_fittingPlacements {p0 : Nat} {a1 : Int32} {p2 : Nat} {G : GH} {K : Int32 → GH → Prop} {KX : String → GH → Prop} (h : V_L_fittingPlacements_0 p0 a1 p2 G (gQi K KX)) : CI M_L_fittingPlacements [.ref p0, .int a1, .ref p2] G K KX := CI.of rfl rfl rfl (V_L_fittingPlacements_0_ok h)
def V_L_mobilityAfter_0 (p0 : Nat) (a1 : Int32) (a2 : Int32) (a3 : Int32) (a4 : Int32) (a5 : Int32) (p6 : Nat) (G : GH) (Q : GQ) : Prop :=
  bif Nat.ble 4 4 && (Nat.ble 24 24 && Nat.ble (gCat [.int (nI 0), .ref p6]) 8) then CI M_TD_mobilityAfter [.ref p0, .int a1, .int a2, .int a3, .int a4, .int a5] G (fun (x2 : Int32) (G1 : GH) =>
    p6 < gRB ∧ ∃ (m3 : Nat) (f4 : Nat → Int64), G1.2 p6 = some (.inr (.long, m3, .inr (.inl f4))) ∧ vp_in (nI 0) m3 ∧
    let G5 : GH := gU G1 p6 (.inr (.long, m3, .inr (.inl (vp_updL f4 (nI 0).toNatClampNeg x2.toInt64))));
    Q.1 (nI 0) G5) (fun (E : String) (G : GH) => if E = "java/lang/IllegalArgumentException" then Q.1 (nI 1) G else if E = "java/lang/IndexOutOfBoundsException" then Q.1 (nI 2) G else Q.2.2.2.2.2 E G) else False
set_option maxRecDepth 100000 in
theorem V_L_mobilityAfter_0_ok {p0 : Nat} {a1 : Int32} {a2 : Int32} {a3 : Int32} {a4 : Int32} {a5 : Int32} {p6 : Nat} {G : GH} {Q : GQ} (h : V_L_mobilityAfter_0 p0 a1 a2 a3 a4 a5 p6 G Q) : WP M_L_mobilityAfter 4 24 0 [some (.ref p0), some (.int a1), some (.int a2), some (.int a3), some (.int a4), some (.int a5), some (.ref p6), none] [] G Q := WP.ofV (T := T_L_mobilityAfter) (hh := Hd_L_mobilityAfter) rfl rfl [] 25 h
theorem E_L_mobilityAfter {p0 : Nat} {a1 : Int32} {a2 : Int32} {a3 : Int32} {a4 : Int32} {a5 : Int32} {p6 : Nat} {G : GH} {K : Int32 → GH → Prop} {KX : String → GH → Prop} (h : V_L_mobilityAfter_0 p0 a1 a2 a3 a4 a5 p6 G (gQi K KX)) : CI M_L_mobilityAfter [.ref p0, .int a1, .int a2, .int a3, .int a4, .int a5, .ref p6] G K KX := CI.of rfl rfl rfl (V_L_mobilityAfter_0_ok h)
def V_L_regionSize_0 (p0 : Nat) (a1 : Int32) (a2 : Int32) (p3 : Nat) (G : GH) (Q : GQ) : Prop :=
  bif Nat.ble 1 1 && (Nat.ble 6 6 && Nat.ble (gCat [.int (nI 0), .ref p3]) 8) then CI M_TD_regionSize [.ref p0, .int a1, .int a2] G (fun (x2 : Int32) (G1 : GH) =>
    p3 < gRB ∧ ∃ (m3 : Nat) (f4 : Nat → Int64), G1.2 p3 = some (.inr (.long, m3, .inr (.inl f4))) ∧ vp_in (nI 0) m3 ∧
    let G5 : GH := gU G1 p3 (.inr (.long, m3, .inr (.inl (vp_updL f4 (nI 0).toNatClampNeg x2.toInt64))));
    Q.1 (nI 0) G5) (fun (E : String) (G : GH) => if E = "java/lang/IndexOutOfBoundsException" then Q.1 (nI 1) G else Q.2.2.2.2.2 E G) else False
set_option maxRecDepth 100000 in
theorem V_L_regionSize_0_ok {p0 : Nat} {a1 : Int32} {a2 : Int32} {p3 : Nat} {G : GH} {Q : GQ} (h : V_L_regionSize_0 p0 a1 a2 p3 G Q) : WP M_L_regionSize 1 6 0 [some (.ref p0), some (.int a1), some (.int a2), some (.ref p3), none] [] G Q := WP.ofV (T := T_L_regionSize) (hh := Hd_L_regionSize) rfl rfl [] 19 h
theorem E_L_regionSize {p0 : Nat} {a1 : Int32} {a2 : Int32} {p3 : Nat} {G : GH} {K : Int32 → GH → Prop} {KX : String → GH → Prop} (h : V_L_regionSize_0 p0 a1 a2 p3 G (gQi K KX)) : CI M_L_regionSize [.ref p0, .int a1, .int a2, .ref p3] G K KX := CI.of rfl rfl rfl (V_L_regionSize_0_ok h)
def V_L_isDead_0 (p0 : Nat) (a1 : Int32) (a2 : Int32) (p3 : Nat) (G : GH) (Q : GQ) : Prop :=
  bif Nat.ble 1 1 && (Nat.ble 6 6 && Nat.ble (gCat [.int (nI 0), .ref p3]) 8) then CI M_TD_isDead [.ref p0, .int a1, .int a2] G (fun (x2 : Int32) (G1 : GH) =>
    if x2 = (nI 0) then
      p3 < gRB ∧ ∃ (m3 : Nat) (f4 : Nat → Int64), G1.2 p3 = some (.inr (.long, m3, .inr (.inl f4))) ∧ vp_in (nI 0) m3 ∧
      let G5 : GH := gU G1 p3 (.inr (.long, m3, .inr (.inl (vp_updL f4 (nI 0).toNatClampNeg (Int64.ofNat 0)))));
      Q.1 (nI 0) G5
    else
      p3 < gRB ∧ ∃ (m6 : Nat) (f7 : Nat → Int64), G1.2 p3 = some (.inr (.long, m6, .inr (.inl f7))) ∧ vp_in (nI 0) m6 ∧
      let G8 : GH := gU G1 p3 (.inr (.long, m6, .inr (.inl (vp_updL f7 (nI 0).toNatClampNeg (Int64.ofNat 1)))));
      Q.1 (nI 0) G8) (fun (E : String) (G : GH) => if E = "java/lang/IndexOutOfBoundsException" then Q.1 (nI 1) G else Q.2.2.2.2.2 E G) else False
set_option maxRecDepth 100000 in
theorem V_L_isDead_0_ok {p0 : Nat} {a1 : Int32} {a2 : Int32} {p3 : Nat} {G : GH} {Q : GQ} (h : V_L_isDead_0 p0 a1 a2 p3 G Q) : WP M_L_isDead 1 6 0 [some (.ref p0), some (.int a1), some (.int a2), some (.ref p3), none] [] G Q := WP.ofV (T := T_L_isDead) (hh := Hd_L_isDead) rfl rfl [] 22 h
theorem E_L_isDead {p0 : Nat} {a1 : Int32} {a2 : Int32} {p3 : Nat} {G : GH} {K : Int32 → GH → Prop} {KX : String → GH → Prop} (h : V_L_isDead_0 p0 a1 a2 p3 G (gQi K KX)) : CI M_L_isDead [.ref p0, .int a1, .int a2, .ref p3] G K KX := CI.of rfl rfl rfl (V_L_isDead_0_ok h)
