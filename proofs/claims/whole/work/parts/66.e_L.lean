/-! ===== equations of blocks, by wip/whole/vgen2.py L_ ===== -/
set_option maxRecDepth 100000 in
theorem C_L_truncateInput (p0 : Nat) (a1 : Int) (p2 : Nat) (g : PG) (u : PM) : call M_L_truncateInput [vA p0, vI a1, vA p2] g u =
  bif pW p0 && pO (pK g p0) 10 then (
  cI (call M_TD_truncateInput [vA p0, vI a1] g u) (fun (x3 : Int) (g1 : PG) (u2 : PM) =>
    bif pW p2 && pR (pK g1 p2) 2 0 then (
    some (0, vI 0, g1, up u2 p2 0 x3)) else none) (fun (i : Nat) (g : PG) (u : PM) => if gExc i = "java/lang/IllegalArgumentException" then some (0, vI 1, g, u) else some (i + 1, vN, g, u))) else none := (run_bl (m := M_L_truncateInput) (T := T_L_truncateInput) (hh := Hd_L_truncateInput) (stop := []) rfl rfl rfl 18 (pc := 0) (L := [vA p0, vI a1, vA p2, vN]) (S := []) rfl).trans rfl
set_option maxRecDepth 100000 in
theorem C_L_place (p0 : Nat) (a1 : Int) (a2 : Int) (a3 : Int) (a4 : Int) (p5 : Nat) (g : PG) (u : PM) : call M_L_place [vA p0, vI a1, vI a2, vI a3, vI a4, vA p5] g u =
  bif pW p0 && pO (pK g p0) 10 then (
  cI (call M_TD_place [vA p0, vI a1, vI a2, vI a3, vI a4] g u) (fun (x3 : Int) (g1 : PG) (u2 : PM) =>
    bif pW p5 && pR (pK g1 p5) 2 0 then (
    some (0, vI 0, g1, up u2 p5 0 x3)) else none) (fun (i : Nat) (g : PG) (u : PM) => if gExc i = "java/lang/IllegalArgumentException" then some (0, vI 1, g, u) else if gExc i = "java/lang/IndexOutOfBoundsException" then some (0, vI 2, g, u) else if gExc i = "java/lang/IllegalStateException" then some (0, vI 3, g, u) else some (i + 1, vN, g, u))) else none := (run_bl (m := M_L_place) (T := T_L_place) (hh := Hd_L_place) (stop := []) rfl rfl rfl 27 (pc := 0) (L := [vA p0, vI a1, vI a2, vI a3, vI a4, vA p5, vN]) (S := []) rfl).trans rfl
set_option maxRecDepth 100000 in
theorem C_L_fastenStrap (p0 : Nat) (a1 : Int) (a2 : Int) (a3 : Int) (p4 : Nat) (g : PG) (u : PM) : call M_L_fastenStrap [vA p0, vI a1, vI a2, vI a3, vA p4] g u =
  bif pW p0 && pO (pK g p0) 10 then (
  cI (call M_TD_fastenStrap [vA p0, vI a1, vI a2, vI a3] g u) (fun (x3 : Int) (g1 : PG) (u2 : PM) =>
    bif pW p4 && pR (pK g1 p4) 2 0 then (
    some (0, vI 0, g1, up u2 p4 0 x3)) else none) (fun (i : Nat) (g : PG) (u : PM) => if gExc i = "java/lang/IllegalArgumentException" then some (0, vI 1, g, u) else if gExc i = "java/lang/IndexOutOfBoundsException" then some (0, vI 2, g, u) else if gExc i = "java/lang/IllegalStateException" then some (0, vI 3, g, u) else some (i + 1, vN, g, u))) else none := (run_bl (m := M_L_fastenStrap) (T := T_L_fastenStrap) (hh := Hd_L_fastenStrap) (stop := []) rfl rfl rfl 26 (pc := 0) (L := [vA p0, vI a1, vI a2, vI a3, vA p4, vN]) (S := []) rfl).trans rfl
set_option maxRecDepth 100000 in
theorem C_L_pass (p0 : Nat) (p1 : Nat) (g : PG) (u : PM) : call M_L_pass [vA p0, vA p1] g u =
  bif pW p0 && pO (pK g p0) 10 then (
  cI (call M_TD_pass [vA p0] g u) (fun (x3 : Int) (g1 : PG) (u2 : PM) =>
    bif pW p1 && pR (pK g1 p1) 2 0 then (
    some (0, vI 0, g1, up u2 p1 0 x3)) else none) (fun (i : Nat) (g : PG) (u : PM) => if gExc i = "java/lang/IllegalStateException" then some (0, vI 1, g, u) else some (i + 1, vN, g, u))) else none := (run_bl (m := M_L_pass) (T := T_L_pass) (hh := Hd_L_pass) (stop := []) rfl rfl rfl 17 (pc := 0) (L := [vA p0, vA p1, vN]) (S := []) rfl).trans rfl
set_option maxRecDepth 100000 in
theorem C_L_undo (p0 : Nat) (p1 : Nat) (g : PG) (u : PM) : call M_L_undo [vA p0, vA p1] g u =
  bif pW p0 && pO (pK g p0) 10 then (
  cI (call M_TD_undo [vA p0] g u) (fun (x3 : Int) (g1 : PG) (u2 : PM) =>
    bif pW p1 && pR (pK g1 p1) 2 0 then (
    some (0, vI 0, g1, up u2 p1 0 x3)) else none) (fun (i : Nat) (g : PG) (u : PM) => if gExc i = "java/lang/IllegalStateException" then some (0, vI 1, g, u) else some (i + 1, vN, g, u))) else none := (run_bl (m := M_L_undo) (T := T_L_undo) (hh := Hd_L_undo) (stop := []) rfl rfl rfl 17 (pc := 0) (L := [vA p0, vA p1, vN]) (S := []) rfl).trans rfl
set_option maxRecDepth 100000 in
theorem C_L_save (p0 : Nat) (a1 : Int) (p2 : Nat) (g : PG) (u : PM) : call M_L_save [vA p0, vI a1, vA p2] g u =
  bif pW p0 && pO (pK g p0) 10 then (
  cI (call M_TD_save [vA p0, vI a1] g u) (fun (x3 : Int) (g1 : PG) (u2 : PM) =>
    bif pW p2 && pR (pK g1 p2) 2 0 then (
    some (0, vI 0, g1, up u2 p2 0 x3)) else none) (fun (i : Nat) (g : PG) (u : PM) => if gExc i = "java/lang/IllegalArgumentException" then some (0, vI 1, g, u) else some (i + 1, vN, g, u))) else none := (run_bl (m := M_L_save) (T := T_L_save) (hh := Hd_L_save) (stop := []) rfl rfl rfl 18 (pc := 0) (L := [vA p0, vI a1, vA p2, vN]) (S := []) rfl).trans rfl
set_option maxRecDepth 100000 in
theorem C_L_restore (p0 : Nat) (a1 : Int) (p2 : Nat) (g : PG) (u : PM) : call M_L_restore [vA p0, vI a1, vA p2] g u =
  bif pW p0 && pO (pK g p0) 10 then (
  cI (call M_TD_restore [vA p0, vI a1] g u) (fun (x3 : Int) (g1 : PG) (u2 : PM) =>
    bif pW p2 && pR (pK g1 p2) 2 0 then (
    some (0, vI 0, g1, up u2 p2 0 x3)) else none) (fun (i : Nat) (g : PG) (u : PM) => if gExc i = "java/lang/IllegalArgumentException" then some (0, vI 1, g, u) else if gExc i = "java/lang/IllegalStateException" then some (0, vI 2, g, u) else some (i + 1, vN, g, u))) else none := (run_bl (m := M_L_restore) (T := T_L_restore) (hh := Hd_L_restore) (stop := []) rfl rfl rfl 21 (pc := 0) (L := [vA p0, vI a1, vA p2, vN]) (S := []) rfl).trans rfl
set_option maxRecDepth 100000 in
theorem C_L_isBlocked (p0 : Nat) (a1 : Int) (a2 : Int) (p3 : Nat) (g : PG) (u : PM) : call M_L_isBlocked [vA p0, vI a1, vI a2, vA p3] g u =
  bif pW p0 && pO (pK g p0) 10 then (
  cI (call M_TD_isBlocked [vA p0, vI a1, vI a2] g u) (fun (x3 : Int) (g1 : PG) (u2 : PM) =>
    if x3 = 0 then
      bif pW p3 && pR (pK g1 p3) 2 0 then (
      some (0, vI 0, g1, up u2 p3 0 0)) else none
    else
      bif pW p3 && pR (pK g1 p3) 2 0 then (
      some (0, vI 0, g1, up u2 p3 0 1)) else none) (fun (i : Nat) (g : PG) (u : PM) => if gExc i = "java/lang/IndexOutOfBoundsException" then some (0, vI 1, g, u) else some (i + 1, vN, g, u))) else none := (run_bl (m := M_L_isBlocked) (T := T_L_isBlocked) (hh := Hd_L_isBlocked) (stop := []) rfl rfl rfl 22 (pc := 0) (L := [vA p0, vI a1, vI a2, vA p3, vN]) (S := []) rfl).trans rfl
set_option maxRecDepth 100000 in
theorem C_L_pieceAt (p0 : Nat) (a1 : Int) (a2 : Int) (p3 : Nat) (g : PG) (u : PM) : call M_L_pieceAt [vA p0, vI a1, vI a2, vA p3] g u =
  bif pW p0 && pO (pK g p0) 10 then (
  cI (call M_TD_pieceAt [vA p0, vI a1, vI a2] g u) (fun (x3 : Int) (g1 : PG) (u2 : PM) =>
    bif pW p3 && pR (pK g1 p3) 2 0 then (
    some (0, vI 0, g1, up u2 p3 0 x3)) else none) (fun (i : Nat) (g : PG) (u : PM) => if gExc i = "java/lang/IndexOutOfBoundsException" then some (0, vI 1, g, u) else some (i + 1, vN, g, u))) else none := (run_bl (m := M_L_pieceAt) (T := T_L_pieceAt) (hh := Hd_L_pieceAt) (stop := []) rfl rfl rfl 19 (pc := 0) (L := [vA p0, vI a1, vI a2, vA p3, vN]) (S := []) rfl).trans rfl
set_option maxRecDepth 100000 in
theorem C_L_hasStrap (p0 : Nat) (a1 : Int) (a2 : Int) (a3 : Int) (p4 : Nat) (g : PG) (u : PM) : call M_L_hasStrap [vA p0, vI a1, vI a2, vI a3, vA p4] g u =
  bif pW p0 && pO (pK g p0) 10 then (
  cI (call M_TD_hasStrap [vA p0, vI a1, vI a2, vI a3] g u) (fun (x3 : Int) (g1 : PG) (u2 : PM) =>
    if x3 = 0 then
      bif pW p4 && pR (pK g1 p4) 2 0 then (
      some (0, vI 0, g1, up u2 p4 0 0)) else none
    else
      bif pW p4 && pR (pK g1 p4) 2 0 then (
      some (0, vI 0, g1, up u2 p4 0 1)) else none) (fun (i : Nat) (g : PG) (u : PM) => if gExc i = "java/lang/IllegalArgumentException" then some (0, vI 1, g, u) else if gExc i = "java/lang/IndexOutOfBoundsException" then some (0, vI 2, g, u) else some (i + 1, vN, g, u))) else none := (run_bl (m := M_L_hasStrap) (T := T_L_hasStrap) (hh := Hd_L_hasStrap) (stop := []) rfl rfl rfl 26 (pc := 0) (L := [vA p0, vI a1, vI a2, vI a3, vA p4, vN]) (S := []) rfl).trans rfl
set_option maxRecDepth 100000 in
theorem C_L_emptyInRow (p0 : Nat) (a1 : Int) (p2 : Nat) (g : PG) (u : PM) : call M_L_emptyInRow [vA p0, vI a1, vA p2] g u =
  bif pW p0 && pO (pK g p0) 10 then (
  cI (call M_TD_emptyInRow [vA p0, vI a1] g u) (fun (x3 : Int) (g1 : PG) (u2 : PM) =>
    bif pW p2 && pR (pK g1 p2) 2 0 then (
    some (0, vI 0, g1, up u2 p2 0 x3)) else none) (fun (i : Nat) (g : PG) (u : PM) => if gExc i = "java/lang/IndexOutOfBoundsException" then some (0, vI 1, g, u) else some (i + 1, vN, g, u))) else none := (run_bl (m := M_L_emptyInRow) (T := T_L_emptyInRow) (hh := Hd_L_emptyInRow) (stop := []) rfl rfl rfl 18 (pc := 0) (L := [vA p0, vI a1, vA p2, vN]) (S := []) rfl).trans rfl
set_option maxRecDepth 100000 in
theorem C_L_pieceShape (p0 : Nat) (a1 : Int) (p2 : Nat) (g : PG) (u : PM) : call M_L_pieceShape [vA p0, vI a1, vA p2] g u =
  bif pW p0 && pO (pK g p0) 10 then (
  cI (call M_TD_pieceShape [vA p0, vI a1] g u) (fun (x3 : Int) (g1 : PG) (u2 : PM) =>
    bif pW p2 && pR (pK g1 p2) 2 0 then (
    some (0, vI 0, g1, up u2 p2 0 x3)) else none) (fun (i : Nat) (g : PG) (u : PM) => if gExc i = "java/lang/IndexOutOfBoundsException" then some (0, vI 1, g, u) else some (i + 1, vN, g, u))) else none := (run_bl (m := M_L_pieceShape) (T := T_L_pieceShape) (hh := Hd_L_pieceShape) (stop := []) rfl rfl rfl 18 (pc := 0) (L := [vA p0, vI a1, vA p2, vN]) (S := []) rfl).trans rfl
set_option maxRecDepth 100000 in
theorem C_L_pieceRotation (p0 : Nat) (a1 : Int) (p2 : Nat) (g : PG) (u : PM) : call M_L_pieceRotation [vA p0, vI a1, vA p2] g u =
  bif pW p0 && pO (pK g p0) 10 then (
  cI (call M_TD_pieceRotation [vA p0, vI a1] g u) (fun (x3 : Int) (g1 : PG) (u2 : PM) =>
    bif pW p2 && pR (pK g1 p2) 2 0 then (
    some (0, vI 0, g1, up u2 p2 0 x3)) else none) (fun (i : Nat) (g : PG) (u : PM) => if gExc i = "java/lang/IndexOutOfBoundsException" then some (0, vI 1, g, u) else some (i + 1, vN, g, u))) else none := (run_bl (m := M_L_pieceRotation) (T := T_L_pieceRotation) (hh := Hd_L_pieceRotation) (stop := []) rfl rfl rfl 18 (pc := 0) (L := [vA p0, vI a1, vA p2, vN]) (S := []) rfl).trans rfl
set_option maxRecDepth 100000 in
theorem C_L_pieceColumn (p0 : Nat) (a1 : Int) (p2 : Nat) (g : PG) (u : PM) : call M_L_pieceColumn [vA p0, vI a1, vA p2] g u =
  bif pW p0 && pO (pK g p0) 10 then (
  cI (call M_TD_pieceColumn [vA p0, vI a1] g u) (fun (x3 : Int) (g1 : PG) (u2 : PM) =>
    bif pW p2 && pR (pK g1 p2) 2 0 then (
    some (0, vI 0, g1, up u2 p2 0 x3)) else none) (fun (i : Nat) (g : PG) (u : PM) => if gExc i = "java/lang/IndexOutOfBoundsException" then some (0, vI 1, g, u) else some (i + 1, vN, g, u))) else none := (run_bl (m := M_L_pieceColumn) (T := T_L_pieceColumn) (hh := Hd_L_pieceColumn) (stop := []) rfl rfl rfl 18 (pc := 0) (L := [vA p0, vI a1, vA p2, vN]) (S := []) rfl).trans rfl
set_option maxRecDepth 100000 in
theorem C_L_pieceRow (p0 : Nat) (a1 : Int) (p2 : Nat) (g : PG) (u : PM) : call M_L_pieceRow [vA p0, vI a1, vA p2] g u =
  bif pW p0 && pO (pK g p0) 10 then (
  cI (call M_TD_pieceRow [vA p0, vI a1] g u) (fun (x3 : Int) (g1 : PG) (u2 : PM) =>
    bif pW p2 && pR (pK g1 p2) 2 0 then (
    some (0, vI 0, g1, up u2 p2 0 x3)) else none) (fun (i : Nat) (g : PG) (u : PM) => if gExc i = "java/lang/IndexOutOfBoundsException" then some (0, vI 1, g, u) else some (i + 1, vN, g, u))) else none := (run_bl (m := M_L_pieceRow) (T := T_L_pieceRow) (hh := Hd_L_pieceRow) (stop := []) rfl rfl rfl 18 (pc := 0) (L := [vA p0, vI a1, vA p2, vN]) (S := []) rfl).trans rfl
set_option maxRecDepth 100000 in
theorem C_L_pieceOwner (p0 : Nat) (a1 : Int) (p2 : Nat) (g : PG) (u : PM) : call M_L_pieceOwner [vA p0, vI a1, vA p2] g u =
  bif pW p0 && pO (pK g p0) 10 then (
  cI (call M_TD_pieceOwner [vA p0, vI a1] g u) (fun (x3 : Int) (g1 : PG) (u2 : PM) =>
    bif pW p2 && pR (pK g1 p2) 2 0 then (
    some (0, vI 0, g1, up u2 p2 0 x3)) else none) (fun (i : Nat) (g : PG) (u : PM) => if gExc i = "java/lang/IndexOutOfBoundsException" then some (0, vI 1, g, u) else some (i + 1, vN, g, u))) else none := (run_bl (m := M_L_pieceOwner) (T := T_L_pieceOwner) (hh := Hd_L_pieceOwner) (stop := []) rfl rfl rfl 18 (pc := 0) (L := [vA p0, vI a1, vA p2, vN]) (S := []) rfl).trans rfl
set_option maxRecDepth 100000 in
theorem C_L_piecePoints (p0 : Nat) (a1 : Int) (p2 : Nat) (g : PG) (u : PM) : call M_L_piecePoints [vA p0, vI a1, vA p2] g u =
  bif pW p0 && pO (pK g p0) 10 then (
  cI (call M_TD_piecePoints [vA p0, vI a1] g u) (fun (x3 : Int) (g1 : PG) (u2 : PM) =>
    bif pW p2 && pR (pK g1 p2) 2 0 then (
    some (0, vI 0, g1, up u2 p2 0 x3)) else none) (fun (i : Nat) (g : PG) (u : PM) => if gExc i = "java/lang/IndexOutOfBoundsException" then some (0, vI 1, g, u) else some (i + 1, vN, g, u))) else none := (run_bl (m := M_L_piecePoints) (T := T_L_piecePoints) (hh := Hd_L_piecePoints) (stop := []) rfl rfl rfl 18 (pc := 0) (L := [vA p0, vI a1, vA p2, vN]) (S := []) rfl).trans rfl
set_option maxRecDepth 100000 in
theorem C_L_score (p0 : Nat) (a1 : Int) (p2 : Nat) (g : PG) (u : PM) : call M_L_score [vA p0, vI a1, vA p2] g u =
  bif pW p0 && pO (pK g p0) 10 then (
  cI (call M_TD_score [vA p0, vI a1] g u) (fun (x3 : Int) (g1 : PG) (u2 : PM) =>
    bif pW p2 && pR (pK g1 p2) 2 0 then (
    some (0, vI 0, g1, up u2 p2 0 x3)) else none) (fun (i : Nat) (g : PG) (u : PM) => if gExc i = "java/lang/IndexOutOfBoundsException" then some (0, vI 1, g, u) else some (i + 1, vN, g, u))) else none := (run_bl (m := M_L_score) (T := T_L_score) (hh := Hd_L_score) (stop := []) rfl rfl rfl 18 (pc := 0) (L := [vA p0, vI a1, vA p2, vN]) (S := []) rfl).trans rfl
set_option maxRecDepth 100000 in
theorem C_L_supply (p0 : Nat) (a1 : Int) (a2 : Int) (p3 : Nat) (g : PG) (u : PM) : call M_L_supply [vA p0, vI a1, vI a2, vA p3] g u =
  bif pW p0 && pO (pK g p0) 10 then (
  cI (call M_TD_supply [vA p0, vI a1, vI a2] g u) (fun (x3 : Int) (g1 : PG) (u2 : PM) =>
    bif pW p3 && pR (pK g1 p3) 2 0 then (
    some (0, vI 0, g1, up u2 p3 0 x3)) else none) (fun (i : Nat) (g : PG) (u : PM) => if gExc i = "java/lang/IndexOutOfBoundsException" then some (0, vI 1, g, u) else if gExc i = "java/lang/IllegalArgumentException" then some (0, vI 2, g, u) else some (i + 1, vN, g, u))) else none := (run_bl (m := M_L_supply) (T := T_L_supply) (hh := Hd_L_supply) (stop := []) rfl rfl rfl 22 (pc := 0) (L := [vA p0, vI a1, vI a2, vA p3, vN]) (S := []) rfl).trans rfl
set_option maxRecDepth 100000 in
theorem C_L_strapsLeft (p0 : Nat) (a1 : Int) (p2 : Nat) (g : PG) (u : PM) : call M_L_strapsLeft [vA p0, vI a1, vA p2] g u =
  bif pW p0 && pO (pK g p0) 10 then (
  cI (call M_TD_strapsLeft [vA p0, vI a1] g u) (fun (x3 : Int) (g1 : PG) (u2 : PM) =>
    bif pW p2 && pR (pK g1 p2) 2 0 then (
    some (0, vI 0, g1, up u2 p2 0 x3)) else none) (fun (i : Nat) (g : PG) (u : PM) => if gExc i = "java/lang/IndexOutOfBoundsException" then some (0, vI 1, g, u) else some (i + 1, vN, g, u))) else none := (run_bl (m := M_L_strapsLeft) (T := T_L_strapsLeft) (hh := Hd_L_strapsLeft) (stop := []) rfl rfl rfl 18 (pc := 0) (L := [vA p0, vI a1, vA p2, vN]) (S := []) rfl).trans rfl
set_option maxRecDepth 100000 in
theorem C_L_nameByte (p0 : Nat) (a1 : Int) (a2 : Int) (p3 : Nat) (g : PG) (u : PM) : call M_L_nameByte [vA p0, vI a1, vI a2, vA p3] g u =
  bif pW p0 && pO (pK g p0) 10 then (
  cI (call M_TD_nameByte [vA p0, vI a1, vI a2] g u) (fun (x3 : Int) (g1 : PG) (u2 : PM) =>
    bif pW p3 && pR (pK g1 p3) 2 0 then (
    some (0, vI 0, g1, up u2 p3 0 x3)) else none) (fun (i : Nat) (g : PG) (u : PM) => if gExc i = "java/lang/IndexOutOfBoundsException" then some (0, vI 1, g, u) else some (i + 1, vN, g, u))) else none := (run_bl (m := M_L_nameByte) (T := T_L_nameByte) (hh := Hd_L_nameByte) (stop := []) rfl rfl rfl 19 (pc := 0) (L := [vA p0, vI a1, vI a2, vA p3, vN]) (S := []) rfl).trans rfl
set_option maxRecDepth 100000 in
theorem C_L_fits (p0 : Nat) (a1 : Int) (a2 : Int) (a3 : Int) (a4 : Int) (p5 : Nat) (g : PG) (u : PM) : call M_L_fits [vA p0, vI a1, vI a2, vI a3, vI a4, vA p5] g u =
  bif pW p0 && pO (pK g p0) 10 then (
  cI (call M_TD_fits [vA p0, vI a1, vI a2, vI a3, vI a4] g u) (fun (x3 : Int) (g1 : PG) (u2 : PM) =>
    if x3 = 0 then
      bif pW p5 && pR (pK g1 p5) 2 0 then (
      some (0, vI 0, g1, up u2 p5 0 0)) else none
    else
      bif pW p5 && pR (pK g1 p5) 2 0 then (
      some (0, vI 0, g1, up u2 p5 0 1)) else none) (fun (i : Nat) (g : PG) (u : PM) => if gExc i = "java/lang/IllegalArgumentException" then some (0, vI 1, g, u) else if gExc i = "java/lang/IndexOutOfBoundsException" then some (0, vI 2, g, u) else some (i + 1, vN, g, u))) else none := (run_bl (m := M_L_fits) (T := T_L_fits) (hh := Hd_L_fits) (stop := []) rfl rfl rfl 27 (pc := 0) (L := [vA p0, vI a1, vI a2, vI a3, vI a4, vA p5, vN]) (S := []) rfl).trans rfl
set_option maxRecDepth 100000 in
theorem C_L_misfitReason (p0 : Nat) (a1 : Int) (a2 : Int) (a3 : Int) (a4 : Int) (p5 : Nat) (g : PG) (u : PM) : call M_L_misfitReason [vA p0, vI a1, vI a2, vI a3, vI a4, vA p5] g u =
  bif pW p0 && pO (pK g p0) 10 then (
  cI (call M_TD_misfitReason [vA p0, vI a1, vI a2, vI a3, vI a4] g u) (fun (x3 : Int) (g1 : PG) (u2 : PM) =>
    bif pW p5 && pR (pK g1 p5) 2 0 then (
    some (0, vI 0, g1, up u2 p5 0 x3)) else none) (fun (i : Nat) (g : PG) (u : PM) => if gExc i = "java/lang/IllegalArgumentException" then some (0, vI 1, g, u) else if gExc i = "java/lang/IndexOutOfBoundsException" then some (0, vI 2, g, u) else some (i + 1, vN, g, u))) else none := (run_bl (m := M_L_misfitReason) (T := T_L_misfitReason) (hh := Hd_L_misfitReason) (stop := []) rfl rfl rfl 24 (pc := 0) (L := [vA p0, vI a1, vI a2, vI a3, vI a4, vA p5, vN]) (S := []) rfl).trans rfl
set_option maxRecDepth 100000 in
theorem C_L_pointsFor (p0 : Nat) (a1 : Int) (a2 : Int) (a3 : Int) (a4 : Int) (p5 : Nat) (g : PG) (u : PM) : call M_L_pointsFor [vA p0, vI a1, vI a2, vI a3, vI a4, vA p5] g u =
  bif pW p0 && pO (pK g p0) 10 then (
  cI (call M_TD_pointsFor [vA p0, vI a1, vI a2, vI a3, vI a4] g u) (fun (x3 : Int) (g1 : PG) (u2 : PM) =>
    bif pW p5 && pR (pK g1 p5) 2 0 then (
    some (0, vI 0, g1, up u2 p5 0 x3)) else none) (fun (i : Nat) (g : PG) (u : PM) => if gExc i = "java/lang/IllegalArgumentException" then some (0, vI 1, g, u) else if gExc i = "java/lang/IndexOutOfBoundsException" then some (0, vI 2, g, u) else some (i + 1, vN, g, u))) else none := (run_bl (m := M_L_pointsFor) (T := T_L_pointsFor) (hh := Hd_L_pointsFor) (stop := []) rfl rfl rfl 24 (pc := 0) (L := [vA p0, vI a1, vI a2, vI a3, vI a4, vA p5, vN]) (S := []) rfl).trans rfl
set_option maxRecDepth 100000 in
theorem C_L_mobility (p0 : Nat) (a1 : Int) (p2 : Nat) (g : PG) (u : PM) : call M_L_mobility [vA p0, vI a1, vA p2] g u =
  bif pW p0 && pO (pK g p0) 10 then (
  cI (call M_TD_mobility [vA p0, vI a1] g u) (fun (x3 : Int) (g1 : PG) (u2 : PM) =>
    bif pW p2 && pR (pK g1 p2) 2 0 then (
    some (0, vI 0, g1, up u2 p2 0 x3)) else none) (fun (i : Nat) (g : PG) (u : PM) => if gExc i = "java/lang/IndexOutOfBoundsException" then some (0, vI 1, g, u) else some (i + 1, vN, g, u))) else none := (run_bl (m := M_L_mobility) (T := T_L_mobility) (hh := Hd_L_mobility) (stop := []) rfl rfl rfl 18 (pc := 0) (L := [vA p0, vI a1, vA p2, vN]) (S := []) rfl).trans rfl
set_option maxRecDepth 100000 in
theorem C_L_fittingPlacements (p0 : Nat) (a1 : Int) (p2 : Nat) (g : PG) (u : PM) : call M_L_fittingPlacements [vA p0, vI a1, vA p2] g u =
  bif pW p0 && pO (pK g p0) 10 then (
  cI (call M_TD_fittingPlacements [vA p0, vI a1] g u) (fun (x3 : Int) (g1 : PG) (u2 : PM) =>
    bif pW p2 && pR (pK g1 p2) 2 0 then (
    some (0, vI 0, g1, up u2 p2 0 x3)) else none) (fun (i : Nat) (g : PG) (u : PM) => if gExc i = "java/lang/IllegalArgumentException" then some (0, vI 1, g, u) else some (i + 1, vN, g, u))) else none := (run_bl (m := M_L_fittingPlacements) (T := T_L_fittingPlacements) (hh := Hd_L_fittingPlacements) (stop := []) rfl rfl rfl 18 (pc := 0) (L := [vA p0, vI a1, vA p2, vN]) (S := []) rfl).trans rfl
set_option maxRecDepth 100000 in
theorem C_L_mobilityAfter (p0 : Nat) (a1 : Int) (a2 : Int) (a3 : Int) (a4 : Int) (a5 : Int) (p6 : Nat) (g : PG) (u : PM) : call M_L_mobilityAfter [vA p0, vI a1, vI a2, vI a3, vI a4, vI a5, vA p6] g u =
  bif pW p0 && pO (pK g p0) 10 then (
  cI (call M_TD_mobilityAfter [vA p0, vI a1, vI a2, vI a3, vI a4, vI a5] g u) (fun (x3 : Int) (g1 : PG) (u2 : PM) =>
    bif pW p6 && pR (pK g1 p6) 2 0 then (
    some (0, vI 0, g1, up u2 p6 0 x3)) else none) (fun (i : Nat) (g : PG) (u : PM) => if gExc i = "java/lang/IllegalArgumentException" then some (0, vI 1, g, u) else if gExc i = "java/lang/IndexOutOfBoundsException" then some (0, vI 2, g, u) else some (i + 1, vN, g, u))) else none := (run_bl (m := M_L_mobilityAfter) (T := T_L_mobilityAfter) (hh := Hd_L_mobilityAfter) (stop := []) rfl rfl rfl 25 (pc := 0) (L := [vA p0, vI a1, vI a2, vI a3, vI a4, vI a5, vA p6, vN]) (S := []) rfl).trans rfl
set_option maxRecDepth 100000 in
theorem C_L_regionSize (p0 : Nat) (a1 : Int) (a2 : Int) (p3 : Nat) (g : PG) (u : PM) : call M_L_regionSize [vA p0, vI a1, vI a2, vA p3] g u =
  bif pW p0 && pO (pK g p0) 10 then (
  cI (call M_TD_regionSize [vA p0, vI a1, vI a2] g u) (fun (x3 : Int) (g1 : PG) (u2 : PM) =>
    bif pW p3 && pR (pK g1 p3) 2 0 then (
    some (0, vI 0, g1, up u2 p3 0 x3)) else none) (fun (i : Nat) (g : PG) (u : PM) => if gExc i = "java/lang/IndexOutOfBoundsException" then some (0, vI 1, g, u) else some (i + 1, vN, g, u))) else none := (run_bl (m := M_L_regionSize) (T := T_L_regionSize) (hh := Hd_L_regionSize) (stop := []) rfl rfl rfl 19 (pc := 0) (L := [vA p0, vI a1, vI a2, vA p3, vN]) (S := []) rfl).trans rfl
set_option maxRecDepth 100000 in
theorem C_L_isDead (p0 : Nat) (a1 : Int) (a2 : Int) (p3 : Nat) (g : PG) (u : PM) : call M_L_isDead [vA p0, vI a1, vI a2, vA p3] g u =
  bif pW p0 && pO (pK g p0) 10 then (
  cI (call M_TD_isDead [vA p0, vI a1, vI a2] g u) (fun (x3 : Int) (g1 : PG) (u2 : PM) =>
    if x3 = 0 then
      bif pW p3 && pR (pK g1 p3) 2 0 then (
      some (0, vI 0, g1, up u2 p3 0 0)) else none
    else
      bif pW p3 && pR (pK g1 p3) 2 0 then (
      some (0, vI 0, g1, up u2 p3 0 1)) else none) (fun (i : Nat) (g : PG) (u : PM) => if gExc i = "java/lang/IndexOutOfBoundsException" then some (0, vI 1, g, u) else some (i + 1, vN, g, u))) else none := (run_bl (m := M_L_isDead) (T := T_L_isDead) (hh := Hd_L_isDead) (stop := []) rfl rfl rfl 22 (pc := 0) (L := [vA p0, vI a1, vI a2, vA p3, vN]) (S := []) rfl).trans rfl
