/-! ===== equations of blocks, by wip/p60/vgen2.py (TD)_ ===== -/
set_option maxRecDepth 100000 in
theorem C_TD_append (t : Nat) (a1 : Int) (a2 : Int) (a3 : Int) (a4 : Int) (a5 : Int) (g : PG) (u : PM) : call M_TD_append [vA t, vI a1, vI a2, vI a3, vI a4, vI a5] g u =
  bif pW t && pO (pK g t) 10 then (
  bif pW (t + 1) && pO (pK g (t + 1)) 6 then (
  cI (call M_Rd_hasRoom [vA (t + 1)] g u) (fun (x3 : Int) (g1 : PG) (u2 : PM) =>
    if x3 = 0 then
      some (0, vI (-1), g1, u2)
    else
      bif pW t && pO (pK g1 t) 10 then (
      bif pW (t + 1) && pO (pK g1 (t + 1)) 6 then (
      cV (call M_Rd_writeFour [vA (t + 1), vI a1] g1 u2) (fun (g4 : PG) (u5 : PM) =>
        bif pW t && pO (pK g4 t) 10 then (
        bif pW (t + 1) && pO (pK g4 (t + 1)) 6 then (
        cV (call M_Rd_writeFour [vA (t + 1), vI a2] g4 u5) (fun (g6 : PG) (u7 : PM) =>
          bif pW t && pO (pK g6 t) 10 then (
          bif pW (t + 1) && pO (pK g6 (t + 1)) 6 then (
          cV (call M_Rd_writeFour [vA (t + 1), vI a3] g6 u7) (fun (g8 : PG) (u9 : PM) =>
            bif pW t && pO (pK g8 t) 10 then (
            bif pW (t + 1) && pO (pK g8 (t + 1)) 6 then (
            cV (call M_Rd_writeFour [vA (t + 1), vI a4] g8 u9) (fun (g10 : PG) (u11 : PM) =>
              bif pW t && pO (pK g10 t) 10 then (
              bif pW (t + 1) && pO (pK g10 (t + 1)) 6 then (
              cV (call M_Rd_writeFour [vA (t + 1), vI a5] g10 u11) (fun (g12 : PG) (u13 : PM) =>
                bif pW t && pO (pK g12 t) 10 then (
                bif pW (t + 1) && pO (pK g12 (t + 1)) 6 then (
                some (0, vI (u13 (t + 1) 0), g12, u13)) else none) else none) noX) else none) else none) noX) else none) else none) noX) else none) else none) noX) else none) else none) noX) else none) else none) noX) else none) else none := (run_bl (m := M_TD_append) (T := T_TD_append) (hh := []) (stop := []) rfl rfl rfl 35 (pc := 0) (L := [vA t, vI a1, vI a2, vI a3, vI a4, vI a5]) (S := []) rfl).trans rfl
set_option maxRecDepth 100000 in
theorem C_TD_truncateInput (t : Nat) (a1 : Int) (g : PG) (u : PM) : call M_TD_truncateInput [vA t, vI a1] g u =
  if a1 < 0 then
    some (1, vN, (Prod.fst g, (Prod.fst (Prod.snd g)) + 1, Prod.snd (Prod.snd g)), u)
  else
    bif pW t && pO (pK g t) 10 then (
    bif pW (t + 1) && pO (pK g (t + 1)) 6 then (
    if (u (t + 1) 0) < a1 then
      some (1, vN, (Prod.fst g, (Prod.fst (Prod.snd g)) + 1, Prod.snd (Prod.snd g)), u)
    else
      bif pW t && pO (pK g t) 10 then (
      bif pW (t + 1) && pO (pK g (t + 1)) 6 then (
      some (0, vI a1, g, up u (t + 1) 0 a1)) else none) else none) else none) else none := (run_bl (m := M_TD_truncateInput) (T := T_TD_truncateInput) (hh := []) (stop := []) rfl rfl rfl 19 (pc := 0) (L := [vA t, vI a1]) (S := []) rfl).trans rfl
set_option maxRecDepth 100000 in
theorem C_TD_load (t : Nat) (g : PG) (u : PM) : call M_TD_load [vA t] g u =
  bif pW t && pO (pK g t) 10 then (
  bif pW (t + 1) && pO (pK g (t + 1)) 6 then (
  cV (call M_Rd_startSetup [vA (t + 1)] g u) (fun (g1 : PG) (u2 : PM) =>
    bif pW t && pO (pK g1 t) 10 then (
    bif pW (t + 1) && pO (pK g1 (t + 1)) 6 then (
    cI (call M_Rd_readSetup [vA (t + 1)] g1 u2) (fun (x5 : Int) (g3 : PG) (u4 : PM) =>
      if x5 = 0 then
        run M_TD_load 32 [vA t, vN] [vI 0] g3 u4
      else
        bif pW t && pO (pK g3 t) 10 then (
        bif pW (t + 1) && pO (pK g3 (t + 1)) 6 then (
        cI (call M_Rd_readCommands [vA (t + 1)] g3 u4) (fun (x8 : Int) (g6 : PG) (u7 : PM) =>
          if x8 = 0 then
            run M_TD_load 32 [vA t, vN] [vI 0] g6 u7
          else
            run M_TD_load 32 [vA t, vN] [vI 1] g6 u7) noX) else none) else none) noX) else none) else none) noX) else none) else none := (run_bl (m := M_TD_load) (T := T_TD_load) (hh := []) (stop := [(32, [true, false])]) rfl rfl rfl 44 (pc := 0) (L := [vA t, vN]) (S := []) rfl).trans rfl
set_option maxRecDepth 100000 in
theorem R_TD_load_32 (t : Nat) (s0 : Int) (g : PG) (u : PM) : run M_TD_load 32 [vA t, vN] [vI s0] g u =
  bif pW t && pO (pK g t) 10 then (
  bif pW (t + 1) && pO (pK g (t + 1)) 6 then (
  cV (call M_Rd_clear [vA (t + 1)] g u) (fun (g1 : PG) (u2 : PM) =>
    if s0 = 0 then
      some (0, vI (-1), g1, u2)
    else
      bif pW t && pO (pK g1 t) 10 then (
      bif pW t && pO (pK g1 t) 10 then (
      bif pW (t + 60) && pO (pK g1 (t + 60)) 3 then (
      cV (call M_Hi_remember [vA (t + 60), vA (t + 26)] g1 u2) (fun (g3 : PG) (u4 : PM) =>
        bif pW t && pO (pK g3 t) 10 then (
        bif pW t && pO (pK g3 t) 10 then (
        bif pW (t + 1) && pO (pK g3 (t + 1)) 6 then (
        bif pW (t + 26) && pO (pK g3 (t + 26)) 8 then (
        cV (call M_St_copyFrom [vA (t + 26), vA ((t + 1) + 1)] g3 u4) (fun (g5 : PG) (u6 : PM) =>
          bif pW t && pO (pK g5 t) 10 then (
          bif pW (t + 26) && pO (pK g5 (t + 26)) 8 then (
          bif pW ((t + 26) + 1) && pO (pK g5 ((t + 26) + 1)) 9 then (
          cI (call M_Tk_countCells [vA ((t + 26) + 1), vI (-1)] g5 u6) (fun (x9 : Int) (g7 : PG) (u8 : PM) =>
            some (0, vI x9, g7, u8)) noX) else none) else none) else none) noX) else none) else none) else none) else none) noX) else none) else none) else none) noX) else none) else none := (run_bl (m := M_TD_load) (T := T_TD_load) (hh := []) (stop := [(32, [true, false])]) rfl rfl rfl 44 (pc := 32) (L := [vA t, vN]) (S := [vI s0]) rfl).trans rfl
set_option maxRecDepth 100000 in
theorem C_TD_place (t : Nat) (a1 : Int) (a2 : Int) (a3 : Int) (a4 : Int) (g : PG) (u : PM) : call M_TD_place [vA t, vI a1, vI a2, vI a3, vI a4] g u =
  bif pW t && pO (pK g t) 10 then (
  cV (call M_TD_aimAt [vA t, vI a1, vI a2, vI a3, vI a4] g u) (fun (g1 : PG) (u2 : PM) =>
    bif pW t && pO (pK g1 t) 10 then (
    bif pW t && pO (pK g1 t) 10 then (
    bif pW (t + 26) && pO (pK g1 (t + 26)) 8 then (
    cI (call M_St_allowsPiece [vA (t + 26), vA (t + 234)] g1 u2) (fun (x5 : Int) (g3 : PG) (u4 : PM) =>
      if x5 = 0 then
        some (3, vN, (Prod.fst g3, (Prod.fst (Prod.snd g3)) + 1, Prod.snd (Prod.snd g3)), u4)
      else
        bif pW t && pO (pK g3 t) 10 then (
        bif pW t && pO (pK g3 t) 10 then (
        bif pW (t + 60) && pO (pK g3 (t + 60)) 3 then (
        cV (call M_Hi_remember [vA (t + 60), vA (t + 26)] g3 u4) (fun (g6 : PG) (u7 : PM) =>
          bif pW t && pO (pK g6 t) 10 then (
          bif pW t && pO (pK g6 t) 10 then (
          bif pW (t + 26) && pO (pK g6 (t + 26)) 8 then (
          cI (call M_St_putPiece [vA (t + 26), vA (t + 234)] g6 u7) (fun (x10 : Int) (g8 : PG) (u9 : PM) =>
            some (0, vI x10, g8, u9)) noX) else none) else none) else none) noX) else none) else none) else none) noX) else none) else none) else none) (fun (i : Nat) (g : PG) (u : PM) => some (i + 1, vN, g, u))) else none := (run_bl (m := M_TD_place) (T := T_TD_place) (hh := []) (stop := []) rfl rfl rfl 29 (pc := 0) (L := [vA t, vI a1, vI a2, vI a3, vI a4]) (S := []) rfl).trans rfl
set_option maxRecDepth 100000 in
theorem C_TD_fastenStrap (t : Nat) (a1 : Int) (a2 : Int) (a3 : Int) (g : PG) (u : PM) : call M_TD_fastenStrap [vA t, vI a1, vI a2, vI a3] g u =
  bif pW t && pO (pK g t) 10 then (
  cV (call M_TD_requireEdge [vA t, vI a1, vI a2, vI a3] g u) (fun (g1 : PG) (u2 : PM) =>
    bif pW t && pO (pK g1 t) 10 then (
    bif pW (t + 26) && pO (pK g1 (t + 26)) 8 then (
    cI (call M_St_allowsStrap [vA (t + 26), vI a1, vI a2, vI a3] g1 u2) (fun (x5 : Int) (g3 : PG) (u4 : PM) =>
      if x5 = 0 then
        some (3, vN, (Prod.fst g3, (Prod.fst (Prod.snd g3)) + 1, Prod.snd (Prod.snd g3)), u4)
      else
        bif pW t && pO (pK g3 t) 10 then (
        bif pW t && pO (pK g3 t) 10 then (
        bif pW (t + 60) && pO (pK g3 (t + 60)) 3 then (
        cV (call M_Hi_remember [vA (t + 60), vA (t + 26)] g3 u4) (fun (g6 : PG) (u7 : PM) =>
          bif pW t && pO (pK g6 t) 10 then (
          bif pW (t + 26) && pO (pK g6 (t + 26)) 8 then (
          cI (call M_St_putStrap [vA (t + 26), vI a1, vI a2, vI a3] g6 u7) (fun (x10 : Int) (g8 : PG) (u9 : PM) =>
            some (0, vI x10, g8, u9)) noX) else none) else none) noX) else none) else none) else none) noX) else none) else none) (fun (i : Nat) (g : PG) (u : PM) => some (i + 1, vN, g, u))) else none := (run_bl (m := M_TD_fastenStrap) (T := T_TD_fastenStrap) (hh := []) (stop := []) rfl rfl rfl 30 (pc := 0) (L := [vA t, vI a1, vI a2, vI a3]) (S := []) rfl).trans rfl
set_option maxRecDepth 100000 in
theorem C_TD_pass (t : Nat) (g : PG) (u : PM) : call M_TD_pass [vA t] g u =
  bif pW t && pO (pK g t) 10 then (
  bif pW t && pO (pK g t) 10 then (
  bif pW (t + 26) && pO (pK g (t + 26)) 8 then (
  cI (call M_St_allowsPass [vA (t + 26), vA (t + 234)] g u) (fun (x3 : Int) (g1 : PG) (u2 : PM) =>
    if x3 = 0 then
      some (3, vN, (Prod.fst g1, (Prod.fst (Prod.snd g1)) + 1, Prod.snd (Prod.snd g1)), u2)
    else
      bif pW t && pO (pK g1 t) 10 then (
      bif pW t && pO (pK g1 t) 10 then (
      bif pW (t + 60) && pO (pK g1 (t + 60)) 3 then (
      cV (call M_Hi_remember [vA (t + 60), vA (t + 26)] g1 u2) (fun (g4 : PG) (u5 : PM) =>
        bif pW t && pO (pK g4 t) 10 then (
        bif pW (t + 26) && pO (pK g4 (t + 26)) 8 then (
        cI (call M_St_skipTurn [vA (t + 26)] g4 u5) (fun (x8 : Int) (g6 : PG) (u7 : PM) =>
          some (0, vI x8, g6, u7)) noX) else none) else none) noX) else none) else none) else none) noX) else none) else none) else none := (run_bl (m := M_TD_pass) (T := T_TD_pass) (hh := []) (stop := []) rfl rfl rfl 21 (pc := 0) (L := [vA t]) (S := []) rfl).trans rfl
set_option maxRecDepth 100000 in
theorem C_TD_undo (t : Nat) (g : PG) (u : PM) : call M_TD_undo [vA t] g u =
  bif pW t && pO (pK g t) 10 then (
  bif pW (t + 60) && pO (pK g (t + 60)) 3 then (
  if (u (t + 60) 0) = 0 then
    some (3, vN, (Prod.fst g, (Prod.fst (Prod.snd g)) + 1, Prod.snd (Prod.snd g)), u)
  else
    bif pW t && pO (pK g t) 10 then (
    bif pW t && pO (pK g t) 10 then (
    bif pW (t + 60) && pO (pK g (t + 60)) 3 then (
    cV (call M_Hi_bringBack [vA (t + 60), vA (t + 26)] g u) (fun (g1 : PG) (u2 : PM) =>
      bif pW t && pO (pK g1 t) 10 then (
      bif pW (t + 60) && pO (pK g1 (t + 60)) 3 then (
      some (0, vI (u2 (t + 60) 0), g1, u2)) else none) else none) noX) else none) else none) else none) else none) else none := (run_bl (m := M_TD_undo) (T := T_TD_undo) (hh := []) (stop := []) rfl rfl rfl 19 (pc := 0) (L := [vA t]) (S := []) rfl).trans rfl
set_option maxRecDepth 100000 in
theorem C_TD_columns (t : Nat) (g : PG) (u : PM) : call M_TD_columns [vA t] g u =
  bif pW t && pO (pK g t) 10 then (
  bif pW (t + 26) && pO (pK g (t + 26)) 8 then (
  bif pW ((t + 26) + 1) && pO (pK g ((t + 26) + 1)) 9 then (
  some (0, vI (u ((t + 26) + 1) 0), g, u)) else none) else none) else none := (run_bl (m := M_TD_columns) (T := T_TD_columns) (hh := []) (stop := []) rfl rfl rfl 10 (pc := 0) (L := [vA t]) (S := []) rfl).trans rfl
set_option maxRecDepth 100000 in
theorem C_TD_rows (t : Nat) (g : PG) (u : PM) : call M_TD_rows [vA t] g u =
  bif pW t && pO (pK g t) 10 then (
  bif pW (t + 26) && pO (pK g (t + 26)) 8 then (
  bif pW ((t + 26) + 1) && pO (pK g ((t + 26) + 1)) 9 then (
  some (0, vI (u ((t + 26) + 1) 1), g, u)) else none) else none) else none := (run_bl (m := M_TD_rows) (T := T_TD_rows) (hh := []) (stop := []) rfl rfl rfl 10 (pc := 0) (L := [vA t]) (S := []) rfl).trans rfl
set_option maxRecDepth 100000 in
theorem C_TD_emptyCells (t : Nat) (g : PG) (u : PM) : call M_TD_emptyCells [vA t] g u =
  bif pW t && pO (pK g t) 10 then (
  bif pW (t + 26) && pO (pK g (t + 26)) 8 then (
  bif pW ((t + 26) + 1) && pO (pK g ((t + 26) + 1)) 9 then (
  cI (call M_Tk_countCells [vA ((t + 26) + 1), vI (-1)] g u) (fun (x3 : Int) (g1 : PG) (u2 : PM) =>
    some (0, vI x3, g1, u2)) noX) else none) else none) else none := (run_bl (m := M_TD_emptyCells) (T := T_TD_emptyCells) (hh := []) (stop := []) rfl rfl rfl 11 (pc := 0) (L := [vA t]) (S := []) rfl).trans rfl
set_option maxRecDepth 100000 in
theorem C_TD_pieceCount (t : Nat) (g : PG) (u : PM) : call M_TD_pieceCount [vA t] g u =
  bif pW t && pO (pK g t) 10 then (
  bif pW (t + 26) && pO (pK g (t + 26)) 8 then (
  bif pW ((t + 26) + 4) && pO (pK g ((t + 26) + 4)) 4 then (
  some (0, vI (u ((t + 26) + 4) 0), g, u)) else none) else none) else none := (run_bl (m := M_TD_pieceCount) (T := T_TD_pieceCount) (hh := []) (stop := []) rfl rfl rfl 10 (pc := 0) (L := [vA t]) (S := []) rfl).trans rfl
set_option maxRecDepth 100000 in
theorem C_TD_strapCount (t : Nat) (g : PG) (u : PM) : call M_TD_strapCount [vA t] g u =
  bif pW t && pO (pK g t) 10 then (
  bif pW (t + 26) && pO (pK g (t + 26)) 8 then (
  bif pW ((t + 26) + 1) && pO (pK g ((t + 26) + 1)) 9 then (
  cI (call M_Tk_countStraps [vA ((t + 26) + 1)] g u) (fun (x3 : Int) (g1 : PG) (u2 : PM) =>
    some (0, vI x3, g1, u2)) noX) else none) else none) else none := (run_bl (m := M_TD_strapCount) (T := T_TD_strapCount) (hh := []) (stop := []) rfl rfl rfl 10 (pc := 0) (L := [vA t]) (S := []) rfl).trans rfl
set_option maxRecDepth 100000 in
theorem C_TD_completeRows (t : Nat) (g : PG) (u : PM) : call M_TD_completeRows [vA t] g u =
  run M_TD_completeRows 4 [vA t, vI 0, vI 0] [] g u := (run_bl (m := M_TD_completeRows) (T := T_TD_completeRows) (hh := []) (stop := [(4, [true, true, true])]) rfl rfl rfl 26 (pc := 0) (L := [vA t, vN, vN]) (S := []) rfl).trans rfl
set_option maxRecDepth 100000 in
theorem R_TD_completeRows_4 (t : Nat) (a1 : Int) (a2 : Int) (g : PG) (u : PM) : run M_TD_completeRows 4 [vA t, vI a1, vI a2] [] g u =
  bif pW t && pO (pK g t) 10 then (
  bif pW (t + 26) && pO (pK g (t + 26)) 8 then (
  bif pW ((t + 26) + 1) && pO (pK g ((t + 26) + 1)) 9 then (
  if a2 < (u ((t + 26) + 1) 1) then
    bif pW t && pO (pK g t) 10 then (
    bif pW (t + 26) && pO (pK g (t + 26)) 8 then (
    bif pW ((t + 26) + 1) && pO (pK g ((t + 26) + 1)) 9 then (
    cI (call M_Tk_countEmptyIn [vA ((t + 26) + 1), vI a2] g u) (fun (x3 : Int) (g1 : PG) (u2 : PM) =>
      if x3 = 0 then
        run M_TD_completeRows 4 [vA t, vI (w (a1 + 1)), vI (w (a2 + 1))] [] g1 u2
      else
        run M_TD_completeRows 4 [vA t, vI a1, vI (w (a2 + 1))] [] g1 u2) noX) else none) else none) else none
  else
    some (0, vI a1, g, u)) else none) else none) else none := (run_bl (m := M_TD_completeRows) (T := T_TD_completeRows) (hh := []) (stop := [(4, [true, true, true])]) rfl rfl rfl 26 (pc := 4) (L := [vA t, vI a1, vI a2]) (S := []) rfl).trans rfl
set_option maxRecDepth 100000 in
theorem C_TD_undoableChanges (t : Nat) (g : PG) (u : PM) : call M_TD_undoableChanges [vA t] g u =
  bif pW t && pO (pK g t) 10 then (
  bif pW (t + 60) && pO (pK g (t + 60)) 3 then (
  some (0, vI (u (t + 60) 0), g, u)) else none) else none := (run_bl (m := M_TD_undoableChanges) (T := T_TD_undoableChanges) (hh := []) (stop := []) rfl rfl rfl 9 (pc := 0) (L := [vA t]) (S := []) rfl).trans rfl
set_option maxRecDepth 100000 in
theorem C_TD_isBlocked (t : Nat) (a1 : Int) (a2 : Int) (g : PG) (u : PM) : call M_TD_isBlocked [vA t, vI a1, vI a2] g u =
  bif pW t && pO (pK g t) 10 then (
  cV (call M_TD_requireCell [vA t, vI a1, vI a2] g u) (fun (g1 : PG) (u2 : PM) =>
    bif pW t && pO (pK g1 t) 10 then (
    bif pW (t + 26) && pO (pK g1 (t + 26)) 8 then (
    bif pW ((t + 26) + 1) && pO (pK g1 ((t + 26) + 1)) 9 then (
    cI (call M_Tk_cellAt [vA ((t + 26) + 1), vI a1, vI a2] g1 u2) (fun (x5 : Int) (g3 : PG) (u4 : PM) =>
      if x5 = (-2) then
        some (0, vI 1, g3, u4)
      else
        some (0, vI 0, g3, u4)) noX) else none) else none) else none) (fun (i : Nat) (g : PG) (u : PM) => some (i + 1, vN, g, u))) else none := (run_bl (m := M_TD_isBlocked) (T := T_TD_isBlocked) (hh := []) (stop := []) rfl rfl rfl 21 (pc := 0) (L := [vA t, vI a1, vI a2]) (S := []) rfl).trans rfl
set_option maxRecDepth 100000 in
theorem C_TD_pieceAt (t : Nat) (a1 : Int) (a2 : Int) (g : PG) (u : PM) : call M_TD_pieceAt [vA t, vI a1, vI a2] g u =
  bif pW t && pO (pK g t) 10 then (
  cV (call M_TD_requireCell [vA t, vI a1, vI a2] g u) (fun (g1 : PG) (u2 : PM) =>
    bif pW t && pO (pK g1 t) 10 then (
    bif pW (t + 26) && pO (pK g1 (t + 26)) 8 then (
    bif pW ((t + 26) + 1) && pO (pK g1 ((t + 26) + 1)) 9 then (
    cI (call M_Tk_cellAt [vA ((t + 26) + 1), vI a1, vI a2] g1 u2) (fun (x5 : Int) (g3 : PG) (u4 : PM) =>
      if x5 < 0 then
        some (0, vI (-1), g3, u4)
      else
        some (0, vI x5, g3, u4)) noX) else none) else none) else none) (fun (i : Nat) (g : PG) (u : PM) => some (i + 1, vN, g, u))) else none := (run_bl (m := M_TD_pieceAt) (T := T_TD_pieceAt) (hh := []) (stop := []) rfl rfl rfl 22 (pc := 0) (L := [vA t, vI a1, vI a2, vN]) (S := []) rfl).trans rfl
set_option maxRecDepth 100000 in
theorem C_TD_hasStrap (t : Nat) (a1 : Int) (a2 : Int) (a3 : Int) (g : PG) (u : PM) : call M_TD_hasStrap [vA t, vI a1, vI a2, vI a3] g u =
  bif pW t && pO (pK g t) 10 then (
  cV (call M_TD_requireEdge [vA t, vI a1, vI a2, vI a3] g u) (fun (g1 : PG) (u2 : PM) =>
    bif pW t && pO (pK g1 t) 10 then (
    bif pW (t + 26) && pO (pK g1 (t + 26)) 8 then (
    bif pW ((t + 26) + 1) && pO (pK g1 ((t + 26) + 1)) 9 then (
    cI (call M_Tk_strapAt [vA ((t + 26) + 1), vI a1, vI a2, vI a3] g1 u2) (fun (x5 : Int) (g3 : PG) (u4 : PM) =>
      bif b01 x5 then (
      some (0, vI x5, g3, u4)) else none) noX) else none) else none) else none) (fun (i : Nat) (g : PG) (u : PM) => some (i + 1, vN, g, u))) else none := (run_bl (m := M_TD_hasStrap) (T := T_TD_hasStrap) (hh := []) (stop := []) rfl rfl rfl 18 (pc := 0) (L := [vA t, vI a1, vI a2, vI a3]) (S := []) rfl).trans rfl
set_option maxRecDepth 100000 in
theorem C_TD_emptyInRow (t : Nat) (a1 : Int) (g : PG) (u : PM) : call M_TD_emptyInRow [vA t, vI a1] g u =
  if a1 < 0 then
    some (2, vN, (Prod.fst g, (Prod.fst (Prod.snd g)) + 1, Prod.snd (Prod.snd g)), u)
  else
    bif pW t && pO (pK g t) 10 then (
    bif pW (t + 26) && pO (pK g (t + 26)) 8 then (
    bif pW ((t + 26) + 1) && pO (pK g ((t + 26) + 1)) 9 then (
    if a1 < (u ((t + 26) + 1) 1) then
      bif pW t && pO (pK g t) 10 then (
      bif pW (t + 26) && pO (pK g (t + 26)) 8 then (
      bif pW ((t + 26) + 1) && pO (pK g ((t + 26) + 1)) 9 then (
      cI (call M_Tk_countEmptyIn [vA ((t + 26) + 1), vI a1] g u) (fun (x3 : Int) (g1 : PG) (u2 : PM) =>
        some (0, vI x3, g1, u2)) noX) else none) else none) else none
    else
      some (2, vN, (Prod.fst g, (Prod.fst (Prod.snd g)) + 1, Prod.snd (Prod.snd g)), u)) else none) else none) else none := (run_bl (m := M_TD_emptyInRow) (T := T_TD_emptyInRow) (hh := []) (stop := []) rfl rfl rfl 20 (pc := 0) (L := [vA t, vI a1]) (S := []) rfl).trans rfl
set_option maxRecDepth 100000 in
theorem C_TD_pieceShape (t : Nat) (a1 : Int) (g : PG) (u : PM) : call M_TD_pieceShape [vA t, vI a1] g u =
  bif pW t && pO (pK g t) 10 then (
  cV (call M_TD_requirePiece [vA t, vI a1] g u) (fun (g1 : PG) (u2 : PM) =>
    bif pW t && pO (pK g1 t) 10 then (
    bif pW (t + 26) && pO (pK g1 (t + 26)) 8 then (
    bif pW ((t + 26) + 4) && pO (pK g1 ((t + 26) + 4)) 4 then (
    cI (call M_Pi_shapeOf [vA ((t + 26) + 4), vI a1] g1 u2) (fun (x5 : Int) (g3 : PG) (u4 : PM) =>
      some (0, vI x5, g3, u4)) noX) else none) else none) else none) (fun (i : Nat) (g : PG) (u : PM) => some (i + 1, vN, g, u))) else none := (run_bl (m := M_TD_pieceShape) (T := T_TD_pieceShape) (hh := []) (stop := []) rfl rfl rfl 14 (pc := 0) (L := [vA t, vI a1]) (S := []) rfl).trans rfl
set_option maxRecDepth 100000 in
theorem C_TD_pieceRotation (t : Nat) (a1 : Int) (g : PG) (u : PM) : call M_TD_pieceRotation [vA t, vI a1] g u =
  bif pW t && pO (pK g t) 10 then (
  cV (call M_TD_requirePiece [vA t, vI a1] g u) (fun (g1 : PG) (u2 : PM) =>
    bif pW t && pO (pK g1 t) 10 then (
    bif pW (t + 26) && pO (pK g1 (t + 26)) 8 then (
    bif pW ((t + 26) + 4) && pO (pK g1 ((t + 26) + 4)) 4 then (
    cI (call M_Pi_rotationOf [vA ((t + 26) + 4), vI a1] g1 u2) (fun (x5 : Int) (g3 : PG) (u4 : PM) =>
      some (0, vI x5, g3, u4)) noX) else none) else none) else none) (fun (i : Nat) (g : PG) (u : PM) => some (i + 1, vN, g, u))) else none := (run_bl (m := M_TD_pieceRotation) (T := T_TD_pieceRotation) (hh := []) (stop := []) rfl rfl rfl 14 (pc := 0) (L := [vA t, vI a1]) (S := []) rfl).trans rfl
set_option maxRecDepth 100000 in
theorem C_TD_pieceColumn (t : Nat) (a1 : Int) (g : PG) (u : PM) : call M_TD_pieceColumn [vA t, vI a1] g u =
  bif pW t && pO (pK g t) 10 then (
  cV (call M_TD_requirePiece [vA t, vI a1] g u) (fun (g1 : PG) (u2 : PM) =>
    bif pW t && pO (pK g1 t) 10 then (
    bif pW (t + 26) && pO (pK g1 (t + 26)) 8 then (
    bif pW ((t + 26) + 4) && pO (pK g1 ((t + 26) + 4)) 4 then (
    cI (call M_Pi_anchorColumnOf [vA ((t + 26) + 4), vI a1] g1 u2) (fun (x5 : Int) (g3 : PG) (u4 : PM) =>
      some (0, vI x5, g3, u4)) noX) else none) else none) else none) (fun (i : Nat) (g : PG) (u : PM) => some (i + 1, vN, g, u))) else none := (run_bl (m := M_TD_pieceColumn) (T := T_TD_pieceColumn) (hh := []) (stop := []) rfl rfl rfl 14 (pc := 0) (L := [vA t, vI a1]) (S := []) rfl).trans rfl
set_option maxRecDepth 100000 in
theorem C_TD_pieceRow (t : Nat) (a1 : Int) (g : PG) (u : PM) : call M_TD_pieceRow [vA t, vI a1] g u =
  bif pW t && pO (pK g t) 10 then (
  cV (call M_TD_requirePiece [vA t, vI a1] g u) (fun (g1 : PG) (u2 : PM) =>
    bif pW t && pO (pK g1 t) 10 then (
    bif pW (t + 26) && pO (pK g1 (t + 26)) 8 then (
    bif pW ((t + 26) + 4) && pO (pK g1 ((t + 26) + 4)) 4 then (
    cI (call M_Pi_anchorRowOf [vA ((t + 26) + 4), vI a1] g1 u2) (fun (x5 : Int) (g3 : PG) (u4 : PM) =>
      some (0, vI x5, g3, u4)) noX) else none) else none) else none) (fun (i : Nat) (g : PG) (u : PM) => some (i + 1, vN, g, u))) else none := (run_bl (m := M_TD_pieceRow) (T := T_TD_pieceRow) (hh := []) (stop := []) rfl rfl rfl 14 (pc := 0) (L := [vA t, vI a1]) (S := []) rfl).trans rfl
set_option maxRecDepth 100000 in
theorem C_TD_pieceOwner (t : Nat) (a1 : Int) (g : PG) (u : PM) : call M_TD_pieceOwner [vA t, vI a1] g u =
  bif pW t && pO (pK g t) 10 then (
  cV (call M_TD_requirePiece [vA t, vI a1] g u) (fun (g1 : PG) (u2 : PM) =>
    bif pW t && pO (pK g1 t) 10 then (
    bif pW (t + 26) && pO (pK g1 (t + 26)) 8 then (
    bif pW ((t + 26) + 4) && pO (pK g1 ((t + 26) + 4)) 4 then (
    cI (call M_Pi_ownerOf [vA ((t + 26) + 4), vI a1] g1 u2) (fun (x5 : Int) (g3 : PG) (u4 : PM) =>
      some (0, vI x5, g3, u4)) noX) else none) else none) else none) (fun (i : Nat) (g : PG) (u : PM) => some (i + 1, vN, g, u))) else none := (run_bl (m := M_TD_pieceOwner) (T := T_TD_pieceOwner) (hh := []) (stop := []) rfl rfl rfl 14 (pc := 0) (L := [vA t, vI a1]) (S := []) rfl).trans rfl
set_option maxRecDepth 100000 in
theorem C_TD_piecePoints (t : Nat) (a1 : Int) (g : PG) (u : PM) : call M_TD_piecePoints [vA t, vI a1] g u =
  bif pW t && pO (pK g t) 10 then (
  cV (call M_TD_requirePiece [vA t, vI a1] g u) (fun (g1 : PG) (u2 : PM) =>
    bif pW t && pO (pK g1 t) 10 then (
    bif pW (t + 26) && pO (pK g1 (t + 26)) 8 then (
    bif pW ((t + 26) + 4) && pO (pK g1 ((t + 26) + 4)) 4 then (
    cI (call M_Pi_pointsOf [vA ((t + 26) + 4), vI a1] g1 u2) (fun (x5 : Int) (g3 : PG) (u4 : PM) =>
      some (0, vI x5, g3, u4)) noX) else none) else none) else none) (fun (i : Nat) (g : PG) (u : PM) => some (i + 1, vN, g, u))) else none := (run_bl (m := M_TD_piecePoints) (T := T_TD_piecePoints) (hh := []) (stop := []) rfl rfl rfl 14 (pc := 0) (L := [vA t, vI a1]) (S := []) rfl).trans rfl
set_option maxRecDepth 100000 in
theorem C_TD_playerToMove (t : Nat) (g : PG) (u : PM) : call M_TD_playerToMove [vA t] g u =
  bif pW t && pO (pK g t) 10 then (
  bif pW (t + 26) && pO (pK g (t + 26)) 8 then (
  cI (call M_St_isFinished [vA (t + 26)] g u) (fun (x3 : Int) (g1 : PG) (u2 : PM) =>
    if x3 = 0 then
      bif pW t && pO (pK g1 t) 10 then (
      bif pW (t + 26) && pO (pK g1 (t + 26)) 8 then (
      some (0, vI (u2 (t + 26) 4), g1, u2)) else none) else none
    else
      some (0, vI (-1), g1, u2)) noX) else none) else none := (run_bl (m := M_TD_playerToMove) (T := T_TD_playerToMove) (hh := []) (stop := []) rfl rfl rfl 15 (pc := 0) (L := [vA t]) (S := []) rfl).trans rfl
set_option maxRecDepth 100000 in
theorem C_TD_isOver (t : Nat) (g : PG) (u : PM) : call M_TD_isOver [vA t] g u =
  bif pW t && pO (pK g t) 10 then (
  bif pW (t + 26) && pO (pK g (t + 26)) 8 then (
  cI (call M_St_isFinished [vA (t + 26)] g u) (fun (x3 : Int) (g1 : PG) (u2 : PM) =>
    bif b01 x3 then (
    some (0, vI x3, g1, u2)) else none) noX) else none) else none := (run_bl (m := M_TD_isOver) (T := T_TD_isOver) (hh := []) (stop := []) rfl rfl rfl 9 (pc := 0) (L := [vA t]) (S := []) rfl).trans rfl
set_option maxRecDepth 100000 in
theorem C_TD_leader (t : Nat) (g : PG) (u : PM) : call M_TD_leader [vA t] g u =
  bif pW t && pO (pK g t) 10 then (
  bif pW (t + 26) && pO (pK g (t + 26)) 8 then (
  bif pW ((t + 26) + 11) && pO (pK g ((t + 26) + 11)) 5 then (
  bif pW t && pO (pK g t) 10 then (
  bif pW (t + 26) && pO (pK g (t + 26)) 8 then (
  bif pW ((t + 26) + 14) && pO (pK g ((t + 26) + 14)) 5 then (
  if (w ((u ((t + 26) + 11) 0) - (u ((t + 26) + 14) 0))) = 0 then
    some (0, vI (-1), g, u)
  else
    if 0 < (w ((u ((t + 26) + 11) 0) - (u ((t + 26) + 14) 0))) then
      some (0, vI 0, g, u)
    else
      some (0, vI 1, g, u)) else none) else none) else none) else none) else none) else none := (run_bl (m := M_TD_leader) (T := T_TD_leader) (hh := []) (stop := []) rfl rfl rfl 25 (pc := 0) (L := [vA t, vN]) (S := []) rfl).trans rfl
set_option maxRecDepth 100000 in
theorem C_TD_score (t : Nat) (a1 : Int) (g : PG) (u : PM) : call M_TD_score [vA t, vI a1] g u =
  cV (call M_TD_requirePlayer [vI a1] g u) (fun (g1 : PG) (u2 : PM) =>
    bif pW t && pO (pK g1 t) 10 then (
    bif pW (t + 26) && pO (pK g1 (t + 26)) 8 then (
    cR (call M_St_playerOf [vA (t + 26), vI a1] g1 u2) (fun (r5 : Nat) (g3 : PG) (u4 : PM) =>
      bif pW r5 && pO (pK g3 r5) 5 then (
      some (0, vI (u4 r5 0), g3, u4)) else none)) else none) else none) (fun (i : Nat) (g : PG) (u : PM) => some (i + 1, vN, g, u)) := (run_bl (m := M_TD_score) (T := T_TD_score) (hh := []) (stop := []) rfl rfl rfl 13 (pc := 0) (L := [vA t, vI a1]) (S := []) rfl).trans rfl
set_option maxRecDepth 100000 in
theorem C_TD_supply (t : Nat) (a1 : Int) (a2 : Int) (g : PG) (u : PM) : call M_TD_supply [vA t, vI a1, vI a2] g u =
  cV (call M_TD_requirePlayer [vI a1] g u) (fun (g1 : PG) (u2 : PM) =>
    cV (call M_TD_requireShape [vI a2] g1 u2) (fun (g3 : PG) (u4 : PM) =>
      bif pW t && pO (pK g3 t) 10 then (
      bif pW (t + 26) && pO (pK g3 (t + 26)) 8 then (
      cR (call M_St_playerOf [vA (t + 26), vI a1] g3 u4) (fun (r7 : Nat) (g5 : PG) (u6 : PM) =>
        bif pW r7 && pO (pK g5 r7) 5 then (
        cI (call M_Pl_supplyOf [vA r7, vI a2] g5 u6) (fun (x10 : Int) (g8 : PG) (u9 : PM) =>
          some (0, vI x10, g8, u9)) noX) else none)) else none) else none) (fun (i : Nat) (g : PG) (u : PM) => some (i + 1, vN, g, u))) (fun (i : Nat) (g : PG) (u : PM) => some (i + 1, vN, g, u)) := (run_bl (m := M_TD_supply) (T := T_TD_supply) (hh := []) (stop := []) rfl rfl rfl 16 (pc := 0) (L := [vA t, vI a1, vI a2]) (S := []) rfl).trans rfl
set_option maxRecDepth 100000 in
theorem C_TD_strapsLeft (t : Nat) (a1 : Int) (g : PG) (u : PM) : call M_TD_strapsLeft [vA t, vI a1] g u =
  cV (call M_TD_requirePlayer [vI a1] g u) (fun (g1 : PG) (u2 : PM) =>
    bif pW t && pO (pK g1 t) 10 then (
    bif pW (t + 26) && pO (pK g1 (t + 26)) 8 then (
    cR (call M_St_playerOf [vA (t + 26), vI a1] g1 u2) (fun (r5 : Nat) (g3 : PG) (u4 : PM) =>
      bif pW r5 && pO (pK g3 r5) 5 then (
      some (0, vI (u4 r5 1), g3, u4)) else none)) else none) else none) (fun (i : Nat) (g : PG) (u : PM) => some (i + 1, vN, g, u)) := (run_bl (m := M_TD_strapsLeft) (T := T_TD_strapsLeft) (hh := []) (stop := []) rfl rfl rfl 13 (pc := 0) (L := [vA t, vI a1]) (S := []) rfl).trans rfl
set_option maxRecDepth 100000 in
theorem C_TD_fits (t : Nat) (a1 : Int) (a2 : Int) (a3 : Int) (a4 : Int) (g : PG) (u : PM) : call M_TD_fits [vA t, vI a1, vI a2, vI a3, vI a4] g u =
  bif pW t && pO (pK g t) 10 then (
  cV (call M_TD_aimAt [vA t, vI a1, vI a2, vI a3, vI a4] g u) (fun (g1 : PG) (u2 : PM) =>
    bif pW t && pO (pK g1 t) 10 then (
    bif pW (t + 26) && pO (pK g1 (t + 26)) 8 then (
    bif pW t && pO (pK g1 t) 10 then (
    bif pW ((t + 26) + 1) && pO (pK g1 ((t + 26) + 1)) 9 then (
    cI (call M_Tk_misfitOf [vA ((t + 26) + 1), vA (t + 234)] g1 u2) (fun (x5 : Int) (g3 : PG) (u4 : PM) =>
      if x5 = 0 then
        some (0, vI 1, g3, u4)
      else
        some (0, vI 0, g3, u4)) noX) else none) else none) else none) else none) (fun (i : Nat) (g : PG) (u : PM) => some (i + 1, vN, g, u))) else none := (run_bl (m := M_TD_fits) (T := T_TD_fits) (hh := []) (stop := []) rfl rfl rfl 22 (pc := 0) (L := [vA t, vI a1, vI a2, vI a3, vI a4]) (S := []) rfl).trans rfl
set_option maxRecDepth 100000 in
theorem C_TD_misfitReason (t : Nat) (a1 : Int) (a2 : Int) (a3 : Int) (a4 : Int) (g : PG) (u : PM) : call M_TD_misfitReason [vA t, vI a1, vI a2, vI a3, vI a4] g u =
  bif pW t && pO (pK g t) 10 then (
  cV (call M_TD_aimAt [vA t, vI a1, vI a2, vI a3, vI a4] g u) (fun (g1 : PG) (u2 : PM) =>
    bif pW t && pO (pK g1 t) 10 then (
    bif pW (t + 26) && pO (pK g1 (t + 26)) 8 then (
    bif pW t && pO (pK g1 t) 10 then (
    bif pW ((t + 26) + 1) && pO (pK g1 ((t + 26) + 1)) 9 then (
    cI (call M_Tk_misfitOf [vA ((t + 26) + 1), vA (t + 234)] g1 u2) (fun (x5 : Int) (g3 : PG) (u4 : PM) =>
      some (0, vI x5, g3, u4)) noX) else none) else none) else none) else none) (fun (i : Nat) (g : PG) (u : PM) => some (i + 1, vN, g, u))) else none := (run_bl (m := M_TD_misfitReason) (T := T_TD_misfitReason) (hh := []) (stop := []) rfl rfl rfl 18 (pc := 0) (L := [vA t, vI a1, vI a2, vI a3, vI a4]) (S := []) rfl).trans rfl
set_option maxRecDepth 100000 in
theorem C_TD_pointsFor (t : Nat) (a1 : Int) (a2 : Int) (a3 : Int) (a4 : Int) (g : PG) (u : PM) : call M_TD_pointsFor [vA t, vI a1, vI a2, vI a3, vI a4] g u =
  bif pW t && pO (pK g t) 10 then (
  cV (call M_TD_aimAt [vA t, vI a1, vI a2, vI a3, vI a4] g u) (fun (g1 : PG) (u2 : PM) =>
    bif pW t && pO (pK g1 t) 10 then (
    bif pW (t + 26) && pO (pK g1 (t + 26)) 8 then (
    bif pW t && pO (pK g1 t) 10 then (
    bif pW ((t + 26) + 1) && pO (pK g1 ((t + 26) + 1)) 9 then (
    cI (call M_Tk_misfitOf [vA ((t + 26) + 1), vA (t + 234)] g1 u2) (fun (x5 : Int) (g3 : PG) (u4 : PM) =>
      if x5 = 0 then
        bif pW t && pO (pK g3 t) 10 then (
        bif pW (t + 26) && pO (pK g3 (t + 26)) 8 then (
        bif pW t && pO (pK g3 t) 10 then (
        bif pW ((t + 26) + 1) && pO (pK g3 ((t + 26) + 1)) 9 then (
        cI (call M_Tk_pointsOf [vA ((t + 26) + 1), vA (t + 234)] g3 u4) (fun (x8 : Int) (g6 : PG) (u7 : PM) =>
          some (0, vI x8, g6, u7)) noX) else none) else none) else none) else none
      else
        some (0, vI (-1), g3, u4)) noX) else none) else none) else none) else none) (fun (i : Nat) (g : PG) (u : PM) => some (i + 1, vN, g, u))) else none := (run_bl (m := M_TD_pointsFor) (T := T_TD_pointsFor) (hh := []) (stop := []) rfl rfl rfl 27 (pc := 0) (L := [vA t, vI a1, vI a2, vI a3, vI a4]) (S := []) rfl).trans rfl
set_option maxRecDepth 100000 in
theorem C_TD_mobility (t : Nat) (a1 : Int) (g : PG) (u : PM) : call M_TD_mobility [vA t, vI a1] g u =
  cV (call M_TD_requirePlayer [vI a1] g u) (fun (g1 : PG) (u2 : PM) =>
    bif pW t && pO (pK g1 t) 10 then (
    bif pW t && pO (pK g1 t) 10 then (
    bif pW (t + 26) && pO (pK g1 (t + 26)) 8 then (
    cI (call M_St_countMoves [vA (t + 26), vI a1, vA (t + 234)] g1 u2) (fun (x5 : Int) (g3 : PG) (u4 : PM) =>
      some (0, vI x5, g3, u4)) noX) else none) else none) else none) (fun (i : Nat) (g : PG) (u : PM) => some (i + 1, vN, g, u)) := (run_bl (m := M_TD_mobility) (T := T_TD_mobility) (hh := []) (stop := []) rfl rfl rfl 14 (pc := 0) (L := [vA t, vI a1]) (S := []) rfl).trans rfl
set_option maxRecDepth 100000 in
theorem C_TD_mobilityAfter (t : Nat) (a1 : Int) (a2 : Int) (a3 : Int) (a4 : Int) (a5 : Int) (g : PG) (u : PM) : call M_TD_mobilityAfter [vA t, vI a1, vI a2, vI a3, vI a4, vI a5] g u =
  bif pW t && pO (pK g t) 10 then (
  cV (call M_TD_aimAt [vA t, vI a1, vI a2, vI a3, vI a4] g u) (fun (g1 : PG) (u2 : PM) =>
    cV (call M_TD_requirePlayer [vI a5] g1 u2) (fun (g3 : PG) (u4 : PM) =>
      bif pW t && pO (pK g3 t) 10 then (
      bif pW t && pO (pK g3 t) 10 then (
      bif pW (t + 26) && pO (pK g3 (t + 26)) 8 then (
      cI (call M_St_allowsPiece [vA (t + 26), vA (t + 234)] g3 u4) (fun (x7 : Int) (g5 : PG) (u6 : PM) =>
        if x7 = 0 then
          some (0, vI (-1), g5, u6)
        else
          bif pW t && pO (pK g5 t) 10 then (
          bif pW t && pO (pK g5 t) 10 then (
          bif pW (t + 43) && pO (pK g5 (t + 43)) 8 then (
          cV (call M_St_copyFrom [vA (t + 43), vA (t + 26)] g5 u6) (fun (g8 : PG) (u9 : PM) =>
            bif pW t && pO (pK g8 t) 10 then (
            bif pW t && pO (pK g8 t) 10 then (
            bif pW (t + 43) && pO (pK g8 (t + 43)) 8 then (
            cI (call M_St_putPiece [vA (t + 43), vA (t + 234)] g8 u9) (fun (x12 : Int) (g10 : PG) (u11 : PM) =>
              bif pW t && pO (pK g10 t) 10 then (
              bif pW t && pO (pK g10 t) 10 then (
              bif pW (t + 43) && pO (pK g10 (t + 43)) 8 then (
              cI (call M_St_countMoves [vA (t + 43), vI a5, vA (t + 234)] g10 u11) (fun (x15 : Int) (g13 : PG) (u14 : PM) =>
                some (0, vI x15, g13, u14)) noX) else none) else none) else none) noX) else none) else none) else none) noX) else none) else none) else none) noX) else none) else none) else none) (fun (i : Nat) (g : PG) (u : PM) => some (i + 1, vN, g, u))) (fun (i : Nat) (g : PG) (u : PM) => some (i + 1, vN, g, u))) else none := (run_bl (m := M_TD_mobilityAfter) (T := T_TD_mobilityAfter) (hh := []) (stop := []) rfl rfl rfl 39 (pc := 0) (L := [vA t, vI a1, vI a2, vI a3, vI a4, vI a5]) (S := []) rfl).trans rfl
set_option maxRecDepth 100000 in
theorem C_TD_bestShape (t : Nat) (g : PG) (u : PM) : call M_TD_bestShape [vA t] g u =
  bif pW t && pO (pK g t) 10 then (
  bif pW t && pO (pK g t) 10 then (
  bif pW t && pO (pK g t) 10 then (
  bif pW (t + 240) && pO (pK g (t + 240)) 0 then (
  cV (call M_Ch_search [vA (t + 240), vA (t + 26), vA (t + 234)] g u) (fun (g1 : PG) (u2 : PM) =>
    bif pW t && pO (pK g1 t) 10 then (
    bif pW (t + 240) && pO (pK g1 (t + 240)) 0 then (
    some (0, vI (u2 (t + 240) 0), g1, u2)) else none) else none) noX) else none) else none) else none) else none := (run_bl (m := M_TD_bestShape) (T := T_TD_bestShape) (hh := []) (stop := []) rfl rfl rfl 16 (pc := 0) (L := [vA t]) (S := []) rfl).trans rfl
set_option maxRecDepth 100000 in
theorem C_TD_bestRotation (t : Nat) (g : PG) (u : PM) : call M_TD_bestRotation [vA t] g u =
  bif pW t && pO (pK g t) 10 then (
  bif pW t && pO (pK g t) 10 then (
  bif pW t && pO (pK g t) 10 then (
  bif pW (t + 240) && pO (pK g (t + 240)) 0 then (
  cV (call M_Ch_search [vA (t + 240), vA (t + 26), vA (t + 234)] g u) (fun (g1 : PG) (u2 : PM) =>
    bif pW t && pO (pK g1 t) 10 then (
    bif pW (t + 240) && pO (pK g1 (t + 240)) 0 then (
    some (0, vI (u2 (t + 240) 1), g1, u2)) else none) else none) noX) else none) else none) else none) else none := (run_bl (m := M_TD_bestRotation) (T := T_TD_bestRotation) (hh := []) (stop := []) rfl rfl rfl 16 (pc := 0) (L := [vA t]) (S := []) rfl).trans rfl
set_option maxRecDepth 100000 in
theorem C_TD_bestColumn (t : Nat) (g : PG) (u : PM) : call M_TD_bestColumn [vA t] g u =
  bif pW t && pO (pK g t) 10 then (
  bif pW t && pO (pK g t) 10 then (
  bif pW t && pO (pK g t) 10 then (
  bif pW (t + 240) && pO (pK g (t + 240)) 0 then (
  cV (call M_Ch_search [vA (t + 240), vA (t + 26), vA (t + 234)] g u) (fun (g1 : PG) (u2 : PM) =>
    bif pW t && pO (pK g1 t) 10 then (
    bif pW (t + 240) && pO (pK g1 (t + 240)) 0 then (
    some (0, vI (u2 (t + 240) 2), g1, u2)) else none) else none) noX) else none) else none) else none) else none := (run_bl (m := M_TD_bestColumn) (T := T_TD_bestColumn) (hh := []) (stop := []) rfl rfl rfl 16 (pc := 0) (L := [vA t]) (S := []) rfl).trans rfl
set_option maxRecDepth 100000 in
theorem C_TD_bestRow (t : Nat) (g : PG) (u : PM) : call M_TD_bestRow [vA t] g u =
  bif pW t && pO (pK g t) 10 then (
  bif pW t && pO (pK g t) 10 then (
  bif pW t && pO (pK g t) 10 then (
  bif pW (t + 240) && pO (pK g (t + 240)) 0 then (
  cV (call M_Ch_search [vA (t + 240), vA (t + 26), vA (t + 234)] g u) (fun (g1 : PG) (u2 : PM) =>
    bif pW t && pO (pK g1 t) 10 then (
    bif pW (t + 240) && pO (pK g1 (t + 240)) 0 then (
    some (0, vI (u2 (t + 240) 3), g1, u2)) else none) else none) noX) else none) else none) else none) else none := (run_bl (m := M_TD_bestRow) (T := T_TD_bestRow) (hh := []) (stop := []) rfl rfl rfl 16 (pc := 0) (L := [vA t]) (S := []) rfl).trans rfl
set_option maxRecDepth 100000 in
theorem C_TD_bestStrapEffect (t : Nat) (g : PG) (u : PM) : call M_TD_bestStrapEffect [vA t] g u =
  bif pW t && pO (pK g t) 10 then (
  bif pW (t + 26) && pO (pK g (t + 26)) 8 then (
  cI (call M_St_isFinished [vA (t + 26)] g u) (fun (x3 : Int) (g1 : PG) (u2 : PM) =>
    if x3 = 0 then
      bif pW t && pO (pK g1 t) 10 then (
      bif pW t && pO (pK g1 t) 10 then (
      bif pW (t + 26) && pO (pK g1 (t + 26)) 8 then (
      bif pW (t + 26) && pO (pK g1 (t + 26)) 8 then (
      cR (call M_St_playerOf [vA (t + 26), vI (u2 (t + 26) 4)] g1 u2) (fun (r6 : Nat) (g4 : PG) (u5 : PM) =>
        bif pW r6 && pO (pK g4 r6) 5 then (
        if (u5 r6 1) = 0 then
          some (0, vI 0, g4, u5)
        else
          bif pW t && pO (pK g4 t) 10 then (
          bif pW t && pO (pK g4 t) 10 then (
          bif pW t && pO (pK g4 t) 10 then (
          bif pW (t + 26) && pO (pK g4 (t + 26)) 8 then (
          bif pW (t + 26) && pO (pK g4 (t + 26)) 8 then (
          cR (call M_St_playerOf [vA (t + 26), vI (w (1 - (u5 (t + 26) 4)))] g4 u5) (fun (r9 : Nat) (g7 : PG) (u8 : PM) =>
            bif pW t && pO (pK g7 t) 10 then (
            bif pW (t + 26) && pO (pK g7 (t + 26)) 8 then (
            bif pW t && pO (pK g7 t) 10 then (
            bif pW (t + 241) && pO (pK g7 (t + 241)) 1 then (
            cI (call M_Cr_mostFor [vA (t + 241), vA r9, vA ((t + 26) + 1), vA (t + 234)] g7 u8) (fun (x12 : Int) (g10 : PG) (u11 : PM) =>
              some (0, vI x12, g10, u11)) noX) else none) else none) else none) else none)) else none) else none) else none) else none) else none) else none)) else none) else none) else none) else none
    else
      some (0, vI (-1), g1, u2)) noX) else none) else none := (run_bl (m := M_TD_bestStrapEffect) (T := T_TD_bestStrapEffect) (hh := []) (stop := []) rfl rfl rfl 38 (pc := 0) (L := [vA t]) (S := []) rfl).trans rfl
set_option maxRecDepth 100000 in
theorem C_TD_regionCount (t : Nat) (g : PG) (u : PM) : call M_TD_regionCount [vA t] g u =
  bif pW t && pO (pK g t) 10 then (
  bif pW t && pO (pK g t) 10 then (
  bif pW (t + 26) && pO (pK g (t + 26)) 8 then (
  bif pW (t + 243) && pO (pK g (t + 243)) 7 then (
  cV (call M_Rg_survey [vA (t + 243), vA ((t + 26) + 1)] g u) (fun (g1 : PG) (u2 : PM) =>
    bif pW t && pO (pK g1 t) 10 then (
    bif pW (t + 243) && pO (pK g1 (t + 243)) 7 then (
    some (0, vI (u2 (t + 243) 0), g1, u2)) else none) else none) noX) else none) else none) else none) else none := (run_bl (m := M_TD_regionCount) (T := T_TD_regionCount) (hh := []) (stop := []) rfl rfl rfl 15 (pc := 0) (L := [vA t]) (S := []) rfl).trans rfl
set_option maxRecDepth 100000 in
theorem C_TD_largestRegion (t : Nat) (g : PG) (u : PM) : call M_TD_largestRegion [vA t] g u =
  bif pW t && pO (pK g t) 10 then (
  bif pW t && pO (pK g t) 10 then (
  bif pW (t + 26) && pO (pK g (t + 26)) 8 then (
  bif pW (t + 243) && pO (pK g (t + 243)) 7 then (
  cV (call M_Rg_survey [vA (t + 243), vA ((t + 26) + 1)] g u) (fun (g1 : PG) (u2 : PM) =>
    run M_TD_largestRegion 18 [vA t, vI 0, vI 0] [] g1 u2) noX) else none) else none) else none) else none := (run_bl (m := M_TD_largestRegion) (T := T_TD_largestRegion) (hh := []) (stop := [(18, [true, true, true])]) rfl rfl rfl 31 (pc := 0) (L := [vA t, vN, vN]) (S := []) rfl).trans rfl
set_option maxRecDepth 100000 in
theorem R_TD_largestRegion_18 (t : Nat) (a1 : Int) (a2 : Int) (g : PG) (u : PM) : run M_TD_largestRegion 18 [vA t, vI a1, vI a2] [] g u =
  bif pW t && pO (pK g t) 10 then (
  bif pW (t + 243) && pO (pK g (t + 243)) 7 then (
  if a2 < (u (t + 243) 0) then
    bif pW t && pO (pK g t) 10 then (
    bif pW (t + 243) && pO (pK g (t + 243)) 7 then (
    cI (call M_Rg_sizeOf [vA (t + 243), vI a2] g u) (fun (x3 : Int) (g1 : PG) (u2 : PM) =>
      run M_TD_largestRegion 18 [vA t, vI (max2 a1 x3), vI (w (a2 + 1))] [] g1 u2) noX) else none) else none
  else
    some (0, vI a1, g, u)) else none) else none := (run_bl (m := M_TD_largestRegion) (T := T_TD_largestRegion) (hh := []) (stop := [(18, [true, true, true])]) rfl rfl rfl 31 (pc := 18) (L := [vA t, vI a1, vI a2]) (S := []) rfl).trans rfl
set_option maxRecDepth 100000 in
theorem C_TD_regionSize (t : Nat) (a1 : Int) (a2 : Int) (g : PG) (u : PM) : call M_TD_regionSize [vA t, vI a1, vI a2] g u =
  bif pW t && pO (pK g t) 10 then (
  cV (call M_TD_requireCell [vA t, vI a1, vI a2] g u) (fun (g1 : PG) (u2 : PM) =>
    bif pW t && pO (pK g1 t) 10 then (
    bif pW t && pO (pK g1 t) 10 then (
    bif pW (t + 26) && pO (pK g1 (t + 26)) 8 then (
    bif pW (t + 243) && pO (pK g1 (t + 243)) 7 then (
    cV (call M_Rg_survey [vA (t + 243), vA ((t + 26) + 1)] g1 u2) (fun (g3 : PG) (u4 : PM) =>
      bif pW t && pO (pK g3 t) 10 then (
      bif pW (t + 243) && pO (pK g3 (t + 243)) 7 then (
      cI (call M_Rg_sizeAt [vA (t + 243), vI a1, vI a2] g3 u4) (fun (x7 : Int) (g5 : PG) (u6 : PM) =>
        some (0, vI x7, g5, u6)) noX) else none) else none) noX) else none) else none) else none) else none) (fun (i : Nat) (g : PG) (u : PM) => some (i + 1, vN, g, u))) else none := (run_bl (m := M_TD_regionSize) (T := T_TD_regionSize) (hh := []) (stop := []) rfl rfl rfl 21 (pc := 0) (L := [vA t, vI a1, vI a2]) (S := []) rfl).trans rfl
set_option maxRecDepth 100000 in
theorem C_TD_isDead (t : Nat) (a1 : Int) (a2 : Int) (g : PG) (u : PM) : call M_TD_isDead [vA t, vI a1, vI a2] g u =
  bif pW t && pO (pK g t) 10 then (
  cV (call M_TD_requireCell [vA t, vI a1, vI a2] g u) (fun (g1 : PG) (u2 : PM) =>
    bif pW t && pO (pK g1 t) 10 then (
    bif pW t && pO (pK g1 t) 10 then (
    bif pW (t + 26) && pO (pK g1 (t + 26)) 8 then (
    bif pW (t + 243) && pO (pK g1 (t + 243)) 7 then (
    cV (call M_Rg_survey [vA (t + 243), vA ((t + 26) + 1)] g1 u2) (fun (g3 : PG) (u4 : PM) =>
      bif pW t && pO (pK g3 t) 10 then (
      bif pW (t + 243) && pO (pK g3 (t + 243)) 7 then (
      cI (call M_Rg_sizeAt [vA (t + 243), vI a1, vI a2] g3 u4) (fun (x7 : Int) (g5 : PG) (u6 : PM) =>
        if x7 = 1 then
          some (0, vI 1, g5, u6)
        else
          some (0, vI 0, g5, u6)) noX) else none) else none) noX) else none) else none) else none) else none) (fun (i : Nat) (g : PG) (u : PM) => some (i + 1, vN, g, u))) else none := (run_bl (m := M_TD_isDead) (T := T_TD_isDead) (hh := []) (stop := []) rfl rfl rfl 26 (pc := 0) (L := [vA t, vI a1, vI a2]) (S := []) rfl).trans rfl
set_option maxRecDepth 100000 in
theorem C_TD_deadCells (t : Nat) (g : PG) (u : PM) : call M_TD_deadCells [vA t] g u =
  bif pW t && pO (pK g t) 10 then (
  bif pW t && pO (pK g t) 10 then (
  bif pW (t + 26) && pO (pK g (t + 26)) 8 then (
  bif pW (t + 243) && pO (pK g (t + 243)) 7 then (
  cV (call M_Rg_survey [vA (t + 243), vA ((t + 26) + 1)] g u) (fun (g1 : PG) (u2 : PM) =>
    run M_TD_deadCells 18 [vA t, vI 0, vI 0] [] g1 u2) noX) else none) else none) else none) else none := (run_bl (m := M_TD_deadCells) (T := T_TD_deadCells) (hh := []) (stop := [(18, [true, true, true])]) rfl rfl rfl 31 (pc := 0) (L := [vA t, vN, vN]) (S := []) rfl).trans rfl
set_option maxRecDepth 100000 in
theorem R_TD_deadCells_18 (t : Nat) (a1 : Int) (a2 : Int) (g : PG) (u : PM) : run M_TD_deadCells 18 [vA t, vI a1, vI a2] [] g u =
  bif pW t && pO (pK g t) 10 then (
  bif pW (t + 243) && pO (pK g (t + 243)) 7 then (
  if a2 < (u (t + 243) 0) then
    bif pW t && pO (pK g t) 10 then (
    bif pW (t + 243) && pO (pK g (t + 243)) 7 then (
    cI (call M_Rg_sizeOf [vA (t + 243), vI a2] g u) (fun (x3 : Int) (g1 : PG) (u2 : PM) =>
      if x3 = 1 then
        run M_TD_deadCells 18 [vA t, vI (w (a1 + 1)), vI (w (a2 + 1))] [] g1 u2
      else
        run M_TD_deadCells 18 [vA t, vI a1, vI (w (a2 + 1))] [] g1 u2) noX) else none) else none
  else
    some (0, vI a1, g, u)) else none) else none := (run_bl (m := M_TD_deadCells) (T := T_TD_deadCells) (hh := []) (stop := [(18, [true, true, true])]) rfl rfl rfl 31 (pc := 18) (L := [vA t, vI a1, vI a2]) (S := []) rfl).trans rfl
set_option maxRecDepth 100000 in
theorem C_TD_inconsistencies (t : Nat) (g : PG) (u : PM) : call M_TD_inconsistencies [vA t] g u =
  run M_TD_inconsistencies 9 [vA t, vI 0, vI 0, vI 0, vI 0, vN] [] g u := (run_bl (m := M_TD_inconsistencies) (T := T_TD_inconsistencies) (hh := []) (stop := [(9, [true, true, true, true, true, false])]) rfl rfl rfl 96 (pc := 0) (L := [vA t, vN, vN, vN, vN, vN]) (S := []) rfl).trans rfl
set_option maxRecDepth 100000 in
theorem R_TD_inconsistencies_9 (t : Nat) (a1 : Int) (a2 : Int) (a3 : Int) (a4 : Int) (g : PG) (u : PM) : run M_TD_inconsistencies 9 [vA t, vI a1, vI a2, vI a3, vI a4, vN] [] g u =
  bif pW t && pO (pK g t) 10 then (
  bif pW (t + 26) && pO (pK g (t + 26)) 8 then (
  bif pW ((t + 26) + 4) && pO (pK g ((t + 26) + 4)) 4 then (
  if a4 < (u ((t + 26) + 4) 0) then
    bif pW t && pO (pK g t) 10 then (
    bif pW t && pO (pK g t) 10 then (
    bif pW (t + 26) && pO (pK g (t + 26)) 8 then (
    bif pW ((t + 26) + 4) && pO (pK g ((t + 26) + 4)) 4 then (
    cI (call M_Pi_shapeOf [vA ((t + 26) + 4), vI a4] g u) (fun (x3 : Int) (g1 : PG) (u2 : PM) =>
      bif pW t && pO (pK g1 t) 10 then (
      bif pW (t + 26) && pO (pK g1 (t + 26)) 8 then (
      bif pW ((t + 26) + 4) && pO (pK g1 ((t + 26) + 4)) 4 then (
      cI (call M_Pi_rotationOf [vA ((t + 26) + 4), vI a4] g1 u2) (fun (x6 : Int) (g4 : PG) (u5 : PM) =>
        bif pW (t + 234) && pO (pK g4 (t + 234)) 2 then (
        cV (call M_Fp_turn [vA (t + 234), vI x3, vI x6] g4 u5) (fun (g7 : PG) (u8 : PM) =>
          bif pW t && pO (pK g7 t) 10 then (
          bif pW t && pO (pK g7 t) 10 then (
          bif pW (t + 26) && pO (pK g7 (t + 26)) 8 then (
          bif pW ((t + 26) + 4) && pO (pK g7 ((t + 26) + 4)) 4 then (
          cI (call M_Pi_anchorColumnOf [vA ((t + 26) + 4), vI a4] g7 u8) (fun (x11 : Int) (g9 : PG) (u10 : PM) =>
            bif pW t && pO (pK g9 t) 10 then (
            bif pW (t + 26) && pO (pK g9 (t + 26)) 8 then (
            bif pW ((t + 26) + 4) && pO (pK g9 ((t + 26) + 4)) 4 then (
            cI (call M_Pi_anchorRowOf [vA ((t + 26) + 4), vI a4] g9 u10) (fun (x14 : Int) (g12 : PG) (u13 : PM) =>
              bif pW (t + 234) && pO (pK g12 (t + 234)) 2 then (
              cV (call M_Fp_moveTo [vA (t + 234), vI x11, vI x14] g12 u13) (fun (g15 : PG) (u16 : PM) =>
                bif pW t && pO (pK g15 t) 10 then (
                bif pW (t + 26) && pO (pK g15 (t + 26)) 8 then (
                bif pW ((t + 26) + 4) && pO (pK g15 ((t + 26) + 4)) 4 then (
                cI (call M_Pi_pointsOf [vA ((t + 26) + 4), vI a4] g15 u16) (fun (x19 : Int) (g17 : PG) (u18 : PM) =>
                  bif pW t && pO (pK g17 t) 10 then (
                  bif pW (t + 234) && pO (pK g17 (t + 234)) 2 then (
                  bif pW t && pO (pK g17 t) 10 then (
                  bif pW (t + 26) && pO (pK g17 (t + 26)) 8 then (
                  bif pW t && pO (pK g17 t) 10 then (
                  bif pW ((t + 26) + 1) && pO (pK g17 ((t + 26) + 1)) 9 then (
                  cI (call M_Tk_isCrossedBy [vA ((t + 26) + 1), vA (t + 234)] g17 u18) (fun (x22 : Int) (g20 : PG) (u21 : PM) =>
                    if x22 = 0 then
                      run M_TD_inconsistencies 9 [vA t, vI (w (a1 + x19)), vI (w (a2 + (u18 (t + 234) 4))), vI a3, vI (w (a4 + 1)), vN] [] g20 u21
                    else
                      run M_TD_inconsistencies 9 [vA t, vI (w (a1 + x19)), vI (w (a2 + (u18 (t + 234) 4))), vI (w (a3 + 1)), vI (w (a4 + 1)), vN] [] g20 u21) noX) else none) else none) else none) else none) else none) else none) noX) else none) else none) else none) noX) else none) noX) else none) else none) else none) noX) else none) else none) else none) else none) noX) else none) noX) else none) else none) else none) noX) else none) else none) else none) else none
  else
    bif pW t && pO (pK g t) 10 then (
    bif pW (t + 26) && pO (pK g (t + 26)) 8 then (
    bif pW ((t + 26) + 11) && pO (pK g ((t + 26) + 11)) 5 then (
    bif pW t && pO (pK g t) 10 then (
    bif pW (t + 26) && pO (pK g (t + 26)) 8 then (
    bif pW ((t + 26) + 14) && pO (pK g ((t + 26) + 14)) 5 then (
    bif pW t && pO (pK g t) 10 then (
    bif pW (t + 26) && pO (pK g (t + 26)) 8 then (
    bif pW ((t + 26) + 1) && pO (pK g ((t + 26) + 1)) 9 then (
    cI (call M_Tk_countCovered [vA ((t + 26) + 1)] g u) (fun (x25 : Int) (g23 : PG) (u24 : PM) =>
      some (0, vI (w ((w ((abs2 (w (a1 - (w ((u ((t + 26) + 11) 0) + (u ((t + 26) + 14) 0)))))) + a3)) + (abs2 (w (x25 - a2))))), g23, u24)) noX) else none) else none) else none) else none) else none) else none) else none) else none) else none) else none) else none) else none := (run_bl (m := M_TD_inconsistencies) (T := T_TD_inconsistencies) (hh := []) (stop := [(9, [true, true, true, true, true, false])]) rfl rfl rfl 96 (pc := 9) (L := [vA t, vI a1, vI a2, vI a3, vI a4, vN]) (S := []) rfl).trans rfl
set_option maxRecDepth 100000 in
theorem C_TD_aimAt (t : Nat) (a1 : Int) (a2 : Int) (a3 : Int) (a4 : Int) (g : PG) (u : PM) : call M_TD_aimAt [vA t, vI a1, vI a2, vI a3, vI a4] g u =
  cV (call M_TD_requireShape [vI a1] g u) (fun (g1 : PG) (u2 : PM) =>
    if a2 < 0 then
      some (1, vN, (Prod.fst g1, (Prod.fst (Prod.snd g1)) + 1, Prod.snd (Prod.snd g1)), u2)
    else
      if a2 < 4 then
        bif pW t && pO (pK g1 t) 10 then (
        cV (call M_TD_requireCell [vA t, vI a3, vI a4] g1 u2) (fun (g3 : PG) (u4 : PM) =>
          bif pW t && pO (pK g3 t) 10 then (
          bif pW (t + 234) && pO (pK g3 (t + 234)) 2 then (
          cV (call M_Fp_turn [vA (t + 234), vI a1, vI a2] g3 u4) (fun (g5 : PG) (u6 : PM) =>
            bif pW t && pO (pK g5 t) 10 then (
            bif pW (t + 234) && pO (pK g5 (t + 234)) 2 then (
            cV (call M_Fp_moveTo [vA (t + 234), vI a3, vI a4] g5 u6) (fun (g7 : PG) (u8 : PM) =>
              some (0, vN, g7, u8)) noX) else none) else none) noX) else none) else none) (fun (i : Nat) (g : PG) (u : PM) => some (i + 1, vN, g, u))) else none
      else
        some (1, vN, (Prod.fst g1, (Prod.fst (Prod.snd g1)) + 1, Prod.snd (Prod.snd g1)), u2)) (fun (i : Nat) (g : PG) (u : PM) => some (i + 1, vN, g, u)) := (run_bl (m := M_TD_aimAt) (T := T_TD_aimAt) (hh := []) (stop := []) rfl rfl rfl 28 (pc := 0) (L := [vA t, vI a1, vI a2, vI a3, vI a4]) (S := []) rfl).trans rfl
set_option maxRecDepth 100000 in
theorem C_TD_requireShape (a0 : Int) (g : PG) (u : PM) : call M_TD_requireShape [vI a0] g u =
  if a0 < 0 then
    some (1, vN, (Prod.fst g, (Prod.fst (Prod.snd g)) + 1, Prod.snd (Prod.snd g)), u)
  else
    if a0 < 5 then
      some (0, vN, g, u)
    else
      some (1, vN, (Prod.fst g, (Prod.fst (Prod.snd g)) + 1, Prod.snd (Prod.snd g)), u) := (run_bl (m := M_TD_requireShape) (T := T_TD_requireShape) (hh := []) (stop := []) rfl rfl rfl 12 (pc := 0) (L := [vI a0]) (S := []) rfl).trans rfl
set_option maxRecDepth 100000 in
theorem C_TD_requirePlayer (a0 : Int) (g : PG) (u : PM) : call M_TD_requirePlayer [vI a0] g u =
  if a0 < 0 then
    some (2, vN, (Prod.fst g, (Prod.fst (Prod.snd g)) + 1, Prod.snd (Prod.snd g)), u)
  else
    if a0 < 2 then
      some (0, vN, g, u)
    else
      some (2, vN, (Prod.fst g, (Prod.fst (Prod.snd g)) + 1, Prod.snd (Prod.snd g)), u) := (run_bl (m := M_TD_requirePlayer) (T := T_TD_requirePlayer) (hh := []) (stop := []) rfl rfl rfl 12 (pc := 0) (L := [vI a0]) (S := []) rfl).trans rfl
set_option maxRecDepth 100000 in
theorem C_TD_requireCell (t : Nat) (a1 : Int) (a2 : Int) (g : PG) (u : PM) : call M_TD_requireCell [vA t, vI a1, vI a2] g u =
  bif pW t && pO (pK g t) 10 then (
  bif pW (t + 26) && pO (pK g (t + 26)) 8 then (
  bif pW ((t + 26) + 1) && pO (pK g ((t + 26) + 1)) 9 then (
  cI (call M_Tk_holds [vA ((t + 26) + 1), vI a1, vI a2] g u) (fun (x3 : Int) (g1 : PG) (u2 : PM) =>
    if x3 = 0 then
      some (2, vN, (Prod.fst g1, (Prod.fst (Prod.snd g1)) + 1, Prod.snd (Prod.snd g1)), u2)
    else
      some (0, vN, g1, u2)) noX) else none) else none) else none := (run_bl (m := M_TD_requireCell) (T := T_TD_requireCell) (hh := []) (stop := []) rfl rfl rfl 14 (pc := 0) (L := [vA t, vI a1, vI a2]) (S := []) rfl).trans rfl
set_option maxRecDepth 100000 in
theorem C_TD_requireEdge (t : Nat) (a1 : Int) (a2 : Int) (a3 : Int) (g : PG) (u : PM) : call M_TD_requireEdge [vA t, vI a1, vI a2, vI a3] g u =
  if a3 < 0 then
    some (1, vN, (Prod.fst g, (Prod.fst (Prod.snd g)) + 1, Prod.snd (Prod.snd g)), u)
  else
    if a3 < 2 then
      bif pW t && pO (pK g t) 10 then (
      bif pW (t + 26) && pO (pK g (t + 26)) 8 then (
      bif pW ((t + 26) + 1) && pO (pK g ((t + 26) + 1)) 9 then (
      cI (call M_Tk_holdsEdge [vA ((t + 26) + 1), vI a1, vI a2, vI a3] g u) (fun (x3 : Int) (g1 : PG) (u2 : PM) =>
        if x3 = 0 then
          some (2, vN, (Prod.fst g1, (Prod.fst (Prod.snd g1)) + 1, Prod.snd (Prod.snd g1)), u2)
        else
          some (0, vN, g1, u2)) noX) else none) else none) else none
    else
      some (1, vN, (Prod.fst g, (Prod.fst (Prod.snd g)) + 1, Prod.snd (Prod.snd g)), u) := (run_bl (m := M_TD_requireEdge) (T := T_TD_requireEdge) (hh := []) (stop := []) rfl rfl rfl 21 (pc := 0) (L := [vA t, vI a1, vI a2, vI a3]) (S := []) rfl).trans rfl
set_option maxRecDepth 100000 in
theorem C_TD_requirePiece (t : Nat) (a1 : Int) (g : PG) (u : PM) : call M_TD_requirePiece [vA t, vI a1] g u =
  if a1 < 0 then
    some (2, vN, (Prod.fst g, (Prod.fst (Prod.snd g)) + 1, Prod.snd (Prod.snd g)), u)
  else
    bif pW t && pO (pK g t) 10 then (
    bif pW (t + 26) && pO (pK g (t + 26)) 8 then (
    bif pW ((t + 26) + 4) && pO (pK g ((t + 26) + 4)) 4 then (
    if a1 < (u ((t + 26) + 4) 0) then
      some (0, vN, g, u)
    else
      some (2, vN, (Prod.fst g, (Prod.fst (Prod.snd g)) + 1, Prod.snd (Prod.snd g)), u)) else none) else none) else none := (run_bl (m := M_TD_requirePiece) (T := T_TD_requirePiece) (hh := []) (stop := []) rfl rfl rfl 15 (pc := 0) (L := [vA t, vI a1]) (S := []) rfl).trans rfl
