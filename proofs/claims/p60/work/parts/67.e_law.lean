/-! ===== equations of blocks, by wip/p60/vgen2.py law ===== -/
set_option maxRecDepth 100000 in
theorem R_L_law_2 (t : Nat) (a1 : Int) (p2 : Nat) (p3 : Nat) (a4 : Int) (a5 : Int) (a7 : Int) (a8 : Int) (a9 : Int) (a10 : Int) (g : PG) (u : PM) : run M_L_law 2 [vA t, vI a1, vA p2, vA p3, vI a4, vI a5, vN, vI a7, vI a8, vI a9, vI a10, vN, vN] [] g u =
  pLen (pK g t) (fun (k1 : Nat) =>
  if a1 < ((k1 : Int)) then
    if a1 < 1 then
      none
    else
      some (0, vI 1, g, u)
  else
    some (0, vI 1, g, u)) := (run_bl (m := M_L_law) (T := T_L_law) (hh := []) (stop := [(2, [true, true, true, true, true, true, false, true, true, true, true, false, false]), (222, [true, true, true, true, true, true, false, false, false, false, false, false, false]), (247, [true, true, true, true, true, true, false, true, false, false, false, false, false]), (315, [true, true, true, true, true, true, false, true, true, false, false, false, false]), (359, [true, true, true, true, true, true, false, true, true, true, true, true, false]), (363, [true, true, true, true, true, true, false, true, true, true, true, true, false]), (364, [true, true, true, true, true, true, false, true, true, true, true, true, false]), (389, [true, true, true, true, true, true, false, true, true, true, true, true, true]), (423, [true, true, true, true, true, true, false, true, true, true, true, true, true]), (430, [true, true, true, true, true, true, false, true, true, true, true, true, true])]) rfl rfl rfl 124 (pc := 2) (L := [vA t, vI a1, vA p2, vA p3, vI a4, vI a5, vN, vI a7, vI a8, vI a9, vI a10, vN, vN]) (S := []) rfl).trans rfl
set_option maxRecDepth 100000 in
theorem R_L_law_222 (t : Nat) (a1 : Int) (p2 : Nat) (p3 : Nat) (a4 : Int) (a5 : Int) (s0 : Nat) (s1 : Nat) (g : PG) (u : PM) : run M_L_law 222 [vA t, vI a1, vA p2, vA p3, vI a4, vI a5, vN, vN, vN, vN, vN, vN, vN] [vA s0, vA s1] g u =
  cI (call M_L_write [vA s1, vA s0] g u) (fun (x3 : Int) (g1 : PG) (u2 : PM) =>
    if x3 = 0 then
      some (0, vI 0, g1, u2)
    else
      bif pW p3 && pO (pK g1 p3) 10 then (
      cI (call M_TD_load [vA p3] g1 u2) (fun (x6 : Int) (g4 : PG) (u5 : PM) =>
        if x6 < 0 then
          some (0, vI 0, g4, u5)
        else
          bif pW p3 && pO (pK g4 p3) 10 then (
          cI (call M_TD_playerToMove [vA p3] g4 u5) (fun (x9 : Int) (g7 : PG) (u8 : PM) =>
            if x9 = 0 then
              run M_L_law 247 [vA t, vI a1, vA p2, vA p3, vI a4, vI a5, vN, vI 0, vN, vN, vN, vN, vN] [] g7 u8
            else
              some (0, vI 0, g7, u8)) noX) else none) noX) else none) noX := (run_bl (m := M_L_law) (T := T_L_law) (hh := []) (stop := [(2, [true, true, true, true, true, true, false, true, true, true, true, false, false]), (222, [true, true, true, true, true, true, false, false, false, false, false, false, false]), (247, [true, true, true, true, true, true, false, true, false, false, false, false, false]), (315, [true, true, true, true, true, true, false, true, true, false, false, false, false]), (359, [true, true, true, true, true, true, false, true, true, true, true, true, false]), (363, [true, true, true, true, true, true, false, true, true, true, true, true, false]), (364, [true, true, true, true, true, true, false, true, true, true, true, true, false]), (389, [true, true, true, true, true, true, false, true, true, true, true, true, true]), (423, [true, true, true, true, true, true, false, true, true, true, true, true, true]), (430, [true, true, true, true, true, true, false, true, true, true, true, true, true])]) rfl rfl rfl 124 (pc := 222) (L := [vA t, vI a1, vA p2, vA p3, vI a4, vI a5, vN, vN, vN, vN, vN, vN, vN]) (S := [vA s0, vA s1]) rfl).trans rfl
set_option maxRecDepth 100000 in
theorem R_L_law_247 (t : Nat) (a1 : Int) (p2 : Nat) (p3 : Nat) (a4 : Int) (a5 : Int) (a7 : Int) (g : PG) (u : PM) : run M_L_law 247 [vA t, vI a1, vA p2, vA p3, vI a4, vI a5, vN, vI a7, vN, vN, vN, vN, vN] [] g u =
  if a7 < 22 then
    cI (call M_L_moves [vA p3, vA p2] g u) (fun (x3 : Int) (g1 : PG) (u2 : PM) =>
      if x3 = 0 then
        some (0, vI 0, g1, u2)
      else
        if 7 = 0 then none else (
        if (rem2 a7 7) = 0 then
          cI (call M_L_isSound [vA p3] g1 u2) (fun (x6 : Int) (g4 : PG) (u5 : PM) =>
            if x6 = 0 then
              some (0, vI 0, g4, u5)
            else
              run M_L_law 247 [vA t, vI a1, vA p2, vA p3, vI a4, vI a5, vN, vI (w (a7 + 1)), vN, vN, vN, vN, vN] [] g4 u5) noX
        else
          run M_L_law 247 [vA t, vI a1, vA p2, vA p3, vI a4, vI a5, vN, vI (w (a7 + 1)), vN, vN, vN, vN, vN] [] g1 u2)) noX
  else
    cI (call M_L_isSound [vA p3] g u) (fun (x9 : Int) (g7 : PG) (u8 : PM) =>
      if x9 = 0 then
        some (0, vI 0, g7, u8)
      else
        bif pW p3 && pO (pK g7 p3) 10 then (
        cI (call M_TD_pieceCount [vA p3] g7 u8) (fun (x12 : Int) (g10 : PG) (u11 : PM) =>
          cI (call M_L_score [vA p3, vI 0] g10 u11) (fun (x15 : Int) (g13 : PG) (u14 : PM) =>
            cI (call M_L_score [vA p3, vI 1] g13 u14) (fun (x18 : Int) (g16 : PG) (u17 : PM) =>
              run M_L_law 315 [vA t, vI a1, vA p2, vA p3, vI a4, vI a5, vN, vI x12, vI (w (x15 - x18)), vN, vN, vN, vN] [] g16 u17) noX) noX) noX) else none) noX := (run_bl (m := M_L_law) (T := T_L_law) (hh := []) (stop := [(2, [true, true, true, true, true, true, false, true, true, true, true, false, false]), (222, [true, true, true, true, true, true, false, false, false, false, false, false, false]), (247, [true, true, true, true, true, true, false, true, false, false, false, false, false]), (315, [true, true, true, true, true, true, false, true, true, false, false, false, false]), (359, [true, true, true, true, true, true, false, true, true, true, true, true, false]), (363, [true, true, true, true, true, true, false, true, true, true, true, true, false]), (364, [true, true, true, true, true, true, false, true, true, true, true, true, false]), (389, [true, true, true, true, true, true, false, true, true, true, true, true, true]), (423, [true, true, true, true, true, true, false, true, true, true, true, true, true]), (430, [true, true, true, true, true, true, false, true, true, true, true, true, true])]) rfl rfl rfl 124 (pc := 247) (L := [vA t, vI a1, vA p2, vA p3, vI a4, vI a5, vN, vI a7, vN, vN, vN, vN, vN]) (S := []) rfl).trans rfl
set_option maxRecDepth 100000 in
theorem R_L_law_315 (t : Nat) (a1 : Int) (p2 : Nat) (p3 : Nat) (a4 : Int) (a5 : Int) (a7 : Int) (a8 : Int) (g : PG) (u : PM) : run M_L_law 315 [vA t, vI a1, vA p2, vA p3, vI a4, vI a5, vN, vI a7, vI a8, vN, vN, vN, vN] [] g u =
  bif pW p3 && pO (pK g p3) 10 then (
  cI (call M_TD_undoableChanges [vA p3] g u) (fun (x3 : Int) (g1 : PG) (u2 : PM) =>
    bif pW p3 && pO (pK g1 p3) 10 then (
    cI (call M_TD_playerToMove [vA p3] g1 u2) (fun (x6 : Int) (g4 : PG) (u5 : PM) =>
      if x6 = (-1) then
        run M_L_law 2 [vA t, vI (w (a1 + 1)), vA p2, vA p3, vI a4, vI a5, vN, vI a7, vI a8, vI x3, vI x6, vN, vN] [] g4 u5
      else
        cI (call M_L_moves [vA p3, vA p2] g4 u5) (fun (x9 : Int) (g7 : PG) (u8 : PM) =>
          if x9 = 0 then
            some (0, vI 0, g7, u8)
          else
            bif pW p3 && pO (pK g7 p3) 10 then (
            cI (call M_TD_playerToMove [vA p3] g7 u8) (fun (x12 : Int) (g10 : PG) (u11 : PM) =>
              if x12 = x6 then
                run M_L_law 363 [vA t, vI a1, vA p2, vA p3, vI a4, vI a5, vN, vI a7, vI a8, vI x3, vI x6, vI x3, vN] [] g10 u11
              else
                run M_L_law 359 [vA t, vI a1, vA p2, vA p3, vI a4, vI a5, vN, vI a7, vI a8, vI x3, vI x6, vI x3, vN] [] g10 u11) noX) else none) noX) noX) else none) noX) else none := (run_bl (m := M_L_law) (T := T_L_law) (hh := []) (stop := [(2, [true, true, true, true, true, true, false, true, true, true, true, false, false]), (222, [true, true, true, true, true, true, false, false, false, false, false, false, false]), (247, [true, true, true, true, true, true, false, true, false, false, false, false, false]), (315, [true, true, true, true, true, true, false, true, true, false, false, false, false]), (359, [true, true, true, true, true, true, false, true, true, true, true, true, false]), (363, [true, true, true, true, true, true, false, true, true, true, true, true, false]), (364, [true, true, true, true, true, true, false, true, true, true, true, true, false]), (389, [true, true, true, true, true, true, false, true, true, true, true, true, true]), (423, [true, true, true, true, true, true, false, true, true, true, true, true, true]), (430, [true, true, true, true, true, true, false, true, true, true, true, true, true])]) rfl rfl rfl 124 (pc := 315) (L := [vA t, vI a1, vA p2, vA p3, vI a4, vI a5, vN, vI a7, vI a8, vN, vN, vN, vN]) (S := []) rfl).trans rfl
set_option maxRecDepth 100000 in
theorem R_L_law_359 (t : Nat) (a1 : Int) (p2 : Nat) (p3 : Nat) (a4 : Int) (a5 : Int) (a7 : Int) (a8 : Int) (a9 : Int) (a10 : Int) (a11 : Int) (g : PG) (u : PM) : run M_L_law 359 [vA t, vI a1, vA p2, vA p3, vI a4, vI a5, vN, vI a7, vI a8, vI a9, vI a10, vI a11, vN] [] g u =
  run M_L_law 364 [vA t, vI a1, vA p2, vA p3, vI a4, vI a5, vN, vI a7, vI a8, vI a9, vI a10, vI a11, vN] [vI 1] g u := (run_bl (m := M_L_law) (T := T_L_law) (hh := []) (stop := [(2, [true, true, true, true, true, true, false, true, true, true, true, false, false]), (222, [true, true, true, true, true, true, false, false, false, false, false, false, false]), (247, [true, true, true, true, true, true, false, true, false, false, false, false, false]), (315, [true, true, true, true, true, true, false, true, true, false, false, false, false]), (359, [true, true, true, true, true, true, false, true, true, true, true, true, false]), (363, [true, true, true, true, true, true, false, true, true, true, true, true, false]), (364, [true, true, true, true, true, true, false, true, true, true, true, true, false]), (389, [true, true, true, true, true, true, false, true, true, true, true, true, true]), (423, [true, true, true, true, true, true, false, true, true, true, true, true, true]), (430, [true, true, true, true, true, true, false, true, true, true, true, true, true])]) rfl rfl rfl 124 (pc := 359) (L := [vA t, vI a1, vA p2, vA p3, vI a4, vI a5, vN, vI a7, vI a8, vI a9, vI a10, vI a11, vN]) (S := []) rfl).trans rfl
set_option maxRecDepth 100000 in
theorem R_L_law_363 (t : Nat) (a1 : Int) (p2 : Nat) (p3 : Nat) (a4 : Int) (a5 : Int) (a7 : Int) (a8 : Int) (a9 : Int) (a10 : Int) (a11 : Int) (g : PG) (u : PM) : run M_L_law 363 [vA t, vI a1, vA p2, vA p3, vI a4, vI a5, vN, vI a7, vI a8, vI a9, vI a10, vI a11, vN] [] g u =
  run M_L_law 364 [vA t, vI a1, vA p2, vA p3, vI a4, vI a5, vN, vI a7, vI a8, vI a9, vI a10, vI a11, vN] [vI 0] g u := (run_bl (m := M_L_law) (T := T_L_law) (hh := []) (stop := [(2, [true, true, true, true, true, true, false, true, true, true, true, false, false]), (222, [true, true, true, true, true, true, false, false, false, false, false, false, false]), (247, [true, true, true, true, true, true, false, true, false, false, false, false, false]), (315, [true, true, true, true, true, true, false, true, true, false, false, false, false]), (359, [true, true, true, true, true, true, false, true, true, true, true, true, false]), (363, [true, true, true, true, true, true, false, true, true, true, true, true, false]), (364, [true, true, true, true, true, true, false, true, true, true, true, true, false]), (389, [true, true, true, true, true, true, false, true, true, true, true, true, true]), (423, [true, true, true, true, true, true, false, true, true, true, true, true, true]), (430, [true, true, true, true, true, true, false, true, true, true, true, true, true])]) rfl rfl rfl 124 (pc := 363) (L := [vA t, vI a1, vA p2, vA p3, vI a4, vI a5, vN, vI a7, vI a8, vI a9, vI a10, vI a11, vN]) (S := []) rfl).trans rfl
set_option maxRecDepth 100000 in
theorem R_L_law_364 (t : Nat) (a1 : Int) (p2 : Nat) (p3 : Nat) (a4 : Int) (a5 : Int) (a7 : Int) (a8 : Int) (a9 : Int) (a10 : Int) (a11 : Int) (s0 : Int) (g : PG) (u : PM) : run M_L_law 364 [vA t, vI a1, vA p2, vA p3, vI a4, vI a5, vN, vI a7, vI a8, vI a9, vI a10, vI a11, vN] [vI s0] g u =
  if s0 = 0 then
    run M_L_law 389 [vA t, vI a1, vA p2, vA p3, vI a4, vI a5, vN, vI a7, vI a8, vI a9, vI a10, vI a11, vI s0] [] g u
  else
    cI (call M_L_undo [vA p3] g u) (fun (x3 : Int) (g1 : PG) (u2 : PM) =>
      if x3 = (w ((min2 8 (w (a11 + 1))) - 1)) then
        run M_L_law 389 [vA t, vI a1, vA p2, vA p3, vI a4, vI a5, vN, vI a7, vI a8, vI a9, vI a10, vI a11, vI s0] [] g1 u2
      else
        run M_L_law 430 [vA t, vI a1, vA p2, vA p3, vI a4, vI a5, vN, vI a7, vI a8, vI a9, vI a10, vI a11, vI s0] [] g1 u2) noX := (run_bl (m := M_L_law) (T := T_L_law) (hh := []) (stop := [(2, [true, true, true, true, true, true, false, true, true, true, true, false, false]), (222, [true, true, true, true, true, true, false, false, false, false, false, false, false]), (247, [true, true, true, true, true, true, false, true, false, false, false, false, false]), (315, [true, true, true, true, true, true, false, true, true, false, false, false, false]), (359, [true, true, true, true, true, true, false, true, true, true, true, true, false]), (363, [true, true, true, true, true, true, false, true, true, true, true, true, false]), (364, [true, true, true, true, true, true, false, true, true, true, true, true, false]), (389, [true, true, true, true, true, true, false, true, true, true, true, true, true]), (423, [true, true, true, true, true, true, false, true, true, true, true, true, true]), (430, [true, true, true, true, true, true, false, true, true, true, true, true, true])]) rfl rfl rfl 124 (pc := 364) (L := [vA t, vI a1, vA p2, vA p3, vI a4, vI a5, vN, vI a7, vI a8, vI a9, vI a10, vI a11, vN]) (S := [vI s0]) rfl).trans rfl
set_option maxRecDepth 100000 in
theorem R_L_law_389 (t : Nat) (a1 : Int) (p2 : Nat) (p3 : Nat) (a4 : Int) (a5 : Int) (a7 : Int) (a8 : Int) (a9 : Int) (a10 : Int) (a11 : Int) (a12 : Int) (g : PG) (u : PM) : run M_L_law 389 [vA t, vI a1, vA p2, vA p3, vI a4, vI a5, vN, vI a7, vI a8, vI a9, vI a10, vI a11, vI a12] [] g u =
  bif pW p3 && pO (pK g p3) 10 then (
  cI (call M_TD_pieceCount [vA p3] g u) (fun (x3 : Int) (g1 : PG) (u2 : PM) =>
    if x3 = a7 then
      cI (call M_L_score [vA p3, vI 0] g1 u2) (fun (x6 : Int) (g4 : PG) (u5 : PM) =>
        cI (call M_L_score [vA p3, vI 1] g4 u5) (fun (x9 : Int) (g7 : PG) (u8 : PM) =>
          if (w (x6 - x9)) = a8 then
            bif pW p3 && pO (pK g7 p3) 10 then (
            cI (call M_TD_playerToMove [vA p3] g7 u8) (fun (x12 : Int) (g10 : PG) (u11 : PM) =>
              if x12 = a10 then
                run M_L_law 423 [vA t, vI a1, vA p2, vA p3, vI a4, vI a5, vN, vI a7, vI a8, vI a9, vI a10, vI a11, vI a12] [] g10 u11
              else
                run M_L_law 430 [vA t, vI a1, vA p2, vA p3, vI a4, vI a5, vN, vI a7, vI a8, vI a9, vI a10, vI a11, vI a12] [] g10 u11) noX) else none
          else
            run M_L_law 430 [vA t, vI a1, vA p2, vA p3, vI a4, vI a5, vN, vI a7, vI a8, vI a9, vI a10, vI a11, vI a12] [] g7 u8) noX) noX
    else
      run M_L_law 430 [vA t, vI a1, vA p2, vA p3, vI a4, vI a5, vN, vI a7, vI a8, vI a9, vI a10, vI a11, vI a12] [] g1 u2) noX) else none := (run_bl (m := M_L_law) (T := T_L_law) (hh := []) (stop := [(2, [true, true, true, true, true, true, false, true, true, true, true, false, false]), (222, [true, true, true, true, true, true, false, false, false, false, false, false, false]), (247, [true, true, true, true, true, true, false, true, false, false, false, false, false]), (315, [true, true, true, true, true, true, false, true, true, false, false, false, false]), (359, [true, true, true, true, true, true, false, true, true, true, true, true, false]), (363, [true, true, true, true, true, true, false, true, true, true, true, true, false]), (364, [true, true, true, true, true, true, false, true, true, true, true, true, false]), (389, [true, true, true, true, true, true, false, true, true, true, true, true, true]), (423, [true, true, true, true, true, true, false, true, true, true, true, true, true]), (430, [true, true, true, true, true, true, false, true, true, true, true, true, true])]) rfl rfl rfl 124 (pc := 389) (L := [vA t, vI a1, vA p2, vA p3, vI a4, vI a5, vN, vI a7, vI a8, vI a9, vI a10, vI a11, vI a12]) (S := []) rfl).trans rfl
set_option maxRecDepth 100000 in
theorem R_L_law_423 (t : Nat) (a1 : Int) (p2 : Nat) (p3 : Nat) (a4 : Int) (a5 : Int) (a7 : Int) (a8 : Int) (a9 : Int) (a10 : Int) (a11 : Int) (a12 : Int) (g : PG) (u : PM) : run M_L_law 423 [vA t, vI a1, vA p2, vA p3, vI a4, vI a5, vN, vI a7, vI a8, vI a9, vI a10, vI a11, vI a12] [] g u =
  cI (call M_L_isSound [vA p3] g u) (fun (x3 : Int) (g1 : PG) (u2 : PM) =>
    if x3 = 0 then
      run M_L_law 430 [vA t, vI a1, vA p2, vA p3, vI a4, vI a5, vN, vI a7, vI a8, vI a9, vI a10, vI a11, vI a12] [] g1 u2
    else
      run M_L_law 2 [vA t, vI (w (a1 + 1)), vA p2, vA p3, vI a4, vI a5, vN, vI a7, vI a8, vI a9, vI a10, vN, vN] [] g1 u2) noX := (run_bl (m := M_L_law) (T := T_L_law) (hh := []) (stop := [(2, [true, true, true, true, true, true, false, true, true, true, true, false, false]), (222, [true, true, true, true, true, true, false, false, false, false, false, false, false]), (247, [true, true, true, true, true, true, false, true, false, false, false, false, false]), (315, [true, true, true, true, true, true, false, true, true, false, false, false, false]), (359, [true, true, true, true, true, true, false, true, true, true, true, true, false]), (363, [true, true, true, true, true, true, false, true, true, true, true, true, false]), (364, [true, true, true, true, true, true, false, true, true, true, true, true, false]), (389, [true, true, true, true, true, true, false, true, true, true, true, true, true]), (423, [true, true, true, true, true, true, false, true, true, true, true, true, true]), (430, [true, true, true, true, true, true, false, true, true, true, true, true, true])]) rfl rfl rfl 124 (pc := 423) (L := [vA t, vI a1, vA p2, vA p3, vI a4, vI a5, vN, vI a7, vI a8, vI a9, vI a10, vI a11, vI a12]) (S := []) rfl).trans rfl
set_option maxRecDepth 100000 in
theorem R_L_law_430 (t : Nat) (a1 : Int) (p2 : Nat) (p3 : Nat) (a4 : Int) (a5 : Int) (a7 : Int) (a8 : Int) (a9 : Int) (a10 : Int) (a11 : Int) (a12 : Int) (g : PG) (u : PM) : run M_L_law 430 [vA t, vI a1, vA p2, vA p3, vI a4, vI a5, vN, vI a7, vI a8, vI a9, vI a10, vI a11, vI a12] [] g u =
  some (0, vI 0, g, u) := (run_bl (m := M_L_law) (T := T_L_law) (hh := []) (stop := [(2, [true, true, true, true, true, true, false, true, true, true, true, false, false]), (222, [true, true, true, true, true, true, false, false, false, false, false, false, false]), (247, [true, true, true, true, true, true, false, true, false, false, false, false, false]), (315, [true, true, true, true, true, true, false, true, true, false, false, false, false]), (359, [true, true, true, true, true, true, false, true, true, true, true, true, false]), (363, [true, true, true, true, true, true, false, true, true, true, true, true, false]), (364, [true, true, true, true, true, true, false, true, true, true, true, true, false]), (389, [true, true, true, true, true, true, false, true, true, true, true, true, true]), (423, [true, true, true, true, true, true, false, true, true, true, true, true, true]), (430, [true, true, true, true, true, true, false, true, true, true, true, true, true])]) rfl rfl rfl 124 (pc := 430) (L := [vA t, vI a1, vA p2, vA p3, vI a4, vI a5, vN, vI a7, vI a8, vI a9, vI a10, vI a11, vI a12]) (S := []) rfl).trans rfl
