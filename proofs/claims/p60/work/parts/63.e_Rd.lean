/-! ===== equations of blocks, by wip/p60/vgen2.py (Rd)_ ===== -/
set_option maxRecDepth 100000 in
theorem C_Rd_hasRoom (t : Nat) (g : PG) (u : PM) : call M_Rd_hasRoom [vA t] g u =
  bif pW t && pO (pK g t) 6 then (
  if 580 < (u t 0) then
    some (0, vI 0, g, u)
  else
    some (0, vI 1, g, u)) else none := (run_bl (m := M_Rd_hasRoom) (T := T_Rd_hasRoom) (hh := []) (stop := []) rfl rfl rfl 13 (pc := 0) (L := [vA t]) (S := []) rfl).trans rfl
set_option maxRecDepth 100000 in
theorem C_Rd_writeText (t : Nat) (p1 : Nat) (g : PG) (u : PM) : call M_Rd_writeText [vA t, vA p1] g u =
  run M_Rd_writeText 2 [vA t, vA p1, vI 0] [] g u := (run_bl (m := M_Rd_writeText) (T := T_Rd_writeText) (hh := []) (stop := [(2, [true, true, true])]) rfl rfl rfl 19 (pc := 0) (L := [vA t, vA p1, vN]) (S := []) rfl).trans rfl
set_option maxRecDepth 100000 in
theorem R_Rd_writeText_2 (t : Nat) (p1 : Nat) (a2 : Int) (g : PG) (u : PM) : run M_Rd_writeText 2 [vA t, vA p1, vI a2] [] g u =
  pTx (gStr p1) (fun (tx1 : List Nat) =>
  if a2 < ((List.length tx1 : Int)) then
    pTx (gStr p1) (fun (tx2 : List Nat) =>
    bif decide (0 ≤ a2) && decide (a2 < (List.length tx2 : Int)) then (
    bif pW t && pO (pK g t) 6 then (
    cV (call M_Rd_writeByte [vA t, vI (((List.getD tx2 (Int.toNat a2) 0 : Nat) : Int))] g u) (fun (g3 : PG) (u4 : PM) =>
      run M_Rd_writeText 2 [vA t, vA p1, vI (w (a2 + 1))] [] g3 u4) noX) else none) else none)
  else
    some (0, vN, g, u)) := (run_bl (m := M_Rd_writeText) (T := T_Rd_writeText) (hh := []) (stop := [(2, [true, true, true])]) rfl rfl rfl 19 (pc := 2) (L := [vA t, vA p1, vI a2]) (S := []) rfl).trans rfl
set_option maxRecDepth 100000 in
theorem C_Rd_writeFour (t : Nat) (a1 : Int) (g : PG) (u : PM) : call M_Rd_writeFour [vA t, vI a1] g u =
  bif pW t && pO (pK g t) 6 then (
  cV (call M_Rd_writeByte [vA t, vI (ushr2 a1 24)] g u) (fun (g1 : PG) (u2 : PM) =>
    bif pW t && pO (pK g1 t) 6 then (
    cV (call M_Rd_writeByte [vA t, vI (ushr2 a1 16)] g1 u2) (fun (g3 : PG) (u4 : PM) =>
      bif pW t && pO (pK g3 t) 6 then (
      cV (call M_Rd_writeByte [vA t, vI (ushr2 a1 8)] g3 u4) (fun (g5 : PG) (u6 : PM) =>
        bif pW t && pO (pK g5 t) 6 then (
        cV (call M_Rd_writeByte [vA t, vI a1] g5 u6) (fun (g7 : PG) (u8 : PM) =>
          some (0, vN, g7, u8)) noX) else none) noX) else none) noX) else none) noX) else none := (run_bl (m := M_Rd_writeFour) (T := T_Rd_writeFour) (hh := []) (stop := []) rfl rfl rfl 24 (pc := 0) (L := [vA t, vI a1]) (S := []) rfl).trans rfl
set_option maxRecDepth 100000 in
theorem C_Rd_writeByte (t : Nat) (a1 : Int) (g : PG) (u : PM) : call M_Rd_writeByte [vA t, vI a1] g u =
  bif pW t && pO (pK g t) 6 then (
  if (u t 0) < 0 then
    some (0, vN, g, u)
  else
    bif pW t && pO (pK g t) 6 then (
    if (u t 0) < 600 then
      bif pW t && pO (pK g t) 6 then (
      bif pW t && pO (pK g t) 6 then (
      bif pW (t + 24) && pR (pK g (t + 24)) 0 (u t 0) then (
      bif pW t && pO (pK g t) 6 then (
      bif pW t && pO (pK g t) 6 then (
      some (0, vN, g, up (up u (t + 24) (u t 0) (and2 a1 255)) t 0 (w (((up u (t + 24) (u t 0) (and2 a1 255)) t 0) + 1)))) else none) else none) else none) else none) else none
    else
      some (0, vN, g, u)) else none) else none := (run_bl (m := M_Rd_writeByte) (T := T_Rd_writeByte) (hh := []) (stop := []) rfl rfl rfl 27 (pc := 0) (L := [vA t, vI a1]) (S := []) rfl).trans rfl
set_option maxRecDepth 100000 in
theorem C_Rd_startSetup (t : Nat) (g : PG) (u : PM) : call M_Rd_startSetup [vA t] g u =
  bif pW t && pO (pK g t) 6 then (
  bif pW t && pO (pK g t) 6 then (
  bif pW t && pO (pK g t) 6 then (
  bif pW t && pO (pK g t) 6 then (
  bif pW t && pO (pK g t) 6 then (
  cV (call M_Rd_nextToken [vA t] g (up (up (up (up u t 3 0) t 1 0) t 2 (-1)) t 7 0)) (fun (g1 : PG) (u2 : PM) =>
    some (0, vN, g1, u2)) noX) else none) else none) else none) else none) else none := (run_bl (m := M_Rd_startSetup) (T := T_Rd_startSetup) (hh := []) (stop := []) rfl rfl rfl 20 (pc := 0) (L := [vA t]) (S := []) rfl).trans rfl
set_option maxRecDepth 100000 in
theorem C_Rd_readSetup (t : Nat) (g : PG) (u : PM) : call M_Rd_readSetup [vA t] g u =
  bif pW t && pO (pK g t) 6 then (
  cI (call M_Rd_readSize [vA t] g u) (fun (x3 : Int) (g1 : PG) (u2 : PM) =>
    if x3 = 0 then
      some (0, vI 0, g1, u2)
    else
      bif pW t && pO (pK g1 t) 6 then (
      cI (call M_Rd_readBlocks [vA t] g1 u2) (fun (x6 : Int) (g4 : PG) (u5 : PM) =>
        if x6 = 0 then
          some (0, vI 0, g4, u5)
        else
          bif pW t && pO (pK g4 t) 6 then (
          cI (call M_Rd_readFreeStraps [vA t] g4 u5) (fun (x9 : Int) (g7 : PG) (u8 : PM) =>
            if x9 = 0 then
              some (0, vI 0, g7, u8)
            else
              bif pW t && pO (pK g7 t) 6 then (
              cI (call M_Rd_readPlayer [vA t, vI 0] g7 u8) (fun (x12 : Int) (g10 : PG) (u11 : PM) =>
                if x12 = 0 then
                  some (0, vI 0, g10, u11)
                else
                  bif pW t && pO (pK g10 t) 6 then (
                  cI (call M_Rd_readPlayer [vA t, vI 1] g10 u11) (fun (x15 : Int) (g13 : PG) (u14 : PM) =>
                    if x15 = 0 then
                      some (0, vI 0, g13, u14)
                    else
                      some (0, vI 1, g13, u14)) noX) else none) noX) else none) noX) else none) noX) else none) noX) else none := (run_bl (m := M_Rd_readSetup) (T := T_Rd_readSetup) (hh := []) (stop := []) rfl rfl rfl 26 (pc := 0) (L := [vA t]) (S := []) rfl).trans rfl
set_option maxRecDepth 100000 in
theorem C_Rd_readCommands (t : Nat) (g : PG) (u : PM) : call M_Rd_readCommands [vA t] g u =
  run M_Rd_readCommands 2 [vA t, vI 0, vN] [] g u := (run_bl (m := M_Rd_readCommands) (T := T_Rd_readCommands) (hh := []) (stop := [(2, [true, true, false]), (87, [true, true, false]), (109, [true, true, true])]) rfl rfl rfl 75 (pc := 0) (L := [vA t, vN, vN]) (S := []) rfl).trans rfl
set_option maxRecDepth 100000 in
theorem R_Rd_readCommands_2 (t : Nat) (a1 : Int) (g : PG) (u : PM) : run M_Rd_readCommands 2 [vA t, vI a1, vN] [] g u =
  if 600 < a1 then
    some (0, vI 1, g, u)
  else
    bif pW t && pO (pK g t) 6 then (
    if (u t 8) = 0 then
      some (0, vI 1, g, u)
    else
      bif pW t && pO (pK g t) 6 then (
      cI (call M_Rd_wordIs [vA t, vA 100023] g u) (fun (x3 : Int) (g1 : PG) (u2 : PM) =>
        if x3 = 0 then
          bif pW t && pO (pK g1 t) 6 then (
          cI (call M_Rd_wordIs [vA t, vA 100019] g1 u2) (fun (x6 : Int) (g4 : PG) (u5 : PM) =>
            if x6 = 0 then
              bif pW t && pO (pK g4 t) 6 then (
              cI (call M_Rd_wordIs [vA t, vA 100029] g4 u5) (fun (x9 : Int) (g7 : PG) (u8 : PM) =>
                if x9 = 0 then
                  bif pW t && pO (pK g7 t) 6 then (
                  cI (call M_Rd_fail [vA t, vI 1] g7 u8) (fun (x12 : Int) (g10 : PG) (u11 : PM) =>
                    run M_Rd_readCommands 109 [vA t, vI a1, vI x12] [] g10 u11) noX) else none
                else
                  bif pW t && pO (pK g7 t) 6 then (
                  bif pW t && pO (pK g7 t) 6 then (
                  bif pW (t + 1) && pO (pK g7 (t + 1)) 8 then (
                  cI (call M_St_allowsPass [vA (t + 1), vA (t + 18)] g7 u8) (fun (x15 : Int) (g13 : PG) (u14 : PM) =>
                    if x15 = 0 then
                      bif pW t && pO (pK g13 t) 6 then (
                      cI (call M_Rd_fail [vA t, vI 6] g13 u14) (fun (x18 : Int) (g16 : PG) (u17 : PM) =>
                        if x18 = 0 then
                          run M_Rd_readCommands 87 [vA t, vI a1, vN] [vI 0] g16 u17
                        else
                          run M_Rd_readCommands 87 [vA t, vI a1, vN] [vI 1] g16 u17) noX) else none
                    else
                      run M_Rd_readCommands 87 [vA t, vI a1, vN] [vI 1] g13 u14) noX) else none) else none) else none) noX) else none
            else
              bif pW t && pO (pK g4 t) 6 then (
              cI (call M_Rd_readStrap [vA t] g4 u5) (fun (x21 : Int) (g19 : PG) (u20 : PM) =>
                run M_Rd_readCommands 109 [vA t, vI a1, vI x21] [] g19 u20) noX) else none) noX) else none
        else
          bif pW t && pO (pK g1 t) 6 then (
          cI (call M_Rd_readPiece [vA t] g1 u2) (fun (x24 : Int) (g22 : PG) (u23 : PM) =>
            run M_Rd_readCommands 109 [vA t, vI a1, vI x24] [] g22 u23) noX) else none) noX) else none) else none := (run_bl (m := M_Rd_readCommands) (T := T_Rd_readCommands) (hh := []) (stop := [(2, [true, true, false]), (87, [true, true, false]), (109, [true, true, true])]) rfl rfl rfl 75 (pc := 2) (L := [vA t, vI a1, vN]) (S := []) rfl).trans rfl
set_option maxRecDepth 100000 in
theorem R_Rd_readCommands_87 (t : Nat) (a1 : Int) (s0 : Int) (g : PG) (u : PM) : run M_Rd_readCommands 87 [vA t, vI a1, vN] [vI s0] g u =
  if s0 = 0 then
    run M_Rd_readCommands 109 [vA t, vI a1, vI s0] [] g u
  else
    bif pW t && pO (pK g t) 6 then (
    bif pW (t + 1) && pO (pK g (t + 1)) 8 then (
    cI (call M_St_skipTurn [vA (t + 1)] g u) (fun (x3 : Int) (g1 : PG) (u2 : PM) =>
      run M_Rd_readCommands 109 [vA t, vI a1, vI s0] [] g1 u2) noX) else none) else none := (run_bl (m := M_Rd_readCommands) (T := T_Rd_readCommands) (hh := []) (stop := [(2, [true, true, false]), (87, [true, true, false]), (109, [true, true, true])]) rfl rfl rfl 75 (pc := 87) (L := [vA t, vI a1, vN]) (S := [vI s0]) rfl).trans rfl
set_option maxRecDepth 100000 in
theorem R_Rd_readCommands_109 (t : Nat) (a1 : Int) (a2 : Int) (g : PG) (u : PM) : run M_Rd_readCommands 109 [vA t, vI a1, vI a2] [] g u =
  if a2 = 0 then
    some (0, vI 0, g, u)
  else
    bif pW t && pO (pK g t) 6 then (
    cI (call M_Rd_endStatement [vA t] g u) (fun (x3 : Int) (g1 : PG) (u2 : PM) =>
      if x3 = 0 then
        some (0, vI 0, g1, u2)
      else
        bif pW t && pO (pK g1 t) 6 then (
        bif pW t && pO (pK g1 t) 6 then (
        run M_Rd_readCommands 2 [vA t, vI (w (a1 + 1)), vN] [] g1 (up u2 t 3 (w ((u2 t 3) + 1)))) else none) else none) noX) else none := (run_bl (m := M_Rd_readCommands) (T := T_Rd_readCommands) (hh := []) (stop := [(2, [true, true, false]), (87, [true, true, false]), (109, [true, true, true])]) rfl rfl rfl 75 (pc := 109) (L := [vA t, vI a1, vI a2]) (S := []) rfl).trans rfl
set_option maxRecDepth 100000 in
theorem C_Rd_readSize (t : Nat) (g : PG) (u : PM) : call M_Rd_readSize [vA t] g u =
  bif pW t && pO (pK g t) 6 then (
  cI (call M_Rd_wordIs [vA t, vA 100017] g u) (fun (x3 : Int) (g1 : PG) (u2 : PM) =>
    if x3 = 0 then
      bif pW t && pO (pK g1 t) 6 then (
      cI (call M_Rd_fail [vA t, vI 1] g1 u2) (fun (x6 : Int) (g4 : PG) (u5 : PM) =>
        bif b01 x6 then (
        some (0, vI x6, g4, u5)) else none) noX) else none
    else
      bif pW t && pO (pK g1 t) 6 then (
      cI (call M_Rd_expectNumber [vA t, vI 3, vI 8] g1 u2) (fun (x9 : Int) (g7 : PG) (u8 : PM) =>
        if x9 = (-1) then
          some (0, vI 0, g7, u8)
        else
          bif pW t && pO (pK g7 t) 6 then (
          cI (call M_Rd_expectNumber [vA t, vI 3, vI 8] g7 u8) (fun (x12 : Int) (g10 : PG) (u11 : PM) =>
            if x12 = (-1) then
              some (0, vI 0, g10, u11)
            else
              bif pW t && pO (pK g10 t) 6 then (
              bif pW (t + 1) && pO (pK g10 (t + 1)) 8 then (
              cV (call M_St_clear [vA (t + 1), vI x9, vI x12] g10 u11) (fun (g13 : PG) (u14 : PM) =>
                bif pW t && pO (pK g13 t) 6 then (
                cI (call M_Rd_endStatement [vA t] g13 u14) (fun (x17 : Int) (g15 : PG) (u16 : PM) =>
                  bif b01 x17 then (
                  some (0, vI x17, g15, u16)) else none) noX) else none) noX) else none) else none) noX) else none) noX) else none) noX) else none := (run_bl (m := M_Rd_readSize) (T := T_Rd_readSize) (hh := []) (stop := []) rfl rfl rfl 41 (pc := 0) (L := [vA t, vN, vN]) (S := []) rfl).trans rfl
set_option maxRecDepth 100000 in
theorem C_Rd_readBlocks (t : Nat) (g : PG) (u : PM) : call M_Rd_readBlocks [vA t] g u =
  run M_Rd_readBlocks 2 [vA t, vI 0, vN, vN] [] g u := (run_bl (m := M_Rd_readBlocks) (T := T_Rd_readBlocks) (hh := []) (stop := [(2, [true, true, false, false])]) rfl rfl rfl 72 (pc := 0) (L := [vA t, vN, vN, vN]) (S := []) rfl).trans rfl
set_option maxRecDepth 100000 in
theorem R_Rd_readBlocks_2 (t : Nat) (a1 : Int) (g : PG) (u : PM) : run M_Rd_readBlocks 2 [vA t, vI a1, vN, vN] [] g u =
  if 600 < a1 then
    some (0, vI 1, g, u)
  else
    bif pW t && pO (pK g t) 6 then (
    cI (call M_Rd_wordIs [vA t, vA 100018] g u) (fun (x3 : Int) (g1 : PG) (u2 : PM) =>
      if x3 = 0 then
        some (0, vI 1, g1, u2)
      else
        bif pW t && pO (pK g1 t) 6 then (
        bif pW (t + 1) && pO (pK g1 (t + 1)) 8 then (
        bif pW ((t + 1) + 1) && pO (pK g1 ((t + 1) + 1)) 9 then (
        bif pW t && pO (pK g1 t) 6 then (
        cI (call M_Rd_expectNumber [vA t, vI 0, vI (w ((u2 ((t + 1) + 1) 0) - 1))] g1 u2) (fun (x6 : Int) (g4 : PG) (u5 : PM) =>
          if x6 = (-1) then
            some (0, vI 0, g4, u5)
          else
            bif pW t && pO (pK g4 t) 6 then (
            bif pW (t + 1) && pO (pK g4 (t + 1)) 8 then (
            bif pW ((t + 1) + 1) && pO (pK g4 ((t + 1) + 1)) 9 then (
            bif pW t && pO (pK g4 t) 6 then (
            cI (call M_Rd_expectNumber [vA t, vI 0, vI (w ((u5 ((t + 1) + 1) 1) - 1))] g4 u5) (fun (x9 : Int) (g7 : PG) (u8 : PM) =>
              if x9 = (-1) then
                some (0, vI 0, g7, u8)
              else
                bif pW t && pO (pK g7 t) 6 then (
                bif pW (t + 1) && pO (pK g7 (t + 1)) 8 then (
                bif pW ((t + 1) + 1) && pO (pK g7 ((t + 1) + 1)) 9 then (
                cI (call M_Tk_cellAt [vA ((t + 1) + 1), vI x6, vI x9] g7 u8) (fun (x12 : Int) (g10 : PG) (u11 : PM) =>
                  if x12 = (-2) then
                    bif pW t && pO (pK g10 t) 6 then (
                    cI (call M_Rd_fail [vA t, vI 4] g10 u11) (fun (x15 : Int) (g13 : PG) (u14 : PM) =>
                      bif b01 x15 then (
                      some (0, vI x15, g13, u14)) else none) noX) else none
                  else
                    bif pW t && pO (pK g10 t) 6 then (
                    bif pW (t + 1) && pO (pK g10 (t + 1)) 8 then (
                    bif pW ((t + 1) + 1) && pO (pK g10 ((t + 1) + 1)) 9 then (
                    cV (call M_Tk_setCell [vA ((t + 1) + 1), vI x6, vI x9, vI (-2)] g10 u11) (fun (g16 : PG) (u17 : PM) =>
                      bif pW t && pO (pK g16 t) 6 then (
                      cI (call M_Rd_endStatement [vA t] g16 u17) (fun (x20 : Int) (g18 : PG) (u19 : PM) =>
                        if x20 = 0 then
                          some (0, vI 0, g18, u19)
                        else
                          run M_Rd_readBlocks 2 [vA t, vI (w (a1 + 1)), vN, vN] [] g18 u19) noX) else none) noX) else none) else none) else none) noX) else none) else none) else none) noX) else none) else none) else none) else none) noX) else none) else none) else none) else none) noX) else none := (run_bl (m := M_Rd_readBlocks) (T := T_Rd_readBlocks) (hh := []) (stop := [(2, [true, true, false, false])]) rfl rfl rfl 72 (pc := 2) (L := [vA t, vI a1, vN, vN]) (S := []) rfl).trans rfl
set_option maxRecDepth 100000 in
theorem C_Rd_readFreeStraps (t : Nat) (g : PG) (u : PM) : call M_Rd_readFreeStraps [vA t] g u =
  run M_Rd_readFreeStraps 2 [vA t, vI 0] [] g u := (run_bl (m := M_Rd_readFreeStraps) (T := T_Rd_readFreeStraps) (hh := []) (stop := [(2, [true, true])]) rfl rfl rfl 68 (pc := 0) (L := [vA t, vN]) (S := []) rfl).trans rfl
set_option maxRecDepth 100000 in
theorem R_Rd_readFreeStraps_2 (t : Nat) (a1 : Int) (g : PG) (u : PM) : run M_Rd_readFreeStraps 2 [vA t, vI a1] [] g u =
  if 600 < a1 then
    some (0, vI 1, g, u)
  else
    bif pW t && pO (pK g t) 6 then (
    cI (call M_Rd_wordIs [vA t, vA 100019] g u) (fun (x3 : Int) (g1 : PG) (u2 : PM) =>
      if x3 = 0 then
        some (0, vI 1, g1, u2)
      else
        bif pW t && pO (pK g1 t) 6 then (
        cI (call M_Rd_readEdge [vA t] g1 u2) (fun (x6 : Int) (g4 : PG) (u5 : PM) =>
          if x6 = 0 then
            some (0, vI 0, g4, u5)
          else
            bif pW t && pO (pK g4 t) 6 then (
            bif pW (t + 1) && pO (pK g4 (t + 1)) 8 then (
            bif pW t && pO (pK g4 t) 6 then (
            bif pW t && pO (pK g4 t) 6 then (
            bif pW t && pO (pK g4 t) 6 then (
            bif pW ((t + 1) + 1) && pO (pK g4 ((t + 1) + 1)) 9 then (
            cI (call M_Tk_strapAt [vA ((t + 1) + 1), vI (u5 t 11), vI (u5 t 12), vI (u5 t 13)] g4 u5) (fun (x9 : Int) (g7 : PG) (u8 : PM) =>
              if x9 = 0 then
                bif pW t && pO (pK g7 t) 6 then (
                bif pW (t + 1) && pO (pK g7 (t + 1)) 8 then (
                bif pW t && pO (pK g7 t) 6 then (
                bif pW t && pO (pK g7 t) 6 then (
                bif pW t && pO (pK g7 t) 6 then (
                bif pW ((t + 1) + 1) && pO (pK g7 ((t + 1) + 1)) 9 then (
                cI (call M_Tk_isEdgeBlocked [vA ((t + 1) + 1), vI (u8 t 11), vI (u8 t 12), vI (u8 t 13)] g7 u8) (fun (x12 : Int) (g10 : PG) (u11 : PM) =>
                  if x12 = 0 then
                    bif pW t && pO (pK g10 t) 6 then (
                    bif pW (t + 1) && pO (pK g10 (t + 1)) 8 then (
                    bif pW t && pO (pK g10 t) 6 then (
                    bif pW t && pO (pK g10 t) 6 then (
                    bif pW t && pO (pK g10 t) 6 then (
                    bif pW ((t + 1) + 1) && pO (pK g10 ((t + 1) + 1)) 9 then (
                    cV (call M_Tk_setStrap [vA ((t + 1) + 1), vI (u11 t 11), vI (u11 t 12), vI (u11 t 13)] g10 u11) (fun (g13 : PG) (u14 : PM) =>
                      bif pW t && pO (pK g13 t) 6 then (
                      cI (call M_Rd_endStatement [vA t] g13 u14) (fun (x17 : Int) (g15 : PG) (u16 : PM) =>
                        if x17 = 0 then
                          some (0, vI 0, g15, u16)
                        else
                          run M_Rd_readFreeStraps 2 [vA t, vI (w (a1 + 1))] [] g15 u16) noX) else none) noX) else none) else none) else none) else none) else none) else none
                  else
                    bif pW t && pO (pK g10 t) 6 then (
                    cI (call M_Rd_fail [vA t, vI 5] g10 u11) (fun (x20 : Int) (g18 : PG) (u19 : PM) =>
                      bif b01 x20 then (
                      some (0, vI x20, g18, u19)) else none) noX) else none) noX) else none) else none) else none) else none) else none) else none
              else
                bif pW t && pO (pK g7 t) 6 then (
                cI (call M_Rd_fail [vA t, vI 4] g7 u8) (fun (x23 : Int) (g21 : PG) (u22 : PM) =>
                  bif b01 x23 then (
                  some (0, vI x23, g21, u22)) else none) noX) else none) noX) else none) else none) else none) else none) else none) else none) noX) else none) noX) else none := (run_bl (m := M_Rd_readFreeStraps) (T := T_Rd_readFreeStraps) (hh := []) (stop := [(2, [true, true])]) rfl rfl rfl 68 (pc := 2) (L := [vA t, vI a1]) (S := []) rfl).trans rfl
set_option maxRecDepth 100000 in
theorem C_Rd_readPlayer (t : Nat) (a1 : Int) (g : PG) (u : PM) : call M_Rd_readPlayer [vA t, vI a1] g u =
  bif pW t && pO (pK g t) 6 then (
  cI (call M_Rd_wordIs [vA t, vA 100022] g u) (fun (x3 : Int) (g1 : PG) (u2 : PM) =>
    if x3 = 0 then
      bif pW t && pO (pK g1 t) 6 then (
      cI (call M_Rd_fail [vA t, vI 1] g1 u2) (fun (x6 : Int) (g4 : PG) (u5 : PM) =>
        bif b01 x6 then (
        some (0, vI x6, g4, u5)) else none) noX) else none
    else
      bif pW t && pO (pK g1 t) 6 then (
      cI (call M_Rd_readName [vA t, vI a1] g1 u2) (fun (x9 : Int) (g7 : PG) (u8 : PM) =>
        if x9 = 0 then
          some (0, vI 0, g7, u8)
        else
          run M_Rd_readPlayer 27 [vA t, vI a1, vI 0, vN] [] g7 u8) noX) else none) noX) else none := (run_bl (m := M_Rd_readPlayer) (T := T_Rd_readPlayer) (hh := []) (stop := [(27, [true, true, true, false])]) rfl rfl rfl 62 (pc := 0) (L := [vA t, vI a1, vN, vN]) (S := []) rfl).trans rfl
set_option maxRecDepth 100000 in
theorem R_Rd_readPlayer_27 (t : Nat) (a1 : Int) (a2 : Int) (g : PG) (u : PM) : run M_Rd_readPlayer 27 [vA t, vI a1, vI a2, vN] [] g u =
  if a2 < 5 then
    bif pW t && pO (pK g t) 6 then (
    cI (call M_Rd_expectNumber [vA t, vI 0, vI 9] g u) (fun (x3 : Int) (g1 : PG) (u2 : PM) =>
      if x3 = (-1) then
        some (0, vI 0, g1, u2)
      else
        bif pW t && pO (pK g1 t) 6 then (
        bif pW (t + 1) && pO (pK g1 (t + 1)) 8 then (
        cR (call M_St_playerOf [vA (t + 1), vI a1] g1 u2) (fun (r6 : Nat) (g4 : PG) (u5 : PM) =>
          bif pW r6 && pO (pK g4 r6) 5 then (
          cV (call M_Pl_setSupply [vA r6, vI a2, vI x3] g4 u5) (fun (g7 : PG) (u8 : PM) =>
            run M_Rd_readPlayer 27 [vA t, vI a1, vI (w (a2 + 1)), vN] [] g7 u8) noX) else none)) else none) else none) noX) else none
  else
    bif pW t && pO (pK g t) 6 then (
    cI (call M_Rd_expectNumber [vA t, vI 0, vI 9] g u) (fun (x11 : Int) (g9 : PG) (u10 : PM) =>
      if x11 = (-1) then
        some (0, vI 0, g9, u10)
      else
        bif pW t && pO (pK g9 t) 6 then (
        bif pW (t + 1) && pO (pK g9 (t + 1)) 8 then (
        cR (call M_St_playerOf [vA (t + 1), vI a1] g9 u10) (fun (r14 : Nat) (g12 : PG) (u13 : PM) =>
          bif pW r14 && pO (pK g12 r14) 5 then (
          bif pW t && pO (pK g12 t) 6 then (
          cI (call M_Rd_endStatement [vA t] g12 (up u13 r14 1 x11)) (fun (x17 : Int) (g15 : PG) (u16 : PM) =>
            bif b01 x17 then (
            some (0, vI x17, g15, u16)) else none) noX) else none) else none)) else none) else none) noX) else none := (run_bl (m := M_Rd_readPlayer) (T := T_Rd_readPlayer) (hh := []) (stop := [(27, [true, true, true, false])]) rfl rfl rfl 62 (pc := 27) (L := [vA t, vI a1, vI a2, vN]) (S := []) rfl).trans rfl
set_option maxRecDepth 100000 in
theorem C_Rd_readName (t : Nat) (a1 : Int) (g : PG) (u : PM) : call M_Rd_readName [vA t, vI a1] g u =
  bif pW t && pO (pK g t) 6 then (
  cV (call M_Rd_nextToken [vA t] g u) (fun (g1 : PG) (u2 : PM) =>
    bif pW t && pO (pK g1 t) 6 then (
    if (u2 t 8) = 1 then
      bif pW t && pO (pK g1 t) 6 then (
      bif pW t && pO (pK g1 t) 6 then (
      if 6 < (w ((u2 t 7) - (u2 t 9))) then
        run M_Rd_readName 26 [vA t, vI a1, vN] [] g1 u2
      else
        bif pW t && pO (pK g1 t) 6 then (
        run M_Rd_readName 37 [vA t, vI a1, vI (u2 t 9)] [] g1 u2) else none) else none) else none
    else
      run M_Rd_readName 26 [vA t, vI a1, vN] [] g1 u2) else none) noX) else none := (run_bl (m := M_Rd_readName) (T := T_Rd_readName) (hh := []) (stop := [(26, [true, true, false]), (37, [true, true, true])]) rfl rfl rfl 57 (pc := 0) (L := [vA t, vI a1, vN]) (S := []) rfl).trans rfl
set_option maxRecDepth 100000 in
theorem R_Rd_readName_26 (t : Nat) (a1 : Int) (g : PG) (u : PM) : run M_Rd_readName 26 [vA t, vI a1, vN] [] g u =
  bif pW t && pO (pK g t) 6 then (
  cI (call M_Rd_fail [vA t, vI 1] g u) (fun (x3 : Int) (g1 : PG) (u2 : PM) =>
    bif b01 x3 then (
    some (0, vI x3, g1, u2)) else none) noX) else none := (run_bl (m := M_Rd_readName) (T := T_Rd_readName) (hh := []) (stop := [(26, [true, true, false]), (37, [true, true, true])]) rfl rfl rfl 57 (pc := 26) (L := [vA t, vI a1, vN]) (S := []) rfl).trans rfl
set_option maxRecDepth 100000 in
theorem R_Rd_readName_37 (t : Nat) (a1 : Int) (a2 : Int) (g : PG) (u : PM) : run M_Rd_readName 37 [vA t, vI a1, vI a2] [] g u =
  bif pW t && pO (pK g t) 6 then (
  if a2 < (u t 7) then
    bif pW t && pO (pK g t) 6 then (
    bif pW (t + 1) && pO (pK g (t + 1)) 8 then (
    cR (call M_St_playerOf [vA (t + 1), vI a1] g u) (fun (r3 : Nat) (g1 : PG) (u2 : PM) =>
      bif pW t && pO (pK g1 t) 6 then (
      cI (call M_Rd_byteAt [vA t, vI a2] g1 u2) (fun (x6 : Int) (g4 : PG) (u5 : PM) =>
        bif pW r3 && pO (pK g4 r3) 5 then (
        cV (call M_Pl_addLetter [vA r3, vI x6] g4 u5) (fun (g7 : PG) (u8 : PM) =>
          run M_Rd_readName 37 [vA t, vI a1, vI (w (a2 + 1))] [] g7 u8) noX) else none) noX) else none)) else none) else none
  else
    if a1 = 0 then
      some (0, vI 1, g, u)
    else
      bif pW t && pO (pK g t) 6 then (
      bif pW (t + 1) && pO (pK g (t + 1)) 8 then (
      bif pW t && pO (pK g t) 6 then (
      bif pW (t + 1) && pO (pK g (t + 1)) 8 then (
      bif pW ((t + 1) + 14) && pO (pK g ((t + 1) + 14)) 5 then (
      cI (call M_Pl_hasNameOf [vA ((t + 1) + 14), vA ((t + 1) + 11)] g u) (fun (x11 : Int) (g9 : PG) (u10 : PM) =>
        if x11 = 0 then
          some (0, vI 1, g9, u10)
        else
          bif pW t && pO (pK g9 t) 6 then (
          cI (call M_Rd_fail [vA t, vI 4] g9 u10) (fun (x14 : Int) (g12 : PG) (u13 : PM) =>
            if x14 = 0 then
              some (0, vI 0, g12, u13)
            else
              some (0, vI 1, g12, u13)) noX) else none) noX) else none) else none) else none) else none) else none) else none := (run_bl (m := M_Rd_readName) (T := T_Rd_readName) (hh := []) (stop := [(26, [true, true, false]), (37, [true, true, true])]) rfl rfl rfl 57 (pc := 37) (L := [vA t, vI a1, vI a2]) (S := []) rfl).trans rfl
set_option maxRecDepth 100000 in
theorem C_Rd_readPiece (t : Nat) (g : PG) (u : PM) : call M_Rd_readPiece [vA t] g u =
  bif pW t && pO (pK g t) 6 then (
  cV (call M_Rd_nextToken [vA t] g u) (fun (g1 : PG) (u2 : PM) =>
    bif pW t && pO (pK g1 t) 6 then (
    cI (call M_Rd_shapeOfToken [vA t] g1 u2) (fun (x5 : Int) (g3 : PG) (u4 : PM) =>
      if x5 = (-1) then
        bif pW t && pO (pK g3 t) 6 then (
        cI (call M_Rd_fail [vA t, vI 1] g3 u4) (fun (x8 : Int) (g6 : PG) (u7 : PM) =>
          bif b01 x8 then (
          some (0, vI x8, g6, u7)) else none) noX) else none
      else
        bif pW t && pO (pK g3 t) 6 then (
        cI (call M_Rd_expectNumber [vA t, vI 0, vI 3] g3 u4) (fun (x11 : Int) (g9 : PG) (u10 : PM) =>
          if x11 = (-1) then
            some (0, vI 0, g9, u10)
          else
            bif pW t && pO (pK g9 t) 6 then (
            bif pW (t + 1) && pO (pK g9 (t + 1)) 8 then (
            bif pW ((t + 1) + 1) && pO (pK g9 ((t + 1) + 1)) 9 then (
            bif pW t && pO (pK g9 t) 6 then (
            cI (call M_Rd_expectNumber [vA t, vI 0, vI (w ((u10 ((t + 1) + 1) 0) - 1))] g9 u10) (fun (x14 : Int) (g12 : PG) (u13 : PM) =>
              if x14 = (-1) then
                some (0, vI 0, g12, u13)
              else
                bif pW t && pO (pK g12 t) 6 then (
                bif pW (t + 1) && pO (pK g12 (t + 1)) 8 then (
                bif pW ((t + 1) + 1) && pO (pK g12 ((t + 1) + 1)) 9 then (
                bif pW t && pO (pK g12 t) 6 then (
                cI (call M_Rd_expectNumber [vA t, vI 0, vI (w ((u13 ((t + 1) + 1) 1) - 1))] g12 u13) (fun (x17 : Int) (g15 : PG) (u16 : PM) =>
                  if x17 = (-1) then
                    some (0, vI 0, g15, u16)
                  else
                    bif pW t && pO (pK g15 t) 6 then (
                    bif pW (t + 18) && pO (pK g15 (t + 18)) 2 then (
                    cV (call M_Fp_turn [vA (t + 18), vI x5, vI x11] g15 u16) (fun (g18 : PG) (u19 : PM) =>
                      bif pW t && pO (pK g18 t) 6 then (
                      bif pW (t + 18) && pO (pK g18 (t + 18)) 2 then (
                      cV (call M_Fp_moveTo [vA (t + 18), vI x14, vI x17] g18 u19) (fun (g20 : PG) (u21 : PM) =>
                        bif pW t && pO (pK g20 t) 6 then (
                        bif pW t && pO (pK g20 t) 6 then (
                        bif pW (t + 1) && pO (pK g20 (t + 1)) 8 then (
                        cI (call M_St_allowsPiece [vA (t + 1), vA (t + 18)] g20 u21) (fun (x24 : Int) (g22 : PG) (u23 : PM) =>
                          if x24 = 0 then
                            bif pW t && pO (pK g22 t) 6 then (
                            cI (call M_Rd_fail [vA t, vI 6] g22 u23) (fun (x27 : Int) (g25 : PG) (u26 : PM) =>
                              bif b01 x27 then (
                              some (0, vI x27, g25, u26)) else none) noX) else none
                          else
                            bif pW t && pO (pK g22 t) 6 then (
                            bif pW t && pO (pK g22 t) 6 then (
                            bif pW (t + 1) && pO (pK g22 (t + 1)) 8 then (
                            cI (call M_St_putPiece [vA (t + 1), vA (t + 18)] g22 u23) (fun (x30 : Int) (g28 : PG) (u29 : PM) =>
                              some (0, vI 1, g28, u29)) noX) else none) else none) else none) noX) else none) else none) else none) noX) else none) else none) noX) else none) else none) noX) else none) else none) else none) else none) noX) else none) else none) else none) else none) noX) else none) noX) else none) noX) else none := (run_bl (m := M_Rd_readPiece) (T := T_Rd_readPiece) (hh := []) (stop := []) rfl rfl rfl 85 (pc := 0) (L := [vA t, vN, vN, vN, vN]) (S := []) rfl).trans rfl
set_option maxRecDepth 100000 in
theorem C_Rd_readStrap (t : Nat) (g : PG) (u : PM) : call M_Rd_readStrap [vA t] g u =
  bif pW t && pO (pK g t) 6 then (
  cI (call M_Rd_readEdge [vA t] g u) (fun (x3 : Int) (g1 : PG) (u2 : PM) =>
    if x3 = 0 then
      some (0, vI 0, g1, u2)
    else
      bif pW t && pO (pK g1 t) 6 then (
      bif pW t && pO (pK g1 t) 6 then (
      bif pW t && pO (pK g1 t) 6 then (
      bif pW t && pO (pK g1 t) 6 then (
      bif pW (t + 1) && pO (pK g1 (t + 1)) 8 then (
      cI (call M_St_allowsStrap [vA (t + 1), vI (u2 t 11), vI (u2 t 12), vI (u2 t 13)] g1 u2) (fun (x6 : Int) (g4 : PG) (u5 : PM) =>
        if x6 = 0 then
          bif pW t && pO (pK g4 t) 6 then (
          cI (call M_Rd_fail [vA t, vI 6] g4 u5) (fun (x9 : Int) (g7 : PG) (u8 : PM) =>
            bif b01 x9 then (
            some (0, vI x9, g7, u8)) else none) noX) else none
        else
          bif pW t && pO (pK g4 t) 6 then (
          bif pW t && pO (pK g4 t) 6 then (
          bif pW t && pO (pK g4 t) 6 then (
          bif pW t && pO (pK g4 t) 6 then (
          bif pW (t + 1) && pO (pK g4 (t + 1)) 8 then (
          cI (call M_St_putStrap [vA (t + 1), vI (u5 t 11), vI (u5 t 12), vI (u5 t 13)] g4 u5) (fun (x12 : Int) (g10 : PG) (u11 : PM) =>
            some (0, vI 1, g10, u11)) noX) else none) else none) else none) else none) else none) noX) else none) else none) else none) else none) else none) noX) else none := (run_bl (m := M_Rd_readStrap) (T := T_Rd_readStrap) (hh := []) (stop := []) rfl rfl rfl 36 (pc := 0) (L := [vA t]) (S := []) rfl).trans rfl
set_option maxRecDepth 100000 in
theorem C_Rd_readEdge (t : Nat) (g : PG) (u : PM) : call M_Rd_readEdge [vA t] g u =
  bif pW t && pO (pK g t) 6 then (
  bif pW (t + 1) && pO (pK g (t + 1)) 8 then (
  bif pW ((t + 1) + 1) && pO (pK g ((t + 1) + 1)) 9 then (
  bif pW t && pO (pK g t) 6 then (
  cI (call M_Rd_expectNumber [vA t, vI 0, vI (w ((u ((t + 1) + 1) 0) - 1))] g u) (fun (x3 : Int) (g1 : PG) (u2 : PM) =>
    bif pW t && pO (pK g1 t) 6 then (
    bif pW t && pO (pK g1 t) 6 then (
    if ((up u2 t 11 x3) t 11) = (-1) then
      some (0, vI 0, g1, up u2 t 11 x3)
    else
      bif pW t && pO (pK g1 t) 6 then (
      bif pW (t + 1) && pO (pK g1 (t + 1)) 8 then (
      bif pW ((t + 1) + 1) && pO (pK g1 ((t + 1) + 1)) 9 then (
      bif pW t && pO (pK g1 t) 6 then (
      cI (call M_Rd_expectNumber [vA t, vI 0, vI (w (((up u2 t 11 x3) ((t + 1) + 1) 1) - 1))] g1 (up u2 t 11 x3)) (fun (x6 : Int) (g4 : PG) (u5 : PM) =>
        bif pW t && pO (pK g4 t) 6 then (
        bif pW t && pO (pK g4 t) 6 then (
        if ((up u5 t 12 x6) t 12) = (-1) then
          some (0, vI 0, g4, up u5 t 12 x6)
        else
          bif pW t && pO (pK g4 t) 6 then (
          cV (call M_Rd_nextToken [vA t] g4 (up u5 t 12 x6)) (fun (g7 : PG) (u8 : PM) =>
            bif pW t && pO (pK g7 t) 6 then (
            cI (call M_Rd_wordIs [vA t, vA 100020] g7 u8) (fun (x11 : Int) (g9 : PG) (u10 : PM) =>
              if x11 = 0 then
                bif pW t && pO (pK g9 t) 6 then (
                cI (call M_Rd_wordIs [vA t, vA 100021] g9 u10) (fun (x14 : Int) (g12 : PG) (u13 : PM) =>
                  if x14 = 0 then
                    bif pW t && pO (pK g12 t) 6 then (
                    cI (call M_Rd_fail [vA t, vI 1] g12 u13) (fun (x17 : Int) (g15 : PG) (u16 : PM) =>
                      bif b01 x17 then (
                      some (0, vI x17, g15, u16)) else none) noX) else none
                  else
                    run M_Rd_readEdge 90 [vA t] [] g12 u13) noX) else none
              else
                run M_Rd_readEdge 90 [vA t] [] g9 u10) noX) else none) noX) else none) else none) else none) noX) else none) else none) else none) else none) else none) else none) noX) else none) else none) else none) else none := (run_bl (m := M_Rd_readEdge) (T := T_Rd_readEdge) (hh := []) (stop := [(90, [true]), (105, [true])]) rfl rfl rfl 81 (pc := 0) (L := [vA t]) (S := []) rfl).trans rfl
set_option maxRecDepth 100000 in
theorem R_Rd_readEdge_90 (t : Nat) (g : PG) (u : PM) : run M_Rd_readEdge 90 [vA t] [] g u =
  bif pW t && pO (pK g t) 6 then (
  cI (call M_Rd_wordIs [vA t, vA 100020] g u) (fun (x3 : Int) (g1 : PG) (u2 : PM) =>
    if x3 = 0 then
      run M_Rd_readEdge 105 [vA t] [vI 1, vA t] g1 u2
    else
      run M_Rd_readEdge 105 [vA t] [vI 0, vA t] g1 u2) noX) else none := (run_bl (m := M_Rd_readEdge) (T := T_Rd_readEdge) (hh := []) (stop := [(90, [true]), (105, [true])]) rfl rfl rfl 81 (pc := 90) (L := [vA t]) (S := []) rfl).trans rfl
set_option maxRecDepth 100000 in
theorem R_Rd_readEdge_105 (t : Nat) (s0 : Int) (s1 : Nat) (g : PG) (u : PM) : run M_Rd_readEdge 105 [vA t] [vI s0, vA s1] g u =
  bif pW s1 && pO (pK g s1) 6 then (
  bif pW t && pO (pK g t) 6 then (
  bif pW (t + 1) && pO (pK g (t + 1)) 8 then (
  bif pW t && pO (pK g t) 6 then (
  bif pW t && pO (pK g t) 6 then (
  bif pW t && pO (pK g t) 6 then (
  bif pW ((t + 1) + 1) && pO (pK g ((t + 1) + 1)) 9 then (
  cI (call M_Tk_holdsEdge [vA ((t + 1) + 1), vI ((up u s1 13 s0) t 11), vI ((up u s1 13 s0) t 12), vI ((up u s1 13 s0) t 13)] g (up u s1 13 s0)) (fun (x3 : Int) (g1 : PG) (u2 : PM) =>
    if x3 = 0 then
      bif pW t && pO (pK g1 t) 6 then (
      cI (call M_Rd_fail [vA t, vI 3] g1 u2) (fun (x6 : Int) (g4 : PG) (u5 : PM) =>
        if x6 = 0 then
          some (0, vI 0, g4, u5)
        else
          some (0, vI 1, g4, u5)) noX) else none
    else
      some (0, vI 1, g1, u2)) noX) else none) else none) else none) else none) else none) else none) else none := (run_bl (m := M_Rd_readEdge) (T := T_Rd_readEdge) (hh := []) (stop := [(90, [true]), (105, [true])]) rfl rfl rfl 81 (pc := 105) (L := [vA t]) (S := [vI s0, vA s1]) rfl).trans rfl
set_option maxRecDepth 100000 in
theorem C_Rd_shapeOfToken (t : Nat) (g : PG) (u : PM) : call M_Rd_shapeOfToken [vA t] g u =
  bif pW t && pO (pK g t) 6 then (
  cI (call M_Rd_wordIs [vA t, vA 100024] g u) (fun (x3 : Int) (g1 : PG) (u2 : PM) =>
    if x3 = 0 then
      bif pW t && pO (pK g1 t) 6 then (
      cI (call M_Rd_wordIs [vA t, vA 100025] g1 u2) (fun (x6 : Int) (g4 : PG) (u5 : PM) =>
        if x6 = 0 then
          bif pW t && pO (pK g4 t) 6 then (
          cI (call M_Rd_wordIs [vA t, vA 100026] g4 u5) (fun (x9 : Int) (g7 : PG) (u8 : PM) =>
            if x9 = 0 then
              bif pW t && pO (pK g7 t) 6 then (
              cI (call M_Rd_wordIs [vA t, vA 100027] g7 u8) (fun (x12 : Int) (g10 : PG) (u11 : PM) =>
                if x12 = 0 then
                  bif pW t && pO (pK g10 t) 6 then (
                  cI (call M_Rd_wordIs [vA t, vA 100028] g10 u11) (fun (x15 : Int) (g13 : PG) (u14 : PM) =>
                    if x15 = 0 then
                      some (0, vI (-1), g13, u14)
                    else
                      some (0, vI 4, g13, u14)) noX) else none
                else
                  some (0, vI 3, g10, u11)) noX) else none
            else
              some (0, vI 2, g7, u8)) noX) else none
        else
          some (0, vI 1, g4, u5)) noX) else none
    else
      some (0, vI 0, g1, u2)) noX) else none := (run_bl (m := M_Rd_shapeOfToken) (T := T_Rd_shapeOfToken) (hh := []) (stop := []) rfl rfl rfl 37 (pc := 0) (L := [vA t]) (S := []) rfl).trans rfl
set_option maxRecDepth 100000 in
theorem C_Rd_expectNumber (t : Nat) (a1 : Int) (a2 : Int) (g : PG) (u : PM) : call M_Rd_expectNumber [vA t, vI a1, vI a2] g u =
  bif pW t && pO (pK g t) 6 then (
  cV (call M_Rd_nextToken [vA t] g u) (fun (g1 : PG) (u2 : PM) =>
    bif pW t && pO (pK g1 t) 6 then (
    if (u2 t 8) = 2 then
      bif pW t && pO (pK g1 t) 6 then (
      if (u2 t 10) < a1 then
        run M_Rd_expectNumber 36 [vA t, vI a1, vI a2] [] g1 u2
      else
        bif pW t && pO (pK g1 t) 6 then (
        if a2 < (u2 t 10) then
          run M_Rd_expectNumber 36 [vA t, vI a1, vI a2] [] g1 u2
        else
          bif pW t && pO (pK g1 t) 6 then (
          some (0, vI (u2 t 10), g1, u2)) else none) else none) else none
    else
      bif pW t && pO (pK g1 t) 6 then (
      cI (call M_Rd_fail [vA t, vI 1] g1 u2) (fun (x5 : Int) (g3 : PG) (u4 : PM) =>
        some (0, vI (-1), g3, u4)) noX) else none) else none) noX) else none := (run_bl (m := M_Rd_expectNumber) (T := T_Rd_expectNumber) (hh := []) (stop := [(36, [true, true, true])]) rfl rfl rfl 34 (pc := 0) (L := [vA t, vI a1, vI a2]) (S := []) rfl).trans rfl
set_option maxRecDepth 100000 in
theorem R_Rd_expectNumber_36 (t : Nat) (a1 : Int) (a2 : Int) (g : PG) (u : PM) : run M_Rd_expectNumber 36 [vA t, vI a1, vI a2] [] g u =
  bif pW t && pO (pK g t) 6 then (
  cI (call M_Rd_fail [vA t, vI 2] g u) (fun (x3 : Int) (g1 : PG) (u2 : PM) =>
    some (0, vI (-1), g1, u2)) noX) else none := (run_bl (m := M_Rd_expectNumber) (T := T_Rd_expectNumber) (hh := []) (stop := [(36, [true, true, true])]) rfl rfl rfl 34 (pc := 36) (L := [vA t, vI a1, vI a2]) (S := []) rfl).trans rfl
set_option maxRecDepth 100000 in
theorem C_Rd_endStatement (t : Nat) (g : PG) (u : PM) : call M_Rd_endStatement [vA t] g u =
  bif pW t && pO (pK g t) 6 then (
  cV (call M_Rd_nextToken [vA t] g u) (fun (g1 : PG) (u2 : PM) =>
    bif pW t && pO (pK g1 t) 6 then (
    if (u2 t 8) = 3 then
      bif pW t && pO (pK g1 t) 6 then (
      cV (call M_Rd_nextToken [vA t] g1 u2) (fun (g3 : PG) (u4 : PM) =>
        some (0, vI 1, g3, u4)) noX) else none
    else
      bif pW t && pO (pK g1 t) 6 then (
      cI (call M_Rd_fail [vA t, vI 1] g1 u2) (fun (x7 : Int) (g5 : PG) (u6 : PM) =>
        bif b01 x7 then (
        some (0, vI x7, g5, u6)) else none) noX) else none) else none) noX) else none := (run_bl (m := M_Rd_endStatement) (T := T_Rd_endStatement) (hh := []) (stop := []) rfl rfl rfl 19 (pc := 0) (L := [vA t]) (S := []) rfl).trans rfl
set_option maxRecDepth 100000 in
theorem C_Rd_fail (t : Nat) (a1 : Int) (g : PG) (u : PM) : call M_Rd_fail [vA t, vI a1] g u =
  bif pW t && pO (pK g t) 6 then (
  bif pW t && pO (pK g t) 6 then (
  bif pW t && pO (pK g t) 6 then (
  some (0, vI 0, g, up (up u t 1 a1) t 2 ((up u t 1 a1) t 9))) else none) else none) else none := (run_bl (m := M_Rd_fail) (T := T_Rd_fail) (hh := []) (stop := []) rfl rfl rfl 14 (pc := 0) (L := [vA t, vI a1]) (S := []) rfl).trans rfl
set_option maxRecDepth 100000 in
theorem C_Rd_nextToken (t : Nat) (g : PG) (u : PM) : call M_Rd_nextToken [vA t] g u =
  bif pW t && pO (pK g t) 6 then (
  cI (call M_Rd_endOfRun [vA t, vI 32, vI 32] g u) (fun (x3 : Int) (g1 : PG) (u2 : PM) =>
    bif pW t && pO (pK g1 t) 6 then (
    bif pW t && pO (pK g1 t) 6 then (
    bif pW t && pO (pK g1 t) 6 then (
    bif pW t && pO (pK g1 t) 6 then (
    bif pW t && pO (pK g1 t) 6 then (
    cI (call M_Rd_byteAt [vA t, vI ((up (up u2 t 7 x3) t 9 ((up u2 t 7 x3) t 7)) t 7)] g1 (up (up u2 t 7 x3) t 9 ((up u2 t 7 x3) t 7))) (fun (x6 : Int) (g4 : PG) (u5 : PM) =>
      if x6 = (-1) then
        bif pW t && pO (pK g4 t) 6 then (
        some (0, vN, g4, up u5 t 8 0)) else none
      else
        if x6 < 97 then
          run M_Rd_nextToken 74 [vA t, vI x6] [] g4 u5
        else
          if 122 < x6 then
            run M_Rd_nextToken 74 [vA t, vI x6] [] g4 u5
          else
            bif pW t && pO (pK g4 t) 6 then (
            bif pW t && pO (pK g4 t) 6 then (
            cI (call M_Rd_endOfRun [vA t, vI 97, vI 122] g4 (up u5 t 8 1)) (fun (x9 : Int) (g7 : PG) (u8 : PM) =>
              bif pW t && pO (pK g7 t) 6 then (
              some (0, vN, g7, up u8 t 7 x9)) else none) noX) else none) else none) noX) else none) else none) else none) else none) else none) noX) else none := (run_bl (m := M_Rd_nextToken) (T := T_Rd_nextToken) (hh := []) (stop := [(74, [true, true]), (114, [true, true]), (126, [true, true])]) rfl rfl rfl 78 (pc := 0) (L := [vA t, vN]) (S := []) rfl).trans rfl
set_option maxRecDepth 100000 in
theorem R_Rd_nextToken_74 (t : Nat) (a1 : Int) (g : PG) (u : PM) : run M_Rd_nextToken 74 [vA t, vI a1] [] g u =
  if a1 < 48 then
    run M_Rd_nextToken 114 [vA t, vI a1] [] g u
  else
    if 57 < a1 then
      run M_Rd_nextToken 114 [vA t, vI a1] [] g u
    else
      bif pW t && pO (pK g t) 6 then (
      bif pW t && pO (pK g t) 6 then (
      cI (call M_Rd_endOfRun [vA t, vI 48, vI 57] g (up u t 8 2)) (fun (x3 : Int) (g1 : PG) (u2 : PM) =>
        bif pW t && pO (pK g1 t) 6 then (
        bif pW t && pO (pK g1 t) 6 then (
        cI (call M_Rd_valueOfToken [vA t] g1 (up u2 t 7 x3)) (fun (x6 : Int) (g4 : PG) (u5 : PM) =>
          bif pW t && pO (pK g4 t) 6 then (
          some (0, vN, g4, up u5 t 10 x6)) else none) noX) else none) else none) noX) else none) else none := (run_bl (m := M_Rd_nextToken) (T := T_Rd_nextToken) (hh := []) (stop := [(74, [true, true]), (114, [true, true]), (126, [true, true])]) rfl rfl rfl 78 (pc := 74) (L := [vA t, vI a1]) (S := []) rfl).trans rfl
set_option maxRecDepth 100000 in
theorem R_Rd_nextToken_114 (t : Nat) (a1 : Int) (g : PG) (u : PM) : run M_Rd_nextToken 114 [vA t, vI a1] [] g u =
  if a1 = 59 then
    run M_Rd_nextToken 126 [vA t, vI a1] [vI 3, vA t] g u
  else
    run M_Rd_nextToken 126 [vA t, vI a1] [vI 4, vA t] g u := (run_bl (m := M_Rd_nextToken) (T := T_Rd_nextToken) (hh := []) (stop := [(74, [true, true]), (114, [true, true]), (126, [true, true])]) rfl rfl rfl 78 (pc := 114) (L := [vA t, vI a1]) (S := []) rfl).trans rfl
set_option maxRecDepth 100000 in
theorem R_Rd_nextToken_126 (t : Nat) (a1 : Int) (s0 : Int) (s1 : Nat) (g : PG) (u : PM) : run M_Rd_nextToken 126 [vA t, vI a1] [vI s0, vA s1] g u =
  bif pW s1 && pO (pK g s1) 6 then (
  bif pW t && pO (pK g t) 6 then (
  bif pW t && pO (pK g t) 6 then (
  some (0, vN, g, up (up u s1 8 s0) t 7 (w (((up u s1 8 s0) t 7) + 1)))) else none) else none) else none := (run_bl (m := M_Rd_nextToken) (T := T_Rd_nextToken) (hh := []) (stop := [(74, [true, true]), (114, [true, true]), (126, [true, true])]) rfl rfl rfl 78 (pc := 126) (L := [vA t, vI a1]) (S := [vI s0, vA s1]) rfl).trans rfl
set_option maxRecDepth 100000 in
theorem C_Rd_endOfRun (t : Nat) (a1 : Int) (a2 : Int) (g : PG) (u : PM) : call M_Rd_endOfRun [vA t, vI a1, vI a2] g u =
  bif pW t && pO (pK g t) 6 then (
  run M_Rd_endOfRun 5 [vA t, vI a1, vI a2, vI (u t 7)] [] g u) else none := (run_bl (m := M_Rd_endOfRun) (T := T_Rd_endOfRun) (hh := []) (stop := [(5, [true, true, true, true])]) rfl rfl rfl 31 (pc := 0) (L := [vA t, vI a1, vI a2, vN]) (S := []) rfl).trans rfl
set_option maxRecDepth 100000 in
theorem R_Rd_endOfRun_5 (t : Nat) (a1 : Int) (a2 : Int) (a3 : Int) (g : PG) (u : PM) : run M_Rd_endOfRun 5 [vA t, vI a1, vI a2, vI a3] [] g u =
  bif pW t && pO (pK g t) 6 then (
  if a3 < (u t 0) then
    if a3 < 600 then
      bif pW t && pO (pK g t) 6 then (
      bif pR (pK g (t + 24)) 0 a3 then (
      if (u (t + 24) a3) < a1 then
        some (0, vI a3, g, u)
      else
        bif pW t && pO (pK g t) 6 then (
        bif pR (pK g (t + 24)) 0 a3 then (
        if a2 < (u (t + 24) a3) then
          some (0, vI a3, g, u)
        else
          run M_Rd_endOfRun 5 [vA t, vI a1, vI a2, vI (w (a3 + 1))] [] g u) else none) else none) else none) else none
    else
      some (0, vI a3, g, u)
  else
    some (0, vI a3, g, u)) else none := (run_bl (m := M_Rd_endOfRun) (T := T_Rd_endOfRun) (hh := []) (stop := [(5, [true, true, true, true])]) rfl rfl rfl 31 (pc := 5) (L := [vA t, vI a1, vI a2, vI a3]) (S := []) rfl).trans rfl
set_option maxRecDepth 100000 in
theorem C_Rd_valueOfToken (t : Nat) (g : PG) (u : PM) : call M_Rd_valueOfToken [vA t] g u =
  bif pW t && pO (pK g t) 6 then (
  run M_Rd_valueOfToken 7 [vA t, vI 0, vI (u t 9)] [] g u) else none := (run_bl (m := M_Rd_valueOfToken) (T := T_Rd_valueOfToken) (hh := []) (stop := [(7, [true, true, true])]) rfl rfl rfl 34 (pc := 0) (L := [vA t, vN, vN]) (S := []) rfl).trans rfl
set_option maxRecDepth 100000 in
theorem R_Rd_valueOfToken_7 (t : Nat) (a1 : Int) (a2 : Int) (g : PG) (u : PM) : run M_Rd_valueOfToken 7 [vA t, vI a1, vI a2] [] g u =
  bif pW t && pO (pK g t) 6 then (
  if a2 < (u t 7) then
    if a2 < 600 then
      bif pW t && pO (pK g t) 6 then (
      bif pR (pK g (t + 24)) 0 a2 then (
      run M_Rd_valueOfToken 7 [vA t, vI (min2 (w ((w ((w (a1 * 10)) + (u (t + 24) a2))) - 48)) 1000), vI (w (a2 + 1))] [] g u) else none) else none
    else
      some (0, vI a1, g, u)
  else
    some (0, vI a1, g, u)) else none := (run_bl (m := M_Rd_valueOfToken) (T := T_Rd_valueOfToken) (hh := []) (stop := [(7, [true, true, true])]) rfl rfl rfl 34 (pc := 7) (L := [vA t, vI a1, vI a2]) (S := []) rfl).trans rfl
set_option maxRecDepth 100000 in
theorem C_Rd_wordIs (t : Nat) (p1 : Nat) (g : PG) (u : PM) : call M_Rd_wordIs [vA t, vA p1] g u =
  bif pW t && pO (pK g t) 6 then (
  if (u t 8) = 1 then
    bif pW t && pO (pK g t) 6 then (
    bif pW t && pO (pK g t) 6 then (
    pTx (gStr p1) (fun (tx1 : List Nat) =>
    if (w ((u t 7) - (u t 9))) = ((List.length tx1 : Int)) then
      run M_Rd_wordIs 28 [vA t, vA p1, vI 0] [] g u
    else
      some (0, vI 0, g, u))) else none) else none
  else
    some (0, vI 0, g, u)) else none := (run_bl (m := M_Rd_wordIs) (T := T_Rd_wordIs) (hh := []) (stop := [(28, [true, true, true])]) rfl rfl rfl 41 (pc := 0) (L := [vA t, vA p1, vN]) (S := []) rfl).trans rfl
set_option maxRecDepth 100000 in
theorem R_Rd_wordIs_28 (t : Nat) (p1 : Nat) (a2 : Int) (g : PG) (u : PM) : run M_Rd_wordIs 28 [vA t, vA p1, vI a2] [] g u =
  pTx (gStr p1) (fun (tx1 : List Nat) =>
  if a2 < ((List.length tx1 : Int)) then
    bif pW t && pO (pK g t) 6 then (
    bif pW t && pO (pK g t) 6 then (
    cI (call M_Rd_byteAt [vA t, vI (w ((u t 9) + a2))] g u) (fun (x4 : Int) (g2 : PG) (u3 : PM) =>
      pTx (gStr p1) (fun (tx5 : List Nat) =>
      bif decide (0 ≤ a2) && decide (a2 < (List.length tx5 : Int)) then (
      if x4 = (((List.getD tx5 (Int.toNat a2) 0 : Nat) : Int)) then
        run M_Rd_wordIs 28 [vA t, vA p1, vI (w (a2 + 1))] [] g2 u3
      else
        some (0, vI 0, g2, u3)) else none)) noX) else none) else none
  else
    some (0, vI 1, g, u)) := (run_bl (m := M_Rd_wordIs) (T := T_Rd_wordIs) (hh := []) (stop := [(28, [true, true, true])]) rfl rfl rfl 41 (pc := 28) (L := [vA t, vA p1, vI a2]) (S := []) rfl).trans rfl
set_option maxRecDepth 100000 in
theorem C_Rd_byteAt (t : Nat) (a1 : Int) (g : PG) (u : PM) : call M_Rd_byteAt [vA t, vI a1] g u =
  if a1 < 0 then
    some (0, vI (-1), g, u)
  else
    bif pW t && pO (pK g t) 6 then (
    if a1 < (u t 0) then
      if a1 < 600 then
        bif pW t && pO (pK g t) 6 then (
        bif pR (pK g (t + 24)) 0 a1 then (
        some (0, vI (u (t + 24) a1), g, u)) else none) else none
      else
        some (0, vI (-1), g, u)
    else
      some (0, vI (-1), g, u)) else none := (run_bl (m := M_Rd_byteAt) (T := T_Rd_byteAt) (hh := []) (stop := []) rfl rfl rfl 21 (pc := 0) (L := [vA t, vI a1]) (S := []) rfl).trans rfl
set_option maxRecDepth 100000 in
theorem C_Rd_clear (t : Nat) (g : PG) (u : PM) : call M_Rd_clear [vA t] g u =
  bif pW t && pO (pK g t) 6 then (
  some (0, vN, g, up u t 0 0)) else none := (run_bl (m := M_Rd_clear) (T := T_Rd_clear) (hh := []) (stop := []) rfl rfl rfl 9 (pc := 0) (L := [vA t]) (S := []) rfl).trans rfl
