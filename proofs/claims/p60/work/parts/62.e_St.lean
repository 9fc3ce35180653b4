/-! ===== equations of blocks, by wip/p60/vgen2.py (St Hi)_ ===== -/
set_option maxRecDepth 100000 in
theorem C_Hi_remember (t : Nat) (p1 : Nat) (g : PG) (u : PM) : call M_Hi_remember [vA t, vA p1] g u =
  bif pW t && pO (pK g t) 3 then (
  if (u t 0) = 8 then
    bif pW t && pO (pK g t) 3 then (
    if 8 = 0 then none else (
    bif pW t && pO (pK g t) 3 then (
    bif pW t && pO (pK g t) 3 then (
    bif pW t && pO (pK g t) 3 then (
    run M_Hi_remember 32 [vA t, vA p1] [] g (up (up u t 1 (rem2 (w ((u t 1) + 1)) 8)) t 0 (w (((up u t 1 (rem2 (w ((u t 1) + 1)) 8)) t 0) - 1)))) else none) else none) else none)) else none
  else
    run M_Hi_remember 32 [vA t, vA p1] [] g u) else none := (run_bl (m := M_Hi_remember) (T := T_Hi_remember) (hh := []) (stop := [(32, [true, true])]) rfl rfl rfl 42 (pc := 0) (L := [vA t, vA p1]) (S := []) rfl).trans rfl
set_option maxRecDepth 100000 in
theorem R_Hi_remember_32 (t : Nat) (p1 : Nat) (g : PG) (u : PM) : run M_Hi_remember 32 [vA t, vA p1] [] g u =
  bif pW t && pO (pK g t) 3 then (
  bif pW t && pO (pK g t) 3 then (
  bif pW t && pO (pK g t) 3 then (
  if 8 = 0 then none else (
  bif pW (t + 1) && pR (pK g (t + 1)) 3 (rem2 (w ((u t 1) + (u t 0))) 8) then (
  bif pW ((t + 1) + 1 + 17 * Int.toNat (rem2 (w ((u t 1) + (u t 0))) 8)) && pO (pK g ((t + 1) + 1 + 17 * Int.toNat (rem2 (w ((u t 1) + (u t 0))) 8))) 8 then (
  cV (call M_St_copyFrom [vA ((t + 1) + 1 + 17 * Int.toNat (rem2 (w ((u t 1) + (u t 0))) 8)), vA p1] g u) (fun (g1 : PG) (u2 : PM) =>
    bif pW t && pO (pK g1 t) 3 then (
    bif pW t && pO (pK g1 t) 3 then (
    some (0, vN, g1, up u2 t 0 (w ((u2 t 0) + 1)))) else none) else none) noX) else none) else none)) else none) else none) else none := (run_bl (m := M_Hi_remember) (T := T_Hi_remember) (hh := []) (stop := [(32, [true, true])]) rfl rfl rfl 42 (pc := 32) (L := [vA t, vA p1]) (S := []) rfl).trans rfl
set_option maxRecDepth 100000 in
theorem C_Hi_bringBack (t : Nat) (p1 : Nat) (g : PG) (u : PM) : call M_Hi_bringBack [vA t, vA p1] g u =
  bif pW t && pO (pK g t) 3 then (
  if 0 < (u t 0) then
    bif pW t && pO (pK g t) 3 then (
    bif pW t && pO (pK g t) 3 then (
    bif pW t && pO (pK g t) 3 then (
    bif pW t && pO (pK g t) 3 then (
    bif pW t && pO (pK g t) 3 then (
    if 8 = 0 then none else (
    bif pW (t + 1) && pR (pK g (t + 1)) 3 (rem2 (w (((up u t 0 (w ((u t 0) - 1))) t 1) + ((up u t 0 (w ((u t 0) - 1))) t 0))) 8) then (
    bif pW p1 && pO (pK g p1) 8 then (
    cV (call M_St_copyFrom [vA p1, vA ((t + 1) + 1 + 17 * Int.toNat (rem2 (w (((up u t 0 (w ((u t 0) - 1))) t 1) + ((up u t 0 (w ((u t 0) - 1))) t 0))) 8))] g (up u t 0 (w ((u t 0) - 1)))) (fun (g1 : PG) (u2 : PM) =>
      some (0, vN, g1, u2)) noX) else none) else none)) else none) else none) else none) else none) else none
  else
    some (0, vN, g, u)) else none := (run_bl (m := M_Hi_bringBack) (T := T_Hi_bringBack) (hh := []) (stop := []) rfl rfl rfl 27 (pc := 0) (L := [vA t, vA p1]) (S := []) rfl).trans rfl
set_option maxRecDepth 100000 in
theorem C_St_clear (t : Nat) (a1 : Int) (a2 : Int) (g : PG) (u : PM) : call M_St_clear [vA t, vI a1, vI a2] g u =
  bif pW t && pO (pK g t) 8 then (
  bif pW (t + 1) && pO (pK g (t + 1)) 9 then (
  cV (call M_Tk_clear [vA (t + 1), vI a1, vI a2] g u) (fun (g1 : PG) (u2 : PM) =>
    bif pW t && pO (pK g1 t) 8 then (
    bif pW (t + 4) && pO (pK g1 (t + 4)) 4 then (
    bif pW t && pO (pK g1 t) 8 then (
    bif pW (t + 11) && pO (pK g1 (t + 11)) 5 then (
    cV (call M_Pl_clear [vA (t + 11)] g1 (up u2 (t + 4) 0 0)) (fun (g3 : PG) (u4 : PM) =>
      bif pW t && pO (pK g3 t) 8 then (
      bif pW (t + 14) && pO (pK g3 (t + 14)) 5 then (
      cV (call M_Pl_clear [vA (t + 14)] g3 u4) (fun (g5 : PG) (u6 : PM) =>
        bif pW t && pO (pK g5 t) 8 then (
        bif pW t && pO (pK g5 t) 8 then (
        some (0, vN, g5, up (up u6 t 4 0) t 5 0)) else none) else none) noX) else none) else none) noX) else none) else none) else none) else none) noX) else none) else none := (run_bl (m := M_St_clear) (T := T_St_clear) (hh := []) (stop := []) rfl rfl rfl 27 (pc := 0) (L := [vA t, vI a1, vI a2]) (S := []) rfl).trans rfl
set_option maxRecDepth 100000 in
theorem C_St_copyFrom (t : Nat) (p1 : Nat) (g : PG) (u : PM) : call M_St_copyFrom [vA t, vA p1] g u =
  bif pW t && pO (pK g t) 8 then (
  bif pW p1 && pO (pK g p1) 8 then (
  bif pW (t + 1) && pO (pK g (t + 1)) 9 then (
  cV (call M_Tk_copyFrom [vA (t + 1), vA (p1 + 1)] g u) (fun (g1 : PG) (u2 : PM) =>
    bif pW t && pO (pK g1 t) 8 then (
    bif pW p1 && pO (pK g1 p1) 8 then (
    bif pW (t + 4) && pO (pK g1 (t + 4)) 4 then (
    cV (call M_Pi_copyFrom [vA (t + 4), vA (p1 + 4)] g1 u2) (fun (g3 : PG) (u4 : PM) =>
      bif pW t && pO (pK g3 t) 8 then (
      bif pW p1 && pO (pK g3 p1) 8 then (
      bif pW (t + 11) && pO (pK g3 (t + 11)) 5 then (
      cV (call M_Pl_copyFrom [vA (t + 11), vA (p1 + 11)] g3 u4) (fun (g5 : PG) (u6 : PM) =>
        bif pW t && pO (pK g5 t) 8 then (
        bif pW p1 && pO (pK g5 p1) 8 then (
        bif pW (t + 14) && pO (pK g5 (t + 14)) 5 then (
        cV (call M_Pl_copyFrom [vA (t + 14), vA (p1 + 14)] g5 u6) (fun (g7 : PG) (u8 : PM) =>
          bif pW p1 && pO (pK g7 p1) 8 then (
          bif pW t && pO (pK g7 t) 8 then (
          bif pW p1 && pO (pK g7 p1) 8 then (
          bif pW t && pO (pK g7 t) 8 then (
          some (0, vN, g7, up (up u8 t 4 (u8 p1 4)) t 5 ((up u8 t 4 (u8 p1 4)) p1 5))) else none) else none) else none) else none) noX) else none) else none) else none) noX) else none) else none) else none) noX) else none) else none) else none) noX) else none) else none) else none := (run_bl (m := M_St_copyFrom) (T := T_St_copyFrom) (hh := []) (stop := []) rfl rfl rfl 34 (pc := 0) (L := [vA t, vA p1]) (S := []) rfl).trans rfl
set_option maxRecDepth 100000 in
theorem C_St_isFinished (t : Nat) (g : PG) (u : PM) : call M_St_isFinished [vA t] g u =
  bif pW t && pO (pK g t) 8 then (
  if (u t 5) < 2 then
    some (0, vI 0, g, u)
  else
    some (0, vI 1, g, u)) else none := (run_bl (m := M_St_isFinished) (T := T_St_isFinished) (hh := []) (stop := []) rfl rfl rfl 13 (pc := 0) (L := [vA t]) (S := []) rfl).trans rfl
set_option maxRecDepth 100000 in
theorem C_St_playerOf (t : Nat) (a1 : Int) (g : PG) (u : PM) : call M_St_playerOf [vA t, vI a1] g u =
  if a1 = 0 then
    bif pW t && pO (pK g t) 8 then (
    some (0, vA (t + 11), g, u)) else none
  else
    bif pW t && pO (pK g t) 8 then (
    some (0, vA (t + 14), g, u)) else none := (run_bl (m := M_St_playerOf) (T := T_St_playerOf) (hh := []) (stop := []) rfl rfl rfl 13 (pc := 0) (L := [vA t, vI a1]) (S := []) rfl).trans rfl
set_option maxRecDepth 100000 in
theorem C_St_allowsPiece (t : Nat) (p1 : Nat) (g : PG) (u : PM) : call M_St_allowsPiece [vA t, vA p1] g u =
  bif pW t && pO (pK g t) 8 then (
  cI (call M_St_isFinished [vA t] g u) (fun (x3 : Int) (g1 : PG) (u2 : PM) =>
    if x3 = 0 then
      bif pW t && pO (pK g1 t) 8 then (
      bif pW t && pO (pK g1 t) 8 then (
      cR (call M_St_playerOf [vA t, vI (u2 t 4)] g1 u2) (fun (r6 : Nat) (g4 : PG) (u5 : PM) =>
        bif pW p1 && pO (pK g4 p1) 2 then (
        bif pW r6 && pO (pK g4 r6) 5 then (
        cI (call M_Pl_supplyOf [vA r6, vI (u5 p1 0)] g4 u5) (fun (x9 : Int) (g7 : PG) (u8 : PM) =>
          if 0 < x9 then
            bif pW t && pO (pK g7 t) 8 then (
            bif pW (t + 1) && pO (pK g7 (t + 1)) 9 then (
            cI (call M_Tk_misfitOf [vA (t + 1), vA p1] g7 u8) (fun (x12 : Int) (g10 : PG) (u11 : PM) =>
              if x12 = 0 then
                some (0, vI 1, g10, u11)
              else
                some (0, vI 0, g10, u11)) noX) else none) else none
          else
            some (0, vI 0, g7, u8)) noX) else none) else none)) else none) else none
    else
      some (0, vI 0, g1, u2)) noX) else none := (run_bl (m := M_St_allowsPiece) (T := T_St_allowsPiece) (hh := []) (stop := []) rfl rfl rfl 25 (pc := 0) (L := [vA t, vA p1]) (S := []) rfl).trans rfl
set_option maxRecDepth 100000 in
theorem C_St_putPiece (t : Nat) (p1 : Nat) (g : PG) (u : PM) : call M_St_putPiece [vA t, vA p1] g u =
  bif pW t && pO (pK g t) 8 then (
  bif pW t && pO (pK g t) 8 then (
  cR (call M_St_playerOf [vA t, vI (u t 4)] g u) (fun (r3 : Nat) (g1 : PG) (u2 : PM) =>
    bif pW t && pO (pK g1 t) 8 then (
    bif pW (t + 1) && pO (pK g1 (t + 1)) 9 then (
    cI (call M_Tk_pointsOf [vA (t + 1), vA p1] g1 u2) (fun (x6 : Int) (g4 : PG) (u5 : PM) =>
      run M_St_putPiece 21 [vA t, vA p1, vA r3, vI x6, vI 0] [] g4 u5) noX) else none) else none)) else none) else none := (run_bl (m := M_St_putPiece) (T := T_St_putPiece) (hh := []) (stop := [(21, [true, true, true, true, true])]) rfl rfl rfl 63 (pc := 0) (L := [vA t, vA p1, vN, vN, vN]) (S := []) rfl).trans rfl
set_option maxRecDepth 100000 in
theorem R_St_putPiece_21 (t : Nat) (p1 : Nat) (p2 : Nat) (a3 : Int) (a4 : Int) (g : PG) (u : PM) : run M_St_putPiece 21 [vA t, vA p1, vA p2, vI a3, vI a4] [] g u =
  bif pW p1 && pO (pK g p1) 2 then (
  if a4 < (u p1 4) then
    bif pW t && pO (pK g t) 8 then (
    bif pW p1 && pO (pK g p1) 2 then (
    cI (call M_Fp_columnOf [vA p1, vI a4] g u) (fun (x3 : Int) (g1 : PG) (u2 : PM) =>
      bif pW p1 && pO (pK g1 p1) 2 then (
      cI (call M_Fp_rowOf [vA p1, vI a4] g1 u2) (fun (x6 : Int) (g4 : PG) (u5 : PM) =>
        bif pW t && pO (pK g4 t) 8 then (
        bif pW (t + 4) && pO (pK g4 (t + 4)) 4 then (
        bif pW (t + 1) && pO (pK g4 (t + 1)) 9 then (
        cV (call M_Tk_setCell [vA (t + 1), vI x3, vI x6, vI (u5 (t + 4) 0)] g4 u5) (fun (g7 : PG) (u8 : PM) =>
          run M_St_putPiece 21 [vA t, vA p1, vA p2, vI a3, vI (w (a4 + 1))] [] g7 u8) noX) else none) else none) else none) noX) else none) noX) else none) else none
  else
    bif pW t && pO (pK g t) 8 then (
    bif pW t && pO (pK g t) 8 then (
    bif pW (t + 4) && pO (pK g (t + 4)) 4 then (
    cV (call M_Pi_add [vA (t + 4), vA p1, vI (u t 4), vI a3] g u) (fun (g9 : PG) (u10 : PM) =>
      bif pW p1 && pO (pK g9 p1) 2 then (
      bif pW p1 && pO (pK g9 p1) 2 then (
      bif pW p2 && pO (pK g9 p2) 5 then (
      cI (call M_Pl_supplyOf [vA p2, vI (u10 p1 0)] g9 u10) (fun (x13 : Int) (g11 : PG) (u12 : PM) =>
        bif pW p2 && pO (pK g11 p2) 5 then (
        cV (call M_Pl_setSupply [vA p2, vI (u10 p1 0), vI (w (x13 - 1))] g11 u12) (fun (g14 : PG) (u15 : PM) =>
          bif pW p2 && pO (pK g14 p2) 5 then (
          bif pW p2 && pO (pK g14 p2) 5 then (
          bif pW t && pO (pK g14 t) 8 then (
          cV (call M_St_endTurn [vA t, vI 0] g14 (up u15 p2 0 (w ((u15 p2 0) + a3)))) (fun (g16 : PG) (u17 : PM) =>
            some (0, vI a3, g16, u17)) noX) else none) else none) else none) noX) else none) noX) else none) else none) else none) noX) else none) else none) else none) else none := (run_bl (m := M_St_putPiece) (T := T_St_putPiece) (hh := []) (stop := [(21, [true, true, true, true, true])]) rfl rfl rfl 63 (pc := 21) (L := [vA t, vA p1, vA p2, vI a3, vI a4]) (S := []) rfl).trans rfl
set_option maxRecDepth 100000 in
theorem C_St_allowsStrap (t : Nat) (a1 : Int) (a2 : Int) (a3 : Int) (g : PG) (u : PM) : call M_St_allowsStrap [vA t, vI a1, vI a2, vI a3] g u =
  bif pW t && pO (pK g t) 8 then (
  cI (call M_St_isFinished [vA t] g u) (fun (x3 : Int) (g1 : PG) (u2 : PM) =>
    if x3 = 0 then
      bif pW t && pO (pK g1 t) 8 then (
      bif pW t && pO (pK g1 t) 8 then (
      cR (call M_St_playerOf [vA t, vI (u2 t 4)] g1 u2) (fun (r6 : Nat) (g4 : PG) (u5 : PM) =>
        bif pW r6 && pO (pK g4 r6) 5 then (
        if 0 < (u5 r6 1) then
          bif pW t && pO (pK g4 t) 8 then (
          bif pW (t + 1) && pO (pK g4 (t + 1)) 9 then (
          cI (call M_Tk_strapAt [vA (t + 1), vI a1, vI a2, vI a3] g4 u5) (fun (x9 : Int) (g7 : PG) (u8 : PM) =>
            if x9 = 0 then
              bif pW t && pO (pK g7 t) 8 then (
              bif pW (t + 1) && pO (pK g7 (t + 1)) 9 then (
              cI (call M_Tk_isEdgeBlocked [vA (t + 1), vI a1, vI a2, vI a3] g7 u8) (fun (x12 : Int) (g10 : PG) (u11 : PM) =>
                if x12 = 0 then
                  bif pW t && pO (pK g10 t) 8 then (
                  bif pW (t + 1) && pO (pK g10 (t + 1)) 9 then (
                  cI (call M_Tk_isEdgeCovered [vA (t + 1), vI a1, vI a2, vI a3] g10 u11) (fun (x15 : Int) (g13 : PG) (u14 : PM) =>
                    if x15 = 0 then
                      some (0, vI 1, g13, u14)
                    else
                      some (0, vI 0, g13, u14)) noX) else none) else none
                else
                  some (0, vI 0, g10, u11)) noX) else none) else none
            else
              some (0, vI 0, g7, u8)) noX) else none) else none
        else
          some (0, vI 0, g4, u5)) else none)) else none) else none
    else
      some (0, vI 0, g1, u2)) noX) else none := (run_bl (m := M_St_allowsStrap) (T := T_St_allowsStrap) (hh := []) (stop := []) rfl rfl rfl 39 (pc := 0) (L := [vA t, vI a1, vI a2, vI a3]) (S := []) rfl).trans rfl
set_option maxRecDepth 100000 in
theorem C_St_putStrap (t : Nat) (a1 : Int) (a2 : Int) (a3 : Int) (g : PG) (u : PM) : call M_St_putStrap [vA t, vI a1, vI a2, vI a3] g u =
  bif pW t && pO (pK g t) 8 then (
  bif pW t && pO (pK g t) 8 then (
  cR (call M_St_playerOf [vA t, vI (u t 4)] g u) (fun (r3 : Nat) (g1 : PG) (u2 : PM) =>
    bif pW t && pO (pK g1 t) 8 then (
    bif pW (t + 1) && pO (pK g1 (t + 1)) 9 then (
    cV (call M_Tk_setStrap [vA (t + 1), vI a1, vI a2, vI a3] g1 u2) (fun (g4 : PG) (u5 : PM) =>
      bif pW r3 && pO (pK g4 r3) 5 then (
      bif pW r3 && pO (pK g4 r3) 5 then (
      bif pW t && pO (pK g4 t) 8 then (
      cV (call M_St_endTurn [vA t, vI 0] g4 (up u5 r3 1 (w ((u5 r3 1) - 1)))) (fun (g6 : PG) (u7 : PM) =>
        bif pW r3 && pO (pK g6 r3) 5 then (
        some (0, vI (u7 r3 1), g6, u7)) else none) noX) else none) else none) else none) noX) else none) else none)) else none) else none := (run_bl (m := M_St_putStrap) (T := T_St_putStrap) (hh := []) (stop := []) rfl rfl rfl 28 (pc := 0) (L := [vA t, vI a1, vI a2, vI a3, vN]) (S := []) rfl).trans rfl
set_option maxRecDepth 100000 in
theorem C_St_allowsPass (t : Nat) (p1 : Nat) (g : PG) (u : PM) : call M_St_allowsPass [vA t, vA p1] g u =
  bif pW t && pO (pK g t) 8 then (
  cI (call M_St_isFinished [vA t] g u) (fun (x3 : Int) (g1 : PG) (u2 : PM) =>
    if x3 = 0 then
      bif pW t && pO (pK g1 t) 8 then (
      bif pW t && pO (pK g1 t) 8 then (
      cR (call M_St_playerOf [vA t, vI (u2 t 4)] g1 u2) (fun (r6 : Nat) (g4 : PG) (u5 : PM) =>
        run M_St_allowsPass 20 [vA t, vA p1, vA r6, vI 0] [] g4 u5)) else none) else none
    else
      some (0, vI 0, g1, u2)) noX) else none := (run_bl (m := M_St_allowsPass) (T := T_St_allowsPass) (hh := []) (stop := [(20, [true, true, true, true])]) rfl rfl rfl 38 (pc := 0) (L := [vA t, vA p1, vN, vN]) (S := []) rfl).trans rfl
set_option maxRecDepth 100000 in
theorem R_St_allowsPass_20 (t : Nat) (p1 : Nat) (p2 : Nat) (a3 : Int) (g : PG) (u : PM) : run M_St_allowsPass 20 [vA t, vA p1, vA p2, vI a3] [] g u =
  if a3 < 5 then
    bif pW p1 && pO (pK g p1) 2 then (
    cV (call M_Fp_startAll [vA p1, vI a3] g u) (fun (g1 : PG) (u2 : PM) =>
      bif pW p2 && pO (pK g1 p2) 5 then (
      cI (call M_Pl_supplyOf [vA p2, vI a3] g1 u2) (fun (x5 : Int) (g3 : PG) (u4 : PM) =>
        if 0 < x5 then
          bif pW t && pO (pK g3 t) 8 then (
          bif pW (t + 1) && pO (pK g3 (t + 1)) 9 then (
          cI (call M_Tk_findNext [vA (t + 1), vA p1] g3 u4) (fun (x8 : Int) (g6 : PG) (u7 : PM) =>
            if x8 = 0 then
              run M_St_allowsPass 20 [vA t, vA p1, vA p2, vI (w (a3 + 1))] [] g6 u7
            else
              some (0, vI 0, g6, u7)) noX) else none) else none
        else
          run M_St_allowsPass 20 [vA t, vA p1, vA p2, vI (w (a3 + 1))] [] g3 u4) noX) else none) noX) else none
  else
    some (0, vI 1, g, u) := (run_bl (m := M_St_allowsPass) (T := T_St_allowsPass) (hh := []) (stop := [(20, [true, true, true, true])]) rfl rfl rfl 38 (pc := 20) (L := [vA t, vA p1, vA p2, vI a3]) (S := []) rfl).trans rfl
set_option maxRecDepth 100000 in
theorem C_St_skipTurn (t : Nat) (g : PG) (u : PM) : call M_St_skipTurn [vA t] g u =
  bif pW t && pO (pK g t) 8 then (
  bif pW t && pO (pK g t) 8 then (
  cV (call M_St_endTurn [vA t, vI (w ((u t 5) + 1))] g u) (fun (g1 : PG) (u2 : PM) =>
    bif pW t && pO (pK g1 t) 8 then (
    some (0, vI (u2 t 5), g1, u2)) else none) noX) else none) else none := (run_bl (m := M_St_skipTurn) (T := T_St_skipTurn) (hh := []) (stop := []) rfl rfl rfl 14 (pc := 0) (L := [vA t]) (S := []) rfl).trans rfl
set_option maxRecDepth 100000 in
theorem C_St_countMoves (t : Nat) (a1 : Int) (p2 : Nat) (g : PG) (u : PM) : call M_St_countMoves [vA t, vI a1, vA p2] g u =
  run M_St_countMoves 5 [vA t, vI a1, vA p2, vI 0, vI 0] [] g u := (run_bl (m := M_St_countMoves) (T := T_St_countMoves) (hh := []) (stop := [(5, [true, true, true, true, true])]) rfl rfl rfl 30 (pc := 0) (L := [vA t, vI a1, vA p2, vN, vN]) (S := []) rfl).trans rfl
set_option maxRecDepth 100000 in
theorem R_St_countMoves_5 (t : Nat) (a1 : Int) (p2 : Nat) (a3 : Int) (a4 : Int) (g : PG) (u : PM) : run M_St_countMoves 5 [vA t, vI a1, vA p2, vI a3, vI a4] [] g u =
  if a4 < 5 then
    bif pW t && pO (pK g t) 8 then (
    cR (call M_St_playerOf [vA t, vI a1] g u) (fun (r3 : Nat) (g1 : PG) (u2 : PM) =>
      bif pW r3 && pO (pK g1 r3) 5 then (
      cI (call M_Pl_supplyOf [vA r3, vI a4] g1 u2) (fun (x6 : Int) (g4 : PG) (u5 : PM) =>
        if 0 < x6 then
          bif pW t && pO (pK g4 t) 8 then (
          bif pW (t + 1) && pO (pK g4 (t + 1)) 9 then (
          cI (call M_Tk_countFitting [vA (t + 1), vI a4, vA p2] g4 u5) (fun (x9 : Int) (g7 : PG) (u8 : PM) =>
            run M_St_countMoves 5 [vA t, vI a1, vA p2, vI (w (a3 + x9)), vI (w (a4 + 1))] [] g7 u8) noX) else none) else none
        else
          run M_St_countMoves 5 [vA t, vI a1, vA p2, vI a3, vI (w (a4 + 1))] [] g4 u5) noX) else none)) else none
  else
    some (0, vI a3, g, u) := (run_bl (m := M_St_countMoves) (T := T_St_countMoves) (hh := []) (stop := [(5, [true, true, true, true, true])]) rfl rfl rfl 30 (pc := 5) (L := [vA t, vI a1, vA p2, vI a3, vI a4]) (S := []) rfl).trans rfl
set_option maxRecDepth 100000 in
theorem C_St_endTurn (t : Nat) (a1 : Int) (g : PG) (u : PM) : call M_St_endTurn [vA t, vI a1] g u =
  bif pW t && pO (pK g t) 8 then (
  bif pW t && pO (pK g t) 8 then (
  bif pW t && pO (pK g t) 8 then (
  some (0, vN, g, up (up u t 5 a1) t 4 (w (1 - ((up u t 5 a1) t 4))))) else none) else none) else none := (run_bl (m := M_St_endTurn) (T := T_St_endTurn) (hh := []) (stop := []) rfl rfl rfl 15 (pc := 0) (L := [vA t, vI a1]) (S := []) rfl).trans rfl
