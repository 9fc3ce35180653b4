/-! ===== equations of blocks, by wip/whole/vgen2.py TM_ ===== -/
set_option maxRecDepth 100000 in
theorem C_TM_lays (t : Nat) (p1 : Nat) (g : PG) (u : PM) : call M_TM_lays [vA t, vA p1] g u =
  pTx (gStr p1) (fun (tx1 : List Nat) =>
  bif pW t && pO (pK g t) 11 then (
  run M_TM_lays 10 [vA t, vA p1, vI 0] [] g (up u t 13 ((List.length tx1 : Int)))) else none) := (run_bl (m := M_TM_lays) (T := T_TM_lays) (hh := []) (stop := [(10, [true, true, true])]) rfl rfl rfl 31 (pc := 0) (L := [vA t, vA p1, vN]) (S := []) rfl).trans rfl
set_option maxRecDepth 100000 in
theorem R_TM_lays_10 (t : Nat) (p1 : Nat) (a2 : Int) (g : PG) (u : PM) : run M_TM_lays 10 [vA t, vA p1, vI a2] [] g u =
  bif pW t && pO (pK g t) 11 then (
  if a2 < (u t 13) then
    bif pW t && pO (pK g t) 11 then (
    pTx (gStr p1) (fun (tx1 : List Nat) =>
    bif decide (0 ≤ a2) && decide (a2 < (List.length tx1 : Int)) then (
    bif pW (t + 7) && pR (pK g (t + 7)) 0 a2 then (
    run M_TM_lays 10 [vA t, vA p1, vI (w (a2 + 1))] [] g (up u (t + 7) a2 (((List.getD tx1 (Int.toNat a2) 0 : Nat) : Int)))) else none) else none)) else none
  else
    bif pW t && pO (pK g t) 11 then (
    cI (call M_TM_load [vA t] g u) (fun (x4 : Int) (g2 : PG) (u3 : PM) =>
      bif pW t && pO (pK g2 t) 11 then (
      some (0, vN, g2, up u3 t 6 0)) else none) noX) else none) else none := (run_bl (m := M_TM_lays) (T := T_TM_lays) (hh := []) (stop := [(10, [true, true, true])]) rfl rfl rfl 31 (pc := 10) (L := [vA t, vA p1, vI a2]) (S := []) rfl).trans rfl
set_option maxRecDepth 100000 in
theorem C_TM_thrown (t : Nat) (g : PG) (u : PM) : call M_TM_thrown [vA t] g u =
  bif pW t && pO (pK g t) 11 then (
  some (0, vI (u t 7), g, u)) else none := (run_bl (m := M_TM_thrown) (T := T_TM_thrown) (hh := []) (stop := []) rfl rfl rfl 8 (pc := 0) (L := [vA t]) (S := []) rfl).trans rfl
set_option maxRecDepth 100000 in
theorem C_TM_fails (t : Nat) (a1 : Int) (a2 : Int) (a3 : Int) (g : PG) (u : PM) : call M_TM_fails [vA t, vI a1, vI a2, vI a3] g u =
  if a1 = 0 then
    if a2 = 0 then
      if a3 = 0 then
        run M_TM_fails 26 [vA t, vI a1, vI a2, vI a3] [vI 0, vA t] g u
      else
        run M_TM_fails 26 [vA t, vI a1, vI a2, vI a3] [vI 3, vA t] g u
    else
      run M_TM_fails 26 [vA t, vI a1, vI a2, vI a3] [vI 2, vA t] g u
  else
    run M_TM_fails 26 [vA t, vI a1, vI a2, vI a3] [vI 1, vA t] g u := (run_bl (m := M_TM_fails) (T := T_TM_fails) (hh := []) (stop := [(26, [true, true, true, true])]) rfl rfl rfl 27 (pc := 0) (L := [vA t, vI a1, vI a2, vI a3]) (S := []) rfl).trans rfl
set_option maxRecDepth 100000 in
theorem R_TM_fails_26 (t : Nat) (a1 : Int) (a2 : Int) (a3 : Int) (s0 : Int) (s1 : Nat) (g : PG) (u : PM) : run M_TM_fails 26 [vA t, vI a1, vI a2, vI a3] [vI s0, vA s1] g u =
  bif pW s1 && pO (pK g s1) 11 then (
  bif pW t && pO (pK g t) 11 then (
  if 0 < ((up u s1 7 s0) t 7) then
    some (0, vI 1, g, up u s1 7 s0)
  else
    some (0, vI 0, g, up u s1 7 s0)) else none) else none := (run_bl (m := M_TM_fails) (T := T_TM_fails) (hh := []) (stop := [(26, [true, true, true, true])]) rfl rfl rfl 27 (pc := 26) (L := [vA t, vI a1, vI a2, vI a3]) (S := [vI s0, vA s1]) rfl).trans rfl
set_option maxRecDepth 100000 in
theorem C_TM_told (t : Nat) (a1 : Int) (g : PG) (u : PM) : call M_TM_told [vA t, vI a1] g u =
  bif pW t && pO (pK g t) 11 then (
  some (0, vI a1, g, up u t 7 0)) else none := (run_bl (m := M_TM_told) (T := T_TM_told) (hh := []) (stop := []) rfl rfl rfl 10 (pc := 0) (L := [vA t, vI a1]) (S := []) rfl).trans rfl
set_option maxRecDepth 100000 in
theorem C_TM_isIn (a0 : Int) (a1 : Int) (a2 : Int) (g : PG) (u : PM) : call M_TM_isIn [vI a0, vI a1, vI a2] g u =
  if a0 < a1 then
    some (0, vI 0, g, u)
  else
    if a2 < a0 then
      some (0, vI 0, g, u)
    else
      some (0, vI 1, g, u) := (run_bl (m := M_TM_isIn) (T := T_TM_isIn) (hh := []) (stop := []) rfl rfl rfl 15 (pc := 0) (L := [vI a0, vI a1, vI a2]) (S := []) rfl).trans rfl
set_option maxRecDepth 100000 in
theorem C_TM_copy (p0 : Nat) (a1 : Int) (p2 : Nat) (a3 : Int) (g : PG) (u : PM) : call M_TM_copy [vA p0, vI a1, vA p2, vI a3] g u =
  bif (pW p2 && pW p0) && pCp (pK g p0) (pK g p2) 417 a3 a1 then (
  some (0, vN, g, cpy u p0 p2 a1 a3 417)) else none := (run_bl (m := M_TM_copy) (T := T_TM_copy) (hh := []) (stop := []) rfl rfl rfl 12 (pc := 0) (L := [vA p0, vI a1, vA p2, vI a3]) (S := []) rfl).trans rfl
set_option maxRecDepth 100000 in
theorem C_TM_remember (t : Nat) (p1 : Nat) (g : PG) (u : PM) : call M_TM_remember [vA t, vA p1] g u =
  bif pW t && pO (pK g t) 11 then (
  if (u t 6) = 8 then
    bif pW t && pO (pK g t) 11 then (
    bif pW t && pO (pK g t) 11 then (
    bif (pW (t + 3) && pW (t + 3)) && pCp (pK g (t + 3)) (pK g (t + 3)) 2919 0 417 then (
    bif pW t && pO (pK g t) 11 then (
    bif pW t && pO (pK g t) 11 then (
    run M_TM_remember 37 [vA t, vA p1] [] g (up (cpy u (t + 3) (t + 3) 417 0 2919) t 6 (w (((cpy u (t + 3) (t + 3) 417 0 2919) t 6) - 1)))) else none) else none) else none) else none) else none
  else
    run M_TM_remember 37 [vA t, vA p1] [] g u) else none := (run_bl (m := M_TM_remember) (T := T_TM_remember) (hh := []) (stop := [(37, [true, true])]) rfl rfl rfl 39 (pc := 0) (L := [vA t, vA p1]) (S := []) rfl).trans rfl
set_option maxRecDepth 100000 in
theorem R_TM_remember_37 (t : Nat) (p1 : Nat) (g : PG) (u : PM) : run M_TM_remember 37 [vA t, vA p1] [] g u =
  bif pW t && pO (pK g t) 11 then (
  bif pW t && pO (pK g t) 11 then (
  cV (call M_TM_copy [vA p1, vI 0, vA (t + 3), vI (w ((u t 6) * 417))] g u) (fun (g1 : PG) (u2 : PM) =>
    bif pW t && pO (pK g1 t) 11 then (
    bif pW t && pO (pK g1 t) 11 then (
    some (0, vN, g1, up u2 t 6 (w ((u2 t 6) + 1)))) else none) else none) noX) else none) else none := (run_bl (m := M_TM_remember) (T := T_TM_remember) (hh := []) (stop := [(37, [true, true])]) rfl rfl rfl 39 (pc := 37) (L := [vA t, vA p1]) (S := []) rfl).trans rfl
set_option maxRecDepth 100000 in
theorem C_TM_isInside (t : Nat) (a1 : Int) (a2 : Int) (g : PG) (u : PM) : call M_TM_isInside [vA t, vI a1, vI a2] g u =
  bif pW t && pO (pK g t) 11 then (
  bif pR (pK g (t + 1)) 0 0 then (
  cI (call M_TM_isIn [vI a1, vI 0, vI (w ((u (t + 1) 0) - 1))] g u) (fun (x3 : Int) (g1 : PG) (u2 : PM) =>
    if x3 = 0 then
      some (0, vI 0, g1, u2)
    else
      bif pW t && pO (pK g1 t) 11 then (
      bif pR (pK g1 (t + 1)) 0 1 then (
      cI (call M_TM_isIn [vI a2, vI 0, vI (w ((u2 (t + 1) 1) - 1))] g1 u2) (fun (x6 : Int) (g4 : PG) (u5 : PM) =>
        if x6 = 0 then
          some (0, vI 0, g4, u5)
        else
          some (0, vI 1, g4, u5)) noX) else none) else none) noX) else none) else none := (run_bl (m := M_TM_isInside) (T := T_TM_isInside) (hh := []) (stop := []) rfl rfl rfl 29 (pc := 0) (L := [vA t, vI a1, vI a2]) (S := []) rfl).trans rfl
set_option maxRecDepth 100000 in
theorem C_TM_at (a0 : Int) (a1 : Int) (g : PG) (u : PM) : call M_TM_at [vI a0, vI a1] g u =
  some (0, vI (w ((w (8 * a1)) + a0)), g, u) := (run_bl (m := M_TM_at) (T := T_TM_at) (hh := []) (stop := []) rfl rfl rfl 11 (pc := 0) (L := [vI a0, vI a1]) (S := []) rfl).trans rfl
set_option maxRecDepth 100000 in
theorem C_TM_cell (t : Nat) (a1 : Int) (a2 : Int) (g : PG) (u : PM) : call M_TM_cell [vA t, vI a1, vI a2] g u =
  bif pW t && pO (pK g t) 11 then (
  cI (call M_TM_at [vI a1, vI a2] g u) (fun (x3 : Int) (g1 : PG) (u2 : PM) =>
    bif pR (pK g1 (t + 1)) 0 (w (33 + x3)) then (
    some (0, vI (u2 (t + 1) (w (33 + x3))), g1, u2)) else none) noX) else none := (run_bl (m := M_TM_cell) (T := T_TM_cell) (hh := []) (stop := []) rfl rfl rfl 14 (pc := 0) (L := [vA t, vI a1, vI a2]) (S := []) rfl).trans rfl
set_option maxRecDepth 100000 in
theorem C_TM_isEmpty (t : Nat) (a1 : Int) (a2 : Int) (g : PG) (u : PM) : call M_TM_isEmpty [vA t, vI a1, vI a2] g u =
  bif pW t && pO (pK g t) 11 then (
  cI (call M_TM_isInside [vA t, vI a1, vI a2] g u) (fun (x3 : Int) (g1 : PG) (u2 : PM) =>
    if x3 = 0 then
      some (0, vI 0, g1, u2)
    else
      bif pW t && pO (pK g1 t) 11 then (
      cI (call M_TM_cell [vA t, vI a1, vI a2] g1 u2) (fun (x6 : Int) (g4 : PG) (u5 : PM) =>
        if x6 = 0 then
          some (0, vI 1, g4, u5)
        else
          some (0, vI 0, g4, u5)) noX) else none) noX) else none := (run_bl (m := M_TM_isEmpty) (T := T_TM_isEmpty) (hh := []) (stop := []) rfl rfl rfl 19 (pc := 0) (L := [vA t, vI a1, vI a2]) (S := []) rfl).trans rfl
set_option maxRecDepth 100000 in
theorem C_TM_pieceOf (t : Nat) (a1 : Int) (a2 : Int) (g : PG) (u : PM) : call M_TM_pieceOf [vA t, vI a1, vI a2] g u =
  bif pW t && pO (pK g t) 11 then (
  cI (call M_TM_cell [vA t, vI a1, vI a2] g u) (fun (x3 : Int) (g1 : PG) (u2 : PM) =>
    if x3 < 2 then
      some (0, vI (-1), g1, u2)
    else
      bif pW t && pO (pK g1 t) 11 then (
      cI (call M_TM_cell [vA t, vI a1, vI a2] g1 u2) (fun (x6 : Int) (g4 : PG) (u5 : PM) =>
        some (0, vI (w (x6 - 2)), g4, u5)) noX) else none) noX) else none := (run_bl (m := M_TM_pieceOf) (T := T_TM_pieceOf) (hh := []) (stop := []) rfl rfl rfl 20 (pc := 0) (L := [vA t, vI a1, vI a2]) (S := []) rfl).trans rfl
set_option maxRecDepth 100000 in
theorem C_TM_isEdge (t : Nat) (a1 : Int) (a2 : Int) (a3 : Int) (g : PG) (u : PM) : call M_TM_isEdge [vA t, vI a1, vI a2, vI a3] g u =
  bif pW t && pO (pK g t) 11 then (
  cI (call M_TM_isInside [vA t, vI a1, vI a2] g u) (fun (x3 : Int) (g1 : PG) (u2 : PM) =>
    if x3 = 0 then
      some (0, vI 0, g1, u2)
    else
      if a3 = 0 then
        bif pW t && pO (pK g1 t) 11 then (
        cI (call M_TM_isInside [vA t, vI (w (a1 + 1)), vI a2] g1 u2) (fun (x6 : Int) (g4 : PG) (u5 : PM) =>
          if x6 = 0 then
            some (0, vI 0, g4, u5)
          else
            some (0, vI 1, g4, u5)) noX) else none
      else
        bif pW t && pO (pK g1 t) 11 then (
        cI (call M_TM_isInside [vA t, vI a1, vI (w (a2 + 1))] g1 u2) (fun (x9 : Int) (g7 : PG) (u8 : PM) =>
          if x9 = 0 then
            some (0, vI 0, g7, u8)
          else
            some (0, vI 1, g7, u8)) noX) else none) noX) else none := (run_bl (m := M_TM_isEdge) (T := T_TM_isEdge) (hh := []) (stop := []) rfl rfl rfl 31 (pc := 0) (L := [vA t, vI a1, vI a2, vI a3]) (S := []) rfl).trans rfl
set_option maxRecDepth 100000 in
theorem C_TM_edge (a0 : Int) (a1 : Int) (a2 : Int) (g : PG) (u : PM) : call M_TM_edge [vI a0, vI a1, vI a2] g u =
  if a2 = 0 then
    run M_TM_edge 12 [vI a0, vI a1, vI a2] [vI 97] g u
  else
    run M_TM_edge 12 [vI a0, vI a1, vI a2] [vI 161] g u := (run_bl (m := M_TM_edge) (T := T_TM_edge) (hh := []) (stop := [(12, [true, true, true])]) rfl rfl rfl 15 (pc := 0) (L := [vI a0, vI a1, vI a2]) (S := []) rfl).trans rfl
set_option maxRecDepth 100000 in
theorem R_TM_edge_12 (a0 : Int) (a1 : Int) (a2 : Int) (s0 : Int) (g : PG) (u : PM) : run M_TM_edge 12 [vI a0, vI a1, vI a2] [vI s0] g u =
  cI (call M_TM_at [vI a0, vI a1] g u) (fun (x3 : Int) (g1 : PG) (u2 : PM) =>
    some (0, vI (w (s0 + x3)), g1, u2)) noX := (run_bl (m := M_TM_edge) (T := T_TM_edge) (hh := []) (stop := [(12, [true, true, true])]) rfl rfl rfl 15 (pc := 12) (L := [vI a0, vI a1, vI a2]) (S := [vI s0]) rfl).trans rfl
set_option maxRecDepth 100000 in
theorem C_TM_isStrapped (t : Nat) (a1 : Int) (a2 : Int) (a3 : Int) (a4 : Int) (g : PG) (u : PM) : call M_TM_isStrapped [vA t, vI a1, vI a2, vI a3, vI a4] g u =
  bif pW t && pO (pK g t) 11 then (
  if a2 = a4 then
    run M_TM_isStrapped 26 [vA t, vI a1, vI a2, vI a3, vI a4] [vI 0, vI (min2 a2 a4), vI (min2 a1 a3), vA (t + 1)] g u
  else
    run M_TM_isStrapped 26 [vA t, vI a1, vI a2, vI a3, vI a4] [vI 1, vI (min2 a2 a4), vI (min2 a1 a3), vA (t + 1)] g u) else none := (run_bl (m := M_TM_isStrapped) (T := T_TM_isStrapped) (hh := []) (stop := [(26, [true, true, true, true, true])]) rfl rfl rfl 27 (pc := 0) (L := [vA t, vI a1, vI a2, vI a3, vI a4]) (S := []) rfl).trans rfl
set_option maxRecDepth 100000 in
theorem R_TM_isStrapped_26 (t : Nat) (a1 : Int) (a2 : Int) (a3 : Int) (a4 : Int) (s0 : Int) (s1 : Int) (s2 : Int) (s3 : Nat) (g : PG) (u : PM) : run M_TM_isStrapped 26 [vA t, vI a1, vI a2, vI a3, vI a4] [vI s0, vI s1, vI s2, vA s3] g u =
  cI (call M_TM_edge [vI s2, vI s1, vI s0] g u) (fun (x3 : Int) (g1 : PG) (u2 : PM) =>
    bif pR (pK g1 s3) 0 x3 then (
    if (u2 s3 x3) = 1 then
      some (0, vI 1, g1, u2)
    else
      some (0, vI 0, g1, u2)) else none) noX := (run_bl (m := M_TM_isStrapped) (T := T_TM_isStrapped) (hh := []) (stop := [(26, [true, true, true, true, true])]) rfl rfl rfl 27 (pc := 26) (L := [vA t, vI a1, vI a2, vI a3, vI a4]) (S := [vI s0, vI s1, vI s2, vA s3]) rfl).trans rfl
set_option maxRecDepth 100000 in
theorem C_TM_areNeighbours (a0 : Int) (a1 : Int) (a2 : Int) (a3 : Int) (g : PG) (u : PM) : call M_TM_areNeighbours [vI a0, vI a1, vI a2, vI a3] g u =
  if (w ((abs2 (w (a0 - a2))) + (abs2 (w (a1 - a3))))) = 1 then
    some (0, vI 1, g, u)
  else
    some (0, vI 0, g, u) := (run_bl (m := M_TM_areNeighbours) (T := T_TM_areNeighbours) (hh := []) (stop := []) rfl rfl rfl 20 (pc := 0) (L := [vI a0, vI a1, vI a2, vI a3]) (S := []) rfl).trans rfl
set_option maxRecDepth 100000 in
theorem C_TM_dx (a0 : Int) (a1 : Int) (g : PG) (u : PM) : call M_TM_dx [vI a0, vI a1] g u =
  if a0 < 1 ∨ 4 < a0 then some (0, vI a1, g, u)
  else if a0 = 1 then if 2 = 0 then none else (
    some (0, vI (rem2 a1 2), g, u))
  else if a0 = 2 then some (0, vI a1, g, u)
  else if a0 = 3 then if 2 = 0 then none else (
    some (0, vI (rem2 a1 2), g, u))
  else if a0 = 4 then if a1 = 3 then
      some (0, vI 0, g, u)
    else
      some (0, vI a1, g, u)
  else none := (run_bl (m := M_TM_dx) (T := T_TM_dx) (hh := []) (stop := []) rfl rfl rfl 20 (pc := 0) (L := [vI a0, vI a1]) (S := []) rfl).trans rfl
set_option maxRecDepth 100000 in
theorem C_TM_dy (a0 : Int) (a1 : Int) (g : PG) (u : PM) : call M_TM_dy [vI a0, vI a1] g u =
  if a0 = 1 then
    if 2 = 0 then none else (
    some (0, vI (div2 a1 2), g, u))
  else
    if a0 = 3 then
      if 2 = 0 then none else (
      some (0, vI (div2 a1 2), g, u))
    else
      if a0 = 4 then
        if a1 = 3 then
          some (0, vI 1, g, u)
        else
          some (0, vI 0, g, u)
      else
        some (0, vI 0, g, u) := (run_bl (m := M_TM_dy) (T := T_TM_dy) (hh := []) (stop := []) rfl rfl rfl 25 (pc := 0) (L := [vI a0, vI a1]) (S := []) rfl).trans rfl
set_option maxRecDepth 100000 in
theorem C_TM_sizeOf (a0 : Int) (g : PG) (u : PM) : call M_TM_sizeOf [vI a0] g u =
  if a0 = 0 then
    some (0, vI 2, g, u)
  else
    if a0 < 3 then
      some (0, vI 3, g, u)
    else
      some (0, vI 4, g, u) := (run_bl (m := M_TM_sizeOf) (T := T_TM_sizeOf) (hh := []) (stop := []) rfl rfl rfl 16 (pc := 0) (L := [vI a0]) (S := []) rfl).trans rfl
set_option maxRecDepth 100000 in
theorem C_TM_spreads (t : Nat) (a1 : Int) (a2 : Int) (a3 : Int) (a4 : Int) (g : PG) (u : PM) : call M_TM_spreads [vA t, vI a1, vI a2, vI a3, vI a4] g u =
  cI (call M_TM_sizeOf [vI a1] g u) (fun (x3 : Int) (g1 : PG) (u2 : PM) =>
    bif pW t && pO (pK g1 t) 11 then (
    run M_TM_spreads 11 [vA t, vI a1, vI a2, vI a3, vI a4, vI 0, vN, vN, vN, vN] [] g1 (up u2 t 17 x3)) else none) noX := (run_bl (m := M_TM_spreads) (T := T_TM_spreads) (hh := []) (stop := [(11, [true, true, true, true, true, true, false, false, false, false]), (39, [true, true, true, true, true, true, true, true, true, false])]) rfl rfl rfl 54 (pc := 0) (L := [vA t, vI a1, vI a2, vI a3, vI a4, vN, vN, vN, vN, vN]) (S := []) rfl).trans rfl
set_option maxRecDepth 100000 in
theorem R_TM_spreads_11 (t : Nat) (a1 : Int) (a2 : Int) (a3 : Int) (a4 : Int) (a5 : Int) (g : PG) (u : PM) : run M_TM_spreads 11 [vA t, vI a1, vI a2, vI a3, vI a4, vI a5, vN, vN, vN, vN] [] g u =
  bif pW t && pO (pK g t) 11 then (
  if a5 < (u t 17) then
    cI (call M_TM_dx [vI a1, vI a5] g u) (fun (x3 : Int) (g1 : PG) (u2 : PM) =>
      cI (call M_TM_dy [vI a1, vI a5] g1 u2) (fun (x6 : Int) (g4 : PG) (u5 : PM) =>
        run M_TM_spreads 39 [vA t, vI a1, vI a2, vI a3, vI a4, vI a5, vI x3, vI x6, vI 0, vN] [] g4 u5) noX) noX
  else
    some (0, vN, g, u)) else none := (run_bl (m := M_TM_spreads) (T := T_TM_spreads) (hh := []) (stop := [(11, [true, true, true, true, true, true, false, false, false, false]), (39, [true, true, true, true, true, true, true, true, true, false])]) rfl rfl rfl 54 (pc := 11) (L := [vA t, vI a1, vI a2, vI a3, vI a4, vI a5, vN, vN, vN, vN]) (S := []) rfl).trans rfl
set_option maxRecDepth 100000 in
theorem R_TM_spreads_39 (t : Nat) (a1 : Int) (a2 : Int) (a3 : Int) (a4 : Int) (a5 : Int) (a6 : Int) (a7 : Int) (a8 : Int) (g : PG) (u : PM) : run M_TM_spreads 39 [vA t, vI a1, vI a2, vI a3, vI a4, vI a5, vI a6, vI a7, vI a8, vN] [] g u =
  if a8 < a2 then
    run M_TM_spreads 39 [vA t, vI a1, vI a2, vI a3, vI a4, vI a5, vI (w (-a7)), vI a6, vI (w (a8 + 1)), vN] [] g u
  else
    bif pW t && pO (pK g t) 11 then (
    bif pW (t + 9) && pR (pK g (t + 9)) 0 a5 then (
    bif pW t && pO (pK g t) 11 then (
    bif pW (t + 10) && pR (pK g (t + 10)) 0 a5 then (
    run M_TM_spreads 11 [vA t, vI a1, vI a2, vI a3, vI a4, vI (w (a5 + 1)), vN, vN, vN, vN] [] g (up (up u (t + 9) a5 (w (a3 + a6))) (t + 10) a5 (w (a4 + a7)))) else none) else none) else none) else none := (run_bl (m := M_TM_spreads) (T := T_TM_spreads) (hh := []) (stop := [(11, [true, true, true, true, true, true, false, false, false, false]), (39, [true, true, true, true, true, true, true, true, true, false])]) rfl rfl rfl 54 (pc := 39) (L := [vA t, vI a1, vI a2, vI a3, vI a4, vI a5, vI a6, vI a7, vI a8, vN]) (S := []) rfl).trans rfl
set_option maxRecDepth 100000 in
theorem C_TM_crosses (t : Nat) (g : PG) (u : PM) : call M_TM_crosses [vA t] g u =
  run M_TM_crosses 2 [vA t, vI 0, vN] [] g u := (run_bl (m := M_TM_crosses) (T := T_TM_crosses) (hh := []) (stop := [(2, [true, true, false]), (12, [true, true, true])]) rfl rfl rfl 61 (pc := 0) (L := [vA t, vN, vN]) (S := []) rfl).trans rfl
set_option maxRecDepth 100000 in
theorem R_TM_crosses_2 (t : Nat) (a1 : Int) (g : PG) (u : PM) : run M_TM_crosses 2 [vA t, vI a1, vN] [] g u =
  bif pW t && pO (pK g t) 11 then (
  if a1 < (u t 17) then
    run M_TM_crosses 12 [vA t, vI a1, vI 0] [] g u
  else
    some (0, vI 0, g, u)) else none := (run_bl (m := M_TM_crosses) (T := T_TM_crosses) (hh := []) (stop := [(2, [true, true, false]), (12, [true, true, true])]) rfl rfl rfl 61 (pc := 2) (L := [vA t, vI a1, vN]) (S := []) rfl).trans rfl
set_option maxRecDepth 100000 in
theorem R_TM_crosses_12 (t : Nat) (a1 : Int) (a2 : Int) (g : PG) (u : PM) : run M_TM_crosses 12 [vA t, vI a1, vI a2] [] g u =
  if a2 < a1 then
    bif pW t && pO (pK g t) 11 then (
    bif pR (pK g (t + 9)) 0 a1 then (
    bif pW t && pO (pK g t) 11 then (
    bif pR (pK g (t + 10)) 0 a1 then (
    bif pW t && pO (pK g t) 11 then (
    bif pR (pK g (t + 9)) 0 a2 then (
    bif pW t && pO (pK g t) 11 then (
    bif pR (pK g (t + 10)) 0 a2 then (
    cI (call M_TM_areNeighbours [vI (u (t + 9) a1), vI (u (t + 10) a1), vI (u (t + 9) a2), vI (u (t + 10) a2)] g u) (fun (x3 : Int) (g1 : PG) (u2 : PM) =>
      if x3 = 0 then
        run M_TM_crosses 12 [vA t, vI a1, vI (w (a2 + 1))] [] g1 u2
      else
        bif pW t && pO (pK g1 t) 11 then (
        bif pR (pK g1 (t + 9)) 0 a1 then (
        bif pW t && pO (pK g1 t) 11 then (
        bif pR (pK g1 (t + 10)) 0 a1 then (
        bif pW t && pO (pK g1 t) 11 then (
        bif pR (pK g1 (t + 9)) 0 a2 then (
        bif pW t && pO (pK g1 t) 11 then (
        bif pR (pK g1 (t + 10)) 0 a2 then (
        bif pW t && pO (pK g1 t) 11 then (
        cI (call M_TM_isStrapped [vA t, vI (u2 (t + 9) a1), vI (u2 (t + 10) a1), vI (u2 (t + 9) a2), vI (u2 (t + 10) a2)] g1 u2) (fun (x6 : Int) (g4 : PG) (u5 : PM) =>
          if x6 = 0 then
            run M_TM_crosses 12 [vA t, vI a1, vI (w (a2 + 1))] [] g4 u5
          else
            some (0, vI 1, g4, u5)) noX) else none) else none) else none) else none) else none) else none) else none) else none) else none) noX) else none) else none) else none) else none) else none) else none) else none) else none
  else
    run M_TM_crosses 2 [vA t, vI (w (a1 + 1)), vN] [] g u := (run_bl (m := M_TM_crosses) (T := T_TM_crosses) (hh := []) (stop := [(2, [true, true, false]), (12, [true, true, true])]) rfl rfl rfl 61 (pc := 12) (L := [vA t, vI a1, vI a2]) (S := []) rfl).trans rfl
set_option maxRecDepth 100000 in
theorem C_TM_misfit (t : Nat) (a1 : Int) (a2 : Int) (a3 : Int) (a4 : Int) (g : PG) (u : PM) : call M_TM_misfit [vA t, vI a1, vI a2, vI a3, vI a4] g u =
  bif pW t && pO (pK g t) 11 then (
  cV (call M_TM_spreads [vA t, vI a1, vI a2, vI a3, vI a4] g u) (fun (g1 : PG) (u2 : PM) =>
    run M_TM_misfit 12 [vA t, vI a1, vI a2, vI a3, vI a4, vI 0] [] g1 u2) noX) else none := (run_bl (m := M_TM_misfit) (T := T_TM_misfit) (hh := []) (stop := [(12, [true, true, true, true, true, true]), (53, [true, true, true, true, true, true]), (95, [true, true, true, true, true, true])]) rfl rfl rfl 83 (pc := 0) (L := [vA t, vI a1, vI a2, vI a3, vI a4, vN]) (S := []) rfl).trans rfl
set_option maxRecDepth 100000 in
theorem R_TM_misfit_12 (t : Nat) (a1 : Int) (a2 : Int) (a3 : Int) (a4 : Int) (a5 : Int) (g : PG) (u : PM) : run M_TM_misfit 12 [vA t, vI a1, vI a2, vI a3, vI a4, vI a5] [] g u =
  bif pW t && pO (pK g t) 11 then (
  if a5 < (u t 17) then
    bif pW t && pO (pK g t) 11 then (
    bif pR (pK g (t + 9)) 0 a5 then (
    bif pW t && pO (pK g t) 11 then (
    bif pR (pK g (t + 10)) 0 a5 then (
    bif pW t && pO (pK g t) 11 then (
    cI (call M_TM_isInside [vA t, vI (u (t + 9) a5), vI (u (t + 10) a5)] g u) (fun (x3 : Int) (g1 : PG) (u2 : PM) =>
      if x3 = 0 then
        some (0, vI 1, g1, u2)
      else
        run M_TM_misfit 12 [vA t, vI a1, vI a2, vI a3, vI a4, vI (w (a5 + 1))] [] g1 u2) noX) else none) else none) else none) else none) else none
  else
    run M_TM_misfit 53 [vA t, vI a1, vI a2, vI a3, vI a4, vI 0] [] g u) else none := (run_bl (m := M_TM_misfit) (T := T_TM_misfit) (hh := []) (stop := [(12, [true, true, true, true, true, true]), (53, [true, true, true, true, true, true]), (95, [true, true, true, true, true, true])]) rfl rfl rfl 83 (pc := 12) (L := [vA t, vI a1, vI a2, vI a3, vI a4, vI a5]) (S := []) rfl).trans rfl
set_option maxRecDepth 100000 in
theorem R_TM_misfit_53 (t : Nat) (a1 : Int) (a2 : Int) (a3 : Int) (a4 : Int) (a5 : Int) (g : PG) (u : PM) : run M_TM_misfit 53 [vA t, vI a1, vI a2, vI a3, vI a4, vI a5] [] g u =
  bif pW t && pO (pK g t) 11 then (
  if a5 < (u t 17) then
    bif pW t && pO (pK g t) 11 then (
    bif pR (pK g (t + 9)) 0 a5 then (
    bif pW t && pO (pK g t) 11 then (
    bif pR (pK g (t + 10)) 0 a5 then (
    bif pW t && pO (pK g t) 11 then (
    cI (call M_TM_cell [vA t, vI (u (t + 9) a5), vI (u (t + 10) a5)] g u) (fun (x3 : Int) (g1 : PG) (u2 : PM) =>
      if x3 = 1 then
        some (0, vI 2, g1, u2)
      else
        run M_TM_misfit 53 [vA t, vI a1, vI a2, vI a3, vI a4, vI (w (a5 + 1))] [] g1 u2) noX) else none) else none) else none) else none) else none
  else
    run M_TM_misfit 95 [vA t, vI a1, vI a2, vI a3, vI a4, vI 0] [] g u) else none := (run_bl (m := M_TM_misfit) (T := T_TM_misfit) (hh := []) (stop := [(12, [true, true, true, true, true, true]), (53, [true, true, true, true, true, true]), (95, [true, true, true, true, true, true])]) rfl rfl rfl 83 (pc := 53) (L := [vA t, vI a1, vI a2, vI a3, vI a4, vI a5]) (S := []) rfl).trans rfl
set_option maxRecDepth 100000 in
theorem R_TM_misfit_95 (t : Nat) (a1 : Int) (a2 : Int) (a3 : Int) (a4 : Int) (a5 : Int) (g : PG) (u : PM) : run M_TM_misfit 95 [vA t, vI a1, vI a2, vI a3, vI a4, vI a5] [] g u =
  bif pW t && pO (pK g t) 11 then (
  if a5 < (u t 17) then
    bif pW t && pO (pK g t) 11 then (
    bif pR (pK g (t + 9)) 0 a5 then (
    bif pW t && pO (pK g t) 11 then (
    bif pR (pK g (t + 10)) 0 a5 then (
    bif pW t && pO (pK g t) 11 then (
    cI (call M_TM_cell [vA t, vI (u (t + 9) a5), vI (u (t + 10) a5)] g u) (fun (x3 : Int) (g1 : PG) (u2 : PM) =>
      if x3 < 2 then
        run M_TM_misfit 95 [vA t, vI a1, vI a2, vI a3, vI a4, vI (w (a5 + 1))] [] g1 u2
      else
        some (0, vI 3, g1, u2)) noX) else none) else none) else none) else none) else none
  else
    bif pW t && pO (pK g t) 11 then (
    cI (call M_TM_crosses [vA t] g u) (fun (x6 : Int) (g4 : PG) (u5 : PM) =>
      if x6 = 0 then
        some (0, vI 0, g4, u5)
      else
        some (0, vI 4, g4, u5)) noX) else none) else none := (run_bl (m := M_TM_misfit) (T := T_TM_misfit) (hh := []) (stop := [(12, [true, true, true, true, true, true]), (53, [true, true, true, true, true, true]), (95, [true, true, true, true, true, true])]) rfl rfl rfl 83 (pc := 95) (L := [vA t, vI a1, vI a2, vI a3, vI a4, vI a5]) (S := []) rfl).trans rfl
set_option maxRecDepth 100000 in
theorem C_TM_emptyIn (t : Nat) (a1 : Int) (g : PG) (u : PM) : call M_TM_emptyIn [vA t, vI a1] g u =
  run M_TM_emptyIn 4 [vA t, vI a1, vI 0, vI 0] [] g u := (run_bl (m := M_TM_emptyIn) (T := T_TM_emptyIn) (hh := []) (stop := [(4, [true, true, true, true])]) rfl rfl rfl 25 (pc := 0) (L := [vA t, vI a1, vN, vN]) (S := []) rfl).trans rfl
set_option maxRecDepth 100000 in
theorem R_TM_emptyIn_4 (t : Nat) (a1 : Int) (a2 : Int) (a3 : Int) (g : PG) (u : PM) : run M_TM_emptyIn 4 [vA t, vI a1, vI a2, vI a3] [] g u =
  bif pW t && pO (pK g t) 11 then (
  bif pR (pK g (t + 1)) 0 0 then (
  if a3 < (u (t + 1) 0) then
    bif pW t && pO (pK g t) 11 then (
    cI (call M_TM_cell [vA t, vI a3, vI a1] g u) (fun (x3 : Int) (g1 : PG) (u2 : PM) =>
      if x3 = 0 then
        run M_TM_emptyIn 4 [vA t, vI a1, vI (w (a2 + 1)), vI (w (a3 + 1))] [] g1 u2
      else
        run M_TM_emptyIn 4 [vA t, vI a1, vI a2, vI (w (a3 + 1))] [] g1 u2) noX) else none
  else
    some (0, vI a2, g, u)) else none) else none := (run_bl (m := M_TM_emptyIn) (T := T_TM_emptyIn) (hh := []) (stop := [(4, [true, true, true, true])]) rfl rfl rfl 25 (pc := 4) (L := [vA t, vI a1, vI a2, vI a3]) (S := []) rfl).trans rfl
set_option maxRecDepth 100000 in
theorem C_TM_points (t : Nat) (a1 : Int) (a2 : Int) (a3 : Int) (a4 : Int) (g : PG) (u : PM) : call M_TM_points [vA t, vI a1, vI a2, vI a3, vI a4] g u =
  bif pW t && pO (pK g t) 11 then (
  cV (call M_TM_spreads [vA t, vI a1, vI a2, vI a3, vI a4] g u) (fun (g1 : PG) (u2 : PM) =>
    bif pW t && pO (pK g1 t) 11 then (
    run M_TM_points 18 [vA t, vI a1, vI a2, vI a3, vI a4, vI (u2 t 17), vI 0, vN, vN] [] g1 u2) else none) noX) else none := (run_bl (m := M_TM_points) (T := T_TM_points) (hh := []) (stop := [(18, [true, true, true, true, true, true, true, false, false]), (35, [true, true, true, true, true, true, true, true, true])]) rfl rfl rfl 57 (pc := 0) (L := [vA t, vI a1, vI a2, vI a3, vI a4, vN, vN, vN, vN]) (S := []) rfl).trans rfl
set_option maxRecDepth 100000 in
theorem R_TM_points_18 (t : Nat) (a1 : Int) (a2 : Int) (a3 : Int) (a4 : Int) (a5 : Int) (a6 : Int) (g : PG) (u : PM) : run M_TM_points 18 [vA t, vI a1, vI a2, vI a3, vI a4, vI a5, vI a6, vN, vN] [] g u =
  bif pW t && pO (pK g t) 11 then (
  bif pR (pK g (t + 1)) 0 1 then (
  if a6 < (u (t + 1) 1) then
    run M_TM_points 35 [vA t, vI a1, vI a2, vI a3, vI a4, vI a5, vI a6, vI 0, vI 0] [] g u
  else
    some (0, vI a5, g, u)) else none) else none := (run_bl (m := M_TM_points) (T := T_TM_points) (hh := []) (stop := [(18, [true, true, true, true, true, true, true, false, false]), (35, [true, true, true, true, true, true, true, true, true])]) rfl rfl rfl 57 (pc := 18) (L := [vA t, vI a1, vI a2, vI a3, vI a4, vI a5, vI a6, vN, vN]) (S := []) rfl).trans rfl
set_option maxRecDepth 100000 in
theorem R_TM_points_35 (t : Nat) (a1 : Int) (a2 : Int) (a3 : Int) (a4 : Int) (a5 : Int) (a6 : Int) (a7 : Int) (a8 : Int) (g : PG) (u : PM) : run M_TM_points 35 [vA t, vI a1, vI a2, vI a3, vI a4, vI a5, vI a6, vI a7, vI a8] [] g u =
  bif pW t && pO (pK g t) 11 then (
  if a8 < (u t 17) then
    bif pW t && pO (pK g t) 11 then (
    bif pR (pK g (t + 10)) 0 a8 then (
    if (u (t + 10) a8) = a6 then
      run M_TM_points 35 [vA t, vI a1, vI a2, vI a3, vI a4, vI a5, vI a6, vI (w (a7 + 1)), vI (w (a8 + 1))] [] g u
    else
      run M_TM_points 35 [vA t, vI a1, vI a2, vI a3, vI a4, vI a5, vI a6, vI a7, vI (w (a8 + 1))] [] g u) else none) else none
  else
    if 0 < a7 then
      bif pW t && pO (pK g t) 11 then (
      cI (call M_TM_emptyIn [vA t, vI a6] g u) (fun (x3 : Int) (g1 : PG) (u2 : PM) =>
        if a7 = x3 then
          bif pW t && pO (pK g1 t) 11 then (
          bif pR (pK g1 (t + 1)) 0 0 then (
          run M_TM_points 18 [vA t, vI a1, vI a2, vI a3, vI a4, vI (w (a5 + (u2 (t + 1) 0))), vI (w (a6 + 1)), vN, vN] [] g1 u2) else none) else none
        else
          run M_TM_points 18 [vA t, vI a1, vI a2, vI a3, vI a4, vI a5, vI (w (a6 + 1)), vN, vN] [] g1 u2) noX) else none
    else
      run M_TM_points 18 [vA t, vI a1, vI a2, vI a3, vI a4, vI a5, vI (w (a6 + 1)), vN, vN] [] g u) else none := (run_bl (m := M_TM_points) (T := T_TM_points) (hh := []) (stop := [(18, [true, true, true, true, true, true, true, false, false]), (35, [true, true, true, true, true, true, true, true, true])]) rfl rfl rfl 57 (pc := 35) (L := [vA t, vI a1, vI a2, vI a3, vI a4, vI a5, vI a6, vI a7, vI a8]) (S := []) rfl).trans rfl
set_option maxRecDepth 100000 in
theorem C_TM_fitting (t : Nat) (a1 : Int) (g : PG) (u : PM) : call M_TM_fitting [vA t, vI a1] g u =
  run M_TM_fitting 4 [vA t, vI a1, vI 0, vI 0, vN, vN] [] g u := (run_bl (m := M_TM_fitting) (T := T_TM_fitting) (hh := []) (stop := [(4, [true, true, true, true, false, false]), (12, [true, true, true, true, true, false]), (26, [true, true, true, true, true, true])]) rfl rfl rfl 44 (pc := 0) (L := [vA t, vI a1, vN, vN, vN, vN]) (S := []) rfl).trans rfl
set_option maxRecDepth 100000 in
theorem R_TM_fitting_4 (t : Nat) (a1 : Int) (a2 : Int) (a3 : Int) (g : PG) (u : PM) : run M_TM_fitting 4 [vA t, vI a1, vI a2, vI a3, vN, vN] [] g u =
  if a3 < 4 then
    run M_TM_fitting 12 [vA t, vI a1, vI a2, vI a3, vI 0, vN] [] g u
  else
    some (0, vI a2, g, u) := (run_bl (m := M_TM_fitting) (T := T_TM_fitting) (hh := []) (stop := [(4, [true, true, true, true, false, false]), (12, [true, true, true, true, true, false]), (26, [true, true, true, true, true, true])]) rfl rfl rfl 44 (pc := 4) (L := [vA t, vI a1, vI a2, vI a3, vN, vN]) (S := []) rfl).trans rfl
set_option maxRecDepth 100000 in
theorem R_TM_fitting_12 (t : Nat) (a1 : Int) (a2 : Int) (a3 : Int) (a4 : Int) (g : PG) (u : PM) : run M_TM_fitting 12 [vA t, vI a1, vI a2, vI a3, vI a4, vN] [] g u =
  bif pW t && pO (pK g t) 11 then (
  bif pR (pK g (t + 1)) 0 1 then (
  if a4 < (u (t + 1) 1) then
    run M_TM_fitting 26 [vA t, vI a1, vI a2, vI a3, vI a4, vI 0] [] g u
  else
    run M_TM_fitting 4 [vA t, vI a1, vI a2, vI (w (a3 + 1)), vN, vN] [] g u) else none) else none := (run_bl (m := M_TM_fitting) (T := T_TM_fitting) (hh := []) (stop := [(4, [true, true, true, true, false, false]), (12, [true, true, true, true, true, false]), (26, [true, true, true, true, true, true])]) rfl rfl rfl 44 (pc := 12) (L := [vA t, vI a1, vI a2, vI a3, vI a4, vN]) (S := []) rfl).trans rfl
set_option maxRecDepth 100000 in
theorem R_TM_fitting_26 (t : Nat) (a1 : Int) (a2 : Int) (a3 : Int) (a4 : Int) (a5 : Int) (g : PG) (u : PM) : run M_TM_fitting 26 [vA t, vI a1, vI a2, vI a3, vI a4, vI a5] [] g u =
  bif pW t && pO (pK g t) 11 then (
  bif pR (pK g (t + 1)) 0 0 then (
  if a5 < (u (t + 1) 0) then
    bif pW t && pO (pK g t) 11 then (
    cI (call M_TM_misfit [vA t, vI a1, vI a3, vI a5, vI a4] g u) (fun (x3 : Int) (g1 : PG) (u2 : PM) =>
      if x3 = 0 then
        run M_TM_fitting 26 [vA t, vI a1, vI (w (a2 + 1)), vI a3, vI a4, vI (w (a5 + 1))] [] g1 u2
      else
        run M_TM_fitting 26 [vA t, vI a1, vI a2, vI a3, vI a4, vI (w (a5 + 1))] [] g1 u2) noX) else none
  else
    run M_TM_fitting 12 [vA t, vI a1, vI a2, vI a3, vI (w (a4 + 1)), vN] [] g u) else none) else none := (run_bl (m := M_TM_fitting) (T := T_TM_fitting) (hh := []) (stop := [(4, [true, true, true, true, false, false]), (12, [true, true, true, true, true, false]), (26, [true, true, true, true, true, true])]) rfl rfl rfl 44 (pc := 26) (L := [vA t, vI a1, vI a2, vI a3, vI a4, vI a5]) (S := []) rfl).trans rfl
set_option maxRecDepth 100000 in
theorem C_TM_of (t : Nat) (a1 : Int) (a2 : Int) (g : PG) (u : PM) : call M_TM_of [vA t, vI a1, vI a2] g u =
  bif pW t && pO (pK g t) 11 then (
  bif pR (pK g (t + 1)) 0 (w ((w (5 + (w (a1 * 14)))) + a2)) then (
  some (0, vI (u (t + 1) (w ((w (5 + (w (a1 * 14)))) + a2))), g, u)) else none) else none := (run_bl (m := M_TM_of) (T := T_TM_of) (hh := []) (stop := []) rfl rfl rfl 16 (pc := 0) (L := [vA t, vI a1, vI a2]) (S := []) rfl).trans rfl
set_option maxRecDepth 100000 in
theorem C_TM_put (t : Nat) (a1 : Int) (a2 : Int) (a3 : Int) (g : PG) (u : PM) : call M_TM_put [vA t, vI a1, vI a2, vI a3] g u =
  bif pW t && pO (pK g t) 11 then (
  bif pW (t + 1) && pR (pK g (t + 1)) 0 (w ((w (5 + (w (a1 * 14)))) + a2)) then (
  some (0, vN, g, up u (t + 1) (w ((w (5 + (w (a1 * 14)))) + a2)) a3)) else none) else none := (run_bl (m := M_TM_put) (T := T_TM_put) (hh := []) (stop := []) rfl rfl rfl 17 (pc := 0) (L := [vA t, vI a1, vI a2, vI a3]) (S := []) rfl).trans rfl
set_option maxRecDepth 100000 in
theorem C_TM_over (t : Nat) (g : PG) (u : PM) : call M_TM_over [vA t] g u =
  bif pW t && pO (pK g t) 11 then (
  bif pR (pK g (t + 1)) 0 3 then (
  if (u (t + 1) 3) = 2 then
    some (0, vI 1, g, u)
  else
    some (0, vI 0, g, u)) else none) else none := (run_bl (m := M_TM_over) (T := T_TM_over) (hh := []) (stop := []) rfl rfl rfl 15 (pc := 0) (L := [vA t]) (S := []) rfl).trans rfl
set_option maxRecDepth 100000 in
theorem C_TM_moves (t : Nat) (a1 : Int) (g : PG) (u : PM) : call M_TM_moves [vA t, vI a1] g u =
  run M_TM_moves 4 [vA t, vI a1, vI 0, vI 0] [] g u := (run_bl (m := M_TM_moves) (T := T_TM_moves) (hh := []) (stop := [(4, [true, true, true, true])]) rfl rfl rfl 29 (pc := 0) (L := [vA t, vI a1, vN, vN]) (S := []) rfl).trans rfl
set_option maxRecDepth 100000 in
theorem R_TM_moves_4 (t : Nat) (a1 : Int) (a2 : Int) (a3 : Int) (g : PG) (u : PM) : run M_TM_moves 4 [vA t, vI a1, vI a2, vI a3] [] g u =
  if a3 < 5 then
    bif pW t && pO (pK g t) 11 then (
    cI (call M_TM_of [vA t, vI a1, vI (w (2 + a3))] g u) (fun (x3 : Int) (g1 : PG) (u2 : PM) =>
      if 0 < x3 then
        bif pW t && pO (pK g1 t) 11 then (
        cI (call M_TM_fitting [vA t, vI a3] g1 u2) (fun (x6 : Int) (g4 : PG) (u5 : PM) =>
          run M_TM_moves 4 [vA t, vI a1, vI (w (a2 + x6)), vI (w (a3 + 1))] [] g4 u5) noX) else none
      else
        run M_TM_moves 4 [vA t, vI a1, vI a2, vI (w (a3 + 1))] [] g1 u2) noX) else none
  else
    some (0, vI a2, g, u) := (run_bl (m := M_TM_moves) (T := T_TM_moves) (hh := []) (stop := [(4, [true, true, true, true])]) rfl rfl rfl 29 (pc := 4) (L := [vA t, vI a1, vI a2, vI a3]) (S := []) rfl).trans rfl
set_option maxRecDepth 100000 in
theorem C_TM_mayPlace (t : Nat) (a1 : Int) (a2 : Int) (a3 : Int) (a4 : Int) (g : PG) (u : PM) : call M_TM_mayPlace [vA t, vI a1, vI a2, vI a3, vI a4] g u =
  bif pW t && pO (pK g t) 11 then (
  cI (call M_TM_over [vA t] g u) (fun (x3 : Int) (g1 : PG) (u2 : PM) =>
    if x3 = 0 then
      bif pW t && pO (pK g1 t) 11 then (
      bif pR (pK g1 (t + 1)) 0 2 then (
      bif pW t && pO (pK g1 t) 11 then (
      cI (call M_TM_of [vA t, vI (u2 (t + 1) 2), vI (w (2 + a1))] g1 u2) (fun (x6 : Int) (g4 : PG) (u5 : PM) =>
        if 0 < x6 then
          bif pW t && pO (pK g4 t) 11 then (
          cI (call M_TM_misfit [vA t, vI a1, vI a2, vI a3, vI a4] g4 u5) (fun (x9 : Int) (g7 : PG) (u8 : PM) =>
            if x9 = 0 then
              some (0, vI 1, g7, u8)
            else
              some (0, vI 0, g7, u8)) noX) else none
        else
          some (0, vI 0, g4, u5)) noX) else none) else none) else none
    else
      some (0, vI 0, g1, u2)) noX) else none := (run_bl (m := M_TM_mayPlace) (T := T_TM_mayPlace) (hh := []) (stop := []) rfl rfl rfl 29 (pc := 0) (L := [vA t, vI a1, vI a2, vI a3, vI a4]) (S := []) rfl).trans rfl
set_option maxRecDepth 100000 in
theorem C_TM_turns (t : Nat) (g : PG) (u : PM) : call M_TM_turns [vA t] g u =
  bif pW t && pO (pK g t) 11 then (
  bif pW t && pO (pK g t) 11 then (
  bif pR (pK g (t + 1)) 0 2 then (
  bif pW (t + 1) && pR (pK g (t + 1)) 0 2 then (
  bif pW t && pO (pK g t) 11 then (
  bif pW (t + 1) && pR (pK g (t + 1)) 0 3 then (
  some (0, vN, g, up (up u (t + 1) 2 (w (1 - (u (t + 1) 2)))) (t + 1) 3 0)) else none) else none) else none) else none) else none) else none := (run_bl (m := M_TM_turns) (T := T_TM_turns) (hh := []) (stop := []) rfl rfl rfl 21 (pc := 0) (L := [vA t]) (S := []) rfl).trans rfl
set_option maxRecDepth 100000 in
theorem C_TM_places (t : Nat) (a1 : Int) (a2 : Int) (a3 : Int) (a4 : Int) (g : PG) (u : PM) : call M_TM_places [vA t, vI a1, vI a2, vI a3, vI a4] g u =
  bif pW t && pO (pK g t) 11 then (
  cI (call M_TM_points [vA t, vI a1, vI a2, vI a3, vI a4] g u) (fun (x3 : Int) (g1 : PG) (u2 : PM) =>
    bif pW t && pO (pK g1 t) 11 then (
    bif pR (pK g1 (t + 1)) 0 4 then (
    run M_TM_places 33 [vA t, vI a1, vI a2, vI a3, vI a4, vI x3, vI (u2 (t + 1) 4), vI (w (225 + (w ((u2 (t + 1) 4) * 6)))), vI 0] [] g1 u2) else none) else none) noX) else none := (run_bl (m := M_TM_places) (T := T_TM_places) (hh := []) (stop := [(33, [true, true, true, true, true, true, true, true, true]), (133, [true, true, true, true, true, true, true, true, true])]) rfl rfl rfl 141 (pc := 0) (L := [vA t, vI a1, vI a2, vI a3, vI a4, vN, vN, vN, vN]) (S := []) rfl).trans rfl
set_option maxRecDepth 100000 in
theorem R_TM_places_33 (t : Nat) (a1 : Int) (a2 : Int) (a3 : Int) (a4 : Int) (a5 : Int) (a6 : Int) (a7 : Int) (a8 : Int) (g : PG) (u : PM) : run M_TM_places 33 [vA t, vI a1, vI a2, vI a3, vI a4, vI a5, vI a6, vI a7, vI a8] [] g u =
  bif pW t && pO (pK g t) 11 then (
  if a8 < (u t 17) then
    bif pW t && pO (pK g t) 11 then (
    bif pW t && pO (pK g t) 11 then (
    bif pR (pK g (t + 9)) 0 a8 then (
    bif pW t && pO (pK g t) 11 then (
    bif pR (pK g (t + 10)) 0 a8 then (
    cI (call M_TM_at [vI (u (t + 9) a8), vI (u (t + 10) a8)] g u) (fun (x3 : Int) (g1 : PG) (u2 : PM) =>
      bif pW (t + 1) && pR (pK g1 (t + 1)) 0 (w (33 + x3)) then (
      run M_TM_places 33 [vA t, vI a1, vI a2, vI a3, vI a4, vI a5, vI a6, vI a7, vI (w (a8 + 1))] [] g1 (up u2 (t + 1) (w (33 + x3)) (w (2 + a6)))) else none) noX) else none) else none) else none) else none) else none
  else
    bif pW t && pO (pK g t) 11 then (
    bif pW (t + 1) && pR (pK g (t + 1)) 0 (w (a7 + 0)) then (
    bif pW t && pO (pK g t) 11 then (
    bif pW (t + 1) && pR (pK g (t + 1)) 0 (w (a7 + 1)) then (
    bif pW t && pO (pK g t) 11 then (
    bif pW (t + 1) && pR (pK g (t + 1)) 0 (w (a7 + 2)) then (
    bif pW t && pO (pK g t) 11 then (
    bif pW (t + 1) && pR (pK g (t + 1)) 0 (w (a7 + 3)) then (
    bif pW t && pO (pK g t) 11 then (
    bif pW t && pO (pK g t) 11 then (
    bif pR (pK g (t + 1)) 0 2 then (
    bif pW (t + 1) && pR (pK g (t + 1)) 0 (w (a7 + 4)) then (
    run M_TM_places 133 [vA t, vI a1, vI a2, vI a3, vI a4, vI a5, vI a6, vI a7, vI a8] [] g (up (up (up (up (up u (t + 1) (w (a7 + 0)) a1) (t + 1) (w (a7 + 1)) a2) (t + 1) (w (a7 + 2)) a3) (t + 1) (w (a7 + 3)) a4) (t + 1) (w (a7 + 4)) ((up (up (up (up u (t + 1) (w (a7 + 0)) a1) (t + 1) (w (a7 + 1)) a2) (t + 1) (w (a7 + 2)) a3) (t + 1) (w (a7 + 3)) a4) (t + 1) 2))) else none) else none) else none) else none) else none) else none) else none) else none) else none) else none) else none) else none) else none := (run_bl (m := M_TM_places) (T := T_TM_places) (hh := []) (stop := [(33, [true, true, true, true, true, true, true, true, true]), (133, [true, true, true, true, true, true, true, true, true])]) rfl rfl rfl 141 (pc := 33) (L := [vA t, vI a1, vI a2, vI a3, vI a4, vI a5, vI a6, vI a7, vI a8]) (S := []) rfl).trans rfl
set_option maxRecDepth 100000 in
theorem R_TM_places_133 (t : Nat) (a1 : Int) (a2 : Int) (a3 : Int) (a4 : Int) (a5 : Int) (a6 : Int) (a7 : Int) (a8 : Int) (g : PG) (u : PM) : run M_TM_places 133 [vA t, vI a1, vI a2, vI a3, vI a4, vI a5, vI a6, vI a7, vI a8] [] g u =
  bif pW t && pO (pK g t) 11 then (
  bif pW (t + 1) && pR (pK g (t + 1)) 0 (w (a7 + 5)) then (
  bif pW t && pO (pK g t) 11 then (
  bif pR (pK g (t + 1)) 0 4 then (
  bif pW (t + 1) && pR (pK g (t + 1)) 0 4 then (
  bif pW t && pO (pK g t) 11 then (
  bif pR (pK g (t + 1)) 0 2 then (
  bif pW t && pO (pK g t) 11 then (
  bif pR (pK g (t + 1)) 0 2 then (
  bif pW t && pO (pK g t) 11 then (
  cI (call M_TM_of [vA t, vI ((up (up u (t + 1) (w (a7 + 5)) a5) (t + 1) 4 (w (((up u (t + 1) (w (a7 + 5)) a5) (t + 1) 4) + 1))) (t + 1) 2), vI 0] g (up (up u (t + 1) (w (a7 + 5)) a5) (t + 1) 4 (w (((up u (t + 1) (w (a7 + 5)) a5) (t + 1) 4) + 1)))) (fun (x3 : Int) (g1 : PG) (u2 : PM) =>
    bif pW t && pO (pK g1 t) 11 then (
    cV (call M_TM_put [vA t, vI ((up (up u (t + 1) (w (a7 + 5)) a5) (t + 1) 4 (w (((up u (t + 1) (w (a7 + 5)) a5) (t + 1) 4) + 1))) (t + 1) 2), vI 0, vI (w (x3 + a5))] g1 u2) (fun (g4 : PG) (u5 : PM) =>
      bif pW t && pO (pK g4 t) 11 then (
      bif pR (pK g4 (t + 1)) 0 2 then (
      bif pW t && pO (pK g4 t) 11 then (
      bif pR (pK g4 (t + 1)) 0 2 then (
      bif pW t && pO (pK g4 t) 11 then (
      cI (call M_TM_of [vA t, vI (u5 (t + 1) 2), vI (w (2 + a1))] g4 u5) (fun (x8 : Int) (g6 : PG) (u7 : PM) =>
        bif pW t && pO (pK g6 t) 11 then (
        cV (call M_TM_put [vA t, vI (u5 (t + 1) 2), vI (w (2 + a1)), vI (w (x8 - 1))] g6 u7) (fun (g9 : PG) (u10 : PM) =>
          bif pW t && pO (pK g9 t) 11 then (
          cV (call M_TM_turns [vA t] g9 u10) (fun (g11 : PG) (u12 : PM) =>
            some (0, vI a5, g11, u12)) noX) else none) noX) else none) noX) else none) else none) else none) else none) else none) noX) else none) noX) else none) else none) else none) else none) else none) else none) else none) else none) else none) else none := (run_bl (m := M_TM_places) (T := T_TM_places) (hh := []) (stop := [(33, [true, true, true, true, true, true, true, true, true]), (133, [true, true, true, true, true, true, true, true, true])]) rfl rfl rfl 141 (pc := 133) (L := [vA t, vI a1, vI a2, vI a3, vI a4, vI a5, vI a6, vI a7, vI a8]) (S := []) rfl).trans rfl
set_option maxRecDepth 100000 in
theorem C_TM_mayFasten (t : Nat) (a1 : Int) (a2 : Int) (a3 : Int) (g : PG) (u : PM) : call M_TM_mayFasten [vA t, vI a1, vI a2, vI a3] g u =
  if a3 = 0 then
    run M_TM_mayFasten 11 [vA t, vI a1, vI a2, vI a3, vN, vN] [vI (w (a1 + 1))] g u
  else
    run M_TM_mayFasten 11 [vA t, vI a1, vI a2, vI a3, vN, vN] [vI a1] g u := (run_bl (m := M_TM_mayFasten) (T := T_TM_mayFasten) (hh := []) (stop := [(11, [true, true, true, true, false, false]), (24, [true, true, true, true, true, false])]) rfl rfl rfl 72 (pc := 0) (L := [vA t, vI a1, vI a2, vI a3, vN, vN]) (S := []) rfl).trans rfl
set_option maxRecDepth 100000 in
theorem R_TM_mayFasten_11 (t : Nat) (a1 : Int) (a2 : Int) (a3 : Int) (s0 : Int) (g : PG) (u : PM) : run M_TM_mayFasten 11 [vA t, vI a1, vI a2, vI a3, vN, vN] [vI s0] g u =
  if a3 = 0 then
    run M_TM_mayFasten 24 [vA t, vI a1, vI a2, vI a3, vI s0, vN] [vI a2] g u
  else
    run M_TM_mayFasten 24 [vA t, vI a1, vI a2, vI a3, vI s0, vN] [vI (w (a2 + 1))] g u := (run_bl (m := M_TM_mayFasten) (T := T_TM_mayFasten) (hh := []) (stop := [(11, [true, true, true, true, false, false]), (24, [true, true, true, true, true, false])]) rfl rfl rfl 72 (pc := 11) (L := [vA t, vI a1, vI a2, vI a3, vN, vN]) (S := [vI s0]) rfl).trans rfl
set_option maxRecDepth 100000 in
theorem R_TM_mayFasten_24 (t : Nat) (a1 : Int) (a2 : Int) (a3 : Int) (a4 : Int) (s0 : Int) (g : PG) (u : PM) : run M_TM_mayFasten 24 [vA t, vI a1, vI a2, vI a3, vI a4, vN] [vI s0] g u =
  bif pW t && pO (pK g t) 11 then (
  cI (call M_TM_over [vA t] g u) (fun (x3 : Int) (g1 : PG) (u2 : PM) =>
    if x3 = 0 then
      bif pW t && pO (pK g1 t) 11 then (
      bif pR (pK g1 (t + 1)) 0 2 then (
      bif pW t && pO (pK g1 t) 11 then (
      cI (call M_TM_of [vA t, vI (u2 (t + 1) 2), vI 1] g1 u2) (fun (x6 : Int) (g4 : PG) (u5 : PM) =>
        if x6 = 0 then
          some (0, vI 0, g4, u5)
        else
          bif pW t && pO (pK g4 t) 11 then (
          cI (call M_TM_isStrapped [vA t, vI a1, vI a2, vI a4, vI s0] g4 u5) (fun (x9 : Int) (g7 : PG) (u8 : PM) =>
            if x9 = 0 then
              bif pW t && pO (pK g7 t) 11 then (
              cI (call M_TM_cell [vA t, vI a1, vI a2] g7 u8) (fun (x12 : Int) (g10 : PG) (u11 : PM) =>
                if x12 = 1 then
                  some (0, vI 0, g10, u11)
                else
                  bif pW t && pO (pK g10 t) 11 then (
                  cI (call M_TM_cell [vA t, vI a4, vI s0] g10 u11) (fun (x15 : Int) (g13 : PG) (u14 : PM) =>
                    if x15 = 1 then
                      some (0, vI 0, g13, u14)
                    else
                      bif pW t && pO (pK g13 t) 11 then (
                      cI (call M_TM_pieceOf [vA t, vI a1, vI a2] g13 u14) (fun (x18 : Int) (g16 : PG) (u17 : PM) =>
                        if x18 = (-1) then
                          some (0, vI 1, g16, u17)
                        else
                          bif pW t && pO (pK g16 t) 11 then (
                          cI (call M_TM_pieceOf [vA t, vI a1, vI a2] g16 u17) (fun (x21 : Int) (g19 : PG) (u20 : PM) =>
                            bif pW t && pO (pK g19 t) 11 then (
                            cI (call M_TM_pieceOf [vA t, vI a4, vI s0] g19 u20) (fun (x24 : Int) (g22 : PG) (u23 : PM) =>
                              if x21 = x24 then
                                some (0, vI 0, g22, u23)
                              else
                                some (0, vI 1, g22, u23)) noX) else none) noX) else none) noX) else none) noX) else none) noX) else none
            else
              some (0, vI 0, g7, u8)) noX) else none) noX) else none) else none) else none
    else
      some (0, vI 0, g1, u2)) noX) else none := (run_bl (m := M_TM_mayFasten) (T := T_TM_mayFasten) (hh := []) (stop := [(11, [true, true, true, true, false, false]), (24, [true, true, true, true, true, false])]) rfl rfl rfl 72 (pc := 24) (L := [vA t, vI a1, vI a2, vI a3, vI a4, vN]) (S := [vI s0]) rfl).trans rfl
set_option maxRecDepth 100000 in
theorem C_TM_fastens (t : Nat) (a1 : Int) (a2 : Int) (a3 : Int) (g : PG) (u : PM) : call M_TM_fastens [vA t, vI a1, vI a2, vI a3] g u =
  bif pW t && pO (pK g t) 11 then (
  cI (call M_TM_edge [vI a1, vI a2, vI a3] g u) (fun (x3 : Int) (g1 : PG) (u2 : PM) =>
    bif pW (t + 1) && pR (pK g1 (t + 1)) 0 x3 then (
    bif pW t && pO (pK g1 t) 11 then (
    bif pR (pK g1 (t + 1)) 0 2 then (
    bif pW t && pO (pK g1 t) 11 then (
    cI (call M_TM_of [vA t, vI ((up u2 (t + 1) x3 1) (t + 1) 2), vI 1] g1 (up u2 (t + 1) x3 1)) (fun (x6 : Int) (g4 : PG) (u5 : PM) =>
      bif pW t && pO (pK g4 t) 11 then (
      bif pR (pK g4 (t + 1)) 0 2 then (
      bif pW t && pO (pK g4 t) 11 then (
      cV (call M_TM_put [vA t, vI (u5 (t + 1) 2), vI 1, vI (w (x6 - 1))] g4 u5) (fun (g7 : PG) (u8 : PM) =>
        bif pW t && pO (pK g7 t) 11 then (
        cV (call M_TM_turns [vA t] g7 u8) (fun (g9 : PG) (u10 : PM) =>
          some (0, vI (w (x6 - 1)), g9, u10)) noX) else none) noX) else none) else none) else none) noX) else none) else none) else none) else none) noX) else none := (run_bl (m := M_TM_fastens) (T := T_TM_fastens) (hh := []) (stop := []) rfl rfl rfl 35 (pc := 0) (L := [vA t, vI a1, vI a2, vI a3, vN]) (S := []) rfl).trans rfl
set_option maxRecDepth 100000 in
theorem C_TM_mayPass (t : Nat) (g : PG) (u : PM) : call M_TM_mayPass [vA t] g u =
  bif pW t && pO (pK g t) 11 then (
  cI (call M_TM_over [vA t] g u) (fun (x3 : Int) (g1 : PG) (u2 : PM) =>
    if x3 = 0 then
      bif pW t && pO (pK g1 t) 11 then (
      bif pR (pK g1 (t + 1)) 0 2 then (
      bif pW t && pO (pK g1 t) 11 then (
      cI (call M_TM_moves [vA t, vI (u2 (t + 1) 2)] g1 u2) (fun (x6 : Int) (g4 : PG) (u5 : PM) =>
        if x6 = 0 then
          some (0, vI 1, g4, u5)
        else
          some (0, vI 0, g4, u5)) noX) else none) else none) else none
    else
      some (0, vI 0, g1, u2)) noX) else none := (run_bl (m := M_TM_mayPass) (T := T_TM_mayPass) (hh := []) (stop := []) rfl rfl rfl 19 (pc := 0) (L := [vA t]) (S := []) rfl).trans rfl
set_option maxRecDepth 100000 in
theorem C_TM_passes (t : Nat) (g : PG) (u : PM) : call M_TM_passes [vA t] g u =
  bif pW t && pO (pK g t) 11 then (
  bif pR (pK g (t + 1)) 0 3 then (
  bif pW (t + 1) && pR (pK g (t + 1)) 0 3 then (
  bif pW t && pO (pK g t) 11 then (
  bif pW t && pO (pK g t) 11 then (
  bif pR (pK g (t + 1)) 0 2 then (
  bif pW (t + 1) && pR (pK g (t + 1)) 0 2 then (
  bif pW t && pO (pK g t) 11 then (
  bif pR (pK g (t + 1)) 0 3 then (
  some (0, vI ((up (up u (t + 1) 3 (w ((u (t + 1) 3) + 1))) (t + 1) 2 (w (1 - ((up u (t + 1) 3 (w ((u (t + 1) 3) + 1))) (t + 1) 2)))) (t + 1) 3), g, up (up u (t + 1) 3 (w ((u (t + 1) 3) + 1))) (t + 1) 2 (w (1 - ((up u (t + 1) 3 (w ((u (t + 1) 3) + 1))) (t + 1) 2))))) else none) else none) else none) else none) else none) else none) else none) else none) else none := (run_bl (m := M_TM_passes) (T := T_TM_passes) (hh := []) (stop := []) rfl rfl rfl 28 (pc := 0) (L := [vA t]) (S := []) rfl).trans rfl
set_option maxRecDepth 100000 in
theorem C_TM_append (t : Nat) (a1 : Int) (a2 : Int) (a3 : Int) (a4 : Int) (a5 : Int) (g : PG) (u : PM) : call M_TM_append [vA t, vI a1, vI a2, vI a3, vI a4, vI a5] g u =
  bif pW t && pO (pK g t) 11 then (
  bif pW t && pO (pK g t) 11 then (
  if 600 < (w (((up u t 7 0) t 13) + 20)) then
    some (0, vI (-1), g, up u t 7 0)
  else
    bif pW t && pO (pK g t) 11 then (
    cV (call M_TM_four [vA t, vI a1] g (up u t 7 0)) (fun (g1 : PG) (u2 : PM) =>
      bif pW t && pO (pK g1 t) 11 then (
      cV (call M_TM_four [vA t, vI a2] g1 u2) (fun (g3 : PG) (u4 : PM) =>
        bif pW t && pO (pK g3 t) 11 then (
        cV (call M_TM_four [vA t, vI a3] g3 u4) (fun (g5 : PG) (u6 : PM) =>
          bif pW t && pO (pK g5 t) 11 then (
          cV (call M_TM_four [vA t, vI a4] g5 u6) (fun (g7 : PG) (u8 : PM) =>
            bif pW t && pO (pK g7 t) 11 then (
            cV (call M_TM_four [vA t, vI a5] g7 u8) (fun (g9 : PG) (u10 : PM) =>
              bif pW t && pO (pK g9 t) 11 then (
              some (0, vI (u10 t 13), g9, u10)) else none) noX) else none) noX) else none) noX) else none) noX) else none) noX) else none) else none) else none := (run_bl (m := M_TM_append) (T := T_TM_append) (hh := []) (stop := []) rfl rfl rfl 34 (pc := 0) (L := [vA t, vI a1, vI a2, vI a3, vI a4, vI a5]) (S := []) rfl).trans rfl
set_option maxRecDepth 100000 in
theorem C_TM_four (t : Nat) (a1 : Int) (g : PG) (u : PM) : call M_TM_four [vA t, vI a1] g u =
  run M_TM_four 3 [vA t, vI a1, vI 24] [] g u := (run_bl (m := M_TM_four) (T := T_TM_four) (hh := []) (stop := [(3, [true, true, true])]) rfl rfl rfl 28 (pc := 0) (L := [vA t, vI a1, vN]) (S := []) rfl).trans rfl
set_option maxRecDepth 100000 in
theorem R_TM_four_3 (t : Nat) (a1 : Int) (a2 : Int) (g : PG) (u : PM) : run M_TM_four 3 [vA t, vI a1, vI a2] [] g u =
  if a2 < 0 then
    some (0, vN, g, u)
  else
    bif pW t && pO (pK g t) 11 then (
    bif pW t && pO (pK g t) 11 then (
    bif pW (t + 7) && pR (pK g (t + 7)) 0 (u t 13) then (
    bif pW t && pO (pK g t) 11 then (
    bif pW t && pO (pK g t) 11 then (
    run M_TM_four 3 [vA t, vI a1, vI (w (a2 - 8))] [] g (up (up u (t + 7) (u t 13) (and2 (shr2 a1 a2) 255)) t 13 (w (((up u (t + 7) (u t 13) (and2 (shr2 a1 a2) 255)) t 13) + 1)))) else none) else none) else none) else none) else none := (run_bl (m := M_TM_four) (T := T_TM_four) (hh := []) (stop := [(3, [true, true, true])]) rfl rfl rfl 28 (pc := 3) (L := [vA t, vI a1, vI a2]) (S := []) rfl).trans rfl
set_option maxRecDepth 100000 in
theorem C_TM_truncateInput (t : Nat) (a1 : Int) (g : PG) (u : PM) : call M_TM_truncateInput [vA t, vI a1] g u =
  bif pW t && pO (pK g t) 11 then (
  cI (call M_TM_isIn [vI a1, vI 0, vI (u t 13)] g u) (fun (x3 : Int) (g1 : PG) (u2 : PM) =>
    if x3 = 0 then
      run M_TM_truncateInput 18 [vA t, vI a1] [vI 1, vA t] g1 u2
    else
      run M_TM_truncateInput 18 [vA t, vI a1] [vI 0, vA t] g1 u2) noX) else none := (run_bl (m := M_TM_truncateInput) (T := T_TM_truncateInput) (hh := []) (stop := [(18, [true, true])]) rfl rfl rfl 26 (pc := 0) (L := [vA t, vI a1]) (S := []) rfl).trans rfl
set_option maxRecDepth 100000 in
theorem R_TM_truncateInput_18 (t : Nat) (a1 : Int) (s0 : Int) (s1 : Nat) (g : PG) (u : PM) : run M_TM_truncateInput 18 [vA t, vI a1] [vI s0, vA s1] g u =
  bif pW s1 && pO (pK g s1) 11 then (
  cI (call M_TM_fails [vA s1, vI s0, vI 0, vI 0] g u) (fun (x3 : Int) (g1 : PG) (u2 : PM) =>
    if x3 = 0 then
      bif pW t && pO (pK g1 t) 11 then (
      some (0, vI a1, g1, up u2 t 13 a1)) else none
    else
      some (0, vI 0, g1, u2)) noX) else none := (run_bl (m := M_TM_truncateInput) (T := T_TM_truncateInput) (hh := []) (stop := [(18, [true, true])]) rfl rfl rfl 26 (pc := 18) (L := [vA t, vI a1]) (S := [vI s0, vA s1]) rfl).trans rfl
set_option maxRecDepth 100000 in
theorem C_TM_isLetter (t : Nat) (a1 : Int) (g : PG) (u : PM) : call M_TM_isLetter [vA t, vI a1] g u =
  bif pW t && pO (pK g t) 11 then (
  if a1 < (u t 13) then
    bif pW t && pO (pK g t) 11 then (
    bif pR (pK g (t + 7)) 0 a1 then (
    cI (call M_TM_isIn [vI (u (t + 7) a1), vI 97, vI 122] g u) (fun (x3 : Int) (g1 : PG) (u2 : PM) =>
      if x3 = 0 then
        some (0, vI 0, g1, u2)
      else
        some (0, vI 1, g1, u2)) noX) else none) else none
  else
    some (0, vI 0, g, u)) else none := (run_bl (m := M_TM_isLetter) (T := T_TM_isLetter) (hh := []) (stop := []) rfl rfl rfl 21 (pc := 0) (L := [vA t, vI a1]) (S := []) rfl).trans rfl
set_option maxRecDepth 100000 in
theorem C_TM_isDigit (t : Nat) (a1 : Int) (g : PG) (u : PM) : call M_TM_isDigit [vA t, vI a1] g u =
  bif pW t && pO (pK g t) 11 then (
  if a1 < (u t 13) then
    bif pW t && pO (pK g t) 11 then (
    bif pR (pK g (t + 7)) 0 a1 then (
    cI (call M_TM_isIn [vI (u (t + 7) a1), vI 48, vI 57] g u) (fun (x3 : Int) (g1 : PG) (u2 : PM) =>
      if x3 = 0 then
        some (0, vI 0, g1, u2)
      else
        some (0, vI 1, g1, u2)) noX) else none) else none
  else
    some (0, vI 0, g, u)) else none := (run_bl (m := M_TM_isDigit) (T := T_TM_isDigit) (hh := []) (stop := []) rfl rfl rfl 21 (pc := 0) (L := [vA t, vI a1]) (S := []) rfl).trans rfl
set_option maxRecDepth 100000 in
theorem C_TM_next (t : Nat) (g : PG) (u : PM) : call M_TM_next [vA t] g u =
  bif pW t && pO (pK g t) 11 then (
  bif pW t && pO (pK g t) 11 then (
  if (u t 20) < (u t 13) then
    bif pW t && pO (pK g t) 11 then (
    bif pW t && pO (pK g t) 11 then (
    bif pR (pK g (t + 7)) 0 (u t 20) then (
    if (u (t + 7) (u t 20)) = 32 then
      bif pW t && pO (pK g t) 11 then (
      bif pW t && pO (pK g t) 11 then (
      run M_TM_next 0 [vA t] [] g (up u t 20 (w ((u t 20) + 1)))) else none) else none
    else
      run M_TM_next 38 [vA t] [] g u) else none) else none) else none
  else
    run M_TM_next 38 [vA t] [] g u) else none) else none := (run_bl (m := M_TM_next) (T := T_TM_next) (hh := []) (stop := [(0, [true]), (38, [true]), (81, [true]), (126, [true]), (199, [true])]) rfl rfl rfl 115 (pc := 0) (L := [vA t]) (S := []) rfl).trans rfl
set_option maxRecDepth 100000 in
theorem R_TM_next_0 (t : Nat) (g : PG) (u : PM) : run M_TM_next 0 [vA t] [] g u =
  bif pW t && pO (pK g t) 11 then (
  bif pW t && pO (pK g t) 11 then (
  if (u t 20) < (u t 13) then
    bif pW t && pO (pK g t) 11 then (
    bif pW t && pO (pK g t) 11 then (
    bif pR (pK g (t + 7)) 0 (u t 20) then (
    if (u (t + 7) (u t 20)) = 32 then
      bif pW t && pO (pK g t) 11 then (
      bif pW t && pO (pK g t) 11 then (
      run M_TM_next 0 [vA t] [] g (up u t 20 (w ((u t 20) + 1)))) else none) else none
    else
      run M_TM_next 38 [vA t] [] g u) else none) else none) else none
  else
    run M_TM_next 38 [vA t] [] g u) else none) else none := (run_bl (m := M_TM_next) (T := T_TM_next) (hh := []) (stop := [(0, [true]), (38, [true]), (81, [true]), (126, [true]), (199, [true])]) rfl rfl rfl 115 (pc := 0) (L := [vA t]) (S := []) rfl).trans rfl
set_option maxRecDepth 100000 in
theorem R_TM_next_38 (t : Nat) (g : PG) (u : PM) : run M_TM_next 38 [vA t] [] g u =
  bif pW t && pO (pK g t) 11 then (
  bif pW t && pO (pK g t) 11 then (
  bif pW t && pO (pK g t) 11 then (
  bif pW t && pO (pK g t) 11 then (
  if ((up u t 19 (u t 20)) t 20) = ((up u t 19 (u t 20)) t 13) then
    bif pW t && pO (pK g t) 11 then (
    some (0, vN, g, up (up u t 19 (u t 20)) t 18 0)) else none
  else
    bif pW t && pO (pK g t) 11 then (
    bif pW t && pO (pK g t) 11 then (
    cI (call M_TM_isLetter [vA t, vI ((up u t 19 (u t 20)) t 20)] g (up u t 19 (u t 20))) (fun (x3 : Int) (g1 : PG) (u2 : PM) =>
      if x3 = 0 then
        bif pW t && pO (pK g1 t) 11 then (
        bif pW t && pO (pK g1 t) 11 then (
        cI (call M_TM_isDigit [vA t, vI (u2 t 20)] g1 u2) (fun (x6 : Int) (g4 : PG) (u5 : PM) =>
          if x6 = 0 then
            bif pW t && pO (pK g4 t) 11 then (
            bif pW t && pO (pK g4 t) 11 then (
            bif pR (pK g4 (t + 7)) 0 (u5 t 20) then (
            if (u5 (t + 7) (u5 t 20)) = 59 then
              run M_TM_next 199 [vA t] [vI 3, vA t] g4 u5
            else
              run M_TM_next 199 [vA t] [vI 4, vA t] g4 u5) else none) else none) else none
          else
            bif pW t && pO (pK g4 t) 11 then (
            bif pW t && pO (pK g4 t) 11 then (
            run M_TM_next 126 [vA t] [] g4 (up (up u5 t 18 2) t 21 0)) else none) else none) noX) else none) else none
      else
        bif pW t && pO (pK g1 t) 11 then (
        run M_TM_next 81 [vA t] [] g1 (up u2 t 18 1)) else none) noX) else none) else none) else none) else none) else none) else none := (run_bl (m := M_TM_next) (T := T_TM_next) (hh := []) (stop := [(0, [true]), (38, [true]), (81, [true]), (126, [true]), (199, [true])]) rfl rfl rfl 115 (pc := 38) (L := [vA t]) (S := []) rfl).trans rfl
set_option maxRecDepth 100000 in
theorem R_TM_next_81 (t : Nat) (g : PG) (u : PM) : run M_TM_next 81 [vA t] [] g u =
  bif pW t && pO (pK g t) 11 then (
  bif pW t && pO (pK g t) 11 then (
  cI (call M_TM_isLetter [vA t, vI (u t 20)] g u) (fun (x3 : Int) (g1 : PG) (u2 : PM) =>
    if x3 = 0 then
      some (0, vN, g1, u2)
    else
      bif pW t && pO (pK g1 t) 11 then (
      bif pW t && pO (pK g1 t) 11 then (
      run M_TM_next 81 [vA t] [] g1 (up u2 t 20 (w ((u2 t 20) + 1)))) else none) else none) noX) else none) else none := (run_bl (m := M_TM_next) (T := T_TM_next) (hh := []) (stop := [(0, [true]), (38, [true]), (81, [true]), (126, [true]), (199, [true])]) rfl rfl rfl 115 (pc := 81) (L := [vA t]) (S := []) rfl).trans rfl
set_option maxRecDepth 100000 in
theorem R_TM_next_126 (t : Nat) (g : PG) (u : PM) : run M_TM_next 126 [vA t] [] g u =
  bif pW t && pO (pK g t) 11 then (
  bif pW t && pO (pK g t) 11 then (
  cI (call M_TM_isDigit [vA t, vI (u t 20)] g u) (fun (x3 : Int) (g1 : PG) (u2 : PM) =>
    if x3 = 0 then
      some (0, vN, g1, u2)
    else
      bif pW t && pO (pK g1 t) 11 then (
      bif pW t && pO (pK g1 t) 11 then (
      bif pW t && pO (pK g1 t) 11 then (
      bif pR (pK g1 (t + 7)) 0 (u2 t 20) then (
      bif pW t && pO (pK g1 t) 11 then (
      bif pW t && pO (pK g1 t) 11 then (
      bif pW t && pO (pK g1 t) 11 then (
      run M_TM_next 126 [vA t] [] g1 (up (up u2 t 21 (min2 (w (pNum 0 100000)) (w ((w ((w ((u2 t 21) * 10)) + (u2 (t + 7) (u2 t 20)))) - 48)))) t 20 (w (((up u2 t 21 (min2 (w (pNum 0 100000)) (w ((w ((w ((u2 t 21) * 10)) + (u2 (t + 7) (u2 t 20)))) - 48)))) t 20) + 1)))) else none) else none) else none) else none) else none) else none) else none) noX) else none) else none := (run_bl (m := M_TM_next) (T := T_TM_next) (hh := []) (stop := [(0, [true]), (38, [true]), (81, [true]), (126, [true]), (199, [true])]) rfl rfl rfl 115 (pc := 126) (L := [vA t]) (S := []) rfl).trans rfl
set_option maxRecDepth 100000 in
theorem R_TM_next_199 (t : Nat) (s0 : Int) (s1 : Nat) (g : PG) (u : PM) : run M_TM_next 199 [vA t] [vI s0, vA s1] g u =
  bif pW s1 && pO (pK g s1) 11 then (
  bif pW t && pO (pK g t) 11 then (
  bif pW t && pO (pK g t) 11 then (
  some (0, vN, g, up (up u s1 18 s0) t 20 (w (((up u s1 18 s0) t 20) + 1)))) else none) else none) else none := (run_bl (m := M_TM_next) (T := T_TM_next) (hh := []) (stop := [(0, [true]), (38, [true]), (81, [true]), (126, [true]), (199, [true])]) rfl rfl rfl 115 (pc := 199) (L := [vA t]) (S := [vI s0, vA s1]) rfl).trans rfl
set_option maxRecDepth 100000 in
theorem C_TM_is (t : Nat) (p1 : Nat) (g : PG) (u : PM) : call M_TM_is [vA t, vA p1] g u =
  bif pW t && pO (pK g t) 11 then (
  if (u t 18) = 1 then
    bif pW t && pO (pK g t) 11 then (
    bif pW t && pO (pK g t) 11 then (
    pTx (gStr p1) (fun (tx1 : List Nat) =>
    if (w ((u t 20) - (u t 19))) = ((List.length tx1 : Int)) then
      run M_TM_is 28 [vA t, vA p1, vI 0] [] g u
    else
      some (0, vI 0, g, u))) else none) else none
  else
    some (0, vI 0, g, u)) else none := (run_bl (m := M_TM_is) (T := T_TM_is) (hh := []) (stop := [(28, [true, true, true])]) rfl rfl rfl 42 (pc := 0) (L := [vA t, vA p1, vN]) (S := []) rfl).trans rfl
set_option maxRecDepth 100000 in
theorem R_TM_is_28 (t : Nat) (p1 : Nat) (a2 : Int) (g : PG) (u : PM) : run M_TM_is 28 [vA t, vA p1, vI a2] [] g u =
  pTx (gStr p1) (fun (tx1 : List Nat) =>
  if a2 < ((List.length tx1 : Int)) then
    bif pW t && pO (pK g t) 11 then (
    bif pW t && pO (pK g t) 11 then (
    bif pR (pK g (t + 7)) 0 (w ((u t 19) + a2)) then (
    pTx (gStr p1) (fun (tx2 : List Nat) =>
    bif decide (0 ≤ a2) && decide (a2 < (List.length tx2 : Int)) then (
    if (u (t + 7) (w ((u t 19) + a2))) = (((List.getD tx2 (Int.toNat a2) 0 : Nat) : Int)) then
      run M_TM_is 28 [vA t, vA p1, vI (w (a2 + 1))] [] g u
    else
      some (0, vI 0, g, u)) else none)) else none) else none) else none
  else
    some (0, vI 1, g, u)) := (run_bl (m := M_TM_is) (T := T_TM_is) (hh := []) (stop := [(28, [true, true, true])]) rfl rfl rfl 42 (pc := 28) (L := [vA t, vA p1, vI a2]) (S := []) rfl).trans rfl
set_option maxRecDepth 100000 in
theorem C_TM_wrong (t : Nat) (a1 : Int) (a2 : Int) (g : PG) (u : PM) : call M_TM_wrong [vA t, vI a1, vI a2] g u =
  bif pW t && pO (pK g t) 11 then (
  if (u t 22) = 0 then
    if a1 = 0 then
      some (0, vN, g, u)
    else
      bif pW t && pO (pK g t) 11 then (
      bif b01 1 then (
      bif pW t && pO (pK g t) 11 then (
      bif pW t && pO (pK g t) 11 then (
      bif pW t && pO (pK g t) 11 then (
      some (0, vN, g, up (up (up u t 22 1) t 15 a2) t 16 ((up (up u t 22 1) t 15 a2) t 19))) else none) else none) else none) else none) else none
  else
    some (0, vN, g, u)) else none := (run_bl (m := M_TM_wrong) (T := T_TM_wrong) (hh := []) (stop := []) rfl rfl rfl 22 (pc := 0) (L := [vA t, vI a1, vI a2]) (S := []) rfl).trans rfl
set_option maxRecDepth 100000 in
theorem C_TM_go (t : Nat) (g : PG) (u : PM) : call M_TM_go [vA t] g u =
  bif pW t && pO (pK g t) 11 then (
  if (u t 22) = 0 then
    bif pW t && pO (pK g t) 11 then (
    cV (call M_TM_next [vA t] g u) (fun (g1 : PG) (u2 : PM) =>
      some (0, vN, g1, u2)) noX) else none
  else
    some (0, vN, g, u)) else none := (run_bl (m := M_TM_go) (T := T_TM_go) (hh := []) (stop := []) rfl rfl rfl 11 (pc := 0) (L := [vA t]) (S := []) rfl).trans rfl
set_option maxRecDepth 100000 in
theorem C_TM_here (t : Nat) (a1 : Int) (a2 : Int) (g : PG) (u : PM) : call M_TM_here [vA t, vI a1, vI a2] g u =
  bif pW t && pO (pK g t) 11 then (
  if (u t 18) = 2 then
    run M_TM_here 14 [vA t, vI a1, vI a2] [vI 0, vA t] g u
  else
    run M_TM_here 14 [vA t, vI a1, vI a2] [vI 1, vA t] g u) else none := (run_bl (m := M_TM_here) (T := T_TM_here) (hh := []) (stop := [(14, [true, true, true]), (43, [true, true, true])]) rfl rfl rfl 38 (pc := 0) (L := [vA t, vI a1, vI a2]) (S := []) rfl).trans rfl
set_option maxRecDepth 100000 in
theorem R_TM_here_14 (t : Nat) (a1 : Int) (a2 : Int) (s0 : Int) (s1 : Nat) (g : PG) (u : PM) : run M_TM_here 14 [vA t, vI a1, vI a2] [vI s0, vA s1] g u =
  bif pW s1 && pO (pK g s1) 11 then (
  cV (call M_TM_wrong [vA s1, vI s0, vI 1] g u) (fun (g1 : PG) (u2 : PM) =>
    bif pW t && pO (pK g1 t) 11 then (
    if (u2 t 22) = 0 then
      bif pW t && pO (pK g1 t) 11 then (
      cI (call M_TM_isIn [vI (u2 t 21), vI a1, vI a2] g1 u2) (fun (x5 : Int) (g3 : PG) (u4 : PM) =>
        if x5 = 0 then
          run M_TM_here 43 [vA t, vI a1, vI a2] [vI 1, vA t] g3 u4
        else
          run M_TM_here 43 [vA t, vI a1, vI a2] [vI 0, vA t] g3 u4) noX) else none
    else
      run M_TM_here 43 [vA t, vI a1, vI a2] [vI 0, vA t] g1 u2) else none) noX) else none := (run_bl (m := M_TM_here) (T := T_TM_here) (hh := []) (stop := [(14, [true, true, true]), (43, [true, true, true])]) rfl rfl rfl 38 (pc := 14) (L := [vA t, vI a1, vI a2]) (S := [vI s0, vA s1]) rfl).trans rfl
set_option maxRecDepth 100000 in
theorem R_TM_here_43 (t : Nat) (a1 : Int) (a2 : Int) (s0 : Int) (s1 : Nat) (g : PG) (u : PM) : run M_TM_here 43 [vA t, vI a1, vI a2] [vI s0, vA s1] g u =
  bif pW s1 && pO (pK g s1) 11 then (
  cV (call M_TM_wrong [vA s1, vI s0, vI 2] g u) (fun (g1 : PG) (u2 : PM) =>
    bif pW t && pO (pK g1 t) 11 then (
    if (u2 t 22) = 0 then
      bif pW t && pO (pK g1 t) 11 then (
      some (0, vI (u2 t 21), g1, u2)) else none
    else
      some (0, vI a1, g1, u2)) else none) noX) else none := (run_bl (m := M_TM_here) (T := T_TM_here) (hh := []) (stop := [(14, [true, true, true]), (43, [true, true, true])]) rfl rfl rfl 38 (pc := 43) (L := [vA t, vI a1, vI a2]) (S := [vI s0, vA s1]) rfl).trans rfl
set_option maxRecDepth 100000 in
theorem C_TM_number (t : Nat) (a1 : Int) (a2 : Int) (g : PG) (u : PM) : call M_TM_number [vA t, vI a1, vI a2] g u =
  bif pW t && pO (pK g t) 11 then (
  cI (call M_TM_here [vA t, vI a1, vI a2] g u) (fun (x3 : Int) (g1 : PG) (u2 : PM) =>
    bif pW t && pO (pK g1 t) 11 then (
    cV (call M_TM_go [vA t] g1 u2) (fun (g4 : PG) (u5 : PM) =>
      some (0, vI x3, g4, u5)) noX) else none) noX) else none := (run_bl (m := M_TM_number) (T := T_TM_number) (hh := []) (stop := []) rfl rfl rfl 14 (pc := 0) (L := [vA t, vI a1, vI a2, vN]) (S := []) rfl).trans rfl
set_option maxRecDepth 100000 in
theorem C_TM_sideHere (t : Nat) (g : PG) (u : PM) : call M_TM_sideHere [vA t] g u =
  bif pW t && pO (pK g t) 11 then (
  cI (call M_TM_is [vA t, vA 100020] g u) (fun (x3 : Int) (g1 : PG) (u2 : PM) =>
    if x3 = 0 then
      bif pW t && pO (pK g1 t) 11 then (
      cI (call M_TM_is [vA t, vA 100021] g1 u2) (fun (x6 : Int) (g4 : PG) (u5 : PM) =>
        if x6 = 0 then
          run M_TM_sideHere 27 [vA t, vN] [vI (-1)] g4 u5
        else
          run M_TM_sideHere 27 [vA t, vN] [vI 1] g4 u5) noX) else none
    else
      run M_TM_sideHere 27 [vA t, vN] [vI 0] g1 u2) noX) else none := (run_bl (m := M_TM_sideHere) (T := T_TM_sideHere) (hh := []) (stop := [(27, [true, false]), (39, [true, true])]) rfl rfl rfl 32 (pc := 0) (L := [vA t, vN]) (S := []) rfl).trans rfl
set_option maxRecDepth 100000 in
theorem R_TM_sideHere_27 (t : Nat) (s0 : Int) (g : PG) (u : PM) : run M_TM_sideHere 27 [vA t, vN] [vI s0] g u =
  if s0 = (-1) then
    run M_TM_sideHere 39 [vA t, vI s0] [vI 1, vA t] g u
  else
    run M_TM_sideHere 39 [vA t, vI s0] [vI 0, vA t] g u := (run_bl (m := M_TM_sideHere) (T := T_TM_sideHere) (hh := []) (stop := [(27, [true, false]), (39, [true, true])]) rfl rfl rfl 32 (pc := 27) (L := [vA t, vN]) (S := [vI s0]) rfl).trans rfl
set_option maxRecDepth 100000 in
theorem R_TM_sideHere_39 (t : Nat) (a1 : Int) (s0 : Int) (s1 : Nat) (g : PG) (u : PM) : run M_TM_sideHere 39 [vA t, vI a1] [vI s0, vA s1] g u =
  bif pW s1 && pO (pK g s1) 11 then (
  cV (call M_TM_wrong [vA s1, vI s0, vI 1] g u) (fun (g1 : PG) (u2 : PM) =>
    some (0, vI (max2 0 a1), g1, u2)) noX) else none := (run_bl (m := M_TM_sideHere) (T := T_TM_sideHere) (hh := []) (stop := [(27, [true, false]), (39, [true, true])]) rfl rfl rfl 32 (pc := 39) (L := [vA t, vI a1]) (S := [vI s0, vA s1]) rfl).trans rfl
set_option maxRecDepth 100000 in
theorem C_TM_semicolon (t : Nat) (g : PG) (u : PM) : call M_TM_semicolon [vA t] g u =
  bif pW t && pO (pK g t) 11 then (
  if (u t 18) = 3 then
    run M_TM_semicolon 14 [vA t] [vI 0, vA t] g u
  else
    run M_TM_semicolon 14 [vA t] [vI 1, vA t] g u) else none := (run_bl (m := M_TM_semicolon) (T := T_TM_semicolon) (hh := []) (stop := [(14, [true])]) rfl rfl rfl 18 (pc := 0) (L := [vA t]) (S := []) rfl).trans rfl
set_option maxRecDepth 100000 in
theorem R_TM_semicolon_14 (t : Nat) (s0 : Int) (s1 : Nat) (g : PG) (u : PM) : run M_TM_semicolon 14 [vA t] [vI s0, vA s1] g u =
  bif pW s1 && pO (pK g s1) 11 then (
  cV (call M_TM_wrong [vA s1, vI s0, vI 1] g u) (fun (g1 : PG) (u2 : PM) =>
    bif pW t && pO (pK g1 t) 11 then (
    cV (call M_TM_go [vA t] g1 u2) (fun (g3 : PG) (u4 : PM) =>
      some (0, vN, g3, u4)) noX) else none) noX) else none := (run_bl (m := M_TM_semicolon) (T := T_TM_semicolon) (hh := []) (stop := [(14, [true])]) rfl rfl rfl 18 (pc := 14) (L := [vA t]) (S := [vI s0, vA s1]) rfl).trans rfl
set_option maxRecDepth 100000 in
theorem C_TM_blockTold (t : Nat) (g : PG) (u : PM) : call M_TM_blockTold [vA t] g u =
  bif pW t && pO (pK g t) 11 then (
  cV (call M_TM_go [vA t] g u) (fun (g1 : PG) (u2 : PM) =>
    bif pW t && pO (pK g1 t) 11 then (
    bif pR (pK g1 (t + 1)) 0 0 then (
    bif pW t && pO (pK g1 t) 11 then (
    cI (call M_TM_number [vA t, vI 0, vI (w ((u2 (t + 1) 0) - 1))] g1 u2) (fun (x5 : Int) (g3 : PG) (u4 : PM) =>
      bif pW t && pO (pK g3 t) 11 then (
      bif pR (pK g3 (t + 1)) 0 1 then (
      bif pW t && pO (pK g3 t) 11 then (
      cI (call M_TM_here [vA t, vI 0, vI (w ((u4 (t + 1) 1) - 1))] g3 u4) (fun (x8 : Int) (g6 : PG) (u7 : PM) =>
        bif pW t && pO (pK g6 t) 11 then (
        if (u7 t 22) = 0 then
          bif pW t && pO (pK g6 t) 11 then (
          cI (call M_TM_cell [vA t, vI x5, vI x8] g6 u7) (fun (x11 : Int) (g9 : PG) (u10 : PM) =>
            if x11 = 1 then
              run M_TM_blockTold 55 [vA t, vI x5, vI x8] [vI 1, vA t] g9 u10
            else
              run M_TM_blockTold 55 [vA t, vI x5, vI x8] [vI 0, vA t] g9 u10) noX) else none
        else
          run M_TM_blockTold 55 [vA t, vI x5, vI x8] [vI 0, vA t] g6 u7) else none) noX) else none) else none) else none) noX) else none) else none) else none) noX) else none := (run_bl (m := M_TM_blockTold) (T := T_TM_blockTold) (hh := []) (stop := [(55, [true, true, true])]) rfl rfl rfl 60 (pc := 0) (L := [vA t, vN, vN]) (S := []) rfl).trans rfl
set_option maxRecDepth 100000 in
theorem R_TM_blockTold_55 (t : Nat) (a1 : Int) (a2 : Int) (s0 : Int) (s1 : Nat) (g : PG) (u : PM) : run M_TM_blockTold 55 [vA t, vI a1, vI a2] [vI s0, vA s1] g u =
  bif pW s1 && pO (pK g s1) 11 then (
  cV (call M_TM_wrong [vA s1, vI s0, vI 4] g u) (fun (g1 : PG) (u2 : PM) =>
    bif pW t && pO (pK g1 t) 11 then (
    if (u2 t 22) = 0 then
      bif pW t && pO (pK g1 t) 11 then (
      cI (call M_TM_at [vI a1, vI a2] g1 u2) (fun (x5 : Int) (g3 : PG) (u4 : PM) =>
        bif pW (t + 1) && pR (pK g3 (t + 1)) 0 (w (33 + x5)) then (
        bif pW t && pO (pK g3 t) 11 then (
        cV (call M_TM_go [vA t] g3 (up u4 (t + 1) (w (33 + x5)) 1)) (fun (g6 : PG) (u7 : PM) =>
          bif pW t && pO (pK g6 t) 11 then (
          cV (call M_TM_semicolon [vA t] g6 u7) (fun (g8 : PG) (u9 : PM) =>
            some (0, vN, g8, u9)) noX) else none) noX) else none) else none) noX) else none
    else
      some (0, vN, g1, u2)) else none) noX) else none := (run_bl (m := M_TM_blockTold) (T := T_TM_blockTold) (hh := []) (stop := [(55, [true, true, true])]) rfl rfl rfl 60 (pc := 55) (L := [vA t, vI a1, vI a2]) (S := [vI s0, vA s1]) rfl).trans rfl
set_option maxRecDepth 100000 in
theorem C_TM_edgeTold (t : Nat) (g : PG) (u : PM) : call M_TM_edgeTold [vA t] g u =
  bif pW t && pO (pK g t) 11 then (
  cV (call M_TM_go [vA t] g u) (fun (g1 : PG) (u2 : PM) =>
    bif pW t && pO (pK g1 t) 11 then (
    bif pR (pK g1 (t + 1)) 0 0 then (
    bif pW t && pO (pK g1 t) 11 then (
    cI (call M_TM_number [vA t, vI 0, vI (w ((u2 (t + 1) 0) - 1))] g1 u2) (fun (x5 : Int) (g3 : PG) (u4 : PM) =>
      bif pW t && pO (pK g3 t) 11 then (
      bif pR (pK g3 (t + 1)) 0 1 then (
      bif pW t && pO (pK g3 t) 11 then (
      cI (call M_TM_number [vA t, vI 0, vI (w ((u4 (t + 1) 1) - 1))] g3 u4) (fun (x8 : Int) (g6 : PG) (u7 : PM) =>
        bif pW t && pO (pK g6 t) 11 then (
        cI (call M_TM_sideHere [vA t] g6 u7) (fun (x11 : Int) (g9 : PG) (u10 : PM) =>
          bif pW t && pO (pK g9 t) 11 then (
          if (u10 t 22) = 0 then
            bif pW t && pO (pK g9 t) 11 then (
            cI (call M_TM_isEdge [vA t, vI x5, vI x8, vI x11] g9 u10) (fun (x14 : Int) (g12 : PG) (u13 : PM) =>
              if x14 = 0 then
                run M_TM_edgeTold 60 [vA t, vI x5, vI x8, vI x11, vN] [vI 1, vA t] g12 u13
              else
                run M_TM_edgeTold 60 [vA t, vI x5, vI x8, vI x11, vN] [vI 0, vA t] g12 u13) noX) else none
          else
            run M_TM_edgeTold 60 [vA t, vI x5, vI x8, vI x11, vN] [vI 0, vA t] g9 u10) else none) noX) else none) noX) else none) else none) else none) noX) else none) else none) else none) noX) else none := (run_bl (m := M_TM_edgeTold) (T := T_TM_edgeTold) (hh := []) (stop := [(60, [true, true, true, true, false]), (92, [true, true, true, true, false]), (126, [true, true, true, true, false]), (137, [true, true, true, true, false]), (149, [true, true, true, true, false])]) rfl rfl rfl 116 (pc := 0) (L := [vA t, vN, vN, vN, vN]) (S := []) rfl).trans rfl
set_option maxRecDepth 100000 in
theorem R_TM_edgeTold_60 (t : Nat) (a1 : Int) (a2 : Int) (a3 : Int) (s0 : Int) (s1 : Nat) (g : PG) (u : PM) : run M_TM_edgeTold 60 [vA t, vI a1, vI a2, vI a3, vN] [vI s0, vA s1] g u =
  bif pW s1 && pO (pK g s1) 11 then (
  cV (call M_TM_wrong [vA s1, vI s0, vI 3] g u) (fun (g1 : PG) (u2 : PM) =>
    bif pW t && pO (pK g1 t) 11 then (
    if (u2 t 22) = 0 then
      bif pW t && pO (pK g1 t) 11 then (
      cI (call M_TM_edge [vI a1, vI a2, vI a3] g1 u2) (fun (x5 : Int) (g3 : PG) (u4 : PM) =>
        bif pR (pK g3 (t + 1)) 0 x5 then (
        if (u4 (t + 1) x5) = 1 then
          run M_TM_edgeTold 92 [vA t, vI a1, vI a2, vI a3, vN] [vI 1, vA t] g3 u4
        else
          run M_TM_edgeTold 92 [vA t, vI a1, vI a2, vI a3, vN] [vI 0, vA t] g3 u4) else none) noX) else none
    else
      run M_TM_edgeTold 92 [vA t, vI a1, vI a2, vI a3, vN] [vI 0, vA t] g1 u2) else none) noX) else none := (run_bl (m := M_TM_edgeTold) (T := T_TM_edgeTold) (hh := []) (stop := [(60, [true, true, true, true, false]), (92, [true, true, true, true, false]), (126, [true, true, true, true, false]), (137, [true, true, true, true, false]), (149, [true, true, true, true, false])]) rfl rfl rfl 116 (pc := 60) (L := [vA t, vI a1, vI a2, vI a3, vN]) (S := [vI s0, vA s1]) rfl).trans rfl
set_option maxRecDepth 100000 in
theorem R_TM_edgeTold_92 (t : Nat) (a1 : Int) (a2 : Int) (a3 : Int) (s0 : Int) (s1 : Nat) (g : PG) (u : PM) : run M_TM_edgeTold 92 [vA t, vI a1, vI a2, vI a3, vN] [vI s0, vA s1] g u =
  bif pW s1 && pO (pK g s1) 11 then (
  cV (call M_TM_wrong [vA s1, vI s0, vI 4] g u) (fun (g1 : PG) (u2 : PM) =>
    bif pW t && pO (pK g1 t) 11 then (
    if (u2 t 22) = 0 then
      bif pW t && pO (pK g1 t) 11 then (
      cI (call M_TM_cell [vA t, vI a1, vI a2] g1 u2) (fun (x5 : Int) (g3 : PG) (u4 : PM) =>
        if x5 = 1 then
          run M_TM_edgeTold 149 [vA t, vI a1, vI a2, vI a3, vN] [vI 1] g3 u4
        else
          if a3 = 0 then
            run M_TM_edgeTold 126 [vA t, vI a1, vI a2, vI a3, vN] [vI (w (a1 + 1)), vA t] g3 u4
          else
            run M_TM_edgeTold 126 [vA t, vI a1, vI a2, vI a3, vN] [vI a1, vA t] g3 u4) noX) else none
    else
      some (0, vN, g1, u2)) else none) noX) else none := (run_bl (m := M_TM_edgeTold) (T := T_TM_edgeTold) (hh := []) (stop := [(60, [true, true, true, true, false]), (92, [true, true, true, true, false]), (126, [true, true, true, true, false]), (137, [true, true, true, true, false]), (149, [true, true, true, true, false])]) rfl rfl rfl 116 (pc := 92) (L := [vA t, vI a1, vI a2, vI a3, vN]) (S := [vI s0, vA s1]) rfl).trans rfl
set_option maxRecDepth 100000 in
theorem R_TM_edgeTold_126 (t : Nat) (a1 : Int) (a2 : Int) (a3 : Int) (s0 : Int) (s1 : Nat) (g : PG) (u : PM) : run M_TM_edgeTold 126 [vA t, vI a1, vI a2, vI a3, vN] [vI s0, vA s1] g u =
  if a3 = 0 then
    run M_TM_edgeTold 137 [vA t, vI a1, vI a2, vI a3, vN] [vI a2, vI s0, vA s1] g u
  else
    run M_TM_edgeTold 137 [vA t, vI a1, vI a2, vI a3, vN] [vI (w (a2 + 1)), vI s0, vA s1] g u := (run_bl (m := M_TM_edgeTold) (T := T_TM_edgeTold) (hh := []) (stop := [(60, [true, true, true, true, false]), (92, [true, true, true, true, false]), (126, [true, true, true, true, false]), (137, [true, true, true, true, false]), (149, [true, true, true, true, false])]) rfl rfl rfl 116 (pc := 126) (L := [vA t, vI a1, vI a2, vI a3, vN]) (S := [vI s0, vA s1]) rfl).trans rfl
set_option maxRecDepth 100000 in
theorem R_TM_edgeTold_137 (t : Nat) (a1 : Int) (a2 : Int) (a3 : Int) (s0 : Int) (s1 : Int) (s2 : Nat) (g : PG) (u : PM) : run M_TM_edgeTold 137 [vA t, vI a1, vI a2, vI a3, vN] [vI s0, vI s1, vA s2] g u =
  bif pW s2 && pO (pK g s2) 11 then (
  cI (call M_TM_cell [vA s2, vI s1, vI s0] g u) (fun (x3 : Int) (g1 : PG) (u2 : PM) =>
    if x3 = 1 then
      run M_TM_edgeTold 149 [vA t, vI a1, vI a2, vI a3, vN] [vI 1] g1 u2
    else
      run M_TM_edgeTold 149 [vA t, vI a1, vI a2, vI a3, vN] [vI 0] g1 u2) noX) else none := (run_bl (m := M_TM_edgeTold) (T := T_TM_edgeTold) (hh := []) (stop := [(60, [true, true, true, true, false]), (92, [true, true, true, true, false]), (126, [true, true, true, true, false]), (137, [true, true, true, true, false]), (149, [true, true, true, true, false])]) rfl rfl rfl 116 (pc := 137) (L := [vA t, vI a1, vI a2, vI a3, vN]) (S := [vI s0, vI s1, vA s2]) rfl).trans rfl
set_option maxRecDepth 100000 in
theorem R_TM_edgeTold_149 (t : Nat) (a1 : Int) (a2 : Int) (a3 : Int) (s0 : Int) (g : PG) (u : PM) : run M_TM_edgeTold 149 [vA t, vI a1, vI a2, vI a3, vN] [vI s0] g u =
  bif pW t && pO (pK g t) 11 then (
  cV (call M_TM_wrong [vA t, vI s0, vI 5] g u) (fun (g1 : PG) (u2 : PM) =>
    bif pW t && pO (pK g1 t) 11 then (
    if (u2 t 22) = 0 then
      bif pW t && pO (pK g1 t) 11 then (
      cI (call M_TM_edge [vI a1, vI a2, vI a3] g1 u2) (fun (x5 : Int) (g3 : PG) (u4 : PM) =>
        bif pW (t + 1) && pR (pK g3 (t + 1)) 0 x5 then (
        bif pW t && pO (pK g3 t) 11 then (
        cV (call M_TM_go [vA t] g3 (up u4 (t + 1) x5 1)) (fun (g6 : PG) (u7 : PM) =>
          bif pW t && pO (pK g6 t) 11 then (
          cV (call M_TM_semicolon [vA t] g6 u7) (fun (g8 : PG) (u9 : PM) =>
            some (0, vN, g8, u9)) noX) else none) noX) else none) else none) noX) else none
    else
      some (0, vN, g1, u2)) else none) noX) else none := (run_bl (m := M_TM_edgeTold) (T := T_TM_edgeTold) (hh := []) (stop := [(60, [true, true, true, true, false]), (92, [true, true, true, true, false]), (126, [true, true, true, true, false]), (137, [true, true, true, true, false]), (149, [true, true, true, true, false])]) rfl rfl rfl 116 (pc := 149) (L := [vA t, vI a1, vI a2, vI a3, vN]) (S := [vI s0]) rfl).trans rfl
set_option maxRecDepth 100000 in
theorem C_TM_hasNameHere (t : Nat) (a1 : Int) (g : PG) (u : PM) : call M_TM_hasNameHere [vA t, vI a1] g u =
  bif pW t && pO (pK g t) 11 then (
  cI (call M_TM_of [vA t, vI a1, vI 7] g u) (fun (x3 : Int) (g1 : PG) (u2 : PM) =>
    bif pW t && pO (pK g1 t) 11 then (
    bif pW t && pO (pK g1 t) 11 then (
    if x3 = (w ((u2 t 20) - (u2 t 19))) then
      run M_TM_hasNameHere 27 [vA t, vI a1, vI 1, vI 0] [] g1 u2
    else
      run M_TM_hasNameHere 27 [vA t, vI a1, vI 0, vI 0] [] g1 u2) else none) else none) noX) else none := (run_bl (m := M_TM_hasNameHere) (T := T_TM_hasNameHere) (hh := []) (stop := [(27, [true, true, true, true])]) rfl rfl rfl 52 (pc := 0) (L := [vA t, vI a1, vN, vN]) (S := []) rfl).trans rfl
set_option maxRecDepth 100000 in
theorem R_TM_hasNameHere_27 (t : Nat) (a1 : Int) (a2 : Int) (a3 : Int) (g : PG) (u : PM) : run M_TM_hasNameHere 27 [vA t, vI a1, vI a2, vI a3] [] g u =
  if a2 = 0 then
    bif b01 a2 then (
    some (0, vI a2, g, u)) else none
  else
    bif pW t && pO (pK g t) 11 then (
    bif pW t && pO (pK g t) 11 then (
    if a3 < (w ((u t 20) - (u t 19))) then
      bif pW t && pO (pK g t) 11 then (
      cI (call M_TM_of [vA t, vI a1, vI (w (8 + a3))] g u) (fun (x3 : Int) (g1 : PG) (u2 : PM) =>
        bif pW t && pO (pK g1 t) 11 then (
        bif pW t && pO (pK g1 t) 11 then (
        bif pR (pK g1 (t + 7)) 0 (w ((u2 t 19) + a3)) then (
        if x3 = (u2 (t + 7) (w ((u2 t 19) + a3))) then
          run M_TM_hasNameHere 27 [vA t, vI a1, vI 1, vI (w (a3 + 1))] [] g1 u2
        else
          run M_TM_hasNameHere 27 [vA t, vI a1, vI 0, vI (w (a3 + 1))] [] g1 u2) else none) else none) else none) noX) else none
    else
      bif b01 a2 then (
      some (0, vI a2, g, u)) else none) else none) else none := (run_bl (m := M_TM_hasNameHere) (T := T_TM_hasNameHere) (hh := []) (stop := [(27, [true, true, true, true])]) rfl rfl rfl 52 (pc := 27) (L := [vA t, vI a1, vI a2, vI a3]) (S := []) rfl).trans rfl
set_option maxRecDepth 100000 in
theorem C_TM_playerTold (t : Nat) (a1 : Int) (g : PG) (u : PM) : call M_TM_playerTold [vA t, vI a1] g u =
  bif pW t && pO (pK g t) 11 then (
  cI (call M_TM_is [vA t, vA 100022] g u) (fun (x3 : Int) (g1 : PG) (u2 : PM) =>
    if x3 = 0 then
      run M_TM_playerTold 15 [vA t, vI a1, vN] [vI 1, vA t] g1 u2
    else
      run M_TM_playerTold 15 [vA t, vI a1, vN] [vI 0, vA t] g1 u2) noX) else none := (run_bl (m := M_TM_playerTold) (T := T_TM_playerTold) (hh := []) (stop := [(15, [true, true, false]), (51, [true, true, false]), (81, [true, true, false]), (111, [true, true, true]), (156, [true, true, true])]) rfl rfl rfl 117 (pc := 0) (L := [vA t, vI a1, vN]) (S := []) rfl).trans rfl
set_option maxRecDepth 100000 in
theorem R_TM_playerTold_15 (t : Nat) (a1 : Int) (s0 : Int) (s1 : Nat) (g : PG) (u : PM) : run M_TM_playerTold 15 [vA t, vI a1, vN] [vI s0, vA s1] g u =
  bif pW s1 && pO (pK g s1) 11 then (
  cV (call M_TM_wrong [vA s1, vI s0, vI 1] g u) (fun (g1 : PG) (u2 : PM) =>
    bif pW t && pO (pK g1 t) 11 then (
    cV (call M_TM_go [vA t] g1 u2) (fun (g3 : PG) (u4 : PM) =>
      bif pW t && pO (pK g3 t) 11 then (
      if (u4 t 18) = 1 then
        bif pW t && pO (pK g3 t) 11 then (
        bif pW t && pO (pK g3 t) 11 then (
        if 6 < (w ((u4 t 20) - (u4 t 19))) then
          run M_TM_playerTold 51 [vA t, vI a1, vN] [vI 1, vA t] g3 u4
        else
          run M_TM_playerTold 51 [vA t, vI a1, vN] [vI 0, vA t] g3 u4) else none) else none
      else
        run M_TM_playerTold 51 [vA t, vI a1, vN] [vI 1, vA t] g3 u4) else none) noX) else none) noX) else none := (run_bl (m := M_TM_playerTold) (T := T_TM_playerTold) (hh := []) (stop := [(15, [true, true, false]), (51, [true, true, false]), (81, [true, true, false]), (111, [true, true, true]), (156, [true, true, true])]) rfl rfl rfl 117 (pc := 15) (L := [vA t, vI a1, vN]) (S := [vI s0, vA s1]) rfl).trans rfl
set_option maxRecDepth 100000 in
theorem R_TM_playerTold_51 (t : Nat) (a1 : Int) (s0 : Int) (s1 : Nat) (g : PG) (u : PM) : run M_TM_playerTold 51 [vA t, vI a1, vN] [vI s0, vA s1] g u =
  bif pW s1 && pO (pK g s1) 11 then (
  cV (call M_TM_wrong [vA s1, vI s0, vI 1] g u) (fun (g1 : PG) (u2 : PM) =>
    bif pW t && pO (pK g1 t) 11 then (
    if (u2 t 22) = 0 then
      if a1 = 1 then
        bif pW t && pO (pK g1 t) 11 then (
        cI (call M_TM_hasNameHere [vA t, vI 0] g1 u2) (fun (x5 : Int) (g3 : PG) (u4 : PM) =>
          if x5 = 0 then
            run M_TM_playerTold 81 [vA t, vI a1, vN] [vI 0, vA t] g3 u4
          else
            run M_TM_playerTold 81 [vA t, vI a1, vN] [vI 1, vA t] g3 u4) noX) else none
      else
        run M_TM_playerTold 81 [vA t, vI a1, vN] [vI 0, vA t] g1 u2
    else
      run M_TM_playerTold 81 [vA t, vI a1, vN] [vI 0, vA t] g1 u2) else none) noX) else none := (run_bl (m := M_TM_playerTold) (T := T_TM_playerTold) (hh := []) (stop := [(15, [true, true, false]), (51, [true, true, false]), (81, [true, true, false]), (111, [true, true, true]), (156, [true, true, true])]) rfl rfl rfl 117 (pc := 51) (L := [vA t, vI a1, vN]) (S := [vI s0, vA s1]) rfl).trans rfl
set_option maxRecDepth 100000 in
theorem R_TM_playerTold_81 (t : Nat) (a1 : Int) (s0 : Int) (s1 : Nat) (g : PG) (u : PM) : run M_TM_playerTold 81 [vA t, vI a1, vN] [vI s0, vA s1] g u =
  bif pW s1 && pO (pK g s1) 11 then (
  cV (call M_TM_wrong [vA s1, vI s0, vI 4] g u) (fun (g1 : PG) (u2 : PM) =>
    bif pW t && pO (pK g1 t) 11 then (
    if (u2 t 22) = 0 then
      bif pW t && pO (pK g1 t) 11 then (
      bif pW t && pO (pK g1 t) 11 then (
      bif pW t && pO (pK g1 t) 11 then (
      cV (call M_TM_put [vA t, vI a1, vI 7, vI (w ((u2 t 20) - (u2 t 19)))] g1 u2) (fun (g3 : PG) (u4 : PM) =>
        run M_TM_playerTold 111 [vA t, vI a1, vI 0] [] g3 u4) noX) else none) else none) else none
    else
      some (0, vN, g1, u2)) else none) noX) else none := (run_bl (m := M_TM_playerTold) (T := T_TM_playerTold) (hh := []) (stop := [(15, [true, true, false]), (51, [true, true, false]), (81, [true, true, false]), (111, [true, true, true]), (156, [true, true, true])]) rfl rfl rfl 117 (pc := 81) (L := [vA t, vI a1, vN]) (S := [vI s0, vA s1]) rfl).trans rfl
set_option maxRecDepth 100000 in
theorem R_TM_playerTold_111 (t : Nat) (a1 : Int) (a2 : Int) (g : PG) (u : PM) : run M_TM_playerTold 111 [vA t, vI a1, vI a2] [] g u =
  bif pW t && pO (pK g t) 11 then (
  bif pW t && pO (pK g t) 11 then (
  if a2 < (w ((u t 20) - (u t 19))) then
    bif pW t && pO (pK g t) 11 then (
    bif pW t && pO (pK g t) 11 then (
    bif pR (pK g (t + 7)) 0 (w ((u t 19) + a2)) then (
    bif pW t && pO (pK g t) 11 then (
    cV (call M_TM_put [vA t, vI a1, vI (w (8 + a2)), vI (u (t + 7) (w ((u t 19) + a2)))] g u) (fun (g1 : PG) (u2 : PM) =>
      run M_TM_playerTold 111 [vA t, vI a1, vI (w (a2 + 1))] [] g1 u2) noX) else none) else none) else none) else none
  else
    bif pW t && pO (pK g t) 11 then (
    cV (call M_TM_go [vA t] g u) (fun (g3 : PG) (u4 : PM) =>
      run M_TM_playerTold 156 [vA t, vI a1, vI 0] [] g3 u4) noX) else none) else none) else none := (run_bl (m := M_TM_playerTold) (T := T_TM_playerTold) (hh := []) (stop := [(15, [true, true, false]), (51, [true, true, false]), (81, [true, true, false]), (111, [true, true, true]), (156, [true, true, true])]) rfl rfl rfl 117 (pc := 111) (L := [vA t, vI a1, vI a2]) (S := []) rfl).trans rfl
set_option maxRecDepth 100000 in
theorem R_TM_playerTold_156 (t : Nat) (a1 : Int) (a2 : Int) (g : PG) (u : PM) : run M_TM_playerTold 156 [vA t, vI a1, vI a2] [] g u =
  if a2 < 5 then
    bif pW t && pO (pK g t) 11 then (
    cI (call M_TM_number [vA t, vI 0, vI 9] g u) (fun (x3 : Int) (g1 : PG) (u2 : PM) =>
      bif pW t && pO (pK g1 t) 11 then (
      cV (call M_TM_put [vA t, vI a1, vI (w (2 + a2)), vI x3] g1 u2) (fun (g4 : PG) (u5 : PM) =>
        run M_TM_playerTold 156 [vA t, vI a1, vI (w (a2 + 1))] [] g4 u5) noX) else none) noX) else none
  else
    bif pW t && pO (pK g t) 11 then (
    cI (call M_TM_number [vA t, vI 0, vI 9] g u) (fun (x8 : Int) (g6 : PG) (u7 : PM) =>
      bif pW t && pO (pK g6 t) 11 then (
      cV (call M_TM_put [vA t, vI a1, vI 1, vI x8] g6 u7) (fun (g9 : PG) (u10 : PM) =>
        bif pW t && pO (pK g9 t) 11 then (
        cV (call M_TM_semicolon [vA t] g9 u10) (fun (g11 : PG) (u12 : PM) =>
          some (0, vN, g11, u12)) noX) else none) noX) else none) noX) else none := (run_bl (m := M_TM_playerTold) (T := T_TM_playerTold) (hh := []) (stop := [(15, [true, true, false]), (51, [true, true, false]), (81, [true, true, false]), (111, [true, true, true]), (156, [true, true, true])]) rfl rfl rfl 117 (pc := 156) (L := [vA t, vI a1, vI a2]) (S := []) rfl).trans rfl
set_option maxRecDepth 100000 in
theorem C_TM_shapeHere (t : Nat) (g : PG) (u : PM) : call M_TM_shapeHere [vA t] g u =
  bif pW t && pO (pK g t) 11 then (
  cI (call M_TM_is [vA t, vA 100024] g u) (fun (x3 : Int) (g1 : PG) (u2 : PM) =>
    if x3 = 0 then
      bif pW t && pO (pK g1 t) 11 then (
      cI (call M_TM_is [vA t, vA 100025] g1 u2) (fun (x6 : Int) (g4 : PG) (u5 : PM) =>
        if x6 = 0 then
          bif pW t && pO (pK g4 t) 11 then (
          cI (call M_TM_is [vA t, vA 100026] g4 u5) (fun (x9 : Int) (g7 : PG) (u8 : PM) =>
            if x9 = 0 then
              bif pW t && pO (pK g7 t) 11 then (
              cI (call M_TM_is [vA t, vA 100027] g7 u8) (fun (x12 : Int) (g10 : PG) (u11 : PM) =>
                if x12 = 0 then
                  bif pW t && pO (pK g10 t) 11 then (
                  cI (call M_TM_is [vA t, vA 100028] g10 u11) (fun (x15 : Int) (g13 : PG) (u14 : PM) =>
                    if x15 = 0 then
                      run M_TM_shapeHere 67 [vA t, vN] [vI (-1)] g13 u14
                    else
                      run M_TM_shapeHere 67 [vA t, vN] [vI 4] g13 u14) noX) else none
                else
                  run M_TM_shapeHere 67 [vA t, vN] [vI 3] g10 u11) noX) else none
            else
              run M_TM_shapeHere 67 [vA t, vN] [vI 2] g7 u8) noX) else none
        else
          run M_TM_shapeHere 67 [vA t, vN] [vI 1] g4 u5) noX) else none
    else
      run M_TM_shapeHere 67 [vA t, vN] [vI 0] g1 u2) noX) else none := (run_bl (m := M_TM_shapeHere) (T := T_TM_shapeHere) (hh := []) (stop := [(67, [true, false]), (79, [true, true])]) rfl rfl rfl 50 (pc := 0) (L := [vA t, vN]) (S := []) rfl).trans rfl
set_option maxRecDepth 100000 in
theorem R_TM_shapeHere_67 (t : Nat) (s0 : Int) (g : PG) (u : PM) : run M_TM_shapeHere 67 [vA t, vN] [vI s0] g u =
  if s0 = (-1) then
    run M_TM_shapeHere 79 [vA t, vI s0] [vI 1, vA t] g u
  else
    run M_TM_shapeHere 79 [vA t, vI s0] [vI 0, vA t] g u := (run_bl (m := M_TM_shapeHere) (T := T_TM_shapeHere) (hh := []) (stop := [(67, [true, false]), (79, [true, true])]) rfl rfl rfl 50 (pc := 67) (L := [vA t, vN]) (S := [vI s0]) rfl).trans rfl
set_option maxRecDepth 100000 in
theorem R_TM_shapeHere_79 (t : Nat) (a1 : Int) (s0 : Int) (s1 : Nat) (g : PG) (u : PM) : run M_TM_shapeHere 79 [vA t, vI a1] [vI s0, vA s1] g u =
  bif pW s1 && pO (pK g s1) 11 then (
  cV (call M_TM_wrong [vA s1, vI s0, vI 1] g u) (fun (g1 : PG) (u2 : PM) =>
    some (0, vI (max2 0 a1), g1, u2)) noX) else none := (run_bl (m := M_TM_shapeHere) (T := T_TM_shapeHere) (hh := []) (stop := [(67, [true, false]), (79, [true, true])]) rfl rfl rfl 50 (pc := 79) (L := [vA t, vI a1]) (S := [vI s0, vA s1]) rfl).trans rfl
set_option maxRecDepth 100000 in
theorem C_TM_placeTold (t : Nat) (g : PG) (u : PM) : call M_TM_placeTold [vA t] g u =
  bif pW t && pO (pK g t) 11 then (
  cV (call M_TM_go [vA t] g u) (fun (g1 : PG) (u2 : PM) =>
    bif pW t && pO (pK g1 t) 11 then (
    if (u2 t 22) = 0 then
      bif pW t && pO (pK g1 t) 11 then (
      cI (call M_TM_shapeHere [vA t] g1 u2) (fun (x5 : Int) (g3 : PG) (u4 : PM) =>
        run M_TM_placeTold 19 [vA t, vN, vN, vN, vN] [vI x5] g3 u4) noX) else none
    else
      run M_TM_placeTold 19 [vA t, vN, vN, vN, vN] [vI 0] g1 u2) else none) noX) else none := (run_bl (m := M_TM_placeTold) (T := T_TM_placeTold) (hh := []) (stop := [(19, [true, false, false, false, false]), (85, [true, true, true, true, true])]) rfl rfl rfl 70 (pc := 0) (L := [vA t, vN, vN, vN, vN]) (S := []) rfl).trans rfl
set_option maxRecDepth 100000 in
theorem R_TM_placeTold_19 (t : Nat) (s0 : Int) (g : PG) (u : PM) : run M_TM_placeTold 19 [vA t, vN, vN, vN, vN] [vI s0] g u =
  bif pW t && pO (pK g t) 11 then (
  cV (call M_TM_go [vA t] g u) (fun (g1 : PG) (u2 : PM) =>
    bif pW t && pO (pK g1 t) 11 then (
    cI (call M_TM_number [vA t, vI 0, vI 3] g1 u2) (fun (x5 : Int) (g3 : PG) (u4 : PM) =>
      bif pW t && pO (pK g3 t) 11 then (
      bif pR (pK g3 (t + 1)) 0 0 then (
      bif pW t && pO (pK g3 t) 11 then (
      cI (call M_TM_number [vA t, vI 0, vI (w ((u4 (t + 1) 0) - 1))] g3 u4) (fun (x8 : Int) (g6 : PG) (u7 : PM) =>
        bif pW t && pO (pK g6 t) 11 then (
        bif pR (pK g6 (t + 1)) 0 1 then (
        bif pW t && pO (pK g6 t) 11 then (
        cI (call M_TM_here [vA t, vI 0, vI (w ((u7 (t + 1) 1) - 1))] g6 u7) (fun (x11 : Int) (g9 : PG) (u10 : PM) =>
          bif pW t && pO (pK g9 t) 11 then (
          if (u10 t 22) = 0 then
            bif pW t && pO (pK g9 t) 11 then (
            cI (call M_TM_mayPlace [vA t, vI s0, vI x5, vI x8, vI x11] g9 u10) (fun (x14 : Int) (g12 : PG) (u13 : PM) =>
              if x14 = 0 then
                run M_TM_placeTold 85 [vA t, vI s0, vI x5, vI x8, vI x11] [vI 1, vA t] g12 u13
              else
                run M_TM_placeTold 85 [vA t, vI s0, vI x5, vI x8, vI x11] [vI 0, vA t] g12 u13) noX) else none
          else
            run M_TM_placeTold 85 [vA t, vI s0, vI x5, vI x8, vI x11] [vI 0, vA t] g9 u10) else none) noX) else none) else none) else none) noX) else none) else none) else none) noX) else none) noX) else none := (run_bl (m := M_TM_placeTold) (T := T_TM_placeTold) (hh := []) (stop := [(19, [true, false, false, false, false]), (85, [true, true, true, true, true])]) rfl rfl rfl 70 (pc := 19) (L := [vA t, vN, vN, vN, vN]) (S := [vI s0]) rfl).trans rfl
set_option maxRecDepth 100000 in
theorem R_TM_placeTold_85 (t : Nat) (a1 : Int) (a2 : Int) (a3 : Int) (a4 : Int) (s0 : Int) (s1 : Nat) (g : PG) (u : PM) : run M_TM_placeTold 85 [vA t, vI a1, vI a2, vI a3, vI a4] [vI s0, vA s1] g u =
  bif pW s1 && pO (pK g s1) 11 then (
  cV (call M_TM_wrong [vA s1, vI s0, vI 6] g u) (fun (g1 : PG) (u2 : PM) =>
    bif pW t && pO (pK g1 t) 11 then (
    if (u2 t 22) = 0 then
      bif pW t && pO (pK g1 t) 11 then (
      cI (call M_TM_places [vA t, vI a1, vI a2, vI a3, vI a4] g1 u2) (fun (x5 : Int) (g3 : PG) (u4 : PM) =>
        bif pW t && pO (pK g3 t) 11 then (
        some (0, vN, g3, up u4 t 23 x5)) else none) noX) else none
    else
      some (0, vN, g1, u2)) else none) noX) else none := (run_bl (m := M_TM_placeTold) (T := T_TM_placeTold) (hh := []) (stop := [(19, [true, false, false, false, false]), (85, [true, true, true, true, true])]) rfl rfl rfl 70 (pc := 85) (L := [vA t, vI a1, vI a2, vI a3, vI a4]) (S := [vI s0, vA s1]) rfl).trans rfl
set_option maxRecDepth 100000 in
theorem C_TM_strapTold (t : Nat) (g : PG) (u : PM) : call M_TM_strapTold [vA t] g u =
  bif pW t && pO (pK g t) 11 then (
  cV (call M_TM_go [vA t] g u) (fun (g1 : PG) (u2 : PM) =>
    bif pW t && pO (pK g1 t) 11 then (
    bif pR (pK g1 (t + 1)) 0 0 then (
    bif pW t && pO (pK g1 t) 11 then (
    cI (call M_TM_number [vA t, vI 0, vI (w ((u2 (t + 1) 0) - 1))] g1 u2) (fun (x5 : Int) (g3 : PG) (u4 : PM) =>
      bif pW t && pO (pK g3 t) 11 then (
      bif pR (pK g3 (t + 1)) 0 1 then (
      bif pW t && pO (pK g3 t) 11 then (
      cI (call M_TM_number [vA t, vI 0, vI (w ((u4 (t + 1) 1) - 1))] g3 u4) (fun (x8 : Int) (g6 : PG) (u7 : PM) =>
        bif pW t && pO (pK g6 t) 11 then (
        if (u7 t 22) = 0 then
          bif pW t && pO (pK g6 t) 11 then (
          cI (call M_TM_sideHere [vA t] g6 u7) (fun (x11 : Int) (g9 : PG) (u10 : PM) =>
            run M_TM_strapTold 47 [vA t, vI x5, vI x8, vN] [vI x11] g9 u10) noX) else none
        else
          run M_TM_strapTold 47 [vA t, vI x5, vI x8, vN] [vI 0] g6 u7) else none) noX) else none) else none) else none) noX) else none) else none) else none) noX) else none := (run_bl (m := M_TM_strapTold) (T := T_TM_strapTold) (hh := []) (stop := [(47, [true, true, true, false]), (71, [true, true, true, true]), (98, [true, true, true, true])]) rfl rfl rfl 76 (pc := 0) (L := [vA t, vN, vN, vN]) (S := []) rfl).trans rfl
set_option maxRecDepth 100000 in
theorem R_TM_strapTold_47 (t : Nat) (a1 : Int) (a2 : Int) (s0 : Int) (g : PG) (u : PM) : run M_TM_strapTold 47 [vA t, vI a1, vI a2, vN] [vI s0] g u =
  bif pW t && pO (pK g t) 11 then (
  if (u t 22) = 0 then
    bif pW t && pO (pK g t) 11 then (
    cI (call M_TM_isEdge [vA t, vI a1, vI a2, vI s0] g u) (fun (x3 : Int) (g1 : PG) (u2 : PM) =>
      if x3 = 0 then
        run M_TM_strapTold 71 [vA t, vI a1, vI a2, vI s0] [vI 1, vA t] g1 u2
      else
        run M_TM_strapTold 71 [vA t, vI a1, vI a2, vI s0] [vI 0, vA t] g1 u2) noX) else none
  else
    run M_TM_strapTold 71 [vA t, vI a1, vI a2, vI s0] [vI 0, vA t] g u) else none := (run_bl (m := M_TM_strapTold) (T := T_TM_strapTold) (hh := []) (stop := [(47, [true, true, true, false]), (71, [true, true, true, true]), (98, [true, true, true, true])]) rfl rfl rfl 76 (pc := 47) (L := [vA t, vI a1, vI a2, vN]) (S := [vI s0]) rfl).trans rfl
set_option maxRecDepth 100000 in
theorem R_TM_strapTold_71 (t : Nat) (a1 : Int) (a2 : Int) (a3 : Int) (s0 : Int) (s1 : Nat) (g : PG) (u : PM) : run M_TM_strapTold 71 [vA t, vI a1, vI a2, vI a3] [vI s0, vA s1] g u =
  bif pW s1 && pO (pK g s1) 11 then (
  cV (call M_TM_wrong [vA s1, vI s0, vI 3] g u) (fun (g1 : PG) (u2 : PM) =>
    bif pW t && pO (pK g1 t) 11 then (
    if (u2 t 22) = 0 then
      bif pW t && pO (pK g1 t) 11 then (
      cI (call M_TM_mayFasten [vA t, vI a1, vI a2, vI a3] g1 u2) (fun (x5 : Int) (g3 : PG) (u4 : PM) =>
        if x5 = 0 then
          run M_TM_strapTold 98 [vA t, vI a1, vI a2, vI a3] [vI 1, vA t] g3 u4
        else
          run M_TM_strapTold 98 [vA t, vI a1, vI a2, vI a3] [vI 0, vA t] g3 u4) noX) else none
    else
      run M_TM_strapTold 98 [vA t, vI a1, vI a2, vI a3] [vI 0, vA t] g1 u2) else none) noX) else none := (run_bl (m := M_TM_strapTold) (T := T_TM_strapTold) (hh := []) (stop := [(47, [true, true, true, false]), (71, [true, true, true, true]), (98, [true, true, true, true])]) rfl rfl rfl 76 (pc := 71) (L := [vA t, vI a1, vI a2, vI a3]) (S := [vI s0, vA s1]) rfl).trans rfl
set_option maxRecDepth 100000 in
theorem R_TM_strapTold_98 (t : Nat) (a1 : Int) (a2 : Int) (a3 : Int) (s0 : Int) (s1 : Nat) (g : PG) (u : PM) : run M_TM_strapTold 98 [vA t, vI a1, vI a2, vI a3] [vI s0, vA s1] g u =
  bif pW s1 && pO (pK g s1) 11 then (
  cV (call M_TM_wrong [vA s1, vI s0, vI 6] g u) (fun (g1 : PG) (u2 : PM) =>
    bif pW t && pO (pK g1 t) 11 then (
    if (u2 t 22) = 0 then
      bif pW t && pO (pK g1 t) 11 then (
      cI (call M_TM_fastens [vA t, vI a1, vI a2, vI a3] g1 u2) (fun (x5 : Int) (g3 : PG) (u4 : PM) =>
        bif pW t && pO (pK g3 t) 11 then (
        some (0, vN, g3, up u4 t 23 x5)) else none) noX) else none
    else
      some (0, vN, g1, u2)) else none) noX) else none := (run_bl (m := M_TM_strapTold) (T := T_TM_strapTold) (hh := []) (stop := [(47, [true, true, true, false]), (71, [true, true, true, true]), (98, [true, true, true, true])]) rfl rfl rfl 76 (pc := 98) (L := [vA t, vI a1, vI a2, vI a3]) (S := [vI s0, vA s1]) rfl).trans rfl
set_option maxRecDepth 100000 in
theorem C_TM_command (t : Nat) (g : PG) (u : PM) : call M_TM_command [vA t] g u =
  bif pW t && pO (pK g t) 11 then (
  cI (call M_TM_is [vA t, vA 100023] g u) (fun (x3 : Int) (g1 : PG) (u2 : PM) =>
    if x3 = 0 then
      bif pW t && pO (pK g1 t) 11 then (
      cI (call M_TM_is [vA t, vA 100019] g1 u2) (fun (x6 : Int) (g4 : PG) (u5 : PM) =>
        if x6 = 0 then
          bif pW t && pO (pK g4 t) 11 then (
          cI (call M_TM_is [vA t, vA 100029] g4 u5) (fun (x9 : Int) (g7 : PG) (u8 : PM) =>
            if x9 = 0 then
              run M_TM_command 50 [vA t] [vI 1, vA t] g7 u8
            else
              run M_TM_command 50 [vA t] [vI 0, vA t] g7 u8) noX) else none
        else
          bif pW t && pO (pK g4 t) 11 then (
          cV (call M_TM_strapTold [vA t] g4 u5) (fun (g10 : PG) (u11 : PM) =>
            run M_TM_command 94 [vA t] [] g10 u11) noX) else none) noX) else none
    else
      bif pW t && pO (pK g1 t) 11 then (
      cV (call M_TM_placeTold [vA t] g1 u2) (fun (g12 : PG) (u13 : PM) =>
        run M_TM_command 94 [vA t] [] g12 u13) noX) else none) noX) else none := (run_bl (m := M_TM_command) (T := T_TM_command) (hh := []) (stop := [(50, [true]), (74, [true]), (94, [true])]) rfl rfl rfl 53 (pc := 0) (L := [vA t]) (S := []) rfl).trans rfl
set_option maxRecDepth 100000 in
theorem R_TM_command_50 (t : Nat) (s0 : Int) (s1 : Nat) (g : PG) (u : PM) : run M_TM_command 50 [vA t] [vI s0, vA s1] g u =
  bif pW s1 && pO (pK g s1) 11 then (
  cV (call M_TM_wrong [vA s1, vI s0, vI 1] g u) (fun (g1 : PG) (u2 : PM) =>
    bif pW t && pO (pK g1 t) 11 then (
    if (u2 t 22) = 0 then
      bif pW t && pO (pK g1 t) 11 then (
      cI (call M_TM_mayPass [vA t] g1 u2) (fun (x5 : Int) (g3 : PG) (u4 : PM) =>
        if x5 = 0 then
          run M_TM_command 74 [vA t] [vI 1, vA t] g3 u4
        else
          run M_TM_command 74 [vA t] [vI 0, vA t] g3 u4) noX) else none
    else
      run M_TM_command 74 [vA t] [vI 0, vA t] g1 u2) else none) noX) else none := (run_bl (m := M_TM_command) (T := T_TM_command) (hh := []) (stop := [(50, [true]), (74, [true]), (94, [true])]) rfl rfl rfl 53 (pc := 50) (L := [vA t]) (S := [vI s0, vA s1]) rfl).trans rfl
set_option maxRecDepth 100000 in
theorem R_TM_command_74 (t : Nat) (s0 : Int) (s1 : Nat) (g : PG) (u : PM) : run M_TM_command 74 [vA t] [vI s0, vA s1] g u =
  bif pW s1 && pO (pK g s1) 11 then (
  cV (call M_TM_wrong [vA s1, vI s0, vI 6] g u) (fun (g1 : PG) (u2 : PM) =>
    bif pW t && pO (pK g1 t) 11 then (
    if (u2 t 22) = 0 then
      bif pW t && pO (pK g1 t) 11 then (
      cI (call M_TM_passes [vA t] g1 u2) (fun (x5 : Int) (g3 : PG) (u4 : PM) =>
        bif pW t && pO (pK g3 t) 11 then (
        run M_TM_command 94 [vA t] [] g3 (up u4 t 23 x5)) else none) noX) else none
    else
      run M_TM_command 94 [vA t] [] g1 u2) else none) noX) else none := (run_bl (m := M_TM_command) (T := T_TM_command) (hh := []) (stop := [(50, [true]), (74, [true]), (94, [true])]) rfl rfl rfl 53 (pc := 74) (L := [vA t]) (S := [vI s0, vA s1]) rfl).trans rfl
set_option maxRecDepth 100000 in
theorem R_TM_command_94 (t : Nat) (g : PG) (u : PM) : run M_TM_command 94 [vA t] [] g u =
  bif pW t && pO (pK g t) 11 then (
  cV (call M_TM_go [vA t] g u) (fun (g1 : PG) (u2 : PM) =>
    bif pW t && pO (pK g1 t) 11 then (
    cV (call M_TM_semicolon [vA t] g1 u2) (fun (g3 : PG) (u4 : PM) =>
      some (0, vN, g3, u4)) noX) else none) noX) else none := (run_bl (m := M_TM_command) (T := T_TM_command) (hh := []) (stop := [(50, [true]), (74, [true]), (94, [true])]) rfl rfl rfl 53 (pc := 94) (L := [vA t]) (S := []) rfl).trans rfl
set_option maxRecDepth 100000 in
theorem C_TM_starts (t : Nat) (g : PG) (u : PM) : call M_TM_starts [vA t] g u =
  bif pW t && pO (pK g t) 11 then (
  bif pW t && pO (pK g t) 11 then (
  bif pW t && pO (pK g t) 11 then (
  bif b01 0 then (
  bif pW t && pO (pK g t) 11 then (
  bif pW t && pO (pK g t) 11 then (
  run M_TM_starts 25 [vA t] [] g (up (up (up (up (up u t 7 0) t 20 0) t 22 0) t 15 0) t 16 (-1))) else none) else none) else none) else none) else none) else none := (run_bl (m := M_TM_starts) (T := T_TM_starts) (hh := []) (stop := [(25, [true])]) rfl rfl rfl 30 (pc := 0) (L := [vA t]) (S := []) rfl).trans rfl
set_option maxRecDepth 100000 in
theorem R_TM_starts_25 (t : Nat) (g : PG) (u : PM) : run M_TM_starts 25 [vA t] [] g u =
  bif pW t && pO (pK g t) 11 then (
  bif pW t && pO (pK g t) 11 then (
  cV (call M_TM_copy [vA (t + 1), vI 0, vA (t + 5), vI 0] g u) (fun (g1 : PG) (u2 : PM) =>
    bif pW t && pO (pK g1 t) 11 then (
    cV (call M_TM_next [vA t] g1 u2) (fun (g3 : PG) (u4 : PM) =>
      some (0, vN, g3, u4)) noX) else none) noX) else none) else none := (run_bl (m := M_TM_starts) (T := T_TM_starts) (hh := []) (stop := [(25, [true])]) rfl rfl rfl 30 (pc := 25) (L := [vA t]) (S := []) rfl).trans rfl
set_option maxRecDepth 100000 in
theorem C_TM_commands (t : Nat) (g : PG) (u : PM) : call M_TM_commands [vA t] g u =
  run M_TM_commands 2 [vA t, vI 0] [] g u := (run_bl (m := M_TM_commands) (T := T_TM_commands) (hh := []) (stop := [(2, [true, true]), (26, [true, true]), (62, [true, true])]) rfl rfl rfl 42 (pc := 0) (L := [vA t, vN]) (S := []) rfl).trans rfl
set_option maxRecDepth 100000 in
theorem R_TM_commands_2 (t : Nat) (a1 : Int) (g : PG) (u : PM) : run M_TM_commands 2 [vA t, vI a1] [] g u =
  bif pW t && pO (pK g t) 11 then (
  if (u t 22) = 0 then
    bif pW t && pO (pK g t) 11 then (
    if (u t 18) = 0 then
      run M_TM_commands 26 [vA t, vI a1] [] g u
    else
      bif pW t && pO (pK g t) 11 then (
      cV (call M_TM_command [vA t] g u) (fun (g1 : PG) (u2 : PM) =>
        run M_TM_commands 2 [vA t, vI (w (a1 + 1))] [] g1 u2) noX) else none) else none
  else
    run M_TM_commands 26 [vA t, vI a1] [] g u) else none := (run_bl (m := M_TM_commands) (T := T_TM_commands) (hh := []) (stop := [(2, [true, true]), (26, [true, true]), (62, [true, true])]) rfl rfl rfl 42 (pc := 2) (L := [vA t, vI a1]) (S := []) rfl).trans rfl
set_option maxRecDepth 100000 in
theorem R_TM_commands_26 (t : Nat) (a1 : Int) (g : PG) (u : PM) : run M_TM_commands 26 [vA t, vI a1] [] g u =
  bif pW t && pO (pK g t) 11 then (
  bif pW t && pO (pK g t) 11 then (
  if ((up u t 13 0) t 22) = 0 then
    bif pW t && pO (pK g t) 11 then (
    bif pW t && pO (pK g t) 11 then (
    cV (call M_TM_remember [vA t, vA (t + 5)] g (up u t 13 0)) (fun (g1 : PG) (u2 : PM) =>
      run M_TM_commands 62 [vA t, vI a1] [] g1 u2) noX) else none) else none
  else
    bif pW t && pO (pK g t) 11 then (
    bif pW t && pO (pK g t) 11 then (
    cV (call M_TM_copy [vA (t + 5), vI 0, vA (t + 1), vI 0] g (up u t 13 0)) (fun (g3 : PG) (u4 : PM) =>
      run M_TM_commands 62 [vA t, vI a1] [] g3 u4) noX) else none) else none) else none) else none := (run_bl (m := M_TM_commands) (T := T_TM_commands) (hh := []) (stop := [(2, [true, true]), (26, [true, true]), (62, [true, true])]) rfl rfl rfl 42 (pc := 26) (L := [vA t, vI a1]) (S := []) rfl).trans rfl
set_option maxRecDepth 100000 in
theorem R_TM_commands_62 (t : Nat) (a1 : Int) (g : PG) (u : PM) : run M_TM_commands 62 [vA t, vI a1] [] g u =
  bif pW t && pO (pK g t) 11 then (
  if (u t 22) = 0 then
    some (0, vI a1, g, u)
  else
    some (0, vI (-1), g, u)) else none := (run_bl (m := M_TM_commands) (T := T_TM_commands) (hh := []) (stop := [(2, [true, true]), (26, [true, true]), (62, [true, true])]) rfl rfl rfl 42 (pc := 62) (L := [vA t, vI a1]) (S := []) rfl).trans rfl
set_option maxRecDepth 100000 in
theorem C_TM_load (t : Nat) (g : PG) (u : PM) : call M_TM_load [vA t] g u =
  bif pW t && pO (pK g t) 11 then (
  cV (call M_TM_starts [vA t] g u) (fun (g1 : PG) (u2 : PM) =>
    run M_TM_load 6 [vA t, vI 0] [] g1 u2) noX) else none := (run_bl (m := M_TM_load) (T := T_TM_load) (hh := []) (stop := [(6, [true, true]), (42, [true, true]), (80, [true, true]), (104, [true, true]), (130, [true, true]), (153, [true, true])]) rfl rfl rfl 91 (pc := 0) (L := [vA t, vN]) (S := []) rfl).trans rfl
set_option maxRecDepth 100000 in
theorem R_TM_load_6 (t : Nat) (a1 : Int) (g : PG) (u : PM) : run M_TM_load 6 [vA t, vI a1] [] g u =
  if a1 < 417 then
    bif pW t && pO (pK g t) 11 then (
    bif pW (t + 1) && pR (pK g (t + 1)) 0 a1 then (
    run M_TM_load 6 [vA t, vI (w (a1 + 1))] [] g (up u (t + 1) a1 0)) else none) else none
  else
    bif pW t && pO (pK g t) 11 then (
    cI (call M_TM_is [vA t, vA 100017] g u) (fun (x3 : Int) (g1 : PG) (u2 : PM) =>
      if x3 = 0 then
        run M_TM_load 42 [vA t, vI a1] [vI 1, vA t] g1 u2
      else
        run M_TM_load 42 [vA t, vI a1] [vI 0, vA t] g1 u2) noX) else none := (run_bl (m := M_TM_load) (T := T_TM_load) (hh := []) (stop := [(6, [true, true]), (42, [true, true]), (80, [true, true]), (104, [true, true]), (130, [true, true]), (153, [true, true])]) rfl rfl rfl 91 (pc := 6) (L := [vA t, vI a1]) (S := []) rfl).trans rfl
set_option maxRecDepth 100000 in
theorem R_TM_load_42 (t : Nat) (a1 : Int) (s0 : Int) (s1 : Nat) (g : PG) (u : PM) : run M_TM_load 42 [vA t, vI a1] [vI s0, vA s1] g u =
  bif pW s1 && pO (pK g s1) 11 then (
  cV (call M_TM_wrong [vA s1, vI s0, vI 1] g u) (fun (g1 : PG) (u2 : PM) =>
    bif pW t && pO (pK g1 t) 11 then (
    cV (call M_TM_go [vA t] g1 u2) (fun (g3 : PG) (u4 : PM) =>
      bif pW t && pO (pK g3 t) 11 then (
      bif pW t && pO (pK g3 t) 11 then (
      cI (call M_TM_number [vA t, vI 3, vI 8] g3 u4) (fun (x7 : Int) (g5 : PG) (u6 : PM) =>
        bif pW (t + 1) && pR (pK g5 (t + 1)) 0 0 then (
        bif pW t && pO (pK g5 t) 11 then (
        bif pW t && pO (pK g5 t) 11 then (
        cI (call M_TM_number [vA t, vI 3, vI 8] g5 (up u6 (t + 1) 0 x7)) (fun (x10 : Int) (g8 : PG) (u9 : PM) =>
          bif pW (t + 1) && pR (pK g8 (t + 1)) 0 1 then (
          bif pW t && pO (pK g8 t) 11 then (
          cV (call M_TM_semicolon [vA t] g8 (up u9 (t + 1) 1 x10)) (fun (g11 : PG) (u12 : PM) =>
            run M_TM_load 80 [vA t, vI a1] [] g11 u12) noX) else none) else none) noX) else none) else none) else none) noX) else none) else none) noX) else none) noX) else none := (run_bl (m := M_TM_load) (T := T_TM_load) (hh := []) (stop := [(6, [true, true]), (42, [true, true]), (80, [true, true]), (104, [true, true]), (130, [true, true]), (153, [true, true])]) rfl rfl rfl 91 (pc := 42) (L := [vA t, vI a1]) (S := [vI s0, vA s1]) rfl).trans rfl
set_option maxRecDepth 100000 in
theorem R_TM_load_80 (t : Nat) (a1 : Int) (g : PG) (u : PM) : run M_TM_load 80 [vA t, vI a1] [] g u =
  bif pW t && pO (pK g t) 11 then (
  if (u t 22) = 0 then
    bif pW t && pO (pK g t) 11 then (
    cI (call M_TM_is [vA t, vA 100018] g u) (fun (x3 : Int) (g1 : PG) (u2 : PM) =>
      if x3 = 0 then
        run M_TM_load 104 [vA t, vI a1] [] g1 u2
      else
        bif pW t && pO (pK g1 t) 11 then (
        cV (call M_TM_blockTold [vA t] g1 u2) (fun (g4 : PG) (u5 : PM) =>
          run M_TM_load 80 [vA t, vI a1] [] g4 u5) noX) else none) noX) else none
  else
    run M_TM_load 104 [vA t, vI a1] [] g u) else none := (run_bl (m := M_TM_load) (T := T_TM_load) (hh := []) (stop := [(6, [true, true]), (42, [true, true]), (80, [true, true]), (104, [true, true]), (130, [true, true]), (153, [true, true])]) rfl rfl rfl 91 (pc := 80) (L := [vA t, vI a1]) (S := []) rfl).trans rfl
set_option maxRecDepth 100000 in
theorem R_TM_load_104 (t : Nat) (a1 : Int) (g : PG) (u : PM) : run M_TM_load 104 [vA t, vI a1] [] g u =
  bif pW t && pO (pK g t) 11 then (
  if (u t 22) = 0 then
    bif pW t && pO (pK g t) 11 then (
    cI (call M_TM_is [vA t, vA 100019] g u) (fun (x3 : Int) (g1 : PG) (u2 : PM) =>
      if x3 = 0 then
        run M_TM_load 130 [vA t, vI 0] [] g1 u2
      else
        bif pW t && pO (pK g1 t) 11 then (
        cV (call M_TM_edgeTold [vA t] g1 u2) (fun (g4 : PG) (u5 : PM) =>
          run M_TM_load 104 [vA t, vI a1] [] g4 u5) noX) else none) noX) else none
  else
    run M_TM_load 130 [vA t, vI 0] [] g u) else none := (run_bl (m := M_TM_load) (T := T_TM_load) (hh := []) (stop := [(6, [true, true]), (42, [true, true]), (80, [true, true]), (104, [true, true]), (130, [true, true]), (153, [true, true])]) rfl rfl rfl 91 (pc := 104) (L := [vA t, vI a1]) (S := []) rfl).trans rfl
set_option maxRecDepth 100000 in
theorem R_TM_load_130 (t : Nat) (a1 : Int) (g : PG) (u : PM) : run M_TM_load 130 [vA t, vI a1] [] g u =
  if a1 < 2 then
    bif pW t && pO (pK g t) 11 then (
    if (u t 22) = 0 then
      bif pW t && pO (pK g t) 11 then (
      cV (call M_TM_playerTold [vA t, vI a1] g u) (fun (g1 : PG) (u2 : PM) =>
        run M_TM_load 130 [vA t, vI (w (a1 + 1))] [] g1 u2) noX) else none
    else
      run M_TM_load 153 [vA t, vI a1] [] g u) else none
  else
    run M_TM_load 153 [vA t, vI a1] [] g u := (run_bl (m := M_TM_load) (T := T_TM_load) (hh := []) (stop := [(6, [true, true]), (42, [true, true]), (80, [true, true]), (104, [true, true]), (130, [true, true]), (153, [true, true])]) rfl rfl rfl 91 (pc := 130) (L := [vA t, vI a1]) (S := []) rfl).trans rfl
set_option maxRecDepth 100000 in
theorem R_TM_load_153 (t : Nat) (a1 : Int) (g : PG) (u : PM) : run M_TM_load 153 [vA t, vI a1] [] g u =
  bif pW t && pO (pK g t) 11 then (
  cI (call M_TM_commands [vA t] g u) (fun (x3 : Int) (g1 : PG) (u2 : PM) =>
    if x3 = (-1) then
      some (0, vI (-1), g1, u2)
    else
      bif pW t && pO (pK g1 t) 11 then (
      cI (call M_TM_allEmpty [vA t] g1 u2) (fun (x6 : Int) (g4 : PG) (u5 : PM) =>
        some (0, vI x6, g4, u5)) noX) else none) noX) else none := (run_bl (m := M_TM_load) (T := T_TM_load) (hh := []) (stop := [(6, [true, true]), (42, [true, true]), (80, [true, true]), (104, [true, true]), (130, [true, true]), (153, [true, true])]) rfl rfl rfl 91 (pc := 153) (L := [vA t, vI a1]) (S := []) rfl).trans rfl
set_option maxRecDepth 100000 in
theorem C_TM_play (t : Nat) (g : PG) (u : PM) : call M_TM_play [vA t] g u =
  bif pW t && pO (pK g t) 11 then (
  cV (call M_TM_starts [vA t] g u) (fun (g1 : PG) (u2 : PM) =>
    bif pW t && pO (pK g1 t) 11 then (
    cI (call M_TM_commands [vA t] g1 u2) (fun (x5 : Int) (g3 : PG) (u4 : PM) =>
      some (0, vI x5, g3, u4)) noX) else none) noX) else none := (run_bl (m := M_TM_play) (T := T_TM_play) (hh := []) (stop := []) rfl rfl rfl 10 (pc := 0) (L := [vA t]) (S := []) rfl).trans rfl
set_option maxRecDepth 100000 in
theorem C_TM_errorCode (t : Nat) (g : PG) (u : PM) : call M_TM_errorCode [vA t] g u =
  bif pW t && pO (pK g t) 11 then (
  bif pW t && pO (pK g t) 11 then (
  cI (call M_TM_told [vA t, vI (u t 15)] g u) (fun (x3 : Int) (g1 : PG) (u2 : PM) =>
    some (0, vI x3, g1, u2)) noX) else none) else none := (run_bl (m := M_TM_errorCode) (T := T_TM_errorCode) (hh := []) (stop := []) rfl rfl rfl 10 (pc := 0) (L := [vA t]) (S := []) rfl).trans rfl
set_option maxRecDepth 100000 in
theorem C_TM_errorOffset (t : Nat) (g : PG) (u : PM) : call M_TM_errorOffset [vA t] g u =
  bif pW t && pO (pK g t) 11 then (
  bif pW t && pO (pK g t) 11 then (
  cI (call M_TM_told [vA t, vI (u t 16)] g u) (fun (x3 : Int) (g1 : PG) (u2 : PM) =>
    some (0, vI x3, g1, u2)) noX) else none) else none := (run_bl (m := M_TM_errorOffset) (T := T_TM_errorOffset) (hh := []) (stop := []) rfl rfl rfl 10 (pc := 0) (L := [vA t]) (S := []) rfl).trans rfl
set_option maxRecDepth 100000 in
theorem C_TM_noShape (a0 : Int) (g : PG) (u : PM) : call M_TM_noShape [vI a0] g u =
  cI (call M_TM_isIn [vI a0, vI 0, vI 4] g u) (fun (x3 : Int) (g1 : PG) (u2 : PM) =>
    if x3 = 0 then
      some (0, vI 1, g1, u2)
    else
      some (0, vI 0, g1, u2)) noX := (run_bl (m := M_TM_noShape) (T := T_TM_noShape) (hh := []) (stop := []) rfl rfl rfl 14 (pc := 0) (L := [vI a0]) (S := []) rfl).trans rfl
set_option maxRecDepth 100000 in
theorem C_TM_noTurn (a0 : Int) (g : PG) (u : PM) : call M_TM_noTurn [vI a0] g u =
  cI (call M_TM_isIn [vI a0, vI 0, vI 3] g u) (fun (x3 : Int) (g1 : PG) (u2 : PM) =>
    if x3 = 0 then
      some (0, vI 1, g1, u2)
    else
      some (0, vI 0, g1, u2)) noX := (run_bl (m := M_TM_noTurn) (T := T_TM_noTurn) (hh := []) (stop := []) rfl rfl rfl 14 (pc := 0) (L := [vI a0]) (S := []) rfl).trans rfl
set_option maxRecDepth 100000 in
theorem C_TM_noSide (a0 : Int) (g : PG) (u : PM) : call M_TM_noSide [vI a0] g u =
  cI (call M_TM_isIn [vI a0, vI 0, vI 1] g u) (fun (x3 : Int) (g1 : PG) (u2 : PM) =>
    if x3 = 0 then
      some (0, vI 1, g1, u2)
    else
      some (0, vI 0, g1, u2)) noX := (run_bl (m := M_TM_noSide) (T := T_TM_noSide) (hh := []) (stop := []) rfl rfl rfl 14 (pc := 0) (L := [vI a0]) (S := []) rfl).trans rfl
set_option maxRecDepth 100000 in
theorem C_TM_noPlayer (a0 : Int) (g : PG) (u : PM) : call M_TM_noPlayer [vI a0] g u =
  cI (call M_TM_isIn [vI a0, vI 0, vI 1] g u) (fun (x3 : Int) (g1 : PG) (u2 : PM) =>
    if x3 = 0 then
      some (0, vI 1, g1, u2)
    else
      some (0, vI 0, g1, u2)) noX := (run_bl (m := M_TM_noPlayer) (T := T_TM_noPlayer) (hh := []) (stop := []) rfl rfl rfl 14 (pc := 0) (L := [vI a0]) (S := []) rfl).trans rfl
set_option maxRecDepth 100000 in
theorem C_TM_place (t : Nat) (a1 : Int) (a2 : Int) (a3 : Int) (a4 : Int) (g : PG) (u : PM) : call M_TM_place [vA t, vI a1, vI a2, vI a3, vI a4] g u =
  cI (call M_TM_noShape [vI a1] g u) (fun (x3 : Int) (g1 : PG) (u2 : PM) =>
    if x3 = 0 then
      cI (call M_TM_noTurn [vI a2] g1 u2) (fun (x6 : Int) (g4 : PG) (u5 : PM) =>
        if x6 = 0 then
          run M_TM_place 19 [vA t, vI a1, vI a2, vI a3, vI a4, vN, vN] [vI 0] g4 u5
        else
          run M_TM_place 19 [vA t, vI a1, vI a2, vI a3, vI a4, vN, vN] [vI 1] g4 u5) noX
    else
      run M_TM_place 19 [vA t, vI a1, vI a2, vI a3, vI a4, vN, vN] [vI 1] g1 u2) noX := (run_bl (m := M_TM_place) (T := T_TM_place) (hh := []) (stop := [(19, [true, true, true, true, true, false, false]), (36, [true, true, true, true, true, true, false]), (70, [true, true, true, true, true, true, true])]) rfl rfl rfl 56 (pc := 0) (L := [vA t, vI a1, vI a2, vI a3, vI a4, vN, vN]) (S := []) rfl).trans rfl
set_option maxRecDepth 100000 in
theorem R_TM_place_19 (t : Nat) (a1 : Int) (a2 : Int) (a3 : Int) (a4 : Int) (s0 : Int) (g : PG) (u : PM) : run M_TM_place 19 [vA t, vI a1, vI a2, vI a3, vI a4, vN, vN] [vI s0] g u =
  bif pW t && pO (pK g t) 11 then (
  cI (call M_TM_isInside [vA t, vI a3, vI a4] g u) (fun (x3 : Int) (g1 : PG) (u2 : PM) =>
    if x3 = 0 then
      run M_TM_place 36 [vA t, vI a1, vI a2, vI a3, vI a4, vI s0, vN] [vI 1] g1 u2
    else
      run M_TM_place 36 [vA t, vI a1, vI a2, vI a3, vI a4, vI s0, vN] [vI 0] g1 u2) noX) else none := (run_bl (m := M_TM_place) (T := T_TM_place) (hh := []) (stop := [(19, [true, true, true, true, true, false, false]), (36, [true, true, true, true, true, true, false]), (70, [true, true, true, true, true, true, true])]) rfl rfl rfl 56 (pc := 19) (L := [vA t, vI a1, vI a2, vI a3, vI a4, vN, vN]) (S := [vI s0]) rfl).trans rfl
set_option maxRecDepth 100000 in
theorem R_TM_place_36 (t : Nat) (a1 : Int) (a2 : Int) (a3 : Int) (a4 : Int) (a5 : Int) (s0 : Int) (g : PG) (u : PM) : run M_TM_place 36 [vA t, vI a1, vI a2, vI a3, vI a4, vI a5, vN] [vI s0] g u =
  if a5 = 0 then
    if s0 = 0 then
      bif pW t && pO (pK g t) 11 then (
      cI (call M_TM_mayPlace [vA t, vI a1, vI a2, vI a3, vI a4] g u) (fun (x3 : Int) (g1 : PG) (u2 : PM) =>
        if x3 = 0 then
          run M_TM_place 70 [vA t, vI a1, vI a2, vI a3, vI a4, vI a5, vI s0] [vI 1, vI s0, vI a5, vA t] g1 u2
        else
          run M_TM_place 70 [vA t, vI a1, vI a2, vI a3, vI a4, vI a5, vI s0] [vI 0, vI s0, vI a5, vA t] g1 u2) noX) else none
    else
      run M_TM_place 70 [vA t, vI a1, vI a2, vI a3, vI a4, vI a5, vI s0] [vI 0, vI s0, vI a5, vA t] g u
  else
    run M_TM_place 70 [vA t, vI a1, vI a2, vI a3, vI a4, vI a5, vI s0] [vI 0, vI s0, vI a5, vA t] g u := (run_bl (m := M_TM_place) (T := T_TM_place) (hh := []) (stop := [(19, [true, true, true, true, true, false, false]), (36, [true, true, true, true, true, true, false]), (70, [true, true, true, true, true, true, true])]) rfl rfl rfl 56 (pc := 36) (L := [vA t, vI a1, vI a2, vI a3, vI a4, vI a5, vN]) (S := [vI s0]) rfl).trans rfl
set_option maxRecDepth 100000 in
theorem R_TM_place_70 (t : Nat) (a1 : Int) (a2 : Int) (a3 : Int) (a4 : Int) (a5 : Int) (a6 : Int) (s0 : Int) (s1 : Int) (s2 : Int) (s3 : Nat) (g : PG) (u : PM) : run M_TM_place 70 [vA t, vI a1, vI a2, vI a3, vI a4, vI a5, vI a6] [vI s0, vI s1, vI s2, vA s3] g u =
  bif pW s3 && pO (pK g s3) 11 then (
  cI (call M_TM_fails [vA s3, vI s2, vI s1, vI s0] g u) (fun (x3 : Int) (g1 : PG) (u2 : PM) =>
    if x3 = 0 then
      bif pW t && pO (pK g1 t) 11 then (
      bif pW t && pO (pK g1 t) 11 then (
      cV (call M_TM_remember [vA t, vA (t + 1)] g1 u2) (fun (g4 : PG) (u5 : PM) =>
        bif pW t && pO (pK g4 t) 11 then (
        cI (call M_TM_places [vA t, vI a1, vI a2, vI a3, vI a4] g4 u5) (fun (x8 : Int) (g6 : PG) (u7 : PM) =>
          some (0, vI x8, g6, u7)) noX) else none) noX) else none) else none
    else
      some (0, vI 0, g1, u2)) noX) else none := (run_bl (m := M_TM_place) (T := T_TM_place) (hh := []) (stop := [(19, [true, true, true, true, true, false, false]), (36, [true, true, true, true, true, true, false]), (70, [true, true, true, true, true, true, true])]) rfl rfl rfl 56 (pc := 70) (L := [vA t, vI a1, vI a2, vI a3, vI a4, vI a5, vI a6]) (S := [vI s0, vI s1, vI s2, vA s3]) rfl).trans rfl
set_option maxRecDepth 100000 in
theorem C_TM_fastenStrap (t : Nat) (a1 : Int) (a2 : Int) (a3 : Int) (g : PG) (u : PM) : call M_TM_fastenStrap [vA t, vI a1, vI a2, vI a3] g u =
  cI (call M_TM_noSide [vI a3] g u) (fun (x3 : Int) (g1 : PG) (u2 : PM) =>
    bif pW t && pO (pK g1 t) 11 then (
    cI (call M_TM_isEdge [vA t, vI a1, vI a2, vI a3] g1 u2) (fun (x6 : Int) (g4 : PG) (u5 : PM) =>
      if x6 = 0 then
        run M_TM_fastenStrap 21 [vA t, vI a1, vI a2, vI a3, vI x3, vN] [vI 1] g4 u5
      else
        run M_TM_fastenStrap 21 [vA t, vI a1, vI a2, vI a3, vI x3, vN] [vI 0] g4 u5) noX) else none) noX := (run_bl (m := M_TM_fastenStrap) (T := T_TM_fastenStrap) (hh := []) (stop := [(21, [true, true, true, true, true, false]), (53, [true, true, true, true, true, true])]) rfl rfl rfl 48 (pc := 0) (L := [vA t, vI a1, vI a2, vI a3, vN, vN]) (S := []) rfl).trans rfl
set_option maxRecDepth 100000 in
theorem R_TM_fastenStrap_21 (t : Nat) (a1 : Int) (a2 : Int) (a3 : Int) (a4 : Int) (s0 : Int) (g : PG) (u : PM) : run M_TM_fastenStrap 21 [vA t, vI a1, vI a2, vI a3, vI a4, vN] [vI s0] g u =
  if a4 = 0 then
    if s0 = 0 then
      bif pW t && pO (pK g t) 11 then (
      cI (call M_TM_mayFasten [vA t, vI a1, vI a2, vI a3] g u) (fun (x3 : Int) (g1 : PG) (u2 : PM) =>
        if x3 = 0 then
          run M_TM_fastenStrap 53 [vA t, vI a1, vI a2, vI a3, vI a4, vI s0] [vI 1, vI s0, vI a4, vA t] g1 u2
        else
          run M_TM_fastenStrap 53 [vA t, vI a1, vI a2, vI a3, vI a4, vI s0] [vI 0, vI s0, vI a4, vA t] g1 u2) noX) else none
    else
      run M_TM_fastenStrap 53 [vA t, vI a1, vI a2, vI a3, vI a4, vI s0] [vI 0, vI s0, vI a4, vA t] g u
  else
    run M_TM_fastenStrap 53 [vA t, vI a1, vI a2, vI a3, vI a4, vI s0] [vI 0, vI s0, vI a4, vA t] g u := (run_bl (m := M_TM_fastenStrap) (T := T_TM_fastenStrap) (hh := []) (stop := [(21, [true, true, true, true, true, false]), (53, [true, true, true, true, true, true])]) rfl rfl rfl 48 (pc := 21) (L := [vA t, vI a1, vI a2, vI a3, vI a4, vN]) (S := [vI s0]) rfl).trans rfl
set_option maxRecDepth 100000 in
theorem R_TM_fastenStrap_53 (t : Nat) (a1 : Int) (a2 : Int) (a3 : Int) (a4 : Int) (a5 : Int) (s0 : Int) (s1 : Int) (s2 : Int) (s3 : Nat) (g : PG) (u : PM) : run M_TM_fastenStrap 53 [vA t, vI a1, vI a2, vI a3, vI a4, vI a5] [vI s0, vI s1, vI s2, vA s3] g u =
  bif pW s3 && pO (pK g s3) 11 then (
  cI (call M_TM_fails [vA s3, vI s2, vI s1, vI s0] g u) (fun (x3 : Int) (g1 : PG) (u2 : PM) =>
    if x3 = 0 then
      bif pW t && pO (pK g1 t) 11 then (
      bif pW t && pO (pK g1 t) 11 then (
      cV (call M_TM_remember [vA t, vA (t + 1)] g1 u2) (fun (g4 : PG) (u5 : PM) =>
        bif pW t && pO (pK g4 t) 11 then (
        cI (call M_TM_fastens [vA t, vI a1, vI a2, vI a3] g4 u5) (fun (x8 : Int) (g6 : PG) (u7 : PM) =>
          some (0, vI x8, g6, u7)) noX) else none) noX) else none) else none
    else
      some (0, vI 0, g1, u2)) noX) else none := (run_bl (m := M_TM_fastenStrap) (T := T_TM_fastenStrap) (hh := []) (stop := [(21, [true, true, true, true, true, false]), (53, [true, true, true, true, true, true])]) rfl rfl rfl 48 (pc := 53) (L := [vA t, vI a1, vI a2, vI a3, vI a4, vI a5]) (S := [vI s0, vI s1, vI s2, vA s3]) rfl).trans rfl
set_option maxRecDepth 100000 in
theorem C_TM_pass (t : Nat) (g : PG) (u : PM) : call M_TM_pass [vA t] g u =
  bif pW t && pO (pK g t) 11 then (
  cI (call M_TM_mayPass [vA t] g u) (fun (x3 : Int) (g1 : PG) (u2 : PM) =>
    if x3 = 0 then
      run M_TM_pass 13 [vA t] [vI 1, vA t] g1 u2
    else
      run M_TM_pass 13 [vA t] [vI 0, vA t] g1 u2) noX) else none := (run_bl (m := M_TM_pass) (T := T_TM_pass) (hh := []) (stop := [(13, [true])]) rfl rfl rfl 25 (pc := 0) (L := [vA t]) (S := []) rfl).trans rfl
set_option maxRecDepth 100000 in
theorem R_TM_pass_13 (t : Nat) (s0 : Int) (s1 : Nat) (g : PG) (u : PM) : run M_TM_pass 13 [vA t] [vI s0, vA s1] g u =
  bif pW s1 && pO (pK g s1) 11 then (
  cI (call M_TM_fails [vA s1, vI s0, vI 0, vI 0] g u) (fun (x3 : Int) (g1 : PG) (u2 : PM) =>
    if x3 = 0 then
      bif pW t && pO (pK g1 t) 11 then (
      bif pW t && pO (pK g1 t) 11 then (
      cV (call M_TM_remember [vA t, vA (t + 1)] g1 u2) (fun (g4 : PG) (u5 : PM) =>
        bif pW t && pO (pK g4 t) 11 then (
        cI (call M_TM_passes [vA t] g4 u5) (fun (x8 : Int) (g6 : PG) (u7 : PM) =>
          some (0, vI x8, g6, u7)) noX) else none) noX) else none) else none
    else
      some (0, vI 0, g1, u2)) noX) else none := (run_bl (m := M_TM_pass) (T := T_TM_pass) (hh := []) (stop := [(13, [true])]) rfl rfl rfl 25 (pc := 13) (L := [vA t]) (S := [vI s0, vA s1]) rfl).trans rfl
set_option maxRecDepth 100000 in
theorem C_TM_undo (t : Nat) (g : PG) (u : PM) : call M_TM_undo [vA t] g u =
  bif pW t && pO (pK g t) 11 then (
  if (u t 6) = 0 then
    run M_TM_undo 13 [vA t] [vI 1, vA t] g u
  else
    run M_TM_undo 13 [vA t] [vI 0, vA t] g u) else none := (run_bl (m := M_TM_undo) (T := T_TM_undo) (hh := []) (stop := [(13, [true])]) rfl rfl rfl 37 (pc := 0) (L := [vA t]) (S := []) rfl).trans rfl
set_option maxRecDepth 100000 in
theorem R_TM_undo_13 (t : Nat) (s0 : Int) (s1 : Nat) (g : PG) (u : PM) : run M_TM_undo 13 [vA t] [vI s0, vA s1] g u =
  bif pW s1 && pO (pK g s1) 11 then (
  cI (call M_TM_fails [vA s1, vI s0, vI 0, vI 0] g u) (fun (x3 : Int) (g1 : PG) (u2 : PM) =>
    if x3 = 0 then
      bif pW t && pO (pK g1 t) 11 then (
      bif pW t && pO (pK g1 t) 11 then (
      bif pW t && pO (pK g1 t) 11 then (
      bif pW t && pO (pK g1 t) 11 then (
      bif pW t && pO (pK g1 t) 11 then (
      cV (call M_TM_copy [vA (t + 3), vI (w (((up u2 t 6 (w ((u2 t 6) - 1))) t 6) * 417)), vA (t + 1), vI 0] g1 (up u2 t 6 (w ((u2 t 6) - 1)))) (fun (g4 : PG) (u5 : PM) =>
        bif pW t && pO (pK g4 t) 11 then (
        some (0, vI (u5 t 6), g4, u5)) else none) noX) else none) else none) else none) else none) else none
    else
      some (0, vI 0, g1, u2)) noX) else none := (run_bl (m := M_TM_undo) (T := T_TM_undo) (hh := []) (stop := [(13, [true])]) rfl rfl rfl 37 (pc := 13) (L := [vA t]) (S := [vI s0, vA s1]) rfl).trans rfl
set_option maxRecDepth 100000 in
theorem C_TM_save (t : Nat) (a1 : Int) (g : PG) (u : PM) : call M_TM_save [vA t, vI a1] g u =
  cI (call M_TM_isIn [vI a1, vI 0, vI 1] g u) (fun (x3 : Int) (g1 : PG) (u2 : PM) =>
    if x3 = 0 then
      run M_TM_save 15 [vA t, vI a1] [vI 1, vA t] g1 u2
    else
      run M_TM_save 15 [vA t, vI a1] [vI 0, vA t] g1 u2) noX := (run_bl (m := M_TM_save) (T := T_TM_save) (hh := []) (stop := [(15, [true, true])]) rfl rfl rfl 39 (pc := 0) (L := [vA t, vI a1]) (S := []) rfl).trans rfl
set_option maxRecDepth 100000 in
theorem R_TM_save_15 (t : Nat) (a1 : Int) (s0 : Int) (s1 : Nat) (g : PG) (u : PM) : run M_TM_save 15 [vA t, vI a1] [vI s0, vA s1] g u =
  bif pW s1 && pO (pK g s1) 11 then (
  cI (call M_TM_fails [vA s1, vI s0, vI 0, vI 0] g u) (fun (x3 : Int) (g1 : PG) (u2 : PM) =>
    if x3 = 0 then
      bif pW t && pO (pK g1 t) 11 then (
      bif pW t && pO (pK g1 t) 11 then (
      cV (call M_TM_copy [vA (t + 1), vI 0, vA (t + 4), vI (w (a1 * 417))] g1 u2) (fun (g4 : PG) (u5 : PM) =>
        bif pW t && pO (pK g4 t) 11 then (
        bif pW (t + 6) && pR (pK g4 (t + 6)) 1 a1 then (
        bif b01 1 then (
        bif pW t && pO (pK g4 t) 11 then (
        bif pR (pK g4 (t + 1)) 0 4 then (
        some (0, vI ((up u5 (t + 6) a1 1) (t + 1) 4), g4, up u5 (t + 6) a1 1)) else none) else none) else none) else none) else none) noX) else none) else none
    else
      some (0, vI 0, g1, u2)) noX) else none := (run_bl (m := M_TM_save) (T := T_TM_save) (hh := []) (stop := [(15, [true, true])]) rfl rfl rfl 39 (pc := 15) (L := [vA t, vI a1]) (S := [vI s0, vA s1]) rfl).trans rfl
set_option maxRecDepth 100000 in
theorem C_TM_restore (t : Nat) (a1 : Int) (g : PG) (u : PM) : call M_TM_restore [vA t, vI a1] g u =
  cI (call M_TM_isIn [vI a1, vI 0, vI 1] g u) (fun (x3 : Int) (g1 : PG) (u2 : PM) =>
    if x3 = 0 then
      run M_TM_restore 14 [vA t, vI a1, vN] [vI 1] g1 u2
    else
      run M_TM_restore 14 [vA t, vI a1, vN] [vI 0] g1 u2) noX := (run_bl (m := M_TM_restore) (T := T_TM_restore) (hh := []) (stop := [(14, [true, true, false]), (35, [true, true, true])]) rfl rfl rfl 49 (pc := 0) (L := [vA t, vI a1, vN]) (S := []) rfl).trans rfl
set_option maxRecDepth 100000 in
theorem R_TM_restore_14 (t : Nat) (a1 : Int) (s0 : Int) (g : PG) (u : PM) : run M_TM_restore 14 [vA t, vI a1, vN] [vI s0] g u =
  if s0 = 0 then
    bif pW t && pO (pK g t) 11 then (
    bif pW (t + 6) && pR (pK g (t + 6)) 1 a1 then (
    if (u (t + 6) a1) = 0 then
      run M_TM_restore 35 [vA t, vI a1, vI s0] [vI 1, vI s0, vA t] g u
    else
      run M_TM_restore 35 [vA t, vI a1, vI s0] [vI 0, vI s0, vA t] g u) else none) else none
  else
    run M_TM_restore 35 [vA t, vI a1, vI s0] [vI 0, vI s0, vA t] g u := (run_bl (m := M_TM_restore) (T := T_TM_restore) (hh := []) (stop := [(14, [true, true, false]), (35, [true, true, true])]) rfl rfl rfl 49 (pc := 14) (L := [vA t, vI a1, vN]) (S := [vI s0]) rfl).trans rfl
set_option maxRecDepth 100000 in
theorem R_TM_restore_35 (t : Nat) (a1 : Int) (a2 : Int) (s0 : Int) (s1 : Int) (s2 : Nat) (g : PG) (u : PM) : run M_TM_restore 35 [vA t, vI a1, vI a2] [vI s0, vI s1, vA s2] g u =
  bif pW s2 && pO (pK g s2) 11 then (
  cI (call M_TM_fails [vA s2, vI s1, vI s0, vI 0] g u) (fun (x3 : Int) (g1 : PG) (u2 : PM) =>
    if x3 = 0 then
      bif pW t && pO (pK g1 t) 11 then (
      bif pW t && pO (pK g1 t) 11 then (
      cV (call M_TM_remember [vA t, vA (t + 1)] g1 u2) (fun (g4 : PG) (u5 : PM) =>
        bif pW t && pO (pK g4 t) 11 then (
        bif pW t && pO (pK g4 t) 11 then (
        cV (call M_TM_copy [vA (t + 4), vI (w (a1 * 417)), vA (t + 1), vI 0] g4 u5) (fun (g6 : PG) (u7 : PM) =>
          bif pW t && pO (pK g6 t) 11 then (
          bif pR (pK g6 (t + 1)) 0 4 then (
          some (0, vI (u7 (t + 1) 4), g6, u7)) else none) else none) noX) else none) else none) noX) else none) else none
    else
      some (0, vI 0, g1, u2)) noX) else none := (run_bl (m := M_TM_restore) (T := T_TM_restore) (hh := []) (stop := [(14, [true, true, false]), (35, [true, true, true])]) rfl rfl rfl 49 (pc := 35) (L := [vA t, vI a1, vI a2]) (S := [vI s0, vI s1, vA s2]) rfl).trans rfl
set_option maxRecDepth 100000 in
theorem C_TM_allEmpty (t : Nat) (g : PG) (u : PM) : call M_TM_allEmpty [vA t] g u =
  run M_TM_allEmpty 4 [vA t, vI 0, vI 0] [] g u := (run_bl (m := M_TM_allEmpty) (T := T_TM_allEmpty) (hh := []) (stop := [(4, [true, true, true])]) rfl rfl rfl 25 (pc := 0) (L := [vA t, vN, vN]) (S := []) rfl).trans rfl
set_option maxRecDepth 100000 in
theorem R_TM_allEmpty_4 (t : Nat) (a1 : Int) (a2 : Int) (g : PG) (u : PM) : run M_TM_allEmpty 4 [vA t, vI a1, vI a2] [] g u =
  bif pW t && pO (pK g t) 11 then (
  bif pR (pK g (t + 1)) 0 1 then (
  if a2 < (u (t + 1) 1) then
    bif pW t && pO (pK g t) 11 then (
    cI (call M_TM_emptyIn [vA t, vI a2] g u) (fun (x3 : Int) (g1 : PG) (u2 : PM) =>
      run M_TM_allEmpty 4 [vA t, vI (w (a1 + x3)), vI (w (a2 + 1))] [] g1 u2) noX) else none
  else
    some (0, vI a1, g, u)) else none) else none := (run_bl (m := M_TM_allEmpty) (T := T_TM_allEmpty) (hh := []) (stop := [(4, [true, true, true])]) rfl rfl rfl 25 (pc := 4) (L := [vA t, vI a1, vI a2]) (S := []) rfl).trans rfl
set_option maxRecDepth 100000 in
theorem C_TM_counted (t : Nat) (a1 : Int) (g : PG) (u : PM) : call M_TM_counted [vA t, vI a1] g u =
  run M_TM_counted 4 [vA t, vI a1, vI 0, vI 0, vN] [] g u := (run_bl (m := M_TM_counted) (T := T_TM_counted) (hh := []) (stop := [(4, [true, true, true, true, false]), (17, [true, true, true, true, true])]) rfl rfl rfl 46 (pc := 0) (L := [vA t, vI a1, vN, vN, vN]) (S := []) rfl).trans rfl
set_option maxRecDepth 100000 in
theorem R_TM_counted_4 (t : Nat) (a1 : Int) (a2 : Int) (a3 : Int) (g : PG) (u : PM) : run M_TM_counted 4 [vA t, vI a1, vI a2, vI a3, vN] [] g u =
  bif pW t && pO (pK g t) 11 then (
  bif pR (pK g (t + 1)) 0 1 then (
  if a3 < (u (t + 1) 1) then
    run M_TM_counted 17 [vA t, vI a1, vI a2, vI a3, vI 0] [] g u
  else
    some (0, vI a2, g, u)) else none) else none := (run_bl (m := M_TM_counted) (T := T_TM_counted) (hh := []) (stop := [(4, [true, true, true, true, false]), (17, [true, true, true, true, true])]) rfl rfl rfl 46 (pc := 4) (L := [vA t, vI a1, vI a2, vI a3, vN]) (S := []) rfl).trans rfl
set_option maxRecDepth 100000 in
theorem R_TM_counted_17 (t : Nat) (a1 : Int) (a2 : Int) (a3 : Int) (a4 : Int) (g : PG) (u : PM) : run M_TM_counted 17 [vA t, vI a1, vI a2, vI a3, vI a4] [] g u =
  bif pW t && pO (pK g t) 11 then (
  bif pR (pK g (t + 1)) 0 0 then (
  if a4 < (u (t + 1) 0) then
    if a1 = 2 then
      bif pW t && pO (pK g t) 11 then (
      cI (call M_TM_cell [vA t, vI a4, vI a3] g u) (fun (x3 : Int) (g1 : PG) (u2 : PM) =>
        if x3 < 2 then
          run M_TM_counted 17 [vA t, vI a1, vI a2, vI a3, vI (w (a4 + 1))] [] g1 u2
        else
          run M_TM_counted 17 [vA t, vI a1, vI (w (a2 + 1)), vI a3, vI (w (a4 + 1))] [] g1 u2) noX) else none
    else
      bif pW t && pO (pK g t) 11 then (
      cI (call M_TM_cell [vA t, vI a4, vI a3] g u) (fun (x6 : Int) (g4 : PG) (u5 : PM) =>
        if x6 = a1 then
          run M_TM_counted 17 [vA t, vI a1, vI (w (a2 + 1)), vI a3, vI (w (a4 + 1))] [] g4 u5
        else
          run M_TM_counted 17 [vA t, vI a1, vI a2, vI a3, vI (w (a4 + 1))] [] g4 u5) noX) else none
  else
    run M_TM_counted 4 [vA t, vI a1, vI a2, vI (w (a3 + 1)), vN] [] g u) else none) else none := (run_bl (m := M_TM_counted) (T := T_TM_counted) (hh := []) (stop := [(4, [true, true, true, true, false]), (17, [true, true, true, true, true])]) rfl rfl rfl 46 (pc := 17) (L := [vA t, vI a1, vI a2, vI a3, vI a4]) (S := []) rfl).trans rfl
set_option maxRecDepth 100000 in
theorem C_TM_columns (t : Nat) (g : PG) (u : PM) : call M_TM_columns [vA t] g u =
  bif pW t && pO (pK g t) 11 then (
  bif pR (pK g (t + 1)) 0 0 then (
  bif pW t && pO (pK g t) 11 then (
  cI (call M_TM_told [vA t, vI (u (t + 1) 0)] g u) (fun (x3 : Int) (g1 : PG) (u2 : PM) =>
    some (0, vI x3, g1, u2)) noX) else none) else none) else none := (run_bl (m := M_TM_columns) (T := T_TM_columns) (hh := []) (stop := []) rfl rfl rfl 12 (pc := 0) (L := [vA t]) (S := []) rfl).trans rfl
set_option maxRecDepth 100000 in
theorem C_TM_rows (t : Nat) (g : PG) (u : PM) : call M_TM_rows [vA t] g u =
  bif pW t && pO (pK g t) 11 then (
  bif pR (pK g (t + 1)) 0 1 then (
  bif pW t && pO (pK g t) 11 then (
  cI (call M_TM_told [vA t, vI (u (t + 1) 1)] g u) (fun (x3 : Int) (g1 : PG) (u2 : PM) =>
    some (0, vI x3, g1, u2)) noX) else none) else none) else none := (run_bl (m := M_TM_rows) (T := T_TM_rows) (hh := []) (stop := []) rfl rfl rfl 12 (pc := 0) (L := [vA t]) (S := []) rfl).trans rfl
set_option maxRecDepth 100000 in
theorem C_TM_emptyCells (t : Nat) (g : PG) (u : PM) : call M_TM_emptyCells [vA t] g u =
  bif pW t && pO (pK g t) 11 then (
  cI (call M_TM_allEmpty [vA t] g u) (fun (x3 : Int) (g1 : PG) (u2 : PM) =>
    bif pW t && pO (pK g1 t) 11 then (
    cI (call M_TM_told [vA t, vI x3] g1 u2) (fun (x6 : Int) (g4 : PG) (u5 : PM) =>
      some (0, vI x6, g4, u5)) noX) else none) noX) else none := (run_bl (m := M_TM_emptyCells) (T := T_TM_emptyCells) (hh := []) (stop := []) rfl rfl rfl 10 (pc := 0) (L := [vA t]) (S := []) rfl).trans rfl
set_option maxRecDepth 100000 in
theorem C_TM_pieceCount (t : Nat) (g : PG) (u : PM) : call M_TM_pieceCount [vA t] g u =
  bif pW t && pO (pK g t) 11 then (
  bif pR (pK g (t + 1)) 0 4 then (
  bif pW t && pO (pK g t) 11 then (
  cI (call M_TM_told [vA t, vI (u (t + 1) 4)] g u) (fun (x3 : Int) (g1 : PG) (u2 : PM) =>
    some (0, vI x3, g1, u2)) noX) else none) else none) else none := (run_bl (m := M_TM_pieceCount) (T := T_TM_pieceCount) (hh := []) (stop := []) rfl rfl rfl 12 (pc := 0) (L := [vA t]) (S := []) rfl).trans rfl
set_option maxRecDepth 100000 in
theorem C_TM_strapCount (t : Nat) (g : PG) (u : PM) : call M_TM_strapCount [vA t] g u =
  bif pW t && pO (pK g t) 11 then (
  run M_TM_strapCount 9 [vA t, vI 0, vI 0] [] g (up u t 7 0)) else none := (run_bl (m := M_TM_strapCount) (T := T_TM_strapCount) (hh := []) (stop := [(9, [true, true, true])]) rfl rfl rfl 28 (pc := 0) (L := [vA t, vN, vN]) (S := []) rfl).trans rfl
set_option maxRecDepth 100000 in
theorem R_TM_strapCount_9 (t : Nat) (a1 : Int) (a2 : Int) (g : PG) (u : PM) : run M_TM_strapCount 9 [vA t, vI a1, vI a2] [] g u =
  if a2 < 128 then
    bif pW t && pO (pK g t) 11 then (
    bif pR (pK g (t + 1)) 0 (w (97 + a2)) then (
    run M_TM_strapCount 9 [vA t, vI (w (a1 + (u (t + 1) (w (97 + a2))))), vI (w (a2 + 1))] [] g u) else none) else none
  else
    some (0, vI a1, g, u) := (run_bl (m := M_TM_strapCount) (T := T_TM_strapCount) (hh := []) (stop := [(9, [true, true, true])]) rfl rfl rfl 28 (pc := 9) (L := [vA t, vI a1, vI a2]) (S := []) rfl).trans rfl
set_option maxRecDepth 100000 in
theorem C_TM_completeRows (t : Nat) (g : PG) (u : PM) : call M_TM_completeRows [vA t] g u =
  bif pW t && pO (pK g t) 11 then (
  run M_TM_completeRows 9 [vA t, vI 0, vI 0] [] g (up u t 7 0)) else none := (run_bl (m := M_TM_completeRows) (T := T_TM_completeRows) (hh := []) (stop := [(9, [true, true, true])]) rfl rfl rfl 27 (pc := 0) (L := [vA t, vN, vN]) (S := []) rfl).trans rfl
set_option maxRecDepth 100000 in
theorem R_TM_completeRows_9 (t : Nat) (a1 : Int) (a2 : Int) (g : PG) (u : PM) : run M_TM_completeRows 9 [vA t, vI a1, vI a2] [] g u =
  bif pW t && pO (pK g t) 11 then (
  bif pR (pK g (t + 1)) 0 1 then (
  if a2 < (u (t + 1) 1) then
    bif pW t && pO (pK g t) 11 then (
    cI (call M_TM_emptyIn [vA t, vI a2] g u) (fun (x3 : Int) (g1 : PG) (u2 : PM) =>
      if x3 = 0 then
        run M_TM_completeRows 9 [vA t, vI (w (a1 + 1)), vI (w (a2 + 1))] [] g1 u2
      else
        run M_TM_completeRows 9 [vA t, vI a1, vI (w (a2 + 1))] [] g1 u2) noX) else none
  else
    some (0, vI a1, g, u)) else none) else none := (run_bl (m := M_TM_completeRows) (T := T_TM_completeRows) (hh := []) (stop := [(9, [true, true, true])]) rfl rfl rfl 27 (pc := 9) (L := [vA t, vI a1, vI a2]) (S := []) rfl).trans rfl
set_option maxRecDepth 100000 in
theorem C_TM_undoableChanges (t : Nat) (g : PG) (u : PM) : call M_TM_undoableChanges [vA t] g u =
  bif pW t && pO (pK g t) 11 then (
  bif pW t && pO (pK g t) 11 then (
  cI (call M_TM_told [vA t, vI (u t 6)] g u) (fun (x3 : Int) (g1 : PG) (u2 : PM) =>
    some (0, vI x3, g1, u2)) noX) else none) else none := (run_bl (m := M_TM_undoableChanges) (T := T_TM_undoableChanges) (hh := []) (stop := []) rfl rfl rfl 10 (pc := 0) (L := [vA t]) (S := []) rfl).trans rfl
set_option maxRecDepth 100000 in
theorem C_TM_isBlocked (t : Nat) (a1 : Int) (a2 : Int) (g : PG) (u : PM) : call M_TM_isBlocked [vA t, vI a1, vI a2] g u =
  bif pW t && pO (pK g t) 11 then (
  cI (call M_TM_isInside [vA t, vI a1, vI a2] g u) (fun (x3 : Int) (g1 : PG) (u2 : PM) =>
    if x3 = 0 then
      run M_TM_isBlocked 15 [vA t, vI a1, vI a2] [vI 1, vA t] g1 u2
    else
      run M_TM_isBlocked 15 [vA t, vI a1, vI a2] [vI 0, vA t] g1 u2) noX) else none := (run_bl (m := M_TM_isBlocked) (T := T_TM_isBlocked) (hh := []) (stop := [(15, [true, true, true])]) rfl rfl rfl 28 (pc := 0) (L := [vA t, vI a1, vI a2]) (S := []) rfl).trans rfl
set_option maxRecDepth 100000 in
theorem R_TM_isBlocked_15 (t : Nat) (a1 : Int) (a2 : Int) (s0 : Int) (s1 : Nat) (g : PG) (u : PM) : run M_TM_isBlocked 15 [vA t, vI a1, vI a2] [vI s0, vA s1] g u =
  bif pW s1 && pO (pK g s1) 11 then (
  cI (call M_TM_fails [vA s1, vI s0, vI 0, vI 0] g u) (fun (x3 : Int) (g1 : PG) (u2 : PM) =>
    if x3 = 0 then
      bif pW t && pO (pK g1 t) 11 then (
      cI (call M_TM_cell [vA t, vI a1, vI a2] g1 u2) (fun (x6 : Int) (g4 : PG) (u5 : PM) =>
        if x6 = 1 then
          some (0, vI 1, g4, u5)
        else
          some (0, vI 0, g4, u5)) noX) else none
    else
      some (0, vI 0, g1, u2)) noX) else none := (run_bl (m := M_TM_isBlocked) (T := T_TM_isBlocked) (hh := []) (stop := [(15, [true, true, true])]) rfl rfl rfl 28 (pc := 15) (L := [vA t, vI a1, vI a2]) (S := [vI s0, vA s1]) rfl).trans rfl
set_option maxRecDepth 100000 in
theorem C_TM_pieceAt (t : Nat) (a1 : Int) (a2 : Int) (g : PG) (u : PM) : call M_TM_pieceAt [vA t, vI a1, vI a2] g u =
  bif pW t && pO (pK g t) 11 then (
  cI (call M_TM_isInside [vA t, vI a1, vI a2] g u) (fun (x3 : Int) (g1 : PG) (u2 : PM) =>
    if x3 = 0 then
      run M_TM_pieceAt 15 [vA t, vI a1, vI a2] [vI 1, vA t] g1 u2
    else
      run M_TM_pieceAt 15 [vA t, vI a1, vI a2] [vI 0, vA t] g1 u2) noX) else none := (run_bl (m := M_TM_pieceAt) (T := T_TM_pieceAt) (hh := []) (stop := [(15, [true, true, true])]) rfl rfl rfl 25 (pc := 0) (L := [vA t, vI a1, vI a2]) (S := []) rfl).trans rfl
set_option maxRecDepth 100000 in
theorem R_TM_pieceAt_15 (t : Nat) (a1 : Int) (a2 : Int) (s0 : Int) (s1 : Nat) (g : PG) (u : PM) : run M_TM_pieceAt 15 [vA t, vI a1, vI a2] [vI s0, vA s1] g u =
  bif pW s1 && pO (pK g s1) 11 then (
  cI (call M_TM_fails [vA s1, vI s0, vI 0, vI 0] g u) (fun (x3 : Int) (g1 : PG) (u2 : PM) =>
    if x3 = 0 then
      bif pW t && pO (pK g1 t) 11 then (
      cI (call M_TM_pieceOf [vA t, vI a1, vI a2] g1 u2) (fun (x6 : Int) (g4 : PG) (u5 : PM) =>
        some (0, vI x6, g4, u5)) noX) else none
    else
      some (0, vI 0, g1, u2)) noX) else none := (run_bl (m := M_TM_pieceAt) (T := T_TM_pieceAt) (hh := []) (stop := [(15, [true, true, true])]) rfl rfl rfl 25 (pc := 15) (L := [vA t, vI a1, vI a2]) (S := [vI s0, vA s1]) rfl).trans rfl
set_option maxRecDepth 100000 in
theorem C_TM_hasStrap (t : Nat) (a1 : Int) (a2 : Int) (a3 : Int) (g : PG) (u : PM) : call M_TM_hasStrap [vA t, vI a1, vI a2, vI a3] g u =
  cI (call M_TM_noSide [vI a3] g u) (fun (x3 : Int) (g1 : PG) (u2 : PM) =>
    bif pW t && pO (pK g1 t) 11 then (
    cI (call M_TM_isEdge [vA t, vI a1, vI a2, vI a3] g1 u2) (fun (x6 : Int) (g4 : PG) (u5 : PM) =>
      if x6 = 0 then
        run M_TM_hasStrap 20 [vA t, vI a1, vI a2, vI a3] [vI 1, vI x3, vA t] g4 u5
      else
        run M_TM_hasStrap 20 [vA t, vI a1, vI a2, vI a3] [vI 0, vI x3, vA t] g4 u5) noX) else none) noX := (run_bl (m := M_TM_hasStrap) (T := T_TM_hasStrap) (hh := []) (stop := [(20, [true, true, true, true])]) rfl rfl rfl 33 (pc := 0) (L := [vA t, vI a1, vI a2, vI a3]) (S := []) rfl).trans rfl
set_option maxRecDepth 100000 in
theorem R_TM_hasStrap_20 (t : Nat) (a1 : Int) (a2 : Int) (a3 : Int) (s0 : Int) (s1 : Int) (s2 : Nat) (g : PG) (u : PM) : run M_TM_hasStrap 20 [vA t, vI a1, vI a2, vI a3] [vI s0, vI s1, vA s2] g u =
  bif pW s2 && pO (pK g s2) 11 then (
  cI (call M_TM_fails [vA s2, vI s1, vI s0, vI 0] g u) (fun (x3 : Int) (g1 : PG) (u2 : PM) =>
    if x3 = 0 then
      bif pW t && pO (pK g1 t) 11 then (
      cI (call M_TM_edge [vI a1, vI a2, vI a3] g1 u2) (fun (x6 : Int) (g4 : PG) (u5 : PM) =>
        bif pR (pK g4 (t + 1)) 0 x6 then (
        if (u5 (t + 1) x6) = 1 then
          some (0, vI 1, g4, u5)
        else
          some (0, vI 0, g4, u5)) else none) noX) else none
    else
      some (0, vI 0, g1, u2)) noX) else none := (run_bl (m := M_TM_hasStrap) (T := T_TM_hasStrap) (hh := []) (stop := [(20, [true, true, true, true])]) rfl rfl rfl 33 (pc := 20) (L := [vA t, vI a1, vI a2, vI a3]) (S := [vI s0, vI s1, vA s2]) rfl).trans rfl
set_option maxRecDepth 100000 in
theorem C_TM_emptyInRow (t : Nat) (a1 : Int) (g : PG) (u : PM) : call M_TM_emptyInRow [vA t, vI a1] g u =
  bif pW t && pO (pK g t) 11 then (
  bif pR (pK g (t + 1)) 0 1 then (
  cI (call M_TM_isIn [vI a1, vI 0, vI (w ((u (t + 1) 1) - 1))] g u) (fun (x3 : Int) (g1 : PG) (u2 : PM) =>
    if x3 = 0 then
      run M_TM_emptyInRow 22 [vA t, vI a1] [vI 1, vA t] g1 u2
    else
      run M_TM_emptyInRow 22 [vA t, vI a1] [vI 0, vA t] g1 u2) noX) else none) else none := (run_bl (m := M_TM_emptyInRow) (T := T_TM_emptyInRow) (hh := []) (stop := [(22, [true, true])]) rfl rfl rfl 29 (pc := 0) (L := [vA t, vI a1]) (S := []) rfl).trans rfl
set_option maxRecDepth 100000 in
theorem R_TM_emptyInRow_22 (t : Nat) (a1 : Int) (s0 : Int) (s1 : Nat) (g : PG) (u : PM) : run M_TM_emptyInRow 22 [vA t, vI a1] [vI s0, vA s1] g u =
  bif pW s1 && pO (pK g s1) 11 then (
  cI (call M_TM_fails [vA s1, vI s0, vI 0, vI 0] g u) (fun (x3 : Int) (g1 : PG) (u2 : PM) =>
    if x3 = 0 then
      bif pW t && pO (pK g1 t) 11 then (
      cI (call M_TM_emptyIn [vA t, vI a1] g1 u2) (fun (x6 : Int) (g4 : PG) (u5 : PM) =>
        some (0, vI x6, g4, u5)) noX) else none
    else
      some (0, vI 0, g1, u2)) noX) else none := (run_bl (m := M_TM_emptyInRow) (T := T_TM_emptyInRow) (hh := []) (stop := [(22, [true, true])]) rfl rfl rfl 29 (pc := 22) (L := [vA t, vI a1]) (S := [vI s0, vA s1]) rfl).trans rfl
set_option maxRecDepth 100000 in
theorem C_TM_ofPiece (t : Nat) (a1 : Int) (a2 : Int) (g : PG) (u : PM) : call M_TM_ofPiece [vA t, vI a1, vI a2] g u =
  bif pW t && pO (pK g t) 11 then (
  bif pR (pK g (t + 1)) 0 4 then (
  cI (call M_TM_isIn [vI a1, vI 0, vI (w ((u (t + 1) 4) - 1))] g u) (fun (x3 : Int) (g1 : PG) (u2 : PM) =>
    if x3 = 0 then
      run M_TM_ofPiece 22 [vA t, vI a1, vI a2] [vI 1, vA t] g1 u2
    else
      run M_TM_ofPiece 22 [vA t, vI a1, vI a2] [vI 0, vA t] g1 u2) noX) else none) else none := (run_bl (m := M_TM_ofPiece) (T := T_TM_ofPiece) (hh := []) (stop := [(22, [true, true, true])]) rfl rfl rfl 36 (pc := 0) (L := [vA t, vI a1, vI a2]) (S := []) rfl).trans rfl
set_option maxRecDepth 100000 in
theorem R_TM_ofPiece_22 (t : Nat) (a1 : Int) (a2 : Int) (s0 : Int) (s1 : Nat) (g : PG) (u : PM) : run M_TM_ofPiece 22 [vA t, vI a1, vI a2] [vI s0, vA s1] g u =
  bif pW s1 && pO (pK g s1) 11 then (
  cI (call M_TM_fails [vA s1, vI s0, vI 0, vI 0] g u) (fun (x3 : Int) (g1 : PG) (u2 : PM) =>
    if x3 = 0 then
      bif pW t && pO (pK g1 t) 11 then (
      bif pR (pK g1 (t + 1)) 0 (w ((w (225 + (w (a1 * 6)))) + a2)) then (
      some (0, vI (u2 (t + 1) (w ((w (225 + (w (a1 * 6)))) + a2))), g1, u2)) else none) else none
    else
      some (0, vI 0, g1, u2)) noX) else none := (run_bl (m := M_TM_ofPiece) (T := T_TM_ofPiece) (hh := []) (stop := [(22, [true, true, true])]) rfl rfl rfl 36 (pc := 22) (L := [vA t, vI a1, vI a2]) (S := [vI s0, vA s1]) rfl).trans rfl
set_option maxRecDepth 100000 in
theorem C_TM_pieceShape (t : Nat) (a1 : Int) (g : PG) (u : PM) : call M_TM_pieceShape [vA t, vI a1] g u =
  bif pW t && pO (pK g t) 11 then (
  cI (call M_TM_ofPiece [vA t, vI a1, vI 0] g u) (fun (x3 : Int) (g1 : PG) (u2 : PM) =>
    some (0, vI x3, g1, u2)) noX) else none := (run_bl (m := M_TM_pieceShape) (T := T_TM_pieceShape) (hh := []) (stop := []) rfl rfl rfl 10 (pc := 0) (L := [vA t, vI a1]) (S := []) rfl).trans rfl
set_option maxRecDepth 100000 in
theorem C_TM_pieceRotation (t : Nat) (a1 : Int) (g : PG) (u : PM) : call M_TM_pieceRotation [vA t, vI a1] g u =
  bif pW t && pO (pK g t) 11 then (
  cI (call M_TM_ofPiece [vA t, vI a1, vI 1] g u) (fun (x3 : Int) (g1 : PG) (u2 : PM) =>
    some (0, vI x3, g1, u2)) noX) else none := (run_bl (m := M_TM_pieceRotation) (T := T_TM_pieceRotation) (hh := []) (stop := []) rfl rfl rfl 10 (pc := 0) (L := [vA t, vI a1]) (S := []) rfl).trans rfl
set_option maxRecDepth 100000 in
theorem C_TM_pieceColumn (t : Nat) (a1 : Int) (g : PG) (u : PM) : call M_TM_pieceColumn [vA t, vI a1] g u =
  bif pW t && pO (pK g t) 11 then (
  cI (call M_TM_ofPiece [vA t, vI a1, vI 2] g u) (fun (x3 : Int) (g1 : PG) (u2 : PM) =>
    some (0, vI x3, g1, u2)) noX) else none := (run_bl (m := M_TM_pieceColumn) (T := T_TM_pieceColumn) (hh := []) (stop := []) rfl rfl rfl 10 (pc := 0) (L := [vA t, vI a1]) (S := []) rfl).trans rfl
set_option maxRecDepth 100000 in
theorem C_TM_pieceRow (t : Nat) (a1 : Int) (g : PG) (u : PM) : call M_TM_pieceRow [vA t, vI a1] g u =
  bif pW t && pO (pK g t) 11 then (
  cI (call M_TM_ofPiece [vA t, vI a1, vI 3] g u) (fun (x3 : Int) (g1 : PG) (u2 : PM) =>
    some (0, vI x3, g1, u2)) noX) else none := (run_bl (m := M_TM_pieceRow) (T := T_TM_pieceRow) (hh := []) (stop := []) rfl rfl rfl 10 (pc := 0) (L := [vA t, vI a1]) (S := []) rfl).trans rfl
set_option maxRecDepth 100000 in
theorem C_TM_pieceOwner (t : Nat) (a1 : Int) (g : PG) (u : PM) : call M_TM_pieceOwner [vA t, vI a1] g u =
  bif pW t && pO (pK g t) 11 then (
  cI (call M_TM_ofPiece [vA t, vI a1, vI 4] g u) (fun (x3 : Int) (g1 : PG) (u2 : PM) =>
    some (0, vI x3, g1, u2)) noX) else none := (run_bl (m := M_TM_pieceOwner) (T := T_TM_pieceOwner) (hh := []) (stop := []) rfl rfl rfl 10 (pc := 0) (L := [vA t, vI a1]) (S := []) rfl).trans rfl
set_option maxRecDepth 100000 in
theorem C_TM_piecePoints (t : Nat) (a1 : Int) (g : PG) (u : PM) : call M_TM_piecePoints [vA t, vI a1] g u =
  bif pW t && pO (pK g t) 11 then (
  cI (call M_TM_ofPiece [vA t, vI a1, vI 5] g u) (fun (x3 : Int) (g1 : PG) (u2 : PM) =>
    some (0, vI x3, g1, u2)) noX) else none := (run_bl (m := M_TM_piecePoints) (T := T_TM_piecePoints) (hh := []) (stop := []) rfl rfl rfl 10 (pc := 0) (L := [vA t, vI a1]) (S := []) rfl).trans rfl
set_option maxRecDepth 100000 in
theorem C_TM_playerToMove (t : Nat) (g : PG) (u : PM) : call M_TM_playerToMove [vA t] g u =
  bif pW t && pO (pK g t) 11 then (
  cI (call M_TM_over [vA t] g u) (fun (x3 : Int) (g1 : PG) (u2 : PM) =>
    if x3 = 0 then
      bif pW t && pO (pK g1 t) 11 then (
      bif pR (pK g1 (t + 1)) 0 2 then (
      bif pW t && pO (pK g1 t) 11 then (
      cI (call M_TM_told [vA t, vI (u2 (t + 1) 2)] g1 u2) (fun (x6 : Int) (g4 : PG) (u5 : PM) =>
        some (0, vI x6, g4, u5)) noX) else none) else none) else none
    else
      bif pW t && pO (pK g1 t) 11 then (
      cI (call M_TM_told [vA t, vI (-1)] g1 u2) (fun (x9 : Int) (g7 : PG) (u8 : PM) =>
        some (0, vI x9, g7, u8)) noX) else none) noX) else none := (run_bl (m := M_TM_playerToMove) (T := T_TM_playerToMove) (hh := []) (stop := []) rfl rfl rfl 17 (pc := 0) (L := [vA t]) (S := []) rfl).trans rfl
set_option maxRecDepth 100000 in
theorem C_TM_isOver (t : Nat) (g : PG) (u : PM) : call M_TM_isOver [vA t] g u =
  bif pW t && pO (pK g t) 11 then (
  bif pW t && pO (pK g t) 11 then (
  cI (call M_TM_over [vA t] g (up u t 7 0)) (fun (x3 : Int) (g1 : PG) (u2 : PM) =>
    bif b01 x3 then (
    some (0, vI x3, g1, u2)) else none) noX) else none) else none := (run_bl (m := M_TM_isOver) (T := T_TM_isOver) (hh := []) (stop := []) rfl rfl rfl 11 (pc := 0) (L := [vA t]) (S := []) rfl).trans rfl
set_option maxRecDepth 100000 in
theorem C_TM_leader (t : Nat) (g : PG) (u : PM) : call M_TM_leader [vA t] g u =
  bif pW t && pO (pK g t) 11 then (
  bif pW t && pO (pK g t) 11 then (
  cI (call M_TM_of [vA t, vI 0, vI 0] g (up u t 7 0)) (fun (x3 : Int) (g1 : PG) (u2 : PM) =>
    bif pW t && pO (pK g1 t) 11 then (
    cI (call M_TM_of [vA t, vI 1, vI 0] g1 u2) (fun (x6 : Int) (g4 : PG) (u5 : PM) =>
      if (w (x3 - x6)) = 0 then
        some (0, vI (-1), g4, u5)
      else
        if 0 < (w (x3 - x6)) then
          some (0, vI 0, g4, u5)
        else
          some (0, vI 1, g4, u5)) noX) else none) noX) else none) else none := (run_bl (m := M_TM_leader) (T := T_TM_leader) (hh := []) (stop := []) rfl rfl rfl 28 (pc := 0) (L := [vA t, vN]) (S := []) rfl).trans rfl
set_option maxRecDepth 100000 in
theorem C_TM_score (t : Nat) (a1 : Int) (g : PG) (u : PM) : call M_TM_score [vA t, vI a1] g u =
  cI (call M_TM_noPlayer [vI a1] g u) (fun (x3 : Int) (g1 : PG) (u2 : PM) =>
    bif pW t && pO (pK g1 t) 11 then (
    cI (call M_TM_fails [vA t, vI x3, vI 0, vI 0] g1 u2) (fun (x6 : Int) (g4 : PG) (u5 : PM) =>
      if x6 = 0 then
        bif pW t && pO (pK g4 t) 11 then (
        cI (call M_TM_of [vA t, vI a1, vI 0] g4 u5) (fun (x9 : Int) (g7 : PG) (u8 : PM) =>
          some (0, vI x9, g7, u8)) noX) else none
      else
        some (0, vI 0, g4, u5)) noX) else none) noX := (run_bl (m := M_TM_score) (T := T_TM_score) (hh := []) (stop := []) rfl rfl rfl 19 (pc := 0) (L := [vA t, vI a1]) (S := []) rfl).trans rfl
set_option maxRecDepth 100000 in
theorem C_TM_supply (t : Nat) (a1 : Int) (a2 : Int) (g : PG) (u : PM) : call M_TM_supply [vA t, vI a1, vI a2] g u =
  cI (call M_TM_noPlayer [vI a1] g u) (fun (x3 : Int) (g1 : PG) (u2 : PM) =>
    cI (call M_TM_noShape [vI a2] g1 u2) (fun (x6 : Int) (g4 : PG) (u5 : PM) =>
      bif pW t && pO (pK g4 t) 11 then (
      cI (call M_TM_fails [vA t, vI x3, vI x6, vI 0] g4 u5) (fun (x9 : Int) (g7 : PG) (u8 : PM) =>
        if x9 = 0 then
          bif pW t && pO (pK g7 t) 11 then (
          cI (call M_TM_of [vA t, vI a1, vI (w (2 + a2))] g7 u8) (fun (x12 : Int) (g10 : PG) (u11 : PM) =>
            some (0, vI x12, g10, u11)) noX) else none
        else
          some (0, vI 0, g7, u8)) noX) else none) noX) noX := (run_bl (m := M_TM_supply) (T := T_TM_supply) (hh := []) (stop := []) rfl rfl rfl 22 (pc := 0) (L := [vA t, vI a1, vI a2]) (S := []) rfl).trans rfl
set_option maxRecDepth 100000 in
theorem C_TM_strapsLeft (t : Nat) (a1 : Int) (g : PG) (u : PM) : call M_TM_strapsLeft [vA t, vI a1] g u =
  cI (call M_TM_noPlayer [vI a1] g u) (fun (x3 : Int) (g1 : PG) (u2 : PM) =>
    bif pW t && pO (pK g1 t) 11 then (
    cI (call M_TM_fails [vA t, vI x3, vI 0, vI 0] g1 u2) (fun (x6 : Int) (g4 : PG) (u5 : PM) =>
      if x6 = 0 then
        bif pW t && pO (pK g4 t) 11 then (
        cI (call M_TM_of [vA t, vI a1, vI 1] g4 u5) (fun (x9 : Int) (g7 : PG) (u8 : PM) =>
          some (0, vI x9, g7, u8)) noX) else none
      else
        some (0, vI 0, g4, u5)) noX) else none) noX := (run_bl (m := M_TM_strapsLeft) (T := T_TM_strapsLeft) (hh := []) (stop := []) rfl rfl rfl 19 (pc := 0) (L := [vA t, vI a1]) (S := []) rfl).trans rfl
set_option maxRecDepth 100000 in
theorem C_TM_nameByte (t : Nat) (a1 : Int) (a2 : Int) (g : PG) (u : PM) : call M_TM_nameByte [vA t, vI a1, vI a2] g u =
  cI (call M_TM_noPlayer [vI a1] g u) (fun (x3 : Int) (g1 : PG) (u2 : PM) =>
    bif pW t && pO (pK g1 t) 11 then (
    cI (call M_TM_fails [vA t, vI x3, vI 0, vI 0] g1 u2) (fun (x6 : Int) (g4 : PG) (u5 : PM) =>
      if x6 = 0 then
        bif pW t && pO (pK g4 t) 11 then (
        cI (call M_TM_of [vA t, vI a1, vI 7] g4 u5) (fun (x9 : Int) (g7 : PG) (u8 : PM) =>
          cI (call M_TM_isIn [vI a2, vI 0, vI (w (x9 - 1))] g7 u8) (fun (x12 : Int) (g10 : PG) (u11 : PM) =>
            if x12 = 0 then
              some (0, vI (-1), g10, u11)
            else
              bif pW t && pO (pK g10 t) 11 then (
              cI (call M_TM_of [vA t, vI a1, vI (w (8 + a2))] g10 u11) (fun (x15 : Int) (g13 : PG) (u14 : PM) =>
                some (0, vI x15, g13, u14)) noX) else none) noX) noX) else none
      else
        some (0, vI 0, g4, u5)) noX) else none) noX := (run_bl (m := M_TM_nameByte) (T := T_TM_nameByte) (hh := []) (stop := []) rfl rfl rfl 33 (pc := 0) (L := [vA t, vI a1, vI a2]) (S := []) rfl).trans rfl
set_option maxRecDepth 100000 in
theorem C_TM_isBad (t : Nat) (a1 : Int) (a2 : Int) (a3 : Int) (a4 : Int) (g : PG) (u : PM) : call M_TM_isBad [vA t, vI a1, vI a2, vI a3, vI a4] g u =
  cI (call M_TM_noShape [vI a1] g u) (fun (x3 : Int) (g1 : PG) (u2 : PM) =>
    if x3 = 0 then
      cI (call M_TM_noTurn [vI a2] g1 u2) (fun (x6 : Int) (g4 : PG) (u5 : PM) =>
        if x6 = 0 then
          run M_TM_isBad 20 [vA t, vI a1, vI a2, vI a3, vI a4] [vI 0, vA t] g4 u5
        else
          run M_TM_isBad 20 [vA t, vI a1, vI a2, vI a3, vI a4] [vI 1, vA t] g4 u5) noX
    else
      run M_TM_isBad 20 [vA t, vI a1, vI a2, vI a3, vI a4] [vI 1, vA t] g1 u2) noX := (run_bl (m := M_TM_isBad) (T := T_TM_isBad) (hh := []) (stop := [(20, [true, true, true, true, true]), (35, [true, true, true, true, true])]) rfl rfl rfl 26 (pc := 0) (L := [vA t, vI a1, vI a2, vI a3, vI a4]) (S := []) rfl).trans rfl
set_option maxRecDepth 100000 in
theorem R_TM_isBad_20 (t : Nat) (a1 : Int) (a2 : Int) (a3 : Int) (a4 : Int) (s0 : Int) (s1 : Nat) (g : PG) (u : PM) : run M_TM_isBad 20 [vA t, vI a1, vI a2, vI a3, vI a4] [vI s0, vA s1] g u =
  bif pW t && pO (pK g t) 11 then (
  cI (call M_TM_isInside [vA t, vI a3, vI a4] g u) (fun (x3 : Int) (g1 : PG) (u2 : PM) =>
    if x3 = 0 then
      run M_TM_isBad 35 [vA t, vI a1, vI a2, vI a3, vI a4] [vI 1, vI s0, vA s1] g1 u2
    else
      run M_TM_isBad 35 [vA t, vI a1, vI a2, vI a3, vI a4] [vI 0, vI s0, vA s1] g1 u2) noX) else none := (run_bl (m := M_TM_isBad) (T := T_TM_isBad) (hh := []) (stop := [(20, [true, true, true, true, true]), (35, [true, true, true, true, true])]) rfl rfl rfl 26 (pc := 20) (L := [vA t, vI a1, vI a2, vI a3, vI a4]) (S := [vI s0, vA s1]) rfl).trans rfl
set_option maxRecDepth 100000 in
theorem R_TM_isBad_35 (t : Nat) (a1 : Int) (a2 : Int) (a3 : Int) (a4 : Int) (s0 : Int) (s1 : Int) (s2 : Nat) (g : PG) (u : PM) : run M_TM_isBad 35 [vA t, vI a1, vI a2, vI a3, vI a4] [vI s0, vI s1, vA s2] g u =
  bif pW s2 && pO (pK g s2) 11 then (
  cI (call M_TM_fails [vA s2, vI s1, vI s0, vI 0] g u) (fun (x3 : Int) (g1 : PG) (u2 : PM) =>
    bif b01 x3 then (
    some (0, vI x3, g1, u2)) else none) noX) else none := (run_bl (m := M_TM_isBad) (T := T_TM_isBad) (hh := []) (stop := [(20, [true, true, true, true, true]), (35, [true, true, true, true, true])]) rfl rfl rfl 26 (pc := 35) (L := [vA t, vI a1, vI a2, vI a3, vI a4]) (S := [vI s0, vI s1, vA s2]) rfl).trans rfl
set_option maxRecDepth 100000 in
theorem C_TM_fits (t : Nat) (a1 : Int) (a2 : Int) (a3 : Int) (a4 : Int) (g : PG) (u : PM) : call M_TM_fits [vA t, vI a1, vI a2, vI a3, vI a4] g u =
  bif pW t && pO (pK g t) 11 then (
  cI (call M_TM_isBad [vA t, vI a1, vI a2, vI a3, vI a4] g u) (fun (x3 : Int) (g1 : PG) (u2 : PM) =>
    if x3 = 0 then
      bif pW t && pO (pK g1 t) 11 then (
      cI (call M_TM_misfit [vA t, vI a1, vI a2, vI a3, vI a4] g1 u2) (fun (x6 : Int) (g4 : PG) (u5 : PM) =>
        if x6 = 0 then
          some (0, vI 1, g4, u5)
        else
          some (0, vI 0, g4, u5)) noX) else none
    else
      some (0, vI 0, g1, u2)) noX) else none := (run_bl (m := M_TM_fits) (T := T_TM_fits) (hh := []) (stop := []) rfl rfl rfl 23 (pc := 0) (L := [vA t, vI a1, vI a2, vI a3, vI a4]) (S := []) rfl).trans rfl
set_option maxRecDepth 100000 in
theorem C_TM_misfitReason (t : Nat) (a1 : Int) (a2 : Int) (a3 : Int) (a4 : Int) (g : PG) (u : PM) : call M_TM_misfitReason [vA t, vI a1, vI a2, vI a3, vI a4] g u =
  bif pW t && pO (pK g t) 11 then (
  cI (call M_TM_isBad [vA t, vI a1, vI a2, vI a3, vI a4] g u) (fun (x3 : Int) (g1 : PG) (u2 : PM) =>
    if x3 = 0 then
      bif pW t && pO (pK g1 t) 11 then (
      cI (call M_TM_misfit [vA t, vI a1, vI a2, vI a3, vI a4] g1 u2) (fun (x6 : Int) (g4 : PG) (u5 : PM) =>
        some (0, vI x6, g4, u5)) noX) else none
    else
      some (0, vI 0, g1, u2)) noX) else none := (run_bl (m := M_TM_misfitReason) (T := T_TM_misfitReason) (hh := []) (stop := []) rfl rfl rfl 21 (pc := 0) (L := [vA t, vI a1, vI a2, vI a3, vI a4]) (S := []) rfl).trans rfl
set_option maxRecDepth 100000 in
theorem C_TM_pointsFor (t : Nat) (a1 : Int) (a2 : Int) (a3 : Int) (a4 : Int) (g : PG) (u : PM) : call M_TM_pointsFor [vA t, vI a1, vI a2, vI a3, vI a4] g u =
  bif pW t && pO (pK g t) 11 then (
  cI (call M_TM_isBad [vA t, vI a1, vI a2, vI a3, vI a4] g u) (fun (x3 : Int) (g1 : PG) (u2 : PM) =>
    if x3 = 0 then
      bif pW t && pO (pK g1 t) 11 then (
      cI (call M_TM_misfit [vA t, vI a1, vI a2, vI a3, vI a4] g1 u2) (fun (x6 : Int) (g4 : PG) (u5 : PM) =>
        if x6 = 0 then
          bif pW t && pO (pK g4 t) 11 then (
          cI (call M_TM_points [vA t, vI a1, vI a2, vI a3, vI a4] g4 u5) (fun (x9 : Int) (g7 : PG) (u8 : PM) =>
            some (0, vI x9, g7, u8)) noX) else none
        else
          some (0, vI (-1), g4, u5)) noX) else none
    else
      some (0, vI 0, g1, u2)) noX) else none := (run_bl (m := M_TM_pointsFor) (T := T_TM_pointsFor) (hh := []) (stop := []) rfl rfl rfl 30 (pc := 0) (L := [vA t, vI a1, vI a2, vI a3, vI a4]) (S := []) rfl).trans rfl
set_option maxRecDepth 100000 in
theorem C_TM_mobility (t : Nat) (a1 : Int) (g : PG) (u : PM) : call M_TM_mobility [vA t, vI a1] g u =
  cI (call M_TM_noPlayer [vI a1] g u) (fun (x3 : Int) (g1 : PG) (u2 : PM) =>
    bif pW t && pO (pK g1 t) 11 then (
    cI (call M_TM_fails [vA t, vI x3, vI 0, vI 0] g1 u2) (fun (x6 : Int) (g4 : PG) (u5 : PM) =>
      if x6 = 0 then
        bif pW t && pO (pK g4 t) 11 then (
        cI (call M_TM_moves [vA t, vI a1] g4 u5) (fun (x9 : Int) (g7 : PG) (u8 : PM) =>
          some (0, vI x9, g7, u8)) noX) else none
      else
        some (0, vI 0, g4, u5)) noX) else none) noX := (run_bl (m := M_TM_mobility) (T := T_TM_mobility) (hh := []) (stop := []) rfl rfl rfl 18 (pc := 0) (L := [vA t, vI a1]) (S := []) rfl).trans rfl
set_option maxRecDepth 100000 in
theorem C_TM_fittingPlacements (t : Nat) (a1 : Int) (g : PG) (u : PM) : call M_TM_fittingPlacements [vA t, vI a1] g u =
  cI (call M_TM_noShape [vI a1] g u) (fun (x3 : Int) (g1 : PG) (u2 : PM) =>
    bif pW t && pO (pK g1 t) 11 then (
    cI (call M_TM_fails [vA t, vI x3, vI 0, vI 0] g1 u2) (fun (x6 : Int) (g4 : PG) (u5 : PM) =>
      if x6 = 0 then
        bif pW t && pO (pK g4 t) 11 then (
        cI (call M_TM_fitting [vA t, vI a1] g4 u5) (fun (x9 : Int) (g7 : PG) (u8 : PM) =>
          some (0, vI x9, g7, u8)) noX) else none
      else
        some (0, vI 0, g4, u5)) noX) else none) noX := (run_bl (m := M_TM_fittingPlacements) (T := T_TM_fittingPlacements) (hh := []) (stop := []) rfl rfl rfl 18 (pc := 0) (L := [vA t, vI a1]) (S := []) rfl).trans rfl
set_option maxRecDepth 100000 in
theorem C_TM_tryOut (t : Nat) (g : PG) (u : PM) : call M_TM_tryOut [vA t] g u =
  bif pW t && pO (pK g t) 11 then (
  bif pW t && pO (pK g t) 11 then (
  cV (call M_TM_copy [vA (t + 1), vI 0, vA (t + 2), vI 0] g u) (fun (g1 : PG) (u2 : PM) =>
    some (0, vN, g1, u2)) noX) else none) else none := (run_bl (m := M_TM_tryOut) (T := T_TM_tryOut) (hh := []) (stop := []) rfl rfl rfl 13 (pc := 0) (L := [vA t]) (S := []) rfl).trans rfl
set_option maxRecDepth 100000 in
theorem C_TM_laidBack (t : Nat) (a1 : Int) (g : PG) (u : PM) : call M_TM_laidBack [vA t, vI a1] g u =
  bif pW t && pO (pK g t) 11 then (
  bif pW t && pO (pK g t) 11 then (
  cV (call M_TM_copy [vA (t + 2), vI 0, vA (t + 1), vI 0] g u) (fun (g1 : PG) (u2 : PM) =>
    some (0, vI a1, g1, u2)) noX) else none) else none := (run_bl (m := M_TM_laidBack) (T := T_TM_laidBack) (hh := []) (stop := []) rfl rfl rfl 14 (pc := 0) (L := [vA t, vI a1]) (S := []) rfl).trans rfl
set_option maxRecDepth 100000 in
theorem C_TM_mobilityAfter (t : Nat) (a1 : Int) (a2 : Int) (a3 : Int) (a4 : Int) (a5 : Int) (g : PG) (u : PM) : call M_TM_mobilityAfter [vA t, vI a1, vI a2, vI a3, vI a4, vI a5] g u =
  cI (call M_TM_noShape [vI a1] g u) (fun (x3 : Int) (g1 : PG) (u2 : PM) =>
    if x3 = 0 then
      cI (call M_TM_noTurn [vI a2] g1 u2) (fun (x6 : Int) (g4 : PG) (u5 : PM) =>
        if x6 = 0 then
          run M_TM_mobilityAfter 20 [vA t, vI a1, vI a2, vI a3, vI a4, vI a5, vN] [vI 0, vA t] g4 u5
        else
          run M_TM_mobilityAfter 20 [vA t, vI a1, vI a2, vI a3, vI a4, vI a5, vN] [vI 1, vA t] g4 u5) noX
    else
      run M_TM_mobilityAfter 20 [vA t, vI a1, vI a2, vI a3, vI a4, vI a5, vN] [vI 1, vA t] g1 u2) noX := (run_bl (m := M_TM_mobilityAfter) (T := T_TM_mobilityAfter) (hh := []) (stop := [(20, [true, true, true, true, true, true, false]), (43, [true, true, true, true, true, true, false])]) rfl rfl rfl 55 (pc := 0) (L := [vA t, vI a1, vI a2, vI a3, vI a4, vI a5, vN]) (S := []) rfl).trans rfl
set_option maxRecDepth 100000 in
theorem R_TM_mobilityAfter_20 (t : Nat) (a1 : Int) (a2 : Int) (a3 : Int) (a4 : Int) (a5 : Int) (s0 : Int) (s1 : Nat) (g : PG) (u : PM) : run M_TM_mobilityAfter 20 [vA t, vI a1, vI a2, vI a3, vI a4, vI a5, vN] [vI s0, vA s1] g u =
  bif pW t && pO (pK g t) 11 then (
  cI (call M_TM_isInside [vA t, vI a3, vI a4] g u) (fun (x3 : Int) (g1 : PG) (u2 : PM) =>
    if x3 = 0 then
      run M_TM_mobilityAfter 43 [vA t, vI a1, vI a2, vI a3, vI a4, vI a5, vN] [vI 1, vI s0, vA s1] g1 u2
    else
      cI (call M_TM_noPlayer [vI a5] g1 u2) (fun (x6 : Int) (g4 : PG) (u5 : PM) =>
        if x6 = 0 then
          run M_TM_mobilityAfter 43 [vA t, vI a1, vI a2, vI a3, vI a4, vI a5, vN] [vI 0, vI s0, vA s1] g4 u5
        else
          run M_TM_mobilityAfter 43 [vA t, vI a1, vI a2, vI a3, vI a4, vI a5, vN] [vI 1, vI s0, vA s1] g4 u5) noX) noX) else none := (run_bl (m := M_TM_mobilityAfter) (T := T_TM_mobilityAfter) (hh := []) (stop := [(20, [true, true, true, true, true, true, false]), (43, [true, true, true, true, true, true, false])]) rfl rfl rfl 55 (pc := 20) (L := [vA t, vI a1, vI a2, vI a3, vI a4, vI a5, vN]) (S := [vI s0, vA s1]) rfl).trans rfl
set_option maxRecDepth 100000 in
theorem R_TM_mobilityAfter_43 (t : Nat) (a1 : Int) (a2 : Int) (a3 : Int) (a4 : Int) (a5 : Int) (s0 : Int) (s1 : Int) (s2 : Nat) (g : PG) (u : PM) : run M_TM_mobilityAfter 43 [vA t, vI a1, vI a2, vI a3, vI a4, vI a5, vN] [vI s0, vI s1, vA s2] g u =
  bif pW s2 && pO (pK g s2) 11 then (
  cI (call M_TM_fails [vA s2, vI s1, vI s0, vI 0] g u) (fun (x3 : Int) (g1 : PG) (u2 : PM) =>
    if x3 = 0 then
      bif pW t && pO (pK g1 t) 11 then (
      cI (call M_TM_mayPlace [vA t, vI a1, vI a2, vI a3, vI a4] g1 u2) (fun (x6 : Int) (g4 : PG) (u5 : PM) =>
        if x6 = 0 then
          some (0, vI (-1), g4, u5)
        else
          bif pW t && pO (pK g4 t) 11 then (
          cV (call M_TM_tryOut [vA t] g4 u5) (fun (g7 : PG) (u8 : PM) =>
            bif pW t && pO (pK g7 t) 11 then (
            cI (call M_TM_places [vA t, vI a1, vI a2, vI a3, vI a4] g7 u8) (fun (x11 : Int) (g9 : PG) (u10 : PM) =>
              bif pW t && pO (pK g9 t) 11 then (
              cI (call M_TM_moves [vA t, vI a5] g9 u10) (fun (x14 : Int) (g12 : PG) (u13 : PM) =>
                bif pW t && pO (pK g12 t) 11 then (
                cI (call M_TM_laidBack [vA t, vI x14] g12 u13) (fun (x17 : Int) (g15 : PG) (u16 : PM) =>
                  some (0, vI x17, g15, u16)) noX) else none) noX) else none) noX) else none) noX) else none) noX) else none
    else
      some (0, vI 0, g1, u2)) noX) else none := (run_bl (m := M_TM_mobilityAfter) (T := T_TM_mobilityAfter) (hh := []) (stop := [(20, [true, true, true, true, true, true, false]), (43, [true, true, true, true, true, true, false])]) rfl rfl rfl 55 (pc := 43) (L := [vA t, vI a1, vI a2, vI a3, vI a4, vI a5, vN]) (S := [vI s0, vI s1, vA s2]) rfl).trans rfl
set_option maxRecDepth 100000 in
theorem C_TM_findBest (t : Nat) (g : PG) (u : PM) : call M_TM_findBest [vA t] g u =
  bif pW t && pO (pK g t) 11 then (
  bif pW t && pO (pK g t) 11 then (
  bif pW t && pO (pK g t) 11 then (
  bif pW t && pO (pK g t) 11 then (
  bif pW t && pO (pK g t) 11 then (
  run M_TM_findBest 25 [vA t, vN, vN, vN] [] g (up (up (up (up (up u t 7 0) t 24 (-1)) t 25 (-1)) t 26 (-1)) t 27 (-1))) else none) else none) else none) else none) else none := (run_bl (m := M_TM_findBest) (T := T_TM_findBest) (hh := []) (stop := [(25, [true, false, false, false]), (29, [true, true, true, false]), (62, [true, true, true, true])]) rfl rfl rfl 57 (pc := 0) (L := [vA t, vN, vN, vN]) (S := []) rfl).trans rfl
set_option maxRecDepth 100000 in
theorem R_TM_findBest_25 (t : Nat) (g : PG) (u : PM) : run M_TM_findBest 25 [vA t, vN, vN, vN] [] g u =
  run M_TM_findBest 29 [vA t, vI 0, vI 0, vN] [] g u := (run_bl (m := M_TM_findBest) (T := T_TM_findBest) (hh := []) (stop := [(25, [true, false, false, false]), (29, [true, true, true, false]), (62, [true, true, true, true])]) rfl rfl rfl 57 (pc := 25) (L := [vA t, vN, vN, vN]) (S := []) rfl).trans rfl
set_option maxRecDepth 100000 in
theorem R_TM_findBest_29 (t : Nat) (a1 : Int) (a2 : Int) (g : PG) (u : PM) : run M_TM_findBest 29 [vA t, vI a1, vI a2, vN] [] g u =
  if a2 < 5 then
    bif pW t && pO (pK g t) 11 then (
    cI (call M_TM_over [vA t] g u) (fun (x3 : Int) (g1 : PG) (u2 : PM) =>
      if x3 = 0 then
        bif pW t && pO (pK g1 t) 11 then (
        bif pR (pK g1 (t + 1)) 0 2 then (
        bif pW t && pO (pK g1 t) 11 then (
        cI (call M_TM_of [vA t, vI (u2 (t + 1) 2), vI (w (2 + a2))] g1 u2) (fun (x6 : Int) (g4 : PG) (u5 : PM) =>
          if x6 = 0 then
            run M_TM_findBest 29 [vA t, vI a1, vI (w (a2 + 1)), vN] [] g4 u5
          else
            run M_TM_findBest 62 [vA t, vI a1, vI a2, vI 0] [] g4 u5) noX) else none) else none) else none
      else
        some (0, vN, g1, u2)) noX) else none
  else
    some (0, vN, g, u) := (run_bl (m := M_TM_findBest) (T := T_TM_findBest) (hh := []) (stop := [(25, [true, false, false, false]), (29, [true, true, true, false]), (62, [true, true, true, true])]) rfl rfl rfl 57 (pc := 29) (L := [vA t, vI a1, vI a2, vN]) (S := []) rfl).trans rfl
set_option maxRecDepth 100000 in
theorem R_TM_findBest_62 (t : Nat) (a1 : Int) (a2 : Int) (a3 : Int) (g : PG) (u : PM) : run M_TM_findBest 62 [vA t, vI a1, vI a2, vI a3] [] g u =
  if a3 < 4 then
    bif pW t && pO (pK g t) 11 then (
    cI (call M_TM_bestOf [vA t, vI a2, vI a3, vI a1] g u) (fun (x3 : Int) (g1 : PG) (u2 : PM) =>
      run M_TM_findBest 62 [vA t, vI x3, vI a2, vI (w (a3 + 1))] [] g1 u2) noX) else none
  else
    run M_TM_findBest 29 [vA t, vI a1, vI (w (a2 + 1)), vN] [] g u := (run_bl (m := M_TM_findBest) (T := T_TM_findBest) (hh := []) (stop := [(25, [true, false, false, false]), (29, [true, true, true, false]), (62, [true, true, true, true])]) rfl rfl rfl 57 (pc := 62) (L := [vA t, vI a1, vI a2, vI a3]) (S := []) rfl).trans rfl
set_option maxRecDepth 100000 in
theorem C_TM_bestOf (t : Nat) (a1 : Int) (a2 : Int) (a3 : Int) (g : PG) (u : PM) : call M_TM_bestOf [vA t, vI a1, vI a2, vI a3] g u =
  run M_TM_bestOf 6 [vA t, vI a1, vI a2, vI a3, vI a3, vI 0, vN, vN] [] g u := (run_bl (m := M_TM_bestOf) (T := T_TM_bestOf) (hh := []) (stop := [(6, [true, true, true, true, true, true, false, false]), (20, [true, true, true, true, true, true, true, false])]) rfl rfl rfl 62 (pc := 0) (L := [vA t, vI a1, vI a2, vI a3, vN, vN, vN, vN]) (S := []) rfl).trans rfl
set_option maxRecDepth 100000 in
theorem R_TM_bestOf_6 (t : Nat) (a1 : Int) (a2 : Int) (a3 : Int) (a4 : Int) (a5 : Int) (g : PG) (u : PM) : run M_TM_bestOf 6 [vA t, vI a1, vI a2, vI a3, vI a4, vI a5, vN, vN] [] g u =
  bif pW t && pO (pK g t) 11 then (
  bif pR (pK g (t + 1)) 0 1 then (
  if a5 < (u (t + 1) 1) then
    run M_TM_bestOf 20 [vA t, vI a1, vI a2, vI a3, vI a4, vI a5, vI 0, vN] [] g u
  else
    some (0, vI a4, g, u)) else none) else none := (run_bl (m := M_TM_bestOf) (T := T_TM_bestOf) (hh := []) (stop := [(6, [true, true, true, true, true, true, false, false]), (20, [true, true, true, true, true, true, true, false])]) rfl rfl rfl 62 (pc := 6) (L := [vA t, vI a1, vI a2, vI a3, vI a4, vI a5, vN, vN]) (S := []) rfl).trans rfl
set_option maxRecDepth 100000 in
theorem R_TM_bestOf_20 (t : Nat) (a1 : Int) (a2 : Int) (a3 : Int) (a4 : Int) (a5 : Int) (a6 : Int) (g : PG) (u : PM) : run M_TM_bestOf 20 [vA t, vI a1, vI a2, vI a3, vI a4, vI a5, vI a6, vN] [] g u =
  bif pW t && pO (pK g t) 11 then (
  bif pR (pK g (t + 1)) 0 0 then (
  if a6 < (u (t + 1) 0) then
    bif pW t && pO (pK g t) 11 then (
    cI (call M_TM_misfit [vA t, vI a1, vI a2, vI a6, vI a5] g u) (fun (x3 : Int) (g1 : PG) (u2 : PM) =>
      if x3 = 0 then
        bif pW t && pO (pK g1 t) 11 then (
        cI (call M_TM_points [vA t, vI a1, vI a2, vI a6, vI a5] g1 u2) (fun (x6 : Int) (g4 : PG) (u5 : PM) =>
          if a4 < x6 then
            bif pW t && pO (pK g4 t) 11 then (
            bif pW t && pO (pK g4 t) 11 then (
            bif pW t && pO (pK g4 t) 11 then (
            bif pW t && pO (pK g4 t) 11 then (
            run M_TM_bestOf 20 [vA t, vI a1, vI a2, vI a3, vI x6, vI a5, vI (w (a6 + 1)), vN] [] g4 (up (up (up (up u5 t 24 a1) t 25 a2) t 26 a6) t 27 a5)) else none) else none) else none) else none
          else
            run M_TM_bestOf 20 [vA t, vI a1, vI a2, vI a3, vI a4, vI a5, vI (w (a6 + 1)), vN] [] g4 u5) noX) else none
      else
        run M_TM_bestOf 20 [vA t, vI a1, vI a2, vI a3, vI a4, vI a5, vI (w (a6 + 1)), vN] [] g1 u2) noX) else none
  else
    run M_TM_bestOf 6 [vA t, vI a1, vI a2, vI a3, vI a4, vI (w (a5 + 1)), vN, vN] [] g u) else none) else none := (run_bl (m := M_TM_bestOf) (T := T_TM_bestOf) (hh := []) (stop := [(6, [true, true, true, true, true, true, false, false]), (20, [true, true, true, true, true, true, true, false])]) rfl rfl rfl 62 (pc := 20) (L := [vA t, vI a1, vI a2, vI a3, vI a4, vI a5, vI a6, vN]) (S := []) rfl).trans rfl
set_option maxRecDepth 100000 in
theorem C_TM_bestShape (t : Nat) (g : PG) (u : PM) : call M_TM_bestShape [vA t] g u =
  bif pW t && pO (pK g t) 11 then (
  cV (call M_TM_findBest [vA t] g u) (fun (g1 : PG) (u2 : PM) =>
    bif pW t && pO (pK g1 t) 11 then (
    some (0, vI (u2 t 24), g1, u2)) else none) noX) else none := (run_bl (m := M_TM_bestShape) (T := T_TM_bestShape) (hh := []) (stop := []) rfl rfl rfl 10 (pc := 0) (L := [vA t]) (S := []) rfl).trans rfl
set_option maxRecDepth 100000 in
theorem C_TM_bestRotation (t : Nat) (g : PG) (u : PM) : call M_TM_bestRotation [vA t] g u =
  bif pW t && pO (pK g t) 11 then (
  cV (call M_TM_findBest [vA t] g u) (fun (g1 : PG) (u2 : PM) =>
    bif pW t && pO (pK g1 t) 11 then (
    some (0, vI (u2 t 25), g1, u2)) else none) noX) else none := (run_bl (m := M_TM_bestRotation) (T := T_TM_bestRotation) (hh := []) (stop := []) rfl rfl rfl 10 (pc := 0) (L := [vA t]) (S := []) rfl).trans rfl
set_option maxRecDepth 100000 in
theorem C_TM_bestColumn (t : Nat) (g : PG) (u : PM) : call M_TM_bestColumn [vA t] g u =
  bif pW t && pO (pK g t) 11 then (
  cV (call M_TM_findBest [vA t] g u) (fun (g1 : PG) (u2 : PM) =>
    bif pW t && pO (pK g1 t) 11 then (
    some (0, vI (u2 t 26), g1, u2)) else none) noX) else none := (run_bl (m := M_TM_bestColumn) (T := T_TM_bestColumn) (hh := []) (stop := []) rfl rfl rfl 10 (pc := 0) (L := [vA t]) (S := []) rfl).trans rfl
set_option maxRecDepth 100000 in
theorem C_TM_bestRow (t : Nat) (g : PG) (u : PM) : call M_TM_bestRow [vA t] g u =
  bif pW t && pO (pK g t) 11 then (
  cV (call M_TM_findBest [vA t] g u) (fun (g1 : PG) (u2 : PM) =>
    bif pW t && pO (pK g1 t) 11 then (
    some (0, vI (u2 t 27), g1, u2)) else none) noX) else none := (run_bl (m := M_TM_bestRow) (T := T_TM_bestRow) (hh := []) (stop := []) rfl rfl rfl 10 (pc := 0) (L := [vA t]) (S := []) rfl).trans rfl
set_option maxRecDepth 100000 in
theorem C_TM_bestStrapEffect (t : Nat) (g : PG) (u : PM) : call M_TM_bestStrapEffect [vA t] g u =
  bif pW t && pO (pK g t) 11 then (
  bif pW t && pO (pK g t) 11 then (
  cI (call M_TM_over [vA t] g (up u t 7 0)) (fun (x3 : Int) (g1 : PG) (u2 : PM) =>
    if x3 = 0 then
      bif pW t && pO (pK g1 t) 11 then (
      bif pR (pK g1 (t + 1)) 0 2 then (
      bif pW t && pO (pK g1 t) 11 then (
      cI (call M_TM_moves [vA t, vI (w (1 - (u2 (t + 1) 2)))] g1 u2) (fun (x6 : Int) (g4 : PG) (u5 : PM) =>
        run M_TM_bestStrapEffect 34 [vA t, vI (w (1 - (u2 (t + 1) 2))), vI x6, vI 0, vI 0, vN, vN] [] g4 u5) noX) else none) else none) else none
    else
      some (0, vI (-1), g1, u2)) noX) else none) else none := (run_bl (m := M_TM_bestStrapEffect) (T := T_TM_bestStrapEffect) (hh := []) (stop := [(34, [true, true, true, true, true, false, false]), (48, [true, true, true, true, true, true, false]), (62, [true, true, true, true, true, true, true])]) rfl rfl rfl 92 (pc := 0) (L := [vA t, vN, vN, vN, vN, vN, vN]) (S := []) rfl).trans rfl
set_option maxRecDepth 100000 in
theorem R_TM_bestStrapEffect_34 (t : Nat) (a1 : Int) (a2 : Int) (a3 : Int) (a4 : Int) (g : PG) (u : PM) : run M_TM_bestStrapEffect 34 [vA t, vI a1, vI a2, vI a3, vI a4, vN, vN] [] g u =
  bif pW t && pO (pK g t) 11 then (
  bif pR (pK g (t + 1)) 0 1 then (
  if a4 < (u (t + 1) 1) then
    run M_TM_bestStrapEffect 48 [vA t, vI a1, vI a2, vI a3, vI a4, vI 0, vN] [] g u
  else
    some (0, vI a3, g, u)) else none) else none := (run_bl (m := M_TM_bestStrapEffect) (T := T_TM_bestStrapEffect) (hh := []) (stop := [(34, [true, true, true, true, true, false, false]), (48, [true, true, true, true, true, true, false]), (62, [true, true, true, true, true, true, true])]) rfl rfl rfl 92 (pc := 34) (L := [vA t, vI a1, vI a2, vI a3, vI a4, vN, vN]) (S := []) rfl).trans rfl
set_option maxRecDepth 100000 in
theorem R_TM_bestStrapEffect_48 (t : Nat) (a1 : Int) (a2 : Int) (a3 : Int) (a4 : Int) (a5 : Int) (g : PG) (u : PM) : run M_TM_bestStrapEffect 48 [vA t, vI a1, vI a2, vI a3, vI a4, vI a5, vN] [] g u =
  bif pW t && pO (pK g t) 11 then (
  bif pR (pK g (t + 1)) 0 0 then (
  if a5 < (u (t + 1) 0) then
    run M_TM_bestStrapEffect 62 [vA t, vI a1, vI a2, vI a3, vI a4, vI a5, vI 0] [] g u
  else
    run M_TM_bestStrapEffect 34 [vA t, vI a1, vI a2, vI a3, vI (w (a4 + 1)), vN, vN] [] g u) else none) else none := (run_bl (m := M_TM_bestStrapEffect) (T := T_TM_bestStrapEffect) (hh := []) (stop := [(34, [true, true, true, true, true, false, false]), (48, [true, true, true, true, true, true, false]), (62, [true, true, true, true, true, true, true])]) rfl rfl rfl 92 (pc := 48) (L := [vA t, vI a1, vI a2, vI a3, vI a4, vI a5, vN]) (S := []) rfl).trans rfl
set_option maxRecDepth 100000 in
theorem R_TM_bestStrapEffect_62 (t : Nat) (a1 : Int) (a2 : Int) (a3 : Int) (a4 : Int) (a5 : Int) (a6 : Int) (g : PG) (u : PM) : run M_TM_bestStrapEffect 62 [vA t, vI a1, vI a2, vI a3, vI a4, vI a5, vI a6] [] g u =
  if a6 < 2 then
    bif pW t && pO (pK g t) 11 then (
    cI (call M_TM_isEdge [vA t, vI a5, vI a4, vI a6] g u) (fun (x3 : Int) (g1 : PG) (u2 : PM) =>
      if x3 = 0 then
        run M_TM_bestStrapEffect 62 [vA t, vI a1, vI a2, vI a3, vI a4, vI a5, vI (w (a6 + 1))] [] g1 u2
      else
        bif pW t && pO (pK g1 t) 11 then (
        cI (call M_TM_mayFasten [vA t, vI a5, vI a4, vI a6] g1 u2) (fun (x6 : Int) (g4 : PG) (u5 : PM) =>
          if x6 = 0 then
            run M_TM_bestStrapEffect 62 [vA t, vI a1, vI a2, vI a3, vI a4, vI a5, vI (w (a6 + 1))] [] g4 u5
          else
            bif pW t && pO (pK g4 t) 11 then (
            cI (call M_TM_edge [vI a5, vI a4, vI a6] g4 u5) (fun (x9 : Int) (g7 : PG) (u8 : PM) =>
              bif pW (t + 1) && pR (pK g7 (t + 1)) 0 x9 then (
              bif pW t && pO (pK g7 t) 11 then (
              cI (call M_TM_moves [vA t, vI a1] g7 (up u8 (t + 1) x9 1)) (fun (x12 : Int) (g10 : PG) (u11 : PM) =>
                bif pW t && pO (pK g10 t) 11 then (
                cI (call M_TM_edge [vI a5, vI a4, vI a6] g10 u11) (fun (x15 : Int) (g13 : PG) (u14 : PM) =>
                  bif pW (t + 1) && pR (pK g13 (t + 1)) 0 x15 then (
                  run M_TM_bestStrapEffect 62 [vA t, vI a1, vI a2, vI (max2 a3 (w (a2 - x12))), vI a4, vI a5, vI (w (a6 + 1))] [] g13 (up u14 (t + 1) x15 0)) else none) noX) else none) noX) else none) else none) noX) else none) noX) else none) noX) else none
  else
    run M_TM_bestStrapEffect 48 [vA t, vI a1, vI a2, vI a3, vI a4, vI (w (a5 + 1)), vN] [] g u := (run_bl (m := M_TM_bestStrapEffect) (T := T_TM_bestStrapEffect) (hh := []) (stop := [(34, [true, true, true, true, true, false, false]), (48, [true, true, true, true, true, true, false]), (62, [true, true, true, true, true, true, true])]) rfl rfl rfl 92 (pc := 62) (L := [vA t, vI a1, vI a2, vI a3, vI a4, vI a5, vI a6]) (S := []) rfl).trans rfl
set_option maxRecDepth 100000 in
theorem C_TM_joins (t : Nat) (a1 : Int) (a2 : Int) (a3 : Int) (a4 : Int) (g : PG) (u : PM) : call M_TM_joins [vA t, vI a1, vI a2, vI a3, vI a4] g u =
  bif pW t && pO (pK g t) 11 then (
  cI (call M_TM_isEmpty [vA t, vI a1, vI a2] g u) (fun (x3 : Int) (g1 : PG) (u2 : PM) =>
    if x3 = 0 then
      some (0, vI 0, g1, u2)
    else
      bif pW t && pO (pK g1 t) 11 then (
      cI (call M_TM_isEmpty [vA t, vI a3, vI a4] g1 u2) (fun (x6 : Int) (g4 : PG) (u5 : PM) =>
        if x6 = 0 then
          some (0, vI 0, g4, u5)
        else
          bif pW t && pO (pK g4 t) 11 then (
          cI (call M_TM_isStrapped [vA t, vI a1, vI a2, vI a3, vI a4] g4 u5) (fun (x9 : Int) (g7 : PG) (u8 : PM) =>
            if x9 = 0 then
              bif pW t && pO (pK g7 t) 11 then (
              cI (call M_TM_at [vI a1, vI a2] g7 u8) (fun (x12 : Int) (g10 : PG) (u11 : PM) =>
                bif pR (pK g10 (t + 11)) 0 x12 then (
                bif pW t && pO (pK g10 t) 11 then (
                cI (call M_TM_at [vI a3, vI a4] g10 u11) (fun (x15 : Int) (g13 : PG) (u14 : PM) =>
                  bif pR (pK g13 (t + 11)) 0 x15 then (
                  bif pW t && pO (pK g13 t) 11 then (
                  cI (call M_TM_at [vI a1, vI a2] g13 u14) (fun (x18 : Int) (g16 : PG) (u17 : PM) =>
                    bif pW (t + 11) && pR (pK g16 (t + 11)) 0 x18 then (
                    bif pW t && pO (pK g16 t) 11 then (
                    cI (call M_TM_at [vI a3, vI a4] g16 (up u17 (t + 11) x18 (min2 (u11 (t + 11) x12) (u14 (t + 11) x15)))) (fun (x21 : Int) (g19 : PG) (u20 : PM) =>
                      bif pW (t + 11) && pR (pK g19 (t + 11)) 0 x21 then (
                      if (u11 (t + 11) x12) = (u14 (t + 11) x15) then
                        some (0, vI 0, g19, up u20 (t + 11) x21 (min2 (u11 (t + 11) x12) (u14 (t + 11) x15)))
                      else
                        some (0, vI 1, g19, up u20 (t + 11) x21 (min2 (u11 (t + 11) x12) (u14 (t + 11) x15)))) else none) noX) else none) else none) noX) else none) else none) noX) else none) else none) noX) else none
            else
              some (0, vI 0, g7, u8)) noX) else none) noX) else none) noX) else none := (run_bl (m := M_TM_joins) (T := T_TM_joins) (hh := []) (stop := []) rfl rfl rfl 63 (pc := 0) (L := [vA t, vI a1, vI a2, vI a3, vI a4, vN, vN]) (S := []) rfl).trans rfl
set_option maxRecDepth 100000 in
theorem C_TM_findRegions (t : Nat) (g : PG) (u : PM) : call M_TM_findRegions [vA t] g u =
  run M_TM_findRegions 2 [vA t, vI 0, vN, vN] [] g u := (run_bl (m := M_TM_findRegions) (T := T_TM_findRegions) (hh := []) (stop := [(2, [true, true, false, false]), (23, [true, true, false, false]), (31, [true, true, true, false]), (43, [true, true, true, true]), (68, [true, true, true, true])]) rfl rfl rfl 67 (pc := 0) (L := [vA t, vN, vN, vN]) (S := []) rfl).trans rfl
set_option maxRecDepth 100000 in
theorem R_TM_findRegions_2 (t : Nat) (a1 : Int) (g : PG) (u : PM) : run M_TM_findRegions 2 [vA t, vI a1, vN, vN] [] g u =
  if a1 < 64 then
    bif pW t && pO (pK g t) 11 then (
    bif pW (t + 11) && pR (pK g (t + 11)) 0 a1 then (
    run M_TM_findRegions 2 [vA t, vI (w (a1 + 1)), vN, vN] [] g (up u (t + 11) a1 a1)) else none) else none
  else
    run M_TM_findRegions 23 [vA t, vI 1, vN, vN] [] g u := (run_bl (m := M_TM_findRegions) (T := T_TM_findRegions) (hh := []) (stop := [(2, [true, true, false, false]), (23, [true, true, false, false]), (31, [true, true, true, false]), (43, [true, true, true, true]), (68, [true, true, true, true])]) rfl rfl rfl 67 (pc := 2) (L := [vA t, vI a1, vN, vN]) (S := []) rfl).trans rfl
set_option maxRecDepth 100000 in
theorem R_TM_findRegions_23 (t : Nat) (a1 : Int) (g : PG) (u : PM) : run M_TM_findRegions 23 [vA t, vI a1, vN, vN] [] g u =
  if a1 = 0 then
    some (0, vN, g, u)
  else
    run M_TM_findRegions 31 [vA t, vI 0, vI 0, vN] [] g u := (run_bl (m := M_TM_findRegions) (T := T_TM_findRegions) (hh := []) (stop := [(2, [true, true, false, false]), (23, [true, true, false, false]), (31, [true, true, true, false]), (43, [true, true, true, true]), (68, [true, true, true, true])]) rfl rfl rfl 67 (pc := 23) (L := [vA t, vI a1, vN, vN]) (S := []) rfl).trans rfl
set_option maxRecDepth 100000 in
theorem R_TM_findRegions_31 (t : Nat) (a1 : Int) (a2 : Int) (g : PG) (u : PM) : run M_TM_findRegions 31 [vA t, vI a1, vI a2, vN] [] g u =
  bif pW t && pO (pK g t) 11 then (
  bif pR (pK g (t + 1)) 0 1 then (
  if a2 < (u (t + 1) 1) then
    run M_TM_findRegions 43 [vA t, vI a1, vI a2, vI 0] [] g u
  else
    run M_TM_findRegions 23 [vA t, vI a1, vN, vN] [] g u) else none) else none := (run_bl (m := M_TM_findRegions) (T := T_TM_findRegions) (hh := []) (stop := [(2, [true, true, false, false]), (23, [true, true, false, false]), (31, [true, true, true, false]), (43, [true, true, true, true]), (68, [true, true, true, true])]) rfl rfl rfl 67 (pc := 31) (L := [vA t, vI a1, vI a2, vN]) (S := []) rfl).trans rfl
set_option maxRecDepth 100000 in
theorem R_TM_findRegions_43 (t : Nat) (a1 : Int) (a2 : Int) (a3 : Int) (g : PG) (u : PM) : run M_TM_findRegions 43 [vA t, vI a1, vI a2, vI a3] [] g u =
  bif pW t && pO (pK g t) 11 then (
  bif pR (pK g (t + 1)) 0 0 then (
  if a3 < (u (t + 1) 0) then
    bif pW t && pO (pK g t) 11 then (
    cI (call M_TM_joins [vA t, vI a3, vI a2, vI (w (a3 + 1)), vI a2] g u) (fun (x3 : Int) (g1 : PG) (u2 : PM) =>
      if x3 = 0 then
        run M_TM_findRegions 68 [vA t, vI a1, vI a2, vI a3] [] g1 u2
      else
        run M_TM_findRegions 68 [vA t, vI 1, vI a2, vI a3] [] g1 u2) noX) else none
  else
    run M_TM_findRegions 31 [vA t, vI a1, vI (w (a2 + 1)), vN] [] g u) else none) else none := (run_bl (m := M_TM_findRegions) (T := T_TM_findRegions) (hh := []) (stop := [(2, [true, true, false, false]), (23, [true, true, false, false]), (31, [true, true, true, false]), (43, [true, true, true, true]), (68, [true, true, true, true])]) rfl rfl rfl 67 (pc := 43) (L := [vA t, vI a1, vI a2, vI a3]) (S := []) rfl).trans rfl
set_option maxRecDepth 100000 in
theorem R_TM_findRegions_68 (t : Nat) (a1 : Int) (a2 : Int) (a3 : Int) (g : PG) (u : PM) : run M_TM_findRegions 68 [vA t, vI a1, vI a2, vI a3] [] g u =
  bif pW t && pO (pK g t) 11 then (
  cI (call M_TM_joins [vA t, vI a3, vI a2, vI a3, vI (w (a2 + 1))] g u) (fun (x3 : Int) (g1 : PG) (u2 : PM) =>
    if x3 = 0 then
      run M_TM_findRegions 43 [vA t, vI a1, vI a2, vI (w (a3 + 1))] [] g1 u2
    else
      run M_TM_findRegions 43 [vA t, vI 1, vI a2, vI (w (a3 + 1))] [] g1 u2) noX) else none := (run_bl (m := M_TM_findRegions) (T := T_TM_findRegions) (hh := []) (stop := [(2, [true, true, false, false]), (23, [true, true, false, false]), (31, [true, true, true, false]), (43, [true, true, true, true]), (68, [true, true, true, true])]) rfl rfl rfl 67 (pc := 68) (L := [vA t, vI a1, vI a2, vI a3]) (S := []) rfl).trans rfl
set_option maxRecDepth 100000 in
theorem C_TM_sizeAt (t : Nat) (a1 : Int) (a2 : Int) (g : PG) (u : PM) : call M_TM_sizeAt [vA t, vI a1, vI a2] g u =
  run M_TM_sizeAt 5 [vA t, vI a1, vI a2, vI 0, vI 0, vN] [] g u := (run_bl (m := M_TM_sizeAt) (T := T_TM_sizeAt) (hh := []) (stop := [(5, [true, true, true, true, true, false]), (19, [true, true, true, true, true, true])]) rfl rfl rfl 55 (pc := 0) (L := [vA t, vI a1, vI a2, vN, vN, vN]) (S := []) rfl).trans rfl
set_option maxRecDepth 100000 in
theorem R_TM_sizeAt_5 (t : Nat) (a1 : Int) (a2 : Int) (a3 : Int) (a4 : Int) (g : PG) (u : PM) : run M_TM_sizeAt 5 [vA t, vI a1, vI a2, vI a3, vI a4, vN] [] g u =
  bif pW t && pO (pK g t) 11 then (
  bif pR (pK g (t + 1)) 0 1 then (
  if a4 < (u (t + 1) 1) then
    run M_TM_sizeAt 19 [vA t, vI a1, vI a2, vI a3, vI a4, vI 0] [] g u
  else
    bif pW t && pO (pK g t) 11 then (
    cI (call M_TM_cell [vA t, vI a1, vI a2] g u) (fun (x3 : Int) (g1 : PG) (u2 : PM) =>
      if x3 = 0 then
        some (0, vI a3, g1, u2)
      else
        some (0, vI 0, g1, u2)) noX) else none) else none) else none := (run_bl (m := M_TM_sizeAt) (T := T_TM_sizeAt) (hh := []) (stop := [(5, [true, true, true, true, true, false]), (19, [true, true, true, true, true, true])]) rfl rfl rfl 55 (pc := 5) (L := [vA t, vI a1, vI a2, vI a3, vI a4, vN]) (S := []) rfl).trans rfl
set_option maxRecDepth 100000 in
theorem R_TM_sizeAt_19 (t : Nat) (a1 : Int) (a2 : Int) (a3 : Int) (a4 : Int) (a5 : Int) (g : PG) (u : PM) : run M_TM_sizeAt 19 [vA t, vI a1, vI a2, vI a3, vI a4, vI a5] [] g u =
  bif pW t && pO (pK g t) 11 then (
  bif pR (pK g (t + 1)) 0 0 then (
  if a5 < (u (t + 1) 0) then
    bif pW t && pO (pK g t) 11 then (
    cI (call M_TM_cell [vA t, vI a5, vI a4] g u) (fun (x3 : Int) (g1 : PG) (u2 : PM) =>
      if x3 = 0 then
        bif pW t && pO (pK g1 t) 11 then (
        cI (call M_TM_at [vI a5, vI a4] g1 u2) (fun (x6 : Int) (g4 : PG) (u5 : PM) =>
          bif pR (pK g4 (t + 11)) 0 x6 then (
          bif pW t && pO (pK g4 t) 11 then (
          cI (call M_TM_at [vI a1, vI a2] g4 u5) (fun (x9 : Int) (g7 : PG) (u8 : PM) =>
            bif pR (pK g7 (t + 11)) 0 x9 then (
            if (u5 (t + 11) x6) = (u8 (t + 11) x9) then
              run M_TM_sizeAt 19 [vA t, vI a1, vI a2, vI (w (a3 + 1)), vI a4, vI (w (a5 + 1))] [] g7 u8
            else
              run M_TM_sizeAt 19 [vA t, vI a1, vI a2, vI a3, vI a4, vI (w (a5 + 1))] [] g7 u8) else none) noX) else none) else none) noX) else none
      else
        run M_TM_sizeAt 19 [vA t, vI a1, vI a2, vI a3, vI a4, vI (w (a5 + 1))] [] g1 u2) noX) else none
  else
    run M_TM_sizeAt 5 [vA t, vI a1, vI a2, vI a3, vI (w (a4 + 1)), vN] [] g u) else none) else none := (run_bl (m := M_TM_sizeAt) (T := T_TM_sizeAt) (hh := []) (stop := [(5, [true, true, true, true, true, false]), (19, [true, true, true, true, true, true])]) rfl rfl rfl 55 (pc := 19) (L := [vA t, vI a1, vI a2, vI a3, vI a4, vI a5]) (S := []) rfl).trans rfl
set_option maxRecDepth 100000 in
theorem C_TM_regions (t : Nat) (g : PG) (u : PM) : call M_TM_regions [vA t] g u =
  bif pW t && pO (pK g t) 11 then (
  cV (call M_TM_findRegions [vA t] g u) (fun (g1 : PG) (u2 : PM) =>
    run M_TM_regions 8 [vA t, vI 0, vI 0, vN] [] g1 u2) noX) else none := (run_bl (m := M_TM_regions) (T := T_TM_regions) (hh := []) (stop := [(8, [true, true, true, false]), (20, [true, true, true, true])]) rfl rfl rfl 47 (pc := 0) (L := [vA t, vN, vN, vN]) (S := []) rfl).trans rfl
set_option maxRecDepth 100000 in
theorem R_TM_regions_8 (t : Nat) (a1 : Int) (a2 : Int) (g : PG) (u : PM) : run M_TM_regions 8 [vA t, vI a1, vI a2, vN] [] g u =
  bif pW t && pO (pK g t) 11 then (
  bif pR (pK g (t + 1)) 0 1 then (
  if a2 < (u (t + 1) 1) then
    run M_TM_regions 20 [vA t, vI a1, vI a2, vI 0] [] g u
  else
    some (0, vI a1, g, u)) else none) else none := (run_bl (m := M_TM_regions) (T := T_TM_regions) (hh := []) (stop := [(8, [true, true, true, false]), (20, [true, true, true, true])]) rfl rfl rfl 47 (pc := 8) (L := [vA t, vI a1, vI a2, vN]) (S := []) rfl).trans rfl
set_option maxRecDepth 100000 in
theorem R_TM_regions_20 (t : Nat) (a1 : Int) (a2 : Int) (a3 : Int) (g : PG) (u : PM) : run M_TM_regions 20 [vA t, vI a1, vI a2, vI a3] [] g u =
  bif pW t && pO (pK g t) 11 then (
  bif pR (pK g (t + 1)) 0 0 then (
  if a3 < (u (t + 1) 0) then
    bif pW t && pO (pK g t) 11 then (
    cI (call M_TM_cell [vA t, vI a3, vI a2] g u) (fun (x3 : Int) (g1 : PG) (u2 : PM) =>
      if x3 = 0 then
        bif pW t && pO (pK g1 t) 11 then (
        cI (call M_TM_at [vI a3, vI a2] g1 u2) (fun (x6 : Int) (g4 : PG) (u5 : PM) =>
          bif pR (pK g4 (t + 11)) 0 x6 then (
          cI (call M_TM_at [vI a3, vI a2] g4 u5) (fun (x9 : Int) (g7 : PG) (u8 : PM) =>
            if (u5 (t + 11) x6) = x9 then
              run M_TM_regions 20 [vA t, vI (w (a1 + 1)), vI a2, vI (w (a3 + 1))] [] g7 u8
            else
              run M_TM_regions 20 [vA t, vI a1, vI a2, vI (w (a3 + 1))] [] g7 u8) noX) else none) noX) else none
      else
        run M_TM_regions 20 [vA t, vI a1, vI a2, vI (w (a3 + 1))] [] g1 u2) noX) else none
  else
    run M_TM_regions 8 [vA t, vI a1, vI (w (a2 + 1)), vN] [] g u) else none) else none := (run_bl (m := M_TM_regions) (T := T_TM_regions) (hh := []) (stop := [(8, [true, true, true, false]), (20, [true, true, true, true])]) rfl rfl rfl 47 (pc := 20) (L := [vA t, vI a1, vI a2, vI a3]) (S := []) rfl).trans rfl
set_option maxRecDepth 100000 in
theorem C_TM_regionCount (t : Nat) (g : PG) (u : PM) : call M_TM_regionCount [vA t] g u =
  bif pW t && pO (pK g t) 11 then (
  cI (call M_TM_regions [vA t] g u) (fun (x3 : Int) (g1 : PG) (u2 : PM) =>
    bif pW t && pO (pK g1 t) 11 then (
    cI (call M_TM_told [vA t, vI x3] g1 u2) (fun (x6 : Int) (g4 : PG) (u5 : PM) =>
      some (0, vI x6, g4, u5)) noX) else none) noX) else none := (run_bl (m := M_TM_regionCount) (T := T_TM_regionCount) (hh := []) (stop := []) rfl rfl rfl 10 (pc := 0) (L := [vA t]) (S := []) rfl).trans rfl
set_option maxRecDepth 100000 in
theorem C_TM_largestRegion (t : Nat) (g : PG) (u : PM) : call M_TM_largestRegion [vA t] g u =
  bif pW t && pO (pK g t) 11 then (
  bif pW t && pO (pK g t) 11 then (
  cV (call M_TM_findRegions [vA t] g (up u t 7 0)) (fun (g1 : PG) (u2 : PM) =>
    run M_TM_largestRegion 13 [vA t, vI 0, vI 0, vN] [] g1 u2) noX) else none) else none := (run_bl (m := M_TM_largestRegion) (T := T_TM_largestRegion) (hh := []) (stop := [(13, [true, true, true, false]), (25, [true, true, true, true])]) rfl rfl rfl 41 (pc := 0) (L := [vA t, vN, vN, vN]) (S := []) rfl).trans rfl
set_option maxRecDepth 100000 in
theorem R_TM_largestRegion_13 (t : Nat) (a1 : Int) (a2 : Int) (g : PG) (u : PM) : run M_TM_largestRegion 13 [vA t, vI a1, vI a2, vN] [] g u =
  bif pW t && pO (pK g t) 11 then (
  bif pR (pK g (t + 1)) 0 1 then (
  if a2 < (u (t + 1) 1) then
    run M_TM_largestRegion 25 [vA t, vI a1, vI a2, vI 0] [] g u
  else
    some (0, vI a1, g, u)) else none) else none := (run_bl (m := M_TM_largestRegion) (T := T_TM_largestRegion) (hh := []) (stop := [(13, [true, true, true, false]), (25, [true, true, true, true])]) rfl rfl rfl 41 (pc := 13) (L := [vA t, vI a1, vI a2, vN]) (S := []) rfl).trans rfl
set_option maxRecDepth 100000 in
theorem R_TM_largestRegion_25 (t : Nat) (a1 : Int) (a2 : Int) (a3 : Int) (g : PG) (u : PM) : run M_TM_largestRegion 25 [vA t, vI a1, vI a2, vI a3] [] g u =
  bif pW t && pO (pK g t) 11 then (
  bif pR (pK g (t + 1)) 0 0 then (
  if a3 < (u (t + 1) 0) then
    bif pW t && pO (pK g t) 11 then (
    cI (call M_TM_sizeAt [vA t, vI a3, vI a2] g u) (fun (x3 : Int) (g1 : PG) (u2 : PM) =>
      run M_TM_largestRegion 25 [vA t, vI (max2 a1 x3), vI a2, vI (w (a3 + 1))] [] g1 u2) noX) else none
  else
    run M_TM_largestRegion 13 [vA t, vI a1, vI (w (a2 + 1)), vN] [] g u) else none) else none := (run_bl (m := M_TM_largestRegion) (T := T_TM_largestRegion) (hh := []) (stop := [(13, [true, true, true, false]), (25, [true, true, true, true])]) rfl rfl rfl 41 (pc := 25) (L := [vA t, vI a1, vI a2, vI a3]) (S := []) rfl).trans rfl
set_option maxRecDepth 100000 in
theorem C_TM_regionSize (t : Nat) (a1 : Int) (a2 : Int) (g : PG) (u : PM) : call M_TM_regionSize [vA t, vI a1, vI a2] g u =
  bif pW t && pO (pK g t) 11 then (
  cI (call M_TM_isInside [vA t, vI a1, vI a2] g u) (fun (x3 : Int) (g1 : PG) (u2 : PM) =>
    if x3 = 0 then
      run M_TM_regionSize 15 [vA t, vI a1, vI a2] [vI 1, vA t] g1 u2
    else
      run M_TM_regionSize 15 [vA t, vI a1, vI a2] [vI 0, vA t] g1 u2) noX) else none := (run_bl (m := M_TM_regionSize) (T := T_TM_regionSize) (hh := []) (stop := [(15, [true, true, true])]) rfl rfl rfl 27 (pc := 0) (L := [vA t, vI a1, vI a2]) (S := []) rfl).trans rfl
set_option maxRecDepth 100000 in
theorem R_TM_regionSize_15 (t : Nat) (a1 : Int) (a2 : Int) (s0 : Int) (s1 : Nat) (g : PG) (u : PM) : run M_TM_regionSize 15 [vA t, vI a1, vI a2] [vI s0, vA s1] g u =
  bif pW s1 && pO (pK g s1) 11 then (
  cI (call M_TM_fails [vA s1, vI s0, vI 0, vI 0] g u) (fun (x3 : Int) (g1 : PG) (u2 : PM) =>
    if x3 = 0 then
      bif pW t && pO (pK g1 t) 11 then (
      cV (call M_TM_findRegions [vA t] g1 u2) (fun (g4 : PG) (u5 : PM) =>
        bif pW t && pO (pK g4 t) 11 then (
        cI (call M_TM_sizeAt [vA t, vI a1, vI a2] g4 u5) (fun (x8 : Int) (g6 : PG) (u7 : PM) =>
          some (0, vI x8, g6, u7)) noX) else none) noX) else none
    else
      some (0, vI 0, g1, u2)) noX) else none := (run_bl (m := M_TM_regionSize) (T := T_TM_regionSize) (hh := []) (stop := [(15, [true, true, true])]) rfl rfl rfl 27 (pc := 15) (L := [vA t, vI a1, vI a2]) (S := [vI s0, vA s1]) rfl).trans rfl
set_option maxRecDepth 100000 in
theorem C_TM_covers (t : Nat) (a1 : Int) (a2 : Int) (g : PG) (u : PM) : call M_TM_covers [vA t, vI a1, vI a2] g u =
  run M_TM_covers 2 [vA t, vI a1, vI a2, vI 0] [] g u := (run_bl (m := M_TM_covers) (T := T_TM_covers) (hh := []) (stop := [(2, [true, true, true, true])]) rfl rfl rfl 29 (pc := 0) (L := [vA t, vI a1, vI a2, vN]) (S := []) rfl).trans rfl
set_option maxRecDepth 100000 in
theorem R_TM_covers_2 (t : Nat) (a1 : Int) (a2 : Int) (a3 : Int) (g : PG) (u : PM) : run M_TM_covers 2 [vA t, vI a1, vI a2, vI a3] [] g u =
  bif pW t && pO (pK g t) 11 then (
  if a3 < (u t 17) then
    bif pW t && pO (pK g t) 11 then (
    bif pR (pK g (t + 9)) 0 a3 then (
    if (u (t + 9) a3) = a1 then
      bif pW t && pO (pK g t) 11 then (
      bif pR (pK g (t + 10)) 0 a3 then (
      if (u (t + 10) a3) = a2 then
        some (0, vI 1, g, u)
      else
        run M_TM_covers 2 [vA t, vI a1, vI a2, vI (w (a3 + 1))] [] g u) else none) else none
    else
      run M_TM_covers 2 [vA t, vI a1, vI a2, vI (w (a3 + 1))] [] g u) else none) else none
  else
    some (0, vI 0, g, u)) else none := (run_bl (m := M_TM_covers) (T := T_TM_covers) (hh := []) (stop := [(2, [true, true, true, true])]) rfl rfl rfl 29 (pc := 2) (L := [vA t, vI a1, vI a2, vI a3]) (S := []) rfl).trans rfl
set_option maxRecDepth 100000 in
theorem C_TM_dead (t : Nat) (a1 : Int) (a2 : Int) (g : PG) (u : PM) : call M_TM_dead [vA t, vI a1, vI a2] g u =
  bif pW t && pO (pK g t) 11 then (
  cI (call M_TM_cell [vA t, vI a1, vI a2] g u) (fun (x3 : Int) (g1 : PG) (u2 : PM) =>
    if x3 = 0 then
      run M_TM_dead 13 [vA t, vI a1, vI a2, vI 0, vN, vN, vN] [] g1 u2
    else
      some (0, vI 0, g1, u2)) noX) else none := (run_bl (m := M_TM_dead) (T := T_TM_dead) (hh := []) (stop := [(13, [true, true, true, true, false, false, false]), (21, [true, true, true, true, true, false, false]), (30, [true, true, true, true, true, true, false]), (44, [true, true, true, true, true, true, true])]) rfl rfl rfl 62 (pc := 0) (L := [vA t, vI a1, vI a2, vN, vN, vN, vN]) (S := []) rfl).trans rfl
set_option maxRecDepth 100000 in
theorem R_TM_dead_13 (t : Nat) (a1 : Int) (a2 : Int) (a3 : Int) (g : PG) (u : PM) : run M_TM_dead 13 [vA t, vI a1, vI a2, vI a3, vN, vN, vN] [] g u =
  if a3 < 5 then
    run M_TM_dead 21 [vA t, vI a1, vI a2, vI a3, vI 0, vN, vN] [] g u
  else
    some (0, vI 1, g, u) := (run_bl (m := M_TM_dead) (T := T_TM_dead) (hh := []) (stop := [(13, [true, true, true, true, false, false, false]), (21, [true, true, true, true, true, false, false]), (30, [true, true, true, true, true, true, false]), (44, [true, true, true, true, true, true, true])]) rfl rfl rfl 62 (pc := 13) (L := [vA t, vI a1, vI a2, vI a3, vN, vN, vN]) (S := []) rfl).trans rfl
set_option maxRecDepth 100000 in
theorem R_TM_dead_21 (t : Nat) (a1 : Int) (a2 : Int) (a3 : Int) (a4 : Int) (g : PG) (u : PM) : run M_TM_dead 21 [vA t, vI a1, vI a2, vI a3, vI a4, vN, vN] [] g u =
  if a4 < 4 then
    run M_TM_dead 30 [vA t, vI a1, vI a2, vI a3, vI a4, vI 0, vN] [] g u
  else
    run M_TM_dead 13 [vA t, vI a1, vI a2, vI (w (a3 + 1)), vN, vN, vN] [] g u := (run_bl (m := M_TM_dead) (T := T_TM_dead) (hh := []) (stop := [(13, [true, true, true, true, false, false, false]), (21, [true, true, true, true, true, false, false]), (30, [true, true, true, true, true, true, false]), (44, [true, true, true, true, true, true, true])]) rfl rfl rfl 62 (pc := 21) (L := [vA t, vI a1, vI a2, vI a3, vI a4, vN, vN]) (S := []) rfl).trans rfl
set_option maxRecDepth 100000 in
theorem R_TM_dead_30 (t : Nat) (a1 : Int) (a2 : Int) (a3 : Int) (a4 : Int) (a5 : Int) (g : PG) (u : PM) : run M_TM_dead 30 [vA t, vI a1, vI a2, vI a3, vI a4, vI a5, vN] [] g u =
  bif pW t && pO (pK g t) 11 then (
  bif pR (pK g (t + 1)) 0 1 then (
  if a5 < (u (t + 1) 1) then
    run M_TM_dead 44 [vA t, vI a1, vI a2, vI a3, vI a4, vI a5, vI 0] [] g u
  else
    run M_TM_dead 21 [vA t, vI a1, vI a2, vI a3, vI (w (a4 + 1)), vN, vN] [] g u) else none) else none := (run_bl (m := M_TM_dead) (T := T_TM_dead) (hh := []) (stop := [(13, [true, true, true, true, false, false, false]), (21, [true, true, true, true, true, false, false]), (30, [true, true, true, true, true, true, false]), (44, [true, true, true, true, true, true, true])]) rfl rfl rfl 62 (pc := 30) (L := [vA t, vI a1, vI a2, vI a3, vI a4, vI a5, vN]) (S := []) rfl).trans rfl
set_option maxRecDepth 100000 in
theorem R_TM_dead_44 (t : Nat) (a1 : Int) (a2 : Int) (a3 : Int) (a4 : Int) (a5 : Int) (a6 : Int) (g : PG) (u : PM) : run M_TM_dead 44 [vA t, vI a1, vI a2, vI a3, vI a4, vI a5, vI a6] [] g u =
  bif pW t && pO (pK g t) 11 then (
  bif pR (pK g (t + 1)) 0 0 then (
  if a6 < (u (t + 1) 0) then
    bif pW t && pO (pK g t) 11 then (
    cI (call M_TM_misfit [vA t, vI a3, vI a4, vI a6, vI a5] g u) (fun (x3 : Int) (g1 : PG) (u2 : PM) =>
      if x3 = 0 then
        bif pW t && pO (pK g1 t) 11 then (
        cI (call M_TM_covers [vA t, vI a1, vI a2] g1 u2) (fun (x6 : Int) (g4 : PG) (u5 : PM) =>
          if x6 = 0 then
            run M_TM_dead 44 [vA t, vI a1, vI a2, vI a3, vI a4, vI a5, vI (w (a6 + 1))] [] g4 u5
          else
            some (0, vI 0, g4, u5)) noX) else none
      else
        run M_TM_dead 44 [vA t, vI a1, vI a2, vI a3, vI a4, vI a5, vI (w (a6 + 1))] [] g1 u2) noX) else none
  else
    run M_TM_dead 30 [vA t, vI a1, vI a2, vI a3, vI a4, vI (w (a5 + 1)), vN] [] g u) else none) else none := (run_bl (m := M_TM_dead) (T := T_TM_dead) (hh := []) (stop := [(13, [true, true, true, true, false, false, false]), (21, [true, true, true, true, true, false, false]), (30, [true, true, true, true, true, true, false]), (44, [true, true, true, true, true, true, true])]) rfl rfl rfl 62 (pc := 44) (L := [vA t, vI a1, vI a2, vI a3, vI a4, vI a5, vI a6]) (S := []) rfl).trans rfl
set_option maxRecDepth 100000 in
theorem C_TM_isDead (t : Nat) (a1 : Int) (a2 : Int) (g : PG) (u : PM) : call M_TM_isDead [vA t, vI a1, vI a2] g u =
  bif pW t && pO (pK g t) 11 then (
  cI (call M_TM_isInside [vA t, vI a1, vI a2] g u) (fun (x3 : Int) (g1 : PG) (u2 : PM) =>
    if x3 = 0 then
      run M_TM_isDead 15 [vA t, vI a1, vI a2] [vI 1, vA t] g1 u2
    else
      run M_TM_isDead 15 [vA t, vI a1, vI a2] [vI 0, vA t] g1 u2) noX) else none := (run_bl (m := M_TM_isDead) (T := T_TM_isDead) (hh := []) (stop := [(15, [true, true, true])]) rfl rfl rfl 27 (pc := 0) (L := [vA t, vI a1, vI a2]) (S := []) rfl).trans rfl
set_option maxRecDepth 100000 in
theorem R_TM_isDead_15 (t : Nat) (a1 : Int) (a2 : Int) (s0 : Int) (s1 : Nat) (g : PG) (u : PM) : run M_TM_isDead 15 [vA t, vI a1, vI a2] [vI s0, vA s1] g u =
  bif pW s1 && pO (pK g s1) 11 then (
  cI (call M_TM_fails [vA s1, vI s0, vI 0, vI 0] g u) (fun (x3 : Int) (g1 : PG) (u2 : PM) =>
    if x3 = 0 then
      bif pW t && pO (pK g1 t) 11 then (
      cI (call M_TM_dead [vA t, vI a1, vI a2] g1 u2) (fun (x6 : Int) (g4 : PG) (u5 : PM) =>
        if x6 = 0 then
          some (0, vI 0, g4, u5)
        else
          some (0, vI 1, g4, u5)) noX) else none
    else
      some (0, vI 0, g1, u2)) noX) else none := (run_bl (m := M_TM_isDead) (T := T_TM_isDead) (hh := []) (stop := [(15, [true, true, true])]) rfl rfl rfl 27 (pc := 15) (L := [vA t, vI a1, vI a2]) (S := [vI s0, vA s1]) rfl).trans rfl
set_option maxRecDepth 100000 in
theorem C_TM_deadCells (t : Nat) (g : PG) (u : PM) : call M_TM_deadCells [vA t] g u =
  bif pW t && pO (pK g t) 11 then (
  run M_TM_deadCells 9 [vA t, vI 0, vI 0, vN] [] g (up u t 7 0)) else none := (run_bl (m := M_TM_deadCells) (T := T_TM_deadCells) (hh := []) (stop := [(9, [true, true, true, false]), (21, [true, true, true, true])]) rfl rfl rfl 38 (pc := 0) (L := [vA t, vN, vN, vN]) (S := []) rfl).trans rfl
set_option maxRecDepth 100000 in
theorem R_TM_deadCells_9 (t : Nat) (a1 : Int) (a2 : Int) (g : PG) (u : PM) : run M_TM_deadCells 9 [vA t, vI a1, vI a2, vN] [] g u =
  bif pW t && pO (pK g t) 11 then (
  bif pR (pK g (t + 1)) 0 1 then (
  if a2 < (u (t + 1) 1) then
    run M_TM_deadCells 21 [vA t, vI a1, vI a2, vI 0] [] g u
  else
    some (0, vI a1, g, u)) else none) else none := (run_bl (m := M_TM_deadCells) (T := T_TM_deadCells) (hh := []) (stop := [(9, [true, true, true, false]), (21, [true, true, true, true])]) rfl rfl rfl 38 (pc := 9) (L := [vA t, vI a1, vI a2, vN]) (S := []) rfl).trans rfl
set_option maxRecDepth 100000 in
theorem R_TM_deadCells_21 (t : Nat) (a1 : Int) (a2 : Int) (a3 : Int) (g : PG) (u : PM) : run M_TM_deadCells 21 [vA t, vI a1, vI a2, vI a3] [] g u =
  bif pW t && pO (pK g t) 11 then (
  bif pR (pK g (t + 1)) 0 0 then (
  if a3 < (u (t + 1) 0) then
    bif pW t && pO (pK g t) 11 then (
    cI (call M_TM_dead [vA t, vI a3, vI a2] g u) (fun (x3 : Int) (g1 : PG) (u2 : PM) =>
      if x3 = 0 then
        run M_TM_deadCells 21 [vA t, vI a1, vI a2, vI (w (a3 + 1))] [] g1 u2
      else
        run M_TM_deadCells 21 [vA t, vI (w (a1 + 1)), vI a2, vI (w (a3 + 1))] [] g1 u2) noX) else none
  else
    run M_TM_deadCells 9 [vA t, vI a1, vI (w (a2 + 1)), vN] [] g u) else none) else none := (run_bl (m := M_TM_deadCells) (T := T_TM_deadCells) (hh := []) (stop := [(9, [true, true, true, false]), (21, [true, true, true, true])]) rfl rfl rfl 38 (pc := 21) (L := [vA t, vI a1, vI a2, vI a3]) (S := []) rfl).trans rfl
set_option maxRecDepth 100000 in
theorem C_TM_crossed (t : Nat) (g : PG) (u : PM) : call M_TM_crossed [vA t] g u =
  run M_TM_crossed 4 [vA t, vI 0, vI 0, vN, vN] [] g u := (run_bl (m := M_TM_crossed) (T := T_TM_crossed) (hh := []) (stop := [(4, [true, true, true, false, false]), (16, [true, true, true, true, false]), (84, [true, true, true, true, true])]) rfl rfl rfl 86 (pc := 0) (L := [vA t, vN, vN, vN, vN]) (S := []) rfl).trans rfl
set_option maxRecDepth 100000 in
theorem R_TM_crossed_4 (t : Nat) (a1 : Int) (a2 : Int) (g : PG) (u : PM) : run M_TM_crossed 4 [vA t, vI a1, vI a2, vN, vN] [] g u =
  bif pW t && pO (pK g t) 11 then (
  bif pR (pK g (t + 1)) 0 1 then (
  if a2 < (u (t + 1) 1) then
    run M_TM_crossed 16 [vA t, vI a1, vI a2, vI 0, vN] [] g u
  else
    some (0, vI a1, g, u)) else none) else none := (run_bl (m := M_TM_crossed) (T := T_TM_crossed) (hh := []) (stop := [(4, [true, true, true, false, false]), (16, [true, true, true, true, false]), (84, [true, true, true, true, true])]) rfl rfl rfl 86 (pc := 4) (L := [vA t, vI a1, vI a2, vN, vN]) (S := []) rfl).trans rfl
set_option maxRecDepth 100000 in
theorem R_TM_crossed_16 (t : Nat) (a1 : Int) (a2 : Int) (a3 : Int) (g : PG) (u : PM) : run M_TM_crossed 16 [vA t, vI a1, vI a2, vI a3, vN] [] g u =
  bif pW t && pO (pK g t) 11 then (
  bif pR (pK g (t + 1)) 0 0 then (
  if a3 < (u (t + 1) 0) then
    bif pW t && pO (pK g t) 11 then (
    cI (call M_TM_pieceOf [vA t, vI a3, vI a2] g u) (fun (x3 : Int) (g1 : PG) (u2 : PM) =>
      if x3 = (-1) then
        run M_TM_crossed 16 [vA t, vI a1, vI a2, vI (w (a3 + 1)), vN] [] g1 u2
      else
        bif pW t && pO (pK g1 t) 11 then (
        cI (call M_TM_isEdge [vA t, vI a3, vI a2, vI 0] g1 u2) (fun (x6 : Int) (g4 : PG) (u5 : PM) =>
          if x6 = 0 then
            run M_TM_crossed 84 [vA t, vI a1, vI a2, vI a3, vI x3] [] g4 u5
          else
            bif pW t && pO (pK g4 t) 11 then (
            cI (call M_TM_edge [vI a3, vI a2, vI 0] g4 u5) (fun (x9 : Int) (g7 : PG) (u8 : PM) =>
              bif pR (pK g7 (t + 1)) 0 x9 then (
              if (u8 (t + 1) x9) = 1 then
                bif pW t && pO (pK g7 t) 11 then (
                cI (call M_TM_pieceOf [vA t, vI (w (a3 + 1)), vI a2] g7 u8) (fun (x12 : Int) (g10 : PG) (u11 : PM) =>
                  if x12 = x3 then
                    run M_TM_crossed 84 [vA t, vI (w (a1 + 1)), vI a2, vI a3, vI x3] [] g10 u11
                  else
                    run M_TM_crossed 84 [vA t, vI a1, vI a2, vI a3, vI x3] [] g10 u11) noX) else none
              else
                run M_TM_crossed 84 [vA t, vI a1, vI a2, vI a3, vI x3] [] g7 u8) else none) noX) else none) noX) else none) noX) else none
  else
    run M_TM_crossed 4 [vA t, vI a1, vI (w (a2 + 1)), vN, vN] [] g u) else none) else none := (run_bl (m := M_TM_crossed) (T := T_TM_crossed) (hh := []) (stop := [(4, [true, true, true, false, false]), (16, [true, true, true, true, false]), (84, [true, true, true, true, true])]) rfl rfl rfl 86 (pc := 16) (L := [vA t, vI a1, vI a2, vI a3, vN]) (S := []) rfl).trans rfl
set_option maxRecDepth 100000 in
theorem R_TM_crossed_84 (t : Nat) (a1 : Int) (a2 : Int) (a3 : Int) (a4 : Int) (g : PG) (u : PM) : run M_TM_crossed 84 [vA t, vI a1, vI a2, vI a3, vI a4] [] g u =
  bif pW t && pO (pK g t) 11 then (
  cI (call M_TM_isEdge [vA t, vI a3, vI a2, vI 1] g u) (fun (x3 : Int) (g1 : PG) (u2 : PM) =>
    if x3 = 0 then
      run M_TM_crossed 16 [vA t, vI a1, vI a2, vI (w (a3 + 1)), vN] [] g1 u2
    else
      bif pW t && pO (pK g1 t) 11 then (
      cI (call M_TM_edge [vI a3, vI a2, vI 1] g1 u2) (fun (x6 : Int) (g4 : PG) (u5 : PM) =>
        bif pR (pK g4 (t + 1)) 0 x6 then (
        if (u5 (t + 1) x6) = 1 then
          bif pW t && pO (pK g4 t) 11 then (
          cI (call M_TM_pieceOf [vA t, vI a3, vI (w (a2 + 1))] g4 u5) (fun (x9 : Int) (g7 : PG) (u8 : PM) =>
            if x9 = a4 then
              run M_TM_crossed 16 [vA t, vI (w (a1 + 1)), vI a2, vI (w (a3 + 1)), vN] [] g7 u8
            else
              run M_TM_crossed 16 [vA t, vI a1, vI a2, vI (w (a3 + 1)), vN] [] g7 u8) noX) else none
        else
          run M_TM_crossed 16 [vA t, vI a1, vI a2, vI (w (a3 + 1)), vN] [] g4 u5) else none) noX) else none) noX) else none := (run_bl (m := M_TM_crossed) (T := T_TM_crossed) (hh := []) (stop := [(4, [true, true, true, false, false]), (16, [true, true, true, true, false]), (84, [true, true, true, true, true])]) rfl rfl rfl 86 (pc := 84) (L := [vA t, vI a1, vI a2, vI a3, vI a4]) (S := []) rfl).trans rfl
set_option maxRecDepth 100000 in
theorem C_TM_inconsistencies (t : Nat) (g : PG) (u : PM) : call M_TM_inconsistencies [vA t] g u =
  bif pW t && pO (pK g t) 11 then (
  run M_TM_inconsistencies 11 [vA t, vI 0, vI 0, vI 0] [] g (up u t 7 0)) else none := (run_bl (m := M_TM_inconsistencies) (T := T_TM_inconsistencies) (hh := []) (stop := [(11, [true, true, true, true])]) rfl rfl rfl 72 (pc := 0) (L := [vA t, vN, vN, vN]) (S := []) rfl).trans rfl
set_option maxRecDepth 100000 in
theorem R_TM_inconsistencies_11 (t : Nat) (a1 : Int) (a2 : Int) (a3 : Int) (g : PG) (u : PM) : run M_TM_inconsistencies 11 [vA t, vI a1, vI a2, vI a3] [] g u =
  bif pW t && pO (pK g t) 11 then (
  bif pR (pK g (t + 1)) 0 4 then (
  if a3 < (u (t + 1) 4) then
    bif pW t && pO (pK g t) 11 then (
    bif pR (pK g (t + 1)) 0 (w ((w (225 + (w (a3 * 6)))) + 5)) then (
    bif pW t && pO (pK g t) 11 then (
    bif pR (pK g (t + 1)) 0 (w ((w (225 + (w (a3 * 6)))) + 0)) then (
    cI (call M_TM_sizeOf [vI (u (t + 1) (w ((w (225 + (w (a3 * 6)))) + 0)))] g u) (fun (x3 : Int) (g1 : PG) (u2 : PM) =>
      run M_TM_inconsistencies 11 [vA t, vI (w (a1 + (u (t + 1) (w ((w (225 + (w (a3 * 6)))) + 5))))), vI (w (a2 + x3)), vI (w (a3 + 1))] [] g1 u2) noX) else none) else none) else none) else none
  else
    bif pW t && pO (pK g t) 11 then (
    cI (call M_TM_of [vA t, vI 0, vI 0] g u) (fun (x6 : Int) (g4 : PG) (u5 : PM) =>
      bif pW t && pO (pK g4 t) 11 then (
      cI (call M_TM_of [vA t, vI 1, vI 0] g4 u5) (fun (x9 : Int) (g7 : PG) (u8 : PM) =>
        bif pW t && pO (pK g7 t) 11 then (
        cI (call M_TM_crossed [vA t] g7 u8) (fun (x12 : Int) (g10 : PG) (u11 : PM) =>
          bif pW t && pO (pK g10 t) 11 then (
          cI (call M_TM_counted [vA t, vI 2] g10 u11) (fun (x15 : Int) (g13 : PG) (u14 : PM) =>
            some (0, vI (w ((w ((abs2 (w ((w (a1 - x6)) - x9))) + x12)) + (abs2 (w (a2 - x15))))), g13, u14)) noX) else none) noX) else none) noX) else none) noX) else none) else none) else none := (run_bl (m := M_TM_inconsistencies) (T := T_TM_inconsistencies) (hh := []) (stop := [(11, [true, true, true, true])]) rfl rfl rfl 72 (pc := 11) (L := [vA t, vI a1, vI a2, vI a3]) (S := []) rfl).trans rfl
set_option maxRecDepth 100000 in
theorem C_TM_coverage (t : Nat) (g : PG) (u : PM) : call M_TM_coverage [vA t] g u =
  bif pW t && pO (pK g t) 11 then (
  bif pW t && pO (pK g t) 11 then (
  bif pR (pK g (t + 1)) 0 0 then (
  bif pW t && pO (pK g t) 11 then (
  bif pR (pK g (t + 1)) 0 1 then (
  bif pW t && pO (pK g t) 11 then (
  cI (call M_TM_counted [vA t, vI 1] g (up u t 7 0)) (fun (x3 : Int) (g1 : PG) (u2 : PM) =>
    if (w ((w (((up u t 7 0) (t + 1) 0) * ((up u t 7 0) (t + 1) 1))) - x3)) = 0 then
      some (0, vD FP.dconst0.toNat, g1, u2)
    else
      bif pW t && pO (pK g1 t) 11 then (
      cI (call M_TM_counted [vA t, vI 2] g1 u2) (fun (x6 : Int) (g4 : PG) (u5 : PM) =>
        bif n64 (FP.ddiv (UInt64.ofNat (i2d2 x6)) (UInt64.ofNat (i2d2 (w ((w (((up u t 7 0) (t + 1) 0) * ((up u t 7 0) (t + 1) 1))) - x3))))) then (
        some (0, vD (ddiv2 (i2d2 x6) (i2d2 (w ((w (((up u t 7 0) (t + 1) 0) * ((up u t 7 0) (t + 1) 1))) - x3)))), g4, u5)) else none) noX) else none) noX) else none) else none) else none) else none) else none) else none := (run_bl (m := M_TM_coverage) (T := T_TM_coverage) (hh := []) (stop := []) rfl rfl rfl 34 (pc := 0) (L := [vA t, vN]) (S := []) rfl).trans rfl
set_option maxRecDepth 100000 in
theorem C_TM_meanRegion (t : Nat) (g : PG) (u : PM) : call M_TM_meanRegion [vA t] g u =
  bif pW t && pO (pK g t) 11 then (
  bif pW t && pO (pK g t) 11 then (
  cI (call M_TM_regions [vA t] g (up u t 7 0)) (fun (x3 : Int) (g1 : PG) (u2 : PM) =>
    if x3 = 0 then
      some (0, vF FP.fconst0.toNat, g1, u2)
    else
      bif pW t && pO (pK g1 t) 11 then (
      cI (call M_TM_allEmpty [vA t] g1 u2) (fun (x6 : Int) (g4 : PG) (u5 : PM) =>
        bif n32 (FP.fdiv (UInt32.ofNat (i2f2 x6)) (UInt32.ofNat (i2f2 x3))) then (
        some (0, vF (fdiv2 (i2f2 x6) (i2f2 x3)), g4, u5)) else none) noX) else none) noX) else none) else none := (run_bl (m := M_TM_meanRegion) (T := T_TM_meanRegion) (hh := []) (stop := []) rfl rfl rfl 22 (pc := 0) (L := [vA t, vN]) (S := []) rfl).trans rfl
set_option maxRecDepth 100000 in
theorem C_TM_out (t : Nat) (a1 : Int) (g : PG) (u : PM) : call M_TM_out [vA t, vI a1] g u =
  bif pW t && pO (pK g t) 11 then (
  bif pW t && pO (pK g t) 11 then (
  bif pW (t + 8) && pR (pK g (t + 8)) 0 (u t 14) then (
  bif pW t && pO (pK g t) 11 then (
  bif pW t && pO (pK g t) 11 then (
  some (0, vN, g, up (up u (t + 8) (u t 14) a1) t 14 (w (((up u (t + 8) (u t 14) a1) t 14) + 1)))) else none) else none) else none) else none) else none := (run_bl (m := M_TM_out) (T := T_TM_out) (hh := []) (stop := []) rfl rfl rfl 18 (pc := 0) (L := [vA t, vI a1]) (S := []) rfl).trans rfl
set_option maxRecDepth 100000 in
theorem C_TM_writeTrunk (t : Nat) (g : PG) (u : PM) : call M_TM_writeTrunk [vA t] g u =
  bif pW t && pO (pK g t) 11 then (
  bif pW t && pO (pK g t) 11 then (
  run M_TM_writeTrunk 12 [vA t, vI 0, vN, vN] [] g (up (up u t 7 0) t 14 0)) else none) else none := (run_bl (m := M_TM_writeTrunk) (T := T_TM_writeTrunk) (hh := []) (stop := [(12, [true, true, false, false]), (34, [true, true, true, false]), (98, [true, true, true, true])]) rfl rfl rfl 71 (pc := 0) (L := [vA t, vN, vN, vN]) (S := []) rfl).trans rfl
set_option maxRecDepth 100000 in
theorem R_TM_writeTrunk_12 (t : Nat) (a1 : Int) (g : PG) (u : PM) : run M_TM_writeTrunk 12 [vA t, vI a1, vN, vN] [] g u =
  bif pW t && pO (pK g t) 11 then (
  bif pR (pK g (t + 1)) 0 1 then (
  if a1 < (u (t + 1) 1) then
    if 0 < a1 then
      bif pW t && pO (pK g t) 11 then (
      cV (call M_TM_out [vA t, vI 10] g u) (fun (g1 : PG) (u2 : PM) =>
        run M_TM_writeTrunk 34 [vA t, vI a1, vI 0, vN] [] g1 u2) noX) else none
    else
      run M_TM_writeTrunk 34 [vA t, vI a1, vI 0, vN] [] g u
  else
    bif pW t && pO (pK g t) 11 then (
    some (0, vI (u t 14), g, u)) else none) else none) else none := (run_bl (m := M_TM_writeTrunk) (T := T_TM_writeTrunk) (hh := []) (stop := [(12, [true, true, false, false]), (34, [true, true, true, false]), (98, [true, true, true, true])]) rfl rfl rfl 71 (pc := 12) (L := [vA t, vI a1, vN, vN]) (S := []) rfl).trans rfl
set_option maxRecDepth 100000 in
theorem R_TM_writeTrunk_34 (t : Nat) (a1 : Int) (a2 : Int) (g : PG) (u : PM) : run M_TM_writeTrunk 34 [vA t, vI a1, vI a2, vN] [] g u =
  bif pW t && pO (pK g t) 11 then (
  bif pR (pK g (t + 1)) 0 0 then (
  if a2 < (u (t + 1) 0) then
    bif pW t && pO (pK g t) 11 then (
    cI (call M_TM_pieceOf [vA t, vI a2, vI a1] g u) (fun (x3 : Int) (g1 : PG) (u2 : PM) =>
      bif pW t && pO (pK g1 t) 11 then (
      cI (call M_TM_cell [vA t, vI a2, vI a1] g1 u2) (fun (x6 : Int) (g4 : PG) (u5 : PM) =>
        if x6 = 0 then
          run M_TM_writeTrunk 98 [vA t, vI a1, vI a2, vI x3] [vI 46, vA t] g4 u5
        else
          bif pW t && pO (pK g4 t) 11 then (
          cI (call M_TM_cell [vA t, vI a2, vI a1] g4 u5) (fun (x9 : Int) (g7 : PG) (u8 : PM) =>
            if x9 = 1 then
              run M_TM_writeTrunk 98 [vA t, vI a1, vI a2, vI x3] [vI 35, vA t] g7 u8
            else
              if x3 < 26 then
                run M_TM_writeTrunk 98 [vA t, vI a1, vI a2, vI x3] [vI (w (97 + x3)), vA t] g7 u8
              else
                run M_TM_writeTrunk 98 [vA t, vI a1, vI a2, vI x3] [vI (w (39 + x3)), vA t] g7 u8) noX) else none) noX) else none) noX) else none
  else
    run M_TM_writeTrunk 12 [vA t, vI (w (a1 + 1)), vN, vN] [] g u) else none) else none := (run_bl (m := M_TM_writeTrunk) (T := T_TM_writeTrunk) (hh := []) (stop := [(12, [true, true, false, false]), (34, [true, true, true, false]), (98, [true, true, true, true])]) rfl rfl rfl 71 (pc := 34) (L := [vA t, vI a1, vI a2, vN]) (S := []) rfl).trans rfl
set_option maxRecDepth 100000 in
theorem R_TM_writeTrunk_98 (t : Nat) (a1 : Int) (a2 : Int) (a3 : Int) (s0 : Int) (s1 : Nat) (g : PG) (u : PM) : run M_TM_writeTrunk 98 [vA t, vI a1, vI a2, vI a3] [vI s0, vA s1] g u =
  bif pW s1 && pO (pK g s1) 11 then (
  cV (call M_TM_out [vA s1, vI s0] g u) (fun (g1 : PG) (u2 : PM) =>
    run M_TM_writeTrunk 34 [vA t, vI a1, vI (w (a2 + 1)), vN] [] g1 u2) noX) else none := (run_bl (m := M_TM_writeTrunk) (T := T_TM_writeTrunk) (hh := []) (stop := [(12, [true, true, false, false]), (34, [true, true, true, false]), (98, [true, true, true, true])]) rfl rfl rfl 71 (pc := 98) (L := [vA t, vI a1, vI a2, vI a3]) (S := [vI s0, vA s1]) rfl).trans rfl
set_option maxRecDepth 100000 in
theorem C_TM_outputByte (t : Nat) (a1 : Int) (g : PG) (u : PM) : call M_TM_outputByte [vA t, vI a1] g u =
  bif pW t && pO (pK g t) 11 then (
  bif pW t && pO (pK g t) 11 then (
  cI (call M_TM_isIn [vI a1, vI 0, vI (w (((up u t 7 0) t 14) - 1))] g (up u t 7 0)) (fun (x3 : Int) (g1 : PG) (u2 : PM) =>
    if x3 = 0 then
      some (0, vI (-1), g1, u2)
    else
      bif pW t && pO (pK g1 t) 11 then (
      bif pR (pK g1 (t + 8)) 0 a1 then (
      some (0, vI (u2 (t + 8) a1), g1, u2)) else none) else none) noX) else none) else none := (run_bl (m := M_TM_outputByte) (T := T_TM_outputByte) (hh := []) (stop := []) rfl rfl rfl 23 (pc := 0) (L := [vA t, vI a1]) (S := []) rfl).trans rfl
