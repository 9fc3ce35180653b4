/-! ===== equations of blocks, by wip/p60/vgen2.py (Fp Pi Pl)_ ===== -/
set_option maxRecDepth 100000 in
theorem C_Fp_turn (t : Nat) (a1 : Int) (a2 : Int) (g : PG) (u : PM) : call M_Fp_turn [vA t, vI a1, vI a2] g u =
  bif pW t && pO (pK g t) 2 then (
  bif pW t && pO (pK g t) 2 then (
  if a1 < 0 then
    run M_Fp_turn 29 [vA t, vI a1, vI a2, vN, vN, vN, vN, vN] [vI 0, vA t] g (up (up u t 0 a1) t 1 a2)
  else
    if a1 < 5 then
      bif pR (pK g 100000) 0 a1 then (
      run M_Fp_turn 29 [vA t, vI a1, vI a2, vN, vN, vN, vN, vN] [vI ((up (up u t 0 a1) t 1 a2) 100000 a1), vA t] g (up (up u t 0 a1) t 1 a2)) else none
    else
      run M_Fp_turn 29 [vA t, vI a1, vI a2, vN, vN, vN, vN, vN] [vI 0, vA t] g (up (up u t 0 a1) t 1 a2)) else none) else none := (run_bl (m := M_Fp_turn) (T := T_Fp_turn) (hh := []) (stop := [(29, [true, true, true, false, false, false, false, false]), (34, [true, true, true, true, false, false, false, false]), (67, [true, true, true, true, true, true, true, false])]) rfl rfl rfl 74 (pc := 0) (L := [vA t, vI a1, vI a2, vN, vN, vN, vN, vN]) (S := []) rfl).trans rfl
set_option maxRecDepth 100000 in
theorem R_Fp_turn_29 (t : Nat) (a1 : Int) (a2 : Int) (s0 : Int) (s1 : Nat) (g : PG) (u : PM) : run M_Fp_turn 29 [vA t, vI a1, vI a2, vN, vN, vN, vN, vN] [vI s0, vA s1] g u =
  bif pW s1 && pO (pK g s1) 2 then (
  run M_Fp_turn 34 [vA t, vI a1, vI a2, vI 0, vN, vN, vN, vN] [] g (up u s1 4 s0)) else none := (run_bl (m := M_Fp_turn) (T := T_Fp_turn) (hh := []) (stop := [(29, [true, true, true, false, false, false, false, false]), (34, [true, true, true, true, false, false, false, false]), (67, [true, true, true, true, true, true, true, false])]) rfl rfl rfl 74 (pc := 29) (L := [vA t, vI a1, vI a2, vN, vN, vN, vN, vN]) (S := [vI s0, vA s1]) rfl).trans rfl
set_option maxRecDepth 100000 in
theorem R_Fp_turn_34 (t : Nat) (a1 : Int) (a2 : Int) (a3 : Int) (g : PG) (u : PM) : run M_Fp_turn 34 [vA t, vI a1, vI a2, vI a3, vN, vN, vN, vN] [] g u =
  bif pW t && pO (pK g t) 2 then (
  if a3 < (u t 4) then
    bif pR (pK g 100001) 0 (w ((w (a1 * 4)) + a3)) then (
    bif pR (pK g 100002) 0 (w ((w (a1 * 4)) + a3)) then (
    run M_Fp_turn 67 [vA t, vI a1, vI a2, vI a3, vI (u 100001 (w ((w (a1 * 4)) + a3))), vI (u 100002 (w ((w (a1 * 4)) + a3))), vI 0, vN] [] g u) else none) else none
  else
    bif pW t && pO (pK g t) 2 then (
    cV (call M_Fp_findEdges [vA t] g u) (fun (g1 : PG) (u2 : PM) =>
      some (0, vN, g1, u2)) noX) else none) else none := (run_bl (m := M_Fp_turn) (T := T_Fp_turn) (hh := []) (stop := [(29, [true, true, true, false, false, false, false, false]), (34, [true, true, true, true, false, false, false, false]), (67, [true, true, true, true, true, true, true, false])]) rfl rfl rfl 74 (pc := 34) (L := [vA t, vI a1, vI a2, vI a3, vN, vN, vN, vN]) (S := []) rfl).trans rfl
set_option maxRecDepth 100000 in
theorem R_Fp_turn_67 (t : Nat) (a1 : Int) (a2 : Int) (a3 : Int) (a4 : Int) (a5 : Int) (a6 : Int) (g : PG) (u : PM) : run M_Fp_turn 67 [vA t, vI a1, vI a2, vI a3, vI a4, vI a5, vI a6, vN] [] g u =
  if a6 < a2 then
    run M_Fp_turn 67 [vA t, vI a1, vI a2, vI a3, vI (w (-a5)), vI a4, vI (w (a6 + 1)), vN] [] g u
  else
    bif pW t && pO (pK g t) 2 then (
    bif pW (t + 1) && pR (pK g (t + 1)) 0 a3 then (
    bif pW t && pO (pK g t) 2 then (
    bif pW (t + 2) && pR (pK g (t + 2)) 0 a3 then (
    run M_Fp_turn 34 [vA t, vI a1, vI a2, vI (w (a3 + 1)), vN, vN, vN, vN] [] g (up (up u (t + 1) a3 a4) (t + 2) a3 a5)) else none) else none) else none) else none := (run_bl (m := M_Fp_turn) (T := T_Fp_turn) (hh := []) (stop := [(29, [true, true, true, false, false, false, false, false]), (34, [true, true, true, true, false, false, false, false]), (67, [true, true, true, true, true, true, true, false])]) rfl rfl rfl 74 (pc := 67) (L := [vA t, vI a1, vI a2, vI a3, vI a4, vI a5, vI a6, vN]) (S := []) rfl).trans rfl
set_option maxRecDepth 100000 in
theorem C_Fp_moveTo (t : Nat) (a1 : Int) (a2 : Int) (g : PG) (u : PM) : call M_Fp_moveTo [vA t, vI a1, vI a2] g u =
  bif pW t && pO (pK g t) 2 then (
  bif pW t && pO (pK g t) 2 then (
  some (0, vN, g, up (up u t 2 a1) t 3 a2)) else none) else none := (run_bl (m := M_Fp_moveTo) (T := T_Fp_moveTo) (hh := []) (stop := []) rfl rfl rfl 12 (pc := 0) (L := [vA t, vI a1, vI a2]) (S := []) rfl).trans rfl
set_option maxRecDepth 100000 in
theorem C_Fp_startAll (t : Nat) (a1 : Int) (g : PG) (u : PM) : call M_Fp_startAll [vA t, vI a1] g u =
  bif pW t && pO (pK g t) 2 then (
  cV (call M_Fp_turn [vA t, vI a1, vI 0] g u) (fun (g1 : PG) (u2 : PM) =>
    bif pW t && pO (pK g1 t) 2 then (
    cV (call M_Fp_moveTo [vA t, vI (-1), vI 0] g1 u2) (fun (g3 : PG) (u4 : PM) =>
      some (0, vN, g3, u4)) noX) else none) noX) else none := (run_bl (m := M_Fp_startAll) (T := T_Fp_startAll) (hh := []) (stop := []) rfl rfl rfl 14 (pc := 0) (L := [vA t, vI a1]) (S := []) rfl).trans rfl
set_option maxRecDepth 100000 in
theorem C_Fp_advance (t : Nat) (a1 : Int) (a2 : Int) (g : PG) (u : PM) : call M_Fp_advance [vA t, vI a1, vI a2] g u =
  bif pW t && pO (pK g t) 2 then (
  bif pW t && pO (pK g t) 2 then (
  bif pW t && pO (pK g t) 2 then (
  if ((up u t 2 (w ((u t 2) + 1))) t 2) < a1 then
    some (0, vI 1, g, up u t 2 (w ((u t 2) + 1)))
  else
    bif pW t && pO (pK g t) 2 then (
    bif pW t && pO (pK g t) 2 then (
    bif pW t && pO (pK g t) 2 then (
    bif pW t && pO (pK g t) 2 then (
    if ((up (up (up u t 2 (w ((u t 2) + 1))) t 2 0) t 3 (w (((up (up u t 2 (w ((u t 2) + 1))) t 2 0) t 3) + 1))) t 3) < a2 then
      some (0, vI 1, g, up (up (up u t 2 (w ((u t 2) + 1))) t 2 0) t 3 (w (((up (up u t 2 (w ((u t 2) + 1))) t 2 0) t 3) + 1)))
    else
      bif pW t && pO (pK g t) 2 then (
      bif pW t && pO (pK g t) 2 then (
      if ((up (up (up (up u t 2 (w ((u t 2) + 1))) t 2 0) t 3 (w (((up (up u t 2 (w ((u t 2) + 1))) t 2 0) t 3) + 1))) t 3 0) t 1) < 3 then
        bif pW t && pO (pK g t) 2 then (
        bif pW t && pO (pK g t) 2 then (
        bif pW t && pO (pK g t) 2 then (
        cV (call M_Fp_turn [vA t, vI ((up (up (up (up u t 2 (w ((u t 2) + 1))) t 2 0) t 3 (w (((up (up u t 2 (w ((u t 2) + 1))) t 2 0) t 3) + 1))) t 3 0) t 0), vI (w (((up (up (up (up u t 2 (w ((u t 2) + 1))) t 2 0) t 3 (w (((up (up u t 2 (w ((u t 2) + 1))) t 2 0) t 3) + 1))) t 3 0) t 1) + 1))] g (up (up (up (up u t 2 (w ((u t 2) + 1))) t 2 0) t 3 (w (((up (up u t 2 (w ((u t 2) + 1))) t 2 0) t 3) + 1))) t 3 0)) (fun (g1 : PG) (u2 : PM) =>
          some (0, vI 1, g1, u2)) noX) else none) else none) else none
      else
        some (0, vI 0, g, up (up (up (up u t 2 (w ((u t 2) + 1))) t 2 0) t 3 (w (((up (up u t 2 (w ((u t 2) + 1))) t 2 0) t 3) + 1))) t 3 0)) else none) else none) else none) else none) else none) else none) else none) else none) else none := (run_bl (m := M_Fp_advance) (T := T_Fp_advance) (hh := []) (stop := []) rfl rfl rfl 51 (pc := 0) (L := [vA t, vI a1, vI a2]) (S := []) rfl).trans rfl
set_option maxRecDepth 100000 in
theorem C_Fp_columnOf (t : Nat) (a1 : Int) (g : PG) (u : PM) : call M_Fp_columnOf [vA t, vI a1] g u =
  if a1 < 0 then
    some (0, vI (-1), g, u)
  else
    if a1 < 4 then
      bif pW t && pO (pK g t) 2 then (
      bif pW t && pO (pK g t) 2 then (
      bif pR (pK g (t + 1)) 0 a1 then (
      some (0, vI (w ((u t 2) + (u (t + 1) a1))), g, u)) else none) else none) else none
    else
      some (0, vI (-1), g, u) := (run_bl (m := M_Fp_columnOf) (T := T_Fp_columnOf) (hh := []) (stop := []) rfl rfl rfl 20 (pc := 0) (L := [vA t, vI a1]) (S := []) rfl).trans rfl
set_option maxRecDepth 100000 in
theorem C_Fp_rowOf (t : Nat) (a1 : Int) (g : PG) (u : PM) : call M_Fp_rowOf [vA t, vI a1] g u =
  if a1 < 0 then
    some (0, vI (-1), g, u)
  else
    if a1 < 4 then
      bif pW t && pO (pK g t) 2 then (
      bif pW t && pO (pK g t) 2 then (
      bif pR (pK g (t + 2)) 0 a1 then (
      some (0, vI (w ((u t 3) + (u (t + 2) a1))), g, u)) else none) else none) else none
    else
      some (0, vI (-1), g, u) := (run_bl (m := M_Fp_rowOf) (T := T_Fp_rowOf) (hh := []) (stop := []) rfl rfl rfl 20 (pc := 0) (L := [vA t, vI a1]) (S := []) rfl).trans rfl
set_option maxRecDepth 100000 in
theorem C_Fp_edgeColumnOf (t : Nat) (a1 : Int) (g : PG) (u : PM) : call M_Fp_edgeColumnOf [vA t, vI a1] g u =
  if a1 < 0 then
    some (0, vI (-1), g, u)
  else
    if a1 < 4 then
      bif pW t && pO (pK g t) 2 then (
      bif pW t && pO (pK g t) 2 then (
      bif pR (pK g (t + 3)) 0 a1 then (
      some (0, vI (w ((u t 2) + (u (t + 3) a1))), g, u)) else none) else none) else none
    else
      some (0, vI (-1), g, u) := (run_bl (m := M_Fp_edgeColumnOf) (T := T_Fp_edgeColumnOf) (hh := []) (stop := []) rfl rfl rfl 20 (pc := 0) (L := [vA t, vI a1]) (S := []) rfl).trans rfl
set_option maxRecDepth 100000 in
theorem C_Fp_edgeRowOf (t : Nat) (a1 : Int) (g : PG) (u : PM) : call M_Fp_edgeRowOf [vA t, vI a1] g u =
  if a1 < 0 then
    some (0, vI (-1), g, u)
  else
    if a1 < 4 then
      bif pW t && pO (pK g t) 2 then (
      bif pW t && pO (pK g t) 2 then (
      bif pR (pK g (t + 4)) 0 a1 then (
      some (0, vI (w ((u t 3) + (u (t + 4) a1))), g, u)) else none) else none) else none
    else
      some (0, vI (-1), g, u) := (run_bl (m := M_Fp_edgeRowOf) (T := T_Fp_edgeRowOf) (hh := []) (stop := []) rfl rfl rfl 20 (pc := 0) (L := [vA t, vI a1]) (S := []) rfl).trans rfl
set_option maxRecDepth 100000 in
theorem C_Fp_sideOf (t : Nat) (a1 : Int) (g : PG) (u : PM) : call M_Fp_sideOf [vA t, vI a1] g u =
  if a1 < 0 then
    some (0, vI (-1), g, u)
  else
    if a1 < 4 then
      bif pW t && pO (pK g t) 2 then (
      bif pR (pK g (t + 5)) 0 a1 then (
      some (0, vI (u (t + 5) a1), g, u)) else none) else none
    else
      some (0, vI (-1), g, u) := (run_bl (m := M_Fp_sideOf) (T := T_Fp_sideOf) (hh := []) (stop := []) rfl rfl rfl 17 (pc := 0) (L := [vA t, vI a1]) (S := []) rfl).trans rfl
set_option maxRecDepth 100000 in
theorem C_Fp_findEdges (t : Nat) (g : PG) (u : PM) : call M_Fp_findEdges [vA t] g u =
  bif pW t && pO (pK g t) 2 then (
  run M_Fp_findEdges 7 [vA t, vI 0, vN, vN, vN] [] g (up u t 5 0)) else none := (run_bl (m := M_Fp_findEdges) (T := T_Fp_findEdges) (hh := []) (stop := [(7, [true, true, false, false, false]), (19, [true, true, true, false, false]), (144, [true, true, true, true, true])]) rfl rfl rfl 102 (pc := 0) (L := [vA t, vN, vN, vN, vN]) (S := []) rfl).trans rfl
set_option maxRecDepth 100000 in
theorem R_Fp_findEdges_7 (t : Nat) (a1 : Int) (g : PG) (u : PM) : run M_Fp_findEdges 7 [vA t, vI a1, vN, vN, vN] [] g u =
  bif pW t && pO (pK g t) 2 then (
  if a1 < (u t 4) then
    run M_Fp_findEdges 19 [vA t, vI a1, vI (w (a1 + 1)), vN, vN] [] g u
  else
    some (0, vN, g, u)) else none := (run_bl (m := M_Fp_findEdges) (T := T_Fp_findEdges) (hh := []) (stop := [(7, [true, true, false, false, false]), (19, [true, true, true, false, false]), (144, [true, true, true, true, true])]) rfl rfl rfl 102 (pc := 7) (L := [vA t, vI a1, vN, vN, vN]) (S := []) rfl).trans rfl
set_option maxRecDepth 100000 in
theorem R_Fp_findEdges_19 (t : Nat) (a1 : Int) (a2 : Int) (g : PG) (u : PM) : run M_Fp_findEdges 19 [vA t, vI a1, vI a2, vN, vN] [] g u =
  bif pW t && pO (pK g t) 2 then (
  if a2 < (u t 4) then
    bif pW t && pO (pK g t) 2 then (
    bif pR (pK g (t + 1)) 0 a1 then (
    bif pW t && pO (pK g t) 2 then (
    bif pR (pK g (t + 1)) 0 a2 then (
    bif pW t && pO (pK g t) 2 then (
    bif pR (pK g (t + 2)) 0 a1 then (
    bif pW t && pO (pK g t) 2 then (
    bif pR (pK g (t + 2)) 0 a2 then (
    if (w ((abs2 (w ((u (t + 1) a1) - (u (t + 1) a2)))) + (abs2 (w ((u (t + 2) a1) - (u (t + 2) a2)))))) = 1 then
      bif pW t && pO (pK g t) 2 then (
      if (u t 5) < 4 then
        bif pW t && pO (pK g t) 2 then (
        bif pW t && pO (pK g t) 2 then (
        bif pW t && pO (pK g t) 2 then (
        bif pR (pK g (t + 1)) 0 a1 then (
        bif pW t && pO (pK g t) 2 then (
        bif pR (pK g (t + 1)) 0 a2 then (
        bif pW (t + 3) && pR (pK g (t + 3)) 0 (u t 5) then (
        bif pW t && pO (pK g t) 2 then (
        bif pW t && pO (pK g t) 2 then (
        bif pW t && pO (pK g t) 2 then (
        bif pR (pK g (t + 2)) 0 a1 then (
        bif pW t && pO (pK g t) 2 then (
        bif pR (pK g (t + 2)) 0 a2 then (
        bif pW (t + 4) && pR (pK g (t + 4)) 0 ((up u (t + 3) (u t 5) (min2 (u (t + 1) a1) (u (t + 1) a2))) t 5) then (
        bif pW t && pO (pK g t) 2 then (
        bif pW t && pO (pK g t) 2 then (
        if (abs2 (w ((u (t + 2) a1) - (u (t + 2) a2)))) = 0 then
          run M_Fp_findEdges 144 [vA t, vI a1, vI a2, vI (abs2 (w ((u (t + 1) a1) - (u (t + 1) a2)))), vI (abs2 (w ((u (t + 2) a1) - (u (t + 2) a2))))] [vI 0, vI ((up (up u (t + 3) (u t 5) (min2 (u (t + 1) a1) (u (t + 1) a2))) (t + 4) ((up u (t + 3) (u t 5) (min2 (u (t + 1) a1) (u (t + 1) a2))) t 5) (min2 ((up u (t + 3) (u t 5) (min2 (u (t + 1) a1) (u (t + 1) a2))) (t + 2) a1) ((up u (t + 3) (u t 5) (min2 (u (t + 1) a1) (u (t + 1) a2))) (t + 2) a2))) t 5), vA (t + 5)] g (up (up u (t + 3) (u t 5) (min2 (u (t + 1) a1) (u (t + 1) a2))) (t + 4) ((up u (t + 3) (u t 5) (min2 (u (t + 1) a1) (u (t + 1) a2))) t 5) (min2 ((up u (t + 3) (u t 5) (min2 (u (t + 1) a1) (u (t + 1) a2))) (t + 2) a1) ((up u (t + 3) (u t 5) (min2 (u (t + 1) a1) (u (t + 1) a2))) (t + 2) a2)))
        else
          run M_Fp_findEdges 144 [vA t, vI a1, vI a2, vI (abs2 (w ((u (t + 1) a1) - (u (t + 1) a2)))), vI (abs2 (w ((u (t + 2) a1) - (u (t + 2) a2))))] [vI 1, vI ((up (up u (t + 3) (u t 5) (min2 (u (t + 1) a1) (u (t + 1) a2))) (t + 4) ((up u (t + 3) (u t 5) (min2 (u (t + 1) a1) (u (t + 1) a2))) t 5) (min2 ((up u (t + 3) (u t 5) (min2 (u (t + 1) a1) (u (t + 1) a2))) (t + 2) a1) ((up u (t + 3) (u t 5) (min2 (u (t + 1) a1) (u (t + 1) a2))) (t + 2) a2))) t 5), vA (t + 5)] g (up (up u (t + 3) (u t 5) (min2 (u (t + 1) a1) (u (t + 1) a2))) (t + 4) ((up u (t + 3) (u t 5) (min2 (u (t + 1) a1) (u (t + 1) a2))) t 5) (min2 ((up u (t + 3) (u t 5) (min2 (u (t + 1) a1) (u (t + 1) a2))) (t + 2) a1) ((up u (t + 3) (u t 5) (min2 (u (t + 1) a1) (u (t + 1) a2))) (t + 2) a2)))) else none) else none) else none) else none) else none) else none) else none) else none) else none) else none) else none) else none) else none) else none) else none) else none
      else
        run M_Fp_findEdges 19 [vA t, vI a1, vI (w (a2 + 1)), vN, vN] [] g u) else none
    else
      run M_Fp_findEdges 19 [vA t, vI a1, vI (w (a2 + 1)), vN, vN] [] g u) else none) else none) else none) else none) else none) else none) else none) else none
  else
    run M_Fp_findEdges 7 [vA t, vI (w (a1 + 1)), vN, vN, vN] [] g u) else none := (run_bl (m := M_Fp_findEdges) (T := T_Fp_findEdges) (hh := []) (stop := [(7, [true, true, false, false, false]), (19, [true, true, true, false, false]), (144, [true, true, true, true, true])]) rfl rfl rfl 102 (pc := 19) (L := [vA t, vI a1, vI a2, vN, vN]) (S := []) rfl).trans rfl
set_option maxRecDepth 100000 in
theorem R_Fp_findEdges_144 (t : Nat) (a1 : Int) (a2 : Int) (a3 : Int) (a4 : Int) (s0 : Int) (s1 : Int) (s2 : Nat) (g : PG) (u : PM) : run M_Fp_findEdges 144 [vA t, vI a1, vI a2, vI a3, vI a4] [vI s0, vI s1, vA s2] g u =
  bif pW s2 && pR (pK g s2) 0 s1 then (
  bif pW t && pO (pK g t) 2 then (
  bif pW t && pO (pK g t) 2 then (
  run M_Fp_findEdges 19 [vA t, vI a1, vI (w (a2 + 1)), vN, vN] [] g (up (up u s2 s1 s0) t 5 (w (((up u s2 s1 s0) t 5) + 1)))) else none) else none) else none := (run_bl (m := M_Fp_findEdges) (T := T_Fp_findEdges) (hh := []) (stop := [(7, [true, true, false, false, false]), (19, [true, true, true, false, false]), (144, [true, true, true, true, true])]) rfl rfl rfl 102 (pc := 144) (L := [vA t, vI a1, vI a2, vI a3, vI a4]) (S := [vI s0, vI s1, vA s2]) rfl).trans rfl
set_option maxRecDepth 100000 in
theorem C_Pi_copyFrom (t : Nat) (p1 : Nat) (g : PG) (u : PM) : call M_Pi_copyFrom [vA t, vA p1] g u =
  bif pW p1 && pO (pK g p1) 4 then (
  bif pW t && pO (pK g t) 4 then (
  bif pW p1 && pO (pK g p1) 4 then (
  bif pW t && pO (pK g t) 4 then (
  bif (pW (t + 1) && pW (p1 + 1)) && pCp (pK g (p1 + 1)) (pK g (t + 1)) 32 0 0 then (
  bif pW p1 && pO (pK g p1) 4 then (
  bif pW t && pO (pK g t) 4 then (
  bif (pW (t + 2) && pW (p1 + 2)) && pCp (pK g (p1 + 2)) (pK g (t + 2)) 32 0 0 then (
  bif pW p1 && pO (pK g p1) 4 then (
  bif pW t && pO (pK g t) 4 then (
  bif (pW (t + 3) && pW (p1 + 3)) && pCp (pK g (p1 + 3)) (pK g (t + 3)) 32 0 0 then (
  bif pW p1 && pO (pK g p1) 4 then (
  bif pW t && pO (pK g t) 4 then (
  bif (pW (t + 4) && pW (p1 + 4)) && pCp (pK g (p1 + 4)) (pK g (t + 4)) 32 0 0 then (
  run M_Pi_copyFrom 68 [vA t, vA p1] [] g (cpy (cpy (cpy (cpy (up u t 0 (u p1 0)) (p1 + 1) (t + 1) 0 0 32) (p1 + 2) (t + 2) 0 0 32) (p1 + 3) (t + 3) 0 0 32) (p1 + 4) (t + 4) 0 0 32)) else none) else none) else none) else none) else none) else none) else none) else none) else none) else none) else none) else none) else none) else none := (run_bl (m := M_Pi_copyFrom) (T := T_Pi_copyFrom) (hh := []) (stop := [(68, [true, true])]) rfl rfl rfl 58 (pc := 0) (L := [vA t, vA p1]) (S := []) rfl).trans rfl
set_option maxRecDepth 100000 in
theorem R_Pi_copyFrom_68 (t : Nat) (p1 : Nat) (g : PG) (u : PM) : run M_Pi_copyFrom 68 [vA t, vA p1] [] g u =
  bif pW p1 && pO (pK g p1) 4 then (
  bif pW t && pO (pK g t) 4 then (
  bif (pW (t + 5) && pW (p1 + 5)) && pCp (pK g (p1 + 5)) (pK g (t + 5)) 32 0 0 then (
  bif pW p1 && pO (pK g p1) 4 then (
  bif pW t && pO (pK g t) 4 then (
  bif (pW (t + 6) && pW (p1 + 6)) && pCp (pK g (p1 + 6)) (pK g (t + 6)) 32 0 0 then (
  some (0, vN, g, cpy (cpy u (p1 + 5) (t + 5) 0 0 32) (p1 + 6) (t + 6) 0 0 32)) else none) else none) else none) else none) else none) else none := (run_bl (m := M_Pi_copyFrom) (T := T_Pi_copyFrom) (hh := []) (stop := [(68, [true, true])]) rfl rfl rfl 58 (pc := 68) (L := [vA t, vA p1]) (S := []) rfl).trans rfl
set_option maxRecDepth 100000 in
theorem C_Pi_add (t : Nat) (p1 : Nat) (a2 : Int) (a3 : Int) (g : PG) (u : PM) : call M_Pi_add [vA t, vA p1, vI a2, vI a3] g u =
  bif pW t && pO (pK g t) 4 then (
  if (u t 0) < 32 then
    bif pW t && pO (pK g t) 4 then (
    bif pW t && pO (pK g t) 4 then (
    bif pW p1 && pO (pK g p1) 2 then (
    bif pW (t + 1) && pR (pK g (t + 1)) 0 (u t 0) then (
    bif pW t && pO (pK g t) 4 then (
    bif pW t && pO (pK g t) 4 then (
    bif pW p1 && pO (pK g p1) 2 then (
    bif pW (t + 2) && pR (pK g (t + 2)) 0 ((up u (t + 1) (u t 0) (u p1 0)) t 0) then (
    bif pW t && pO (pK g t) 4 then (
    bif pW t && pO (pK g t) 4 then (
    bif pW p1 && pO (pK g p1) 2 then (
    bif pW (t + 3) && pR (pK g (t + 3)) 0 ((up (up u (t + 1) (u t 0) (u p1 0)) (t + 2) ((up u (t + 1) (u t 0) (u p1 0)) t 0) ((up u (t + 1) (u t 0) (u p1 0)) p1 1)) t 0) then (
    bif pW t && pO (pK g t) 4 then (
    bif pW t && pO (pK g t) 4 then (
    bif pW p1 && pO (pK g p1) 2 then (
    bif pW (t + 4) && pR (pK g (t + 4)) 0 ((up (up (up u (t + 1) (u t 0) (u p1 0)) (t + 2) ((up u (t + 1) (u t 0) (u p1 0)) t 0) ((up u (t + 1) (u t 0) (u p1 0)) p1 1)) (t + 3) ((up (up u (t + 1) (u t 0) (u p1 0)) (t + 2) ((up u (t + 1) (u t 0) (u p1 0)) t 0) ((up u (t + 1) (u t 0) (u p1 0)) p1 1)) t 0) ((up (up u (t + 1) (u t 0) (u p1 0)) (t + 2) ((up u (t + 1) (u t 0) (u p1 0)) t 0) ((up u (t + 1) (u t 0) (u p1 0)) p1 1)) p1 2)) t 0) then (
    bif pW t && pO (pK g t) 4 then (
    bif pW t && pO (pK g t) 4 then (
    bif pW (t + 5) && pR (pK g (t + 5)) 0 ((up (up (up (up u (t + 1) (u t 0) (u p1 0)) (t + 2) ((up u (t + 1) (u t 0) (u p1 0)) t 0) ((up u (t + 1) (u t 0) (u p1 0)) p1 1)) (t + 3) ((up (up u (t + 1) (u t 0) (u p1 0)) (t + 2) ((up u (t + 1) (u t 0) (u p1 0)) t 0) ((up u (t + 1) (u t 0) (u p1 0)) p1 1)) t 0) ((up (up u (t + 1) (u t 0) (u p1 0)) (t + 2) ((up u (t + 1) (u t 0) (u p1 0)) t 0) ((up u (t + 1) (u t 0) (u p1 0)) p1 1)) p1 2)) (t + 4) ((up (up (up u (t + 1) (u t 0) (u p1 0)) (t + 2) ((up u (t + 1) (u t 0) (u p1 0)) t 0) ((up u (t + 1) (u t 0) (u p1 0)) p1 1)) (t + 3) ((up (up u (t + 1) (u t 0) (u p1 0)) (t + 2) ((up u (t + 1) (u t 0) (u p1 0)) t 0) ((up u (t + 1) (u t 0) (u p1 0)) p1 1)) t 0) ((up (up u (t + 1) (u t 0) (u p1 0)) (t + 2) ((up u (t + 1) (u t 0) (u p1 0)) t 0) ((up u (t + 1) (u t 0) (u p1 0)) p1 1)) p1 2)) t 0) ((up (up (up u (t + 1) (u t 0) (u p1 0)) (t + 2) ((up u (t + 1) (u t 0) (u p1 0)) t 0) ((up u (t + 1) (u t 0) (u p1 0)) p1 1)) (t + 3) ((up (up u (t + 1) (u t 0) (u p1 0)) (t + 2) ((up u (t + 1) (u t 0) (u p1 0)) t 0) ((up u (t + 1) (u t 0) (u p1 0)) p1 1)) t 0) ((up (up u (t + 1) (u t 0) (u p1 0)) (t + 2) ((up u (t + 1) (u t 0) (u p1 0)) t 0) ((up u (t + 1) (u t 0) (u p1 0)) p1 1)) p1 2)) p1 3)) t 0) then (
    run M_Pi_add 71 [vA t, vA p1, vI a2, vI a3] [] g (up (up (up (up (up u (t + 1) (u t 0) (u p1 0)) (t + 2) ((up u (t + 1) (u t 0) (u p1 0)) t 0) ((up u (t + 1) (u t 0) (u p1 0)) p1 1)) (t + 3) ((up (up u (t + 1) (u t 0) (u p1 0)) (t + 2) ((up u (t + 1) (u t 0) (u p1 0)) t 0) ((up u (t + 1) (u t 0) (u p1 0)) p1 1)) t 0) ((up (up u (t + 1) (u t 0) (u p1 0)) (t + 2) ((up u (t + 1) (u t 0) (u p1 0)) t 0) ((up u (t + 1) (u t 0) (u p1 0)) p1 1)) p1 2)) (t + 4) ((up (up (up u (t + 1) (u t 0) (u p1 0)) (t + 2) ((up u (t + 1) (u t 0) (u p1 0)) t 0) ((up u (t + 1) (u t 0) (u p1 0)) p1 1)) (t + 3) ((up (up u (t + 1) (u t 0) (u p1 0)) (t + 2) ((up u (t + 1) (u t 0) (u p1 0)) t 0) ((up u (t + 1) (u t 0) (u p1 0)) p1 1)) t 0) ((up (up u (t + 1) (u t 0) (u p1 0)) (t + 2) ((up u (t + 1) (u t 0) (u p1 0)) t 0) ((up u (t + 1) (u t 0) (u p1 0)) p1 1)) p1 2)) t 0) ((up (up (up u (t + 1) (u t 0) (u p1 0)) (t + 2) ((up u (t + 1) (u t 0) (u p1 0)) t 0) ((up u (t + 1) (u t 0) (u p1 0)) p1 1)) (t + 3) ((up (up u (t + 1) (u t 0) (u p1 0)) (t + 2) ((up u (t + 1) (u t 0) (u p1 0)) t 0) ((up u (t + 1) (u t 0) (u p1 0)) p1 1)) t 0) ((up (up u (t + 1) (u t 0) (u p1 0)) (t + 2) ((up u (t + 1) (u t 0) (u p1 0)) t 0) ((up u (t + 1) (u t 0) (u p1 0)) p1 1)) p1 2)) p1 3)) (t + 5) ((up (up (up (up u (t + 1) (u t 0) (u p1 0)) (t + 2) ((up u (t + 1) (u t 0) (u p1 0)) t 0) ((up u (t + 1) (u t 0) (u p1 0)) p1 1)) (t + 3) ((up (up u (t + 1) (u t 0) (u p1 0)) (t + 2) ((up u (t + 1) (u t 0) (u p1 0)) t 0) ((up u (t + 1) (u t 0) (u p1 0)) p1 1)) t 0) ((up (up u (t + 1) (u t 0) (u p1 0)) (t + 2) ((up u (t + 1) (u t 0) (u p1 0)) t 0) ((up u (t + 1) (u t 0) (u p1 0)) p1 1)) p1 2)) (t + 4) ((up (up (up u (t + 1) (u t 0) (u p1 0)) (t + 2) ((up u (t + 1) (u t 0) (u p1 0)) t 0) ((up u (t + 1) (u t 0) (u p1 0)) p1 1)) (t + 3) ((up (up u (t + 1) (u t 0) (u p1 0)) (t + 2) ((up u (t + 1) (u t 0) (u p1 0)) t 0) ((up u (t + 1) (u t 0) (u p1 0)) p1 1)) t 0) ((up (up u (t + 1) (u t 0) (u p1 0)) (t + 2) ((up u (t + 1) (u t 0) (u p1 0)) t 0) ((up u (t + 1) (u t 0) (u p1 0)) p1 1)) p1 2)) t 0) ((up (up (up u (t + 1) (u t 0) (u p1 0)) (t + 2) ((up u (t + 1) (u t 0) (u p1 0)) t 0) ((up u (t + 1) (u t 0) (u p1 0)) p1 1)) (t + 3) ((up (up u (t + 1) (u t 0) (u p1 0)) (t + 2) ((up u (t + 1) (u t 0) (u p1 0)) t 0) ((up u (t + 1) (u t 0) (u p1 0)) p1 1)) t 0) ((up (up u (t + 1) (u t 0) (u p1 0)) (t + 2) ((up u (t + 1) (u t 0) (u p1 0)) t 0) ((up u (t + 1) (u t 0) (u p1 0)) p1 1)) p1 2)) p1 3)) t 0) a2)) else none) else none) else none) else none) else none) else none) else none) else none) else none) else none) else none) else none) else none) else none) else none) else none) else none) else none) else none
  else
    some (0, vN, g, u)) else none := (run_bl (m := M_Pi_add) (T := T_Pi_add) (hh := []) (stop := [(71, [true, true, true, true])]) rfl rfl rfl 56 (pc := 0) (L := [vA t, vA p1, vI a2, vI a3]) (S := []) rfl).trans rfl
set_option maxRecDepth 100000 in
theorem R_Pi_add_71 (t : Nat) (p1 : Nat) (a2 : Int) (a3 : Int) (g : PG) (u : PM) : run M_Pi_add 71 [vA t, vA p1, vI a2, vI a3] [] g u =
  bif pW t && pO (pK g t) 4 then (
  bif pW t && pO (pK g t) 4 then (
  bif pW (t + 6) && pR (pK g (t + 6)) 0 (u t 0) then (
  bif pW t && pO (pK g t) 4 then (
  bif pW t && pO (pK g t) 4 then (
  some (0, vN, g, up (up u (t + 6) (u t 0) a3) t 0 (w (((up u (t + 6) (u t 0) a3) t 0) + 1)))) else none) else none) else none) else none) else none := (run_bl (m := M_Pi_add) (T := T_Pi_add) (hh := []) (stop := [(71, [true, true, true, true])]) rfl rfl rfl 56 (pc := 71) (L := [vA t, vA p1, vI a2, vI a3]) (S := []) rfl).trans rfl
set_option maxRecDepth 100000 in
theorem C_Pi_has (t : Nat) (a1 : Int) (g : PG) (u : PM) : call M_Pi_has [vA t, vI a1] g u =
  if a1 < 0 then
    some (0, vI 0, g, u)
  else
    bif pW t && pO (pK g t) 4 then (
    if a1 < (u t 0) then
      some (0, vI 1, g, u)
    else
      some (0, vI 0, g, u)) else none := (run_bl (m := M_Pi_has) (T := T_Pi_has) (hh := []) (stop := []) rfl rfl rfl 15 (pc := 0) (L := [vA t, vI a1]) (S := []) rfl).trans rfl
set_option maxRecDepth 100000 in
theorem C_Pi_shapeOf (t : Nat) (a1 : Int) (g : PG) (u : PM) : call M_Pi_shapeOf [vA t, vI a1] g u =
  bif pW t && pO (pK g t) 4 then (
  cI (call M_Pi_has [vA t, vI a1] g u) (fun (x3 : Int) (g1 : PG) (u2 : PM) =>
    if x3 = 0 then
      some (0, vI (-1), g1, u2)
    else
      bif pW t && pO (pK g1 t) 4 then (
      bif pR (pK g1 (t + 1)) 0 a1 then (
      some (0, vI (u2 (t + 1) a1), g1, u2)) else none) else none) noX) else none := (run_bl (m := M_Pi_shapeOf) (T := T_Pi_shapeOf) (hh := []) (stop := []) rfl rfl rfl 16 (pc := 0) (L := [vA t, vI a1]) (S := []) rfl).trans rfl
set_option maxRecDepth 100000 in
theorem C_Pi_rotationOf (t : Nat) (a1 : Int) (g : PG) (u : PM) : call M_Pi_rotationOf [vA t, vI a1] g u =
  bif pW t && pO (pK g t) 4 then (
  cI (call M_Pi_has [vA t, vI a1] g u) (fun (x3 : Int) (g1 : PG) (u2 : PM) =>
    if x3 = 0 then
      some (0, vI (-1), g1, u2)
    else
      bif pW t && pO (pK g1 t) 4 then (
      bif pR (pK g1 (t + 2)) 0 a1 then (
      some (0, vI (u2 (t + 2) a1), g1, u2)) else none) else none) noX) else none := (run_bl (m := M_Pi_rotationOf) (T := T_Pi_rotationOf) (hh := []) (stop := []) rfl rfl rfl 16 (pc := 0) (L := [vA t, vI a1]) (S := []) rfl).trans rfl
set_option maxRecDepth 100000 in
theorem C_Pi_anchorColumnOf (t : Nat) (a1 : Int) (g : PG) (u : PM) : call M_Pi_anchorColumnOf [vA t, vI a1] g u =
  bif pW t && pO (pK g t) 4 then (
  cI (call M_Pi_has [vA t, vI a1] g u) (fun (x3 : Int) (g1 : PG) (u2 : PM) =>
    if x3 = 0 then
      some (0, vI (-1), g1, u2)
    else
      bif pW t && pO (pK g1 t) 4 then (
      bif pR (pK g1 (t + 3)) 0 a1 then (
      some (0, vI (u2 (t + 3) a1), g1, u2)) else none) else none) noX) else none := (run_bl (m := M_Pi_anchorColumnOf) (T := T_Pi_anchorColumnOf) (hh := []) (stop := []) rfl rfl rfl 16 (pc := 0) (L := [vA t, vI a1]) (S := []) rfl).trans rfl
set_option maxRecDepth 100000 in
theorem C_Pi_anchorRowOf (t : Nat) (a1 : Int) (g : PG) (u : PM) : call M_Pi_anchorRowOf [vA t, vI a1] g u =
  bif pW t && pO (pK g t) 4 then (
  cI (call M_Pi_has [vA t, vI a1] g u) (fun (x3 : Int) (g1 : PG) (u2 : PM) =>
    if x3 = 0 then
      some (0, vI (-1), g1, u2)
    else
      bif pW t && pO (pK g1 t) 4 then (
      bif pR (pK g1 (t + 4)) 0 a1 then (
      some (0, vI (u2 (t + 4) a1), g1, u2)) else none) else none) noX) else none := (run_bl (m := M_Pi_anchorRowOf) (T := T_Pi_anchorRowOf) (hh := []) (stop := []) rfl rfl rfl 16 (pc := 0) (L := [vA t, vI a1]) (S := []) rfl).trans rfl
set_option maxRecDepth 100000 in
theorem C_Pi_ownerOf (t : Nat) (a1 : Int) (g : PG) (u : PM) : call M_Pi_ownerOf [vA t, vI a1] g u =
  bif pW t && pO (pK g t) 4 then (
  cI (call M_Pi_has [vA t, vI a1] g u) (fun (x3 : Int) (g1 : PG) (u2 : PM) =>
    if x3 = 0 then
      some (0, vI (-1), g1, u2)
    else
      bif pW t && pO (pK g1 t) 4 then (
      bif pR (pK g1 (t + 5)) 0 a1 then (
      some (0, vI (u2 (t + 5) a1), g1, u2)) else none) else none) noX) else none := (run_bl (m := M_Pi_ownerOf) (T := T_Pi_ownerOf) (hh := []) (stop := []) rfl rfl rfl 16 (pc := 0) (L := [vA t, vI a1]) (S := []) rfl).trans rfl
set_option maxRecDepth 100000 in
theorem C_Pi_pointsOf (t : Nat) (a1 : Int) (g : PG) (u : PM) : call M_Pi_pointsOf [vA t, vI a1] g u =
  bif pW t && pO (pK g t) 4 then (
  cI (call M_Pi_has [vA t, vI a1] g u) (fun (x3 : Int) (g1 : PG) (u2 : PM) =>
    if x3 = 0 then
      some (0, vI (-1), g1, u2)
    else
      bif pW t && pO (pK g1 t) 4 then (
      bif pR (pK g1 (t + 6)) 0 a1 then (
      some (0, vI (u2 (t + 6) a1), g1, u2)) else none) else none) noX) else none := (run_bl (m := M_Pi_pointsOf) (T := T_Pi_pointsOf) (hh := []) (stop := []) rfl rfl rfl 16 (pc := 0) (L := [vA t, vI a1]) (S := []) rfl).trans rfl
set_option maxRecDepth 100000 in
theorem C_Pl_clear (t : Nat) (g : PG) (u : PM) : call M_Pl_clear [vA t] g u =
  bif pW t && pO (pK g t) 5 then (
  bif pW t && pO (pK g t) 5 then (
  bif pW t && pO (pK g t) 5 then (
  run M_Pl_clear 17 [vA t, vI 0] [] g (up (up (up u t 0 0) t 1 0) t 2 0)) else none) else none) else none := (run_bl (m := M_Pl_clear) (T := T_Pl_clear) (hh := []) (stop := [(17, [true, true])]) rfl rfl rfl 27 (pc := 0) (L := [vA t, vN]) (S := []) rfl).trans rfl
set_option maxRecDepth 100000 in
theorem R_Pl_clear_17 (t : Nat) (a1 : Int) (g : PG) (u : PM) : run M_Pl_clear 17 [vA t, vI a1] [] g u =
  if a1 < 5 then
    bif pW t && pO (pK g t) 5 then (
    bif pW (t + 2) && pR (pK g (t + 2)) 0 a1 then (
    run M_Pl_clear 17 [vA t, vI (w (a1 + 1))] [] g (up u (t + 2) a1 0)) else none) else none
  else
    some (0, vN, g, u) := (run_bl (m := M_Pl_clear) (T := T_Pl_clear) (hh := []) (stop := [(17, [true, true])]) rfl rfl rfl 27 (pc := 17) (L := [vA t, vI a1]) (S := []) rfl).trans rfl
set_option maxRecDepth 100000 in
theorem C_Pl_copyFrom (t : Nat) (p1 : Nat) (g : PG) (u : PM) : call M_Pl_copyFrom [vA t, vA p1] g u =
  bif pW p1 && pO (pK g p1) 5 then (
  bif pW t && pO (pK g t) 5 then (
  bif pW p1 && pO (pK g p1) 5 then (
  bif pW t && pO (pK g t) 5 then (
  bif pW p1 && pO (pK g p1) 5 then (
  bif pW t && pO (pK g t) 5 then (
  bif pW p1 && pO (pK g p1) 5 then (
  bif pW t && pO (pK g t) 5 then (
  bif (pW (t + 1) && pW (p1 + 1)) && pCp (pK g (p1 + 1)) (pK g (t + 1)) 6 0 0 then (
  bif pW p1 && pO (pK g p1) 5 then (
  bif pW t && pO (pK g t) 5 then (
  bif (pW (t + 2) && pW (p1 + 2)) && pCp (pK g (p1 + 2)) (pK g (t + 2)) 5 0 0 then (
  run M_Pl_copyFrom 53 [vA t, vA p1] [] g (cpy (cpy (up (up (up u t 0 (u p1 0)) t 1 ((up u t 0 (u p1 0)) p1 1)) t 2 ((up (up u t 0 (u p1 0)) t 1 ((up u t 0 (u p1 0)) p1 1)) p1 2)) (p1 + 1) (t + 1) 0 0 6) (p1 + 2) (t + 2) 0 0 5)) else none) else none) else none) else none) else none) else none) else none) else none) else none) else none) else none) else none := (run_bl (m := M_Pl_copyFrom) (T := T_Pl_copyFrom) (hh := []) (stop := [(53, [true, true])]) rfl rfl rfl 34 (pc := 0) (L := [vA t, vA p1]) (S := []) rfl).trans rfl
set_option maxRecDepth 100000 in
theorem R_Pl_copyFrom_53 (t : Nat) (p1 : Nat) (g : PG) (u : PM) : run M_Pl_copyFrom 53 [vA t, vA p1] [] g u =
  some (0, vN, g, u) := (run_bl (m := M_Pl_copyFrom) (T := T_Pl_copyFrom) (hh := []) (stop := [(53, [true, true])]) rfl rfl rfl 34 (pc := 53) (L := [vA t, vA p1]) (S := []) rfl).trans rfl
set_option maxRecDepth 100000 in
theorem C_Pl_addLetter (t : Nat) (a1 : Int) (g : PG) (u : PM) : call M_Pl_addLetter [vA t, vI a1] g u =
  bif pW t && pO (pK g t) 5 then (
  if (u t 2) < 6 then
    bif pW t && pO (pK g t) 5 then (
    bif pW t && pO (pK g t) 5 then (
    bif pW (t + 1) && pR (pK g (t + 1)) 0 (u t 2) then (
    bif pW t && pO (pK g t) 5 then (
    bif pW t && pO (pK g t) 5 then (
    some (0, vN, g, up (up u (t + 1) (u t 2) a1) t 2 (w (((up u (t + 1) (u t 2) a1) t 2) + 1)))) else none) else none) else none) else none) else none
  else
    some (0, vN, g, u)) else none := (run_bl (m := M_Pl_addLetter) (T := T_Pl_addLetter) (hh := []) (stop := []) rfl rfl rfl 22 (pc := 0) (L := [vA t, vI a1]) (S := []) rfl).trans rfl
set_option maxRecDepth 100000 in
theorem C_Pl_hasNameOf (t : Nat) (p1 : Nat) (g : PG) (u : PM) : call M_Pl_hasNameOf [vA t, vA p1] g u =
  bif pW t && pO (pK g t) 5 then (
  bif pW p1 && pO (pK g p1) 5 then (
  if (u t 2) = (u p1 2) then
    run M_Pl_hasNameOf 15 [vA t, vA p1, vI 0] [] g u
  else
    some (0, vI 0, g, u)) else none) else none := (run_bl (m := M_Pl_hasNameOf) (T := T_Pl_hasNameOf) (hh := []) (stop := [(15, [true, true, true])]) rfl rfl rfl 33 (pc := 0) (L := [vA t, vA p1, vN]) (S := []) rfl).trans rfl
set_option maxRecDepth 100000 in
theorem R_Pl_hasNameOf_15 (t : Nat) (p1 : Nat) (a2 : Int) (g : PG) (u : PM) : run M_Pl_hasNameOf 15 [vA t, vA p1, vI a2] [] g u =
  bif pW t && pO (pK g t) 5 then (
  if a2 < (u t 2) then
    bif pW t && pO (pK g t) 5 then (
    bif pR (pK g (t + 1)) 0 a2 then (
    bif pW p1 && pO (pK g p1) 5 then (
    bif pR (pK g (p1 + 1)) 0 a2 then (
    if (u (t + 1) a2) = (u (p1 + 1) a2) then
      run M_Pl_hasNameOf 15 [vA t, vA p1, vI (w (a2 + 1))] [] g u
    else
      some (0, vI 0, g, u)) else none) else none) else none) else none
  else
    some (0, vI 1, g, u)) else none := (run_bl (m := M_Pl_hasNameOf) (T := T_Pl_hasNameOf) (hh := []) (stop := [(15, [true, true, true])]) rfl rfl rfl 33 (pc := 15) (L := [vA t, vA p1, vI a2]) (S := []) rfl).trans rfl
set_option maxRecDepth 100000 in
theorem C_Pl_supplyOf (t : Nat) (a1 : Int) (g : PG) (u : PM) : call M_Pl_supplyOf [vA t, vI a1] g u =
  if a1 < 0 then
    some (0, vI 0, g, u)
  else
    if a1 < 5 then
      bif pW t && pO (pK g t) 5 then (
      bif pR (pK g (t + 2)) 0 a1 then (
      some (0, vI (u (t + 2) a1), g, u)) else none) else none
    else
      some (0, vI 0, g, u) := (run_bl (m := M_Pl_supplyOf) (T := T_Pl_supplyOf) (hh := []) (stop := []) rfl rfl rfl 17 (pc := 0) (L := [vA t, vI a1]) (S := []) rfl).trans rfl
set_option maxRecDepth 100000 in
theorem C_Pl_setSupply (t : Nat) (a1 : Int) (a2 : Int) (g : PG) (u : PM) : call M_Pl_setSupply [vA t, vI a1, vI a2] g u =
  if a1 < 0 then
    some (0, vN, g, u)
  else
    if a1 < 5 then
      bif pW t && pO (pK g t) 5 then (
      bif pW (t + 2) && pR (pK g (t + 2)) 0 a1 then (
      some (0, vN, g, up u (t + 2) a1 a2)) else none) else none
    else
      some (0, vN, g, u) := (run_bl (m := M_Pl_setSupply) (T := T_Pl_setSupply) (hh := []) (stop := []) rfl rfl rfl 16 (pc := 0) (L := [vA t, vI a1, vI a2]) (S := []) rfl).trans rfl
