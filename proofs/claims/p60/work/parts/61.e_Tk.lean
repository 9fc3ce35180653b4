/-! ===== equations of blocks, by wip/p60/vgen2.py (Tk Ch Cr Rg)_ ===== -/
set_option maxRecDepth 100000 in
theorem C_Ch_search (t : Nat) (p1 : Nat) (p2 : Nat) (g : PG) (u : PM) : call M_Ch_search [vA t, vA p1, vA p2] g u =
  bif pW t && pO (pK g t) 0 then (
  bif pW t && pO (pK g t) 0 then (
  bif pW t && pO (pK g t) 0 then (
  bif pW t && pO (pK g t) 0 then (
  bif pW t && pO (pK g t) 0 then (
  run M_Ch_search 25 [vA t, vA p1, vA p2, vN] [] g (up (up (up (up (up u t 0 (-1)) t 1 (-1)) t 2 (-1)) t 3 (-1)) t 4 (-1))) else none) else none) else none) else none) else none := (run_bl (m := M_Ch_search) (T := T_Ch_search) (hh := []) (stop := [(25, [true, true, true, false]), (35, [true, true, true, true])]) rfl rfl rfl 45 (pc := 0) (L := [vA t, vA p1, vA p2, vN]) (S := []) rfl).trans rfl
set_option maxRecDepth 100000 in
theorem R_Ch_search_25 (t : Nat) (p1 : Nat) (p2 : Nat) (g : PG) (u : PM) : run M_Ch_search 25 [vA t, vA p1, vA p2, vN] [] g u =
  bif pW p1 && pO (pK g p1) 8 then (
  cI (call M_St_isFinished [vA p1] g u) (fun (x3 : Int) (g1 : PG) (u2 : PM) =>
    if x3 = 0 then
      run M_Ch_search 35 [vA t, vA p1, vA p2, vI 0] [] g1 u2
    else
      some (0, vN, g1, u2)) noX) else none := (run_bl (m := M_Ch_search) (T := T_Ch_search) (hh := []) (stop := [(25, [true, true, true, false]), (35, [true, true, true, true])]) rfl rfl rfl 45 (pc := 25) (L := [vA t, vA p1, vA p2, vN]) (S := []) rfl).trans rfl
set_option maxRecDepth 100000 in
theorem R_Ch_search_35 (t : Nat) (p1 : Nat) (p2 : Nat) (a3 : Int) (g : PG) (u : PM) : run M_Ch_search 35 [vA t, vA p1, vA p2, vI a3] [] g u =
  if a3 < 5 then
    bif pW p1 && pO (pK g p1) 8 then (
    bif pW p1 && pO (pK g p1) 8 then (
    cR (call M_St_playerOf [vA p1, vI (u p1 4)] g u) (fun (r3 : Nat) (g1 : PG) (u2 : PM) =>
      bif pW r3 && pO (pK g1 r3) 5 then (
      cI (call M_Pl_supplyOf [vA r3, vI a3] g1 u2) (fun (x6 : Int) (g4 : PG) (u5 : PM) =>
        if 0 < x6 then
          bif pW p1 && pO (pK g4 p1) 8 then (
          bif pW t && pO (pK g4 t) 0 then (
          cV (call M_Ch_searchShape [vA t, vI a3, vA (p1 + 1), vA p2] g4 u5) (fun (g7 : PG) (u8 : PM) =>
            run M_Ch_search 35 [vA t, vA p1, vA p2, vI (w (a3 + 1))] [] g7 u8) noX) else none) else none
        else
          run M_Ch_search 35 [vA t, vA p1, vA p2, vI (w (a3 + 1))] [] g4 u5) noX) else none)) else none) else none
  else
    some (0, vN, g, u) := (run_bl (m := M_Ch_search) (T := T_Ch_search) (hh := []) (stop := [(25, [true, true, true, false]), (35, [true, true, true, true])]) rfl rfl rfl 45 (pc := 35) (L := [vA t, vA p1, vA p2, vI a3]) (S := []) rfl).trans rfl
set_option maxRecDepth 100000 in
theorem C_Ch_searchShape (t : Nat) (a1 : Int) (p2 : Nat) (p3 : Nat) (g : PG) (u : PM) : call M_Ch_searchShape [vA t, vI a1, vA p2, vA p3] g u =
  bif pW p3 && pO (pK g p3) 2 then (
  cV (call M_Fp_startAll [vA p3, vI a1] g u) (fun (g1 : PG) (u2 : PM) =>
    run M_Ch_searchShape 8 [vA t, vI a1, vA p2, vA p3, vI 0] [] g1 u2) noX) else none := (run_bl (m := M_Ch_searchShape) (T := T_Ch_searchShape) (hh := []) (stop := [(8, [true, true, true, true, true])]) rfl rfl rfl 26 (pc := 0) (L := [vA t, vI a1, vA p2, vA p3, vN]) (S := []) rfl).trans rfl
set_option maxRecDepth 100000 in
theorem R_Ch_searchShape_8 (t : Nat) (a1 : Int) (p2 : Nat) (p3 : Nat) (a4 : Int) (g : PG) (u : PM) : run M_Ch_searchShape 8 [vA t, vI a1, vA p2, vA p3, vI a4] [] g u =
  if a4 < 256 then
    bif pW p2 && pO (pK g p2) 9 then (
    cI (call M_Tk_findNext [vA p2, vA p3] g u) (fun (x3 : Int) (g1 : PG) (u2 : PM) =>
      if x3 = 0 then
        some (0, vN, g1, u2)
      else
        bif pW p2 && pO (pK g1 p2) 9 then (
        cI (call M_Tk_pointsOf [vA p2, vA p3] g1 u2) (fun (x6 : Int) (g4 : PG) (u5 : PM) =>
          bif pW t && pO (pK g4 t) 0 then (
          cV (call M_Ch_take [vA t, vA p3, vI x6] g4 u5) (fun (g7 : PG) (u8 : PM) =>
            run M_Ch_searchShape 8 [vA t, vI a1, vA p2, vA p3, vI (w (a4 + 1))] [] g7 u8) noX) else none) noX) else none) noX) else none
  else
    some (0, vN, g, u) := (run_bl (m := M_Ch_searchShape) (T := T_Ch_searchShape) (hh := []) (stop := [(8, [true, true, true, true, true])]) rfl rfl rfl 26 (pc := 8) (L := [vA t, vI a1, vA p2, vA p3, vI a4]) (S := []) rfl).trans rfl
set_option maxRecDepth 100000 in
theorem C_Ch_take (t : Nat) (p1 : Nat) (a2 : Int) (g : PG) (u : PM) : call M_Ch_take [vA t, vA p1, vI a2] g u =
  bif pW t && pO (pK g t) 0 then (
  if (u t 4) < a2 then
    bif pW t && pO (pK g t) 0 then (
    bif pW p1 && pO (pK g p1) 2 then (
    bif pW t && pO (pK g t) 0 then (
    bif pW p1 && pO (pK g p1) 2 then (
    bif pW t && pO (pK g t) 0 then (
    bif pW p1 && pO (pK g p1) 2 then (
    bif pW t && pO (pK g t) 0 then (
    bif pW p1 && pO (pK g p1) 2 then (
    bif pW t && pO (pK g t) 0 then (
    run M_Ch_take 45 [vA t, vA p1, vI a2] [] g (up (up (up (up (up u t 4 a2) t 0 ((up u t 4 a2) p1 0)) t 1 ((up (up u t 4 a2) t 0 ((up u t 4 a2) p1 0)) p1 1)) t 2 ((up (up (up u t 4 a2) t 0 ((up u t 4 a2) p1 0)) t 1 ((up (up u t 4 a2) t 0 ((up u t 4 a2) p1 0)) p1 1)) p1 2)) t 3 ((up (up (up (up u t 4 a2) t 0 ((up u t 4 a2) p1 0)) t 1 ((up (up u t 4 a2) t 0 ((up u t 4 a2) p1 0)) p1 1)) t 2 ((up (up (up u t 4 a2) t 0 ((up u t 4 a2) p1 0)) t 1 ((up (up u t 4 a2) t 0 ((up u t 4 a2) p1 0)) p1 1)) p1 2)) p1 3))) else none) else none) else none) else none) else none) else none) else none) else none) else none
  else
    run M_Ch_take 45 [vA t, vA p1, vI a2] [] g u) else none := (run_bl (m := M_Ch_take) (T := T_Ch_take) (hh := []) (stop := [(45, [true, true, true])]) rfl rfl rfl 29 (pc := 0) (L := [vA t, vA p1, vI a2]) (S := []) rfl).trans rfl
set_option maxRecDepth 100000 in
theorem R_Ch_take_45 (t : Nat) (p1 : Nat) (a2 : Int) (g : PG) (u : PM) : run M_Ch_take 45 [vA t, vA p1, vI a2] [] g u =
  some (0, vN, g, u) := (run_bl (m := M_Ch_take) (T := T_Ch_take) (hh := []) (stop := [(45, [true, true, true])]) rfl rfl rfl 29 (pc := 45) (L := [vA t, vA p1, vI a2]) (S := []) rfl).trans rfl
set_option maxRecDepth 100000 in
theorem C_Cr_mostFor (t : Nat) (p1 : Nat) (p2 : Nat) (p3 : Nat) (g : PG) (u : PM) : call M_Cr_mostFor [vA t, vA p1, vA p2, vA p3] g u =
  run M_Cr_mostFor 3 [vA t, vA p1, vA p2, vA p3, vI 0, vN] [] g u := (run_bl (m := M_Cr_mostFor) (T := T_Cr_mostFor) (hh := []) (stop := [(3, [true, true, true, true, true, false]), (28, [true, true, true, true, true, false]), (63, [true, true, true, true, true, true])]) rfl rfl rfl 51 (pc := 0) (L := [vA t, vA p1, vA p2, vA p3, vN, vN]) (S := []) rfl).trans rfl
set_option maxRecDepth 100000 in
theorem R_Cr_mostFor_3 (t : Nat) (p1 : Nat) (p2 : Nat) (p3 : Nat) (a4 : Int) (g : PG) (u : PM) : run M_Cr_mostFor 3 [vA t, vA p1, vA p2, vA p3, vI a4, vN] [] g u =
  if a4 < 128 then
    bif pW t && pO (pK g t) 1 then (
    bif pW (t + 1) && pR (pK g (t + 1)) 0 a4 then (
    run M_Cr_mostFor 3 [vA t, vA p1, vA p2, vA p3, vI (w (a4 + 1)), vN] [] g (up u (t + 1) a4 0)) else none) else none
  else
    run M_Cr_mostFor 28 [vA t, vA p1, vA p2, vA p3, vI 0, vN] [] g u := (run_bl (m := M_Cr_mostFor) (T := T_Cr_mostFor) (hh := []) (stop := [(3, [true, true, true, true, true, false]), (28, [true, true, true, true, true, false]), (63, [true, true, true, true, true, true])]) rfl rfl rfl 51 (pc := 3) (L := [vA t, vA p1, vA p2, vA p3, vI a4, vN]) (S := []) rfl).trans rfl
set_option maxRecDepth 100000 in
theorem R_Cr_mostFor_28 (t : Nat) (p1 : Nat) (p2 : Nat) (p3 : Nat) (a4 : Int) (g : PG) (u : PM) : run M_Cr_mostFor 28 [vA t, vA p1, vA p2, vA p3, vI a4, vN] [] g u =
  if a4 < 5 then
    bif pW p1 && pO (pK g p1) 5 then (
    cI (call M_Pl_supplyOf [vA p1, vI a4] g u) (fun (x3 : Int) (g1 : PG) (u2 : PM) =>
      if 0 < x3 then
        bif pW t && pO (pK g1 t) 1 then (
        cV (call M_Cr_countShape [vA t, vI a4, vA p2, vA p3] g1 u2) (fun (g4 : PG) (u5 : PM) =>
          run M_Cr_mostFor 28 [vA t, vA p1, vA p2, vA p3, vI (w (a4 + 1)), vN] [] g4 u5) noX) else none
      else
        run M_Cr_mostFor 28 [vA t, vA p1, vA p2, vA p3, vI (w (a4 + 1)), vN] [] g1 u2) noX) else none
  else
    run M_Cr_mostFor 63 [vA t, vA p1, vA p2, vA p3, vI 0, vI 0] [] g u := (run_bl (m := M_Cr_mostFor) (T := T_Cr_mostFor) (hh := []) (stop := [(3, [true, true, true, true, true, false]), (28, [true, true, true, true, true, false]), (63, [true, true, true, true, true, true])]) rfl rfl rfl 51 (pc := 28) (L := [vA t, vA p1, vA p2, vA p3, vI a4, vN]) (S := []) rfl).trans rfl
set_option maxRecDepth 100000 in
theorem R_Cr_mostFor_63 (t : Nat) (p1 : Nat) (p2 : Nat) (p3 : Nat) (a4 : Int) (a5 : Int) (g : PG) (u : PM) : run M_Cr_mostFor 63 [vA t, vA p1, vA p2, vA p3, vI a4, vI a5] [] g u =
  if a5 < 128 then
    bif pW t && pO (pK g t) 1 then (
    bif pR (pK g (t + 1)) 0 a5 then (
    run M_Cr_mostFor 63 [vA t, vA p1, vA p2, vA p3, vI (max2 a4 (u (t + 1) a5)), vI (w (a5 + 1))] [] g u) else none) else none
  else
    some (0, vI a4, g, u) := (run_bl (m := M_Cr_mostFor) (T := T_Cr_mostFor) (hh := []) (stop := [(3, [true, true, true, true, true, false]), (28, [true, true, true, true, true, false]), (63, [true, true, true, true, true, true])]) rfl rfl rfl 51 (pc := 63) (L := [vA t, vA p1, vA p2, vA p3, vI a4, vI a5]) (S := []) rfl).trans rfl
set_option maxRecDepth 100000 in
theorem C_Cr_countShape (t : Nat) (a1 : Int) (p2 : Nat) (p3 : Nat) (g : PG) (u : PM) : call M_Cr_countShape [vA t, vI a1, vA p2, vA p3] g u =
  bif pW p3 && pO (pK g p3) 2 then (
  cV (call M_Fp_startAll [vA p3, vI a1] g u) (fun (g1 : PG) (u2 : PM) =>
    run M_Cr_countShape 8 [vA t, vI a1, vA p2, vA p3, vI 0, vN, vN, vN] [] g1 u2) noX) else none := (run_bl (m := M_Cr_countShape) (T := T_Cr_countShape) (hh := []) (stop := [(8, [true, true, true, true, true, false, false, false]), (27, [true, true, true, true, true, true, false, false])]) rfl rfl rfl 43 (pc := 0) (L := [vA t, vI a1, vA p2, vA p3, vN, vN, vN, vN]) (S := []) rfl).trans rfl
set_option maxRecDepth 100000 in
theorem R_Cr_countShape_8 (t : Nat) (a1 : Int) (p2 : Nat) (p3 : Nat) (a4 : Int) (g : PG) (u : PM) : run M_Cr_countShape 8 [vA t, vI a1, vA p2, vA p3, vI a4, vN, vN, vN] [] g u =
  if a4 < 256 then
    bif pW p2 && pO (pK g p2) 9 then (
    cI (call M_Tk_findNext [vA p2, vA p3] g u) (fun (x3 : Int) (g1 : PG) (u2 : PM) =>
      if x3 = 0 then
        some (0, vN, g1, u2)
      else
        run M_Cr_countShape 27 [vA t, vI a1, vA p2, vA p3, vI a4, vI 0, vN, vN] [] g1 u2) noX) else none
  else
    some (0, vN, g, u) := (run_bl (m := M_Cr_countShape) (T := T_Cr_countShape) (hh := []) (stop := [(8, [true, true, true, true, true, false, false, false]), (27, [true, true, true, true, true, true, false, false])]) rfl rfl rfl 43 (pc := 8) (L := [vA t, vI a1, vA p2, vA p3, vI a4, vN, vN, vN]) (S := []) rfl).trans rfl
set_option maxRecDepth 100000 in
theorem R_Cr_countShape_27 (t : Nat) (a1 : Int) (p2 : Nat) (p3 : Nat) (a4 : Int) (a5 : Int) (g : PG) (u : PM) : run M_Cr_countShape 27 [vA t, vI a1, vA p2, vA p3, vI a4, vI a5, vN, vN] [] g u =
  bif pW p3 && pO (pK g p3) 2 then (
  if a5 < (u p3 5) then
    bif pW p3 && pO (pK g p3) 2 then (
    cI (call M_Fp_edgeColumnOf [vA p3, vI a5] g u) (fun (x3 : Int) (g1 : PG) (u2 : PM) =>
      bif pW p3 && pO (pK g1 p3) 2 then (
      cI (call M_Fp_edgeRowOf [vA p3, vI a5] g1 u2) (fun (x6 : Int) (g4 : PG) (u5 : PM) =>
        bif pW p3 && pO (pK g4 p3) 2 then (
        cI (call M_Fp_sideOf [vA p3, vI a5] g4 u5) (fun (x9 : Int) (g7 : PG) (u8 : PM) =>
          bif pW t && pO (pK g7 t) 1 then (
          cV (call M_Cr_countEdge [vA t, vI x3, vI x6, vI x9] g7 u8) (fun (g10 : PG) (u11 : PM) =>
            run M_Cr_countShape 27 [vA t, vI a1, vA p2, vA p3, vI a4, vI (w (a5 + 1)), vN, vN] [] g10 u11) noX) else none) noX) else none) noX) else none) noX) else none
  else
    run M_Cr_countShape 8 [vA t, vI a1, vA p2, vA p3, vI (w (a4 + 1)), vN, vN, vN] [] g u) else none := (run_bl (m := M_Cr_countShape) (T := T_Cr_countShape) (hh := []) (stop := [(8, [true, true, true, true, true, false, false, false]), (27, [true, true, true, true, true, true, false, false])]) rfl rfl rfl 43 (pc := 27) (L := [vA t, vI a1, vA p2, vA p3, vI a4, vI a5, vN, vN]) (S := []) rfl).trans rfl
set_option maxRecDepth 100000 in
theorem C_Cr_countEdge (t : Nat) (a1 : Int) (a2 : Int) (a3 : Int) (g : PG) (u : PM) : call M_Cr_countEdge [vA t, vI a1, vI a2, vI a3] g u =
  if (w ((w ((w ((w (a2 * 8)) + a1)) * 2)) + a3)) < 0 then
    some (0, vN, g, u)
  else
    if (w ((w ((w ((w (a2 * 8)) + a1)) * 2)) + a3)) < 128 then
      bif pW t && pO (pK g t) 1 then (
      bif pR (pK g (t + 1)) 0 (w ((w ((w ((w (a2 * 8)) + a1)) * 2)) + a3)) then (
      bif pW (t + 1) && pR (pK g (t + 1)) 0 (w ((w ((w ((w (a2 * 8)) + a1)) * 2)) + a3)) then (
      some (0, vN, g, up u (t + 1) (w ((w ((w ((w (a2 * 8)) + a1)) * 2)) + a3)) (w ((u (t + 1) (w ((w ((w ((w (a2 * 8)) + a1)) * 2)) + a3))) + 1)))) else none) else none) else none
    else
      some (0, vN, g, u) := (run_bl (m := M_Cr_countEdge) (T := T_Cr_countEdge) (hh := []) (stop := []) rfl rfl rfl 29 (pc := 0) (L := [vA t, vI a1, vI a2, vI a3, vN]) (S := []) rfl).trans rfl
set_option maxRecDepth 100000 in
theorem C_Rg_survey (t : Nat) (p1 : Nat) (g : PG) (u : PM) : call M_Rg_survey [vA t, vA p1] g u =
  bif pW t && pO (pK g t) 7 then (
  run M_Rg_survey 7 [vA t, vA p1, vI 0, vN] [] g (up u t 0 0)) else none := (run_bl (m := M_Rg_survey) (T := T_Rg_survey) (hh := []) (stop := [(7, [true, true, true, false]), (35, [true, true, true, false]), (45, [true, true, true, true])]) rfl rfl rfl 47 (pc := 0) (L := [vA t, vA p1, vN, vN]) (S := []) rfl).trans rfl
set_option maxRecDepth 100000 in
theorem R_Rg_survey_7 (t : Nat) (p1 : Nat) (a2 : Int) (g : PG) (u : PM) : run M_Rg_survey 7 [vA t, vA p1, vI a2, vN] [] g u =
  if a2 < 64 then
    bif pW t && pO (pK g t) 7 then (
    bif pW (t + 1) && pR (pK g (t + 1)) 0 a2 then (
    bif pW t && pO (pK g t) 7 then (
    bif pW (t + 2) && pR (pK g (t + 2)) 0 a2 then (
    run M_Rg_survey 7 [vA t, vA p1, vI (w (a2 + 1)), vN] [] g (up (up u (t + 1) a2 (-1)) (t + 2) a2 0)) else none) else none) else none) else none
  else
    run M_Rg_survey 35 [vA t, vA p1, vI 0, vN] [] g u := (run_bl (m := M_Rg_survey) (T := T_Rg_survey) (hh := []) (stop := [(7, [true, true, true, false]), (35, [true, true, true, false]), (45, [true, true, true, true])]) rfl rfl rfl 47 (pc := 7) (L := [vA t, vA p1, vI a2, vN]) (S := []) rfl).trans rfl
set_option maxRecDepth 100000 in
theorem R_Rg_survey_35 (t : Nat) (p1 : Nat) (a2 : Int) (g : PG) (u : PM) : run M_Rg_survey 35 [vA t, vA p1, vI a2, vN] [] g u =
  bif pW p1 && pO (pK g p1) 9 then (
  if a2 < (u p1 1) then
    run M_Rg_survey 45 [vA t, vA p1, vI a2, vI 0] [] g u
  else
    some (0, vN, g, u)) else none := (run_bl (m := M_Rg_survey) (T := T_Rg_survey) (hh := []) (stop := [(7, [true, true, true, false]), (35, [true, true, true, false]), (45, [true, true, true, true])]) rfl rfl rfl 47 (pc := 35) (L := [vA t, vA p1, vI a2, vN]) (S := []) rfl).trans rfl
set_option maxRecDepth 100000 in
theorem R_Rg_survey_45 (t : Nat) (p1 : Nat) (a2 : Int) (a3 : Int) (g : PG) (u : PM) : run M_Rg_survey 45 [vA t, vA p1, vI a2, vI a3] [] g u =
  bif pW p1 && pO (pK g p1) 9 then (
  if a3 < (u p1 0) then
    bif pW t && pO (pK g t) 7 then (
    cV (call M_Rg_spreadFrom [vA t, vI a3, vI a2, vA p1] g u) (fun (g1 : PG) (u2 : PM) =>
      run M_Rg_survey 45 [vA t, vA p1, vI a2, vI (w (a3 + 1))] [] g1 u2) noX) else none
  else
    run M_Rg_survey 35 [vA t, vA p1, vI (w (a2 + 1)), vN] [] g u) else none := (run_bl (m := M_Rg_survey) (T := T_Rg_survey) (hh := []) (stop := [(7, [true, true, true, false]), (35, [true, true, true, false]), (45, [true, true, true, true])]) rfl rfl rfl 47 (pc := 45) (L := [vA t, vA p1, vI a2, vI a3]) (S := []) rfl).trans rfl
set_option maxRecDepth 100000 in
theorem C_Rg_sizeOf (t : Nat) (a1 : Int) (g : PG) (u : PM) : call M_Rg_sizeOf [vA t, vI a1] g u =
  if a1 < 0 then
    some (0, vI 0, g, u)
  else
    bif pW t && pO (pK g t) 7 then (
    if a1 < (u t 0) then
      bif pW t && pO (pK g t) 7 then (
      bif pR (pK g (t + 2)) 0 a1 then (
      some (0, vI (u (t + 2) a1), g, u)) else none) else none
    else
      some (0, vI 0, g, u)) else none := (run_bl (m := M_Rg_sizeOf) (T := T_Rg_sizeOf) (hh := []) (stop := []) rfl rfl rfl 18 (pc := 0) (L := [vA t, vI a1]) (S := []) rfl).trans rfl
set_option maxRecDepth 100000 in
theorem C_Rg_sizeAt (t : Nat) (a1 : Int) (a2 : Int) (g : PG) (u : PM) : call M_Rg_sizeAt [vA t, vI a1, vI a2] g u =
  if a1 < 0 then
    some (0, vI 0, g, u)
  else
    if a1 < 8 then
      if a2 < 0 then
        some (0, vI 0, g, u)
      else
        if a2 < 8 then
          bif pW t && pO (pK g t) 7 then (
          bif pR (pK g (t + 1)) 0 (w ((w (a2 * 8)) + a1)) then (
          bif pW t && pO (pK g t) 7 then (
          cI (call M_Rg_sizeOf [vA t, vI (u (t + 1) (w ((w (a2 * 8)) + a1)))] g u) (fun (x3 : Int) (g1 : PG) (u2 : PM) =>
            some (0, vI x3, g1, u2)) noX) else none) else none) else none
        else
          some (0, vI 0, g, u)
    else
      some (0, vI 0, g, u) := (run_bl (m := M_Rg_sizeAt) (T := T_Rg_sizeAt) (hh := []) (stop := []) rfl rfl rfl 28 (pc := 0) (L := [vA t, vI a1, vI a2]) (S := []) rfl).trans rfl
set_option maxRecDepth 100000 in
theorem C_Rg_spreadFrom (t : Nat) (a1 : Int) (a2 : Int) (p3 : Nat) (g : PG) (u : PM) : call M_Rg_spreadFrom [vA t, vI a1, vI a2, vA p3] g u =
  bif pW t && pO (pK g t) 7 then (
  bif pW t && pO (pK g t) 7 then (
  cV (call M_Rg_reach [vA t, vI a1, vI a2, vA p3] g (up u t 4 0)) (fun (g1 : PG) (u2 : PM) =>
    run M_Rg_spreadFrom 15 [vA t, vI a1, vI a2, vA p3, vI 0, vN, vN] [] g1 u2) noX) else none) else none := (run_bl (m := M_Rg_spreadFrom) (T := T_Rg_spreadFrom) (hh := []) (stop := [(15, [true, true, true, true, true, false, false]), (78, [true, true, true, true, true, true, true]), (101, [true, true, true, true, true, true, true]), (126, [true, true, true, true, true, true, true]), (157, [true, true, true, true, true, false, false])]) rfl rfl rfl 115 (pc := 0) (L := [vA t, vI a1, vI a2, vA p3, vN, vN, vN]) (S := []) rfl).trans rfl
set_option maxRecDepth 100000 in
theorem R_Rg_spreadFrom_15 (t : Nat) (a1 : Int) (a2 : Int) (p3 : Nat) (a4 : Int) (g : PG) (u : PM) : run M_Rg_spreadFrom 15 [vA t, vI a1, vI a2, vA p3, vI a4, vN, vN] [] g u =
  bif pW t && pO (pK g t) 7 then (
  if a4 < (u t 4) then
    if a4 < 64 then
      bif pW t && pO (pK g t) 7 then (
      bif pR (pK g (t + 3)) 0 a4 then (
      if 8 = 0 then none else (
      bif pW t && pO (pK g t) 7 then (
      bif pR (pK g (t + 3)) 0 a4 then (
      if 8 = 0 then none else (
      bif pW p3 && pO (pK g p3) 9 then (
      cI (call M_Tk_strapAt [vA p3, vI (rem2 (u (t + 3) a4) 8), vI (div2 (u (t + 3) a4) 8), vI 0] g u) (fun (x3 : Int) (g1 : PG) (u2 : PM) =>
        if x3 = 0 then
          bif pW t && pO (pK g1 t) 7 then (
          cV (call M_Rg_reach [vA t, vI (w ((rem2 (u (t + 3) a4) 8) + 1)), vI (div2 (u (t + 3) a4) 8), vA p3] g1 u2) (fun (g4 : PG) (u5 : PM) =>
            run M_Rg_spreadFrom 78 [vA t, vI a1, vI a2, vA p3, vI a4, vI (rem2 (u (t + 3) a4) 8), vI (div2 (u (t + 3) a4) 8)] [] g4 u5) noX) else none
        else
          run M_Rg_spreadFrom 78 [vA t, vI a1, vI a2, vA p3, vI a4, vI (rem2 (u (t + 3) a4) 8), vI (div2 (u (t + 3) a4) 8)] [] g1 u2) noX) else none)) else none) else none)) else none) else none
    else
      run M_Rg_spreadFrom 157 [vA t, vI a1, vI a2, vA p3, vI a4, vN, vN] [] g u
  else
    run M_Rg_spreadFrom 157 [vA t, vI a1, vI a2, vA p3, vI a4, vN, vN] [] g u) else none := (run_bl (m := M_Rg_spreadFrom) (T := T_Rg_spreadFrom) (hh := []) (stop := [(15, [true, true, true, true, true, false, false]), (78, [true, true, true, true, true, true, true]), (101, [true, true, true, true, true, true, true]), (126, [true, true, true, true, true, true, true]), (157, [true, true, true, true, true, false, false])]) rfl rfl rfl 115 (pc := 15) (L := [vA t, vI a1, vI a2, vA p3, vI a4, vN, vN]) (S := []) rfl).trans rfl
set_option maxRecDepth 100000 in
theorem R_Rg_spreadFrom_78 (t : Nat) (a1 : Int) (a2 : Int) (p3 : Nat) (a4 : Int) (a5 : Int) (a6 : Int) (g : PG) (u : PM) : run M_Rg_spreadFrom 78 [vA t, vI a1, vI a2, vA p3, vI a4, vI a5, vI a6] [] g u =
  bif pW p3 && pO (pK g p3) 9 then (
  cI (call M_Tk_strapAt [vA p3, vI a5, vI a6, vI 1] g u) (fun (x3 : Int) (g1 : PG) (u2 : PM) =>
    if x3 = 0 then
      bif pW t && pO (pK g1 t) 7 then (
      cV (call M_Rg_reach [vA t, vI a5, vI (w (a6 + 1)), vA p3] g1 u2) (fun (g4 : PG) (u5 : PM) =>
        run M_Rg_spreadFrom 101 [vA t, vI a1, vI a2, vA p3, vI a4, vI a5, vI a6] [] g4 u5) noX) else none
    else
      run M_Rg_spreadFrom 101 [vA t, vI a1, vI a2, vA p3, vI a4, vI a5, vI a6] [] g1 u2) noX) else none := (run_bl (m := M_Rg_spreadFrom) (T := T_Rg_spreadFrom) (hh := []) (stop := [(15, [true, true, true, true, true, false, false]), (78, [true, true, true, true, true, true, true]), (101, [true, true, true, true, true, true, true]), (126, [true, true, true, true, true, true, true]), (157, [true, true, true, true, true, false, false])]) rfl rfl rfl 115 (pc := 78) (L := [vA t, vI a1, vI a2, vA p3, vI a4, vI a5, vI a6]) (S := []) rfl).trans rfl
set_option maxRecDepth 100000 in
theorem R_Rg_spreadFrom_101 (t : Nat) (a1 : Int) (a2 : Int) (p3 : Nat) (a4 : Int) (a5 : Int) (a6 : Int) (g : PG) (u : PM) : run M_Rg_spreadFrom 101 [vA t, vI a1, vI a2, vA p3, vI a4, vI a5, vI a6] [] g u =
  bif pW p3 && pO (pK g p3) 9 then (
  cI (call M_Tk_strapAt [vA p3, vI (w (a5 - 1)), vI a6, vI 0] g u) (fun (x3 : Int) (g1 : PG) (u2 : PM) =>
    if x3 = 0 then
      bif pW t && pO (pK g1 t) 7 then (
      cV (call M_Rg_reach [vA t, vI (w (a5 - 1)), vI a6, vA p3] g1 u2) (fun (g4 : PG) (u5 : PM) =>
        run M_Rg_spreadFrom 126 [vA t, vI a1, vI a2, vA p3, vI a4, vI a5, vI a6] [] g4 u5) noX) else none
    else
      run M_Rg_spreadFrom 126 [vA t, vI a1, vI a2, vA p3, vI a4, vI a5, vI a6] [] g1 u2) noX) else none := (run_bl (m := M_Rg_spreadFrom) (T := T_Rg_spreadFrom) (hh := []) (stop := [(15, [true, true, true, true, true, false, false]), (78, [true, true, true, true, true, true, true]), (101, [true, true, true, true, true, true, true]), (126, [true, true, true, true, true, true, true]), (157, [true, true, true, true, true, false, false])]) rfl rfl rfl 115 (pc := 101) (L := [vA t, vI a1, vI a2, vA p3, vI a4, vI a5, vI a6]) (S := []) rfl).trans rfl
set_option maxRecDepth 100000 in
theorem R_Rg_spreadFrom_126 (t : Nat) (a1 : Int) (a2 : Int) (p3 : Nat) (a4 : Int) (a5 : Int) (a6 : Int) (g : PG) (u : PM) : run M_Rg_spreadFrom 126 [vA t, vI a1, vI a2, vA p3, vI a4, vI a5, vI a6] [] g u =
  bif pW p3 && pO (pK g p3) 9 then (
  cI (call M_Tk_strapAt [vA p3, vI a5, vI (w (a6 - 1)), vI 1] g u) (fun (x3 : Int) (g1 : PG) (u2 : PM) =>
    if x3 = 0 then
      bif pW t && pO (pK g1 t) 7 then (
      cV (call M_Rg_reach [vA t, vI a5, vI (w (a6 - 1)), vA p3] g1 u2) (fun (g4 : PG) (u5 : PM) =>
        run M_Rg_spreadFrom 15 [vA t, vI a1, vI a2, vA p3, vI (w (a4 + 1)), vN, vN] [] g4 u5) noX) else none
    else
      run M_Rg_spreadFrom 15 [vA t, vI a1, vI a2, vA p3, vI (w (a4 + 1)), vN, vN] [] g1 u2) noX) else none := (run_bl (m := M_Rg_spreadFrom) (T := T_Rg_spreadFrom) (hh := []) (stop := [(15, [true, true, true, true, true, false, false]), (78, [true, true, true, true, true, true, true]), (101, [true, true, true, true, true, true, true]), (126, [true, true, true, true, true, true, true]), (157, [true, true, true, true, true, false, false])]) rfl rfl rfl 115 (pc := 126) (L := [vA t, vI a1, vI a2, vA p3, vI a4, vI a5, vI a6]) (S := []) rfl).trans rfl
set_option maxRecDepth 100000 in
theorem R_Rg_spreadFrom_157 (t : Nat) (a1 : Int) (a2 : Int) (p3 : Nat) (a4 : Int) (g : PG) (u : PM) : run M_Rg_spreadFrom 157 [vA t, vI a1, vI a2, vA p3, vI a4, vN, vN] [] g u =
  bif pW t && pO (pK g t) 7 then (
  if 0 < (u t 4) then
    bif pW t && pO (pK g t) 7 then (
    if (u t 0) < 64 then
      bif pW t && pO (pK g t) 7 then (
      bif pW t && pO (pK g t) 7 then (
      bif pW t && pO (pK g t) 7 then (
      bif pW (t + 2) && pR (pK g (t + 2)) 0 (u t 0) then (
      bif pW t && pO (pK g t) 7 then (
      bif pW t && pO (pK g t) 7 then (
      some (0, vN, g, up (up u (t + 2) (u t 0) (u t 4)) t 0 (w (((up u (t + 2) (u t 0) (u t 4)) t 0) + 1)))) else none) else none) else none) else none) else none) else none
    else
      some (0, vN, g, u)) else none
  else
    some (0, vN, g, u)) else none := (run_bl (m := M_Rg_spreadFrom) (T := T_Rg_spreadFrom) (hh := []) (stop := [(15, [true, true, true, true, true, false, false]), (78, [true, true, true, true, true, true, true]), (101, [true, true, true, true, true, true, true]), (126, [true, true, true, true, true, true, true]), (157, [true, true, true, true, true, false, false])]) rfl rfl rfl 115 (pc := 157) (L := [vA t, vI a1, vI a2, vA p3, vI a4, vN, vN]) (S := []) rfl).trans rfl
set_option maxRecDepth 100000 in
theorem C_Rg_reach (t : Nat) (a1 : Int) (a2 : Int) (p3 : Nat) (g : PG) (u : PM) : call M_Rg_reach [vA t, vI a1, vI a2, vA p3] g u =
  bif pW p3 && pO (pK g p3) 9 then (
  cI (call M_Tk_cellAt [vA p3, vI a1, vI a2] g u) (fun (x3 : Int) (g1 : PG) (u2 : PM) =>
    if x3 = (-1) then
      bif pW t && pO (pK g1 t) 7 then (
      if (u2 t 4) < 64 then
        if (w ((w (a2 * 8)) + a1)) < 0 then
          some (0, vN, g1, u2)
        else
          if (w ((w (a2 * 8)) + a1)) < 64 then
            bif pW t && pO (pK g1 t) 7 then (
            bif pR (pK g1 (t + 1)) 0 (w ((w (a2 * 8)) + a1)) then (
            if (u2 (t + 1) (w ((w (a2 * 8)) + a1))) = (-1) then
              bif pW t && pO (pK g1 t) 7 then (
              bif pW t && pO (pK g1 t) 7 then (
              bif pW (t + 1) && pR (pK g1 (t + 1)) 0 (w ((w (a2 * 8)) + a1)) then (
              bif pW t && pO (pK g1 t) 7 then (
              bif pW t && pO (pK g1 t) 7 then (
              bif pW (t + 3) && pR (pK g1 (t + 3)) 0 ((up u2 (t + 1) (w ((w (a2 * 8)) + a1)) (u2 t 0)) t 4) then (
              bif pW t && pO (pK g1 t) 7 then (
              bif pW t && pO (pK g1 t) 7 then (
              some (0, vN, g1, up (up (up u2 (t + 1) (w ((w (a2 * 8)) + a1)) (u2 t 0)) (t + 3) ((up u2 (t + 1) (w ((w (a2 * 8)) + a1)) (u2 t 0)) t 4) (w ((w (a2 * 8)) + a1))) t 4 (w (((up (up u2 (t + 1) (w ((w (a2 * 8)) + a1)) (u2 t 0)) (t + 3) ((up u2 (t + 1) (w ((w (a2 * 8)) + a1)) (u2 t 0)) t 4) (w ((w (a2 * 8)) + a1))) t 4) + 1)))) else none) else none) else none) else none) else none) else none) else none) else none
            else
              some (0, vN, g1, u2)) else none) else none
          else
            some (0, vN, g1, u2)
      else
        some (0, vN, g1, u2)) else none
    else
      some (0, vN, g1, u2)) noX) else none := (run_bl (m := M_Rg_reach) (T := T_Rg_reach) (hh := []) (stop := []) rfl rfl rfl 52 (pc := 0) (L := [vA t, vI a1, vI a2, vA p3, vN]) (S := []) rfl).trans rfl
set_option maxRecDepth 100000 in
theorem C_Tk_clear (t : Nat) (a1 : Int) (a2 : Int) (g : PG) (u : PM) : call M_Tk_clear [vA t, vI a1, vI a2] g u =
  bif pW t && pO (pK g t) 9 then (
  bif pW t && pO (pK g t) 9 then (
  run M_Tk_clear 22 [vA t, vI a1, vI a2, vI 0] [] g (up (up u t 0 (min2 a1 8)) t 1 (min2 a2 8))) else none) else none := (run_bl (m := M_Tk_clear) (T := T_Tk_clear) (hh := []) (stop := [(22, [true, true, true, true]), (43, [true, true, true, true])]) rfl rfl rfl 40 (pc := 0) (L := [vA t, vI a1, vI a2, vN]) (S := []) rfl).trans rfl
set_option maxRecDepth 100000 in
theorem R_Tk_clear_22 (t : Nat) (a1 : Int) (a2 : Int) (a3 : Int) (g : PG) (u : PM) : run M_Tk_clear 22 [vA t, vI a1, vI a2, vI a3] [] g u =
  if a3 < 64 then
    bif pW t && pO (pK g t) 9 then (
    bif pW (t + 1) && pR (pK g (t + 1)) 0 a3 then (
    run M_Tk_clear 22 [vA t, vI a1, vI a2, vI (w (a3 + 1))] [] g (up u (t + 1) a3 (-1))) else none) else none
  else
    run M_Tk_clear 43 [vA t, vI a1, vI a2, vI 0] [] g u := (run_bl (m := M_Tk_clear) (T := T_Tk_clear) (hh := []) (stop := [(22, [true, true, true, true]), (43, [true, true, true, true])]) rfl rfl rfl 40 (pc := 22) (L := [vA t, vI a1, vI a2, vI a3]) (S := []) rfl).trans rfl
set_option maxRecDepth 100000 in
theorem R_Tk_clear_43 (t : Nat) (a1 : Int) (a2 : Int) (a3 : Int) (g : PG) (u : PM) : run M_Tk_clear 43 [vA t, vI a1, vI a2, vI a3] [] g u =
  if a3 < 128 then
    bif pW t && pO (pK g t) 9 then (
    bif pW (t + 2) && pR (pK g (t + 2)) 1 a3 then (
    bif b01 0 then (
    run M_Tk_clear 43 [vA t, vI a1, vI a2, vI (w (a3 + 1))] [] g (up u (t + 2) a3 0)) else none) else none) else none
  else
    some (0, vN, g, u) := (run_bl (m := M_Tk_clear) (T := T_Tk_clear) (hh := []) (stop := [(22, [true, true, true, true]), (43, [true, true, true, true])]) rfl rfl rfl 40 (pc := 43) (L := [vA t, vI a1, vI a2, vI a3]) (S := []) rfl).trans rfl
set_option maxRecDepth 100000 in
theorem C_Tk_copyFrom (t : Nat) (p1 : Nat) (g : PG) (u : PM) : call M_Tk_copyFrom [vA t, vA p1] g u =
  bif pW p1 && pO (pK g p1) 9 then (
  bif pW t && pO (pK g t) 9 then (
  bif pW p1 && pO (pK g p1) 9 then (
  bif pW t && pO (pK g t) 9 then (
  bif pW p1 && pO (pK g p1) 9 then (
  bif pW t && pO (pK g t) 9 then (
  bif (pW (t + 1) && pW (p1 + 1)) && pCp (pK g (p1 + 1)) (pK g (t + 1)) 64 0 0 then (
  bif pW p1 && pO (pK g p1) 9 then (
  bif pW t && pO (pK g t) 9 then (
  bif (pW (t + 2) && pW (p1 + 2)) && pCp (pK g (p1 + 2)) (pK g (t + 2)) 128 0 0 then (
  some (0, vN, g, cpy (cpy (up (up u t 0 (u p1 0)) t 1 ((up u t 0 (u p1 0)) p1 1)) (p1 + 1) (t + 1) 0 0 64) (p1 + 2) (t + 2) 0 0 128)) else none) else none) else none) else none) else none) else none) else none) else none) else none) else none := (run_bl (m := M_Tk_copyFrom) (T := T_Tk_copyFrom) (hh := []) (stop := []) rfl rfl rfl 30 (pc := 0) (L := [vA t, vA p1]) (S := []) rfl).trans rfl
set_option maxRecDepth 100000 in
theorem C_Tk_holds (t : Nat) (a1 : Int) (a2 : Int) (g : PG) (u : PM) : call M_Tk_holds [vA t, vI a1, vI a2] g u =
  if a1 < 0 then
    some (0, vI 0, g, u)
  else
    bif pW t && pO (pK g t) 9 then (
    if a1 < (u t 0) then
      if a2 < 0 then
        some (0, vI 0, g, u)
      else
        bif pW t && pO (pK g t) 9 then (
        if a2 < (u t 1) then
          some (0, vI 1, g, u)
        else
          some (0, vI 0, g, u)) else none
    else
      some (0, vI 0, g, u)) else none := (run_bl (m := M_Tk_holds) (T := T_Tk_holds) (hh := []) (stop := []) rfl rfl rfl 21 (pc := 0) (L := [vA t, vI a1, vI a2]) (S := []) rfl).trans rfl
set_option maxRecDepth 100000 in
theorem C_Tk_holdsEdge (t : Nat) (a1 : Int) (a2 : Int) (a3 : Int) (g : PG) (u : PM) : call M_Tk_holdsEdge [vA t, vI a1, vI a2, vI a3] g u =
  bif pW t && pO (pK g t) 9 then (
  cI (call M_Tk_holds [vA t, vI a1, vI a2] g u) (fun (x3 : Int) (g1 : PG) (u2 : PM) =>
    if x3 = 0 then
      some (0, vI 0, g1, u2)
    else
      if a3 = 0 then
        bif pW t && pO (pK g1 t) 9 then (
        if a1 < (w ((u2 t 0) - 1)) then
          some (0, vI 1, g1, u2)
        else
          some (0, vI 0, g1, u2)) else none
      else
        bif pW t && pO (pK g1 t) 9 then (
        if a2 < (w ((u2 t 1) - 1)) then
          some (0, vI 1, g1, u2)
        else
          some (0, vI 0, g1, u2)) else none) noX) else none := (run_bl (m := M_Tk_holdsEdge) (T := T_Tk_holdsEdge) (hh := []) (stop := []) rfl rfl rfl 34 (pc := 0) (L := [vA t, vI a1, vI a2, vI a3]) (S := []) rfl).trans rfl
set_option maxRecDepth 100000 in
theorem C_Tk_cellAt (t : Nat) (a1 : Int) (a2 : Int) (g : PG) (u : PM) : call M_Tk_cellAt [vA t, vI a1, vI a2] g u =
  if a1 < 0 then
    some (0, vI (-3), g, u)
  else
    bif pW t && pO (pK g t) 9 then (
    if a1 < (u t 0) then
      if a2 < 0 then
        some (0, vI (-3), g, u)
      else
        bif pW t && pO (pK g t) 9 then (
        if a2 < (u t 1) then
          bif pW t && pO (pK g t) 9 then (
          bif pR (pK g (t + 1)) 0 (w ((w (a2 * 8)) + a1)) then (
          some (0, vI (u (t + 1) (w ((w (a2 * 8)) + a1))), g, u)) else none) else none
        else
          some (0, vI (-3), g, u)) else none
    else
      some (0, vI (-3), g, u)) else none := (run_bl (m := M_Tk_cellAt) (T := T_Tk_cellAt) (hh := []) (stop := []) rfl rfl rfl 28 (pc := 0) (L := [vA t, vI a1, vI a2]) (S := []) rfl).trans rfl
set_option maxRecDepth 100000 in
theorem C_Tk_setCell (t : Nat) (a1 : Int) (a2 : Int) (a3 : Int) (g : PG) (u : PM) : call M_Tk_setCell [vA t, vI a1, vI a2, vI a3] g u =
  bif pW t && pO (pK g t) 9 then (
  cI (call M_Tk_holds [vA t, vI a1, vI a2] g u) (fun (x3 : Int) (g1 : PG) (u2 : PM) =>
    if x3 = 0 then
      some (0, vN, g1, u2)
    else
      bif pW t && pO (pK g1 t) 9 then (
      bif pW (t + 1) && pR (pK g1 (t + 1)) 0 (w ((w (a2 * 8)) + a1)) then (
      some (0, vN, g1, up u2 (t + 1) (w ((w (a2 * 8)) + a1)) a3)) else none) else none) noX) else none := (run_bl (m := M_Tk_setCell) (T := T_Tk_setCell) (hh := []) (stop := []) rfl rfl rfl 20 (pc := 0) (L := [vA t, vI a1, vI a2, vI a3]) (S := []) rfl).trans rfl
set_option maxRecDepth 100000 in
theorem C_Tk_strapAt (t : Nat) (a1 : Int) (a2 : Int) (a3 : Int) (g : PG) (u : PM) : call M_Tk_strapAt [vA t, vI a1, vI a2, vI a3] g u =
  if a1 < 0 then
    some (0, vI 0, g, u)
  else
    bif pW t && pO (pK g t) 9 then (
    if a1 < (u t 0) then
      if a2 < 0 then
        some (0, vI 0, g, u)
      else
        bif pW t && pO (pK g t) 9 then (
        if a2 < (u t 1) then
          if a3 < 0 then
            some (0, vI 0, g, u)
          else
            if a3 < 2 then
              bif pW t && pO (pK g t) 9 then (
              bif pW (t + 2) && pR (pK g (t + 2)) 1 (w ((w ((w ((w (a2 * 8)) + a1)) * 2)) + a3)) then (
              bif b01 (u (t + 2) (w ((w ((w ((w (a2 * 8)) + a1)) * 2)) + a3))) then (
              some (0, vI (u (t + 2) (w ((w ((w ((w (a2 * 8)) + a1)) * 2)) + a3))), g, u)) else none) else none) else none
            else
              some (0, vI 0, g, u)
        else
          some (0, vI 0, g, u)) else none
    else
      some (0, vI 0, g, u)) else none := (run_bl (m := M_Tk_strapAt) (T := T_Tk_strapAt) (hh := []) (stop := []) rfl rfl rfl 39 (pc := 0) (L := [vA t, vI a1, vI a2, vI a3]) (S := []) rfl).trans rfl
set_option maxRecDepth 100000 in
theorem C_Tk_setStrap (t : Nat) (a1 : Int) (a2 : Int) (a3 : Int) (g : PG) (u : PM) : call M_Tk_setStrap [vA t, vI a1, vI a2, vI a3] g u =
  if a3 < 0 then
    some (0, vN, g, u)
  else
    if a3 < 2 then
      bif pW t && pO (pK g t) 9 then (
      cI (call M_Tk_holdsEdge [vA t, vI a1, vI a2, vI a3] g u) (fun (x3 : Int) (g1 : PG) (u2 : PM) =>
        if x3 = 0 then
          some (0, vN, g1, u2)
        else
          bif pW t && pO (pK g1 t) 9 then (
          bif pW (t + 2) && pR (pK g1 (t + 2)) 1 (w ((w ((w ((w (a2 * 8)) + a1)) * 2)) + a3)) then (
          bif b01 1 then (
          some (0, vN, g1, up u2 (t + 2) (w ((w ((w ((w (a2 * 8)) + a1)) * 2)) + a3)) 1)) else none) else none) else none) noX) else none
    else
      some (0, vN, g, u) := (run_bl (m := M_Tk_setStrap) (T := T_Tk_setStrap) (hh := []) (stop := []) rfl rfl rfl 30 (pc := 0) (L := [vA t, vI a1, vI a2, vI a3]) (S := []) rfl).trans rfl
set_option maxRecDepth 100000 in
theorem C_Tk_cellBeyond (t : Nat) (a1 : Int) (a2 : Int) (a3 : Int) (g : PG) (u : PM) : call M_Tk_cellBeyond [vA t, vI a1, vI a2, vI a3] g u =
  if a3 = 0 then
    bif pW t && pO (pK g t) 9 then (
    cI (call M_Tk_cellAt [vA t, vI (w (a1 + 1)), vI a2] g u) (fun (x3 : Int) (g1 : PG) (u2 : PM) =>
      some (0, vI x3, g1, u2)) noX) else none
  else
    bif pW t && pO (pK g t) 9 then (
    cI (call M_Tk_cellAt [vA t, vI a1, vI (w (a2 + 1))] g u) (fun (x6 : Int) (g4 : PG) (u5 : PM) =>
      some (0, vI x6, g4, u5)) noX) else none := (run_bl (m := M_Tk_cellBeyond) (T := T_Tk_cellBeyond) (hh := []) (stop := []) rfl rfl rfl 21 (pc := 0) (L := [vA t, vI a1, vI a2, vI a3]) (S := []) rfl).trans rfl
set_option maxRecDepth 100000 in
theorem C_Tk_isEdgeBlocked (t : Nat) (a1 : Int) (a2 : Int) (a3 : Int) (g : PG) (u : PM) : call M_Tk_isEdgeBlocked [vA t, vI a1, vI a2, vI a3] g u =
  bif pW t && pO (pK g t) 9 then (
  cI (call M_Tk_cellAt [vA t, vI a1, vI a2] g u) (fun (x3 : Int) (g1 : PG) (u2 : PM) =>
    if x3 = (-2) then
      some (0, vI 1, g1, u2)
    else
      bif pW t && pO (pK g1 t) 9 then (
      cI (call M_Tk_cellBeyond [vA t, vI a1, vI a2, vI a3] g1 u2) (fun (x6 : Int) (g4 : PG) (u5 : PM) =>
        if x6 = (-2) then
          some (0, vI 1, g4, u5)
        else
          some (0, vI 0, g4, u5)) noX) else none) noX) else none := (run_bl (m := M_Tk_isEdgeBlocked) (T := T_Tk_isEdgeBlocked) (hh := []) (stop := []) rfl rfl rfl 22 (pc := 0) (L := [vA t, vI a1, vI a2, vI a3]) (S := []) rfl).trans rfl
set_option maxRecDepth 100000 in
theorem C_Tk_isEdgeCovered (t : Nat) (a1 : Int) (a2 : Int) (a3 : Int) (g : PG) (u : PM) : call M_Tk_isEdgeCovered [vA t, vI a1, vI a2, vI a3] g u =
  bif pW t && pO (pK g t) 9 then (
  cI (call M_Tk_cellAt [vA t, vI a1, vI a2] g u) (fun (x3 : Int) (g1 : PG) (u2 : PM) =>
    if x3 < 0 then
      some (0, vI 0, g1, u2)
    else
      bif pW t && pO (pK g1 t) 9 then (
      cI (call M_Tk_cellBeyond [vA t, vI a1, vI a2, vI a3] g1 u2) (fun (x6 : Int) (g4 : PG) (u5 : PM) =>
        if x3 = x6 then
          some (0, vI 1, g4, u5)
        else
          some (0, vI 0, g4, u5)) noX) else none) noX) else none := (run_bl (m := M_Tk_isEdgeCovered) (T := T_Tk_isEdgeCovered) (hh := []) (stop := []) rfl rfl rfl 23 (pc := 0) (L := [vA t, vI a1, vI a2, vI a3, vN]) (S := []) rfl).trans rfl
set_option maxRecDepth 100000 in
theorem C_Tk_countEmptyIn (t : Nat) (a1 : Int) (g : PG) (u : PM) : call M_Tk_countEmptyIn [vA t, vI a1] g u =
  run M_Tk_countEmptyIn 4 [vA t, vI a1, vI 0, vI 0] [] g u := (run_bl (m := M_Tk_countEmptyIn) (T := T_Tk_countEmptyIn) (hh := []) (stop := [(4, [true, true, true, true])]) rfl rfl rfl 24 (pc := 0) (L := [vA t, vI a1, vN, vN]) (S := []) rfl).trans rfl
set_option maxRecDepth 100000 in
theorem R_Tk_countEmptyIn_4 (t : Nat) (a1 : Int) (a2 : Int) (a3 : Int) (g : PG) (u : PM) : run M_Tk_countEmptyIn 4 [vA t, vI a1, vI a2, vI a3] [] g u =
  bif pW t && pO (pK g t) 9 then (
  if a3 < (u t 0) then
    bif pW t && pO (pK g t) 9 then (
    cI (call M_Tk_cellAt [vA t, vI a3, vI a1] g u) (fun (x3 : Int) (g1 : PG) (u2 : PM) =>
      if x3 = (-1) then
        run M_Tk_countEmptyIn 4 [vA t, vI a1, vI (w (a2 + 1)), vI (w (a3 + 1))] [] g1 u2
      else
        run M_Tk_countEmptyIn 4 [vA t, vI a1, vI a2, vI (w (a3 + 1))] [] g1 u2) noX) else none
  else
    some (0, vI a2, g, u)) else none := (run_bl (m := M_Tk_countEmptyIn) (T := T_Tk_countEmptyIn) (hh := []) (stop := [(4, [true, true, true, true])]) rfl rfl rfl 24 (pc := 4) (L := [vA t, vI a1, vI a2, vI a3]) (S := []) rfl).trans rfl
set_option maxRecDepth 100000 in
theorem C_Tk_countCells (t : Nat) (a1 : Int) (g : PG) (u : PM) : call M_Tk_countCells [vA t, vI a1] g u =
  run M_Tk_countCells 4 [vA t, vI a1, vI 0, vI 0, vN] [] g u := (run_bl (m := M_Tk_countCells) (T := T_Tk_countCells) (hh := []) (stop := [(4, [true, true, true, true, false]), (15, [true, true, true, true, true])]) rfl rfl rfl 32 (pc := 0) (L := [vA t, vI a1, vN, vN, vN]) (S := []) rfl).trans rfl
set_option maxRecDepth 100000 in
theorem R_Tk_countCells_4 (t : Nat) (a1 : Int) (a2 : Int) (a3 : Int) (g : PG) (u : PM) : run M_Tk_countCells 4 [vA t, vI a1, vI a2, vI a3, vN] [] g u =
  bif pW t && pO (pK g t) 9 then (
  if a3 < (u t 1) then
    run M_Tk_countCells 15 [vA t, vI a1, vI a2, vI a3, vI 0] [] g u
  else
    some (0, vI a2, g, u)) else none := (run_bl (m := M_Tk_countCells) (T := T_Tk_countCells) (hh := []) (stop := [(4, [true, true, true, true, false]), (15, [true, true, true, true, true])]) rfl rfl rfl 32 (pc := 4) (L := [vA t, vI a1, vI a2, vI a3, vN]) (S := []) rfl).trans rfl
set_option maxRecDepth 100000 in
theorem R_Tk_countCells_15 (t : Nat) (a1 : Int) (a2 : Int) (a3 : Int) (a4 : Int) (g : PG) (u : PM) : run M_Tk_countCells 15 [vA t, vI a1, vI a2, vI a3, vI a4] [] g u =
  bif pW t && pO (pK g t) 9 then (
  if a4 < (u t 0) then
    bif pW t && pO (pK g t) 9 then (
    cI (call M_Tk_cellAt [vA t, vI a4, vI a3] g u) (fun (x3 : Int) (g1 : PG) (u2 : PM) =>
      if x3 = a1 then
        run M_Tk_countCells 15 [vA t, vI a1, vI (w (a2 + 1)), vI a3, vI (w (a4 + 1))] [] g1 u2
      else
        run M_Tk_countCells 15 [vA t, vI a1, vI a2, vI a3, vI (w (a4 + 1))] [] g1 u2) noX) else none
  else
    run M_Tk_countCells 4 [vA t, vI a1, vI a2, vI (w (a3 + 1)), vN] [] g u) else none := (run_bl (m := M_Tk_countCells) (T := T_Tk_countCells) (hh := []) (stop := [(4, [true, true, true, true, false]), (15, [true, true, true, true, true])]) rfl rfl rfl 32 (pc := 15) (L := [vA t, vI a1, vI a2, vI a3, vI a4]) (S := []) rfl).trans rfl
set_option maxRecDepth 100000 in
theorem C_Tk_countCovered (t : Nat) (g : PG) (u : PM) : call M_Tk_countCovered [vA t] g u =
  bif pW t && pO (pK g t) 9 then (
  bif pW t && pO (pK g t) 9 then (
  bif pW t && pO (pK g t) 9 then (
  cI (call M_Tk_countCells [vA t, vI (-1)] g u) (fun (x3 : Int) (g1 : PG) (u2 : PM) =>
    bif pW t && pO (pK g1 t) 9 then (
    cI (call M_Tk_countCells [vA t, vI (-2)] g1 u2) (fun (x6 : Int) (g4 : PG) (u5 : PM) =>
      some (0, vI (w ((w ((w ((u t 0) * (u t 1))) - x3)) - x6)), g4, u5)) noX) else none) noX) else none) else none) else none := (run_bl (m := M_Tk_countCovered) (T := T_Tk_countCovered) (hh := []) (stop := []) rfl rfl rfl 19 (pc := 0) (L := [vA t]) (S := []) rfl).trans rfl
set_option maxRecDepth 100000 in
theorem C_Tk_countStraps (t : Nat) (g : PG) (u : PM) : call M_Tk_countStraps [vA t] g u =
  run M_Tk_countStraps 4 [vA t, vI 0, vI 0] [] g u := (run_bl (m := M_Tk_countStraps) (T := T_Tk_countStraps) (hh := []) (stop := [(4, [true, true, true])]) rfl rfl rfl 22 (pc := 0) (L := [vA t, vN, vN]) (S := []) rfl).trans rfl
set_option maxRecDepth 100000 in
theorem R_Tk_countStraps_4 (t : Nat) (a1 : Int) (a2 : Int) (g : PG) (u : PM) : run M_Tk_countStraps 4 [vA t, vI a1, vI a2] [] g u =
  if a2 < 128 then
    bif pW t && pO (pK g t) 9 then (
    bif pW (t + 2) && pR (pK g (t + 2)) 1 a2 then (
    if (u (t + 2) a2) = 0 then
      run M_Tk_countStraps 4 [vA t, vI a1, vI (w (a2 + 1))] [] g u
    else
      run M_Tk_countStraps 4 [vA t, vI (w (a1 + 1)), vI (w (a2 + 1))] [] g u) else none) else none
  else
    some (0, vI a1, g, u) := (run_bl (m := M_Tk_countStraps) (T := T_Tk_countStraps) (hh := []) (stop := [(4, [true, true, true])]) rfl rfl rfl 22 (pc := 4) (L := [vA t, vI a1, vI a2]) (S := []) rfl).trans rfl
set_option maxRecDepth 100000 in
theorem C_Tk_misfitOf (t : Nat) (p1 : Nat) (g : PG) (u : PM) : call M_Tk_misfitOf [vA t, vA p1] g u =
  run M_Tk_misfitOf 7 [vA t, vA p1, vI 0, vI 0, vI 0, vN] [] g u := (run_bl (m := M_Tk_misfitOf) (T := T_Tk_misfitOf) (hh := []) (stop := [(7, [true, true, true, true, true, false]), (59, [true, true, true, true, true, true]), (69, [true, true, true, true, true, true])]) rfl rfl rfl 64 (pc := 0) (L := [vA t, vA p1, vN, vN, vN, vN]) (S := []) rfl).trans rfl
set_option maxRecDepth 100000 in
theorem R_Tk_misfitOf_7 (t : Nat) (p1 : Nat) (a2 : Int) (a3 : Int) (a4 : Int) (g : PG) (u : PM) : run M_Tk_misfitOf 7 [vA t, vA p1, vI a2, vI a3, vI a4, vN] [] g u =
  bif pW p1 && pO (pK g p1) 2 then (
  if a4 < (u p1 4) then
    bif pW p1 && pO (pK g p1) 2 then (
    cI (call M_Fp_columnOf [vA p1, vI a4] g u) (fun (x3 : Int) (g1 : PG) (u2 : PM) =>
      bif pW p1 && pO (pK g1 p1) 2 then (
      cI (call M_Fp_rowOf [vA p1, vI a4] g1 u2) (fun (x6 : Int) (g4 : PG) (u5 : PM) =>
        bif pW t && pO (pK g4 t) 9 then (
        cI (call M_Tk_cellAt [vA t, vI x3, vI x6] g4 u5) (fun (x9 : Int) (g7 : PG) (u8 : PM) =>
          if x9 = (-3) then
            some (0, vI 1, g7, u8)
          else
            if a2 = 0 then
              if x9 = (-2) then
                run M_Tk_misfitOf 59 [vA t, vA p1, vI a2, vI a3, vI a4, vI x9] [vI 1] g7 u8
              else
                run M_Tk_misfitOf 59 [vA t, vA p1, vI a2, vI a3, vI a4, vI x9] [vI 0] g7 u8
            else
              run M_Tk_misfitOf 59 [vA t, vA p1, vI a2, vI a3, vI a4, vI x9] [vI 1] g7 u8) noX) else none) noX) else none) noX) else none
  else
    if a2 = 0 then
      if a3 = 0 then
        bif pW t && pO (pK g t) 9 then (
        cI (call M_Tk_isCrossedBy [vA t, vA p1] g u) (fun (x12 : Int) (g10 : PG) (u11 : PM) =>
          if x12 = 0 then
            some (0, vI 0, g10, u11)
          else
            some (0, vI 4, g10, u11)) noX) else none
      else
        some (0, vI 3, g, u)
    else
      some (0, vI 2, g, u)) else none := (run_bl (m := M_Tk_misfitOf) (T := T_Tk_misfitOf) (hh := []) (stop := [(7, [true, true, true, true, true, false]), (59, [true, true, true, true, true, true]), (69, [true, true, true, true, true, true])]) rfl rfl rfl 64 (pc := 7) (L := [vA t, vA p1, vI a2, vI a3, vI a4, vN]) (S := []) rfl).trans rfl
set_option maxRecDepth 100000 in
theorem R_Tk_misfitOf_59 (t : Nat) (p1 : Nat) (a2 : Int) (a3 : Int) (a4 : Int) (a5 : Int) (s0 : Int) (g : PG) (u : PM) : run M_Tk_misfitOf 59 [vA t, vA p1, vI a2, vI a3, vI a4, vI a5] [vI s0] g u =
  if a3 = 0 then
    if a5 < 0 then
      run M_Tk_misfitOf 7 [vA t, vA p1, vI s0, vI 0, vI (w (a4 + 1)), vN] [] g u
    else
      run M_Tk_misfitOf 69 [vA t, vA p1, vI s0, vI a3, vI a4, vI a5] [] g u
  else
    run M_Tk_misfitOf 69 [vA t, vA p1, vI s0, vI a3, vI a4, vI a5] [] g u := (run_bl (m := M_Tk_misfitOf) (T := T_Tk_misfitOf) (hh := []) (stop := [(7, [true, true, true, true, true, false]), (59, [true, true, true, true, true, true]), (69, [true, true, true, true, true, true])]) rfl rfl rfl 64 (pc := 59) (L := [vA t, vA p1, vI a2, vI a3, vI a4, vI a5]) (S := [vI s0]) rfl).trans rfl
set_option maxRecDepth 100000 in
theorem R_Tk_misfitOf_69 (t : Nat) (p1 : Nat) (a2 : Int) (a3 : Int) (a4 : Int) (a5 : Int) (g : PG) (u : PM) : run M_Tk_misfitOf 69 [vA t, vA p1, vI a2, vI a3, vI a4, vI a5] [] g u =
  run M_Tk_misfitOf 7 [vA t, vA p1, vI a2, vI 1, vI (w (a4 + 1)), vN] [] g u := (run_bl (m := M_Tk_misfitOf) (T := T_Tk_misfitOf) (hh := []) (stop := [(7, [true, true, true, true, true, false]), (59, [true, true, true, true, true, true]), (69, [true, true, true, true, true, true])]) rfl rfl rfl 64 (pc := 69) (L := [vA t, vA p1, vI a2, vI a3, vI a4, vI a5]) (S := []) rfl).trans rfl
set_option maxRecDepth 100000 in
theorem C_Tk_isCrossedBy (t : Nat) (p1 : Nat) (g : PG) (u : PM) : call M_Tk_isCrossedBy [vA t, vA p1] g u =
  run M_Tk_isCrossedBy 2 [vA t, vA p1, vI 0, vN, vN] [] g u := (run_bl (m := M_Tk_isCrossedBy) (T := T_Tk_isCrossedBy) (hh := []) (stop := [(2, [true, true, true, false, false])]) rfl rfl rfl 33 (pc := 0) (L := [vA t, vA p1, vN, vN, vN]) (S := []) rfl).trans rfl
set_option maxRecDepth 100000 in
theorem R_Tk_isCrossedBy_2 (t : Nat) (p1 : Nat) (a2 : Int) (g : PG) (u : PM) : run M_Tk_isCrossedBy 2 [vA t, vA p1, vI a2, vN, vN] [] g u =
  bif pW p1 && pO (pK g p1) 2 then (
  if a2 < (u p1 5) then
    bif pW p1 && pO (pK g p1) 2 then (
    cI (call M_Fp_edgeColumnOf [vA p1, vI a2] g u) (fun (x3 : Int) (g1 : PG) (u2 : PM) =>
      bif pW p1 && pO (pK g1 p1) 2 then (
      cI (call M_Fp_edgeRowOf [vA p1, vI a2] g1 u2) (fun (x6 : Int) (g4 : PG) (u5 : PM) =>
        bif pW p1 && pO (pK g4 p1) 2 then (
        cI (call M_Fp_sideOf [vA p1, vI a2] g4 u5) (fun (x9 : Int) (g7 : PG) (u8 : PM) =>
          bif pW t && pO (pK g7 t) 9 then (
          cI (call M_Tk_strapAt [vA t, vI x3, vI x6, vI x9] g7 u8) (fun (x12 : Int) (g10 : PG) (u11 : PM) =>
            if x12 = 0 then
              run M_Tk_isCrossedBy 2 [vA t, vA p1, vI (w (a2 + 1)), vN, vN] [] g10 u11
            else
              some (0, vI 1, g10, u11)) noX) else none) noX) else none) noX) else none) noX) else none
  else
    some (0, vI 0, g, u)) else none := (run_bl (m := M_Tk_isCrossedBy) (T := T_Tk_isCrossedBy) (hh := []) (stop := [(2, [true, true, true, false, false])]) rfl rfl rfl 33 (pc := 2) (L := [vA t, vA p1, vI a2, vN, vN]) (S := []) rfl).trans rfl
set_option maxRecDepth 100000 in
theorem C_Tk_findNext (t : Nat) (p1 : Nat) (g : PG) (u : PM) : call M_Tk_findNext [vA t, vA p1] g u =
  run M_Tk_findNext 2 [vA t, vA p1, vI 0] [] g u := (run_bl (m := M_Tk_findNext) (T := T_Tk_findNext) (hh := []) (stop := [(2, [true, true, true])]) rfl rfl rfl 29 (pc := 0) (L := [vA t, vA p1, vN]) (S := []) rfl).trans rfl
set_option maxRecDepth 100000 in
theorem R_Tk_findNext_2 (t : Nat) (p1 : Nat) (a2 : Int) (g : PG) (u : PM) : run M_Tk_findNext 2 [vA t, vA p1, vI a2] [] g u =
  if a2 < 256 then
    bif pW t && pO (pK g t) 9 then (
    bif pW t && pO (pK g t) 9 then (
    bif pW p1 && pO (pK g p1) 2 then (
    cI (call M_Fp_advance [vA p1, vI (u t 0), vI (u t 1)] g u) (fun (x3 : Int) (g1 : PG) (u2 : PM) =>
      if x3 = 0 then
        some (0, vI 0, g1, u2)
      else
        bif pW t && pO (pK g1 t) 9 then (
        cI (call M_Tk_misfitOf [vA t, vA p1] g1 u2) (fun (x6 : Int) (g4 : PG) (u5 : PM) =>
          if x6 = 0 then
            some (0, vI 1, g4, u5)
          else
            run M_Tk_findNext 2 [vA t, vA p1, vI (w (a2 + 1))] [] g4 u5) noX) else none) noX) else none) else none) else none
  else
    some (0, vI 0, g, u) := (run_bl (m := M_Tk_findNext) (T := T_Tk_findNext) (hh := []) (stop := [(2, [true, true, true])]) rfl rfl rfl 29 (pc := 2) (L := [vA t, vA p1, vI a2]) (S := []) rfl).trans rfl
set_option maxRecDepth 100000 in
theorem C_Tk_countFitting (t : Nat) (a1 : Int) (p2 : Nat) (g : PG) (u : PM) : call M_Tk_countFitting [vA t, vI a1, vA p2] g u =
  bif pW p2 && pO (pK g p2) 2 then (
  cV (call M_Fp_startAll [vA p2, vI a1] g u) (fun (g1 : PG) (u2 : PM) =>
    run M_Tk_countFitting 7 [vA t, vI a1, vA p2, vI 0] [] g1 u2) noX) else none := (run_bl (m := M_Tk_countFitting) (T := T_Tk_countFitting) (hh := []) (stop := [(7, [true, true, true, true])]) rfl rfl rfl 21 (pc := 0) (L := [vA t, vI a1, vA p2, vN]) (S := []) rfl).trans rfl
set_option maxRecDepth 100000 in
theorem R_Tk_countFitting_7 (t : Nat) (a1 : Int) (p2 : Nat) (a3 : Int) (g : PG) (u : PM) : run M_Tk_countFitting 7 [vA t, vI a1, vA p2, vI a3] [] g u =
  if a3 < 256 then
    bif pW t && pO (pK g t) 9 then (
    cI (call M_Tk_findNext [vA t, vA p2] g u) (fun (x3 : Int) (g1 : PG) (u2 : PM) =>
      if x3 = 0 then
        some (0, vI a3, g1, u2)
      else
        run M_Tk_countFitting 7 [vA t, vI a1, vA p2, vI (w (a3 + 1))] [] g1 u2) noX) else none
  else
    some (0, vI a3, g, u) := (run_bl (m := M_Tk_countFitting) (T := T_Tk_countFitting) (hh := []) (stop := [(7, [true, true, true, true])]) rfl rfl rfl 21 (pc := 7) (L := [vA t, vI a1, vA p2, vI a3]) (S := []) rfl).trans rfl
set_option maxRecDepth 100000 in
theorem C_Tk_pointsOf (t : Nat) (p1 : Nat) (g : PG) (u : PM) : call M_Tk_pointsOf [vA t, vA p1] g u =
  bif pW p1 && pO (pK g p1) 2 then (
  run M_Tk_pointsOf 7 [vA t, vA p1, vI (u p1 4), vI 0, vN, vN] [] g u) else none := (run_bl (m := M_Tk_pointsOf) (T := T_Tk_pointsOf) (hh := []) (stop := [(7, [true, true, true, true, false, false]), (21, [true, true, true, true, true, true])]) rfl rfl rfl 46 (pc := 0) (L := [vA t, vA p1, vN, vN, vN, vN]) (S := []) rfl).trans rfl
set_option maxRecDepth 100000 in
theorem R_Tk_pointsOf_7 (t : Nat) (p1 : Nat) (a2 : Int) (a3 : Int) (g : PG) (u : PM) : run M_Tk_pointsOf 7 [vA t, vA p1, vI a2, vI a3, vN, vN] [] g u =
  bif pW t && pO (pK g t) 9 then (
  if a3 < (u t 1) then
    run M_Tk_pointsOf 21 [vA t, vA p1, vI a2, vI a3, vI 0, vI 0] [] g u
  else
    some (0, vI a2, g, u)) else none := (run_bl (m := M_Tk_pointsOf) (T := T_Tk_pointsOf) (hh := []) (stop := [(7, [true, true, true, true, false, false]), (21, [true, true, true, true, true, true])]) rfl rfl rfl 46 (pc := 7) (L := [vA t, vA p1, vI a2, vI a3, vN, vN]) (S := []) rfl).trans rfl
set_option maxRecDepth 100000 in
theorem R_Tk_pointsOf_21 (t : Nat) (p1 : Nat) (a2 : Int) (a3 : Int) (a4 : Int) (a5 : Int) (g : PG) (u : PM) : run M_Tk_pointsOf 21 [vA t, vA p1, vI a2, vI a3, vI a4, vI a5] [] g u =
  bif pW p1 && pO (pK g p1) 2 then (
  if a5 < (u p1 4) then
    bif pW p1 && pO (pK g p1) 2 then (
    cI (call M_Fp_rowOf [vA p1, vI a5] g u) (fun (x3 : Int) (g1 : PG) (u2 : PM) =>
      if x3 = a3 then
        run M_Tk_pointsOf 21 [vA t, vA p1, vI a2, vI a3, vI (w (a4 + 1)), vI (w (a5 + 1))] [] g1 u2
      else
        run M_Tk_pointsOf 21 [vA t, vA p1, vI a2, vI a3, vI a4, vI (w (a5 + 1))] [] g1 u2) noX) else none
  else
    if 0 < a4 then
      bif pW t && pO (pK g t) 9 then (
      cI (call M_Tk_countEmptyIn [vA t, vI a3] g u) (fun (x6 : Int) (g4 : PG) (u5 : PM) =>
        if a4 = x6 then
          bif pW t && pO (pK g4 t) 9 then (
          run M_Tk_pointsOf 7 [vA t, vA p1, vI (w (a2 + (u5 t 0))), vI (w (a3 + 1)), vN, vN] [] g4 u5) else none
        else
          run M_Tk_pointsOf 7 [vA t, vA p1, vI a2, vI (w (a3 + 1)), vN, vN] [] g4 u5) noX) else none
    else
      run M_Tk_pointsOf 7 [vA t, vA p1, vI a2, vI (w (a3 + 1)), vN, vN] [] g u) else none := (run_bl (m := M_Tk_pointsOf) (T := T_Tk_pointsOf) (hh := []) (stop := [(7, [true, true, true, true, false, false]), (21, [true, true, true, true, true, true])]) rfl rfl rfl 46 (pc := 21) (L := [vA t, vA p1, vI a2, vI a3, vI a4, vI a5]) (S := []) rfl).trans rfl
