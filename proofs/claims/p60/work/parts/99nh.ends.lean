/-! ===== equations of the constructors' ends, by wip/p60/gen_init.py ===== -/
set_option maxRecDepth 100000 in
theorem R_TD_init_135 (t : Nat) (g : PG) (u : PM) : run M_TD_init 135 [vA t] [] g u =
  bif pW t && pO (pK g t) 10 then (
  bif pW t && pO (pK g t) 10 then (
  bif pW (t + 1) && pO (pK g (t + 1)) 6 then (
  cV (call M_Rd_writeText [vA (t + 1), vA 100016] g (up u t 11 0)) (fun (g1 : PG) (u2 : PM) =>
    bif pW t && pO (pK g1 t) 10 then (
    bif pW (t + 1) && pO (pK g1 (t + 1)) 6 then (
    cV (call M_Rd_startSetup [vA (t + 1)] g1 u2) (fun (g3 : PG) (u4 : PM) =>
      bif pW t && pO (pK g3 t) 10 then (
      bif pW (t + 1) && pO (pK g3 (t + 1)) 6 then (
      cI (call M_Rd_readSetup [vA (t + 1)] g3 u4) (fun (x7 : Int) (g5 : PG) (u6 : PM) =>
        if x7 = 0 then
          run M_TD_init 190 [vA t] [] g5 u6
        else
          bif pW t && pO (pK g5 t) 10 then (
          bif pW (t + 1) && pO (pK g5 (t + 1)) 6 then (
          cI (call M_Rd_readCommands [vA (t + 1)] g5 u6) (fun (x10 : Int) (g8 : PG) (u9 : PM) =>
            if x10 = 0 then
              run M_TD_init 190 [vA t] [] g8 u9
            else
              bif pW t && pO (pK g8 t) 10 then (
              bif pW t && pO (pK g8 t) 10 then (
              bif pW (t + 1) && pO (pK g8 (t + 1)) 6 then (
              bif pW (t + 26) && pO (pK g8 (t + 26)) 8 then (
              cV (call M_St_copyFrom [vA (t + 26), vA ((t + 1) + 1)] g8 u9) (fun (g11 : PG) (u12 : PM) =>
                run M_TD_init 190 [vA t] [] g11 u12) noX) else none) else none) else none) else none) noX) else none) else none) noX) else none) else none) noX) else none) else none) noX) else none) else none) else none := (run_bl (m := M_TD_init) (T := T_TD_init) (hh := []) (stop := [(37, [true]), (76, [true]), (105, [true]), (135, [true]), (190, [true])]) rfl rfl rfl 99 (pc := 135) (L := [vA t]) (S := []) rfl).trans rfl
set_option maxRecDepth 100000 in
theorem R_TD_init_190 (t : Nat) (g : PG) (u : PM) : run M_TD_init 190 [vA t] [] g u =
  bif pW t && pO (pK g t) 10 then (
  bif pW (t + 1) && pO (pK g (t + 1)) 6 then (
  cV (call M_Rd_clear [vA (t + 1)] g u) (fun (g1 : PG) (u2 : PM) =>
    some (0, vN, g1, u2)) noX) else none) else none := (run_bl (m := M_TD_init) (T := T_TD_init) (hh := []) (stop := [(37, [true]), (76, [true]), (105, [true]), (135, [true]), (190, [true])]) rfl rfl rfl 99 (pc := 190) (L := [vA t]) (S := []) rfl).trans rfl
