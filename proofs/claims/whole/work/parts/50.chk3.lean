/-! ===== every entry of the tables is checked against the code (3) ===== -/
set_option maxRecDepth 100000 in
theorem ck_L_law : ∀ pc E, gLook (gTab 338) pc = some E → gChk 338 pc E = true := gCk_look (t := T_L_law) rfl (by decide +kernel)
