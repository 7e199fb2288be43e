/-! ===== the start ===== -/
def iX : Option (wg_Sh × wg_C) := f_X8_init NN (wg_nw wg_S0 8 0) (wg_zC wg_C0 0 (fun _ => 0))
set_option maxRecDepth 100000 in
theorem iX_some : iX.isSome = true := by decide +kernel
