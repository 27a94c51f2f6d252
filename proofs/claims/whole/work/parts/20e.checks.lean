-- 20e
set_option maxRecDepth 100000 in
theorem fx_ckL_0 : fx_chkP fx_kd fx_ML 0 50 = true := by decide +kernel
set_option maxRecDepth 100000 in
theorem fx_ckL_50 : fx_chkP fx_kd fx_ML 50 50 = true := by decide +kernel
set_option maxRecDepth 100000 in
theorem fx_ckL_100 : fx_chkP fx_kd fx_ML 100 50 = true := by decide +kernel
set_option maxRecDepth 100000 in
theorem fx_ckL_150 : fx_chkP fx_kd fx_ML 150 50 = true := by decide +kernel
set_option maxRecDepth 100000 in
theorem fx_ckL_200 : fx_chkP fx_kd fx_ML 200 50 = true := by decide +kernel
set_option maxRecDepth 100000 in
theorem fx_ckL_250 : fx_chkP fx_kd fx_ML 250 50 = true := by decide +kernel
set_option maxRecDepth 100000 in
theorem fx_ckL_300 : fx_chkP fx_kd fx_ML 300 50 = true := by decide +kernel
set_option maxRecDepth 100000 in
theorem fx_ckL_350 : fx_chkP fx_kd fx_ML 350 50 = true := by decide +kernel
set_option maxRecDepth 100000 in
theorem fx_ckL_400 : fx_chkP fx_kd fx_ML 400 50 = true := by decide +kernel
set_option maxRecDepth 100000 in
theorem fx_ckL_450 : fx_chkP fx_kd fx_ML 450 50 = true := by decide +kernel
set_option maxRecDepth 100000 in
theorem fx_ckL_500 : fx_chkP fx_kd fx_ML 500 50 = true := by decide +kernel
set_option maxRecDepth 100000 in
theorem fx_ckL_550 : fx_chkP fx_kd fx_ML 550 50 = true := by decide +kernel
set_option maxRecDepth 100000 in
theorem fx_ckL_600 : fx_chkP fx_kd fx_ML 600 50 = true := by decide +kernel
