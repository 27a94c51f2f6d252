-- 20f
set_option maxRecDepth 100000 in
theorem fx_ckL_650 : fx_chkP fx_kd fx_ML 650 50 = true := by decide +kernel
set_option maxRecDepth 100000 in
theorem fx_ckL_700 : fx_chkP fx_kd fx_ML 700 50 = true := by decide +kernel
set_option maxRecDepth 100000 in
theorem fx_ckL_750 : fx_chkP fx_kd fx_ML 750 50 = true := by decide +kernel
set_option maxRecDepth 100000 in
theorem fx_ckL_800 : fx_chkP fx_kd fx_ML 800 50 = true := by decide +kernel
set_option maxRecDepth 100000 in
theorem fx_ckL_850 : fx_chkP fx_kd fx_ML 850 50 = true := by decide +kernel
set_option maxRecDepth 100000 in
theorem fx_ckL_900 : fx_chkP fx_kd fx_ML 900 50 = true := by decide +kernel
set_option maxRecDepth 100000 in
theorem fx_ckL_950 : fx_chkP fx_kd fx_ML 950 50 = true := by decide +kernel
set_option maxRecDepth 100000 in
theorem fx_ckL_1000 : fx_chkP fx_kd fx_ML 1000 50 = true := by decide +kernel
set_option maxRecDepth 100000 in
theorem fx_ckL_1050 : fx_chkP fx_kd fx_ML 1050 50 = true := by decide +kernel
set_option maxRecDepth 100000 in
theorem fx_ckL_1100 : fx_chkP fx_kd fx_ML 1100 50 = true := by decide +kernel
set_option maxRecDepth 100000 in
theorem fx_ckL_1150 : fx_chkP fx_kd fx_ML 1150 50 = true := by decide +kernel
set_option maxRecDepth 100000 in
theorem fx_ckL_1200 : fx_chkP fx_kd fx_ML 1200 21 = true := by decide +kernel
theorem fx_cl_0 : fx_chk fx_kd fx_ML 0 = true := rfl
theorem fx_cl_50 : fx_chk fx_kd fx_ML 50 = true := fx_chk_cat (lo := 0) (n := 50) fx_cl_0 fx_ckL_0
theorem fx_cl_100 : fx_chk fx_kd fx_ML 100 = true := fx_chk_cat (lo := 50) (n := 50) fx_cl_50 fx_ckL_50
theorem fx_cl_150 : fx_chk fx_kd fx_ML 150 = true := fx_chk_cat (lo := 100) (n := 50) fx_cl_100 fx_ckL_100
theorem fx_cl_200 : fx_chk fx_kd fx_ML 200 = true := fx_chk_cat (lo := 150) (n := 50) fx_cl_150 fx_ckL_150
theorem fx_cl_250 : fx_chk fx_kd fx_ML 250 = true := fx_chk_cat (lo := 200) (n := 50) fx_cl_200 fx_ckL_200
theorem fx_cl_300 : fx_chk fx_kd fx_ML 300 = true := fx_chk_cat (lo := 250) (n := 50) fx_cl_250 fx_ckL_250
theorem fx_cl_350 : fx_chk fx_kd fx_ML 350 = true := fx_chk_cat (lo := 300) (n := 50) fx_cl_300 fx_ckL_300
theorem fx_cl_400 : fx_chk fx_kd fx_ML 400 = true := fx_chk_cat (lo := 350) (n := 50) fx_cl_350 fx_ckL_350
theorem fx_cl_450 : fx_chk fx_kd fx_ML 450 = true := fx_chk_cat (lo := 400) (n := 50) fx_cl_400 fx_ckL_400
theorem fx_cl_500 : fx_chk fx_kd fx_ML 500 = true := fx_chk_cat (lo := 450) (n := 50) fx_cl_450 fx_ckL_450
theorem fx_cl_550 : fx_chk fx_kd fx_ML 550 = true := fx_chk_cat (lo := 500) (n := 50) fx_cl_500 fx_ckL_500
theorem fx_cl_600 : fx_chk fx_kd fx_ML 600 = true := fx_chk_cat (lo := 550) (n := 50) fx_cl_550 fx_ckL_550
theorem fx_cl_650 : fx_chk fx_kd fx_ML 650 = true := fx_chk_cat (lo := 600) (n := 50) fx_cl_600 fx_ckL_600
theorem fx_cl_700 : fx_chk fx_kd fx_ML 700 = true := fx_chk_cat (lo := 650) (n := 50) fx_cl_650 fx_ckL_650
theorem fx_cl_750 : fx_chk fx_kd fx_ML 750 = true := fx_chk_cat (lo := 700) (n := 50) fx_cl_700 fx_ckL_700
theorem fx_cl_800 : fx_chk fx_kd fx_ML 800 = true := fx_chk_cat (lo := 750) (n := 50) fx_cl_750 fx_ckL_750
theorem fx_cl_850 : fx_chk fx_kd fx_ML 850 = true := fx_chk_cat (lo := 800) (n := 50) fx_cl_800 fx_ckL_800
theorem fx_cl_900 : fx_chk fx_kd fx_ML 900 = true := fx_chk_cat (lo := 850) (n := 50) fx_cl_850 fx_ckL_850
theorem fx_cl_950 : fx_chk fx_kd fx_ML 950 = true := fx_chk_cat (lo := 900) (n := 50) fx_cl_900 fx_ckL_900
theorem fx_cl_1000 : fx_chk fx_kd fx_ML 1000 = true := fx_chk_cat (lo := 950) (n := 50) fx_cl_950 fx_ckL_950
theorem fx_cl_1050 : fx_chk fx_kd fx_ML 1050 = true := fx_chk_cat (lo := 1000) (n := 50) fx_cl_1000 fx_ckL_1000
theorem fx_cl_1100 : fx_chk fx_kd fx_ML 1100 = true := fx_chk_cat (lo := 1050) (n := 50) fx_cl_1050 fx_ckL_1050
theorem fx_cl_1150 : fx_chk fx_kd fx_ML 1150 = true := fx_chk_cat (lo := 1100) (n := 50) fx_cl_1100 fx_ckL_1100
theorem fx_cl_1200 : fx_chk fx_kd fx_ML 1200 = true := fx_chk_cat (lo := 1150) (n := 50) fx_cl_1150 fx_ckL_1150
theorem fx_cl_1221 : fx_chk fx_kd fx_ML 1221 = true := fx_chk_cat (lo := 1200) (n := 21) fx_cl_1200 fx_ckL_1200
theorem fx_kk_L : fx_Mok fx_ML ∧ fx_Cok fx_Y fx_ML := fx_ok_of (sz := 1221) (fun _ _ h => fx_lts h) fx_pok16 fx_cl_1221 fx_w_binds fx_w_castI
