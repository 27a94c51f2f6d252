-- 20b
set_option maxRecDepth 100000 in
theorem fx_ck_86 : fx_chk fx_kd fx_M86 207 = true := by decide +kernel
theorem fx_kk_86 : fx_Mok fx_M86 ∧ fx_Cok fx_Y fx_M86 := fx_ok_of (sz := 207) (fun _ _ h => fx_lts h) fx_pok10 fx_ck_86 fx_w_binds fx_w_castI
set_option maxRecDepth 100000 in
theorem fx_ck_87 : fx_chk fx_kd fx_M87 44 = true := by decide +kernel
theorem fx_kk_87 : fx_Mok fx_M87 ∧ fx_Cok fx_Y fx_M87 := fx_ok_of (sz := 44) (fun _ _ h => fx_lts h) fx_pok10 fx_ck_87 fx_w_binds fx_w_castI
set_option maxRecDepth 100000 in
theorem fx_ck_88 : fx_chk fx_kd fx_M88 54 = true := by decide +kernel
theorem fx_kk_88 : fx_Mok fx_M88 ∧ fx_Cok fx_Y fx_M88 := fx_ok_of (sz := 54) (fun _ _ h => fx_lts h) fx_pok10 fx_ck_88 fx_w_binds fx_w_castI
set_option maxRecDepth 100000 in
theorem fx_ck_89 : fx_chk fx_kd fx_M89 21 = true := by decide +kernel
theorem fx_kk_89 : fx_Mok fx_M89 ∧ fx_Cok fx_Y fx_M89 := fx_ok_of (sz := 21) (fun _ _ h => fx_lts h) fx_pok10 fx_ck_89 fx_w_binds fx_w_castI
set_option maxRecDepth 100000 in
theorem fx_ck_90 : fx_chk fx_kd fx_M90 88 = true := by decide +kernel
theorem fx_kk_90 : fx_Mok fx_M90 ∧ fx_Cok fx_Y fx_M90 := fx_ok_of (sz := 88) (fun _ _ h => fx_lts h) fx_pok10 fx_ck_90 fx_w_binds fx_w_castI
set_option maxRecDepth 100000 in
theorem fx_ck_91 : fx_chk fx_kd fx_M91 70 = true := by decide +kernel
theorem fx_kk_91 : fx_Mok fx_M91 ∧ fx_Cok fx_Y fx_M91 := fx_ok_of (sz := 70) (fun _ _ h => fx_lts h) fx_pok10 fx_ck_91 fx_w_binds fx_w_castI
set_option maxRecDepth 100000 in
theorem fx_ck_92 : fx_chk fx_kd fx_M92 35 = true := by decide +kernel
theorem fx_kk_92 : fx_Mok fx_M92 ∧ fx_Cok fx_Y fx_M92 := fx_ok_of (sz := 35) (fun _ _ h => fx_lts h) fx_pok10 fx_ck_92 fx_w_binds fx_w_castI
set_option maxRecDepth 100000 in
theorem fx_ck_93 : fx_chk fx_kd fx_M93 25 = true := by decide +kernel
theorem fx_kk_93 : fx_Mok fx_M93 ∧ fx_Cok fx_Y fx_M93 := fx_ok_of (sz := 25) (fun _ _ h => fx_lts h) fx_pok10 fx_ck_93 fx_w_binds fx_w_castI
set_option maxRecDepth 100000 in
theorem fx_ck_94 : fx_chk fx_kd fx_M94 19 = true := by decide +kernel
theorem fx_kk_94 : fx_Mok fx_M94 ∧ fx_Cok fx_Y fx_M94 := fx_ok_of (sz := 19) (fun _ _ h => fx_lts h) fx_pok10 fx_ck_94 fx_w_binds fx_w_castI
set_option maxRecDepth 100000 in
theorem fx_ck_95 : fx_chk fx_kd fx_M95 16 = true := by decide +kernel
theorem fx_kk_95 : fx_Mok fx_M95 ∧ fx_Cok fx_Y fx_M95 := fx_ok_of (sz := 16) (fun _ _ h => fx_lts h) fx_pok10 fx_ck_95 fx_w_binds fx_w_castI
set_option maxRecDepth 100000 in
theorem fx_ck_96 : fx_chk fx_kd fx_M96 78 = true := by decide +kernel
theorem fx_kk_96 : fx_Mok fx_M96 ∧ fx_Cok fx_Y fx_M96 := fx_ok_of (sz := 78) (fun _ _ h => fx_lts h) fx_pok10 fx_ck_96 fx_w_binds fx_w_castI
set_option maxRecDepth 100000 in
theorem fx_ck_97 : fx_chk fx_kd fx_M97 36 = true := by decide +kernel
theorem fx_kk_97 : fx_Mok fx_M97 ∧ fx_Cok fx_Y fx_M97 := fx_ok_of (sz := 36) (fun _ _ h => fx_lts h) fx_pok10 fx_ck_97 fx_w_binds fx_w_castI
set_option maxRecDepth 100000 in
theorem fx_ck_98 : fx_chk fx_kd fx_M98 179 = true := by decide +kernel
theorem fx_kk_98 : fx_Mok fx_M98 ∧ fx_Cok fx_Y fx_M98 := fx_ok_of (sz := 179) (fun _ _ h => fx_lts h) fx_pok10 fx_ck_98 fx_w_binds fx_w_castI
set_option maxRecDepth 100000 in
theorem fx_ck_99 : fx_chk fx_kd fx_M99 66 = true := by decide +kernel
theorem fx_kk_99 : fx_Mok fx_M99 ∧ fx_Cok fx_Y fx_M99 := fx_ok_of (sz := 66) (fun _ _ h => fx_lts h) fx_pok10 fx_ck_99 fx_w_binds fx_w_castI
set_option maxRecDepth 100000 in
theorem fx_ck_100 : fx_chk fx_kd fx_M100 64 = true := by decide +kernel
theorem fx_kk_100 : fx_Mok fx_M100 ∧ fx_Cok fx_Y fx_M100 := fx_ok_of (sz := 64) (fun _ _ h => fx_lts h) fx_pok10 fx_ck_100 fx_w_binds fx_w_castI
set_option maxRecDepth 100000 in
theorem fx_ck_101 : fx_chk fx_kd fx_M101 74 = true := by decide +kernel
theorem fx_kk_101 : fx_Mok fx_M101 ∧ fx_Cok fx_Y fx_M101 := fx_ok_of (sz := 74) (fun _ _ h => fx_lts h) fx_pok10 fx_ck_101 fx_w_binds fx_w_castI
set_option maxRecDepth 100000 in
theorem fx_ck_102 : fx_chk fx_kd fx_M102 51 = true := by decide +kernel
theorem fx_kk_102 : fx_Mok fx_M102 ∧ fx_Cok fx_Y fx_M102 := fx_ok_of (sz := 51) (fun _ _ h => fx_lts h) fx_pok10 fx_ck_102 fx_w_binds fx_w_castI
set_option maxRecDepth 100000 in
theorem fx_ck_103 : fx_chk fx_kd fx_M103 45 = true := by decide +kernel
theorem fx_kk_103 : fx_Mok fx_M103 ∧ fx_Cok fx_Y fx_M103 := fx_ok_of (sz := 45) (fun _ _ h => fx_lts h) fx_pok10 fx_ck_103 fx_w_binds fx_w_castI
set_option maxRecDepth 100000 in
theorem fx_ck_104 : fx_chk fx_kd fx_M104 34 = true := by decide +kernel
theorem fx_kk_104 : fx_Mok fx_M104 ∧ fx_Cok fx_Y fx_M104 := fx_ok_of (sz := 34) (fun _ _ h => fx_lts h) fx_pok10 fx_ck_104 fx_w_binds fx_w_castI
set_option maxRecDepth 100000 in
theorem fx_ck_105 : fx_chk fx_kd fx_M105 15 = true := by decide +kernel
theorem fx_kk_105 : fx_Mok fx_M105 ∧ fx_Cok fx_Y fx_M105 := fx_ok_of (sz := 15) (fun _ _ h => fx_lts h) fx_pok10 fx_ck_105 fx_w_binds fx_w_castI
set_option maxRecDepth 100000 in
theorem fx_ck_106 : fx_chk fx_kd fx_M106 23 = true := by decide +kernel
theorem fx_kk_106 : fx_Mok fx_M106 ∧ fx_Cok fx_Y fx_M106 := fx_ok_of (sz := 23) (fun _ _ h => fx_lts h) fx_pok10 fx_ck_106 fx_w_binds fx_w_castI
set_option maxRecDepth 100000 in
theorem fx_ck_107 : fx_chk fx_kd fx_M107 23 = true := by decide +kernel
theorem fx_kk_107 : fx_Mok fx_M107 ∧ fx_Cok fx_Y fx_M107 := fx_ok_of (sz := 23) (fun _ _ h => fx_lts h) fx_pok10 fx_ck_107 fx_w_binds fx_w_castI
set_option maxRecDepth 100000 in
theorem fx_ck_108 : fx_chk fx_kd fx_M108 111 = true := by decide +kernel
theorem fx_kk_108 : fx_Mok fx_M108 ∧ fx_Cok fx_Y fx_M108 := fx_ok_of (sz := 111) (fun _ _ h => fx_lts h) fx_pok10 fx_ck_108 fx_w_binds fx_w_castI
set_option maxRecDepth 100000 in
theorem fx_ck_109 : fx_chk fx_kd fx_M109 59 = true := by decide +kernel
theorem fx_kk_109 : fx_Mok fx_M109 ∧ fx_Cok fx_Y fx_M109 := fx_ok_of (sz := 59) (fun _ _ h => fx_lts h) fx_pok10 fx_ck_109 fx_w_binds fx_w_castI
set_option maxRecDepth 100000 in
theorem fx_ck_110 : fx_chk fx_kd fx_M110 69 = true := by decide +kernel
theorem fx_kk_110 : fx_Mok fx_M110 ∧ fx_Cok fx_Y fx_M110 := fx_ok_of (sz := 69) (fun _ _ h => fx_lts h) fx_pok10 fx_ck_110 fx_w_binds fx_w_castI
set_option maxRecDepth 100000 in
theorem fx_ck_111 : fx_chk fx_kd fx_M111 38 = true := by decide +kernel
theorem fx_kk_111 : fx_Mok fx_M111 ∧ fx_Cok fx_Y fx_M111 := fx_ok_of (sz := 38) (fun _ _ h => fx_lts h) fx_pok10 fx_ck_111 fx_w_binds fx_w_castI
set_option maxRecDepth 100000 in
theorem fx_ck_112 : fx_chk fx_kd fx_M112 35 = true := by decide +kernel
theorem fx_kk_112 : fx_Mok fx_M112 ∧ fx_Cok fx_Y fx_M112 := fx_ok_of (sz := 35) (fun _ _ h => fx_lts h) fx_pok10 fx_ck_112 fx_w_binds fx_w_castI
set_option maxRecDepth 100000 in
theorem fx_ck_113 : fx_chk fx_kd fx_M113 96 = true := by decide +kernel
theorem fx_kk_113 : fx_Mok fx_M113 ∧ fx_Cok fx_Y fx_M113 := fx_ok_of (sz := 96) (fun _ _ h => fx_lts h) fx_pok10 fx_ck_113 fx_w_binds fx_w_castI
set_option maxRecDepth 100000 in
theorem fx_ck_114 : fx_chk fx_kd fx_M114 129 = true := by decide +kernel
theorem fx_kk_114 : fx_Mok fx_M114 ∧ fx_Cok fx_Y fx_M114 := fx_ok_of (sz := 129) (fun _ _ h => fx_lts h) fx_pok10 fx_ck_114 fx_w_binds fx_w_castI
set_option maxRecDepth 100000 in
theorem fx_ck_115 : fx_chk fx_kd fx_M115 140 = true := by decide +kernel
theorem fx_kk_115 : fx_Mok fx_M115 ∧ fx_Cok fx_Y fx_M115 := fx_ok_of (sz := 140) (fun _ _ h => fx_lts h) fx_pok10 fx_ck_115 fx_w_binds fx_w_castI
set_option maxRecDepth 100000 in
theorem fx_ck_116 : fx_chk fx_kd fx_M116 106 = true := by decide +kernel
theorem fx_kk_116 : fx_Mok fx_M116 ∧ fx_Cok fx_Y fx_M116 := fx_ok_of (sz := 106) (fun _ _ h => fx_lts h) fx_pok10 fx_ck_116 fx_w_binds fx_w_castI
set_option maxRecDepth 100000 in
theorem fx_ck_117 : fx_chk fx_kd fx_M117 105 = true := by decide +kernel
theorem fx_kk_117 : fx_Mok fx_M117 ∧ fx_Cok fx_Y fx_M117 := fx_ok_of (sz := 105) (fun _ _ h => fx_lts h) fx_pok10 fx_ck_117 fx_w_binds fx_w_castI
set_option maxRecDepth 100000 in
theorem fx_ck_118 : fx_chk fx_kd fx_M118 76 = true := by decide +kernel
theorem fx_kk_118 : fx_Mok fx_M118 ∧ fx_Cok fx_Y fx_M118 := fx_ok_of (sz := 76) (fun _ _ h => fx_lts h) fx_pok10 fx_ck_118 fx_w_binds fx_w_castI
set_option maxRecDepth 100000 in
theorem fx_ck_119 : fx_chk fx_kd fx_M119 67 = true := by decide +kernel
theorem fx_kk_119 : fx_Mok fx_M119 ∧ fx_Cok fx_Y fx_M119 := fx_ok_of (sz := 67) (fun _ _ h => fx_lts h) fx_pok10 fx_ck_119 fx_w_binds fx_w_castI
set_option maxRecDepth 100000 in
theorem fx_ck_120 : fx_chk fx_kd fx_M120 39 = true := by decide +kernel
theorem fx_kk_120 : fx_Mok fx_M120 ∧ fx_Cok fx_Y fx_M120 := fx_ok_of (sz := 39) (fun _ _ h => fx_lts h) fx_pok10 fx_ck_120 fx_w_binds fx_w_castI
set_option maxRecDepth 100000 in
theorem fx_ck_121 : fx_chk fx_kd fx_M121 140 = true := by decide +kernel
theorem fx_kk_121 : fx_Mok fx_M121 ∧ fx_Cok fx_Y fx_M121 := fx_ok_of (sz := 140) (fun _ _ h => fx_lts h) fx_pok10 fx_ck_121 fx_w_binds fx_w_castI
set_option maxRecDepth 100000 in
theorem fx_ck_122 : fx_chk fx_kd fx_M122 144 = true := by decide +kernel
theorem fx_kk_122 : fx_Mok fx_M122 ∧ fx_Cok fx_Y fx_M122 := fx_ok_of (sz := 144) (fun _ _ h => fx_lts h) fx_pok10 fx_ck_122 fx_w_binds fx_w_castI
set_option maxRecDepth 100000 in
theorem fx_ck_123 : fx_chk fx_kd fx_M123 158 = true := by decide +kernel
theorem fx_kk_123 : fx_Mok fx_M123 ∧ fx_Cok fx_Y fx_M123 := fx_ok_of (sz := 158) (fun _ _ h => fx_lts h) fx_pok10 fx_ck_123 fx_w_binds fx_w_castI
set_option maxRecDepth 100000 in
theorem fx_ck_124 : fx_chk fx_kd fx_M124 125 = true := by decide +kernel
theorem fx_kk_124 : fx_Mok fx_M124 ∧ fx_Cok fx_Y fx_M124 := fx_ok_of (sz := 125) (fun _ _ h => fx_lts h) fx_pok10 fx_ck_124 fx_w_binds fx_w_castI
set_option maxRecDepth 100000 in
theorem fx_ck_125 : fx_chk fx_kd fx_M125 6 = true := by decide +kernel
theorem fx_kk_125 : fx_Mok fx_M125 ∧ fx_Cok fx_Y fx_M125 := fx_ok_of (sz := 6) (fun _ _ h => fx_lts h) fx_pok10 fx_ck_125 fx_w_binds fx_w_castI
set_option maxRecDepth 100000 in
theorem fx_ck_126 : fx_chk fx_kd fx_M126 143 = true := by decide +kernel
theorem fx_kk_126 : fx_Mok fx_M126 ∧ fx_Cok fx_Y fx_M126 := fx_ok_of (sz := 143) (fun _ _ h => fx_lts h) fx_pok10 fx_ck_126 fx_w_binds fx_w_castI
set_option maxRecDepth 100000 in
theorem fx_ck_127 : fx_chk fx_kd fx_M127 67 = true := by decide +kernel
theorem fx_kk_127 : fx_Mok fx_M127 ∧ fx_Cok fx_Y fx_M127 := fx_ok_of (sz := 67) (fun _ _ h => fx_lts h) fx_pok10 fx_ck_127 fx_w_binds fx_w_castI
set_option maxRecDepth 100000 in
theorem fx_ck_128 : fx_chk fx_kd fx_M128 87 = true := by decide +kernel
theorem fx_kk_128 : fx_Mok fx_M128 ∧ fx_Cok fx_Y fx_M128 := fx_ok_of (sz := 87) (fun _ _ h => fx_lts h) fx_pok10 fx_ck_128 fx_w_binds fx_w_castI
set_option maxRecDepth 100000 in
theorem fx_ck_129 : fx_chk fx_kd fx_M129 63 = true := by decide +kernel
theorem fx_kk_129 : fx_Mok fx_M129 ∧ fx_Cok fx_Y fx_M129 := fx_ok_of (sz := 63) (fun _ _ h => fx_lts h) fx_pok10 fx_ck_129 fx_w_binds fx_w_castI
set_option maxRecDepth 100000 in
theorem fx_ck_130 : fx_chk fx_kd fx_M130 115 = true := by decide +kernel
theorem fx_kk_130 : fx_Mok fx_M130 ∧ fx_Cok fx_Y fx_M130 := fx_ok_of (sz := 115) (fun _ _ h => fx_lts h) fx_pok10 fx_ck_130 fx_w_binds fx_w_castI
set_option maxRecDepth 100000 in
theorem fx_ck_131 : fx_chk fx_kd fx_M131 44 = true := by decide +kernel
theorem fx_kk_131 : fx_Mok fx_M131 ∧ fx_Cok fx_Y fx_M131 := fx_ok_of (sz := 44) (fun _ _ h => fx_lts h) fx_pok10 fx_ck_131 fx_w_binds fx_w_castI
set_option maxRecDepth 100000 in
theorem fx_ck_132 : fx_chk fx_kd fx_M132 115 = true := by decide +kernel
theorem fx_kk_132 : fx_Mok fx_M132 ∧ fx_Cok fx_Y fx_M132 := fx_ok_of (sz := 115) (fun _ _ h => fx_lts h) fx_pok10 fx_ck_132 fx_w_binds fx_w_castI
set_option maxRecDepth 100000 in
theorem fx_ck_133 : fx_chk fx_kd fx_M133 96 = true := by decide +kernel
theorem fx_kk_133 : fx_Mok fx_M133 ∧ fx_Cok fx_Y fx_M133 := fx_ok_of (sz := 96) (fun _ _ h => fx_lts h) fx_pok10 fx_ck_133 fx_w_binds fx_w_castI
set_option maxRecDepth 100000 in
theorem fx_ck_134 : fx_chk fx_kd fx_M134 24 = true := by decide +kernel
theorem fx_kk_134 : fx_Mok fx_M134 ∧ fx_Cok fx_Y fx_M134 := fx_ok_of (sz := 24) (fun _ _ h => fx_lts h) fx_pok10 fx_ck_134 fx_w_binds fx_w_castI
set_option maxRecDepth 100000 in
theorem fx_ck_135 : fx_chk fx_kd fx_M135 145 = true := by decide +kernel
theorem fx_kk_135 : fx_Mok fx_M135 ∧ fx_Cok fx_Y fx_M135 := fx_ok_of (sz := 145) (fun _ _ h => fx_lts h) fx_pok10 fx_ck_135 fx_w_binds fx_w_castI
set_option maxRecDepth 100000 in
theorem fx_ck_136 : fx_chk fx_kd fx_M136 91 = true := by decide +kernel
theorem fx_kk_136 : fx_Mok fx_M136 ∧ fx_Cok fx_Y fx_M136 := fx_ok_of (sz := 91) (fun _ _ h => fx_lts h) fx_pok10 fx_ck_136 fx_w_binds fx_w_castI
set_option maxRecDepth 100000 in
theorem fx_ck_137 : fx_chk fx_kd fx_M137 16 = true := by decide +kernel
theorem fx_kk_137 : fx_Mok fx_M137 ∧ fx_Cok fx_Y fx_M137 := fx_ok_of (sz := 16) (fun _ _ h => fx_lts h) fx_pok10 fx_ck_137 fx_w_binds fx_w_castI
set_option maxRecDepth 100000 in
theorem fx_ck_138 : fx_chk fx_kd fx_M138 6 = true := by decide +kernel
theorem fx_kk_138 : fx_Mok fx_M138 ∧ fx_Cok fx_Y fx_M138 := fx_ok_of (sz := 6) (fun _ _ h => fx_lts h) fx_pok10 fx_ck_138 fx_w_binds fx_w_castI
set_option maxRecDepth 100000 in
theorem fx_ck_139 : fx_chk fx_kd fx_M139 42 = true := by decide +kernel
theorem fx_kk_139 : fx_Mok fx_M139 ∧ fx_Cok fx_Y fx_M139 := fx_ok_of (sz := 42) (fun _ _ h => fx_lts h) fx_pok10 fx_ck_139 fx_w_binds fx_w_castI
set_option maxRecDepth 100000 in
theorem fx_ck_140 : fx_chk fx_kd fx_M140 51 = true := by decide +kernel
theorem fx_kk_140 : fx_Mok fx_M140 ∧ fx_Cok fx_Y fx_M140 := fx_ok_of (sz := 51) (fun _ _ h => fx_lts h) fx_pok10 fx_ck_140 fx_w_binds fx_w_castI
set_option maxRecDepth 100000 in
theorem fx_ck_251 : fx_chk fx_kd fx_M251 53 = true := by decide +kernel
theorem fx_kk_251 : fx_Mok fx_M251 ∧ fx_Cok fx_Y fx_M251 := fx_ok_of (sz := 53) (fun _ _ h => fx_lts h) fx_pok12 fx_ck_251 fx_w_binds fx_w_castI
set_option maxRecDepth 100000 in
theorem fx_ck_252 : fx_chk fx_kd fx_M252 61 = true := by decide +kernel
theorem fx_kk_252 : fx_Mok fx_M252 ∧ fx_Cok fx_Y fx_M252 := fx_ok_of (sz := 61) (fun _ _ h => fx_lts h) fx_pok13 fx_ck_252 fx_w_binds fx_w_castI
set_option maxRecDepth 100000 in
theorem fx_ck_253 : fx_chk fx_kd fx_M253 21 = true := by decide +kernel
theorem fx_kk_253 : fx_Mok fx_M253 ∧ fx_Cok fx_Y fx_M253 := fx_ok_of (sz := 21) (fun _ _ h => fx_lts h) fx_pok14 fx_ck_253 fx_w_binds fx_w_castI
set_option maxRecDepth 100000 in
theorem fx_ck_254 : fx_chk fx_kd fx_M254 33 = true := by decide +kernel
theorem fx_kk_254 : fx_Mok fx_M254 ∧ fx_Cok fx_Y fx_M254 := fx_ok_of (sz := 33) (fun _ _ h => fx_lts h) fx_pok14 fx_ck_254 fx_w_binds fx_w_castI
