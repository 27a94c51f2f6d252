-- 20c
set_option maxRecDepth 100000 in
theorem fx_ck_141 : fx_chk fx_kd fx_M141 185 = true := by decide +kernel
theorem fx_kk_141 : fx_Mok fx_M141 ∧ fx_Cok fx_Y fx_M141 := fx_ok_of (sz := 185) (fun _ _ h => fx_lts h) fx_pok11 fx_ck_141 fx_w_binds fx_w_castI
set_option maxRecDepth 100000 in
theorem fx_ck_142 : fx_chk fx_kd fx_M142 19 = true := by decide +kernel
theorem fx_kk_142 : fx_Mok fx_M142 ∧ fx_Cok fx_Y fx_M142 := fx_ok_of (sz := 19) (fun _ _ h => fx_lts h) fx_pok11 fx_ck_142 fx_w_binds fx_w_castI
set_option maxRecDepth 100000 in
theorem fx_ck_143 : fx_chk fx_kd fx_M143 15 = true := by decide +kernel
theorem fx_kk_143 : fx_Mok fx_M143 ∧ fx_Cok fx_Y fx_M143 := fx_ok_of (sz := 15) (fun _ _ h => fx_lts h) fx_pok11 fx_ck_143 fx_w_binds fx_w_castI
set_option maxRecDepth 100000 in
theorem fx_ck_144 : fx_chk fx_kd fx_M144 22 = true := by decide +kernel
theorem fx_kk_144 : fx_Mok fx_M144 ∧ fx_Cok fx_Y fx_M144 := fx_ok_of (sz := 22) (fun _ _ h => fx_lts h) fx_pok11 fx_ck_144 fx_w_binds fx_w_castI
set_option maxRecDepth 100000 in
theorem fx_ck_145 : fx_chk fx_kd fx_M145 37 = true := by decide +kernel
theorem fx_kk_145 : fx_Mok fx_M145 ∧ fx_Cok fx_Y fx_M145 := fx_ok_of (sz := 37) (fun _ _ h => fx_lts h) fx_pok11 fx_ck_145 fx_w_binds fx_w_castI
set_option maxRecDepth 100000 in
theorem fx_ck_146 : fx_chk fx_kd fx_M146 47 = true := by decide +kernel
theorem fx_kk_146 : fx_Mok fx_M146 ∧ fx_Cok fx_Y fx_M146 := fx_ok_of (sz := 47) (fun _ _ h => fx_lts h) fx_pok11 fx_ck_146 fx_w_binds fx_w_castI
set_option maxRecDepth 100000 in
theorem fx_ck_147 : fx_chk fx_kd fx_M147 21 = true := by decide +kernel
theorem fx_kk_147 : fx_Mok fx_M147 ∧ fx_Cok fx_Y fx_M147 := fx_ok_of (sz := 21) (fun _ _ h => fx_lts h) fx_pok11 fx_ck_147 fx_w_binds fx_w_castI
set_option maxRecDepth 100000 in
theorem fx_ck_148 : fx_chk fx_kd fx_M148 21 = true := by decide +kernel
theorem fx_kk_148 : fx_Mok fx_M148 ∧ fx_Cok fx_Y fx_M148 := fx_ok_of (sz := 21) (fun _ _ h => fx_lts h) fx_pok11 fx_ck_148 fx_w_binds fx_w_castI
set_option maxRecDepth 100000 in
theorem fx_ck_149 : fx_chk fx_kd fx_M149 67 = true := by decide +kernel
theorem fx_kk_149 : fx_Mok fx_M149 ∧ fx_Cok fx_Y fx_M149 := fx_ok_of (sz := 67) (fun _ _ h => fx_lts h) fx_pok11 fx_ck_149 fx_w_binds fx_w_castI
set_option maxRecDepth 100000 in
theorem fx_ck_150 : fx_chk fx_kd fx_M150 36 = true := by decide +kernel
theorem fx_kk_150 : fx_Mok fx_M150 ∧ fx_Cok fx_Y fx_M150 := fx_ok_of (sz := 36) (fun _ _ h => fx_lts h) fx_pok11 fx_ck_150 fx_w_binds fx_w_castI
set_option maxRecDepth 100000 in
theorem fx_ck_151 : fx_chk fx_kd fx_M151 36 = true := by decide +kernel
theorem fx_kk_151 : fx_Mok fx_M151 ∧ fx_Cok fx_Y fx_M151 := fx_ok_of (sz := 36) (fun _ _ h => fx_lts h) fx_pok11 fx_ck_151 fx_w_binds fx_w_castI
set_option maxRecDepth 100000 in
theorem fx_ck_152 : fx_chk fx_kd fx_M152 80 = true := by decide +kernel
theorem fx_kk_152 : fx_Mok fx_M152 ∧ fx_Cok fx_Y fx_M152 := fx_ok_of (sz := 80) (fun _ _ h => fx_lts h) fx_pok11 fx_ck_152 fx_w_binds fx_w_castI
set_option maxRecDepth 100000 in
theorem fx_ck_153 : fx_chk fx_kd fx_M153 25 = true := by decide +kernel
theorem fx_kk_153 : fx_Mok fx_M153 ∧ fx_Cok fx_Y fx_M153 := fx_ok_of (sz := 25) (fun _ _ h => fx_lts h) fx_pok11 fx_ck_153 fx_w_binds fx_w_castI
set_option maxRecDepth 100000 in
theorem fx_ck_154 : fx_chk fx_kd fx_M154 16 = true := by decide +kernel
theorem fx_kk_154 : fx_Mok fx_M154 ∧ fx_Cok fx_Y fx_M154 := fx_ok_of (sz := 16) (fun _ _ h => fx_lts h) fx_pok11 fx_ck_154 fx_w_binds fx_w_castI
set_option maxRecDepth 100000 in
theorem fx_ck_155 : fx_chk fx_kd fx_M155 132 = true := by decide +kernel
theorem fx_kk_155 : fx_Mok fx_M155 ∧ fx_Cok fx_Y fx_M155 := fx_ok_of (sz := 132) (fun _ _ h => fx_lts h) fx_pok11 fx_ck_155 fx_w_binds fx_w_castI
set_option maxRecDepth 100000 in
theorem fx_ck_156 : fx_chk fx_kd fx_M156 143 = true := by decide +kernel
theorem fx_kk_156 : fx_Mok fx_M156 ∧ fx_Cok fx_Y fx_M156 := fx_ok_of (sz := 143) (fun _ _ h => fx_lts h) fx_pok11 fx_ck_156 fx_w_binds fx_w_castI
set_option maxRecDepth 100000 in
theorem fx_ck_157 : fx_chk fx_kd fx_M157 43 = true := by decide +kernel
theorem fx_kk_157 : fx_Mok fx_M157 ∧ fx_Cok fx_Y fx_M157 := fx_ok_of (sz := 43) (fun _ _ h => fx_lts h) fx_pok11 fx_ck_157 fx_w_binds fx_w_castI
set_option maxRecDepth 100000 in
theorem fx_ck_158 : fx_chk fx_kd fx_M158 28 = true := by decide +kernel
theorem fx_kk_158 : fx_Mok fx_M158 ∧ fx_Cok fx_Y fx_M158 := fx_ok_of (sz := 28) (fun _ _ h => fx_lts h) fx_pok11 fx_ck_158 fx_w_binds fx_w_castI
set_option maxRecDepth 100000 in
theorem fx_ck_159 : fx_chk fx_kd fx_M159 51 = true := by decide +kernel
theorem fx_kk_159 : fx_Mok fx_M159 ∧ fx_Cok fx_Y fx_M159 := fx_ok_of (sz := 51) (fun _ _ h => fx_lts h) fx_pok11 fx_ck_159 fx_w_binds fx_w_castI
set_option maxRecDepth 100000 in
theorem fx_ck_160 : fx_chk fx_kd fx_M160 32 = true := by decide +kernel
theorem fx_kk_160 : fx_Mok fx_M160 ∧ fx_Cok fx_Y fx_M160 := fx_ok_of (sz := 32) (fun _ _ h => fx_lts h) fx_pok11 fx_ck_160 fx_w_binds fx_w_castI
set_option maxRecDepth 100000 in
theorem fx_ck_161 : fx_chk fx_kd fx_M161 77 = true := by decide +kernel
theorem fx_kk_161 : fx_Mok fx_M161 ∧ fx_Cok fx_Y fx_M161 := fx_ok_of (sz := 77) (fun _ _ h => fx_lts h) fx_pok11 fx_ck_161 fx_w_binds fx_w_castI
set_option maxRecDepth 100000 in
theorem fx_ck_162 : fx_chk fx_kd fx_M162 90 = true := by decide +kernel
theorem fx_kk_162 : fx_Mok fx_M162 ∧ fx_Cok fx_Y fx_M162 := fx_ok_of (sz := 90) (fun _ _ h => fx_lts h) fx_pok11 fx_ck_162 fx_w_binds fx_w_castI
set_option maxRecDepth 100000 in
theorem fx_ck_163 : fx_chk fx_kd fx_M163 105 = true := by decide +kernel
theorem fx_kk_163 : fx_Mok fx_M163 ∧ fx_Cok fx_Y fx_M163 := fx_ok_of (sz := 105) (fun _ _ h => fx_lts h) fx_pok11 fx_ck_163 fx_w_binds fx_w_castI
set_option maxRecDepth 100000 in
theorem fx_ck_164 : fx_chk fx_kd fx_M164 77 = true := by decide +kernel
theorem fx_kk_164 : fx_Mok fx_M164 ∧ fx_Cok fx_Y fx_M164 := fx_ok_of (sz := 77) (fun _ _ h => fx_lts h) fx_pok11 fx_ck_164 fx_w_binds fx_w_castI
set_option maxRecDepth 100000 in
theorem fx_ck_165 : fx_chk fx_kd fx_M165 175 = true := by decide +kernel
theorem fx_kk_165 : fx_Mok fx_M165 ∧ fx_Cok fx_Y fx_M165 := fx_ok_of (sz := 175) (fun _ _ h => fx_lts h) fx_pok11 fx_ck_165 fx_w_binds fx_w_castI
set_option maxRecDepth 100000 in
theorem fx_ck_166 : fx_chk fx_kd fx_M166 80 = true := by decide +kernel
theorem fx_kk_166 : fx_Mok fx_M166 ∧ fx_Cok fx_Y fx_M166 := fx_ok_of (sz := 80) (fun _ _ h => fx_lts h) fx_pok11 fx_ck_166 fx_w_binds fx_w_castI
set_option maxRecDepth 100000 in
theorem fx_ck_167 : fx_chk fx_kd fx_M167 31 = true := by decide +kernel
theorem fx_kk_167 : fx_Mok fx_M167 ∧ fx_Cok fx_Y fx_M167 := fx_ok_of (sz := 31) (fun _ _ h => fx_lts h) fx_pok11 fx_ck_167 fx_w_binds fx_w_castI
set_option maxRecDepth 100000 in
theorem fx_ck_168 : fx_chk fx_kd fx_M168 65 = true := by decide +kernel
theorem fx_kk_168 : fx_Mok fx_M168 ∧ fx_Cok fx_Y fx_M168 := fx_ok_of (sz := 65) (fun _ _ h => fx_lts h) fx_pok11 fx_ck_168 fx_w_binds fx_w_castI
set_option maxRecDepth 100000 in
theorem fx_ck_169 : fx_chk fx_kd fx_M169 141 = true := by decide +kernel
theorem fx_kk_169 : fx_Mok fx_M169 ∧ fx_Cok fx_Y fx_M169 := fx_ok_of (sz := 141) (fun _ _ h => fx_lts h) fx_pok11 fx_ck_169 fx_w_binds fx_w_castI
set_option maxRecDepth 100000 in
theorem fx_ck_170 : fx_chk fx_kd fx_M170 142 = true := by decide +kernel
theorem fx_kk_170 : fx_Mok fx_M170 ∧ fx_Cok fx_Y fx_M170 := fx_ok_of (sz := 142) (fun _ _ h => fx_lts h) fx_pok11 fx_ck_170 fx_w_binds fx_w_castI
set_option maxRecDepth 100000 in
theorem fx_ck_171 : fx_chk fx_kd fx_M171 23 = true := by decide +kernel
theorem fx_kk_171 : fx_Mok fx_M171 ∧ fx_Cok fx_Y fx_M171 := fx_ok_of (sz := 23) (fun _ _ h => fx_lts h) fx_pok11 fx_ck_171 fx_w_binds fx_w_castI
set_option maxRecDepth 100000 in
theorem fx_ck_172 : fx_chk fx_kd fx_M172 64 = true := by decide +kernel
theorem fx_kk_172 : fx_Mok fx_M172 ∧ fx_Cok fx_Y fx_M172 := fx_ok_of (sz := 64) (fun _ _ h => fx_lts h) fx_pok11 fx_ck_172 fx_w_binds fx_w_castI
set_option maxRecDepth 100000 in
theorem fx_ck_173 : fx_chk fx_kd fx_M173 74 = true := by decide +kernel
theorem fx_kk_173 : fx_Mok fx_M173 ∧ fx_Cok fx_Y fx_M173 := fx_ok_of (sz := 74) (fun _ _ h => fx_lts h) fx_pok11 fx_ck_173 fx_w_binds fx_w_castI
set_option maxRecDepth 100000 in
theorem fx_ck_174 : fx_chk fx_kd fx_M174 51 = true := by decide +kernel
theorem fx_kk_174 : fx_Mok fx_M174 ∧ fx_Cok fx_Y fx_M174 := fx_ok_of (sz := 51) (fun _ _ h => fx_lts h) fx_pok11 fx_ck_174 fx_w_binds fx_w_castI
set_option maxRecDepth 100000 in
theorem fx_ck_175 : fx_chk fx_kd fx_M175 55 = true := by decide +kernel
theorem fx_kk_175 : fx_Mok fx_M175 ∧ fx_Cok fx_Y fx_M175 := fx_ok_of (sz := 55) (fun _ _ h => fx_lts h) fx_pok11 fx_ck_175 fx_w_binds fx_w_castI
set_option maxRecDepth 100000 in
theorem fx_ck_176 : fx_chk fx_kd fx_M176 36 = true := by decide +kernel
theorem fx_kk_176 : fx_Mok fx_M176 ∧ fx_Cok fx_Y fx_M176 := fx_ok_of (sz := 36) (fun _ _ h => fx_lts h) fx_pok11 fx_ck_176 fx_w_binds fx_w_castI
set_option maxRecDepth 100000 in
theorem fx_ck_177 : fx_chk fx_kd fx_M177 108 = true := by decide +kernel
theorem fx_kk_177 : fx_Mok fx_M177 ∧ fx_Cok fx_Y fx_M177 := fx_ok_of (sz := 108) (fun _ _ h => fx_lts h) fx_pok11 fx_ck_177 fx_w_binds fx_w_castI
set_option maxRecDepth 100000 in
theorem fx_ck_178 : fx_chk fx_kd fx_M178 106 = true := by decide +kernel
theorem fx_kk_178 : fx_Mok fx_M178 ∧ fx_Cok fx_Y fx_M178 := fx_ok_of (sz := 106) (fun _ _ h => fx_lts h) fx_pok11 fx_ck_178 fx_w_binds fx_w_castI
set_option maxRecDepth 100000 in
theorem fx_ck_179 : fx_chk fx_kd fx_M179 61 = true := by decide +kernel
theorem fx_kk_179 : fx_Mok fx_M179 ∧ fx_Cok fx_Y fx_M179 := fx_ok_of (sz := 61) (fun _ _ h => fx_lts h) fx_pok11 fx_ck_179 fx_w_binds fx_w_castI
set_option maxRecDepth 100000 in
theorem fx_ck_180 : fx_chk fx_kd fx_M180 94 = true := by decide +kernel
theorem fx_kk_180 : fx_Mok fx_M180 ∧ fx_Cok fx_Y fx_M180 := fx_ok_of (sz := 94) (fun _ _ h => fx_lts h) fx_pok11 fx_ck_180 fx_w_binds fx_w_castI
set_option maxRecDepth 100000 in
theorem fx_ck_181 : fx_chk fx_kd fx_M181 18 = true := by decide +kernel
theorem fx_kk_181 : fx_Mok fx_M181 ∧ fx_Cok fx_Y fx_M181 := fx_ok_of (sz := 18) (fun _ _ h => fx_lts h) fx_pok11 fx_ck_181 fx_w_binds fx_w_castI
set_option maxRecDepth 100000 in
theorem fx_ck_182 : fx_chk fx_kd fx_M182 21 = true := by decide +kernel
theorem fx_kk_182 : fx_Mok fx_M182 ∧ fx_Cok fx_Y fx_M182 := fx_ok_of (sz := 21) (fun _ _ h => fx_lts h) fx_pok11 fx_ck_182 fx_w_binds fx_w_castI
set_option maxRecDepth 100000 in
theorem fx_ck_183 : fx_chk fx_kd fx_M183 20 = true := by decide +kernel
theorem fx_kk_183 : fx_Mok fx_M183 ∧ fx_Cok fx_Y fx_M183 := fx_ok_of (sz := 20) (fun _ _ h => fx_lts h) fx_pok11 fx_ck_183 fx_w_binds fx_w_castI
set_option maxRecDepth 100000 in
theorem fx_ck_184 : fx_chk fx_kd fx_M184 176 = true := by decide +kernel
theorem fx_kk_184 : fx_Mok fx_M184 ∧ fx_Cok fx_Y fx_M184 := fx_ok_of (sz := 176) (fun _ _ h => fx_lts h) fx_pok11 fx_ck_184 fx_w_binds fx_w_castI
set_option maxRecDepth 100000 in
theorem fx_ck_185 : fx_chk fx_kd fx_M185 140 = true := by decide +kernel
theorem fx_kk_185 : fx_Mok fx_M185 ∧ fx_Cok fx_Y fx_M185 := fx_ok_of (sz := 140) (fun _ _ h => fx_lts h) fx_pok11 fx_ck_185 fx_w_binds fx_w_castI
set_option maxRecDepth 100000 in
theorem fx_ck_186 : fx_chk fx_kd fx_M186 16 = true := by decide +kernel
theorem fx_kk_186 : fx_Mok fx_M186 ∧ fx_Cok fx_Y fx_M186 := fx_ok_of (sz := 16) (fun _ _ h => fx_lts h) fx_pok11 fx_ck_186 fx_w_binds fx_w_castI
set_option maxRecDepth 100000 in
theorem fx_ck_187 : fx_chk fx_kd fx_M187 20 = true := by decide +kernel
theorem fx_kk_187 : fx_Mok fx_M187 ∧ fx_Cok fx_Y fx_M187 := fx_ok_of (sz := 20) (fun _ _ h => fx_lts h) fx_pok11 fx_ck_187 fx_w_binds fx_w_castI
set_option maxRecDepth 100000 in
theorem fx_ck_188 : fx_chk fx_kd fx_M188 12 = true := by decide +kernel
theorem fx_kk_188 : fx_Mok fx_M188 ∧ fx_Cok fx_Y fx_M188 := fx_ok_of (sz := 12) (fun _ _ h => fx_lts h) fx_pok11 fx_ck_188 fx_w_binds fx_w_castI
set_option maxRecDepth 100000 in
theorem fx_ck_189 : fx_chk fx_kd fx_M189 14 = true := by decide +kernel
theorem fx_kk_189 : fx_Mok fx_M189 ∧ fx_Cok fx_Y fx_M189 := fx_ok_of (sz := 14) (fun _ _ h => fx_lts h) fx_pok11 fx_ck_189 fx_w_binds fx_w_castI
set_option maxRecDepth 100000 in
theorem fx_ck_190 : fx_chk fx_kd fx_M190 22 = true := by decide +kernel
theorem fx_kk_190 : fx_Mok fx_M190 ∧ fx_Cok fx_Y fx_M190 := fx_ok_of (sz := 22) (fun _ _ h => fx_lts h) fx_pok11 fx_ck_190 fx_w_binds fx_w_castI
set_option maxRecDepth 100000 in
theorem fx_ck_191 : fx_chk fx_kd fx_M191 14 = true := by decide +kernel
theorem fx_kk_191 : fx_Mok fx_M191 ∧ fx_Cok fx_Y fx_M191 := fx_ok_of (sz := 14) (fun _ _ h => fx_lts h) fx_pok11 fx_ck_191 fx_w_binds fx_w_castI
set_option maxRecDepth 100000 in
theorem fx_ck_192 : fx_chk fx_kd fx_M192 40 = true := by decide +kernel
theorem fx_kk_192 : fx_Mok fx_M192 ∧ fx_Cok fx_Y fx_M192 := fx_ok_of (sz := 40) (fun _ _ h => fx_lts h) fx_pok11 fx_ck_192 fx_w_binds fx_w_castI
set_option maxRecDepth 100000 in
theorem fx_ck_193 : fx_chk fx_kd fx_M193 30 = true := by decide +kernel
theorem fx_kk_193 : fx_Mok fx_M193 ∧ fx_Cok fx_Y fx_M193 := fx_ok_of (sz := 30) (fun _ _ h => fx_lts h) fx_pok11 fx_ck_193 fx_w_binds fx_w_castI
set_option maxRecDepth 100000 in
theorem fx_ck_194 : fx_chk fx_kd fx_M194 20 = true := by decide +kernel
theorem fx_kk_194 : fx_Mok fx_M194 ∧ fx_Cok fx_Y fx_M194 := fx_ok_of (sz := 20) (fun _ _ h => fx_lts h) fx_pok11 fx_ck_194 fx_w_binds fx_w_castI
set_option maxRecDepth 100000 in
theorem fx_ck_195 : fx_chk fx_kd fx_M195 46 = true := by decide +kernel
theorem fx_kk_195 : fx_Mok fx_M195 ∧ fx_Cok fx_Y fx_M195 := fx_ok_of (sz := 46) (fun _ _ h => fx_lts h) fx_pok11 fx_ck_195 fx_w_binds fx_w_castI
