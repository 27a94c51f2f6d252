-- 20d
set_option maxRecDepth 100000 in
theorem fx_ck_196 : fx_chk fx_kd fx_M196 120 = true := by decide +kernel
theorem fx_kk_196 : fx_Mok fx_M196 ∧ fx_Cok fx_Y fx_M196 := fx_ok_of (sz := 120) (fun _ _ h => fx_lts h) fx_pok11 fx_ck_196 fx_w_binds fx_w_castI
set_option maxRecDepth 100000 in
theorem fx_ck_197 : fx_chk fx_kd fx_M197 28 = true := by decide +kernel
theorem fx_kk_197 : fx_Mok fx_M197 ∧ fx_Cok fx_Y fx_M197 := fx_ok_of (sz := 28) (fun _ _ h => fx_lts h) fx_pok11 fx_ck_197 fx_w_binds fx_w_castI
set_option maxRecDepth 100000 in
theorem fx_ck_198 : fx_chk fx_kd fx_M198 38 = true := by decide +kernel
theorem fx_kk_198 : fx_Mok fx_M198 ∧ fx_Cok fx_Y fx_M198 := fx_ok_of (sz := 38) (fun _ _ h => fx_lts h) fx_pok11 fx_ck_198 fx_w_binds fx_w_castI
set_option maxRecDepth 100000 in
theorem fx_ck_199 : fx_chk fx_kd fx_M199 27 = true := by decide +kernel
theorem fx_kk_199 : fx_Mok fx_M199 ∧ fx_Cok fx_Y fx_M199 := fx_ok_of (sz := 27) (fun _ _ h => fx_lts h) fx_pok11 fx_ck_199 fx_w_binds fx_w_castI
set_option maxRecDepth 100000 in
theorem fx_ck_200 : fx_chk fx_kd fx_M200 26 = true := by decide +kernel
theorem fx_kk_200 : fx_Mok fx_M200 ∧ fx_Cok fx_Y fx_M200 := fx_ok_of (sz := 26) (fun _ _ h => fx_lts h) fx_pok11 fx_ck_200 fx_w_binds fx_w_castI
set_option maxRecDepth 100000 in
theorem fx_ck_201 : fx_chk fx_kd fx_M201 86 = true := by decide +kernel
theorem fx_kk_201 : fx_Mok fx_M201 ∧ fx_Cok fx_Y fx_M201 := fx_ok_of (sz := 86) (fun _ _ h => fx_lts h) fx_pok11 fx_ck_201 fx_w_binds fx_w_castI
set_option maxRecDepth 100000 in
theorem fx_ck_202 : fx_chk fx_kd fx_M202 233 = true := by decide +kernel
theorem fx_kk_202 : fx_Mok fx_M202 ∧ fx_Cok fx_Y fx_M202 := fx_ok_of (sz := 233) (fun _ _ h => fx_lts h) fx_pok11 fx_ck_202 fx_w_binds fx_w_castI
set_option maxRecDepth 100000 in
theorem fx_ck_203 : fx_chk fx_kd fx_M203 79 = true := by decide +kernel
theorem fx_kk_203 : fx_Mok fx_M203 ∧ fx_Cok fx_Y fx_M203 := fx_ok_of (sz := 79) (fun _ _ h => fx_lts h) fx_pok11 fx_ck_203 fx_w_binds fx_w_castI
set_option maxRecDepth 100000 in
theorem fx_ck_204 : fx_chk fx_kd fx_M204 49 = true := by decide +kernel
theorem fx_kk_204 : fx_Mok fx_M204 ∧ fx_Cok fx_Y fx_M204 := fx_ok_of (sz := 49) (fun _ _ h => fx_lts h) fx_pok11 fx_ck_204 fx_w_binds fx_w_castI
set_option maxRecDepth 100000 in
theorem fx_ck_205 : fx_chk fx_kd fx_M205 49 = true := by decide +kernel
theorem fx_kk_205 : fx_Mok fx_M205 ∧ fx_Cok fx_Y fx_M205 := fx_ok_of (sz := 49) (fun _ _ h => fx_lts h) fx_pok11 fx_ck_205 fx_w_binds fx_w_castI
set_option maxRecDepth 100000 in
theorem fx_ck_206 : fx_chk fx_kd fx_M206 192 = true := by decide +kernel
theorem fx_kk_206 : fx_Mok fx_M206 ∧ fx_Cok fx_Y fx_M206 := fx_ok_of (sz := 192) (fun _ _ h => fx_lts h) fx_pok11 fx_ck_206 fx_w_binds fx_w_castI
set_option maxRecDepth 100000 in
theorem fx_ck_207 : fx_chk fx_kd fx_M207 19 = true := by decide +kernel
theorem fx_kk_207 : fx_Mok fx_M207 ∧ fx_Cok fx_Y fx_M207 := fx_ok_of (sz := 19) (fun _ _ h => fx_lts h) fx_pok11 fx_ck_207 fx_w_binds fx_w_castI
set_option maxRecDepth 100000 in
theorem fx_ck_208 : fx_chk fx_kd fx_M208 98 = true := by decide +kernel
theorem fx_kk_208 : fx_Mok fx_M208 ∧ fx_Cok fx_Y fx_M208 := fx_ok_of (sz := 98) (fun _ _ h => fx_lts h) fx_pok11 fx_ck_208 fx_w_binds fx_w_castI
set_option maxRecDepth 100000 in
theorem fx_ck_209 : fx_chk fx_kd fx_M209 61 = true := by decide +kernel
theorem fx_kk_209 : fx_Mok fx_M209 ∧ fx_Cok fx_Y fx_M209 := fx_ok_of (sz := 61) (fun _ _ h => fx_lts h) fx_pok11 fx_ck_209 fx_w_binds fx_w_castI
set_option maxRecDepth 100000 in
theorem fx_ck_210 : fx_chk fx_kd fx_M210 32 = true := by decide +kernel
theorem fx_kk_210 : fx_Mok fx_M210 ∧ fx_Cok fx_Y fx_M210 := fx_ok_of (sz := 32) (fun _ _ h => fx_lts h) fx_pok11 fx_ck_210 fx_w_binds fx_w_castI
set_option maxRecDepth 100000 in
theorem fx_ck_211 : fx_chk fx_kd fx_M211 57 = true := by decide +kernel
theorem fx_kk_211 : fx_Mok fx_M211 ∧ fx_Cok fx_Y fx_M211 := fx_ok_of (sz := 57) (fun _ _ h => fx_lts h) fx_pok11 fx_ck_211 fx_w_binds fx_w_castI
set_option maxRecDepth 100000 in
theorem fx_ck_212 : fx_chk fx_kd fx_M212 64 = true := by decide +kernel
theorem fx_kk_212 : fx_Mok fx_M212 ∧ fx_Cok fx_Y fx_M212 := fx_ok_of (sz := 64) (fun _ _ h => fx_lts h) fx_pok11 fx_ck_212 fx_w_binds fx_w_castI
set_option maxRecDepth 100000 in
theorem fx_ck_213 : fx_chk fx_kd fx_M213 52 = true := by decide +kernel
theorem fx_kk_213 : fx_Mok fx_M213 ∧ fx_Cok fx_Y fx_M213 := fx_ok_of (sz := 52) (fun _ _ h => fx_lts h) fx_pok11 fx_ck_213 fx_w_binds fx_w_castI
set_option maxRecDepth 100000 in
theorem fx_ck_214 : fx_chk fx_kd fx_M214 22 = true := by decide +kernel
theorem fx_kk_214 : fx_Mok fx_M214 ∧ fx_Cok fx_Y fx_M214 := fx_ok_of (sz := 22) (fun _ _ h => fx_lts h) fx_pok11 fx_ck_214 fx_w_binds fx_w_castI
set_option maxRecDepth 100000 in
theorem fx_ck_215 : fx_chk fx_kd fx_M215 33 = true := by decide +kernel
theorem fx_kk_215 : fx_Mok fx_M215 ∧ fx_Cok fx_Y fx_M215 := fx_ok_of (sz := 33) (fun _ _ h => fx_lts h) fx_pok11 fx_ck_215 fx_w_binds fx_w_castI
set_option maxRecDepth 100000 in
theorem fx_ck_216 : fx_chk fx_kd fx_M216 30 = true := by decide +kernel
theorem fx_kk_216 : fx_Mok fx_M216 ∧ fx_Cok fx_Y fx_M216 := fx_ok_of (sz := 30) (fun _ _ h => fx_lts h) fx_pok11 fx_ck_216 fx_w_binds fx_w_castI
set_option maxRecDepth 100000 in
theorem fx_ck_217 : fx_chk fx_kd fx_M217 30 = true := by decide +kernel
theorem fx_kk_217 : fx_Mok fx_M217 ∧ fx_Cok fx_Y fx_M217 := fx_ok_of (sz := 30) (fun _ _ h => fx_lts h) fx_pok11 fx_ck_217 fx_w_binds fx_w_castI
set_option maxRecDepth 100000 in
theorem fx_ck_218 : fx_chk fx_kd fx_M218 17 = true := by decide +kernel
theorem fx_kk_218 : fx_Mok fx_M218 ∧ fx_Cok fx_Y fx_M218 := fx_ok_of (sz := 17) (fun _ _ h => fx_lts h) fx_pok11 fx_ck_218 fx_w_binds fx_w_castI
set_option maxRecDepth 100000 in
theorem fx_ck_219 : fx_chk fx_kd fx_M219 95 = true := by decide +kernel
theorem fx_kk_219 : fx_Mok fx_M219 ∧ fx_Cok fx_Y fx_M219 := fx_ok_of (sz := 95) (fun _ _ h => fx_lts h) fx_pok11 fx_ck_219 fx_w_binds fx_w_castI
set_option maxRecDepth 100000 in
theorem fx_ck_220 : fx_chk fx_kd fx_M220 60 = true := by decide +kernel
theorem fx_kk_220 : fx_Mok fx_M220 ∧ fx_Cok fx_Y fx_M220 := fx_ok_of (sz := 60) (fun _ _ h => fx_lts h) fx_pok11 fx_ck_220 fx_w_binds fx_w_castI
set_option maxRecDepth 100000 in
theorem fx_ck_221 : fx_chk fx_kd fx_M221 95 = true := by decide +kernel
theorem fx_kk_221 : fx_Mok fx_M221 ∧ fx_Cok fx_Y fx_M221 := fx_ok_of (sz := 95) (fun _ _ h => fx_lts h) fx_pok11 fx_ck_221 fx_w_binds fx_w_castI
set_option maxRecDepth 100000 in
theorem fx_ck_222 : fx_chk fx_kd fx_M222 21 = true := by decide +kernel
theorem fx_kk_222 : fx_Mok fx_M222 ∧ fx_Cok fx_Y fx_M222 := fx_ok_of (sz := 21) (fun _ _ h => fx_lts h) fx_pok11 fx_ck_222 fx_w_binds fx_w_castI
set_option maxRecDepth 100000 in
theorem fx_ck_223 : fx_chk fx_kd fx_M223 246 = true := by decide +kernel
theorem fx_kk_223 : fx_Mok fx_M223 ∧ fx_Cok fx_Y fx_M223 := fx_ok_of (sz := 246) (fun _ _ h => fx_lts h) fx_pok11 fx_ck_223 fx_w_binds fx_w_castI
set_option maxRecDepth 100000 in
theorem fx_ck_224 : fx_chk fx_kd fx_M224 23 = true := by decide +kernel
theorem fx_kk_224 : fx_Mok fx_M224 ∧ fx_Cok fx_Y fx_M224 := fx_ok_of (sz := 23) (fun _ _ h => fx_lts h) fx_pok11 fx_ck_224 fx_w_binds fx_w_castI
set_option maxRecDepth 100000 in
theorem fx_ck_225 : fx_chk fx_kd fx_M225 118 = true := by decide +kernel
theorem fx_kk_225 : fx_Mok fx_M225 ∧ fx_Cok fx_Y fx_M225 := fx_ok_of (sz := 118) (fun _ _ h => fx_lts h) fx_pok11 fx_ck_225 fx_w_binds fx_w_castI
set_option maxRecDepth 100000 in
theorem fx_ck_226 : fx_chk fx_kd fx_M226 67 = true := by decide +kernel
theorem fx_kk_226 : fx_Mok fx_M226 ∧ fx_Cok fx_Y fx_M226 := fx_ok_of (sz := 67) (fun _ _ h => fx_lts h) fx_pok11 fx_ck_226 fx_w_binds fx_w_castI
set_option maxRecDepth 100000 in
theorem fx_ck_227 : fx_chk fx_kd fx_M227 157 = true := by decide +kernel
theorem fx_kk_227 : fx_Mok fx_M227 ∧ fx_Cok fx_Y fx_M227 := fx_ok_of (sz := 157) (fun _ _ h => fx_lts h) fx_pok11 fx_ck_227 fx_w_binds fx_w_castI
set_option maxRecDepth 100000 in
theorem fx_ck_228 : fx_chk fx_kd fx_M228 30 = true := by decide +kernel
theorem fx_kk_228 : fx_Mok fx_M228 ∧ fx_Cok fx_Y fx_M228 := fx_ok_of (sz := 30) (fun _ _ h => fx_lts h) fx_pok11 fx_ck_228 fx_w_binds fx_w_castI
set_option maxRecDepth 100000 in
theorem fx_ck_229 : fx_chk fx_kd fx_M229 80 = true := by decide +kernel
theorem fx_kk_229 : fx_Mok fx_M229 ∧ fx_Cok fx_Y fx_M229 := fx_ok_of (sz := 80) (fun _ _ h => fx_lts h) fx_pok11 fx_ck_229 fx_w_binds fx_w_castI
set_option maxRecDepth 100000 in
theorem fx_ck_230 : fx_chk fx_kd fx_M230 83 = true := by decide +kernel
theorem fx_kk_230 : fx_Mok fx_M230 ∧ fx_Cok fx_Y fx_M230 := fx_ok_of (sz := 83) (fun _ _ h => fx_lts h) fx_pok11 fx_ck_230 fx_w_binds fx_w_castI
set_option maxRecDepth 100000 in
theorem fx_ck_231 : fx_chk fx_kd fx_M231 49 = true := by decide +kernel
theorem fx_kk_231 : fx_Mok fx_M231 ∧ fx_Cok fx_Y fx_M231 := fx_ok_of (sz := 49) (fun _ _ h => fx_lts h) fx_pok11 fx_ck_231 fx_w_binds fx_w_castI
set_option maxRecDepth 100000 in
theorem fx_ck_232 : fx_chk fx_kd fx_M232 140 = true := by decide +kernel
theorem fx_kk_232 : fx_Mok fx_M232 ∧ fx_Cok fx_Y fx_M232 := fx_ok_of (sz := 140) (fun _ _ h => fx_lts h) fx_pok11 fx_ck_232 fx_w_binds fx_w_castI
set_option maxRecDepth 100000 in
theorem fx_ck_233 : fx_chk fx_kd fx_M233 143 = true := by decide +kernel
theorem fx_kk_233 : fx_Mok fx_M233 ∧ fx_Cok fx_Y fx_M233 := fx_ok_of (sz := 143) (fun _ _ h => fx_lts h) fx_pok11 fx_ck_233 fx_w_binds fx_w_castI
set_option maxRecDepth 100000 in
theorem fx_ck_234 : fx_chk fx_kd fx_M234 75 = true := by decide +kernel
theorem fx_kk_234 : fx_Mok fx_M234 ∧ fx_Cok fx_Y fx_M234 := fx_ok_of (sz := 75) (fun _ _ h => fx_lts h) fx_pok11 fx_ck_234 fx_w_binds fx_w_castI
set_option maxRecDepth 100000 in
theorem fx_ck_235 : fx_chk fx_kd fx_M235 281 = true := by decide +kernel
theorem fx_kk_235 : fx_Mok fx_M235 ∧ fx_Cok fx_Y fx_M235 := fx_ok_of (sz := 281) (fun _ _ h => fx_lts h) fx_pok11 fx_ck_235 fx_w_binds fx_w_castI
set_option maxRecDepth 100000 in
theorem fx_ck_236 : fx_chk fx_kd fx_M236 147 = true := by decide +kernel
theorem fx_kk_236 : fx_Mok fx_M236 ∧ fx_Cok fx_Y fx_M236 := fx_ok_of (sz := 147) (fun _ _ h => fx_lts h) fx_pok11 fx_ck_236 fx_w_binds fx_w_castI
set_option maxRecDepth 100000 in
theorem fx_ck_237 : fx_chk fx_kd fx_M237 163 = true := by decide +kernel
theorem fx_kk_237 : fx_Mok fx_M237 ∧ fx_Cok fx_Y fx_M237 := fx_ok_of (sz := 163) (fun _ _ h => fx_lts h) fx_pok11 fx_ck_237 fx_w_binds fx_w_castI
set_option maxRecDepth 100000 in
theorem fx_ck_238 : fx_chk fx_kd fx_M238 123 = true := by decide +kernel
theorem fx_kk_238 : fx_Mok fx_M238 ∧ fx_Cok fx_Y fx_M238 := fx_ok_of (sz := 123) (fun _ _ h => fx_lts h) fx_pok11 fx_ck_238 fx_w_binds fx_w_castI
set_option maxRecDepth 100000 in
theorem fx_ck_239 : fx_chk fx_kd fx_M239 67 = true := by decide +kernel
theorem fx_kk_239 : fx_Mok fx_M239 ∧ fx_Cok fx_Y fx_M239 := fx_ok_of (sz := 67) (fun _ _ h => fx_lts h) fx_pok11 fx_ck_239 fx_w_binds fx_w_castI
set_option maxRecDepth 100000 in
theorem fx_ck_240 : fx_chk fx_kd fx_M240 139 = true := by decide +kernel
theorem fx_kk_240 : fx_Mok fx_M240 ∧ fx_Cok fx_Y fx_M240 := fx_ok_of (sz := 139) (fun _ _ h => fx_lts h) fx_pok11 fx_ck_240 fx_w_binds fx_w_castI
set_option maxRecDepth 100000 in
theorem fx_ck_241 : fx_chk fx_kd fx_M241 78 = true := by decide +kernel
theorem fx_kk_241 : fx_Mok fx_M241 ∧ fx_Cok fx_Y fx_M241 := fx_ok_of (sz := 78) (fun _ _ h => fx_lts h) fx_pok11 fx_ck_241 fx_w_binds fx_w_castI
set_option maxRecDepth 100000 in
theorem fx_ck_242 : fx_chk fx_kd fx_M242 109 = true := by decide +kernel
theorem fx_kk_242 : fx_Mok fx_M242 ∧ fx_Cok fx_Y fx_M242 := fx_ok_of (sz := 109) (fun _ _ h => fx_lts h) fx_pok11 fx_ck_242 fx_w_binds fx_w_castI
set_option maxRecDepth 100000 in
theorem fx_ck_243 : fx_chk fx_kd fx_M243 108 = true := by decide +kernel
theorem fx_kk_243 : fx_Mok fx_M243 ∧ fx_Cok fx_Y fx_M243 := fx_ok_of (sz := 108) (fun _ _ h => fx_lts h) fx_pok11 fx_ck_243 fx_w_binds fx_w_castI
set_option maxRecDepth 100000 in
theorem fx_ck_244 : fx_chk fx_kd fx_M244 18 = true := by decide +kernel
theorem fx_kk_244 : fx_Mok fx_M244 ∧ fx_Cok fx_Y fx_M244 := fx_ok_of (sz := 18) (fun _ _ h => fx_lts h) fx_pok11 fx_ck_244 fx_w_binds fx_w_castI
set_option maxRecDepth 100000 in
theorem fx_ck_245 : fx_chk fx_kd fx_M245 33 = true := by decide +kernel
theorem fx_kk_245 : fx_Mok fx_M245 ∧ fx_Cok fx_Y fx_M245 := fx_ok_of (sz := 33) (fun _ _ h => fx_lts h) fx_pok11 fx_ck_245 fx_w_binds fx_w_castI
set_option maxRecDepth 100000 in
theorem fx_ck_246 : fx_chk fx_kd fx_M246 41 = true := by decide +kernel
theorem fx_kk_246 : fx_Mok fx_M246 ∧ fx_Cok fx_Y fx_M246 := fx_ok_of (sz := 41) (fun _ _ h => fx_lts h) fx_pok11 fx_ck_246 fx_w_binds fx_w_castI
set_option maxRecDepth 100000 in
theorem fx_ck_247 : fx_chk fx_kd fx_M247 190 = true := by decide +kernel
theorem fx_kk_247 : fx_Mok fx_M247 ∧ fx_Cok fx_Y fx_M247 := fx_ok_of (sz := 190) (fun _ _ h => fx_lts h) fx_pok11 fx_ck_247 fx_w_binds fx_w_castI
set_option maxRecDepth 100000 in
theorem fx_ck_248 : fx_chk fx_kd fx_M248 168 = true := by decide +kernel
theorem fx_kk_248 : fx_Mok fx_M248 ∧ fx_Cok fx_Y fx_M248 := fx_ok_of (sz := 168) (fun _ _ h => fx_lts h) fx_pok11 fx_ck_248 fx_w_binds fx_w_castI
set_option maxRecDepth 100000 in
theorem fx_ck_249 : fx_chk fx_kd fx_M249 80 = true := by decide +kernel
theorem fx_kk_249 : fx_Mok fx_M249 ∧ fx_Cok fx_Y fx_M249 := fx_ok_of (sz := 80) (fun _ _ h => fx_lts h) fx_pok11 fx_ck_249 fx_w_binds fx_w_castI
set_option maxRecDepth 100000 in
theorem fx_ck_250 : fx_chk fx_kd fx_M250 87 = true := by decide +kernel
theorem fx_kk_250 : fx_Mok fx_M250 ∧ fx_Cok fx_Y fx_M250 := fx_ok_of (sz := 87) (fun _ _ h => fx_lts h) fx_pok11 fx_ck_250 fx_w_binds fx_w_castI
