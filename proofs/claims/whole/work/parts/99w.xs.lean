/-! the start: what the tables and the premises say (by wip/whole/gen_start.py) -/
def fx_tm (i : Nat) : Term := match i with
  | 0 => .string "FoxReply$HuntReader" 48
  | 1 => .string "FoxReply$HuntReader" 54
  | 2 => .string "FoxReply$HuntReader" 56
  | 3 => .string "FoxReply$RuleReader" 156
  | 4 => .string "FoxReply$RuleReader" 158
  | 5 => .string "FoxReply$RuleReader" 160
  | 6 => .string "FoxReply$RuleReader" 162
  | 7 => .string "FoxReply$RuleReader" 164
  | 8 => .string "FoxReply$RuleReader" 166
  | 9 => .string "FoxReply$RuleReader" 170
  | 10 => .string "FoxReply$RuleReader" 172
  | 11 => .string "FoxReply$RuleReader" 174
  | 12 => .string "FoxReply$RuleReader" 176
  | 13 => .string "FoxReply$RuleReader" 178
  | 14 => .string "FoxReply$RuleReader" 180
  | 15 => .string "FoxReply$RuleReader" 182
  | 16 => .string "FoxReply$RuleReader" 184
  | _ => .string "FoxReply$RuleReader" 186
abbrev fx_gf : List Cond := flatC (Jvm.Cond.and given_1 narrow_1)
theorem st_ex : ∀ i, i < 18 → Cond.exactly (fx_tm i) "java/lang/String" ∈ fx_gf := by decide +kernel
theorem st_co : ∀ i, i < 18 → Cond.eq (.field (fx_tm i) "java/lang/String" "coder" "B") (.int 0) ∈ fx_gf := by decide +kernel
theorem st_ar : ∀ i, i < 18 → Cond.arrayOf (.field (fx_tm i) "java/lang/String" "value" "[B") .byte ∈ fx_gf := by decide +kernel
theorem st_le : ∀ i, i < 18 → Cond.eq (.length (.field (fx_tm i) "java/lang/String" "value" "[B")) (.int (Int32.ofNat (fx_slen.getD i 0))) ∈ fx_gf := by decide +kernel
theorem st_el : ∀ i, i < 18 → ∀ j, j < fx_slen.getD i 0 → Cond.eq (.elem (.field (fx_tm i) "java/lang/String" "value" "[B") (.int (Int32.ofNat j))) (.int ((fx_sbyt.getD i []).getD j 0)) ∈ fx_gf := by decide +kernel
theorem st_p_0_1 : Cond.not (Cond.eq (fx_tm 0) (fx_tm 1)) ∈ fx_gf := List.mem_of_getElem? (i := 78) (by decide +kernel)
theorem st_p_0_2 : Cond.not (Cond.eq (fx_tm 0) (fx_tm 2)) ∈ fx_gf := List.mem_of_getElem? (i := 87) (by decide +kernel)
theorem st_p_0_3 : Cond.not (Cond.eq (fx_tm 0) (fx_tm 3)) ∈ fx_gf := List.mem_of_getElem? (i := 109) (by decide +kernel)
theorem st_p_0_4 : Cond.not (Cond.eq (fx_tm 0) (fx_tm 4)) ∈ fx_gf := List.mem_of_getElem? (i := 120) (by decide +kernel)
theorem st_p_0_5 : Cond.not (Cond.eq (fx_tm 0) (fx_tm 5)) ∈ fx_gf := List.mem_of_getElem? (i := 135) (by decide +kernel)
theorem st_p_0_6 : Cond.not (Cond.eq (fx_tm 0) (fx_tm 6)) ∈ fx_gf := List.mem_of_getElem? (i := 150) (by decide +kernel)
theorem st_p_0_7 : Cond.not (Cond.eq (fx_tm 0) (fx_tm 7)) ∈ fx_gf := List.mem_of_getElem? (i := 164) (by decide +kernel)
theorem st_p_0_8 : Cond.not (Cond.eq (fx_tm 0) (fx_tm 8)) ∈ fx_gf := List.mem_of_getElem? (i := 179) (by decide +kernel)
theorem st_p_0_9 : Cond.not (Cond.eq (fx_tm 0) (fx_tm 9)) ∈ fx_gf := List.mem_of_getElem? (i := 217) (by decide +kernel)
theorem st_p_0_10 : Cond.not (Cond.eq (fx_tm 0) (fx_tm 10)) ∈ fx_gf := List.mem_of_getElem? (i := 235) (by decide +kernel)
theorem st_p_0_11 : Cond.not (Cond.eq (fx_tm 0) (fx_tm 11)) ∈ fx_gf := List.mem_of_getElem? (i := 255) (by decide +kernel)
theorem st_p_0_12 : Cond.not (Cond.eq (fx_tm 0) (fx_tm 12)) ∈ fx_gf := List.mem_of_getElem? (i := 275) (by decide +kernel)
theorem st_p_0_13 : Cond.not (Cond.eq (fx_tm 0) (fx_tm 13)) ∈ fx_gf := List.mem_of_getElem? (i := 295) (by decide +kernel)
theorem st_p_0_14 : Cond.not (Cond.eq (fx_tm 0) (fx_tm 14)) ∈ fx_gf := List.mem_of_getElem? (i := 317) (by decide +kernel)
theorem st_p_0_15 : Cond.not (Cond.eq (fx_tm 0) (fx_tm 15)) ∈ fx_gf := List.mem_of_getElem? (i := 339) (by decide +kernel)
theorem st_p_0_16 : Cond.not (Cond.eq (fx_tm 0) (fx_tm 16)) ∈ fx_gf := List.mem_of_getElem? (i := 364) (by decide +kernel)
theorem st_p_0_17 : Cond.not (Cond.eq (fx_tm 0) (fx_tm 17)) ∈ fx_gf := List.mem_of_getElem? (i := 386) (by decide +kernel)
theorem st_q_0 : ∀ j, 0 < j → j < 18 → Cond.not (Cond.eq (fx_tm 0) (fx_tm j)) ∈ fx_gf := fun j a b => by
  rcases (show j = 1 ∨ j = 2 ∨ j = 3 ∨ j = 4 ∨ j = 5 ∨ j = 6 ∨ j = 7 ∨ j = 8 ∨ j = 9 ∨ j = 10 ∨ j = 11 ∨ j = 12 ∨ j = 13 ∨ j = 14 ∨ j = 15 ∨ j = 16 ∨ j = 17 by omega) with rfl | rfl | rfl | rfl | rfl | rfl | rfl | rfl | rfl | rfl | rfl | rfl | rfl | rfl | rfl | rfl | rfl
  · exact st_p_0_1
  · exact st_p_0_2
  · exact st_p_0_3
  · exact st_p_0_4
  · exact st_p_0_5
  · exact st_p_0_6
  · exact st_p_0_7
  · exact st_p_0_8
  · exact st_p_0_9
  · exact st_p_0_10
  · exact st_p_0_11
  · exact st_p_0_12
  · exact st_p_0_13
  · exact st_p_0_14
  · exact st_p_0_15
  · exact st_p_0_16
  · exact st_p_0_17
theorem st_p_1_2 : Cond.not (Cond.eq (fx_tm 1) (fx_tm 2)) ∈ fx_gf := List.mem_of_getElem? (i := 88) (by decide +kernel)
theorem st_p_1_3 : Cond.not (Cond.eq (fx_tm 1) (fx_tm 3)) ∈ fx_gf := List.mem_of_getElem? (i := 110) (by decide +kernel)
theorem st_p_1_4 : Cond.not (Cond.eq (fx_tm 1) (fx_tm 4)) ∈ fx_gf := List.mem_of_getElem? (i := 121) (by decide +kernel)
theorem st_p_1_5 : Cond.not (Cond.eq (fx_tm 1) (fx_tm 5)) ∈ fx_gf := List.mem_of_getElem? (i := 136) (by decide +kernel)
theorem st_p_1_6 : Cond.not (Cond.eq (fx_tm 1) (fx_tm 6)) ∈ fx_gf := List.mem_of_getElem? (i := 151) (by decide +kernel)
theorem st_p_1_7 : Cond.not (Cond.eq (fx_tm 1) (fx_tm 7)) ∈ fx_gf := List.mem_of_getElem? (i := 165) (by decide +kernel)
theorem st_p_1_8 : Cond.not (Cond.eq (fx_tm 1) (fx_tm 8)) ∈ fx_gf := List.mem_of_getElem? (i := 180) (by decide +kernel)
theorem st_p_1_9 : Cond.not (Cond.eq (fx_tm 1) (fx_tm 9)) ∈ fx_gf := List.mem_of_getElem? (i := 218) (by decide +kernel)
theorem st_p_1_10 : Cond.not (Cond.eq (fx_tm 1) (fx_tm 10)) ∈ fx_gf := List.mem_of_getElem? (i := 236) (by decide +kernel)
theorem st_p_1_11 : Cond.not (Cond.eq (fx_tm 1) (fx_tm 11)) ∈ fx_gf := List.mem_of_getElem? (i := 256) (by decide +kernel)
theorem st_p_1_12 : Cond.not (Cond.eq (fx_tm 1) (fx_tm 12)) ∈ fx_gf := List.mem_of_getElem? (i := 276) (by decide +kernel)
theorem st_p_1_13 : Cond.not (Cond.eq (fx_tm 1) (fx_tm 13)) ∈ fx_gf := List.mem_of_getElem? (i := 296) (by decide +kernel)
theorem st_p_1_14 : Cond.not (Cond.eq (fx_tm 1) (fx_tm 14)) ∈ fx_gf := List.mem_of_getElem? (i := 318) (by decide +kernel)
theorem st_p_1_15 : Cond.not (Cond.eq (fx_tm 1) (fx_tm 15)) ∈ fx_gf := List.mem_of_getElem? (i := 340) (by decide +kernel)
theorem st_p_1_16 : Cond.not (Cond.eq (fx_tm 1) (fx_tm 16)) ∈ fx_gf := List.mem_of_getElem? (i := 365) (by decide +kernel)
theorem st_p_1_17 : Cond.not (Cond.eq (fx_tm 1) (fx_tm 17)) ∈ fx_gf := List.mem_of_getElem? (i := 387) (by decide +kernel)
theorem st_q_1 : ∀ j, 1 < j → j < 18 → Cond.not (Cond.eq (fx_tm 1) (fx_tm j)) ∈ fx_gf := fun j a b => by
  rcases (show j = 2 ∨ j = 3 ∨ j = 4 ∨ j = 5 ∨ j = 6 ∨ j = 7 ∨ j = 8 ∨ j = 9 ∨ j = 10 ∨ j = 11 ∨ j = 12 ∨ j = 13 ∨ j = 14 ∨ j = 15 ∨ j = 16 ∨ j = 17 by omega) with rfl | rfl | rfl | rfl | rfl | rfl | rfl | rfl | rfl | rfl | rfl | rfl | rfl | rfl | rfl | rfl
  · exact st_p_1_2
  · exact st_p_1_3
  · exact st_p_1_4
  · exact st_p_1_5
  · exact st_p_1_6
  · exact st_p_1_7
  · exact st_p_1_8
  · exact st_p_1_9
  · exact st_p_1_10
  · exact st_p_1_11
  · exact st_p_1_12
  · exact st_p_1_13
  · exact st_p_1_14
  · exact st_p_1_15
  · exact st_p_1_16
  · exact st_p_1_17
theorem st_p_2_3 : Cond.not (Cond.eq (fx_tm 2) (fx_tm 3)) ∈ fx_gf := List.mem_of_getElem? (i := 111) (by decide +kernel)
theorem st_p_2_4 : Cond.not (Cond.eq (fx_tm 2) (fx_tm 4)) ∈ fx_gf := List.mem_of_getElem? (i := 122) (by decide +kernel)
theorem st_p_2_5 : Cond.not (Cond.eq (fx_tm 2) (fx_tm 5)) ∈ fx_gf := List.mem_of_getElem? (i := 137) (by decide +kernel)
theorem st_p_2_6 : Cond.not (Cond.eq (fx_tm 2) (fx_tm 6)) ∈ fx_gf := List.mem_of_getElem? (i := 152) (by decide +kernel)
theorem st_p_2_7 : Cond.not (Cond.eq (fx_tm 2) (fx_tm 7)) ∈ fx_gf := List.mem_of_getElem? (i := 166) (by decide +kernel)
theorem st_p_2_8 : Cond.not (Cond.eq (fx_tm 2) (fx_tm 8)) ∈ fx_gf := List.mem_of_getElem? (i := 181) (by decide +kernel)
theorem st_p_2_9 : Cond.not (Cond.eq (fx_tm 2) (fx_tm 9)) ∈ fx_gf := List.mem_of_getElem? (i := 219) (by decide +kernel)
theorem st_p_2_10 : Cond.not (Cond.eq (fx_tm 2) (fx_tm 10)) ∈ fx_gf := List.mem_of_getElem? (i := 237) (by decide +kernel)
theorem st_p_2_11 : Cond.not (Cond.eq (fx_tm 2) (fx_tm 11)) ∈ fx_gf := List.mem_of_getElem? (i := 257) (by decide +kernel)
theorem st_p_2_12 : Cond.not (Cond.eq (fx_tm 2) (fx_tm 12)) ∈ fx_gf := List.mem_of_getElem? (i := 277) (by decide +kernel)
theorem st_p_2_13 : Cond.not (Cond.eq (fx_tm 2) (fx_tm 13)) ∈ fx_gf := List.mem_of_getElem? (i := 297) (by decide +kernel)
theorem st_p_2_14 : Cond.not (Cond.eq (fx_tm 2) (fx_tm 14)) ∈ fx_gf := List.mem_of_getElem? (i := 319) (by decide +kernel)
theorem st_p_2_15 : Cond.not (Cond.eq (fx_tm 2) (fx_tm 15)) ∈ fx_gf := List.mem_of_getElem? (i := 341) (by decide +kernel)
theorem st_p_2_16 : Cond.not (Cond.eq (fx_tm 2) (fx_tm 16)) ∈ fx_gf := List.mem_of_getElem? (i := 366) (by decide +kernel)
theorem st_p_2_17 : Cond.not (Cond.eq (fx_tm 2) (fx_tm 17)) ∈ fx_gf := List.mem_of_getElem? (i := 388) (by decide +kernel)
theorem st_q_2 : ∀ j, 2 < j → j < 18 → Cond.not (Cond.eq (fx_tm 2) (fx_tm j)) ∈ fx_gf := fun j a b => by
  rcases (show j = 3 ∨ j = 4 ∨ j = 5 ∨ j = 6 ∨ j = 7 ∨ j = 8 ∨ j = 9 ∨ j = 10 ∨ j = 11 ∨ j = 12 ∨ j = 13 ∨ j = 14 ∨ j = 15 ∨ j = 16 ∨ j = 17 by omega) with rfl | rfl | rfl | rfl | rfl | rfl | rfl | rfl | rfl | rfl | rfl | rfl | rfl | rfl | rfl
  · exact st_p_2_3
  · exact st_p_2_4
  · exact st_p_2_5
  · exact st_p_2_6
  · exact st_p_2_7
  · exact st_p_2_8
  · exact st_p_2_9
  · exact st_p_2_10
  · exact st_p_2_11
  · exact st_p_2_12
  · exact st_p_2_13
  · exact st_p_2_14
  · exact st_p_2_15
  · exact st_p_2_16
  · exact st_p_2_17
theorem st_p_3_4 : Cond.not (Cond.eq (fx_tm 3) (fx_tm 4)) ∈ fx_gf := List.mem_of_getElem? (i := 124) (by decide +kernel)
theorem st_p_3_5 : Cond.not (Cond.eq (fx_tm 3) (fx_tm 5)) ∈ fx_gf := List.mem_of_getElem? (i := 139) (by decide +kernel)
theorem st_p_3_6 : Cond.not (Cond.eq (fx_tm 3) (fx_tm 6)) ∈ fx_gf := List.mem_of_getElem? (i := 154) (by decide +kernel)
theorem st_p_3_7 : Cond.not (Cond.eq (fx_tm 3) (fx_tm 7)) ∈ fx_gf := List.mem_of_getElem? (i := 168) (by decide +kernel)
theorem st_p_3_8 : Cond.not (Cond.eq (fx_tm 3) (fx_tm 8)) ∈ fx_gf := List.mem_of_getElem? (i := 183) (by decide +kernel)
theorem st_p_3_9 : Cond.not (Cond.eq (fx_tm 3) (fx_tm 9)) ∈ fx_gf := List.mem_of_getElem? (i := 221) (by decide +kernel)
theorem st_p_3_10 : Cond.not (Cond.eq (fx_tm 3) (fx_tm 10)) ∈ fx_gf := List.mem_of_getElem? (i := 239) (by decide +kernel)
theorem st_p_3_11 : Cond.not (Cond.eq (fx_tm 3) (fx_tm 11)) ∈ fx_gf := List.mem_of_getElem? (i := 259) (by decide +kernel)
theorem st_p_3_12 : Cond.not (Cond.eq (fx_tm 3) (fx_tm 12)) ∈ fx_gf := List.mem_of_getElem? (i := 279) (by decide +kernel)
theorem st_p_3_13 : Cond.not (Cond.eq (fx_tm 3) (fx_tm 13)) ∈ fx_gf := List.mem_of_getElem? (i := 299) (by decide +kernel)
theorem st_p_3_14 : Cond.not (Cond.eq (fx_tm 3) (fx_tm 14)) ∈ fx_gf := List.mem_of_getElem? (i := 321) (by decide +kernel)
theorem st_p_3_15 : Cond.not (Cond.eq (fx_tm 3) (fx_tm 15)) ∈ fx_gf := List.mem_of_getElem? (i := 343) (by decide +kernel)
theorem st_p_3_16 : Cond.not (Cond.eq (fx_tm 3) (fx_tm 16)) ∈ fx_gf := List.mem_of_getElem? (i := 368) (by decide +kernel)
theorem st_p_3_17 : Cond.not (Cond.eq (fx_tm 3) (fx_tm 17)) ∈ fx_gf := List.mem_of_getElem? (i := 390) (by decide +kernel)
theorem st_q_3 : ∀ j, 3 < j → j < 18 → Cond.not (Cond.eq (fx_tm 3) (fx_tm j)) ∈ fx_gf := fun j a b => by
  rcases (show j = 4 ∨ j = 5 ∨ j = 6 ∨ j = 7 ∨ j = 8 ∨ j = 9 ∨ j = 10 ∨ j = 11 ∨ j = 12 ∨ j = 13 ∨ j = 14 ∨ j = 15 ∨ j = 16 ∨ j = 17 by omega) with rfl | rfl | rfl | rfl | rfl | rfl | rfl | rfl | rfl | rfl | rfl | rfl | rfl | rfl
  · exact st_p_3_4
  · exact st_p_3_5
  · exact st_p_3_6
  · exact st_p_3_7
  · exact st_p_3_8
  · exact st_p_3_9
  · exact st_p_3_10
  · exact st_p_3_11
  · exact st_p_3_12
  · exact st_p_3_13
  · exact st_p_3_14
  · exact st_p_3_15
  · exact st_p_3_16
  · exact st_p_3_17
theorem st_p_4_5 : Cond.not (Cond.eq (fx_tm 4) (fx_tm 5)) ∈ fx_gf := List.mem_of_getElem? (i := 140) (by decide +kernel)
theorem st_p_4_6 : Cond.not (Cond.eq (fx_tm 4) (fx_tm 6)) ∈ fx_gf := List.mem_of_getElem? (i := 155) (by decide +kernel)
theorem st_p_4_7 : Cond.not (Cond.eq (fx_tm 4) (fx_tm 7)) ∈ fx_gf := List.mem_of_getElem? (i := 169) (by decide +kernel)
theorem st_p_4_8 : Cond.not (Cond.eq (fx_tm 4) (fx_tm 8)) ∈ fx_gf := List.mem_of_getElem? (i := 184) (by decide +kernel)
theorem st_p_4_9 : Cond.not (Cond.eq (fx_tm 4) (fx_tm 9)) ∈ fx_gf := List.mem_of_getElem? (i := 222) (by decide +kernel)
theorem st_p_4_10 : Cond.not (Cond.eq (fx_tm 4) (fx_tm 10)) ∈ fx_gf := List.mem_of_getElem? (i := 240) (by decide +kernel)
theorem st_p_4_11 : Cond.not (Cond.eq (fx_tm 4) (fx_tm 11)) ∈ fx_gf := List.mem_of_getElem? (i := 260) (by decide +kernel)
theorem st_p_4_12 : Cond.not (Cond.eq (fx_tm 4) (fx_tm 12)) ∈ fx_gf := List.mem_of_getElem? (i := 280) (by decide +kernel)
theorem st_p_4_13 : Cond.not (Cond.eq (fx_tm 4) (fx_tm 13)) ∈ fx_gf := List.mem_of_getElem? (i := 300) (by decide +kernel)
theorem st_p_4_14 : Cond.not (Cond.eq (fx_tm 4) (fx_tm 14)) ∈ fx_gf := List.mem_of_getElem? (i := 322) (by decide +kernel)
theorem st_p_4_15 : Cond.not (Cond.eq (fx_tm 4) (fx_tm 15)) ∈ fx_gf := List.mem_of_getElem? (i := 344) (by decide +kernel)
theorem st_p_4_16 : Cond.not (Cond.eq (fx_tm 4) (fx_tm 16)) ∈ fx_gf := List.mem_of_getElem? (i := 369) (by decide +kernel)
theorem st_p_4_17 : Cond.not (Cond.eq (fx_tm 4) (fx_tm 17)) ∈ fx_gf := List.mem_of_getElem? (i := 391) (by decide +kernel)
theorem st_q_4 : ∀ j, 4 < j → j < 18 → Cond.not (Cond.eq (fx_tm 4) (fx_tm j)) ∈ fx_gf := fun j a b => by
  rcases (show j = 5 ∨ j = 6 ∨ j = 7 ∨ j = 8 ∨ j = 9 ∨ j = 10 ∨ j = 11 ∨ j = 12 ∨ j = 13 ∨ j = 14 ∨ j = 15 ∨ j = 16 ∨ j = 17 by omega) with rfl | rfl | rfl | rfl | rfl | rfl | rfl | rfl | rfl | rfl | rfl | rfl | rfl
  · exact st_p_4_5
  · exact st_p_4_6
  · exact st_p_4_7
  · exact st_p_4_8
  · exact st_p_4_9
  · exact st_p_4_10
  · exact st_p_4_11
  · exact st_p_4_12
  · exact st_p_4_13
  · exact st_p_4_14
  · exact st_p_4_15
  · exact st_p_4_16
  · exact st_p_4_17
theorem st_p_5_6 : Cond.not (Cond.eq (fx_tm 5) (fx_tm 6)) ∈ fx_gf := List.mem_of_getElem? (i := 156) (by decide +kernel)
theorem st_p_5_7 : Cond.not (Cond.eq (fx_tm 5) (fx_tm 7)) ∈ fx_gf := List.mem_of_getElem? (i := 170) (by decide +kernel)
theorem st_p_5_8 : Cond.not (Cond.eq (fx_tm 5) (fx_tm 8)) ∈ fx_gf := List.mem_of_getElem? (i := 185) (by decide +kernel)
theorem st_p_5_9 : Cond.not (Cond.eq (fx_tm 5) (fx_tm 9)) ∈ fx_gf := List.mem_of_getElem? (i := 223) (by decide +kernel)
theorem st_p_5_10 : Cond.not (Cond.eq (fx_tm 5) (fx_tm 10)) ∈ fx_gf := List.mem_of_getElem? (i := 241) (by decide +kernel)
theorem st_p_5_11 : Cond.not (Cond.eq (fx_tm 5) (fx_tm 11)) ∈ fx_gf := List.mem_of_getElem? (i := 261) (by decide +kernel)
theorem st_p_5_12 : Cond.not (Cond.eq (fx_tm 5) (fx_tm 12)) ∈ fx_gf := List.mem_of_getElem? (i := 281) (by decide +kernel)
theorem st_p_5_13 : Cond.not (Cond.eq (fx_tm 5) (fx_tm 13)) ∈ fx_gf := List.mem_of_getElem? (i := 301) (by decide +kernel)
theorem st_p_5_14 : Cond.not (Cond.eq (fx_tm 5) (fx_tm 14)) ∈ fx_gf := List.mem_of_getElem? (i := 323) (by decide +kernel)
theorem st_p_5_15 : Cond.not (Cond.eq (fx_tm 5) (fx_tm 15)) ∈ fx_gf := List.mem_of_getElem? (i := 345) (by decide +kernel)
theorem st_p_5_16 : Cond.not (Cond.eq (fx_tm 5) (fx_tm 16)) ∈ fx_gf := List.mem_of_getElem? (i := 370) (by decide +kernel)
theorem st_p_5_17 : Cond.not (Cond.eq (fx_tm 5) (fx_tm 17)) ∈ fx_gf := List.mem_of_getElem? (i := 392) (by decide +kernel)
theorem st_q_5 : ∀ j, 5 < j → j < 18 → Cond.not (Cond.eq (fx_tm 5) (fx_tm j)) ∈ fx_gf := fun j a b => by
  rcases (show j = 6 ∨ j = 7 ∨ j = 8 ∨ j = 9 ∨ j = 10 ∨ j = 11 ∨ j = 12 ∨ j = 13 ∨ j = 14 ∨ j = 15 ∨ j = 16 ∨ j = 17 by omega) with rfl | rfl | rfl | rfl | rfl | rfl | rfl | rfl | rfl | rfl | rfl | rfl
  · exact st_p_5_6
  · exact st_p_5_7
  · exact st_p_5_8
  · exact st_p_5_9
  · exact st_p_5_10
  · exact st_p_5_11
  · exact st_p_5_12
  · exact st_p_5_13
  · exact st_p_5_14
  · exact st_p_5_15
  · exact st_p_5_16
  · exact st_p_5_17
theorem st_p_6_7 : Cond.not (Cond.eq (fx_tm 6) (fx_tm 7)) ∈ fx_gf := List.mem_of_getElem? (i := 171) (by decide +kernel)
theorem st_p_6_8 : Cond.not (Cond.eq (fx_tm 6) (fx_tm 8)) ∈ fx_gf := List.mem_of_getElem? (i := 186) (by decide +kernel)
theorem st_p_6_9 : Cond.not (Cond.eq (fx_tm 6) (fx_tm 9)) ∈ fx_gf := List.mem_of_getElem? (i := 224) (by decide +kernel)
theorem st_p_6_10 : Cond.not (Cond.eq (fx_tm 6) (fx_tm 10)) ∈ fx_gf := List.mem_of_getElem? (i := 242) (by decide +kernel)
theorem st_p_6_11 : Cond.not (Cond.eq (fx_tm 6) (fx_tm 11)) ∈ fx_gf := List.mem_of_getElem? (i := 262) (by decide +kernel)
theorem st_p_6_12 : Cond.not (Cond.eq (fx_tm 6) (fx_tm 12)) ∈ fx_gf := List.mem_of_getElem? (i := 282) (by decide +kernel)
theorem st_p_6_13 : Cond.not (Cond.eq (fx_tm 6) (fx_tm 13)) ∈ fx_gf := List.mem_of_getElem? (i := 302) (by decide +kernel)
theorem st_p_6_14 : Cond.not (Cond.eq (fx_tm 6) (fx_tm 14)) ∈ fx_gf := List.mem_of_getElem? (i := 324) (by decide +kernel)
theorem st_p_6_15 : Cond.not (Cond.eq (fx_tm 6) (fx_tm 15)) ∈ fx_gf := List.mem_of_getElem? (i := 346) (by decide +kernel)
theorem st_p_6_16 : Cond.not (Cond.eq (fx_tm 6) (fx_tm 16)) ∈ fx_gf := List.mem_of_getElem? (i := 371) (by decide +kernel)
theorem st_p_6_17 : Cond.not (Cond.eq (fx_tm 6) (fx_tm 17)) ∈ fx_gf := List.mem_of_getElem? (i := 393) (by decide +kernel)
theorem st_q_6 : ∀ j, 6 < j → j < 18 → Cond.not (Cond.eq (fx_tm 6) (fx_tm j)) ∈ fx_gf := fun j a b => by
  rcases (show j = 7 ∨ j = 8 ∨ j = 9 ∨ j = 10 ∨ j = 11 ∨ j = 12 ∨ j = 13 ∨ j = 14 ∨ j = 15 ∨ j = 16 ∨ j = 17 by omega) with rfl | rfl | rfl | rfl | rfl | rfl | rfl | rfl | rfl | rfl | rfl
  · exact st_p_6_7
  · exact st_p_6_8
  · exact st_p_6_9
  · exact st_p_6_10
  · exact st_p_6_11
  · exact st_p_6_12
  · exact st_p_6_13
  · exact st_p_6_14
  · exact st_p_6_15
  · exact st_p_6_16
  · exact st_p_6_17
theorem st_p_7_8 : Cond.not (Cond.eq (fx_tm 7) (fx_tm 8)) ∈ fx_gf := List.mem_of_getElem? (i := 187) (by decide +kernel)
theorem st_p_7_9 : Cond.not (Cond.eq (fx_tm 7) (fx_tm 9)) ∈ fx_gf := List.mem_of_getElem? (i := 225) (by decide +kernel)
theorem st_p_7_10 : Cond.not (Cond.eq (fx_tm 7) (fx_tm 10)) ∈ fx_gf := List.mem_of_getElem? (i := 243) (by decide +kernel)
theorem st_p_7_11 : Cond.not (Cond.eq (fx_tm 7) (fx_tm 11)) ∈ fx_gf := List.mem_of_getElem? (i := 263) (by decide +kernel)
theorem st_p_7_12 : Cond.not (Cond.eq (fx_tm 7) (fx_tm 12)) ∈ fx_gf := List.mem_of_getElem? (i := 283) (by decide +kernel)
theorem st_p_7_13 : Cond.not (Cond.eq (fx_tm 7) (fx_tm 13)) ∈ fx_gf := List.mem_of_getElem? (i := 303) (by decide +kernel)
theorem st_p_7_14 : Cond.not (Cond.eq (fx_tm 7) (fx_tm 14)) ∈ fx_gf := List.mem_of_getElem? (i := 325) (by decide +kernel)
theorem st_p_7_15 : Cond.not (Cond.eq (fx_tm 7) (fx_tm 15)) ∈ fx_gf := List.mem_of_getElem? (i := 347) (by decide +kernel)
theorem st_p_7_16 : Cond.not (Cond.eq (fx_tm 7) (fx_tm 16)) ∈ fx_gf := List.mem_of_getElem? (i := 372) (by decide +kernel)
theorem st_p_7_17 : Cond.not (Cond.eq (fx_tm 7) (fx_tm 17)) ∈ fx_gf := List.mem_of_getElem? (i := 394) (by decide +kernel)
theorem st_q_7 : ∀ j, 7 < j → j < 18 → Cond.not (Cond.eq (fx_tm 7) (fx_tm j)) ∈ fx_gf := fun j a b => by
  rcases (show j = 8 ∨ j = 9 ∨ j = 10 ∨ j = 11 ∨ j = 12 ∨ j = 13 ∨ j = 14 ∨ j = 15 ∨ j = 16 ∨ j = 17 by omega) with rfl | rfl | rfl | rfl | rfl | rfl | rfl | rfl | rfl | rfl
  · exact st_p_7_8
  · exact st_p_7_9
  · exact st_p_7_10
  · exact st_p_7_11
  · exact st_p_7_12
  · exact st_p_7_13
  · exact st_p_7_14
  · exact st_p_7_15
  · exact st_p_7_16
  · exact st_p_7_17
theorem st_p_8_9 : Cond.not (Cond.eq (fx_tm 8) (fx_tm 9)) ∈ fx_gf := List.mem_of_getElem? (i := 226) (by decide +kernel)
theorem st_p_8_10 : Cond.not (Cond.eq (fx_tm 8) (fx_tm 10)) ∈ fx_gf := List.mem_of_getElem? (i := 244) (by decide +kernel)
theorem st_p_8_11 : Cond.not (Cond.eq (fx_tm 8) (fx_tm 11)) ∈ fx_gf := List.mem_of_getElem? (i := 264) (by decide +kernel)
theorem st_p_8_12 : Cond.not (Cond.eq (fx_tm 8) (fx_tm 12)) ∈ fx_gf := List.mem_of_getElem? (i := 284) (by decide +kernel)
theorem st_p_8_13 : Cond.not (Cond.eq (fx_tm 8) (fx_tm 13)) ∈ fx_gf := List.mem_of_getElem? (i := 304) (by decide +kernel)
theorem st_p_8_14 : Cond.not (Cond.eq (fx_tm 8) (fx_tm 14)) ∈ fx_gf := List.mem_of_getElem? (i := 326) (by decide +kernel)
theorem st_p_8_15 : Cond.not (Cond.eq (fx_tm 8) (fx_tm 15)) ∈ fx_gf := List.mem_of_getElem? (i := 348) (by decide +kernel)
theorem st_p_8_16 : Cond.not (Cond.eq (fx_tm 8) (fx_tm 16)) ∈ fx_gf := List.mem_of_getElem? (i := 373) (by decide +kernel)
theorem st_p_8_17 : Cond.not (Cond.eq (fx_tm 8) (fx_tm 17)) ∈ fx_gf := List.mem_of_getElem? (i := 395) (by decide +kernel)
theorem st_q_8 : ∀ j, 8 < j → j < 18 → Cond.not (Cond.eq (fx_tm 8) (fx_tm j)) ∈ fx_gf := fun j a b => by
  rcases (show j = 9 ∨ j = 10 ∨ j = 11 ∨ j = 12 ∨ j = 13 ∨ j = 14 ∨ j = 15 ∨ j = 16 ∨ j = 17 by omega) with rfl | rfl | rfl | rfl | rfl | rfl | rfl | rfl | rfl
  · exact st_p_8_9
  · exact st_p_8_10
  · exact st_p_8_11
  · exact st_p_8_12
  · exact st_p_8_13
  · exact st_p_8_14
  · exact st_p_8_15
  · exact st_p_8_16
  · exact st_p_8_17
theorem st_p_9_10 : Cond.not (Cond.eq (fx_tm 9) (fx_tm 10)) ∈ fx_gf := List.mem_of_getElem? (i := 246) (by decide +kernel)
theorem st_p_9_11 : Cond.not (Cond.eq (fx_tm 9) (fx_tm 11)) ∈ fx_gf := List.mem_of_getElem? (i := 266) (by decide +kernel)
theorem st_p_9_12 : Cond.not (Cond.eq (fx_tm 9) (fx_tm 12)) ∈ fx_gf := List.mem_of_getElem? (i := 286) (by decide +kernel)
theorem st_p_9_13 : Cond.not (Cond.eq (fx_tm 9) (fx_tm 13)) ∈ fx_gf := List.mem_of_getElem? (i := 306) (by decide +kernel)
theorem st_p_9_14 : Cond.not (Cond.eq (fx_tm 9) (fx_tm 14)) ∈ fx_gf := List.mem_of_getElem? (i := 328) (by decide +kernel)
theorem st_p_9_15 : Cond.not (Cond.eq (fx_tm 9) (fx_tm 15)) ∈ fx_gf := List.mem_of_getElem? (i := 350) (by decide +kernel)
theorem st_p_9_16 : Cond.not (Cond.eq (fx_tm 9) (fx_tm 16)) ∈ fx_gf := List.mem_of_getElem? (i := 375) (by decide +kernel)
theorem st_p_9_17 : Cond.not (Cond.eq (fx_tm 9) (fx_tm 17)) ∈ fx_gf := List.mem_of_getElem? (i := 397) (by decide +kernel)
theorem st_q_9 : ∀ j, 9 < j → j < 18 → Cond.not (Cond.eq (fx_tm 9) (fx_tm j)) ∈ fx_gf := fun j a b => by
  rcases (show j = 10 ∨ j = 11 ∨ j = 12 ∨ j = 13 ∨ j = 14 ∨ j = 15 ∨ j = 16 ∨ j = 17 by omega) with rfl | rfl | rfl | rfl | rfl | rfl | rfl | rfl
  · exact st_p_9_10
  · exact st_p_9_11
  · exact st_p_9_12
  · exact st_p_9_13
  · exact st_p_9_14
  · exact st_p_9_15
  · exact st_p_9_16
  · exact st_p_9_17
theorem st_p_10_11 : Cond.not (Cond.eq (fx_tm 10) (fx_tm 11)) ∈ fx_gf := List.mem_of_getElem? (i := 267) (by decide +kernel)
theorem st_p_10_12 : Cond.not (Cond.eq (fx_tm 10) (fx_tm 12)) ∈ fx_gf := List.mem_of_getElem? (i := 287) (by decide +kernel)
theorem st_p_10_13 : Cond.not (Cond.eq (fx_tm 10) (fx_tm 13)) ∈ fx_gf := List.mem_of_getElem? (i := 307) (by decide +kernel)
theorem st_p_10_14 : Cond.not (Cond.eq (fx_tm 10) (fx_tm 14)) ∈ fx_gf := List.mem_of_getElem? (i := 329) (by decide +kernel)
theorem st_p_10_15 : Cond.not (Cond.eq (fx_tm 10) (fx_tm 15)) ∈ fx_gf := List.mem_of_getElem? (i := 351) (by decide +kernel)
theorem st_p_10_16 : Cond.not (Cond.eq (fx_tm 10) (fx_tm 16)) ∈ fx_gf := List.mem_of_getElem? (i := 376) (by decide +kernel)
theorem st_p_10_17 : Cond.not (Cond.eq (fx_tm 10) (fx_tm 17)) ∈ fx_gf := List.mem_of_getElem? (i := 398) (by decide +kernel)
theorem st_q_10 : ∀ j, 10 < j → j < 18 → Cond.not (Cond.eq (fx_tm 10) (fx_tm j)) ∈ fx_gf := fun j a b => by
  rcases (show j = 11 ∨ j = 12 ∨ j = 13 ∨ j = 14 ∨ j = 15 ∨ j = 16 ∨ j = 17 by omega) with rfl | rfl | rfl | rfl | rfl | rfl | rfl
  · exact st_p_10_11
  · exact st_p_10_12
  · exact st_p_10_13
  · exact st_p_10_14
  · exact st_p_10_15
  · exact st_p_10_16
  · exact st_p_10_17
theorem st_p_11_12 : Cond.not (Cond.eq (fx_tm 11) (fx_tm 12)) ∈ fx_gf := List.mem_of_getElem? (i := 288) (by decide +kernel)
theorem st_p_11_13 : Cond.not (Cond.eq (fx_tm 11) (fx_tm 13)) ∈ fx_gf := List.mem_of_getElem? (i := 308) (by decide +kernel)
theorem st_p_11_14 : Cond.not (Cond.eq (fx_tm 11) (fx_tm 14)) ∈ fx_gf := List.mem_of_getElem? (i := 330) (by decide +kernel)
theorem st_p_11_15 : Cond.not (Cond.eq (fx_tm 11) (fx_tm 15)) ∈ fx_gf := List.mem_of_getElem? (i := 352) (by decide +kernel)
theorem st_p_11_16 : Cond.not (Cond.eq (fx_tm 11) (fx_tm 16)) ∈ fx_gf := List.mem_of_getElem? (i := 377) (by decide +kernel)
theorem st_p_11_17 : Cond.not (Cond.eq (fx_tm 11) (fx_tm 17)) ∈ fx_gf := List.mem_of_getElem? (i := 399) (by decide +kernel)
theorem st_q_11 : ∀ j, 11 < j → j < 18 → Cond.not (Cond.eq (fx_tm 11) (fx_tm j)) ∈ fx_gf := fun j a b => by
  rcases (show j = 12 ∨ j = 13 ∨ j = 14 ∨ j = 15 ∨ j = 16 ∨ j = 17 by omega) with rfl | rfl | rfl | rfl | rfl | rfl
  · exact st_p_11_12
  · exact st_p_11_13
  · exact st_p_11_14
  · exact st_p_11_15
  · exact st_p_11_16
  · exact st_p_11_17
theorem st_p_12_13 : Cond.not (Cond.eq (fx_tm 12) (fx_tm 13)) ∈ fx_gf := List.mem_of_getElem? (i := 309) (by decide +kernel)
theorem st_p_12_14 : Cond.not (Cond.eq (fx_tm 12) (fx_tm 14)) ∈ fx_gf := List.mem_of_getElem? (i := 331) (by decide +kernel)
theorem st_p_12_15 : Cond.not (Cond.eq (fx_tm 12) (fx_tm 15)) ∈ fx_gf := List.mem_of_getElem? (i := 353) (by decide +kernel)
theorem st_p_12_16 : Cond.not (Cond.eq (fx_tm 12) (fx_tm 16)) ∈ fx_gf := List.mem_of_getElem? (i := 378) (by decide +kernel)
theorem st_p_12_17 : Cond.not (Cond.eq (fx_tm 12) (fx_tm 17)) ∈ fx_gf := List.mem_of_getElem? (i := 400) (by decide +kernel)
theorem st_q_12 : ∀ j, 12 < j → j < 18 → Cond.not (Cond.eq (fx_tm 12) (fx_tm j)) ∈ fx_gf := fun j a b => by
  rcases (show j = 13 ∨ j = 14 ∨ j = 15 ∨ j = 16 ∨ j = 17 by omega) with rfl | rfl | rfl | rfl | rfl
  · exact st_p_12_13
  · exact st_p_12_14
  · exact st_p_12_15
  · exact st_p_12_16
  · exact st_p_12_17
theorem st_p_13_14 : Cond.not (Cond.eq (fx_tm 13) (fx_tm 14)) ∈ fx_gf := List.mem_of_getElem? (i := 332) (by decide +kernel)
theorem st_p_13_15 : Cond.not (Cond.eq (fx_tm 13) (fx_tm 15)) ∈ fx_gf := List.mem_of_getElem? (i := 354) (by decide +kernel)
theorem st_p_13_16 : Cond.not (Cond.eq (fx_tm 13) (fx_tm 16)) ∈ fx_gf := List.mem_of_getElem? (i := 379) (by decide +kernel)
theorem st_p_13_17 : Cond.not (Cond.eq (fx_tm 13) (fx_tm 17)) ∈ fx_gf := List.mem_of_getElem? (i := 401) (by decide +kernel)
theorem st_q_13 : ∀ j, 13 < j → j < 18 → Cond.not (Cond.eq (fx_tm 13) (fx_tm j)) ∈ fx_gf := fun j a b => by
  rcases (show j = 14 ∨ j = 15 ∨ j = 16 ∨ j = 17 by omega) with rfl | rfl | rfl | rfl
  · exact st_p_13_14
  · exact st_p_13_15
  · exact st_p_13_16
  · exact st_p_13_17
theorem st_p_14_15 : Cond.not (Cond.eq (fx_tm 14) (fx_tm 15)) ∈ fx_gf := List.mem_of_getElem? (i := 355) (by decide +kernel)
theorem st_p_14_16 : Cond.not (Cond.eq (fx_tm 14) (fx_tm 16)) ∈ fx_gf := List.mem_of_getElem? (i := 380) (by decide +kernel)
theorem st_p_14_17 : Cond.not (Cond.eq (fx_tm 14) (fx_tm 17)) ∈ fx_gf := List.mem_of_getElem? (i := 402) (by decide +kernel)
theorem st_q_14 : ∀ j, 14 < j → j < 18 → Cond.not (Cond.eq (fx_tm 14) (fx_tm j)) ∈ fx_gf := fun j a b => by
  rcases (show j = 15 ∨ j = 16 ∨ j = 17 by omega) with rfl | rfl | rfl
  · exact st_p_14_15
  · exact st_p_14_16
  · exact st_p_14_17
theorem st_p_15_16 : Cond.not (Cond.eq (fx_tm 15) (fx_tm 16)) ∈ fx_gf := List.mem_of_getElem? (i := 381) (by decide +kernel)
theorem st_p_15_17 : Cond.not (Cond.eq (fx_tm 15) (fx_tm 17)) ∈ fx_gf := List.mem_of_getElem? (i := 403) (by decide +kernel)
theorem st_q_15 : ∀ j, 15 < j → j < 18 → Cond.not (Cond.eq (fx_tm 15) (fx_tm j)) ∈ fx_gf := fun j a b => by
  rcases (show j = 16 ∨ j = 17 by omega) with rfl | rfl
  · exact st_p_15_16
  · exact st_p_15_17
theorem st_p_16_17 : Cond.not (Cond.eq (fx_tm 16) (fx_tm 17)) ∈ fx_gf := List.mem_of_getElem? (i := 404) (by decide +kernel)
theorem st_q_16 : ∀ j, 16 < j → j < 18 → Cond.not (Cond.eq (fx_tm 16) (fx_tm j)) ∈ fx_gf := fun j a b => by
  rcases (show j = 17 by omega) with rfl
  · exact st_p_16_17
theorem st_q : ∀ i j, i < j → j < 18 → Cond.not (Cond.eq (fx_tm i) (fx_tm j)) ∈ fx_gf := fun i j a b => by
  rcases (show i = 0 ∨ i = 1 ∨ i = 2 ∨ i = 3 ∨ i = 4 ∨ i = 5 ∨ i = 6 ∨ i = 7 ∨ i = 8 ∨ i = 9 ∨ i = 10 ∨ i = 11 ∨ i = 12 ∨ i = 13 ∨ i = 14 ∨ i = 15 ∨ i = 16 by omega) with rfl | rfl | rfl | rfl | rfl | rfl | rfl | rfl | rfl | rfl | rfl | rfl | rfl | rfl | rfl | rfl | rfl
  · exact st_q_0 j a b
  · exact st_q_1 j a b
  · exact st_q_2 j a b
  · exact st_q_3 j a b
  · exact st_q_4 j a b
  · exact st_q_5 j a b
  · exact st_q_6 j a b
  · exact st_q_7 j a b
  · exact st_q_8 j a b
  · exact st_q_9 j a b
  · exact st_q_10 j a b
  · exact st_q_11 j a b
  · exact st_q_12 j a b
  · exact st_q_13 j a b
  · exact st_q_14 j a b
  · exact st_q_15 j a b
  · exact st_q_16 j a b
theorem st_ne : ∀ i, i < 18 → ∀ j, j < 18 → i ≠ j → Cond.not (Cond.eq (fx_tm i) (fx_tm j)) ∈ fx_gf ∨ Cond.not (Cond.eq (fx_tm j) (fx_tm i)) ∈ fx_gf := fun i h j h2 hij => by
  rcases Nat.lt_or_gt_of_ne hij with z | z
  · exact Or.inl (st_q i j z h2)
  · exact Or.inr (st_q j i z h)
theorem st_bi : ∀ j, j < 14 → Cond.eq (.elem (.static "FoxReply$RuleReader" "BINDS" "[I") (.int (Int32.ofNat j))) (.int (fx_binds j)) ∈ fx_gf := by decide +kernel
theorem st_eq_rider : Cond.eq (.string "FoxReply$HuntReader" 54) (.string "FoxReply$RuleReader" 154) ∈ fx_gf ∨ Cond.eq (.string "FoxReply$RuleReader" 154) (.string "FoxReply$HuntReader" 54) ∈ fx_gf := by decide +kernel
theorem st_eq_gate : Cond.eq (.string "FoxReply$HuntReader" 56) (.string "FoxReply$RuleReader" 168) ∈ fx_gf ∨ Cond.eq (.string "FoxReply$RuleReader" 168) (.string "FoxReply$HuntReader" 56) ∈ fx_gf := by decide +kernel
theorem eq_ref {args : Array Value} {s : State} {t u : Term} {a : Nat} (h : (Cond.eq t u).before args s = true) (ht : t.eval args s none [] s = some (.ref a)) : u.eval args s none [] s = some (.ref a) := by
  cases hu : u.eval args s none [] s with
  | none => simp [Cond.before, Cond.holds, Cond.value, ht, hu] at h
  | some w =>
    simp only [Cond.before, Cond.holds, Cond.value, ht, hu] at h
    cases w <;> simp_all
theorem eq_ref2 {args : Array Value} {s : State} {t u : Term} {a : Nat} (h : (Cond.eq u t).before args s = true) (ht : t.eval args s none [] s = some (.ref a)) : u.eval args s none [] s = some (.ref a) := by
  cases hu : u.eval args s none [] s with
  | none => simp [Cond.before, Cond.holds, Cond.value, ht, hu] at h
  | some w =>
    simp only [Cond.before, Cond.holds, Cond.value, ht, hu] at h
    cases w <;> simp_all
theorem arr_of {args : Array Value} {s : State} {ty : FieldType} (hty : ∀ C, ty ≠ .object C) (h : (Cond.arrayClass ty).before args s = true) : ∃ cA, ArrOfT s cA ty ∧ va_RA s cA ty := by
  obtain ⟨cA, kA, comp, h1, h2, h3⟩ := Cond.arrayClass_spec h
  refine ⟨cA, fun n z => ⟨fun k h => (by cases h), kA, h2, comp, h3⟩, ?_⟩
  cases ty with
  | object C => exact absurd rfl (hty C)
  | _ => exact h1
theorem arr_ofO {s : State} {C : String} (h : va_AO C s) : ∃ cA, ArrOfT s cA (.object C) ∧ va_RA s cA (.object C) := by
  obtain ⟨comp, cA, kA, h1, h2, h3, h4, h5⟩ := Cond.arrayOver_spec h
  exact ⟨cA, fun n z => ⟨fun k h => (by cases h), kA, h3, comp, h4⟩, kA, comp, h3, h4, h1, h5⟩
theorem st_oChase : Cond.arrayOver (.object "FoxReply$Chase") ∈ lw_tbl := List.mem_of_getElem? (i := 373) (by decide +kernel)
theorem st_oWorld : Cond.arrayOver (.object "FoxReply$World") ∈ lw_tbl := List.mem_of_getElem? (i := 365) (by decide +kernel)
theorem st_oRule : Cond.arrayOver (.object "FoxReply$Rule") ∈ lw_tbl := List.mem_of_getElem? (i := 315) (by decide +kernel)
theorem st_lB : Cond.laysStatic "FoxReply$RuleReader" "BINDS" "[I" ∈ lw_tbl := List.mem_of_getElem? (i := 732) (by decide +kernel)
theorem st_lBi : Cond.initialized "FoxReply$RuleReader" ∈ lw_tbl := List.mem_of_getElem? (i := 121) (by decide +kernel)
theorem st_lC : Cond.laysStatic "java/lang/String" "COMPACT_STRINGS" "Z" ∈ lw_tbl := List.mem_of_getElem? (i := 600) (by decide +kernel)
theorem st_lCi : Cond.initialized "java/lang/String" ∈ lw_tbl := List.mem_of_getElem? (i := 130) (by decide +kernel)
theorem st_lS : Cond.laysStatic "jdk/internal/util/Preconditions" "SIOOBE_FORMATTER" "Ljava/util/function/BiFunction;" ∈ lw_tbl := List.mem_of_getElem? (i := 616) (by decide +kernel)
theorem st_lSi : Cond.initialized "jdk/internal/util/Preconditions" ∈ lw_tbl := List.mem_of_getElem? (i := 132) (by decide +kernel)
theorem st_cast : Cond.castable "[I" "java/lang/Cloneable" ∈ lw_tbl := List.mem_of_getElem? (i := 797) (by decide +kernel)
theorem st_r0 : Cond.stringRef "FoxReply$HuntReader" 48 "fox" ∈ lw_tbl := List.mem_of_getElem? (i := 586) (by decide +kernel)
theorem st_r1 : Cond.stringRef "FoxReply$HuntReader" 54 "rider" ∈ lw_tbl := List.mem_of_getElem? (i := 639) (by decide +kernel)
theorem st_r2 : Cond.stringRef "FoxReply$HuntReader" 56 "gate" ∈ lw_tbl := List.mem_of_getElem? (i := 640) (by decide +kernel)
theorem st_r3 : Cond.stringRef "FoxReply$RuleReader" 154 "rider" ∈ lw_tbl := List.mem_of_getElem? (i := 702) (by decide +kernel)
theorem st_r4 : Cond.stringRef "FoxReply$RuleReader" 156 "pace" ∈ lw_tbl := List.mem_of_getElem? (i := 703) (by decide +kernel)
theorem st_r5 : Cond.stringRef "FoxReply$RuleReader" 158 "gap" ∈ lw_tbl := List.mem_of_getElem? (i := 704) (by decide +kernel)
theorem st_r6 : Cond.stringRef "FoxReply$RuleReader" 160 "behind" ∈ lw_tbl := List.mem_of_getElem? (i := 705) (by decide +kernel)
theorem st_r7 : Cond.stringRef "FoxReply$RuleReader" 162 "level" ∈ lw_tbl := List.mem_of_getElem? (i := 706) (by decide +kernel)
theorem st_r8 : Cond.stringRef "FoxReply$RuleReader" 164 "out" ∈ lw_tbl := List.mem_of_getElem? (i := 707) (by decide +kernel)
theorem st_r9 : Cond.stringRef "FoxReply$RuleReader" 166 "was" ∈ lw_tbl := List.mem_of_getElem? (i := 708) (by decide +kernel)
theorem st_r10 : Cond.stringRef "FoxReply$RuleReader" 168 "gate" ∈ lw_tbl := List.mem_of_getElem? (i := 709) (by decide +kernel)
theorem st_r11 : Cond.stringRef "FoxReply$RuleReader" 170 "foxpace" ∈ lw_tbl := List.mem_of_getElem? (i := 710) (by decide +kernel)
theorem st_r12 : Cond.stringRef "FoxReply$RuleReader" 172 "law" ∈ lw_tbl := List.mem_of_getElem? (i := 711) (by decide +kernel)
theorem st_r13 : Cond.stringRef "FoxReply$RuleReader" 174 "step" ∈ lw_tbl := List.mem_of_getElem? (i := 712) (by decide +kernel)
theorem st_r14 : Cond.stringRef "FoxReply$RuleReader" 176 "and" ∈ lw_tbl := List.mem_of_getElem? (i := 713) (by decide +kernel)
theorem st_r15 : Cond.stringRef "FoxReply$RuleReader" 178 "or" ∈ lw_tbl := List.mem_of_getElem? (i := 714) (by decide +kernel)
theorem st_r16 : Cond.stringRef "FoxReply$RuleReader" 180 "not" ∈ lw_tbl := List.mem_of_getElem? (i := 715) (by decide +kernel)
theorem st_r17 : Cond.stringRef "FoxReply$RuleReader" 182 "if" ∈ lw_tbl := List.mem_of_getElem? (i := 716) (by decide +kernel)
theorem st_r18 : Cond.stringRef "FoxReply$RuleReader" 184 "ride" ∈ lw_tbl := List.mem_of_getElem? (i := 717) (by decide +kernel)
theorem st_r19 : Cond.stringRef "FoxReply$RuleReader" 186 "" ∈ lw_tbl := List.mem_of_getElem? (i := 718) (by decide +kernel)
theorem st_n0 : Cond.methodLinkNest "FoxReply$HuntReader" 11 ⟨"FoxReply$Chase", "<init>", "()V"⟩ "FoxReply" ∈ lw_tbl := List.mem_of_getElem? (i := 184) (by decide +kernel)
theorem st_n1 : Cond.methodLinkNest "FoxReply" 42 ⟨"FoxReply$World", "<init>", "()V"⟩ "FoxReply" ∈ lw_tbl := List.mem_of_getElem? (i := 318) (by decide +kernel)
theorem st_n2 : Cond.methodLinkNest "FoxReply$World" 11 ⟨"FoxReply$Chase", "<init>", "()V"⟩ "FoxReply" ∈ lw_tbl := List.mem_of_getElem? (i := 323) (by decide +kernel)
theorem st_n3 : Cond.methodLinkNest "FoxReply$World" 23 ⟨"FoxReply$Notes", "<init>", "()V"⟩ "FoxReply" ∈ lw_tbl := List.mem_of_getElem? (i := 326) (by decide +kernel)
theorem st_n4 : Cond.methodLinkNest "FoxReply$Acts" 15 ⟨"FoxReply$Chase", "<init>", "()V"⟩ "FoxReply" ∈ lw_tbl := List.mem_of_getElem? (i := 374) (by decide +kernel)
theorem st_n5 : Cond.methodLinkNest "FoxReply" 64 ⟨"FoxReply$Stepper", "<init>", "()V"⟩ "FoxReply" ∈ lw_tbl := List.mem_of_getElem? (i := 389) (by decide +kernel)
theorem st_n6 : Cond.methodLinkNest "FoxReply" 71 ⟨"FoxReply$Chase", "<init>", "()V"⟩ "FoxReply" ∈ lw_tbl := List.mem_of_getElem? (i := 413) (by decide +kernel)
theorem st_n7 : Cond.methodLinkNest "FoxReply$RowSearch" 21 ⟨"FoxReply$Chase", "<init>", "()V"⟩ "FoxReply" ∈ lw_tbl := List.mem_of_getElem? (i := 421) (by decide +kernel)
/-- what lies outside, from the start on -/
theorem st_Xs {s : State} {b L : Nat} {xs : Nat → Int32} {A : Nat → Prop} (hA : ∀ a : Nat, a < s.heap.size → ¬ A a) (hts : ∀ w ∈ lw_tbl, w.before #[Value.ref b] s = true) (hX : va_X b L xs s s.heap) (hbl : b < s.heap.size) (hgv : (Jvm.Cond.and given_1 narrow_1).before #[Value.ref b] s = true) : ∃ t91 adK adV, fx_Xs (b, L, xs, t91, adK, adV) A s := by
  have hs := flat_of_before _ hgv
  obtain ⟨adK, adV, hS, hK⟩ := vk_Sof (args := #[Value.ref b]) (s := s) (N := 18) (tm := fx_tm) (len := fx_slen) (byt := fx_sbyt) (A := A) (fun i h => Nat.lt_of_lt_of_le ((by decide : ∀ i, i < 18 → fx_slen.getD i 0 < 8) i h) (by decide)) (fun i h => hs _ (st_ex i h)) (fun i h => hs _ (st_co i h)) (fun i h => hs _ (st_ar i h)) (fun i h => hs _ (st_le i h)) (fun i h j hj => hs _ (st_el i h j hj)) (fun i j h h2 hij => (st_ne i h j h2 hij).imp (hs _) (hs _)) hA
  obtain ⟨t91, h91, hT⟩ := va_Tof (args := #[Value.ref b]) (s := s) (tm := .static "FoxReply$RuleReader" "BINDS" "[I") (ty := .int) (N := 14) (f := fun j => .int (fx_binds j)) (A := A) (by decide) (hs _ (by decide +kernel)) (va_eqt (hs _ (by decide +kernel))) (fun j hj => va_eqt (hs _ (st_bi j hj))) hA
  have ev : ∀ i, i < 18 → (fx_tm i).eval #[Value.ref b] s none [] s = some (.ref (adK i)) := hK
  have ed_rider : (Term.string "FoxReply$RuleReader" 154).eval #[Value.ref b] s none [] s = some (.ref (adK 1)) := by
    rcases st_eq_rider with z | z
    · exact eq_ref (hs _ z) (ev 1 (by decide))
    · exact eq_ref2 (hs _ z) (ev 1 (by decide))
  have ed_gate : (Term.string "FoxReply$RuleReader" 168).eval #[Value.ref b] s none [] s = some (.ref (adK 2)) := by
    rcases st_eq_gate with z | z
    · exact eq_ref (hs _ z) (ev 2 (by decide))
    · exact eq_ref2 (hs _ z) (ev 2 (by decide))
  refine ⟨t91, adK, adV, ⟨hX, hbl, hA b hbl⟩, va_Zref (hts _ st_lB) (hts _ st_lBi) h91 hA, hT, hS, ?_, va_Zof (hts _ st_lC) (hts _ st_lCi) (va_eqi (hs _ (by decide +kernel))) hA, va_Zqof (hts _ st_lS) (hts _ st_lSi) (hs _ (by decide +kernel)) hA, ?_, ⟨va_AO.of (hts _ st_oChase), va_AO.of (hts _ st_oWorld), va_AO.of (hts _ st_oRule)⟩, va_Nw.of rfl (hts _ st_cast)⟩
  · intro q hq
    unfold fx_srefs at hq
    simp only [List.mem_cons, List.not_mem_nil, or_false] at hq
    rcases hq with rfl | rfl | rfl | rfl | rfl | rfl | rfl | rfl | rfl | rfl | rfl | rfl | rfl | rfl | rfl | rfl | rfl | rfl | rfl | rfl
    · exact vk_R.of (hts _ st_r0) (ev 0 (by decide))
    · exact vk_R.of (hts _ st_r1) (ev 1 (by decide))
    · exact vk_R.of (hts _ st_r2) (ev 2 (by decide))
    · exact vk_R.of (hts _ st_r3) ed_rider
    · exact vk_R.of (hts _ st_r4) (ev 3 (by decide))
    · exact vk_R.of (hts _ st_r5) (ev 4 (by decide))
    · exact vk_R.of (hts _ st_r6) (ev 5 (by decide))
    · exact vk_R.of (hts _ st_r7) (ev 6 (by decide))
    · exact vk_R.of (hts _ st_r8) (ev 7 (by decide))
    · exact vk_R.of (hts _ st_r9) (ev 8 (by decide))
    · exact vk_R.of (hts _ st_r10) ed_gate
    · exact vk_R.of (hts _ st_r11) (ev 9 (by decide))
    · exact vk_R.of (hts _ st_r12) (ev 10 (by decide))
    · exact vk_R.of (hts _ st_r13) (ev 11 (by decide))
    · exact vk_R.of (hts _ st_r14) (ev 12 (by decide))
    · exact vk_R.of (hts _ st_r15) (ev 13 (by decide))
    · exact vk_R.of (hts _ st_r16) (ev 14 (by decide))
    · exact vk_R.of (hts _ st_r17) (ev 15 (by decide))
    · exact vk_R.of (hts _ st_r18) (ev 16 (by decide))
    · exact vk_R.of (hts _ st_r19) (ev 17 (by decide))
  · intro q hq
    unfold fx_nests at hq
    simp only [List.mem_cons, List.not_mem_nil, or_false] at hq
    rcases hq with rfl | rfl | rfl | rfl | rfl | rfl | rfl | rfl
    · exact va_Nw.of rfl (hts _ st_n0)
    · exact va_Nw.of rfl (hts _ st_n1)
    · exact va_Nw.of rfl (hts _ st_n2)
    · exact va_Nw.of rfl (hts _ st_n3)
    · exact va_Nw.of rfl (hts _ st_n4)
    · exact va_Nw.of rfl (hts _ st_n5)
    · exact va_Nw.of rfl (hts _ st_n6)
    · exact va_Nw.of rfl (hts _ st_n7)
