/-! every method's tables (by wip/whole/gen_code.py) -/
theorem fx_lts {n : Nat} {b : Option Instr} {pc : Nat} {i : Instr} (h : (bif Nat.blt pc n then b else none) = some i) : pc < n := by
  cases e : Nat.blt pc n with
  | false => rw [e] at h; cases h
  | true => exact Nat.le_of_ble_eq_true e
def fx_kd (y : Nat) : Nat := (fx_Y y).2.2.2.1
def fx_chkP (kd : Nat → Nat) (M : fxM) (lo n : Nat) : Bool := (List.range n).all (fun j => match M.2.1 (lo + j) with
  | some i => fx_chk1 kd M (lo + j) i
  | none => true)
theorem fx_chk_cat {kd : Nat → Nat} {M : fxM} {lo n : Nat} (h1 : fx_chk kd M lo = true) (h2 : fx_chkP kd M lo n = true) : fx_chk kd M (lo + n) = true := by
  unfold fx_chk
  rw [List.all_eq_true]
  intro pc hpc
  by_cases z : pc < lo
  · exact List.all_eq_true.mp h1 pc (List.mem_range.mpr z)
  · have h3 := List.all_eq_true.mp h2 (pc - lo) (List.mem_range.mpr (by have := List.mem_range.mp hpc; omega))
    rw [show lo + (pc - lo) = pc by omega] at h3
    exact h3
set_option maxRecDepth 100000 in
theorem fx_ck_0 : fx_chk fx_kd fx_M0 41 = true := by decide +kernel
theorem fx_kk_0 : fx_Mok fx_M0 ∧ fx_Cok fx_Y fx_M0 := fx_ok_of (sz := 41) (fun _ _ h => fx_lts h) fx_pok0 fx_ck_0 fx_w_binds fx_w_castI
set_option maxRecDepth 100000 in
theorem fx_ck_1 : fx_chk fx_kd fx_M1 6 = true := by decide +kernel
theorem fx_kk_1 : fx_Mok fx_M1 ∧ fx_Cok fx_Y fx_M1 := fx_ok_of (sz := 6) (fun _ _ h => fx_lts h) fx_pok0 fx_ck_1 fx_w_binds fx_w_castI
set_option maxRecDepth 100000 in
theorem fx_ck_2 : fx_chk fx_kd fx_M2 42 = true := by decide +kernel
theorem fx_kk_2 : fx_Mok fx_M2 ∧ fx_Cok fx_Y fx_M2 := fx_ok_of (sz := 42) (fun _ _ h => fx_lts h) fx_pok0 fx_ck_2 fx_w_binds fx_w_castI
set_option maxRecDepth 100000 in
theorem fx_ck_3 : fx_chk fx_kd fx_M3 47 = true := by decide +kernel
theorem fx_kk_3 : fx_Mok fx_M3 ∧ fx_Cok fx_Y fx_M3 := fx_ok_of (sz := 47) (fun _ _ h => fx_lts h) fx_pok0 fx_ck_3 fx_w_binds fx_w_castI
set_option maxRecDepth 100000 in
theorem fx_ck_4 : fx_chk fx_kd fx_M4 37 = true := by decide +kernel
theorem fx_kk_4 : fx_Mok fx_M4 ∧ fx_Cok fx_Y fx_M4 := fx_ok_of (sz := 37) (fun _ _ h => fx_lts h) fx_pok1 fx_ck_4 fx_w_binds fx_w_castI
set_option maxRecDepth 100000 in
theorem fx_ck_5 : fx_chk fx_kd fx_M5 53 = true := by decide +kernel
theorem fx_kk_5 : fx_Mok fx_M5 ∧ fx_Cok fx_Y fx_M5 := fx_ok_of (sz := 53) (fun _ _ h => fx_lts h) fx_pok1 fx_ck_5 fx_w_binds fx_w_castI
set_option maxRecDepth 100000 in
theorem fx_ck_6 : fx_chk fx_kd fx_M6 50 = true := by decide +kernel
theorem fx_kk_6 : fx_Mok fx_M6 ∧ fx_Cok fx_Y fx_M6 := fx_ok_of (sz := 50) (fun _ _ h => fx_lts h) fx_pok1 fx_ck_6 fx_w_binds fx_w_castI
set_option maxRecDepth 100000 in
theorem fx_ck_7 : fx_chk fx_kd fx_M7 119 = true := by decide +kernel
theorem fx_kk_7 : fx_Mok fx_M7 ∧ fx_Cok fx_Y fx_M7 := fx_ok_of (sz := 119) (fun _ _ h => fx_lts h) fx_pok1 fx_ck_7 fx_w_binds fx_w_castI
set_option maxRecDepth 100000 in
theorem fx_ck_8 : fx_chk fx_kd fx_M8 24 = true := by decide +kernel
theorem fx_kk_8 : fx_Mok fx_M8 ∧ fx_Cok fx_Y fx_M8 := fx_ok_of (sz := 24) (fun _ _ h => fx_lts h) fx_pok1 fx_ck_8 fx_w_binds fx_w_castI
set_option maxRecDepth 100000 in
theorem fx_ck_9 : fx_chk fx_kd fx_M9 18 = true := by decide +kernel
theorem fx_kk_9 : fx_Mok fx_M9 ∧ fx_Cok fx_Y fx_M9 := fx_ok_of (sz := 18) (fun _ _ h => fx_lts h) fx_pok1 fx_ck_9 fx_w_binds fx_w_castI
set_option maxRecDepth 100000 in
theorem fx_ck_10 : fx_chk fx_kd fx_M10 19 = true := by decide +kernel
theorem fx_kk_10 : fx_Mok fx_M10 ∧ fx_Cok fx_Y fx_M10 := fx_ok_of (sz := 19) (fun _ _ h => fx_lts h) fx_pok1 fx_ck_10 fx_w_binds fx_w_castI
set_option maxRecDepth 100000 in
theorem fx_ck_11 : fx_chk fx_kd fx_M11 13 = true := by decide +kernel
theorem fx_kk_11 : fx_Mok fx_M11 ∧ fx_Cok fx_Y fx_M11 := fx_ok_of (sz := 13) (fun _ _ h => fx_lts h) fx_pok1 fx_ck_11 fx_w_binds fx_w_castI
set_option maxRecDepth 100000 in
theorem fx_ck_12 : fx_chk fx_kd fx_M12 13 = true := by decide +kernel
theorem fx_kk_12 : fx_Mok fx_M12 ∧ fx_Cok fx_Y fx_M12 := fx_ok_of (sz := 13) (fun _ _ h => fx_lts h) fx_pok1 fx_ck_12 fx_w_binds fx_w_castI
set_option maxRecDepth 100000 in
theorem fx_ck_13 : fx_chk fx_kd fx_M13 68 = true := by decide +kernel
theorem fx_kk_13 : fx_Mok fx_M13 ∧ fx_Cok fx_Y fx_M13 := fx_ok_of (sz := 68) (fun _ _ h => fx_lts h) fx_pok1 fx_ck_13 fx_w_binds fx_w_castI
set_option maxRecDepth 100000 in
theorem fx_ck_14 : fx_chk fx_kd fx_M14 10 = true := by decide +kernel
theorem fx_kk_14 : fx_Mok fx_M14 ∧ fx_Cok fx_Y fx_M14 := fx_ok_of (sz := 10) (fun _ _ h => fx_lts h) fx_pok1 fx_ck_14 fx_w_binds fx_w_castI
set_option maxRecDepth 100000 in
theorem fx_ck_15 : fx_chk fx_kd fx_M15 24 = true := by decide +kernel
theorem fx_kk_15 : fx_Mok fx_M15 ∧ fx_Cok fx_Y fx_M15 := fx_ok_of (sz := 24) (fun _ _ h => fx_lts h) fx_pok1 fx_ck_15 fx_w_binds fx_w_castI
set_option maxRecDepth 100000 in
theorem fx_ck_16 : fx_chk fx_kd fx_M16 50 = true := by decide +kernel
theorem fx_kk_16 : fx_Mok fx_M16 ∧ fx_Cok fx_Y fx_M16 := fx_ok_of (sz := 50) (fun _ _ h => fx_lts h) fx_pok1 fx_ck_16 fx_w_binds fx_w_castI
set_option maxRecDepth 100000 in
theorem fx_ck_17 : fx_chk fx_kd fx_M17 50 = true := by decide +kernel
theorem fx_kk_17 : fx_Mok fx_M17 ∧ fx_Cok fx_Y fx_M17 := fx_ok_of (sz := 50) (fun _ _ h => fx_lts h) fx_pok1 fx_ck_17 fx_w_binds fx_w_castI
set_option maxRecDepth 100000 in
theorem fx_ck_18 : fx_chk fx_kd fx_M18 87 = true := by decide +kernel
theorem fx_kk_18 : fx_Mok fx_M18 ∧ fx_Cok fx_Y fx_M18 := fx_ok_of (sz := 87) (fun _ _ h => fx_lts h) fx_pok1 fx_ck_18 fx_w_binds fx_w_castI
set_option maxRecDepth 100000 in
theorem fx_ck_19 : fx_chk fx_kd fx_M19 35 = true := by decide +kernel
theorem fx_kk_19 : fx_Mok fx_M19 ∧ fx_Cok fx_Y fx_M19 := fx_ok_of (sz := 35) (fun _ _ h => fx_lts h) fx_pok1 fx_ck_19 fx_w_binds fx_w_castI
set_option maxRecDepth 100000 in
theorem fx_ck_20 : fx_chk fx_kd fx_M20 29 = true := by decide +kernel
theorem fx_kk_20 : fx_Mok fx_M20 ∧ fx_Cok fx_Y fx_M20 := fx_ok_of (sz := 29) (fun _ _ h => fx_lts h) fx_pok1 fx_ck_20 fx_w_binds fx_w_castI
set_option maxRecDepth 100000 in
theorem fx_ck_21 : fx_chk fx_kd fx_M21 29 = true := by decide +kernel
theorem fx_kk_21 : fx_Mok fx_M21 ∧ fx_Cok fx_Y fx_M21 := fx_ok_of (sz := 29) (fun _ _ h => fx_lts h) fx_pok1 fx_ck_21 fx_w_binds fx_w_castI
set_option maxRecDepth 100000 in
theorem fx_ck_22 : fx_chk fx_kd fx_M22 21 = true := by decide +kernel
theorem fx_kk_22 : fx_Mok fx_M22 ∧ fx_Cok fx_Y fx_M22 := fx_ok_of (sz := 21) (fun _ _ h => fx_lts h) fx_pok2 fx_ck_22 fx_w_binds fx_w_castI
set_option maxRecDepth 100000 in
theorem fx_ck_23 : fx_chk fx_kd fx_M23 102 = true := by decide +kernel
theorem fx_kk_23 : fx_Mok fx_M23 ∧ fx_Cok fx_Y fx_M23 := fx_ok_of (sz := 102) (fun _ _ h => fx_lts h) fx_pok2 fx_ck_23 fx_w_binds fx_w_castI
set_option maxRecDepth 100000 in
theorem fx_ck_24 : fx_chk fx_kd fx_M24 145 = true := by decide +kernel
theorem fx_kk_24 : fx_Mok fx_M24 ∧ fx_Cok fx_Y fx_M24 := fx_ok_of (sz := 145) (fun _ _ h => fx_lts h) fx_pok2 fx_ck_24 fx_w_binds fx_w_castI
set_option maxRecDepth 100000 in
theorem fx_ck_25 : fx_chk fx_kd fx_M25 42 = true := by decide +kernel
theorem fx_kk_25 : fx_Mok fx_M25 ∧ fx_Cok fx_Y fx_M25 := fx_ok_of (sz := 42) (fun _ _ h => fx_lts h) fx_pok2 fx_ck_25 fx_w_binds fx_w_castI
set_option maxRecDepth 100000 in
theorem fx_ck_26 : fx_chk fx_kd fx_M26 33 = true := by decide +kernel
theorem fx_kk_26 : fx_Mok fx_M26 ∧ fx_Cok fx_Y fx_M26 := fx_ok_of (sz := 33) (fun _ _ h => fx_lts h) fx_pok2 fx_ck_26 fx_w_binds fx_w_castI
set_option maxRecDepth 100000 in
theorem fx_ck_27 : fx_chk fx_kd fx_M27 31 = true := by decide +kernel
theorem fx_kk_27 : fx_Mok fx_M27 ∧ fx_Cok fx_Y fx_M27 := fx_ok_of (sz := 31) (fun _ _ h => fx_lts h) fx_pok2 fx_ck_27 fx_w_binds fx_w_castI
set_option maxRecDepth 100000 in
theorem fx_ck_28 : fx_chk fx_kd fx_M28 94 = true := by decide +kernel
theorem fx_kk_28 : fx_Mok fx_M28 ∧ fx_Cok fx_Y fx_M28 := fx_ok_of (sz := 94) (fun _ _ h => fx_lts h) fx_pok2 fx_ck_28 fx_w_binds fx_w_castI
set_option maxRecDepth 100000 in
theorem fx_ck_29 : fx_chk fx_kd fx_M29 29 = true := by decide +kernel
theorem fx_kk_29 : fx_Mok fx_M29 ∧ fx_Cok fx_Y fx_M29 := fx_ok_of (sz := 29) (fun _ _ h => fx_lts h) fx_pok3 fx_ck_29 fx_w_binds fx_w_castI
set_option maxRecDepth 100000 in
theorem fx_ck_30 : fx_chk fx_kd fx_M30 6 = true := by decide +kernel
theorem fx_kk_30 : fx_Mok fx_M30 ∧ fx_Cok fx_Y fx_M30 := fx_ok_of (sz := 6) (fun _ _ h => fx_lts h) fx_pok3 fx_ck_30 fx_w_binds fx_w_castI
set_option maxRecDepth 100000 in
theorem fx_ck_31 : fx_chk fx_kd fx_M31 60 = true := by decide +kernel
theorem fx_kk_31 : fx_Mok fx_M31 ∧ fx_Cok fx_Y fx_M31 := fx_ok_of (sz := 60) (fun _ _ h => fx_lts h) fx_pok3 fx_ck_31 fx_w_binds fx_w_castI
set_option maxRecDepth 100000 in
theorem fx_ck_32 : fx_chk fx_kd fx_M32 31 = true := by decide +kernel
theorem fx_kk_32 : fx_Mok fx_M32 ∧ fx_Cok fx_Y fx_M32 := fx_ok_of (sz := 31) (fun _ _ h => fx_lts h) fx_pok3 fx_ck_32 fx_w_binds fx_w_castI
set_option maxRecDepth 100000 in
theorem fx_ck_33 : fx_chk fx_kd fx_M33 66 = true := by decide +kernel
theorem fx_kk_33 : fx_Mok fx_M33 ∧ fx_Cok fx_Y fx_M33 := fx_ok_of (sz := 66) (fun _ _ h => fx_lts h) fx_pok3 fx_ck_33 fx_w_binds fx_w_castI
set_option maxRecDepth 100000 in
theorem fx_ck_34 : fx_chk fx_kd fx_M34 59 = true := by decide +kernel
theorem fx_kk_34 : fx_Mok fx_M34 ∧ fx_Cok fx_Y fx_M34 := fx_ok_of (sz := 59) (fun _ _ h => fx_lts h) fx_pok3 fx_ck_34 fx_w_binds fx_w_castI
set_option maxRecDepth 100000 in
theorem fx_ck_35 : fx_chk fx_kd fx_M35 44 = true := by decide +kernel
theorem fx_kk_35 : fx_Mok fx_M35 ∧ fx_Cok fx_Y fx_M35 := fx_ok_of (sz := 44) (fun _ _ h => fx_lts h) fx_pok4 fx_ck_35 fx_w_binds fx_w_castI
set_option maxRecDepth 100000 in
theorem fx_ck_36 : fx_chk fx_kd fx_M36 88 = true := by decide +kernel
theorem fx_kk_36 : fx_Mok fx_M36 ∧ fx_Cok fx_Y fx_M36 := fx_ok_of (sz := 88) (fun _ _ h => fx_lts h) fx_pok4 fx_ck_36 fx_w_binds fx_w_castI
set_option maxRecDepth 100000 in
theorem fx_ck_37 : fx_chk fx_kd fx_M37 147 = true := by decide +kernel
theorem fx_kk_37 : fx_Mok fx_M37 ∧ fx_Cok fx_Y fx_M37 := fx_ok_of (sz := 147) (fun _ _ h => fx_lts h) fx_pok4 fx_ck_37 fx_w_binds fx_w_castI
set_option maxRecDepth 100000 in
theorem fx_ck_38 : fx_chk fx_kd fx_M38 53 = true := by decide +kernel
theorem fx_kk_38 : fx_Mok fx_M38 ∧ fx_Cok fx_Y fx_M38 := fx_ok_of (sz := 53) (fun _ _ h => fx_lts h) fx_pok4 fx_ck_38 fx_w_binds fx_w_castI
set_option maxRecDepth 100000 in
theorem fx_ck_39 : fx_chk fx_kd fx_M39 37 = true := by decide +kernel
theorem fx_kk_39 : fx_Mok fx_M39 ∧ fx_Cok fx_Y fx_M39 := fx_ok_of (sz := 37) (fun _ _ h => fx_lts h) fx_pok4 fx_ck_39 fx_w_binds fx_w_castI
set_option maxRecDepth 100000 in
theorem fx_ck_40 : fx_chk fx_kd fx_M40 26 = true := by decide +kernel
theorem fx_kk_40 : fx_Mok fx_M40 ∧ fx_Cok fx_Y fx_M40 := fx_ok_of (sz := 26) (fun _ _ h => fx_lts h) fx_pok5 fx_ck_40 fx_w_binds fx_w_castI
set_option maxRecDepth 100000 in
theorem fx_ck_41 : fx_chk fx_kd fx_M41 111 = true := by decide +kernel
theorem fx_kk_41 : fx_Mok fx_M41 ∧ fx_Cok fx_Y fx_M41 := fx_ok_of (sz := 111) (fun _ _ h => fx_lts h) fx_pok5 fx_ck_41 fx_w_binds fx_w_castI
set_option maxRecDepth 100000 in
theorem fx_ck_42 : fx_chk fx_kd fx_M42 166 = true := by decide +kernel
theorem fx_kk_42 : fx_Mok fx_M42 ∧ fx_Cok fx_Y fx_M42 := fx_ok_of (sz := 166) (fun _ _ h => fx_lts h) fx_pok5 fx_ck_42 fx_w_binds fx_w_castI
set_option maxRecDepth 100000 in
theorem fx_ck_43 : fx_chk fx_kd fx_M43 168 = true := by decide +kernel
theorem fx_kk_43 : fx_Mok fx_M43 ∧ fx_Cok fx_Y fx_M43 := fx_ok_of (sz := 168) (fun _ _ h => fx_lts h) fx_pok5 fx_ck_43 fx_w_binds fx_w_castI
set_option maxRecDepth 100000 in
theorem fx_ck_44 : fx_chk fx_kd fx_M44 43 = true := by decide +kernel
theorem fx_kk_44 : fx_Mok fx_M44 ∧ fx_Cok fx_Y fx_M44 := fx_ok_of (sz := 43) (fun _ _ h => fx_lts h) fx_pok6 fx_ck_44 fx_w_binds fx_w_castI
set_option maxRecDepth 100000 in
theorem fx_ck_45 : fx_chk fx_kd fx_M45 47 = true := by decide +kernel
theorem fx_kk_45 : fx_Mok fx_M45 ∧ fx_Cok fx_Y fx_M45 := fx_ok_of (sz := 47) (fun _ _ h => fx_lts h) fx_pok6 fx_ck_45 fx_w_binds fx_w_castI
set_option maxRecDepth 100000 in
theorem fx_ck_46 : fx_chk fx_kd fx_M46 108 = true := by decide +kernel
theorem fx_kk_46 : fx_Mok fx_M46 ∧ fx_Cok fx_Y fx_M46 := fx_ok_of (sz := 108) (fun _ _ h => fx_lts h) fx_pok6 fx_ck_46 fx_w_binds fx_w_castI
set_option maxRecDepth 100000 in
theorem fx_ck_47 : fx_chk fx_kd fx_M47 122 = true := by decide +kernel
theorem fx_kk_47 : fx_Mok fx_M47 ∧ fx_Cok fx_Y fx_M47 := fx_ok_of (sz := 122) (fun _ _ h => fx_lts h) fx_pok6 fx_ck_47 fx_w_binds fx_w_castI
set_option maxRecDepth 100000 in
theorem fx_ck_48 : fx_chk fx_kd fx_M48 47 = true := by decide +kernel
theorem fx_kk_48 : fx_Mok fx_M48 ∧ fx_Cok fx_Y fx_M48 := fx_ok_of (sz := 47) (fun _ _ h => fx_lts h) fx_pok6 fx_ck_48 fx_w_binds fx_w_castI
set_option maxRecDepth 100000 in
theorem fx_ck_49 : fx_chk fx_kd fx_M49 115 = true := by decide +kernel
theorem fx_kk_49 : fx_Mok fx_M49 ∧ fx_Cok fx_Y fx_M49 := fx_ok_of (sz := 115) (fun _ _ h => fx_lts h) fx_pok6 fx_ck_49 fx_w_binds fx_w_castI
set_option maxRecDepth 100000 in
theorem fx_ck_50 : fx_chk fx_kd fx_M50 102 = true := by decide +kernel
theorem fx_kk_50 : fx_Mok fx_M50 ∧ fx_Cok fx_Y fx_M50 := fx_ok_of (sz := 102) (fun _ _ h => fx_lts h) fx_pok6 fx_ck_50 fx_w_binds fx_w_castI
set_option maxRecDepth 100000 in
theorem fx_ck_51 : fx_chk fx_kd fx_M51 58 = true := by decide +kernel
theorem fx_kk_51 : fx_Mok fx_M51 ∧ fx_Cok fx_Y fx_M51 := fx_ok_of (sz := 58) (fun _ _ h => fx_lts h) fx_pok6 fx_ck_51 fx_w_binds fx_w_castI
set_option maxRecDepth 100000 in
theorem fx_ck_52 : fx_chk fx_kd fx_M52 53 = true := by decide +kernel
theorem fx_kk_52 : fx_Mok fx_M52 ∧ fx_Cok fx_Y fx_M52 := fx_ok_of (sz := 53) (fun _ _ h => fx_lts h) fx_pok6 fx_ck_52 fx_w_binds fx_w_castI
set_option maxRecDepth 100000 in
theorem fx_ck_53 : fx_chk fx_kd fx_M53 119 = true := by decide +kernel
theorem fx_kk_53 : fx_Mok fx_M53 ∧ fx_Cok fx_Y fx_M53 := fx_ok_of (sz := 119) (fun _ _ h => fx_lts h) fx_pok6 fx_ck_53 fx_w_binds fx_w_castI
set_option maxRecDepth 100000 in
theorem fx_ck_54 : fx_chk fx_kd fx_M54 28 = true := by decide +kernel
theorem fx_kk_54 : fx_Mok fx_M54 ∧ fx_Cok fx_Y fx_M54 := fx_ok_of (sz := 28) (fun _ _ h => fx_lts h) fx_pok6 fx_ck_54 fx_w_binds fx_w_castI
set_option maxRecDepth 100000 in
theorem fx_ck_55 : fx_chk fx_kd fx_M55 53 = true := by decide +kernel
theorem fx_kk_55 : fx_Mok fx_M55 ∧ fx_Cok fx_Y fx_M55 := fx_ok_of (sz := 53) (fun _ _ h => fx_lts h) fx_pok6 fx_ck_55 fx_w_binds fx_w_castI
set_option maxRecDepth 100000 in
theorem fx_ck_56 : fx_chk fx_kd fx_M56 14 = true := by decide +kernel
theorem fx_kk_56 : fx_Mok fx_M56 ∧ fx_Cok fx_Y fx_M56 := fx_ok_of (sz := 14) (fun _ _ h => fx_lts h) fx_pok6 fx_ck_56 fx_w_binds fx_w_castI
set_option maxRecDepth 100000 in
theorem fx_ck_57 : fx_chk fx_kd fx_M57 37 = true := by decide +kernel
theorem fx_kk_57 : fx_Mok fx_M57 ∧ fx_Cok fx_Y fx_M57 := fx_ok_of (sz := 37) (fun _ _ h => fx_lts h) fx_pok6 fx_ck_57 fx_w_binds fx_w_castI
set_option maxRecDepth 100000 in
theorem fx_ck_58 : fx_chk fx_kd fx_M58 78 = true := by decide +kernel
theorem fx_kk_58 : fx_Mok fx_M58 ∧ fx_Cok fx_Y fx_M58 := fx_ok_of (sz := 78) (fun _ _ h => fx_lts h) fx_pok6 fx_ck_58 fx_w_binds fx_w_castI
set_option maxRecDepth 100000 in
theorem fx_ck_59 : fx_chk fx_kd fx_M59 38 = true := by decide +kernel
theorem fx_kk_59 : fx_Mok fx_M59 ∧ fx_Cok fx_Y fx_M59 := fx_ok_of (sz := 38) (fun _ _ h => fx_lts h) fx_pok6 fx_ck_59 fx_w_binds fx_w_castI
set_option maxRecDepth 100000 in
theorem fx_ck_60 : fx_chk fx_kd fx_M60 27 = true := by decide +kernel
theorem fx_kk_60 : fx_Mok fx_M60 ∧ fx_Cok fx_Y fx_M60 := fx_ok_of (sz := 27) (fun _ _ h => fx_lts h) fx_pok6 fx_ck_60 fx_w_binds fx_w_castI
set_option maxRecDepth 100000 in
theorem fx_ck_61 : fx_chk fx_kd fx_M61 38 = true := by decide +kernel
theorem fx_kk_61 : fx_Mok fx_M61 ∧ fx_Cok fx_Y fx_M61 := fx_ok_of (sz := 38) (fun _ _ h => fx_lts h) fx_pok6 fx_ck_61 fx_w_binds fx_w_castI
set_option maxRecDepth 100000 in
theorem fx_ck_62 : fx_chk fx_kd fx_M62 43 = true := by decide +kernel
theorem fx_kk_62 : fx_Mok fx_M62 ∧ fx_Cok fx_Y fx_M62 := fx_ok_of (sz := 43) (fun _ _ h => fx_lts h) fx_pok6 fx_ck_62 fx_w_binds fx_w_castI
set_option maxRecDepth 100000 in
theorem fx_ck_63 : fx_chk fx_kd fx_M63 175 = true := by decide +kernel
theorem fx_kk_63 : fx_Mok fx_M63 ∧ fx_Cok fx_Y fx_M63 := fx_ok_of (sz := 175) (fun _ _ h => fx_lts h) fx_pok6 fx_ck_63 fx_w_binds fx_w_castI
set_option maxRecDepth 100000 in
theorem fx_ck_64 : fx_chk fx_kd fx_M64 10 = true := by decide +kernel
theorem fx_kk_64 : fx_Mok fx_M64 ∧ fx_Cok fx_Y fx_M64 := fx_ok_of (sz := 10) (fun _ _ h => fx_lts h) fx_pok7 fx_ck_64 fx_w_binds fx_w_castI
set_option maxRecDepth 100000 in
theorem fx_ck_65 : fx_chk fx_kd fx_M65 23 = true := by decide +kernel
theorem fx_kk_65 : fx_Mok fx_M65 ∧ fx_Cok fx_Y fx_M65 := fx_ok_of (sz := 23) (fun _ _ h => fx_lts h) fx_pok7 fx_ck_65 fx_w_binds fx_w_castI
set_option maxRecDepth 100000 in
theorem fx_ck_66 : fx_chk fx_kd fx_M66 12 = true := by decide +kernel
theorem fx_kk_66 : fx_Mok fx_M66 ∧ fx_Cok fx_Y fx_M66 := fx_ok_of (sz := 12) (fun _ _ h => fx_lts h) fx_pok7 fx_ck_66 fx_w_binds fx_w_castI
set_option maxRecDepth 100000 in
theorem fx_ck_67 : fx_chk fx_kd fx_M67 122 = true := by decide +kernel
theorem fx_kk_67 : fx_Mok fx_M67 ∧ fx_Cok fx_Y fx_M67 := fx_ok_of (sz := 122) (fun _ _ h => fx_lts h) fx_pok7 fx_ck_67 fx_w_binds fx_w_castI
set_option maxRecDepth 100000 in
theorem fx_ck_68 : fx_chk fx_kd fx_M68 18 = true := by decide +kernel
theorem fx_kk_68 : fx_Mok fx_M68 ∧ fx_Cok fx_Y fx_M68 := fx_ok_of (sz := 18) (fun _ _ h => fx_lts h) fx_pok7 fx_ck_68 fx_w_binds fx_w_castI
set_option maxRecDepth 100000 in
theorem fx_ck_69 : fx_chk fx_kd fx_M69 18 = true := by decide +kernel
theorem fx_kk_69 : fx_Mok fx_M69 ∧ fx_Cok fx_Y fx_M69 := fx_ok_of (sz := 18) (fun _ _ h => fx_lts h) fx_pok7 fx_ck_69 fx_w_binds fx_w_castI
set_option maxRecDepth 100000 in
theorem fx_ck_70 : fx_chk fx_kd fx_M70 82 = true := by decide +kernel
theorem fx_kk_70 : fx_Mok fx_M70 ∧ fx_Cok fx_Y fx_M70 := fx_ok_of (sz := 82) (fun _ _ h => fx_lts h) fx_pok7 fx_ck_70 fx_w_binds fx_w_castI
set_option maxRecDepth 100000 in
theorem fx_ck_71 : fx_chk fx_kd fx_M71 45 = true := by decide +kernel
theorem fx_kk_71 : fx_Mok fx_M71 ∧ fx_Cok fx_Y fx_M71 := fx_ok_of (sz := 45) (fun _ _ h => fx_lts h) fx_pok7 fx_ck_71 fx_w_binds fx_w_castI
set_option maxRecDepth 100000 in
theorem fx_ck_72 : fx_chk fx_kd fx_M72 205 = true := by decide +kernel
theorem fx_kk_72 : fx_Mok fx_M72 ∧ fx_Cok fx_Y fx_M72 := fx_ok_of (sz := 205) (fun _ _ h => fx_lts h) fx_pok7 fx_ck_72 fx_w_binds fx_w_castI
set_option maxRecDepth 100000 in
theorem fx_ck_73 : fx_chk fx_kd fx_M73 12 = true := by decide +kernel
theorem fx_kk_73 : fx_Mok fx_M73 ∧ fx_Cok fx_Y fx_M73 := fx_ok_of (sz := 12) (fun _ _ h => fx_lts h) fx_pok7 fx_ck_73 fx_w_binds fx_w_castI
set_option maxRecDepth 100000 in
theorem fx_ck_74 : fx_chk fx_kd fx_M74 12 = true := by decide +kernel
theorem fx_kk_74 : fx_Mok fx_M74 ∧ fx_Cok fx_Y fx_M74 := fx_ok_of (sz := 12) (fun _ _ h => fx_lts h) fx_pok7 fx_ck_74 fx_w_binds fx_w_castI
set_option maxRecDepth 100000 in
theorem fx_ck_75 : fx_chk fx_kd fx_M75 39 = true := by decide +kernel
theorem fx_kk_75 : fx_Mok fx_M75 ∧ fx_Cok fx_Y fx_M75 := fx_ok_of (sz := 39) (fun _ _ h => fx_lts h) fx_pok7 fx_ck_75 fx_w_binds fx_w_castI
set_option maxRecDepth 100000 in
theorem fx_ck_76 : fx_chk fx_kd fx_M76 19 = true := by decide +kernel
theorem fx_kk_76 : fx_Mok fx_M76 ∧ fx_Cok fx_Y fx_M76 := fx_ok_of (sz := 19) (fun _ _ h => fx_lts h) fx_pok7 fx_ck_76 fx_w_binds fx_w_castI
set_option maxRecDepth 100000 in
theorem fx_ck_77 : fx_chk fx_kd fx_M77 78 = true := by decide +kernel
theorem fx_kk_77 : fx_Mok fx_M77 ∧ fx_Cok fx_Y fx_M77 := fx_ok_of (sz := 78) (fun _ _ h => fx_lts h) fx_pok7 fx_ck_77 fx_w_binds fx_w_castI
set_option maxRecDepth 100000 in
theorem fx_ck_78 : fx_chk fx_kd fx_M78 34 = true := by decide +kernel
theorem fx_kk_78 : fx_Mok fx_M78 ∧ fx_Cok fx_Y fx_M78 := fx_ok_of (sz := 34) (fun _ _ h => fx_lts h) fx_pok8 fx_ck_78 fx_w_binds fx_w_castI
set_option maxRecDepth 100000 in
theorem fx_ck_79 : fx_chk fx_kd fx_M79 105 = true := by decide +kernel
theorem fx_kk_79 : fx_Mok fx_M79 ∧ fx_Cok fx_Y fx_M79 := fx_ok_of (sz := 105) (fun _ _ h => fx_lts h) fx_pok8 fx_ck_79 fx_w_binds fx_w_castI
set_option maxRecDepth 100000 in
theorem fx_ck_80 : fx_chk fx_kd fx_M80 108 = true := by decide +kernel
theorem fx_kk_80 : fx_Mok fx_M80 ∧ fx_Cok fx_Y fx_M80 := fx_ok_of (sz := 108) (fun _ _ h => fx_lts h) fx_pok8 fx_ck_80 fx_w_binds fx_w_castI
set_option maxRecDepth 100000 in
theorem fx_ck_81 : fx_chk fx_kd fx_M81 63 = true := by decide +kernel
theorem fx_kk_81 : fx_Mok fx_M81 ∧ fx_Cok fx_Y fx_M81 := fx_ok_of (sz := 63) (fun _ _ h => fx_lts h) fx_pok8 fx_ck_81 fx_w_binds fx_w_castI
set_option maxRecDepth 100000 in
theorem fx_ck_82 : fx_chk fx_kd fx_M82 145 = true := by decide +kernel
theorem fx_kk_82 : fx_Mok fx_M82 ∧ fx_Cok fx_Y fx_M82 := fx_ok_of (sz := 145) (fun _ _ h => fx_lts h) fx_pok8 fx_ck_82 fx_w_binds fx_w_castI
set_option maxRecDepth 100000 in
theorem fx_ck_83 : fx_chk fx_kd fx_M83 73 = true := by decide +kernel
theorem fx_kk_83 : fx_Mok fx_M83 ∧ fx_Cok fx_Y fx_M83 := fx_ok_of (sz := 73) (fun _ _ h => fx_lts h) fx_pok8 fx_ck_83 fx_w_binds fx_w_castI
set_option maxRecDepth 100000 in
theorem fx_ck_84 : fx_chk fx_kd fx_M84 43 = true := by decide +kernel
theorem fx_kk_84 : fx_Mok fx_M84 ∧ fx_Cok fx_Y fx_M84 := fx_ok_of (sz := 43) (fun _ _ h => fx_lts h) fx_pok9 fx_ck_84 fx_w_binds fx_w_castI
set_option maxRecDepth 100000 in
theorem fx_ck_85 : fx_chk fx_kd fx_M85 50 = true := by decide +kernel
theorem fx_kk_85 : fx_Mok fx_M85 ∧ fx_Cok fx_Y fx_M85 := fx_ok_of (sz := 50) (fun _ _ h => fx_lts h) fx_pok9 fx_ck_85 fx_w_binds fx_w_castI
