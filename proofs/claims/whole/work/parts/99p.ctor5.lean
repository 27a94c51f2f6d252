/-! constructors: the reference, and what both leave (by wip/whole/gen_ctor.py) -/
def j0 : Nat → Nat := cinc (k18 4) 11
def j1 : Nat → Nat := cinc j0 50
def j2 : Nat → Nat := cinc j1 51
def j3 : Nat → Nat := cinc j2 52
def j4 : Nat → Nat := cinc j3 53
def j5 : Nat → Nat := cinc j4 54
def j6 : Nat → Nat := cinc j5 55
def j7 : Nat → Nat := cinc j6 56
def j8 : Nat → Nat := cinc j7 57
def j9 : Nat → Nat := cinc j8 58
def j10 : Nat → Nat := cinc j9 59
def j11 : Nat → Nat := cinc j10 60
def j12 : Nat → Nat := cinc j11 61
def j13 : Nat → Nat := cinc j12 62
def j14 : Nat → Nat := cinc j13 63
def j15 : Nat → Nat := cinc j14 64
def j16 : Nat → Nat := cinc j15 65
def j17 : Nat → Nat := cinc j16 66
def j18 : Nat → Nat := cinc j17 67
def j19 : Nat → Nat := cinc j18 68
def j20 : Nat → Nat := cinc j19 69
def j21 : Nat → Nat := cinc j20 70
def iM (sc : Nat → Int32) : fxI3 := fx_up (fx_up (iW sc 4) 11 0 21 (-1)) 11 0 23 (-1)
section CX
variable {d L : Nat} {sc : Nat → Int32}
theorem zI_M {k j s : Nat} (h : 50 ≤ k) (h2 : k < 90) : iM sc k j s = 0 := by
  unfold iM
  rw [up_off _ _ (by omega), up_off _ _ (by omega)]
  exact zI_W 4 k j s (by omega) (by omega) h2
set_option maxRecDepth 100000 in
set_option maxHeartbeats 8000000 in
theorem x_model : fx_Ga (d + 1) 141 [mO] (fx_mk (tH L (k18 4) R0 (iW sc 4)) 11 0) none (tH L j21 R0 (iM sc)) := by
  rw [mkOj (k := 11) (n := 0) (j := 0) rfl rfl (fun s => zI_W 4 11 0 s (by decide) (by decide) (by decide)) (fun s => rfl)]
  have fin : (fx_all R0 11 0 (gK 11 37)) = R0 := all_id (fun t => by
    unfold gK
    by_cases a : t ≤ 37
    · rw [if_pos a]
    · rw [if_neg a]
      obtain ⟨t', rfl⟩ : ∃ t', t = t' + 38 := ⟨t - 38, by omega⟩
      rfl)
  have s184 : fx_E (fx_Ga d) fx_M141 (184, [some mO], [], tH L j21 (fx_all R0 11 0 (gK 11 37)) (iM sc), 21, 4752) (fun r2 h2 => r2 = none ∧ h2 = tH L j21 R0 (iM sc)) := by
    rw [fin]
    exact fx_wpE [] 10 ⟨rfl, rfl⟩
  have s177 : fx_E (fx_Ga d) fx_M141 (177, [some mO], [], tH L j20 (fx_all R0 11 0 (gK 11 36)) (iM sc), 20, 4748) (fun r2 h2 => r2 = none ∧ h2 = tH L j21 R0 (iM sc)) := by
    have e : fx_wr (fx_mk (tH L j20 (fx_all R0 11 0 (gK 11 36)) (iM sc)) 70 4) 11 0 37 (some (70, 0)) = tH L j21 (fx_all R0 11 0 (gK 11 37)) (iM sc) := stA (by decide +kernel) (by decide) rfl (fun s => rfl) (fun s => zI_M (by decide) (by decide)) (fun s => rfl) (by decide) rfl (fun t a b => by omega)
    have s : fx_E (fx_Ga d) fx_M141 (184, [some mO], [], fx_wr (fx_mk (tH L j20 (fx_all R0 11 0 (gK 11 36)) (iM sc)) 70 4) 11 0 37 (some (70, 0)), 21, 4752) (fun r2 h2 => r2 = none ∧ h2 = tH L j21 R0 (iM sc)) := by
      rw [e]
      exact s184
    exact fx_wpE [184] 30 s
  have s170 : fx_E (fx_Ga d) fx_M141 (170, [some mO], [], tH L j19 (fx_all R0 11 0 (gK 11 35)) (iM sc), 19, 4744) (fun r2 h2 => r2 = none ∧ h2 = tH L j21 R0 (iM sc)) := by
    have e : fx_wr (fx_mk (tH L j19 (fx_all R0 11 0 (gK 11 35)) (iM sc)) 69 4) 11 0 36 (some (69, 0)) = tH L j20 (fx_all R0 11 0 (gK 11 36)) (iM sc) := stA (by decide +kernel) (by decide) rfl (fun s => rfl) (fun s => zI_M (by decide) (by decide)) (fun s => rfl) (by decide) rfl (fun t a b => by omega)
    have s : fx_E (fx_Ga d) fx_M141 (177, [some mO], [], fx_wr (fx_mk (tH L j19 (fx_all R0 11 0 (gK 11 35)) (iM sc)) 69 4) 11 0 36 (some (69, 0)), 20, 4748) (fun r2 h2 => r2 = none ∧ h2 = tH L j21 R0 (iM sc)) := by
      rw [e]
      exact s177
    exact fx_wpE [177] 30 s
  have s163 : fx_E (fx_Ga d) fx_M141 (163, [some mO], [], tH L j18 (fx_all R0 11 0 (gK 11 34)) (iM sc), 18, 4740) (fun r2 h2 => r2 = none ∧ h2 = tH L j21 R0 (iM sc)) := by
    have e : fx_wr (fx_mk (tH L j18 (fx_all R0 11 0 (gK 11 34)) (iM sc)) 68 4) 11 0 35 (some (68, 0)) = tH L j19 (fx_all R0 11 0 (gK 11 35)) (iM sc) := stA (by decide +kernel) (by decide) rfl (fun s => rfl) (fun s => zI_M (by decide) (by decide)) (fun s => rfl) (by decide) rfl (fun t a b => by omega)
    have s : fx_E (fx_Ga d) fx_M141 (170, [some mO], [], fx_wr (fx_mk (tH L j18 (fx_all R0 11 0 (gK 11 34)) (iM sc)) 68 4) 11 0 35 (some (68, 0)), 19, 4744) (fun r2 h2 => r2 = none ∧ h2 = tH L j21 R0 (iM sc)) := by
      rw [e]
      exact s170
    exact fx_wpE [170] 30 s
  have s154 : fx_E (fx_Ga d) fx_M141 (154, [some mO], [], tH L j17 (fx_all R0 11 0 (gK 11 32)) (iM sc), 17, 4408) (fun r2 h2 => r2 = none ∧ h2 = tH L j21 R0 (iM sc)) := by
    have e : fx_wr (fx_mk (tH L j17 (fx_all R0 11 0 (gK 11 32)) (iM sc)) 67 332) 11 0 34 (some (67, 0)) = tH L j18 (fx_all R0 11 0 (gK 11 34)) (iM sc) := stA (by decide +kernel) (by decide) rfl (fun s => rfl) (fun s => zI_M (by decide) (by decide)) (fun s => rfl) (by decide) rfl (fun t a b => by rcases (show t = 33 by omega) with rfl <;> rfl)
    have s : fx_E (fx_Ga d) fx_M141 (163, [some mO], [], fx_wr (fx_mk (tH L j17 (fx_all R0 11 0 (gK 11 32)) (iM sc)) 67 332) 11 0 34 (some (67, 0)), 18, 4740) (fun r2 h2 => r2 = none ∧ h2 = tH L j21 R0 (iM sc)) := by
      rw [e]
      exact s163
    exact fx_wpE [163] 30 s
  have s146 : fx_E (fx_Ga d) fx_M141 (146, [some mO], [], tH L j16 (fx_all R0 11 0 (gK 11 31)) (iM sc), 16, 4366) (fun r2 h2 => r2 = none ∧ h2 = tH L j21 R0 (iM sc)) := by
    have e : fx_wr (fx_mk (tH L j16 (fx_all R0 11 0 (gK 11 31)) (iM sc)) 66 42) 11 0 32 (some (66, 0)) = tH L j17 (fx_all R0 11 0 (gK 11 32)) (iM sc) := stA (by decide +kernel) (by decide) rfl (fun s => rfl) (fun s => zI_M (by decide) (by decide)) (fun s => rfl) (by decide) rfl (fun t a b => by omega)
    have s : fx_E (fx_Ga d) fx_M141 (154, [some mO], [], fx_wr (fx_mk (tH L j16 (fx_all R0 11 0 (gK 11 31)) (iM sc)) 66 42) 11 0 32 (some (66, 0)), 17, 4408) (fun r2 h2 => r2 = none ∧ h2 = tH L j21 R0 (iM sc)) := by
      rw [e]
      exact s154
    exact fx_wpE [154] 30 s
  have s138 : fx_E (fx_Ga d) fx_M141 (138, [some mO], [], tH L j15 (fx_all R0 11 0 (gK 11 30)) (iM sc), 15, 4359) (fun r2 h2 => r2 = none ∧ h2 = tH L j21 R0 (iM sc)) := by
    have e : fx_wr (fx_mk (tH L j15 (fx_all R0 11 0 (gK 11 30)) (iM sc)) 65 7) 11 0 31 (some (65, 0)) = tH L j16 (fx_all R0 11 0 (gK 11 31)) (iM sc) := stA (by decide +kernel) (by decide) rfl (fun s => rfl) (fun s => zI_M (by decide) (by decide)) (fun s => rfl) (by decide) rfl (fun t a b => by omega)
    have s : fx_E (fx_Ga d) fx_M141 (146, [some mO], [], fx_wr (fx_mk (tH L j15 (fx_all R0 11 0 (gK 11 30)) (iM sc)) 65 7) 11 0 31 (some (65, 0)), 16, 4366) (fun r2 h2 => r2 = none ∧ h2 = tH L j21 R0 (iM sc)) := by
      rw [e]
      exact s146
    exact fx_wpE [146] 30 s
  have s130 : fx_E (fx_Ga d) fx_M141 (130, [some mO], [], tH L j14 (fx_all R0 11 0 (gK 11 29)) (iM sc), 14, 4309) (fun r2 h2 => r2 = none ∧ h2 = tH L j21 R0 (iM sc)) := by
    have e : fx_wr (fx_mk (tH L j14 (fx_all R0 11 0 (gK 11 29)) (iM sc)) 64 50) 11 0 30 (some (64, 0)) = tH L j15 (fx_all R0 11 0 (gK 11 30)) (iM sc) := stA (by decide +kernel) (by decide) rfl (fun s => rfl) (fun s => zI_M (by decide) (by decide)) (fun s => rfl) (by decide) rfl (fun t a b => by omega)
    have s : fx_E (fx_Ga d) fx_M141 (138, [some mO], [], fx_wr (fx_mk (tH L j14 (fx_all R0 11 0 (gK 11 29)) (iM sc)) 64 50) 11 0 30 (some (64, 0)), 15, 4359) (fun r2 h2 => r2 = none ∧ h2 = tH L j21 R0 (iM sc)) := by
      rw [e]
      exact s138
    exact fx_wpE [138] 30 s
  have s122 : fx_E (fx_Ga d) fx_M141 (122, [some mO], [], tH L j13 (fx_all R0 11 0 (gK 11 27)) (iM sc), 13, 4281) (fun r2 h2 => r2 = none ∧ h2 = tH L j21 R0 (iM sc)) := by
    have e : fx_wr (fx_mk (tH L j13 (fx_all R0 11 0 (gK 11 27)) (iM sc)) 63 28) 11 0 29 (some (63, 0)) = tH L j14 (fx_all R0 11 0 (gK 11 29)) (iM sc) := stA (by decide +kernel) (by decide) rfl (fun s => rfl) (fun s => zI_M (by decide) (by decide)) (fun s => rfl) (by decide) rfl (fun t a b => by rcases (show t = 28 by omega) with rfl <;> rfl)
    have s : fx_E (fx_Ga d) fx_M141 (130, [some mO], [], fx_wr (fx_mk (tH L j13 (fx_all R0 11 0 (gK 11 27)) (iM sc)) 63 28) 11 0 29 (some (63, 0)), 14, 4309) (fun r2 h2 => r2 = none ∧ h2 = tH L j21 R0 (iM sc)) := by
      rw [e]
      exact s130
    exact fx_wpE [130] 30 s
  have s113 : fx_E (fx_Ga d) fx_M141 (113, [some mO], [], tH L j12 (fx_all R0 11 0 (gK 11 26)) (iM sc), 12, 3721) (fun r2 h2 => r2 = none ∧ h2 = tH L j21 R0 (iM sc)) := by
    have e : fx_wr (fx_mk (tH L j12 (fx_all R0 11 0 (gK 11 26)) (iM sc)) 62 560) 11 0 27 (some (62, 0)) = tH L j13 (fx_all R0 11 0 (gK 11 27)) (iM sc) := stA (by decide +kernel) (by decide) rfl (fun s => rfl) (fun s => zI_M (by decide) (by decide)) (fun s => rfl) (by decide) rfl (fun t a b => by omega)
    have s : fx_E (fx_Ga d) fx_M141 (122, [some mO], [], fx_wr (fx_mk (tH L j12 (fx_all R0 11 0 (gK 11 26)) (iM sc)) 62 560) 11 0 27 (some (62, 0)), 13, 4281) (fun r2 h2 => r2 = none ∧ h2 = tH L j21 R0 (iM sc)) := by
      rw [e]
      exact s122
    exact fx_wpE [122] 30 s
  have s105 : fx_E (fx_Ga d) fx_M141 (105, [some mO], [], tH L j11 (fx_all R0 11 0 (gK 11 24)) (iM sc), 11, 3715) (fun r2 h2 => r2 = none ∧ h2 = tH L j21 R0 (iM sc)) := by
    have e : fx_wr (fx_mk (tH L j11 (fx_all R0 11 0 (gK 11 24)) (iM sc)) 61 6) 11 0 26 (some (61, 0)) = tH L j12 (fx_all R0 11 0 (gK 11 26)) (iM sc) := stA (by decide +kernel) (by decide) rfl (fun s => rfl) (fun s => zI_M (by decide) (by decide)) (fun s => rfl) (by decide) rfl (fun t a b => by rcases (show t = 25 by omega) with rfl <;> rfl)
    have s : fx_E (fx_Ga d) fx_M141 (113, [some mO], [], fx_wr (fx_mk (tH L j11 (fx_all R0 11 0 (gK 11 24)) (iM sc)) 61 6) 11 0 26 (some (61, 0)), 12, 3721) (fun r2 h2 => r2 = none ∧ h2 = tH L j21 R0 (iM sc)) := by
      rw [e]
      exact s113
    exact fx_wpE [113] 30 s
  have s98 : fx_E (fx_Ga d) fx_M141 (98, [some mO], [], tH L j10 (fx_all R0 11 0 (gK 11 20)) (iM sc), 10, 3711) (fun r2 h2 => r2 = none ∧ h2 = tH L j21 R0 (iM sc)) := by
    have e : fx_wr (fx_mk (tH L j10 (fx_all R0 11 0 (gK 11 20)) (iM sc)) 60 4) 11 0 24 (some (60, 0)) = tH L j11 (fx_all R0 11 0 (gK 11 24)) (iM sc) := stA (by decide +kernel) (by decide) rfl (fun s => rfl) (fun s => zI_M (by decide) (by decide)) (fun s => rfl) (by decide) rfl (fun t a b => by rcases (show t = 21 ∨ t = 22 ∨ t = 23 by omega) with rfl | rfl | rfl <;> rfl)
    have s : fx_E (fx_Ga d) fx_M141 (105, [some mO], [], fx_wr (fx_mk (tH L j10 (fx_all R0 11 0 (gK 11 20)) (iM sc)) 60 4) 11 0 24 (some (60, 0)), 11, 3715) (fun r2 h2 => r2 = none ∧ h2 = tH L j21 R0 (iM sc)) := by
      rw [e]
      exact s105
    exact fx_wpE [105] 30 s
  have s88 : fx_E (fx_Ga d) fx_M141 (88, [some mO], [], tH L j10 (fx_all R0 11 0 (gK 11 20)) (iW sc 4), 10, 3711) (fun r2 h2 => r2 = none ∧ h2 = tH L j21 R0 (iM sc)) := fx_wpE [98] 20 s98
  have s80 : fx_E (fx_Ga d) fx_M141 (80, [some mO], [], tH L j9 (fx_all R0 11 0 (gK 11 19)) (iW sc 4), 9, 3628) (fun r2 h2 => r2 = none ∧ h2 = tH L j21 R0 (iM sc)) := by
    have e : fx_wr (fx_mk (tH L j9 (fx_all R0 11 0 (gK 11 19)) (iW sc 4)) 59 83) 11 0 20 (some (59, 0)) = tH L j10 (fx_all R0 11 0 (gK 11 20)) (iW sc 4) := stA (by decide +kernel) (by decide) rfl (fun s => rfl) (fun s => zI_W 4 59 _ s (by decide) (by decide) (by decide)) (fun s => rfl) (by decide) rfl (fun t a b => by omega)
    have s : fx_E (fx_Ga d) fx_M141 (88, [some mO], [], fx_wr (fx_mk (tH L j9 (fx_all R0 11 0 (gK 11 19)) (iW sc 4)) 59 83) 11 0 20 (some (59, 0)), 10, 3711) (fun r2 h2 => r2 = none ∧ h2 = tH L j21 R0 (iM sc)) := by
      rw [e]
      exact s88
    exact fx_wpE [88] 30 s
  have s72 : fx_E (fx_Ga d) fx_M141 (72, [some mO], [], tH L j8 (fx_all R0 11 0 (gK 11 17)) (iW sc 4), 8, 3617) (fun r2 h2 => r2 = none ∧ h2 = tH L j21 R0 (iM sc)) := by
    have e : fx_wr (fx_mk (tH L j8 (fx_all R0 11 0 (gK 11 17)) (iW sc 4)) 58 11) 11 0 19 (some (58, 0)) = tH L j9 (fx_all R0 11 0 (gK 11 19)) (iW sc 4) := stA (by decide +kernel) (by decide) rfl (fun s => rfl) (fun s => zI_W 4 58 _ s (by decide) (by decide) (by decide)) (fun s => rfl) (by decide) rfl (fun t a b => by rcases (show t = 18 by omega) with rfl <;> rfl)
    have s : fx_E (fx_Ga d) fx_M141 (80, [some mO], [], fx_wr (fx_mk (tH L j8 (fx_all R0 11 0 (gK 11 17)) (iW sc 4)) 58 11) 11 0 19 (some (58, 0)), 9, 3628) (fun r2 h2 => r2 = none ∧ h2 = tH L j21 R0 (iM sc)) := by
      rw [e]
      exact s80
    exact fx_wpE [80] 30 s
  have s64 : fx_E (fx_Ga d) fx_M141 (64, [some mO], [], tH L j7 (fx_all R0 11 0 (gK 11 15)) (iW sc 4), 7, 3553) (fun r2 h2 => r2 = none ∧ h2 = tH L j21 R0 (iM sc)) := by
    have e : fx_wr (fx_mk (tH L j7 (fx_all R0 11 0 (gK 11 15)) (iW sc 4)) 57 64) 11 0 17 (some (57, 0)) = tH L j8 (fx_all R0 11 0 (gK 11 17)) (iW sc 4) := stA (by decide +kernel) (by decide) rfl (fun s => rfl) (fun s => zI_W 4 57 _ s (by decide) (by decide) (by decide)) (fun s => rfl) (by decide) rfl (fun t a b => by rcases (show t = 16 by omega) with rfl <;> rfl)
    have s : fx_E (fx_Ga d) fx_M141 (72, [some mO], [], fx_wr (fx_mk (tH L j7 (fx_all R0 11 0 (gK 11 15)) (iW sc 4)) 57 64) 11 0 17 (some (57, 0)), 8, 3617) (fun r2 h2 => r2 = none ∧ h2 = tH L j21 R0 (iM sc)) := by
      rw [e]
      exact s72
    exact fx_wpE [72] 30 s
  have s55 : fx_E (fx_Ga d) fx_M141 (55, [some mO], [], tH L j6 (fx_all R0 11 0 (gK 11 7)) (iW sc 4), 6, 3153) (fun r2 h2 => r2 = none ∧ h2 = tH L j21 R0 (iM sc)) := by
    have e : fx_wr (fx_mk (tH L j6 (fx_all R0 11 0 (gK 11 7)) (iW sc 4)) 56 400) 11 0 15 (some (56, 0)) = tH L j7 (fx_all R0 11 0 (gK 11 15)) (iW sc 4) := stA (by decide +kernel) (by decide) rfl (fun s => rfl) (fun s => zI_W 4 56 _ s (by decide) (by decide) (by decide)) (fun s => rfl) (by decide) rfl (fun t a b => by rcases (show t = 8 ∨ t = 9 ∨ t = 10 ∨ t = 11 ∨ t = 12 ∨ t = 13 ∨ t = 14 by omega) with rfl | rfl | rfl | rfl | rfl | rfl | rfl <;> rfl)
    have s : fx_E (fx_Ga d) fx_M141 (64, [some mO], [], fx_wr (fx_mk (tH L j6 (fx_all R0 11 0 (gK 11 7)) (iW sc 4)) 56 400) 11 0 15 (some (56, 0)), 7, 3553) (fun r2 h2 => r2 = none ∧ h2 = tH L j21 R0 (iM sc)) := by
      rw [e]
      exact s64
    exact fx_wpE [64] 30 s
  have s47 : fx_E (fx_Ga d) fx_M141 (47, [some mO], [], tH L j5 (fx_all R0 11 0 (gK 11 6)) (iW sc 4), 5, 3101) (fun r2 h2 => r2 = none ∧ h2 = tH L j21 R0 (iM sc)) := by
    have e : fx_wr (fx_mk (tH L j5 (fx_all R0 11 0 (gK 11 6)) (iW sc 4)) 55 52) 11 0 7 (some (55, 0)) = tH L j6 (fx_all R0 11 0 (gK 11 7)) (iW sc 4) := stA (by decide +kernel) (by decide) rfl (fun s => rfl) (fun s => zI_W 4 55 _ s (by decide) (by decide) (by decide)) (fun s => rfl) (by decide) rfl (fun t a b => by omega)
    have s : fx_E (fx_Ga d) fx_M141 (55, [some mO], [], fx_wr (fx_mk (tH L j5 (fx_all R0 11 0 (gK 11 6)) (iW sc 4)) 55 52) 11 0 7 (some (55, 0)), 6, 3153) (fun r2 h2 => r2 = none ∧ h2 = tH L j21 R0 (iM sc)) := by
      rw [e]
      exact s55
    exact fx_wpE [55] 30 s
  have s39 : fx_E (fx_Ga d) fx_M141 (39, [some mO], [], tH L j4 (fx_all R0 11 0 (gK 11 5)) (iW sc 4), 4, 3095) (fun r2 h2 => r2 = none ∧ h2 = tH L j21 R0 (iM sc)) := by
    have e : fx_wr (fx_mk (tH L j4 (fx_all R0 11 0 (gK 11 5)) (iW sc 4)) 54 6) 11 0 6 (some (54, 0)) = tH L j5 (fx_all R0 11 0 (gK 11 6)) (iW sc 4) := stA (by decide +kernel) (by decide) rfl (fun s => rfl) (fun s => zI_W 4 54 _ s (by decide) (by decide) (by decide)) (fun s => rfl) (by decide) rfl (fun t a b => by omega)
    have s : fx_E (fx_Ga d) fx_M141 (47, [some mO], [], fx_wr (fx_mk (tH L j4 (fx_all R0 11 0 (gK 11 5)) (iW sc 4)) 54 6) 11 0 6 (some (54, 0)), 5, 3101) (fun r2 h2 => r2 = none ∧ h2 = tH L j21 R0 (iM sc)) := by
      rw [e]
      exact s47
    exact fx_wpE [47] 30 s
  have s30 : fx_E (fx_Ga d) fx_M141 (30, [some mO], [], tH L j3 (fx_all R0 11 0 (gK 11 4)) (iW sc 4), 3, 2807) (fun r2 h2 => r2 = none ∧ h2 = tH L j21 R0 (iM sc)) := by
    have e : fx_wr (fx_mk (tH L j3 (fx_all R0 11 0 (gK 11 4)) (iW sc 4)) 53 288) 11 0 5 (some (53, 0)) = tH L j4 (fx_all R0 11 0 (gK 11 5)) (iW sc 4) := stA (by decide +kernel) (by decide) rfl (fun s => rfl) (fun s => zI_W 4 53 _ s (by decide) (by decide) (by decide)) (fun s => rfl) (by decide) rfl (fun t a b => by omega)
    have s : fx_E (fx_Ga d) fx_M141 (39, [some mO], [], fx_wr (fx_mk (tH L j3 (fx_all R0 11 0 (gK 11 4)) (iW sc 4)) 53 288) 11 0 5 (some (53, 0)), 4, 3095) (fun r2 h2 => r2 = none ∧ h2 = tH L j21 R0 (iM sc)) := by
      rw [e]
      exact s39
    exact fx_wpE [39] 30 s
  have s22 : fx_E (fx_Ga d) fx_M141 (22, [some mO], [], tH L j2 (fx_all R0 11 0 (gK 11 3)) (iW sc 4), 2, 2800) (fun r2 h2 => r2 = none ∧ h2 = tH L j21 R0 (iM sc)) := by
    have e : fx_wr (fx_mk (tH L j2 (fx_all R0 11 0 (gK 11 3)) (iW sc 4)) 52 7) 11 0 4 (some (52, 0)) = tH L j3 (fx_all R0 11 0 (gK 11 4)) (iW sc 4) := stA (by decide +kernel) (by decide) rfl (fun s => rfl) (fun s => zI_W 4 52 _ s (by decide) (by decide) (by decide)) (fun s => rfl) (by decide) rfl (fun t a b => by omega)
    have s : fx_E (fx_Ga d) fx_M141 (30, [some mO], [], fx_wr (fx_mk (tH L j2 (fx_all R0 11 0 (gK 11 3)) (iW sc 4)) 52 7) 11 0 4 (some (52, 0)), 3, 2807) (fun r2 h2 => r2 = none ∧ h2 = tH L j21 R0 (iM sc)) := by
      rw [e]
      exact s30
    exact fx_wpE [30] 30 s
  have s13 : fx_E (fx_Ga d) fx_M141 (13, [some mO], [], tH L j1 (fx_all R0 11 0 (gK 11 0)) (iW sc 4), 1, 400) (fun r2 h2 => r2 = none ∧ h2 = tH L j21 R0 (iM sc)) := by
    have e : fx_wr (fx_mk (tH L j1 (fx_all R0 11 0 (gK 11 0)) (iW sc 4)) 51 2400) 11 0 3 (some (51, 0)) = tH L j2 (fx_all R0 11 0 (gK 11 3)) (iW sc 4) := stA (by decide +kernel) (by decide) rfl (fun s => rfl) (fun s => zI_W 4 51 _ s (by decide) (by decide) (by decide)) (fun s => rfl) (by decide) rfl (fun t a b => by rcases (show t = 1 ∨ t = 2 by omega) with rfl | rfl <;> rfl)
    have s : fx_E (fx_Ga d) fx_M141 (22, [some mO], [], fx_wr (fx_mk (tH L j1 (fx_all R0 11 0 (gK 11 0)) (iW sc 4)) 51 2400) 11 0 3 (some (51, 0)), 2, 2800) (fun r2 h2 => r2 = none ∧ h2 = tH L j21 R0 (iM sc)) := by
      rw [e]
      exact s22
    exact fx_wpE [22] 30 s
  have s0 : fx_E (fx_Ga d) fx_M141 (0, [some mO], [], tH L j0 (fx_all R0 11 0 (fun _ => none)) (iW sc 4), 0, 0) (fun r2 h2 => r2 = none ∧ h2 = tH L j21 R0 (iM sc)) := by
    have e : fx_wr (fx_mk (tH L j0 (fx_all R0 11 0 (fun _ => none)) (iW sc 4)) 50 400) 11 0 0 (some (50, 0)) = tH L j1 (fx_all R0 11 0 (gK 11 0)) (iW sc 4) := stA0 (by decide +kernel) (by decide) rfl (fun s => rfl) (fun s => zI_W 4 50 _ s (by decide) (by decide) (by decide)) (fun s => rfl) rfl
    have s : fx_E (fx_Ga d) fx_M141 (13, [some mO], [], fx_wr (fx_mk (tH L j0 (fx_all R0 11 0 (fun _ => none)) (iW sc 4)) 50 400) 11 0 0 (some (50, 0)), 1, 400) (fun r2 h2 => r2 = none ∧ h2 = tH L j21 R0 (iM sc)) := by
      rw [e]
      exact s13
    exact fx_wpE [13] 30 s
  exact fx_meth fx_M141 [some mO] (by decide) rfl rfl (Nat.le_of_ble_eq_true rfl) s0
end CX
theorem cinc_ge {c : Nat → Nat} {k a : Nat} (hk : k < 93) (ha : 93 ≤ a) : cinc c k a = c a := cinc_ne (by omega)
theorem cch_ge {c : Nat → Nat} {a : Nat} (ha : 93 ≤ a) : cch c a = c a := cch_ne (by omega)
theorem cchN_ge {c : Nat → Nat} {a : Nat} (ha : 93 ≤ a) : ∀ n, cchN c n a = c a
  | 0 => rfl
  | n + 1 => (cch_ge ha).trans (cchN_ge ha n)
theorem cno_ge {c : Nat → Nat} {a : Nat} (ha : 93 ≤ a) : cno c a = c a := by
  unfold cno
  rw [cinc_ge (by decide) ha, cinc_ge (by decide) ha, cinc_ge (by decide) ha, cinc_ge (by decide) ha]
theorem cwo_ge {c : Nat → Nat} {a : Nat} (ha : 93 ≤ a) : cwo c a = c a := by
  unfold cwo
  rw [cno_ge ha, cch_ge ha, cch_ge ha, cinc_ge (by decide) ha]
theorem k18_ge {a : Nat} (ha : 93 ≤ a) : ∀ n, k18 n a = k17 a
  | 0 => rfl
  | n + 1 => (cwo_ge ha).trans (k18_ge ha n)
theorem k17_ge {a : Nat} (ha : 93 ≤ a) : k17 a = cnt0 a := by
  have i1 : ∀ (c : Nat → Nat) (k : Nat), k < 93 → cinc c k a = c a := fun c k hk => cinc_ge hk ha
  have a1 : k1 a = cnt0 a := i1 _ _ (by decide)
  have a2 : k2 a = k1 a := i1 _ _ (by decide)
  have a3 : k3 a = k2 a := (cch_ge ha).trans ((i1 _ _ (by decide)).trans (i1 _ _ (by decide)))
  have a4 : k4 a = k3 a := (i1 _ _ (by decide)).trans ((i1 _ _ (by decide)).trans ((i1 _ _ (by decide)).trans ((i1 _ _ (by decide)).trans ((i1 _ _ (by decide)).trans (i1 _ _ (by decide))))))
  have a5 : k5 a = k4 a := i1 _ _ (by decide)
  have a6 : k6 a = k5 a := cwo_ge ha
  have a7 : k7 a = k6 a := i1 _ _ (by decide)
  have a8 : k8 a = k7 a := i1 _ _ (by decide)
  have a9 : k9 a = k8 a := (cchN_ge ha 20).trans ((i1 _ _ (by decide)).trans (i1 _ _ (by decide)))
  have a10 : k10 a = k9 a := (i1 _ _ (by decide)).trans ((i1 _ _ (by decide)).trans ((i1 _ _ (by decide)).trans (i1 _ _ (by decide))))
  have a11 : k11 a = k10 a := cch_ge ha
  have a12 : k12 a = k11 a := (cchN_ge ha 5).trans ((i1 _ _ (by decide)).trans (i1 _ _ (by decide)))
  have a13 : k13 a = k12 a := i1 _ _ (by decide)
  have a14 : k14 a = k13 a := i1 _ _ (by decide)
  have a15 : k15 a = k14 a := i1 _ _ (by decide)
  have a16 : k16 a = k15 a := i1 _ _ (by decide)
  have a17 : k17 a = k16 a := i1 _ _ (by decide)
  rw [a17, a16, a15, a14, a13, a12, a11, a10, a9, a8, a7, a6, a5, a4, a3, a2, a1]
theorem j_ge {a : Nat} (ha : 93 ≤ a) : j21 a = cnt0 a := by
  have i1 : ∀ (c : Nat → Nat) (k : Nat), k < 93 → cinc c k a = c a := fun c k hk => cinc_ge hk ha
  have q0 : j0 a = k18 4 a := i1 _ _ (by decide)
  have q1 : j1 a = j0 a := i1 _ _ (by decide)
  have q2 : j2 a = j1 a := i1 _ _ (by decide)
  have q3 : j3 a = j2 a := i1 _ _ (by decide)
  have q4 : j4 a = j3 a := i1 _ _ (by decide)
  have q5 : j5 a = j4 a := i1 _ _ (by decide)
  have q6 : j6 a = j5 a := i1 _ _ (by decide)
  have q7 : j7 a = j6 a := i1 _ _ (by decide)
  have q8 : j8 a = j7 a := i1 _ _ (by decide)
  have q9 : j9 a = j8 a := i1 _ _ (by decide)
  have q10 : j10 a = j9 a := i1 _ _ (by decide)
  have q11 : j11 a = j10 a := i1 _ _ (by decide)
  have q12 : j12 a = j11 a := i1 _ _ (by decide)
  have q13 : j13 a = j12 a := i1 _ _ (by decide)
  have q14 : j14 a = j13 a := i1 _ _ (by decide)
  have q15 : j15 a = j14 a := i1 _ _ (by decide)
  have q16 : j16 a = j15 a := i1 _ _ (by decide)
  have q17 : j17 a = j16 a := i1 _ _ (by decide)
  have q18 : j18 a = j17 a := i1 _ _ (by decide)
  have q19 : j19 a = j18 a := i1 _ _ (by decide)
  have q20 : j20 a = j19 a := i1 _ _ (by decide)
  have q21 : j21 a = j20 a := i1 _ _ (by decide)
  rw [q21, q20, q19, q18, q17, q16, q15, q14, q13, q12, q11, q10, q9, q8, q7, q6, q5, q4, q3, q2, q1, q0, k18_ge ha, k17_ge ha]
theorem j_cns : j21 = fx_cns 0 := by
  funext a
  by_cases h : a < 93
  · exact (by decide +kernel : ∀ a, a < 93 → j21 a = fx_cns 0 a) a h
  · rw [j_ge (by omega)]
    obtain ⟨b, rfl⟩ : ∃ b, a = b + 93 := ⟨a - 93, by omega⟩
    rfl
theorem both_made (L : Nat) (sc : Nat → Int32) : tH L j21 R0 (iM sc) = hp (L, 0, none, fun _ => 0) (iM sc) (fun _ _ _ => 0) := by
  unfold hp tH
  rw [j_cns]
