/-! Arrays.copyOf -/
section CO
variable {d : Nat}
theorem x_copyOf {h : fxH} {k0 j0 m : Nat} (hk : k0 = 25 ∨ k0 = 26 ∨ k0 = 27) (hm : m ≤ h.2.1 k0 j0) (hL : h.2.1 k0 j0 ≤ 400) : ∃ g : Nat → Int32, fx_Ga (d + 1) 254 [.inr (.inr (some (k0, j0))), vi (nI m)] h (some (.inr (.inr (some (45, h.1 45))))) (fx_wa (fx_mk h 45 m) 45 (h.1 45) g) ∧ ∀ i, i < m → g i = h.2.2.2.1 k0 j0 i := by
  have hb : Nat.ble (0 + m) 400 = true := Nat.ble_eq_true_of_le (by omega)
  by_cases e : m = h.2.1 k0 j0
  · refine ⟨h.2.2.2.1 k0 j0, ?_, fun i _ => rfl⟩
    refine fx_meth fx_M254 [some (.inr (.inr (some (k0, j0)))), some (vi (nI m)), none] (by decide) rfl rfl (Nat.le_of_ble_eq_true rfl) ?_
    have at7 : fx_E (fx_Ga d) fx_M254 (7, [some (.inr (.inr (some (k0, j0)))), some (vi (nI m)), none], [.inr (.inr (some (k0, j0)))], h, 0, 0) (fun r2 h2 => r2 = some (.inr (.inr (some (45, h.1 45)))) ∧ h2 = fx_wa (fx_mk h 45 m) 45 (h.1 45) (h.2.2.2.1 k0 j0)) := by
      refine fx_E_step (i := .invokevirtual 316) (x' := (10, [some (.inr (.inr (some (k0, j0)))), some (vi (nI m)), none], [.inr (.inr (some (45, h.1 45)))], fx_wa (fx_mk h 45 (h.2.1 k0 j0)) 45 (h.1 45) (h.2.2.2.1 k0 j0), 0 + 1, 0 + h.2.1 k0 j0)) rfl rfl rfl ?_ ?_
      · rcases hk with rfl | rfl | rfl
        all_goals exact if_pos ⟨by decide, by show 0 + h.2.1 _ j0 ≤ 400; omega⟩
      · rw [← e]
        refine fx_wpE [] 20 ?_
        show cond (Nat.ble (0 + 1) 1 && Nat.ble (0 + m) 400) (_ : Prop) False
        rw [hb]
        exact ⟨rfl, rfl⟩
    rcases hk with rfl | rfl | rfl
    all_goals exact fx_wpE [7] 20 (nn_eq m _ (fun _ => at7) (fun w => absurd e w) rfl rfl)
  · refine ⟨va_cpy (h.2.2.2.1 k0 j0) (fun _ => 0) 0 0 m, ?_, fun i hi2 => ?_⟩
    · refine fx_meth fx_M254 [some (.inr (.inr (some (k0, j0)))), some (vi (nI m)), none] (by decide) rfl rfl (Nat.le_of_ble_eq_true rfl) ?_
      have at28 : fx_E (fx_Ga d) fx_M254 (28, [some (.inr (.inr (some (k0, j0)))), some (vi (nI m)), some (.inr (.inr (some (45, h.1 45))))], [vi (nI m), vi 0, .inr (.inr (some (45, h.1 45))), vi 0, .inr (.inr (some (k0, j0)))], fx_mk h 45 m, 0 + 1, 0 + m) (fun r2 h2 => r2 = some (.inr (.inr (some (45, h.1 45)))) ∧ h2 = fx_wa (fx_mk h 45 m) 45 (h.1 45) (va_cpy (h.2.2.2.1 k0 j0) (fun _ => 0) 0 0 m)) := by
        have l1 : (fx_mk h 45 m).2.1 45 (h.1 45) = m := fx_mk_len h 45 m
        have l0 : (fx_mk h 45 m).2.1 k0 j0 = h.2.1 k0 j0 := by rcases hk with rfl | rfl | rfl <;> rfl
        have i0 : (fx_mk h 45 m).2.2.2.1 k0 j0 = h.2.2.2.1 k0 j0 := by rcases hk with rfl | rfl | rfl <;> rfl
        have i1 : (fx_mk h 45 m).2.2.2.1 45 (h.1 45) = fun _ => 0 := fx_all_eq h.2.2.2.1 45 (h.1 45) (fun _ => 0)
        have im : (nI m).toInt = (m : Int) := nI_toInt (by omega)
        refine fx_E_step (i := .invokestatic 150) (x' := (31, [some (.inr (.inr (some (k0, j0)))), some (vi (nI m)), some (.inr (.inr (some (45, h.1 45))))], [], fx_wa (fx_mk h 45 m) 45 (h.1 45) (va_cpy ((fx_mk h 45 m).2.2.2.1 k0 j0) ((fx_mk h 45 m).2.2.2.1 45 (h.1 45)) (0 : Int32).toNatClampNeg (0 : Int32).toNatClampNeg (nI m).toNatClampNeg), 0 + 1, 0 + m)) rfl rfl rfl ?_ ?_
        · have cond : 0 ≤ (0 : Int32).toInt ∧ 0 ≤ (0 : Int32).toInt ∧ 0 ≤ (nI m).toInt ∧ (0 : Int32).toInt + (nI m).toInt ≤ ((fx_mk h 45 m).2.1 k0 j0 : Int) ∧ (0 : Int32).toInt + (nI m).toInt ≤ ((fx_mk h 45 m).2.1 45 (h.1 45) : Int) := by
            rw [l1, l0, im]
            refine ⟨by decide, by decide, by omega, ?_, ?_⟩
            · show (0 : Int) + m ≤ _
              omega
            · show (0 : Int) + m ≤ _
              omega
          rcases hk with rfl | rfl | rfl
          all_goals exact if_pos cond
        · rw [i0, i1, nI_clamp (by omega)]
          refine fx_wpE [] 20 ?_
          show cond (Nat.ble (0 + 1) 1 && Nat.ble (0 + m) 400) (_ : Prop) False
          rw [hb]
          exact ⟨rfl, rfl⟩
      have at25 : fx_E (fx_Ga d) fx_M254 (25, [some (.inr (.inr (some (k0, j0)))), some (vi (nI m)), some (.inr (.inr (some (45, h.1 45))))], [vi (nI m), vi (Int32.ofNat ((fx_mk h 45 m).2.1 k0 j0)), vi 0, .inr (.inr (some (45, h.1 45))), vi 0, .inr (.inr (some (k0, j0)))], fx_mk h 45 m, 0 + 1, 0 + m) (fun r2 h2 => r2 = some (.inr (.inr (some (45, h.1 45)))) ∧ h2 = fx_wa (fx_mk h 45 m) 45 (h.1 45) (va_cpy (h.2.2.2.1 k0 j0) (fun _ => 0) 0 0 m)) := by
        have l0 : (fx_mk h 45 m).2.1 k0 j0 = h.2.1 k0 j0 := by rcases hk with rfl | rfl | rfl <;> rfl
        refine fx_E_step (i := .invokestatic 304) rfl rfl rfl ?_ at28
        have hlt : nI m < Int32.ofNat ((fx_mk h 45 m).2.1 k0 j0) := by
          rw [l0]
          exact nI_lt (by omega) (by omega)
        show (bif Nat.ble 4 8 && Nat.ble (0 + 1) 1 && Nat.ble (0 + m) 400 then some ((28, _, .inl (if nI m < Int32.ofNat ((fx_mk h 45 m).2.1 k0 j0) then nI m else Int32.ofNat ((fx_mk h 45 m).2.1 k0 j0)) :: _, _, _, _) : fxC) else none) = _
        rw [hb, if_pos hlt]
        rfl
      have at15 : fx_E (fx_Ga d) fx_M254 (15, [some (.inr (.inr (some (k0, j0)))), some (vi (nI m)), none], [vi (nI m)], h, 0, 0) (fun r2 h2 => r2 = some (.inr (.inr (some (45, h.1 45)))) ∧ h2 = fx_wa (fx_mk h 45 m) 45 (h.1 45) (va_cpy (h.2.2.2.1 k0 j0) (fun _ => 0) 0 0 m)) := by
        have im : (nI m).toInt = (m : Int) := nI_toInt (by omega)
        have at17 : fx_E (fx_Ga d) fx_M254 (17, [some (.inr (.inr (some (k0, j0)))), some (vi (nI m)), none], [.inr (.inr (some (45, h.1 45)))], fx_mk h 45 m, 0 + 1, 0 + m) (fun r2 h2 => r2 = some (.inr (.inr (some (45, h.1 45)))) ∧ h2 = fx_wa (fx_mk h 45 m) 45 (h.1 45) (va_cpy (h.2.2.2.1 k0 j0) (fun _ => 0) 0 0 m)) := by
          rcases hk with rfl | rfl | rfl
          all_goals exact fx_wpE [25] 20 at25
        refine fx_E_step (i := .newarray .int) rfl rfl rfl ?_ at17
        have cond : 0 ≤ (nI m).toInt ∧ (nI m).toInt ≤ 3000 ∧ 0 + 1 ≤ 1 ∧ 0 + (nI m).toNatClampNeg ≤ 400 := by
          rw [im, nI_clamp (by omega)]
          omega
        refine (if_pos cond).trans ?_
        rw [nI_clamp (by omega)]
      rcases hk with rfl | rfl | rfl
      all_goals exact fx_wpE [15] 20 (nn_eq m _ (fun w => absurd w e) (fun _ => at15) rfl rfl)
    · rw [pk_cpy_in (by omega) (by omega), show 0 + (i - 0) = i by omega]
end CO
