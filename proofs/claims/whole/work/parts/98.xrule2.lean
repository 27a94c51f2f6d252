/-! the class' rule -/
section XRU
variable {d : Nat} {σ : fxS} {hi : fxI3} {hl : fxL3} {n N : Nat} {T : Nat → Int32}
theorem x_rule6 (h5 : hi 10 0 5 = nI 6) : fx_Ga (d + 1) 91 [xO] (hp σ hi hl) (some (vi (-1))) (hp σ hi hl) :=
  fx_meth fx_M91 [some xO, none] (by decide) rfl rfl (Nat.le_of_ble_eq_true rfl) (fx_wpE [] 20 (pk_lt 6 6 (fun h => by omega) (fun _ => ⟨rfl, rfl⟩) h5 rfl))
theorem x_ruleF {f : Nat} (hn : n ≤ 400) (ht : TP hi n T) (h5 : hi 10 0 5 = nI N) (hN : N < 6) (hbn : BN hi) (hr : rdR T n (n + 1) 0 0 [] = .inl f) (hf : 1 ≤ f ∧ f ≤ 8 * n + 5) : ∃ hi', fx_Ga (d + 8) 91 [xO] (hp σ hi hl) (some (vi (-2 - nI f))) (hp σ (fx_up hi' 10 0 1 0) hl) ∧ Fr9 hi hi' := by
  obtain ⟨w, hx⟩ := x_rread (d := d) (σ := σ) (hl := hl) hn ht.2 hbn
  rw [mrun_rdR, hr] at hx
  obtain ⟨hi', hg, f9⟩ := hx
  refine ⟨hi', ?_, f9⟩
  have e1 := ht.1
  rw [← e1] at hg
  have nz : ¬ nI f = 0 := fun z => by
    have := (nI_eq (a := f) (b := 0) (by omega) (by decide)).mp z
    omega
  exact fx_meth (d := d + 7) fx_M91 [some xO, none] (by decide) rfl rfl (Nat.le_of_ble_eq_true rfl) (fx_wpE [] 40 (pk_lt N 6 (fun _ => ⟨_, _, hg, ⟨fun w => absurd w nz, fun _ => ⟨rfl, rfl⟩⟩⟩) (fun h => by omega) h5 rfl))
theorem x_ruleR {R : fxRl} (hn : n ≤ 400) (ht : TP hi n T) (h5 : hi 10 0 5 = nI σ.2.1) (hN : σ.2.1 < 6) (hbn : BN hi) (hr : rdR T n (n + 1) 0 0 [] = .inr R) (hm : (flt R).length ≤ 400) (hc : R.length ≤ 12) : ∃ hi' g0 g1 g2, fx_Ga (d + 8) 91 [xO] (hp σ hi hl) (some (vi (nI σ.2.1))) (hp (sgU σ (flt R).length R.length) (fx_up (hiU σ (flt R).length R.length (fx_up hi' 10 0 1 0) hl g0 g1 g2) 10 0 5 (nI (σ.2.1 + 1))) (hlU σ (flt R).length R.length (fx_up hi' 10 0 1 0) hl g0 g1 g2)) ∧ Fr9 hi hi' ∧ CD hi' (flt R) ∧ XMa hi' R 0 0 ∧ (∀ i, i < (flt R).length → g0 i = hi' 25 0 i) ∧ (∀ i, i < R.length + 1 → g1 i = hi' 26 0 i) ∧ ∀ i, i < R.length → g2 i = hi' 27 0 i := by
  obtain ⟨w, hx⟩ := x_rread (d := d) (σ := σ) (hl := hl) hn ht.2 hbn
  rw [mrun_rdR, hr] at hx
  obtain ⟨hi', hg, f9, c1, c2, c3⟩ := hx
  have e1 := ht.1
  rw [← e1] at hg
  have r5 : hi' 10 0 5 = nI σ.2.1 := (f9 10 0 5 (by omega) (by omega) (by omega)).trans h5
  obtain ⟨g0, g1, g2, hg2, k0, k1, k2⟩ := x_made (d := d + 5) (σ := σ) (hi := fx_up hi' 10 0 1 0) (hl := hl) (m := (flt R).length) (c := R.length) c1.1 hm c2 hc
  refine ⟨hi', g0, g1, g2, ?_, f9, c1, c3, k0, k1, k2⟩
  have st : ∀ y : Int32, y = nI σ.2.1 → fx_wr (mkR σ (flt R).length R.length (fx_up hi' 10 0 1 0) hl g0 g1 g2) 29 0 y.toNatClampNeg (some (5, σ.2.1)) = hp (sgU σ (flt R).length R.length) (hiU σ (flt R).length R.length (fx_up hi' 10 0 1 0) hl g0 g1 g2) (hlU σ (flt R).length R.length (fx_up hi' 10 0 1 0) hl g0 g1 g2) := by
    intro y ey
    rw [ey, nI_clamp (by omega)]
    exact mkR_hp
  have u5 : hiU σ (flt R).length R.length (fx_up hi' 10 0 1 0) hl g0 g1 g2 10 0 5 = nI σ.2.1 := r5
  have at53 : fx_E (fx_Ga (d + 7)) fx_M91 (53, [some xO, some (vi 0)], [], hp (sgU σ (flt R).length R.length) (hiU σ (flt R).length R.length (fx_up hi' 10 0 1 0) hl g0 g1 g2) (hlU σ (flt R).length R.length (fx_up hi' 10 0 1 0) hl g0 g1 g2), 4, 1204) (fun r2 h2 => r2 = some (vi (nI σ.2.1)) ∧ h2 = hp (sgU σ (flt R).length R.length) (fx_up (hiU σ (flt R).length R.length (fx_up hi' 10 0 1 0) hl g0 g1 g2) 10 0 5 (nI (σ.2.1 + 1))) (hlU σ (flt R).length R.length (fx_up hi' 10 0 1 0) hl g0 g1 g2)) := by
    generalize hiU σ (flt R).length R.length (fx_up hi' 10 0 1 0) hl g0 g1 g2 = H at u5
    generalize hlU σ (flt R).length R.length (fx_up hi' 10 0 1 0) hl g0 g1 g2 = HL
    refine fx_wpE [] 40 ⟨?_, ?_⟩
    · show some (vi (fx_up H 10 0 5 (H 10 0 5 + 1) 10 0 5 - 1)) = _
      rw [up_at, u5, nI_1, nI_pred]
    · show hp (sgU σ (flt R).length R.length) (fx_up H 10 0 5 (H 10 0 5 + 1)) HL = _
      rw [u5, nI_1]
  rw [← st (hi' 10 0 5) r5] at at53
  have at52 : fx_E (fx_Ga (d + 7)) fx_M91 (52, [some xO, some (vi 0)], [.inr (.inr (some (5, σ.2.1))), vi (hi' 10 0 5), .inr (.inr (some (29, 0)))], mkR σ (flt R).length R.length (fx_up hi' 10 0 1 0) hl g0 g1 g2, 4, 1204) (fun r2 h2 => r2 = some (vi (nI σ.2.1)) ∧ h2 = hp (sgU σ (flt R).length R.length) (fx_up (hiU σ (flt R).length R.length (fx_up hi' 10 0 1 0) hl g0 g1 g2) 10 0 5 (nI (σ.2.1 + 1))) (hlU σ (flt R).length R.length (fx_up hi' 10 0 1 0) hl g0 g1 g2)) := by
    have cnd : 0 ≤ (hi' 10 0 5).toInt ∧ (hi' 10 0 5).toInt < ((6 : Nat) : Int) := ni_inx (n := σ.2.1) (m := 6) r5 hN (by decide)
    exact fx_E_step (i := .aastore) rfl rfl rfl (if_pos cnd) at53
  exact fx_meth (d := d + 7) fx_M91 [some xO, none] (by decide) rfl rfl (Nat.le_of_ble_eq_true rfl) (fx_wpE [52] 60 (pk_lt σ.2.1 6 (fun _ => ⟨_, _, hg, ⟨fun _ => ⟨_, _, hg2, at52⟩, fun w => absurd rfl w⟩⟩) (fun h => by omega) h5 rfl))
end XRU
