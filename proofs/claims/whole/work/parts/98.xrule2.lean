/-! the class' rule -/
section XRU
variable {d : Nat} {σ : fxS} {hi : fxI3} {hl : fxL3} {n N : Nat} {T : Nat → Int32}
theorem x_rule6 (h5 : hi 10 0 5 = nI 6) : fx_Ga (d + 1) 91 [xO] (hp σ hi hl) (some (vi (-1))) (hp σ hi hl) :=
  fx_meth fx_M91 [some xO, none] (by decide) rfl rfl (Nat.le_of_ble_eq_true rfl) (fx_wpE [] 20 (pk_lt 6 6 (fun h => by omega) (fun _ => ⟨rfl, rfl⟩) h5 rfl))
theorem x_ruleF {f : Nat} (hn : n ≤ 400) (ht : TP hi n T) (h5 : hi 10 0 5 = nI N) (hN : N < 6) (hbn : BN hi) (hr : rdR T n (n + 1) 0 0 [] = .inl f) (hf : 1 ≤ f ∧ f ≤ 8 * n + 5) : ∃ hi', fx_Ga (d + 8) 91 [xO] (hp σ hi hl) (some (vi (-2 - nI f))) (hp σ (fx_up hi' 10 0 1 0) hl) ∧ Fr9 hi hi' := by
  obtain ⟨w, hx⟩ := x_rread (d := d) (σ := σ) (hl := hl) hn ht.2 hbn
  rw [mrun_rdR, hr] at hx
  obtain ⟨hi', hg, f9⟩ := hx
  refine ⟨hi', ?_, f9⟩
  have e1 := ht.1
  rw [← e1] at hg
  have nz : ¬ nI f = 0 := fun z => by
    have := (nI_eq (a := f) (b := 0) (by omega) (by decide)).mp z
    omega
  exact fx_meth (d := d + 7) fx_M91 [some xO, none] (by decide) rfl rfl (Nat.le_of_ble_eq_true rfl) (fx_wpE [] 40 (pk_lt N 6 (fun _ => ⟨_, _, hg, ⟨fun w => absurd w nz, fun _ => ⟨rfl, rfl⟩⟩⟩) (fun h => by omega) h5 rfl))
end XRU
