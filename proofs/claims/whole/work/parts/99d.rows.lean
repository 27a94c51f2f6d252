/-! rows of the heap with one more rule -/
section RW9
variable {σ : fxS} {hi : fxI3} {hl : fxL3} {m c : Nat} {g0 g1 g2 : Nat → Int32}
theorem hiU_e : hiU σ m c hi hl g0 g1 g2 = fx_up (fx_all (fx_all (fx_all (fx_all (fx_all (fx_all (fx_all hi 5 σ.2.1 (fun _ => 0)) 45 (3 * σ.2.1) (fun _ => 0)) 45 (3 * σ.2.1) g0) 45 (3 * σ.2.1 + 1) (fun _ => 0)) 45 (3 * σ.2.1 + 1) g1) 45 (3 * σ.2.1 + 2) (fun _ => 0)) 45 (3 * σ.2.1 + 2) g2) 5 σ.2.1 1 (nI c) := rfl
theorem hiU_off {k j : Nat} (h5 : ¬ (k = 5 ∧ j = σ.2.1)) (h45 : ¬ (k = 45 ∧ 3 * σ.2.1 ≤ j)) (s : Nat) : hiU σ m c hi hl g0 g1 g2 k j s = hi k j s := by
  rw [hiU_e, up_off _ _ (by omega), fx_all_ne _ _ (by omega), fx_all_ne _ _ (by omega), fx_all_ne _ _ (by omega), fx_all_ne _ _ (by omega), fx_all_ne _ _ (by omega), fx_all_ne _ _ (by omega), fx_all_ne _ _ (by omega)]
theorem hiU_5 : hiU σ m c hi hl g0 g1 g2 5 σ.2.1 1 = nI c := by
  rw [hiU_e, up_at]
theorem hiU_0 : hiU σ m c hi hl g0 g1 g2 45 (3 * σ.2.1) = g0 := by
  funext s
  rw [hiU_e, up_off _ _ (by omega), fx_all_ne _ _ (by omega), fx_all_ne _ _ (by omega), fx_all_ne _ _ (by omega), fx_all_ne _ _ (by omega), fx_all_eq]
theorem hiU_1 : hiU σ m c hi hl g0 g1 g2 45 (3 * σ.2.1 + 1) = g1 := by
  funext s
  rw [hiU_e, up_off _ _ (by omega), fx_all_ne _ _ (by omega), fx_all_ne _ _ (by omega), fx_all_eq]
theorem hiU_2 : hiU σ m c hi hl g0 g1 g2 45 (3 * σ.2.1 + 2) = g2 := by
  funext s
  rw [hiU_e, up_off _ _ (by omega), fx_all_eq]
end RW9
