/-! the heap with one more rule -/
def clU (cl : Nat → Nat) (N m c : Nat) : Nat → Nat := fun j => if j = 3 * N + 2 then c else if j = 3 * N + 1 then c + 1 else if j = 3 * N then m else cl j
theorem cns_ne {N N' a : Nat} (h5 : a ≠ 5) (h45 : a ≠ 45) : fx_cns N a = fx_cns N' a := by
  unfold fx_cns
  split <;> first | rfl | exact absurd rfl h5 | exact absurd rfl h45
theorem lns_ne {L : Nat} {cl cl' : Nat → Nat} {k j : Nat} (h45 : k ≠ 45) : fx_lns L cl k j = fx_lns L cl' k j := by
  unfold fx_lns
  split <;> first | rfl | exact absurd rfl h45
theorem rfs_n {N : Nat} {q : Option fxR} {k j s : Nat} (h : ¬ (k = 29 ∧ j = 0 ∧ s = N)) : fx_rfs N q k j s = fx_rfs (N + 1) q k j s := by
  by_cases e : k = 29
  · subst e
    match j, h with
    | 0, h =>
      show (bif Nat.blt s N then some (5, s) else none) = (bif Nat.blt s (N + 1) then some (5, s) else none)
      have : Nat.blt s N = Nat.blt s (N + 1) := by
        have h1 : s ≠ N := fun z => h ⟨rfl, rfl, z⟩
        rw [Bool.eq_iff_iff, Nat.blt_eq, Nat.blt_eq]
        omega
      rw [this]
    | _ + 1, _ => rfl
  · unfold fx_rfs
    split <;> first | rfl | exact absurd rfl e
section H2
variable {σ : fxS} {hi : fxI3} {hl : fxL3} {m c : Nat} {g0 g1 g2 : Nat → Int32}
theorem mkR_c : (mkR σ m c hi hl g0 g1 g2).1 = fx_cns (σ.2.1 + 1) := by
  funext a
  by_cases h45 : a = 45
  · subst h45
    show 3 * σ.2.1 + 1 + 1 + 1 = 3 * (σ.2.1 + 1)
    omega
  · by_cases h5 : a = 5
    · subst h5
      rfl
    · show (if a = 45 then _ else if a = 45 then _ else if a = 45 then _ else if a = 5 then _ else fx_cns σ.2.1 a) = _
      rw [if_neg h45, if_neg h45, if_neg h45, if_neg h5]
      exact cns_ne h5 h45
theorem mkR_l : (mkR σ m c hi hl g0 g1 g2).2.1 = fx_lns σ.1 (clU σ.2.2.2 σ.2.1 m c) := by
  funext a b
  by_cases h45 : a = 45
  · subst h45
    rfl
  · show (if a = 45 then _ else if a = 45 then _ else if a = 45 then _ else if a = 5 then (fun b => if b = σ.2.1 then 0 else fx_lns σ.1 σ.2.2.2 a b) else fx_lns σ.1 σ.2.2.2 a : Nat → Nat) b = _
    rw [if_neg h45, if_neg h45, if_neg h45]
    by_cases h5 : a = 5
    · subst h5
      rw [if_pos rfl]
      show (if b = σ.2.1 then 0 else 0) = 0
      split <;> rfl
    · rw [if_neg h5]
      exact lns_ne h45
end H2
