/-! a rule that was read has a clause -/
theorem rdR_ne {T : Nat → Int32} {n : Nat} : ∀ k p P R R', rdR T n k p P R = .inr R' → R' ≠ []
  | 0, p, P, R, R', h => by cases h
  | k + 1, p, P, R, R', h => by
    unfold rdR at h
    cases hv : vC1 T n p P R.length with
    | inl f =>
      rw [hv] at h
      cases h
    | inr y =>
      obtain ⟨p1, P1, xs, o⟩ := y
      rw [hv] at h
      dsimp only at h
      by_cases h59 : lx_rn lx_S T n p1 < n ∧ T (lx_rn lx_S T n p1) = nI 59
      · rw [if_pos h59] at h
        exact rdR_ne k _ _ _ R' h
      · rw [if_neg h59] at h
        by_cases hlt : lx_rn lx_S T n p1 < n
        · rw [if_pos hlt] at h
          cases h
        · rw [if_neg hlt] at h
          cases h
          intro z
          have := congrArg List.length z
          rw [List.length_append] at this
          exact absurd this (by show ¬ R.length + 1 = 0; omega)
