/-! what stays so while steps go on -/
def SB (v : Nat → Nat) : Prop := v 4 ≤ 6 ∧ v 1 ≤ 60 ∧ v 2 ≤ 9 ∧ v 3 ≤ 9 ∧ v 11 ≤ 100 + 9 * v 10 ∧ ∀ i, i < 6 → v (12 + 4 * i) ≤ v 11 ∧ v (13 + 4 * i) ≤ 9 ∧ v (14 + 4 * i) ≤ 9 ∧ v (15 + 4 * i) ≤ v 10
theorem SB.sv {v : Nat → Nat} (h : SB v) (h10 : v 10 ≤ 9999) : SV v := by
  obtain ⟨s4, s1, s2, s3, s11, si⟩ := h
  exact ⟨s4, s1, s2, s3, by omega, by omega, fun i h6 => by
    obtain ⟨q1, q2, q3, q4⟩ := si i h6
    exact ⟨q1, q2, q3, by omega⟩⟩
theorem vStep_lo (v : Nat → Nat) (rl : Option fxRl) (row : Option (Nat × Nat)) {x : Nat} (hx : x < 10) : (vStep v rl row).1 x = v x := by
  rw [vStep_fox]
  exact (vup_ne (show x ≠ 10 by omega)).trans ((vFox_lo _ (by omega)).trans (vMv_out v _ _ x (by omega)))
theorem vStep_hi (v : Nat → Nat) (rl : Option fxRl) (row : Option (Nat × Nat)) (h4 : v 4 ≤ 6) {x : Nat} (hx : 36 ≤ x) : (vStep v rl row).1 x = v x := by
  rw [vStep_fox]
  refine (vup_ne (show x ≠ 10 by omega)).trans ((vFox_hi _ ?_ hx).trans (vMv_out v _ _ x (by omega)))
  rw [vMv_out v _ _ 4 (by omega)]
  exact h4
theorem vStep_10 (v : Nat → Nat) (rl : Option fxRl) (row : Option (Nat × Nat)) : (vStep v rl row).1 10 = v 10 + 1 := by
  rw [vStep_fox]
  exact vup_eq (vFox (vMv v (vRide v rl row) (v 4))).1 10 (v 10 + 1)
theorem vFox_11 (v : Nat → Nat) : v 11 ≤ (vFox v).1 11 ∧ (vFox v).1 11 ≤ v 11 + v 2 := by
  unfold vFox
  split
  · rename_i h
    split
    · show v 11 ≤ vup v 11 (v 11 + vTo v) 11 ∧ _
      dsimp only
      rw [vup_eq]
      omega
    · rename_i l _
      dsimp only
      rw [vup_ne (show 11 ≠ 15 + 4 * l by omega), vup_ne (show 11 ≠ 14 + 4 * l by omega), vup_eq]
      omega
  · dsimp only
    rw [vup_eq]
    omega
theorem vFox_run (v : Nat → Nat) (i : Nat) : (vFox v).1 (12 + 4 * i) = v (12 + 4 * i) := by
  unfold vFox
  split
  · split
    · exact vup_ne (show 12 + 4 * i ≠ 11 by omega)
    · rename_i l _
      exact (vup_ne (show 12 + 4 * i ≠ 15 + 4 * l by omega)).trans ((vup_ne (show 12 + 4 * i ≠ 14 + 4 * l by omega)).trans (vup_ne (show 12 + 4 * i ≠ 11 by omega)))
  · exact vup_ne (show 12 + 4 * i ≠ 11 by omega)
theorem vFox_pace (v : Nat → Nat) (i : Nat) : (vFox v).1 (13 + 4 * i) = v (13 + 4 * i) := by
  unfold vFox
  split
  · split
    · exact vup_ne (show 13 + 4 * i ≠ 11 by omega)
    · rename_i l _
      exact (vup_ne (show 13 + 4 * i ≠ 15 + 4 * l by omega)).trans ((vup_ne (show 13 + 4 * i ≠ 14 + 4 * l by omega)).trans (vup_ne (show 13 + 4 * i ≠ 11 by omega)))
  · exact vup_ne (show 13 + 4 * i ≠ 11 by omega)
theorem vFox_ground (v : Nat → Nat) (i : Nat) : (vFox v).1 (14 + 4 * i) = v (14 + 4 * i) ∨ (vFox v).1 (14 + 4 * i) = v 3 := by
  unfold vFox
  split
  · split
    · exact Or.inl (vup_ne (show 14 + 4 * i ≠ 11 by omega))
    · rename_i l _
      dsimp only
      rw [vup_ne (show 14 + 4 * i ≠ 15 + 4 * l by omega)]
      by_cases e : i = l
      · subst e
        exact Or.inr (vup_eq _ _ _)
      · exact Or.inl ((vup_ne (by omega)).trans (vup_ne (by omega)))
  · exact Or.inl (vup_ne (show 14 + 4 * i ≠ 11 by omega))
theorem vFox_was (v : Nat → Nat) (i : Nat) : (vFox v).1 (15 + 4 * i) = v (15 + 4 * i) + (if (vFox v).2 = some i then 1 else 0) := by
  unfold vFox
  split
  · split
    · exact vup_ne (show 15 + 4 * i ≠ 11 by omega)
    · rename_i l _
      dsimp only
      by_cases e : i = l
      · subst e
        rw [vup_eq, if_pos rfl]
      · rw [vup_ne (show 15 + 4 * i ≠ 15 + 4 * l by omega), vup_ne (show 15 + 4 * i ≠ 14 + 4 * l by omega), vup_ne (show 15 + 4 * i ≠ 11 by omega), if_neg (fun z => e (Option.some.inj z).symm)]
        rfl
  · exact vup_ne (show 15 + 4 * i ≠ 11 by omega)
theorem vFox_who (v : Nat → Nat) {i : Nat} (h : (vFox v).2 = some i) : i < v 4 := by
  unfold vFox at h
  split at h
  · split at h
    · cases h
    · rename_i l hl
      cases h
      exact (vLast_lt _ _ _ hl).1
  · cases h
/-- who has been it is counted, nobody else -/
theorem vStep_was (v : Nat → Nat) (rl : Option fxRl) (row : Option (Nat × Nat)) (i : Nat) : (vStep v rl row).1 (15 + 4 * i) = v (15 + 4 * i) + (if (vStep v rl row).2 = some i then 1 else 0) := by
  rw [vStep_fox]
  refine (vup_ne (show 15 + 4 * i ≠ 10 by omega)).trans ((vFox_was _ i).trans ?_)
  rw [vMv_odd v _ _ _ (by omega)]
theorem vStep_who (v : Nat → Nat) (rl : Option fxRl) (row : Option (Nat × Nat)) {i : Nat} (h : (vStep v rl row).2 = some i) : i < v 4 := by
  rw [vStep_fox] at h
  have := vFox_who _ h
  rw [vMv_out v _ _ 4 (by omega)] at this
  exact this
theorem vStep_pace (v : Nat → Nat) (rl : Option fxRl) (row : Option (Nat × Nat)) (i : Nat) : (vStep v rl row).1 (13 + 4 * i) = v (13 + 4 * i) := by
  rw [vStep_fox]
  exact (vup_ne (show 13 + 4 * i ≠ 10 by omega)).trans ((vFox_pace _ i).trans (vMv_odd v _ _ _ (by omega)))
theorem vMv_run (v rd : Nat → Nat) : ∀ k i, vMv v rd k (12 + 4 * i) = if i < k ∧ vOut v i = false then min (v (12 + 4 * i) + rd i) (v 11) else v (12 + 4 * i)
  | 0, i => (if_neg (by omega)).symm
  | k + 1, i => by
    unfold vMv
    split
    · rename_i h
      rw [vup_ne (by omega), vMv_run v rd k i]
      by_cases e : i = k
      · subst e
        rw [if_neg (by omega), if_neg (by rw [h]; simp)]
      · by_cases e2 : i < k ∧ vOut v i = false
        · rw [if_pos e2, if_pos ⟨by omega, e2.2⟩]
        · rw [if_neg e2, if_neg (fun z => e2 ⟨by omega, z.2⟩)]
    · rename_i h
      have h : vOut v k = false := by simpa using h
      by_cases e : i = k
      · subst e
        rw [vup_eq, if_pos ⟨by omega, h⟩]
      · rw [vup_ne (by omega), vMv_run v rd k i]
        by_cases e2 : i < k ∧ vOut v i = false
        · rw [if_pos e2, if_pos ⟨by omega, e2.2⟩]
        · rw [if_neg e2, if_neg (fun z => e2 ⟨by omega, z.2⟩)]
theorem vStep_run (v : Nat → Nat) (rl : Option fxRl) (row : Option (Nat × Nat)) (i : Nat) : (vStep v rl row).1 (12 + 4 * i) = if i < v 4 ∧ vOut v i = false then min (v (12 + 4 * i) + vRide v rl row i) (v 11) else v (12 + 4 * i) := by
  rw [vStep_fox]
  exact (vup_ne (show 12 + 4 * i ≠ 10 by omega)).trans ((vFox_run _ i).trans (vMv_run v _ _ i))
theorem vMv_ground (v rd : Nat → Nat) : ∀ k i, vMv v rd k (14 + 4 * i) ≤ v (14 + 4 * i)
  | 0, i => Nat.le_refl _
  | k + 1, i => by
    unfold vMv
    have := vMv_ground v rd k i
    split
    · by_cases e : i = k
      · subst e
        rw [vup_eq]
        omega
      · rw [vup_ne (by omega)]
        exact this
    · rw [vup_ne (by omega)]
      exact this
theorem SB.step {v : Nat → Nat} (h : SB v) (rl : Option fxRl) (row : Option (Nat × Nat)) : SB (vStep v rl row).1 := by
  obtain ⟨s4, s1, s2, s3, s11, si⟩ := h
  have f11 : v 11 ≤ (vStep v rl row).1 11 ∧ (vStep v rl row).1 11 ≤ v 11 + v 2 := by
    rw [vStep_fox]
    have := vFox_11 (vMv v (vRide v rl row) (v 4))
    rw [vMv_out v _ _ 11 (by omega), vMv_out v _ _ 2 (by omega)] at this
    dsimp only
    rw [vup_ne (by decide)]
    exact this
  refine ⟨by rw [vStep_lo _ _ _ (by decide)]; exact s4, by rw [vStep_lo _ _ _ (by decide)]; exact s1, by rw [vStep_lo _ _ _ (by decide)]; exact s2, by rw [vStep_lo _ _ _ (by decide)]; exact s3, by rw [vStep_10]; omega, fun i h6 => ?_⟩
  obtain ⟨q1, q2, q3, q4⟩ := si i h6
  refine ⟨?_, by rw [vStep_pace]; exact q2, ?_, ?_⟩
  · rw [vStep_run]
    split
    · exact Nat.le_trans (Nat.min_le_right _ _) f11.1
    · omega
  · rw [vStep_fox]
    dsimp only
    rw [vup_ne (by omega)]
    rcases vFox_ground (vMv v (vRide v rl row) (v 4)) i with e | e
    · rw [e]
      exact Nat.le_trans (vMv_ground v _ _ i) q3
    · rw [e, vMv_out v _ _ 3 (by omega)]
      exact s3
  · rw [vStep_was, vStep_10]
    split <;> omega
theorem GV.step {v : Nat → Nat} (h : GV v) (h4 : v 4 ≤ 6) (rl : Option fxRl) (row : Option (Nat × Nat)) : GV (vStep v rl row).1 := GV_of h (vStep_lo _ _ _ (by decide)) (vStep_hi _ _ _ h4 (by decide)) (vStep_hi _ _ _ h4 (by decide))
/-- n steps on -/
def vIt (rl : Option fxRl) : Nat → (Nat → Nat) → Nat → Nat
  | 0, v => v
  | n + 1, v => (vStep (vIt rl n v) rl none).1
def vWho (rl : Option fxRl) (n : Nat) (v : Nat → Nat) : Option Nat := (vStep (vIt rl n v) rl none).2
theorem vIt_lo (rl : Option fxRl) (v : Nat → Nat) {x : Nat} (hx : x < 10) : ∀ n, vIt rl n v x = v x
  | 0 => rfl
  | n + 1 => (vStep_lo _ _ _ hx).trans (vIt_lo rl v hx n)
theorem vIt_hi (rl : Option fxRl) (v : Nat → Nat) (h4 : v 4 ≤ 6) {x : Nat} (hx : 36 ≤ x) : ∀ n, vIt rl n v x = v x
  | 0 => rfl
  | n + 1 => (vStep_hi _ _ _ (by rw [vIt_lo rl v (by decide)]; exact h4) hx).trans (vIt_hi rl v h4 hx n)
theorem vIt_10 (rl : Option fxRl) (v : Nat → Nat) : ∀ n, vIt rl n v 10 = v 10 + n
  | 0 => rfl
  | n + 1 => (vStep_10 _ _ _).trans (by rw [vIt_10 rl v n]; rfl)
theorem SB.it {v : Nat → Nat} (h : SB v) (rl : Option fxRl) : ∀ n, SB (vIt rl n v)
  | 0 => h
  | n + 1 => (SB.it h rl n).step rl none
theorem GV.it {v : Nat → Nat} (h : GV v) (h4 : v 4 ≤ 6) (rl : Option fxRl) (n : Nat) : GV (vIt rl n v) := GV_of h (vIt_lo rl v (by decide) n) (vIt_hi rl v h4 (by decide) n) (vIt_hi rl v h4 (by decide) n)
/-- how often one is it in n steps -/
def vTm (rl : Option fxRl) (v : Nat → Nat) (i : Nat) : Nat → Nat
  | 0 => 0
  | n + 1 => vTm rl v i n + (if vWho rl n v = some i then 1 else 0)
theorem vIt_was (rl : Option fxRl) (v : Nat → Nat) (i : Nat) : ∀ n, vIt rl n v (15 + 4 * i) = v (15 + 4 * i) + vTm rl v i n
  | 0 => rfl
  | n + 1 => (vStep_was _ _ _ i).trans (by rw [vIt_was rl v i n, Nat.add_assoc]; rfl)
/-- how often anybody is it in n steps -/
def vTa (rl : Option fxRl) (v : Nat → Nat) : Nat → Nat
  | 0 => 0
  | n + 1 => vTa rl v n + (if (vWho rl n v).isSome then 1 else 0)
def vLo (o : Option Nat) (n : Nat) : Nat := match o with
  | none => 0
  | some l => if l < n then 1 else 0
theorem vWas_one {v w : Nat → Nat} {o : Option Nat} (h : ∀ i, w (15 + 4 * i) = v (15 + 4 * i) + (if o = some i then 1 else 0)) : ∀ n, vWas w n = vWas v n + vLo o n
  | 0 => by cases o <;> rfl
  | n + 1 => by
    unfold vWas
    rw [vWas_one h n, h n]
    cases o with
    | none => simp [vLo]
    | some l =>
      unfold vLo
      dsimp only
      by_cases e : l = n
      · subst e
        rw [if_neg (Nat.lt_irrefl _), if_pos rfl, if_pos (Nat.lt_succ_self _)]
        omega
      · rw [if_neg (show ¬ some l = some n from fun z => e (Option.some.inj z))]
        by_cases e2 : l < n
        · rw [if_pos e2, if_pos (by omega)]
          omega
        · rw [if_neg e2, if_neg (by omega)]
          omega
theorem vIt_wasAll (rl : Option fxRl) (v : Nat → Nat) : ∀ n, vWas (vIt rl n v) (v 4) = vWas v (v 4) + vTa rl v n
  | 0 => rfl
  | n + 1 => by
    show vWas (vStep (vIt rl n v) rl none).1 (v 4) = _
    rw [vWas_one (vStep_was (vIt rl n v) rl none) (v 4), vIt_wasAll rl v n]
    show _ = vWas v (v 4) + (vTa rl v n + (if ((vStep (vIt rl n v) rl none).2).isSome then 1 else 0))
    cases e : (vStep (vIt rl n v) rl none).2 with
    | none => simp [vLo]
    | some l =>
      have := vStep_who _ _ _ e
      rw [vIt_lo rl v (by decide) n] at this
      unfold vLo
      dsimp only
      rw [if_pos this]
      simp
      omega
