/-! the heap with one more rule: references -/
section H3
variable {σ : fxS} {hi : fxI3} {hl : fxL3} {m c : Nat} {g0 g1 g2 : Nat → Int32}
theorem rf_all {f : Nat → Nat → Nat → Option fxR} {a b : Nat} (h : ∀ s, f a b s = none) : fx_all f a b (fun _ => none) = f := by
  funext k j s
  by_cases e : k = a ∧ j = b
  · obtain ⟨rfl, rfl⟩ := e
    rw [fx_all_eq, h]
  · rw [fx_all_ne f _ e]
theorem mkR_r : (fx_wr (mkR σ m c hi hl g0 g1 g2) 29 0 σ.2.1 (some (5, σ.2.1))).2.2.1 = fx_rfs (σ.2.1 + 1) σ.2.2.1 := by
  obtain ⟨L, N, q, cl⟩ := σ
  show fx_up (fx_up (fx_up (fx_up (fx_all (fx_all (fx_all (fx_all (fx_rfs N q) 5 N (fun _ => none)) 45 (3 * N) (fun _ => none)) 45 (3 * N + 1) (fun _ => none)) 45 (3 * N + 2) (fun _ => none)) 5 N 0 (some (45, 3 * N))) 5 N 2 (some (45, 3 * N + 1))) 5 N 3 (some (45, 3 * N + 2))) 29 0 N (some (5, N)) = fx_rfs (N + 1) q
  rw [rf_all (a := 45) (b := 3 * N) (fun s => rfl), rf_all (a := 45) (b := 3 * N + 1) (fun s => rfl), rf_all (a := 45) (b := 3 * N + 2) (fun s => rfl)]
  refine up_rf _ _ 29 0 N _ ?_ (fun k j s h => ?_)
  · show (bif Nat.blt N (N + 1) then some (5, N) else none) = _
    rw [show Nat.blt N (N + 1) = true from (Nat.blt_eq).mpr (Nat.lt_succ_self N)]
    rfl
  · rw [← rfs_n h]
    by_cases e : k = 5 ∧ j = N
    · obtain ⟨rfl, rfl⟩ := e
      match s with
      | 0 => rw [up_off _ _ (by omega), up_off _ _ (by omega), up_at]; rfl
      | 1 => rw [up_off _ _ (by omega), up_off _ _ (by omega), up_off _ _ (by omega), fx_all_eq]; rfl
      | 2 => rw [up_off _ _ (by omega), up_at]; rfl
      | 3 => rw [up_at]; rfl
      | s + 4 => rw [up_off _ _ (by omega), up_off _ _ (by omega), up_off _ _ (by omega), fx_all_eq]; rfl
    · rw [up_off _ _ (by omega), up_off _ _ (by omega), up_off _ _ (by omega), fx_all_ne _ _ e]
/-- one more rule -/
abbrev sgU (σ : fxS) (m c : Nat) : fxS := (σ.1, σ.2.1 + 1, σ.2.2.1, clU σ.2.2.2 σ.2.1 m c)
abbrev hiU (σ : fxS) (m c : Nat) (hi : fxI3) (hl : fxL3) (g0 g1 g2 : Nat → Int32) : fxI3 := (mkR σ m c hi hl g0 g1 g2).2.2.2.1
abbrev hlU (σ : fxS) (m c : Nat) (hi : fxI3) (hl : fxL3) (g0 g1 g2 : Nat → Int32) : fxL3 := (mkR σ m c hi hl g0 g1 g2).2.2.2.2
theorem mkR_hp : fx_wr (mkR σ m c hi hl g0 g1 g2) 29 0 σ.2.1 (some (5, σ.2.1)) = hp (sgU σ m c) (hiU σ m c hi hl g0 g1 g2) (hlU σ m c hi hl g0 g1 g2) := by
  have h1 := mkR_c (σ := σ) (hi := hi) (hl := hl) (m := m) (c := c) (g0 := g0) (g1 := g1) (g2 := g2)
  have h2 := mkR_l (σ := σ) (hi := hi) (hl := hl) (m := m) (c := c) (g0 := g0) (g1 := g1) (g2 := g2)
  have h3 := mkR_r (σ := σ) (hi := hi) (hl := hl) (m := m) (c := c) (g0 := g0) (g1 := g1) (g2 := g2)
  unfold hp
  dsimp only
  rw [← h1, ← h2, ← h3]
  rfl
end H3
