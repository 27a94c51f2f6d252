/-! the class makes a rule -/
section MD
variable {d : Nat}
theorem x_ruleInit {h : fxH} {N a b c : Nat} (x : Int32) : fx_Ga (d + 1) 40 [.inr (.inr (some (5, N))), .inr (.inr (some (45, a))), .inr (.inr (some (45, b))), .inr (.inr (some (45, c))), vi x] h none (fx_wi (fx_wr (fx_wr (fx_wr h 5 N 0 (some (45, a))) 5 N 2 (some (45, b))) 5 N 3 (some (45, c))) 5 N 1 x) := by
  refine fx_meth fx_M40 [some (.inr (.inr (some (5, N)))), some (.inr (.inr (some (45, a)))), some (.inr (.inr (some (45, b)))), some (.inr (.inr (some (45, c)))), some (vi x)] (by decide) rfl rfl (Nat.le_of_ble_eq_true rfl) ?_
  refine fx_E_step (i := .aload_n 0) rfl rfl rfl rfl ?_
  refine fx_E_step (i := .invokespecial 1) rfl rfl rfl rfl ?_
  exact fx_wpE [] 40 ⟨rfl, rfl⟩
/-- the heap behind a new rule's making -/
def mkR (σ : fxS) (m c : Nat) (hi : fxI3) (hl : fxL3) (g0 g1 g2 : Nat → Int32) : fxH := fx_wi (fx_wr (fx_wr (fx_wr (fx_wa (fx_mk (fx_wa (fx_mk (fx_wa (fx_mk (fx_mk (hp σ hi hl) 5 0) 45 m) 45 (3 * σ.2.1) g0) 45 (c + 1)) 45 (3 * σ.2.1 + 1) g1) 45 c) 45 (3 * σ.2.1 + 2) g2) 5 σ.2.1 0 (some (45, 3 * σ.2.1))) 5 σ.2.1 2 (some (45, 3 * σ.2.1 + 1))) 5 σ.2.1 3 (some (45, 3 * σ.2.1 + 2))) 5 σ.2.1 1 (nI c)
theorem x_made {σ : fxS} {hi : fxI3} {hl : fxL3} {m c : Nat} (h5 : hi 6 0 5 = nI m) (hm : m ≤ 400) (h6 : hi 6 0 6 = nI c) (hc : c ≤ 12) : ∃ g0 g1 g2, fx_Ga (d + 2) 45 [rrO] (hp σ hi hl) (some (.inr (.inr (some (5, σ.2.1))))) (mkR σ m c hi hl g0 g1 g2) ∧ (∀ i, i < m → g0 i = hi 25 0 i) ∧ (∀ i, i < c + 1 → g1 i = hi 26 0 i) ∧ ∀ i, i < c → g2 i = hi 27 0 i := by
  obtain ⟨g0, hg0, e0⟩ := x_copyOf (d := d) (h := fx_mk (hp σ hi hl) 5 0) (k0 := 25) (j0 := 0) (m := m) (Or.inl rfl) hm (show (400 : Nat) ≤ 400 by decide)
  obtain ⟨g1, hg1, e1⟩ := x_copyOf (d := d) (h := fx_wa (fx_mk (fx_mk (hp σ hi hl) 5 0) 45 m) 45 (3 * σ.2.1) g0) (k0 := 26) (j0 := 0) (m := c + 1) (Or.inr (Or.inl rfl)) (show c + 1 ≤ 13 by omega) (show (13 : Nat) ≤ 400 by decide)
  obtain ⟨g2, hg2, e2⟩ := x_copyOf (d := d) (h := fx_wa (fx_mk (fx_wa (fx_mk (fx_mk (hp σ hi hl) 5 0) 45 m) 45 (3 * σ.2.1) g0) 45 (c + 1)) 45 (3 * σ.2.1 + 1) g1) (k0 := 27) (j0 := 0) (m := c) (Or.inr (Or.inr rfl)) (show c ≤ 12 from hc) (show (12 : Nat) ≤ 400 by decide)
  have hin := x_ruleInit (d := d) (h := fx_wa (fx_mk (fx_wa (fx_mk (fx_wa (fx_mk (fx_mk (hp σ hi hl) 5 0) 45 m) 45 (3 * σ.2.1) g0) 45 (c + 1)) 45 (3 * σ.2.1 + 1) g1) 45 c) 45 (3 * σ.2.1 + 2) g2) (N := σ.2.1) (a := 3 * σ.2.1) (b := 3 * σ.2.1 + 1) (c := 3 * σ.2.1 + 2) (nI c)
  refine ⟨g0, g1, g2, ?_, e0, e1, e2⟩
  refine fx_meth (d := d + 1) fx_M45 [some rrO] (by decide) rfl rfl (Nat.le_of_ble_eq_true rfl) ?_
  refine fx_E_step (i := .new 28) (x' := (3, [some rrO], [.inr (.inr (some (5, σ.2.1)))], fx_mk (hp σ hi hl) 5 0, 1, 4)) rfl rfl rfl rfl ?_
  have at12 : ∀ y : Int32, y = nI m → fx_E (fx_Ga (d + 1)) fx_M45 (12, [some rrO], [vi y, .inr (.inr (some (25, 0))), .inr (.inr (some (5, σ.2.1))), .inr (.inr (some (5, σ.2.1)))], fx_mk (hp σ hi hl) 5 0, 1, 4) (fun r2 h2 => r2 = some (.inr (.inr (some (5, σ.2.1)))) ∧ h2 = mkR σ m c hi hl g0 g1 g2) := by
    intro y ey
    subst ey
    have at25 : ∀ y : Int32, y = nI (c + 1) → fx_E (fx_Ga (d + 1)) fx_M45 (25, [some rrO], [vi y, .inr (.inr (some (26, 0))), .inr (.inr (some (45, 3 * σ.2.1))), .inr (.inr (some (5, σ.2.1))), .inr (.inr (some (5, σ.2.1)))], fx_wa (fx_mk (fx_mk (hp σ hi hl) 5 0) 45 m) 45 (3 * σ.2.1) g0, 2, 404) (fun r2 h2 => r2 = some (.inr (.inr (some (5, σ.2.1)))) ∧ h2 = mkR σ m c hi hl g0 g1 g2) := by
      intro y ey
      subst ey
      have at36 : ∀ y : Int32, y = nI c → fx_E (fx_Ga (d + 1)) fx_M45 (36, [some rrO], [vi y, .inr (.inr (some (27, 0))), .inr (.inr (some (45, 3 * σ.2.1 + 1))), .inr (.inr (some (45, 3 * σ.2.1))), .inr (.inr (some (5, σ.2.1))), .inr (.inr (some (5, σ.2.1)))], fx_wa (fx_mk (fx_wa (fx_mk (fx_mk (hp σ hi hl) 5 0) 45 m) 45 (3 * σ.2.1) g0) 45 (c + 1)) 45 (3 * σ.2.1 + 1) g1, 3, 804) (fun r2 h2 => r2 = some (.inr (.inr (some (5, σ.2.1)))) ∧ h2 = mkR σ m c hi hl g0 g1 g2) := by
        intro y ey
        subst ey
        have at43 : ∀ y : Int32, y = nI c → fx_E (fx_Ga (d + 1)) fx_M45 (43, [some rrO], [vi y, .inr (.inr (some (45, 3 * σ.2.1 + 2))), .inr (.inr (some (45, 3 * σ.2.1 + 1))), .inr (.inr (some (45, 3 * σ.2.1))), .inr (.inr (some (5, σ.2.1))), .inr (.inr (some (5, σ.2.1)))], fx_wa (fx_mk (fx_wa (fx_mk (fx_wa (fx_mk (fx_mk (hp σ hi hl) 5 0) 45 m) 45 (3 * σ.2.1) g0) 45 (c + 1)) 45 (3 * σ.2.1 + 1) g1) 45 c) 45 (3 * σ.2.1 + 2) g2, 4, 1204) (fun r2 h2 => r2 = some (.inr (.inr (some (5, σ.2.1)))) ∧ h2 = mkR σ m c hi hl g0 g1 g2) := by
          intro y ey
          subst ey
          exact fx_wpE [] 20 ⟨_, _, hin, rfl, rfl⟩
        exact fx_wpE [43] 20 ⟨_, _, hg2, at43 _ h6⟩
      exact fx_wpE [36] 20 ⟨_, _, hg1, at36 _ h6⟩
    exact fx_wpE [25] 20 ⟨_, _, hg0, at25 _ (by show hi 6 0 6 + 1 = _; rw [h6, nI_1])⟩
  exact fx_wpE [12] 20 (at12 _ h5)
end MD
