/-! constructors: the acts, the row's search -/
section CV
variable {d L : Nat} {c : Nat → Nat} {R : Nat → Nat → Nat → Option fxR} {hi : fxI3} {hl : fxL3}
theorem mkOj {ln : Nat → Nat → Nat} {k n j : Nat} (ek : c k = j) (h1 : ln k j = n) (h3 : ∀ s, hi k j s = 0) (h4 : ∀ s, hl k j s = 0) : fx_mk (c, ln, R, hi, hl) k n = (cinc c k, ln, fx_all R k j (fun _ => none), hi, hl) := by
  subst ek
  exact mkO h1 h3 h4
theorem x_acts (e0 : c 0 = 0) (e35 : c 35 = 0) (e1 : c 1 = 3) (e : ∀ k, 21 ≤ k → k ≤ 24 → c k = 3) (h0 : ∀ s, R 0 0 s = fx_rfs 0 none 0 0 s) (h35 : ∀ s, R 35 0 s = fx_rfs 0 none 35 0 s) (h1 : ∀ k j s, k = 1 ∨ 21 ≤ k ∧ k ≤ 24 → R k j s = fx_rfs 0 none k j s) (hz : zI hi) (hlz : zL hl) : fx_Ga (d + 2) 0 [kO] (fx_mk (c, lz L, R, hi, hl) 0 0) none (cchN (cinc (cinc c 0) 35) 20, lz L, R, hi, hl) := by
  rw [mkOj (ln := lz L) (n := 0) e0 rfl (fun s => hz 0 _ s (by decide) (by decide) (by decide)) (fun s => hlz 0 _ s)]
  generalize hcc : cinc (cinc c 0) 35 = cc
  have a1 : ∀ k, k = 1 ∨ 21 ≤ k ∧ k ≤ 24 → cc k = 3 := fun k hk => by
    rw [← hcc, cinc_ne (by omega), cinc_ne (by omega)]
    rcases hk with rfl | hk
    · exact e1
    · exact e k hk.1 hk.2
  have fin : fx_all R 35 0 (fun s => if s < 20 then some (1, 3 + s) else none) = R := all_id (fun s => by
    rw [h35]
    show _ = (bif Nat.blt s 20 then some (1, 3 + s) else none)
    by_cases hs : s < 20
    · rw [if_pos hs, (Nat.blt_eq).mpr hs]
      rfl
    · rw [if_neg hs, Bool.eq_false_iff.mpr (fun z => hs ((Nat.blt_eq).mp z))]
      rfl)
  have st0 : fx_all R 35 0 (fun s => if s < 0 then some (1, 3 + s) else none) = fx_all R 35 0 (fun _ => none) := by
    congr 1
  have nx : ∀ i, i < 20 → fx_E (fx_Ga (d + 1)) fx_M0 (15, [some kO, some (vi (nI (i + 1)))], [], (cchN cc (i + 1), lz L, fx_all R 35 0 (fun s => if s < i + 1 then some (1, 3 + s) else none), hi, hl), 1 + 5 * (i + 1), 20 + 35 * (i + 1)) (fun r2 h2 => r2 = none ∧ h2 = (cchN cc 20, lz L, R, hi, hl)) → fx_E (fx_Ga (d + 1)) fx_M0 (15, [some kO, some (vi (nI i))], [], (cchN cc i, lz L, fx_all R 35 0 (fun s => if s < i then some (1, 3 + s) else none), hi, hl), 1 + 5 * i, 20 + 35 * i) (fun r2 h2 => r2 = none ∧ h2 = (cchN cc 20, lz L, R, hi, hl)) := by
    intro i h20 k
    have ei : cchN cc i 1 = 3 + i := by rw [cchN_at (Or.inl rfl), a1 1 (Or.inl rfl)]
    have g := x_chaseZ (d := d) (L := L) (c := cchN cc i) (R := fx_all R 35 0 (fun s => if s < i then some (1, 3 + s) else none)) (hi := hi) (hl := hl) (fun k a b => by rw [cchN_at (by omega), cchN_at (by omega), a1 k (by omega), a1 1 (Or.inl rfl)]) (fun k s a => by rw [fx_all_ne _ _ (by omega)]; exact h1 k _ s a) hz hlz
    have hk : fx_all R 35 0 (fun s => if s < i then some (1, 3 + s) else none) 0 0 0 = some (35, 0) := by
      rw [fx_all_ne _ _ (by omega)]
      exact h0 0
    rw [row_st, ← all_up, ← nI_1, show 1 + 5 * (i + 1) = 1 + 5 * i + 1 + 4 by omega, show 20 + 35 * (i + 1) = 20 + 35 * i + 11 + 24 by omega] at k
    generalize hRR : fx_all R 35 0 (fun s => if s < i then some (1, 3 + s) else none) = RR at k g hk ⊢
    have at33 : fx_E (fx_Ga (d + 1)) fx_M0 (33, [some kO, some (vi (nI i))], [cO (cchN cc i 1), vi (nI i), .inr (.inr (some (35, 0)))], (cch (cchN cc i), lz L, RR, hi, hl), 1 + 5 * i + 1 + 4, 20 + 35 * i + 11 + 24) (fun r2 h2 => r2 = none ∧ h2 = (cchN cc 20, lz L, R, hi, hl)) := by
      refine fx_E_step (i := .aastore) rfl rfl rfl (if_pos (ni_in (n := i) (m := 20) h20 (by decide))) ?_
      rw [nI_clamp (show i < 2 ^ 31 by omega), ei]
      exact fx_wpE [15] 10 k
    have at25 : fx_E (fx_Ga (d + 1)) fx_M0 (25, [some kO, some (vi (nI i))], [.inr (.inr (some (35, 0)))], (cchN cc i, lz L, RR, hi, hl), 1 + 5 * i, 20 + 35 * i) (fun r2 h2 => r2 = none ∧ h2 = (cchN cc 20, lz L, R, hi, hl)) := by
      rcases (show i = 0 ∨ i = 1 ∨ i = 2 ∨ i = 3 ∨ i = 4 ∨ i = 5 ∨ i = 6 ∨ i = 7 ∨ i = 8 ∨ i = 9 ∨ i = 10 ∨ i = 11 ∨ i = 12 ∨ i = 13 ∨ i = 14 ∨ i = 15 ∨ i = 16 ∨ i = 17 ∨ i = 18 ∨ i = 19 by omega) with rfl | rfl | rfl | rfl | rfl | rfl | rfl | rfl | rfl | rfl | rfl | rfl | rfl | rfl | rfl | rfl | rfl | rfl | rfl | rfl
      all_goals exact fx_wpE [33] 20 ⟨_, _, g, at33⟩
    conv at at25 => rw [← hk]
    exact fx_wpL [15, 25] 20 (pk_le 20 i (fun h => by omega) (fun _ => at25))
  have all : ∀ k i, i + k = 20 → fx_E (fx_Ga (d + 1)) fx_M0 (15, [some kO, some (vi (nI i))], [], (cchN cc i, lz L, fx_all R 35 0 (fun s => if s < i then some (1, 3 + s) else none), hi, hl), 1 + 5 * i, 20 + 35 * i) (fun r2 h2 => r2 = none ∧ h2 = (cchN cc 20, lz L, R, hi, hl)) := by
    intro k
    induction k with
    | zero =>
      intro i hi2
      have : i = 20 := by omega
      subst this
      rw [fin]
      exact fx_wpL [15] 20 (pk_le 20 20 (fun _ => ⟨rfl, rfl⟩) (fun h => by omega))
    | succ k ih =>
      intro i hi2
      exact nx i (by omega) (ih (i + 1) (by omega))
  have s13 := all 20 0 rfl
  rw [st0] at s13
  have e13 : fx_wr (fx_mk (cinc c 0, lz L, fx_all R 0 0 (fun _ => none), hi, hl) 35 20) 0 0 0 (some (35, cinc c 0 35)) = (cc, lz L, fx_all R 35 0 (fun _ => none), hi, hl) := by
    rw [show cinc c 0 35 = 0 from e35]
    rw [mkOj (k := 35) (n := 20) (j := 0) (show cinc c 0 35 = 0 from e35) rfl (fun s => hz 35 _ s (by decide) (by decide) (by decide)) (fun s => hlz _ _ _), wrT, hcc]
    have : fx_up (fx_all (fx_all R 0 0 (fun _ => none)) 35 0 (fun _ => none)) 0 0 0 (some (35, 0)) = fx_all R 35 0 (fun _ => none) := by
      funext k j s
      by_cases z : k = 35 ∧ j = 0
      · rw [up_off _ _ (by omega), z.1, z.2, fx_all_eq, fx_all_eq]
      · by_cases z2 : k = 0 ∧ j = 0
        · obtain ⟨rfl, rfl⟩ := z2
          rw [fx_all_ne R _ z, h0]
          match s with
          | 0 => rw [up_at]; rfl
          | s + 1 => rw [up_off _ _ (by omega), fx_all_ne _ _ z, fx_all_eq]; rfl
        · rw [up_off _ _ (by omega), fx_all_ne _ _ z, fx_all_ne _ _ z2, fx_all_ne _ _ z]
    rw [this]
  rw [show cchN cc 0 = cc from rfl, ← e13] at s13
  exact fx_meth (d := d + 1) fx_M0 [some kO, none] (by decide) rfl rfl (Nat.le_of_ble_eq_true rfl) (fx_wpE [15] 20 s13)
theorem x_rowS (e4 : c 4 = 0) (e39 : c 39 = 0) (e1 : c 1 = 24) (e : ∀ k, 21 ≤ k → k ≤ 24 → c k = 24) (h4 : ∀ s, R 4 0 s = fx_rfs 0 none 4 0 s) (h39 : ∀ s, R 39 0 s = fx_rfs 0 none 39 0 s) (h1 : ∀ k j s, k = 1 ∨ 21 ≤ k ∧ k ≤ 24 → R k j s = fx_rfs 0 none k j s) (hz : zI hi) (hlz : zL hl) : fx_Ga (d + 2) 35 [qO, pO] (fx_mk (c, lz L, R, hi, hl) 4 0) none (cchN (cinc (cinc c 4) 39) 5, lz L, R, hi, hl) := by
  rw [mkOj (ln := lz L) (n := 0) e4 rfl (fun s => hz 4 _ s (by decide) (by decide) (by decide)) (fun s => hlz 4 _ s)]
  generalize hcc : cinc (cinc c 4) 39 = cc
  have a1 : ∀ k, k = 1 ∨ 21 ≤ k ∧ k ≤ 24 → cc k = 24 := fun k hk => by
    rw [← hcc, cinc_ne (by omega), cinc_ne (by omega)]
    rcases hk with rfl | hk
    · exact e1
    · exact e k hk.1 hk.2
  have fin : fx_all R 39 0 (fun s => if s < 5 then some (1, 24 + s) else none) = R := all_id (fun s => by
    rw [h39]
    show _ = (bif Nat.blt s 5 then some (1, 24 + s) else none)
    by_cases hs : s < 5
    · rw [if_pos hs, (Nat.blt_eq).mpr hs]
      rfl
    · rw [if_neg hs, Bool.eq_false_iff.mpr (fun z => hs ((Nat.blt_eq).mp z))]
      rfl)
  have st0 : fx_all R 39 0 (fun s => if s < 0 then some (1, 24 + s) else none) = fx_all R 39 0 (fun _ => none) := by
    congr 1
  have nx : ∀ i, i < 5 → fx_E (fx_Ga (d + 1)) fx_M35 (19, [some qO, some pO, some (vi (nI (i + 1)))], [], (cchN cc (i + 1), lz L, fx_all R 39 0 (fun s => if s < i + 1 then some (1, 24 + s) else none), hi, hl), 1 + 5 * (i + 1), 5 + 35 * (i + 1)) (fun r2 h2 => r2 = none ∧ h2 = (cchN cc 5, lz L, R, hi, hl)) → fx_E (fx_Ga (d + 1)) fx_M35 (19, [some qO, some pO, some (vi (nI i))], [], (cchN cc i, lz L, fx_all R 39 0 (fun s => if s < i then some (1, 24 + s) else none), hi, hl), 1 + 5 * i, 5 + 35 * i) (fun r2 h2 => r2 = none ∧ h2 = (cchN cc 5, lz L, R, hi, hl)) := by
    intro i h20 k
    have ei : cchN cc i 1 = 24 + i := by rw [cchN_at (Or.inl rfl), a1 1 (Or.inl rfl)]
    have g := x_chaseZ (d := d) (L := L) (c := cchN cc i) (R := fx_all R 39 0 (fun s => if s < i then some (1, 24 + s) else none)) (hi := hi) (hl := hl) (fun k a b => by rw [cchN_at (by omega), cchN_at (by omega), a1 k (by omega), a1 1 (Or.inl rfl)]) (fun k s a => by rw [fx_all_ne _ _ (by omega)]; exact h1 k _ s a) hz hlz
    have hk : fx_all R 39 0 (fun s => if s < i then some (1, 24 + s) else none) 4 0 1 = some (39, 0) := by
      rw [fx_all_ne _ _ (by omega)]
      exact h4 1
    rw [row_st, ← all_up, ← nI_1, show 1 + 5 * (i + 1) = 1 + 5 * i + 1 + 4 by omega, show 5 + 35 * (i + 1) = 5 + 35 * i + 11 + 24 by omega] at k
    generalize hRR : fx_all R 39 0 (fun s => if s < i then some (1, 24 + s) else none) = RR at k g hk ⊢
    have at36 : fx_E (fx_Ga (d + 1)) fx_M35 (36, [some qO, some pO, some (vi (nI i))], [cO (cchN cc i 1), vi (nI i), .inr (.inr (some (39, 0)))], (cch (cchN cc i), lz L, RR, hi, hl), 1 + 5 * i + 1 + 4, 5 + 35 * i + 11 + 24) (fun r2 h2 => r2 = none ∧ h2 = (cchN cc 5, lz L, R, hi, hl)) := by
      refine fx_E_step (i := .aastore) rfl rfl rfl (if_pos (ni_in (n := i) (m := 5) h20 (by decide))) ?_
      rw [nI_clamp (show i < 2 ^ 31 by omega), ei]
      exact fx_wpE [19] 10 k
    have at28 : fx_E (fx_Ga (d + 1)) fx_M35 (28, [some qO, some pO, some (vi (nI i))], [.inr (.inr (some (39, 0)))], (cchN cc i, lz L, RR, hi, hl), 1 + 5 * i, 5 + 35 * i) (fun r2 h2 => r2 = none ∧ h2 = (cchN cc 5, lz L, R, hi, hl)) := by
      rcases (show i = 0 ∨ i = 1 ∨ i = 2 ∨ i = 3 ∨ i = 4 by omega) with rfl | rfl | rfl | rfl | rfl
      all_goals exact fx_wpE [36] 20 ⟨_, _, g, at36⟩
    conv at at28 => rw [← hk]
    exact fx_wpL [19, 28] 20 (pk_lt 4 i (fun h => by omega) (fun _ => at28))
  have all : ∀ k i, i + k = 5 → fx_E (fx_Ga (d + 1)) fx_M35 (19, [some qO, some pO, some (vi (nI i))], [], (cchN cc i, lz L, fx_all R 39 0 (fun s => if s < i then some (1, 24 + s) else none), hi, hl), 1 + 5 * i, 5 + 35 * i) (fun r2 h2 => r2 = none ∧ h2 = (cchN cc 5, lz L, R, hi, hl)) := by
    intro k
    induction k with
    | zero =>
      intro i hi2
      have : i = 5 := by omega
      subst this
      rw [fin]
      exact fx_wpL [19] 20 (pk_lt 4 5 (fun _ => ⟨rfl, rfl⟩) (fun h => by omega))
    | succ k ih =>
      intro i hi2
      exact nx i (by omega) (ih (i + 1) (by omega))
  have s13 := all 5 0 rfl
  rw [st0] at s13
  have e13 : fx_wr (fx_wr (fx_mk (cinc c 4, lz L, fx_all R 4 0 (fun _ => none), hi, hl) 39 5) 4 0 1 (some (39, cinc c 4 39))) 4 0 0 (some (8, 0)) = (cc, lz L, fx_all R 39 0 (fun _ => none), hi, hl) := by
    rw [show cinc c 4 39 = 0 from e39]
    rw [mkOj (k := 39) (n := 5) (j := 0) (show cinc c 4 39 = 0 from e39) rfl (fun s => hz 39 _ s (by decide) (by decide) (by decide)) (fun s => hlz _ _ _), wrT, wrT, hcc]
    have : fx_up (fx_up (fx_all (fx_all R 4 0 (fun _ => none)) 39 0 (fun _ => none)) 4 0 1 (some (39, 0))) 4 0 0 (some (8, 0)) = fx_all R 39 0 (fun _ => none) := by
      funext k j s
      by_cases z : k = 39 ∧ j = 0
      · rw [up_off _ _ (by omega), up_off _ _ (by omega), z.1, z.2, fx_all_eq, fx_all_eq]
      · by_cases z2 : k = 4 ∧ j = 0
        · obtain ⟨rfl, rfl⟩ := z2
          rw [fx_all_ne R _ z, h4]
          match s with
          | 0 => rw [up_at]; rfl
          | 1 => rw [up_off _ _ (by omega), up_at]; rfl
          | 2 => rw [up_off _ _ (by omega), up_off _ _ (by omega), fx_all_ne _ _ z, fx_all_eq]; rfl
          | s + 3 => rw [up_off _ _ (by omega), up_off _ _ (by omega), fx_all_ne _ _ z, fx_all_eq]; rfl
        · rw [up_off _ _ (by omega), up_off _ _ (by omega), fx_all_ne _ _ z, fx_all_ne _ _ z2, fx_all_ne _ _ z]
    rw [this]
  rw [show cchN cc 0 = cc from rfl, ← e13] at s13
  exact fx_meth (d := d + 1) fx_M35 [some qO, some pO, none] (by decide) rfl rfl (Nat.le_of_ble_eq_true rfl) (fx_wpE [19] 20 s13)
end CV
