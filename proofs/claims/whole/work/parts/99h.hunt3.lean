/-! the reference's hunt -/
theorem HS.ln {hi : fxI3} {p c : Nat} {u : Nat → Nat} (h : HS hi p c u) (x : Nat) : HS (fx_up hi 11 0 14 (nI x)) p x u := ⟨(up_off _ _ (by omega)).trans h.1, (up_off _ _ (by omega)).trans h.2.1, (up_off _ _ (by omega)).trans h.2.2.1, up_at _ _ _ _ _, fun y hy => (up_off _ _ (by omega)).trans (h.2.2.2.2 y hy)⟩
section MI
variable {d : Nat} {σ : fxS} {hi : fxI3} {hl : fxL3} {n p c : Nat} {u : Nat → Nat} {T : Nat → Int32}
theorem m_isFoxWord (ht : TM hi n T) (hs : HS hi p c u) (hpn : p ≤ n) (hq : lx_rn lx_S T n p = p) : fx_Ga (d + 3) 176 [mO] (hp σ hi hl) (some (vi (b01 (decide (lx_wk T n p = 6713208 ∨ lx_wk T n p = 491394458994 ∨ lx_wk T n p = 1734440037))))) (hp σ hi hl) := by
  have w1 := m_isWordQ (d := d) (σ := σ) (hl := hl) ht hs.1 hpn hq (c := 6713208) (by decide) (by decide)
  have w2 := m_isWordQ (d := d) (σ := σ) (hl := hl) ht hs.1 hpn hq (c := 491394458994) (by decide) (by decide)
  have w3 := m_isWordQ (d := d) (σ := σ) (hl := hl) ht hs.1 hpn hq (c := 1734440037) (by decide) (by decide)
  refine fx_meth (d := d + 2) fx_M176 [some mO] (by decide) rfl rfl (Nat.le_of_ble_eq_true rfl) (fx_wpE [] 40 ?_)
  refine ⟨_, _, w1, bd_nf (fun h => ⟨Or.inr rfl, by rw [decide_eq_true (Or.inl h)]; rfl, rfl⟩) (fun h1 => ⟨_, _, w2, bd_nf (fun h => ⟨Or.inr rfl, by rw [decide_eq_true (Or.inr (Or.inl h))]; rfl, rfl⟩) (fun h2 => ⟨_, _, w3, bd_if (fun h3 => ⟨Or.inl rfl, ?_, rfl⟩) (fun h => ⟨Or.inr rfl, by rw [decide_eq_true (Or.inr (Or.inr h))]; rfl, rfl⟩)⟩)⟩)⟩
  rw [decide_eq_false (fun z => z.elim h1 (fun z => z.elim h2 h3))]
  rfl
theorem m_clauseH (ht : TM hi n T) (hs : HS hi p c u) (hpn : p ≤ n) (hc : c ≤ 40) (hu : HU c u) : QH (d + 6) 177 [mO] σ hi hl (c + 1) (vHc T n p c u) := by
  have hsee := m_see (d := d + 4) (σ := σ) (hl := hl) ht hs.1 hpn
  have hqn : lx_rn lx_S T n p ≤ n := rn_le hpn
  have hidem := rn_idem (P := lx_S) (T := T) hpn
  unfold vHc
  generalize lx_rn lx_S T n p = q at hsee hqn hidem ⊢
  have F1 : FrH hi (fx_up hi 11 0 8 (nI q)) := FrH.up hi _ (by omega)
  have s1 := hs.nx q
  have hw := m_isFoxWord (d := d + 2) (σ := σ) (hl := hl) (ht.fh F1) s1 hqn hidem
  refine QH_of (d := d + 5) fx_M177 [some mO, none, none] (by decide) rfl rfl (Nat.le_of_ble_eq_true rfl) ?_
  have st : ∀ res : fxQh, fx_E (fx_Ga (d + 5)) fx_M177 (25, [some mO, some (vi (nI q)), some (vi 1)], [], hp σ (fx_up hi 11 0 8 (nI q)) hl, 0, 0) (QHP σ hi hl (c + 1) res) → fx_E (fx_Ga (d + 5)) fx_M177 (0, [some mO, none, none], [], hp σ hi hl, 0, 0) (QHP σ hi hl (c + 1) res) := fun res k => fx_wpE [25] 40 ⟨_, _, hsee, nn_eq 6 6 (fun _ => k) (fun h => absurd rfl h) hs.2.2.1⟩
  refine st _ ?_
  by_cases hW : lx_wk T n q = 6713208 ∨ lx_wk T n q = 491394458994 ∨ lx_wk T n q = 1734440037
  · rw [if_pos hW]
    rw [decide_eq_true hW] at hw
    by_cases h40 : c = 40
    · rw [if_pos h40]
      have hf := m_fails (d := d + 4) (σ := σ) (hl := hl) s1.2.1 4 q
      refine fx_wpE [] 60 ⟨fun w => absurd w (by decide), fun _ => ⟨_, _, hw, fun _ => ⟨fun w => absurd w (by decide), fun _ => nn_eq c 40 (fun _ => ⟨_, _, hf, Or.inl rfl, rfl, _, rfl, F1.tr (FrH.up _ _ (by omega)), ?_⟩) (fun h => absurd h40 h) hs.2.2.2.1⟩, fun w => absurd (by decide) w⟩⟩
      rw [up_at, show 1 + 8 * q + 4 = 5 + 8 * q by omega]
    · rw [if_neg h40]
      have e14 : (fx_up hi 11 0 8 (nI q) 11 0 14 + 1 : Int32) = nI (c + 1) := by rw [s1.2.2.2.1, nI_1]
      have F2 : FrH hi (fx_up (fx_up hi 11 0 8 (nI q)) 11 0 14 (nI (c + 1))) := F1.tr (FrH.up _ _ (by omega))
      have hln := m_line (d := d) (σ := σ) (hl := hl) (ht.fh F2) (s1.ln (c + 1)) hqn hidem hu
      rw [← e14] at hln F2
      cases hv : vHl T n q u with
      | inl f =>
        rw [hv] at hln
        obtain ⟨h3, g3, f3, e3⟩ := hln
        exact fx_wpE [] 60 ⟨fun w => absurd w (by decide), fun _ => ⟨_, _, hw, fun _ => ⟨fun w => absurd w (by decide), fun _ => nn_eq c 40 (fun h => absurd h h40) (fun _ => ⟨fun w => absurd w (by decide), fun _ => ⟨_, _, g3, Or.inl rfl, rfl, h3, rfl, F2.tr f3, e3⟩⟩) hs.2.2.2.1⟩, fun w => absurd (by decide) w⟩⟩
      | inr y =>
        obtain ⟨p', u'⟩ := y
        rw [hv] at hln
        obtain ⟨h3, g3, f3, e3⟩ := hln
        exact fx_wpE [] 60 ⟨fun w => absurd w (by decide), fun _ => ⟨_, _, hw, fun _ => ⟨fun w => absurd w (by decide), fun _ => nn_eq c 40 (fun h => absurd h h40) (fun _ => ⟨fun w => absurd w (by decide), fun _ => ⟨_, _, g3, Or.inr rfl, rfl, h3, rfl, F2.tr f3, e3⟩⟩) hs.2.2.2.1⟩, fun w => absurd (by decide) w⟩⟩
  · rw [if_neg hW]
    rw [decide_eq_false hW] at hw
    have hf := m_fails (d := d + 4) (σ := σ) (hl := hl) s1.2.1 0 q
    exact fx_wpE [] 60 ⟨fun w => absurd w (by decide), fun _ => ⟨_, _, hw, fun w => absurd rfl w, fun _ => ⟨_, _, hf, Or.inl rfl, rfl, _, rfl, F1.tr (FrH.up _ _ (by omega)), up_at _ _ _ _ _⟩⟩⟩
/-- what a hunt's reading leaves -/
def FrI (hi hi' : fxI3) : Prop := ∀ k j s, ¬ (k = 11 ∧ (s = 1 ∨ 8 ≤ s ∧ s ≤ 16)) → k ≠ 55 → ¬ (k = 52 ∧ s = 6) → hi' k j s = hi k j s
theorem FrI.tr {a b c : fxI3} (h : FrI a b) (g : FrI b c) : FrI a c := fun k j s h1 h2 h3 => (g k j s h1 h2 h3).trans (h k j s h1 h2 h3)
theorem FrH.i {a b : fxI3} (h : FrH a b) : FrI a b := fun k j s h1 h2 _ => h k j s (by omega) h2
theorem FrI.up (hi : fxI3) {k j s : Nat} (x : Int32) (h : k = 11 ∧ (s = 1 ∨ 8 ≤ s ∧ s ≤ 16) ∨ k = 55 ∨ k = 52 ∧ s = 6) : FrI hi (fx_up hi k j s x) := fun k' j' s' h1 h2 h3 => up_off hi x (fun z => by
  obtain ⟨z1, _, z3⟩ := z
  subst z1; subst z3
  rcases h with h | h | h
  · exact h1 h
  · exact h2 h
  · exact h3 h)
def HaP (σ : fxS) (hi : fxI3) (hl : fxL3) (res : Nat ⊕ (Nat → Nat)) : Option fxV → fxH → Prop := fun r2 h2 => match res with
  | .inl f => r2 = some (vi 0) ∧ ∃ hi', h2 = hp σ hi' hl ∧ FrI hi hi' ∧ hi' 11 0 1 = 0 ∧ hi' 11 0 9 = nI f
  | .inr u => r2 = some (vi 1) ∧ ∃ hi', h2 = hp σ hi' hl ∧ FrI hi hi' ∧ hi' 11 0 1 = 0 ∧ ∀ x, x < 52 → hi' 55 0 x = nI (u x)
theorem m_readsH (hT : ∀ i, i < n → isB (T i)) (ht : TM hi n T) (h11 : hi 11 0 11 = nI 6) (hr : ∀ x, x < 52 → hi 55 0 x = nI 0) : fx_E (fx_Ga (d + 6)) fx_M178 (0, [some mO, none], [], hp σ hi hl, 0, 0) (HaP σ hi hl (rdH T n 41 0 0 (fun _ => 0))) := by
  have h400 := ht.1
  have htm : ∀ {hb : fxI3}, FrI hi hb → hb 11 0 1 = nI n → TM hb n T := fun f e => ⟨h400, e, fun i hi2 => (f 50 0 i (by omega) (by omega) (by omega)).trans (ht.2.2 i hi2)⟩
  -- the end of it: a fault
  have bad : ∀ (hb : fxI3) f, FrI hi hb → hb 11 0 9 = nI f → 1 ≤ f → f ≤ 8 * n + 5 → fx_E (fx_Ga (d + 6)) fx_M178 (88, [some mO, some (vi 0)], [], hp σ hb hl, 0, 0) (HaP σ hi hl (.inl f)) ∧ fx_E (fx_Ga (d + 6)) fx_M178 (88, [some mO, some (vi 1)], [], hp σ hb hl, 0, 0) (HaP σ hi hl (.inl f)) := by
    intro hb f g1 g2 g3 g4
    have fin : HaP σ hi hl (.inl f) (some (vi 0)) (hp σ (fx_up hb 11 0 1 0) hl) := ⟨rfl, _, rfl, g1.tr (FrI.up _ _ (by omega)), up_at _ _ _ _ _, (up_off _ _ (by omega)).trans g2⟩
    have e : ¬ ¬ ¬ hb 11 0 9 = 0 := fun z => z (fun w => by
      rw [g2] at w
      have := (nI_eq (a := f) (b := 0) (by omega) (by decide)).mp w
      omega)
    exact ⟨fx_wpE [] 20 ⟨fun _ => ⟨Or.inl rfl, fin⟩, fun w => absurd w e⟩, fx_wpE [] 20 ⟨fun _ => ⟨Or.inl rfl, fin⟩, fun w => absurd w e⟩⟩
  have loop : ∀ k c p1 u1 (hb : fxI3), c + k = 41 → c ≤ 40 → p1 ≤ n → HU c u1 → FrI hi hb → hb 11 0 1 = nI n → HS hb p1 c u1 → fx_E (fx_Ga (d + 6)) fx_M178 (35, [some mO, some (vi 1)], [], hp σ hb hl, 0, 0) (HaP σ hi hl (vHx T n (rdH T n k c) p1 u1)) := by
    intro k
    induction k with
    | zero =>
      intro c p1 u1 hb hk hc
      omega
    | succ k ih =>
      intro c p1 u1 hb hk hc hp1 hu g1 g1b g2
      have htb := htm g1 g1b
      have hs1 := m_see (d := d + 5) (σ := σ) (hl := hl) htb g2.1 hp1
      have hqn : lx_rn lx_S T n p1 ≤ n := rn_le hp1
      have hidem := rn_idem (P := lx_S) (T := T) hp1
      unfold vHx
      generalize lx_rn lx_S T n p1 = q at hs1 hqn hidem ⊢
      have F1 : FrI hi (fx_up hb 11 0 8 (nI q)) := g1.tr (FrI.up hb _ (by omega))
      have T1 := htm F1 ((up_off _ _ (by omega)).trans g1b)
      have s1 := g2.nx q
      have hsq := m_seeQ (d := d + 5) (σ := σ) (hl := hl) T1 s1.1 hqn hidem
      by_cases hB : q < n ∧ T q = nI 59
      · have eB : sA T n q = nI 59 := (sA_c hT (by decide)).mpr hB
        rw [if_pos hB]
        have s2 : HS (fx_up (fx_up hb 11 0 8 (nI q)) 11 0 8 (nI q + 1)) (q + 1) c u1 := by
          rw [nI_1]
          exact s1.nx (q + 1)
        have F2 : FrI hi (fx_up (fx_up hb 11 0 8 (nI q)) 11 0 8 (nI q + 1)) := F1.tr (FrI.up _ _ (by omega))
        have T2b : fx_up (fx_up hb 11 0 8 (nI q)) 11 0 8 (nI q + 1) 11 0 1 = nI n := (up_off _ _ (by omega)).trans T1.2.1
        have hcl := m_clauseH (d := d) (σ := σ) (hl := hl) (htm F2 T2b) s2 (by omega) hc hu
        have hok := vHc_ok (T := T) (p := q + 1) (show q + 1 ≤ n by omega) hu
        unfold rdH
        cases hv : vHc T n (q + 1) c u1 with
        | inl f =>
          rw [hv] at hcl
          obtain ⟨hi3, hg3, f3, e3⟩ := hcl
          have hb2 := hok.1 f hv
          have h2 := (bad hi3 f (F2.tr f3.i) e3 hb2.1 hb2.2).1
          refine fx_wpL [35, 88] 60 ⟨fun w => absurd w (by decide), fun _ => ⟨_, _, hs1, fun w => absurd eB w, fun _ => ⟨_, _, hg3, ?_⟩⟩⟩
          exact fx_wpL [88] 20 ⟨fun _ => ⟨fun _ => h2, fun w => absurd rfl w⟩, fun w => absurd rfl w⟩
        | inr z =>
          obtain ⟨p', u'⟩ := z
          rw [hv] at hcl
          obtain ⟨hi3, hg3, f3, k1⟩ := hcl
          obtain ⟨b1, b2, b3, b4⟩ := hok.2 p' u' hv
          have h2 := ih (c + 1) p' u' hi3 (by omega) (by omega) b2 b4 (F2.tr f3.i) ((f3 11 0 1 (by omega) (by omega)).trans T2b) k1
          exact fx_wpL [35] 60 ⟨fun w => absurd w (by decide), fun _ => ⟨_, _, hs1, fun w => absurd eB w, fun _ => ⟨_, _, hg3, h2⟩⟩⟩
      · have eB : ¬ sA T n q = nI 59 := fun z => hB ((sA_c hT (by decide)).mp z)
        rw [if_neg hB]
        by_cases hq : q < n
        · rw [if_pos hq]
          have em : ¬ sA T n q = -1 := fun z => (sA_m1 hT).mp z hq
          have hf := m_fails (d := d + 5) (σ := σ) (hl := hl) s1.2.1 0 q
          have h2 := (bad (fx_up (fx_up hb 11 0 8 (nI q)) 11 0 9 (nI (1 + 8 * q + 0))) (1 + 8 * q) (F1.tr (FrI.up _ _ (by omega))) (up_at _ _ _ _ _) (by omega) (by omega)).2
          exact fx_wpL [35, 88] 60 ⟨fun w => absurd w (by decide), fun _ => ⟨_, _, hs1, fun _ => ⟨fun w => absurd w (by decide), fun _ => ⟨_, _, hsq, fun w => absurd w em, fun _ => ⟨_, _, hf, h2⟩⟩⟩, fun w => absurd eB w⟩⟩
        · rw [if_neg hq]
          have em : sA T n q = -1 := (sA_m1 hT).mpr hq
          have fin : HaP σ hi hl (.inr u1) (some (vi 1)) (hp σ (fx_up (fx_up hb 11 0 8 (nI q)) 11 0 1 0) hl) := ⟨rfl, _, rfl, F1.tr (FrI.up _ _ (by omega)), up_at _ _ _ _ _, fun x hx => (up_off _ _ (by omega)).trans (s1.2.2.2.2 x hx)⟩
          exact fx_wpL [35] 60 ⟨fun w => absurd w (by decide), fun _ => ⟨_, _, hs1, fun _ => ⟨fun w => absurd w (by decide), fun _ => ⟨_, _, hsq, fun _ => ⟨fun w => absurd s1.2.1 w, fun _ => ⟨Or.inr rfl, fin⟩⟩, fun w => absurd em w⟩⟩, fun w => absurd eB w⟩⟩
  -- the beginning
  have b7 := ni_inx (n := 6) (m := 7) h11 (by omega) (by decide)
  generalize hh : fx_up (fx_up (fx_up (fx_up (fx_up hi 52 0 6 0) 11 0 14 0) 11 0 8 0) 11 0 9 0) 11 0 12 0 = h0
  have F0 : FrI hi h0 := by
    rw [← hh]
    exact ((((FrI.up hi _ (by omega)).tr (FrI.up _ _ (by omega))).tr (FrI.up _ _ (by omega))).tr (FrI.up _ _ (by omega))).tr (FrI.up _ _ (by omega))
  have off : ∀ k j s, ¬ (k = 11 ∧ (s = 14 ∨ s = 8 ∨ s = 9 ∨ s = 12)) → k ≠ 52 → h0 k j s = hi k j s := fun k j s a b => by
    rw [← hh, up_off _ _ (by omega), up_off _ _ (by omega), up_off _ _ (by omega), up_off _ _ (by omega), up_off _ _ (by omega)]
  have hs0 : HS h0 0 0 (fun _ => 0) := by
    refine ⟨?_, ?_, (off 11 0 11 (by omega) (by omega)).trans h11, ?_, fun x hx => (off 55 0 x (by omega) (by omega)).trans (hr x hx)⟩
    all_goals (rw [← hh]; rfl)
  have T0b : h0 11 0 1 = nI n := (off 11 0 1 (by omega) (by omega)).trans ht.2.1
  have hcl := m_clauseH (d := d) (σ := σ) (hl := hl) (htm F0 T0b) hs0 (Nat.zero_le _) (by decide) HU_0
  have hok := vHc_ok (T := T) (p := 0) (n := n) (Nat.zero_le _) HU_0
  have st30 : fx_E (fx_Ga (d + 6)) fx_M178 (30, [some mO, none], [], hp σ h0 hl, 0, 0) (HaP σ hi hl (rdH T n 41 0 0 (fun _ => 0))) := by
    unfold rdH
    cases hv : vHc T n 0 0 (fun _ => 0) with
    | inl f =>
      rw [hv] at hcl
      obtain ⟨hi3, hg3, f3, e3⟩ := hcl
      have hb2 := hok.1 f hv
      have h2 := (bad hi3 f (F0.tr f3.i) e3 hb2.1 hb2.2).1
      refine fx_wpE [35] 20 ⟨_, _, hg3, ?_⟩
      exact fx_wpL [88] 20 ⟨fun _ => ⟨fun _ => h2, fun w => absurd rfl w⟩, fun w => absurd rfl w⟩
    | inr z =>
      obtain ⟨p', u'⟩ := z
      rw [hv] at hcl
      obtain ⟨hi3, hg3, f3, k1⟩ := hcl
      obtain ⟨b1, b2, b3, b4⟩ := hok.2 p' u' hv
      exact fx_wpE [35] 20 ⟨_, _, hg3, loop 40 1 p' u' hi3 rfl (by decide) b2 b4 (F0.tr f3.i) ((f3 11 0 1 (by omega) (by omega)).trans T0b) k1⟩
  rw [← hh] at st30
  conv at st30 => rw [show fx_up hi 52 0 6 = fx_up hi 52 0 (hi 11 0 11).toNatClampNeg by rw [ni_cl h11 (by omega)]]
  exact fx_wpE [30] 40 ⟨b7, st30⟩
def aHunt (T : Nat → Int32) (n : Nat) : Int32 := match rdH T n 41 0 0 (fun _ => 0) with
  | .inl f => -2 - nI f
  | .inr u => nI (u 4)
def vHw (u : Nat → Nat) : Nat → Nat := fun x => if x < 52 then u x else 0
def FrJ (hi hi' : fxI3) : Prop := ∀ k j s, ¬ (k = 11 ∧ (s = 1 ∨ 8 ≤ s ∧ s ≤ 16 ∨ s = 28)) → k ≠ 55 → ¬ (k = 52 ∧ s = 6) → k ≠ 59 → hi' k j s = hi k j s
def HuP (T : Nat → Int32) (n : Nat) (hi hi' : fxI3) : Prop := FrJ hi hi' ∧ hi' 11 0 1 = 0 ∧ match rdH T n 41 0 0 (fun _ => 0) with
  | .inl _ => (∀ s, hi' 59 0 s = hi 59 0 s) ∧ hi' 11 0 28 = hi 11 0 28
  | .inr u => PM hi' (vBg (vHw u)) ∧ hi' 11 0 28 = nI 0
theorem m_hunt (hT : ∀ i, i < n → isB (T i)) (ht : TM hi n T) : ∃ hi', fx_Ga (d + 8) 180 [mO] (hp σ hi hl) (some (vi (aHunt T n))) (hp σ hi' hl) ∧ HuP T n hi hi' := by
  have key : fx_E (fx_Ga (d + 7)) fx_M180 (0, [some mO, none], [], hp σ hi hl, 0, 0) (fun r2 h2 => r2 = some (vi (aHunt T n)) ∧ ∃ hi', h2 = hp σ hi' hl ∧ HuP T n hi hi') := by
    have loop1 : ∀ k i (hb : fxI3), i + k = 52 → FrI hi hb → hb 11 0 1 = nI n → hb 11 0 11 = nI 6 → (∀ x, x < i → hb 55 0 x = nI 0) → fx_E (fx_Ga (d + 7)) fx_M180 (8, [some mO, some (vi (nI i))], [], hp σ hb hl, 0, 0) (fun r2 h2 => r2 = some (vi (aHunt T n)) ∧ ∃ hi', h2 = hp σ hi' hl ∧ HuP T n hi hi') := by
      intro k
      induction k with
      | zero =>
        intro i hb hi2 g1 g2 g3 g4
        have : i = 52 := by omega
        subst this
        have htb : TM hb n T := ⟨ht.1, g2, fun i hi2 => (g1 50 0 i (by omega) (by omega) (by omega)).trans (ht.2.2 i hi2)⟩
        obtain ⟨r, h', hg, e⟩ := fx_methX (d := d + 6) (y := 178) (av := [mO]) (h := hp σ hb hl) (P := HaP σ hb hl (rdH T n 41 0 0 (fun _ => 0))) fx_M178 [some mO, none] (by decide) rfl rfl (Nat.le_of_ble_eq_true rfl) (m_readsH hT htb g3 g4)
        have hok := rdH_ok (T := T) (n := n) 41 0 0 (fun _ => 0) rfl (by decide) (Nat.zero_le _) HU_0
        refine fx_wpL [8, 27] 20 (pk_le 52 52 (fun _ => ?_) (fun h => by omega))
        unfold aHunt HuP
        cases hr : rdH T n 41 0 0 (fun _ => 0) with
        | inl f =>
          rw [hr] at e
          obtain ⟨e1, h3, e2, e3, e4, e5⟩ := e
          subst e1
          subst e2
          have F3 := g1.tr e3
          refine fx_wpE [] 30 ⟨_, _, hg, fun w => absurd rfl w, fun _ => ⟨?_, h3, rfl, fun k j s a1 a2 a3 a4 => F3 k j s (by omega) a2 a3, e4, fun s => F3 59 0 s (by omega) (by omega) (by omega), F3 11 0 28 (by omega) (by omega) (by omega)⟩⟩
          show some (vi (-2 - h3 11 0 9)) = _
          rw [e5]
        | inr u =>
          rw [hr] at e
          obtain ⟨e1, h3, e2, e3, e4, e5⟩ := e
          subst e1
          subst e2
          have F3 := g1.tr e3
          obtain ⟨c', c0, hu⟩ := hok.2 u hr
          have loop2 : ∀ k i (hb : fxI3), i + k = 83 → (∀ k j s, k ≠ 59 → hb k j s = h3 k j s) → (∀ x, x < i → hb 59 0 x = nI (vHw u x)) → fx_E (fx_Ga (d + 7)) fx_M180 (44, [some mO, some (vi (nI i))], [], hp σ hb hl, 0, 0) (fun r2 h2 => r2 = some (vi (nI (u 4))) ∧ ∃ hi', h2 = hp σ hi' hl ∧ FrJ hi hi' ∧ hi' 11 0 1 = 0 ∧ PM hi' (vBg (vHw u)) ∧ hi' 11 0 28 = nI 0) := by
            intro k
            induction k with
            | zero =>
              intro i hb hi2 q1 q2
              have : i = 83 := by omega
              subst this
              have hpm : PM hb (vHw u) := fun x hx => ⟨q2 x hx, by
                unfold vHw
                split
                · exact HU_lt hu (by assumption)
                · decide⟩
              obtain ⟨h4, hg4, o4, p4⟩ := m_begins (d := d + 6) (σ := σ) (hl := hl) hpm (fun i h6 => by
                unfold vHw
                rw [if_pos (by omega)]
                exact (hu.2.2.2.1 i h6).1)
              refine fx_wpL [44] 60 (pk_le 83 83 (fun _ => ⟨_, _, hg4, ni_inx (n := 4) (m := 83) rfl (by decide) (by decide), ?_, fx_up h4 11 0 28 0, rfl, fun k j s a1 a2 a3 a4 => ?_, ?_, ?_, up_at _ _ _ _ _⟩) (fun h => by omega))
              · show some (vi (h4 59 0 4)) = _
                rw [(p4 4 (by decide)).1]
                rfl
              · rw [up_off _ _ (by omega), o4 k j s a4, q1 k j s a4]
                exact F3 k j s (by omega) a2 a3
              · rw [up_off _ _ (by omega), o4 11 0 1 (by decide), q1 11 0 1 (by decide)]
                exact e4
              · exact fun x hx => ⟨(up_off _ _ (by omega)).trans (p4 x hx).1, (p4 x hx).2⟩
            | succ k ih =>
              intro i hb hi2 q1 q2
              have bd := ni_in (n := i) (m := 83) (by omega) (by decide)
              have nx : ∀ y : Int32, y = nI (vHw u i) → fx_E (fx_Ga (d + 7)) fx_M180 (44, [some mO, some (vi (nI (i + 1)))], [], hp σ (fx_up hb 59 0 (nI i).toNatClampNeg y) hl, 0, 0) (fun r2 h2 => r2 = some (vi (nI (u 4))) ∧ ∃ hi', h2 = hp σ hi' hl ∧ FrJ hi hi' ∧ hi' 11 0 1 = 0 ∧ PM hi' (vBg (vHw u)) ∧ hi' 11 0 28 = nI 0) := by
                intro y ey
                rw [nI_clamp (by omega)]
                refine ih (i + 1) _ (by omega) (fun k j s h => (up_off _ _ (by omega)).trans (q1 k j s h)) (fun x hx => ?_)
                by_cases e : x = i
                · subst e
                  rw [up_at, ey]
                · rw [up_off _ _ (by omega)]
                  exact q2 x (by omega)
              refine fx_wpL [44] 60 (pk_le 83 i (fun h => by omega) (fun _ => pk_le 52 i (fun h => ⟨bd, ?_⟩) (fun h => ⟨ni_in (n := i) (m := 52) h (by decide), bd, ?_⟩)))
              · have h2 := nx 0 (by unfold vHw; rw [if_neg (by omega)]; rfl)
                rw [← nI_1] at h2
                exact h2
              · have h2 := nx (hb 55 0 (nI i).toNatClampNeg) (by
                  rw [nI_clamp (by omega), q1 55 0 i (by decide), e5 i h]
                  unfold vHw
                  rw [if_pos h])
                rw [← nI_1] at h2
                exact h2
          exact fx_wpE [44] 30 ⟨_, _, hg, fun _ => loop2 83 0 h3 rfl (fun _ _ _ _ => rfl) (fun x hx => absurd hx (Nat.not_lt_zero _)), fun w => absurd (by decide) w⟩
      | succ k ih =>
        intro i hb hi2 g1 g2 g3 g4
        have h2 := ih (i + 1) (fx_up hb 55 0 i 0) (by omega) (g1.tr (FrI.up _ _ (by omega))) ((up_off _ _ (by omega)).trans g2) ((up_off _ _ (by omega)).trans g3) (fun x hx => by
          by_cases e : x = i
          · subst e
            rw [up_at]
            rfl
          · rw [up_off _ _ (by omega)]
            exact g4 x (by omega))
        rw [← nI_1] at h2
        conv at h2 => rw [show fx_up hb 55 0 i = fx_up hb 55 0 (nI i).toNatClampNeg by rw [nI_clamp (by omega)]]
        exact fx_wpL [8, 27] 40 (pk_le 52 i (fun h => by omega) (fun _ => ⟨ni_in (n := i) (m := 52) (by omega) (by decide), h2⟩))
    exact fx_wpE [8] 20 (loop1 52 0 (fx_up hi 11 0 11 6) rfl (FrI.up _ _ (by omega)) ((up_off _ _ (by omega)).trans ht.2.1) (up_at _ _ _ _ _) (fun x hx => absurd hx (Nat.not_lt_zero _)))
  obtain ⟨r, h', hg, e1, hi', e2, e3⟩ := fx_methX (d := d + 7) (y := 180) (av := [mO]) (h := hp σ hi hl) fx_M180 [some mO, none] (by decide) rfl rfl (Nat.le_of_ble_eq_true rfl) key
  subst e1
  subst e2
  exact ⟨hi', hg, e3⟩
end MI
