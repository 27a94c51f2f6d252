/-! the class' hunt: clauses, the reading, the call -/
theorem tkd_0 {T : Nat → Int32} {n q : Nat} : (tkd T n q).1 = 0 ↔ ¬ q < n := by
  unfold tkd
  by_cases hq : q < n
  · rw [if_pos hq]
    refine ⟨fun h => ?_, fun h => absurd hq h⟩
    exfalso
    revert h
    split
    · (dsimp only; decide)
    · split
      · (dsimp only; decide)
      · unfold mkd
        repeat' split
        all_goals (dsimp only; decide)
  · rw [if_neg hq]
    exact ⟨fun _ => hq, fun _ => rfl⟩
theorem tkd_59 {T : Nat → Int32} {n q : Nat} (hq : q < n) (h : T q = nI 59) : tkd T n q = (4, 0, q + 1) := by
  unfold tkd
  rw [if_pos hq, if_neg (by rw [h]; decide), if_neg (by rw [h]; decide)]
  unfold mkd
  rw [if_pos h]
theorem tkd_4 {T : Nat → Int32} {n q : Nat} (h : ¬ (q < n ∧ T q = nI 59)) : (tkd T n q).1 ≠ 4 := by
  unfold tkd
  by_cases hq : q < n
  · rw [if_pos hq]
    split
    · (dsimp only; decide)
    · split
      · (dsimp only; decide)
      · unfold mkd
        rw [if_neg (fun z => h ⟨hq, z⟩)]
        repeat' split
        all_goals (dsimp only; decide)
  · rw [if_neg hq]
    (dsimp only; decide)
section XJ
variable {d : Nat} {σ : fxS} {hi : fxI3} {hl : fxL3} {n p q : Nat} {u : Nat → Nat} {T : Nat → Int32}
set_option maxHeartbeats 4000000 in
theorem x_hclause (hs : HR hi hl n T p u) (hpn : p ≤ n) {c : Nat} (hc : c ≤ 40) (hu : HU c u) : QK (d + 6) 24 [hO, vi (nI c)] σ hi hl n T (vHc T n p c u) := by
  obtain ⟨s1, s2, s3, s4⟩ := id hs
  have h400 := s1.1
  obtain ⟨h2, g2, f2, k2⟩ := x_read (d := d + 2) (σ := σ) (hl := hl) s1 s2 hpn
  have hqn : lx_rn lx_S T n p ≤ n := rn_le hpn
  unfold vHc
  generalize lx_rn lx_S T n p = q at k2 hqn ⊢
  obtain ⟨t2, t3, t4, t5⟩ := id k2
  have sg2 := s1.fr f2
  have F2 : FrK hi h2 := f2.k
  have z1 : h2 2 0 1 = 0 := (f2 2 0 1 (by omega)).trans s3
  have td : TD h2 hl u := s4.fr (fun s => f2 1 0 s (by omega)) (fun k s hk => f2 k 0 s (by omega)) rfl
  have r4 : h2 1 0 3 = nI (u 4) := td.1.2.2.2.1
  have h46 := hu.2.2.1
  have w0 := x_isW (d := d + 1) (σ := σ) (hl := hl) sg2 hqn k2 (k := 0) (by decide) tx_h.1 (by decide)
  have w1 := x_isW (d := d + 1) (σ := σ) (hl := hl) sg2 hqn k2 (k := 1) (by decide) tx_h.2.1 (by decide)
  have w2 := x_isW (d := d + 1) (σ := σ) (hl := hl) sg2 hqn k2 (k := 2) (by decide) tx_h.2.2 (by decide)
  have fh := fun k => x_faultHere (d := d + 4) (σ := σ) (hl := hl) t4 k
  have nx : lx_wk T n q ≠ 0 → HR h2 hl n T (lx_rn lx_L T n q) u := fun hw => by
    rcases tkd_2 (T := T) hqn with ⟨_, _, _, e⟩ | ⟨_, e⟩
    · rw [e] at t2
      exact ⟨sg2, t2, z1, td⟩
    · exact absurd e hw
  have t1 : lx_rn lx_L T n q ≤ n := rn_le hqn
  have ans : ∀ (y : Nat) (av : List fxV) (res : fxQh), QK (d + 5) y av σ h2 hl n T res → ∃ hi' hl', fx_Ga (d + 5) y av (hp σ h2 hl) none (hp σ hi' hl') ∧ QKP σ hi hl n T res none (hp σ hi' hl') := by
    intro y av res h
    match res, h with
    | .inl f, ⟨hi', hl', hg, f1, f3, e1⟩ => exact ⟨hi', hl', hg, rfl, hi', hl', rfl, F2.tr f1, f3, e1⟩
    | .inr (p', u'), ⟨hi', hl', hg, f1, f3, e1⟩ => exact ⟨hi', hl', hg, rfl, hi', hl', rfl, F2.tr f1, f3, e1⟩
  refine QK_of (d := d + 5) fx_M24 [some hO, some (vi (nI c)), none, none, none, none] (by decide) rfl rfl (Nat.le_of_ble_eq_true rfl) ?_
  have at103 : ∀ x2 x3 x4 x5 : Int32, fx_E (fx_Ga (d + 5)) fx_M24 (103, [some hO, some (vi (nI c)), some (vi x2), some (vi x3), some (vi x4), some (vi x5)], [], hp σ h2 hl, 0, 0) (QKP σ hi hl n T (.inl (5 + 8 * q))) := fun x2 x3 x4 x5 => fx_wpE [] 30 ⟨_, _, fh 4, rfl, _, hl, rfl, F2.tr (FrK.up _ _ (by omega)), FlK.rf _, by rw [up_at, show 1 + 8 * q + 4 = 5 + 8 * q by omega]⟩
  have st : ∀ {x2 x3 x4 : Int32} {res : fxQh}, fx_Ga (d + 5) 77 [gO 0, uO 0] (hp σ h2 hl) (some (vi x2)) (hp σ h2 hl) → fx_Ga (d + 5) 77 [gO 0, uO 1] (hp σ h2 hl) (some (vi x3)) (hp σ h2 hl) → fx_Ga (d + 5) 77 [gO 0, uO 2] (hp σ h2 hl) (some (vi x4)) (hp σ h2 hl) → fx_E (fx_Ga (d + 5)) fx_M24 (38, [some hO, some (vi (nI c)), some (vi x2), some (vi x3), some (vi x4), none], [], hp σ h2 hl, 0, 0) (QKP σ hi hl n T res) → fx_E (fx_Ga (d + 5)) fx_M24 (0, [some hO, some (vi (nI c)), none, none, none, none], [], hp σ hi hl, 0, 0) (QKP σ hi hl n T res) := fun a0 a1 a2 k => fx_wpE [38] 40 ⟨_, _, g2, _, _, a0, _, _, a1, _, _, a2, k⟩
  by_cases hW : lx_wk T n q = 6713208 ∨ lx_wk T n q = 491394458994 ∨ lx_wk T n q = 1734440037
  · rw [if_pos hW]
    unfold vHl
    by_cases a0 : lx_wk T n q = 6713208
    · rw [decide_eq_true a0] at w0
      rw [decide_eq_false (by omega)] at w1 w2
      rw [if_pos a0]
      by_cases c0 : c = 0
      · have hu0 := hu.1 c0
        subst hu0
        rw [if_neg (by omega), if_neg (by decide)]
        obtain ⟨h3, l3, g3, q3⟩ := ans 25 [hO] _ (x_readFox (d := d) (σ := σ) (nx (by omega)) t1)
        exact st w0 w1 w2 (fx_wpE [103] 60 ⟨fun _ => nn_eq c 0 (fun _ => ⟨fun w => absurd rfl w, fun _ => pk_le 40 c (fun h => by omega) (fun _ => ⟨fun _ => ⟨fun w => absurd w (by decide), fun _ => ⟨_, _, g3, q3⟩⟩, fun w => absurd rfl w⟩)⟩) (fun h => absurd c0 h), fun w => absurd (by decide) w⟩)
      · have u0 := (hu.2.1 (by omega)).1
        have e : (if c = 40 then (Sum.inl (5 + 8 * q) : fxQh) else if 0 < u 0 then .inl (5 + 8 * q) else vH3 T n (lx_rn lx_L T n q) u) = .inl (5 + 8 * q) := by
          rw [if_pos (show 0 < u 0 by omega)]
          split <;> rfl
        rw [e]
        exact st w0 w1 w2 (fx_wpE [103] 60 ⟨fun _ => nn_eq c 0 (fun h => absurd h c0) (fun _ => ⟨fun _ => at103 _ _ _ _, fun w => absurd (by decide) w⟩), fun w => absurd (by decide) w⟩)
    · rw [decide_eq_false a0] at w0
      rw [if_neg a0]
      by_cases c0 : c = 0
      · have hu0 := hu.1 c0
        subst hu0
        rw [if_neg (show ¬ c = 40 by omega), if_pos rfl]
        by_cases a1 : lx_wk T n q = 491394458994
        · rw [decide_eq_true a1] at w1
          exact st w0 w1 w2 (fx_wpE [103] 60 ⟨fun w => absurd rfl w, fun _ => ⟨fun _ => nn_eq c 0 (fun _ => ⟨fun _ => at103 _ _ _ _, fun w => absurd (by decide) w⟩) (fun h => absurd c0 h), fun w => absurd (by decide) w⟩⟩)
        · rw [decide_eq_false a1] at w1
          rw [decide_eq_true (by omega)] at w2
          exact st w0 w1 w2 (fx_wpE [103] 60 ⟨fun w => absurd rfl w, fun _ => ⟨fun w => absurd rfl w, fun _ => ⟨fun _ => nn_eq c 0 (fun _ => ⟨fun _ => at103 _ _ _ _, fun w => absurd (by decide) w⟩) (fun h => absurd c0 h), fun w => absurd (by decide) w⟩⟩⟩)
      · have u1 := hu.2.1 (by omega)
        rw [if_neg (show ¬ u 0 = 0 by omega)]
        by_cases c40 : c = 40
        · rw [if_pos c40]
          by_cases a1 : lx_wk T n q = 491394458994
          · rw [decide_eq_true a1] at w1
            exact st w0 w1 w2 (fx_wpE [103] 60 ⟨fun w => absurd rfl w, fun _ => ⟨fun _ => nn_eq c 0 (fun h => absurd h c0) (fun _ => ⟨fun w => absurd rfl w, fun _ => pk_le 40 c (fun _ => at103 _ _ _ _) (fun h => by omega)⟩), fun w => absurd (by decide) w⟩⟩)
          · rw [decide_eq_false a1] at w1
            rw [decide_eq_true (by omega)] at w2
            exact st w0 w1 w2 (fx_wpE [103] 60 ⟨fun w => absurd rfl w, fun _ => ⟨fun w => absurd rfl w, fun _ => ⟨fun _ => nn_eq c 0 (fun h => absurd h c0) (fun _ => ⟨fun w => absurd rfl w, fun _ => pk_le 40 c (fun _ => at103 _ _ _ _) (fun h => by omega)⟩), fun w => absurd (by decide) w⟩⟩⟩)
        · rw [if_neg c40]
          by_cases a1 : lx_wk T n q = 491394458994
          · rw [decide_eq_true a1] at w1
            rw [decide_eq_false (by omega)] at w2
            rw [if_pos a1]
            by_cases r6 : u 4 = 6
            · rw [if_pos r6]
              exact st w0 w1 w2 (fx_wpE [103] 60 ⟨fun w => absurd rfl w, fun _ => ⟨fun _ => nn_eq c 0 (fun h => absurd h c0) (fun _ => ⟨fun w => absurd rfl w, fun _ => pk_le 40 c (fun h => by omega) (fun _ => ⟨fun w => absurd w (by decide), fun _ => pk_lt (u 4) 6 (fun h => by omega) (fun _ => at103 _ _ _ _) r4⟩)⟩), fun w => absurd (by decide) w⟩⟩)
            · rw [if_neg r6]
              obtain ⟨h3, l3, g3, q3⟩ := ans 26 [hO] _ (x_readRider (d := d) (σ := σ) (nx (by omega)) t1 (by omega))
              exact st w0 w1 w2 (fx_wpE [103] 60 ⟨fun w => absurd rfl w, fun _ => ⟨fun _ => nn_eq c 0 (fun h => absurd h c0) (fun _ => ⟨fun w => absurd rfl w, fun _ => pk_le 40 c (fun h => by omega) (fun _ => ⟨fun w => absurd w (by decide), fun _ => pk_lt (u 4) 6 (fun _ => ⟨fun _ => ⟨fun w => absurd w (by decide), fun _ => ⟨_, _, g3, q3⟩⟩, fun w => absurd rfl w⟩) (fun h => by omega) r4⟩)⟩), fun w => absurd (by decide) w⟩⟩)
          · rw [decide_eq_false a1] at w1
            rw [decide_eq_true (by omega)] at w2
            rw [if_neg a1]
            obtain ⟨h3, l3, g3, q3⟩ := ans 27 [hO] _ (x_readGate (d := d) (σ := σ) (nx (by omega)) t1 ⟨u1.2.1, u1.2.2.1⟩ h46 hu.2.2.2.2.1 hu.2.2.2.2.2.1)
            exact st w0 w1 w2 (fx_wpE [103] 60 ⟨fun w => absurd rfl w, fun _ => ⟨fun w => absurd rfl w, fun _ => ⟨fun _ => nn_eq c 0 (fun h => absurd h c0) (fun _ => ⟨fun w => absurd rfl w, fun _ => pk_le 40 c (fun h => by omega) (fun _ => ⟨fun _ => ⟨fun _ => ⟨fun _ => ⟨_, _, g3, q3⟩, fun w => absurd rfl w⟩, fun w => absurd rfl w⟩, fun w => absurd rfl w⟩)⟩), fun w => absurd (by decide) w⟩⟩⟩)
  · rw [if_neg hW]
    rw [decide_eq_false (by omega)] at w0 w1 w2
    exact st w0 w1 w2 (fx_wpE [103] 60 ⟨fun w => absurd rfl w, fun _ => ⟨fun w => absurd rfl w, fun _ => ⟨fun w => absurd rfl w, fun _ => ⟨_, _, fh 0, rfl, _, hl, rfl, F2.tr (FrK.up _ _ (by omega)), FlK.rf _, up_at _ _ _ _ _⟩⟩⟩⟩)
def HbP (σ : fxS) (hi : fxI3) (hl : fxL3) (res : Nat ⊕ (Nat → Nat)) : Option fxV → fxH → Prop := fun r2 h2 => match res with
  | .inl f => r2 = some (vi (nI f)) ∧ ∃ hi' hl', h2 = hp σ hi' hl' ∧ FrK hi hi' ∧ FlK hl hl'
  | .inr u => r2 = some (vi 0) ∧ ∃ hi' hl', h2 = hp σ hi' hl' ∧ FrK hi hi' ∧ FlK hl hl' ∧ TD hi' hl' u
theorem x_hread (hn : n ≤ 400) (hT : ∀ i, i < n → hi 20 0 i = T i) : fx_E (fx_Ga (d + 6)) fx_M23 (0, [some hO, some (vi (nI n)), none], [], hp σ hi hl, 0, 0) (HbP σ hi hl (rdH T n 41 0 0 (fun _ => 0))) := by
  have loop : ∀ k c p u (hb : fxI3) (hlb : fxL3), c + k = 41 → c ≤ 40 → p ≤ n → HU c u → FrK hi hb → FlK hl hlb → HR hb hlb n T p u → fx_E (fx_Ga (d + 6)) fx_M23 (25, [some hO, some (vi (nI n)), some (vi (nI c))], [], hp σ hb hlb, 0, 0) (HbP σ hi hl (rdH T n k c p u)) := by
    intro k
    induction k with
    | zero =>
      intro c p u hb hlb hk hc
      omega
    | succ k ih =>
      intro c p u hb hlb hk hc hpn hu g1 g2 hs
      have hcl := x_hclause (d := d) (σ := σ) hs hpn hc hu
      have hok := vHc_ok (T := T) hpn hu
      unfold rdH
      cases hv : vHc T n p c u with
      | inl f =>
        rw [hv] at hcl
        obtain ⟨h3, l3, g3, f3, q3, e3⟩ := hcl
        have hf := hok.1 f hv
        refine fx_wpL [25] 60 (pk_lt 40 c (fun h => by omega) (fun _ => ⟨_, _, g3, pk_eq f 0 (fun h => by omega) (fun _ => ⟨?_, h3, l3, rfl, g1.tr f3, g2.tr q3⟩) e3⟩))
        show some (vi (h3 2 0 1)) = _
        rw [e3]
      | inr y =>
        obtain ⟨p1, u1⟩ := y
        rw [hv] at hcl
        obtain ⟨h3, l3, g3, f3, q3, s3⟩ := hcl
        obtain ⟨b1, b2, b3, b4⟩ := hok.2 p1 u1 hv
        obtain ⟨k1, k2, k3, k4⟩ := id s3
        obtain ⟨h4, g4, f4, t4⟩ := x_read (d := d + 3) (σ := σ) (hl := l3) k1 k2 b2
        have hqn : lx_rn lx_S T n p1 ≤ n := rn_le b2
        dsimp only
        unfold vHx
        generalize lx_rn lx_S T n p1 = q at t4 hqn ⊢
        obtain ⟨y2, y3, y4, y5⟩ := id t4
        have td : TD h4 l3 u1 := k4.fr (fun s => f4 1 0 s (by omega)) (fun k s hk => f4 k 0 s (by omega)) rfl
        have FF : FrK hi h4 := (g1.tr f3).tr f4.k
        have b10 := tkd_10 T n q
        have k0 : h3 2 0 1 = nI 0 := k3
        by_cases hB : q < n ∧ T q = nI 59
        · rw [if_pos hB]
          have et := tkd_59 hB.1 hB.2
          rw [et] at y2 y3
          have h5 := ih (c + 1) (q + 1) u1 h4 l3 (by omega) (by omega) (by omega) b4 FF (g2.tr q3) ⟨k1.fr f4, y2, (f4 2 0 1 (by omega)).trans k3, td⟩
          rw [← nI_1] at h5
          exact fx_wpL [25] 60 (pk_lt 40 c (fun h => by omega) (fun _ => ⟨_, _, g3, pk_eq 0 0 (fun _ => ⟨_, _, g4, nn_eq 4 0 (fun h => by omega) (fun _ => pk_eq 4 4 (fun _ => h5) (fun h => absurd rfl h) y3) y3⟩) (fun h => absurd rfl h) k0⟩))
        · rw [if_neg hB]
          have n4 := tkd_4 hB
          have fh := x_faultHere (d := d + 5) (σ := σ) (hl := l3) y4 0
          by_cases hq : q < n
          · rw [if_pos hq]
            have n0 : (tkd T n q).1 ≠ 0 := fun z => tkd_0.mp z hq
            exact fx_wpL [25] 60 (pk_lt 40 c (fun h => by omega) (fun _ => ⟨_, _, g3, pk_eq 0 0 (fun _ => ⟨_, _, g4, nn_eq (tkd T n q).1 0 (fun h => absurd h n0) (fun _ => pk_eq (tkd T n q).1 4 (fun h => absurd h n4) (fun _ => ⟨_, _, fh, rfl, h4, l3, rfl, FF, g2.tr q3⟩) y3) y3⟩) (fun h => absurd rfl h) k0⟩))
          · rw [if_neg hq]
            have n0 : (tkd T n q).1 = 0 := tkd_0.mpr hq
            exact fx_wpL [25] 60 (pk_lt 40 c (fun h => by omega) (fun _ => ⟨_, _, g3, pk_eq 0 0 (fun _ => ⟨_, _, g4, nn_eq (tkd T n q).1 0 (fun _ => ⟨rfl, h4, l3, rfl, FF, g2.tr q3, td⟩) (fun h => absurd n0 h) y3⟩) (fun h => absurd rfl h) k0⟩))
  have hb := x_begin (d := d + 5) (σ := σ) (hi := hi) (hl := hl) (j := 0) hn
  generalize hh : fx_up (fx_up (fx_up hi 7 0 1 (nI n)) 7 0 2 0) 2 0 1 0 = h2
  have F2 : FrK hi h2 := by
    rw [← hh]
    exact ((FrK.up hi _ (by omega)).tr (FrK.up _ _ (by omega))).tr (FrK.up _ _ (by omega))
  obtain ⟨h3, l3, g3, o3, q3, t3⟩ := x_cbegin (d := d + 4) (σ := σ) (hi := h2) (hl := hl) 0 0 0 0
  have et : vup (vup (vup (vup (fun _ => 0) 1 0) 2 0) 3 0) 0 0 = (fun _ => 0 : Nat → Nat) := by
    funext x
    unfold vup
    repeat' split
    all_goals rfl
  rw [et] at t3
  have st13 : fx_E (fx_Ga (d + 6)) fx_M23 (13, [some hO, some (vi (nI n)), none], [], hp σ h2 hl, 0, 0) (HbP σ hi hl (rdH T n 41 0 0 (fun _ => 0))) := by
    refine fx_wpE [25] 30 ⟨_, _, g3, loop 41 0 0 (fun _ => 0) h3 l3 rfl (by decide) (Nat.zero_le _) HU_0 (F2.tr (fun k j s a1 a2 a3 => o3 k j s (by omega))) q3 ⟨⟨hn, ?_, fun i hi2 => ?_⟩, ?_, ?_, t3⟩⟩
    · rw [o3 7 0 1 (by omega), ← hh]
      rfl
    · rw [o3 20 0 i (by omega), ← hh, up_off _ _ (by omega), up_off _ _ (by omega), up_off _ _ (by omega)]
      exact hT i hi2
    · rw [o3 7 0 2 (by omega), ← hh]
      rfl
    · rw [o3 2 0 1 (by omega), ← hh]
      rfl
  rw [← hh] at st13
  exact fx_wpE [13] 30 ⟨_, _, hb, st13⟩
def FrL (hi hi' : fxI3) : Prop := ∀ k j s, ¬ (k = 7 ∧ j = 0) → k ≠ 2 → ¬ ((k = 1 ∨ 21 ≤ k ∧ k ≤ 24) ∧ j ≤ 2) → ¬ (k = 10 ∧ s = 1) → ¬ (k = 3 ∧ j = 0) → ¬ (k = 0 ∧ s = 2) → hi' k j s = hi k j s
def FlL (hl hl' : fxL3) : Prop := ∀ k j s, ¬ (k = 1 ∧ j ≤ 2) → hl' k j s = hl k j s
def HxP (T : Nat → Int32) (n : Nat) (hi hi' : fxI3) (hl hl' : fxL3) : Prop := FrL hi hi' ∧ FlL hl hl' ∧ hi' 10 0 1 = 0 ∧ match rdH T n 41 0 0 (fun _ => 0) with
  | .inl _ => (∀ k j s, ¬ (k = 7 ∧ j = 0) → k ≠ 2 → ¬ ((k = 1 ∨ 21 ≤ k ∧ k ≤ 24) ∧ j = 0) → ¬ (k = 10 ∧ s = 1) → hi' k j s = hi k j s) ∧ FlK hl hl'
  | .inr u => PX hi' hl' 1 (vBg u) ∧ PX hi' hl' 2 (vBg u) ∧ hi' 3 0 0 = 0 ∧ hi' 0 0 2 = 0
theorem x_hunt (hn : n ≤ 400) (ht : TP hi n T) : ∃ hi' hl', fx_Ga (d + 8) 90 [xO] (hp σ hi hl) (some (vi (aHunt T n))) (hp σ hi' hl') ∧ HxP T n hi hi' hl hl' := by
  obtain ⟨r, h', hg, e⟩ := fx_methX (d := d + 6) (y := 23) (av := [hO, vi (nI n)]) (h := hp σ hi hl) (P := HbP σ hi hl (rdH T n 41 0 0 (fun _ => 0))) fx_M23 [some hO, some (vi (nI n)), none] (by decide) rfl rfl (Nat.le_of_ble_eq_true rfl) (x_hread hn ht.2)
  have e1 := ht.1
  rw [← e1] at hg
  have hok := rdH_ok (T := T) (n := n) 41 0 0 (fun _ => 0) rfl (by decide) (Nat.zero_le _) HU_0
  have key : fx_E (fx_Ga (d + 7)) fx_M90 (0, [some xO, none], [], hp σ hi hl, 0, 0) (fun r2 h2 => r2 = some (vi (aHunt T n)) ∧ ∃ hi' hl', h2 = hp σ hi' hl' ∧ HxP T n hi hi' hl hl') := by
    unfold aHunt HxP
    cases hr : rdH T n 41 0 0 (fun _ => 0) with
    | inl f =>
      rw [hr] at e
      obtain ⟨e1, h3, l3, e2, e3, e4⟩ := e
      subst e1
      subst e2
      have hf := hok.1 f hr
      exact fx_wpE [] 40 ⟨_, _, hg, pk_eq f 0 (fun h => by omega) (fun _ => ⟨rfl, fx_up h3 10 0 1 0, l3, rfl, fun k j s a1 a2 a3 a4 a5 a6 => (up_off _ _ (by omega)).trans (e3 k j s (by omega) a2 (by omega)), fun k j s a => e4 k j s (by omega), up_at _ _ _ _ _, fun k j s a1 a2 a3 a4 => (up_off _ _ (by omega)).trans (e3 k j s (by omega) a2 a3), e4⟩)⟩
    | inr u =>
      rw [hr] at e
      obtain ⟨e1, h3, l3, e2, e3, e4, td⟩ := e
      subst e1
      subst e2
      obtain ⟨c', c0, hu⟩ := hok.2 u hr
      have h46 : vBg u 4 ≤ 6 := hu.2.2.1
      have p0 : PX (fx_up h3 10 0 1 0) l3 0 (vBg u) := td.1.fr (fun s => up_off _ _ (by omega)) (fun k s hk => up_off _ _ (by omega)) rfl
      obtain ⟨h4, l4, g4, o4, q4, p4⟩ := x_copyFrom (d := d + 6) (σ := σ) (a := 1) (b := 0) (by decide) p0 h46
      have p0' : PX h4 l4 0 (vBg u) := p0.fr (fun s => o4 1 0 s (by omega)) (fun k s hk => o4 k 0 s (by omega)) (q4 1 0 6 (by omega))
      obtain ⟨h5, l5, g5, o5, q5, p5⟩ := x_copyFrom (d := d + 6) (σ := σ) (a := 2) (b := 0) (by decide) p0' h46
      have g6 : fx_Ga (d + 7) 30 [nO 0] (hp σ h5 l5) none (hp σ (fx_up h5 3 0 0 0) l5) := fx_meth fx_M30 [some (nO 0)] (by decide) rfl rfl (Nat.le_of_ble_eq_true rfl) (fx_wpE [] 20 ⟨rfl, rfl⟩)
      have g7 : fx_Ga (d + 7) 1 [kO] (hp σ (fx_up h5 3 0 0 0) l5) none (hp σ (fx_up (fx_up h5 3 0 0 0) 0 0 2 0) l5) := fx_meth fx_M1 [some kO] (by decide) rfl rfl (Nat.le_of_ble_eq_true rfl) (fx_wpE [] 20 ⟨rfl, rfl⟩)
      have off : ∀ k j s, ¬ (k = 3 ∧ j = 0) → ¬ (k = 0 ∧ s = 2) → fx_up (fx_up h5 3 0 0 0) 0 0 2 0 k j s = h5 k j s := fun k j s a b => by rw [up_off _ _ (by omega), up_off _ _ (by omega)]
      refine fx_wpE [] 60 ⟨_, _, hg, pk_eq 0 0 (fun _ => ⟨_, _, g4, _, _, g5, _, _, g6, _, _, g7, ?_, fx_up (fx_up h5 3 0 0 0) 0 0 2 0, l5, rfl, fun k j s a1 a2 a3 a4 a5 a6 => ?_, fun k j s a => ?_, ?_, ?_, ?_, ?_, up_at _ _ _ _ _⟩) (fun h => absurd rfl h)⟩
      · show some (vi (fx_up (fx_up h5 3 0 0 0) 0 0 2 0 1 2 3)) = _
        rw [off 1 2 3 (by omega) (by omega), p5.2.2.2.1]
        rfl
      · rw [off k j s a5 a6, o5 k j s (by omega), o4 k j s (by omega), up_off _ _ (by omega)]
        exact e3 k j s (by omega) a2 (by omega)
      · rw [q5 k j s (by omega), q4 k j s (by omega)]
        exact e4 k j s (by omega)
      · rw [off 10 0 1 (by omega) (by omega), o5 10 0 1 (by omega), o4 10 0 1 (by omega), up_at]
      · exact (p4.fr (fun s => o5 1 1 s (by omega)) (fun k s hk => o5 k 1 s (by omega)) (q5 1 1 6 (by omega))).fr (fun s => off 1 1 s (by omega) (by omega)) (fun k s hk => off k 1 s (by omega) (by omega)) rfl
      · exact p5.fr (fun s => off 1 2 s (by omega) (by omega)) (fun k s hk => off k 2 s (by omega) (by omega)) rfl
      · rw [up_off _ _ (by omega), up_at]
  obtain ⟨r2, h2, hg2, e1, hi', hl', e2, e3⟩ := fx_methX (d := d + 7) (y := 90) (av := [xO]) (h := hp σ hi hl) fx_M90 [some xO, none] (by decide) rfl rfl (Nat.le_of_ble_eq_true rfl) key
  subst e1
  subst e2
  exact ⟨hi', hl', hg2, e3⟩
end XJ
