/-! the class' hunt -/
theorem tx_h : tx_k 0 = 6713208 ∧ tx_k 1 = 491394458994 ∧ tx_k 2 = 1734440037 := by decide +kernel
theorem tkd_2 {T : Nat → Int32} {n q : Nat} (hqn : q ≤ n) : (tkd T n q).1 = 2 ∧ q < n ∧ lx_L (T q) = true ∧ tkd T n q = (2, 0, lx_rn lx_L T n q) ∨ (tkd T n q).1 ≠ 2 ∧ lx_wk T n q = 0 := by
  have wk0 : lx_rn lx_L T n q = q → lx_wk T n q = 0 := fun h => by
    unfold lx_wk
    rw [h, Nat.sub_self, if_neg (by omega)]
  unfold tkd
  by_cases hq : q < n
  · rw [if_pos hq]
    by_cases hD : lx_D (T q) = true
    · rw [if_pos hD]
      refine Or.inr ⟨(by dsimp only; decide), wk0 (rn_no (fun _ => ?_))⟩
      obtain ⟨g, g1, g2, _⟩ := lx_D_of hD
      rw [g2]
      exact (by decide +kernel : ∀ g, g < 10 → lx_L (nI (48 + g)) = false) g g1
    · rw [if_neg hD]
      by_cases hL : lx_L (T q) = true
      · rw [if_pos hL]
        exact Or.inl ⟨rfl, hq, hL, rfl⟩
      · rw [if_neg hL]
        refine Or.inr ⟨?_, wk0 (rn_no (fun _ => Bool.eq_false_iff.mpr hL))⟩
        unfold mkd
        repeat' split
        all_goals (dsimp only; decide)
  · rw [if_neg hq]
    exact Or.inr ⟨(by dsimp only; decide), wk0 (rn_no (fun h => absurd h hq))⟩
section XI
variable {d : Nat} {σ : fxS} {hi : fxI3} {hl : fxL3} {n p q : Nat} {u : Nat → Nat} {T : Nat → Int32}
theorem x_isW (hs : SG hi 0 n T) (hqn : q ≤ n) (hk2 : TK hi 0 p q (tkd T n q)) {k w : Nat} (hk : k < 18) (hw : tx_k k = w) (h0 : 0 < w) : fx_Ga (d + 4) 77 [gO 0, uO k] (hp σ hi hl) (some (vi (b01 (decide (lx_wk T n q = w))))) (hp σ hi hl) := by
  rcases tkd_2 (T := T) hqn with ⟨h1, h2, h3, h4⟩ | ⟨h1, h2⟩
  · rw [h4] at hk2
    have h := x_isWord (d := d) (σ := σ) (hl := hl) hs h2 h3 hk2 hk
    rw [hw] at h
    have e : decide (0 < w ∧ lx_wk T n q = w) = decide (lx_wk T n q = w) := decide_eq_decide.mpr ⟨fun z => z.2, fun z => ⟨h0, z⟩⟩
    rw [e] at h
    exact h
  · have h := x_isWordNo (d := d + 2) (σ := σ) (hl := hl) hk2.2.1 h1 (tkd_10 T n q) hk
    rw [decide_eq_false (by omega)]
    exact h
theorem x_readFox (hs : HR hi hl n T p (fun _ => 0)) (hpn : p ≤ n) : QK (d + 5) 25 [hO] σ hi hl n T (vH3 T n p (fun _ => 0)) := by
  have c1 := x_num (d := d) (σ := σ) hs hpn (lo := 2) (mo := 60) (by decide) (by decide)
  refine QK_of (d := d + 4) fx_M25 [some hO, none, none, none] (by decide) rfl rfl (Nat.le_of_ble_eq_true rfl) ?_
  have h400 := hs.1.1
  unfold vH3
  obtain ⟨a1, a2⟩ := vNm_ok (T := T) (lo := 2) (mo := 60) hpn
  cases v1 : vNm T n p 2 60 with
  | inl f =>
    rw [v1] at c1
    obtain ⟨y, h1, g1, f1, e1⟩ := c1
    have hf := a1 f v1
    have z := fun lo mo => x_num0 (d := d + 3) (σ := σ) (hl := hl) e1 (by omega) (by omega) lo mo
    exact fx_wpE [] 60 ⟨_, _, g1, _, _, z _ _, _, _, z _ _, nn_eq f 0 (fun h => by omega) (fun _ => ⟨rfl, h1, hl, rfl, f1, FlK.rf _, e1⟩) e1⟩
  | inr y =>
    obtain ⟨p1, a⟩ := y
    rw [v1] at c1
    obtain ⟨h1, g1, f1, s1⟩ := c1
    obtain ⟨x1, x2, x3, x4⟩ := a2 p1 a v1
    have c2 := x_num (d := d) (σ := σ) s1 x2 (lo := 1) (mo := 9) (by decide) (by decide)
    obtain ⟨b1, b2⟩ := vNm_ok (T := T) (lo := 1) (mo := 9) x2
    dsimp only
    cases v2 : vNm T n p1 1 9 with
    | inl f =>
      rw [v2] at c2
      obtain ⟨y, h2, g2, f2, e2⟩ := c2
      have hf := b1 f v2
      have z := fun lo mo => x_num0 (d := d + 3) (σ := σ) (hl := hl) e2 (by omega) (by omega) lo mo
      exact fx_wpE [] 60 ⟨_, _, g1, _, _, g2, _, _, z _ _, nn_eq f 0 (fun h => by omega) (fun _ => ⟨rfl, h2, hl, rfl, f1.tr f2, FlK.rf _, e2⟩) e2⟩
    | inr y =>
      obtain ⟨p2, b⟩ := y
      rw [v2] at c2
      obtain ⟨h2, g2, f2, s2⟩ := c2
      obtain ⟨y1, y2, y3, y4⟩ := b2 p2 b v2
      have c3 := x_num (d := d) (σ := σ) s2 y2 (lo := 0) (mo := 9) (by decide) (by decide)
      obtain ⟨d1, d2⟩ := vNm_ok (T := T) (lo := 0) (mo := 9) y2
      dsimp only
      cases v3 : vNm T n p2 0 9 with
      | inl f =>
        rw [v3] at c3
        obtain ⟨y, h3, g3, f3, e3⟩ := c3
        have hf := d1 f v3
        exact fx_wpE [] 60 ⟨_, _, g1, _, _, g2, _, _, g3, nn_eq f 0 (fun h => by omega) (fun _ => ⟨rfl, h3, hl, rfl, (f1.tr f2).tr f3, FlK.rf _, e3⟩) e3⟩
      | inr y =>
        obtain ⟨p3, g⟩ := y
        rw [v3] at c3
        obtain ⟨h3, g3, f3, s3⟩ := c3
        obtain ⟨k1, k2, k3, k4⟩ := id s3
        obtain ⟨h4, l4, g4, o4, q4, t4⟩ := x_cbegin (d := d + 2) (σ := σ) (hi := h3) (hl := hl) a b g 1
        refine fx_wpE [] 60 ⟨_, _, g1, _, _, g2, _, _, g3, nn_eq 0 0 (fun _ => ⟨_, _, g4, rfl, h4, l4, rfl, ((f1.tr f2).tr f3).tr (fun k j s a1 a2 a3 => o4 k j s (by omega)), q4, ⟨k1.1, (o4 7 0 1 (by omega)).trans k1.2.1, fun i hi2 => (o4 20 0 i (by omega)).trans (k1.2.2 i hi2)⟩, (o4 7 0 2 (by omega)).trans k2, (o4 2 0 1 (by omega)).trans k3, t4⟩) (fun h => absurd rfl h) k3⟩
theorem x_readRider (hs : HR hi hl n T p u) (hpn : p ≤ n) (h4 : u 4 < 6) : QK (d + 5) 26 [hO] σ hi hl n T (vH2 T n p u) := by
  have c1 := x_num (d := d) (σ := σ) hs hpn (lo := 0) (mo := 99) (by decide) (by decide)
  refine QK_of (d := d + 4) fx_M26 [some hO, none, none] (by decide) rfl rfl (Nat.le_of_ble_eq_true rfl) ?_
  have h400 := hs.1.1
  unfold vH2
  obtain ⟨a1, a2⟩ := vNm_ok (T := T) (lo := 0) (mo := 99) hpn
  cases v1 : vNm T n p 0 99 with
  | inl f =>
    rw [v1] at c1
    obtain ⟨y, h1, g1, f1, e1⟩ := c1
    have hf := a1 f v1
    have z := fun lo mo => x_num0 (d := d + 3) (σ := σ) (hl := hl) e1 (by omega) (by omega) lo mo
    exact fx_wpE [] 60 ⟨_, _, g1, _, _, z _ _, nn_eq f 0 (fun h => by omega) (fun _ => ⟨rfl, h1, hl, rfl, f1, FlK.rf _, e1⟩) e1⟩
  | inr y =>
    obtain ⟨p1, a⟩ := y
    rw [v1] at c1
    obtain ⟨h1, g1, f1, s1⟩ := c1
    obtain ⟨x1, x2, x3, x4⟩ := a2 p1 a v1
    have c2 := x_num (d := d) (σ := σ) s1 x2 (lo := 1) (mo := 9) (by decide) (by decide)
    obtain ⟨b1, b2⟩ := vNm_ok (T := T) (lo := 1) (mo := 9) x2
    dsimp only
    cases v2 : vNm T n p1 1 9 with
    | inl f =>
      rw [v2] at c2
      obtain ⟨y, h2, g2, f2, e2⟩ := c2
      have hf := b1 f v2
      exact fx_wpE [] 60 ⟨_, _, g1, _, _, g2, nn_eq f 0 (fun h => by omega) (fun _ => ⟨rfl, h2, hl, rfl, f1.tr f2, FlK.rf _, e2⟩) e2⟩
    | inr y =>
      obtain ⟨p2, b⟩ := y
      rw [v2] at c2
      obtain ⟨h2, g2, f2, s2⟩ := c2
      obtain ⟨k1, k2, k3, k4⟩ := id s2
      obtain ⟨h3, g4, o4, t4⟩ := x_addRider (d := d + 3) (σ := σ) k4 h4 (a := a) (b := b) x4
      refine fx_wpE [] 60 ⟨_, _, g1, _, _, g2, nn_eq 0 0 (fun _ => ⟨_, _, g4, rfl, h3, hl, rfl, (f1.tr f2).tr (fun k j s a1 a2 a3 => o4 k j s (by omega)), FlK.rf _, ⟨k1.1, (o4 7 0 1 (by omega)).trans k1.2.1, fun i hi2 => (o4 20 0 i (by omega)).trans (k1.2.2 i hi2)⟩, (o4 7 0 2 (by omega)).trans k2, (o4 2 0 1 (by omega)).trans k3, t4⟩) (fun h => absurd rfl h) k3⟩
theorem x_readGate (hs : HR hi hl n T p u) (hpn : p ≤ n) (h1 : 2 ≤ u 1 ∧ u 1 ≤ 60) (h4 : u 4 ≤ 6) (h50 : u 50 < 2 ^ 30) (h51 : u 51 < 2 ^ 30) : QK (d + 5) 27 [hO] σ hi hl n T (vH1 T n p u) := by
  have c1 := x_num (d := d) (σ := σ) hs hpn (lo := 0) (mo := u 1 - 1) (by decide) (by omega)
  have e1 : (hi 1 0 0 - 1 : Int32) = nI (u 1 - 1) := by
    rw [hs.2.2.2.1.1]
    exact pk_sub (a := u 1) (b := 1) (by omega)
  rw [← e1] at c1
  refine QK_of (d := d + 4) fx_M27 [some hO, none] (by decide) rfl rfl (Nat.le_of_ble_eq_true rfl) ?_
  have h400 := hs.1.1
  unfold vH1
  obtain ⟨a1, a2⟩ := vNm_ok (T := T) (lo := 0) (mo := u 1 - 1) hpn
  cases v1 : vNm T n p 0 (u 1 - 1) with
  | inl f =>
    rw [v1] at c1
    obtain ⟨y, h1, g1, f1, e1⟩ := c1
    have hf := a1 f v1
    exact fx_wpE [] 60 ⟨_, _, g1, nn_eq f 0 (fun h => by omega) (fun _ => ⟨rfl, h1, hl, rfl, f1, FlK.rf _, e1⟩) e1⟩
  | inr y =>
    obtain ⟨p1, a⟩ := y
    rw [v1] at c1
    obtain ⟨h2, g1, f1, s1⟩ := c1
    obtain ⟨x1, x2, x3, x4⟩ := a2 p1 a v1
    obtain ⟨k1, k2, k3, k4⟩ := id s1
    obtain ⟨l3, g3, f3, t3⟩ := x_addGate (d := d + 3) (σ := σ) k4 h4 h50 h51 (g := a) (by omega)
    exact fx_wpE [] 60 ⟨_, _, g1, nn_eq 0 0 (fun _ => ⟨_, _, g3, rfl, h2, l3, rfl, f1, f3, k1, k2, k3, t3⟩) (fun h => absurd rfl h) k3⟩
end XI
