/-! a hunt's text: what it says -/
/-- fault, or place and the row that is read -/
abbrev fxQh : Type := Nat ⊕ (Nat × (Nat → Nat))
/-- a number: fault, or where it ends, and which -/
def vNm (T : Nat → Int32) (n p lo mo : Nat) : Nat ⊕ (Nat × Nat) := if lx_rn lx_S T n p < n ∧ lx_D (T (lx_rn lx_S T n p)) = true then (if lx_rn lx_D T n (lx_rn lx_S T n p) - lx_rn lx_S T n p ≤ 5 ∧ (lo ≤ lx_nv T (lx_rn lx_S T n p) (lx_rn lx_D T n (lx_rn lx_S T n p) - lx_rn lx_S T n p) ∧ lx_nv T (lx_rn lx_S T n p) (lx_rn lx_D T n (lx_rn lx_S T n p) - lx_rn lx_S T n p) ≤ mo) then .inr (lx_rn lx_D T n (lx_rn lx_S T n p), lx_nv T (lx_rn lx_S T n p) (lx_rn lx_D T n (lx_rn lx_S T n p) - lx_rn lx_S T n p)) else .inl (2 + 8 * lx_rn lx_S T n p)) else .inl (1 + 8 * lx_rn lx_S T n p)
def vH3 (T : Nat → Int32) (n p : Nat) (u : Nat → Nat) : fxQh := match vNm T n p 2 60 with
  | .inl f => .inl f
  | .inr (p1, a) => match vNm T n p1 1 9 with
    | .inl f => .inl f
    | .inr (p2, b) => match vNm T n p2 0 9 with
      | .inl f => .inl f
      | .inr (p3, c) => .inr (p3, vup (vup (vup (vup u 1 a) 2 b) 3 c) 0 1)
def vH2 (T : Nat → Int32) (n p : Nat) (u : Nat → Nat) : fxQh := match vNm T n p 0 99 with
  | .inl f => .inl f
  | .inr (p1, a) => match vNm T n p1 1 9 with
    | .inl f => .inl f
    | .inr (p2, b) => .inr (p2, vup (vup (vup u (38 + u 4) a) (44 + u 4) b) 4 (u 4 + 1))
def vOg (u : Nat → Nat) (g : Nat) : Nat → Nat := vup u (50 + g / 30) (u (50 + g / 30) ||| 2 ^ (g % 30))
def vH1 (T : Nat → Int32) (n p : Nat) (u : Nat → Nat) : fxQh := match vNm T n p 0 (u 1 - 1) with
  | .inl f => .inl f
  | .inr (p1, a) => .inr (p1, vOg u a)
def vHl (T : Nat → Int32) (n q : Nat) (u : Nat → Nat) : fxQh := if lx_wk T n q = 6713208 then (if 0 < u 0 then .inl (5 + 8 * q) else vH3 T n (lx_rn lx_L T n q) u) else if u 0 = 0 then .inl (5 + 8 * q) else if lx_wk T n q = 491394458994 then (if u 4 = 6 then .inl (5 + 8 * q) else vH2 T n (lx_rn lx_L T n q) u) else vH1 T n (lx_rn lx_L T n q) u
def vHc (T : Nat → Int32) (n p c : Nat) (u : Nat → Nat) : fxQh := if lx_wk T n (lx_rn lx_S T n p) = 6713208 ∨ lx_wk T n (lx_rn lx_S T n p) = 491394458994 ∨ lx_wk T n (lx_rn lx_S T n p) = 1734440037 then (if c = 40 then .inl (5 + 8 * lx_rn lx_S T n p) else vHl T n (lx_rn lx_S T n p) u) else .inl (1 + 8 * lx_rn lx_S T n p)
def vHx (T : Nat → Int32) (n : Nat) (K : Nat → (Nat → Nat) → Nat ⊕ (Nat → Nat)) (p1 : Nat) (u1 : Nat → Nat) : Nat ⊕ (Nat → Nat) := if lx_rn lx_S T n p1 < n ∧ T (lx_rn lx_S T n p1) = nI 59 then K (lx_rn lx_S T n p1 + 1) u1 else if lx_rn lx_S T n p1 < n then .inl (1 + 8 * lx_rn lx_S T n p1) else .inr u1
def rdH (T : Nat → Int32) (n : Nat) : Nat → Nat → Nat → (Nat → Nat) → Nat ⊕ (Nat → Nat)
  | 0, _, _, _ => .inl 0
  | k + 1, c, p, u => match vHc T n p c u with
    | .inl f => .inl f
    | .inr (p1, u1) => vHx T n (rdH T n k (c + 1)) p1 u1
/-- what holds of the row that is read -/
def HU (c : Nat) (u : Nat → Nat) : Prop := (c = 0 → u = fun _ => 0) ∧ (0 < c → u 0 = 1 ∧ 2 ≤ u 1 ∧ u 1 ≤ 60 ∧ u 2 ≤ 9 ∧ u 3 ≤ 9) ∧ u 4 ≤ 6 ∧ (∀ i, i < 6 → u (38 + i) ≤ 99 ∧ u (44 + i) ≤ 9) ∧ u 50 < 2 ^ 30 ∧ u 51 < 2 ^ 30 ∧ (∀ f, f < 60 → (u (50 + f / 30)).testBit (f % 30) = true → f < u 1) ∧ ∀ x, 5 ≤ x → x < 38 → u x = 0
theorem HU_0 : HU 0 (fun _ => 0) := ⟨fun _ => rfl, fun h => absurd h (by decide), by decide, fun i _ => ⟨Nat.zero_le _, Nat.zero_le _⟩, by decide, by decide, fun f _ h => by simp at h, fun _ _ _ => rfl⟩
theorem HU_lt {c : Nat} {u : Nat → Nat} (h : HU c u) {x : Nat} (hx : x < 52) : u x < 2 ^ 30 := by
  obtain ⟨h0, h1, h4, hi6, h50, h51, _, h5⟩ := h
  by_cases c0 : c = 0
  · rw [h0 c0]
    show 0 < 2 ^ 30
    decide
  · obtain ⟨a0, a1, a2, a3, a4⟩ := h1 (by omega)
    by_cases b : x < 5
    · rcases (show x = 0 ∨ x = 1 ∨ x = 2 ∨ x = 3 ∨ x = 4 by omega) with rfl | rfl | rfl | rfl | rfl <;> omega
    · by_cases b2 : x < 38
      · rw [h5 x (by omega) b2]
        decide
      · by_cases b3 : x < 44
        · have := (hi6 (x - 38) (by omega)).1
          rw [show 38 + (x - 38) = x by omega] at this
          omega
        · by_cases b4 : x < 50
          · have := (hi6 (x - 44) (by omega)).2
            rw [show 44 + (x - 44) = x by omega] at this
            omega
          · rcases (show x = 50 ∨ x = 51 by omega) with rfl | rfl
            · exact h50
            · exact h51
theorem vNm_ok {T : Nat → Int32} {n p lo mo : Nat} (hp : p ≤ n) : (∀ f, vNm T n p lo mo = .inl f → 1 ≤ f ∧ f ≤ 8 * n + 5) ∧ ∀ e v, vNm T n p lo mo = .inr (e, v) → p < e ∧ e ≤ n ∧ lo ≤ v ∧ v ≤ mo := by
  have hqn : lx_rn lx_S T n p ≤ n := rn_le hp
  have hqp : p ≤ lx_rn lx_S T n p := rn_ge
  unfold vNm
  generalize lx_rn lx_S T n p = q at hqn hqp ⊢
  by_cases hD : q < n ∧ lx_D (T q) = true
  · rw [if_pos hD]
    have hge : q + 1 ≤ lx_rn lx_D T n q := by
      rw [rn_st hD.1 hD.2]
      exact rn_ge
    have hen : lx_rn lx_D T n q ≤ n := rn_le hqn
    generalize lx_rn lx_D T n q = e at hge hen ⊢
    generalize lx_nv T q (e - q) = v
    by_cases hc : e - q ≤ 5 ∧ (lo ≤ v ∧ v ≤ mo)
    · rw [if_pos hc]
      exact ⟨fun f h => by (cases h), fun e' v' h => by cases h; omega⟩
    · rw [if_neg hc]
      exact ⟨fun f h => by cases h; omega, fun e' v' h => by cases h⟩
  · rw [if_neg hD]
    exact ⟨fun f h => by cases h; omega, fun e' v' h => by cases h⟩
theorem og_bit {u : Nat → Nat} {f g : Nat} (hf : f < 60) (hg : g < 60) : (vOg u g (50 + f / 30)).testBit (f % 30) = ((u (50 + f / 30)).testBit (f % 30) || decide (g = f)) := by
  unfold vOg
  by_cases e : f / 30 = g / 30
  · rw [e, vup_eq, Nat.testBit_or, Nat.testBit_two_pow]
    congr 1
    rw [decide_eq_decide]
    omega
  · rw [vup_ne (by omega), decide_eq_false (by omega), Bool.or_false]
theorem og_ne {u : Nat → Nat} {g x : Nat} (hg : g < 60) (hx : x < 50) : vOg u g x = u x := by
  unfold vOg
  exact vup_ne (by omega)
theorem og_lt {u : Nat → Nat} {g x : Nat} (h : u x < 2 ^ 30) : vOg u g x < 2 ^ 30 := by
  unfold vOg vup
  split
  · rename_i e
    rw [← e]
    exact Nat.or_lt_two_pow h (Nat.pow_lt_pow_right (by decide) (Nat.mod_lt _ (by decide)))
  · exact h
theorem HU_og {c : Nat} {u : Nat → Nat} (h : HU c u) (c0 : 0 < c) {g : Nat} (hg : g < u 1) : HU (c + 1) (vOg u g) := by
  obtain ⟨h0, h1, h4, hi6, h50, h51, hb, h5⟩ := h
  obtain ⟨a0, a1, a2, a3, a4⟩ := h1 c0
  have g60 : g < 60 := by omega
  have e : ∀ x, x < 50 → vOg u g x = u x := fun x hx => og_ne g60 hx
  refine ⟨fun h => by omega, fun _ => ?_, ?_, fun i h6 => ?_, og_lt h50, og_lt h51, fun f hf hbit => ?_, fun x hx1 hx2 => ?_⟩
  · rw [e 0 (by decide), e 1 (by decide), e 2 (by decide), e 3 (by decide)]
    exact h1 c0
  · rw [e 4 (by decide)]
    exact h4
  · rw [e _ (by omega), e _ (by omega)]
    exact hi6 i h6
  · rw [e 1 (by decide)]
    rw [og_bit hf g60] at hbit
    rcases Bool.or_eq_true_iff.mp hbit with z | z
    · exact hb f hf z
    · have := of_decide_eq_true z
      omega
  · rw [e x (by omega)]
    exact h5 x hx1 hx2
theorem HU_ri {c : Nat} {u : Nat → Nat} (h : HU c u) (c0 : 0 < c) (h6 : u 4 < 6) {a b : Nat} (ha : a ≤ 99) (hb9 : b ≤ 9) : HU (c + 1) (vup (vup (vup u (38 + u 4) a) (44 + u 4) b) 4 (u 4 + 1)) := by
  obtain ⟨h0, h1, h4, hi6, h50, h51, hb, h5⟩ := h
  obtain ⟨a0, a1, a2, a3, a4⟩ := h1 c0
  have e : ∀ x, x ≠ 4 → ¬ (38 ≤ x ∧ x < 50) → vup (vup (vup u (38 + u 4) a) (44 + u 4) b) 4 (u 4 + 1) x = u x := fun x hx1 hx2 => by rw [vup_ne hx1, vup_ne (by omega), vup_ne (by omega)]
  refine ⟨fun h => by omega, fun _ => ?_, ?_, fun i h6 => ⟨?_, ?_⟩, ?_, ?_, fun f hf hbit => ?_, fun x hx1 hx2 => ?_⟩
  · rw [e 0 (by decide) (by omega), e 1 (by decide) (by omega), e 2 (by decide) (by omega), e 3 (by decide) (by omega)]
    exact h1 c0
  · rw [vup_eq]
    exact h6
  · rw [vup_ne (by omega), vup_ne (by omega)]
    unfold vup
    split
    · exact ha
    · exact (hi6 i h6).1
  · rw [vup_ne (by omega)]
    unfold vup
    split
    · exact hb9
    · rw [if_neg (by omega)]
      exact (hi6 i h6).2
  · rw [e 50 (by decide) (by omega)]
    exact h50
  · rw [e 51 (by decide) (by omega)]
    exact h51
  · rw [e 1 (by decide) (by omega)]
    rw [e _ (by omega) (by omega)] at hbit
    exact hb f hf hbit
  · rw [e x (by omega) (by omega)]
    exact h5 x hx1 hx2
theorem HU_fo {a b c : Nat} (ha : 2 ≤ a ∧ a ≤ 60) (hb : b ≤ 9) (hc : c ≤ 9) : HU 1 (vup (vup (vup (vup (fun _ => 0) 1 a) 2 b) 3 c) 0 1) := by
  refine ⟨fun h => by omega, fun _ => ⟨rfl, ha.1, ha.2, hb, hc⟩, Nat.zero_le _, fun i h6 => ?_, (show 0 < 2 ^ 30 by decide), (show 0 < 2 ^ 30 by decide), fun f hf hbit => ?_, fun x hx1 hx2 => ?_⟩
  · rw [vup_ne (by omega), vup_ne (by omega), vup_ne (by omega), vup_ne (by omega), vup_ne (by omega), vup_ne (by omega), vup_ne (by omega), vup_ne (by omega)]
    exact ⟨Nat.zero_le _, Nat.zero_le _⟩
  · rw [vup_ne (by omega), vup_ne (by omega), vup_ne (by omega), vup_ne (by omega)] at hbit
    simp at hbit
  · rw [vup_ne (by omega), vup_ne (by omega), vup_ne (by omega), vup_ne (by omega)]
theorem vHc_ok {T : Nat → Int32} {n p c : Nat} {u : Nat → Nat} (hp : p ≤ n) (hu : HU c u) : (∀ f, vHc T n p c u = .inl f → 1 ≤ f ∧ f ≤ 8 * n + 5) ∧ ∀ p' u', vHc T n p c u = .inr (p', u') → p < p' ∧ p' ≤ n ∧ c ≠ 40 ∧ HU (c + 1) u' := by
  have hqn : lx_rn lx_S T n p ≤ n := rn_le hp
  have hqp : p ≤ lx_rn lx_S T n p := rn_ge
  unfold vHc
  generalize lx_rn lx_S T n p = q at hqn hqp ⊢
  have bad : ∀ k, k ≤ 5 → 1 ≤ k → (∀ f, (Sum.inl (k + 8 * q) : fxQh) = .inl f → 1 ≤ f ∧ f ≤ 8 * n + 5) ∧ ∀ p' u', (Sum.inl (k + 8 * q) : fxQh) = .inr (p', u') → p < p' ∧ p' ≤ n ∧ c ≠ 40 ∧ HU (c + 1) u' := fun k h5 h1 => ⟨fun f h => by cases h; omega, fun p' u' h => by cases h⟩
  by_cases hw : lx_wk T n q = 6713208 ∨ lx_wk T n q = 491394458994 ∨ lx_wk T n q = 1734440037
  · rw [if_pos hw]
    by_cases h40 : c = 40
    · rw [if_pos h40]
      exact bad 5 (by decide) (by decide)
    · rw [if_neg h40]
      have t1 : lx_rn lx_L T n q ≤ n := rn_le hqn
      have t2 : q ≤ lx_rn lx_L T n q := rn_ge
      unfold vHl
      generalize lx_rn lx_L T n q = q1 at t1 t2 ⊢
      by_cases w1 : lx_wk T n q = 6713208
      · rw [if_pos w1]
        by_cases u0 : 0 < u 0
        · rw [if_pos u0]
          exact bad 5 (by decide) (by decide)
        · rw [if_neg u0]
          have c0 : c = 0 := by
            by_cases c0 : c = 0
            · exact c0
            · have := (hu.2.1 (by omega)).1
              omega
          unfold vH3
          obtain ⟨a1, a2⟩ := vNm_ok (T := T) (lo := 2) (mo := 60) t1
          cases v1 : vNm T n q1 2 60 with
          | inl f => exact ⟨fun g h => by cases h; exact a1 f v1, fun p' u' h => by cases h⟩
          | inr y =>
            obtain ⟨p1, a⟩ := y
            obtain ⟨x1, x2, x3, x4⟩ := a2 p1 a v1
            obtain ⟨b1, b2⟩ := vNm_ok (T := T) (lo := 1) (mo := 9) x2
            dsimp only
            cases v2 : vNm T n p1 1 9 with
            | inl f => exact ⟨fun g h => by cases h; exact b1 f v2, fun p' u' h => by cases h⟩
            | inr y =>
              obtain ⟨p2, b⟩ := y
              obtain ⟨y1, y2, y3, y4⟩ := b2 p2 b v2
              obtain ⟨c1, c2⟩ := vNm_ok (T := T) (lo := 0) (mo := 9) y2
              dsimp only
              cases v3 : vNm T n p2 0 9 with
              | inl f => exact ⟨fun g h => by cases h; exact c1 f v3, fun p' u' h => by cases h⟩
              | inr y =>
                obtain ⟨p3, g⟩ := y
                obtain ⟨z1, z2, z3, z4⟩ := c2 p3 g v3
                refine ⟨fun g h => by (cases h), fun p' u' h => ?_⟩
                cases h
                refine ⟨by omega, z2, h40, ?_⟩
                rw [hu.1 c0, c0]
                exact HU_fo ⟨x3, x4⟩ y4 z4
      · rw [if_neg w1]
        by_cases u0 : u 0 = 0
        · rw [if_pos u0]
          exact bad 5 (by decide) (by decide)
        · rw [if_neg u0]
          have c0 : 0 < c := by
            rcases Nat.eq_zero_or_pos c with c0 | c0
            · exact absurd (by rw [hu.1 c0]) u0
            · exact c0
          by_cases w2 : lx_wk T n q = 491394458994
          · rw [if_pos w2]
            by_cases h6 : u 4 = 6
            · rw [if_pos h6]
              exact bad 5 (by decide) (by decide)
            · rw [if_neg h6]
              unfold vH2
              obtain ⟨a1, a2⟩ := vNm_ok (T := T) (lo := 0) (mo := 99) t1
              cases v1 : vNm T n q1 0 99 with
              | inl f => exact ⟨fun g h => by cases h; exact a1 f v1, fun p' u' h => by cases h⟩
              | inr y =>
                obtain ⟨p1, a⟩ := y
                obtain ⟨x1, x2, x3, x4⟩ := a2 p1 a v1
                obtain ⟨b1, b2⟩ := vNm_ok (T := T) (lo := 1) (mo := 9) x2
                dsimp only
                cases v2 : vNm T n p1 1 9 with
                | inl f => exact ⟨fun g h => by cases h; exact b1 f v2, fun p' u' h => by cases h⟩
                | inr y =>
                  obtain ⟨p2, b⟩ := y
                  obtain ⟨y1, y2, y3, y4⟩ := b2 p2 b v2
                  refine ⟨fun g h => by (cases h), fun p' u' h => ?_⟩
                  cases h
                  have := hu.2.2.1
                  exact ⟨by omega, y2, h40, HU_ri hu c0 (by omega) x4 y4⟩
          · rw [if_neg w2]
            unfold vH1
            obtain ⟨a1, a2⟩ := vNm_ok (T := T) (lo := 0) (mo := u 1 - 1) t1
            cases v1 : vNm T n q1 0 (u 1 - 1) with
            | inl f => exact ⟨fun g h => by cases h; exact a1 f v1, fun p' u' h => by cases h⟩
            | inr y =>
              obtain ⟨p1, a⟩ := y
              obtain ⟨x1, x2, x3, x4⟩ := a2 p1 a v1
              refine ⟨fun g h => by (cases h), fun p' u' h => ?_⟩
              cases h
              have := (hu.2.1 c0).2.1
              exact ⟨by omega, x2, h40, HU_og hu c0 (by omega)⟩
  · rw [if_neg hw]
    exact bad 1 (by decide) (by decide)
theorem rdH_ok {T : Nat → Int32} {n : Nat} : ∀ k c p u, c + k = 41 → c ≤ 40 → p ≤ n → HU c u → (∀ f, rdH T n k c p u = .inl f → 1 ≤ f ∧ f ≤ 8 * n + 5) ∧ ∀ u', rdH T n k c p u = .inr u' → ∃ c', 0 < c' ∧ HU c' u'
  | 0, c, p, u, hk, hc, _, _ => by omega
  | k + 1, c, p, u, hk, hc, hp, hu => by
    obtain ⟨a1, a2⟩ := vHc_ok (T := T) hp hu
    unfold rdH
    cases hv : vHc T n p c u with
    | inl f => exact ⟨fun g h => by cases h; exact a1 f hv, fun u' h => by cases h⟩
    | inr y =>
      obtain ⟨p1, u1⟩ := y
      obtain ⟨b1, b2, b3, b4⟩ := a2 p1 u1 hv
      dsimp only
      unfold vHx
      have hqn : lx_rn lx_S T n p1 ≤ n := rn_le b2
      generalize lx_rn lx_S T n p1 = q at hqn ⊢
      by_cases h59 : q < n ∧ T q = nI 59
      · rw [if_pos h59]
        exact rdH_ok k (c + 1) (q + 1) u1 (by omega) (by omega) (by omega) b4
      · rw [if_neg h59]
        by_cases hlt : q < n
        · rw [if_pos hlt]
          exact ⟨fun f hf => by cases hf; omega, fun R' h => by cases h⟩
        · rw [if_neg hlt]
          exact ⟨fun f hf => by (cases hf), fun u' h => by cases h; exact ⟨c + 1, by omega, b4⟩⟩
