/-! a run of the machine that reads rules, and the class' -/
def tOp (T : Nat → Int32) (n q : Nat) : Nat := match opA T n q with
  | some s => s
  | none => match opM T n q with
    | some s => s
    | none => match cmO T n q with
      | some (s, _) => s
      | none => 0
def tkO (T : Nat → Int32) (n q : Nat) : fxTo := ((tkd T n q).1, tOp T n q, decide (5 < (tkd T n q).2.2 - q), (tkd T n q).2.1, if (tkd T n q).1 = 2 then wIx (lx_wk T n q) else none)
theorem opM_v {T : Nat → Int32} {n q s : Nat} (h : opM T n q = some s) : s = 4 ∨ s = 5 ∨ s = 14 := by
  unfold opM at h
  repeat' split at h
  all_goals first | (cases h; decide) | cases h
theorem opA_v {T : Nat → Int32} {n q s : Nat} (h : opA T n q = some s) : s = 2 ∨ s = 3 := by
  unfold opA at h
  repeat' split at h
  all_goals first | (cases h; decide) | cases h
theorem mkd_ok {T : Nat → Int32} {n q : Nat} (hq : q < n) : q < (mkd T n q).2.2 ∧ (mkd T n q).2.2 ≤ n ∧ (mkd T n q).1 < 10 ∧ (mkd T n q).1 ≠ 0 ∧ (mkd T n q).1 ≠ 2 ∧ (mkd T n q).1 ≠ 3 ∧ ((mkd T n q).1 = 7 ∨ (mkd T n q).1 = 8 → (mkd T n q).2.1 = xOp (tOp T n q) ∧ 2 ≤ tOp T n q ∧ tOp T n q ≤ 14 ∧ tOp T n q ≠ 11) := by
  unfold mkd
  split
  · exact ⟨Nat.lt_succ_self q, hq, show (4 : Nat) < 10 by decide, show (4 : Nat) ≠ 0 by decide, show (4 : Nat) ≠ 2 by decide, show (4 : Nat) ≠ 3 by decide, fun z => by rcases z with z | z <;> cases z⟩
  split
  · exact ⟨Nat.lt_succ_self q, hq, show (5 : Nat) < 10 by decide, show (5 : Nat) ≠ 0 by decide, show (5 : Nat) ≠ 2 by decide, show (5 : Nat) ≠ 3 by decide, fun z => by rcases z with z | z <;> cases z⟩
  split
  · exact ⟨Nat.lt_succ_self q, hq, show (6 : Nat) < 10 by decide, show (6 : Nat) ≠ 0 by decide, show (6 : Nat) ≠ 2 by decide, show (6 : Nat) ≠ 3 by decide, fun z => by rcases z with z | z <;> cases z⟩
  unfold tOp
  cases hA : opA T n q with
  | some s =>
    have := opA_v hA
    exact ⟨Nat.lt_succ_self q, hq, show (7 : Nat) < 10 by decide, show (7 : Nat) ≠ 0 by decide, show (7 : Nat) ≠ 2 by decide, show (7 : Nat) ≠ 3 by decide, fun _ => ⟨rfl, by show 2 ≤ s; omega, by show s ≤ 14; omega, by show s ≠ 11; omega⟩⟩
  | none =>
    cases hM : opM T n q with
    | some s =>
      have := opM_v hM
      exact ⟨Nat.lt_succ_self q, hq, show (7 : Nat) < 10 by decide, show (7 : Nat) ≠ 0 by decide, show (7 : Nat) ≠ 2 by decide, show (7 : Nat) ≠ 3 by decide, fun _ => ⟨rfl, by show 2 ≤ s; omega, by show s ≤ 14; omega, by show s ≠ 11; omega⟩⟩
    | none =>
      cases hC : cmO T n q with
      | some z =>
        obtain ⟨s, e⟩ := z
        have := cmO_lt hC
        exact ⟨this.1, this.2.1, show (8 : Nat) < 10 by decide, show (8 : Nat) ≠ 0 by decide, show (8 : Nat) ≠ 2 by decide, show (8 : Nat) ≠ 3 by decide, fun _ => ⟨rfl, by show 2 ≤ s; omega, by show s ≤ 14; omega, by show s ≠ 11; omega⟩⟩
      | none => exact ⟨Nat.lt_succ_self q, hq, show (1 : Nat) < 10 by decide, show (1 : Nat) ≠ 0 by decide, show (1 : Nat) ≠ 2 by decide, show (1 : Nat) ≠ 3 by decide, fun z => by rcases z with z | z <;> cases z⟩
theorem tkd_ok {T : Nat → Int32} {n q : Nat} (hq : q ≤ n) : q ≤ (tkd T n q).2.2 ∧ (tkd T n q).2.2 ≤ n ∧ ((tkd T n q).1 ≠ 0 → q < (tkd T n q).2.2) ∧ (tkd T n q).1 < 10 ∧ ((tkd T n q).1 = 7 ∨ (tkd T n q).1 = 8 → (tkd T n q).2.1 = xOp (tOp T n q) ∧ 2 ≤ tOp T n q ∧ tOp T n q ≤ 14 ∧ tOp T n q ≠ 11) ∧ ((tkd T n q).1 = 3 → (tkd T n q).2.1 < 100000) := by
  unfold tkd
  by_cases h : q < n
  · rw [if_pos h]
    by_cases hD : lx_D (T q) = true
    · rw [if_pos hD]
      have e : q + 1 ≤ lx_rn lx_D T n q := by
        rw [rn_st h hD]
        exact rn_ge
      exact ⟨by show q ≤ lx_rn lx_D T n q; omega, rn_le hq, fun _ => e, show (3 : Nat) < 10 by decide, fun z => by (rcases z with z | z <;> cases z), fun _ => lx_nv_5 T q _ (fun i hi2 => rn_all (n := n) (p := q) (by omega) (by omega))⟩
    · rw [if_neg hD]
      by_cases hL : lx_L (T q) = true
      · rw [if_pos hL]
        have e : q + 1 ≤ lx_rn lx_L T n q := by
          rw [rn_st h hL]
          exact rn_ge
        exact ⟨by show q ≤ lx_rn lx_L T n q; omega, rn_le hq, fun _ => e, show (2 : Nat) < 10 by decide, fun z => by (rcases z with z | z <;> cases z), fun z => by cases z⟩
      · rw [if_neg hL]
        obtain ⟨m1, m2, m3, m4, m5, m6, m7⟩ := mkd_ok (T := T) h
        exact ⟨by omega, m2, fun _ => m1, m3, m7, fun z => absurd z m6⟩
  · rw [if_neg h]
    exact ⟨Nat.le_refl _, hq, fun z => absurd rfl z, show (0 : Nat) < 10 by decide, fun z => by (rcases z with z | z <;> cases z), fun z => by cases z⟩
theorem wIx_lt {w i : Nat} (h : wIx w = some i) : i < 27 := by
  have := (vFst_lt _ _ _ _ h).2.1
  omega
theorem tkO_J {T : Nat → Int32} {n q : Nat} (hq : q ≤ n) : TJ (tkO T n q) := by
  refine ⟨fun z => ((tkd_ok (T := T) hq).2.2.2.2.1 z).2, fun i h => ?_⟩
  have h : (if (tkd T n q).1 = 2 then wIx (lx_wk T n q) else none) = some i := h
  show (tkd T n q).1 = 2
  split at h
  · assumption
  · cases h
theorem mst_0 {t : fxTo} {want wb P : Nat} {bv : Bool} {W O : List Nat} {R : fxRl} {S : Option (List Nat)} {x' : fxXc} (h0 : t.1 = 0) (hw : t.2.2.2.2 = none) (e : mst t want wb bv W O P R S = .inr x') : x'.1 = 6 := by
  have nv : ∀ wb2, mvl t wb2 W O P R S = .inl 0 := by
    intro wb2
    unfold mvl
    rw [if_neg (by omega), hw]
  have nw : ∀ k : Nat, ¬ t.2.2.2.2 = some k := fun k z => by rw [hw] at z; cases z
  unfold mst at e
  rw [if_neg (fun z => by omega)] at e
  by_cases h : want = 0
  · rw [if_pos h, if_neg (nw _)] at e
    cases e
  rw [if_neg h] at e
  by_cases h : want = 1
  · rw [if_pos h, nv] at e
    cases e
  rw [if_neg h] at e
  by_cases h : want = 2
  · rw [if_pos h, if_neg (nw _), if_neg (by omega), nv] at e
    cases e
  rw [if_neg h] at e
  by_cases h : want = 3
  · rw [if_pos h, if_neg (nw _), if_pos (Or.inr h0), if_pos h0] at e
    cases e
    rfl
  rw [if_neg h] at e
  by_cases h : want = 4
  · rw [if_pos h, if_neg (by omega)] at e
    cases e
  rw [if_neg h, if_neg (nw _), if_neg (nw _), if_neg (fun z => by omega)] at e
  split at e
  · cases e
    rfl
  · cases e
theorem mst_f {t : fxTo} {want wb P : Nat} {bv : Bool} {W O : List Nat} {R : fxRl} {S : Option (List Nat)} {f : Nat} (e : mst t want wb bv W O P R S = .inl f) : f ≤ 4 := by
  have nv : ∀ wb2, mvl t wb2 W O P R S = .inl f → f ≤ 4 := by
    intro wb2 e
    unfold mvl at e
    repeat' split at e
    all_goals first | (cases e; omega) | cases e
  unfold mst at e
  by_cases h : bv = true ∧ t.1 = 7
  · rw [if_pos h] at e
    cases e
  rw [if_neg h] at e
  by_cases h : want = 0
  · rw [if_pos h] at e
    repeat' split at e
    all_goals first | (cases e; omega) | cases e
  rw [if_neg h] at e
  by_cases h : want = 1
  · rw [if_pos h] at e
    exact nv _ e
  rw [if_neg h] at e
  by_cases h : want = 2
  · rw [if_pos h] at e
    repeat' split at e
    all_goals first | exact nv _ e | (cases e; omega) | cases e
  rw [if_neg h] at e
  by_cases h : want = 3
  · rw [if_pos h] at e
    by_cases h1 : t.2.2.2.2 = some 25
    · rw [if_pos h1] at e
      cases e
    rw [if_neg h1] at e
    by_cases h1 : t.1 = 4 ∨ t.1 = 0
    · rw [if_pos h1] at e
      cases e
    rw [if_neg h1] at e
    cases e
    omega
  rw [if_neg h] at e
  by_cases h : want = 4
  · rw [if_pos h] at e
    repeat' split at e
    all_goals first | (cases e; omega) | cases e
  rw [if_neg h] at e
  by_cases h1 : t.2.2.2.2 = some 21
  · rw [if_pos h1] at e
    cases e
  rw [if_neg h1] at e
  by_cases h1 : t.2.2.2.2 = some 22
  · rw [if_pos h1] at e
    cases e
  rw [if_neg h1] at e
  by_cases h1 : t.1 = 6 ∧ isI W = true
  · rw [if_pos h1] at e
    cases e
  rw [if_neg h1] at e
  by_cases h1 : (t.1 = 4 ∨ t.1 = 0) ∧ isI W = false
  · rw [if_pos h1] at e
    cases e
  rw [if_neg h1] at e
  cases e
  omega
abbrev fx_rl (x : fxXc) : fxRl := x.2.2.2.2.2.2.1
abbrev mstx (t : fxTo) (x : fxXc) : Nat ⊕ fxXc := mst t x.1 x.2.1 x.2.2.1 x.2.2.2.1 x.2.2.2.2.1 x.2.2.2.2.2.1 x.2.2.2.2.2.2.1 x.2.2.2.2.2.2.2
def mrun (T : Nat → Int32) (n : Nat) : Nat → Nat → fxXc → Nat ⊕ fxRl
  | 0, _, x => .inr (fx_rl x)
  | k + 1, p, x => if x.1 = 6 then .inr (fx_rl x) else match mstx (tkO T n (lx_rn lx_S T n p)) x with
    | .inl f => .inl (1 + 8 * lx_rn lx_S T n p + f)
    | .inr x' => mrun T n k (tkd T n (lx_rn lx_S T n p)).2.2 x'
def Fr9 (hi hi' : fxI3) : Prop := ∀ k j s, k ≠ 6 → ¬ (25 ≤ k ∧ k ≤ 28) → ¬ (k = 7 ∧ j = 1 ∧ s ≤ 5 ∧ s ≠ 0) → hi' k j s = hi k j s
theorem Fr9.rf (hi : fxI3) : Fr9 hi hi := fun _ _ _ _ _ _ => rfl
theorem Fr9.tr {a b c : fxI3} (h : Fr9 a b) (g : Fr9 b c) : Fr9 a c := fun k j s h1 h2 h3 => (g k j s h1 h2 h3).trans (h k j s h1 h2 h3)
theorem Fr8.n {a b : fxI3} (h : Fr8 a b) : Fr9 a b := fun k j s h1 h2 _ => h k j s h1 h2
theorem Fr7.n {a b : fxI3} (h : Fr7 1 a b) : Fr9 a b := fun k j s h1 h2 h3 => h k j s (by omega)
def LRP (σ : fxS) (hi : fxI3) (hl : fxL3) (res : Nat ⊕ fxRl) : Option fxV → fxH → Prop := fun r2 h2 => match res with
  | .inl f => r2 = some (vi (nI f)) ∧ ∃ hi', h2 = hp σ hi' hl ∧ Fr9 hi hi'
  | .inr R => r2 = some (vi 0) ∧ ∃ hi', h2 = hp σ hi' hl ∧ Fr9 hi hi' ∧ CD hi' (flt R) ∧ hi' 6 0 6 = nI R.length ∧ XMa hi' R 0 0
section XL
variable {d : Nat} {σ : fxS} {hi : fxI3} {hl : fxL3} {n : Nat} {T : Nat → Int32}
theorem SG_n {hi hi' : fxI3} (h : SG hi 1 n T) (f : Fr8 hi hi') : SG hi' 1 n T := ⟨h.1, (f 7 1 1 (by omega) (by omega)).trans h.2.1, fun i hi2 => (f 20 0 i (by omega) (by omega)).trans (h.2.2 i hi2)⟩
theorem x_rloop {h0 : fxI3} : ∀ (k p i : Nat) (x : fxXc) (hi : fxI3) (xi : Int32) (x3 : Option fxV), xi = nI i → (x.1 = 6 ∧ i ≤ 401 ∨ x.1 ≠ 6 ∧ n + 1 - p ≤ k ∧ i ≤ p) → p ≤ n → SG hi 1 n T → hi 7 1 2 = nI p → BN hi → XC hi x → JR p x → Fr9 h0 hi → fx_E (fx_Ga (d + 6)) fx_M46 (50, [some rrO, some (vi (nI n)), some (vi xi), x3], [], hp σ hi hl, 0, 0) (LRP σ h0 hl (mrun T n k p x)) := by
  have fin6 : ∀ (i : Nat) (x : fxXc) (hi : fxI3) (xi : Int32) (x3 : Option fxV) (p : Nat), xi = nI i → x.1 = 6 → i ≤ 401 → XC hi x → JR p x → Fr9 h0 hi → fx_E (fx_Ga (d + 6)) fx_M46 (50, [some rrO, some (vi (nI n)), some (vi xi), x3], [], hp σ hi hl, 0, 0) (LRP σ h0 hl (.inr (fx_rl x))) := by
    intro i x hi xi x3 p exi h6 hi4 hx hj hf
    obtain ⟨want, wb, bv, W, O, P, R, S⟩ := x
    have h6 : want = 6 := h6
    subst h6
    obtain ⟨x1, x2, x3', x4, x5, x6, x7, x8, x9, x10, x11, x12⟩ := hx
    obtain ⟨c1, c2⟩ := hj.2.2.2.2.2.2.2.2.1 (Or.inr rfl)
    subst c1
    subst c2
    have x1 : CD hi (flt R) := by
      have e : flt R ++ ((none : Option (List Nat)).getD [] ++ []) = flt R := by
        show flt R ++ ([] ++ []) = _
        rw [List.append_nil, List.append_nil]
      rw [← e]
      exact x1
    have done : LRP σ h0 hl (.inr R) (some (vi 0)) (hp σ hi hl) := ⟨rfl, hi, rfl, hf, x1, x9, x10⟩
    exact fx_wpL [50] 40 (pk_lt 400 i (fun _ => done) (fun _ => ⟨fun _ => done, fun w => absurd x6 w⟩) rfl exi)
  intro k
  induction k with
  | zero =>
    intro p i x hi xi x3 exi hc hpn hs h2 hbn hx hj hf
    rcases hc with ⟨c1, c2⟩ | ⟨_, c2, _⟩
    · exact fin6 i x hi xi x3 p exi c1 c2 hx hj hf
    · omega
  | succ k ih =>
    intro p i x hi xi x3 exi hc hpn hs h2 hbn hx hj hf
    unfold mrun
    rcases hc with ⟨c1, c2⟩ | ⟨c1, c2, c3⟩
    · rw [if_pos c1]
      exact fin6 i x hi xi x3 p exi c1 c2 hx hj hf
    rw [if_neg c1]
    have hn := hs.1
    have hqn : lx_rn lx_S T n p ≤ n := rn_le hpn
    have hqp : p ≤ lx_rn lx_S T n p := rn_ge
    obtain ⟨hi1, hg1, f1, k1⟩ := x_read (d := d + 3) (σ := σ) (hl := hl) hs h2 hpn
    generalize lx_rn lx_S T n p = q at hqn hqp k1 ⊢
    have nxt : ∀ a : Nat, q < a → n + 1 - a ≤ k ∧ i + 1 ≤ a := fun a ha => by omega
    have hw := x_wordHere (d := d + 1) (σ := σ) (hl := hl) (hs.fr f1) hqn k1
    obtain ⟨want, wb, bv, W, O, P, R, S⟩ := x
    have c1 : want ≠ 6 := c1
    obtain ⟨m1, m2, m3, m4, m5, m6⟩ := tkd_ok (T := T) hqn
    have htj := tkO_J (T := T) hqn
    have ht : TC (fx_up hi1 6 0 11 (oI (if (tkd T n q).1 = 2 then wIx (lx_wk T n q) else none))) (tkO T n q) := by
      obtain ⟨t2, t3, t4, t5⟩ := k1
      refine ⟨t3, m4, up_at _ _ _ _ _, fun i h => ?_, fun z => ⟨?_, (m5 z).2⟩, fun z => ⟨t5, m6 z⟩, (tkd T n q).2.2, q, t2, t4, m1, by omega, rfl⟩
      · have h : (if (tkd T n q).1 = 2 then wIx (lx_wk T n q) else none) = some i := h
        split at h
        · exact wIx_lt h
        · cases h
      · show hi1 7 1 5 = nI (xOp (tOp T n q))
        rw [← (m5 z).1]
        exact t5
    have g1 : ∀ k j s, ¬ (k = 6 ∧ s = 11) → ¬ (k = 7 ∧ j = 1 ∧ 2 ≤ s ∧ s ≤ 5) → fx_up hi1 6 0 11 (oI (if (tkd T n q).1 = 2 then wIx (lx_wk T n q) else none)) k j s = hi k j s := fun k j s h1 h2 => (up_off _ _ (by omega)).trans (f1 k j s h2)
    have hx2 : XC (fx_up hi1 6 0 11 (oI (if (tkd T n q).1 = 2 then wIx (lx_wk T n q) else none))) (want, wb, bv, W, O, P, R, S) := by
      obtain ⟨x1, x2, x3', x4, x5, x6, x7, x8, x9, x10, x11, x12⟩ := hx
      exact ⟨⟨(g1 6 0 5 (by omega) (by omega)).trans x1.1, fun k hk => (g1 25 0 k (by omega) (by omega)).trans (x1.2 k hk)⟩, ⟨(g1 6 0 7 (by omega) (by omega)).trans x2.1, fun k hk => (g1 28 0 _ (by omega) (by omega)).trans (x2.2 k hk)⟩, (g1 6 0 8 (by omega) (by omega)).trans x3', (g1 6 0 9 (by omega) (by omega)).trans x4, (g1 6 0 10 (by omega) (by omega)).trans x5, (g1 6 0 12 (by omega) (by omega)).trans x6, (g1 6 0 13 (by omega) (by omega)).trans x7, (g1 6 0 14 (by omega) (by omega)).trans x8, (g1 6 0 6 (by omega) (by omega)).trans x9, XMa_of R 0 0 x10 (fun x _ => g1 26 0 x (by omega) (by omega)) (fun x _ => g1 27 0 x (by omega) (by omega)), fun a b => (g1 26 0 _ (by omega) (by omega)).trans (x11 a b), fun s hs => (g1 27 0 _ (by omega) (by omega)).trans (x12 s hs)⟩
    have x6 : hi 6 0 12 = nI want := hx.2.2.2.2.2.1
    have hs2 : SG (fx_up hi1 6 0 11 (oI (if (tkd T n q).1 = 2 then wIx (lx_wk T n q) else none))) 1 n T := ⟨hn, (g1 7 1 1 (by omega) (by omega)).trans hs.2.1, fun i hi2 => (g1 20 0 i (by omega) (by omega)).trans (hs.2.2 i hi2)⟩
    have hbn2 : BN (fx_up hi1 6 0 11 (oI (if (tkd T n q).1 = 2 then wIx (lx_wk T n q) else none))) := fun i hi2 => (g1 91 0 i (by omega) (by omega)).trans (hbn i hi2)
    have k2 : fx_up hi1 6 0 11 (oI (if (tkd T n q).1 = 2 then wIx (lx_wk T n q) else none)) 7 1 2 = nI (tkd T n q).2.2 := k1.1
    have k4 : fx_up hi1 6 0 11 (oI (if (tkd T n q).1 = 2 then wIx (lx_wk T n q) else none)) 7 1 4 = nI q := k1.2.2.1
    have f2 : Fr9 hi (fx_up hi1 6 0 11 (oI (if (tkd T n q).1 = 2 then wIx (lx_wk T n q) else none))) := f1.n.tr (Fr8.up _ _ (by omega)).n
    have hJ := hj
    obtain ⟨a1, a2, a3, a4, a5, a6, a7, a8, a9, a10, a11, a12, a13, a14⟩ := hj
    have hsr := x_readSign (d := d + 1) (σ := σ) (hl := hl) hbn2 hx2 (hJ.v hpn hn) (fun z => a9 (Or.inl z)) (fun z => by have := a12 z; omega) (fun z => a11 (by omega)) c1 (fun z => by have := a13 z; omega) ht htj.2
    have w6 : ¬ hi 6 0 12 = 6 := fun z => c1 ((nI_eq (a := want) (b := 6) (by omega) (by decide)).mp (x6.symm.trans z))
    have hi400 : i ≤ 400 := by omega
    show fx_E _ _ _ (LRP σ h0 hl (match mst (tkO T n q) want wb bv W O P R S with
      | .inl f => .inl (1 + 8 * q + f)
      | .inr x' => mrun T n k (tkd T n q).2.2 x'))
    cases hm : mst (tkO T n q) want wb bv W O P R S with
    | inl f =>
      rw [hm] at hsr
      obtain ⟨hi3, hg3, f3⟩ := hsr
      have hf4 := mst_f hm
      have hfh := x_faultHere (d := d + 5) (σ := σ) (hl := hl) (j := 1) ((f3 7 1 4 (by omega) (by omega)).trans k4) f
      exact fx_wpL [50] 60 (pk_lt 400 i (fun w => by omega) (fun _ => ⟨fun w => absurd w w6, fun _ => ⟨_, _, hg1, _, _, hw, _, _, hg3, ⟨fun w => absurd w (ne_m1 (by omega)), fun _ => ⟨_, _, hfh, rfl, hi3, rfl, hf.tr (f2.tr f3.n)⟩⟩⟩⟩) rfl exi)
    | inr x' =>
      rw [hm] at hsr
      obtain ⟨hi3, hg3, f3, hx3⟩ := hsr
      have hj3 := JR_step hJ (p' := (tkd T n q).2.2) (by omega) (fun z => by have := m3 z; omega) c1 htj hm
      have k0 : x'.1 ≠ 6 → (tkd T n q).1 ≠ 0 := by
        intro e6 z
        have z2 : (tkO T n q).2.2.2.2 = none := by
          show (if (tkd T n q).1 = 2 then wIx (lx_wk T n q) else none) = none
          rw [if_neg (by omega)]
        have z1 : (tkO T n q).1 = 0 := z
        exact e6 (mst_0 (t := tkO T n q) z1 z2 hm)
      have nx := ih (tkd T n q).2.2 (i + 1) x' hi3 (xi + 1) (some (vi (-1))) (by rw [exi, nI_1]) (by
        by_cases e6 : x'.1 = 6
        · exact Or.inl ⟨e6, Nat.succ_le_succ hi400⟩
        · refine Or.inr ⟨e6, ?_⟩
          exact nxt _ (m3 (k0 e6))) m2 (SG_n hs2 f3) ((f3 7 1 2 (by omega) (by omega)).trans k2) (fun i hi2 => (f3 91 0 i (by omega) (by omega)).trans (hbn2 i hi2)) hx3 hj3 (hf.tr (f2.tr f3.n))
      have nx1 : fx_E (fx_Ga (d + 6)) fx_M46 (100, [some rrO, some (vi (nI n)), some (vi xi), some (vi (-1))], [], hp σ hi3 hl, 0, 0) (LRP σ h0 hl (mrun T n k (tkd T n q).2.2 x')) := fx_wpE [50] 20 nx
      exact fx_wpL [50, 100] 60 (pk_lt 400 i (fun w => by omega) (fun _ => ⟨fun w => absurd w w6, fun _ => ⟨_, _, hg1, _, _, hw, _, _, hg3, ⟨fun _ => nx1, fun w => absurd rfl w⟩⟩⟩) rfl exi)
end XL
