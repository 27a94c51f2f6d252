/-! the run, free of its fuel; signs as the reference sees them -/
section RA
variable {T : Nat → Int32} {n p q : Nat} {x : fxXc}
theorem mrun_6 (h : x.1 = 6) : ∀ k, mrun T n k p x = .inr (fx_rl x)
  | 0 => rfl
  | k + 1 => by
    unfold mrun
    rw [if_pos h]
theorem tkO_0 (z : (tkd T n q).1 = 0) : (tkO T n q).2.2.2.2 = none := by
  show (if (tkd T n q).1 = 2 then wIx (lx_wk T n q) else none) = none
  rw [if_neg (by omega)]
theorem mrun_fu : ∀ (k k' p : Nat) (x : fxXc), p ≤ n → n + 1 - p ≤ k → n + 1 - p ≤ k' → mrun T n k p x = mrun T n k' p x
  | 0, _, p, x, hp, h, _ => by omega
  | k + 1, 0, p, x, hp, _, h => by omega
  | k + 1, k' + 1, p, x, hp, h, h' => by
    unfold mrun
    by_cases h6 : x.1 = 6
    · rw [if_pos h6, if_pos h6]
    · rw [if_neg h6, if_neg h6]
      have hq : lx_rn lx_S T n p ≤ n := rn_le hp
      have hqp : p ≤ lx_rn lx_S T n p := rn_ge
      cases hm : mstx (tkO T n (lx_rn lx_S T n p)) x with
      | inl f => rfl
      | inr x' =>
        show mrun T n k _ x' = mrun T n k' _ x'
        by_cases e6 : x'.1 = 6
        · rw [mrun_6 e6, mrun_6 e6]
        · obtain ⟨m1, m2, m3, _⟩ := tkd_ok (T := T) hq
          have := m3 (fun z => e6 (mst_0 (t := tkO T n (lx_rn lx_S T n p)) z (tkO_0 z) hm))
          exact mrun_fu k k' _ x' m2 (by omega) (by omega)
def mr (T : Nat → Int32) (n p : Nat) (x : fxXc) : Nat ⊕ fxRl := mrun T n (n + 1 - p) p x
theorem mr_6 (h : x.1 = 6) : mr T n p x = .inr (fx_rl x) := mrun_6 h _
theorem mr_st (hp : p ≤ n) (h6 : x.1 ≠ 6) (hq : lx_rn lx_S T n p = q) : mr T n p x = match mstx (tkO T n q) x with
    | .inl f => .inl (1 + 8 * q + f)
    | .inr x' => mr T n (tkd T n q).2.2 x' := by
  subst hq
  have hq : lx_rn lx_S T n p ≤ n := rn_le hp
  have hqp : p ≤ lx_rn lx_S T n p := rn_ge
  unfold mr
  rw [show n + 1 - p = (n - p) + 1 by omega]
  show (if x.1 = 6 then Sum.inr (fx_rl x) else match mstx (tkO T n (lx_rn lx_S T n p)) x with
    | .inl f => Sum.inl (1 + 8 * lx_rn lx_S T n p + f)
    | .inr x' => mrun T n (n - p) (tkd T n (lx_rn lx_S T n p)).2.2 x') = _
  rw [if_neg h6]
  cases hm : mstx (tkO T n (lx_rn lx_S T n p)) x with
  | inl f => rfl
  | inr x' =>
    show mrun T n (n - p) _ x' = mrun T n _ _ x'
    by_cases e6 : x'.1 = 6
    · rw [mrun_6 e6, mrun_6 e6]
    · obtain ⟨m1, m2, m3, _⟩ := tkd_ok (T := T) hq
      have := m3 (fun z => e6 (mst_0 (t := tkO T n (lx_rn lx_S T n p)) z (tkO_0 z) hm))
      exact mrun_fu _ _ _ x' m2 (by omega) (by omega)
theorem mr_sk (hp : p ≤ n) : mr T n (lx_rn lx_S T n p) x = mr T n p x := by
  by_cases h6 : x.1 = 6
  · rw [mr_6 h6, mr_6 h6]
  · rw [mr_st hp h6 rfl, mr_st (rn_le hp) h6 (rn_idem hp)]
/-- words -/
def wKy (i : Nat) : Nat := [491394458994, 1885430629, 6775152, 108187682958948, 465558725996, 7304564, 7823731, 1734440037, 28833010696676197, 7102839, 1937007984, 0, 0, 0, 0, 0, 0, 0, 0, 0, 0, 6385252, 28530, 7237492, 0, 26982, 1919509605].getD i 0
theorem wKy_ok : ∀ i, i < 27 → tx_k (tx_of i) = wKy i := by decide +kernel
theorem wKy_ne : ∀ m, m < 27 → ∀ i, i < m → 0 < wKy m → wKy m ≠ wKy i := by decide +kernel
theorem wIx_iff {w i : Nat} : wIx w = some i ↔ i < 27 ∧ 0 < wKy i ∧ w = wKy i := by
  constructor
  · intro h
    obtain ⟨h1, h2, h3⟩ := vFst_lt _ _ _ _ h
    have := of_decide_eq_true h3
    rw [wKy_ok i (by omega)] at this
    exact ⟨by omega, this⟩
  · intro ⟨h1, h2, h3⟩
    refine vFst_yes _ 27 0 i (Nat.zero_le _) (by omega) (decide_eq_true (by rw [wKy_ok i h1]; exact ⟨h2, h3⟩)) (fun y _ hy => decide_eq_false (fun z => ?_))
    rw [wKy_ok y (by omega)] at z
    exact wKy_ne i h1 y hy h2 (h3.symm.trans z.2)
theorem wdx_iff {w i : Nat} : wdx w = some i ↔ i < 11 ∧ w = wKy i := by
  constructor
  · intro h
    unfold wdx at h
    repeat' split at h
    all_goals first | (cases h; rename_i e; exact ⟨by decide, e⟩) | cases h
  · intro ⟨h1, h2⟩
    subst h2
    rcases (show i = 0 ∨ i = 1 ∨ i = 2 ∨ i = 3 ∨ i = 4 ∨ i = 5 ∨ i = 6 ∨ i = 7 ∨ i = 8 ∨ i = 9 ∨ i = 10 by omega) with rfl | rfl | rfl | rfl | rfl | rfl | rfl | rfl | rfl | rfl | rfl <;> decide
theorem wdx_pos : ∀ i, i < 11 → 0 < wKy i := by decide
theorem wIx_0 : wIx 0 = none := by
  cases h : wIx 0 with
  | none => rfl
  | some i =>
    have := wIx_iff.mp h
    omega
theorem wk_no (h : q < n → lx_L (T q) = false) : lx_wk T n q = 0 := by
  unfold lx_wk
  rw [rn_no h, if_neg (by omega)]
theorem tkO_w : (tkO T n q).2.2.2.2 = wIx (lx_wk T n q) := by
  show (if (tkd T n q).1 = 2 then wIx (lx_wk T n q) else none) = _
  by_cases h2 : (tkd T n q).1 = 2
  · rw [if_pos h2]
  · rw [if_neg h2]
    have : lx_wk T n q = 0 := by
      refine wk_no (fun h => ?_)
      cases hL : lx_L (T q) with
      | false => rfl
      | true =>
        refine absurd ?_ h2
        unfold tkd
        have hD : lx_D (T q) = false := by
          obtain ⟨k, k1, k2, k3, k4⟩ := lx_L_of hL
          cases hD : lx_D (T q) with
          | false => rfl
          | true =>
            obtain ⟨d, d1, d2, d3⟩ := lx_D_of hD
            omega
        rw [if_pos h, hD, if_neg (by decide), if_pos hL]
    rw [this, wIx_0]
/-- marks -/
theorem mk_t (h : q < n) {c : Nat} (hc : T q = nI c) (hD : lx_D (nI c) = false) (hL : lx_L (nI c) = false) : tkd T n q = mkd T n q := by
  unfold tkd
  rw [if_pos h, hc, hD, if_neg (by decide), hL, if_neg (by decide)]
theorem tk_59 (h : q < n) (hc : T q = nI 59) : tkd T n q = (4, 0, q + 1) := by
  rw [mk_t h hc (by decide) (by decide)]
  unfold mkd
  rw [if_pos hc]
theorem tk_91 (h : q < n) (hc : T q = nI 91) : tkd T n q = (5, 0, q + 1) := by
  rw [mk_t h hc (by decide) (by decide)]
  unfold mkd
  rw [if_neg (by rw [hc]; decide), if_pos hc]
theorem tk_93 (h : q < n) (hc : T q = nI 93) : tkd T n q = (6, 0, q + 1) := by
  rw [mk_t h hc (by decide) (by decide)]
  unfold mkd
  rw [if_neg (by rw [hc]; decide), if_neg (by rw [hc]; decide), if_pos hc]
theorem tk_n (h : ¬ q < n) : tkd T n q = (0, 0, q) := by
  unfold tkd
  rw [if_neg h]
theorem tk_A {s : Nat} (h : opA T n q = some s) : tkd T n q = (7, xOp s, q + 1) ∧ tOp T n q = s := by
  have hq := opA_lt h
  have hc : T q = nI 43 ∨ T q = nI 45 := by
    unfold opA at h
    rw [if_pos hq] at h
    by_cases e : T q = nI 43
    · exact Or.inl e
    · rw [if_neg e] at h
      by_cases e : T q = nI 45
      · exact Or.inr e
      · rw [if_neg e] at h
        cases h
  refine ⟨?_, by unfold tOp; rw [h]⟩
  rcases hc with hc | hc <;>
  · rw [mk_t hq hc (by decide) (by decide)]
    unfold mkd
    rw [if_neg (by rw [hc]; decide), if_neg (by rw [hc]; decide), if_neg (by rw [hc]; decide), h]
theorem tk_M {s : Nat} (h : opM T n q = some s) : tkd T n q = (7, xOp s, q + 1) ∧ tOp T n q = s := by
  have hq := opM_lt h
  have hc : T q = nI 42 ∨ T q = nI 47 ∨ T q = nI 37 := by
    unfold opM at h
    rw [if_pos hq] at h
    by_cases e : T q = nI 42
    · exact Or.inl e
    · rw [if_neg e] at h
      by_cases e : T q = nI 47
      · exact Or.inr (Or.inl e)
      · rw [if_neg e] at h
        by_cases e : T q = nI 37
        · exact Or.inr (Or.inr e)
        · rw [if_neg e] at h
          cases h
  have hA : opA T n q = none := by
    unfold opA
    rw [if_pos hq]
    rcases hc with hc | hc | hc <;> rw [hc] <;> rfl
  refine ⟨?_, by unfold tOp; rw [hA, h]⟩
  rcases hc with hc | hc | hc <;>
  · rw [mk_t hq hc (by decide) (by decide)]
    unfold mkd
    rw [if_neg (by rw [hc]; decide), if_neg (by rw [hc]; decide), if_neg (by rw [hc]; decide), hA, h]
theorem tk_C {s e : Nat} (h : cmO T n q = some (s, e)) : tkd T n q = (8, xOp s, e) ∧ tOp T n q = s := by
  have hq : q < n := by have := cmO_lt h; omega
  have hc : T q = nI 60 ∨ T q = nI 61 ∨ T q = nI 62 := by
    unfold cmO at h
    rw [if_pos hq] at h
    by_cases e : T q = nI 60
    · exact Or.inl e
    · rw [if_neg e] at h
      by_cases e : T q = nI 61
      · exact Or.inr (Or.inl e)
      · rw [if_neg e] at h
        by_cases e : T q = nI 62
        · exact Or.inr (Or.inr e)
        · rw [if_neg e] at h
          cases h
  have hA : opA T n q = none := by
    unfold opA
    rw [if_pos hq]
    rcases hc with hc | hc | hc <;> rw [hc] <;> rfl
  have hM : opM T n q = none := by
    unfold opM
    rw [if_pos hq]
    rcases hc with hc | hc | hc <;> rw [hc] <;> rfl
  refine ⟨?_, by unfold tOp; rw [hA, hM, h]⟩
  rcases hc with hc | hc | hc <;>
  · rw [mk_t hq hc (by decide) (by decide)]
    unfold mkd
    rw [if_neg (by rw [hc]; decide), if_neg (by rw [hc]; decide), if_neg (by rw [hc]; decide), hA, hM, h]
/-- told back -/
theorem tk_inv : ((tkd T n q).1 = 7 → opA T n q ≠ none ∨ opM T n q ≠ none) ∧ ((tkd T n q).1 = 8 → cmO T n q ≠ none) ∧ ((tkd T n q).1 = 4 → q < n ∧ T q = nI 59) ∧ ((tkd T n q).1 = 5 → q < n ∧ T q = nI 91) ∧ ((tkd T n q).1 = 6 → q < n ∧ T q = nI 93) ∧ ((tkd T n q).1 = 0 → ¬ q < n) ∧ ((tkd T n q).1 = 3 → q < n ∧ lx_D (T q) = true) ∧ ((tkd T n q).1 = 2 → q < n ∧ lx_L (T q) = true) := by
  unfold tkd
  by_cases h : q < n
  · rw [if_pos h]
    by_cases hD : lx_D (T q) = true
    · rw [if_pos hD]
      exact ⟨fun z => by (cases z), fun z => by (cases z), fun z => by (cases z), fun z => by (cases z), fun z => by (cases z), fun z => by (cases z), fun _ => ⟨h, hD⟩, fun z => by (cases z)⟩
    · rw [if_neg hD]
      by_cases hL : lx_L (T q) = true
      · rw [if_pos hL]
        exact ⟨fun z => by (cases z), fun z => by (cases z), fun z => by (cases z), fun z => by (cases z), fun z => by (cases z), fun z => by (cases z), fun z => by (cases z), fun _ => ⟨h, hL⟩⟩
      · rw [if_neg hL]
        unfold mkd
        by_cases h1 : T q = nI 59
        · rw [if_pos h1]
          exact ⟨fun z => by (cases z), fun z => by (cases z), fun _ => ⟨h, h1⟩, fun z => by (cases z), fun z => by (cases z), fun z => by (cases z), fun z => by (cases z), fun z => by (cases z)⟩
        rw [if_neg h1]
        by_cases h1 : T q = nI 91
        · rw [if_pos h1]
          exact ⟨fun z => by (cases z), fun z => by (cases z), fun z => by (cases z), fun _ => ⟨h, h1⟩, fun z => by (cases z), fun z => by (cases z), fun z => by (cases z), fun z => by (cases z)⟩
        rw [if_neg h1]
        by_cases h1 : T q = nI 93
        · rw [if_pos h1]
          exact ⟨fun z => by (cases z), fun z => by (cases z), fun z => by (cases z), fun z => by (cases z), fun _ => ⟨h, h1⟩, fun z => by (cases z), fun z => by (cases z), fun z => by (cases z)⟩
        rw [if_neg h1]
        cases hA : opA T n q with
        | some s => exact ⟨fun _ => Or.inl (fun z => by cases z), fun z => by (cases z), fun z => by (cases z), fun z => by (cases z), fun z => by (cases z), fun z => by (cases z), fun z => by (cases z), fun z => by (cases z)⟩
        | none =>
          cases hM : opM T n q with
          | some s => exact ⟨fun _ => Or.inr (fun z => by cases z), fun z => by (cases z), fun z => by (cases z), fun z => by (cases z), fun z => by (cases z), fun z => by (cases z), fun z => by (cases z), fun z => by (cases z)⟩
          | none =>
            cases hC : cmO T n q with
            | some y => exact ⟨fun z => by (cases z), fun _ z => by (cases z), fun z => by (cases z), fun z => by (cases z), fun z => by (cases z), fun z => by (cases z), fun z => by (cases z), fun z => by (cases z)⟩
            | none => exact ⟨fun z => by (cases z), fun z => by (cases z), fun z => by (cases z), fun z => by (cases z), fun z => by (cases z), fun z => by (cases z), fun z => by (cases z), fun z => by (cases z)⟩
  · rw [if_neg h]
    exact ⟨fun z => by (cases z), fun z => by (cases z), fun z => by (cases z), fun z => by (cases z), fun z => by (cases z), fun _ => h, fun z => by (cases z), fun z => by (cases z)⟩
/-- what waits, put in two goes -/
theorem ptl_2 {b c : Nat} (h : c ≤ b) : ∀ W, (ptl c W).1 = (ptl b W).1 ++ (ptl c (ptl b W).2).1 ∧ (ptl c W).2 = (ptl c (ptl b W).2).2
  | [] => ⟨rfl, rfl⟩
  | o :: r => by
    obtain ⟨h1, h2⟩ := ptl_2 h r
    by_cases hb : b ≤ bd o
    · have e1 : ptl b (o :: r) = (o :: (ptl b r).1, (ptl b r).2) := by
        show (if b ≤ bd o then _ else _) = _
        rw [if_pos hb]
      have e2 : ptl c (o :: r) = (o :: (ptl c r).1, (ptl c r).2) := by
        show (if c ≤ bd o then _ else _) = _
        rw [if_pos (by omega)]
      rw [e1, e2]
      exact ⟨by show o :: _ = o :: _; rw [h1]; rfl, h2⟩
    · have e1 : ptl b (o :: r) = ([], o :: r) := by
        show (if b ≤ bd o then _ else _) = _
        rw [if_neg hb]
      rw [e1]
      exact ⟨rfl, rfl⟩
theorem ptl_lo {b : Nat} {W : List Nat} (h : hb W < b) : ptl b W = ([], W) := by
  cases W with
  | nil => rfl
  | cons o r =>
    have h : bd o < b := h
    show (if b ≤ bd o then _ else _) = _
    rw [if_neg (by omega)]
end RA
