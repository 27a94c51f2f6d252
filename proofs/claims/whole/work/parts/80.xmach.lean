/-! a machine that reads rules sign by sign, and the class' steps of it -/
/-- want, want behind a sum, behind a value, what waits, codes of this part, parts, clauses, the sum of this clause -/
abbrev fxXc : Type := Nat × Nat × Bool × List Nat × List Nat × Nat × fxRl × Option (List Nat)
/-- a sign: kind, operator, too long, number, word -/
abbrev fxTo : Type := Nat × Nat × Bool × Nat × Option Nat
def mvl (t : fxTo) (wb : Nat) (W O : List Nat) (P : Nat) (R : fxRl) (S : Option (List Nat)) : Nat ⊕ fxXc :=
  if t.1 = 3 then (if t.2.2.1 = true then .inl 1 else if P = 60 then .inl 3 else .inr (wb, wb, true, W, O ++ [16 * t.2.2.2.1], P + 1, R, S))
  else match t.2.2.2.2 with
    | none => .inl 0
    | some i => if i < 11 then (if P = 60 then .inl 3 else .inr (wb, wb, true, W, O ++ [1 + 16 * i], P + 1, R, S)) else .inl 0
def mjn (s w wb : Nat) (W O : List Nat) (P : Nat) (R : fxRl) (S : Option (List Nat)) : fxXc := (w, wb, false, s :: (ptl (bd s) W).2, O ++ (ptl (bd s) W).1, P, R, S)
def mst (t : fxTo) (want wb : Nat) (bv : Bool) (W O : List Nat) (P : Nat) (R : fxRl) (S : Option (List Nat)) : Nat ⊕ fxXc :=
  if bv = true ∧ t.1 = 7 then .inr (mjn t.2.1 1 wb W O P R S)
  else if want = 0 then (if t.2.2.2.2 = some 26 then (if R.length = 12 then .inl 4 else .inr (1, 3, false, W, O, P, R, S)) else .inl 0)
  else if want = 1 then mvl t wb W O P R S
  else if want = 2 then (if t.2.2.2.2 = some 23 then (if dp W = 10 then .inl 2 else .inr (2, wb, false, 11 :: W, O, P, R, S)) else if t.1 = 5 then (if dp W = 10 then .inl 2 else .inr (2, wb, false, 91 :: W, O, P, R, S)) else mvl t 4 W O P R S)
  else if want = 3 then (if t.2.2.2.2 = some 25 then .inr (2, wb, false, (ptl 1 W).2, [], P, R, some (O ++ (ptl 1 W).1)) else if t.1 = 4 ∨ t.1 = 0 then .inr (if t.1 = 0 then 6 else 0, wb, false, (ptl 1 W).2, [], P, R ++ [(O ++ (ptl 1 W).1, none)], none) else .inl 0)
  else if want = 4 then (if t.1 = 8 then (if P = 60 then .inl 3 else .inr (mjn t.2.1 1 5 W O (P + 1) R S)) else .inl 0)
  else (if t.2.2.2.2 = some 21 then .inr (mjn 12 2 wb W O P R S) else if t.2.2.2.2 = some 22 then .inr (mjn 13 2 wb W O P R S) else if t.1 = 6 ∧ isI W = true then .inr (5, wb, false, (ptl 1 W).2.tail, O ++ (ptl 1 W).1, P, R, S) else if (t.1 = 4 ∨ t.1 = 0) ∧ isI W = false then .inr (if t.1 = 0 then 6 else 0, wb, false, (ptl 1 W).2, [], P, R ++ [(S.getD [], some (O ++ (ptl 1 W).1))], none) else .inl 0)
def bk : List Nat → Nat
  | [] => 0
  | o :: r => bk r + (if o = 91 then 1 else 0)
theorem bk_I (W : List Nat) : isI W = decide (0 < bk W) := by
  induction W with
  | nil => rfl
  | cons o r ih =>
    unfold isI at ih ⊢
    rw [List.any_cons, ih]
    show ((o == 91) || decide (0 < bk r)) = decide (0 < bk r + if o = 91 then 1 else 0)
    by_cases e : o = 91
    · subst e
      rw [if_pos rfl, decide_eq_true (show 0 < bk r + 1 by omega)]
      rfl
    · rw [if_neg e, beq_false_of_ne e, Bool.false_or, Nat.add_zero]
theorem bk_app (a b : List Nat) : bk (a ++ b) = bk a + bk b := by
  induction a with
  | nil => show bk b = 0 + bk b; omega
  | cons o r ih =>
    show bk (r ++ b) + _ = bk r + _ + bk b
    rw [ih]
    omega
theorem ptl_bk {b : Nat} (hb : 1 ≤ b) : ∀ W, bk (ptl b W).1 = 0 ∧ bk (ptl b W).2 = bk W
  | [] => ⟨rfl, rfl⟩
  | o :: r => by
    obtain ⟨h1, h2⟩ := ptl_bk hb r
    unfold ptl
    split
    · rename_i h
      have e : o ≠ 91 := fun z => by
        subst z
        have : bd 91 = 0 := rfl
        omega
      refine ⟨?_, ?_⟩
      · show bk (ptl b r).1 + (if o = 91 then 1 else 0) = 0
        rw [h1, if_neg e]
      · show bk (ptl b r).2 = bk r + (if o = 91 then 1 else 0)
        rw [h2, if_neg e]
        rfl
    · exact ⟨rfl, rfl⟩
def XMa (hi : fxI3) : fxRl → Nat → Nat → Prop
  | [], _, _ => True
  | (s, o) :: r, c, q => hi 26 0 c = nI q ∧ hi 27 0 c = nI (q + s.length) ∧ hi 26 0 (c + 1) = nI (q + s.length + (o.getD []).length) ∧ XMa hi r (c + 1) (q + s.length + (o.getD []).length)
theorem XMa_of {hi hi' : fxI3} : ∀ (R : fxRl) (c q : Nat), XMa hi R c q → (∀ x, x ≤ c + R.length → hi' 26 0 x = hi 26 0 x) → (∀ x, x < c + R.length → hi' 27 0 x = hi 27 0 x) → XMa hi' R c q
  | [], _, _, _, _, _ => trivial
  | (s, o) :: r, c, q, h, h6, h7 => by
    obtain ⟨a1, a2, a3, a4⟩ := h
    rw [List.length_cons] at h6 h7
    exact ⟨(h6 _ (by omega)).trans a1, (h7 _ (by omega)).trans a2, (h6 _ (by omega)).trans a3, XMa_of r _ _ a4 (fun x hx => h6 x (by omega)) (fun x hx => h7 x (by omega))⟩
theorem XMa_snoc {hi : fxI3} {s : List Nat} {o : Option (List Nat)} : ∀ (R : fxRl) (c q : Nat), XMa hi R c q → hi 26 0 (c + R.length) = nI (q + (flt R).length) → hi 27 0 (c + R.length) = nI (q + (flt R).length + s.length) → hi 26 0 (c + R.length + 1) = nI (q + (flt R).length + s.length + (o.getD []).length) → XMa hi (R ++ [(s, o)]) c q
  | [], c, q, _, h1, h2, h3 => ⟨h1, h2, h3, trivial⟩
  | (s2, o2) :: r, c, q, h, h1, h2, h3 => by
    obtain ⟨a1, a2, a3, a4⟩ := h
    have e : (flt ((s2, o2) :: r)).length = s2.length + ((o2.getD []).length + (flt r).length) := by
      show (s2 ++ (o2.getD [] ++ flt r)).length = _
      rw [List.length_append, List.length_append]
    rw [List.length_cons, e] at h1 h2 h3
    refine ⟨a1, a2, a3, XMa_snoc r (c + 1) _ a4 ?_ ?_ ?_⟩
    · rw [show c + 1 + r.length = c + (r.length + 1) by omega, h1]
      congr 1
      omega
    · rw [show c + 1 + r.length = c + (r.length + 1) by omega, h2]
      congr 1
      omega
    · rw [show c + 1 + r.length + 1 = c + (r.length + 1) + 1 by omega, h3]
      congr 1
      omega
def XC (hi : fxI3) (x : fxXc) : Prop := match x with
  | (want, wb, bv, W, O, P, R, S) => CD hi (flt R ++ (S.getD [] ++ O)) ∧ WW hi W ∧ hi 6 0 8 = nI (dp W) ∧ hi 6 0 9 = nI (bk W) ∧ hi 6 0 10 = nI P ∧ hi 6 0 12 = nI want ∧ hi 6 0 13 = nI wb ∧ hi 6 0 14 = b01 bv ∧ hi 6 0 6 = nI R.length ∧ XMa hi R 0 0 ∧ (want ≠ 0 → want ≠ 6 → hi 26 0 R.length = nI (flt R).length) ∧ ∀ s, S = some s → hi 27 0 R.length = nI ((flt R).length + s.length)
/-- what holds of a state of it -/
def VX (x : fxXc) : Prop := match x with
  | (want, wb, bv, W, O, P, R, S) => okW W ∧ (flt R).length + ((S.getD []).length + O.length) + W.length ≤ 399 ∧ W.length ≤ 60 ∧ P ≤ 60 ∧ R.length ≤ 12 ∧ dp W ≤ 10 ∧ bk W ≤ 10 ∧ (want ≠ 0 → want ≠ 6 → R.length < 12) ∧ (want = 3 → S = none) ∧ want ≤ 6 ∧ True
def TC (hi : fxI3) (t : fxTo) : Prop := hi 7 1 3 = nI t.1 ∧ t.1 < 10 ∧ hi 6 0 11 = oI t.2.2.2.2 ∧ (∀ i, t.2.2.2.2 = some i → i < 27) ∧ (t.1 = 7 ∨ t.1 = 8 → hi 7 1 5 = nI (xOp t.2.1) ∧ 2 ≤ t.2.1 ∧ t.2.1 ≤ 14 ∧ t.2.1 ≠ 11) ∧ (t.1 = 3 → hi 7 1 5 = nI t.2.2.2.1 ∧ t.2.2.2.1 < 100000) ∧ ∃ e q, hi 7 1 2 = nI e ∧ hi 7 1 4 = nI q ∧ q ≤ e ∧ e ≤ 400 ∧ t.2.2.1 = decide (5 < e - q)
def Fr8 (hi hi' : fxI3) : Prop := ∀ k j s, k ≠ 6 → ¬ (25 ≤ k ∧ k ≤ 28) → hi' k j s = hi k j s
theorem Fr8.rf (hi : fxI3) : Fr8 hi hi := fun _ _ _ _ _ => rfl
theorem Fr8.tr {a b c : fxI3} (h : Fr8 a b) (g : Fr8 b c) : Fr8 a c := fun k j s h1 h2 => (g k j s h1 h2).trans (h k j s h1 h2)
theorem Fr6.e {a b : fxI3} (h : Fr6 a b) : Fr8 a b := fun k j s h1 h2 => h k j s (by omega) (by omega) (by omega)
theorem Fr8.up (hi : fxI3) {k j s : Nat} (x : Int32) (h : k = 6 ∨ 25 ≤ k ∧ k ≤ 28) : Fr8 hi (fx_up hi k j s x) := fun k' j' s' h1 h2 => up_off hi x (fun z => by omega)
def SRs (D y : Nat) (σ : fxS) (hi : fxI3) (hl : fxL3) (res : Nat ⊕ fxXc) : Prop := match res with
  | .inl f => ∃ hi', fx_Ga D y [rrO] (hp σ hi hl) (some (vi (nI f))) (hp σ hi' hl) ∧ Fr8 hi hi'
  | .inr x => ∃ hi', fx_Ga D y [rrO] (hp σ hi hl) (some (vi (-1))) (hp σ hi' hl) ∧ Fr8 hi hi' ∧ XC hi' x
def SRP (σ : fxS) (hi : fxI3) (hl : fxL3) (res : Nat ⊕ fxXc) : Option fxV → fxH → Prop := fun r2 h2 => match res with
  | .inl f => r2 = some (vi (nI f)) ∧ ∃ hi', h2 = hp σ hi' hl ∧ Fr8 hi hi'
  | .inr x => r2 = some (vi (-1)) ∧ ∃ hi', h2 = hp σ hi' hl ∧ Fr8 hi hi' ∧ XC hi' x
theorem SR_of {d y : Nat} {σ : fxS} {hi : fxI3} {hl : fxL3} {res : Nat ⊕ fxXc} (M : fxM) (lv : fxLv) (hy : y < 255) (hM : (fx_Y y).2.1 = M) (hlv : fx_ent M.1.2.2.1 [rrO] = lv) (hll : (fx_sl [rrO]).length ≤ M.1.2.2.1) (k : fx_E (fx_Ga d) M (0, lv, [], hp σ hi hl, 0, 0) (SRP σ hi hl res)) : SRs (d + 1) y σ hi hl res := by
  obtain ⟨r, h', hg, e⟩ := fx_methX (P := SRP σ hi hl res) M lv hy hM hlv hll k
  match res, e with
  | .inl f, ⟨e1, hi', e2, e3⟩ =>
    subst e1
    subst e2
    exact ⟨hi', hg, e3⟩
  | .inr x, ⟨e1, hi', e2, e3⟩ =>
    subst e1
    subst e2
    exact ⟨hi', hg, e3⟩
theorem xCd_n (v : Nat) : xCd (16 * v) = nI v := by
  unfold xCd
  rw [if_pos (by omega)]
  congr 1
  omega
theorem xCd_w : ∀ i, i < 11 → nI i ^^^ -1 = xCd (1 + 16 * i) := by decide +kernel
theorem getD_nil (l : List Nat) : (none : Option (List Nat)).getD [] ++ l = l := rfl
section XH
variable {d : Nat} {σ : fxS} {hi : fxI3} {hl : fxL3} {want wb P : Nat} {bv : Bool} {W O : List Nat} {R : fxRl} {S : Option (List Nat)} {t : fxTo}
theorem x_readValue (hx : XC hi (want, wb, false, W, O, P, R, S)) (hv : VX (want, wb, false, W, O, P, R, S)) (hw0 : want ≠ 0 ∧ want ≠ 6) (hb0 : wb ≠ 0 ∧ wb ≠ 6) (ht : TC hi t) : SRs (d + 2) 49 σ hi hl (mvl t wb W O P R S) := by
  obtain ⟨x1, x2, x3, x4, x5, x6, x7, x8, x9, x10, x11, x12⟩ := hx
  obtain ⟨v1, v2, v3, v4, v5, v6, v7, v8, v9, v10, v11⟩ := hv
  obtain ⟨t1, t2, t3, t4, t5, t6, e, q, t7, t8, t9, t10, t11⟩ := ht
  refine SR_of (d := d + 1) fx_M49 [some rrO, none] (by decide) rfl rfl (Nat.le_of_ble_eq_true rfl) ?_
  unfold mvl
  -- behind the tests
  have fin : ∀ (c : Nat) (code : Int32) (isn : Int32), code = xCd c → ¬ P = 60 → (isn = 1 ∧ code = hi 7 1 5 ∨ isn = 0 ∧ code = hi 6 0 11 ^^^ -1) → fx_E (fx_Ga (d + 1)) fx_M49 (55, [some rrO, some (vi isn)], [], hp σ hi hl, 0, 0) (SRP σ hi hl (.inr (wb, wb, true, W, O ++ [c], P + 1, R, S))) := by
    intro c code isn ec h60 hc
    have hcd : CD (fx_up hi 6 0 10 (hi 6 0 10 + 1)) (flt R ++ (S.getD [] ++ O)) := x1
    obtain ⟨hi2, hg2, f2, hc2⟩ := x_put (d := d) (σ := σ) (hl := hl) hcd (by rw [List.length_append, List.length_append]; omega) c
    have g : ∀ s, s ≠ 5 → s ≠ 10 → hi2 6 0 s = hi 6 0 s := fun s h1 h2 => (f2 6 0 s (by omega) (by omega)).trans (up_off _ _ (by omega))
    have done : SRP σ hi hl (.inr (wb, wb, true, W, O ++ [c], P + 1, R, S)) (some (vi (-1))) (hp σ (fx_up (fx_up hi2 6 0 12 (hi2 6 0 13)) 6 0 14 1) hl) := by
      have u : ∀ k j s, ¬ (k = 6 ∧ (s = 12 ∨ s = 14)) → fx_up (fx_up hi2 6 0 12 (hi2 6 0 13)) 6 0 14 1 k j s = hi2 k j s := fun k j s h => by rw [up_off _ _ (by omega), up_off _ _ (by omega)]
      refine ⟨rfl, _, rfl, fun k j s h1 h2 => ?_, ?_⟩
      · rw [u k j s (by omega), f2 k j s (by omega) (by omega), up_off _ _ (by omega)]
      · refine ⟨?_, ?_, ?_, ?_, ?_, ?_, ?_, ?_, ?_, ?_, ?_, ?_⟩
        · rw [show flt R ++ (S.getD [] ++ (O ++ [c])) = flt R ++ (S.getD [] ++ O) ++ [c] by rw [List.append_assoc, List.append_assoc]]
          exact ⟨(u 6 0 5 (by omega)).trans hc2.1, fun k hk => (u 25 0 k (by omega)).trans (hc2.2 k hk)⟩
        · exact ⟨(u 6 0 7 (by omega)).trans ((g 7 (by decide) (by decide)).trans x2.1), fun k hk => (u 28 0 _ (by omega)).trans ((f2 28 0 _ (by omega) (by omega)).trans (x2.2 k hk))⟩
        · exact (u 6 0 8 (by omega)).trans ((g 8 (by decide) (by decide)).trans x3)
        · exact (u 6 0 9 (by omega)).trans ((g 9 (by decide) (by decide)).trans x4)
        · rw [u 6 0 10 (by omega), f2 6 0 10 (by omega) (by omega), up_at, x5, nI_1]
        · rw [up_off _ _ (by omega), up_at]
          exact (g 13 (by decide) (by decide)).trans x7
        · exact (u 6 0 13 (by omega)).trans ((g 13 (by decide) (by decide)).trans x7)
        · rw [up_at]
          rfl
        · exact (u 6 0 6 (by omega)).trans ((g 6 (by decide) (by decide)).trans x9)
        · exact XMa_of R 0 0 x10 (fun x _ => (u 26 0 x (by omega)).trans (f2 26 0 x (by omega) (by omega))) (fun x _ => (u 27 0 x (by omega)).trans (f2 27 0 x (by omega) (by omega)))
        · exact fun _ _ => (u 26 0 _ (by omega)).trans ((f2 26 0 _ (by omega) (by omega)).trans (x11 hw0.1 hw0.2))
        · exact fun s hs => (u 27 0 _ (by omega)).trans ((f2 27 0 _ (by omega) (by omega)).trans (x12 s hs))
    refine fx_wpE [] 60 (pk_lt P 60 (fun _ => ?_) (fun h => by omega) x5)
    rcases hc with ⟨hc, ev⟩ | ⟨hc, ev⟩
    · subst hc
      rw [← ec, ev] at hg2
      exact ⟨fun w => absurd w (by decide), fun _ => ⟨_, _, hg2, done⟩⟩
    · subst hc
      rw [← ec, ev] at hg2
      exact ⟨fun _ => ⟨_, _, hg2, done⟩, fun w => absurd rfl w⟩
  have f60 : ∀ isn : Int32, P = 60 → fx_E (fx_Ga (d + 1)) fx_M49 (55, [some rrO, some (vi isn)], [], hp σ hi hl, 0, 0) (SRP σ hi hl (.inl 3)) := fun isn h => fx_wpE [] 20 (pk_lt P 60 (fun w => by omega) (fun _ => ⟨rfl, hi, rfl, Fr8.rf hi⟩) x5)
  by_cases h3 : t.1 = 3
  · rw [if_pos h3]
    have htl := x_isTooLong (d := d) (σ := σ) (hl := hl) (j := 1) t7 t8 t9 (by omega)
    rw [← t11] at htl
    obtain ⟨n5, n6⟩ := t6 h3
    refine fx_wpE [55] 40 (nn_eq t.1 3 (fun _ => ⟨fun _ => ⟨fun w => absurd w (by decide), fun _ => ⟨_, _, htl, b01_if (fun z => ?_) (fun z => ?_)⟩⟩, fun w => absurd (fun z => absurd z (by decide)) w⟩) (fun h => absurd h3 h) t1)
    · rw [z]
      rw [if_neg (by simp)]
      by_cases h60 : P = 60
      · rw [if_pos h60]
        exact f60 1 h60
      · rw [if_neg h60]
        exact fin (16 * t.2.2.2.1) (hi 7 1 5) 1 (by rw [xCd_n]; exact n5) h60 (Or.inl ⟨rfl, rfl⟩)
    · rw [if_pos z]
      exact ⟨rfl, hi, rfl, Fr8.rf hi⟩
  · rw [if_neg h3]
    cases hw : t.2.2.2.2 with
    | none =>
      rw [hw] at t3
      have em : hi 6 0 11 < 0 := by rw [t3]; decide
      exact fx_wpE [55] 40 (nn_eq t.1 3 (fun h => absurd h h3) (fun _ => ⟨fun w => absurd rfl w, fun _ => ⟨fun _ => ⟨rfl, hi, rfl, Fr8.rf hi⟩, fun w => absurd em w⟩⟩) t1)
    | some i =>
      rw [hw] at t3
      have i27 := t4 i hw
      have t3 : hi 6 0 11 = nI i := t3
      have em : ¬ hi 6 0 11 < 0 := by rw [t3]; exact nI_pos (by omega)
      dsimp only
      by_cases hi11 : i < 11
      · rw [if_pos hi11]
        refine fx_wpE [55] 40 (nn_eq t.1 3 (fun h => absurd h h3) (fun _ => ⟨fun w => absurd rfl w, fun _ => ⟨fun w => absurd w em, fun _ => pk_lt i 11 (fun _ => ⟨fun _ => ?_, fun w => absurd rfl w⟩) (fun h => by omega) t3⟩⟩) t1)
        by_cases h60 : P = 60
        · rw [if_pos h60]
          exact f60 0 h60
        · rw [if_neg h60]
          exact fin (1 + 16 * i) (hi 6 0 11 ^^^ -1) 0 (by rw [t3, xCd_w i hi11]) h60 (Or.inr ⟨rfl, rfl⟩)
      · rw [if_neg hi11]
        exact fx_wpE [55] 40 (nn_eq t.1 3 (fun h => absurd h h3) (fun _ => ⟨fun w => absurd rfl w, fun _ => ⟨fun w => absurd w em, fun _ => pk_lt i 11 (fun h => absurd h hi11) (fun _ => ⟨rfl, hi, rfl, Fr8.rf hi⟩) t3⟩⟩) t1)
theorem x_endSum (hbn : BN hi) {C : List Nat} (hc : CD hi C) (hw : WW hi W) (hd : hi 6 0 8 = nI (dp W)) (hk : okW W) (hlen : C.length + W.length ≤ 400) (h64 : W.length ≤ 64) {c : Nat} (h6 : hi 6 0 6 = nI c) (c12 : c < 12) : ∃ hi', fx_Ga (d + 3) 54 [rrO] (hp σ hi hl) none (hp σ hi' hl) ∧ (∀ k j s, ¬ (k = 6 ∧ (s = 5 ∨ s = 7 ∨ s = 8)) → k ≠ 25 → k ≠ 28 → ¬ (k = 27 ∧ s = c) → hi' k j s = hi k j s) ∧ CD hi' (C ++ (ptl 1 W).1) ∧ WW hi' (ptl 1 W).2 ∧ hi' 6 0 8 = nI (dp (ptl 1 W).2) ∧ hi' 27 0 c = nI (C ++ (ptl 1 W).1).length := by
  obtain ⟨hi1, hg1, f1, c1, w1, d1⟩ := x_putTighter (d := d) (σ := σ) (hl := hl) (b := 1) (by decide) hbn W C hi hbn hc hw hd hk hlen h64
  have e6 : hi1 6 0 6 = nI c := (f1 6 0 6 (by omega) (by omega) (by omega)).trans h6
  refine ⟨fx_up hi1 27 0 c (nI (C ++ (ptl 1 W).1).length), ?_, fun k j s h1 h2 h3 h4 => by rw [up_off _ _ (by omega)]; exact f1 k j s h1 h2 h3, c1, w1, d1, up_at _ _ _ _ _⟩
  refine fx_meth fx_M54 [some rrO] (by decide) rfl rfl (Nat.le_of_ble_eq_true rfl) (fx_wpE [] 40 ⟨_, _, hg1, pk_le 12 c (fun h => by omega) (fun _ => ⟨ni_inx (n := c) (m := 12) e6 c12 (by decide), rfl, ?_⟩) rfl e6⟩)
  show hp σ (fx_up hi1 27 0 (hi1 6 0 6).toNatClampNeg (hi1 6 0 5)) hl = _
  rw [e6, nI_clamp (by omega), c1.1]
theorem x_endClause {c m kd : Nat} (h6 : hi 6 0 6 = nI c) (c12 : c < 12) (h5 : hi 6 0 5 = nI m) (h3 : hi 7 1 3 = nI kd) (k10 : kd < 10) : fx_Ga (d + 1) 55 [rrO] (hp σ hi hl) none (hp σ (fx_up (fx_up (fx_up hi 6 0 6 (nI (c + 1))) 26 0 (c + 1) (nI m)) 6 0 12 (nI (if kd = 0 then 6 else 0))) hl) := by
  have e1 : fx_up hi 6 0 6 (hi 6 0 6 + 1) 6 0 6 = nI (c + 1) := by rw [up_at, h6, nI_1]
  refine fx_meth fx_M55 [some rrO] (by decide) rfl rfl (Nat.le_of_ble_eq_true rfl) (fx_wpE [] 60 (pk_le 12 c (fun h => by omega) (fun _ => ⟨ni_inx (n := c + 1) (m := 13) e1 (by omega) (by decide), nn_eq kd 0 (fun e => ⟨rfl, ?_⟩) (fun e => ⟨rfl, ?_⟩) h3⟩) rfl h6))
  · show hp σ (fx_up (fx_up (fx_up hi 6 0 6 (hi 6 0 6 + 1)) 26 0 (fx_up hi 6 0 6 (hi 6 0 6 + 1) 6 0 6).toNatClampNeg (hi 6 0 5)) 6 0 12 6) hl = _
    rw [e1, h6, nI_1, nI_clamp (by omega), h5, if_pos e]
    rfl
  · show hp σ (fx_up (fx_up (fx_up hi 6 0 6 (hi 6 0 6 + 1)) 26 0 (fx_up hi 6 0 6 (hi 6 0 6 + 1) 6 0 6).toNatClampNeg (hi 6 0 5)) 6 0 12 0) hl = _
    rw [e1, h6, nI_1, nI_clamp (by omega), h5, if_neg e]
    rfl
end XH
