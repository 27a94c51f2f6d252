/-! signs of a text: the class -/
abbrev gO (j : Nat) : fxV := .inr (.inr (some (7, j)))
def SG (hi : fxI3) (j n : Nat) (T : Nat → Int32) : Prop := n ≤ 400 ∧ hi 7 j 1 = nI n ∧ ∀ i, i < n → hi 20 0 i = T i
def Fr7 (j : Nat) (hi hi' : fxI3) : Prop := ∀ k j' s, ¬ (k = 7 ∧ j' = j ∧ 2 ≤ s ∧ s ≤ 5) → hi' k j' s = hi k j' s
theorem Fr7.rf (j : Nat) (hi : fxI3) : Fr7 j hi hi := fun _ _ _ _ => rfl
theorem Fr7.tr {j : Nat} {a b c : fxI3} (h : Fr7 j a b) (g : Fr7 j b c) : Fr7 j a c := fun k j' s h1 => (g k j' s h1).trans (h k j' s h1)
theorem Fr7.up {j : Nat} (hi : fxI3) {s : Nat} (x : Int32) (h : 2 ≤ s ∧ s ≤ 5) : Fr7 j hi (fx_up hi 7 j s x) := fun k' j' s' h1 => up_off hi x (fun z => h1 ⟨z.1, z.2.1, by omega⟩)
theorem SG.fr {hi hi' : fxI3} {j n : Nat} {T : Nat → Int32} (h : SG hi j n T) (f : Fr7 j hi hi') : SG hi' j n T := ⟨h.1, (f 7 j 1 (by omega)).trans h.2.1, fun i hi2 => (f 20 0 i (by omega)).trans (h.2.2 i hi2)⟩
def mkd (T : Nat → Int32) (n q : Nat) : Nat × Nat × Nat := if T q = nI 59 then (4, 0, q + 1) else if T q = nI 91 then (5, 0, q + 1) else if T q = nI 93 then (6, 0, q + 1) else match opA T n q with
  | some s => (7, xOp s, q + 1)
  | none => match opM T n q with
    | some s => (7, xOp s, q + 1)
    | none => match cmO T n q with
      | some (s, e) => (8, xOp s, e)
      | none => (1, 0, q + 1)
/-- kind, value and where the next one begins -/
def tkd (T : Nat → Int32) (n q : Nat) : Nat × Nat × Nat := if q < n then (if lx_D (T q) = true then (3, lx_nv T q (lx_rn lx_D T n q - q), lx_rn lx_D T n q) else if lx_L (T q) = true then (2, 0, lx_rn lx_L T n q) else mkd T n q) else (0, 0, q)
def TK (hi : fxI3) (j p q : Nat) (t : Nat × Nat × Nat) : Prop := hi 7 j 2 = nI t.2.2 ∧ hi 7 j 3 = nI t.1 ∧ hi 7 j 4 = nI q ∧ hi 7 j 5 = nI t.2.1
section XL
variable {d : Nat} {σ : fxS} {hi : fxI3} {hl : fxL3} {n p q j : Nat} {T : Nat → Int32}
theorem sg_at (hs : SG hi j n T) {k : Nat} (hk : k < n) : hi 20 0 (nI k).toNatClampNeg = T k := by
  rw [nI_clamp (by have := hs.1; omega)]
  exact hs.2.2 k hk
theorem x_sDigit {h : fxH} (x : Int32) : fx_Ga (d + 1) 68 [vi x] h (some (vi (b01 (lx_D x)))) h := by
  refine fx_meth fx_M68 [some (vi x)] (by decide) rfl rfl (Nat.le_of_ble_eq_true rfl) (fx_wpE [] 40 ?_)
  unfold lx_D
  refine ilt rfl rfl (fun z => ⟨Or.inl rfl, ?_, rfl⟩) (fun z => ilt rfl rfl (fun y => ⟨Or.inl rfl, ?_, rfl⟩) (fun y => ⟨Or.inr rfl, ?_, rfl⟩))
  · rw [decide_eq_false (fun w => absurd w.1 (Int32.not_le.mpr z))]
    rfl
  · rw [decide_eq_false (fun w => absurd w.2 (Int32.not_le.mpr y))]
    rfl
  · rw [decide_eq_true ⟨Int32.not_lt.mp z, Int32.not_lt.mp y⟩]
    rfl
theorem x_sLetter {h : fxH} (x : Int32) : fx_Ga (d + 1) 69 [vi x] h (some (vi (b01 (lx_L x)))) h := by
  refine fx_meth fx_M69 [some (vi x)] (by decide) rfl rfl (Nat.le_of_ble_eq_true rfl) (fx_wpE [] 40 ?_)
  unfold lx_L
  refine ilt rfl rfl (fun z => ⟨Or.inl rfl, ?_, rfl⟩) (fun z => ilt rfl rfl (fun y => ⟨Or.inl rfl, ?_, rfl⟩) (fun y => ⟨Or.inr rfl, ?_, rfl⟩))
  · rw [decide_eq_false (fun w => absurd w.1 (Int32.not_le.mpr z))]
    rfl
  · rw [decide_eq_false (fun w => absurd w.2 (Int32.not_le.mpr y))]
    rfl
  · rw [decide_eq_true ⟨Int32.not_lt.mp z, Int32.not_lt.mp y⟩]
    rfl
theorem x_readNumber (hs : SG hi j n T) (h2 : hi 7 j 2 = nI q) (h4 : hi 7 j 4 = nI q) (h5 : hi 7 j 5 = nI 0) (hqn : q ≤ n) : ∃ hi', fx_Ga (d + 2) 70 [gO j] (hp σ hi hl) none (hp σ hi' hl) ∧ Fr7 j hi hi' ∧ TK hi' j q q (3, lx_nv T q (lx_rn lx_D T n q - q), lx_rn lx_D T n q) := by
  have h400 := hs.1
  have hen : lx_rn lx_D T n q ≤ n := rn_le hqn
  have hge : q ≤ lx_rn lx_D T n q := rn_ge
  have hal : ∀ i, i < lx_rn lx_D T n q - q → lx_D (T (q + i)) = true := fun i hi2 => rn_all (P := lx_D) (T := T) (n := n) (p := q) (by omega) (by omega)
  have hend : lx_rn lx_D T n q < n → lx_D (T (lx_rn lx_D T n q)) = false := fun h => rn_end hqn h
  obtain ⟨l, hl1⟩ : ∃ l, lx_rn lx_D T n q = q + l := ⟨lx_rn lx_D T n q - q, by omega⟩
  rw [hl1] at hen hend hal ⊢
  rw [Nat.add_sub_cancel_left] at hal ⊢
  let Post : Option fxV → fxH → Prop := fun r2 h2 => r2 = none ∧ ∃ hi', h2 = hp σ hi' hl ∧ Fr7 j hi hi' ∧ TK hi' j q q (3, lx_nv T q l, q + l)
  have loop : ∀ t k (hb : fxI3), k + t = l → Fr7 j hi hb → TK hb j q q (3, lx_nv T q k, q + k) → fx_E (fx_Ga (d + 1)) fx_M70 (5, [some (gO j)], [], hp σ hb hl, 0, 0) Post := by
    intro t
    induction t with
    | zero =>
      intro k hb hk g1 g2
      have : k = l := by omega
      subst this
      have hsb := hs.fr g1
      by_cases h : q + k < n
      · have hd := x_sDigit (d := d) (h := hp σ hb hl) (hb 20 0 (hb 7 j 2).toNatClampNeg)
        rw [show hb 20 0 (hb 7 j 2).toNatClampNeg = T (q + k) by rw [g2.1]; exact sg_at hsb h, hend h] at hd
        rw [show T (q + k) = hb 20 0 (hb 7 j 2).toNatClampNeg by rw [g2.1]; exact (sg_at hsb h).symm] at hd
        exact fx_wpL [5] 40 (pk_le n (q + k) (fun w => by omega) (fun _ => ⟨ni_inx (n := q + k) (m := 400) g2.1 (by omega) (by decide), _, _, hd, b01_if (fun _ => ⟨rfl, hb, rfl, g1, g2⟩) (fun z => by cases z)⟩) hsb.2.1 g2.1)
      · exact fx_wpL [5] 40 (pk_le n (q + k) (fun _ => ⟨rfl, hb, rfl, g1, g2⟩) (fun w => by omega) hsb.2.1 g2.1)
    | succ t ih =>
      intro k hb hk g1 g2
      have hsb := hs.fr g1
      obtain ⟨t2, t3, t4, t5⟩ := id g2
      have t2 : hb 7 j 2 = nI (q + k) := t2
      have t5 : hb 7 j 5 = nI (lx_nv T q k) := t5
      have h : q + k < n := by omega
      have ev : hb 20 0 (hb 7 j 2).toNatClampNeg = T (q + k) := by rw [t2]; exact sg_at hsb h
      have hd := x_sDigit (d := d) (h := hp σ hb hl) (hb 20 0 (hb 7 j 2).toNatClampNeg)
      rw [ev, hal k (by omega), ← ev] at hd
      have bd := ni_inx (n := q + k) (m := 400) t2 (by omega) (by decide)
      have esub : (hb 7 j 2 - hb 7 j 4 : Int32) = nI k := by
        rw [t2, t4, pk_sub (by omega), Nat.add_sub_cancel_left]
      have e1 : (hb 7 j 2 + 1 : Int32) = nI (q + (k + 1)) := by rw [t2, nI_1]; rfl
      refine fx_wpL [5] 60 (pk_le n (q + k) (fun w => by omega) (fun _ => ⟨bd, _, _, hd, b01_if (fun z => by cases z) (fun _ => pk_le 5 k (fun h5 => ?_) (fun h5 => ⟨bd, ?_⟩) rfl esub)⟩) hsb.2.1 t2)
      · refine ih (k + 1) (fx_up hb 7 j 2 (hb 7 j 2 + 1)) (by omega) (g1.tr (Fr7.up _ _ (by decide))) ⟨?_, ?_, ?_, ?_⟩
        · rw [up_at]
          exact e1
        · rw [up_off _ _ (by omega)]
          exact t3
        · rw [up_off _ _ (by omega)]
          exact t4
        · rw [up_off _ _ (by omega), t5]
          show nI (lx_nv T q k) = nI (if k < 5 then _ else lx_nv T q k)
          rw [if_neg (by omega)]
      · obtain ⟨g, x1, x2, x3⟩ := lx_D_of (hal k (by omega))
        have e5 : (hb 7 j 5 * 10 + hb 20 0 (hb 7 j 2).toNatClampNeg - 48 : Int32) = nI (lx_nv T q (k + 1)) := by
          rw [ev, t5, x2]
          show nI (lx_nv T q k) * nI 10 + nI _ - nI 48 = nI (if k < 5 then 10 * lx_nv T q k + (lx_c (T (q + k)) - 48) else lx_nv T q k)
          rw [if_pos h5, x3, pk_mul, nI_add, pk_sub (by omega)]
          congr 1
          omega
        have e2 : fx_up hb 7 j 5 (hb 7 j 5 * 10 + hb 20 0 (hb 7 j 2).toNatClampNeg - 48) 7 j 2 = hb 7 j 2 := up_off _ _ (by omega)
        refine ih (k + 1) (fx_up (fx_up hb 7 j 5 (hb 7 j 5 * 10 + hb 20 0 (hb 7 j 2).toNatClampNeg - 48)) 7 j 2 (fx_up hb 7 j 5 (hb 7 j 5 * 10 + hb 20 0 (hb 7 j 2).toNatClampNeg - 48) 7 j 2 + 1)) (by omega) ((g1.tr (Fr7.up _ _ (by decide))).tr (Fr7.up _ _ (by decide))) ⟨?_, ?_, ?_, ?_⟩
        · rw [up_at, e2]
          exact e1
        · rw [up_off _ _ (by omega), up_off _ _ (by omega)]
          exact t3
        · rw [up_off _ _ (by omega), up_off _ _ (by omega)]
          exact t4
        · rw [up_off _ _ (by omega), up_at]
          exact e5
  obtain ⟨r, h', hg', e1, hi', e2, e3⟩ := fx_methX (d := d + 1) (y := 70) (av := [gO j]) (h := hp σ hi hl) (P := Post) fx_M70 [some (gO j)] (by decide) rfl rfl (Nat.le_of_ble_eq_true rfl) (fx_wpE [5] 9 (loop l 0 (fx_up hi 7 j 3 3) (by omega) (Fr7.up _ _ (by decide)) ⟨(up_off _ _ (by omega)).trans h2, up_at _ _ _ _ _, (up_off _ _ (by omega)).trans h4, (up_off _ _ (by omega)).trans h5⟩))
  subst e1
  subst e2
  exact ⟨hi', hg', e3⟩
theorem x_readWord (hs : SG hi j n T) (h2 : hi 7 j 2 = nI q) (h4 : hi 7 j 4 = nI q) (h5 : hi 7 j 5 = nI 0) (hqn : q ≤ n) : ∃ hi', fx_Ga (d + 2) 71 [gO j] (hp σ hi hl) none (hp σ hi' hl) ∧ Fr7 j hi hi' ∧ TK hi' j q q (2, 0, lx_rn lx_L T n q) := by
  have h400 := hs.1
  let Post : Option fxV → fxH → Prop := fun r2 h2 => r2 = none ∧ ∃ hi', h2 = hp σ hi' hl ∧ Fr7 j hi hi' ∧ TK hi' j q q (2, 0, lx_rn lx_L T n q)
  have loop : ∀ t e (hb : fxI3), e + t = n → lx_rn lx_L T n e = lx_rn lx_L T n q → Fr7 j hi hb → TK hb j q q (2, 0, e) → fx_E (fx_Ga (d + 1)) fx_M71 (5, [some (gO j)], [], hp σ hb hl, 0, 0) Post := by
    intro t
    induction t with
    | zero =>
      intro e hb hk hr g1 g2
      have : e = n := by omega
      subst this
      have er : lx_rn lx_L T e q = e := by rw [← hr]; exact rn_no (fun h => by omega)
      exact fx_wpL [5] 40 (pk_le e e (fun _ => ⟨rfl, hb, rfl, g1, by rw [er]; exact g2⟩) (fun w => by omega) (hs.fr g1).2.1 g2.1)
    | succ t ih =>
      intro e hb hk hr g1 g2
      have hsb := hs.fr g1
      obtain ⟨t2, t3, t4, t5⟩ := id g2
      have t2 : hb 7 j 2 = nI e := t2
      have ev : hb 20 0 (hb 7 j 2).toNatClampNeg = T e := by rw [t2]; exact sg_at hsb (by omega)
      have hd := x_sLetter (d := d) (h := hp σ hb hl) (hb 20 0 (hb 7 j 2).toNatClampNeg)
      rw [ev] at hd
      rw [show [vi (T e)] = [vi (hb 20 0 (hb 7 j 2).toNatClampNeg)] by rw [ev]] at hd
      refine fx_wpL [5] 60 (pk_le n e (fun w => by omega) (fun _ => ⟨ni_inx (n := e) (m := 400) t2 (by omega) (by decide), _, _, hd, b01_if (fun z => ?_) (fun z => ?_)⟩) hsb.2.1 t2)
      · have hno : lx_rn lx_L T n e = e := rn_no (fun _ => z)
        exact ⟨rfl, hb, rfl, g1, by rw [← hr, hno]; exact g2⟩
      · refine ih (e + 1) (fx_up hb 7 j 2 (hb 7 j 2 + 1)) (by omega) ((rn_st (by omega) z).symm.trans hr) (g1.tr (Fr7.up _ _ (by decide))) ⟨?_, ?_, ?_, ?_⟩
        · rw [up_at, t2, nI_1]
        · rw [up_off _ _ (by omega)]
          exact t3
        · rw [up_off _ _ (by omega)]
          exact t4
        · rw [up_off _ _ (by omega)]
          exact t5
  obtain ⟨r, h', hg', e1, hi', e2, e3⟩ := fx_methX (d := d + 1) (y := 71) (av := [gO j]) (h := hp σ hi hl) (P := Post) fx_M71 [some (gO j)] (by decide) rfl rfl (Nat.le_of_ble_eq_true rfl) (fx_wpE [5] 9 (loop (n - q) q (fx_up hi 7 j 3 2) (by omega) rfl (Fr7.up _ _ (by decide)) ⟨(up_off _ _ (by omega)).trans h2, up_at _ _ _ _ _, (up_off _ _ (by omega)).trans h4, (up_off _ _ (by omega)).trans h5⟩))
  subst e1
  subst e2
  exact ⟨hi', hg', e3⟩
theorem x_mark (y k : Nat) (hy : y = 73 ∧ k = 7 ∨ y = 74 ∧ k = 8) (x : Int32) : fx_Ga (d + 1) y [gO j, vi x] (hp σ hi hl) none (hp σ (fx_up (fx_up hi 7 j 3 (nI k)) 7 j 5 x) hl) := by
  rcases hy with ⟨rfl, rfl⟩ | ⟨rfl, rfl⟩
  · exact fx_meth fx_M73 [some (gO j), some (vi x)] (by decide) rfl rfl (Nat.le_of_ble_eq_true rfl) (fx_wpE [] 20 ⟨rfl, rfl⟩)
  · exact fx_meth fx_M74 [some (gO j), some (vi x)] (by decide) rfl rfl (Nat.le_of_ble_eq_true rfl) (fx_wpE [] 20 ⟨rfl, rfl⟩)
theorem x_takesLike (hs : SG hi j n T) {e : Nat} (h2 : hi 7 j 2 = nI e) (hen : e ≤ n) [Decidable (e < n ∧ T e = nI 61)] : fx_Ga (d + 1) 75 [gO j] (hp σ hi hl) (some (vi (b01 (decide (e < n ∧ T e = nI 61))))) (hp σ (fx_up hi 7 j 2 (nI (if e < n ∧ T e = nI 61 then e + 1 else e))) hl) := by
  have h400 := hs.1
  refine fx_meth fx_M75 [some (gO j)] (by decide) rfl rfl (Nat.le_of_ble_eq_true rfl) (fx_wpE [] 40 ?_)
  have same : fx_up hi 7 j 2 (nI e) = hi := by rw [← h2, up_self]
  refine pk_le n e (fun h => ?_) (fun h => ?_) hs.2.1 h2
  · rw [decide_eq_false (by omega), if_neg (by omega), same]
    exact ⟨Or.inl rfl, rfl, rfl⟩
  · have ev : hi 20 0 (hi 7 j 2).toNatClampNeg = T e := by rw [h2]; exact sg_at hs h
    refine ⟨ni_inx (n := e) (m := 400) h2 (by omega) (by decide), ine ev rfl (fun z => ?_) (fun z => ?_)⟩
    · rw [decide_eq_false (fun w => z w.2), if_neg (fun w => z w.2), same]
      exact ⟨Or.inl rfl, rfl, rfl⟩
    · rw [decide_eq_true ⟨h, z⟩, if_pos ⟨h, z⟩]
      refine ⟨Or.inr rfl, rfl, ?_⟩
      show hp σ (fx_up hi 7 j 2 (hi 7 j 2 + 1)) hl = _
      rw [h2, nI_1]
theorem x_readMark (hs : SG hi j n T) (h2 : hi 7 j 2 = nI (q + 1)) (h4 : hi 7 j 4 = nI q) (h5 : hi 7 j 5 = nI 0) (hq : q < n) : ∃ hi', fx_Ga (d + 2) 72 [gO j, vi (T q)] (hp σ hi hl) none (hp σ hi' hl) ∧ Fr7 j hi hi' ∧ TK hi' j q q (mkd T n q) := by
  have key : ∀ {Q : fxI3 → Prop}, fx_E (fx_Ga (d + 1)) fx_M72 (0, [some (gO j), some (vi (T q))], [], hp σ hi hl, 0, 0) (fun r2 h2 => r2 = none ∧ ∃ hi', h2 = hp σ hi' hl ∧ Q hi') → ∃ hi', fx_Ga (d + 2) 72 [gO j, vi (T q)] (hp σ hi hl) none (hp σ hi' hl) ∧ Q hi' := by
    intro Q k
    obtain ⟨r, h', hg', e1, hi', e2, e3⟩ := fx_methX (d := d + 1) (y := 72) (av := [gO j, vi (T q)]) (h := hp σ hi hl) fx_M72 [some (gO j), some (vi (T q))] (by decide) rfl rfl (Nat.le_of_ble_eq_true rfl) k
    subst e1
    subst e2
    exact ⟨hi', hg', e3⟩
  have lit : ∀ {c : Nat} {Q : fxI3 → Prop}, T q = nI c → fx_E (fx_Ga (d + 1)) fx_M72 (0, [some (gO j), some (vi (nI c))], [], hp σ hi hl, 0, 0) (fun r2 h2 => r2 = none ∧ ∃ hi', h2 = hp σ hi' hl ∧ Q hi') → ∃ hi', fx_Ga (d + 2) 72 [gO j, vi (T q)] (hp σ hi hl) none (hp σ hi' hl) ∧ Q hi' := by
    intro c Q e k
    refine key ?_
    rw [e]
    exact k
  have simple : ∀ k, TK (fx_up hi 7 j 3 (nI k)) j q q (k, 0, q + 1) := fun k => ⟨(up_off _ _ (by omega)).trans h2, up_at _ _ _ _ _, (up_off _ _ (by omega)).trans h4, (up_off _ _ (by omega)).trans h5⟩
  have oper : ∀ k x, TK (fx_up (fx_up hi 7 j 3 (nI k)) 7 j 5 (nI x)) j q q (k, x, q + 1) := fun k x => ⟨(up_off _ _ (by omega)).trans ((up_off _ _ (by omega)).trans h2), (up_off _ _ (by omega)).trans (up_at _ _ _ _ _), (up_off _ _ (by omega)).trans ((up_off _ _ (by omega)).trans h4), up_at _ _ _ _ _⟩
  have F1 : ∀ x, Fr7 j hi (fx_up hi 7 j 3 x) := fun x => Fr7.up _ _ (by decide)
  have F2 : ∀ x y, Fr7 j hi (fx_up (fx_up hi 7 j 3 x) 7 j 5 y) := fun x y => (F1 x).tr (Fr7.up _ _ (by decide))
  unfold mkd
  by_cases e59 : T q = nI 59
  · rw [if_pos e59]
    exact lit e59 (fx_wpE [] 30 ⟨rfl, _, rfl, F1 _, simple 4⟩)
  rw [if_neg e59]
  by_cases e91 : T q = nI 91
  · rw [if_pos e91]
    exact lit e91 (fx_wpE [] 30 ⟨rfl, _, rfl, F1 _, simple 5⟩)
  rw [if_neg e91]
  by_cases e93 : T q = nI 93
  · rw [if_pos e93]
    exact lit e93 (fx_wpE [] 30 ⟨rfl, _, rfl, F1 _, simple 6⟩)
  rw [if_neg e93]
  by_cases e43 : T q = nI 43
  · have ho : opA T n q = some 2 := by
      unfold opA
      rw [if_pos hq, if_pos e43]
    rw [ho]
    exact lit e43 (fx_wpE [] 30 ⟨_, _, x_mark 73 7 (by omega) (nI 11), rfl, _, rfl, F2 _ _, oper 7 11⟩)
  by_cases e45 : T q = nI 45
  · have ho : opA T n q = some 3 := by
      unfold opA
      rw [if_pos hq, if_neg e43, if_pos e45]
    rw [ho]
    exact lit e45 (fx_wpE [] 30 ⟨_, _, x_mark 73 7 (by omega) (nI 12), rfl, _, rfl, F2 _ _, oper 7 12⟩)
  by_cases e42 : T q = nI 42
  · have ho : opM T n q = some 4 := by
      unfold opM
      rw [if_pos hq, if_pos e42]
    have hn : opA T n q = none := by
      unfold opA
      rw [if_pos hq, if_neg e43, if_neg e45]
    rw [hn, ho]
    exact lit e42 (fx_wpE [] 30 ⟨_, _, x_mark 73 7 (by omega) (nI 13), rfl, _, rfl, F2 _ _, oper 7 13⟩)
  by_cases e47 : T q = nI 47
  · have ho : opM T n q = some 5 := by
      unfold opM
      rw [if_pos hq, if_neg e42, if_pos e47]
    have hn : opA T n q = none := by
      unfold opA
      rw [if_pos hq, if_neg e43, if_neg e45]
    rw [hn, ho]
    exact lit e47 (fx_wpE [] 30 ⟨_, _, x_mark 73 7 (by omega) (nI 14), rfl, _, rfl, F2 _ _, oper 7 14⟩)
  by_cases e37 : T q = nI 37
  · have ho : opM T n q = some 14 := by
      unfold opM
      rw [if_pos hq, if_neg e42, if_neg e47, if_pos e37]
    have hn : opA T n q = none := by
      unfold opA
      rw [if_pos hq, if_neg e43, if_neg e45]
    rw [hn, ho]
    exact lit e37 (fx_wpE [] 30 ⟨_, _, x_mark 73 7 (by omega) (nI 15), rfl, _, rfl, F2 _ _, oper 7 15⟩)
  have hA : opA T n q = none := by
    unfold opA
    rw [if_pos hq, if_neg e43, if_neg e45]
  have hM : opM T n q = none := by
    unfold opM
    rw [if_pos hq, if_neg e42, if_neg e47, if_neg e37]
  rw [hA, hM]
  dsimp only
  have tl := x_takesLike (d := d) (σ := σ) (hl := hl) hs h2 (show q + 1 ≤ n by omega)
  by_cases e61 : T q = nI 61
  · have e60 : ¬ T q = nI 60 := fun z => absurd (z.symm.trans e61) (by decide)
    have hc : cmO T n q = some (8, q + 1) := by
      unfold cmO
      rw [if_pos hq, if_neg e60, if_pos e61]
    rw [hc]
    exact lit e61 (fx_wpE [] 30 ⟨_, _, x_mark 74 8 (by omega) (nI 18), rfl, _, rfl, F2 _ _, oper 8 18⟩)
  by_cases e60 : T q = nI 60
  · by_cases hal : q + 1 < n ∧ T (q + 1) = nI 61
    · have hc : cmO T n q = some (7, q + 2) := by
        unfold cmO
        rw [if_pos hq, if_pos e60, if_pos hal]
      rw [hc]
      rw [decide_eq_true hal, if_pos hal] at tl
      refine lit e60 (fx_wpE [] 30 ⟨_, _, tl, b01_if (fun z => by cases z) (fun _ => ⟨_, _, x_mark 74 8 (by omega) (nI 17), rfl, _, rfl, ((Fr7.up hi _ (by decide)).tr (Fr7.up _ _ (by decide))).tr (Fr7.up _ _ (by decide)), ?_, ?_, ?_, ?_⟩)⟩)
      · rw [up_off _ _ (by omega), up_off _ _ (by omega), up_at]
      · rw [up_off _ _ (by omega), up_at]
      · rw [up_off _ _ (by omega), up_off _ _ (by omega), up_off _ _ (by omega)]
        exact h4
      · rw [up_at]
        rfl
    · have hc : cmO T n q = some (6, q + 1) := by
        unfold cmO
        rw [if_pos hq, if_pos e60, if_neg hal]
      rw [hc]
      rw [decide_eq_false hal, if_neg hal, ← h2, up_self] at tl
      exact lit e60 (fx_wpE [] 30 ⟨_, _, tl, b01_if (fun _ => ⟨_, _, x_mark 74 8 (by omega) (nI 16), rfl, _, rfl, F2 _ _, oper 8 16⟩) (fun z => by cases z)⟩)
  by_cases e62 : T q = nI 62
  · by_cases hal : q + 1 < n ∧ T (q + 1) = nI 61
    · have hc : cmO T n q = some (9, q + 2) := by
        unfold cmO
        rw [if_pos hq, if_neg e60, if_neg e61, if_pos e62, if_pos hal]
      rw [hc]
      rw [decide_eq_true hal, if_pos hal] at tl
      refine lit e62 (fx_wpE [] 30 ⟨_, _, tl, b01_if (fun z => by cases z) (fun _ => ⟨_, _, x_mark 74 8 (by omega) (nI 19), rfl, _, rfl, ((Fr7.up hi _ (by decide)).tr (Fr7.up _ _ (by decide))).tr (Fr7.up _ _ (by decide)), ?_, ?_, ?_, ?_⟩)⟩)
      · rw [up_off _ _ (by omega), up_off _ _ (by omega), up_at]
      · rw [up_off _ _ (by omega), up_at]
      · rw [up_off _ _ (by omega), up_off _ _ (by omega), up_off _ _ (by omega)]
        exact h4
      · rw [up_at]
        rfl
    · have hc : cmO T n q = some (10, q + 1) := by
        unfold cmO
        rw [if_pos hq, if_neg e60, if_neg e61, if_pos e62, if_neg hal]
      rw [hc]
      rw [decide_eq_false hal, if_neg hal, ← h2, up_self] at tl
      exact lit e62 (fx_wpE [] 30 ⟨_, _, tl, b01_if (fun _ => ⟨_, _, x_mark 74 8 (by omega) (nI 20), rfl, _, rfl, F2 _ _, oper 8 20⟩) (fun z => by cases z)⟩)
  have hc : cmO T n q = none := by
    unfold cmO
    rw [if_pos hq, if_neg e60, if_neg e61, if_neg e62]
  rw [hc]
  refine key (fx_wpE [1] 5 ?_)
  have ni : ∀ c, c < 128 → ¬ T q = nI c → ¬ (c : Int) = (T q).toInt := fun c hc2 hne z => hne (Int32.toInt_inj.mp (by rw [nI_toInt (by omega)]; exact z.symm))
  have off : Op.lookupswitch.offset [(37, 146), (42, 132), (43, 118), (45, 125), (47, 139), (59, 99), (60, 160), (61, 153), (62, 179), (91, 105), (93, 111)] 198 (T q).toInt = 198 := by
    rw [Op.lookupswitch.offset_cons, if_neg (show ¬ (37 : Int) = (T q).toInt from ni 37 (by decide) e37), Op.lookupswitch.offset_cons, if_neg (show ¬ (42 : Int) = (T q).toInt from ni 42 (by decide) e42), Op.lookupswitch.offset_cons, if_neg (show ¬ (43 : Int) = (T q).toInt from ni 43 (by decide) e43), Op.lookupswitch.offset_cons, if_neg (show ¬ (45 : Int) = (T q).toInt from ni 45 (by decide) e45), Op.lookupswitch.offset_cons, if_neg (show ¬ (47 : Int) = (T q).toInt from ni 47 (by decide) e47), Op.lookupswitch.offset_cons, if_neg (show ¬ (59 : Int) = (T q).toInt from ni 59 (by decide) e59), Op.lookupswitch.offset_cons, if_neg (show ¬ (60 : Int) = (T q).toInt from ni 60 (by decide) e60), Op.lookupswitch.offset_cons, if_neg (show ¬ (61 : Int) = (T q).toInt from ni 61 (by decide) e61), Op.lookupswitch.offset_cons, if_neg (show ¬ (62 : Int) = (T q).toInt from ni 62 (by decide) e62), Op.lookupswitch.offset_cons, if_neg (show ¬ (91 : Int) = (T q).toInt from ni 91 (by decide) e91), Op.lookupswitch.offset_cons, if_neg (show ¬ (93 : Int) = (T q).toInt from ni 93 (by decide) e93)]
    rfl
  have stp : fx_stp fx_M72 1 (.lookupswitch 198 #[(37, 146), (42, 132), (43, 118), (45, 125), (47, 139), (59, 99), (60, 160), (61, 153), (62, 179), (91, 105), (93, 111)]) [some (gO j), some (vi (T q))] [vi (T q)] (hp σ hi hl) 0 0 = some (199, [some (gO j), some (vi (T q))], [], hp σ hi hl, 0, 0) := by
    show fx_jmp 1 (Op.lookupswitch.offset [(37, 146), (42, 132), (43, 118), (45, 125), (47, 139), (59, 99), (60, 160), (61, 153), (62, 179), (91, 105), (93, 111)] 198 (T q).toInt) _ _ _ _ _ = _
    rw [off]
    rfl
  exact fx_E_step rfl rfl rfl stp (fx_wpE [] 20 ⟨rfl, _, rfl, F1 _, simple 1⟩)
theorem x_read (hs : SG hi j n T) (h2 : hi 7 j 2 = nI p) (hpn : p ≤ n) : ∃ hi', fx_Ga (d + 3) 67 [gO j] (hp σ hi hl) none (hp σ hi' hl) ∧ Fr7 j hi hi' ∧ TK hi' j p (lx_rn lx_S T n p) (tkd T n (lx_rn lx_S T n p)) := by
  have h400 := hs.1
  have hqn : lx_rn lx_S T n p ≤ n := rn_le hpn
  generalize hq0 : lx_rn lx_S T n p = q at hqn
  let Post : Option fxV → fxH → Prop := fun r2 h2 => r2 = none ∧ ∃ hi', h2 = hp σ hi' hl ∧ Fr7 j hi hi' ∧ TK hi' j p q (tkd T n q)
  have rest : fx_E (fx_Ga (d + 2)) fx_M67 (38, [some (gO j), none], [], hp σ (fx_up hi 7 j 2 (nI q)) hl, 0, 0) Post := by
    have e2 : fx_up hi 7 j 2 (nI q) 7 j 2 = nI q := up_at _ _ _ _ _
    generalize hh : fx_up (fx_up (fx_up hi 7 j 2 (nI q)) 7 j 4 (fx_up hi 7 j 2 (nI q) 7 j 2)) 7 j 5 0 = hb
    have F : Fr7 j hi hb := by
      rw [← hh]
      exact ((Fr7.up hi _ (by decide)).tr (Fr7.up _ _ (by decide))).tr (Fr7.up _ _ (by decide))
    have hsb := hs.fr F
    have b2 : hb 7 j 2 = nI q := by rw [← hh, up_off _ _ (by omega), up_off _ _ (by omega), up_at]
    have b4 : hb 7 j 4 = nI q := by rw [← hh, up_off _ _ (by omega), up_at, e2]
    have b5 : hb 7 j 5 = nI 0 := by rw [← hh, up_at]; rfl
    have st51 : fx_E (fx_Ga (d + 2)) fx_M67 (51, [some (gO j), none], [], hp σ hb hl, 0, 0) Post := by
      by_cases hq : q < n
      · have ev : hb 20 0 (hb 7 j 2).toNatClampNeg = T q := by rw [b2]; exact sg_at hsb hq
        have et : tkd T n q = if lx_D (T q) = true then (3, lx_nv T q (lx_rn lx_D T n q - q), lx_rn lx_D T n q) else if lx_L (T q) = true then (2, 0, lx_rn lx_L T n q) else mkd T n q := if_pos hq
        have st78 : fx_E (fx_Ga (d + 2)) fx_M67 (78, [some (gO j), some (vi (T q))], [], hp σ hb hl, 0, 0) Post := by
          refine fx_wpE [] 40 ⟨_, _, x_sDigit (T q), b01_if (fun z => ⟨_, _, x_sLetter (T q), b01_if (fun y => ?_) (fun y => ?_)⟩) (fun z => ?_)⟩
          · have es : SG (fx_up hb 7 j 2 (hb 7 j 2 + 1)) j n T := hsb.fr (Fr7.up _ _ (by decide))
            obtain ⟨hi3, hg3, f3, k3⟩ := x_readMark (d := d) (σ := σ) (hl := hl) es (by rw [up_at, b2, nI_1]) ((up_off _ _ (by omega)).trans b4) ((up_off _ _ (by omega)).trans b5) hq
            rw [if_neg (by rw [z]; simp), if_neg (by rw [y]; simp)] at et
            exact ⟨_, _, hg3, rfl, hi3, rfl, (F.tr (Fr7.up _ _ (by decide))).tr f3, by rw [et]; exact k3⟩
          · obtain ⟨hi3, hg3, f3, k3⟩ := x_readWord (d := d) (σ := σ) (hl := hl) hsb b2 b4 b5 hqn
            rw [if_neg (by rw [z]; simp), if_pos y] at et
            exact ⟨_, _, hg3, rfl, hi3, rfl, F.tr f3, by rw [et]; exact k3⟩
          · obtain ⟨hi3, hg3, f3, k3⟩ := x_readNumber (d := d) (σ := σ) (hl := hl) hsb b2 b4 b5 hqn
            rw [if_pos z] at et
            exact ⟨_, _, hg3, rfl, hi3, rfl, F.tr f3, by rw [et]; exact k3⟩
        rw [← ev] at st78
        exact fx_wpE [78] 40 (pk_lt q n (fun _ => ⟨ni_inx (n := q) (m := 400) b2 (by omega) (by decide), st78⟩) (fun h => by omega) b2 hsb.2.1)
      · have et : tkd T n q = (0, 0, q) := if_neg hq
        refine fx_wpE [] 40 (pk_lt q n (fun h => absurd h hq) (fun _ => ⟨rfl, _, rfl, F.tr (Fr7.up _ _ (by decide)), ?_⟩) b2 hsb.2.1)
        rw [et]
        exact ⟨(up_off _ _ (by omega)).trans b2, up_at _ _ _ _ _, (up_off _ _ (by omega)).trans b4, (up_off _ _ (by omega)).trans b5⟩
    rw [← hh] at st51
    exact fx_wpE [51] 40 st51
  have loop : ∀ t e, e + t = n → lx_rn lx_S T n e = q → fx_E (fx_Ga (d + 2)) fx_M67 (0, [some (gO j), none], [], hp σ (fx_up hi 7 j 2 (nI e)) hl, 0, 0) Post := by
    intro t
    induction t with
    | zero =>
      intro e he hr
      have : e = n := by omega
      subst this
      have er : e = q := by rw [← hr]; exact (rn_no (fun h => by omega)).symm
      rw [er]
      exact fx_wpL [0, 38] 40 (pk_le e q (fun _ => rest) (fun w => by omega) (show fx_up hi 7 j 2 (nI q) 7 j 1 = nI e from (up_off _ _ (by omega)).trans hs.2.1) (show fx_up hi 7 j 2 (nI q) 7 j 2 = nI q from up_at _ _ _ _ _))
    | succ t ih =>
      intro e he hr
      have ee : fx_up hi 7 j 2 (nI e) 7 j 2 = nI e := up_at _ _ _ _ _
      have ev : fx_up hi 7 j 2 (nI e) 20 0 (fx_up hi 7 j 2 (nI e) 7 j 2).toNatClampNeg = T e := by
        rw [ee]
        exact sg_at hs (by omega)
      refine fx_wpL [0, 38] 40 (pk_le n e (fun w => by omega) (fun _ => ⟨ni_inx (n := e) (m := 400) ee (by omega) (by decide), ine ev rfl (fun z => ?_) (fun z => ?_)⟩) (show fx_up hi 7 j 2 (nI e) 7 j 1 = nI n from (up_off _ _ (by omega)).trans hs.2.1) ee)
      · have er : e = q := by rw [← hr]; exact (rn_no (fun _ => decide_eq_false z)).symm
        rw [er]
        exact rest
      · have h3 := ih (e + 1) (by omega) ((rn_st (by omega) (decide_eq_true z)).symm.trans hr)
        rw [← up_up hi 7 j 2 (nI e) (nI (e + 1)), ← nI_1] at h3
        rw [← ee] at h3
        conv at h3 => rw [show fx_up hi 7 j 2 (fx_up hi 7 j 2 (nI e) 7 j 2) = fx_up hi 7 j 2 (nI e) by rw [ee]]
        exact h3
  have h3 := loop (n - p) p (by omega) hq0
  rw [← h2, up_self] at h3
  obtain ⟨r, h', hg', e1, hi', e2, e3⟩ := fx_methX (d := d + 2) (y := 67) (av := [gO j]) (h := hp σ hi hl) (P := Post) fx_M67 [some (gO j), none] (by decide) rfl rfl (Nat.le_of_ble_eq_true rfl) h3
  subst e1
  subst e2
  exact ⟨hi', hg', e3⟩
theorem x_begin {m : Nat} (hm : m ≤ 400) : fx_Ga (d + 1) 65 [gO j, vi (nI m)] (hp σ hi hl) none (hp σ (fx_up (fx_up hi 7 j 1 (nI m)) 7 j 2 0) hl) := by
  refine fx_meth fx_M65 [some (gO j), some (vi (nI m))] (by decide) rfl rfl (Nat.le_of_ble_eq_true rfl) (fx_wpE [] 30 ⟨rfl, ?_⟩)
  have e1 : (if (nI 400 : Int32) < nI m then nI 400 else nI m) = nI m := by
    have := min_nI m 400 (by omega) (by decide)
    rw [Nat.min_eq_left hm] at this
    exact this
  have e2 : (if (0 : Int32) < nI m then nI m else 0) = nI m := by
    have := max_nI 0 m (by decide) (by omega)
    rw [Nat.max_eq_right (Nat.zero_le _)] at this
    exact this
  show hp σ (fx_up (fx_up hi 7 j 1 (if (0 : Int32) < (if (nI 400 : Int32) < nI m then nI 400 else nI m) then (if (nI 400 : Int32) < nI m then nI 400 else nI m) else 0)) 7 j 2 0) hl = _
  rw [e1, e2]
theorem x_faultHere (h4 : hi 7 j 4 = nI q) (k : Nat) : fx_Ga (d + 1) 66 [gO j, vi (nI k)] (hp σ hi hl) (some (vi (nI (1 + 8 * q + k)))) (hp σ hi hl) := by
  refine fx_meth fx_M66 [some (gO j), some (vi (nI k))] (by decide) rfl rfl (Nat.le_of_ble_eq_true rfl) (fx_wpE [] 30 ⟨?_, rfl⟩)
  show some (vi (nI 1 + nI 8 * hi 7 j 4 + nI k)) = _
  rw [h4, pk_mul, nI_add, nI_add]
theorem x_isTooLong {e : Nat} (h2 : hi 7 j 2 = nI e) (h4 : hi 7 j 4 = nI q) (hqe : q ≤ e) (he : e < 2 ^ 30) : fx_Ga (d + 1) 76 [gO j] (hp σ hi hl) (some (vi (b01 (decide (5 < e - q))))) (hp σ hi hl) := by
  have es : (hi 7 j 2 - hi 7 j 4 : Int32) = nI (e - q) := by
    rw [h2, h4]
    exact pk_sub hqe
  refine fx_meth fx_M76 [some (gO j)] (by decide) rfl rfl (Nat.le_of_ble_eq_true rfl) (fx_wpE [] 30 ?_)
  refine pk_le (e - q) 5 (fun h => ⟨Or.inl rfl, ?_, rfl⟩) (fun h => ⟨Or.inr rfl, ?_, rfl⟩) es
  · rw [decide_eq_false (by omega)]
    rfl
  · rw [decide_eq_true h]
    rfl
end XL
