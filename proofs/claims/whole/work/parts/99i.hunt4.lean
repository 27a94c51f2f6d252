/-! a hunt's text: the class -/
abbrev hO : fxV := .inr (.inr (some (2, 0)))
def FrK (hi hi' : fxI3) : Prop := ∀ k j s, ¬ (k = 7 ∧ j = 0 ∧ 1 ≤ s) → k ≠ 2 → ¬ ((k = 1 ∨ 21 ≤ k ∧ k ≤ 24) ∧ j = 0) → hi' k j s = hi k j s
def FlK (hl hl' : fxL3) : Prop := ∀ k j s, ¬ (k = 1 ∧ j = 0) → hl' k j s = hl k j s
theorem FrK.rf (hi : fxI3) : FrK hi hi := fun _ _ _ _ _ _ => rfl
theorem FlK.rf (hl : fxL3) : FlK hl hl := fun _ _ _ _ => rfl
theorem FrK.tr {a b c : fxI3} (h : FrK a b) (g : FrK b c) : FrK a c := fun k j s h1 h2 h3 => (g k j s h1 h2 h3).trans (h k j s h1 h2 h3)
theorem FlK.tr {a b c : fxL3} (h : FlK a b) (g : FlK b c) : FlK a c := fun k j s h1 => (g k j s h1).trans (h k j s h1)
theorem FrK.up (hi : fxI3) {k j s : Nat} (x : Int32) (h : k = 7 ∧ j = 0 ∧ 1 ≤ s ∨ k = 2 ∨ (k = 1 ∨ 21 ≤ k ∧ k ≤ 24) ∧ j = 0) : FrK hi (fx_up hi k j s x) := fun k' j' s' h1 h2 h3 => up_off hi x (fun z => by
  obtain ⟨z1, z2, z3⟩ := z
  subst z1; subst z2; subst z3
  rcases h with h | h | h
  · exact h1 h
  · exact h2 h
  · exact h3 h)
theorem Fr7.k {a b : fxI3} (h : Fr7 0 a b) : FrK a b := fun k j s h1 _ _ => h k j s (by omega)
/-- the hunt that is being read -/
def TD (hi : fxI3) (hl : fxL3) (u : Nat → Nat) : Prop := PX hi hl 0 (vBg u) ∧ ∀ i, i < 6 → hi 23 0 i = 0 ∧ hi 24 0 i = 0
theorem TD.fr {hi hi' : fxI3} {hl hl' : fxL3} {u : Nat → Nat} (h : TD hi hl u) (h1 : ∀ s, hi' 1 0 s = hi 1 0 s) (h2 : ∀ k s, 21 ≤ k ∧ k ≤ 24 → hi' k 0 s = hi k 0 s) (h3 : hl' 1 0 6 = hl 1 0 6) : TD hi' hl' u := ⟨h.1.fr h1 h2 h3, fun i h6 => ⟨(h2 23 i (by decide)).trans (h.2 i h6).1, (h2 24 i (by decide)).trans (h.2 i h6).2⟩⟩
def HR (hi : fxI3) (hl : fxL3) (n : Nat) (T : Nat → Int32) (p : Nat) (u : Nat → Nat) : Prop := SG hi 0 n T ∧ hi 7 0 2 = nI p ∧ hi 2 0 1 = 0 ∧ TD hi hl u
def QKP (σ : fxS) (hi : fxI3) (hl : fxL3) (n : Nat) (T : Nat → Int32) (res : fxQh) : Option fxV → fxH → Prop := fun r2 h2 => match res with
  | .inl f => r2 = none ∧ ∃ hi' hl', h2 = hp σ hi' hl' ∧ FrK hi hi' ∧ FlK hl hl' ∧ hi' 2 0 1 = nI f
  | .inr (p', u') => r2 = none ∧ ∃ hi' hl', h2 = hp σ hi' hl' ∧ FrK hi hi' ∧ FlK hl hl' ∧ HR hi' hl' n T p' u'
def QK (D y : Nat) (av : List fxV) (σ : fxS) (hi : fxI3) (hl : fxL3) (n : Nat) (T : Nat → Int32) (res : fxQh) : Prop := match res with
  | .inl f => ∃ hi' hl', fx_Ga D y av (hp σ hi hl) none (hp σ hi' hl') ∧ FrK hi hi' ∧ FlK hl hl' ∧ hi' 2 0 1 = nI f
  | .inr (p', u') => ∃ hi' hl', fx_Ga D y av (hp σ hi hl) none (hp σ hi' hl') ∧ FrK hi hi' ∧ FlK hl hl' ∧ HR hi' hl' n T p' u'
theorem QK_of {d y : Nat} {av : List fxV} {σ : fxS} {hi : fxI3} {hl : fxL3} {n : Nat} {T : Nat → Int32} {res : fxQh} (M : fxM) (lv : fxLv) (hy : y < 255) (hM : (fx_Y y).2.1 = M) (hlv : fx_ent M.1.2.2.1 av = lv) (hll : (fx_sl av).length ≤ M.1.2.2.1) (k : fx_E (fx_Ga d) M (0, lv, [], hp σ hi hl, 0, 0) (QKP σ hi hl n T res)) : QK (d + 1) y av σ hi hl n T res := by
  obtain ⟨r, h', hg, e⟩ := fx_methX (P := QKP σ hi hl n T res) M lv hy hM hlv hll k
  match res, e with
  | .inl f, ⟨e1, hi', hl', e2, e3⟩ =>
    subst e1
    subst e2
    exact ⟨hi', hl', hg, e3⟩
  | .inr (p', u'), ⟨e1, hi', hl', e2, e3⟩ =>
    subst e1
    subst e2
    exact ⟨hi', hl', hg, e3⟩
theorem vG_og {u : Nat → Nat} (h1 : u 50 < 2 ^ 30) (h2 : u 51 < 2 ^ 30) {g : Nat} (hg : g < 60) : vG (vBg (vOg u g)) = vG (vBg u) ||| 2 ^ g := by
  show vOg u g 50 + 2 ^ 30 * vOg u g 51 = (u 50 + 2 ^ 30 * u 51) ||| 2 ^ g
  unfold vOg
  apply Nat.eq_of_testBit_eq
  intro i
  rw [Nat.testBit_or, Nat.add_comm, Nat.add_comm (u 50)]
  rcases (show g / 30 = 0 ∨ g / 30 = 1 by omega) with e | e
  · rw [e, vup_eq, vup_ne (show 51 ≠ 50 + 0 by decide), show g % 30 = g by omega]
    have hg30 : g < 30 := by omega
    have hb : u (50 + 0) ||| 2 ^ g < 2 ^ 30 := Nat.or_lt_two_pow h1 (Nat.pow_lt_pow_right (by decide) hg30)
    rw [Nat.testBit_two_pow_mul_add _ hb, Nat.testBit_two_pow_mul_add _ h1, Nat.testBit_two_pow]
    split
    · rw [Nat.testBit_or, Nat.testBit_two_pow]
    · rw [decide_eq_false (by omega), Bool.or_false]
  · rw [e, vup_ne (show 50 ≠ 50 + 1 by decide), vup_eq]
    rw [Nat.testBit_two_pow_mul_add _ h1, Nat.testBit_two_pow_mul_add _ h1, Nat.testBit_two_pow]
    split
    · rw [decide_eq_false (by omega), Bool.or_false]
    · rw [Nat.testBit_or, Nat.testBit_two_pow]
      congr 1
      rw [decide_eq_decide]
      omega
theorem tkd_3 {T : Nat → Int32} {n q : Nat} (h : ¬ (q < n ∧ lx_D (T q) = true)) : (tkd T n q).1 ≠ 3 := by
  unfold tkd
  by_cases hq : q < n
  · rw [if_pos hq, if_neg (fun z => h ⟨hq, z⟩)]
    split
    · (dsimp only; decide)
    · unfold mkd
      repeat' split
      all_goals (dsimp only; decide)
  · rw [if_neg hq]
    (dsimp only; decide)
theorem tkd_10 (T : Nat → Int32) (n q : Nat) : (tkd T n q).1 < 10 := by
  unfold tkd mkd
  repeat' split
  all_goals (dsimp only; omega)
section XH
variable {d : Nat} {σ : fxS} {hi : fxI3} {hl : fxL3} {n p q : Nat} {u : Nat → Nat} {T : Nat → Int32}
theorem x_num0 {f : Nat} (hf : hi 2 0 1 = nI f) (h0 : f ≠ 0) (hb : f < 2 ^ 31) (lo mo : Int32) : fx_Ga (d + 1) 28 [hO, vi lo, vi mo] (hp σ hi hl) (some (vi 0)) (hp σ hi hl) :=
  fx_meth fx_M28 [some hO, some (vi lo), some (vi mo)] (by decide) rfl rfl (Nat.le_of_ble_eq_true rfl) (fx_wpE [9] 20 (pk_eq f 0 (fun h => absurd h h0) (fun _ => ⟨rfl, rfl⟩) hf))
theorem x_num (hs : HR hi hl n T p u) (hpn : p ≤ n) {lo mo : Nat} (hlo : lo < 2 ^ 31) (hmo : mo < 2 ^ 31) : match vNm T n p lo mo with
    | .inl f => ∃ y hi', fx_Ga (d + 4) 28 [hO, vi (nI lo), vi (nI mo)] (hp σ hi hl) (some (vi y)) (hp σ hi' hl) ∧ FrK hi hi' ∧ hi' 2 0 1 = nI f
    | .inr (e, v) => ∃ hi', fx_Ga (d + 4) 28 [hO, vi (nI lo), vi (nI mo)] (hp σ hi hl) (some (vi (nI v))) (hp σ hi' hl) ∧ FrK hi hi' ∧ HR hi' hl n T e u := by
  obtain ⟨s1, s2, s3, s4⟩ := id hs
  have h400 := s1.1
  obtain ⟨h2, g2, f2, k2⟩ := x_read (d := d) (σ := σ) (hl := hl) s1 s2 hpn
  have hqn : lx_rn lx_S T n p ≤ n := rn_le hpn
  unfold vNm
  generalize lx_rn lx_S T n p = q at k2 hqn ⊢
  obtain ⟨t2, t3, t4, t5⟩ := id k2
  have F2 : FrK hi h2 := f2.k
  have z1 : h2 2 0 1 = 0 := (f2 2 0 1 (by omega)).trans s3
  have td : TD h2 hl u := s4.fr (fun s => f2 1 0 s (by omega)) (fun k s hk => f2 k 0 s (by omega)) rfl
  by_cases hD : q < n ∧ lx_D (T q) = true
  · rw [if_pos hD]
    have et : tkd T n q = (3, lx_nv T q (lx_rn lx_D T n q - q), lx_rn lx_D T n q) := by
      unfold tkd
      rw [if_pos hD.1, if_pos hD.2]
    rw [et] at t2 t3 t5
    dsimp only at t2 t3 t5
    have hen : lx_rn lx_D T n q ≤ n := rn_le hqn
    have hge : q ≤ lx_rn lx_D T n q := rn_ge
    have hv5 : lx_nv T q (lx_rn lx_D T n q - q) < 100000 := lx_nv_5 T q _ (fun i hi2 => rn_all (P := lx_D) (T := T) (n := n) (p := q) (by omega) (by omega))
    generalize lx_rn lx_D T n q = e at t2 t5 hen hge hv5 ⊢
    generalize lx_nv T q (e - q) = v at t5 hv5 ⊢
    have tl := x_isTooLong (d := d + 2) (σ := σ) (hl := hl) t2 t4 hge (by omega)
    have fh := x_faultHere (d := d + 2) (σ := σ) (hl := hl) t4 1
    by_cases hc : e - q ≤ 5 ∧ (lo ≤ v ∧ v ≤ mo)
    · rw [if_pos hc]
      refine ⟨h2, fx_meth (d := d + 3) fx_M28 [some hO, some (vi (nI lo)), some (vi (nI mo))] (by decide) rfl rfl (Nat.le_of_ble_eq_true rfl) (fx_wpE [] 60 (pk_eq 0 0 (fun _ => ⟨_, _, g2, pk_eq 3 3 (fun _ => ⟨_, _, tl, bd_nf (fun h => by omega) (fun _ => pk_lt v lo (fun h => by omega) (fun _ => pk_le v mo (fun _ => ⟨?_, rfl⟩) (fun h => by omega) t5) t5)⟩) (fun h => absurd rfl h) t3⟩) (fun h => absurd rfl h) s3)), F2, ⟨s1.fr f2, t2, z1, td⟩⟩
      show some (vi (h2 7 0 5)) = _
      rw [t5]
    · rw [if_neg hc]
      have fin : FrK hi (fx_up h2 2 0 1 (nI (1 + 8 * q + 1))) := F2.tr (FrK.up _ _ (by omega))
      refine ⟨h2 7 0 5, fx_up h2 2 0 1 (nI (1 + 8 * q + 1)), fx_meth (d := d + 3) fx_M28 [some hO, some (vi (nI lo)), some (vi (nI mo))] (by decide) rfl rfl (Nat.le_of_ble_eq_true rfl) (fx_wpE [] 60 (pk_eq 0 0 (fun _ => ⟨_, _, g2, pk_eq 3 3 (fun _ => ⟨_, _, tl, bd_nf (fun h => ⟨_, _, fh, rfl, rfl⟩) (fun _ => pk_lt v lo (fun h => ⟨_, _, fh, rfl, rfl⟩) (fun _ => pk_le v mo (fun _ => by omega) (fun h => ⟨_, _, fh, rfl, rfl⟩) t5) t5)⟩) (fun h => absurd rfl h) t3⟩) (fun h => absurd rfl h) s3)), fin, ?_⟩
      rw [up_at, show 1 + 8 * q + 1 = 2 + 8 * q by omega]
  · rw [if_neg hD]
    have n3 := tkd_3 hD
    have b10 := tkd_10 T n q
    have fh := x_faultHere (d := d + 2) (σ := σ) (hl := hl) t4 0
    exact ⟨h2 7 0 5, fx_up h2 2 0 1 (nI (1 + 8 * q + 0)), fx_meth (d := d + 3) fx_M28 [some hO, some (vi (nI lo)), some (vi (nI mo))] (by decide) rfl rfl (Nat.le_of_ble_eq_true rfl) (fx_wpE [] 60 (pk_eq 0 0 (fun _ => ⟨_, _, g2, pk_eq (tkd T n q).1 3 (fun h => absurd h n3) (fun _ => ⟨_, _, fh, rfl, rfl⟩) t3⟩) (fun h => absurd rfl h) s3)), F2.tr (FrK.up _ _ (by omega)), up_at _ _ _ _ _⟩
theorem x_fill {k0 : Nat} (hk : k0 = 23 ∨ k0 = 24) : ∃ hi', fx_Ga (d + 1) 253 [.inr (.inr (some (k0, 0))), vi 0] (hp σ hi hl) none (hp σ hi' hl) ∧ (∀ k j s, ¬ (k = k0 ∧ j = 0) → hi' k j s = hi k j s) ∧ ∀ i, i < 6 → hi' k0 0 i = 0 := by
  let Post : Option fxV → fxH → Prop := fun r2 h2 => r2 = none ∧ ∃ hi', h2 = hp σ hi' hl ∧ (∀ k j s, ¬ (k = k0 ∧ j = 0) → hi' k j s = hi k j s) ∧ ∀ i, i < 6 → hi' k0 0 i = 0
  have loop : ∀ t i (hb : fxI3), i + t = 6 → (∀ k j s, ¬ (k = k0 ∧ j = 0) → hb k j s = hi k j s) → (∀ x, x < i → hb k0 0 x = 0) → fx_E (fx_Ga d) fx_M253 (5, [some (.inr (.inr (some (k0, 0)))), some (vi 0), some (vi (nI i)), some (vi (nI 6))], [], hp σ hb hl, 0, 0) Post := by
    intro t
    induction t with
    | zero =>
      intro i hb hi2 q1 q2
      have : i = 6 := by omega
      subst this
      exact fx_wpL [5] 30 (pk_le 6 6 (fun _ => ⟨rfl, hb, rfl, q1, q2⟩) (fun h => by omega))
    | succ t ih =>
      intro i hb hi2 q1 q2
      have bd := ni_in (n := i) (m := 6) (by omega) (by decide)
      have h2 := ih (i + 1) (fx_up hb k0 0 i 0) (by omega) (fun k j s h => (up_off _ _ (by omega)).trans (q1 k j s h)) (fun x hx => by
        by_cases e : x = i
        · subst e
          exact up_at _ _ _ _ _
        · rw [up_off _ _ (by omega)]
          exact q2 x (by omega))
      rw [← nI_1] at h2
      conv at h2 => rw [show fx_up hb k0 0 i = fx_up hb k0 0 (nI i).toNatClampNeg by rw [nI_clamp (by omega)]]
      rcases hk with rfl | rfl
      all_goals exact fx_wpL [5] 30 (pk_le 6 i (fun h => by omega) (fun _ => ⟨bd, h2⟩))
  have st : fx_E (fx_Ga d) fx_M253 (0, [some (.inr (.inr (some (k0, 0)))), some (vi 0), none, none], [], hp σ hi hl, 0, 0) Post := by
    have h0 := loop 6 0 hi rfl (fun _ _ _ _ => rfl) (fun x hx => absurd hx (Nat.not_lt_zero _))
    rcases hk with rfl | rfl
    all_goals exact fx_wpE [5] 20 h0
  obtain ⟨r, h', hg, e1, hi', e2, e3⟩ := fx_methX (d := d) (y := 253) (av := [.inr (.inr (some (k0, 0))), vi 0]) (h := hp σ hi hl) (P := Post) fx_M253 [some (.inr (.inr (some (k0, 0)))), some (vi 0), none, none] (by decide) rfl rfl (Nat.le_of_ble_eq_true rfl) st
  subst e1
  subst e2
  exact ⟨hi', hg, e3⟩
theorem x_cbegin (a b c : Nat) (z : Nat) : ∃ hi' hl', fx_Ga (d + 2) 5 [cO 0, vi (nI a), vi (nI b), vi (nI c)] (hp σ hi hl) none (hp σ hi' hl') ∧ (∀ k j s, ¬ ((k = 1 ∨ k = 23 ∨ k = 24) ∧ j = 0) → hi' k j s = hi k j s) ∧ FlK hl hl' ∧ TD hi' hl' (vup (vup (vup (vup (fun _ => 0) 1 a) 2 b) 3 c) 0 z) := by
  generalize hh : fx_up (fx_up (fx_up (fx_up (fx_up (fx_up hi 1 0 0 (nI a)) 1 0 1 (nI b)) 1 0 2 (nI c)) 1 0 3 0) 1 0 4 100) 1 0 5 0 = h1
  obtain ⟨h2, g2, o2, z2⟩ := x_fill (d := d) (σ := σ) (hi := h1) (hl := fx_up hl 1 0 6 0) (k0 := 23) (Or.inl rfl)
  obtain ⟨h3, g3, o3, z3⟩ := x_fill (d := d) (σ := σ) (hi := h2) (hl := fx_up hl 1 0 6 0) (k0 := 24) (Or.inr rfl)
  have cell : ∀ s, h3 1 0 s = h1 1 0 s := fun s => (o3 1 0 s (by omega)).trans (o2 1 0 s (by omega))
  refine ⟨h3, fx_up hl 1 0 6 0, ?_, fun k j s h => ?_, fun k j s h => up_off _ _ (by omega), ⟨?_, fun i h6 => ⟨(o3 23 0 i (by omega)).trans (z2 i h6), z3 i h6⟩⟩⟩
  · have st : fx_E (fx_Ga (d + 1)) fx_M5 (36, [some (cO 0), some (vi (nI a)), some (vi (nI b)), some (vi (nI c))], [], hp σ h1 (fx_up hl 1 0 6 0), 0, 0) (fun r2 h2 => r2 = none ∧ h2 = hp σ h3 (fx_up hl 1 0 6 0)) := fx_wpE [] 30 ⟨_, _, g2, _, _, g3, rfl, rfl⟩
    rw [← hh] at st
    exact fx_meth (d := d + 1) fx_M5 [some (cO 0), some (vi (nI a)), some (vi (nI b)), some (vi (nI c))] (by decide) rfl rfl (Nat.le_of_ble_eq_true rfl) (fx_wpE [36] 30 st)
  · rw [o3 k j s (by omega), o2 k j s (by omega), ← hh, up_off _ _ (by omega), up_off _ _ (by omega), up_off _ _ (by omega), up_off _ _ (by omega), up_off _ _ (by omega), up_off _ _ (by omega)]
  · refine ⟨?_, ?_, ?_, ?_, ?_, ?_, up_at _ _ _ _ _, fun i hi4 => absurd hi4 (Nat.not_lt_zero i)⟩
    all_goals (rw [cell, ← hh]; rfl)
theorem x_addRider (ht : TD hi hl u) (h4 : u 4 < 6) {a b : Nat} (ha : a ≤ 99) : ∃ hi', fx_Ga (d + 1) 6 [cO 0, vi (nI a), vi (nI b)] (hp σ hi hl) none (hp σ hi' hl) ∧ (∀ k j s, ¬ ((k = 1 ∨ k = 21 ∨ k = 22) ∧ j = 0) → hi' k j s = hi k j s) ∧ TD hi' hl (vup (vup (vup u (38 + u 4) a) (44 + u 4) b) 4 (u 4 + 1)) := by
  obtain ⟨⟨p1, p2, p3, p4, p5, p6, p7, p8⟩, z⟩ := id ht
  have p4 : hi 1 0 3 = nI (u 4) := p4
  refine ⟨fx_up (fx_up (fx_up hi 21 0 (u 4) (nI (100 - a))) 22 0 (u 4) (nI b)) 1 0 3 (nI (u 4 + 1)), ?_, fun k j s h => ?_, ?_, fun i h6 => ⟨?_, ?_⟩⟩
  · have bd := ni_inx (n := u 4) (m := 6) p4 h4 (by decide)
    refine fx_meth (d := d) fx_M6 [some (cO 0), some (vi (nI a)), some (vi (nI b))] (by decide) rfl rfl (Nat.le_of_ble_eq_true rfl) (fx_wpE [] 40 (pk_lt (u 4) 0 (fun h => by omega) (fun _ => pk_le 6 (u 4) (fun h => by omega) (fun _ => ⟨bd, bd, rfl, ?_⟩) rfl p4) p4))
    show hp σ (fx_up (fx_up (fx_up hi 21 0 (hi 1 0 3).toNatClampNeg (nI 100 - nI a)) 22 0 (hi 1 0 3).toNatClampNeg (nI b)) 1 0 3 (hi 1 0 3 + 1)) hl = _
    rw [p4, nI_clamp (by omega), pk_sub (by omega), nI_1]
  · rw [up_off _ _ (by omega), up_off _ _ (by omega), up_off _ _ (by omega)]
  · have e : ∀ x, x ≠ 4 → ¬ (38 ≤ x ∧ x < 50) → vup (vup (vup u (38 + u 4) a) (44 + u 4) b) 4 (u 4 + 1) x = u x := fun x hx1 hx2 => by rw [vup_ne hx1, vup_ne (by omega), vup_ne (by omega)]
    refine ⟨?_, ?_, ?_, up_at _ _ _ _ _, ?_, ?_, ?_, fun i hi4 => ?_⟩
    · rw [vBg_ne _ (by omega), e 1 (by decide) (by omega), up_off _ _ (by omega), up_off _ _ (by omega), up_off _ _ (by omega)]
      exact p1
    · rw [vBg_ne _ (by omega), e 2 (by decide) (by omega), up_off _ _ (by omega), up_off _ _ (by omega), up_off _ _ (by omega)]
      exact p2
    · rw [vBg_ne _ (by omega), e 3 (by decide) (by omega), up_off _ _ (by omega), up_off _ _ (by omega), up_off _ _ (by omega)]
      exact p3
    · rw [up_off _ _ (by omega), up_off _ _ (by omega), up_off _ _ (by omega)]
      exact p5
    · rw [up_off _ _ (by omega), up_off _ _ (by omega), up_off _ _ (by omega)]
      exact p6
    · have : vG (vBg (vup (vup (vup u (38 + u 4) a) (44 + u 4) b) 4 (u 4 + 1))) = vG (vBg u) := by
        show vup (vup (vup u (38 + u 4) a) (44 + u 4) b) 4 (u 4 + 1) 50 + 2 ^ 30 * vup (vup (vup u (38 + u 4) a) (44 + u 4) b) 4 (u 4 + 1) 51 = u 50 + 2 ^ 30 * u 51
        rw [e 50 (by decide) (by omega), e 51 (by decide) (by omega)]
      rw [this]
      exact p7
    · have hi4 : i < u 4 + 1 := hi4
      have h6 : i < 6 := by omega
      rw [vBg_run _ h6, vBg_pace _ h6, vBg_ground _ h6, vBg_was _ h6]
      rw [vup_ne (show 38 + i ≠ 4 by omega), vup_ne (show 38 + i ≠ 44 + u 4 by omega), vup_ne (show 44 + i ≠ 4 by omega)]
      rw [up_off _ _ (show ¬ (21 = 1 ∧ 0 = 0 ∧ i = 3) by omega), up_off _ _ (show ¬ (21 = 22 ∧ 0 = 0 ∧ i = u 4) by omega), up_off _ _ (show ¬ (22 = 1 ∧ 0 = 0 ∧ i = 3) by omega), up_off _ _ (show ¬ (23 = 1 ∧ 0 = 0 ∧ i = 3) by omega), up_off _ _ (show ¬ (23 = 22 ∧ 0 = 0 ∧ i = u 4) by omega), up_off _ _ (show ¬ (23 = 21 ∧ 0 = 0 ∧ i = u 4) by omega), up_off _ _ (show ¬ (24 = 1 ∧ 0 = 0 ∧ i = 3) by omega), up_off _ _ (show ¬ (24 = 22 ∧ 0 = 0 ∧ i = u 4) by omega), up_off _ _ (show ¬ (24 = 21 ∧ 0 = 0 ∧ i = u 4) by omega)]
      by_cases e2 : i = u 4
      · subst e2
        rw [up_at, up_at, vup_eq, vup_eq]
        exact ⟨rfl, rfl, (z _ h6).1, (z _ h6).2⟩
      · rw [up_off _ _ (by omega), up_off _ _ (by omega), up_off _ _ (by omega), vup_ne (show 38 + i ≠ 38 + u 4 by omega), vup_ne (show 44 + i ≠ 44 + u 4 by omega), vup_ne (show 44 + i ≠ 38 + u 4 by omega)]
        obtain ⟨a1, a2, a3, a4⟩ := p8 i (by show i < u 4; omega)
        rw [vBg_run _ h6] at a1
        rw [vBg_pace _ h6] at a2
        exact ⟨a1, a2, (z _ h6).1, (z _ h6).2⟩
  · rw [up_off _ _ (by omega), up_off _ _ (by omega), up_off _ _ (by omega)]
    exact (z i h6).1
  · rw [up_off _ _ (by omega), up_off _ _ (by omega), up_off _ _ (by omega)]
    exact (z i h6).2
theorem x_addGate (ht : TD hi hl u) (h4 : u 4 ≤ 6) (h50 : u 50 < 2 ^ 30) (h51 : u 51 < 2 ^ 30) {g : Nat} (hg : g < 60) : ∃ hl', fx_Ga (d + 1) 11 [cO 0, vi (nI g)] (hp σ hi hl) none (hp σ hi hl') ∧ FlK hl hl' ∧ TD hi hl' (vOg u g) := by
  obtain ⟨⟨p1, p2, p3, p4, p5, p6, p7, p8⟩, z⟩ := id ht
  have e : ∀ x, x < 50 → vOg u g x = u x := fun x hx => og_ne hg hx
  have hb : vG (vBg u) < 2 ^ 64 := by
    show u 50 + 2 ^ 30 * u 51 < 2 ^ 64
    omega
  refine ⟨fx_up hl 1 0 6 (lN (vG (vBg (vOg u g)))), fx_meth (d := d) fx_M11 [some (cO 0), some (vi (nI g))] (by decide) rfl rfl (Nat.le_of_ble_eq_true rfl) (fx_wpE [] 30 ⟨rfl, ?_⟩), fun k j s h => up_off _ _ (by omega), ⟨?_, ?_, ?_, ?_, p5, p6, up_at _ _ _ _ _, fun i hi4 => ?_⟩, z⟩
  · show hp σ hi (fx_up hl 1 0 6 (hl 1 0 6 ||| ((1 : Int64) <<< ((nI g).toInt64 &&& 63)))) = _
    rw [p7, wb_sh1 g hg, wb_or hb (wb_lt2 (by omega)), vG_og h50 h51 hg]
  · rw [vBg_ne _ (by omega), e 1 (by decide)]
    exact p1
  · rw [vBg_ne _ (by omega), e 2 (by decide)]
    exact p2
  · rw [vBg_ne _ (by omega), e 3 (by decide)]
    exact p3
  · rw [vBg_ne _ (by omega), e 4 (by decide)]
    exact p4
  · have hi4 : i < vOg u g 4 := hi4
    rw [e 4 (by decide)] at hi4
    obtain ⟨a1, a2, a3, a4⟩ := p8 i hi4
    have h6 : i < 6 := by omega
    rw [vBg_run _ h6] at a1 ⊢
    rw [vBg_pace _ h6] at a2 ⊢
    rw [vBg_ground _ h6] at a3 ⊢
    rw [vBg_was _ h6] at a4 ⊢
    rw [e _ (by omega), e _ (by omega)]
    exact ⟨a1, a2, a3, a4⟩
end XH
