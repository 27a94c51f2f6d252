/-! a hunt's text: the reference -/
def HS (hi : fxI3) (p c : Nat) (u : Nat → Nat) : Prop := hi 11 0 8 = nI p ∧ hi 11 0 9 = 0 ∧ hi 11 0 11 = nI 6 ∧ hi 11 0 14 = nI c ∧ ∀ x, x < 52 → hi 55 0 x = nI (u x)
def FrH (hi hi' : fxI3) : Prop := ∀ k j s, ¬ (k = 11 ∧ (s = 8 ∨ s = 9 ∨ s = 10 ∨ s = 14)) → k ≠ 55 → hi' k j s = hi k j s
theorem FrH.rf (hi : fxI3) : FrH hi hi := fun _ _ _ _ _ => rfl
theorem FrH.tr {a b c : fxI3} (h : FrH a b) (g : FrH b c) : FrH a c := fun k j s h1 h2 => (g k j s h1 h2).trans (h k j s h1 h2)
theorem FrH.up (hi : fxI3) {k j s : Nat} (x : Int32) (h : k = 11 ∧ (s = 8 ∨ s = 9 ∨ s = 10 ∨ s = 14) ∨ k = 55) : FrH hi (fx_up hi k j s x) := fun k' j' s' h1 h2 => up_off hi x (fun z => by
  obtain ⟨z1, _, z3⟩ := z
  subst z1; subst z3
  rcases h with h | h
  · exact h1 h
  · exact h2 h)
theorem TM.fh {hi hi' : fxI3} {n : Nat} {T : Nat → Int32} (h : TM hi n T) (f : FrH hi hi') : TM hi' n T := ⟨h.1, (f 11 0 1 (by omega) (by omega)).trans h.2.1, fun i hi2 => (f 50 0 i (by omega) (by omega)).trans (h.2.2 i hi2)⟩
theorem HS.nx {hi : fxI3} {p c : Nat} {u : Nat → Nat} (h : HS hi p c u) (q : Nat) : HS (fx_up hi 11 0 8 (nI q)) q c u := ⟨up_at _ _ _ _ _, (up_off _ _ (by omega)).trans h.2.1, (up_off _ _ (by omega)).trans h.2.2.1, (up_off _ _ (by omega)).trans h.2.2.2.1, fun x hx => (up_off _ _ (by omega)).trans (h.2.2.2.2 x hx)⟩
theorem HS.put {hi : fxI3} {p c : Nat} {u : Nat → Nat} (h : HS hi p c u) (x a : Nat) : HS (fx_up hi 55 0 x (nI a)) p c (vup u x a) := by
  refine ⟨(up_off _ _ (by omega)).trans h.1, (up_off _ _ (by omega)).trans h.2.1, (up_off _ _ (by omega)).trans h.2.2.1, (up_off _ _ (by omega)).trans h.2.2.2.1, fun y hy => ?_⟩
  by_cases e : y = x
  · subst e
    rw [up_at, vup_eq]
  · rw [up_off _ _ (by omega), vup_ne e]
    exact h.2.2.2.2 y hy
def QHP (σ : fxS) (hi : fxI3) (hl : fxL3) (c : Nat) (res : fxQh) : Option fxV → fxH → Prop := fun r2 h2 => match res with
  | .inl f => r2 = some (vi 0) ∧ ∃ hi', h2 = hp σ hi' hl ∧ FrH hi hi' ∧ hi' 11 0 9 = nI f
  | .inr (p', u') => r2 = some (vi 1) ∧ ∃ hi', h2 = hp σ hi' hl ∧ FrH hi hi' ∧ HS hi' p' c u'
def QH (D y : Nat) (av : List fxV) (σ : fxS) (hi : fxI3) (hl : fxL3) (c : Nat) (res : fxQh) : Prop := match res with
  | .inl f => ∃ hi', fx_Ga D y av (hp σ hi hl) (some (vi 0)) (hp σ hi' hl) ∧ FrH hi hi' ∧ hi' 11 0 9 = nI f
  | .inr (p', u') => ∃ hi', fx_Ga D y av (hp σ hi hl) (some (vi 1)) (hp σ hi' hl) ∧ FrH hi hi' ∧ HS hi' p' c u'
theorem QH_of {d y : Nat} {av : List fxV} {σ : fxS} {hi : fxI3} {hl : fxL3} {c : Nat} {res : fxQh} (M : fxM) (lv : fxLv) (hy : y < 255) (hM : (fx_Y y).2.1 = M) (hlv : fx_ent M.1.2.2.1 av = lv) (hll : (fx_sl av).length ≤ M.1.2.2.1) (k : fx_E (fx_Ga d) M (0, lv, [], hp σ hi hl, 0, 0) (QHP σ hi hl c res)) : QH (d + 1) y av σ hi hl c res := by
  obtain ⟨r, h', hg, e⟩ := fx_methX (P := QHP σ hi hl c res) M lv hy hM hlv hll k
  match res, e with
  | .inl f, ⟨e1, hi', e2, e3⟩ =>
    subst e1
    subst e2
    exact ⟨hi', hg, e3⟩
  | .inr (p', u'), ⟨e1, hi', e2, e3⟩ =>
    subst e1
    subst e2
    exact ⟨hi', hg, e3⟩
theorem nI_rg {lo mo v : Nat} (hlo : lo < 2 ^ 31) (hmo : mo < 2 ^ 31) (hv : v < 2 ^ 31) : (nI lo ≤ nI v ∧ nI v ≤ nI mo) ↔ (lo ≤ v ∧ v ≤ mo) :=
  ⟨fun ⟨a, b⟩ => ⟨Nat.le_of_not_lt (fun z => absurd a (Int32.not_le.mpr (nI_lt z hlo))), Nat.le_of_not_lt (fun z => absurd b (Int32.not_le.mpr (nI_lt z hv)))⟩, fun ⟨a, b⟩ => ⟨nI_le a hv, nI_le b hmo⟩⟩
theorem ni_or (a b : Nat) : nI a ||| nI b = nI (a ||| b) := by
  apply Int32.toBitVec_inj.mp
  show BitVec.ofNat 32 a ||| BitVec.ofNat 32 b = BitVec.ofNat 32 (a ||| b)
  apply BitVec.eq_of_getLsbD_eq
  intro i hi
  simp [hi]
section MH
variable {d : Nat} {σ : fxS} {hi : fxI3} {hl : fxL3} {n p c : Nat} {u : Nat → Nat} {T : Nat → Int32}
theorem m_num (ht : TM hi n T) (hs : HS hi p c u) (hpn : p ≤ n) {lo mo : Nat} (hlo : lo < 2 ^ 31) (hmo : mo < 2 ^ 31) : match vNm T n p lo mo with
    | .inl f => ∃ hi', fx_Ga (d + 2) 155 [mO, vi (nI lo), vi (nI mo)] (hp σ hi hl) (some (vi 0)) (hp σ hi' hl) ∧ FrH hi hi' ∧ hi' 11 0 9 = nI f
    | .inr (e, v) => ∃ hi', fx_Ga (d + 2) 155 [mO, vi (nI lo), vi (nI mo)] (hp σ hi hl) (some (vi 1)) (hp σ hi' hl) ∧ FrH hi hi' ∧ HS hi' e c u ∧ hi' 11 0 10 = nI v := by
  have h := m_numberHere (d := d) (σ := σ) (hl := hl) ht hs.1 hpn hs.2.1 (nI lo) (nI mo) rfl rfl rfl
  have hqn : lx_rn lx_S T n p ≤ n := rn_le hpn
  unfold vNm
  generalize lx_rn lx_S T n p = q at h hqn ⊢
  have hen : lx_rn lx_D T n q ≤ n := rn_le hqn
  have hv5 : lx_nv T q (lx_rn lx_D T n q - q) < 100000 := lx_nv_5 T q _ (fun i hi2 => rn_all (P := lx_D) (T := T) (n := n) (p := q) (by omega) (by omega))
  generalize lx_rn lx_D T n q = e at h hen hv5 ⊢
  generalize lx_nv T q (e - q) = v at h hv5 ⊢
  by_cases hD : q < n ∧ lx_D (T q) = true
  · rw [if_pos hD]
    rw [if_pos hD, if_pos hD] at h
    have iff := nI_rg (v := v) hlo hmo (by omega)
    by_cases hc : e - q ≤ 5 ∧ (lo ≤ v ∧ v ≤ mo)
    · have hc2 : e - q ≤ 5 ∧ (nI lo ≤ nI v ∧ nI v ≤ nI mo) := ⟨hc.1, iff.mpr hc.2⟩
      rw [if_pos hc]
      rw [if_pos hc2, if_pos hc2] at h
      have s0 := hs.nx e
      exact ⟨_, h, (FrH.up hi _ (by omega)).tr (FrH.up _ _ (by omega)), ⟨(up_off _ _ (by omega)).trans s0.1, (up_off _ _ (by omega)).trans s0.2.1, (up_off _ _ (by omega)).trans s0.2.2.1, (up_off _ _ (by omega)).trans s0.2.2.2.1, fun x hx => (up_off _ _ (by omega)).trans (s0.2.2.2.2 x hx)⟩, up_at _ _ _ _ _⟩
    · have hc2 : ¬ (e - q ≤ 5 ∧ (nI lo ≤ nI v ∧ nI v ≤ nI mo)) := fun z => hc ⟨z.1, iff.mp z.2⟩
      rw [if_neg hc]
      rw [if_neg hc2, if_neg hc2] at h
      refine ⟨_, h, ((FrH.up hi _ (by omega)).tr (FrH.up _ _ (by omega))).tr (FrH.up _ _ (by omega)), ?_⟩
      rw [up_at, show 1 + 8 * q + 1 = 2 + 8 * q by omega]
  · rw [if_neg hD]
    rw [if_neg hD, if_neg hD] at h
    exact ⟨_, h, (FrH.up hi _ (by omega)).tr (FrH.up _ _ (by omega)), up_at _ _ _ _ _⟩
theorem m_cell (ht : TM hi n T) (hs : HS hi p c u) (hpn : p ≤ n) {x lo mo : Nat} (hx : x < 52) (hlo : lo < 2 ^ 31) (hmo : mo < 2 ^ 31) : QH (d + 3) 171 [mO, vi (nI x), vi (nI lo), vi (nI mo)] σ hi hl c (match vNm T n p lo mo with
    | .inl f => .inl f
    | .inr (e, v) => .inr (e, vup u x v)) := by
  have h := m_num (d := d) (σ := σ) (hl := hl) ht hs hpn hlo hmo
  refine QH_of (d := d + 2) fx_M171 [some mO, some (vi (nI x)), some (vi (nI lo)), some (vi (nI mo))] (by decide) rfl rfl (Nat.le_of_ble_eq_true rfl) ?_
  cases hv : vNm T n p lo mo with
  | inl f =>
    rw [hv] at h
    obtain ⟨hi', hg, f1, e1⟩ := h
    exact fx_wpE [] 30 ⟨_, _, hg, fun w => absurd rfl w, fun _ => ⟨Or.inl rfl, rfl, hi', rfl, f1, e1⟩⟩
  | inr y =>
    obtain ⟨e, v⟩ := y
    rw [hv] at h
    obtain ⟨hi', hg, f1, s1, e1⟩ := h
    refine fx_wpE [] 30 ⟨_, _, hg, fun _ => ⟨ni_inx (n := x) (m := 52) rfl hx (by decide), Or.inr rfl, rfl, fx_up hi' 55 0 x (nI v), ?_, f1.tr (FrH.up _ _ (by omega)), s1.put x v⟩, fun w => absurd (by decide) w⟩
    show hp σ (fx_up hi' 55 0 (nI x).toNatClampNeg (hi' 11 0 10)) hl = _
    rw [nI_clamp (by omega), e1]
theorem m_fox (ht : TM hi n T) (hs : HS hi p c u) (hpn : p ≤ n) (hb : ∀ x, x < 52 → u x < 2 ^ 30) : QH (d + 4) 172 [mO, vi (nI p)] σ hi hl c (if 0 < u 0 then .inl (5 + 8 * p) else vH3 T n (lx_rn lx_L T n p) u) := by
  refine QH_of (d := d + 3) fx_M172 [some mO, some (vi (nI p))] (by decide) rfl rfl (Nat.le_of_ble_eq_true rfl) ?_
  have b0 := hb 0 (by decide)
  have bd := ni_inx (x := 0) (n := 0) (m := 52) rfl (by decide) (by decide)
  by_cases h0 : 0 < u 0
  · rw [if_pos h0]
    have hf := m_fails (d := d + 2) (σ := σ) (hl := hl) hs.2.1 4 p
    refine fx_wpE [] 30 ⟨bd, pk_le (u 0) 0 (fun h => absurd h (by omega)) (fun _ => ⟨_, _, hf, Or.inl rfl, rfl, _, rfl, FrH.up hi _ (by omega), ?_⟩) (hs.2.2.2.2 0 (by decide))⟩
    rw [up_at, show 1 + 8 * p + 4 = 5 + 8 * p by omega]
  · rw [if_neg h0]
    have hpw := m_passWord (d := d + 1) (σ := σ) (hl := hl) ht hs.1 hpn
    have hp0 : lx_rn lx_L T n p ≤ n := rn_le hpn
    generalize lx_rn lx_L T n p = p0 at hpw hp0 ⊢
    have F0 : FrH hi (fx_up hi 11 0 8 (nI p0)) := FrH.up hi _ (by omega)
    have c1 := m_cell (d := d) (σ := σ) (hl := hl) (ht.fh F0) (hs.nx p0) hp0 (x := 1) (lo := 2) (mo := 60) (by decide) (by decide) (by decide)
    have st : ∀ res : fxQh, fx_E (fx_Ga (d + 3)) fx_M172 (20, [some mO, some (vi (nI p))], [], hp σ (fx_up hi 11 0 8 (nI p0)) hl, 0, 0) (QHP σ hi hl c res) → fx_E (fx_Ga (d + 3)) fx_M172 (0, [some mO, some (vi (nI p))], [], hp σ hi hl, 0, 0) (QHP σ hi hl c res) := fun res k => fx_wpE [20] 30 ⟨bd, pk_le (u 0) 0 (fun _ => ⟨_, _, hpw, k⟩) (fun h => absurd h h0) (hs.2.2.2.2 0 (by decide))⟩
    refine st _ ?_
    unfold vH3
    cases v1 : vNm T n p0 2 60 with
    | inl f =>
      rw [v1] at c1
      obtain ⟨h1, g1, f1, e1⟩ := c1
      exact fx_wpE [] 60 ⟨_, _, g1, fun _ => ⟨Or.inl rfl, rfl, h1, rfl, F0.tr f1, e1⟩, fun w => absurd rfl w⟩
    | inr y =>
      obtain ⟨p1, a⟩ := y
      rw [v1] at c1
      obtain ⟨h1, g1, f1, s1⟩ := c1
      have x2 := ((vNm_ok hp0).2 p1 a v1).2.1
      have F1 := F0.tr f1
      have c2 := m_cell (d := d) (σ := σ) (hl := hl) (ht.fh F1) s1 x2 (x := 2) (lo := 1) (mo := 9) (by decide) (by decide) (by decide)
      dsimp only
      cases v2 : vNm T n p1 1 9 with
      | inl f =>
        rw [v2] at c2
        obtain ⟨h2, g2, f2, e2⟩ := c2
        exact fx_wpE [] 60 ⟨_, _, g1, fun w => absurd w (by decide), fun _ => ⟨_, _, g2, fun _ => ⟨Or.inl rfl, rfl, h2, rfl, F1.tr f2, e2⟩, fun w => absurd rfl w⟩⟩
      | inr y =>
        obtain ⟨p2, b⟩ := y
        rw [v2] at c2
        obtain ⟨h2, g2, f2, s2⟩ := c2
        have y2 := ((vNm_ok x2).2 p2 b v2).2.1
        have F2 := F1.tr f2
        have c3 := m_cell (d := d) (σ := σ) (hl := hl) (ht.fh F2) s2 y2 (x := 3) (lo := 0) (mo := 9) (by decide) (by decide) (by decide)
        dsimp only
        cases v3 : vNm T n p2 0 9 with
        | inl f =>
          rw [v3] at c3
          obtain ⟨h3, g3, f3, e3⟩ := c3
          exact fx_wpE [] 60 ⟨_, _, g1, fun w => absurd w (by decide), fun _ => ⟨_, _, g2, fun w => absurd w (by decide), fun _ => ⟨_, _, g3, fun w => absurd rfl w, fun _ => ⟨Or.inl rfl, rfl, h3, rfl, F2.tr f3, e3⟩⟩⟩⟩
        | inr y =>
          obtain ⟨p3, g⟩ := y
          rw [v3] at c3
          obtain ⟨h3, g3, f3, s3⟩ := c3
          exact fx_wpE [] 60 ⟨_, _, g1, fun w => absurd w (by decide), fun _ => ⟨_, _, g2, fun w => absurd w (by decide), fun _ => ⟨_, _, g3, fun _ => ⟨bd, Or.inr rfl, rfl, _, rfl, (F2.tr f3).tr (FrH.up _ _ (by omega)), s3.put 0 1⟩, fun w => absurd (by decide) w⟩⟩⟩
theorem m_rid (ht : TM hi n T) (hs : HS hi p c u) (hpn : p ≤ n) (h4 : u 4 ≤ 6) : QH (d + 4) 173 [mO, vi (nI p)] σ hi hl c (if u 4 = 6 then .inl (5 + 8 * p) else vH2 T n (lx_rn lx_L T n p) u) := by
  refine QH_of (d := d + 3) fx_M173 [some mO, some (vi (nI p))] (by decide) rfl rfl (Nat.le_of_ble_eq_true rfl) ?_
  have bd := ni_inx (x := 4) (n := 4) (m := 52) rfl (by decide) (by decide)
  have r4 := hs.2.2.2.2 4 (by decide)
  by_cases h6 : u 4 = 6
  · rw [if_pos h6]
    have hf := m_fails (d := d + 2) (σ := σ) (hl := hl) hs.2.1 4 p
    refine fx_wpE [] 30 ⟨bd, nn_eq (u 4) 6 (fun _ => ⟨_, _, hf, Or.inl rfl, rfl, _, rfl, FrH.up hi _ (by omega), ?_⟩) (fun h => absurd h6 h) r4⟩
    rw [up_at, show 1 + 8 * p + 4 = 5 + 8 * p by omega]
  · rw [if_neg h6]
    have hpw := m_passWord (d := d + 1) (σ := σ) (hl := hl) ht hs.1 hpn
    have hp0 : lx_rn lx_L T n p ≤ n := rn_le hpn
    generalize lx_rn lx_L T n p = p0 at hpw hp0 ⊢
    have F0 : FrH hi (fx_up hi 11 0 8 (nI p0)) := FrH.up hi _ (by omega)
    have s0 := hs.nx p0
    have c1 := m_cell (d := d) (σ := σ) (hl := hl) (ht.fh F0) s0 hp0 (x := 38 + u 4) (lo := 0) (mo := 99) (by omega) (by decide) (by decide)
    have e38 : (38 + fx_up hi 11 0 8 (nI p0) 55 0 4 : Int32) = nI (38 + u 4) := by rw [s0.2.2.2.2 4 (by decide)]; exact nI_add 38 _
    rw [← e38] at c1
    refine fx_wpE [22] 30 ⟨bd, nn_eq (u 4) 6 (fun h => absurd h h6) (fun _ => ⟨_, _, hpw, ?_⟩) r4⟩
    unfold vH2
    cases v1 : vNm T n p0 0 99 with
    | inl f =>
      rw [v1] at c1
      obtain ⟨h1, g1, f1, e1⟩ := c1
      exact fx_wpE [] 60 ⟨bd, _, _, g1, fun _ => ⟨Or.inl rfl, rfl, h1, rfl, F0.tr f1, e1⟩, fun w => absurd rfl w⟩
    | inr y =>
      obtain ⟨p1, a⟩ := y
      rw [v1] at c1
      obtain ⟨h1, g1, f1, s1⟩ := c1
      have x2 := ((vNm_ok hp0).2 p1 a v1).2.1
      have F1 := F0.tr f1
      have q4 : h1 55 0 4 = nI (u 4) := (s1.2.2.2.2 4 (by decide)).trans (by rw [vup_ne (by omega)])
      have c2 := m_cell (d := d) (σ := σ) (hl := hl) (ht.fh F1) s1 x2 (x := 44 + u 4) (lo := 1) (mo := 9) (by omega) (by decide) (by decide)
      have e44 : (44 + h1 55 0 4 : Int32) = nI (44 + u 4) := by rw [q4]; exact nI_add 44 _
      rw [← e44] at c2
      dsimp only
      cases v2 : vNm T n p1 1 9 with
      | inl f =>
        rw [v2] at c2
        obtain ⟨h2, g2, f2, e2⟩ := c2
        exact fx_wpE [] 60 ⟨bd, _, _, g1, fun w => absurd w (by decide), fun _ => ⟨bd, _, _, g2, fun w => absurd rfl w, fun _ => ⟨Or.inl rfl, rfl, h2, rfl, F1.tr f2, e2⟩⟩⟩
      | inr y =>
        obtain ⟨p2, b⟩ := y
        rw [v2] at c2
        obtain ⟨h2, g2, f2, s2⟩ := c2
        have q42 : h2 55 0 4 = nI (u 4) := (s2.2.2.2.2 4 (by decide)).trans (by rw [vup_ne (by omega), vup_ne (by omega)])
        refine fx_wpE [] 80 ⟨bd, _, _, g1, fun w => absurd w (by decide), fun _ => ⟨bd, _, _, g2, fun _ => ⟨bd, bd, Or.inr rfl, rfl, fx_up h2 55 0 4 (nI (u 4 + 1)), ?_, (F1.tr f2).tr (FrH.up _ _ (by omega)), s2.put 4 (u 4 + 1)⟩, fun w => absurd (by decide) w⟩⟩
        show hp σ (fx_up h2 55 0 4 (h2 55 0 4 + 1)) hl = _
        rw [q42, nI_1]
theorem m_gat (ht : TM hi n T) (hs : HS hi p c u) (hpn : p ≤ n) (h1 : 2 ≤ u 1 ∧ u 1 ≤ 60) : QH (d + 4) 174 [mO] σ hi hl c (vH1 T n (lx_rn lx_L T n p) u) := by
  refine QH_of (d := d + 3) fx_M174 [some mO] (by decide) rfl rfl (Nat.le_of_ble_eq_true rfl) ?_
  have bd := ni_inx (x := 1) (n := 1) (m := 52) rfl (by decide) (by decide)
  have hpw := m_passWord (d := d + 1) (σ := σ) (hl := hl) ht hs.1 hpn
  have hp0 : lx_rn lx_L T n p ≤ n := rn_le hpn
  generalize lx_rn lx_L T n p = p0 at hpw hp0 ⊢
  have F0 : FrH hi (fx_up hi 11 0 8 (nI p0)) := FrH.up hi _ (by omega)
  have s0 := hs.nx p0
  have c1 := m_num (d := d + 1) (σ := σ) (hl := hl) (ht.fh F0) s0 hp0 (lo := 0) (mo := u 1 - 1) (by decide) (by omega)
  have e1 : (fx_up hi 11 0 8 (nI p0) 55 0 1 - 1 : Int32) = nI (u 1 - 1) := by rw [s0.2.2.2.2 1 (by decide)]; exact pk_sub (b := 1) (by omega)
  rw [← e1] at c1
  refine fx_wpE [4] 30 ⟨_, _, hpw, ?_⟩
  unfold vH1
  cases v1 : vNm T n p0 0 (u 1 - 1) with
  | inl f =>
    rw [v1] at c1
    obtain ⟨h1, g1, f1, e1⟩ := c1
    exact fx_wpE [] 60 ⟨bd, _, _, g1, fun w => absurd rfl w, fun _ => ⟨Or.inl rfl, rfl, h1, rfl, F0.tr f1, e1⟩⟩
  | inr y =>
    obtain ⟨p1, g⟩ := y
    rw [v1] at c1
    obtain ⟨h2, g1, f1, s1, e10⟩ := c1
    have g60 : g < 60 := by
      have := ((vNm_ok hp0).2 p1 g v1).2.2.2
      omega
    have ed : (h2 11 0 10 / 30 : Int32) = nI (g / 30) := by rw [e10]; exact pk_div (d := 30) (by omega) (by decide) (by decide)
    have er : (h2 11 0 10 - h2 11 0 10 / 30 * 30 : Int32) = nI (g % 30) := by rw [e10]; exact pk_rem (d := 30) (by omega) (by decide) (by decide)
    have e50 : (50 + h2 11 0 10 / 30 : Int32) = nI (50 + g / 30) := by rw [ed]; exact nI_add 50 _
    have bd2 := ni_inx (n := 50 + g / 30) (m := 52) e50 (by omega) (by decide)
    refine fx_wpE [] 60 ⟨bd, _, _, g1, fun _ => ⟨by decide, bd2, by decide, bd2, Or.inr rfl, rfl, fx_up h2 55 0 (50 + g / 30) (nI (u (50 + g / 30) ||| 2 ^ (g % 30))), ?_, (F0.tr f1).tr (FrH.up _ _ (by omega)), s1.put _ _⟩, fun w => absurd (by decide) w⟩
    show hp σ (fx_up h2 55 0 (50 + h2 11 0 10 / 30 : Int32).toNatClampNeg (h2 55 0 (50 + h2 11 0 10 / 30 : Int32).toNatClampNeg ||| ((1 : Int32) <<< ((h2 11 0 10 - h2 11 0 10 / 30 * 30) &&& 31)))) hl = _
    rw [ni_cl e50 (by omega), s1.2.2.2.2 _ (by omega), er, sh_30 _ (Nat.mod_lt _ (by decide)), ni_or]
theorem m_line (ht : TM hi n T) (hs : HS hi p c u) (hpn : p ≤ n) (hq : lx_rn lx_S T n p = p) {c0 : Nat} (hu : HU c0 u) : QH (d + 5) 175 [mO, vi (nI p)] σ hi hl c (vHl T n p u) := by
  have hb : ∀ x, x < 52 → u x < 2 ^ 30 := fun x hx => HU_lt hu hx
  have w1 := m_isWordQ (d := d + 2) (σ := σ) (hl := hl) ht hs.1 hpn hq (c := 6713208) (by decide) (by decide)
  have w2 := m_isWordQ (d := d + 2) (σ := σ) (hl := hl) ht hs.1 hpn hq (c := 491394458994) (by decide) (by decide)
  have bd := ni_inx (x := 0) (n := 0) (m := 52) rfl (by decide) (by decide)
  have b0 := hb 0 (by decide)
  refine QH_of (d := d + 4) fx_M175 [some mO, some (vi (nI p))] (by decide) rfl rfl (Nat.le_of_ble_eq_true rfl) ?_
  -- a call's answer, as it stands
  have ans : ∀ (y : Nat) (av : List fxV) (res : fxQh) (K : fxI3 → Int32 → Prop), QH (d + 4) y av σ hi hl c res → (∀ hi' x, (x = 0 ∨ x = 1) → QHP σ hi hl c res (some (vi x)) (hp σ hi' hl) → K hi' x) → ∃ hi' x, fx_Ga (d + 4) y av (hp σ hi hl) (some (vi x)) (hp σ hi' hl) ∧ K hi' x := by
    intro y av res K h k
    match res, h, k with
    | .inl f, ⟨hi', hg, f1, e1⟩, k => exact ⟨hi', 0, hg, k hi' 0 (Or.inl rfl) ⟨rfl, hi', rfl, f1, e1⟩⟩
    | .inr (p', u'), ⟨hi', hg, f1, e1⟩, k => exact ⟨hi', 1, hg, k hi' 1 (Or.inr rfl) ⟨rfl, hi', rfl, f1, e1⟩⟩
  unfold vHl
  by_cases h1 : lx_wk T n p = 6713208
  · rw [if_pos h1]
    rw [decide_eq_true h1] at w1
    obtain ⟨hi', x, hg, hx, hq⟩ := ans 172 _ _ (fun hi' x => (x = 0 ∨ x = 1) ∧ QHP σ hi hl c _ (some (vi x)) (hp σ hi' hl)) (m_fox (d := d) (σ := σ) (hl := hl) ht hs hpn hb) (fun _ _ a b => ⟨a, b⟩)
    exact fx_wpE [] 30 ⟨_, _, w1, fun w => absurd w (by decide), fun _ => ⟨_, _, hg, hx, hq⟩⟩
  · rw [if_neg h1]
    rw [decide_eq_false h1] at w1
    by_cases h0 : u 0 = 0
    · rw [if_pos h0]
      have hf := m_fails (d := d + 3) (σ := σ) (hl := hl) hs.2.1 4 p
      refine fx_wpE [] 30 ⟨_, _, w1, fun _ => ⟨bd, nn_eq (u 0) 0 (fun _ => ⟨_, _, hf, Or.inl rfl, rfl, _, rfl, FrH.up hi _ (by omega), ?_⟩) (fun h => absurd h0 h) (hs.2.2.2.2 0 (by decide))⟩, fun w => absurd rfl w⟩
      rw [up_at, show 1 + 8 * p + 4 = 5 + 8 * p by omega]
    · rw [if_neg h0]
      have c1 : 0 < c0 := by
        rcases Nat.eq_zero_or_pos c0 with z | z
        · exact absurd (by rw [hu.1 z]) h0
        · exact z
      have h2 := hu.2.1 c1
      by_cases h3 : lx_wk T n p = 491394458994
      · rw [if_pos h3]
        rw [decide_eq_true h3] at w2
        obtain ⟨hi', x, hg, hx, hq⟩ := ans 173 _ _ (fun hi' x => (x = 0 ∨ x = 1) ∧ QHP σ hi hl c _ (some (vi x)) (hp σ hi' hl)) (m_rid (d := d) (σ := σ) (hl := hl) ht hs hpn hu.2.2.1) (fun _ _ a b => ⟨a, b⟩)
        exact fx_wpE [] 30 ⟨_, _, w1, fun _ => ⟨bd, nn_eq (u 0) 0 (fun h => absurd h h0) (fun _ => ⟨_, _, w2, fun w => absurd w (by decide), fun _ => ⟨_, _, hg, hx, hq⟩⟩) (hs.2.2.2.2 0 (by decide))⟩, fun w => absurd rfl w⟩
      · rw [if_neg h3]
        rw [decide_eq_false h3] at w2
        obtain ⟨hi', x, hg, hx, hq⟩ := ans 174 _ _ (fun hi' x => (x = 0 ∨ x = 1) ∧ QHP σ hi hl c _ (some (vi x)) (hp σ hi' hl)) (m_gat (d := d) (σ := σ) (hl := hl) ht hs hpn ⟨h2.2.1, h2.2.2.1⟩) (fun _ _ a b => ⟨a, b⟩)
        exact fx_wpE [] 30 ⟨_, _, w1, fun _ => ⟨bd, nn_eq (u 0) 0 (fun h => absurd h h0) (fun _ => ⟨_, _, w2, fun _ => ⟨_, _, hg, hx, hq⟩, fun w => absurd rfl w⟩) (hs.2.2.2.2 0 (by decide))⟩, fun w => absurd rfl w⟩
end MH
