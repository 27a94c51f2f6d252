/-! signs of a text: the reference -/
section ML
variable {d : Nat} {σ : fxS} {hi : fxI3} {hl : fxL3} {n p : Nat} {T : Nat → Int32}
theorem tm_at (ht : TM hi n T) {k : Nat} (hk : k < n) : hi 50 0 (nI k).toNatClampNeg = T k := by
  rw [nI_clamp (by have := ht.1; omega)]
  exact ht.2.2 k hk
theorem m_isDigit (ht : TM hi n T) {k : Nat} (hk : k < 2 ^ 30) : fx_Ga (d + 1) 150 [mO, vi (nI k)] (hp σ hi hl) (some (vi (b01 (decide (k < n) && lx_D (T k))))) (hp σ hi hl) := by
  have h400 := ht.1
  refine fx_meth fx_M150 [some mO, some (vi (nI k))] (by decide) rfl rfl (Nat.le_of_ble_eq_true rfl) (fx_wpE [] 40 ?_)
  refine pk_le n k (fun h => ⟨Or.inl rfl, ?_, rfl⟩) (fun h => ?_) ht.2.1
  · rw [decide_eq_false (by omega)]
    rfl
  · have e := tm_at ht h
    have bd := ni_in (n := k) (m := 400) (by omega) (by decide)
    rw [decide_eq_true h]
    refine ⟨bd, ilt e rfl (fun z => ⟨Or.inl rfl, ?_, rfl⟩) (fun z => ⟨bd, ilt rfl e (fun y => ⟨Or.inl rfl, ?_, rfl⟩) (fun y => ⟨Or.inr rfl, ?_, rfl⟩)⟩)⟩
    · unfold lx_D
      rw [decide_eq_false (fun w => absurd w.1 (Int32.not_le.mpr z))]
      rfl
    · unfold lx_D
      rw [decide_eq_false (fun w => absurd w.2 (Int32.not_le.mpr y))]
      rfl
    · unfold lx_D
      rw [decide_eq_true ⟨Int32.not_lt.mp z, Int32.not_lt.mp y⟩]
      rfl
theorem m_isLetter (ht : TM hi n T) {k : Nat} (hk : k < 2 ^ 30) : fx_Ga (d + 1) 151 [mO, vi (nI k)] (hp σ hi hl) (some (vi (b01 (decide (k < n) && lx_L (T k))))) (hp σ hi hl) := by
  have h400 := ht.1
  refine fx_meth fx_M151 [some mO, some (vi (nI k))] (by decide) rfl rfl (Nat.le_of_ble_eq_true rfl) (fx_wpE [] 40 ?_)
  refine pk_le n k (fun h => ⟨Or.inl rfl, ?_, rfl⟩) (fun h => ?_) ht.2.1
  · rw [decide_eq_false (by omega)]
    rfl
  · have e := tm_at ht h
    have bd := ni_in (n := k) (m := 400) (by omega) (by decide)
    rw [decide_eq_true h]
    refine ⟨bd, ilt e rfl (fun z => ⟨Or.inl rfl, ?_, rfl⟩) (fun z => ⟨bd, ilt rfl e (fun y => ⟨Or.inl rfl, ?_, rfl⟩) (fun y => ⟨Or.inr rfl, ?_, rfl⟩)⟩)⟩
    · unfold lx_L
      rw [decide_eq_false (fun w => absurd w.1 (Int32.not_le.mpr z))]
      rfl
    · unfold lx_L
      rw [decide_eq_false (fun w => absurd w.2 (Int32.not_le.mpr y))]
      rfl
    · unfold lx_L
      rw [decide_eq_true ⟨Int32.not_lt.mp z, Int32.not_lt.mp y⟩]
      rfl
theorem m_see (ht : TM hi n T) (hp1 : hi 11 0 8 = nI p) (hpn : p ≤ n) : fx_Ga (d + 1) 149 [mO] (hp σ hi hl) (some (vi (sA T n (lx_rn lx_S T n p)))) (hp σ (fx_up hi 11 0 8 (nI (lx_rn lx_S T n p))) hl) := by
  have h400 := ht.1
  refine fx_meth fx_M149 [some mO] (by decide) rfl rfl (Nat.le_of_ble_eq_true rfl) ?_
  have loop : ∀ t q, q + t = n → lx_rn lx_S T n q = lx_rn lx_S T n p → fx_E (fx_Ga d) fx_M149 (0, [some mO], [], hp σ (fx_up hi 11 0 8 (nI q)) hl, 0, 0) (fun r2 h2 => r2 = some (vi (sA T n (lx_rn lx_S T n p))) ∧ h2 = hp σ (fx_up hi 11 0 8 (nI (lx_rn lx_S T n p))) hl) := by
    intro t
    induction t with
    | zero =>
      intro q hq hr
      have : q = n := by omega
      subst this
      have er : lx_rn lx_S T q p = q := by rw [← hr]; exact rn_no (fun h => by omega)
      rw [er]
      refine fx_wpL [0] 40 (pk_le q q (fun _ => pk_le q q (fun _ => ⟨?_, rfl⟩) (fun hc => by omega) ht.2.1) (fun hc => by omega) ht.2.1)
      unfold sA
      rw [if_neg (by omega)]
      rfl
    | succ t ih =>
      intro q hq hr
      have e := tm_at ht (show q < n by omega)
      have bd := ni_in (n := q) (m := 400) (by omega) (by decide)
      refine fx_wpL [0] 40 (pk_le n q (fun hc => by omega) (fun _ => ⟨bd, ine e rfl (fun z => ?_) (fun z => ?_)⟩) ht.2.1)
      · have hno : lx_rn lx_S T n q = q := rn_no (fun _ => decide_eq_false z)
        rw [← hr, hno]
        refine pk_le n q (fun hc => by omega) (fun _ => ⟨bd, ?_, rfl⟩) ht.2.1
        unfold sA
        rw [if_pos (by omega)]
        exact congrArg (fun z => some (vi (z &&& 255))) e
      · have h2 := ih (q + 1) (by omega) ((rn_st (by omega) (decide_eq_true z)).symm.trans hr)
        rw [← up_up hi 11 0 8 (nI q) (nI (q + 1)), ← nI_1] at h2
        exact h2
  have h3 := loop (n - p) p (by omega) rfl
  rw [← hp1, up_self] at h3
  exact fx_wpE [] 0 h3
theorem m_passWord (ht : TM hi n T) (hp1 : hi 11 0 8 = nI p) (hpn : p ≤ n) : fx_Ga (d + 2) 153 [mO] (hp σ hi hl) none (hp σ (fx_up hi 11 0 8 (nI (lx_rn lx_L T n p))) hl) := by
  have h400 := ht.1
  refine fx_meth fx_M153 [some mO] (by decide) rfl rfl (Nat.le_of_ble_eq_true rfl) ?_
  have loop : ∀ t q, q + t = n → lx_rn lx_L T n q = lx_rn lx_L T n p → fx_E (fx_Ga (d + 1)) fx_M153 (0, [some mO], [], hp σ (fx_up hi 11 0 8 (nI q)) hl, 0, 0) (fun r2 h2 => r2 = none ∧ h2 = hp σ (fx_up hi 11 0 8 (nI (lx_rn lx_L T n p))) hl) := by
    intro t
    induction t with
    | zero =>
      intro q hq hr
      have : q = n := by omega
      subst this
      have er : lx_rn lx_L T q p = q := by rw [← hr]; exact rn_no (fun h => by omega)
      rw [er]
      have hl2 := m_isLetter (d := d) (σ := σ) (hi := fx_up hi 11 0 8 (nI q)) (hl := hl) ht (k := q) (by omega)
      rw [decide_eq_false (by omega)] at hl2
      exact fx_wpL [0] 40 ⟨_, _, hl2, b01_if (fun _ => ⟨rfl, rfl⟩) (fun z => by cases z)⟩
    | succ t ih =>
      intro q hq hr
      have hl2 := m_isLetter (d := d) (σ := σ) (hi := fx_up hi 11 0 8 (nI q)) (hl := hl) ht (k := q) (by omega)
      rw [decide_eq_true (show q < n by omega), Bool.true_and] at hl2
      refine fx_wpL [0] 40 ⟨_, _, hl2, b01_if (fun z => ?_) (fun z => ?_)⟩
      · have hno : lx_rn lx_L T n q = q := rn_no (fun _ => z)
        rw [← hr, hno]
        exact ⟨rfl, rfl⟩
      · have h2 := ih (q + 1) (by omega) ((rn_st (by omega) z).symm.trans hr)
        rw [← up_up hi 11 0 8 (nI q) (nI (q + 1)), ← nI_1] at h2
        exact h2
  have h3 := loop (n - p) p (by omega) rfl
  rw [← hp1, up_self] at h3
  exact fx_wpE [] 0 h3
theorem or_256 {a b : Nat} (ha : a < 2 ^ 56) (hb : b < 256) : lN a <<< ((8 : Int32).toInt64 &&& 63) ||| lN b = lN (256 * a + b) := by
  have h := wb_shl a (k := 8) (by decide)
  rw [show (8 : Int32) = nI 8 from rfl, h, wb_or (by omega) (by omega), Nat.mul_comm a]
  congr 1
  exact (Nat.two_pow_add_eq_or_of_lt (i := 8) hb a).symm
theorem m_isWord (ht : TM hi n T) (hp1 : hi 11 0 8 = nI p) (hpn : p ≤ n) {c : Nat} (h0 : 0 < c) (hc : c < 2 ^ 56) : fx_Ga (d + 2) 152 [mO, vl (lN c)] (hp σ hi hl) (some (vi (b01 (decide (lx_wk T n (lx_rn lx_S T n p) = c))))) (hp σ (fx_up hi 11 0 8 (nI (lx_rn lx_S T n p))) hl) := by
  have h400 := ht.1
  have hs := m_see (d := d) (σ := σ) (hl := hl) ht hp1 hpn
  have hqn : lx_rn lx_S T n p ≤ n := rn_le hpn
  generalize lx_rn lx_S T n p = q at hs hqn
  have hen : lx_rn lx_L T n q ≤ n := rn_le hqn
  have hge : q ≤ lx_rn lx_L T n q := rn_ge
  have hal : ∀ i, i < lx_rn lx_L T n q - q → lx_L (T (q + i)) = true := fun i hi2 => rn_all (P := lx_L) (T := T) (n := n) (p := q) (by omega) (by omega)
  have hend : lx_rn lx_L T n q < n → lx_L (T (lx_rn lx_L T n q)) = false := fun h => rn_end hqn h
  have ewk : lx_wk T n q = if 0 < lx_rn lx_L T n q - q ∧ lx_rn lx_L T n q - q < 8 then kC (fun i => lx_c (T (q + i))) (lx_rn lx_L T n q - q) else 0 := rfl
  generalize lx_wk T n q = wk at ewk
  obtain ⟨l, hl1⟩ : ∃ l, lx_rn lx_L T n q = q + l := ⟨lx_rn lx_L T n q - q, by omega⟩
  rw [hl1, Nat.add_sub_cancel_left] at ewk hal
  rw [hl1] at hen hend
  have hdig : ∀ i, i < l → 0 < lx_c (T (q + i)) ∧ lx_c (T (q + i)) < 256 ∧ T (q + i) = nI (lx_c (T (q + i))) := fun i hi2 => by
    obtain ⟨k, k1, k2, k3, k4⟩ := lx_L_of (hal i hi2)
    rw [k4]
    exact ⟨by omega, by omega, k3⟩
  have hpk : ∀ k, k ≤ l → k < 8 → kC (fun i => lx_c (T (q + i))) k < 2 ^ 56 := fun k h1 h2 => by
    have a := kC_lt (c := fun i => lx_c (T (q + i))) k (fun i hi2 => (hdig i (by omega)).2.1)
    have b : 256 ^ k ≤ 256 ^ 7 := Nat.pow_le_pow_right (by decide) (by omega)
    have e7 : (256 : Nat) ^ 7 = 2 ^ 56 := by decide
    omega
  let Post : Option fxV → fxH → Prop := fun r2 h2 => r2 = some (vi (b01 (decide (wk = c)))) ∧ h2 = hp σ (fx_up hi 11 0 8 (nI q)) hl
  have loop : ∀ t k, k + t = l → fx_E (fx_Ga (d + 1)) fx_M152 (10, [some mO, some (vl (lN c)), none, some (vl (lN (kC (fun i => lx_c (T (q + i))) (min k 8)))), none, some (vi (nI k))], [], hp σ (fx_up hi 11 0 8 (nI q)) hl, 0, 0) Post := by
    intro t
    induction t with
    | zero =>
      intro k hk
      have : k = l := by omega
      subst this
      have hl2 := m_isLetter (d := d) (σ := σ) (hi := fx_up hi 11 0 8 (nI q)) (hl := hl) ht (k := q + k) (by omega)
      have ef : (decide (q + k < n) && lx_L (T (q + k))) = false := by
        by_cases h : q + k < n
        · rw [hend h, Bool.and_false]
        · rw [decide_eq_false h, Bool.false_and]
      rw [ef, ← nI_add] at hl2
      refine fx_wpL [10] 40 ⟨_, _, hl2, b01_if (fun _ => ?_) (fun z => by cases z)⟩
      refine pk_le k 0 (fun h => ⟨Or.inl rfl, ?_, rfl⟩) (fun h => pk_le 8 k (fun h8 => ⟨Or.inl rfl, ?_, rfl⟩) (fun h8 => ?_))
      · rw [ewk, if_neg (by omega), decide_eq_false (by omega)]
        rfl
      · rw [ewk, if_neg (by omega), decide_eq_false (by omega)]
        rfl
      · rw [show min k 8 = k by omega]
        have hb := hpk k (Nat.le_refl _) h8
        refine lc_eq (fun e => ⟨Or.inr rfl, ?_, rfl⟩) (fun e => ⟨Or.inl rfl, ?_, rfl⟩)
        · rw [ewk, if_pos ⟨h, h8⟩, decide_eq_true ((pk_lEQ (by omega) (by omega)).mp e)]
          rfl
        · rw [ewk, if_pos ⟨h, h8⟩, decide_eq_false (fun z => e (by rw [z]))]
          rfl
    | succ t ih =>
      intro k hk
      have hl2 := m_isLetter (d := d) (σ := σ) (hi := fx_up hi 11 0 8 (nI q)) (hl := hl) ht (k := q + k) (by omega)
      rw [decide_eq_true (show q + k < n by omega), hal k (by omega), ← nI_add] at hl2
      have h2 := ih (k + 1) (by omega)
      rw [← nI_1] at h2
      refine fx_wpL [10] 60 ⟨_, _, hl2, b01_if (fun z => by cases z) (fun _ => ?_)⟩
      refine pk_le 8 k (fun h8 => ?_) (fun h8 => ?_)
      · rw [show min (k + 1) 8 = 8 by omega] at h2
        rw [show min k 8 = 8 by omega]
        exact h2
      · rw [show min (k + 1) 8 = k + 1 by omega] at h2
        rw [show min k 8 = k by omega]
        obtain ⟨d1, d2, d3⟩ := hdig k (by omega)
        have ec : (hi 50 0 (nI q + nI k).toNatClampNeg).toInt64 = lN (lx_c (T (q + k))) := by
          rw [nI_add, tm_at ht (show q + k < n by omega), d3]
          generalize lx_c (T (q + k)) = m at d2
          have key : ∀ m, m < 256 → (nI m).toInt64 = lN m := by decide +kernel
          have d4 : lx_c (nI m) = m := by
            unfold lx_c
            rw [nI_toInt (by omega)]
            rfl
          rw [d4]
          exact key m d2
        have ev : lN (kC (fun i => lx_c (T (q + i))) k) <<< ((8 : Int32).toInt64 &&& 63) ||| (hi 50 0 (nI q + nI k).toNatClampNeg).toInt64 = lN (kC (fun i => lx_c (T (q + i))) (k + 1)) := by
          rw [ec, or_256 (hpk k (by omega) h8) d2]
          rfl
        rw [← ev] at h2
        exact ⟨ni_inx (n := q + k) (m := 400) (nI_add q k) (by omega) (by decide), h2⟩
  exact fx_meth fx_M152 [some mO, some (vl (lN c)), none, none, none, none] (by decide) rfl rfl (Nat.le_of_ble_eq_true rfl) (fx_wpE [10] 20 ⟨_, _, hs, loop l 0 (by omega)⟩)
theorem m_isWordQ (ht : TM hi n T) (hp1 : hi 11 0 8 = nI p) (hpn : p ≤ n) (hq : lx_rn lx_S T n p = p) {c : Nat} (h0 : 0 < c) (hc : c < 2 ^ 56) : fx_Ga (d + 2) 152 [mO, vl (lN c)] (hp σ hi hl) (some (vi (b01 (decide (lx_wk T n p = c))))) (hp σ hi hl) := by
  have h := m_isWord (d := d) (σ := σ) (hl := hl) ht hp1 hpn h0 hc
  rw [hq, ← hp1, up_self] at h
  exact h
theorem m_fails (h9 : hi 11 0 9 = 0) (k a : Nat) : fx_Ga (d + 1) 148 [mO, vi (nI k), vi (nI a)] (hp σ hi hl) (some (vi 0)) (hp σ (fx_up hi 11 0 9 (nI (1 + 8 * a + k))) hl) := by
  refine fx_meth fx_M148 [some mO, some (vi (nI k)), some (vi (nI a))] (by decide) rfl rfl (Nat.le_of_ble_eq_true rfl) (fx_wpE [] 40 ?_)
  refine ⟨fun (z : ¬ hi 11 0 9 = 0) => absurd h9 z, fun _ => ⟨Or.inl rfl, rfl, ?_⟩⟩
  show hp σ (fx_up hi 11 0 9 (nI 1 + nI 8 * nI a + nI k)) hl = _
  rw [pk_mul, nI_add, nI_add]
end ML
