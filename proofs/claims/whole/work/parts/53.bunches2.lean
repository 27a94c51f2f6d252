/-! bunches: the reference -/
def vFar (v : Nat → Nat) (S : Nat) : Nat → Option Nat
  | 0 => none
  | n + 1 => if S.testBit n then (match vFar v S n with
    | none => some n
    | some b => if v (12 + 4 * b) < v (12 + 4 * n) then some n else some b) else vFar v S n
theorem vFar_ok (v : Nat → Nat) (S : Nat) : ∀ n, (vFar v S n = none ∧ ∀ q, q < n → S.testBit q = false) ∨ ∃ b, vFar v S n = some b ∧ b < n ∧ S.testBit b = true ∧ ∀ q, q < n → S.testBit q = true → q = b ∨ bef v b q
  | 0 => Or.inl ⟨rfl, fun q h => absurd h (by omega)⟩
  | n + 1 => by
    cases hS : S.testBit n with
    | false =>
      have e : vFar v S (n + 1) = vFar v S n := by rw [vFar, hS]; rfl
      rw [e]
      rcases vFar_ok v S n with ⟨h1, h2⟩ | ⟨b, h1, h2, h3, h4⟩
      · refine Or.inl ⟨h1, fun q hq => ?_⟩
        by_cases z : q = n
        · rw [z]; exact hS
        · exact h2 q (by omega)
      · refine Or.inr ⟨b, h1, by omega, h3, fun q hq hq2 => ?_⟩
        by_cases z : q = n
        · rw [z, hS] at hq2; cases hq2
        · exact h4 q (by omega) hq2
    | true =>
      right
      rcases vFar_ok v S n with ⟨h1, h2⟩ | ⟨b, h1, h2, h3, h4⟩
      · refine ⟨n, by rw [vFar, hS, h1]; rfl, by omega, hS, fun q hq hq2 => ?_⟩
        by_cases z : q = n
        · exact Or.inl z
        · rw [h2 q (by omega)] at hq2; cases hq2
      · by_cases c : v (12 + 4 * b) < v (12 + 4 * n)
        · refine ⟨n, by rw [vFar, hS, h1]; exact if_pos c, by omega, hS, fun q hq hq2 => ?_⟩
          by_cases z : q = n
          · exact Or.inl z
          · refine Or.inr ?_
            rcases h4 q (by omega) hq2 with e | e
            · subst e; exact Or.inl c
            · unfold bef at e ⊢
              omega
        · refine ⟨b, by rw [vFar, hS, h1]; exact if_neg c, by omega, h3, fun q hq hq2 => ?_⟩
          by_cases z : q = n
          · subst z
            refine Or.inr ?_
            unfold bef
            omega
          · exact h4 q (by omega) hq2
theorem vFar_eq (v : Nat → Nat) {S n r : Nat} (hr : r < n) (hS : S.testBit r = true) (h : ∀ q, q < n → S.testBit q = true → q = r ∨ bef v r q) : vFar v S n = some r := by
  rcases vFar_ok v S n with ⟨_, h2⟩ | ⟨b, h1, h2, h3, h4⟩
  · rw [h2 r hr] at hS; cases hS
  · rcases h b h2 h3 with e | e
    · rw [h1, e]
    · rcases h4 r hr hS with e2 | e2
      · rw [h1, e2]
      · unfold bef at e e2
        omega
theorem lf_0 : ∀ n, n < 7 → ∀ o, o < 64 → (nI (2 ^ n) - 1) &&& (nI o ^^^ -1) = nI ((2 ^ n - 1) &&& (63 - o)) ∧ (2 ^ n - 1) &&& (63 - o) < 64 ∧ ∀ q, q < 6 → ((2 ^ n - 1) &&& (63 - o)).testBit q = (decide (q < n) && !o.testBit q) := by decide +kernel
theorem lf_1 : ∀ s, s < 64 → ∀ r, r < 6 → nI s &&& (((1 : Int32) <<< (nI r &&& 31)) ^^^ -1) = nI (s &&& (63 - 2 ^ r)) ∧ s &&& (63 - 2 ^ r) < 64 ∧ ∀ q, q < 6 → (s &&& (63 - 2 ^ r)).testBit q = (s.testBit q && decide (q ≠ r)) := by decide +kernel
theorem lf_z : ∀ s, s < 64 → (∀ q, q < 6 → s.testBit q = false) → s = 0 := by decide +kernel
theorem vOuts_bit (v : Nat → Nat) : ∀ n q, (vOuts v n).testBit q = (decide (q < n) && vOut v q)
  | 0, q => by unfold vOuts; simp
  | n + 1, q => by
    have hl := vOuts_lt v n
    unfold vOuts
    by_cases ho : vOut v n = true
    · rw [if_pos ho, Nat.add_comm]
      rcases Nat.lt_trichotomy q n with h | h | h
      · rw [Nat.testBit_two_pow_add_gt h, vOuts_bit v n q, decide_eq_true h, decide_eq_true (show q < n + 1 by omega)]
      · subst h
        rw [Nat.testBit_two_pow_add_eq, Nat.testBit_lt_two_pow hl, ho, decide_eq_true (show q < q + 1 by omega)]
        rfl
      · have h2 : 2 ^ (n + 1) ≤ 2 ^ q := Nat.pow_le_pow_right (by decide) h
        rw [Nat.testBit_lt_two_pow (by rw [Nat.pow_succ] at h2; omega), decide_eq_false (show ¬ q < n + 1 by omega)]
        rfl
    · have ho2 : vOut v n = false := by simpa using ho
      rw [if_neg ho, Nat.add_zero, vOuts_bit v n q]
      by_cases e : q = n
      · subst e; rw [ho2, Bool.and_false, Bool.and_false]
      · congr 1
        rw [decide_eq_decide]
        omega
section BM
variable {d : Nat} {σ : fxS} {hi : fxI3} {hl : fxL3} {v : Nat → Nat} {rl : Option fxRl} {f : Option Nat}
theorem m_farthestOf (hv : PM hi v) (hs : SV v) {S : Nat} (hS : S < 64) : fx_Ga (d + 2) 231 [mO, vi (nI S)] (hp σ hi hl) (some (vi (oI (vFar v S (v 4))))) (hp σ hi hl) := by
  obtain ⟨s4, s1, s2, s3, s11, s10, si⟩ := id hs
  refine fx_meth fx_M231 [some mO, some (vi (nI S)), none, none] (by decide) rfl rfl (Nat.le_of_ble_eq_true rfl) ?_
  have e4 := (hv 4 (by decide)).1
  have loop : ∀ k i, i + k = v 4 → fx_E (fx_Ga (d + 1)) fx_M231 (4, [some mO, some (vi (nI S)), some (vi (oI (vFar v S i))), some (vi (nI i))], [], hp σ hi hl, 0, 0) (fun r2 h2 => r2 = some (vi (oI (vFar v S (v 4)))) ∧ h2 = hp σ hi hl) := by
    intro k
    induction k with
    | zero =>
      intro i hk
      have : i = v 4 := by omega
      subst this
      exact fx_wpL [4] 20 ⟨ni_inx (n := 4) (m := 83) rfl (by decide) (by decide), pk_le (v 4) (v 4) (fun _ => ⟨rfl, rfl⟩) (fun hc => by omega) e4⟩
    | succ k ih =>
      intro i hk
      have i6 : i < 6 := by omega
      have h2 := ih (i + 1) (by omega)
      rw [← nI_1] at h2
      refine fx_wpL [4] 40 ⟨ni_inx (n := 4) (m := 83) rfl (by decide) (by decide), pk_le (v 4) i (fun hc => by omega) (fun _ => ?_) e4⟩
      refine ⟨_, _, m_isOf, bd_if (fun hb0 => ?_) (fun hb1 => ?_)⟩
      · rw [bit_of (by omega) (by omega)] at hb0
        rw [vFar, if_neg hb0] at h2
        exact h2
      · rw [bit_of (by omega) (by omega)] at hb1
        rw [vFar, if_pos hb1] at h2
        refine oI_lt (fun b hb => by
          rcases vFar_ok v S i with ⟨z, _⟩ | ⟨b2, z, z2, _⟩
          · rw [z] at hb; cases hb
          · rw [z] at hb; cases hb; omega) (fun hn0 => ?_) (fun b hb => ?_)
        · rw [hn0] at h2
          exact h2
        · have hbi : b < i := by
            rcases vFar_ok v S i with ⟨z, _⟩ | ⟨b2, z, z2, _⟩
            · rw [z] at hb; cases hb
            · rw [z] at hb; cases hb; exact z2
          rw [hb] at h2 ⊢
          have h2 : fx_E (fx_Ga (d + 1)) fx_M231 (4, [some mO, some (vi (nI S)), some (vi (oI (if v (12 + 4 * b) < v (12 + 4 * i) then some i else some b))), some (vi (nI i + 1))], [], hp σ hi hl, 0, 0) (fun r2 h2 => r2 = some (vi (oI (vFar v S (v 4)))) ∧ h2 = hp σ hi hl) := h2
          obtain ⟨q1, _⟩ := si i i6
          obtain ⟨q2, _⟩ := si b (by omega)
          refine ⟨_, _, m_runOf hv i6, _, _, m_runOf hv (show b < 6 by omega), pk_le (v (12 + 4 * i)) (v (12 + 4 * b)) (fun hle => ?_) (fun hgt => ?_)⟩
          · rw [if_neg (by omega)] at h2
            exact h2
          · rw [if_pos hgt] at h2
            exact h2
  exact fx_wpE [4] 9 (loop (v 4) 0 (by omega))
theorem m_bunches (hv : PM hi v) (hs : SB v) (hH : HV v) (w : Int32) : QM (d + 3) 232 [mO, vi w] σ hi hl v (aBunch v w) := by
  have h10 := hH.2
  have h4 := hs.1
  have hsv := hs.sv (by omega)
  have si := hsv.2.2.2.2.2.2
  have s11 := hsv.2.2.2.2.1
  refine QM_of fx_M232 [some mO, some (vi w), none, none, none, none, none, none] (by decide) rfl rfl (Nat.le_of_ble_eq_true rfl) (fx_wpE [48] 60 ?_)
  refine ⟨_, _, m_isHunt hv, bd_if (fun hc => QM.same hv (if_neg (fun z => hc z.1)).symm) (fun hc => ?_)⟩
  refine ⟨_, _, m_inN w 0 1 rfl rfl, bd_nf (fun hc3 => ?_) (fun hc3 => QM.same hv (if_neg (fun z => hc3 z.2)).symm)⟩
  refine ⟨ni_inx (n := 4) (m := 83) rfl (by decide) (by decide), _, _, m_outs (d := d) hv h4, ?_⟩
  generalize eA : aBunch v w = A
  have eA : A = if w = 0 then nI (vBn v (vOr v (v 4)).2 (vOr v (v 4)).1).1 else nI (vBn v (vOr v (v 4)).2 (vOr v (v 4)).1).2.2 := by
    rw [← eA]
    exact if_pos ⟨hc, hc3⟩
  have ol : vOuts v (v 4) < 64 := Nat.lt_of_lt_of_le (vOuts_lt v (v 4)) (Nat.le_trans (Nat.pow_le_pow_right (by decide) h4) (by decide))
  obtain ⟨l1, l2, l3⟩ := lf_0 (v 4) (by omega) _ ol
  have e0 : (((1 : Int32) <<< (hi 59 0 4 &&& 31)) - 1) &&& (nI (vOuts v (v 4)) ^^^ -1) = nI ((2 ^ v 4 - 1) &&& (63 - vOuts v (v 4))) := by
    rw [(hv 4 (by decide)).1, sh_6 (v 4) h4]
    exact l1
  have l3 : ∀ q, q < 6 → ((2 ^ v 4 - 1) &&& (63 - vOuts v (v 4))).testBit q = (decide (q < v 4) && !vOut v q) := fun q hq => by
    rw [l3 q hq, vOuts_bit]
    by_cases z : q < v 4
    · simp [z]
    · simp [z]
  obtain ⟨o1, o2, o3, o4⟩ := vOr_ok v (v 4)
  generalize vOr v (v 4) = qq at o1 o2 o3 o4 eA
  obtain ⟨m, a⟩ := qq
  dsimp only at o1 o2 o3 o4 eA
  have loop : ∀ t k S l6 l7, k + t = m → S < 64 → (∀ q, q < 6 → (S.testBit q = true ↔ ∃ j, k ≤ j ∧ j < m ∧ a j = q)) → (0 < k → l6 = some (vi (nI (v (12 + 4 * a (k - 1)))))) → (∃ z, l6 = some (vi z)) → fx_E (fx_Ga (d + 2)) fx_M232 (48, [some mO, some (vi w), some (vi (nI S)), some (vi (nI (vBn v a k).1)), some (vi (nI (vBn v a k).2.2)), some (vi (nI (vBn v a k).2.1)), l6, l7], [], hp σ hi hl, 0, 0) (QMP σ hi hl v A) := by
    intro t
    induction t with
    | zero =>
      intro k S l6 l7 hk hS hbit _ _
      have : k = m := by omega
      subst this
      have hS0 : S = 0 := lf_z S hS (fun q hq => by
        cases hb : S.testBit q with
        | false => rfl
        | true =>
          obtain ⟨j, j1, j2, _⟩ := (hbit q hq).mp hb
          omega)
      subst hS0
      refine fx_wpL [48] 20 (pk_eq 0 0 (fun _ => ?_) (fun hc => absurd rfl hc))
      exact ⟨fun (z : ¬ w = 0) => ⟨by rw [eA, if_neg z], hi, hl, rfl, FrQ.rf hi, FlQ.rf hl, hv⟩, fun (z : ¬ ¬ w = 0) => ⟨by rw [eA, if_pos (Classical.not_not.mp z)], hi, hl, rfl, FrQ.rf hi, FlQ.rf hl, hv⟩⟩
    | succ t ih =>
      intro k S l6 l7 hk hS hbit hl6 hl6'
      obtain ⟨z6, hz6⟩ := hl6'
      have ak := (o2 k (by omega)).1
      have hSk : S.testBit (a k) = true := (hbit (a k) (by omega)).mpr ⟨k, Nat.le_refl _, by omega, rfl⟩
      have hS0 : S ≠ 0 := fun z => by
        rw [z] at hSk
        simp at hSk
      have efar : vFar v S (v 4) = some (a k) := vFar_eq v ak hSk (fun q hq hq2 => by
        obtain ⟨j, j1, j2, j3⟩ := (hbit q (by omega)).mp hq2
        by_cases e : j = k
        · left; rw [← j3, e]
        · right; rw [← j3]; exact o3 k j (by omega) j2)
      have hfo := m_farthestOf (d := d) (σ := σ) (hl := hl) hv hsv hS
      rw [efar] at hfo
      have hfo : fx_Ga (d + 2) 231 [mO, vi (nI S)] (hp σ hi hl) (some (vi (nI (a k)))) (hp σ hi hl) := hfo
      obtain ⟨c1, c2, c3⟩ := lf_1 S hS (a k) (by omega)
      have h2 := fun l7 => ih (k + 1) (S &&& (63 - 2 ^ a k)) (some (vi (nI (v (12 + 4 * a k))))) l7 (by omega) c2 (fun q hq => by
        rw [c3 q hq, Bool.and_eq_true, hbit q hq, decide_eq_true_iff]
        constructor
        · intro h
          obtain ⟨⟨j, j1, j2, j3⟩, hne⟩ := h
          refine ⟨j, ?_, j2, j3⟩
          by_cases e : j = k
          · subst e; exact absurd j3.symm hne
          · omega
        · intro h
          obtain ⟨j, j1, j2, j3⟩ := h
          refine ⟨⟨j, by omega, j2, j3⟩, fun e => ?_⟩
          have hb := o3 k j (by omega) j2
          rw [j3, e] at hb
          unfold bef at hb
          omega) (fun _ => rfl) ⟨_, rfl⟩
      obtain ⟨n1, n2, n3, n4⟩ := vBn_ok v a k (fun j hj => by have := (o2 j (by omega)).1; omega)
      obtain ⟨u1, u2⟩ := vBu_ok v a n2 (show a k < 6 by omega)
      rw [vBn] at h2
      generalize hB : vBn v a k = B at h2 n1 n2 n3 n4 u1 u2
      obtain ⟨B1, B2, B3⟩ := B
      dsimp only at h2 n1 n2 n3 n4 u1 u2
      rw [← c1] at h2
      obtain ⟨r1, _⟩ := si (a k) (by omega)
      have hru := m_runOf (d := d + 1) (σ := σ) (hl := hl) hv (show a k < 6 by omega)
      subst hz6
      have tail : ∀ b0 n0 l6, (if vCut v a k then 0 else B2) = b0 → b0 < 64 → B1 + (if vCut v a k then 1 else 0) = n0 → fx_E (fx_Ga (d + 2)) fx_M232 (92, [some mO, some (vi w), some (vi (nI S &&& (((1 : Int32) <<< (nI (a k) &&& 31)) ^^^ -1))), some (vi (nI n0)), some (vi (nI B3)), some (vi (nI b0)), l6, some (vi (nI (a k)))], [], hp σ hi hl, 0, 0) (QMP σ hi hl v A) := by
        intro b0 n0 l6 e1 hb e2
        have eu : vBu v a B2 k = b0 ||| 2 ^ a k := by unfold vBu; rw [e1]
        rw [e2, eu] at h2
        rw [eu] at u2
        obtain ⟨_, _, eo⟩ := or_pos b0 hb (a k) (by omega)
        have q1 := pc_le 6 (by decide) (b0 ||| 2 ^ a k) u2
        have q2 := pc_le 6 (by decide) B3 n3
        have hbb := m_bits (d := d + 1) (h := hp σ hi hl) (show b0 ||| 2 ^ a k < 2 ^ 31 by omega)
        rw [← eo] at hbb h2
        refine fx_wpE [48] 40 ⟨_, _, hru, _, _, hbb, _, _, m_bits (show B3 < 2 ^ 31 by omega), pk_le (vPc (b0 ||| 2 ^ a k)) (vPc B3) (fun hle => ?_) (fun hgt => ?_)⟩
        · rw [if_neg (by omega)] at h2
          exact h2 _
        · rw [if_pos hgt, ← eo] at h2
          exact h2 _
      have cut : vCut v a k = true → fx_E (fx_Ga (d + 2)) fx_M232 (86, [some mO, some (vi w), some (vi (nI S &&& (((1 : Int32) <<< (nI (a k) &&& 31)) ^^^ -1))), some (vi (nI B1)), some (vi (nI B3)), some (vi (nI B2)), some (vi z6), some (vi (nI (a k)))], [], hp σ hi hl, 0, 0) (QMP σ hi hl v A) := by
        intro hc
        have h3 := tail 0 (B1 + 1) (some (vi z6)) (by rw [hc]; rfl) (by decide) (by rw [hc]; rfl)
        rw [← nI_1] at h3
        exact fx_wpE [92] 20 h3
      refine fx_wpL [48, 86, 92] 60 (pk_eq S 0 (fun hc => absurd hc hS0) (fun _ => ?_))
      refine ⟨_, _, hfo, pk_eq B2 0 (fun b0 => cut ?_) (fun b0 => ?_)⟩
      · refine decide_eq_true (Or.inl ?_)
        by_cases k0 : k = 0
        · exact k0
        · have := n4 (by omega)
          omega
      have k0 : 0 < k := by
        by_cases k0 : k = 0
        · subst k0
          rw [vBn] at hB
          exact absurd (congrArg (fun z => z.2.1) hB).symm b0
        · omega
      have ez : z6 = nI (v (12 + 4 * a (k - 1))) := by
        have := hl6 k0
        exact Sum.inl.inj (Option.some.inj this)
      have ak1 := (o2 (k - 1) (by omega)).1
      have hbe := o3 (k - 1) k (by omega) (by omega)
      have hge : v (12 + 4 * a k) ≤ v (12 + 4 * a (k - 1)) := by
        unfold bef at hbe
        omega
      obtain ⟨r2, _⟩ := si (a (k - 1)) (by omega)
      refine ⟨_, _, hru, pk_le (v (12 + 4 * a (k - 1)) - v (12 + 4 * a k)) 2 (fun hle => ?_) (fun hgt => ?_) (by rw [ez, pk_sub hge])⟩
      · have hcu : vCut v a k = false := decide_eq_false (by omega)
        exact tail B2 B1 _ (by rw [hcu]; rfl) n2 (by rw [hcu]; rfl)
      · exact cut (decide_eq_true (by omega))
  have h3 := loop m 0 ((2 ^ v 4 - 1) &&& (63 - vOuts v (v 4))) (some (vi 0)) none (by omega) l2 (fun q hq => by
    rw [l3 q hq, Bool.and_eq_true, decide_eq_true_iff]
    constructor
    · intro h
      obtain ⟨j, j1, j2⟩ := o4 q h.1 (by simpa using h.2)
      exact ⟨j, by omega, j1, j2⟩
    · intro h
      obtain ⟨j, _, j1, j2⟩ := h
      have := o2 j j1
      rw [j2] at this
      exact ⟨this.1, by rw [this.2]; rfl⟩) (fun h => absurd h (by omega)) ⟨_, rfl⟩
  rw [← e0] at h3
  exact h3
end BM
