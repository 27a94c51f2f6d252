/-! the reference: a step -/
def vBh (v : Nat → Nat) (i : Nat) : Nat → Nat
  | 0 => 0
  | n + 1 => vBh v i n + (if vOut v n = false ∧ n ≠ i ∧ v (12 + 4 * n) < v (12 + 4 * i) then 1 else 0)
def vLv (v : Nat → Nat) (i : Nat) : Nat → Nat
  | 0 => 0
  | n + 1 => vLv v i n + (if vOut v n = false ∧ n ≠ i ∧ v (12 + 4 * n) = v (12 + 4 * i) then 1 else 0)
theorem vBh_le (v : Nat → Nat) (i : Nat) : ∀ n, vBh v i n ≤ n
  | 0 => Nat.le_refl _
  | n + 1 => by
    have := vBh_le v i n
    unfold vBh
    split <;> omega
theorem vLv_le (v : Nat → Nat) (i : Nat) : ∀ n, vLv v i n ≤ n
  | 0 => Nat.le_refl _
  | n + 1 => by
    have := vLv_le v i n
    unfold vLv
    split <;> omega
theorem vPcF_le : ∀ k a, vPcF k a ≤ k
  | 0, _ => Nat.le_refl _
  | k + 1, a => by
    have := vPcF_le k (a / 2)
    have h2 : a % 2 < 2 := Nat.mod_lt _ (by decide)
    unfold vPcF
    omega
/-- the words of a rider -/
def vWn (v : Nat → Nat) (i k : Nat) : Nat := match k with
  | 0 => i
  | 1 => v (13 + 4 * i)
  | 2 => v 11 - v (12 + 4 * i)
  | 3 => vBh v i (v 4)
  | 4 => vLv v i (v 4)
  | 5 => vPc (vOuts v (v 4))
  | 6 => v (15 + 4 * i)
  | 7 => vTo v
  | 8 => v 2
  | 9 => v 3
  | _ => v 10
def vW (v : Nat → Nat) (i k : Nat) : Int64 := lN (vWn v i k)
/-- what a state may be while steps go on -/
def SV (v : Nat → Nat) : Prop := v 4 ≤ 6 ∧ v 1 ≤ 60 ∧ v 2 ≤ 9 ∧ v 3 ≤ 9 ∧ v 11 < 2 ^ 20 ∧ v 10 < 2 ^ 20 ∧ ∀ i, i < 6 → v (12 + 4 * i) ≤ v 11 ∧ v (13 + 4 * i) ≤ 9 ∧ v (14 + 4 * i) ≤ 9 ∧ v (15 + 4 * i) < 2 ^ 20
section MT
variable {d : Nat} {σ : fxS} {hi : fxI3} {hl : fxL3} {v : Nat → Nat}
theorem m_sumOf (hv : PM hi v) (hs : SV v) {i t : Nat} {R : fxRl} (h6 : i < 6) (ht : t < 6) (hf : hi 11 0 21 = nI t) (hR : RM hi t R) :
    ∃ z g g2, fx_Ga (d + 4) 202 [mO, vi (nI i)] (hp σ hi hl) (some (vl (vRule (vW v i) R))) (hp σ (fx_up hi 11 0 18 z) (fx_all (fx_all hl 58 0 g2) 57 0 g)) := by
  obtain ⟨s4, s1, s2, s3, s11, s10, si⟩ := hs
  obtain ⟨r1, r2, r3, r4⟩ := si i h6
  have e4 := hv 4 (by decide)
  have loop : ∀ k n, n + k = v 4 → fx_E (fx_Ga (d + 3)) fx_M202 (7, [some mO, some (vi (nI i)), some (vi (nI (vBh v i n))), some (vi (nI (vLv v i n))), some (vi (nI n))], [], hp σ hi hl, 0, 0) (fun r2 h2 => r2 = some (vl (vRule (vW v i) R)) ∧ ∃ z g g2, h2 = hp σ (fx_up hi 11 0 18 z) (fx_all (fx_all hl 58 0 g2) 57 0 g)) := by
    intro k
    induction k with
    | zero =>
      intro n hk
      have hn : n = v 4 := by omega
      subst hn
      refine fx_wpL [7] 120 ⟨ni_inx (n := 4) (m := 83) rfl (by decide) (by decide), ?_⟩
      refine pk_le (v 4) (v 4) (fun _ => ?_) (fun hc => by omega) e4.1
      have bb : ∀ k, k < 11 → 0 ≤ (nI k).toInt ∧ (nI k).toInt < ((11 : Nat) : Int) := fun k hk => ni_in hk (by decide)
      refine ⟨bb 0 (by decide), ?_⟩
      refine ⟨_, _, m_paceOf hv h6, bb 1 (by decide), ?_⟩
      refine ⟨ni_inx (n := 11) (m := 83) rfl (by decide) (by decide), _, _, m_runOf hv h6, bb 2 (by decide), bb 3 (by decide), bb 4 (by decide), ?_⟩
      refine ⟨_, _, m_outs (d := d + 1) hv s4, _, _, m_bits (d := d + 2) (a := vOuts v (v 4)) (Nat.lt_of_lt_of_le (vOuts_lt v (v 4)) (Nat.le_trans (Nat.pow_le_pow_right (by decide) s4) (by decide))), bb 5 (by decide), ?_⟩
      refine ⟨_, _, m_wasOf hv h6, bb 6 (by decide), ?_⟩
      refine ⟨_, _, m_toGate hv s1 s11, bb 7 (by decide), ?_⟩
      refine ⟨ni_inx (n := 2) (m := 83) rfl (by decide) (by decide), bb 8 (by decide), ?_⟩
      refine ⟨ni_inx (n := 3) (m := 83) rfl (by decide) (by decide), bb 9 (by decide), ?_⟩
      refine ⟨ni_inx (n := 10) (m := 83) rfl (by decide) (by decide), bb 10 (by decide), ?_⟩
      have hto : vTo v ≤ 99 := by
        unfold vTo
        rcases vToF_le v (v 1) 1 with h | h <;> omega
      have hbh := vBh_le v i (v 4)
      have hlv := vLv_le v i (v 4)
      have hpc : vPc (vOuts v (v 4)) ≤ 32 := vPcF_le 32 _
      have sub : (hi 59 0 11 - nI (v (12 + 4 * i))) = nI (v 11 - v (12 + 4 * i)) := by
        rw [(hv 11 (by decide)).1]
        exact pk_sub r1
      have lit : ∀ (x : Int32) (n : Nat), x = nI n → n < 2 ^ 31 → x.toInt64 = lN n := fun x n e hn => by rw [e]; exact nI_l hn
      generalize hHL : fx_up (fx_up (fx_up (fx_up (fx_up (fx_up (fx_up (fx_up (fx_up (fx_up (fx_up hl 58 0 0 (nI i).toInt64) 58 0 1 (nI (v (13 + 4 * i))).toInt64) 58 0 2 (hi 59 0 11 - nI (v (12 + 4 * i))).toInt64) 58 0 3 (nI (vBh v i (v 4))).toInt64) 58 0 4 (nI (vLv v i (v 4))).toInt64) 58 0 5 (nI (vPc (vOuts v (v 4)))).toInt64) 58 0 6 (nI (v (15 + 4 * i))).toInt64) 58 0 7 (nI (vTo v)).toInt64) 58 0 8 (hi 59 0 2).toInt64) 58 0 9 (hi 59 0 3).toInt64) 58 0 10 (hi 59 0 10).toInt64 = HL
      have hw : ∀ k, k < 11 → HL 58 0 k = vW v i k := by
        intro k hk
        rw [← hHL]
        match k, hk with
        | 0, _ => exact lit _ i rfl (by omega)
        | 1, _ => exact lit _ (v (13 + 4 * i)) rfl (by omega)
        | 2, _ => exact lit _ (v 11 - v (12 + 4 * i)) sub (by omega)
        | 3, _ => exact lit _ (vBh v i (v 4)) rfl (by omega)
        | 4, _ => exact lit _ (vLv v i (v 4)) rfl (by omega)
        | 5, _ => exact lit _ (vPc (vOuts v (v 4))) rfl (by omega)
        | 6, _ => exact lit _ (v (15 + 4 * i)) rfl (by omega)
        | 7, _ => exact lit _ (vTo v) rfl (by omega)
        | 8, _ => exact lit _ (v 2) (hv 2 (by decide)).1 (by omega)
        | 9, _ => exact lit _ (v 3) (hv 3 (by decide)).1 (by omega)
        | 10, _ => exact lit _ (v 10) (hv 10 (by decide)).1 (by omega)
      have hrow : HL = fx_all hl 58 0 (HL 58 0) := by
        rw [← hHL]
        conv => lhs; rw [← all_self hl 58 0]
        simp only [up_all]
        rfl
      obtain ⟨z, g, hg⟩ := m_summedBy (d := d) (σ := σ) (hi := hi) (hl := HL) (w := vW v i) ht hR hw
      rw [← hf] at hg
      obtain ⟨g2, hrow⟩ : ∃ g2, HL = fx_all hl 58 0 g2 := ⟨_, hrow⟩
      subst hHL
      refine ⟨_, _, hg, rfl, z, g, g2, ?_⟩
      rw [← hrow]
    | succ k ih =>
      intro n hk
      have n6 : n < 6 := by omega
      refine fx_wpL [7] 60 ⟨ni_inx (n := 4) (m := 83) rfl (by decide) (by decide), ?_⟩
      refine pk_le (v 4) n (fun hc => by omega) (fun _ => ?_) e4.1
      refine ⟨_, _, m_isOut hv n6, ?_⟩
      have h2 := ih (n + 1) (by omega)
      rw [← nI_1] at h2
      refine b01_nf (fun hc => ?_) (fun hc => ?_)
      · rw [show vBh v i (n + 1) = vBh v i n by rw [vBh]; simp [hc], show vLv v i (n + 1) = vLv v i n by rw [vLv]; simp [hc]] at h2
        exact h2
      · refine nn_eq n i (fun he => ?_) (fun he => ?_)
        · rw [show vBh v i (n + 1) = vBh v i n by rw [vBh]; simp [he], show vLv v i (n + 1) = vLv v i n by rw [vLv]; simp [he]] at h2
          exact h2
        · refine ⟨_, _, m_runOf hv n6, _, _, m_runOf hv h6, ?_⟩
          have c1 := (si n n6).1
          refine pk_le (v (12 + 4 * i)) (v (12 + 4 * n)) (fun hle => ?_) (fun hlt => ?_)
          · refine ⟨_, _, m_runOf hv n6, _, _, m_runOf hv h6, ?_⟩
            rw [show vBh v i (n + 1) = vBh v i n by rw [vBh, if_neg (by omega)]; rfl] at h2
            refine nn_eq (v (12 + 4 * n)) (v (12 + 4 * i)) (fun e => ?_) (fun e => ?_)
            · rw [show vLv v i (n + 1) = vLv v i n + 1 by rw [vLv, if_pos ⟨hc, he, e⟩], ← nI_1, show nI (vBh v i n) = nI (vBh v i n) + 0 by simp] at h2
              exact h2
            · rw [show vLv v i (n + 1) = vLv v i n by rw [vLv, if_neg (fun z => e z.2.2)]; rfl, show nI (vBh v i n) = nI (vBh v i n) + 0 by simp, show nI (vLv v i n) = nI (vLv v i n) + 0 by simp] at h2
              exact h2
          · refine ⟨_, _, m_runOf hv n6, _, _, m_runOf hv h6, ?_⟩
            rw [show vBh v i (n + 1) = vBh v i n + 1 by rw [vBh, if_pos ⟨hc, he, hlt⟩], ← nI_1] at h2
            refine nn_eq (v (12 + 4 * n)) (v (12 + 4 * i)) (fun e => by omega) (fun e => ?_)
            rw [show vLv v i (n + 1) = vLv v i n by rw [vLv, if_neg (fun z => e z.2.2)]; rfl, show nI (vLv v i n) = nI (vLv v i n) + 0 by simp] at h2
            exact h2
  obtain ⟨r, h', hg, e1, z', g', g2, e2⟩ := fx_methX (d := d + 3) (y := 202) (av := [mO, vi (nI i)]) (h := hp σ hi hl) (P := fun r2 h2 => r2 = some (vl (vRule (vW v i) R)) ∧ ∃ z g g2, h2 = hp σ (fx_up hi 11 0 18 z) (fx_all (fx_all hl 58 0 g2) 57 0 g)) fx_M202 [some mO, some (vi (nI i)), none, none, none] (by decide) rfl rfl (Nat.le_of_ble_eq_true rfl) (fx_wpE [7] 20 (loop (v 4) 0 (by omega)))
  subst e1
  subst e2
  exact ⟨z', g', g2, hg⟩
/-- the rule in force, none of them: none -/
def FM (hi : fxI3) (rl : Option fxRl) : Prop := match rl with
  | none => hi 11 0 21 = -1
  | some R => ∃ t, t < 6 ∧ hi 11 0 21 = nI t ∧ RM hi t R
/-- a rider's own row: who, and how many fields now -/
def WM (hi : fxI3) (row : Option (Nat × Nat)) : Prop := match row with
  | none => hi 11 0 23 = -1
  | some (i, f) => i < 6 ∧ hi 11 0 23 = nI i ∧ f ≤ 9 ∧ ∃ a, a < 4 ∧ hi 11 0 25 = nI a ∧ hi 60 0 a = nI f
def vClamp (n : Int64) (p : Nat) : Nat := if n < 0 then 0 else if lN p < n then p else n.toInt.toNat
def vBase (v : Nat → Nat) (rl : Option fxRl) (i : Nat) : Nat := match rl with
  | none => v (13 + 4 * i)
  | some R => vClamp (vRule (vW v i) R) (v (13 + 4 * i))
def vRide (v : Nat → Nat) (rl : Option fxRl) (row : Option (Nat × Nat)) (i : Nat) : Nat := if vOut v i then 0 else match row with
  | some (j, f) => if i = j then f else vBase v rl i
  | none => vBase v rl i
theorem ne_m1 {i : Nat} (h : i < 2 ^ 31) : ¬ nI i = -1 := by
  intro z
  have h1 := congrArg Int32.toInt z
  rw [nI_toInt h] at h1
  have h2 : (-1 : Int32).toInt = -1 := by decide
  omega
theorem vClamp_le (n : Int64) (p : Nat) (hp : p ≤ 9) : vClamp n p ≤ p := by
  unfold vClamp
  split
  · omega
  · rename_i h0
    split
    · exact Nat.le_refl _
    · rename_i h1
      have h2 : n ≤ lN p := Int64.not_lt.mp h1
      obtain ⟨k, hk, rfl⟩ := pk_lOf h0
      rw [pk_lT hk]
      have := (pk_lLE hk (by omega)).mp h2
      omega
theorem vClamp_eq {n : Int64} {p : Nat} (hp : p ≤ 9) (h0 : ¬ n < 0) (h1 : ¬ lN p < n) : n.toInt32 = nI (vClamp n p) := by
  unfold vClamp
  rw [if_neg h0, if_neg h1]
  have h2 : n ≤ lN p := Int64.not_lt.mp h1
  obtain ⟨k, hk, rfl⟩ := pk_lOf h0
  rw [pk_lT hk, lN_i]
  rfl
theorem vRide_le {v : Nat → Nat} (hs : SV v) {rl : Option fxRl} {row : Option (Nat × Nat)} {i : Nat} (h6 : i < 6) (hr : ∀ j f, row = some (j, f) → f ≤ 9) : vRide v rl row i ≤ 9 := by
  have hp := (hs.2.2.2.2.2.2 i h6).2.1
  have hb : vBase v rl i ≤ 9 := by
    unfold vBase
    cases rl with
    | none => exact hp
    | some R => exact Nat.le_trans (vClamp_le _ _ hp) hp
  unfold vRide
  split
  · omega
  · split
    · rename_i j f
      split
      · exact hr j f rfl
      · exact hb
    · exact hb
theorem m_ridesOf (hv : PM hi v) (hs : SV v) {i : Nat} {rl : Option fxRl} {row : Option (Nat × Nat)} (h6 : i < 6) (hf : FM hi rl) (hr : WM hi row) :
    ∃ z g g2, fx_Ga (d + 5) 203 [mO, vi (nI i)] (hp σ hi hl) (some (vi (nI (vRide v rl row i)))) (hp σ (fx_up hi 11 0 18 z) (fx_all (fx_all hl 58 0 g2) 57 0 g)) := by
  have hp9 := (hs.2.2.2.2.2.2 i h6).2.1
  have same : hp σ hi hl = hp σ (fx_up hi 11 0 18 (hi 11 0 18)) (fx_all (fx_all hl 58 0 (hl 58 0)) 57 0 (hl 57 0)) := by
    rw [up_self, all_self, all_self]
  have rest : ∀ x, vBase v rl i = x → fx_E (fx_Ga (d + 4)) fx_M203 (28, [some mO, some (vi (nI i)), none, none], [], hp σ hi hl, 0, 0) (fun r2 h2 => r2 = some (vi (nI x)) ∧ ∃ z g g2, h2 = hp σ (fx_up hi 11 0 18 z) (fx_all (fx_all hl 58 0 g2) 57 0 g)) := by
    intro x hx
    refine fx_wpE [] 60 ?_
    cases rl with
    | none =>
      have hf1 : hi 11 0 21 = -1 := hf
      refine ⟨fun (hc : 0 ≤ hi 11 0 21) => absurd hc (by rw [hf1]; decide), fun _ => ?_⟩
      refine ⟨_, _, m_paceOf hv h6, ?_, _, _, _, same⟩
      rw [← hx]
      rfl
    | some R =>
      obtain ⟨t, ht, hf1, hR⟩ := hf
      refine ⟨fun _ => ?_, fun (hc : ¬ 0 ≤ hi 11 0 21) => absurd (by rw [hf1]; exact nI_pos' (by omega)) hc⟩
      obtain ⟨z, g, g2, hg⟩ := m_sumOf (d := d) (σ := σ) (hl := hl) hv hs h6 ht hf1 hR
      refine ⟨_, _, hg, ?_⟩
      have hv' : PM (fx_up hi 11 0 18 z) v := fun k hk => hv k hk
      refine lc_ge (fun (h0 : 0 ≤ vRule (vW v i) R) => ?_) (fun (h0 : ¬ 0 ≤ vRule (vW v i) R) => ?_)
      · refine ⟨_, _, m_paceOf hv' h6, ?_⟩
        have el : (nI (v (13 + 4 * i))).toInt64 = lN (v (13 + 4 * i)) := nI_l (by omega)
        refine lc_le (fun (h1 : vRule (vW v i) R ≤ (nI (v (13 + 4 * i))).toInt64) => ?_) (fun (h1 : ¬ vRule (vW v i) R ≤ (nI (v (13 + 4 * i))).toInt64) => ?_)
        · rw [el] at h1
          refine ⟨?_, z, g, g2, rfl⟩
          rw [← hx]
          exact congrArg (fun q => some (vi q)) (vClamp_eq hp9 (Int64.not_lt.mpr h0) (Int64.not_lt.mpr h1))
        · rw [el] at h1
          refine ⟨_, _, m_paceOf hv' h6, ?_, z, g, g2, rfl⟩
          rw [← hx]
          have : vClamp (vRule (vW v i) R) (v (13 + 4 * i)) = v (13 + 4 * i) := by
            unfold vClamp
            rw [if_neg (Int64.not_lt.mpr h0), if_pos (Int64.not_le.mp h1)]
          exact congrArg (fun q => some (vi (nI q))) this.symm
      · refine ⟨?_, z, g, g2, rfl⟩
        rw [← hx]
        have : vClamp (vRule (vW v i) R) (v (13 + 4 * i)) = 0 := by
          unfold vClamp
          rw [if_pos (Int64.not_le.mp h0)]
        exact congrArg (fun q => some (vi (nI q))) this.symm
  obtain ⟨r, h', hg, e1, z', g', g2, e2⟩ := fx_methX (d := d + 4) (y := 203) (av := [mO, vi (nI i)]) (h := hp σ hi hl) (P := fun r2 h2 => r2 = some (vi (nI (vRide v rl row i))) ∧ ∃ z g g2, h2 = hp σ (fx_up hi 11 0 18 z) (fx_all (fx_all hl 58 0 g2) 57 0 g)) fx_M203 [some mO, some (vi (nI i)), none, none] (by decide) rfl rfl (Nat.le_of_ble_eq_true rfl) (fx_wpE [28] 30 (by
    refine ⟨_, _, m_isOut hv h6, ?_⟩
    refine b01_if (fun hc => ?_) (fun hc => ?_)
    · cases row with
      | none =>
        have hr1 : hi 11 0 23 = -1 := hr
        refine ⟨fun _ => ?_, fun (hn : ¬ ¬ nI i = hi 11 0 23) => absurd (Classical.not_not.mp hn) (by rw [hr1]; exact ne_m1 (by omega))⟩
        exact rest _ (by unfold vRide; rw [hc]; rfl)
      | some q =>
        obtain ⟨j, f⟩ := q
        obtain ⟨hj, hr1, hf9, a, ha, hr2, hr3⟩ := hr
        refine nn_eq i j (fun he => ?_) (fun he => ?_) rfl hr1
        · refine ⟨ni_inx (n := a) (m := 4) hr2 ha (by decide), ?_, _, _, _, same⟩
          have e3 : hi 60 0 (hi 11 0 25).toNatClampNeg = nI f := by rw [ni_cl hr2 (by omega)]; exact hr3
          have e4 : vRide v rl (some (j, f)) i = f := by
            unfold vRide
            rw [hc]
            exact if_pos he
          rw [e4]
          exact congrArg (fun q => some (vi q)) e3
        · exact rest _ (by unfold vRide; rw [hc]; exact (if_neg he).symm)
    · refine ⟨?_, _, _, _, same⟩
      have : vRide v rl row i = 0 := by
        unfold vRide
        rw [if_pos hc]
      rw [this]
      rfl))
  subst e1
  subst e2
  exact ⟨z', g', g2, hg⟩
end MT
