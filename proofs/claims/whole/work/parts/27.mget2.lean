/-! the reference: bits, gates, who is last -/
theorem sh_ix : ∀ k, k < 32 → ((nI k &&& 31).toBitVec.smod 32).toNat = k := by decide +kernel
theorem sh_1 : ∀ k, k < 31 → (1 : Int32) <<< (nI k &&& 31) = nI (2 ^ k) := by decide +kernel
theorem bit_of {a k : Nat} (ha : a < 2 ^ 31) (hk : k < 32) : (nI a >>> (nI k &&& 31)) &&& 1 = 1 ↔ a.testBit k = true := by
  rw [pk_shrN ha _ k (sh_ix k hk)]
  have h1 : a / 2 ^ k < 2 ^ 32 := Nat.lt_of_le_of_lt (Nat.div_le_self _ _) (by omega)
  rw [pk_andN h1 (m := 1) 1 (by decide), Nat.testBit_eq_decide_div_mod_eq, decide_eq_true_iff]
  show nI _ = nI 1 ↔ _
  rw [nI_eq (by omega) (by decide)]
/-- bits of a set of six, as a number -/
def vOuts (v : Nat → Nat) : Nat → Nat
  | 0 => 0
  | n + 1 => vOuts v n + (if vOut v n then 2 ^ n else 0)
theorem vOuts_lt (v : Nat → Nat) : ∀ n, vOuts v n < 2 ^ n
  | 0 => Nat.one_pos
  | n + 1 => by
    have := vOuts_lt v n
    unfold vOuts
    rw [Nat.pow_succ]
    split <;> omega
theorem or_bit : ∀ n, n < 6 → ∀ a, a < 2 ^ n → nI a ||| nI (2 ^ n) = nI (a + 2 ^ n) := by decide +kernel
theorem or_0 (a : Int32) : a ||| 0 = a := by simp
def oI (o : Option Nat) : Int32 := match o with
  | none => -1
  | some i => nI i
def vLast (v : Nat → Nat) : Nat → Option Nat
  | 0 => none
  | n + 1 => if vOut v n then vLast v n else match vLast v n with
    | none => some n
    | some l => if v (12 + 4 * n) ≤ v (12 + 4 * l) then some n else some l
theorem vLast_lt (v : Nat → Nat) : ∀ n l, vLast v n = some l → l < n ∧ vOut v l = false
  | 0, l, h => by cases h
  | n + 1, l, h => by
    unfold vLast at h
    split at h
    · have := vLast_lt v n l h
      exact ⟨by omega, this.2⟩
    · rename_i ho
      have ho' : vOut v n = false := by simpa using ho
      split at h
      · cases h
        exact ⟨by omega, ho'⟩
      · rename_i l' hl'
        split at h
        · cases h
          exact ⟨by omega, ho'⟩
        · cases h
          have := vLast_lt v n _ hl'
          exact ⟨by omega, this.2⟩
def vGate (v : Nat → Nat) (f : Nat) : Bool := (v (36 + f / 30)).testBit (f % 30)
def vToF (v : Nat → Nat) : Nat → Nat → Nat
  | 0, _ => 99
  | k + 1, d => if vGate v ((v 11 + d) % v 1) then d else vToF v k (d + 1)
def vTo (v : Nat → Nat) : Nat := vToF v (v 1) 1
theorem b01_or (b : Bool) : b01 b = 0 ∨ b01 b = 1 := by
  cases b
  · exact Or.inl rfl
  · exact Or.inr rfl
theorem b01_if {b : Bool} {A B : Prop} (f : b = false → A) (g : b = true → B) : (b01 b = 0 → A) ∧ (¬ b01 b = 0 → B) := by
  cases b
  · exact ⟨fun _ => f rfl, fun z => absurd rfl z⟩
  · exact ⟨fun z => absurd z (by decide), fun _ => g rfl⟩
theorem b01_nf {b : Bool} {A B : Prop} (f : b = true → A) (g : b = false → B) : (¬ b01 b = 0 → A) ∧ (¬ ¬ b01 b = 0 → B) := by
  cases b
  · exact ⟨fun z => absurd rfl z, fun _ => g rfl⟩
  · exact ⟨fun _ => f rfl, fun z => absurd (show ¬ b01 true = 0 by decide) z⟩
theorem oI_lt {o : Option Nat} {A B : Prop} (hb : ∀ i, o = some i → i < 2 ^ 31) (f : o = none → A) (g : ∀ i, o = some i → B) : (oI o < 0 → A) ∧ (¬ oI o < 0 → B) := by
  cases o with
  | none => exact ⟨fun _ => f rfl, fun z => absurd (show (-1 : Int32) < 0 by decide) z⟩
  | some i => exact ⟨fun z => absurd z (nI_pos (hb i rfl)), fun _ => g i rfl⟩
theorem oI_ge {o : Option Nat} {A B : Prop} (hb : ∀ i, o = some i → i < 2 ^ 31) (f : ∀ i, o = some i → A) (g : o = none → B) : (0 ≤ oI o → A) ∧ (¬ 0 ≤ oI o → B) := by
  cases o with
  | none => exact ⟨fun z => absurd z (show ¬ (0 : Int32) ≤ -1 by decide), fun _ => g rfl⟩
  | some i => exact ⟨fun _ => f i rfl, fun z => absurd (nI_pos' (hb i rfl)) z⟩
section MH
variable {d : Nat} {σ : fxS} {hi : fxI3} {hl : fxL3} {v : Nat → Nat}
theorem m_outs (hv : PM hi v) (h4 : v 4 ≤ 6) : fx_Ga (d + 2) 192 [mO] (hp σ hi hl) (some (vi (nI (vOuts v (v 4))))) (hp σ hi hl) := by
  refine fx_meth fx_M192 [some mO, none, none] (by decide) rfl rfl (Nat.le_of_ble_eq_true rfl) ?_
  have e4 := hv 4 (by decide)
  have loop : ∀ k i, i + k = v 4 → fx_E (fx_Ga (d + 1)) fx_M192 (4, [some mO, some (vi (nI (vOuts v i))), some (vi (nI i))], [], hp σ hi hl, 0, 0) (fun r2 h2 => r2 = some (vi (nI (vOuts v (v 4)))) ∧ h2 = hp σ hi hl) := by
    intro k
    induction k with
    | zero =>
      intro i hk
      refine fx_wpL [4] 30 ⟨ni_inx (n := 4) (m := 83) rfl (by decide) (by decide), ?_⟩
      refine pk_le (v 4) i (fun _ => ?_) (fun hc => by omega) e4.1
      refine ⟨?_, rfl⟩
      rw [show i = v 4 by omega]
    | succ k ih =>
      intro i hk
      refine fx_wpL [4] 30 ⟨ni_inx (n := 4) (m := 83) rfl (by decide) (by decide), ?_⟩
      refine pk_le (v 4) i (fun hc => by omega) (fun _ => ?_) e4.1
      refine ⟨_, _, m_isOut hv (show i < 6 by omega), ?_⟩
      have h2 := ih (i + 1) (by omega)
      rw [← nI_1] at h2
      refine b01_if (fun hc => ?_) (fun hc => ?_)
      · rw [show vOuts v (i + 1) = vOuts v i by rw [vOuts]; simp [hc], ← or_0 (nI (vOuts v i))] at h2
        exact h2
      · rw [show vOuts v (i + 1) = vOuts v i + 2 ^ i by rw [vOuts]; simp [hc], ← or_bit i (by omega) _ (vOuts_lt v i), ← sh_1 i (by omega)] at h2
        exact h2
  exact fx_wpE [4] 9 (loop (v 4) 0 (by omega))
theorem m_lastOne (hv : PM hi v) (h4 : v 4 ≤ 6) : fx_Ga (d + 2) 204 [mO] (hp σ hi hl) (some (vi (oI (vLast v (v 4))))) (hp σ hi hl) := by
  refine fx_meth fx_M204 [some mO, none, none] (by decide) rfl rfl (Nat.le_of_ble_eq_true rfl) ?_
  have e4 := hv 4 (by decide)
  have loop : ∀ k i, i + k = v 4 → fx_E (fx_Ga (d + 1)) fx_M204 (4, [some mO, some (vi (oI (vLast v i))), some (vi (nI i))], [], hp σ hi hl, 0, 0) (fun r2 h2 => r2 = some (vi (oI (vLast v (v 4)))) ∧ h2 = hp σ hi hl) := by
    intro k
    induction k with
    | zero =>
      intro i hk
      refine fx_wpL [4] 30 ⟨ni_inx (n := 4) (m := 83) rfl (by decide) (by decide), ?_⟩
      refine pk_le (v 4) i (fun _ => ?_) (fun hc => by omega) e4.1
      refine ⟨?_, rfl⟩
      rw [show i = v 4 by omega]
    | succ k ih =>
      intro i hk
      refine fx_wpL [4] 40 ⟨ni_inx (n := 4) (m := 83) rfl (by decide) (by decide), ?_⟩
      refine pk_le (v 4) i (fun hc => by omega) (fun _ => ?_) e4.1
      refine ⟨_, _, m_isOut hv (show i < 6 by omega), ?_⟩
      have h2 := ih (i + 1) (by omega)
      rw [← nI_1] at h2
      refine b01_nf (fun hc => ?_) (fun hc => ?_)
      · rw [show vLast v (i + 1) = vLast v i by rw [vLast]; simp [hc]] at h2
        exact h2
      · refine oI_lt (fun j hj => by have := vLast_lt v i j hj; omega) (fun hn => ?_) (fun l hl' => ?_)
        · rw [show vLast v (i + 1) = some i by rw [vLast, hn]; simp [hc]] at h2
          exact h2
        · have hl6 := (vLast_lt v i l hl').1
          have eo : oI (vLast v i) = nI l := by rw [hl']; rfl
          have hrl := m_runOf (d := d) (σ := σ) (hl := hl) hv (show l < 6 by omega)
          rw [← eo] at hrl
          refine ⟨_, _, m_runOf hv (show i < 6 by omega), ?_⟩
          refine ⟨_, _, hrl, ?_⟩
          have b1 := (hv (12 + 4 * i) (by omega)).2
          have b2 := (hv (12 + 4 * l) (by omega)).2
          refine pk_lt (v (12 + 4 * l)) (v (12 + 4 * i)) (fun hlt => ?_) (fun hle => ?_)
          · rw [show vLast v (i + 1) = vLast v i by rw [vLast, if_neg (by simp [hc]), hl']; exact if_neg (by omega)] at h2
            exact h2
          · rw [show vLast v (i + 1) = some i by rw [vLast, if_neg (by simp [hc]), hl']; exact if_pos hle] at h2
            exact h2
  exact fx_wpE [4] 9 (loop (v 4) 0 (by omega))
theorem ni_div30 {f : Nat} (hf : f < 60) : (36 + nI f / 30 : Int32) = nI (36 + f / 30) := by
  show nI 36 + nI f / nI 30 = _
  rw [pk_div (by omega) (by decide) (by decide), nI_add]
theorem m_isGate (hv : PM hi v) {f : Nat} (hf : f < 60) : fx_Ga (d + 2) 194 [mO, vi (nI f)] (hp σ hi hl) (some (vi (b01 (vGate v f)))) (hp σ hi hl) := by
  refine fx_meth fx_M194 [some mO, some (vi (nI f))] (by decide) rfl rfl (Nat.le_of_ble_eq_true rfl) (fx_wpE [] 30 ?_)
  have hd : f / 30 < 2 := by omega
  have e := hv.at (ni_div30 hf) (by omega)
  have hb := (hv (36 + f / 30) (by omega)).2
  refine ⟨by decide, ni_inx (n := 36 + f / 30) (m := 83) (ni_div30 hf) (by omega) (by decide), by decide, _, _, m_isOf, ?_, ?_, rfl⟩
  · exact b01_or _
  · refine congrArg (fun z => some (vi (b01 z))) ?_
    unfold vGate
    have er : nI f - nI f / 30 * 30 = nI (f % 30) := pk_rem (d := 30) (by omega) (by decide) (by decide)
    rw [Bool.eq_iff_iff, decide_eq_true_iff]
    refine Iff.trans ?_ (bit_of (a := v (36 + f / 30)) (k := f % 30) (by omega) (by omega))
    rw [← e, ← er]
    rfl
theorem vToF_le (v : Nat → Nat) : ∀ k d, vToF v k d ≤ 99 ∨ vToF v k d < d + k
  | 0, d => Or.inl (Nat.le_refl _)
  | k + 1, d => by
    unfold vToF
    split
    · exact Or.inr (by omega)
    · rcases vToF_le v k (d + 1) with h | h
      · exact Or.inl h
      · exact Or.inr (by omega)
theorem m_toGate (hv : PM hi v) (h1 : v 1 ≤ 60) (hfx : v 11 < 2 ^ 20) : fx_Ga (d + 3) 195 [mO] (hp σ hi hl) (some (vi (nI (vTo v)))) (hp σ hi hl) := by
  refine fx_meth fx_M195 [some mO, none] (by decide) rfl rfl (Nat.le_of_ble_eq_true rfl) ?_
  have e1 := hv 1 (by decide)
  have e11 := hv 11 (by decide)
  have loop : ∀ k i, i + k = v 1 + 1 → 1 ≤ i → vToF v k i = vTo v → fx_E (fx_Ga (d + 2)) fx_M195 (2, [some mO, some (vi (nI i))], [], hp σ hi hl, 0, 0) (fun r2 h2 => r2 = some (vi (nI (vTo v))) ∧ h2 = hp σ hi hl) := by
    intro k
    induction k with
    | zero =>
      intro i hk _ ht
      refine fx_wpL [2] 30 ⟨ni_inx (n := 1) (m := 83) rfl (by decide) (by decide), ?_⟩
      refine pk_lt (v 1) i (fun _ => ?_) (fun hc => by omega) e1.1
      refine ⟨?_, rfl⟩
      rw [← ht]
      rfl
    | succ k ih =>
      intro i hk hi1 ht
      refine fx_wpL [2] 30 ⟨ni_inx (n := 1) (m := 83) rfl (by decide) (by decide), ?_⟩
      refine pk_lt (v 1) i (fun hc => by omega) (fun _ => ?_) e1.1
      refine ⟨ni_inx (n := 11) (m := 83) rfl (by decide) (by decide), ni_inx (n := 1) (m := 83) rfl (by decide) (by decide), ?_⟩
      have hz : ¬ hi 59 0 1 = 0 := by
        rw [e1.1]
        exact nI_ne0 (by omega) (by omega)
      have er : (hi 59 0 11 + nI i) - (hi 59 0 11 + nI i) / hi 59 0 1 * hi 59 0 1 = nI ((v 11 + i) % v 1) := by
        rw [e11.1, e1.1, nI_add]
        exact pk_rem (by omega) (by omega) (by omega)
      have hg := m_isGate (d := d) (σ := σ) (hl := hl) hv (f := (v 11 + i) % v 1) (Nat.lt_of_lt_of_le (Nat.mod_lt _ (by omega)) h1)
      rw [← er] at hg
      refine ⟨hz, _, _, hg, ?_⟩
      refine b01_if (fun hc => ?_) (fun hc => ?_)
      · have h2 := ih (i + 1) (by omega) (by omega) (by rw [← ht, vToF]; simp [hc])
        rw [← nI_1] at h2
        exact h2
      · refine ⟨?_, rfl⟩
        rw [← ht, vToF]
        simp [hc]
  exact fx_wpE [2] 9 (loop (v 1) 1 (by omega) (by omega) rfl)
end MH
