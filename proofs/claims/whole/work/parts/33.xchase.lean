/-! the class: a Chase -/
/-- its gates as one number -/
def vG (v : Nat → Nat) : Nat := v 36 + 2 ^ 30 * v 37
def GV (v : Nat → Nat) : Prop := v 36 < 2 ^ 30 ∧ v 37 < 2 ^ 30 ∧ ∀ f, f < 60 → vGate v f = true → f < v 1
theorem vG_lt {v : Nat → Nat} (h : GV v) : vG v < 2 ^ 60 := by
  have h1 := h.1
  have h2 := h.2.1
  unfold vG
  omega
theorem vG_bit {v : Nat → Nat} (h : GV v) {f : Nat} (hf : f < 60) : (vG v).testBit f = vGate v f := by
  unfold vG vGate
  rw [Nat.add_comm, Nat.testBit_two_pow_mul_add _ h.1]
  split
  · rename_i z
    rw [show f / 30 = 0 by omega, show f % 30 = f by omega]
  · rename_i z
    rw [show f / 30 = 1 by omega, show f % 30 = f - 30 by omega]
/-- chase j shows v -/
def PX (hi : fxI3) (hl : fxL3) (j : Nat) (v : Nat → Nat) : Prop := hi 1 j 0 = nI (v 1) ∧ hi 1 j 1 = nI (v 2) ∧ hi 1 j 2 = nI (v 3) ∧ hi 1 j 3 = nI (v 4) ∧ hi 1 j 4 = nI (v 11) ∧ hi 1 j 5 = nI (v 10) ∧ hl 1 j 6 = lN (vG v) ∧ ∀ i, i < v 4 → hi 21 j i = nI (v (12 + 4 * i)) ∧ hi 22 j i = nI (v (13 + 4 * i)) ∧ hi 23 j i = nI (v (14 + 4 * i)) ∧ hi 24 j i = nI (v (15 + 4 * i))
def vNear (v : Nat → Nat) : Nat → Option Nat
  | 0 => none
  | n + 1 => if vOut v n then vNear v n else match vNear v n with
    | none => some n
    | some l => if v (12 + 4 * l) < v (12 + 4 * n) then some n else some l
theorem vNear_lt (v : Nat → Nat) : ∀ n l, vNear v n = some l → l < n ∧ vOut v l = false
  | 0, l, h => by cases h
  | n + 1, l, h => by
    unfold vNear at h
    split at h
    · have := vNear_lt v n l h
      exact ⟨by omega, this.2⟩
    · rename_i ho
      have ho' : vOut v n = false := by simpa using ho
      split at h
      · cases h
        exact ⟨by omega, ho'⟩
      · rename_i l' hl'
        split at h
        · cases h
          exact ⟨by omega, ho'⟩
        · cases h
          have := vNear_lt v n _ hl'
          exact ⟨by omega, this.2⟩
def vAll (v : Nat → Nat) : Nat → Bool
  | 0 => true
  | n + 1 => vAll v n && decide (0 < v (15 + 4 * n))
section XC
variable {d : Nat} {σ : fxS} {hi : fxI3} {hl : fxL3} {v : Nat → Nat} {j : Nat}
theorem x_hasRider (hv : PX hi hl j v) (h4 : v 4 ≤ 6) (r : Int32) : fx_Ga (d + 1) 8 [cO j, vi r] (hp σ hi hl) (some (vi (b01 (decide (0 ≤ r ∧ r < nI (v 4)))))) (hp σ hi hl) := by
  refine fx_meth fx_M8 [some (cO j), some (vi r)] (by decide) rfl rfl (Nat.le_of_ble_eq_true rfl) (fx_wpE [] 30 ?_)
  have e := hv.2.2.2.1
  refine ⟨fun (hc : r < 0) => ⟨Or.inl rfl, ?_, rfl⟩, fun (hc : ¬ r < 0) => ⟨fun (hc2 : hi 1 j 3 ≤ r) => ⟨Or.inl rfl, ?_, rfl⟩, fun (hc2 : ¬ hi 1 j 3 ≤ r) => ⟨fun (hc3 : 6 ≤ r) => ?_, fun (hc3 : ¬ 6 ≤ r) => ⟨Or.inr rfl, ?_, rfl⟩⟩⟩⟩
  · rw [decide_eq_false (fun z => absurd z.1 (Int32.not_le.mpr hc))]
    rfl
  · rw [e] at hc2
    rw [decide_eq_false (fun z => absurd z.2 (Int32.not_lt.mpr hc2))]
    rfl
  · exfalso
    rw [e] at hc2
    have h1 := Int32.not_le.mp hc2
    obtain ⟨k, hk, rfl⟩ := nI_of hc
    have h2 := (nI_ltI hk (by omega)).mp h1
    have h3 := (nI_leI (a := 6) (by decide) hk).mp hc3
    omega
  · rw [e] at hc2
    rw [decide_eq_true ⟨Int32.not_lt.mp hc, Int32.not_le.mp hc2⟩]
    rfl
theorem x_hasField (hv : PX hi hl j v) (f : Int32) : fx_Ga (d + 1) 9 [cO j, vi f] (hp σ hi hl) (some (vi (b01 (decide (0 ≤ f ∧ f < nI (v 1)))))) (hp σ hi hl) := by
  refine fx_meth fx_M9 [some (cO j), some (vi f)] (by decide) rfl rfl (Nat.le_of_ble_eq_true rfl) (fx_wpE [] 30 ?_)
  have e := hv.1
  refine ⟨fun (hc : f < 0) => ⟨Or.inl rfl, ?_, rfl⟩, fun (hc : ¬ f < 0) => ⟨fun (hc2 : hi 1 j 0 ≤ f) => ⟨Or.inl rfl, ?_, rfl⟩, fun (hc2 : ¬ hi 1 j 0 ≤ f) => ⟨Or.inr rfl, ?_, rfl⟩⟩⟩
  · rw [decide_eq_false (fun z => absurd z.1 (Int32.not_le.mpr hc))]
    rfl
  · rw [e] at hc2
    rw [decide_eq_false (fun z => absurd z.2 (Int32.not_lt.mpr hc2))]
    rfl
  · rw [e] at hc2
    rw [decide_eq_true ⟨Int32.not_lt.mp hc, Int32.not_le.mp hc2⟩]
    rfl
theorem x_isGate (hv : PX hi hl j v) (hg : GV v) {f : Nat} (hf : f < 60) : fx_Ga (d + 1) 10 [cO j, vi (nI f)] (hp σ hi hl) (some (vi (b01 (vGate v f)))) (hp σ hi hl) := by
  refine fx_meth fx_M10 [some (cO j), some (vi (nI f))] (by decide) rfl rfl (Nat.le_of_ble_eq_true rfl) (fx_wpE [] 30 ?_)
  have hG := vG_lt hg
  have e : ((hl 1 j 6).toUInt64 >>> ((nI f).toInt64.toUInt64 &&& Int64.toUInt64 63)).toInt64 &&& 1 = lN (vG v / 2 ^ f % 2) := by
    rw [hv.2.2.2.2.2.2.1]
    exact wb_bit (by omega) (by omega)
  have eb : vGate v f = decide (vG v / 2 ^ f % 2 = 1) := by rw [← vG_bit hg hf, Nat.testBit_eq_decide_div_mod_eq]
  have hm : vG v / 2 ^ f % 2 < 2 := Nat.mod_lt _ (by decide)
  refine ⟨fun (hc : lg_cmp (((hl 1 j 6).toUInt64 >>> ((nI f).toInt64.toUInt64 &&& Int64.toUInt64 63)).toInt64 &&& 1) 0 = 0) => ⟨Or.inl rfl, ?_, rfl⟩, fun (hc : ¬ lg_cmp (((hl 1 j 6).toUInt64 >>> ((nI f).toInt64.toUInt64 &&& Int64.toUInt64 63)).toInt64 &&& 1) 0 = 0) => ⟨Or.inr rfl, ?_, rfl⟩⟩
  · rw [lg_cmp_eq, e] at hc
    have h0 := (pk_lEQ (b := 0) (by omega) (by decide)).mp hc
    rw [eb, decide_eq_false (by omega)]
    rfl
  · rw [lg_cmp_eq, e] at hc
    have h0 : ¬ vG v / 2 ^ f % 2 = 0 := fun z => hc (by rw [z]; rfl)
    rw [eb, decide_eq_true (by omega)]
    rfl
theorem x_lastRider (hv : PX hi hl j v) (hs : SV v) : fx_Ga (d + 1) 16 [cO j] (hp σ hi hl) (some (vi (oI (vLast v (v 4))))) (hp σ hi hl) := by
  refine fx_meth fx_M16 [some (cO j), none, none] (by decide) rfl rfl (Nat.le_of_ble_eq_true rfl) ?_
  obtain ⟨s4, s1, s2, s3, s11, s10, si⟩ := hs
  have e4 := hv.2.2.2.1
  have ea := hv.2.2.2.2.2.2.2
  have loop : ∀ k i, i + k = v 4 → fx_E (fx_Ga d) fx_M16 (4, [some (cO j), some (vi (oI (vLast v i))), some (vi (nI i))], [], hp σ hi hl, 0, 0) (fun r2 h2 => r2 = some (vi (oI (vLast v (v 4)))) ∧ h2 = hp σ hi hl) := by
    intro k
    induction k with
    | zero =>
      intro i hk
      refine fx_wpL [4] 30 (pk_le (v 4) i (fun _ => ⟨?_, rfl⟩) (fun hc => by omega) e4)
      rw [show i = v 4 by omega]
    | succ k ih =>
      intro i hk
      have i6 : i < 6 := by omega
      have ei := ea i (by omega)
      have hin := ni_in (n := i) (m := 6) i6 (by decide)
      have c : (nI i).toNatClampNeg = i := nI_clamp (by omega)
      have h2 := ih (i + 1) (by omega)
      rw [← nI_1] at h2
      refine fx_wpL [4] 40 (pk_le (v 4) i (fun hc => by omega) (fun _ => ?_) e4)
      refine ⟨hin, ?_⟩
      have bd := si i i6
      refine nn_eq (v (14 + 4 * i)) 0 (fun h0 => ?_) (fun h0 => ?_) (by show hi 23 j (nI i).toNatClampNeg = _; rw [c]; exact ei.2.2.1)
      · have hc : vOut v i = false := by unfold vOut; exact decide_eq_false (by omega)
        refine oI_lt (fun l hl0 => by have := vLast_lt v i l hl0; omega) (fun hn => ?_) (fun l hl0 => ?_)
        · rw [show vLast v (i + 1) = some i by rw [vLast, hn]; simp [hc]] at h2
          exact h2
        · have hl6 := (vLast_lt v i l hl0).1
          have eo : oI (vLast v i) = nI l := by rw [hl0]; rfl
          have bl := si l (by omega)
          refine ⟨hin, ni_inx (n := l) (m := 6) eo (by omega) (by decide), ?_⟩
          refine pk_lt (v (12 + 4 * l)) (v (12 + 4 * i)) (fun hlt => ?_) (fun hle => ?_) (by show hi 21 j (oI (vLast v i)).toNatClampNeg = _; rw [ni_cl eo (by omega)]; exact (ea l (by omega)).1) (by show hi 21 j (nI i).toNatClampNeg = _; rw [c]; exact ei.1)
          · rw [show vLast v (i + 1) = vLast v i by rw [vLast, if_neg (by simp [hc]), hl0]; exact if_neg (by omega)] at h2
            exact h2
          · rw [show vLast v (i + 1) = some i by rw [vLast, if_neg (by simp [hc]), hl0]; exact if_pos hle] at h2
            exact h2
      · have hc : vOut v i = true := by unfold vOut; exact decide_eq_true (by omega)
        rw [show vLast v (i + 1) = vLast v i by rw [vLast]; simp [hc]] at h2
        exact h2
  exact fx_wpE [4] 9 (loop (v 4) 0 (by omega))
theorem x_nearestRider (hv : PX hi hl j v) (hs : SV v) : fx_Ga (d + 1) 17 [cO j] (hp σ hi hl) (some (vi (oI (vNear v (v 4))))) (hp σ hi hl) := by
  refine fx_meth fx_M17 [some (cO j), none, none] (by decide) rfl rfl (Nat.le_of_ble_eq_true rfl) ?_
  obtain ⟨s4, s1, s2, s3, s11, s10, si⟩ := hs
  have e4 := hv.2.2.2.1
  have ea := hv.2.2.2.2.2.2.2
  have loop : ∀ k i, i + k = v 4 → fx_E (fx_Ga d) fx_M17 (4, [some (cO j), some (vi (oI (vNear v i))), some (vi (nI i))], [], hp σ hi hl, 0, 0) (fun r2 h2 => r2 = some (vi (oI (vNear v (v 4)))) ∧ h2 = hp σ hi hl) := by
    intro k
    induction k with
    | zero =>
      intro i hk
      refine fx_wpL [4] 30 (pk_le (v 4) i (fun _ => ⟨?_, rfl⟩) (fun hc => by omega) e4)
      rw [show i = v 4 by omega]
    | succ k ih =>
      intro i hk
      have i6 : i < 6 := by omega
      have ei := ea i (by omega)
      have hin := ni_in (n := i) (m := 6) i6 (by decide)
      have c : (nI i).toNatClampNeg = i := nI_clamp (by omega)
      have h2 := ih (i + 1) (by omega)
      rw [← nI_1] at h2
      refine fx_wpL [4] 40 (pk_le (v 4) i (fun hc => by omega) (fun _ => ?_) e4)
      refine ⟨hin, ?_⟩
      have bd := si i i6
      refine nn_eq (v (14 + 4 * i)) 0 (fun h0 => ?_) (fun h0 => ?_) (by show hi 23 j (nI i).toNatClampNeg = _; rw [c]; exact ei.2.2.1)
      · have hc : vOut v i = false := by unfold vOut; exact decide_eq_false (by omega)
        refine oI_lt (fun l hl0 => by have := vNear_lt v i l hl0; omega) (fun hn => ?_) (fun l hl0 => ?_)
        · rw [show vNear v (i + 1) = some i by rw [vNear, hn]; simp [hc]] at h2
          exact h2
        · have hl6 := (vNear_lt v i l hl0).1
          have eo : oI (vNear v i) = nI l := by rw [hl0]; rfl
          have bl := si l (by omega)
          refine ⟨hin, ni_inx (n := l) (m := 6) eo (by omega) (by decide), ?_⟩
          refine pk_le (v (12 + 4 * i)) (v (12 + 4 * l)) (fun hle => ?_) (fun hlt => ?_) (by show hi 21 j (nI i).toNatClampNeg = _; rw [c]; exact ei.1) (by show hi 21 j (oI (vNear v i)).toNatClampNeg = _; rw [ni_cl eo (by omega)]; exact (ea l (by omega)).1)
          · rw [show vNear v (i + 1) = vNear v i by rw [vNear, if_neg (by simp [hc]), hl0]; exact if_neg (by omega)] at h2
            exact h2
          · rw [show vNear v (i + 1) = some i by rw [vNear, if_neg (by simp [hc]), hl0]; exact if_pos hlt] at h2
            exact h2
      · have hc : vOut v i = true := by unfold vOut; exact decide_eq_true (by omega)
        rw [show vNear v (i + 1) = vNear v i by rw [vNear]; simp [hc]] at h2
        exact h2
  exact fx_wpE [4] 9 (loop (v 4) 0 (by omega))
theorem x_outBits (hv : PX hi hl j v) (hs : SV v) : fx_Ga (d + 1) 19 [cO j] (hp σ hi hl) (some (vi (nI (vOuts v (v 4))))) (hp σ hi hl) := by
  refine fx_meth fx_M19 [some (cO j), none, none] (by decide) rfl rfl (Nat.le_of_ble_eq_true rfl) ?_
  obtain ⟨s4, s1, s2, s3, s11, s10, si⟩ := hs
  have e4 := hv.2.2.2.1
  have ea := hv.2.2.2.2.2.2.2
  have loop : ∀ k i, i + k = v 4 → fx_E (fx_Ga d) fx_M19 (4, [some (cO j), some (vi (nI (vOuts v i))), some (vi (nI i))], [], hp σ hi hl, 0, 0) (fun r2 h2 => r2 = some (vi (nI (vOuts v (v 4)))) ∧ h2 = hp σ hi hl) := by
    intro k
    induction k with
    | zero =>
      intro i hk
      refine fx_wpL [4] 30 (pk_le (v 4) i (fun _ => ⟨?_, rfl⟩) (fun hc => by omega) e4)
      rw [show i = v 4 by omega]
    | succ k ih =>
      intro i hk
      have i6 : i < 6 := by omega
      have ei := ea i (by omega)
      have hin := ni_in (n := i) (m := 6) i6 (by decide)
      have c : (nI i).toNatClampNeg = i := nI_clamp (by omega)
      have h2 := ih (i + 1) (by omega)
      rw [← nI_1] at h2
      have bd := si i i6
      refine fx_wpL [4] 40 (pk_le (v 4) i (fun hc => by omega) (fun _ => ?_) e4)
      refine ⟨hin, ?_⟩
      refine pk_le (v (14 + 4 * i)) 0 (fun h0 => ?_) (fun h0 => ?_) (by show hi 23 j (nI i).toNatClampNeg = _; rw [c]; exact ei.2.2.1)
      · have hc : vOut v i = false := by unfold vOut; exact decide_eq_false (by omega)
        rw [show vOuts v (i + 1) = vOuts v i by rw [vOuts]; simp [hc]] at h2
        exact h2
      · have hc : vOut v i = true := by unfold vOut; exact decide_eq_true h0
        rw [show vOuts v (i + 1) = vOuts v i + 2 ^ i by rw [vOuts]; simp [hc], ← or_bit i i6 _ (vOuts_lt v i), ← sh_1 i (by omega)] at h2
        exact h2
  exact fx_wpE [4] 9 (loop (v 4) 0 (by omega))
theorem x_allTimesIt (hv : PX hi hl j v) (h4 : v 4 ≤ 6) : fx_Ga (d + 1) 20 [cO j] (hp σ hi hl) (some (vi (nI (vWas v (v 4))))) (hp σ hi hl) := by
  refine fx_meth fx_M20 [some (cO j), none, none] (by decide) rfl rfl (Nat.le_of_ble_eq_true rfl) ?_
  have e4 := hv.2.2.2.1
  have ea := hv.2.2.2.2.2.2.2
  have loop : ∀ k i, i + k = v 4 → fx_E (fx_Ga d) fx_M20 (4, [some (cO j), some (vi (nI (vWas v i))), some (vi (nI i))], [], hp σ hi hl, 0, 0) (fun r2 h2 => r2 = some (vi (nI (vWas v (v 4)))) ∧ h2 = hp σ hi hl) := by
    intro k
    induction k with
    | zero =>
      intro i hk
      refine fx_wpL [4] 30 (pk_le (v 4) i (fun _ => ⟨?_, rfl⟩) (fun hc => by omega) e4)
      rw [show i = v 4 by omega]
    | succ k ih =>
      intro i hk
      have i6 : i < 6 := by omega
      have c : (nI i).toNatClampNeg = i := nI_clamp (by omega)
      refine fx_wpL [4] 40 (pk_le (v 4) i (fun hc => by omega) (fun _ => ?_) e4)
      refine ⟨ni_in (n := i) (m := 6) i6 (by decide), ?_⟩
      have h2 := ih (i + 1) (by omega)
      rw [show vWas v (i + 1) = vWas v i + v (15 + 4 * i) from rfl, ← nI_add, ← nI_1, ← (ea i (by omega)).2.2.2] at h2
      rw [show hi 24 j i = hi 24 j (nI i).toNatClampNeg by rw [c]] at h2
      exact h2
  exact fx_wpE [4] 9 (loop (v 4) 0 (by omega))
theorem x_allWereIt (hv : PX hi hl j v) (hs : SV v) : fx_Ga (d + 1) 21 [cO j] (hp σ hi hl) (some (vi (b01 (vAll v (v 4))))) (hp σ hi hl) := by
  refine fx_meth fx_M21 [some (cO j), none] (by decide) rfl rfl (Nat.le_of_ble_eq_true rfl) ?_
  obtain ⟨s4, s1, s2, s3, s11, s10, si⟩ := hs
  have e4 := hv.2.2.2.1
  have ea := hv.2.2.2.2.2.2.2
  have mono : ∀ k i, vAll v i = false → vAll v (i + k) = false := by
    intro k
    induction k with
    | zero => exact fun i h => h
    | succ k ih =>
      intro i h
      show (vAll v (i + k) && _) = false
      rw [ih i h]
      rfl
  have loop : ∀ k i, i + k = v 4 → vAll v i = true → fx_E (fx_Ga d) fx_M21 (2, [some (cO j), some (vi (nI i))], [], hp σ hi hl, 0, 0) (fun r2 h2 => r2 = some (vi (b01 (vAll v (v 4)))) ∧ h2 = hp σ hi hl) := by
    intro k
    induction k with
    | zero =>
      intro i hk ht
      refine fx_wpL [2] 30 (pk_le (v 4) i (fun _ => ⟨Or.inr rfl, ?_, rfl⟩) (fun hc => by omega) e4)
      rw [← show i = v 4 by omega, ht]
      rfl
    | succ k ih =>
      intro i hk ht
      have i6 : i < 6 := by omega
      have c : (nI i).toNatClampNeg = i := nI_clamp (by omega)
      have bd := si i i6
      refine fx_wpL [2] 40 (pk_le (v 4) i (fun hc => by omega) (fun _ => ?_) e4)
      refine ⟨ni_in (n := i) (m := 6) i6 (by decide), ?_⟩
      refine nn_eq (v (15 + 4 * i)) 0 (fun h0 => ⟨Or.inl rfl, ?_, rfl⟩) (fun h0 => ?_) (by show hi 24 j (nI i).toNatClampNeg = _; rw [c]; exact (ea i (by omega)).2.2.2)
      · have h1 : vAll v (i + 1) = false := by
          show (vAll v i && decide (0 < v (15 + 4 * i))) = false
          rw [decide_eq_false (by omega), Bool.and_false]
        rw [show v 4 = i + 1 + k by omega, mono k (i + 1) h1]
        rfl
      · have h2 := ih (i + 1) (by omega) (by show (vAll v i && decide (0 < v (15 + 4 * i))) = true; rw [ht, decide_eq_true (by omega)]; rfl)
        rw [← nI_1] at h2
        exact h2
  exact fx_wpE [2] 9 (loop (v 4) 0 (by omega) rfl)
theorem x_gapOf (hv : PX hi hl j v) (h4 : v 4 ≤ 6) {i : Nat} (hi4 : i < v 4) (hr : v (12 + 4 * i) ≤ v 11) : fx_Ga (d + 2) 15 [cO j, vi (nI i)] (hp σ hi hl) (some (vi (nI (v 11 - v (12 + 4 * i))))) (hp σ hi hl) := by
  refine fx_meth fx_M15 [some (cO j), some (vi (nI i))] (by decide) rfl rfl (Nat.le_of_ble_eq_true rfl) (fx_wpE [] 30 ?_)
  refine ⟨_, _, x_hasRider hv h4 (nI i), ?_⟩
  rw [decide_eq_true ⟨nI_pos' (by omega), nI_lt hi4 (by omega)⟩]
  refine b01_if (fun hc => by cases hc) (fun _ => ?_)
  refine ⟨ni_in (n := i) (m := 6) (by omega) (by decide), ?_, rfl⟩
  have e : hi 1 j 4 - hi 21 j (nI i).toNatClampNeg = nI (v 11 - v (12 + 4 * i)) := by
    rw [nI_clamp (by omega), hv.2.2.2.2.1, (hv.2.2.2.2.2.2.2 i hi4).1]
    exact pk_sub hr
  exact congrArg (fun z => some (vi z)) e
end XC
