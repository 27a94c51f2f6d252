/-! the reference: what it reads off its row -/
theorem ni_add (a b : Nat) : nI a + nI b = nI (a + b) := nI_add a b
theorem ni_in {n m : Nat} (h : n < m) (hm : m < 2 ^ 31) : 0 ≤ (nI n).toInt ∧ (nI n).toInt < (m : Int) := vp_in_iff.mp (vp_in_nI h hm)
theorem ni_inx {x : Int32} {n m : Nat} (e : x = nI n) (h : n < m) (hm : m < 2 ^ 31) : 0 ≤ x.toInt ∧ x.toInt < (m : Int) := by
  rw [e]
  exact ni_in h hm
theorem ni_cl {x : Int32} {n : Nat} (e : x = nI n) (h : n < 2 ^ 31) : x.toNatClampNeg = n := by
  rw [e]
  exact nI_clamp h
/-- the row 'said' -/
def PM (hi : fxI3) (v : Nat → Nat) : Prop := ∀ i, i < 83 → hi 59 0 i = nI (v i) ∧ v i < 2 ^ 30
theorem PM.at {hi : fxI3} {v : Nat → Nat} (h : PM hi v) {x : Int32} {n : Nat} (e : x = nI n) (hn : n < 83) : hi 59 0 x.toNatClampNeg = nI (v n) := by
  rw [ni_cl e (by omega)]
  exact (h n hn).1
def b01 (b : Bool) : Int32 := bif b then 1 else 0
theorem m_in {d : Nat} {h : fxH} {a b c : Int64} : fx_Ga (d + 1) 142 [vl a, vl b, vl c] h (some (vi (b01 (decide (b ≤ a ∧ a ≤ c))))) h := by
  refine fx_meth fx_M142 [some (vl a), none, some (vl b), none, some (vl c), none] (by decide) rfl rfl (Nat.le_of_ble_eq_true rfl) (fx_wpE [] 30 ?_)
  refine ⟨fun (hc : lg_cmp a b < 0) => ⟨Or.inl rfl, ?_, rfl⟩, fun (hc : ¬ lg_cmp a b < 0) => ⟨fun (hc2 : 0 < lg_cmp a c) => ⟨Or.inl rfl, ?_, rfl⟩, fun (hc2 : ¬ 0 < lg_cmp a c) => ⟨Or.inr rfl, ?_, rfl⟩⟩⟩
  · rw [lg_cmp_lt] at hc
    rw [decide_eq_false (fun z => absurd z.1 (Int64.not_le.mpr hc))]
    rfl
  · rw [lg_cmp_gt] at hc2
    rw [decide_eq_false (fun z => absurd z.2 (Int64.not_le.mpr hc2))]
    rfl
  · rw [lg_cmp_lt] at hc
    rw [lg_cmp_gt] at hc2
    rw [decide_eq_true ⟨Int64.not_lt.mp hc, Int64.not_lt.mp hc2⟩]
    rfl
theorem m_isOf {d : Nat} {h : fxH} {a b : Int32} : fx_Ga (d + 1) 143 [vi a, vi b] h (some (vi (b01 (decide ((a >>> (b &&& 31)) &&& 1 = 1))))) h := by
  refine fx_meth fx_M143 [some (vi a), some (vi b)] (by decide) rfl rfl (Nat.le_of_ble_eq_true rfl) (fx_wpE [] 30 ?_)
  refine ⟨fun (hc : ¬ (a >>> (b &&& 31)) &&& 1 = 1) => ⟨Or.inl rfl, ?_, rfl⟩, fun (hc : ¬ ¬ (a >>> (b &&& 31)) &&& 1 = 1) => ⟨Or.inr rfl, ?_, rfl⟩⟩
  · rw [decide_eq_false hc]
    rfl
  · rw [decide_eq_true (Classical.not_not.mp hc)]
    rfl
section MG
variable {d : Nat} {σ : fxS} {hi : fxI3} {hl : fxL3} {v : Nat → Nat}
theorem m_isHunt (hv : PM hi v) : fx_Ga (d + 1) 186 [mO] (hp σ hi hl) (some (vi (b01 (decide (v 0 = 1))))) (hp σ hi hl) := by
  refine fx_meth fx_M186 [some mO] (by decide) rfl rfl (Nat.le_of_ble_eq_true rfl) (fx_wpE [] 30 ?_)
  obtain ⟨e, hb⟩ := hv 0 (by decide)
  refine ⟨ni_inx (n := 0) (m := 83) rfl (by decide) (by decide), fun (hc : ¬ hi 59 0 0 = 1) => ⟨Or.inl rfl, ?_, rfl⟩, fun (hc : ¬ ¬ hi 59 0 0 = 1) => ⟨Or.inr rfl, ?_, rfl⟩⟩
  · rw [decide_eq_false (fun z => hc (by rw [e, z]; rfl))]
    rfl
  · have h1 : nI (v 0) = nI 1 := by
      rw [← e]
      exact Classical.not_not.mp hc
    rw [decide_eq_true ((nI_eq (by omega) (by decide)).mp h1)]
    rfl
/-- an index that is a number of the row's length -/
theorem ni_ix (x : Int32) {n : Nat} (hn : n < 2 ^ 30) : (∃ i, i < n ∧ x = nI i) ∨ ¬ (0 ≤ x ∧ x < nI n) := by
  rcases pk_ix x (n := n) (by omega) with h | h | ⟨j, h1, h2⟩
  · exact Or.inr (fun z => absurd z.1 (Int32.not_le.mpr h))
  · exact Or.inr (fun z => absurd z.2 (Int32.not_lt.mpr h))
  · exact Or.inl ⟨j, h1, h2⟩
theorem m_isRider (hv : PM hi v) (r : Int32) : fx_Ga (d + 1) 187 [mO, vi r] (hp σ hi hl) (some (vi (b01 (decide (0 ≤ r ∧ r < nI (v 4)))))) (hp σ hi hl) := by
  refine fx_meth fx_M187 [some mO, some (vi r)] (by decide) rfl rfl (Nat.le_of_ble_eq_true rfl) (fx_wpE [] 30 ?_)
  obtain ⟨e, hb⟩ := hv 4 (by decide)
  refine ⟨fun (hc : r < 0) => ⟨Or.inl rfl, ?_, rfl⟩, fun (hc : ¬ r < 0) => ⟨ni_inx (n := 4) (m := 83) rfl (by decide) (by decide), fun (hc2 : hi 59 0 4 ≤ r) => ⟨Or.inl rfl, ?_, rfl⟩, fun (hc2 : ¬ hi 59 0 4 ≤ r) => ⟨Or.inr rfl, ?_, rfl⟩⟩⟩
  · rw [decide_eq_false (fun z => absurd z.1 (Int32.not_le.mpr hc))]
    rfl
  · rw [e] at hc2
    rw [decide_eq_false (fun z => absurd z.2 (Int32.not_lt.mpr hc2))]
    rfl
  · rw [e] at hc2
    rw [decide_eq_true ⟨Int32.not_lt.mp hc, Int32.not_le.mp hc2⟩]
    rfl
theorem ri_0 (i : Nat) : (12 + 4 * nI i : Int32) = nI (12 + 4 * i) := by
  show nI 12 + nI 4 * nI i = _
  rw [pk_mul, nI_add]
theorem ri_1 (i : Nat) : (12 + 4 * nI i + 1 : Int32) = nI (13 + 4 * i) := by
  rw [ri_0]
  show nI _ + nI 1 = _
  rw [nI_add]
  congr 1
  omega
theorem ri_2 (i : Nat) : (12 + 4 * nI i + 2 : Int32) = nI (14 + 4 * i) := by
  rw [ri_0]
  show nI _ + nI 2 = _
  rw [nI_add]
  congr 1
  omega
theorem ri_3 (i : Nat) : (12 + 4 * nI i + 3 : Int32) = nI (15 + 4 * i) := by
  rw [ri_0]
  show nI _ + nI 3 = _
  rw [nI_add]
  congr 1
  omega
theorem m_runOf (hv : PM hi v) {i : Nat} (h6 : i < 6) : fx_Ga (d + 1) 188 [mO, vi (nI i)] (hp σ hi hl) (some (vi (nI (v (12 + 4 * i))))) (hp σ hi hl) := by
  refine fx_meth fx_M188 [some mO, some (vi (nI i))] (by decide) rfl rfl (Nat.le_of_ble_eq_true rfl) (fx_wpE [] 30 ?_)
  refine ⟨ni_inx (n := 12 + 4 * i) (m := 83) (ri_0 i) (by omega) (by decide), ?_, rfl⟩
  exact congrArg (fun z => some (vi z)) (hv.at (ri_0 i) (by omega))
theorem m_paceOf (hv : PM hi v) {i : Nat} (h6 : i < 6) : fx_Ga (d + 1) 189 [mO, vi (nI i)] (hp σ hi hl) (some (vi (nI (v (13 + 4 * i))))) (hp σ hi hl) := by
  refine fx_meth fx_M189 [some mO, some (vi (nI i))] (by decide) rfl rfl (Nat.le_of_ble_eq_true rfl) (fx_wpE [] 30 ?_)
  refine ⟨ni_inx (n := 13 + 4 * i) (m := 83) (ri_1 i) (by omega) (by decide), ?_, rfl⟩
  exact congrArg (fun z => some (vi z)) (hv.at (ri_1 i) (by omega))
theorem m_wasOf (hv : PM hi v) {i : Nat} (h6 : i < 6) : fx_Ga (d + 1) 191 [mO, vi (nI i)] (hp σ hi hl) (some (vi (nI (v (15 + 4 * i))))) (hp σ hi hl) := by
  refine fx_meth fx_M191 [some mO, some (vi (nI i))] (by decide) rfl rfl (Nat.le_of_ble_eq_true rfl) (fx_wpE [] 30 ?_)
  refine ⟨ni_inx (n := 15 + 4 * i) (m := 83) (ri_3 i) (by omega) (by decide), ?_, rfl⟩
  exact congrArg (fun z => some (vi z)) (hv.at (ri_3 i) (by omega))
def vOut (v : Nat → Nat) (i : Nat) : Bool := decide (0 < v (14 + 4 * i))
theorem m_isOut (hv : PM hi v) {i : Nat} (h6 : i < 6) : fx_Ga (d + 1) 190 [mO, vi (nI i)] (hp σ hi hl) (some (vi (b01 (vOut v i)))) (hp σ hi hl) := by
  refine fx_meth fx_M190 [some mO, some (vi (nI i))] (by decide) rfl rfl (Nat.le_of_ble_eq_true rfl) (fx_wpE [] 30 ?_)
  have e := hv.at (ri_2 i) (by omega)
  have hb := (hv (14 + 4 * i) (by omega)).2
  refine ⟨ni_inx (n := 14 + 4 * i) (m := 83) (ri_2 i) (by omega) (by decide), ?_⟩
  refine pk_le (v (14 + 4 * i)) 0 (fun hc => ⟨Or.inl rfl, ?_, rfl⟩) (fun hc => ⟨Or.inr rfl, ?_, rfl⟩) e
  · unfold vOut
    rw [decide_eq_false (by omega)]
    rfl
  · unfold vOut
    rw [decide_eq_true hc]
    rfl
/-- the sum of how often, of the first n -/
def vWas (v : Nat → Nat) : Nat → Nat
  | 0 => 0
  | n + 1 => vWas v n + v (15 + 4 * n)
theorem m_wasAll (hv : PM hi v) (h4 : v 4 ≤ 6) : fx_Ga (d + 2) 193 [mO] (hp σ hi hl) (some (vi (nI (vWas v (v 4))))) (hp σ hi hl) := by
  refine fx_meth fx_M193 [some mO, none, none] (by decide) rfl rfl (Nat.le_of_ble_eq_true rfl) ?_
  have e4 := hv 4 (by decide)
  have loop : ∀ k i, i + k = v 4 → fx_E (fx_Ga (d + 1)) fx_M193 (4, [some mO, some (vi (nI (vWas v i))), some (vi (nI i))], [], hp σ hi hl, 0, 0) (fun r2 h2 => r2 = some (vi (nI (vWas v (v 4)))) ∧ h2 = hp σ hi hl) := by
    intro k
    induction k with
    | zero =>
      intro i hk
      refine fx_wpL [4] 30 ?_
      refine ⟨ni_inx (n := 4) (m := 83) rfl (by decide) (by decide), ?_⟩
      refine pk_le (v 4) i (fun _ => ?_) (fun hc => by omega) e4.1
      refine ⟨?_, rfl⟩
      rw [show i = v 4 by omega]
    | succ k ih =>
      intro i hk
      refine fx_wpL [4] 30 ?_
      refine ⟨ni_inx (n := 4) (m := 83) rfl (by decide) (by decide), ?_⟩
      refine pk_le (v 4) i (fun hc => by omega) (fun _ => ?_) e4.1
      refine ⟨_, _, m_wasOf hv (show i < 6 by omega), ?_⟩
      have h2 := ih (i + 1) (by omega)
      rw [show vWas v (i + 1) = vWas v i + v (15 + 4 * i) from rfl, ← nI_add, ← nI_1] at h2
      exact h2
  exact fx_wpE [4] 9 (loop (v 4) 0 (by omega))
end MG
