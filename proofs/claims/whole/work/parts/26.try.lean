theorem ni_add (a b : Nat) : nI a + nI b = nI (a + b) := by
  unfold nI
  exact (Int32.ofNat_add a b).symm
theorem ni_mul (a b : Nat) : nI a * nI b = nI (a * b) := by
  unfold nI
  exact (Int32.ofNat_mul a b).symm
theorem ni_cl {n : Nat} (h : n < 2 ^ 31) : (nI n).toNatClampNeg = n := nI_clamp h
theorem ni_in {n m : Nat} (h : n < m) (hm : m < 2 ^ 31) : 0 ≤ (nI n).toInt ∧ (nI n).toInt < (m : Int) := vp_in_iff.mp (vp_in_nI h hm)
theorem m_isOut {d : Nat} {σ : fxS} {hi : fxI3} {hl : fxL3} {i : Nat} (hr : i < 6) : fx_Ga (d + 1) 190 [mO, vi (nI i)] (hp σ hi hl) (some (vi (if 0 < hi 59 0 (14 + 4 * i) then 1 else 0))) (hp σ hi hl) := by
  have e : (12 + 4 * nI i + 2 : Int32) = nI (14 + 4 * i) := by
    show nI 12 + nI 4 * nI i + nI 2 = _
    rw [ni_mul, ni_add, ni_add]
    congr 1
    omega
  have e2 : (nI (14 + 4 * i)).toNatClampNeg = 14 + 4 * i := ni_cl (by omega)
  refine fx_meth (by decide) (Nat.le_of_ble_eq_true rfl) (fx_wpE 30 ?_)
  refine ⟨by show 0 ≤ (12 + 4 * nI i + 2 : Int32).toInt ∧ (12 + 4 * nI i + 2 : Int32).toInt < 83; rw [e]; exact ni_in (m := 83) (by omega) (by decide), fun hc => ?_, fun hc => ?_⟩
  · change hi 59 0 (12 + 4 * nI i + 2 : Int32).toNatClampNeg ≤ 0 at hc
    rw [e, e2] at hc
    refine ⟨Or.inl rfl, ?_, rfl⟩
    rw [if_neg (by rw [Int32.lt_iff_toInt_lt]; rw [Int32.le_iff_toInt_le] at hc; omega)]
    rfl
  · change ¬ hi 59 0 (12 + 4 * nI i + 2 : Int32).toNatClampNeg ≤ 0 at hc
    rw [e, e2] at hc
    refine ⟨Or.inr rfl, ?_, rfl⟩
    rw [if_pos (by rw [Int32.lt_iff_toInt_lt]; rw [Int32.le_iff_toInt_le] at hc; omega)]
    rfl
