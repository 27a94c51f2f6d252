/-! the class: bits and the next gate -/
def lsr (x : Int64) (k : Int32) : Int64 := (x.toUInt64 >>> (k.toInt64.toUInt64 &&& Int64.toUInt64 63)).toInt64
def lbc (x : Int64) : Int32 :=
  let a := x - (lsr x 1 &&& 6148914691236517205)
  let b := (a &&& 3689348814741910323) + (lsr a 2 &&& 3689348814741910323)
  let c := (b + lsr b 4) &&& 1085102592571150095
  let e := c + lsr c 8
  let f := e + lsr e 16
  let g := f + lsr f 32
  g.toInt32 &&& 127
set_option maxRecDepth 100000 in
theorem j_lbc {d : Nat} {h : fxH} {x : Int64} : fx_Ga (d + 1) 252 [vl x] h (some (vi (lbc x))) h := by
  refine fx_meth fx_M252 [some (vl x), none] (by decide) rfl rfl (Nat.le_of_ble_eq_true rfl) (fx_wpE [] 60 ?_)
  exact ⟨rfl, rfl⟩
theorem lbc_low : ∀ k, k < 61 → lbc (lN (2 ^ k - 1)) = nI k := by decide +kernel
def isr (x : Int32) (k : Int32) : Int32 := (x.toUInt32 >>> (k.toUInt32 &&& Int32.toUInt32 31)).toInt32
def ibc (x : Int32) : Int32 :=
  let a := x - (isr x 1 &&& 1431655765)
  let b := (a &&& 858993459) + (isr a 2 &&& 858993459)
  let c := (b + isr b 4) &&& 252645135
  let e := c + isr c 8
  let f := e + isr e 16
  f &&& 63
theorem j_ibc {d : Nat} {h : fxH} {x : Int32} : fx_Ga (d + 1) 251 [vi x] h (some (vi (ibc x))) h := by
  refine fx_meth fx_M251 [some (vi x)] (by decide) rfl rfl (Nat.le_of_ble_eq_true rfl) (fx_wpE [] 60 ?_)
  exact ⟨rfl, rfl⟩
theorem ibc_64 : ∀ a, a < 64 → ibc (nI a) = nI (vPc a) := by decide +kernel
def vLowF : Nat → Nat → Nat
  | 0, _ => 0
  | k + 1, n => if n % 2 = 1 then 0 else 1 + vLowF k (n / 2)
def vLow (n : Nat) : Nat := vLowF 64 n
theorem and_ee (a b : Nat) : (2 * a) &&& (2 * b) = 2 * (a &&& b) := by
  apply Nat.eq_of_testBit_eq
  intro i
  cases i with
  | zero => simp [Nat.testBit_zero, Nat.testBit_and]
  | succ i =>
    rw [Nat.testBit_and, Nat.testBit_succ, Nat.testBit_succ, Nat.testBit_succ, show 2 * a / 2 = a by omega, show 2 * b / 2 = b by omega, show 2 * (a &&& b) / 2 = a &&& b by omega, Nat.testBit_and]
theorem and_oo (a b : Nat) : (2 * a + 1) &&& (2 * b + 1) = 2 * (a &&& b) + 1 := by
  apply Nat.eq_of_testBit_eq
  intro i
  cases i with
  | zero => simp [Nat.testBit_zero, Nat.testBit_and]
  | succ i =>
    rw [Nat.testBit_and, Nat.testBit_succ, Nat.testBit_succ, Nat.testBit_succ, show (2 * a + 1) / 2 = a by omega, show (2 * b + 1) / 2 = b by omega, show (2 * (a &&& b) + 1) / 2 = a &&& b by omega, Nat.testBit_and]
theorem and_no {m K : Nat} (h : m < 2 ^ K) : m &&& (2 ^ K - 1 - m) = 0 := by
  apply Nat.eq_of_testBit_eq
  intro i
  rw [Nat.testBit_and, show 2 ^ K - 1 - m = 2 ^ K - (m + 1) by omega, Nat.testBit_two_pow_sub_succ h]
  cases m.testBit i <;> simp
theorem low_and : ∀ (K n : Nat), 0 < n → n < 2 ^ K → n &&& (2 ^ K - n) = 2 ^ vLowF K n := by
  intro K
  induction K with
  | zero => intro n h1 h2; omega
  | succ K ih =>
    intro n h1 h2
    rw [Nat.pow_succ] at h2 ⊢
    rcases Nat.mod_two_eq_zero_or_one n with h | h
    · obtain ⟨m, rfl⟩ : ∃ m, n = 2 * m := ⟨n / 2, by omega⟩
      have hm := ih m (by omega) (by omega)
      rw [show 2 ^ K * 2 - 2 * m = 2 * (2 ^ K - m) by omega, and_ee, hm, vLowF, if_neg (by omega), show 2 * m / 2 = m by omega, Nat.add_comm 1, Nat.pow_succ, Nat.mul_comm]
    · obtain ⟨m, rfl⟩ : ∃ m, n = 2 * m + 1 := ⟨n / 2, by omega⟩
      rw [show 2 ^ K * 2 - (2 * m + 1) = 2 * (2 ^ K - 1 - m) + 1 by omega, and_oo, and_no (by omega), vLowF, if_pos (by omega)]
theorem low_bit : ∀ (K n : Nat), 0 < n → n < 2 ^ K → n.testBit (vLowF K n) = true ∧ ∀ i, i < vLowF K n → n.testBit i = false := by
  intro K
  induction K with
  | zero => intro n h1 h2; omega
  | succ K ih =>
    intro n h1 h2
    rw [Nat.pow_succ] at h2
    unfold vLowF
    split
    · rename_i h
      refine ⟨?_, fun i hi => absurd hi (by omega)⟩
      rw [Nat.testBit_zero]
      simpa using h
    · rename_i h
      obtain ⟨h3, h4⟩ := ih (n / 2) (by omega) (by omega)
      refine ⟨by rw [Nat.add_comm, Nat.testBit_succ]; exact h3, fun i hi => ?_⟩
      cases i with
      | zero =>
        rw [Nat.testBit_zero]
        simpa using h
      | succ i =>
        rw [Nat.testBit_succ]
        exact h4 i (by omega)
theorem low_lt {n K : Nat} (h0 : 0 < n) (h : n < 2 ^ K) (hK : K ≤ 64) : vLow n < K := by
  obtain ⟨h1, -⟩ := low_bit 64 n h0 (Nat.lt_of_lt_of_le h (Nat.pow_le_pow_right (by decide) hK))
  rcases Nat.lt_or_ge (vLow n) K with q | q
  · exact q
  · rw [show vLowF 64 n = vLow n from rfl, Nat.testBit_lt_two_pow (Nat.lt_of_lt_of_le h (Nat.pow_le_pow_right (by decide) q))] at h1
    cases h1
theorem l_neg {n : Nat} (h : n < 2 ^ 64) (h0 : 0 < n) : -(lN n) = lN (2 ^ 64 - n) := by
  apply wb_inj
  rw [Int64.toBitVec_neg, wb_tb, wb_tb]
  apply BitVec.eq_of_toNat_eq
  rw [BitVec.toNat_neg, BitVec.toNat_ofNat, BitVec.toNat_ofNat, Nat.mod_eq_of_lt h]
theorem x_lowestBit {d : Nat} {h : fxH} {n : Nat} (h0 : 0 < n) (hn : n < 2 ^ 60) : fx_Ga (d + 2) 14 [vl (lN n)] h (some (vi (nI (vLow n)))) h := by
  refine fx_meth fx_M14 [some (vl (lN n)), none] (by decide) rfl rfl (Nat.le_of_ble_eq_true rfl) (fx_wpE [] 60 ?_)
  refine ⟨_, _, j_lbc, ?_, rfl⟩
  have e : (lN n &&& -(lN n)) - 1 = lN (2 ^ vLow n - 1) := by
    rw [l_neg (by omega) h0, wb_and (by omega) (by omega), low_and 64 n h0 (by omega)]
    exact lN_sub (b := 1) (Nat.one_le_two_pow)
  exact congrArg (fun z => some (vi z)) ((congrArg lbc e).trans (lbc_low _ (by have := low_lt h0 hn (by decide); omega)))
theorem toF_eq (v : Nat → Nat) : ∀ (k d e : Nat), d ≤ e → e < d + k → vGate v ((v 11 + e) % v 1) = true → (∀ x, d ≤ x → x < e → vGate v ((v 11 + x) % v 1) = false) → vToF v k d = e := by
  intro k
  induction k with
  | zero => intro d e h1 h2; omega
  | succ k ih =>
    intro d e h1 h2 h3 h4
    unfold vToF
    by_cases z : d = e
    · subst z
      rw [if_pos h3]
    · rw [if_neg (by rw [h4 d (Nat.le_refl _) (by omega)]; decide)]
      exact ih (d + 1) e (by omega) (by omega) h3 (fun x a b => h4 x (by omega) b)
theorem toF_no (v : Nat → Nat) : ∀ (k d : Nat), (∀ x, d ≤ x → x < d + k → vGate v ((v 11 + x) % v 1) = false) → vToF v k d = 99 := by
  intro k
  induction k with
  | zero => intro d _; rfl
  | succ k ih =>
    intro d h
    unfold vToF
    rw [if_neg (by rw [h d (Nat.le_refl _) (by omega)]; decide)]
    exact ih (d + 1) (fun x a b => h x (by omega) (by omega))
theorem mod_low {F r x : Nat} (h : F % r + x < r) : (F + x) % r = F % r + x := by
  rw [Nat.add_mod, Nat.mod_eq_of_lt (show x < r by omega), Nat.mod_eq_of_lt h]
theorem mod_hi {F r x : Nat} (hr : 0 < r) (h1 : r ≤ F % r + x) (h2 : F % r + x < 2 * r) : (F + x) % r = F % r + x - r := by
  have e : (F + x) % r = (F % r + x) % r := by rw [Nat.add_mod, Nat.add_mod (F % r) x, Nat.mod_mod]
  rw [e, Nat.mod_eq_sub_mod h1, Nat.mod_eq_of_lt (by omega)]
section XG
variable {d : Nat} {σ : fxS} {hi : fxI3} {hl : fxL3} {v : Nat → Nat} {j : Nat}
theorem x_toNextGate (hv : PX hi hl j v) (hs : SV v) (hg : GV v) : fx_Ga (d + 3) 13 [cO j] (hp σ hi hl) (some (vi (nI (vTo v)))) (hp σ hi hl) := by
  refine fx_meth fx_M13 [some (cO j), none, none, none] (by decide) rfl rfl (Nat.le_of_ble_eq_true rfl) (fx_wpE [] 60 ?_)
  obtain ⟨s4, s1, s2, s3, s11, s10, si⟩ := hs
  have hG := vG_lt hg
  have eG := hv.2.2.2.2.2.2.1
  have e0 := hv.1
  have e4 := hv.2.2.2.2.1
  have nog : vG v = 0 → vTo v = 99 := by
    intro z
    refine toF_no v _ _ (fun x _ _ => ?_)
    rcases Nat.eq_zero_or_pos (v 1) with q | q
    · exact absurd q (by omega)
    · have : (v 11 + x) % v 1 < 60 := Nat.lt_of_lt_of_le (Nat.mod_lt _ q) s1
      rw [← vG_bit hg this, z, Nat.zero_testBit]
  refine ⟨fun (hc : lg_cmp (hl 1 j 6) 0 = 0) => ⟨?_, rfl⟩, fun (hc : ¬ lg_cmp (hl 1 j 6) 0 = 0) => ?_⟩
  · rw [lg_cmp_eq, eG] at hc
    rw [nog ((pk_lEQ (b := 0) (by omega) (by decide)).mp hc)]
    rfl
  · rw [lg_cmp_eq, eG] at hc
    have hG0 : 0 < vG v := Nat.pos_of_ne_zero (fun z => hc (by rw [z]; rfl))
    refine pk_lt 0 (v 1) (fun h1 => ?_) (fun h1 => ⟨?_, rfl⟩) rfl e0
    · have hz : ¬ hi 1 j 0 = 0 := by rw [e0]; exact nI_ne0 h1 (by omega)
      have er : hi 1 j 4 - hi 1 j 4 / hi 1 j 0 * hi 1 j 0 = nI (v 11 % v 1) := by rw [e4, e0]; exact pk_rem (by omega) h1 (by omega)
      have hf0 : v 11 % v 1 < v 1 := Nat.mod_lt _ h1
      generalize hff : v 11 % v 1 = f0 at *
      have esh : ((hl 1 j 6).toUInt64 >>> ((hi 1 j 4 - hi 1 j 4 / hi 1 j 0 * hi 1 j 0 + 1).toInt64.toUInt64 &&& Int64.toUInt64 63)).toInt64 = lN (vG v / 2 ^ (f0 + 1)) := by
        rw [er, eG, nI_1]
        exact wb_shr (by omega) (by omega)
      have hA : vG v / 2 ^ (f0 + 1) < 2 ^ 60 := Nat.lt_of_le_of_lt (Nat.div_le_self _ _) hG
      have bitA : ∀ i, (vG v / 2 ^ (f0 + 1)).testBit i = (vG v).testBit (f0 + 1 + i) := fun i => by rw [Nat.testBit_div_two_pow, Nat.add_comm i]
      have gof : ∀ f, f < 60 → (vG v).testBit f = vGate v f := fun f hf => vG_bit hg hf
      have big : ∀ f, 60 ≤ f → (vG v).testBit f = false := fun f hf => Nat.testBit_lt_two_pow (Nat.lt_of_lt_of_le hG (Nat.pow_le_pow_right (by decide) hf))
      refine ⟨hz, ?_⟩
      refine ⟨fun (hc2 : lg_cmp (((hl 1 j 6).toUInt64 >>> ((hi 1 j 4 - hi 1 j 4 / hi 1 j 0 * hi 1 j 0 + 1).toInt64.toUInt64 &&& Int64.toUInt64 63)).toInt64) 0 = 0) => ?_, fun (hc2 : ¬ lg_cmp (((hl 1 j 6).toUInt64 >>> ((hi 1 j 4 - hi 1 j 4 / hi 1 j 0 * hi 1 j 0 + 1).toInt64.toUInt64 &&& Int64.toUInt64 63)).toInt64) 0 = 0) => ?_⟩
      · rw [lg_cmp_eq, esh] at hc2
        have hA0 := (pk_lEQ (b := 0) (by omega) (by decide)).mp hc2
        have hlb := x_lowestBit (d := d) (h := hp σ hi hl) hG0 hG
        rw [← eG] at hlb
        refine ⟨_, _, hlb, ?_, rfl⟩
        obtain ⟨l1, l2⟩ := low_bit 64 (vG v) hG0 (by omega)
        rw [show vLowF 64 (vG v) = vLow (vG v) from rfl] at l1 l2
        have hlow : vLow (vG v) ≤ f0 := by
          rcases Nat.lt_or_ge f0 (vLow (vG v)) with q | q
          · have := bitA (vLow (vG v) - (f0 + 1))
            rw [hA0, Nat.zero_testBit, show f0 + 1 + (vLow (vG v) - (f0 + 1)) = vLow (vG v) by omega, l1] at this
            cases this
          · exact q
        have key : vTo v = v 1 - f0 + vLow (vG v) := by
          refine toF_eq v _ _ _ (by omega) (by omega) ?_ (fun x hx1 hx2 => ?_)
          · rw [mod_hi h1 (by omega) (by omega), hff, show f0 + (v 1 - f0 + vLow (vG v)) - v 1 = vLow (vG v) by omega, ← gof _ (by omega)]
            exact l1
          · rcases Nat.lt_or_ge (f0 + x) (v 1) with q | q
            · rw [mod_low (by omega), hff, ← gof _ (by omega)]
              have := bitA (x - 1)
              rw [hA0, Nat.zero_testBit, show f0 + 1 + (x - 1) = f0 + x by omega] at this
              exact this.symm
            · rw [mod_hi h1 (by omega) (by omega), hff, ← gof _ (by omega)]
              exact l2 _ (by omega)
        have e : hi 1 j 0 - (hi 1 j 4 - hi 1 j 4 / hi 1 j 0 * hi 1 j 0) + nI (vLow (vG v)) = nI (vTo v) := by
          rw [er, e0, key, pk_sub (by omega), nI_add]
        exact congrArg (fun z => some (vi z)) e
      · rw [lg_cmp_eq, esh] at hc2
        have hA0 : 0 < vG v / 2 ^ (f0 + 1) := Nat.pos_of_ne_zero (fun z => hc2 (by rw [z]; rfl))
        have hlb := x_lowestBit (d := d) (h := hp σ hi hl) hA0 hA
        rw [← esh] at hlb
        refine ⟨_, _, hlb, ?_, rfl⟩
        obtain ⟨l1, l2⟩ := low_bit 64 (vG v / 2 ^ (f0 + 1)) hA0 (by omega)
        rw [show vLowF 64 (vG v / 2 ^ (f0 + 1)) = vLow (vG v / 2 ^ (f0 + 1)) from rfl] at l1 l2
        generalize vLow (vG v / 2 ^ (f0 + 1)) = q0 at *
        rw [bitA] at l1
        have q60 : f0 + 1 + q0 < 60 := by
          rcases Nat.lt_or_ge (f0 + 1 + q0) 60 with q | q
          · exact q
          · rw [big _ q] at l1
            cases l1
        have qr : f0 + 1 + q0 < v 1 := hg.2.2 _ q60 (by rw [← gof _ q60]; exact l1)
        have key : vTo v = 1 + q0 := by
          refine toF_eq v _ _ _ (by omega) (by omega) ?_ (fun x hx1 hx2 => ?_)
          · rw [mod_low (by omega), hff, show f0 + (1 + q0) = f0 + 1 + q0 by omega, ← gof _ q60]
            exact l1
          · rw [mod_low (by omega), hff, ← gof _ (by omega)]
            have := l2 (x - 1) (by omega)
            rw [bitA, show f0 + 1 + (x - 1) = f0 + x by omega] at this
            exact this
        rw [key]
        exact congrArg (fun z => some (vi z)) (nI_add 1 q0)
    · have : v 1 = 0 := by omega
      unfold vTo
      rw [this]
      rfl
end XG
