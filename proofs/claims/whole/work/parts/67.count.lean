/-! bits of a long counted; count -/
theorem sp_and {x y p q : Nat} (hx : x < 256) (hp : p < 256) : (x + 256 * y) &&& (p + 256 * q) = (x &&& p) + 256 * (y &&& q) := by
  apply Nat.eq_of_testBit_eq
  intro i
  have hx : x < 2 ^ 8 := hx
  have hp : p < 2 ^ 8 := hp
  have hxp : x &&& p < 2 ^ 8 := Nat.and_lt_two_pow _ hp
  rw [Nat.testBit_and, show x + 256 * y = 2 ^ 8 * y + x by omega, show p + 256 * q = 2 ^ 8 * q + p by omega, show (x &&& p) + 256 * (y &&& q) = 2 ^ 8 * (y &&& q) + (x &&& p) by omega, Nat.testBit_two_pow_mul_add _ hx, Nat.testBit_two_pow_mul_add _ hp, Nat.testBit_two_pow_mul_add _ hxp]
  split
  · rw [Nat.testBit_and]
  · rw [Nat.testBit_and]
def m5 : Nat → Nat
  | 0 => 0
  | k + 1 => 85 + 256 * m5 k
def m3 : Nat → Nat
  | 0 => 0
  | k + 1 => 51 + 256 * m3 k
def mf : Nat → Nat
  | 0 => 0
  | k + 1 => 15 + 256 * mf k
def spA (k n : Nat) : Nat := n - ((n / 2) &&& m5 k)
def spB (k n : Nat) : Nat := (spA k n &&& m3 k) + ((spA k n / 4) &&& m3 k)
def spC (k n : Nat) : Nat := (spB k n + spB k n / 16) &&& mf k
def b8 (b : Nat) : Nat := ((b - ((b / 2) &&& 85)) &&& 51) + (((b - ((b / 2) &&& 85)) / 4) &&& 51)
theorem sp_1 : ∀ b, b < 256 → ∀ t, t < 2 → (b / 2 + 128 * t) &&& 85 = (b / 2) &&& 85 := by decide +kernel
theorem sp_2 : ∀ a, a < 256 → ∀ t, t < 4 → (a / 4 + 64 * t) &&& 51 = (a / 4) &&& 51 := by decide +kernel
theorem sp_3 : ∀ b, b < 256 → b8 b % 16 ≤ 6 ∧ b8 b ≤ 102 := by decide +kernel
theorem sp_4 : ∀ b, b < 256 → ∀ t, t < 7 → (b8 b + b8 b / 16 + 16 * t) &&& 15 = vPcF 8 b := by decide +kernel
theorem spA_cons (k b r : Nat) (hb : b < 256) : spA (k + 1) (b + 256 * r) = (b - ((b / 2) &&& 85)) + 256 * spA k r := by
  have e1 : (b + 256 * r) / 2 = (b / 2 + 128 * (r % 2)) + 256 * (r / 2) := by omega
  unfold spA
  rw [e1, show m5 (k + 1) = 85 + 256 * m5 k from rfl, sp_and (by omega) (by decide), sp_1 b hb _ (by omega)]
  have l1 : (b / 2 &&& 85) ≤ b / 2 := Nat.and_le_left
  have l2 : (r / 2 &&& m5 k) ≤ r / 2 := Nat.and_le_left
  omega
theorem spB_cons (k b r : Nat) (hb : b < 256) : spB (k + 1) (b + 256 * r) = b8 b + 256 * spB k r := by
  unfold spB b8
  rw [spA_cons k b r hb]
  generalize hA : b - ((b / 2) &&& 85) = A
  have hA2 : A < 256 := by omega
  generalize spA k r = R
  have e3 : (A + 256 * R) / 4 = (A / 4 + 64 * (R % 4)) + 256 * (R / 4) := by omega
  rw [e3, show m3 (k + 1) = 51 + 256 * m3 k from rfl, sp_and hA2 (by decide), sp_and (by omega) (by decide), sp_2 A hA2 _ (by omega)]
  omega
theorem spB_m (k r : Nat) : spB k r % 16 ≤ 6 := by
  cases k with
  | zero =>
    show ((_ &&& 0) + (_ &&& 0)) % 16 ≤ 6
    rw [Nat.and_zero, Nat.and_zero]
    decide
  | succ k =>
    rw [show r = r % 256 + 256 * (r / 256) by omega, spB_cons k _ _ (Nat.mod_lt _ (by decide))]
    have := sp_3 (r % 256) (Nat.mod_lt _ (by decide))
    omega
theorem spC_cons (k b r : Nat) (hb : b < 256) : spC (k + 1) (b + 256 * r) = vPcF 8 b + 256 * spC k r := by
  unfold spC
  rw [spB_cons k b r hb]
  have hX := sp_3 b hb
  have hY := spB_m k r
  rw [← sp_4 b hb (spB k r % 16) (by omega)]
  generalize b8 b = X at hX ⊢
  generalize spB k r = Y at hY ⊢
  have e : X + 256 * Y + (X + 256 * Y) / 16 = (X + X / 16 + 16 * (Y % 16)) + 256 * (Y + Y / 16) := by omega
  rw [e, show mf (k + 1) = 15 + 256 * mf k from rfl, sp_and (by omega) (by decide)]
def spS : Nat → Nat → Nat
  | 0, _ => 0
  | k + 1, n => vPcF 8 (n % 256) + 256 * spS k (n / 256)
theorem spC_eq : ∀ k n, spC k n = spS k n
  | 0, n => Nat.and_zero _
  | k + 1, n => by
    have h := spC_cons k (n % 256) (n / 256) (Nat.mod_lt _ (by decide))
    rw [show n % 256 + 256 * (n / 256) = n by omega] at h
    rw [h, spC_eq k (n / 256)]
    rfl
theorem pc_8 (k n : Nat) : vPcF (k + 8) n = vPcF 8 (n % 256) + vPcF k (n / 256) := by
  simp only [vPcF]
  rw [show n / 2 / 2 / 2 / 2 / 2 / 2 / 2 / 2 = n / 256 by omega]
  omega
theorem spS_sum (n : Nat) : ∃ s, spS 8 n / 256 + spS 8 n = s ∧ (s + s / 65536 + (s + s / 65536) / 4294967296) % 128 = vPcF 64 n := by
  refine ⟨_, rfl, ?_⟩
  have e : vPcF 64 n = vPcF 8 (n % 256) + (vPcF 8 (n / 256 % 256) + (vPcF 8 (n / 256 / 256 % 256) + (vPcF 8 (n / 256 / 256 / 256 % 256) + (vPcF 8 (n / 256 / 256 / 256 / 256 % 256) + (vPcF 8 (n / 256 / 256 / 256 / 256 / 256 % 256) + (vPcF 8 (n / 256 / 256 / 256 / 256 / 256 / 256 % 256) + (vPcF 8 (n / 256 / 256 / 256 / 256 / 256 / 256 / 256 % 256) + 0))))))) := by
    have a56 : vPcF 64 (n) = vPcF 8 (n % 256) + vPcF 56 (n / 256) := pc_8 56 (n)
    have a48 : vPcF 56 (n / 256) = vPcF 8 (n / 256 % 256) + vPcF 48 (n / 256 / 256) := pc_8 48 (n / 256)
    have a40 : vPcF 48 (n / 256 / 256) = vPcF 8 (n / 256 / 256 % 256) + vPcF 40 (n / 256 / 256 / 256) := pc_8 40 (n / 256 / 256)
    have a32 : vPcF 40 (n / 256 / 256 / 256) = vPcF 8 (n / 256 / 256 / 256 % 256) + vPcF 32 (n / 256 / 256 / 256 / 256) := pc_8 32 (n / 256 / 256 / 256)
    have a24 : vPcF 32 (n / 256 / 256 / 256 / 256) = vPcF 8 (n / 256 / 256 / 256 / 256 % 256) + vPcF 24 (n / 256 / 256 / 256 / 256 / 256) := pc_8 24 (n / 256 / 256 / 256 / 256)
    have a16 : vPcF 24 (n / 256 / 256 / 256 / 256 / 256) = vPcF 8 (n / 256 / 256 / 256 / 256 / 256 % 256) + vPcF 16 (n / 256 / 256 / 256 / 256 / 256 / 256) := pc_8 16 (n / 256 / 256 / 256 / 256 / 256)
    have a8 : vPcF 16 (n / 256 / 256 / 256 / 256 / 256 / 256) = vPcF 8 (n / 256 / 256 / 256 / 256 / 256 / 256 % 256) + vPcF 8 (n / 256 / 256 / 256 / 256 / 256 / 256 / 256) := pc_8 8 (n / 256 / 256 / 256 / 256 / 256 / 256)
    have a0 : vPcF 8 (n / 256 / 256 / 256 / 256 / 256 / 256 / 256) = vPcF 8 (n / 256 / 256 / 256 / 256 / 256 / 256 / 256 % 256) + vPcF 0 (n / 256 / 256 / 256 / 256 / 256 / 256 / 256 / 256) := pc_8 0 (n / 256 / 256 / 256 / 256 / 256 / 256 / 256)
    rw [a56, a48, a40, a32, a24, a16, a8, a0]
    rfl
  rw [e]
  simp only [spS]
  have p : ∀ b, vPcF 8 b ≤ 8 := fun b => vPcF_le 8 b
  generalize h0 : vPcF 8 (n % 256) = p0
  generalize h1 : vPcF 8 (n / 256 % 256) = p1
  generalize h2 : vPcF 8 (n / 256 / 256 % 256) = p2
  generalize h3 : vPcF 8 (n / 256 / 256 / 256 % 256) = p3
  generalize h4 : vPcF 8 (n / 256 / 256 / 256 / 256 % 256) = p4
  generalize h5 : vPcF 8 (n / 256 / 256 / 256 / 256 / 256 % 256) = p5
  generalize h6 : vPcF 8 (n / 256 / 256 / 256 / 256 / 256 / 256 % 256) = p6
  generalize h7 : vPcF 8 (n / 256 / 256 / 256 / 256 / 256 / 256 / 256 % 256) = p7
  have q0 : p0 ≤ 8 := h0 ▸ p _
  have q1 : p1 ≤ 8 := h1 ▸ p _
  have q2 : p2 ≤ 8 := h2 ▸ p _
  have q3 : p3 ≤ 8 := h3 ▸ p _
  have q4 : p4 ≤ 8 := h4 ▸ p _
  have q5 : p5 ≤ 8 := h5 ▸ p _
  have q6 : p6 ≤ 8 := h6 ▸ p _
  have q7 : p7 ≤ 8 := h7 ▸ p _
  clear h0 h1 h2 h3 h4 h5 h6 h7 e p
  rw [Nat.mul_zero, Nat.add_zero]
  obtain ⟨c6, e6⟩ : ∃ c, c = p6 + 256 * p7 := ⟨_, rfl⟩
  obtain ⟨c5, e5⟩ : ∃ c, c = p5 + 256 * c6 := ⟨_, rfl⟩
  obtain ⟨c4, e4⟩ : ∃ c, c = p4 + 256 * c5 := ⟨_, rfl⟩
  obtain ⟨c3, e3⟩ : ∃ c, c = p3 + 256 * c4 := ⟨_, rfl⟩
  obtain ⟨c2, e2⟩ : ∃ c, c = p2 + 256 * c3 := ⟨_, rfl⟩
  obtain ⟨c1, e1⟩ : ∃ c, c = p1 + 256 * c2 := ⟨_, rfl⟩
  obtain ⟨c0, e0⟩ : ∃ c, c = p0 + 256 * c1 := ⟨_, rfl⟩
  rw [← e6, ← e5, ← e4, ← e3, ← e2, ← e1, ← e0]
  have s1 : c0 / 256 = c1 := by omega
  rw [s1]
  have s2 : (c1 + c0) / 65536 = c2 + c3 := by omega
  rw [s2]
  have s3 : (c1 + c0 + (c2 + c3)) / 4294967296 = c4 + c5 + c6 + p7 := by omega
  rw [s3]
  omega
theorem lbc_pc {n : Nat} (hn : n < 2 ^ 60) : lbc (lN n) = nI (vPcF 64 n) := by
  have s : ∀ k x, k < 64 → x < 2 ^ 64 → lsr (lN x) (nI k) = lN (x / 2 ^ k) := fun k x hk hx => wb_shr hx hk
  have c5 : (6148914691236517205 : Int64) = lN (m5 8) := by decide +kernel
  have c3 : (3689348814741910323 : Int64) = lN (m3 8) := by decide +kernel
  have cf : (1085102592571150095 : Int64) = lN (mf 8) := by decide +kernel
  have b5 : m5 8 < 2 ^ 63 := by decide +kernel
  have b3 : m3 8 < 2 ^ 62 := by decide +kernel
  have bf : mf 8 < 2 ^ 60 := by decide +kernel
  unfold lbc
  dsimp only
  have eA : lN n - (lsr (lN n) 1 &&& 6148914691236517205) = lN (spA 8 n) := by
    rw [show lsr (lN n) 1 = lN (n / 2) from s 1 n (by decide) (by omega), c5, wb_and (by omega) (by omega), lN_sub (Nat.le_trans Nat.and_le_left (by omega))]
    rfl
  have hA : spA 8 n < 2 ^ 60 := by unfold spA; omega
  have eB : (lN (spA 8 n) &&& 3689348814741910323) + (lsr (lN (spA 8 n)) 2 &&& 3689348814741910323) = lN (spB 8 n) := by
    rw [show lsr (lN (spA 8 n)) 2 = lN (spA 8 n / 4) from s 2 _ (by decide) (by omega), c3, wb_and (by omega) (by omega), wb_and (by omega) (by omega), lN_add]
    rfl
  have hB : spB 8 n < 2 ^ 63 := by
    unfold spB
    have l1 : spA 8 n &&& m3 8 ≤ m3 8 := Nat.and_le_right
    have l2 : spA 8 n / 4 &&& m3 8 ≤ m3 8 := Nat.and_le_right
    omega
  have eC : (lN (spB 8 n) + lsr (lN (spB 8 n)) 4) &&& 1085102592571150095 = lN (spC 8 n) := by
    rw [show lsr (lN (spB 8 n)) 4 = lN (spB 8 n / 16) from s 4 _ (by decide) (by omega), lN_add, cf, wb_and (by omega) (by omega)]
    rfl
  have hC : spC 8 n < 2 ^ 60 := Nat.lt_of_le_of_lt Nat.and_le_right bf
  rw [eA, eB, eC]
  rw [spC_eq] at hC ⊢
  obtain ⟨t, ht, he⟩ := spS_sum n
  rw [show lsr (lN (spS 8 n)) 8 = lN (spS 8 n / 256) from s 8 _ (by decide) (by omega), lN_add, Nat.add_comm (spS 8 n), ht]
  have t2 : t < 2 ^ 61 := by omega
  rw [show lsr (lN t) 16 = lN (t / 65536) from s 16 _ (by decide) (by omega), lN_add]
  generalize hu : t + t / 65536 = u at he
  have u2 : u < 2 ^ 62 := by omega
  rw [show lsr (lN u) 32 = lN (u / 4294967296) from s 32 _ (by decide) (by omega), lN_add, lN_i]
  show nI _ &&& nI 127 = _
  rw [ni_and, ← he, show (127 : Nat) = 2 ^ 7 - 1 from rfl, Nat.and_two_pow_sub_one_eq_mod]
theorem vPcF_cat : ∀ (m k a b : Nat), a < 2 ^ m → vPcF (m + k) (a + 2 ^ m * b) = vPcF m a + vPcF k b
  | 0, k, a, b, h => by
    have : a = 0 := by omega
    subst this
    simp [vPcF]
  | m + 1, k, a, b, h => by
    rw [show m + 1 + k = (m + k) + 1 by omega]
    have e2 : a / 2 < 2 ^ m := by rw [Nat.pow_succ] at h; omega
    have ih := vPcF_cat m k (a / 2) b e2
    have e0 : 2 ^ (m + 1) * b = 2 * (2 ^ m * b) := by rw [Nat.pow_succ, Nat.mul_comm (2 ^ m) 2, Nat.mul_assoc]
    show (a + 2 ^ (m + 1) * b) % 2 + vPcF (m + k) ((a + 2 ^ (m + 1) * b) / 2) = (a % 2 + vPcF m (a / 2)) + vPcF k b
    rw [e0, show (a + 2 * (2 ^ m * b)) % 2 = a % 2 by omega, show (a + 2 * (2 ^ m * b)) / 2 = a / 2 + 2 ^ m * b by omega, ih]
    omega
theorem vPcF_0 : ∀ k, vPcF k 0 = 0
  | 0 => rfl
  | k + 1 => by
    unfold vPcF
    rw [show 0 / 2 = 0 from rfl, vPcF_0 k]
theorem vPc_G {v : Nat → Nat} (hg : GV v) : vPcF 64 (vG v) = vPc (v 36) + vPc (v 37) := by
  obtain ⟨h1, h2, _⟩ := hg
  unfold vG vPc
  have a := vPcF_cat 30 34 (v 36) (v 37) h1
  have b := vPcF_cat 30 2 (v 36) 0 h1
  have c := vPcF_cat 30 4 (v 37) 0 h2
  have e := vPcF_cat 30 2 (v 37) 0 h2
  simp only [vPcF_0, Nat.mul_zero, Nat.add_zero] at b c e
  show vPcF (30 + 34) (v 36 + 2 ^ 30 * v 37) = vPcF (30 + 2) (v 36) + vPcF (30 + 2) (v 37)
  rw [a, b, e]
  show vPcF 30 (v 36) + vPcF (30 + 4) (v 37) = _
  rw [c]
def cnt (N m x tn : Nat) (f : Option Nat) (v : Nat → Nat) (k : Nat) : Int32 := match k with
  | 0 => nI (v 1)
  | 1 => nI (v 2)
  | 2 => nI (v 3)
  | 3 => nI (v 4)
  | 4 => nI (vPc (v 36) + vPc (v 37))
  | 5 => nI N
  | 6 => oI f
  | 7 => nI (v 10)
  | 8 => nI (v 11)
  | 9 => nI (vOuts v (v 4))
  | 10 => nI (vWas v (v 4))
  | 11 => nI (v 82)
  | 12 => nI m
  | 13 => nI x
  | _ => nI tn
def aCount (N m x tn : Nat) (f : Option Nat) (v : Nat → Nat) (w : Int32) : Int32 := if 0 ≤ w ∧ w ≤ 14 then cnt N m x tn f v w.toNatClampNeg else -1
section CO
variable {d : Nat} {σ : fxS} {hi : fxI3} {hl : fxL3} {v : Nat → Nat} {f : Option Nat} {N m x tn : Nat}
theorem x_count (hv : PX hi hl 2 v) (hs : SV v) (hg : GV v) (hnt : NT hi 0 v) (h5 : hi 10 0 5 = nI N) (h6 : hi 9 0 3 = oI f) (h12 : hi 0 0 2 = nI m) (h13 : hi 9 0 4 = nI x) (h14 : hi 10 0 1 = nI tn) (w : Int32) : fx_Ga (d + 2) 98 [xO, vi w] (hp σ hi hl) (some (vi (aCount N m x tn f v w))) (hp σ hi hl) := by
  refine fx_meth fx_M98 [some xO, some (vi w), none] (by decide) rfl rfl (Nat.le_of_ble_eq_true rfl) (fx_wpE [] 40 ?_)
  by_cases hw : 0 ≤ w ∧ w ≤ 14
  · obtain ⟨k, _, k3, ew, ek⟩ := rg_of (a := 0) (b := 14) hw (by decide) (by decide)
    have ea : aCount N m x tn f v w = cnt N m x tn f v k := by
      unfold aCount
      rw [if_pos hw, ek]
    rw [ea]
    subst ew
    obtain ⟨p1, p2, p3, p4, p5, p6, p7, p8⟩ := id hv
    have r : ∀ {a b : Int32}, a = b → some (vi a) = some (vi b) := fun h => by rw [h]
    have hb := j_lbc (d := d) (h := hp σ hi hl) (x := hl 1 2 6)
    rw [show lbc (hl 1 2 6) = nI (vPc (v 36) + vPc (v 37)) by rw [p7, lbc_pc (vG_lt hg), vPc_G hg]] at hb
    rcases (show k = 0 ∨ k = 1 ∨ k = 2 ∨ k = 3 ∨ k = 4 ∨ k = 5 ∨ k = 6 ∨ k = 7 ∨ k = 8 ∨ k = 9 ∨ k = 10 ∨ k = 11 ∨ k = 12 ∨ k = 13 ∨ k = 14 by omega) with rfl | rfl | rfl | rfl | rfl | rfl | rfl | rfl | rfl | rfl | rfl | rfl | rfl | rfl | rfl
    · exact tsw (by decide) ⟨_, rfl, r p1, rfl⟩
    · exact tsw (by decide) ⟨_, rfl, r p2, rfl⟩
    · exact tsw (by decide) ⟨_, rfl, r p3, rfl⟩
    · exact tsw (by decide) ⟨_, rfl, r p4, rfl⟩
    · exact tsw (by decide) ⟨_, rfl, _, _, hb, rfl, rfl⟩
    · exact tsw (by decide) ⟨_, rfl, r h5, rfl⟩
    · exact tsw (by decide) ⟨_, rfl, r h6, rfl⟩
    · exact tsw (by decide) ⟨_, rfl, r p6, rfl⟩
    · exact tsw (by decide) ⟨_, rfl, r p5, rfl⟩
    · exact tsw (by decide) ⟨_, rfl, _, _, x_outBits hv hs, rfl, rfl⟩
    · exact tsw (by decide) ⟨_, rfl, _, _, x_allTimesIt hv hs.1, rfl, rfl⟩
    · exact tsw (by decide) ⟨_, rfl, r hnt.1, rfl⟩
    · exact tsw (by decide) ⟨_, rfl, r h12, rfl⟩
    · exact tsw (by decide) ⟨_, rfl, r h13, rfl⟩
    · exact tsw (by decide) ⟨_, rfl, r h14, rfl⟩
  · have ea : aCount N m x tn f v w = -1 := if_neg hw
    rw [ea]
    refine ⟨fun _ => ⟨rfl, rfl⟩, fun (z : ¬ (w.toInt < 0 ∨ 14 < w.toInt)) => absurd ?_ hw⟩
    rw [Int32.le_iff_toInt_le, Int32.le_iff_toInt_le]
    show (0 : Int) ≤ _ ∧ _ ≤ (14 : Int)
    omega
theorem m_count (hv : PM hi v) (h4 : v 4 ≤ 6) (h5 : hi 11 0 2 = nI N) (h6 : hi 11 0 21 = oI f) (h12 : hi 11 0 28 = nI m) (h13 : hi 11 0 22 = nI x) (h14 : hi 11 0 1 = nI tn) (w : Int32) : fx_Ga (d + 3) 248 [mO, vi w] (hp σ hi hl) (some (vi (aCount N m x tn f v w))) (hp σ hi hl) := by
  refine fx_meth fx_M248 [some mO, some (vi w)] (by decide) rfl rfl (Nat.le_of_ble_eq_true rfl) (fx_wpE [] 40 ?_)
  by_cases hw : 0 ≤ w ∧ w ≤ 14
  · obtain ⟨k, _, k3, ew, ek⟩ := rg_of (a := 0) (b := 14) hw (by decide) (by decide)
    have ea : aCount N m x tn f v w = cnt N m x tn f v k := by
      unfold aCount
      rw [if_pos hw, ek]
    rw [ea]
    subst ew
    have r : ∀ {a b : Int32}, a = b → some (vi a) = some (vi b) := fun h => by rw [h]
    have bd : ∀ n, n < 83 → 0 ≤ (nI n).toInt ∧ (nI n).toInt < ((83 : Nat) : Int) := fun n h => ni_in h (by decide)
    have g36 := m_bits (d := d + 1) (h := hp σ hi hl) (a := v 36) (by have := (hv 36 (by decide)).2; omega)
    have g37 := m_bits (d := d + 1) (h := hp σ hi hl) (a := v 37) (by have := (hv 37 (by decide)).2; omega)
    rw [← (hv 36 (by decide)).1] at g36
    rw [← (hv 37 (by decide)).1] at g37
    rcases (show k = 0 ∨ k = 1 ∨ k = 2 ∨ k = 3 ∨ k = 4 ∨ k = 5 ∨ k = 6 ∨ k = 7 ∨ k = 8 ∨ k = 9 ∨ k = 10 ∨ k = 11 ∨ k = 12 ∨ k = 13 ∨ k = 14 by omega) with rfl | rfl | rfl | rfl | rfl | rfl | rfl | rfl | rfl | rfl | rfl | rfl | rfl | rfl | rfl
    · exact tsw (by decide) ⟨_, rfl, bd 1 (by decide), r (hv 1 (by decide)).1, rfl⟩
    · exact tsw (by decide) ⟨_, rfl, bd 2 (by decide), r (hv 2 (by decide)).1, rfl⟩
    · exact tsw (by decide) ⟨_, rfl, bd 3 (by decide), r (hv 3 (by decide)).1, rfl⟩
    · exact tsw (by decide) ⟨_, rfl, bd 4 (by decide), r (hv 4 (by decide)).1, rfl⟩
    · exact tsw (by decide) ⟨_, rfl, bd 36 (by decide), _, _, g36, bd 37 (by decide), _, _, g37, r (nI_add _ _), rfl⟩
    · exact tsw (by decide) ⟨_, rfl, r h5, rfl⟩
    · exact tsw (by decide) ⟨_, rfl, r h6, rfl⟩
    · exact tsw (by decide) ⟨_, rfl, bd 10 (by decide), r (hv 10 (by decide)).1, rfl⟩
    · exact tsw (by decide) ⟨_, rfl, bd 11 (by decide), r (hv 11 (by decide)).1, rfl⟩
    · exact tsw (by decide) ⟨_, rfl, _, _, m_outs hv h4, rfl, rfl⟩
    · exact tsw (by decide) ⟨_, rfl, _, _, m_wasAll hv h4, rfl, rfl⟩
    · exact tsw (by decide) ⟨_, rfl, bd 82 (by decide), r (hv 82 (by decide)).1, rfl⟩
    · exact tsw (by decide) ⟨_, rfl, r h12, rfl⟩
    · exact tsw (by decide) ⟨_, rfl, r h13, rfl⟩
    · exact tsw (by decide) ⟨_, rfl, r h14, rfl⟩
  · have ea : aCount N m x tn f v w = -1 := if_neg hw
    rw [ea]
    refine ⟨fun _ => ⟨rfl, rfl⟩, fun (z : ¬ (w.toInt < 0 ∨ 14 < w.toInt)) => absurd ?_ hw⟩
    rw [Int32.le_iff_toInt_le, Int32.le_iff_toInt_le]
    show (0 : Int) ≤ _ ∧ _ ≤ (14 : Int)
    omega
end CO
