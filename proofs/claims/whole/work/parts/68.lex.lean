/-! signs of a text: what they are -/
def lx_S (x : Int32) : Bool := decide (x = 32)
def lx_D (x : Int32) : Bool := decide (48 ≤ x ∧ x ≤ 57)
def lx_L (x : Int32) : Bool := decide (97 ≤ x ∧ x ≤ 122)
/-- the end of a run -/
def lx_rnF (P : Int32 → Bool) (T : Nat → Int32) : Nat → Nat → Nat
  | 0, p => p
  | k + 1, p => if P (T p) then lx_rnF P T k (p + 1) else p
def lx_rn (P : Int32 → Bool) (T : Nat → Int32) (n p : Nat) : Nat := lx_rnF P T (n - p) p
section LX
variable {P : Int32 → Bool} {T : Nat → Int32} {n p : Nat}
theorem rn_st (h : p < n) (hp : P (T p) = true) : lx_rn P T n p = lx_rn P T n (p + 1) := by
  unfold lx_rn
  rw [show n - p = (n - (p + 1)) + 1 by omega]
  show (if P (T p) then _ else _) = _
  rw [if_pos hp]
theorem rn_no (h : p < n → P (T p) = false) : lx_rn P T n p = p := by
  unfold lx_rn
  by_cases c : p < n
  · rw [show n - p = (n - (p + 1)) + 1 by omega]
    show (if P (T p) then _ else _) = _
    rw [h c]
    rfl
  · rw [show n - p = 0 by omega]
    rfl
theorem rnF_ok : ∀ k p, p ≤ lx_rnF P T k p ∧ lx_rnF P T k p ≤ p + k ∧ (∀ i, p ≤ i → i < lx_rnF P T k p → P (T i) = true) ∧ (lx_rnF P T k p < p + k → P (T (lx_rnF P T k p)) = false)
  | 0, p => ⟨Nat.le_refl _, Nat.le_refl _, fun i h1 h2 => absurd h2 (by show ¬ i < p; omega), fun h => absurd h (by show ¬ p < p + 0; omega)⟩
  | k + 1, p => by
    obtain ⟨h1, h2, h3, h4⟩ := rnF_ok k (p + 1)
    unfold lx_rnF
    cases hp : P (T p) with
    | false => exact ⟨Nat.le_refl _, by rw [if_neg (by simp)]; omega, fun i a b => absurd b (by rw [if_neg (by simp)]; omega), fun _ => by rw [if_neg (by simp)]; exact hp⟩
    | true =>
      rw [if_pos rfl]
      refine ⟨by omega, by omega, fun i a b => ?_, fun h => h4 (by omega)⟩
      by_cases e : i = p
      · rw [e]; exact hp
      · exact h3 i (by omega) b
theorem rn_ge : p ≤ lx_rn P T n p := (rnF_ok (n - p) p).1
theorem rn_le (h : p ≤ n) : lx_rn P T n p ≤ n := by
  have := (rnF_ok (P := P) (T := T) (n - p) p).2.1
  unfold lx_rn
  omega
theorem rn_all {i : Nat} (h1 : p ≤ i) (h2 : i < lx_rn P T n p) : P (T i) = true := (rnF_ok (n - p) p).2.2.1 i h1 h2
theorem rn_end (h : p ≤ n) (h2 : lx_rn P T n p < n) : P (T (lx_rn P T n p)) = false := (rnF_ok (n - p) p).2.2.2 (by unfold lx_rn at h2; omega)
theorem rn_idem (h : p ≤ n) : lx_rn P T n (lx_rn P T n p) = lx_rn P T n p := rn_no (fun h2 => rn_end h h2)
end LX
def lx_c (x : Int32) : Nat := x.toInt.toNat
/-- digits of base 256 -/
def kC (c : Nat → Nat) : Nat → Nat
  | 0 => 0
  | k + 1 => 256 * kC c k + c k
theorem kC_lt {c : Nat → Nat} : ∀ k, (∀ i, i < k → c i < 256) → kC c k < 256 ^ k
  | 0, _ => Nat.one_pos
  | k + 1, h => by
    have := kC_lt k (fun i hi => h i (by omega))
    have h2 := h k (by omega)
    rw [Nat.pow_succ]
    unfold kC
    omega
theorem kC_ge {c : Nat → Nat} : ∀ k, (∀ i, i < k + 1 → 0 < c i) → 256 ^ k ≤ kC c (k + 1)
  | 0, h => by
    have := h 0 (by omega)
    show 1 ≤ 256 * 0 + c 0
    omega
  | k + 1, h => by
    have := kC_ge k (fun i hi => h i (by omega))
    rw [Nat.pow_succ]
    show _ ≤ 256 * kC c (k + 1) + c (k + 1)
    omega
theorem kC_inj {c c' : Nat → Nat} : ∀ k, (∀ i, i < k → c i < 256) → (∀ i, i < k → c' i < 256) → kC c k = kC c' k → ∀ i, i < k → c i = c' i
  | 0, _, _, _, i, hi => by omega
  | k + 1, h, h', e, i, hi => by
    have e : 256 * kC c k + c k = 256 * kC c' k + c' k := e
    have a := h k (by omega)
    have b := h' k (by omega)
    by_cases z : i = k
    · subst z
      omega
    · exact kC_inj k (fun i hi => h i (by omega)) (fun i hi => h' i (by omega)) (by omega) i (by omega)
theorem kC_congr {c c' : Nat → Nat} : ∀ k, (∀ i, i < k → c i = c' i) → kC c k = kC c' k
  | 0, _ => rfl
  | k + 1, h => by
    show 256 * kC c k + c k = 256 * kC c' k + c' k
    rw [kC_congr k (fun i hi => h i (by omega)), h k (by omega)]
theorem kC_len {c c' : Nat → Nat} {k k' : Nat} (hc : ∀ i, i < k → 0 < c i ∧ c i < 256) (hc' : ∀ i, i < k' → 0 < c' i ∧ c' i < 256) (e : kC c k = kC c' k') : k = k' := by
  have key : ∀ {c c' : Nat → Nat} {k k' : Nat}, (∀ i, i < k → 0 < c i ∧ c i < 256) → (∀ i, i < k' → 0 < c' i ∧ c' i < 256) → kC c k = kC c' k' → ¬ k < k' := by
    intro c c' k k' hc hc' e h
    have a := kC_lt (c := c) k (fun i hi => (hc i hi).2)
    obtain ⟨j, rfl⟩ : ∃ j, k' = j + 1 := ⟨k' - 1, by omega⟩
    have b := kC_ge (c := c') j (fun i hi => (hc' i hi).1)
    have d : 256 ^ k ≤ 256 ^ j := Nat.pow_le_pow_right (by decide) (by omega)
    omega
  have h1 := key hc hc' e
  have h2 := key hc' hc e.symm
  omega
/-- a word as a number: its letters, if it has 1 to 7; else 0 -/
def lx_wk (T : Nat → Int32) (n q : Nat) : Nat := if 0 < lx_rn lx_L T n q - q ∧ lx_rn lx_L T n q - q < 8 then kC (fun i => lx_c (T (q + i))) (lx_rn lx_L T n q - q) else 0
def lx_nv (T : Nat → Int32) (q : Nat) : Nat → Nat
  | 0 => 0
  | k + 1 => if k < 5 then 10 * lx_nv T q k + (lx_c (T (q + k)) - 48) else lx_nv T q k
theorem lx_D_of {x : Int32} (h : lx_D x = true) : ∃ d, d < 10 ∧ x = nI (48 + d) ∧ lx_c x = 48 + d := by
  obtain ⟨k, k1, k2, ek, _⟩ := rg_of (a := 48) (b := 57) (of_decide_eq_true h) (by decide) (by decide)
  refine ⟨k - 48, by omega, by rw [show 48 + (k - 48) = k by omega]; exact ek, ?_⟩
  unfold lx_c
  rw [ek, nI_toInt (by omega)]
  omega
theorem lx_L_of {x : Int32} (h : lx_L x = true) : ∃ k, 97 ≤ k ∧ k ≤ 122 ∧ x = nI k ∧ lx_c x = k := by
  obtain ⟨k, k1, k2, ek, _⟩ := rg_of (a := 97) (b := 122) (of_decide_eq_true h) (by decide) (by decide)
  refine ⟨k, k1, k2, ek, ?_⟩
  unfold lx_c
  rw [ek, nI_toInt (by omega)]
  rfl
theorem lx_nv_lt (T : Nat → Int32) (q : Nat) : ∀ k, (∀ i, i < k → lx_D (T (q + i)) = true) → lx_nv T q k < 10 ^ (min k 5)
  | 0, _ => Nat.one_pos
  | k + 1, h => by
    have ih := lx_nv_lt T q k (fun i hi => h i (by omega))
    unfold lx_nv
    by_cases c : k < 5
    · rw [if_pos c, show min (k + 1) 5 = k + 1 by omega, Nat.pow_succ]
      rw [show min k 5 = k by omega] at ih
      obtain ⟨d, d1, _, d3⟩ := lx_D_of (h k (by omega))
      rw [d3]
      omega
    · rw [if_neg c, show min (k + 1) 5 = min k 5 by omega]
      exact ih
theorem lx_nv_5 (T : Nat → Int32) (q k : Nat) (h : ∀ i, i < k → lx_D (T (q + i)) = true) : lx_nv T q k < 100000 := by
  have a := lx_nv_lt T q k h
  have b : (10 : Nat) ^ (min k 5) ≤ 10 ^ 5 := Nat.pow_le_pow_right (by decide) (by omega)
  omega
def sA (T : Nat → Int32) (n q : Nat) : Int32 := if q < n then T q &&& 255 else -1
theorem lx_255 : ∀ b, b < 256 → ∀ c, c < 128 → (((Int8.ofNat b).toInt32 &&& 255 = nI c) ↔ (Int8.ofNat b).toInt32 = nI c) := by decide +kernel
theorem isB_of {x : Int32} (h : isB x) : ∃ b, b < 256 ∧ x = (Int8.ofNat b).toInt32 := by
  obtain ⟨b, rfl⟩ := h
  refine ⟨b.toBitVec.toNat, b.toBitVec.isLt, ?_⟩
  congr 1
  apply Int8.toBitVec_inj.mp
  show _ = BitVec.ofNat 8 _
  simp
theorem sA_c {T : Nat → Int32} {n q c : Nat} (hT : ∀ i, i < n → isB (T i)) (hc : c < 128) : sA T n q = nI c ↔ q < n ∧ T q = nI c := by
  unfold sA
  by_cases h : q < n
  · rw [if_pos h]
    obtain ⟨b, hb, e⟩ := isB_of (hT q h)
    rw [e, lx_255 b hb c hc]
    exact ⟨fun z => ⟨h, z⟩, fun z => z.2⟩
  · rw [if_neg h]
    constructor
    · intro z
      exact absurd z.symm (ne_m1 (by omega))
    · exact fun z => absurd z.1 h
