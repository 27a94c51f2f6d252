/-! the reference: a rule's sum -/
theorem up_self {α : Type} (f : Nat → Nat → Nat → α) (k j s : Nat) : fx_up f k j s (f k j s) = f := by
  funext x y z
  unfold fx_up
  by_cases h1 : x = k <;> by_cases h2 : y = j <;> by_cases h3 : z = s <;> simp [h1, h2, h3]
theorem all_all {α : Type} (f : Nat → Nat → Nat → α) (k j : Nat) (g g' : Nat → α) : fx_all (fx_all f k j g) k j g' = fx_all f k j g' := by
  funext x y z
  unfold fx_all
  by_cases h1 : x = k <;> by_cases h2 : y = j <;> simp [h1, h2]
/-- a rule as it is told: sums, and tests where there are -/
abbrev fxRl : Type := List (List Nat × Option (List Nat))
def vHd (l : List Int64) : Int64 := l.headD 0
def vRule (w : Nat → Int64) : fxRl → Int64
  | [] => 0
  | (s, none) :: _ => (vEv w s []).headD 0
  | (s, some t) :: r => if (vEv w t []).headD 0 = 1 then (vEv w s []).headD 0 else vRule w r
def tokAt (hi : fxI3) (p : Nat) (L : List Nat) : Prop := ∀ k, k < L.length → hi 51 0 (p + k) = nI (L.getD k 0) ∧ L.getD k 0 < 2 ^ 30
/-- how the reference holds a rule's clauses from the c-th on, its signs from p on -/
def RMl (hi : fxI3) (t : Nat) : fxRl → Nat → Nat → Prop
  | [], _, _ => True
  | (s, o) :: r, c, p => c < 12 ∧ p + s.length + (o.getD []).length ≤ 400 ∧ hi 53 0 (48 * t + 4 * c) = nI p ∧ hi 53 0 (48 * t + 4 * c + 1) = nI (p + s.length) ∧ hi 53 0 (48 * t + 4 * c + 2) = (match o with | none => -1 | some _ => nI (p + s.length)) ∧ hi 53 0 (48 * t + 4 * c + 3) = nI (p + s.length + (o.getD []).length) ∧
    tokAt hi (400 * t + p) s ∧ tokAt hi (400 * t + (p + s.length)) (o.getD []) ∧ vDp s 0 = some 1 ∧ (∀ q, o = some q → vDp q 0 = some 1) ∧ RMl hi t r (c + 1) (p + s.length + (o.getD []).length)
def RM (hi : fxI3) (t : Nat) (R : fxRl) : Prop := R.length ≤ 12 ∧ hi 54 0 t = nI R.length ∧ RMl hi t R 0 0
section MS
variable {d : Nat} {σ : fxS} {hi : fxI3} {hl : fxL3}
theorem m_summedBy {t : Nat} {R0 : fxRl} {w : Nat → Int64} (ht : t < 6) (hR : RM hi t R0) (hw : ∀ k, k < 11 → hl 58 0 k = w k) :
    ∃ z g, fx_Ga (d + 3) 201 [mO, vi (nI t)] (hp σ hi hl) (some (vl (vRule w R0))) (hp σ (fx_up hi 11 0 18 z) (fx_all hl 57 0 g)) := by
  obtain ⟨hlen, h54, hRl⟩ := hR
  have loop : ∀ (R : fxRl) (c p : Nat), c + R.length = R0.length → RMl hi t R c p → ∀ (z : Int32) (g : Nat → Int64) l3, fx_E (fx_Ga (d + 2)) fx_M201 (2, [some mO, some (vi (nI t)), some (vi (nI c)), l3], [], hp σ (fx_up hi 11 0 18 z) (fx_all hl 57 0 g), 0, 0) (fun r2 h2 => r2 = some (vl (vRule w R)) ∧ ∃ z' g', h2 = hp σ (fx_up hi 11 0 18 z') (fx_all hl 57 0 g')) := by
    intro R
    induction R with
    | nil =>
      intro c p hc _ z g l3
      refine fx_wpL [2] 20 ⟨ni_inx (n := t) (m := 6) rfl ht (by decide), ?_⟩
      have e54 : hi 54 0 (nI t).toNatClampNeg = nI R0.length := by rw [nI_clamp (by omega)]; exact h54
      refine pk_le R0.length c (fun _ => ?_) (fun h => by simp at hc; omega) e54
      exact ⟨rfl, z, g, rfl⟩
    | cons q R ih =>
      obtain ⟨s, o⟩ := q
      intro c p hc hRM z g l3
      obtain ⟨hc12, hp4, e0, e1, e2, e3, ks, ko, ds, dq, hRn⟩ := hRM
      have hcl : c + (R.length + 1) = R0.length := hc
      have e54 : hi 54 0 (nI t).toNatClampNeg = nI R0.length := by rw [nI_clamp (by omega)]; exact h54
      have ea : (48 * nI t + 4 * nI c : Int32) = nI (48 * t + 4 * c) := by
        show nI 48 * nI t + nI 4 * nI c = _
        rw [pk_mul, pk_mul, nI_add]
      have ea1 : (48 * nI t + 4 * nI c + 1 : Int32) = nI (48 * t + 4 * c + 1) := by rw [ea]; exact nI_add _ 1
      have ea2 : (48 * nI t + 4 * nI c + 2 : Int32) = nI (48 * t + 4 * c + 2) := by rw [ea]; exact nI_add _ 2
      have ea3 : (48 * nI t + 4 * nI c + 3 : Int32) = nI (48 * t + 4 * c + 3) := by rw [ea]; exact nI_add _ 3
      have g0 : hi 53 0 (48 * nI t + 4 * nI c : Int32).toNatClampNeg = nI p := by rw [ni_cl ea (by omega)]; exact e0
      have g1 : hi 53 0 (48 * nI t + 4 * nI c + 1 : Int32).toNatClampNeg = nI (p + s.length) := by rw [ni_cl ea1 (by omega)]; exact e1
      have g3 : hi 53 0 (48 * nI t + 4 * nI c + 3 : Int32).toNatClampNeg = nI (p + s.length + (o.getD []).length) := by rw [ni_cl ea3 (by omega)]; exact e3
      have b0 := ni_inx (n := 48 * t + 4 * c) (m := 288) ea (by omega) (by decide)
      have b1 := ni_inx (n := 48 * t + 4 * c + 1) (m := 288) ea1 (by omega) (by decide)
      have b2 := ni_inx (n := 48 * t + 4 * c + 2) (m := 288) ea2 (by omega) (by decide)
      have b3 := ni_inx (n := 48 * t + 4 * c + 3) (m := 288) ea3 (by omega) (by decide)
      have hsum : ∀ z g, ∃ g', fx_Ga (d + 2) 185 [mO, vi (nI t), vi (hi 53 0 (48 * nI t + 4 * nI c : Int32).toNatClampNeg), vi (hi 53 0 (48 * nI t + 4 * nI c + 1 : Int32).toNatClampNeg)] (hp σ (fx_up hi 11 0 18 z) (fx_all hl 57 0 g)) (some (vl ((vEv w s []).headD 0))) (hp σ (fx_up hi 11 0 18 (nI 0)) (fx_all hl 57 0 g')) := by
        intro z g
        obtain ⟨g', hg⟩ := m_reckons (d := d) (σ := σ) (hi := fx_up hi 11 0 18 z) (hl := fx_all hl 57 0 g) (t := t) (b := p) (L0 := s) (w := w) ht (by omega) ks hw ds
        rw [up_up, all_all, ← g0, ← g1] at hg
        exact ⟨g', hg⟩
      refine fx_wpL [2] 60 ⟨ni_inx (n := t) (m := 6) rfl ht (by decide), ?_⟩
      refine pk_le R0.length c (fun h => by omega) (fun _ => ?_) e54
      refine ⟨b2, ?_⟩
      cases o with
      | none =>
        have g2 : hi 53 0 (48 * nI t + 4 * nI c + 2 : Int32).toNatClampNeg = -1 := by rw [ni_cl ea2 (by omega)]; exact e2
        refine ⟨fun _ => ?_, fun hn => absurd (by rw [g2]; decide) (show ¬ hi 53 0 (48 * nI t + 4 * nI c + 2 : Int32).toNatClampNeg < 0 from hn)⟩
        obtain ⟨g', hg⟩ := hsum z g
        exact ⟨b0, b1, _, _, hg, rfl, _, g', rfl⟩
      | some q =>
        have g2 : hi 53 0 (48 * nI t + 4 * nI c + 2 : Int32).toNatClampNeg = nI (p + s.length) := by rw [ni_cl ea2 (by omega)]; exact e2
        have hq4 : p + s.length + q.length ≤ 400 := hp4
        refine pk_lt (p + s.length) 0 (fun h => by omega) (fun _ => ?_) g2
        obtain ⟨g', hg⟩ := m_reckons (d := d) (σ := σ) (hi := fx_up hi 11 0 18 z) (hl := fx_all hl 57 0 g) (t := t) (b := p + s.length) (L0 := q) (w := w) ht hq4 ko hw (dq q rfl)
        rw [up_up, all_all, ← g2, show nI (p + s.length + q.length) = _ from g3.symm] at hg
        refine ⟨b2, b3, _, _, hg, ?_⟩
        refine lc_eq (fun (h1 : (vEv w q []).headD 0 = 1) => ?_) (fun (h1 : ¬ (vEv w q []).headD 0 = 1) => ?_)
        · obtain ⟨g'', hg'⟩ := hsum (nI 0) g'
          refine ⟨b0, b1, _, _, hg', ?_, _, g'', rfl⟩
          show _ = some (vl (if (vEv w q []).headD 0 = 1 then _ else _))
          rw [if_pos h1]
        · have h2 := ih (c + 1) _ (by omega) hRn (nI 0) g' (some (vi (48 * nI t + 4 * nI c)))
          rw [← nI_1] at h2
          rw [show vRule w ((s, some q) :: R) = vRule w R from if_neg h1]
          exact h2
  obtain ⟨r, h', hg, e1, z', g', e2⟩ := fx_methX (d := d + 2) (y := 201) (av := [mO, vi (nI t)]) (h := hp σ hi hl) (P := fun r2 h2 => r2 = some (vl (vRule w R0)) ∧ ∃ z' g', h2 = hp σ (fx_up hi 11 0 18 z') (fx_all hl 57 0 g')) fx_M201 [some mO, some (vi (nI t)), none, none] (by decide) rfl rfl (Nat.le_of_ble_eq_true rfl) (fx_wpE [2] 20 (by
    have := loop R0 0 0 (by omega) hRl (hi 11 0 18) (hl 57 0) none
    rw [all_self, up_self] at this
    exact this))
  subst e1
  subst e2
  exact ⟨z', g', hg⟩
end MS
-- counting bits
def vPcF : Nat → Nat → Nat
  | 0, _ => 0
  | k + 1, a => a % 2 + vPcF k (a / 2)
def vPc (a : Nat) : Nat := vPcF 32 a
theorem and_dbl (a b : Nat) : (2 * a) &&& (2 * b + 1) = 2 * (a &&& b) := by
  apply Nat.eq_of_testBit_eq
  intro i
  cases i with
  | zero => simp [Nat.testBit_zero, Nat.testBit_and]
  | succ i =>
    rw [Nat.testBit_and, Nat.testBit_succ, Nat.testBit_succ, Nat.testBit_succ, show 2 * a / 2 = a by omega, show (2 * b + 1) / 2 = b by omega, show 2 * (a &&& b) / 2 = a &&& b by omega, Nat.testBit_and]
theorem and_odd (a : Nat) : (2 * a + 1) &&& (2 * a) = 2 * a := by
  apply Nat.eq_of_testBit_eq
  intro i
  cases i with
  | zero => simp [Nat.testBit_zero, Nat.testBit_and]
  | succ i =>
    rw [Nat.testBit_and, Nat.testBit_succ, Nat.testBit_succ, show 2 * a / 2 = a by omega, show (2 * a + 1) / 2 = a by omega, Bool.and_self]
theorem vPcF_and : ∀ (k a : Nat), 0 < a → a < 2 ^ k → vPcF k (a &&& (a - 1)) + 1 = vPcF k a ∧ (a &&& (a - 1)) < a := by
  intro k
  induction k with
  | zero => intro a h1 h2; omega
  | succ k ih =>
    intro a h1 h2
    rcases Nat.mod_two_eq_zero_or_one a with h | h
    · obtain ⟨m, rfl⟩ : ∃ m, a = 2 * m := ⟨a / 2, by omega⟩
      have hm : 0 < m := by omega
      have h3 := ih m hm (by rw [Nat.pow_succ] at h2; omega)
      have e : 2 * m - 1 = 2 * (m - 1) + 1 := by omega
      rw [e, and_dbl]
      refine ⟨?_, by omega⟩
      show (2 * (m &&& (m - 1))) % 2 + vPcF k (2 * (m &&& (m - 1)) / 2) + 1 = (2 * m) % 2 + vPcF k (2 * m / 2)
      rw [show 2 * (m &&& (m - 1)) / 2 = m &&& (m - 1) by omega, show 2 * m / 2 = m by omega]
      omega
    · obtain ⟨m, rfl⟩ : ∃ m, a = 2 * m + 1 := ⟨a / 2, by omega⟩
      rw [show 2 * m + 1 - 1 = 2 * m by omega, and_odd]
      refine ⟨?_, by omega⟩
      show (2 * m) % 2 + vPcF k (2 * m / 2) + 1 = (2 * m + 1) % 2 + vPcF k ((2 * m + 1) / 2)
      rw [show 2 * m / 2 = m by omega, show (2 * m + 1) / 2 = m by omega]
      omega
theorem ni_and (a b : Nat) : nI a &&& nI b = nI (a &&& b) := by
  unfold nI
  apply Int32.toBitVec_inj.mp
  rw [Int32.toBitVec_and]
  show BitVec.ofNat 32 a &&& BitVec.ofNat 32 b = BitVec.ofNat 32 (a &&& b)
  apply BitVec.eq_of_toNat_eq
  simp [Nat.and_mod_two_pow]
theorem m_bits {d : Nat} {h : fxH} {a : Nat} (ha : a < 2 ^ 31) : fx_Ga (d + 1) 144 [vi (nI a)] h (some (vi (nI (vPc a)))) h := by
  refine fx_meth fx_M144 [some (vi (nI a)), none, none] (by decide) rfl rfl (Nat.le_of_ble_eq_true rfl) ?_
  have loop : ∀ k s n, s ≤ k → s < 2 ^ 31 → n + vPc s = vPc a → fx_E (fx_Ga d) fx_M144 (4, [some (vi (nI a)), some (vi (nI n)), some (vi (nI s))], [], h, 0, 0) (fun r2 h2 => r2 = some (vi (nI (vPc a))) ∧ h2 = h) := by
    intro k
    induction k with
    | zero =>
      intro s n hs _ hn
      have : s = 0 := by omega
      subst this
      refine fx_wpL [4] 20 (pk_eq 0 0 (fun _ => ⟨?_, rfl⟩) (fun hc => absurd rfl hc))
      rw [← hn]
      rfl
    | succ k ih =>
      intro s n hs hs2 hn
      refine fx_wpL [4] 20 (pk_eq s 0 (fun h0 => ⟨?_, rfl⟩) (fun h0 => ?_))
      · subst h0
        rw [← hn]
        rfl
      · obtain ⟨p1, p2⟩ := vPcF_and 32 s (by omega) (by omega)
        have h2 := ih (s &&& (s - 1)) (n + 1) (by omega) (by omega) (by unfold vPc at *; omega)
        rw [← nI_1, ← ni_and, ← pk_sub (show 1 ≤ s by omega)] at h2
        exact h2
  exact fx_wpE [4] 9 (loop a a 0 (Nat.le_refl _) ha (by omega))
