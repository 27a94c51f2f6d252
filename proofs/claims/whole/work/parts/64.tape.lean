/-! the tape; force and seed -/
def tb (x k : Int32) : Int32 := (x >>> (k &&& 31)).toInt8.toInt32.toInt8.toInt32
theorem tb_bv (b : BitVec 32) (k : Nat) (hk : k ≤ 24) : BitVec.signExtend 8 (b >>> k) = BitVec.signExtend 8 (b.sshiftRight k) := by
  apply BitVec.eq_of_getLsbD_eq
  intro i hi
  rw [BitVec.getLsbD_signExtend, BitVec.getLsbD_signExtend, BitVec.getLsbD_ushiftRight, BitVec.getLsbD_sshiftRight]
  have h1 : i < 32 := by omega
  have h2 : k + i < 32 := by omega
  simp [h1, h2, hi]
theorem tb_u (x : Int32) : ∀ k, k = 24 ∨ k = 16 ∨ k = 8 ∨ k = 0 → (x.toUInt32 >>> ((nI k).toUInt32 &&& Int32.toUInt32 31)).toInt32.toInt8.toInt32.toInt8.toInt32 = tb x (nI k) := by
  intro k hk
  unfold tb
  have h : (x.toUInt32 >>> ((nI k).toUInt32 &&& Int32.toUInt32 31)).toInt32.toInt8 = (x >>> (nI k &&& 31)).toInt8 := by
    apply Int8.toBitVec_inj.mp
    rcases hk with rfl | rfl | rfl | rfl
    · exact tb_bv x.toBitVec 24 (by decide)
    · exact tb_bv x.toBitVec 16 (by decide)
    · exact tb_bv x.toBitVec 8 (by decide)
    · exact tb_bv x.toBitVec 0 (by decide)
  rw [h]
def ap1 (T : Nat → Int32) (n : Nat) (x : Int32) : Nat → Int32 := fun i => if i = n + 3 then tb x 0 else if i = n + 2 then tb x 8 else if i = n + 1 then tb x 16 else if i = n then tb x 24 else T i
def TM (hi : fxI3) (n : Nat) (T : Nat → Int32) : Prop := n ≤ 400 ∧ hi 11 0 1 = nI n ∧ ∀ i, i < n → hi 50 0 i = T i
def TP (hi : fxI3) (n : Nat) (T : Nat → Int32) : Prop := hi 10 0 1 = nI n ∧ ∀ i, i < n → hi 20 0 i = T i
def isB (x : Int32) : Prop := ∃ b : Int8, x = b.toInt32
theorem tb_b (x k : Int32) : isB (tb x k) := ⟨_, rfl⟩
def feT (T : Nat → Int32) (n : Nat) (a b c d e : Int32) : Nat → Int32 := ap1 (ap1 (ap1 (ap1 (ap1 T n a) (n + 4) b) (n + 8) c) (n + 12) d) (n + 16) e
theorem ap1_b {T : Nat → Int32} {n : Nat} (x : Int32) (h : ∀ i, i < n → isB (T i)) : ∀ i, i < n + 4 → isB (ap1 T n x i) := fun i hi => by
  unfold ap1
  split
  · exact tb_b _ _
  · split
    · exact tb_b _ _
    · split
      · exact tb_b _ _
      · split
        · exact tb_b _ _
        · exact h i (by omega)
theorem feT_b {T : Nat → Int32} {n : Nat} (a b c d e : Int32) (h : ∀ i, i < n → isB (T i)) : ∀ i, i < n + 20 → isB (feT T n a b c d e i) := ap1_b e (ap1_b d (ap1_b c (ap1_b b (ap1_b a h))))
def FrT (hi hi' : fxI3) : Prop := ∀ k j s, ¬ (k = 50 ∨ k = 11 ∧ s = 1) → hi' k j s = hi k j s
def FrV (hi hi' : fxI3) : Prop := ∀ k j s, ¬ (k = 20 ∨ k = 10 ∧ s = 1) → hi' k j s = hi k j s
theorem FrT.rf (hi : fxI3) : FrT hi hi := fun _ _ _ _ => rfl
theorem FrV.rf (hi : fxI3) : FrV hi hi := fun _ _ _ _ => rfl
theorem FrT.tr {a b c : fxI3} (h : FrT a b) (g : FrT b c) : FrT a c := fun k j s h1 => (g k j s h1).trans (h k j s h1)
theorem FrV.tr {a b c : fxI3} (h : FrV a b) (g : FrV b c) : FrV a c := fun k j s h1 => (g k j s h1).trans (h k j s h1)
section TA
variable {d : Nat} {σ : fxS} {hi : fxI3} {hl : fxL3} {n : Nat} {T : Nat → Int32}
theorem m_four (ht : TM hi n T) (h4 : n + 4 ≤ 400) (x : Int32) : ∃ hi', fx_Ga (d + 1) 145 [mO, vi x] (hp σ hi hl) none (hp σ hi' hl) ∧ FrT hi hi' ∧ TM hi' (n + 4) (ap1 T n x) := by
  obtain ⟨_, h1, hT⟩ := ht
  let Post : Option fxV → fxH → Prop := fun r2 h2 => r2 = none ∧ ∃ hi', h2 = hp σ hi' hl ∧ FrT hi hi' ∧ TM hi' (n + 4) (ap1 T n x)
  have one : ∀ (k k' : Int32) (n' : Nat) (hb : fxI3), n' < 400 → hb 11 0 1 = nI n' → ¬ k < 0 → k + -8 = k' → fx_E (fx_Ga d) fx_M145 (3, [some mO, some (vi x), some (vi k')], [], hp σ (fx_up (fx_up hb 50 0 n' (tb x k)) 11 0 1 (nI (n' + 1))) hl, 0, 0) Post → fx_E (fx_Ga d) fx_M145 (3, [some mO, some (vi x), some (vi k)], [], hp σ hb hl, 0, 0) Post := by
    intro k k' n' hb hn' hb1 hk hk' h2
    rw [← hk', ← nI_1, ← hb1] at h2
    conv at h2 => rw [show fx_up hb 50 0 n' = fx_up hb 50 0 (hb 11 0 1).toNatClampNeg by rw [ni_cl hb1 (by omega)]]
    exact fx_wpL [3] 40 ⟨fun z => absurd z hk, fun _ => ⟨ni_inx (n := n') (m := 400) hb1 hn' (by decide), h2⟩⟩
  have last : ∀ hb : fxI3, FrT hi hb → TM hb (n + 4) (ap1 T n x) → fx_E (fx_Ga d) fx_M145 (3, [some mO, some (vi x), some (vi (-8))], [], hp σ hb hl, 0, 0) Post := fun hb g1 g2 => fx_wpL [3] 20 ⟨fun _ => ⟨rfl, hb, rfl, g1, g2⟩, fun (z : ¬ (-8 : Int32) < 0) => absurd (by decide) z⟩
  have body : fx_E (fx_Ga d) fx_M145 (3, [some mO, some (vi x), some (vi 24)], [], hp σ hi hl, 0, 0) Post := by
    refine one 24 16 n hi (by omega) h1 (by decide) (by decide) ?_
    refine one 16 8 (n + 1) _ (by omega) (up_at _ _ _ _ _) (by decide) (by decide) ?_
    refine one 8 0 (n + 2) _ (by omega) (up_at _ _ _ _ _) (by decide) (by decide) ?_
    refine one 0 (-8) (n + 3) _ (by omega) (up_at _ _ _ _ _) (by decide) (by decide) ?_
    refine last _ (fun k j s h => ?_) ⟨h4, up_at _ _ _ _ _, fun i hi2 => ?_⟩
    · rw [up_off _ _ (by omega), up_off _ _ (by omega), up_off _ _ (by omega), up_off _ _ (by omega), up_off _ _ (by omega), up_off _ _ (by omega), up_off _ _ (by omega), up_off _ _ (by omega)]
    · rw [up_off _ _ (by omega)]
      unfold ap1
      by_cases e3 : i = n + 3
      · subst e3
        rw [up_at, if_pos rfl]
      · rw [up_off _ _ (by omega), up_off _ _ (by omega), if_neg e3]
        by_cases e2 : i = n + 2
        · subst e2
          rw [up_at, if_pos rfl]
        · rw [up_off _ _ (by omega), up_off _ _ (by omega), if_neg e2]
          by_cases e1 : i = n + 1
          · subst e1
            rw [up_at, if_pos rfl]
          · rw [up_off _ _ (by omega), up_off _ _ (by omega), if_neg e1]
            by_cases e0 : i = n
            · subst e0
              rw [up_at, if_pos rfl]
            · rw [up_off _ _ (by omega), if_neg e0]
              exact hT i (by omega)
  obtain ⟨r, h', hg', e1, hi', e2, e3⟩ := fx_methX (d := d) (y := 145) (av := [mO, vi x]) (h := hp σ hi hl) (P := Post) fx_M145 [some mO, some (vi x), none] (by decide) rfl rfl (Nat.le_of_ble_eq_true rfl) (fx_wpE [3] 9 body)
  subst e1
  subst e2
  exact ⟨hi', hg', e3⟩
theorem x_append (ht : TP hi n T) (h4 : n + 4 ≤ 400) (x : Int32) : ∃ hi', fx_Ga (d + 1) 88 [xO, vi x] (hp σ hi hl) none (hp σ hi' hl) ∧ FrV hi hi' ∧ TP hi' (n + 4) (ap1 T n x) := by
  obtain ⟨h1, hT⟩ := ht
  let Post : Option fxV → fxH → Prop := fun r2 h2 => r2 = none ∧ ∃ hi', h2 = hp σ hi' hl ∧ FrV hi hi' ∧ TP hi' (n + 4) (ap1 T n x)
  have one : ∀ (k k' n' : Nat) (kk : Int32) (hb : fxI3), (k = 24 ∨ k = 16 ∨ k = 8 ∨ k = 0) → n' < 400 → hb 10 0 1 = nI n' → nI k + -8 = kk → fx_E (fx_Ga d) fx_M88 (3, [some xO, some (vi x), some (vi kk)], [], hp σ (fx_up (fx_up hb 20 0 n' (tb x (nI k))) 10 0 1 (nI (n' + 1))) hl, 0, 0) Post → fx_E (fx_Ga d) fx_M88 (3, [some xO, some (vi x), some (vi (nI k))], [], hp σ hb hl, 0, 0) Post := by
    intro k k' n' kk hb hk hn' hb1 hk' h2
    rw [← hk', ← nI_1, ← hb1, ← tb_u x k hk] at h2
    conv at h2 => rw [show fx_up hb 20 0 n' = fx_up hb 20 0 (hb 10 0 1).toNatClampNeg by rw [ni_cl hb1 (by omega)]]
    refine fx_wpL [3] 60 ⟨fun (z : nI k < 0) => absurd z (nI_pos (by omega)), fun _ => ⟨fun (z : hb 10 0 1 < 0) => absurd (by rw [hb1] at z; exact z) (nI_pos (n := n') (by omega)), fun _ => pk_le 400 n' (fun hc => by omega) (fun _ => ⟨ni_inx (n := n') (m := 400) hb1 hn' (by decide), h2⟩) rfl hb1⟩⟩
  have last : ∀ hb : fxI3, FrV hi hb → TP hb (n + 4) (ap1 T n x) → fx_E (fx_Ga d) fx_M88 (3, [some xO, some (vi x), some (vi (-8))], [], hp σ hb hl, 0, 0) Post := fun hb g1 g2 => fx_wpL [3] 20 ⟨fun _ => ⟨rfl, hb, rfl, g1, g2⟩, fun (z : ¬ (-8 : Int32) < 0) => absurd (by decide) z⟩
  have body : fx_E (fx_Ga d) fx_M88 (3, [some xO, some (vi x), some (vi (nI 24))], [], hp σ hi hl, 0, 0) Post := by
    refine one 24 16 n (nI 16) hi (by omega) (by omega) h1 (by decide) ?_
    refine one 16 8 (n + 1) (nI 8) _ (by omega) (by omega) (up_at _ _ _ _ _) (by decide) ?_
    refine one 8 0 (n + 2) (nI 0) _ (by omega) (by omega) (up_at _ _ _ _ _) (by decide) ?_
    refine one 0 0 (n + 3) (-8) _ (by omega) (by omega) (up_at _ _ _ _ _) (by decide) ?_
    refine last _ (fun k j s h => ?_) ⟨up_at _ _ _ _ _, fun i hi2 => ?_⟩
    · rw [up_off _ _ (by omega), up_off _ _ (by omega), up_off _ _ (by omega), up_off _ _ (by omega), up_off _ _ (by omega), up_off _ _ (by omega), up_off _ _ (by omega), up_off _ _ (by omega)]
    · rw [up_off _ _ (by omega)]
      unfold ap1
      by_cases e3 : i = n + 3
      · subst e3
        rw [up_at, if_pos rfl]
        rfl
      · rw [up_off _ _ (by omega), up_off _ _ (by omega), if_neg e3]
        by_cases e2 : i = n + 2
        · subst e2
          rw [up_at, if_pos rfl]
          rfl
        · rw [up_off _ _ (by omega), up_off _ _ (by omega), if_neg e2]
          by_cases e1 : i = n + 1
          · subst e1
            rw [up_at, if_pos rfl]
            rfl
          · rw [up_off _ _ (by omega), up_off _ _ (by omega), if_neg e1]
            by_cases e0 : i = n
            · subst e0
              rw [up_at, if_pos rfl]
              rfl
            · rw [up_off _ _ (by omega), if_neg e0]
              exact hT i (by omega)
  obtain ⟨r, h', hg', e1, hi', e2, e3⟩ := fx_methX (d := d) (y := 88) (av := [xO, vi x]) (h := hp σ hi hl) (P := Post) fx_M88 [some xO, some (vi x), none] (by decide) rfl rfl (Nat.le_of_ble_eq_true rfl) (fx_wpE [3] 9 body)
  subst e1
  subst e2
  exact ⟨hi', hg', e3⟩
theorem m_feed (ht : TM hi n T) (a b c e f : Int32) : ∃ hi', fx_Ga (d + 2) 146 [mO, vi a, vi b, vi c, vi e, vi f] (hp σ hi hl) (some (vi (if n ≤ 380 then nI (n + 20) else -1))) (hp σ hi' hl) ∧ FrT hi hi' ∧ TM hi' (if n ≤ 380 then n + 20 else n) (if n ≤ 380 then feT T n a b c e f else T) := by
  let Post : Option fxV → fxH → Prop := fun r2 h2 => r2 = some (vi (if n ≤ 380 then nI (n + 20) else -1)) ∧ ∃ hi', h2 = hp σ hi' hl ∧ FrT hi hi' ∧ TM hi' (if n ≤ 380 then n + 20 else n) (if n ≤ 380 then feT T n a b c e f else T)
  have h400 := ht.1
  have e1 : hi 11 0 1 + 20 = nI (n + 20) := by
    rw [ht.2.1]
    exact nI_add n 20
  have body : fx_E (fx_Ga (d + 1)) fx_M146 (0, [some mO, some (vi a), some (vi b), some (vi c), some (vi e), some (vi f)], [], hp σ hi hl, 0, 0) Post := by
    refine fx_wpE [] 60 (pk_le (n + 20) 400 (fun hle => ?_) (fun hgt => ⟨by rw [if_neg (by omega)]; rfl, hi, rfl, FrT.rf hi, by rw [if_neg (by omega), if_neg (by omega)]; exact ht⟩) e1)
    obtain ⟨h1, g1, f1, t1⟩ := m_four (d := d) (σ := σ) (hl := hl) ht (by omega) a
    obtain ⟨h2, g2, f2, t2⟩ := m_four (d := d) (σ := σ) (hl := hl) t1 (by omega) b
    obtain ⟨h3, g3, f3, t3⟩ := m_four (d := d) (σ := σ) (hl := hl) t2 (by omega) c
    obtain ⟨h4, g4, f4, t4⟩ := m_four (d := d) (σ := σ) (hl := hl) t3 (by omega) e
    obtain ⟨h5, g5, f5, t5⟩ := m_four (d := d) (σ := σ) (hl := hl) t4 (by omega) f
    refine ⟨_, _, g1, _, _, g2, _, _, g3, _, _, g4, _, _, g5, ?_, h5, rfl, (((f1.tr f2).tr f3).tr f4).tr f5, ?_⟩
    · rw [if_pos (by omega)]
      exact congrArg (fun z => some (vi z)) t5.2.1
    · rw [if_pos (by omega), if_pos (by omega)]
      exact t5
  obtain ⟨r, h', hg', e1, hi', e2, e3⟩ := fx_methX (d := d + 1) (y := 146) (av := [mO, vi a, vi b, vi c, vi e, vi f]) (h := hp σ hi hl) (P := Post) fx_M146 [some mO, some (vi a), some (vi b), some (vi c), some (vi e), some (vi f)] (by decide) rfl rfl (Nat.le_of_ble_eq_true rfl) body
  subst e1
  subst e2
  exact ⟨hi', hg', e3⟩
theorem x_feed (ht : TP hi n T) (h400 : n ≤ 400) (a b c e f : Int32) : ∃ hi', fx_Ga (d + 2) 87 [xO, vi a, vi b, vi c, vi e, vi f] (hp σ hi hl) (some (vi (if n ≤ 380 then nI (n + 20) else -1))) (hp σ hi' hl) ∧ FrV hi hi' ∧ TP hi' (if n ≤ 380 then n + 20 else n) (if n ≤ 380 then feT T n a b c e f else T) := by
  let Post : Option fxV → fxH → Prop := fun r2 h2 => r2 = some (vi (if n ≤ 380 then nI (n + 20) else -1)) ∧ ∃ hi', h2 = hp σ hi' hl ∧ FrV hi hi' ∧ TP hi' (if n ≤ 380 then n + 20 else n) (if n ≤ 380 then feT T n a b c e f else T)
  have body : fx_E (fx_Ga (d + 1)) fx_M87 (0, [some xO, some (vi a), some (vi b), some (vi c), some (vi e), some (vi f)], [], hp σ hi hl, 0, 0) Post := by
    refine fx_wpE [] 60 (pk_le n 380 (fun hle => ?_) (fun hgt => ⟨by rw [if_neg (by omega)]; rfl, hi, rfl, FrV.rf hi, by rw [if_neg (by omega), if_neg (by omega)]; exact ht⟩) ht.1)
    obtain ⟨h1, g1, f1, t1⟩ := x_append (d := d) (σ := σ) (hl := hl) ht (by omega) a
    obtain ⟨h2, g2, f2, t2⟩ := x_append (d := d) (σ := σ) (hl := hl) t1 (by omega) b
    obtain ⟨h3, g3, f3, t3⟩ := x_append (d := d) (σ := σ) (hl := hl) t2 (by omega) c
    obtain ⟨h4, g4, f4, t4⟩ := x_append (d := d) (σ := σ) (hl := hl) t3 (by omega) e
    obtain ⟨h5, g5, f5, t5⟩ := x_append (d := d) (σ := σ) (hl := hl) t4 (by omega) f
    refine ⟨_, _, g1, _, _, g2, _, _, g3, _, _, g4, _, _, g5, ?_, h5, rfl, (((f1.tr f2).tr f3).tr f4).tr f5, ?_⟩
    · rw [if_pos (by omega)]
      exact congrArg (fun z => some (vi z)) t5.1
    · rw [if_pos (by omega), if_pos (by omega)]
      exact t5
  obtain ⟨r, h', hg', e1, hi', e2, e3⟩ := fx_methX (d := d + 1) (y := 87) (av := [xO, vi a, vi b, vi c, vi e, vi f]) (h := hp σ hi hl) (P := Post) fx_M87 [some xO, some (vi a), some (vi b), some (vi c), some (vi e), some (vi f)] (by decide) rfl rfl (Nat.le_of_ble_eq_true rfl) body
  subst e1
  subst e2
  exact ⟨hi', hg', e3⟩
def cEnd (n : Nat) (k : Int32) : Prop := 0 ≤ k ∧ k ≤ nI n
theorem m_end (ht : TM hi n T) (k : Int32) [Decidable (cEnd n k)] : fx_Ga (d + 1) 147 [mO, vi k] (hp σ hi hl) (some (vi (if cEnd n k then k else -1))) (hp σ (if cEnd n k then fx_up hi 11 0 1 k else hi) hl) := by
  refine fx_meth fx_M147 [some mO, some (vi k)] (by decide) rfl rfl (Nat.le_of_ble_eq_true rfl) (fx_wpE [] 30 ?_)
  refine ⟨fun (z : k < 0) => ?_, fun (z : ¬ k < 0) => ⟨fun (y : k ≤ hi 11 0 1) => ?_, fun (y : ¬ k ≤ hi 11 0 1) => ?_⟩⟩
  · have hn : ¬ cEnd n k := fun h => Int32.not_lt.mpr h.1 z
    rw [if_neg hn, if_neg hn]
    exact ⟨rfl, rfl⟩
  · have hn : cEnd n k := ⟨Int32.not_lt.mp z, by rw [← ht.2.1]; exact y⟩
    rw [if_pos hn, if_pos hn]
    exact ⟨rfl, rfl⟩
  · have hn : ¬ cEnd n k := fun h => y (by rw [ht.2.1]; exact h.2)
    rw [if_neg hn, if_neg hn]
    exact ⟨rfl, rfl⟩
theorem x_end (ht : TP hi n T) (k : Int32) [Decidable (cEnd n k)] : fx_Ga (d + 1) 89 [xO, vi k] (hp σ hi hl) (some (vi (if cEnd n k then k else -1))) (hp σ (if cEnd n k then fx_up hi 10 0 1 k else hi) hl) := by
  refine fx_meth fx_M89 [some xO, some (vi k)] (by decide) rfl rfl (Nat.le_of_ble_eq_true rfl) (fx_wpE [] 30 ?_)
  refine ⟨fun (z : k < 0) => ?_, fun (z : ¬ k < 0) => ⟨fun (y : k ≤ hi 10 0 1) => ?_, fun (y : ¬ k ≤ hi 10 0 1) => ?_⟩⟩
  · have hn : ¬ cEnd n k := fun h => Int32.not_lt.mpr h.1 z
    rw [if_neg hn, if_neg hn]
    exact ⟨rfl, rfl⟩
  · have hn : cEnd n k := ⟨Int32.not_lt.mp z, by rw [← ht.1]; exact y⟩
    rw [if_pos hn, if_pos hn]
    exact ⟨rfl, rfl⟩
  · have hn : ¬ cEnd n k := fun h => y (by rw [ht.1]; exact h.2)
    rw [if_neg hn, if_neg hn]
    exact ⟨rfl, rfl⟩
def cForce (N : Nat) (r : Int32) : Prop := r = -1 ∨ 0 ≤ r ∧ r < nI N
theorem m_isRule {N : Nat} (h2 : hi 11 0 2 = nI N) (r : Int32) : fx_Ga (d + 1) 181 [mO, vi r] (hp σ hi hl) (some (vi (b01 (decide (0 ≤ r ∧ r < nI N))))) (hp σ hi hl) := by
  refine fx_meth fx_M181 [some mO, some (vi r)] (by decide) rfl rfl (Nat.le_of_ble_eq_true rfl) (fx_wpE [] 30 ?_)
  refine ⟨fun (z : r < 0) => ⟨Or.inl rfl, ?_, rfl⟩, fun (z : ¬ r < 0) => ⟨fun (y : hi 11 0 2 ≤ r) => ⟨Or.inl rfl, ?_, rfl⟩, fun (y : ¬ hi 11 0 2 ≤ r) => ⟨Or.inr rfl, ?_, rfl⟩⟩⟩
  · rw [decide_eq_false (fun h => Int32.not_lt.mpr h.1 z)]
    rfl
  · rw [h2] at y
    rw [decide_eq_false (fun h => Int32.not_le.mpr h.2 y)]
    rfl
  · rw [h2] at y
    rw [decide_eq_true ⟨Int32.not_lt.mp z, Int32.not_le.mp y⟩]
    rfl
theorem m_force {N : Nat} (h2 : hi 11 0 2 = nI N) (r : Int32) [Decidable (cForce N r)] : fx_Ga (d + 2) 197 [mO, vi r] (hp σ hi hl) (some (vi (if cForce N r then hi 11 0 21 else -2))) (hp σ (if cForce N r then fx_up hi 11 0 21 r else hi) hl) := by
  refine fx_meth fx_M197 [some mO, some (vi r), none] (by decide) rfl rfl (Nat.le_of_ble_eq_true rfl) (fx_wpE [] 30 ?_)
  refine ⟨fun (z : r = -1) => ?_, fun (z : ¬ r = -1) => ⟨_, _, m_isRule h2 r, bd_nf (fun hc => ?_) (fun hc => ?_)⟩⟩
  · have hn : cForce N r := Or.inl z
    rw [if_pos hn, if_pos hn]
    exact ⟨rfl, rfl⟩
  · have hn : cForce N r := Or.inr hc
    rw [if_pos hn, if_pos hn]
    exact ⟨rfl, rfl⟩
  · have hn : ¬ cForce N r := fun h => h.elim z hc
    rw [if_neg hn, if_neg hn]
    exact ⟨rfl, rfl⟩
theorem force_iff {N : Nat} (hN : N ≤ 6) (r : Int32) : (-1 ≤ r ∧ r ≤ nI N - 1) ↔ cForce N r := by
  unfold cForce
  have h1 := ofI_lt N hN r
  constructor
  · intro h
    by_cases z : r < 0
    · left
      have a := Int32.le_iff_toInt_le.mp h.1
      have b := Int32.lt_iff_toInt_lt.mp z
      apply Int32.toInt_inj.mp
      have e1 : (-1 : Int32).toInt = -1 := by decide
      have e2 : (0 : Int32).toInt = 0 := by decide
      rw [e1] at a ⊢
      rw [e2] at b
      omega
    · exact Or.inr (h1.mp ⟨Int32.not_lt.mp z, h.2⟩)
  · intro h
    rcases h with h | h
    · subst h
      refine ⟨by decide, ?_⟩
      rcases (show N = 0 ∨ N = 1 ∨ N = 2 ∨ N = 3 ∨ N = 4 ∨ N = 5 ∨ N = 6 by omega) with rfl | rfl | rfl | rfl | rfl | rfl | rfl <;> decide
    · refine ⟨?_, (h1.mpr h).2⟩
      have a := Int32.le_iff_toInt_le.mp h.1
      have e1 : (-1 : Int32).toInt = -1 := by decide
      have e2 : (0 : Int32).toInt = 0 := by decide
      rw [e2] at a
      apply Int32.le_iff_toInt_le.mpr
      rw [e1]
      omega
theorem x_force {N : Nat} (h5 : hi 10 0 5 = nI N) (hN : N ≤ 6) (r : Int32) [Decidable (cForce N r)] : fx_Ga (d + 2) 92 [xO, vi r] (hp σ hi hl) (some (vi (if cForce N r then hi 9 0 3 else -2))) (hp σ (if cForce N r then fx_up hi 9 0 3 r else hi) hl) := by
  have hw := x_within (d := d) (h := hp σ hi hl) r (-1) (nI N - 1)
  rw [← h5] at hw
  refine fx_meth fx_M92 [some xO, some (vi r), none] (by decide) rfl rfl (Nat.le_of_ble_eq_true rfl) (fx_wpE [] 30 ?_)
  refine ⟨_, _, hw, bd_nf (fun hc => ?_) (fun hc => ?_)⟩
  · rw [h5] at hc
    have hn : cForce N r := (force_iff hN r).mp hc
    rw [if_pos hn, if_pos hn]
    exact ⟨rfl, rfl⟩
  · rw [h5] at hc
    have hn : ¬ cForce N r := fun h => hc ((force_iff hN r).mpr h)
    rw [if_neg hn, if_neg hn]
    exact ⟨rfl, rfl⟩
theorem m_seed (x : Int32) : fx_Ga (d + 1) 244 [mO, vi x] (hp σ hi hl) (some (vi (if 0 ≤ x then hi 11 0 22 else -1))) (hp σ (if 0 ≤ x then fx_up hi 11 0 22 x else hi) hl) := by
  refine fx_meth fx_M244 [some mO, some (vi x), none] (by decide) rfl rfl (Nat.le_of_ble_eq_true rfl) (fx_wpE [] 30 ?_)
  refine ⟨fun (z : 0 ≤ x) => ?_, fun (z : ¬ 0 ≤ x) => ?_⟩
  · rw [if_pos z, if_pos z]
    exact ⟨rfl, rfl⟩
  · rw [if_neg z, if_neg z]
    exact ⟨rfl, rfl⟩
theorem x_seed (x : Int32) : fx_Ga (d + 1) 134 [xO, vi x] (hp σ hi hl) (some (vi (if 0 ≤ x then hi 9 0 4 else -1))) (hp σ (if 0 ≤ x then fx_up hi 9 0 4 x else hi) hl) := by
  refine fx_meth fx_M134 [some xO, some (vi x), none] (by decide) rfl rfl (Nat.le_of_ble_eq_true rfl) (fx_wpE [] 30 ?_)
  refine ⟨fun (z : 0 ≤ x) => ?_, fun (z : ¬ 0 ≤ x) => ?_⟩
  · rw [if_pos z, if_pos z]
    exact ⟨rfl, rfl⟩
  · rw [if_neg z, if_neg z]
    exact ⟨rfl, rfl⟩
end TA
