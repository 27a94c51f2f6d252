/-! by which rules days were: the class -/
def rr (R : Nat → fxRl) (p : Nat) : Option fxRl := match p with
  | 0 => none
  | p + 1 => some (R p)
def rp (p : Nat) : Option Nat := match p with
  | 0 => none
  | p + 1 => some p
theorem oI_rp (p : Nat) : oI (rp p) = tI p := by cases p <;> rfl
theorem nI_m1 (p : Nat) : nI p - 1 = tI p := by
  cases p with
  | zero => rfl
  | succ p => exact nI_pred p
theorem rp_lt {p n : Nat} (h : p ≤ n) : ∀ t, rp p = some t → t < n := fun t ht => by
  cases p with
  | zero => cases ht
  | succ p => cases ht; omega
def vFt (R : Nat → fxRl) (v : Nat → Nat) (p : Nat) : Bool := vFi (rr R p) v 61
def vRu (R : Nat → fxRl) (v : Nat → Nat) (n p r : Nat) : Nat := vIt (rr R p) n (vBg v) (12 + 4 * r)
def vAl (ft : Nat → Bool) (run : Nat → Nat) (a : Nat) : Nat → Nat
  | 0 => 0
  | b + 1 => vAl ft run a b + (if ft a = true ∧ ft b = true ∧ run a = run b then 1 else 0)
def vMa (ft : Nat → Bool) (run : Nat → Nat) (m : Nat) : Nat → Nat
  | 0 => 0
  | a + 1 => max (vMa ft run m a) (vAl ft run a m)
theorem vAl_le (ft : Nat → Bool) (run : Nat → Nat) (a : Nat) : ∀ b, vAl ft run a b ≤ b
  | 0 => Nat.le_refl _
  | b + 1 => by
    have := vAl_le ft run a b
    unfold vAl
    split <;> omega
theorem vAl_no (ft : Nat → Bool) (run : Nat → Nat) {a : Nat} (h : ft a = false) : ∀ b, vAl ft run a b = 0
  | 0 => rfl
  | b + 1 => by
    unfold vAl
    rw [vAl_no ft run h b, if_neg (by rw [h]; simp)]
theorem vAl_pos (ft : Nat → Bool) (run : Nat → Nat) {a : Nat} (h : ft a = true) : ∀ b, a < b → 1 ≤ vAl ft run a b
  | 0, hb => by omega
  | b + 1, hb => by
    unfold vAl
    by_cases e : a = b
    · subst e
      rw [if_pos ⟨h, h, rfl⟩]
      omega
    · have := vAl_pos ft run h b (by omega)
      omega
theorem vMa_le (ft : Nat → Bool) (run : Nat → Nat) (m : Nat) : ∀ a, vMa ft run m a ≤ m
  | 0 => Nat.zero_le _
  | a + 1 => Nat.max_le.mpr ⟨vMa_le ft run m a, vAl_le ft run a m⟩
theorem vMa_no (ft : Nat → Bool) (run : Nat → Nat) (m : Nat) : ∀ a, (∀ q, q < a → ft q = false) → vMa ft run m a = 0
  | 0, _ => rfl
  | a + 1, h => by
    unfold vMa
    rw [vMa_no ft run m a (fun q hq => h q (by omega)), vAl_no ft run (h a (by omega))]
    rfl
theorem vMa_pos (ft : Nat → Bool) (run : Nat → Nat) {m q : Nat} (h : ft q = true) (hq : q < m) : ∀ a, q < a → 1 ≤ vMa ft run m a
  | 0, ha => by omega
  | a + 1, ha => by
    unfold vMa
    by_cases e : q = a
    · subst e
      exact Nat.le_trans (vAl_pos ft run h m hq) (Nat.le_max_right _ _)
    · exact Nat.le_trans (vMa_pos ft run h hq a (by omega)) (Nat.le_max_left _ _)
theorem vCu_0 (ft : Nat → Bool) : ∀ t i, vCu ft t i = 0 → ∀ q, i ≤ q → q < i + t → ft q = false
  | 0, i, _, q, h1, h2 => by omega
  | t + 1, i, h, q, h1, h2 => by
    unfold vCu at h
    cases hf : ft i with
    | true => rw [hf] at h; simp at h
    | false =>
      by_cases e : q = i
      · rw [e]; exact hf
      · exact vCu_0 ft t (i + 1) (by omega) q (by omega) (by omega)
theorem vCu_1 (ft : Nat → Bool) : ∀ t i, vCu ft t i ≠ 0 → ∃ q, i ≤ q ∧ q < i + t ∧ ft q = true
  | 0, i, h => absurd rfl h
  | t + 1, i, h => by
    cases hf : ft i with
    | true => exact ⟨i, Nat.le_refl _, by omega, hf⟩
    | false =>
      unfold vCu at h
      rw [hf] at h
      obtain ⟨q, h1, h2, h3⟩ := vCu_1 ft t (i + 1) (by simpa using h)
      exact ⟨q, by omega, by omega, h3⟩
def vLk (al : Nat → Nat) : Nat → Option Nat × Nat
  | 0 => (none, 8)
  | r + 1 => if al r < (vLk al r).2 then (some r, al r) else vLk al r
theorem vLk_ok (al : Nat → Nat) (h : ∀ r, al r ≤ 7) : ∀ r, (vLk al r).2 ≤ 8 ∧ (∀ b, (vLk al r).1 = some b → b < r) ∧ (0 < r → ∃ b, (vLk al r).1 = some b)
  | 0 => ⟨Nat.le_refl _, fun b hb => (by cases hb), fun z => absurd z (by omega)⟩
  | r + 1 => by
    obtain ⟨h1, h2, h3⟩ := vLk_ok al h r
    have := h r
    unfold vLk
    split
    · exact ⟨by dsimp only; omega, fun b hb => by cases hb; omega, fun _ => ⟨r, rfl⟩⟩
    · rename_i hc
      refine ⟨h1, fun b hb => by have := h2 b hb; omega, fun _ => h3 ?_⟩
      by_cases e : r = 0
      · subst e
        exact absurd (show al 0 < 8 by omega) hc
      · omega
def tO (o : Option Nat) : Int32 := match o with
  | none => -2
  | some p => tI p
def aRuled (R : Nat → fxRl) (N : Nat) (v : Nat → Nat) (w : Int32) : Int32 := if v 0 = 1 ∧ (0 ≤ w ∧ w ≤ 1) then (if w = 0 then nI (vCu (vFt R v) (N + 1) 0) else tO (vFst (vFt R v) (N + 1) 0)) else -3
def vAk (R : Nat → fxRl) (N : Nat) (v : Nat → Nat) (n r : Nat) : Nat := vMa (vFt R v) (fun p => vRu R v n p r) (N + 1) (N + 1)
def aLook (R : Nat → fxRl) (N : Nat) (v : Nat → Nat) (n w : Int32) : Int32 := if v 0 = 1 ∧ (0 ≤ n ∧ n ≤ 60) ∧ (0 ≤ w ∧ w ≤ 1) then (if vCu (vFt R v) (N + 1) 0 = 0 ∨ v 4 = 0 then -2 else if w = 0 then oI (vLk (vAk R N v n.toNatClampNeg) (v 4)).1 else nI (vLk (vAk R N v n.toNatClampNeg) (v 4)).2) else -1
theorem nar_b01 (b : Bool) : vp_nar .boolean (b01 b) = b01 b := by cases b <;> rfl
/-- what is judged of place p -/
def JX (hi : fxI3) (R : Nat → fxRl) (v : Nat → Nat) (n p : Nat) : Prop := hi 43 0 p = b01 (vFt R v p) ∧ (vFt R v p = true → ∀ r, r < v 4 → hi 44 0 (6 * p + r) = nI (vRu R v n p r))
section JU
variable {d : Nat} {σ : fxS} {hi : fxI3} {hl : fxL3} {v : Nat → Nat} {rl : Option fxRl} {f : Option Nat} {R : Nat → fxRl}
theorem x_isSoBy (hn : NX σ hi hl v f rl) (hb : PX hi hl 1 (vBg v)) (ht : TOK v) (hnt : NT hi 0 v) (hno : NOK v) (hR : ∀ t, t < σ.2.1 → RX σ hi t (R t)) {p n : Nat} (hp1 : p ≤ σ.2.1) (hn60 : n ≤ 60) : ∃ hi' hl', fx_Ga (d + 6) 132 [xO, vi (nI p), vi (nI n)] (hp σ hi hl) (some (vi (b01 (vFt R v p)))) (hp σ hi' hl') ∧ FrY hi hi' ∧ FlY hl hl' ∧ (∀ q, hi' 43 0 q = hi 43 0 q) ∧ (∀ q, ¬ (6 * p ≤ q ∧ q < 6 * p + 6) → hi' 44 0 q = hi 44 0 q) ∧ (vFt R v p = true → ∀ r, r < v 4 → hi' 44 0 (6 * p + r) = nI (vRu R v n p r)) := by
  obtain ⟨hv, hg, hs, n4, n5, n6, n7, n8, n9⟩ := id hn
  have h4 := hs.1
  have hsb := hs.bg ht
  have b4 : vBg v 4 = v 4 := vBg_ne v (by omega)
  have b10 : vBg v 10 = 0 := rfl
  let Post : Option fxV → fxH → Prop := fun r2 h2 => r2 = some (vi (b01 (vFt R v p))) ∧ ∃ hi' hl', h2 = hp σ hi' hl' ∧ FrY hi hi' ∧ FlY hl hl' ∧ (∀ q, hi' 43 0 q = hi 43 0 q) ∧ (∀ q, ¬ (6 * p ≤ q ∧ q < 6 * p + 6) → hi' 44 0 q = hi 44 0 q) ∧ (vFt R v p = true → ∀ r, r < v 4 → hi' 44 0 (6 * p + r) = nI (vRu R v n p r))
  have hro := x_ruleOf (d := d + 3) (σ := σ) (hi := hi) (hl := hl) (f := rp p) n5 n6 (rp_lt hp1)
  rw [oI_rp, ← nI_m1] at hro
  have hls := x_lastStep (d := d + 4) (σ := σ) (hl := hl) hnt hno
  have l60 := vLs_le v (v 82) (fun k hk => (hno.2 k hk).1)
  have hL : (if nI n < nI (vLs v (v 82)) then nI (vLs v (v 82)) else nI n) = nI (max n (vLs v (v 82))) := max_nI _ _ (by omega) (by omega)
  have hLn : n ≤ max n (vLs v (v 82)) := Nat.le_max_left _ _
  have hLk : ∀ k, k < v 82 → v (52 + 3 * k) ≤ max n (vLs v (v 82)) := fun k hk => Nat.le_trans (vLs_ge v _ k hk) (Nat.le_max_right _ _)
  have hL60 : max n (vLs v (v 82)) ≤ 60 := Nat.max_le.mpr ⟨hn60, l60⟩
  obtain ⟨hi1, hl1, hg1, f1, f2, hv1⟩ := x_copyFrom (d := d + 4) (σ := σ) (a := 23) (b := 1) (by decide) hb hsb.1
  generalize max n (vLs v (v 82)) = L at hL hLn hLk hL60
  have hTX : ∀ hb : fxI3, FrY hi hb → TX σ hb (rp p) (rr R p) := fun hb g1 => by
    cases p with
    | zero => trivial
    | succ p => exact RX_fr (fun t s => g1 45 t s (by unfold scx; omega)) (fun t => g1 5 t 1 (by unfold scx; omega)) (hR p (by omega))
  have hft : vFt R v p = vFi (rr R p) v 61 := rfl
  have hru : ∀ r, vRu R v n p r = vIt (rr R p) n (vBg v) (12 + 4 * r) := fun r => rfl
  generalize rr R p = rl2 at hTX hft hru
  have loop : ∀ t i (hb : fxI3) (hlb : fxL3), i + t = L + 1 → FrY hi hb → FlY hl hlb → (∀ q, hb 43 0 q = hi 43 0 q) → (∀ q, ¬ (6 * p ≤ q ∧ q < 6 * p + 6) → hb 44 0 q = hi 44 0 q) → (n < i → ∀ r, r < v 4 → hb 44 0 (6 * p + r) = nI (vRu R v n p r)) → PX hb hlb 23 (vIt rl2 i (vBg v)) → vFi rl2 v i = true → fx_E (fx_Ga (d + 5)) fx_M132 (41, [some xO, some (vi (nI p)), some (vi (nI n)), some (rR (rp p)), some (vi (nI L)), some (vi (nI i))], [], hp σ hb hlb, 0, 0) Post := by
    intro t
    induction t with
    | zero =>
      intro i hb hlb hi0 g1 g2 g3 g4 g5 hvb hfi
      have : i = L + 1 := by omega
      subst this
      have hf1 : vFt R v p = true := by
        rw [hft]
        have := vFi_last rl2 v hLk (60 - L)
        rw [show L + 1 + (60 - L) = 61 by omega] at this
        rw [this]
        exact hfi
      refine fx_wpL [41] 20 (pk_lt L (L + 1) (fun _ => ⟨Or.inr rfl, ?_, hb, hlb, rfl, g1, g2, g3, g4, fun _ => g5 (by omega)⟩) (fun hc => by omega))
      rw [hf1]
      rfl
    | succ t ih =>
      intro i hb hlb hi0 g1 g2 g3 g4 g5 hvb hfi
      have hsi := hsb.it rl2 i
      have i10 : vIt rl2 i (vBg v) 10 = i := by rw [vIt_10, b10, Nat.zero_add]
      have i4 : vIt rl2 i (vBg v) 4 = v 4 := (vIt_lo rl2 _ (by decide) i).trans b4
      have hsv := hsi.sv (by omega)
      have hnb : NT hb 0 v := ⟨(g1 3 0 0 (by unfold scx; omega)).trans hnt.1, fun k hk => ⟨(g1 30 0 k (by unfold scx; omega)).trans (hnt.2 k hk).1, (g1 31 0 k (by unfold scx; omega)).trans (hnt.2 k hk).2.1, (g1 32 0 k (by unfold scx; omega)).trans (hnt.2 k hk).2.2⟩⟩
      have has := x_areSo (d := d + 3) (σ := σ) hvb hsv i4 hnb hno (n := i) (by omega) i10
      have hnx : vFi rl2 v (i + 1) = (vFi rl2 v i && vNt v (vIt rl2 i (vBg v)) i (v 82) 0) := rfl
      -- the step
      have tail : ∀ hc : fxI3, FrY hi hc → (∀ q, hc 43 0 q = hi 43 0 q) → (∀ q, ¬ (6 * p ≤ q ∧ q < 6 * p + 6) → hc 44 0 q = hi 44 0 q) → (n < i + 1 → ∀ r, r < v 4 → hc 44 0 (6 * p + r) = nI (vRu R v n p r)) → PX hc hlb 23 (vIt rl2 i (vBg v)) → vFi rl2 v (i + 1) = true → fx_E (fx_Ga (d + 5)) fx_M132 (94, [some xO, some (vi (nI p)), some (vi (nI n)), some (rR (rp p)), some (vi (nI L)), some (vi (nI i))], [], hp σ hc hlb, 0, 0) Post := by
        intro hc k1 k3 k4 k5 hvc hf2
        obtain ⟨hi3, hl3, hg3, p1, p2, hv3⟩ := x_take (d := d) (σ := σ) (j := 23) (row := none) hvc hsv (ht.1.it hsb.1 rl2 i) (by have := hsi.2.2.2.2.1; omega) ((k1 8 0 3 (by unfold scx; omega)).trans n9) (hTX hc k1)
        refine fx_wpE [41] 30 ⟨_, _, hg3, ?_⟩
        have h2 := ih (i + 1) hi3 hl3 (by omega) (k1.tr (p1.y (by decide))) (g2.tr p2.y) (fun q => (p1 43 0 q (by decide) (by omega)).trans (k3 q)) (fun q hq => (p1 44 0 q (by decide) (by omega)).trans (k4 q hq)) (fun hni r hr => (p1 44 0 _ (by decide) (by omega)).trans (k5 hni r hr)) hv3 hf2
        rw [← nI_1] at h2
        exact h2
      refine fx_wpL [41, 91, 94] 40 (pk_lt L i (fun hc => by omega) (fun _ => ⟨_, _, has, b01_nf (fun hso => ?_) (fun hso => ⟨Or.inl rfl, ?_, hb, hlb, rfl, g1, g2, g3, g4, ?_⟩)⟩))
      · have hf2 : vFi rl2 v (i + 1) = true := by rw [hnx, hfi, hso]; rfl
        refine nn_eq i n (fun hin => ?_) (fun hin => tail hb g1 g3 g4 (fun hni => g5 (by omega)) hvb hf2)
        subst hin
        have e6 : (nI p * 6 : Int32) = nI (6 * p) := by
          show nI p * nI 6 = _
          rw [pk_mul, Nat.mul_comm]
        have hdp : (nI p * 6 : Int32).toInt = ((6 * p : Nat) : Int) := by rw [e6, nI_toInt (by omega)]
        refine fx_E_step (i := .invokestatic 325) (x' := (94, [some xO, some (vi (nI p)), some (vi (nI i)), some (rR (rp p)), some (vi (nI L)), some (vi (nI i))], [], hp σ (fx_all hb 44 0 (va_cpy (hb 21 23) (hb 44 0) 0 (6 * p) 6)) hlb, 0, 0)) rfl rfl rfl ?_ ?_
        · show (if 0 ≤ (0 : Int32).toInt ∧ 0 ≤ (nI p * 6 : Int32).toInt ∧ 0 ≤ (6 : Int32).toInt ∧ (0 : Int32).toInt + (6 : Int32).toInt ≤ ((6 : Nat) : Int) ∧ (nI p * 6 : Int32).toInt + (6 : Int32).toInt ≤ ((42 : Nat) : Int) then some (94, _, _, fx_wa (hp σ hb hlb) 44 0 (va_cpy (hb 21 23) (hb 44 0) (0 : Int32).toNatClampNeg (nI p * 6 : Int32).toNatClampNeg (6 : Int32).toNatClampNeg), _, _) else none) = _
          rw [if_pos (by rw [hdp]; refine ⟨by decide, by omega, by decide, by decide, ?_⟩; show ((6 * p : Nat) : Int) + 6 ≤ _; omega), ni_cl e6 (by omega)]
          rfl
        · refine tail _ (g1.tr (fun k j s h => congrFun (fx_all_ne hb _ (a := k) (b := j) (fun z => h (by unfold scx; omega))) s)) g3 (fun q hq => ?_) (fun _ r hr => ?_) hvb hf2
          · rw [all_at, pk_cpy_out (by omega)]
            exact g4 q hq
          · rw [all_at, pk_cpy_in (by omega) (by omega), show 0 + (6 * p + r - 6 * p) = r by omega, hru]
            exact (hvb.2.2.2.2.2.2.2 r (by rw [i4]; exact hr)).1
      · rw [hft, vFi_false rl2 v hso 61 (by omega)]
        rfl
      · rw [hft, vFi_false rl2 v hso 61 (by omega)]
        intro z
        cases z
  obtain ⟨r, h', hg', e1, hi', hl', e2, e3⟩ := fx_methX (d := d + 5) (y := 132) (av := [xO, vi (nI p), vi (nI n)]) (h := hp σ hi hl) (P := Post) fx_M132 [some xO, some (vi (nI p)), some (vi (nI n)), none, none, none] (by decide) rfl rfl (Nat.le_of_ble_eq_true rfl) (fx_wpE [41] 40 (by
    refine ⟨_, _, hro, _, _, hls, _, _, hg1, ?_⟩
    have h3 := loop (L + 1) 0 hi1 hl1 (by omega) (fun k j s h => f1 k j s (fun z => h (by unfold scx; omega))) (fun k j s _ _ h => f2 k j s (fun z => h (by omega))) (fun q => f1 43 0 q (by omega)) (fun q _ => f1 44 0 q (by omega)) (fun z => absurd z (by omega)) hv1 rfl
    rw [← hL] at h3
    exact h3))
  subst e1
  subst e2
  exact ⟨hi', hl', hg', e3⟩
theorem x_judge (hn : NX σ hi hl v f rl) (hb : PX hi hl 1 (vBg v)) (ht : TOK v) (hnt : NT hi 0 v) (hno : NOK v) (hR : ∀ t, t < σ.2.1 → RX σ hi t (R t)) {n : Nat} (hn60 : n ≤ 60) : ∃ hi' hl', fx_Ga (d + 7) 131 [xO, vi (nI n)] (hp σ hi hl) (some (vi (nI (vCu (vFt R v) (σ.2.1 + 1) 0)))) (hp σ hi' hl') ∧ FrY hi hi' ∧ FlY hl hl' ∧ ∀ p, p ≤ σ.2.1 → JX hi' R v n p := by
  obtain ⟨hv, hg, hs, n4, n5, n6, n7, n8, n9⟩ := id hn
  have h4 := hs.1
  let Post : Option fxV → fxH → Prop := fun r2 h2 => r2 = some (vi (nI (vCu (vFt R v) (σ.2.1 + 1) 0))) ∧ ∃ hi' hl', h2 = hp σ hi' hl' ∧ FrY hi hi' ∧ FlY hl hl' ∧ ∀ p, p ≤ σ.2.1 → JX hi' R v n p
  have loop : ∀ t i c (hb' : fxI3) (hlb : fxL3), i + t = σ.2.1 + 1 → c + vCu (vFt R v) t i = vCu (vFt R v) (σ.2.1 + 1) 0 → FrY hi hb' → FlY hl hlb → (∀ p, p < i → JX hb' R v n p) → fx_E (fx_Ga (d + 6)) fx_M131 (4, [some xO, some (vi (nI n)), some (vi (nI c)), some (vi (nI i))], [], hp σ hb' hlb, 0, 0) Post := by
    intro t
    induction t with
    | zero =>
      intro i c hb' hlb hi0 hc g1 g2 g3
      have hc : c = vCu (vFt R v) (σ.2.1 + 1) 0 := hc
      refine fx_wpL [4] 20 (pk_lt σ.2.1 i (fun _ => ⟨by rw [← hc], hb', hlb, rfl, g1, g2, fun p hp2 => g3 p (by omega)⟩) (fun hc => by omega) ((g1 10 0 5 (by unfold scx; omega)).trans n5))
    | succ t ih =>
      intro i c hb' hlb hi0 hc g1 g2 g3
      have ci : (nI i).toNatClampNeg = i := nI_clamp (by omega)
      have bi := ni_in (n := i) (m := 7) (by omega) (by decide)
      obtain ⟨hi2, hl2, hg2, p1, p2, p3, p4, p5⟩ := x_isSoBy (d := d) (σ := σ) (R := R) (p := i) (n := n) (hn.fr g1 g2) (hb.y (by omega) g1 g2) ht ⟨(g1 3 0 0 (by unfold scx; omega)).trans hnt.1, fun k hk => ⟨(g1 30 0 k (by unfold scx; omega)).trans (hnt.2 k hk).1, (g1 31 0 k (by unfold scx; omega)).trans (hnt.2 k hk).2.1, (g1 32 0 k (by unfold scx; omega)).trans (hnt.2 k hk).2.2⟩⟩ hno (fun t ht2 => RX_fr (fun t s => g1 45 t s (by unfold scx; omega)) (fun t => g1 5 t 1 (by unfold scx; omega)) (hR t ht2)) (by omega) hn60
      have j3 : ∀ p, p < i + 1 → JX (fx_up hi2 43 0 i (b01 (vFt R v i))) R v n p := fun p hp2 => by
        unfold JX
        by_cases e : p = i
        · subst e
          refine ⟨up_at _ _ _ _ _, fun hf r hr => ?_⟩
          rw [up_off _ _ (by omega)]
          exact p5 hf r hr
        · obtain ⟨q1, q2⟩ := g3 p (by omega)
          refine ⟨by rw [up_off _ _ (by omega), p3]; exact q1, fun hf r hr => ?_⟩
          rw [up_off _ _ (by omega), p4 _ (by omega)]
          exact q2 hf r hr
      have F : FrY hi (fx_up hi2 43 0 i (b01 (vFt R v i))) := (g1.tr p1).tr (FrY.up hi2 _ (by unfold scx; omega))
      have eup : fx_up hi2 43 0 i (b01 (vFt R v i)) = fx_up hi2 43 0 (nI i).toNatClampNeg (vp_nar .boolean (b01 (vFt R v i))) := by rw [ci, nar_b01]
      refine fx_wpL [4] 40 (pk_lt σ.2.1 i (fun hc => by omega) (fun _ => ?_) ((g1 10 0 5 (by unfold scx; omega)).trans n5))
      refine ⟨_, _, hg2, bi, bi, ?_⟩
      have ev : fx_up hi2 43 0 (nI i).toNatClampNeg (vp_nar .boolean (b01 (vFt R v i))) 43 0 (nI i).toNatClampNeg = b01 (vFt R v i) := by rw [up_at, nar_b01]
      cases hf : vFt R v i with
      | false =>
        have h2 := ih (i + 1) c _ hl2 (by omega) (by rw [← hc, vCu, hf]; simp) F (g2.tr p2) j3
        rw [← nI_1, eup] at h2
        rw [hf] at ev h2
        exact ⟨fun _ => h2, fun z => absurd ev z⟩
      | true =>
        have h2 := ih (i + 1) (c + 1) _ hl2 (by omega) (by rw [← hc, vCu, if_pos hf]; omega) F (g2.tr p2) j3
        rw [← nI_1, ← nI_1, eup] at h2
        rw [hf] at ev h2
        exact ⟨fun z => absurd (ev.symm.trans z) (by decide), fun _ => h2⟩
  obtain ⟨r, h', hg', e1, hi', hl', e2, e3⟩ := fx_methX (d := d + 6) (y := 131) (av := [xO, vi (nI n)]) (h := hp σ hi hl) (P := Post) fx_M131 [some xO, some (vi (nI n)), none, none] (by decide) rfl rfl (Nat.le_of_ble_eq_true rfl) (fx_wpE [4] 20 (loop (σ.2.1 + 1) 0 0 hi hl (by omega) (by rw [Nat.zero_add]) (FrY.rf hi) (FlY.rf hl) (fun p hp2 => absurd hp2 (by omega))))
  subst e1
  subst e2
  exact ⟨hi', hl', hg', e3⟩
theorem x_mostAlike {ft : Nat → Bool} {run : Nat → Nat} {N r : Nat} (h5 : hi 10 0 5 = nI N) (hN : N ≤ 6) (hr : r < 6) (hJ : ∀ p, p ≤ N → hi 43 0 p = b01 (ft p) ∧ (ft p = true → hi 44 0 (6 * p + r) = nI (run p))) (hrun : ∀ p, run p < 2 ^ 31) : fx_Ga (d + 1) 133 [xO, vi (nI r)] (hp σ hi hl) (some (vi (nI (vMa ft run (N + 1) (N + 1))))) (hp σ hi hl) := by
  refine fx_meth fx_M133 [some xO, some (vi (nI r)), none, none, none, none] (by decide) rfl rfl (Nat.le_of_ble_eq_true rfl) ?_
  have ix : ∀ p : Nat, (nI p * 6 + nI r : Int32) = nI (6 * p + r) := fun p => by
    show nI p * nI 6 + nI r = _
    rw [pk_mul, nI_add, Nat.mul_comm]
  have loop : ∀ t a l4 l5, a + t = N + 1 → fx_E (fx_Ga d) fx_M133 (4, [some xO, some (vi (nI r)), some (vi (nI (vMa ft run (N + 1) a))), some (vi (nI a)), l4, l5], [], hp σ hi hl, 0, 0) (fun r2 h2 => r2 = some (vi (nI (vMa ft run (N + 1) (N + 1)))) ∧ h2 = hp σ hi hl) := by
    intro t
    induction t with
    | zero =>
      intro a l4 l5 ha
      have : a = N + 1 := by omega
      subst this
      exact fx_wpL [4] 20 (pk_lt N (N + 1) (fun _ => ⟨rfl, rfl⟩) (fun hc => by omega) h5)
    | succ t ih =>
      intro a l4 l5 ha
      have ma := vMa_le ft run (N + 1) a
      obtain ⟨a1, a2⟩ := hJ a (by omega)
      have ba := ni_in (n := a) (m := 7) (by omega) (by decide)
      have ea : hi 43 0 (nI a).toNatClampNeg = b01 (ft a) := by rw [nI_clamp (by omega)]; exact a1
      have inner : ∀ s b, b + s = N + 1 → fx_E (fx_Ga d) fx_M133 (18, [some xO, some (vi (nI r)), some (vi (nI (vMa ft run (N + 1) a))), some (vi (nI a)), some (vi (nI (vAl ft run a b))), some (vi (nI b))], [], hp σ hi hl, 0, 0) (fun r2 h2 => r2 = some (vi (nI (vMa ft run (N + 1) (N + 1)))) ∧ h2 = hp σ hi hl) := by
        intro s
        induction s with
        | zero =>
          intro b hb
          have : b = N + 1 := by omega
          subst this
          have al := vAl_le ft run a (N + 1)
          have h2 := ih (a + 1) (some (vi (nI (vAl ft run a (N + 1))))) (some (vi (nI (N + 1)))) (by omega)
          rw [vMa, ← max_nI _ _ (by omega) (by omega), ← nI_1 a] at h2
          exact fx_wpL [4, 18] 30 (pk_lt N (N + 1) (fun _ => h2) (fun hc => by omega) h5)
        | succ s ihs =>
          intro b hb
          have al := vAl_le ft run a b
          obtain ⟨b1, b2⟩ := hJ b (by omega)
          have bb := ni_in (n := b) (m := 7) (by omega) (by decide)
          have eb : hi 43 0 (nI b).toNatClampNeg = b01 (ft b) := by rw [nI_clamp (by omega)]; exact b1
          have h2 := ihs (b + 1) (by omega)
          rw [vAl, ← nI_1 b] at h2
          refine fx_wpL [4, 18] 40 (pk_lt N b (fun hc => by omega) (fun _ => ⟨ba, ?_⟩) h5)
          cases fa : ft a with
          | false =>
            rw [fa] at ea h2
            rw [if_neg (by simp)] at h2
            exact ⟨fun _ => h2, fun z => absurd ea z⟩
          | true =>
            rw [fa] at ea h2
            refine ⟨fun z => absurd (ea.symm.trans z) (by decide), fun _ => ⟨bb, ?_⟩⟩
            cases fb : ft b with
            | false =>
              rw [fb] at eb h2
              rw [if_neg (by simp)] at h2
              exact ⟨fun _ => h2, fun z => absurd eb z⟩
            | true =>
              rw [fb] at eb h2
              have ra : hi 44 0 (nI a * 6 + nI r : Int32).toNatClampNeg = nI (run a) := by rw [ni_cl (ix a) (by omega)]; exact a2 fa
              have rb : hi 44 0 (nI b * 6 + nI r : Int32).toNatClampNeg = nI (run b) := by rw [ni_cl (ix b) (by omega)]; exact b2 fb
              refine ⟨fun z => absurd (eb.symm.trans z) (by decide), fun _ => ⟨ni_inx (n := 6 * a + r) (m := 42) (ix a) (by omega) (by decide), ni_inx (n := 6 * b + r) (m := 42) (ix b) (by omega) (by decide), nn_eq (run a) (run b) (fun he => ?_) (fun he => ?_) ra rb (hrun a) (hrun b)⟩⟩
              · rw [if_pos ⟨rfl, rfl, he⟩, ← nI_1] at h2
                exact h2
              · rw [if_neg (fun z => he z.2.2)] at h2
                exact h2
      refine fx_wpL [4, 18] 30 (pk_lt N a (fun hc => by omega) (fun _ => ?_) h5)
      exact inner (N + 1) 0 (by omega)
  exact fx_wpE [4] 9 (loop (N + 1) 0 none none (by omega))
theorem x_ruled (hn : NX σ hi hl v f rl) (hH : HV v) (hb : v 0 = 1 → PX hi hl 1 (vBg v)) (ht : TOK v) (hnt : NT hi 0 v) (hno : NOK v) (hR : ∀ t, t < σ.2.1 → RX σ hi t (R t)) (w : Int32) : QX (d + 8) 129 [xO, vi w] σ hi hl (aRuled R σ.2.1 v w) := by
  obtain ⟨hv, hg, hs, n4, n5, n6, n7, n8, n9⟩ := id hn
  have hh := x_isHunted (d := d + 6) (σ := σ) hv hs.2.1
  rw [hH.h] at hh
  refine QX_of fx_M129 [some xO, some (vi w), none, none] (by decide) rfl rfl (Nat.le_of_ble_eq_true rfl) (fx_wpE [33] 40 ?_)
  refine ⟨_, _, hh, bd_if (fun hc => QX.same (if_neg (fun z => hc z.1)).symm) (fun hc => ?_)⟩
  refine ⟨_, _, x_within w 0 1, bd_nf (fun hc2 => ?_) (fun hc2 => QX.same (if_neg (fun z => hc2 z.2)).symm)⟩
  obtain ⟨hi1, hl1, hg1, f1, f2, hJ⟩ := x_judge (d := d) (n := 0) hn (hb hc) ht hnt hno hR (by decide)
  refine ⟨_, _, hg1, ?_⟩
  have eA : aRuled R σ.2.1 v w = if w = 0 then nI (vCu (vFt R v) (σ.2.1 + 1) 0) else tO (vFst (vFt R v) (σ.2.1 + 1) 0) := if_pos ⟨hc, hc2⟩
  refine ⟨fun (z : ¬ w = 0) => ?_, fun (z : ¬ ¬ w = 0) => ⟨by rw [eA, if_pos (Classical.not_not.mp z)], hi1, hl1, rfl, f1, f2⟩⟩
  rw [if_neg z] at eA
  have m5 : hi1 10 0 5 = nI σ.2.1 := (f1 10 0 5 (by unfold scx; omega)).trans n5
  have loop : ∀ t i, i + t = σ.2.1 + 1 → vFst (vFt R v) t i = vFst (vFt R v) (σ.2.1 + 1) 0 → fx_E (fx_Ga (d + 7)) fx_M129 (33, [some xO, some (vi w), some (vi (nI (vCu (vFt R v) (σ.2.1 + 1) 0))), some (vi (nI i))], [], hp σ hi1 hl1, 0, 0) (QXP σ hi hl (aRuled R σ.2.1 v w)) := by
    intro t
    induction t with
    | zero =>
      intro i hi0 he
      have he : none = vFst (vFt R v) (σ.2.1 + 1) 0 := he
      exact fx_wpL [33] 20 (pk_lt σ.2.1 i (fun _ => ⟨by rw [eA, ← he]; rfl, hi1, hl1, rfl, f1, f2⟩) (fun hc => by omega) m5)
    | succ t ih =>
      intro i hi0 he
      have ej : hi1 43 0 (nI i).toNatClampNeg = b01 (vFt R v i) := by rw [nI_clamp (by omega)]; exact (hJ i (by omega)).1
      refine fx_wpL [33] 30 (pk_lt σ.2.1 i (fun hc => by omega) (fun _ => ⟨ni_in (n := i) (m := 7) (by omega) (by decide), ?_⟩) m5)
      cases hf : vFt R v i with
      | false =>
        rw [vFst_f hf] at he
        have h2 := ih (i + 1) (by omega) he
        rw [← nI_1] at h2
        rw [hf] at ej
        exact ⟨fun _ => h2, fun z => absurd ej z⟩
      | true =>
        rw [vFst_t hf] at he
        rw [hf] at ej
        refine ⟨fun z => absurd (ej.symm.trans z) (by decide), fun _ => ⟨?_, hi1, hl1, rfl, f1, f2⟩⟩
        rw [eA, ← he]
        show some (vi (nI i - 1)) = some (vi (tI i))
        rw [nI_m1]
  exact loop (σ.2.1 + 1) 0 (by omega) rfl
theorem x_look (hn : NX σ hi hl v f rl) (hH : HV v) (hb : v 0 = 1 → PX hi hl 1 (vBg v)) (ht : TOK v) (hnt : NT hi 0 v) (hno : NOK v) (hR : ∀ t, t < σ.2.1 → RX σ hi t (R t)) (n w : Int32) : QX (d + 8) 130 [xO, vi n, vi w] σ hi hl (aLook R σ.2.1 v n w) := by
  obtain ⟨hv, hg, hs, n4, n5, n6, n7, n8, n9⟩ := id hn
  have h4 := hs.1
  have hh := x_isHunted (d := d + 6) (σ := σ) hv hs.2.1
  rw [hH.h] at hh
  refine QX_of fx_M130 [some xO, some (vi n), some (vi w), none, none, none, none] (by decide) rfl rfl (Nat.le_of_ble_eq_true rfl) (fx_wpE [61] 40 ?_)
  refine ⟨_, _, hh, bd_if (fun hc => QX.same (if_neg (fun z => hc z.1)).symm) (fun hc => ?_)⟩
  refine ⟨_, _, x_within n 0 60, bd_if (fun hc2 => QX.same (if_neg (fun z => hc2 z.2.1)).symm) (fun hc2 => ?_)⟩
  refine ⟨_, _, x_within w 0 1, bd_nf (fun hc3 => ?_) (fun hc3 => QX.same (if_neg (fun z => hc3 z.2.2)).symm)⟩
  obtain ⟨k, _, k3, en, ek⟩ := rg_of (a := 0) (b := 60) hc2 (by decide) (by decide)
  obtain ⟨hi1, hl1, hg1, f1, f2, hJ⟩ := x_judge (d := d) (n := k) hn (hb hc) ht hnt hno hR k3
  rw [← en] at hg1
  refine ⟨_, _, hg1, ?_⟩
  have eA : aLook R σ.2.1 v n w = if vCu (vFt R v) (σ.2.1 + 1) 0 = 0 ∨ v 4 = 0 then -2 else if w = 0 then oI (vLk (vAk R σ.2.1 v k) (v 4)).1 else nI (vLk (vAk R σ.2.1 v k) (v 4)).2 := by
    unfold aLook
    rw [if_pos ⟨hc, hc2, hc3⟩, ek]
  generalize aLook R σ.2.1 v n w = A at eA
  have cu := vCu_le (vFt R v) (σ.2.1 + 1) 0
  have hv1 := hv.y (by omega) f1 f2
  refine pk_eq (vCu (vFt R v) (σ.2.1 + 1) 0) 0 (fun c0 => ⟨by rw [eA, if_pos (Or.inl c0)]; rfl, hi1, hl1, rfl, f1, f2⟩) (fun c0 => ?_)
  refine nn_eq (v 4) 0 (fun r0 => ⟨by rw [eA, if_pos (Or.inr r0)]; rfl, hi1, hl1, rfl, f1, f2⟩) (fun r0 => ?_) hv1.2.2.2.1
  rw [if_neg (by omega)] at eA
  have m5 : hi1 10 0 5 = nI σ.2.1 := (f1 10 0 5 (by unfold scx; omega)).trans n5
  have al7 : ∀ r, vAk R σ.2.1 v k r ≤ 7 := fun r => Nat.le_trans (vMa_le _ _ _ _) (by omega)
  have hsb := hs.bg ht
  have loop : ∀ t r l6, r + t = v 4 → fx_E (fx_Ga (d + 7)) fx_M130 (61, [some xO, some (vi n), some (vi w), some (vi (oI (vLk (vAk R σ.2.1 v k) r).1)), some (vi (nI (vLk (vAk R σ.2.1 v k) r).2)), some (vi (nI r)), l6], [], hp σ hi1 hl1, 0, 0) (QXP σ hi hl A) := by
    intro t
    induction t with
    | zero =>
      intro r l6 hr
      have : r = v 4 := by omega
      subst this
      refine fx_wpL [61] 30 (pk_le (v 4) (v 4) (fun _ => ?_) (fun hc => by omega) hv1.2.2.2.1)
      exact ⟨fun (z : ¬ w = 0) => ⟨by rw [eA, if_neg z], hi1, hl1, rfl, f1, f2⟩, fun (z : ¬ ¬ w = 0) => ⟨by rw [eA, if_pos (Classical.not_not.mp z)], hi1, hl1, rfl, f1, f2⟩⟩
    | succ t ih =>
      intro r l6 hr
      have lk := (vLk_ok _ al7 r).1
      have a7 := al7 r
      have hma := x_mostAlike (d := d + 6) (σ := σ) (hi := hi1) (hl := hl1) (ft := vFt R v) (run := fun p => vRu R v k p r) (N := σ.2.1) (r := r) m5 n6 (by omega) (fun p hp2 => ⟨(hJ p hp2).1, fun hf => (hJ p hp2).2 hf r (by omega)⟩) (fun p => by
        have q := ((hsb.it (rr R p) k).sv (by rw [vIt_10]; show 0 + k ≤ 9999; omega)).2.2.2.2
        have q1 := (q.2.2 r (by omega)).1
        have q2 := q.1
        show vIt (rr R p) k (vBg v) (12 + 4 * r) < _
        omega)
      have h2 := ih (r + 1) (some (vi (nI (vAk R σ.2.1 v k r)))) (by omega)
      rw [vLk, ← nI_1] at h2
      refine fx_wpL [61] 40 (pk_le (v 4) r (fun hc => by omega) (fun _ => ⟨_, _, hma, ?_⟩) hv1.2.2.2.1)
      refine pk_le (vLk (vAk R σ.2.1 v k) r).2 (vAk R σ.2.1 v k r) (fun hle => ?_) (fun hlt => ?_)
      · rw [if_neg (by omega)] at h2
        exact h2
      · rw [if_pos hlt] at h2
        exact h2
  exact loop (v 4) 0 none (by omega)
end JU
