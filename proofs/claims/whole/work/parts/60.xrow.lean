/-! rows of fields: the class -/
def aT (a : fxA) : Nat := match a with
  | none => 1000000
  | some q => q.1
def aR (a : fxA) : Nat := match a with
  | none => 1000000
  | some q => q.2.1
theorem rB_aT (a : fxA) {t r : Nat} (ht : t < 1000000) : rB a t r = decide (t < aT a ∨ t = aT a ∧ r < aR a) := by
  cases a with
  | none =>
    show true = decide (t < 1000000 ∨ t = 1000000 ∧ r < 1000000)
    rw [decide_eq_true (Or.inl ht)]
  | some q => rfl
def AX (hi : fxI3) (a : fxA) : Prop := hi 4 0 7 = nI (aT a) ∧ hi 4 0 8 = nI (aR a) ∧ (∀ q, a = some q → hi 4 0 9 = nI q.2.2) ∧ aT a < 2 ^ 31 ∧ aR a < 2 ^ 31
def FrZ (e : Nat) (hi hi' : fxI3) : Prop := ∀ k j s, ¬ ((k = 1 ∨ 21 ≤ k ∧ k ≤ 24) ∧ 24 + e < j ∧ j ≤ 28 ∨ k = 38 ∨ k = 4 ∧ (7 ≤ s ∨ s = 6 ∧ e = 0) ∨ k = 8 ∧ s = 4) → hi' k j s = hi k j s
def FlZ (e : Nat) (hl hl' : fxL3) : Prop := ∀ k j s, k ≠ 36 → k ≠ 37 → ¬ (k = 1 ∧ 24 + e < j ∧ j ≤ 28) → hl' k j s = hl k j s
theorem FrZ.tr {e : Nat} {a b c : fxI3} (h : FrZ e a b) (g : FrZ e b c) : FrZ e a c := fun k j s h1 => (g k j s h1).trans (h k j s h1)
theorem FlZ.tr {e : Nat} {a b c : fxL3} (h : FlZ e a b) (g : FlZ e b c) : FlZ e a c := fun k j s h1 h2 h3 => (g k j s h1 h2 h3).trans (h k j s h1 h2 h3)
theorem FrZ.up {e : Nat} (hi : fxI3) {k j s : Nat} (x : Int32) (h : (k = 1 ∨ 21 ≤ k ∧ k ≤ 24) ∧ 24 + e < j ∧ j ≤ 28 ∨ k = 38 ∨ k = 4 ∧ (7 ≤ s ∨ s = 6 ∧ e = 0) ∨ k = 8 ∧ s = 4) : FrZ e hi (fx_up hi k j s x) := fun k' j' s' h1 => up_off hi x (fun z => h1 (by rw [z.1, z.2.1, z.2.2]; exact h))
abbrev qO : fxV := .inr (.inr (some (4, 0)))
theorem up_rf {α : Type} (f g : Nat → Nat → Nat → α) (k j s : Nat) (x : α) (h0 : g k j s = x) (h : ∀ k' j' s', ¬ (k' = k ∧ j' = j ∧ s' = s) → f k' j' s' = g k' j' s') : fx_up f k j s x = g := by
  funext k' j' s'
  by_cases e : k' = k ∧ j' = j ∧ s' = s
  · obtain ⟨rfl, rfl, rfl⟩ := e
    rw [up_at, h0]
  · rw [up_off f x e]
    exact h k' j' s' e
theorem rfs_q (n : Nat) (q0 q : Option fxR) {k j s : Nat} (h : ¬ (k = 4 ∧ j = 0 ∧ s = 2)) : fx_rfs n q0 k j s = fx_rfs n q k j s := by
  by_cases e : k = 4
  · subst e
    match s, j, h with
    | 0, _, _ => rfl
    | 1, _, _ => rfl
    | 2, 0, h => exact absurd ⟨rfl, rfl, rfl⟩ h
    | 2, _ + 1, _ => rfl
    | _ + 3, _, _ => rfl
  · unfold fx_rfs
    split <;> first | rfl | exact absurd rfl e | (split <;> first | rfl | (exfalso; simp_all; done))
theorem hp_rule (σ : fxS) (hi : fxI3) (hl : fxL3) (q : Option fxR) : fx_wr (hp σ hi hl) 4 0 2 q = hp (σ.1, σ.2.1, q, σ.2.2.2) hi hl := by
  unfold fx_wr hp
  dsimp only
  rw [up_rf (fx_rfs σ.2.1 σ.2.2.1) (fx_rfs σ.2.1 q) 4 0 2 q rfl (fun k j s h => rfs_q σ.2.1 σ.2.2.1 q h)]
def rw_Z (rl : Option fxRl) (v : Nat → Nat) (i e k : Nat) (u : Nat → Nat) (fs : Nat) (a : fxA) : fxA := match k with
  | 0 => rU a (u (15 + 4 * i) - v (15 + 4 * i), u (12 + 4 * i), fs)
  | k + 1 => rw_T (fun f b => rw_S (vRS rl i) (fun u => u (15 + 4 * i) - v (15 + 4 * i)) (fun u => u (12 + 4 * i)) (vMf i) k (vRS rl i u f) (if e = 0 then f else fs) b) (u (15 + 4 * i) - v (15 + 4 * i)) (u (12 + 4 * i)) (vMf i u + 1) a
theorem rw_Z_pos (rl : Option fxRl) (v : Nat → Nat) (i e k : Nat) (u : Nat → Nat) (fs : Nat) (a : fxA) : rw_Z rl v i (e + 1) k u fs a = rw_S (vRS rl i) (fun u => u (15 + 4 * i) - v (15 + 4 * i)) (fun u => u (12 + 4 * i)) (vMf i) k u fs a := by
  cases k with
  | zero => rfl
  | succ k => rfl
section XW
variable {d : Nat} {σ : fxS} {hi : fxI3} {hl : fxL3} {v u : Nat → Nat} {rl : Option fxRl} {f : Option Nat}
theorem x_noBetter {a : fxA} {i b j : Nat} (hv : PX hi hl j u) (i6 : i < 6) (hi4 : i < u 4) (h3 : hi 4 0 3 = nI i) (h5 : hi 4 0 5 = nI b) (hb : b ≤ u (15 + 4 * i)) (hA : AX hi a) (ht : u (15 + 4 * i) < 1000000) (hr : u (12 + 4 * i) < 2 ^ 20) : fx_Ga (d + 1) 38 [qO, cO j] (hp σ hi hl) (some (vi (b01 (!rB a (u (15 + 4 * i) - b) (u (12 + 4 * i)))))) (hp σ hi hl) := by
  have et : hi 24 j (hi 4 0 3).toNatClampNeg - hi 4 0 5 = nI (u (15 + 4 * i) - b) := by
    rw [ni_cl h3 (by omega), h5, (hv.2.2.2.2.2.2.2 i hi4).2.2.2]
    exact pk_sub hb
  have er : hi 21 j (hi 4 0 3).toNatClampNeg = nI (u (12 + 4 * i)) := by
    rw [ni_cl h3 (by omega)]
    exact (hv.2.2.2.2.2.2.2 i hi4).1
  obtain ⟨a1, a2, _, a4, a5⟩ := hA
  rw [rB_aT a (by omega)]
  have bd := ni_inx (n := i) (m := 6) h3 i6 (by decide)
  refine fx_meth fx_M38 [some qO, some (cO j), none] (by decide) rfl rfl (Nat.le_of_ble_eq_true rfl) (fx_wpE [] 50 ?_)
  refine ⟨bd, pk_lt (aT a) (u (15 + 4 * i) - b) (fun hc => ⟨Or.inr rfl, ?_, rfl⟩) (fun hc => ?_) a1 et⟩
  · rw [decide_eq_false (by omega)]
    rfl
  · refine nn_eq (u (15 + 4 * i) - b) (aT a) (fun he => ?_) (fun he => ⟨Or.inl rfl, ?_, rfl⟩) et a1
    · refine ⟨bd, pk_lt (u (12 + 4 * i)) (aR a) (fun hc2 => ⟨Or.inl rfl, ?_, rfl⟩) (fun hc2 => ⟨Or.inr rfl, ?_, rfl⟩) er a2⟩
      · rw [decide_eq_true (Or.inr ⟨he, hc2⟩)]
        rfl
      · rw [decide_eq_false (by omega)]
        rfl
    · rw [decide_eq_true (by omega)]
      rfl
theorem x_mostFields {i j : Nat} (hv : PX hi hl j u) (hs : SV u) (i6 : i < 6) (hi4 : i < u 4) (h3 : hi 4 0 3 = nI i) : fx_Ga (d + 3) 39 [qO, cO j] (hp σ hi hl) (some (vi (nI (vMf i u)))) (hp σ hi hl) := by
  obtain ⟨q1, q2, q3, q4⟩ := hv.2.2.2.2.2.2.2 i hi4
  have bi := hs.2.2.2.2.2.2 i i6
  have eg : hi 23 j (hi 4 0 3).toNatClampNeg = nI (u (14 + 4 * i)) := by
    rw [ni_cl h3 (by omega)]
    exact q3
  have ep : hi 22 j (hi 4 0 3).toNatClampNeg = nI (u (13 + 4 * i)) := by
    rw [ni_cl h3 (by omega)]
    exact q2
  have bd := ni_inx (n := i) (m := 6) h3 i6 (by decide)
  have hg := x_gapOf (d := d) (σ := σ) hv hs.1 hi4 bi.1
  rw [← h3] at hg
  have h11 := hs.2.2.2.2.1
  refine fx_meth fx_M39 [some qO, some (cO j)] (by decide) rfl rfl (Nat.le_of_ble_eq_true rfl) (fx_wpE [] 50 ?_)
  refine ⟨bd, pk_le (u (14 + 4 * i)) 0 (fun hc => ⟨bd, _, _, hg, ?_, rfl⟩) (fun hc => ⟨?_, rfl⟩) eg⟩
  · show some (vi (if nI (u 11 - u (12 + 4 * i)) < hi 22 j (hi 4 0 3).toNatClampNeg then nI (u 11 - u (12 + 4 * i)) else hi 22 j (hi 4 0 3).toNatClampNeg)) = _
    rw [ep, min_nI _ _ (by omega) (by omega)]
    unfold vMf vOut
    rw [decide_eq_false (by omega)]
    rfl
  · unfold vMf vOut
    rw [decide_eq_true hc]
    rfl
theorem TX_fz {rt : Option Nat} {e : Nat} {hi' : fxI3} (h : FrZ e hi hi') (g : TX σ hi rt rl) : TX σ hi' rt rl := TX_fr (fun t s => h 45 t s (by omega)) (fun t => h 5 t 1 (by omega)) g
theorem x_search {rt : Option Nat} {i n : Nat} (hq : σ.2.2.1 = rt.map (fun t => (5, t))) (i6 : i < 6) (n4 : n ≤ 4) (hi4 : i < v 4) : ∀ k e (hi : fxI3) (hl : fxL3) (u : Nat → Nat) (fs : Nat) (a : fxA), e + k = n → PX hi hl (24 + e) u → vRI v i u → u 10 + k ≤ 9990 → TX σ hi rt rl → hi 8 0 3 = nI i → hi 4 0 3 = nI i → hi 4 0 4 = nI n → hi 4 0 5 = nI (v (15 + 4 * i)) → (0 < e → hi 4 0 6 = nI fs) → (e = 0 → 0 < k) → AX hi a →
    ∃ hi' hl', fx_Ga (d + k + 6) 37 [qO, vi (nI e)] (hp σ hi hl) none (hp σ hi' hl') ∧ FrZ e hi hi' ∧ FlZ e hl hl' ∧ AX hi' (rw_Z rl v i e k u fs a) := by
  have rfz : ∀ e (hi hl : _) , (hp σ hi hl).2.2.1 39 0 (nI e).toNatClampNeg = (bif Nat.blt (nI e).toNatClampNeg 5 then some (1, 24 + (nI e).toNatClampNeg) else none) := fun e hi hl => rfl
  have rfe : ∀ e, e < 5 → (.inr (.inr (bif Nat.blt (nI e).toNatClampNeg 5 then some (1, 24 + (nI e).toNatClampNeg) else none)) : fxV) = cO (24 + e) := fun e he => by
    rw [nI_clamp (by omega), show Nat.blt e 5 = true from Nat.ble_eq_true_of_le he]
    rfl
  intro k
  induction k with
  | zero =>
    intro e hi hl u fs a he hv hI h10 hT h83 h3 h4 h5 h6 he0 hA
    have e0 : 0 < e := Nat.pos_of_ne_zero (fun z => absurd (he0 z) (by omega))
    have u4 : u 4 = v 4 := hI.2.2.1 4 (by omega)
    have hs := hI.1.sv (by omega)
    have bi := hs.2.2.2.2.2.2 i i6
    have h11 := hs.2.2.2.2.1
    let Post : Option fxV → fxH → Prop := fun r2 h2 => r2 = none ∧ ∃ hi' hl', h2 = hp σ hi' hl' ∧ FrZ e hi hi' ∧ FlZ e hl hl' ∧ AX hi' (rw_Z rl v i e 0 u fs a)
    have hnb := x_noBetter (d := d + 4) (σ := σ) hv i6 (by omega) h3 h5 hI.2.2.2.2 hA (by have := (hI.1.2.2.2.2.2 i i6).2.2.2; omega) (by omega)
    have bd := ni_inx (n := i) (m := 6) h3 i6 (by decide)
    have et : hi 24 (24 + e) (hi 4 0 3).toNatClampNeg - hi 4 0 5 = nI (u (15 + 4 * i) - v (15 + 4 * i)) := by
      rw [ni_cl h3 (by omega), h5, (hv.2.2.2.2.2.2.2 i (by omega)).2.2.2]
      exact pk_sub hI.2.2.2.2
    have er : hi 21 (24 + e) (hi 4 0 3).toNatClampNeg = nI (u (12 + 4 * i)) := by
      rw [ni_cl h3 (by omega)]
      exact (hv.2.2.2.2.2.2.2 i (by omega)).1
    have start : fx_E (fx_Ga (d + 5)) fx_M37 (7, [some qO, some (vi (nI e)), some (cO (24 + e)), none, none, none], [], hp σ hi hl, 0, 0) Post := by
      refine fx_wpE [78] 50 ⟨_, _, hnb, b01_if (fun h => ?_) (fun h => ?_)⟩
      · have hB : rB a (u (15 + 4 * i) - v (15 + 4 * i)) (u (12 + 4 * i)) = true := by simpa using h
        refine pk_le n e (fun _ => ⟨bd, bd, rfl, _, hl, rfl, ?_, fun _ _ _ _ _ _ => rfl, ?_⟩) (fun hc => by omega) h4
        · exact ((FrZ.up hi _ (by omega)).tr (FrZ.up _ _ (by omega))).tr (FrZ.up _ _ (by omega))
        · have ez : rw_Z rl v i e 0 u fs a = some (u (15 + 4 * i) - v (15 + 4 * i), u (12 + 4 * i), fs) := by
            show rU a (u (15 + 4 * i) - v (15 + 4 * i), u (12 + 4 * i), fs) = _
            unfold rU
            rw [hB]
            rfl
          rw [ez]
          exact ⟨et, er, fun q hq2 => by cases hq2; exact h6 e0, by show u (15 + 4 * i) - v (15 + 4 * i) < 2 ^ 31; omega, by show u (12 + 4 * i) < 2 ^ 31; omega⟩
      · have hB : rB a (u (15 + 4 * i) - v (15 + 4 * i)) (u (12 + 4 * i)) = false := by simpa using h
        refine ⟨rfl, hi, hl, rfl, fun _ _ _ _ => rfl, fun _ _ _ _ _ _ => rfl, ?_⟩
        have ez : rw_Z rl v i e 0 u fs a = a := by
          show rU a (u (15 + 4 * i) - v (15 + 4 * i), u (12 + 4 * i), fs) = _
          unfold rU
          rw [hB]
          rfl
        rw [ez]
        exact hA
    rw [← rfe e (by omega)] at start
    obtain ⟨r, h', hg', e1, hi', hl', e2, e3⟩ := fx_methX (d := d + 5) (y := 37) (av := [qO, vi (nI e)]) (h := hp σ hi hl) (P := Post) fx_M37 [some qO, some (vi (nI e)), none, none, none, none] (by decide) rfl rfl (Nat.le_of_ble_eq_true rfl) (fx_wpE [7] 20 ⟨ni_in (n := e) (m := 5) (by omega) (by decide), start⟩)
    subst e1
    subst e2
    exact ⟨hi', hl', hg', e3⟩
  | succ k ih =>
    intro e hi hl u fs a he hv hI h10 hT h83 h3 h4 h5 h6 he0 hA
    have u4 : u 4 = v 4 := hI.2.2.1 4 (by omega)
    have hs := hI.1.sv (by omega)
    have bi := hs.2.2.2.2.2.2 i i6
    have h11 := hs.2.2.2.2.1
    have mf9 : vMf i u ≤ 9 := by
      unfold vMf
      split <;> omega
    let Post : Option fxV → fxH → Prop := fun r2 h2 => r2 = none ∧ ∃ hi' hl', h2 = hp σ hi' hl' ∧ FrZ e hi hi' ∧ FlZ e hl hl' ∧ AX hi' (rw_Z rl v i e (k + 1) u fs a)
    have hnb := x_noBetter (d := d + k + 5) (σ := σ) hv i6 (by omega) h3 h5 hI.2.2.2.2 hA (by have := (hI.1.2.2.2.2.2 i i6).2.2.2; omega) (by omega)
    have hmf := x_mostFields (d := d + k + 3) (σ := σ) hv hs i6 (by omega) h3
    generalize hG : (fun f b => rw_S (vRS rl i) (fun u => u (15 + 4 * i) - v (15 + 4 * i)) (fun u => u (12 + 4 * i)) (vMf i) k (vRS rl i u f) (if e = 0 then f else fs) b) = G
    have eZ : rw_Z rl v i e (k + 1) u fs a = rw_T G (u (15 + 4 * i) - v (15 + 4 * i)) (u (12 + 4 * i)) (vMf i u + 1) a := by rw [← hG]; rfl
    have start : fx_E (fx_Ga (d + k + 6)) fx_M37 (7, [some qO, some (vi (nI e)), some (cO (24 + e)), none, none, none], [], hp σ hi hl, 0, 0) Post := by
      refine fx_wpE [78] 50 ⟨_, _, hnb, b01_if (fun h => ?_) (fun h => ?_)⟩
      · have hB : rB a (u (15 + 4 * i) - v (15 + 4 * i)) (u (12 + 4 * i)) = true := by simpa using h
        have loop : ∀ m f (hb : fxI3) (hlb : fxL3) l5, f + m = vMf i u + 1 → FrZ e hi hb → FlZ e hl hlb → AX hb (vLp G f a) → fx_E (fx_Ga (d + k + 6)) fx_M37 (78, [some qO, some (vi (nI e)), some (cO (24 + e)), some (vi (nI (vMf i u))), some (vi (nI f)), l5], [], hp σ hb hlb, 0, 0) Post := by
          intro m
          induction m with
          | zero =>
            intro f hb hlb l5 hf g1 g2 hAb
            have : f = vMf i u + 1 := by omega
            subst this
            refine fx_wpL [78] 20 (pk_lt (vMf i u) (vMf i u + 1) (fun _ => ⟨rfl, hb, hlb, rfl, g1, g2, ?_⟩) (fun hc => by omega))
            have ez2 : rw_T G (u (15 + 4 * i) - v (15 + 4 * i)) (u (12 + 4 * i)) (vMf i u + 1) a = vLp G (vMf i u + 1) a := by
              unfold rw_T
              rw [hB]
              rfl
            rw [eZ, ez2]
            exact hAb
          | succ m ihm =>
            intro f hb hlb l5 hf g1 g2 hAb
            have tail : ∀ (hc : fxI3), FrZ e hi hc → AX hc (vLp G f a) → hc 4 0 6 = nI (if e = 0 then f else fs) → fx_E (fx_Ga (d + k + 6)) fx_M37 (94, [some qO, some (vi (nI e)), some (cO (24 + e)), some (vi (nI (vMf i u))), some (vi (nI f)), l5], [], hp σ hc hlb, 0, 0) Post := by
              intro hc g3 hAc hc6
              have hvc : PX hc hlb (24 + e) u := hv.fr (fun s => g3 1 _ s (by omega)) (fun k s hk => g3 k _ s (by omega)) (g2 1 _ 6 (by decide) (by decide) (by omega))
              obtain ⟨hi1, hl1, hg1, f1, f2, hv1⟩ := x_copyFrom (d := d + k + 5) (σ := σ) (a := 24 + (e + 1)) (b := 24 + e) (by omega) hvc hs.1
              have F1 : FrZ e hi (fx_up hi1 8 0 4 (nI f)) := (g3.tr (fun k j s h => f1 k j s (by omega))).tr (FrZ.up hi1 _ (by omega))
              have hA1 : AX (fx_up hi1 8 0 4 (nI f)) (vLp G f a) := ⟨(f1 4 0 7 (by omega)).trans hAc.1, (f1 4 0 8 (by omega)).trans hAc.2.1, fun q hq2 => (f1 4 0 9 (by omega)).trans (hAc.2.2.1 q hq2), hAc.2.2.2⟩
              obtain ⟨hi2, hl2, hg2, p1, p2, hv2⟩ := x_take (d := d + k + 1) (σ := σ) (hi := fx_up hi1 8 0 4 (nI f)) (hl := hl1) (j := 24 + (e + 1)) (rt := rt) (rl := rl) (row := some (i, f)) hv1 hs hI.2.1 (by have := hI.1.2.2.2.2.1; omega) ⟨i6, (F1 8 0 3 (by omega)).trans h83, by omega, rfl⟩ (TX_fz F1 hT)
              rw [show rR rt = .inr (.inr σ.2.2.1) by rw [hq]; rfl] at hg2
              have F2 : FrZ e hi hi2 := F1.tr (fun k j s h => p1 k j s (by omega) (by omega))
              have FL2 : FlZ e hl hl2 := (g2.tr (fun k j s h1 h2 h3 => f2 k j s (by omega))).tr (fun k j s h1 h2 h3 => p2 k j s h1 h2)
              have q4 : ∀ s, hi2 4 0 s = hc 4 0 s := fun s => (p1 4 0 s (by omega) (by omega)).trans (f1 4 0 s (by omega))
              obtain ⟨hi3, hl3, hg3, r1, r2, hA3⟩ := ih (e + 1) hi2 hl2 (vRS rl i u f) (if e = 0 then f else fs) (vLp G f a) (by omega) hv2 (vRI_I rl u f hI) (by show (vStep u rl (some (i, f))).1 10 + k ≤ 9990; rw [vStep_10]; omega) (TX_fz F2 hT) ((F2 8 0 3 (by omega)).trans h83) ((F2 4 0 3 (by omega)).trans h3) ((F2 4 0 4 (by omega)).trans h4) ((F2 4 0 5 (by omega)).trans h5) (fun _ => (q4 6).trans hc6) (fun z => absurd z (by omega)) ⟨(q4 7).trans hAc.1, (q4 8).trans hAc.2.1, fun q hq2 => (q4 9).trans (hAc.2.2.1 q hq2), hAc.2.2.2⟩
              rw [rw_Z_pos] at hA3
              have F3 : FrZ e hi hi3 := F2.tr (fun k j s h => r1 k j s (by omega))
              have FL3 : FlZ e hl hl3 := FL2.tr (fun k j s h1 h2 h3 => r2 k j s h1 h2 (by omega))
              have h2 := ihm (f + 1) hi3 hl3 (some (cO (24 + (e + 1)))) (by omega) F3 FL3 (by
                show AX hi3 (G f (vLp G f a))
                rw [← hG] at hA3 ⊢
                exact hA3)
              rw [← nI_1] at h2
              rw [← nI_1] at hg3
              have st2 : fx_E (fx_Ga (d + k + 6)) fx_M37 (104, [some qO, some (vi (nI e)), some (cO (24 + e)), some (vi (nI (vMf i u))), some (vi (nI f)), some (cO (24 + (e + 1)))], [], hp σ hc hlb, 0, 0) Post := fx_wpE [78] 50 ⟨_, _, hg1, _, _, hg2, _, _, hg3, h2⟩
              rw [← rfe (e + 1) (by omega), ← nI_1] at st2
              exact fx_wpE [104] 20 ⟨ni_inx (n := e + 1) (m := 5) (nI_1 e) (by omega) (by decide), st2⟩
            refine fx_wpL [78, 94] 30 (pk_lt (vMf i u) f (fun hc => by omega) (fun _ => nn_eq e 0 (fun z => ?_) (fun z => ?_)))
            · refine tail _ (g1.tr (FrZ.up hb _ (by omega))) hAb ?_
              rw [if_pos z]
              exact up_at _ _ _ _ _
            · refine tail hb g1 hAb ?_
              rw [if_neg z, g1 4 0 6 (by omega)]
              exact h6 (by omega)
        refine pk_le n e (fun hc => by omega) (fun _ => pk_lt e 4 (fun _ => ⟨_, _, hmf, ?_⟩) (fun hc => by omega)) h4
        exact loop (vMf i u + 1) 0 hi hl none (by omega) (fun _ _ _ _ => rfl) (fun _ _ _ _ _ _ => rfl) hA
      · have hB : rB a (u (15 + 4 * i) - v (15 + 4 * i)) (u (12 + 4 * i)) = false := by simpa using h
        refine ⟨rfl, hi, hl, rfl, fun _ _ _ _ => rfl, fun _ _ _ _ _ _ => rfl, ?_⟩
        have ez2 : rw_T G (u (15 + 4 * i) - v (15 + 4 * i)) (u (12 + 4 * i)) (vMf i u + 1) a = a := by
          unfold rw_T
          rw [hB]
          rfl
        rw [eZ, ez2]
        exact hA
    rw [← rfe e (by omega)] at start
    obtain ⟨r, h', hg', e1, hi', hl', e2, e3⟩ := fx_methX (d := d + k + 6) (y := 37) (av := [qO, vi (nI e)]) (h := hp σ hi hl) (P := Post) fx_M37 [some qO, some (vi (nI e)), none, none, none, none] (by decide) rfl rfl (Nat.le_of_ble_eq_true rfl) (fx_wpE [7] 20 ⟨ni_in (n := e) (m := 5) (by omega) (by decide), start⟩)
    subst e1
    subst e2
    exact ⟨hi', hl', hg', e3⟩
theorem TX_q {q : Option fxR} {rt : Option Nat} (g : TX σ hi rt rl) : TX (σ.1, σ.2.1, q, σ.2.2.2) hi rt rl := by
  have l : ∀ {t : Nat} (R : fxRl) (c p : Nat), RXl σ hi t R c p → RXl (σ.1, σ.2.1, q, σ.2.2.2) hi t R c p := by
    intro t R
    induction R with
    | nil => exact fun c p h => h
    | cons z r ih =>
      intro c p h
      obtain ⟨s, o⟩ := z
      obtain ⟨g1, g2, g3, g4, g5, g6, g7, g8⟩ := h
      exact ⟨g1, g2, g3, g4, g5, g6, g7, ih _ _ g8⟩
  cases rt with
  | none => cases rl with
    | none => trivial
    | some R => exact g
  | some t => cases rl with
    | none => exact g
    | some R => exact ⟨g.1, g.2.1, g.2.2.1, g.2.2.2.1, g.2.2.2.2.1, l R 0 0 g.2.2.2.2.2⟩
/-- a question of the class that names a rule for its row -/
theorem x_row (hn : NX σ hi hl v f rl) (hH : HV v) (r n w : Int32) : ∃ q hi' hl', fx_Ga (d + 12) 113 [xO, vi r, vi n, vi w] (hp σ hi hl) (some (vi (aRow rl v r n w))) (hp (σ.1, σ.2.1, q, σ.2.2.2) hi' hl') ∧ FrY hi hi' ∧ FlY hl hl' := by
  obtain ⟨hv, hg, hs, n4, n5, n6, n7, n8, n9⟩ := id hn
  have h4 := hs.1
  have hro := x_ruleOf (d := d + 9) (σ := σ) (hi := hi) (hl := hl) n5 n6 n7
  rw [← n4] at hro
  let Post : Option fxV → fxH → Prop := fun r2 h2 => r2 = some (vi (aRow rl v r n w)) ∧ ∃ q hi' hl', h2 = hp (σ.1, σ.2.1, q, σ.2.2.2) hi' hl' ∧ FrY hi hi' ∧ FlY hl hl'
  have same : ∀ x : Int32, x = aRow rl v r n w → Post (some (vi x)) (hp σ hi hl) := fun x e => ⟨by rw [e], σ.2.2.1, hi, hl, rfl, FrY.rf hi, FlY.rf hl⟩
  have body : fx_E (fx_Ga (d + 11)) fx_M113 (0, [some xO, some (vi r), some (vi n), some (vi w)], [], hp σ hi hl, 0, 0) Post := by
    refine fx_wpE [] 60 ⟨_, _, x_hasRider hv h4 r, bd_if (fun hc => same _ (if_neg (fun z => hc z.1)).symm) (fun hc => ?_)⟩
    refine ⟨_, _, x_within n 1 4, bd_if (fun hc2 => same _ (if_neg (fun z => hc2 z.2.1)).symm) (fun hc2 => ?_)⟩
    refine ⟨_, _, x_within w 0 2, bd_nf (fun hc3 => ?_) (fun hc3 => same _ (if_neg (fun z => hc3 z.2.2)).symm)⟩
    refine ⟨_, _, hro, ?_⟩
    obtain ⟨i, i4, i6, er, ei⟩ := isR_of hc h4
    obtain ⟨m, m1, m4, en, em⟩ := rg_of (a := 1) (b := 4) hc2 (by decide) (by decide)
    subst er
    subst en
    have ans : aRow rl v (nI i) (nI m) w = rI (vRB rl v i m) w := by
      unfold aRow
      rw [if_pos ⟨hc, hc2, hc3⟩, ei, em]
    -- the search
    have hsv := hs.sv (by have := hH.2; omega)
    have bi := hsv.2.2.2.2.2.2 i i6
    have hI : vRI v i v := ⟨hs, hg, fun _ _ => rfl, rfl, Nat.le_refl _⟩
    have find : ∃ hi' hl', fx_Ga (d + 11) 36 [qO, cO 2, rR f, vi (nI i), vi (nI m)] (hp σ hi hl) none (hp (σ.1, σ.2.1, f.map (fun t => (5, t)), σ.2.2.2) hi' hl') ∧ FrY hi hi' ∧ FlY hl hl' ∧ AX hi' (vRB rl v i m) := by
      let P2 : Option fxV → fxH → Prop := fun r2 h2 => r2 = none ∧ ∃ hi' hl', h2 = hp (σ.1, σ.2.1, f.map (fun t => (5, t)), σ.2.2.2) hi' hl' ∧ FrY hi hi' ∧ FlY hl hl' ∧ AX hi' (vRB rl v i m)
      have b14 : fx_E (fx_Ga (d + 10)) fx_M36 (14, [some qO, some (cO 2), some (rR f), some (vi (nI i)), some (vi (nI m))], [], fx_wr (hp σ hi hl) 4 0 2 (f.map (fun t => (5, t))), 0, 0) P2 := by
        rw [hp_rule]
        generalize hσ : (σ.1, σ.2.1, f.map (fun t => (5, t)), σ.2.2.2) = σ2
        have hq : σ2.2.2.1 = f.map (fun t => (5, t)) := by rw [← hσ]
        have hT : TX σ2 hi f rl := by rw [← hσ]; exact TX_q n8
        have emin : (if (4 : Int32) < nI m then 4 else nI m) = nI m := by
          have := min_nI m 4 (by omega) (by decide)
          rw [Nat.min_eq_left m4] at this
          exact this
        have ew : hi 24 2 (nI i).toNatClampNeg = nI (v (15 + 4 * i)) := by
          rw [nI_clamp (by omega)]
          exact (hv.2.2.2.2.2.2.2 i i4).2.2.2
        generalize hh : fx_up (fx_up (fx_up (fx_up (fx_up (fx_up hi 4 0 3 (nI i)) 4 0 4 (if (4 : Int32) < nI m then 4 else nI m)) 4 0 5 (hi 24 2 (nI i).toNatClampNeg)) 4 0 7 1000000) 4 0 8 1000000) 4 0 9 0 = hb
        have F0 : FrY hi hb := by
          rw [← hh]
          exact (((((FrY.up hi _ (by unfold scx; omega)).tr (FrY.up _ _ (by unfold scx; omega))).tr (FrY.up _ _ (by unfold scx; omega))).tr (FrY.up _ _ (by unfold scx; omega))).tr (FrY.up _ _ (by unfold scx; omega))).tr (FrY.up _ _ (by unfold scx; omega))
        have c3 : hb 4 0 3 = nI i := by rw [← hh]; rfl
        have c4 : hb 4 0 4 = nI m := by rw [← hh]; exact emin
        have c5 : hb 4 0 5 = nI (v (15 + 4 * i)) := by rw [← hh]; exact ew
        have c7 : hb 4 0 7 = nI 1000000 := by rw [← hh]; rfl
        have c8 : hb 4 0 8 = nI 1000000 := by rw [← hh]; rfl
        obtain ⟨hi1, hl1, hg1, f1, f2, hv1⟩ := x_copyFrom (d := d + 9) (σ := σ2) (hi := hb) (hl := hl) (a := 24) (b := 2) (by decide) (hv.y (by omega) F0 (FlY.rf hl)) h4
        have hT1 : TX σ2 (fx_up hi1 8 0 3 (nI i)) f rl := TX_fr (hi := hi) (hi' := fx_up hi1 8 0 3 (nI i)) (fun t s => (f1 45 t s (by omega)).trans (F0 45 t s (by unfold scx; omega))) (fun t => (f1 5 t 1 (by omega)).trans (F0 5 t 1 (by unfold scx; omega))) hT
        obtain ⟨hi2, hl2, hg2, p1, p2, hA2⟩ := x_search (d := d + 4 - m) (v := v) (σ := σ2) (rt := f) (rl := rl) (i := i) (n := m) hq i6 m4 i4 m 0 (fx_up hi1 8 0 3 (nI i)) hl1 v 0 none (by omega) hv1 hI (by have := hH.2; omega) hT1 (up_at _ _ _ _ _) ((f1 4 0 3 (by omega)).trans c3) ((f1 4 0 4 (by omega)).trans c4) ((f1 4 0 5 (by omega)).trans c5) (fun z => absurd z (by omega)) (fun _ => by omega) ⟨(f1 4 0 7 (by omega)).trans c7, (f1 4 0 8 (by omega)).trans c8, fun q hq2 => (by cases hq2), (by decide : 1000000 < 2 ^ 31), (by decide : 1000000 < 2 ^ 31)⟩
        rw [show d + 4 - m + m + 6 = d + 10 by omega] at hg2
        have hA3 : AX hi2 (vRB rl v i m) := by
          have e1 : rw_Z rl v i 0 m v 0 none = vRB rl v i m := by
            cases m with
            | zero => omega
            | succ k => exact rw_top (α := Nat → Nat) (S := vRS rl i) (W := v (13 + 4 * i) + 1) (t := fun u => u (15 + 4 * i) - v (15 + 4 * i)) (r := fun u => u (12 + 4 * i)) (M := vMf i) (I := vRI v i) (by omega) (fun u f h _ => vRI_I rl u f h) (fun u f h _ => vRI_m i6 rl u f h) (fun u h => vRI_M i6 rl u h) k v hI none
          rw [← e1]
          exact hA2
        have done : P2 none (hp σ2 (fx_up hi2 8 0 3 (-1)) hl2) := by
          refine ⟨rfl, fx_up hi2 8 0 3 (-1), hl2, by rw [hσ], fun k j s h => ?_, fun k j s h1 h2 h3 => ?_, hA3⟩
          · by_cases e : k = 8 ∧ j = 0 ∧ s = 3
            · obtain ⟨rfl, rfl, rfl⟩ := e
              rw [up_at, n9]
            · rw [up_off _ _ e, p1 k j s (fun z => h (by unfold scx; omega)), up_off _ _ e, f1 k j s (fun z => h (by unfold scx; omega))]
              exact F0 k j s h
          · rw [p2 k j s h1 h2 (by omega)]
            exact f2 k j s (by omega)
        have s2 : fx_E (fx_Ga (d + 10)) fx_M36 (56, [some qO, some (cO 2), some (rR f), some (vi (nI i)), some (vi (nI m))], [], hp σ2 hb hl, 0, 0) P2 := fx_wpE [] 40 ⟨ni_in (n := 0) (m := 5) (by decide) (by decide), _, _, hg1, _, _, hg2, done⟩
        rw [← hh] at s2
        exact fx_wpE [56] 40 ⟨ni_in (n := i) (m := 6) i6 (by decide), s2⟩
      obtain ⟨r, h', hg', e1, hi', hl', e2, e3⟩ := fx_methX (d := d + 10) (y := 36) (av := [qO, cO 2, rR f, vi (nI i), vi (nI m)]) (h := hp σ hi hl) (P := P2) fx_M36 [some qO, some (cO 2), some (rR f), some (vi (nI i)), some (vi (nI m))] (by decide) rfl rfl (Nat.le_of_ble_eq_true rfl) (fx_wpE [14] 30 ⟨_, _, x_hasRider hv h4 (nI i), bd_nf (fun _ => b14) (fun z => absurd hc z)⟩)
      subst e1
      subst e2
      exact ⟨hi', hl', hg', e3⟩
    obtain ⟨hi1, hl1, hg1, f1, f2, hA⟩ := find
    refine ⟨_, _, hg1, ?_⟩
    have hsome : ∃ q, vRB rl v i m = some q := by
      obtain ⟨e, he⟩ : ∃ e, (v (13 + 4 * i) + 1) ^ m = e + 1 := ⟨(v (13 + 4 * i) + 1) ^ m - 1, by have := rw_pp (W := v (13 + 4 * i) + 1) (by omega) m; omega⟩
      unfold vRB
      rw [he]
      exact rF_some _ _
    obtain ⟨q, hq⟩ := hsome
    rw [hq] at ans hA
    have fin : ∀ x : Int32, x = rI (some q) w → Post (some (vi x)) (hp (σ.1, σ.2.1, f.map (fun t => (5, t)), σ.2.2.2) hi1 hl1) := fun x e => ⟨by rw [ans, e], _, _, _, rfl, f1, f2⟩
    refine ⟨fun (z : ¬ w = 0) => ⟨fun (y : ¬ w = 1) => fin _ ?_, fun (y : ¬ ¬ w = 1) => fin _ ?_⟩, fun (z : ¬ ¬ w = 0) => fin _ ?_⟩
    · show hi1 4 0 9 = if w = 0 then nI q.1 else if w = 1 then nI q.2.1 else nI q.2.2
      rw [if_neg z, if_neg y]
      exact hA.2.2.1 q rfl
    · show hi1 4 0 8 = if w = 0 then nI q.1 else if w = 1 then nI q.2.1 else nI q.2.2
      rw [if_neg z, if_pos (Classical.not_not.mp y)]
      exact hA.2.1
    · show hi1 4 0 7 = if w = 0 then nI q.1 else if w = 1 then nI q.2.1 else nI q.2.2
      rw [if_pos (Classical.not_not.mp z)]
      exact hA.1
  obtain ⟨r', h', hg', e1, q, hi', hl', e2, e3⟩ := fx_methX (d := d + 11) (y := 113) (av := [xO, vi r, vi n, vi w]) (h := hp σ hi hl) (P := Post) fx_M113 [some xO, some (vi r), some (vi n), some (vi w)] (by decide) rfl rfl (Nat.le_of_ble_eq_true rfl) body
  subst e1
  subst e2
  exact ⟨q, hi', hl', hg', e3⟩
end XW
