/-! acts, and what can be undone: the class -/
def UX (hi : fxI3) (hl : fxL3) (m : Nat) (us : fxU) : Prop := ∃ p, p < 20 ∧ m ≤ 20 ∧ hi 0 0 1 = nI p ∧ hi 0 0 2 = nI m ∧ ∀ i, i < m → PX hi hl (3 + (p + 20 - m + i) % 20) (us i)
def FrB (hi hi' : fxI3) : Prop := ∀ k j s, ¬ scx k j s → ¬ ((k = 1 ∨ 21 ≤ k ∧ k ≤ 24) ∧ 2 ≤ j ∧ j ≤ 22) → k ≠ 0 → hi' k j s = hi k j s
def FlB (hl hl' : fxL3) : Prop := ∀ k j s, k ≠ 36 → k ≠ 37 → ¬ (k = 1 ∧ 2 ≤ j ∧ j ≤ 28) → hl' k j s = hl k j s
theorem FrB.rf (hi : fxI3) : FrB hi hi := fun _ _ _ _ _ _ => rfl
theorem FlB.rf (hl : fxL3) : FlB hl hl := fun _ _ _ _ _ _ => rfl
theorem FrB.tr {a b c : fxI3} (h : FrB a b) (g : FrB b c) : FrB a c := fun k j s h1 h2 h3 => (g k j s h1 h2 h3).trans (h k j s h1 h2 h3)
theorem FlB.tr {a b c : fxL3} (h : FlB a b) (g : FlB b c) : FlB a c := fun k j s h1 h2 h3 => (g k j s h1 h2 h3).trans (h k j s h1 h2 h3)
theorem FrB.up (hi : fxI3) {k j s : Nat} (x : Int32) (h : (k = 1 ∨ 21 ≤ k ∧ k ≤ 24) ∧ 2 ≤ j ∧ j ≤ 22 ∨ k = 0) : FrB hi (fx_up hi k j s x) := fun k' j' s' _ h2 h3 => up_off hi x (fun z => by
  obtain ⟨z1, z2, _⟩ := z
  subst z1; subst z2
  rcases h with h | h
  · exact h2 h
  · exact h3 h)
theorem UX.fr {hi hi' : fxI3} {hl hl' : fxL3} {m : Nat} {us : fxU} (h : UX hi hl m us) (f0 : ∀ s, hi' 0 0 s = hi 0 0 s) (f1 : ∀ k j s, (k = 1 ∨ 21 ≤ k ∧ k ≤ 24) → 3 ≤ j → j ≤ 22 → hi' k j s = hi k j s) (f2 : ∀ j, 3 ≤ j → j ≤ 22 → hl' 1 j 6 = hl 1 j 6) : UX hi' hl' m us := by
  obtain ⟨p, h1, h2, h3, h4, h5⟩ := h
  refine ⟨p, h1, h2, (f0 1).trans h3, (f0 2).trans h4, fun i hi2 => ?_⟩
  have b : (p + 20 - m + i) % 20 < 20 := Nat.mod_lt _ (by decide)
  exact (h5 i hi2).fr (fun s => f1 1 _ s (by omega) (by omega) (by omega)) (fun k s hk => f1 k _ s (by omega) (by omega) (by omega)) (f2 _ (by omega) (by omega))
def ActXP (σ : fxS) (hi : fxI3) (hl : fxL3) (v : Nat → Nat) (m : Nat) (us : fxU) (ans : Int32) (c : Prop) (v' : Nat → Nat) : Option fxV → fxH → Prop := fun r2 h2 => r2 = some (vi ans) ∧ ∃ hi' hl', h2 = hp σ hi' hl' ∧ FrB hi hi' ∧ FlB hl hl' ∧ (c → PX hi' hl' 2 v' ∧ UX hi' hl' (min (m + 1) 20) (kUs m us v)) ∧ (¬ c → PX hi' hl' 2 v ∧ UX hi' hl' m us)
/-- an act of the class -/
def ActX (D y : Nat) (av : List fxV) (σ : fxS) (hi : fxI3) (hl : fxL3) (v : Nat → Nat) (m : Nat) (us : fxU) (ans : Int32) (c : Prop) (v' : Nat → Nat) : Prop := ∃ hi' hl', fx_Ga D y av (hp σ hi hl) (some (vi ans)) (hp σ hi' hl') ∧ FrB hi hi' ∧ FlB hl hl' ∧ (c → PX hi' hl' 2 v' ∧ UX hi' hl' (min (m + 1) 20) (kUs m us v)) ∧ (¬ c → PX hi' hl' 2 v ∧ UX hi' hl' m us)
theorem ActX_of {d y : Nat} {av : List fxV} {σ : fxS} {hi : fxI3} {hl : fxL3} {v v' : Nat → Nat} {m : Nat} {us : fxU} {ans : Int32} {c : Prop} (M : fxM) (lv : fxLv) (hy : y < 255) (hM : (fx_Y y).2.1 = M) (hlv : fx_ent M.1.2.2.1 av = lv) (hll : (fx_sl av).length ≤ M.1.2.2.1) (k : fx_E (fx_Ga d) M (0, lv, [], hp σ hi hl, 0, 0) (ActXP σ hi hl v m us ans c v')) : ActX (d + 1) y av σ hi hl v m us ans c v' := by
  obtain ⟨r, h', hg, e1, hi', hl', e2, e3⟩ := fx_methX (P := ActXP σ hi hl v m us ans c v') M lv hy hM hlv hll k
  subst e1
  subst e2
  exact ⟨hi', hl', hg, e3⟩
theorem ActX.same {σ : fxS} {hi : fxI3} {hl : fxL3} {v v' : Nat → Nat} {m : Nat} {us : fxU} {ans r : Int32} {c : Prop} (hv : PX hi hl 2 v) (hu : UX hi hl m us) (hc : ¬ c) (e : r = ans) : ActXP σ hi hl v m us ans c v' (some (vi r)) (hp σ hi hl) := ⟨by rw [e], hi, hl, rfl, FrB.rf hi, FlB.rf hl, fun z => absurd z hc, fun _ => ⟨hv, hu⟩⟩
abbrev kO : fxV := .inr (.inr (some (0, 0)))
section XA
variable {d : Nat} {σ : fxS} {hi : fxI3} {hl : fxL3} {v : Nat → Nat} {rl : Option fxRl} {f : Option Nat} {m : Nat} {us : fxU}
theorem x_keep (hv : PX hi hl 2 v) (h4 : v 4 ≤ 6) (hu : UX hi hl m us) : ∃ hi' hl', fx_Ga (d + 2) 2 [kO, cO 2] (hp σ hi hl) none (hp σ hi' hl') ∧ FrB hi hi' ∧ FlB hl hl' ∧ PX hi' hl' 2 v ∧ UX hi' hl' (min (m + 1) 20) (kUs m us v) := by
  obtain ⟨p, h20, m20, hp1, hm, hus⟩ := hu
  let Post : Option fxV → fxH → Prop := fun r2 h2 => r2 = none ∧ ∃ hi' hl', h2 = hp σ hi' hl' ∧ FrB hi hi' ∧ FlB hl hl' ∧ PX hi' hl' 2 v ∧ UX hi' hl' (min (m + 1) 20) (kUs m us v)
  obtain ⟨hi1, hl1, hg1, f1, f2, hv1⟩ := x_copyFrom (d := d) (σ := σ) (a := 3 + p) (b := 2) (by omega) hv h4
  have e1 : hi1 0 0 1 + 1 - (hi1 0 0 1 + 1) / 20 * 20 = nI ((p + 1) % 20) := by
    rw [f1 0 0 1 (by omega), hp1, nI_1]
    exact pk_rem (d := 20) (by omega) (by decide) (by decide)
  have e2 : (if (20 : Int32) < hi1 0 0 2 + 1 then 20 else hi1 0 0 2 + 1) = nI (min (m + 1) 20) := by
    rw [f1 0 0 2 (by omega), hm, nI_1]
    exact min_nI (m + 1) 20 (by omega) (by decide)
  have rfe : (.inr (.inr (bif Nat.blt (hi 0 0 1).toNatClampNeg 20 then some (1, 3 + (hi 0 0 1).toNatClampNeg) else none)) : fxV) = cO (3 + p) := by
    rw [ni_cl hp1 (by omega), show Nat.blt p 20 = true from Nat.ble_eq_true_of_le h20]
    rfl
  have st : fx_E (fx_Ga (d + 1)) fx_M2 (9, [some kO, some (cO 2)], [cO (3 + p)], hp σ hi hl, 0, 0) Post := by
    have gb : ∀ k j s, k ≠ 0 → (fx_up (fx_up hi1 0 0 1 (hi1 0 0 1 + 1 - (hi1 0 0 1 + 1) / 20 * 20)) 0 0 2 (if (20 : Int32) < hi1 0 0 2 + 1 then 20 else hi1 0 0 2 + 1)) k j s = hi1 k j s := fun k j s hk => by rw [up_off _ _ (by omega), up_off _ _ (by omega)]
    refine fx_wpE [] 40 ⟨_, _, hg1, (by decide), rfl, fx_up (fx_up hi1 0 0 1 (hi1 0 0 1 + 1 - (hi1 0 0 1 + 1) / 20 * 20)) 0 0 2 (if (20 : Int32) < hi1 0 0 2 + 1 then 20 else hi1 0 0 2 + 1), hl1, rfl, ?_, ?_, ?_, ?_⟩
    · exact fun k j s h1 h2 h3 => (gb k j s h3).trans (f1 k j s (by omega))
    · exact fun k j s h1 h2 h3 => f2 k j s (by omega)
    · exact hv.fr (fun s => (gb 1 2 s (by decide)).trans (f1 1 2 s (by omega))) (fun k s hk => (gb k 2 s (by omega)).trans (f1 k 2 s (by omega))) (f2 1 2 6 (by omega))
    · refine ⟨(p + 1) % 20, Nat.mod_lt _ (by decide), by omega, e1, e2, fun i hi2 => ?_⟩
      by_cases e : 3 + ((p + 1) % 20 + 20 - min (m + 1) 20 + i) % 20 = 3 + p
      · rw [e]
        have ek : kUs m us v i = v := by
          unfold kUs
          by_cases h : m = 20
          · rw [if_pos h, if_pos (by omega)]
          · rw [if_neg h, if_pos (by omega)]
        rw [ek]
        exact hv1
      · by_cases h : m = 20
        · have ek : kUs m us v i = us (i + 1) := by
            unfold kUs
            rw [if_pos h, if_neg (by omega)]
          rw [ek, show 3 + ((p + 1) % 20 + 20 - min (m + 1) 20 + i) % 20 = 3 + (p + 20 - m + (i + 1)) % 20 by omega]
          have ne : (p + 20 - m + (i + 1)) % 20 ≠ p := by omega
          exact (hus (i + 1) (by omega)).fr (fun s => (gb 1 _ s (by decide)).trans (f1 1 _ s (by omega))) (fun k s hk => (gb k _ s (by omega)).trans (f1 k _ s (by omega))) (f2 1 _ 6 (by omega))
        · have ek : kUs m us v i = us i := by
            unfold kUs
            rw [if_neg h, if_neg (by omega)]
          rw [ek, show 3 + ((p + 1) % 20 + 20 - min (m + 1) 20 + i) % 20 = 3 + (p + 20 - m + i) % 20 by omega]
          have ne : (p + 20 - m + i) % 20 ≠ p := by omega
          exact (hus i (by omega)).fr (fun s => (gb 1 _ s (by decide)).trans (f1 1 _ s (by omega))) (fun k s hk => (gb k _ s (by omega)).trans (f1 k _ s (by omega))) (f2 1 _ 6 (by omega))
  rw [← rfe] at st
  obtain ⟨r, h', hg', e1, hi', hl', e2, e3⟩ := fx_methX (d := d + 1) (y := 2) (av := [kO, cO 2]) (h := hp σ hi hl) (P := Post) fx_M2 [some kO, some (cO 2)] (by decide) rfl rfl (Nat.le_of_ble_eq_true rfl) (fx_wpE [9] 20 ⟨ni_inx (n := p) (m := 20) hp1 h20 (by decide), st⟩)
  subst e1
  subst e2
  exact ⟨hi', hl', hg', e3⟩
theorem x_takeBack (hu : UX hi hl m us) (h0 : 0 < m) (h4 : us (m - 1) 4 ≤ 6) : ∃ hi' hl', fx_Ga (d + 2) 3 [kO, cO 2] (hp σ hi hl) none (hp σ hi' hl') ∧ FrB hi hi' ∧ FlB hl hl' ∧ PX hi' hl' 2 (us (m - 1)) ∧ UX hi' hl' (m - 1) us := by
  obtain ⟨p, h20, m20, hp1, hm, hus⟩ := hu
  let Post : Option fxV → fxH → Prop := fun r2 h2 => r2 = none ∧ ∃ hi' hl', h2 = hp σ hi' hl' ∧ FrB hi hi' ∧ FlB hl hl' ∧ PX hi' hl' 2 (us (m - 1)) ∧ UX hi' hl' (m - 1) us
  have e1 : hi 0 0 1 + 20 - 1 - (hi 0 0 1 + 20 - 1) / 20 * 20 = nI ((p + 19) % 20) := by
    rw [hp1, show nI p + 20 - 1 = nI (p + 19) from (congrArg (· - 1) (nI_add p 20)).trans (pk_sub (b := 1) (by omega))]
    exact pk_rem (d := 20) (by omega) (by decide) (by decide)
  have b : (p + 19) % 20 < 20 := Nat.mod_lt _ (by decide)
  have hold := hus (m - 1) (by omega)
  rw [show (p + 20 - m + (m - 1)) % 20 = (p + 19) % 20 by omega] at hold
  obtain ⟨hi1, hl1, hg1, f1, f2, hv1⟩ := x_copyFrom (d := d) (σ := σ) (hi := fx_up hi 0 0 1 (hi 0 0 1 + 20 - 1 - (hi 0 0 1 + 20 - 1) / 20 * 20)) (hl := hl) (a := 2) (b := 3 + (p + 19) % 20) (by omega) hold h4
  have e2 : hi1 0 0 2 - 1 = nI (m - 1) := by
    rw [f1 0 0 2 (by omega)]
    show hi 0 0 2 - 1 = _
    rw [hm]
    exact pk_sub (b := 1) (by omega)
  have rfe : (.inr (.inr (bif Nat.blt (hi 0 0 1 + 20 - 1 - (hi 0 0 1 + 20 - 1) / 20 * 20).toNatClampNeg 20 then some (1, 3 + (hi 0 0 1 + 20 - 1 - (hi 0 0 1 + 20 - 1) / 20 * 20).toNatClampNeg) else none)) : fxV) = cO (3 + (p + 19) % 20) := by
    rw [ni_cl e1 (by omega), show Nat.blt ((p + 19) % 20) 20 = true from Nat.ble_eq_true_of_le b]
    rfl
  have st : fx_E (fx_Ga (d + 1)) fx_M3 (33, [some kO, some (cO 2)], [cO (3 + (p + 19) % 20), cO 2], hp σ (fx_up hi 0 0 1 (hi 0 0 1 + 20 - 1 - (hi 0 0 1 + 20 - 1) / 20 * 20)) hl, 0, 0) Post := by
    have gb : ∀ k j s, k ≠ 0 → fx_up hi1 0 0 2 (hi1 0 0 2 - 1) k j s = hi1 k j s := fun k j s hk => up_off _ _ (by omega)
    have gc : ∀ k j s, k ≠ 0 → fx_up hi 0 0 1 (hi 0 0 1 + 20 - 1 - (hi 0 0 1 + 20 - 1) / 20 * 20) k j s = hi k j s := fun k j s hk => up_off _ _ (by omega)
    refine fx_wpE [] 40 ⟨_, _, hg1, rfl, fx_up hi1 0 0 2 (hi1 0 0 2 - 1), hl1, rfl, ?_, ?_, ?_, ?_⟩
    · exact ((FrB.up hi _ (Or.inr rfl)).tr (fun k j s h1 h2 h3 => f1 k j s (by omega))).tr (FrB.up hi1 _ (Or.inr rfl))
    · exact fun k j s h1 h2 h3 => f2 k j s (by omega)
    · exact hv1.fr (fun s => gb 1 2 s (by decide)) (fun k s hk => gb k 2 s (by omega)) rfl
    · refine ⟨(p + 19) % 20, b, by omega, (f1 0 0 1 (by omega)).trans e1, e2, fun i hi2 => ?_⟩
      rw [show (p + 19) % 20 + 20 - (m - 1) + i = (p + 19) % 20 + 20 - (m - 1) + i from rfl, show ((p + 19) % 20 + 20 - (m - 1) + i) % 20 = (p + 20 - m + i) % 20 by omega]
      have b2 : (p + 20 - m + i) % 20 < 20 := Nat.mod_lt _ (by decide)
      exact (hus i (by omega)).fr (fun s => (gb 1 _ s (by decide)).trans ((f1 1 _ s (by omega)).trans (gc 1 _ s (by decide)))) (fun k s hk => (gb k _ s (by omega)).trans ((f1 k _ s (by omega)).trans (gc k _ s (by omega)))) (f2 1 _ 6 (by omega))
  rw [← rfe] at st
  obtain ⟨r, h', hg', e1, hi', hl', e2, e3⟩ := fx_methX (d := d + 1) (y := 3) (av := [kO, cO 2]) (h := hp σ hi hl) (P := Post) fx_M3 [some kO, some (cO 2)] (by decide) rfl rfl (Nat.le_of_ble_eq_true rfl) (fx_wpE [33] 30 (pk_le m 0 (fun hc => by omega) (fun _ => ⟨(by decide), ni_inx (n := (p + 19) % 20) (m := 20) e1 b (by decide), st⟩) hm))
  subst e1
  subst e2
  exact ⟨hi', hl', hg', e3⟩
theorem x_undo (hv : PX hi hl 2 v) (hu : UX hi hl m us) (h4 : 0 < m → us (m - 1) 4 ≤ 6) : ∃ hi' hl', fx_Ga (d + 3) 104 [xO] (hp σ hi hl) (some (vi (if m = 0 then -1 else nI (m - 1)))) (hp σ hi' hl') ∧ FrB hi hi' ∧ FlB hl hl' ∧ PX hi' hl' 2 (if m = 0 then v else us (m - 1)) ∧ UX hi' hl' (m - 1) us := by
  have hu0 := hu
  obtain ⟨p, h20, m20, hp1, hm, hus⟩ := hu0
  let Post : Option fxV → fxH → Prop := fun r2 h2 => r2 = some (vi (if m = 0 then -1 else nI (m - 1))) ∧ ∃ hi' hl', h2 = hp σ hi' hl' ∧ FrB hi hi' ∧ FlB hl hl' ∧ PX hi' hl' 2 (if m = 0 then v else us (m - 1)) ∧ UX hi' hl' (m - 1) us
  have body : fx_E (fx_Ga (d + 2)) fx_M104 (0, [some xO], [], hp σ hi hl, 0, 0) Post := by
    refine fx_wpE [] 30 (nn_eq m 0 (fun e => ?_) (fun e => ?_) hm)
    · subst e
      exact ⟨rfl, hi, hl, rfl, FrB.rf hi, FlB.rf hl, hv, hu⟩
    · obtain ⟨hi1, hl1, hg1, f1, f2, hv1, hu1⟩ := x_takeBack (d := d) (σ := σ) hu (by omega) (h4 (by omega))
      obtain ⟨p', _, _, _, hm', _⟩ := id hu1
      exact ⟨_, _, hg1, by rw [if_neg e, ← hm']; rfl, hi1, hl1, rfl, f1, f2, by rw [if_neg e]; exact hv1, hu1⟩
  obtain ⟨r, h', hg', e1, hi', hl', e2, e3⟩ := fx_methX (d := d + 2) (y := 104) (av := [xO]) (h := hp σ hi hl) (P := Post) fx_M104 [some xO] (by decide) rfl rfl (Nat.le_of_ble_eq_true rfl) body
  subst e1
  subst e2
  exact ⟨hi', hl', hg', e3⟩
theorem x_step (hn : NX σ hi hl v f rl) (hH : HV v) (hu : UX hi hl m us) : ActX (d + 6) 99 [xO] σ hi hl v m us (if v 0 = 1 ∧ v 10 < 999 then oI (vStep v rl none).2 else -2) (cStep v) (vStep v rl none).1 := by
  obtain ⟨hv, hg, hs, n4, n5, n6, n7, n8, n9⟩ := id hn
  have hh := x_isHunted (d := d + 4) (σ := σ) hv hs.2.1
  rw [hH.h] at hh
  have h10 := hH.2
  refine ActX_of fx_M99 [some xO] (by decide) rfl rfl (Nat.le_of_ble_eq_true rfl) (fx_wpE [] 50 ?_)
  refine ⟨_, _, hh, bd_if (fun hc => ActX.same hv hu (fun z => hc z.1) (if_neg (fun z => hc z.1)).symm) (fun hc => ?_)⟩
  refine pk_lt (v 10) 999 (fun e => ?_) (fun e => ActX.same hv hu (fun z => by have := z.2; omega) (if_neg (fun z => by omega)).symm) hv.2.2.2.2.2.1
  obtain ⟨hi1, hl1, hg1, f1, f2, hv1, hu1⟩ := x_keep (d := d + 3) (σ := σ) hv hs.1 hu
  have hro := x_ruleOf (d := d + 3) (σ := σ) (hi := hi1) (hl := hl1) ((f1 10 0 5 (by unfold scx; omega) (by omega) (by omega)).trans n5) n6 n7
  rw [← n4, ← f1 9 0 3 (by unfold scx; omega) (by omega) (by omega)] at hro
  obtain ⟨hi2, hl2, hg2, p1, p2, hv2⟩ := x_take (d := d) (σ := σ) (j := 2) (rt := f) (rl := rl) (row := none) hv1 (hs.sv (by omega)) hg (by have := hs.2.2.2.2.1; omega) ((f1 8 0 3 (by unfold scx; omega) (by omega) (by omega)).trans n9) (TX_fr (fun t s => f1 45 t s (by unfold scx; omega) (by omega) (by omega)) (fun t => f1 5 t 1 (by unfold scx; omega) (by omega) (by omega)) n8)
  refine ⟨_, _, hg1, _, _, hro, _, _, hg2, by rw [if_pos ⟨hc, e⟩], hi2, hl2, rfl, f1.tr (fun k j s h1 h2 h3 => p1 k j s (fun z => h1 (by unfold scx; omega)) (by omega)), f2.tr (fun k j s h1 h2 h3 => p2 k j s h1 h2), fun _ => ⟨hv2, hu1.fr (fun s => p1 0 0 s (by omega) (by omega)) (fun k j s hk h3 h22 => p1 k j s (by omega) (by omega)) (fun j _ _ => p2 1 j 6 (by decide) (by decide))⟩, fun z => absurd ⟨hc, e⟩ z⟩
theorem x_spur (hv : PX hi hl 2 v) (hs : SB v) (hu : UX hi hl m us) (r p : Int32) [Decidable (cSpur v r p)] : ActX (d + 3) 100 [xO, vi r, vi p] σ hi hl v m us (if cSpur v r p then nI (v (13 + 4 * r.toNatClampNeg)) else -1) (cSpur v r p) (vup v (13 + 4 * r.toNatClampNeg) p.toNatClampNeg) := by
  have h4 := hs.1
  refine ActX_of fx_M100 [some xO, some (vi r), some (vi p), none, none] (by decide) rfl rfl (Nat.le_of_ble_eq_true rfl) (fx_wpE [] 60 ?_)
  refine ⟨_, _, x_hasRider hv h4 r, bd_if (fun hc => ActX.same hv hu (fun z => hc z.1) (if_neg (fun z => hc z.1)).symm) (fun hc => ?_)⟩
  refine ⟨_, _, x_within p 1 9, bd_if (fun hc2 => ActX.same hv hu (fun z => hc2 z.2.1) (if_neg (fun z => hc2 z.2.1)).symm) (fun hc2 => ?_)⟩
  obtain ⟨i, i4, i6, er, ei⟩ := isR_of hc h4
  obtain ⟨k, _, k9, ep, ek⟩ := rg_of (a := 1) (b := 9) hc2 (by decide) (by decide)
  subst er
  subst ep
  have bd := ni_in (n := i) (m := 6) i6 (by decide)
  have e22 : hi 22 2 (nI i).toNatClampNeg = nI (v (13 + 4 * i)) := by
    rw [ei]
    exact (hv.2.2.2.2.2.2.2 i i4).2.1
  refine ⟨bd, ine e22 rfl (fun z => ?_) (fun z => ActX.same hv hu (fun y => y.2.2 (by rw [ei]; exact z)) (if_neg (fun y => y.2.2 (by rw [ei]; exact z))).symm)⟩
  have hC : cSpur v (nI i) (nI k) := ⟨hc, hc2, by rw [ei]; exact z⟩
  obtain ⟨hi1, hl1, hg1, f1, f2, hv1, hu1⟩ := x_keep (d := d) (σ := σ) hv h4 hu
  have e1 : hi1 22 2 (nI i).toNatClampNeg = nI (v (13 + 4 * i)) := by
    rw [ei]
    exact (hv1.2.2.2.2.2.2.2 i i4).2.1
  have eA : (if cSpur v (nI i) (nI k) then nI (v (13 + 4 * (nI i).toNatClampNeg)) else -1) = nI (v (13 + 4 * i)) := by rw [if_pos hC, ei]
  refine ⟨_, _, hg1, bd, bd, ?_, fx_up hi1 22 2 (nI i).toNatClampNeg (nI k), hl1, rfl, f1.tr (FrB.up hi1 _ (by omega)), f2, fun _ => ⟨?_, ?_⟩, fun y => absurd hC y⟩
  · rw [eA]
    exact congrArg (fun z => some (vi z)) e1
  · rw [ei, ek]
    exact hv1.pace i6
  · exact hu1.fr (fun s => rfl) (fun k j s hk h3 h22 => up_off _ _ (by omega)) (fun j _ _ => rfl)
theorem x_hold (hv : PX hi hl 2 v) (hs : SB v) (hH : HV v) (hu : UX hi hl m us) (r n : Int32) [Decidable (cHold v r n)] : ActX (d + 3) 101 [xO, vi r, vi n] σ hi hl v m us (if cHold v r n then nI (v (12 + 4 * r.toNatClampNeg) - n.toNatClampNeg) else -1) (cHold v r n) (vup v (12 + 4 * r.toNatClampNeg) (v (12 + 4 * r.toNatClampNeg) - n.toNatClampNeg)) := by
  have h4 := hs.1
  have hsv := hs.sv (by have := hH.2; omega)
  refine ActX_of fx_M101 [some xO, some (vi r), some (vi n), none] (by decide) rfl rfl (Nat.le_of_ble_eq_true rfl) (fx_wpE [] 60 ?_)
  refine ⟨_, _, x_hasRider hv h4 r, bd_if (fun hc => ActX.same hv hu (fun z => hc z.1) (if_neg (fun z => hc z.1)).symm) (fun hc => ?_)⟩
  refine ⟨_, _, x_within n 1 9, bd_nf (fun hc2 => ?_) (fun hc2 => ActX.same hv hu (fun z => hc2 z.2.2.1) (if_neg (fun z => hc2 z.2.2.1)).symm)⟩
  obtain ⟨i, i4, i6, er, ei⟩ := isR_of hc h4
  obtain ⟨k, _, k9, ep, ek⟩ := rg_of (a := 1) (b := 9) hc2 (by decide) (by decide)
  subst er
  subst ep
  have bd := ni_in (n := i) (m := 6) i6 (by decide)
  have bi := hsv.2.2.2.2.2.2 i i6
  have b11 := hsv.2.2.2.2.1
  have e23 : hi 23 2 (nI i).toNatClampNeg = nI (v (14 + 4 * i)) := by
    rw [ei]
    exact (hv.2.2.2.2.2.2.2 i i4).2.2.1
  have e21 : hi 21 2 (nI i).toNatClampNeg = nI (v (12 + 4 * i)) := by
    rw [ei]
    exact (hv.2.2.2.2.2.2.2 i i4).1
  have hlt : ¬ k ≤ v (12 + 4 * i) → ¬ nI k ≤ nI (v (12 + 4 * i)) := fun h z => Int32.not_lt.mpr z (nI_lt (by omega) (by omega))
  refine ⟨bd, pk_lt 0 (v (14 + 4 * i)) (fun hgt => ?_) (fun hle => ?_) rfl e23⟩
  · have ho : vOut v i = true := by unfold vOut; exact decide_eq_true hgt
    exact ActX.same hv hu (fun z => by have := z.2.1; rw [ei, ho] at this; cases this) (if_neg (fun z => by have := z.2.1; rw [ei, ho] at this; cases this)).symm
  have ho : vOut v i = false := by unfold vOut; exact decide_eq_false (by omega)
  refine ⟨bd, pk_le k (v (12 + 4 * i)) (fun hle => ?_) (fun hgt => ActX.same hv hu (fun y => hlt (by omega) (by have := y.2.2.2; rw [ei] at this; exact this)) (if_neg (fun y => hlt (by omega) (by have := y.2.2.2; rw [ei] at this; exact this))).symm) rfl e21⟩
  have hC : cHold v (nI i) (nI k) := ⟨hc, by rw [ei]; exact ho, hc2, by rw [ei]; exact Int32.not_lt.mp (fun z => by
    have := pk_lt (x := nI (v (12 + 4 * i))) (y := nI k) (A := False) (B := True) (v (12 + 4 * i)) k (fun h => by omega) (fun _ => trivial)
    exact this.1 z)⟩
  obtain ⟨hi1, hl1, hg1, f1, f2, hv1, hu1⟩ := x_keep (d := d) (σ := σ) hv h4 hu
  have e12 : hi1 21 2 (nI i).toNatClampNeg - nI k = nI (v (12 + 4 * i) - k) := by
    rw [ei, (hv1.2.2.2.2.2.2.2 i i4).1]
    exact pk_sub hle
  have eA : (if cHold v (nI i) (nI k) then nI (v (12 + 4 * (nI i).toNatClampNeg) - (nI k).toNatClampNeg) else -1) = nI (v (12 + 4 * i) - k) := by rw [if_pos hC, ei, ek]
  refine ⟨_, _, hg1, bd, bd, bd, ?_, fx_up hi1 21 2 (nI i).toNatClampNeg (hi1 21 2 (nI i).toNatClampNeg - nI k), hl1, rfl, f1.tr (FrB.up hi1 _ (by omega)), f2, fun _ => ⟨?_, ?_⟩, fun y => absurd hC y⟩
  · rw [eA, ← e12]
    exact congrArg (fun z => some (vi z)) (up_at hi1 21 2 (nI i).toNatClampNeg (hi1 21 2 (nI i).toNatClampNeg - nI k))
  · rw [e12, ei, ek]
    exact hv1.run i6
  · exact hu1.fr (fun s => rfl) (fun k j s hk h3 h22 => up_off _ _ (by omega)) (fun j _ _ => rfl)
theorem x_dig (hv : PX hi hl 2 v) (hs : SB v) (hu : UX hi hl m us) (r : Int32) [Decidable (cDig v r)] : ActX (d + 3) 102 [xO, vi r] σ hi hl v m us (if cDig v r then nI (v (14 + 4 * r.toNatClampNeg)) else -1) (cDig v r) (vup v (14 + 4 * r.toNatClampNeg) 0) := by
  have h4 := hs.1
  refine ActX_of fx_M102 [some xO, some (vi r), none, none] (by decide) rfl rfl (Nat.le_of_ble_eq_true rfl) (fx_wpE [] 60 ?_)
  refine ⟨_, _, x_hasRider hv h4 r, bd_if (fun hc => ActX.same hv hu (fun z => hc z.1) (if_neg (fun z => hc z.1)).symm) (fun hc => ?_)⟩
  obtain ⟨i, i4, i6, er, ei⟩ := isR_of hc h4
  subst er
  have bd := ni_in (n := i) (m := 6) i6 (by decide)
  have bi := hs.2.2.2.2.2 i i6
  have e23 : hi 23 2 (nI i).toNatClampNeg = nI (v (14 + 4 * i)) := by
    rw [ei]
    exact (hv.2.2.2.2.2.2.2 i i4).2.2.1
  refine ⟨bd, pk_lt 0 (v (14 + 4 * i)) (fun hgt => ?_) (fun hle => ?_) rfl e23⟩
  · have ho : vOut v i = true := by unfold vOut; exact decide_eq_true hgt
    have hC : cDig v (nI i) := ⟨hc, by rw [ei]; exact ho⟩
    obtain ⟨hi1, hl1, hg1, f1, f2, hv1, hu1⟩ := x_keep (d := d) (σ := σ) hv h4 hu
    have e1 : hi1 23 2 (nI i).toNatClampNeg = nI (v (14 + 4 * i)) := by
      rw [ei]
      exact (hv1.2.2.2.2.2.2.2 i i4).2.2.1
    have eA : (if cDig v (nI i) then nI (v (14 + 4 * (nI i).toNatClampNeg)) else -1) = nI (v (14 + 4 * i)) := by rw [if_pos hC, ei]
    refine ⟨_, _, hg1, bd, bd, ?_, fx_up hi1 23 2 (nI i).toNatClampNeg (nI 0), hl1, rfl, f1.tr (FrB.up hi1 _ (by omega)), f2, fun _ => ⟨?_, ?_⟩, fun y => absurd hC y⟩
    · rw [eA]
      exact congrArg (fun z => some (vi z)) e1
    · rw [ei]
      exact hv1.ground i6
    · exact hu1.fr (fun s => rfl) (fun k j s hk h3 h22 => up_off _ _ (by omega)) (fun j _ _ => rfl)
  · have ho : vOut v i = false := by unfold vOut; exact decide_eq_false (by omega)
    exact ActX.same hv hu (fun z => by have := z.2; rw [ei, ho] at this; cases this) (if_neg (fun z => by have := z.2; rw [ei, ho] at this; cases this)).symm
theorem x_gate (hv : PX hi hl 2 v) (hs : SB v) (hg : GV v) (hu : UX hi hl m us) (f : Int32) [Decidable (cGate v f)] : ActX (d + 3) 103 [xO, vi f] σ hi hl v m us (if cGate v f then b01 (vGate (vTg v f.toNatClampNeg) f.toNatClampNeg) else -1) (cGate v f) (vTg v f.toNatClampNeg) := by
  have h4 := hs.1
  have h1 := hs.2.1
  refine ActX_of fx_M103 [some xO, some (vi f), none] (by decide) rfl rfl (Nat.le_of_ble_eq_true rfl) (fx_wpE [] 60 ?_)
  refine ⟨_, _, x_hasField hv f, bd_nf (fun hc => ?_) (fun hc => ActX.same hv hu hc (if_neg hc).symm)⟩
  have hC : cGate v f := hc
  obtain ⟨k, hk, ek⟩ : ∃ k, k < v 1 ∧ f = nI k := by
    rcases ni_ix f (n := v 1) (by omega) with h | h
    · exact h
    · exact absurd hc h
  subst ek
  have ck : (nI k).toNatClampNeg = k := nI_clamp (by omega)
  obtain ⟨hi1, hl1, hg1, f1, f2, hv1, hu1⟩ := x_keep (d := d) (σ := σ) hv h4 hu
  obtain ⟨hg2, hv2⟩ := x_turnGate (d := d + 1) (σ := σ) hv1 h4 hg (g := k) (by omega)
  have hg3 := x_isGate (d := d + 1) (σ := σ) hv2 (hg.tg hk h1) (f := k) (by omega)
  refine ⟨_, _, hg1, _, _, hg2, _, _, hg3, ?_⟩
  have fin : ∀ x : Int32, x = b01 (vGate (vTg v k) k) → ActXP σ hi hl v m us (if cGate v (nI k) then b01 (vGate (vTg v (nI k).toNatClampNeg) (nI k).toNatClampNeg) else -1) (cGate v (nI k)) (vTg v (nI k).toNatClampNeg) (some (vi x)) (hp σ hi1 (fx_up hl1 1 2 6 (lN (vG (vTg v k))))) := fun x e => ⟨by rw [if_pos hC, ck, e], _, _, rfl, f1, f2.tr (fun k j s _ _ h => up_off _ _ (by omega)), fun _ => ⟨by rw [ck]; exact hv2, hu1.fr (fun s => rfl) (fun k j s hk h3 h22 => rfl) (fun j _ _ => up_off _ _ (by omega))⟩, fun y => absurd hC y⟩
  exact b01_if (fun h => fin 0 (by rw [h]; rfl)) (fun h => fin 1 (by rw [h]; rfl))
end XA
