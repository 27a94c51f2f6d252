/-! notes told; images -/
def vBz (v : Nat → Nat) : Nat → Nat := if v 0 = 1 then vBg v else fun _ => 0
def WD (hi : fxI3) (hl : fxL3) (j : Nat) (v : Nat → Nat) (f : Option Nat) (x : Nat) : Prop := PX hi hl (fx_wn j) v ∧ PX hi hl (fx_wb j) (vBz v) ∧ NT hi j v ∧ hi 9 j 3 = oI f ∧ hi 9 j 4 = nI x
theorem vBz_4 {v : Nat → Nat} (h : v 4 ≤ 6) : vBz v 4 ≤ 6 := by
  unfold vBz
  split
  · rw [vBg_ne v (by omega)]
    exact h
  · exact Nat.zero_le _
def cNote (v : Nat → Nat) (n r far : Int32) : Prop := (0 ≤ n ∧ n ≤ 60) ∧ isR v r ∧ (0 ≤ far ∧ far ≤ 9999) ∧ v 82 < 10
def nNote (v : Nat → Nat) (n r far : Int32) : Nat → Nat := vup (vup (vup (vup v (52 + 3 * v 82) n.toNatClampNeg) (53 + 3 * v 82) r.toNatClampNeg) (54 + 3 * v 82) far.toNatClampNeg) 82 (v 82 + 1)
abbrev yO (j : Nat) : fxV := .inr (.inr (some (9, j)))
section NO
variable {d : Nat} {σ : fxS} {hi : fxI3} {hl : fxL3} {v : Nat → Nat}
theorem m_note (hv : PM hi v) (h4 : v 4 ≤ 6) (hno : NOK v) (n r far : Int32) [Decidable (cNote v n r far)] : ∃ hi', fx_Ga (d + 2) 238 [mO, vi n, vi r, vi far] (hp σ hi hl) (some (vi (if n = -1 then 0 else if cNote v n r far then nI (v 82 + 1) else -2))) (hp σ hi' hl) ∧ (∀ k j s, k ≠ 59 → hi' k j s = hi k j s) ∧ PM hi' (if n = -1 then vup v 82 0 else if cNote v n r far then nNote v n r far else v) := by
  let Post : Option fxV → fxH → Prop := fun r2 h2 => r2 = some (vi (if n = -1 then 0 else if cNote v n r far then nI (v 82 + 1) else -2)) ∧ ∃ hi', h2 = hp σ hi' hl ∧ (∀ k j s, k ≠ 59 → hi' k j s = hi k j s) ∧ PM hi' (if n = -1 then vup v 82 0 else if cNote v n r far then nNote v n r far else v)
  have b82 := ni_inx (x := 82) (n := 82) (m := 83) rfl (by decide) (by decide)
  have q10 := hno.1
  have body : fx_E (fx_Ga (d + 1)) fx_M238 (0, [some mO, some (vi n), some (vi r), some (vi far), none], [], hp σ hi hl, 0, 0) Post := by
    refine fx_wpE [104] 90 ⟨fun (z : ¬ n = -1) => ?_, fun (z : ¬ ¬ n = -1) => ?_⟩
    · have no : ¬ cNote v n r far → Post (some (vi (-2))) (hp σ hi hl) := fun h => ⟨by rw [if_neg z, if_neg h], hi, rfl, fun _ _ _ _ => rfl, by rw [if_neg z, if_neg h]; exact hv⟩
      refine ⟨_, _, m_inN n 0 60 rfl rfl, bd_if (fun hc => no (fun y => hc y.1)) (fun hc => ?_)⟩
      refine ⟨_, _, m_isRider hv r, bd_if (fun hc2 => no (fun y => hc2 y.2.1)) (fun hc2 => ?_)⟩
      refine ⟨_, _, m_inN far 0 9999 rfl rfl, bd_if (fun hc3 => no (fun y => hc3 y.2.2.1)) (fun hc3 => ?_)⟩
      refine ⟨b82, nn_eq (v 82) 10 (fun e => no (fun y => by have := y.2.2.2; omega)) (fun e => ?_) (hv 82 (by decide)).1⟩
      have hC : cNote v n r far := ⟨hc, hc2, hc3, by omega⟩
      obtain ⟨i, i4, i6, er, ei⟩ := isR_of hc2 h4
      obtain ⟨kn, _, kn2, en, ekn⟩ := rg_of (a := 0) (b := 60) hc (by decide) (by decide)
      obtain ⟨kf, _, kf2, ef, ekf⟩ := rg_of (a := 0) (b := 9999) hc3 (by decide) (by decide)
      have e4 : (52 + 3 * hi 59 0 82 : Int32) = nI (52 + 3 * v 82) := by
        rw [(hv 82 (by decide)).1]
        show nI 52 + nI 3 * nI (v 82) = _
        rw [pk_mul, nI_add]
      have e5 : (52 + 3 * hi 59 0 82 + 1 : Int32) = nI (53 + 3 * v 82) := by
        rw [e4, nI_1]
        congr 1
        omega
      have e6 : (52 + 3 * hi 59 0 82 + 2 : Int32) = nI (54 + 3 * v 82) := by
        rw [e4]
        show nI _ + nI 2 = _
        rw [nI_add]
        congr 1
        omega
      have hv3 : PM (fx_up (fx_up (fx_up hi 59 0 (52 + 3 * hi 59 0 82 : Int32).toNatClampNeg n) 59 0 (52 + 3 * hi 59 0 82 + 1 : Int32).toNatClampNeg r) 59 0 (52 + 3 * hi 59 0 82 + 2 : Int32).toNatClampNeg far) (vup (vup (vup v (52 + 3 * v 82) n.toNatClampNeg) (53 + 3 * v 82) r.toNatClampNeg) (54 + 3 * v 82) far.toNatClampNeg) := by
        rw [ni_cl e4 (by omega), ni_cl e5 (by omega), ni_cl e6 (by omega), ekn, ei, ekf, en, er, ef]
        exact ((hv.put (by omega)).put (by omega)).put (by omega)
      refine ⟨b82, ni_inx (n := 52 + 3 * v 82) (m := 83) e4 (by omega) (by decide), ni_inx (n := 53 + 3 * v 82) (m := 83) e5 (by omega) (by decide), ni_inx (n := 54 + 3 * v 82) (m := 83) e6 (by omega) (by decide), ?_⟩
      generalize hh : fx_up (fx_up (fx_up hi 59 0 (52 + 3 * hi 59 0 82 : Int32).toNatClampNeg n) 59 0 (52 + 3 * hi 59 0 82 + 1 : Int32).toNatClampNeg r) 59 0 (52 + 3 * hi 59 0 82 + 2 : Int32).toNatClampNeg far = h3 at hv3
      have fr3 : ∀ k j s, k ≠ 59 → h3 k j s = hi k j s := fun k j s hk => by
        rw [← hh, up_off _ _ (by omega), up_off _ _ (by omega), up_off _ _ (by omega)]
      have e82 : h3 59 0 82 = nI (v 82) := by
        rw [(hv3 82 (by decide)).1, vup_ne (by omega), vup_ne (by omega), vup_ne (by omega)]
      have st : fx_E (fx_Ga (d + 1)) fx_M238 (104, [some mO, some (vi n), some (vi r), some (vi far), some (vi (52 + 3 * hi 59 0 82))], [], hp σ h3 hl, 0, 0) Post := by
        refine fx_wpE [] 40 ⟨b82, b82, b82, ?_, fx_up h3 59 0 82 (h3 59 0 82 + 1), rfl, fun k j s hk => (up_off _ _ (by omega)).trans (fr3 k j s hk), ?_⟩
        · rw [if_neg z, if_pos hC]
          show some (vi (h3 59 0 82 + 1)) = _
          rw [e82, nI_1]
        · rw [if_neg z, if_pos hC, e82, nI_1]
          exact hv3.put (by omega)
      rw [← hh] at st
      exact st
    · have z := Classical.not_not.mp z
      refine ⟨b82, ?_, fx_up hi 59 0 82 (nI 0), rfl, fun k j s hk => up_off _ _ (by omega), ?_⟩
      · rw [if_pos z]
        rfl
      · rw [if_pos z]
        exact hv.put (by decide)
  obtain ⟨r', h', hg', e1, hi', e2, e3⟩ := fx_methX (d := d + 1) (y := 238) (av := [mO, vi n, vi r, vi far]) (h := hp σ hi hl) (P := Post) fx_M238 [some mO, some (vi n), some (vi r), some (vi far), none] (by decide) rfl rfl (Nat.le_of_ble_eq_true rfl) body
  subst e1
  subst e2
  exact ⟨hi', hg', e3⟩
theorem x_note (hv : PX hi hl 2 v) (h4 : v 4 ≤ 6) (hnt : NT hi 0 v) (hno : NOK v) (n r far : Int32) [Decidable (cNote v n r far)] : ∃ hi', fx_Ga (d + 2) 128 [xO, vi n, vi r, vi far] (hp σ hi hl) (some (vi (if n = -1 then 0 else if cNote v n r far then nI (v 82 + 1) else -2))) (hp σ hi' hl) ∧ (∀ k j s, ¬ ((k = 3 ∨ 30 ≤ k ∧ k ≤ 32) ∧ j = 0) → hi' k j s = hi k j s) ∧ NT hi' 0 (if n = -1 then vup v 82 0 else if cNote v n r far then nNote v n r far else v) := by
  let Post : Option fxV → fxH → Prop := fun r2 h2 => r2 = some (vi (if n = -1 then 0 else if cNote v n r far then nI (v 82 + 1) else -2)) ∧ ∃ hi', h2 = hp σ hi' hl ∧ (∀ k j s, ¬ ((k = 3 ∨ 30 ≤ k ∧ k ≤ 32) ∧ j = 0) → hi' k j s = hi k j s) ∧ NT hi' 0 (if n = -1 then vup v 82 0 else if cNote v n r far then nNote v n r far else v)
  have q10 := hno.1
  have clear : fx_Ga (d + 1) 30 [nO 0] (hp σ hi hl) none (hp σ (fx_up hi 3 0 0 0) hl) := fx_meth fx_M30 [some (nO 0)] (by decide) rfl rfl (Nat.le_of_ble_eq_true rfl) (fx_wpE [] 20 ⟨rfl, rfl⟩)
  have bq : ∀ x : Int32, x = nI (v 82) → v 82 < 10 → 0 ≤ x.toInt ∧ x.toInt < ((10 : Nat) : Int) := fun x e h => ni_inx (n := v 82) (m := 10) e h (by decide)
  have add : fx_Ga (d + 1) 31 [nO 0, vi n, vi r, vi far] (hp σ hi hl) (some (vi (b01 (decide (v 82 < 10))))) (hp σ (if v 82 < 10 then fx_up (fx_up (fx_up (fx_up hi 30 0 (v 82) n) 31 0 (v 82) r) 32 0 (v 82) far) 3 0 0 (nI (v 82 + 1)) else hi) hl) := by
    refine fx_meth fx_M31 [some (nO 0), some (vi n), some (vi r), some (vi far)] (by decide) rfl rfl (Nat.le_of_ble_eq_true rfl) (fx_wpE [] 60 ?_)
    refine ⟨fun (z : hi 3 0 0 < 0) => absurd (by rw [hnt.1] at z; exact z) (nI_pos (n := v 82) (by omega)), fun _ => pk_lt (v 82) 10 (fun hlt => ?_) (fun hge => ?_) hnt.1⟩
    · rw [decide_eq_true hlt, if_pos hlt]
      refine ⟨bq _ hnt.1 hlt, bq _ hnt.1 hlt, bq _ hnt.1 hlt, Or.inr rfl, rfl, ?_⟩
      show hp σ (fx_up (fx_up (fx_up (fx_up hi 30 0 (hi 3 0 0).toNatClampNeg n) 31 0 (hi 3 0 0).toNatClampNeg r) 32 0 (hi 3 0 0).toNatClampNeg far) 3 0 0 (hi 3 0 0 + 1)) hl = _
      rw [hnt.1, nI_clamp (by omega), nI_1]
    · rw [decide_eq_false (by omega), if_neg (by omega)]
      exact ⟨Or.inl rfl, rfl, rfl⟩
  have body : fx_E (fx_Ga (d + 1)) fx_M128 (0, [some xO, some (vi n), some (vi r), some (vi far)], [], hp σ hi hl, 0, 0) Post := by
    refine fx_wpE [] 60 ⟨fun (z : ¬ n = -1) => ?_, fun (z : ¬ ¬ n = -1) => ?_⟩
    · have no : ¬ cNote v n r far → Post (some (vi (-2))) (hp σ hi hl) := fun h => ⟨by rw [if_neg z, if_neg h], hi, rfl, fun _ _ _ _ => rfl, by rw [if_neg z, if_neg h]; exact hnt⟩
      refine ⟨_, _, x_within n 0 60, bd_if (fun hc => no (fun y => hc y.1)) (fun hc => ?_)⟩
      refine ⟨_, _, x_hasRider hv h4 r, bd_if (fun hc2 => no (fun y => hc2 y.2.1)) (fun hc2 => ?_)⟩
      refine ⟨_, _, x_within far 0 9999, bd_nf (fun hc3 => ?_) (fun hc3 => no (fun y => hc3 y.2.2.1))⟩
      refine ⟨_, _, add, ?_⟩
      by_cases hlt : v 82 < 10
      · have hC : cNote v n r far := ⟨hc, hc2, hc3, hlt⟩
        obtain ⟨i, i4, i6, er, ei⟩ := isR_of hc2 h4
        obtain ⟨kn, _, kn2, en, ekn⟩ := rg_of (a := 0) (b := 60) hc (by decide) (by decide)
        obtain ⟨kf, _, kf2, ef, ekf⟩ := rg_of (a := 0) (b := 9999) hc3 (by decide) (by decide)
        rw [decide_eq_true hlt, if_pos hlt]
        refine b01_if (fun z => by cases z) (fun _ => ⟨?_, _, rfl, fun k j s hk => ?_, ?_⟩)
        · rw [if_neg z, if_pos hC]
          rfl
        · rw [up_off _ _ (by omega), up_off _ _ (by omega), up_off _ _ (by omega), up_off _ _ (by omega)]
        · rw [if_neg z, if_pos hC]
          unfold nNote
          rw [ekn, ei, ekf, en, er, ef]
          refine ⟨by rw [vup_eq, up_at], fun q hq => ?_⟩
          rw [vup_eq] at hq
          rw [vup_ne (show 52 + 3 * q ≠ 82 by omega), vup_ne (show 53 + 3 * q ≠ 82 by omega), vup_ne (show 54 + 3 * q ≠ 82 by omega)]
          by_cases e : q = v 82
          · subst e
            rw [vup_ne (show 52 + 3 * v 82 ≠ 54 + 3 * v 82 by omega), vup_ne (show 52 + 3 * v 82 ≠ 53 + 3 * v 82 by omega), vup_eq, vup_ne (show 53 + 3 * v 82 ≠ 54 + 3 * v 82 by omega), vup_eq, vup_eq]
            refine ⟨?_, ?_, ?_⟩
            · rw [up_off _ _ (by omega), up_off _ _ (by omega), up_off _ _ (by omega), up_at]
            · rw [up_off _ _ (by omega), up_off _ _ (by omega), up_at]
            · rw [up_off _ _ (by omega), up_at]
          · rw [vup_ne (show 52 + 3 * q ≠ 54 + 3 * v 82 by omega), vup_ne (show 52 + 3 * q ≠ 53 + 3 * v 82 by omega), vup_ne (show 52 + 3 * q ≠ 52 + 3 * v 82 by omega), vup_ne (show 53 + 3 * q ≠ 54 + 3 * v 82 by omega), vup_ne (show 53 + 3 * q ≠ 53 + 3 * v 82 by omega), vup_ne (show 53 + 3 * q ≠ 52 + 3 * v 82 by omega), vup_ne (show 54 + 3 * q ≠ 54 + 3 * v 82 by omega), vup_ne (show 54 + 3 * q ≠ 53 + 3 * v 82 by omega), vup_ne (show 54 + 3 * q ≠ 52 + 3 * v 82 by omega)]
            obtain ⟨a1, a2, a3⟩ := hnt.2 q (by omega)
            refine ⟨?_, ?_, ?_⟩
            · rw [up_off _ _ (by omega), up_off _ _ (by omega), up_off _ _ (by omega), up_off _ _ (by omega)]
              exact a1
            · rw [up_off _ _ (by omega), up_off _ _ (by omega), up_off _ _ (by omega), up_off _ _ (by omega)]
              exact a2
            · rw [up_off _ _ (by omega), up_off _ _ (by omega), up_off _ _ (by omega), up_off _ _ (by omega)]
              exact a3
      · rw [decide_eq_false hlt, if_neg hlt]
        exact b01_if (fun _ => no (fun y => hlt y.2.2.2)) (fun z => by cases z)
    · have z := Classical.not_not.mp z
      refine ⟨_, _, clear, ?_, _, rfl, fun k j s hk => up_off _ _ (by omega), ?_⟩
      · rw [if_pos z]
        rfl
      · rw [if_pos z]
        refine ⟨by rw [vup_eq, up_at]; rfl, fun i hi2 => ?_⟩
        rw [vup_eq] at hi2
        omega
  obtain ⟨r', h', hg', e1, hi', e2, e3⟩ := fx_methX (d := d + 1) (y := 128) (av := [xO, vi n, vi r, vi far]) (h := hp σ hi hl) (P := Post) fx_M128 [some xO, some (vi n), some (vi r), some (vi far)] (by decide) rfl rfl (Nat.le_of_ble_eq_true rfl) body
  subst e1
  subst e2
  exact ⟨hi', hg', e3⟩
theorem x_ncopy {a b : Nat} (hab : a ≠ b) (hnt : NT hi b v) (hno : NOK v) : ∃ hi', fx_Ga (d + 1) 34 [nO a, nO b] (hp σ hi hl) none (hp σ hi' hl) ∧ (∀ k j s, ¬ ((k = 3 ∨ 30 ≤ k ∧ k ≤ 32) ∧ j = a) → hi' k j s = hi k j s) ∧ NT hi' a v := by
  let Post : Option fxV → fxH → Prop := fun r2 h2 => r2 = none ∧ ∃ hi', h2 = hp σ hi' hl ∧ (∀ k j s, ¬ ((k = 3 ∨ 30 ≤ k ∧ k ≤ 32) ∧ j = a) → hi' k j s = hi k j s) ∧ NT hi' a v
  have q10 := hno.1
  have loop : ∀ t i (hb : fxI3), i + t = 10 → (∀ k j s, ¬ ((k = 3 ∨ 30 ≤ k ∧ k ≤ 32) ∧ j = a) → hb k j s = hi k j s) → hb 3 a 0 = hi 3 b 0 → (∀ k c, 30 ≤ k ∧ k ≤ 32 → c < i → hb k a c = hi k b c) → fx_E (fx_Ga d) fx_M34 (10, [some (nO a), some (nO b), some (vi (nI i))], [], hp σ hb hl, 0, 0) Post := by
    intro t
    induction t with
    | zero =>
      intro i hb ht f1 f2 f3
      have : i = 10 := by omega
      subst this
      refine fx_wpL [10] 20 (pk_le 10 10 (fun _ => ⟨rfl, hb, rfl, f1, f2.trans hnt.1, fun q hq => ?_⟩) (fun hc => by omega))
      obtain ⟨a1, a2, a3⟩ := hnt.2 q hq
      exact ⟨(f3 30 q (by decide) (by omega)).trans a1, (f3 31 q (by decide) (by omega)).trans a2, (f3 32 q (by decide) (by omega)).trans a3⟩
    | succ t ih =>
      intro i hb ht f1 f2 f3
      have c : (nI i).toNatClampNeg = i := nI_clamp (by omega)
      have b6 := ni_in (n := i) (m := 10) (by omega) (by decide)
      have eb : ∀ k, 30 ≤ k ∧ k ≤ 32 → hb k b i = hi k b i := fun k hk => f1 k b i (fun z => hab z.2.symm)
      have h2 := ih (i + 1) (fx_up (fx_up (fx_up hb 30 a i (hi 30 b i)) 31 a i (hi 31 b i)) 32 a i (hi 32 b i)) (by omega) (fun k j s h => by
        rw [up_off _ _ (by omega), up_off _ _ (by omega), up_off _ _ (by omega)]
        exact f1 k j s h) (by
        rw [up_off _ _ (by omega), up_off _ _ (by omega), up_off _ _ (by omega)]
        exact f2) (fun k c hk hc => by
        by_cases e : c = i
        · subst e
          rcases (show k = 30 ∨ k = 31 ∨ k = 32 by omega) with rfl | rfl | rfl
          · rw [up_off _ _ (by omega), up_off _ _ (by omega), up_at]
          · rw [up_off _ _ (by omega), up_at]
          · rw [up_at]
        · rw [up_off _ _ (by omega), up_off _ _ (by omega), up_off _ _ (by omega)]
          exact f3 k c hk (by omega))
      rw [← nI_1] at h2
      refine fx_wpL [10] 60 (pk_le 10 i (fun hc => by omega) (fun _ => ⟨b6, b6, b6, b6, b6, b6, ?_⟩))
      show fx_E _ _ (10, _, [], hp σ (fx_up (fx_up (fx_up hb 30 a (nI i).toNatClampNeg (hb 30 b (nI i).toNatClampNeg)) 31 a (nI i).toNatClampNeg (hb 31 b (nI i).toNatClampNeg)) 32 a (nI i).toNatClampNeg (hb 32 b (nI i).toNatClampNeg)) hl, 0, 0) _
      rw [c, eb 30 (by decide), eb 31 (by decide), eb 32 (by decide)]
      exact h2
  obtain ⟨r, h', hg, e1, hi', e2, e3⟩ := fx_methX (d := d) (y := 34) (av := [nO a, nO b]) (h := hp σ hi hl) (P := Post) fx_M34 [some (nO a), some (nO b), none] (by decide) rfl rfl (Nat.le_of_ble_eq_true rfl) (fx_wpE [10] 20 (loop 10 0 (fx_up hi 3 a 0 (hi 3 b 0)) rfl (fun k j s h => up_off _ _ (by omega)) (up_at _ _ _ _ _) (fun k c _ hc => absurd hc (by omega))))
  subst e1
  subst e2
  exact ⟨hi', hg, e3⟩
theorem x_wcopy {a b x : Nat} {f : Option Nat} (h5 : a < 5 ∧ b < 5) (hab : a ≠ b) (hw : WD hi hl b v f x) (h4 : v 4 ≤ 6) (hno : NOK v) : ∃ hi' hl', fx_Ga (d + 2) 85 [yO a, yO b] (hp σ hi hl) none (hp σ hi' hl') ∧ (∀ k j s, ¬ ((k = 1 ∨ 21 ≤ k ∧ k ≤ 24) ∧ (j = fx_wb a ∨ j = fx_wn a)) → ¬ ((k = 3 ∨ 30 ≤ k ∧ k ≤ 32) ∧ j = a) → ¬ (k = 9 ∧ j = a) → hi' k j s = hi k j s) ∧ (∀ k j s, ¬ (k = 1 ∧ (j = fx_wb a ∨ j = fx_wn a)) → hl' k j s = hl k j s) ∧ WD hi' hl' a v f x := by
  have ne : fx_wb a ≠ fx_wb b ∧ fx_wn a ≠ fx_wn b ∧ fx_wb a ≠ fx_wn b ∧ fx_wn a ≠ fx_wb b ∧ fx_wb a ≠ fx_wn a := by
    obtain ⟨h1, h2⟩ := h5
    have key : ∀ a, a < 5 → ∀ b, b < 5 → (a = b ∨ (¬ fx_wb a = fx_wb b ∧ ¬ fx_wn a = fx_wn b ∧ ¬ fx_wb a = fx_wn b ∧ ¬ fx_wn a = fx_wb b ∧ ¬ fx_wb a = fx_wn a)) := by decide
    exact (key a h1 b h2).resolve_left hab
  obtain ⟨hw1, hw2, hw3, hw4, hw5⟩ := hw
  obtain ⟨hi1, hl1, hg1, f1, f2, hv1⟩ := x_copyFrom (d := d) (σ := σ) (a := fx_wb a) (b := fx_wb b) ne.1 hw2 (vBz_4 h4)
  obtain ⟨hi2, hl2, hg2, p1, p2, hv2⟩ := x_copyFrom (d := d) (σ := σ) (a := fx_wn a) (b := fx_wn b) ne.2.1 (hw1.fr (fun s => f1 1 _ s (by omega)) (fun k s hk => f1 k _ s (by omega)) (f2 1 _ 6 (by omega))) h4
  obtain ⟨hi3, hg3, r1, hn3⟩ := x_ncopy (d := d) (σ := σ) (hl := hl2) (a := a) (b := b) hab (v := v) ⟨(p1 3 b 0 (by omega)).trans ((f1 3 b 0 (by omega)).trans hw3.1), fun i hi2 => ⟨(p1 30 b i (by omega)).trans ((f1 30 b i (by omega)).trans (hw3.2 i hi2).1), (p1 31 b i (by omega)).trans ((f1 31 b i (by omega)).trans (hw3.2 i hi2).2.1), (p1 32 b i (by omega)).trans ((f1 32 b i (by omega)).trans (hw3.2 i hi2).2.2)⟩⟩ hno
  let Post : Option fxV → fxH → Prop := fun r2 h2 => r2 = none ∧ ∃ hi' hl', h2 = hp σ hi' hl' ∧ (∀ k j s, ¬ ((k = 1 ∨ 21 ≤ k ∧ k ≤ 24) ∧ (j = fx_wb a ∨ j = fx_wn a)) → ¬ ((k = 3 ∨ 30 ≤ k ∧ k ≤ 32) ∧ j = a) → ¬ (k = 9 ∧ j = a) → hi' k j s = hi k j s) ∧ (∀ k j s, ¬ (k = 1 ∧ (j = fx_wb a ∨ j = fx_wn a)) → hl' k j s = hl k j s) ∧ WD hi' hl' a v f x
  have g9 : ∀ s, hi3 9 b s = hi 9 b s := fun s => (r1 9 b s (by omega)).trans ((p1 9 b s (by omega)).trans (f1 9 b s (by omega)))
  have fin : Post none (hp σ (fx_up (fx_up hi3 9 a 3 (hi3 9 b 3)) 9 a 4 (hi3 9 b 4)) hl2) := by
    have gb : ∀ k j s, k ≠ 9 → fx_up (fx_up hi3 9 a 3 (hi3 9 b 3)) 9 a 4 (hi3 9 b 4) k j s = hi3 k j s := fun k j s hk => by rw [up_off _ _ (by omega), up_off _ _ (by omega)]
    refine ⟨rfl, _, _, rfl, fun k j s h1 h2 h3 => ?_, fun k j s h => ?_, ?_⟩
    · rw [up_off _ _ (by omega), up_off _ _ (by omega), r1 k j s h2, p1 k j s (by omega)]
      exact f1 k j s (by omega)
    · rw [p2 k j s (by omega)]
      exact f2 k j s (by omega)
    · refine ⟨?_, ?_, ?_, ?_, ?_⟩
      · exact hv2.fr (fun s => (gb 1 _ s (by decide)).trans (r1 1 _ s (by omega))) (fun k s hk => (gb k _ s (by omega)).trans (r1 k _ s (by omega))) rfl
      · exact hv1.fr (fun s => (gb 1 _ s (by decide)).trans ((r1 1 _ s (by omega)).trans (p1 1 _ s (by omega)))) (fun k s hk => (gb k _ s (by omega)).trans ((r1 k _ s (by omega)).trans (p1 k _ s (by omega)))) (p2 1 _ 6 (by omega))
      · exact ⟨(gb 3 a 0 (by decide)).trans hn3.1, fun i hi2 => ⟨(gb 30 a i (by decide)).trans (hn3.2 i hi2).1, (gb 31 a i (by decide)).trans (hn3.2 i hi2).2.1, (gb 32 a i (by decide)).trans (hn3.2 i hi2).2.2⟩⟩
      · rw [up_off _ _ (by omega), up_at, g9]
        exact hw4
      · rw [up_at, g9]
        exact hw5
  have e9 : fx_up hi3 9 a 3 (hi3 9 b 3) 9 b 4 = hi3 9 b 4 := up_off _ _ (by omega)
  rw [← e9] at fin
  obtain ⟨r, h', hg, e1, hi', hl', e2, e3⟩ := fx_methX (d := d + 1) (y := 85) (av := [yO a, yO b]) (h := hp σ hi hl) (P := Post) fx_M85 [some (yO a), some (yO b)] (by decide) rfl rfl (Nat.le_of_ble_eq_true rfl) (fx_wpE [] 50 ⟨_, _, hg1, _, _, hg2, _, _, hg3, fin⟩)
  subst e1
  subst e2
  exact ⟨hi', hl', hg, e3⟩
end NO
