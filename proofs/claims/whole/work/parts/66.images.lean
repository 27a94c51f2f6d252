/-! images made and gone back to -/
def IM (hi : fxI3) (c : Nat) (v : Nat → Nat) (f : Option Nat) (x : Nat) : Prop := hi 68 0 c = oI f ∧ hi 69 0 c = nI x ∧ ∀ i, i < 83 → hi 67 0 (83 * c + i) = nI (v i) ∧ v i < 2 ^ 30
section IG
variable {d : Nat} {σ : fxS} {hi : fxI3} {hl : fxL3} {v : Nat → Nat} {f : Option Nat} {x c : Nat} {k : Int32}
theorem m_image_no (hk : ¬ (0 ≤ k ∧ k ≤ 3)) : fx_Ga (d + 2) 249 [mO, vi k] (hp σ hi hl) (some (vi (-1))) (hp σ hi hl) := by
  refine fx_meth fx_M249 [some mO, some (vi k), none] (by decide) rfl rfl (Nat.le_of_ble_eq_true rfl) (fx_wpE [43] 60 ?_)
  exact ⟨_, _, m_inN k 0 3 rfl rfl, bd_nf (fun h => absurd h hk) (fun _ => ⟨rfl, rfl⟩)⟩
theorem x_image_no (hk : ¬ (0 ≤ k ∧ k ≤ 3)) : fx_Ga (d + 2) 139 [xO, vi k] (hp σ hi hl) (some (vi (-1))) (hp σ hi hl) := by
  refine fx_meth fx_M139 [some xO, some (vi k)] (by decide) rfl rfl (Nat.le_of_ble_eq_true rfl) (fx_wpE [17] 60 ?_)
  exact ⟨_, _, x_within k 0 3, bd_nf (fun h => absurd h hk) (fun _ => ⟨rfl, rfl⟩)⟩
theorem m_image (hv : PM hi v) (hf : hi 11 0 21 = oI f) (hx : hi 11 0 22 = nI x) (hk : 0 ≤ k ∧ k ≤ 3) (ek : k = nI c) (c4 : c < 4) : ∃ hi', fx_Ga (d + 2) 249 [mO, vi k] (hp σ hi hl) (some (vi (nI (v 10)))) (hp σ hi' hl) ∧ (∀ k j s, ¬ (67 ≤ k ∧ k ≤ 70) → hi' k j s = hi k j s) ∧ (∀ k s, 68 ≤ k ∧ k ≤ 70 → s ≠ c → hi' k 0 s = hi k 0 s) ∧ (∀ s, ¬ (83 * c ≤ s ∧ s < 83 * c + 83) → hi' 67 0 s = hi 67 0 s) ∧ hi' 70 0 c = 1 ∧ IM hi' c v f x := by
  subst ek
  have cc : (nI c).toNatClampNeg = c := nI_clamp (by omega)
  have bd := ni_in (n := c) (m := 4) c4 (by decide)
  let Post : Option fxV → fxH → Prop := fun r2 h2 => r2 = some (vi (nI (v 10))) ∧ ∃ hi', h2 = hp σ hi' hl ∧ (∀ k j s, ¬ (67 ≤ k ∧ k ≤ 70) → hi' k j s = hi k j s) ∧ (∀ k s, 68 ≤ k ∧ k ≤ 70 → s ≠ c → hi' k 0 s = hi k 0 s) ∧ (∀ s, ¬ (83 * c ≤ s ∧ s < 83 * c + 83) → hi' 67 0 s = hi 67 0 s) ∧ hi' 70 0 c = 1 ∧ IM hi' c v f x
  generalize hh : fx_up (fx_up (fx_up hi 70 0 c 1) 68 0 c (hi 11 0 21)) 69 0 c (hi 11 0 22) = hb
  have fb : ∀ k j s, ¬ (68 ≤ k ∧ k ≤ 70) → hb k j s = hi k j s := fun k j s h => by rw [← hh, up_off _ _ (by omega), up_off _ _ (by omega), up_off _ _ (by omega)]
  have hvb : PM hb v := fun i hi2 => ⟨(fb 59 0 i (by omega)).trans (hv i hi2).1, (hv i hi2).2⟩
  have loop : ∀ t i, i + t = 83 → fx_E (fx_Ga (d + 1)) fx_M249 (43, [some mO, some (vi (nI c)), some (vi (nI i))], [], hp σ (fx_all hb 67 0 (fun q => if 83 * c ≤ q ∧ q < 83 * c + i then nI (v (q - 83 * c)) else hi 67 0 q)) hl, 0, 0) Post := by
    intro t
    induction t with
    | zero =>
      intro i hi2
      have : i = 83 := by omega
      subst this
      refine fx_wpL [43] 30 (pk_le 83 83 (fun _ => ⟨ni_inx (n := 10) (m := 83) rfl (by decide) (by decide), ?_, _, rfl, fun k j s h => ?_, fun k s h hs => ?_, fun s h => ?_, ?_, ?_, ?_, fun i hi2 => ⟨?_, (hv i hi2).2⟩⟩) (fun hc => by omega))
      · exact congrArg (fun z => some (vi z)) (hvb 10 (by decide)).1
      · rw [fx_all_ne _ _ (by omega)]
        exact fb k j s (by omega)
      · rw [fx_all_ne _ _ (by omega), ← hh]
        rcases (show k = 68 ∨ k = 69 ∨ k = 70 by omega) with rfl | rfl | rfl
        · rw [up_off _ _ (by omega), up_off _ _ (by omega), up_off _ _ (by omega)]
        · rw [up_off _ _ (by omega), up_off _ _ (by omega), up_off _ _ (by omega)]
        · rw [up_off _ _ (by omega), up_off _ _ (by omega), up_off _ _ (by omega)]
      · rw [all_at, if_neg h]
      · rw [fx_all_ne _ _ (by omega), ← hh, up_off _ _ (by omega), up_off _ _ (by omega), up_at]
      · rw [fx_all_ne _ _ (by omega), ← hh, up_off _ _ (by omega), up_at]
        exact hf
      · rw [fx_all_ne _ _ (by omega), ← hh, up_at]
        exact hx
      · rw [all_at, if_pos (by omega), show 83 * c + i - 83 * c = i by omega]
    | succ t ih =>
      intro i hi2
      have ix : (83 * nI c + nI i : Int32) = nI (83 * c + i) := by
        show nI 83 * nI c + nI i = _
        rw [pk_mul, nI_add]
      have rd : hb 59 0 (nI i).toNatClampNeg = nI (v i) := hvb.at rfl (by omega)
      have eh : fx_up (fx_all hb 67 0 (fun q => if 83 * c ≤ q ∧ q < 83 * c + i then nI (v (q - 83 * c)) else hi 67 0 q)) 67 0 (83 * nI c + nI i : Int32).toNatClampNeg (hb 59 0 (nI i).toNatClampNeg) = fx_all hb 67 0 (fun q => if 83 * c ≤ q ∧ q < 83 * c + (i + 1) then nI (v (q - 83 * c)) else hi 67 0 q) := by
        rw [ni_cl ix (by omega), rd, up_all]
        congr 1
        funext q
        by_cases e : q = 83 * c + i
        · rw [if_pos e, if_pos (by omega), show q - 83 * c = i by omega]
        · rw [if_neg e]
          by_cases e2 : 83 * c ≤ q ∧ q < 83 * c + i
          · rw [if_pos e2, if_pos (by omega)]
          · rw [if_neg e2, if_neg (by omega)]
      have h2 := ih (i + 1) (by omega)
      rw [← eh, ← nI_1] at h2
      exact fx_wpL [43] 40 (pk_le 83 i (fun hc => by omega) (fun _ => ⟨ni_in (n := i) (m := 83) (by omega) (by decide), ni_inx (n := 83 * c + i) (m := 332) ix (by omega) (by decide), h2⟩))
  have h3 := loop 83 0 rfl
  rw [show (fun q => if 83 * c ≤ q ∧ q < 83 * c + 0 then nI (v (q - 83 * c)) else hi 67 0 q) = hb 67 0 by funext q; rw [if_neg (by omega), fb 67 0 q (by omega)], all_self, ← hh] at h3
  conv at h3 => rw [show fx_up hi 70 0 c 1 = fx_up hi 70 0 (nI c).toNatClampNeg (vp_nar .boolean 1) by rw [cc]; rfl, show ∀ g : fxI3, fx_up g 68 0 c = fx_up g 68 0 (nI c).toNatClampNeg from fun g => by rw [cc], show ∀ g : fxI3, fx_up g 69 0 c = fx_up g 69 0 (nI c).toNatClampNeg from fun g => by rw [cc]]
  have body : fx_E (fx_Ga (d + 1)) fx_M249 (0, [some mO, some (vi (nI c)), none], [], hp σ hi hl, 0, 0) Post := fx_wpE [43] 60 ⟨_, _, m_inN (nI c) 0 3 rfl rfl, bd_nf (fun _ => ⟨bd, bd, bd, h3⟩) (fun h => absurd hk h)⟩
  obtain ⟨r', h', hg', e1, hi', e2, e3⟩ := fx_methX (d := d + 1) (y := 249) (av := [mO, vi (nI c)]) (h := hp σ hi hl) (P := Post) fx_M249 [some mO, some (vi (nI c)), none] (by decide) rfl rfl (Nat.le_of_ble_eq_true rfl) body
  subst e1
  subst e2
  exact ⟨hi', hg', e3⟩
theorem m_back_no (h : ¬ (0 ≤ k ∧ k ≤ 3) ∨ ∃ c, c < 4 ∧ k = nI c ∧ hi 70 0 c = 0) : fx_Ga (d + 2) 250 [mO, vi k] (hp σ hi hl) (some (vi (-1))) (hp σ hi hl) := by
  refine fx_meth fx_M250 [some mO, some (vi k), none] (by decide) rfl rfl (Nat.le_of_ble_eq_true rfl) (fx_wpE [50] 60 ?_)
  refine ⟨_, _, m_inN k 0 3 rfl rfl, bd_if (fun _ => ⟨rfl, rfl⟩) (fun hk => ?_)⟩
  rcases h with h | ⟨c, c4, ek, h0⟩
  · exact absurd hk h
  · subst ek
    refine ⟨ni_in (n := c) (m := 4) c4 (by decide), fun z => absurd (show hi 70 0 (nI c).toNatClampNeg = 0 by rw [nI_clamp (by omega)]; exact h0) z, fun _ => ⟨rfl, rfl⟩⟩
theorem x_back_no (h : ¬ (0 ≤ k ∧ k ≤ 3) ∨ ∃ c, c < 4 ∧ k = nI c ∧ hi 34 0 c = 0) : fx_Ga (d + 2) 140 [xO, vi k] (hp σ hi hl) (some (vi (-1))) (hp σ hi hl) := by
  refine fx_meth fx_M140 [some xO, some (vi k)] (by decide) rfl rfl (Nat.le_of_ble_eq_true rfl) (fx_wpE [30] 60 ?_)
  refine ⟨_, _, x_within k 0 3, bd_if (fun _ => ⟨rfl, rfl⟩) (fun hk => ?_)⟩
  rcases h with h | ⟨c, c4, ek, h0⟩
  · exact absurd hk h
  · subst ek
    refine ⟨ni_in (n := c) (m := 4) c4 (by decide), fun z => absurd (show hi 34 0 (nI c).toNatClampNeg = 0 by rw [nI_clamp (by omega)]; exact h0) z, fun _ => ⟨rfl, rfl⟩⟩
theorem m_back (hI : IM hi c v f x) (hm : hi 70 0 c = 1) (hk : 0 ≤ k ∧ k ≤ 3) (ek : k = nI c) (c4 : c < 4) : ∃ hi', fx_Ga (d + 2) 250 [mO, vi k] (hp σ hi hl) (some (vi (nI (v 10)))) (hp σ hi' hl) ∧ (∀ k j s, k ≠ 59 → ¬ (k = 11 ∧ (s = 21 ∨ s = 22 ∨ s = 28)) → hi' k j s = hi k j s) ∧ PM hi' v ∧ hi' 11 0 21 = oI f ∧ hi' 11 0 22 = nI x ∧ hi' 11 0 28 = nI 0 := by
  subst ek
  have cc : (nI c).toNatClampNeg = c := nI_clamp (by omega)
  have bd := ni_in (n := c) (m := 4) c4 (by decide)
  obtain ⟨i1, i2, i3⟩ := hI
  let Post : Option fxV → fxH → Prop := fun r2 h2 => r2 = some (vi (nI (v 10))) ∧ ∃ hi', h2 = hp σ hi' hl ∧ (∀ k j s, k ≠ 59 → ¬ (k = 11 ∧ (s = 21 ∨ s = 22 ∨ s = 28)) → hi' k j s = hi k j s) ∧ PM hi' v ∧ hi' 11 0 21 = oI f ∧ hi' 11 0 22 = nI x ∧ hi' 11 0 28 = nI 0
  generalize hh : fx_up (fx_up (fx_up hi 11 0 21 (hi 68 0 c)) 11 0 22 (hi 69 0 c)) 11 0 28 0 = hb
  have fb : ∀ k j s, k ≠ 11 → hb k j s = hi k j s := fun k j s h => by rw [← hh, up_off _ _ (by omega), up_off _ _ (by omega), up_off _ _ (by omega)]
  have loop : ∀ t i, i + t = 83 → fx_E (fx_Ga (d + 1)) fx_M250 (50, [some mO, some (vi (nI c)), some (vi (nI i))], [], hp σ (fx_all hb 59 0 (fun q => if q < i then nI (v q) else hi 59 0 q)) hl, 0, 0) Post := by
    intro t
    induction t with
    | zero =>
      intro i hi2
      have : i = 83 := by omega
      subst this
      refine fx_wpL [50] 30 (pk_le 83 83 (fun _ => ⟨ni_inx (n := 10) (m := 83) rfl (by decide) (by decide), ?_, _, rfl, fun k j s h1 h2 => ?_, fun i hi2 => ⟨?_, (i3 i hi2).2⟩, ?_, ?_, ?_⟩) (fun hc => by omega))
      · exact congrArg (fun z => some (vi z)) (show fx_all hb 59 0 (fun q => if q < 83 then nI (v q) else hi 59 0 q) 59 0 10 = nI (v 10) by rw [all_at, if_pos (by decide)])
      · rw [fx_all_ne _ _ (by omega), ← hh, up_off _ _ (by omega), up_off _ _ (by omega), up_off _ _ (by omega)]
      · rw [all_at, if_pos hi2]
      · rw [fx_all_ne _ _ (by omega), ← hh, up_off _ _ (by omega), up_off _ _ (by omega), up_at]
        exact i1
      · rw [fx_all_ne _ _ (by omega), ← hh, up_off _ _ (by omega), up_at]
        exact i2
      · rw [fx_all_ne _ _ (by omega), ← hh, up_at]
        rfl
    | succ t ih =>
      intro i hi2
      have ix : (83 * nI c + nI i : Int32) = nI (83 * c + i) := by
        show nI 83 * nI c + nI i = _
        rw [pk_mul, nI_add]
      have rd : hb 67 0 (83 * nI c + nI i : Int32).toNatClampNeg = nI (v i) := by
        rw [ni_cl ix (by omega), fb 67 0 _ (by decide)]
        exact (i3 i (by omega)).1
      have eh : fx_up (fx_all hb 59 0 (fun q => if q < i then nI (v q) else hi 59 0 q)) 59 0 (nI i).toNatClampNeg (hb 67 0 (83 * nI c + nI i : Int32).toNatClampNeg) = fx_all hb 59 0 (fun q => if q < i + 1 then nI (v q) else hi 59 0 q) := by
        rw [nI_clamp (by omega), rd, up_all]
        congr 1
        funext q
        by_cases e : q = i
        · rw [if_pos e, if_pos (by omega), e]
        · rw [if_neg e]
          by_cases e2 : q < i
          · rw [if_pos e2, if_pos (by omega)]
          · rw [if_neg e2, if_neg (by omega)]
      have h2 := ih (i + 1) (by omega)
      rw [← eh, ← nI_1] at h2
      exact fx_wpL [50] 40 (pk_le 83 i (fun hc => by omega) (fun _ => ⟨ni_inx (n := 83 * c + i) (m := 332) ix (by omega) (by decide), ni_in (n := i) (m := 83) (by omega) (by decide), h2⟩))
  have h3 := loop 83 0 rfl
  rw [show (fun q => if q < 0 then nI (v q) else hi 59 0 q) = hb 59 0 by funext q; rw [if_neg (by omega), fb 59 0 q (by omega)], all_self, ← hh] at h3
  conv at h3 => rw [show hi 68 0 c = hi 68 0 (nI c).toNatClampNeg by rw [cc], show hi 69 0 c = hi 69 0 (nI c).toNatClampNeg by rw [cc]]
  have em : hi 70 0 (nI c).toNatClampNeg = 1 := by rw [cc]; exact hm
  have body : fx_E (fx_Ga (d + 1)) fx_M250 (0, [some mO, some (vi (nI c)), none], [], hp σ hi hl, 0, 0) Post := fx_wpE [50] 60 ⟨_, _, m_inN (nI c) 0 3 rfl rfl, bd_if (fun h => absurd hk h) (fun _ => ⟨bd, fun _ => ⟨bd, bd, h3⟩, fun z => absurd (fun y => absurd (em.symm.trans y) (by decide)) z⟩)⟩
  obtain ⟨r', h', hg', e1, hi', e2, e3⟩ := fx_methX (d := d + 1) (y := 250) (av := [mO, vi (nI c)]) (h := hp σ hi hl) (P := Post) fx_M250 [some mO, some (vi (nI c)), none] (by decide) rfl rfl (Nat.le_of_ble_eq_true rfl) body
  subst e1
  subst e2
  exact ⟨hi', hg', e3⟩
theorem x_image (hw : WD hi hl 0 v f x) (h4 : v 4 ≤ 6) (hno : NOK v) (hk : 0 ≤ k ∧ k ≤ 3) (ek : k = nI c) (c4 : c < 4) : ∃ hi' hl', fx_Ga (d + 3) 139 [xO, vi k] (hp σ hi hl) (some (vi (nI (v 10)))) (hp σ hi' hl') ∧ (∀ k j s, ¬ ((k = 1 ∨ 21 ≤ k ∧ k ≤ 24) ∧ (j = fx_wb (c + 1) ∨ j = fx_wn (c + 1))) → ¬ ((k = 3 ∨ 30 ≤ k ∧ k ≤ 32) ∧ j = c + 1) → ¬ (k = 9 ∧ j = c + 1) → ¬ (k = 34 ∧ s = c) → hi' k j s = hi k j s) ∧ (∀ k j s, ¬ (k = 1 ∧ (j = fx_wb (c + 1) ∨ j = fx_wn (c + 1))) → hl' k j s = hl k j s) ∧ WD hi' hl' (c + 1) v f x ∧ hi' 34 0 c = 1 := by
  subst ek
  have cc : (nI c).toNatClampNeg = c := nI_clamp (by omega)
  have bd := ni_in (n := c) (m := 4) c4 (by decide)
  have w5 : fx_wb (c + 1) ≠ 2 ∧ fx_wn (c + 1) ≠ 2 := by
    show 27 + 2 * (c + 1) ≠ 2 ∧ 28 + 2 * (c + 1) ≠ 2
    omega
  let Post : Option fxV → fxH → Prop := fun r2 h2 => r2 = some (vi (nI (v 10))) ∧ ∃ hi' hl', h2 = hp σ hi' hl' ∧ (∀ k j s, ¬ ((k = 1 ∨ 21 ≤ k ∧ k ≤ 24) ∧ (j = fx_wb (c + 1) ∨ j = fx_wn (c + 1))) → ¬ ((k = 3 ∨ 30 ≤ k ∧ k ≤ 32) ∧ j = c + 1) → ¬ (k = 9 ∧ j = c + 1) → ¬ (k = 34 ∧ s = c) → hi' k j s = hi k j s) ∧ (∀ k j s, ¬ (k = 1 ∧ (j = fx_wb (c + 1) ∨ j = fx_wn (c + 1))) → hl' k j s = hl k j s) ∧ WD hi' hl' (c + 1) v f x ∧ hi' 34 0 c = 1
  obtain ⟨hi1, hl1, hg1, f1, f2, hw1⟩ := x_wcopy (d := d) (σ := σ) (a := c + 1) (b := 0) (by omega) (by omega) hw h4 hno
  have rfe : (.inr (.inr (bif Nat.blt (nI c).toNatClampNeg 4 then some (9, (nI c).toNatClampNeg + 1) else none)) : fxV) = yO (c + 1) := by
    rw [cc, show Nat.blt c 4 = true from Nat.ble_eq_true_of_le c4]
    rfl
  have st : fx_E (fx_Ga (d + 2)) fx_M139 (17, [some xO, some (vi (nI c))], [yO (c + 1)], hp σ hi hl, 0, 0) Post := by
    have gb : ∀ k j s, ¬ (k = 34 ∧ s = c) → fx_up hi1 34 0 (nI c).toNatClampNeg (vp_nar .boolean 1) k j s = hi1 k j s := fun k j s h => up_off _ _ (by rw [cc]; omega)
    refine fx_wpE [] 40 ⟨_, _, hg1, bd, ?_, fx_up hi1 34 0 (nI c).toNatClampNeg (vp_nar .boolean 1), hl1, rfl, fun k j s h1 h2 h3 h5 => (gb k j s h5).trans (f1 k j s h1 h2 h3), f2, ?_, ?_⟩
    · exact congrArg (fun z => some (vi z)) ((f1 1 2 5 (by omega) (by omega) (by omega)).trans hw.1.2.2.2.2.2.1)
    · obtain ⟨w1, w2, w3, w4, w5⟩ := hw1
      exact ⟨w1.fr (fun s => gb 1 _ s (by omega)) (fun k s hk => gb k _ s (by omega)) rfl, w2.fr (fun s => gb 1 _ s (by omega)) (fun k s hk => gb k _ s (by omega)) rfl, ⟨(gb 3 _ 0 (by omega)).trans w3.1, fun i hi2 => ⟨(gb 30 _ i (by omega)).trans (w3.2 i hi2).1, (gb 31 _ i (by omega)).trans (w3.2 i hi2).2.1, (gb 32 _ i (by omega)).trans (w3.2 i hi2).2.2⟩⟩, (gb 9 _ 3 (by omega)).trans w4, (gb 9 _ 4 (by omega)).trans w5⟩
    · rw [cc, up_at]
      rfl
  rw [← rfe] at st
  have body : fx_E (fx_Ga (d + 2)) fx_M139 (0, [some xO, some (vi (nI c))], [], hp σ hi hl, 0, 0) Post := fx_wpE [17] 60 ⟨_, _, x_within (nI c) 0 3, bd_nf (fun _ => ⟨bd, st⟩) (fun h => absurd hk h)⟩
  obtain ⟨r', h', hg', e1, hi', hl', e2, e3⟩ := fx_methX (d := d + 2) (y := 139) (av := [xO, vi (nI c)]) (h := hp σ hi hl) (P := Post) fx_M139 [some xO, some (vi (nI c))] (by decide) rfl rfl (Nat.le_of_ble_eq_true rfl) body
  subst e1
  subst e2
  exact ⟨hi', hl', hg', e3⟩
theorem x_back (hw : WD hi hl (c + 1) v f x) (h4 : v 4 ≤ 6) (hno : NOK v) (hm : hi 34 0 c = 1) (hk : 0 ≤ k ∧ k ≤ 3) (ek : k = nI c) (c4 : c < 4) : ∃ hi' hl', fx_Ga (d + 3) 140 [xO, vi k] (hp σ hi hl) (some (vi (nI (v 10)))) (hp σ hi' hl') ∧ (∀ k j s, ¬ ((k = 1 ∨ 21 ≤ k ∧ k ≤ 24) ∧ (j = 1 ∨ j = 2)) → ¬ ((k = 3 ∨ 30 ≤ k ∧ k ≤ 32) ∧ j = 0) → ¬ (k = 9 ∧ j = 0) → ¬ (k = 0 ∧ s = 2) → hi' k j s = hi k j s) ∧ (∀ k j s, ¬ (k = 1 ∧ (j = 1 ∨ j = 2)) → hl' k j s = hl k j s) ∧ WD hi' hl' 0 v f x ∧ hi' 0 0 2 = nI 0 := by
  subst ek
  have cc : (nI c).toNatClampNeg = c := nI_clamp (by omega)
  have bd := ni_in (n := c) (m := 4) c4 (by decide)
  let Post : Option fxV → fxH → Prop := fun r2 h2 => r2 = some (vi (nI (v 10))) ∧ ∃ hi' hl', h2 = hp σ hi' hl' ∧ (∀ k j s, ¬ ((k = 1 ∨ 21 ≤ k ∧ k ≤ 24) ∧ (j = 1 ∨ j = 2)) → ¬ ((k = 3 ∨ 30 ≤ k ∧ k ≤ 32) ∧ j = 0) → ¬ (k = 9 ∧ j = 0) → ¬ (k = 0 ∧ s = 2) → hi' k j s = hi k j s) ∧ (∀ k j s, ¬ (k = 1 ∧ (j = 1 ∨ j = 2)) → hl' k j s = hl k j s) ∧ WD hi' hl' 0 v f x ∧ hi' 0 0 2 = nI 0
  obtain ⟨hi1, hl1, hg1, f1, f2, hw1⟩ := x_wcopy (d := d) (σ := σ) (a := 0) (b := c + 1) (by omega) (by omega) hw h4 hno
  have clear : fx_Ga (d + 2) 1 [kO] (hp σ hi1 hl1) none (hp σ (fx_up hi1 0 0 2 0) hl1) := fx_meth fx_M1 [some kO] (by decide) rfl rfl (Nat.le_of_ble_eq_true rfl) (fx_wpE [] 20 ⟨rfl, rfl⟩)
  have rfe : (.inr (.inr (bif Nat.blt (nI c).toNatClampNeg 4 then some (9, (nI c).toNatClampNeg + 1) else none)) : fxV) = yO (c + 1) := by
    rw [cc, show Nat.blt c 4 = true from Nat.ble_eq_true_of_le c4]
    rfl
  have st : fx_E (fx_Ga (d + 2)) fx_M140 (30, [some xO, some (vi (nI c))], [yO (c + 1), yO 0], hp σ hi hl, 0, 0) Post := by
    have gb : ∀ k j s, ¬ (k = 0 ∧ s = 2) → fx_up hi1 0 0 2 0 k j s = hi1 k j s := fun k j s h => up_off _ _ (by omega)
    refine fx_wpE [] 40 ⟨_, _, hg1, _, _, clear, ?_, fx_up hi1 0 0 2 0, hl1, rfl, fun k j s h1 h2 h3 h5 => (gb k j s h5).trans (f1 k j s h1 h2 h3), f2, ?_, up_at _ _ _ _ _⟩
    · exact congrArg (fun z => some (vi z)) hw1.1.2.2.2.2.2.1
    · obtain ⟨w1, w2, w3, w4, w5⟩ := hw1
      exact ⟨w1.fr (fun s => gb 1 _ s (by omega)) (fun k s hk => gb k _ s (by omega)) rfl, w2.fr (fun s => gb 1 _ s (by omega)) (fun k s hk => gb k _ s (by omega)) rfl, ⟨(gb 3 _ 0 (by omega)).trans w3.1, fun i hi2 => ⟨(gb 30 _ i (by omega)).trans (w3.2 i hi2).1, (gb 31 _ i (by omega)).trans (w3.2 i hi2).2.1, (gb 32 _ i (by omega)).trans (w3.2 i hi2).2.2⟩⟩, (gb 9 _ 3 (by omega)).trans w4, (gb 9 _ 4 (by omega)).trans w5⟩
  rw [← rfe] at st
  have em : hi 34 0 (nI c).toNatClampNeg = 1 := by rw [cc]; exact hm
  have body : fx_E (fx_Ga (d + 2)) fx_M140 (0, [some xO, some (vi (nI c))], [], hp σ hi hl, 0, 0) Post := fx_wpE [30] 60 ⟨_, _, x_within (nI c) 0 3, bd_if (fun h => absurd hk h) (fun _ => ⟨bd, fun _ => ⟨bd, st⟩, fun z => absurd (fun y => absurd (em.symm.trans y) (by decide)) z⟩)⟩
  obtain ⟨r', h', hg', e1, hi', hl', e2, e3⟩ := fx_methX (d := d + 2) (y := 140) (av := [xO, vi (nI c)]) (h := hp σ hi hl) (P := Post) fx_M140 [some xO, some (vi (nI c))] (by decide) rfl rfl (Nat.le_of_ble_eq_true rfl) body
  subst e1
  subst e2
  exact ⟨hi', hl', hg', e3⟩
end IG
