/-! questions: allIt, meet -/
section A3
variable {d : Nat} {σ : fxS} {hi : fxI3} {hl : fxL3} {v : Nat → Nat} {rl : Option fxRl} {f : Option Nat}
theorem m_haveAllBeen (hv : PM hi v) (hs : SV v) : fx_Ga (d + 2) 228 [mO] (hp σ hi hl) (some (vi (b01 (vAll v (v 4))))) (hp σ hi hl) := by
  refine fx_meth fx_M228 [some mO, none] (by decide) rfl rfl (Nat.le_of_ble_eq_true rfl) ?_
  obtain ⟨s4, s1, s2, s3, s11, s10, si⟩ := hs
  have e4 := (hv 4 (by decide)).1
  have mono : ∀ k i, vAll v i = false → vAll v (i + k) = false := by
    intro k
    induction k with
    | zero => exact fun i h => h
    | succ k ih =>
      intro i h
      show (vAll v (i + k) && _) = false
      rw [ih i h]
      rfl
  have loop : ∀ k i, i + k = v 4 → vAll v i = true → fx_E (fx_Ga (d + 1)) fx_M228 (2, [some mO, some (vi (nI i))], [], hp σ hi hl, 0, 0) (fun r2 h2 => r2 = some (vi (b01 (vAll v (v 4)))) ∧ h2 = hp σ hi hl) := by
    intro k
    induction k with
    | zero =>
      intro i hk ht
      refine fx_wpL [2] 30 ⟨ni_inx (n := 4) (m := 83) rfl (by decide) (by decide), pk_le (v 4) i (fun _ => ⟨Or.inr rfl, ?_, rfl⟩) (fun hc => by omega) e4⟩
      rw [← show i = v 4 by omega, ht]
      rfl
    | succ k ih =>
      intro i hk ht
      have i6 : i < 6 := by omega
      have bd := si i i6
      refine fx_wpL [2] 40 ⟨ni_inx (n := 4) (m := 83) rfl (by decide) (by decide), pk_le (v 4) i (fun hc => by omega) (fun _ => ?_) e4⟩
      refine ⟨_, _, m_wasOf hv i6, ?_⟩
      refine nn_eq (v (15 + 4 * i)) 0 (fun h0 => ⟨Or.inl rfl, ?_, rfl⟩) (fun h0 => ?_)
      · have h1 : vAll v (i + 1) = false := by
          show (vAll v i && decide (0 < v (15 + 4 * i))) = false
          rw [decide_eq_false (by omega), Bool.and_false]
        rw [show v 4 = i + 1 + k by omega, mono k (i + 1) h1]
        rfl
      · have h2 := ih (i + 1) (by omega) (by show (vAll v i && decide (0 < v (15 + 4 * i))) = true; rw [ht, decide_eq_true (by omega)]; rfl)
        rw [← nI_1] at h2
        exact h2
  exact fx_wpE [2] 9 (loop (v 4) 0 (by omega) rfl)
theorem m_allIt (hn : NM hi v rl) (hH : HV v) : QM (d + 7) 229 [mO] σ hi hl v (aAllIt rl v) := by
  obtain ⟨hv, hs, hf, hr⟩ := hn
  have h10 := hH.2
  have h4 := hs.1
  refine QM_of fx_M229 [some mO, none, none] (by decide) rfl rfl (Nat.le_of_ble_eq_true rfl) (fx_wpE [35] 40 ?_)
  refine ⟨_, _, m_isHunt hv, bd_nf (fun hc => ?_) (fun hc => QM.same hv (if_neg hc).symm)⟩
  refine ⟨_, _, m_haveAllBeen (d := d + 4) hv (hs.sv (by omega)), b01_if (fun hc2 => ?_) (fun hc2 => ?_)⟩
  · obtain ⟨g, hg1, hk⟩ := m_keeps (d := d + 5) (σ := σ) (hl := hl) hv
    have f1 : FrQ hi (fx_all hi 63 0 g) := FrQ.all hi g (fun s => by unfold scr; omega)
    refine ⟨_, _, hg1, ?_⟩
    generalize eA : aAllIt rl v = A
    have fin : ∀ k a l3 (hb : fxI3) (hlb : fxL3), FrP (fx_all hi 63 0 g) hb → FlP hl hlb → PM hb (vIt rl k v) → a = A → fx_E (fx_Ga (d + 6)) fx_M229 (74, [some mO, some (vi a), l3], [], hp σ hb hlb, 0, 0) (QMP σ hi hl v A) := by
      intro k a l3 hb hlb g1 g2 hvb ea
      obtain ⟨g3, hg3, hv3⟩ := m_laysBack (d := d + 5) (σ := σ) (hl := hlb) hvb (hk.fr g1) (it_same rl h4 k)
      exact fx_wpE [] 20 ⟨_, _, hg3, by rw [ea], _, _, rfl, f1.tr (g1.q.tr (FrQ.all hb g3 (fun s => by unfold scr; omega))), g2.q, hv3⟩
    have out : ∀ k a i (hb : fxI3) (hlb : fxL3), FrP (fx_all hi 63 0 g) hb → FlP hl hlb → PM hb (vIt rl k v) → a = A → 0 ≤ a → fx_E (fx_Ga (d + 6)) fx_M229 (35, [some mO, some (vi a), some (vi i)], [], hp σ hb hlb, 0, 0) (QMP σ hi hl v A) := fun k a i hb hlb g1 g2 hvb ea h0 => fx_wpL [35, 74] 20 ⟨fun _ => fin k a _ hb hlb g1 g2 hvb ea, fun _ => ⟨fun _ => fin k a _ hb hlb g1 g2 hvb ea, fun z => absurd h0 z⟩⟩
    have loop : ∀ m i (hb : fxI3) (hlb : fxL3), i + m = 200 → FrP (fx_all hi 63 0 g) hb → FlP hl hlb → PM hb (vIt rl i v) → A = fJ v (vFst (fun k => vAll (vIt rl (k + 1) v) (v 4)) m i) → fx_E (fx_Ga (d + 6)) fx_M229 (35, [some mO, some (vi (-2)), some (vi (nI i))], [], hp σ hb hlb, 0, 0) (QMP σ hi hl v A) := by
      intro m
      induction m with
      | zero =>
        intro i hb hlb hk g1 g2 hvb eA
        exact fx_wpL [35, 74] 20 (pk_le 200 i (fun _ => fin i _ _ hb hlb g1 g2 hvb eA.symm) (fun hc => by omega))
      | succ m ih =>
        intro i hb hlb hk g1 g2 hvb eA
        refine fx_wpL [35, 74] 40 (pk_le 200 i (fun hc => by omega) (fun _ => ?_))
        refine ⟨fun z => absurd z (by decide), fun _ => ?_⟩
        obtain ⟨hi2, hl2, hg2, p1, p2, hv2⟩ := m_passes (d := d) (σ := σ) (hl := hlb) hvb ((hs.it rl i).sv (by rw [vIt_10]; omega)) (FM_fr g1 (FM_q f1 hf)) (WM_fr g1 (WN_q f1 hr))
        have hv2 : PM hi2 (vIt rl (i + 1) v) := hv2
        refine ⟨_, _, hg2, ?_⟩
        have hab := m_haveAllBeen (d := d + 4) (σ := σ) (hl := hl2) hv2 ((hs.it rl (i + 1)).sv (by rw [vIt_10]; omega))
        rw [show vIt rl (i + 1) v 4 = v 4 from vIt_lo rl v (by decide) _] at hab
        refine ⟨_, _, hab, b01_if (fun hw => ?_) (fun hw => ?_)⟩
        · have h2 := ih (i + 1) hi2 hl2 (by omega) (g1.tr p1) (g2.tr p2) hv2 (by rw [eA, vFst, if_neg (by rw [hw]; decide)])
          rw [← nI_1] at h2
          exact h2
        · have e10 : hi2 59 0 10 - 1 = nI (v 10 + i) := by
            rw [(hv2 10 (by decide)).1, vIt_10]
            exact nI_pred _
          have eA2 : nI (v 10 + i) = A := by
            rw [eA, vFst, if_pos hw]
            rfl
          refine ⟨ni_inx (n := 10) (m := 83) rfl (by decide) (by decide), out (i + 1) (hi2 59 0 10 - 1) _ hi2 hl2 (g1.tr p1) (g2.tr p2) hv2 (e10.trans eA2) (by rw [e10]; exact nI_pos' (by omega))⟩
    exact loop 200 0 _ hl rfl (FrP.rf _) (FlP.rf _) hv (by rw [← eA]; unfold aAllIt; rw [if_pos hc, if_neg (by rw [hc2]; decide)])
  · refine ⟨ni_inx (n := 10) (m := 83) rfl (by decide) (by decide), QM.same hv ?_⟩
    show hi 59 0 10 - 1 = _
    unfold aAllIt
    rw [if_pos hc, if_pos hc2, (hv 10 (by decide)).1]
theorem x_allIt (hn : NX σ hi hl v f rl) (hH : HV v) : QX (d + 7) 118 [xO] σ hi hl (aAllIt rl v) := by
  obtain ⟨hv, hg, hs, n4, n5, n6, n7, n8, n9⟩ := id hn
  have h10 := hH.2
  have h4 := hs.1
  have hh := x_isHunted (d := d + 5) (σ := σ) hv hs.2.1
  rw [hH.h] at hh
  refine QX_of fx_M118 [some xO, none] (by decide) rfl rfl (Nat.le_of_ble_eq_true rfl) (fx_wpE [35] 40 ?_)
  refine ⟨_, _, hh, bd_nf (fun hc => ?_) (fun hc => QX.same (if_neg hc).symm)⟩
  obtain ⟨hi1, hl1, hg1, f1, f2, hv1⟩ := x_tryFromNow (d := d + 4) (σ := σ) hv h4
  refine ⟨_, _, hg1, ?_⟩
  refine ⟨_, _, x_allWereIt (d := d + 5) hv1 (hs.sv (by omega)), b01_if (fun hc2 => ?_) (fun hc2 => ?_)⟩
  · generalize eA : aAllIt rl v = A
    have loop : ∀ m i (hb : fxI3) (hlb : fxL3), i + m = 200 → FrY hi hb → FlY hl hlb → PX hb hlb 23 (vIt rl i v) → A = fJ v (vFst (fun k => vAll (vIt rl (k + 1) v) (v 4)) m i) → fx_E (fx_Ga (d + 6)) fx_M118 (35, [some xO, some (vi (nI i))], [], hp σ hb hlb, 0, 0) (QXP σ hi hl A) := by
      intro m
      induction m with
      | zero =>
        intro i hb hlb hk g1 g2 hvb eA
        exact fx_wpL [35] 20 (pk_le 200 i (fun _ => ⟨by rw [eA]; rfl, hb, hlb, rfl, g1, g2⟩) (fun hc => by omega))
      | succ m ih =>
        intro i hb hlb hk g1 g2 hvb eA
        refine fx_wpL [35] 40 (pk_le 200 i (fun hc => by omega) (fun _ => ?_))
        obtain ⟨hi2, hl2, hg2, p1, p2, hv2⟩ := x_tryStep (d := d) (hn.fr g1 g2) hvb (hs.it rl i) (hg.it h4 rl i) (by rw [vIt_10]; omega)
        have hv2 : PX hi2 hl2 23 (vIt rl (i + 1) v) := hv2
        refine ⟨_, _, hg2, ?_⟩
        have hab := x_allWereIt (d := d + 5) (σ := σ) hv2 ((hs.it rl (i + 1)).sv (by rw [vIt_10]; omega))
        rw [show vIt rl (i + 1) v 4 = v 4 from vIt_lo rl v (by decide) _] at hab
        refine ⟨_, _, hab, b01_if (fun hw => ?_) (fun hw => ?_)⟩
        · have h2 := ih (i + 1) hi2 hl2 (by omega) (g1.tr p1) (g2.tr p2) hv2 (by rw [eA, vFst, if_neg (by rw [hw]; decide)])
          rw [← nI_1] at h2
          exact h2
        · have e10 : hi2 1 23 5 - 1 = A := by
            rw [hv2.2.2.2.2.2.1, vIt_10, eA, vFst, if_pos hw]
            exact nI_pred _
          exact ⟨congrArg (fun z => some (vi z)) e10, hi2, hl2, rfl, g1.tr p1, g2.tr p2⟩
    exact loop 200 0 hi1 hl1 rfl f1 f2 hv1 (by rw [← eA]; unfold aAllIt; rw [if_pos hc, if_neg (by rw [hc2]; decide)])
  · refine ⟨?_, hi1, hl1, rfl, f1, f2⟩
    show some (vi (hi1 1 23 5 - 1)) = _
    unfold aAllIt
    rw [if_pos hc, if_pos hc2, hv1.2.2.2.2.2.1]
theorem m_meet (hn : NM hi v rl) (hH : HV v) (a b : Int32) : QM (d + 7) 230 [mO, vi a, vi b] σ hi hl v (aMeet rl v a b) := by
  obtain ⟨hv, hs, hf, hr⟩ := hn
  have h10 := hH.2
  have h4 := hs.1
  refine QM_of fx_M230 [some mO, some (vi a), some (vi b), none, none] (by decide) rfl rfl (Nat.le_of_ble_eq_true rfl) (fx_wpE [33] 40 ?_)
  refine ⟨_, _, m_isRider hv a, bd_if (fun hc => QM.same hv (if_neg (fun z => hc z.1)).symm) (fun hca => ?_)⟩
  refine ⟨_, _, m_isRider hv b, bd_if (fun hc => QM.same hv (if_neg (fun z => hc z.2.1)).symm) (fun hcb => ?_)⟩
  refine ⟨fun (hne : ¬ a = b) => ?_, fun (hne : ¬ ¬ a = b) => QM.same hv (if_neg (fun z => hne z.2.2)).symm⟩
  obtain ⟨p, p4, p6, ea, eca⟩ := isR_of hca h4
  obtain ⟨q, q4, q6, eb, ecb⟩ := isR_of hcb h4
  obtain ⟨g, hg1, hk⟩ := m_keeps (d := d + 5) (σ := σ) (hl := hl) hv
  have f1 : FrQ hi (fx_all hi 63 0 g) := FrQ.all hi g (fun s => by unfold scr; omega)
  refine ⟨_, _, hg1, ?_⟩
  generalize eA : aMeet rl v a b = A
  have fin : ∀ k x l3 (hb : fxI3) (hlb : fxL3), FrP (fx_all hi 63 0 g) hb → FlP hl hlb → PM hb (vIt rl k v) → x = A → fx_E (fx_Ga (d + 6)) fx_M230 (77, [some mO, some (vi a), some (vi b), some (vi x), l3], [], hp σ hb hlb, 0, 0) (QMP σ hi hl v A) := by
    intro k a l3 hb hlb g1 g2 hvb ea
    obtain ⟨g3, hg3, hv3⟩ := m_laysBack (d := d + 5) (σ := σ) (hl := hlb) hvb (hk.fr g1) (it_same rl h4 k)
    exact fx_wpE [] 20 ⟨_, _, hg3, by rw [ea], _, _, rfl, f1.tr (g1.q.tr (FrQ.all hb g3 (fun s => by unfold scr; omega))), g2.q, hv3⟩
  have out : ∀ k x i (hb : fxI3) (hlb : fxL3), FrP (fx_all hi 63 0 g) hb → FlP hl hlb → PM hb (vIt rl k v) → x = A → 0 ≤ x → fx_E (fx_Ga (d + 6)) fx_M230 (33, [some mO, some (vi a), some (vi b), some (vi x), some (vi i)], [], hp σ hb hlb, 0, 0) (QMP σ hi hl v A) := fun k a i hb hlb g1 g2 hvb ea h0 => fx_wpL [33, 77] 20 ⟨fun _ => fin k a _ hb hlb g1 g2 hvb ea, fun _ => ⟨fun _ => fin k a _ hb hlb g1 g2 hvb ea, fun z => absurd h0 z⟩⟩
  have loop : ∀ m i (hb : fxI3) (hlb : fxL3), i + m = 200 → FrP (fx_all hi 63 0 g) hb → FlP hl hlb → PM hb (vIt rl i v) → A = fJ v (vFst (fun k => decide (vIt rl k v (12 + 4 * p) = vIt rl k v (12 + 4 * q))) m i) → fx_E (fx_Ga (d + 6)) fx_M230 (33, [some mO, some (vi a), some (vi b), some (vi (-2)), some (vi (nI i))], [], hp σ hb hlb, 0, 0) (QMP σ hi hl v A) := by
    intro m
    induction m with
    | zero =>
      intro i hb hlb hk g1 g2 hvb eA
      exact fx_wpL [33, 77] 20 (pk_le 200 i (fun _ => fin i _ _ hb hlb g1 g2 hvb eA.symm) (fun hc => by omega))
    | succ m ih =>
      intro i hb hlb hk g1 g2 hvb eA
      have hsi := (hs.it rl i).sv (by rw [vIt_10]; omega)
      refine fx_wpL [33, 77] 60 (pk_le 200 i (fun hc => by omega) (fun _ => ?_))
      refine ⟨fun z => absurd z (by decide), fun _ => ?_⟩
      have r1 := m_runOf (d := d + 5) (σ := σ) (hl := hlb) hvb p6
      have r2 := m_runOf (d := d + 5) (σ := σ) (hl := hlb) hvb q6
      rw [← ea] at r1
      rw [← eb] at r2
      obtain ⟨hi2, hl2, hg2, p1, p2, hv2⟩ := m_passes (d := d) (σ := σ) (hl := hlb) hvb hsi (FM_fr g1 (FM_q f1 hf)) (WM_fr g1 (WN_q f1 hr))
      have hv2 : PM hi2 (vIt rl (i + 1) v) := hv2
      have b1 := (hsi.2.2.2.2.2.2 p p6).1
      have b2 := (hsi.2.2.2.2.2.2 q q6).1
      have b3 := hsi.2.2.2.2.1
      refine ⟨_, _, r1, _, _, r2, nn_eq (vIt rl i v (12 + 4 * p)) (vIt rl i v (12 + 4 * q)) (fun hw => ?_) (fun hw => ?_)⟩
      · refine ⟨ni_inx (n := 10) (m := 83) rfl (by decide) (by decide), _, _, hg2, ?_⟩
        have e10 : hb 59 0 10 = nI (v 10 + i) := by rw [(hvb 10 (by decide)).1, vIt_10]
        have eA2 : nI (v 10 + i) = A := by
          rw [eA, vFst, if_pos (decide_eq_true hw)]
          rfl
        exact out (i + 1) (hb 59 0 10) _ hi2 hl2 (g1.tr p1) (g2.tr p2) hv2 (e10.trans eA2) (by rw [e10]; exact nI_pos' (by omega))
      · refine ⟨_, _, hg2, ?_⟩
        have h2 := ih (i + 1) hi2 hl2 (by omega) (g1.tr p1) (g2.tr p2) hv2 (by rw [eA, vFst, if_neg (by rw [decide_eq_false hw]; decide)])
        rw [← nI_1] at h2
        exact h2
  exact loop 200 0 _ hl rfl (FrP.rf _) (FlP.rf _) hv (by rw [← eA]; unfold aMeet; rw [if_pos ⟨hca, hcb, hne⟩, eca, ecb])
theorem x_areTwo (hv : PX hi hl 2 v) (h4 : v 4 ≤ 6) (a b : Int32) : fx_Ga (d + 2) 120 [xO, vi a, vi b] (hp σ hi hl) (some (vi (b01 (decide (isR v a ∧ isR v b ∧ ¬ a = b))))) (hp σ hi hl) := by
  refine fx_meth fx_M120 [some xO, some (vi a), some (vi b)] (by decide) rfl rfl (Nat.le_of_ble_eq_true rfl) (fx_wpE [] 30 ?_)
  refine ⟨fun (h : a = b) => ⟨Or.inl rfl, by rw [decide_eq_false (fun z => z.2.2 h)]; rfl, rfl⟩, fun (h : ¬ a = b) => ?_⟩
  refine ⟨_, _, x_hasRider hv h4 a, bd_if (fun hc => ⟨Or.inl rfl, by rw [decide_eq_false (fun z => hc z.1)]; rfl, rfl⟩) (fun hc => ?_)⟩
  exact ⟨_, _, x_hasRider hv h4 b, bd_if (fun hc2 => ⟨Or.inl rfl, by rw [decide_eq_false (fun z => hc2 z.2.1)]; rfl, rfl⟩) (fun hc2 => ⟨Or.inr rfl, by rw [decide_eq_true ⟨hc, hc2, h⟩]; rfl, rfl⟩)⟩
theorem x_meet (hn : NX σ hi hl v f rl) (hH : HV v) (a b : Int32) : QX (d + 7) 119 [xO, vi a, vi b] σ hi hl (aMeet rl v a b) := by
  obtain ⟨hv, hg, hs, n4, n5, n6, n7, n8, n9⟩ := id hn
  have h10 := hH.2
  have h4 := hs.1
  refine QX_of fx_M119 [some xO, some (vi a), some (vi b), none] (by decide) rfl rfl (Nat.le_of_ble_eq_true rfl) (fx_wpE [17] 40 ?_)
  refine ⟨_, _, x_areTwo (d := d + 4) hv h4 a b, bd_nf (fun hc => ?_) (fun hc => QX.same (if_neg hc).symm)⟩
  obtain ⟨p, p4, p6, ea, eca⟩ := isR_of hc.1 h4
  obtain ⟨q, q4, q6, eb, ecb⟩ := isR_of hc.2.1 h4
  obtain ⟨hi1, hl1, hg1, f1, f2, hv1⟩ := x_tryFromNow (d := d + 4) (σ := σ) hv h4
  refine ⟨_, _, hg1, ?_⟩
  generalize eA : aMeet rl v a b = A
  have loop : ∀ m i (hb : fxI3) (hlb : fxL3), i + m = 200 → FrY hi hb → FlY hl hlb → PX hb hlb 23 (vIt rl i v) → A = fJ v (vFst (fun k => decide (vIt rl k v (12 + 4 * p) = vIt rl k v (12 + 4 * q))) m i) → fx_E (fx_Ga (d + 6)) fx_M119 (17, [some xO, some (vi a), some (vi b), some (vi (nI i))], [], hp σ hb hlb, 0, 0) (QXP σ hi hl A) := by
    intro m
    induction m with
    | zero =>
      intro i hb hlb hk g1 g2 hvb eA
      exact fx_wpL [17] 20 (pk_le 200 i (fun _ => ⟨by rw [eA]; rfl, hb, hlb, rfl, g1, g2⟩) (fun hc => by omega))
    | succ m ih =>
      intro i hb hlb hk g1 g2 hvb eA
      have hsi := (hs.it rl i).sv (by rw [vIt_10]; omega)
      have b1 := (hsi.2.2.2.2.2.2 p p6).1
      have b2 := (hsi.2.2.2.2.2.2 q q6).1
      have b3 := hsi.2.2.2.2.1
      have ar := hvb.2.2.2.2.2.2.2
      rw [vIt_lo rl v (by decide)] at ar
      refine fx_wpL [17] 40 (pk_le 200 i (fun hc => by omega) (fun _ => ?_))
      refine ⟨ni_inx (n := p) (m := 6) ea p6 (by decide), ni_inx (n := q) (m := 6) eb q6 (by decide), ?_⟩
      refine nn_eq (vIt rl i v (12 + 4 * p)) (vIt rl i v (12 + 4 * q)) (fun hw => ?_) (fun hw => ?_) (by show hb 21 23 a.toNatClampNeg = _; rw [eca]; exact (ar p p4).1) (by show hb 21 23 b.toNatClampNeg = _; rw [ecb]; exact (ar q q4).1)
      · have e10 : hb 1 23 5 = A := by
          rw [hvb.2.2.2.2.2.1, vIt_10, eA, vFst, if_pos (decide_eq_true hw)]
          rfl
        exact ⟨congrArg (fun z => some (vi z)) e10, hb, hlb, rfl, g1, g2⟩
      · obtain ⟨hi2, hl2, hg2, p1, p2, hv2⟩ := x_tryStep (d := d) (hn.fr g1 g2) hvb (hs.it rl i) (hg.it h4 rl i) (by rw [vIt_10]; omega)
        refine ⟨_, _, hg2, ?_⟩
        have h2 := ih (i + 1) hi2 hl2 (by omega) (g1.tr p1) (g2.tr p2) hv2 (by rw [eA, vFst, if_neg (by rw [decide_eq_false hw]; decide)])
        rw [← nI_1] at h2
        exact h2
  exact loop 200 0 hi1 hl1 rfl f1 f2 hv1 (by rw [← eA]; unfold aMeet; rw [if_pos hc, eca, ecb])
end A3
