/-! questions: close, pence -/
section A6
variable {d : Nat} {σ : fxS} {hi : fxI3} {hl : fxL3} {v : Nat → Nat} {rl : Option fxRl} {f : Option Nat}
theorem x_close (hn : NX σ hi hl v f rl) (hH : HV v) (n w : Int32) : QX (d + 7) 121 [xO, vi n, vi w] σ hi hl (aClose rl v n w) := by
  obtain ⟨hv, hg, hs, n4, n5, n6, n7, n8, n9⟩ := id hn
  have h10 := hH.2
  have h4 := hs.1
  have hh := x_isHunted (d := d + 5) (σ := σ) hv hs.2.1
  rw [hH.h] at hh
  refine QX_of fx_M121 [some xO, some (vi n), some (vi w), none, none, none, none, none] (by decide) rfl rfl (Nat.le_of_ble_eq_true rfl) (fx_wpE [47] 40 ?_)
  refine ⟨_, _, hh, bd_if (fun hc => QX.same (if_neg (fun z => hc z.1)).symm) (fun hc => ?_)⟩
  refine ⟨_, _, x_within n 1 100, bd_if (fun hc2 => QX.same (if_neg (fun z => hc2 z.2.1)).symm) (fun hc2 => ?_)⟩
  refine ⟨_, _, x_within w 0 2, bd_nf (fun hc3 => ?_) (fun hc3 => QX.same (if_neg (fun z => hc3 z.2.2)).symm)⟩
  obtain ⟨k, k1, k3, en, ek⟩ := rg_of (a := 1) (b := 100) hc2 (by decide) (by decide)
  obtain ⟨hi1, hl1, hg1, f1, f2, hv1⟩ := x_tryFromNow (d := d + 4) (σ := σ) hv h4
  refine ⟨_, _, hg1, ?_⟩
  generalize eA : aClose rl v n w = A
  have eA : A = if w = 0 then nI (vCl rl v (k + 1)).1 else if w = 1 then (vCl rl v (k + 1)).2.1 else (vCl rl v (k + 1)).2.2 := by
    rw [← eA]
    unfold aClose
    rw [if_pos ⟨hc, hc2, hc3⟩, ek]
  have loop : ∀ m i (hb : fxI3) (hlb : fxL3) (a3 a4 a5 : Int32) l7, i + m = k + 1 → FrY hi hb → FlY hl hlb → PX hb hlb 23 (vIt rl i v) → a3 = nI (vCl rl v i).1 → a4 = (vCl rl v i).2.1 → a5 = (vCl rl v i).2.2 → fx_E (fx_Ga (d + 6)) fx_M121 (47, [some xO, some (vi n), some (vi w), some (vi a3), some (vi a4), some (vi a5), some (vi (nI i)), l7], [], hp σ hb hlb, 0, 0) (QXP σ hi hl A) := by
    intro m
    induction m with
    | zero =>
      intro i hb hlb a3 a4 a5 l7 hk g1 g2 hvb e3 e4 e5
      have : i = k + 1 := by omega
      subst this
      refine fx_wpL [47] 20 (pk_lt k (k + 1) (fun _ => ?_) (fun hc => by omega) en)
      refine ⟨fun (z : ¬ w = 0) => ⟨fun (z1 : ¬ w = 1) => ⟨?_, hb, hlb, rfl, g1, g2⟩, fun (z1 : ¬ ¬ w = 1) => ⟨?_, hb, hlb, rfl, g1, g2⟩⟩, fun (z : ¬ ¬ w = 0) => ⟨?_, hb, hlb, rfl, g1, g2⟩⟩
      · rw [eA, if_neg z, if_neg z1, e5]
      · rw [eA, if_neg z, if_pos (Classical.not_not.mp z1), e4]
      · rw [eA, if_pos (Classical.not_not.mp z), e3]
    | succ m ih =>
      intro i hb hlb a3 a4 a5 l7 hk g1 g2 hvb e3 e4 e5
      have hsb := hs.it rl i
      have hsv := hsb.sv (by rw [vIt_10]; omega)
      have e4' : vIt rl i v 4 = v 4 := vIt_lo rl v (by decide) i
      have hnr := x_nearestRider (d := d + 5) (σ := σ) hvb hsv
      have hhr := fun r => x_hasRider (d := d + 5) (σ := σ) hvb hsv.1 r
      rw [e4'] at hnr hhr
      obtain ⟨hi2, hl2, hg2, p1, p2, hv2⟩ := x_tryStep (d := d) (hn.fr g1 g2) hvb hsb (hg.it h4 rl i) (by rw [vIt_10]; omega)
      have hle := vCl_le rl v i
      refine fx_wpL [47] 60 (pk_lt k i (fun hc => by omega) (fun _ => ?_) en)
      refine ⟨_, _, hnr, _, _, hhr _, ?_⟩
      cases hN : vNear (vIt rl i v) (v 4) with
      | none =>
        have ecl : vCl rl v (i + 1) = vCl rl v i := by rw [vCl, hN]; rfl
        refine bd_if (fun _ => ?_) (fun hc => absurd hc.1 (by decide))
        refine ⟨_, _, hg2, ?_⟩
        have h2 := ih (i + 1) hi2 hl2 a3 a4 a5 (some (vi (oI none))) (by omega) (g1.tr p1) (g2.tr p2) hv2 (by rw [ecl]; exact e3) (by rw [ecl]; exact e4) (by rw [ecl]; exact e5)
        rw [← nI_1] at h2
        exact h2
      | some l =>
        have l4 := (vNear_lt _ _ l hN).1
        have hrun := (hsb.2.2.2.2.2 l (by omega)).1
        have hb20 := hsv.2.2.2.2.1
        have hgap := x_gapOf (d := d + 4) (σ := σ) hvb hsv.1 (i := l) (by rw [e4']; exact l4) hrun
        refine bd_if (fun hc => absurd ⟨nI_pos' (by omega), nI_lt l4 (by omega)⟩ hc) (fun _ => ?_)
        refine ⟨_, _, hgap, ?_⟩
        refine pk_le (vCl rl v i).1 (vIt rl i v 11 - vIt rl i v (12 + 4 * l)) (fun hge => ?_) (fun hlt => ?_) e3
        · have ecl : vCl rl v (i + 1) = vCl rl v i := by rw [vCl, hN]; exact if_neg (by omega)
          refine ⟨_, _, hg2, ?_⟩
          have h2 := ih (i + 1) hi2 hl2 a3 a4 a5 (some (vi (oI (some l)))) (by omega) (g1.tr p1) (g2.tr p2) hv2 (by rw [ecl]; exact e3) (by rw [ecl]; exact e4) (by rw [ecl]; exact e5)
          rw [← nI_1] at h2
          exact h2
        · have ecl : vCl rl v (i + 1) = (vIt rl i v 11 - vIt rl i v (12 + 4 * l), nI l, nI (vIt rl i v 10)) := by rw [vCl, hN]; exact if_pos hlt
          refine ⟨_, _, hgap, _, _, hg2, ?_⟩
          have h2 := ih (i + 1) hi2 hl2 (nI (vIt rl i v 11 - vIt rl i v (12 + 4 * l))) (nI l) (hb 1 23 5) (some (vi (oI (some l)))) (by omega) (g1.tr p1) (g2.tr p2) hv2 (by rw [ecl]) (by rw [ecl]) (by rw [ecl]; exact hvb.2.2.2.2.2.1)
          rw [← nI_1] at h2
          exact h2
  exact loop (k + 1) 0 hi1 hl1 _ _ _ _ (by omega) f1 f2 hv1 rfl rfl rfl
theorem m_close (hn : NM hi v rl) (hH : HV v) (n w : Int32) : QM (d + 7) 237 [mO, vi n, vi w] σ hi hl v (aClose rl v n w) := by
  obtain ⟨hv, hs, hf, hr⟩ := hn
  have h10 := hH.2
  have h4 := hs.1
  refine QM_of fx_M237 [some mO, some (vi n), some (vi w), none, none, none, none, none, none] (by decide) rfl rfl (Nat.le_of_ble_eq_true rfl) (fx_wpE [51] 40 ?_)
  refine ⟨_, _, m_isHunt hv, bd_if (fun hc => QM.same hv (if_neg (fun z => hc z.1)).symm) (fun hc => ?_)⟩
  refine ⟨_, _, m_inN n 1 100 rfl rfl, bd_if (fun hc2 => QM.same hv (if_neg (fun z => hc2 z.2.1)).symm) (fun hc2 => ?_)⟩
  refine ⟨_, _, m_inN w 0 2 rfl rfl, bd_nf (fun hc3 => ?_) (fun hc3 => QM.same hv (if_neg (fun z => hc3 z.2.2)).symm)⟩
  obtain ⟨k, k1, k3, en, ek⟩ := rg_of (a := 1) (b := 100) hc2 (by decide) (by decide)
  obtain ⟨g, hg1, hk⟩ := m_keeps (d := d + 5) (σ := σ) (hl := hl) hv
  have f1 : FrQ hi (fx_all hi 63 0 g) := FrQ.all hi g (fun s => by unfold scr; omega)
  refine ⟨_, _, hg1, ?_⟩
  generalize eA : aClose rl v n w = A
  have eA : A = if w = 0 then nI (vCl rl v (k + 1)).1 else if w = 1 then (vCl rl v (k + 1)).2.1 else (vCl rl v (k + 1)).2.2 := by
    rw [← eA]
    unfold aClose
    rw [if_pos ⟨hc, hc2, hc3⟩, ek]
  have loop : ∀ m i (hb : fxI3) (hlb : fxL3) (a3 a4 a5 : Int32) l7 l8, i + m = k + 1 → FrP (fx_all hi 63 0 g) hb → FlP hl hlb → PM hb (vIt rl i v) → a3 = nI (vCl rl v i).1 → a4 = (vCl rl v i).2.1 → a5 = (vCl rl v i).2.2 → fx_E (fx_Ga (d + 6)) fx_M237 (51, [some mO, some (vi n), some (vi w), some (vi a3), some (vi a4), some (vi a5), some (vi (nI i)), l7, l8], [], hp σ hb hlb, 0, 0) (QMP σ hi hl v A) := by
    intro m
    induction m with
    | zero =>
      intro i hb hlb a3 a4 a5 l7 l8 hki g1 g2 hvb e3 e4 e5
      have : i = k + 1 := by omega
      subst this
      obtain ⟨g3, hg3, hv3⟩ := m_laysBack (d := d + 5) (σ := σ) (hl := hlb) hvb (hk.fr g1) (it_same rl h4 (k + 1))
      have F1 := f1.tr (g1.q.tr (FrQ.all (k := 59) (j := 0) hb g3 (fun s => Or.inl rfl)))
      refine fx_wpL [51] 30 (pk_lt k (k + 1) (fun _ => ?_) (fun hc => by omega) en)
      refine ⟨_, _, hg3, ?_⟩
      refine ⟨fun (z : ¬ w = 0) => ⟨fun (z1 : ¬ w = 1) => ⟨?_, _, hlb, rfl, F1, g2.q, hv3⟩, fun (z1 : ¬ ¬ w = 1) => ⟨?_, _, hlb, rfl, F1, g2.q, hv3⟩⟩, fun (z : ¬ ¬ w = 0) => ⟨?_, _, hlb, rfl, F1, g2.q, hv3⟩⟩
      · rw [eA, if_neg z, if_neg z1, e5]
      · rw [eA, if_neg z, if_pos (Classical.not_not.mp z1), e4]
      · rw [eA, if_pos (Classical.not_not.mp z), e3]
    | succ m ih =>
      intro i hb hlb a3 a4 a5 l7 l8 hki g1 g2 hvb e3 e4 e5
      have hsb := hs.it rl i
      have hsv := hsb.sv (by rw [vIt_10]; omega)
      have e4' : vIt rl i v 4 = v 4 := vIt_lo rl v (by decide) i
      have hle := vCl_le rl v i
      obtain ⟨hi2, hl2, hg2, p1, p2, hv2⟩ := m_passes (d := d) (σ := σ) (hl := hlb) hvb hsv (FM_fr g1 (FM_q f1 hf)) (WM_fr g1 (WN_q f1 hr))
      have e40 : hb 59 0 4 = nI (v 4) := by rw [(hvb 4 (by decide)).1, e4']
      have ecl : vCl rl v (i + 1) = vSc (vIt rl i v) (vCl rl v i) (v 4) := by rw [vCl, vSc_eq hsb _ (v 4) h4]
      have inner : ∀ p r (a3 a4 a5 : Int32) l8, r + p = v 4 → a3 = nI (vSc (vIt rl i v) (vCl rl v i) r).1 → a4 = (vSc (vIt rl i v) (vCl rl v i) r).2.1 → a5 = (vSc (vIt rl i v) (vCl rl v i) r).2.2 → fx_E (fx_Ga (d + 6)) fx_M237 (60, [some mO, some (vi n), some (vi w), some (vi a3), some (vi a4), some (vi a5), some (vi (nI i)), some (vi (nI r)), l8], [], hp σ hb hlb, 0, 0) (QMP σ hi hl v A) := by
        intro p
        induction p with
        | zero =>
          intro r a3 a4 a5 l8 hp e3 e4 e5
          have : r = v 4 := by omega
          subst this
          refine fx_wpL [51, 60] 40 ⟨ni_inx (n := 4) (m := 83) rfl (by decide) (by decide), pk_le (v 4) (v 4) (fun _ => ?_) (fun hc => by omega) e40⟩
          refine ⟨_, _, hg2, ?_⟩
          rw [← ecl] at e3 e4 e5
          have h2 := ih (i + 1) hi2 hl2 a3 a4 a5 (some (vi (nI (v 4)))) l8 (by omega) (g1.tr p1) (g2.tr p2) hv2 e3 e4 e5
          rw [← nI_1] at h2
          exact h2
        | succ p ihp =>
          intro r a3 a4 a5 l8 hp e3 e4 e5
          have r6 : r < 6 := by omega
          have hle2 := vSc_le (vIt rl i v) (vCl rl v i) hle r
          have hrun := (hsb.2.2.2.2.2 r r6).1
          have hb20 := hsv.2.2.2.2.1
          have egap : hb 59 0 11 - nI (vIt rl i v (12 + 4 * r)) = nI (vIt rl i v 11 - vIt rl i v (12 + 4 * r)) := by rw [(hvb 11 (by decide)).1]; exact pk_sub hrun
          refine fx_wpL [51, 60] 60 ⟨ni_inx (n := 4) (m := 83) rfl (by decide) (by decide), pk_le (v 4) r (fun hc => by omega) (fun _ => ?_) e40⟩
          refine ⟨ni_inx (n := 11) (m := 83) rfl (by decide) (by decide), _, _, m_runOf hvb r6, _, _, m_isOut hvb r6, b01_nf (fun ho => ?_) (fun ho => ?_)⟩
          · have es : vSc (vIt rl i v) (vCl rl v i) (r + 1) = vSc (vIt rl i v) (vCl rl v i) r := by rw [vSc, if_neg (by rw [ho]; simp)]
            have h2 := ihp (r + 1) a3 a4 a5 (some (vi (hb 59 0 11 - nI (vIt rl i v (12 + 4 * r))))) (by omega) (by rw [es]; exact e3) (by rw [es]; exact e4) (by rw [es]; exact e5)
            rw [← nI_1] at h2
            exact h2
          · refine pk_lt (vIt rl i v 11 - vIt rl i v (12 + 4 * r)) (vSc (vIt rl i v) (vCl rl v i) r).1 (fun hlt => ?_) (fun hge => ?_) egap e3
            · have es : vSc (vIt rl i v) (vCl rl v i) (r + 1) = (vIt rl i v 11 - vIt rl i v (12 + 4 * r), nI r, nI (vIt rl i v 10)) := by rw [vSc, if_pos ⟨ho, hlt⟩]
              refine ⟨ni_inx (n := 10) (m := 83) rfl (by decide) (by decide), ?_⟩
              have h2 := ihp (r + 1) (hb 59 0 11 - nI (vIt rl i v (12 + 4 * r))) (nI r) (hb 59 0 10) (some (vi (hb 59 0 11 - nI (vIt rl i v (12 + 4 * r))))) (by omega) (by rw [es]; exact egap) (by rw [es]) (by rw [es]; exact (hvb 10 (by decide)).1)
              rw [← nI_1] at h2
              exact h2
            · have es : vSc (vIt rl i v) (vCl rl v i) (r + 1) = vSc (vIt rl i v) (vCl rl v i) r := by rw [vSc, if_neg (by omega)]
              have h2 := ihp (r + 1) a3 a4 a5 (some (vi (hb 59 0 11 - nI (vIt rl i v (12 + 4 * r))))) (by omega) (by rw [es]; exact e3) (by rw [es]; exact e4) (by rw [es]; exact e5)
              rw [← nI_1] at h2
              exact h2
      refine fx_wpL [51, 60] 20 (pk_lt k i (fun hc => by omega) (fun _ => ?_) en)
      exact inner (v 4) 0 a3 a4 a5 l8 (by omega) e3 e4 e5
  exact loop (k + 1) 0 _ hl _ _ _ _ _ (by omega) (FrP.rf _) (FlP.rf _) hv rfl rfl rfl
end A6
def rem32 (x y : Int32) : Int32 := x - x / y * y
def vPn (m r : Int32) (v : Nat → Nat) : Nat → Int32 × Int32
  | 0 => (m, 0)
  | i + 1 => ((vPn m r v i).1 - m * nI (v (15 + 4 * i)) / nI (vWas v (v 4)), if rem32 (m * nI (v (15 + 4 * r.toNatClampNeg))) (nI (vWas v (v 4))) < rem32 (m * nI (v (15 + 4 * i))) (nI (vWas v (v 4))) ∨ rem32 (m * nI (v (15 + 4 * i))) (nI (vWas v (v 4))) = rem32 (m * nI (v (15 + 4 * r.toNatClampNeg))) (nI (vWas v (v 4))) ∧ nI i < r then (vPn m r v i).2 + 1 else (vPn m r v i).2)
def aPence (v : Nat → Nat) (m r : Int32) : Int32 := if isR v r ∧ (0 ≤ m ∧ m ≤ 9999) then (if vWas v (v 4) = 0 then 0 else m * nI (v (15 + 4 * r.toNatClampNeg)) / nI (vWas v (v 4)) + (if (vPn m r v (v 4)).2 < (vPn m r v (v 4)).1 then 1 else 0)) else -1
theorem vWas_le {v : Nat → Nat} (hs : SB v) : ∀ n, n ≤ 6 → vWas v n ≤ n * v 10
  | 0, _ => Nat.zero_le _
  | n + 1, h => by
    have := vWas_le hs n (by omega)
    have h2 := (hs.2.2.2.2.2 n (by omega)).2.2.2
    unfold vWas
    have h3 : (n + 1) * v 10 = n * v 10 + v 10 := Nat.succ_mul n (v 10)
    omega
section A7
variable {d : Nat} {σ : fxS} {hi : fxI3} {hl : fxL3} {v : Nat → Nat} {rl : Option fxRl} {f : Option Nat}
theorem m_pence (hv : PM hi v) (hs : SB v) (hH : HV v) (m r : Int32) : QM (d + 3) 233 [mO, vi m, vi r] σ hi hl v (aPence v m r) := by
  have h4 := hs.1
  have h10 := hH.2
  have hwl := vWas_le hs (v 4) h4
  have hwb : vWas v (v 4) < 2 ^ 30 := by
    have : v 4 * v 10 ≤ 6 * 999 := Nat.mul_le_mul h4 h10
    omega
  refine QM_of fx_M233 [some mO, some (vi m), some (vi r), none, none, none, none, none, none] (by decide) rfl rfl (Nat.le_of_ble_eq_true rfl) (fx_wpE [51] 60 ?_)
  refine ⟨_, _, m_isRider hv r, bd_if (fun hc => QM.same hv (if_neg (fun z => hc z.1)).symm) (fun hc => ?_)⟩
  refine ⟨_, _, m_inN m 0 9999 rfl rfl, bd_nf (fun hc2 => ?_) (fun hc2 => QM.same hv (if_neg (fun z => hc2 z.2)).symm)⟩
  refine ⟨_, _, m_wasAll (d := d) hv h4, nn_eq (vWas v (v 4)) 0 (fun h0 => QM.same hv ?_) (fun h0 => ?_)⟩
  · unfold aPence
    rw [if_pos ⟨hc, hc2⟩, if_pos h0]
    rfl
  · obtain ⟨q, q4, q6, er, ec⟩ := isR_of hc h4
    have hw := m_wasOf (d := d + 1) (σ := σ) (hl := hl) hv q6
    rw [← er] at hw
    refine ⟨_, _, hw, ?_⟩
    have ha0 : ¬ nI (vWas v (v 4)) = 0 := nI_ne0 (by omega) (by omega)
    have eA : aPence v m r = m * nI (v (15 + 4 * q)) / nI (vWas v (v 4)) + (if (vPn m r v (v 4)).2 < (vPn m r v (v 4)).1 then 1 else 0) := by
      unfold aPence
      rw [if_pos ⟨hc, hc2⟩, if_neg h0, ec]
    have loop : ∀ k i l8, i + k = v 4 → fx_E (fx_Ga (d + 2)) fx_M233 (51, [some mO, some (vi m), some (vi r), some (vi (nI (vWas v (v 4)))), some (vi (m * nI (v (15 + 4 * q)))), some (vi (vPn m r v i).1), some (vi (vPn m r v i).2), some (vi (nI i)), l8], [], hp σ hi hl, 0, 0) (QMP σ hi hl v (aPence v m r)) := by
      intro k
      induction k with
      | zero =>
        intro i l8 hk
        have : i = v 4 := by omega
        subst this
        refine fx_wpL [51] 40 ⟨ni_inx (n := 4) (m := 83) rfl (by decide) (by decide), pk_le (v 4) (v 4) (fun _ => ?_) (fun hc => by omega) (hv 4 (by decide)).1⟩
        refine ⟨ha0, fun (z : (vPn m r v (v 4)).1 ≤ (vPn m r v (v 4)).2) => QM.same hv ?_, fun (z : ¬ (vPn m r v (v 4)).1 ≤ (vPn m r v (v 4)).2) => QM.same hv ?_⟩
        · rw [eA, if_neg (Int32.not_lt.mpr z)]
          rfl
        · rw [eA, if_pos (Int32.not_le.mp z)]
          rfl
      | succ k ih =>
        intro i l8 hk
        have i6 : i < 6 := by omega
        refine fx_wpL [51] 60 ⟨ni_inx (n := 4) (m := 83) rfl (by decide) (by decide), pk_le (v 4) i (fun hc => by omega) (fun _ => ?_) (hv 4 (by decide)).1⟩
        refine ⟨_, _, m_wasOf hv i6, ha0, ha0, ha0, ?_⟩
        have h2 := ih (i + 1) (some (vi (m * nI (v (15 + 4 * i))))) (by omega)
        have e1 : (vPn m r v (i + 1)).1 = (vPn m r v i).1 - m * nI (v (15 + 4 * i)) / nI (vWas v (v 4)) := rfl
        have e2 : (vPn m r v (i + 1)).2 = if rem32 (m * nI (v (15 + 4 * q))) (nI (vWas v (v 4))) < rem32 (m * nI (v (15 + 4 * i))) (nI (vWas v (v 4))) ∨ rem32 (m * nI (v (15 + 4 * i))) (nI (vWas v (v 4))) = rem32 (m * nI (v (15 + 4 * q))) (nI (vWas v (v 4))) ∧ nI i < r then (vPn m r v i).2 + 1 else (vPn m r v i).2 := by rw [← ec]; rfl
        rw [e1, e2, ← nI_1] at h2
        refine ⟨fun (z : rem32 (m * nI (v (15 + 4 * q))) (nI (vWas v (v 4))) < rem32 (m * nI (v (15 + 4 * i))) (nI (vWas v (v 4)))) => ?_, fun (z : ¬ rem32 (m * nI (v (15 + 4 * q))) (nI (vWas v (v 4))) < rem32 (m * nI (v (15 + 4 * i))) (nI (vWas v (v 4)))) => ⟨ha0, ha0, ?_⟩⟩
        · rw [if_pos (Or.inl z)] at h2
          exact h2
        · refine ⟨fun (z1 : ¬ rem32 (m * nI (v (15 + 4 * i))) (nI (vWas v (v 4))) = rem32 (m * nI (v (15 + 4 * q))) (nI (vWas v (v 4)))) => ?_, fun (z1 : ¬ ¬ rem32 (m * nI (v (15 + 4 * i))) (nI (vWas v (v 4))) = rem32 (m * nI (v (15 + 4 * q))) (nI (vWas v (v 4)))) => ⟨fun (z2 : r ≤ nI i) => ?_, fun (z2 : ¬ r ≤ nI i) => ?_⟩⟩
          · rw [if_neg (fun q => q.elim z (fun q => z1 q.1)), show (vPn m r v i).2 = (vPn m r v i).2 + 0 by simp] at h2
            exact h2
          · rw [if_neg (fun q => q.elim z (fun q => Int32.not_lt.mpr z2 q.2)), show (vPn m r v i).2 = (vPn m r v i).2 + 0 by simp] at h2
            exact h2
          · rw [if_pos (Or.inr ⟨Classical.not_not.mp z1, Int32.not_le.mp z2⟩)] at h2
            exact h2
    exact loop (v 4) 0 none (by omega)
theorem x_pence (hv : PX hi hl 2 v) (hs : SB v) (hH : HV v) (m r : Int32) : QX (d + 2) 123 [xO, vi m, vi r] σ hi hl (aPence v m r) := by
  have h4 := hs.1
  have h10 := hH.2
  have hwl := vWas_le hs (v 4) h4
  have hwb : vWas v (v 4) < 2 ^ 30 := by
    have : v 4 * v 10 ≤ 6 * 999 := Nat.mul_le_mul h4 h10
    omega
  refine QX_of fx_M123 [some xO, some (vi m), some (vi r), none, none, none, none, none, none, none] (by decide) rfl rfl (Nat.le_of_ble_eq_true rfl) (fx_wpE [64] 60 ?_)
  refine ⟨_, _, x_hasRider hv h4 r, bd_if (fun hc => QX.same (if_neg (fun z => hc z.1)).symm) (fun hc => ?_)⟩
  refine ⟨_, _, x_within m 0 9999, bd_nf (fun hc2 => ?_) (fun hc2 => QX.same (if_neg (fun z => hc2 z.2)).symm)⟩
  refine ⟨_, _, x_allTimesIt (d := d) hv h4, pk_lt 0 (vWas v (v 4)) (fun h0 => ?_) (fun h0 => QX.same ?_)⟩
  · obtain ⟨q, q4, q6, er, ec⟩ := isR_of hc h4
    have ha0 : ¬ nI (vWas v (v 4)) = 0 := nI_ne0 (by omega) (by omega)
    have ar := hv.2.2.2.2.2.2.2
    have ewq : hi 24 2 r.toNatClampNeg = nI (v (15 + 4 * q)) := by rw [ec]; exact (ar q q4).2.2.2
    have bq := ni_inx (n := q) (m := 6) er q6 (by decide)
    refine ⟨bq, ha0, ?_⟩
    have eA : aPence v m r = m * nI (v (15 + 4 * q)) / nI (vWas v (v 4)) + (if (vPn m r v (v 4)).2 < (vPn m r v (v 4)).1 then 1 else 0) := by
      unfold aPence
      rw [if_pos ⟨hc, hc2⟩, if_neg (by omega), ec]
    have loop : ∀ k i l7 l9, i + k = v 4 → l7 = rem32 (m * nI (v (15 + 4 * q))) (nI (vWas v (v 4))) → fx_E (fx_Ga (d + 1)) fx_M123 (64, [some xO, some (vi m), some (vi r), some (cO 2), some (vi (nI (vWas v (v 4)))), some (vi (vPn m r v i).1), some (vi (vPn m r v i).2), some (vi l7), some (vi (nI i)), l9], [], hp σ hi hl, 0, 0) (QXP σ hi hl (aPence v m r)) := by
      intro k
      induction k with
      | zero =>
        intro i l7 l9 hk e7
        have : i = v 4 := by omega
        subst this
        refine fx_wpL [64] 40 (pk_le (v 4) (v 4) (fun _ => ?_) (fun hc => by omega) hv.2.2.2.1)
        refine ⟨bq, ha0, fun (z : (vPn m r v (v 4)).1 ≤ (vPn m r v (v 4)).2) => QX.same ?_, fun (z : ¬ (vPn m r v (v 4)).1 ≤ (vPn m r v (v 4)).2) => QX.same ?_⟩
        · rw [eA, if_neg (Int32.not_lt.mpr z), ← ewq]
          rfl
        · rw [eA, if_pos (Int32.not_le.mp z), ← ewq]
          rfl
      | succ k ih =>
        intro i l7 l9 hk e7
        have i6 : i < 6 := by omega
        have ewi : hi 24 2 (nI i).toNatClampNeg = nI (v (15 + 4 * i)) := by rw [nI_clamp (by omega)]; exact (ar i (by omega)).2.2.2
        have bi := ni_in (n := i) (m := 6) i6 (by decide)
        refine fx_wpL [64] 60 (pk_le (v 4) i (fun hc => by omega) (fun _ => ?_) hv.2.2.2.1)
        refine ⟨bi, ha0, bi, ha0, ?_⟩
        have h2 := fun l9 => ih (i + 1) l7 l9 (by omega) e7
        have e1 : (vPn m r v (i + 1)).1 = (vPn m r v i).1 - m * nI (v (15 + 4 * i)) / nI (vWas v (v 4)) := rfl
        have e2 : (vPn m r v (i + 1)).2 = if l7 < rem32 (m * nI (v (15 + 4 * i))) (nI (vWas v (v 4))) ∨ rem32 (m * nI (v (15 + 4 * i))) (nI (vWas v (v 4))) = l7 ∧ nI i < r then (vPn m r v i).2 + 1 else (vPn m r v i).2 := by rw [e7, ← ec]; rfl
        rw [e1, e2, ← nI_1, ← ewi] at h2
        refine ⟨fun (z : l7 < rem32 (m * hi 24 2 (nI i).toNatClampNeg) (nI (vWas v (v 4)))) => ?_, fun (z : ¬ l7 < rem32 (m * hi 24 2 (nI i).toNatClampNeg) (nI (vWas v (v 4)))) => ?_⟩
        · rw [if_pos (Or.inl z)] at h2
          exact h2 _
        · refine ⟨fun (z1 : ¬ rem32 (m * hi 24 2 (nI i).toNatClampNeg) (nI (vWas v (v 4))) = l7) => ?_, fun (z1 : ¬ ¬ rem32 (m * hi 24 2 (nI i).toNatClampNeg) (nI (vWas v (v 4))) = l7) => ⟨fun (z2 : r ≤ nI i) => ?_, fun (z2 : ¬ r ≤ nI i) => ?_⟩⟩
          · rw [if_neg (fun q => q.elim z (fun q => z1 q.1))] at h2
            exact h2 _
          · rw [if_neg (fun q => q.elim z (fun q => Int32.not_lt.mpr z2 q.2))] at h2
            exact h2 _
          · rw [if_pos (Or.inr ⟨Classical.not_not.mp z1, Int32.not_le.mp z2⟩)] at h2
            exact h2 _
    exact loop (v 4) 0 _ none (by omega) (by rw [← ewq]; rfl)
  · unfold aPence
    rw [if_pos ⟨hc, hc2⟩, if_pos (by omega)]
    rfl
end A7
