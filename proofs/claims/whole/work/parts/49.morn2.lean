/-! mornings: both sides -/
section MN2
variable {d : Nat} {σ : fxS} {hi : fxI3} {hl : fxL3} {v : Nat → Nat} {rl : Option fxRl} {f : Option Nat}
theorem x_mornings0 {N : Nat → Nat} (hN : ∀ x, N x < 2 ^ 31) (hN1 : ∀ {d : Nat} {h : fxH} {x : Nat}, x < 2 ^ 31 → fx_Ga (d + 1) 137 [vi (nI x)] h (some (vi (nI (N x)))) h) (hn : NX σ hi hl v f rl) (hH : HV v) {x : Nat} (hx : hi 9 0 4 = nI x) (hx2 : x < 2 ^ 31) (m n p w : Int32) : QX (d + 7) 135 [xO, vi m, vi n, vi p, vi w] σ hi hl (aMorn N rl v x m n p w) := by
  obtain ⟨hv, hg, hs, n4, n5, n6, n7, n8, n9⟩ := id hn
  have h10 := hH.2
  have h4 := hs.1
  have hh := x_isHunted (d := d + 5) (σ := σ) hv hs.2.1
  rw [hH.h] at hh
  refine QX_of fx_M135 [some xO, some (vi m), some (vi n), some (vi p), some (vi w), none, none, none, none, none] (by decide) rfl rfl (Nat.le_of_ble_eq_true rfl) (fx_wpE [69] 60 ?_)
  refine ⟨_, _, hh, bd_if (fun hc => QX.same (if_neg (fun z => hc z.1)).symm) (fun hc => ?_)⟩
  refine ⟨_, _, x_within m 1 10, bd_if (fun hc2 => QX.same (if_neg (fun z => hc2 z.2.1)).symm) (fun hc2 => ?_)⟩
  refine ⟨_, _, x_within n 1 60, bd_nf (fun hc3 => ?_) (fun hc3 => QX.same (if_neg (fun z => hc3 z.2.2.1)).symm)⟩
  refine ⟨_, _, x_within p 0 100, bd_if (fun hc4 => QX.same (if_neg (fun z => hc4 z.2.2.2.1)).symm) (fun hc4 => ?_)⟩
  refine ⟨_, _, x_within w 0 1, bd_nf (fun hc5 => ?_) (fun hc5 => QX.same (if_neg (fun z => hc5 z.2.2.2.2)).symm)⟩
  obtain ⟨km, km1, km3, em, ekm⟩ := rg_of (a := 1) (b := 10) hc2 (by decide) (by decide)
  obtain ⟨kn, kn1, kn3, en, ekn⟩ := rg_of (a := 1) (b := 60) hc3 (by decide) (by decide)
  obtain ⟨kp, kp1, kp3, ep, ekp⟩ := rg_of (a := 0) (b := 100) hc4 (by decide) (by decide)
  generalize eA : aMorn N rl v x m n p w = A
  have eA : A = if w = 0 then nI (vMm N rl kp kn v x km).2.1 else nI (vMm N rl kp kn v x km).2.2 := by
    rw [← eA]
    unfold aMorn
    rw [if_pos ⟨hc, hc2, hc3, hc4, hc5⟩, ekm, ekn, ekp]
  have loop : ∀ q i (hb : fxI3) (hlb : fxL3) (a5 a6 a7 : Int32) l9, i + q = km → FrY hi hb → FlY hl hlb → a5 = nI (vMm N rl kp kn v x i).1 → a6 = nI (vMm N rl kp kn v x i).2.1 → a7 = nI (vMm N rl kp kn v x i).2.2 → fx_E (fx_Ga (d + 6)) fx_M135 (69, [some xO, some (vi m), some (vi n), some (vi p), some (vi w), some (vi a5), some (vi a6), some (vi a7), some (vi (nI i)), l9], [], hp σ hb hlb, 0, 0) (QXP σ hi hl A) := by
    intro q
    induction q with
    | zero =>
      intro i hb hlb a5 a6 a7 l9 hk g1 g2 e5 e6 e7
      have : i = km := by omega
      subst this
      refine fx_wpL [69] 20 (pk_le i i (fun _ => ?_) (fun hc => by omega) em)
      refine ⟨fun (z : ¬ w = 0) => ⟨?_, hb, hlb, rfl, g1, g2⟩, fun (z : ¬ ¬ w = 0) => ⟨?_, hb, hlb, rfl, g1, g2⟩⟩
      · rw [eA, if_neg z, e7]
      · rw [eA, if_pos (Classical.not_not.mp z), e6]
    | succ q ih =>
      intro i hb hlb a5 a6 a7 l9 hk g1 g2 e5 e6 e7
      have hmm := vMm_ok hN rl kp kn hs x hx2 (by omega) i
      obtain ⟨hi1, hl1, hg1, f1, f2, hv1⟩ := x_tryFromNow (d := d + 4) (σ := σ) (hv.y (by omega) g1 g2) h4
      generalize hy : (vMm N rl kp kn v x i).1 = y at e5 hmm
      have inner : ∀ t j (hc : fxI3) (hlc : fxL3) (a5 a6 : Int32), j + t = kn → FrY hi hc → FlY hl hlc → PX hc hlc 23 (vMo N rl kp v y j).1 → a5 = nI (vMo N rl kp v y j).2.1 → a6 = nI ((vMm N rl kp kn v x i).2.1 + (vMo N rl kp v y j).2.2) → fx_E (fx_Ga (d + 6)) fx_M135 (82, [some xO, some (vi m), some (vi n), some (vi p), some (vi w), some (vi a5), some (vi a6), some (vi a7), some (vi (nI i)), some (vi (nI j))], [], hp σ hc hlc, 0, 0) (QXP σ hi hl A) := by
        intro t
        induction t with
        | zero =>
          intro j hc hlc a5 a6 hj g3 g4 hvc e5 e6
          have : j = kn := by omega
          subst this
          refine fx_wpL [69, 82] 30 (pk_le j j (fun _ => ?_) (fun hc => by omega) en)
          have h2 := ih (i + 1) hc hlc a5 a6 (a7 + hc 1 23 4) (some (vi (nI j))) (by omega) g3 g4 (by rw [e5, vMm, hy]) (by rw [e6, vMm, hy]) (by rw [e7, hvc.2.2.2.2.1, nI_add, vMm, hy])
          rw [← nI_1] at h2
          exact h2
        | succ t iht =>
          intro j hc hlc a5 a6 hj g3 g4 hvc e5 e6
          obtain ⟨o1, o2, o3, o4, o5, o6⟩ := vMo_ok hN rl kp hs y hmm.1 j
          refine fx_wpL [69, 82] 40 (pk_le kn j (fun hc => by omega) (fun _ => ?_) en)
          obtain ⟨hi3, hg3, f3, hv3⟩ := x_stumble (d := d + 4) (σ := σ) hN hN1 (x := (vMo N rl kp v y j).2.1) hvc (o1.sv (by omega)) o2 kp3
          rw [← e5, ← ep] at hg3
          refine ⟨_, _, hg3, ?_⟩
          have hs3 := o1.stb N kp (vMo N rl kp v y j).2.1
          have hgv : GV (vStb N kp (vMo N rl kp v y j).1 (vMo N rl kp v y j).2.1).1 := GV_of hg (by rw [vStb_ne N o1.1 _ _ (by omega)]; exact o3 1 (by omega)) (by rw [vStb_ne N o1.1 _ _ (by omega)]; exact o3 36 (by omega)) (by rw [vStb_ne N o1.1 _ _ (by omega)]; exact o3 37 (by omega))
          obtain ⟨hi4, hl4, hg4, f5, f6, hv4⟩ := x_tryStep (d := d) (hn.fr (g3.tr f3) g4) hv3 hs3 hgv (by rw [vStb_ne N o1.1 _ _ (by omega)]; omega)
          refine ⟨_, _, hg4, ?_⟩
          have w4 : vStb N kp (vMo N rl kp v y j).1 (vMo N rl kp v y j).2.1 = vStb N kp (vMo N rl kp v y j).1 (vMo N rl kp v y j).2.1 := rfl
          cases hw : (vStep (vStb N kp (vMo N rl kp v y j).1 (vMo N rl kp v y j).2.1).1 rl none).2 with
          | none =>
            refine ⟨fun _ => ?_, fun (z : ¬ oI none = -1) => absurd rfl z⟩
            have h2 := iht (j + 1) hi4 hl4 (nI (vStb N kp (vMo N rl kp v y j).1 (vMo N rl kp v y j).2.1).2) a6 (by omega) ((g3.tr f3).tr f5) (g4.tr f6) hv4 rfl (by rw [e6, vMo, hw]; rfl)
            rw [← nI_1] at h2
            exact h2
          | some l =>
            have hl6 : l < 6 := by
              have := vStep_who _ _ _ hw
              have := hs3.1
              omega
            refine ⟨fun (z : oI (some l) = -1) => absurd z (ne_m1 (by omega)), fun _ => ?_⟩
            have h2 := iht (j + 1) hi4 hl4 (nI (vStb N kp (vMo N rl kp v y j).1 (vMo N rl kp v y j).2.1).2) (a6 + 1) (by omega) ((g3.tr f3).tr f5) (g4.tr f6) hv4 rfl (by rw [e6, vMo, hw, nI_1]; rfl)
            rw [← nI_1] at h2
            exact h2
      refine fx_wpL [69, 82] 40 (pk_le km i (fun hc => by omega) (fun _ => ?_) em)
      exact ⟨_, _, hg1, inner kn 0 hi1 hl1 a5 a6 (by omega) (g1.tr f1) (g2.tr f2) hv1 e5 e6⟩
  exact loop km 0 hi hl _ _ _ none (by omega) (FrY.rf hi) (FlY.rf hl) hx rfl rfl
theorem m_mornings0 {N : Nat → Nat} (hN : ∀ x, N x < 2 ^ 31) (hN1 : ∀ {d : Nat} {hi : fxI3} {hl : fxL3} {x o : Nat}, hl 11 0 33 = lN x → x < 2 ^ 31 → 0 < o → o < 2 ^ 31 → fx_Ga (d + 1) 245 [mO, vi (nI o)] (hp σ hi hl) (some (vi (nI (N x / 65536 % o)))) (hp σ hi (fx_up hl 11 0 33 (lN (N x))))) (hn : NM hi v rl) (hH : HV v) {x : Nat} (hx : hi 11 0 22 = nI x) (hx2 : x < 2 ^ 31) (m n p w : Int32) : QM (d + 7) 247 [mO, vi m, vi n, vi p, vi w] σ hi hl v (aMorn N rl v x m n p w) := by
  obtain ⟨hv, hs, hf, hr⟩ := hn
  have h10 := hH.2
  have h4 := hs.1
  refine QM_of fx_M247 [some mO, some (vi m), some (vi n), some (vi p), some (vi w), none, none, none, none, none] (by decide) rfl rfl (Nat.le_of_ble_eq_true rfl) (fx_wpE [78] 60 ?_)
  refine ⟨_, _, m_isHunt hv, bd_if (fun hc => QM.same hv (if_neg (fun z => hc z.1)).symm) (fun hc => ?_)⟩
  refine ⟨_, _, m_inN m 1 10 rfl rfl, bd_if (fun hc2 => QM.same hv (if_neg (fun z => hc2 z.2.1)).symm) (fun hc2 => ?_)⟩
  refine ⟨_, _, m_inN n 1 60 rfl rfl, bd_if (fun hc3 => QM.same hv (if_neg (fun z => hc3 z.2.2.1)).symm) (fun hc3 => ?_)⟩
  refine ⟨_, _, m_inN p 0 100 rfl rfl, bd_if (fun hc4 => QM.same hv (if_neg (fun z => hc4 z.2.2.2.1)).symm) (fun hc4 => ?_)⟩
  refine ⟨_, _, m_inN w 0 1 rfl rfl, bd_nf (fun hc5 => ?_) (fun hc5 => QM.same hv (if_neg (fun z => hc5 z.2.2.2.2)).symm)⟩
  obtain ⟨km, km1, km3, em, ekm⟩ := rg_of (a := 1) (b := 10) hc2 (by decide) (by decide)
  obtain ⟨kn, kn1, kn3, en, ekn⟩ := rg_of (a := 1) (b := 60) hc3 (by decide) (by decide)
  obtain ⟨kp, kp1, kp3, ep, ekp⟩ := rg_of (a := 0) (b := 100) hc4 (by decide) (by decide)
  obtain ⟨g, hg1, hk⟩ := m_keeps (d := d + 5) (σ := σ) (hl := fx_up hl 11 0 33 (hi 11 0 22).toInt64) hv
  have f1 : FrQ hi (fx_all hi 63 0 g) := FrQ.all hi g (fun s => by unfold scr; omega)
  have f0 : FlQ hl (fx_up hl 11 0 33 (hi 11 0 22).toInt64) := fun k j s _ _ h3 => up_off hl _ (fun z => h3 ⟨z.1, z.2.2⟩)
  refine ⟨_, _, hg1, ?_⟩
  generalize eA : aMorn N rl v x m n p w = A
  have eA : A = if w = 0 then nI (vMm N rl kp kn v x km).2.1 else nI (vMm N rl kp kn v x km).2.2 := by
    rw [← eA]
    unfold aMorn
    rw [if_pos ⟨hc, hc2, hc3, hc4, hc5⟩, ekm, ekn, ekp]
  have loop : ∀ q i (hb : fxI3) (hlb : fxL3) (a5 a6 : Int32) l8 l9, i + q = km → FrQ hi hb → FlQ hl hlb → PM hb v → KP hb v → hlb 11 0 33 = lN (vMm N rl kp kn v x i).1 → a5 = nI (vMm N rl kp kn v x i).2.1 → a6 = nI (vMm N rl kp kn v x i).2.2 → fx_E (fx_Ga (d + 6)) fx_M247 (78, [some mO, some (vi m), some (vi n), some (vi p), some (vi w), some (vi a5), some (vi a6), some (vi (nI i)), l8, l9], [], hp σ hb hlb, 0, 0) (QMP σ hi hl v A) := by
    intro q
    induction q with
    | zero =>
      intro i hb hlb a5 a6 l8 l9 hk g1 g2 hvb _ _ e5 e6
      have : i = km := by omega
      subst this
      refine fx_wpL [78] 20 (pk_le i i (fun _ => ?_) (fun hc => by omega) em)
      refine ⟨fun (z : ¬ w = 0) => ⟨?_, hb, hlb, rfl, g1, g2, hvb⟩, fun (z : ¬ ¬ w = 0) => ⟨?_, hb, hlb, rfl, g1, g2, hvb⟩⟩
      · rw [eA, if_neg z, e6]
      · rw [eA, if_pos (Classical.not_not.mp z), e5]
    | succ q ih =>
      intro i hb hlb a5 a6 l8 l9 hki g1 g2 hvb hkb ex e5 e6
      have hmm := vMm_ok hN rl kp kn hs x hx2 (by omega) i
      generalize hy : (vMm N rl kp kn v x i).1 = y at ex hmm
      have inner : ∀ t j (hc : fxI3) (hlc : fxL3), j + t = kn → FrP hb hc → FlQ hl hlc → PM hc (vMo N rl kp v y j).1 → hlc 11 0 33 = lN (vMo N rl kp v y j).2.1 → fx_E (fx_Ga (d + 6)) fx_M247 (93, [some mO, some (vi m), some (vi n), some (vi p), some (vi w), some (vi a5), some (vi a6), some (vi (nI i)), some (vi (nI (vWas v (v 4)))), some (vi (nI j))], [], hp σ hc hlc, 0, 0) (QMP σ hi hl v A) := by
        intro t
        induction t with
        | zero =>
          intro j hc hlc hj g3 g4 hvc ex3
          have : j = kn := by omega
          subst this
          obtain ⟨o1, o2, o3, o4, o5, o6⟩ := vMo_ok hN rl kp hs y hmm.1 j
          have hwa := m_wasAll (d := d + 4) (σ := σ) (hl := hlc) hvc (by rw [o3 4 (by omega)]; exact h4)
          rw [o3 4 (by omega), o5] at hwa
          have hk3 := hkb.fr g3
          obtain ⟨g5, hg5, hv5⟩ := m_laysBack (d := d + 5) (σ := σ) (hl := hlc) hvc hk3 (fun x hx => o3 x (by omega))
          have hk5 : KP (fx_all hc 59 0 g5) v := hk3
          refine fx_wpL [78, 93] 40 (pk_le j j (fun _ => ?_) (fun hc => by omega) en)
          refine ⟨_, _, hwa, ni_inx (n := 11) (m := 83) rfl (by decide) (by decide), _, _, hg5, ?_⟩
          have h2 := ih (i + 1) (fx_all hc 59 0 g5) hlc (a5 + (nI (vWas v (v 4) + (vMo N rl kp v y j).2.2) - nI (vWas v (v 4)))) (a6 + hc 59 0 11) (some (vi (nI (vWas v (v 4))))) (some (vi (nI j))) (by omega) (g1.tr (g3.q.tr (FrQ.all (k := 59) (j := 0) hc g5 (fun s => Or.inl rfl)))) g4 hv5 hk5 (by rw [ex3, vMm, hy]) (by rw [pk_sub (Nat.le_add_right _ _), Nat.add_sub_cancel_left, e5, nI_add, vMm, hy]) (by rw [e6, (hvc 11 (by decide)).1, nI_add, vMm, hy])
          rw [← nI_1] at h2
          exact h2
        | succ t iht =>
          intro j hc hlc hj g3 g4 hvc ex3
          obtain ⟨o1, o2, o3, o4, o5, o6⟩ := vMo_ok hN rl kp hs y hmm.1 j
          have hsv := o1.sv (by omega)
          have u4 : (vMo N rl kp v y j).1 4 = v 4 := o3 4 (by omega)
          have hvn : (vMo N rl kp v y (j + 1)).1 = (vStep (vStb N kp (vMo N rl kp v y j).1 (vMo N rl kp v y j).2.1).1 rl none).1 := rfl
          have hxn : (vMo N rl kp v y (j + 1)).2.1 = (vStb N kp (vMo N rl kp v y j).1 (vMo N rl kp v y j).2.1).2 := rfl
          generalize hu : (vMo N rl kp v y j).1 = u at o1 o3 o4 hvc hsv u4 hvn hxn
          generalize hz : (vMo N rl kp v y j).2.1 = z at o2 ex3 hvn hxn
          -- behind the stumbling
          have tail : ∀ (he : fxI3) (hle : fxL3), FrP hc he → FlQ hlc hle → PM he (vStb N kp u z).1 → hle 11 0 33 = lN (vStb N kp u z).2 → fx_E (fx_Ga (d + 6)) fx_M247 (132, [some mO, some (vi m), some (vi n), some (vi p), some (vi w), some (vi a5), some (vi a6), some (vi (nI i)), some (vi (nI (vWas v (v 4)))), some (vi (nI j))], [], hp σ he hle, 0, 0) (QMP σ hi hl v A) := by
            intro he hle r1 r2 hve exe
            obtain ⟨hi2, hl2, hg2, p1, p2, hv2⟩ := m_passes (d := d) (σ := σ) (hl := hle) (rl := rl) hve ((o1.stb N kp z).sv (by rw [vStb_ne N o1.1 _ _ (by omega)]; omega)) (FM_fr r1 (FM_fr g3 (FM_q g1 hf))) (WM_fr r1 (WM_fr g3 (WN_q g1 hr)))
            refine fx_wpE [78, 93] 20 ⟨_, _, hg2, ?_⟩
            have h2 := iht (j + 1) hi2 hl2 (by omega) (g3.tr (r1.tr p1)) (g4.tr (r2.tr p2.q)) (by rw [hvn]; exact hv2) (by rw [hxn, p2 11 0 33 (by decide) (by decide)]; exact exe)
            rw [← nI_1] at h2
            exact h2
          have hd1 := hN1 (d := d + 5) (hi := hc) (hl := hlc) (o := 100) ex3 o2 (by decide) (by decide)
          have q1 : FlQ hlc (fx_up hlc 11 0 33 (lN (N z))) := fun k j s _ _ h3 => up_off hlc _ (fun z => h3 ⟨z.1, z.2.2⟩)
          have hm100 := Nat.mod_lt (N z / 65536) (show 0 < 100 by decide)
          refine fx_wpL [78, 93, 132] 60 (pk_le kn j (fun hc => by omega) (fun _ => ?_) en)
          refine ⟨_, _, hd1, ?_⟩
          refine pk_le kp (N z / 65536 % 100) (fun hle => ?_) (fun hlt => ?_) ep
          · have e : vStb N kp u z = (u, N z) := if_neg (by omega)
            exact tail _ _ (FrP.rf hc) q1 (by rw [e]; exact hvc) (by rw [e]; exact up_at _ _ _ _ _)
          · refine ⟨ni_inx (n := 4) (m := 83) rfl (by decide) (by decide), ?_⟩
            refine pk_le (u 4) 0 (fun h0 => ?_) (fun h0 => ?_) (hvc 4 (by decide)).1
            · have e : vStb N kp u z = (u, N z) := if_neg (by omega)
              exact tail _ _ (FrP.rf hc) q1 (by rw [e]; exact hvc) (by rw [e]; exact up_at _ _ _ _ _)
            · refine ⟨ni_inx (n := 4) (m := 83) rfl (by decide) (by decide), ?_⟩
              have hd2 := hN1 (d := d + 5) (hi := hc) (hl := fx_up hlc 11 0 33 (lN (N z))) (o := u 4) (up_at _ _ _ _ _) (hN z) h0 (by omega)
              rw [← (hvc 4 (by decide)).1] at hd2
              have hrr := Nat.mod_lt (N (N z) / 65536) h0
              have e : vStb N kp u z = (if vOut u (N (N z) / 65536 % u 4) then u else vup u (12 + 4 * (N (N z) / 65536 % u 4)) (u (12 + 4 * (N (N z) / 65536 % u 4)) - 2), N (N z)) := if_pos ⟨hlt, h0⟩
              obtain ⟨hi3, hg3, r3, hv3⟩ := m_stumbles (d := d + 4) (σ := σ) (hl := fx_up (fx_up hlc 11 0 33 (lN (N z))) 11 0 33 (lN (N (N z)))) hvc (fun i h6 => by have := (hsv.2.2.2.2.2.2 i h6).1; have := hsv.2.2.2.2.1; omega) (r := N (N z) / 65536 % u 4) (by omega)
              refine ⟨_, _, hd2, _, _, hg3, ?_⟩
              exact tail _ _ r3 (q1.tr (fun k j s _ _ h3 => up_off _ _ (fun z => h3 ⟨z.1, z.2.2⟩))) (by rw [e]; exact hv3) (by rw [e]; exact up_at _ _ _ _ _)
      refine fx_wpL [78, 93] 40 (pk_le km i (fun hc => by omega) (fun _ => ?_) em)
      exact ⟨_, _, m_wasAll (d := d + 4) hvb h4, inner kn 0 hb hlb (by omega) (FrP.rf hb) g2 hvb ex⟩
  exact loop km 0 _ _ _ _ none none (by omega) f1 f0 hv hk (by rw [up_at, hx]; exact nI_l hx2) rfl rfl
theorem x_mornings (hn : NX σ hi hl v f rl) (hH : HV v) {x : Nat} (hx : hi 9 0 4 = nI x) (hx2 : x < 2 ^ 31) (m n p w : Int32) : QX (d + 7) 135 [xO, vi m, vi n, vi p, vi w] σ hi hl (aMorn nX rl v x m n p w) := x_mornings0 nX_lt x_nextX hn hH hx hx2 m n p w
theorem m_mornings (hn : NM hi v rl) (hH : HV v) {x : Nat} (hx : hi 11 0 22 = nI x) (hx2 : x < 2 ^ 31) (m n p w : Int32) : QM (d + 7) 247 [mO, vi m, vi n, vi p, vi w] σ hi hl v (aMorn nX rl v x m n p w) := m_mornings0 nX_lt m_draw hn hH hx hx2 m n p w
end MN2
