/-! help: the reference -/
section HQ
variable {d : Nat} {σ : fxS} {hi : fxI3} {hl : fxL3} {v : Nat → Nat} {rl : Option fxRl} {f : Option Nat}
theorem m_nobody {w : Nat → Nat} (hw : PM hi w) (hs : SB w) (hk : KP hi v) (hsm : ∀ x, x < 10 ∨ 38 ≤ x → w x = v x) (hwas : ∀ i, w (15 + 4 * i) = v (15 + 4 * i)) {n : Nat} (h10 : w 10 + n ≤ 9999) (hf : FM hi rl) (hr : WM hi none) :
    ∃ hi' hl', fx_Ga (d + 8) 226 [mO, vi (nI n)] (hp σ hi hl) (some (vi (b01 (vNb rl w n (w 4))))) (hp σ hi' hl') ∧ FrQ hi hi' ∧ FlQ hl hl' ∧ PM hi' v ∧ KP hi' v := by
  have h4 := hs.1
  obtain ⟨hi2, hl2, hg2, f3, f4, hv2⟩ := m_passesAll (d := d) (σ := σ) (hl := hl) (n := n) (rl := rl) hw hs h10 hf hr
  have hk2 := hk.fr f3
  obtain ⟨g3, hg3, hv3⟩ := m_laysBack (d := d + 6) (σ := σ) (hl := hl2) hv2 hk2 (fun x hx => (it_same rl h4 n x hx).trans (hsm x hx))
  have hk4 : KP (fx_all hi2 59 0 g3) v := hk2
  have e4 : hi2 59 0 4 = nI (w 4) := by rw [(hv2 4 (by decide)).1, vIt_lo rl w (by decide)]
  have loop : ∀ m r, r + m = w 4 → fx_E (fx_Ga (d + 7)) fx_M226 (9, [some mO, some (vi (nI n)), some (vi (b01 (vNb rl w n r))), some (vi (nI r))], [], hp σ hi2 hl2, 0, 0) (fun r2 h2 => r2 = some (vi (b01 (vNb rl w n (w 4)))) ∧ h2 = hp σ (fx_all hi2 59 0 g3) hl2) := by
    intro m
    induction m with
    | zero =>
      intro r hm
      have : r = w 4 := by omega
      subst this
      exact fx_wpL [9] 20 ⟨ni_inx (n := 4) (m := 83) rfl (by decide) (by decide), pk_le (w 4) (w 4) (fun _ => ⟨_, _, hg3, b01_or _, rfl, rfl⟩) (fun hc => by omega) e4⟩
    | succ m ih =>
      intro r hm
      have r6 : r < 6 := by omega
      have i5 : (12 + 4 * nI r + 3 - 10 : Int32) = nI (5 + 4 * r) := by
        rw [ri_3]
        show nI (15 + 4 * r) - nI 10 = _
        rw [pk_sub (by omega)]
        congr 1
        omega
      refine fx_wpL [9] 40 ⟨ni_inx (n := 4) (m := 83) rfl (by decide) (by decide), pk_le (w 4) r (fun hc => by omega) (fun _ => ?_) e4⟩
      refine b01_if (fun hb => ?_) (fun hb => ?_)
      · have h2 := ih (r + 1) (by omega)
        rw [show vNb rl w n (r + 1) = false by rw [vNb, hb]; rfl, ← nI_1] at h2
        exact h2
      · have hwo := m_wasOf (d := d + 6) (σ := σ) (hl := hl2) hv2 r6
        rw [vIt_was, hwas] at hwo
        have hle := vTm_le rl w r n
        have esub : nI (v (15 + 4 * r) + vTm rl w r n) - hi2 63 0 (12 + 4 * nI r + 3 - 10 : Int32).toNatClampNeg = nI (vTm rl w r n) := by
          rw [ni_cl i5 (by omega), (hk2 (5 + 4 * r) (by omega)).1, show 10 + (5 + 4 * r) = 15 + 4 * r by omega, pk_sub (Nat.le_add_right _ _), Nat.add_sub_cancel_left]
        refine ⟨_, _, hwo, ni_inx (n := 5 + 4 * r) (m := 28) i5 (by omega) (by decide), pk_le 2 (vTm rl w r n) (fun h => ?_) (fun h => ?_) rfl esub⟩
        · have h2 := ih (r + 1) (by omega)
          rw [show vNb rl w n (r + 1) = false by rw [vNb, decide_eq_false (by omega), Bool.and_false], ← nI_1] at h2
          exact h2
        · have h2 := ih (r + 1) (by omega)
          rw [show vNb rl w n (r + 1) = true by rw [vNb, hb, decide_eq_true h]; rfl, ← nI_1] at h2
          exact h2
  refine ⟨_, _, fx_meth fx_M226 [some mO, some (vi (nI n)), none, none] (by decide) rfl rfl (Nat.le_of_ble_eq_true rfl) (fx_wpE [9] 20 ⟨_, _, hg2, loop (w 4) 0 (by omega)⟩), f3.q.tr (FrQ.all (k := 59) (j := 0) hi2 g3 (fun s => Or.inl rfl)), f4.q, hv3, hk4⟩
theorem m_help (hn : NM hi v rl) (hH : HV v) (n w : Int32) : QM (d + 9) 227 [mO, vi n, vi w] σ hi hl v (aHelp rl v n w) := by
  obtain ⟨hv, hs, hf, hr⟩ := hn
  have h10 := hH.2
  have h4 := hs.1
  refine QM_of fx_M227 [some mO, some (vi n), some (vi w), none, none, none] (by decide) rfl rfl (Nat.le_of_ble_eq_true rfl) (fx_wpE [40] 40 ?_)
  refine ⟨_, _, m_isHunt hv, bd_if (fun hc => QM.same hv (if_neg (fun z => hc z.1)).symm) (fun hc => ?_)⟩
  refine ⟨_, _, m_inN n 1 60 rfl rfl, bd_if (fun hc2 => QM.same hv (if_neg (fun z => hc2 z.2.1)).symm) (fun hc2 => ?_)⟩
  refine ⟨_, _, m_inN w 0 1 rfl rfl, bd_nf (fun hc3 => ?_) (fun hc3 => QM.same hv (if_neg (fun z => hc3 z.2.2)).symm)⟩
  obtain ⟨k, k1, k3, en, ek⟩ := rg_of (a := 1) (b := 60) hc2 (by decide) (by decide)
  obtain ⟨g, hg1, hk⟩ := m_keeps (d := d + 7) (σ := σ) (hl := hl) hv
  have f1 : FrQ hi (fx_all hi 63 0 g) := FrQ.all hi g (fun s => by unfold scr; omega)
  refine ⟨_, _, hg1, ?_⟩
  have hN : 2 ^ v 4 ≤ 64 := Nat.le_trans (Nat.pow_le_pow_right (by decide) h4) (by decide)
  generalize eA : aHelp rl v n w = A
  have eA : A = hA w (vBe (vGs rl v k) (2 ^ v 4)) := by
    rw [← eA]
    unfold aHelp
    rw [if_pos ⟨hc, hc2, hc3⟩, ek]
  have eN : (1 : Int32) <<< (nI (v 4) &&& 31) = nI (2 ^ v 4) := sh_6 (v 4) h4
  generalize 2 ^ v 4 = N at hN eA eN
  have hbe : ∀ s b, s ≤ N → vBe (vGs rl v k) s = some b → b < 64 := fun s b hs e => by
    rcases vBe_ok (vGs rl v k) s with ⟨e2, _⟩ | ⟨b2, e2, hb, _⟩
    · rw [e2] at e
      cases e
    · rw [e2] at e
      cases e
      omega
  have loop : ∀ m s (hb : fxI3) (hlb : fxL3) l5, s + m = N → FrQ hi hb → FlQ hl hlb → PM hb v → KP hb v → fx_E (fx_Ga (d + 8)) fx_M227 (40, [some mO, some (vi n), some (vi w), some (vi (oI (vBe (vGs rl v k) s))), some (vi (nI s)), l5], [], hp σ hb hlb, 0, 0) (QMP σ hi hl v A) := by
    intro m
    induction m with
    | zero =>
      intro s hb hlb l5 hm g1 g2 hvb _
      have : s = N := by omega
      subst this
      have ebr : (1 : Int32) <<< (hb 59 0 4 &&& 31) = nI s := by rw [(hvb 4 (by decide)).1]; exact eN
      refine fx_wpL [40] 30 ⟨ni_inx (n := 4) (m := 83) rfl (by decide) (by decide), pk_le s s (fun _ => ?_) (fun hc => by omega) ebr⟩
      refine oI_ge (fun i hi0 => by have := hbe s i (Nat.le_refl _) hi0; omega) (fun b hb0 => ?_) (fun hn0 => ⟨by rw [eA, hn0]; rfl, hb, hlb, rfl, g1, g2, hvb⟩)
      rw [hb0] at eA ⊢
      have eA : A = if w = 0 then nI (vPc b) else nI b := eA
      have := hbe s b (Nat.le_refl _) hb0
      refine ⟨fun (z : ¬ w = 0) => ⟨by rw [eA, if_neg z]; rfl, hb, hlb, rfl, g1, g2, hvb⟩, fun (z : ¬ ¬ w = 0) => ⟨_, _, m_bits (show b < 2 ^ 31 by omega), by rw [eA, if_pos (Classical.not_not.mp z)], hb, hlb, rfl, g1, g2, hvb⟩⟩
    | succ m ih =>
      intro s hb hlb l5 hm g1 g2 hvb hkb
      have ebr : ∀ hb, PM hb v → (1 : Int32) <<< (hb 59 0 4 &&& 31) = nI N := fun hb hvb => by rw [(hvb 4 (by decide)).1]; exact eN
      generalize hu : vSt v s (v 4) = u
      have u4 : u 4 = v 4 := by rw [← hu]; exact vSt_ne v s _ 4 (by omega)
      have u10 : u 10 = v 10 := by rw [← hu]; exact vSt_ne v s _ 10 (by omega)
      have egs : vGs rl v k s = vNb rl u k (v 4) := by unfold vGs; rw [hu]
      -- the paces
      have inner : ∀ t i (hc : fxI3) (hlc : fxL3), i + t = v 4 → (vBe (vGs rl v k) (s + 1) = if vGs rl v k s = true then some s else vBe (vGs rl v k) s) → FrQ hi hc → FlQ hl hlc → PM hc (vSt v s i) → KP hc v → fx_E (fx_Ga (d + 8)) fx_M227 (75, [some mO, some (vi n), some (vi w), some (vi (oI (vBe (vGs rl v k) s))), some (vi (nI s)), some (vi (nI i))], [], hp σ hc hlc, 0, 0) (QMP σ hi hl v A) := by
        intro t
        induction t with
        | zero =>
          intro i hc hlc hi4 hnx g3 g4 hvc hkc
          have : i = v 4 := by omega
          subst this
          rw [hu] at hvc
          obtain ⟨hi3, hl3, hg3, f5, f6, hv3, hk3⟩ := m_nobody (d := d) (σ := σ) (hl := hlc) (rl := rl) (v := v) (w := u) (n := k) hvc (by rw [← hu]; exact hs.st s _) hkc (fun x hx => by rw [← hu]; exact vSt_ne v s _ x (by omega)) (fun i => by rw [← hu]; exact vSt_ne v s _ _ (by omega)) (by omega) (FM_q g3 hf) (WN_q g3 hr)
          rw [u4, ← egs, ← en] at hg3
          refine fx_wpL [40, 75] 30 ⟨ni_inx (n := 4) (m := 83) rfl (by decide) (by decide), pk_le (v 4) (v 4) (fun _ => ?_) (fun hc => by omega) (by rw [← u4]; exact (hvc 4 (by decide)).1)⟩
          refine ⟨_, _, hg3, b01_if (fun hgf => ?_) (fun hgt => ?_)⟩
          · have h2 := ih (s + 1) hi3 hl3 (some (vi (nI (v 4)))) (by omega) (g3.tr f5) (g4.tr f6) hv3 hk3
            rw [hnx, if_neg (by rw [hgf]; decide), ← nI_1] at h2
            exact h2
          · have h2 := ih (s + 1) hi3 hl3 (some (vi (nI (v 4)))) (by omega) (g3.tr f5) (g4.tr f6) hv3 hk3
            rw [hnx, if_pos hgt, ← nI_1] at h2
            exact h2
        | succ t iht =>
          intro i hc hlc hi4 hnx g3 g4 hvc hkc
          have i6 : i < 6 := by omega
          refine fx_wpL [40, 75] 40 ⟨ni_inx (n := 4) (m := 83) rfl (by decide) (by decide), pk_le (v 4) i (fun hc => by omega) (fun _ => ?_) (by rw [← vSt_ne v s i 4 (by omega)]; exact (hvc 4 (by decide)).1)⟩
          refine ⟨_, _, m_isOf, bd_if (fun hb0 => ?_) (fun hb1 => ?_)⟩
          · rw [bit_of (by omega) (by omega)] at hb0
            have hb0 : s.testBit i = false := by simpa using hb0
            have h2 := iht (i + 1) hc hlc (by omega) hnx g3 g4 (by rw [vSt, hb0]; exact hvc) hkc
            rw [← nI_1] at h2
            exact h2
          · rw [bit_of (by omega) (by omega)] at hb1
            have i13 := ri_1 i
            refine ⟨ni_inx (n := 13 + 4 * i) (m := 83) i13 (by omega) (by decide), ?_⟩
            have h2 := iht (i + 1) (fx_up hc 59 0 (13 + 4 * i) (nI 9)) hlc (by omega) hnx (g3.tr (FrQ.up hc _ (Or.inl rfl))) g4 (by rw [vSt, hb1]; exact hvc.put (by decide)) hkc
            rw [← nI_1] at h2
            conv at h2 => rw [show fx_up hc 59 0 (13 + 4 * i) = fx_up hc 59 0 (12 + 4 * nI i + 1 : Int32).toNatClampNeg by rw [ni_cl i13 (by omega)]]
            exact h2
      refine fx_wpL [40, 75] 40 ⟨ni_inx (n := 4) (m := 83) rfl (by decide) (by decide), pk_le N s (fun hc => by omega) (fun _ => ?_) (ebr hb hvb)⟩
      refine oI_lt (fun i hi0 => by have := hbe s i (by omega) hi0; omega) (fun hn0 => ?_) (fun b hb0 => ?_)
      · exact inner (v 4) 0 hb hlb (by omega) (by rw [vBe, hn0]) g1 g2 hvb hkb
      · have b64 := hbe s b (by omega) hb0
        have p1 := pc_le 6 (by decide) s (by omega)
        have p2 := pc_le 6 (by decide) b (by omega)
        have hbb := m_bits (d := d + 7) (h := hp σ hb hlb) (show b < 2 ^ 31 by omega)
        rw [show nI b = oI (vBe (vGs rl v k) s) by rw [hb0]; rfl] at hbb
        refine ⟨_, _, m_bits (show s < 2 ^ 31 by omega), _, _, hbb, pk_lt (vPc s) (vPc b) (fun hlt => ?_) (fun hge => ?_)⟩
        · refine inner (v 4) 0 hb hlb (by omega) ?_ g1 g2 hvb hkb
          rw [vBe, hb0]
          by_cases hG : vGs rl v k s = true
          · simp [hG, hlt]
          · simp [hG]
        · have h2 := ih (s + 1) hb hlb l5 (by omega) g1 g2 hvb hkb
          rw [show vBe (vGs rl v k) (s + 1) = vBe (vGs rl v k) s by
            rw [vBe, hb0]
            exact if_neg (by omega), ← nI_1] at h2
          exact h2
  exact loop N 0 (fx_all hi 63 0 g) hl none (by omega) f1 (FlQ.rf hl) hv hk
end HQ
