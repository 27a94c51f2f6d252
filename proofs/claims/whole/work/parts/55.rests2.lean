/-! rests: the reference -/
section RM
variable {d : Nat} {σ : fxS} {hi : fxI3} {hl : fxL3} {v : Nat → Nat} {rl : Option fxRl} {f : Option Nat}
theorem m_isRest {G1 G2 : Nat → Int32} (h1 : ∀ i, i < 25 → hi 64 0 (2 * i) = G1 i ∧ hi 64 0 (2 * i + 1) = G2 i) {a b : Nat} (ha : a < 5) (hb : b < 5) : fx_Ga (d + 1) 234 [mO, vi (nI a), vi (nI b)] (hp σ hi hl) (some (vi (b01 (vRt G1 G2 a b 5 0)))) (hp σ hi hl) := by
  refine fx_meth fx_M234 [some mO, some (vi (nI a)), some (vi (nI b)), none] (by decide) rfl rfl (Nat.le_of_ble_eq_true rfl) ?_
  have ix : ∀ x y : Nat, (2 * (5 * nI x + nI y) : Int32) = nI (2 * (5 * x + y)) := fun x y => by
    show nI 2 * (nI 5 * nI x + nI y) = _
    rw [pk_mul, nI_add, pk_mul]
  have iy : ∀ x y : Nat, (2 * (5 * nI x + nI y) + 1 : Int32) = nI (2 * (5 * x + y) + 1) := fun x y => by
    rw [ix, nI_1]
  have eh1 : hi 64 0 (2 * (5 * nI a + nI b) : Int32).toNatClampNeg = G1 (5 * a + b) := by rw [ni_cl (ix a b) (by omega)]; exact (h1 _ (by omega)).1
  have eh2 : hi 64 0 (2 * (5 * nI a + nI b) + 1 : Int32).toNatClampNeg = G2 (5 * a + b) := by rw [ni_cl (iy a b) (by omega)]; exact (h1 _ (by omega)).2
  have bh := ni_inx (n := 2 * (5 * a + b)) (m := 50) (ix a b) (by omega) (by decide)
  have bh2 := ni_inx (n := 2 * (5 * a + b) + 1) (m := 50) (iy a b) (by omega) (by decide)
  have loop : ∀ t k, k + t = 5 → fx_E (fx_Ga d) fx_M234 (2, [some mO, some (vi (nI a)), some (vi (nI b)), some (vi (nI k))], [], hp σ hi hl, 0, 0) (fun r2 h2 => r2 = some (vi (b01 (vRt G1 G2 a b t k))) ∧ h2 = hp σ hi hl) := by
    intro t
    induction t with
    | zero =>
      intro k hk
      have : k = 5 := by omega
      subst this
      exact fx_wpL [2] 20 (pk_le 5 5 (fun _ => ⟨Or.inr rfl, rfl, rfl⟩) (fun hc => by omega))
    | succ t ih =>
      intro k hk
      have h2 := ih (k + 1) (by omega)
      rw [← nI_1] at h2
      have ek : hi 64 0 (2 * (5 * nI k + nI b) : Int32).toNatClampNeg = G1 (5 * k + b) := by rw [ni_cl (ix k b) (by omega)]; exact (h1 _ (by omega)).1
      have ek2 : hi 64 0 (2 * (5 * nI a + nI k) + 1 : Int32).toNatClampNeg = G2 (5 * a + k) := by rw [ni_cl (iy a k) (by omega)]; exact (h1 _ (by omega)).2
      refine fx_wpL [2] 60 (pk_le 5 k (fun hc => by omega) (fun _ => ?_))
      refine ⟨ni_inx (n := 2 * (5 * k + b)) (m := 50) (ix k b) (by omega) (by decide), bh, ilt eh1 ek (fun hgt => ⟨Or.inl rfl, ?_, rfl⟩) (fun hle => ?_)⟩
      · rw [vRt, if_pos (by unfold vBad; rw [decide_eq_true hgt, Bool.true_or])]
        rfl
      · refine ⟨ni_inx (n := 2 * (5 * a + k) + 1) (m := 50) (iy a k) (by omega) (by decide), bh2, ile ek2 eh2 (fun hle2 => ?_) (fun hgt => ⟨Or.inl rfl, ?_, rfl⟩)⟩
        · rw [vRt, if_neg (by unfold vBad; rw [decide_eq_false hle, decide_eq_false (Int32.not_lt.mpr hle2)]; decide)]
          exact h2
        · rw [vRt, if_pos (by unfold vBad; rw [decide_eq_true (Int32.not_le.mp hgt), Bool.or_true])]
          rfl
  exact fx_wpE [2] 9 (loop 5 0 rfl)
theorem tI_m (n : Nat) : nI n + (-1) = tI n := by
  cases n with
  | zero => rfl
  | succ n => exact pk_m1 n
theorem m_rests (hn : NM hi v rl) (hH : HV v) (a b n w : Int32) : QM (d + 8) 235 [mO, vi a, vi b, vi n, vi w] σ hi hl v (aRests rl v a b n w) := by
  obtain ⟨hv, hs, hf, hr⟩ := hn
  have h10 := hH.2
  have h4 := hs.1
  refine QM_of fx_M235 [some mO, some (vi a), some (vi b), some (vi n), some (vi w), none, none, none, none, none] (by decide) rfl rfl (Nat.le_of_ble_eq_true rfl) (fx_wpE [55] 60 ?_)
  refine ⟨_, _, m_isRider hv a, bd_if (fun hc => QM.same hv (if_neg (fun z => hc z.1.1)).symm) (fun hca => ?_)⟩
  refine ⟨_, _, m_isRider hv b, bd_if (fun hc => QM.same hv (if_neg (fun z => hc z.1.2.1)).symm) (fun hcb => ?_)⟩
  refine ⟨fun (hc : a = b) => QM.same hv (if_neg (fun z => z.1.2.2 hc)).symm, fun (hcn : ¬ a = b) => ?_⟩
  have hc : isR v a ∧ isR v b ∧ ¬ a = b := ⟨hca, hcb, hcn⟩
  refine ⟨_, _, m_inN n 1 20 rfl rfl, bd_if (fun hc2 => QM.same hv (if_neg (fun z => hc2 z.2.1)).symm) (fun hc2 => ?_)⟩
  refine ⟨_, _, m_inN w 0 2 rfl rfl, bd_nf (fun hc3 => ?_) (fun hc3 => QM.same hv (if_neg (fun z => hc3 z.2.2)).symm)⟩
  obtain ⟨k, k1, k3, en, ek⟩ := rg_of (a := 1) (b := 20) hc2 (by decide) (by decide)
  obtain ⟨i, i4, i6, ea, ec⟩ := isR_of hca h4
  obtain ⟨j, j4, j6, eb, ed⟩ := isR_of hcb h4
  have hij : i ≠ j := fun z => hcn (by rw [ea, eb, z])
  obtain ⟨g, hg1, hk⟩ := m_keeps (d := d + 6) (σ := σ) (hl := hl) hv
  have f1 : FrQ hi (fx_all hi 63 0 g) := FrQ.all hi g (fun s => by unfold scr; omega)
  refine ⟨_, _, hg1, ?_⟩
  generalize eA0 : aRests rl v a b n w = A
  have eA : A = if w = 0 then nI (vCu (vRr (gOne rl v i j k) (gOth rl v i j k)) 25 0) else rA w (vFst (vRr (gOne rl v i j k) (gOth rl v i j k)) 25 0) := by
    rw [← eA0]
    unfold aRests
    rw [if_pos ⟨hc, hc2, hc3⟩, ek, ec, ed]
  subst ea
  subst eb
  subst en
  -- counting
  have loopB : ∀ t (hb : fxI3) (hlb : fxL3) l8 l9, t ≤ 25 → FrQ hi hb → FlQ hl hlb → PM hb v → (∀ q, q < 25 → hb 64 0 (2 * q) = gOne rl v i j k q ∧ hb 64 0 (2 * q + 1) = gOth rl v i j k q) → fx_E (fx_Ga (d + 7)) fx_M235 (201, [some mO, some (vi (nI i)), some (vi (nI j)), some (vi (nI k)), some (vi w), some (vi (nI (vCu (vRr (gOne rl v i j k) (gOth rl v i j k)) (25 - t) t))), some (vi (oI (vFst (vRr (gOne rl v i j k) (gOth rl v i j k)) (25 - t) t))), some (vi (tI t)), l8, l9], [], hp σ hb hlb, 0, 0) (QMP σ hi hl v A) := by
    generalize gOne rl v i j k = G1 at eA
    generalize gOth rl v i j k = G2 at eA
    generalize hR : vRr G1 G2 = R at eA
    intro t
    induction t with
    | zero =>
      intro hb hlb l8 l9 _ g1 g2 hvb hG
      show fx_E _ _ (201, [_, _, _, _, _, some (vi (nI (vCu R 25 0))), some (vi (oI (vFst R 25 0))), some (vi (tI 0)), l8, l9], _, _, _, _) _
      have hlt := fun z hz => vFst_lt R 25 0 z hz
      generalize vCu R 25 0 = c at eA
      generalize vFst R 25 0 = o at eA hlt
      refine fx_wpL [201] 40 ⟨fun _ => ?_, fun (z : ¬ tI 0 < 0) => absurd (show tI 0 < 0 by decide) z⟩
      refine ⟨fun (z : ¬ w = 0) => ?_, fun (z : ¬ ¬ w = 0) => ⟨by rw [eA, if_pos (Classical.not_not.mp z)], hb, hlb, rfl, g1, g2, hvb⟩⟩
      rw [if_neg z] at eA
      refine oI_ge (fun z hz => by have := hlt z hz; omega) (fun x hx => ?_) (fun h0 => ⟨by rw [eA, h0]; rfl, hb, hlb, rfl, g1, g2, hvb⟩)
      subst hx
      have x25 := hlt x rfl
      have edv : (1 + 2 * (nI x / 5) : Int32) = nI (2 * (x / 5) + 1) := by
        show nI 1 + nI 2 * (nI x / nI 5) = _
        rw [pk_div (by omega) (by decide) (by decide), pk_mul, nI_add, Nat.add_comm]
      have erm : (1 + 2 * (nI x - nI x / 5 * 5) : Int32) = nI (2 * (x % 5) + 1) := by
        show nI 1 + nI 2 * (nI x - nI x / nI 5 * nI 5) = _
        rw [pk_rem (by omega) (by decide) (by decide), pk_mul, nI_add, Nat.add_comm]
      have eA : A = if w = 1 then nI (2 * (x / 5) + 1) else nI (2 * (x % 5) + 1) := eA
      exact ⟨fun (y : ¬ w = 1) => ⟨by decide, by rw [eA, if_neg y, ← erm]; rfl, hb, hlb, rfl, g1, g2, hvb⟩, fun (y : ¬ ¬ w = 1) => ⟨by decide, by rw [eA, if_pos (Classical.not_not.mp y), ← edv]; rfl, hb, hlb, rfl, g1, g2, hvb⟩⟩
    | succ t ih =>
      intro hb hlb l8 l9 ht g1 g2 hvb hG
      have h2 := ih hb hlb l8 l9 (by omega) g1 g2 hvb hG
      rw [show 25 - t = 25 - (t + 1) + 1 by omega, vCu] at h2
      have edv : (nI t / 5 : Int32) = nI (t / 5) := pk_div (d := 5) (by omega) (by decide) (by decide)
      have erm : (nI t - nI t / 5 * 5 : Int32) = nI (t % 5) := pk_rem (d := 5) (by omega) (by decide) (by decide)
      have hir := m_isRest (d := d + 6) (σ := σ) (hl := hlb) hG (show t / 5 < 5 by omega) (Nat.mod_lt t (show 0 < 5 by decide))
      rw [← edv, ← erm, show vRt G1 G2 (t / 5) (t % 5) 5 0 = R t by rw [← hR]; rfl] at hir
      refine fx_wpL [201] 40 ⟨fun (z : nI t < 0) => absurd z (nI_pos (by omega)), fun _ => ?_⟩
      refine ⟨by decide, by decide, _, _, hir, b01_nf (fun h1 => ?_) (fun h0 => ?_)⟩
      · rw [if_pos h1, vFst_t h1, ← tI_m, Nat.add_comm 1, ← nI_1] at h2
        exact h2
      · rw [if_neg (by rw [h0]; decide), vFst_f h0, ← tI_m, Nat.zero_add] at h2
        exact h2
  have loop : ∀ t q (hb : fxI3) (hlb : fxL3) l6 l7 l8 l9, q + t = 25 → FrQ hi hb → FlQ hl hlb → PM hb v → KP hb v → (∀ x, x < q → hb 64 0 (2 * x) = gOne rl v i j k x ∧ hb 64 0 (2 * x + 1) = gOth rl v i j k x) → fx_E (fx_Ga (d + 7)) fx_M235 (55, [some mO, some (vi (nI i)), some (vi (nI j)), some (vi (nI k)), some (vi w), some (vi (nI q)), l6, l7, l8, l9], [], hp σ hb hlb, 0, 0) (QMP σ hi hl v A) := by
    intro t
    induction t with
    | zero =>
      intro q hb hlb l6 l7 l8 l9 hq g1 g2 hvb hkb hG
      have : q = 25 := by omega
      subst this
      exact fx_wpL [55, 201] 20 (pk_le 25 25 (fun _ => loopB 25 hb hlb l8 l9 (Nat.le_refl _) g1 g2 hvb hG) (fun hc => by omega))
    | succ t ih =>
      intro q hb hlb l6 l7 l8 l9 hq g1 g2 hvb hkb hG
      have edv : (1 + 2 * (nI q / 5) : Int32) = nI (2 * (q / 5) + 1) := by
        show nI 1 + nI 2 * (nI q / nI 5) = _
        rw [pk_div (by omega) (by decide) (by decide), pk_mul, nI_add, Nat.add_comm]
      have erm : (1 + 2 * (nI q - nI q / 5 * 5) : Int32) = nI (2 * (q % 5) + 1) := by
        show nI 1 + nI 2 * (nI q - nI q / nI 5 * nI 5) = _
        rw [pk_rem (by omega) (by decide) (by decide), pk_mul, nI_add, Nat.add_comm]
      have m5 := Nat.mod_lt q (show 0 < 5 by decide)
      have e2 : ∀ x : Nat, x < 5 → (nI (2 * x + 1) / 2 : Int32) = nI x := fun x hx => by
        show nI (2 * x + 1) / nI 2 = _
        rw [pk_div (by omega) (by decide) (by decide)]
        congr 1
        omega
      have sne := fun {x : Nat} (hx : x < 12 ∨ 36 ≤ x ∨ x % 4 ≠ 1) => vRs_ne v q i6 j6 hx
      have hvu : PM (fx_up (fx_up hb 59 0 (13 + 4 * i) (nI (2 * (q / 5) + 1))) 59 0 (13 + 4 * j) (nI (2 * (q % 5) + 1))) (vRs v i j q) := (hvb.put (by omega)).put (by omega)
      have hsu : SB (vRs v i j q) := (hs.pace (i := i) (p := 2 * (q / 5) + 1) (by omega)).pace (i := j) (p := 2 * (q % 5) + 1) (by omega)
      have F0 : FrQ hb (fx_up (fx_up hb 59 0 (13 + 4 * i) (nI (2 * (q / 5) + 1))) 59 0 (13 + 4 * j) (nI (2 * (q % 5) + 1))) := (FrQ.up hb _ (Or.inl rfl)).tr (FrQ.up _ _ (Or.inl rfl))
      have hku : KP (fx_up (fx_up hb 59 0 (13 + 4 * i) (nI (2 * (q / 5) + 1))) 59 0 (13 + 4 * j) (nI (2 * (q % 5) + 1))) v := hkb
      have h64 : ∀ x, fx_up (fx_up hb 59 0 (13 + 4 * i) (nI (2 * (q / 5) + 1))) 59 0 (13 + 4 * j) (nI (2 * (q % 5) + 1)) 64 0 x = hb 64 0 x := fun x => rfl
      have eraw : fx_up (fx_up hb 59 0 (13 + 4 * i) (nI (2 * (q / 5) + 1))) 59 0 (13 + 4 * j) (nI (2 * (q % 5) + 1)) = fx_up (fx_up hb 59 0 (12 + 4 * nI i + 1 : Int32).toNatClampNeg (1 + 2 * (nI q / 5))) 59 0 (12 + 4 * nI j + 1 : Int32).toNatClampNeg (1 + 2 * (nI q - nI q / 5 * 5)) := by rw [edv, erm, ni_cl (ri_1 i) (by omega), ni_cl (ri_1 j) (by omega)]
      obtain ⟨hi2, hl2, hg2, f3, f4, hv2⟩ := m_passesAll (d := d) (σ := σ) (hl := hlb) (n := k) (rl := rl) hvu hsu (by rw [sne (by omega)]; omega) (FM_q (g1.tr F0) hf) (WN_q (g1.tr F0) hr)
      have hk2 := hku.fr f3
      have x64 : ∀ x, hi2 64 0 x = hb 64 0 x := fun x => (f3 64 0 x (by decide) (by decide) (by simp)).trans (h64 x)
      have G1 := (g1.tr F0).tr f3.q
      rw [eraw] at hg2
      have w1 := m_wasOf (d := d + 6) (σ := σ) (hl := hl2) hv2 i6
      rw [vIt_was, sne (by omega)] at w1
      let hc1 := fx_up hi2 64 0 (2 * q) (gOne rl v i j k q)
      have hvc1 : PM hc1 (vIt rl k (vRs v i j q)) := hv2
      have w2 := m_wasOf (d := d + 6) (σ := σ) (hl := hl2) hvc1 j6
      rw [vIt_was, sne (by omega)] at w2
      let hc2 := fx_up hc1 64 0 (2 * q + 1) (gOth rl v i j k q)
      have hvc2 : PM hc2 (vIt rl k (vRs v i j q)) := hv2
      have hkc2 : KP hc2 v := hk2
      obtain ⟨g5, hg5, hv5⟩ := m_laysBack (d := d + 6) (σ := σ) (hl := hl2) hvc2 hkc2 (fun x hx => (it_same rl hsu.1 k x hx).trans (sne (by omega)))
      have i2 : (2 * nI q : Int32) = nI (2 * q) := by
        show nI 2 * nI q = _
        rw [pk_mul]
      have i3 : (2 * nI q + 1 : Int32) = nI (2 * q + 1) := by rw [i2, nI_1]
      have E1 : (5 * (nI (v (15 + 4 * i)) - nI (v (15 + 4 * i) + vTm rl (vRs v i j q) i k)) - (1 + 2 * (nI q / 5)) / 2 : Int32) = gOne rl v i j k q := by
        rw [edv, e2 _ (by omega), gI_m]
        rfl
      have E2 : (5 * (nI (v (15 + 4 * j)) - nI (v (15 + 4 * j) + vTm rl (vRs v i j q) j k)) - (1 + 2 * (nI q - nI q / 5 * 5)) / 2 : Int32) = gOth rl v i j k q := by
        rw [erm, e2 _ m5, gI_m]
        rfl
      have ec1 : hc1 = fx_up hi2 64 0 (2 * nI q : Int32).toNatClampNeg (5 * (nI (v (15 + 4 * i)) - nI (v (15 + 4 * i) + vTm rl (vRs v i j q) i k)) - (1 + 2 * (nI q / 5)) / 2) := by rw [E1, ni_cl i2 (by omega)]
      have ec2 : hc2 = fx_up hc1 64 0 (2 * nI q + 1 : Int32).toNatClampNeg (5 * (nI (v (15 + 4 * j)) - nI (v (15 + 4 * j) + vTm rl (vRs v i j q) j k)) - (1 + 2 * (nI q - nI q / 5 * 5)) / 2) := by rw [E2, ni_cl i3 (by omega)]
      have hG5 : ∀ x, x < q + 1 → fx_all hc2 59 0 g5 64 0 (2 * x) = gOne rl v i j k x ∧ fx_all hc2 59 0 g5 64 0 (2 * x + 1) = gOth rl v i j k x := fun x hx => by
        show fx_up (fx_up hi2 64 0 (2 * q) (gOne rl v i j k q)) 64 0 (2 * q + 1) (gOth rl v i j k q) 64 0 (2 * x) = _ ∧ fx_up (fx_up hi2 64 0 (2 * q) (gOne rl v i j k q)) 64 0 (2 * q + 1) (gOth rl v i j k q) 64 0 (2 * x + 1) = _
        by_cases e : x = q
        · subst e
          rw [up_off _ _ (by omega), up_at, up_at]
          exact ⟨rfl, rfl⟩
        · rw [up_off _ _ (by omega), up_off _ _ (by omega), up_off _ _ (by omega), up_off _ _ (by omega), x64, x64]
          exact hG x (by omega)
      have F5 : FrQ hi2 (fx_all hc2 59 0 g5) := ((FrQ.up hi2 (k := 64) (j := 0) (s := 2 * q) _ (by unfold scr; omega)).tr (FrQ.up _ (k := 64) (j := 0) (s := 2 * q + 1) _ (by unfold scr; omega))).tr (FrQ.all (k := 59) (j := 0) _ g5 (fun s => Or.inl rfl))
      have h2 := ih (q + 1) (fx_all hc2 59 0 g5) hl2 (some (vi (1 + 2 * (nI q / 5)))) (some (vi (1 + 2 * (nI q - nI q / 5 * 5)))) (some (vi (nI (v (15 + 4 * i))))) (some (vi (nI (v (15 + 4 * j))))) (by omega) (G1.tr F5) (g2.tr f4.q) hv5 hkc2 hG5
      rw [← nI_1] at h2
      rw [ec2, ec1] at hg5
      rw [ec1] at w2
      have wi := m_wasOf (d := d + 6) (σ := σ) (hl := hlb) hvb i6
      have wj := m_wasOf (d := d + 6) (σ := σ) (hl := hlb) hvb j6
      have b13i := ni_inx (n := 13 + 4 * i) (m := 83) (ri_1 i) (by omega) (by decide)
      have b13j := ni_inx (n := 13 + 4 * j) (m := 83) (ri_1 j) (by omega) (by decide)
      have b2 := ni_inx (n := 2 * q) (m := 50) i2 (by omega) (by decide)
      have b3 := ni_inx (n := 2 * q + 1) (m := 50) i3 (by omega) (by decide)
      have m2 : fx_E (fx_Ga (d + 7)) fx_M235 (155, [some mO, some (vi (nI i)), some (vi (nI j)), some (vi (nI k)), some (vi w), some (vi (nI q)), some (vi (1 + 2 * (nI q / 5))), some (vi (1 + 2 * (nI q - nI q / 5 * 5))), some (vi (nI (v (15 + 4 * i)))), some (vi (nI (v (15 + 4 * j))))], [], hp σ hc1 hl2, 0, 0) (QMP σ hi hl v A) := by
        rw [ec2] at h2
        rw [← ec1] at hg5 w2
        exact fx_wpE [55] 40 ⟨_, _, w2, by decide, b3, _, _, hg5, h2⟩
      rw [ec1] at m2
      have mid : fx_E (fx_Ga (d + 7)) fx_M235 (131, [some mO, some (vi (nI i)), some (vi (nI j)), some (vi (nI k)), some (vi w), some (vi (nI q)), some (vi (1 + 2 * (nI q / 5))), some (vi (1 + 2 * (nI q - nI q / 5 * 5))), some (vi (nI (v (15 + 4 * i)))), some (vi (nI (v (15 + 4 * j))))], [], hp σ hi2 hl2, 0, 0) (QMP σ hi hl v A) :=
        fx_wpE [155] 40 ⟨_, _, w1, by decide, b2, m2⟩
      refine fx_wpL [55, 131] 80 (pk_le 25 q (fun hc => by omega) (fun _ => ?_))
      exact ⟨by decide, by decide, _, _, wi, _, _, wj, b13i, b13j, _, _, hg2, mid⟩
  exact loop 25 0 (fx_all hi 63 0 g) hl none none none none rfl f1 (FlQ.rf hl) hv hk (fun x h => absurd h (by omega))
end RM
