/-! questions: open, close -/
abbrev fxC3 : Type := Nat × Int32 × Int32
def vSc (v : Nat → Nat) (st : fxC3) : Nat → fxC3
  | 0 => st
  | r + 1 => if vOut v r = false ∧ v 11 - v (12 + 4 * r) < (vSc v st r).1 then (v 11 - v (12 + 4 * r), nI r, nI (v 10)) else vSc v st r
def vCs (v : Nat → Nat) (st : fxC3) (o : Option Nat) : fxC3 := match o with
  | none => st
  | some i => if v 11 - v (12 + 4 * i) < st.1 then (v 11 - v (12 + 4 * i), nI i, nI (v 10)) else st
theorem vSc_eq {v : Nat → Nat} (hs : SB v) (st : fxC3) : ∀ n, n ≤ 6 → vSc v st n = vCs v st (vNear v n)
  | 0, _ => rfl
  | n + 1, h6 => by
    have ih := vSc_eq hs st n (by omega)
    have bn := (hs.2.2.2.2.2 n (by omega)).1
    unfold vSc vNear
    rw [ih]
    cases ho : vOut v n with
    | true => simp
    | false =>
      cases hl : vNear v n with
      | none => simp [vCs]
      | some l =>
        have bl := (hs.2.2.2.2.2 l (by have := (vNear_lt v n l hl).1; omega)).1
        simp only [vCs, true_and, Bool.false_eq_true, if_false]
        by_cases h1 : v (12 + 4 * l) < v (12 + 4 * n)
        · rw [if_pos h1]
          dsimp only
          by_cases h2 : v 11 - v (12 + 4 * l) < st.1
          · rw [if_pos h2, if_pos (by omega), if_pos (by omega)]
          · rw [if_neg h2]
        · rw [if_neg h1]
          dsimp only
          by_cases h2 : v 11 - v (12 + 4 * l) < st.1
          · rw [if_pos h2, if_neg (by omega)]
          · rw [if_neg h2, if_neg (by omega)]
def vCl (rl : Option fxRl) (v : Nat → Nat) : Nat → fxC3
  | 0 => (99999, -2, -2)
  | k + 1 => vCs (vIt rl k v) (vCl rl v k) (vNear (vIt rl k v) (v 4))
theorem vCs_le (v : Nat → Nat) (st : fxC3) (o : Option Nat) (h : st.1 ≤ 99999) : (vCs v st o).1 ≤ 99999 := by
  unfold vCs
  split
  · exact h
  · split
    · dsimp only
      omega
    · exact h
theorem vCl_le (rl : Option fxRl) (v : Nat → Nat) : ∀ k, (vCl rl v k).1 ≤ 99999
  | 0 => Nat.le_refl _
  | k + 1 => vCs_le _ _ _ (vCl_le rl v k)
theorem vSc_le (v : Nat → Nat) (st : fxC3) (h : st.1 ≤ 99999) : ∀ r, (vSc v st r).1 ≤ 99999
  | 0 => h
  | r + 1 => by
    have := vSc_le v st h r
    unfold vSc
    split
    · dsimp only
      omega
    · exact this
def aClose (rl : Option fxRl) (v : Nat → Nat) (n w : Int32) : Int32 := if v 0 = 1 ∧ (1 ≤ n ∧ n ≤ 100) ∧ (0 ≤ w ∧ w ≤ 2) then (if w = 0 then nI (vCl rl v (n.toNatClampNeg + 1)).1 else if w = 1 then (vCl rl v (n.toNatClampNeg + 1)).2.1 else (vCl rl v (n.toNatClampNeg + 1)).2.2) else -1
section A5
variable {d : Nat} {σ : fxS} {hi : fxI3} {hl : fxL3} {v : Nat → Nat} {rl : Option fxRl} {f : Option Nat}
theorem x_open (hn : NX σ hi hl v f rl) (hH : HV v) (r n w : Int32) : QX (d + 8) 115 [xO, vi r, vi n, vi w] σ hi hl (aOpen rl v r n w) := by
  obtain ⟨hv, hg, hs, n4, n5, n6, n7, n8, n9⟩ := id hn
  have h10 := hH.2
  have h4 := hs.1
  have h1 := hs.2.1
  refine QX_of fx_M115 [some xO, some (vi r), some (vi n), some (vi w), none, none, none, none] (by decide) rfl rfl (Nat.le_of_ble_eq_true rfl) (fx_wpE [55] 40 ?_)
  refine ⟨_, _, x_hasRider hv h4 r, bd_if (fun hc => QX.same (if_neg (fun z => hc z.1)).symm) (fun hc => ?_)⟩
  refine ⟨_, _, x_within n 1 60, bd_if (fun hc2 => QX.same (if_neg (fun z => hc2 z.2.1)).symm) (fun hc2 => ?_)⟩
  refine ⟨_, _, x_within w 0 1, bd_nf (fun hc3 => ?_) (fun hc3 => QX.same (if_neg (fun z => hc3 z.2.2)).symm)⟩
  obtain ⟨q, q4, q6, er, ec⟩ := isR_of hc h4
  obtain ⟨k, k1, k3, en, ek⟩ := rg_of (a := 1) (b := 60) hc2 (by decide) (by decide)
  obtain ⟨hi1, hl1, hg1, f1, f2, hv1⟩ := x_tryFromNow (d := d + 5) (σ := σ) hv h4
  obtain ⟨hi2, hl2, hg2, f3, f4⟩ := x_timesItOf (d := d) (q := q) (n := k) (e := k) (hn.fr f1 f2) hv1 hs hg q6 (by omega) (by omega)
  rw [← en, ← er, Nat.min_eq_left (vTm_le rl v q k)] at hg2
  refine ⟨_, _, hg1, _, _, hg2, ?_⟩
  generalize eA : aOpen rl v r n w = A
  have eA : A = if w = 0 then oI (vOp rl v q k (v 1)).1 else nI (vOp rl v q k (v 1)).2 := by
    rw [← eA]
    unfold aOpen
    rw [if_pos ⟨hc, hc2, hc3⟩, ek, ec]
  have loop : ∀ m i (hb : fxI3) (hlb : fxL3) l6, i + m = v 1 → FrY hi hb → FlY hl hlb → fx_E (fx_Ga (d + 7)) fx_M115 (55, [some xO, some (vi r), some (vi n), some (vi w), some (vi (oI (vOp rl v q k i).1)), some (vi (nI (vOp rl v q k i).2)), some (vi (nI i)), l6], [], hp σ hb hlb, 0, 0) (QXP σ hi hl A) := by
    intro m
    induction m with
    | zero =>
      intro i hb hlb l6 hk g1 g2
      have : i = v 1 := by omega
      subst this
      refine fx_wpL [55] 20 (pk_le (v 1) (v 1) (fun _ => ?_) (fun hc => by omega) (hv.y (by omega) g1 g2).1)
      refine ⟨fun (z : ¬ w = 0) => ⟨?_, hb, hlb, rfl, g1, g2⟩, fun (z : ¬ ¬ w = 0) => ⟨?_, hb, hlb, rfl, g1, g2⟩⟩
      · rw [eA, if_neg z]
      · rw [eA, if_pos (Classical.not_not.mp z)]
    | succ m ih =>
      intro i hb hlb l6 hk0 g1 g2
      have hsh := vOp_le rl v q k i
      have hvb := hv.y (by omega) g1 g2
      refine fx_wpL [55] 60 (pk_le (v 1) i (fun hc => by omega) (fun _ => ?_) hvb.1)
      refine ⟨_, _, x_isGate hvb hg (show i < 60 by omega), b01_nf (fun hgt => ?_) (fun hgt => ?_)⟩
      · have h2 := ih (i + 1) hb hlb l6 (by omega) g1 g2
        rw [show vOp rl v q k (i + 1) = vOp rl v q k i by rw [vOp, if_neg (by rw [hgt]; simp)], ← nI_1] at h2
        exact h2
      · obtain ⟨hi3, hl3, hg3, f5, f6, hv3⟩ := x_tryFromNow (d := d + 5) (σ := σ) hvb h4
        obtain ⟨htg, hvt⟩ := x_turnGate (d := d + 6) (σ := σ) hv3 h4 hg (show i < 60 by omega)
        refine ⟨_, _, hg3, _, _, htg, ?_⟩
        have F2 : FlY hl _ := (g2.tr f6).tr (FlY.up hl3 (j := 23) (s := 6) (lN (vG (vTg v i))) (by omega))
        obtain ⟨hi4, hl4, hg4, f7, f8⟩ := x_timesItOf (d := d) (q := q) (n := k) (e := k) (hn.fr (g1.tr f5) F2) hvt (hs.tg (by omega)) (hg.tg (by omega) h1) q6 (by omega) (by rw [vTg_ne (by omega) (by omega)]; omega)
        have hta := vTm_le rl (vTg v i) q k
        rw [← en, ← er, Nat.min_eq_left hta] at hg4
        refine ⟨_, _, hg4, ?_⟩
        refine pk_le (vTm rl (vTg v i) q k) (vOp rl v q k i).2 (fun hge => ?_) (fun hlt => ?_)
        · have h2 := ih (i + 1) hi4 hl4 (some (vi (nI (vTm rl (vTg v i) q k)))) (by omega) ((g1.tr f5).tr f7) (F2.tr f8)
          rw [show vOp rl v q k (i + 1) = vOp rl v q k i by rw [vOp, if_neg (by omega)], ← nI_1] at h2
          exact h2
        · have h2 := ih (i + 1) hi4 hl4 (some (vi (nI (vTm rl (vTg v i) q k)))) (by omega) ((g1.tr f5).tr f7) (F2.tr f8)
          rw [show vOp rl v q k (i + 1) = (some i, vTm rl (vTg v i) q k) by rw [vOp, if_pos ⟨hgt, by omega⟩], ← nI_1] at h2
          exact h2
  exact loop (v 1) 0 hi2 hl2 _ (by omega) (f1.tr f3) (f2.tr f4)
/-- one try of the reference: how often it is, and all laid back -/
theorem m_open (hn : NM hi v rl) (hH : HV v) (r n w : Int32) : QM (d + 8) 236 [mO, vi r, vi n, vi w] σ hi hl v (aOpen rl v r n w) := by
  obtain ⟨hv, hs, hf, hr⟩ := hn
  have h10 := hH.2
  have h4 := hs.1
  have h1 := hs.2.1
  refine QM_of fx_M236 [some mO, some (vi r), some (vi n), some (vi w), none, none, none, none, none] (by decide) rfl rfl (Nat.le_of_ble_eq_true rfl) (fx_wpE [53] 40 ?_)
  refine ⟨_, _, m_isRider hv r, bd_if (fun hc => QM.same hv (if_neg (fun z => hc z.1)).symm) (fun hc => ?_)⟩
  refine ⟨_, _, m_inN n 1 60 rfl rfl, bd_if (fun hc2 => QM.same hv (if_neg (fun z => hc2 z.2.1)).symm) (fun hc2 => ?_)⟩
  refine ⟨_, _, m_inN w 0 1 rfl rfl, bd_nf (fun hc3 => ?_) (fun hc3 => QM.same hv (if_neg (fun z => hc3 z.2.2)).symm)⟩
  obtain ⟨q, q4, q6, er, ec⟩ := isR_of hc h4
  obtain ⟨k, k1, k3, en, ek⟩ := rg_of (a := 1) (b := 60) hc2 (by decide) (by decide)
  obtain ⟨g, hg1, hk⟩ := m_keeps (d := d + 6) (σ := σ) (hl := hl) hv
  have f1 : FrQ hi (fx_all hi 63 0 g) := FrQ.all hi g (fun s => by unfold scr; omega)
  have hv1 : PM (fx_all hi 63 0 g) v := hv
  have hw0 := m_wasOf (d := d + 6) (σ := σ) (hl := hl) hv1 q6
  rw [← er] at hw0
  refine ⟨_, _, hg1, _, _, hw0, ?_⟩
  generalize eA : aOpen rl v r n w = A
  have eA : A = if w = 0 then oI (vOp rl v q k (v 1)).1 else nI (vOp rl v q k (v 1)).2 := by
    rw [← eA]
    unfold aOpen
    rw [if_pos ⟨hc, hc2, hc3⟩, ek, ec]
  -- a try from u, which differs from v in gates only
  have try1 : ∀ (hb : fxI3) (hlb : fxL3) (u : Nat → Nat), FrQ hi hb → FlQ hl hlb → PM hb u → SB u → (∀ x, x < 36 ∨ 38 ≤ x → u x = v x) → KP hb v → ∃ hi2 hl2 g3, fx_Ga (d + 7) 207 [mO, vi n] (hp σ hb hlb) none (hp σ hi2 hl2) ∧ fx_Ga (d + 7) 191 [mO, vi r] (hp σ hi2 hl2) (some (vi (nI (v (15 + 4 * q) + vTm rl u q k)))) (hp σ hi2 hl2) ∧ fx_Ga (d + 7) 217 [mO] (hp σ hi2 hl2) none (hp σ (fx_all hi2 59 0 g3) hl2) ∧ FrQ hi (fx_all hi2 59 0 g3) ∧ FlQ hl hl2 ∧ PM (fx_all hi2 59 0 g3) v ∧ KP (fx_all hi2 59 0 g3) v := by
    intro hb hlb u g1 g2 hub hsu hu hkb
    obtain ⟨hi2, hl2, hg2, f3, f4, hv2⟩ := m_passesAll (d := d) (σ := σ) (hl := hlb) (n := k) (rl := rl) hub hsu (by rw [hu 10 (by omega)]; omega) (FM_q g1 hf) (WN_q g1 hr)
    rw [← en] at hg2
    have hw2 := m_wasOf (d := d + 6) (σ := σ) (hl := hl2) hv2 q6
    rw [vIt_was, hu (15 + 4 * q) (by omega), ← er] at hw2
    have hk2 := hkb.fr f3
    obtain ⟨g3, hg3, hv3⟩ := m_laysBack (d := d + 6) (σ := σ) (hl := hl2) hv2 hk2 (fun x hx => (it_same rl (by rw [hu 4 (by omega)]; exact h4) k x hx).trans (hu x (by omega)))
    exact ⟨hi2, hl2, g3, hg2, hw2, hg3, g1.tr (f3.q.tr (FrQ.all (k := 59) (j := 0) hi2 g3 (fun s => Or.inl rfl))), g2.tr f4.q, hv3, hk2⟩
  have esub : ∀ u : Nat → Nat, nI (v (15 + 4 * q) + vTm rl u q k) - nI (v (15 + 4 * q)) = nI (vTm rl u q k) := fun u => by rw [pk_sub (Nat.le_add_right _ _), Nat.add_sub_cancel_left]
  have loop : ∀ m i (hb : fxI3) (hlb : fxL3) l8, i + m = v 1 → FrQ hi hb → FlQ hl hlb → PM hb v → KP hb v → fx_E (fx_Ga (d + 7)) fx_M236 (53, [some mO, some (vi r), some (vi n), some (vi w), some (vi (nI (v (15 + 4 * q)))), some (vi (oI (vOp rl v q k i).1)), some (vi (nI (vOp rl v q k i).2)), some (vi (nI i)), l8], [], hp σ hb hlb, 0, 0) (QMP σ hi hl v A) := by
    intro m
    induction m with
    | zero =>
      intro i hb hlb l6 hk g1 g2 hvb _
      have : i = v 1 := by omega
      subst this
      refine fx_wpL [53] 20 ⟨ni_inx (n := 1) (m := 83) rfl (by decide) (by decide), pk_le (v 1) (v 1) (fun _ => ?_) (fun hc => by omega) (hvb 1 (by decide)).1⟩
      refine ⟨fun (z : ¬ w = 0) => ⟨?_, hb, hlb, rfl, g1, g2, hvb⟩, fun (z : ¬ ¬ w = 0) => ⟨?_, hb, hlb, rfl, g1, g2, hvb⟩⟩
      · rw [eA, if_neg z]
      · rw [eA, if_pos (Classical.not_not.mp z)]
    | succ m ih =>
      intro i hb hlb l6 hk0 g1 g2 hvb hkb
      have hsh := vOp_le rl v q k i
      refine fx_wpL [53] 80 ⟨ni_inx (n := 1) (m := 83) rfl (by decide) (by decide), pk_le (v 1) i (fun hc => by omega) (fun _ => ?_) (hvb 1 (by decide)).1⟩
      refine ⟨fun (z : nI i < 0) => absurd z (nI_pos (by omega)), fun _ => ?_⟩
      refine ⟨_, _, m_isGate hvb (show i < 60 by omega), b01_if (fun hgt => ?_) (fun hgt => ?_)⟩
      · refine ⟨fun (z : nI i < 0) => absurd z (nI_pos (by omega)), fun _ => ?_⟩
        obtain ⟨hcg, hvg⟩ := m_changesGate (d := d + 6) (σ := σ) (hl := hlb) hvb (show i < 60 by omega)
        refine ⟨_, _, hcg, ?_⟩
        have fq : FrQ hb _ := FrQ.up hb (k := 59) (j := 0) (s := 36 + i / 30) (nI (v (36 + i / 30) ^^^ 2 ^ (i % 30))) (Or.inl rfl)
        obtain ⟨hi2, hl2, g3, t1, t2, t3, F1, F2, hv3, hk3⟩ := try1 _ hlb (vTg v i) (g1.tr fq) g2 hvg (hs.tg (by omega)) (fun x hx => vTg_ne (by omega) hx) hkb
        refine ⟨_, _, t1, _, _, t2, _, _, t3, ?_⟩
        have hta := vTm_le rl (vTg v i) q k
        refine pk_lt (vOp rl v q k i).2 (vTm rl (vTg v i) q k) (fun hlt => ?_) (fun hge => ?_) rfl (esub _)
        · have h2 := ih (i + 1) _ hl2 (some (vi (nI (vTm rl (vTg v i) q k)))) (by omega) F1 F2 hv3 hk3
          rw [show vOp rl v q k (i + 1) = (some i, vTm rl (vTg v i) q k) by rw [vOp, if_pos ⟨hgt, hlt⟩], ← nI_1, ← esub (vTg v i)] at h2
          exact h2
        · have h2 := ih (i + 1) _ hl2 (some (vi (nI (vTm rl (vTg v i) q k)))) (by omega) F1 F2 hv3 hk3
          rw [show vOp rl v q k (i + 1) = vOp rl v q k i by rw [vOp, if_neg (by omega)], ← nI_1, ← esub (vTg v i)] at h2
          exact h2
      · have h2 := ih (i + 1) hb hlb l6 (by omega) g1 g2 hvb hkb
        rw [show vOp rl v q k (i + 1) = vOp rl v q k i by rw [vOp, if_neg (by rw [hgt]; simp)], ← nI_1] at h2
        exact h2
  -- the first time no gate changes
  have first : ∀ a5 a6 a7 : Int32, a6 = -1 → a7 = -1 → fx_E (fx_Ga (d + 7)) fx_M236 (53, [some mO, some (vi r), some (vi n), some (vi w), some (vi (nI (v (15 + 4 * q)))), some (vi a5), some (vi a6), some (vi a7), none], [], hp σ (fx_all hi 63 0 g) hl, 0, 0) (QMP σ hi hl v A) := by
    intro a5 a6 a7 e6 e7
    refine fx_wpL [53] 80 ⟨ni_inx (n := 1) (m := 83) rfl (by decide) (by decide), fun (z : hi 59 0 1 ≤ a7) => absurd z ?_, fun _ => ?_⟩
    · rw [(hv 1 (by decide)).1, e7]
      exact fun z => absurd (Int32.le_trans (nI_pos' (show v 1 < 2 ^ 31 by omega)) z) (by decide)
    · refine ⟨fun _ => ?_, fun (z : ¬ a7 < 0) => absurd (show a7 < 0 by rw [e7]; decide) z⟩
      refine ⟨fun _ => ?_, fun (z : ¬ a7 < 0) => absurd (show a7 < 0 by rw [e7]; decide) z⟩
      obtain ⟨hi2, hl2, g3, t1, t2, t3, F1, F2, hv3, hk3⟩ := try1 _ hl v f1 (FlQ.rf hl) hv1 hs (fun _ _ => rfl) hk
      refine ⟨_, _, t1, _, _, t2, _, _, t3, ?_⟩
      have hta := vTm_le rl v q k
      refine ⟨fun _ => ?_, fun (z : ¬ a6 < nI (v (15 + 4 * q) + vTm rl v q k) - nI (v (15 + 4 * q))) => absurd ?_ z⟩
      · have h2 : ∀ x5 x6 x7 x8 : Int32, x5 = oI none → x6 = nI (vTm rl v q k) → x7 = nI 0 → fx_E (fx_Ga (d + 7)) fx_M236 (53, [some mO, some (vi r), some (vi n), some (vi w), some (vi (nI (v (15 + 4 * q)))), some (vi x5), some (vi x6), some (vi x7), some (vi x8)], [], hp σ (fx_all hi2 59 0 g3) hl2, 0, 0) (QMP σ hi hl v A) := by
          intro x5 x6 x7 x8 e5 e6 e7
          rw [e5, e6, e7]
          exact loop (v 1) 0 _ hl2 _ (by omega) F1 F2 hv3 hk3
        refine h2 a7 _ (a7 + 1) _ e7 (esub v) ?_
        rw [e7]
        decide
      · rw [esub, e6]
        exact Int32.lt_of_lt_of_le (show (-1 : Int32) < 0 by decide) (nI_pos' (by omega))
  exact first _ _ _ rfl rfl
end A5
