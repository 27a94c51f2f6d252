/-! questions: shut, open -/
def vSh (rl : Option fxRl) (v : Nat → Nat) (n : Nat) : Nat → Option Nat × Nat
  | 0 => (none, vTa rl v n)
  | g + 1 => if vGate v g = true ∧ vTa rl (vTg v g) n < (vSh rl v n g).2 then (some g, vTa rl (vTg v g) n) else vSh rl v n g
def vOp (rl : Option fxRl) (v : Nat → Nat) (q n : Nat) : Nat → Option Nat × Nat
  | 0 => (none, vTm rl v q n)
  | g + 1 => if vGate v g = false ∧ (vOp rl v q n g).2 < vTm rl (vTg v g) q n then (some g, vTm rl (vTg v g) q n) else vOp rl v q n g
theorem vSh_le (rl : Option fxRl) (v : Nat → Nat) (n : Nat) : ∀ g, (vSh rl v n g).2 ≤ n
  | 0 => vTa_le rl v n
  | g + 1 => by
    unfold vSh
    split
    · exact vTa_le rl _ n
    · exact vSh_le rl v n g
theorem vOp_le (rl : Option fxRl) (v : Nat → Nat) (q n : Nat) : ∀ g, (vOp rl v q n g).2 ≤ n
  | 0 => vTm_le rl v q n
  | g + 1 => by
    unfold vOp
    split
    · exact vTm_le rl _ q n
    · exact vOp_le rl v q n g
def aShut (rl : Option fxRl) (v : Nat → Nat) (n w : Int32) : Int32 := if v 0 = 1 ∧ (1 ≤ n ∧ n ≤ 60) ∧ (0 ≤ w ∧ w ≤ 1) then (if w = 0 then oI (vSh rl v n.toNatClampNeg (v 1)).1 else nI (vSh rl v n.toNatClampNeg (v 1)).2) else -2
def aOpen (rl : Option fxRl) (v : Nat → Nat) (r n w : Int32) : Int32 := if isR v r ∧ (1 ≤ n ∧ n ≤ 60) ∧ (0 ≤ w ∧ w ≤ 1) then (if w = 0 then oI (vOp rl v r.toNatClampNeg n.toNatClampNeg (v 1)).1 else nI (vOp rl v r.toNatClampNeg n.toNatClampNeg (v 1)).2) else -2
theorem vTg_ne {v : Nat → Nat} {g x : Nat} (hg : g < 60) (hx : x < 36 ∨ 38 ≤ x) : vTg v g x = v x := by
  unfold vTg
  exact vup_ne (by omega)
theorem ln_xor (a b : Nat) : lN a ^^^ lN b = lN (a ^^^ b) := by
  apply wb_inj
  rw [Int64.toBitVec_xor, wb_tb, wb_tb, wb_tb]
  apply BitVec.eq_of_toNat_eq
  rw [BitVec.toNat_xor, BitVec.toNat_ofNat, BitVec.toNat_ofNat, BitVec.toNat_ofNat, Nat.xor_mod_two_pow]
section A4
variable {d : Nat} {σ : fxS} {hi : fxI3} {hl : fxL3} {v : Nat → Nat} {rl : Option fxRl} {f : Option Nat}
theorem x_turnGate {j : Nat} (hv : PX hi hl j v) (h4 : v 4 ≤ 6) (hg : GV v) {g : Nat} (hf : g < 60) : fx_Ga (d + 1) 12 [cO j, vi (nI g)] (hp σ hi hl) none (hp σ hi (fx_up hl 1 j 6 (lN (vG (vTg v g))))) ∧ PX hi (fx_up hl 1 j 6 (lN (vG (vTg v g)))) j (vTg v g) := by
  obtain ⟨p1, p2, p3, p4, p5, p6, p7, p8⟩ := hv
  refine ⟨fx_meth fx_M12 [some (cO j), some (vi (nI g))] (by decide) rfl rfl (Nat.le_of_ble_eq_true rfl) (fx_wpE [] 30 ⟨rfl, ?_⟩), ?_⟩
  · show hp σ hi (fx_up hl 1 j 6 (hl 1 j 6 ^^^ ((1 : Int64) <<< ((nI g).toInt64 &&& 63)))) = _
    rw [p7, wb_sh1 g hf, ln_xor, vG_tg hg hf]
  · have e : ∀ x, x < 36 ∨ 38 ≤ x → vTg v g x = v x := fun x hx => vTg_ne hf hx
    refine ⟨by rw [e 1 (by omega)]; exact p1, by rw [e 2 (by omega)]; exact p2, by rw [e 3 (by omega)]; exact p3, by rw [e 4 (by omega)]; exact p4, by rw [e 11 (by omega)]; exact p5, by rw [e 10 (by omega)]; exact p6, up_at _ _ _ _ _, fun i hi4 => ?_⟩
    rw [e 4 (by omega)] at hi4
    rw [e (12 + 4 * i) (by omega), e (13 + 4 * i) (by omega), e (14 + 4 * i) (by omega), e (15 + 4 * i) (by omega)]
    exact p8 i hi4
theorem m_itsIn {w : Nat → Nat} (hw : PM hi w) (hs : SB w) (hk : KP hi v) (hsm : ∀ x, x < 10 ∨ 38 ≤ x → w x = v x) {n : Nat} (h10 : w 10 + n ≤ 9999) (hf : FM hi rl) (hr : WM hi none) :
    ∃ hi' hl', fx_Ga (d + 8) 224 [mO, vi (nI n)] (hp σ hi hl) (some (vi (nI (vTa rl w n)))) (hp σ hi' hl') ∧ FrQ hi hi' ∧ FlQ hl hl' ∧ PM hi' v ∧ KP hi' v := by
  have h4 := hs.1
  obtain ⟨hi2, hl2, hg2, f3, f4, hv2⟩ := m_passesAll (d := d) (σ := σ) (hl := hl) (n := n) (rl := rl) hw hs h10 hf hr
  have hk2 := hk.fr f3
  obtain ⟨g3, hg3, hv3⟩ := m_laysBack (d := d + 6) (σ := σ) (hl := hl2) hv2 hk2 (fun x hx => (it_same rl h4 n x hx).trans (hsm x hx))
  have hwa := m_wasAll (d := d + 5) (σ := σ) (hl := hl2) hv2 (by rw [vIt_lo rl w (by decide)]; exact h4)
  rw [vIt_lo rl w (by decide), vIt_wasAll] at hwa
  have hk4 : KP (fx_all hi2 59 0 g3) v := hk2
  refine ⟨_, _, fx_meth fx_M224 [some mO, some (vi (nI n)), none, none] (by decide) rfl rfl (Nat.le_of_ble_eq_true rfl) (fx_wpE [] 40 ⟨_, _, m_wasAll (d := d + 5) hw h4, _, _, hg2, _, _, hwa, _, _, hg3, ?_, rfl⟩), f3.q.tr (FrQ.all (k := 59) (j := 0) hi2 g3 (fun s => Or.inl rfl)), f4.q, hv3, hk4⟩
  show some (vi (nI (vWas w (w 4) + vTa rl w n) - nI (vWas w (w 4)))) = _
  rw [pk_sub (Nat.le_add_right _ _), Nat.add_sub_cancel_left]
theorem m_shut (hn : NM hi v rl) (hH : HV v) (n w : Int32) : QM (d + 9) 225 [mO, vi n, vi w] σ hi hl v (aShut rl v n w) := by
  obtain ⟨hv, hs, hf, hr⟩ := hn
  have h10 := hH.2
  have h4 := hs.1
  have h1 := hs.2.1
  refine QM_of fx_M225 [some mO, some (vi n), some (vi w), none, none, none, none] (by decide) rfl rfl (Nat.le_of_ble_eq_true rfl) (fx_wpE [48] 40 ?_)
  refine ⟨_, _, m_isHunt hv, bd_if (fun hc => QM.same hv (if_neg (fun z => hc z.1)).symm) (fun hc => ?_)⟩
  refine ⟨_, _, m_inN n 1 60 rfl rfl, bd_if (fun hc2 => QM.same hv (if_neg (fun z => hc2 z.2.1)).symm) (fun hc2 => ?_)⟩
  refine ⟨_, _, m_inN w 0 1 rfl rfl, bd_nf (fun hc3 => ?_) (fun hc3 => QM.same hv (if_neg (fun z => hc3 z.2.2)).symm)⟩
  obtain ⟨k, k1, k3, en, ek⟩ := rg_of (a := 1) (b := 60) hc2 (by decide) (by decide)
  obtain ⟨g, hg1, hk⟩ := m_keeps (d := d + 7) (σ := σ) (hl := hl) hv
  have f1 : FrQ hi (fx_all hi 63 0 g) := FrQ.all hi g (fun s => by unfold scr; omega)
  obtain ⟨hi2, hl2, hg2, f3, f4, hv2, hk2⟩ := m_itsIn (d := d) (σ := σ) (hi := fx_all hi 63 0 g) (hl := hl) (rl := rl) hv hs hk (fun _ _ => rfl) (n := k) (by omega) (FM_q f1 hf) (WN_q f1 hr)
  rw [← en] at hg2
  refine ⟨_, _, hg1, _, _, hg2, ?_⟩
  generalize eA : aShut rl v n w = A
  have eA : A = if w = 0 then oI (vSh rl v k (v 1)).1 else nI (vSh rl v k (v 1)).2 := by
    rw [← eA]
    unfold aShut
    rw [if_pos ⟨hc, hc2, hc3⟩, ek]
  have loop : ∀ m i (hb : fxI3) (hlb : fxL3) l6, i + m = v 1 → FrQ hi hb → FlQ hl hlb → PM hb v → KP hb v → fx_E (fx_Ga (d + 8)) fx_M225 (48, [some mO, some (vi n), some (vi w), some (vi (oI (vSh rl v k i).1)), some (vi (nI (vSh rl v k i).2)), some (vi (nI i)), l6], [], hp σ hb hlb, 0, 0) (QMP σ hi hl v A) := by
    intro m
    induction m with
    | zero =>
      intro i hb hlb l6 hk g1 g2 hvb _
      have : i = v 1 := by omega
      subst this
      refine fx_wpL [48] 20 ⟨ni_inx (n := 1) (m := 83) rfl (by decide) (by decide), pk_le (v 1) (v 1) (fun _ => ?_) (fun hc => by omega) (hvb 1 (by decide)).1⟩
      refine ⟨fun (z : ¬ w = 0) => ⟨?_, hb, hlb, rfl, g1, g2, hvb⟩, fun (z : ¬ ¬ w = 0) => ⟨?_, hb, hlb, rfl, g1, g2, hvb⟩⟩
      · rw [eA, if_neg z]
      · rw [eA, if_pos (Classical.not_not.mp z)]
    | succ m ih =>
      intro i hb hlb l6 hk0 g1 g2 hvb hkb
      have hsh := vSh_le rl v k i
      refine fx_wpL [48] 60 ⟨ni_inx (n := 1) (m := 83) rfl (by decide) (by decide), pk_le (v 1) i (fun hc => by omega) (fun _ => ?_) (hvb 1 (by decide)).1⟩
      refine ⟨_, _, m_isGate hvb (show i < 60 by omega), b01_nf (fun hgt => ?_) (fun hgt => ?_)⟩
      · obtain ⟨hcg, hvg⟩ := m_changesGate (d := d + 7) (σ := σ) (hl := hlb) hvb (show i < 60 by omega)
        refine ⟨_, _, hcg, ?_⟩
        have fq : FrQ hb _ := FrQ.up hb (k := 59) (j := 0) (s := 36 + i / 30) (nI (v (36 + i / 30) ^^^ 2 ^ (i % 30))) (Or.inl rfl)
        obtain ⟨hi3, hl3, hg3, f5, f6, hv3, hk3⟩ := m_itsIn (d := d) (σ := σ) (hl := hlb) (rl := rl) (v := v) (n := k) hvg (hs.tg (show i < 60 by omega)) hkb (fun x hx => vTg_ne (by omega) (by omega)) (by rw [vTg_ne (by omega) (by omega)]; omega) (FM_q (g1.tr fq) hf) (WN_q (g1.tr fq) hr)
        rw [← en] at hg3
        refine ⟨_, _, hg3, ?_⟩
        have F1 := g1.tr (fq.tr f5)
        have F2 := g2.tr f6
        have hta := vTa_le rl (vTg v i) k
        refine pk_lt (vTa rl (vTg v i) k) (vSh rl v k i).2 (fun hlt => ?_) (fun hge => ?_)
        · have h2 := ih (i + 1) hi3 hl3 (some (vi (nI (vTa rl (vTg v i) k)))) (by omega) F1 F2 hv3 hk3
          rw [show vSh rl v k (i + 1) = (some i, vTa rl (vTg v i) k) by rw [vSh, if_pos ⟨hgt, hlt⟩], ← nI_1] at h2
          exact h2
        · have h2 := ih (i + 1) hi3 hl3 (some (vi (nI (vTa rl (vTg v i) k)))) (by omega) F1 F2 hv3 hk3
          rw [show vSh rl v k (i + 1) = vSh rl v k i by rw [vSh, if_neg (by omega)], ← nI_1] at h2
          exact h2
      · have h2 := ih (i + 1) hb hlb l6 (by omega) g1 g2 hvb hkb
        rw [show vSh rl v k (i + 1) = vSh rl v k i by rw [vSh, if_neg (by rw [hgt]; simp)], ← nI_1] at h2
        exact h2
  exact loop (v 1) 0 hi2 hl2 _ (by omega) (f1.tr f3) f4 hv2 hk2
theorem x_shut (hn : NX σ hi hl v f rl) (hH : HV v) (n w : Int32) : QX (d + 8) 114 [xO, vi n, vi w] σ hi hl (aShut rl v n w) := by
  obtain ⟨hv, hg, hs, n4, n5, n6, n7, n8, n9⟩ := id hn
  have h10 := hH.2
  have h4 := hs.1
  have h1 := hs.2.1
  have hh := x_isHunted (d := d + 6) (σ := σ) hv hs.2.1
  rw [hH.h] at hh
  refine QX_of fx_M114 [some xO, some (vi n), some (vi w), none, none, none, none] (by decide) rfl rfl (Nat.le_of_ble_eq_true rfl) (fx_wpE [46] 40 ?_)
  refine ⟨_, _, hh, bd_if (fun hc => QX.same (if_neg (fun z => hc z.1)).symm) (fun hc => ?_)⟩
  refine ⟨_, _, x_within n 1 60, bd_if (fun hc2 => QX.same (if_neg (fun z => hc2 z.2.1)).symm) (fun hc2 => ?_)⟩
  refine ⟨_, _, x_within w 0 1, bd_nf (fun hc3 => ?_) (fun hc3 => QX.same (if_neg (fun z => hc3 z.2.2)).symm)⟩
  obtain ⟨k, k1, k3, en, ek⟩ := rg_of (a := 1) (b := 60) hc2 (by decide) (by decide)
  obtain ⟨hi1, hl1, hg1, f1, f2, hv1⟩ := x_tryFromNow (d := d + 5) (σ := σ) hv h4
  obtain ⟨hi2, hl2, hg2, f3, f4⟩ := x_timesItOfAll (d := d) (n := k) (e := k) (hn.fr f1 f2) hv1 hs hg (by omega) (by omega)
  rw [← en, Nat.min_eq_left (vTa_le rl v k)] at hg2
  refine ⟨_, _, hg1, _, _, hg2, ?_⟩
  generalize eA : aShut rl v n w = A
  have eA : A = if w = 0 then oI (vSh rl v k (v 1)).1 else nI (vSh rl v k (v 1)).2 := by
    rw [← eA]
    unfold aShut
    rw [if_pos ⟨hc, hc2, hc3⟩, ek]
  have loop : ∀ m i (hb : fxI3) (hlb : fxL3) l6, i + m = v 1 → FrY hi hb → FlY hl hlb → fx_E (fx_Ga (d + 7)) fx_M114 (46, [some xO, some (vi n), some (vi w), some (vi (oI (vSh rl v k i).1)), some (vi (nI (vSh rl v k i).2)), some (vi (nI i)), l6], [], hp σ hb hlb, 0, 0) (QXP σ hi hl A) := by
    intro m
    induction m with
    | zero =>
      intro i hb hlb l6 hk g1 g2
      have : i = v 1 := by omega
      subst this
      refine fx_wpL [46] 20 (pk_le (v 1) (v 1) (fun _ => ?_) (fun hc => by omega) (hv.y (by omega) g1 g2).1)
      refine ⟨fun (z : ¬ w = 0) => ⟨?_, hb, hlb, rfl, g1, g2⟩, fun (z : ¬ ¬ w = 0) => ⟨?_, hb, hlb, rfl, g1, g2⟩⟩
      · rw [eA, if_neg z]
      · rw [eA, if_pos (Classical.not_not.mp z)]
    | succ m ih =>
      intro i hb hlb l6 hk0 g1 g2
      have hsh := vSh_le rl v k i
      have hvb := hv.y (by omega) g1 g2
      refine fx_wpL [46] 60 (pk_le (v 1) i (fun hc => by omega) (fun _ => ?_) hvb.1)
      refine ⟨_, _, x_isGate hvb hg (show i < 60 by omega), b01_if (fun hgt => ?_) (fun hgt => ?_)⟩
      · have h2 := ih (i + 1) hb hlb l6 (by omega) g1 g2
        rw [show vSh rl v k (i + 1) = vSh rl v k i by rw [vSh, if_neg (by rw [hgt]; simp)], ← nI_1] at h2
        exact h2
      · obtain ⟨hi3, hl3, hg3, f5, f6, hv3⟩ := x_tryFromNow (d := d + 5) (σ := σ) hvb h4
        obtain ⟨htg, hvt⟩ := x_turnGate (d := d + 6) (σ := σ) hv3 h4 hg (show i < 60 by omega)
        refine ⟨_, _, hg3, _, _, htg, ?_⟩
        have F2 : FlY hl _ := (g2.tr f6).tr (FlY.up hl3 (j := 23) (s := 6) (lN (vG (vTg v i))) (by omega))
        obtain ⟨hi4, hl4, hg4, f7, f8⟩ := x_timesItOfAll (d := d) (n := k) (e := (vSh rl v k i).2) (hn.fr (g1.tr f5) F2) hvt (hs.tg (by omega)) (hg.tg (by omega) h1) (by omega) (by rw [vTg_ne (by omega) (by omega)]; omega)
        rw [← en] at hg4
        refine ⟨_, _, hg4, ?_⟩
        have hta := vTa_le rl (vTg v i) k
        refine pk_le (vSh rl v k i).2 (min (vTa rl (vTg v i) k) (vSh rl v k i).2) (fun hge => ?_) (fun hlt => ?_)
        · have h2 := ih (i + 1) hi4 hl4 (some (vi (nI (min (vTa rl (vTg v i) k) (vSh rl v k i).2)))) (by omega) ((g1.tr f5).tr f7) (F2.tr f8)
          rw [show vSh rl v k (i + 1) = vSh rl v k i by rw [vSh, if_neg (by omega)], ← nI_1] at h2
          exact h2
        · have e : min (vTa rl (vTg v i) k) (vSh rl v k i).2 = vTa rl (vTg v i) k := by omega
          have h2 := ih (i + 1) hi4 hl4 (some (vi (nI (min (vTa rl (vTg v i) k) (vSh rl v k i).2)))) (by omega) ((g1.tr f5).tr f7) (F2.tr f8)
          rw [show vSh rl v k (i + 1) = (some i, min (vTa rl (vTg v i) k) (vSh rl v k i).2) by rw [vSh, if_pos ⟨hgt, by omega⟩, e], ← nI_1] at h2
          exact h2
  exact loop (v 1) 0 hi2 hl2 _ (by omega) (f1.tr f3) (f2.tr f4)
end A4
