/-! questions: rider, gateAt, last, ahead, it -/
def HV (v : Nat → Nat) : Prop := (v 0 = 1 ∧ 0 < v 1 ∨ v 0 = 0 ∧ v 1 = 0 ∧ v 4 = 0) ∧ v 10 ≤ 999
theorem HV.h {v : Nat → Nat} (h : HV v) : decide (0 < v 1) = decide (v 0 = 1) := by
  rw [decide_eq_decide]
  have := h.1
  omega
/-- where the reference stands -/
def NM (hi : fxI3) (v : Nat → Nat) (rl : Option fxRl) : Prop := PM hi v ∧ SB v ∧ FM hi rl ∧ WM hi none
theorem NM.fr {hi hi' : fxI3} {v : Nat → Nat} {rl : Option fxRl} (h : NM hi v rl) (f : FrQ hi hi') (hp' : PM hi' v) : NM hi' v rl := ⟨hp', h.2.1, FM_q f h.2.2.1, WN_q f h.2.2.2⟩
abbrev isR (v : Nat → Nat) (r : Int32) : Prop := 0 ≤ r ∧ r < nI (v 4)
theorem isR_of {v : Nat → Nat} {r : Int32} (h : isR v r) (h4 : v 4 ≤ 6) : ∃ i, i < v 4 ∧ i < 6 ∧ r = nI i ∧ r.toNatClampNeg = i := by
  obtain ⟨i, h1, h2⟩ := nI_of (Int32.not_lt.mpr h.1)
  have h3 := h.2
  rw [h2] at h3
  have := (nI_ltI h1 (by omega)).mp h3
  exact ⟨i, this, by omega, h2, by rw [h2]; exact nI_clamp h1⟩
theorem rg_of {x : Int32} {a b : Nat} (h : nI a ≤ x ∧ x ≤ nI b) (hb : b < 2 ^ 31) (ha : a < 2 ^ 31) : ∃ k, a ≤ k ∧ k ≤ b ∧ x = nI k ∧ x.toNatClampNeg = k := by
  obtain ⟨i, h1, h2⟩ := nI_of (x := x) (Int32.not_lt.mpr (Int32.le_trans (nI_pos' ha) h.1))
  rw [h2] at h
  exact ⟨i, (nI_leI ha h1).mp h.1, (nI_leI h1 hb).mp h.2, h2, by rw [h2]; exact nI_clamp h1⟩
theorem m_inN {d : Nat} {h : fxH} (x lo hi : Int32) {a c : Int64} (ha : a = lo.toInt64) (hc : c = hi.toInt64) : fx_Ga (d + 1) 142 [vl x.toInt64, vl a, vl c] h (some (vi (b01 (decide (lo ≤ x ∧ x ≤ hi))))) h := by
  have := m_in (d := d) (h := h) (a := x.toInt64) (b := a) (c := c)
  rw [show decide (a ≤ x.toInt64 ∧ x.toInt64 ≤ c) = decide (lo ≤ x ∧ x ≤ hi) by
    rw [decide_eq_decide, ha, hc, Int64.le_iff_toInt_le, Int64.le_iff_toInt_le, Int32.toInt_toInt64, Int32.toInt_toInt64, Int32.toInt_toInt64, Int32.le_iff_toInt_le, Int32.le_iff_toInt_le]] at this
  exact this
theorem bd_if {b : Prop} [Decidable b] {A B : Prop} (f : ¬ b → A) (g : b → B) : (b01 (decide b) = 0 → A) ∧ (¬ b01 (decide b) = 0 → B) := b01_if (fun h => f (of_decide_eq_false h)) (fun h => g (of_decide_eq_true h))
theorem bd_nf {b : Prop} [Decidable b] {A B : Prop} (f : b → A) (g : ¬ b → B) : (¬ b01 (decide b) = 0 → A) ∧ (¬ ¬ b01 (decide b) = 0 → B) := b01_nf (fun h => f (of_decide_eq_true h)) (fun h => g (of_decide_eq_false h))
theorem QM.same {σ : fxS} {hi : fxI3} {hl : fxL3} {v : Nat → Nat} {ans : Int32} {r : Int32} (hv : PM hi v) (e : r = ans) : QMP σ hi hl v ans (some (vi r)) (hp σ hi hl) := ⟨by rw [e], hi, hl, rfl, FrQ.rf hi, FlQ.rf hl, hv⟩
theorem QX.same {σ : fxS} {hi : fxI3} {hl : fxL3} {ans : Int32} {r : Int32} (e : r = ans) : QXP σ hi hl ans (some (vi r)) (hp σ hi hl) := ⟨by rw [e], hi, hl, rfl, FrY.rf hi, FlY.rf hl⟩
def aRider (v : Nat → Nat) (r w : Int32) : Int32 := if isR v r ∧ (0 ≤ w ∧ w ≤ 3) then nI (v (12 + 4 * r.toNatClampNeg + w.toNatClampNeg)) else -1
def aGate (v : Nat → Nat) (f : Int32) : Int32 := if 0 ≤ f ∧ f < nI (v 1) then b01 (vGate v f.toNatClampNeg) else -1
def aLast (v : Nat → Nat) : Int32 := if v 0 = 1 then oI (vLast v (v 4)) else -2
def aAhead (rl : Option fxRl) (v : Nat → Nat) (r n w : Int32) : Int32 := if v 0 = 1 ∧ (0 ≤ n ∧ n ≤ 100) ∧ (0 ≤ w ∧ w ≤ 2) ∧ (w = 0 ∨ isR v r) then (if w = 0 then nI (vIt rl n.toNatClampNeg v 11) else if w = 1 then nI (vIt rl n.toNatClampNeg v (12 + 4 * r.toNatClampNeg)) else nI (vIt rl n.toNatClampNeg v (15 + 4 * r.toNatClampNeg))) else -1
/-- the first of k from i on -/
def vFst (P : Nat → Bool) : Nat → Nat → Option Nat
  | 0, _ => none
  | k + 1, i => if P i then some i else vFst P k (i + 1)
def fJ (v : Nat → Nat) (o : Option Nat) : Int32 := match o with
  | none => -2
  | some k => nI (v 10 + k)
def aIt (rl : Option fxRl) (v : Nat → Nat) (r : Int32) : Int32 := if isR v r then fJ v (vFst (fun k => decide (vWho rl k v = some r.toNatClampNeg)) 200 0) else -1
section A1
variable {d : Nat} {σ : fxS} {hi : fxI3} {hl : fxL3} {v : Nat → Nat}
theorem m_isField (hv : PM hi v) (hH : HV v) (f : Int32) : fx_Ga (d + 2) 199 [mO, vi f] (hp σ hi hl) (some (vi (b01 (decide (0 ≤ f ∧ f < nI (v 1)))))) (hp σ hi hl) := by
  refine fx_meth fx_M199 [some mO, some (vi f)] (by decide) rfl rfl (Nat.le_of_ble_eq_true rfl) (fx_wpE [] 30 ?_)
  obtain ⟨e, hb⟩ := hv 1 (by decide)
  refine ⟨_, _, m_isHunt hv, bd_if (fun hc => ⟨Or.inl rfl, ?_, rfl⟩) (fun hc => ⟨fun (hc : f < 0) => ⟨Or.inl rfl, ?_, rfl⟩, fun (hc : ¬ f < 0) => ⟨ni_inx (n := 1) (m := 83) rfl (by decide) (by decide), fun (hc2 : hi 59 0 1 ≤ f) => ⟨Or.inl rfl, ?_, rfl⟩, fun (hc2 : ¬ hi 59 0 1 ≤ f) => ⟨Or.inr rfl, ?_, rfl⟩⟩⟩)⟩
  · have h1 : v 1 = 0 := by have := hH.1; omega
    rw [h1, decide_eq_false (fun z => absurd (Int32.lt_of_le_of_lt z.1 z.2) (by decide))]
    rfl
  · rw [decide_eq_false (fun z => absurd z.1 (Int32.not_le.mpr hc))]
    rfl
  · rw [e] at hc2
    rw [decide_eq_false (fun z => absurd z.2 (Int32.not_lt.mpr hc2))]
    rfl
  · rw [e] at hc2
    rw [decide_eq_true ⟨Int32.not_lt.mp hc, Int32.not_le.mp hc2⟩]
    rfl
theorem m_rider (hv : PM hi v) (h4 : v 4 ≤ 6) (r w : Int32) : QM (d + 2) 198 [mO, vi r, vi w] σ hi hl v (aRider v r w) := by
  refine QM_of fx_M198 [some mO, some (vi r), some (vi w)] (by decide) rfl rfl (Nat.le_of_ble_eq_true rfl) (fx_wpE [] 40 ?_)
  refine ⟨_, _, m_isRider hv r, bd_if (fun hc => QM.same hv ?_) (fun hc => ⟨_, _, m_inN w 0 3 rfl rfl, bd_if (fun hc2 => QM.same hv ?_) (fun hc2 => ?_)⟩)⟩
  · exact (if_neg (fun z => hc z.1)).symm
  · exact (if_neg (fun z => hc2 z.2)).symm
  · obtain ⟨i, i4, i6, er, ec⟩ := isR_of hc h4
    obtain ⟨k, _, k3, ew, ek⟩ := rg_of (a := 0) (b := 3) hc2 (by decide) (by decide)
    have e12 : (12 + 4 * r + w : Int32) = nI (12 + 4 * i + k) := by rw [er, ew, ri_0, nI_add]
    refine ⟨ni_inx (n := 12 + 4 * i + k) (m := 83) e12 (by omega) (by decide), QM.same hv ?_⟩
    show hi 59 0 (12 + 4 * r + w : Int32).toNatClampNeg = _
    rw [hv.at e12 (by omega)]
    unfold aRider
    rw [if_pos ⟨hc, hc2⟩, ec, ek]
theorem x_rider (hv : PX hi hl 2 v) (h4 : v 4 ≤ 6) (r w : Int32) : QX (d + 2) 96 [xO, vi r, vi w] σ hi hl (aRider v r w) := by
  refine QX_of fx_M96 [some xO, some (vi r), some (vi w), none] (by decide) rfl rfl (Nat.le_of_ble_eq_true rfl) (fx_wpE [] 40 ?_)
  refine ⟨_, _, x_hasRider hv h4 r, bd_nf (fun hc => ?_) (fun hc => QX.same (if_neg (fun z => hc z.1)).symm)⟩
  obtain ⟨i, i4, i6, er, ec⟩ := isR_of hc h4
  have b6 := ni_inx (n := i) (m := 6) er i6 (by decide)
  obtain ⟨a1, a2, a3, a4⟩ := hv.2.2.2.2.2.2.2 i i4
  by_cases hw : 0 ≤ w ∧ w ≤ 3
  · obtain ⟨k, _, k3, ew, ek⟩ := rg_of (a := 0) (b := 3) hw (by decide) (by decide)
    have ea : aRider v r w = nI (v (12 + 4 * i + k)) := by
      unfold aRider
      rw [if_pos ⟨hc, hw⟩, ec, ek]
    rw [ea]
    subst ew
    rcases (show k = 0 ∨ k = 1 ∨ k = 2 ∨ k = 3 by omega) with rfl | rfl | rfl | rfl
    · refine tsw (by decide) ⟨_, rfl, b6, QX.same ?_⟩
      show hi 21 2 r.toNatClampNeg = _
      rw [ec]
      exact a1
    · refine tsw (by decide) ⟨_, rfl, b6, QX.same ?_⟩
      show hi 22 2 r.toNatClampNeg = _
      rw [ec, a2]
      congr 2
      omega
    · refine tsw (by decide) ⟨_, rfl, b6, QX.same ?_⟩
      show hi 23 2 r.toNatClampNeg = _
      rw [ec, a3]
      congr 2
      omega
    · refine tsw (by decide) ⟨_, rfl, b6, QX.same ?_⟩
      show hi 24 2 r.toNatClampNeg = _
      rw [ec, a4]
      congr 2
      omega
  · have ea : aRider v r w = -1 := if_neg (fun z => hw z.2)
    rw [ea]
    refine ⟨fun _ => QX.same rfl, fun (z : ¬ (w.toInt < 0 ∨ 3 < w.toInt)) => absurd ?_ hw⟩
    rw [Int32.le_iff_toInt_le, Int32.le_iff_toInt_le]
    show (0 : Int) ≤ _ ∧ _ ≤ (3 : Int)
    omega
theorem m_gateAt (hv : PM hi v) (hH : HV v) (h1 : v 1 ≤ 60) (f : Int32) : QM (d + 3) 200 [mO, vi f] σ hi hl v (aGate v f) := by
  refine QM_of fx_M200 [some mO, some (vi f)] (by decide) rfl rfl (Nat.le_of_ble_eq_true rfl) (fx_wpE [] 40 ?_)
  refine ⟨_, _, m_isField hv hH f, bd_nf (fun hc => ?_) (fun hc => QM.same hv (if_neg hc).symm)⟩
  obtain ⟨k, hk, ek⟩ := nI_of (Int32.not_lt.mpr hc.1)
  have hk2 : k < v 1 := by
    have := hc.2
    rw [ek] at this
    exact (nI_ltI hk (by omega)).mp this
  have ea : aGate v f = b01 (vGate v k) := by
    unfold aGate
    rw [if_pos hc, ek, nI_clamp hk]
  rw [ea]
  subst ek
  exact ⟨_, _, m_isGate hv (show k < 60 by omega), b01_if (fun hc => QM.same hv (by rw [hc]; rfl)) (fun hc => QM.same hv (by rw [hc]; rfl))⟩
theorem x_gateAt (hv : PX hi hl 2 v) (hg : GV v) (h1 : v 1 ≤ 60) (f : Int32) : QX (d + 2) 97 [xO, vi f] σ hi hl (aGate v f) := by
  refine QX_of fx_M97 [some xO, some (vi f)] (by decide) rfl rfl (Nat.le_of_ble_eq_true rfl) (fx_wpE [] 40 ?_)
  refine ⟨_, _, x_hasField hv f, bd_nf (fun hc => ?_) (fun hc => QX.same (if_neg hc).symm)⟩
  obtain ⟨k, hk, ek⟩ := nI_of (Int32.not_lt.mpr hc.1)
  have hk2 : k < v 1 := by
    have := hc.2
    rw [ek] at this
    exact (nI_ltI hk (by omega)).mp this
  have ea : aGate v f = b01 (vGate v k) := by
    unfold aGate
    rw [if_pos hc, ek, nI_clamp hk]
  rw [ea]
  subst ek
  exact ⟨_, _, x_isGate hv hg (show k < 60 by omega), b01_if (fun hc => QX.same (by rw [hc]; rfl)) (fun hc => QX.same (by rw [hc]; rfl))⟩
theorem m_last (hv : PM hi v) (h4 : v 4 ≤ 6) : QM (d + 3) 218 [mO] σ hi hl v (aLast v) := by
  refine QM_of fx_M218 [some mO] (by decide) rfl rfl (Nat.le_of_ble_eq_true rfl) (fx_wpE [] 40 ?_)
  exact ⟨_, _, m_isHunt hv, bd_if (fun hc => QM.same hv (if_neg hc).symm) (fun hc => ⟨_, _, m_lastOne hv h4, QM.same hv (if_pos hc).symm⟩)⟩
theorem x_last (hv : PX hi hl 2 v) (hs : SB v) (hH : HV v) : QX (d + 2) 107 [xO] σ hi hl (aLast v) := by
  refine QX_of fx_M107 [some xO] (by decide) rfl rfl (Nat.le_of_ble_eq_true rfl) (fx_wpE [] 40 ?_)
  have := x_isHunted (d := d) (σ := σ) hv hs.2.1
  rw [hH.h] at this
  exact ⟨_, _, this, bd_if (fun hc => QX.same (if_neg hc).symm) (fun hc => ⟨_, _, x_lastRider hv (hs.sv (by have := hH.2; omega)), QX.same (if_pos hc).symm⟩)⟩
variable {rl : Option fxRl} {f : Option Nat}
theorem m_ahead (hn : NM hi v rl) (hH : HV v) (r n w : Int32) : QM (d + 8) 219 [mO, vi r, vi n, vi w] σ hi hl v (aAhead rl v r n w) := by
  obtain ⟨hv, hs, hf, hr⟩ := hn
  have h10 := hH.2
  have h4 := hs.1
  have rest : (v 0 = 1 ∧ (0 ≤ n ∧ n ≤ 100) ∧ (0 ≤ w ∧ w ≤ 2) ∧ (w = 0 ∨ isR v r)) → fx_E (fx_Ga (d + 7)) fx_M219 (45, [some mO, some (vi r), some (vi n), some (vi w), none], [], hp σ hi hl, 0, 0) (QMP σ hi hl v (aAhead rl v r n w)) := by
    intro hc
    obtain ⟨k, _, k3, en, ek⟩ := rg_of (a := 0) (b := 100) hc.2.1 (by decide) (by decide)
    obtain ⟨g, hg1, hk⟩ := m_keeps (d := d + 6) (σ := σ) (hl := hl) hv
    have f1 : FrQ hi (fx_all hi 63 0 g) := FrQ.all hi g (fun s => by unfold scr; omega)
    obtain ⟨hi2, hl2, hg2, f2, f3, hv2⟩ := m_passesAll (d := d) (σ := σ) (hi := fx_all hi 63 0 g) (hl := hl) (n := k) hv hs (by omega) (FM_q f1 hf) (WN_q f1 hr)
    have hs2 : ∀ x, x < 10 ∨ 38 ≤ x → vIt rl k v x = v x := fun x hx => hx.elim (fun h => vIt_lo rl v h k) (fun h => vIt_hi rl v h4 (by omega) k)
    obtain ⟨g3, hg3, hv3⟩ := m_laysBack (d := d + 6) (σ := σ) (hl := hl2) hv2 (hk.fr f2) hs2
    rw [← en] at hg2
    have ea : aAhead rl v r n w = if w = 0 then nI (vIt rl k v 11) else if w = 1 then nI (vIt rl k v (12 + 4 * r.toNatClampNeg)) else nI (vIt rl k v (15 + 4 * r.toNatClampNeg)) := by
      unfold aAhead
      rw [if_pos hc, ek]
    have fin : ∀ a, a = aAhead rl v r n w → QMP σ hi hl v (aAhead rl v r n w) (some (vi a)) (hp σ (fx_all hi2 59 0 g3) hl2) := fun a e => ⟨by rw [e], _, _, rfl, f1.tr (f2.q.tr (FrQ.all hi2 g3 (fun s => by unfold scr; omega))), f3.q, hv3⟩
    refine fx_wpE [] 60 ⟨_, _, hg1, _, _, hg2, ?_⟩
    by_cases w0 : w = 0
    · subst w0
      refine ⟨fun z => absurd rfl z, fun _ => ⟨ni_inx (n := 11) (m := 83) rfl (by decide) (by decide), _, _, hg3, fin _ ?_⟩⟩
      rw [ea]
      exact (hv2 11 (by decide)).1
    · obtain ⟨i, i4, i6, er, ec⟩ := isR_of (hc.2.2.2.resolve_left w0) h4
      refine ⟨fun _ => ?_, fun z => absurd (show ¬ w = 0 from w0) z⟩
      by_cases w1 : w = 1
      · subst w1
        refine ⟨fun z => absurd rfl z, fun _ => ?_⟩
        have := m_runOf (d := d + 6) (σ := σ) (hl := hl2) hv2 i6
        rw [← er] at this
        refine ⟨_, _, this, _, _, hg3, fin _ ?_⟩
        rw [ea, ec]
        rfl
      · refine ⟨fun _ => ?_, fun z => absurd (show ¬ w = 1 from w1) z⟩
        have := m_wasOf (d := d + 6) (σ := σ) (hl := hl2) hv2 i6
        rw [← er] at this
        refine ⟨_, _, this, _, _, hg3, fin _ ?_⟩
        rw [ea, ec, if_neg w0, if_neg w1]
  refine QM_of fx_M219 [some mO, some (vi r), some (vi n), some (vi w), none] (by decide) rfl rfl (Nat.le_of_ble_eq_true rfl) (fx_wpE [45] 40 ?_)
  refine ⟨_, _, m_isHunt hv, bd_if (fun hc => QM.same hv (if_neg (fun z => hc z.1)).symm) (fun hc => ?_)⟩
  refine ⟨_, _, m_inN n 0 100 rfl rfl, bd_if (fun hc2 => QM.same hv (if_neg (fun z => hc2 z.2.1)).symm) (fun hc2 => ?_)⟩
  refine ⟨_, _, m_inN w 0 2 rfl rfl, bd_if (fun hc3 => QM.same hv (if_neg (fun z => hc3 z.2.2.1)).symm) (fun hc3 => ?_)⟩
  refine ⟨fun (z : w ≤ 0) => rest ⟨hc, hc2, hc3, Or.inl (Int32.le_antisymm z hc3.1)⟩, fun (z : ¬ w ≤ 0) => ?_⟩
  exact ⟨_, _, m_isRider hv r, bd_nf (fun hc4 => rest ⟨hc, hc2, hc3, Or.inr hc4⟩) (fun hc4 => QM.same hv (if_neg (fun q => q.2.2.2.elim (fun q => z (by rw [q]; exact Int32.le_refl _)) hc4)).symm)⟩
theorem x_ahead (hn : NX σ hi hl v f rl) (hH : HV v) (r n w : Int32) : QX (d + 7) 108 [xO, vi r, vi n, vi w] σ hi hl (aAhead rl v r n w) := by
  obtain ⟨hv, hg, hs, n4, n5, n6, n7, n8, n9⟩ := id hn
  have h10 := hH.2
  have h4 := hs.1
  have rest : (v 0 = 1 ∧ (0 ≤ n ∧ n ≤ 100) ∧ (0 ≤ w ∧ w ≤ 2) ∧ (w = 0 ∨ isR v r)) → fx_E (fx_Ga (d + 6)) fx_M108 (48, [some xO, some (vi r), some (vi n), some (vi w), none], [], hp σ hi hl, 0, 0) (QXP σ hi hl (aAhead rl v r n w)) := by
    intro hc
    obtain ⟨k, _, k3, en, ek⟩ := rg_of (a := 0) (b := 100) hc.2.1 (by decide) (by decide)
    have ea : aAhead rl v r n w = if w = 0 then nI (vIt rl k v 11) else if w = 1 then nI (vIt rl k v (12 + 4 * r.toNatClampNeg)) else nI (vIt rl k v (15 + 4 * r.toNatClampNeg)) := by
      unfold aAhead
      rw [if_pos hc, ek]
    have loop : ∀ m i (hb : fxI3) (hlb : fxL3), i + m = k → FrY hi hb → FlY hl hlb → PX hb hlb 23 (vIt rl i v) → fx_E (fx_Ga (d + 6)) fx_M108 (55, [some xO, some (vi r), some (vi n), some (vi w), some (vi (nI i))], [], hp σ hb hlb, 0, 0) (QXP σ hi hl (aAhead rl v r n w)) := by
      intro m
      induction m with
      | zero =>
        intro i hb hlb hk f1 f2 hvb
        have : i = k := by omega
        subst this
        refine fx_wpL [55] 40 (pk_le i i (fun _ => ?_) (fun hc => by omega) en)
        by_cases w0 : w = 0
        · subst w0
          refine ⟨fun z => absurd rfl z, fun _ => ⟨?_, hb, hlb, rfl, f1, f2⟩⟩
          rw [ea]
          exact congrArg (fun z => some (vi z)) hvb.2.2.2.2.1
        · obtain ⟨q, q4, q6, er, ec⟩ := isR_of (hc.2.2.2.resolve_left w0) h4
          have b6 := ni_inx (n := q) (m := 6) er q6 (by decide)
          obtain ⟨a1, a2, a3, a4⟩ := hvb.2.2.2.2.2.2.2 q (by rw [vIt_lo rl v (by decide)]; exact q4)
          refine ⟨fun _ => ?_, fun z => absurd (show ¬ w = 0 from w0) z⟩
          by_cases w1 : w = 1
          · subst w1
            refine ⟨fun z => absurd rfl z, fun _ => ⟨b6, ?_, hb, hlb, rfl, f1, f2⟩⟩
            rw [ea]
            show some (vi (hb 21 23 r.toNatClampNeg)) = _
            rw [ec, a1]
            rfl
          · refine ⟨fun _ => ⟨b6, ?_, hb, hlb, rfl, f1, f2⟩, fun z => absurd (show ¬ w = 1 from w1) z⟩
            show some (vi (hb 24 23 r.toNatClampNeg)) = _
            rw [ea, ec, a4, if_neg w0, if_neg w1]
      | succ m ih =>
        intro i hb hlb hk f1 f2 hvb
        refine fx_wpL [55] 40 (pk_le k i (fun hc => by omega) (fun _ => ?_) en)
        obtain ⟨hi2, hl2, hg2, g1, g2, hv2⟩ := x_tryStep (d := d) (hn.fr f1 f2) hvb (hs.it rl i) (hg.it h4 rl i) (by rw [vIt_10]; omega)
        refine ⟨_, _, hg2, ?_⟩
        have h2 := ih (i + 1) hi2 hl2 (by omega) (f1.tr g1) (f2.tr g2) hv2
        rw [← nI_1] at h2
        exact h2
    obtain ⟨hi1, hl1, hg1, f1, f2, hv1⟩ := x_tryFromNow (d := d + 4) (σ := σ) hv h4
    exact fx_wpE [55] 20 ⟨_, _, hg1, loop k 0 hi1 hl1 (by omega) f1 f2 hv1⟩
  have hh := x_isHunted (d := d + 5) (σ := σ) hv hs.2.1
  rw [hH.h] at hh
  refine QX_of fx_M108 [some xO, some (vi r), some (vi n), some (vi w), none] (by decide) rfl rfl (Nat.le_of_ble_eq_true rfl) (fx_wpE [48] 40 ?_)
  refine ⟨_, _, hh, bd_if (fun hc => QX.same (if_neg (fun z => hc z.1)).symm) (fun hc => ?_)⟩
  refine ⟨_, _, x_within n 0 100, bd_if (fun hc2 => QX.same (if_neg (fun z => hc2 z.2.1)).symm) (fun hc2 => ?_)⟩
  refine ⟨_, _, x_within w 0 2, bd_nf (fun hc3 => ?_) (fun hc3 => QX.same (if_neg (fun z => hc3 z.2.2.1)).symm)⟩
  refine ⟨fun (z : w = 0) => rest ⟨hc, hc2, hc3, Or.inl z⟩, fun (z : ¬ w = 0) => ?_⟩
  exact ⟨_, _, x_hasRider hv h4 r, bd_nf (fun hc4 => rest ⟨hc, hc2, hc3, Or.inr hc4⟩) (fun hc4 => QX.same (if_neg (fun q => q.2.2.2.elim z hc4)).symm)⟩
end A1
