/-! questions: it, leastPace, allIt, meet -/
theorem oI_ne {o : Option Nat} {q : Nat} (ho : ∀ l, o = some l → l < 2 ^ 31) (hq : q < 2 ^ 31) (h : o ≠ some q) : ¬ oI o = nI q := by
  cases o with
  | none => exact fun z => absurd z.symm (ne_m1 hq)
  | some l => exact fun z => h (by rw [(nI_eq (ho l rfl) hq).mp z])
theorem vWho_lt {rl : Option fxRl} {v : Nat → Nat} {k l : Nat} (h : vWho rl k v = some l) : l < v 4 := by
  have := vStep_who _ _ _ h
  rw [vIt_lo rl v (by decide)] at this
  exact this
theorem vTm_mono (rl : Option fxRl) (v : Nat → Nat) (i n : Nat) : ∀ k, vTm rl v i n ≤ vTm rl v i (n + k)
  | 0 => Nat.le_refl _
  | k + 1 => Nat.le_trans (vTm_mono rl v i n k) (Nat.le_add_right _ _)
theorem vTa_mono (rl : Option fxRl) (v : Nat → Nat) (n : Nat) : ∀ k, vTa rl v n ≤ vTa rl v (n + k)
  | 0 => Nat.le_refl _
  | k + 1 => Nat.le_trans (vTa_mono rl v n k) (Nat.le_add_right _ _)
theorem vTm_le (rl : Option fxRl) (v : Nat → Nat) (i : Nat) : ∀ n, vTm rl v i n ≤ n
  | 0 => Nat.le_refl _
  | n + 1 => by
    have := vTm_le rl v i n
    unfold vTm
    split <;> omega
theorem vTa_le (rl : Option fxRl) (v : Nat → Nat) : ∀ n, vTa rl v n ≤ n
  | 0 => Nat.le_refl _
  | n + 1 => by
    have := vTa_le rl v n
    unfold vTa
    split <;> omega
def fI (o : Option Nat) : Int32 := match o with
  | none => -2
  | some k => nI k
theorem vFst_lt (P : Nat → Bool) : ∀ k i m, vFst P k i = some m → i ≤ m ∧ m < i + k ∧ P m = true
  | 0, _, _, h => by cases h
  | k + 1, i, m, h => by
    unfold vFst at h
    split at h
    · cases h
      rename_i hp
      exact ⟨Nat.le_refl _, by omega, hp⟩
    · have := vFst_lt P k (i + 1) m h
      exact ⟨by omega, by omega, this.2.2⟩
def aLeast (rl : Option fxRl) (v : Nat → Nat) (r n : Int32) : Int32 := if isR v r ∧ (1 ≤ n ∧ n ≤ 60) then fI (vFst (fun p => decide (vTm rl (vup v (13 + 4 * r.toNatClampNeg) p) r.toNatClampNeg n.toNatClampNeg = 0)) 9 1) else -1
def aAllIt (rl : Option fxRl) (v : Nat → Nat) : Int32 := if v 0 = 1 then (if vAll v (v 4) then nI (v 10) - 1 else fJ v (vFst (fun k => vAll (vIt rl (k + 1) v) (v 4)) 200 0)) else -1
def aMeet (rl : Option fxRl) (v : Nat → Nat) (a b : Int32) : Int32 := if isR v a ∧ isR v b ∧ ¬ a = b then fJ v (vFst (fun k => decide (vIt rl k v (12 + 4 * a.toNatClampNeg) = vIt rl k v (12 + 4 * b.toNatClampNeg))) 200 0) else -1
section A2
variable {d : Nat} {σ : fxS} {hi : fxI3} {hl : fxL3} {v : Nat → Nat} {rl : Option fxRl} {f : Option Nat}
theorem it_same (rl : Option fxRl) {v : Nat → Nat} (h4 : v 4 ≤ 6) (k : Nat) : ∀ x, x < 10 ∨ 38 ≤ x → vIt rl k v x = v x := fun x hx => hx.elim (fun h => vIt_lo rl v h k) (fun h => vIt_hi rl v h4 (by omega) k)
theorem m_it (hn : NM hi v rl) (hH : HV v) (r : Int32) : QM (d + 7) 220 [mO, vi r] σ hi hl v (aIt rl v r) := by
  obtain ⟨hv, hs, hf, hr⟩ := hn
  have h10 := hH.2
  have h4 := hs.1
  refine QM_of fx_M220 [some mO, some (vi r), none, none] (by decide) rfl rfl (Nat.le_of_ble_eq_true rfl) (fx_wpE [19] 40 ?_)
  refine ⟨_, _, m_isRider hv r, bd_nf (fun hc => ?_) (fun hc => QM.same hv (if_neg hc).symm)⟩
  obtain ⟨q, q4, q6, er, ec⟩ := isR_of hc h4
  obtain ⟨g, hg1, hk⟩ := m_keeps (d := d + 5) (σ := σ) (hl := hl) hv
  have f1 : FrQ hi (fx_all hi 63 0 g) := FrQ.all hi g (fun s => by unfold scr; omega)
  refine ⟨_, _, hg1, ?_⟩
  generalize eA : aIt rl v r = A
  have fin : ∀ k a l3 (hb : fxI3) (hlb : fxL3), FrP (fx_all hi 63 0 g) hb → FlP hl hlb → PM hb (vIt rl k v) → a = A → fx_E (fx_Ga (d + 6)) fx_M220 (54, [some mO, some (vi r), some (vi a), l3], [], hp σ hb hlb, 0, 0) (QMP σ hi hl v A) := by
    intro k a l3 hb hlb g1 g2 hvb ea
    obtain ⟨g3, hg3, hv3⟩ := m_laysBack (d := d + 5) (σ := σ) (hl := hlb) hvb (hk.fr g1) (it_same rl h4 k)
    exact fx_wpE [] 20 ⟨_, _, hg3, by rw [ea], _, _, rfl, f1.tr (g1.q.tr (FrQ.all hb g3 (fun s => by unfold scr; omega))), g2.q, hv3⟩
  have out : ∀ k a i (hb : fxI3) (hlb : fxL3), FrP (fx_all hi 63 0 g) hb → FlP hl hlb → PM hb (vIt rl k v) → a = A → 0 ≤ a → fx_E (fx_Ga (d + 6)) fx_M220 (19, [some mO, some (vi r), some (vi a), some (vi i)], [], hp σ hb hlb, 0, 0) (QMP σ hi hl v A) := fun k a i hb hlb g1 g2 hvb ea h0 => fx_wpL [19, 54] 20 ⟨fun _ => fin k a _ hb hlb g1 g2 hvb ea, fun _ => ⟨fun _ => fin k a _ hb hlb g1 g2 hvb ea, fun z => absurd h0 z⟩⟩
  have loop : ∀ m i (hb : fxI3) (hlb : fxL3), i + m = 200 → FrP (fx_all hi 63 0 g) hb → FlP hl hlb → PM hb (vIt rl i v) → A = fJ v (vFst (fun k => decide (vWho rl k v = some q)) m i) → fx_E (fx_Ga (d + 6)) fx_M220 (19, [some mO, some (vi r), some (vi (-2)), some (vi (nI i))], [], hp σ hb hlb, 0, 0) (QMP σ hi hl v A) := by
    intro m
    induction m with
    | zero =>
      intro i hb hlb hk g1 g2 hvb eA
      exact fx_wpL [19, 54] 20 (pk_le 200 i (fun _ => fin i _ _ hb hlb g1 g2 hvb eA.symm) (fun hc => by omega))
    | succ m ih =>
      intro i hb hlb hk g1 g2 hvb eA
      refine fx_wpL [19, 54] 40 (pk_le 200 i (fun hc => by omega) (fun _ => ?_))
      refine ⟨fun z => absurd z (by decide), fun _ => ?_⟩
      obtain ⟨hi2, hl2, hg2, p1, p2, hv2⟩ := m_passes (d := d) (σ := σ) (hl := hlb) hvb ((hs.it rl i).sv (by rw [vIt_10]; omega)) (FM_fr g1 (FM_q f1 hf)) (WM_fr g1 (WN_q f1 hr))
      refine ⟨_, _, hg2, ?_⟩
      by_cases hw : vWho rl i v = some q
      · refine ⟨fun (z : ¬ oI (vWho rl i v) = r) => absurd (by rw [hw, er]; rfl) z, fun _ => ?_⟩
        have e10 : hi2 59 0 10 - 1 = nI (v 10 + i) := by
          rw [(hv2 10 (by decide)).1, vStep_10, vIt_10]
          exact nI_pred _
        have eA2 : nI (v 10 + i) = A := by
          rw [eA, vFst, if_pos (decide_eq_true hw)]
          rfl
        refine ⟨ni_inx (n := 10) (m := 83) rfl (by decide) (by decide), out (i + 1) (hi2 59 0 10 - 1) _ hi2 hl2 (g1.tr p1) (g2.tr p2) hv2 (e10.trans eA2) (by rw [e10]; exact nI_pos' (by omega))⟩
      · refine ⟨fun _ => ?_, fun (z : ¬ ¬ oI (vWho rl i v) = r) => absurd (by rw [er]; exact oI_ne (fun l hl => by have := vWho_lt hl; omega) (by omega) hw) z⟩
        have h2 := ih (i + 1) hi2 hl2 (by omega) (g1.tr p1) (g2.tr p2) hv2 (by rw [eA, vFst, if_neg (by rw [decide_eq_false hw]; decide)])
        rw [← nI_1] at h2
        exact h2
  exact loop 200 0 _ hl rfl (FrP.rf _) (FlP.rf _) hv (by rw [← eA]; unfold aIt; rw [if_pos hc, ec])
theorem x_it (hn : NX σ hi hl v f rl) (hH : HV v) (r : Int32) : QX (d + 7) 109 [xO, vi r] σ hi hl (aIt rl v r) := by
  obtain ⟨hv, hg, hs, n4, n5, n6, n7, n8, n9⟩ := id hn
  have h10 := hH.2
  have h4 := hs.1
  refine QX_of fx_M109 [some xO, some (vi r), none] (by decide) rfl rfl (Nat.le_of_ble_eq_true rfl) (fx_wpE [22] 40 ?_)
  refine ⟨_, _, x_hasRider hv h4 r, bd_nf (fun hc => ?_) (fun hc => QX.same (if_neg hc).symm)⟩
  obtain ⟨q, q4, q6, er, ec⟩ := isR_of hc h4
  obtain ⟨hi1, hl1, hg1, f1, f2, hv1⟩ := x_tryFromNow (d := d + 4) (σ := σ) hv h4
  refine ⟨_, _, hg1, ?_⟩
  generalize eA : aIt rl v r = A
  have loop : ∀ m i (hb : fxI3) (hlb : fxL3), i + m = 200 → FrY hi hb → FlY hl hlb → PX hb hlb 23 (vIt rl i v) → A = fJ v (vFst (fun k => decide (vWho rl k v = some q)) m i) → fx_E (fx_Ga (d + 6)) fx_M109 (22, [some xO, some (vi r), some (vi (nI i))], [], hp σ hb hlb, 0, 0) (QXP σ hi hl A) := by
    intro m
    induction m with
    | zero =>
      intro i hb hlb hk g1 g2 hvb eA
      exact fx_wpL [22] 20 (pk_le 200 i (fun _ => ⟨by rw [eA]; rfl, hb, hlb, rfl, g1, g2⟩) (fun hc => by omega))
    | succ m ih =>
      intro i hb hlb hk g1 g2 hvb eA
      refine fx_wpL [22] 40 (pk_le 200 i (fun hc => by omega) (fun _ => ?_))
      obtain ⟨hi2, hl2, hg2, p1, p2, hv2⟩ := x_tryStep (d := d) (hn.fr g1 g2) hvb (hs.it rl i) (hg.it h4 rl i) (by rw [vIt_10]; omega)
      refine ⟨_, _, hg2, ?_⟩
      by_cases hw : vWho rl i v = some q
      · refine ⟨fun (z : ¬ oI (vWho rl i v) = r) => absurd (by rw [hw, er]; rfl) z, fun _ => ?_⟩
        have e10 : hi2 1 2 5 + nI i = A := by
          rw [((hv.y (by omega) (g1.tr p1) (g2.tr p2))).2.2.2.2.2.1, nI_add, eA, vFst, if_pos (decide_eq_true hw)]
          rfl
        exact ⟨congrArg (fun z => some (vi z)) e10, hi2, hl2, rfl, g1.tr p1, g2.tr p2⟩
      · refine ⟨fun _ => ?_, fun (z : ¬ ¬ oI (vWho rl i v) = r) => absurd (by rw [er]; exact oI_ne (fun l hl => by have := vWho_lt hl; omega) (by omega) hw) z⟩
        have h2 := ih (i + 1) hi2 hl2 (by omega) (g1.tr p1) (g2.tr p2) hv2 (by rw [eA, vFst, if_neg (by rw [decide_eq_false hw]; decide)])
        rw [← nI_1] at h2
        exact h2
  exact loop 200 0 hi1 hl1 rfl f1 f2 hv1 (by rw [← eA]; unfold aIt; rw [if_pos hc, ec])
/-- how often one is it in the trial, as far as enough -/
theorem x_timesItOf {w : Nat → Nat} (hn : NX σ hi hl v f rl) (hw : PX hi hl 23 w) (hs : SB w) (hg : GV w) {q n e : Nat} (q6 : q < 6) (he : e < 2 ^ 31) (h10 : w 10 + n ≤ 9999) :
    ∃ hi' hl', fx_Ga (d + 7) 111 [xO, vi (nI q), vi (nI n), vi (nI e)] (hp σ hi hl) (some (vi (nI (min (vTm rl w q n) e)))) (hp σ hi' hl') ∧ FrY hi hi' ∧ FlY hl hl' := by
  have h4 := hs.1
  let Post : Option fxV → fxH → Prop := fun r2 h2 => r2 = some (vi (nI (min (vTm rl w q n) e))) ∧ ∃ hi' hl', h2 = hp σ hi' hl' ∧ FrY hi hi' ∧ FlY hl hl'
  have loop : ∀ m i (hb : fxI3) (hlb : fxL3), i + m = n → FrY hi hb → FlY hl hlb → PX hb hlb 23 (vIt rl i w) → vTm rl w q i ≤ e → fx_E (fx_Ga (d + 6)) fx_M111 (6, [some xO, some (vi (nI q)), some (vi (nI n)), some (vi (nI e)), some (vi (nI (vTm rl w q i))), some (vi (nI i))], [], hp σ hb hlb, 0, 0) Post := by
    intro m
    induction m with
    | zero =>
      intro i hb hlb hk g1 g2 hvb hle
      have : i = n := by omega
      subst this
      exact fx_wpL [6] 20 (pk_le i i (fun _ => ⟨by rw [Nat.min_eq_left hle], hb, hlb, rfl, g1, g2⟩) (fun hc => by omega))
    | succ m ih =>
      intro i hb hlb hk g1 g2 hvb hle
      have hti := vTm_le rl w q i
      refine fx_wpL [6] 40 (pk_le n i (fun hc => by omega) (fun _ => ?_))
      refine pk_le e (vTm rl w q i) (fun hc => ⟨?_, hb, hlb, rfl, g1, g2⟩) (fun hc => ?_)
      · have := vTm_mono rl w q i (m + 1)
        rw [hk] at this
        rw [Nat.min_eq_right (by omega), show vTm rl w q i = e by omega]
      · obtain ⟨hi2, hl2, hg2, p1, p2, hv2⟩ := x_tryStep (d := d) (hn.fr g1 g2) hvb (hs.it rl i) (hg.it h4 rl i) (by rw [vIt_10]; omega)
        refine ⟨_, _, hg2, ?_⟩
        by_cases hw : vWho rl i w = some q
        · refine ⟨fun (z : ¬ oI (vWho rl i w) = nI q) => absurd (by rw [hw]; rfl) z, fun _ => ?_⟩
          have et : vTm rl w q (i + 1) = vTm rl w q i + 1 := by rw [vTm, if_pos hw]
          have h2 := ih (i + 1) hi2 hl2 (by omega) (g1.tr p1) (g2.tr p2) hv2 (by omega)
          rw [et, ← nI_1, ← nI_1] at h2
          exact h2
        · refine ⟨fun _ => ?_, fun (z : ¬ ¬ oI (vWho rl i w) = nI q) => absurd (oI_ne (fun l hl => by have := vWho_lt hl; omega) (by omega) hw) z⟩
          have et : vTm rl w q (i + 1) = vTm rl w q i := by rw [vTm, if_neg hw]; rfl
          have h2 := ih (i + 1) hi2 hl2 (by omega) (g1.tr p1) (g2.tr p2) hv2 (by omega)
          rw [et, ← nI_1] at h2
          exact h2
  obtain ⟨r, h', hg, e1, hi', hl', e2, e3⟩ := fx_methX (y := 111) (av := [xO, vi (nI q), vi (nI n), vi (nI e)]) fx_M111 [some xO, some (vi (nI q)), some (vi (nI n)), some (vi (nI e)), none, none] (by decide) rfl rfl (Nat.le_of_ble_eq_true rfl) (fx_wpE [6] 9 (loop n 0 hi hl (by omega) (FrY.rf hi) (FlY.rf hl) hw (Nat.zero_le _)))
  subst e1
  subst e2
  exact ⟨hi', hl', hg, e3⟩
theorem x_timesItOfAll {w : Nat → Nat} (hn : NX σ hi hl v f rl) (hw : PX hi hl 23 w) (hs : SB w) (hg : GV w) {n e : Nat} (he : e < 2 ^ 31) (h10 : w 10 + n ≤ 9999) :
    ∃ hi' hl', fx_Ga (d + 7) 112 [xO, vi (nI n), vi (nI e)] (hp σ hi hl) (some (vi (nI (min (vTa rl w n) e)))) (hp σ hi' hl') ∧ FrY hi hi' ∧ FlY hl hl' := by
  have h4 := hs.1
  let Post : Option fxV → fxH → Prop := fun r2 h2 => r2 = some (vi (nI (min (vTa rl w n) e))) ∧ ∃ hi' hl', h2 = hp σ hi' hl' ∧ FrY hi hi' ∧ FlY hl hl'
  have loop : ∀ m i (hb : fxI3) (hlb : fxL3), i + m = n → FrY hi hb → FlY hl hlb → PX hb hlb 23 (vIt rl i w) → vTa rl w i ≤ e → fx_E (fx_Ga (d + 6)) fx_M112 (5, [some xO, some (vi (nI n)), some (vi (nI e)), some (vi (nI (vTa rl w i))), some (vi (nI i))], [], hp σ hb hlb, 0, 0) Post := by
    intro m
    induction m with
    | zero =>
      intro i hb hlb hk g1 g2 hvb hle
      have : i = n := by omega
      subst this
      exact fx_wpL [5] 20 (pk_le i i (fun _ => ⟨by rw [Nat.min_eq_left hle], hb, hlb, rfl, g1, g2⟩) (fun hc => by omega))
    | succ m ih =>
      intro i hb hlb hk g1 g2 hvb hle
      have hti := vTa_le rl w i
      refine fx_wpL [5] 40 (pk_le n i (fun hc => by omega) (fun _ => ?_))
      refine pk_le e (vTa rl w i) (fun hc => ⟨?_, hb, hlb, rfl, g1, g2⟩) (fun hc => ?_)
      · have := vTa_mono rl w i (m + 1)
        rw [hk] at this
        rw [Nat.min_eq_right (by omega), show vTa rl w i = e by omega]
      · obtain ⟨hi2, hl2, hg2, p1, p2, hv2⟩ := x_tryStep (d := d) (hn.fr g1 g2) hvb (hs.it rl i) (hg.it h4 rl i) (by rw [vIt_10]; omega)
        refine ⟨_, _, hg2, ?_⟩
        cases hw : vWho rl i w with
        | none =>
          refine ⟨fun _ => ?_, fun (z : ¬ oI (vWho rl i w) = -1) => absurd (by rw [hw]; rfl) z⟩
          have et : vTa rl w (i + 1) = vTa rl w i := by rw [vTa, hw]; rfl
          have h2 := ih (i + 1) hi2 hl2 (by omega) (g1.tr p1) (g2.tr p2) hv2 (by omega)
          rw [et, ← nI_1] at h2
          exact h2
        | some l =>
          refine ⟨fun (z : oI (vWho rl i w) = -1) => absurd z (by rw [hw]; exact ne_m1 (by have := vWho_lt hw; omega)), fun _ => ?_⟩
          have et : vTa rl w (i + 1) = vTa rl w i + 1 := by rw [vTa, hw]; rfl
          have h2 := ih (i + 1) hi2 hl2 (by omega) (g1.tr p1) (g2.tr p2) hv2 (by omega)
          rw [et, ← nI_1, ← nI_1] at h2
          exact h2
  obtain ⟨r, h', hg, e1, hi', hl', e2, e3⟩ := fx_methX (y := 112) (av := [xO, vi (nI n), vi (nI e)]) fx_M112 [some xO, some (vi (nI n)), some (vi (nI e)), none, none] (by decide) rfl rfl (Nat.le_of_ble_eq_true rfl) (fx_wpE [5] 9 (loop n 0 hi hl (by omega) (FrY.rf hi) (FlY.rf hl) hw (Nat.zero_le _)))
  subst e1
  subst e2
  exact ⟨hi', hl', hg, e3⟩
theorem x_leastPace (hn : NX σ hi hl v f rl) (hH : HV v) (r n : Int32) : QX (d + 8) 110 [xO, vi r, vi n] σ hi hl (aLeast rl v r n) := by
  obtain ⟨hv, hg, hs, n4, n5, n6, n7, n8, n9⟩ := id hn
  have h10 := hH.2
  have h4 := hs.1
  refine QX_of fx_M110 [some xO, some (vi r), some (vi n), none] (by decide) rfl rfl (Nat.le_of_ble_eq_true rfl) (fx_wpE [28] 40 ?_)
  refine ⟨_, _, x_hasRider hv h4 r, bd_if (fun hc => QX.same (if_neg (fun z => hc z.1)).symm) (fun hc => ?_)⟩
  refine ⟨_, _, x_within n 1 60, bd_nf (fun hc2 => ?_) (fun hc2 => QX.same (if_neg (fun z => hc2 z.2)).symm)⟩
  obtain ⟨q, q4, q6, er, ec⟩ := isR_of hc h4
  obtain ⟨k, k1, k3, en, ek⟩ := rg_of (a := 1) (b := 60) hc2 (by decide) (by decide)
  generalize eA : aLeast rl v r n = A
  have loop : ∀ m p (hb : fxI3) (hlb : fxL3), p + m = 10 → 1 ≤ p → FrY hi hb → FlY hl hlb → A = fI (vFst (fun p => decide (vTm rl (vup v (13 + 4 * q) p) q k = 0)) m p) → fx_E (fx_Ga (d + 7)) fx_M110 (28, [some xO, some (vi r), some (vi n), some (vi (nI p))], [], hp σ hb hlb, 0, 0) (QXP σ hi hl A) := by
    intro m
    induction m with
    | zero =>
      intro p hb hlb hk _ g1 g2 eA
      exact fx_wpL [28] 20 (pk_lt 9 p (fun _ => ⟨by rw [eA]; rfl, hb, hlb, rfl, g1, g2⟩) (fun hc => by omega))
    | succ m ih =>
      intro p hb hlb hk p1 g1 g2 eA
      refine fx_wpL [28] 40 (pk_lt 9 p (fun hc => by omega) (fun _ => ?_))
      obtain ⟨hi1, hl1, hg1, f1, f2, hv1⟩ := x_tryFromNow (d := d + 5) (σ := σ) (hv.y (by omega) g1 g2) h4
      refine ⟨_, _, hg1, ni_inx (n := q) (m := 6) er q6 (by decide), ?_⟩
      have g3 : FrY hi (fx_up hi1 22 23 q (nI p)) := (g1.tr f1).tr (FrY.up hi1 _ (by unfold scx; omega))
      obtain ⟨hi2, hl2, hg2, f3, f4⟩ := x_timesItOf (d := d) (q := q) (n := k) (e := 1) (hn.fr g3 (g2.tr f2)) (hv1.pace (y := p) q6) (hs.pace (by omega)) (hg.pace q6) q6 (by decide) (by rw [vup_ne (by omega)]; omega)
      rw [← er, ← en] at hg2
      have ehp : hp σ (fx_up hi1 22 23 q (nI p)) hl1 = fx_wi (hp σ hi1 hl1) 22 23 r.toNatClampNeg (nI p) := by rw [ec]; rfl
      rw [ehp] at hg2
      refine ⟨_, _, hg2, ?_⟩
      refine nn_eq (min (vTm rl (vup v (13 + 4 * q) p) q k) 1) 0 (fun h0 => ?_) (fun h0 => ?_) rfl rfl (Nat.lt_of_le_of_lt (Nat.min_le_right _ _) (by decide))
      · refine ⟨?_, hi2, hl2, rfl, g3.tr f3, (g2.tr f2).tr f4⟩
        rw [eA, vFst, if_pos (decide_eq_true (by omega))]
        rfl
      · have h2 := ih (p + 1) hi2 hl2 (by omega) (by omega) (g3.tr f3) ((g2.tr f2).tr f4) (by rw [eA, vFst, if_neg (by rw [decide_eq_false (by omega)]; decide)])
        rw [← nI_1] at h2
        exact h2
  exact loop 9 1 hi hl rfl (by decide) (FrY.rf hi) (FlY.rf hl) (by rw [← eA]; unfold aLeast; rw [if_pos ⟨hc, hc2⟩, ec, ek])
theorem m_leastPace (hn : NM hi v rl) (hH : HV v) (r n : Int32) : QM (d + 8) 221 [mO, vi r, vi n] σ hi hl v (aLeast rl v r n) := by
  obtain ⟨hv, hs, hf, hr⟩ := hn
  have h10 := hH.2
  have h4 := hs.1
  refine QM_of fx_M221 [some mO, some (vi r), some (vi n), none, none, none] (by decide) rfl rfl (Nat.le_of_ble_eq_true rfl) (fx_wpE [32] 40 ?_)
  refine ⟨_, _, m_isRider hv r, bd_if (fun hc => QM.same hv (if_neg (fun z => hc z.1)).symm) (fun hc => ?_)⟩
  refine ⟨_, _, m_inN n 1 60 rfl rfl, bd_nf (fun hc2 => ?_) (fun hc2 => QM.same hv (if_neg (fun z => hc2 z.2)).symm)⟩
  obtain ⟨q, q4, q6, er, ec⟩ := isR_of hc h4
  obtain ⟨k, k1, k3, en, ek⟩ := rg_of (a := 1) (b := 60) hc2 (by decide) (by decide)
  obtain ⟨g, hg1, hk⟩ := m_keeps (d := d + 6) (σ := σ) (hl := hl) hv
  have f1 : FrQ hi (fx_all hi 63 0 g) := FrQ.all hi g (fun s => by unfold scr; omega)
  refine ⟨_, _, hg1, ?_⟩
  generalize eA : aLeast rl v r n = A
  have e13 : (12 + 4 * r + 1 : Int32) = nI (13 + 4 * q) := by rw [er]; exact ri_1 q
  have loop : ∀ m p (hb : fxI3) (hlb : fxL3) l5, p + m = 10 → 1 ≤ p → FrQ hi hb → FlQ hl hlb → PM hb v → KP hb v → A = fI (vFst (fun p => decide (vTm rl (vup v (13 + 4 * q) p) q k = 0)) m p) → fx_E (fx_Ga (d + 7)) fx_M221 (32, [some mO, some (vi r), some (vi n), some (vi (-2)), some (vi (nI p)), l5], [], hp σ hb hlb, 0, 0) (QMP σ hi hl v A) := by
    intro m
    induction m with
    | zero =>
      intro p hb hlb l5 hk _ g1 g2 hvb _ eA
      exact fx_wpL [32] 20 (pk_lt 9 p (fun _ => ⟨by rw [eA]; rfl, hb, hlb, rfl, g1, g2, hvb⟩) (fun hc => by omega))
    | succ m ih =>
      intro p hb hlb l5 hk p1 g1 g2 hvb hkb eA
      refine fx_wpL [32] 60 (pk_lt 9 p (fun hc => by omega) (fun _ => ?_))
      refine ⟨fun z => absurd z (by decide), fun _ => ?_⟩
      refine ⟨ni_inx (n := 13 + 4 * q) (m := 83) e13 (by omega) (by decide), ?_⟩
      have hv1 := hvb.put (x := 13 + 4 * q) (y := p) (by omega)
      have fq : FrQ hb (fx_up hb 59 0 (13 + 4 * q) (nI p)) := FrQ.up hb _ (Or.inl rfl)
      have ehp : hp σ (fx_up hb 59 0 (13 + 4 * q) (nI p)) hlb = fx_wi (hp σ hb hlb) 59 0 (12 + 4 * r + 1 : Int32).toNatClampNeg (nI p) := by rw [ni_cl e13 (by omega)]; rfl
      have hw1 := m_wasOf (d := d + 6) (σ := σ) (hl := hlb) hv1 q6
      rw [vup_ne (show 15 + 4 * q ≠ 13 + 4 * q by omega), ← er, ehp] at hw1
      refine ⟨_, _, hw1, ?_⟩
      obtain ⟨hi2, hl2, hg2, f3, f4, hv2⟩ := m_passesAll (d := d) (σ := σ) (hl := hlb) (n := k) (rl := rl) hv1 (hs.pace (by omega)) (by rw [vup_ne (by omega)]; omega) (FM_q (g1.tr fq) hf) (WN_q (g1.tr fq) hr)
      rw [← en, ehp] at hg2
      refine ⟨_, _, hg2, ?_⟩
      have hw2 := m_wasOf (d := d + 6) (σ := σ) (hl := hl2) hv2 q6
      rw [vIt_was, vup_ne (show 15 + 4 * q ≠ 13 + 4 * q by omega), ← er] at hw2
      refine ⟨_, _, hw2, ?_⟩
      have hs2 : ∀ x, x < 10 ∨ 38 ≤ x → vIt rl k (vup v (13 + 4 * q) p) x = v x := fun x hx => (it_same rl (by rw [vup_ne (by omega)]; exact h4) k x hx).trans (vup_ne (by omega))
      have hkb2 : KP (fx_up hb 59 0 (13 + 4 * q) (nI p)) v := hkb
      obtain ⟨g3, hg3, hv3⟩ := m_laysBack (d := d + 6) (σ := σ) (hl := hl2) hv2 (hkb2.fr f3) hs2
      have F1 := g1.tr (fq.tr (f3.q.tr (FrQ.all (k := 59) (j := 0) hi2 g3 (fun s => Or.inl rfl))))
      have F2 := g2.tr f4.q
      have hti := vTm_le rl (vup v (13 + 4 * q) p) q k
      have hwq := (hs.2.2.2.2.2 q q6).2.2.2
      refine nn_eq (v (15 + 4 * q) + vTm rl (vup v (13 + 4 * q) p) q k) (v (15 + 4 * q)) (fun h0 => ?_) (fun h0 => ?_)
      · refine ⟨_, _, hg3, ?_⟩
        have eA2 : nI p = A := by
          rw [eA, vFst, if_pos (decide_eq_true (by omega))]
          rfl
        refine fx_wpL [] 20 ⟨fun _ => ⟨by rw [eA2], _, _, rfl, F1, F2, hv3⟩, fun _ => ⟨fun _ => ⟨by rw [eA2], _, _, rfl, F1, F2, hv3⟩, fun z => absurd (nI_pos' (by omega)) z⟩⟩
      · refine ⟨_, _, hg3, ?_⟩
        have hkb3 : KP hi2 v := hkb2.fr f3
        have hkb4 : KP (fx_all hi2 59 0 g3) v := hkb3
        have h2 := ih (p + 1) _ hl2 (some (vi (nI (v (15 + 4 * q))))) (by omega) (by omega) F1 F2 hv3 hkb4 (by rw [eA, vFst, if_neg (by rw [decide_eq_false (by omega)]; decide)])
        rw [← nI_1] at h2
        exact h2
  exact loop 9 1 _ hl _ rfl (by decide) f1 (FlQ.rf hl) hv hk (by rw [← eA]; unfold aLeast; rw [if_pos ⟨hc, hc2⟩, ec, ek])
end A2
