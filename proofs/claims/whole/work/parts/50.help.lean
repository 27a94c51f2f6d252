/-! help -/
def vSt (v : Nat → Nat) (s : Nat) : Nat → Nat → Nat
  | 0 => v
  | i + 1 => if s.testBit i then vup (vSt v s i) (13 + 4 * i) 9 else vSt v s i
theorem vSt_ne (v : Nat → Nat) (s : Nat) : ∀ i k, k % 4 ≠ 1 ∨ k < 12 ∨ 12 + 4 * i ≤ k → vSt v s i k = v k
  | 0, _, _ => rfl
  | i + 1, k, h => by
    unfold vSt
    split
    · rw [vup_ne (by omega)]
      exact vSt_ne v s i k (by omega)
    · exact vSt_ne v s i k (by omega)
theorem SB.st {v : Nat → Nat} (h : SB v) (s : Nat) : ∀ i, SB (vSt v s i)
  | 0 => h
  | i + 1 => by
    unfold vSt
    split
    · exact (h.st s i).pace (by decide)
    · exact h.st s i
/-- nobody of the first k is it twice in n steps -/
def vNb (rl : Option fxRl) (u : Nat → Nat) (n : Nat) : Nat → Bool
  | 0 => true
  | i + 1 => vNb rl u n i && decide (vTm rl u i n < 2)
theorem vNb_iff (rl : Option fxRl) (u : Nat → Nat) (n : Nat) : ∀ k, vNb rl u n k = true ↔ ∀ i, i < k → vTm rl u i n < 2
  | 0 => ⟨fun _ i h => absurd h (by omega), fun _ => rfl⟩
  | k + 1 => by
    unfold vNb
    rw [Bool.and_eq_true, vNb_iff rl u n k, decide_eq_true_iff]
    constructor
    · intro h i hi
      by_cases e : i = k
      · subst e; exact h.2
      · exact h.1 i (by omega)
    · exact fun h => ⟨fun i hi => h i (by omega), h k (by omega)⟩
/-- the best set: fewest, then least -/
def vBe (G : Nat → Bool) : Nat → Option Nat
  | 0 => none
  | s + 1 => match vBe G s with
    | none => if G s then some s else none
    | some b => if vPc s < vPc b ∧ G s = true then some s else some b
theorem vBe_ok (G : Nat → Bool) : ∀ n, (vBe G n = none ∧ ∀ s, s < n → G s = false) ∨ ∃ b, vBe G n = some b ∧ b < n ∧ G b = true ∧ ∀ s, s < n → G s = true → vPc b < vPc s ∨ vPc b = vPc s ∧ b ≤ s
  | 0 => Or.inl ⟨rfl, fun s h => absurd h (by omega)⟩
  | n + 1 => by
    rcases vBe_ok G n with ⟨e, h⟩ | ⟨b, e, hb, hg, h⟩
    · by_cases hG : G n = true
      · right
        refine ⟨n, by rw [vBe, e]; exact if_pos hG, by omega, hG, fun s hs hgs => ?_⟩
        by_cases es : s = n
        · subst es
          exact Or.inr ⟨rfl, Nat.le_refl _⟩
        · rw [h s (by omega)] at hgs
          cases hgs
      · left
        refine ⟨by rw [vBe, e]; exact if_neg hG, fun s hs => ?_⟩
        by_cases es : s = n
        · subst es
          simpa using hG
        · exact h s (by omega)
    · right
      by_cases hc : vPc n < vPc b ∧ G n = true
      · refine ⟨n, by rw [vBe, e]; exact if_pos hc, by omega, hc.2, fun s hs hgs => ?_⟩
        by_cases es : s = n
        · subst es
          exact Or.inr ⟨rfl, Nat.le_refl _⟩
        · have := h s (by omega) hgs
          omega
      · refine ⟨b, by rw [vBe, e]; exact if_neg hc, by omega, hg, fun s hs hgs => ?_⟩
        by_cases es : s = n
        · subst es
          have : ¬ vPc s < vPc b := fun z => hc ⟨z, hgs⟩
          omega
        · exact h s (by omega) hgs
theorem vFst_no (P : Nat → Bool) : ∀ k i, (∀ m, i ≤ m → m < i + k → P m = false) → vFst P k i = none
  | 0, _, _ => rfl
  | k + 1, i, h => by
    unfold vFst
    rw [h i (Nat.le_refl _) (by omega)]
    exact vFst_no P k (i + 1) (fun m h1 h2 => h m (by omega) (by omega))
theorem vFst_yes (P : Nat → Bool) : ∀ k i m, i ≤ m → m < i + k → P m = true → (∀ x, i ≤ x → x < m → P x = false) → vFst P k i = some m
  | 0, i, m, h1, h2, _, _ => by omega
  | k + 1, i, m, h1, h2, hp, hn => by
    unfold vFst
    by_cases e : i = m
    · subst e
      rw [hp]
      rfl
    · rw [hn i (Nat.le_refl _) (by omega)]
      exact vFst_yes P k (i + 1) m (by omega) (by omega) hp (fun x a b => hn x (by omega) b)
def orE (a b : Option Nat) : Option Nat := match a with
  | some s => some s
  | none => b
theorem vFst_t {P : Nat → Bool} {k i : Nat} (h : P i = true) : vFst P (k + 1) i = some i := by
  unfold vFst
  rw [h]
  rfl
theorem vFst_f {P : Nat → Bool} {k i : Nat} (h : P i = false) : vFst P (k + 1) i = vFst P k (i + 1) := by
  rw [vFst, h]
  rfl
def vHp (G : Nat → Bool) (N : Nat) : Nat → Nat → Option Nat
  | 0, _ => none
  | k + 1, z => orE (vFst (fun s => decide (vPc s = z) && G s) N 0) (vHp G N k (z + 1))
def hA (w : Int32) (o : Option Nat) : Int32 := match o with
  | none => -2
  | some b => if w = 0 then nI (vPc b) else nI b
theorem vHp_none (G : Nat → Bool) (N : Nat) (h : ∀ s, s < N → G s = false) : ∀ k z, vHp G N k z = none
  | 0, _ => rfl
  | k + 1, z => by
    unfold vHp
    rw [vFst_no _ N 0 (fun m _ hm => by rw [h m (by omega), Bool.and_false])]
    exact vHp_none G N h k (z + 1)
theorem vHp_some (G : Nat → Bool) (N b : Nat) (hb : b < N) (hg : G b = true) (h : ∀ s, s < N → G s = true → vPc b < vPc s ∨ vPc b = vPc s ∧ b ≤ s) : ∀ k z, z ≤ vPc b → vPc b < z + k → vHp G N k z = some b
  | 0, z, h1, h2 => by omega
  | k + 1, z, h1, h2 => by
    unfold vHp
    by_cases e : z = vPc b
    · rw [vFst_yes _ N 0 b (by omega) (by omega) (by rw [hg, Bool.and_true, decide_eq_true e.symm]) (fun x _ hx => by
        by_cases gx : G x = true
        · have := h x (by omega) gx
          rw [decide_eq_false (by omega), Bool.false_and]
        · rw [show G x = false by simpa using gx, Bool.and_false])]
      rfl
    · rw [vFst_no _ N 0 (fun m _ hm => by
        by_cases gx : G m = true
        · have := h m (by omega) gx
          rw [decide_eq_false (by omega), Bool.false_and]
        · rw [show G m = false by simpa using gx, Bool.and_false])]
      exact vHp_some G N b hb hg h k (z + 1) (by omega) (by omega)
theorem vHp_eq (G : Nat → Bool) (N r : Nat) (hr : ∀ s, s < N → vPc s ≤ r) : vHp G N (r + 1) 0 = vBe G N := by
  rcases vBe_ok G N with ⟨e, h⟩ | ⟨b, e, hb, hg, h⟩
  · rw [e]
    exact vHp_none G N h _ _
  · rw [e]
    exact vHp_some G N b hb hg h _ _ (Nat.zero_le _) (by have := hr b hb; omega)
theorem pc_le : ∀ r, r ≤ 6 → ∀ s, s < 2 ^ r → vPc s ≤ r := by decide +kernel
def vGs (rl : Option fxRl) (v : Nat → Nat) (n s : Nat) : Bool := vNb rl (vSt v s (v 4)) n (v 4)
def aHelp (rl : Option fxRl) (v : Nat → Nat) (n w : Int32) : Int32 := if v 0 = 1 ∧ (1 ≤ n ∧ n ≤ 60) ∧ (0 ≤ w ∧ w ≤ 1) then hA w (vBe (vGs rl v n.toNatClampNeg) (2 ^ v 4)) else -1
theorem bit_z {a k : Nat} (ha : a < 2 ^ 31) (hk : k < 32) : (nI a >>> (nI k &&& 31)) &&& 1 = 0 ↔ a.testBit k = false := by
  rw [pk_shrN ha _ k (sh_ix k hk)]
  have h1 : a / 2 ^ k < 2 ^ 32 := Nat.lt_of_le_of_lt (Nat.div_le_self _ _) (by omega)
  rw [pk_andN h1 (m := 1) 1 (by decide), Nat.testBit_eq_decide_div_mod_eq, decide_eq_false_iff_not]
  show nI _ = nI 0 ↔ _
  rw [nI_eq (by omega) (by decide)]
  omega
theorem sh_6 : ∀ r, r ≤ 6 → (1 : Int32) <<< (nI r &&& 31) = nI (2 ^ r) := by decide +kernel
section HP
variable {d : Nat} {σ : fxS} {hi : fxI3} {hl : fxL3} {v : Nat → Nat} {rl : Option fxRl} {f : Option Nat}
theorem x_helps (hn : NX σ hi hl v f rl) (hH : HV v) {s n : Nat} (s64 : s < 64) (hn60 : n ≤ 60) : ∃ hi' hl', fx_Ga (d + 7) 117 [xO, vi (nI s), vi (nI n)] (hp σ hi hl) (some (vi (b01 (vGs rl v n s)))) (hp σ hi' hl') ∧ FrY hi hi' ∧ FlY hl hl' := by
  obtain ⟨hv, hg, hs, n4, n5, n6, n7, n8, n9⟩ := id hn
  have h10 := hH.2
  have h4 := hs.1
  let Post : Option fxV → fxH → Prop := fun r2 h2 => r2 = some (vi (b01 (vGs rl v n s))) ∧ ∃ hi' hl', h2 = hp σ hi' hl' ∧ FrY hi hi' ∧ FlY hl hl'
  obtain ⟨hi1, hl1, hg1, f1, f2, hv1⟩ := x_tryFromNow (d := d + 4) (σ := σ) hv h4
  generalize hu : vSt v s (v 4) = u
  have u4 : u 4 = v 4 := by rw [← hu]; exact vSt_ne v s _ 4 (by omega)
  have u10 : u 10 = v 10 := by rw [← hu]; exact vSt_ne v s _ 10 (by omega)
  have uw : ∀ i, u (15 + 4 * i) = v (15 + 4 * i) := fun i => by rw [← hu]; exact vSt_ne v s _ _ (by omega)
  have hsu : SB u := by rw [← hu]; exact hs.st s _
  have hgu : GV u := by rw [← hu]; exact GV_of hg (vSt_ne v s _ 1 (by omega)) (vSt_ne v s _ 36 (by omega)) (vSt_ne v s _ 37 (by omega))
  have egs : vGs rl v n s = vNb rl u n (v 4) := by unfold vGs; rw [hu]
  -- the steps
  have loopB : ∀ m i (hb : fxI3) (hlb : fxL3) l4, i + m = n → FrY hi hb → FlY hl hlb → PX hb hlb 23 (vIt rl i u) → (∀ q, q < v 4 → vTm rl u q i < 2) → fx_E (fx_Ga (d + 6)) fx_M117 (44, [some xO, some (vi (nI s)), some (vi (nI n)), some (vi (nI i)), l4], [], hp σ hb hlb, 0, 0) Post := by
    intro m
    induction m with
    | zero =>
      intro i hb hlb l4 hk g1 g2 hvb hall
      have : i = n := by omega
      subst this
      refine fx_wpL [44] 20 (pk_le i i (fun _ => ⟨Or.inr rfl, ?_, hb, hlb, rfl, g1, g2⟩) (fun hc => by omega))
      rw [egs, (vNb_iff rl u i (v 4)).mpr hall]
      rfl
    | succ m ih =>
      intro i hb hlb l4 hk g1 g2 hvb hall
      have hsv := (hsu.it rl i).sv (by rw [vIt_10]; omega)
      refine fx_wpL [44] 60 (pk_le n i (fun hc => by omega) (fun _ => ?_))
      obtain ⟨hi2, hl2, hg2, p1, p2, hv2⟩ := x_tryStep (d := d) (hn.fr g1 g2) hvb (hsu.it rl i) (hgu.it hsu.1 rl i) (by rw [vIt_10]; omega)
      have hv2 : PX hi2 hl2 23 (vIt rl (i + 1) u) := hv2
      have e4' : vIt rl (i + 1) u 4 = v 4 := (vIt_lo rl u (by decide) _).trans u4
      have hhr := fun r => x_hasRider (d := d + 5) (σ := σ) hv2 (by rw [e4']; exact h4) r
      rw [e4'] at hhr
      refine ⟨_, _, hg2, _, _, hhr _, ?_⟩
      cases hw : (vStep (vIt rl i u) rl none).2 with
      | none =>
        refine bd_if (fun _ => ?_) (fun hc => absurd hc.1 (by decide))
        have h2 := ih (i + 1) hi2 hl2 (some (vi (oI none))) (by omega) (g1.tr p1) (g2.tr p2) hv2 (fun q hq => by
          rw [vTm, show vWho rl i u = none from hw]
          exact hall q hq)
        rw [← nI_1] at h2
        exact h2
      | some l =>
        have l4 : l < v 4 := by
          have := vWho_lt (rl := rl) (v := u) (k := i) hw
          omega
        have et : vTm rl u l (i + 1) = vTm rl u l i + 1 := by rw [vTm, if_pos (show vWho rl i u = some l from hw)]
        have hal := hall l l4
        have bl := ni_in (n := l) (m := 6) (by omega) (by decide)
        have cl : (nI l).toNatClampNeg = l := nI_clamp (by omega)
        have ea : hi2 24 23 (nI l).toNatClampNeg = nI (v (15 + 4 * l) + vTm rl u l (i + 1)) := by
          rw [cl, (hv2.2.2.2.2.2.2.2 l (by rw [e4']; exact l4)).2.2.2, vIt_was, uw]
        have eb : hi2 24 2 (nI l).toNatClampNeg = nI (v (15 + 4 * l)) := by
          rw [cl]
          exact ((hv.y (by omega) (g1.tr p1) (g2.tr p2)).2.2.2.2.2.2.2 l l4).2.2.2
        have esub : hi2 24 23 (nI l).toNatClampNeg - hi2 24 2 (nI l).toNatClampNeg = nI (vTm rl u l (i + 1)) := by
          rw [ea, eb, pk_sub (Nat.le_add_right _ _), Nat.add_sub_cancel_left]
        refine bd_if (fun hc => absurd ⟨nI_pos' (by omega), nI_lt l4 (by omega)⟩ hc) (fun _ => ?_)
        refine ⟨bl, bl, pk_le (vTm rl u l (i + 1)) 1 (fun hle => ?_) (fun hgt => ⟨Or.inl rfl, ?_, hi2, hl2, rfl, g1.tr p1, g2.tr p2⟩) esub⟩
        · have h2 := ih (i + 1) hi2 hl2 (some (vi (oI (some l)))) (by omega) (g1.tr p1) (g2.tr p2) hv2 (fun q hq => by
            by_cases e : q = l
            · subst e
              omega
            · rw [vTm, if_neg (by rw [show vWho rl i u = some l from hw]; exact fun z => e (Option.some.inj z).symm)]
              exact hall q hq)
          rw [← nI_1] at h2
          exact h2
        · have : vNb rl u n (v 4) = false := by
            cases hb : vNb rl u n (v 4) with
            | false => rfl
            | true =>
              have h1 := (vNb_iff rl u n (v 4)).mp hb l l4
              have h2 := vTm_mono rl u l (i + 1) m
              rw [show i + 1 + m = n by omega] at h2
              omega
          rw [egs, this]
          rfl
  -- the paces
  have loopA : ∀ m i (hb : fxI3) (hlb : fxL3), i + m = v 4 → FrY hi hb → FlY hl hlb → PX hb hlb 23 (vSt v s i) → fx_E (fx_Ga (d + 6)) fx_M117 (6, [some xO, some (vi (nI s)), some (vi (nI n)), some (vi (nI i)), none], [], hp σ hb hlb, 0, 0) Post := by
    intro m
    induction m with
    | zero =>
      intro i hb hlb hk g1 g2 hvb
      have : i = v 4 := by omega
      subst this
      rw [hu] at hvb
      refine fx_wpL [6, 44] 20 (pk_le (v 4) (v 4) (fun _ => ?_) (fun hc => by omega) (by rw [← u4]; exact hvb.2.2.2.1))
      exact loopB n 0 hb hlb none (by omega) g1 g2 hvb (fun q _ => by show 0 < 2; decide)
    | succ m ih =>
      intro i hb hlb hk g1 g2 hvb
      have i6 : i < 6 := by omega
      refine fx_wpL [6, 44] 40 (pk_le (v 4) i (fun hc => by omega) (fun _ => ?_) (by rw [← vSt_ne v s i 4 (by omega)]; exact hvb.2.2.2.1))
      refine ⟨fun (hc : (nI s >>> (nI i &&& 31)) &&& 1 = 0) => ?_, fun (hc : ¬ (nI s >>> (nI i &&& 31)) &&& 1 = 0) => ?_⟩
      · rw [bit_z (by omega) (by omega)] at hc
        have h2 := ih (i + 1) hb hlb (by omega) g1 g2 (by rw [vSt, hc]; exact hvb)
        rw [← nI_1] at h2
        exact h2
      · rw [bit_z (by omega) (by omega)] at hc
        have hc : s.testBit i = true := by simpa using hc
        refine ⟨ni_in (n := i) (m := 6) i6 (by decide), ?_⟩
        have h2 := ih (i + 1) (fx_up hb 22 23 i (nI 9)) hlb (by omega) (g1.tr (FrY.up hb _ (by unfold scx; omega))) g2 (by rw [vSt, hc]; exact hvb.pace i6)
        rw [← nI_1] at h2
        conv at h2 => rw [show fx_up hb 22 23 i = fx_up hb 22 23 (nI i).toNatClampNeg by rw [nI_clamp (show i < 2 ^ 31 by omega)]]
        exact h2
  obtain ⟨r, h', hg', e1, hi', hl', e2, e3⟩ := fx_methX (y := 117) (av := [xO, vi (nI s), vi (nI n)]) (P := Post) fx_M117 [some xO, some (vi (nI s)), some (vi (nI n)), none, none] (by decide) rfl rfl (Nat.le_of_ble_eq_true rfl) (fx_wpE [6] 20 ⟨_, _, hg1, loopA (v 4) 0 hi1 hl1 (by omega) f1 f2 hv1⟩)
  subst e1
  subst e2
  exact ⟨hi', hl', hg', e3⟩
theorem x_help (hn : NX σ hi hl v f rl) (hH : HV v) (n w : Int32) : QX (d + 8) 116 [xO, vi n, vi w] σ hi hl (aHelp rl v n w) := by
  obtain ⟨hv, hg, hs, n4, n5, n6, n7, n8, n9⟩ := id hn
  have h10 := hH.2
  have h4 := hs.1
  have hh := x_isHunted (d := d + 6) (σ := σ) hv hs.2.1
  rw [hH.h] at hh
  refine QX_of fx_M116 [some xO, some (vi n), some (vi w), none, none, none] (by decide) rfl rfl (Nat.le_of_ble_eq_true rfl) (fx_wpE [42] 40 ?_)
  refine ⟨_, _, hh, bd_if (fun hc => QX.same (if_neg (fun z => hc z.1)).symm) (fun hc => ?_)⟩
  refine ⟨_, _, x_within n 1 60, bd_if (fun hc2 => QX.same (if_neg (fun z => hc2 z.2.1)).symm) (fun hc2 => ?_)⟩
  refine ⟨_, _, x_within w 0 1, bd_nf (fun hc3 => ?_) (fun hc3 => QX.same (if_neg (fun z => hc3 z.2.2)).symm)⟩
  obtain ⟨k, k1, k3, en, ek⟩ := rg_of (a := 1) (b := 60) hc2 (by decide) (by decide)
  have hN : 2 ^ v 4 ≤ 64 := Nat.le_trans (Nat.pow_le_pow_right (by decide) h4) (by decide)
  generalize eA : aHelp rl v n w = A
  have eA : A = hA w (vHp (vGs rl v k) (2 ^ v 4) (v 4 + 1) 0) := by
    rw [← eA, vHp_eq _ _ _ (pc_le (v 4) h4)]
    unfold aHelp
    rw [if_pos ⟨hc, hc2, hc3⟩, ek]
  have eN : (1 : Int32) <<< (nI (v 4) &&& 31) = nI (2 ^ v 4) := sh_6 (v 4) h4
  generalize 2 ^ v 4 = N at hN eA eN
  have loop : ∀ m z (hb : fxI3) (hlb : fxL3) a3 l5, z + m = v 4 + 1 → a3 = nI (v 4) → FrY hi hb → FlY hl hlb → A = hA w (vHp (vGs rl v k) N m z) → fx_E (fx_Ga (d + 7)) fx_M116 (42, [some xO, some (vi n), some (vi w), some (vi a3), some (vi (nI z)), l5], [], hp σ hb hlb, 0, 0) (QXP σ hi hl A) := by
    intro m
    induction m with
    | zero =>
      intro z hb hlb a3 l5 hk e3 g1 g2 eA
      have eA : A = -2 := eA
      exact fx_wpL [42] 20 (pk_lt (v 4) z (fun _ => ⟨by rw [eA]; rfl, hb, hlb, rfl, g1, g2⟩) (fun hc => by omega) e3)
    | succ m ih =>
      intro z hb hlb a3 l5 hk e3 g1 g2 eA
      have inner : ∀ t s (hc : fxI3) (hlc : fxL3), s + t = N → FrY hi hc → FlY hl hlc → A = hA w (orE (vFst (fun s => decide (vPc s = z) && vGs rl v k s) t s) (vHp (vGs rl v k) N m (z + 1))) → fx_E (fx_Ga (d + 7)) fx_M116 (51, [some xO, some (vi n), some (vi w), some (vi a3), some (vi (nI z)), some (vi (nI s))], [], hp σ hc hlc, 0, 0) (QXP σ hi hl A) := by
        intro t
        have ebr : (1 : Int32) <<< (a3 &&& 31) = nI N := by rw [e3]; exact eN
        induction t with
        | zero =>
          intro s hc hlc hs2 g3 g4 eA
          refine fx_wpL [42, 51] 20 (pk_le N s (fun _ => ?_) (fun hc => by omega) ebr)
          have h2 := ih (z + 1) hc hlc a3 (some (vi (nI s))) (by omega) e3 g3 g4 eA
          rw [← nI_1] at h2
          exact h2
        | succ t iht =>
          intro s hc hlc hs2 g3 g4 eA
          have hsp : s < 64 := by omega
          have hpl := pc_le 6 (by decide) s hsp
          refine fx_wpL [42, 51] 40 (pk_le N s (fun hc => by omega) (fun _ => ?_) ebr)
          refine ⟨_, _, j_ibc, nn_eq (vPc s) z (fun hpz => ?_) (fun hpz => ?_) (ibc_64 s hsp)⟩
          · obtain ⟨hi2, hl2, hg2, p1, p2⟩ := x_helps (d := d) (hn.fr g3 g4) hH (s := s) (n := k) hsp k3
            rw [← en] at hg2
            refine ⟨_, _, hg2, b01_if (fun hgf => ?_) (fun hgt => ?_)⟩
            · have h2 := iht (s + 1) hi2 hl2 (by omega) (g3.tr p1) (g4.tr p2) (by rw [eA, vFst_f (by rw [hgf, Bool.and_false])])
              rw [← nI_1] at h2
              exact h2
            · rw [vFst_t (by rw [hgt, decide_eq_true hpz]; rfl)] at eA
              have eA : A = if w = 0 then nI (vPc s) else nI s := eA
              refine ⟨fun (z : ¬ w = 0) => ⟨by rw [eA, if_neg z], hi2, hl2, rfl, g3.tr p1, g4.tr p2⟩, fun (z : ¬ ¬ w = 0) => ⟨by rw [eA, if_pos (Classical.not_not.mp z), hpz], hi2, hl2, rfl, g3.tr p1, g4.tr p2⟩⟩
          · have h2 := iht (s + 1) hc hlc (by omega) g3 g4 (by rw [eA, vFst_f (by rw [decide_eq_false hpz, Bool.false_and])])
            rw [← nI_1] at h2
            exact h2
      refine fx_wpL [42, 51] 20 (pk_lt (v 4) z (fun hc => by omega) (fun _ => ?_) e3)
      exact inner N 0 hb hlb (by omega) g1 g2 eA
  exact loop (v 4 + 1) 0 hi hl _ none (by omega) hv.2.2.2.1 (FrY.rf hi) (FlY.rf hl) eA
end HP
