/-! the class: a rule's fields, the words of a rider -/
def vBool (q : List Nat) : Prop := ∀ w, (vEv w q []).headD 0 = 0 ∨ (vEv w q []).headD 0 = 1
def RXl (σ : fxS) (hi : fxI3) (t : Nat) : fxRl → Nat → Nat → Prop
  | [], c, p => hi 45 (3 * t + 1) c = nI p
  | (s, o) :: r, c, p => hi 45 (3 * t + 1) c = nI p ∧ hi 45 (3 * t + 2) c = nI (p + s.length) ∧ p + s.length + (o.getD []).length ≤ σ.2.2.2 (3 * t) ∧ cods hi t p s ∧ cods hi t (p + s.length) (o.getD []) ∧ vDp s 0 = some 1 ∧ (∀ q, o = some q → vDp q 0 = some 1 ∧ vBool q) ∧ RXl σ hi t r (c + 1) (p + s.length + (o.getD []).length)
def RX (σ : fxS) (hi : fxI3) (t : Nat) (R : fxRl) : Prop := R.length ≤ 12 ∧ σ.2.2.2 (3 * t) ≤ 400 ∧ hi 5 t 1 = nI R.length ∧ σ.2.2.2 (3 * t + 1) = R.length + 1 ∧ σ.2.2.2 (3 * t + 2) = R.length ∧ RXl σ hi t R 0 0
theorem RXl_at {σ : fxS} {hi : fxI3} {t : Nat} {R : fxRl} {c p : Nat} (h : RXl σ hi t R c p) : hi 45 (3 * t + 1) c = nI p := by
  match R, h with
  | [], h => exact h
  | (s, o) :: r, h => exact h.1
section XF
variable {d : Nat} {σ : fxS} {hi : fxI3} {hl : fxL3}
theorem x_fields {t : Nat} {R0 : fxRl} {w : Nat → Int64} (hR : RX σ hi t R0) (hw : ∀ k, k < 11 → hl 36 0 k = w k) :
    ∃ g, fx_Ga (d + 3) 41 [.inr (.inr (some (5, t))), wO, sO] (hp σ hi hl) (some (vl (vRule w R0))) (hp σ hi (fx_all hl 37 0 g)) := by
  obtain ⟨hlen, hK, h51, l1, l2, hRl⟩ := hR
  have loop : ∀ (R : fxRl) (c p : Nat), c + R.length = R0.length → RXl σ hi t R c p → ∀ (g : Nat → Int64) l4, fx_E (fx_Ga (d + 2)) fx_M41 (2, [some (.inr (.inr (some (5, t)))), some wO, some sO, some (vi (nI c)), l4], [], hp σ hi (fx_all hl 37 0 g), 0, 0) (fun r2 h2 => r2 = some (vl (vRule w R)) ∧ ∃ g', h2 = hp σ hi (fx_all hl 37 0 g')) := by
    intro R
    induction R with
    | nil =>
      intro c p hc _ g l4
      refine fx_wpL [2] 20 ?_
      refine pk_le R0.length c (fun _ => ⟨rfl, g, rfl⟩) (fun h => by simp at hc; omega) h51
    | cons q R ih =>
      obtain ⟨s, o⟩ := q
      intro c p hc hRX g l4
      have hcl : c + (R.length + 1) = R0.length := hc
      obtain ⟨e0, e1, hp4, ks, ko, ds, dq, hRn⟩ := hRX
      have e2 := RXl_at hRn
      have cc : (nI c).toNatClampNeg = c := nI_clamp (by omega)
      have c1 : (nI c + 1 : Int32) = nI (c + 1) := nI_1 c
      have g0 : hi 45 (3 * t + 1) (nI c).toNatClampNeg = nI p := by rw [cc]; exact e0
      have g1 : hi 45 (3 * t + 2) (nI c).toNatClampNeg = nI (p + s.length) := by rw [cc]; exact e1
      have g2 : hi 45 (3 * t + 1) (nI c + 1 : Int32).toNatClampNeg = nI (p + s.length + (o.getD []).length) := by rw [ni_cl c1 (by omega)]; exact e2
      have b0 : 0 ≤ (nI c).toInt ∧ (nI c).toInt < ((σ.2.2.2 (3 * t + 1) : Nat) : Int) := by rw [l1]; exact ni_in (by omega) (by omega)
      have b1 : 0 ≤ (nI c).toInt ∧ (nI c).toInt < ((σ.2.2.2 (3 * t + 2) : Nat) : Int) := by rw [l2]; exact ni_in (by omega) (by omega)
      have b2 : 0 ≤ (nI c + 1 : Int32).toInt ∧ (nI c + 1 : Int32).toInt < ((σ.2.2.2 (3 * t + 1) : Nat) : Int) := by rw [l1]; exact ni_inx c1 (by omega) (by omega)
      have hsum : ∀ g, ∃ g', fx_Ga (d + 2) 42 [.inr (.inr (some (5, t))), vi (hi 45 (3 * t + 1) (nI c).toNatClampNeg), vi (hi 45 (3 * t + 2) (nI c).toNatClampNeg), wO, sO] (hp σ hi (fx_all hl 37 0 g)) (some (vl ((vEv w s []).headD 0))) (hp σ hi (fx_all hl 37 0 g')) := by
        intro g
        obtain ⟨g', hg⟩ := x_reckon (d := d) (σ := σ) (hi := hi) (hl := fx_all hl 37 0 g) (t := t) (b := p) (L0 := s) (w := w) (by omega) hK ks hw ds
        rw [all_all, ← g0, ← g1] at hg
        exact ⟨g', hg⟩
      refine fx_wpL [2] 60 ?_
      refine pk_le R0.length c (fun h => by omega) (fun _ => ?_) h51
      refine pk_le (σ.2.2.2 (3 * t + 1)) (c + 1) (fun h => by omega) (fun _ => ?_) rfl c1
      refine pk_le (σ.2.2.2 (3 * t + 2)) c (fun h => by omega) (fun _ => ?_)
      refine ⟨b1, b2, ?_⟩
      cases o with
      | none =>
        refine nn_eq (p + s.length) (p + s.length + 0) (fun _ => ?_) (fun h => absurd rfl h) g1 g2
        refine ⟨fun _ => ?_, fun z => absurd (show ¬ (1 : Int32) = 0 by decide) z⟩
        obtain ⟨g', hg⟩ := hsum g
        exact ⟨b0, b1, _, _, hg, rfl, g', rfl⟩
      | some q =>
        have hq4 : p + s.length + q.length ≤ σ.2.2.2 (3 * t) := hp4
        obtain ⟨dq1, dq2⟩ := dq q rfl
        have hq0 : 0 < q.length := by
          cases q with
          | nil => cases dq1
          | cons => simp
        refine nn_eq (p + s.length) (p + s.length + q.length) (fun h => by omega) (fun _ => ?_) g1 g2
        refine ⟨fun z => absurd rfl z, fun _ => ?_⟩
        obtain ⟨g', hg⟩ := x_reckon (d := d) (σ := σ) (hi := hi) (hl := fx_all hl 37 0 g) (t := t) (b := p + s.length) (L0 := q) (w := w) hq4 hK ko hw dq1
        rw [all_all, ← g1, show nI (p + s.length + q.length) = _ from g2.symm] at hg
        refine ⟨b1, b2, _, _, hg, ?_⟩
        refine ⟨fun (h1 : lg_cmp ((vEv w q []).headD 0) 0 = 0) => ?_, fun (h1 : ¬ lg_cmp ((vEv w q []).headD 0) 0 = 0) => ?_⟩
        · rw [lg_cmp_eq] at h1
          have h2 := ih (c + 1) _ (by omega) hRn g' (some (vi 0))
          rw [← nI_1] at h2
          rw [show vRule w ((s, some q) :: R) = vRule w R from if_neg (by rw [h1]; decide)]
          exact h2
        · rw [lg_cmp_eq] at h1
          obtain ⟨g'', hg'⟩ := hsum g'
          refine ⟨b0, b1, _, _, hg', ?_, g'', rfl⟩
          show _ = some (vl (if (vEv w q []).headD 0 = 1 then _ else _))
          rw [if_pos ((dq2 w).resolve_left h1)]
  obtain ⟨r, h', hg, e1, g', e2⟩ := fx_methX (d := d + 2) (y := 41) (av := [.inr (.inr (some (5, t))), wO, sO]) (h := hp σ hi hl) (P := fun r2 h2 => r2 = some (vl (vRule w R0)) ∧ ∃ g', h2 = hp σ hi (fx_all hl 37 0 g')) fx_M41 [some (.inr (.inr (some (5, t)))), some wO, some sO, none, none] (by decide) rfl rfl (Nat.le_of_ble_eq_true rfl) (fx_wpE [2] 20 (by
    have := loop R0 0 0 (by omega) hRl (hl 37 0) none
    rw [all_self] at this
    exact this))
  subst e1
  subst e2
  exact ⟨g', hg⟩
variable {v : Nat → Nat} {j : Nat}
abbrev pO : fxV := .inr (.inr (some (8, 0)))
theorem x_tellAll (hv : PX hi hl j v) (hs : SV v) (hg : GV v) : ∃ hl', fx_Ga (d + 4) 81 [pO, cO j] (hp σ hi hl) none (hp σ hi hl') ∧ (∀ k j' s, k ≠ 36 → hl' k j' s = hl k j' s) ∧ ∀ i k, k = 5 ∨ 7 ≤ k ∧ k < 11 → hl' 36 0 k = vW v i k := by
  obtain ⟨s4, s1, s2, s3, s11, s10, si⟩ := id hs
  have hout := x_outBits (d := d + 2) (σ := σ) hv hs
  have o64 : vOuts v (v 4) < 64 := Nat.lt_of_lt_of_le (vOuts_lt v (v 4)) (Nat.le_trans (Nat.pow_le_pow_right (by decide) s4) (by decide))
  have hto : vTo v ≤ 99 := by
    unfold vTo
    rcases vToF_le v (v 1) 1 with h | h <;> omega
  have hpc : vPc (vOuts v (v 4)) ≤ 32 := vPcF_le 32 _
  have bb : ∀ k, k < 11 → 0 ≤ (nI k).toInt ∧ (nI k).toInt < ((11 : Nat) : Int) := fun k hk => ni_in hk (by decide)
  have hne : ∀ (l : fxL3) s x, ∀ k j' s', k ≠ 36 → fx_up l 36 0 s x k j' s' = l k j' s' := fun l s x k j' s' hk => by
    unfold fx_up
    rw [if_neg hk]
  refine ⟨fx_up (fx_up (fx_up (fx_up (fx_up hl 36 0 5 (ibc (nI (vOuts v (v 4)))).toInt64) 36 0 7 (nI (vTo v)).toInt64) 36 0 8 (hi 1 j 1).toInt64) 36 0 9 (hi 1 j 2).toInt64) 36 0 10 (hi 1 j 5).toInt64, ?_, ?_, ?_⟩
  · refine fx_meth fx_M81 [some pO, some (cO j)] (by decide) rfl rfl (Nat.le_of_ble_eq_true rfl) (fx_wpE [] 60 ?_)
    refine ⟨_, _, hout, _, _, j_ibc, bb 5 (by decide), ?_⟩
    have hv' : PX hi (fx_up hl 36 0 5 (ibc (nI (vOuts v (v 4)))).toInt64) j v := hv
    refine ⟨_, _, x_toNextGate (d := d) hv' hs hg, bb 7 (by decide), bb 8 (by decide), bb 9 (by decide), bb 10 (by decide), rfl, rfl⟩
  · intro k j' s hk
    rw [hne _ _ _ _ _ _ hk, hne _ _ _ _ _ _ hk, hne _ _ _ _ _ _ hk, hne _ _ _ _ _ _ hk, hne _ _ _ _ _ _ hk]
  · intro i k hk
    have lit : ∀ (x : Int32) (n : Nat), x = nI n → n < 2 ^ 31 → x.toInt64 = lN n := fun x n e hn => by rw [e]; exact nI_l hn
    rcases (show k = 5 ∨ k = 7 ∨ k = 8 ∨ k = 9 ∨ k = 10 by omega) with rfl | rfl | rfl | rfl | rfl
    · exact lit _ (vPc (vOuts v (v 4))) (ibc_64 _ o64) (by omega)
    · exact lit _ (vTo v) rfl (by omega)
    · exact lit _ (v 2) hv.2.1 (by omega)
    · exact lit _ (v 3) hv.2.2.1 (by omega)
    · exact lit _ (v 10) hv.2.2.2.2.2.1 (by omega)
theorem x_tellOf (hv : PX hi hl j v) (hs : SV v) {i : Nat} (hi4 : i < v 4) : ∃ hl', fx_Ga (d + 1) 82 [pO, cO j, vi (nI i)] (hp σ hi hl) none (hp σ hi hl') ∧ (∀ k j' s, k ≠ 36 → hl' k j' s = hl k j' s) ∧ (∀ k, k = 5 ∨ 7 ≤ k → hl' 36 0 k = hl 36 0 k) ∧ ∀ k, k < 5 ∨ k = 6 → hl' 36 0 k = vW v i k := by
  obtain ⟨s4, s1, s2, s3, s11, s10, si⟩ := id hs
  have i6 : i < 6 := by omega
  have e4 := hv.2.2.2.1
  have ea := hv.2.2.2.2.2.2.2
  have ei := ea i hi4
  have ci : (nI i).toNatClampNeg = i := nI_clamp (by omega)
  have er : hi 21 j (nI i).toNatClampNeg = nI (v (12 + 4 * i)) := by rw [ci]; exact ei.1
  have bd := si i i6
  have bb : ∀ k, k < 11 → 0 ≤ (nI k).toInt ∧ (nI k).toInt < ((11 : Nat) : Int) := fun k hk => ni_in hk (by decide)
  have hne : ∀ (l : fxL3) s x, ∀ k j' s', k ≠ 36 → fx_up l 36 0 s x k j' s' = l k j' s' := fun l s x k j' s' hk => by
    unfold fx_up
    rw [if_neg hk]
  have hbh := vBh_le v i (v 4)
  have hlv := vLv_le v i (v 4)
  have loop : ∀ k n, n + k = v 4 → fx_E (fx_Ga d) fx_M82 (16, [some pO, some (cO j), some (vi (nI i)), some (vi (hi 21 j (nI i).toNatClampNeg)), some (vi (nI (vBh v i n))), some (vi (nI (vLv v i n))), some (vi (nI n))], [], hp σ hi hl, 0, 0) (fun r2 h2 => r2 = none ∧ h2 = hp σ hi (fx_up (fx_up (fx_up (fx_up (fx_up (fx_up hl 36 0 0 (nI i).toInt64) 36 0 1 (hi 22 j (nI i).toNatClampNeg).toInt64) 36 0 2 (hi 1 j 4 - hi 21 j (nI i).toNatClampNeg).toInt64) 36 0 3 (nI (vBh v i (v 4))).toInt64) 36 0 4 (nI (vLv v i (v 4))).toInt64) 36 0 6 (hi 24 j (nI i).toNatClampNeg).toInt64)) := by
    intro k
    induction k with
    | zero =>
      intro n hk
      have : n = v 4 := by omega
      subst this
      refine fx_wpL [16] 80 (pk_le (v 4) (v 4) (fun _ => ?_) (fun hc => by omega) e4)
      have b6 := ni_in (n := i) (m := 6) i6 (by decide)
      exact ⟨bb 0 (by decide), b6, bb 1 (by decide), bb 2 (by decide), bb 3 (by decide), bb 4 (by decide), b6, bb 6 (by decide), rfl, rfl⟩
    | succ k ih =>
      intro n hk
      have n6 : n < 6 := by omega
      have cn : (nI n).toNatClampNeg = n := nI_clamp (by omega)
      have en := ea n (by omega)
      have bn := si n n6
      have b6 := ni_in (n := n) (m := 6) n6 (by decide)
      have h2 := ih (n + 1) (by omega)
      rw [← nI_1] at h2
      refine fx_wpL [16] 40 (pk_le (v 4) n (fun hc => by omega) (fun _ => ?_) e4)
      refine pk_eq n i (fun he => ?_) (fun he => ?_)
      · rw [show vBh v i (n + 1) = vBh v i n by rw [vBh]; simp [he], show vLv v i (n + 1) = vLv v i n by rw [vLv]; simp [he]] at h2
        exact h2
      · refine ⟨b6, ?_⟩
        refine nn_eq (v (14 + 4 * n)) 0 (fun h0 => ?_) (fun h0 => ?_) (by show hi 23 j (nI n).toNatClampNeg = _; rw [cn]; exact en.2.2.1)
        · have hc : vOut v n = false := by unfold vOut; exact decide_eq_false (by omega)
          have ern : hi 21 j (nI n).toNatClampNeg = nI (v (12 + 4 * n)) := by rw [cn]; exact en.1
          refine ⟨b6, ?_⟩
          refine pk_le (v (12 + 4 * i)) (v (12 + 4 * n)) (fun hle => ?_) (fun hlt => ?_) er ern
          · refine ⟨b6, ?_⟩
            rw [show vBh v i (n + 1) = vBh v i n by rw [vBh, if_neg (by omega)]; rfl] at h2
            refine nn_eq (v (12 + 4 * n)) (v (12 + 4 * i)) (fun e => ?_) (fun e => ?_) ern er
            · rw [show vLv v i (n + 1) = vLv v i n + 1 by rw [vLv, if_pos ⟨hc, he, e⟩], ← nI_1] at h2
              exact h2
            · rw [show vLv v i (n + 1) = vLv v i n by rw [vLv, if_neg (fun z => e z.2.2)]; rfl] at h2
              exact h2
          · rw [show vBh v i (n + 1) = vBh v i n + 1 by rw [vBh, if_pos ⟨hc, he, hlt⟩], ← nI_1, show vLv v i (n + 1) = vLv v i n by rw [vLv, if_neg (by omega)]; rfl] at h2
            exact h2
        · have hc : vOut v n = true := by unfold vOut; exact decide_eq_true (by omega)
          rw [show vBh v i (n + 1) = vBh v i n by rw [vBh]; simp [hc], show vLv v i (n + 1) = vLv v i n by rw [vLv]; simp [hc]] at h2
          exact h2
  refine ⟨_, fx_meth fx_M82 [some pO, some (cO j), some (vi (nI i)), none, none, none, none] (by decide) rfl rfl (Nat.le_of_ble_eq_true rfl) (fx_wpE [16] 20 ⟨ni_in (n := i) (m := 6) i6 (by decide), loop (v 4) 0 (by omega)⟩), ?_, ?_, ?_⟩
  · intro k j' s hk
    rw [hne _ _ _ _ _ _ hk, hne _ _ _ _ _ _ hk, hne _ _ _ _ _ _ hk, hne _ _ _ _ _ _ hk, hne _ _ _ _ _ _ hk, hne _ _ _ _ _ _ hk]
  · intro k hk
    simp only [fx_up_eq]
    rw [if_neg (by omega), if_neg (by omega), if_neg (by omega), if_neg (by omega), if_neg (by omega), if_neg (by omega)]
  · intro k hk
    have lit : ∀ (x : Int32) (n : Nat), x = nI n → n < 2 ^ 31 → x.toInt64 = lN n := fun x n e hn => by rw [e]; exact nI_l hn
    rcases (show k = 0 ∨ k = 1 ∨ k = 2 ∨ k = 3 ∨ k = 4 ∨ k = 6 by omega) with rfl | rfl | rfl | rfl | rfl | rfl
    · exact lit _ i rfl (by omega)
    · exact lit _ (v (13 + 4 * i)) (by rw [ci]; exact ei.2.1) (by omega)
    · exact lit _ (v 11 - v (12 + 4 * i)) (by rw [er, hv.2.2.2.2.1]; exact pk_sub bd.1) (by omega)
    · exact lit _ (vBh v i (v 4)) rfl (by omega)
    · exact lit _ (vLv v i (v 4)) rfl (by omega)
    · exact lit _ (v (15 + 4 * i)) (by rw [ci]; exact ei.2.2.2) (by omega)
end XF
