/-! bunches: how riders stand behind each other -/
def vPos (v a : Nat → Nat) (x : Nat) : Nat → Nat
  | 0 => 0
  | p + 1 => if v (12 + 4 * a p) < v (12 + 4 * x) then vPos v a x p else p + 1
theorem vPos_le (v a : Nat → Nat) (x : Nat) : ∀ p, vPos v a x p ≤ p
  | 0 => Nat.le_refl _
  | p + 1 => by
    unfold vPos
    split
    · exact Nat.le_succ_of_le (vPos_le v a x p)
    · exact Nat.le_refl _
theorem vPos_hi (v a : Nat → Nat) (x : Nat) : ∀ m k, vPos v a x m ≤ k → k < m → v (12 + 4 * a k) < v (12 + 4 * x)
  | 0, _, _, h => by omega
  | m + 1, k, h1, h2 => by
    unfold vPos at h1
    split at h1
    · rename_i h
      by_cases e : k = m
      · subst e; exact h
      · exact vPos_hi v a x m k h1 (by omega)
    · omega
theorem vPos_lo (v a : Nat → Nat) (x : Nat) : ∀ m, 0 < vPos v a x m → v (12 + 4 * x) ≤ v (12 + 4 * a (vPos v a x m - 1))
  | 0, h => by unfold vPos at h; omega
  | m + 1, h => by
    unfold vPos at h ⊢
    split at h
    · rename_i h1
      rw [if_pos h1]
      exact vPos_lo v a x m h
    · rename_i h1
      rw [if_neg h1]
      exact Nat.not_lt.mp h1
def aIns (a : Nat → Nat) (p x : Nat) : Nat → Nat := fun k => if k < p then a k else if k = p then x else a (k - 1)
def vOr (v : Nat → Nat) : Nat → Nat × (Nat → Nat)
  | 0 => (0, fun _ => 0)
  | n + 1 => if vOut v n then vOr v n else ((vOr v n).1 + 1, aIns (vOr v n).2 (vPos v (vOr v n).2 n (vOr v n).1) n)
def bef (v : Nat → Nat) (a b : Nat) : Prop := v (12 + 4 * b) < v (12 + 4 * a) ∨ v (12 + 4 * b) = v (12 + 4 * a) ∧ a < b
def vOrOk (v : Nat → Nat) (n : Nat) (q : Nat × (Nat → Nat)) : Prop := q.1 ≤ n ∧ (∀ k, k < q.1 → q.2 k < n ∧ vOut v (q.2 k) = false) ∧ (∀ j k, j < k → k < q.1 → bef v (q.2 j) (q.2 k)) ∧ (∀ r, r < n → vOut v r = false → ∃ k, k < q.1 ∧ q.2 k = r)
theorem vOr_ok (v : Nat → Nat) : ∀ n, vOrOk v n (vOr v n)
  | 0 => ⟨Nat.le_refl _, fun k h => absurd h (by unfold vOr; simp), fun j k _ h => absurd h (by unfold vOr; simp), fun r h => absurd h (by omega)⟩
  | n + 1 => by
    obtain ⟨h1, h2, h3, h4⟩ := vOr_ok v n
    unfold vOr
    split
    · rename_i ho
      refine ⟨by omega, fun k hk => ⟨by have := (h2 k hk).1; omega, (h2 k hk).2⟩, h3, fun r hr hro => ?_⟩
      by_cases e : r = n
      · subst e; rw [ho] at hro; cases hro
      · exact h4 r (by omega) hro
    · rename_i ho
      have ho : vOut v n = false := by simpa using ho
      generalize vOr v n = q at h1 h2 h3 h4
      obtain ⟨m, a⟩ := q
      have pl := vPos_le v a n m
      have ph := vPos_hi v a n m
      have po := vPos_lo v a n m
      dsimp only at h1 h2 h3 h4 ⊢
      generalize vPos v a n m = p at pl ph po
      refine ⟨by dsimp only; omega, fun k hk => ?_, fun j k hjk hk => ?_, fun r hr hro => ?_⟩
      · dsimp only at hk ⊢
        unfold aIns
        split
        · have := h2 k (by omega)
          exact ⟨by omega, this.2⟩
        · split
          · exact ⟨by omega, ho⟩
          · have := h2 (k - 1) (by omega)
            exact ⟨by omega, this.2⟩
      · dsimp only at hk ⊢
        unfold aIns
        by_cases k1 : k < p
        · rw [if_pos (show j < p by omega), if_pos k1]
          exact h3 j k hjk (by omega)
        · rw [if_neg k1]
          by_cases k2 : k = p
          · rw [if_pos k2, if_pos (show j < p by omega)]
            have a1 := po (by omega)
            have a2 := (h2 j (by omega)).1
            have a3 : v (12 + 4 * a (p - 1)) ≤ v (12 + 4 * a j) := by
              by_cases e : j = p - 1
              · rw [e]; exact Nat.le_refl _
              · rcases h3 j (p - 1) (by omega) (by omega) with z | z
                · exact Nat.le_of_lt z
                · exact Nat.le_of_eq z.1
            unfold bef
            omega
          · rw [if_neg k2]
            by_cases j1 : j < p
            · rw [if_pos j1]
              exact h3 j (k - 1) (by omega) (by omega)
            · rw [if_neg j1]
              by_cases j2 : j = p
              · rw [if_pos j2]
                exact Or.inl (ph (k - 1) (by omega) (by omega))
              · rw [if_neg j2]
                exact h3 (j - 1) (k - 1) (by omega) (by omega)
      · dsimp only
        by_cases e : r = n
        · subst e
          refine ⟨p, by omega, ?_⟩
          unfold aIns
          rw [if_neg (by omega), if_pos rfl]
        · obtain ⟨k, hk, ek⟩ := h4 r (by omega) hro
          by_cases k1 : k < p
          · refine ⟨k, by omega, ?_⟩
            unfold aIns
            rw [if_pos k1]
            exact ek
          · refine ⟨k + 1, by omega, ?_⟩
            unfold aIns
            rw [if_neg (by omega), if_neg (by omega), Nat.add_sub_cancel]
            exact ek
def vCut (v a : Nat → Nat) (k : Nat) : Bool := decide (k = 0 ∨ v (12 + 4 * a k) + 2 < v (12 + 4 * a (k - 1)))
def vBu (v a : Nat → Nat) (b k : Nat) : Nat := (if vCut v a k then 0 else b) ||| 2 ^ a k
def vBn (v a : Nat → Nat) : Nat → Nat × Nat × Nat
  | 0 => (0, 0, 0)
  | k + 1 => ((vBn v a k).1 + (if vCut v a k then 1 else 0), vBu v a (vBn v a k).2.1 k, if vPc (vBn v a k).2.2 < vPc (vBu v a (vBn v a k).2.1 k) then vBu v a (vBn v a k).2.1 k else (vBn v a k).2.2)
theorem or_pos : ∀ b, b < 64 → ∀ r, r < 6 → 0 < b ||| 2 ^ r ∧ b ||| 2 ^ r < 64 ∧ nI b ||| ((1 : Int32) <<< (nI r &&& 31)) = nI (b ||| 2 ^ r) := by decide +kernel
theorem vBu_ok (v a : Nat → Nat) {b k : Nat} (hb : b < 64) (hk : a k < 6) : 0 < vBu v a b k ∧ vBu v a b k < 64 := by
  unfold vBu
  split
  · exact ⟨(or_pos 0 (by decide) _ hk).1, (or_pos 0 (by decide) _ hk).2.1⟩
  · exact ⟨(or_pos b hb _ hk).1, (or_pos b hb _ hk).2.1⟩
theorem vBn_ok (v a : Nat → Nat) : ∀ k, (∀ j, j < k → a j < 6) → (vBn v a k).1 ≤ k ∧ (vBn v a k).2.1 < 64 ∧ (vBn v a k).2.2 < 64 ∧ (0 < k → 0 < (vBn v a k).2.1)
  | 0, _ => ⟨Nat.le_refl _, (by decide : 0 < 64), (by decide : 0 < 64), fun h => absurd h (by decide)⟩
  | k + 1, h => by
    obtain ⟨h1, h2, h3, _⟩ := vBn_ok v a k (fun j hj => h j (by omega))
    obtain ⟨u1, u2⟩ := vBu_ok v a h2 (h k (by omega))
    unfold vBn
    refine ⟨?_, u2, ?_, fun _ => u1⟩
    · dsimp only
      split <;> omega
    · dsimp only
      split
      · exact u2
      · exact h3
def aBunch (v : Nat → Nat) (w : Int32) : Int32 := if v 0 = 1 ∧ (0 ≤ w ∧ w ≤ 1) then (if w = 0 then nI (vBn v (vOr v (v 4)).2 (vOr v (v 4)).1).1 else nI (vBn v (vOr v (v 4)).2 (vOr v (v 4)).1).2.2) else -1
abbrev aO (k : Nat) : fxV := .inr (.inr (some (k, 0)))
section BU
variable {d : Nat} {σ : fxS} {hi : fxI3} {hl : fxL3} {v : Nat → Nat} {rl : Option fxRl} {f : Option Nat}
theorem x_orderByRun (hv : PX hi hl 2 v) (hs : SV v) : ∃ g, fx_Ga (d + 1) 18 [cO 2, aO 40] (hp σ hi hl) (some (vi (nI (vOr v (v 4)).1))) (hp σ (fx_all hi 40 0 g) hl) ∧ ∀ k, k < (vOr v (v 4)).1 → g k = nI ((vOr v (v 4)).2 k) := by
  obtain ⟨s4, s1, s2, s3, s11, s10, si⟩ := id hs
  have p8 := hv.2.2.2.2.2.2.2
  have e4 := hv.2.2.2.1
  let Post : Option fxV → fxH → Prop := fun r2 h2 => r2 = some (vi (nI (vOr v (v 4)).1)) ∧ ∃ g, h2 = hp σ (fx_all hi 40 0 g) hl ∧ ∀ k, k < (vOr v (v 4)).1 → g k = nI ((vOr v (v 4)).2 k)
  have loop : ∀ t i (g : Nat → Int32) l4, i + t = v 4 → (∀ k, k < (vOr v i).1 → g k = nI ((vOr v i).2 k)) → fx_E (fx_Ga d) fx_M18 (4, [some (cO 2), some (aO 40), some (vi (nI (vOr v i).1)), some (vi (nI i)), l4], [], hp σ (fx_all hi 40 0 g) hl, 0, 0) Post := by
    intro t
    induction t with
    | zero =>
      intro i g l4 hi4 hg
      have : i = v 4 := by omega
      subst this
      exact fx_wpL [4] 20 (pk_le (v 4) (v 4) (fun _ => ⟨rfl, g, rfl, hg⟩) (fun hc => by omega) e4)
    | succ t ih =>
      intro i g l4 hi4 hg
      obtain ⟨o1, o2, o3, o4⟩ := vOr_ok v i
      have ih2 := ih (i + 1)
      have hnx : vOr v (i + 1) = if vOut v i then vOr v i else ((vOr v i).1 + 1, aIns (vOr v i).2 (vPos v (vOr v i).2 i (vOr v i).1) i) := rfl
      generalize vOr v i = q at o1 o2 hg hnx
      obtain ⟨m, a⟩ := q
      dsimp only at o1 o2 hg hnx
      have i6 : i < 6 := by omega
      have bi := ni_in (n := i) (m := 6) i6 (by decide)
      have ci : (nI i).toNatClampNeg = i := nI_clamp (by omega)
      obtain ⟨a1, a2, a3, a4⟩ := p8 i (by omega)
      obtain ⟨q1, q2, q3, q4⟩ := si i i6
      have er : hi 21 2 (nI i).toNatClampNeg = nI (v (12 + 4 * i)) := by rw [ci]; exact a1
      refine fx_wpL [4, 30] 40 (pk_le (v 4) i (fun hc => by omega) (fun _ => ?_) e4)
      refine pk_le 6 m (fun hc => by omega) (fun _ => ?_)
      refine ⟨bi, nn_eq (v (14 + 4 * i)) 0 (fun h0 => ?_) (fun h0 => ?_) (by show hi 23 2 (nI i).toNatClampNeg = _; rw [ci]; exact a3)⟩
      · have hout : vOut v i = false := by unfold vOut; exact decide_eq_false (by omega)
        rw [hout] at hnx
        have hnx : vOr v (i + 1) = (m + 1, aIns a (vPos v a i m) i) := hnx
        -- at its place
        have fin : ∀ p (g : Nat → Int32), p ≤ m → vPos v a i m = p → (∀ k, k < p → g k = nI (a k)) → (∀ k, p ≤ k → k < m → g (k + 1) = nI (a k)) → fx_E (fx_Ga d) fx_M18 (71, [some (cO 2), some (aO 40), some (vi (nI m)), some (vi (nI i)), some (vi (nI p))], [], hp σ (fx_all hi 40 0 g) hl, 0, 0) Post := by
          intro p g hpm hp0 g1 g2
          have h2 := ih2 (fun c => if c = p then nI i else g c) (some (vi (nI p))) (by omega) (fun k hk => by
            rw [hnx] at hk ⊢
            dsimp only at hk ⊢
            rw [hp0]
            unfold aIns
            by_cases k1 : k < p
            · rw [if_pos k1, if_neg (by omega)]
              exact g1 k k1
            · by_cases k2 : k = p
              · rw [if_neg k1, if_pos k2, if_pos k2]
              · rw [if_neg k1, if_neg k2, if_neg k2, ← g2 (k - 1) (by omega) (by omega), show k - 1 + 1 = k by omega])
          rw [hnx, ← up_all] at h2
          dsimp only at h2
          rw [← nI_1, ← nI_1] at h2
          refine fx_wpE [4] 20 ⟨ni_in (n := p) (m := 6) (by omega) (by decide), ?_⟩
          conv at h2 => rw [show fx_up (fx_all hi 40 0 g) 40 0 p = fx_up (fx_all hi 40 0 g) 40 0 (nI p).toNatClampNeg by rw [nI_clamp (show p < 2 ^ 31 by omega)]]
          exact h2
        have inner : ∀ p (g : Nat → Int32), p ≤ m → vPos v a i p = vPos v a i m → (∀ k, k < p → g k = nI (a k)) → (∀ k, p ≤ k → k < m → g (k + 1) = nI (a k)) → fx_E (fx_Ga d) fx_M18 (30, [some (cO 2), some (aO 40), some (vi (nI m)), some (vi (nI i)), some (vi (nI p))], [], hp σ (fx_all hi 40 0 g) hl, 0, 0) Post := by
          intro p
          induction p with
          | zero =>
            intro g hpm hp0 g1 g2
            exact fx_wpL [30, 71] 20 (pk_le 0 0 (fun _ => fin 0 g hpm (by rw [← hp0]; rfl) g1 g2) (fun hc => by omega))
          | succ p ihp =>
            intro g hpm hp0 g1 g2
            have hap := (o2 p (by omega)).1
            have ep : (nI (p + 1) - 1 : Int32) = nI p := nI_pred p
            have eg : fx_all hi 40 0 g 40 0 (nI (p + 1) - 1 : Int32).toNatClampNeg = nI (a p) := by
              rw [all_at, ni_cl ep (by omega)]
              exact g1 p (by omega)
            obtain ⟨r1, _⟩ := si (a p) (by omega)
            have erp : hi 21 2 (fx_all hi 40 0 g 40 0 (nI (p + 1) - 1 : Int32).toNatClampNeg).toNatClampNeg = nI (v (12 + 4 * a p)) := by
              rw [ni_cl eg (by omega)]
              exact (p8 (a p) (by omega)).1
            have bp := ni_inx (n := p) (m := 6) ep (by omega) (by decide)
            refine fx_wpL [30, 71] 40 (pk_le (p + 1) 0 (fun hc => by omega) (fun _ => ?_))
            refine ⟨bp, ni_inx (n := a p) (m := 6) eg (by omega) (by decide), bi, pk_le (v (12 + 4 * i)) (v (12 + 4 * a p)) (fun hle => ?_) (fun hlt => ?_) er erp⟩
            · exact fin (p + 1) g hpm (by rw [← hp0, vPos, if_neg (by omega)]) g1 g2
            · refine ⟨bp, ni_in (n := p + 1) (m := 6) (by omega) (by decide), ?_⟩
              have h2 := ihp (fun c => if c = p + 1 then nI (a p) else g c) (by omega) (by rw [← hp0, vPos, if_pos hlt]) (fun k hk => by
                rw [if_neg (by omega)]
                exact g1 k (by omega)) (fun k hk1 hk2 => by
                by_cases e : k = p
                · rw [e, if_pos rfl]
                · rw [if_neg (by omega)]
                  exact g2 k (by omega) hk2)
              rw [← up_all, ← pk_m1 p] at h2
              conv at h2 => rw [show fx_up (fx_all hi 40 0 g) 40 0 (p + 1) = fx_up (fx_all hi 40 0 g) 40 0 (nI (p + 1)).toNatClampNeg by rw [nI_clamp (show p + 1 < 2 ^ 31 by omega)]]
              conv at h2 => rw [← eg]
              exact h2
        exact inner m g (Nat.le_refl _) rfl hg (fun k h1 h2 => by omega)
      · have hout : vOut v i = true := by unfold vOut; exact decide_eq_true (by omega)
        rw [hout] at hnx
        have hnx : vOr v (i + 1) = (m, a) := hnx
        have h2 := ih2 g l4 (by omega) (by rw [hnx]; exact hg)
        rw [hnx, ← nI_1] at h2
        exact h2
  obtain ⟨r, h', hg', e1, g, e2, e3⟩ := fx_methX (y := 18) (av := [cO 2, aO 40]) (P := Post) fx_M18 [some (cO 2), some (aO 40), none, none, none] (by decide) rfl rfl (Nat.le_of_ble_eq_true rfl) (fx_wpE [4] 20 (by
    have := loop (v 4) 0 (hi 40 0) none (by omega) (fun k hk => absurd hk (by unfold vOr; simp))
    rw [all_self] at this
    exact this))
  subst e1
  subst e2
  exact ⟨g, hg', e3⟩
theorem x_bunches (hv : PX hi hl 2 v) (hs : SB v) (hH : HV v) (w : Int32) : QX (d + 2) 122 [xO, vi w] σ hi hl (aBunch v w) := by
  have h10 := hH.2
  have h4 := hs.1
  have hsv := hs.sv (by omega)
  have hh := x_isHunted (d := d) (σ := σ) hv hs.2.1
  rw [hH.h] at hh
  refine QX_of fx_M122 [some xO, some (vi w), none, none, none, none, none, none] (by decide) rfl rfl (Nat.le_of_ble_eq_true rfl) (fx_wpE [47] 60 ?_)
  refine ⟨_, _, hh, bd_if (fun hc => QX.same (if_neg (fun z => hc z.1)).symm) (fun hc => ?_)⟩
  refine ⟨_, _, x_within w 0 1, bd_nf (fun hc3 => ?_) (fun hc3 => QX.same (if_neg (fun z => hc3 z.2)).symm)⟩
  obtain ⟨g, hg, eg⟩ := x_orderByRun (d := d) (σ := σ) hv hsv
  refine ⟨_, _, hg, ?_⟩
  generalize eA : aBunch v w = A
  have eA : A = if w = 0 then nI (vBn v (vOr v (v 4)).2 (vOr v (v 4)).1).1 else nI (vBn v (vOr v (v 4)).2 (vOr v (v 4)).1).2.2 := by
    rw [← eA]
    exact if_pos ⟨hc, hc3⟩
  obtain ⟨o1, o2, o3, o4⟩ := vOr_ok v (v 4)
  generalize vOr v (v 4) = q at o1 o2 o3 eg eA
  obtain ⟨m, a⟩ := q
  dsimp only at o1 o2 o3 eg eA
  have p8 := hv.2.2.2.2.2.2.2
  have si := hsv.2.2.2.2.2.2
  have s11 := hsv.2.2.2.2.1
  have fin : FrY hi (fx_all hi 40 0 g) := fun k j s h => congrFun (fx_all_ne hi g (a := k) (b := j) (fun z => h (by unfold scx; omega))) s
  have loop : ∀ t k, k + t = m → fx_E (fx_Ga (d + 1)) fx_M122 (47, [some xO, some (vi w), some (cO 2), some (vi (nI m)), some (vi (nI (vBn v a k).1)), some (vi (nI (vBn v a k).2.1)), some (vi (nI (vBn v a k).2.2)), some (vi (nI k))], [], hp σ (fx_all hi 40 0 g) hl, 0, 0) (QXP σ hi hl A) := by
    intro t
    induction t with
    | zero =>
      intro k hk
      have : k = m := by omega
      subst this
      refine fx_wpL [47] 20 (pk_le k k (fun _ => ?_) (fun hc => by omega))
      refine ⟨fun (z : ¬ w = 0) => ⟨by rw [eA, if_neg z], _, _, rfl, fin, FlY.rf hl⟩, fun (z : ¬ ¬ w = 0) => ⟨by rw [eA, if_pos (Classical.not_not.mp z)], _, _, rfl, fin, FlY.rf hl⟩⟩
    | succ t ih =>
      intro k hk
      have ak := (o2 k (by omega)).1
      have h2 := ih (k + 1) (by omega)
      obtain ⟨n1, n2, n3, n4⟩ := vBn_ok v a k (fun j hj => by have := (o2 j (by omega)).1; omega)
      obtain ⟨u1, u2⟩ := vBu_ok v a n2 (show a k < 6 by omega)
      rw [vBn] at h2
      generalize hB : vBn v a k = B at h2 n1 n2 n3 n4 u1 u2
      obtain ⟨B1, B2, B3⟩ := B
      dsimp only at h2 n1 n2 n3 n4 u1 u2
      have bk := ni_in (n := k) (m := 6) (by omega) (by decide)
      have ek : fx_all hi 40 0 g 40 0 (nI k).toNatClampNeg = nI (a k) := by
        rw [all_at, nI_clamp (by omega)]
        exact eg k (by omega)
      obtain ⟨r1, _⟩ := si (a k) (by omega)
      have erk : hi 21 2 (fx_all hi 40 0 g 40 0 (nI k).toNatClampNeg).toNatClampNeg = nI (v (12 + 4 * a k)) := by
        rw [ni_cl ek (by omega)]
        exact (p8 (a k) (by omega)).1
      have tail : ∀ b0 n0, (if vCut v a k then 0 else B2) = b0 → b0 < 64 → B1 + (if vCut v a k then 1 else 0) = n0 → fx_E (fx_Ga (d + 1)) fx_M122 (95, [some xO, some (vi w), some (cO 2), some (vi (nI m)), some (vi (nI n0)), some (vi (nI b0)), some (vi (nI B3)), some (vi (nI k))], [], hp σ (fx_all hi 40 0 g) hl, 0, 0) (QXP σ hi hl A) := by
        intro b0 n0 e1 hb e2
        have eu : vBu v a B2 k = b0 ||| 2 ^ a k := by unfold vBu; rw [e1]
        rw [e2, eu] at h2
        rw [eu] at u2
        obtain ⟨_, _, eo⟩ := or_pos b0 hb (a k) (by omega)
        have eo : nI b0 ||| ((1 : Int32) <<< (fx_all hi 40 0 g 40 0 (nI k).toNatClampNeg &&& 31)) = nI (b0 ||| 2 ^ a k) := by rw [ek]; exact eo
        have q1 := pc_le 6 (by decide) (b0 ||| 2 ^ a k) u2
        have q2 := pc_le 6 (by decide) B3 n3
        refine fx_wpE [47] 40 ⟨bk, _, _, j_ibc, _, _, j_ibc, pk_le (vPc (b0 ||| 2 ^ a k)) (vPc B3) (fun hle => ?_) (fun hgt => ?_) ((congrArg ibc eo).trans (ibc_64 _ u2)) (ibc_64 _ n3)⟩
        · rw [if_neg (by omega), ← nI_1, ← eo] at h2
          exact h2
        · rw [if_pos hgt, ← nI_1, ← eo] at h2
          exact h2
      have cut : vCut v a k = true → fx_E (fx_Ga (d + 1)) fx_M122 (89, [some xO, some (vi w), some (cO 2), some (vi (nI m)), some (vi (nI B1)), some (vi (nI B2)), some (vi (nI B3)), some (vi (nI k))], [], hp σ (fx_all hi 40 0 g) hl, 0, 0) (QXP σ hi hl A) := by
        intro hc
        have h3 := tail 0 (B1 + 1) (by rw [hc]; rfl) (by decide) (by rw [hc]; rfl)
        rw [← nI_1] at h3
        exact fx_wpE [95] 20 h3
      refine fx_wpL [47, 89, 95] 60 (pk_le m k (fun hc => by omega) (fun _ => ?_))
      refine pk_eq k 0 (fun k0 => cut (decide_eq_true (Or.inl k0))) (fun k0 => ?_)
      have e1 : (nI k - 1 : Int32) = nI (k - 1) := pk_sub (show 1 ≤ k by omega)
      have ek1 : fx_all hi 40 0 g 40 0 (nI k - 1 : Int32).toNatClampNeg = nI (a (k - 1)) := by
        rw [all_at, ni_cl e1 (by omega)]
        exact eg (k - 1) (by omega)
      have ak1 := (o2 (k - 1) (by omega)).1
      have hbe := o3 (k - 1) k (by omega) (by omega)
      have hge : v (12 + 4 * a k) ≤ v (12 + 4 * a (k - 1)) := by
        unfold bef at hbe
        omega
      obtain ⟨r2, _⟩ := si (a (k - 1)) (by omega)
      have ed : hi 21 2 (fx_all hi 40 0 g 40 0 (nI k - 1 : Int32).toNatClampNeg).toNatClampNeg - hi 21 2 (fx_all hi 40 0 g 40 0 (nI k).toNatClampNeg).toNatClampNeg = nI (v (12 + 4 * a (k - 1)) - v (12 + 4 * a k)) := by
        rw [erk, ni_cl ek1 (by omega), (p8 (a (k - 1)) (by omega)).1, pk_sub hge]
      refine ⟨ni_inx (n := k - 1) (m := 6) e1 (by omega) (by decide), ni_inx (n := a (k - 1)) (m := 6) ek1 (by omega) (by decide), bk, ni_inx (n := a k) (m := 6) ek (by omega) (by decide), pk_le (v (12 + 4 * a (k - 1)) - v (12 + 4 * a k)) 2 (fun hle => ?_) (fun hgt => ?_) ed⟩
      · have hc : vCut v a k = false := decide_eq_false (by omega)
        exact tail B2 B1 (by rw [hc]; rfl) n2 (by rw [hc]; rfl)
      · exact cut (decide_eq_true (by omega))
  exact loop m 0 (by omega)
end BU
