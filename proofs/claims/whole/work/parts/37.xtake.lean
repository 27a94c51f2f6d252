/-! the class: a step -/
theorem PX.fox {hi : fxI3} {hl : fxL3} {j : Nat} {v : Nat → Nat} (h : PX hi hl j v) (y : Nat) : PX (fx_up hi 1 j 4 (nI y)) hl j (vup v 11 y) := by
  obtain ⟨h1, h2, h3, h4, h5, h6, h7, h8⟩ := h
  have e : ∀ s, s ≠ 4 → fx_up hi 1 j 4 (nI y) 1 j s = hi 1 j s := fun s hs => by rw [fx_up_eq]; exact if_neg hs
  refine ⟨(e 0 (by decide)).trans h1, (e 1 (by decide)).trans h2, (e 2 (by decide)).trans h3, (e 3 (by decide)).trans h4, ?_, (e 5 (by decide)).trans h6, h7, fun i hi4 => ?_⟩
  · rw [fx_up_eq]
    rfl
  · rw [vup_ne (show 12 + 4 * i ≠ 11 by omega), vup_ne (show 13 + 4 * i ≠ 11 by omega), vup_ne (show 14 + 4 * i ≠ 11 by omega), vup_ne (show 15 + 4 * i ≠ 11 by omega)]
    exact h8 i hi4
theorem PX.step {hi : fxI3} {hl : fxL3} {j : Nat} {v : Nat → Nat} (h : PX hi hl j v) (y : Nat) : PX (fx_up hi 1 j 5 (nI y)) hl j (vup v 10 y) := by
  obtain ⟨h1, h2, h3, h4, h5, h6, h7, h8⟩ := h
  have e : ∀ s, s ≠ 5 → fx_up hi 1 j 5 (nI y) 1 j s = hi 1 j s := fun s hs => by rw [fx_up_eq]; exact if_neg hs
  refine ⟨(e 0 (by decide)).trans h1, (e 1 (by decide)).trans h2, (e 2 (by decide)).trans h3, (e 3 (by decide)).trans h4, (e 4 (by decide)).trans h5, ?_, h7, fun i hi4 => ?_⟩
  · rw [fx_up_eq]
    rfl
  · rw [vup_ne (show 12 + 4 * i ≠ 10 by omega), vup_ne (show 13 + 4 * i ≠ 10 by omega), vup_ne (show 14 + 4 * i ≠ 10 by omega), vup_ne (show 15 + 4 * i ≠ 10 by omega)]
    exact h8 i hi4
theorem vup_lo {v : Nat → Nat} {x y : Nat} (hx : 12 ≤ x ∧ x < 36) : (∀ z, z < 12 → vup v x y z = v z) ∧ vG (vup v x y) = vG v := by
  refine ⟨fun z hz => vup_ne (by omega), ?_⟩
  unfold vG
  rw [vup_ne (by omega), vup_ne (by omega)]
theorem PX.arr {hi hi' : fxI3} {hl : fxL3} {j i q y : Nat} {v : Nat → Nat} (h : PX hi hl j v) (hi6 : i < 6) (hq : q < 4) (h0 : ∀ s, hi' 1 j s = hi 1 j s) (he : hi' (21 + q) j = fun c => if c = i then nI y else hi (21 + q) j c) (hn : ∀ k, k < 4 → k ≠ q → hi' (21 + k) j = hi (21 + k) j) : PX hi' hl j (vup v (12 + q + 4 * i) y) := by
  obtain ⟨h1, h2, h3, h4, h5, h6, h7, h8⟩ := h
  obtain ⟨l1, l2⟩ := vup_lo (v := v) (x := 12 + q + 4 * i) (y := y) (by omega)
  refine ⟨by rw [h0, l1 1 (by decide)]; exact h1, by rw [h0, l1 2 (by decide)]; exact h2, by rw [h0, l1 3 (by decide)]; exact h3, by rw [h0, l1 4 (by decide)]; exact h4, by rw [h0, l1 11 (by decide)]; exact h5, by rw [h0, l1 10 (by decide)]; exact h6, by rw [l2]; exact h7, fun i' hi4 => ?_⟩
  rw [l1 4 (by decide)] at hi4
  have key : ∀ k, k < 4 → hi (21 + k) j i' = nI (v (12 + k + 4 * i')) → hi' (21 + k) j i' = nI (vup v (12 + q + 4 * i) y (12 + k + 4 * i')) := by
    intro k hk hv
    by_cases e : k = q
    · subst e
      rw [he]
      by_cases e2 : i' = i
      · subst e2
        rw [vup_eq]
        exact if_pos rfl
      · rw [vup_ne (by omega)]
        exact (if_neg e2).trans hv
    · rw [hn k hk e, vup_ne (by omega)]
      exact hv
  obtain ⟨a1, a2, a3, a4⟩ := h8 i' hi4
  exact ⟨key 0 (by decide) a1, key 1 (by decide) a2, key 2 (by decide) a3, key 3 (by decide) a4⟩
theorem PX.run {hi : fxI3} {hl : fxL3} {j i y : Nat} {v : Nat → Nat} (h : PX hi hl j v) (hi6 : i < 6) : PX (fx_up hi 21 j i (nI y)) hl j (vup v (12 + 4 * i) y) :=
  PX.arr (q := 0) h hi6 (by decide) (fun _ => rfl) (fx_up_eq _ _ _ _ _) (fun k hk hne => by rcases (show k = 1 ∨ k = 2 ∨ k = 3 by omega) with rfl | rfl | rfl <;> rfl)
theorem PX.ground {hi : fxI3} {hl : fxL3} {j i y : Nat} {v : Nat → Nat} (h : PX hi hl j v) (hi6 : i < 6) : PX (fx_up hi 23 j i (nI y)) hl j (vup v (14 + 4 * i) y) :=
  PX.arr (q := 2) h hi6 (by decide) (fun _ => rfl) (fx_up_eq _ _ _ _ _) (fun k hk hne => by rcases (show k = 0 ∨ k = 1 ∨ k = 3 by omega) with rfl | rfl | rfl <;> rfl)
theorem PX.was {hi : fxI3} {hl : fxL3} {j i y : Nat} {v : Nat → Nat} (h : PX hi hl j v) (hi6 : i < 6) : PX (fx_up hi 24 j i (nI y)) hl j (vup v (15 + 4 * i) y) :=
  PX.arr (q := 3) h hi6 (by decide) (fun _ => rfl) (fx_up_eq _ _ _ _ _) (fun k hk hne => by rcases (show k = 0 ∨ k = 1 ∨ k = 2 by omega) with rfl | rfl | rfl <;> rfl)
theorem PX.pace {hi : fxI3} {hl : fxL3} {j i y : Nat} {v : Nat → Nat} (h : PX hi hl j v) (hi6 : i < 6) : PX (fx_up hi 22 j i (nI y)) hl j (vup v (13 + 4 * i) y) :=
  PX.arr (q := 1) h hi6 (by decide) (fun _ => rfl) (fx_up_eq _ _ _ _ _) (fun k hk hne => by rcases (show k = 0 ∨ k = 2 ∨ k = 3 by omega) with rfl | rfl | rfl <;> rfl)
def WX (hi : fxI3) (row : Option (Nat × Nat)) : Prop := match row with
  | none => hi 8 0 3 = -1
  | some (i, f) => i < 6 ∧ hi 8 0 3 = nI i ∧ f ≤ 9 ∧ hi 8 0 4 = nI f
/-- the rule as the class hands it on -/
def rR (rt : Option Nat) : fxV := .inr (.inr (rt.map (fun t => (5, t))))
def TX (σ : fxS) (hi : fxI3) (rt : Option Nat) (rl : Option fxRl) : Prop := match rt, rl with
  | none, none => True
  | some t, some R => RX σ hi t R
  | _, _ => False
theorem min_nI (a b : Nat) (ha : a < 2 ^ 31) (hb : b < 2 ^ 31) : (if nI b < nI a then nI b else nI a) = nI (min a b) := by
  by_cases h : b < a
  · rw [if_pos (nI_lt h ha), Nat.min_eq_right (by omega)]
  · rw [if_neg (nI_nlt (by omega) hb), Nat.min_eq_left (by omega)]
section XT
variable {d : Nat} {σ : fxS} {hi : fxI3} {hl : fxL3} {v : Nat → Nat} {j : Nat}
theorem x_fieldsOf (hv : PX hi hl j v) (hs : SV v) {i : Nat} (hi4 : i < v 4) {rt : Option Nat} {rl : Option fxRl} {row : Option (Nat × Nat)} (hr : WX hi row) (ht : TX σ hi rt rl) (hwd : ∀ k, k = 5 ∨ 7 ≤ k ∧ k < 11 → rt.isSome = true → hl 36 0 k = vW v i k) :
    ∃ hl', fx_Ga (d + 4) 80 [pO, cO j, rR rt, vi (nI i)] (hp σ hi hl) (some (vi (nI (min (vRide v rl row i) (v 11 - v (12 + 4 * i)))))) (hp σ hi hl') ∧ (∀ k j' s, k ≠ 36 → k ≠ 37 → hl' k j' s = hl k j' s) ∧ ∀ k, k = 5 ∨ 7 ≤ k → hl' 36 0 k = hl 36 0 k := by
  obtain ⟨s4, s1, s2, s3, s11, s10, si⟩ := id hs
  have i6 : i < 6 := by omega
  obtain ⟨q1, q2, q3, q4⟩ := si i i6
  obtain ⟨ar, ap, ag, aw⟩ := hv.2.2.2.2.2.2.2 i hi4
  have ci : (nI i).toNatClampNeg = i := nI_clamp (by omega)
  have b6 := ni_in (n := i) (m := 6) i6 (by decide)
  have eroom : hi 1 j 4 - hi 21 j (nI i).toNatClampNeg = nI (v 11 - v (12 + 4 * i)) := by rw [ci, ar, hv.2.2.2.2.1]; exact pk_sub q1
  have eg : hi 23 j (nI i).toNatClampNeg = nI (v (14 + 4 * i)) := by rw [ci]; exact ag
  have ep : hi 22 j (nI i).toNatClampNeg = nI (v (13 + 4 * i)) := by rw [ci]; exact ap
  let Post : Option fxV → fxH → Prop := fun r2 h2 => r2 = some (vi (nI (min (vRide v rl row i) (v 11 - v (12 + 4 * i))))) ∧ ∃ hl', h2 = hp σ hi hl' ∧ (∀ k j' s, k ≠ 36 → k ≠ 37 → hl' k j' s = hl k j' s) ∧ ∀ k, k = 5 ∨ 7 ≤ k → hl' 36 0 k = hl 36 0 k
  have same : ∀ x, nI x = nI (min (vRide v rl row i) (v 11 - v (12 + 4 * i))) → Post (some (vi (nI x))) (hp σ hi hl) := fun x e => ⟨by rw [e], hl, rfl, fun _ _ _ _ _ => rfl, fun _ _ => rfl⟩
  -- by the rule
  have rest : vOut v i = false → vRide v rl row i = vBase v rl i → 0 < v 11 - v (12 + 4 * i) → fx_E (fx_Ga (d + 3)) fx_M80 (47, [some pO, some (cO j), some (rR rt), some (vi (nI i)), some (vi (hi 1 j 4 - hi 21 j (nI i).toNatClampNeg)), none, none, none], [], hp σ hi hl, 0, 0) Post := by
    intro hout hride hroom
    have emin : (if hi 1 j 4 - hi 21 j (nI i).toNatClampNeg < hi 22 j (nI i).toNatClampNeg then hi 1 j 4 - hi 21 j (nI i).toNatClampNeg else hi 22 j (nI i).toNatClampNeg) = nI (min (v (13 + 4 * i)) (v 11 - v (12 + 4 * i))) := by
      rw [eroom, ep]
      exact min_nI _ _ (by omega) (by omega)
    cases rt with
    | none => cases rl with
      | some R => exact ht.elim
      | none =>
        refine fx_wpE [] 60 ⟨b6, ?_⟩
        show Post (some (vi (if hi 1 j 4 - hi 21 j (nI i).toNatClampNeg < hi 22 j (nI i).toNatClampNeg then hi 1 j 4 - hi 21 j (nI i).toNatClampNeg else hi 22 j (nI i).toNatClampNeg))) (hp σ hi hl)
        rw [emin]
        exact same _ (by rw [hride]; rfl)
    | some t => cases rl with
      | none => exact ht.elim
      | some R =>
        refine fx_wpE [] 60 ⟨b6, ?_⟩
        obtain ⟨hl1, hg1, f1, k1, w1⟩ := x_tellOf (d := d + 2) (σ := σ) hv hs hi4
        refine ⟨_, _, hg1, ?_⟩
        have hw : ∀ k, k < 11 → hl1 36 0 k = vW v i k := by
          intro k hk
          by_cases z : k < 5 ∨ k = 6
          · exact w1 k z
          · rw [k1 k (by omega)]
            exact hwd k (by omega) rfl
        obtain ⟨g, hg2⟩ := x_fields (d := d) (σ := σ) (hi := hi) (hl := hl1) ht hw
        refine ⟨_, _, hg2, ?_⟩
        have fin : ∀ x, nI x = nI (min (vRide v (some R) row i) (v 11 - v (12 + 4 * i))) → Post (some (vi (nI x))) (hp σ hi (fx_all hl1 37 0 g)) := by
          intro x e
          refine ⟨by rw [e], _, rfl, fun k j' s h1 h2 => ?_, fun k hk => ?_⟩
          · rw [fx_all_ne _ _ (fun z => h2 z.1)]
            exact f1 k j' s h1
          · exact k1 k hk
        have hbase : vBase v (some R) i = vClamp (vRule (vW v i) R) (v (13 + 4 * i)) := rfl
        refine lc_gt (fun (h0 : 0 < vRule (vW v i) R) => ?_) (fun (h0 : ¬ 0 < vRule (vW v i) R) => ?_)
        · obtain ⟨n, hn, en⟩ := pk_lOf (x := vRule (vW v i) R) (fun z => Int64.lt_irrefl (Int64.lt_trans h0 z))
          have em : (if hi 1 j 4 - hi 21 j (nI i).toNatClampNeg < hi 22 j (nI i).toNatClampNeg then hi 1 j 4 - hi 21 j (nI i).toNatClampNeg else hi 22 j (nI i).toNatClampNeg).toInt64 = lN (min (v (13 + 4 * i)) (v 11 - v (12 + 4 * i))) := by
            rw [emin]
            exact nI_l (Nat.lt_of_le_of_lt (Nat.min_le_left _ _) (by omega))
          have hmm : min (v (13 + 4 * i)) (v 11 - v (12 + 4 * i)) ≤ 9 := Nat.le_trans (Nat.min_le_left _ _) q2
          have key : (if (if hi 1 j 4 - hi 21 j (nI i).toNatClampNeg < hi 22 j (nI i).toNatClampNeg then hi 1 j 4 - hi 21 j (nI i).toNatClampNeg else hi 22 j (nI i).toNatClampNeg).toInt64 < vRule (vW v i) R then (if hi 1 j 4 - hi 21 j (nI i).toNatClampNeg < hi 22 j (nI i).toNatClampNeg then hi 1 j 4 - hi 21 j (nI i).toNatClampNeg else hi 22 j (nI i).toNatClampNeg).toInt64 else vRule (vW v i) R).toInt32 = nI (min n (min (v (13 + 4 * i)) (v 11 - v (12 + 4 * i)))) := by
            rw [em, en]
            by_cases z : min (v (13 + 4 * i)) (v 11 - v (12 + 4 * i)) < n
            · rw [if_pos ((pk_lLT (by omega) hn).mpr z), lN_i, Nat.min_eq_right (show min (v (13 + 4 * i)) (v 11 - v (12 + 4 * i)) ≤ n by omega)]
            · rw [if_neg (fun q => z ((pk_lLT (by omega) hn).mp q)), lN_i, Nat.min_eq_left (show n ≤ min (v (13 + 4 * i)) (v 11 - v (12 + 4 * i)) by omega)]
          show Post (some (vi (if (if hi 1 j 4 - hi 21 j (nI i).toNatClampNeg < hi 22 j (nI i).toNatClampNeg then hi 1 j 4 - hi 21 j (nI i).toNatClampNeg else hi 22 j (nI i).toNatClampNeg).toInt64 < vRule (vW v i) R then (if hi 1 j 4 - hi 21 j (nI i).toNatClampNeg < hi 22 j (nI i).toNatClampNeg then hi 1 j 4 - hi 21 j (nI i).toNatClampNeg else hi 22 j (nI i).toNatClampNeg).toInt64 else vRule (vW v i) R).toInt32)) (hp σ hi (fx_all hl1 37 0 g))
          rw [key]
          refine fin _ ?_
          rw [hride, hbase]
          have hcl : vClamp (vRule (vW v i) R) (v (13 + 4 * i)) = min n (v (13 + 4 * i)) := by
            unfold vClamp
            rw [en, if_neg (by rw [← en]; exact fun z => Int64.lt_irrefl (Int64.lt_trans h0 z))]
            by_cases z : v (13 + 4 * i) < n
            · rw [if_pos ((pk_lLT (by omega) hn).mpr z), Nat.min_eq_right (by omega)]
            · rw [if_neg (fun q => z ((pk_lLT (by omega) hn).mp q)), pk_lT hn, Nat.min_eq_left (by omega)]
              rfl
          rw [hcl, Nat.min_assoc]
        · refine fin 0 ?_
          rw [hride, hbase]
          have hcl : vClamp (vRule (vW v i) R) (v (13 + 4 * i)) = 0 := by
            unfold vClamp
            by_cases z : vRule (vW v i) R < 0
            · rw [if_pos z]
            · have e0 : vRule (vW v i) R = 0 := Int64.le_antisymm (Int64.not_lt.mp h0) (Int64.not_lt.mp z)
              rw [if_neg z, e0]
              split
              · rename_i q
                exact absurd ((pk_lLT (b := 0) (by omega) (by decide)).mp q) (by omega)
              · rfl
          rw [hcl, Nat.zero_min]
  obtain ⟨r, h', hg, e1, hl', e2, e3, e4⟩ := fx_methX (d := d + 3) (y := 80) (av := [pO, cO j, rR rt, vi (nI i)]) (h := hp σ hi hl) (P := Post) fx_M80 [some pO, some (cO j), some (rR rt), some (vi (nI i)), none, none, none, none] (by decide) rfl rfl (Nat.le_of_ble_eq_true rfl) (fx_wpE [47] 60 (by
    refine ⟨b6, ?_⟩
    refine pk_le (v 11 - v (12 + 4 * i)) 0 (fun h0 => ?_) (fun h0 => ?_) eroom
    · exact same 0 (by rw [show v 11 - v (12 + 4 * i) = 0 by omega, Nat.min_zero])
    · refine ⟨b6, ?_⟩
      refine pk_le (v (14 + 4 * i)) 0 (fun hg0 => ?_) (fun hg0 => ?_) eg
      · have hout : vOut v i = false := by unfold vOut; exact decide_eq_false (by omega)
        cases row with
        | none =>
          have hr1 : hi 8 0 3 = -1 := hr
          refine ⟨fun _ => ?_, fun (hn : ¬ ¬ nI i = hi 8 0 3) => absurd (Classical.not_not.mp hn) (by rw [hr1]; exact ne_m1 (by omega))⟩
          exact rest hout (by unfold vRide; rw [hout]; rfl) h0
        | some q =>
          obtain ⟨w, f⟩ := q
          obtain ⟨hw6, hr1, hf9, hr2⟩ := hr
          refine nn_eq i w (fun he => ?_) (fun he => ?_) rfl hr1
          · have er : vRide v rl (some (w, f)) i = f := by unfold vRide; rw [hout]; exact if_pos he
            have em : (if hi 1 j 4 - hi 21 j (nI i).toNatClampNeg < hi 8 0 4 then hi 1 j 4 - hi 21 j (nI i).toNatClampNeg else hi 8 0 4) = nI (min f (v 11 - v (12 + 4 * i))) := by
              rw [eroom, hr2]
              exact min_nI _ _ (by omega) (by omega)
            show Post (some (vi (if hi 1 j 4 - hi 21 j (nI i).toNatClampNeg < hi 8 0 4 then hi 1 j 4 - hi 21 j (nI i).toNatClampNeg else hi 8 0 4))) (hp σ hi hl)
            rw [em]
            exact same _ (by rw [er])
          · exact rest hout (by unfold vRide; rw [hout]; exact if_neg he) h0
      · have hout : vOut v i = true := by unfold vOut; exact decide_eq_true hg0
        exact same 0 (by unfold vRide; rw [if_pos hout, Nat.zero_min])))
  subst e1
  subst e2
  exact ⟨hl', hg, e3, e4⟩
end XT
