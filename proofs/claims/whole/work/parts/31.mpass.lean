/-! the reference: passes -/
def vup (v : Nat → Nat) (x y : Nat) : Nat → Nat := fun z => if z = x then y else v z
theorem vup_eq (v : Nat → Nat) (x y : Nat) : vup v x y x = y := if_pos rfl
theorem vup_ne {v : Nat → Nat} {x y z : Nat} (h : z ≠ x) : vup v x y z = v z := if_neg h
theorem PM.put {hi : fxI3} {v : Nat → Nat} (h : PM hi v) {x y : Nat} (hy : y < 2 ^ 30) : PM (fx_up hi 59 0 x (nI y)) (vup v x y) := by
  intro i hi0
  by_cases e : i = x
  · subst e
    rw [vup_eq]
    exact ⟨by rw [fx_up_eq]; exact if_pos rfl, hy⟩
  · rw [vup_ne e]
    exact ⟨by rw [fx_up_eq]; exact (if_neg e).trans (h i hi0).1, (h i hi0).2⟩
/-- all but the row, what rides, and the stack's top stays -/
def FrP (hi hi' : fxI3) : Prop := ∀ k j s, k ≠ 59 → k ≠ 61 → ¬ (k = 11 ∧ s = 18) → hi' k j s = hi k j s
def FlP (hl hl' : fxL3) : Prop := ∀ k j s, k ≠ 57 → k ≠ 58 → hl' k j s = hl k j s
theorem FrP.rf (hi : fxI3) : FrP hi hi := fun _ _ _ _ _ _ => rfl
theorem FlP.rf (hl : fxL3) : FlP hl hl := fun _ _ _ _ _ => rfl
theorem FrP.tr {a b c : fxI3} (h : FrP a b) (g : FrP b c) : FrP a c := fun k j s h1 h2 h3 => (g k j s h1 h2 h3).trans (h k j s h1 h2 h3)
theorem FlP.tr {a b c : fxL3} (h : FlP a b) (g : FlP b c) : FlP a c := fun k j s h1 h2 => (g k j s h1 h2).trans (h k j s h1 h2)
theorem FrP.said (hi : fxI3) (j s : Nat) (x : Int32) : FrP hi (fx_up hi 59 j s x) := fun k _ _ h1 _ _ => by
  unfold fx_up
  rw [if_neg h1]
theorem FrP.ride (hi : fxI3) (j s : Nat) (x : Int32) : FrP hi (fx_up hi 61 j s x) := fun k _ _ _ h1 _ => by
  unfold fx_up
  rw [if_neg h1]
theorem FrP.top (hi : fxI3) (j : Nat) (x : Int32) : FrP hi (fx_up hi 11 j 18 x) := fun k j' s _ _ h1 => by
  by_cases e : k = 11 ∧ j' = j
  · obtain ⟨rfl, rfl⟩ := e
    rw [fx_up_eq]
    exact if_neg (fun z => h1 ⟨rfl, z⟩)
  · rw [fx_up_ne _ _ e]
theorem FlP.rows (hl : fxL3) (g g2 : Nat → Int64) : FlP hl (fx_all (fx_all hl 58 0 g2) 57 0 g) := fun k j s h1 h2 => by
  rw [fx_all_ne _ _ (fun z => h1 z.1), fx_all_ne _ _ (fun z => h2 z.1)]
theorem tokAt_fr {hi hi' : fxI3} (h : FrP hi hi') {p : Nat} {L : List Nat} (g : tokAt hi p L) : tokAt hi' p L := fun k hk => by
  rw [h 51 0 _ (by decide) (by decide) (by simp)]
  exact g k hk
theorem RMl_fr {hi hi' : fxI3} (h : FrP hi hi') {t : Nat} : ∀ (R : fxRl) (c p : Nat), RMl hi t R c p → RMl hi' t R c p
  | [], _, _, _ => trivial
  | (s, o) :: r, c, p, g => by
    obtain ⟨g1, g2, g3, g4, g5, g6, g7, g8, g9, g10, g11⟩ := g
    have e : ∀ x, hi' 53 0 x = hi 53 0 x := fun x => h 53 0 x (by decide) (by decide) (by simp)
    exact ⟨g1, g2, (e _).trans g3, (e _).trans g4, (e _).trans g5, (e _).trans g6, tokAt_fr h g7, tokAt_fr h g8, g9, g10, RMl_fr h r _ _ g11⟩
theorem RM_fr {hi hi' : fxI3} (h : FrP hi hi') {t : Nat} {R : fxRl} (g : RM hi t R) : RM hi' t R := ⟨g.1, (h 54 0 t (by decide) (by decide) (by simp)).trans g.2.1, RMl_fr h R 0 0 g.2.2⟩
theorem FM_fr {hi hi' : fxI3} (h : FrP hi hi') {rl : Option fxRl} (g : FM hi rl) : FM hi' rl := by
  have e : hi' 11 0 21 = hi 11 0 21 := h 11 0 21 (by decide) (by decide) (by decide)
  cases rl with
  | none => exact e.trans g
  | some R =>
    obtain ⟨t, g1, g2, g3⟩ := g
    exact ⟨t, g1, e.trans g2, RM_fr h g3⟩
theorem WM_fr {hi hi' : fxI3} (h : FrP hi hi') {row : Option (Nat × Nat)} (g : WM hi row) : WM hi' row := by
  have e : hi' 11 0 23 = hi 11 0 23 := h 11 0 23 (by decide) (by decide) (by decide)
  have e2 : hi' 11 0 25 = hi 11 0 25 := h 11 0 25 (by decide) (by decide) (by decide)
  cases row with
  | none => exact e.trans g
  | some q =>
    obtain ⟨i, f⟩ := q
    obtain ⟨g1, g2, g3, a, g4, g5, g6⟩ := g
    exact ⟨g1, e.trans g2, g3, a, g4, e2.trans g5, (h 60 0 a (by decide) (by decide) (by simp)).trans g6⟩
def vMv (v rd : Nat → Nat) : Nat → Nat → Nat
  | 0 => v
  | k + 1 => if vOut v k then vup (vMv v rd k) (14 + 4 * k) (v (14 + 4 * k) - 1) else vup (vMv v rd k) (12 + 4 * k) (min (v (12 + 4 * k) + rd k) (v 11))
theorem vMv_out (v rd : Nat → Nat) : ∀ k x, x < 12 ∨ 12 + 4 * k ≤ x → vMv v rd k x = v x
  | 0, _, _ => rfl
  | k + 1, x, h => by
    unfold vMv
    split
    · rw [vup_ne (by omega)]
      exact vMv_out v rd k x (by omega)
    · rw [vup_ne (by omega)]
      exact vMv_out v rd k x (by omega)
theorem vMv_odd (v rd : Nat → Nat) : ∀ k x, x % 2 = 1 → vMv v rd k x = v x
  | 0, _, _ => rfl
  | k + 1, x, h => by
    unfold vMv
    split
    · rw [vup_ne (by omega)]
      exact vMv_odd v rd k x h
    · rw [vup_ne (by omega)]
      exact vMv_odd v rd k x h
def vStep (v : Nat → Nat) (rl : Option fxRl) (row : Option (Nat × Nat)) : (Nat → Nat) × Option Nat :=
  let v1 := vMv v (vRide v rl row) (v 4)
  if vTo v1 ≤ v 2 then
    (match vLast (vup v1 11 (v 11 + vTo v1)) (v 4) with
    | none => (vup (vup v1 11 (v 11 + vTo v1)) 10 (v 10 + 1), none)
    | some l => (vup (vup (vup (vup v1 11 (v 11 + vTo v1)) (14 + 4 * l) (v 3)) (15 + 4 * l) (v1 (15 + 4 * l) + 1)) 10 (v 10 + 1), some l))
  else (vup (vup v1 11 (v 11 + v 2)) 10 (v 10 + 1), none)
section MP
variable {d : Nat} {σ : fxS} {hi : fxI3} {hl : fxL3} {v : Nat → Nat}
theorem m_turns (hv : PM hi v) (h4 : v 4 ≤ 6) (h3 : v 3 ≤ 9) (h15 : ∀ i, i < 6 → v (15 + 4 * i) < 2 ^ 20) :
    ∃ hi', fx_Ga (d + 3) 205 [mO] (hp σ hi hl) (some (vi (oI (vLast v (v 4))))) (hp σ hi' hl) ∧ FrP hi hi' ∧ PM hi' (match vLast v (v 4) with | none => v | some l => vup (vup v (14 + 4 * l) (v 3)) (15 + 4 * l) (v (15 + 4 * l) + 1)) := by
  have key : fx_E (fx_Ga (d + 2)) fx_M205 (0, [some mO, none], [], hp σ hi hl, 0, 0) (fun r2 h2 => r2 = some (vi (oI (vLast v (v 4)))) ∧ ∃ hi', h2 = hp σ hi' hl ∧ FrP hi hi' ∧ PM hi' (match vLast v (v 4) with | none => v | some l => vup (vup v (14 + 4 * l) (v 3)) (15 + 4 * l) (v (15 + 4 * l) + 1))) := by
    refine fx_wpE [] 60 ⟨_, _, m_lastOne hv h4, ?_⟩
    refine oI_ge (fun i hi0 => by have := vLast_lt v _ i hi0; omega) (fun l hl0 => ?_) (fun hn => ⟨?_, ?_⟩)
    · have l6 : l < 6 := by have := vLast_lt v _ l hl0; omega
      have eo : oI (vLast v (v 4)) = nI l := by rw [hl0]; rfl
      have e14 : (12 + 4 * oI (vLast v (v 4)) + 2 : Int32) = nI (14 + 4 * l) := by rw [eo]; exact ri_2 l
      have e15 : (12 + 4 * oI (vLast v (v 4)) + 3 : Int32) = nI (15 + 4 * l) := by rw [eo]; exact ri_3 l
      have e3 := (hv 3 (by decide)).1
      have hb := h15 l l6
      have hv1 := hv.put (x := 14 + 4 * l) (y := v 3) (by omega)
      have hv2 := hv1.put (x := 15 + 4 * l) (y := v (15 + 4 * l) + 1) (by omega)
      refine ⟨ni_inx (n := 3) (m := 83) rfl (by decide) (by decide), ni_inx (n := 14 + 4 * l) (m := 83) e14 (by omega) (by decide), ni_inx (n := 15 + 4 * l) (m := 83) e15 (by omega) (by decide), ni_inx (n := 15 + 4 * l) (m := 83) e15 (by omega) (by decide), rfl, ?_⟩
      refine ⟨fx_up (fx_up hi 59 0 (14 + 4 * l) (nI (v 3))) 59 0 (15 + 4 * l) (nI (v (15 + 4 * l) + 1)), ?_, (FrP.said hi 0 _ _).tr (FrP.said _ 0 _ _), ?_⟩
      · show hp σ (fx_up (fx_up hi 59 0 (12 + 4 * oI (vLast v (v 4)) + 2 : Int32).toNatClampNeg (hi 59 0 3)) 59 0 (12 + 4 * oI (vLast v (v 4)) + 3 : Int32).toNatClampNeg (fx_up hi 59 0 (12 + 4 * oI (vLast v (v 4)) + 2 : Int32).toNatClampNeg (hi 59 0 3) 59 0 (12 + 4 * oI (vLast v (v 4)) + 3 : Int32).toNatClampNeg + 1)) hl = _
        rw [ni_cl e14 (by omega), ni_cl e15 (by omega), e3, (hv1 (15 + 4 * l) (by omega)).1, vup_ne (by omega), nI_1]
      · rw [hl0]
        exact hv2
    · rw [hn]
      rfl
    · refine ⟨hi, rfl, FrP.rf hi, ?_⟩
      rw [hn]
      exact hv
  obtain ⟨r, h', hg, e1, hi', e2, e3, e4⟩ := fx_methX (y := 205) (av := [mO]) fx_M205 [some mO, none] (by decide) rfl rfl (Nat.le_of_ble_eq_true rfl) key
  subst e1
  subst e2
  exact ⟨hi', hg, e3, e4⟩
theorem m_passes (hv : PM hi v) (hs : SV v) {rl : Option fxRl} {row : Option (Nat × Nat)} (hf : FM hi rl) (hr : WM hi row) :
    ∃ hi' hl', fx_Ga (d + 6) 206 [mO] (hp σ hi hl) (some (vi (oI (vStep v rl row).2))) (hp σ hi' hl') ∧ FrP hi hi' ∧ FlP hl hl' ∧ PM hi' (vStep v rl row).1 := by
  obtain ⟨s4, s1, s2, s3, s11, s10, si⟩ := id hs
  have e4 := (hv 4 (by decide)).1
  have hrow9 : ∀ j f, row = some (j, f) → f ≤ 9 := fun j f e => by subst e; exact hr.2.2.1
  have rd9 : ∀ i, i < 6 → vRide v rl row i ≤ 9 := fun i h6 => vRide_le hs h6 hrow9
  let Post : Option fxV → fxH → Prop := fun r2 h2 => r2 = some (vi (oI (vStep v rl row).2)) ∧ ∃ hi' hl', h2 = hp σ hi' hl' ∧ FrP hi hi' ∧ FlP hl hl' ∧ PM hi' (vStep v rl row).1
  -- behind both loops
  have tail : ∀ (hb : fxI3) (hlb : fxL3) l1 l2, FrP hi hb → FlP hl hlb → PM hb (vMv v (vRide v rl row) (v 4)) → fx_E (fx_Ga (d + 5)) fx_M206 (121, [some mO, l1, l2, none], [], hp σ hb hlb, 0, 0) Post := by
    intro hb hlb l1 l2 f1 f2 hv1
    generalize ev1 : vMv v (vRide v rl row) (v 4) = v1 at hv1
    have o : ∀ x, x < 12 ∨ 36 ≤ x → v1 x = v x := fun x hx => by rw [← ev1]; exact vMv_out v _ _ x (by omega)
    have o15 : ∀ i, i < 6 → v1 (15 + 4 * i) = v (15 + 4 * i) := fun i _ => by rw [← ev1]; exact vMv_odd v _ _ _ (by omega)
    have hto : vTo v1 ≤ 99 := by
      unfold vTo
      rw [o 1 (by omega)]
      rcases vToF_le v1 (v 1) 1 with h | h <;> omega
    refine fx_wpE [] 80 ⟨_, _, m_toGate (d := d + 2) hv1 (by rw [o 1 (by omega)]; exact s1) (by rw [o 11 (by omega)]; exact s11), ?_⟩
    refine ⟨ni_inx (n := 2) (m := 83) rfl (by decide) (by decide), ?_⟩
    have e2 : hb 59 0 2 = nI (v 2) := by rw [(hv1 2 (by decide)).1, o 2 (by omega)]
    have e11 : hb 59 0 11 = nI (v 11) := by rw [(hv1 11 (by decide)).1, o 11 (by omega)]
    refine pk_lt (v 2) (vTo v1) (fun hgt => ?_) (fun hle => ?_) e2
    · -- no gate
      have hv2 := hv1.put (x := 11) (y := v 11 + v 2) (by omega)
      have hv3 := hv2.put (x := 10) (y := v 10 + 1) (by omega)
      have est : vStep v rl row = (vup (vup v1 11 (v 11 + v 2)) 10 (v 10 + 1), none) := by
        unfold vStep
        rw [ev1]
        exact if_neg (by omega)
      refine ⟨ni_inx (n := 11) (m := 83) rfl (by decide) (by decide), ?_⟩
      refine ⟨fun _ => ?_, fun z => absurd rfl z⟩
      refine ⟨ni_inx (n := 2) (m := 83) rfl (by decide) (by decide), ni_inx (n := 11) (m := 83) rfl (by decide) (by decide), ?_⟩
      refine ⟨fun _ => ?_, fun z => absurd rfl z⟩
      refine ⟨ni_inx (n := 10) (m := 83) rfl (by decide) (by decide), ni_inx (n := 10) (m := 83) rfl (by decide) (by decide), by rw [est]; rfl, ?_⟩
      refine ⟨fx_up (fx_up hb 59 0 11 (nI (v 11 + v 2))) 59 0 10 (nI (v 10 + 1)), hlb, ?_, f1.tr ((FrP.said hb 0 _ _).tr (FrP.said _ 0 _ _)), f2, by rw [est]; exact hv3⟩
      show hp σ (fx_up (fx_up hb 59 0 11 (hb 59 0 11 + hb 59 0 2)) 59 0 10 (hb 59 0 10 + 1)) hlb = _
      rw [e11, e2, nI_add, (hv1 10 (by decide)).1, o 10 (by omega), nI_1]
    · -- a gate
      have hv2 := hv1.put (x := 11) (y := v 11 + vTo v1) (by omega)
      refine ⟨ni_inx (n := 11) (m := 83) rfl (by decide) (by decide), ?_⟩
      refine ⟨fun z => absurd z (by decide), fun _ => ?_⟩
      refine ⟨ni_inx (n := 11) (m := 83) rfl (by decide) (by decide), ?_⟩
      refine ⟨fun z => absurd z (by decide), fun _ => ?_⟩
      have e4' : vup v1 11 (v 11 + vTo v1) 4 = v 4 := by rw [vup_ne (by decide), o 4 (by omega)]
      have e3' : vup v1 11 (v 11 + vTo v1) 3 = v 3 := by rw [vup_ne (by decide), o 3 (by omega)]
      obtain ⟨hi2, hg, f3, hv3⟩ := m_turns (d := d + 2) (σ := σ) (hl := hlb) hv2 (by rw [e4']; exact s4) (by rw [e3']; exact s3) (fun i h6 => by rw [vup_ne (by omega), o15 i h6]; exact (si i h6).2.2.2)
      rw [e4', e3'] at hv3
      rw [e4'] at hg
      have ehp : hp σ (fx_up hb 59 0 11 (nI (v 11 + vTo v1))) hlb = hp σ (fx_up hb 59 0 11 (hb 59 0 11 + nI (vTo v1))) hlb := by rw [e11, nI_add]
      rw [ehp] at hg
      refine ⟨_, _, hg, ?_⟩
      have f4 := f1.tr ((FrP.said hb 0 11 (nI (v 11 + vTo v1))).tr f3)
      refine ⟨ni_inx (n := 10) (m := 83) rfl (by decide) (by decide), ni_inx (n := 10) (m := 83) rfl (by decide) (by decide), ?_⟩
      cases hlast : vLast (vup v1 11 (v 11 + vTo v1)) (v 4) with
      | none =>
        rw [hlast] at hv3
        have hv3 : PM hi2 (vup v1 11 (v 11 + vTo v1)) := hv3
        have est : vStep v rl row = (vup (vup v1 11 (v 11 + vTo v1)) 10 (v 10 + 1), none) := by
          unfold vStep
          rw [ev1]
          refine (if_pos hle).trans ?_
          rw [hlast]
        have hv4 := hv3.put (x := 10) (y := v 10 + 1) (by omega)
        refine ⟨by rw [est], fx_up hi2 59 0 10 (nI (v 10 + 1)), hlb, ?_, f4.tr (FrP.said _ 0 _ _), f2, by rw [est]; exact hv4⟩
        show hp σ (fx_up hi2 59 0 10 (hi2 59 0 10 + 1)) hlb = _
        rw [(hv3 10 (by decide)).1, vup_ne (by decide), o 10 (by omega), nI_1]
      | some l =>
        rw [hlast] at hv3
        have l6 : l < 6 := by have := vLast_lt _ _ l hlast; omega
        have est : vStep v rl row = (vup (vup (vup (vup v1 11 (v 11 + vTo v1)) (14 + 4 * l) (v 3)) (15 + 4 * l) (v1 (15 + 4 * l) + 1)) 10 (v 10 + 1), some l) := by
          unfold vStep
          rw [ev1]
          refine (if_pos hle).trans ?_
          rw [hlast]
        have hv3 : PM hi2 (vup (vup (vup v1 11 (v 11 + vTo v1)) (14 + 4 * l) (v 3)) (15 + 4 * l) (vup v1 11 (v 11 + vTo v1) (15 + 4 * l) + 1)) := hv3
        rw [show vup v1 11 (v 11 + vTo v1) (15 + 4 * l) = v1 (15 + 4 * l) from vup_ne (by omega)] at hv3
        have hv4 := hv3.put (x := 10) (y := v 10 + 1) (by omega)
        refine ⟨by rw [est], fx_up hi2 59 0 10 (nI (v 10 + 1)), hlb, ?_, f4.tr (FrP.said _ 0 _ _), f2, by rw [est]; exact hv4⟩
        show hp σ (fx_up hi2 59 0 10 (hi2 59 0 10 + 1)) hlb = _
        rw [(hv3 10 (by decide)).1, vup_ne (by omega), vup_ne (by omega), vup_ne (by decide), o 10 (by omega), nI_1]
  -- the second loop
  have loopB : ∀ k r (hb : fxI3) (hlb : fxL3) l2, r + k = v 4 → FrP hi hb → FlP hl hlb → (∀ i, i < v 4 → hb 61 0 i = nI (vRide v rl row i)) → PM hb (vMv v (vRide v rl row) r) → fx_E (fx_Ga (d + 5)) fx_M206 (31, [some mO, some (vi (nI r)), l2, none], [], hp σ hb hlb, 0, 0) Post := by
    intro k
    induction k with
    | zero =>
      intro r hb hlb l2 hk f1 f2 _ hvb
      have : r = v 4 := by omega
      subst this
      refine fx_wpL [31, 121] 20 ⟨ni_inx (n := 4) (m := 83) rfl (by decide) (by decide), ?_⟩
      refine pk_le (v 4) (v 4) (fun _ => ?_) (fun hc => by omega) (by rw [← vMv_out v (vRide v rl row) (v 4) 4 (by omega)]; exact (hvb 4 (by decide)).1)
      exact tail hb hlb _ _ f1 f2 hvb
    | succ k ih =>
      intro r hb hlb l2 hk f1 f2 h61 hvb
      have r6 : r < 6 := by omega
      have eo : ∀ x, x < 12 ∨ 12 + 4 * r ≤ x → vMv v (vRide v rl row) r x = v x := vMv_out v _ r
      have er : hb 59 0 (12 + 4 * nI r : Int32).toNatClampNeg = nI (v (12 + 4 * r)) := by rw [hvb.at (ri_0 r) (by omega), eo _ (by omega)]
      have e61 : hb 61 0 (nI r).toNatClampNeg = nI (vRide v rl row r) := by rw [nI_clamp (by omega)]; exact h61 r (by omega)
      have e11 : hb 59 0 11 = nI (v 11) := by rw [(hvb 11 (by decide)).1, eo 11 (by omega)]
      have hrd := rd9 r r6
      obtain ⟨q1, q2, q3, q4⟩ := si r r6
      have hrun := m_runOf (d := d + 4) (σ := σ) (hl := hlb) hvb r6
      have hout := m_isOut (d := d + 4) (σ := σ) (hl := hlb) hvb r6
      rw [eo _ (by omega)] at hrun
      rw [show vOut (vMv v (vRide v rl row) r) r = vOut v r by unfold vOut; rw [eo _ (by omega)]] at hout
      refine fx_wpL [31, 121] 60 ⟨ni_inx (n := 4) (m := 83) rfl (by decide) (by decide), ?_⟩
      refine pk_le (v 4) r (fun hc => by omega) (fun _ => ?_) (by rw [← eo 4 (by omega)]; exact (hvb 4 (by decide)).1)
      refine ⟨_, _, hrun, ni_inx (n := r) (m := 6) rfl r6 (by decide), _, _, hout, ?_⟩
      have esum : nI (v (12 + 4 * r)) + hb 61 0 (nI r).toNatClampNeg = nI (v (12 + 4 * r) + vRide v rl row r) := by rw [e61, nI_add]
      refine b01_nf (fun hc => ?_) (fun hc => ?_)
      · -- to ground
        have e14 : hb 59 0 (12 + 4 * nI r + 2 : Int32).toNatClampNeg = nI (v (14 + 4 * r)) := by rw [hvb.at (ri_2 r) (by omega), eo _ (by omega)]
        have hpos : 0 < v (14 + 4 * r) := by
          unfold vOut at hc
          exact of_decide_eq_true hc
        have hvn := hvb.put (x := 14 + 4 * r) (y := v (14 + 4 * r) - 1) (by omega)
        refine ⟨ni_inx (n := 14 + 4 * r) (m := 83) (ri_2 r) (by omega) (by decide), ni_inx (n := 14 + 4 * r) (m := 83) (ri_2 r) (by omega) (by decide), ?_⟩
        have h2 := ih (r + 1) (fx_up hb 59 0 (14 + 4 * r) (nI (v (14 + 4 * r) - 1))) hlb (some (vi (nI (v (12 + 4 * r)) + hb 61 0 (nI r).toNatClampNeg))) (by omega) (f1.tr (FrP.said hb 0 _ _)) f2 h61 (by rw [vMv, if_pos hc]; exact hvn)
        rw [← nI_1, show fx_up hb 59 0 (14 + 4 * r) (nI (v (14 + 4 * r) - 1)) = fx_up hb 59 0 (12 + 4 * nI r + 2 : Int32).toNatClampNeg (hb 59 0 (12 + 4 * nI r + 2 : Int32).toNatClampNeg - 1) by rw [e14, ni_cl (ri_2 r) (by omega), ← pk_sub (show 1 ≤ v (14 + 4 * r) by omega)]; rfl] at h2
        exact h2
      · -- rides
        have hvn := hvb.put (x := 12 + 4 * r) (y := min (v (12 + 4 * r) + vRide v rl row r) (v 11)) (Nat.lt_of_le_of_lt (Nat.min_le_right _ _) (by omega))
        refine ⟨ni_inx (n := 11) (m := 83) rfl (by decide) (by decide), ?_⟩
        refine pk_le (v (12 + 4 * r) + vRide v rl row r) (v 11) (fun hle => ?_) (fun hgt => ?_) esum e11
        · refine ⟨ni_inx (n := 12 + 4 * r) (m := 83) (ri_0 r) (by omega) (by decide), ?_⟩
          have h2 := ih (r + 1) (fx_up hb 59 0 (12 + 4 * r) (nI (min (v (12 + 4 * r) + vRide v rl row r) (v 11)))) hlb (some (vi (nI (v (12 + 4 * r)) + hb 61 0 (nI r).toNatClampNeg))) (by omega) (f1.tr (FrP.said hb 0 _ _)) f2 h61 (by rw [vMv, if_neg (by rw [hc]; decide)]; exact hvn)
          rw [← nI_1, show fx_up hb 59 0 (12 + 4 * r) (nI (min (v (12 + 4 * r) + vRide v rl row r) (v 11))) = fx_up hb 59 0 (12 + 4 * nI r : Int32).toNatClampNeg (nI (v (12 + 4 * r)) + hb 61 0 (nI r).toNatClampNeg) by rw [esum, ni_cl (ri_0 r) (by omega), Nat.min_eq_left hle]] at h2
          exact h2
        · refine ⟨ni_inx (n := 11) (m := 83) rfl (by decide) (by decide), ni_inx (n := 12 + 4 * r) (m := 83) (ri_0 r) (by omega) (by decide), ?_⟩
          have h2 := ih (r + 1) (fx_up hb 59 0 (12 + 4 * r) (nI (min (v (12 + 4 * r) + vRide v rl row r) (v 11)))) hlb (some (vi (nI (v (12 + 4 * r)) + hb 61 0 (nI r).toNatClampNeg))) (by omega) (f1.tr (FrP.said hb 0 _ _)) f2 h61 (by rw [vMv, if_neg (by rw [hc]; decide)]; exact hvn)
          rw [← nI_1, show fx_up hb 59 0 (12 + 4 * r) (nI (min (v (12 + 4 * r) + vRide v rl row r) (v 11))) = fx_up hb 59 0 (12 + 4 * nI r : Int32).toNatClampNeg (hb 59 0 11) by rw [e11, ni_cl (ri_0 r) (by omega), Nat.min_eq_right (by omega)]] at h2
          exact h2
  -- the first loop
  have loopA : ∀ k r (hb : fxI3) (hlb : fxL3), r + k = v 4 → FrP hi hb → FlP hl hlb → (∀ i, i < r → hb 61 0 i = nI (vRide v rl row i)) → PM hb v → fx_E (fx_Ga (d + 5)) fx_M206 (2, [some mO, some (vi (nI r)), none, none], [], hp σ hb hlb, 0, 0) Post := by
    intro k
    induction k with
    | zero =>
      intro r hb hlb hk f1 f2 h61 hvb
      have : r = v 4 := by omega
      subst this
      refine fx_wpL [2, 31] 20 ⟨ni_inx (n := 4) (m := 83) rfl (by decide) (by decide), ?_⟩
      refine pk_le (v 4) (v 4) (fun _ => ?_) (fun hc => by omega) (hvb 4 (by decide)).1
      exact loopB (v 4) 0 hb hlb none (by omega) f1 f2 h61 hvb
    | succ k ih =>
      intro r hb hlb hk f1 f2 h61 hvb
      have r6 : r < 6 := by omega
      refine fx_wpL [2, 31] 30 ⟨ni_inx (n := 4) (m := 83) rfl (by decide) (by decide), ?_⟩
      refine pk_le (v 4) r (fun hc => by omega) (fun _ => ?_) (hvb 4 (by decide)).1
      obtain ⟨z, g, g2, hg⟩ := m_ridesOf (d := d) (σ := σ) (hl := hlb) hvb hs r6 (FM_fr f1 hf) (WM_fr f1 hr)
      refine ⟨_, _, hg, ni_inx (n := r) (m := 6) rfl r6 (by decide), ?_⟩
      have h2 := ih (r + 1) (fx_up (fx_up hb 11 0 18 z) 61 0 r (nI (vRide v rl row r))) (fx_all (fx_all hlb 58 0 g2) 57 0 g) (by omega) (f1.tr ((FrP.top hb 0 z).tr (FrP.ride _ 0 _ _))) (f2.tr (FlP.rows hlb g g2)) (fun i hi0 => by
        by_cases e : i = r
        · subst e
          rw [fx_up_eq]
          exact if_pos rfl
        · rw [fx_up_eq]
          exact (if_neg e).trans (h61 i (by omega))) hvb
      rw [← nI_1] at h2
      conv at h2 => rw [show fx_up (fx_up hb 11 0 18 z) 61 0 r = fx_up (fx_up hb 11 0 18 z) 61 0 (nI r).toNatClampNeg by rw [nI_clamp (by omega)]]
      exact h2
  obtain ⟨r, h', hg, e1, hi', hl', e2, e3, e5, e6⟩ := fx_methX (d := d + 5) (y := 206) (av := [mO]) (h := hp σ hi hl) (P := Post) fx_M206 [some mO, none, none, none] (by decide) rfl rfl (Nat.le_of_ble_eq_true rfl) (fx_wpE [2] 10 (loopA (v 4) 0 hi hl (by omega) (FrP.rf hi) (FlP.rf hl) (fun i h => absurd h (by omega)) hv))
  subst e1
  subst e2
  exact ⟨hi', hl', hg, e3, e5, e6⟩
end MP
