/-! the class: the fox runs, and a whole step -/
def vFox (v : Nat → Nat) : (Nat → Nat) × Option Nat :=
  if vTo v ≤ v 2 then
    (match vLast (vup v 11 (v 11 + vTo v)) (v 4) with
    | none => (vup v 11 (v 11 + vTo v), none)
    | some l => (vup (vup (vup v 11 (v 11 + vTo v)) (14 + 4 * l) (v 3)) (15 + 4 * l) (v (15 + 4 * l) + 1), some l))
  else (vup v 11 (v 11 + v 2), none)
theorem vStep_fox (v : Nat → Nat) (rl : Option fxRl) (row : Option (Nat × Nat)) : vStep v rl row = (vup (vFox (vMv v (vRide v rl row) (v 4))).1 10 (v 10 + 1), (vFox (vMv v (vRide v rl row) (v 4))).2) := by
  have o : ∀ x, x < 12 → vMv v (vRide v rl row) (v 4) x = v x := fun x hx => vMv_out v _ _ x (by omega)
  unfold vStep vFox
  generalize vMv v (vRide v rl row) (v 4) = v1 at o
  dsimp only
  rw [o 2 (by decide), o 4 (by decide), o 11 (by decide), o 3 (by decide)]
  split
  · cases vLast (vup v1 11 (v 11 + vTo v1)) (v 4) <;> rfl
  · rfl
theorem vFox_lo (v : Nat → Nat) {x : Nat} (hx : x < 11) : (vFox v).1 x = v x := by
  unfold vFox
  split
  · split
    · exact vup_ne (show x ≠ 11 by omega)
    · rename_i l _
      exact (vup_ne (show x ≠ 15 + 4 * l by omega)).trans ((vup_ne (show x ≠ 14 + 4 * l by omega)).trans (vup_ne (show x ≠ 11 by omega)))
  · exact vup_ne (show x ≠ 11 by omega)
theorem vFox_hi (v : Nat → Nat) (h4 : v 4 ≤ 6) {x : Nat} (hx : 36 ≤ x) : (vFox v).1 x = v x := by
  unfold vFox
  split
  · split
    · exact vup_ne (show x ≠ 11 by omega)
    · rename_i l hl
      have := (vLast_lt _ _ l hl).1
      exact (vup_ne (show x ≠ 15 + 4 * l by omega)).trans ((vup_ne (show x ≠ 14 + 4 * l by omega)).trans (vup_ne (show x ≠ 11 by omega)))
  · exact vup_ne (show x ≠ 11 by omega)
/-- all but chase j and what moves stays -/
def FrX (j : Nat) (hi hi' : fxI3) : Prop := ∀ k j' s, k ≠ 38 → ¬ ((k = 1 ∨ 21 ≤ k ∧ k ≤ 24) ∧ j' = j) → hi' k j' s = hi k j' s
def FlX (hl hl' : fxL3) : Prop := ∀ k j s, k ≠ 36 → k ≠ 37 → hl' k j s = hl k j s
theorem FrX.rf (j : Nat) (hi : fxI3) : FrX j hi hi := fun _ _ _ _ _ => rfl
theorem FlX.rf (hl : fxL3) : FlX hl hl := fun _ _ _ _ _ => rfl
theorem FrX.tr {j : Nat} {a b c : fxI3} (h : FrX j a b) (g : FrX j b c) : FrX j a c := fun k j' s h1 h2 => (g k j' s h1 h2).trans (h k j' s h1 h2)
theorem FlX.tr {a b c : fxL3} (h : FlX a b) (g : FlX b c) : FlX a c := fun k j s h1 h2 => (g k j s h1 h2).trans (h k j s h1 h2)
theorem FrX.up {j : Nat} (hi : fxI3) (k s : Nat) (x : Int32) (hk : k = 1 ∨ 21 ≤ k ∧ k ≤ 24) : FrX j hi (fx_up hi k j s x) := fun k' j' s' _ h => congrFun (fx_up_ne (k := k) (j := j) (a := k') (b := j') hi x (fun z => h ⟨by rw [z.1]; exact hk, z.2⟩)) s'
theorem FrX.mv {j : Nat} (hi : fxI3) (s : Nat) (x : Int32) : FrX j hi (fx_up hi 38 0 s x) := fun k' j' s' h _ => congrFun (fx_up_ne hi x (fun z => h z.1)) s'
theorem vup_self (v : Nat → Nat) (x : Nat) : vup v x (v x) = v := by
  funext z
  unfold vup
  split
  · rename_i h
    rw [h]
  · rfl
theorem vup_up (v : Nat → Nat) (x a b : Nat) : vup (vup v x a) x b = vup v x b := by
  funext z
  unfold vup
  split <;> rfl
section XS
variable {d : Nat} {σ : fxS} {hi : fxI3} {hl : fxL3} {v : Nat → Nat} {j : Nat}
theorem x_runFox (hv : PX hi hl j v) (hs : SV v) (hg : GV v) (h11 : v 11 + 99 < 2 ^ 20) :
    ∃ hi', fx_Ga (d + 4) 83 [cO j] (hp σ hi hl) (some (vi (oI (vFox v).2))) (hp σ hi' hl) ∧ FrX j hi hi' ∧ PX hi' hl j (vFox v).1 := by
  obtain ⟨s4, s1, s2, s3, s11, s10, si⟩ := id hs
  have hto : vTo v ≤ 99 := by
    unfold vTo
    rcases vToF_le v (v 1) 1 with h | h <;> omega
  let Post : Option fxV → fxH → Prop := fun r2 h2 => r2 = some (vi (oI (vFox v).2)) ∧ ∃ hi', h2 = hp σ hi' hl ∧ FrX j hi hi' ∧ PX hi' hl j (vFox v).1
  have e11 := hv.2.2.2.2.1
  have e2 := hv.2.1
  have key : fx_E (fx_Ga (d + 3)) fx_M83 (0, [some (cO j), none, none], [], hp σ hi hl, 0, 0) Post := by
    refine fx_wpE [] 80 ⟨_, _, x_toNextGate (d := d) hv hs hg, ?_⟩
    refine pk_le (vTo v) (v 2) (fun hle => ?_) (fun hgt => ?_) rfl e2
    · have hv2 := hv.fox (v 11 + vTo v)
      have hs2 : SV (vup v 11 (v 11 + vTo v)) := by
        refine ⟨s4, s1, s2, s3, ?_, s10, fun i h6 => ?_⟩
        · rw [vup_eq]; omega
        · rw [vup_eq, vup_ne (show 12 + 4 * i ≠ 11 by omega), vup_ne (show 13 + 4 * i ≠ 11 by omega), vup_ne (show 14 + 4 * i ≠ 11 by omega), vup_ne (show 15 + 4 * i ≠ 11 by omega)]
          obtain ⟨q1, q2, q3, q4⟩ := si i h6
          exact ⟨by omega, q2, q3, q4⟩
      have hgl := x_lastRider (d := d + 2) (σ := σ) hv2 hs2
      have e4 : vup v 11 (v 11 + vTo v) 4 = v 4 := vup_ne (by decide)
      rw [e4] at hgl
      have ehp : hp σ (fx_up hi 1 j 4 (nI (v 11 + vTo v))) hl = hp σ (fx_up hi 1 j 4 (hi 1 j 4 + nI (vTo v))) hl := by rw [e11, nI_add]
      have hgr := fun r => x_hasRider (d := d + 2) (σ := σ) hv2 (by rw [e4]; exact s4) r
      rw [e4] at hgr
      rw [ehp] at hgl hgr
      refine ⟨_, _, hgl, _, _, hgr _, ?_⟩
      cases hlast : vLast (vup v 11 (v 11 + vTo v)) (v 4) with
      | none =>
        have est : vFox v = (vup v 11 (v 11 + vTo v), none) := by
          unfold vFox
          rw [if_pos hle, hlast]
        refine ⟨fun _ => ⟨by rw [est], _, rfl, FrX.up hi 1 4 _ (Or.inl rfl), by rw [est, ← nI_add, ← e11] at *; exact hv2⟩, fun z => absurd rfl z⟩
      | some l =>
        have l4 := (vLast_lt _ _ l hlast).1
        have l6 : l < 6 := by omega
        have est : vFox v = (vup (vup (vup v 11 (v 11 + vTo v)) (14 + 4 * l) (v 3)) (15 + 4 * l) (v (15 + 4 * l) + 1), some l) := by
          unfold vFox
          rw [if_pos hle, hlast]
        have cl : (nI l).toNatClampNeg = l := nI_clamp (by omega)
        have b6 := ni_in (n := l) (m := 6) l6 (by decide)
        refine ⟨fun (z : b01 (decide (0 ≤ nI l ∧ nI l < nI (v 4))) = 0) => absurd z (by rw [decide_eq_true ⟨nI_pos' (by omega), nI_lt l4 (by omega)⟩]; decide), fun _ => ?_⟩
        refine ⟨b6, b6, b6, by rw [est], ?_⟩
        have hv3 := (hv2.ground (y := v 3) l6).was (y := v (15 + 4 * l) + 1) l6
        refine ⟨fx_up (fx_up (fx_up hi 1 j 4 (nI (v 11 + vTo v))) 23 j l (nI (v 3))) 24 j l (nI (v (15 + 4 * l) + 1)), ?_, ((FrX.up hi 1 4 _ (Or.inl rfl)).tr (FrX.up _ 23 _ _ (Or.inr (by decide)))).tr (FrX.up _ 24 _ _ (Or.inr (by decide))), by rw [est]; exact hv3⟩
        have l4' : l < vup v 11 (v 11 + vTo v) 4 := by rw [e4]; exact l4
        have g1 := hv2.2.2.1
        have g2 := (hv2.2.2.2.2.2.2.2 l l4').2.2.2
        rw [vup_ne (by decide)] at g1
        rw [vup_ne (by omega)] at g2
        show hp σ (fx_up (fx_up (fx_up hi 1 j 4 (hi 1 j 4 + nI (vTo v))) 23 j (nI l).toNatClampNeg (fx_up hi 1 j 4 (hi 1 j 4 + nI (vTo v)) 1 j 2)) 24 j (nI l).toNatClampNeg (fx_up hi 1 j 4 (hi 1 j 4 + nI (vTo v)) 24 j (nI l).toNatClampNeg + 1)) hl = _
        rw [cl, e11, nI_add, g1, g2, nI_1]
    · have est : vFox v = (vup v 11 (v 11 + v 2), none) := by
        unfold vFox
        rw [if_neg (by omega)]
      have hv2 := hv.fox (v 11 + v 2)
      refine ⟨by rw [est]; rfl, _, rfl, FrX.up hi 1 4 _ (Or.inl rfl), ?_⟩
      show PX (fx_up hi 1 j 4 (hi 1 j 4 + hi 1 j 1)) hl j (vFox v).1
      rw [est, e11, e2, nI_add]
      exact hv2
  obtain ⟨r, h', hg', e1, hi', e2', e3, e4⟩ := fx_methX (y := 83) (av := [cO j]) fx_M83 [some (cO j), none, none] (by decide) rfl rfl (Nat.le_of_ble_eq_true rfl) key
  subst e1
  subst e2'
  exact ⟨hi', hg', e3, e4⟩
theorem SV_mv {v : Nat → Nat} (hs : SV v) (rd : Nat → Nat) : ∀ n, SV (vMv v rd n)
  | 0 => hs
  | n + 1 => by
    obtain ⟨s4, s1, s2, s3, s11, s10, si⟩ := SV_mv hs rd n
    have o : ∀ x, x < 12 → vMv v rd n x = v x := fun x hx => vMv_out v rd n x (by omega)
    have q := hs.2.2.2.2.2.2
    unfold vMv
    split
    · refine ⟨by rw [vup_ne (by omega)]; exact s4, by rw [vup_ne (by omega)]; exact s1, by rw [vup_ne (by omega)]; exact s2, by rw [vup_ne (by omega)]; exact s3, by rw [vup_ne (by omega)]; exact s11, by rw [vup_ne (by omega)]; exact s10, fun i h6 => ?_⟩
      rw [vup_ne (show 12 + 4 * i ≠ 14 + 4 * n by omega), vup_ne (show 13 + 4 * i ≠ 14 + 4 * n by omega), vup_ne (show 15 + 4 * i ≠ 14 + 4 * n by omega), vup_ne (show 11 ≠ 14 + 4 * n by omega)]
      obtain ⟨q1, q2, q3, q4⟩ := si i h6
      refine ⟨q1, q2, ?_, q4⟩
      by_cases e : i = n
      · subst e
        rw [vup_eq]
        have := (q i h6).2.2.1
        omega
      · rw [vup_ne (by omega)]
        exact q3
    · refine ⟨by rw [vup_ne (by omega)]; exact s4, by rw [vup_ne (by omega)]; exact s1, by rw [vup_ne (by omega)]; exact s2, by rw [vup_ne (by omega)]; exact s3, by rw [vup_ne (by omega)]; exact s11, by rw [vup_ne (by omega)]; exact s10, fun i h6 => ?_⟩
      rw [vup_ne (show 14 + 4 * i ≠ 12 + 4 * n by omega), vup_ne (show 13 + 4 * i ≠ 12 + 4 * n by omega), vup_ne (show 15 + 4 * i ≠ 12 + 4 * n by omega), vup_ne (show 11 ≠ 12 + 4 * n by omega)]
      obtain ⟨q1, q2, q3, q4⟩ := si i h6
      refine ⟨?_, q2, q3, q4⟩
      by_cases e : i = n
      · subst e
        rw [vup_eq, o 11 (by decide)]
        exact Nat.min_le_right _ _
      · rw [vup_ne (by omega)]
        exact q1
theorem GV_of {v w : Nat → Nat} (h : GV v) (h1 : w 1 = v 1) (h2 : w 36 = v 36) (h3 : w 37 = v 37) : GV w := by
  refine ⟨by rw [h2]; exact h.1, by rw [h3]; exact h.2.1, fun f hf hb => ?_⟩
  rw [h1]
  refine h.2.2 f hf ?_
  unfold vGate at hb ⊢
  rcases (show f / 30 = 0 ∨ f / 30 = 1 by omega) with e | e
  · rw [e] at hb ⊢
    rw [← h2]
    exact hb
  · rw [e] at hb ⊢
    rw [← h3]
    exact hb
theorem WX_fr {j : Nat} {hi hi' : fxI3} (h : FrX j hi hi') {row : Option (Nat × Nat)} (g : WX hi row) : WX hi' row := by
  have e : hi' 8 0 3 = hi 8 0 3 := h 8 0 3 (by decide) (by omega)
  have e2 : hi' 8 0 4 = hi 8 0 4 := h 8 0 4 (by decide) (by omega)
  cases row with
  | none => exact e.trans g
  | some q =>
    obtain ⟨i, f⟩ := q
    obtain ⟨g1, g2, g3, g4⟩ := g
    exact ⟨g1, e.trans g2, g3, e2.trans g4⟩
theorem cods_fr {hi hi' : fxI3} (h : ∀ t s, hi' 45 t s = hi 45 t s) {t p : Nat} {L : List Nat} (g : cods hi t p L) : cods hi' t p L := fun k hk => by
  rw [h]
  exact g k hk
theorem RXl_fr {σ : fxS} {hi hi' : fxI3} (h : ∀ t s, hi' 45 t s = hi 45 t s) {t : Nat} : ∀ (R : fxRl) (c p : Nat), RXl σ hi t R c p → RXl σ hi' t R c p
  | [], _, _, g => (h _ _).trans g
  | (s, o) :: r, c, p, g => by
    obtain ⟨g1, g2, g3, g4, g5, g6, g7, g8⟩ := g
    exact ⟨(h _ _).trans g1, (h _ _).trans g2, g3, cods_fr h g4, cods_fr h g5, g6, g7, RXl_fr h r _ _ g8⟩
theorem RX_fr {σ : fxS} {hi hi' : fxI3} (h : ∀ t s, hi' 45 t s = hi 45 t s) (h5 : ∀ t, hi' 5 t 1 = hi 5 t 1) {t : Nat} {R : fxRl} (g : RX σ hi t R) : RX σ hi' t R := by
  obtain ⟨g1, g2, g3, g4, g5, g6⟩ := g
  exact ⟨g1, g2, (h5 t).trans g3, g4, g5, RXl_fr h R 0 0 g6⟩
theorem TX_fr {σ : fxS} {hi hi' : fxI3} (h : ∀ t s, hi' 45 t s = hi 45 t s) (h5 : ∀ t, hi' 5 t 1 = hi 5 t 1) {rt : Option Nat} {rl : Option fxRl} (g : TX σ hi rt rl) : TX σ hi' rt rl := by
  cases rt with
  | none => cases rl with
    | none => trivial
    | some R => exact g.elim
  | some t => cases rl with
    | none => exact g.elim
    | some R => exact RX_fr h h5 g
theorem x_take (hv : PX hi hl j v) (hs : SV v) (hg : GV v) (h11 : v 11 + 99 < 2 ^ 20) {rt : Option Nat} {rl : Option fxRl} {row : Option (Nat × Nat)} (hr : WX hi row) (ht : TX σ hi rt rl) :
    ∃ hi' hl', fx_Ga (d + 5) 79 [pO, cO j, rR rt] (hp σ hi hl) (some (vi (oI (vStep v rl row).2))) (hp σ hi' hl') ∧ FrX j hi hi' ∧ FlX hl hl' ∧ PX hi' hl' j (vStep v rl row).1 := by
  obtain ⟨s4, s1, s2, s3, s11, s10, si⟩ := id hs
  have hrow9 : ∀ j f, row = some (j, f) → f ≤ 9 := fun j f e => by subst e; exact hr.2.2.1
  have rd9 : ∀ i, i < 6 → vRide v rl row i ≤ 9 := fun i h6 => vRide_le hs h6 hrow9
  let Post : Option fxV → fxH → Prop := fun r2 h2 => r2 = some (vi (oI (vStep v rl row).2)) ∧ ∃ hi' hl', h2 = hp σ hi' hl' ∧ FrX j hi hi' ∧ FlX hl hl' ∧ PX hi' hl' j (vStep v rl row).1
  have tail : ∀ (hb : fxI3) (hlb : fxL3) l3, FrX j hi hb → FlX hl hlb → PX hb hlb j (vMv v (vRide v rl row) (v 4)) → fx_E (fx_Ga (d + 4)) fx_M79 (88, [some pO, some (cO j), some (rR rt), l3], [], hp σ hb hlb, 0, 0) Post := by
    intro hb hlb l3 f1 f2 hvb
    have o : ∀ x, x < 12 ∨ 36 ≤ x → vMv v (vRide v rl row) (v 4) x = v x := fun x hx => vMv_out v _ _ x (by omega)
    obtain ⟨hi2, hgf, f3, hv2⟩ := x_runFox (d := d) (σ := σ) hvb (SV_mv hs _ _) (GV_of hg (o 1 (by omega)) (o 36 (by omega)) (o 37 (by omega))) (by rw [o 11 (by omega)]; exact h11)
    refine fx_wpE [] 40 ⟨_, _, hgf, by rw [vStep_fox], ?_⟩
    refine ⟨fx_up hi2 1 j 5 (nI (v 10 + 1)), hlb, ?_, f1.tr (f3.tr (FrX.up hi2 1 5 _ (Or.inl rfl))), f2, by rw [vStep_fox]; exact hv2.step (v 10 + 1)⟩
    have e5 : hi2 1 j 5 = nI (v 10) := by
      rw [hv2.2.2.2.2.2.1]
      have : (vFox (vMv v (vRide v rl row) (v 4))).1 10 = v 10 := (vFox_lo _ (by decide)).trans (o 10 (by omega))
      rw [this]
    show hp σ (fx_up hi2 1 j 5 (hi2 1 j 5 + 1)) hlb = _
    rw [e5, nI_1]
  have loopB : ∀ k r (hb : fxI3) (hlb : fxL3), r + k = v 4 → FrX j hi hb → FlX hl hlb → (∀ i, i < v 4 → hb 38 0 i = nI (min (vRide v rl row i) (v 11 - v (12 + 4 * i)))) → PX hb hlb j (vMv v (vRide v rl row) r) → fx_E (fx_Ga (d + 4)) fx_M79 (40, [some pO, some (cO j), some (rR rt), some (vi (nI r))], [], hp σ hb hlb, 0, 0) Post := by
    intro k
    induction k with
    | zero =>
      intro r hb hlb hk f1 f2 _ hvb
      have : r = v 4 := by omega
      subst this
      refine fx_wpL [40, 88] 20 ?_
      refine pk_le (v 4) (v 4) (fun _ => ?_) (fun hc => by omega) (by rw [← vMv_out v (vRide v rl row) (v 4) 4 (by omega)]; exact hvb.2.2.2.1)
      exact tail hb hlb _ f1 f2 hvb
    | succ k ih =>
      intro r hb hlb hk f1 f2 h38 hvb
      have r6 : r < 6 := by omega
      have eo : ∀ x, x < 12 ∨ 12 + 4 * r ≤ x → vMv v (vRide v rl row) r x = v x := vMv_out v _ r
      obtain ⟨ar, ap, ag, aw⟩ := hvb.2.2.2.2.2.2.2 r (by rw [eo 4 (by omega)]; omega)
      rw [eo _ (by omega)] at ar ag
      have c : (nI r).toNatClampNeg = r := nI_clamp (by omega)
      have b6 := ni_in (n := r) (m := 6) r6 (by decide)
      have hrd := rd9 r r6
      obtain ⟨q1, q2, q3, q4⟩ := si r r6
      have er : hb 21 j (nI r).toNatClampNeg + hb 38 0 (nI r).toNatClampNeg = nI (v (12 + 4 * r) + min (vRide v rl row r) (v 11 - v (12 + 4 * r))) := by rw [c, ar, h38 r (by omega), nI_add]
      have hv1 := hvb.run (y := v (12 + 4 * r) + min (vRide v rl row r) (v 11 - v (12 + 4 * r))) r6
      refine fx_wpL [40, 88] 60 ?_
      refine pk_le (v 4) r (fun hc => by omega) (fun _ => ?_) (by rw [← eo 4 (by omega)]; exact hvb.2.2.2.1)
      refine ⟨b6, b6, b6, b6, ?_⟩
      refine pk_le (v (14 + 4 * r)) 0 (fun h0 => ?_) (fun h0 => ?_) (by show hb 23 j (nI r).toNatClampNeg = _; rw [c]; exact ag)
      · have hc : vOut v r = false := by unfold vOut; exact decide_eq_false (by omega)
        have h2 := ih (r + 1) (fx_up hb 21 j r (nI (v (12 + 4 * r) + min (vRide v rl row r) (v 11 - v (12 + 4 * r))))) hlb (by omega) (f1.tr (FrX.up hb 21 _ _ (Or.inr (by decide)))) f2 h38 (by
          rw [vMv, if_neg (by rw [hc]; decide), show min (v (12 + 4 * r) + vRide v rl row r) (v 11) = v (12 + 4 * r) + min (vRide v rl row r) (v 11 - v (12 + 4 * r)) by omega]
          exact hv1)
        rw [← er, ← nI_1] at h2
        conv at h2 => rw [show fx_up hb 21 j r = fx_up hb 21 j (nI r).toNatClampNeg by rw [c]]
        exact h2
      · have hc : vOut v r = true := by unfold vOut; exact decide_eq_true h0
        have hr0 : vRide v rl row r = 0 := by unfold vRide; rw [if_pos hc]
        refine ⟨b6, b6, ?_⟩
        have hv2 := hv1.ground (y := v (14 + 4 * r) - 1) r6
        have h2 := ih (r + 1) (fx_up (fx_up hb 21 j r (nI (v (12 + 4 * r) + min (vRide v rl row r) (v 11 - v (12 + 4 * r))))) 23 j r (nI (v (14 + 4 * r) - 1))) hlb (by omega) (f1.tr ((FrX.up hb 21 _ _ (Or.inr (by decide))).tr (FrX.up _ 23 _ _ (Or.inr (by decide))))) f2 h38 (by
          rw [vMv, if_pos hc]
          rw [show vup (vMv v (vRide v rl row) r) (12 + 4 * r) (v (12 + 4 * r) + min (vRide v rl row r) (v 11 - v (12 + 4 * r))) = vMv v (vRide v rl row) r by
            rw [hr0, Nat.zero_min, Nat.add_zero]
            conv => lhs; rw [← eo (12 + 4 * r) (by omega)]
            exact vup_self _ _] at hv2
          exact hv2)
        have eg : hb 23 j (nI r).toNatClampNeg - 1 = nI (v (14 + 4 * r) - 1) := by
          rw [c, ag]
          exact pk_sub (show 1 ≤ v (14 + 4 * r) by omega)
        rw [← er, ← eg, ← nI_1] at h2
        conv at h2 => rw [show fx_up hb 21 j r = fx_up hb 21 j (nI r).toNatClampNeg by rw [c]]
        conv at h2 => rw [show fx_up (fx_up hb 21 j (nI r).toNatClampNeg (hb 21 j (nI r).toNatClampNeg + hb 38 0 (nI r).toNatClampNeg)) 23 j r = fx_up (fx_up hb 21 j (nI r).toNatClampNeg (hb 21 j (nI r).toNatClampNeg + hb 38 0 (nI r).toNatClampNeg)) 23 j (nI r).toNatClampNeg by rw [c]]
        exact h2
  have loopA : ∀ k r (hb : fxI3) (hlb : fxL3), r + k = v 4 → FrX j hi hb → FlX hl hlb → (∀ i, i < r → hb 38 0 i = nI (min (vRide v rl row i) (v 11 - v (12 + 4 * i)))) → (∀ i k, k = 5 ∨ 7 ≤ k ∧ k < 11 → rt.isSome = true → hlb 36 0 k = vW v i k) → PX hb hlb j v → fx_E (fx_Ga (d + 4)) fx_M79 (11, [some pO, some (cO j), some (rR rt), some (vi (nI r))], [], hp σ hb hlb, 0, 0) Post := by
    intro k
    induction k with
    | zero =>
      intro r hb hlb hk f1 f2 h38 _ hvb
      have : r = v 4 := by omega
      subst this
      refine fx_wpL [11, 40] 20 ?_
      refine pk_le (v 4) (v 4) (fun _ => ?_) (fun hc => by omega) hvb.2.2.2.1
      exact loopB (v 4) 0 hb hlb (by omega) f1 f2 h38 hvb
    | succ k ih =>
      intro r hb hlb hk f1 f2 h38 hw hvb
      have r6 : r < 6 := by omega
      have c : (nI r).toNatClampNeg = r := nI_clamp (by omega)
      refine fx_wpL [11, 40] 30 ?_
      refine pk_le (v 4) r (fun hc => by omega) (fun _ => ?_) hvb.2.2.2.1
      obtain ⟨hl2, hgf, g1, g2⟩ := x_fieldsOf (d := d) (σ := σ) hvb hs (show r < v 4 by omega) (WX_fr f1 hr) (TX_fr (fun t s => f1 45 t s (by decide) (by omega)) (fun t => f1 5 t 1 (by decide) (by omega)) ht) (hw r)
      refine ⟨_, _, hgf, ni_in (m := 6) r6 (by decide), ?_⟩
      have h2 := ih (r + 1) (fx_up hb 38 0 r (nI (min (vRide v rl row r) (v 11 - v (12 + 4 * r))))) hl2 (by omega) (f1.tr (FrX.mv hb _ _)) (f2.tr (fun k j' s h1 h2 => g1 k j' s h1 h2)) (fun i hi0 => by
        rw [fx_up_eq]
        by_cases e : i = r
        · subst e
          exact if_pos rfl
        · exact (if_neg e).trans (h38 i (by omega))) (fun i k hk hs => by
        rw [g2 k (by omega)]
        exact hw i k hk hs) (by
        obtain ⟨p1, p2, p3, p4, p5, p6, p7, p8⟩ := hvb
        exact ⟨p1, p2, p3, p4, p5, p6, (g1 1 j 6 (by decide) (by decide)).trans p7, p8⟩)
      rw [← nI_1] at h2
      conv at h2 => rw [show fx_up hb 38 0 r = fx_up hb 38 0 (nI r).toNatClampNeg by rw [c]]
      exact h2
  obtain ⟨r, h', hg', e1, hi', hl', e2, e3, e5, e6⟩ := fx_methX (d := d + 4) (y := 79) (av := [pO, cO j, rR rt]) (h := hp σ hi hl) (P := Post) fx_M79 [some pO, some (cO j), some (rR rt), none] (by decide) rfl rfl (Nat.le_of_ble_eq_true rfl) (by
    cases rt with
    | none => exact fx_wpE [11] 10 (loopA (v 4) 0 hi hl (by omega) (FrX.rf j hi) (FlX.rf hl) (fun i h => absurd h (by omega)) (fun _ _ _ z => by cases z) hv)
    | some t =>
      obtain ⟨hl1, hg1, f1, w1⟩ := x_tellAll (d := d) (σ := σ) hv hs hg
      refine fx_wpE [11] 10 ⟨_, _, hg1, ?_⟩
      refine loopA (v 4) 0 hi hl1 (by omega) (FrX.rf j hi) (fun k j' s h1 _ => f1 k j' s h1) (fun i h => absurd h (by omega)) (fun i k hk _ => w1 i k hk) ?_
      obtain ⟨p1, p2, p3, p4, p5, p6, p7, p8⟩ := hv
      exact ⟨p1, p2, p3, p4, p5, p6, (f1 1 j 6 (by decide)).trans p7, p8⟩)
  subst e1
  subst e2
  exact ⟨hi', hl', hg', e3, e5, e6⟩
end XS
