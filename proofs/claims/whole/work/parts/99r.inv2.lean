/-! what holds between calls: acts -/
theorem PX.cg {hi : fxI3} {hl : fxL3} {j : Nat} {u v : Nat → Nat} (h : PX hi hl j v) (h4 : v 4 ≤ 6) (e : ∀ y, y < 38 → u y = v y) : PX hi hl j u := by
  obtain ⟨p1, p2, p3, p4, p5, p6, p7, p8⟩ := h
  have eg : vG u = vG v := by
    unfold vG
    rw [e 36 (by decide), e 37 (by decide)]
  refine ⟨by rw [e 1 (by decide)]; exact p1, by rw [e 2 (by decide)]; exact p2, by rw [e 3 (by decide)]; exact p3, by rw [e 4 (by decide)]; exact p4, by rw [e 11 (by decide)]; exact p5, by rw [e 10 (by decide)]; exact p6, by rw [eg]; exact p7, fun i hi4 => ?_⟩
  rw [e 4 (by decide)] at hi4
  rw [e _ (show 12 + 4 * i < 38 by omega), e _ (show 13 + 4 * i < 38 by omega), e _ (show 14 + 4 * i < 38 by omega), e _ (show 15 + 4 * i < 38 by omega)]
  exact p8 i hi4
theorem SB.cg {u v : Nat → Nat} (h : SB v) (e : ∀ y, y < 38 → u y = v y) : SB u := by
  obtain ⟨s4, s1, s2, s3, s11, si⟩ := h
  refine ⟨by rw [e 4 (by decide)]; exact s4, by rw [e 1 (by decide)]; exact s1, by rw [e 2 (by decide)]; exact s2, by rw [e 3 (by decide)]; exact s3, by rw [e 11 (by decide), e 10 (by decide)]; exact s11, fun i h6 => ?_⟩
  rw [e _ (show 12 + 4 * i < 38 by omega), e _ (show 13 + 4 * i < 38 by omega), e _ (show 14 + 4 * i < 38 by omega), e _ (show 15 + 4 * i < 38 by omega), e 11 (by decide), e 10 (by decide)]
  exact si i h6
theorem NT.cg {hi : fxI3} {j : Nat} {u v : Nat → Nat} (h : NT hi j v) (h82 : v 82 ≤ 10) (e : ∀ y, 52 ≤ y → u y = v y) : NT hi j u := by
  obtain ⟨a, b⟩ := h
  refine ⟨by rw [e 82 (by decide)]; exact a, fun i hi2 => ?_⟩
  rw [e 82 (by decide)] at hi2
  rw [e _ (by omega), e _ (by omega), e _ (by omega)]
  exact b i hi2
theorem MV.act {u v : Nat → Nat} (h : MV v) (hs : SB u) (hg : GV u) (h10 : u 10 ≤ 999) (e : ∀ y, y < 10 ∨ 38 ≤ y → u y = v y) : MV u := by
  obtain ⟨i1, i2, i3, i4, i5⟩ := h
  refine ⟨hs, hg, ⟨?_, h10⟩, ⟨?_, fun i h6 => ?_⟩, ?_, fun i hi2 => ?_⟩
  · rw [e 0 (by omega), e 1 (by omega), e 4 (by omega)]
    exact i3.1
  · rw [vBg_congr e]
    exact i4.1
  · rw [e _ (by omega), e _ (by omega)]
    exact i4.2 i h6
  · rw [e 82 (by omega)]
    exact i5.1
  · rw [e 82 (by omega)] at hi2
    rw [e (52 + 3 * i) (by omega), e (53 + 3 * i) (by omega), e (54 + 3 * i) (by omega), e 4 (by omega)]
    exact i5.2 i hi2
theorem bz_cg {u v : Nat → Nat} (e : ∀ y, y < 10 ∨ 38 ≤ y → u y = v y) : vBz u = vBz v := by
  unfold vBz
  rw [e 0 (by omega), vBg_congr e]
theorem bz_4 {v : Nat → Nat} (h4 : v 4 ≤ 6) : vBz v 4 ≤ 6 := by
  unfold vBz
  split
  · exact h4
  · exact Nat.zero_le _
theorem FrB.k {hi hi' : fxI3} (h : FrB hi hi') : ∀ k j s, XK k → hi' k j s = hi k j s := fun k j s a => h k j s (by unfold XK at a; unfold scx; omega) (by unfold XK at a; omega) (by unfold XK at a; omega)
theorem FrA.k {hi hi' : fxI3} (h : FrA hi hi') : ∀ k j s, ¬ XK k → hi' k j s = hi k j s := fun k j s a => h k j s (by unfold XK at a; unfold scr; omega) (by unfold XK at a; omega) (by unfold XK at a; omega)
section AA
variable {Sc : Nat → Int32} {σ : fxS} {hi hi' : fxI3} {hl hl' : fxL3} {v : Nat → Nat} {f : Option Nat} {x N : Nat} {Rs : Nat → fxRl} {m : Nat} {us : fxU} {n : Nat} {T : Nat → Int32} {im : fxIm}
theorem GX.b {v' : Nat → Nat} {m' : Nat} {us' : fxU} (g : GX Sc σ hi hl v f x N Rs m us n T im) (h82 : v 82 ≤ 10) (h : FrB hi hi') (h2 : FlB hl hl') (e : ∀ y, y < 10 ∨ 38 ≤ y → v' y = v y) (hv : PX hi' hl' 2 v') (hu : UX hi' hl' m' us') : GX Sc σ hi' hl' v' f x N Rs m' us' n T im := by
  obtain ⟨⟨w1, w2, w3, w4, w5⟩, ⟨g2, g3, g4, g5, g6⟩, g7, g8, g9, g10⟩ := g
  have hh : ∀ k j s, ¬ ((k = 1 ∨ 21 ≤ k ∧ k ≤ 24) ∧ (2 ≤ j ∧ j ≤ 28)) → k ≠ 38 → ¬ (40 ≤ k ∧ k ≤ 44) → k ≠ 4 → ¬ (k = 8 ∧ s = 4) → k ≠ 0 → hi' k j s = hi k j s := fun k j s a b c d e g => h k j s (by unfold scx; omega) (by omega) g
  have hk : ∀ j, ¬ (2 ≤ j ∧ j ≤ 28) → hl' 1 j 6 = hl 1 j 6 := fun j a => h2 1 j 6 (by decide) (by decide) (by omega)
  have b1 : fx_wb 0 = 1 := rfl
  refine ⟨⟨hv, ?_, (w3.fr (fun k s a => hh k 0 s (by omega) (by omega) (by omega) (by omega) (by omega) (by omega))).cg h82 (fun y hy => e y (by omega)), (hh 9 0 3 (by omega) (by omega) (by omega) (by omega) (by omega) (by omega)).trans w4, (hh 9 0 4 (by omega) (by omega) (by omega) (by omega) (by omega) (by omega)).trans w5⟩, ⟨(hh 10 0 5 (by omega) (by omega) (by omega) (by omega) (by omega) (by omega)).trans g2, g3, g4.fr (fun s => hh 91 0 s (by omega) (by omega) (by omega) (by omega) (by omega) (by omega)), (hh 8 0 3 (by omega) (by omega) (by omega) (by omega) (by omega) (by omega)).trans g5, fun i => (hh 90 0 i (by omega) (by omega) (by omega) (by omega) (by omega) (by omega)).trans (g6 i)⟩, g7.fr rfl (fun j s => hh 45 j s (by omega) (by omega) (by omega) (by omega) (by omega) (by omega)) (fun t => hh 5 t 1 (by omega) (by omega) (by omega) (by omega) (by omega) (by omega)), hu, g9.f2 (hh 10 0 1 (by omega) (by omega) (by omega) (by omega) (by omega) (by omega)) (fun s => hh 20 0 s (by omega) (by omega) (by omega) (by omega) (by omega) (by omega)), g10.fr (fun k j s a b c => hh k j s (by omega) (by omega) (by omega) (by omega) (by omega) (by omega)) (fun k j s a b c => hh k j s (by omega) (by omega) (by omega) (by omega) (by omega) (by omega)) (fun s => hh 34 0 s (by omega) (by omega) (by omega) (by omega) (by omega) (by omega)) (fun j b c => hk j (by omega))⟩
  rw [bz_cg e]
  exact w2.fr (fun s => hh 1 _ s (by omega) (by omega) (by omega) (by omega) (by omega) (by omega)) (fun k s a => hh k _ s (by omega) (by omega) (by omega) (by omega) (by omega) (by omega)) (hk _ (by omega))
theorem GM.a {v' : Nat → Nat} {m' : Nat} {us' : fxU} (g : GM hi v f x N Rs m us n T im) (h : FrA hi hi') (hv : PM hi' v') (hu : UM hi' m' us') : GM hi' v' f x N Rs m' us' n T im := by
  obtain ⟨g1, ⟨g2, g3, g4, g5⟩, g6, g7, g8, g9⟩ := g
  have hh : ∀ k j s, k ≠ 59 → k ≠ 60 → k ≠ 61 → k ≠ 62 → ¬ (63 ≤ k ∧ k ≤ 66) → ¬ (k = 11 ∧ (s = 18 ∨ s = 25 ∨ s = 28)) → hi' k j s = hi k j s := fun k j s a b c d e i => h k j s (by unfold scr; omega) (by omega) (by omega)
  exact ⟨hv, ⟨(hh 11 0 21 (by omega) (by omega) (by omega) (by omega) (by omega) (by omega)).trans g2, (hh 11 0 22 (by omega) (by omega) (by omega) (by omega) (by omega) (by omega)).trans g3, (hh 11 0 23 (by omega) (by omega) (by omega) (by omega) (by omega) (by omega)).trans g4, (hh 11 0 2 (by omega) (by omega) (by omega) (by omega) (by omega) (by omega)).trans g5⟩, g6.fr (fun k s a => hh k 0 s (by omega) (by omega) (by omega) (by omega) (by omega) (by omega)), hu, g8.f2 (hh 11 0 1 (by omega) (by omega) (by omega) (by omega) (by omega) (by omega)) (fun s => hh 50 0 s (by omega) (by omega) (by omega) (by omega) (by omega) (by omega)), g9.fr (fun k s a b => hh k 0 s (by omega) (by omega) (by omega) (by omega) (by omega) (by omega))⟩
/-- one act more can be undone -/
theorem MI.act {v' : Nat → Nat} (i : MI v f x N m us n T im) (hm : m ≤ 20) (hs : SB v') (hg : GV v') (h10 : v' 10 ≤ 999) (e : ∀ y, y < 10 ∨ 38 ≤ y → v' y = v y) : MI v' f x N (min (m + 1) 20) (kUs m us v) n T im := by
  obtain ⟨i1, i2, i3, i4, i5⟩ := i
  refine ⟨i1.act hs hg h10 e, i2, fun j hj => ?_, i4, i5⟩
  have own : SB v ∧ GV v ∧ v 10 ≤ 999 ∧ ∀ y, y < 10 → v y = v' y := ⟨i1.1, i1.2.1, i1.2.2.1.2, fun y hy => (e y (by omega)).symm⟩
  have old : ∀ j, j < m → SB (us j) ∧ GV (us j) ∧ us j 10 ≤ 999 ∧ ∀ y, y < 10 → us j y = v' y := fun j hj => by
    obtain ⟨a1, a2, a3, a4⟩ := i3 j hj
    exact ⟨a1, a2, a3, fun y hy => (a4 y hy).trans (e y (by omega)).symm⟩
  have ek : kUs m us v j = if m = 20 then (if j = 19 then v else us (j + 1)) else (if j = m then v else us j) := rfl
  by_cases h20 : m = 20
  · rw [if_pos h20] at ek
    by_cases h19 : j = 19
    · rw [if_pos h19] at ek
      rw [ek]
      exact own
    · rw [if_neg h19] at ek
      rw [ek]
      exact old (j + 1) (by omega)
  · rw [if_neg h20] at ek
    by_cases hjm : j = m
    · rw [if_pos hjm] at ek
      rw [ek]
      exact own
    · rw [if_neg hjm] at ek
      rw [ek]
      exact old j (by omega)
end AA
section AB
variable {L : Nat} {Sc : Nat → Int32} {h : fxH}
theorem op_act {yx ym : Nat} {av : List fxV} (li : LI L Sc h) (k : ∀ (σ : fxS) (hi : fxI3) (hl : fxL3) (v : Nat → Nat) (f : Option Nat) (x N : Nat) (Rs : Nat → fxRl) (m : Nat) (us : fxU) (n : Nat) (T : Nat → Int32) (im : fxIm), GX Sc σ hi hl v f x N Rs m us n T im → MI v f x N m us n T im → ∃ (a : Int32) (c : Prop) (v' : Nat → Nat), ActX 20 yx (xO :: av) σ hi hl v m us a c v' ∧ (∀ hi' hl', GM hi' v f x N Rs m us n T im → ActM 20 ym (mO :: av) σ hi' hl' v m us a c v') ∧ (c → SB v' ∧ GV v' ∧ v' 10 ≤ 999 ∧ ∀ y, y < 10 ∨ 38 ≤ y → v' y = v y)) : OpR L Sc h yx ym av := by
  obtain ⟨σ, hi, hl, v, f, x, N, Rs, m, us, n, T, im, rfl, eL, gx, gm, mi⟩ := li
  obtain ⟨a, c, v', ⟨hi1, hl1, hg1, f1, f2, c1, c2⟩, hm, hc⟩ := k σ hi hl v f x N Rs m us n T im gx mi
  have gm1 := gm.x f1.k
  obtain ⟨hi2, hl2, hg2, f3, f4, d1, d2⟩ := hm hi1 hl1 gm1
  have m20 := gm.2.2.2.1.1
  refine ⟨a, _, _, hg1, hg2, ⟨eL, fun i => (f1 90 0 i (by unfold scx; omega) (by omega) (by omega)).trans (gx.2.1.2.2.2.2 i)⟩, ?_⟩
  rcases Classical.em c with z | z
  · obtain ⟨q1, q2, q3, q4⟩ := hc z
    have gx1 := gx.b mi.1.2.2.2.2.1 f1 f2 q4 (c1 z).1 (c1 z).2
    exact ⟨σ, hi2, hl2, v', f, x, N, Rs, _, _, n, T, im, rfl, eL, gx1.mm f3.k f4.k, gm1.a f3 (d1 z).1 (d1 z).2, mi.act m20 q1 q2 q3 q4⟩
  · have gx1 := gx.b mi.1.2.2.2.2.1 f1 f2 (fun _ _ => rfl) (c2 z).1 (c2 z).2
    exact ⟨σ, hi2, hl2, v, f, x, N, Rs, m, us, n, T, im, rfl, eL, gx1.mm f3.k f4.k, gm1.a f3 (d2 z).1 (d2 z).2, mi⟩
theorem op_step (li : LI L Sc h) : OpR L Sc h 99 210 [] := op_act li (fun σ hi hl v f x N Rs m us n T im gx mi => ⟨_, _, _, x_step (d := 14) (gx.nx mi) mi.1.2.2.1 gx.2.2.2.1, fun hi' hl' g => m_step (d := 13) (g.nm mi) mi.1.2.2.1 g.2.2.2.1, fun c => ⟨mi.1.1.step _ _, mi.1.2.1.step mi.1.1.1 _ _, by rw [vStep_10]; exact c.2, fun y hy => by
  rcases hy with hy | hy
  · exact vStep_lo _ _ _ hy
  · exact vStep_hi _ _ _ mi.1.1.1 (by omega)⟩⟩)
theorem op_spur (li : LI L Sc h) (a b : Int32) : OpR L Sc h 100 211 [vi a, vi b] := op_act li (fun σ hi hl v f x N Rs m us n T im gx mi => by
  have inst : Decidable (cSpur v a b) := Classical.propDecidable _
  refine ⟨_, _, _, x_spur (d := 17) gx.1.1 mi.1.1 gx.2.2.2.1 a b, fun hi' hl' g => m_spur (d := 18) g.1 mi.1.1.1 (fun i h6 => (mi.1.1.2.2.2.2.2 i h6).2.1) g.2.2.2.1 a b, fun c => ?_⟩
  obtain ⟨⟨c1, c2⟩, c3, c4⟩ := c
  obtain ⟨k, k1, k2, k3, k4⟩ := rg_of (a := 1) (b := 9) c3 (by decide) (by decide)
  rcases ni_ix a (n := v 4) (by have := mi.1.1.1; omega) with ⟨i, hi4, ei⟩ | z
  · have ea : a.toNatClampNeg = i := ni_cl ei (by have := mi.1.1.1; omega)
    rw [ea, k4]
    have := mi.1.1.1
    exact ⟨mi.1.1.pace k2, mi.1.2.1.pace (by omega), by rw [vup_ne (by omega)]; exact mi.1.2.2.1.2, fun y hy => vup_ne (by omega)⟩
  · exact absurd ⟨c1, c2⟩ z)
theorem op_hold (li : LI L Sc h) (a b : Int32) : OpR L Sc h 101 212 [vi a, vi b] := op_act li (fun σ hi hl v f x N Rs m us n T im gx mi => by
  have inst : Decidable (cHold v a b) := Classical.propDecidable _
  refine ⟨_, _, _, x_hold (d := 17) gx.1.1 mi.1.1 mi.1.2.2.1 gx.2.2.2.1 a b, fun hi' hl' g => m_hold (d := 18) g.1 mi.1.1.1 g.2.2.2.1 a b, fun c => ?_⟩
  obtain ⟨⟨c1, c2⟩, c3, c4⟩ := c
  have h6 := mi.1.1.1
  rcases ni_ix a (n := v 4) (by omega) with ⟨i, hi4, ei⟩ | z
  · have ea : a.toNatClampNeg = i := ni_cl ei (by omega)
    rw [ea]
    have le := (mi.1.1.2.2.2.2.2 i (by omega)).1
    exact ⟨mi.1.1.run (by omega), GV_of mi.1.2.1 (vup_ne (by omega)) (vup_ne (by omega)) (vup_ne (by omega)), by rw [vup_ne (by omega)]; exact mi.1.2.2.1.2, fun y hy => vup_ne (by omega)⟩
  · exact absurd ⟨c1, c2⟩ z)
theorem SB_dig {v : Nat → Nat} (h : SB v) {i : Nat} : SB (vup v (14 + 4 * i) 0) := by
  obtain ⟨s4, s1, s2, s3, s11, si⟩ := h
  refine ⟨by rw [vup_ne (by omega)]; exact s4, by rw [vup_ne (by omega)]; exact s1, by rw [vup_ne (by omega)]; exact s2, by rw [vup_ne (by omega)]; exact s3, by rw [vup_ne (by omega), vup_ne (by omega)]; exact s11, fun i' h6 => ?_⟩
  rw [vup_ne (show 12 + 4 * i' ≠ 14 + 4 * i by omega), vup_ne (show 13 + 4 * i' ≠ 14 + 4 * i by omega), vup_ne (show 15 + 4 * i' ≠ 14 + 4 * i by omega), vup_ne (show 11 ≠ 14 + 4 * i by omega), vup_ne (show 10 ≠ 14 + 4 * i by omega)]
  obtain ⟨q1, q2, q3, q4⟩ := si i' h6
  refine ⟨q1, q2, ?_, q4⟩
  unfold vup
  split
  · exact Nat.zero_le _
  · exact q3
theorem op_dig (li : LI L Sc h) (a : Int32) : OpR L Sc h 102 213 [vi a] := op_act li (fun σ hi hl v f x N Rs m us n T im gx mi => by
  have inst : Decidable (cDig v a) := Classical.propDecidable _
  refine ⟨_, _, _, x_dig (d := 17) gx.1.1 mi.1.1 gx.2.2.2.1 a, fun hi' hl' g => m_dig (d := 18) g.1 mi.1.1.1 g.2.2.2.1 a, fun c => ?_⟩
  obtain ⟨⟨c1, c2⟩, c3⟩ := c
  have h6 := mi.1.1.1
  rcases ni_ix a (n := v 4) (by omega) with ⟨i, hi4, ei⟩ | z
  · have ea : a.toNatClampNeg = i := ni_cl ei (by omega)
    rw [ea]
    exact ⟨SB_dig mi.1.1, GV_of mi.1.2.1 (vup_ne (by omega)) (vup_ne (by omega)) (vup_ne (by omega)), by rw [vup_ne (by omega)]; exact mi.1.2.2.1.2, fun y hy => vup_ne (by omega)⟩
  · exact absurd ⟨c1, c2⟩ z)
theorem op_gate (li : LI L Sc h) (a : Int32) : OpR L Sc h 103 215 [vi a] := op_act li (fun σ hi hl v f x N Rs m us n T im gx mi => by
  have inst : Decidable (cGate v a) := Classical.propDecidable _
  have h1 := mi.1.1.2.1
  refine ⟨_, _, _, x_gate (d := 17) gx.1.1 mi.1.1 mi.1.2.1 gx.2.2.2.1 a, fun hi' hl' g => m_gate (d := 17) g.1 mi.1.2.2.1 h1 g.2.2.2.1 a, fun c => ?_⟩
  rcases ni_ix a (n := v 1) (by omega) with ⟨i, hi4, ei⟩ | z
  · have ea : a.toNatClampNeg = i := ni_cl ei (by omega)
    rw [ea]
    exact ⟨mi.1.1.tg (by omega), mi.1.2.1.tg hi4 h1, by rw [vTg_ne (by omega) (by omega)]; exact mi.1.2.2.1.2, fun y hy => vTg_ne (by omega) (by omega)⟩
  · exact absurd c z)
theorem op_undo (li : LI L Sc h) : OpR L Sc h 104 209 [] := by
  obtain ⟨σ, hi, hl, v, f, x, N, Rs, m, us, n, T, im, rfl, eL, gx, gm, mi⟩ := li
  have old := mi.2.2.1
  obtain ⟨hi1, hl1, hg1, f1, f2, p1, u1⟩ := x_undo (d := 17) (σ := σ) gx.1.1 gx.2.2.2.1 (fun h0 => (old (m - 1) (by omega)).1.1)
  have gm1 := gm.x f1.k
  obtain ⟨hi2, hg2, f3, p2, u2⟩ := m_undo (d := 19) (σ := σ) (hl := hl1) gm1.1 gm1.2.2.2.1
  refine ⟨_, _, _, hg1, hg2, ⟨eL, fun i => (f1 90 0 i (by unfold scx; omega) (by omega) (by omega)).trans (gx.2.1.2.2.2.2 i)⟩, ?_⟩
  by_cases h0 : m = 0
  · rw [if_pos h0] at p1 p2
    have gx1 := gx.b mi.1.2.2.2.2.1 f1 f2 (fun _ _ => rfl) p1 u1
    refine ⟨σ, hi2, hl1, v, f, x, N, Rs, m - 1, us, n, T, im, rfl, eL, gx1.mm f3.k (fun _ _ _ _ => rfl), gm1.a f3 p2 u2, ?_⟩
    obtain ⟨i1, i2, i3, i4, i5⟩ := mi
    exact ⟨i1, i2, fun i hi2 => i3 i (by omega), i4, i5⟩
  · rw [if_neg h0] at p1 p2
    obtain ⟨o1, o2, o3, o4⟩ := old (m - 1) (by omega)
    have e1 : ∀ y, y < 38 → vUn v (us (m - 1)) y = us (m - 1) y := fun y hy => by
      unfold vUn
      by_cases c : 10 ≤ y ∧ y < 38
      · rw [if_pos c]
      · rw [if_neg c]
        exact (o4 y (by omega)).symm
    have e2 : ∀ y, y < 10 ∨ 38 ≤ y → vUn v (us (m - 1)) y = v y := fun y hy => by
      unfold vUn
      rw [if_neg (by omega)]
    have gx1 := gx.b mi.1.2.2.2.2.1 f1 f2 e2 (p1.cg o1.1 e1) u1
    refine ⟨σ, hi2, hl1, vUn v (us (m - 1)), f, x, N, Rs, m - 1, us, n, T, im, rfl, eL, gx1.mm f3.k (fun _ _ _ _ => rfl), gm1.a f3 p2 u2, ?_⟩
    obtain ⟨i1, i2, i3, i4, i5⟩ := mi
    refine ⟨i1.act (o1.cg e1) (GV_of o2 (e1 1 (by decide)) (e1 36 (by decide)) (e1 37 (by decide))) (by rw [e1 10 (by decide)]; exact o3) e2, i2, fun i hi2 => ?_, i4, i5⟩
    obtain ⟨a1, a2, a3, a4⟩ := i3 i (by omega)
    exact ⟨a1, a2, a3, fun y hy => (a4 y hy).trans (e2 y (by omega)).symm⟩
end AB
