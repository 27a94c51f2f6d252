/-! what holds between calls: images, hunts, rules -/
section AE
variable {L : Nat} {Sc : Nat → Int32} {h : fxH}
theorem op_image (li : LI L Sc h) (a : Int32) : OpR L Sc h 139 249 [vi a] := by
  obtain ⟨σ, hi, hl, v, f, x, N, Rs, m, us, n, T, im, rfl, eL, gx, gm, mi⟩ := li
  by_cases hk : 0 ≤ a ∧ a ≤ 3
  · obtain ⟨c, _, c3, ek, _⟩ := rg_of (a := 0) (b := 3) hk (by decide) (by decide)
    have c4 : c < 4 := by omega
    obtain ⟨hi1, hl1, hg1, o1, l1, wd, m1⟩ := x_image (d := 17) (σ := σ) gx.1 mi.1.1.1 mi.1.2.2.2.2 hk ek c4
    have wn : fx_wn (c + 1) = 28 + 2 * (c + 1) := rfl
    have wb : fx_wb (c + 1) = 27 + 2 * (c + 1) := rfl
    have o1' : ∀ k j s, ¬ ((k = 1 ∨ 21 ≤ k ∧ k ≤ 24) ∧ (j = 27 + 2 * (c + 1) ∨ j = 28 + 2 * (c + 1))) → ¬ ((k = 3 ∨ 30 ≤ k ∧ k ≤ 32) ∧ j = c + 1) → ¬ (k = 9 ∧ j = c + 1) → ¬ (k = 34 ∧ s = c) → hi1 k j s = hi k j s := o1
    have l1' : ∀ k j s, ¬ (k = 1 ∧ (j = 27 + 2 * (c + 1) ∨ j = 28 + 2 * (c + 1))) → hl1 k j s = hl k j s := l1
    have gm1 := gm.x (hi' := hi1) (fun k j s p => o1' k j s (by unfold XK at p; omega) (by unfold XK at p; omega) (by unfold XK at p; omega) (by unfold XK at p; omega))
    obtain ⟨hi2, hg2, o2, o3, o4, m2, im2⟩ := m_image (d := 18) (σ := σ) (hl := hl1) gm1.1 gm1.2.1.1 gm1.2.1.2.1 hk ek c4
    let im' : fxIm := fun y => if y = c then some (v, f, x) else im y
    obtain ⟨q1, ⟨q2, q3, q4, q5, q6⟩, q7, q8, q9, q10⟩ := id gx
    have w0 : fx_wn 0 = 2 := rfl
    have w1 : fx_wb 0 = 1 := rfl
    have gx1 : GX Sc σ hi1 hl1 v f x N Rs m us n T im' := by
      refine ⟨q1.fr (fun k i s p r => o1' k i s (by omega) (by omega) (by omega) (by omega)) (fun k s p => o1' k _ s (by omega) (by omega) (by omega) (by omega)) (fun i r => l1' 1 i 6 (by omega)), ⟨(o1' 10 0 5 (by omega) (by omega) (by omega) (by omega)).trans q2, q3, q4.fr (fun s => o1' 91 0 s (by omega) (by omega) (by omega) (by omega)), (o1' 8 0 3 (by omega) (by omega) (by omega) (by omega)).trans q5, fun i => (o1' 90 0 i (by omega) (by omega) (by omega) (by omega)).trans (q6 i)⟩, q7.fr rfl (fun j s => o1' 45 j s (by omega) (by omega) (by omega) (by omega)) (fun t => o1' 5 t 1 (by omega) (by omega) (by omega) (by omega)), q8.fr (fun s => o1' 0 0 s (by omega) (by omega) (by omega) (by omega)) (fun k j s p _ _ => o1' k j s (by omega) (by omega) (by omega) (by omega)) (fun j _ _ => l1' 1 j 6 (by omega)), q9.f2 (o1' 10 0 1 (by omega) (by omega) (by omega) (by omega)) (fun s => o1' 20 0 s (by omega) (by omega) (by omega) (by omega)), fun y hy => ?_⟩
      by_cases e : y = c
      · have ei : im' y = some (v, f, x) := if_pos e
        rw [ei, e]
        exact ⟨m1, wd⟩
      · have ei : im' y = im y := if_neg e
        rw [ei]
        have b := q10 y hy
        have vn : fx_wn (y + 1) = 28 + 2 * (y + 1) := rfl
        have vb : fx_wb (y + 1) = 27 + 2 * (y + 1) := rfl
        cases e2 : im y with
        | none =>
          rw [e2] at b
          exact (o1' 34 0 y (by omega) (by omega) (by omega) (by omega)).trans b
        | some q =>
          rw [e2] at b
          exact ⟨(o1' 34 0 y (by omega) (by omega) (by omega) (by omega)).trans b.1, b.2.fr (fun k i s p r => o1' k i s (by omega) (by omega) (by omega) (by omega)) (fun k s p => o1' k _ s (by omega) (by omega) (by omega) (by omega)) (fun i r => l1' 1 i 6 (by omega))⟩
    obtain ⟨r1, ⟨r2, r3, r4, r5⟩, r6, r7, r8, r9⟩ := gm1
    have gm2 : GM hi2 v f x N Rs m us n T im' := by
      refine ⟨r1.f2 (fun s => o2 59 0 s (by omega)), ⟨(o2 11 0 21 (by omega)).trans r2, (o2 11 0 22 (by omega)).trans r3, (o2 11 0 23 (by omega)).trans r4, (o2 11 0 2 (by omega)).trans r5⟩, r6.fr (fun k s p => o2 k 0 s (by omega)), r7.f2 (o2 11 0 28 (by omega)) (fun s => o2 62 0 s (by omega)), r8.f2 (o2 11 0 1 (by omega)) (fun s => o2 50 0 s (by omega)), fun y hy => ?_⟩
      by_cases e : y = c
      · have ei : im' y = some (v, f, x) := if_pos e
        rw [ei, e]
        exact ⟨m2, im2⟩
      · have ei : im' y = im y := if_neg e
        rw [ei]
        have b := r9 y hy
        cases e2 : im y with
        | none =>
          rw [e2] at b
          exact (o3 70 y (by omega) e).trans b
        | some q =>
          rw [e2] at b
          obtain ⟨b1, b2, b3, b4⟩ := b
          exact ⟨(o3 70 y (by omega) e).trans b1, (o3 68 y (by omega) e).trans b2, (o3 69 y (by omega) e).trans b3, fun i hi3 => ⟨(o4 _ (by omega)).trans (b4 i hi3).1, (b4 i hi3).2⟩⟩
    obtain ⟨i1, i2, i3, i4, i5⟩ := mi
    refine ⟨_, _, _, hg1, hg2, ⟨eL, gx1.2.1.2.2.2.2⟩, σ, hi2, hl1, v, f, x, N, Rs, m, us, n, T, im', rfl, eL, gx1.mm (fun k j s p => o2 k j s (by unfold XK at p; omega)) (fun _ _ _ _ => rfl), gm2, i1, i2, i3, i4, fun y hy q hq => ?_⟩
    by_cases e : y = c
    · have ei : im' y = some (v, f, x) := if_pos e
      rw [ei] at hq
      cases hq
      exact ⟨i1, i2.1, i2.2.1⟩
    · have ei : im' y = im y := if_neg e
      rw [ei] at hq
      exact i5 y hy q hq
  · exact ⟨_, _, _, x_image_no (d := 18) hk, m_image_no (d := 18) hk, ⟨eL, gx.2.1.2.2.2.2⟩, σ, hi, hl, v, f, x, N, Rs, m, us, n, T, im, rfl, eL, gx, gm, mi⟩
theorem op_back (li : LI L Sc h) (a : Int32) : OpR L Sc h 140 250 [vi a] := by
  obtain ⟨σ, hi, hl, v, f, x, N, Rs, m, us, n, T, im, rfl, eL, gx, gm, mi⟩ := li
  have no : (¬ (0 ≤ a ∧ a ≤ 3) ∨ ∃ c, c < 4 ∧ a = nI c ∧ im c = none) → OpR L Sc (hp σ hi hl) 140 250 [vi a] := by
    intro z
    have z1 : ¬ (0 ≤ a ∧ a ≤ 3) ∨ ∃ c, c < 4 ∧ a = nI c ∧ hi 34 0 c = 0 := by
      rcases z with z | ⟨c, c4, ec, ei⟩
      · exact Or.inl z
      · have b := gx.2.2.2.2.2 c c4
        rw [ei] at b
        exact Or.inr ⟨c, c4, ec, b⟩
    have z2 : ¬ (0 ≤ a ∧ a ≤ 3) ∨ ∃ c, c < 4 ∧ a = nI c ∧ hi 70 0 c = 0 := by
      rcases z with z | ⟨c, c4, ec, ei⟩
      · exact Or.inl z
      · have b := gm.2.2.2.2.2 c c4
        rw [ei] at b
        exact Or.inr ⟨c, c4, ec, b⟩
    exact ⟨_, _, _, x_back_no (d := 18) z1, m_back_no (d := 18) z2, ⟨eL, gx.2.1.2.2.2.2⟩, σ, hi, hl, v, f, x, N, Rs, m, us, n, T, im, rfl, eL, gx, gm, mi⟩
  by_cases hk : 0 ≤ a ∧ a ≤ 3
  · obtain ⟨c, _, c3, ek, _⟩ := rg_of (a := 0) (b := 3) hk (by decide) (by decide)
    have c4 : c < 4 := by omega
    cases ei : im c with
    | none => exact no (Or.inr ⟨c, c4, ek, ei⟩)
    | some q =>
      have bx := gx.2.2.2.2.2 c c4
      have bm := gm.2.2.2.2.2 c c4
      rw [ei] at bx bm
      obtain ⟨i1, i2, i3, i4, i5⟩ := mi
      obtain ⟨j1, j2, j3⟩ := i5 c c4 q ei
      obtain ⟨hi1, hl1, hg1, o1, l1, wd, u1⟩ := x_back (d := 17) (σ := σ) bx.2 j1.1.1 j1.2.2.2.2 bx.1 hk ek c4
      have gm1 := gm.x (hi' := hi1) (fun k j s p => o1 k j s (by unfold XK at p; omega) (by unfold XK at p; omega) (by unfold XK at p; omega) (by unfold XK at p; omega))
      have bm1 := gm1.2.2.2.2.2 c c4
      rw [ei] at bm1
      obtain ⟨hi2, hg2, o2, p2, f2, x2, u2⟩ := m_back (d := 18) (σ := σ) (hl := hl1) bm1.2 bm1.1 hk ek c4
      obtain ⟨q1, ⟨q2, q3, q4, q5, q6⟩, q7, ⟨p, e1, e2, e3, e4, e5⟩, q9, q10⟩ := id gx
      have gx1 : GX Sc σ hi1 hl1 q.1 q.2.1 q.2.2 N Rs 0 us n T im := ⟨wd, ⟨(o1 10 0 5 (by omega) (by omega) (by omega) (by omega)).trans q2, q3, q4.fr (fun s => o1 91 0 s (by omega) (by omega) (by omega) (by omega)), (o1 8 0 3 (by omega) (by omega) (by omega) (by omega)).trans q5, fun i => (o1 90 0 i (by omega) (by omega) (by omega) (by omega)).trans (q6 i)⟩, q7.fr rfl (fun j s => o1 45 j s (by omega) (by omega) (by omega) (by omega)) (fun t => o1 5 t 1 (by omega) (by omega) (by omega) (by omega)), ⟨p, e1, Nat.zero_le _, (o1 0 0 1 (by omega) (by omega) (by omega) (by omega)).trans e3, u1, fun i hi3 => absurd hi3 (Nat.not_lt_zero i)⟩, q9.f2 (o1 10 0 1 (by omega) (by omega) (by omega) (by omega)) (fun s => o1 20 0 s (by omega) (by omega) (by omega) (by omega)), q10.fr (fun k j s r _ _ => o1 k j s (by omega) (by omega) (by omega) (by omega)) (fun k j s r _ _ => o1 k j s (by omega) (by omega) (by omega) (by omega)) (fun s => o1 34 0 s (by omega) (by omega) (by omega) (by omega)) (fun j _ _ => l1 1 j 6 (by omega))⟩
      obtain ⟨r1, ⟨r2, r3, r4, r5⟩, r6, r7, r8, r9⟩ := gm1
      have gm2 : GM hi2 q.1 q.2.1 q.2.2 N Rs 0 us n T im := ⟨p2, ⟨f2, x2, (o2 11 0 23 (by omega) (by omega)).trans r4, (o2 11 0 2 (by omega) (by omega)).trans r5⟩, r6.fr (fun k s p => o2 k 0 s (by omega) (by omega)), ⟨Nat.zero_le _, u2, fun i k hi3 => absurd hi3 (Nat.not_lt_zero i)⟩, r8.f2 (o2 11 0 1 (by omega) (by omega)) (fun s => o2 50 0 s (by omega) (by omega)), r9.fr (fun k s p q => o2 k 0 s (by omega) (by omega))⟩
      exact ⟨_, _, _, hg1, hg2, ⟨eL, gx1.2.1.2.2.2.2⟩, σ, hi2, hl1, q.1, q.2.1, q.2.2, N, Rs, 0, us, n, T, im, rfl, eL, gx1.mm (fun k j s p => o2 k j s (by unfold XK at p; omega) (by unfold XK at p; omega)) (fun _ _ _ _ => rfl), gm2, j1, ⟨j2, j3, i2.2.2⟩, fun i hi3 => absurd hi3 (Nat.not_lt_zero i), i4, i5⟩
  · exact no (Or.inl hk)
theorem vBg_bg (w : Nat → Nat) : ∀ y, vBg (vBg w) y = vBg w y := fun y => congrFun (vBg_congr (fun x hx => vBg_ne w hx)) y
theorem hw_52 (u : Nat → Nat) : ∀ y, y < 52 → vHw u y = u y := fun y hy => by
  unfold vHw
  rw [if_pos hy]
theorem MV_hunt {c : Nat} {u : Nat → Nat} (c0 : 0 < c) (hu : HU c u) : MV (vBg (vHw u)) := by
  have b := vBg_c52 (hw_52 u)
  obtain ⟨h0, h1, h4, hi6, h50, h51, hb, h5⟩ := hu
  obtain ⟨a0, a1, a2, a3, a4⟩ := h1 c0
  have e : ∀ y, y < 10 ∨ 38 ≤ y → y < 52 → vBg (vHw u) y = u y := fun y hy hy2 => (b y hy2).trans (vBg_ne u hy)
  have gv : GV (vBg (vHw u)) := by
    refine ⟨?_, ?_, fun g hg hbit => ?_⟩
    · rw [b 36 (by decide)]
      exact h50
    · rw [b 37 (by decide)]
      exact h51
    · rw [e 1 (by omega) (by omega)]
      refine hb g hg ?_
      unfold vGate at hbit
      rcases (show g / 30 = 0 ∨ g / 30 = 1 by omega) with z | z
      · rw [z] at hbit ⊢
        rw [b 36 (by decide)] at hbit
        exact hbit
      · rw [z] at hbit ⊢
        rw [b 37 (by decide)] at hbit
        exact hbit
  have e82 : vBg (vHw u) 82 = 0 := rfl
  refine ⟨⟨?_, ?_, ?_, ?_, ?_, fun i h6 => ?_⟩, gv, ⟨Or.inl ⟨?_, ?_⟩, ?_⟩, ⟨GV_of gv (vBg_bg _ 1) (vBg_bg _ 36) (vBg_bg _ 37), fun i h6 => ?_⟩, ?_, fun i hi => ?_⟩
  · rw [e 4 (by omega) (by omega)]
    exact h4
  · rw [e 1 (by omega) (by omega)]
    exact a2
  · rw [e 2 (by omega) (by omega)]
    exact a3
  · rw [e 3 (by omega) (by omega)]
    exact a4
  · show 100 ≤ 100 + 9 * 0
    decide
  · rw [b (12 + 4 * i) (by omega), b (13 + 4 * i) (by omega), b (14 + 4 * i) (by omega), b (15 + 4 * i) (by omega), b 11 (by decide), b 10 (by decide), vBg_run u h6, vBg_pace u h6, vBg_ground u h6, vBg_was u h6]
    refine ⟨?_, (hi6 i h6).2, Nat.zero_le _, Nat.zero_le _⟩
    show 100 - u (38 + i) ≤ 100
    omega
  · rw [e 0 (by omega) (by omega)]
    exact a0
  · rw [e 1 (by omega) (by omega)]
    omega
  · show (0 : Nat) ≤ 999
    decide
  · rw [e _ (by omega) (by omega), e _ (by omega) (by omega)]
    exact ⟨(hi6 i h6).2, (hi6 i h6).1⟩
  · rw [e82]
    exact Nat.zero_le _
  · rw [e82] at hi
    exact absurd hi (Nat.not_lt_zero i)
theorem op_hunt (li : LI L Sc h) : OpR L Sc h 90 180 [] := by
  obtain ⟨σ, hi, hl, v, f, x, N, Rs, m, us, n, T, im, rfl, eL, gx, gm, mi⟩ := li
  obtain ⟨i1, i2, i3, i4, i5⟩ := id mi
  obtain ⟨hi1, hl1, hg1, fl, ll, t1, pc⟩ := x_hunt (d := 12) (σ := σ) (hl := hl) i4.1 gx.2.2.2.2.1
  have gm1 := gm.x (hi' := hi1) (fun k j s p => fl k j s (by unfold XK at p; omega) (by unfold XK at p; omega) (by unfold XK at p; omega) (by unfold XK at p; omega) (by unfold XK at p; omega) (by unfold XK at p; omega))
  obtain ⟨hi2, hg2, fj, t2, pm⟩ := m_hunt (d := 12) (σ := σ) (hl := hl1) i4.2 gm1.2.2.2.2.1
  have xx : ∀ k j s, ¬ XK k → hi2 k j s = hi1 k j s := fun k j s p => fj k j s (by unfold XK at p; omega) (by unfold XK at p; omega) (by unfold XK at p; omega) (by unfold XK at p; omega)
  obtain ⟨q1, ⟨q2, q3, q4, q5, q6⟩, q7, q8, q9, q10⟩ := id gx
  obtain ⟨r1, ⟨r2, r3, r4, r5⟩, r6, r7, r8, r9⟩ := id gm1
  have hok := rdH_ok (T := T) (n := n) 41 0 0 (fun _ => 0) rfl (by decide) (Nat.zero_le _) HU_0
  have w0 : fx_wn 0 = 2 := rfl
  have w1 : fx_wb 0 = 1 := rfl
  refine ⟨_, _, _, hg1, hg2, ⟨eL, fun i => (fl 90 0 i (by omega) (by omega) (by omega) (by omega) (by omega) (by omega)).trans (q6 i)⟩, ?_⟩
  cases hr : rdH T n 41 0 0 (fun _ => 0) with
  | inl e =>
    rw [hr] at pc pm
    obtain ⟨o1, l1⟩ := pc
    obtain ⟨p1, p2⟩ := pm
    have gx1 : GX Sc σ hi1 hl1 v f x N Rs m us 0 T im := ⟨q1.fr (fun k i s p r => o1 k i s (by omega) (by omega) (by omega) (by omega)) (fun k s p => o1 k _ s (by omega) (by omega) (by omega) (by omega)) (fun i r => l1 1 i 6 (by omega)), ⟨(o1 10 0 5 (by omega) (by omega) (by omega) (by omega)).trans q2, q3, q4.fr (fun s => o1 91 0 s (by omega) (by omega) (by omega) (by omega)), (o1 8 0 3 (by omega) (by omega) (by omega) (by omega)).trans q5, fun i => (o1 90 0 i (by omega) (by omega) (by omega) (by omega)).trans (q6 i)⟩, q7.fr rfl (fun j s => o1 45 j s (by omega) (by omega) (by omega) (by omega)) (fun t => o1 5 t 1 (by omega) (by omega) (by omega) (by omega)), q8.fr (fun s => o1 0 0 s (by omega) (by omega) (by omega) (by omega)) (fun k j s p _ _ => o1 k j s (by omega) (by omega) (by omega) (by omega)) (fun j _ _ => l1 1 j 6 (by omega)), ⟨t1, fun i hi3 => absurd hi3 (Nat.not_lt_zero i)⟩, q10.fr (fun k j s p _ _ => o1 k j s (by omega) (by omega) (by omega) (by omega)) (fun k j s p _ _ => o1 k j s (by omega) (by omega) (by omega) (by omega)) (fun s => o1 34 0 s (by omega) (by omega) (by omega) (by omega)) (fun j _ _ => l1 1 j 6 (by omega))⟩
    have gm2 : GM hi2 v f x N Rs m us 0 T im := ⟨r1.f2 p1, ⟨(fj 11 0 21 (by omega) (by omega) (by omega) (by omega)).trans r2, (fj 11 0 22 (by omega) (by omega) (by omega) (by omega)).trans r3, (fj 11 0 23 (by omega) (by omega) (by omega) (by omega)).trans r4, (fj 11 0 2 (by omega) (by omega) (by omega) (by omega)).trans r5⟩, r6.fr (fun k s p => fj k 0 s (by omega) (by omega) (by omega) (by omega)), r7.f2 p2 (fun s => fj 62 0 s (by omega) (by omega) (by omega) (by omega)), ⟨Nat.zero_le _, t2, fun i hi3 => absurd hi3 (Nat.not_lt_zero i)⟩, r9.fr (fun k s p q => fj k 0 s (by omega) (by omega) (by omega) (by omega))⟩
    exact ⟨σ, hi2, hl1, v, f, x, N, Rs, m, us, 0, T, im, rfl, eL, gx1.mm xx (fun _ _ _ _ => rfl), gm2, mi.t (Nat.zero_le _) (fun i hi3 => absurd hi3 (Nat.not_lt_zero i))⟩
  | inr u =>
    rw [hr] at pc pm
    obtain ⟨x1, x2, x3, x4⟩ := pc
    obtain ⟨p1, p2⟩ := pm
    obtain ⟨c', c0, hu⟩ := hok.2 u hr
    have mv := MV_hunt c0 hu
    have u46 : vBg u 4 ≤ 6 := hu.2.2.1
    have b : ∀ y, y < 38 → vBg (vHw u) y = vBg u y := fun y hy => vBg_c52 (hw_52 u) y (by omega)
    have v0 : vBg (vHw u) 0 = 1 := (hu.2.1 c0).1
    have bz : ∀ y, y < 38 → vBz (vBg (vHw u)) y = vBg u y := fun y hy => by
      unfold vBz
      rw [if_pos v0, vBg_bg]
      exact b y hy
    obtain ⟨p, e1, e2, e3, e4, e5⟩ := q8
    have e82 : vBg (vHw u) 82 = 0 := rfl
    have gx1 : GX Sc σ hi1 hl1 (vBg (vHw u)) f x N Rs 0 us 0 T im := by
      refine ⟨⟨x2.cg u46 b, x1.cg u46 bz, ⟨by rw [e82]; exact x3, fun i hi3 => ?_⟩, (fl 9 0 3 (by omega) (by omega) (by omega) (by omega) (by omega) (by omega)).trans q1.2.2.2.1, (fl 9 0 4 (by omega) (by omega) (by omega) (by omega) (by omega) (by omega)).trans q1.2.2.2.2⟩, ⟨(fl 10 0 5 (by omega) (by omega) (by omega) (by omega) (by omega) (by omega)).trans q2, q3, q4.fr (fun s => fl 91 0 s (by omega) (by omega) (by omega) (by omega) (by omega) (by omega)), (fl 8 0 3 (by omega) (by omega) (by omega) (by omega) (by omega) (by omega)).trans q5, fun i => (fl 90 0 i (by omega) (by omega) (by omega) (by omega) (by omega) (by omega)).trans (q6 i)⟩, q7.fr rfl (fun j s => fl 45 j s (by omega) (by omega) (by omega) (by omega) (by omega) (by omega)) (fun t => fl 5 t 1 (by omega) (by omega) (by omega) (by omega) (by omega) (by omega)), ⟨p, e1, Nat.zero_le _, (fl 0 0 1 (by omega) (by omega) (by omega) (by omega) (by omega) (by omega)).trans e3, x4, fun i hi3 => absurd hi3 (Nat.not_lt_zero i)⟩, ⟨t1, fun i hi3 => absurd hi3 (Nat.not_lt_zero i)⟩, q10.fr (fun k j s p _ _ => fl k j s (by omega) (by omega) (by omega) (by omega) (by omega) (by omega)) (fun k j s p _ _ => fl k j s (by omega) (by omega) (by omega) (by omega) (by omega) (by omega)) (fun s => fl 34 0 s (by omega) (by omega) (by omega) (by omega) (by omega) (by omega)) (fun j _ _ => ll 1 j 6 (by omega))⟩
      rw [e82] at hi3
      exact absurd hi3 (Nat.not_lt_zero i)
    have gm2 : GM hi2 (vBg (vHw u)) f x N Rs 0 us 0 T im := ⟨p1, ⟨(fj 11 0 21 (by omega) (by omega) (by omega) (by omega)).trans r2, (fj 11 0 22 (by omega) (by omega) (by omega) (by omega)).trans r3, (fj 11 0 23 (by omega) (by omega) (by omega) (by omega)).trans r4, (fj 11 0 2 (by omega) (by omega) (by omega) (by omega)).trans r5⟩, r6.fr (fun k s p => fj k 0 s (by omega) (by omega) (by omega) (by omega)), ⟨Nat.zero_le _, p2, fun i k hi3 => absurd hi3 (Nat.not_lt_zero i)⟩, ⟨Nat.zero_le _, t2, fun i hi3 => absurd hi3 (Nat.not_lt_zero i)⟩, r9.fr (fun k s p q => fj k 0 s (by omega) (by omega) (by omega) (by omega))⟩
    exact ⟨σ, hi2, hl1, vBg (vHw u), f, x, N, Rs, 0, us, 0, T, im, rfl, eL, gx1.mm xx (fun _ _ _ _ => rfl), gm2, mv, i2, fun i hi3 => absurd hi3 (Nat.not_lt_zero i), ⟨Nat.zero_le _, fun i hi3 => absurd hi3 (Nat.not_lt_zero i)⟩, i5⟩
theorem RMl_lo {hi hi' : fxI3} {t N : Nat} (ht : t < N) (h1 : ∀ s, s < 400 * N → hi' 51 0 s = hi 51 0 s) (h3 : ∀ s, s < 48 * N → hi' 53 0 s = hi 53 0 s) : ∀ (R : fxRl) (c p : Nat), RMl hi t R c p → RMl hi' t R c p
  | [], _, _, _ => trivial
  | (s, o) :: r, c, p, ⟨g0, g1, g2, g3, g4, g5, g6, g7, g8, g9, g10⟩ => ⟨g0, g1, (h3 _ (by omega)).trans g2, (h3 _ (by omega)).trans g3, (h3 _ (by omega)).trans g4, (h3 _ (by omega)).trans g5, fun k hk => ⟨(h1 _ (by omega)).trans (g6 k hk).1, (g6 k hk).2⟩, fun k hk => ⟨(h1 _ (by omega)).trans (g7 k hk).1, (g7 k hk).2⟩, g8, g9, RMl_lo ht h1 h3 r _ _ g10⟩
theorem op_rule (li : LI L Sc h) : OpR L Sc h 91 179 [] := by
  obtain ⟨σ, hi, hl, v, f, x, N, Rs, m, us, n, T, im, rfl, eL, gx, gm, mi⟩ := li
  obtain ⟨i1, i2, i3, i4, i5⟩ := id mi
  have eN := gx.2.1.2.1
  have h5 : hi 10 0 5 = nI σ.2.1 := by
    rw [eN]
    exact gx.2.1.1
  obtain ⟨σ1, hi1, hl1, hg1, s1, fr, frl, t1, n1, sN, rx⟩ := x_ruleA (d := 12) (Rs := Rs) i4.1 gx.2.2.2.2.1 h5 (by omega) gx.2.1.2.2.1 (fun t ht => gx.2.2.1 t (by omega))
  rw [eN] at hg1 t1 n1 sN rx
  have gm1 := gm.x (hi' := hi1) (fun k j s p => fr k j s (by unfold XK at p; omega) (by unfold XK at p; omega) (by unfold XK at p; omega) (by unfold XK at p; omega) (by unfold XK at p; omega) (by unfold XK at p; omega))
  obtain ⟨hi2, hg2, np⟩ := m_rule (d := 7) (σ := σ1) (hl := hl1) i4.2 gm1.2.2.2.2.1 gm1.2.1.2.2.2 i2.2.2
  obtain ⟨q1, ⟨q2, q3, q4, q5, q6⟩, q7, q8, q9, q10⟩ := id gx
  obtain ⟨r1, ⟨r2, r3, r4, r5⟩, r6, r7, r8, r9⟩ := id gm1
  have w0 : fx_wn 0 = 2 := rfl
  have w1 : fx_wb 0 = 1 := rfl
  have tp : TP hi1 (nTp n N) T := ⟨t1, fun i hi3 => (fr 20 0 i (by omega) (by omega) (by omega) (by omega) (by omega) (by omega)).trans (q9.2 i (by unfold nTp at hi3; split at hi3 <;> omega))⟩
  have gx1 : GX Sc σ1 hi1 hl1 v f x (nN T n N) (nR T n N Rs) m us (nTp n N) T im := ⟨q1.fr (fun k i s p r => fr k i s (by omega) (by omega) (by omega) (by omega) (by omega) (by omega)) (fun k s p => fr k _ s (by omega) (by omega) (by omega) (by omega) (by omega) (by omega)) (fun i r => frl 1 i 6 (by omega) (by omega)), ⟨n1, sN, q4.fr (fun s => fr 91 0 s (by omega) (by omega) (by omega) (by omega) (by omega) (by omega)), (fr 8 0 3 (by omega) (by omega) (by omega) (by omega) (by omega) (by omega)).trans q5, fun i => (fr 90 0 i (by omega) (by omega) (by omega) (by omega) (by omega) (by omega)).trans (q6 i)⟩, rx, q8.fr (fun s => fr 0 0 s (by omega) (by omega) (by omega) (by omega) (by omega) (by omega)) (fun k j s p _ _ => fr k j s (by omega) (by omega) (by omega) (by omega) (by omega) (by omega)) (fun j _ _ => frl 1 j 6 (by omega) (by omega)), tp, q10.fr (fun k j s p _ _ => fr k j s (by omega) (by omega) (by omega) (by omega) (by omega) (by omega)) (fun k j s p _ _ => fr k j s (by omega) (by omega) (by omega) (by omega) (by omega) (by omega)) (fun s => fr 34 0 s (by omega) (by omega) (by omega) (by omega) (by omega) (by omega)) (fun j _ _ => frl 1 j 6 (by omega) (by omega))⟩
  have key : GM hi2 v f x (nN T n N) (nR T n N Rs) m us (nTp n N) T im ∧ (∀ k j s, ¬ XK k → hi2 k j s = hi1 k j s) ∧ (N ≤ nN T n N ∧ nN T n N ≤ 6) := by
    unfold NrP at np
    unfold nN nR nTp
    by_cases h6 : N = 6
    · rw [if_pos h6] at np
      rw [if_pos h6, if_pos h6, if_pos h6, np]
      exact ⟨gm1, fun _ _ _ _ => rfl, by omega, by omega⟩
    · rw [if_neg h6] at np
      rw [if_neg h6, if_neg h6, if_neg h6]
      have lt : N < 6 := by omega
      obtain ⟨fn, t2, np⟩ := np
      have oth : ∀ k j s, ¬ (k = 11 ∧ (s = 1 ∨ s = 2 ∨ 8 ≤ s ∧ s ≤ 16)) → k ≠ 52 → k ≠ 51 → k ≠ 56 → k ≠ 53 → k ≠ 54 → hi2 k j s = hi1 k j s := fun k j s a1 a2 a3 a4 a5 a6 => fn k j s a1 (by omega) (by omega) a4 (by omega) (by omega)
      have rs : ∀ t, t < N → RM hi2 t (Rs t) := fun t ht => by
        obtain ⟨g1, g2, g3⟩ := r6 t ht
        exact ⟨g1, (fn 54 0 t (by omega) (by omega) (by omega) (by omega) (by omega) (by omega)).trans g2, RMl_lo ht (fun s hs => fn 51 0 s (by omega) (by omega) (by omega) (by omega) (by omega) (by omega)) (fun s hs => fn 53 0 s (by omega) (by omega) (by omega) (by omega) (by omega) (by omega)) _ 0 0 g3⟩
      have xx : ∀ k j s, ¬ XK k → hi2 k j s = hi1 k j s := fun k j s p => oth k j s (by unfold XK at p; omega) (by unfold XK at p; omega) (by unfold XK at p; omega) (by unfold XK at p; omega) (by unfold XK at p; omega) (by unfold XK at p; omega)
      have rest : ∀ N' Rs', hi2 11 0 2 = nI N' → RsM hi2 N' Rs' → GM hi2 v f x N' Rs' m us 0 T im := fun N' Rs' a b => ⟨r1.f2 (fun s => oth 59 0 s (by omega) (by omega) (by omega) (by omega) (by omega) (by omega)), ⟨(oth 11 0 21 (by omega) (by omega) (by omega) (by omega) (by omega) (by omega)).trans r2, (oth 11 0 22 (by omega) (by omega) (by omega) (by omega) (by omega) (by omega)).trans r3, (oth 11 0 23 (by omega) (by omega) (by omega) (by omega) (by omega) (by omega)).trans r4, a⟩, b, r7.f2 (oth 11 0 28 (by omega) (by omega) (by omega) (by omega) (by omega) (by omega)) (fun s => oth 62 0 s (by omega) (by omega) (by omega) (by omega) (by omega) (by omega)), ⟨Nat.zero_le _, t2, fun i hi3 => absurd hi3 (Nat.not_lt_zero i)⟩, r9.fr (fun k s p q => oth k 0 s (by omega) (by omega) (by omega) (by omega) (by omega) (by omega))⟩
      cases hr : rdR T n (n + 1) 0 0 [] with
      | inl e =>
        rw [hr] at np
        exact ⟨rest _ _ np rs, xx, Nat.le_refl _, i2.2.2⟩
      | inr R =>
        rw [hr] at np
        refine ⟨rest _ _ np.1 (fun t ht => ?_), xx, Nat.le_succ _, lt⟩
        have ht : t < N + 1 := ht
        show RM hi2 t (if t = N then R else Rs t)
        by_cases e : t = N
        · rw [if_pos e, e]
          exact np.2
        · rw [if_neg e]
          exact rs t (by omega)
  obtain ⟨gm2, xx, nle, n6⟩ := key
  refine ⟨_, _, _, hg1, hg2, ⟨s1.trans eL, gx1.2.1.2.2.2.2⟩, σ1, hi2, hl1, v, f, x, nN T n N, nR T n N Rs, m, us, nTp n N, T, im, rfl, s1.trans eL, gx1.mm xx (fun _ _ _ _ => rfl), gm2, i1, ⟨fun t ht => ?_, i2.2.1, n6⟩, i3, ⟨?_, fun i hi3 => i4.2 i ?_⟩, fun c hc q hq => ?_⟩
  · have := i2.1 t ht
    omega
  · unfold nTp
    have := i4.1
    split <;> omega
  · unfold nTp at hi3
    split at hi3 <;> omega
  · obtain ⟨a1, a2, a3⟩ := i5 c hc q hq
    exact ⟨a1, fun t ht => by have := a2 t ht; omega, a3⟩
end AE
