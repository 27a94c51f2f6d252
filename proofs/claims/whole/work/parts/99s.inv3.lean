/-! what holds between calls: texts, notes, images -/
section AC
variable {Sc : Nat → Int32} {σ : fxS} {hi hi' : fxI3} {hl hl' : fxL3} {v : Nat → Nat} {f : Option Nat} {x N : Nat} {Rs : Nat → fxRl} {m : Nat} {us : fxU} {n : Nat} {T : Nat → Int32} {im : fxIm}
/-- the tape is another, all else stays -/
theorem GX.t {n' : Nat} {T' : Nat → Int32} (g : GX Sc σ hi hl v f x N Rs m us n T im) (h : ∀ k j s, k ≠ 20 → ¬ (k = 10 ∧ s = 1) → hi' k j s = hi k j s) (ht : TP hi' n' T') : GX Sc σ hi' hl v f x N Rs m us n' T' im := by
  obtain ⟨g1, ⟨g2, g3, g4, g5, g6⟩, g7, g8, g9, g10⟩ := g
  exact ⟨g1.fr (fun k i s a _ => h k i s (by omega) (by omega)) (fun k s a => h k _ s (by omega) (by omega)) (fun _ _ => rfl), ⟨(h 10 0 5 (by omega) (by omega)).trans g2, g3, g4.fr (fun s => h 91 0 s (by omega) (by omega)), (h 8 0 3 (by omega) (by omega)).trans g5, fun i => (h 90 0 i (by omega) (by omega)).trans (g6 i)⟩, g7.fr rfl (fun j s => h 45 j s (by omega) (by omega)) (fun t => h 5 t 1 (by omega) (by omega)), g8.fr (fun s => h 0 0 s (by omega) (by omega)) (fun k j s a _ _ => h k j s (by omega) (by omega)) (fun _ _ _ => rfl), ht, g10.fr (fun k j s a _ _ => h k j s (by omega) (by omega)) (fun k j s a _ _ => h k j s (by omega) (by omega)) (fun s => h 34 0 s (by omega) (by omega)) (fun _ _ _ => rfl)⟩
theorem GM.t {n' : Nat} {T' : Nat → Int32} (g : GM hi v f x N Rs m us n T im) (h : ∀ k j s, k ≠ 50 → ¬ (k = 11 ∧ s = 1) → hi' k j s = hi k j s) (ht : TM hi' n' T') : GM hi' v f x N Rs m us n' T' im := by
  obtain ⟨g1, ⟨g2, g3, g4, g5⟩, g6, g7, g8, g9⟩ := g
  exact ⟨g1.f2 (fun s => h 59 0 s (by omega) (by omega)), ⟨(h 11 0 21 (by omega) (by omega)).trans g2, (h 11 0 22 (by omega) (by omega)).trans g3, (h 11 0 23 (by omega) (by omega)).trans g4, (h 11 0 2 (by omega) (by omega)).trans g5⟩, g6.fr (fun k s a => h k 0 s (by omega) (by omega)), g7.f2 (h 11 0 28 (by omega) (by omega)) (fun s => h 62 0 s (by omega) (by omega)), ht, g9.fr (fun k s a b => h k 0 s (by omega) (by omega))⟩
theorem MI.t {n' : Nat} {T' : Nat → Int32} (i : MI v f x N m us n T im) (h1 : n' ≤ 400) (h2 : ∀ i, i < n' → isB (T' i)) : MI v f x N m us n' T' im := ⟨i.1, i.2.1, i.2.2.1, ⟨h1, h2⟩, i.2.2.2.2⟩
end AC
theorem isB_ap {T : Nat → Int32} {n : Nat} {x : Int32} (h : ∀ i, i < n → isB (T i)) : ∀ i, i < n + 4 → isB (ap1 T n x i) := by
  intro i hi
  unfold ap1
  repeat' split
  all_goals first | exact ⟨_, rfl⟩ | exact h i (by omega)
section AD
variable {L : Nat} {Sc : Nat → Int32} {h : fxH}
theorem op_feed (li : LI L Sc h) (a b c e g : Int32) : OpR L Sc h 87 146 [vi a, vi b, vi c, vi e, vi g] := by
  obtain ⟨σ, hi, hl, v, f, x, N, Rs, m, us, n, T, im, rfl, eL, gx, gm, mi⟩ := li
  obtain ⟨hi1, hg1, f1, t1⟩ := x_feed (d := 18) (σ := σ) (hl := hl) gx.2.2.2.2.1 mi.2.2.2.1.1 a b c e g
  have gm1 := gm.x (hi' := hi1) (fun k j s a => f1 k j s (by unfold XK at a; omega))
  obtain ⟨hi2, hg2, f2, t2⟩ := m_feed (d := 18) (σ := σ) (hl := hl) gm1.2.2.2.2.1 a b c e g
  have gx1 := gx.t (hi' := hi1) (fun k j s p q => f1 k j s (by omega)) t1
  refine ⟨_, _, _, hg1, hg2, ⟨eL, gx1.2.1.2.2.2.2⟩, σ, hi2, hl, v, f, x, N, Rs, m, us, _, _, im, rfl, eL, gx1.mm (fun k j s p => f2 k j s (by unfold XK at p; omega)) (fun _ _ _ _ => rfl), gm1.t (fun k j s p q => f2 k j s (by omega)) t2, mi.t ?_ ?_⟩
  · have := mi.2.2.2.1.1
    split <;> omega
  · intro i hi3
    have hb := mi.2.2.2.1.2
    by_cases h380 : n ≤ 380
    · rw [if_pos h380] at hi3 ⊢
      exact isB_ap (isB_ap (isB_ap (isB_ap (isB_ap hb)))) i (by omega)
    · rw [if_neg h380] at hi3 ⊢
      exact hb i hi3
theorem op_end (li : LI L Sc h) (a : Int32) : OpR L Sc h 89 147 [vi a] := by
  obtain ⟨σ, hi, hl, v, f, x, N, Rs, m, us, n, T, im, rfl, eL, gx, gm, mi⟩ := li
  have inst : Decidable (cEnd n a) := Classical.propDecidable _
  have h400 := mi.2.2.2.1.1
  have g1 := x_end (d := 19) (σ := σ) (hl := hl) gx.2.2.2.2.1 a
  by_cases c : cEnd n a
  · rw [if_pos c, if_pos c] at g1
    obtain ⟨j, _, j2, ej, _⟩ := rg_of (a := 0) (b := n) c (by omega) (by decide)
    have o1 : ∀ k j s, ¬ (k = 10 ∧ s = 1) → fx_up hi 10 0 1 a k j s = hi k j s := fun k j s p => up_off _ _ (by omega)
    have gm1 := gm.x (hi' := fx_up hi 10 0 1 a) (fun k j s p => o1 k j s (by unfold XK at p; omega))
    have g2 := m_end (d := 19) (σ := σ) (hl := hl) gm1.2.2.2.2.1 a
    rw [if_pos c, if_pos c] at g2
    have o2 : ∀ k j s, ¬ (k = 11 ∧ s = 1) → fx_up (fx_up hi 10 0 1 a) 11 0 1 a k j s = fx_up hi 10 0 1 a k j s := fun k j s p => up_off _ _ (by omega)
    have gx1 := gx.t (hi' := fx_up hi 10 0 1 a) (n' := j) (T' := T) (fun k j s p q => o1 k j s q) ⟨(up_at _ _ _ _ _).trans ej, fun i hi2 => (o1 20 0 i (by omega)).trans (gx.2.2.2.2.1.2 i (by omega))⟩
    exact ⟨_, _, _, g1, g2, ⟨eL, gx1.2.1.2.2.2.2⟩, σ, _, hl, v, f, x, N, Rs, m, us, j, T, im, rfl, eL, gx1.mm (fun k j s p => o2 k j s (by unfold XK at p; omega)) (fun _ _ _ _ => rfl), gm1.t (fun k j s p q => o2 k j s q) ⟨by omega, (up_at _ _ _ _ _).trans ej, fun i hi2 => (o2 50 0 i (by omega)).trans (gm1.2.2.2.2.1.2.2 i (by omega))⟩, mi.t (by omega) (fun i hi2 => mi.2.2.2.1.2 i (by omega))⟩
  · rw [if_neg c, if_neg c] at g1
    have g2 := m_end (d := 19) (σ := σ) (hl := hl) gm.2.2.2.2.1 a
    rw [if_neg c, if_neg c] at g2
    exact ⟨_, _, _, g1, g2, ⟨eL, gx.2.1.2.2.2.2⟩, σ, hi, hl, v, f, x, N, Rs, m, us, n, T, im, rfl, eL, gx, gm, mi⟩
theorem op_seed (li : LI L Sc h) (a : Int32) : OpR L Sc h 134 244 [vi a] := by
  obtain ⟨σ, hi, hl, v, f, x, N, Rs, m, us, n, T, im, rfl, eL, gx, gm, mi⟩ := li
  have g1 := x_seed (d := 19) (σ := σ) (hi := hi) (hl := hl) a
  by_cases c : 0 ≤ a
  · rw [if_pos c, if_pos c, gx.1.2.2.2.2] at g1
    have o1 : ∀ k j s, ¬ (k = 9 ∧ j = 0 ∧ s = 4) → fx_up hi 9 0 4 a k j s = hi k j s := fun k j s p => up_off _ _ (by omega)
    have gm1 := gm.x (hi' := fx_up hi 9 0 4 a) (fun k j s p => o1 k j s (by unfold XK at p; omega))
    have g2 := m_seed (d := 19) (σ := σ) (hi := fx_up hi 9 0 4 a) (hl := hl) a
    rw [if_pos c, if_pos c, gm1.2.1.2.1] at g2
    have o2 : ∀ k j s, ¬ (k = 11 ∧ s = 22) → fx_up (fx_up hi 9 0 4 a) 11 0 22 a k j s = fx_up hi 9 0 4 a k j s := fun k j s p => up_off _ _ (by omega)
    obtain ⟨y, y1, y2⟩ : ∃ y, y < 2 ^ 31 ∧ a = nI y := by
      have h1 := Int32.le_iff_toInt_le.mp c
      have h2 := Int32.toInt_lt a
      refine ⟨a.toInt.toNat, ?_, ?_⟩
      · have : (0 : Int32).toInt = 0 := rfl
        omega
      · apply Int32.toInt_inj.mp
        have : (0 : Int32).toInt = 0 := rfl
        rw [nI_toInt (by omega)]
        omega
    obtain ⟨⟨w1, w2, w3, w4, w5⟩, ⟨q2, q3, q4, q5, q6⟩, q7, q8, q9, q10⟩ := id gx
    have gx1 : GX Sc σ (fx_up hi 9 0 4 a) hl v f y N Rs m us n T im := ⟨⟨w1.fr (fun s => o1 1 _ s (by omega)) (fun k s p => o1 k _ s (by omega)) rfl, w2.fr (fun s => o1 1 _ s (by omega)) (fun k s p => o1 k _ s (by omega)) rfl, w3.fr (fun k s p => o1 k _ s (by omega)), (o1 9 0 3 (by omega)).trans w4, (up_at _ _ _ _ _).trans y2⟩, ⟨(o1 10 0 5 (by omega)).trans q2, q3, q4.fr (fun s => o1 91 0 s (by omega)), (o1 8 0 3 (by omega)).trans q5, fun i => (o1 90 0 i (by omega)).trans (q6 i)⟩, q7.fr rfl (fun j s => o1 45 j s (by omega)) (fun t => o1 5 t 1 (by omega)), q8.fr (fun s => o1 0 0 s (by omega)) (fun k j s p _ _ => o1 k j s (by omega)) (fun _ _ _ => rfl), q9.f2 (o1 10 0 1 (by omega)) (fun s => o1 20 0 s (by omega)), q10.fr (fun k j s p _ _ => o1 k j s (by omega)) (fun k j s p _ _ => o1 k j s (by omega)) (fun s => o1 34 0 s (by omega)) (fun _ _ _ => rfl)⟩
    obtain ⟨r1, ⟨r2, r3, r4, r5⟩, r6, r7, r8, r9⟩ := gm1
    have gm2 : GM (fx_up (fx_up hi 9 0 4 a) 11 0 22 a) v f y N Rs m us n T im := ⟨r1.f2 (fun s => o2 59 0 s (by omega)), ⟨(o2 11 0 21 (by omega)).trans r2, (up_at _ _ _ _ _).trans y2, (o2 11 0 23 (by omega)).trans r4, (o2 11 0 2 (by omega)).trans r5⟩, r6.fr (fun k s p => o2 k 0 s (by omega)), r7.f2 (o2 11 0 28 (by omega)) (fun s => o2 62 0 s (by omega)), r8.f2 (o2 11 0 1 (by omega)) (fun s => o2 50 0 s (by omega)), r9.fr (fun k s p q => o2 k 0 s (by omega))⟩
    obtain ⟨i1, ⟨i2, i3, i4⟩, i5⟩ := mi
    exact ⟨_, _, _, g1, g2, ⟨eL, gx1.2.1.2.2.2.2⟩, σ, _, hl, v, f, y, N, Rs, m, us, n, T, im, rfl, eL, gx1.mm (fun k j s p => o2 k j s (by unfold XK at p; omega)) (fun _ _ _ _ => rfl), gm2, i1, ⟨i2, y1, i4⟩, i5⟩
  · rw [if_neg c, if_neg c] at g1
    have g2 := m_seed (d := 19) (σ := σ) (hi := hi) (hl := hl) a
    rw [if_neg c, if_neg c] at g2
    exact ⟨_, _, _, g1, g2, ⟨eL, gx.2.1.2.2.2.2⟩, σ, hi, hl, v, f, x, N, Rs, m, us, n, T, im, rfl, eL, gx, gm, mi⟩
theorem op_force (li : LI L Sc h) (a : Int32) : OpR L Sc h 92 197 [vi a] := by
  obtain ⟨σ, hi, hl, v, f, x, N, Rs, m, us, n, T, im, rfl, eL, gx, gm, mi⟩ := li
  have inst : Decidable (cForce N a) := Classical.propDecidable _
  have h6 := mi.2.1.2.2
  have g1 := x_force (d := 18) (σ := σ) (hl := hl) gx.2.1.1 h6 a
  by_cases c : cForce N a
  · rw [if_pos c, if_pos c, gx.1.2.2.2.1] at g1
    have o1 : ∀ k j s, ¬ (k = 9 ∧ j = 0 ∧ s = 3) → fx_up hi 9 0 3 a k j s = hi k j s := fun k j s p => up_off _ _ (by omega)
    have gm1 := gm.x (hi' := fx_up hi 9 0 3 a) (fun k j s p => o1 k j s (by unfold XK at p; omega))
    have g2 := m_force (d := 18) (σ := σ) (hl := hl) gm1.2.1.2.2.2 a
    rw [if_pos c, if_pos c, gm1.2.1.1] at g2
    have o2 : ∀ k j s, ¬ (k = 11 ∧ s = 21) → fx_up (fx_up hi 9 0 3 a) 11 0 21 a k j s = fx_up hi 9 0 3 a k j s := fun k j s p => up_off _ _ (by omega)
    obtain ⟨f', y1, y2⟩ : ∃ f' : Option Nat, (∀ t, f' = some t → t < N) ∧ a = oI f' := by
      rcases c with c | c
      · exact ⟨none, fun t ht => by (cases ht), c⟩
      · rcases ni_ix a (n := N) (by omega) with ⟨i, hi4, ei⟩ | z
        · exact ⟨some i, fun t ht => by cases ht; exact hi4, ei⟩
        · exact absurd c z
    obtain ⟨⟨w1, w2, w3, w4, w5⟩, ⟨q2, q3, q4, q5, q6⟩, q7, q8, q9, q10⟩ := id gx
    have gx1 : GX Sc σ (fx_up hi 9 0 3 a) hl v f' x N Rs m us n T im := ⟨⟨w1.fr (fun s => o1 1 _ s (by omega)) (fun k s p => o1 k _ s (by omega)) rfl, w2.fr (fun s => o1 1 _ s (by omega)) (fun k s p => o1 k _ s (by omega)) rfl, w3.fr (fun k s p => o1 k _ s (by omega)), (up_at _ _ _ _ _).trans y2, (o1 9 0 4 (by omega)).trans w5⟩, ⟨(o1 10 0 5 (by omega)).trans q2, q3, q4.fr (fun s => o1 91 0 s (by omega)), (o1 8 0 3 (by omega)).trans q5, fun i => (o1 90 0 i (by omega)).trans (q6 i)⟩, q7.fr rfl (fun j s => o1 45 j s (by omega)) (fun t => o1 5 t 1 (by omega)), q8.fr (fun s => o1 0 0 s (by omega)) (fun k j s p _ _ => o1 k j s (by omega)) (fun _ _ _ => rfl), q9.f2 (o1 10 0 1 (by omega)) (fun s => o1 20 0 s (by omega)), q10.fr (fun k j s p _ _ => o1 k j s (by omega)) (fun k j s p _ _ => o1 k j s (by omega)) (fun s => o1 34 0 s (by omega)) (fun _ _ _ => rfl)⟩
    obtain ⟨r1, ⟨r2, r3, r4, r5⟩, r6, r7, r8, r9⟩ := gm1
    have gm2 : GM (fx_up (fx_up hi 9 0 3 a) 11 0 21 a) v f' x N Rs m us n T im := ⟨r1.f2 (fun s => o2 59 0 s (by omega)), ⟨(up_at _ _ _ _ _).trans y2, (o2 11 0 22 (by omega)).trans r3, (o2 11 0 23 (by omega)).trans r4, (o2 11 0 2 (by omega)).trans r5⟩, r6.fr (fun k s p => o2 k 0 s (by omega)), r7.f2 (o2 11 0 28 (by omega)) (fun s => o2 62 0 s (by omega)), r8.f2 (o2 11 0 1 (by omega)) (fun s => o2 50 0 s (by omega)), r9.fr (fun k s p q => o2 k 0 s (by omega))⟩
    obtain ⟨i1, ⟨i2, i3, i4⟩, i5⟩ := mi
    exact ⟨_, _, _, g1, g2, ⟨eL, gx1.2.1.2.2.2.2⟩, σ, _, hl, v, f', x, N, Rs, m, us, n, T, im, rfl, eL, gx1.mm (fun k j s p => o2 k j s (by unfold XK at p; omega)) (fun _ _ _ _ => rfl), gm2, i1, ⟨y1, i3, i4⟩, i5⟩
  · rw [if_neg c, if_neg c] at g1
    have g2 := m_force (d := 18) (σ := σ) (hl := hl) gm.2.1.2.2.2 a
    rw [if_neg c, if_neg c] at g2
    exact ⟨_, _, _, g1, g2, ⟨eL, gx.2.1.2.2.2.2⟩, σ, hi, hl, v, f, x, N, Rs, m, us, n, T, im, rfl, eL, gx, gm, mi⟩
theorem vBg_c52 {u v : Nat → Nat} (e : ∀ y, y < 52 → u y = v y) : ∀ y, y < 52 → vBg u y = vBg v y := by
  intro y hy
  by_cases hx : y < 10 ∨ 38 ≤ y
  · rw [vBg_ne u hx, vBg_ne v hx]
    exact e y hy
  · rcases (show y = 10 ∨ y = 11 ∨ (12 ≤ y ∧ y < 36) ∨ y = 36 ∨ y = 37 by omega) with rfl | rfl | c | rfl | rfl
    · rfl
    · rfl
    · have l : ∀ u : Nat → Nat, vBg u y = (if y % 4 = 0 then 100 - u (38 + (y - 12) / 4) else if y % 4 = 1 then u (44 + (y - 12) / 4) else 0) := fun u => by
        unfold vBg
        rw [if_neg (by omega), if_neg (by omega), if_pos c]
      rw [l u, l v, e (38 + (y - 12) / 4) (by omega), e (44 + (y - 12) / 4) (by omega)]
    · exact e 50 (by omega)
    · exact e 51 (by omega)
theorem bz_c52 {u v : Nat → Nat} (e : ∀ y, y < 52 → u y = v y) : ∀ y, y < 38 → vBz u y = vBz v y := by
  intro y hy
  unfold vBz
  rw [e 0 (by decide)]
  split
  · exact vBg_c52 e y (by omega)
  · rfl
theorem MV.note {u v : Nat → Nat} (h : MV v) (e : ∀ y, y < 52 → u y = v y) (hn : NOK u) : MV u := by
  obtain ⟨i1, i2, i3, i4, i5⟩ := h
  have b := vBg_c52 e
  refine ⟨i1.cg (fun y hy => e y (by omega)), GV_of i2 (e 1 (by decide)) (e 36 (by decide)) (e 37 (by decide)), ⟨?_, ?_⟩, ⟨GV_of i4.1 (b 1 (by decide)) (b 36 (by decide)) (b 37 (by decide)), fun i h6 => ?_⟩, hn⟩
  · rw [e 0 (by decide), e 1 (by decide), e 4 (by decide)]
    exact i3.1
  · rw [e 10 (by decide)]
    exact i3.2
  · rw [e _ (by omega), e _ (by omega)]
    exact i4.2 i h6
theorem op_note (li : LI L Sc h) (a b c : Int32) : OpR L Sc h 128 238 [vi a, vi b, vi c] := by
  obtain ⟨σ, hi, hl, v, f, x, N, Rs, m, us, n, T, im, rfl, eL, gx, gm, mi⟩ := li
  have inst : Decidable (cNote v a b c) := Classical.propDecidable _
  have h4 := mi.1.1.1
  have hno := mi.1.2.2.2.2
  obtain ⟨hi1, hg1, o1, t1⟩ := x_note (d := 18) (σ := σ) (hl := hl) gx.1.1 h4 gx.1.2.2.1 hno a b c
  have gm1 := gm.x (hi' := hi1) (fun k j s p => o1 k j s (by unfold XK at p; omega))
  obtain ⟨hi2, hg2, o2, p2⟩ := m_note (d := 18) (σ := σ) (hl := hl) gm1.1 h4 hno a b c
  have key : ∃ v', v' = (if a = -1 then vup v 82 0 else if cNote v a b c then nNote v a b c else v) ∧ (∀ y, y < 52 → v' y = v y) ∧ NOK v' := by
    by_cases c1 : a = -1
    · exact ⟨vup v 82 0, by rw [if_pos c1], fun y hy => vup_ne (by omega), by rw [vup_eq]; exact Nat.zero_le _, fun i hi3 => by rw [vup_eq] at hi3; exact absurd hi3 (Nat.not_lt_zero i)⟩
    · by_cases c2 : cNote v a b c
      · refine ⟨nNote v a b c, by rw [if_neg c1, if_pos c2], fun y hy => ?_, ?_⟩
        · unfold nNote
          rw [vup_ne (by omega), vup_ne (by omega), vup_ne (by omega), vup_ne (by omega)]
        · obtain ⟨d1, d2, d3, d4⟩ := c2
          obtain ⟨ka, _, ka2, _, ka4⟩ := rg_of (a := 0) (b := 60) d1 (by decide) (by decide)
          obtain ⟨kc, _, kc2, _, kc4⟩ := rg_of (a := 0) (b := 9999) d3 (by decide) (by decide)
          rcases ni_ix b (n := v 4) (by omega) with ⟨i, hi4, ei⟩ | z
          · have eb : b.toNatClampNeg = i := ni_cl ei (by omega)
            have e82 : nNote v a b c 82 = v 82 + 1 := by
              unfold nNote
              rw [vup_eq]
            have e4 : nNote v a b c 4 = v 4 := by
              unfold nNote
              rw [vup_ne (by omega), vup_ne (by omega), vup_ne (by omega), vup_ne (by omega)]
            refine ⟨by rw [e82]; omega, fun j hj => ?_⟩
            rw [e82] at hj
            rw [e4]
            have h82 := hno.1
            unfold nNote
            rw [ka4, eb, kc4, vup_ne (show 52 + 3 * j ≠ 82 by omega), vup_ne (show 53 + 3 * j ≠ 82 by omega), vup_ne (show 54 + 3 * j ≠ 82 by omega)]
            by_cases ej : j = v 82
            · subst ej
              rw [vup_ne (show 52 + 3 * v 82 ≠ 54 + 3 * v 82 by omega), vup_ne (show 52 + 3 * v 82 ≠ 53 + 3 * v 82 by omega), vup_eq, vup_ne (show 53 + 3 * v 82 ≠ 54 + 3 * v 82 by omega), vup_eq, vup_eq]
              exact ⟨ka2, hi4, kc2⟩
            · rw [vup_ne (show 52 + 3 * j ≠ 54 + 3 * v 82 by omega), vup_ne (show 52 + 3 * j ≠ 53 + 3 * v 82 by omega), vup_ne (show 52 + 3 * j ≠ 52 + 3 * v 82 by omega), vup_ne (show 53 + 3 * j ≠ 54 + 3 * v 82 by omega), vup_ne (show 53 + 3 * j ≠ 53 + 3 * v 82 by omega), vup_ne (show 53 + 3 * j ≠ 52 + 3 * v 82 by omega), vup_ne (show 54 + 3 * j ≠ 54 + 3 * v 82 by omega), vup_ne (show 54 + 3 * j ≠ 53 + 3 * v 82 by omega), vup_ne (show 54 + 3 * j ≠ 52 + 3 * v 82 by omega)]
              exact hno.2 j (by omega)
          · exact absurd d2 z
      · exact ⟨v, by rw [if_neg c1, if_neg c2], fun _ _ => rfl, hno⟩
  obtain ⟨v', ev, e52, hno'⟩ := key
  rw [← ev] at t1 p2
  obtain ⟨⟨w1, w2, w3, w4, w5⟩, ⟨q2, q3, q4, q5, q6⟩, q7, q8, q9, q10⟩ := id gx
  have gx1 : GX Sc σ hi1 hl v' f x N Rs m us n T im := ⟨⟨(w1.fr (fun s => o1 1 _ s (by omega)) (fun k s p => o1 k _ s (by omega)) rfl).cg h4 (fun y hy => e52 y (by omega)), (w2.fr (fun s => o1 1 _ s (by omega)) (fun k s p => o1 k _ s (by omega)) rfl).cg (bz_4 h4) (bz_c52 e52), t1, (o1 9 0 3 (by omega)).trans w4, (o1 9 0 4 (by omega)).trans w5⟩, ⟨(o1 10 0 5 (by omega)).trans q2, q3, q4.fr (fun s => o1 91 0 s (by omega)), (o1 8 0 3 (by omega)).trans q5, fun i => (o1 90 0 i (by omega)).trans (q6 i)⟩, q7.fr rfl (fun j s => o1 45 j s (by omega)) (fun t => o1 5 t 1 (by omega)), q8.fr (fun s => o1 0 0 s (by omega)) (fun k j s p _ _ => o1 k j s (by omega)) (fun _ _ _ => rfl), q9.f2 (o1 10 0 1 (by omega)) (fun s => o1 20 0 s (by omega)), q10.fr (fun k j s p _ _ => o1 k j s (by omega)) (fun k j s p _ _ => o1 k j s (by omega)) (fun s => o1 34 0 s (by omega)) (fun _ _ _ => rfl)⟩
  obtain ⟨r1, ⟨r2, r3, r4, r5⟩, r6, r7, r8, r9⟩ := gm1
  have gm2 : GM hi2 v' f x N Rs m us n T im := ⟨p2, ⟨(o2 11 0 21 (by omega)).trans r2, (o2 11 0 22 (by omega)).trans r3, (o2 11 0 23 (by omega)).trans r4, (o2 11 0 2 (by omega)).trans r5⟩, r6.fr (fun k s p => o2 k 0 s (by omega)), r7.f2 (o2 11 0 28 (by omega)) (fun s => o2 62 0 s (by omega)), r8.f2 (o2 11 0 1 (by omega)) (fun s => o2 50 0 s (by omega)), r9.fr (fun k s p q => o2 k 0 s (by omega))⟩
  obtain ⟨i1, i2, i3, i4, i5⟩ := mi
  exact ⟨_, _, _, hg1, hg2, ⟨eL, gx1.2.1.2.2.2.2⟩, σ, hi2, hl, v', f, x, N, Rs, m, us, n, T, im, rfl, eL, gx1.mm (fun k j s p => o2 k j s (by unfold XK at p; omega)) (fun _ _ _ _ => rfl), gm2, i1.note e52 hno', i2, fun i hi3 => ⟨(i3 i hi3).1, (i3 i hi3).2.1, (i3 i hi3).2.2.1, fun y hy => ((i3 i hi3).2.2.2 y hy).trans (e52 y (by omega)).symm⟩, i4, i5⟩
end AD
