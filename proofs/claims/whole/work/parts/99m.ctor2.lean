/-! constructors: readers, stepper, worlds, rows of chases -/
theorem cinc_ne {c : Nat → Nat} {k a : Nat} (h : a ≠ k) : cinc c k a = c a := if_neg h
theorem cinc_eq {c : Nat → Nat} {k : Nat} : cinc c k k = c k + 1 := if_pos rfl
theorem cch_at {c : Nat → Nat} {k : Nat} (h : k = 1 ∨ 21 ≤ k ∧ k ≤ 24) : cch c k = c k + 1 := by
  rcases (show k = 1 ∨ k = 21 ∨ k = 22 ∨ k = 23 ∨ k = 24 by omega) with rfl | rfl | rfl | rfl | rfl <;> rfl
theorem cch_ne {c : Nat → Nat} {k : Nat} (h : ¬ (k = 1 ∨ 21 ≤ k ∧ k ≤ 24)) : cch c k = c k := by
  unfold cch
  rw [cinc_ne (by omega), cinc_ne (by omega), cinc_ne (by omega), cinc_ne (by omega), cinc_ne (by omega)]
/-- chases, n more -/
def cchN (c : Nat → Nat) : Nat → Nat → Nat
  | 0 => c
  | n + 1 => cch (cchN c n)
theorem cchN_at {c : Nat → Nat} {k : Nat} (h : k = 1 ∨ 21 ≤ k ∧ k ≤ 24) : ∀ n, cchN c n k = c k + n
  | 0 => rfl
  | n + 1 => by
    show cch (cchN c n) k = _
    rw [cch_at h, cchN_at h n]
    omega
/-- what is none yet -/
def zI (hi : fxI3) : Prop := ∀ k j s, k ≠ 8 → k ≠ 9 → k < 90 → hi k j s = 0
def zL (hl : fxL3) : Prop := ∀ k j s, hl k j s = 0
section CU
variable {d L : Nat} {c : Nat → Nat} {R : Nat → Nat → Nat → Option fxR} {hi : fxI3} {hl : fxL3}
theorem x_chaseZ (e : ∀ k, 21 ≤ k → k ≤ 24 → c k = c 1) (h1 : ∀ k s, k = 1 ∨ 21 ≤ k ∧ k ≤ 24 → R k (c 1) s = fx_rfs 0 none k (c 1) s) (hz : zI hi) (hlz : zL hl) : fx_Ga (d + 1) 4 [cO (c 1)] (fx_mk (c, lz L, R, hi, hl) 1 0) none (cch c, lz L, R, hi, hl) :=
  x_chase rfl e (fun s => h1 1 s (Or.inl rfl)) (fun k s a b => (h1 k s (Or.inr ⟨a, b⟩)).trans (by rcases (show k = 21 ∨ k = 22 ∨ k = 23 ∨ k = 24 by omega) with rfl | rfl | rfl | rfl <;> rfl)) (fun k s a => ⟨hz k _ s (by omega) (by omega) (by omega), hlz k _ s⟩)
theorem x_signs (h1 : ∀ s, R 7 (c 7) s = fx_rfs 0 none 7 (c 7) s) (hz : zI hi) (hlz : zL hl) : fx_Ga (d + 1) 64 [gO (c 7), .inr (.inr (some (20, 0)))] (fx_mk (c, lz L, R, hi, hl) 7 0) none (cinc c 7, lz L, R, hi, hl) := by
  rw [mkO (k := 7) (n := 0) rfl (fun s => hz 7 _ s (by decide) (by decide) (by decide)) (fun s => hlz 7 _ s)]
  generalize c 7 = j at h1 ⊢
  refine fx_meth fx_M64 [some (gO j), some (.inr (.inr (some (20, 0))))] (by decide) rfl rfl (Nat.le_of_ble_eq_true rfl) (fx_wpE [] 60 ⟨rfl, ?_⟩)
  show fx_wr (cinc c 7, lz L, fx_all R 7 j (fun _ => none), hi, hl) 7 j 0 (some (20, 0)) = _
  rw [wrA, all_id (fun t => ?_)]
  rw [h1]
  match t with
  | 0 => rfl
  | t + 1 => rw [if_neg (by omega)]; rfl
theorem x_stepper (e8 : c 8 = 0) (e36 : c 36 = 0) (e37 : c 37 = 0) (e38 : c 38 = 0) (h1 : ∀ s, R 8 0 s = fx_rfs 0 none 8 0 s) (h2 : ∀ k s, 36 ≤ k → k ≤ 38 → R k 0 s = none) (hz : zI hi) (hz8 : ∀ j s, hi 8 j s = 0) (hlz : zL hl) : fx_Ga (d + 1) 78 [pO] (fx_mk (c, lz L, R, hi, hl) 8 0) none (cinc (cinc (cinc (cinc c 8) 36) 37) 38, lz L, R, fx_up hi 8 0 3 (-1), hl) := by
  rw [mkO (k := 8) (n := 0) rfl (fun s => hz8 _ s) (fun s => hlz 8 _ s), e8]
  refine fx_meth fx_M78 [some pO] (by decide) rfl rfl (Nat.le_of_ble_eq_true rfl) (fx_wpE [] 60 ⟨rfl, ?_⟩)
  show fx_wi (fx_wr (fx_mk (fx_wr (fx_mk (fx_wr (fx_mk (cinc c 8, lz L, fx_all R 8 0 (fun _ => none), hi, hl) 36 11) 8 0 0 (some (36, c 36))) 37 64) 8 0 1 (some (37, c 37))) 38 6) 8 0 2 (some (38, c 38))) 8 0 3 (-1) = _
  have q36 : cinc c 8 36 = 0 := e36
  have q37 : cinc (cinc c 8) 36 37 = 0 := e37
  have q38 : cinc (cinc (cinc c 8) 36) 37 38 = 0 := e38
  rw [e36, e37, e38]
  rw [mkW (k := 36) (n := 11) (by decide) rfl (fun s => by rw [q36]; exact h2 36 s (by decide) (by decide)) (fun s => hz 36 _ s (by decide) (by decide) (by decide)) (fun s => hlz _ _ _)]
  rw [mkW (k := 37) (n := 64) (by decide) rfl (fun s => by rw [q37]; exact h2 37 s (by decide) (by decide)) (fun s => hz 37 _ s (by decide) (by decide) (by decide)) (fun s => hlz _ _ _)]
  rw [mkW (k := 38) (n := 6) (by decide) rfl (fun s => by rw [q38]; exact h2 38 s (by decide) (by decide)) (fun s => hz 38 _ s (by decide) (by decide) (by decide)) (fun s => hlz _ _ _), wiT]
  rw [all_id (fun t => ?_)]
  rw [h1]
  match t with
  | 0 | 1 | 2 => rfl
  | t + 3 => rw [if_neg (by omega), if_neg (by omega), if_neg (by omega)]; rfl
theorem x_rrInit (e6 : ∀ k, 25 ≤ k → k ≤ 28 → c k = 0) (h1 : ∀ s, R 6 0 s = fx_rfs 0 none 6 0 s) (h2 : ∀ k s, 25 ≤ k → k ≤ 28 → R k 0 s = none) (hz : zI hi) (hlz : zL hl) : fx_Ga (d + 1) 44 [rrO, gO 1] (c, lz L, fx_all R 6 0 (fun _ => none), hi, hl) none (cinc (cinc (cinc (cinc c 25) 26) 27) 28, lz L, R, hi, hl) := by
  refine fx_meth fx_M44 [some rrO, some (gO 1)] (by decide) rfl rfl (Nat.le_of_ble_eq_true rfl) (fx_wpE [] 60 ⟨rfl, ?_⟩)
  show fx_wr (fx_wr (fx_mk (fx_wr (fx_mk (fx_wr (fx_mk (fx_wr (fx_mk (c, lz L, fx_all R 6 0 (fun _ => none), hi, hl) 25 400) 6 0 1 (some (25, c 25))) 26 13) 6 0 2 (some (26, c 26))) 27 12) 6 0 3 (some (27, c 27))) 28 64) 6 0 4 (some (28, c 28))) 6 0 0 (some (7, 1)) = _
  have q25 : c 25 = 0 := e6 25 (by decide) (by decide)
  have q26 : cinc c 25 26 = 0 := e6 26 (by decide) (by decide)
  have q27 : cinc (cinc c 25) 26 27 = 0 := e6 27 (by decide) (by decide)
  have q28 : cinc (cinc (cinc c 25) 26) 27 28 = 0 := e6 28 (by decide) (by decide)
  rw [e6 25 (by decide) (by decide), e6 26 (by decide) (by decide), e6 27 (by decide) (by decide), e6 28 (by decide) (by decide)]
  rw [mkW (k := 25) (n := 400) (by decide) rfl (fun s => by rw [q25]; exact h2 25 s (by decide) (by decide)) (fun s => hz 25 _ s (by decide) (by decide) (by decide)) (fun s => hlz _ _ _)]
  rw [mkW (k := 26) (n := 13) (by decide) rfl (fun s => by rw [q26]; exact h2 26 s (by decide) (by decide)) (fun s => hz 26 _ s (by decide) (by decide) (by decide)) (fun s => hlz _ _ _)]
  rw [mkW (k := 27) (n := 12) (by decide) rfl (fun s => by rw [q27]; exact h2 27 s (by decide) (by decide)) (fun s => hz 27 _ s (by decide) (by decide) (by decide)) (fun s => hlz _ _ _)]
  rw [mkW (k := 28) (n := 64) (by decide) rfl (fun s => by rw [q28]; exact h2 28 s (by decide) (by decide)) (fun s => hz 28 _ s (by decide) (by decide) (by decide)) (fun s => hlz _ _ _), wrT, all_up]
  rw [all_id (fun t => ?_)]
  rw [h1]
  match t with
  | 0 | 1 | 2 | 3 | 4 => rfl
  | t + 5 => rw [if_neg (by omega), if_neg (by omega), if_neg (by omega), if_neg (by omega), if_neg (by omega)]; rfl
theorem x_hInit (e1 : c 1 = 0) (e : ∀ k, 21 ≤ k → k ≤ 24 → c k = 0) (h2 : ∀ s, R 2 0 s = fx_rfs 0 none 2 0 s) (h1 : ∀ k s, k = 1 ∨ 21 ≤ k ∧ k ≤ 24 → R k 0 s = fx_rfs 0 none k 0 s) (hz : zI hi) (hlz : zL hl) : fx_Ga (d + 2) 22 [hO, gO 0] (c, lz L, fx_all R 2 0 (fun _ => none), hi, hl) none (cch c, lz L, R, hi, hl) := by
  have g1 := x_chaseZ (d := d) (L := L) (c := c) (R := fx_all R 2 0 (fun _ => none)) (hi := hi) (hl := hl) (fun k a b => (e k a b).trans e1.symm) (fun k s a => by rw [fx_all_ne _ _ (by omega), e1]; exact h1 k s a) hz hlz
  refine fx_meth fx_M22 [some hO, some (gO 0)] (by decide) rfl rfl (Nat.le_of_ble_eq_true rfl) (fx_wpE [] 60 ⟨_, _, g1, rfl, ?_⟩)
  show fx_wr (fx_wr (cch c, lz L, fx_all R 2 0 (fun _ => none), hi, hl) 2 0 2 (some (1, c 1))) 2 0 0 (some (7, 0)) = _
  rw [e1, wrA (s := 2), wrA (s := 0), all_id (fun t => ?_)]
  rw [h2]
  match t with
  | 0 | 1 | 2 => rfl
  | t + 3 => rw [if_neg (by omega), if_neg (by omega)]; rfl
theorem x_world {j : Nat} (eb : c 1 = fx_wb j) (en : fx_wn j = fx_wb j + 1) (e : ∀ k, 21 ≤ k → k ≤ 24 → c k = c 1) (e3 : c 3 = j) (e30 : ∀ k, 30 ≤ k → k ≤ 32 → c k = j) (e9 : c 9 = j) (h9 : ∀ s, R 9 j s = fx_rfs 0 none 9 j s) (h1 : ∀ k j s, k = 1 ∨ k = 3 ∨ 21 ≤ k ∧ k ≤ 24 ∨ 30 ≤ k ∧ k ≤ 32 → R k j s = fx_rfs 0 none k j s) (hz : zI hi) (hz9 : ∀ s, hi 9 j s = 0) (hlz : zL hl) : fx_Ga (d + 2) 84 [yO j] (fx_mk (c, lz L, R, hi, hl) 9 0) none (cno (cch (cch (cinc c 9))), lz L, R, fx_up hi 9 j 3 (-1), hl) := by
  rw [mkO (k := 9) (n := 0) rfl (fun s => by rw [e9]; exact hz9 s) (fun s => hlz 9 _ s), e9]
  have g1 := x_chaseZ (d := d) (L := L) (c := cinc c 9) (R := fx_all R 9 j (fun _ => none)) (hi := hi) (hl := hl) (fun k a b => by rw [cinc_ne (by omega), cinc_ne (by omega)]; exact e k a b) (fun k s a => by rw [fx_all_ne _ _ (by omega)]; exact h1 k _ s (by omega)) hz hlz
  have g2 := x_chaseZ (d := d) (L := L) (c := cch (cinc c 9)) (R := fx_up (fx_all R 9 j (fun _ => none)) 9 j 0 (some (1, c 1))) (hi := hi) (hl := hl) (fun k a b => by rw [cch_at (by omega), cch_at (by omega), cinc_ne (by omega), cinc_ne (by omega), e k a b]) (fun k s a => by rw [up_off _ _ (by omega), fx_all_ne _ _ (by omega)]; exact h1 k _ s (by omega)) hz hlz
  have g3 := x_notes (d := d) (L := L) (c := cch (cch (cinc c 9))) (R := fx_up (fx_up (fx_all R 9 j (fun _ => none)) 9 j 0 (some (1, c 1))) 9 j 1 (some (1, c 1 + 1))) (hi := hi) (hl := hl) (j := c 3) rfl (fun k a b => by rw [cch_ne (by omega), cch_ne (by omega), cinc_ne (by omega), e30 k a b, e3]) (fun s => by rw [up_off _ _ (by omega), up_off _ _ (by omega), fx_all_ne _ _ (by omega)]; exact h1 3 _ s (by omega)) (fun k s a b => by rw [up_off _ _ (by omega), up_off _ _ (by omega), fx_all_ne _ _ (by omega), h1 k _ s (by omega)]; rcases (show k = 30 ∨ k = 31 ∨ k = 32 by omega) with rfl | rfl | rfl <;> rfl) (fun k s a => ⟨hz k _ s (by omega) (by omega) (by omega), hlz k _ s⟩)
  refine fx_meth (d := d + 1) fx_M84 [some (yO j)] (by decide) rfl rfl (Nat.le_of_ble_eq_true rfl) (fx_wpE [] 80 ⟨_, _, g1, _, _, g2, _, _, g3, rfl, ?_⟩)
  show fx_wi (fx_wr (cno (cch (cch (cinc c 9))), lz L, fx_up (fx_up (fx_all R 9 j (fun _ => none)) 9 j 0 (some (1, c 1))) 9 j 1 (some (1, c 1 + 1)), hi, hl) 9 j 2 (some (3, c 3))) 9 j 3 (-1) = _
  rw [wrT, wiT, all_up, all_up, all_up, all_id (fun t => ?_)]
  rw [h9, eb, e3]
  match t with
  | 0 => rfl
  | 1 =>
    show some (1, fx_wb j + 1) = some (1, fx_wn j)
    rw [en]
  | 2 => rfl
  | t + 3 => rw [if_neg (by omega), if_neg (by omega), if_neg (by omega)]; rfl
theorem row_st (b i : Nat) : (fun s => if s < i + 1 then some (1, b + s) else none : Nat → Option fxR) = fun s => if s = i then some (1, b + i) else (fun s => if s < i then some (1, b + s) else none : Nat → Option fxR) s := by
  funext s
  dsimp only
  by_cases e : s = i
  · subst e
    rw [if_pos (by omega), if_pos rfl]
  · rw [if_neg e]
    by_cases e2 : s < i
    · rw [if_pos (by omega), if_pos e2]
    · rw [if_neg (by omega), if_neg e2]
end CU
