/-! constructors: what they leave -/
def cinc (c : Nat → Nat) (k : Nat) : Nat → Nat := fun a => if a = k then c k + 1 else c a
abbrev lz (L : Nat) : Nat → Nat → Nat := fx_lns L (fun _ => 0)
theorem all_id {α : Type} {f : Nat → Nat → Nat → α} {a b : Nat} {g : Nat → α} (h : ∀ s, g s = f a b s) : fx_all f a b g = f := by
  funext k j s
  by_cases e : k = a ∧ j = b
  · obtain ⟨rfl, rfl⟩ := e
    rw [fx_all_eq, h]
  · rw [fx_all_ne f _ e]
theorem all_up {α : Type} (f : Nat → Nat → Nat → α) (a b : Nat) (g : Nat → α) (s : Nat) (v : α) : fx_up (fx_all f a b g) a b s v = fx_all f a b (fun t => if t = s then v else g t) := by
  funext k j t
  by_cases e : k = a ∧ j = b
  · obtain ⟨rfl, rfl⟩ := e
    rw [fx_all_eq, fx_up_eq, fx_all_eq]
  · rw [fx_up_ne _ _ e, fx_all_ne _ _ e, fx_all_ne _ _ e]
theorem len_id {ln : Nat → Nat → Nat} {c : Nat → Nat} {k n : Nat} (h : ln k (c k) = n) : (fun a => if a = k then fun b => if b = c k then n else ln a b else ln a) = ln := by
  funext a b
  by_cases e : a = k
  · rw [if_pos e]
    by_cases e2 : b = c k
    · rw [if_pos e2, e, e2]
      exact h.symm
    · rw [if_neg e2]
  · rw [if_neg e]
section MKC
variable {c : Nat → Nat} {ln : Nat → Nat → Nat} {R : Nat → Nat → Nat → Option fxR} {hi : fxI3} {hl : fxL3} {k n : Nat}
theorem mkO (h1 : ln k (c k) = n) (h3 : ∀ s, hi k (c k) s = 0) (h4 : ∀ s, hl k (c k) s = 0) : fx_mk (c, ln, R, hi, hl) k n = (cinc c k, ln, fx_all R k (c k) (fun _ => none), hi, hl) := by
  unfold fx_mk
  dsimp only
  rw [len_id h1, all_id (fun s => (h3 s).symm), all_id (fun s => (h4 s).symm)]
  rfl
theorem mkA (h1 : ln k (c k) = n) (h2 : ∀ s, R k (c k) s = none) (h3 : ∀ s, hi k (c k) s = 0) (h4 : ∀ s, hl k (c k) s = 0) : fx_mk (c, ln, R, hi, hl) k n = (cinc c k, ln, R, hi, hl) := by
  rw [mkO h1 h3 h4, all_id (fun s => (h2 s).symm)]
theorem mkW {K j s : Nat} {v : Option fxR} {g : Nat → Option fxR} (h0 : k ≠ K) (h1 : ln k (c k) = n) (h2 : ∀ s, R k (c k) s = none) (h3 : ∀ s, hi k (c k) s = 0) (h4 : ∀ s, hl k (c k) s = 0) : fx_wr (fx_mk (c, ln, fx_all R K j g, hi, hl) k n) K j s v = (cinc c k, ln, fx_all R K j (fun t => if t = s then v else g t), hi, hl) := by
  rw [mkA h1 (fun s => by rw [fx_all_ne _ _ (fun z => h0 z.1)]; exact h2 s) h3 h4, ← all_up]
  rfl
theorem wrA {K j s : Nat} {v : Option fxR} {g : Nat → Option fxR} : fx_wr (c, ln, fx_all R K j g, hi, hl) K j s v = (c, ln, fx_all R K j (fun t => if t = s then v else g t), hi, hl) := by
  rw [← all_up]
  rfl
theorem wrT {j s : Nat} {v : Option fxR} : fx_wr (c, ln, R, hi, hl) k j s v = (c, ln, fx_up R k j s v, hi, hl) := rfl
theorem wiT {j s : Nat} {v : Int32} : fx_wi (c, ln, R, hi, hl) k j s v = (c, ln, R, fx_up hi k j s v, hl) := rfl
end MKC
theorem rfs1 (j t : Nat) : (if t = 10 then some (24, j) else if t = 9 then some (23, j) else if t = 8 then some (22, j) else if t = 7 then some (21, j) else none : Option fxR) = fx_rfs 0 none 1 j t := by
  match t with
  | 0 | 1 | 2 | 3 | 4 | 5 | 6 | 7 | 8 | 9 | 10 => rfl
  | t + 11 => rw [if_neg (by omega), if_neg (by omega), if_neg (by omega), if_neg (by omega)]; rfl
theorem rfs3 (j t : Nat) : (if t = 3 then some (32, j) else if t = 2 then some (31, j) else if t = 1 then some (30, j) else none : Option fxR) = fx_rfs 0 none 3 j t := by
  match t with
  | 0 | 1 | 2 | 3 => rfl
  | t + 4 => rw [if_neg (by omega), if_neg (by omega), if_neg (by omega)]; rfl
section CT
variable {d L : Nat} {c : Nat → Nat} {R : Nat → Nat → Nat → Option fxR} {hi : fxI3} {hl : fxL3}
/-- one chase more -/
def cch (c : Nat → Nat) : Nat → Nat := cinc (cinc (cinc (cinc (cinc c 1) 21) 22) 23) 24
theorem x_chase {j : Nat} (e1 : c 1 = j) (e : ∀ k, 21 ≤ k → k ≤ 24 → c k = j) (h1 : ∀ s, R 1 j s = fx_rfs 0 none 1 j s) (h2 : ∀ k s, 21 ≤ k → k ≤ 24 → R k j s = none) (h3 : ∀ k s, k = 1 ∨ 21 ≤ k ∧ k ≤ 24 → hi k j s = 0 ∧ hl k j s = 0) : fx_Ga (d + 1) 4 [cO j] (fx_mk (c, lz L, R, hi, hl) 1 0) none (cch c, lz L, R, hi, hl) := by
  rw [mkO (k := 1) (n := 0) rfl (fun s => by rw [e1]; exact (h3 1 s (Or.inl rfl)).1) (fun s => by rw [e1]; exact (h3 1 s (Or.inl rfl)).2), e1]
  refine fx_meth fx_M4 [some (cO j)] (by decide) rfl rfl (Nat.le_of_ble_eq_true rfl) (fx_wpE [] 60 ⟨rfl, ?_⟩)
  show fx_wr (fx_mk (fx_wr (fx_mk (fx_wr (fx_mk (fx_wr (fx_mk (cinc c 1, lz L, fx_all R 1 j (fun _ => none), hi, hl) 21 6) 1 j 7 (some (21, c 21))) 22 6) 1 j 8 (some (22, c 22))) 23 6) 1 j 9 (some (23, c 23))) 24 6) 1 j 10 (some (24, c 24)) = _
  rw [e 21 (by decide) (by decide), e 22 (by decide) (by decide), e 23 (by decide) (by decide), e 24 (by decide) (by decide)]
  have q21 : cinc c 1 21 = j := e 21 (by decide) (by decide)
  have q22 : cinc (cinc c 1) 21 22 = j := e 22 (by decide) (by decide)
  have q23 : cinc (cinc (cinc c 1) 21) 22 23 = j := e 23 (by decide) (by decide)
  have q24 : cinc (cinc (cinc (cinc c 1) 21) 22) 23 24 = j := e 24 (by decide) (by decide)
  rw [mkW (k := 21) (n := 6) (by decide) rfl (fun s => by rw [q21]; exact h2 21 s (by decide) (by decide)) (fun s => by rw [q21]; exact (h3 21 s (by omega)).1) (fun s => by rw [q21]; exact (h3 21 s (by omega)).2)]
  rw [mkW (k := 22) (n := 6) (by decide) rfl (fun s => by rw [q22]; exact h2 22 s (by decide) (by decide)) (fun s => by rw [q22]; exact (h3 22 s (by omega)).1) (fun s => by rw [q22]; exact (h3 22 s (by omega)).2)]
  rw [mkW (k := 23) (n := 6) (by decide) rfl (fun s => by rw [q23]; exact h2 23 s (by decide) (by decide)) (fun s => by rw [q23]; exact (h3 23 s (by omega)).1) (fun s => by rw [q23]; exact (h3 23 s (by omega)).2)]
  rw [mkW (k := 24) (n := 6) (by decide) rfl (fun s => by rw [q24]; exact h2 24 s (by decide) (by decide)) (fun s => by rw [q24]; exact (h3 24 s (by omega)).1) (fun s => by rw [q24]; exact (h3 24 s (by omega)).2)]
  rw [all_id (fun t => (rfs1 j t).trans (h1 t).symm)]
  rfl
/-- one row of notes more -/
def cno (c : Nat → Nat) : Nat → Nat := cinc (cinc (cinc (cinc c 3) 30) 31) 32
theorem x_notes {j : Nat} (e1 : c 3 = j) (e : ∀ k, 30 ≤ k → k ≤ 32 → c k = j) (h1 : ∀ s, R 3 j s = fx_rfs 0 none 3 j s) (h2 : ∀ k s, 30 ≤ k → k ≤ 32 → R k j s = none) (h3 : ∀ k s, k = 3 ∨ 30 ≤ k ∧ k ≤ 32 → hi k j s = 0 ∧ hl k j s = 0) : fx_Ga (d + 1) 29 [nO j] (fx_mk (c, lz L, R, hi, hl) 3 0) none (cno c, lz L, R, hi, hl) := by
  rw [mkO (k := 3) (n := 0) rfl (fun s => by rw [e1]; exact (h3 3 s (Or.inl rfl)).1) (fun s => by rw [e1]; exact (h3 3 s (Or.inl rfl)).2), e1]
  refine fx_meth fx_M29 [some (nO j)] (by decide) rfl rfl (Nat.le_of_ble_eq_true rfl) (fx_wpE [] 60 ⟨rfl, ?_⟩)
  show fx_wr (fx_mk (fx_wr (fx_mk (fx_wr (fx_mk (cinc c 3, lz L, fx_all R 3 j (fun _ => none), hi, hl) 30 10) 3 j 1 (some (30, c 30))) 31 10) 3 j 2 (some (31, c 31))) 32 10) 3 j 3 (some (32, c 32)) = _
  rw [e 30 (by decide) (by decide), e 31 (by decide) (by decide), e 32 (by decide) (by decide)]
  have q30 : cinc c 3 30 = j := e 30 (by decide) (by decide)
  have q31 : cinc (cinc c 3) 30 31 = j := e 31 (by decide) (by decide)
  have q32 : cinc (cinc (cinc c 3) 30) 31 32 = j := e 32 (by decide) (by decide)
  rw [mkW (k := 30) (n := 10) (by decide) rfl (fun s => by rw [q30]; exact h2 30 s (by decide) (by decide)) (fun s => by rw [q30]; exact (h3 30 s (by omega)).1) (fun s => by rw [q30]; exact (h3 30 s (by omega)).2)]
  rw [mkW (k := 31) (n := 10) (by decide) rfl (fun s => by rw [q31]; exact h2 31 s (by decide) (by decide)) (fun s => by rw [q31]; exact (h3 31 s (by omega)).1) (fun s => by rw [q31]; exact (h3 31 s (by omega)).2)]
  rw [mkW (k := 32) (n := 10) (by decide) rfl (fun s => by rw [q32]; exact h2 32 s (by decide) (by decide)) (fun s => by rw [q32]; exact (h3 32 s (by omega)).1) (fun s => by rw [q32]; exact (h3 32 s (by omega)).2)]
  rw [all_id (fun t => (rfs3 j t).trans (h1 t).symm)]
  rfl
end CT
