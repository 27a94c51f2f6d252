/-! constructors: the class, the reference (by wip/whole/gen_ctor.py) -/
def gK (K m : Nat) : Nat → Option fxR := fun t => if t ≤ m then fx_rfs 0 none K 0 t else none
theorem gK_up {K m m' : Nat} {v : Option fxR} (hm : m < m') (hv : fx_rfs 0 none K 0 m' = v) (hn : ∀ t, m < t → t < m' → fx_rfs 0 none K 0 t = none) : (fun t => if t = m' then v else gK K m t) = gK K m' := by
  funext t
  unfold gK
  by_cases e : t = m'
  · rw [if_pos e, if_pos (by omega), e, hv]
  · rw [if_neg e]
    by_cases a : t ≤ m
    · rw [if_pos a, if_pos (by omega)]
    · rw [if_neg a]
      by_cases b : t ≤ m'
      · rw [if_pos b, hn t (by omega) (by omega)]
      · rw [if_neg b]
theorem gK_0 {K : Nat} {v : Option fxR} (hv : fx_rfs 0 none K 0 0 = v) : (fun t => if t = 0 then v else (fun _ => none : Nat → Option fxR) t) = gK K 0 := by
  funext t
  unfold gK
  by_cases e : t = 0
  · rw [if_pos e, if_pos (by omega), e, hv]
  · rw [if_neg e, if_neg (by omega)]
theorem up_cm {α : Type} {f : Nat → Nat → Nat → α} {a b k j s : Nat} {g : Nat → α} {v : α} (h : ¬ (k = a ∧ j = b)) : fx_up (fx_all f a b g) k j s v = fx_all (fx_up f k j s v) a b g := by
  funext x y z
  by_cases e : x = a ∧ y = b
  · obtain ⟨rfl, rfl⟩ := e
    rw [up_off _ _ (by omega), fx_all_eq, fx_all_eq]
  · rw [fx_all_ne _ _ e]
    by_cases e2 : x = k ∧ y = j ∧ z = s
    · obtain ⟨rfl, rfl, rfl⟩ := e2
      rw [up_at, up_at]
    · rw [up_off _ _ e2, up_off _ _ e2, fx_all_ne _ _ e]
theorem rfs_hi (k j t : Nat) (hk : k = 10 ∨ k = 11) : fx_rfs 0 none k j (t + 40) = none := by
  rcases hk with rfl | rfl <;> rfl
theorem stA0 {L K k n : Nat} {c : Nat → Nat} {hi : fxI3} {hl : fxL3} (ek : c k = 0) (hK : k ≠ K) (h1 : lz L k 0 = n) (h2 : ∀ s, fx_rfs 0 none k 0 s = none) (h3 : ∀ s, hi k 0 s = 0) (h4 : ∀ s, hl k 0 s = 0) (hv : fx_rfs 0 none K 0 0 = some (k, 0)) : fx_wr (fx_mk (c, lz L, fx_all (fx_rfs 0 none) K 0 (fun _ => none), hi, hl) k n) K 0 0 (some (k, 0)) = (cinc c k, lz L, fx_all (fx_rfs 0 none) K 0 (gK K 0), hi, hl) := by
  rw [mkW hK (by rw [ek]; exact h1) (fun s => by rw [ek]; exact h2 s) (fun s => by rw [ek]; exact h3 s) (fun s => by rw [ek]; exact h4 s), gK_0 hv]
theorem stA {L K m m' k n : Nat} {c : Nat → Nat} {hi : fxI3} {hl : fxL3} (ek : c k = 0) (hK : k ≠ K) (h1 : lz L k 0 = n) (h2 : ∀ s, fx_rfs 0 none k 0 s = none) (h3 : ∀ s, hi k 0 s = 0) (h4 : ∀ s, hl k 0 s = 0) (hm : m < m') (hv : fx_rfs 0 none K 0 m' = some (k, 0)) (hn : ∀ t, m < t → t < m' → fx_rfs 0 none K 0 t = none) : fx_wr (fx_mk (c, lz L, fx_all (fx_rfs 0 none) K 0 (gK K m), hi, hl) k n) K 0 m' (some (k, 0)) = (cinc c k, lz L, fx_all (fx_rfs 0 none) K 0 (gK K m'), hi, hl) := by
  rw [mkW hK (by rw [ek]; exact h1) (fun s => by rw [ek]; exact h2 s) (fun s => by rw [ek]; exact h3 s) (fun s => by rw [ek]; exact h4 s), gK_up hm hv hn]
theorem stO {ln : Nat → Nat → Nat} {K m m' : Nat} {c : Nat → Nat} {hi : fxI3} {hl : fxL3} {v : Option fxR} (hm : m < m') (hv : fx_rfs 0 none K 0 m' = v) (hn : ∀ t, m < t → t < m' → fx_rfs 0 none K 0 t = none) : fx_wr (c, ln, fx_all (fx_rfs 0 none) K 0 (gK K m), hi, hl) K 0 m' v = (c, ln, fx_all (fx_rfs 0 none) K 0 (gK K m'), hi, hl) := by
  rw [wrA, gK_up hm hv hn]
theorem stP {ln : Nat → Nat → Nat} {K m m' : Nat} {c : Nat → Nat} {hi : fxI3} {hl : fxL3} {v : Option fxR} {g : Nat → Option fxR} (hK : K ≠ 33) (hm : m < m') (hv : fx_rfs 0 none K 0 m' = v) (hn : ∀ t, m < t → t < m' → fx_rfs 0 none K 0 t = none) : fx_wr (c, ln, fx_all (fx_all (fx_rfs 0 none) K 0 (gK K m)) 33 0 g, hi, hl) K 0 m' v = (c, ln, fx_all (fx_all (fx_rfs 0 none) K 0 (gK K m')) 33 0 g, hi, hl) := by
  rw [wrT, up_cm (by omega), all_up, gK_up hm hv hn]
theorem stB {L K m m' k n : Nat} {c : Nat → Nat} {hi : fxI3} {hl : fxL3} {g : Nat → Option fxR} (ek : c k = 0) (hK : k ≠ K) (hK3 : K ≠ 33) (hk3 : k ≠ 33) (h1 : lz L k 0 = n) (h2 : ∀ s, fx_rfs 0 none k 0 s = none) (h3 : ∀ s, hi k 0 s = 0) (h4 : ∀ s, hl k 0 s = 0) (hm : m < m') (hv : fx_rfs 0 none K 0 m' = some (k, 0)) (hn : ∀ t, m < t → t < m' → fx_rfs 0 none K 0 t = none) : fx_wr (fx_mk (c, lz L, fx_all (fx_all (fx_rfs 0 none) K 0 (gK K m)) 33 0 g, hi, hl) k n) K 0 m' (some (k, 0)) = (cinc c k, lz L, fx_all (fx_all (fx_rfs 0 none) K 0 (gK K m')) 33 0 g, hi, hl) := by
  rw [mkA (by rw [ek]; exact h1) (fun s => by rw [ek, fx_all_ne _ _ (by omega), fx_all_ne _ _ (by omega)]; exact h2 s) (fun s => by rw [ek]; exact h3 s) (fun s => by rw [ek]; exact h4 s)]
  exact stP hK3 hm hv hn
theorem stC {L K m m' : Nat} {c : Nat → Nat} {hi : fxI3} {hl : fxL3} (ek : c 33 = 0) (hK3 : K ≠ 33) (h3 : ∀ s, hi 33 0 s = 0) (h4 : ∀ s, hl 33 0 s = 0) (hm : m < m') (hv : fx_rfs 0 none K 0 m' = some (33, 0)) (hn : ∀ t, m < t → t < m' → fx_rfs 0 none K 0 t = none) : fx_wr (fx_mk (c, lz L, fx_all (fx_rfs 0 none) K 0 (gK K m), hi, hl) 33 4) K 0 m' (some (33, 0)) = (cinc c 33, lz L, fx_all (fx_all (fx_rfs 0 none) K 0 (gK K m')) 33 0 (fun _ => none), hi, hl) := by
  rw [mkOj (k := 33) (n := 4) (j := 0) ek rfl h3 h4]
  exact stP hK3 hm hv hn
def cnt0 : Nat → Nat := fun k => match k with
  | 90 => 1
  | 91 => 1
  | 92 => 18
  | _ => 0
def int0 (sc : Nat → Int32) : fxI3 := fun k _ s => if k = 90 then sc s else if k = 91 then fx_binds s else 0
abbrev R0 : Nat → Nat → Nat → Option fxR := fx_rfs 0 none
abbrev tH (L : Nat) (c : Nat → Nat) (R : Nat → Nat → Nat → Option fxR) (hi : fxI3) : fxH := (c, lz L, R, hi, fun _ _ _ => 0)
theorem zI_0 (sc : Nat → Int32) : zI (int0 sc) := fun k j s _ _ h => by
  unfold int0
  rw [if_neg (by omega), if_neg (by omega)]
theorem zI_up {hi : fxI3} {k j s : Nat} {v : Int32} (h : zI hi) (hk : k = 8 ∨ k = 9) : zI (fx_up hi k j s v) := fun a b t h1 h2 h3 => (up_off _ _ (by omega)).trans (h a b t h1 h2 h3)
theorem zL_0 : zL (fun _ _ _ => 0) := fun _ _ _ => rfl
/-- one world more -/
def cwo (c : Nat → Nat) : Nat → Nat := cno (cch (cch (cinc c 9)))
def k1 : Nat → Nat := cinc cnt0 10
def k2 : Nat → Nat := cinc k1 20
def k3 : Nat → Nat := cch (cinc (cinc k2 2) 7)
def k4 : Nat → Nat := cinc (cinc (cinc (cinc (cinc (cinc k3 6) 7) 25) 26) 27) 28
def k5 : Nat → Nat := cinc k4 29
def k6 : Nat → Nat := cwo k5
def k7 : Nat → Nat := cinc k6 33
def k8 : Nat → Nat := cinc k7 34
def k9 : Nat → Nat := cchN (cinc (cinc k8 0) 35) 20
def k10 : Nat → Nat := cinc (cinc (cinc (cinc k9 8) 36) 37) 38
def k11 : Nat → Nat := cch k10
def k12 : Nat → Nat := cchN (cinc (cinc k11 4) 39) 5
def k13 : Nat → Nat := cinc k12 40
def k14 : Nat → Nat := cinc k13 41
def k15 : Nat → Nat := cinc k14 42
def k16 : Nat → Nat := cinc k15 43
def k17 : Nat → Nat := cinc k16 44
def k18 : Nat → Nat → Nat
  | 0 => k17
  | i + 1 => cwo (k18 i)

section CW
variable {d L : Nat} {sc : Nat → Int32}

def iW (sc : Nat → Int32) : Nat → fxI3
  | 0 => fx_up (fx_up (int0 sc) 9 0 3 (-1)) 8 0 3 (-1)
  | i + 1 => fx_up (iW sc i) 9 (i + 1) 3 (-1)
theorem zI_W : ∀ i, zI (iW sc i)
  | 0 => zI_up (zI_up (zI_0 sc) (Or.inr rfl)) (Or.inl rfl)
  | i + 1 => zI_up (zI_W i) (Or.inr rfl)
theorem iW_9 : ∀ i j s, i < j → iW sc i 9 j s = 0
  | 0, j, s, h => by
    show fx_up (fx_up (int0 sc) 9 0 3 (-1)) 8 0 3 (-1) 9 j s = 0
    rw [up_off _ _ (by omega), up_off _ _ (by omega)]
    rfl
  | i + 1, j, s, h => by
    show fx_up (iW sc i) 9 (i + 1) 3 (-1) 9 j s = 0
    rw [up_off _ _ (by omega)]
    exact iW_9 i j s (by omega)

set_option maxRecDepth 100000 in
set_option maxHeartbeats 8000000 in
theorem x_fox : fx_Ga (d + 3) 86 [xO] (fx_mk (tH L cnt0 R0 (int0 sc)) 10 0) none (tH L (k18 4) R0 (iW sc 4)) := by
  rw [mkOj (k := 10) (n := 0) (j := 0) rfl rfl (fun s => zI_0 sc 10 0 s (by decide) (by decide) (by decide)) (fun s => rfl)]
  have fin33 : fx_all (fx_all R0 10 0 (gK 10 17)) 33 0 (fun s => if s < 4 then some (9, s + 1) else none) = R0 := by
    have q : fx_all R0 10 0 (gK 10 17) = R0 := all_id (fun t => by
      unfold gK
      by_cases a : t ≤ 17
      · rw [if_pos a]
      · rw [if_neg a]
        obtain ⟨t', rfl⟩ : ∃ t', t = t' + 18 := ⟨t - 18, by omega⟩
        rfl)
    rw [q]
    exact all_id (fun s => by
      show _ = (bif Nat.blt s 4 then some (9, s + 1) else none)
      by_cases hs : s < 4
      · rw [if_pos hs, (Nat.blt_eq).mpr hs]
        rfl
      · rw [if_neg hs, Bool.eq_false_iff.mpr (fun z => hs ((Nat.blt_eq).mp z))]
        rfl)
  have s4 : fx_E (fx_Ga (d + 2)) fx_M86 (182, [some xO, some (vi (nI 4))], [], tH L (k18 4) (fx_all (fx_all R0 10 0 (gK 10 17)) 33 0 (fun s => if s < 4 then some (9, s + 1) else none)) (iW sc 4), 235, 2652) (fun r2 h2 => r2 = none ∧ h2 = tH L (k18 4) R0 (iW sc 4)) := by
    rw [fin33]
    exact fx_wpL [182] 20 (pk_le 4 4 (fun _ => ⟨rfl, rfl⟩) (fun h => by omega))
  have s3 : fx_E (fx_Ga (d + 2)) fx_M86 (182, [some xO, some (vi (nI 3))], [], tH L (k18 3) (fx_all (fx_all R0 10 0 (gK 10 17)) 33 0 (fun s => if s < 3 then some (9, s + 1) else none)) (iW sc 3), 220, 2543) (fun r2 h2 => r2 = none ∧ h2 = tH L (k18 4) R0 (iW sc 4)) := by
    have g := x_world (d := d) (L := L) (c := k18 3) (R := (fx_all (fx_all R0 10 0 (gK 10 17)) 33 0 (fun s => if s < 3 then some (9, s + 1) else none))) (hi := iW sc 3) (hl := fun _ _ _ => 0) (j := 4) (by decide +kernel) rfl (fun k a b => by rcases (show k = 21 ∨ k = 22 ∨ k = 23 ∨ k = 24 by omega) with rfl | rfl | rfl | rfl <;> decide +kernel) (by decide +kernel) (fun k a b => by rcases (show k = 30 ∨ k = 31 ∨ k = 32 by omega) with rfl | rfl | rfl <;> decide +kernel) (by decide +kernel) (fun s => by rw [fx_all_ne _ _ (by omega), fx_all_ne _ _ (by omega)]) (fun k j s a => by rw [fx_all_ne _ _ (by omega), fx_all_ne _ _ (by omega)]) (zI_W 3) (fun s => iW_9 3 4 s (by decide)) zL_0
    have at199 : fx_E (fx_Ga (d + 2)) fx_M86 (199, [some xO, some (vi (nI 3))], [yO 4, vi (nI 3), .inr (.inr (some (33, 0)))], (cno (cch (cch (cinc (k18 3) 9))), lz L, (fx_all (fx_all R0 10 0 (gK 10 17)) 33 0 (fun s => if s < 3 then some (9, s + 1) else none)), fx_up (iW sc 3) 9 4 3 (-1), fun _ _ _ => 0), 235, 2652) (fun r2 h2 => r2 = none ∧ h2 = tH L (k18 4) R0 (iW sc 4)) := by
      refine fx_E_step (i := .aastore) rfl rfl rfl rfl ?_
      have e : fx_wr (cno (cch (cch (cinc (k18 3) 9))), lz L, (fx_all (fx_all R0 10 0 (gK 10 17)) 33 0 (fun s => if s < 3 then some (9, s + 1) else none)), fx_up (iW sc 3) 9 4 3 (-1), fun _ _ _ => 0) 33 0 (nI 3).toNatClampNeg (some (9, 4)) = tH L (k18 4) (fx_all (fx_all R0 10 0 (gK 10 17)) 33 0 (fun s => if s < 4 then some (9, s + 1) else none)) (iW sc 4) := by
        rw [wrT, nI_clamp (by decide), all_up]
        have q : (fun t => if t = 3 then some (9, 4) else if t < 3 then some (9, t + 1) else none : Nat → Option fxR) = fun s => if s < 4 then some (9, s + 1) else none := by
          funext t
          by_cases a : t = 3
          · rw [if_pos a, if_pos (by omega), a]
          · rw [if_neg a]
            by_cases b : t < 3
            · rw [if_pos b, if_pos (by omega)]
            · rw [if_neg b, if_neg (by omega)]
        rw [q]
        rfl
      rw [e]
      exact fx_wpE [182] 10 s4
    exact fx_wpL [182, 199] 40 (pk_le 4 3 (fun h => by omega) (fun _ => ⟨_, _, g, at199⟩))
  have s2 : fx_E (fx_Ga (d + 2)) fx_M86 (182, [some xO, some (vi (nI 2))], [], tH L (k18 2) (fx_all (fx_all R0 10 0 (gK 10 17)) 33 0 (fun s => if s < 2 then some (9, s + 1) else none)) (iW sc 2), 205, 2434) (fun r2 h2 => r2 = none ∧ h2 = tH L (k18 4) R0 (iW sc 4)) := by
    have g := x_world (d := d) (L := L) (c := k18 2) (R := (fx_all (fx_all R0 10 0 (gK 10 17)) 33 0 (fun s => if s < 2 then some (9, s + 1) else none))) (hi := iW sc 2) (hl := fun _ _ _ => 0) (j := 3) (by decide +kernel) rfl (fun k a b => by rcases (show k = 21 ∨ k = 22 ∨ k = 23 ∨ k = 24 by omega) with rfl | rfl | rfl | rfl <;> decide +kernel) (by decide +kernel) (fun k a b => by rcases (show k = 30 ∨ k = 31 ∨ k = 32 by omega) with rfl | rfl | rfl <;> decide +kernel) (by decide +kernel) (fun s => by rw [fx_all_ne _ _ (by omega), fx_all_ne _ _ (by omega)]) (fun k j s a => by rw [fx_all_ne _ _ (by omega), fx_all_ne _ _ (by omega)]) (zI_W 2) (fun s => iW_9 2 3 s (by decide)) zL_0
    have at199 : fx_E (fx_Ga (d + 2)) fx_M86 (199, [some xO, some (vi (nI 2))], [yO 3, vi (nI 2), .inr (.inr (some (33, 0)))], (cno (cch (cch (cinc (k18 2) 9))), lz L, (fx_all (fx_all R0 10 0 (gK 10 17)) 33 0 (fun s => if s < 2 then some (9, s + 1) else none)), fx_up (iW sc 2) 9 3 3 (-1), fun _ _ _ => 0), 220, 2543) (fun r2 h2 => r2 = none ∧ h2 = tH L (k18 4) R0 (iW sc 4)) := by
      refine fx_E_step (i := .aastore) rfl rfl rfl rfl ?_
      have e : fx_wr (cno (cch (cch (cinc (k18 2) 9))), lz L, (fx_all (fx_all R0 10 0 (gK 10 17)) 33 0 (fun s => if s < 2 then some (9, s + 1) else none)), fx_up (iW sc 2) 9 3 3 (-1), fun _ _ _ => 0) 33 0 (nI 2).toNatClampNeg (some (9, 3)) = tH L (k18 3) (fx_all (fx_all R0 10 0 (gK 10 17)) 33 0 (fun s => if s < 3 then some (9, s + 1) else none)) (iW sc 3) := by
        rw [wrT, nI_clamp (by decide), all_up]
        have q : (fun t => if t = 2 then some (9, 3) else if t < 2 then some (9, t + 1) else none : Nat → Option fxR) = fun s => if s < 3 then some (9, s + 1) else none := by
          funext t
          by_cases a : t = 2
          · rw [if_pos a, if_pos (by omega), a]
          · rw [if_neg a]
            by_cases b : t < 2
            · rw [if_pos b, if_pos (by omega)]
            · rw [if_neg b, if_neg (by omega)]
        rw [q]
        rfl
      rw [e]
      exact fx_wpE [182] 10 s3
    exact fx_wpL [182, 199] 40 (pk_le 4 2 (fun h => by omega) (fun _ => ⟨_, _, g, at199⟩))
  have s1 : fx_E (fx_Ga (d + 2)) fx_M86 (182, [some xO, some (vi (nI 1))], [], tH L (k18 1) (fx_all (fx_all R0 10 0 (gK 10 17)) 33 0 (fun s => if s < 1 then some (9, s + 1) else none)) (iW sc 1), 190, 2325) (fun r2 h2 => r2 = none ∧ h2 = tH L (k18 4) R0 (iW sc 4)) := by
    have g := x_world (d := d) (L := L) (c := k18 1) (R := (fx_all (fx_all R0 10 0 (gK 10 17)) 33 0 (fun s => if s < 1 then some (9, s + 1) else none))) (hi := iW sc 1) (hl := fun _ _ _ => 0) (j := 2) (by decide +kernel) rfl (fun k a b => by rcases (show k = 21 ∨ k = 22 ∨ k = 23 ∨ k = 24 by omega) with rfl | rfl | rfl | rfl <;> decide +kernel) (by decide +kernel) (fun k a b => by rcases (show k = 30 ∨ k = 31 ∨ k = 32 by omega) with rfl | rfl | rfl <;> decide +kernel) (by decide +kernel) (fun s => by rw [fx_all_ne _ _ (by omega), fx_all_ne _ _ (by omega)]) (fun k j s a => by rw [fx_all_ne _ _ (by omega), fx_all_ne _ _ (by omega)]) (zI_W 1) (fun s => iW_9 1 2 s (by decide)) zL_0
    have at199 : fx_E (fx_Ga (d + 2)) fx_M86 (199, [some xO, some (vi (nI 1))], [yO 2, vi (nI 1), .inr (.inr (some (33, 0)))], (cno (cch (cch (cinc (k18 1) 9))), lz L, (fx_all (fx_all R0 10 0 (gK 10 17)) 33 0 (fun s => if s < 1 then some (9, s + 1) else none)), fx_up (iW sc 1) 9 2 3 (-1), fun _ _ _ => 0), 205, 2434) (fun r2 h2 => r2 = none ∧ h2 = tH L (k18 4) R0 (iW sc 4)) := by
      refine fx_E_step (i := .aastore) rfl rfl rfl rfl ?_
      have e : fx_wr (cno (cch (cch (cinc (k18 1) 9))), lz L, (fx_all (fx_all R0 10 0 (gK 10 17)) 33 0 (fun s => if s < 1 then some (9, s + 1) else none)), fx_up (iW sc 1) 9 2 3 (-1), fun _ _ _ => 0) 33 0 (nI 1).toNatClampNeg (some (9, 2)) = tH L (k18 2) (fx_all (fx_all R0 10 0 (gK 10 17)) 33 0 (fun s => if s < 2 then some (9, s + 1) else none)) (iW sc 2) := by
        rw [wrT, nI_clamp (by decide), all_up]
        have q : (fun t => if t = 1 then some (9, 2) else if t < 1 then some (9, t + 1) else none : Nat → Option fxR) = fun s => if s < 2 then some (9, s + 1) else none := by
          funext t
          by_cases a : t = 1
          · rw [if_pos a, if_pos (by omega), a]
          · rw [if_neg a]
            by_cases b : t < 1
            · rw [if_pos b, if_pos (by omega)]
            · rw [if_neg b, if_neg (by omega)]
        rw [q]
        rfl
      rw [e]
      exact fx_wpE [182] 10 s2
    exact fx_wpL [182, 199] 40 (pk_le 4 1 (fun h => by omega) (fun _ => ⟨_, _, g, at199⟩))
  have s0 : fx_E (fx_Ga (d + 2)) fx_M86 (182, [some xO, some (vi (nI 0))], [], tH L (k18 0) (fx_all (fx_all R0 10 0 (gK 10 17)) 33 0 (fun s => if s < 0 then some (9, s + 1) else none)) (iW sc 0), 175, 2216) (fun r2 h2 => r2 = none ∧ h2 = tH L (k18 4) R0 (iW sc 4)) := by
    have g := x_world (d := d) (L := L) (c := k18 0) (R := (fx_all (fx_all R0 10 0 (gK 10 17)) 33 0 (fun s => if s < 0 then some (9, s + 1) else none))) (hi := iW sc 0) (hl := fun _ _ _ => 0) (j := 1) (by decide +kernel) rfl (fun k a b => by rcases (show k = 21 ∨ k = 22 ∨ k = 23 ∨ k = 24 by omega) with rfl | rfl | rfl | rfl <;> decide +kernel) (by decide +kernel) (fun k a b => by rcases (show k = 30 ∨ k = 31 ∨ k = 32 by omega) with rfl | rfl | rfl <;> decide +kernel) (by decide +kernel) (fun s => by rw [fx_all_ne _ _ (by omega), fx_all_ne _ _ (by omega)]) (fun k j s a => by rw [fx_all_ne _ _ (by omega), fx_all_ne _ _ (by omega)]) (zI_W 0) (fun s => iW_9 0 1 s (by decide)) zL_0
    have at199 : fx_E (fx_Ga (d + 2)) fx_M86 (199, [some xO, some (vi (nI 0))], [yO 1, vi (nI 0), .inr (.inr (some (33, 0)))], (cno (cch (cch (cinc (k18 0) 9))), lz L, (fx_all (fx_all R0 10 0 (gK 10 17)) 33 0 (fun s => if s < 0 then some (9, s + 1) else none)), fx_up (iW sc 0) 9 1 3 (-1), fun _ _ _ => 0), 190, 2325) (fun r2 h2 => r2 = none ∧ h2 = tH L (k18 4) R0 (iW sc 4)) := by
      refine fx_E_step (i := .aastore) rfl rfl rfl rfl ?_
      have e : fx_wr (cno (cch (cch (cinc (k18 0) 9))), lz L, (fx_all (fx_all R0 10 0 (gK 10 17)) 33 0 (fun s => if s < 0 then some (9, s + 1) else none)), fx_up (iW sc 0) 9 1 3 (-1), fun _ _ _ => 0) 33 0 (nI 0).toNatClampNeg (some (9, 1)) = tH L (k18 1) (fx_all (fx_all R0 10 0 (gK 10 17)) 33 0 (fun s => if s < 1 then some (9, s + 1) else none)) (iW sc 1) := by
        rw [wrT, nI_clamp (by decide), all_up]
        have q : (fun t => if t = 0 then some (9, 1) else if t < 0 then some (9, t + 1) else none : Nat → Option fxR) = fun s => if s < 1 then some (9, s + 1) else none := by
          funext t
          by_cases a : t = 0
          · rw [if_pos a, if_pos (by omega), a]
          · rw [if_neg a]
            by_cases b : t < 0
            · rw [if_pos b, if_pos (by omega)]
            · rw [if_neg b, if_neg (by omega)]
        rw [q]
        rfl
      rw [e]
      exact fx_wpE [182] 10 s1
    exact fx_wpL [182, 199] 40 (pk_le 4 0 (fun h => by omega) (fun _ => ⟨_, _, g, at199⟩))
  have z33 : (fun s => if s < 0 then some (9, s + 1) else none : Nat → Option fxR) = fun _ => none := by
    funext s
    rw [if_neg (Nat.not_lt_zero s)]
  rw [z33] at s0
  have t180 : fx_E (fx_Ga (d + 2)) fx_M86 (180, [some xO, none], [], tH L k17 (fx_all (fx_all R0 10 0 (gK 10 17)) 33 0 (fun _ => none)) (fx_up (fx_up (int0 sc) 9 0 3 (-1)) 8 0 3 (-1)), 175, 2216) (fun r2 h2 => r2 = none ∧ h2 = tH L (k18 4) R0 (iW sc 4)) := fx_wpE [182] 10 s0
  have t172 : fx_E (fx_Ga (d + 2)) fx_M86 (172, [some xO, none], [], tH L k16 (fx_all (fx_all R0 10 0 (gK 10 16)) 33 0 (fun _ => none)) (fx_up (fx_up (int0 sc) 9 0 3 (-1)) 8 0 3 (-1)), 174, 2174) (fun r2 h2 => r2 = none ∧ h2 = tH L (k18 4) R0 (iW sc 4)) := by
    have e : fx_wr (fx_mk (tH L k16 (fx_all (fx_all R0 10 0 (gK 10 16)) 33 0 (fun _ => none)) (fx_up (fx_up (int0 sc) 9 0 3 (-1)) 8 0 3 (-1))) 44 42) 10 0 17 (some (44, 0)) = tH L k17 (fx_all (fx_all R0 10 0 (gK 10 17)) 33 0 (fun _ => none)) (fx_up (fx_up (int0 sc) 9 0 3 (-1)) 8 0 3 (-1)) := stB (by decide +kernel) (by decide) (by decide) (by decide) rfl (fun s => rfl) (fun s => zI_W 0 44 0 s (by decide) (by decide) (by decide)) (fun s => rfl) (by decide) rfl (fun t a b => by omega)
    have s : fx_E (fx_Ga (d + 2)) fx_M86 (180, [some xO, none], [], fx_wr (fx_mk (tH L k16 (fx_all (fx_all R0 10 0 (gK 10 16)) 33 0 (fun _ => none)) (fx_up (fx_up (int0 sc) 9 0 3 (-1)) 8 0 3 (-1))) 44 42) 10 0 17 (some (44, 0)), 175, 2216) (fun r2 h2 => r2 = none ∧ h2 = tH L (k18 4) R0 (iW sc 4)) := by
      rw [e]
      exact t180
    exact fx_wpE [180] 30 s
  have t164 : fx_E (fx_Ga (d + 2)) fx_M86 (164, [some xO, none], [], tH L k15 (fx_all (fx_all R0 10 0 (gK 10 15)) 33 0 (fun _ => none)) (fx_up (fx_up (int0 sc) 9 0 3 (-1)) 8 0 3 (-1)), 173, 2167) (fun r2 h2 => r2 = none ∧ h2 = tH L (k18 4) R0 (iW sc 4)) := by
    have e : fx_wr (fx_mk (tH L k15 (fx_all (fx_all R0 10 0 (gK 10 15)) 33 0 (fun _ => none)) (fx_up (fx_up (int0 sc) 9 0 3 (-1)) 8 0 3 (-1))) 43 7) 10 0 16 (some (43, 0)) = tH L k16 (fx_all (fx_all R0 10 0 (gK 10 16)) 33 0 (fun _ => none)) (fx_up (fx_up (int0 sc) 9 0 3 (-1)) 8 0 3 (-1)) := stB (by decide +kernel) (by decide) (by decide) (by decide) rfl (fun s => rfl) (fun s => zI_W 0 43 0 s (by decide) (by decide) (by decide)) (fun s => rfl) (by decide) rfl (fun t a b => by omega)
    have s : fx_E (fx_Ga (d + 2)) fx_M86 (172, [some xO, none], [], fx_wr (fx_mk (tH L k15 (fx_all (fx_all R0 10 0 (gK 10 15)) 33 0 (fun _ => none)) (fx_up (fx_up (int0 sc) 9 0 3 (-1)) 8 0 3 (-1))) 43 7) 10 0 16 (some (43, 0)), 174, 2174) (fun r2 h2 => r2 = none ∧ h2 = tH L (k18 4) R0 (iW sc 4)) := by
      rw [e]
      exact t172
    exact fx_wpE [172] 30 s
  have t156 : fx_E (fx_Ga (d + 2)) fx_M86 (156, [some xO, none], [], tH L k14 (fx_all (fx_all R0 10 0 (gK 10 14)) 33 0 (fun _ => none)) (fx_up (fx_up (int0 sc) 9 0 3 (-1)) 8 0 3 (-1)), 172, 2142) (fun r2 h2 => r2 = none ∧ h2 = tH L (k18 4) R0 (iW sc 4)) := by
    have e : fx_wr (fx_mk (tH L k14 (fx_all (fx_all R0 10 0 (gK 10 14)) 33 0 (fun _ => none)) (fx_up (fx_up (int0 sc) 9 0 3 (-1)) 8 0 3 (-1))) 42 25) 10 0 15 (some (42, 0)) = tH L k15 (fx_all (fx_all R0 10 0 (gK 10 15)) 33 0 (fun _ => none)) (fx_up (fx_up (int0 sc) 9 0 3 (-1)) 8 0 3 (-1)) := stB (by decide +kernel) (by decide) (by decide) (by decide) rfl (fun s => rfl) (fun s => zI_W 0 42 0 s (by decide) (by decide) (by decide)) (fun s => rfl) (by decide) rfl (fun t a b => by omega)
    have s : fx_E (fx_Ga (d + 2)) fx_M86 (164, [some xO, none], [], fx_wr (fx_mk (tH L k14 (fx_all (fx_all R0 10 0 (gK 10 14)) 33 0 (fun _ => none)) (fx_up (fx_up (int0 sc) 9 0 3 (-1)) 8 0 3 (-1))) 42 25) 10 0 15 (some (42, 0)), 173, 2167) (fun r2 h2 => r2 = none ∧ h2 = tH L (k18 4) R0 (iW sc 4)) := by
      rw [e]
      exact t164
    exact fx_wpE [164] 30 s
  have t148 : fx_E (fx_Ga (d + 2)) fx_M86 (148, [some xO, none], [], tH L k13 (fx_all (fx_all R0 10 0 (gK 10 13)) 33 0 (fun _ => none)) (fx_up (fx_up (int0 sc) 9 0 3 (-1)) 8 0 3 (-1)), 171, 2117) (fun r2 h2 => r2 = none ∧ h2 = tH L (k18 4) R0 (iW sc 4)) := by
    have e : fx_wr (fx_mk (tH L k13 (fx_all (fx_all R0 10 0 (gK 10 13)) 33 0 (fun _ => none)) (fx_up (fx_up (int0 sc) 9 0 3 (-1)) 8 0 3 (-1))) 41 25) 10 0 14 (some (41, 0)) = tH L k14 (fx_all (fx_all R0 10 0 (gK 10 14)) 33 0 (fun _ => none)) (fx_up (fx_up (int0 sc) 9 0 3 (-1)) 8 0 3 (-1)) := stB (by decide +kernel) (by decide) (by decide) (by decide) rfl (fun s => rfl) (fun s => zI_W 0 41 0 s (by decide) (by decide) (by decide)) (fun s => rfl) (by decide) rfl (fun t a b => by omega)
    have s : fx_E (fx_Ga (d + 2)) fx_M86 (156, [some xO, none], [], fx_wr (fx_mk (tH L k13 (fx_all (fx_all R0 10 0 (gK 10 13)) 33 0 (fun _ => none)) (fx_up (fx_up (int0 sc) 9 0 3 (-1)) 8 0 3 (-1))) 41 25) 10 0 14 (some (41, 0)), 172, 2142) (fun r2 h2 => r2 = none ∧ h2 = tH L (k18 4) R0 (iW sc 4)) := by
      rw [e]
      exact t156
    exact fx_wpE [156] 30 s
  have t140 : fx_E (fx_Ga (d + 2)) fx_M86 (140, [some xO, none], [], tH L k12 (fx_all (fx_all R0 10 0 (gK 10 12)) 33 0 (fun _ => none)) (fx_up (fx_up (int0 sc) 9 0 3 (-1)) 8 0 3 (-1)), 170, 2111) (fun r2 h2 => r2 = none ∧ h2 = tH L (k18 4) R0 (iW sc 4)) := by
    have e : fx_wr (fx_mk (tH L k12 (fx_all (fx_all R0 10 0 (gK 10 12)) 33 0 (fun _ => none)) (fx_up (fx_up (int0 sc) 9 0 3 (-1)) 8 0 3 (-1))) 40 6) 10 0 13 (some (40, 0)) = tH L k13 (fx_all (fx_all R0 10 0 (gK 10 13)) 33 0 (fun _ => none)) (fx_up (fx_up (int0 sc) 9 0 3 (-1)) 8 0 3 (-1)) := stB (by decide +kernel) (by decide) (by decide) (by decide) rfl (fun s => rfl) (fun s => zI_W 0 40 0 s (by decide) (by decide) (by decide)) (fun s => rfl) (by decide) rfl (fun t a b => by omega)
    have s : fx_E (fx_Ga (d + 2)) fx_M86 (148, [some xO, none], [], fx_wr (fx_mk (tH L k12 (fx_all (fx_all R0 10 0 (gK 10 12)) 33 0 (fun _ => none)) (fx_up (fx_up (int0 sc) 9 0 3 (-1)) 8 0 3 (-1))) 40 6) 10 0 13 (some (40, 0)), 171, 2117) (fun r2 h2 => r2 = none ∧ h2 = tH L (k18 4) R0 (iW sc 4)) := by
      rw [e]
      exact t148
    exact fx_wpE [148] 30 s
  have t125 : fx_E (fx_Ga (d + 2)) fx_M86 (125, [some xO, none], [], tH L k11 (fx_all (fx_all R0 10 0 (gK 10 11)) 33 0 (fun _ => none)) (fx_up (fx_up (int0 sc) 9 0 3 (-1)) 8 0 3 (-1)), 143, 1921) (fun r2 h2 => r2 = none ∧ h2 = tH L (k18 4) R0 (iW sc 4)) := by
    have g := x_rowS (d := d) (L := L) (c := k11) (R := (fx_all (fx_all R0 10 0 (gK 10 11)) 33 0 (fun _ => none))) (hi := (fx_up (fx_up (int0 sc) 9 0 3 (-1)) 8 0 3 (-1))) (hl := fun _ _ _ => 0) (by decide +kernel) (by decide +kernel) (by decide +kernel) (fun k a b => by rcases (show k = 21 ∨ k = 22 ∨ k = 23 ∨ k = 24 by omega) with rfl | rfl | rfl | rfl <;> decide +kernel) (fun s => (by rw [fx_all_ne _ _ (by omega), fx_all_ne _ _ (by omega)])) (fun s => (by rw [fx_all_ne _ _ (by omega), fx_all_ne _ _ (by omega)])) (fun k j s a => (by rw [fx_all_ne _ _ (by omega), fx_all_ne _ _ (by omega)])) (zI_W 0) zL_0
    have e : fx_wr (tH L k12 (fx_all (fx_all R0 10 0 (gK 10 11)) 33 0 (fun _ => none)) (fx_up (fx_up (int0 sc) 9 0 3 (-1)) 8 0 3 (-1))) 10 0 12 (some (4, 0)) = tH L k12 (fx_all (fx_all R0 10 0 (gK 10 12)) 33 0 (fun _ => none)) (fx_up (fx_up (int0 sc) 9 0 3 (-1)) 8 0 3 (-1)) := stP (by decide) (by decide) rfl (fun t a b => by omega)
    have s : fx_E (fx_Ga (d + 2)) fx_M86 (140, [some xO, none], [], fx_wr (tH L k12 (fx_all (fx_all R0 10 0 (gK 10 11)) 33 0 (fun _ => none)) (fx_up (fx_up (int0 sc) 9 0 3 (-1)) 8 0 3 (-1))) 10 0 12 (some (4, 0)), 170, 2111) (fun r2 h2 => r2 = none ∧ h2 = tH L (k18 4) R0 (iW sc 4)) := by
      rw [e]
      exact t140
    exact fx_wpE [140] 40 ⟨_, _, g, s⟩
  have t114 : fx_E (fx_Ga (d + 2)) fx_M86 (114, [some xO, none], [], tH L k10 (fx_all (fx_all R0 10 0 (gK 10 10)) 33 0 (fun _ => none)) (fx_up (fx_up (int0 sc) 9 0 3 (-1)) 8 0 3 (-1)), 138, 1886) (fun r2 h2 => r2 = none ∧ h2 = tH L (k18 4) R0 (iW sc 4)) := by
    have g := x_chaseZ (d := d + 1) (L := L) (c := k10) (R := (fx_all (fx_all R0 10 0 (gK 10 10)) 33 0 (fun _ => none))) (hi := (fx_up (fx_up (int0 sc) 9 0 3 (-1)) 8 0 3 (-1))) (hl := fun _ _ _ => 0) (fun k a b => by rcases (show k = 21 ∨ k = 22 ∨ k = 23 ∨ k = 24 by omega) with rfl | rfl | rfl | rfl <;> decide +kernel) (fun k s a => (by rw [fx_all_ne _ _ (by omega), fx_all_ne _ _ (by omega)])) (zI_W 0) zL_0
    have e : fx_wr (tH L k11 (fx_all (fx_all R0 10 0 (gK 10 10)) 33 0 (fun _ => none)) (fx_up (fx_up (int0 sc) 9 0 3 (-1)) 8 0 3 (-1))) 10 0 11 (some (1, 23)) = tH L k11 (fx_all (fx_all R0 10 0 (gK 10 11)) 33 0 (fun _ => none)) (fx_up (fx_up (int0 sc) 9 0 3 (-1)) 8 0 3 (-1)) := stP (by decide) (by decide) rfl (fun t a b => by omega)
    have s : fx_E (fx_Ga (d + 2)) fx_M86 (125, [some xO, none], [], fx_wr (tH L k11 (fx_all (fx_all R0 10 0 (gK 10 10)) 33 0 (fun _ => none)) (fx_up (fx_up (int0 sc) 9 0 3 (-1)) 8 0 3 (-1))) 10 0 11 (some (1, 23)), 143, 1921) (fun r2 h2 => r2 = none ∧ h2 = tH L (k18 4) R0 (iW sc 4)) := by
      rw [e]
      exact t125
    exact fx_wpE [125] 40 ⟨_, _, g, s⟩
  have t103 : fx_E (fx_Ga (d + 2)) fx_M86 (103, [some xO, none], [], tH L k9 (fx_all (fx_all R0 10 0 (gK 10 9)) 33 0 (fun _ => none)) (fx_up (int0 sc) 9 0 3 (-1)), 134, 1800) (fun r2 h2 => r2 = none ∧ h2 = tH L (k18 4) R0 (iW sc 4)) := by
    have g := x_stepper (d := d + 1) (L := L) (c := k9) (R := (fx_all (fx_all R0 10 0 (gK 10 9)) 33 0 (fun _ => none))) (hi := (fx_up (int0 sc) 9 0 3 (-1))) (hl := fun _ _ _ => 0) (by decide +kernel) (by decide +kernel) (by decide +kernel) (by decide +kernel) (fun s => (by rw [fx_all_ne _ _ (by omega), fx_all_ne _ _ (by omega)])) (fun k s a b => by rw [fx_all_ne _ _ (by omega), fx_all_ne _ _ (by omega)]; rcases (show k = 36 ∨ k = 37 ∨ k = 38 by omega) with rfl | rfl | rfl <;> rfl) (zI_up (zI_0 sc) (Or.inr rfl)) (fun j s => by rw [up_off _ _ (by omega)]; rfl) zL_0
    have e : fx_wr (tH L k10 (fx_all (fx_all R0 10 0 (gK 10 9)) 33 0 (fun _ => none)) (fx_up (fx_up (int0 sc) 9 0 3 (-1)) 8 0 3 (-1))) 10 0 10 (some (8, 0)) = tH L k10 (fx_all (fx_all R0 10 0 (gK 10 10)) 33 0 (fun _ => none)) (fx_up (fx_up (int0 sc) 9 0 3 (-1)) 8 0 3 (-1)) := stP (by decide) (by decide) rfl (fun t a b => by omega)
    have s : fx_E (fx_Ga (d + 2)) fx_M86 (114, [some xO, none], [], fx_wr (tH L k10 (fx_all (fx_all R0 10 0 (gK 10 9)) 33 0 (fun _ => none)) (fx_up (fx_up (int0 sc) 9 0 3 (-1)) 8 0 3 (-1))) 10 0 10 (some (8, 0)), 138, 1886) (fun r2 h2 => r2 = none ∧ h2 = tH L (k18 4) R0 (iW sc 4)) := by
      rw [e]
      exact t114
    exact fx_wpE [114] 40 ⟨_, _, g, s⟩
  have t92 : fx_E (fx_Ga (d + 2)) fx_M86 (92, [some xO, none], [], tH L k8 (fx_all (fx_all R0 10 0 (gK 10 8)) 33 0 (fun _ => none)) (fx_up (int0 sc) 9 0 3 (-1)), 32, 1077) (fun r2 h2 => r2 = none ∧ h2 = tH L (k18 4) R0 (iW sc 4)) := by
    have g := x_acts (d := d) (L := L) (c := k8) (R := (fx_all (fx_all R0 10 0 (gK 10 8)) 33 0 (fun _ => none))) (hi := (fx_up (int0 sc) 9 0 3 (-1))) (hl := fun _ _ _ => 0) (by decide +kernel) (by decide +kernel) (by decide +kernel) (fun k a b => by rcases (show k = 21 ∨ k = 22 ∨ k = 23 ∨ k = 24 by omega) with rfl | rfl | rfl | rfl <;> decide +kernel) (fun s => (by rw [fx_all_ne _ _ (by omega), fx_all_ne _ _ (by omega)])) (fun s => (by rw [fx_all_ne _ _ (by omega), fx_all_ne _ _ (by omega)])) (fun k j s a => (by rw [fx_all_ne _ _ (by omega), fx_all_ne _ _ (by omega)])) (zI_up (zI_0 sc) (Or.inr rfl)) zL_0
    have e : fx_wr (tH L k9 (fx_all (fx_all R0 10 0 (gK 10 8)) 33 0 (fun _ => none)) (fx_up (int0 sc) 9 0 3 (-1))) 10 0 9 (some (0, 0)) = tH L k9 (fx_all (fx_all R0 10 0 (gK 10 9)) 33 0 (fun _ => none)) (fx_up (int0 sc) 9 0 3 (-1)) := stP (by decide) (by decide) rfl (fun t a b => by omega)
    have s : fx_E (fx_Ga (d + 2)) fx_M86 (103, [some xO, none], [], fx_wr (tH L k9 (fx_all (fx_all R0 10 0 (gK 10 8)) 33 0 (fun _ => none)) (fx_up (int0 sc) 9 0 3 (-1))) 10 0 9 (some (0, 0)), 134, 1800) (fun r2 h2 => r2 = none ∧ h2 = tH L (k18 4) R0 (iW sc 4)) := by
      rw [e]
      exact t103
    exact fx_wpE [103] 40 ⟨_, _, g, s⟩
  have t85 : fx_E (fx_Ga (d + 2)) fx_M86 (85, [some xO, none], [], tH L k7 (fx_all (fx_all R0 10 0 (gK 10 7)) 33 0 (fun _ => none)) (fx_up (int0 sc) 9 0 3 (-1)), 31, 1073) (fun r2 h2 => r2 = none ∧ h2 = tH L (k18 4) R0 (iW sc 4)) := by
    have e : fx_wr (fx_mk (tH L k7 (fx_all (fx_all R0 10 0 (gK 10 7)) 33 0 (fun _ => none)) (fx_up (int0 sc) 9 0 3 (-1))) 34 4) 10 0 8 (some (34, 0)) = tH L k8 (fx_all (fx_all R0 10 0 (gK 10 8)) 33 0 (fun _ => none)) (fx_up (int0 sc) 9 0 3 (-1)) := stB (by decide +kernel) (by decide) (by decide) (by decide) rfl (fun s => rfl) (fun s => zI_up (zI_0 sc) (Or.inr rfl) 34 0 s (by decide) (by decide) (by decide)) (fun s => rfl) (by decide) rfl (fun t a b => by omega)
    have s : fx_E (fx_Ga (d + 2)) fx_M86 (92, [some xO, none], [], fx_wr (fx_mk (tH L k7 (fx_all (fx_all R0 10 0 (gK 10 7)) 33 0 (fun _ => none)) (fx_up (int0 sc) 9 0 3 (-1))) 34 4) 10 0 8 (some (34, 0)), 32, 1077) (fun r2 h2 => r2 = none ∧ h2 = tH L (k18 4) R0 (iW sc 4)) := by
      rw [e]
      exact t92
    exact fx_wpE [92] 30 s
  have t77 : fx_E (fx_Ga (d + 2)) fx_M86 (77, [some xO, none], [], tH L k6 (fx_all R0 10 0 (gK 10 6)) (fx_up (int0 sc) 9 0 3 (-1)), 30, 1069) (fun r2 h2 => r2 = none ∧ h2 = tH L (k18 4) R0 (iW sc 4)) := by
    have e : fx_wr (fx_mk (tH L k6 (fx_all R0 10 0 (gK 10 6)) (fx_up (int0 sc) 9 0 3 (-1))) 33 4) 10 0 7 (some (33, 0)) = tH L k7 (fx_all (fx_all R0 10 0 (gK 10 7)) 33 0 (fun _ => none)) (fx_up (int0 sc) 9 0 3 (-1)) := stC (by decide +kernel) (by decide) (fun s => zI_up (zI_0 sc) (Or.inr rfl) 33 0 s (by decide) (by decide) (by decide)) (fun s => rfl) (by decide) rfl (fun t a b => by omega)
    have s : fx_E (fx_Ga (d + 2)) fx_M86 (85, [some xO, none], [], fx_wr (fx_mk (tH L k6 (fx_all R0 10 0 (gK 10 6)) (fx_up (int0 sc) 9 0 3 (-1))) 33 4) 10 0 7 (some (33, 0)), 31, 1073) (fun r2 h2 => r2 = none ∧ h2 = tH L (k18 4) R0 (iW sc 4)) := by
      rw [e]
      exact t85
    exact fx_wpE [85] 30 s
  have t66 : fx_E (fx_Ga (d + 2)) fx_M86 (66, [some xO, none], [], tH L k5 (fx_all R0 10 0 (gK 10 4)) (int0 sc), 15, 960) (fun r2 h2 => r2 = none ∧ h2 = tH L (k18 4) R0 (iW sc 4)) := by
    have g := x_world (d := d) (L := L) (c := k5) (R := (fx_all R0 10 0 (gK 10 4))) (hi := (int0 sc)) (hl := fun _ _ _ => 0) (j := 0) (by decide +kernel) rfl (fun k a b => by rcases (show k = 21 ∨ k = 22 ∨ k = 23 ∨ k = 24 by omega) with rfl | rfl | rfl | rfl <;> decide +kernel) (by decide +kernel) (fun k a b => by rcases (show k = 30 ∨ k = 31 ∨ k = 32 by omega) with rfl | rfl | rfl <;> decide +kernel) (by decide +kernel) (fun s => (by rw [fx_all_ne _ _ (by omega)])) (fun k j s a => (by rw [fx_all_ne _ _ (by omega)])) (zI_0 sc) (fun s => rfl) zL_0
    have e : fx_wr (tH L k6 (fx_all R0 10 0 (gK 10 4)) (fx_up (int0 sc) 9 0 3 (-1))) 10 0 6 (some (9, 0)) = tH L k6 (fx_all R0 10 0 (gK 10 6)) (fx_up (int0 sc) 9 0 3 (-1)) := stO (by decide) rfl (fun t a b => by rcases (show t = 5 by omega) with rfl; rfl)
    have s : fx_E (fx_Ga (d + 2)) fx_M86 (77, [some xO, none], [], fx_wr (tH L k6 (fx_all R0 10 0 (gK 10 4)) (fx_up (int0 sc) 9 0 3 (-1))) 10 0 6 (some (9, 0)), 30, 1069) (fun r2 h2 => r2 = none ∧ h2 = tH L (k18 4) R0 (iW sc 4)) := by
      rw [e]
      exact t77
    exact fx_wpE [77] 40 ⟨_, _, g, s⟩
  have t57 : fx_E (fx_Ga (d + 2)) fx_M86 (57, [some xO, none], [], tH L k4 (fx_all R0 10 0 (gK 10 3)) (int0 sc), 14, 954) (fun r2 h2 => r2 = none ∧ h2 = tH L (k18 4) R0 (iW sc 4)) := by
    have e : fx_wr (fx_mk (tH L k4 (fx_all R0 10 0 (gK 10 3)) (int0 sc)) 29 6) 10 0 4 (some (29, 0)) = tH L k5 (fx_all R0 10 0 (gK 10 4)) (int0 sc) := stA (by decide +kernel) (by decide) rfl (fun s => rfl) (fun s => zI_0 sc 29 0 s (by decide) (by decide) (by decide)) (fun s => rfl) (by decide) rfl (fun t a b => by omega)
    have s : fx_E (fx_Ga (d + 2)) fx_M86 (66, [some xO, none], [], fx_wr (fx_mk (tH L k4 (fx_all R0 10 0 (gK 10 3)) (int0 sc)) 29 6) 10 0 4 (some (29, 0)), 15, 960) (fun r2 h2 => r2 = none ∧ h2 = tH L (k18 4) R0 (iW sc 4)) := by
      rw [e]
      exact t66
    exact fx_wpE [66] 30 s
  have t35 : fx_E (fx_Ga (d + 2)) fx_M86 (35, [some xO, none], [], tH L k3 (fx_all R0 10 0 (gK 10 2)) (int0 sc), 8, 444) (fun r2 h2 => r2 = none ∧ h2 = tH L (k18 4) R0 (iW sc 4)) := by
    have g := x_signs (d := d + 1) (L := L) (c := cinc k3 6) (R := fx_all (fx_all R0 10 0 (gK 10 2)) 6 0 (fun _ => none)) (hi := (int0 sc)) (hl := fun _ _ _ => 0) (fun s => by rw [fx_all_ne _ _ (by omega), fx_all_ne _ _ (by omega)]) (zI_0 sc) zL_0
    rw [← mkOj (c := k3) (R := (fx_all R0 10 0 (gK 10 2))) (k := 6) (n := 0) (j := 0) rfl rfl (fun s => zI_0 sc 6 0 s (by decide) (by decide) (by decide)) (fun s => rfl)] at g
    have g2 := x_rrInit (d := d + 1) (L := L) (c := cinc (cinc k3 6) 7) (R := (fx_all R0 10 0 (gK 10 2))) (hi := (int0 sc)) (hl := fun _ _ _ => 0) (fun k a b => by rcases (show k = 25 ∨ k = 26 ∨ k = 27 ∨ k = 28 by omega) with rfl | rfl | rfl | rfl <;> rfl) (fun s => (by rw [fx_all_ne _ _ (by omega)])) (fun k s a b => by rw [fx_all_ne _ _ (by omega)]; rcases (show k = 25 ∨ k = 26 ∨ k = 27 ∨ k = 28 by omega) with rfl | rfl | rfl | rfl <;> rfl) (zI_0 sc) zL_0
    have e : fx_wr (tH L k4 (fx_all R0 10 0 (gK 10 2)) (int0 sc)) 10 0 3 (some (6, 0)) = tH L k4 (fx_all R0 10 0 (gK 10 3)) (int0 sc) := stO (by decide) rfl (fun t a b => by omega)
    have s : fx_E (fx_Ga (d + 2)) fx_M86 (57, [some xO, none], [], fx_wr (tH L k4 (fx_all R0 10 0 (gK 10 2)) (int0 sc)) 10 0 3 (some (6, 0)), 14, 954) (fun r2 h2 => r2 = none ∧ h2 = tH L (k18 4) R0 (iW sc 4)) := by
      rw [e]
      exact t57
    exact fx_wpE [57] 40 ⟨_, _, g, _, _, g2, s⟩
  have t13 : fx_E (fx_Ga (d + 2)) fx_M86 (13, [some xO, none], [], tH L k2 (fx_all R0 10 0 (gK 10 0)) (int0 sc), 1, 400) (fun r2 h2 => r2 = none ∧ h2 = tH L (k18 4) R0 (iW sc 4)) := by
    have g := x_signs (d := d + 1) (L := L) (c := cinc k2 2) (R := fx_all (fx_all R0 10 0 (gK 10 0)) 2 0 (fun _ => none)) (hi := (int0 sc)) (hl := fun _ _ _ => 0) (fun s => by rw [fx_all_ne _ _ (by omega), fx_all_ne _ _ (by omega)]) (zI_0 sc) zL_0
    rw [← mkOj (c := k2) (R := (fx_all R0 10 0 (gK 10 0))) (k := 2) (n := 0) (j := 0) rfl rfl (fun s => zI_0 sc 2 0 s (by decide) (by decide) (by decide)) (fun s => rfl)] at g
    have g2 := x_hInit (d := d) (L := L) (c := cinc (cinc k2 2) 7) (R := (fx_all R0 10 0 (gK 10 0))) (hi := (int0 sc)) (hl := fun _ _ _ => 0) rfl (fun k a b => by rcases (show k = 21 ∨ k = 22 ∨ k = 23 ∨ k = 24 by omega) with rfl | rfl | rfl | rfl <;> decide +kernel) (fun s => (by rw [fx_all_ne _ _ (by omega)])) (fun k s a => (by rw [fx_all_ne _ _ (by omega)])) (zI_0 sc) zL_0
    have e : fx_wr (tH L k3 (fx_all R0 10 0 (gK 10 0)) (int0 sc)) 10 0 2 (some (2, 0)) = tH L k3 (fx_all R0 10 0 (gK 10 2)) (int0 sc) := stO (by decide) rfl (fun t a b => by rcases (show t = 1 by omega) with rfl; rfl)
    have s : fx_E (fx_Ga (d + 2)) fx_M86 (35, [some xO, none], [], fx_wr (tH L k3 (fx_all R0 10 0 (gK 10 0)) (int0 sc)) 10 0 2 (some (2, 0)), 8, 444) (fun r2 h2 => r2 = none ∧ h2 = tH L (k18 4) R0 (iW sc 4)) := by
      rw [e]
      exact t35
    exact fx_wpE [35] 40 ⟨_, _, g, _, _, g2, s⟩
  have t0 : fx_E (fx_Ga (d + 2)) fx_M86 (0, [some xO, none], [], tH L k1 (fx_all R0 10 0 (fun _ => none)) (int0 sc), 0, 0) (fun r2 h2 => r2 = none ∧ h2 = tH L (k18 4) R0 (iW sc 4)) := by
    have e : fx_wr (fx_mk (tH L k1 (fx_all R0 10 0 (fun _ => none)) (int0 sc)) 20 400) 10 0 0 (some (20, 0)) = tH L k2 (fx_all R0 10 0 (gK 10 0)) (int0 sc) := stA0 (by decide +kernel) (by decide) rfl (fun s => rfl) (fun s => zI_0 sc 20 0 s (by decide) (by decide) (by decide)) (fun s => rfl) rfl
    have s : fx_E (fx_Ga (d + 2)) fx_M86 (13, [some xO, none], [], fx_wr (fx_mk (tH L k1 (fx_all R0 10 0 (fun _ => none)) (int0 sc)) 20 400) 10 0 0 (some (20, 0)), 1, 400) (fun r2 h2 => r2 = none ∧ h2 = tH L (k18 4) R0 (iW sc 4)) := by
      rw [e]
      exact t13
    exact fx_wpE [13] 30 s
  exact fx_meth (d := d + 2) fx_M86 [some xO, none] (by decide) rfl rfl (Nat.le_of_ble_eq_true rfl) t0
end CW
