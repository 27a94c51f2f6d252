/-! how it began, and what was noted -/
def vBg (v : Nat → Nat) : Nat → Nat := fun x => if x = 10 then 0 else if x = 11 then 100 else if 12 ≤ x ∧ x < 36 then (if x % 4 = 0 then 100 - v (38 + (x - 12) / 4) else if x % 4 = 1 then v (44 + (x - 12) / 4) else 0) else if x = 36 then v 50 else if x = 37 then v 51 else v x
theorem vBg_ne (v : Nat → Nat) {x : Nat} (h : x < 10 ∨ 38 ≤ x) : vBg v x = v x := by
  unfold vBg
  rw [if_neg (by omega), if_neg (by omega), if_neg (by omega), if_neg (by omega), if_neg (by omega)]
theorem vBg_run (v : Nat → Nat) {i : Nat} (h : i < 6) : vBg v (12 + 4 * i) = 100 - v (38 + i) := by
  unfold vBg
  rw [if_neg (by omega), if_neg (by omega), if_pos (by omega), if_pos (by omega), show (12 + 4 * i - 12) / 4 = i by omega]
theorem vBg_pace (v : Nat → Nat) {i : Nat} (h : i < 6) : vBg v (13 + 4 * i) = v (44 + i) := by
  unfold vBg
  rw [if_neg (by omega), if_neg (by omega), if_pos (by omega), if_neg (by omega), if_pos (by omega), show (13 + 4 * i - 12) / 4 = i by omega]
theorem vBg_ground (v : Nat → Nat) {i : Nat} (h : i < 6) : vBg v (14 + 4 * i) = 0 := by
  unfold vBg
  rw [if_neg (by omega), if_neg (by omega), if_pos (by omega), if_neg (by omega), if_neg (by omega)]
theorem vBg_was (v : Nat → Nat) {i : Nat} (h : i < 6) : vBg v (15 + 4 * i) = 0 := by
  unfold vBg
  rw [if_neg (by omega), if_neg (by omega), if_pos (by omega), if_neg (by omega), if_neg (by omega)]
def TOK (v : Nat → Nat) : Prop := GV (vBg v) ∧ ∀ i, i < 6 → v (44 + i) ≤ 9 ∧ v (38 + i) ≤ 99
theorem SB.bg {v : Nat → Nat} (h : SB v) (ht : TOK v) : SB (vBg v) := by
  obtain ⟨s4, s1, s2, s3, s11, si⟩ := h
  refine ⟨by rw [vBg_ne v (by omega)]; exact s4, by rw [vBg_ne v (by omega)]; exact s1, by rw [vBg_ne v (by omega)]; exact s2, by rw [vBg_ne v (by omega)]; exact s3, Nat.le_refl _, fun i h6 => ?_⟩
  rw [vBg_run v h6, vBg_pace v h6, vBg_ground v h6, vBg_was v h6]
  exact ⟨Nat.sub_le _ _, (ht.2 i h6).1, Nat.zero_le _, Nat.zero_le _⟩
def vBl (v : Nat → Nat) : Nat → Nat → Nat
  | 0 => vup (vup v 10 0) 11 100
  | r + 1 => vup (vup (vup (vup (vBl v r) (12 + 4 * r) (100 - v (38 + r))) (13 + 4 * r) (v (44 + r))) (14 + 4 * r) 0) (15 + 4 * r) 0
theorem vBl_at (v : Nat → Nat) : ∀ r, r ≤ 6 → ∀ x, vBl v r x = if x < 12 + 4 * r then vBg v x else v x
  | 0, _, x => by
    unfold vBl
    by_cases e : x = 11
    · subst e; rw [vup_eq, if_pos (by omega)]; rfl
    · rw [vup_ne e]
      by_cases e2 : x = 10
      · subst e2; rw [vup_eq, if_pos (by omega)]; rfl
      · rw [vup_ne e2]
        by_cases e3 : x < 12 + 4 * 0
        · rw [if_pos e3, vBg_ne v (by omega)]
        · rw [if_neg e3]
  | r + 1, h, x => by
    unfold vBl
    by_cases e3 : x = 15 + 4 * r
    · subst e3; rw [vup_eq, if_pos (by omega), vBg_was v (by omega)]
    · rw [vup_ne e3]
      by_cases e2 : x = 14 + 4 * r
      · subst e2; rw [vup_eq, if_pos (by omega), vBg_ground v (by omega)]
      · rw [vup_ne e2]
        by_cases e1 : x = 13 + 4 * r
        · subst e1; rw [vup_eq, if_pos (by omega), vBg_pace v (by omega)]
        · rw [vup_ne e1]
          by_cases e0 : x = 12 + 4 * r
          · subst e0; rw [vup_eq, if_pos (by omega), vBg_run v (by omega)]
          · rw [vup_ne e0, vBl_at v r (by omega) x]
            by_cases c : x < 12 + 4 * r
            · rw [if_pos c, if_pos (by omega)]
            · rw [if_neg c, if_neg (by omega)]
theorem PM.eq {hi : fxI3} {u v : Nat → Nat} (h : PM hi u) (e : ∀ i, i < 83 → u i = v i) : PM hi v := fun i hi0 => by rw [← e i hi0]; exact h i hi0
/-- the notes as v has them, of what u says at step n: t of them from the k-th on -/
def vNt (v u : Nat → Nat) (n : Nat) : Nat → Nat → Bool
  | 0, _ => true
  | t + 1, k => if v (52 + 3 * k) = n ∧ u (12 + 4 * v (53 + 3 * k)) ≠ v (54 + 3 * k) then false else vNt v u n t (k + 1)
theorem vNt_true (v u : Nat → Nat) (n : Nat) : ∀ t k, (∀ q, k ≤ q → q < k + t → v (52 + 3 * q) ≠ n) → vNt v u n t k = true
  | 0, _, _ => rfl
  | t + 1, k, h => by
    unfold vNt
    rw [if_neg (fun z => h k (Nat.le_refl _) (by omega) z.1)]
    exact vNt_true v u n t (k + 1) (fun q h1 h2 => h q (by omega) (by omega))
def vFi (rl : Option fxRl) (v : Nat → Nat) : Nat → Bool
  | 0 => true
  | n + 1 => vFi rl v n && vNt v (vIt rl n (vBg v)) n (v 82) 0
theorem vFi_false (rl : Option fxRl) (v : Nat → Nat) {i : Nat} (h : vNt v (vIt rl i (vBg v)) i (v 82) 0 = false) : ∀ m, i < m → vFi rl v m = false
  | 0, hm => by omega
  | m + 1, hm => by
    unfold vFi
    by_cases e : i = m
    · subst e; rw [h, Bool.and_false]
    · rw [vFi_false rl v h m (by omega), Bool.false_and]
theorem vFi_last (rl : Option fxRl) (v : Nat → Nat) {L : Nat} (h : ∀ k, k < v 82 → v (52 + 3 * k) ≤ L) : ∀ t, vFi rl v (L + 1 + t) = vFi rl v (L + 1)
  | 0 => rfl
  | t + 1 => by
    show (vFi rl v (L + 1 + t) && vNt v (vIt rl (L + 1 + t) (vBg v)) (L + 1 + t) (v 82) 0) = _
    rw [vNt_true v _ _ _ _ (fun q _ hq => by have := h q (by omega); omega), Bool.and_true]
    exact vFi_last rl v h t
/-- what class' notes j are -/
def NT (hi : fxI3) (j : Nat) (v : Nat → Nat) : Prop := hi 3 j 0 = nI (v 82) ∧ ∀ i, i < v 82 → hi 30 j i = nI (v (52 + 3 * i)) ∧ hi 31 j i = nI (v (53 + 3 * i)) ∧ hi 32 j i = nI (v (54 + 3 * i))
def NOK (v : Nat → Nat) : Prop := v 82 ≤ 10 ∧ ∀ i, i < v 82 → v (52 + 3 * i) ≤ 60 ∧ v (53 + 3 * i) < v 4 ∧ v (54 + 3 * i) ≤ 9999
abbrev nO (j : Nat) : fxV := .inr (.inr (some (3, j)))
def vLs (v : Nat → Nat) : Nat → Nat
  | 0 => 0
  | k + 1 => max (vLs v k) (v (52 + 3 * k))
theorem vLs_ge (v : Nat → Nat) : ∀ n k, k < n → v (52 + 3 * k) ≤ vLs v n
  | 0, k, h => by omega
  | n + 1, k, h => by
    unfold vLs
    by_cases e : k = n
    · subst e; exact Nat.le_max_right _ _
    · exact Nat.le_trans (vLs_ge v n k (by omega)) (Nat.le_max_left _ _)
theorem vLs_le (v : Nat → Nat) : ∀ n, (∀ k, k < n → v (52 + 3 * k) ≤ 60) → vLs v n ≤ 60
  | 0, _ => Nat.zero_le _
  | n + 1, h => Nat.max_le.mpr ⟨vLs_le v n (fun k hk => h k (by omega)), h n (by omega)⟩
theorem max_nI (a b : Nat) (ha : a < 2 ^ 31) (hb : b < 2 ^ 31) : (if nI a < nI b then nI b else nI a) = nI (max a b) := by
  by_cases h : a < b
  · rw [if_pos (nI_lt h hb), Nat.max_eq_right (Nat.le_of_lt h)]
  · rw [if_neg (nI_nlt (Nat.not_lt.mp h) ha), Nat.max_eq_left (Nat.not_lt.mp h)]
section NS
variable {d : Nat} {σ : fxS} {hi : fxI3} {hl : fxL3} {v : Nat → Nat}
theorem m_begins (hv : PM hi v) (ht : ∀ i, i < 6 → v (38 + i) ≤ 99) : ∃ hi', fx_Ga (d + 1) 196 [mO] (hp σ hi hl) none (hp σ hi' hl) ∧ (∀ k j s, k ≠ 59 → hi' k j s = hi k j s) ∧ PM hi' (vBg v) := by
  let Post : Option fxV → fxH → Prop := fun r2 h2 => r2 = none ∧ ∃ hi', h2 = hp σ hi' hl ∧ (∀ k j s, k ≠ 59 → hi' k j s = hi k j s) ∧ PM hi' (vBg v)
  have fu : ∀ (hb : fxI3) s x, (∀ k j s, k ≠ 59 → hb k j s = hi k j s) → (∀ k j s', k ≠ 59 → fx_up hb 59 0 s x k j s' = hi k j s') := fun hb s x h k j s' hk => (up_off hb x (fun z => hk z.1)).trans (h k j s' hk)
  have loop : ∀ t r (hb : fxI3) l2, r + t = 6 → (∀ k j s, k ≠ 59 → hb k j s = hi k j s) → PM hb (vBl v r) → fx_E (fx_Ga d) fx_M196 (19, [some mO, some (vi (nI r)), l2], [], hp σ hb hl, 0, 0) Post := by
    intro t
    induction t with
    | zero =>
      intro r hb l2 hr f1 hvb
      have : r = 6 := by omega
      subst this
      have a50 : hb 59 0 50 = nI (v 50) := by rw [(hvb 50 (by decide)).1, vBl_at v 6 (by decide), if_neg (by decide)]
      have b50 := (hv 50 (by decide)).2
      have b51 := (hv 51 (by decide)).2
      have h1 := hvb.put (x := 36) (y := v 50) b50
      have a51 : fx_up hb 59 0 36 (nI (v 50)) 59 0 51 = nI (v 51) := by rw [(h1 51 (by decide)).1, vup_ne (by decide), vBl_at v 6 (by decide), if_neg (by decide)]
      have h2 := h1.put (x := 37) (y := v 51) b51
      refine fx_wpL [19] 40 (pk_le 6 6 (fun _ => ?_) (fun hc => by omega))
      refine ⟨ni_inx (n := 50) (m := 83) rfl (by decide) (by decide), ni_inx (n := 36) (m := 83) rfl (by decide) (by decide), ni_inx (n := 51) (m := 83) rfl (by decide) (by decide), ni_inx (n := 37) (m := 83) rfl (by decide) (by decide), rfl, ?_⟩
      refine ⟨fx_up (fx_up hb 59 0 36 (nI (v 50))) 59 0 37 (nI (v 51)), ?_, fu _ _ _ (fu _ _ _ f1), h2.eq (fun i hi0 => ?_)⟩
      · show hp σ (fx_up (fx_up hb 59 0 36 (hb 59 0 50)) 59 0 37 (fx_up hb 59 0 36 (hb 59 0 50) 59 0 51)) hl = _
        rw [a50, a51]
      · by_cases e : i = 37
        · subst e; rfl
        · rw [vup_ne e]
          by_cases e2 : i = 36
          · subst e2; rfl
          · rw [vup_ne e2, vBl_at v 6 (by decide)]
            by_cases c : i < 12 + 4 * 6
            · rw [if_pos c]
            · rw [if_neg c, vBg_ne v (by omega)]
    | succ t ih =>
      intro r hb l2 hr f1 hvb
      have r6 : r < 6 := by omega
      have q := ht r r6
      have e38 : (38 + nI r : Int32) = nI (38 + r) := nI_add 38 r
      have e44 : (44 + nI r : Int32) = nI (44 + r) := nI_add 44 r
      have v38 : hb 59 0 (38 + nI r : Int32).toNatClampNeg = nI (v (38 + r)) := by rw [hvb.at e38 (by omega), vBl_at v r (by omega), if_neg (by omega)]
      have x1 : (100 - hb 59 0 (38 + nI r : Int32).toNatClampNeg : Int32) = nI (100 - v (38 + r)) := by
        rw [v38]
        exact pk_sub (a := 100) (by omega)
      have h1 := hvb.put (x := 12 + 4 * r) (y := 100 - v (38 + r)) (by omega)
      have v44 : fx_up hb 59 0 (12 + 4 * r) (nI (100 - v (38 + r))) 59 0 (44 + nI r : Int32).toNatClampNeg = nI (v (44 + r)) := by rw [h1.at e44 (by omega), vup_ne (by omega), vBl_at v r (by omega), if_neg (by omega)]
      have h2 := h1.put (x := 13 + 4 * r) (y := v (44 + r)) (hv (44 + r) (by omega)).2
      have h3 := h2.put (x := 14 + 4 * r) (y := 0) (by decide)
      have h4 := h3.put (x := 15 + 4 * r) (y := 0) (by decide)
      have h5 := ih (r + 1) _ (some (vi (12 + 4 * nI r))) (by omega) (fu _ _ _ (fu _ _ _ (fu _ _ _ (fu _ _ _ f1)))) h4
      refine fx_wpL [19] 60 (pk_le 6 r (fun hc => by omega) (fun _ => ?_))
      refine ⟨ni_inx (n := 38 + r) (m := 83) e38 (by omega) (by decide), ni_inx (n := 12 + 4 * r) (m := 83) (ri_0 r) (by omega) (by decide), ni_inx (n := 44 + r) (m := 83) e44 (by omega) (by decide), ni_inx (n := 13 + 4 * r) (m := 83) (ri_1 r) (by omega) (by decide), ni_inx (n := 14 + 4 * r) (m := 83) (ri_2 r) (by omega) (by decide), ni_inx (n := 15 + 4 * r) (m := 83) (ri_3 r) (by omega) (by decide), ?_⟩
      rw [← nI_1, ← v44, ← x1] at h5
      conv at h5 => rw [show (12 + 4 * r) = (12 + 4 * nI r : Int32).toNatClampNeg from (ni_cl (ri_0 r) (by omega)).symm, show (13 + 4 * r) = (12 + 4 * nI r + 1 : Int32).toNatClampNeg from (ni_cl (ri_1 r) (by omega)).symm, show (14 + 4 * r) = (12 + 4 * nI r + 2 : Int32).toNatClampNeg from (ni_cl (ri_2 r) (by omega)).symm, show (15 + 4 * r) = (12 + 4 * nI r + 3 : Int32).toNatClampNeg from (ni_cl (ri_3 r) (by omega)).symm]
      exact h5
  have h1 := hv.put (x := 10) (y := 0) (by decide)
  have h2 := h1.put (x := 11) (y := 100) (by decide)
  obtain ⟨r, h', hg, e1, hi', e2, e3⟩ := fx_methX (d := d) (y := 196) (av := [mO]) (h := hp σ hi hl) (P := Post) fx_M196 [some mO, none, none] (by decide) rfl rfl (Nat.le_of_ble_eq_true rfl) (fx_wpE [19] 40 ⟨ni_inx (n := 10) (m := 83) rfl (by decide) (by decide), ni_inx (n := 11) (m := 83) rfl (by decide) (by decide), loop 6 0 _ none rfl (fu _ _ _ (fu _ _ _ (fun _ _ _ _ => rfl))) h2⟩)
  subst e1
  subst e2
  exact ⟨hi', hg, e3⟩
theorem m_areNotesSo {u : Nat → Nat} (hu : PM hi u) (hs : SV u) (he : ∀ x, 38 ≤ x → u x = v x) (h4 : u 4 = v 4) (hn : NOK v) {n : Nat} (hn60 : n ≤ 60) : fx_Ga (d + 2) 239 [mO, vi (nI n)] (hp σ hi hl) (some (vi (b01 (vNt v u n (v 82) 0)))) (hp σ hi hl) := by
  obtain ⟨n1, n2⟩ := hn
  obtain ⟨s4, s1, s2, s3, s11, s10, si⟩ := id hs
  refine fx_meth fx_M239 [some mO, some (vi (nI n)), none] (by decide) rfl rfl (Nat.le_of_ble_eq_true rfl) ?_
  have e82 : (3 * hi 59 0 82 : Int32) = nI (3 * v 82) := by
    rw [(hu 82 (by decide)).1, he 82 (by decide)]
    exact pk_mul 3 _
  have loop : ∀ t k, k + t = v 82 → fx_E (fx_Ga (d + 1)) fx_M239 (2, [some mO, some (vi (nI n)), some (vi (nI (3 * k)))], [], hp σ hi hl, 0, 0) (fun r2 h2 => r2 = some (vi (b01 (vNt v u n t k))) ∧ h2 = hp σ hi hl) := by
    intro t
    induction t with
    | zero =>
      intro k hk
      exact fx_wpL [2] 20 ⟨ni_inx (n := 82) (m := 83) rfl (by decide) (by decide), pk_le (3 * v 82) (3 * k) (fun _ => ⟨Or.inr rfl, rfl, rfl⟩) (fun hc => by omega) e82⟩
    | succ t ih =>
      intro k hk
      obtain ⟨q1, q2, q3⟩ := n2 k (by omega)
      have h2 := ih (k + 1) (by omega)
      have e3 : nI (3 * (k + 1)) = nI (3 * k) + 3 := by
        rw [Nat.mul_add]
        exact (nI_add (3 * k) 3).symm
      rw [e3] at h2
      have i52 : (52 + nI (3 * k) : Int32) = nI (52 + 3 * k) := nI_add 52 _
      have i53 : (52 + nI (3 * k) + 1 : Int32) = nI (53 + 3 * k) := by rw [i52, nI_1]; congr 1; omega
      have i54 : (52 + nI (3 * k) + 2 : Int32) = nI (54 + 3 * k) := by
        rw [i52]
        refine (nI_add _ 2).trans ?_
        congr 1
        omega
      have w52 : hi 59 0 (52 + nI (3 * k) : Int32).toNatClampNeg = nI (v (52 + 3 * k)) := by rw [hu.at i52 (by omega), he _ (by omega)]
      have w53 : hi 59 0 (52 + nI (3 * k) + 1 : Int32).toNatClampNeg = nI (v (53 + 3 * k)) := by rw [hu.at i53 (by omega), he _ (by omega)]
      have w54 : hi 59 0 (52 + nI (3 * k) + 2 : Int32).toNatClampNeg = nI (v (54 + 3 * k)) := by rw [hu.at i54 (by omega), he _ (by omega)]
      refine fx_wpL [2] 40 ⟨ni_inx (n := 82) (m := 83) rfl (by decide) (by decide), pk_le (3 * v 82) (3 * k) (fun hc => by omega) (fun _ => ?_) e82⟩
      refine ⟨ni_inx (n := 52 + 3 * k) (m := 83) i52 (by omega) (by decide), nn_eq (v (52 + 3 * k)) n (fun hx => ?_) (fun hx => ?_) w52⟩
      · have hru := m_runOf (d := d) (σ := σ) (hl := hl) hu (show v (53 + 3 * k) < 6 by omega)
        rw [← w53] at hru
        obtain ⟨r1, _⟩ := si (v (53 + 3 * k)) (by omega)
        refine ⟨ni_inx (n := 53 + 3 * k) (m := 83) i53 (by omega) (by decide), _, _, hru, ni_inx (n := 54 + 3 * k) (m := 83) i54 (by omega) (by decide), pk_eq (u (12 + 4 * v (53 + 3 * k))) (v (54 + 3 * k)) (fun hy => ?_) (fun hy => ⟨Or.inl rfl, ?_, rfl⟩) rfl w54⟩
        · rw [vNt, if_neg (fun z => z.2 hy)]
          exact h2
        · rw [vNt, if_pos ⟨hx, hy⟩]
          rfl
      · rw [vNt, if_neg (fun z => hx z.1)]
        exact h2
  exact fx_wpE [2] 9 (loop (v 82) 0 (by omega))
theorem x_areSo {u : Nat → Nat} (hu : PX hi hl 23 u) (hs : SV u) (h4 : u 4 = v 4) (hnt : NT hi 0 v) (hn : NOK v) {n : Nat} (hn60 : n ≤ 999) (h10 : u 10 = n) : fx_Ga (d + 2) 33 [nO 0, cO 23] (hp σ hi hl) (some (vi (b01 (vNt v u n (v 82) 0)))) (hp σ hi hl) := by
  obtain ⟨n1, n2⟩ := hn
  obtain ⟨t1, t2⟩ := hnt
  obtain ⟨s4, s1, s2, s3, s11, s10, si⟩ := id hs
  refine fx_meth fx_M33 [some (nO 0), some (cO 23), none] (by decide) rfl rfl (Nat.le_of_ble_eq_true rfl) ?_
  have loop : ∀ t k, k + t = v 82 → fx_E (fx_Ga (d + 1)) fx_M33 (2, [some (nO 0), some (cO 23), some (vi (nI k))], [], hp σ hi hl, 0, 0) (fun r2 h2 => r2 = some (vi (b01 (vNt v u n t k))) ∧ h2 = hp σ hi hl) := by
    intro t
    induction t with
    | zero =>
      intro k hk
      exact fx_wpL [2] 20 (pk_le (v 82) k (fun _ => ⟨Or.inr rfl, rfl, rfl⟩) (fun hc => by omega) t1)
    | succ t ih =>
      intro k hk
      obtain ⟨q1, q2, q3⟩ := n2 k (by omega)
      obtain ⟨w52, w53, w54⟩ := t2 k (by omega)
      have h2 := ih (k + 1) (by omega)
      rw [← nI_1] at h2
      have ck : (nI k).toNatClampNeg = k := nI_clamp (by omega)
      have bk := ni_in (n := k) (m := 10) (by omega) (by decide)
      have w52 : hi 30 0 (nI k).toNatClampNeg = nI (v (52 + 3 * k)) := by rw [ck]; exact w52
      have w53 : hi 31 0 (nI k).toNatClampNeg = nI (v (53 + 3 * k)) := by rw [ck]; exact w53
      have w54 : hi 32 0 (nI k).toNatClampNeg = nI (v (54 + 3 * k)) := by rw [ck]; exact w54
      have e5 := hu.2.2.2.2.2.1
      rw [h10] at e5
      refine fx_wpL [2] 40 (pk_le (v 82) k (fun hc => by omega) (fun _ => ?_) t1)
      refine ⟨bk, nn_eq (v (52 + 3 * k)) n (fun hx => ?_) (fun hx => ?_) w52 e5⟩
      · have hru := x_hasRider (d := d) (σ := σ) hu s4 (hi 31 0 (nI k).toNatClampNeg)
        obtain ⟨r1, _⟩ := si (v (53 + 3 * k)) (by omega)
        have er : hi 21 23 (hi 31 0 (nI k).toNatClampNeg).toNatClampNeg = nI (u (12 + 4 * v (53 + 3 * k))) := by
          rw [ni_cl w53 (by omega)]
          exact (hu.2.2.2.2.2.2.2 _ (by omega)).1
        refine ⟨bk, _, _, hru, bd_if (fun hc => absurd (show 0 ≤ hi 31 0 (nI k).toNatClampNeg ∧ _ from by rw [w53]; exact ⟨nI_pos' (by omega), nI_lt (by omega) (by omega)⟩) hc) (fun _ => ?_)⟩
        refine ⟨bk, ni_inx (n := v (53 + 3 * k)) (m := 6) w53 (by omega) (by decide), bk, pk_eq (u (12 + 4 * v (53 + 3 * k))) (v (54 + 3 * k)) (fun hy => ?_) (fun hy => ⟨Or.inl rfl, ?_, rfl⟩) er w54⟩
        · rw [vNt, if_neg (fun z => z.2 hy)]
          exact h2
        · rw [vNt, if_pos ⟨hx, hy⟩]
          rfl
      · rw [vNt, if_neg (fun z => hx z.1)]
        exact h2
  exact fx_wpE [2] 9 (loop (v 82) 0 (by omega))
theorem x_lastStep (hnt : NT hi 0 v) (hn : NOK v) : fx_Ga (d + 1) 32 [nO 0] (hp σ hi hl) (some (vi (nI (vLs v (v 82))))) (hp σ hi hl) := by
  obtain ⟨n1, n2⟩ := hn
  obtain ⟨t1, t2⟩ := hnt
  refine fx_meth fx_M32 [some (nO 0), none, none] (by decide) rfl rfl (Nat.le_of_ble_eq_true rfl) ?_
  have loop : ∀ t k, k + t = v 82 → fx_E (fx_Ga d) fx_M32 (4, [some (nO 0), some (vi (nI (vLs v k))), some (vi (nI k))], [], hp σ hi hl, 0, 0) (fun r2 h2 => r2 = some (vi (nI (vLs v (v 82)))) ∧ h2 = hp σ hi hl) := by
    intro t
    induction t with
    | zero =>
      intro k hk
      have : k = v 82 := by omega
      subst this
      exact fx_wpL [4] 20 (pk_le (v 82) (v 82) (fun _ => ⟨rfl, rfl⟩) (fun hc => by omega) t1)
    | succ t ih =>
      intro k hk
      have l60 := vLs_le v k (fun q hq => (n2 q (by omega)).1)
      have q1 := (n2 k (by omega)).1
      have h2 := ih (k + 1) (by omega)
      have ck : (nI k).toNatClampNeg = k := nI_clamp (by omega)
      have w52 : hi 30 0 (nI k).toNatClampNeg = nI (v (52 + 3 * k)) := by rw [ck]; exact (t2 k (by omega)).1
      rw [vLs, ← max_nI _ _ (by omega) (by omega), ← w52, ← nI_1] at h2
      refine fx_wpL [4] 40 (pk_le (v 82) k (fun hc => by omega) (fun _ => ?_) t1)
      exact ⟨ni_in (n := k) (m := 10) (by omega) (by decide), h2⟩
  exact fx_wpE [4] 9 (loop (v 82) 0 (by omega))
end NS
