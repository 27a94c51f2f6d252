/-! words: the class -/
/-- a text's letters -/
def tx_c (k i : Nat) : Nat := ((fx_sbyt.getD k []).getD i 0).toInt.toNat
def tx_k (k : Nat) : Nat := kC (tx_c k) (fx_slen.getD k 0)
theorem tx_chr : ∀ k, k < 18 → ∀ i, i < fx_slen.getD k 0 → fx_chr ((fx_sbyt.getD k []).getD i 0) = nI (tx_c k i) ∧ 97 ≤ tx_c k i ∧ tx_c k i ≤ 122 := by decide +kernel
theorem tx_len : ∀ k, k < 18 → fx_slen.getD k 0 < 8 := by decide +kernel
abbrev uO (k : Nat) : fxV := .inr (.inr (some (92, k)))
section XWD
variable {d : Nat} {σ : fxS} {hi : fxI3} {hl : fxL3} {n p q j : Nat} {T : Nat → Int32}
theorem j_len {h : fxH} {k : Nat} (hk : k < 18) : fx_Ga (d + 1) 255 [uO k] h (some (vi (nI (fx_slen.getD k 0)))) h := Or.inl ⟨rfl, k, hk, rfl, rfl, rfl⟩
theorem j_chr {h : fxH} {k i : Nat} (hk : k < 18) (hi2 : i < fx_slen.getD k 0) : fx_Ga (d + 3) 256 [uO k, vi (nI i)] h (some (vi (nI (tx_c k i)))) h := by
  have h8 := tx_len k hk
  refine Or.inr (Or.inl ⟨rfl, by omega, k, nI i, hk, ni_in hi2 (by omega), rfl, ?_, rfl⟩)
  rw [nI_clamp (by omega), (tx_chr k hk i hi2).1]
/-- a word is a text: its letters are that text's (the empty text is none) -/
theorem x_isWord (hs : SG hi j n T) (hq : q < n) (hL : lx_L (T q) = true) (hk2 : TK hi j p q (2, 0, lx_rn lx_L T n q)) {k : Nat} (hk : k < 18) : fx_Ga (d + 4) 77 [gO j, uO k] (hp σ hi hl) (some (vi (b01 (decide (0 < tx_k k ∧ lx_wk T n q = tx_k k))))) (hp σ hi hl) := by
  have h400 := hs.1
  have h8 := tx_len k hk
  obtain ⟨t2, t3, t4, t5⟩ := hk2
  have t2 : hi 7 j 2 = nI (lx_rn lx_L T n q) := t2
  have t3 : hi 7 j 3 = nI 2 := t3
  have hqn : q ≤ n := by omega
  have hen : lx_rn lx_L T n q ≤ n := rn_le hqn
  have hgt : q + 1 ≤ lx_rn lx_L T n q := by
    rw [rn_st hq hL]
    exact rn_ge
  have hal : ∀ i, i < lx_rn lx_L T n q - q → lx_L (T (q + i)) = true := fun i hi2 => rn_all (P := lx_L) (T := T) (n := n) (p := q) (by omega) (by omega)
  have ewk : lx_wk T n q = if 0 < lx_rn lx_L T n q - q ∧ lx_rn lx_L T n q - q < 8 then kC (fun i => lx_c (T (q + i))) (lx_rn lx_L T n q - q) else 0 := rfl
  generalize lx_wk T n q = wk at ewk
  obtain ⟨l, hl1⟩ : ∃ l, lx_rn lx_L T n q = q + l := ⟨lx_rn lx_L T n q - q, by omega⟩
  rw [hl1] at t2 hen hgt
  rw [hl1, Nat.add_sub_cancel_left] at ewk hal
  have hdig : ∀ i, i < l → 0 < lx_c (T (q + i)) ∧ lx_c (T (q + i)) < 256 ∧ T (q + i) = nI (lx_c (T (q + i))) := fun i hi2 => by
    obtain ⟨k, k1, k2, k3, k4⟩ := lx_L_of (hal i hi2)
    rw [k4]
    exact ⟨by omega, by omega, k3⟩
  have htx : ∀ i, i < fx_slen.getD k 0 → 0 < tx_c k i ∧ tx_c k i < 256 := fun i hi2 => by
    have := (tx_chr k hk i hi2).2
    omega
  have esub : (hi 7 j 2 - hi 7 j 4 : Int32) = nI l := by
    rw [t2, t4, pk_sub (by omega), Nat.add_sub_cancel_left]
  generalize hm : fx_slen.getD k 0 = m at h8 htx
  have ek : tx_k k = kC (tx_c k) m := by unfold tx_k; rw [hm]
  refine fx_meth fx_M77 [some (gO j), some (uO k), none, none] (by decide) rfl rfl (Nat.le_of_ble_eq_true rfl) ?_
  have hlen := j_len (d := d + 2) (h := hp σ hi hl) hk
  rw [hm] at hlen
  by_cases hlm : l = m
  · subst hlm
    have ew : wk = kC (fun i => lx_c (T (q + i))) l := by rw [ewk, if_pos ⟨by omega, h8⟩]
    have kpos : 0 < tx_k k := by
      rw [ek]
      obtain ⟨l', rfl⟩ : ∃ l', l = l' + 1 := ⟨l - 1, by omega⟩
      have := kC_ge (c := tx_c k) l' (fun i hi2 => (htx i hi2).1)
      have := rw_pp (W := 256) (by decide) l'
      omega
    have loop : ∀ t i, i + t = l → (∀ x, x < i → lx_c (T (q + x)) = tx_c k x) → fx_E (fx_Ga (d + 3)) fx_M77 (30, [some (gO j), some (uO k), some (vi (nI l)), some (vi (nI i))], [], hp σ hi hl, 0, 0) (fun r2 h2 => r2 = some (vi (b01 (decide (0 < tx_k k ∧ wk = tx_k k)))) ∧ h2 = hp σ hi hl) := by
      intro t
      induction t with
      | zero =>
        intro i hi2 hx
        have : i = l := by omega
        subst this
        have : wk = tx_k k := by rw [ew, ek]; exact kC_congr i hx
        rw [decide_eq_true ⟨kpos, this⟩]
        exact fx_wpL [30] 40 (pk_le i i (fun _ => ⟨Or.inr rfl, rfl, rfl⟩) (fun h => by omega))
      | succ t ih =>
        intro i hi2 hx
        have ei : (hi 7 j 4 + nI i : Int32) = nI (q + i) := by rw [t4, nI_add]
        have ev : hi 20 0 (hi 7 j 4 + nI i).toNatClampNeg = nI (lx_c (T (q + i))) := by
          rw [ei, sg_at hs (by omega)]
          exact (hdig i (by omega)).2.2
        have hd := hdig i (by omega)
        have hx2 := htx i (by omega)
        have hch := j_chr (d := d) (h := hp σ hi hl) (k := k) (i := i) hk (by omega)
        refine fx_wpL [30] 60 (pk_le l i (fun h => by omega) (fun _ => pk_le 400 (q + i) (fun h => by omega) (fun _ => ⟨ni_inx (n := q + i) (m := 400) ei (by omega) (by decide), _, _, hch, pk_eq (lx_c (T (q + i))) (tx_c k i) (fun e => ?_) (fun e => ?_) ev⟩) rfl ei))
        · have h2 := ih (i + 1) (by omega) (fun x hx2 => by
            by_cases z : x = i
            · subst z; exact e
            · exact hx x (by omega))
          rw [← nI_1] at h2
          exact h2
        · rw [decide_eq_false (fun w => e (kC_inj l (fun x hx => (hdig x hx).2.1) (fun x hx => (htx x hx).2) (by rw [← ew, ← ek]; exact w.2) i (by omega)))]
          exact ⟨Or.inl rfl, rfl, rfl⟩
    exact fx_wpE [30] 40 ⟨_, _, hlen, nn_eq 2 2 (fun _ => pk_eq l l (fun _ => loop l 0 (by omega) (fun x hx => absurd hx (by omega))) (fun h => absurd rfl h) esub) (fun h => absurd rfl h) t3⟩
  · rw [decide_eq_false (fun w => ?_)]
    · exact fx_wpE [30] 40 ⟨_, _, hlen, nn_eq 2 2 (fun _ => pk_eq l m (fun h => absurd h hlm) (fun _ => ⟨Or.inl rfl, rfl, rfl⟩) esub) (fun h => absurd rfl h) t3⟩
    · by_cases h : 0 < l ∧ l < 8
      · rw [if_pos h] at ewk
        exact hlm (kC_len (fun i hi2 => ⟨(hdig i hi2).1, (hdig i hi2).2.1⟩) htx (by rw [← ewk, ← ek]; exact w.2))
      · rw [if_neg h] at ewk
        omega
theorem x_isWordNo (h3 : hi 7 j 3 = nI p) (hp2 : p ≠ 2) (hpb : p < 10) {k : Nat} (hk : k < 18) : fx_Ga (d + 2) 77 [gO j, uO k] (hp σ hi hl) (some (vi 0)) (hp σ hi hl) := by
  refine fx_meth fx_M77 [some (gO j), some (uO k), none, none] (by decide) rfl rfl (Nat.le_of_ble_eq_true rfl) ?_
  exact fx_wpE [30] 40 ⟨_, _, j_len hk, nn_eq p 2 (fun h => absurd h hp2) (fun _ => ⟨Or.inl rfl, rfl, rfl⟩) h3⟩
/-- which text a number of the reader has -/
def tx_of (i : Nat) : Nat := [1, 3, 4, 5, 6, 7, 8, 2, 9, 10, 11, 17, 17, 17, 17, 17, 17, 17, 17, 17, 17, 12, 13, 14, 17, 15, 16].getD i 17
theorem x_textOf {h : fxH} {i : Nat} (hi2 : i < 27) : fx_Ga (d + 1) 63 [vi (nI i)] h (some (uO (tx_of i))) h := by
  refine fx_meth fx_M63 [some (vi (nI i))] (by decide) rfl rfl (Nat.le_of_ble_eq_true rfl) (fx_wpE [] 30 ?_)
  rcases (show i = 0 ∨ i = 1 ∨ i = 2 ∨ i = 3 ∨ i = 4 ∨ i = 5 ∨ i = 6 ∨ i = 7 ∨ i = 8 ∨ i = 9 ∨ i = 10 ∨ i = 11 ∨ i = 12 ∨ i = 13 ∨ i = 14 ∨ i = 15 ∨ i = 16 ∨ i = 17 ∨ i = 18 ∨ i = 19 ∨ i = 20 ∨ i = 21 ∨ i = 22 ∨ i = 23 ∨ i = 24 ∨ i = 25 ∨ i = 26 by omega) with rfl | rfl | rfl | rfl | rfl | rfl | rfl | rfl | rfl | rfl | rfl | rfl | rfl | rfl | rfl | rfl | rfl | rfl | rfl | rfl | rfl | rfl | rfl | rfl | rfl | rfl | rfl
  all_goals exact tsw (by decide) ⟨_, rfl, rfl, rfl⟩
/-- which of the reader's words -/
def wIx (w : Nat) : Option Nat := vFst (fun i => decide (0 < tx_k (tx_of i) ∧ w = tx_k (tx_of i))) 27 0
abbrev rrO : fxV := .inr (.inr (some (6, 0)))
theorem x_wordHere (hs : SG hi 1 n T) (hqn : q ≤ n) (hk2 : TK hi 1 p q (tkd T n q)) : fx_Ga (d + 5) 62 [rrO] (hp σ hi hl) (some (vi (oI (if (tkd T n q).1 = 2 then wIx (lx_wk T n q) else none)))) (hp σ hi hl) := by
  have h400 := hs.1
  by_cases h2 : (tkd T n q).1 = 2
  · rw [if_pos h2]
    have hq : q < n ∧ lx_L (T q) = true ∧ tkd T n q = (2, 0, lx_rn lx_L T n q) := by
      unfold tkd at h2 ⊢
      by_cases hq : q < n
      · rw [if_pos hq] at h2 ⊢
        by_cases hD : lx_D (T q) = true
        · rw [if_pos hD] at h2
          cases h2
        · rw [if_neg hD] at h2 ⊢
          by_cases hL : lx_L (T q) = true
          · rw [if_pos hL]
            exact ⟨hq, hL, rfl⟩
          · rw [if_neg hL] at h2
            exfalso
            unfold mkd at h2
            repeat' split at h2
            all_goals cases h2
      · rw [if_neg hq] at h2
        cases h2
    obtain ⟨hq1, hL, et⟩ := hq
    rw [et] at hk2
    have t3 : hi 7 1 3 = nI 2 := hk2.2.1
    refine fx_meth fx_M62 [some rrO, none] (by decide) rfl rfl (Nat.le_of_ble_eq_true rfl) ?_
    have loop : ∀ t i, i + t = 27 → vFst (fun i => decide (0 < tx_k (tx_of i) ∧ lx_wk T n q = tx_k (tx_of i))) t i = wIx (lx_wk T n q) → fx_E (fx_Ga (d + 4)) fx_M62 (2, [some rrO, some (vi (nI i))], [], hp σ hi hl, 0, 0) (fun r2 h2 => r2 = some (vi (oI (wIx (lx_wk T n q)))) ∧ h2 = hp σ hi hl) := by
      intro t
      induction t with
      | zero =>
        intro i hi2 he
        have : i = 27 := by omega
        subst this
        rw [← he]
        exact fx_wpL [2] 40 (pk_le 27 27 (fun _ => ⟨rfl, rfl⟩) (fun h => by omega))
      | succ t ih =>
        intro i hi2 he
        have k18 : tx_of i < 18 := (by decide : ∀ i, i < 27 → tx_of i < 18) i (by omega)
        have hw := x_isWord (d := d) (σ := σ) (hl := hl) hs hq1 hL hk2 k18
        refine fx_wpL [2] 60 (pk_le 27 i (fun h => by omega) (fun _ => nn_eq 2 2 (fun _ => ⟨_, _, x_textOf (by omega), _, _, hw, b01_if (fun z => ?_) (fun z => ?_)⟩) (fun h => absurd rfl h) t3))
        · rw [vFst_f z] at he
          have h3 := ih (i + 1) (by omega) he
          rw [← nI_1] at h3
          exact h3
        · rw [vFst_t z] at he
          rw [← he]
          exact ⟨rfl, rfl⟩
    exact fx_wpE [2] 9 (loop 27 0 rfl rfl)
  · rw [if_neg h2]
    have t3 : hi 7 1 3 = nI (tkd T n q).1 := hk2.2.1
    have b10 : (tkd T n q).1 < 10 := by
      unfold tkd mkd
      repeat' split
      all_goals (dsimp only; omega)
    exact fx_meth fx_M62 [some rrO, none] (by decide) rfl rfl (Nat.le_of_ble_eq_true rfl) (fx_wpE [] 40 (pk_le 27 0 (fun h => by omega) (fun _ => nn_eq (tkd T n q).1 2 (fun h => absurd h h2) (fun _ => ⟨rfl, rfl⟩) t3)))
end XWD
