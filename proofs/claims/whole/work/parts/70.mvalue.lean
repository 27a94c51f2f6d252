/-! numbers, words and values: the reference -/
def wdx (w : Nat) : Option Nat := if w = 491394458994 then some 0 else if w = 1885430629 then some 1 else if w = 6775152 then some 2 else if w = 108187682958948 then some 3 else if w = 465558725996 then some 4 else if w = 7304564 then some 5 else if w = 7823731 then some 6 else if w = 1734440037 then some 7 else if w = 28833010696676197 then some 8 else if w = 7102839 then some 9 else if w = 1937007984 then some 10 else none
theorem wdx_lt {w i : Nat} (h : wdx w = some i) : i < 11 := by
  unfold wdx at h
  repeat' split at h
  all_goals first | (cases h; decide) | cases h
/-- fault, or place, parts and codes -/
abbrev fxQ : Type := Nat ⊕ (Nat × Nat × List Nat)
def RSt (hi : fxI3) (t p P : Nat) (L : List Nat) : Prop := hi 11 0 8 = nI p ∧ hi 11 0 9 = 0 ∧ hi 11 0 11 = nI t ∧ hi 11 0 12 = nI P ∧ hi 52 0 t = nI L.length ∧ ∀ k, k < L.length → hi 51 0 (400 * t + k) = nI (L.getD k 0)
def FrS (t : Nat) (hi hi' : fxI3) : Prop := ∀ k j s, ¬ (k = 11 ∧ (s = 8 ∨ s = 9 ∨ s = 10 ∨ s = 12)) → ¬ (k = 52 ∧ s = t) → ¬ (k = 51 ∧ 400 * t ≤ s) → hi' k j s = hi k j s
theorem FrS.rf (t : Nat) (hi : fxI3) : FrS t hi hi := fun _ _ _ _ _ _ => rfl
theorem FrS.tr {t : Nat} {a b c : fxI3} (h : FrS t a b) (g : FrS t b c) : FrS t a c := fun k j s h1 h2 h3 => (g k j s h1 h2 h3).trans (h k j s h1 h2 h3)
theorem FrS.up {t : Nat} (hi : fxI3) {k j s : Nat} (x : Int32) (h : k = 11 ∧ (s = 8 ∨ s = 9 ∨ s = 10 ∨ s = 12) ∨ k = 52 ∧ s = t ∨ k = 51 ∧ 400 * t ≤ s) : FrS t hi (fx_up hi k j s x) := fun k' j' s' h1 h2 h3 => up_off hi x (fun z => by
  obtain ⟨z1, _, z3⟩ := z
  subst z1; subst z3
  rcases h with h | h | h
  · exact h1 h
  · exact h2 h
  · exact h3 h)
theorem TM.fs {hi hi' : fxI3} {n t : Nat} {T : Nat → Int32} (h : TM hi n T) (f : FrS t hi hi') : TM hi' n T := ⟨h.1, (f 11 0 1 (by omega) (by omega) (by omega)).trans h.2.1, fun i hi2 => (f 50 0 i (by omega) (by omega) (by omega)).trans (h.2.2 i hi2)⟩
def QR (D y : Nat) (av : List fxV) (σ : fxS) (hi : fxI3) (hl : fxL3) (t : Nat) (L : List Nat) (res : fxQ) : Prop := match res with
  | .inl f => ∃ hi', fx_Ga D y av (hp σ hi hl) (some (vi 0)) (hp σ hi' hl) ∧ FrS t hi hi' ∧ hi' 11 0 9 = nI f
  | .inr (p', P', xs) => ∃ hi', fx_Ga D y av (hp σ hi hl) (some (vi 1)) (hp σ hi' hl) ∧ FrS t hi hi' ∧ RSt hi' t p' P' (L ++ xs)
def vV (T : Nat → Int32) (n p P : Nat) : fxQ :=
  let q := lx_rn lx_S T n p
  if q < n ∧ lx_D (T q) = true then (if 5 < lx_rn lx_D T n q - q then .inl (2 + 8 * q) else if P = 60 then .inl (4 + 8 * q) else .inr (lx_rn lx_D T n q, P + 1, [16 * lx_nv T q (lx_rn lx_D T n q - q)]))
  else match wdx (lx_wk T n q) with
    | none => .inl (1 + 8 * q)
    | some w => if P = 60 then .inl (4 + 8 * q) else .inr (lx_rn lx_L T n q, P + 1, [1 + 16 * w])
theorem getD_app {L : List Nat} {x k : Nat} (hk : k < (L ++ [x]).length) : (L ++ [x]).getD k 0 = if k = L.length then x else L.getD k 0 := by
  rw [List.length_append] at hk
  have hk : k < L.length + 1 := hk
  by_cases e : k = L.length
  · subst e
    rw [if_pos rfl]
    simp
  · rw [if_neg e, List.getD_eq_getElem?_getD, List.getElem?_append_left (by omega), ← List.getD_eq_getElem?_getD]
section MV
variable {d : Nat} {σ : fxS} {hi : fxI3} {hl : fxL3} {n p t P : Nat} {T : Nat → Int32} {L : List Nat}
theorem m_numberHere (ht : TM hi n T) (hp1 : hi 11 0 8 = nI p) (hpn : p ≤ n) (h9 : hi 11 0 9 = 0) (lo mo : Int32) {q e v : Nat} (hq : lx_rn lx_S T n p = q) (he : lx_rn lx_D T n q = e) (hv : lx_nv T q (e - q) = v) :
    fx_Ga (d + 2) 155 [mO, vi lo, vi mo] (hp σ hi hl) (some (vi (if q < n ∧ lx_D (T q) = true then (if e - q ≤ 5 ∧ (lo ≤ nI v ∧ nI v ≤ mo) then 1 else 0) else 0))) (hp σ (if q < n ∧ lx_D (T q) = true then (if e - q ≤ 5 ∧ (lo ≤ nI v ∧ nI v ≤ mo) then fx_up (fx_up hi 11 0 8 (nI e)) 11 0 10 (nI v) else fx_up (fx_up (fx_up hi 11 0 8 (nI e)) 11 0 10 (nI v)) 11 0 9 (nI (1 + 8 * q + 1))) else fx_up (fx_up hi 11 0 8 (nI q)) 11 0 9 (nI (1 + 8 * q + 0))) hl) := by
  have h400 := ht.1
  have hs := m_see (d := d) (σ := σ) (hl := hl) ht hp1 hpn
  rw [hq] at hs
  have hqn : q ≤ n := by rw [← hq]; exact rn_le hpn
  have hen : e ≤ n := by rw [← he]; exact rn_le hqn
  have hge : q ≤ e := by rw [← he]; exact rn_ge
  have hal : ∀ i, i < e - q → lx_D (T (q + i)) = true := fun i hi2 => rn_all (P := lx_D) (T := T) (n := n) (p := q) (by omega) (by omega)
  have hend : e < n → lx_D (T e) = false := fun h => by
    have := rn_end (P := lx_D) (T := T) hqn (by rw [he]; exact h)
    rw [he] at this
    exact this
  have hdig := m_isDigit (d := d) (σ := σ) (hi := fx_up hi 11 0 8 (nI q)) (hl := hl) ht (k := q) (by omega)
  have hfail := m_fails (d := d) (σ := σ) (hi := fx_up hi 11 0 8 (nI q)) (hl := hl) h9 0 q
  refine fx_meth fx_M155 [some mO, some (vi lo), some (vi mo), none, none] (by decide) rfl rfl (Nat.le_of_ble_eq_true rfl) (fx_wpE [34] 60 ?_)
  refine ⟨_, _, hs, _, _, hdig, b01_nf (fun z => ?_) (fun z => ?_)⟩
  · rw [Bool.and_eq_true] at z
    have z : q < n ∧ lx_D (T q) = true := ⟨of_decide_eq_true z.1, z.2⟩
    rw [if_pos z, if_pos z]
    obtain ⟨l, hl1⟩ : ∃ l, e = q + l := ⟨e - q, by omega⟩
    subst hl1
    rw [Nat.add_sub_cancel_left] at hal hv ⊢
    have loop : ∀ t k, k + t = l → fx_E (fx_Ga (d + 1)) fx_M155 (34, [some mO, some (vi lo), some (vi mo), some (vi (nI q)), some (vi (nI (lx_nv T q k)))], [], hp σ (fx_up hi 11 0 8 (nI (q + k))) hl, 0, 0) (fun r2 h2 => r2 = some (vi (if l ≤ 5 ∧ (lo ≤ nI v ∧ nI v ≤ mo) then 1 else 0)) ∧ h2 = hp σ (if l ≤ 5 ∧ (lo ≤ nI v ∧ nI v ≤ mo) then fx_up (fx_up hi 11 0 8 (nI (q + l))) 11 0 10 (nI v) else fx_up (fx_up (fx_up hi 11 0 8 (nI (q + l))) 11 0 10 (nI v)) 11 0 9 (nI (1 + 8 * q + 1))) hl) := by
      intro t
      induction t with
      | zero =>
        intro k hk
        have : k = l := by omega
        subst this
        have hl2 := m_isDigit (d := d) (σ := σ) (hi := fx_up hi 11 0 8 (nI (q + k))) (hl := hl) ht (k := q + k) (by omega)
        have ef : (decide (q + k < n) && lx_D (T (q + k))) = false := by
          by_cases h : q + k < n
          · rw [hend h, Bool.and_false]
          · rw [decide_eq_false h, Bool.false_and]
        rw [ef] at hl2
        rw [hv]
        have esub : (nI (q + k) - nI q : Int32) = nI k := by
          rw [pk_sub (by omega), Nat.add_sub_cancel_left]
        have hf2 := m_fails (d := d) (σ := σ) (hi := fx_up (fx_up hi 11 0 8 (nI (q + k))) 11 0 10 (nI v)) (hl := hl) h9 1 q
        refine fx_wpL [34] 60 ⟨_, _, hl2, b01_if (fun _ => ?_) (fun z => by cases z)⟩
        refine pk_lt 5 k (fun h => ⟨_, _, hf2, ?_⟩) (fun h => ⟨_, _, m_inN (nI v) lo mo rfl rfl, bd_nf (fun hc => ?_) (fun hc => ⟨_, _, hf2, ?_⟩)⟩) rfl esub
        · rw [if_neg (fun w => by have := w.1; omega), if_neg (fun w => by have := w.1; omega)]
          exact ⟨fun _ => ⟨Or.inl rfl, rfl, rfl⟩, fun w => absurd rfl w⟩
        · rw [if_pos ⟨by omega, hc⟩, if_pos ⟨by omega, hc⟩]
          exact ⟨Or.inr rfl, rfl, rfl⟩
        · rw [if_neg (fun w => hc w.2), if_neg (fun w => hc w.2)]
          exact ⟨fun _ => ⟨Or.inl rfl, rfl, rfl⟩, fun w => absurd rfl w⟩
      | succ t ih =>
        intro k hk
        have hl2 := m_isDigit (d := d) (σ := σ) (hi := fx_up hi 11 0 8 (nI (q + k))) (hl := hl) ht (k := q + k) (by omega)
        rw [decide_eq_true (show q + k < n by omega), hal k (by omega)] at hl2
        have esub : (nI (q + k) - nI q : Int32) = nI k := by
          rw [pk_sub (by omega), Nat.add_sub_cancel_left]
        have h2 := ih (k + 1) (by omega)
        rw [← up_up hi 11 0 8 (nI (q + k)) (nI (q + (k + 1))), ← Nat.add_assoc, ← nI_1 (q + k)] at h2
        refine fx_wpL [34] 60 ⟨_, _, hl2, b01_if (fun z => by cases z) (fun _ => pk_le 5 k (fun h => ?_) (fun h => ?_) rfl esub)⟩
        · rw [show lx_nv T q (k + 1) = lx_nv T q k by unfold lx_nv; rw [if_neg (by omega)]; cases k <;> rfl] at h2
          exact h2
        · obtain ⟨g, g1, g2, g3⟩ := lx_D_of (hal k (by omega))
          have ev : (10 * nI (lx_nv T q k) + hi 50 0 (nI (q + k)).toNatClampNeg - 48 : Int32) = nI (lx_nv T q (k + 1)) := by
            rw [tm_at ht (show q + k < n by omega), g2]
            show nI 10 * nI _ + nI _ - nI 48 = nI (if k < 5 then 10 * lx_nv T q k + (lx_c (T (q + k)) - 48) else lx_nv T q k)
            rw [if_pos h, g3, pk_mul, nI_add, pk_sub (by omega)]
            congr 1
            omega
          rw [← ev] at h2
          exact ⟨ni_in (n := q + k) (m := 400) (by omega) (by decide), h2⟩
    exact loop l 0 (by omega)
  · have z : ¬ (q < n ∧ lx_D (T q) = true) := fun w => by rw [decide_eq_true w.1, w.2] at z; cases z
    rw [if_neg z, if_neg z]
    exact ⟨_, _, hfail, Or.inl rfl, rfl, rfl⟩
theorem m_wordHere (ht : TM hi n T) (hp1 : hi 11 0 8 = nI p) (hpn : p ≤ n) (hq : lx_rn lx_S T n p = p) : fx_Ga (d + 3) 156 [mO] (hp σ hi hl) (some (vi (oI (wdx (lx_wk T n p))))) (hp σ hi hl) := by
  refine fx_meth fx_M156 [some mO] (by decide) rfl rfl (Nat.le_of_ble_eq_true rfl) (fx_wpE [] 80 ?_)
  refine ⟨_, _, m_isWordQ ht hp1 hpn hq (c := 491394458994) (by decide) (by decide), bd_if (fun h0 => ?_) (fun h => ⟨by rw [h]; rfl, rfl⟩)⟩
  refine ⟨_, _, m_isWordQ ht hp1 hpn hq (c := 1885430629) (by decide) (by decide), bd_if (fun h1 => ?_) (fun h => ⟨by rw [h]; rfl, rfl⟩)⟩
  refine ⟨_, _, m_isWordQ ht hp1 hpn hq (c := 6775152) (by decide) (by decide), bd_if (fun h2 => ?_) (fun h => ⟨by rw [h]; rfl, rfl⟩)⟩
  refine ⟨_, _, m_isWordQ ht hp1 hpn hq (c := 108187682958948) (by decide) (by decide), bd_if (fun h3 => ?_) (fun h => ⟨by rw [h]; rfl, rfl⟩)⟩
  refine ⟨_, _, m_isWordQ ht hp1 hpn hq (c := 465558725996) (by decide) (by decide), bd_if (fun h4 => ?_) (fun h => ⟨by rw [h]; rfl, rfl⟩)⟩
  refine ⟨_, _, m_isWordQ ht hp1 hpn hq (c := 7304564) (by decide) (by decide), bd_if (fun h5 => ?_) (fun h => ⟨by rw [h]; rfl, rfl⟩)⟩
  refine ⟨_, _, m_isWordQ ht hp1 hpn hq (c := 7823731) (by decide) (by decide), bd_if (fun h6 => ?_) (fun h => ⟨by rw [h]; rfl, rfl⟩)⟩
  refine ⟨_, _, m_isWordQ ht hp1 hpn hq (c := 1734440037) (by decide) (by decide), bd_if (fun h7 => ?_) (fun h => ⟨by rw [h]; rfl, rfl⟩)⟩
  refine ⟨_, _, m_isWordQ ht hp1 hpn hq (c := 28833010696676197) (by decide) (by decide), bd_if (fun h8 => ?_) (fun h => ⟨by rw [h]; rfl, rfl⟩)⟩
  refine ⟨_, _, m_isWordQ ht hp1 hpn hq (c := 7102839) (by decide) (by decide), bd_if (fun h9 => ?_) (fun h => ⟨by rw [h]; rfl, rfl⟩)⟩
  refine ⟨_, _, m_isWordQ ht hp1 hpn hq (c := 1937007984) (by decide) (by decide), bd_if (fun h10 => ?_) (fun h => ⟨by rw [h]; rfl, rfl⟩)⟩
  refine ⟨?_, rfl⟩
  unfold wdx
  rw [if_neg h0, if_neg h1, if_neg h2, if_neg h3, if_neg h4, if_neg h5, if_neg h6, if_neg h7, if_neg h8, if_neg h9, if_neg h10]
  rfl
theorem m_puts (hr : RSt hi t p P L) (t6 : t < 6) (hL : L.length < 400) (s v : Nat) : ∃ hi', fx_Ga (d + 1) 157 [mO, vi (nI s), vi (nI v)] (hp σ hi hl) none (hp σ hi' hl) ∧ FrS t hi hi' ∧ RSt hi' t p P (L ++ [s + 16 * v]) ∧ hi' 11 0 10 = hi 11 0 10 := by
  obtain ⟨r1, r2, r3, r4, r5, r6⟩ := hr
  have b7 := ni_inx (n := t) (m := 7) r3 (by omega) (by decide)
  have e52 : hi 52 0 (hi 11 0 11).toNatClampNeg = nI L.length := by
    rw [ni_cl r3 (by omega)]
    exact r5
  have ix : (400 * hi 11 0 11 + hi 52 0 (hi 11 0 11).toNatClampNeg : Int32) = nI (400 * t + L.length) := by
    rw [e52, r3]
    show nI 400 * nI t + nI _ = _
    rw [pk_mul, nI_add]
  have ev : (nI s + 16 * nI v : Int32) = nI (s + 16 * v) := by
    show nI s + nI 16 * nI v = _
    rw [pk_mul, nI_add]
  refine ⟨fx_up (fx_up hi 51 0 (400 * t + L.length) (nI (s + 16 * v))) 52 0 t (nI (L.length + 1)), ?_, (FrS.up hi _ (by omega)).tr (FrS.up _ _ (by omega)), ⟨r1, r2, r3, r4, ?_, fun k hk => ?_⟩, rfl⟩
  · refine fx_meth fx_M157 [some mO, some (vi (nI s)), some (vi (nI v))] (by decide) rfl rfl (Nat.le_of_ble_eq_true rfl) (fx_wpE [] 60 ?_)
    refine ⟨b7, ni_inx (n := 400 * t + L.length) (m := 2400) ix (by omega) (by decide), b7, b7, rfl, ?_⟩
    show hp σ (fx_up (fx_up hi 51 0 (400 * hi 11 0 11 + hi 52 0 (hi 11 0 11).toNatClampNeg : Int32).toNatClampNeg (nI s + 16 * nI v)) 52 0 (hi 11 0 11).toNatClampNeg (hi 52 0 (hi 11 0 11).toNatClampNeg + 1)) hl = _
    rw [ni_cl ix (by omega), ev, e52, nI_1, ni_cl r3 (by omega)]
  · rw [up_at, List.length_append]
    rfl
  · rw [getD_app hk, up_off _ _ (by omega)]
    by_cases e : k = L.length
    · subst e
      rw [if_pos rfl, up_at]
    · rw [if_neg e, up_off _ _ (by omega)]
      rw [List.length_append] at hk
      exact r6 k (by have hk : k < L.length + 1 := hk; omega)
theorem m_makes (hr : RSt hi t p P L) (hP : P ≤ 60) (a : Nat) : fx_Ga (d + 2) 158 [mO, vi (nI a)] (hp σ hi hl) (some (vi (if P = 60 then 0 else 1))) (hp σ (if P = 60 then fx_up hi 11 0 9 (nI (1 + 8 * a + 3)) else fx_up hi 11 0 12 (nI (P + 1))) hl) := by
  obtain ⟨r1, r2, r3, r4, r5, r6⟩ := hr
  refine fx_meth fx_M158 [some mO, some (vi (nI a))] (by decide) rfl rfl (Nat.le_of_ble_eq_true rfl) (fx_wpE [] 40 ?_)
  refine nn_eq P 60 (fun e => ?_) (fun e => ?_) r4
  · rw [if_pos e, if_pos e]
    exact ⟨_, _, m_fails r2 3 a, Or.inl rfl, rfl, rfl⟩
  · rw [if_neg e, if_neg e]
    refine ⟨Or.inr rfl, rfl, ?_⟩
    show hp σ (fx_up hi 11 0 12 (hi 11 0 12 + 1)) hl = _
    rw [r4, nI_1]
theorem m_value (ht : TM hi n T) (hr : RSt hi t p P L) (hpn : p ≤ n) (t6 : t < 6) (hP : P ≤ 60) (hL : L.length ≤ p) : QR (d + 4) 162 [mO] σ hi hl t L (vV T n p P) := by
  have h400 := ht.1
  obtain ⟨r1, r2, r3, r4, r5, r6⟩ := id hr
  have hs := m_see (d := d + 2) (σ := σ) (hl := hl) ht r1 hpn
  have hqn : lx_rn lx_S T n p ≤ n := rn_le hpn
  have hqp : p ≤ lx_rn lx_S T n p := rn_ge
  have hidem := rn_idem (P := lx_S) (T := T) hpn
  have hnum := fun lo mo => m_numberHere (d := d + 1) (σ := σ) (hi := fx_up hi 11 0 8 (nI (lx_rn lx_S T n p))) (hl := hl) (p := lx_rn lx_S T n p) ht (up_at _ _ _ _ _) hqn r2 lo mo hidem rfl rfl
  have hdig := m_isDigit (d := d + 2) (σ := σ) (hi := fx_up hi 11 0 8 (nI (lx_rn lx_S T n p))) (hl := hl) ht (k := lx_rn lx_S T n p) (by omega)
  have hwd := m_wordHere (d := d) (σ := σ) (hi := fx_up hi 11 0 8 (nI (lx_rn lx_S T n p))) (hl := hl) (p := lx_rn lx_S T n p) ht (up_at _ _ _ _ _) hqn hidem
  unfold vV
  dsimp only
  generalize lx_rn lx_S T n p = q at hs hqn hqp hidem hnum hdig hwd ⊢
  have hr1 : RSt (fx_up hi 11 0 8 (nI q)) t q P L := ⟨up_at _ _ _ _ _, r2, r3, r4, r5, r6⟩
  have F1 : FrS t hi (fx_up hi 11 0 8 (nI q)) := FrS.up hi _ (by omega)
  -- the walk, with what must hold at its end
  have key : ∀ {B : Bool} {Q : fxI3 → Prop}, fx_E (fx_Ga (d + 3)) fx_M162 (5, [some mO, none, none], [], hp σ (fx_up hi 11 0 8 (nI q)) hl, 0, 0) (fun r2 h2 => r2 = some (vi (b01 B)) ∧ ∃ hi', h2 = hp σ hi' hl ∧ Q hi') → ∃ hi', fx_Ga (d + 4) 162 [mO] (hp σ hi hl) (some (vi (b01 B))) (hp σ hi' hl) ∧ Q hi' := by
    intro B Q k
    obtain ⟨r, h', hg', e1, hi', e2, e3⟩ := fx_methX (d := d + 3) (y := 162) (av := [mO]) (h := hp σ hi hl) fx_M162 [some mO, none, none] (by decide) rfl rfl (Nat.le_of_ble_eq_true rfl) (fx_wpE [5] 20 ⟨_, _, hs, k⟩)
    subst e1
    subst e2
    exact ⟨hi', hg', e3⟩
  by_cases hD : q < n ∧ lx_D (T q) = true
  · rw [decide_eq_true hD.1, hD.2] at hdig
    have he1 : lx_rn lx_D T n q ≤ n := rn_le hqn
    have he2 : q + 1 ≤ lx_rn lx_D T n q := by
      rw [rn_st hD.1 hD.2]
      exact rn_ge
    have hv5 := lx_nv_5 T q (lx_rn lx_D T n q - q) (fun i hi2 => rn_all (P := lx_D) (T := T) (n := n) (p := q) (by omega) (by omega))
    rw [if_pos hD]
    have hn2 := hnum 0 99999
    rw [if_pos hD, if_pos hD] at hn2
    generalize lx_rn lx_D T n q = e at he1 he2 hv5 hn2 ⊢
    generalize lx_nv T q (e - q) = v at hv5 hn2 ⊢
    have inr : (0 : Int32) ≤ nI v ∧ nI v ≤ 99999 := ⟨nI_pos' (by omega), Int32.not_lt.mp (fun z => by
      have := (nI_ltI (a := 99999) (b := v) (by decide) (by omega)).mp z
      omega)⟩
    by_cases h5 : 5 < e - q
    · rw [if_pos h5]
      rw [if_neg (fun w => by have := w.1; omega), if_neg (fun w => by have := w.1; omega)] at hn2
      refine key (B := false) (Q := fun hi' => FrS t hi hi' ∧ hi' 11 0 9 = nI (2 + 8 * q)) (fx_wpE [] 60 ⟨_, _, hdig, b01_if (fun z => by cases z) (fun _ => ⟨_, _, hn2, fun _ => ⟨Or.inl rfl, rfl, _, rfl, ?_, ?_⟩, fun w => absurd rfl w⟩)⟩)
      · exact ((F1.tr (FrS.up _ _ (by omega))).tr (FrS.up _ _ (by omega))).tr (FrS.up _ _ (by omega))
      · rw [up_at, show 1 + 8 * q + 1 = 2 + 8 * q by omega]
    · rw [if_neg h5]
      rw [if_pos ⟨by omega, inr⟩, if_pos ⟨by omega, inr⟩] at hn2
      have hr2 : RSt (fx_up (fx_up (fx_up hi 11 0 8 (nI q)) 11 0 8 (nI e)) 11 0 10 (nI v)) t e P L := ⟨rfl, r2, r3, r4, r5, r6⟩
      have F2 : FrS t hi (fx_up (fx_up (fx_up hi 11 0 8 (nI q)) 11 0 8 (nI e)) 11 0 10 (nI v)) := (F1.tr (FrS.up _ _ (by omega))).tr (FrS.up _ _ (by omega))
      have hmk := m_makes (d := d + 1) (σ := σ) (hl := hl) hr2 hP q
      by_cases h60 : P = 60
      · rw [if_pos h60]
        rw [if_pos h60, if_pos h60] at hmk
        refine key (B := false) (Q := fun hi' => FrS t hi hi' ∧ hi' 11 0 9 = nI (4 + 8 * q)) (fx_wpE [] 60 ⟨_, _, hdig, b01_if (fun z => by cases z) (fun _ => ⟨_, _, hn2, fun w => absurd w (by decide), fun _ => ⟨_, _, hmk, fun w => absurd rfl w, fun _ => ⟨Or.inl rfl, rfl, _, rfl, F2.tr (FrS.up _ _ (by omega)), ?_⟩⟩⟩)⟩)
        rw [up_at, show 1 + 8 * q + 3 = 4 + 8 * q by omega]
      · rw [if_neg h60]
        rw [if_neg h60, if_neg h60] at hmk
        have hr3 : RSt (fx_up (fx_up (fx_up (fx_up hi 11 0 8 (nI q)) 11 0 8 (nI e)) 11 0 10 (nI v)) 11 0 12 (nI (P + 1))) t e (P + 1) L := ⟨hr2.1, r2, r3, up_at _ _ _ _ _, r5, r6⟩
        obtain ⟨hi4, hg4, f4, hr4, _⟩ := m_puts (d := d + 2) (σ := σ) (hl := hl) hr3 t6 (by omega) 0 v
        rw [Nat.zero_add] at hr4
        exact key (B := true) (Q := fun hi' => FrS t hi hi' ∧ RSt hi' t e (P + 1) (L ++ [16 * v])) (fx_wpE [] 60 ⟨_, _, hdig, b01_if (fun z => by cases z) (fun _ => ⟨_, _, hn2, fun w => absurd w (by decide), fun _ => ⟨_, _, hmk, fun _ => ⟨_, _, hg4, Or.inr rfl, rfl, hi4, rfl, (F2.tr (FrS.up _ _ (by omega))).tr f4, hr4⟩, fun w => absurd (fun z => absurd z (by decide)) w⟩⟩)⟩)
  · have hdf : (decide (q < n) && lx_D (T q)) = false := by
      by_cases h : q < n
      · rw [decide_eq_true h, Bool.true_and]
        cases hc : lx_D (T q) with
        | false => rfl
        | true => exact absurd ⟨h, hc⟩ hD
      · rw [decide_eq_false h, Bool.false_and]
    rw [hdf] at hdig
    rw [if_neg hD]
    cases hw : wdx (lx_wk T n q) with
    | none =>
      rw [hw] at hwd
      have hf := m_fails (d := d + 2) (σ := σ) (hi := fx_up hi 11 0 8 (nI q)) (hl := hl) r2 0 q
      refine key (B := false) (Q := fun hi' => FrS t hi hi' ∧ hi' 11 0 9 = nI (1 + 8 * q)) (fx_wpE [] 60 ⟨_, _, hdig, b01_if (fun _ => ⟨_, _, hwd, fun w => absurd w (by decide), fun _ => ⟨_, _, hf, Or.inl rfl, rfl, _, rfl, F1.tr (FrS.up _ _ (by omega)), up_at _ _ _ _ _⟩⟩) (fun z => by cases z)⟩)
    | some w =>
      have w11 := wdx_lt hw
      rw [hw] at hwd
      have hqn2 : q < n := by
        by_cases h : q < n
        · exact h
        · have e0 : lx_wk T n q = 0 := by
            unfold lx_wk
            rw [rn_no (fun z => absurd z h), Nat.sub_self, if_neg (by omega)]
          rw [e0] at hw
          cases hw
      have hmk := m_makes (d := d + 1) (σ := σ) (hl := hl) hr1 hP q
      have w0 : ¬ ¬ (0 : Int32) ≤ nI w := fun z => z (nI_pos' (by omega))
      dsimp only
      by_cases h60 : P = 60
      · rw [if_pos h60]
        rw [if_pos h60, if_pos h60] at hmk
        refine key (B := false) (Q := fun hi' => FrS t hi hi' ∧ hi' 11 0 9 = nI (4 + 8 * q)) (fx_wpE [] 60 ⟨_, _, hdig, b01_if (fun _ => ⟨_, _, hwd, fun _ => ⟨_, _, hmk, fun w => absurd rfl w, fun _ => ⟨Or.inl rfl, rfl, _, rfl, F1.tr (FrS.up _ _ (by omega)), ?_⟩⟩, fun z => absurd z w0⟩) (fun z => by cases z)⟩)
        rw [up_at, show 1 + 8 * q + 3 = 4 + 8 * q by omega]
      · rw [if_neg h60]
        rw [if_neg h60, if_neg h60] at hmk
        have hpw := m_passWord (d := d + 1) (σ := σ) (hi := fx_up (fx_up hi 11 0 8 (nI q)) 11 0 12 (nI (P + 1))) (hl := hl) (p := q) ht rfl hqn
        have hr3 : RSt (fx_up (fx_up (fx_up hi 11 0 8 (nI q)) 11 0 12 (nI (P + 1))) 11 0 8 (nI (lx_rn lx_L T n q))) t (lx_rn lx_L T n q) (P + 1) L := ⟨up_at _ _ _ _ _, r2, r3, (up_off _ _ (by omega)).trans (up_at _ _ _ _ _), r5, r6⟩
        obtain ⟨hi4, hg4, f4, hr4, _⟩ := m_puts (d := d + 2) (σ := σ) (hl := hl) hr3 t6 (by omega) 1 w
        exact key (B := true) (Q := fun hi' => FrS t hi hi' ∧ RSt hi' t (lx_rn lx_L T n q) (P + 1) (L ++ [1 + 16 * w])) (fx_wpE [] 60 ⟨_, _, hdig, b01_if (fun _ => ⟨_, _, hwd, fun _ => ⟨_, _, hmk, fun _ => ⟨_, _, hpw, _, _, hg4, Or.inr rfl, rfl, hi4, rfl, ((F1.tr (FrS.up _ _ (by omega))).tr (FrS.up _ _ (by omega))).tr f4, hr4⟩, fun w => absurd (fun z => absurd z (by decide)) w⟩, fun z => absurd z w0⟩) (fun z => by cases z)⟩)
end MV
