/-! comparisons, and what is open: the reference -/
def cmO (T : Nat → Int32) (n q : Nat) : Option (Nat × Nat) := if q < n then (if T q = nI 60 then (if q + 1 < n ∧ T (q + 1) = nI 61 then some (7, q + 2) else some (6, q + 1)) else if T q = nI 61 then some (8, q + 1) else if T q = nI 62 then (if q + 1 < n ∧ T (q + 1) = nI 61 then some (9, q + 2) else some (10, q + 1)) else none) else none
def vCm (T : Nat → Int32) (n p P : Nat) : fxQ := match vSu T n p P with
  | .inl f => .inl f
  | .inr (p1, P1, xs) => match cmO T n (lx_rn lx_S T n p1) with
    | none => .inl (1 + 8 * lx_rn lx_S T n p1)
    | some (s, e) => if P1 = 60 then .inl (4 + 8 * lx_rn lx_S T n p1) else match vSu T n e (P1 + 1) with
      | .inl f => .inl f
      | .inr (p2, P2, ys) => .inr (p2, P2, xs ++ (ys ++ [s]))
theorem cmO_lt {T : Nat → Int32} {n q s e : Nat} (h : cmO T n q = some (s, e)) : q < e ∧ e ≤ n ∧ 6 ≤ s ∧ s ≤ 10 := by
  unfold cmO at h
  repeat' split at h
  all_goals first | (cases h; omega) | cases h
theorem vCm_g (T : Nat → Int32) (n : Nat) : gQ n (vCm T n) := by
  intro p P hp hP p' P' ys h
  unfold vCm at h
  split at h
  · cases h
  · rename_i p1 P1 xs hv
    obtain ⟨a1, a2, a3, a4, a5⟩ := vSu_g T n _ _ hp hP _ _ _ hv
    have hs := sk_ok T n p1 a2
    split at h
    · cases h
    · rename_i s e hc
      obtain ⟨c1, c2, c3, c4⟩ := cmO_lt hc
      split at h
      · cases h
      · split at h
        · cases h
        · rename_i p2 P2 zs hv2
          cases h
          obtain ⟨b1, b2, b3, b4, b5⟩ := vSu_g T n _ _ c2 (by omega) _ _ _ hv2
          refine ⟨by omega, b2, by omega, b4, ?_⟩
          rw [List.length_append, List.length_append]
          show _ + (_ + 1) ≤ _
          omega
section MC2
variable {d : Nat} {σ : fxS} {hi : fxI3} {hl : fxL3} {n p t P : Nat} {T : Nat → Int32} {L : List Nat}
theorem m_compare (hT : ∀ i, i < n → isB (T i)) (ht : TM hi n T) (hr : RSt hi t p P L) (hpn : p ≤ n) (t6 : t < 6) (hP : P ≤ 60) (hL : L.length ≤ p) : QR (d + 7) 165 [mO] σ hi hl t L (vCm T n p P) := by
  have h400 := ht.1
  have hin := m_sum (d := d) (σ := σ) (hl := hl) hT ht hr hpn t6 hP hL
  refine QR_of (d := d + 6) fx_M165 [some mO, none, none, none, none] (by decide) rfl rfl (Nat.le_of_ble_eq_true rfl) ?_
  unfold vCm
  cases hvv : vSu T n p P with
  | inl f =>
    rw [hvv] at hin
    obtain ⟨hi3, hg3, f3, e3⟩ := hin
    exact fx_wpE [9] 20 ⟨_, _, hg3, fun w => absurd rfl w, fun _ => ⟨Or.inl rfl, rfl, hi3, rfl, f3, e3⟩⟩
  | inr z =>
    obtain ⟨p1, P1, xs⟩ := z
    obtain ⟨a1, a2, a3, a4, a5⟩ := vSu_g T n p P hpn hP p1 P1 xs hvv
    rw [hvv] at hin
    obtain ⟨hb, hg3, f3, hr3⟩ := hin
    have htb := ht.fs f3
    obtain ⟨r1, r2, r3, r4, r5, r6⟩ := id hr3
    have hs1 := m_see (d := d + 5) (σ := σ) (hl := hl) htb r1 a2
    have hqn : lx_rn lx_S T n p1 ≤ n := rn_le a2
    have hqp : p1 ≤ lx_rn lx_S T n p1 := rn_ge
    dsimp only
    generalize lx_rn lx_S T n p1 = q at hs1 hqn hqp ⊢
    have F1 : FrS t hi (fx_up hb 11 0 8 (nI q)) := f3.tr (FrS.up hb _ (by omega))
    refine fx_wpE [9] 20 ⟨_, _, hg3, fun _ => ?_, fun w => absurd (fun z => absurd z (by decide)) w⟩
    -- behind the sign
    have fin : ∀ (c al : Int32) s4 e (hb2 : fxI3), s4 < 5 → q < e → e ≤ n → FrS t hi hb2 → RSt hb2 t e (P1 + 1) (L ++ xs) → P1 + 1 ≤ 60 → fx_E (fx_Ga (d + 6)) fx_M165 (154, [some mO, some (vi c), some (vi (nI q)), some (vi al), some (vi (nI s4))], [], hp σ hb2 hl, 0, 0) (QP σ hi hl t L (match vSu T n e (P1 + 1) with
        | .inl f => .inl f
        | .inr (p2, P2, ys) => .inr (p2, P2, xs ++ (ys ++ [6 + s4])))) := by
      intro c al s4 e hb2 h5 he1 he2 g1 g2 g3
      have hv := m_sum (d := d) (σ := σ) (hl := hl) hT (ht.fs g1) g2 he2 t6 g3 (by rw [List.length_append]; omega)
      cases hv2 : vSu T n e (P1 + 1) with
      | inl f =>
        rw [hv2] at hv
        obtain ⟨hi3, hg3, f3, e3⟩ := hv
        exact fx_wpE [] 20 ⟨_, _, hg3, fun w => absurd rfl w, fun _ => ⟨Or.inl rfl, rfl, hi3, rfl, g1.tr f3, e3⟩⟩
      | inr z =>
        obtain ⟨p2, P2, ys⟩ := z
        obtain ⟨b1, b2, b3, b4, b5⟩ := vSu_g T n e (P1 + 1) he2 g3 p2 P2 ys hv2
        rw [hv2] at hv
        obtain ⟨hi3, hg3, f3, hr3⟩ := hv
        obtain ⟨hi4, hg4, f4, hr4, _⟩ := m_puts (d := d + 5) (σ := σ) (hl := hl) hr3 t6 (by rw [List.length_append, List.length_append]; omega) (6 + s4) 0
        rw [← nI_add] at hg4
        rw [Nat.mul_zero, Nat.add_zero, List.append_assoc, List.append_assoc] at hr4
        exact fx_wpE [] 40 ⟨_, _, hg3, fun _ => ⟨_, _, hg4, Or.inr rfl, rfl, hi4, rfl, (g1.tr f3).tr f4, hr4⟩, fun w => absurd (fun z => absurd z (by decide)) w⟩
    have mid : ∀ (c al : Int32) s4 e (hb2 : fxI3), s4 < 5 → q < e → e ≤ n → FrS t hi hb2 → RSt hb2 t e P1 (L ++ xs) → cmO T n q = some (6 + s4, e) → (∀ (h : fxH) (Q : Option fxV → fxH → Prop), fx_E (fx_Ga (d + 6)) fx_M165 (154, [some mO, some (vi c), some (vi (nI q)), some (vi al), some (vi (nI s4))], [], h, 0, 0) Q → fx_E (fx_Ga (d + 6)) fx_M165 (115, [some mO, some (vi c), some (vi (nI q)), some (vi al), none], [], h, 0, 0) Q) → fx_E (fx_Ga (d + 6)) fx_M165 (105, [some mO, some (vi c), some (vi (nI q)), some (vi al), none], [], hp σ hb2 hl, 0, 0) (QP σ hi hl t L (match cmO T n q with
        | none => .inl (1 + 8 * q)
        | some (s, e) => if P1 = 60 then .inl (4 + 8 * q) else match vSu T n e (P1 + 1) with
          | .inl f => .inl f
          | .inr (p2, P2, ys) => .inr (p2, P2, xs ++ (ys ++ [s])))) := by
      intro c al s4 e hb2 h5 he1 he2 g1 g2 hcm hcalc
      rw [hcm]
      dsimp only
      have hmk := m_makes (d := d + 4) (σ := σ) (hl := hl) g2 a4 q
      by_cases h60 : P1 = 60
      · rw [if_pos h60]
        rw [if_pos h60, if_pos h60] at hmk
        refine fx_wpE [] 20 ⟨_, _, hmk, fun w => absurd rfl w, fun _ => ⟨Or.inl rfl, rfl, _, rfl, g1.tr (FrS.up _ _ (by omega)), ?_⟩⟩
        rw [up_at, show 1 + 8 * q + 3 = 4 + 8 * q by omega]
      · rw [if_neg h60]
        rw [if_neg h60, if_neg h60] at hmk
        obtain ⟨q1, q2, q3, q4, q5, q6⟩ := g2
        exact fx_wpE [115] 20 ⟨_, _, hmk, fun _ => hcalc _ _ (fin c al s4 e _ h5 he1 he2 (g1.tr (FrS.up _ _ (by omega))) ⟨q1, q2, q3, up_at _ _ _ _ _, q5, q6⟩ (by omega)), fun w => absurd (fun z => absurd z (by decide)) w⟩
    have hr1 : RSt (fx_up (fx_up hb 11 0 8 (nI q)) 11 0 8 (nI q + 1)) t (q + 1) P1 (L ++ xs) := ⟨(up_at _ _ _ _ _).trans (nI_1 q), r2, r3, r4, r5, r6⟩
    have F2 : FrS t hi (fx_up (fx_up hb 11 0 8 (nI q)) 11 0 8 (nI q + 1)) := F1.tr (FrS.up _ _ (by omega))
    have hr2 : RSt (fx_up (fx_up (fx_up hb 11 0 8 (nI q)) 11 0 8 (nI q + 1)) 11 0 8 (nI q + 1 + 1)) t (q + 2) P1 (L ++ xs) := ⟨(up_at _ _ _ _ _).trans (by rw [nI_1, nI_1]), r2, r3, r4, r5, r6⟩
    have F3 : FrS t hi (fx_up (fx_up (fx_up hb 11 0 8 (nI q)) 11 0 8 (nI q + 1)) 11 0 8 (nI q + 1 + 1)) := F2.tr (FrS.up _ _ (by omega))
    have hc : ∀ c, c < 128 → (sA T n q = nI c ↔ q < n ∧ T q = nI c) := fun c hc => sA_c hT hc
    have ex : q + 1 < n → hb 50 0 (nI q + 1).toNatClampNeg = T (q + 1) := fun h => by
      rw [nI_1]
      exact tm_at htb h
    have bx : q + 1 < n → 0 ≤ (nI q + 1).toInt ∧ (nI q + 1).toInt < ((400 : Nat) : Int) := fun h => ni_inx (n := q + 1) (m := 400) (nI_1 q) (by omega) (by decide)
    by_cases hz60 : sA T n q = nI 60
    · have hz := (hc 60 (by decide)).mp hz60
      rw [hz60] at hs1
      by_cases hal : q + 1 < n ∧ T (q + 1) = nI 61
      · have hcm : cmO T n q = some (6 + 1, q + 2) := by
          unfold cmO
          rw [if_pos hz.1, if_pos hz.2, if_pos hal]
        have m1 := mid (nI 60) 1 1 (q + 2) _ (by decide) (by omega) (by omega) F3 hr2 hcm (fun h Q k => fx_wpE [154] 20 ⟨fun w => absurd rfl w, fun _ => ⟨fun w => absurd w (by decide), fun _ => k⟩⟩)
        exact fx_wpE [105] 60 ⟨_, _, hs1, ⟨fun _ => ⟨fun w => absurd w (by decide), fun _ => pk_le n (q + 1) (fun w => by omega) (fun _ => ⟨bx hal.1, ine (ex hal.1) rfl (fun w => absurd hal.2 w) (fun _ => ⟨fun w => absurd w (by decide), fun _ => m1⟩)⟩) htb.2.1 (nI_1 q)⟩, fun w => absurd rfl w⟩⟩
      · have hcm : cmO T n q = some (6 + 0, q + 1) := by
          unfold cmO
          rw [if_pos hz.1, if_pos hz.2, if_neg hal]
        have m1 := mid (nI 60) 0 0 (q + 1) _ (by decide) (by omega) (by omega) F2 hr1 hcm (fun h Q k => fx_wpE [154] 20 ⟨fun w => absurd rfl w, fun _ => ⟨fun _ => k, fun w => absurd rfl w⟩⟩)
        exact fx_wpE [105] 60 ⟨_, _, hs1, ⟨fun _ => ⟨fun w => absurd w (by decide), fun _ => pk_le n (q + 1) (fun _ => ⟨fun _ => m1, fun w => absurd rfl w⟩) (fun h => ⟨bx h, ine (ex h) rfl (fun _ => ⟨fun _ => m1, fun w => absurd rfl w⟩) (fun w => absurd ⟨h, w⟩ hal)⟩) htb.2.1 (nI_1 q)⟩, fun w => absurd rfl w⟩⟩
    have hne60 : ¬ (q < n ∧ T q = nI 60) := fun w => hz60 ((hc 60 (by decide)).mpr w)
    by_cases hz61 : sA T n q = nI 61
    · have hz := (hc 61 (by decide)).mp hz61
      rw [hz61] at hs1
      have hcm : cmO T n q = some (6 + 2, q + 1) := by
        unfold cmO
        rw [if_pos hz.1, if_neg (fun w => hne60 ⟨hz.1, w⟩), if_pos hz.2]
      have m1 := mid (nI 61) 0 2 (q + 1) _ (by decide) (by omega) (by omega) F2 hr1 hcm (fun h Q k => fx_wpE [154] 20 ⟨fun _ => ⟨fun w => absurd rfl w, fun _ => k⟩, fun w => absurd (by decide) w⟩)
      exact fx_wpE [105] 60 ⟨_, _, hs1, ⟨fun w => absurd w (by decide), fun _ => ⟨fun _ => ⟨fun _ => ⟨fun _ => m1, fun w => absurd rfl w⟩, fun w => absurd rfl w⟩, fun w => absurd rfl w⟩⟩⟩
    have hne61 : ¬ (q < n ∧ T q = nI 61) := fun w => hz61 ((hc 61 (by decide)).mpr w)
    by_cases hz62 : sA T n q = nI 62
    · have hz := (hc 62 (by decide)).mp hz62
      rw [hz62] at hs1
      by_cases hal : q + 1 < n ∧ T (q + 1) = nI 61
      · have hcm : cmO T n q = some (6 + 3, q + 2) := by
          unfold cmO
          rw [if_pos hz.1, if_neg (fun w => hne60 ⟨hz.1, w⟩), if_neg (fun w => hne61 ⟨hz.1, w⟩), if_pos hz.2, if_pos hal]
        have m1 := mid (nI 62) 1 3 (q + 2) _ (by decide) (by omega) (by omega) F3 hr2 hcm (fun h Q k => fx_wpE [154] 20 ⟨fun _ => ⟨fun _ => ⟨fun w => absurd w (by decide), fun _ => k⟩, fun w => absurd (by decide) w⟩, fun w => absurd (by decide) w⟩)
        exact fx_wpE [105] 60 ⟨_, _, hs1, ⟨fun w => absurd w (by decide), fun _ => ⟨fun w => absurd w (by decide), fun _ => ⟨fun _ => ⟨fun w => absurd w (by decide), fun _ => pk_le n (q + 1) (fun w => by omega) (fun _ => ⟨bx hal.1, ine (ex hal.1) rfl (fun w => absurd hal.2 w) (fun _ => ⟨fun w => absurd w (by decide), fun _ => m1⟩)⟩) htb.2.1 (nI_1 q)⟩, fun w => absurd rfl w⟩⟩⟩⟩
      · have hcm : cmO T n q = some (6 + 4, q + 1) := by
          unfold cmO
          rw [if_pos hz.1, if_neg (fun w => hne60 ⟨hz.1, w⟩), if_neg (fun w => hne61 ⟨hz.1, w⟩), if_pos hz.2, if_neg hal]
        have m1 := mid (nI 62) 0 4 (q + 1) _ (by decide) (by omega) (by omega) F2 hr1 hcm (fun h Q k => fx_wpE [154] 20 ⟨fun _ => ⟨fun _ => ⟨fun _ => k, fun w => absurd rfl w⟩, fun w => absurd (by decide) w⟩, fun w => absurd (by decide) w⟩)
        exact fx_wpE [105] 60 ⟨_, _, hs1, ⟨fun w => absurd w (by decide), fun _ => ⟨fun w => absurd w (by decide), fun _ => ⟨fun _ => ⟨fun w => absurd w (by decide), fun _ => pk_le n (q + 1) (fun _ => ⟨fun _ => m1, fun w => absurd rfl w⟩) (fun h => ⟨bx h, ine (ex h) rfl (fun _ => ⟨fun _ => m1, fun w => absurd rfl w⟩) (fun w => absurd ⟨h, w⟩ hal)⟩) htb.2.1 (nI_1 q)⟩, fun w => absurd rfl w⟩⟩⟩⟩
    have hne62 : ¬ (q < n ∧ T q = nI 62) := fun w => hz62 ((hc 62 (by decide)).mpr w)
    have hcm : cmO T n q = none := by
      unfold cmO
      split
      · rename_i h
        rw [if_neg (fun w => hne60 ⟨h, w⟩), if_neg (fun w => hne61 ⟨h, w⟩), if_neg (fun w => hne62 ⟨h, w⟩)]
      · rfl
    rw [hcm]
    have hf := m_fails (d := d + 5) (σ := σ) (hi := fx_up hb 11 0 8 (nI q)) (hl := hl) r2 0 q
    exact fx_wpE [] 60 ⟨_, _, hs1, fun w => absurd w hz60, fun _ => ⟨fun w => absurd w hz61, fun _ => ⟨fun w => absurd w hz62, fun _ => ⟨_, _, hf, Or.inl rfl, rfl, _, rfl, F1.tr (FrS.up _ _ (by omega)), up_at _ _ _ _ _⟩⟩⟩⟩
end MC2
/-- how tightly what is open binds -/
def stg (s : Nat) : Nat := if s = 13 then 1 else if s = 12 then 2 else if s = 11 then 3 else 0
def stl (b : Nat) : List Nat → List Nat × List Nat
  | [] => ([], [])
  | o :: r => if b ≤ stg o then (o :: (stl b r).1, (stl b r).2) else ([], o :: r)
theorem stl_app (b : Nat) : ∀ Or, (stl b Or).1 ++ (stl b Or).2 = Or
  | [] => rfl
  | o :: r => by
    unfold stl
    split
    · show o :: ((stl b r).1 ++ (stl b r).2) = _
      rw [stl_app b r]
    · rfl
/-- how deep -/
def dp : List Nat → Nat
  | [] => 0
  | o :: r => dp r + (if o = 11 ∨ o = 91 then 1 else 0)
def OPn (hi : fxI3) (Or : List Nat) : Prop := hi 11 0 16 = nI Or.length ∧ hi 11 0 13 = nI (dp Or) ∧ (∀ k, k < Or.length → hi 56 0 (Or.length - 1 - k) = nI (Or.getD k 0)) ∧ ∀ o, o ∈ Or → o ≤ 91
def FrO (t : Nat) (hi hi' : fxI3) : Prop := ∀ k j s, ¬ (k = 11 ∧ (s = 8 ∨ s = 9 ∨ s = 10 ∨ s = 12 ∨ s = 13 ∨ s = 16)) → ¬ (k = 52 ∧ s = t) → ¬ (k = 51 ∧ 400 * t ≤ s) → k ≠ 56 → hi' k j s = hi k j s
theorem FrO.rf (t : Nat) (hi : fxI3) : FrO t hi hi := fun _ _ _ _ _ _ _ => rfl
theorem FrO.tr {t : Nat} {a b c : fxI3} (h : FrO t a b) (g : FrO t b c) : FrO t a c := fun k j s h1 h2 h3 h4 => (g k j s h1 h2 h3 h4).trans (h k j s h1 h2 h3 h4)
theorem FrS.o {t : Nat} {a b : fxI3} (h : FrS t a b) : FrO t a b := fun k j s h1 h2 h3 _ => h k j s (by omega) h2 h3
theorem FrO.up {t : Nat} (hi : fxI3) {k j s : Nat} (x : Int32) (h : k = 11 ∧ (s = 8 ∨ s = 9 ∨ s = 10 ∨ s = 12 ∨ s = 13 ∨ s = 16) ∨ k = 52 ∧ s = t ∨ k = 51 ∧ 400 * t ≤ s ∨ k = 56) : FrO t hi (fx_up hi k j s x) := fun k' j' s' h1 h2 h3 h4 => up_off hi x (fun z => by
  obtain ⟨z1, _, z3⟩ := z
  subst z1; subst z3
  rcases h with h | h | h | h
  · exact h1 h
  · exact h2 h
  · exact h3 h
  · exact h4 h)
theorem TM.fo {hi hi' : fxI3} {n t : Nat} {T : Nat → Int32} (h : TM hi n T) (f : FrO t hi hi') : TM hi' n T := ⟨h.1, (f 11 0 1 (by omega) (by omega) (by omega) (by omega)).trans h.2.1, fun i hi2 => (f 50 0 i (by omega) (by omega) (by omega) (by omega)).trans (h.2.2 i hi2)⟩
theorem OPn.fs {hi hi' : fxI3} {t : Nat} {Or : List Nat} (h : OPn hi Or) (f : FrS t hi hi') : OPn hi' Or := ⟨(f 11 0 16 (by omega) (by omega) (by omega)).trans h.1, (f 11 0 13 (by omega) (by omega) (by omega)).trans h.2.1, fun k hk => (f 56 0 _ (by omega) (by omega) (by omega)).trans (h.2.2.1 k hk), h.2.2.2⟩
theorem dp_le (Or : List Nat) : dp Or ≤ Or.length := by
  induction Or with
  | nil => exact Nat.le_refl _
  | cons o r ih =>
    unfold dp
    rw [List.length_cons]
    split <;> omega
section MO
variable {d : Nat} {σ : fxS} {hi : fxI3} {hl : fxL3} {n p t P : Nat} {T : Nat → Int32} {L : List Nat}
theorem m_strength {h : fxH} {s : Nat} (hs : s < 2 ^ 31) : fx_Ga (d + 1) 160 [vi (nI s)] h (some (vi (nI (stg s)))) h := by
  refine fx_meth fx_M160 [some (vi (nI s))] (by decide) rfl rfl (Nat.le_of_ble_eq_true rfl) (fx_wpE [] 30 ?_)
  unfold stg
  refine nn_eq s 13 (fun e => ⟨?_, rfl⟩) (fun e => nn_eq s 12 (fun e2 => ⟨?_, rfl⟩) (fun e2 => nn_eq s 11 (fun e3 => ⟨?_, rfl⟩) (fun e3 => ⟨?_, rfl⟩)))
  · rw [if_pos e]
    rfl
  · rw [if_neg e, if_pos e2]
    rfl
  · rw [if_neg e, if_neg e2, if_pos e3]
    rfl
  · rw [if_neg e, if_neg e2, if_neg e3]
    rfl
theorem getD_0 (o : Nat) (r : List Nat) : (o :: r).getD 0 0 = o := rfl
theorem m_settles {b : Nat} (hb : 1 ≤ b ∧ b ≤ 3) (t6 : t < 6) : ∀ (Or L : List Nat) (hi : fxI3), RSt hi t p P L → OPn hi Or → L.length + Or.length ≤ 400 → ∃ hi', fx_Ga (d + 2) 161 [mO, vi (nI b)] (hp σ hi hl) none (hp σ hi' hl) ∧ FrO t hi hi' ∧ RSt hi' t p P (L ++ (stl b Or).1) ∧ OPn hi' (stl b Or).2 := by
  intro Or0 L0 hi0 hr0 ho0 hl0
  let Post : Option fxV → fxH → Prop := fun r2 h2 => r2 = none ∧ ∃ hi', h2 = hp σ hi' hl ∧ FrO t hi0 hi' ∧ RSt hi' t p P (L0 ++ (stl b Or0).1) ∧ OPn hi' (stl b Or0).2
  have loop : ∀ (Or L : List Nat) (hi : fxI3), RSt hi t p P L → OPn hi Or → L.length + Or.length ≤ 400 → FrO t hi0 hi → L ++ (stl b Or).1 = L0 ++ (stl b Or0).1 → (stl b Or).2 = (stl b Or0).2 → fx_E (fx_Ga (d + 1)) fx_M161 (0, [some mO, some (vi (nI b))], [], hp σ hi hl, 0, 0) Post := by
    intro Or
    induction Or with
    | nil =>
      intro L hi hr ho hlen g1 g2 g3
      refine fx_wpE [] 20 (pk_le 0 0 (fun _ => ⟨rfl, hi, rfl, g1, ?_, ?_⟩) (fun h => by omega) ho.1)
      · rw [← g2]
        show RSt hi t p P (L ++ [])
        rw [List.append_nil]
        exact hr
      · rw [← g3]
        exact ho
    | cons o r ih =>
      intro L hi hr ho hlen g1 g2 g3
      obtain ⟨o1, o2, o3, o4⟩ := id ho
      rw [List.length_cons] at hlen
      have o1 : hi 11 0 16 = nI (r.length + 1) := o1
      have o91 := o4 o List.mem_cons_self
      have etop : (hi 11 0 16 - 1 : Int32) = nI r.length := by
        rw [o1]
        exact pk_sub (b := 1) (by omega)
      have e56 : hi 56 0 r.length = nI o := by
        have := o3 0 (by rw [List.length_cons]; omega)
        rw [List.length_cons, show r.length + 1 - 1 - 0 = r.length by omega] at this
        exact this
      have rd : hi 56 0 (hi 11 0 16 - 1).toNatClampNeg = nI o := by
        rw [ni_cl etop (by omega)]
        exact e56
      have bd := ni_inx (n := r.length) (m := 400) etop (by omega) (by decide)
      have hst := m_strength (d := d) (h := hp σ hi hl) (s := o) (by omega)
      have st3 : stg o ≤ 3 := by
        unfold stg
        repeat' split
        all_goals omega
      rw [← rd] at hst
      by_cases hbo : b ≤ stg o
      · have es1 : (stl b (o :: r)).1 = o :: (stl b r).1 := by
          show (if b ≤ stg o then (o :: (stl b r).1, (stl b r).2) else ([], o :: r)).1 = _
          rw [if_pos hbo]
        have es2 : (stl b (o :: r)).2 = (stl b r).2 := by
          show (if b ≤ stg o then (o :: (stl b r).1, (stl b r).2) else ([], o :: r)).2 = _
          rw [if_pos hbo]
        rw [es1] at g2
        rw [es2] at g3
        have hr1 : RSt (fx_up hi 11 0 16 (hi 11 0 16 - 1)) t p P L := hr
        obtain ⟨hi2, hg2, f2, hr2, _⟩ := m_puts (d := d) (σ := σ) (hl := hl) hr1 t6 (by omega) o 0
        rw [Nat.mul_zero, Nat.add_zero] at hr2
        have F2 : FrO t hi0 hi2 := (g1.tr (FrO.up hi _ (by omega))).tr f2.o
        have c16 : hi2 11 0 16 = hi 11 0 16 - 1 := (f2 11 0 16 (by omega) (by omega) (by omega)).trans (up_at _ _ _ _ _)
        have c13 : hi2 11 0 13 = nI (dp (o :: r)) := (f2 11 0 13 (by omega) (by omega) (by omega)).trans o2
        have c56 : ∀ s, hi2 56 0 s = hi 56 0 s := fun s => f2 56 0 s (by omega) (by omega) (by omega)
        have rd2 : hi2 56 0 (hi2 11 0 16).toNatClampNeg = nI o := by rw [c56, c16]; exact rd
        have bd2 : 0 ≤ (hi2 11 0 16).toInt ∧ (hi2 11 0 16).toInt < ((400 : Nat) : Int) := by rw [c16]; exact bd
        rw [← rd] at hg2
        have base : ∀ k, k < r.length → hi 56 0 (r.length - 1 - k) = nI (r.getD k 0) := fun k hk => by
          have := o3 (k + 1) (by rw [List.length_cons]; omega)
          rw [List.length_cons, show r.length + 1 - 1 - (k + 1) = r.length - 1 - k by omega] at this
          exact this
        have o4' : ∀ x, x ∈ r → x ≤ 91 := fun x hx => o4 x (List.mem_cons_of_mem _ hx)
        refine fx_wpE [0] 0 (fx_wpL [0] 60 (pk_le (r.length + 1) 0 (fun h => by omega) (fun _ => ⟨bd, _, _, hst, pk_lt (stg o) b (fun h => by omega) (fun _ => ⟨bd, _, _, hg2, bd2, nn_eq o 11 (fun e => ?_) (fun e => ?_) rd2⟩)⟩) o1))
        · refine ih (L ++ [o]) (fx_up hi2 11 0 13 (hi2 11 0 13 - 1)) hr2 ⟨c16.trans etop, ?_, fun k hk => (c56 _).trans (base k hk), o4'⟩ (by rw [List.length_append]; show _ + 1 + _ ≤ _; omega) (F2.tr (FrO.up hi2 _ (by omega))) (by rw [List.append_assoc]; exact g2) g3
          rw [up_at, c13]
          show nI (dp r + (if o = 11 ∨ o = 91 then 1 else 0)) - nI 1 = _
          rw [if_pos (Or.inl e), pk_sub (by omega)]
          congr 1
        · refine ih (L ++ [o]) hi2 hr2 ⟨c16.trans etop, ?_, fun k hk => (c56 _).trans (base k hk), o4'⟩ (by rw [List.length_append]; show _ + 1 + _ ≤ _; omega) F2 (by rw [List.append_assoc]; exact g2) g3
          rw [c13]
          have o0 : o ≠ 91 := fun z => by
            subst z
            have : stg 91 = 0 := rfl
            omega
          show nI (dp r + (if o = 11 ∨ o = 91 then 1 else 0)) = _
          rw [if_neg (by omega)]
          rfl
      · have es : stl b (o :: r) = ([], o :: r) := by
          show (if b ≤ stg o then (o :: (stl b r).1, (stl b r).2) else ([], o :: r)) = _
          rw [if_neg hbo]
        rw [es] at g2 g3
        refine fx_wpE [] 60 (pk_le (r.length + 1) 0 (fun h => by omega) (fun _ => ⟨bd, _, _, hst, pk_lt (stg o) b (fun _ => ⟨rfl, hi, rfl, g1, ?_, ?_⟩) (fun h => by omega)⟩) o1)
        · rw [← g2, List.append_nil]
          exact hr
        · rw [← g3]
          exact ho
  obtain ⟨r, h', hg', e1, hi', e2, e3⟩ := fx_methX (d := d + 1) (y := 161) (av := [mO, vi (nI b)]) (h := hp σ hi0 hl) (P := Post) fx_M161 [some mO, some (vi (nI b))] (by decide) rfl rfl (Nat.le_of_ble_eq_true rfl) (loop Or0 L0 hi0 hr0 ho0 hl0 (FrO.rf t hi0) rfl rfl)
  subst e1
  subst e2
  exact ⟨hi', hg', e3⟩
theorem m_opens {q : Nat} {Os : List Nat} (h8 : hi 11 0 8 = nI q) (h9 : hi 11 0 9 = 0) (ho : OPn hi Os) (hlen : Os.length < 400) {w : Nat} (hw : w = 11 ∨ w = 91) (hdp : dp Os ≤ 10) : fx_Ga (d + 2) 159 [mO, vi (nI w)] (hp σ hi hl) (some (vi (if dp Os = 10 then 0 else 1))) (hp σ (if dp Os = 10 then fx_up hi 11 0 9 (nI (1 + 8 * q + 2)) else fx_up (fx_up (fx_up hi 11 0 13 (nI (dp Os + 1))) 56 0 Os.length (nI w)) 11 0 16 (nI (Os.length + 1))) hl) := by
  obtain ⟨o1, o2, o3, o4⟩ := ho
  have hf := m_fails (d := d) (σ := σ) (hl := hl) h9 2 q
  rw [← h8] at hf
  refine fx_meth fx_M159 [some mO, some (vi (nI w))] (by decide) rfl rfl (Nat.le_of_ble_eq_true rfl) (fx_wpE [] 60 ?_)
  refine nn_eq (dp Os) 10 (fun e => ?_) (fun e => ?_) o2
  · rw [if_pos e, if_pos e]
    exact ⟨_, _, hf, Or.inl rfl, rfl, rfl⟩
  · rw [if_neg e, if_neg e]
    refine ⟨ni_inx (n := Os.length) (m := 400) o1 hlen (by decide), Or.inr rfl, rfl, ?_⟩
    show hp σ (fx_up (fx_up (fx_up hi 11 0 13 (hi 11 0 13 + 1)) 56 0 (hi 11 0 16).toNatClampNeg (nI w)) 11 0 16 (hi 11 0 16 + 1)) hl = _
    rw [o1, o2, nI_1, nI_1, nI_clamp (by omega)]
def isI (Or : List Nat) : Bool := Or.any (fun o => o == 91)
theorem m_isInside {Os : List Nat} (ho : OPn hi Os) (hlen : Os.length ≤ 400) : fx_Ga (d + 1) 167 [mO] (hp σ hi hl) (some (vi (b01 (isI Os)))) (hp σ hi hl) := by
  obtain ⟨o1, o2, o3, o4⟩ := ho
  refine fx_meth fx_M167 [some mO, none] (by decide) rfl rfl (Nat.le_of_ble_eq_true rfl) ?_
  have loop : ∀ (R : List Nat), (∃ S, Os = R ++ S ∧ isI S = false) → fx_E (fx_Ga d) fx_M167 (2, [some mO, some (vi (nI (Os.length - R.length)))], [], hp σ hi hl, 0, 0) (fun r2 h2 => r2 = some (vi (b01 (isI Os))) ∧ h2 = hp σ hi hl) := by
    intro R
    induction hR : R.length generalizing R with
    | zero =>
      intro ⟨S, e, hS⟩
      have : R = [] := List.length_eq_zero_iff.mp hR
      subst this
      have e : Os = S := e
      rw [← e] at hS
      rw [hS]
      exact fx_wpL [2] 20 (pk_le Os.length (Os.length - 0) (fun _ => ⟨Or.inl rfl, rfl, rfl⟩) (fun h => by omega) o1)
    | succ m ih =>
      intro ⟨S, e, hS⟩
      have hl2 : Os.length = m + 1 + S.length := by rw [e, List.length_append, hR]
      obtain ⟨x, hx⟩ : ∃ x, R = R.dropLast ++ [x] := ⟨R.getLast (by intro z; rw [z] at hR; cases hR), (List.dropLast_concat_getLast _).symm⟩
      have hd : R.dropLast.length = m := by rw [List.length_dropLast, hR]; rfl
      have ex : Os.getD m 0 = x := by
        rw [e, hx, List.append_assoc, List.getD_eq_getElem?_getD, List.getElem?_append_right (by omega), hd, Nat.sub_self]
        rfl
      have ec : hi 56 0 (nI (Os.length - (m + 1))).toNatClampNeg = nI x := by
        rw [nI_clamp (by omega), show Os.length - (m + 1) = Os.length - 1 - m by omega, o3 m (by omega), ex]
      have x91 : x ≤ 91 := o4 x (by rw [e, hx]; simp)
      refine fx_wpL [2] 20 (pk_le Os.length (Os.length - (m + 1)) (fun h => by omega) (fun _ => ⟨ni_in (n := Os.length - (m + 1)) (m := 400) (by omega) (by decide), nn_eq x 91 (fun z => ?_) (fun z => ?_) ec⟩) o1)
      · have : isI Os = true := by
          unfold isI
          rw [e, hx]
          simp [z]
        rw [this]
        exact ⟨Or.inr rfl, rfl, rfl⟩
      · have h2 := ih R.dropLast hd ⟨[x] ++ S, by rw [← List.append_assoc, ← hx]; exact e, by
          unfold isI at hS ⊢
          rw [List.any_append, hS]
          simp [z]⟩
        rw [show Os.length - m = Os.length - (m + 1) + 1 by omega, ← nI_1] at h2
        exact h2
  have h3 := loop Os ⟨[], by rw [List.append_nil], rfl⟩
  rw [Nat.sub_self] at h3
  exact fx_wpE [2] 9 h3
end MO
