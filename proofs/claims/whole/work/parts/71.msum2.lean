/-! terms, sums and comparisons: the reference -/
def opM (T : Nat → Int32) (n q : Nat) : Option Nat := if q < n then (if T q = nI 42 then some 4 else if T q = nI 47 then some 5 else if T q = nI 37 then some 14 else none) else none
def opA (T : Nat → Int32) (n q : Nat) : Option Nat := if q < n then (if T q = nI 43 then some 2 else if T q = nI 45 then some 3 else none) else none
/-- one behind another, joined by signs -/
def vLq (V : Nat → Nat → fxQ) (op : Nat → Option Nat) (sk : Nat → Nat) : Nat → Nat → Nat → List Nat → fxQ
  | 0, p, P, xs => .inr (sk p, P, xs)
  | k + 1, p, P, xs => match op (sk p) with
    | none => .inr (sk p, P, xs)
    | some s => match V (sk p + 1) P with
      | .inl f => .inl f
      | .inr (p', P', ys) => vLq V op sk k p' P' (xs ++ (ys ++ [s]))
def vJn (V : Nat → Nat → fxQ) (op : Nat → Option Nat) (sk : Nat → Nat) (n p P : Nat) : fxQ := match V p P with
  | .inl f => .inl f
  | .inr (p', P', ys) => vLq V op sk n p' P' ys
def vT (T : Nat → Int32) (n : Nat) : Nat → Nat → fxQ := vJn (vV T n) (opM T n) (lx_rn lx_S T n) n
def vSu (T : Nat → Int32) (n : Nat) : Nat → Nat → fxQ := vJn (vT T n) (opA T n) (lx_rn lx_S T n) n
/-- goes on, no farther than the end -/
def gQ (n : Nat) (V : Nat → Nat → fxQ) : Prop := ∀ p P, p ≤ n → P ≤ 60 → ∀ p' P' ys, V p P = .inr (p', P', ys) → p < p' ∧ p' ≤ n ∧ P ≤ P' ∧ P' ≤ 60 ∧ ys.length ≤ p' - p
theorem vV_g (T : Nat → Int32) (n : Nat) : gQ n (vV T n) := by
  intro p P hp hP p' P' ys h
  unfold vV at h
  dsimp only at h
  have hqn : lx_rn lx_S T n p ≤ n := rn_le hp
  have hqp : p ≤ lx_rn lx_S T n p := rn_ge
  generalize lx_rn lx_S T n p = q at h hqn hqp
  split at h
  · rename_i hD
    have he2 : q + 1 ≤ lx_rn lx_D T n q := by
      rw [rn_st hD.1 hD.2]
      exact rn_ge
    have he1 : lx_rn lx_D T n q ≤ n := rn_le hqn
    split at h
    · cases h
    · split at h
      · cases h
      · cases h
        exact ⟨by omega, he1, by omega, by omega, by show 1 ≤ _; omega⟩
  · split at h
    · cases h
    · rename_i w hw
      split at h
      · cases h
      · cases h
        have he1 : lx_rn lx_L T n q ≤ n := rn_le hqn
        have he2 : q < lx_rn lx_L T n q := by
          have hge : q ≤ lx_rn lx_L T n q := rn_ge
          by_cases e : lx_rn lx_L T n q = q
          · have e0 : lx_wk T n q = 0 := by
              unfold lx_wk
              rw [e, Nat.sub_self, if_neg (by omega)]
            rw [e0] at hw
            cases hw
          · omega
        exact ⟨by omega, he1, by omega, by omega, by show 1 ≤ _; omega⟩
theorem vLq_g {V : Nat → Nat → fxQ} {op : Nat → Option Nat} {sk : Nat → Nat} {n : Nat} (hV : gQ n V) (hsk : ∀ p, p ≤ n → p ≤ sk p ∧ sk p ≤ n) (hop : ∀ q s, op q = some s → q < n) : ∀ k p P xs p' P' zs, p ≤ n → P ≤ 60 → vLq V op sk k p P xs = .inr (p', P', zs) → p ≤ p' ∧ p' ≤ n ∧ P ≤ P' ∧ P' ≤ 60 ∧ zs.length ≤ xs.length + (p' - p)
  | 0, p, P, xs, p', P', zs, hp, hP, h => by
    unfold vLq at h
    cases h
    have := hsk p hp
    exact ⟨this.1, this.2, by omega, hP, by omega⟩
  | k + 1, p, P, xs, p', P', zs, hp, hP, h => by
    unfold vLq at h
    have hs := hsk p hp
    split at h
    · cases h
      exact ⟨hs.1, hs.2, by omega, hP, by omega⟩
    · rename_i s hs2
      have hq := hop _ _ hs2
      split at h
      · cases h
      · rename_i p2 P2 ys hv
        obtain ⟨a1, a2, a3, a4, a5⟩ := hV _ _ (by omega) hP _ _ _ hv
        obtain ⟨b1, b2, b3, b4, b5⟩ := vLq_g hV hsk hop k p2 P2 _ p' P' zs a2 a4 h
        rw [List.length_append, List.length_append] at b5
        have b5 : zs.length ≤ xs.length + (ys.length + 1) + (p' - p2) := b5
        exact ⟨by omega, b2, by omega, b4, by omega⟩
theorem vJn_g {V : Nat → Nat → fxQ} {op : Nat → Option Nat} {sk : Nat → Nat} {n : Nat} (hV : gQ n V) (hsk : ∀ p, p ≤ n → p ≤ sk p ∧ sk p ≤ n) (hop : ∀ q s, op q = some s → q < n) : gQ n (vJn V op sk n) := by
  intro p P hp hP p' P' ys h
  unfold vJn at h
  split at h
  · cases h
  · rename_i p2 P2 xs hv
    obtain ⟨a1, a2, a3, a4, a5⟩ := hV _ _ hp hP _ _ _ hv
    obtain ⟨b1, b2, b3, b4, b5⟩ := vLq_g hV hsk hop n p2 P2 xs p' P' ys a2 a4 h
    exact ⟨by omega, b2, by omega, b4, by omega⟩
theorem sk_ok (T : Nat → Int32) (n : Nat) : ∀ p, p ≤ n → p ≤ lx_rn lx_S T n p ∧ lx_rn lx_S T n p ≤ n := fun p hp => ⟨rn_ge, rn_le hp⟩
theorem opM_lt {T : Nat → Int32} {n q s : Nat} (h : opM T n q = some s) : q < n := by
  unfold opM at h
  split at h
  · assumption
  · cases h
theorem opA_lt {T : Nat → Int32} {n q s : Nat} (h : opA T n q = some s) : q < n := by
  unfold opA at h
  split at h
  · assumption
  · cases h
theorem vT_g (T : Nat → Int32) (n : Nat) : gQ n (vT T n) := vJn_g (vV_g T n) (sk_ok T n) (fun _ _ h => opM_lt h)
theorem vSu_g (T : Nat → Int32) (n : Nat) : gQ n (vSu T n) := vJn_g (vT_g T n) (sk_ok T n) (fun _ _ h => opA_lt h)
def QP (σ : fxS) (hi : fxI3) (hl : fxL3) (t : Nat) (L : List Nat) (res : fxQ) : Option fxV → fxH → Prop := fun r2 h2 => match res with
  | .inl f => r2 = some (vi 0) ∧ ∃ hi', h2 = hp σ hi' hl ∧ FrS t hi hi' ∧ hi' 11 0 9 = nI f
  | .inr (p', P', xs) => r2 = some (vi 1) ∧ ∃ hi', h2 = hp σ hi' hl ∧ FrS t hi hi' ∧ RSt hi' t p' P' (L ++ xs)
theorem QR_of {d y : Nat} {av : List fxV} {σ : fxS} {hi : fxI3} {hl : fxL3} {t : Nat} {L : List Nat} {res : fxQ} (M : fxM) (lv : fxLv) (hy : y < 255) (hM : (fx_Y y).2.1 = M) (hlv : fx_ent M.1.2.2.1 av = lv) (hll : (fx_sl av).length ≤ M.1.2.2.1) (k : fx_E (fx_Ga d) M (0, lv, [], hp σ hi hl, 0, 0) (QP σ hi hl t L res)) : QR (d + 1) y av σ hi hl t L res := by
  obtain ⟨r, h', hg, e⟩ := fx_methX (P := QP σ hi hl t L res) M lv hy hM hlv hll k
  match res, e with
  | .inl f, ⟨e1, hi', e2, e3⟩ =>
    subst e1
    subst e2
    exact ⟨hi', hg, e3⟩
  | .inr (p', P', xs), ⟨e1, hi', e2, e3⟩ =>
    subst e1
    subst e2
    exact ⟨hi', hg, e3⟩
section MU
variable {d : Nat} {σ : fxS} {hi : fxI3} {hl : fxL3} {n p t P : Nat} {T : Nat → Int32} {L : List Nat}
theorem m_seeQ (ht : TM hi n T) (hp1 : hi 11 0 8 = nI p) (hpn : p ≤ n) (hq : lx_rn lx_S T n p = p) : fx_Ga (d + 1) 149 [mO] (hp σ hi hl) (some (vi (sA T n p))) (hp σ hi hl) := by
  have h := m_see (d := d) (σ := σ) (hl := hl) ht hp1 hpn
  rw [hq, ← hp1, up_self] at h
  exact h
theorem m_term (hT : ∀ i, i < n → isB (T i)) (ht : TM hi n T) (hr : RSt hi t p P L) (hpn : p ≤ n) (t6 : t < 6) (hP : P ≤ 60) (hL : L.length ≤ p) : QR (d + 5) 163 [mO] σ hi hl t L (vT T n p P) := by
  have h400 := ht.1
  have hin := m_value (d := d) (σ := σ) (hl := hl) ht hr hpn t6 hP hL
  refine QR_of (d := d + 4) fx_M163 [some mO, none] (by decide) rfl rfl (Nat.le_of_ble_eq_true rfl) ?_
  unfold vT vJn
  have hVg := vV_g T n
  have loop : ∀ k p P xs (hb : fxI3) l1, n - p ≤ k → FrS t hi hb → RSt hb t p P (L ++ xs) → p ≤ n → P ≤ 60 → (L ++ xs).length ≤ p → fx_E (fx_Ga (d + 4)) fx_M163 (9, [some mO, l1], [], hp σ hb hl, 0, 0) (QP σ hi hl t L (vLq (vV T n) (opM T n) (lx_rn lx_S T n) k p P xs)) := by
    intro k
    induction k with
    | zero =>
      intro p P xs hb l1 hk g1 g2 g3 g4 g5
      have : p = n := by omega
      subst this
      have htb := ht.fs g1
      have esk : lx_rn lx_S T p p = p := rn_no (fun h => by omega)
      have hsq := m_seeQ (d := d + 3) (σ := σ) (hl := hl) htb g2.1 (Nat.le_refl _) esk
      have ne : ∀ c, c < 128 → ¬ sA T p p = nI c := fun c hc z => by
        have := (sA_c hT hc).mp z
        omega
      refine fx_wpL [9] 60 ⟨_, _, hsq, fun z => absurd z (ne 42 (by decide)), fun _ => ⟨_, _, hsq, fun z => absurd z (ne 47 (by decide)), fun _ => ⟨_, _, hsq, fun _ => ⟨Or.inr rfl, rfl, hb, rfl, g1, ?_⟩, fun z => absurd (ne 37 (by decide)) z⟩⟩⟩
      rw [esk]
      exact g2
    | succ k ih =>
      intro p P xs hb l1 hk g1 g2 g3 g4 g5
      have htb := ht.fs g1
      obtain ⟨r1, r2, r3, r4, r5, r6⟩ := id g2
      have hs1 := m_see (d := d + 3) (σ := σ) (hl := hl) htb r1 g3
      have hqn : lx_rn lx_S T n p ≤ n := rn_le g3
      have hqp : p ≤ lx_rn lx_S T n p := rn_ge
      have hidem := rn_idem (P := lx_S) (T := T) g3
      unfold vLq
      generalize lx_rn lx_S T n p = q at hs1 hqn hqp hidem ⊢
      have hsq := m_seeQ (d := d + 3) (σ := σ) (hi := fx_up hb 11 0 8 (nI q)) (hl := hl) (p := q) htb (up_at _ _ _ _ _) hqn hidem
      have F1 : FrS t hi (fx_up hb 11 0 8 (nI q)) := g1.tr (FrS.up hb _ (by omega))
      have tail : ∀ s, q < n → opM T n q = some s → fx_E (fx_Ga (d + 4)) fx_M163 (75, [some mO, some (vi (nI s))], [], hp σ (fx_up hb 11 0 8 (nI q)) hl, 0, 0) (QP σ hi hl t L (match opM T n q with
        | none => .inr (q, P, xs)
        | some s => match vV T n (q + 1) P with
          | .inl f => .inl f
          | .inr (p', P', ys) => vLq (vV T n) (opM T n) (lx_rn lx_S T n) k p' P' (xs ++ (ys ++ [s])))) := by
        intro s hq1 hs2
        rw [hs2]
        dsimp only
        have hr1 : RSt (fx_up (fx_up hb 11 0 8 (nI q)) 11 0 8 (nI q + 1)) t (q + 1) P (L ++ xs) := ⟨(up_at _ _ _ _ _).trans (nI_1 q), r2, r3, r4, r5, r6⟩
        have F2 : FrS t hi (fx_up (fx_up hb 11 0 8 (nI q)) 11 0 8 (nI q + 1)) := F1.tr (FrS.up _ _ (by omega))
        have hv := m_value (d := d) (σ := σ) (hl := hl) (ht.fs F2) hr1 (by omega) t6 g4 (by omega)
        have hVq := hVg (q + 1) P (by omega) g4
        cases hvv : vV T n (q + 1) P with
        | inl f =>
          rw [hvv] at hv
          obtain ⟨hi3, hg3, f3, e3⟩ := hv
          exact fx_wpE [9] 40 ⟨_, _, hg3, fun w => absurd rfl w, fun _ => ⟨Or.inl rfl, rfl, hi3, rfl, F2.tr f3, e3⟩⟩
        | inr z =>
          obtain ⟨p', P', ys⟩ := z
          rw [hvv] at hv hVq
          obtain ⟨a1, a2, a3, a4, a5⟩ := hVq p' P' ys rfl
          obtain ⟨hi3, hg3, f3, hr3⟩ := hv
          rw [List.length_append] at g5
          have hlen : (L ++ xs ++ ys).length < 400 := by rw [List.length_append, List.length_append]; omega
          obtain ⟨hi4, hg4, f4, hr4, _⟩ := m_puts (d := d + 3) (σ := σ) (hl := hl) hr3 t6 hlen s 0
          rw [Nat.mul_zero, Nat.add_zero, List.append_assoc, List.append_assoc] at hr4
          have h2 := ih p' P' (xs ++ (ys ++ [s])) hi4 (some (vi (nI s))) (by omega) ((F2.tr f3).tr f4) hr4 a2 a4 (by rw [List.length_append, List.length_append, List.length_append]; show _ + (_ + (_ + 1)) ≤ _; omega)
          exact fx_wpE [9] 60 ⟨_, _, hg3, fun _ => ⟨_, _, hg4, h2⟩, fun w => absurd (fun z => absurd z (by decide)) w⟩
      have hc : ∀ c, c < 128 → (sA T n q = nI c ↔ q < n ∧ T q = nI c) := fun c hc => sA_c hT hc
      have bd : q < n → 0 ≤ (nI q).toInt ∧ (nI q).toInt < ((400 : Nat) : Int) := fun h => ni_in (n := q) (m := 400) (by omega) (by decide)
      have eq2 : q < n → hb 50 0 (nI q).toNatClampNeg = T q := fun h => tm_at htb h
      refine fx_wpL [9, 75] 60 ⟨_, _, hs1, ?_⟩
      by_cases hz0 : sA T n q = nI 42
      · have hz := (hc 42 (by decide)).mp hz0
        exact ⟨fun _ => ⟨bd hz.1, ine (eq2 hz.1) rfl (fun w => absurd hz.2 w) (fun _ => tail 4 hz.1 (by unfold opM; rw [if_pos hz.1, if_pos hz.2]))⟩, fun w => absurd hz0 w⟩
      have hne0 : ¬ (q < n ∧ T q = nI 42) := fun w => hz0 ((hc 42 (by decide)).mpr w)
      refine ⟨fun w => absurd w hz0, fun _ => ?_⟩
      refine ⟨_, _, hsq, ?_⟩
      by_cases hz1 : sA T n q = nI 47
      · have hz := (hc 47 (by decide)).mp hz1
        exact ⟨fun _ => ⟨bd hz.1, ine (eq2 hz.1) rfl (fun _ => ⟨bd hz.1, ine (eq2 hz.1) rfl (fun w => absurd hz.2 w) (fun _ => tail 5 hz.1 (by unfold opM; rw [if_pos hz.1, if_neg (fun w => hne0 ⟨hz.1, w⟩), if_pos hz.2]))⟩) (fun w => absurd ⟨hz.1, w⟩ hne0)⟩, fun w => absurd hz1 w⟩
      have hne1 : ¬ (q < n ∧ T q = nI 47) := fun w => hz1 ((hc 47 (by decide)).mpr w)
      refine ⟨fun w => absurd w hz1, fun _ => ?_⟩
      refine ⟨_, _, hsq, ?_⟩
      by_cases hz2 : sA T n q = nI 37
      · have hz := (hc 37 (by decide)).mp hz2
        exact ⟨fun w => absurd hz2 w, fun _ => ⟨bd hz.1, ine (eq2 hz.1) rfl (fun _ => ⟨bd hz.1, ine (eq2 hz.1) rfl (fun _ => tail 14 hz.1 (by unfold opM; rw [if_pos hz.1, if_neg (fun w => hne0 ⟨hz.1, w⟩), if_neg (fun w => hne1 ⟨hz.1, w⟩), if_pos hz.2])) (fun w => absurd ⟨hz.1, w⟩ hne1)⟩) (fun w => absurd ⟨hz.1, w⟩ hne0)⟩⟩
      have hne2 : ¬ (q < n ∧ T q = nI 37) := fun w => hz2 ((hc 37 (by decide)).mpr w)
      have hop : opM T n q = none := by
        unfold opM
        split
        · rename_i h
          rw [if_neg (fun w => hne0 ⟨h, w⟩), if_neg (fun w => hne1 ⟨h, w⟩), if_neg (fun w => hne2 ⟨h, w⟩)]
        · rfl
      rw [hop]
      exact ⟨fun _ => ⟨Or.inr rfl, rfl, fx_up hb 11 0 8 (nI q), rfl, F1, ⟨up_at _ _ _ _ _, r2, r3, r4, r5, r6⟩⟩, fun w => absurd hz2 w⟩
  cases hvv : vV T n p P with
  | inl f =>
    rw [hvv] at hin
    obtain ⟨hi3, hg3, f3, e3⟩ := hin
    exact fx_wpE [9] 20 ⟨_, _, hg3, fun w => absurd rfl w, fun _ => ⟨Or.inl rfl, rfl, hi3, rfl, f3, e3⟩⟩
  | inr z =>
    obtain ⟨p', P', ys⟩ := z
    obtain ⟨a1, a2, a3, a4, a5⟩ := hVg p P hpn hP p' P' ys hvv
    rw [hvv] at hin
    obtain ⟨hi3, hg3, f3, hr3⟩ := hin
    exact fx_wpE [9] 20 ⟨_, _, hg3, fun _ => loop n p' P' ys hi3 none (by omega) f3 hr3 a2 a4 (by rw [List.length_append]; omega), fun w => absurd (fun z => absurd z (by decide)) w⟩
theorem m_sum (hT : ∀ i, i < n → isB (T i)) (ht : TM hi n T) (hr : RSt hi t p P L) (hpn : p ≤ n) (t6 : t < 6) (hP : P ≤ 60) (hL : L.length ≤ p) : QR (d + 6) 164 [mO] σ hi hl t L (vSu T n p P) := by
  have h400 := ht.1
  have hin := m_term (d := d) (σ := σ) (hl := hl) hT ht hr hpn t6 hP hL
  refine QR_of (d := d + 5) fx_M164 [some mO, none] (by decide) rfl rfl (Nat.le_of_ble_eq_true rfl) ?_
  unfold vSu vJn
  have hVg := vT_g T n
  have loop : ∀ k p P xs (hb : fxI3) l1, n - p ≤ k → FrS t hi hb → RSt hb t p P (L ++ xs) → p ≤ n → P ≤ 60 → (L ++ xs).length ≤ p → fx_E (fx_Ga (d + 5)) fx_M164 (9, [some mO, l1], [], hp σ hb hl, 0, 0) (QP σ hi hl t L (vLq (vT T n) (opA T n) (lx_rn lx_S T n) k p P xs)) := by
    intro k
    induction k with
    | zero =>
      intro p P xs hb l1 hk g1 g2 g3 g4 g5
      have : p = n := by omega
      subst this
      have htb := ht.fs g1
      have esk : lx_rn lx_S T p p = p := rn_no (fun h => by omega)
      have hsq := m_seeQ (d := d + 4) (σ := σ) (hl := hl) htb g2.1 (Nat.le_refl _) esk
      have ne : ∀ c, c < 128 → ¬ sA T p p = nI c := fun c hc z => by
        have := (sA_c hT hc).mp z
        omega
      refine fx_wpL [9] 60 ⟨_, _, hsq, fun z => absurd z (ne 43 (by decide)), fun _ => ⟨_, _, hsq, fun _ => ⟨Or.inr rfl, rfl, hb, rfl, g1, ?_⟩, fun z => absurd (ne 45 (by decide)) z⟩⟩
      rw [esk]
      exact g2
    | succ k ih =>
      intro p P xs hb l1 hk g1 g2 g3 g4 g5
      have htb := ht.fs g1
      obtain ⟨r1, r2, r3, r4, r5, r6⟩ := id g2
      have hs1 := m_see (d := d + 4) (σ := σ) (hl := hl) htb r1 g3
      have hqn : lx_rn lx_S T n p ≤ n := rn_le g3
      have hqp : p ≤ lx_rn lx_S T n p := rn_ge
      have hidem := rn_idem (P := lx_S) (T := T) g3
      unfold vLq
      generalize lx_rn lx_S T n p = q at hs1 hqn hqp hidem ⊢
      have hsq := m_seeQ (d := d + 4) (σ := σ) (hi := fx_up hb 11 0 8 (nI q)) (hl := hl) (p := q) htb (up_at _ _ _ _ _) hqn hidem
      have F1 : FrS t hi (fx_up hb 11 0 8 (nI q)) := g1.tr (FrS.up hb _ (by omega))
      have tail : ∀ s, q < n → opA T n q = some s → fx_E (fx_Ga (d + 5)) fx_M164 (47, [some mO, some (vi (nI s))], [], hp σ (fx_up hb 11 0 8 (nI q)) hl, 0, 0) (QP σ hi hl t L (match opA T n q with
        | none => .inr (q, P, xs)
        | some s => match vT T n (q + 1) P with
          | .inl f => .inl f
          | .inr (p', P', ys) => vLq (vT T n) (opA T n) (lx_rn lx_S T n) k p' P' (xs ++ (ys ++ [s])))) := by
        intro s hq1 hs2
        rw [hs2]
        dsimp only
        have hr1 : RSt (fx_up (fx_up hb 11 0 8 (nI q)) 11 0 8 (nI q + 1)) t (q + 1) P (L ++ xs) := ⟨(up_at _ _ _ _ _).trans (nI_1 q), r2, r3, r4, r5, r6⟩
        have F2 : FrS t hi (fx_up (fx_up hb 11 0 8 (nI q)) 11 0 8 (nI q + 1)) := F1.tr (FrS.up _ _ (by omega))
        have hv := m_term (d := d) (σ := σ) (hl := hl) hT (ht.fs F2) hr1 (by omega) t6 g4 (by omega)
        have hVq := hVg (q + 1) P (by omega) g4
        cases hvv : vT T n (q + 1) P with
        | inl f =>
          rw [hvv] at hv
          obtain ⟨hi3, hg3, f3, e3⟩ := hv
          exact fx_wpE [9] 40 ⟨_, _, hg3, fun w => absurd rfl w, fun _ => ⟨Or.inl rfl, rfl, hi3, rfl, F2.tr f3, e3⟩⟩
        | inr z =>
          obtain ⟨p', P', ys⟩ := z
          rw [hvv] at hv hVq
          obtain ⟨a1, a2, a3, a4, a5⟩ := hVq p' P' ys rfl
          obtain ⟨hi3, hg3, f3, hr3⟩ := hv
          rw [List.length_append] at g5
          have hlen : (L ++ xs ++ ys).length < 400 := by rw [List.length_append, List.length_append]; omega
          obtain ⟨hi4, hg4, f4, hr4, _⟩ := m_puts (d := d + 4) (σ := σ) (hl := hl) hr3 t6 hlen s 0
          rw [Nat.mul_zero, Nat.add_zero, List.append_assoc, List.append_assoc] at hr4
          have h2 := ih p' P' (xs ++ (ys ++ [s])) hi4 (some (vi (nI s))) (by omega) ((F2.tr f3).tr f4) hr4 a2 a4 (by rw [List.length_append, List.length_append, List.length_append]; show _ + (_ + (_ + 1)) ≤ _; omega)
          exact fx_wpE [9] 60 ⟨_, _, hg3, fun _ => ⟨_, _, hg4, h2⟩, fun w => absurd (fun z => absurd z (by decide)) w⟩
      have hc : ∀ c, c < 128 → (sA T n q = nI c ↔ q < n ∧ T q = nI c) := fun c hc => sA_c hT hc
      have bd : q < n → 0 ≤ (nI q).toInt ∧ (nI q).toInt < ((400 : Nat) : Int) := fun h => ni_in (n := q) (m := 400) (by omega) (by decide)
      have eq2 : q < n → hb 50 0 (nI q).toNatClampNeg = T q := fun h => tm_at htb h
      refine fx_wpL [9, 47] 60 ⟨_, _, hs1, ?_⟩
      by_cases hz0 : sA T n q = nI 43
      · have hz := (hc 43 (by decide)).mp hz0
        exact ⟨fun _ => ⟨bd hz.1, ine (eq2 hz.1) rfl (fun w => absurd hz.2 w) (fun _ => tail 2 hz.1 (by unfold opA; rw [if_pos hz.1, if_pos hz.2]))⟩, fun w => absurd hz0 w⟩
      have hne0 : ¬ (q < n ∧ T q = nI 43) := fun w => hz0 ((hc 43 (by decide)).mpr w)
      refine ⟨fun w => absurd w hz0, fun _ => ?_⟩
      refine ⟨_, _, hsq, ?_⟩
      by_cases hz1 : sA T n q = nI 45
      · have hz := (hc 45 (by decide)).mp hz1
        exact ⟨fun w => absurd hz1 w, fun _ => ⟨bd hz.1, ine (eq2 hz.1) rfl (fun _ => tail 3 hz.1 (by unfold opA; rw [if_pos hz.1, if_neg (fun w => hne0 ⟨hz.1, w⟩), if_pos hz.2])) (fun w => absurd ⟨hz.1, w⟩ hne0)⟩⟩
      have hne1 : ¬ (q < n ∧ T q = nI 45) := fun w => hz1 ((hc 45 (by decide)).mpr w)
      have hop : opA T n q = none := by
        unfold opA
        split
        · rename_i h
          rw [if_neg (fun w => hne0 ⟨h, w⟩), if_neg (fun w => hne1 ⟨h, w⟩)]
        · rfl
      rw [hop]
      exact ⟨fun _ => ⟨Or.inr rfl, rfl, fx_up hb 11 0 8 (nI q), rfl, F1, ⟨up_at _ _ _ _ _, r2, r3, r4, r5, r6⟩⟩, fun w => absurd hz1 w⟩
  cases hvv : vT T n p P with
  | inl f =>
    rw [hvv] at hin
    obtain ⟨hi3, hg3, f3, e3⟩ := hin
    exact fx_wpE [9] 20 ⟨_, _, hg3, fun w => absurd rfl w, fun _ => ⟨Or.inl rfl, rfl, hi3, rfl, f3, e3⟩⟩
  | inr z =>
    obtain ⟨p', P', ys⟩ := z
    obtain ⟨a1, a2, a3, a4, a5⟩ := hVg p P hpn hP p' P' ys hvv
    rw [hvv] at hin
    obtain ⟨hi3, hg3, f3, hr3⟩ := hin
    exact fx_wpE [9] 20 ⟨_, _, hg3, fun _ => loop n p' P' ys hi3 none (by omega) f3 hr3 a2 a4 (by rw [List.length_append]; omega), fun w => absurd (fun z => absurd z (by decide)) w⟩
end MU
