/-! a rule: the reference -/
def gF (n : Nat) (V : Nat → Nat → fxQ) : Prop := ∀ p P f, p ≤ n → P ≤ 60 → V p P = .inl f → 1 ≤ f ∧ f ≤ 8 * n + 5
theorem vV_f (T : Nat → Int32) (n : Nat) : gF n (vV T n) := by
  intro p P f hp hP h
  unfold vV at h
  dsimp only at h
  have hqn : lx_rn lx_S T n p ≤ n := rn_le hp
  generalize lx_rn lx_S T n p = q at h hqn
  repeat' split at h
  all_goals first | (cases h; omega) | cases h
theorem vLq_f {V : Nat → Nat → fxQ} {op : Nat → Option Nat} {sk : Nat → Nat} {n : Nat} (hV : gQ n V) (hF : gF n V) (hsk : ∀ p, p ≤ n → p ≤ sk p ∧ sk p ≤ n) (hop : ∀ q s, op q = some s → q < n) : ∀ k p P xs f, p ≤ n → P ≤ 60 → vLq V op sk k p P xs = .inl f → 1 ≤ f ∧ f ≤ 8 * n + 5
  | 0, p, P, xs, f, hp, hP, h => by cases h
  | k + 1, p, P, xs, f, hp, hP, h => by
    unfold vLq at h
    have hs := hsk p hp
    split at h
    · cases h
    · rename_i s hs2
      have hq := hop _ _ hs2
      split at h
      · rename_i f2 hv
        cases h
        exact hF _ _ _ (by omega) hP hv
      · rename_i p2 P2 ys hv
        obtain ⟨a1, a2, a3, a4, a5⟩ := hV _ _ (by omega) hP _ _ _ hv
        exact vLq_f hV hF hsk hop k p2 P2 _ f a2 a4 h
theorem vJn_f {V : Nat → Nat → fxQ} {op : Nat → Option Nat} {sk : Nat → Nat} {n : Nat} (hV : gQ n V) (hF : gF n V) (hsk : ∀ p, p ≤ n → p ≤ sk p ∧ sk p ≤ n) (hop : ∀ q s, op q = some s → q < n) : gF n (vJn V op sk n) := by
  intro p P f hp hP h
  unfold vJn at h
  split at h
  · rename_i f2 hv
    cases h
    exact hF _ _ _ hp hP hv
  · rename_i p2 P2 xs hv
    obtain ⟨a1, a2, a3, a4, a5⟩ := hV _ _ hp hP _ _ _ hv
    exact vLq_f hV hF hsk hop n p2 P2 xs f a2 a4 h
theorem vT_f (T : Nat → Int32) (n : Nat) : gF n (vT T n) := vJn_f (vV_g T n) (vV_f T n) (sk_ok T n) (fun _ _ h => opM_lt h)
theorem vSu_f (T : Nat → Int32) (n : Nat) : gF n (vSu T n) := vJn_f (vT_g T n) (vT_f T n) (sk_ok T n) (fun _ _ h => opA_lt h)
theorem vCm_f (T : Nat → Int32) (n : Nat) : gF n (vCm T n) := by
  intro p P f hp hP h
  unfold vCm at h
  split at h
  · rename_i f2 hv
    cases h
    exact vSu_f T n _ _ _ hp hP hv
  · rename_i p1 P1 xs hv
    obtain ⟨a1, a2, a3, a4, a5⟩ := vSu_g T n _ _ hp hP _ _ _ hv
    have hs := sk_ok T n p1 a2
    split at h
    · cases h
      omega
    · rename_i s e hc
      obtain ⟨c1, c2, c3, c4⟩ := cmO_lt hc
      split at h
      · cases h
        omega
      · split at h
        · rename_i f2 hv2
          cases h
          exact vSu_f T n _ _ _ c2 (by omega) hv2
        · cases h
theorem vFa_f (T : Nat → Int32) (n : Nat) : ∀ k p P Os f, p ≤ n → P ≤ 60 → n - p < k → vFa T n k p P Os = .inl f → 1 ≤ f ∧ f ≤ 8 * n + 5
  | 0, p, P, Os, f, _, _, hk, h => by omega
  | k + 1, p, P, Os, f, hp, hP, hk, h => by
    unfold vFa at h
    obtain ⟨s1, s2⟩ := sk_ok T n p hp
    generalize lx_rn lx_S T n p = q at h s1 s2
    split at h
    · rename_i hw
      have w1 := wk_0 (by decide) hw
      have w2 : lx_rn lx_L T n q ≤ n := rn_le s2
      split at h
      · cases h
        omega
      · exact vFa_f T n k _ P (11 :: Os) f w2 hP (by omega) h
    · split at h
      · rename_i hb
        split at h
        · cases h
          omega
        · exact vFa_f T n k (q + 1) P (91 :: Os) f (by omega) hP (by omega) h
      · split at h
        · rename_i f2 hv
          cases h
          exact vCm_f T n _ _ _ s2 hP hv
        · cases h
theorem rdT_f (T : Nat → Int32) (n : Nat) : ∀ k p P xs Os f, p ≤ n → P ≤ 60 → okO Os → dp Os ≤ 10 → n - p < k → rdT T n k p P xs Os = .inl f → 1 ≤ f ∧ f ≤ 8 * n + 5
  | 0, p, P, xs, Os, f, _, _, _, _, hk, h => by omega
  | k + 1, p, P, xs, Os, f, hp, hP, hO, hd, hk, h => by
    unfold rdT at h
    split at h
    · rename_i f2 hv
      cases h
      exact vFa_f T n (n + 1) p P Os _ hp hP (by omega) hv
    · rename_i p1 P1 ys O1 hv
      obtain ⟨a1, a2, a3, a4, a5, a6, a7⟩ := vFa_g T n (n + 1) p P Os p1 P1 ys O1 hp hP hO hd hv
      obtain ⟨c1, c2, c3, c4, c5, c6⟩ := rdC_g T n n p1 (xs ++ (ys ++ (stl 3 O1).1)) (stl 3 O1).2 a2 a6.tl (Nat.le_trans (stl_dp 3 O1) a7) (by omega)
      generalize rdC T n n p1 (xs ++ (ys ++ (stl 3 O1).1)) (stl 3 O1).2 = c at h c1 c2 c3 c4 c5 c6
      unfold rdU at h
      have w2 : lx_rn lx_L T n c.1 ≤ n := rn_le c2
      split at h
      · rename_i hA
        have w1 := wk_0 (by decide) hA
        have d2 := stl_dp 2 c.2.2
        exact rdT_f T n k _ P1 _ _ f w2 a4 (fun o ho => by
          rcases List.mem_cons.mp ho with e | e
          · exact Or.inr (Or.inl e)
          · exact c4.tl o e) (by show dp _ + _ ≤ 10; rw [if_neg (by omega)]; omega) (by omega) h
      · split at h
        · rename_i hA
          have w1 := wk_0 (by decide) hA
          have d2 := stl_dp 1 c.2.2
          exact rdT_f T n k _ P1 _ _ f w2 a4 (fun o ho => by
            rcases List.mem_cons.mp ho with e | e
            · exact Or.inr (Or.inr (Or.inl e))
            · exact c4.tl o e) (by show dp _ + _ ≤ 10; rw [if_neg (by omega)]; omega) (by omega) h
        · split at h
          · cases h
            omega
          · cases h
theorem ok_nil : okO [] := fun o ho => by cases ho
theorem vC1_ok (T : Nat → Int32) (n p P c : Nat) (hp : p ≤ n) (hP : P ≤ 60) : (∀ f, vC1 T n p P c = .inl f → 1 ≤ f ∧ f ≤ 8 * n + 5) ∧ ∀ p' P' xs o, vC1 T n p P c = .inr (p', P', xs, o) → p < p' ∧ p' ≤ n ∧ P ≤ P' ∧ P' ≤ 60 ∧ xs.length + (o.getD []).length ≤ p' - p ∧ c ≠ 12 := by
  unfold vC1 vRi
  obtain ⟨s1, s2⟩ := sk_ok T n p hp
  generalize lx_rn lx_S T n p = q at s1 s2 ⊢
  by_cases hw : lx_wk T n q = 1919509605
  · rw [if_pos hw]
    have w1 := wk_0 (by decide) hw
    have w2 : lx_rn lx_L T n q ≤ n := rn_le s2
    by_cases hc : c = 12
    · rw [if_pos hc]
      exact ⟨fun f h => by cases h; omega, fun _ _ _ _ h => by cases h⟩
    · rw [if_neg hc]
      generalize lx_rn lx_L T n q = e at w1 w2 ⊢
      cases hv : vSu T n e P with
      | inl f =>
        refine ⟨fun f2 h => ?_, fun _ _ _ _ h => by cases h⟩
        cases h
        exact vSu_f T n _ _ _ w2 hP hv
      | inr z =>
        obtain ⟨p1, P1, xs⟩ := z
        obtain ⟨a1, a2, a3, a4, a5⟩ := vSu_g T n _ _ w2 hP _ _ _ hv
        dsimp only
        obtain ⟨u1, u2⟩ := sk_ok T n p1 a2
        generalize lx_rn lx_S T n p1 = r at u1 u2 ⊢
        by_cases hI : lx_wk T n r = 26982
        · rw [if_pos hI]
          have x1 := wk_0 (by decide) hI
          have x2 : lx_rn lx_L T n r ≤ n := rn_le u2
          cases hv2 : rdT T n (n + 1) (lx_rn lx_L T n r) P1 [] [] with
          | inl f =>
            refine ⟨fun f2 h => ?_, fun _ _ _ _ h => by cases h⟩
            cases h
            exact rdT_f T n _ _ _ _ _ _ x2 a4 ok_nil (Nat.zero_le _) (by omega) hv2
          | inr z2 =>
            obtain ⟨p2, P2, ys⟩ := z2
            obtain ⟨b1, b2, b3, b4, b5⟩ := rdT_g T n _ _ _ _ _ _ _ _ x2 a4 ok_nil (Nat.zero_le _) hv2
            have b5 : ys.length ≤ 0 + 0 + (p2 - lx_rn lx_L T n r) := b5
            refine ⟨fun f2 h => (by cases h), fun p' P' xs2 o h => ?_⟩
            cases h
            exact ⟨by omega, b2, by omega, b4, by show xs.length + ys.length ≤ _; omega, hc⟩
        · rw [if_neg hI]
          refine ⟨fun f2 h => (by cases h), fun p' P' xs2 o h => ?_⟩
          cases h
          exact ⟨by omega, u2, by omega, a4, by show xs.length + 0 ≤ _; omega, hc⟩
  · rw [if_neg hw]
    exact ⟨fun f h => by cases h; omega, fun _ _ _ _ h => by cases h⟩
theorem lx_m1 : ∀ b, b < 256 → ¬ (Int8.ofNat b).toInt32 &&& 255 = -1 := by decide +kernel
theorem sA_m1 {T : Nat → Int32} {n q : Nat} (hT : ∀ i, i < n → isB (T i)) : sA T n q = -1 ↔ ¬ q < n := by
  unfold sA
  by_cases h : q < n
  · rw [if_pos h]
    obtain ⟨b, hb, e⟩ := isB_of (hT q h)
    rw [e]
    exact ⟨fun z => absurd z (lx_m1 b hb), fun z => absurd h z⟩
  · rw [if_neg h]
    exact ⟨fun _ => h, fun _ => rfl⟩
theorem RMa_of {hi hi' : fxI3} {t : Nat} (h : ∀ s, hi' 53 0 s = hi 53 0 s) : ∀ (R : fxRl) (c q : Nat), RMa hi t R c q → RMa hi' t R c q
  | [], _, _, _ => trivial
  | (s, o) :: r, c, q, g => by
    obtain ⟨⟨g1, g2, g3, g4⟩, g5⟩ := g
    exact ⟨⟨(h _).trans g1, (h _).trans g2, (h _).trans g3, (h _).trans g4⟩, RMa_of h r _ _ g5⟩
def RcR (D y : Nat) (av : List fxV) (σ : fxS) (hi : fxI3) (hl : fxL3) (t c : Nat) (L : List Nat) (res : fxQ3) : Prop := match res with
  | .inl f => ∃ hi', fx_Ga D y av (hp σ hi hl) (some (vi 0)) (hp σ hi' hl) ∧ FrU t hi hi' ∧ hi' 11 0 9 = nI f
  | .inr (p', P', xs, o) => ∃ hi', fx_Ga D y av (hp σ hi hl) (some (vi 1)) (hp σ hi' hl) ∧ FrU t hi hi' ∧ RSt hi' t p' P' (L ++ (xs ++ o.getD [])) ∧ hi' 54 0 t = nI (c + 1) ∧ mkC hi' (48 * t + 4 * c) L.length xs o ∧ (∀ s, s < 48 * t + 4 * c → hi' 53 0 s = hi 53 0 s) ∧ hi' 11 0 14 = nI (c + 1)
section MRV
variable {d : Nat} {σ : fxS} {hi : fxI3} {hl : fxL3} {n p t P c : Nat} {T : Nat → Int32} {L : List Nat}
theorem m_clauseR (hT : ∀ i, i < n → isB (T i)) (ht : TM hi n T) (hr : RSt hi t p P L) (h54 : hi 54 0 t = nI c) (h14 : hi 11 0 14 = nI c) (c12 : c ≤ 12) (hpn : p ≤ n) (t6 : t < 6) (hP : P ≤ 60) (hL : L.length ≤ p) : RcR (d + 11) 177 [mO] σ hi hl t c L (vC1 T n p P c) := by
  have h400 := ht.1
  obtain ⟨r1, r2, r3, r4, r5, r6⟩ := id hr
  have hs := m_see (d := d + 9) (σ := σ) (hl := hl) ht r1 hpn
  have hqn : lx_rn lx_S T n p ≤ n := rn_le hpn
  have hqp : p ≤ lx_rn lx_S T n p := rn_ge
  have hidem := rn_idem (P := lx_S) (T := T) hpn
  unfold vC1
  generalize lx_rn lx_S T n p = q at hs hqn hqp hidem ⊢
  have hw := m_isWordQ (d := d + 8) (σ := σ) (hi := fx_up hi 11 0 8 (nI q)) (hl := hl) (p := q) ht (up_at _ _ _ _ _) hqn hidem (c := 1919509605) (by decide) (by decide)
  have F1 : FrU t hi (fx_up hi 11 0 8 (nI q)) := FrU.up hi _ (by omega)
  have key : ∀ {B : Bool} {Q : fxI3 → Prop}, fx_E (fx_Ga (d + 10)) fx_M177 (25, [some mO, some (vi (nI q)), some (vi 0)], [], hp σ (fx_up hi 11 0 8 (nI q)) hl, 0, 0) (fun r2 h2 => r2 = some (vi (b01 B)) ∧ ∃ hi', h2 = hp σ hi' hl ∧ Q hi') → ∃ hi', fx_Ga (d + 11) 177 [mO] (hp σ hi hl) (some (vi (b01 B))) (hp σ hi' hl) ∧ Q hi' := by
    intro B Q k
    obtain ⟨r, h', hg', e1, hi', e2, e3⟩ := fx_methX (d := d + 10) (y := 177) (av := [mO]) (h := hp σ hi hl) fx_M177 [some mO, none, none] (by decide) rfl rfl (Nat.le_of_ble_eq_true rfl) (fx_wpE [25] 40 ⟨_, _, hs, nn_eq t 6 (fun h => by omega) (fun _ => k) r3⟩)
    subst e1
    subst e2
    exact ⟨hi', hg', e3⟩
  by_cases hW : lx_wk T n q = 1919509605
  · rw [if_pos hW]
    rw [decide_eq_true hW] at hw
    by_cases hc : c = 12
    · rw [if_pos hc]
      have hf := m_fails (d := d + 9) (σ := σ) (hi := fx_up hi 11 0 8 (nI q)) (hl := hl) r2 4 q
      refine key (B := false) (Q := fun hi' => FrU t hi hi' ∧ hi' 11 0 9 = nI (5 + 8 * q)) (fx_wpE [] 60 ⟨fun _ => ⟨_, _, hw, fun _ => ⟨fun _ => nn_eq c 12 (fun _ => ⟨_, _, hf, Or.inl rfl, rfl, _, rfl, F1.tr (FrU.up _ _ (by omega)), ?_⟩) (fun h => absurd hc h) h14, fun w => absurd rfl w⟩, fun w => absurd (fun z => absurd z (by decide)) w⟩, fun w => absurd rfl w⟩)
      rw [up_at, show 1 + 8 * q + 4 = 5 + 8 * q by omega]
    · rw [if_neg hc]
      have hr1 : RSt (fx_up (fx_up hi 11 0 8 (nI q)) 11 0 14 (hi 11 0 14 + 1)) t q P L := ⟨rfl, r2, r3, r4, r5, r6⟩
      have F2 : FrU t hi (fx_up (fx_up hi 11 0 8 (nI q)) 11 0 14 (hi 11 0 14 + 1)) := F1.tr (FrU.up _ _ (by omega))
      have hri := m_ride (d := d) (σ := σ) (hl := hl) hT (ht.fu F2) hr1 h54 (by omega) hqn t6 hP (by omega)
      cases hv : vRi T n q P with
      | inl f =>
        rw [hv] at hri
        obtain ⟨hi3, hg3, f3, e3⟩ := hri
        exact key (B := false) (Q := fun hi' => FrU t hi hi' ∧ hi' 11 0 9 = nI f) (fx_wpE [] 60 ⟨fun _ => ⟨_, _, hw, fun _ => ⟨fun _ => nn_eq c 12 (fun h => absurd h hc) (fun _ => ⟨fun _ => ⟨_, _, hg3, Or.inl rfl, rfl, hi3, rfl, F2.tr f3, e3⟩, fun w => absurd rfl w⟩) h14, fun w => absurd rfl w⟩, fun w => absurd (fun z => absurd z (by decide)) w⟩, fun w => absurd rfl w⟩)
      | inr z =>
        obtain ⟨p', P', xs, o⟩ := z
        rw [hv] at hri
        obtain ⟨hi3, hg3, f3, k1, k2, k3, k4, k5⟩ := hri
        exact key (B := true) (Q := fun hi' => FrU t hi hi' ∧ RSt hi' t p' P' (L ++ (xs ++ o.getD [])) ∧ hi' 54 0 t = nI (c + 1) ∧ mkC hi' (48 * t + 4 * c) L.length xs o ∧ (∀ s, s < 48 * t + 4 * c → hi' 53 0 s = hi 53 0 s) ∧ hi' 11 0 14 = nI (c + 1)) (fx_wpE [] 60 ⟨fun _ => ⟨_, _, hw, fun _ => ⟨fun _ => nn_eq c 12 (fun h => absurd h hc) (fun _ => ⟨fun _ => ⟨_, _, hg3, Or.inr rfl, rfl, hi3, rfl, F2.tr f3, k1, k2, k3, k4, k5.trans ((up_at _ _ _ _ _).trans (by rw [h14, nI_1]))⟩, fun w => absurd rfl w⟩) h14, fun w => absurd rfl w⟩, fun w => absurd (fun z => absurd z (by decide)) w⟩, fun w => absurd rfl w⟩)
  · rw [if_neg hW]
    rw [decide_eq_false hW] at hw
    have hf := m_fails (d := d + 9) (σ := σ) (hi := fx_up hi 11 0 8 (nI q)) (hl := hl) r2 0 q
    exact key (B := false) (Q := fun hi' => FrU t hi hi' ∧ hi' 11 0 9 = nI (1 + 8 * q)) (fx_wpE [] 60 ⟨fun _ => ⟨_, _, hw, fun w => absurd rfl w, fun _ => ⟨_, _, hf, Or.inl rfl, rfl, _, rfl, F1.tr (FrU.up _ _ (by omega)), up_at _ _ _ _ _⟩⟩, fun w => absurd rfl w⟩)
/-- what a rule's reading leaves -/
def RaP (σ : fxS) (hi : fxI3) (hl : fxL3) (t : Nat) (res : Nat ⊕ fxRl) : Option fxV → fxH → Prop := fun r2 h2 => match res with
  | .inl f => r2 = some (vi 0) ∧ ∃ hi', h2 = hp σ hi' hl ∧ (∀ k j s, ¬ (k = 11 ∧ s = 1) → ∃ h3 : fxI3, FrU t hi h3 ∧ hi' k j s = h3 k j s) ∧ hi' 11 0 1 = 0 ∧ hi' 11 0 9 = nI f
  | .inr R => r2 = some (vi 1) ∧ ∃ hi', h2 = hp σ hi' hl ∧ (∀ k j s, ¬ (k = 11 ∧ s = 1) → ∃ h3 : fxI3, FrU t hi h3 ∧ hi' k j s = h3 k j s) ∧ hi' 11 0 1 = 0 ∧ R.length ≤ 12 ∧ (flt R).length ≤ 400 ∧ hi' 54 0 t = nI R.length ∧ RMa hi' t R 0 0 ∧ ∀ k, k < (flt R).length → hi' 51 0 (400 * t + k) = nI ((flt R).getD k 0)
theorem m_readsR (hT : ∀ i, i < n → isB (T i)) (ht : TM hi n T) (h11 : hi 11 0 11 = nI t) (h54 : hi 54 0 t = nI 0) (t6 : t < 6) : fx_E (fx_Ga (d + 11)) fx_M178 (0, [some mO, none], [], hp σ hi hl, 0, 0) (RaP σ hi hl t (rdR T n (n + 1) 0 0 [])) := by
  have h400 := ht.1
  -- the end of it: a fault
  have bad : ∀ (hb : fxI3) f, FrU t hi hb → hb 11 0 9 = nI f → 1 ≤ f → f ≤ 8 * n + 5 → fx_E (fx_Ga (d + 11)) fx_M178 (88, [some mO, some (vi 0)], [], hp σ hb hl, 0, 0) (RaP σ hi hl t (.inl f)) ∧ fx_E (fx_Ga (d + 11)) fx_M178 (88, [some mO, some (vi 1)], [], hp σ hb hl, 0, 0) (RaP σ hi hl t (.inl f)) := by
    intro hb f g1 g2 g3 g4
    have fin : RaP σ hi hl t (.inl f) (some (vi 0)) (hp σ (fx_up hb 11 0 1 0) hl) := ⟨rfl, _, rfl, fun k j s h => ⟨hb, g1, up_off _ _ (by omega)⟩, up_at _ _ _ _ _, g2⟩
    have e : ¬ ¬ ¬ hb 11 0 9 = 0 := fun z => z (fun w => by
      rw [g2] at w
      have := (nI_eq (a := f) (b := 0) (by omega) (by decide)).mp w
      omega)
    exact ⟨fx_wpE [] 20 ⟨fun _ => ⟨Or.inl rfl, fin⟩, fun w => absurd w e⟩, fx_wpE [] 20 ⟨fun _ => ⟨Or.inl rfl, fin⟩, fun w => absurd w e⟩⟩
  have loop : ∀ k p1 P1 R (hb : fxI3), n - p1 ≤ k → p1 ≤ n → P1 ≤ 60 → FrU t hi hb → RSt hb t p1 P1 (flt R) → (flt R).length ≤ p1 → hb 54 0 t = nI R.length → hb 11 0 14 = nI R.length → R.length ≤ 12 → RMa hb t R 0 0 → fx_E (fx_Ga (d + 11)) fx_M178 (35, [some mO, some (vi 1)], [], hp σ hb hl, 0, 0) (RaP σ hi hl t (if lx_rn lx_S T n p1 < n ∧ T (lx_rn lx_S T n p1) = nI 59 then rdR T n k (lx_rn lx_S T n p1 + 1) P1 R else if lx_rn lx_S T n p1 < n then .inl (1 + 8 * lx_rn lx_S T n p1) else .inr R)) := by
    intro k
    induction k with
    | zero =>
      intro p1 P1 R hb hk hp1 hP1 g1 g2 g3 g4 g5 g6 g7
      have : p1 = n := by omega
      subst this
      have htb := ht.fu g1
      have esk : lx_rn lx_S T p1 p1 = p1 := rn_no (fun h => by omega)
      have hsq := m_seeQ (d := d + 10) (σ := σ) (hl := hl) htb g2.1 (Nat.le_refl _) esk
      have em : sA T p1 p1 = -1 := (sA_m1 hT).mpr (by omega)
      rw [em] at hsq
      rw [esk, if_neg (by omega), if_neg (by omega)]
      have fin : RaP σ hi hl t (.inr R) (some (vi 1)) (hp σ (fx_up hb 11 0 1 0) hl) := ⟨rfl, _, rfl, fun k j s h => ⟨hb, g1, up_off _ _ (by omega)⟩, up_at _ _ _ _ _, g6, by omega, g4, RMa_of (fun s => up_off _ _ (by omega)) R 0 0 g7, g2.2.2.2.2.2⟩
      exact fx_wpL [35] 60 ⟨fun w => absurd w (by decide), fun _ => ⟨_, _, hsq, fun _ => ⟨fun w => absurd w (by decide), fun _ => ⟨_, _, hsq, fun _ => ⟨fun w => absurd g2.2.1 w, fun _ => ⟨Or.inr rfl, fin⟩⟩, fun w => absurd rfl w⟩⟩, fun w => absurd (by decide) w⟩⟩
    | succ k ih =>
      intro p1 P1 R hb hk hp1 hP1 g1 g2 g3 g4 g5 g6 g7
      have htb := ht.fu g1
      obtain ⟨r1, r2, r3, r4, r5, r6⟩ := id g2
      have hs1 := m_see (d := d + 10) (σ := σ) (hl := hl) htb r1 hp1
      have hqn : lx_rn lx_S T n p1 ≤ n := rn_le hp1
      have hqp : p1 ≤ lx_rn lx_S T n p1 := rn_ge
      have hidem := rn_idem (P := lx_S) (T := T) hp1
      generalize lx_rn lx_S T n p1 = q at hs1 hqn hqp hidem ⊢
      have F1 : FrU t hi (fx_up hb 11 0 8 (nI q)) := g1.tr (FrU.up hb _ (by omega))
      have hsq := m_seeQ (d := d + 10) (σ := σ) (hi := fx_up hb 11 0 8 (nI q)) (hl := hl) (p := q) htb (up_at _ _ _ _ _) hqn hidem
      by_cases hB : q < n ∧ T q = nI 59
      · have eB : sA T n q = nI 59 := (sA_c hT (by decide)).mpr hB
        rw [if_pos hB]
        have hr1 : RSt (fx_up (fx_up hb 11 0 8 (nI q)) 11 0 8 (nI q + 1)) t (q + 1) P1 (flt R) := ⟨(up_at _ _ _ _ _).trans (nI_1 q), r2, r3, r4, r5, r6⟩
        have F2 : FrU t hi (fx_up (fx_up hb 11 0 8 (nI q)) 11 0 8 (nI q + 1)) := F1.tr (FrU.up _ _ (by omega))
        have hcl := m_clauseR (d := d) (σ := σ) (hl := hl) hT (ht.fu F2) hr1 g4 g5 g6 (by omega) t6 hP1 (by omega)
        unfold rdR
        have hok := vC1_ok T n (q + 1) P1 R.length (by omega) hP1
        cases hv : vC1 T n (q + 1) P1 R.length with
        | inl f =>
          rw [hv] at hcl
          obtain ⟨hi3, hg3, f3, e3⟩ := hcl
          have hb2 := hok.1 f hv
          have h2 := (bad hi3 f (F2.tr f3) e3 hb2.1 hb2.2).1
          refine fx_wpL [35, 88] 60 ⟨fun w => absurd w (by decide), fun _ => ⟨_, _, hs1, fun w => absurd eB w, fun _ => ⟨_, _, hg3, ?_⟩⟩⟩
          exact fx_wpL [88] 20 ⟨fun _ => ⟨fun _ => h2, fun w => absurd rfl w⟩, fun w => absurd rfl w⟩
        | inr z =>
          obtain ⟨p', P', xs, o⟩ := z
          rw [hv] at hcl
          obtain ⟨hi3, hg3, f3, k1, k2, k3, k4, k5⟩ := hcl
          obtain ⟨b1, b2, b3, b4, b5, b6⟩ := hok.2 p' P' xs o hv
          rw [← flt_snoc] at k1
          have h2 := ih p' P' (R ++ [(xs, o)]) hi3 (by omega) b2 b4 (F2.tr f3) k1 (by rw [flt_snoc, List.length_append, List.length_append]; omega) (by rw [List.length_append]; exact k2) (by rw [List.length_append]; exact k5) (by rw [List.length_append]; show _ + 1 ≤ 12; omega) (RMa_snoc R 0 0 g7 (fun x hx => k4 x (by omega)) (by rw [Nat.zero_add, Nat.zero_add]; exact k3))
          exact fx_wpL [35] 60 ⟨fun w => absurd w (by decide), fun _ => ⟨_, _, hs1, fun w => absurd eB w, fun _ => ⟨_, _, hg3, h2⟩⟩⟩
      · have eB : ¬ sA T n q = nI 59 := fun z => hB ((sA_c hT (by decide)).mp z)
        rw [if_neg hB]
        by_cases hq : q < n
        · rw [if_pos hq]
          have em : ¬ sA T n q = -1 := fun z => (sA_m1 hT).mp z hq
          have hf := m_fails (d := d + 10) (σ := σ) (hi := fx_up hb 11 0 8 (nI q)) (hl := hl) r2 0 q
          have h2 := (bad (fx_up (fx_up hb 11 0 8 (nI q)) 11 0 9 (nI (1 + 8 * q + 0))) (1 + 8 * q) (F1.tr (FrU.up _ _ (by omega))) (up_at _ _ _ _ _) (by omega) (by omega)).2
          exact fx_wpL [35, 88] 60 ⟨fun w => absurd w (by decide), fun _ => ⟨_, _, hs1, fun _ => ⟨fun w => absurd w (by decide), fun _ => ⟨_, _, hsq, fun w => absurd w em, fun _ => ⟨_, _, hf, h2⟩⟩⟩, fun w => absurd eB w⟩⟩
        · rw [if_neg hq]
          have em : sA T n q = -1 := (sA_m1 hT).mpr hq
          have fin : RaP σ hi hl t (.inr R) (some (vi 1)) (hp σ (fx_up (fx_up hb 11 0 8 (nI q)) 11 0 1 0) hl) := ⟨rfl, _, rfl, fun k j s h => ⟨_, F1, up_off _ _ (by omega)⟩, up_at _ _ _ _ _, g6, by omega, g4, RMa_of (fun s => (up_off _ _ (by omega)).trans (up_off _ _ (by omega))) R 0 0 g7, r6⟩
          exact fx_wpL [35] 60 ⟨fun w => absurd w (by decide), fun _ => ⟨_, _, hs1, fun _ => ⟨fun w => absurd w (by decide), fun _ => ⟨_, _, hsq, fun _ => ⟨fun w => absurd r2 w, fun _ => ⟨Or.inr rfl, fin⟩⟩, fun w => absurd em w⟩⟩, fun w => absurd eB w⟩⟩
  -- the beginning
  have b7 := ni_inx (n := t) (m := 7) h11 (by omega) (by decide)
  generalize hh : fx_up (fx_up (fx_up (fx_up (fx_up hi 52 0 t 0) 11 0 14 0) 11 0 8 0) 11 0 9 0) 11 0 12 0 = h0
  have F0 : FrU t hi h0 := by
    rw [← hh]
    exact ((((FrU.up hi _ (by omega)).tr (FrU.up _ _ (by omega))).tr (FrU.up _ _ (by omega))).tr (FrU.up _ _ (by omega))).tr (FrU.up _ _ (by omega))
  have hr0 : RSt h0 t 0 0 [] := by
    rw [← hh]
    refine ⟨rfl, rfl, h11, rfl, ?_, fun k hk => absurd hk (by show ¬ k < 0; omega)⟩
    rw [up_off _ _ (by omega), up_off _ _ (by omega), up_off _ _ (by omega), up_off _ _ (by omega), up_at]
    rfl
  have x54 : h0 54 0 t = nI 0 := by
    rw [← hh, up_off _ _ (by omega), up_off _ _ (by omega), up_off _ _ (by omega), up_off _ _ (by omega), up_off _ _ (by omega)]
    exact h54
  have x14 : h0 11 0 14 = nI 0 := by rw [← hh]; rfl
  have hcl := m_clauseR (d := d) (σ := σ) (hl := hl) hT (ht.fu F0) hr0 x54 x14 (by decide) (Nat.zero_le _) t6 (by decide) (Nat.le_refl _)
  have hok := vC1_ok T n 0 0 0 (Nat.zero_le _) (by decide)
  have st30 : fx_E (fx_Ga (d + 11)) fx_M178 (30, [some mO, none], [], hp σ h0 hl, 0, 0) (RaP σ hi hl t (rdR T n (n + 1) 0 0 [])) := by
    unfold rdR
    show fx_E _ _ _ (RaP σ hi hl t (match vC1 T n 0 0 0 with
      | .inl f => .inl f
      | .inr (p1, P1, xs, o) => if lx_rn lx_S T n p1 < n ∧ T (lx_rn lx_S T n p1) = nI 59 then rdR T n n (lx_rn lx_S T n p1 + 1) P1 ([] ++ [(xs, o)]) else if lx_rn lx_S T n p1 < n then .inl (1 + 8 * lx_rn lx_S T n p1) else .inr ([] ++ [(xs, o)])))
    cases hv : vC1 T n 0 0 0 with
    | inl f =>
      rw [hv] at hcl
      obtain ⟨hi3, hg3, f3, e3⟩ := hcl
      have hb2 := hok.1 f hv
      have h2 := (bad hi3 f (F0.tr f3) e3 hb2.1 hb2.2).1
      refine fx_wpE [35] 20 ⟨_, _, hg3, ?_⟩
      exact fx_wpL [88] 20 ⟨fun _ => ⟨fun _ => h2, fun w => absurd rfl w⟩, fun w => absurd rfl w⟩
    | inr z =>
      obtain ⟨p', P', xs, o⟩ := z
      rw [hv] at hcl
      obtain ⟨hi3, hg3, f3, k1, k2, k3, k4, k5⟩ := hcl
      obtain ⟨b1, b2, b3, b4, b5, b6⟩ := hok.2 p' P' xs o hv
      have k1 : RSt hi3 t p' P' (flt ([] ++ [(xs, o)])) := by rw [flt_snoc]; exact k1
      have h2 := loop n p' P' ([] ++ [(xs, o)]) hi3 (by omega) b2 b4 (F0.tr f3) k1 (by rw [flt_snoc]; show (xs ++ o.getD []).length ≤ _; rw [List.length_append]; omega) k2 k5 (by show 1 ≤ 12; decide) (RMa_snoc [] 0 0 trivial (fun x hx => k4 x hx) k3)
      exact fx_wpE [35] 20 ⟨_, _, hg3, h2⟩
  rw [← hh] at st30
  conv at st30 => rw [show fx_up hi 52 0 t = fx_up hi 52 0 (hi 11 0 11).toNatClampNeg by rw [ni_cl h11 (by omega)]]
  exact fx_wpE [30] 40 ⟨b7, st30⟩
def aRule (T : Nat → Int32) (n N : Nat) : Int32 := if N = 6 then -1 else match rdR T n (n + 1) 0 0 [] with
  | .inl f => -2 - nI f
  | .inr _ => nI N
end MRV
