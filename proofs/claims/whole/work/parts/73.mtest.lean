/-! facts and tests: the reference -/
abbrev fxQ2 : Type := Nat ⊕ (Nat × Nat × List Nat × List Nat)
def vFa (T : Nat → Int32) (n : Nat) : Nat → Nat → Nat → List Nat → fxQ2
  | 0, _, _, _ => .inl 0
  | k + 1, p, P, Os => if lx_wk T n (lx_rn lx_S T n p) = 7237492 then (if dp Os = 10 then .inl (3 + 8 * lx_rn lx_S T n p) else vFa T n k (lx_rn lx_L T n (lx_rn lx_S T n p)) P (11 :: Os))
    else if lx_rn lx_S T n p < n ∧ T (lx_rn lx_S T n p) = nI 91 then (if dp Os = 10 then .inl (3 + 8 * lx_rn lx_S T n p) else vFa T n k (lx_rn lx_S T n p + 1) P (91 :: Os))
    else match vCm T n (lx_rn lx_S T n p) P with
      | .inl f => .inl f
      | .inr (p', P', xs) => .inr (p', P', xs, Os)
def rdC (T : Nat → Int32) (n : Nat) : Nat → Nat → List Nat → List Nat → Nat × List Nat × List Nat
  | 0, p, xs, Os => (lx_rn lx_S T n p, xs, Os)
  | k + 1, p, xs, Os => if (lx_rn lx_S T n p < n ∧ T (lx_rn lx_S T n p) = nI 93) ∧ isI Os = true then rdC T n k (lx_rn lx_S T n p + 1) (xs ++ ((stl 1 Os).1 ++ (stl 3 (stl 1 Os).2.tail).1)) (stl 3 (stl 1 Os).2.tail).2 else (lx_rn lx_S T n p, xs, Os)
/-- what follows a fact: it is told by what was read, and what is open -/
def rdU (T : Nat → Int32) (n : Nat) (G : Nat → Nat → List Nat → List Nat → fxQ) (P1 : Nat) (c : Nat × List Nat × List Nat) : fxQ :=
  if lx_wk T n c.1 = 6385252 then G (lx_rn lx_L T n c.1) P1 (c.2.1 ++ (stl 2 c.2.2).1) (12 :: (stl 2 c.2.2).2)
  else if lx_wk T n c.1 = 28530 then G (lx_rn lx_L T n c.1) P1 (c.2.1 ++ (stl 1 c.2.2).1) (13 :: (stl 1 c.2.2).2)
  else if isI c.2.2 = true then .inl (1 + 8 * c.1) else .inr (c.1, P1, c.2.1 ++ (stl 1 c.2.2).1)
def rdT (T : Nat → Int32) (n : Nat) : Nat → Nat → Nat → List Nat → List Nat → fxQ
  | 0, _, _, _, _ => .inl 0
  | k + 1, p, P, xs, Os => match vFa T n (n + 1) p P Os with
    | .inl f => .inl f
    | .inr (p1, P1, ys, O1) => rdU T n (rdT T n k) P1 (rdC T n n p1 (xs ++ (ys ++ (stl 3 O1).1)) (stl 3 O1).2)
def okO (Os : List Nat) : Prop := ∀ o, o ∈ Os → o = 11 ∨ o = 12 ∨ o = 13 ∨ o = 91
theorem okO.tl {b : Nat} {Os : List Nat} (h : okO Os) : okO (stl b Os).2 := fun o ho => h o (by rw [← stl_app b Os]; exact List.mem_append_right _ ho)
theorem dp_app (a b : List Nat) : dp (a ++ b) = dp a + dp b := by
  induction a with
  | nil => show dp b = 0 + dp b; omega
  | cons o r ih =>
    show dp (r ++ b) + _ = dp r + _ + dp b
    rw [ih]
    omega
theorem stl_len (b : Nat) (Os : List Nat) : (stl b Os).1.length + (stl b Os).2.length = Os.length := by
  rw [← List.length_append, stl_app]
theorem stl_dp (b : Nat) (Os : List Nat) : dp (stl b Os).2 ≤ dp Os := by
  have := dp_app (stl b Os).1 (stl b Os).2
  rw [stl_app] at this
  omega
theorem stl_91 : ∀ (Os : List Nat), okO Os → isI Os = true → ∃ r, (stl 1 Os).2 = 91 :: r
  | [], _, h => by cases h
  | o :: r, hk, h => by
    unfold stl
    rcases hk o List.mem_cons_self with e | e | e | e
    · subst e
      obtain ⟨r2, hr2⟩ := stl_91 r (fun x hx => hk x (List.mem_cons_of_mem _ hx)) (by unfold isI at h ⊢; simpa using h)
      exact ⟨r2, hr2⟩
    · subst e
      obtain ⟨r2, hr2⟩ := stl_91 r (fun x hx => hk x (List.mem_cons_of_mem _ hx)) (by unfold isI at h ⊢; simpa using h)
      exact ⟨r2, hr2⟩
    · subst e
      obtain ⟨r2, hr2⟩ := stl_91 r (fun x hx => hk x (List.mem_cons_of_mem _ hx)) (by unfold isI at h ⊢; simpa using h)
      exact ⟨r2, hr2⟩
    · subst e
      exact ⟨r, rfl⟩
theorem wk_0 {T : Nat → Int32} {n q c : Nat} (hc : 0 < c) (h : lx_wk T n q = c) : q < lx_rn lx_L T n q := by
  have hge : q ≤ lx_rn lx_L T n q := rn_ge
  by_cases e : lx_rn lx_L T n q = q
  · unfold lx_wk at h
    rw [e, Nat.sub_self, if_neg (by omega)] at h
    omega
  · omega
theorem vFa_g (T : Nat → Int32) (n : Nat) : ∀ k p P Os p' P' xs O', p ≤ n → P ≤ 60 → okO Os → dp Os ≤ 10 → vFa T n k p P Os = .inr (p', P', xs, O') → p < p' ∧ p' ≤ n ∧ P ≤ P' ∧ P' ≤ 60 ∧ xs.length + O'.length ≤ Os.length + (p' - p) ∧ okO O' ∧ dp O' ≤ 10
  | 0, p, P, Os, p', P', xs, O', _, _, _, _, h => by cases h
  | k + 1, p, P, Os, p', P', xs, O', hp, hP, hO, hd, h => by
    unfold vFa at h
    obtain ⟨s1, s2⟩ := sk_ok T n p hp
    generalize lx_rn lx_S T n p = q at h s1 s2
    split at h
    · rename_i hw
      have w1 := wk_0 (by decide) hw
      have w2 : lx_rn lx_L T n q ≤ n := rn_le s2
      split at h
      · cases h
      · obtain ⟨a1, a2, a3, a4, a5, a6, a7⟩ := vFa_g T n k _ P (11 :: Os) p' P' xs O' w2 hP (fun o ho => by
          rcases List.mem_cons.mp ho with e | e
          · exact Or.inl e
          · exact hO o e) (by show dp Os + _ ≤ 10; simp; omega) h
        rw [List.length_cons] at a5
        exact ⟨by omega, a2, a3, a4, by omega, a6, a7⟩
    · split at h
      · rename_i hb
        split at h
        · cases h
        · obtain ⟨a1, a2, a3, a4, a5, a6, a7⟩ := vFa_g T n k (q + 1) P (91 :: Os) p' P' xs O' (by omega) hP (fun o ho => by
            rcases List.mem_cons.mp ho with e | e
            · exact Or.inr (Or.inr (Or.inr e))
            · exact hO o e) (by show dp Os + _ ≤ 10; simp; omega) h
          rw [List.length_cons] at a5
          exact ⟨by omega, a2, a3, a4, by omega, a6, a7⟩
      · split at h
        · cases h
        · rename_i p2 P2 ys hv
          cases h
          obtain ⟨a1, a2, a3, a4, a5⟩ := vCm_g T n _ _ s2 hP _ _ _ hv
          exact ⟨by omega, a2, a3, a4, by omega, hO, hd⟩
theorem rdC_g (T : Nat → Int32) (n : Nat) : ∀ k p xs Os, p ≤ n → okO Os → dp Os ≤ 10 → n - p ≤ k → p ≤ (rdC T n k p xs Os).1 ∧ (rdC T n k p xs Os).1 ≤ n ∧ (rdC T n k p xs Os).2.1.length + (rdC T n k p xs Os).2.2.length ≤ xs.length + Os.length ∧ okO (rdC T n k p xs Os).2.2 ∧ dp (rdC T n k p xs Os).2.2 ≤ 10 ∧ lx_rn lx_S T n (rdC T n k p xs Os).1 = (rdC T n k p xs Os).1
  | 0, p, xs, Os, hp, hO, hd, _ => by
    obtain ⟨s1, s2⟩ := sk_ok T n p hp
    exact ⟨s1, s2, Nat.le_refl _, hO, hd, rn_idem hp⟩
  | k + 1, p, xs, Os, hp, hO, hd, hk => by
    obtain ⟨s1, s2⟩ := sk_ok T n p hp
    unfold rdC
    split
    · rename_i h
      obtain ⟨r, hr⟩ := stl_91 Os hO h.2
      have l1 := stl_len 1 Os
      have l3 := stl_len 3 r
      have d1 := stl_dp 1 Os
      have d3 := stl_dp 3 r
      rw [hr] at l1 d1 ⊢
      have d1 : dp r + 1 ≤ dp Os := d1
      rw [List.length_cons] at l1
      obtain ⟨a1, a2, a3, a4, a5, a6⟩ := rdC_g T n k (lx_rn lx_S T n p + 1) (xs ++ ((stl 1 Os).1 ++ (stl 3 (91 :: r).tail).1)) (stl 3 (91 :: r).tail).2 (by omega) (okO.tl (fun o ho => hO o (by rw [← stl_app 1 Os, hr]; exact List.mem_append_right _ (List.mem_cons_of_mem _ ho)))) (by show dp (stl 3 r).2 ≤ 10; omega) (by omega)
      refine ⟨by omega, a2, Nat.le_trans a3 ?_, a4, a5, a6⟩
      rw [List.length_append, List.length_append]
      show _ + (_ + (stl 3 r).1.length) + (stl 3 r).2.length ≤ _
      omega
    · exact ⟨s1, s2, Nat.le_refl _, hO, hd, rn_idem hp⟩
section MF
variable {d : Nat} {σ : fxS} {hi : fxI3} {hl : fxL3} {n p t P : Nat} {T : Nat → Int32} {L : List Nat}
def FP (σ : fxS) (hi : fxI3) (hl : fxL3) (t : Nat) (L : List Nat) (res : fxQ2) : Option fxV → fxH → Prop := fun r2 h2 => match res with
  | .inl f => r2 = some (vi 0) ∧ ∃ hi', h2 = hp σ hi' hl ∧ FrO t hi hi' ∧ hi' 11 0 9 = nI f
  | .inr (p', P', xs, O') => r2 = some (vi 1) ∧ ∃ hi', h2 = hp σ hi' hl ∧ FrO t hi hi' ∧ RSt hi' t p' P' (L ++ xs) ∧ OPn hi' O'
def FR (D y : Nat) (av : List fxV) (σ : fxS) (hi : fxI3) (hl : fxL3) (t : Nat) (L : List Nat) (res : fxQ2) : Prop := match res with
  | .inl f => ∃ hi', fx_Ga D y av (hp σ hi hl) (some (vi 0)) (hp σ hi' hl) ∧ FrO t hi hi' ∧ hi' 11 0 9 = nI f
  | .inr (p', P', xs, O') => ∃ hi', fx_Ga D y av (hp σ hi hl) (some (vi 1)) (hp σ hi' hl) ∧ FrO t hi hi' ∧ RSt hi' t p' P' (L ++ xs) ∧ OPn hi' O'
theorem m_fact (hT : ∀ i, i < n → isB (T i)) (ht : TM hi n T) {Os : List Nat} (hr : RSt hi t p P L) (ho : OPn hi Os) (hO : okO Os) (hd : dp Os ≤ 10) (hpn : p ≤ n) (t6 : t < 6) (hP : P ≤ 60) (hL : L.length + Os.length ≤ p) : FR (d + 8) 166 [mO] σ hi hl t L (vFa T n (n + 1) p P Os) := by
  have h400 := ht.1
  have loop : ∀ k p P Os (hb : fxI3) l2, n - p < k → FrO t hi hb → RSt hb t p P L → OPn hb Os → okO Os → dp Os ≤ 10 → p ≤ n → P ≤ 60 → L.length + Os.length ≤ p → fx_E (fx_Ga (d + 7)) fx_M166 (2, [some mO, some (vi 1), l2], [], hp σ hb hl, 0, 0) (FP σ hi hl t L (vFa T n k p P Os)) := by
    intro k
    induction k with
    | zero => intro p P Os hb l2 hk; omega
    | succ k ih =>
      intro p P Os hb l2 hk g1 g2 g3 g4 g5 g6 g7 g8
      have htb := ht.fo g1
      obtain ⟨r1, r2, r3, r4, r5, r6⟩ := id g2
      have hs1 := m_see (d := d + 6) (σ := σ) (hl := hl) htb r1 g6
      have hqn : lx_rn lx_S T n p ≤ n := rn_le g6
      have hqp : p ≤ lx_rn lx_S T n p := rn_ge
      have hidem := rn_idem (P := lx_S) (T := T) g6
      unfold vFa
      generalize lx_rn lx_S T n p = q at hs1 hqn hqp hidem ⊢
      have F1 : FrO t hi (fx_up hb 11 0 8 (nI q)) := g1.tr (FrO.up hb _ (by omega))
      have hw := m_isWordQ (d := d + 5) (σ := σ) (hi := fx_up hb 11 0 8 (nI q)) (hl := hl) (p := q) htb (up_at _ _ _ _ _) hqn hidem (c := 7237492) (by decide) (by decide)
      have ho1 : OPn (fx_up hb 11 0 8 (nI q)) Os := g3
      have hr1 : RSt (fx_up hb 11 0 8 (nI q)) t q P L := ⟨up_at _ _ _ _ _, r2, r3, r4, r5, r6⟩
      have hop : ∀ w, (w = 11 ∨ w = 91) → q < n → _ := fun w hw2 hq2 => m_opens (d := d + 5) (σ := σ) (hi := fx_up hb 11 0 8 (nI q)) (hl := hl) (q := q) (up_at _ _ _ _ _) r2 ho1 (by omega) hw2 g5
      have opn : ∀ w, (w = 11 ∨ w = 91) → ∀ x : Int32, OPn (fx_up (fx_up (fx_up (fx_up (fx_up hb 11 0 8 (nI q)) 11 0 13 (nI (dp Os + 1))) 56 0 Os.length (nI w)) 11 0 16 (nI (Os.length + 1))) 11 0 8 x) (w :: Os) := fun w hw2 x => by
        obtain ⟨o1, o2, o3, o4⟩ := g3
        refine ⟨rfl, ?_, fun k hk => ?_, fun o ho2 => ?_⟩
        · show nI (dp Os + 1) = nI (dp Os + if w = 11 ∨ w = 91 then 1 else 0)
          rw [if_pos hw2]
        · rw [List.length_cons] at hk ⊢
          rw [up_off _ _ (by omega), up_off _ _ (by omega)]
          cases k with
          | zero =>
            rw [show Os.length + 1 - 1 - 0 = Os.length by omega, up_at]
            rfl
          | succ k =>
            rw [show Os.length + 1 - 1 - (k + 1) = Os.length - 1 - k by omega, up_off _ _ (by omega), up_off _ _ (by omega), up_off _ _ (by omega)]
            exact o3 k (by omega)
        · rcases List.mem_cons.mp ho2 with e | e
          · omega
          · exact o4 o e
      by_cases hN : lx_wk T n q = 7237492
      · rw [if_pos hN]
        have w1 := wk_0 (by decide) hN
        have w2 : lx_rn lx_L T n q ≤ n := rn_le hqn
        have hop := hop 11 (Or.inl rfl) (by omega)
        rw [decide_eq_true hN] at hw
        by_cases h10 : dp Os = 10
        · rw [if_pos h10]
          rw [if_pos h10, if_pos h10] at hop
          refine fx_wpL [2] 60 ⟨fun w => absurd w (by decide), fun _ => ⟨_, _, hs1, _, _, hw, b01_if (fun z => by cases z) (fun _ => ⟨_, _, hop, fun w => absurd rfl w, fun _ => ⟨Or.inl rfl, rfl, _, rfl, F1.tr (FrO.up _ _ (by omega)), ?_⟩⟩)⟩⟩
          rw [up_at, show 1 + 8 * q + 2 = 3 + 8 * q by omega]
        · rw [if_neg h10]
          rw [if_neg h10, if_neg h10] at hop
          have hpw := m_passWord (d := d + 5) (σ := σ) (hi := fx_up (fx_up (fx_up (fx_up hb 11 0 8 (nI q)) 11 0 13 (nI (dp Os + 1))) 56 0 Os.length (nI 11)) 11 0 16 (nI (Os.length + 1))) (hl := hl) (p := q) htb rfl hqn
          have h2 := ih (lx_rn lx_L T n q) P (11 :: Os) (fx_up (fx_up (fx_up (fx_up (fx_up hb 11 0 8 (nI q)) 11 0 13 (nI (dp Os + 1))) 56 0 Os.length (nI 11)) 11 0 16 (nI (Os.length + 1))) 11 0 8 (nI (lx_rn lx_L T n q))) (some (vi (sA T n q))) (by omega) ((((F1.tr (FrO.up _ _ (by omega))).tr (FrO.up _ _ (by omega))).tr (FrO.up _ _ (by omega))).tr (FrO.up _ _ (by omega))) ⟨up_at _ _ _ _ _, r2, r3, r4, r5, r6⟩ (opn 11 (Or.inl rfl) _) (fun o ho2 => by
            rcases List.mem_cons.mp ho2 with e | e
            · exact Or.inl e
            · exact g4 o e) (by show dp Os + _ ≤ 10; simp; omega) w2 g7 (by rw [List.length_cons]; omega)
          exact fx_wpL [2] 60 ⟨fun w => absurd w (by decide), fun _ => ⟨_, _, hs1, _, _, hw, b01_if (fun z => by cases z) (fun _ => ⟨_, _, hop, fun _ => ⟨_, _, hpw, h2⟩, fun w => absurd (fun z => absurd z (by decide)) w⟩)⟩⟩
      · rw [if_neg hN]
        rw [decide_eq_false hN] at hw
        by_cases hB : q < n ∧ T q = nI 91
        · rw [if_pos hB]
          have eB : sA T n q = nI 91 := (sA_c hT (by decide)).mpr hB
          rw [eB] at hs1
          have hop := hop 91 (Or.inr rfl) hB.1
          by_cases h10 : dp Os = 10
          · rw [if_pos h10]
            rw [if_pos h10, if_pos h10] at hop
            refine fx_wpL [2] 60 ⟨fun w => absurd w (by decide), fun _ => ⟨_, _, hs1, _, _, hw, b01_if (fun _ => ⟨fun w => absurd rfl w, fun _ => ⟨_, _, hop, fun w => absurd rfl w, fun _ => ⟨Or.inl rfl, rfl, _, rfl, F1.tr (FrO.up _ _ (by omega)), ?_⟩⟩⟩) (fun z => by cases z)⟩⟩
            rw [up_at, show 1 + 8 * q + 2 = 3 + 8 * q by omega]
          · rw [if_neg h10]
            rw [if_neg h10, if_neg h10] at hop
            have h2 := ih (q + 1) P (91 :: Os) (fx_up (fx_up (fx_up (fx_up (fx_up hb 11 0 8 (nI q)) 11 0 13 (nI (dp Os + 1))) 56 0 Os.length (nI 91)) 11 0 16 (nI (Os.length + 1))) 11 0 8 (nI q + 1)) (some (vi (nI 91))) (by omega) ((((F1.tr (FrO.up _ _ (by omega))).tr (FrO.up _ _ (by omega))).tr (FrO.up _ _ (by omega))).tr (FrO.up _ _ (by omega))) ⟨(up_at _ _ _ _ _).trans (nI_1 q), r2, r3, r4, r5, r6⟩ (opn 91 (Or.inr rfl) _) (fun o ho2 => by
              rcases List.mem_cons.mp ho2 with e | e
              · exact Or.inr (Or.inr (Or.inr e))
              · exact g4 o e) (by show dp Os + _ ≤ 10; simp; omega) (by omega) g7 (by rw [List.length_cons]; omega)
            exact fx_wpL [2] 60 ⟨fun w => absurd w (by decide), fun _ => ⟨_, _, hs1, _, _, hw, b01_if (fun _ => ⟨fun w => absurd rfl w, fun _ => ⟨_, _, hop, fun _ => h2, fun w => absurd (fun z => absurd z (by decide)) w⟩⟩) (fun z => by cases z)⟩⟩
        · rw [if_neg hB]
          have eB : ¬ sA T n q = nI 91 := fun z => hB ((sA_c hT (by decide)).mp z)
          have hcm := m_compare (d := d) (σ := σ) (hi := fx_up hb 11 0 8 (nI q)) (hl := hl) hT htb hr1 hqn t6 g7 (by omega)
          refine fx_wpL [] 60 ⟨fun w => absurd w (by decide), fun _ => ⟨_, _, hs1, _, _, hw, b01_if (fun _ => ⟨fun _ => ⟨fun _ => ?_, fun w => absurd rfl w⟩, fun w => absurd eB w⟩) (fun z => by cases z)⟩⟩
          cases hv : vCm T n q P with
          | inl f =>
            rw [hv] at hcm
            obtain ⟨hi3, hg3, f3, e3⟩ := hcm
            exact ⟨_, _, hg3, Or.inl rfl, rfl, hi3, rfl, F1.tr f3.o, e3⟩
          | inr z =>
            obtain ⟨p', P', xs⟩ := z
            rw [hv] at hcm
            obtain ⟨hi3, hg3, f3, e3⟩ := hcm
            exact ⟨_, _, hg3, Or.inr rfl, rfl, hi3, rfl, F1.tr f3.o, e3, ho1.fs f3⟩
  have h9 := loop (n + 1) p P Os hi none (by omega) (FrO.rf t hi) hr ho hO hd hpn hP hL
  obtain ⟨r, h', hg', e⟩ := fx_methX (d := d + 7) (y := 166) (av := [mO]) (h := hp σ hi hl) (P := FP σ hi hl t L (vFa T n (n + 1) p P Os)) fx_M166 [some mO, none, none] (by decide) rfl rfl (Nat.le_of_ble_eq_true rfl) (fx_wpE [2] 9 h9)
  match vFa T n (n + 1) p P Os, e with
  | .inl f, ⟨e1, hi', e2, e3⟩ =>
    subst e1
    subst e2
    exact ⟨hi', hg', e3⟩
  | .inr (p', P', xs, O'), ⟨e1, hi', e2, e3⟩ =>
    subst e1
    subst e2
    exact ⟨hi', hg', e3⟩
theorem m_closes (hT : ∀ i, i < n → isB (T i)) (ht : TM hi n T) {Os : List Nat} (hr : RSt hi t p P L) (ho : OPn hi Os) (hO : okO Os) (hd : dp Os ≤ 10) (hpn : p ≤ n) (t6 : t < 6) (hL : L.length + Os.length ≤ p) : ∃ hi', fx_Ga (d + 3) 168 [mO] (hp σ hi hl) none (hp σ hi' hl) ∧ FrO t hi hi' ∧ RSt hi' t (rdC T n n p (stl 3 Os).1 (stl 3 Os).2).1 P (L ++ (rdC T n n p (stl 3 Os).1 (stl 3 Os).2).2.1) ∧ OPn hi' (rdC T n n p (stl 3 Os).1 (stl 3 Os).2).2.2 := by
  have h400 := ht.1
  generalize hres : rdC T n n p (stl 3 Os).1 (stl 3 Os).2 = res
  let Post : Option fxV → fxH → Prop := fun r2 h2 => r2 = none ∧ ∃ hi', h2 = hp σ hi' hl ∧ FrO t hi hi' ∧ RSt hi' t res.1 P (L ++ res.2.1) ∧ OPn hi' res.2.2
  have loop : ∀ k p xs Os (hb : fxI3), n - p ≤ k → FrO t hi hb → RSt hb t p P (L ++ xs) → OPn hb Os → okO Os → p ≤ n → L.length + xs.length + Os.length ≤ p → rdC T n k p xs Os = res → fx_E (fx_Ga (d + 2)) fx_M168 (5, [some mO], [], hp σ hb hl, 0, 0) Post := by
    intro k
    induction k with
    | zero =>
      intro p xs Os hb hk g1 g2 g3 g4 g5 g6 g7
      have : p = n := by omega
      subst this
      have htb := ht.fo g1
      have esk : lx_rn lx_S T p p = p := rn_no (fun h => by omega)
      have hsq := m_seeQ (d := d + 1) (σ := σ) (hl := hl) htb g2.1 (Nat.le_refl _) esk
      have ne : ¬ sA T p p = nI 93 := fun z => by
        have := (sA_c hT (c := 93) (by decide)).mp z
        omega
      refine fx_wpL [5] 40 ⟨_, _, hsq, fun _ => ⟨rfl, hb, rfl, g1, ?_, ?_⟩, fun w => absurd ne w⟩
      · rw [← g7]
        show RSt hb t (lx_rn lx_S T p p) P (L ++ xs)
        rw [esk]
        exact g2
      · rw [← g7]
        exact g3
    | succ k ih =>
      intro p xs Os hb hk g1 g2 g3 g4 g5 g6 g7
      have htb := ht.fo g1
      obtain ⟨r1, r2, r3, r4, r5, r6⟩ := id g2
      have hs1 := m_see (d := d + 1) (σ := σ) (hl := hl) htb r1 g5
      have hqn : lx_rn lx_S T n p ≤ n := rn_le g5
      have hqp : p ≤ lx_rn lx_S T n p := rn_ge
      unfold rdC at g7
      generalize lx_rn lx_S T n p = q at hs1 hqn hqp g7
      have F1 : FrO t hi (fx_up hb 11 0 8 (nI q)) := g1.tr (FrO.up hb _ (by omega))
      have hr1 : RSt (fx_up hb 11 0 8 (nI q)) t q P (L ++ xs) := ⟨up_at _ _ _ _ _, r2, r3, r4, r5, r6⟩
      have ho1 : OPn (fx_up hb 11 0 8 (nI q)) Os := g3
      by_cases hB : q < n ∧ T q = nI 93
      · have eB : sA T n q = nI 93 := (sA_c hT (by decide)).mpr hB
        have hin := m_isInside (d := d + 1) (σ := σ) (hl := hl) ho1 (by omega)
        by_cases hI : isI Os = true
        · rw [if_pos ⟨hB, hI⟩] at g7
          rw [hI] at hin
          obtain ⟨r, hr2⟩ := stl_91 Os g4 hI
          have l1 := stl_len 1 Os
          have l3 := stl_len 3 r
          have d1 := stl_dp 1 Os
          rw [hr2] at l1 g7
          rw [List.length_cons] at l1
          obtain ⟨hi2, hg2, f2, hs2, ho2⟩ := m_settles (d := d) (σ := σ) (hl := hl) (b := 1) (by decide) t6 Os (L ++ xs) _ hr1 ho1 (by rw [List.length_append]; omega)
          rw [hr2] at ho2
          obtain ⟨q1, q2, q3, q4⟩ := ho2
          obtain ⟨w1, w2, w3, w4, w5, w6⟩ := hs2
          -- the bracket goes
          have ob : OPn (fx_up (fx_up (fx_up hi2 11 0 16 (hi2 11 0 16 - 1)) 11 0 13 (hi2 11 0 13 - 1)) 11 0 8 (hi2 11 0 8 + 1)) r := by
            refine ⟨?_, ?_, fun k hk => ?_, fun o ho => q4 o (List.mem_cons_of_mem _ ho)⟩
            · show hi2 11 0 16 - 1 = _
              rw [q1, List.length_cons]
              exact pk_sub (b := 1) (by omega)
            · show hi2 11 0 13 - 1 = _
              rw [q2]
              exact pk_sub (a := dp r + 1) (b := 1) (by omega)
            · rw [up_off _ _ (by omega), up_off _ _ (by omega), up_off _ _ (by omega)]
              have := q3 (k + 1) (by rw [List.length_cons]; omega)
              rw [List.length_cons, show r.length + 1 - 1 - (k + 1) = r.length - 1 - k by omega] at this
              exact this
          have rb : RSt (fx_up (fx_up (fx_up hi2 11 0 16 (hi2 11 0 16 - 1)) 11 0 13 (hi2 11 0 13 - 1)) 11 0 8 (hi2 11 0 8 + 1)) t (q + 1) P (L ++ xs ++ (stl 1 Os).1) := ⟨by rw [up_at, w1, nI_1], w2, w3, w4, w5, w6⟩
          obtain ⟨hi3, hg3, f3, hs3, ho3⟩ := m_settles (d := d) (σ := σ) (hl := hl) (b := 3) (by decide) t6 r _ _ rb ob (by rw [List.length_append, List.length_append]; omega)
          rw [List.append_assoc, List.append_assoc] at hs3
          have h2 := ih (q + 1) (xs ++ ((stl 1 Os).1 ++ (stl 3 r).1)) (stl 3 r).2 hi3 (by omega) ((((F1.tr f2).tr (FrO.up _ _ (by omega))).tr (FrO.up _ _ (by omega))).tr ((FrO.up _ _ (by omega)).tr f3)) hs3 ho3 (okO.tl (fun o ho => g4 o (by rw [← stl_app 1 Os, hr2]; exact List.mem_append_right _ (List.mem_cons_of_mem _ ho)))) (by omega) (by rw [List.length_append, List.length_append]; omega) g7
          exact fx_wpL [5] 60 ⟨_, _, hs1, fun w => absurd eB w, fun _ => ⟨_, _, hin, b01_if (fun z => by cases z) (fun _ => ⟨_, _, hg2, _, _, hg3, h2⟩)⟩⟩
        · have hI2 : isI Os = false := by simpa using hI
          rw [if_neg (fun w => hI w.2)] at g7
          rw [hI2] at hin
          refine fx_wpL [5] 60 ⟨_, _, hs1, fun w => absurd eB w, fun _ => ⟨_, _, hin, b01_if (fun _ => ⟨rfl, _, rfl, F1, ?_, ?_⟩) (fun z => by cases z)⟩⟩
          · rw [← g7]
            exact hr1
          · rw [← g7]
            exact ho1
      · have eB : ¬ sA T n q = nI 93 := fun z => hB ((sA_c hT (by decide)).mp z)
        rw [if_neg (fun w => hB w.1)] at g7
        refine fx_wpL [5] 60 ⟨_, _, hs1, fun _ => ⟨rfl, _, rfl, F1, ?_, ?_⟩, fun w => absurd eB w⟩
        · rw [← g7]
          exact hr1
        · rw [← g7]
          exact ho1
  obtain ⟨hi1, hg1, f1, hr1, ho1⟩ := m_settles (d := d) (σ := σ) (hl := hl) (b := 3) (by decide) t6 Os L hi hr ho (by omega)
  have l3 := stl_len 3 Os
  obtain ⟨r, h', hg', e1, hi', e2, e3⟩ := fx_methX (d := d + 2) (y := 168) (av := [mO]) (h := hp σ hi hl) (P := Post) fx_M168 [some mO] (by decide) rfl rfl (Nat.le_of_ble_eq_true rfl) (fx_wpE [5] 20 ⟨_, _, hg1, loop n p (stl 3 Os).1 (stl 3 Os).2 hi1 (by omega) f1 hr1 ho1 hO.tl hpn (by omega) hres⟩)
  subst e1
  subst e2
  exact ⟨hi', hg', e3⟩
end MF
