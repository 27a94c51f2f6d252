/-! tests and clauses of a rule: the reference -/
theorem rdC_acc (T : Nat → Int32) (n : Nat) (a : List Nat) : ∀ k p xs Os, rdC T n k p (a ++ xs) Os = ((rdC T n k p xs Os).1, a ++ (rdC T n k p xs Os).2.1, (rdC T n k p xs Os).2.2)
  | 0, p, xs, Os => rfl
  | k + 1, p, xs, Os => by
    unfold rdC
    split
    · rw [List.append_assoc, rdC_acc T n a k]
    · rfl
def TQ (σ : fxS) (hi : fxI3) (hl : fxL3) (t : Nat) (L : List Nat) (res : fxQ) : Option fxV → fxH → Prop := fun r2 h2 => match res with
  | .inl f => r2 = some (vi 0) ∧ ∃ hi', h2 = hp σ hi' hl ∧ FrO t hi hi' ∧ hi' 11 0 9 = nI f
  | .inr (p', P', xs) => r2 = some (vi 1) ∧ ∃ hi', h2 = hp σ hi' hl ∧ FrO t hi hi' ∧ RSt hi' t p' P' (L ++ xs)
def TR (D y : Nat) (av : List fxV) (σ : fxS) (hi : fxI3) (hl : fxL3) (t : Nat) (L : List Nat) (res : fxQ) : Prop := match res with
  | .inl f => ∃ hi', fx_Ga D y av (hp σ hi hl) (some (vi 0)) (hp σ hi' hl) ∧ FrO t hi hi' ∧ hi' 11 0 9 = nI f
  | .inr (p', P', xs) => ∃ hi', fx_Ga D y av (hp σ hi hl) (some (vi 1)) (hp σ hi' hl) ∧ FrO t hi hi' ∧ RSt hi' t p' P' (L ++ xs)
section MD
variable {d : Nat} {σ : fxS} {hi : fxI3} {hl : fxL3} {n p t P : Nat} {T : Nat → Int32} {L : List Nat}
theorem m_tested (hT : ∀ i, i < n → isB (T i)) (ht : TM hi n T) (hr : RSt hi t p P L) (hpn : p ≤ n) (t6 : t < 6) (hP : P ≤ 60) (hL : L.length ≤ p) : TR (d + 9) 169 [mO] σ hi hl t L (rdT T n (n + 1) p P [] []) := by
  have h400 := ht.1
  have loop : ∀ k p P xs Os (hb : fxI3) l2, n - p < k → FrO t hi hb → RSt hb t p P (L ++ xs) → OPn hb Os → okO Os → dp Os ≤ 10 → p ≤ n → P ≤ 60 → L.length + xs.length + Os.length ≤ p → fx_E (fx_Ga (d + 8)) fx_M169 (12, [some mO, some (vi 1), l2], [], hp σ hb hl, 0, 0) (TQ σ hi hl t L (rdT T n k p P xs Os)) := by
    intro k
    induction k with
    | zero => intro p P xs Os hb l2 hk; omega
    | succ k ih =>
      intro p P xs Os hb l2 hk g1 g2 g3 g4 g5 g6 g7 g8
      have hfa := m_fact (d := d) (σ := σ) (hl := hl) hT (ht.fo g1) g2 g3 g4 g5 g6 t6 g7 (by rw [List.length_append]; omega)
      unfold rdT
      cases hv : vFa T n (n + 1) p P Os with
      | inl f =>
        rw [hv] at hfa
        obtain ⟨hi3, hg3, f3, e3⟩ := hfa
        exact fx_wpL [12] 40 ⟨fun w => absurd w (by decide), fun _ => ⟨_, _, hg3, fun w => absurd rfl w, fun _ => ⟨Or.inl rfl, rfl, hi3, rfl, g1.tr f3, e3⟩⟩⟩
      | inr z =>
        obtain ⟨p1, P1, ys, O1⟩ := z
        obtain ⟨a1, a2, a3, a4, a5, a6, a7⟩ := vFa_g T n (n + 1) p P Os p1 P1 ys O1 g6 g7 g4 g5 hv
        rw [hv] at hfa
        obtain ⟨hi3, hg3, f3, hr3, ho3⟩ := hfa
        obtain ⟨hc, hg4, f4, hr4, ho4⟩ := m_closes (d := d + 5) (σ := σ) (hl := hl) hT (ht.fo (g1.tr f3)) hr3 ho3 a6 a7 a2 t6 (by rw [List.length_append, List.length_append]; omega)
        have lg := stl_len 3 O1
        have hcg := rdC_g T n n p1 (stl 3 O1).1 (stl 3 O1).2 a2 a6.tl (Nat.le_trans (stl_dp 3 O1) a7) (by omega)
        dsimp only
        rw [show xs ++ (ys ++ (stl 3 O1).1) = (xs ++ ys) ++ (stl 3 O1).1 by rw [List.append_assoc], rdC_acc T n (xs ++ ys)]
        generalize rdC T n n p1 (stl 3 O1).1 (stl 3 O1).2 = res at hr4 ho4 hcg ⊢
        obtain ⟨q, zs, O2⟩ := res
        obtain ⟨c1, c2, c3, c4, c5, c6⟩ := hcg
        dsimp only at hr4 ho4 c1 c2 c3 c4 c5 c6 ⊢
        have F4 : FrO t hi hc := (g1.tr f3).tr f4
        have htc := ht.fo F4
        rw [show L ++ xs ++ ys ++ zs = L ++ (xs ++ ys ++ zs) by rw [List.append_assoc, List.append_assoc, List.append_assoc]] at hr4
        have hlen : L.length + (xs ++ ys ++ zs).length + O2.length ≤ q := by
          rw [List.length_append, List.length_append]
          omega
        generalize xs ++ ys ++ zs = ws at hr4 hlen ⊢
        obtain ⟨r1, r2, r3, r4, r5, r6⟩ := id hr4
        have wA := m_isWordQ (d := d + 6) (σ := σ) (hl := hl) htc r1 c2 c6 (c := 6385252) (by decide) (by decide)
        have wO2 := m_isWordQ (d := d + 6) (σ := σ) (hl := hl) htc r1 c2 c6 (c := 28530) (by decide) (by decide)
        have push : ∀ s b, (s = 12 ∧ b = 2 ∨ s = 13 ∧ b = 1) → q < lx_rn lx_L T n q → fx_E (fx_Ga (d + 8)) fx_M169 (77, [some mO, some (vi 1), some (vi (nI s))], [], hp σ hc hl, 0, 0) (TQ σ hi hl t L (rdT T n k (lx_rn lx_L T n q) P1 (ws ++ (stl b O2).1) (s :: (stl b O2).2))) := by
          intro s b hsb hq2
          have w2 : lx_rn lx_L T n q ≤ n := rn_le c2
          have hpw := m_passWord (d := d + 6) (σ := σ) (hl := hl) htc r1 c2
          have hst := m_strength (d := d + 7) (h := hp σ (fx_up hc 11 0 8 (nI (lx_rn lx_L T n q))) hl) (s := s) (by omega)
          rw [show stg s = b by rcases hsb with ⟨rfl, rfl⟩ | ⟨rfl, rfl⟩ <;> rfl] at hst
          obtain ⟨hi5, hg5, f5, hr5, ho5⟩ := m_settles (d := d + 6) (σ := σ) (hl := hl) (b := b) (by omega) t6 O2 (L ++ ws) (fx_up hc 11 0 8 (nI (lx_rn lx_L T n q))) (p := lx_rn lx_L T n q) ⟨up_at _ _ _ _ _, r2, r3, r4, r5, r6⟩ ho4 (by rw [List.length_append]; omega)
          have l5 := stl_len b O2
          have d5 := stl_dp b O2
          obtain ⟨o1, o2, o3, o4⟩ := ho5
          generalize hO3 : (stl b O2).2 = O3 at o1 o2 o3 o4 l5 d5 ⊢
          have okO3 : okO O3 := by rw [← hO3]; exact c4.tl
          have hopn : OPn (fx_up (fx_up hi5 56 0 O3.length (nI s)) 11 0 16 (nI (O3.length + 1))) (s :: O3) := by
            refine ⟨rfl, ?_, fun k hk => ?_, fun o ho2 => ?_⟩
            · show hi5 11 0 13 = nI (dp O3 + if s = 11 ∨ s = 91 then 1 else 0)
              rw [if_neg (by omega), o2]
              rfl
            · rw [List.length_cons] at hk ⊢
              rw [up_off _ _ (by omega)]
              cases k with
              | zero =>
                rw [show O3.length + 1 - 1 - 0 = O3.length by omega, up_at]
                rfl
              | succ k =>
                rw [show O3.length + 1 - 1 - (k + 1) = O3.length - 1 - k by omega, up_off _ _ (by omega)]
                exact o3 k (by omega)
            · rcases List.mem_cons.mp ho2 with e | e
              · omega
              · exact o4 o e
          rw [List.append_assoc] at hr5
          have h2 := ih (lx_rn lx_L T n q) P1 (ws ++ (stl b O2).1) (s :: O3) (fx_up (fx_up hi5 56 0 O3.length (nI s)) 11 0 16 (nI (O3.length + 1))) (some (vi (nI s))) (by omega) (((F4.tr (FrO.up _ _ (by omega))).tr f5).tr ((FrO.up _ _ (by omega)).tr (FrO.up _ _ (by omega)))) hr5 hopn (fun o ho2 => by
            rcases List.mem_cons.mp ho2 with e | e
            · omega
            · exact okO3 o e) (by show dp O3 + _ ≤ 10; rw [if_neg (by omega)]; omega) w2 a4 (by rw [List.length_append, List.length_cons]; omega)
          rw [← nI_1, ← o1] at h2
          conv at h2 => rw [show fx_up hi5 56 0 O3.length = fx_up hi5 56 0 (hi5 11 0 16).toNatClampNeg by rw [ni_cl o1 (by omega)]]
          exact fx_wpE [12] 60 ⟨_, _, hpw, _, _, hst, _, _, hg5, ni_inx (n := O3.length) (m := 400) o1 (by omega) (by decide), h2⟩
        unfold rdU
        dsimp only
        by_cases hA : lx_wk T n q = 6385252
        · rw [if_pos hA]
          rw [decide_eq_true hA] at wA
          have h2 := push 12 2 (by omega) (wk_0 (by decide) hA)
          exact fx_wpL [12, 77] 60 ⟨fun w => absurd w (by decide), fun _ => ⟨_, _, hg3, fun _ => ⟨_, _, hg4, _, _, wA, fun _ => ⟨fun w => absurd w (by decide), fun _ => ⟨_, _, wA, b01_if (fun z => by cases z) (fun _ => h2)⟩⟩, fun w => absurd (fun z => absurd z (by decide)) w⟩, fun w => absurd (fun z => absurd z (by decide)) w⟩⟩
        · rw [if_neg hA]
          rw [decide_eq_false hA] at wA
          by_cases hO : lx_wk T n q = 28530
          · rw [if_pos hO]
            rw [decide_eq_true hO] at wO2
            have h2 := push 13 1 (by omega) (wk_0 (by decide) hO)
            exact fx_wpL [12, 77] 60 ⟨fun w => absurd w (by decide), fun _ => ⟨_, _, hg3, fun _ => ⟨_, _, hg4, _, _, wA, fun w => absurd rfl w, fun _ => ⟨_, _, wO2, fun w => absurd w (by decide), fun _ => ⟨fun w => absurd w (by decide), fun _ => ⟨_, _, wA, b01_if (fun _ => h2) (fun z => by cases z)⟩⟩⟩⟩, fun w => absurd (fun z => absurd z (by decide)) w⟩⟩
          · rw [if_neg hO]
            rw [decide_eq_false hO] at wO2
            have hin := m_isInside (d := d + 7) (σ := σ) (hl := hl) ho4 (by omega)
            have last : fx_E (fx_Ga (d + 8)) fx_M169 (112, [some mO, some (vi 0), l2], [], hp σ hc hl, 0, 0) (TQ σ hi hl t L (if isI O2 = true then .inl (1 + 8 * q) else .inr (q, P1, ws ++ (stl 1 O2).1))) := by
              by_cases hI : isI O2 = true
              · rw [if_pos hI]
                rw [hI] at hin
                have hsq := m_seeQ (d := d + 7) (σ := σ) (hl := hl) htc r1 c2 c6
                have hf := m_fails (d := d + 7) (σ := σ) (hi := hc) (hl := hl) r2 0 q
                rw [← r1] at hf
                exact fx_wpE [] 40 ⟨_, _, hin, b01_if (fun z => by cases z) (fun _ => ⟨_, _, hsq, _, _, hf, Or.inl rfl, rfl, _, rfl, F4.tr (FrO.up _ _ (by omega)), up_at _ _ _ _ _⟩)⟩
              · rw [if_neg hI]
                rw [show isI O2 = false by simpa using hI] at hin
                obtain ⟨hi5, hg5, f5, hr5, ho5⟩ := m_settles (d := d + 6) (σ := σ) (hl := hl) (b := 1) (by decide) t6 O2 (L ++ ws) hc hr4 ho4 (by rw [List.length_append]; omega)
                rw [List.append_assoc] at hr5
                exact fx_wpE [] 40 ⟨_, _, hin, b01_if (fun _ => ⟨_, _, hg5, Or.inr rfl, rfl, hi5, rfl, F4.tr f5, hr5⟩) (fun z => by cases z)⟩
            have end0 : fx_E (fx_Ga (d + 8)) fx_M169 (12, [some mO, some (vi 0), l2], [], hp σ hc hl, 0, 0) (TQ σ hi hl t L (if isI O2 = true then .inl (1 + 8 * q) else .inr (q, P1, ws ++ (stl 1 O2).1))) := fx_wpL [12, 112] 9 ⟨fun _ => last, fun w => absurd rfl w⟩
            exact fx_wpL [12] 60 ⟨fun w => absurd w (by decide), fun _ => ⟨_, _, hg3, fun _ => ⟨_, _, hg4, _, _, wA, fun w => absurd rfl w, fun _ => ⟨_, _, wO2, fun _ => ⟨fun _ => end0, fun w => absurd rfl w⟩, fun w => absurd rfl w⟩⟩, fun w => absurd (fun z => absurd z (by decide)) w⟩⟩
  have h9 := loop (n + 1) p P [] [] (fx_up (fx_up hi 11 0 16 0) 11 0 13 0) none (by omega) ((FrO.up hi _ (by omega)).tr (FrO.up _ _ (by omega))) (by rw [List.append_nil]; exact hr) ⟨rfl, rfl, fun k hk => absurd hk (by show ¬ k < 0; omega), fun o ho => (by cases ho)⟩ (fun o ho => (by cases ho)) (Nat.zero_le _) hpn hP (by show _ + 0 + 0 ≤ _; omega)
  obtain ⟨r, h', hg', e⟩ := fx_methX (d := d + 8) (y := 169) (av := [mO]) (h := hp σ hi hl) (P := TQ σ hi hl t L (rdT T n (n + 1) p P [] [])) fx_M169 [some mO, none, none] (by decide) rfl rfl (Nat.le_of_ble_eq_true rfl) (fx_wpE [12] 20 h9)
  match rdT T n (n + 1) p P [] [], e with
  | .inl f, ⟨e1, hi', e2, e3⟩ =>
    subst e1
    subst e2
    exact ⟨hi', hg', e3⟩
  | .inr (p', P', xs), ⟨e1, hi', e2, e3⟩ =>
    subst e1
    subst e2
    exact ⟨hi', hg', e3⟩
end MD
theorem rdT_g (T : Nat → Int32) (n : Nat) : ∀ k p P xs Os p' P' zs, p ≤ n → P ≤ 60 → okO Os → dp Os ≤ 10 → rdT T n k p P xs Os = .inr (p', P', zs) → p < p' ∧ p' ≤ n ∧ P ≤ P' ∧ P' ≤ 60 ∧ zs.length ≤ xs.length + Os.length + (p' - p)
  | 0, p, P, xs, Os, p', P', zs, _, _, _, _, h => by cases h
  | k + 1, p, P, xs, Os, p', P', zs, hp, hP, hO, hd, h => by
    unfold rdT at h
    split at h
    · cases h
    · rename_i p1 P1 ys O1 hv
      obtain ⟨a1, a2, a3, a4, a5, a6, a7⟩ := vFa_g T n (n + 1) p P Os p1 P1 ys O1 hp hP hO hd hv
      have lg := stl_len 3 O1
      obtain ⟨c1, c2, c3, c4, c5, c6⟩ := rdC_g T n n p1 (xs ++ (ys ++ (stl 3 O1).1)) (stl 3 O1).2 a2 a6.tl (Nat.le_trans (stl_dp 3 O1) a7) (by omega)
      generalize rdC T n n p1 (xs ++ (ys ++ (stl 3 O1).1)) (stl 3 O1).2 = c at h c1 c2 c3 c4 c5 c6
      rw [List.length_append, List.length_append] at c3
      unfold rdU at h
      have w2 : lx_rn lx_L T n c.1 ≤ n := rn_le c2
      split at h
      · rename_i hA
        have w1 := wk_0 (by decide) hA
        have l2 := stl_len 2 c.2.2
        have d2 := stl_dp 2 c.2.2
        obtain ⟨b1, b2, b3, b4, b5⟩ := rdT_g T n k _ P1 _ _ p' P' zs w2 a4 (fun o ho => by
          rcases List.mem_cons.mp ho with e | e
          · exact Or.inr (Or.inl e)
          · exact c4.tl o e) (by show dp _ + _ ≤ 10; rw [if_neg (by omega)]; omega) h
        rw [List.length_append, List.length_cons] at b5
        exact ⟨by omega, b2, by omega, b4, by omega⟩
      · split at h
        · rename_i hA
          have w1 := wk_0 (by decide) hA
          have l2 := stl_len 1 c.2.2
          have d2 := stl_dp 1 c.2.2
          obtain ⟨b1, b2, b3, b4, b5⟩ := rdT_g T n k _ P1 _ _ p' P' zs w2 a4 (fun o ho => by
            rcases List.mem_cons.mp ho with e | e
            · exact Or.inr (Or.inr (Or.inl e))
            · exact c4.tl o e) (by show dp _ + _ ≤ 10; rw [if_neg (by omega)]; omega) h
          rw [List.length_append, List.length_cons] at b5
          exact ⟨by omega, b2, by omega, b4, by omega⟩
        · split at h
          · cases h
          · cases h
            have l2 := stl_len 1 c.2.2
            refine ⟨by omega, c2, by omega, a4, ?_⟩
            rw [List.length_append]
            omega
