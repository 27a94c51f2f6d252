/-! the class: behind a fact, and a sign of any kind -/
section XJ
variable {d : Nat} {σ : fxS} {hi : fxI3} {hl : fxL3} {want wb P : Nat} {bv : Bool} {W O : List Nat} {R : fxRl} {S : Option (List Nat)} {t : fxTo}
theorem ptl_91 : ∀ (W : List Nat), okW W → isI W = true → ∃ r, (ptl 1 W).2 = 91 :: r
  | [], _, h => by cases h
  | o :: r, hk, h => by
    unfold ptl
    by_cases e : o = 91
    · subst e
      exact ⟨r, rfl⟩
    · have b1 : 1 ≤ bd o := by
        have := hk o (List.mem_cons_self ..)
        rcases (show o = 2 ∨ o = 3 ∨ o = 4 ∨ o = 5 ∨ o = 6 ∨ o = 7 ∨ o = 8 ∨ o = 9 ∨ o = 10 ∨ o = 11 ∨ o = 12 ∨ o = 13 ∨ o = 14 by omega) with rfl | rfl | rfl | rfl | rfl | rfl | rfl | rfl | rfl | rfl | rfl | rfl | rfl <;> decide
      rw [if_pos b1]
      have : isI r = true := by
        unfold isI at h ⊢
        rw [List.any_cons, beq_false_of_ne e, Bool.false_or] at h
        exact h
      exact ptl_91 r (fun x hx => hk x (List.mem_cons_of_mem _ hx)) this
theorem x_takeBracket {w a b : Nat} (h7 : hi 6 0 7 = nI (w + 1)) (hw : w < 100) (h8 : hi 6 0 8 = nI (a + 1)) (h9 : hi 6 0 9 = nI (b + 1)) : fx_Ga (d + 1) 59 [rrO] (hp σ hi hl) none (hp σ (fx_up (fx_up (fx_up hi 6 0 7 (nI w)) 6 0 9 (nI b)) 6 0 8 (nI a)) hl) := by
  have e : fx_up (fx_up (fx_up hi 6 0 7 (hi 6 0 7 - 1)) 6 0 9 (hi 6 0 9 - 1)) 6 0 8 (hi 6 0 8 - 1) = fx_up (fx_up (fx_up hi 6 0 7 (nI w)) 6 0 9 (nI b)) 6 0 8 (nI a) := by rw [h7, h8, h9, nI_pred, nI_pred, nI_pred]
  have z : ¬ hi 6 0 7 ≤ 0 := by
    rw [h7]
    exact nI_nle (by omega) (by omega)
  rw [← e]
  exact fx_meth fx_M59 [some rrO] (by decide) rfl rfl (Nat.le_of_ble_eq_true rfl) (fx_wpE [] 40 ⟨fun w => absurd w z, fun _ => ⟨rfl, rfl⟩⟩)
theorem x_readBehindFact (hbn : BN hi) (hx : XC hi (5, wb, false, W, O, P, R, S)) (hv : VX (5, wb, false, W, O, P, R, S)) (hS : S ≠ none) (ht : TC hi t) : SRs (d + 4) 53 σ hi hl (if t.2.2.2.2 = some 21 then .inr (mjn 12 2 wb W O P R S) else if t.2.2.2.2 = some 22 then .inr (mjn 13 2 wb W O P R S) else if t.1 = 6 ∧ isI W = true then .inr (5, wb, false, (ptl 1 W).2.tail, O ++ (ptl 1 W).1, P, R, S) else if (t.1 = 4 ∨ t.1 = 0) ∧ isI W = false then .inr (if t.1 = 0 then 6 else 0, wb, false, (ptl 1 W).2, [], P, R ++ [(S.getD [], some (O ++ (ptl 1 W).1))], none) else .inl 0) := by
  obtain ⟨x1, x2, x3, x4, x5, x6, x7, x8, x9, x10, x11, x12⟩ := id hx
  obtain ⟨v1, v2, v3, v4, v5, v6, v7, v8, v9, v10, v11⟩ := id hv
  obtain ⟨t1, t2, t3, t4, t5, _⟩ := id ht
  have r12 := v8 (by decide) (by decide)
  obtain ⟨s, rfl⟩ : ∃ s, S = some s := by
    cases S with
    | none => exact absurd rfl hS
    | some s => exact ⟨s, rfl⟩
  refine SR_of (d := d + 3) fx_M53 [some rrO, none] (by decide) rfl rfl (Nat.le_of_ble_eq_true rfl) ?_
  -- a joining word
  have jn : ∀ c : Nat, (c = 12 ∨ c = 13) → hi 6 0 11 = nI (xOp c) → fx_E (fx_Ga (d + 3)) fx_M53 (18, [some rrO, none], [], hp σ hi hl, 0, 0) (SRP σ hi hl (.inr (mjn c 2 wb W O P R (some s)))) := by
    intro c hc e
    obtain ⟨hi2, hg2, f2, hx2⟩ := x_joinX (d := d) (σ := σ) (hl := hl) hbn hx hv (s := c) (by omega)
    rw [← e] at hg2
    refine fx_wpE [] 20 ⟨_, _, hg2, rfl, fx_up hi2 6 0 12 2, rfl, f2.e.tr (Fr8.up _ _ (by omega)), ?_⟩
    exact hx2.set (fun k j s h => up_off _ _ (by omega)) (up_at _ _ _ _ _) ((up_off _ _ (by omega)).trans hx2.2.2.2.2.2.2.1) ((up_off _ _ (by omega)).trans hx2.2.2.2.2.1) (fun _ _ => hx2.2.2.2.2.2.2.2.2.2.2.1 (by decide) (by decide))
  obtain ⟨hi2, hg2, f2, c2, w2, d2⟩ := x_putTighter (d := d + 1) (σ := σ) (hl := hl) (b := 1) (by decide) hbn W _ hi hbn x1 x2 x3 v1 (by rw [List.length_append, List.length_append]; omega) (by omega)
  have b9 : hi 6 0 9 ≤ 0 ↔ isI W = false := by
    rw [x4, bk_I]
    have := nI_leI (a := bk W) (b := 0) (by omega) (by omega)
    refine ⟨fun z => decide_eq_false (by have := this.mp z; omega), fun z => this.mpr (by have := of_decide_eq_false z; omega)⟩
  have no0 : fx_E (fx_Ga (d + 3)) fx_M53 (106, [some rrO, none], [], hp σ hi hl, 0, 0) (SRP σ hi hl (.inl 0)) := fx_wpE [] 20 ⟨rfl, hi, rfl, Fr8.rf hi⟩
  refine fx_wpE [18, 68] 40 (oI_someE (k := 21) t4 (by decide) t3 (fun h => ?_) (fun h => ?_))
  · rw [if_pos h]
    exact jn 12 (Or.inl rfl) (by rw [t3, h]; rfl)
  rw [if_neg h]
  refine oI_some (k := 22) t4 (by decide) t3 (fun h => ?_) (fun h => ?_)
  · rw [if_pos h]
    exact jn 13 (Or.inr rfl) (by rw [t3, h]; rfl)
  rw [if_neg h]
  have cl : ((t.1 = 4 ∨ t.1 = 0) ∧ isI W = false) → ∀ x, fx_E (fx_Ga (d + 3)) fx_M53 (108, [some rrO, x], [], hp σ hi hl, 0, 0) (SRP σ hi hl (.inr (if t.1 = 0 then 6 else 0, wb, false, (ptl 1 W).2, [], P, R ++ [((some s).getD [], some (O ++ (ptl 1 W).1))], none))) := by
    intro hk x
    have he := x_endClause (d := d + 2) (σ := σ) (hi := hi2) (hl := hl) ((f2 6 0 6 (by omega) (by omega) (by omega)).trans x9) r12 c2.1 ((f2 7 1 3 (by omega) (by omega) (by omega)).trans t1) t2
    have hfin := hx.fin (kd := t.1) s (some (O ++ (ptl 1 W).1)) (by decide) (fun k j s h1 h2 h3 _ => f2 k j s h1 h2 h3) c2 (by show flt R ++ (s ++ O) ++ _ = flt R ++ (s ++ (O ++ _)); rw [List.append_assoc, List.append_assoc]) w2 d2 ((f2 27 0 _ (by omega) (by omega) (by omega)).trans (x12 s rfl))
    exact fx_wpE [] 40 ⟨_, _, hg2, _, _, he, rfl, _, rfl, fun k j s h1 h2 => by rw [up_off _ _ (by omega), up_off _ _ (by omega), up_off _ _ (by omega)]; exact f2 k j s (by omega) (by omega) (by omega), hfin⟩
  have rest : ¬ (t.1 = 6 ∧ isI W = true) → fx_E (fx_Ga (d + 3)) fx_M53 (68, [some rrO, none], [], hp σ hi hl, 0, 0) (SRP σ hi hl (if (t.1 = 4 ∨ t.1 = 0) ∧ isI W = false then .inr (if t.1 = 0 then 6 else 0, wb, false, (ptl 1 W).2, [], P, R ++ [((some s).getD [], some (O ++ (ptl 1 W).1))], none) else .inl 0)) := by
    intro _
    have at94 : (t.1 = 4 ∨ t.1 = 0) → fx_E (fx_Ga (d + 3)) fx_M53 (94, [some rrO, none], [vi 1], hp σ hi hl, 0, 0) (SRP σ hi hl (if (t.1 = 4 ∨ t.1 = 0) ∧ isI W = false then .inr (if t.1 = 0 then 6 else 0, wb, false, (ptl 1 W).2, [], P, R ++ [((some s).getD [], some (O ++ (ptl 1 W).1))], none) else .inl 0)) := by
      intro hk
      refine fx_wpE [108] 40 ⟨fun w => absurd w (by decide), fun _ => ⟨fun z => ?_, fun z => ?_⟩⟩
      · rw [if_pos ⟨hk, b9.mp z⟩]
        exact cl ⟨hk, b9.mp z⟩ _
      · rw [if_neg (fun w => z (b9.mpr w.2))]
        exact ⟨rfl, hi, rfl, Fr8.rf hi⟩
    have at93 : ¬ (t.1 = 4 ∨ t.1 = 0) → fx_E (fx_Ga (d + 3)) fx_M53 (94, [some rrO, none], [vi 0], hp σ hi hl, 0, 0) (SRP σ hi hl (if (t.1 = 4 ∨ t.1 = 0) ∧ isI W = false then .inr (if t.1 = 0 then 6 else 0, wb, false, (ptl 1 W).2, [], P, R ++ [((some s).getD [], some (O ++ (ptl 1 W).1))], none) else .inl 0)) := by
      intro hk
      rw [if_neg (fun w => hk w.1)]
      exact fx_wpE [] 40 ⟨fun _ => ⟨rfl, hi, rfl, Fr8.rf hi⟩, fun w => absurd rfl w⟩
    refine fx_wpE [94] 40 (pk_eq t.1 4 (fun e => at94 (Or.inl e)) (fun e => nn_eq t.1 0 (fun e0 => at94 (Or.inr e0)) (fun e0 => at93 (by omega)) t1) t1)
  refine nn_eq t.1 6 (fun e => ⟨fun z => ?_, fun z => ?_⟩) (fun e => ?_) t1
  · have e9 := b9.mp z
    rw [if_neg (fun w => by rw [e9] at w; exact absurd w.2 (by decide))]
    exact rest (fun w => by rw [e9] at w; exact absurd w.2 (by decide))
  · have hI : isI W = true := by
      cases h : isI W with
      | true => rfl
      | false => exact absurd (b9.mpr h) z
    rw [if_pos ⟨e, hI⟩]
    obtain ⟨r, hr⟩ := ptl_91 W v1 hI
    rw [hr] at w2 d2
    have hb := (ptl_bk (b := 1) (by decide) W).2
    rw [hr] at hb
    have hb : bk r + 1 = bk W := hb
    have hl2 := ptl_len 1 W
    rw [hr, List.length_cons] at hl2
    have d2 : hi2 6 0 8 = nI (dp r + 1) := d2
    have h9 : hi2 6 0 9 = nI (bk r + 1) := by rw [f2 6 0 9 (by omega) (by omega) (by omega), hb]; exact x4
    have htk := x_takeBracket (d := d + 2) (σ := σ) (hl := hl) (w := r.length) w2.1 (by omega) d2 h9
    refine ⟨_, _, hg2, _, _, htk, rfl, fx_up (fx_up (fx_up (fx_up hi2 6 0 7 (nI r.length)) 6 0 9 (nI (bk r))) 6 0 8 (nI (dp r))) 6 0 12 5, rfl, ?_, ?_⟩
    · exact ((((f2.e).tr (Fr8.up _ _ (by omega))).tr (Fr8.up _ _ (by omega))).tr (Fr8.up _ _ (by omega))).tr (Fr8.up _ _ (by omega))
    · rw [hr]
      have u : ∀ k j s, ¬ (k = 6 ∧ (s = 7 ∨ s = 8 ∨ s = 9 ∨ s = 12)) → fx_up (fx_up (fx_up (fx_up hi2 6 0 7 (nI r.length)) 6 0 9 (nI (bk r))) 6 0 8 (nI (dp r))) 6 0 12 5 k j s = hi2 k j s := fun k j s h => by rw [up_off _ _ (by omega), up_off _ _ (by omega), up_off _ _ (by omega), up_off _ _ (by omega)]
      have g : ∀ k j s, ¬ (k = 6 ∧ (s = 5 ∨ s = 7 ∨ s = 8 ∨ s = 9 ∨ s = 12)) → k ≠ 25 → k ≠ 28 → fx_up (fx_up (fx_up (fx_up hi2 6 0 7 (nI r.length)) 6 0 9 (nI (bk r))) 6 0 8 (nI (dp r))) 6 0 12 5 k j s = hi k j s := fun k j s h1 h2 h3 => (u k j s (by omega)).trans (f2 k j s (by omega) h2 h3)
      refine ⟨?_, ⟨?_, fun k hk => ?_⟩, ?_, ?_, (g 6 0 10 (by omega) (by omega) (by omega)).trans x5, up_at _ _ _ _ _, (g 6 0 13 (by omega) (by omega) (by omega)).trans x7, (g 6 0 14 (by omega) (by omega) (by omega)).trans x8, (g 6 0 6 (by omega) (by omega) (by omega)).trans x9, XMa_of R 0 0 x10 (fun x _ => g 26 0 x (by omega) (by omega) (by omega)) (fun x _ => g 27 0 x (by omega) (by omega) (by omega)), fun _ _ => (g 26 0 _ (by omega) (by omega) (by omega)).trans (x11 (by decide) (by decide)), fun s hs => (g 27 0 _ (by omega) (by omega) (by omega)).trans (x12 s hs)⟩
      · rw [app3]
        exact ⟨(u 6 0 5 (by omega)).trans c2.1, fun k hk => (u 25 0 k (by omega)).trans (c2.2 k hk)⟩
      · rw [up_off _ _ (by omega), up_off _ _ (by omega), up_off _ _ (by omega), up_at]
        rfl
      · have := w2.2 (k + 1) (by rw [List.length_cons]; have hk : k < r.length := hk; omega)
        rw [List.length_cons, show r.length + 1 - 1 - (k + 1) = r.length - 1 - k by omega] at this
        exact (u 28 0 _ (by omega)).trans this
      · rw [up_off _ _ (by omega), up_at]
        rfl
      · rw [up_off _ _ (by omega), up_off _ _ (by omega), up_at]
        rfl
  · rw [if_neg (fun w => e w.1)]
    exact rest (fun w => e w.1)
theorem x_readSign (hbn : BN hi) (hx : XC hi (want, wb, bv, W, O, P, R, S)) (hv : VX (want, wb, bv, W, O, P, R, S)) (h0 : want = 0 → S = none ∧ O = []) (h1 : want = 1 → wb ≠ 0 ∧ wb ≠ 6) (h5 : want = 5 → S ≠ none) (h6 : want ≠ 6) (hbv : bv = true → want ≠ 0) (ht : TC hi t) (ht2 : ∀ i, t.2.2.2.2 = some i → t.1 = 2) : SRs (d + 5) 47 σ hi hl (mst t want wb bv W O P R S) := by
  obtain ⟨x1, x2, x3, x4, x5, x6, x7, x8, x9, x10, x11, x12⟩ := id hx
  obtain ⟨v1, v2, v3, v4, v5, v6, v7, v8, v9, v10, v11⟩ := id hv
  obtain ⟨t1, t2, t3, t4, t5, _⟩ := id ht
  refine SR_of (d := d + 4) fx_M47 [some rrO, none] (by decide) rfl rfl (Nat.le_of_ble_eq_true rfl) ?_
  have hx' : XC (fx_up hi 6 0 14 0) (want, wb, false, W, O, P, R, S) := ⟨x1, x2, x3, x4, x5, x6, x7, up_at _ _ _ _ _, x9, XMa_of R 0 0 x10 (fun x _ => rfl) (fun x _ => rfl), x11, x12⟩
  have hv' : VX (want, wb, false, W, O, P, R, S) := hv
  have ht' : TC (fx_up hi 6 0 14 0) t := ht
  have hbn' : BN (fx_up hi 6 0 14 0) := hbn
  have fw : Fr8 hi (fx_up hi 6 0 14 0) := Fr8.up _ _ (by omega)
  have dn : ∀ y res, SRs (d + 4) y σ (fx_up hi 6 0 14 0) hl res → ∃ (r2 : Int32) (h2 : fxH), fx_Ga (d + 4) y [rrO] (hp σ (fx_up hi 6 0 14 0) hl) (some (vi r2)) h2 ∧ SRP σ hi hl res (some (vi r2)) h2 := by
    intro y res hr
    cases res with
    | inl f =>
      obtain ⟨hi3, hg3, f3⟩ := hr
      exact ⟨_, _, hg3, rfl, hi3, rfl, fw.tr f3⟩
    | inr x =>
      obtain ⟨hi3, hg3, f3, hx3⟩ := hr
      exact ⟨_, _, hg3, rfl, hi3, rfl, fw.tr f3, hx3⟩
  have at52 : ¬ (bv = true ∧ t.1 = 7) → ∀ x, fx_E (fx_Ga (d + 4)) fx_M47 (52, [some rrO, x], [], hp σ (fx_up hi 6 0 14 0) hl, 0, 0) (SRP σ hi hl (mst t want wb bv W O P R S)) := by
    intro hn x
    unfold mst
    rw [if_neg hn]
    have sw : ∀ (y z : Int32), y = z → ∀ {pc lv h c n Q}, fx_E (fx_Ga (d + 4)) fx_M47 (pc, lv, [vi z], h, c, n) Q → fx_E (fx_Ga (d + 4)) fx_M47 (pc, lv, [vi y], h, c, n) Q := fun y z e {pc lv h c n Q} k => by rw [e]; exact k
    have hc : want = 0 ∨ want = 1 ∨ want = 2 ∨ want = 3 ∨ want = 4 ∨ want = 5 := by omega
    rcases hc with rfl | rfl | rfl | rfl | rfl | rfl
    · obtain ⟨a1, a2⟩ := h0 rfl
      rw [if_pos (show (0 : Nat) = 0 from rfl)]
      obtain ⟨r2, h2, hg, hP⟩ := dn 48 _ (x_readClause (d := d + 3) (σ := σ) (hl := hl) hx' hv' a1 a2 ht')
      refine fx_wpE [56] 20 (sw _ _ x6 ?_)
      exact fx_wpE [] 60 (tsw (by decide) ⟨36, rfl, _, _, hg, hP⟩)
    · rw [if_neg (show ¬ (1 : Nat) = 0 by decide), if_pos (show (1 : Nat) = 1 from rfl)]
      obtain ⟨r2, h2, hg, hP⟩ := dn 49 _ (x_readValue (d := d + 2) (σ := σ) (hl := hl) hx' hv' (by decide) (h1 rfl) ht')
      refine fx_wpE [56] 20 (sw _ _ x6 ?_)
      exact fx_wpE [] 60 (tsw (by decide) ⟨41, rfl, _, _, hg, hP⟩)
    · rw [if_neg (show ¬ (2 : Nat) = 0 by decide), if_neg (show ¬ (2 : Nat) = 1 by decide), if_pos (show (2 : Nat) = 2 from rfl)]
      obtain ⟨r2, h2, hg, hP⟩ := dn 50 _ (x_readFact (d := d + 1) (σ := σ) (hl := hl) hx' hv' ht' ht2)
      refine fx_wpE [56] 20 (sw _ _ x6 ?_)
      exact fx_wpE [] 60 (tsw (by decide) ⟨46, rfl, _, _, hg, hP⟩)
    · rw [if_neg (show ¬ (3 : Nat) = 0 by decide), if_neg (show ¬ (3 : Nat) = 1 by decide), if_neg (show ¬ (3 : Nat) = 2 by decide), if_pos (show (3 : Nat) = 3 from rfl)]
      obtain ⟨r2, h2, hg, hP⟩ := dn 52 _ (x_readBehindRide (d := d) (σ := σ) (hl := hl) hbn' hx' hv' ht')
      refine fx_wpE [56] 20 (sw _ _ x6 ?_)
      exact fx_wpE [] 60 (tsw (by decide) ⟨51, rfl, _, _, hg, hP⟩)
    · rw [if_neg (show ¬ (4 : Nat) = 0 by decide), if_neg (show ¬ (4 : Nat) = 1 by decide), if_neg (show ¬ (4 : Nat) = 2 by decide), if_neg (show ¬ (4 : Nat) = 3 by decide), if_pos (show (4 : Nat) = 4 from rfl)]
      obtain ⟨r2, h2, hg, hP⟩ := dn 51 _ (x_readCompare (d := d) (σ := σ) (hl := hl) hbn' hx' hv' ht')
      refine fx_wpE [56] 20 (sw _ _ x6 ?_)
      exact fx_wpE [] 60 (tsw (by decide) ⟨56, rfl, _, _, hg, hP⟩)
    · rw [if_neg (show ¬ (5 : Nat) = 0 by decide), if_neg (show ¬ (5 : Nat) = 1 by decide), if_neg (show ¬ (5 : Nat) = 2 by decide), if_neg (show ¬ (5 : Nat) = 3 by decide), if_neg (show ¬ (5 : Nat) = 4 by decide)]
      obtain ⟨r2, h2, hg, hP⟩ := dn 53 _ (x_readBehindFact (d := d) (σ := σ) (hl := hl) hbn' hx' hv' (h5 rfl) ht')
      refine fx_wpE [56] 20 (sw _ _ x6 ?_)
      exact fx_wpE [] 60 ⟨fun _ => ⟨_, _, hg, hP⟩, fun w => absurd (by decide) w⟩
  have at24 : fx_E (fx_Ga (d + 4)) fx_M47 (24, [some rrO, none], [vi 0], hp σ hi hl, 0, 0) (SRP σ hi hl (mst t want wb bv W O P R S)) ∨ (bv = true ∧ t.1 = 7) := by
    by_cases hb : bv = true ∧ t.1 = 7
    · exact Or.inr hb
    · exact Or.inl (fx_wpE [52] 60 ⟨fun _ => at52 hb _, fun w => absurd rfl w⟩)
  by_cases hb : bv = true ∧ t.1 = 7
  · obtain ⟨rfl, h7⟩ := id hb
    obtain ⟨t5, s1, s2, s3⟩ := t5 (Or.inl h7)
    obtain ⟨hi2, hg2, f2, hx2⟩ := x_joinX (d := d + 1) (σ := σ) (hl := hl) (hi := fx_up hi 6 0 14 0) hbn' hx' hv' (s := t.2.1) ⟨s1, s2, s3⟩
    rw [← t5] at hg2
    unfold mst
    rw [if_pos hb]
    have x8 : hi 6 0 14 = 1 := x8
    refine fx_wpE [] 60 ⟨fun w => absurd (x8.symm.trans w) (by decide), fun _ => nn_eq t.1 7 (fun _ => ⟨fun w => absurd w (by decide), fun _ => ⟨_, _, hg2, rfl, fx_up hi2 6 0 12 1, rfl, (fw.tr f2.e).tr (Fr8.up _ _ (by omega)), ?_⟩⟩) (fun h => absurd h7 h) t1⟩
    exact hx2.set (fun k j s h => up_off _ _ (by omega)) (up_at _ _ _ _ _) ((up_off _ _ (by omega)).trans hx2.2.2.2.2.2.2.1) ((up_off _ _ (by omega)).trans hx2.2.2.2.2.1) (fun a b => hx2.2.2.2.2.2.2.2.2.2.2.1 (hbv rfl) h6)
  · have at24 := at24.resolve_right hb
    refine fx_wpE [24] 60 ⟨fun _ => at24, fun w => nn_eq t.1 7 (fun e => absurd (⟨?_, e⟩ : bv = true ∧ t.1 = 7) hb) (fun _ => at24) t1⟩
    cases bv with
    | true => rfl
    | false => exact absurd x8 w
end XJ
