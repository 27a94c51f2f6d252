/-! the class' steps of the machine that reads rules -/
theorem XMa_last {hi : fxI3} : ∀ (R : fxRl) (c q : Nat), XMa hi R c q → R ≠ [] → hi 26 0 (c + R.length) = nI (q + (flt R).length)
  | [], _, _, _, h => absurd rfl h
  | (s, o) :: r, c, q, h, _ => by
    obtain ⟨a1, a2, a3, a4⟩ := h
    have e : (flt ((s, o) :: r)).length = s.length + ((o.getD []).length + (flt r).length) := by
      show (s ++ (o.getD [] ++ flt r)).length = _
      rw [List.length_append, List.length_append]
    rw [List.length_cons, e]
    by_cases hr : r = []
    · subst hr
      show hi 26 0 (c + (0 + 1)) = nI (q + (s.length + ((o.getD []).length + 0)))
      rw [show c + (0 + 1) = c + 1 by omega, a3]
      congr 1
      omega
    · have := XMa_last r (c + 1) _ a4 hr
      rw [show c + (r.length + 1) = c + 1 + r.length by omega, this]
      congr 1
      omega
section XI
variable {d : Nat} {σ : fxS} {hi : fxI3} {hl : fxL3} {want wb P : Nat} {bv : Bool} {W O : List Nat} {R : fxRl} {S : Option (List Nat)} {t : fxTo}
theorem oI_some {o : Option Nat} {k : Nat} (h27 : ∀ i, o = some i → i < 27) (hk : k < 27) {x : Int32} (hx : x = oI o) {A B : Prop} (f : o = some k → B) (g : ¬ o = some k → A) : (¬ x = nI k → A) ∧ (¬ ¬ x = nI k → B) := by
  have key : x = nI k ↔ o = some k := by
    rw [hx]
    cases o with
    | none => exact ⟨fun z => absurd z.symm (ne_m1 (by omega)), fun z => by cases z⟩
    | some i =>
      have := h27 i rfl
      exact ⟨fun z => by rw [(nI_eq (by omega) (by omega)).mp z], fun z => by cases z; rfl⟩
  exact ⟨fun z => g (fun w => z (key.mpr w)), fun z => f (key.mp (Classical.not_not.mp z))⟩
theorem oI_someE {o : Option Nat} {k : Nat} (h27 : ∀ i, o = some i → i < 27) (hk : k < 27) {x : Int32} (hx : x = oI o) {A B : Prop} (f : o = some k → B) (g : ¬ o = some k → A) : (x = nI k → B) ∧ (¬ x = nI k → A) := by
  obtain ⟨h1, h2⟩ := oI_some h27 hk hx f g
  exact ⟨fun z => h2 (fun w => w z), h1⟩
/-- a change of want alone, of what is wanted behind a sum, of parts -/
theorem XC.set {hi' : fxI3} {want' wb' P' : Nat} (hx : XC hi (want, wb, bv, W, O, P, R, S)) (h : ∀ k j s, ¬ (k = 6 ∧ (s = 12 ∨ s = 13 ∨ s = 10)) → hi' k j s = hi k j s) (h12 : hi' 6 0 12 = nI want') (h13 : hi' 6 0 13 = nI wb') (h10 : hi' 6 0 10 = nI P') (hm : want' ≠ 0 → want' ≠ 6 → hi 26 0 R.length = nI (flt R).length) : XC hi' (want', wb', bv, W, O, P', R, S) := by
  obtain ⟨x1, x2, x3, x4, x5, x6, x7, x8, x9, x10, x11, x12⟩ := hx
  exact ⟨⟨(h 6 0 5 (by omega)).trans x1.1, fun k hk => (h 25 0 k (by omega)).trans (x1.2 k hk)⟩, ⟨(h 6 0 7 (by omega)).trans x2.1, fun k hk => (h 28 0 _ (by omega)).trans (x2.2 k hk)⟩, (h 6 0 8 (by omega)).trans x3, (h 6 0 9 (by omega)).trans x4, h10, h12, h13, (h 6 0 14 (by omega)).trans x8, (h 6 0 6 (by omega)).trans x9, XMa_of R 0 0 x10 (fun x _ => h 26 0 x (by omega)) (fun x _ => h 27 0 x (by omega)), fun a b => (h 26 0 _ (by omega)).trans (hm a b), fun s hs => (h 27 0 _ (by omega)).trans (x12 s hs)⟩
/-- what waits and codes change -/
theorem XC.w {hi' : fxI3} {W' O' : List Nat} (hx : XC hi (want, wb, bv, W, O, P, R, S)) (h : Fr6 hi hi') (hc : CD hi' (flt R ++ (S.getD [] ++ O'))) (hw : WW hi' W') (hd : hi' 6 0 8 = nI (dp W')) (hb : bk W' = bk W) : XC hi' (want, wb, bv, W', O', P, R, S) := by
  obtain ⟨x1, x2, x3, x4, x5, x6, x7, x8, x9, x10, x11, x12⟩ := hx
  refine ⟨hc, hw, hd, ?_, (h 6 0 10 (by omega) (by omega) (by omega)).trans x5, (h 6 0 12 (by omega) (by omega) (by omega)).trans x6, (h 6 0 13 (by omega) (by omega) (by omega)).trans x7, (h 6 0 14 (by omega) (by omega) (by omega)).trans x8, (h 6 0 6 (by omega) (by omega) (by omega)).trans x9, XMa_of R 0 0 x10 (fun x _ => h 26 0 x (by omega) (by omega) (by omega)) (fun x _ => h 27 0 x (by omega) (by omega) (by omega)), fun a b => (h 26 0 _ (by omega) (by omega) (by omega)).trans (x11 a b), fun s hs => (h 27 0 _ (by omega) (by omega) (by omega)).trans (x12 s hs)⟩
  rw [hb]
  exact (h 6 0 9 (by omega) (by omega) (by omega)).trans x4
theorem app3 (a b c e : List Nat) : a ++ (b ++ (c ++ e)) = a ++ (b ++ c) ++ e := by rw [List.append_assoc, List.append_assoc]
theorem x_joinX (hbn : BN hi) (hx : XC hi (want, wb, bv, W, O, P, R, S)) (hv : VX (want, wb, bv, W, O, P, R, S)) {s : Nat} (hs : 2 ≤ s ∧ s ≤ 14 ∧ s ≠ 11) : ∃ hi', fx_Ga (d + 3) 56 [rrO, vi (nI (xOp s))] (hp σ hi hl) none (hp σ hi' hl) ∧ Fr6 hi hi' ∧ XC hi' (want, wb, bv, s :: (ptl (bd s) W).2, O ++ (ptl (bd s) W).1, P, R, S) := by
  obtain ⟨x1, x2, x3, _⟩ := id hx
  obtain ⟨v1, v2, v3, _⟩ := hv
  obtain ⟨hi1, hg1, f1, c1, w1, d1⟩ := x_join2 (d := d) (σ := σ) (hl := hl) hbn x1 x2 x3 v1 (by rw [List.length_append, List.length_append]; omega) (by omega) hs
  have b1 : 1 ≤ bd s := by
    rcases (show s = 2 ∨ s = 3 ∨ s = 4 ∨ s = 5 ∨ s = 6 ∨ s = 7 ∨ s = 8 ∨ s = 9 ∨ s = 10 ∨ s = 12 ∨ s = 13 ∨ s = 14 by omega) with rfl | rfl | rfl | rfl | rfl | rfl | rfl | rfl | rfl | rfl | rfl | rfl <;> decide
  refine ⟨hi1, hg1, f1, hx.w f1 (by rw [app3]; exact c1) w1 d1 ?_⟩
  show bk (ptl (bd s) W).2 + (if s = 91 then 1 else 0) = _
  rw [(ptl_bk b1 W).2, if_neg (by omega)]
  rfl
theorem x_readClause (hx : XC hi (0, wb, false, W, O, P, R, S)) (hv : VX (0, wb, false, W, O, P, R, S)) (hS : S = none) (hO : O = []) (ht : TC hi t) : SRs (d + 1) 48 σ hi hl (if t.2.2.2.2 = some 26 then (if R.length = 12 then .inl 4 else .inr (1, 3, false, W, O, P, R, S)) else .inl 0) := by
  obtain ⟨x1, x2, x3, x4, x5, x6, x7, x8, x9, x10, x11, x12⟩ := id hx
  obtain ⟨v1, v2, v3, v4, v5, v6, v7, v8, v9, v10, v11⟩ := hv
  obtain ⟨t1, t2, t3, t4, _⟩ := ht
  refine SR_of fx_M48 [some rrO] (by decide) rfl rfl (Nat.le_of_ble_eq_true rfl) (fx_wpE [] 40 ?_)
  refine oI_someE (k := 26) t4 (by decide) t3 (fun h => ?_) (fun h => ?_)
  · rw [if_pos h]
    refine pk_lt R.length 12 (fun hlt => ?_) (fun hge => ?_) x9
    · rw [if_neg (by omega)]
      have e5 : hi 6 0 5 = nI (flt R).length := by
        rw [x1.1, hS, hO]
        show nI (flt R ++ ([] ++ [])).length = _
        rw [List.append_nil, List.append_nil]
      refine ⟨ni_inx (n := R.length) (m := 13) x9 (by omega) (by decide), rfl, fx_up (fx_up (fx_up hi 26 0 (hi 6 0 6).toNatClampNeg (hi 6 0 5)) 6 0 12 1) 6 0 13 3, rfl, ((Fr8.up hi _ (by omega)).tr (Fr8.up _ _ (by omega))).tr (Fr8.up _ _ (by omega)), ?_⟩
      have e6 : (hi 6 0 6).toNatClampNeg = R.length := by rw [x9, nI_clamp (by omega)]
      rw [e6]
      have hxa : XC (fx_up hi 26 0 R.length (hi 6 0 5)) (0, wb, false, W, O, P, R, S) := by
        refine ⟨x1, x2, x3, x4, x5, x6, x7, x8, x9, ?_, fun z => absurd rfl z, x12⟩
        by_cases hR : R = []
        · subst hR
          trivial
        · refine XMa_of R 0 0 x10 (fun x hx2 => ?_) (fun x _ => up_off _ _ (by omega))
          by_cases e : x = R.length
          · subst e
            rw [up_at, e5]
            have := XMa_last R 0 0 x10 hR
            rw [Nat.zero_add, Nat.zero_add] at this
            exact this.symm
          · exact up_off _ _ (by omega)
      exact hxa.set (fun k j s h => by rw [up_off _ _ (by omega), up_off _ _ (by omega)]) ((up_off _ _ (by omega)).trans (up_at _ _ _ _ _)) (up_at _ _ _ _ _) x5 (fun _ _ => by rw [up_at]; exact e5)
    · rw [if_pos (by omega)]
      exact ⟨rfl, hi, rfl, Fr8.rf hi⟩
  · rw [if_neg h]
    exact ⟨rfl, hi, rfl, Fr8.rf hi⟩
theorem x_readFact (hx : XC hi (2, wb, false, W, O, P, R, S)) (hv : VX (2, wb, false, W, O, P, R, S)) (ht : TC hi t) (ht2 : ∀ i, t.2.2.2.2 = some i → t.1 = 2) : SRs (d + 3) 50 σ hi hl (if t.2.2.2.2 = some 23 then (if dp W = 10 then .inl 2 else .inr (2, wb, false, 11 :: W, O, P, R, S)) else if t.1 = 5 then (if dp W = 10 then .inl 2 else .inr (2, wb, false, 91 :: W, O, P, R, S)) else mvl t 4 W O P R S) := by
  obtain ⟨x1, x2, x3, x4, x5, x6, x7, x8, x9, x10, x11, x12⟩ := id hx
  obtain ⟨v1, v2, v3, v4, v5, v6, v7, v8, v9, v10, v11⟩ := id hv
  obtain ⟨t1, t2, t3, t4, _⟩ := id ht
  refine SR_of (d := d + 2) fx_M50 [some rrO, none, none] (by decide) rfl rfl (Nat.le_of_ble_eq_true rfl) ?_
  -- one more deep
  have opn : ∀ (a b : Int32) (o : Nat), (a = 1 ∧ b = 0 ∧ o = 11 ∨ a = 0 ∧ b = 1 ∧ o = 91) → fx_E (fx_Ga (d + 2)) fx_M50 (50, [some rrO, some (vi a), some (vi b)], [], hp σ hi hl, 0, 0) (SRP σ hi hl (if dp W = 10 then .inl 2 else .inr (2, wb, false, o :: W, O, P, R, S))) := by
    intro a b o hab
    by_cases h10 : dp W = 10
    · rw [if_pos h10]
      exact fx_wpE [] 20 (pk_lt (dp W) 10 (fun h => by omega) (fun _ => ⟨rfl, hi, rfl, Fr8.rf hi⟩) x3)
    · rw [if_neg h10]
      have e8 : hi 6 0 8 + 1 = nI (dp W + 1) := by rw [x3, nI_1]
      have ob : o = 11 ∨ o = 91 := by omega
      have fin : ∀ hb : fxI3, (∀ k j s, ¬ (k = 6 ∧ (s = 8 ∨ s = 9)) → hb k j s = hi k j s) → hb 6 0 8 = nI (dp W + 1) → hb 6 0 9 = nI (bk (o :: W)) → ∃ hi2, fx_Ga (d + 2) 57 [rrO, vi (nI (xW o))] (hp σ hb hl) none (hp σ hi2 hl) ∧ SRP σ hi hl (.inr (2, wb, false, o :: W, O, P, R, S)) (some (vi (-1))) (hp σ hi2 hl) := by
        intro hb k1 k2 k3
        obtain ⟨hi2, hg2, f2, w2⟩ := x_lay (d := d + 1) (σ := σ) (hi := hb) (hl := hl) (W := W) ⟨(k1 6 0 7 (by omega)).trans x2.1, fun k hk => (k1 28 0 _ (by omega)).trans (x2.2 k hk)⟩ (by omega) o
        have g : ∀ k j s, ¬ (k = 6 ∧ (s = 7 ∨ s = 8 ∨ s = 9)) → k ≠ 28 → hi2 k j s = hi k j s := fun k j s h1 h2 => (f2 k j s (by omega) h2).trans (k1 k j s (by omega))
        refine ⟨hi2, hg2, rfl, hi2, rfl, fun k j s h1 h2 => g k j s (by omega) (by omega), ⟨(g 6 0 5 (by omega) (by omega)).trans x1.1, fun k hk => (g 25 0 k (by omega) (by omega)).trans (x1.2 k hk)⟩, w2, ?_, (f2 6 0 9 (by omega) (by omega)).trans k3, (g 6 0 10 (by omega) (by omega)).trans x5, (g 6 0 12 (by omega) (by omega)).trans x6, (g 6 0 13 (by omega) (by omega)).trans x7, (g 6 0 14 (by omega) (by omega)).trans x8, (g 6 0 6 (by omega) (by omega)).trans x9, XMa_of R 0 0 x10 (fun x _ => g 26 0 x (by omega) (by omega)) (fun x _ => g 27 0 x (by omega) (by omega)), fun a b => (g 26 0 _ (by omega) (by omega)).trans (x11 a b), fun s hs => (g 27 0 _ (by omega) (by omega)).trans (x12 s hs)⟩
        rw [f2 6 0 8 (by omega) (by omega), k2]
        show nI (dp W + 1) = nI (dp W + if o = 11 ∨ o = 91 then 1 else 0)
        rw [if_pos ob]
      rcases hab with ⟨rfl, rfl, rfl⟩ | ⟨rfl, rfl, rfl⟩
      · obtain ⟨hi2, hg2, hd2⟩ := fin (fx_up hi 6 0 8 (hi 6 0 8 + 1)) (fun k j s h => up_off _ _ (by omega)) (by rw [up_at]; exact e8) ((up_off _ _ (by omega)).trans x4)
        exact fx_wpE [] 60 (pk_lt (dp W) 10 (fun _ => ⟨fun _ => ⟨fun w => absurd w (by decide), fun _ => ⟨_, _, hg2, hd2⟩⟩, fun w => absurd rfl w⟩) (fun h => by omega) x3)
      · obtain ⟨hi2, hg2, hd2⟩ := fin (fx_up (fx_up hi 6 0 8 (hi 6 0 8 + 1)) 6 0 9 (hi 6 0 9 + 1)) (fun k j s h => by rw [up_off _ _ (by omega), up_off _ _ (by omega)]) (by rw [up_off _ _ (by omega), up_at]; exact e8) (by rw [up_at, x4, nI_1]; rfl)
        exact fx_wpE [] 60 (pk_lt (dp W) 10 (fun _ => ⟨fun w => absurd w (by decide), fun _ => ⟨fun _ => ⟨_, _, hg2, hd2⟩, fun w => absurd rfl w⟩⟩) (fun h => by omega) x3)
  refine fx_wpE [50] 60 (oI_some (k := 23) t4 (by decide) t3 (fun h => ?_) (fun h => ?_))
  · rw [if_pos h]
    have h2 := ht2 23 h
    refine nn_eq t.1 5 (fun e => by omega) (fun _ => ?_) t1
    exact ⟨fun _ => opn 1 0 11 (Or.inl ⟨rfl, rfl, rfl⟩), fun w => absurd (fun z => absurd z (by decide)) w⟩
  · rw [if_neg h]
    refine nn_eq t.1 5 (fun e => ?_) (fun e => ?_) t1
    · rw [if_pos e]
      exact ⟨fun w => absurd rfl w, fun _ => ⟨fun _ => opn 0 1 91 (Or.inr ⟨rfl, rfl, rfl⟩), fun w => absurd (fun z => absurd z (by decide)) w⟩⟩
    · rw [if_neg e]
      have hx4 : XC (fx_up hi 6 0 13 4) (2, 4, false, W, O, P, R, S) := hx.set (fun k j s h => up_off _ _ (by omega)) ((up_off _ _ (by omega)).trans x6) (up_at _ _ _ _ _) x5 (fun a b => x11 a b)
      have ht4 : TC (fx_up hi 6 0 13 4) t := ht
      have hrv := x_readValue (d := d) (σ := σ) (hl := hl) hx4 ⟨v1, v2, v3, v4, v5, v6, v7, v8, v9, v10, by decide⟩ (by decide) (by decide) ht4
      refine ⟨fun w => absurd rfl w, fun _ => ⟨fun w => absurd rfl w, fun _ => ?_⟩⟩
      cases hm : mvl t 4 W O P R S with
      | inl f =>
        rw [hm] at hrv
        obtain ⟨hi3, hg3, f3⟩ := hrv
        exact ⟨_, _, hg3, rfl, hi3, rfl, (Fr8.up hi _ (by omega)).tr f3⟩
      | inr x =>
        rw [hm] at hrv
        obtain ⟨hi3, hg3, f3, hx3⟩ := hrv
        exact ⟨_, _, hg3, rfl, hi3, rfl, (Fr8.up hi _ (by omega)).tr f3, hx3⟩
theorem x_readCompare (hbn : BN hi) (hx : XC hi (4, wb, false, W, O, P, R, S)) (hv : VX (4, wb, false, W, O, P, R, S)) (ht : TC hi t) : SRs (d + 4) 51 σ hi hl (if t.1 = 8 then (if P = 60 then .inl 3 else .inr (mjn t.2.1 1 5 W O (P + 1) R S)) else .inl 0) := by
  obtain ⟨x1, x2, x3, x4, x5, x6, x7, x8, x9, x10, x11, x12⟩ := id hx
  obtain ⟨v1, v2, v3, v4, v5, v6, v7, v8, v9, v10, v11⟩ := id hv
  obtain ⟨t1, t2, t3, t4, t5, _⟩ := ht
  refine SR_of (d := d + 3) fx_M51 [some rrO] (by decide) rfl rfl (Nat.le_of_ble_eq_true rfl) (fx_wpE [] 60 (pk_eq t.1 8 (fun e => ?_) (fun e => ?_) t1))
  · rw [if_pos e]
    obtain ⟨t5, s1, s2, s3⟩ := t5 (Or.inr e)
    by_cases h60 : P = 60
    · rw [if_pos h60]
      exact pk_lt P 60 (fun h => by omega) (fun _ => ⟨rfl, hi, rfl, Fr8.rf hi⟩) x5
    · rw [if_neg h60]
      have hx1 : XC (fx_up hi 6 0 10 (hi 6 0 10 + 1)) (4, wb, false, W, O, P + 1, R, S) := hx.set (fun k j s h => up_off _ _ (by omega)) ((up_off _ _ (by omega)).trans x6) ((up_off _ _ (by omega)).trans x7) (by rw [up_at, x5, nI_1]) (fun a b => x11 a b)
      obtain ⟨hi2, hg2, f2, hx2⟩ := x_joinX (d := d) (σ := σ) (hl := hl) (hi := fx_up hi 6 0 10 (hi 6 0 10 + 1)) hbn hx1 ⟨v1, v2, v3, by omega, v5, v6, v7, v8, v9, v10, v11⟩ ⟨s1, s2, s3⟩
      rw [← t5] at hg2
      refine pk_lt P 60 (fun _ => ⟨_, _, hg2, rfl, fx_up (fx_up hi2 6 0 12 1) 6 0 13 5, rfl, (((Fr8.up hi _ (by omega)).tr f2.e).tr (Fr8.up _ _ (by omega))).tr (Fr8.up _ _ (by omega)), ?_⟩) (fun h => by omega) x5
      exact hx2.set (fun k j s h => by rw [up_off _ _ (by omega), up_off _ _ (by omega)]) ((up_off _ _ (by omega)).trans (up_at _ _ _ _ _)) (up_at _ _ _ _ _) ((up_off _ _ (by omega)).trans ((up_off _ _ (by omega)).trans hx2.2.2.2.2.1)) (fun _ _ => hx2.2.2.2.2.2.2.2.2.2.2.1 (by decide) (by decide))
  · rw [if_neg e]
    exact ⟨rfl, hi, rfl, Fr8.rf hi⟩
/-- a clause ends -/
theorem XC.fin {hi2 : fxI3} {C' : List Nat} {kd : Nat} (s : List Nat) (o : Option (List Nat)) (hx : XC hi (want, wb, false, W, O, P, R, S)) (hw0 : want ≠ 0 ∧ want ≠ 6) (f : ∀ k j s, ¬ (k = 6 ∧ (s = 5 ∨ s = 7 ∨ s = 8)) → k ≠ 25 → k ≠ 28 → ¬ (k = 27 ∧ s = R.length) → hi2 k j s = hi k j s) (hc : CD hi2 C') (hC : C' = flt R ++ (s ++ o.getD [])) (hw : WW hi2 (ptl 1 W).2) (hd : hi2 6 0 8 = nI (dp (ptl 1 W).2)) (h27 : hi2 27 0 R.length = nI ((flt R).length + s.length)) : XC (fx_up (fx_up (fx_up hi2 6 0 6 (nI (R.length + 1))) 26 0 (R.length + 1) (nI C'.length)) 6 0 12 (nI (if kd = 0 then 6 else 0))) (if kd = 0 then 6 else 0, wb, false, (ptl 1 W).2, [], P, R ++ [(s, o)], none) := by
  obtain ⟨x1, x2, x3, x4, x5, x6, x7, x8, x9, x10, x11, x12⟩ := hx
  have g : ∀ k j s, ¬ (k = 6 ∧ (s = 5 ∨ s = 6 ∨ s = 7 ∨ s = 8 ∨ s = 12)) → k ≠ 25 → k ≠ 28 → ¬ (k = 27 ∧ s = R.length) → ¬ (k = 26 ∧ s = R.length + 1) → fx_up (fx_up (fx_up hi2 6 0 6 (nI (R.length + 1))) 26 0 (R.length + 1) (nI C'.length)) 6 0 12 (nI (if kd = 0 then 6 else 0)) k j s = hi k j s := fun k j s h1 h2 h3 h4 h5 => by
    rw [up_off _ _ (by omega), up_off _ _ (by omega), up_off _ _ (by omega)]
    exact f k j s (by omega) h2 h3 h4
  have u : ∀ k j s, ¬ (k = 6 ∧ (s = 6 ∨ s = 12)) → k ≠ 26 → fx_up (fx_up (fx_up hi2 6 0 6 (nI (R.length + 1))) 26 0 (R.length + 1) (nI C'.length)) 6 0 12 (nI (if kd = 0 then 6 else 0)) k j s = hi2 k j s := fun k j s h1 h2 => by
    rw [up_off _ _ (by omega), up_off _ _ (by omega), up_off _ _ (by omega)]
  have hlenC : C'.length = (flt R).length + s.length + (o.getD []).length := by
    rw [hC, List.length_append, List.length_append]
    omega
  refine ⟨?_, ?_, ?_, ?_, ?_, ?_, ?_, ?_, ?_, ?_, ?_, ?_⟩
  · show CD _ (flt (R ++ [(s, o)]) ++ ([] ++ []))
    rw [flt_snoc, List.append_nil, List.append_nil, ← hC]
    exact ⟨(u 6 0 5 (by omega) (by omega)).trans hc.1, fun k hk => (u 25 0 k (by omega) (by omega)).trans (hc.2 k hk)⟩
  · exact ⟨(u 6 0 7 (by omega) (by omega)).trans hw.1, fun k hk => (u 28 0 _ (by omega) (by omega)).trans (hw.2 k hk)⟩
  · exact (u 6 0 8 (by omega) (by omega)).trans hd
  · rw [g 6 0 9 (by omega) (by omega) (by omega) (by omega) (by omega), x4, (ptl_bk (b := 1) (by decide) W).2]
  · exact (g 6 0 10 (by omega) (by omega) (by omega) (by omega) (by omega)).trans x5
  · exact up_at _ _ _ _ _
  · exact (g 6 0 13 (by omega) (by omega) (by omega) (by omega) (by omega)).trans x7
  · exact (g 6 0 14 (by omega) (by omega) (by omega) (by omega) (by omega)).trans x8
  · rw [up_off _ _ (by omega), up_off _ _ (by omega), up_at, List.length_append]
    rfl
  · refine XMa_snoc R 0 0 (XMa_of R 0 0 x10 (fun x hx2 => g 26 0 x (by omega) (by omega) (by omega) (by omega) (by omega)) (fun x hx2 => g 27 0 x (by omega) (by omega) (by omega) (by omega) (by omega))) ?_ ?_ ?_
    · rw [Nat.zero_add, Nat.zero_add, g 26 0 _ (by omega) (by omega) (by omega) (by omega) (by omega)]
      exact x11 hw0.1 hw0.2
    · rw [Nat.zero_add, Nat.zero_add, u 27 0 _ (by omega) (by omega)]
      exact h27
    · rw [Nat.zero_add, Nat.zero_add, up_off _ _ (by omega), up_at, hlenC]
  · intro h1 h2
    split at h1
    · rename_i h
      rw [if_pos h] at h2
      exact absurd rfl h2
    · exact absurd rfl h1
  · intro s2 hs2
    cases hs2
theorem x_readBehindRide (hbn : BN hi) (hx : XC hi (3, wb, false, W, O, P, R, S)) (hv : VX (3, wb, false, W, O, P, R, S)) (ht : TC hi t) : SRs (d + 4) 52 σ hi hl (if t.2.2.2.2 = some 25 then .inr (2, wb, false, (ptl 1 W).2, [], P, R, some (O ++ (ptl 1 W).1)) else if t.1 = 4 ∨ t.1 = 0 then .inr (if t.1 = 0 then 6 else 0, wb, false, (ptl 1 W).2, [], P, R ++ [(O ++ (ptl 1 W).1, none)], none) else .inl 0) := by
  obtain ⟨x1, x2, x3, x4, x5, x6, x7, x8, x9, x10, x11, x12⟩ := id hx
  obtain ⟨v1, v2, v3, v4, v5, v6, v7, v8, v9, v10, v11⟩ := id hv
  obtain ⟨t1, t2, t3, t4, t5, _⟩ := id ht
  have hS := v9 rfl
  subst hS
  have r12 := v8 (by decide) (by decide)
  have x1 : CD hi (flt R ++ O) := x1
  obtain ⟨hi2, hg2, f2, c2, w2, d2, m2⟩ := x_endSum (d := d) (σ := σ) (hl := hl) hbn x1 x2 x3 v1 (by rw [List.length_append]; have : ((none : Option (List Nat)).getD []).length = 0 := rfl; omega) (by omega) x9 r12
  refine SR_of (d := d + 3) fx_M52 [some rrO] (by decide) rfl rfl (Nat.le_of_ble_eq_true rfl) (fx_wpE [43] 60 (oI_some (k := 25) t4 (by decide) t3 (fun h => ?_) (fun h => ?_)))
  · rw [if_pos h]
    refine ⟨_, _, hg2, rfl, fx_up hi2 6 0 12 2, rfl, fun k j s h1 h2 => (up_off _ _ (by omega)).trans (f2 k j s (by omega) (by omega) (by omega) (by omega)), ?_⟩
    have u : ∀ k j s, ¬ (k = 6 ∧ s = 12) → fx_up hi2 6 0 12 2 k j s = hi2 k j s := fun k j s h => up_off _ _ (by omega)
    have g : ∀ k j s, ¬ (k = 6 ∧ (s = 5 ∨ s = 7 ∨ s = 8 ∨ s = 12)) → k ≠ 25 → k ≠ 28 → ¬ (k = 27 ∧ s = R.length) → fx_up hi2 6 0 12 2 k j s = hi k j s := fun k j s h1 h2 h3 h4 => (u k j s (by omega)).trans (f2 k j s (by omega) h2 h3 h4)
    refine ⟨?_, ⟨(u 6 0 7 (by omega)).trans w2.1, fun k hk => (u 28 0 _ (by omega)).trans (w2.2 k hk)⟩, (u 6 0 8 (by omega)).trans d2, ?_, (g 6 0 10 (by omega) (by omega) (by omega) (by omega)).trans x5, up_at _ _ _ _ _, (g 6 0 13 (by omega) (by omega) (by omega) (by omega)).trans x7, (g 6 0 14 (by omega) (by omega) (by omega) (by omega)).trans x8, (g 6 0 6 (by omega) (by omega) (by omega) (by omega)).trans x9, XMa_of R 0 0 x10 (fun x _ => g 26 0 x (by omega) (by omega) (by omega) (by omega)) (fun x hx2 => g 27 0 x (by omega) (by omega) (by omega) (by omega)), fun _ _ => (g 26 0 _ (by omega) (by omega) (by omega) (by omega)).trans (x11 (by decide) (by decide)), fun s hs => ?_⟩
    · show CD _ (flt R ++ ((O ++ (ptl 1 W).1) ++ []))
      rw [List.append_nil, ← List.append_assoc]
      exact ⟨(u 6 0 5 (by omega)).trans c2.1, fun k hk => (u 25 0 k (by omega)).trans (c2.2 k hk)⟩
    · rw [g 6 0 9 (by omega) (by omega) (by omega) (by omega), x4, (ptl_bk (b := 1) (by decide) W).2]
    · cases hs
      rw [u 27 0 _ (by omega), m2, List.append_assoc, List.length_append]
  · rw [if_neg h]
    have tail : (t.1 = 4 ∨ t.1 = 0) → fx_E (fx_Ga (d + 3)) fx_M52 (43, [some rrO], [], hp σ hi hl, 0, 0) (SRP σ hi hl (.inr (if t.1 = 0 then 6 else 0, wb, false, (ptl 1 W).2, [], P, R ++ [(O ++ (ptl 1 W).1, none)], none))) := by
      intro hk
      have he := x_endClause (d := d + 2) (σ := σ) (hi := hi2) (hl := hl) ((f2 6 0 6 (by omega) (by omega) (by omega) (by omega)).trans x9) r12 c2.1 ((f2 7 1 3 (by omega) (by omega) (by omega) (by omega)).trans t1) t2
      have hfin := hx.fin (kd := t.1) (O ++ (ptl 1 W).1) none (by decide) f2 c2 (by show _ = flt R ++ ((O ++ (ptl 1 W).1) ++ []); rw [List.append_nil, List.append_assoc]) w2 d2 (by rw [m2, List.append_assoc, List.length_append])
      exact fx_wpE [] 40 ⟨_, _, hg2, _, _, he, rfl, _, rfl, fun k j s h1 h2 => by rw [up_off _ _ (by omega), up_off _ _ (by omega), up_off _ _ (by omega)]; exact f2 k j s (by omega) (by omega) (by omega) (by omega), hfin⟩
    refine pk_eq t.1 4 (fun e => ?_) (fun e => pk_eq t.1 0 (fun e0 => ?_) (fun e0 => ?_) t1) t1
    · rw [if_pos (Or.inl e)]
      exact tail (Or.inl e)
    · rw [if_pos (Or.inr e0)]
      exact tail (Or.inr e0)
    · rw [if_neg (by omega)]
      exact ⟨rfl, hi, rfl, Fr8.rf hi⟩
end XI
