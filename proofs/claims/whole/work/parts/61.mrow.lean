/-! rows of fields: the reference -/
def FrW (hi hi' : fxI3) : Prop := ∀ k j s, ¬ scr k s → ¬ (k = 11 ∧ j = 0 ∧ s = 23) → hi' k j s = hi k j s
theorem FrW.tr {a b c : fxI3} (h : FrW a b) (g : FrW b c) : FrW a c := fun k j s h1 h2 => (g k j s h1 h2).trans (h k j s h1 h2)
theorem FrQ.w {a b : fxI3} (h : FrQ a b) : FrW a b := fun k j s h1 _ => h k j s h1
theorem m_power {d : Nat} {h : fxH} {w n : Nat} (hn : n < 2 ^ 30) : fx_Ga (d + 1) 222 [vi (nI w), vi (nI n)] h (some (vi (nI (w ^ n)))) h := by
  refine fx_meth fx_M222 [some (vi (nI w)), some (vi (nI n)), none, none] (by decide) rfl rfl (Nat.le_of_ble_eq_true rfl) ?_
  have loop : ∀ t k, k + t = n → fx_E (fx_Ga d) fx_M222 (4, [some (vi (nI w)), some (vi (nI n)), some (vi (nI (w ^ k))), some (vi (nI k))], [], h, 0, 0) (fun r2 h2 => r2 = some (vi (nI (w ^ n))) ∧ h2 = h) := by
    intro t
    induction t with
    | zero =>
      intro k hk
      have : k = n := by omega
      subst this
      exact fx_wpL [4] 20 (pk_le k k (fun _ => ⟨rfl, rfl⟩) (fun hc => by omega))
    | succ t ih =>
      intro k hk
      have h2 := ih (k + 1) (by omega)
      rw [Nat.pow_succ, ← pk_mul, ← nI_1] at h2
      exact fx_wpL [4] 20 (pk_le n k (fun hc => by omega) (fun _ => h2))
  exact fx_wpE [4] 9 (loop n 0 (by omega))
theorem rI_0 (q : Nat × Nat × Nat) : rI (some q) 0 = nI q.1 := by
  show (if (0 : Int32) = 0 then nI q.1 else if (0 : Int32) = 1 then nI q.2.1 else nI q.2.2) = _
  rw [if_pos rfl]
theorem rI_1 (q : Nat × Nat × Nat) : rI (some q) 1 = nI q.2.1 := by
  show (if (1 : Int32) = 0 then nI q.1 else if (1 : Int32) = 1 then nI q.2.1 else nI q.2.2) = _
  rw [if_neg (by decide), if_pos rfl]
theorem rI_2 (q : Nat × Nat × Nat) : rI (some q) 2 = nI q.2.2 := by
  show (if (2 : Int32) = 0 then nI q.1 else if (2 : Int32) = 1 then nI q.2.1 else nI q.2.2) = _
  rw [if_neg (by decide), if_neg (by decide)]
section MW
variable {d : Nat} {σ : fxS} {hi : fxI3} {hl : fxL3} {v : Nat → Nat} {rl : Option fxRl}
theorem FM_w {hi' : fxI3} (h : FrW hi hi') (g : FM hi rl) : FM hi' rl := by
  cases rl with
  | none => exact (h 11 0 21 (by unfold scr; omega) (by omega)).trans g
  | some R =>
    obtain ⟨t, h1, h2, h3⟩ := g
    exact ⟨t, h1, (h 11 0 21 (by unfold scr; omega) (by omega)).trans h2, RM_of (fun s => h 51 0 s (by unfold scr; omega) (by omega)) (fun s => h 53 0 s (by unfold scr; omega) (by omega)) (fun s => h 54 0 s (by unfold scr; omega) (by omega)) h3⟩
theorem m_row (hn : NM hi v rl) (hH : HV v) (r n w : Int32) : QM (d + 7) 223 [mO, vi r, vi n, vi w] σ hi hl v (aRow rl v r n w) := by
  obtain ⟨hv, hs, hf, hr⟩ := hn
  have h4 := hs.1
  refine QM_of fx_M223 [some mO, some (vi r), some (vi n), some (vi w), none, none, none, none, none, none, none, none, none] (by decide) rfl rfl (Nat.le_of_ble_eq_true rfl) (fx_wpE [64] 60 ?_)
  refine ⟨_, _, m_isRider hv r, bd_if (fun hc => QM.same hv (if_neg (fun z => hc z.1)).symm) (fun hc => ?_)⟩
  refine ⟨_, _, m_inN n 1 4 rfl rfl, bd_if (fun hc2 => QM.same hv (if_neg (fun z => hc2 z.2.1)).symm) (fun hc2 => ?_)⟩
  refine ⟨_, _, m_inN w 0 2 rfl rfl, bd_nf (fun hc3 => ?_) (fun hc3 => QM.same hv (if_neg (fun z => hc3 z.2.2)).symm)⟩
  obtain ⟨i, i4, i6, er, ei⟩ := isR_of hc h4
  obtain ⟨m, m1, m4, en, em⟩ := rg_of (a := 1) (b := 4) hc2 (by decide) (by decide)
  subst er
  subst en
  obtain ⟨g, hg1, hk⟩ := m_keeps (d := d + 5) (σ := σ) (hl := hl) hv
  have f1 : FrQ hi (fx_all hi 63 0 g) := FrQ.all hi g (fun s => by unfold scr; omega)
  refine ⟨_, _, m_paceOf hv i6, _, _, hg1, ?_⟩
  have ans : aRow rl v (nI i) (nI m) w = rI (vRB rl v i m) w := by
    unfold aRow
    rw [if_pos ⟨hc, hc2, hc3⟩, ei, em]
  generalize aRow rl v (nI i) (nI m) w = A at ans
  have p9 := (hs.2.2.2.2.2 i i6).2.1
  have hb0 : vRB rl v i m = rF (fun c => (rw_O (vRS rl i) (v (13 + 4 * i) + 1) m v c (15 + 4 * i) - v (15 + 4 * i), rw_O (vRS rl i) (v (13 + 4 * i) + 1) m v c (12 + 4 * i), c / (v (13 + 4 * i) + 1) ^ (m - 1))) ((v (13 + 4 * i) + 1) ^ m) none := rfl
  generalize hW : v (13 + 4 * i) + 1 = W at hb0
  have W0 : 0 < W := by omega
  have W10 : W ≤ 10 := by omega
  have Wm : W ^ m ≤ 10000 := Nat.le_trans (Nat.pow_le_pow_left W10 m) (Nat.le_trans (Nat.pow_le_pow_right (by decide) m4) (by decide))
  have Wp := rw_pp W0
  rw [hb0] at ans
  generalize hG : (fun c => (rw_O (vRS rl i) W m v c (15 + 4 * i) - v (15 + 4 * i), rw_O (vRS rl i) W m v c (12 + 4 * i), c / W ^ (m - 1))) = G at ans
  have dv : ∀ c k, k < m → c / W ^ (m - (k + 1)) / W = c / W ^ (m - k) := fun c k hkm => by
    rw [Nat.div_div_eq_div_mul, ← Nat.pow_succ, show (m - (k + 1)).succ = m - k by omega]
  have loop : ∀ t c (hb : fxI3) (hlb : fxL3) l9 l10 l11 l12, c + t = W ^ m → FrW hi hb → FlQ hl hlb → hb 11 0 23 = nI i → KP hb v → PM hb v → (∀ q, rF G c none = some q → q.1 < 2 ^ 20 ∧ q.2.1 < 2 ^ 20) → fx_E (fx_Ga (d + 6)) fx_M223 (64, [some mO, some (vi (nI i)), some (vi (nI m)), some (vi w), some (vi (nI W)), some (vi (rI (rF G c none) 0)), some (vi (rI (rF G c none) 1)), some (vi (rI (rF G c none) 2)), some (vi (nI c)), l9, l10, l11, l12], [], hp σ hb hlb, 0, 0) (QMP σ hi hl v A) := by
    intro t
    induction t with
    | zero =>
      intro c hb hlb l9 l10 l11 l12 hct g1 g2 g23 hkb hvb hq
      have : c = W ^ m := by omega
      subst this
      obtain ⟨q, eq⟩ : ∃ q, rF G (W ^ m) none = some q := by
        obtain ⟨e, he⟩ : ∃ e, W ^ m = e + 1 := ⟨W ^ m - 1, by have := Wp m; omega⟩
        rw [he]
        exact rF_some _ _
      rw [eq] at ans ⊢
      have F : FrQ hi (fx_up hb 11 0 23 (-1)) := fun k j s h => by
        by_cases e : k = 11 ∧ j = 0 ∧ s = 23
        · obtain ⟨rfl, rfl, rfl⟩ := e
          rw [up_at]
          exact hr.symm
        · rw [up_off _ _ e]
          exact g1 k j s h e
      have fin : ∀ x : Int32, x = rI (some q) w → QMP σ hi hl v A (some (vi x)) (hp σ (fx_up hb 11 0 23 (-1)) hlb) := fun x e => ⟨by rw [ans, e], _, _, rfl, F, g2, hvb⟩
      refine fx_wpL [64] 40 ⟨_, _, m_power (by omega), pk_le (W ^ m) (W ^ m) (fun _ => ?_) (fun hc => by omega)⟩
      refine ⟨fun (z : ¬ w = 0) => ⟨fun (y : ¬ w = 1) => fin _ ?_, fun (y : ¬ ¬ w = 1) => fin _ ?_⟩, fun (z : ¬ ¬ w = 0) => fin _ ?_⟩
      · rw [rI_2]
        show _ = if w = 0 then nI q.1 else if w = 1 then nI q.2.1 else nI q.2.2
        rw [if_neg z, if_neg y]
      · rw [Classical.not_not.mp y]
      · rw [Classical.not_not.mp z]
    | succ t ih =>
      intro c hb hlb l9 l10 l11 l12 hct g1 g2 g23 hkb hvb hq
      have cW : c < W ^ m := by omega
      -- behind the walk
      have last : ∀ (hc : fxI3) (hlc : fxL3) l9 l10, FrW hi hc → FlQ hl hlc → hc 11 0 23 = nI i → KP hc v → PM hc v → hc 60 0 0 = nI (c / W ^ (m - 1)) → (G c).1 < 2 ^ 20 → (G c).2.1 < 2 ^ 20 → (G c).2.2 = c / W ^ (m - 1) → fx_E (fx_Ga (d + 6)) fx_M223 (168, [some mO, some (vi (nI i)), some (vi (nI m)), some (vi w), some (vi (nI W)), some (vi (rI (rF G c none) 0)), some (vi (rI (rF G c none) 1)), some (vi (rI (rF G c none) 2)), some (vi (nI c)), l9, l10, some (vi (nI (G c).1)), some (vi (nI (G c).2.1))], [], hp σ hc hlc, 0, 0) (QMP σ hi hl v A) := by
        intro hc hlc l9 l10 k1 k2 k3 k4 k5 k6 b1 b2 b3
        have h2 := ih (c + 1) hc hlc l9 l10 (some (vi (nI (G c).1))) (some (vi (nI (G c).2.1))) (by omega) k1 k2 k3 k4 k5
        rw [show rF G (c + 1) none = rU (rF G c none) (G c) from rfl] at h2
        generalize rF G c none = a at h2 hq ⊢
        have take : rB a (G c).1 (G c).2.1 = true → fx_E (fx_Ga (d + 6)) fx_M223 (197, [some mO, some (vi (nI i)), some (vi (nI m)), some (vi w), some (vi (nI W)), some (vi (rI a 0)), some (vi (rI a 1)), some (vi (rI a 2)), some (vi (nI c)), l9, l10, some (vi (nI (G c).1)), some (vi (nI (G c).2.1))], [], hp σ hc hlc, 0, 0) (QMP σ hi hl v A) := by
          intro hB
          have eu : rU a (G c) = some (G c) := by
            unfold rU
            rw [hB]
            rfl
          rw [eu] at h2
          have h3 := h2 (fun q hq2 => by cases hq2; exact ⟨b1, b2⟩)
          rw [rI_0, rI_1, rI_2, b3, ← nI_1, ← k6] at h3
          exact fx_wpE [64] 40 ⟨ni_in (n := 0) (m := 4) (by decide) (by decide), h3⟩
        cases a with
        | none => exact fx_wpE [64, 197] 30 ⟨fun _ => take rfl, fun (z : ¬ (-1 : Int32) < 0) => absurd (by decide) z⟩
        | some q =>
          obtain ⟨q1, q2⟩ := hq q rfl
          have skip : rB (some q) (G c).1 (G c).2.1 = false → fx_E (fx_Ga (d + 6)) fx_M223 (213, [some mO, some (vi (nI i)), some (vi (nI m)), some (vi w), some (vi (nI W)), some (vi (rI (some q) 0)), some (vi (rI (some q) 1)), some (vi (rI (some q) 2)), some (vi (nI c)), l9, l10, some (vi (nI (G c).1)), some (vi (nI (G c).2.1))], [], hp σ hc hlc, 0, 0) (QMP σ hi hl v A) := by
            intro hB
            have eu : rU (some q) (G c) = some q := by
              unfold rU
              rw [hB]
              rfl
            rw [eu] at h2
            have h3 := h2 hq
            rw [← nI_1] at h3
            exact fx_wpE [64] 20 h3
          have hd : rB (some q) (G c).1 (G c).2.1 = decide ((G c).1 < q.1 ∨ (G c).1 = q.1 ∧ (G c).2.1 < q.2.1) := rfl
          rw [hd] at take skip
          rw [rI_0, rI_1] at take skip ⊢
          refine fx_wpE [64, 197, 213] 40 ⟨fun (z : nI q.1 < 0) => absurd z (nI_pos (by omega)), fun _ => pk_lt q.1 (G c).1 (fun hlt => skip (decide_eq_false (by omega))) (fun hge => ?_)⟩
          refine nn_eq (G c).1 q.1 (fun he => ?_) (fun he => take (decide_eq_true (by omega)))
          exact pk_lt (G c).2.1 q.2.1 (fun hlt => take (decide_eq_true (Or.inr ⟨he, hlt⟩))) (fun hge => skip (decide_eq_false (by omega)))
      -- the steps
      have steps : ∀ s j (hc : fxI3) (hlc : fxL3) l9 l12 (u : Nat → Nat), j + s = m → FrW hi hc → FlQ hl hlc → hc 11 0 23 = nI i → KP hc v → (∀ p, p < m → hc 60 0 p = nI (c / W ^ (m - 1 - p) % W)) → PM hc u → u = rw_O (vRS rl i) W j v (c / W ^ (m - j)) → SB u → u 10 = v 10 + j → (∀ x, x < 10 ∨ 38 ≤ x → u x = v x) → v (15 + 4 * i) ≤ u (15 + 4 * i) → fx_E (fx_Ga (d + 6)) fx_M223 (124, [some mO, some (vi (nI i)), some (vi (nI m)), some (vi w), some (vi (nI W)), some (vi (rI (rF G c none) 0)), some (vi (rI (rF G c none) 1)), some (vi (rI (rF G c none) 2)), some (vi (nI c)), l9, some (vi (nI (v (15 + 4 * i)))), some (vi (nI j)), l12], [], hp σ hc hlc, 0, 0) (QMP σ hi hl v A) := by
        intro s
        induction s with
        | zero =>
          intro j hc hlc l9 l12 u hj k1 k2 k3 k4 k5 hu eu su u10 ul uw
          have : j = m := by omega
          subst this
          rw [Nat.sub_self, Nat.pow_zero, Nat.div_one] at eu
          have suv := su.sv (by have := hH.2; omega)
          have bi := suv.2.2.2.2.2.2 i i6
          have b11 := suv.2.2.2.2.1
          obtain ⟨g3, hg3, hv3⟩ := m_laysBack (d := d + 5) (σ := σ) (hi := hc) (hl := hlc) (v := v) (w := u) hu k4 ul
          have eG : G c = (u (15 + 4 * i) - v (15 + 4 * i), u (12 + 4 * i), c / W ^ (j - 1)) := by rw [← hG, eu]
          have c1 : c / W ^ (j - 1) < W := Nat.div_lt_of_lt_mul (by rw [← Nat.pow_succ, show (j - 1).succ = j by omega]; exact cW)
          have k60 : hc 60 0 0 = nI (c / W ^ (j - 1)) := by
            rw [k5 0 (by omega), Nat.sub_zero, Nat.mod_eq_of_lt c1]
          have h2 := last (fx_all hc 59 0 g3) hlc l9 (some (vi (nI (v (15 + 4 * i))))) (k1.tr (FrQ.all hc g3 (fun s => by unfold scr; omega)).w) k2 k3 k4 hv3 k60 (by rw [eG]; show u (15 + 4 * i) - v (15 + 4 * i) < 2 ^ 20; omega) (by rw [eG]; show u (12 + 4 * i) < 2 ^ 20; omega) (by rw [eG])
          rw [eG] at h2
          have h2 : fx_E (fx_Ga (d + 6)) fx_M223 (168, [some mO, some (vi (nI i)), some (vi (nI j)), some (vi w), some (vi (nI W)), some (vi (rI (rF G c none) 0)), some (vi (rI (rF G c none) 1)), some (vi (rI (rF G c none) 2)), some (vi (nI c)), l9, some (vi (nI (v (15 + 4 * i)))), some (vi (nI (u (15 + 4 * i) - v (15 + 4 * i)))), some (vi (nI (u (12 + 4 * i))))], [], hp σ (fx_all hc 59 0 g3) hlc, 0, 0) (QMP σ hi hl v A) := h2
          rw [← pk_sub uw] at h2
          exact fx_wpL [124, 168] 40 (pk_le j j (fun _ => ⟨_, _, m_wasOf hu i6, _, _, m_runOf hu i6, _, _, hg3, h2⟩) (fun hc => by omega))
        | succ s ihs =>
          intro j hc hlc l9 l12 u hj k1 k2 k3 k4 k5 hu eu su u10 ul uw
          have suv := su.sv (by have := hH.2; omega)
          have dg : c / W ^ (m - 1 - j) % W < W := Nat.mod_lt _ W0
          obtain ⟨hi3, hl3, hg3, p1, p2, hv3⟩ := m_passes (d := d) (σ := σ) (hi := fx_up hc 11 0 25 (nI j)) (hl := hlc) (rl := rl) (row := some (i, c / W ^ (m - 1 - j) % W)) hu suv (FM_w (k1.tr (FrQ.up hc _ (by unfold scr; omega)).w) hf) ⟨i6, k3, by omega, j, by omega, up_at _ _ _ _ _, k5 j (by omega)⟩
          have eu2 : (vStep u rl (some (i, c / W ^ (m - 1 - j) % W))).1 = rw_O (vRS rl i) W (j + 1) v (c / W ^ (m - (j + 1))) := by
            rw [rw_snoc W0 j v _ (Nat.div_lt_of_lt_mul (by rw [← Nat.pow_add, show m - (j + 1) + (j + 1) = m by omega]; exact cW)), dv c j (by omega), ← eu, show m - (j + 1) = m - 1 - j by omega]
            rfl
          have h2 := ihs (j + 1) hi3 hl3 l9 l12 _ (by omega) ((k1.tr (FrQ.up hc _ (by unfold scr; omega)).w).tr p1.q.w) (k2.tr p2.q) ((p1 11 0 23 (by decide) (by decide) (by omega)).trans k3) (fun k hk => ⟨(p1 63 0 k (by decide) (by decide) (by omega)).trans (k4 k hk).1, (k4 k hk).2⟩) (fun p hp2 => (p1 60 0 p (by decide) (by decide) (by omega)).trans (k5 p hp2)) hv3 eu2 (su.step _ _) (by rw [vStep_10, u10]; omega) (fun x hx => by
            rcases hx with hx | hx
            · exact (vStep_lo _ _ _ hx).trans (ul x (Or.inl hx))
            · exact (vStep_hi _ _ _ su.1 (by omega)).trans (ul x (Or.inr hx))) (by rw [vStep_was]; omega)
          rw [← nI_1] at h2
          exact fx_wpL [124] 40 (pk_le m j (fun hc => by omega) (fun _ => ⟨_, _, hg3, h2⟩))
      -- the digits
      have digits : ∀ j (hc : fxI3) , j ≤ m → FrW hi hc → hc 11 0 23 = nI i → KP hc v → PM hc v → (∀ p, j ≤ p → p < m → hc 60 0 p = nI (c / W ^ (m - 1 - p) % W)) → fx_E (fx_Ga (d + 6)) fx_M223 (84, [some mO, some (vi (nI i)), some (vi (nI m)), some (vi w), some (vi (nI W)), some (vi (rI (rF G c none) 0)), some (vi (rI (rF G c none) 1)), some (vi (rI (rF G c none) 2)), some (vi (nI c)), some (vi (nI (c / W ^ (m - j)))), some (vi (tI j)), l11, l12], [], hp σ hc hlb, 0, 0) (QMP σ hi hl v A) := by
        intro j
        induction j with
        | zero =>
          intro hc _ k1 k3 k4 k5 k6
          have c0 : c / W ^ m = 0 := Nat.div_eq_of_lt cW
          have h2 := steps m 0 hc hlb (some (vi (nI (c / W ^ (m - 0))))) l12 v (by omega) k1 g2 k3 k4 (fun p hp2 => k6 p (by omega) hp2) k5 rfl hs rfl (fun _ _ => rfl) (Nat.le_refl _)
          exact fx_wpL [84, 124] 30 ⟨fun _ => ⟨_, _, m_wasOf k5 i6, h2⟩, fun (z : ¬ tI 0 < 0) => absurd (show tI 0 < 0 by decide) z⟩
        | succ j ihj =>
          intro hc hjm k1 k3 k4 k5 k6
          have cb : c / W ^ (m - (j + 1)) < 2 ^ 31 := Nat.lt_of_le_of_lt (Nat.div_le_self _ _) (by omega)
          have erem : nI (c / W ^ (m - (j + 1))) - nI (c / W ^ (m - (j + 1))) / nI W * nI W = nI (c / W ^ (m - 1 - j) % W) := by
            rw [pk_rem cb W0 (by omega), show m - (j + 1) = m - 1 - j by omega]
          have ediv : nI (c / W ^ (m - (j + 1))) / nI W = nI (c / W ^ (m - j)) := by
            rw [pk_div cb W0 (by omega), dv c j (by omega)]
          have Wne : ¬ nI W = 0 := fun z => by
            have := (nI_eq (a := W) (b := 0) (by omega) (by decide)).mp z
            omega
          have h2 := ihj (fx_up hc 60 0 j (nI (c / W ^ (m - 1 - j) % W))) (by omega) (k1.tr (FrQ.up hc _ (by unfold scr; omega)).w) k3 k4 k5 (fun p h1 h2 => by
            by_cases e : p = j
            · subst e
              exact up_at _ _ _ _ _
            · rw [up_off _ _ (by omega)]
              exact k6 p (by omega) h2)
          rw [← ediv, ← tI_m, ← erem] at h2
          conv at h2 => rw [show fx_up hc 60 0 j = fx_up hc 60 0 (nI j).toNatClampNeg by rw [nI_clamp (show j < 2 ^ 31 by omega)]]
          refine fx_wpL [84] 40 ⟨fun (z : nI j < 0) => absurd z (nI_pos (by omega)), fun _ => ⟨Wne, ni_in (n := j) (m := 4) (by omega) (by decide), Wne, h2⟩⟩
      have h3 := digits m hb (Nat.le_refl _) g1 g23 hkb hvb (fun p h1 h2 => by omega)
      rw [Nat.sub_self, Nat.pow_zero, Nat.div_one, ← nI_m1] at h3
      exact fx_wpL [64, 84] 40 ⟨_, _, m_power (by omega), pk_le (W ^ m) c (fun hc => by omega) (fun _ => h3)⟩
  have h9 := loop (W ^ m) 0 (fx_up (fx_all hi 63 0 g) 11 0 23 (nI i)) hl none none none none (by omega) (fun k j s h1 h2 => by
    rw [up_off _ _ h2]
    exact f1 k j s h1) (FlQ.rf hl) (up_at _ _ _ _ _) hk hv (fun q hq => by cases hq)
  rw [← hW, ← nI_1] at h9
  exact h9
end MW
