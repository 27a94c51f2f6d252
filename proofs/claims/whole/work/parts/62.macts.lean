/-! acts, and what can be undone: the reference -/
abbrev fxU : Type := Nat → Nat → Nat
def kUs (m : Nat) (us : fxU) (v : Nat → Nat) : fxU := fun i => if m = 20 then (if i = 19 then v else us (i + 1)) else (if i = m then v else us i)
def UM (hi : fxI3) (m : Nat) (us : fxU) : Prop := m ≤ 20 ∧ hi 11 0 28 = nI m ∧ ∀ i k, i < m → k < 28 → hi 62 0 (28 * i + k) = nI (us i (10 + k)) ∧ us i (10 + k) < 2 ^ 30
def FrA (hi hi' : fxI3) : Prop := ∀ k j s, ¬ scr k s → k ≠ 62 → ¬ (k = 11 ∧ s = 28) → hi' k j s = hi k j s
theorem FrA.rf (hi : fxI3) : FrA hi hi := fun _ _ _ _ _ _ => rfl
theorem FrA.tr {a b c : fxI3} (h : FrA a b) (g : FrA b c) : FrA a c := fun k j s h1 h2 h3 => (g k j s h1 h2 h3).trans (h k j s h1 h2 h3)
theorem FrQ.a {a b : fxI3} (h : FrQ a b) : FrA a b := fun k j s h1 _ _ => h k j s h1
theorem FrA.up (hi : fxI3) {k j s : Nat} (x : Int32) (h : scr k s ∨ k = 62 ∨ k = 11 ∧ s = 28) : FrA hi (fx_up hi k j s x) := fun k' j' s' h1 h2 h3 => up_off hi x (fun z => by
  obtain ⟨z1, _, z3⟩ := z
  subst z1; subst z3
  rcases h with h | h | h
  · exact h1 h
  · exact h2 h
  · exact h3 h)
theorem FrA.all (hi : fxI3) {k j : Nat} (g : Nat → Int32) (h : (∀ s, scr k s) ∨ k = 62) : FrA hi (fx_all hi k j g) := fun k' j' s' h1 h2 _ => congrFun (fx_all_ne hi g (a := k') (b := j') (fun z => by
  obtain ⟨z1, _⟩ := z
  subst z1
  rcases h with h | h
  · exact h1 (h _)
  · exact h2 h)) s'
theorem UM.fr {hi hi' : fxI3} {m : Nat} {us : fxU} (h : UM hi m us) (f : FrQ hi hi') : UM hi' m us := ⟨h.1, (f 11 0 28 (by unfold scr; omega)).trans h.2.1, fun i k h1 h2 => ⟨(f 62 0 _ (by unfold scr; omega)).trans (h.2.2 i k h1 h2).1, (h.2.2 i k h1 h2).2⟩⟩
theorem FM_a {hi hi' : fxI3} {rl : Option fxRl} (h : FrA hi hi') (g : FM hi rl) : FM hi' rl := by
  cases rl with
  | none => exact (h 11 0 21 (by unfold scr; omega) (by omega) (by omega)).trans g
  | some R =>
    obtain ⟨t, h1, h2, h3⟩ := g
    exact ⟨t, h1, (h 11 0 21 (by unfold scr; omega) (by omega) (by omega)).trans h2, RM_of (fun s => h 51 0 s (by unfold scr; omega) (by omega) (by omega)) (fun s => h 53 0 s (by unfold scr; omega) (by omega) (by omega)) (fun s => h 54 0 s (by unfold scr; omega) (by omega) (by omega)) h3⟩
theorem WN_a {hi hi' : fxI3} (h : FrA hi hi') (g : WM hi none) : WM hi' none := (h 11 0 23 (by unfold scr; omega) (by omega) (by omega)).trans g
def vUn (v u : Nat → Nat) : Nat → Nat := fun x => if 10 ≤ x ∧ x < 38 then u x else v x
def ActMP (σ : fxS) (hi : fxI3) (hl : fxL3) (v : Nat → Nat) (m : Nat) (us : fxU) (ans : Int32) (c : Prop) (v' : Nat → Nat) : Option fxV → fxH → Prop := fun r2 h2 => r2 = some (vi ans) ∧ ∃ hi' hl', h2 = hp σ hi' hl' ∧ FrA hi hi' ∧ FlQ hl hl' ∧ (c → PM hi' v' ∧ UM hi' (min (m + 1) 20) (kUs m us v)) ∧ (¬ c → PM hi' v ∧ UM hi' m us)
/-- an act of the reference -/
def ActM (D y : Nat) (av : List fxV) (σ : fxS) (hi : fxI3) (hl : fxL3) (v : Nat → Nat) (m : Nat) (us : fxU) (ans : Int32) (c : Prop) (v' : Nat → Nat) : Prop := ∃ hi' hl', fx_Ga D y av (hp σ hi hl) (some (vi ans)) (hp σ hi' hl') ∧ FrA hi hi' ∧ FlQ hl hl' ∧ (c → PM hi' v' ∧ UM hi' (min (m + 1) 20) (kUs m us v)) ∧ (¬ c → PM hi' v ∧ UM hi' m us)
theorem ActM_of {d y : Nat} {av : List fxV} {σ : fxS} {hi : fxI3} {hl : fxL3} {v v' : Nat → Nat} {m : Nat} {us : fxU} {ans : Int32} {c : Prop} (M : fxM) (lv : fxLv) (hy : y < 255) (hM : (fx_Y y).2.1 = M) (hlv : fx_ent M.1.2.2.1 av = lv) (hll : (fx_sl av).length ≤ M.1.2.2.1) (k : fx_E (fx_Ga d) M (0, lv, [], hp σ hi hl, 0, 0) (ActMP σ hi hl v m us ans c v')) : ActM (d + 1) y av σ hi hl v m us ans c v' := by
  obtain ⟨r, h', hg, e1, hi', hl', e2, e3⟩ := fx_methX (P := ActMP σ hi hl v m us ans c v') M lv hy hM hlv hll k
  subst e1
  subst e2
  exact ⟨hi', hl', hg, e3⟩
theorem ActM.same {σ : fxS} {hi : fxI3} {hl : fxL3} {v v' : Nat → Nat} {m : Nat} {us : fxU} {ans r : Int32} {c : Prop} (hv : PM hi v) (hu : UM hi m us) (hc : ¬ c) (e : r = ans) : ActMP σ hi hl v m us ans c v' (some (vi r)) (hp σ hi hl) := ⟨by rw [e], hi, hl, rfl, FrA.rf hi, FlQ.rf hl, fun z => absurd z hc, fun _ => ⟨hv, hu⟩⟩
def cSpur (v : Nat → Nat) (r p : Int32) : Prop := isR v r ∧ (1 ≤ p ∧ p ≤ 9) ∧ ¬ nI (v (13 + 4 * r.toNatClampNeg)) = p
def cHold (v : Nat → Nat) (r n : Int32) : Prop := isR v r ∧ vOut v r.toNatClampNeg = false ∧ (1 ≤ n ∧ n ≤ 9) ∧ n ≤ nI (v (12 + 4 * r.toNatClampNeg))
def cDig (v : Nat → Nat) (r : Int32) : Prop := isR v r ∧ vOut v r.toNatClampNeg = true
def cGate (v : Nat → Nat) (f : Int32) : Prop := 0 ≤ f ∧ f < nI (v 1)
def cStep (v : Nat → Nat) : Prop := v 0 = 1 ∧ v 10 < 999
section MA
variable {d : Nat} {σ : fxS} {hi : fxI3} {hl : fxL3} {v : Nat → Nat} {rl : Option fxRl} {m : Nat} {us : fxU}
theorem m_keepsAct (hv : PM hi v) (hu : UM hi m us) : ∃ hi', fx_Ga (d + 1) 208 [mO] (hp σ hi hl) none (hp σ hi' hl) ∧ FrA hi hi' ∧ PM hi' v ∧ UM hi' (min (m + 1) 20) (kUs m us v) := by
  obtain ⟨m20, hm, hus⟩ := hu
  let Post : Option fxV → fxH → Prop := fun r2 h2 => r2 = none ∧ ∃ hi', h2 = hp σ hi' hl ∧ FrA hi hi' ∧ PM hi' v ∧ UM hi' (min (m + 1) 20) (kUs m us v)
  have phase2 : ∀ m0 (hb : fxI3) l1 (us2 : fxU), m0 < 20 → m0 + 1 = min (m + 1) 20 → (∀ i, i < m0 → kUs m us v i = us2 i) → kUs m us v m0 = v → PM hb v → hb 11 0 28 = nI m0 → FrA hi hb → (∀ i k, i < m0 → k < 28 → hb 62 0 (28 * i + k) = nI (us2 i (10 + k)) ∧ us2 i (10 + k) < 2 ^ 30) → fx_E (fx_Ga d) fx_M208 (50, [some mO, l1], [], hp σ hb hl, 0, 0) Post := by
    intro m0 hb l1 us2 h20 hmin hk1 hk2 hvb h28 g1 g2
    have loop : ∀ t k, k + t = 28 → fx_E (fx_Ga d) fx_M208 (52, [some mO, some (vi (nI k))], [], hp σ (fx_all hb 62 0 (fun c => if 28 * m0 ≤ c ∧ c < 28 * m0 + k then nI (v (10 + (c - 28 * m0))) else hb 62 0 c)) hl, 0, 0) Post := by
      intro t
      induction t with
      | zero =>
        intro k hk
        have : k = 28 := by omega
        subst this
        have e1 : hb 11 0 28 + 1 = nI (m0 + 1) := by rw [h28, nI_1]
        refine fx_wpL [52] 30 (pk_le 28 28 (fun _ => ⟨rfl, _, rfl, (g1.tr (FrA.all hb _ (Or.inr rfl))).tr (FrA.up _ _ (Or.inr (Or.inr ⟨rfl, rfl⟩))), hvb, by omega, ?_, fun i k hi2 hk2 => ?_⟩) (fun hc => by omega))
        · rw [← hmin]
          exact e1
        · show (if 28 * m0 ≤ 28 * i + k ∧ 28 * i + k < 28 * m0 + 28 then nI (v (10 + (28 * i + k - 28 * m0))) else hb 62 0 (28 * i + k)) = _ ∧ _
          by_cases e : i = m0
          · subst e
            rw [if_pos (by omega), hk2, show 28 * i + k - 28 * i = k by omega]
            exact ⟨rfl, (hv _ (by omega)).2⟩
          · rw [if_neg (by omega), hk1 i (by omega)]
            exact g2 i k (by omega) hk2
      | succ t ih =>
        intro k hk
        have ix : (28 * hb 11 0 28 + nI k : Int32) = nI (28 * m0 + k) := by
          rw [h28]
          show nI 28 * nI m0 + nI k = _
          rw [pk_mul, nI_add]
        have iy : (10 + nI k : Int32) = nI (10 + k) := nI_add 10 k
        have rd : hb 59 0 (10 + nI k : Int32).toNatClampNeg = nI (v (10 + k)) := hvb.at iy (by omega)
        have h2 := ih (k + 1) (by omega)
        have eh : fx_up (fx_all hb 62 0 (fun c => if 28 * m0 ≤ c ∧ c < 28 * m0 + k then nI (v (10 + (c - 28 * m0))) else hb 62 0 c)) 62 0 (28 * hb 11 0 28 + nI k : Int32).toNatClampNeg (hb 59 0 (10 + nI k : Int32).toNatClampNeg) = fx_all hb 62 0 (fun c => if 28 * m0 ≤ c ∧ c < 28 * m0 + (k + 1) then nI (v (10 + (c - 28 * m0))) else hb 62 0 c) := by
          rw [ni_cl ix (by omega), rd, up_all]
          congr 1
          funext c
          by_cases e : c = 28 * m0 + k
          · rw [if_pos e, if_pos (by omega), show c - 28 * m0 = k by omega]
          · rw [if_neg e]
            by_cases e2 : 28 * m0 ≤ c ∧ c < 28 * m0 + k
            · rw [if_pos e2, if_pos (by omega)]
            · rw [if_neg e2, if_neg (by omega)]
        rw [← eh, ← nI_1] at h2
        exact fx_wpL [52] 40 (pk_le 28 k (fun hc => by omega) (fun _ => ⟨ni_inx (n := 10 + k) (m := 83) iy (by omega) (by decide), ni_inx (n := 28 * m0 + k) (m := 560) ix (by omega) (by decide), h2⟩))
    have h3 := loop 28 0 rfl
    rw [show (fun c => if 28 * m0 ≤ c ∧ c < 28 * m0 + 0 then nI (v (10 + (c - 28 * m0))) else hb 62 0 c) = hb 62 0 by funext c; rw [if_neg (by omega)], all_self] at h3
    exact fx_wpE [52] 9 h3
  have body : fx_E (fx_Ga d) fx_M208 (0, [some mO, none], [], hp σ hi hl, 0, 0) Post := by
    refine fx_wpE [12, 50] 20 (nn_eq m 20 (fun e => ?_) (fun e => ?_) hm)
    · subst e
      have shift : ∀ t k, k + t = 560 → 28 ≤ k → fx_E (fx_Ga d) fx_M208 (12, [some mO, some (vi (nI k))], [], hp σ (fx_all hi 62 0 (fun c => if c + 28 < k then hi 62 0 (c + 28) else hi 62 0 c)) hl, 0, 0) Post := by
        intro t
        induction t with
        | zero =>
          intro k hk _
          have : k = 560 := by omega
          subst this
          have e1 : hi 11 0 28 - 1 = nI 19 := by
            rw [hm]
            exact pk_sub (b := 1) (by decide)
          have h2 := phase2 19 (fx_up (fx_all hi 62 0 (fun c => if c + 28 < 560 then hi 62 0 (c + 28) else hi 62 0 c)) 11 0 28 (hi 11 0 28 - 1)) (some (vi (nI 560))) (fun i => us (i + 1)) (by decide) (by decide) (fun i hi2 => by unfold kUs; rw [if_pos rfl, if_neg (by omega)]) (by unfold kUs; rw [if_pos rfl, if_pos rfl]) hv ((up_at _ _ _ _ _).trans e1) ((FrA.all hi _ (Or.inr rfl)).tr (FrA.up _ _ (Or.inr (Or.inr ⟨rfl, rfl⟩)))) (fun i k hi2 hk2 => by
            show (if 28 * i + k + 28 < 560 then hi 62 0 (28 * i + k + 28) else hi 62 0 (28 * i + k)) = _ ∧ _
            rw [if_pos (by omega), show 28 * i + k + 28 = 28 * (i + 1) + k by omega]
            exact hus (i + 1) k (by omega) hk2)
          exact fx_wpL [12, 50] 30 (pk_le 560 560 (fun _ => h2) (fun hc => by omega))
        | succ t ih =>
          intro k hk h28
          have ix : (nI k - 28 : Int32) = nI (k - 28) := pk_sub (b := 28) h28
          have h2 := ih (k + 1) (by omega) (by omega)
          have eh : fx_up (fx_all hi 62 0 (fun c => if c + 28 < k then hi 62 0 (c + 28) else hi 62 0 c)) 62 0 (nI k - 28 : Int32).toNatClampNeg (fx_all hi 62 0 (fun c => if c + 28 < k then hi 62 0 (c + 28) else hi 62 0 c) 62 0 (nI k).toNatClampNeg) = fx_all hi 62 0 (fun c => if c + 28 < k + 1 then hi 62 0 (c + 28) else hi 62 0 c) := by
            rw [ni_cl ix (by omega), nI_clamp (by omega), all_at, up_all]
            congr 1
            funext c
            by_cases e : c = k - 28
            · rw [if_pos e, if_neg (by omega), if_pos (by omega), show c + 28 = k by omega]
            · rw [if_neg e]
              by_cases e2 : c + 28 < k
              · rw [if_pos e2, if_pos (by omega)]
              · rw [if_neg e2, if_neg (by omega)]
          rw [← eh, ← nI_1] at h2
          exact fx_wpL [12] 40 (pk_le 560 k (fun hc => by omega) (fun _ => ⟨ni_in (n := k) (m := 560) (by omega) (by decide), ni_inx (n := k - 28) (m := 560) ix (by omega) (by decide), h2⟩))
      have h3 := shift 532 28 rfl (Nat.le_refl _)
      rw [show (fun c => if c + 28 < 28 then hi 62 0 (c + 28) else hi 62 0 c) = hi 62 0 by funext c; rw [if_neg (by omega)], all_self] at h3
      exact h3
    · exact phase2 m hi none us (by omega) (by omega) (fun i hi2 => by unfold kUs; rw [if_neg e, if_neg (by omega)]) (by unfold kUs; rw [if_neg e, if_pos rfl]) hv hm (FrA.rf hi) hus
  obtain ⟨r, h', hg', e1, hi', e2, e3⟩ := fx_methX (d := d) (y := 208) (av := [mO]) (h := hp σ hi hl) (P := Post) fx_M208 [some mO, none] (by decide) rfl rfl (Nat.le_of_ble_eq_true rfl) body
  subst e1
  subst e2
  exact ⟨hi', hg', e3⟩
theorem m_undo (hv : PM hi v) (hu : UM hi m us) : ∃ hi', fx_Ga (d + 1) 209 [mO] (hp σ hi hl) (some (vi (if m = 0 then -1 else nI (m - 1)))) (hp σ hi' hl) ∧ FrA hi hi' ∧ PM hi' (if m = 0 then v else vUn v (us (m - 1))) ∧ UM hi' (m - 1) us := by
  obtain ⟨m20, hm, hus⟩ := id hu
  let Post : Option fxV → fxH → Prop := fun r2 h2 => r2 = some (vi (if m = 0 then -1 else nI (m - 1))) ∧ ∃ hi', h2 = hp σ hi' hl ∧ FrA hi hi' ∧ PM hi' (if m = 0 then v else vUn v (us (m - 1))) ∧ UM hi' (m - 1) us
  have body : fx_E (fx_Ga d) fx_M209 (0, [some mO, none], [], hp σ hi hl, 0, 0) Post := by
    refine fx_wpE [21] 20 (nn_eq m 0 (fun e => ?_) (fun e => ?_) hm)
    · subst e
      exact ⟨rfl, hi, rfl, FrA.rf hi, hv, hu⟩
    · have e1 : hi 11 0 28 - 1 = nI (m - 1) := by
        rw [hm]
        exact pk_sub (b := 1) (by omega)
      have loop : ∀ t k, k + t = 28 → fx_E (fx_Ga d) fx_M209 (21, [some mO, some (vi (nI k))], [], hp σ (fx_all (fx_up hi 11 0 28 (hi 11 0 28 - 1)) 59 0 (fun c => if 10 ≤ c ∧ c < 10 + k then nI (us (m - 1) c) else hi 59 0 c)) hl, 0, 0) Post := by
        intro t
        induction t with
        | zero =>
          intro k hk
          have : k = 28 := by omega
          subst this
          refine fx_wpL [21] 30 (pk_le 28 28 (fun _ => ⟨?_, _, rfl, (FrA.up hi _ (Or.inr (Or.inr ⟨rfl, rfl⟩))).tr (FrA.all _ _ (Or.inl (fun s => by unfold scr; omega))), ?_, ?_⟩) (fun hc => by omega))
          · rw [if_neg e, ← e1]
            rfl
          · rw [if_neg e]
            intro i hi2
            show (if 10 ≤ i ∧ i < 10 + 28 then nI (us (m - 1) i) else hi 59 0 i) = nI (if 10 ≤ i ∧ i < 38 then us (m - 1) i else v i) ∧ (if 10 ≤ i ∧ i < 38 then us (m - 1) i else v i) < 2 ^ 30
            by_cases e2 : 10 ≤ i ∧ i < 38
            · rw [if_pos e2, if_pos e2]
              have := (hus (m - 1) (i - 10) (by omega) (by omega)).2
              rw [show 10 + (i - 10) = i by omega] at this
              exact ⟨rfl, this⟩
            · rw [if_neg e2, if_neg e2]
              exact hv i hi2
          · exact ⟨by omega, e1, fun i k h1 h2 => hus i k (by omega) h2⟩
        | succ t ih =>
          intro k hk
          have ix : (28 * (hi 11 0 28 - 1) + nI k : Int32) = nI (28 * (m - 1) + k) := by
            rw [e1]
            show nI 28 * nI (m - 1) + nI k = _
            rw [pk_mul, nI_add]
          have iy : (10 + nI k : Int32) = nI (10 + k) := nI_add 10 k
          have rd : hi 62 0 (28 * (hi 11 0 28 - 1) + nI k : Int32).toNatClampNeg = nI (us (m - 1) (10 + k)) := by
            rw [ni_cl ix (by omega)]
            exact (hus (m - 1) k (by omega) (by omega)).1
          have h2 := ih (k + 1) (by omega)
          have eh : fx_up (fx_all (fx_up hi 11 0 28 (hi 11 0 28 - 1)) 59 0 (fun c => if 10 ≤ c ∧ c < 10 + k then nI (us (m - 1) c) else hi 59 0 c)) 59 0 (10 + nI k : Int32).toNatClampNeg (hi 62 0 (28 * (hi 11 0 28 - 1) + nI k : Int32).toNatClampNeg) = fx_all (fx_up hi 11 0 28 (hi 11 0 28 - 1)) 59 0 (fun c => if 10 ≤ c ∧ c < 10 + (k + 1) then nI (us (m - 1) c) else hi 59 0 c) := by
            rw [ni_cl iy (by omega), rd, up_all]
            congr 1
            funext c
            by_cases e : c = 10 + k
            · rw [if_pos e, if_pos (by omega), e]
            · rw [if_neg e]
              by_cases e2 : 10 ≤ c ∧ c < 10 + k
              · rw [if_pos e2, if_pos (by omega)]
              · rw [if_neg e2, if_neg (by omega)]
          rw [← eh, ← nI_1] at h2
          exact fx_wpL [21] 40 (pk_le 28 k (fun hc => by omega) (fun _ => ⟨ni_inx (n := 28 * (m - 1) + k) (m := 560) ix (by omega) (by decide), ni_inx (n := 10 + k) (m := 83) iy (by omega) (by decide), h2⟩))
      have h3 := loop 28 0 rfl
      rw [show (fun c => if 10 ≤ c ∧ c < 10 + 0 then nI (us (m - 1) c) else hi 59 0 c) = (fx_up hi 11 0 28 (hi 11 0 28 - 1)) 59 0 by funext c; rw [if_neg (by omega)]; rfl, all_self] at h3
      exact h3
  obtain ⟨r, h', hg', e1, hi', e2, e3⟩ := fx_methX (d := d) (y := 209) (av := [mO]) (h := hp σ hi hl) (P := Post) fx_M209 [some mO, none] (by decide) rfl rfl (Nat.le_of_ble_eq_true rfl) body
  subst e1
  subst e2
  exact ⟨hi', hg', e3⟩
theorem m_step (hn : NM hi v rl) (hH : HV v) (hu : UM hi m us) : ActM (d + 7) 210 [mO] σ hi hl v m us (if v 0 = 1 ∧ v 10 < 999 then oI (vStep v rl none).2 else -2) (cStep v) (vStep v rl none).1 := by
  obtain ⟨hv, hs, hf, hr⟩ := hn
  refine ActM_of fx_M210 [some mO] (by decide) rfl rfl (Nat.le_of_ble_eq_true rfl) (fx_wpE [] 40 ?_)
  refine ⟨_, _, m_isHunt hv, bd_if (fun hc => ActM.same hv hu (fun z => hc z.1) (if_neg (fun z => hc z.1)).symm) (fun hc => ?_)⟩
  have h10 := hH.2
  refine ⟨ni_inx (n := 10) (m := 83) rfl (by decide) (by decide), nn_eq (v 10) 999 (fun e => ActM.same hv hu (fun z => by have := z.2; omega) (if_neg (fun z => by omega)).symm) (fun e => ?_) (hv 10 (by decide)).1⟩
  obtain ⟨hi1, hg1, f1, hv1, hu1⟩ := m_keepsAct (d := d + 5) (σ := σ) (hl := hl) hv hu
  obtain ⟨hi2, hl2, hg2, p1, p2, hv2⟩ := m_passes (d := d) (σ := σ) (hl := hl) (rl := rl) (row := none) hv1 (hs.sv (by omega)) (FM_a f1 hf) (WN_a f1 hr)
  refine ⟨_, _, hg1, _, _, hg2, by rw [if_pos (by omega)], hi2, hl2, rfl, f1.tr p1.q.a, p2.q, fun _ => ⟨hv2, hu1.fr p1.q⟩, fun z => absurd ⟨hc, by omega⟩ z⟩
theorem m_spur (hv : PM hi v) (h4 : v 4 ≤ 6) (h9 : ∀ i, i < 6 → v (13 + 4 * i) ≤ 9) (hu : UM hi m us) (r p : Int32) [Decidable (cSpur v r p)] : ActM (d + 2) 211 [mO, vi r, vi p] σ hi hl v m us (if cSpur v r p then nI (v (13 + 4 * r.toNatClampNeg)) else -1) (cSpur v r p) (vup v (13 + 4 * r.toNatClampNeg) p.toNatClampNeg) := by
  refine ActM_of fx_M211 [some mO, some (vi r), some (vi p), none] (by decide) rfl rfl (Nat.le_of_ble_eq_true rfl) (fx_wpE [] 60 ?_)
  refine ⟨_, _, m_isRider hv r, bd_if (fun hc => ActM.same hv hu (fun z => hc z.1) (if_neg (fun z => hc z.1)).symm) (fun hc => ?_)⟩
  refine ⟨_, _, m_inN p 1 9 rfl rfl, bd_if (fun hc2 => ActM.same hv hu (fun z => hc2 z.2.1) (if_neg (fun z => hc2 z.2.1)).symm) (fun hc2 => ?_)⟩
  obtain ⟨i, i4, i6, er, ei⟩ := isR_of hc h4
  obtain ⟨k, _, k9, ep, ek⟩ := rg_of (a := 1) (b := 9) hc2 (by decide) (by decide)
  subst er
  subst ep
  refine ⟨_, _, m_paceOf hv i6, fun (z : ¬ nI (v (13 + 4 * i)) = nI k) => ?_, fun (z : ¬ ¬ nI (v (13 + 4 * i)) = nI k) => ActM.same hv hu (fun y => z (by have := y.2.2; rw [ei] at this; exact this)) (if_neg (fun y => z (by have := y.2.2; rw [ei] at this; exact this))).symm⟩
  have hC : cSpur v (nI i) (nI k) := ⟨hc, hc2, by rw [ei]; exact z⟩
  obtain ⟨hi1, hg1, f1, hv1, hu1⟩ := m_keepsAct (d := d) (σ := σ) (hl := hl) hv hu
  refine ⟨_, _, hg1, _, _, m_paceOf hv1 i6, ni_inx (n := 13 + 4 * i) (m := 83) (ri_1 i) (by omega) (by decide), by rw [if_pos hC, ei], _, hl, rfl, f1.tr (FrA.up hi1 _ (Or.inl (Or.inl rfl))), FlQ.rf hl, fun _ => ⟨?_, hu1⟩, fun y => absurd hC y⟩
  rw [ei, ek]
  show PM (fx_up hi1 59 0 (12 + 4 * nI i + 1 : Int32).toNatClampNeg (nI k)) _
  rw [ni_cl (ri_1 i) (by omega)]
  exact hv1.put (by omega)
theorem m_hold (hv : PM hi v) (h4 : v 4 ≤ 6) (hu : UM hi m us) (r n : Int32) [Decidable (cHold v r n)] : ActM (d + 2) 212 [mO, vi r, vi n] σ hi hl v m us (if cHold v r n then nI (v (12 + 4 * r.toNatClampNeg) - n.toNatClampNeg) else -1) (cHold v r n) (vup v (12 + 4 * r.toNatClampNeg) (v (12 + 4 * r.toNatClampNeg) - n.toNatClampNeg)) := by
  refine ActM_of fx_M212 [some mO, some (vi r), some (vi n)] (by decide) rfl rfl (Nat.le_of_ble_eq_true rfl) (fx_wpE [] 60 ?_)
  refine ⟨_, _, m_isRider hv r, bd_if (fun hc => ActM.same hv hu (fun z => hc z.1) (if_neg (fun z => hc z.1)).symm) (fun hc => ?_)⟩
  obtain ⟨i, i4, i6, er, ei⟩ := isR_of hc h4
  subst er
  refine ⟨_, _, m_isOut hv i6, b01_nf (fun ho => ActM.same hv hu (fun z => by have := z.2.1; rw [ei, ho] at this; cases this) (if_neg (fun z => by have := z.2.1; rw [ei, ho] at this; cases this)).symm) (fun ho => ?_)⟩
  refine ⟨_, _, m_inN n 1 9 rfl rfl, bd_if (fun hc2 => ActM.same hv hu (fun z => hc2 z.2.2.1) (if_neg (fun z => hc2 z.2.2.1)).symm) (fun hc2 => ?_)⟩
  obtain ⟨k, _, k9, ep, ek⟩ := rg_of (a := 1) (b := 9) hc2 (by decide) (by decide)
  subst ep
  have b12 := (hv (12 + 4 * i) (by omega)).2
  have hlt : ¬ k ≤ v (12 + 4 * i) → ¬ nI k ≤ nI (v (12 + 4 * i)) := fun h z => Int32.not_lt.mpr z (nI_lt (by omega) (by omega))
  refine ⟨_, _, m_runOf hv i6, pk_le k (v (12 + 4 * i)) (fun hle => ?_) (fun hgt => ActM.same hv hu (fun y => hlt (by omega) (by have := y.2.2.2; rw [ei] at this; exact this)) (if_neg (fun y => hlt (by omega) (by have := y.2.2.2; rw [ei] at this; exact this))).symm)⟩
  have hC : cHold v (nI i) (nI k) := ⟨hc, by rw [ei]; exact ho, hc2, by rw [ei]; exact Int32.not_lt.mp (fun z => by
    have := pk_lt (x := nI (v (12 + 4 * i))) (y := nI k) (A := False) (B := True) (v (12 + 4 * i)) k (fun h => by omega) (fun _ => trivial)
    exact this.1 z)⟩
  obtain ⟨hi1, hg1, f1, hv1, hu1⟩ := m_keepsAct (d := d) (σ := σ) (hl := hl) hv hu
  have e12 : hi1 59 0 (12 + 4 * nI i : Int32).toNatClampNeg - nI k = nI (v (12 + 4 * i) - k) := by
    rw [hv1.at (ri_0 i) (by omega)]
    exact pk_sub hle
  have hv2 : PM (fx_up hi1 59 0 (12 + 4 * nI i : Int32).toNatClampNeg (hi1 59 0 (12 + 4 * nI i : Int32).toNatClampNeg - nI k)) (vup v (12 + 4 * i) (v (12 + 4 * i) - k)) := by
    rw [e12, ni_cl (ri_0 i) (by omega)]
    exact hv1.put (by omega)
  have bd := ni_inx (n := 12 + 4 * i) (m := 83) (ri_0 i) (by omega) (by decide)
  have hro := m_runOf (d := d) (σ := σ) (hl := hl) hv2 i6
  rw [vup_eq] at hro
  refine ⟨_, _, hg1, bd, bd, _, _, hro, by rw [if_pos hC, ei, ek], _, hl, rfl, f1.tr (FrA.up hi1 _ (Or.inl (Or.inl rfl))), FlQ.rf hl, fun _ => ⟨?_, hu1⟩, fun y => absurd hC y⟩
  rw [ei, ek]
  exact hv2
theorem m_dig (hv : PM hi v) (h4 : v 4 ≤ 6) (hu : UM hi m us) (r : Int32) [Decidable (cDig v r)] : ActM (d + 2) 213 [mO, vi r] σ hi hl v m us (if cDig v r then nI (v (14 + 4 * r.toNatClampNeg)) else -1) (cDig v r) (vup v (14 + 4 * r.toNatClampNeg) 0) := by
  refine ActM_of fx_M213 [some mO, some (vi r), none] (by decide) rfl rfl (Nat.le_of_ble_eq_true rfl) (fx_wpE [] 60 ?_)
  refine ⟨_, _, m_isRider hv r, bd_if (fun hc => ActM.same hv hu (fun z => hc z.1) (if_neg (fun z => hc z.1)).symm) (fun hc => ?_)⟩
  obtain ⟨i, i4, i6, er, ei⟩ := isR_of hc h4
  subst er
  refine ⟨_, _, m_isOut hv i6, b01_nf (fun ho => ?_) (fun ho => ActM.same hv hu (fun z => by have := z.2; rw [ei, ho] at this; cases this) (if_neg (fun z => by have := z.2; rw [ei, ho] at this; cases this)).symm)⟩
  have hC : cDig v (nI i) := ⟨hc, by rw [ei]; exact ho⟩
  obtain ⟨hi1, hg1, f1, hv1, hu1⟩ := m_keepsAct (d := d) (σ := σ) (hl := hl) hv hu
  have bd := ni_inx (n := 14 + 4 * i) (m := 83) (ri_2 i) (by omega) (by decide)
  refine ⟨_, _, hg1, bd, bd, ?_, _, hl, rfl, f1.tr (FrA.up hi1 _ (Or.inl (Or.inl rfl))), FlQ.rf hl, fun _ => ⟨?_, hu1⟩, fun y => absurd hC y⟩
  · rw [if_pos hC, ei]
    exact congrArg (fun z => some (vi z)) (hv1.at (ri_2 i) (by omega))
  · rw [ei]
    show PM (fx_up hi1 59 0 (12 + 4 * nI i + 2 : Int32).toNatClampNeg (nI 0)) _
    rw [ni_cl (ri_2 i) (by omega)]
    exact hv1.put (by decide)
theorem m_gate (hv : PM hi v) (hH : HV v) (h1 : v 1 ≤ 60) (hu : UM hi m us) (f : Int32) [Decidable (cGate v f)] : ActM (d + 3) 215 [mO, vi f] σ hi hl v m us (if cGate v f then b01 (vGate (vTg v f.toNatClampNeg) f.toNatClampNeg) else -1) (cGate v f) (vTg v f.toNatClampNeg) := by
  refine ActM_of fx_M215 [some mO, some (vi f)] (by decide) rfl rfl (Nat.le_of_ble_eq_true rfl) (fx_wpE [] 60 ?_)
  refine ⟨_, _, m_isField hv hH f, bd_nf (fun hc => ?_) (fun hc => ActM.same hv hu hc (if_neg hc).symm)⟩
  have hC : cGate v f := hc
  obtain ⟨k, hk, ek⟩ : ∃ k, k < v 1 ∧ f = nI k := by
    rcases ni_ix f (n := v 1) (by omega) with h | h
    · exact h
    · exact absurd hc h
  subst ek
  have ck : (nI k).toNatClampNeg = k := nI_clamp (by omega)
  obtain ⟨hi1, hg1, f1, hv1, hu1⟩ := m_keepsAct (d := d + 1) (σ := σ) (hl := hl) hv hu
  obtain ⟨hg2, hv2⟩ := m_changesGate (d := d + 1) (σ := σ) (hl := hl) hv1 (f := k) (by omega)
  have hg3 := m_isGate (d := d) (σ := σ) (hl := hl) hv2 (f := k) (by omega)
  refine ⟨_, _, hg1, _, _, hg2, _, _, hg3, ?_⟩
  have fin : ∀ x : Int32, x = b01 (vGate (vTg v k) k) → ActMP σ hi hl v m us (if cGate v (nI k) then b01 (vGate (vTg v (nI k).toNatClampNeg) (nI k).toNatClampNeg) else -1) (cGate v (nI k)) (vTg v (nI k).toNatClampNeg) (some (vi x)) (hp σ (fx_up hi1 59 0 (36 + k / 30) (nI (v (36 + k / 30) ^^^ 2 ^ (k % 30)))) hl) := fun x e => ⟨by rw [if_pos hC, ck, e], _, hl, rfl, f1.tr (FrA.up hi1 _ (Or.inl (Or.inl rfl))), FlQ.rf hl, fun _ => ⟨by rw [ck]; exact hv2, hu1⟩, fun y => absurd hC y⟩
  exact b01_if (fun h => fin 0 (by rw [h]; rfl)) (fun h => fin 1 (by rw [h]; rfl))
end MA
