/-! the class: trying -/
def scx (k j s : Nat) : Prop := (k = 1 ∨ 21 ≤ k ∧ k ≤ 24) ∧ (23 ≤ j ∧ j ≤ 28) ∨ k = 38 ∨ 40 ≤ k ∧ k ≤ 44 ∨ k = 4 ∨ k = 8 ∧ s = 4
def FrY (hi hi' : fxI3) : Prop := ∀ k j s, ¬ scx k j s → hi' k j s = hi k j s
def FlY (hl hl' : fxL3) : Prop := ∀ k j s, k ≠ 36 → k ≠ 37 → ¬ (k = 1 ∧ (23 ≤ j ∧ j ≤ 28)) → hl' k j s = hl k j s
theorem FrY.rf (hi : fxI3) : FrY hi hi := fun _ _ _ _ => rfl
theorem FlY.rf (hl : fxL3) : FlY hl hl := fun _ _ _ _ _ _ => rfl
theorem FrY.tr {a b c : fxI3} (h : FrY a b) (g : FrY b c) : FrY a c := fun k j s h1 => (g k j s h1).trans (h k j s h1)
theorem FlY.tr {a b c : fxL3} (h : FlY a b) (g : FlY b c) : FlY a c := fun k j s h1 h2 h3 => (g k j s h1 h2 h3).trans (h k j s h1 h2 h3)
theorem FrX.y {j : Nat} {a b : fxI3} (h : FrX j a b) (hj : 23 ≤ j ∧ j ≤ 28) : FrY a b := fun k j' s h1 => h k j' s (fun z => h1 (by unfold scx; omega)) (fun z => h1 (by unfold scx; omega))
theorem FlX.y {a b : fxL3} (h : FlX a b) : FlY a b := fun k j s h1 h2 _ => h k j s h1 h2
theorem FrY.up (hi : fxI3) {k j s : Nat} (x : Int32) (h : scx k j s) : FrY hi (fx_up hi k j s x) := fun k' j' s' h1 => up_off hi x (fun z => h1 (by rw [z.1, z.2.1, z.2.2]; exact h))
theorem FlY.up (hl : fxL3) {j s : Nat} (x : Int64) (h : 23 ≤ j ∧ j ≤ 28) : FlY hl (fx_up hl 1 j s x) := fun k' j' s' _ _ h1 => up_off hl x (fun z => h1 ⟨z.1, by rw [z.2.1]; exact h⟩)
def QXP (σ : fxS) (hi : fxI3) (hl : fxL3) (ans : Int32) : Option fxV → fxH → Prop := fun r2 h2 => r2 = some (vi ans) ∧ ∃ hi' hl', h2 = hp σ hi' hl' ∧ FrY hi hi' ∧ FlY hl hl'
/-- a question of the class -/
def QX (D y : Nat) (av : List fxV) (σ : fxS) (hi : fxI3) (hl : fxL3) (ans : Int32) : Prop := ∃ hi' hl', fx_Ga D y av (hp σ hi hl) (some (vi ans)) (hp σ hi' hl') ∧ FrY hi hi' ∧ FlY hl hl'
theorem QX_of {d y : Nat} {av : List fxV} {σ : fxS} {hi : fxI3} {hl : fxL3} {ans : Int32} (M : fxM) (lv : fxLv) (hy : y < 255) (hM : (fx_Y y).2.1 = M) (hlv : fx_ent M.1.2.2.1 av = lv) (hll : (fx_sl av).length ≤ M.1.2.2.1) (k : fx_E (fx_Ga d) M (0, lv, [], hp σ hi hl, 0, 0) (QXP σ hi hl ans)) : QX (d + 1) y av σ hi hl ans := by
  obtain ⟨r, h', hg, e1, hi', hl', e2, e3⟩ := fx_methX M lv hy hM hlv hll k
  subst e1
  subst e2
  exact ⟨hi', hl', hg, e3⟩
theorem PX.fr {hi hi' : fxI3} {hl hl' : fxL3} {j : Nat} {v : Nat → Nat} (h : PX hi hl j v) (h1 : ∀ s, hi' 1 j s = hi 1 j s) (h2 : ∀ k s, 21 ≤ k ∧ k ≤ 24 → hi' k j s = hi k j s) (h3 : hl' 1 j 6 = hl 1 j 6) : PX hi' hl' j v := by
  obtain ⟨p1, p2, p3, p4, p5, p6, p7, p8⟩ := h
  refine ⟨(h1 _).trans p1, (h1 _).trans p2, (h1 _).trans p3, (h1 _).trans p4, (h1 _).trans p5, (h1 _).trans p6, h3.trans p7, fun i hi4 => ?_⟩
  obtain ⟨a1, a2, a3, a4⟩ := p8 i hi4
  exact ⟨(h2 21 _ (by decide)).trans a1, (h2 22 _ (by decide)).trans a2, (h2 23 _ (by decide)).trans a3, (h2 24 _ (by decide)).trans a4⟩
theorem PX.y {hi hi' : fxI3} {hl hl' : fxL3} {j : Nat} {v : Nat → Nat} (h : PX hi hl j v) (hj : ¬ (23 ≤ j ∧ j ≤ 28)) (f1 : FrY hi hi') (f2 : FlY hl hl') : PX hi' hl' j v :=
  h.fr (fun s => f1 1 j s (by unfold scx; omega)) (fun k s hk => f1 k j s (by unfold scx; omega)) (f2 1 j 6 (by decide) (by decide) (by omega))
/-- where the class stands: now, the rule in force, nobody's row -/
def NX (σ : fxS) (hi : fxI3) (hl : fxL3) (v : Nat → Nat) (f : Option Nat) (rl : Option fxRl) : Prop := PX hi hl 2 v ∧ GV v ∧ SB v ∧ hi 9 0 3 = oI f ∧ hi 10 0 5 = nI σ.2.1 ∧ σ.2.1 ≤ 6 ∧ (∀ t, f = some t → t < σ.2.1) ∧ TX σ hi f rl ∧ hi 8 0 3 = -1
theorem NX.fr {σ : fxS} {hi hi' : fxI3} {hl hl' : fxL3} {v : Nat → Nat} {f : Option Nat} {rl : Option fxRl} (h : NX σ hi hl v f rl) (f1 : FrY hi hi') (f2 : FlY hl hl') : NX σ hi' hl' v f rl := by
  obtain ⟨n1, n2, n3, n4, n5, n6, n7, n8, n9⟩ := h
  exact ⟨n1.y (by omega) f1 f2, n2, n3, (f1 9 0 3 (by unfold scx; omega)).trans n4, (f1 10 0 5 (by unfold scx; omega)).trans n5, n6, n7, TX_fr (fun t s => f1 45 t s (by unfold scx; omega)) (fun t => f1 5 t 1 (by unfold scx; omega)) n8, (f1 8 0 3 (by unfold scx; omega)).trans n9⟩
theorem vG_tg {v : Nat → Nat} (h : GV v) {f : Nat} (hf : f < 60) : vG (vTg v f) = vG v ^^^ 2 ^ f := by
  have h1 := h.1
  have h2 := h.2.1
  unfold vG vTg
  apply Nat.eq_of_testBit_eq
  intro i
  rw [Nat.testBit_xor, Nat.add_comm, Nat.add_comm (v 36)]
  rcases (show f / 30 = 0 ∨ f / 30 = 1 by omega) with e | e
  · rw [e, vup_eq, vup_ne (show 37 ≠ 36 + 0 by decide), show f % 30 = f by omega]
    have hf30 : f < 30 := by omega
    have hb : v (36 + 0) ^^^ 2 ^ f < 2 ^ 30 := Nat.xor_lt_two_pow h1 (Nat.pow_lt_pow_right (by decide) hf30)
    rw [Nat.testBit_two_pow_mul_add _ hb, Nat.testBit_two_pow_mul_add _ h1, Nat.testBit_two_pow]
    split
    · rw [Nat.testBit_xor, Nat.testBit_two_pow]
    · rw [decide_eq_false (by omega), Bool.xor_false]
  · rw [e, vup_ne (show 36 ≠ 36 + 1 by decide), vup_eq]
    rw [Nat.testBit_two_pow_mul_add _ h1, Nat.testBit_two_pow_mul_add _ h1, Nat.testBit_two_pow]
    split
    · rw [decide_eq_false (by omega), Bool.xor_false]
    · rw [Nat.testBit_xor, Nat.testBit_two_pow]
      congr 1
      rw [decide_eq_decide]
      omega
theorem vTg_gate {v : Nat → Nat} {f g : Nat} (hg : g < 60) (hf : f < 60) : vGate (vTg v f) g = (vGate v g ^^ decide (f = g)) := by
  unfold vGate vTg
  by_cases e : g / 30 = f / 30
  · rw [e, vup_eq, Nat.testBit_xor, Nat.testBit_two_pow]
    congr 1
    rw [decide_eq_decide]
    omega
  · rw [vup_ne (by omega), decide_eq_false (by omega), Bool.xor_false]
theorem GV.tg {v : Nat → Nat} (h : GV v) {f : Nat} (hf : f < v 1) (h1 : v 1 ≤ 60) : GV (vTg v f) := by
  have hb : ∀ a, a < 2 ^ 30 → a ^^^ 2 ^ (f % 30) < 2 ^ 30 := fun a ha => Nat.xor_lt_two_pow ha (Nat.pow_lt_pow_right (by decide) (Nat.mod_lt _ (by decide)))
  have e1 : vTg v f 1 = v 1 := by
    unfold vTg
    exact vup_ne (by omega)
  refine ⟨?_, ?_, fun g hg hb => ?_⟩
  · unfold vTg vup
    split
    · rename_i e
      rw [← e]
      exact hb _ h.1
    · exact h.1
  · unfold vTg vup
    split
    · rename_i e
      rw [← e]
      exact hb _ h.2.1
    · exact h.2.1
  · rw [e1]
    rw [vTg_gate hg (by omega)] at hb
    by_cases e : f = g
    · omega
    · rw [decide_eq_false e, Bool.xor_false] at hb
      exact h.2.2 g hg hb
theorem SB.tg {v : Nat → Nat} (h : SB v) {f : Nat} (hf : f < 60) : SB (vTg v f) := by
  have e : ∀ x, x < 36 → vTg v f x = v x := fun x hx => by
    unfold vTg
    exact vup_ne (by omega)
  obtain ⟨s4, s1, s2, s3, s11, si⟩ := h
  refine ⟨by rw [e 4 (by decide)]; exact s4, by rw [e 1 (by decide)]; exact s1, by rw [e 2 (by decide)]; exact s2, by rw [e 3 (by decide)]; exact s3, by rw [e 11 (by decide), e 10 (by decide)]; exact s11, fun i h6 => ?_⟩
  rw [e (12 + 4 * i) (by omega), e (13 + 4 * i) (by omega), e (14 + 4 * i) (by omega), e (15 + 4 * i) (by omega), e 11 (by decide), e 10 (by decide)]
  exact si i h6
theorem SB.pace {v : Nat → Nat} (h : SB v) {i p : Nat} (hp : p ≤ 9) : SB (vup v (13 + 4 * i) p) := by
  obtain ⟨s4, s1, s2, s3, s11, si⟩ := h
  refine ⟨by rw [vup_ne (by omega)]; exact s4, by rw [vup_ne (by omega)]; exact s1, by rw [vup_ne (by omega)]; exact s2, by rw [vup_ne (by omega)]; exact s3, by rw [vup_ne (by omega), vup_ne (by omega)]; exact s11, fun i' h6 => ?_⟩
  rw [vup_ne (show 12 + 4 * i' ≠ 13 + 4 * i by omega), vup_ne (show 14 + 4 * i' ≠ 13 + 4 * i by omega), vup_ne (show 15 + 4 * i' ≠ 13 + 4 * i by omega), vup_ne (show 11 ≠ 13 + 4 * i by omega), vup_ne (show 10 ≠ 13 + 4 * i by omega)]
  obtain ⟨q1, q2, q3, q4⟩ := si i' h6
  refine ⟨q1, ?_, q3, q4⟩
  unfold vup
  split
  · exact hp
  · exact q2
theorem GV.pace {v : Nat → Nat} (h : GV v) {i p : Nat} (h6 : i < 6) : GV (vup v (13 + 4 * i) p) := GV_of h (vup_ne (by omega)) (vup_ne (by omega)) (vup_ne (by omega))
section XK
variable {d : Nat} {σ : fxS} {hi : fxI3} {hl : fxL3} {v : Nat → Nat}
theorem x_within {h : fxH} (a b c : Int32) : fx_Ga (d + 1) 95 [vi a, vi b, vi c] h (some (vi (b01 (decide (b ≤ a ∧ a ≤ c))))) h := by
  refine fx_meth fx_M95 [some (vi a), some (vi b), some (vi c)] (by decide) rfl rfl (Nat.le_of_ble_eq_true rfl) (fx_wpE [] 30 ?_)
  refine ⟨fun (hc : a < b) => ⟨Or.inl rfl, ?_, rfl⟩, fun (hc : ¬ a < b) => ⟨fun (hc2 : c < a) => ⟨Or.inl rfl, ?_, rfl⟩, fun (hc2 : ¬ c < a) => ⟨Or.inr rfl, ?_, rfl⟩⟩⟩
  · rw [decide_eq_false (fun z => absurd z.1 (Int32.not_le.mpr hc))]
    rfl
  · rw [decide_eq_false (fun z => absurd z.2 (Int32.not_le.mpr hc2))]
    rfl
  · rw [decide_eq_true ⟨Int32.not_lt.mp hc, Int32.not_lt.mp hc2⟩]
    rfl
theorem x_isHunted (hv : PX hi hl 2 v) (h1 : v 1 ≤ 60) : fx_Ga (d + 1) 94 [xO] (hp σ hi hl) (some (vi (b01 (decide (0 < v 1))))) (hp σ hi hl) := by
  refine fx_meth fx_M94 [some xO] (by decide) rfl rfl (Nat.le_of_ble_eq_true rfl) (fx_wpE [] 30 ?_)
  refine pk_le (v 1) 0 (fun h0 => ⟨Or.inl rfl, ?_, rfl⟩) (fun h0 => ⟨Or.inr rfl, ?_, rfl⟩) hv.1
  · rw [decide_eq_false (by omega)]
    rfl
  · rw [decide_eq_true h0]
    rfl
theorem x_copyFrom {a b : Nat} (hab : a ≠ b) (hv : PX hi hl b v) (h4 : v 4 ≤ 6) : ∃ hi' hl', fx_Ga (d + 1) 7 [cO a, cO b] (hp σ hi hl) none (hp σ hi' hl') ∧ (∀ k j s, ¬ ((k = 1 ∨ 21 ≤ k ∧ k ≤ 24) ∧ j = a) → hi' k j s = hi k j s) ∧ (∀ k j s, ¬ (k = 1 ∧ j = a) → hl' k j s = hl k j s) ∧ PX hi' hl' a v := by
  have ne : ∀ (f : fxI3) (k s : Nat) (x : Int32) (k' s' : Nat), fx_up f k a s x k' b s' = f k' b s' := fun f k s x k' s' => up_off f x (fun z => hab z.2.1.symm)
  let Post : Option fxV → fxH → Prop := fun r2 h2 => r2 = none ∧ ∃ hi' hl', h2 = hp σ hi' hl' ∧ (∀ k j s, ¬ ((k = 1 ∨ 21 ≤ k ∧ k ≤ 24) ∧ j = a) → hi' k j s = hi k j s) ∧ (∀ k j s, ¬ (k = 1 ∧ j = a) → hl' k j s = hl k j s) ∧ PX hi' hl' a v
  have loop : ∀ k i (hb : fxI3) (hlb : fxL3), i + k = 6 → (∀ k j s, ¬ ((k = 1 ∨ 21 ≤ k ∧ k ≤ 24) ∧ j = a) → hb k j s = hi k j s) → (∀ k j s, ¬ (k = 1 ∧ j = a) → hlb k j s = hl k j s) → hlb 1 a 6 = hl 1 b 6 → (∀ s, s < 6 → hb 1 a s = hi 1 b s) → (∀ k c, 21 ≤ k ∧ k ≤ 24 → c < i → hb k a c = hi k b c) → fx_E (fx_Ga d) fx_M7 (58, [some (cO a), some (cO b), some (vi (nI i))], [], hp σ hb hlb, 0, 0) Post := by
    intro k
    induction k with
    | zero =>
      intro i hb hlb hk f1 f2 f3 f4 f5
      have : i = 6 := by omega
      subst this
      refine fx_wpL [58] 30 (pk_le 6 6 (fun _ => ⟨rfl, hb, hlb, rfl, f1, f2, ?_⟩) (fun hc => by omega))
      obtain ⟨p1, p2, p3, p4, p5, p6, p7, p8⟩ := hv
      refine ⟨(f4 0 (by decide)).trans p1, (f4 1 (by decide)).trans p2, (f4 2 (by decide)).trans p3, (f4 3 (by decide)).trans p4, (f4 4 (by decide)).trans p5, (f4 5 (by decide)).trans p6, f3.trans p7, fun i hi4 => ?_⟩
      obtain ⟨a1, a2, a3, a4⟩ := p8 i hi4
      exact ⟨(f5 21 i (by decide) (by omega)).trans a1, (f5 22 i (by decide) (by omega)).trans a2, (f5 23 i (by decide) (by omega)).trans a3, (f5 24 i (by decide) (by omega)).trans a4⟩
    | succ k ih =>
      intro i hb hlb hk f1 f2 f3 f4 f5
      have c : (nI i).toNatClampNeg = i := nI_clamp (by omega)
      have b6 := ni_in (n := i) (m := 6) (by omega) (by decide)
      refine fx_wpL [58] 60 (pk_le 6 i (fun hc => by omega) (fun _ => ?_))
      refine ⟨b6, b6, b6, b6, b6, b6, b6, b6, ?_⟩
      have eb : ∀ k, 21 ≤ k ∧ k ≤ 24 → hb k b i = hi k b i := fun k hk => f1 k b i (fun z => hab z.2.symm)
      have h2 := ih (i + 1) (fx_up (fx_up (fx_up (fx_up hb 21 a i (hi 21 b i)) 22 a i (hi 22 b i)) 23 a i (hi 23 b i)) 24 a i (hi 24 b i)) hlb (by omega) (fun k j s h => by
        rw [up_off _ _ (by omega), up_off _ _ (by omega), up_off _ _ (by omega), up_off _ _ (by omega)]
        exact f1 k j s h) f2 f3 (fun s hs => by
        rw [up_off _ _ (by omega), up_off _ _ (by omega), up_off _ _ (by omega), up_off _ _ (by omega)]
        exact f4 s hs) (fun k c hk hc => by
        by_cases e : c = i
        · subst e
          rcases (show k = 21 ∨ k = 22 ∨ k = 23 ∨ k = 24 by omega) with rfl | rfl | rfl | rfl
          · rw [up_off _ _ (by omega), up_off _ _ (by omega), up_off _ _ (by omega), up_at]
          · rw [up_off _ _ (by omega), up_off _ _ (by omega), up_at]
          · rw [up_off _ _ (by omega), up_at]
          · rw [up_at]
        · rw [up_off _ _ (by omega), up_off _ _ (by omega), up_off _ _ (by omega), up_off _ _ (by omega)]
          exact f5 k c hk (by omega))
      rw [← nI_1] at h2
      show fx_E _ _ (58, _, [], hp σ (fx_up (fx_up (fx_up (fx_up hb 21 a (nI i).toNatClampNeg (hb 21 b (nI i).toNatClampNeg)) 22 a (nI i).toNatClampNeg (hb 22 b (nI i).toNatClampNeg)) 23 a (nI i).toNatClampNeg (hb 23 b (nI i).toNatClampNeg)) 24 a (nI i).toNatClampNeg (hb 24 b (nI i).toNatClampNeg)) hlb, 0, 0) _
      rw [c, eb 21 (by decide), eb 22 (by decide), eb 23 (by decide), eb 24 (by decide)]
      exact h2
  obtain ⟨r, h', hg, e1, hi', hl', e2, e3⟩ := fx_methX (d := d) (y := 7) (av := [cO a, cO b]) (h := hp σ hi hl) (P := Post) fx_M7 [some (cO a), some (cO b), none] (by decide) rfl rfl (Nat.le_of_ble_eq_true rfl) (fx_wpE [58] 60 (by
    refine loop 6 0 _ _ rfl ?_ ?_ ?_ ?_ (fun k c hk hc => by omega)
    · intro k j s h
      simp only [hp, fx_wi, fx_wl]
      rw [up_off _ _ (by omega), up_off _ _ (by omega), up_off _ _ (by omega), up_off _ _ (by omega), up_off _ _ (by omega), up_off _ _ (by omega)]
    · intro k j s h
      simp only [hp, fx_wi, fx_wl]
      rw [up_off _ _ (by omega)]
    · simp only [hp, fx_wi, fx_wl]
      rw [up_at]
    · intro s hs
      simp only [hp, fx_wi, fx_wl, ne]
      rcases (show s = 0 ∨ s = 1 ∨ s = 2 ∨ s = 3 ∨ s = 4 ∨ s = 5 by omega) with rfl | rfl | rfl | rfl | rfl | rfl
      · rw [up_off _ _ (by omega), up_off _ _ (by omega), up_off _ _ (by omega), up_off _ _ (by omega), up_off _ _ (by omega), up_at]
      · rw [up_off _ _ (by omega), up_off _ _ (by omega), up_off _ _ (by omega), up_off _ _ (by omega), up_at]
      · rw [up_off _ _ (by omega), up_off _ _ (by omega), up_off _ _ (by omega), up_at]
      · rw [up_off _ _ (by omega), up_off _ _ (by omega), up_at]
      · rw [up_off _ _ (by omega), up_at]
      · rw [up_at]))
  subst e1
  subst e2
  exact ⟨hi', hl', hg, e3⟩
/-- the trial as now -/
theorem x_tryFromNow (hv : PX hi hl 2 v) (h4 : v 4 ≤ 6) : ∃ hi' hl', fx_Ga (d + 2) 105 [xO] (hp σ hi hl) none (hp σ hi' hl') ∧ FrY hi hi' ∧ FlY hl hl' ∧ PX hi' hl' 23 v := by
  obtain ⟨hi', hl', hg, f1, f2, hp'⟩ := x_copyFrom (d := d) (σ := σ) (a := 23) (b := 2) (by decide) hv h4
  refine ⟨hi', hl', fx_meth fx_M105 [some xO] (by decide) rfl rfl (Nat.le_of_ble_eq_true rfl) (fx_wpE [] 30 ⟨_, _, hg, rfl, rfl⟩), fun k j s h => f1 k j s (fun z => h (by unfold scx; omega)), fun k j s _ _ h => f2 k j s (fun z => h (by omega)), hp'⟩
theorem ofI_lt (n : Nat) (hn : n ≤ 6) (r : Int32) : (0 ≤ r ∧ r ≤ nI n - 1) ↔ (0 ≤ r ∧ r < nI n) := by
  have e : (nI n - 1 : Int32).toInt = (n : Int) - 1 := by
    rcases (show n = 0 ∨ n = 1 ∨ n = 2 ∨ n = 3 ∨ n = 4 ∨ n = 5 ∨ n = 6 by omega) with rfl | rfl | rfl | rfl | rfl | rfl | rfl <;> decide
  simp only [Int32.le_iff_toInt_le, Int32.lt_iff_toInt_lt, e, nI_toInt (show n < 2 ^ 31 by omega)]
  omega
theorem x_ruleOf {f : Option Nat} (h5 : hi 10 0 5 = nI σ.2.1) (h6 : σ.2.1 ≤ 6) (hf : ∀ t, f = some t → t < σ.2.1) : fx_Ga (d + 2) 93 [xO, vi (oI f)] (hp σ hi hl) (some (rR f)) (hp σ hi hl) := by
  refine fx_meth fx_M93 [some xO, some (vi (oI f))] (by decide) rfl rfl (Nat.le_of_ble_eq_true rfl) (fx_wpE [] 30 ?_)
  refine ⟨_, _, x_within (oI f) 0 (hi 10 0 5 - 1), ?_⟩
  rw [h5]
  cases f with
  | none => exact ⟨fun _ => ⟨rfl, rfl⟩, fun (z : ¬ b01 (decide (0 ≤ oI none ∧ oI none ≤ nI σ.2.1 - 1)) = 0) => absurd (by rw [decide_eq_false (fun q => absurd q.1 (by decide))]; rfl) z⟩
  | some t =>
    have ht := hf t rfl
    refine ⟨fun (z : b01 (decide (0 ≤ nI t ∧ nI t ≤ nI σ.2.1 - 1)) = 0) => absurd z (by rw [decide_eq_true ((ofI_lt σ.2.1 h6 _).mpr ⟨nI_pos' (by omega), nI_lt ht (by omega)⟩)]; decide), fun _ => ?_⟩
    refine ⟨ni_in (n := t) (m := 6) (by omega) (by decide), ?_, rfl⟩
    show some (Sum.inr (Sum.inr (bif Nat.blt (nI t).toNatClampNeg σ.2.1 then some (5, (nI t).toNatClampNeg) else none))) = some (rR (some t))
    rw [nI_clamp (by omega), show Nat.blt t σ.2.1 = true from Nat.ble_eq_true_of_le ht]
    rfl
theorem x_tryStep {u : Nat → Nat} {f : Option Nat} {rl : Option fxRl} (hn : NX σ hi hl u f rl) (hv : PX hi hl 23 v) (hs : SB v) (hg : GV v) (h10 : v 10 ≤ 9999) :
    ∃ hi' hl', fx_Ga (d + 6) 106 [xO] (hp σ hi hl) (some (vi (oI (vStep v rl none).2))) (hp σ hi' hl') ∧ FrY hi hi' ∧ FlY hl hl' ∧ PX hi' hl' 23 (vStep v rl none).1 := by
  obtain ⟨n1, n2, n3, n4, n5, n6, n7, n8, n9⟩ := hn
  obtain ⟨hi', hl', hgt, f1, f2, hv'⟩ := x_take (d := d) (σ := σ) (j := 23) (row := none) hv (hs.sv h10) hg (by have := hs.2.2.2.2.1; omega) n9 n8
  have hro := x_ruleOf (d := d + 3) (σ := σ) (hi := hi) (hl := hl) (f := f) n5 n6 n7
  rw [← n4] at hro
  exact ⟨hi', hl', fx_meth fx_M106 [some xO] (by decide) rfl rfl (Nat.le_of_ble_eq_true rfl) (fx_wpE [] 30 ⟨_, _, hro, _, _, hgt, rfl, rfl⟩), f1.y (by omega), f2.y, hv'⟩
theorem wb_sh1 : ∀ f, f < 60 → (1 : Int64) <<< ((nI f).toInt64 &&& 63) = lN (2 ^ f) := by decide +kernel
end XK
