/-! rests: games of two riders -/
def gI (n : Nat) : Int32 := -(nI n)
theorem gI_5 (n : Nat) : gI n - 5 = gI (n + 5) := by
  unfold gI
  rw [← nI_add, Int32.neg_add]
  rfl
theorem gI_m (h t p : Nat) : 5 * (nI h - nI (h + t)) - nI p = gI (p + 5 * t) := by
  unfold gI
  have e : nI h - nI (h + t) = -(nI t) := by
    rw [← nI_add, Int32.sub_eq_add_neg, Int32.neg_add, Int32.sub_eq_add_neg, ← Int32.add_assoc, Int32.add_right_neg, Int32.zero_add]
  rw [e, Int32.mul_neg, ← Int32.neg_add]
  show -(nI 5 * nI t + nI p) = _
  rw [pk_mul, nI_add, Nat.add_comm]
theorem ile {x y x' y' : Int32} {A B : Prop} (ex : x = x') (ey : y = y') (f : x' ≤ y' → A) (g : ¬ x' ≤ y' → B) : (x ≤ y → A) ∧ (¬ x ≤ y → B) := by
  rw [ex, ey]
  exact ⟨f, g⟩
theorem ilt {x y x' y' : Int32} {A B : Prop} (ex : x = x') (ey : y = y') (f : x' < y' → A) (g : ¬ x' < y' → B) : (x < y → A) ∧ (¬ x < y → B) := by
  rw [ex, ey]
  exact ⟨f, g⟩
theorem ine {x y x' y' : Int32} {A B : Prop} (ex : x = x') (ey : y = y') (f : ¬ x' = y' → A) (g : x' = y' → B) : (¬ x = y → A) ∧ (¬ ¬ x = y → B) := by
  rw [ex, ey]
  exact ⟨f, fun z => g (Classical.not_not.mp z)⟩
def vRs (v : Nat → Nat) (a b i : Nat) : Nat → Nat := vup (vup v (13 + 4 * a) (2 * (i / 5) + 1)) (13 + 4 * b) (2 * (i % 5) + 1)
theorem vRs_ne (v : Nat → Nat) {a b : Nat} (i : Nat) (ha : a < 6) (hb : b < 6) {x : Nat} (hx : x < 12 ∨ 36 ≤ x ∨ x % 4 ≠ 1) : vRs v a b i x = v x := by
  unfold vRs
  rw [vup_ne (by omega), vup_ne (by omega)]
def gOne (rl : Option fxRl) (v : Nat → Nat) (a b n i : Nat) : Int32 := gI (i / 5 + 5 * vTm rl (vRs v a b i) a n)
def gOth (rl : Option fxRl) (v : Nat → Nat) (a b n i : Nat) : Int32 := gI (i % 5 + 5 * vTm rl (vRs v a b i) b n)
def vBad (G1 G2 : Nat → Int32) (a b k : Nat) : Bool := decide (G1 (5 * a + b) < G1 (5 * k + b)) || decide (G2 (5 * a + b) < G2 (5 * a + k))
def vRt (G1 G2 : Nat → Int32) (a b : Nat) : Nat → Nat → Bool
  | 0, _ => true
  | t + 1, k => if vBad G1 G2 a b k then false else vRt G1 G2 a b t (k + 1)
def vRr (G1 G2 : Nat → Int32) (i : Nat) : Bool := vRt G1 G2 (i / 5) (i % 5) 5 0
def vCu (R : Nat → Bool) : Nat → Nat → Nat
  | 0, _ => 0
  | t + 1, i => (if R i then 1 else 0) + vCu R t (i + 1)
theorem vCu_le (R : Nat → Bool) : ∀ t i, vCu R t i ≤ t
  | 0, _ => Nat.le_refl _
  | t + 1, i => by
    have := vCu_le R t (i + 1)
    unfold vCu
    split <;> omega
def rA (w : Int32) (o : Option Nat) : Int32 := match o with
  | none => -2
  | some i => if w = 1 then nI (2 * (i / 5) + 1) else nI (2 * (i % 5) + 1)
def aRests (rl : Option fxRl) (v : Nat → Nat) (a b n w : Int32) : Int32 := if (isR v a ∧ isR v b ∧ ¬ a = b) ∧ (1 ≤ n ∧ n ≤ 20) ∧ (0 ≤ w ∧ w ≤ 2) then (if w = 0 then nI (vCu (vRr (gOne rl v a.toNatClampNeg b.toNatClampNeg n.toNatClampNeg) (gOth rl v a.toNatClampNeg b.toNatClampNeg n.toNatClampNeg)) 25 0) else rA w (vFst (vRr (gOne rl v a.toNatClampNeg b.toNatClampNeg n.toNatClampNeg) (gOth rl v a.toNatClampNeg b.toNatClampNeg n.toNatClampNeg)) 25 0)) else -1
section RS
variable {d : Nat} {σ : fxS} {hi : fxI3} {hl : fxL3} {v : Nat → Nat} {rl : Option fxRl} {f : Option Nat}
theorem x_pop {h : fxH} (n : Nat) : fx_Ga (d + 1) 125 [vi (nI n)] h (some (vi (nI (2 * n + 1)))) h := by
  refine fx_meth fx_M125 [some (vi (nI n))] (by decide) rfl rfl (Nat.le_of_ble_eq_true rfl) (fx_wpE [] 30 ⟨?_, rfl⟩)
  show some (vi (nI 2 * nI n + nI 1)) = _
  rw [pk_mul, nI_add]
theorem x_isRest {G1 G2 : Nat → Int32} (h1 : ∀ i, i < 25 → hi 41 0 i = G1 i ∧ hi 42 0 i = G2 i) {a b : Nat} (ha : a < 5) (hb : b < 5) : fx_Ga (d + 1) 127 [xO, vi (nI a), vi (nI b)] (hp σ hi hl) (some (vi (b01 (vRt G1 G2 a b 5 0)))) (hp σ hi hl) := by
  refine fx_meth fx_M127 [some xO, some (vi (nI a)), some (vi (nI b)), none, none] (by decide) rfl rfl (Nat.le_of_ble_eq_true rfl) ?_
  have ix : ∀ x y : Nat, nI x * 5 + nI y = nI (5 * x + y) := fun x y => by
    show nI x * nI 5 + nI y = _
    rw [pk_mul, nI_add, Nat.mul_comm]
  have eh1 : hi 41 0 (nI a * 5 + nI b : Int32).toNatClampNeg = G1 (5 * a + b) := by rw [ni_cl (ix a b) (by omega)]; exact (h1 _ (by omega)).1
  have eh2 : hi 42 0 (nI a * 5 + nI b : Int32).toNatClampNeg = G2 (5 * a + b) := by rw [ni_cl (ix a b) (by omega)]; exact (h1 _ (by omega)).2
  have bh := ni_inx (n := 5 * a + b) (m := 25) (ix a b) (by omega) (by decide)
  have loop : ∀ t k, k + t = 5 → fx_E (fx_Ga d) fx_M127 (9, [some xO, some (vi (nI a)), some (vi (nI b)), some (vi (nI a * 5 + nI b)), some (vi (nI k))], [], hp σ hi hl, 0, 0) (fun r2 h2 => r2 = some (vi (b01 (vRt G1 G2 a b t k))) ∧ h2 = hp σ hi hl) := by
    intro t
    induction t with
    | zero =>
      intro k hk
      have : k = 5 := by omega
      subst this
      exact fx_wpL [9] 20 (pk_le 5 5 (fun _ => ⟨Or.inr rfl, rfl, rfl⟩) (fun hc => by omega))
    | succ t ih =>
      intro k hk
      have h2 := ih (k + 1) (by omega)
      rw [← nI_1] at h2
      have ek : hi 41 0 (nI k * 5 + nI b : Int32).toNatClampNeg = G1 (5 * k + b) := by rw [ni_cl (ix k b) (by omega)]; exact (h1 _ (by omega)).1
      have ek2 : hi 42 0 (nI a * 5 + nI k : Int32).toNatClampNeg = G2 (5 * a + k) := by rw [ni_cl (ix a k) (by omega)]; exact (h1 _ (by omega)).2
      refine fx_wpL [9] 40 (pk_le 5 k (fun hc => by omega) (fun _ => ?_))
      refine ⟨ni_inx (n := 5 * k + b) (m := 25) (ix k b) (by omega) (by decide), bh, ile ek eh1 (fun hle => ?_) (fun hgt => ⟨Or.inl rfl, ?_, rfl⟩)⟩
      · refine ⟨ni_inx (n := 5 * a + k) (m := 25) (ix a k) (by omega) (by decide), bh, ile ek2 eh2 (fun hle2 => ?_) (fun hgt => ⟨Or.inl rfl, ?_, rfl⟩)⟩
        · rw [vRt, if_neg (by unfold vBad; rw [decide_eq_false (Int32.not_lt.mpr hle), decide_eq_false (Int32.not_lt.mpr hle2)]; decide)]
          exact h2
        · rw [vRt, if_pos (by unfold vBad; rw [decide_eq_true (Int32.not_le.mp hgt), Bool.or_true])]
          rfl
      · rw [vRt, if_pos (by unfold vBad; rw [decide_eq_true (Int32.not_le.mp hgt), Bool.true_or])]
        rfl
  exact fx_wpE [9] 9 (loop 5 0 rfl)
theorem x_tryNow2 (hv : PX hi hl 2 v) (h4 : v 4 ≤ 6) : ∃ hi' hl', fx_Ga (d + 2) 105 [xO] (hp σ hi hl) none (hp σ hi' hl') ∧ FrX 23 hi hi' ∧ FlY hl hl' ∧ PX hi' hl' 23 v := by
  obtain ⟨hi', hl', hg, f1, f2, hp'⟩ := x_copyFrom (d := d) (σ := σ) (a := 23) (b := 2) (by decide) hv h4
  refine ⟨hi', hl', fx_meth fx_M105 [some xO] (by decide) rfl rfl (Nat.le_of_ble_eq_true rfl) (fx_wpE [] 30 ⟨_, _, hg, rfl, rfl⟩), fun k j s _ h => f1 k j s h, fun k j s _ _ h => f2 k j s (fun z => h (by omega)), hp'⟩
theorem x_tryStep2 {u : Nat → Nat} (hn : NX σ hi hl u f rl) (hv : PX hi hl 23 v) (hs : SB v) (hg : GV v) (h10 : v 10 ≤ 9999) :
    ∃ hi' hl', fx_Ga (d + 6) 106 [xO] (hp σ hi hl) (some (vi (oI (vStep v rl none).2))) (hp σ hi' hl') ∧ FrX 23 hi hi' ∧ FlX hl hl' ∧ PX hi' hl' 23 (vStep v rl none).1 := by
  obtain ⟨n1, n2, n3, n4, n5, n6, n7, n8, n9⟩ := hn
  obtain ⟨hi', hl', hgt, f1, f2, hv'⟩ := x_take (d := d) (σ := σ) (j := 23) (row := none) hv (hs.sv h10) hg (by have := hs.2.2.2.2.1; omega) n9 n8
  have hro := x_ruleOf (d := d + 3) (σ := σ) (hi := hi) (hl := hl) (f := f) n5 n6 n7
  rw [← n4] at hro
  exact ⟨hi', hl', fx_meth fx_M106 [some xO] (by decide) rfl rfl (Nat.le_of_ble_eq_true rfl) (fx_wpE [] 30 ⟨_, _, hro, _, _, hgt, rfl, rfl⟩), f1, f2, hv'⟩
theorem x_playAll (hn : NX σ hi hl v f rl) (hH : HV v) {a b n : Nat} (ha : a < v 4) (hb : b < v 4) (hab : a ≠ b) (hn20 : n ≤ 20) : ∃ hi' hl', fx_Ga (d + 7) 126 [xO, vi (nI a), vi (nI b), vi (nI n)] (hp σ hi hl) none (hp σ hi' hl') ∧ FrY hi hi' ∧ FlY hl hl' ∧ ∀ i, i < 25 → hi' 41 0 i = gOne rl v a b n i ∧ hi' 42 0 i = gOth rl v a b n i := by
  obtain ⟨hv, hg, hs, n4, n5, n6, n7, n8, n9⟩ := id hn
  have h10 := hH.2
  have h4 := hs.1
  let Post : Option fxV → fxH → Prop := fun r2 h2 => r2 = none ∧ ∃ hi' hl', h2 = hp σ hi' hl' ∧ FrY hi hi' ∧ FlY hl hl' ∧ ∀ i, i < 25 → hi' 41 0 i = gOne rl v a b n i ∧ hi' 42 0 i = gOth rl v a b n i
  have loop : ∀ t i (hb' : fxI3) (hlb : fxL3) l5 l6 l7 l8, i + t = 25 → FrY hi hb' → FlY hl hlb → (∀ q, q < i → hb' 41 0 q = gOne rl v a b n q ∧ hb' 42 0 q = gOth rl v a b n q) → fx_E (fx_Ga (d + 6)) fx_M126 (3, [some xO, some (vi (nI a)), some (vi (nI b)), some (vi (nI n)), some (vi (nI i)), l5, l6, l7, l8], [], hp σ hb' hlb, 0, 0) Post := by
    intro t
    induction t with
    | zero =>
      intro i hb' hlb l5 l6 l7 l8 hi25 g1 g2 hq
      have : i = 25 := by omega
      subst this
      exact fx_wpL [3] 20 (pk_le 25 25 (fun _ => ⟨rfl, hb', hlb, rfl, g1, g2, hq⟩) (fun hc => by omega))
    | succ t ih =>
      intro i hb' hlb l5 l6 l7 l8 hi25 g1 g2 hq
      have ed : (nI i / 5 : Int32) = nI (i / 5) := pk_div (d := 5) (by omega) (by decide) (by decide)
      have er : (nI i - nI i / 5 * 5 : Int32) = nI (i % 5) := pk_rem (d := 5) (by omega) (by decide) (by decide)
      have hp1 := x_pop (d := d + 5) (h := hp σ hb' hlb) (i / 5)
      have hp2 := x_pop (d := d + 5) (h := hp σ hb' hlb) (i % 5)
      rw [← ed] at hp1
      rw [← er] at hp2
      have bi := ni_in (n := i) (m := 25) (by omega) (by decide)
      have ci : (nI i).toNatClampNeg = i := nI_clamp (by omega)
      have m5 := Nat.mod_lt i (show 0 < 5 by decide)
      have e2 : ∀ x : Nat, x < 5 → (-(nI (2 * x + 1) / 2) : Int32) = gI x := fun x hx => by
        unfold gI
        congr 1
        show nI (2 * x + 1) / nI 2 = _
        rw [pk_div (by omega) (by decide) (by decide)]
        congr 1
        omega
      generalize ehc0 : fx_up (fx_up hb' 41 0 i (gI (i / 5))) 42 0 i (gI (i % 5)) = hc0
      have F0 : FrY hb' hc0 := by rw [← ehc0]; exact (FrY.up hb' _ (by unfold scx; omega)).tr (FrY.up _ _ (by unfold scx; omega))
      have c41 : ∀ q, q < i → hc0 41 0 q = gOne rl v a b n q ∧ hc0 42 0 q = gOth rl v a b n q := fun q hqi => by
        rw [← ehc0, up_off _ _ (by omega), up_off _ _ (by omega), up_off _ _ (by omega), up_off _ _ (by omega)]
        exact hq q hqi
      have c1 : hc0 41 0 i = gI (i / 5) := by rw [← ehc0, up_off _ _ (by omega), up_at]
      have c2 : hc0 42 0 i = gI (i % 5) := by rw [← ehc0, up_at]
      obtain ⟨hi1, hl1, hg1, f1, f2, hv1⟩ := x_tryNow2 (d := d + 4) (σ := σ) (hi := hc0) (hl := hlb) (hv.y (by omega) (g1.tr F0) g2) h4
      have ehc : hp σ hc0 hlb = hp σ (fx_up (fx_up hb' 41 0 (nI i).toNatClampNeg (-(nI (2 * (i / 5) + 1) / 2))) 42 0 (nI i).toNatClampNeg (-(nI (2 * (i % 5) + 1) / 2))) hlb := by rw [ci, e2 _ (by omega), e2 _ m5, ehc0]
      rw [ehc] at hg1
      have hv2 : PX (fx_up (fx_up hi1 22 23 a (nI (2 * (i / 5) + 1))) 22 23 b (nI (2 * (i % 5) + 1))) hl1 23 (vRs v a b i) := (hv1.pace (i := a) (y := 2 * (i / 5) + 1) (by omega)).pace (i := b) (y := 2 * (i % 5) + 1) (by omega)
      have sne := fun {x : Nat} (hx : x < 12 ∨ 36 ≤ x ∨ x % 4 ≠ 1) => vRs_ne v i (show a < 6 by omega) (show b < 6 by omega) hx
      have hsu : SB (vRs v a b i) := (hs.pace (i := a) (p := 2 * (i / 5) + 1) (by omega)).pace (i := b) (p := 2 * (i % 5) + 1) (by omega)
      have hgu : GV (vRs v a b i) := GV_of hg (sne (by omega)) (sne (by omega)) (sne (by omega))
      have u10 : vRs v a b i 10 = v 10 := sne (by omega)
      have u4 : vRs v a b i 4 = v 4 := sne (by omega)
      have F1 : FrX 23 hi1 (fx_up (fx_up hi1 22 23 a (nI (2 * (i / 5) + 1))) 22 23 b (nI (2 * (i % 5) + 1))) := (FrX.up hi1 22 _ _ (Or.inr (by decide))).tr (FrX.up _ 22 _ _ (Or.inr (by decide)))
      have inner : ∀ s j (hc : fxI3) (hlc : fxL3) l8, j + s = n → FrY hi hc → FlY hl hlc → (∀ q, q < i → hc 41 0 q = gOne rl v a b n q ∧ hc 42 0 q = gOth rl v a b n q) → hc 41 0 i = gI (i / 5 + 5 * vTm rl (vRs v a b i) a j) → hc 42 0 i = gI (i % 5 + 5 * vTm rl (vRs v a b i) b j) → PX hc hlc 23 (vIt rl j (vRs v a b i)) → fx_E (fx_Ga (d + 6)) fx_M126 (81, [some xO, some (vi (nI a)), some (vi (nI b)), some (vi (nI n)), some (vi (nI i)), some (vi (nI (2 * (i / 5) + 1))), some (vi (nI (2 * (i % 5) + 1))), some (vi (nI j)), l8], [], hp σ hc hlc, 0, 0) Post := by
        intro s
        induction s with
        | zero =>
          intro j hc hlc l8 hj g3 g4 hq3 q1 q2 hvc
          have : j = n := by omega
          subst this
          refine fx_wpL [3, 81] 20 (pk_le j j (fun _ => ?_) (fun hc => by omega))
          have h2 := ih (i + 1) hc hlc (some (vi (nI (2 * (i / 5) + 1)))) (some (vi (nI (2 * (i % 5) + 1)))) (some (vi (nI j))) l8 (by omega) g3 g4 (fun q hq4 => by
            by_cases e : q = i
            · subst e; exact ⟨q1, q2⟩
            · exact hq3 q (by omega))
          rw [← nI_1 i] at h2
          exact h2
        | succ s ihs =>
          intro j hc hlc l8 hj g3 g4 hq3 q1 q2 hvc
          obtain ⟨hi3, hl3, hg3, p1, p2, hv3⟩ := x_tryStep2 (d := d) (hn.fr g3 g4) hvc (hsu.it rl j) (hgu.it hsu.1 rl j) (by rw [vIt_10]; omega)
          have x41 : ∀ q, hi3 41 0 q = hc 41 0 q := fun q => p1 41 0 q (by decide) (by omega)
          have x42 : ∀ q, hi3 42 0 q = hc 42 0 q := fun q => p1 42 0 q (by decide) (by omega)
          have hwl : ∀ l, vWho rl j (vRs v a b i) = some l → l < 2 ^ 31 := fun l hl0 => by
            have := vWho_lt hl0
            omega
          have G1 := g3.tr (p1.y (by decide))
          have G2 := g4.tr p2.y
          have hv3 : PX hi3 hl3 23 (vIt rl (j + 1) (vRs v a b i)) := hv3
          refine fx_wpL [3, 81] 60 (pk_le n j (fun hc => by omega) (fun _ => ⟨_, _, hg3, ?_⟩))
          by_cases wa : vWho rl j (vRs v a b i) = some a
          · have wb : ¬ vWho rl j (vRs v a b i) = some b := fun z => hab (Option.some.inj (wa.symm.trans z))
            refine ⟨fun (z : ¬ oI (vWho rl j (vRs v a b i)) = nI a) => absurd (by rw [wa]; rfl) z, fun _ => ⟨bi, bi, ?_⟩⟩
            have h2 := ihs (j + 1) (fx_up hi3 41 0 i (gI (i / 5 + 5 * vTm rl (vRs v a b i) a j) - 5)) hl3 (some (vi (oI (vWho rl j (vRs v a b i))))) (by omega) (G1.tr (FrY.up hi3 _ (by unfold scx; omega))) G2 (fun q hqi => by
              rw [up_off _ _ (by omega), up_off _ _ (by omega), x41, x42]
              exact hq3 q hqi) (by rw [up_at, gI_5, vTm, if_pos wa, Nat.mul_add]; rfl) (by rw [up_off _ _ (by omega), x42, q2, vTm, if_neg wb]; rfl) (hv3.fr (fun s => up_off _ _ (by omega)) (fun k s hk => up_off _ _ (by omega)) rfl)
            rw [← nI_1 j] at h2
            conv at h2 => rw [show fx_up hi3 41 0 i (gI (i / 5 + 5 * vTm rl (vRs v a b i) a j) - 5) = fx_up hi3 41 0 (nI i).toNatClampNeg (hi3 41 0 (nI i).toNatClampNeg - 5) by rw [ci, x41, q1]]
            exact h2
          · refine ⟨fun _ => ?_, fun (z : ¬ ¬ oI (vWho rl j (vRs v a b i)) = nI a) => absurd (oI_ne hwl (by omega) wa) z⟩
            by_cases wb : vWho rl j (vRs v a b i) = some b
            · refine ⟨fun (z : ¬ oI (vWho rl j (vRs v a b i)) = nI b) => absurd (by rw [wb]; rfl) z, fun _ => ⟨bi, bi, ?_⟩⟩
              have h2 := ihs (j + 1) (fx_up hi3 42 0 i (gI (i % 5 + 5 * vTm rl (vRs v a b i) b j) - 5)) hl3 (some (vi (oI (vWho rl j (vRs v a b i))))) (by omega) (G1.tr (FrY.up hi3 _ (by unfold scx; omega))) G2 (fun q hqi => by
                rw [up_off _ _ (by omega), up_off _ _ (by omega), x41, x42]
                exact hq3 q hqi) (by rw [up_off _ _ (by omega), x41, q1, vTm, if_neg wa]; rfl) (by rw [up_at, gI_5, vTm, if_pos wb, Nat.mul_add]; rfl) (hv3.fr (fun s => up_off _ _ (by omega)) (fun k s hk => up_off _ _ (by omega)) rfl)
              rw [← nI_1 j] at h2
              conv at h2 => rw [show fx_up hi3 42 0 i (gI (i % 5 + 5 * vTm rl (vRs v a b i) b j) - 5) = fx_up hi3 42 0 (nI i).toNatClampNeg (hi3 42 0 (nI i).toNatClampNeg - 5) by rw [ci, x42, q2]]
              exact h2
            · refine ⟨fun _ => ?_, fun (z : ¬ ¬ oI (vWho rl j (vRs v a b i)) = nI b) => absurd (oI_ne hwl (by omega) wb) z⟩
              have h2 := ihs (j + 1) hi3 hl3 (some (vi (oI (vWho rl j (vRs v a b i))))) (by omega) G1 G2 (fun q hqi => by
                rw [x41, x42]
                exact hq3 q hqi) (by rw [x41, q1, vTm, if_neg wa]; rfl) (by rw [x42, q2, vTm, if_neg wb]; rfl) hv3
              rw [← nI_1 j] at h2
              exact h2
      refine fx_wpL [3, 81] 60 (pk_le 25 i (fun hc => by omega) (fun _ => ?_))
      have e41 : ∀ q, fx_up (fx_up hi1 22 23 a (nI (2 * (i / 5) + 1))) 22 23 b (nI (2 * (i % 5) + 1)) 41 0 q = hc0 41 0 q := fun q => (F1 41 0 q (by decide) (by omega)).trans (f1 41 0 q (by decide) (by omega))
      have e42 : ∀ q, fx_up (fx_up hi1 22 23 a (nI (2 * (i / 5) + 1))) 22 23 b (nI (2 * (i % 5) + 1)) 42 0 q = hc0 42 0 q := fun q => (F1 42 0 q (by decide) (by omega)).trans (f1 42 0 q (by decide) (by omega))
      refine ⟨by decide, _, _, hp1, by decide, _, _, hp2, by decide, bi, by decide, bi, ?_⟩
      have h3 := inner n 0 _ hl1 l8 (by omega) ((g1.tr F0).tr ((f1.y (by decide)).tr (F1.y (by decide)))) (g2.tr f2) (fun q hqi => by rw [e41, e42]; exact c41 q hqi) (by rw [e41, c1]; rfl) (by rw [e42, c2]; rfl) hv2
      conv at h3 => rw [show fx_up (fx_up hi1 22 23 a (nI (2 * (i / 5) + 1))) 22 23 b (nI (2 * (i % 5) + 1)) = fx_up (fx_up hi1 22 23 (nI a).toNatClampNeg (nI (2 * (i / 5) + 1))) 22 23 (nI b).toNatClampNeg (nI (2 * (i % 5) + 1)) by rw [nI_clamp (show a < 2 ^ 31 by omega), nI_clamp (show b < 2 ^ 31 by omega)]]
      exact ⟨_, _, hg1, ni_in (n := a) (m := 6) (by omega) (by decide), ni_in (n := b) (m := 6) (by omega) (by decide), h3⟩
  obtain ⟨r, h', hg', e1, hi', hl', e2, e3⟩ := fx_methX (y := 126) (av := [xO, vi (nI a), vi (nI b), vi (nI n)]) (P := Post) fx_M126 [some xO, some (vi (nI a)), some (vi (nI b)), some (vi (nI n)), none, none, none, none, none] (by decide) rfl rfl (Nat.le_of_ble_eq_true rfl) (fx_wpE [3] 20 (loop 25 0 hi hl none none none none rfl (FrY.rf hi) (FlY.rf hl) (fun q h => absurd h (by omega))))
  subst e1
  subst e2
  exact ⟨hi', hl', hg', e3⟩
theorem x_rests (hn : NX σ hi hl v f rl) (hH : HV v) (a b n w : Int32) : QX (d + 8) 124 [xO, vi a, vi b, vi n, vi w] σ hi hl (aRests rl v a b n w) := by
  obtain ⟨hv, hg, hs, n4, n5, n6, n7, n8, n9⟩ := id hn
  have h10 := hH.2
  have h4 := hs.1
  refine QX_of fx_M124 [some xO, some (vi a), some (vi b), some (vi n), some (vi w), none, none, none] (by decide) rfl rfl (Nat.le_of_ble_eq_true rfl) (fx_wpE [47] 60 ?_)
  refine ⟨_, _, x_areTwo hv h4 a b, bd_if (fun hc => QX.same (if_neg (fun z => hc z.1)).symm) (fun hc => ?_)⟩
  refine ⟨_, _, x_within n 1 20, bd_if (fun hc2 => QX.same (if_neg (fun z => hc2 z.2.1)).symm) (fun hc2 => ?_)⟩
  refine ⟨_, _, x_within w 0 2, bd_nf (fun hc3 => ?_) (fun hc3 => QX.same (if_neg (fun z => hc3 z.2.2)).symm)⟩
  obtain ⟨k, k1, k3, en, ek⟩ := rg_of (a := 1) (b := 20) hc2 (by decide) (by decide)
  obtain ⟨i, i4, i6, ea, ec⟩ := isR_of hc.1 h4
  obtain ⟨j, j4, j6, eb, ed⟩ := isR_of hc.2.1 h4
  have hij : i ≠ j := fun z => hc.2.2 (by rw [ea, eb, z])
  generalize eA : aRests rl v a b n w = A
  have eA : A = if w = 0 then nI (vCu (vRr (gOne rl v i j k) (gOth rl v i j k)) 25 0) else rA w (vFst (vRr (gOne rl v i j k) (gOth rl v i j k)) 25 0) := by
    rw [← eA]
    unfold aRests
    rw [if_pos ⟨hc, hc2, hc3⟩, ek, ec, ed]
  obtain ⟨hi1, hl1, hg1, f1, f2, hgn⟩ := x_playAll (d := d) hn hH i4 j4 hij k3
  rw [← ea, ← eb, ← en] at hg1
  generalize gOne rl v i j k = G1 at eA hgn
  generalize gOth rl v i j k = G2 at eA hgn
  refine ⟨_, _, hg1, ?_⟩
  generalize hR : vRr G1 G2 = R at eA
  have loop : ∀ t q c o, q + t = 25 → c + vCu R t q = vCu R 25 0 → orE o (vFst R t q) = vFst R 25 0 → (o = none ↔ c = 0) → c ≤ q → (∀ z, o = some z → z < 25) → fx_E (fx_Ga (d + 7)) fx_M124 (47, [some xO, some (vi a), some (vi b), some (vi n), some (vi w), some (vi (nI c)), some (vi (oI o)), some (vi (nI q))], [], hp σ hi1 hl1, 0, 0) (QXP σ hi hl A) := by
    intro t
    induction t with
    | zero =>
      intro q c o hq hcu hfs hoc hcq hoz
      have : q = 25 := by omega
      subst this
      have hcu : c = vCu R 25 0 := hcu
      have hfs : o = vFst R 25 0 := by
        rw [← hfs]
        cases o <;> rfl
      rw [← hcu, ← hfs] at eA
      refine fx_wpL [47] 40 (pk_le 25 25 (fun _ => ?_) (fun hc => by omega))
      refine ⟨fun (z : ¬ w = 0) => ?_, fun (z : ¬ ¬ w = 0) => ⟨by rw [eA, if_pos (Classical.not_not.mp z)], hi1, hl1, rfl, f1, f2⟩⟩
      rw [if_neg z] at eA
      cases o with
      | none => exact ⟨fun (y : ¬ oI none = -1) => absurd rfl y, fun _ => ⟨by rw [eA]; rfl, hi1, hl1, rfl, f1, f2⟩⟩
      | some x =>
        have x25 := hoz x rfl
        have edv : (nI x / 5 : Int32) = nI (x / 5) := pk_div (d := 5) (by omega) (by decide) (by decide)
        have erm : (nI x - nI x / 5 * 5 : Int32) = nI (x % 5) := pk_rem (d := 5) (by omega) (by decide) (by decide)
        have hp1 := x_pop (d := d + 6) (h := hp σ hi1 hl1) (x / 5)
        have hp2 := x_pop (d := d + 6) (h := hp σ hi1 hl1) (x % 5)
        rw [← edv] at hp1
        rw [← erm] at hp2
        refine ⟨fun _ => ?_, fun (y : ¬ ¬ oI (some x) = -1) => absurd (ne_m1 (show x < 2 ^ 31 by omega)) y⟩
        have eA : A = if w = 1 then nI (2 * (x / 5) + 1) else nI (2 * (x % 5) + 1) := eA
        exact ⟨fun (y : ¬ w = 1) => ⟨by decide, _, _, hp2, by rw [eA, if_neg y], hi1, hl1, rfl, f1, f2⟩, fun (y : ¬ ¬ w = 1) => ⟨by decide, _, _, hp1, by rw [eA, if_pos (Classical.not_not.mp y)], hi1, hl1, rfl, f1, f2⟩⟩
    | succ t ih =>
      intro q c o hq hcu hfs hoc hcq hoz
      have edv : (nI q / 5 : Int32) = nI (q / 5) := pk_div (d := 5) (by omega) (by decide) (by decide)
      have erm : (nI q - nI q / 5 * 5 : Int32) = nI (q % 5) := pk_rem (d := 5) (by omega) (by decide) (by decide)
      have hir := x_isRest (d := d + 6) (σ := σ) (hl := hl1) hgn (show q / 5 < 5 by omega) (Nat.mod_lt q (show 0 < 5 by decide))
      rw [← edv, ← erm, show vRt G1 G2 (q / 5) (q % 5) 5 0 = R q by rw [← hR]; rfl] at hir
      refine fx_wpL [47] 40 (pk_le 25 q (fun hc => by omega) (fun _ => ?_))
      refine ⟨by decide, by decide, _, _, hir, b01_if (fun h0 => ?_) (fun h1 => ?_)⟩
      · have h2 := ih (q + 1) c o (by omega) (by rw [← hcu, vCu, h0]; simp) (by rw [← hfs, vFst_f h0]) hoc (by omega) hoz
        rw [← nI_1] at h2
        exact h2
      · refine nn_eq c 0 (fun c0 => ?_) (fun c0 => ?_)
        · have o0 := hoc.mpr c0
          subst o0
          have h2 := ih (q + 1) (c + 1) (some q) (by omega) (by rw [← hcu, vCu, if_pos h1]; omega) (by rw [← hfs, vFst_t h1]; rfl) ⟨fun z => (by cases z), fun z => (by omega)⟩ (by omega) (fun z hz => by cases hz; omega)
          rw [← nI_1, ← nI_1] at h2
          exact h2
        · have h2 := ih (q + 1) (c + 1) o (by omega) (by rw [← hcu, vCu, if_pos h1]; omega) (by
            cases o with
            | none => exact absurd (hoc.mp rfl) c0
            | some z => exact hfs) ⟨fun z => absurd (hoc.mp z) c0, fun z => by omega⟩ (by omega) hoz
          rw [← nI_1, ← nI_1] at h2
          exact h2
  exact loop 25 0 0 none rfl (by rw [Nat.zero_add]) rfl ⟨fun _ => rfl, fun _ => rfl⟩ (Nat.le_refl _) (fun z hz => by cases hz)
end RS
