/-! rows of fields: all of them, and the search that leaves some out -/
abbrev fxA : Type := Option (Nat × Nat × Nat)
def rB (a : fxA) (t r : Nat) : Bool := match a with
  | none => true
  | some q => decide (t < q.1 ∨ t = q.1 ∧ r < q.2.1)
def rU (a : fxA) (o : Nat × Nat × Nat) : fxA := bif rB a o.1 o.2.1 then some o else a
def rF (g : Nat → Nat × Nat × Nat) : Nat → fxA → fxA
  | 0, a => a
  | m + 1, a => rU (rF g m a) (g m)
theorem rF_add (g : Nat → Nat × Nat × Nat) (m1 : Nat) (a : fxA) : ∀ m2, rF g (m1 + m2) a = rF (fun c => g (m1 + c)) m2 (rF g m1 a)
  | 0 => rfl
  | m2 + 1 => by
    show rU (rF g (m1 + m2) a) (g (m1 + m2)) = rU (rF (fun c => g (m1 + c)) m2 (rF g m1 a)) (g (m1 + m2))
    rw [rF_add g m1 a m2]
theorem rF_congr {g g' : Nat → Nat × Nat × Nat} (a : fxA) : ∀ m, (∀ c, c < m → g c = g' c) → rF g m a = rF g' m a
  | 0, _ => rfl
  | m + 1, h => by
    unfold rF
    rw [rF_congr a m (fun c hc => h c (by omega)), h m (by omega)]
theorem rB_le {a : fxA} {t r t' r' : Nat} (h : rB a t r = false) (h1 : t ≤ t') (h2 : r ≤ r') : rB a t' r' = false := by
  cases a with
  | none => cases h
  | some q =>
    have h := of_decide_eq_false (show decide (t < q.1 ∨ t = q.1 ∧ r < q.2.1) = false from h)
    exact decide_eq_false (by omega)
theorem rU_self (a : fxA) (o : Nat × Nat × Nat) : rB (rU a o) o.1 o.2.1 = false := by
  unfold rU
  cases h : rB a o.1 o.2.1 with
  | true =>
    show decide (o.1 < o.1 ∨ o.1 = o.1 ∧ o.2.1 < o.2.1) = false
    exact decide_eq_false (by omega)
  | false => exact h
theorem rU_no {a : fxA} (o : Nat × Nat × Nat) {t r : Nat} (h : rB a t r = false) : rB (rU a o) t r = false := by
  unfold rU
  cases h2 : rB a o.1 o.2.1 with
  | false => exact h
  | true =>
    cases a with
    | none => cases h
    | some q =>
      have h := of_decide_eq_false (show decide (t < q.1 ∨ t = q.1 ∧ r < q.2.1) = false from h)
      have h2 := of_decide_eq_true (show decide (o.1 < q.1 ∨ o.1 = q.1 ∧ o.2.1 < q.2.1) = true from h2)
      show decide (t < o.1 ∨ t = o.1 ∧ r < o.2.1) = false
      exact decide_eq_false (by omega)
theorem rF_dom (g : Nat → Nat × Nat × Nat) (a : fxA) : ∀ m c, c < m → rB (rF g m a) (g c).1 (g c).2.1 = false
  | 0, c, h => by omega
  | m + 1, c, h => by
    by_cases e : c = m
    · subst e
      exact rU_self _ _
    · exact rU_no _ (rF_dom g a m c (by omega))
theorem rF_no (g : Nat → Nat × Nat × Nat) (a : fxA) : ∀ m, (∀ c, c < m → rB a (g c).1 (g c).2.1 = false) → rF g m a = a
  | 0, _ => rfl
  | m + 1, h => by
    unfold rF
    rw [rF_no g a m (fun c hc => h c (by omega))]
    unfold rU
    rw [h m (by omega)]
    rfl
def vLp (g : Nat → fxA → fxA) : Nat → fxA → fxA
  | 0, a => a
  | m + 1, a => g m (vLp g m a)
theorem vLp_congr {g g' : Nat → fxA → fxA} (a : fxA) : ∀ m, (∀ f b, f < m → g f b = g' f b) → vLp g m a = vLp g' m a
  | 0, _ => rfl
  | m + 1, h => by
    unfold vLp
    rw [vLp_congr a m (fun f b hf => h f b (by omega)), h m _ (by omega)]
theorem rw_pp {W : Nat} (h : 0 < W) : ∀ k, 0 < W ^ k
  | 0 => Nat.one_pos
  | k + 1 => by
    rw [Nat.pow_succ]
    exact Nat.mul_pos (rw_pp h k) h
section RW
variable {α : Type}
def rw_O (S : α → Nat → α) (W : Nat) : Nat → α → Nat → α
  | 0, u, _ => u
  | k + 1, u, c => rw_O S W k (S u (c / W ^ k)) (c % W ^ k)
def rw_c (S : α → Nat → α) (W : Nat) (t r : α → Nat) (k : Nat) (u : α) (fs : Nat) (c : Nat) : Nat × Nat × Nat := (t (rw_O S W k u c), r (rw_O S W k u c), fs)
/-- a search's turn -/
def rw_T (g : Nat → fxA → fxA) (t r m : Nat) (a : fxA) : fxA := bif rB a t r then vLp g m a else a
def rw_S (S : α → Nat → α) (t r M : α → Nat) : Nat → α → Nat → fxA → fxA
  | 0, u, fs, a => rU a (t u, r u, fs)
  | k + 1, u, fs, a => rw_T (fun f b => rw_S S t r M k (S u f) fs b) (t u) (r u) (M u + 1) a
variable {S : α → Nat → α} {W : Nat} {t r M : α → Nat} {I : α → Prop}
theorem rw_mono (hW : 0 < W) (hI : ∀ u f, I u → f < W → I (S u f)) (hm : ∀ u f, I u → f < W → t u ≤ t (S u f) ∧ r u ≤ r (S u f)) : ∀ k u c, I u → c < W ^ k → t u ≤ t (rw_O S W k u c) ∧ r u ≤ r (rw_O S W k u c)
  | 0, u, c, _, _ => ⟨Nat.le_refl _, Nat.le_refl _⟩
  | k + 1, u, c, hu, hc => by
    have h1 : c / W ^ k < W := Nat.div_lt_of_lt_mul (by rw [Nat.pow_succ] at hc; exact hc)
    have h2 : c % W ^ k < W ^ k := Nat.mod_lt _ (rw_pp hW k)
    have h3 := rw_mono hW hI hm k (S u (c / W ^ k)) (c % W ^ k) (hI _ _ hu h1) h2
    have h4 := hm u _ hu h1
    exact ⟨Nat.le_trans h4.1 h3.1, Nat.le_trans h4.2 h3.2⟩
theorem rw_blk (hW : 0 < W) (k : Nat) (u : α) (φ : Nat → Nat) (a : fxA) : ∀ m, rF (fun c => (t (rw_O S W (k + 1) u c), r (rw_O S W (k + 1) u c), φ (c / W ^ k))) (m * W ^ k) a = vLp (fun f b => rF (rw_c S W t r k (S u f) (φ f)) (W ^ k) b) m a
  | 0 => by
    rw [Nat.zero_mul]
    rfl
  | m + 1 => by
    rw [Nat.succ_mul, rF_add, rw_blk hW k u φ a m]
    show _ = rF (rw_c S W t r k (S u m) (φ m)) (W ^ k) (vLp _ m a)
    refine rF_congr _ _ (fun c hc => ?_)
    have hp := rw_pp hW k
    have e1 : (m * W ^ k + c) / W ^ k = m := by
      rw [Nat.mul_comm, Nat.mul_add_div hp, Nat.div_eq_of_lt hc, Nat.add_zero]
    have e2 : (m * W ^ k + c) % W ^ k = c := by
      rw [Nat.mul_comm, Nat.mul_add_mod, Nat.mod_eq_of_lt hc]
    show (t (rw_O S W k (S u ((m * W ^ k + c) / W ^ k)) ((m * W ^ k + c) % W ^ k)), r (rw_O S W k (S u ((m * W ^ k + c) / W ^ k)) ((m * W ^ k + c) % W ^ k)), φ ((m * W ^ k + c) / W ^ k)) = _
    rw [e1, e2]
    rfl
theorem rw_turn (hW : 0 < W) (hI : ∀ u f, I u → f < W → I (S u f)) (hm : ∀ u f, I u → f < W → t u ≤ t (S u f) ∧ r u ≤ r (S u f)) (hM : ∀ u, I u → M u < W ∧ ∀ f, M u ≤ f → f < W → S u f = S u (M u)) (k : Nat) (u : α) (hu : I u) (φ : Nat → Nat) (a : fxA) : rw_T (fun f b => rF (rw_c S W t r k (S u f) (φ f)) (W ^ k) b) (t u) (r u) (M u + 1) a = rF (fun c => (t (rw_O S W (k + 1) u c), r (rw_O S W (k + 1) u c), φ (c / W ^ k))) (W ^ (k + 1)) a := by
  unfold rw_T
  cases hb : rB a (t u) (r u) with
  | false =>
    refine (rF_no _ _ _ (fun c hc => ?_)).symm
    have h := rw_mono hW hI hm (k + 1) u c hu hc
    exact rB_le hb h.1 h.2
  | true =>
    rw [show W ^ (k + 1) = W * W ^ k by rw [Nat.pow_succ, Nat.mul_comm], rw_blk hW k u φ a W]
    obtain ⟨h1, h2⟩ := hM u hu
    have tail : ∀ e, M u + 1 + e ≤ W → vLp (fun f b => rF (rw_c S W t r k (S u f) (φ f)) (W ^ k) b) (M u + 1 + e) a = vLp (fun f b => rF (rw_c S W t r k (S u f) (φ f)) (W ^ k) b) (M u + 1) a := by
      intro e
      induction e with
      | zero => exact fun _ => rfl
      | succ e ih =>
        intro he
        show rF (rw_c S W t r k (S u (M u + 1 + e)) (φ (M u + 1 + e))) (W ^ k) (vLp (fun f b => rF (rw_c S W t r k (S u f) (φ f)) (W ^ k) b) (M u + 1 + e) a) = _
        rw [ih (by omega), h2 (M u + 1 + e) (by omega) (by omega)]
        refine rF_no _ _ _ (fun c hc => ?_)
        exact rF_dom (rw_c S W t r k (S u (M u)) (φ (M u))) _ (W ^ k) c hc
    have h3 := tail (W - (M u + 1)) (by omega)
    rw [show M u + 1 + (W - (M u + 1)) = W by omega] at h3
    exact h3.symm
theorem rw_eq (hW : 0 < W) (hI : ∀ u f, I u → f < W → I (S u f)) (hm : ∀ u f, I u → f < W → t u ≤ t (S u f) ∧ r u ≤ r (S u f)) (hM : ∀ u, I u → M u < W ∧ ∀ f, M u ≤ f → f < W → S u f = S u (M u)) : ∀ k u fs a, I u → rw_S S t r M k u fs a = rF (rw_c S W t r k u fs) (W ^ k) a
  | 0, u, fs, a, _ => by
    rw [Nat.pow_zero]
    rfl
  | k + 1, u, fs, a, hu => by
    have h := rw_turn (t := t) (r := r) (M := M) hW hI hm hM k u hu (fun _ => fs) a
    refine Eq.trans ?_ h
    show rw_T (fun f b => rw_S S t r M k (S u f) fs b) (t u) (r u) (M u + 1) a = _
    unfold rw_T
    rw [vLp_congr a (M u + 1) (fun f b hf => rw_eq hW hI hm hM k (S u f) fs b (hI u f hu (by have := (hM u hu).1; omega)))]
theorem rw_top (hW : 0 < W) (hI : ∀ u f, I u → f < W → I (S u f)) (hm : ∀ u f, I u → f < W → t u ≤ t (S u f) ∧ r u ≤ r (S u f)) (hM : ∀ u, I u → M u < W ∧ ∀ f, M u ≤ f → f < W → S u f = S u (M u)) (k : Nat) (u : α) (hu : I u) (a : fxA) : rw_T (fun f b => rw_S S t r M k (S u f) f b) (t u) (r u) (M u + 1) a = rF (fun c => (t (rw_O S W (k + 1) u c), r (rw_O S W (k + 1) u c), c / W ^ k)) (W ^ (k + 1)) a := by
  refine Eq.trans ?_ (rw_turn (t := t) (r := r) (M := M) hW hI hm hM k u hu (fun f => f) a)
  unfold rw_T
  rw [vLp_congr a (M u + 1) (fun f b hf => rw_eq hW hI hm hM k (S u f) f b (hI u f hu (by have := (hM u hu).1; omega)))]
theorem rw_snoc (hW : 0 < W) : ∀ k (u : α) c, c < W ^ (k + 1) → rw_O S W (k + 1) u c = S (rw_O S W k u (c / W)) (c % W)
  | 0, u, c, h => by
    show S u (c / W ^ 0) = S u (c % W)
    rw [Nat.pow_zero, Nat.div_one, Nat.mod_eq_of_lt (by rw [Nat.pow_succ, Nat.pow_zero, Nat.one_mul] at h; exact h)]
  | k + 1, u, c, h => by
    show rw_O S W (k + 1) (S u (c / W ^ (k + 1))) (c % W ^ (k + 1)) = S (rw_O S W k (S u (c / W / W ^ k)) (c / W % W ^ k)) (c % W)
    rw [rw_snoc hW k _ _ (Nat.mod_lt _ (rw_pp hW _)), show W ^ (k + 1) = W * W ^ k by rw [Nat.pow_succ, Nat.mul_comm], Nat.div_div_eq_div_mul, Nat.mod_mul_right_div_self, Nat.mod_mul_right_mod]
end RW
/-- how many fields are worth trying -/
def vMf (i : Nat) (u : Nat → Nat) : Nat := if vOut u i then 0 else min (u (13 + 4 * i)) (u 11 - u (12 + 4 * i))
def vRS (rl : Option fxRl) (i : Nat) (u : Nat → Nat) (f : Nat) : Nat → Nat := (vStep u rl (some (i, f))).1
def vRI (v : Nat → Nat) (i : Nat) (u : Nat → Nat) : Prop := SB u ∧ GV u ∧ (∀ x, x < 10 ∨ 38 ≤ x → u x = v x) ∧ u (13 + 4 * i) = v (13 + 4 * i) ∧ v (15 + 4 * i) ≤ u (15 + 4 * i)
theorem vMv_congr (v rd rd' : Nat → Nat) : ∀ n, (∀ k, k < n → vOut v k = false → min (v (12 + 4 * k) + rd k) (v 11) = min (v (12 + 4 * k) + rd' k) (v 11)) → vMv v rd n = vMv v rd' n
  | 0, _ => rfl
  | n + 1, h => by
    unfold vMv
    rw [vMv_congr v rd rd' n (fun k hk => h k (by omega))]
    cases ho : vOut v n with
    | true => rfl
    | false =>
      rw [h n (by omega) ho]
theorem vRI_I {v : Nat → Nat} {i : Nat} (rl : Option fxRl) (u : Nat → Nat) (f : Nat) (h : vRI v i u) : vRI v i (vRS rl i u f) := by
  obtain ⟨h1, h2, h3, h4, h5⟩ := h
  refine ⟨h1.step _ _, h2.step h1.1 _ _, fun x hx => ?_, (vStep_pace _ _ _ i).trans h4, ?_⟩
  · rcases hx with hx | hx
    · exact (vStep_lo _ _ _ hx).trans (h3 x (Or.inl hx))
    · exact (vStep_hi _ _ _ h1.1 (by omega)).trans (h3 x (Or.inr hx))
  · have := vStep_was u rl (some (i, f)) i
    show _ ≤ (vStep u rl (some (i, f))).1 (15 + 4 * i)
    rw [this]
    omega
theorem vRI_m {v : Nat → Nat} {i : Nat} (h6 : i < 6) (rl : Option fxRl) (u : Nat → Nat) (f : Nat) (h : vRI v i u) : u (15 + 4 * i) - v (15 + 4 * i) ≤ vRS rl i u f (15 + 4 * i) - v (15 + 4 * i) ∧ u (12 + 4 * i) ≤ vRS rl i u f (12 + 4 * i) := by
  obtain ⟨h1, h2, h3, h4, h5⟩ := h
  have e1 := vStep_was u rl (some (i, f)) i
  have e2 := vStep_run u rl (some (i, f)) i
  have b := (h1.2.2.2.2.2 i h6).1
  unfold vRS
  rw [e1, e2]
  refine ⟨by omega, ?_⟩
  split <;> omega
theorem vRI_M {v : Nat → Nat} {i : Nat} (h6 : i < 6) (rl : Option fxRl) (u : Nat → Nat) (h : vRI v i u) : vMf i u < v (13 + 4 * i) + 1 ∧ ∀ f, vMf i u ≤ f → f < v (13 + 4 * i) + 1 → vRS rl i u f = vRS rl i u (vMf i u) := by
  obtain ⟨h1, h2, h3, h4, h5⟩ := h
  have b := (h1.2.2.2.2.2 i h6).1
  have hm : vMf i u ≤ v (13 + 4 * i) := by
    unfold vMf
    rw [h4]
    split <;> omega
  refine ⟨by omega, fun f h1 h2 => ?_⟩
  unfold vRS
  rw [vStep_fox, vStep_fox, vMv_congr u (vRide u rl (some (i, f))) (vRide u rl (some (i, vMf i u))) (u 4) (fun k hk ho => ?_)]
  unfold vRide
  rw [ho]
  by_cases e : k = i
  · subst e
    simp only [Bool.false_eq_true, if_false, if_true]
    unfold vMf at h1 ⊢
    rw [ho] at h1 ⊢
    simp only [Bool.false_eq_true, if_false] at h1 ⊢
    omega
  · simp only [Bool.false_eq_true, if_false, if_neg e]
/-- the best row for n steps -/
def vRB (rl : Option fxRl) (v : Nat → Nat) (i n : Nat) : fxA := rF (fun c => (rw_O (vRS rl i) (v (13 + 4 * i) + 1) n v c (15 + 4 * i) - v (15 + 4 * i), rw_O (vRS rl i) (v (13 + 4 * i) + 1) n v c (12 + 4 * i), c / (v (13 + 4 * i) + 1) ^ (n - 1))) ((v (13 + 4 * i) + 1) ^ n) none
def rI (a : fxA) (w : Int32) : Int32 := match a with
  | none => -1
  | some q => if w = 0 then nI q.1 else if w = 1 then nI q.2.1 else nI q.2.2
def aRow (rl : Option fxRl) (v : Nat → Nat) (r n w : Int32) : Int32 := if isR v r ∧ (1 ≤ n ∧ n ≤ 4) ∧ (0 ≤ w ∧ w ≤ 2) then rI (vRB rl v r.toNatClampNeg n.toNatClampNeg) w else -1
theorem rF_some (g : Nat → Nat × Nat × Nat) (m : Nat) : ∃ q, rF g (m + 1) none = some q := by
  show ∃ q, rU (rF g m none) (g m) = some q
  unfold rU
  cases h : rB (rF g m none) (g m).1 (g m).2.1 with
  | true => exact ⟨_, rfl⟩
  | false =>
    cases h2 : rF g m none with
    | none => rw [h2] at h; cases h
    | some q => exact ⟨q, rfl⟩
