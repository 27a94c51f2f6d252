/-! the class' rule, whole -/
theorem rdR_b {T : Nat → Int32} {n : Nat} : ∀ k p P R, p ≤ n → P ≤ 60 → R.length ≤ 12 → (flt R).length ≤ p → n - p < k → (∀ f, rdR T n k p P R = .inl f → 1 ≤ f ∧ f ≤ 8 * n + 5) ∧ ∀ R', rdR T n k p P R = .inr R' → R'.length ≤ 12 ∧ (flt R').length ≤ n
  | 0, p, P, R, _, _, _, _, hk => absurd hk (Nat.not_lt_zero _)
  | k + 1, p, P, R, hp, hP, h12, hl, hk => by
    have hok := vC1_ok T n p P R.length hp hP
    unfold rdR
    cases hv : vC1 T n p P R.length with
    | inl f =>
      have := hok.1 f hv
      exact ⟨fun g hg => by cases hg; exact this, fun R' hR => by cases hR⟩
    | inr y =>
      obtain ⟨p1, P1, xs, o⟩ := y
      obtain ⟨b1, b2, b3, b4, b5, b6⟩ := hok.2 p1 P1 xs o hv
      have hqn : lx_rn lx_S T n p1 ≤ n := rn_le b2
      have hqp : p1 ≤ lx_rn lx_S T n p1 := rn_ge
      dsimp only
      generalize lx_rn lx_S T n p1 = q at hqn hqp ⊢
      have e1 : (R ++ [(xs, o)]).length = R.length + 1 := by rw [List.length_append]; rfl
      have e2 : (flt (R ++ [(xs, o)])).length = (flt R).length + (xs.length + (o.getD []).length) := by rw [flt_snoc, List.length_append, List.length_append]
      by_cases h59 : q < n ∧ T q = nI 59
      · rw [if_pos h59]
        exact rdR_b k (q + 1) P1 _ (by omega) b4 (by omega) (by omega) (by omega)
      · rw [if_neg h59]
        by_cases hlt : q < n
        · rw [if_pos hlt]
          exact ⟨fun f hf => by cases hf; omega, fun R' h => by cases h⟩
        · rw [if_neg hlt]
          exact ⟨fun f hf => by (cases hf), fun R' h => by cases h; omega⟩
theorem RXl_cg9 {σ σ' : fxS} {hi hi' : fxI3} {t : Nat} (e : σ'.2.2.2 (3 * t) = σ.2.2.2 (3 * t)) (h : ∀ j s, 3 * t ≤ j → j ≤ 3 * t + 2 → hi' 45 j s = hi 45 j s) : ∀ (R : fxRl) (c q : Nat), RXl σ hi t R c q → RXl σ' hi' t R c q
  | [], c, q, g => (h _ _ (by omega) (by omega)).trans g
  | (s, o) :: r, c, q, ⟨g1, g2, g3, g4, g5, g6, g7, g8⟩ => ⟨(h _ _ (by omega) (by omega)).trans g1, (h _ _ (by omega) (by omega)).trans g2, by rw [e]; exact g3, fun k hk => ⟨(h _ _ (by omega) (by omega)).trans (g4 k hk).1, (g4 k hk).2⟩, fun k hk => ⟨(h _ _ (by omega) (by omega)).trans (g5 k hk).1, (g5 k hk).2⟩, g6, g7, RXl_cg9 e h r _ _ g8⟩
theorem RX_cg9 {σ σ' : fxS} {hi hi' : fxI3} {t : Nat} {R : fxRl} (e : ∀ j, 3 * t ≤ j → j ≤ 3 * t + 2 → σ'.2.2.2 j = σ.2.2.2 j) (h : ∀ j s, 3 * t ≤ j → j ≤ 3 * t + 2 → hi' 45 j s = hi 45 j s) (h5 : hi' 5 t 1 = hi 5 t 1) (g : RX σ hi t R) : RX σ' hi' t R := by
  obtain ⟨g1, g2, g3, g4, g5, g6⟩ := g
  exact ⟨g1, by rw [e _ (by omega) (by omega)]; exact g2, h5.trans g3, (e _ (by omega) (by omega)).trans g4, (e _ (by omega) (by omega)).trans g5, RXl_cg9 (e _ (by omega) (by omega)) h R 0 0 g6⟩
def FrR (hi hi' : fxI3) : Prop := ∀ k j s, k ≠ 6 → ¬ (25 ≤ k ∧ k ≤ 28) → ¬ (k = 7 ∧ j = 1) → ¬ (k = 10 ∧ (s = 1 ∨ s = 5)) → k ≠ 5 → k ≠ 45 → hi' k j s = hi k j s
def FlR (hl hl' : fxL3) : Prop := ∀ k j s, k ≠ 5 → k ≠ 45 → hl' k j s = hl k j s
def nN (T : Nat → Int32) (n N : Nat) : Nat := if N = 6 then N else match rdR T n (n + 1) 0 0 [] with
  | .inl _ => N
  | .inr _ => N + 1
def nR (T : Nat → Int32) (n N : Nat) (Rs : Nat → fxRl) : Nat → fxRl := if N = 6 then Rs else match rdR T n (n + 1) 0 0 [] with
  | .inl _ => Rs
  | .inr R => fun t => if t = N then R else Rs t
def nTp (n N : Nat) : Nat := if N = 6 then n else 0
section XR9
variable {d : Nat} {σ : fxS} {hi : fxI3} {hl : fxL3} {n m c : Nat} {g0 g1 g2 : Nat → Int32} {T : Nat → Int32} {Rs : Nat → fxRl}
theorem hlU_e : hlU σ m c hi hl g0 g1 g2 = fx_all (fx_all (fx_all (fx_all hl 5 σ.2.1 (fun _ => 0)) 45 (3 * σ.2.1) (fun _ => 0)) 45 (3 * σ.2.1 + 1) (fun _ => 0)) 45 (3 * σ.2.1 + 2) (fun _ => 0) := rfl
theorem hlU_off {k j : Nat} (h5 : k ≠ 5) (h45 : k ≠ 45) (s : Nat) : hlU σ m c hi hl g0 g1 g2 k j s = hl k j s := by
  rw [hlU_e, fx_all_ne _ _ (by omega), fx_all_ne _ _ (by omega), fx_all_ne _ _ (by omega), fx_all_ne _ _ (by omega)]
theorem x_ruleA (hn : n ≤ 400) (ht : TP hi n T) (h5 : hi 10 0 5 = nI σ.2.1) (hN : σ.2.1 ≤ 6) (hbn : BN hi) (hR : ∀ t, t < σ.2.1 → RX σ hi t (Rs t)) : ∃ σ' hi' hl', fx_Ga (d + 8) 91 [xO] (hp σ hi hl) (some (vi (aRule T n σ.2.1))) (hp σ' hi' hl') ∧ σ'.1 = σ.1 ∧ FrR hi hi' ∧ FlR hl hl' ∧ hi' 10 0 1 = nI (nTp n σ.2.1) ∧ hi' 10 0 5 = nI (nN T n σ.2.1) ∧ σ'.2.1 = nN T n σ.2.1 ∧ ∀ t, t < nN T n σ.2.1 → RX σ' hi' t (nR T n σ.2.1 Rs t) := by
  unfold aRule nTp nN nR
  by_cases h6 : σ.2.1 = 6
  · rw [if_pos h6, if_pos h6, if_pos h6, if_pos h6]
    exact ⟨σ, hi, hl, x_rule6 (h5.trans (by rw [h6])), rfl, fun _ _ _ _ _ _ _ _ _ => rfl, fun _ _ _ _ _ => rfl, ht.1, h5, rfl, hR⟩
  · rw [if_neg h6, if_neg h6, if_neg h6, if_neg h6]
    obtain ⟨b1, b2⟩ := rdR_b (T := T) (n := n) (n + 1) 0 0 [] (Nat.zero_le _) (by decide) (by decide) (Nat.le_refl _) (by omega)
    cases hr : rdR T n (n + 1) 0 0 [] with
    | inl f =>
      obtain ⟨hi', hg, f9⟩ := x_ruleF (d := d) (σ := σ) (hl := hl) hn ht h5 (by omega) hbn hr (b1 f hr)
      have off : FrR hi (fx_up hi' 10 0 1 0) := fun k j s a1 a2 a3 a4 a5 a6 => (up_off _ _ (by omega)).trans (f9 k j s a1 a2 (by omega))
      exact ⟨σ, _, hl, hg, rfl, off, fun _ _ _ _ _ => rfl, up_at _ _ _ _ _, (up_off _ _ (by omega)).trans ((f9 10 0 5 (by omega) (by omega) (by omega)).trans h5), rfl, fun t h => RX_cg9 (fun _ _ _ => rfl) (fun j s _ _ => (up_off _ _ (by omega)).trans (f9 45 j s (by omega) (by omega) (by omega))) ((up_off _ _ (by omega)).trans (f9 5 t 1 (by omega) (by omega) (by omega))) (hR t h)⟩
    | inr R =>
      obtain ⟨c1, c2⟩ := b2 R hr
      obtain ⟨hi', g0, g1, g2, hg, f9, k1, k2, e0, e1, e2⟩ := x_ruleR (d := d) (σ := σ) (hl := hl) hn ht h5 (by omega) hbn hr (by omega) c1
      have off : ∀ k j s, k ≠ 6 → ¬ (25 ≤ k ∧ k ≤ 28) → ¬ (k = 7 ∧ j = 1) → ¬ (k = 10 ∧ (s = 1 ∨ s = 5)) → ¬ (k = 5 ∧ j = σ.2.1) → ¬ (k = 45 ∧ 3 * σ.2.1 ≤ j) → fx_up (hiU σ (flt R).length R.length (fx_up hi' 10 0 1 0) hl g0 g1 g2) 10 0 5 (nI (σ.2.1 + 1)) k j s = hi k j s := fun k j s a1 a2 a3 a4 a5 a6 => by
        rw [up_off _ _ (by omega), hiU_off a5 a6, up_off _ _ (by omega)]
        exact f9 k j s a1 a2 (by omega)
      have hw : WR R := rdR_e (n + 1) 0 0 [] R (Nat.zero_le _) (by decide) (fun s o hm => by cases hm) hr
      refine ⟨_, _, _, hg, rfl, fun k j s a1 a2 a3 a4 a5 a6 => off k j s a1 a2 a3 a4 (by omega) (by omega), fun k j s a5 a6 => hlU_off a5 a6 s, ?_, up_at _ _ _ _ _, rfl, fun t h => ?_⟩
      · rw [up_off _ _ (by omega), hiU_off (by omega) (by omega), up_at]
        rfl
      · have h : t < σ.2.1 + 1 := h
        dsimp only
        by_cases e : t = σ.2.1
        · rw [if_pos e, e]
          refine RX_new (hl := hl) (rdR_ne _ _ _ _ _ hr) hw c1 (by omega) k2 k1 e0 e1 e2 ?_ ?_ ?_ ?_
          · funext s
            rw [up_off _ _ (by omega), hiU_0]
          · funext s
            rw [up_off _ _ (by omega), hiU_1]
          · funext s
            rw [up_off _ _ (by omega), hiU_2]
          · rw [up_off _ _ (by omega), hiU_5]
        · rw [if_neg e]
          refine RX_cg9 (fun j a b => ?_) (fun j s a b => off 45 j s (by omega) (by omega) (by omega) (by omega) (by omega) (by omega)) (off 5 t 1 (by omega) (by omega) (by omega) (by omega) (by omega) (by omega)) (hR t (by omega))
          show clU σ.2.2.2 σ.2.1 _ _ j = _
          unfold clU
          rw [if_neg (by omega), if_neg (by omega), if_neg (by omega)]
end XR9
