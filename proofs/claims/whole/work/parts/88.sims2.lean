/-! the machine's run over terms, sums, comparisons and facts -/
section RC
variable {T : Nat → Int32} {n p q : Nat} {want wb P c : Nat} {bv : Bool} {W O : List Nat} {R : fxRl} {S : Option (List Nat)}
theorem sim_L {V : Nat → Nat → fxQ} {op : Nat → Option Nat} (hwb : wb = 3 ∨ wb = 4 ∨ wb = 5) (hc : 5 ≤ c) (hop : ∀ q s, op q = some s → (tkd T n q = (7, xOp s, q + 1) ∧ tOp T n q = s) ∧ bd s = c ∧ q < n) (hop2 : ∀ q, (tkd T n q).1 = 7 → bd (tOp T n q) = c → op q ≠ none) (hV : Sim T n wb R S V (c + 1)) (hg : gQ n V) (hW : hb W < c) : ∀ k p P xs, n - p ≤ k → p ≤ n → P ≤ 60 → NJ T n (c + 1) p → (mr T n p (wb, wb, true, W, O ++ xs, P, R, S) = match vLq V op (lx_rn lx_S T n) k p P xs with
    | .inl f => .inl f
    | .inr (p', P', zs) => mr T n p' (wb, wb, true, W, O ++ zs, P', R, S)) ∧ ∀ p' P' zs, vLq V op (lx_rn lx_S T n) k p P xs = .inr (p', P', zs) → NJ T n c p' := by
  intro k
  have stop : ∀ p, p ≤ n → NJ T n (c + 1) p → op (lx_rn lx_S T n p) = none → NJ T n c (lx_rn lx_S T n p) := by
    intro p hp hn h0
    unfold NJ at hn ⊢
    rw [rn_idem hp]
    intro h7
    have h1 := hn h7
    have h2 : bd (tOp T n (lx_rn lx_S T n p)) ≠ c := fun z => hop2 _ h7 z h0
    omega
  induction k with
  | zero =>
    intro p P xs hk hp hP hn
    have h0 : op (lx_rn lx_S T n p) = none := by
      cases h : op (lx_rn lx_S T n p) with
      | none => rfl
      | some s =>
        have := (hop _ _ h).2.2
        have : p ≤ lx_rn lx_S T n p := rn_ge
        omega
    refine ⟨?_, fun p' P' zs h => ?_⟩
    · show _ = mr T n (lx_rn lx_S T n p) _
      rw [mr_sk hp]
    · cases h
      exact stop p hp hn h0
  | succ k ih =>
    intro p P xs hk hp hP hn
    unfold vLq
    cases h0 : op (lx_rn lx_S T n p) with
    | none =>
      refine ⟨?_, fun p' P' zs h => ?_⟩
      · show _ = mr T n (lx_rn lx_S T n p) _
        rw [mr_sk hp]
      · cases h
        exact stop p hp hn h0
    | some s =>
      obtain ⟨⟨t1, t2⟩, t3, t4⟩ := hop _ _ h0
      have hqp : p ≤ lx_rn lx_S T n p := rn_ge
      have e0 : mr T n p (wb, wb, true, W, O ++ xs, P, R, S) = mr T n (lx_rn lx_S T n p + 1) (1, wb, false, s :: W, O ++ xs, P, R, S) := by
        rw [mr_st hp (show wb ≠ 6 by omega) rfl]
        have k7 : (tkO T n (lx_rn lx_S T n p)).1 = 7 := by show (tkd T n (lx_rn lx_S T n p)).1 = 7; rw [t1]
        have ks : (tkO T n (lx_rn lx_S T n p)).2.1 = s := t2
        show (match mst (tkO T n (lx_rn lx_S T n p)) wb wb true W (O ++ xs) P R S with
          | .inl f => Sum.inl (1 + 8 * lx_rn lx_S T n p + f)
          | .inr x' => mr T n (tkd T n (lx_rn lx_S T n p)).2.2 x') = _
        rw [mst_7 ⟨rfl, k7⟩, ks, t1]
        show mr T n (lx_rn lx_S T n p + 1) (1, wb, false, s :: (ptl (bd s) W).2, O ++ xs ++ (ptl (bd s) W).1, P, R, S) = _
        rw [t3, ptl_lo hW, List.append_nil]
      rw [e0, hV.1 (lx_rn lx_S T n p + 1) P (s :: W) (O ++ xs) t4 hP (by show bd s < c + 1; omega)]
      cases hv : V (lx_rn lx_S T n p + 1) P with
      | inl f => exact ⟨rfl, fun p' P' zs h => by cases h⟩
      | inr y =>
        obtain ⟨p2, P2, ys⟩ := y
        have hn2 := hV.2 _ _ _ _ _ t4 hP hv
        obtain ⟨g1, g2, g3, g4, g5⟩ := hg _ _ t4 hP _ _ _ hv
        obtain ⟨i1, i2⟩ := ih p2 P2 (xs ++ (ys ++ [s])) (by omega) g2 g4 hn2
        refine ⟨?_, i2⟩
        show mr T n p2 (wb, wb, true, s :: W, O ++ xs ++ ys, P2, R, S) = _
        rw [mr_fl (b := c) g2 rfl hwb (by omega) (fun _ z => by have := hn2 z; omega) (fun _ z => by rw [tk_8 z]; omega)]
        have ep : ptl c (s :: W) = ([s], W) := by
          show (if c ≤ bd s then (s :: (ptl c W).1, (ptl c W).2) else _) = _
          rw [if_pos (by omega), ptl_lo hW]
        rw [ep]
        show mr T n p2 (wb, wb, true, W, O ++ xs ++ ys ++ [s], P2, R, S) = _
        rw [show O ++ xs ++ ys ++ [s] = O ++ (xs ++ (ys ++ [s])) by rw [List.append_assoc, List.append_assoc]]
        exact i1
theorem sim_J {V : Nat → Nat → fxQ} {op : Nat → Option Nat} (hwb : wb = 3 ∨ wb = 4 ∨ wb = 5) (hc : 5 ≤ c) (hop : ∀ q s, op q = some s → (tkd T n q = (7, xOp s, q + 1) ∧ tOp T n q = s) ∧ bd s = c ∧ q < n) (hop2 : ∀ q, (tkd T n q).1 = 7 → bd (tOp T n q) = c → op q ≠ none) (hV : Sim T n wb R S V (c + 1)) (hg : gQ n V) : Sim T n wb R S (vJn V op (lx_rn lx_S T n) n) c := by
  refine ⟨fun p P W O hp hP hW => ?_, fun p P p' P' ys hp hP h => ?_⟩
  · rw [hV.1 p P W O hp hP (by omega)]
    unfold vJn
    cases hv : V p P with
    | inl f => rfl
    | inr y =>
      obtain ⟨p2, P2, ys⟩ := y
      obtain ⟨g1, g2, g3, g4, g5⟩ := hg _ _ hp hP _ _ _ hv
      exact (sim_L hwb hc hop hop2 hV hg hW n p2 P2 ys (by omega) g2 g4 (hV.2 _ _ _ _ _ hp hP hv)).1
  · unfold vJn at h
    cases hv : V p P with
    | inl f =>
      rw [hv] at h
      cases h
    | inr y =>
      obtain ⟨p2, P2, zs⟩ := y
      rw [hv] at h
      obtain ⟨g1, g2, g3, g4, g5⟩ := hg _ _ hp hP _ _ _ hv
      exact (sim_L (O := []) (W := []) hwb hc hop hop2 hV hg (show 0 < c by omega) n p2 P2 zs (by omega) g2 g4 (hV.2 _ _ _ _ _ hp hP hv)).2 _ _ _ h
theorem sim_T (hwb : wb = 3 ∨ wb = 4 ∨ wb = 5) : Sim T n wb R S (vT T n) 6 := by
  refine sim_J hwb (by decide) (fun q s h => ⟨tk_M h, ?_, opM_lt h⟩) (fun q h7 hb h0 => ?_) sim_V (vV_g T n)
  · rcases opM_v h with rfl | rfl | rfl <;> rfl
  · rcases tk_inv.1 h7 with h | h
    · cases hA : opA T n q with
      | none => exact h hA
      | some s =>
        rw [(tk_A hA).2] at hb
        rcases opA_v hA with rfl | rfl <;> exact absurd hb (by decide)
    · exact h h0
theorem sim_Su (hwb : wb = 3 ∨ wb = 4 ∨ wb = 5) : Sim T n wb R S (vSu T n) 5 := by
  refine sim_J hwb (by decide) (fun q s h => ⟨tk_A h, ?_, opA_lt h⟩) (fun q h7 hb h0 => ?_) (sim_T hwb) (vT_g T n)
  · rcases opA_v h with rfl | rfl <;> rfl
  · rcases tk_inv.1 h7 with h | h
    · exact h h0
    · cases hM : opM T n q with
      | none => exact h hM
      | some s =>
        rw [(tk_M hM).2] at hb
        rcases opM_v hM with rfl | rfl | rfl <;> exact absurd hb (by decide)
/-- no joining sign at all behind a sum -/
theorem NJ_5 (h : NJ T n 5 p) : (tkd T n (lx_rn lx_S T n p)).1 ≠ 7 := by
  intro h7
  have h1 := h h7
  rcases tk_inv.1 h7 with h | h
  · cases hA : opA T n (lx_rn lx_S T n p) with
    | none => exact h hA
    | some s =>
      rw [(tk_A hA).2] at h1
      rcases opA_v hA with rfl | rfl <;> exact absurd h1 (by decide)
  · cases hM : opM T n (lx_rn lx_S T n p) with
    | none => exact h hM
    | some s =>
      rw [(tk_M hM).2] at h1
      rcases opM_v hM with rfl | rfl | rfl <;> exact absurd h1 (by decide)
theorem sim_C (hp : p ≤ n) (hP : P ≤ 60) (hW : hb W < 4) : (mr T n p (1, 4, false, W, O, P, R, S) = match vCm T n p P with
    | .inl f => .inl f
    | .inr (p', P', ys) => mr T n p' (5, 5, true, W, O ++ ys, P', R, S)) ∧ ∀ p' P' ys, vCm T n p P = .inr (p', P', ys) → NJ T n 5 p' := by
  have h4 := sim_Su (T := T) (n := n) (R := R) (S := S) (wb := 4) (by decide)
  have h5 := sim_Su (T := T) (n := n) (R := R) (S := S) (wb := 5) (by decide)
  rw [h4.1 p P W O hp hP (by omega)]
  unfold vCm
  cases hv : vSu T n p P with
  | inl f => exact ⟨rfl, fun p' P' zs h => by cases h⟩
  | inr y =>
    obtain ⟨p1, P1, xs⟩ := y
    obtain ⟨g1, g2, g3, g4, g5⟩ := vSu_g T n _ _ hp hP _ _ _ hv
    have n7 := NJ_5 (h4.2 _ _ _ _ _ hp hP hv)
    dsimp only
    rw [mr_st g2 (show (4 : Nat) ≠ 6 by decide) rfl]
    have e0 : mst (tkO T n (lx_rn lx_S T n p1)) 4 4 true W (O ++ xs) P1 R S = _ := mst_4 (fun z => n7 z.2)
    show (match mst (tkO T n (lx_rn lx_S T n p1)) 4 4 true W (O ++ xs) P1 R S with
      | .inl f => Sum.inl (1 + 8 * lx_rn lx_S T n p1 + f)
      | .inr x' => mr T n (tkd T n (lx_rn lx_S T n p1)).2.2 x') = _ ∧ _
    rw [e0]
    cases hC : cmO T n (lx_rn lx_S T n p1) with
    | none =>
      rw [if_neg (show ¬ (tkO T n (lx_rn lx_S T n p1)).1 = 8 from fun z => tk_inv.2.1 z hC)]
      exact ⟨rfl, fun p' P' zs h => by cases h⟩
    | some y =>
      obtain ⟨s, e⟩ := y
      obtain ⟨t1, t2⟩ := tk_C hC
      have cl := cmO_lt hC
      have k8 : (tkO T n (lx_rn lx_S T n p1)).1 = 8 := by show (tkd T n (lx_rn lx_S T n p1)).1 = 8; rw [t1]
      have ks : (tkO T n (lx_rn lx_S T n p1)).2.1 = s := t2
      have b4 : bd s = 4 := by rw [← t2]; exact tk_8 k8
      rw [if_pos k8]
      dsimp only
      by_cases h60 : P1 = 60
      · rw [if_pos h60, if_pos h60]
        refine ⟨?_, fun p' P' zs h => by cases h⟩
        show Sum.inl (1 + 8 * _ + 3) = Sum.inl (4 + 8 * _)
        congr 1
        omega
      · rw [if_neg h60, if_neg h60, ks, t1]
        show mr T n e (1, 5, false, s :: (ptl (bd s) W).2, O ++ xs ++ (ptl (bd s) W).1, P1 + 1, R, S) = _ ∧ _
        rw [b4, ptl_lo hW, List.append_nil, h5.1 e (P1 + 1) (s :: W) (O ++ xs) cl.2.1 (by omega) (by show bd s < 5; omega)]
        cases hv2 : vSu T n e (P1 + 1) with
        | inl f => exact ⟨rfl, fun p' P' zs h => by cases h⟩
        | inr y =>
          obtain ⟨p2, P2, ys⟩ := y
          obtain ⟨k1, k2, k3, k4, k5⟩ := vSu_g T n _ _ cl.2.1 (by omega) _ _ _ hv2
          have nj := h5.2 _ _ _ _ _ cl.2.1 (by omega) hv2
          have n72 := NJ_5 nj
          refine ⟨?_, fun p' P' zs h => ?_⟩
          · show mr T n p2 (5, 5, true, s :: W, O ++ xs ++ ys, P2, R, S) = mr T n p2 (5, 5, true, W, O ++ (xs ++ (ys ++ [s])), P2, R, S)
            rw [mr_fl (b := 4) k2 rfl (Or.inr (Or.inr rfl)) (by decide) (fun _ z => absurd z n72) (fun z => absurd z (by decide))]
            have ep : ptl 4 (s :: W) = ([s], W) := by
              show (if 4 ≤ bd s then (s :: (ptl 4 W).1, (ptl 4 W).2) else _) = _
              rw [if_pos (by omega), ptl_lo hW]
            rw [ep]
            show mr T n p2 (5, 5, true, W, O ++ xs ++ ys ++ [s], P2, R, S) = _
            rw [show O ++ xs ++ ys ++ [s] = O ++ (xs ++ (ys ++ [s])) by rw [List.append_assoc, List.append_assoc]]
          · cases h
            exact nj
end RC
