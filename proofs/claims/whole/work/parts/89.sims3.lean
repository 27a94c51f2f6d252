/-! the machine's run over facts and tests -/
theorem stl_ptl (b : Nat) : ∀ W, okO W → stl b W = ptl b W
  | [], _ => rfl
  | o :: r, h => by
    have e : stg o = bd o := by rcases h o (List.mem_cons_self ..) with rfl | rfl | rfl | rfl <;> rfl
    have ih := stl_ptl b r (fun x hx => h x (List.mem_cons_of_mem _ hx))
    show (if b ≤ stg o then (o :: (stl b r).1, (stl b r).2) else ([], o :: r)) = (if b ≤ bd o then (o :: (ptl b r).1, (ptl b r).2) else ([], o :: r))
    rw [e, ih]
theorem okO_hb {W : List Nat} (h : okO W) : hb W < 4 := by
  cases W with
  | nil => decide
  | cons o r =>
    show bd o < 4
    rcases h o (List.mem_cons_self ..) with rfl | rfl | rfl | rfl <;> decide
theorem okO_nil : ∀ W, okO W → isI W = false → (ptl 1 W).2 = []
  | [], _, _ => rfl
  | o :: r, h, hI => by
    have hI : ((o == 91) || isI r) = false := hI
    have h1 : (o == 91) = false := (Bool.or_eq_false_iff.mp hI).1
    have h2 := (Bool.or_eq_false_iff.mp hI).2
    have b1 : 1 ≤ bd o := by
      rcases h o (List.mem_cons_self ..) with rfl | rfl | rfl | rfl
      · decide
      · decide
      · decide
      · exact absurd h1 (by decide)
    show (if 1 ≤ bd o then (o :: (ptl 1 r).1, (ptl 1 r).2) else ([], o :: r)).2 = []
    rw [if_pos b1]
    exact okO_nil r (fun x hx => h x (List.mem_cons_of_mem _ hx)) h2
section RD
variable {T : Nat → Int32} {n p q : Nat} {want wb P c : Nat} {bv : Bool} {W O : List Nat} {R : fxRl} {S : Option (List Nat)}
theorem tk_W (hqn : q ≤ n) (h : 0 < lx_wk T n q) : tkd T n q = (2, 0, lx_rn lx_L T n q) ∧ q < lx_rn lx_L T n q ∧ lx_rn lx_L T n q ≤ n ∧ q < n := by
  have hlt := wk_0 h rfl
  have hle := rn_le (P := lx_L) (T := T) hqn
  have hL : lx_L (T q) = true := rn_all (n := n) (p := q) (Nat.le_refl _) hlt
  refine ⟨?_, hlt, hle, by omega⟩
  unfold tkd
  have hD : ¬ lx_D (T q) = true := by
    intro hD
    obtain ⟨k, k1, k2, k3, k4⟩ := lx_L_of hL
    obtain ⟨d, d1, d2, d3⟩ := lx_D_of hD
    omega
  rw [if_pos (show q < n by omega), if_neg hD, if_pos hL]
theorem wk_i {i : Nat} (hi : i < 27) (h0 : 0 < wKy i) : (tkO T n q).2.2.2.2 = some i ↔ lx_wk T n q = wKy i := by
  rw [tkO_w, wIx_iff]
  exact ⟨fun z => z.2.2, fun z => ⟨hi, h0, z⟩⟩
theorem sim_F : ∀ k p P Os, n + 1 - p ≤ k → p ≤ n → P ≤ 60 → okO Os → ∀ wb O, (mr T n p (2, wb, false, Os, O, P, R, S) = match vFa T n k p P Os with
    | .inl f => .inl f
    | .inr (p', P', ys, O1) => mr T n p' (5, 5, true, O1, O ++ ys, P', R, S)) ∧ ∀ p' P' ys O1, vFa T n k p P Os = .inr (p', P', ys, O1) → NJ T n 5 p' := by
  intro k
  induction k with
  | zero =>
    intro p P Os hk hp
    omega
  | succ k ih =>
    intro p P Os hk hp hP hO wb O
    unfold vFa
    have hqn : lx_rn lx_S T n p ≤ n := rn_le hp
    have hqp : p ≤ lx_rn lx_S T n p := rn_ge
    have hsk := rn_idem (P := lx_S) (T := T) hp
    have e0 := mr_st (T := T) (x := (2, wb, false, Os, O, P, R, S)) hp (show (2 : Nat) ≠ 6 by decide) rfl
    have e1 := mr_st (T := T) (x := (1, 4, false, Os, O, P, R, S)) hp (show (1 : Nat) ≠ 6 by decide) rfl
    have e2 : mr T n (lx_rn lx_S T n p) (1, 4, false, Os, O, P, R, S) = mr T n p (1, 4, false, Os, O, P, R, S) := mr_sk hp
    generalize lx_rn lx_S T n p = q at hqn hqp hsk e0 e1 e2 ⊢
    have e0 : mr T n p (2, wb, false, Os, O, P, R, S) = (match mst (tkO T n q) 2 wb false Os O P R S with
      | .inl f => .inl (1 + 8 * q + f)
      | .inr x' => mr T n (tkd T n q).2.2 x') := e0
    have e1 : mr T n p (1, 4, false, Os, O, P, R, S) = (match mst (tkO T n q) 1 4 false Os O P R S with
      | .inl f => .inl (1 + 8 * q + f)
      | .inr x' => mr T n (tkd T n q).2.2 x') := e1
    rw [e0, mst_2]
    by_cases hw : lx_wk T n q = 7237492
    · obtain ⟨t1, t2, t3, t4⟩ := tk_W hqn (show 0 < lx_wk T n q by omega)
      rw [if_pos ((wk_i (i := 23) (by decide) (by decide)).mpr hw), if_pos hw]
      by_cases h10 : dp Os = 10
      · rw [if_pos h10, if_pos h10]
        refine ⟨?_, fun p' P' ys O1 h => by cases h⟩
        show Sum.inl (1 + 8 * q + 2) = Sum.inl (3 + 8 * q)
        congr 1
        omega
      · rw [if_neg h10, if_neg h10, t1]
        exact ih (lx_rn lx_L T n q) P (11 :: Os) (by omega) t3 hP (fun o ho => by
          rcases List.mem_cons.mp ho with rfl | ho
          · exact Or.inl rfl
          · exact hO o ho) wb O
    · rw [if_neg (fun z => hw ((wk_i (i := 23) (by decide) (by decide)).mp z)), if_neg hw]
      by_cases h91 : q < n ∧ T q = nI 91
      · have t1 := tk_91 h91.1 h91.2
        have k5 : (tkO T n q).1 = 5 := by show (tkd T n q).1 = 5; rw [t1]
        rw [if_pos k5, if_pos h91]
        by_cases h10 : dp Os = 10
        · rw [if_pos h10, if_pos h10]
          refine ⟨?_, fun p' P' ys O1 h => by cases h⟩
          show Sum.inl (1 + 8 * q + 2) = Sum.inl (3 + 8 * q)
          congr 1
          omega
        · rw [if_neg h10, if_neg h10, t1]
          exact ih (q + 1) P (91 :: Os) (by omega) h91.1 hP (fun o ho => by
            rcases List.mem_cons.mp ho with rfl | ho
            · exact Or.inr (Or.inr (Or.inr rfl))
            · exact hO o ho) wb O
      · rw [if_neg (show ¬ (tkO T n q).1 = 5 from fun z => h91 (tk_inv.2.2.2.1 z)), if_neg h91, ← mst_1, ← e1, ← e2]
        obtain ⟨s1, s2⟩ := sim_C (T := T) (R := R) (S := S) (O := O) hqn hP (okO_hb hO)
        rw [s1]
        cases hv : vCm T n q P with
        | inl f => exact ⟨rfl, fun p' P' ys O1 h => by cases h⟩
        | inr y =>
          obtain ⟨p2, P2, ys⟩ := y
          exact ⟨rfl, fun p' P' ys O1 h => by cases h; exact s2 _ _ _ hv⟩
theorem sim_K : ∀ k p O W, n - p ≤ k → p ≤ n → okO W → mr T n p (5, 5, false, W, O, P, R, S) = mr T n (rdC T n k p O W).1 (5, 5, false, (rdC T n k p O W).2.2, (rdC T n k p O W).2.1, P, R, S) ∧ ¬ (((rdC T n k p O W).1 < n ∧ T (rdC T n k p O W).1 = nI 93) ∧ isI (rdC T n k p O W).2.2 = true) := by
  intro k
  induction k with
  | zero =>
    intro p O W hk hp hO
    have : p ≤ lx_rn lx_S T n p := rn_ge
    exact ⟨(mr_sk hp).symm, fun z => by have h : lx_rn lx_S T n p < n := z.1.1; omega⟩
  | succ k ih =>
    intro p O W hk hp hO
    have hqn : lx_rn lx_S T n p ≤ n := rn_le hp
    have hqp : p ≤ lx_rn lx_S T n p := rn_ge
    have er : rdC T n (k + 1) p O W = if (lx_rn lx_S T n p < n ∧ T (lx_rn lx_S T n p) = nI 93) ∧ isI W = true then rdC T n k (lx_rn lx_S T n p + 1) (O ++ ((stl 1 W).1 ++ (stl 3 (stl 1 W).2.tail).1)) (stl 3 (stl 1 W).2.tail).2 else (lx_rn lx_S T n p, O, W) := rfl
    by_cases hc : (lx_rn lx_S T n p < n ∧ T (lx_rn lx_S T n p) = nI 93) ∧ isI W = true
    · rw [if_pos hc] at er
      rw [er]
      have t1 := tk_93 hc.1.1 hc.1.2
      have wz : lx_wk T n (lx_rn lx_S T n p) = 0 := wk_no (fun _ => by rw [hc.1.2]; decide)
      have k6 : (tkO T n (lx_rn lx_S T n p)).1 = 6 := by show (tkd T n (lx_rn lx_S T n p)).1 = 6; rw [t1]
      have e0 : mr T n p (5, 5, false, W, O, P, R, S) = mr T n (lx_rn lx_S T n p + 1) (5, 5, false, (ptl 1 W).2.tail, O ++ (ptl 1 W).1, P, R, S) := by
        rw [mr_st hp (show (5 : Nat) ≠ 6 by decide) rfl]
        have m5 : mst (tkO T n (lx_rn lx_S T n p)) 5 5 false W O P R S = .inr (5, 5, false, (ptl 1 W).2.tail, O ++ (ptl 1 W).1, P, R, S) := by
          rw [mst_5 (fun z => by cases z.1), if_neg (fun z => by have := (wk_i (i := 21) (by decide) (by decide)).mp z; rw [wz] at this; exact absurd this (by decide)), if_neg (fun z => by have := (wk_i (i := 22) (by decide) (by decide)).mp z; rw [wz] at this; exact absurd this (by decide)), if_pos ⟨k6, hc.2⟩]
        show (match mst (tkO T n (lx_rn lx_S T n p)) 5 5 false W O P R S with
          | .inl f => Sum.inl (1 + 8 * lx_rn lx_S T n p + f)
          | .inr x' => mr T n (tkd T n (lx_rn lx_S T n p)).2.2 x') = _
        rw [m5, t1]
      have hO2 : okO (stl 1 W).2.tail := fun o ho => hO.tl (b := 1) o (List.mem_of_mem_tail ho)
      have hO3 : okO (stl 3 (stl 1 W).2.tail).2 := hO2.tl
      rw [e0, mr_fl (b := 3) (show lx_rn lx_S T n p + 1 ≤ n from hc.1.1) rfl (Or.inr (Or.inr rfl)) (by decide) (fun z => by cases z) (fun z => absurd z (by decide)), ← stl_ptl 1 W hO, ← stl_ptl 3 _ hO2, List.append_assoc]
      exact ih _ _ _ (by omega) hc.1.1 hO3
    · rw [if_neg hc] at er
      rw [er]
      exact ⟨(mr_sk hp).symm, hc⟩
end RD
