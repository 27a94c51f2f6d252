/-! the machine's run is the reference's reading -/
/-- behind a clause -/
def aft (T : Nat → Int32) (n wb p' P' : Nat) (R : fxRl) : Nat ⊕ fxRl := if lx_rn lx_S T n p' < n ∧ T (lx_rn lx_S T n p') = nI 59 then mr T n (lx_rn lx_S T n p' + 1) (0, wb, false, [], [], P', R, none) else if lx_rn lx_S T n p' < n then .inl (1 + 8 * lx_rn lx_S T n p') else .inr R
section RE
variable {T : Nat → Int32} {n p q : Nat} {want wb P c : Nat} {bv : Bool} {W O : List Nat} {R : fxRl} {S : Option (List Nat)}
theorem aft_of {P' : Nat} {r : Nat ⊕ fxRl} (hq : lx_rn lx_S T n p = q) (h4 : (tkd T n q).1 = 4 → r = mr T n (q + 1) (0, wb, false, [], [], P', R, none)) (h0 : (tkd T n q).1 = 0 → r = .inr R) (hn : ¬ ((tkd T n q).1 = 4 ∨ (tkd T n q).1 = 0) → r = .inl (1 + 8 * q)) : r = aft T n wb p P' R := by
  unfold aft
  rw [hq]
  by_cases h : q < n ∧ T q = nI 59
  · rw [if_pos h]
    exact h4 (by rw [tk_59 h.1 h.2])
  · rw [if_neg h]
    have n4 : ¬ (tkd T n q).1 = 4 := fun z => h (tk_inv.2.2.1 z)
    by_cases h2 : q < n
    · rw [if_pos h2]
      exact hn (fun z => z.elim n4 (fun z => tk_inv.2.2.2.2.2.1 z h2))
    · rw [if_neg h2]
      exact h0 (by rw [tk_n h2])
theorem sim_Te {s : List Nat} : ∀ k p P O W, n + 1 - p ≤ k → p ≤ n → P ≤ 60 → okO W → dp W ≤ 10 → ∀ wb, mr T n p (2, wb, false, W, O, P, R, some s) = match rdT T n k p P O W with
    | .inl f => .inl f
    | .inr (p', P', zs) => aft T n 5 p' P' (R ++ [(s, some zs)]) := by
  intro k
  induction k with
  | zero =>
    intro p P O W hk hp
    omega
  | succ k ih =>
    intro p P O W hk hp hP hO hd wb
    obtain ⟨s1, s2⟩ := sim_F (T := T) (R := R) (S := some s) (n + 1) p P W (by omega) hp hP hO wb O
    rw [s1]
    unfold rdT
    cases hv : vFa T n (n + 1) p P W with
    | inl f => rfl
    | inr y =>
      obtain ⟨p1, P1, ys, O1⟩ := y
      have n7 := NJ_5 (s2 _ _ _ _ hv)
      obtain ⟨g1, g2, g3, g4, g5, g6, g7⟩ := vFa_g T n _ _ _ _ _ _ _ _ hp hP hO hd hv
      dsimp only
      have hO3 := g6.tl (b := 3)
      have hd3 : dp (stl 3 O1).2 ≤ 10 := by have := stl_dp 3 O1; omega
      rw [mr_bv g2 rfl (by decide) n7, mr_fl (b := 3) g2 rfl (Or.inr (Or.inr rfl)) (by decide) (fun z => by cases z) (fun z => absurd z (by decide)), ← stl_ptl 3 O1 g6, List.append_assoc]
      obtain ⟨k1, k2⟩ := sim_K (T := T) (P := P1) (R := R) (S := some s) n p1 (O ++ (ys ++ (stl 3 O1).1)) (stl 3 O1).2 (by omega) g2 hO3
      rw [k1]
      obtain ⟨c1, c2, c3, c4, c5, c6⟩ := rdC_g T n n p1 (O ++ (ys ++ (stl 3 O1).1)) (stl 3 O1).2 g2 hO3 hd3 (by omega)
      generalize rdC T n n p1 (O ++ (ys ++ (stl 3 O1).1)) (stl 3 O1).2 = c at k2 c1 c2 c3 c4 c5 c6 ⊢
      obtain ⟨q, Oc, Wc⟩ := c
      dsimp only at k2 c1 c2 c3 c4 c5 c6 ⊢
      unfold rdU
      dsimp only
      rw [mr_st c2 (show (5 : Nat) ≠ 6 by decide) c6]
      have m5 : mst (tkO T n q) 5 5 false Wc Oc P1 R (some s) = _ := mst_5 (fun z => by cases z.1)
      show (match mst (tkO T n q) 5 5 false Wc Oc P1 R (some s) with
        | .inl f => Sum.inl (1 + 8 * q + f)
        | .inr x' => mr T n (tkd T n q).2.2 x') = _
      rw [m5]
      by_cases ha : lx_wk T n q = 6385252
      · obtain ⟨t1, t2, t3, t4⟩ := tk_W c2 (show 0 < lx_wk T n q by omega)
        rw [if_pos ((wk_i (i := 21) (by decide) (by decide)).mpr ha), if_pos ha, t1]
        show mr T n (lx_rn lx_L T n q) (2, 5, false, 12 :: (ptl 2 Wc).2, Oc ++ (ptl 2 Wc).1, P1, R, some s) = _
        rw [← stl_ptl 2 Wc c4]
        refine ih _ _ _ _ (by omega) t3 g4 (fun o ho => ?_) ?_ 5
        · rcases List.mem_cons.mp ho with rfl | ho
          · exact Or.inr (Or.inl rfl)
          · exact c4.tl o ho
        · show dp (stl 2 Wc).2 + 0 ≤ 10
          have := stl_dp 2 Wc
          omega
      rw [if_neg (fun z => ha ((wk_i (i := 21) (by decide) (by decide)).mp z)), if_neg ha]
      by_cases ho : lx_wk T n q = 28530
      · obtain ⟨t1, t2, t3, t4⟩ := tk_W c2 (show 0 < lx_wk T n q by omega)
        rw [if_pos ((wk_i (i := 22) (by decide) (by decide)).mpr ho), if_pos ho, t1]
        show mr T n (lx_rn lx_L T n q) (2, 5, false, 13 :: (ptl 1 Wc).2, Oc ++ (ptl 1 Wc).1, P1, R, some s) = _
        rw [← stl_ptl 1 Wc c4]
        refine ih _ _ _ _ (by omega) t3 g4 (fun o ho => ?_) ?_ 5
        · rcases List.mem_cons.mp ho with rfl | ho
          · exact Or.inr (Or.inr (Or.inl rfl))
          · exact c4.tl o ho
        · show dp (stl 1 Wc).2 + 0 ≤ 10
          have := stl_dp 1 Wc
          omega
      rw [if_neg (fun z => ho ((wk_i (i := 22) (by decide) (by decide)).mp z)), if_neg ho, if_neg (fun z => k2 ⟨tk_inv.2.2.2.2.1 z.1, z.2⟩)]
      by_cases hI : isI Wc = true
      · rw [if_pos hI, if_neg (fun z => by rw [hI] at z; cases z.2)]
        rfl
      · have hI2 : isI Wc = false := by
          cases h : isI Wc with
          | true => exact absurd h hI
          | false => rfl
        rw [if_neg hI]
        dsimp only
        have hp1 := okO_nil Wc c4 hI2
        refine aft_of c6 (fun h4 => ?_) (fun h0 => ?_) (fun hn => ?_)
        · have k4 : (tkO T n q).1 = 4 := h4
          have hq := tk_inv.2.2.1 h4
          rw [if_pos ⟨Or.inl k4, hI2⟩, hp1, stl_ptl 1 Wc c4, k4, tk_59 hq.1 hq.2]
          rfl
        · have k0 : (tkO T n q).1 = 0 := h0
          rw [if_pos ⟨Or.inr k0, hI2⟩, hp1, stl_ptl 1 Wc c4, k0]
          exact mr_6 rfl
        · rw [if_neg (fun z => hn z.1)]
          rfl
theorem sim_R : ∀ k p P R, n + 1 - p ≤ k → p ≤ n → P ≤ 60 → ∀ wb, mr T n p (0, wb, false, [], [], P, R, none) = rdR T n k p P R := by
  intro k
  induction k with
  | zero =>
    intro p P R hk hp
    omega
  | succ k ih =>
    intro p P R hk hp hP wb
    have hqn : lx_rn lx_S T n p ≤ n := rn_le hp
    have hqp : p ≤ lx_rn lx_S T n p := rn_ge
    have hsk := rn_idem (P := lx_S) (T := T) hp
    unfold rdR vC1
    rw [mr_st hp (show (0 : Nat) ≠ 6 by decide) rfl]
    generalize lx_rn lx_S T n p = q at hqn hqp hsk ⊢
    show (match mst (tkO T n q) 0 wb false [] [] P R none with
      | .inl f => Sum.inl (1 + 8 * q + f)
      | .inr x' => mr T n (tkd T n q).2.2 x') = _
    rw [mst_c]
    by_cases hr : lx_wk T n q = 1919509605
    · obtain ⟨t1, t2, t3, t4⟩ := tk_W hqn (show 0 < lx_wk T n q by omega)
      rw [if_pos ((wk_i (i := 26) (by decide) (by decide)).mpr hr), if_pos hr]
      by_cases h12 : R.length = 12
      · rw [if_pos h12, if_pos h12]
        show Sum.inl (1 + 8 * q + 4) = Sum.inl (5 + 8 * q)
        congr 1
        omega
      · rw [if_neg h12, if_neg h12, t1]
        have hS := sim_Su (T := T) (n := n) (R := R) (S := none) (wb := 3) (by decide)
        show mr T n (lx_rn lx_L T n q) (1, 3, false, [], [], P, R, none) = _
        rw [hS.1 (lx_rn lx_L T n q) P [] [] t3 hP (by decide)]
        unfold vRi
        cases hv : vSu T n (lx_rn lx_L T n q) P with
        | inl f => rfl
        | inr y =>
          obtain ⟨p1, P1, xs⟩ := y
          obtain ⟨g1, g2, g3, g4, g5⟩ := vSu_g T n _ _ t3 hP _ _ _ hv
          have n7 := NJ_5 (hS.2 _ _ _ _ _ t3 hP hv)
          have hq1 : lx_rn lx_S T n p1 ≤ n := rn_le g2
          have hq1p : p1 ≤ lx_rn lx_S T n p1 := rn_ge
          have hsk1 := rn_idem (P := lx_S) (T := T) g2
          dsimp only
          rw [mr_st g2 (show (3 : Nat) ≠ 6 by decide) rfl]
          generalize lx_rn lx_S T n p1 = q1 at n7 hq1 hq1p hsk1 ⊢
          have m3 : mst (tkO T n q1) 3 3 true [] ([] ++ xs) P1 R none = _ := mst_3 (fun z => n7 z.2)
          show (match mst (tkO T n q1) 3 3 true [] ([] ++ xs) P1 R none with
            | .inl f => Sum.inl (1 + 8 * q1 + f)
            | .inr x' => mr T n (tkd T n q1).2.2 x') = _
          rw [m3]
          have aftE : ∀ wb2 p2 P2 (o : Option (List Nat)), p2 ≤ n → P2 ≤ 60 → n - p2 < k → aft T n wb2 p2 P2 (R ++ [(xs, o)]) = (if lx_rn lx_S T n p2 < n ∧ T (lx_rn lx_S T n p2) = nI 59 then rdR T n k (lx_rn lx_S T n p2 + 1) P2 (R ++ [(xs, o)]) else if lx_rn lx_S T n p2 < n then .inl (1 + 8 * lx_rn lx_S T n p2) else .inr (R ++ [(xs, o)])) := by
            intro wb2 p2 P2 o h2 hP2 hk2
            have hge : p2 ≤ lx_rn lx_S T n p2 := rn_ge
            unfold aft
            by_cases h : lx_rn lx_S T n p2 < n ∧ T (lx_rn lx_S T n p2) = nI 59
            · rw [if_pos h, if_pos h]
              exact ih _ _ _ (by omega) h.1 hP2 wb2
            · rw [if_neg h, if_neg h]
          by_cases hf : lx_wk T n q1 = 26982
          · obtain ⟨u1, u2, u3, u4⟩ := tk_W hq1 (show 0 < lx_wk T n q1 by omega)
            rw [if_pos ((wk_i (i := 25) (by decide) (by decide)).mpr hf), if_pos hf, u1]
            show mr T n (lx_rn lx_L T n q1) (2, 3, false, [], [], P1, R, some ([] ++ xs ++ [])) = _
            rw [List.append_nil, List.nil_append, sim_Te (T := T) (n + 1) (lx_rn lx_L T n q1) P1 [] [] (by omega) u3 g4 (fun o ho => by cases ho) (by decide) 3]
            cases hv2 : rdT T n (n + 1) (lx_rn lx_L T n q1) P1 [] [] with
            | inl f => rfl
            | inr y =>
              obtain ⟨p2, P2, zs⟩ := y
              obtain ⟨r1, r2, r3, r4, r5⟩ := rdT_g T n _ _ _ _ _ _ _ _ u3 g4 (fun o ho => by cases ho) (by decide) hv2
              exact aftE 5 p2 P2 (some zs) r2 r4 (by omega)
          · rw [if_neg (fun z => hf ((wk_i (i := 25) (by decide) (by decide)).mp z)), if_neg hf]
            dsimp only
            rw [← aftE 3 q1 P1 none hq1 g4 (by omega)]
            refine aft_of hsk1 (fun h4 => ?_) (fun h0 => ?_) (fun hn => ?_)
            · have k4 : (tkO T n q1).1 = 4 := h4
              have hq := tk_inv.2.2.1 h4
              rw [if_pos (Or.inl k4), k4, tk_59 hq.1 hq.2]
              show mr T n (q1 + 1) (0, 3, false, [], [], P1, R ++ [([] ++ xs ++ [], none)], none) = _
              rw [List.append_nil, List.nil_append]
            · have k0 : (tkO T n q1).1 = 0 := h0
              rw [if_pos (Or.inr k0), k0]
              show mr T n _ (6, 3, false, [], [], P1, R ++ [([] ++ xs ++ [], none)], none) = _
              rw [List.append_nil, List.nil_append]
              exact mr_6 rfl
            · rw [if_neg (show ¬ ((tkO T n q1).1 = 4 ∨ (tkO T n q1).1 = 0) from hn)]
              rfl
    · rw [if_neg (fun z => hr ((wk_i (i := 26) (by decide) (by decide)).mp z)), if_neg hr]
      rfl
theorem mrun_rdR (w : Nat) : mrun T n (n + 1) 0 (mr0 w) = rdR T n (n + 1) 0 0 [] := sim_R (n + 1) 0 0 [] (by omega) (Nat.zero_le _) (by decide) w
end RE
