/-! tests that were read are whole -/
def nb : List Nat → Nat
  | [] => 0
  | o :: r => nb r + (if o = 12 ∨ o = 13 then 1 else 0)
theorem nb_app (a b : List Nat) : nb (a ++ b) = nb a + nb b := by
  induction a with
  | nil => show nb b = 0 + nb b; omega
  | cons o r ih =>
    show nb (r ++ b) + _ = nb r + _ + nb b
    rw [ih]
    omega
def TS (xs : List Nat) (k : Nat) : Prop := (∀ L, vDp (xs ++ L) 0 = vDp L k) ∧ (∀ w, ∃ st : List Int64, st.length = k ∧ (∀ a, a ∈ st → a = 0 ∨ a = 1) ∧ ∀ L, vEv w (xs ++ L) [] = vEv w L st) ∧ ∀ x, x ∈ xs → x < 2 ^ 30
theorem TS_nil : TS [] 0 := ⟨fun L => rfl, fun w => ⟨[], rfl, fun a h => by (cases h), fun L => rfl⟩, fun x h => by (cases h)⟩
theorem TS_fact {xs ys : List Nat} {k m : Nat} (hx : TS xs k) (hy : EB ys m) (hk : k + m ≤ 60) : TS (xs ++ ys) (k + 1) := by
  refine ⟨fun L => ?_, fun w => ?_, fun x h => ?_⟩
  · rw [List.append_assoc, hx.1, hy.1 L k hk]
  · obtain ⟨st, s1, s2, s3⟩ := hx.2.1 w
    obtain ⟨v, v1, v2⟩ := hy.2.1 w
    refine ⟨v :: st, by rw [List.length_cons, s1], fun a h => ?_, fun L => ?_⟩
    · rcases List.mem_cons.mp h with h | h
      · rw [h]
        exact v1
      · exact s2 a h
    · rw [List.append_assoc, s3, v2]
  · rcases List.mem_append.mp h with h | h
    · exact hx.2.2 x h
    · exact hy.2.2 x h
theorem b_not : ∀ a : Int64, (a = 0 ∨ a = 1) → (1 - a = 0 ∨ 1 - a = 1) := fun a h => by rcases h with rfl | rfl <;> decide
theorem b_and : ∀ a b : Int64, (a = 0 ∨ a = 1) → (b = 0 ∨ b = 1) → (a &&& b = 0 ∨ a &&& b = 1) := fun a b h g => by rcases h with rfl | rfl <;> rcases g with rfl | rfl <;> decide
theorem b_or : ∀ a b : Int64, (a = 0 ∨ a = 1) → (b = 0 ∨ b = 1) → (a ||| b = 0 ∨ a ||| b = 1) := fun a b h g => by rcases h with rfl | rfl <;> rcases g with rfl | rfl <;> decide
theorem TS_not {xs : List Nat} {k : Nat} (hx : TS xs (k + 1)) : TS (xs ++ [11]) (k + 1) := by
  refine ⟨fun L => ?_, fun w => ?_, fun x h => ?_⟩
  · rw [List.append_assoc, hx.1]
    show (if 1 ≤ k + 1 then vDp L (k + 1) else none) = _
    rw [if_pos (by omega)]
  · obtain ⟨st, s1, s2, s3⟩ := hx.2.1 w
    match st, s1, s2, s3 with
    | a :: r, s1, s2, s3 =>
      refine ⟨(1 - a) :: r, s1, fun b h => ?_, fun L => ?_⟩
      · rcases List.mem_cons.mp h with h | h
        · rw [h]
          exact b_not a (s2 a (List.mem_cons_self ..))
        · exact s2 b (List.mem_cons_of_mem _ h)
      · rw [List.append_assoc, s3]
        rfl
  · rcases List.mem_append.mp h with h | h
    · exact hx.2.2 x h
    · rcases List.mem_cons.mp h with h | h
      · omega
      · cases h
theorem TS_bin {xs : List Nat} {k o : Nat} (ho : o = 12 ∨ o = 13) (hx : TS xs (k + 2)) : TS (xs ++ [o]) (k + 1) := by
  refine ⟨fun L => ?_, fun w => ?_, fun x h => ?_⟩
  · rw [List.append_assoc, hx.1]
    exact vDp_b L (by omega)
  · obtain ⟨st, s1, s2, s3⟩ := hx.2.1 w
    match st, s1, s2, s3 with
    | b :: a :: r, s1, s2, s3 =>
      refine ⟨vOne o a b :: r, Nat.succ.inj s1, fun c h => ?_, fun L => ?_⟩
      · have ha := s2 a (List.mem_cons_of_mem _ (List.mem_cons_self ..))
        have hb := s2 b (List.mem_cons_self ..)
        rcases List.mem_cons.mp h with h | h
        · rw [h]
          rcases ho with rfl | rfl
          · exact b_and a b ha hb
          · exact b_or a b ha hb
        · exact s2 c (List.mem_cons_of_mem _ (List.mem_cons_of_mem _ h))
      · rw [List.append_assoc, s3]
        show vEv w L (vTk w o (b :: a :: r)) = _
        rw [vTk_b w a b r (by omega)]
    | [b], s1, _, _ => exact absurd s1 (by show ¬ 1 = k + 2; omega)
    | [], s1, _, _ => exact absurd s1 (by show ¬ 0 = k + 2; omega)
  · rcases List.mem_append.mp h with h | h
    · exact hx.2.2 x h
    · rcases List.mem_cons.mp h with h | h
      · omega
      · cases h
theorem TS_pop : ∀ (a xs : List Nat) (k : Nat), (∀ o, o ∈ a → o = 11 ∨ o = 12 ∨ o = 13) → TS xs (nb a + k + 1) → TS (xs ++ a) (k + 1)
  | [], xs, k, _, h => by
    rw [List.append_nil]
    have e : nb [] + k + 1 = k + 1 := by show 0 + k + 1 = _; omega
    rw [e] at h
    exact h
  | o :: r, xs, k, ha, h => by
    have ho := ha o (List.mem_cons_self ..)
    rw [show xs ++ o :: r = (xs ++ [o]) ++ r by rw [List.append_assoc]; rfl]
    refine TS_pop r (xs ++ [o]) k (fun x hx => ha x (List.mem_cons_of_mem _ hx)) ?_
    have e : nb (o :: r) = nb r + (if o = 12 ∨ o = 13 then 1 else 0) := rfl
    rw [e] at h
    rcases ho with rfl | ho
    · rw [if_neg (by decide)] at h
      exact TS_not h
    · rw [if_pos ho, show nb r + 1 + k + 1 = nb r + k + 2 by omega] at h
      exact TS_bin ho h
theorem stl_el {b : Nat} (hb : 1 ≤ b) : ∀ W, okO W → ∀ o, o ∈ (stl b W).1 → o = 11 ∨ o = 12 ∨ o = 13
  | [], _, o, h => by cases h
  | x :: r, hW, o, h => by
    unfold stl at h
    split at h
    · rename_i hx
      rcases List.mem_cons.mp h with h | h
      · subst h
        rcases hW o (List.mem_cons_self ..) with e | e | e | e
        · exact Or.inl e
        · exact Or.inr (Or.inl e)
        · exact Or.inr (Or.inr e)
        · subst e
          exact absurd hx (by show ¬ b ≤ 0; omega)
      · exact stl_el hb r (fun y hy => hW y (List.mem_cons_of_mem _ hy)) o h
    · cases h
theorem stl_nb (b : Nat) (W : List Nat) : nb (stl b W).1 + nb (stl b W).2 = nb W := by rw [← nb_app, stl_app]
theorem TS_stl {b : Nat} {W xs : List Nat} (hb : 1 ≤ b) (hW : okO W) (h : TS xs (nb W + 1)) : TS (xs ++ (stl b W).1) (nb (stl b W).2 + 1) := TS_pop _ _ _ (stl_el hb W hW) (by rw [stl_nb]; exact h)
theorem nb_tail (W : List Nat) (r : List Nat) (h : W = 91 :: r) : nb W.tail = nb W := by
  subst h
  rfl
section WG
variable {T : Nat → Int32} {n : Nat}
theorem vFa_e : ∀ k p P Os p' P' ys O1, p ≤ n → P ≤ 60 → vFa T n k p P Os = .inr (p', P', ys, O1) → P < P' ∧ EB ys (P' - P) ∧ nb O1 = nb Os
  | 0, p, P, Os, p', P', ys, O1, hp, hP, h => by cases h
  | k + 1, p, P, Os, p', P', ys, O1, hp, hP, h => by
    unfold vFa at h
    have hqn : lx_rn lx_S T n p ≤ n := rn_le hp
    generalize lx_rn lx_S T n p = q at h hqn
    by_cases hw : lx_wk T n q = 7237492
    · rw [if_pos hw] at h
      by_cases h10 : dp Os = 10
      · rw [if_pos h10] at h
        cases h
      rw [if_neg h10] at h
      exact vFa_e k _ P (11 :: Os) p' P' ys O1 (rn_le hqn) hP h
    rw [if_neg hw] at h
    by_cases h91 : q < n ∧ T q = nI 91
    · rw [if_pos h91] at h
      by_cases h10 : dp Os = 10
      · rw [if_pos h10] at h
        cases h
      rw [if_neg h10] at h
      exact vFa_e k _ P (91 :: Os) p' P' ys O1 h91.1 hP h
    rw [if_neg h91] at h
    cases hv : vCm T n q P with
    | inl f =>
      rw [hv] at h
      cases h
    | inr y =>
      obtain ⟨p2, P2, zs⟩ := y
      rw [hv] at h
      obtain ⟨e1, e2⟩ := vCm_e hqn hP hv
      cases h
      exact ⟨e1, e2, rfl⟩
theorem rdC_e : ∀ k p xs Os, okO Os → TS xs (nb Os + 1) → TS (rdC T n k p xs Os).2.1 (nb (rdC T n k p xs Os).2.2 + 1) ∧ nb (rdC T n k p xs Os).2.2 ≤ nb Os
  | 0, p, xs, Os, hO, h => ⟨h, Nat.le_refl _⟩
  | k + 1, p, xs, Os, hO, h => by
    unfold rdC
    by_cases hc : (lx_rn lx_S T n p < n ∧ T (lx_rn lx_S T n p) = nI 93) ∧ isI Os = true
    · rw [if_pos hc]
      obtain ⟨r, hr⟩ := stl_91 Os hO hc.2
      have h1 := TS_stl (b := 1) (by decide) hO h
      have hO1 : okO (stl 1 Os).2.tail := fun o ho => hO.tl (b := 1) o (List.mem_of_mem_tail ho)
      rw [← nb_tail _ r hr] at h1
      have h3 := TS_stl (b := 3) (by decide) hO1 h1
      rw [List.append_assoc] at h3
      obtain ⟨i1, i2⟩ := rdC_e k (lx_rn lx_S T n p + 1) _ _ (hO1.tl (b := 3)) h3
      refine ⟨i1, ?_⟩
      have s1 := stl_nb 1 Os
      have s2 := stl_nb 3 (stl 1 Os).2.tail
      have s3 := nb_tail _ r hr
      omega
    · rw [if_neg hc]
      exact ⟨h, Nat.le_refl _⟩
theorem rdT_e : ∀ k p P xs Os p' P' zs, p ≤ n → P ≤ 60 → okO Os → dp Os ≤ 10 → TS xs (nb Os) → nb Os ≤ P → rdT T n k p P xs Os = .inr (p', P', zs) → TS zs 1
  | 0, p, P, xs, Os, p', P', zs, _, _, _, _, _, _, h => by cases h
  | k + 1, p, P, xs, Os, p', P', zs, hp, hP, hO, hd, hx, hn, h => by
    unfold rdT at h
    cases hv : vFa T n (n + 1) p P Os with
    | inl f =>
      rw [hv] at h
      cases h
    | inr y =>
      obtain ⟨p1, P1, ys, O1⟩ := y
      rw [hv] at h
      obtain ⟨g1, g2, g3, g4, g5, g6, g7⟩ := vFa_g T n _ _ _ _ _ _ _ _ hp hP hO hd hv
      obtain ⟨e1, e2, e3⟩ := vFa_e _ _ _ _ _ _ _ _ hp hP hv
      dsimp only at h
      have h1 := TS_fact hx e2 (by omega)
      rw [← e3] at h1
      have h3 := TS_stl (b := 3) (by decide) g6 h1
      rw [List.append_assoc] at h3
      have hO3 := g6.tl (b := 3)
      have hd3 : dp (stl 3 O1).2 ≤ 10 := by have := stl_dp 3 O1; omega
      have n3 := stl_nb 3 O1
      obtain ⟨c1, c2, c3, c4, c5, c6⟩ := rdC_g T n n p1 (xs ++ (ys ++ (stl 3 O1).1)) (stl 3 O1).2 g2 hO3 hd3 (by omega)
      obtain ⟨d1, d2⟩ := rdC_e (T := T) (n := n) n p1 (xs ++ (ys ++ (stl 3 O1).1)) (stl 3 O1).2 hO3 h3
      generalize rdC T n n p1 (xs ++ (ys ++ (stl 3 O1).1)) (stl 3 O1).2 = c at h c1 c2 c3 c4 c5 c6 d1 d2
      obtain ⟨q, Oc, Wc⟩ := c
      dsimp only at c1 c2 c3 c4 c5 c6 d1 d2
      unfold rdU at h
      dsimp only at h
      have hle : lx_rn lx_L T n q ≤ n := rn_le c2
      by_cases ha : lx_wk T n q = 6385252
      · rw [if_pos ha] at h
        have n2 := stl_nb 2 Wc
        have := stl_dp 2 Wc
        refine rdT_e k _ P1 _ _ p' P' zs hle g4 (fun o ho => ?_) (by show dp (stl 2 Wc).2 + 0 ≤ 10; omega) (TS_stl (by decide) c4 d1) (by show nb (stl 2 Wc).2 + 1 ≤ P1; omega) h
        rcases List.mem_cons.mp ho with rfl | ho
        · exact Or.inr (Or.inl rfl)
        · exact c4.tl o ho
      rw [if_neg ha] at h
      by_cases hor : lx_wk T n q = 28530
      · rw [if_pos hor] at h
        have n2 := stl_nb 1 Wc
        have := stl_dp 1 Wc
        refine rdT_e k _ P1 _ _ p' P' zs hle g4 (fun o ho => ?_) (by show dp (stl 1 Wc).2 + 0 ≤ 10; omega) (TS_stl (by decide) c4 d1) (by show nb (stl 1 Wc).2 + 1 ≤ P1; omega) h
        rcases List.mem_cons.mp ho with rfl | ho
        · exact Or.inr (Or.inr (Or.inl rfl))
        · exact c4.tl o ho
      rw [if_neg hor] at h
      by_cases hI : isI Wc = true
      · rw [if_pos hI] at h
        cases h
      · rw [if_neg hI] at h
        cases h
        have hz := TS_stl (b := 1) (by decide) c4 d1
        have e : (stl 1 Wc).2 = [] := by
          rw [stl_ptl 1 Wc c4]
          refine okO_nil Wc c4 ?_
          cases hh : isI Wc with
          | true => exact absurd hh hI
          | false => rfl
        rw [e] at hz
        exact hz
/-- every clause is whole -/
def WR (R : fxRl) : Prop := ∀ s o, (s, o) ∈ R → vDp s 0 = some 1 ∧ (∀ x, x ∈ s → x < 2 ^ 30) ∧ ∀ q, o = some q → vDp q 0 = some 1 ∧ vBool q ∧ ∀ x, x ∈ q → x < 2 ^ 30
theorem TS_1 {q : List Nat} (h : TS q 1) : vDp q 0 = some 1 ∧ vBool q ∧ ∀ x, x ∈ q → x < 2 ^ 30 := by
  refine ⟨?_, fun w => ?_, h.2.2⟩
  · have := h.1 []
    rw [List.append_nil] at this
    exact this
  · obtain ⟨st, s1, s2, s3⟩ := h.2.1 w
    have := s3 []
    rw [List.append_nil] at this
    rw [this]
    match st, s1, s2 with
    | [a], _, s2 => exact s2 a (List.mem_cons_self ..)
theorem EV_1 {s : List Nat} {m : Nat} (h : EV s m) (hm : m ≤ 60) : vDp s 0 = some 1 ∧ ∀ x, x ∈ s → x < 2 ^ 30 := by
  refine ⟨?_, h.2.2⟩
  have := h.1 [] 0 (by omega)
  rw [List.append_nil] at this
  exact this
theorem rdR_e : ∀ k p P R R', p ≤ n → P ≤ 60 → WR R → rdR T n k p P R = .inr R' → WR R'
  | 0, p, P, R, R', _, _, _, h => by cases h
  | k + 1, p, P, R, R', hp, hP, hR, h => by
    unfold rdR vC1 at h
    have hqn : lx_rn lx_S T n p ≤ n := rn_le hp
    generalize lx_rn lx_S T n p = q at h hqn
    by_cases hr : ¬ lx_wk T n q = 1919509605
    · rw [if_neg hr] at h
      cases h
    rw [if_pos (Classical.not_not.mp hr)] at h
    by_cases h12 : R.length = 12
    · rw [if_pos h12] at h
      cases h
    rw [if_neg h12] at h
    have t3 : lx_rn lx_L T n q ≤ n := rn_le hqn
    unfold vRi at h
    cases hv : vSu T n (lx_rn lx_L T n q) P with
    | inl f =>
      rw [hv] at h
      cases h
    | inr y =>
      obtain ⟨p1, P1, xs⟩ := y
      rw [hv] at h
      obtain ⟨g1, g2, g3, g4, g5⟩ := vSu_g T n _ _ t3 hP _ _ _ hv
      obtain ⟨e1, e2⟩ := vSu_e _ _ _ _ _ t3 hP hv
      obtain ⟨x1, x2⟩ := EV_1 e2 (by omega)
      dsimp only at h
      have add : ∀ o : Option (List Nat), (∀ q, o = some q → TS q 1) → WR (R ++ [(xs, o)]) := by
        intro o ho s o2 hm
        rcases List.mem_append.mp hm with hm | hm
        · exact hR s o2 hm
        · rcases List.mem_cons.mp hm with hm | hm
          · cases hm
            exact ⟨x1, x2, fun q hq => TS_1 (ho q hq)⟩
          · cases hm
      have go : ∀ p2 P2 (o : Option (List Nat)), p2 ≤ n → P2 ≤ 60 → WR (R ++ [(xs, o)]) → (if lx_rn lx_S T n p2 < n ∧ T (lx_rn lx_S T n p2) = nI 59 then rdR T n k (lx_rn lx_S T n p2 + 1) P2 (R ++ [(xs, o)]) else if lx_rn lx_S T n p2 < n then .inl (1 + 8 * lx_rn lx_S T n p2) else .inr (R ++ [(xs, o)])) = .inr R' → WR R' := by
        intro p2 P2 o h2 hP2 hw h
        by_cases h59 : lx_rn lx_S T n p2 < n ∧ T (lx_rn lx_S T n p2) = nI 59
        · rw [if_pos h59] at h
          exact rdR_e k _ P2 _ R' h59.1 hP2 hw h
        · rw [if_neg h59] at h
          by_cases hlt : lx_rn lx_S T n p2 < n
          · rw [if_pos hlt] at h
            cases h
          · rw [if_neg hlt] at h
            cases h
            exact hw
      have hq1 : lx_rn lx_S T n p1 ≤ n := rn_le g2
      by_cases hf : lx_wk T n (lx_rn lx_S T n p1) = 26982
      · rw [if_pos hf] at h
        have u3 : lx_rn lx_L T n (lx_rn lx_S T n p1) ≤ n := rn_le hq1
        cases hv2 : rdT T n (n + 1) (lx_rn lx_L T n (lx_rn lx_S T n p1)) P1 [] [] with
        | inl f =>
          rw [hv2] at h
          cases h
        | inr y =>
          obtain ⟨p2, P2, zs⟩ := y
          rw [hv2] at h
          obtain ⟨r1, r2, r3, r4, r5⟩ := rdT_g T n _ _ _ _ _ _ _ _ u3 g4 (fun o ho => by cases ho) (by decide) hv2
          have ht := rdT_e _ _ _ _ _ _ _ _ u3 g4 (fun o ho => by cases ho) (by decide) TS_nil (Nat.zero_le _) hv2
          exact go p2 P2 (some zs) r2 r4 (add _ (fun q hq => by cases hq; exact ht)) h
      · rw [if_neg hf] at h
        exact go _ P1 none hq1 g4 (add none (fun q hq => by cases hq)) h
end WG
