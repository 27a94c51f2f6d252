/-! what holds along a run of the machine that reads rules -/
def hb : List Nat → Nat
  | [] => 0
  | o :: _ => bd o
def hm (b : Nat) : Nat := if b = 3 then 0 else if b ≤ 2 then b else b - 1
def SW : List Nat → Prop
  | [] => True
  | o :: r => (if o = 11 ∨ o = 91 then hb r ≤ 3 else hb r < bd o) ∧ SW r
theorem bd_val {o : Nat} (h : 2 ≤ o ∧ o ≤ 14 ∨ o = 91) (h2 : ¬ (o = 11 ∨ o = 91)) : bd o = 1 ∨ bd o = 2 ∨ bd o = 4 ∨ bd o = 5 ∨ bd o = 6 := by
  rcases (show o = 2 ∨ o = 3 ∨ o = 4 ∨ o = 5 ∨ o = 6 ∨ o = 7 ∨ o = 8 ∨ o = 9 ∨ o = 10 ∨ o = 12 ∨ o = 13 ∨ o = 14 by omega) with rfl | rfl | rfl | rfl | rfl | rfl | rfl | rfl | rfl | rfl | rfl | rfl <;> decide
theorem SW_len : ∀ W, okW W → SW W → W.length ≤ 3 * dp W + hm (hb W)
  | [], _, _ => Nat.le_refl _
  | o :: r, hk, hs => by
    obtain ⟨h1, h2⟩ := hs
    have ih := SW_len r (fun x hx => hk x (List.mem_cons_of_mem _ hx)) h2
    show r.length + 1 ≤ 3 * (dp r + if o = 11 ∨ o = 91 then 1 else 0) + hm (bd o)
    split at h1
    · rename_i h
      rw [if_pos h]
      have : hm (hb r) ≤ 2 := by
        unfold hm
        split
        · omega
        · rw [if_pos (by omega)]
          omega
      omega
    · rename_i h
      rw [if_neg h]
      have hb2 := bd_val (hk o (List.mem_cons_self ..)) h
      unfold hm at ih ⊢
      rw [if_neg (show ¬ bd o = 3 by omega)]
      split at ih <;> split <;> (try split at ih) <;> omega
theorem SW_35 {W : List Nat} (hk : okW W) (hs : SW W) (hd : dp W ≤ 10) : W.length ≤ 36 := by
  have := SW_len W hk hs
  have h6 : hm (hb W) ≤ 5 := by
    cases W with
    | nil => decide
    | cons o r =>
      show hm (bd o) ≤ 5
      by_cases h : o = 11 ∨ o = 91
      · rcases h with rfl | rfl <;> decide
      · rcases bd_val (hk o (List.mem_cons_self ..)) h with e | e | e | e | e <;> rw [e] <;> decide
  omega
theorem ptl_SW {b : Nat} : ∀ W, SW W → SW (ptl b W).2
  | [], _ => trivial
  | o :: r, h => by
    unfold ptl
    split
    · exact ptl_SW r h.2
    · exact h
theorem ptl_hb {b : Nat} (hb0 : 1 ≤ b) : ∀ W, hb (ptl b W).2 < b
  | [] => hb0
  | o :: r => by
    unfold ptl
    split
    · exact ptl_hb hb0 r
    · rename_i h
      show bd o < b
      omega
theorem ptl_dp (b : Nat) (W : List Nat) : dp (ptl b W).2 ≤ dp W := by
  have := dp_app (ptl b W).1 (ptl b W).2
  rw [ptl_app] at this
  omega
theorem bk_dp (W : List Nat) : bk W ≤ dp W := by
  induction W with
  | nil => exact Nat.le_refl _
  | cons o r ih =>
    show bk r + (if o = 91 then 1 else 0) ≤ dp r + (if o = 11 ∨ o = 91 then 1 else 0)
    by_cases e : o = 91
    · rw [if_pos e, if_pos (Or.inr e)]
      omega
    · rw [if_neg e]
      omega
def tot (W O : List Nat) (R : fxRl) (S : Option (List Nat)) : Nat := (flt R).length + ((S.getD []).length + O.length) + W.length
/-- at place p -/
def JR (p : Nat) (x : fxXc) : Prop := match x with
  | (want, wb, bv, W, O, P, R, S) => okW W ∧ SW W ∧ tot W O R S ≤ p - 1 ∧ P ≤ 60 ∧ R.length ≤ 12 ∧ dp W ≤ 10 ∧ want ≤ 6 ∧ (want ≠ 0 → want ≠ 6 → R.length < 12 ∧ 1 ≤ p) ∧ (want = 0 ∨ want = 6 → S = none ∧ O = []) ∧ (want = 3 → S = none) ∧ (want = 2 ∨ want = 4 ∨ want = 5 → S ≠ none) ∧ (want = 1 → wb = 3 ∧ S = none ∨ (wb = 4 ∨ wb = 5) ∧ S ≠ none) ∧ (bv = true → want = wb ∧ (want = 3 ∨ want = 4 ∨ want = 5)) ∧ (want = 2 → hb W ≤ 3)
theorem JR.v {p n : Nat} {want wb P : Nat} {bv : Bool} {W O : List Nat} {R : fxRl} {S : Option (List Nat)} (h : JR p (want, wb, bv, W, O, P, R, S)) (hp : p ≤ n) (hn : n ≤ 400) : VX (want, wb, bv, W, O, P, R, S) := by
  obtain ⟨a1, a2, a3, a4, a5, a6, a7, a8, a9, a10, a11, a12, a13, a14⟩ := h
  have := SW_35 a1 a2 a6
  have := bk_dp W
  unfold tot at a3
  exact ⟨a1, by omega, by omega, a4, a5, a6, by omega, fun h1 h2 => (a8 h1 h2).1, a10, a7, trivial⟩
/-- what a sign may be -/
def TJ (t : fxTo) : Prop := (t.1 = 7 ∨ t.1 = 8 → 2 ≤ t.2.1 ∧ t.2.1 ≤ 14 ∧ t.2.1 ≠ 11) ∧ (∀ i, t.2.2.2.2 = some i → t.1 = 2)
section XK
variable {p p' : Nat} {t : fxTo} {want wb P : Nat} {bv : Bool} {W O : List Nat} {R : fxRl} {S : Option (List Nat)} {x' : fxXc}
theorem JR_join (h : JR p (want, wb, bv, W, O, P, R, S)) (hp : p < p') (hw : want ≠ 0) (hw6 : want ≠ 6) {s w2 wb2 P2 : Nat} (hs : 2 ≤ s ∧ s ≤ 14 ∧ s ≠ 11) (hP : P2 ≤ 60) (hc : w2 = 1 ∧ (wb2 = 3 ∧ S = none ∨ (wb2 = 4 ∨ wb2 = 5) ∧ S ≠ none) ∨ w2 = 2 ∧ (s = 12 ∨ s = 13) ∧ S ≠ none) : JR p' (mjn s w2 wb2 W O P2 R S) := by
  obtain ⟨a1, a2, a3, a4, a5, a6, a7, a8, a9, a10, a11, a12, a13, a14⟩ := h
  obtain ⟨b1, b2⟩ := a8 hw hw6
  have hb1 := bd_val (o := s) (by omega) (by omega)
  have hl := ptl_len (bd s) W
  have hd := ptl_dp (bd s) W
  refine ⟨fun o ho => ?_, ⟨?_, ptl_SW W a2⟩, ?_, hP, a5, ?_, by omega, fun _ _ => ⟨b1, by omega⟩, fun z => by omega, fun z => by omega, fun z => ?_, fun z => ?_, fun z => by (cases z), fun z => ?_⟩
  · rcases List.mem_cons.mp ho with rfl | ho
    · omega
    · exact a1.tl o ho
  · rw [if_neg (by omega)]
    exact ptl_hb (by omega) W
  · unfold tot at a3 ⊢
    rw [List.length_append, List.length_cons]
    omega
  · show dp (ptl (bd s) W).2 + (if s = 11 ∨ s = 91 then 1 else 0) ≤ 10
    rw [if_neg (by omega)]
    omega
  · rcases hc with ⟨c1, _⟩ | ⟨_, _, c3⟩
    · omega
    · exact c3
  · rcases hc with ⟨_, c2⟩ | ⟨c1, _⟩
    · exact c2
    · omega
  · show bd s ≤ 3
    rcases hc with ⟨c1, _⟩ | ⟨_, c2, _⟩
    · omega
    · rcases c2 with rfl | rfl <;> decide
theorem JR_val (h : JR p (want, wb, bv, W, O, P, R, S)) (hp : p ≤ p') (hp2 : t.1 ≠ 0 → p < p') (hw : want ≠ 0) (hw6 : want ≠ 6) (ht : TJ t) {wb2 : Nat} (hc : wb2 = 3 ∧ S = none ∨ (wb2 = 4 ∨ wb2 = 5) ∧ S ≠ none) (e : mvl t wb2 W O P R S = .inr x') : JR p' x' := by
  obtain ⟨a1, a2, a3, a4, a5, a6, a7, a8, a9, a10, a11, a12, a13, a14⟩ := h
  obtain ⟨b1, b2⟩ := a8 hw hw6
  have key : ∀ c, t.1 ≠ 0 → P ≠ 60 → JR p' (wb2, wb2, true, W, O ++ [c], P + 1, R, S) := by
    intro c h0 h60
    have := hp2 h0
    refine ⟨a1, a2, ?_, by omega, a5, a6, by omega, fun _ _ => ⟨b1, by omega⟩, fun z => by omega, fun z => ?_, fun z => ?_, fun z => by omega, fun _ => ⟨rfl, by omega⟩, fun z => by omega⟩
    · unfold tot at a3 ⊢
      rw [List.length_append]
      show _ + (_ + (O.length + 1)) + _ ≤ _
      omega
    · rcases hc with ⟨_, c2⟩ | ⟨c1, _⟩
      · exact c2
      · omega
    · rcases hc with ⟨c1, _⟩ | ⟨_, c2⟩
      · omega
      · exact c2
  unfold mvl at e
  split at e
  · rename_i h3
    split at e
    · cases e
    · split at e
      · cases e
      · rename_i h60
        cases e
        exact key _ (by omega) h60
  · split at e
    · cases e
    · rename_i i hi2
      have := ht.2 i hi2
      split at e
      · split at e
        · cases e
        · rename_i h60
          cases e
          exact key _ (by omega) h60
      · cases e
theorem JR_end (h : JR p (want, wb, bv, W, O, P, R, S)) (hp : p ≤ p') (hw : want ≠ 0) (hw6 : want ≠ 6) {k wb2 : Nat} {s : List Nat} {o : Option (List Nat)} (hlen : (s ++ o.getD []).length + (ptl 1 W).2.length ≤ (S.getD []).length + O.length + W.length) : JR p' (if k = 0 then 6 else 0, wb2, false, (ptl 1 W).2, [], P, R ++ [(s, o)], none) := by
  obtain ⟨a1, a2, a3, a4, a5, a6, a7, a8, a9, a10, a11, a12, a13, a14⟩ := h
  obtain ⟨b1, b2⟩ := a8 hw hw6
  have hd := ptl_dp 1 W
  have hz : (if k = 0 then 6 else 0) = 0 ∨ (if k = 0 then 6 else 0) = 6 := by split <;> omega
  refine ⟨a1.tl, ptl_SW W a2, ?_, a4, ?_, by omega, by omega, fun z1 z2 => by omega, fun _ => ⟨rfl, rfl⟩, fun _ => rfl, fun z => by omega, fun z => by omega, fun z => by (cases z), fun z => by omega⟩
  · unfold tot at a3 ⊢
    rw [flt_snoc, List.length_append]
    show _ + (0 + 0) + _ ≤ _
    omega
  · rw [List.length_append]
    exact b1
theorem JR_step (h : JR p (want, wb, bv, W, O, P, R, S)) (hp : p ≤ p') (hp2 : t.1 ≠ 0 → p < p') (hw6 : want ≠ 6) (ht : TJ t) (e : mst t want wb bv W O P R S = .inr x') : JR p' x' := by
  obtain ⟨a1, a2, a3, a4, a5, a6, a7, a8, a9, a10, a11, a12, a13, a14⟩ := id h
  unfold mst at e
  by_cases h7 : bv = true ∧ t.1 = 7
  · rw [if_pos h7] at e
    cases e
    obtain ⟨c1, c2⟩ := a13 h7.1
    refine JR_join h (hp2 (by omega)) (by omega) hw6 (ht.1 (Or.inl h7.2)) a4 (Or.inl ⟨rfl, ?_⟩)
    rcases c2 with c2 | c2 | c2
    · exact Or.inl ⟨by omega, a10 c2⟩
    · exact Or.inr ⟨by omega, a11 (by omega)⟩
    · exact Or.inr ⟨by omega, a11 (by omega)⟩
  rw [if_neg h7] at e
  by_cases h0 : want = 0
  · rw [if_pos h0] at e
    subst h0
    obtain ⟨c1, c2⟩ := a9 (Or.inl rfl)
    split at e
    · rename_i h26
      split at e
      · cases e
      · cases e
        have := hp2 (by have := ht.2 _ h26; omega)
        exact ⟨a1, a2, by omega, a4, a5, a6, by decide, fun _ _ => ⟨by omega, by omega⟩, fun z => by omega, fun z => by omega, fun z => by omega, fun _ => Or.inl ⟨rfl, c1⟩, fun z => by (cases z), fun z => by omega⟩
    · cases e
  rw [if_neg h0] at e
  by_cases h1 : want = 1
  · rw [if_pos h1] at e
    exact JR_val h hp hp2 h0 hw6 ht (a12 h1) e
  rw [if_neg h1] at e
  by_cases h2 : want = 2
  · rw [if_pos h2] at e
    obtain ⟨b1, b2⟩ := a8 h0 hw6
    have opn : ∀ o, (o = 11 ∨ o = 91) → t.1 ≠ 0 → dp W ≠ 10 → JR p' (2, wb, false, o :: W, O, P, R, S) := by
      intro o ho h00 h10
      have := hp2 h00
      refine ⟨fun x hx => ?_, ⟨?_, a2⟩, ?_, a4, a5, ?_, by decide, fun _ _ => ⟨b1, by omega⟩, fun z => by omega, fun z => by omega, fun _ => a11 (by omega), fun z => by omega, fun z => by (cases z), fun _ => ?_⟩
      · rcases List.mem_cons.mp hx with rfl | hx
        · omega
        · exact a1 x hx
      · rw [if_pos ho]
        exact a14 h2
      · unfold tot at a3 ⊢
        rw [List.length_cons]
        omega
      · show dp W + (if o = 11 ∨ o = 91 then 1 else 0) ≤ 10
        rw [if_pos ho]
        omega
      · show bd o ≤ 3
        rcases ho with rfl | rfl <;> decide
    split at e
    · rename_i h23
      have := ht.2 _ h23
      split at e
      · cases e
      · cases e
        exact opn 11 (Or.inl rfl) (by omega) (by assumption)
    · split at e
      · split at e
        · cases e
        · cases e
          exact opn 91 (Or.inr rfl) (by omega) (by assumption)
      · exact JR_val h hp hp2 h0 hw6 ht (Or.inr ⟨Or.inl rfl, a11 (by omega)⟩) e
  rw [if_neg h2] at e
  by_cases h3 : want = 3
  · rw [if_pos h3] at e
    obtain ⟨b1, b2⟩ := a8 h0 hw6
    have hS := a10 h3
    subst hS
    have hl := ptl_len 1 W
    have hd := ptl_dp 1 W
    split at e
    · cases e
      refine ⟨a1.tl, ptl_SW W a2, ?_, a4, a5, by omega, by decide, fun _ _ => ⟨b1, by omega⟩, fun z => by omega, fun z => by omega, fun _ z => by (cases z), fun z => by omega, fun z => by (cases z), fun _ => ?_⟩
      · unfold tot at a3 ⊢
        show _ + ((O ++ (ptl 1 W).1).length + 0) + _ ≤ _
        rw [List.length_append]
        have : ((none : Option (List Nat)).getD []).length = 0 := rfl
        omega
      · have := ptl_hb (b := 1) (by decide) W
        omega
    · split at e
      · cases e
        refine JR_end h hp h0 hw6 ?_
        show ((O ++ (ptl 1 W).1) ++ []).length + _ ≤ 0 + O.length + W.length
        rw [List.append_nil, List.length_append]
        omega
      · cases e
  rw [if_neg h3] at e
  by_cases h4 : want = 4
  · rw [if_pos h4] at e
    split at e
    · rename_i h8
      split at e
      · cases e
      · cases e
        exact JR_join h (hp2 (by omega)) h0 hw6 (ht.1 (Or.inr h8)) (by omega) (Or.inl ⟨rfl, Or.inr ⟨Or.inr rfl, a11 (by omega)⟩⟩)
    · cases e
  · rw [if_neg h4] at e
    have h5 : want = 5 := by omega
    obtain ⟨b1, b2⟩ := a8 h0 hw6
    have hl := ptl_len 1 W
    have hd := ptl_dp 1 W
    split at e
    · rename_i h21
      have := ht.2 _ h21
      cases e
      exact JR_join h (hp2 (by omega)) h0 hw6 (by decide) a4 (Or.inr ⟨rfl, Or.inl rfl, a11 (by omega)⟩)
    · split at e
      · rename_i h22
        have := ht.2 _ h22
        cases e
        exact JR_join h (hp2 (by omega)) h0 hw6 (by decide) a4 (Or.inr ⟨rfl, Or.inr rfl, a11 (by omega)⟩)
      · split at e
        · rename_i h6
          cases e
          obtain ⟨r, hr⟩ := ptl_91 W a1 h6.2
          have hk := a1.tl (b := 1)
          have hs := ptl_SW (b := 1) W a2
          rw [hr] at hk hs hd hl ⊢
          have hd : dp r + 1 ≤ dp W := hd
          rw [List.length_cons] at hl
          refine ⟨fun x hx => hk x (List.mem_cons_of_mem _ hx), hs.2, ?_, a4, a5, by show dp r ≤ 10; omega, by decide, fun _ _ => ⟨b1, by omega⟩, fun z => by omega, fun z => by omega, fun _ => a11 (by omega), fun z => by omega, fun z => by (cases z), fun z => by omega⟩
          unfold tot at a3 ⊢
          rw [List.length_append]
          show _ + _ + r.length ≤ _
          omega
        · split at e
          · cases e
            refine JR_end h hp h0 hw6 ?_
            show (S.getD [] ++ (O ++ (ptl 1 W).1)).length + _ ≤ _
            rw [List.length_append, List.length_append]
            omega
          · cases e
end XK
