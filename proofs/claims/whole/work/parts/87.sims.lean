/-! the machine's run over values, terms and sums -/
theorem bd_6 (s : Nat) : bd s ≤ 6 := by
  unfold bd
  repeat' split
  all_goals omega
section RB
variable {T : Nat → Int32} {n p q : Nat} {t : fxTo} {want wb P b : Nat} {bv : Bool} {W O : List Nat} {R : fxRl} {S : Option (List Nat)}
theorem isI_ptl (hb : 1 ≤ b) (W : List Nat) : isI (ptl b W).2 = isI W := by rw [bk_I, bk_I, (ptl_bk hb W).2]
theorem mjn_fl {s w wb2 : Nat} (h : bd s ≤ b) : mjn s w wb2 W O P R S = mjn s w wb2 (ptl b W).2 (O ++ (ptl b W).1) P R S := by
  obtain ⟨h1, h2⟩ := ptl_2 h W
  unfold mjn
  rw [h1, h2, List.append_assoc]
theorem mst_7 (h : bv = true ∧ t.1 = 7) : mst t want wb bv W O P R S = .inr (mjn t.2.1 1 wb W O P R S) := by
  unfold mst
  rw [if_pos h]
theorem mst_3 (h : ¬ (bv = true ∧ t.1 = 7)) : mst t 3 wb bv W O P R S = (if t.2.2.2.2 = some 25 then .inr (2, wb, false, (ptl 1 W).2, [], P, R, some (O ++ (ptl 1 W).1)) else if t.1 = 4 ∨ t.1 = 0 then .inr (if t.1 = 0 then 6 else 0, wb, false, (ptl 1 W).2, [], P, R ++ [(O ++ (ptl 1 W).1, none)], none) else .inl 0) := by
  unfold mst
  rw [if_neg h]
  rfl
theorem mst_4 (h : ¬ (bv = true ∧ t.1 = 7)) : mst t 4 wb bv W O P R S = (if t.1 = 8 then (if P = 60 then .inl 3 else .inr (mjn t.2.1 1 5 W O (P + 1) R S)) else .inl 0) := by
  unfold mst
  rw [if_neg h]
  rfl
theorem mst_5 (h : ¬ (bv = true ∧ t.1 = 7)) : mst t 5 wb bv W O P R S = (if t.2.2.2.2 = some 21 then .inr (mjn 12 2 wb W O P R S) else if t.2.2.2.2 = some 22 then .inr (mjn 13 2 wb W O P R S) else if t.1 = 6 ∧ isI W = true then .inr (5, wb, false, (ptl 1 W).2.tail, O ++ (ptl 1 W).1, P, R, S) else if (t.1 = 4 ∨ t.1 = 0) ∧ isI W = false then .inr (if t.1 = 0 then 6 else 0, wb, false, (ptl 1 W).2, [], P, R ++ [(S.getD [], some (O ++ (ptl 1 W).1))], none) else .inl 0) := by
  unfold mst
  rw [if_neg h]
  rfl
theorem mst_2 : mst t 2 wb false W O P R S = (if t.2.2.2.2 = some 23 then (if dp W = 10 then .inl 2 else .inr (2, wb, false, 11 :: W, O, P, R, S)) else if t.1 = 5 then (if dp W = 10 then .inl 2 else .inr (2, wb, false, 91 :: W, O, P, R, S)) else mvl t 4 W O P R S) := by
  unfold mst
  rw [if_neg (fun z => by cases z.1)]
  rfl
theorem mst_c : mst t 0 wb false W O P R S = (if t.2.2.2.2 = some 26 then (if R.length = 12 then .inl 4 else .inr (1, 3, false, W, O, P, R, S)) else .inl 0) := by
  unfold mst
  rw [if_neg (fun z => by cases z.1)]
  rfl
theorem mst_fl (hw : want = 3 ∨ want = 4 ∨ want = 5) (h2 : 2 ≤ b) (h7 : bv = true → t.1 = 7 → bd t.2.1 ≤ b) (h8 : want = 4 → t.1 = 8 → bd t.2.1 ≤ b) : mst t want wb bv W O P R S = mst t want wb bv (ptl b W).2 (O ++ (ptl b W).1) P R S := by
  obtain ⟨p1, p2⟩ := ptl_2 (b := b) (c := 1) (by omega) W
  by_cases c7 : bv = true ∧ t.1 = 7
  · rw [mst_7 c7, mst_7 c7, mjn_fl (h7 c7.1 c7.2)]
  rcases hw with rfl | rfl | rfl
  · rw [mst_3 c7, mst_3 c7, p1, p2, List.append_assoc]
  · rw [mst_4 c7, mst_4 c7]
    by_cases c8 : t.1 = 8
    · rw [if_pos c8, if_pos c8, mjn_fl (h8 rfl c8)]
    · rw [if_neg c8, if_neg c8]
  · rw [mst_5 c7, mst_5 c7, mjn_fl (W := W) (O := O) (s := 12) (b := b) (show (2 : Nat) ≤ b by omega), mjn_fl (W := W) (O := O) (s := 13) (b := b) (show (1 : Nat) ≤ b by omega), isI_ptl (by omega) W, p1, p2, List.append_assoc]
theorem mst_bv (hw : t.1 ≠ 7) : mst t want wb true W O P R S = mst t want wb false W O P R S := by
  unfold mst
  rw [if_neg (show ¬ (true = true ∧ t.1 = 7) from fun z => hw z.2), if_neg (show ¬ (false = true ∧ t.1 = 7) from fun z => hw z.2)]
theorem mr_fl (hp : p ≤ n) (hq : lx_rn lx_S T n p = q) (hw : want = 3 ∨ want = 4 ∨ want = 5) (h2 : 2 ≤ b) (h7 : bv = true → (tkd T n q).1 = 7 → bd (tOp T n q) ≤ b) (h8 : want = 4 → (tkd T n q).1 = 8 → bd (tOp T n q) ≤ b) : mr T n p (want, wb, bv, W, O, P, R, S) = mr T n p (want, wb, bv, (ptl b W).2, O ++ (ptl b W).1, P, R, S) := by
  have w6 : want ≠ 6 := by omega
  rw [mr_st hp w6 hq, mr_st hp w6 hq]
  have := mst_fl (t := tkO T n q) (wb := wb) (W := W) (O := O) (P := P) (R := R) (S := S) hw h2 h7 h8
  show (match mst (tkO T n q) want wb bv W O P R S with
    | .inl f => Sum.inl (1 + 8 * q + f)
    | .inr x' => mr T n (tkd T n q).2.2 x') = _
  rw [this]
  all_goals rfl
theorem mr_bv (hp : p ≤ n) (hq : lx_rn lx_S T n p = q) (w6 : want ≠ 6) (h7 : (tkd T n q).1 ≠ 7) : mr T n p (want, wb, true, W, O, P, R, S) = mr T n p (want, wb, false, W, O, P, R, S) := by
  rw [mr_st hp w6 hq, mr_st hp w6 hq]
  have := mst_bv (t := tkO T n q) (want := want) (wb := wb) (W := W) (O := O) (P := P) (R := R) (S := S) h7
  show (match mst (tkO T n q) want wb true W O P R S with
    | .inl f => Sum.inl (1 + 8 * q + f)
    | .inr x' => mr T n (tkd T n q).2.2 x') = _
  rw [this]
  all_goals rfl
/-- no joining sign that binds so tight stands here -/
def NJ (T : Nat → Int32) (n c p : Nat) : Prop := (tkd T n (lx_rn lx_S T n p)).1 = 7 → bd (tOp T n (lx_rn lx_S T n p)) < c
def Sim (T : Nat → Int32) (n wb : Nat) (R : fxRl) (S : Option (List Nat)) (V : Nat → Nat → fxQ) (c : Nat) : Prop := (∀ p P W O, p ≤ n → P ≤ 60 → hb W < c → mr T n p (1, wb, false, W, O, P, R, S) = match V p P with
    | .inl f => .inl f
    | .inr (p', P', ys) => mr T n p' (wb, wb, true, W, O ++ ys, P', R, S)) ∧ ∀ p P p' P' ys, p ≤ n → P ≤ 60 → V p P = .inr (p', P', ys) → NJ T n c p'
theorem tk_8 (h : (tkd T n q).1 = 8) : bd (tOp T n q) = 4 := by
  have hc := tk_inv.2.1 h
  cases hC : cmO T n q with
  | none => exact absurd hC hc
  | some y =>
    obtain ⟨s, e⟩ := y
    rw [(tk_C hC).2]
    have := cmO_lt hC
    rcases (show s = 6 ∨ s = 7 ∨ s = 8 ∨ s = 9 ∨ s = 10 by omega) with rfl | rfl | rfl | rfl | rfl <;> rfl
theorem mst_1 : mst t 1 wb false W O P R S = mvl t wb W O P R S := by
  unfold mst
  rw [if_neg (fun z => by cases z.1), if_neg (by decide), if_pos rfl]
theorem sim_V : Sim T n wb R S (vV T n) 7 := by
  refine ⟨fun p P W O hp hP _ => ?_, fun p P p' P' ys _ _ _ _ => by have := bd_6 (tOp T n (lx_rn lx_S T n p')); omega⟩
  rw [mr_st hp (show (1 : Nat) ≠ 6 by decide) rfl]
  show (match mst (tkO T n (lx_rn lx_S T n p)) 1 wb false W O P R S with
    | .inl f => Sum.inl (1 + 8 * lx_rn lx_S T n p + f)
    | .inr x' => mr T n (tkd T n (lx_rn lx_S T n p)).2.2 x') = _
  rw [mst_1]
  unfold vV
  dsimp only
  have hqn : lx_rn lx_S T n p ≤ n := rn_le hp
  generalize lx_rn lx_S T n p = q at hqn ⊢
  unfold mvl
  by_cases hD : q < n ∧ lx_D (T q) = true
  · have e : tkd T n q = (3, lx_nv T q (lx_rn lx_D T n q - q), lx_rn lx_D T n q) := by
      unfold tkd
      rw [if_pos hD.1, if_pos hD.2]
    have e1 : (tkO T n q).1 = 3 := by show (tkd T n q).1 = 3; rw [e]
    have e2 : (tkO T n q).2.2.1 = decide (5 < lx_rn lx_D T n q - q) := by show decide (5 < (tkd T n q).2.2 - q) = _; rw [e]
    have e3 : (tkO T n q).2.2.2.1 = lx_nv T q (lx_rn lx_D T n q - q) := by show (tkd T n q).2.1 = _; rw [e]
    rw [if_pos e1, if_pos hD, e2, e3, e]
    by_cases h5 : 5 < lx_rn lx_D T n q - q
    · rw [if_pos (decide_eq_true h5), if_pos h5]
      show Sum.inl (1 + 8 * q + 1) = Sum.inl (2 + 8 * q)
      congr 1
      omega
    · rw [if_neg (by rw [decide_eq_false h5]; decide), if_neg h5]
      by_cases h60 : P = 60
      · rw [if_pos h60, if_pos h60]
        show Sum.inl (1 + 8 * q + 3) = Sum.inl (4 + 8 * q)
        congr 1
        omega
      · rw [if_neg h60, if_neg h60]
  · have e1 : ¬ (tkO T n q).1 = 3 := fun z => hD (tk_inv.2.2.2.2.2.2.1 z)
    rw [if_neg e1, if_neg hD, tkO_w]
    cases hw : wdx (lx_wk T n q) with
    | none =>
      cases hx : wIx (lx_wk T n q) with
      | none => rfl
      | some i =>
        obtain ⟨i1, i2, i3⟩ := wIx_iff.mp hx
        have : ¬ i < 11 := fun z => by
          rw [wdx_iff.mpr ⟨z, i3⟩] at hw
          cases hw
        dsimp only
        rw [if_neg this]
        rfl
    | some i =>
      obtain ⟨i1, i2⟩ := wdx_iff.mp hw
      rw [wIx_iff.mpr ⟨by omega, wdx_pos i i1, i2⟩]
      dsimp only
      rw [if_pos i1]
      by_cases h60 : P = 60
      · rw [if_pos h60, if_pos h60]
        show Sum.inl (1 + 8 * q + 3) = Sum.inl (4 + 8 * q)
        congr 1
        omega
      · rw [if_neg h60, if_neg h60]
        have hk : 0 < lx_wk T n q := by rw [i2]; exact wdx_pos i i1
        have hlt := wk_0 hk rfl
        have hq : q < n := by have := rn_le (P := lx_L) (T := T) hqn; omega
        have hL : lx_L (T q) = true := rn_all (n := n) (p := q) (Nat.le_refl _) hlt
        have e : (tkd T n q).2.2 = lx_rn lx_L T n q := by
          unfold tkd
          have : ¬ lx_D (T q) = true := fun z => hD ⟨hq, z⟩
          rw [if_pos hq, if_neg this, if_pos hL]
        dsimp only
        rw [e]
end RB
