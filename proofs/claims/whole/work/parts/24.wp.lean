/-! walking the abstract machine goal first -/
/-- it comes to an end with P -/
def fx_E (Γ : fxGa) (M : fxM) (x : fxC) (P : Option fxV → fxH → Prop) : Prop := ∃ N r h', fx_R fx_Y Γ M N x r h' ∧ P r h'
def fx_jp (K : fxC → Prop) (pc : Nat) (o : Int) (lv : fxLv) (st : List fxV) (h : fxH) (c n : Nat) : Prop := bif fx_tg0 pc o then K (fx_tgt pc o, lv, st, h, c, n) else False
def fx_bb (b : Prop) (K : fxC → Prop) (pc : Nat) (o : Int) (lv : fxLv) (st : List fxV) (h : fxH) (c n : Nat) : Prop := bif fx_tg0 pc o then (b → K (fx_tgt pc o, lv, st, h, c, n)) ∧ (¬ b → K (pc + 3, lv, st, h, c, n)) else False
def fx_rcB (y : fxY) (av : List fxV) : Bool := match y.2.2.2.1, av with
  | 0, .inr (.inr (some (k, _))) :: _ => Nat.beq k y.2.2.2.2
  | 2, _ => true
  | 4, .inr (.inr (some (k, _))) :: _ => Nat.beq k 92
  | 1, .inr (.inr (some _)) :: _ => true
  | 3, .inr (.inr (some _)) :: _ => true
  | _, _ => false
/-- a call: some answer that the callee gives -/
def fx_wc (Γ : fxGa) (M : fxM) (y : Nat) (pc : Nat) (lv : fxLv) (st : List fxV) (h : fxH) (c n : Nat) (K : fxC → Prop) : Prop :=
  bif Nat.ble (fx_na (fx_Y y)) st.length && Nat.ble ((st.drop (fx_na (fx_Y y))).map fx_cat).sum 8 && fx_rcB (fx_Y y) (st.take (fx_na (fx_Y y))).reverse && Nat.ble (c + (fx_Y y).2.1.2.2.2.2.2.1) M.2.2.2.2.2.1 && Nat.ble (n + (fx_Y y).2.1.2.2.2.2.2.2) M.2.2.2.2.2.2
  then ∃ r1 h1, Γ y (st.take (fx_na (fx_Y y))).reverse h r1 h1 ∧ K (pc + 3, lv, r1.toList ++ st.drop (fx_na (fx_Y y)), h1, c + (fx_Y y).2.1.2.2.2.2.2.1, n + (fx_Y y).2.1.2.2.2.2.2.2) else False
def fx_ws0 (M : fxM) (i : Instr) (pc : Nat) (lv : fxLv) (st : List fxV) (h : fxH) (c n : Nat) (K : fxC → Prop) : Prop := match fx_stp M pc i lv st h c n with
  | some x => K x
  | none => False
def fx_w2 (Γ : fxGa) (M : fxM) (i : Instr) (pc : Nat) (lv : fxLv) (st : List fxV) (h : fxH) (c n : Nat) (K : fxC → Prop) (P : Option fxV → fxH → Prop) : Prop :=
  match i with
  | .ifCond .eq o => match st with
    | .inl x :: r => fx_bb (x = 0) K pc o lv r h c n
    | _ => False
  | .ifCond .ne o => match st with
    | .inl x :: r => fx_bb (¬ x = 0) K pc o lv r h c n
    | _ => False
  | .ifCond .lt o => match st with
    | .inl x :: r => fx_bb (x < 0) K pc o lv r h c n
    | _ => False
  | .ifCond .ge o => match st with
    | .inl x :: r => fx_bb (0 ≤ x) K pc o lv r h c n
    | _ => False
  | .ifCond .gt o => match st with
    | .inl x :: r => fx_bb (0 < x) K pc o lv r h c n
    | _ => False
  | .ifCond .le o => match st with
    | .inl x :: r => fx_bb (x ≤ 0) K pc o lv r h c n
    | _ => False
  | .if_icmp .eq o => match st with
    | .inl y :: .inl x :: r => fx_bb (x = y) K pc o lv r h c n
    | _ => False
  | .if_icmp .ne o => match st with
    | .inl y :: .inl x :: r => fx_bb (¬ x = y) K pc o lv r h c n
    | _ => False
  | .if_icmp .lt o => match st with
    | .inl y :: .inl x :: r => fx_bb (x < y) K pc o lv r h c n
    | _ => False
  | .if_icmp .ge o => match st with
    | .inl y :: .inl x :: r => fx_bb (y ≤ x) K pc o lv r h c n
    | _ => False
  | .if_icmp .gt o => match st with
    | .inl y :: .inl x :: r => fx_bb (y < x) K pc o lv r h c n
    | _ => False
  | .if_icmp .le o => match st with
    | .inl y :: .inl x :: r => fx_bb (x ≤ y) K pc o lv r h c n
    | _ => False
  | .tableswitch d lo hi os => match st with
    | .inl x :: r => ((x.toInt < lo ∨ hi < x.toInt) → fx_jp K pc d lv r h c n) ∧ (¬ (x.toInt < lo ∨ hi < x.toInt) → ∃ o, os[(x.toInt - lo).toNat]? = some o ∧ fx_jp K pc o lv r h c n)
    | _ => False
  | .iaload => match st with
    | .inl i :: .inr (.inr (some (k, j))) :: r => bif fx_ar k 0 then (0 ≤ i.toInt ∧ i.toInt < (h.2.1 k j : Int)) ∧ K (pc + 1, lv, .inl (h.2.2.2.1 k j i.toNatClampNeg) :: r, h, c, n) else False
    | _ => False
  | .baload => match st with
    | .inl i :: .inr (.inr (some (k, j))) :: r => bif fx_aw k 1 || fx_aw k 2 then (0 ≤ i.toInt ∧ i.toInt < (h.2.1 k j : Int)) ∧ K (pc + 1, lv, .inl (h.2.2.2.1 k j i.toNatClampNeg) :: r, h, c, n) else False
    | _ => False
  | .laload => match st with
    | .inl i :: .inr (.inr (some (k, j))) :: r => bif fx_aw k 3 then (0 ≤ i.toInt ∧ i.toInt < (h.2.1 k j : Int)) ∧ K (pc + 1, lv, .inr (.inl (h.2.2.2.2 k j i.toNatClampNeg)) :: r, h, c, n) else False
    | _ => False
  | .aaload => match st with
    | .inl i :: .inr (.inr (some (k, j))) :: r => bif fx_aw k 4 || fx_aw k 5 || fx_aw k 6 then (0 ≤ i.toInt ∧ i.toInt < (h.2.1 k j : Int)) ∧ K (pc + 1, lv, .inr (.inr (h.2.2.1 k j i.toNatClampNeg)) :: r, h, c, n) else False
    | _ => False
  | .iastore => match st with
    | .inl v :: .inl i :: .inr (.inr (some (k, j))) :: r => bif fx_aw k 0 then (0 ≤ i.toInt ∧ i.toInt < (h.2.1 k j : Int)) ∧ K (pc + 1, lv, r, fx_wi h k j i.toNatClampNeg v, c, n) else False
    | _ => False
  | .bastore => match st with
    | .inl v :: .inl i :: .inr (.inr (some (k, j))) :: r => bif fx_aw k 1 then ((0 ≤ i.toInt ∧ i.toInt < (h.2.1 k j : Int)) ∧ K (pc + 1, lv, r, fx_wi h k j i.toNatClampNeg v.toInt8.toInt32, c, n)) else (bif fx_aw k 2 then ((0 ≤ i.toInt ∧ i.toInt < (h.2.1 k j : Int)) ∧ K (pc + 1, lv, r, fx_wi h k j i.toNatClampNeg (vp_nar .boolean v), c, n)) else False)
    | _ => False
  | .lastore => match st with
    | .inr (.inl v) :: .inl i :: .inr (.inr (some (k, j))) :: r => bif fx_aw k 3 then (0 ≤ i.toInt ∧ i.toInt < (h.2.1 k j : Int)) ∧ K (pc + 1, lv, r, fx_wl h k j i.toNatClampNeg v, c, n) else False
    | _ => False
  | .idiv => match st with
    | .inl y :: .inl x :: r => (¬ y = 0) ∧ K (pc + 1, lv, .inl (x / y) :: r, h, c, n)
    | _ => False
  | .irem => match st with
    | .inl y :: .inl x :: r => (¬ y = 0) ∧ K (pc + 1, lv, .inl (x - x / y * y) :: r, h, c, n)
    | _ => False
  | .ldiv => match st with
    | .inr (.inl y) :: .inr (.inl x) :: r => (¬ y = 0) ∧ K (pc + 1, lv, .inr (.inl (x / y)) :: r, h, c, n)
    | _ => False
  | .lrem => match st with
    | .inr (.inl y) :: .inr (.inl x) :: r => (¬ y = 0) ∧ K (pc + 1, lv, .inr (.inl (x - x / y * y)) :: r, h, c, n)
    | _ => False
  | .invokevirtual x => match fx_lk M.2.2.1.2.1 x with
    | some y => fx_wc Γ M y pc lv st h c n K
    | none => fx_ws0 M i pc lv st h c n K
  | .invokespecial x => match fx_lk M.2.2.1.2.1 x with
    | some y => fx_wc Γ M y pc lv st h c n K
    | none => fx_ws0 M i pc lv st h c n K
  | .invokestatic x => match fx_lk M.2.2.1.2.1 x with
    | some y => fx_wc Γ M y pc lv st h c n K
    | none => fx_ws0 M i pc lv st h c n K
  | .ireturn => bif Nat.ble c M.2.2.2.2.2.1 && Nat.ble n M.2.2.2.2.2.2 then (match st with
    | [.inl v] => (match M.1.2.2.2 with
      | some .int => P (some (.inl v)) h
      | some .boolean => (v = 0 ∨ v = 1) ∧ P (some (.inl v)) h
      | _ => False)
    | _ => False) else False
  | .lreturn => bif Nat.ble c M.2.2.2.2.2.1 && Nat.ble n M.2.2.2.2.2.2 then (match st with
    | [.inr (.inl v)] => (match M.1.2.2.2 with
      | some .long => P (some (.inr (.inl v))) h
      | _ => False)
    | _ => False) else False
  | .areturn => bif Nat.ble c M.2.2.2.2.2.1 && Nat.ble n M.2.2.2.2.2.2 then (match st with
    | [.inr (.inr v)] => (match M.1.2.2.2 with
      | some (.object _) => P (some (.inr (.inr v))) h
      | some (.array _) => P (some (.inr (.inr v))) h
      | _ => False)
    | _ => False) else False
  | .return_ => bif Nat.ble c M.2.2.2.2.2.1 && Nat.ble n M.2.2.2.2.2.2 then (match st with
    | [] => (match M.1.2.2.2 with
      | none => P none h
      | _ => False)
    | _ => False) else False
  | i => fx_ws0 M i pc lv st h c n K
def fx_w1 (Γ : fxGa) (M : fxM) (x : fxC) (K : fxC → Prop) (P : Option fxV → fxH → Prop) : Prop := match x with
  | (pc, lv, st, h, c, n) => match M.2.1 pc with
    | some i => fx_w2 Γ M i pc lv st h c n K P
    | none => False
def fx_in : List Nat → Nat → Bool
  | [], _ => false
  | a :: r, p => bif Nat.beq a p then true else fx_in r p
/-- as far as k steps go, or to a place of cs -/
def fx_wp (Γ : fxGa) (M : fxM) (cs : List Nat) : Nat → fxC → (Option fxV → fxH → Prop) → Prop
  | 0, x, P => fx_E Γ M x P
  | k + 1, x, P => match x with
    | (pc, lv, st, h, c, n) => bif fx_in cs pc then fx_E Γ M (pc, lv, st, h, c, n) P else fx_w1 Γ M (pc, lv, st, h, c, n) (fun x' => fx_wp Γ M cs k x' P) P
theorem fx_E_step {Γ : fxGa} {M : fxM} {pc : Nat} {i : Instr} {lv : fxLv} {st : List fxV} {h : fxH} {c n : Nat} {x' : fxC} {P : Option fxV → fxH → Prop} (hF : M.2.1 pc = some i) (hy : fx_cy M i = none) (hr : fx_isr i = false) (hs : fx_stp M pc i lv st h c n = some x') (k : fx_E Γ M x' P) : fx_E Γ M (pc, lv, st, h, c, n) P := by
  obtain ⟨N, r, h', hR, hP⟩ := k
  refine ⟨N + 1, r, h', ?_, hP⟩
  unfold fx_R
  dsimp only
  rw [hF]
  dsimp only
  rw [hy]
  dsimp only
  rw [hr]
  exact ⟨x', hs, hR⟩
theorem fx_E_ret {Γ : fxGa} {M : fxM} {pc : Nat} {i : Instr} {lv : fxLv} {st : List fxV} {h : fxH} {c n : Nat} {P : Option fxV → fxH → Prop} {r : Option fxV} (hF : M.2.1 pc = some i) (hy : fx_cy M i = none) (hr : fx_isr i = true) (hs : fx_ret M i (pc, lv, st, h, c, n) r h) (k : P r h) : fx_E Γ M (pc, lv, st, h, c, n) P := by
  refine ⟨1, r, h, ?_, k⟩
  unfold fx_R
  dsimp only
  rw [hF]
  dsimp only
  rw [hy]
  dsimp only
  rw [hr]
  exact hs
theorem fx_rcB_ok {y : fxY} {av : List fxV} (h : fx_rcB y av = true) : fx_rcv y av := by
  unfold fx_rcB at h
  unfold fx_rcv
  split at h
  · rename_i k j t e
    rw [e]
    have := Nat.eq_of_beq_eq_true h
    subst this
    exact ⟨_, _, rfl⟩
  · rename_i e
    rw [e]
    trivial
  · rename_i k j t e
    rw [e]
    have := Nat.eq_of_beq_eq_true h
    subst this
    exact ⟨_, _, rfl⟩
  · rename_i r t e
    rw [e]
    exact ⟨r.1, r.2, _, rfl⟩
  · rename_i r t e
    rw [e]
    exact ⟨r.1, r.2, _, rfl⟩
  · cases h
theorem fx_E_call {Γ : fxGa} {M : fxM} {pc y : Nat} {i : Instr} {lv : fxLv} {st : List fxV} {h : fxH} {c n : Nat} {K : fxC → Prop} {P : Option fxV → fxH → Prop} (hF : M.2.1 pc = some i) (hy : fx_cy M i = some y) (hw : fx_wc Γ M y pc lv st h c n K) (hK : ∀ x, K x → fx_E Γ M x P) : fx_E Γ M (pc, lv, st, h, c, n) P := by
  unfold fx_wc at hw
  cases hb : (Nat.ble (fx_na (fx_Y y)) st.length && Nat.ble ((st.drop (fx_na (fx_Y y))).map fx_cat).sum 8 && fx_rcB (fx_Y y) (st.take (fx_na (fx_Y y))).reverse && Nat.ble (c + (fx_Y y).2.1.2.2.2.2.2.1) M.2.2.2.2.2.1 && Nat.ble (n + (fx_Y y).2.1.2.2.2.2.2.2) M.2.2.2.2.2.2) with
  | false => rw [hb] at hw; exact hw.elim
  | true =>
    rw [hb] at hw
    obtain ⟨r1, h1, hg, hk⟩ := hw
    obtain ⟨N, r, h', hR, hP⟩ := hK _ hk
    simp only [Bool.and_eq_true] at hb
    obtain ⟨⟨⟨⟨b1, b2⟩, b3⟩, b4⟩, b5⟩ := hb
    refine ⟨N + 1, r, h', ?_, hP⟩
    unfold fx_R
    dsimp only
    rw [hF]
    dsimp only
    rw [hy]
    refine ⟨(st.take (fx_na (fx_Y y))).reverse, st.drop (fx_na (fx_Y y)), r1, h1, ?_, ?_, Nat.le_of_ble_eq_true b2, fx_rcB_ok b3, Nat.le_of_ble_eq_true b4, Nat.le_of_ble_eq_true b5, hg, hR⟩
    · rw [List.reverse_reverse, List.take_append_drop]
    · rw [List.length_reverse, List.length_take]
      exact Nat.min_eq_left (Nat.le_of_ble_eq_true b1)
theorem fx_jp_ok {K : fxC → Prop} {pc : Nat} {o : Int} {lv : fxLv} {st : List fxV} {h : fxH} {c n : Nat} (hj : fx_jp K pc o lv st h c n) : fx_jmp pc o lv st h c n = some (fx_tgt pc o, lv, st, h, c, n) ∧ K (fx_tgt pc o, lv, st, h, c, n) := by
  unfold fx_jp at hj
  unfold fx_jmp
  cases hb : fx_tg0 pc o with
  | false => rw [hb] at hj; exact hj.elim
  | true => rw [hb] at hj; exact ⟨rfl, hj⟩
theorem fx_bb_ok {b : Prop} [Decidable b] {K : fxC → Prop} {pc : Nat} {o : Int} {lv : fxLv} {st : List fxV} {h : fxH} {c n : Nat} (hj : fx_bb b K pc o lv st h c n) : ∃ x, fx_br b pc o lv st h c n = some x ∧ K x := by
  unfold fx_bb at hj
  unfold fx_br
  cases hb : fx_tg0 pc o with
  | false => rw [hb] at hj; exact hj.elim
  | true =>
    rw [hb] at hj
    by_cases z : b
    · exact ⟨_, by rw [if_pos z]; rfl, hj.1 z⟩
    · exact ⟨_, by rw [if_neg z]; rfl, hj.2 z⟩
theorem fx_ws0_ok {Γ : fxGa} {M : fxM} {pc : Nat} {i : Instr} {lv : fxLv} {st : List fxV} {h : fxH} {c n : Nat} {K : fxC → Prop} {P : Option fxV → fxH → Prop} (hF : M.2.1 pc = some i) (hy : fx_cy M i = none) (hr : fx_isr i = false) (hK : ∀ x, K x → fx_E Γ M x P) (hw : fx_ws0 M i pc lv st h c n K) : fx_E Γ M (pc, lv, st, h, c, n) P := by
  unfold fx_ws0 at hw
  split at hw
  · rename_i x hx
    exact fx_E_step hF hy hr hx (hK x hw)
  · exact hw.elim
theorem fx_w_if {Γ : fxGa} {M : fxM} {pc : Nat} {i : Instr} {lv : fxLv} {st r : List fxV} {h : fxH} {c n : Nat} {K : fxC → Prop} {P : Option fxV → fxH → Prop} {b : Prop} [Decidable b] {o : Int} (hF : M.2.1 pc = some i) (hy : fx_cy M i = none) (hr : fx_isr i = false) (hK : ∀ x, K x → fx_E Γ M x P) (e : fx_stp M pc i lv st h c n = fx_br b pc o lv r h c n) (hw : fx_bb b K pc o lv r h c n) : fx_E Γ M (pc, lv, st, h, c, n) P := by
  obtain ⟨x, h1, h2⟩ := fx_bb_ok hw
  exact fx_E_step hF hy hr (e.trans h1) (hK x h2)
theorem fx_w2_ok {Γ : fxGa} {M : fxM} {pc : Nat} {i : Instr} {lv : fxLv} {st : List fxV} {h : fxH} {c n : Nat} {K : fxC → Prop} {P : Option fxV → fxH → Prop} (hF : M.2.1 pc = some i) (hK : ∀ x, K x → fx_E Γ M x P) (hw : fx_w2 Γ M i pc lv st h c n K P) : fx_E Γ M (pc, lv, st, h, c, n) P := by
  unfold fx_w2 at hw
  split at hw
  -- ifCond
  · split at hw
    · exact fx_w_if hF rfl rfl hK rfl hw
    · exact hw.elim
  · split at hw
    · exact fx_w_if hF rfl rfl hK rfl hw
    · exact hw.elim
  · split at hw
    · exact fx_w_if hF rfl rfl hK rfl hw
    · exact hw.elim
  · split at hw
    · exact fx_w_if hF rfl rfl hK rfl hw
    · exact hw.elim
  · split at hw
    · exact fx_w_if hF rfl rfl hK rfl hw
    · exact hw.elim
  · split at hw
    · exact fx_w_if hF rfl rfl hK rfl hw
    · exact hw.elim
  -- if_icmp
  · split at hw
    · exact fx_w_if hF rfl rfl hK rfl hw
    · exact hw.elim
  · split at hw
    · exact fx_w_if hF rfl rfl hK rfl hw
    · exact hw.elim
  · split at hw
    · exact fx_w_if hF rfl rfl hK rfl hw
    · exact hw.elim
  · split at hw
    · exact fx_w_if hF rfl rfl hK rfl hw
    · exact hw.elim
  · split at hw
    · exact fx_w_if hF rfl rfl hK rfl hw
    · exact hw.elim
  · split at hw
    · exact fx_w_if hF rfl rfl hK rfl hw
    · exact hw.elim
  -- tableswitch
  · split at hw
    · rename_i d lo hi os s0 x r
      by_cases z : x.toInt < lo ∨ hi < x.toInt
      · obtain ⟨j1, j2⟩ := fx_jp_ok (hw.1 z)
        refine fx_E_step hF rfl rfl ?_ (hK _ j2)
        simp only [fx_stp]
        rw [if_pos z]
        exact j1
      · obtain ⟨o, ho, hj⟩ := hw.2 z
        obtain ⟨j1, j2⟩ := fx_jp_ok hj
        refine fx_E_step hF rfl rfl ?_ (hK _ j2)
        simp only [fx_stp]
        rw [if_neg z, ho]
        exact j1
    · exact hw.elim
  -- iaload
  · split at hw
    · rename_i i k j r
      cases hb : fx_ar k 0 with
      | false => rw [hb] at hw; exact hw.elim
      | true =>
        rw [hb] at hw
        refine fx_E_step hF rfl rfl ?_ (hK _ hw.2)
        simp only [fx_stp]
        rw [hb, cond_true, if_pos hw.1]
    · exact hw.elim
  · split at hw
    · rename_i i k j r
      cases hb : (fx_aw k 1 || fx_aw k 2) with
      | false => rw [hb] at hw; exact hw.elim
      | true =>
        rw [hb] at hw
        refine fx_E_step hF rfl rfl ?_ (hK _ hw.2)
        simp only [fx_stp]
        rw [hb, cond_true, if_pos hw.1]
    · exact hw.elim
  · split at hw
    · rename_i i k j r
      cases hb : fx_aw k 3 with
      | false => rw [hb] at hw; exact hw.elim
      | true =>
        rw [hb] at hw
        refine fx_E_step hF rfl rfl ?_ (hK _ hw.2)
        simp only [fx_stp]
        rw [hb, cond_true, if_pos hw.1]
    · exact hw.elim
  · split at hw
    · rename_i i k j r
      cases hb : (fx_aw k 4 || fx_aw k 5 || fx_aw k 6) with
      | false => rw [hb] at hw; exact hw.elim
      | true =>
        rw [hb] at hw
        refine fx_E_step hF rfl rfl ?_ (hK _ hw.2)
        simp only [fx_stp]
        rw [hb, cond_true, if_pos hw.1]
    · exact hw.elim
  -- iastore
  · split at hw
    · rename_i v i k j r
      cases hb : fx_aw k 0 with
      | false => rw [hb] at hw; exact hw.elim
      | true =>
        rw [hb] at hw
        refine fx_E_step hF rfl rfl ?_ (hK _ hw.2)
        simp only [fx_stp]
        rw [hb, cond_true, if_pos hw.1]
    · exact hw.elim
  · split at hw
    · rename_i v i k j r
      cases hb : fx_aw k 1 with
      | false =>
        rw [hb] at hw
        simp only [cond_false] at hw
        cases hb2 : fx_aw k 2 with
        | false => rw [hb2] at hw; exact hw.elim
        | true =>
          rw [hb2] at hw
          refine fx_E_step hF rfl rfl ?_ (hK _ hw.2)
          simp only [fx_stp]
          rw [hb, cond_false, hb2, cond_true, if_pos hw.1]
      | true =>
        rw [hb] at hw
        refine fx_E_step hF rfl rfl ?_ (hK _ hw.2)
        simp only [fx_stp]
        rw [hb, cond_true, if_pos hw.1]
    · exact hw.elim
  · split at hw
    · rename_i v i k j r
      cases hb : fx_aw k 3 with
      | false => rw [hb] at hw; exact hw.elim
      | true =>
        rw [hb] at hw
        refine fx_E_step hF rfl rfl ?_ (hK _ hw.2)
        simp only [fx_stp]
        rw [hb, cond_true, if_pos hw.1]
    · exact hw.elim
  -- divisions
  · split at hw
    · refine fx_E_step hF rfl rfl ?_ (hK _ hw.2)
      simp only [fx_stp]
      rw [if_neg hw.1]
    · exact hw.elim
  · split at hw
    · refine fx_E_step hF rfl rfl ?_ (hK _ hw.2)
      simp only [fx_stp]
      rw [if_neg hw.1]
    · exact hw.elim
  · split at hw
    · refine fx_E_step hF rfl rfl ?_ (hK _ hw.2)
      simp only [fx_stp]
      rw [if_neg hw.1]
    · exact hw.elim
  · split at hw
    · refine fx_E_step hF rfl rfl ?_ (hK _ hw.2)
      simp only [fx_stp]
      rw [if_neg hw.1]
    · exact hw.elim
  -- calls
  · split at hw
    · rename_i y hy
      exact fx_E_call hF hy hw hK
    · rename_i hy
      exact fx_ws0_ok hF hy rfl hK hw
  · split at hw
    · rename_i y hy
      exact fx_E_call hF hy hw hK
    · rename_i hy
      exact fx_ws0_ok hF hy rfl hK hw
  · split at hw
    · rename_i y hy
      exact fx_E_call hF hy hw hK
    · rename_i hy
      exact fx_ws0_ok hF hy rfl hK hw
  -- ends
  · cases hb : (Nat.ble c M.2.2.2.2.2.1 && Nat.ble n M.2.2.2.2.2.2) with
    | false => rw [hb] at hw; exact hw.elim
    | true =>
      rw [hb] at hw
      obtain ⟨b1, b2⟩ := Bool.and_eq_true_iff.mp hb
      simp only [cond_true] at hw
      split at hw
      · rename_i v
        split at hw
        · rename_i hm
          exact fx_E_ret hF rfl rfl ⟨⟨Nat.le_of_ble_eq_true b1, Nat.le_of_ble_eq_true b2⟩, rfl, v, rfl, by rw [hm]; trivial, rfl⟩ hw
        · rename_i hm
          exact fx_E_ret hF rfl rfl ⟨⟨Nat.le_of_ble_eq_true b1, Nat.le_of_ble_eq_true b2⟩, rfl, v, rfl, by rw [hm]; exact hw.1, rfl⟩ hw.2
        · exact hw.elim
      · exact hw.elim
  · cases hb : (Nat.ble c M.2.2.2.2.2.1 && Nat.ble n M.2.2.2.2.2.2) with
    | false => rw [hb] at hw; exact hw.elim
    | true =>
      rw [hb] at hw
      obtain ⟨b1, b2⟩ := Bool.and_eq_true_iff.mp hb
      simp only [cond_true] at hw
      split at hw
      · rename_i v
        split at hw
        · rename_i hm
          exact fx_E_ret hF rfl rfl ⟨⟨Nat.le_of_ble_eq_true b1, Nat.le_of_ble_eq_true b2⟩, rfl, v, rfl, hm, rfl⟩ hw
        · exact hw.elim
      · exact hw.elim
  · cases hb : (Nat.ble c M.2.2.2.2.2.1 && Nat.ble n M.2.2.2.2.2.2) with
    | false => rw [hb] at hw; exact hw.elim
    | true =>
      rw [hb] at hw
      obtain ⟨b1, b2⟩ := Bool.and_eq_true_iff.mp hb
      simp only [cond_true] at hw
      split at hw
      · rename_i v
        split at hw
        · rename_i hm
          exact fx_E_ret hF rfl rfl ⟨⟨Nat.le_of_ble_eq_true b1, Nat.le_of_ble_eq_true b2⟩, rfl, v, rfl, by rw [hm]; trivial, rfl⟩ hw
        · rename_i hm
          exact fx_E_ret hF rfl rfl ⟨⟨Nat.le_of_ble_eq_true b1, Nat.le_of_ble_eq_true b2⟩, rfl, v, rfl, by rw [hm]; trivial, rfl⟩ hw
        · exact hw.elim
      · exact hw.elim
  · cases hb : (Nat.ble c M.2.2.2.2.2.1 && Nat.ble n M.2.2.2.2.2.2) with
    | false => rw [hb] at hw; exact hw.elim
    | true =>
      rw [hb] at hw
      obtain ⟨b1, b2⟩ := Bool.and_eq_true_iff.mp hb
      simp only [cond_true] at hw
      split at hw
      · split at hw
        · rename_i hm
          exact fx_E_ret hF rfl rfl ⟨⟨Nat.le_of_ble_eq_true b1, Nat.le_of_ble_eq_true b2⟩, rfl, rfl, hm, rfl⟩ hw
        · exact hw.elim
      · exact hw.elim
  · have hy : fx_cy M i = none := by
      unfold fx_cy
      split
      · rename_i x q1 q2 q3 q4 q5 q6 q7 q8 q9 q10 q11 q12 q13 q14 q15 q16 q17 q18 q19 q20 q21 q22 q23 q24 q25 q26 q27 q28 q29 q30 q31 q32 q33
        first | exact absurd rfl (q25 x) | (exfalso; simp_all)
      · exfalso; simp_all
      · exfalso; simp_all
      · rfl
    have hr : fx_isr i = false := by
      unfold fx_isr
      split <;> first | rfl | (exfalso; simp_all)
    exact fx_ws0_ok hF hy hr hK hw
theorem fx_w1_ok {Γ : fxGa} {M : fxM} {P : Option fxV → fxH → Prop} {K : fxC → Prop} (hK : ∀ x, K x → fx_E Γ M x P) {x : fxC} (h : fx_w1 Γ M x K P) : fx_E Γ M x P := by
  obtain ⟨pc, lv, st, h0, c, n⟩ := x
  unfold fx_w1 at h
  dsimp only at h
  split at h
  · rename_i i hF
    exact fx_w2_ok hF hK h
  · exact h.elim
theorem fx_wpE {Γ : fxGa} {M : fxM} {P : Option fxV → fxH → Prop} (cs : List Nat) (k : Nat) : ∀ {x : fxC}, fx_wp Γ M cs k x P → fx_E Γ M x P := by
  induction k with
  | zero => exact fun h => h
  | succ k ih =>
    intro x h
    obtain ⟨pc, lv, st, h0, c, n⟩ := x
    change (bif fx_in cs pc then fx_E Γ M (pc, lv, st, h0, c, n) P else fx_w1 Γ M (pc, lv, st, h0, c, n) (fun x' => fx_wp Γ M cs k x' P) P) at h
    cases hc : fx_in cs pc with
    | true => rw [hc] at h; exact h
    | false => rw [hc] at h; exact fx_w1_ok (fun x' hx => ih hx) h
/-- from a place of cs itself -/
theorem fx_wpL {Γ : fxGa} {M : fxM} {P : Option fxV → fxH → Prop} (cs : List Nat) (k : Nat) {x : fxC} (h : fx_w1 Γ M x (fun x' => fx_wp Γ M cs k x' P) P) : fx_E Γ M x P := fx_w1_ok (fun _ hx => fx_wpE cs k hx) h
theorem fx_R_mono {Γ : fxGa} {M : fxM} : ∀ {N : Nat} {x : fxC} {r : Option fxV} {h' : fxH}, fx_R fx_Y Γ M N x r h' → fx_E Γ M x (fun r2 h2 => r2 = r ∧ h2 = h') := fun h => ⟨_, _, _, h, rfl, rfl⟩
/-- a method: its body's walk -/
theorem fx_meth {d y : Nat} {av : List fxV} {h h' : fxH} {r : Option fxV} (M : fxM) (lv : fxLv) (hy : y < 255) (hM : (fx_Y y).2.1 = M) (hlv : fx_ent M.1.2.2.1 av = lv) (hl : (fx_sl av).length ≤ M.1.2.2.1) (k : fx_E (fx_Ga d) M (0, lv, [], h, 0, 0) (fun r2 h2 => r2 = r ∧ h2 = h')) : fx_Ga (d + 1) y av h r h' := by
  subst hM; subst hlv
  obtain ⟨N, r2, h2, hR, rfl, rfl⟩ := k
  exact Or.inr (Or.inr ⟨hy, hl, N, hR⟩)
/-- the same, where the answer and the heap are told by a property -/
theorem fx_methX {d y : Nat} {av : List fxV} {h : fxH} {P : Option fxV → fxH → Prop} (M : fxM) (lv : fxLv) (hy : y < 255) (hM : (fx_Y y).2.1 = M) (hlv : fx_ent M.1.2.2.1 av = lv) (hl : (fx_sl av).length ≤ M.1.2.2.1) (k : fx_E (fx_Ga d) M (0, lv, [], h, 0, 0) P) : ∃ r h', fx_Ga (d + 1) y av h r h' ∧ P r h' := by
  subst hM; subst hlv
  obtain ⟨N, r2, h2, hR, hP⟩ := k
  exact ⟨r2, h2, Or.inr (Or.inr ⟨hy, hl, N, hR⟩), hP⟩
