/-! codes and what waits: the class' reader of rules -/
def bd (s : Nat) : Nat := match s with
  | 2 => 5
  | 3 => 5
  | 4 => 6
  | 5 => 6
  | 14 => 6
  | 6 => 4
  | 7 => 4
  | 8 => 4
  | 9 => 4
  | 10 => 4
  | 11 => 3
  | 12 => 2
  | 13 => 1
  | _ => 0
def ptl (b : Nat) : List Nat → List Nat × List Nat
  | [] => ([], [])
  | o :: r => if b ≤ bd o then (o :: (ptl b r).1, (ptl b r).2) else ([], o :: r)
theorem ptl_app (b : Nat) : ∀ W, (ptl b W).1 ++ (ptl b W).2 = W
  | [] => rfl
  | o :: r => by
    unfold ptl
    split
    · show o :: ((ptl b r).1 ++ (ptl b r).2) = _
      rw [ptl_app b r]
    · rfl
theorem ptl_len (b : Nat) (W : List Nat) : (ptl b W).1.length + (ptl b W).2.length = W.length := by
  rw [← List.length_append, ptl_app]
def xW (s : Nat) : Nat := if s = 91 then 24 else xOp s
/-- what may wait -/
def okW (W : List Nat) : Prop := ∀ o, o ∈ W → 2 ≤ o ∧ o ≤ 14 ∨ o = 91
theorem okW.tl {b : Nat} {W : List Nat} (h : okW W) : okW (ptl b W).2 := fun o ho => h o (by rw [← ptl_app b W]; exact List.mem_append_right _ ho)
def BN (hi : fxI3) : Prop := ∀ i, i < 14 → hi 91 0 i = nI ([5, 5, 6, 6, 6, 4, 4, 4, 4, 4, 2, 1, 3, 0].getD i 0)
def CD (hi : fxI3) (C : List Nat) : Prop := hi 6 0 5 = nI C.length ∧ ∀ k, k < C.length → hi 25 0 k = xCd (C.getD k 0)
def WW (hi : fxI3) (W : List Nat) : Prop := hi 6 0 7 = nI W.length ∧ ∀ k, k < W.length → hi 28 0 (W.length - 1 - k) = nI (xW (W.getD k 0))
def Fr6 (hi hi' : fxI3) : Prop := ∀ k j s, ¬ (k = 6 ∧ (s = 5 ∨ s = 7 ∨ s = 8)) → k ≠ 25 → k ≠ 28 → hi' k j s = hi k j s
theorem Fr6.rf (hi : fxI3) : Fr6 hi hi := fun _ _ _ _ _ _ => rfl
theorem Fr6.tr {a b c : fxI3} (h : Fr6 a b) (g : Fr6 b c) : Fr6 a c := fun k j s h1 h2 h3 => (g k j s h1 h2 h3).trans (h k j s h1 h2 h3)
theorem Fr6.up (hi : fxI3) {k j s : Nat} (x : Int32) (h : k = 6 ∧ (s = 5 ∨ s = 7 ∨ s = 8) ∨ k = 25 ∨ k = 28) : Fr6 hi (fx_up hi k j s x) := fun k' j' s' h1 h2 h3 => up_off hi x (fun z => by
  obtain ⟨z1, _, z3⟩ := z
  subst z1; subst z3
  rcases h with h | h | h
  · exact h1 h
  · exact h2 h
  · exact h3 h)
theorem bn_xor : ∀ k, k < 32 → nI k ^^^ -1 = -1 - nI k := by decide +kernel
theorem bd_ix : ∀ s, s < 92 → (2 ≤ s ∧ s ≤ 14 ∨ s = 91) → 11 ≤ xW s ∧ xW s < 25 ∧ [5, 5, 6, 6, 6, 4, 4, 4, 4, 4, 2, 1, 3, 0].getD (xW s - 11) 0 = bd s := by decide +kernel
theorem xCd_op : ∀ s, s < 15 → 2 ≤ s → xCd s = -1 - nI (xOp s) ∧ xW s = xOp s ∧ xOp s < 32 := by decide +kernel
theorem xW_23 : ∀ s, s < 92 → (2 ≤ s ∧ s ≤ 14 ∨ s = 91) → (xW s = 23 ↔ s = 11) := by decide +kernel
section XP
variable {d : Nat} {σ : fxS} {hi : fxI3} {hl : fxL3} {C W : List Nat}
theorem x_bindsOf (hb : BN hi) {s : Nat} (hs : 2 ≤ s ∧ s ≤ 14 ∨ s = 91) : fx_Ga (d + 1) 60 [vi (nI (xW s))] (hp σ hi hl) (some (vi (nI (bd s)))) (hp σ hi hl) := by
  obtain ⟨h1, h2, h3⟩ := bd_ix s (by omega) hs
  have e : (nI (xW s) - 11 : Int32) = nI (xW s - 11) := pk_sub (b := 11) h1
  refine fx_meth fx_M60 [some (vi (nI (xW s))), none] (by decide) rfl rfl (Nat.le_of_ble_eq_true rfl) (fx_wpE [] 40 ?_)
  refine ⟨fun (z : nI (xW s) - 11 < 0) => absurd (by rw [e] at z; exact z) (nI_pos (n := xW s - 11) (by omega)), fun _ => pk_le 14 (xW s - 11) (fun h => by omega) (fun h => ⟨ni_inx (n := xW s - 11) (m := 14) e h (by decide), ?_, rfl⟩) rfl e⟩
  refine congrArg (fun z => some (vi z)) ?_
  show hi 91 0 (nI (xW s) - 11).toNatClampNeg = _
  rw [ni_cl e (by omega), hb _ h, h3]
theorem x_put (hc : CD hi C) (hlen : C.length < 400) (x : Nat) : ∃ hi', fx_Ga (d + 1) 61 [rrO, vi (xCd x)] (hp σ hi hl) none (hp σ hi' hl) ∧ (∀ k j s, ¬ (k = 6 ∧ s = 5) → k ≠ 25 → hi' k j s = hi k j s) ∧ CD hi' (C ++ [x]) := by
  obtain ⟨c1, c2⟩ := hc
  refine ⟨fx_up (fx_up hi 25 0 C.length (xCd x)) 6 0 5 (nI (C.length + 1)), ?_, fun k j s h1 h2 => by rw [up_off _ _ (by omega), up_off _ _ (by omega)], ?_, fun k hk => ?_⟩
  · refine fx_meth fx_M61 [some rrO, some (vi (xCd x))] (by decide) rfl rfl (Nat.le_of_ble_eq_true rfl) (fx_wpE [] 40 ?_)
    refine ⟨fun (z : hi 6 0 5 < 0) => absurd (by rw [c1] at z; exact z) (nI_pos (n := C.length) (by omega)), fun _ => pk_le 400 C.length (fun h => by omega) (fun _ => ⟨ni_inx (n := C.length) (m := 400) c1 hlen (by decide), rfl, ?_⟩) rfl c1⟩
    show hp σ (fx_up (fx_up hi 25 0 (hi 6 0 5).toNatClampNeg (xCd x)) 6 0 5 (hi 6 0 5 + 1)) hl = _
    rw [c1, nI_clamp (by omega), nI_1]
  · rw [up_at, List.length_append]
    rfl
  · rw [getD_app hk, up_off _ _ (by omega)]
    by_cases e : k = C.length
    · subst e
      rw [if_pos rfl, up_at]
    · rw [if_neg e, up_off _ _ (by omega)]
      rw [List.length_append] at hk
      exact c2 k (by have hk : k < C.length + 1 := hk; omega)
theorem x_putTighter {b : Nat} (hb : 1 ≤ b ∧ b ≤ 6) (hbn : BN hi) : ∀ (W C : List Nat) (hi : fxI3), BN hi → CD hi C → WW hi W → hi 6 0 8 = nI (dp W) → okW W → C.length + W.length ≤ 400 → W.length ≤ 64 → ∃ hi', fx_Ga (d + 2) 58 [rrO, vi (nI b)] (hp σ hi hl) none (hp σ hi' hl) ∧ Fr6 hi hi' ∧ CD hi' (C ++ (ptl b W).1) ∧ WW hi' (ptl b W).2 ∧ hi' 6 0 8 = nI (dp (ptl b W).2) := by
  intro W0 C0 hi0 hbn0 hc0 hw0 hd0 hk0 hl0 hl64
  let Post : Option fxV → fxH → Prop := fun r2 h2 => r2 = none ∧ ∃ hi', h2 = hp σ hi' hl ∧ Fr6 hi0 hi' ∧ CD hi' (C0 ++ (ptl b W0).1) ∧ WW hi' (ptl b W0).2 ∧ hi' 6 0 8 = nI (dp (ptl b W0).2)
  have loop : ∀ (W C : List Nat) (hi : fxI3), CD hi C → WW hi W → hi 6 0 8 = nI (dp W) → okW W → C.length + W.length ≤ 400 → W.length ≤ 64 → Fr6 hi0 hi → C ++ (ptl b W).1 = C0 ++ (ptl b W0).1 → (ptl b W).2 = (ptl b W0).2 → fx_E (fx_Ga (d + 1)) fx_M58 (0, [some rrO, some (vi (nI b))], [], hp σ hi hl, 0, 0) Post := by
    intro W
    induction W with
    | nil =>
      intro C hi hc hw hd hk hlen h64 g1 g2 g3
      refine fx_wpE [] 20 (pk_le 0 0 (fun _ => ⟨rfl, hi, rfl, g1, ?_, ?_, ?_⟩) (fun h => by omega) hw.1)
      · rw [← g2]
        show CD hi (C ++ [])
        rw [List.append_nil]
        exact hc
      · rw [← g3]
        exact hw
      · rw [← g3]
        exact hd
    | cons o r ih =>
      intro C hi hc hw hd hk hlen h64 g1 g2 g3
      obtain ⟨o1, o3⟩ := id hw
      rw [List.length_cons] at hlen h64
      have o1 : hi 6 0 7 = nI (r.length + 1) := o1
      have oo := hk o List.mem_cons_self
      have hbn1 : BN hi := fun i hi2 => (g1 91 0 i (by omega) (by omega) (by omega)).trans (hbn0 i hi2)
      have etop : (hi 6 0 7 - 1 : Int32) = nI r.length := by
        rw [o1]
        exact pk_sub (b := 1) (by omega)
      have e28 : hi 28 0 r.length = nI (xW o) := by
        have := o3 0 (by rw [List.length_cons]; omega)
        rw [List.length_cons, show r.length + 1 - 1 - 0 = r.length by omega] at this
        exact this
      have rd : hi 28 0 (hi 6 0 7 - 1).toNatClampNeg = nI (xW o) := by
        rw [ni_cl etop (by omega)]
        exact e28
      have bdd := ni_inx (n := r.length) (m := 64) etop (by omega) (by decide)
      have hst := x_bindsOf (d := d) (σ := σ) (hl := hl) hbn1 oo
      rw [← rd] at hst
      have bd6 : bd o ≤ 6 := by
        unfold bd
        repeat' split
        all_goals omega
      have xw25 := bd_ix o (by omega) oo
      by_cases hbo : b ≤ bd o
      · have es1 : (ptl b (o :: r)).1 = o :: (ptl b r).1 := by
          show (if b ≤ bd o then (o :: (ptl b r).1, (ptl b r).2) else ([], o :: r)).1 = _
          rw [if_pos hbo]
        have es2 : (ptl b (o :: r)).2 = (ptl b r).2 := by
          show (if b ≤ bd o then (o :: (ptl b r).1, (ptl b r).2) else ([], o :: r)).2 = _
          rw [if_pos hbo]
        rw [es1] at g2
        rw [es2] at g3
        have o14 : o ≤ 14 ∧ 2 ≤ o := by
          rcases oo with h | h
          · exact ⟨h.2, h.1⟩
          · subst h
            have : bd 91 = 0 := rfl
            omega
        obtain ⟨x1, x2, x3⟩ := xCd_op o (by omega) o14.2
        have x23 := xW_23 o (by omega) oo
        have base : ∀ k, k < r.length → hi 28 0 (r.length - 1 - k) = nI (xW (r.getD k 0)) := fun k hk => by
          have := o3 (k + 1) (by rw [List.length_cons]; omega)
          rw [List.length_cons, show r.length + 1 - 1 - (k + 1) = r.length - 1 - k by omega] at this
          exact this
        have tail : ∀ hc1 : fxI3, (∀ k j s, ¬ (k = 6 ∧ (s = 7 ∨ s = 8)) → hc1 k j s = hi k j s) → hc1 6 0 7 = nI r.length → hc1 6 0 8 = nI (dp r) → fx_E (fx_Ga (d + 1)) fx_M58 (59, [some rrO, some (vi (nI b))], [], hp σ hc1 hl, 0, 0) Post := by
          intro hc1 k1 k2 k3
          have hcd : CD hc1 C := ⟨(k1 6 0 5 (by omega)).trans hc.1, fun k hk => (k1 25 0 k (by omega)).trans (hc.2 k hk)⟩
          obtain ⟨hi2, hg2, f2, hc2⟩ := x_put (d := d) (σ := σ) (hl := hl) hcd (by omega) o
          have rd2 : hc1 28 0 (hc1 6 0 7).toNatClampNeg ^^^ -1 = xCd o := by
            rw [k2, nI_clamp (by omega), k1 28 0 _ (by omega), e28, x2, bn_xor _ x3, x1]
          rw [← rd2] at hg2
          have h3 := ih (C ++ [o]) hi2 hc2 ⟨(f2 6 0 7 (by omega) (by omega)).trans k2, fun k hk => (f2 28 0 _ (by omega) (by omega)).trans ((k1 28 0 _ (by omega)).trans (base k hk))⟩ ((f2 6 0 8 (by omega) (by omega)).trans k3) (fun x hx => hk x (List.mem_cons_of_mem _ hx)) (by rw [List.length_append]; show _ + 1 + _ ≤ _; omega) (by omega) (g1.tr (fun k j s h1 h2 h3 => (f2 k j s (by omega) h2).trans (k1 k j s (by omega)))) (by rw [List.append_assoc]; exact g2) g3
          exact fx_wpE [0] 40 ⟨ni_inx (n := r.length) (m := 64) k2 (by omega) (by decide), _, _, hg2, h3⟩
        have rdt : fx_up hi 6 0 7 (hi 6 0 7 - 1) 28 0 (fx_up hi 6 0 7 (hi 6 0 7 - 1) 6 0 7).toNatClampNeg = nI (xW o) := by
          rw [up_at]
          exact rd
        have bd2 : 0 ≤ (fx_up hi 6 0 7 (hi 6 0 7 - 1) 6 0 7).toInt ∧ (fx_up hi 6 0 7 (hi 6 0 7 - 1) 6 0 7).toInt < ((64 : Nat) : Int) := by
          rw [up_at]
          exact bdd
        refine fx_wpE [0] 0 (fx_wpL [0, 59] 60 (pk_le (r.length + 1) 0 (fun h => by omega) (fun _ => ⟨bdd, _, _, hst, pk_lt (bd o) b (fun h => by omega) (fun _ => ⟨bd2, nn_eq (xW o) 23 (fun e => ?_) (fun e => ?_) rdt⟩)⟩) o1))
        · have e := x23.mp e
          refine tail (fx_up (fx_up hi 6 0 7 (hi 6 0 7 - 1)) 6 0 8 (hi 6 0 8 - 1)) (fun k j s h => by rw [up_off _ _ (by omega), up_off _ _ (by omega)]) ?_ ?_
          · rw [up_off _ _ (by omega), up_at]
            exact etop
          · rw [up_at, hd]
            show nI (dp r + (if o = 11 ∨ o = 91 then 1 else 0)) - nI 1 = _
            rw [if_pos (Or.inl e), pk_sub (by omega)]
            rfl
        · have e : o ≠ 11 := fun z => e (x23.mpr z)
          refine tail (fx_up hi 6 0 7 (hi 6 0 7 - 1)) (fun k j s h => up_off _ _ (by omega)) ?_ ?_
          · rw [up_at]
            exact etop
          · rw [up_off _ _ (by omega), hd]
            show nI (dp r + (if o = 11 ∨ o = 91 then 1 else 0)) = _
            rw [if_neg (by omega)]
            rfl
      · have es : ptl b (o :: r) = ([], o :: r) := by
          show (if b ≤ bd o then (o :: (ptl b r).1, (ptl b r).2) else ([], o :: r)) = _
          rw [if_neg hbo]
        rw [es] at g2 g3
        refine fx_wpE [] 60 (pk_le (r.length + 1) 0 (fun h => by omega) (fun _ => ⟨bdd, _, _, hst, pk_lt (bd o) b (fun _ => ⟨rfl, hi, rfl, g1, ?_, ?_, ?_⟩) (fun h => by omega)⟩) o1)
        · rw [← g2, List.append_nil]
          exact hc
        · rw [← g3]
          exact hw
        · rw [← g3]
          exact hd
  obtain ⟨r, h', hg', e1, hi', e2, e3⟩ := fx_methX (d := d + 1) (y := 58) (av := [rrO, vi (nI b)]) (h := hp σ hi0 hl) (P := Post) fx_M58 [some rrO, some (vi (nI b))] (by decide) rfl rfl (Nat.le_of_ble_eq_true rfl) (loop W0 C0 hi0 hc0 hw0 hd0 hk0 hl0 hl64 (Fr6.rf hi0) rfl rfl)
  subst e1
  subst e2
  exact ⟨hi', hg', e3⟩
theorem x_lay (hw : WW hi W) (h64 : W.length < 64) (o : Nat) : ∃ hi', fx_Ga (d + 1) 57 [rrO, vi (nI (xW o))] (hp σ hi hl) none (hp σ hi' hl) ∧ (∀ k j s, ¬ (k = 6 ∧ s = 7) → k ≠ 28 → hi' k j s = hi k j s) ∧ WW hi' (o :: W) := by
  obtain ⟨w1, w2⟩ := hw
  refine ⟨fx_up (fx_up hi 28 0 W.length (nI (xW o))) 6 0 7 (nI (W.length + 1)), ?_, fun k j s h1 h2 => by rw [up_off _ _ (by omega), up_off _ _ (by omega)], up_at _ _ _ _ _, fun k hk => ?_⟩
  · refine fx_meth fx_M57 [some rrO, some (vi (nI (xW o)))] (by decide) rfl rfl (Nat.le_of_ble_eq_true rfl) (fx_wpE [] 40 ?_)
    refine ⟨fun (z : hi 6 0 7 < 0) => absurd (by rw [w1] at z; exact z) (nI_pos (n := W.length) (by omega)), fun _ => pk_le 64 W.length (fun h => by omega) (fun _ => ⟨ni_inx (n := W.length) (m := 64) w1 h64 (by decide), rfl, ?_⟩) rfl w1⟩
    show hp σ (fx_up (fx_up hi 28 0 (hi 6 0 7).toNatClampNeg (nI (xW o))) 6 0 7 (hi 6 0 7 + 1)) hl = _
    rw [w1, nI_clamp (by omega), nI_1]
  · rw [List.length_cons] at hk ⊢
    rw [up_off _ _ (by omega)]
    cases k with
    | zero =>
      rw [show W.length + 1 - 1 - 0 = W.length by omega, up_at]
      rfl
    | succ k =>
      rw [show W.length + 1 - 1 - (k + 1) = W.length - 1 - k by omega, up_off _ _ (by omega)]
      exact w2 k (by omega)
theorem x_join2 (hbn : BN hi) (hc : CD hi C) (hw : WW hi W) (hd : hi 6 0 8 = nI (dp W)) (hk : okW W) (hlen : C.length + W.length ≤ 400) (h64 : W.length < 64) {s : Nat} (hs : 2 ≤ s ∧ s ≤ 14 ∧ s ≠ 11) : ∃ hi', fx_Ga (d + 3) 56 [rrO, vi (nI (xOp s))] (hp σ hi hl) none (hp σ hi' hl) ∧ Fr6 hi hi' ∧ CD hi' (C ++ (ptl (bd s) W).1) ∧ WW hi' (s :: (ptl (bd s) W).2) ∧ hi' 6 0 8 = nI (dp (s :: (ptl (bd s) W).2)) := by
  have b16 : 1 ≤ bd s ∧ bd s ≤ 6 := by
    rcases (show s = 2 ∨ s = 3 ∨ s = 4 ∨ s = 5 ∨ s = 6 ∨ s = 7 ∨ s = 8 ∨ s = 9 ∨ s = 10 ∨ s = 12 ∨ s = 13 ∨ s = 14 by omega) with rfl | rfl | rfl | rfl | rfl | rfl | rfl | rfl | rfl | rfl | rfl | rfl <;> decide
  have ex : xW s = xOp s := (xCd_op s (by omega) hs.1).2.1
  have hb := x_bindsOf (d := d + 1) (σ := σ) (hl := hl) hbn (s := s) (by omega)
  obtain ⟨hi1, hg1, f1, c1, w1, d1⟩ := x_putTighter (d := d) (σ := σ) (hl := hl) b16 hbn W C hi hbn hc hw hd hk hlen (by omega)
  have l1 := ptl_len (bd s) W
  obtain ⟨hi2, hg2, f2, w2⟩ := x_lay (d := d + 1) (σ := σ) (hl := hl) w1 (by omega) s
  rw [ex] at hb hg2
  refine ⟨hi2, ?_, f1.tr (fun k j x h1 h2 h3 => f2 k j x (by omega) h3), ⟨(f2 6 0 5 (by omega) (by omega)).trans c1.1, fun k hk2 => (f2 25 0 k (by omega) (by omega)).trans (c1.2 k hk2)⟩, w2, ?_⟩
  · exact fx_meth fx_M56 [some rrO, some (vi (nI (xOp s)))] (by decide) rfl rfl (Nat.le_of_ble_eq_true rfl) (fx_wpE [] 40 ⟨_, _, hb, _, _, hg1, _, _, hg2, rfl, rfl⟩)
  · rw [f2 6 0 8 (by omega) (by omega), d1]
    show nI (dp (ptl (bd s) W).2) = nI (dp (ptl (bd s) W).2 + if s = 11 ∨ s = 91 then 1 else 0)
    rw [if_neg (by omega)]
    rfl
end XP
