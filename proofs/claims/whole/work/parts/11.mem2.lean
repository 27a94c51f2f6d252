/-! stores into arrays, lengths, what is made, primitives -/
section FXJ
variable {p : Program} {l : Launch} {e : Env} {R : Room} {s : State} {m : MethodId} {args : Array Value} {below : List Frame} {meth : Method} {c0 : Code} {Q : State → Prop}
variable {A : Nat → Prop} {D : va_G} {aC : Nat → ClassId} {X : fxX} {M : fxM}
theorem fx_s_iastore (C : fx_Cx p R s m args meth c0 A D aC X M) (K : fx_Mok M) : fx_G p l e R s m args below meth c0 Q A D aC X M (.iastore) := by
  intro pc lv st h c n x ad L H locs ls hF hs I k
  obtain ⟨he, hS, hl, hlv, hst, hln⟩ := id I
  simp only [fx_stp] at hs
  split at hs
  · rename_i v i k1 j1 r
    cases hb : fx_aw k1 0 with
    | false => rw [hb] at hs; cases hs
    | true =>
      rw [hb] at hs
      simp only [cond_true] at hs
      split at hs
      · rename_i hi
        cases hs
        obtain ⟨b1, b2, b3⟩ := fx_aw_spec hb
        obtain ⟨q0, hq0⟩ := fx_inL he b2 (fx_hd (fx_tl (fx_tl hst)))
        have hw := fx_ws_at (aC := aC) (ad := ad) (h := h) hq0
        rw [fx_cell_a b1, b3] at hw
        refine va_iast C.1 C.2.1 C.2.2.2.2.2.1 he.1 he.2.1 hS q0 0 hw (fx_tys_at aC (by decide)) (fx_vin hi) (fx_dec K hF rfl) (fun H1 locs1 hP hD hS1 => k ad L H1 locs1 ls ⟨fx_He_set (h' := fx_wi h k1 j1 i.toNatClampNeg v) he hq0 (fx_wi_a b1 (Or.inl b3)) (fun r' hr => fx_wi_ne hr) rfl he.2.2.2.1 (fx_Xh_i b2 he.2.2.2.2) ?_ ?_, hS1, hl, hlv, fx_tl (fx_tl (fx_tl hst)), hln⟩ (fx_ext.rf h ad))
        · rw [b3]; exact hP
        · rw [b3]; exact hD
      · cases hs
  · cases hs
theorem fx_s_bastore (C : fx_Cx p R s m args meth c0 A D aC X M) (K : fx_Mok M) : fx_G p l e R s m args below meth c0 Q A D aC X M (.bastore) := by
  intro pc lv st h c n x ad L H locs ls hF hs I k
  obtain ⟨he, hS, hl, hlv, hst, hln⟩ := id I
  simp only [fx_stp] at hs
  split at hs
  · rename_i v i k1 j1 r
    cases hb : fx_aw k1 1 with
    | false =>
      rw [hb] at hs
      simp only [cond_false] at hs
      cases hb2 : fx_aw k1 2 with
      | false => rw [hb2] at hs; cases hs
      | true =>
        rw [hb2] at hs
        simp only [cond_true] at hs
        split at hs
        · rename_i hi
          cases hs
          obtain ⟨b1, b2, b3⟩ := fx_aw_spec hb2
          obtain ⟨q0, hq0⟩ := fx_inL he b2 (fx_hd (fx_tl (fx_tl hst)))
          have hw := fx_ws_at (aC := aC) (ad := ad) (h := h) hq0
          rw [fx_cell_a b1, b3] at hw
          refine va_zast C.1 C.2.1 C.2.2.2.2.2.1 he.1 he.2.1 hS q0 2 hw (fx_tys_at aC (by decide)) (fx_vin hi) (fx_dec K hF rfl) (fun H1 locs1 hP hD hS1 => k ad L H1 locs1 ls ⟨fx_He_set (h' := fx_wi h k1 j1 i.toNatClampNeg (vp_nar .boolean v)) he hq0 (fx_wi_a b1 (Or.inr (Or.inr b3))) (fun r' hr => fx_wi_ne hr) rfl he.2.2.2.1 (fx_Xh_i b2 he.2.2.2.2) ?_ ?_, hS1, hl, hlv, fx_tl (fx_tl (fx_tl hst)), hln⟩ (fx_ext.rf h ad))
          · rw [b3]; exact hP
          · rw [b3]; exact hD
        · cases hs
    | true =>
      rw [hb] at hs
      simp only [cond_true] at hs
      split at hs
      · rename_i hi
        cases hs
        obtain ⟨b1, b2, b3⟩ := fx_aw_spec hb
        obtain ⟨q0, hq0⟩ := fx_inL he b2 (fx_hd (fx_tl (fx_tl hst)))
        have hw := fx_ws_at (aC := aC) (ad := ad) (h := h) hq0
        rw [fx_cell_a b1, b3] at hw
        refine va_bast C.1 C.2.1 C.2.2.2.2.2.1 he.1 he.2.1 hS q0 1 hw (fx_tys_at aC (by decide)) (fx_vin hi) (fx_dec K hF rfl) (fun H1 locs1 hP hD hS1 => k ad L H1 locs1 ls ⟨fx_He_set (h' := fx_wi h k1 j1 i.toNatClampNeg v.toInt8.toInt32) he hq0 (fx_wi_a b1 (Or.inr (Or.inl b3))) (fun r' hr => fx_wi_ne hr) rfl he.2.2.2.1 (fx_Xh_i b2 he.2.2.2.2) ?_ ?_, hS1, hl, hlv, fx_tl (fx_tl (fx_tl hst)), hln⟩ (fx_ext.rf h ad))
        · rw [b3]; exact hP
        · rw [b3]; exact hD
      · cases hs
  · cases hs
theorem fx_s_lastore (C : fx_Cx p R s m args meth c0 A D aC X M) (K : fx_Mok M) : fx_G p l e R s m args below meth c0 Q A D aC X M (.lastore) := by
  intro pc lv st h c n x ad L H locs ls hF hs I k
  obtain ⟨he, hS, hl, hlv, hst, hln⟩ := id I
  simp only [fx_stp] at hs
  split at hs
  · rename_i v i k1 j1 r
    cases hb : fx_aw k1 3 with
    | false => rw [hb] at hs; cases hs
    | true =>
      rw [hb] at hs
      simp only [cond_true] at hs
      split at hs
      · rename_i hi
        cases hs
        obtain ⟨b1, b2, b3⟩ := fx_aw_spec hb
        obtain ⟨q0, hq0⟩ := fx_inL he b2 (fx_hd (fx_tl (fx_tl hst)))
        have hw := fx_ws_at (aC := aC) (ad := ad) (h := h) hq0
        rw [fx_cell_a b1, b3] at hw
        refine va_last C.1 C.2.1 C.2.2.2.2.2.1 he.1 he.2.1 hS q0 3 hw (fx_tys_at aC (by decide)) (fx_vin hi) (fx_dec K hF rfl) (fun H1 locs1 hP hD hS1 => k ad L H1 locs1 ls ⟨fx_He_set (h' := fx_wl h k1 j1 i.toNatClampNeg v) he hq0 (fx_wl_a b1 b3) (fun r' hr => fx_wl_ne hr) rfl he.2.2.2.1 he.2.2.2.2 ?_ ?_, hS1, hl, hlv, fx_tl (fx_tl (fx_tl hst)), hln⟩ (fx_ext.rf h ad))
        · rw [b3]; exact hP
        · rw [b3]; exact hD
      · cases hs
  · cases hs
theorem fx_aast (C : fx_Cx p R s m args meth c0 A D aC X M) (K : fx_Mok M) {pc c n k1 j1 k2 j2 t0 : Nat} {i : Int32} {lv : fxLv} {r : List fxV} {ad : fxR → Nat} {L : List fxR} {h : fxH} {H : Heap} {locs : List Loc} {ls : Array Slot} (hF : M.2.1 pc = some .aastore) (hb : fx_aw k1 t0 = true) (ht : t0 = 4 ∨ t0 = 5 ∨ t0 = 6) {q : vw_C} (hq : fx_cl[k2]? = some q) (hk2 : k2 < 12) (het : fx_et t0 = .object q.1) (hi : 0 ≤ i.toInt ∧ i.toInt < (h.2.1 k1 j1 : Int))
    (I : fx_Inv s A D aC X M.1.2.2.1 ad L h lv (.inr (.inr (some (k2, j2))) :: .inl i :: .inr (.inr (some (k1, j1))) :: r) H locs ls)
    (k : fx_K p l e R s m args below meth c0 Q A D aC X M.1.2.2.1 ad h (pc + 1, lv, r, fx_wr h k1 j1 i.toNatClampNeg (some (k2, j2)), c, n)) : W p l e R s m args below meth c0 H locs c n Q (F0 m pc ls (.ref (ad (k2, j2)) :: .int i :: .ref (ad (k1, j1)) :: r.map (fx_cv ad))) := by
  obtain ⟨he, hS, hl, hlv, hst, hln⟩ := id I
  obtain ⟨b1, b2, b3⟩ := fx_aw_spec hb
  obtain ⟨q0, hq0⟩ := fx_inL he b2 (fx_hd (fx_tl (fx_tl hst)))
  obtain ⟨q1, hq1⟩ := fx_inL he (show k2 < 90 by omega) (fx_hd hst)
  have hw := fx_ws_at (aC := aC) (ad := ad) (h := h) hq0
  have hw1 := fx_ws_at (aC := aC) (ad := ad) (h := h) hq1
  rw [fx_cell_o (show k2 < 20 by omega)] at hw1
  have hwe : fx_cell aC ad h (k1, j1) = .inl (aC t0, h.2.1 k1 j1, .inr (.inr (.inr (.inr (fun s => (h.2.2.1 k1 j1 s).map ad))))) := by
    rw [fx_cell_a b1, b3]
    rcases ht with rfl | rfl | rfl <;> rfl
  rw [hwe] at hw
  have h7 : t0 < 7 := by omega
  refine va_astq C.1 C.2.1 C.2.2.2.2.2.1 he.1 he.2.1 hS q0 t0 q1 k2 hw (by rw [← het]; exact fx_tys_at aC h7) hw1 hq (fx_vin hi) (fx_dec K hF rfl) (fun H1 locs1 hP hD hS1 => k ad L H1 locs1 ls ⟨fx_He_set (h' := fx_wr h k1 j1 i.toNatClampNeg (some (k2, j2))) he hq0 (fx_wr_a b1 (by rw [b3]; exact ht)) (fun r' hr => fx_wr_ne hr) rfl (fx_refs_r he.2.2.2.1 (fx_hd hst)) he.2.2.2.2 ?_ ?_, hS1, hl, hlv, fx_tl (fx_tl (fx_tl hst)), hln⟩ (fx_ext.rf h ad))
  · rw [b3]; exact hP
  · rw [b3]; exact hD
theorem fx_s_aastore (C : fx_Cx p R s m args meth c0 A D aC X M) (K : fx_Mok M) : fx_G p l e R s m args below meth c0 Q A D aC X M (.aastore) := by
  intro pc lv st h c n x ad L H locs ls hF hs I k
  simp only [fx_stp] at hs
  split at hs
  · rename_i k2 j2 i k1 j1 r
    cases hb : ((fx_aw k1 4 && Nat.beq k2 1) || (fx_aw k1 5 && Nat.beq k2 9) || (fx_aw k1 6 && Nat.beq k2 5)) with
    | false => rw [hb] at hs; cases hs
    | true =>
      rw [hb] at hs
      simp only [cond_true] at hs
      split at hs
      · rename_i hi
        cases hs
        rcases Bool.or_eq_true_iff.mp hb with hb | hb
        · rcases Bool.or_eq_true_iff.mp hb with hb | hb
          · obtain ⟨g1, g2⟩ := Bool.and_eq_true_iff.mp hb
            have := Nat.eq_of_beq_eq_true g2
            subst this
            exact fx_aast C K hF g1 (Or.inl rfl) (q := ("FoxReply$Chase", fx_T1, 11)) rfl (by decide) rfl hi I k
          · obtain ⟨g1, g2⟩ := Bool.and_eq_true_iff.mp hb
            have := Nat.eq_of_beq_eq_true g2
            subst this
            exact fx_aast C K hF g1 (Or.inr (Or.inl rfl)) (q := ("FoxReply$World", fx_T9, 5)) rfl (by decide) rfl hi I k
        · obtain ⟨g1, g2⟩ := Bool.and_eq_true_iff.mp hb
          have := Nat.eq_of_beq_eq_true g2
          subst this
          exact fx_aast C K hF g1 (Or.inr (Or.inr rfl)) (q := ("FoxReply$Rule", fx_T5, 4)) rfl (by decide) rfl hi I k
      · cases hs
  · cases hs
theorem fx_s_arraylength (C : fx_Cx p R s m args meth c0 A D aC X M) (K : fx_Mok M) : fx_G p l e R s m args below meth c0 Q A D aC X M (.arraylength) := by
  intro pc lv st h c n x ad L H locs ls hF hs I k
  obtain ⟨he, hS, hl, hlv, hst, hln⟩ := id I
  simp only [fx_stp] at hs
  split at hs
  · rename_i k1 j1 r
    cases hb : (Nat.ble 20 k1 && Nat.ble k1 91) with
    | false => rw [hb] at hs; cases hs
    | true =>
      rw [hb] at hs
      cases hs
      obtain ⟨g1, g2⟩ := Bool.and_eq_true_iff.mp hb
      have b1 := Nat.le_of_ble_eq_true g1
      have b2 := Nat.le_of_ble_eq_true g2
      have kk := k ad L H locs ls ⟨he, hS, hl, hlv, fx_ci (fx_tl hst), hln⟩ (fx_ext.rf h ad)
      by_cases z : k1 < 90
      · obtain ⟨q0, hq0⟩ := fx_inL he z (fx_hd hst)
        have hw := fx_ws_at (aC := aC) (ad := ad) (h := h) hq0
        rw [fx_cell_a b1] at hw
        have h7 : fx_ek k1 < 7 := by unfold fx_ek; split <;> decide
        exact va_alen C.1 C.2.1 C.2.2.2.2.2.1 he.1 q0 (fx_ek k1) hw (fx_tys_at aC h7) rfl (fx_dec K hF rfl) kk
      · obtain ⟨x1, x2, x3, x4, x5, x6, x7, x8, -⟩ := he.2.2.2.2
        have hj : j1 < h.1 k1 := fx_hd hst
        have hX := C.2.2.2.2.2.2.2.2.2.1
        rcases (show k1 = 90 ∨ k1 = 91 by omega) with rfl | rfl
        · rw [x4] at hj
          have : j1 = 0 := by omega
          subst this
          have q := va_slen (l := l) (e := e) (R := R) (m := m) (args := args) (below := below) (meth := meth) (locs := locs) (cells := c) (slots := n) (Q := Q) (pc := pc) (ls := ls) (rest := r.map (fx_cv ad)) C.1 C.2.1 hX.1.1 hX.1.2.1 hX.1.2.2 hS (fx_dec K hF rfl) (by rw [← x2]; exact kk)
          rw [← x1] at q
          exact q
        · rw [x8] at hj
          have : j1 = 0 := by omega
          subst this
          have q := va_tlen (l := l) (e := e) (R := R) (m := m) (args := args) (below := below) (meth := meth) (locs := locs) (cells := c) (slots := n) (Q := Q) (pc := pc) (ls := ls) (rest := r.map (fx_cv ad)) C.1 C.2.1 hX.2.2.1 hS rfl (fx_dec K hF rfl) (by rw [← x6]; exact kk)
          rw [← x5] at q
          exact q
  · cases hs
/-- behind a making -/
theorem fx_made {nL : Nat} {ad : fxR → Nat} {L : List fxR} {h : fxH} {lv : fxLv} {st r : List fxV} {H H1 : Heap} {locs : List Loc} {ls : Array Slot} {k n q : Nat} {ce : va_E} (hk : k < 90) (I : fx_Inv s A D aC X nL ad L h lv st H locs ls) (hst : ∀ v ∈ r, fx_ok h v) (he : fx_cell aC (fx_adn ad h k q) (fx_mk h k n) (k, h.1 k) = ce)
    (hP : va_P D fx_cl (fx_ws aC ad h L ++ [(q, ce)]) H1) (hD : va_D A (fx_ws aC ad h L ++ [(q, ce)])) (hS1 : va_S A s.heap H1 locs) :
    fx_Inv s A D aC X nL (fx_adn ad h k q) (L ++ [(k, h.1 k)]) (fx_mk h k n) lv (.inr (.inr (some (k, h.1 k))) :: r) H1 locs ls ∧ (.inr (.inr (some (k, h.1 k))) :: r).map (fx_cv (fx_adn ad h k q)) = Value.ref q :: r.map (fx_cv ad) := by
  obtain ⟨hH, hS, hl, hlv, -, hln⟩ := I
  have x := fx_mk_ext ad h k n q
  refine ⟨⟨fx_mk_He hk hH he hP hD, hS1, by rw [x.lv hlv]; exact hl, fun i v hv => x.ok (hlv i v hv), fx_cn (P := fx_ok (fx_mk h k n)) ?_ (fun v hv => x.ok (hst v hv)), hln⟩, ?_⟩
  · show h.1 k < (fx_mk h k n).1 k
    rw [fx_mk_cnt, if_pos rfl]
    exact Nat.lt_succ_self _
  · rw [List.map_cons, x.st hst]
    show Value.ref (fx_adn ad h k q (k, h.1 k)) :: _ = _
    unfold fx_adn
    rw [if_pos rfl]
theorem fx_sameC (C : fx_Cx p R s m args meth c0 A D aC X M) {t : Nat} (ht : t < 7) {cA : ClassId} (h : va_K D fx_cl (fx_tys aC ++ [(cA, fx_et t)]) s) : cA = aC t := by
  have h1 := (h.2 7 (cA, fx_et t) rfl).2
  have h2 := (C.2.2.2.2.2.1.2 t _ (fx_tys_at aC ht)).2
  have e : ∀ {c1 c2 : ClassId} {ty : FieldType}, va_RA s c1 ty → va_RA s c2 ty → c1 = c2 := by
    intro c1 c2 ty g1 g2
    cases ty with
    | object C =>
      obtain ⟨-, -, -, -, -, g1⟩ := g1
      obtain ⟨-, -, -, -, -, g2⟩ := g2
      exact Option.some.inj (g1.symm.trans g2)
    | _ => exact Option.some.inj (Eq.trans (Eq.symm g1) g2)
  exact e h1 h2
theorem fx_newp (C : fx_Cx p R s m args meth c0 A D aC X M) (K : fx_Mok M) {pc c n k1 t0 : Nat} {at0 : ArrayType} {v : Int32} {lv : fxLv} {r : List fxV} {ad : fxR → Nat} {L : List fxR} {h : fxH} {H : Heap} {locs : List Loc} {ls : Array Slot} (hF : M.2.1 pc = some (.newarray at0)) (hb : fx_aw k1 t0 = true) (ht : newarray.typeOf at0 = fx_et t0) (ht4 : t0 < 4) (hac : Cond.arrayClass (newarray.typeOf at0) ∈ fx_tbl) (hcb : componentBytes (fx_et t0) ≤ 8)
    (hi : 0 ≤ v.toInt ∧ v.toInt ≤ 3000 ∧ c + 1 ≤ M.2.2.2.2.2.1 ∧ n + v.toNatClampNeg ≤ M.2.2.2.2.2.2) (I : fx_Inv s A D aC X M.1.2.2.1 ad L h lv (.inl v :: r) H locs ls)
    (k : fx_K p l e R s m args below meth c0 Q A D aC X M.1.2.2.1 ad h (pc + 2, lv, .inr (.inr (some (k1, h.1 k1))) :: r, fx_mk h k1 v.toNatClampNeg, c + 1, n + v.toNatClampNeg)) : W p l e R s m args below meth c0 H locs c n Q (F0 m pc ls (.int v :: r.map (fx_cv ad))) := by
  obtain ⟨he, hS, hl, hlv, hst, hln⟩ := id I
  obtain ⟨b1, b2, b3⟩ := fx_aw_spec hb
  obtain ⟨i1, i2, i3, i4⟩ := hi
  have hnn : ¬ v < 0 := by
    intro z
    have := Int32.lt_iff_toInt_lt.mp z
    have z0 : (0 : Int32).toInt = 0 := by decide
    omega
  have hN : v.toNatClampNeg = v.toInt.toNat := rfl
  have hby : v.toNatClampNeg * componentBytes (fx_et t0) ≤ 536870912 := by
    have : v.toNatClampNeg ≤ 3000 := by rw [hN]; omega
    calc v.toNatClampNeg * componentBytes (fx_et t0) ≤ 3000 * 8 := Nat.mul_le_mul this hcb
      _ ≤ 536870912 := by decide
  have hcell : ∀ q cA, cA = aC t0 → fx_cell aC (fx_adn ad h k1 q) (fx_mk h k1 v.toNatClampNeg) (k1, h.1 k1) = .inl (cA, v.toNatClampNeg, fx_ad t0 (fun _ => 0) (fun _ => 0, fun _ _ => 0, fun _ _ _ => none, fun _ _ _ => 0, fun _ _ _ => 0) 0 0) := by
    intro q cA hcA
    rw [fx_cell_a b1, b3, fx_mk_len, hcA]
    have e1 : (fx_mk h k1 v.toNatClampNeg).2.2.2.1 k1 (h.1 k1) = fun _ => 0 := fx_all_eq _ _ _ _
    have e2 : (fx_mk h k1 v.toNatClampNeg).2.2.2.2 k1 (h.1 k1) = fun _ => 0 := fx_all_eq _ _ _ _
    unfold fx_ad
    rcases (show t0 = 0 ∨ t0 = 1 ∨ t0 = 2 ∨ t0 = 3 by omega) with rfl | rfl | rfl | rfl <;> simp only [e1, e2]
  refine va_newa (a0 := (v.toNatClampNeg, fx_ad t0 (fun _ => 0) (fun _ => 0, fun _ _ => 0, fun _ _ _ => none, fun _ _ _ => 0, fun _ _ _ => 0) 0 0)) C.1 C.2.1 (C.2.2.2.2.1 _ hac) ht C.2.2.2.2.2.1 he.1 he.2.1 hS C.2.2.2.2.2.2.2.2.2.2.1 ?_ hnn rfl hby (by rw [C.2.2.2.2.2.2.2.2.2.2.2.1]; exact i3) (by rw [C.2.2.2.2.2.2.2.2.2.2.2.2.1]; exact i4) (fx_dec K hF rfl) ?_
  · intro cA
    rcases (show t0 = 0 ∨ t0 = 1 ∨ t0 = 2 ∨ t0 = 3 by omega) with rfl | rfl | rfl | rfl <;> rfl
  · intro q cA H1 hK hP hD hS1
    have hcA := fx_sameC C (by omega) hK
    obtain ⟨I2, e2⟩ := fx_made b2 I (fx_tl hst) (hcell q cA hcA) hP hD hS1
    rw [← e2]
    exact k _ _ H1 locs ls I2 (fx_mk_ext ad h k1 _ q)
theorem fx_s_newarray (C : fx_Cx p R s m args meth c0 A D aC X M) (K : fx_Mok M) (t : ArrayType) : fx_G p l e R s m args below meth c0 Q A D aC X M (.newarray t) := by
  intro pc lv st h c n x ad L H locs ls hF hs I k
  simp only [fx_stp] at hs
  split at hs
  · rename_i v r k1 hk1
    split at hs
    · cases hb : fx_aw k1 0 with
      | false => rw [hb] at hs; cases hs
      | true =>
        rw [hb] at hs
        simp only [cond_true] at hs
        split at hs
        · rename_i hi
          cases hs
          exact fx_newp C K hF hb rfl (by decide) fx_w_ac_int (by decide) hi I k
        · cases hs
    · cases hb : fx_aw k1 1 with
      | false => rw [hb] at hs; cases hs
      | true =>
        rw [hb] at hs
        simp only [cond_true] at hs
        split at hs
        · rename_i hi
          cases hs
          exact fx_newp C K hF hb rfl (by decide) fx_w_ac_byte (by decide) hi I k
        · cases hs
    · cases hb : fx_aw k1 2 with
      | false => rw [hb] at hs; cases hs
      | true =>
        rw [hb] at hs
        simp only [cond_true] at hs
        split at hs
        · rename_i hi
          cases hs
          exact fx_newp C K hF hb rfl (by decide) fx_w_ac_boolean (by decide) hi I k
        · cases hs
    · cases hb : fx_aw k1 3 with
      | false => rw [hb] at hs; cases hs
      | true =>
        rw [hb] at hs
        simp only [cond_true] at hs
        split at hs
        · rename_i hi
          cases hs
          exact fx_newp C K hF hb rfl (by decide) fx_w_ac_long (by decide) hi I k
        · cases hs
    · cases hb : fx_aw k1 9 with
      | false => rw [hb] at hs; cases hs
      | true =>
        exfalso
        have := (fx_aw_spec hb).2.2
        have h7 : fx_ek k1 < 7 := by unfold fx_ek; split <;> decide
        omega
  · cases hs
end FXJ
