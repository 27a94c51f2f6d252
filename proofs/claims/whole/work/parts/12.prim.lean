/-! arrays of references, objects, primitives -/
section FXK
variable {p : Program} {l : Launch} {e : Env} {R : Room} {s : State} {m : MethodId} {args : Array Value} {below : List Frame} {meth : Method} {c0 : Code} {Q : State → Prop}
variable {A : Nat → Prop} {D : va_G} {aC : Nat → ClassId} {X : fxX} {M : fxM}
theorem fx_newr (C : fx_Cx p R s m args meth c0 A D aC X M) (K : fx_Mok M) {pc c n k1 t0 x0 : Nat} {v : Int32} {lv : fxLv} {r : List fxV} {ad : fxR → Nat} {L : List fxR} {h : fxH} {H : Heap} {locs : List Loc} {ls : Array Slot} (hF : M.2.1 pc = some (.anewarray x0)) (hb : fx_aw k1 t0 = true) (ht : t0 = 4 ∨ t0 = 5 ∨ t0 = 6) {N : String} (het : fx_et t0 = .object N) (hlk : Cond.classLink M.1.1 x0 N ∈ fx_tbl) (hao : va_AO N s)
    (hi : 0 ≤ v.toInt ∧ v.toInt ≤ 3000 ∧ c + 1 ≤ M.2.2.2.2.2.1 ∧ n + v.toNatClampNeg ≤ M.2.2.2.2.2.2) (I : fx_Inv s A D aC X M.1.2.2.1 ad L h lv (.inl v :: r) H locs ls)
    (k : fx_K p l e R s m args below meth c0 Q A D aC X M.1.2.2.1 ad h (pc + 3, lv, .inr (.inr (some (k1, h.1 k1))) :: r, fx_mk h k1 v.toNatClampNeg, c + 1, n + v.toNatClampNeg)) : W p l e R s m args below meth c0 H locs c n Q (F0 m pc ls (.int v :: r.map (fx_cv ad))) := by
  obtain ⟨he, hS, hl, hlv, hst, hln⟩ := id I
  obtain ⟨b1, b2, b3⟩ := fx_aw_spec hb
  obtain ⟨i1, i2, i3, i4⟩ := hi
  have hnn : ¬ v < 0 := by
    intro z
    have := Int32.lt_iff_toInt_lt.mp z
    have z0 : (0 : Int32).toInt = 0 := by decide
    omega
  have hN : v.toNatClampNeg = v.toInt.toNat := rfl
  have hby : v.toNatClampNeg * 4 ≤ 536870912 := by rw [hN]; omega
  have hcell : ∀ q cA, cA = aC t0 → fx_cell aC (fx_adn ad h k1 q) (fx_mk h k1 v.toNatClampNeg) (k1, h.1 k1) = .inl (cA, v.toNatClampNeg, .inr (.inr (.inr (.inr (fun _ => none))))) := by
    intro q cA hcA
    rw [fx_cell_a b1, b3, fx_mk_len, hcA]
    have e1 : (fx_mk h k1 v.toNatClampNeg).2.2.1 k1 (h.1 k1) = fun _ => none := fx_all_eq _ _ _ _
    unfold fx_ad
    rcases ht with rfl | rfl | rfl <;> simp only [e1] <;> rfl
  refine va_newq (C := N) C.1 C.2.1 C.2.2.2.1 (C.2.2.2.2.1 _ hlk) hao C.2.2.2.2.2.1 he.1 he.2.1 hS C.2.2.2.2.2.2.2.2.2.2.1 hnn rfl hby (by rw [C.2.2.2.2.2.2.2.2.2.2.2.1]; exact i3) (by rw [C.2.2.2.2.2.2.2.2.2.2.2.2.1]; exact i4) (fx_dec K hF rfl) ?_
  intro q cA H1 hK hP hD hS1
  rw [← het] at hK
  have hcA := fx_sameC C (by omega) hK
  obtain ⟨I2, e2⟩ := fx_made b2 I (fx_tl hst) (hcell q cA hcA) hP hD hS1
  rw [← e2]
  exact k _ _ H1 locs ls I2 (fx_mk_ext ad h k1 _ q)
theorem fx_s_anewarray (C : fx_Cx p R s m args meth c0 A D aC X M) (K : fx_Mok M) (v : Nat) : fx_G p l e R s m args below meth c0 Q A D aC X M (.anewarray v) := by
  intro pc lv st h c n x ad L H locs ls hF hs I k
  have hX := C.2.2.2.2.2.2.2.2.2.1.2.2.2.2.2.2.2.2.1
  simp only [fx_stp] at hs
  split at hs
  · rename_i y r k1 ci hk1 hci
    obtain ⟨-, q, hq, hlk⟩ := K.2.2.2.2.1 _ _ (fx_lk_mem hci)
    cases hb : ((fx_aw k1 4 && Nat.beq ci 1) || (fx_aw k1 5 && Nat.beq ci 9) || (fx_aw k1 6 && Nat.beq ci 5)) with
    | false => rw [hb] at hs; cases hs
    | true =>
      rw [hb] at hs
      simp only [cond_true] at hs
      split at hs
      · rename_i hi
        cases hs
        rcases Bool.or_eq_true_iff.mp hb with hb | hb
        · rcases Bool.or_eq_true_iff.mp hb with hb | hb
          · obtain ⟨g1, g2⟩ := Bool.and_eq_true_iff.mp hb
            have := Nat.eq_of_beq_eq_true g2
            subst this
            cases hq
            exact fx_newr C K hF g1 (Or.inl rfl) rfl hlk hX.1 hi I k
          · obtain ⟨g1, g2⟩ := Bool.and_eq_true_iff.mp hb
            have := Nat.eq_of_beq_eq_true g2
            subst this
            cases hq
            exact fx_newr C K hF g1 (Or.inr (Or.inl rfl)) rfl hlk hX.2.1 hi I k
        · obtain ⟨g1, g2⟩ := Bool.and_eq_true_iff.mp hb
          have := Nat.eq_of_beq_eq_true g2
          subst this
          cases hq
          exact fx_newr C K hF g1 (Or.inr (Or.inr rfl)) rfl hlk hX.2.2 hi I k
      · cases hs
  · cases hs
theorem fx_s_new (C : fx_Cx p R s m args meth c0 A D aC X M) (K : fx_Mok M) (v : Nat) : fx_G p l e R s m args below meth c0 Q A D aC X M (.new v) := by
  intro pc lv st h c n x ad L H locs ls hF hs I k
  obtain ⟨he, hS, hl, hlv, hst, hln⟩ := id I
  simp only [fx_stp] at hs
  split at hs
  · rename_i ci hci
    obtain ⟨hc12, q, hq, hlk⟩ := K.2.2.2.2.1 _ _ (fx_lk_mem hci)
    rw [hq] at hs
    simp only at hs
    split at hs
    · rename_i hi
      cases hs
      obtain ⟨hin, hins, hini⟩ := fx_clin hq
      obtain ⟨-, hty, -, -, -⟩ := fx_clok ci q hq
      have hcell : ∀ z, fx_cell aC (fx_adn ad h ci z) (fx_mk h ci 0) (ci, h.1 ci) = .inr (ci, (List.range (fx_nf ci)).map (fun sl => defaultValue (fx_ty ci sl))) := by
        intro z
        rw [fx_cell_o (by omega)]
        congr 2
        refine List.map_congr_left (fun sl hsl => ?_)
        rw [fx_tydef ci hc12 sl (List.mem_range.mp hsl)]
        have e1 : (fx_mk h ci 0).2.2.1 ci (h.1 ci) = fun _ => none := fx_all_eq _ _ _ _
        have e2 : (fx_mk h ci 0).2.2.2.1 ci (h.1 ci) = fun _ => 0 := fx_all_eq _ _ _ _
        have e3 : (fx_mk h ci 0).2.2.2.2 ci (h.1 ci) = fun _ => 0 := fx_all_eq _ _ _ _
        unfold fx_fv
        rw [e1, e2, e3]
        rfl
      refine va_new (C := q.1) (T := q.2.1) (N := q.2.2) (ci := ci) (fs := (List.range (fx_nf ci)).map (fun sl => defaultValue (fx_ty ci sl))) C.1 C.2.1 C.2.2.2.2.1 hin (fx_ty ci) hty C.2.2.2.1 (C.2.2.2.2.1 _ hlk) (C.2.2.2.2.1 _ hins) (C.2.2.2.2.1 _ hini) C.2.2.2.2.2.1 he.1 he.2.1 hS C.2.2.2.2.2.2.2.2.2.2.1 hq (fun j hj => ?_) (by rw [C.2.2.2.2.2.2.2.2.2.2.2.1]; exact hi.1) (by rw [C.2.2.2.2.2.2.2.2.2.2.2.2.1]; exact hi.2) (fx_dec K hF rfl) ?_
      · unfold vp_V
        rw [List.getD_eq_getElem?_getD, List.getElem?_map, List.getElem?_range (by rw [fx_nf_of hq]; exact hj)]
        rfl
      · intro z H1 hP hD hS1
        obtain ⟨I2, e2⟩ := fx_made (show ci < 90 by omega) I hst (hcell z) hP hD hS1
        rw [← e2]
        exact k _ _ H1 locs ls I2 (fx_mk_ext ad h ci _ z)
    · cases hs
  · cases hs
theorem fx_fI (aC : Nat → ClassId) (C : fx_Cx p R s m args meth c0 A D aC X M) : s.vm.findClass "[I" = some (aC 0) := by
  have h := (C.2.2.2.2.2.1.2 0 _ (fx_tys_at aC (by decide))).2
  exact h
theorem fx_s_checkcast (C : fx_Cx p R s m args meth c0 A D aC X M) (K : fx_Mok M) (v : Nat) : fx_G p l e R s m args below meth c0 Q A D aC X M (.checkcast v) := by
  intro pc lv st h c n x ad L H locs ls hF hs I k
  obtain ⟨he, hS, hl, hlv, hst, hln⟩ := id I
  simp only [fx_stp] at hs
  split at hs
  · rename_i k1 j1 r
    cases hb : fx_aw k1 0 with
    | false => rw [hb] at hs; cases hs
    | true =>
      rw [hb] at hs
      cases hs
      obtain ⟨b1, b2, b3⟩ := fx_aw_spec hb
      obtain ⟨q0, hq0⟩ := fx_inL he b2 (fx_hd hst)
      have hw := fx_ws_at (aC := aC) (ad := ad) (h := h) hq0
      rw [fx_cell_a b1, b3] at hw
      exact va_castA C.1 C.2.1 C.2.2.2.1 (C.2.2.2.2.1 _ (K.2.2.2.2.2.2.2.2.2 _ _ hF)) he.1 q0 hw (fx_fI aC C) (fx_dec K hF rfl) (k ad L H locs ls I (fx_ext.rf h ad))
  · cases hs
theorem fx_c8 {ad : fxR → Nat} {r : List fxV} {N : Nat} (h : Nat.ble (r.map fx_cat).sum 8 = true) (hN : 8 + N ≤ R.locals) : ((r.map (fx_cv ad)).map fun v => v.category).sum + N ≤ R.locals := by
  rw [fx_cats]
  have := Nat.le_of_ble_eq_true h
  omega
theorem fx_s_invokestatic (C : fx_Cx p R s m args meth c0 A D aC X M) (K : fx_Mok M) (v : Nat) : fx_G p l e R s m args below meth c0 Q A D aC X M (.invokestatic v) := by
  intro pc lv st h c n x ad L H locs ls hF hs I k
  obtain ⟨he, hS, hl, hlv, hst, hln⟩ := id I
  obtain ⟨C1, C2, C3, C4, C5, C6, C7, C8, C9, C10, C11, C12, C13, C14, C15⟩ := id C
  have hml : c0.maxLocals = ls.size := by rw [C3, hl.1]
  simp only [fx_stp] at hs
  split at hs
  · rename_i hv
    have hp := K.2.2.2.1 _ _ (fx_lk_mem hv)
    split at hs
    · rename_i y z r
      cases hb : (Nat.ble (r.map fx_cat).sum 8 && Nat.ble c M.2.2.2.2.2.1 && Nat.ble n M.2.2.2.2.2.2) with
      | false => rw [hb] at hs; cases hs
      | true =>
        rw [hb] at hs
        cases hs
        obtain ⟨hb, hn0⟩ := Bool.and_eq_true_iff.mp hb
        obtain ⟨hb, hc0⟩ := Bool.and_eq_true_iff.mp hb
        have hc' : c ≤ R.cells := by rw [C12]; exact Nat.le_of_ble_eq_true hc0
        have hn' : n ≤ R.slots := by rw [C13]; exact Nat.le_of_ble_eq_true hn0
        exact va_mmax C1 C2 hml C4 (C5 _ hp) (C5 _ fx_w_max_s) (C5 _ fx_w_math) (C5 _ fx_w_max_c) C14 (fx_c8 hb (by omega)) hc' hn' (fx_dec K hF rfl) (k ad L H locs ls ⟨he, hS, hl, hlv, fx_ci (fx_tl (fx_tl hst)), hln⟩ (fx_ext.rf h ad))
    · cases hs
  · rename_i hv
    have hp := K.2.2.2.1 _ _ (fx_lk_mem hv)
    split at hs
    · rename_i y z r
      cases hb : (Nat.ble (r.map fx_cat).sum 8 && Nat.ble c M.2.2.2.2.2.1 && Nat.ble n M.2.2.2.2.2.2) with
      | false => rw [hb] at hs; cases hs
      | true =>
        rw [hb] at hs
        cases hs
        obtain ⟨hb, hn0⟩ := Bool.and_eq_true_iff.mp hb
        obtain ⟨hb, hc0⟩ := Bool.and_eq_true_iff.mp hb
        have hc' : c ≤ R.cells := by rw [C12]; exact Nat.le_of_ble_eq_true hc0
        have hn' : n ≤ R.slots := by rw [C13]; exact Nat.le_of_ble_eq_true hn0
        exact va_mmin C1 C2 hml C4 (C5 _ hp) (C5 _ fx_w_min_s) (C5 _ fx_w_math) (C5 _ fx_w_min_c) C14 (fx_c8 hb (by omega)) hc' hn' (fx_dec K hF rfl) (k ad L H locs ls ⟨he, hS, hl, hlv, fx_ci (fx_tl (fx_tl hst)), hln⟩ (fx_ext.rf h ad))
    · cases hs
  · rename_i hv
    have hp := K.2.2.2.1 _ _ (fx_lk_mem hv)
    split at hs
    · rename_i y z r
      cases hb : (Nat.ble (r.map fx_cat).sum 8 && Nat.ble c M.2.2.2.2.2.1 && Nat.ble n M.2.2.2.2.2.2) with
      | false => rw [hb] at hs; cases hs
      | true =>
        rw [hb] at hs
        cases hs
        obtain ⟨hb, hn0⟩ := Bool.and_eq_true_iff.mp hb
        obtain ⟨hb, hc0⟩ := Bool.and_eq_true_iff.mp hb
        have hc' : c ≤ R.cells := by rw [C12]; exact Nat.le_of_ble_eq_true hc0
        have hn' : n ≤ R.slots := by rw [C13]; exact Nat.le_of_ble_eq_true hn0
        exact va_mmin_long C1 C2 hml C4 (C5 _ hp) (C5 _ fx_w_minl_s) (C5 _ fx_w_math) (C5 _ fx_w_minl_c) C14 (fx_c8 hb (by omega)) hc' hn' (fx_dec K hF rfl) (k ad L H locs ls ⟨he, hS, hl, hlv, fx_cL (fx_tl (fx_tl hst)), hln⟩ (fx_ext.rf h ad))
    · cases hs
  · rename_i hv
    have hp := K.2.2.2.1 _ _ (fx_lk_mem hv)
    split at hs
    · rename_i z dp k1 j1 sp k0 j0 r
      cases hb : (fx_aw k1 0 && fx_aw k0 0 && Nat.ble (r.map fx_cat).sum 8) with
      | false => rw [hb] at hs; cases hs
      | true =>
        rw [hb] at hs
        simp only [cond_true] at hs
        split at hs
        · rename_i hi
          cases hs
          obtain ⟨hb1, hb3⟩ := Bool.and_eq_true_iff.mp hb
          obtain ⟨hb1, hb2⟩ := Bool.and_eq_true_iff.mp hb1
          obtain ⟨b1, b2, b3⟩ := fx_aw_spec hb1
          obtain ⟨d1, d2, d3⟩ := fx_aw_spec hb2
          obtain ⟨i1, i2, i3, i4, i5⟩ := hi
          obtain ⟨q1, hq1⟩ := fx_inL he b2 (fx_hd (fx_tl (fx_tl hst)))
          obtain ⟨q0, hq0⟩ := fx_inL he d2 (fx_hd (fx_tl (fx_tl (fx_tl (fx_tl hst)))))
          have hw1 := fx_ws_at (aC := aC) (ad := ad) (h := h) hq1
          have hw0 := fx_ws_at (aC := aC) (ad := ad) (h := h) hq0
          rw [fx_cell_a b1, b3] at hw1
          rw [fx_cell_a d1, d3] at hw0
          have nn : ∀ u : Int32, 0 ≤ u.toInt → ¬ u < 0 := by
            intro u hu z
            have := Int32.lt_iff_toInt_lt.mp z
            have z0 : (0 : Int32).toInt = 0 := by decide
            omega
          have cl : ∀ u : Int32, u.toNatClampNeg = u.toInt.toNat := fun _ => rfl
          refine va_copyi C1 C2 hml C4 (C5 _ hp) (C5 _ fx_w_cp_n) (C5 _ fx_w_cp_s) (C5 _ fx_w_sys) C6 he.1 he.2.1 hS q0 q1 0 0 hw0 hw1 (fx_tys_at aC (by decide)) (fx_tys_at aC (by decide)) rfl (nn _ i1) (nn _ i2) (nn _ i3) (by rw [cl, cl]; omega) (by rw [cl, cl]; omega) (fun _ _ => rfl) C14 (fx_c8 hb3 (Nat.le_trans (by decide) C15)) (fx_dec K hF rfl) (fun H1 locs1 hP hD hS1 => k ad L H1 locs1 ls ⟨fx_He_set (h' := fx_wa h k1 j1 (va_cpy (h.2.2.2.1 k0 j0) (h.2.2.2.1 k1 j1) sp.toNatClampNeg dp.toNatClampNeg z.toNatClampNeg)) he hq1 (fx_wa_a b1 b3) (fun r' hr => fx_wa_ne hr) rfl he.2.2.2.1 (fx_Xh_a b2 he.2.2.2.2) ?_ ?_, hS1, hl, hlv, fx_tl (fx_tl (fx_tl (fx_tl (fx_tl hst)))), hln⟩ (fx_ext.rf h ad))
          · rw [b3]; exact hP
          · rw [b3]; exact hD
        · cases hs
    · cases hs
  · cases hs
theorem fx_s_invokespecial (C : fx_Cx p R s m args meth c0 A D aC X M) (K : fx_Mok M) (v : Nat) : fx_G p l e R s m args below meth c0 Q A D aC X M (.invokespecial v) := by
  intro pc lv st h c n x ad L H locs ls hF hs I k
  obtain ⟨he, hS, hl, hlv, hst, hln⟩ := id I
  obtain ⟨C1, C2, C3, C4, C5, C6, C7, C8, C9, C10, C11, C12, C13, C14, C15⟩ := id C
  have hml : ls.size = c0.maxLocals := by rw [C3, hl.1]
  simp only [fx_stp] at hs
  split at hs
  · rename_i hv
    have hp := K.2.2.2.1 _ _ (fx_lk_mem hv)
    split at hs
    · rename_i r0 r
      cases hb : Nat.ble (r.map fx_cat).sum 8 with
      | false => rw [hb] at hs; cases hs
      | true =>
        rw [hb] at hs
        cases hs
        refine W.objInit (a := ad r0) (rest := r.map (fx_cv ad)) C1 C2 C4 (C5 _ hp) (C5 _ fx_w_oi_i) (C5 _ fx_w_oi_c) (g := F0 m pc ls (.ref (ad r0) :: r.map (fx_cv ad))) rfl hml rfl (fx_dec K hF rfl) C14 ?_ (k ad L H locs ls ⟨he, hS, hl, hlv, fx_tl hst, hln⟩ (fx_ext.rf h ad))
        have := fx_c8 (R := R) (ad := ad) (N := 12) hb (by omega)
        simpa [JFrame.monitorRoom] using this
    · cases hs
  · cases hs
theorem fx_s_invokevirtual (C : fx_Cx p R s m args meth c0 A D aC X M) (K : fx_Mok M) (v : Nat) : fx_G p l e R s m args below meth c0 Q A D aC X M (.invokevirtual v) := by
  intro pc lv st h c n x ad L H locs ls hF hs I k
  obtain ⟨he, hS, hl, hlv, hst, hln⟩ := id I
  obtain ⟨C1, C2, C3, C4, C5, C6, C7, C8, C9, C10, C11, C12, C13, C14, C15⟩ := id C
  have hml : c0.maxLocals = ls.size := by rw [C3, hl.1]
  simp only [fx_stp] at hs
  split at hs
  · rename_i hv
    have hp := K.2.2.2.1 _ _ (fx_lk_mem hv)
    split at hs
    · rename_i k0 j0 r k1 hk1
      cases hb : (fx_aw k0 0 && fx_aw k1 0 && Nat.ble (r.map fx_cat).sum 8) with
      | false => rw [hb] at hs; cases hs
      | true =>
        rw [hb] at hs
        simp only [cond_true] at hs
        split at hs
        · rename_i hi
          cases hs
          obtain ⟨hb1, hb3⟩ := Bool.and_eq_true_iff.mp hb
          obtain ⟨hb1, hb2⟩ := Bool.and_eq_true_iff.mp hb1
          obtain ⟨b1, b2, b3⟩ := fx_aw_spec hb1
          obtain ⟨d1, d2, d3⟩ := fx_aw_spec hb2
          obtain ⟨q0, hq0⟩ := fx_inL he b2 (fx_hd hst)
          have hw0 := fx_ws_at (aC := aC) (ad := ad) (h := h) hq0
          rw [fx_cell_a b1, b3] at hw0
          refine va_clone C1 C2 hml C4 (C5 _ hp) (C5 _ fx_w_cl_same) (C5 _ fx_w_cl_n) (C5 _ fx_w_cl_i) (C5 _ fx_w_cl_sel) C10.2.2.2.2.2.2.2.2.2 C6 he.1 he.2.1 hS C11 q0 0 hw0 (fx_tys_at aC (by decide)) (fx_fI aC C) ?_ C14 (fx_c8 hb3 (by omega)) (by rw [C12]; exact hi.1) (by rw [C13]; exact hi.2) (fx_dec K hF rfl) ?_
          · intro i w hw
            have hw2 : (arrV (aC 0) (h.2.1 k0 j0) (fun j => Value.int (h.2.2.2.1 k0 j0 j))).slots[i]? = some w := hw
            have hlt := (Array.getElem?_eq_some_iff.mp hw2).1
            rw [arrV_size] at hlt
            rw [arrV_read _ _ hlt] at hw2
            cases hw2
            rfl
          · intro q H1 hK hP hD hS1
            have hce : fx_cell aC (fx_adn ad h k1 q) (fx_wa (fx_mk h k1 (h.2.1 k0 j0)) k1 (h.1 k1) (h.2.2.2.1 k0 j0)) (k1, h.1 k1) = .inl (aC 0, h.2.1 k0 j0, .inl (h.2.2.2.1 k0 j0)) := by
              rw [fx_wa_a d1 d3, d3, fx_mk_len]
            have hw : fx_ws aC (fx_adn ad h k1 q) (fx_wa (fx_mk h k1 (h.2.1 k0 j0)) k1 (h.1 k1) (h.2.2.2.1 k0 j0)) (L ++ [(k1, h.1 k1)]) = fx_ws aC ad h L ++ [(q, .inl (aC 0, h.2.1 k0 j0, .inl (h.2.2.2.1 k0 j0)))] := by
              unfold fx_ws
              rw [List.map_append]
              congr 1
              · refine List.map_congr_left (fun r' hr1 => ?_)
                have h1 := ((he.2.2.1 r').mp hr1).2
                have hne : r' ≠ (k1, h.1 k1) := fun z => by rw [z] at h1; exact Nat.lt_irrefl _ h1
                rw [fx_wa_ne hne, fx_mk_cell he.2.2.2.1 h1, (fx_mk_ext ad h k1 (h.2.1 k0 j0) q).2 r' h1]
              · rw [List.map_singleton, hce]
                unfold fx_adn
                rw [if_pos rfl]
            have x2 := fx_mk_ext ad h k1 (h.2.1 k0 j0) q
            have hP0 : ∀ (D : va_G), True := fun _ => trivial
            have e2 : ((.inr (.inr (some (k1, h.1 k1))) :: r : List fxV)).map (fx_cv (fx_adn ad h k1 q)) = Value.ref q :: r.map (fx_cv ad) := by
              rw [List.map_cons, x2.st (fx_tl hst)]
              show Value.ref (fx_adn ad h k1 q (k1, h.1 k1)) :: _ = _
              unfold fx_adn
              rw [if_pos rfl]
            rw [← e2]
            refine k _ (L ++ [(k1, h.1 k1)]) H1 locs ls ⟨⟨by rw [hw]; exact hP, by rw [hw]; exact hD, ?_, ?_, ?_⟩, hS1, by rw [x2.lv hlv]; exact hl, fun i v hv => x2.ok (hlv i v hv), fx_cn (P := fx_ok (fx_mk h k1 (h.2.1 k0 j0))) ?_ (fun v hv => x2.ok (fx_tl hst v hv)), hln⟩ ⟨x2.1, x2.2⟩
            · intro r'
              show _ ↔ _ ∧ r'.2 < (fx_mk h k1 (h.2.1 k0 j0)).1 r'.1
              rw [List.mem_append, List.mem_singleton, he.2.2.1 r', fx_mk_cnt]
              constructor
              · rintro (⟨h1, h2⟩ | rfl)
                · refine ⟨h1, ?_⟩
                  split
                  · rename_i z
                    rw [z] at h2
                    omega
                  · exact h2
                · exact ⟨d2, by rw [if_pos rfl]; exact Nat.lt_succ_self _⟩
              · rintro ⟨h1, h2⟩
                by_cases z : r'.1 = k1
                · rw [if_pos z] at h2
                  by_cases z2 : r'.2 = h.1 k1
                  · exact Or.inr (Prod.ext z z2)
                  · exact Or.inl ⟨h1, by rw [z]; omega⟩
                · rw [if_neg z] at h2
                  exact Or.inl ⟨h1, h2⟩
            · intro a b t r' hb e1
              by_cases z : a = k1 ∧ b = h.1 k1
              · obtain ⟨rfl, rfl⟩ := z
                have e3 : (fx_mk h a (h.2.1 k0 j0)).2.2.1 a (h.1 a) t = none := congrFun (fx_all_eq _ _ _ _) t
                have e1' : (fx_mk h a (h.2.1 k0 j0)).2.2.1 a (h.1 a) t = some r' := e1
                rw [e3] at e1'
                cases e1'
              · have e3 : (fx_mk h k1 (h.2.1 k0 j0)).2.2.1 a b = h.2.2.1 a b := fx_all_ne _ _ z
                have e1' : (fx_mk h k1 (h.2.1 k0 j0)).2.2.1 a b t = some r' := e1
                rw [e3] at e1'
                refine Nat.lt_of_lt_of_le (he.2.2.2.1 _ _ _ _ ?_ e1') (x2.1 _)
                have hb : b < (if a = k1 then h.1 k1 + 1 else h.1 a) := hb
                split at hb
                · rename_i ek
                  subst ek
                  have : ¬ b = h.1 a := fun w => z ⟨rfl, w⟩
                  omega
                · exact hb
            · refine fx_Xh_a d2 ?_
              obtain ⟨a1, a2, a3, a4, a5, a6, a7, a8, a9, a10⟩ := he.2.2.2.2
              have n0 : ¬ (90 = k1) := by omega
              have n1 : ¬ (91 = k1) := by omega
              have n2 : ¬ (92 = k1) := by omega
              refine ⟨?_, ?_, fun t => ?_, ?_, ?_, ?_, fun t => ?_, ?_, fun i hi => ?_, ?_⟩
              · rw [← a1]
                exact if_neg (fun z => n0 (congrArg Prod.fst z))
              · rw [← a2]
                show (if 90 = k1 then _ else h.2.1 90) 0 = _
                rw [if_neg n0]
              · rw [← a3 t]
                exact congrFun (fx_all_ne _ _ (fun z => n0 z.1)) t
              · rw [fx_mk_cnt, if_neg n0, a4]
              · rw [← a5]
                exact if_neg (fun z => n1 (congrArg Prod.fst z))
              · rw [← a6]
                show (if 91 = k1 then _ else h.2.1 91) 0 = _
                rw [if_neg n1]
              · rw [← a7 t]
                exact congrFun (fx_all_ne _ _ (fun z => n1 z.1)) t
              · rw [fx_mk_cnt, if_neg n1, a8]
              · rw [← a9 i hi]
                exact if_neg (fun z => n2 (congrArg Prod.fst z))
              · rw [fx_mk_cnt, if_neg n2, a10]
            · show h.1 k1 < (fx_mk h k1 (h.2.1 k0 j0)).1 k1
              rw [fx_mk_cnt, if_pos rfl]
              exact Nat.lt_succ_self _
        · cases hs
    · cases hs
  · cases hs
end FXK
