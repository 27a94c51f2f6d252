/-! fields, arrays, what is made -/
theorem fx_clin {ci : Nat} {q : vw_C} (h : fx_cl[ci]? = some q) : (∀ w ∈ u_ws q.1 q.2.1 q.2.2, w ∈ fx_tbl) ∧ Cond.instantiable q.1 q.2.2 ∈ fx_tbl ∧ Cond.initialized q.1 ∈ fx_tbl := by
  obtain ⟨h1, -, -, h4, h5⟩ := fx_clok ci q h
  refine ⟨fun w hw => fx_tb (h1 w hw) ?_, fx_tb h4 rfl, fx_tb h5 rfl⟩
  unfold u_ws at hw
  obtain ⟨k, -, rfl⟩ := List.mem_map.mp hw
  unfold u_lay
  split <;> rfl
section FXH
variable {p : Program} {l : Launch} {e : Env} {R : Room} {s : State} {m : MethodId} {args : Array Value} {below : List Frame} {meth : Method} {c0 : Code} {Q : State → Prop}
variable {A : Nat → Prop} {D : va_G} {aC : Nat → ClassId} {X : fxX} {M : fxM}
theorem fx_s_getfield (C : fx_Cx p R s m args meth c0 A D aC X M) (K : fx_Mok M) (v : Nat) : fx_G p l e R s m args below meth c0 Q A D aC X M (.getfield v) := by
  intro pc lv st h c n x ad L H locs ls hF hs I k
  obtain ⟨he, hS, hl, hlv, hst, hln⟩ := id I
  simp only [fx_stp] at hs
  split at hs
  · rename_i ci sl t hx
    split at hs
    · rename_i k1 j1 r
      cases hb : Nat.beq k1 ci with
      | false => rw [hb] at hs; cases hs
      | true =>
        rw [hb] at hs
        have e1 := Nat.eq_of_beq_eq_true hb
        subst e1
        obtain ⟨hci, q, hq, hsl, hlk, htc⟩ := K.2.1 _ _ _ _ (fx_lk_mem hx)
        obtain ⟨q0, hq0⟩ := fx_inL he (by omega) (fx_hd hst)
        have hw := fx_ws_at (aC := aC) (ad := ad) (h := h) hq0
        rw [fx_cell_o (by omega)] at hw
        refine va_get (C := q.1) (T := q.2.1) (N := q.2.2) C.1 C.2.1 C.2.2.2.2.1 (fx_clin hq).1 C.2.2.2.1 C.2.2.2.2.2.1 he.1 q0 hw hq sl hsl (C.2.2.2.2.1 _ hlk) (fun _ z => z) (fx_fvs (by rw [fx_nf_of hq]; exact hsl)) (fx_dec K hF rfl) ?_
        simp only [cond_true] at hs
        split at hs
        · cases hs
          have ev : fx_fv ad h k1 j1 sl = .int (h.2.2.2.1 k1 j1 sl) := by unfold fx_fv; rw [htc]; first | done | rfl
          rw [ev]
          exact k ad L H locs ls ⟨he, hS, hl, hlv, fx_ci (fx_tl hst), hln⟩ (fx_ext.rf h ad)
        · cases hs
          have ev : fx_fv ad h k1 j1 sl = .long (h.2.2.2.2 k1 j1 sl) := by unfold fx_fv; rw [htc]; first | done | rfl
          rw [ev]
          exact k ad L H locs ls ⟨he, hS, hl, hlv, fx_cL (fx_tl hst), hln⟩ (fx_ext.rf h ad)
        · cases hs
          have ev : fx_fv ad h k1 j1 sl = fx_cv ad (.inr (.inr (h.2.2.1 k1 j1 sl))) := by unfold fx_fv; rw [htc, fx_rf]; rfl
          rw [ev]
          refine k ad L H locs ls ⟨he, hS, hl, hlv, fx_cn (P := fx_ok h) ?_ (fx_tl hst), hln⟩ (fx_ext.rf h ad)
          cases hr : h.2.2.1 k1 j1 sl with
          | none => trivial
          | some r2 => exact he.2.2.2.1 _ _ _ _ (fx_hd hst) hr
        · rename_i n0 n1 n2
          cases hs
          have ev : fx_fv ad h k1 j1 sl = .int (h.2.2.2.1 k1 j1 sl) := by
            unfold fx_fv
            rw [htc]
            split
            · exact absurd rfl n1
            · exact absurd rfl n2
            · rfl
          rw [ev]
          exact k ad L H locs ls ⟨he, hS, hl, hlv, fx_ci (fx_tl hst), hln⟩ (fx_ext.rf h ad)
    · cases hs
  · cases hs
theorem fx_putl (C : fx_Cx p R s m args meth c0 A D aC X M) (K : fx_Mok M) {pc x ci sl t j q0 cells slots : Nat} (hF : M.2.1 pc = some (.putfield x)) (hx : (x, ci, sl, t) ∈ M.2.2.1.1) {ad : fxR → Nat} {L : List fxR} {h h' : fxH} {H : Heap} {locs : List Loc} {ls : Array Slot} {rest : List Value} (he : fx_He A D aC X ad L h H) (hS : va_S A s.heap H locs) (hq0 : L[q0]? = some (ci, j)) (v : Value) (hn : narrow (fx_ty ci sl) v = v) (hf : fits (fx_ty ci sl) v = true)
    (hc : fx_cell aC ad h' (ci, j) = .inr (ci, ((List.range (fx_nf ci)).map (fx_fv ad h ci j)).set sl v)) (ho : ∀ r', r' ≠ (ci, j) → fx_cell aC ad h' r' = fx_cell aC ad h r') (hcnt : h'.1 = h.1) (hr : ∀ k j t r, j < h'.1 k → h'.2.2.1 k j t = some r → r.2 < h'.1 r.1) (hX : fx_Xh X ad h')
    (kk : ∀ (H1 : Heap) (locs1 : List Loc), fx_He A D aC X ad L h' H1 → va_S A s.heap H1 locs1 → W p l e R s m args below meth c0 H1 locs1 cells slots Q (F0 m (pc + 3) ls rest)) : W p l e R s m args below meth c0 H locs cells slots Q (F0 m pc ls (v :: .ref (ad (ci, j)) :: rest)) := by
  obtain ⟨hci, q, hq, hsl, hlk, htc⟩ := K.2.1 _ _ _ _ hx
  have hw := fx_ws_at (aC := aC) (ad := ad) (h := h) hq0
  rw [fx_cell_o (by omega)] at hw
  obtain ⟨-, hty, hnm, -, -⟩ := fx_clok ci q hq
  have hlen : sl < ((List.range (fx_nf ci)).map (fx_fv ad h ci j)).length := by rw [List.length_map, List.length_range, fx_nf_of hq]; exact hsl
  cases hfin : (q.2.1 sl).2.2.2 with
  | false => exact va_put (C := q.1) (T := q.2.1) (N := q.2.2) C.1 C.2.1 C.2.2.2.2.1 (fx_clin hq).1 (fx_ty ci) hty hnm C.2.2.2.1 C.2.2.2.2.2.1 he.1 he.2.1 hS q0 hw hq sl hsl (C.2.2.2.2.1 _ hlk) (fun _ z => z) hfin (hty sl hsl) hn hf hlen (fx_dec K hF rfl) (fun H1 locs1 hP hD hS1 => kk H1 locs1 (fx_He_set he hq0 hc ho hcnt hr hX hP hD) hS1)
  | true =>
    obtain ⟨h1, h2⟩ := K.2.2.1 _ _ _ _ _ hF hx q hq hfin
    exact va_putF (C := q.1) (T := q.2.1) (N := q.2.2) C.1 C.2.1 C.2.2.2.2.1 (fx_clin hq).1 (fx_ty ci) hty hnm C.2.2.2.1 C.2.2.2.2.2.1 he.1 he.2.1 hS q0 hw hq sl hsl (C.2.2.2.2.1 _ hlk) (fun _ z => z) hfin (C.2.2.2.2.2.2.2.2.1 h1) h2 (hty sl hsl) hn hf hlen (fx_dec K hF rfl) (fun H1 locs1 hP hD hS1 => kk H1 locs1 (fx_He_set he hq0 hc ho hcnt hr hX hP hD) hS1)
theorem fx_s_putfield (C : fx_Cx p R s m args meth c0 A D aC X M) (K : fx_Mok M) (v : Nat) : fx_G p l e R s m args below meth c0 Q A D aC X M (.putfield v) := by
  intro pc lv st h c n x ad L H locs ls hF hs I k
  obtain ⟨he, hS, hl, hlv, hst, hln⟩ := id I
  simp only [fx_stp] at hs
  split at hs
  · rename_i ci sl t hx
    have hx := fx_lk_mem hx
    obtain ⟨hci, q, hq, hsl, hlk, htc⟩ := K.2.1 _ _ _ _ hx
    split at hs
    · rename_i u k1 j1 r hx0
      cases hb : Nat.beq k1 ci with
      | false => rw [hb] at hs; cases hs
      | true =>
        rw [hb] at hs
        have e1 := Nat.eq_of_beq_eq_true hb
        subst e1
        cases hs
        obtain ⟨q0, hq0⟩ := fx_inL he (by omega) (fx_hd (fx_tl hst))
        have ht := fx_tint htc
        exact fx_putl C K hF hx he hS hq0 (.int u) (by rw [ht]; rfl) (by rw [ht]; rfl) (fx_wi_o (by omega) (Or.inl htc)) (fun r' hr => fx_wi_ne hr) rfl he.2.2.2.1 (fx_Xh_i (by omega) he.2.2.2.2) (fun H1 locs1 hH hS1 => k ad L H1 locs1 ls ⟨hH, hS1, hl, hlv, fx_tl (fx_tl hst), hln⟩ (fx_ext.rf h ad))
    · rename_i u k1 j1 r hx0
      cases hb : Nat.beq k1 ci with
      | false => rw [hb] at hs; cases hs
      | true =>
        rw [hb] at hs
        have e1 := Nat.eq_of_beq_eq_true hb
        subst e1
        cases hs
        obtain ⟨q0, hq0⟩ := fx_inL he (by omega) (fx_hd (fx_tl hst))
        have ht := fx_tlong htc
        exact fx_putl C K hF hx he hS hq0 (.long u) (by rw [ht]; rfl) (by rw [ht]; rfl) (fx_wl_o (by omega) htc) (fun r' hr => fx_wl_ne hr) rfl he.2.2.2.1 he.2.2.2.2 (fun H1 locs1 hH hS1 => k ad L H1 locs1 ls ⟨hH, hS1, hl, hlv, fx_tl (fx_tl hst), hln⟩ (fx_ext.rf h ad))
    · rename_i u k1 j1 r hx0
      cases hb : Nat.beq k1 ci with
      | false => rw [hb] at hs; cases hs
      | true =>
        rw [hb] at hs
        have e1 := Nat.eq_of_beq_eq_true hb
        subst e1
        cases hs
        obtain ⟨q0, hq0⟩ := fx_inL he (by omega) (fx_hd (fx_tl hst))
        have hd := fx_tydef _ hci sl (by rw [fx_nf_of hq]; exact hsl)
        rw [htc] at hd
        obtain ⟨g1, g2⟩ := fx_tref hd _ (fx_cvn ad u)
        exact fx_putl C K hF hx he hS hq0 (fx_cv ad (.inr (.inr u))) g1 g2 (fx_wr_o (by omega) htc) (fun r' hr => fx_wr_ne hr) rfl (fx_refs_r he.2.2.2.1 (fx_hd hst)) he.2.2.2.2 (fun H1 locs1 hH hS1 => k ad L H1 locs1 ls ⟨hH, hS1, hl, hlv, fx_tl (fx_tl hst), hln⟩ (fx_ext.rf h ad))
    · rename_i u k1 j1 r hx0
      cases hb : Nat.beq k1 ci with
      | false => rw [hb] at hs; cases hs
      | true =>
        rw [hb] at hs
        have e1 := Nat.eq_of_beq_eq_true hb
        subst e1
        simp only [cond_true] at hs
        split at hs
        · rename_i hu
          cases hs
          obtain ⟨q0, hq0⟩ := fx_inL he (by omega) (fx_hd (fx_tl hst))
          have ht := fx_tbool htc
          exact fx_putl C K hF hx he hS hq0 (.int u) (by rw [ht]; rcases hu with rfl | rfl <;> rfl) (by rw [ht]; rcases hu with rfl | rfl <;> rfl) (fx_wi_o (by omega) (Or.inr htc)) (fun r' hr => fx_wi_ne hr) rfl he.2.2.2.1 (fx_Xh_i (by omega) he.2.2.2.2) (fun H1 locs1 hH hS1 => k ad L H1 locs1 ls ⟨hH, hS1, hl, hlv, fx_tl (fx_tl hst), hln⟩ (fx_ext.rf h ad))
        · cases hs
    · cases hs
  · cases hs
theorem fx_s_getstatic (C : fx_Cx p R s m args meth c0 A D aC X M) (K : fx_Mok M) (v : Nat) : fx_G p l e R s m args below meth c0 Q A D aC X M (.getstatic v) := by
  intro pc lv st h c n x ad L H locs ls hF hs I k
  obtain ⟨he, hS, hl, hlv, hst, hln⟩ := id I
  simp only [fx_stp] at hs
  cases hs
  obtain ⟨x1, x2, x3, x4, x5, x6, x7, x8, -⟩ := he.2.2.2.2
  have hg := K.2.2.2.2.2.2.2.2.1 _ _ hF
  refine va_gets (v := .ref (ad (91, 0))) C.1 C.2.1 (by rw [x5]; exact C.2.2.2.2.2.2.2.2.2.1.2.1) hS C.2.2.2.1 (C.2.2.2.2.1 _ hg) (fun _ z => z) (fx_dec K hF rfl) ?_
  exact k ad L H locs ls ⟨he, hS, hl, hlv, fx_cn (P := fx_ok h) (by show 0 < h.1 91; rw [x8]; exact Nat.one_pos) hst, hln⟩ (fx_ext.rf h ad)
theorem fx_s_iaload (C : fx_Cx p R s m args meth c0 A D aC X M) (K : fx_Mok M) : fx_G p l e R s m args below meth c0 Q A D aC X M (.iaload) := by
  intro pc lv st h c n x ad L H locs ls hF hs I k
  obtain ⟨he, hS, hl, hlv, hst, hln⟩ := id I
  simp only [fx_stp] at hs
  split at hs
  · rename_i i k1 j1 r
    cases hb : fx_ar k1 0 with
    | false => rw [hb] at hs; cases hs
    | true =>
      rw [hb] at hs
      simp only [cond_true] at hs
      split at hs
      · rename_i hi
        cases hs
        obtain ⟨b1, b2, b3⟩ := fx_ar_spec hb
        have kk := k ad L H locs ls ⟨he, hS, hl, hlv, fx_ci (fx_tl (fx_tl hst)), hln⟩ (fx_ext.rf h ad)
        by_cases z : k1 < 90
        · obtain ⟨q0, hq0⟩ := fx_inL he z (fx_hd (fx_tl hst))
          have hw := fx_ws_at (aC := aC) (ad := ad) (h := h) hq0
          rw [fx_cell_a b1, b3] at hw
          exact va_iald C.1 C.2.1 C.2.2.2.2.2.1 he.1 q0 0 hw (fx_tys_at aC (by decide)) (fx_vin hi) (fx_dec K hF rfl) kk
        · obtain ⟨x1, x2, x3, x4, x5, x6, x7, x8, -⟩ := he.2.2.2.2
          have hj : j1 < h.1 k1 := fx_hd (fx_tl hst)
          have hX := C.2.2.2.2.2.2.2.2.2.1
          rcases (show k1 = 90 ∨ k1 = 91 by omega) with rfl | rfl
          · rw [x4] at hj
            have : j1 = 0 := by omega
            subst this
            have hi2 := hi
            rw [x2] at hi2
            have q := va_sld (l := l) (e := e) (R := R) (m := m) (args := args) (below := below) (meth := meth) (locs := locs) (cells := c) (slots := n) (Q := Q) (pc := pc) (ls := ls) (rest := r.map (fx_cv ad)) C.1 C.2.1 hX.1.1 hX.1.2.1 hX.1.2.2 hS (fx_vin hi2) (fx_dec K hF rfl) (by rw [← x3]; exact kk)
            rw [← x1] at q
            exact q
          · rw [x8] at hj
            have : j1 = 0 := by omega
            subst this
            have hi2 := hi
            rw [x6] at hi2
            have q := va_ti (l := l) (e := e) (R := R) (m := m) (args := args) (below := below) (meth := meth) (locs := locs) (cells := c) (slots := n) (Q := Q) (pc := pc) (ls := ls) (rest := r.map (fx_cv ad)) C.1 C.2.1 hX.2.2.1 hS (fx_vin hi2) rfl (fx_dec K hF rfl) (by rw [← x7]; exact kk)
            rw [← x5] at q
            exact q
      · cases hs
  · cases hs
theorem fx_s_baload (C : fx_Cx p R s m args meth c0 A D aC X M) (K : fx_Mok M) : fx_G p l e R s m args below meth c0 Q A D aC X M (.baload) := by
  intro pc lv st h c n x ad L H locs ls hF hs I k
  obtain ⟨he, hS, hl, hlv, hst, hln⟩ := id I
  simp only [fx_stp] at hs
  split at hs
  · rename_i i k1 j1 r
    cases hb : (fx_aw k1 1 || fx_aw k1 2) with
    | false => rw [hb] at hs; cases hs
    | true =>
      rw [hb] at hs
      simp only [cond_true] at hs
      split at hs
      · rename_i hi
        cases hs
        have kk := k ad L H locs ls ⟨he, hS, hl, hlv, fx_ci (fx_tl (fx_tl hst)), hln⟩ (fx_ext.rf h ad)
        rcases Bool.or_eq_true_iff.mp hb with hb | hb
        · obtain ⟨b1, b2, b3⟩ := fx_aw_spec hb
          obtain ⟨q0, hq0⟩ := fx_inL he b2 (fx_hd (fx_tl hst))
          have hw := fx_ws_at (aC := aC) (ad := ad) (h := h) hq0
          rw [fx_cell_a b1, b3] at hw
          exact va_bald C.1 C.2.1 C.2.2.2.2.2.1 he.1 q0 1 hw (fx_tys_at aC (by decide)) (fx_vin hi) (fx_dec K hF rfl) kk
        · obtain ⟨b1, b2, b3⟩ := fx_aw_spec hb
          obtain ⟨q0, hq0⟩ := fx_inL he b2 (fx_hd (fx_tl hst))
          have hw := fx_ws_at (aC := aC) (ad := ad) (h := h) hq0
          rw [fx_cell_a b1, b3] at hw
          exact va_zald C.1 C.2.1 C.2.2.2.2.2.1 he.1 q0 2 hw (fx_tys_at aC (by decide)) (fx_vin hi) (fx_dec K hF rfl) kk
      · cases hs
  · cases hs
theorem fx_s_laload (C : fx_Cx p R s m args meth c0 A D aC X M) (K : fx_Mok M) : fx_G p l e R s m args below meth c0 Q A D aC X M (.laload) := by
  intro pc lv st h c n x ad L H locs ls hF hs I k
  obtain ⟨he, hS, hl, hlv, hst, hln⟩ := id I
  simp only [fx_stp] at hs
  split at hs
  · rename_i i k1 j1 r
    cases hb : fx_aw k1 3 with
    | false => rw [hb] at hs; cases hs
    | true =>
      rw [hb] at hs
      simp only [cond_true] at hs
      split at hs
      · rename_i hi
        cases hs
        have kk := k ad L H locs ls ⟨he, hS, hl, hlv, fx_cL (fx_tl (fx_tl hst)), hln⟩ (fx_ext.rf h ad)
        obtain ⟨b1, b2, b3⟩ := fx_aw_spec hb
        obtain ⟨q0, hq0⟩ := fx_inL he b2 (fx_hd (fx_tl hst))
        have hw := fx_ws_at (aC := aC) (ad := ad) (h := h) hq0
        rw [fx_cell_a b1, b3] at hw
        exact va_lald C.1 C.2.1 C.2.2.2.2.2.1 he.1 q0 3 hw (fx_tys_at aC (by decide)) (fx_vin hi) (fx_dec K hF rfl) kk
      · cases hs
  · cases hs
theorem fx_s_aaload (C : fx_Cx p R s m args meth c0 A D aC X M) (K : fx_Mok M) : fx_G p l e R s m args below meth c0 Q A D aC X M (.aaload) := by
  intro pc lv st h c n x ad L H locs ls hF hs I k
  obtain ⟨he, hS, hl, hlv, hst, hln⟩ := id I
  simp only [fx_stp] at hs
  split at hs
  · rename_i i k1 j1 r
    cases hb : (fx_aw k1 4 || fx_aw k1 5 || fx_aw k1 6) with
    | false => rw [hb] at hs; cases hs
    | true =>
      rw [hb] at hs
      simp only [cond_true] at hs
      split at hs
      · rename_i hi
        cases hs
        have kk := k ad L H locs ls ⟨he, hS, hl, hlv, fx_cn (P := fx_ok h) (by
          cases hr : h.2.2.1 k1 j1 i.toNatClampNeg with
          | none => trivial
          | some r2 => exact he.2.2.2.1 _ _ _ _ (fx_hd (fx_tl hst)) hr) (fx_tl (fx_tl hst)), hln⟩ (fx_ext.rf h ad)
        simp only [List.map_cons, fx_rf] at kk
        rcases Bool.or_eq_true_iff.mp hb with hb | hb
        · rcases Bool.or_eq_true_iff.mp hb with hb | hb
          · obtain ⟨b1, b2, b3⟩ := fx_aw_spec hb
            obtain ⟨q0, hq0⟩ := fx_inL he b2 (fx_hd (fx_tl hst))
            have hw := fx_ws_at (aC := aC) (ad := ad) (h := h) hq0
            rw [fx_cell_a b1, b3] at hw
            exact va_aldq C.1 C.2.1 C.2.2.2.2.2.1 he.1 q0 4 hw (fx_tys_at aC (by decide)) (fx_vin hi) (fx_dec K hF rfl) kk
          · obtain ⟨b1, b2, b3⟩ := fx_aw_spec hb
            obtain ⟨q0, hq0⟩ := fx_inL he b2 (fx_hd (fx_tl hst))
            have hw := fx_ws_at (aC := aC) (ad := ad) (h := h) hq0
            rw [fx_cell_a b1, b3] at hw
            exact va_aldq C.1 C.2.1 C.2.2.2.2.2.1 he.1 q0 5 hw (fx_tys_at aC (by decide)) (fx_vin hi) (fx_dec K hF rfl) kk
        · obtain ⟨b1, b2, b3⟩ := fx_aw_spec hb
          obtain ⟨q0, hq0⟩ := fx_inL he b2 (fx_hd (fx_tl hst))
          have hw := fx_ws_at (aC := aC) (ad := ad) (h := h) hq0
          rw [fx_cell_a b1, b3] at hw
          exact va_aldq C.1 C.2.1 C.2.2.2.2.2.1 he.1 q0 6 hw (fx_tys_at aC (by decide)) (fx_vin hi) (fx_dec K hF rfl) kk
      · cases hs
  · cases hs
end FXH
