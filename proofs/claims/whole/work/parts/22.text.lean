/-! the JDK's String.length and charAt on the texts -/
def fx_Ps (X : fxX) (A : Nat → Prop) (vs : List Value) : Array Value → State → Prop := fun v U => v = vs.toArray ∧ fx_Xs X A U ∧ ∀ q, U.heap.size ≤ q → A q
def fx_Qs (r : Option Value) : Array Value → State → Outcome → State → Prop := fun _ st o t => o = .returned r ∧ t.heap = st.heap
theorem fx_Ps_blind {X : fxX} {A : Nat → Prop} {vs : List Value} : FrameBlind (fx_Ps X A vs) := fun a _ g mk h => ⟨h.1, fx_Xs_blind g mk a h.2.1, h.2.2⟩
def fx_ws1 (y : MethodName) (b : ByteArray) (n : Nat) (r : Option FieldType) : List Cond := Cond.code y b n r :: fx_tbl
section FXT
variable {p : Program} {l : Launch} {e : Env} {R : Room} {s : State} {m : MethodId} {args : Array Value} {below : List Frame} {meth : Method} {c0 : Code} {Q : State → Prop} {A : Nat → Prop} {X : fxX}
theorem fx_calls {H : Heap} {locs : List Loc} {c n pc : Nat} {ls : Array Slot} {st0 rest : List Value} {a : Array Value} {r : Option Value} (hr : va_Run p l e R s m args below meth c0 H locs c n 0 0 (F0 m pc ls st0) rest (fx_Qs r a) (fun _ => False)) (kk : W p l e R s m args below meth c0 H locs c n Q (F0 m (pc + 3) ls (r.toList ++ rest))) : W p l e R s m args below meth c0 H locs c n Q (F0 m pc ls st0) := by
  intro T hT X0
  obtain ⟨v, st₀, t, T', L, h0, X', hL, e1, e2, ⟨hv, hh⟩, st⟩ := hr T hT X0
  have hL0 : L = [] := List.eq_nil_iff_forall_not_mem.mpr (fun q hq => hL q hq)
  subst hL0
  cases hv
  rw [List.append_nil] at X'
  obtain ⟨t2, a1, b1⟩ := kk T' (by rw [e1, hh, h0]) X'
  exact ⟨t2, st t2 a1, b1⟩
end FXT
abbrev fx_nChk : MethodName := ⟨"jdk/internal/util/Preconditions", "checkIndex", "(IILjava/util/function/BiFunction;)I"⟩
abbrev fx_nCi : MethodName := ⟨"java/lang/String", "checkIndex", "(II)V"⟩
abbrev fx_nLat : MethodName := ⟨"java/lang/StringLatin1", "charAt", "([BI)C"⟩
abbrev fx_nCod : MethodName := ⟨"java/lang/String", "coder", "()B"⟩
abbrev fx_nIsl : MethodName := ⟨"java/lang/String", "isLatin1", "()Z"⟩
abbrev fx_nLen : MethodName := ⟨"java/lang/String", "length", "()I"⟩
abbrev fx_nCha : MethodName := ⟨"java/lang/String", "charAt", "(I)C"⟩
def fx_gw (w : Cond) (i : Nat) : Prop := lw_tbl[i]? = some w
theorem fx_t_chk_c : Cond.code fx_nChk prog_23_method_11_code 3 (some .int) ∈ fx_tbl := fx_tb (List.mem_of_getElem? (i := 619) (by decide +kernel)) (by decide +kernel)
theorem fx_t_ci_c : Cond.code fx_nCi prog_18_method_155_code 2 none ∈ fx_tbl := fx_tb (List.mem_of_getElem? (i := 614) (by decide +kernel)) (by decide +kernel)
theorem fx_t_lat_c : Cond.code fx_nLat prog_19_method_2_code 2 (some .char) ∈ fx_tbl := fx_tb (List.mem_of_getElem? (i := 611) (by decide +kernel)) (by decide +kernel)
theorem fx_t_cod_c : Cond.code fx_nCod prog_18_method_152_code 1 (some .byte) ∈ fx_tbl := fx_tb (List.mem_of_getElem? (i := 598) (by decide +kernel)) (by decide +kernel)
theorem fx_t_isl_c : Cond.code fx_nIsl prog_18_method_154_code 1 (some .boolean) ∈ fx_tbl := fx_tb (List.mem_of_getElem? (i := 608) (by decide +kernel)) (by decide +kernel)
theorem fx_t_chk_s : Cond.static fx_nChk ∈ fx_tbl := fx_tb (List.mem_of_getElem? (i := 618) (by decide +kernel)) (by decide +kernel)
theorem fx_t_chk_l : Cond.methodLink "java/lang/String" 1059 fx_nChk ∈ fx_tbl := fx_tb (List.mem_of_getElem? (i := 617) (by decide +kernel)) (by decide +kernel)
theorem fx_t_ci_s : Cond.static fx_nCi ∈ fx_tbl := fx_tb (List.mem_of_getElem? (i := 613) (by decide +kernel)) (by decide +kernel)
theorem fx_t_ci_l : Cond.methodLink "java/lang/StringLatin1" 9 fx_nCi ∈ fx_tbl := fx_tb (List.mem_of_getElem? (i := 612) (by decide +kernel)) (by decide +kernel)
theorem fx_t_lat_s : Cond.static fx_nLat ∈ fx_tbl := fx_tb (List.mem_of_getElem? (i := 610) (by decide +kernel)) (by decide +kernel)
theorem fx_t_lat_l : Cond.methodLink "java/lang/String" 495 fx_nLat ∈ fx_tbl := fx_tb (List.mem_of_getElem? (i := 609) (by decide +kernel)) (by decide +kernel)
theorem fx_t_cod_l : Cond.methodLink "java/lang/String" 335 fx_nCod ∈ fx_tbl := fx_tb (List.mem_of_getElem? (i := 595) (by decide +kernel)) (by decide +kernel)
theorem fx_t_cod_i : Cond.instanceMethod fx_nCod ∈ fx_tbl := fx_tb (List.mem_of_getElem? (i := 596) (by decide +kernel)) (by decide +kernel)
theorem fx_t_cod_v : Cond.selects "java/lang/String" fx_nCod fx_nCod ∈ fx_tbl := fx_tb (List.mem_of_getElem? (i := 597) (by decide +kernel)) (by decide +kernel)
theorem fx_t_isl_l : Cond.methodLink "java/lang/String" 492 fx_nIsl ∈ fx_tbl := fx_tb (List.mem_of_getElem? (i := 605) (by decide +kernel)) (by decide +kernel)
theorem fx_t_isl_i : Cond.instanceMethod fx_nIsl ∈ fx_tbl := fx_tb (List.mem_of_getElem? (i := 606) (by decide +kernel)) (by decide +kernel)
theorem fx_t_isl_v : Cond.selects "java/lang/String" fx_nIsl fx_nIsl ∈ fx_tbl := fx_tb (List.mem_of_getElem? (i := 607) (by decide +kernel)) (by decide +kernel)
theorem fx_t_str : Cond.initialized "java/lang/String" ∈ fx_tbl := fx_tb (List.mem_of_getElem? (i := 130) (by decide +kernel)) (by decide +kernel)
theorem fx_t_lt1 : Cond.initialized "java/lang/StringLatin1" ∈ fx_tbl := fx_tb (List.mem_of_getElem? (i := 131) (by decide +kernel)) (by decide +kernel)
theorem fx_t_prc : Cond.initialized "jdk/internal/util/Preconditions" ∈ fx_tbl := fx_tb (List.mem_of_getElem? (i := 132) (by decide +kernel)) (by decide +kernel)
theorem fx_t_cmp : Cond.fieldLink "java/lang/String" 38 "java/lang/String" "COMPACT_STRINGS" "Z" ∈ fx_tbl := fx_tb (List.mem_of_getElem? (i := 599) (by decide +kernel)) (by decide +kernel)
theorem fx_t_sio : Cond.fieldLink "java/lang/String" 1053 "jdk/internal/util/Preconditions" "SIOOBE_FORMATTER" "Ljava/util/function/BiFunction;" ∈ fx_tbl := fx_tb (List.mem_of_getElem? (i := 615) (by decide +kernel)) (by decide +kernel)
theorem fx_t_val : Cond.fieldLink "java/lang/String" 9 "java/lang/String" "value" "[B" ∈ fx_tbl := fx_tb (List.mem_of_getElem? (i := 1759) (by decide +kernel)) (by decide +kernel)
theorem fx_t_cdr : Cond.fieldLink "java/lang/String" 15 "java/lang/String" "coder" "B" ∈ fx_tbl := fx_tb (List.mem_of_getElem? (i := 1760) (by decide +kernel)) (by decide +kernel)
section FXU
variable {A : Nat → Prop} {X : fxX}
theorem fx_m_chk (l : Launch) (d : Nat) (i n : Int32) (b : Value) (hi : ¬ i < 0) (hn : i < n) (hb0 : b = .null ∨ ∃ a, b = .ref a) : Met l fx_nChk (fx_ws1 fx_nChk prog_23_method_11_code 3 (some .int)) (fx_room d 0 0) (fx_Ps X A [.int i, .int n, b]) (fx_Qs (some (.int i))) 0 0 (fun _ => False) := by
  refine Met.ofW (cc := prog_23_method_11_code) (maxL := 3) (ret := some .int) (by decide +kernel) rfl ?_
  intro p e s m args below meth c s₁ B hml hv
  obtain ⟨rfl, hX, hA⟩ := hv
  have hx := B.exec
  have hb := B.bytes
  have hr := B.returns
  have hlocks := B.notSynchronized
  have hl := lv_entry ([.int i, .int n, b]) (n := 3) (by rcases hb0 with rfl | ⟨a, rfl⟩ <;> exact Nat.le_of_ble_eq_true rfl)
  rw [lg_entry_eq]
  generalize (lg_sl ([.int i, .int n, b]) ++ List.replicate (3 - (lg_sl ([.int i, .int n, b])).length) Slot.unset).toArray = ls at hl ⊢
  have hl : lv_has ls 3 [(0, .int i), (1, .int n), (2, b)] := hl
  refine lv_iload_n hx hb (show decode prog_23_method_11_code 0 = .ok (.iload_n 0, 1) by decide +kernel) rfl (lv_at hl 0 rfl) ?_
  refine lv_if_lt (tgt := 9) hx hb (show decode prog_23_method_11_code 1 = .ok (.ifCond .lt 8, 3) by decide +kernel) (by decide) (fun q => absurd q hi) (fun _ => ?_)
  refine lv_iload_n hx hb (show decode prog_23_method_11_code 4 = .ok (.iload_n 0, 1) by decide +kernel) rfl (lv_at hl 0 rfl) ?_
  refine lv_iload_n hx hb (show decode prog_23_method_11_code 5 = .ok (.iload_n 1, 1) by decide +kernel) rfl (lv_at hl 1 rfl) ?_
  refine lv_icmp_lt (tgt := 16) hx hb (show decode prog_23_method_11_code 6 = .ok (.if_icmp .lt 10, 3) by decide +kernel) (by decide) (fun _ => ?_) (fun q => absurd hn q)
  refine lv_iload_n hx hb (show decode prog_23_method_11_code 16 = .ok (.iload_n 0, 1) by decide +kernel) rfl (lv_at hl 0 rfl) ?_
  exact W.iret hx hb hr (fun t ht _ => ⟨rfl, ht⟩) (fun q hq => absurd hq List.not_mem_nil) (show decode prog_23_method_11_code 17 = .ok (.ireturn, 1) by decide +kernel)
theorem fx_m_ci (l : Launch) (d : Nat) (i n : Int32) (hi : ¬ i < 0) (hn : i < n) : Met l fx_nCi (fx_ws1 fx_nCi prog_18_method_155_code 2 none) (fx_room (d + 1) 0 0) (fx_Ps X A [.int i, .int n]) (fx_Qs none) 0 0 (fun _ => False) := by
  refine Met.ofW (cc := prog_18_method_155_code) (maxL := 2) (ret := none) (by decide +kernel) rfl ?_
  intro p e s m args below meth c s₁ B hml hv
  obtain ⟨rfl, hX, hA⟩ := hv
  have hx := B.exec
  have hb := B.bytes
  have hr := B.returns
  have hlocks := B.notSynchronized
  have hts : ∀ w ∈ fx_tbl, w.before _ s = true := fun w hw => atoms_spec (ws := fx_ws1 fx_nCi prog_18_method_155_code 2 none) B.pre w (List.mem_cons_of_mem _ hw)
  have hown : s.vm.findClass "java/lang/String" = some m.cls := findClass_of_methodNamed B.named
  have hS : va_S A s.heap s.heap [] := va_S.rf
  have hl := lv_entry ([.int i, .int n]) (n := 2) (Nat.le_of_ble_eq_true rfl)
  rw [lg_entry_eq]
  generalize (lg_sl ([.int i, .int n]) ++ List.replicate (2 - (lg_sl ([.int i, .int n])).length) Slot.unset).toArray = ls at hl ⊢
  have hl : lv_has ls 2 [(0, .int i), (1, .int n)] := hl
  refine lv_iload_n hx hb (show decode prog_18_method_155_code 0 = .ok (.iload_n 0, 1) by decide +kernel) rfl (lv_at hl 0 rfl) ?_
  refine lv_iload_n hx hb (show decode prog_18_method_155_code 1 = .ok (.iload_n 1, 1) by decide +kernel) rfl (lv_at hl 1 rfl) ?_
  have go : ∀ v : Value, (v = .null ∨ ∃ a, v = .ref a) → va_Z "jdk/internal/util/Preconditions" "SIOOBE_FORMATTER" "Ljava/util/function/BiFunction;" v A s s.heap → W p l e (fx_room (d + 1) 0 0) s m [Value.int i, Value.int n].toArray below meth c s.heap [] 0 0 (MQ below (fx_Qs none) [Value.int i, Value.int n].toArray s 0 0 (fun _ => False)) (F0 m 2 ls [.int n, .int i]) := by
    intro v hv1 hZ
    refine va_gets hx hb hZ hS hown (hts _ fx_t_sio) (fun _ z => z) (show decode prog_18_method_155_code 2 = .ok (.getstatic 1053, 3) by decide +kernel) ?_
    refine fx_calls (va_runS (As := [.int i, .int n, v]) (rest := []) ⟨hx, hb, hml, hown, hts⟩ (fx_m_chk (X := X) (A := A) l d i n v hi hn hv1) ⟨callB_of 3 hts (fx_gi _ fx_t_chk_c) rfl rfl rfl (hts _ fx_t_prc) (hts _ fx_t_chk_l) (by decide +kernel) ⟨Nat.le_refl _, by show 8 + (3 + 11) + (60 + 200 * d) ≤ 60 + 200 * (d + 1); omega⟩, hts _ fx_t_chk_s⟩ ⟨fx_Ps_blind, fun U hU hW => ⟨rfl, fx_Xs_moved hX hS hU hW, fun q hq => hA q (by rw [← hU]; exact hq)⟩⟩ rfl rfl hl.1 rfl (lv_room (Nat.le_of_ble_eq_true rfl)) (show decode prog_18_method_155_code 5 = .ok (.invokestatic 1059, 3) by decide +kernel) ⟨Nat.le_refl _, Nat.le_refl _⟩) ?_
    refine lv_pop hx hb (show decode prog_18_method_155_code 8 = .ok (.pop, 1) by decide +kernel) rfl ?_
    exact W.vret hx hb hr (fun t ht _ => ⟨rfl, ht⟩) (fun q hq => absurd hq List.not_mem_nil) (show decode prog_18_method_155_code 9 = .ok (.return_, 1) by decide +kernel)
  rcases hX.2.2.2.2.2.2.1 with hZ | ⟨t, hZ⟩
  · exact go _ (Or.inl rfl) hZ
  · exact go _ (Or.inr ⟨_, rfl⟩) hZ
/-- the byte as it comes out of charAt -/
def fx_chr (b : Int32) : Int32 := b &&& 255
theorem fx_m_lat (l : Launch) (d : Nat) (j : Nat) (i : Int32) (hj : j < 18) (hi : 0 ≤ i.toInt ∧ i.toInt < (fx_slen.getD j 0 : Int)) : Met l fx_nLat (fx_ws1 fx_nLat prog_19_method_2_code 2 (some .char)) (fx_room (d + 2) 0 0) (fx_Ps X A [.ref (X.2.2.2.2.2 j), .int i]) (fx_Qs (some (.int (fx_chr ((fx_sbyt.getD j []).getD i.toNatClampNeg 0))))) 0 0 (fun _ => False) := by
  refine Met.ofW (cc := prog_19_method_2_code) (maxL := 2) (ret := some .char) (by decide +kernel) rfl ?_
  intro p e s m args below meth c s₁ B hml hv
  obtain ⟨rfl, hX, hA⟩ := hv
  have hx := B.exec
  have hb := B.bytes
  have hr := B.returns
  have hlocks := B.notSynchronized
  have hts : ∀ w ∈ fx_tbl, w.before _ s = true := fun w hw => atoms_spec (ws := fx_ws1 fx_nLat prog_19_method_2_code 2 (some .char)) B.pre w (List.mem_cons_of_mem _ hw)
  have hown : s.vm.findClass "java/lang/StringLatin1" = some m.cls := findClass_of_methodNamed B.named
  have hS : va_S A s.heap s.heap [] := va_S.rf
  have hT := (hX.2.2.2.1.1 j hj).2.2.2
  have hlt : fx_slen.getD j 0 < 100 := by
    have : ∀ j, j < 18 → fx_slen.getD j 0 < 100 := by decide
    exact this j hj
  have hn0 : ¬ i < 0 := by
    intro z
    have := Int32.lt_iff_toInt_lt.mp z
    have z0 : (0 : Int32).toInt = 0 := by decide
    omega
  have hnl : i < Int32.ofNat (fx_slen.getD j 0) := by
    rw [Int32.lt_iff_toInt_lt, Int32.toInt_ofNat_of_lt (by omega)]
    exact hi.2
  have hl := lv_entry ([.ref (X.2.2.2.2.2 j), .int i]) (n := 2) (Nat.le_of_ble_eq_true rfl)
  rw [lg_entry_eq]
  generalize (lg_sl ([.ref (X.2.2.2.2.2 j), .int i]) ++ List.replicate (2 - (lg_sl ([.ref (X.2.2.2.2.2 j), .int i])).length) Slot.unset).toArray = ls at hl ⊢
  have hl : lv_has ls 2 [(0, .ref (X.2.2.2.2.2 j)), (1, .int i)] := hl
  refine lv_iload_n hx hb (show decode prog_19_method_2_code 0 = .ok (.iload_n 1, 1) by decide +kernel) rfl (lv_at hl 1 rfl) ?_
  refine lv_aload_n hx hb (show decode prog_19_method_2_code 1 = .ok (.aload_n 0, 1) by decide +kernel) rfl (lv_at hl 0 rfl) ?_
  refine va_tlen hx hb hT hS rfl (show decode prog_19_method_2_code 2 = .ok (.arraylength, 1) by decide +kernel) ?_
  refine fx_calls (va_runS (As := [.int i, .int (Int32.ofNat (fx_slen.getD j 0))]) (rest := []) ⟨hx, hb, hml, hown, hts⟩ (fx_m_ci (X := X) (A := A) l d i _ hn0 hnl) ⟨callB_of 2 hts (fx_gi _ fx_t_ci_c) rfl rfl rfl (hts _ fx_t_str) (hts _ fx_t_ci_l) (by decide +kernel) ⟨Nat.le_refl _, by show 8 + (2 + 11) + (60 + 200 * (d + 1)) ≤ 60 + 200 * (d + 2); omega⟩, hts _ fx_t_ci_s⟩ ⟨fx_Ps_blind, fun U hU hW => ⟨rfl, fx_Xs_moved hX hS hU hW, fun q hq => hA q (by rw [← hU]; exact hq)⟩⟩ rfl rfl hl.1 rfl (lv_room (Nat.le_of_ble_eq_true rfl)) (show decode prog_19_method_2_code 3 = .ok (.invokestatic 9, 3) by decide +kernel) ⟨Nat.le_refl _, Nat.le_refl _⟩) ?_
  refine lv_aload_n hx hb (show decode prog_19_method_2_code 6 = .ok (.aload_n 0, 1) by decide +kernel) rfl (lv_at hl 0 rfl) ?_
  refine lv_iload_n hx hb (show decode prog_19_method_2_code 7 = .ok (.iload_n 1, 1) by decide +kernel) rfl (lv_at hl 1 rfl) ?_
  refine va_tb hx hb hT hS (fx_vin hi) rfl (show decode prog_19_method_2_code 8 = .ok (.baload, 1) by decide +kernel) ?_
  refine lv_sipush (v := 255) hx hb (show decode prog_19_method_2_code 9 = .ok (.sipush 255, 3) by decide +kernel) (by decide) ?_
  refine lv_iand hx hb (show decode prog_19_method_2_code 12 = .ok (.iand, 1) by decide +kernel) ?_
  refine lv_i2c (v := fx_chr ((fx_sbyt.getD j []).getD i.toNatClampNeg 0)) hx hb (show decode prog_19_method_2_code 13 = .ok (.i2c, 1) by decide +kernel) (sc_c2 _) ?_
  exact W.zret hx hb hr (sc_nar _) (fun t ht _ => ⟨rfl, ht⟩) (fun q hq => absurd hq List.not_mem_nil) (show decode prog_19_method_2_code 14 = .ok (.ireturn, 1) by decide +kernel)
theorem fx_m_cod (l : Launch) (d : Nat) (j : Nat) (hj : j < 18) : Met l fx_nCod (fx_ws1 fx_nCod prog_18_method_152_code 1 (some .byte)) (fx_room d 0 0) (fx_Ps X A [.ref (X.2.2.2.2.1 j)]) (fx_Qs (some (.int 0))) 0 0 (fun _ => False) := by
  refine Met.ofW (cc := prog_18_method_152_code) (maxL := 1) (ret := some .byte) (by decide +kernel) rfl ?_
  intro p e s m args below meth c s₁ B hml hv
  obtain ⟨rfl, hX, hA⟩ := hv
  have hx := B.exec
  have hb := B.bytes
  have hr := B.returns
  have hlocks := B.notSynchronized
  have hts : ∀ w ∈ fx_tbl, w.before _ s = true := fun w hw => atoms_spec (ws := fx_ws1 fx_nCod prog_18_method_152_code 1 (some .byte)) B.pre w (List.mem_cons_of_mem _ hw)
  have hown : s.vm.findClass "java/lang/String" = some m.cls := findClass_of_methodNamed B.named
  have hS : va_S A s.heap s.heap [] := va_S.rf
  have hl := lv_entry ([.ref (X.2.2.2.2.1 j)]) (n := 1) (Nat.le_of_ble_eq_true rfl)
  rw [lg_entry_eq]
  generalize (lg_sl ([.ref (X.2.2.2.2.1 j)]) ++ List.replicate (1 - (lg_sl ([.ref (X.2.2.2.2.1 j)])).length) Slot.unset).toArray = ls at hl ⊢
  have hl : lv_has ls 1 [(0, .ref (X.2.2.2.2.1 j))] := hl
  refine va_gets hx hb hX.2.2.2.2.2.1 hS hown (hts _ fx_t_cmp) (fun _ z => z) (show decode prog_18_method_152_code 0 = .ok (.getstatic 38, 3) by decide +kernel) ?_
  refine lv_if_eq (tgt := 13) hx hb (show decode prog_18_method_152_code 3 = .ok (.ifCond .eq 10, 3) by decide +kernel) (by decide) (fun q => absurd q (by decide)) (fun _ => ?_)
  refine lv_aload_n hx hb (show decode prog_18_method_152_code 6 = .ok (.aload_n 0, 1) by decide +kernel) rfl (lv_at hl 0 rfl) ?_
  refine vk_getf hx hb (hX.2.2.2.1.1 j hj).2.1 hS hown (hts _ fx_t_cdr) (fun _ z => z) (show decode prog_18_method_152_code 7 = .ok (.getfield 15, 3) by decide +kernel) ?_
  refine lv_goto (tgt := 14) hx hb (show decode prog_18_method_152_code 10 = .ok (.goto 4, 3) by decide +kernel) (by decide) ?_
  exact W.zret hx hb hr rfl (fun t ht _ => ⟨rfl, ht⟩) (fun q hq => absurd hq List.not_mem_nil) (show decode prog_18_method_152_code 14 = .ok (.ireturn, 1) by decide +kernel)
theorem fx_m_isl (l : Launch) (d : Nat) (j : Nat) (hj : j < 18) : Met l fx_nIsl (fx_ws1 fx_nIsl prog_18_method_154_code 1 (some .boolean)) (fx_room d 0 0) (fx_Ps X A [.ref (X.2.2.2.2.1 j)]) (fx_Qs (some (.int 1))) 0 0 (fun _ => False) := by
  refine Met.ofW (cc := prog_18_method_154_code) (maxL := 1) (ret := some .boolean) (by decide +kernel) rfl ?_
  intro p e s m args below meth c s₁ B hml hv
  obtain ⟨rfl, hX, hA⟩ := hv
  have hx := B.exec
  have hb := B.bytes
  have hr := B.returns
  have hlocks := B.notSynchronized
  have hts : ∀ w ∈ fx_tbl, w.before _ s = true := fun w hw => atoms_spec (ws := fx_ws1 fx_nIsl prog_18_method_154_code 1 (some .boolean)) B.pre w (List.mem_cons_of_mem _ hw)
  have hown : s.vm.findClass "java/lang/String" = some m.cls := findClass_of_methodNamed B.named
  have hS : va_S A s.heap s.heap [] := va_S.rf
  have hl := lv_entry ([.ref (X.2.2.2.2.1 j)]) (n := 1) (Nat.le_of_ble_eq_true rfl)
  rw [lg_entry_eq]
  generalize (lg_sl ([.ref (X.2.2.2.2.1 j)]) ++ List.replicate (1 - (lg_sl ([.ref (X.2.2.2.2.1 j)])).length) Slot.unset).toArray = ls at hl ⊢
  have hl : lv_has ls 1 [(0, .ref (X.2.2.2.2.1 j))] := hl
  refine va_gets hx hb hX.2.2.2.2.2.1 hS hown (hts _ fx_t_cmp) (fun _ z => z) (show decode prog_18_method_154_code 0 = .ok (.getstatic 38, 3) by decide +kernel) ?_
  refine lv_if_eq (tgt := 17) hx hb (show decode prog_18_method_154_code 3 = .ok (.ifCond .eq 14, 3) by decide +kernel) (by decide) (fun q => absurd q (by decide)) (fun _ => ?_)
  refine lv_aload_n hx hb (show decode prog_18_method_154_code 6 = .ok (.aload_n 0, 1) by decide +kernel) rfl (lv_at hl 0 rfl) ?_
  refine vk_getf hx hb (hX.2.2.2.1.1 j hj).2.1 hS hown (hts _ fx_t_cdr) (fun _ z => z) (show decode prog_18_method_154_code 7 = .ok (.getfield 15, 3) by decide +kernel) ?_
  refine lv_if_ne (tgt := 17) hx hb (show decode prog_18_method_154_code 10 = .ok (.ifCond .ne 7, 3) by decide +kernel) (by decide) (fun q => absurd rfl q) (fun _ => ?_)
  refine lv_iconst (v := 1) hx hb (show decode prog_18_method_154_code 13 = .ok (.iconst 1, 1) by decide +kernel) (by decide) ?_
  refine lv_goto (tgt := 18) hx hb (show decode prog_18_method_154_code 14 = .ok (.goto 4, 3) by decide +kernel) (by decide) ?_
  exact W.zret hx hb hr rfl (fun t ht _ => ⟨rfl, ht⟩) (fun q hq => absurd hq List.not_mem_nil) (show decode prog_18_method_154_code 18 = .ok (.ireturn, 1) by decide +kernel)
end FXU
section FXV
variable {A : Nat → Prop} {D : va_G} {aC : Nat → ClassId} {X : fxX}
theorem fx_shr0 : ∀ j, j < 18 → (Int32.ofNat (fx_slen.getD j 0)) >>> ((0 : Int32) &&& 31) = Int32.ofNat (fx_slen.getD j 0) := by decide
theorem fx_m_len (l : Launch) (d j : Nat) (hj : j < 18) (ad : fxR → Nat) (L : List fxR) (h : fxH) : Met l fx_nLen (Cond.code fx_nLen prog_18_method_54_code 1 (some .int) :: fx_tbl) (fx_room (d + 1) 0 0) (fx_Pc A D aC X [.inr (.inr (some (92, j)))] ad L h) (fx_Qc A D aC X ad h (some (.inl (Int32.ofNat (fx_slen.getD j 0)))) h) 0 0 A := by
  refine Met.ofW (cc := prog_18_method_54_code) (maxL := 1) (ret := some .int) (by decide +kernel) rfl ?_
  intro p e s m args below meth c s₁ B hml hv
  obtain ⟨rfl, hok, he, hK, hX, hA⟩ := hv
  have hx := B.exec
  have hb := B.bytes
  have hr := B.returns
  have hlocks := B.notSynchronized
  have hts : ∀ w ∈ fx_tbl, w.before _ s = true := fun w hw => atoms_spec (ws := Cond.code fx_nLen prog_18_method_54_code 1 (some .int) :: fx_tbl) B.pre w (List.mem_cons_of_mem _ hw)
  have hown : s.vm.findClass "java/lang/String" = some m.cls := findClass_of_methodNamed B.named
  have hS : va_S A s.heap s.heap [] := va_S.rf
  have hadj := he.2.2.2.2.2.2.2.2.2.2.2.2.1 j hj
  have eav : ([.inr (.inr (some (92, j)))] : List fxV).map (fx_cv ad) = [.ref (X.2.2.2.2.1 j)] := by
    rw [← hadj]
    rfl
  rw [eav] at hts ⊢
  have hl := lv_entry ([.ref (X.2.2.2.2.1 j)]) (n := 1) (Nat.le_of_ble_eq_true rfl)
  rw [lg_entry_eq]
  generalize (lg_sl ([.ref (X.2.2.2.2.1 j)]) ++ List.replicate (1 - (lg_sl ([.ref (X.2.2.2.2.1 j)])).length) Slot.unset).toArray = ls at hl ⊢
  have hl : lv_has ls 1 [(0, .ref (X.2.2.2.2.1 j))] := hl
  have hstr := hX.2.2.2.1.1 j hj
  refine lv_aload_n hx hb (show decode prog_18_method_54_code 0 = .ok (.aload_n 0, 1) by decide +kernel) rfl (lv_at hl 0 rfl) ?_
  refine vk_getf hx hb hstr.2.2.1 hS hown (hts _ fx_t_val) (fun _ z => z) (show decode prog_18_method_54_code 1 = .ok (.getfield 9, 3) by decide +kernel) ?_
  refine va_tlen hx hb hstr.2.2.2 hS rfl (show decode prog_18_method_54_code 4 = .ok (.arraylength, 1) by decide +kernel) ?_
  refine lv_aload_n hx hb (show decode prog_18_method_54_code 5 = .ok (.aload_n 0, 1) by decide +kernel) rfl (lv_at hl 0 rfl) ?_
  refine fx_calls (va_runV (C := "java/lang/String") (As := []) (rest := [.int (Int32.ofNat (fx_slen.getD j 0))]) ⟨hx, hb, hml, hown, hts⟩ (fx_m_cod (X := X) (A := A) l d j hj) ⟨callB_of 0 hts (fx_gi _ fx_t_cod_c) rfl rfl rfl (hts _ fx_t_str) (hts _ fx_t_cod_l) (by decide +kernel) ⟨Nat.le_refl _, by show 8 + (1 + 11) + (60 + 200 * d) ≤ 60 + 200 * (d + 1); omega⟩, hts _ fx_t_cod_i, hts _ fx_t_cod_v⟩ ⟨fx_Ps_blind, vk_recv hX.2.2.2.1 hj hS, fun U hU hW => ⟨rfl, fx_Xs_moved hX hS hU hW, fun q hq => hA q (by rw [← hU]; exact hq)⟩⟩ rfl rfl hl.1 rfl (lv_room (Nat.le_of_ble_eq_true rfl)) (show decode prog_18_method_54_code 6 = .ok (.invokevirtual 335, 3) by decide +kernel) ⟨Nat.le_refl _, Nat.le_refl _⟩) ?_
  refine lv_ishr hx hb (show decode prog_18_method_54_code 9 = .ok (.ishr, 1) by decide +kernel) ?_
  rw [fx_shr0 j hj]
  exact W.iret hx hb hr (fun t ht _ => ⟨ad, L, rfl, by rw [ht]; exact he, fx_ext.rf h ad, fun v hv => by cases hv; trivial, by rw [ht]; exact Nat.le_refl _, fun q _ _ => by rw [ht]⟩) (fun q hq => absurd hq List.not_mem_nil) (show decode prog_18_method_54_code 10 = .ok (.ireturn, 1) by decide +kernel)
theorem fx_m_cha (l : Launch) (d j : Nat) (i : Int32) (hj : j < 18) (hi : 0 ≤ i.toInt ∧ i.toInt < (fx_slen.getD j 0 : Int)) (ad : fxR → Nat) (L : List fxR) (h : fxH) : Met l fx_nCha (Cond.code fx_nCha prog_18_method_56_code 2 (some .char) :: fx_tbl) (fx_room (d + 3) 0 0) (fx_Pc A D aC X [.inr (.inr (some (92, j))), .inl i] ad L h) (fx_Qc A D aC X ad h (some (.inl (fx_chr ((fx_sbyt.getD j []).getD i.toNatClampNeg 0)))) h) 0 0 A := by
  refine Met.ofW (cc := prog_18_method_56_code) (maxL := 2) (ret := some .char) (by decide +kernel) rfl ?_
  intro p e s m args below meth c s₁ B hml hv
  obtain ⟨rfl, hok, he, hK, hX, hA⟩ := hv
  have hx := B.exec
  have hb := B.bytes
  have hr := B.returns
  have hlocks := B.notSynchronized
  have hts : ∀ w ∈ fx_tbl, w.before _ s = true := fun w hw => atoms_spec (ws := Cond.code fx_nCha prog_18_method_56_code 2 (some .char) :: fx_tbl) B.pre w (List.mem_cons_of_mem _ hw)
  have hown : s.vm.findClass "java/lang/String" = some m.cls := findClass_of_methodNamed B.named
  have hS : va_S A s.heap s.heap [] := va_S.rf
  have hadj := he.2.2.2.2.2.2.2.2.2.2.2.2.1 j hj
  have eav : ([.inr (.inr (some (92, j))), .inl i] : List fxV).map (fx_cv ad) = [.ref (X.2.2.2.2.1 j), .int i] := by
    rw [← hadj]
    rfl
  rw [eav] at hts ⊢
  have hl := lv_entry ([.ref (X.2.2.2.2.1 j), .int i]) (n := 2) (Nat.le_of_ble_eq_true rfl)
  rw [lg_entry_eq]
  generalize (lg_sl ([.ref (X.2.2.2.2.1 j), .int i]) ++ List.replicate (2 - (lg_sl ([.ref (X.2.2.2.2.1 j), .int i])).length) Slot.unset).toArray = ls at hl ⊢
  have hl : lv_has ls 2 [(0, .ref (X.2.2.2.2.1 j)), (1, .int i)] := hl
  have hstr := hX.2.2.2.1.1 j hj
  refine lv_aload_n hx hb (show decode prog_18_method_56_code 0 = .ok (.aload_n 0, 1) by decide +kernel) rfl (lv_at hl 0 rfl) ?_
  refine fx_calls (va_runV (C := "java/lang/String") (As := []) (rest := []) ⟨hx, hb, hml, hown, hts⟩ (fx_m_isl (X := X) (A := A) l d j hj) ⟨callB_of 0 hts (fx_gi _ fx_t_isl_c) rfl rfl rfl (hts _ fx_t_str) (hts _ fx_t_isl_l) (by decide +kernel) ⟨by show d + 1 + 1 ≤ d + 3 + 1; omega, by show 8 + (1 + 11) + (60 + 200 * d) ≤ 60 + 200 * (d + 3); omega⟩, hts _ fx_t_isl_i, hts _ fx_t_isl_v⟩ ⟨fx_Ps_blind, vk_recv hX.2.2.2.1 hj hS, fun U hU hW => ⟨rfl, fx_Xs_moved hX hS hU hW, fun q hq => hA q (by rw [← hU]; exact hq)⟩⟩ rfl rfl hl.1 rfl (lv_room (Nat.le_of_ble_eq_true rfl)) (show decode prog_18_method_56_code 1 = .ok (.invokevirtual 492, 3) by decide +kernel) ⟨Nat.le_refl _, Nat.le_refl _⟩) ?_
  refine lv_if_eq (tgt := 16) hx hb (show decode prog_18_method_56_code 4 = .ok (.ifCond .eq 12, 3) by decide +kernel) (by decide) (fun q => absurd q (by decide)) (fun _ => ?_)
  refine lv_aload_n hx hb (show decode prog_18_method_56_code 7 = .ok (.aload_n 0, 1) by decide +kernel) rfl (lv_at hl 0 rfl) ?_
  refine vk_getf hx hb hstr.2.2.1 hS hown (hts _ fx_t_val) (fun _ z => z) (show decode prog_18_method_56_code 8 = .ok (.getfield 9, 3) by decide +kernel) ?_
  refine lv_iload_n hx hb (show decode prog_18_method_56_code 11 = .ok (.iload_n 1, 1) by decide +kernel) rfl (lv_at hl 1 rfl) ?_
  refine fx_calls (va_runS (As := [.ref (X.2.2.2.2.2 j), .int i]) (rest := []) ⟨hx, hb, hml, hown, hts⟩ (fx_m_lat (X := X) (A := A) l d j i hj hi) ⟨callB_of 2 hts (fx_gi _ fx_t_lat_c) rfl rfl rfl (hts _ fx_t_lt1) (hts _ fx_t_lat_l) (by decide +kernel) ⟨Nat.le_refl _, by show 8 + (2 + 11) + (60 + 200 * (d + 2)) ≤ 60 + 200 * (d + 3); omega⟩, hts _ fx_t_lat_s⟩ ⟨fx_Ps_blind, fun U hU hW => ⟨rfl, fx_Xs_moved hX hS hU hW, fun q hq => hA q (by rw [← hU]; exact hq)⟩⟩ rfl rfl hl.1 rfl (lv_room (Nat.le_of_ble_eq_true rfl)) (show decode prog_18_method_56_code 12 = .ok (.invokestatic 495, 3) by decide +kernel) ⟨Nat.le_refl _, Nat.le_refl _⟩) ?_
  exact W.zret hx hb hr (sc_nar _) (fun t ht _ => ⟨ad, L, rfl, by rw [ht]; exact he, fx_ext.rf h ad, fun v hv => by cases hv; trivial, by rw [ht]; exact Nat.le_refl _, fun q _ _ => by rw [ht]⟩) (fun q hq => absurd hq List.not_mem_nil) (show decode prog_18_method_56_code 15 = .ok (.ireturn, 1) by decide +kernel)
end FXV
