/-! THE CLAIM OUT OF ONE WALK OF THE LAW'S BODY. Your part is whole_start (and what it stands on); all else here is the same for every law, but numbers. -/
def R_law : String := "FoxReplyLaw"
def lw_P (b : Addr) (xs : List Int32) (args : Array Value) (s : State) : Prop := args = #[.ref b] ∧ s.IntsAt b xs ∧ xs.length ≤ 3072 ∧ (Jvm.Cond.and given_1 narrow_1).before args s = true
def lw_Q (_ : Array Value) (s : State) (o : Outcome) (t : State) : Prop := o = .returned (some (.int 1)) ∧ Framed s o t [] 600000 7302250
def lw_Z (below : List Frame) (a : Array Value) (s : State) : State → Prop := fun t => ∃ o, t.status = .running ∧ Ended t below o ∧ lw_Q a s o t
/-- the law's own end, with 1 on the stack, nothing written that was there before, its room as the claim has it -/
theorem lw_ret {p : Program} {l : Launch} {e : Env} {s : State} {m : MethodId} {below : List Frame} {meth : Method} {c : Code} {b : Nat} (hx : p.tables.exec = Jvm.exec) (hb : c.code = code) (hr : meth.sig.returnType = ret) (hlocks : meth.locks = false) {pc : Nat} {H : Heap} {ls : Array Slot} (hdg : decode code pc = .ok (.ireturn, 1)) : W p l e room_1 s m #[Value.ref b] below meth c H [] 600000 7302250 (lw_Z below #[Value.ref b] s) (F0 m pc ls [.int 1]) := by
  intro T hT X
  obtain ⟨fs, hret, hrun, hended, hW, hframe⟩ := X.leave (v := some (.int 1)) (hlocks := hlocks) (fun h => by rw [hr] at h; cases h)
  have hmeth' : T.vm.method? m = some meth := X.method'
  refine ⟨T.setFrames fs, ?_, .returned (some (.int 1)), hrun, hended, rfl, ⟨_, rfl⟩, hW, hframe⟩
  jvm_step X.here [X.here.top, hx, hb, hdg, hmeth', hr, ret, narrow_b1]
  (try refine ⟨rfl, ?_⟩); (try refine ⟨rfl, ?_⟩)
  first | (intro acts; rw [hret _ acts rfl rfl rfl]) | rw [hret _ _ rfl rfl rfl]
  exact Steps.refl _
/-- what holds at the law's entry: the machine, the code, the tables' words (any of lw_tbl by 'hts w (by decide +kernel)'), the script of L ints xs at the cell b, what the Statement gives of the start (any of its parts by flat_of_before) -/
def lw_At (p : Program) (s : State) (m : MethodId) (meth : Method) (c : Code) (b L : Nat) (xs : Nat → Int32) : Prop :=
  p.tables.exec = Jvm.exec ∧ c.code = code ∧ meth.sig.returnType = ret ∧ c.maxLocals = 4 ∧ s.vm.findClass R_law = some m.cls ∧ (∀ w ∈ lw_tbl, w.before #[Value.ref b] s = true) ∧ va_X b L xs s s.heap ∧ b < s.heap.size ∧ meth.locks = false ∧ (Jvm.Cond.and given_1 narrow_1).before #[Value.ref b] s = true
/-- the classes, as the tables have them -/
theorem st_cl {s : State} {b : Nat} (hts : ∀ w ∈ lw_tbl, w.before #[Value.ref b] s = true) : ∃ (dC : Nat → ClassId) (dI : Nat → Nat → Nat), ∀ (k : Nat) (q : vw_C), fx_cl[k]? = some q → u_Kn s q.1 q.2.1 q.2.2 (dC k) (dI k) := by
  obtain ⟨c0, i0, h0⟩ := u_known hts fx_in0 (hts _ fx_ins0)
  obtain ⟨c1, i1, h1⟩ := u_known hts fx_in1 (hts _ fx_ins1)
  obtain ⟨c2, i2, h2⟩ := u_known hts fx_in2 (hts _ fx_ins2)
  obtain ⟨c3, i3, h3⟩ := u_known hts fx_in3 (hts _ fx_ins3)
  obtain ⟨c4, i4, h4⟩ := u_known hts fx_in4 (hts _ fx_ins4)
  obtain ⟨c5, i5, h5⟩ := u_known hts fx_in5 (hts _ fx_ins5)
  obtain ⟨c6, i6, h6⟩ := u_known hts fx_in6 (hts _ fx_ins6)
  obtain ⟨c7, i7, h7⟩ := u_known hts fx_in7 (hts _ fx_ins7)
  obtain ⟨c8, i8, h8⟩ := u_known hts fx_in8 (hts _ fx_ins8)
  obtain ⟨c9, i9, h9⟩ := u_known hts fx_in9 (hts _ fx_ins9)
  obtain ⟨c10, i10, h10⟩ := u_known hts fx_in10 (hts _ fx_ins10)
  obtain ⟨c11, i11, h11⟩ := u_known hts fx_in11 (hts _ fx_ins11)
  refine ⟨fun k => match k with | 0 => c0 | 1 => c1 | 2 => c2 | 3 => c3 | 4 => c4 | 5 => c5 | 6 => c6 | 7 => c7 | 8 => c8 | 9 => c9 | 10 => c10 | _ => c11, fun k => match k with | 0 => i0 | 1 => i1 | 2 => i2 | 3 => i3 | 4 => i4 | 5 => i5 | 6 => i6 | 7 => i7 | 8 => i8 | 9 => i9 | 10 => i10 | _ => i11, fun k q hq => ?_⟩
  match k, hq with
  | 0, hq => cases hq; exact h0
  | 1, hq => cases hq; exact h1
  | 2, hq => cases hq; exact h2
  | 3, hq => cases hq; exact h3
  | 4, hq => cases hq; exact h4
  | 5, hq => cases hq; exact h5
  | 6, hq => cases hq; exact h6
  | 7, hq => cases hq; exact h7
  | 8, hq => cases hq; exact h8
  | 9, hq => cases hq; exact h9
  | 10, hq => cases hq; exact h10
  | 11, hq => cases hq; exact h11
  | k + 12, hq => exact absurd hq (by simp [fx_cl])
theorem st_ar7 {s : State} {b : Nat} (hts : ∀ w ∈ lw_tbl, w.before #[Value.ref b] s = true) : ∃ aC : Nat → ClassId, ∀ (k : Nat) (q : ClassId × FieldType), (fx_tys aC)[k]? = some q → ArrOfT s q.1 q.2 ∧ va_RA s q.1 q.2 := by
  have f : ∀ w ∈ fx_tbl, w.before #[Value.ref b] s = true := fun w hw => hts w (List.mem_filter.mp hw).1
  obtain ⟨a0, h0⟩ := arr_of (ty := .int) (fun C h => by cases h) (f _ fx_w_ac_int)
  obtain ⟨a1, h1⟩ := arr_of (ty := .byte) (fun C h => by cases h) (f _ fx_w_ac_byte)
  obtain ⟨a2, h2⟩ := arr_of (ty := .boolean) (fun C h => by cases h) (f _ fx_w_ac_boolean)
  obtain ⟨a3, h3⟩ := arr_of (ty := .long) (fun C h => by cases h) (f _ fx_w_ac_long)
  obtain ⟨a4, h4⟩ := arr_ofO (va_AO.of (hts _ st_oChase))
  obtain ⟨a5, h5⟩ := arr_ofO (va_AO.of (hts _ st_oWorld))
  obtain ⟨a6, h6⟩ := arr_ofO (va_AO.of (hts _ st_oRule))
  refine ⟨fun e => match e with | 0 => a0 | 1 => a1 | 2 => a2 | 3 => a3 | 4 => a4 | 5 => a5 | _ => a6, fun k q hq => ?_⟩
  match k, hq with
  | 0, hq => cases hq; exact h0
  | 1, hq => cases hq; exact h1
  | 2, hq => cases hq; exact h2
  | 3, hq => cases hq; exact h3
  | 4, hq => cases hq; exact h4
  | 5, hq => cases hq; exact h5
  | 6, hq => cases hq; exact h6
  | k + 7, hq => exact absurd hq (by simp [fx_tys])
theorem cnt_0 {k : Nat} (h : k < 90) : cnt0 k = 0 := (by decide +kernel : ∀ k, k < 90 → cnt0 k = 0) k h
theorem cnt_r {k j t : Nat} {r : fxR} (h : j < cnt0 k) (e : R0 k j t = some r) : False := by
  by_cases a : k < 90
  · rw [cnt_0 a] at h
    exact absurd h (Nat.not_lt_zero j)
  · by_cases c : k < 93
    · rcases (show k = 90 ∨ k = 91 ∨ k = 92 by omega) with rfl | rfl | rfl <;> cases e
    · obtain ⟨i, rfl⟩ : ∃ i, k = i + 93 := ⟨k - 93, by omega⟩
      exact absurd h (Nat.not_lt_zero j)
set_option maxRecDepth 100000 in
set_option maxHeartbeats 4000000 in
theorem whole_start {p : Program} {e : Env} {s : State} {m : MethodId} {below : List Frame} {meth : Method} {c : Code} (l : Launch) (hflags : l.flags = flags0) {b L : Nat} {xs : Nat → Int32} (hL : L ≤ 3072) (C0 : lw_At p s m meth c b L xs) : W p l e room_1 s m #[Value.ref b] below meth c s.heap [] 0 0 (lw_Z below #[Value.ref b] s) (entryFrame m ([Value.ref b] : List Value).toArray 4) := by
  obtain ⟨hx, hb, hr, hml, hown, hts, hX, hbl, hlocks, hgv⟩ := id C0
  obtain ⟨dC, dI, hKc⟩ := st_cl hts
  obtain ⟨aC, hKa⟩ := st_ar7 hts
  have hK : va_K (dC, dI) fx_cl (fx_tys aC) s := ⟨hKc, hKa⟩
  obtain ⟨t91, adK, adV, hXs⟩ := st_Xs (A := fun q : Nat => s.heap.size ≤ q) (fun a h => Nat.not_le.mpr h) hts hX hbl hgv
  have hfx : ∀ w ∈ fx_tbl, w.before #[Value.ref b] s = true := fun w hw => hts w (List.mem_filter.mp hw).1
  have C : fx_Cx p room_1 s m #[Value.ref b] meth c (fun q : Nat => s.heap.size ≤ q) (dC, dI) aC (b, L, xs, t91, adK, adV) fx_ML := ⟨hx, hb, hml, hown, hfx, hK, hr, hlocks, fun h => by (cases h), hXs, fun _ h => h, rfl, rfl, by decide, by decide⟩
  obtain ⟨N, r, h', hR, rfl⟩ := law_E (L := L) (Sc := xs) (P := fun r _ => r = some (vi 1)) hL (fun _ _ => rfl)
  obtain ⟨ad, ad0, ad1, ad2⟩ : ∃ ad : fxR → Nat, ad (90, 0) = b ∧ ad (91, 0) = t91 ∧ ∀ i, i < 18 → ad (92, i) = adK i := ⟨fun q => if q.1 = 90 then b else if q.1 = 91 then t91 else adK q.2, rfl, rfl, fun i _ => rfl⟩
  have he : fx_He (fun q : Nat => s.heap.size ≤ q) (dC, dI) aC (b, L, xs, t91, adK, adV) ad [] (tH L cnt0 R0 (int0 xs)) s.heap := by
    refine ⟨fun k q h => by (simp [fx_ws] at h), ⟨fun i j p q h => by (simp [fx_ws] at h), fun k q h => by (simp [fx_ws] at h)⟩, fun q => ⟨fun h => by (cases h), fun h => ?_⟩, fun k j t q hj e1 => (cnt_r hj e1).elim, ad0, rfl, fun j => rfl, rfl, ad1, rfl, fun j => rfl, rfl, ad2, rfl⟩
    have h2 : q.2 < cnt0 q.1 := h.2
    rw [cnt_0 h.1] at h2
    exact absurd h2 (Nat.not_lt_zero _)
  have hlv := fx_entlv (ad := ad) (nL := 4) (av := [.inr (.inr (some (90, 0)))]) (Nat.le_of_ble_eq_true rfl)
  rw [show ([.inr (.inr (some (90, 0)))] : List fxV).map (fx_cv ad) = [Value.ref b] by rw [← ad0]; rfl] at hlv
  rw [lg_entry_eq]
  have I : fx_Inv s (fun q : Nat => s.heap.size ≤ q) (dC, dI) aC (b, L, xs, t91, adK, adV) 4 ad [] (tH L cnt0 R0 (int0 xs)) [some (.inr (.inr (some (90, 0)))), none, none, none] [] s.heap [] ((lg_sl [Value.ref b] ++ List.replicate (4 - (lg_sl [Value.ref b]).length) Slot.unset).toArray) := by
    refine ⟨he, va_S.rf, hlv, fun i v hv => ?_, fun v hv => absurd hv List.not_mem_nil, rfl⟩
    match i, hv with
    | 0, hv => cases hv; exact (by decide : (0 : Nat) < 1)
    | 1, hv => cases hv
    | 2, hv => cases hv
    | 3, hv => cases hv
    | i + 4, hv => exact absurd (fx_get_lt hv) (by show ¬ i + 4 < 4; omega)
  have hend : ∀ (i : Instr) (x : fxC), fx_ML.2.1 x.1 = some i → fx_ret fx_ML i x (some (vi 1)) h' → ∀ (ad1 : fxR → Nat) (L1 : List fxR) (H : Heap) (locs : List Loc) (ls : Array Slot), fx_Inv s (fun q : Nat => s.heap.size ≤ q) (dC, dI) aC (b, L, xs, t91, adK, adV) fx_ML.1.2.2.1 ad1 L1 x.2.2.2.1 x.2.1 x.2.2.1 H locs ls → fx_ext (tH L cnt0 R0 (int0 xs)) ad x.2.2.2.1 ad1 → W p l e room_1 s m #[Value.ref b] below meth c H locs x.2.2.2.2.1 x.2.2.2.2.2 (lw_Z below #[Value.ref b] s) (F0 m x.1 ls (x.2.2.1.map (fx_cv ad1))) := by
    intro i x hF hq ad1 L1 H locs ls I1 _
    obtain ⟨⟨q1, q2⟩, _, hq⟩ := hq
    have hS := I1.2.1
    refine va_forget hS.2.2 ?_
    split at hq
    · obtain ⟨v, e1, _, e2⟩ := hq
      cases e2
      rw [e1]
      exact W.widen q1 q2 (lw_ret hx hb hr hlocks (fx_dec fx_kk_L.1 hF rfl))
    · obtain ⟨v, _, _, e2⟩ := hq
      cases e2
    · obtain ⟨v, _, _, e2⟩ := hq
      cases e2
    · obtain ⟨_, _, e2⟩ := hq
      cases e2
    · exact hq.elim
  exact fx_runG (fx_Ga_sound l _ _ _ _ 20) C fx_kk_L.1 fx_kk_L.2 ⟨by decide, by decide⟩ hend N _ hR ad [] s.heap [] _ I (fx_ext.rf _ _)
