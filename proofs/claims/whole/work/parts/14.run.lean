/-! runs of the abstract machine, and the machine's -/
abbrev fxGa : Type := Nat → List fxV → fxH → Option fxV → fxH → Prop
def fx_cy (M : fxM) (i : Instr) : Option Nat := match i with
  | .invokevirtual x => fx_lk M.2.2.1.2.1 x
  | .invokespecial x => fx_lk M.2.2.1.2.1 x
  | .invokestatic x => fx_lk M.2.2.1.2.1 x
  | _ => none
def fx_isr (i : Instr) : Bool := match i with
  | .ireturn | .lreturn | .areturn | .return_ => true
  | _ => false
def fx_rok (t : Option FieldType) (v : Int32) : Prop := match t with
  | some .int => True
  | some .boolean => v = 0 ∨ v = 1
  | _ => False
def fx_aok (t : Option FieldType) : Prop := match t with
  | some (.object _) => True
  | some (.array _) => True
  | _ => False
def fx_ret (M : fxM) (i : Instr) (x : fxC) (r : Option fxV) (h' : fxH) : Prop := (x.2.2.2.2.1 ≤ M.2.2.2.2.2.1 ∧ x.2.2.2.2.2 ≤ M.2.2.2.2.2.2) ∧ x.2.2.2.1 = h' ∧ match i with
  | .ireturn => ∃ v, x.2.2.1 = [.inl v] ∧ fx_rok M.1.2.2.2 v ∧ r = some (.inl v)
  | .lreturn => ∃ v, x.2.2.1 = [.inr (.inl v)] ∧ M.1.2.2.2 = some .long ∧ r = some (.inr (.inl v))
  | .areturn => ∃ v, x.2.2.1 = [.inr (.inr v)] ∧ fx_aok M.1.2.2.2 ∧ r = some (.inr (.inr v))
  | .return_ => x.2.2.1 = [] ∧ M.1.2.2.2 = none ∧ r = none
  | _ => False
def fx_R (Y : Nat → fxY) (Γ : fxGa) (M : fxM) : Nat → fxC → Option fxV → fxH → Prop
  | 0, _, _, _ => False
  | N + 1, x, r, h' => match M.2.1 x.1 with
    | none => False
    | some i => match fx_cy M i with
      | some y => ∃ (av rest : List fxV) (r1 : Option fxV) (h1 : fxH), x.2.2.1 = av.reverse ++ rest ∧ av.length = fx_na (Y y) ∧ (rest.map fx_cat).sum ≤ 8 ∧ fx_rcv (Y y) av ∧ x.2.2.2.2.1 + (Y y).2.1.2.2.2.2.2.1 ≤ M.2.2.2.2.2.1 ∧ x.2.2.2.2.2 + (Y y).2.1.2.2.2.2.2.2 ≤ M.2.2.2.2.2.2 ∧ Γ y av x.2.2.2.1 r1 h1 ∧ fx_R Y Γ M N (x.1 + 3, x.2.1, r1.toList ++ rest, h1, x.2.2.2.2.1 + (Y y).2.1.2.2.2.2.2.1, x.2.2.2.2.2 + (Y y).2.1.2.2.2.2.2.2) r h'
      | none => bif fx_isr i then fx_ret M i x r h' else ∃ x', fx_stp M x.1 i x.2.1 x.2.2.1 x.2.2.2.1 x.2.2.2.2.1 x.2.2.2.2.2 = some x' ∧ fx_R Y Γ M N x' r h'
def fx_Cok (Y : Nat → fxY) (M : fxM) : Prop := ∀ pc i y, M.2.1 pc = some i → fx_cy M i = some y → ∃ x0, i = fx_ins (Y y).2.2.2.1 x0 ∧ fx_Lok M.1.1 x0 (Y y)
section FXN
variable {p : Program} {l : Launch} {e : Env} {R : Room} {s : State} {m : MethodId} {args : Array Value} {below : List Frame} {meth : Method} {c0 : Code} {Q : State → Prop}
variable {A : Nat → Prop} {D : va_G} {aC : Nat → ClassId} {X : fxX} {M : fxM}
theorem fx_step (C : fx_Cx p R s m args meth c0 A D aC X M) (K : fx_Mok M) (i : Instr) : fx_G p l e R s m args below meth c0 Q A D aC X M i := by
  cases i with
  | iconst v => exact fx_s_iconst C K v
  | bipush v => exact fx_s_bipush C K v
  | sipush v => exact fx_s_sipush C K v
  | lconst v => exact fx_s_lconst C K v
  | aconst_null => exact fx_s_aconst_null C K
  | ldc v => exact fx_s_ldc C K v
  | ldc_w v => exact fx_s_ldc_w C K v
  | ldc2_w v => exact fx_s_ldc2_w C K v
  | iload_n v => exact fx_s_iload_n C K v
  | iload v => exact fx_s_iload C K v
  | lload_n v => exact fx_s_lload_n C K v
  | lload v => exact fx_s_lload C K v
  | aload_n v => exact fx_s_aload_n C K v
  | aload v => exact fx_s_aload C K v
  | istore_n v => exact fx_s_istore_n C K v
  | istore v => exact fx_s_istore C K v
  | lstore_n v => exact fx_s_lstore_n C K v
  | lstore v => exact fx_s_lstore C K v
  | astore_n v => exact fx_s_astore_n C K v
  | astore v => exact fx_s_astore C K v
  | iinc v d => exact fx_s_iinc C K v d
  | iadd => exact fx_s_iadd C K
  | isub => exact fx_s_isub C K
  | imul => exact fx_s_imul C K
  | iand => exact fx_s_iand C K
  | ior => exact fx_s_ior C K
  | ixor => exact fx_s_ixor C K
  | ishl => exact fx_s_ishl C K
  | ishr => exact fx_s_ishr C K
  | iushr => exact fx_s_iushr C K
  | idiv => exact fx_s_idiv C K
  | irem => exact fx_s_irem C K
  | ineg => exact fx_s_ineg C K
  | ladd => exact fx_s_ladd C K
  | lsub => exact fx_s_lsub C K
  | lmul => exact fx_s_lmul C K
  | land => exact fx_s_land C K
  | lor => exact fx_s_lor C K
  | lxor => exact fx_s_lxor C K
  | ldiv => exact fx_s_ldiv C K
  | lrem => exact fx_s_lrem C K
  | lneg => exact fx_s_lneg C K
  | lshl => exact fx_s_lshl C K
  | lushr => exact fx_s_lushr C K
  | lcmp => exact fx_s_lcmp C K
  | i2l => exact fx_s_i2l C K
  | l2i => exact fx_s_l2i C K
  | i2b => exact fx_s_i2b C K
  | dup => exact fx_s_dup C K
  | pop => exact fx_s_pop C K
  | dup2 => exact fx_s_dup2 C K
  | getfield v => exact fx_s_getfield C K v
  | putfield v => exact fx_s_putfield C K v
  | getstatic v => exact fx_s_getstatic C K v
  | iaload => exact fx_s_iaload C K
  | baload => exact fx_s_baload C K
  | laload => exact fx_s_laload C K
  | aaload => exact fx_s_aaload C K
  | iastore => exact fx_s_iastore C K
  | bastore => exact fx_s_bastore C K
  | lastore => exact fx_s_lastore C K
  | aastore => exact fx_s_aastore C K
  | arraylength => exact fx_s_arraylength C K
  | newarray t => exact fx_s_newarray C K t
  | anewarray v => exact fx_s_anewarray C K v
  | new v => exact fx_s_new C K v
  | goto o => exact fx_s_goto C K o
  | ifCond cn o => cases cn with
    | eq => exact fx_s_ifCond_eq C K o
    | ne => exact fx_s_ifCond_ne C K o
    | lt => exact fx_s_ifCond_lt C K o
    | ge => exact fx_s_ifCond_ge C K o
    | gt => exact fx_s_ifCond_gt C K o
    | le => exact fx_s_ifCond_le C K o
  | if_icmp cn o => cases cn with
    | eq => exact fx_s_if_icmp_eq C K o
    | ne => exact fx_s_if_icmp_ne C K o
    | lt => exact fx_s_if_icmp_lt C K o
    | ge => exact fx_s_if_icmp_ge C K o
    | gt => exact fx_s_if_icmp_gt C K o
    | le => exact fx_s_if_icmp_le C K o
  | ifnull o => exact fx_s_ifnull C K o
  | ifnonnull o => exact fx_s_ifnonnull C K o
  | tableswitch d lo hi os => exact fx_s_tableswitch C K d lo hi os
  | lookupswitch d ps => exact fx_s_lookupswitch C K d ps
  | checkcast v => exact fx_s_checkcast C K v
  | invokestatic v => exact fx_s_invokestatic C K v
  | invokespecial v => exact fx_s_invokespecial C K v
  | invokevirtual v => exact fx_s_invokevirtual C K v
  | _ => intro pc lv st h c n x ad L H locs ls hF hs I k; exact absurd hs (by simp [fx_stp])
/-- an end: the contract's -/
theorem fx_end (C : fx_Cx p R s m args meth c0 A D aC X M) (K : fx_Mok M) {i : Instr} {x : fxC} {r : Option fxV} {h' : fxH} (hF : M.2.1 x.1 = some i) (hr : fx_ret M i x r h') {ad ad0 : fxR → Nat} {h0 : fxH} {L : List fxR} {H : Heap} {locs : List Loc} {ls : Array Slot} (I : fx_Inv s A D aC X M.1.2.2.1 ad L x.2.2.2.1 x.2.1 x.2.2.1 H locs ls) (hx : fx_ext h0 ad0 x.2.2.2.1 ad) :
    W p l e R s m args below meth c0 H locs x.2.2.2.2.1 x.2.2.2.2.2 (MQ below (fx_Qc A D aC X ad0 h0 r h') args s M.2.2.2.2.2.1 M.2.2.2.2.2.2 A) (F0 m x.1 ls (x.2.2.1.map (fx_cv ad))) := by
  obtain ⟨pc, lv, st, h, c, n⟩ := x
  obtain ⟨⟨hc, hn⟩, hh, hr⟩ := hr
  dsimp only at *
  subst hh
  obtain ⟨he, hS, hl, hlv, hst, hln⟩ := id I
  obtain ⟨C1, C2, C3, C4, C5, C6, C7, C8, C9, C10, C11, C12, C13, C14, C15⟩ := id C
  have hlocks : meth.locks = false := C8
  refine W.widen hc hn ?_
  have hF' : ∀ t : State, t.heap = H → va_F A s t := fun t ht => ⟨by rw [ht]; exact hS.1, fun q h1 h2 => by rw [ht]; exact hS.2.1 q h1 h2⟩
  have fin : ∀ (r : Option fxV), (∀ v, r = some v → fx_ok h v) → ∀ t : State, t.heap = H → fx_Qc A D aC X ad0 h0 r h args s (.returned (r.map (fx_cv ad))) t := fun r hr t ht => ⟨ad, L, rfl, by rw [ht]; exact he, hx, hr, hF' t ht⟩
  split at hr
  · obtain ⟨v, rfl, hv, rfl⟩ := hr
    have e2 : ∃ ty, M.1.2.2.2 = some ty ∧ narrow ty (.int v) = .int v := by
      unfold fx_rok at hv
      split at hv
      · exact ⟨_, by assumption, rfl⟩
      · refine ⟨_, by assumption, ?_⟩
        rcases hv with rfl | rfl <;> rfl
      · exact hv.elim
    obtain ⟨ty, e3, e4⟩ := e2
    exact W.zret C1 C2 (C7.trans e3) e4 (fun t ht _ => fin (some (.inl v)) (fun w hw => by cases hw; trivial) t ht) hS.2.2 (fx_dec K hF rfl) hlocks
  · obtain ⟨v, rfl, hv, rfl⟩ := hr
    exact W.lret C1 C2 (C7.trans hv) (fun t ht _ => fin (some (.inr (.inl v))) (fun w hw => by cases hw; trivial) t ht) hS.2.2 (fx_dec K hF rfl) hlocks
  · obtain ⟨v, rfl, hv, rfl⟩ := hr
    have e2 : ∃ ty, M.1.2.2.2 = some ty ∧ ((∃ n, ty = .object n) ∨ ∃ t, ty = .array t) := by
      unfold fx_aok at hv
      split at hv
      · exact ⟨_, by assumption, Or.inl ⟨_, rfl⟩⟩
      · exact ⟨_, by assumption, Or.inr ⟨_, rfl⟩⟩
      · exact hv.elim
    obtain ⟨ty, e3, e4⟩ := e2
    exact W.aret C1 C2 (C7.trans e3) e4 (fx_cvn ad v) (fun t ht _ => fin (some (.inr (.inr v))) (fun w hw => by cases hw; exact fx_hd hst) t ht) hS.2.2 (fx_dec K hF rfl) hlocks
  · obtain ⟨rfl, hv, rfl⟩ := hr
    exact W.vret C1 C2 (C7.trans hv) (fun t ht _ => fin none (fun w hw => by cases hw) t ht) hS.2.2 (fx_dec K hF rfl) hlocks
  · exact hr.elim
def fx_sound (l : Launch) (A : Nat → Prop) (D : va_G) (aC : Nat → ClassId) (X : fxX) (Y : Nat → fxY) (d : Nat) (Γ : fxGa) : Prop :=
  ∀ y av h r h', Γ y av h r h' → fx_Yok (Y y) ∧ ∀ ad L, Met l (Y y).1 (Cond.code (Y y).1 (Y y).2.1.1.2.1 (Y y).2.1.1.2.2.1 (Y y).2.1.1.2.2.2 :: fx_tbl) (fx_room d (Y y).2.1.2.2.2.2.2.1 (Y y).2.1.2.2.2.2.2.2) (fx_Pc A D aC X av ad L h) (fx_Qc A D aC X ad h r h') (Y y).2.1.2.2.2.2.2.1 (Y y).2.1.2.2.2.2.2.2 A
theorem fx_runG {Y : Nat → fxY} {Γ : fxGa} {d : Nat} (hΓ : fx_sound l A D aC X Y d Γ) (C : fx_Cx p R s m args meth c0 A D aC X M) (K : fx_Mok M) (Ck : fx_Cok Y M) (hR : d + 2 ≤ R.frames ∧ 60 + 200 * (d + 1) ≤ R.locals) {r : Option fxV} {h' : fxH} {ad0 : fxR → Nat} {h0 : fxH}
    (hend : ∀ (i : Instr) (x : fxC), M.2.1 x.1 = some i → fx_ret M i x r h' → ∀ (ad : fxR → Nat) (L : List fxR) (H : Heap) (locs : List Loc) (ls : Array Slot), fx_Inv s A D aC X M.1.2.2.1 ad L x.2.2.2.1 x.2.1 x.2.2.1 H locs ls → fx_ext h0 ad0 x.2.2.2.1 ad → W p l e R s m args below meth c0 H locs x.2.2.2.2.1 x.2.2.2.2.2 Q (F0 m x.1 ls (x.2.2.1.map (fx_cv ad)))) :
    ∀ (N : Nat) (x : fxC), fx_R Y Γ M N x r h' → ∀ (ad : fxR → Nat) (L : List fxR) (H : Heap) (locs : List Loc) (ls : Array Slot), fx_Inv s A D aC X M.1.2.2.1 ad L x.2.2.2.1 x.2.1 x.2.2.1 H locs ls → fx_ext h0 ad0 x.2.2.2.1 ad → W p l e R s m args below meth c0 H locs x.2.2.2.2.1 x.2.2.2.2.2 Q (F0 m x.1 ls (x.2.2.1.map (fx_cv ad))) := by
  intro N
  induction N with
  | zero => intro x hx; exact hx.elim
  | succ N ih =>
    intro x hR1 ad L H locs ls I hx
    unfold fx_R at hR1
    cases hF : M.2.1 x.1 with
    | none => rw [hF] at hR1; exact hR1.elim
    | some i =>
      rw [hF] at hR1
      dsimp only at hR1
      cases hy : fx_cy M i with
      | some y =>
        rw [hy] at hR1
        obtain ⟨av, rest, r1, h1, e1, e2, e3, e4, e5, e6, e7, e8⟩ := hR1
        obtain ⟨x0, rfl, hL0⟩ := Ck x.1 i y hF hy
        obtain ⟨Yk, hM⟩ := hΓ y av _ r1 h1 e7
        rw [e1] at I ⊢
        exact fx_call C K Yk hR hF hL0 (hM ad L) e2 e3 e4 e5 e6 I (fun ad' L' H' locs' ls' I' hx' => ih _ e8 ad' L' H' locs' ls' I' (hx.tr hx'))
      | none =>
        rw [hy] at hR1
        dsimp only at hR1
        cases hi : fx_isr i with
        | true =>
          rw [hi] at hR1
          exact hend i x hF hR1 ad L H locs ls I hx
        | false =>
          rw [hi] at hR1
          obtain ⟨x', hs, hR2⟩ := hR1
          exact fx_step C K i x.1 x.2.1 x.2.2.1 x.2.2.2.1 x.2.2.2.2.1 x.2.2.2.2.2 x' ad L H locs ls hF hs I (fun ad' L' H' locs' ls' I' hx' => ih _ hR2 ad' L' H' locs' ls' I' (hx.tr hx'))
end FXN
