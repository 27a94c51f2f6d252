/-! a step of the abstract machine is one of the machine -/
def fx_len (i : Instr) : Option Nat := match i with
  | .bipush _ | .ldc _ | .iload _ | .lload _ | .aload _ | .istore _ | .lstore _ | .astore _ | .newarray _ => some 2
  | .sipush _ | .ldc_w _ | .ldc2_w _ | .iinc _ _ | .getfield _ | .putfield _ | .getstatic _ | .anewarray _ | .new _ | .goto _ | .ifCond _ _ | .if_icmp _ _ | .ifnull _ | .ifnonnull _ | .checkcast _ | .invokestatic _ | .invokespecial _ | .invokevirtual _ => some 3
  | .tableswitch _ _ _ _ | .lookupswitch _ _ => none
  | _ => some 1
def fx_prok (own : String) (x n : Nat) : Prop := match n with
  | 0 => Cond.methodLink own x Lib.Math.max.name ∈ fx_tbl
  | 1 => Cond.methodLink own x Lib.Math.min.name ∈ fx_tbl
  | 2 => Cond.methodLink own x Lib.MathLoose.min_long.x ∈ fx_tbl
  | 3 => Cond.methodLink own x arraycopyName ∈ fx_tbl
  | 4 => Cond.methodLink own x objectInit ∈ fx_tbl
  | 5 => Cond.methodLink own x ⟨"[I", "clone", "()Ljava/lang/Object;"⟩ ∈ fx_tbl
  | _ => True
/-- the tables of a method say what is so -/
def fx_Mok (M : fxM) : Prop :=
  (∀ pc i, M.2.1 pc = some i → ∃ n, decode M.1.2.1 pc = .ok (i, n) ∧ ∀ n0, fx_len i = some n0 → n = n0) ∧
  (∀ x ci sl t, (x, ci, sl, t) ∈ M.2.2.1.1 → ci < 12 ∧ ∃ q, fx_cl[ci]? = some q ∧ sl < q.2.2 ∧ Cond.fieldLink M.1.1 x (q.2.1 sl).1 (q.2.1 sl).2.1 (q.2.1 sl).2.2.1 ∈ fx_tbl ∧ fx_tc (fx_ty ci sl) = t) ∧
  (∀ pc x ci sl t, M.2.1 pc = some (.putfield x) → (x, ci, sl, t) ∈ M.2.2.1.1 → ∀ q, fx_cl[ci]? = some q → (q.2.1 sl).2.2.2 = true → M.2.2.2.2.1 = true ∧ (q.2.1 sl).1 = M.1.1) ∧
  (∀ x n, (x, n) ∈ M.2.2.1.2.2.1 → fx_prok M.1.1 x n) ∧
  (∀ x ci, (x, ci) ∈ M.2.2.1.2.2.2.1 → ci < 12 ∧ ∃ q, fx_cl[ci]? = some q ∧ Cond.classLink M.1.1 x q.1 ∈ fx_tbl) ∧
  (∀ x v, (x, v) ∈ M.2.2.1.2.2.2.2.1 → Cond.constant M.1.1 x v ∈ fx_tbl) ∧
  (∀ x v, (x, v) ∈ M.2.2.1.2.2.2.2.2.1 → Cond.constantLong M.1.1 x v ∈ fx_tbl) ∧
  (∀ x j, (x, j) ∈ M.2.2.1.2.2.2.2.2.2 → j < 18 ∧ ∃ tx, (M.1.1, x, tx, j) ∈ fx_srefs) ∧
  (∀ pc x, M.2.1 pc = some (.getstatic x) → Cond.fieldLink M.1.1 x "FoxReply$RuleReader" "BINDS" "[I" ∈ fx_tbl) ∧
  (∀ pc x, M.2.1 pc = some (.checkcast x) → Cond.classLink M.1.1 x "[I" ∈ fx_tbl)
section FXS
variable {p : Program} {l : Launch} {e : Env} {R : Room} {s : State} {m : MethodId} {args : Array Value} {below : List Frame} {meth : Method} {c0 : Code} {Q : State → Prop}
variable {A : Nat → Prop} {D : va_G} {aC : Nat → ClassId} {X : fxX}
/-- what stays through a method's body -/
def fx_Cx (p : Program) (R : Room) (s : State) (m : MethodId) (args : Array Value) (meth : Method) (c0 : Code) (A : Nat → Prop) (D : va_G) (aC : Nat → ClassId) (X : fxX) (M : fxM) : Prop :=
  p.tables.exec = Jvm.exec ∧ c0.code = M.1.2.1 ∧ c0.maxLocals = M.1.2.2.1 ∧ s.vm.findClass M.1.1 = some m.cls ∧ (∀ w ∈ fx_tbl, w.before args s = true) ∧ va_K D fx_cl (fx_tys aC) s ∧ meth.sig.returnType = M.1.2.2.2 ∧ meth.locks = false ∧ (M.2.2.2.2.1 = true → meth.name = "<init>") ∧ fx_Xs X A s ∧ (∀ q, s.heap.size ≤ q → A q) ∧ R.cells = M.2.2.2.2.2.1 ∧ R.slots = M.2.2.2.2.2.2 ∧ 1 ≤ R.frames ∧ 60 ≤ R.locals
def fx_Inv (s : State) (A : Nat → Prop) (D : va_G) (aC : Nat → ClassId) (X : fxX) (nL : Nat) (ad : fxR → Nat) (L : List fxR) (h : fxH) (lv : fxLv) (st : List fxV) (H : Heap) (locs : List Loc) (ls : Array Slot) : Prop :=
  fx_He A D aC X ad L h H ∧ va_S A s.heap H locs ∧ lv_has ls nL (fx_lvo ad lv) ∧ (∀ i v, fx_get lv i = some v → fx_ok h v) ∧ (∀ v ∈ st, fx_ok h v) ∧ lv.length = nL
theorem fx_He_set {ad : fxR → Nat} {L : List fxR} {h h' : fxH} {H H1 : Heap} {r : fxR} {q : Nat} {ce : va_E} (hH : fx_He A D aC X ad L h H) (hq : L[q]? = some r) (he : fx_cell aC ad h' r = ce) (ho : ∀ r', r' ≠ r → fx_cell aC ad h' r' = fx_cell aC ad h r') (hc : h'.1 = h.1) (hr : ∀ k j t r, j < h'.1 k → h'.2.2.1 k j t = some r → r.2 < h'.1 r.1) (hX : fx_Xh X ad h') (hP : va_P D fx_cl ((fx_ws aC ad h L).set q (ad r, ce)) H1) (hD : va_D A ((fx_ws aC ad h L).set q (ad r, ce))) : fx_He A D aC X ad L h' H1 := by
  have e := fx_ws_set hH.2.1 hq he ho
  rw [e] at hP hD
  exact ⟨hP, hD, by rw [hc]; exact hH.2.2.1, hr, hX⟩
theorem fx_inL {ad : fxR → Nat} {L : List fxR} {h : fxH} {H : Heap} (hH : fx_He A D aC X ad L h H) {k j : Nat} (hk : k < 90) (ho : fx_ok h (.inr (.inr (some (k, j))))) : ∃ q : Nat, L[q]? = some (k, j) := List.getElem?_of_mem ((hH.2.2.1 (k, j)).mpr ⟨hk, ho⟩)
theorem fx_vin {i : Int32} {n : Nat} (h : 0 ≤ i.toInt ∧ i.toInt < (n : Int)) : vp_in i n := vp_in_iff.mpr h
theorem fx_nf_of {ci : Nat} {q : vw_C} (h : fx_cl[ci]? = some q) : fx_nf ci = q.2.2 := by
  unfold fx_nf
  rw [h]
theorem fx_tint {t : FieldType} (h : fx_tc t = 0) : t = .int := by
  cases t <;> first | rfl | cases h
theorem fx_tlong {t : FieldType} (h : fx_tc t = 1) : t = .long := by
  cases t <;> first | rfl | cases h
theorem fx_tbool {t : FieldType} (h : fx_tc t = 3) : t = .boolean := by
  cases t <;> first | rfl | cases h
theorem fx_tref {t : FieldType} (h : defaultValue t = .null) : ∀ v : Value, (v = .null ∨ ∃ a, v = .ref a) → narrow t v = v ∧ fits t v = true := by
  intro v hv
  cases t <;> first | (rcases hv with rfl | ⟨a, rfl⟩ <;> exact ⟨rfl, rfl⟩) | (exfalso; cases h)
theorem fx_cvn (ad : fxR → Nat) (v : Option fxR) : fx_cv ad (.inr (.inr v)) = .null ∨ ∃ a, fx_cv ad (.inr (.inr v)) = .ref a := by
  cases v with
  | none => exact Or.inl rfl
  | some r => exact Or.inr ⟨_, rfl⟩
theorem fx_jmp_spec {pc : Nat} {off : Int} {lv : fxLv} {st : List fxV} {h : fxH} {c n : Nat} {x : fxC} (e : fx_jmp pc off lv st h c n = some x) : x = (fx_tgt pc off, lv, st, h, c, n) ∧ (pc : Int) + off = (fx_tgt pc off : Int) := by
  unfold fx_jmp at e
  cases g : fx_tg0 pc off with
  | false => rw [g] at e; cases e
  | true =>
    rw [g] at e
    cases e
    unfold fx_tg0 at g
    have := of_decide_eq_true g
    exact ⟨rfl, by unfold fx_tgt; omega⟩
theorem fx_br_spec {b : Prop} [Decidable b] {pc : Nat} {off : Int} {lv : fxLv} {st : List fxV} {h : fxH} {c n : Nat} {x : fxC} (e : fx_br b pc off lv st h c n = some x) : (b ∧ x = (fx_tgt pc off, lv, st, h, c, n) ∧ (pc : Int) + off = (fx_tgt pc off : Int)) ∨ (¬ b ∧ x = (pc + 3, lv, st, h, c, n) ∧ (pc : Int) + off = (fx_tgt pc off : Int)) := by
  unfold fx_br at e
  cases g : fx_tg0 pc off with
  | false => rw [g] at e; cases e
  | true =>
    rw [g] at e
    have ht : (pc : Int) + off = (fx_tgt pc off : Int) := by
      unfold fx_tg0 at g
      have := of_decide_eq_true g
      unfold fx_tgt
      omega
    by_cases hb : b
    · simp only [cond_true, if_pos hb] at e
      cases e
      exact Or.inl ⟨hb, rfl, ht⟩
    · simp only [cond_true, if_neg hb] at e
      cases e
      exact Or.inr ⟨hb, rfl, ht⟩
/-- the goal behind a step -/
abbrev fx_K (p : Program) (l : Launch) (e : Env) (R : Room) (s : State) (m : MethodId) (args : Array Value) (below : List Frame) (meth : Method) (c0 : Code) (Q : State → Prop) (A : Nat → Prop) (D : va_G) (aC : Nat → ClassId) (X : fxX) (nL : Nat) (ad : fxR → Nat) (h : fxH) (x : fxC) : Prop :=
  ∀ (ad' : fxR → Nat) (L' : List fxR) (H' : Heap) (locs' : List Loc) (ls' : Array Slot), fx_Inv s A D aC X nL ad' L' x.2.2.2.1 x.2.1 x.2.2.1 H' locs' ls' → fx_ext h ad x.2.2.2.1 ad' → W p l e R s m args below meth c0 H' locs' x.2.2.2.2.1 x.2.2.2.2.2 Q (F0 m x.1 ls' (x.2.2.1.map (fx_cv ad')))
abbrev fx_G (p : Program) (l : Launch) (e : Env) (R : Room) (s : State) (m : MethodId) (args : Array Value) (below : List Frame) (meth : Method) (c0 : Code) (Q : State → Prop) (A : Nat → Prop) (D : va_G) (aC : Nat → ClassId) (X : fxX) (M : fxM) (i : Instr) : Prop :=
  ∀ (pc : Nat) (lv : fxLv) (st : List fxV) (h : fxH) (c n : Nat) (x : fxC) (ad : fxR → Nat) (L : List fxR) (H : Heap) (locs : List Loc) (ls : Array Slot), M.2.1 pc = some i → fx_stp M pc i lv st h c n = some x → fx_Inv s A D aC X M.1.2.2.1 ad L h lv st H locs ls → fx_K p l e R s m args below meth c0 Q A D aC X M.1.2.2.1 ad h x → W p l e R s m args below meth c0 H locs c n Q (F0 m pc ls (st.map (fx_cv ad)))
variable {M : fxM}
theorem fx_dec (K : fx_Mok M) {pc : Nat} {i : Instr} (hF : M.2.1 pc = some i) {n : Nat} (hn : fx_len i = some n) : decode M.1.2.1 pc = .ok (i, n) := by
  obtain ⟨n1, h1, h2⟩ := K.1 pc i hF
  rw [h1, h2 n hn]
end FXS
