/-! what the abstract machine's state says of the machine's -/
def fx_cv (ad : fxR → Nat) (v : fxV) : Value := match v with
  | .inl x => .int x
  | .inr (.inl x) => .long x
  | .inr (.inr none) => .null
  | .inr (.inr (some r)) => .ref (ad r)
def fx_ok (h : fxH) (v : fxV) : Prop := match v with
  | .inr (.inr (some r)) => r.2 < h.1 r.1
  | _ => True
theorem fx_cat_cv (ad : fxR → Nat) (v : fxV) : (fx_cv ad v).category = fx_cat v := by
  rcases v with x | x | (_ | r) <;> rfl
theorem fx_cats (ad : fxR → Nat) (st : List fxV) : ((st.map (fx_cv ad)).map fun v => v.category).sum = (st.map fx_cat).sum := by
  rw [List.map_map]
  congr 1
  exact List.map_congr_left (fun v _ => fx_cat_cv ad v)
theorem fx_rf (ad : fxR → Nat) (o : Option fxR) : fx_cv ad (.inr (.inr o)) = va_rf (o.map ad) := by
  cases o <;> rfl
theorem fx_tl {P : fxV → Prop} {a : fxV} {r : List fxV} (h : ∀ v ∈ a :: r, P v) : ∀ v ∈ r, P v := fun v hv => h v (List.mem_cons_of_mem _ hv)
theorem fx_hd {P : fxV → Prop} {a : fxV} {r : List fxV} (h : ∀ v ∈ a :: r, P v) : P a := h a List.mem_cons_self
theorem fx_cn {P : fxV → Prop} {a : fxV} {r : List fxV} (ha : P a) (h : ∀ v ∈ r, P v) : ∀ v ∈ a :: r, P v := fun v hv => (List.mem_cons.mp hv).elim (fun e => e ▸ ha) (h v)
theorem fx_ci {h : fxH} {x : Int32} {r : List fxV} (g : ∀ v ∈ r, fx_ok h v) : ∀ v ∈ (.inl x : fxV) :: r, fx_ok h v := fx_cn (P := fx_ok h) trivial g
theorem fx_cL {h : fxH} {x : Int64} {r : List fxV} (g : ∀ v ∈ r, fx_ok h v) : ∀ v ∈ (.inr (.inl x) : fxV) :: r, fx_ok h v := fx_cn (P := fx_ok h) trivial g
-- locals
def fx_lvo (ad : fxR → Nat) (lv : fxLv) : List (Nat × Value) := (List.range lv.length).filterMap (fun i => (fx_get lv i).map (fun v => (i, fx_cv ad v)))
theorem fx_get_lt {lv : fxLv} {i : Nat} {v : fxV} (h : fx_get lv i = some v) : i < lv.length := by
  unfold fx_get at h
  rcases Nat.lt_or_ge i lv.length with q | q
  · exact q
  · rw [List.getElem?_eq_none q] at h
    cases h
theorem fx_lvo_mem {ad : fxR → Nat} {lv : fxLv} {q : Nat × Value} : q ∈ fx_lvo ad lv ↔ ∃ v, fx_get lv q.1 = some v ∧ q.2 = fx_cv ad v := by
  unfold fx_lvo
  rw [List.mem_filterMap]
  constructor
  · rintro ⟨i, -, hi⟩
    obtain ⟨v, hv, rfl⟩ := Option.map_eq_some_iff.mp hi
    exact ⟨v, hv, rfl⟩
  · rintro ⟨v, hv, e⟩
    exact ⟨q.1, List.mem_range.mpr (fx_get_lt hv), by rw [hv]; simp [← e]⟩
theorem fx_get_set {lv : fxLv} {i j : Nat} {o : Option fxV} (h : j ≠ i) : fx_get (lv.set i o) j = fx_get lv j := by
  unfold fx_get
  rw [List.getElem?_set_ne (Ne.symm h)]
theorem fx_get_set_self {lv : fxLv} {i : Nat} {o : Option fxV} {v : fxV} (h : fx_get (lv.set i o) i = some v) : o = some v := by
  have hl := fx_get_lt h
  rw [List.length_set] at hl
  unfold fx_get at h
  rw [List.getElem?_set_self hl] at h
  exact h
theorem fx_get_clr {lv : fxLv} {i j : Nat} {v : fxV} (h : fx_get (fx_clr lv i) j = some v) : fx_get lv j = some v ∧ ¬ (j + 1 = i ∧ fx_cat v = 2) := by
  cases i with
  | zero => exact ⟨h, fun q => by omega⟩
  | succ k =>
    simp only [fx_clr] at h
    split at h
    · rename_i w hw
      by_cases e : j = k
      · subst e
        have := fx_get_set_self h
        cases this
      · rw [fx_get_set e] at h
        exact ⟨h, fun q => e (by omega)⟩
    · rename_i hw
      refine ⟨h, fun q => ?_⟩
      have e : j = k := by omega
      subst e
      rcases v with x | x | x
      · exact absurd q.2 (by show ¬ (1 = 2); decide)
      · exact hw x h
      · exact absurd q.2 (by show ¬ (1 = 2); decide)
theorem fx_clr_len (lv : fxLv) (i : Nat) : (fx_clr lv i).length = lv.length := by
  cases i with
  | zero => rfl
  | succ k =>
    simp only [fx_clr]
    split
    · exact List.length_set
    · rfl
theorem fx_st1_get {lv : fxLv} {i j : Nat} {v w : fxV} (h : fx_get (fx_st1 lv i v) j = some w) : (j = i ∧ w = v) ∨ (j ≠ i ∧ fx_get lv j = some w ∧ ¬ (j + 1 = i ∧ fx_cat w = 2)) := by
  unfold fx_st1 at h
  by_cases e : j = i
  · subst e
    have := fx_get_set_self h
    cases this
    exact Or.inl ⟨rfl, rfl⟩
  · rw [fx_get_set e] at h
    exact Or.inr ⟨e, fx_get_clr h⟩
theorem fx_st2_get {lv : fxLv} {i j : Nat} {v w : fxV} (h : fx_get (fx_st2 lv i v) j = some w) : (j = i ∧ w = v) ∨ (j ≠ i ∧ j ≠ i + 1 ∧ fx_get lv j = some w ∧ ¬ (j + 1 = i ∧ fx_cat w = 2)) := by
  unfold fx_st2 at h
  by_cases e1 : j = i + 1
  · subst e1
    have := fx_get_set_self h
    cases this
  · rw [fx_get_set e1] at h
    by_cases e : j = i
    · subst e
      have := fx_get_set_self h
      cases this
      exact Or.inl ⟨rfl, rfl⟩
    · rw [fx_get_set e] at h
      exact Or.inr ⟨e, e1, fx_get_clr h⟩
theorem fx_lv1 {ad : fxR → Nat} {ls : Array Slot} {nL i : Nat} {lv : fxLv} {v : fxV} (h : lv_has ls nL ((i, fx_cv ad v) :: (fx_lvo ad lv).filter (fun q => !(q.1 == i) && !(q.1 + 1 == i && q.2.category == 2)))) : lv_has ls nL (fx_lvo ad (fx_st1 lv i v)) := by
  refine ⟨h.1, h.2.1, fun q hq => h.2.2 q ?_⟩
  obtain ⟨w, hw, e⟩ := fx_lvo_mem.mp hq
  rcases fx_st1_get hw with ⟨a, b⟩ | ⟨a, b, d⟩
  · subst b
    rw [List.mem_cons]
    exact Or.inl (Prod.ext a e)
  · refine List.mem_cons_of_mem _ (List.mem_filter.mpr ⟨fx_lvo_mem.mpr ⟨w, b, e⟩, ?_⟩)
    rw [e, fx_cat_cv]
    simp only [Bool.and_eq_true, Bool.not_eq_true', beq_eq_false_iff_ne, Bool.and_eq_false_iff, ne_eq]
    refine ⟨a, ?_⟩
    by_cases z : q.1 + 1 = i
    · exact Or.inr (fun t => d ⟨z, t⟩)
    · exact Or.inl z
theorem fx_lv2 {ad : fxR → Nat} {ls : Array Slot} {nL i : Nat} {lv : fxLv} {v : fxV} (h : lv_has ls nL ((i, fx_cv ad v) :: (fx_lvo ad lv).filter (fun q => !(q.1 == i) && (!(q.1 == i + 1) && !(q.1 + 1 == i && q.2.category == 2))))) : lv_has ls nL (fx_lvo ad (fx_st2 lv i v)) := by
  refine ⟨h.1, h.2.1, fun q hq => h.2.2 q ?_⟩
  obtain ⟨w, hw, e⟩ := fx_lvo_mem.mp hq
  rcases fx_st2_get hw with ⟨a, b⟩ | ⟨a, a1, b, d⟩
  · subst b
    rw [List.mem_cons]
    exact Or.inl (Prod.ext a e)
  · refine List.mem_cons_of_mem _ (List.mem_filter.mpr ⟨fx_lvo_mem.mpr ⟨w, b, e⟩, ?_⟩)
    rw [e, fx_cat_cv]
    simp only [Bool.and_eq_true, Bool.not_eq_true', beq_eq_false_iff_ne, Bool.and_eq_false_iff, ne_eq]
    refine ⟨a, a1, ?_⟩
    by_cases z : q.1 + 1 = i
    · exact Or.inr (fun t => d ⟨z, t⟩)
    · exact Or.inl z
theorem fx_st1_len (lv : fxLv) (i : Nat) (v : fxV) : (fx_st1 lv i v).length = lv.length := by
  unfold fx_st1
  rw [List.length_set, fx_clr_len]
theorem fx_st2_len (lv : fxLv) (i : Nat) (v : fxV) : (fx_st2 lv i v).length = lv.length := by
  unfold fx_st2
  rw [List.length_set, List.length_set, fx_clr_len]
theorem fx_lvat {ad : fxR → Nat} {ls : Array Slot} {nL i : Nat} {lv : fxLv} {v : fxV} (h : lv_has ls nL (fx_lvo ad lv)) (hv : fx_get lv i = some v) : ls[i]? = some (.val (fx_cv ad v)) := h.2.2 (i, fx_cv ad v) (fx_lvo_mem.mpr ⟨v, hv, rfl⟩)
-- cells
def fx_tc (t : FieldType) : Nat := match t with
  | .int => 0
  | .long => 1
  | .boolean => 3
  | _ => 2
def fx_fv (ad : fxR → Nat) (h : fxH) (k j s : Nat) : Value := match fx_tc (fx_ty k s) with
  | 1 => .long (h.2.2.2.2 k j s)
  | 2 => va_rf ((h.2.2.1 k j s).map ad)
  | _ => .int (h.2.2.2.1 k j s)
def fx_nf (k : Nat) : Nat := match fx_cl[k]? with
  | some q => q.2.2
  | none => 0
def fx_ad (e : Nat) (ad : fxR → Nat) (h : fxH) (k j : Nat) : (Nat → Int32) ⊕ (Nat → Int64) ⊕ (Nat → UInt32) ⊕ (Nat → UInt64) ⊕ (Nat → Option Nat) := match e with
  | 0 => .inl (h.2.2.2.1 k j)
  | 1 => .inl (h.2.2.2.1 k j)
  | 2 => .inl (h.2.2.2.1 k j)
  | 3 => .inr (.inl (h.2.2.2.2 k j))
  | _ => .inr (.inr (.inr (.inr (fun s => (h.2.2.1 k j s).map ad))))
def fx_cell (aC : Nat → ClassId) (ad : fxR → Nat) (h : fxH) (r : fxR) : va_E :=
  if r.1 < 20 then .inr (r.1, (List.range (fx_nf r.1)).map (fx_fv ad h r.1 r.2)) else .inl (aC (fx_ek r.1), h.2.1 r.1 r.2, fx_ad (fx_ek r.1) ad h r.1 r.2)
def fx_ws (aC : Nat → ClassId) (ad : fxR → Nat) (h : fxH) (L : List fxR) : va_W := L.map (fun r => (ad r, fx_cell aC ad h r))
def fx_et (e : Nat) : FieldType := match e with
  | 0 => .int
  | 1 => .byte
  | 2 => .boolean
  | 3 => .long
  | 4 => .object "FoxReply$Chase"
  | 5 => .object "FoxReply$World"
  | _ => .object "FoxReply$Rule"
def fx_tys (aC : Nat → ClassId) : List (ClassId × FieldType) := (List.range 7).map (fun e => (aC e, fx_et e))
theorem fx_tys_at (aC : Nat → ClassId) {e : Nat} (h : e < 7) : (fx_tys aC)[e]? = some (aC e, fx_et e) := by
  unfold fx_tys
  rw [List.getElem?_map, List.getElem?_range h]
  rfl
theorem fx_ws_at {aC : Nat → ClassId} {ad : fxR → Nat} {h : fxH} {L : List fxR} {q : Nat} {r : fxR} (hq : L[q]? = some r) : (fx_ws aC ad h L)[q]? = some (ad r, fx_cell aC ad h r) := by
  unfold fx_ws
  rw [List.getElem?_map, hq]
  rfl
theorem fx_ws_nd {aC : Nat → ClassId} {ad : fxR → Nat} {h : fxH} {L : List fxR} {A : Nat → Prop} (hD : va_D A (fx_ws aC ad h L)) {q q' : Nat} {r : fxR} (h1 : L[q]? = some r) (h2 : L[q']? = some r) : q = q' := hD.1 q q' _ _ (fx_ws_at h1) (fx_ws_at h2) rfl
/-- one cell is another, all else stays -/
theorem fx_ws_set {aC : Nat → ClassId} {ad : fxR → Nat} {h h' : fxH} {L : List fxR} {A : Nat → Prop} (hD : va_D A (fx_ws aC ad h L)) {q : Nat} {r : fxR} (hq : L[q]? = some r) {e : va_E} (he : fx_cell aC ad h' r = e) (ho : ∀ r', r' ≠ r → fx_cell aC ad h' r' = fx_cell aC ad h r') : (fx_ws aC ad h L).set q (ad r, e) = fx_ws aC ad h' L := by
  apply List.ext_getElem?
  intro i
  by_cases e1 : q = i
  · subst e1
    rw [List.getElem?_set_self (by unfold fx_ws; rw [List.length_map]; exact (List.getElem?_eq_some_iff.mp hq).1), fx_ws_at hq, he]
  · rw [List.getElem?_set_ne e1]
    unfold fx_ws
    rw [List.getElem?_map, List.getElem?_map]
    cases hi : L[i]? with
    | none => rfl
    | some r' =>
      have hne : r' ≠ r := fun z => e1 (fx_ws_nd hD hq (by rw [hi, z]))
      simp only [Option.map_some, ho r' hne]
