/-! texts, BINDS, nest mates: what lies outside (by wip/whole/gen.py) -/
def fx_slen : List Nat := [3, 5, 4, 4, 3, 6, 5, 3, 3, 7, 3, 4, 3, 2, 3, 2, 4, 0]
def fx_sbyt : List (List Int32) := [[102, 111, 120], [114, 105, 100, 101, 114], [103, 97, 116, 101], [112, 97, 99, 101], [103, 97, 112], [98, 101, 104, 105, 110, 100], [108, 101, 118, 101, 108], [111, 117, 116], [119, 97, 115], [102, 111, 120, 112, 97, 99, 101], [108, 97, 119], [115, 116, 101, 112], [97, 110, 100], [111, 114], [110, 111, 116], [105, 102], [114, 105, 100, 101], []]
def fx_srefs : List (String × Nat × String × Nat) := [("FoxReply$HuntReader", 48, "fox", 0), ("FoxReply$HuntReader", 54, "rider", 1), ("FoxReply$HuntReader", 56, "gate", 2), ("FoxReply$RuleReader", 154, "rider", 1), ("FoxReply$RuleReader", 156, "pace", 3), ("FoxReply$RuleReader", 158, "gap", 4), ("FoxReply$RuleReader", 160, "behind", 5), ("FoxReply$RuleReader", 162, "level", 6), ("FoxReply$RuleReader", 164, "out", 7), ("FoxReply$RuleReader", 166, "was", 8), ("FoxReply$RuleReader", 168, "gate", 2), ("FoxReply$RuleReader", 170, "foxpace", 9), ("FoxReply$RuleReader", 172, "law", 10), ("FoxReply$RuleReader", 174, "step", 11), ("FoxReply$RuleReader", 176, "and", 12), ("FoxReply$RuleReader", 178, "or", 13), ("FoxReply$RuleReader", 180, "not", 14), ("FoxReply$RuleReader", 182, "if", 15), ("FoxReply$RuleReader", 184, "ride", 16), ("FoxReply$RuleReader", 186, "", 17)]
def fx_binds (j : Nat) : Int32 := ([5, 5, 6, 6, 6, 4, 4, 4, 4, 4, 2, 1, 3, 0] : List Int32).getD j 0
def fx_nests : List (String × Nat × MethodName × String) := [("FoxReply$HuntReader", 11, ⟨"FoxReply$Chase", "<init>", "()V"⟩, "FoxReply"), ("FoxReply", 42, ⟨"FoxReply$World", "<init>", "()V"⟩, "FoxReply"), ("FoxReply$World", 11, ⟨"FoxReply$Chase", "<init>", "()V"⟩, "FoxReply"), ("FoxReply$World", 23, ⟨"FoxReply$Notes", "<init>", "()V"⟩, "FoxReply"), ("FoxReply$Acts", 15, ⟨"FoxReply$Chase", "<init>", "()V"⟩, "FoxReply"), ("FoxReply", 64, ⟨"FoxReply$Stepper", "<init>", "()V"⟩, "FoxReply"), ("FoxReply", 71, ⟨"FoxReply$Chase", "<init>", "()V"⟩, "FoxReply"), ("FoxReply$RowSearch", 21, ⟨"FoxReply$Chase", "<init>", "()V"⟩, "FoxReply")]
/-- the script's cell, length and ints; BINDS' cell; the texts' cells -/
abbrev fxX : Type := Nat × Nat × (Nat → Int32) × Nat × (Nat → Nat) × (Nat → Nat)
def fx_Xs (X : fxX) (A : Nat → Prop) (s : State) : Prop :=
  (va_X X.1 X.2.1 X.2.2.1 s s.heap ∧ X.1 < s.heap.size ∧ ¬ A X.1) ∧ va_Z "FoxReply$RuleReader" "BINDS" "[I" (.ref X.2.2.2.1) A s s.heap ∧ va_T .int X.2.2.2.1 14 (fun j => .int (fx_binds j)) A s s.heap ∧
  vk_S 18 fx_slen fx_sbyt X.2.2.2.2.1 X.2.2.2.2.2 A s s.heap ∧ (∀ q ∈ fx_srefs, vk_R q.1 q.2.1 q.2.2.1 (X.2.2.2.2.1 q.2.2.2) s) ∧ va_Z "java/lang/String" "COMPACT_STRINGS" "Z" (.int 1) A s s.heap ∧ va_Zq "jdk/internal/util/Preconditions" "SIOOBE_FORMATTER" "Ljava/util/function/BiFunction;" A s s.heap ∧
  (∀ q ∈ fx_nests, va_Nw (.methodLinkNest q.1 q.2.1 q.2.2.1 q.2.2.2) s) ∧ (va_AO "FoxReply$Chase" s ∧ va_AO "FoxReply$World" s ∧ va_AO "FoxReply$Rule" s) ∧ va_Nw (.castable "[I" "java/lang/Cloneable") s
theorem fx_Xs_moved {X : fxX} {A : Nat → Prop} {s U : State} {H : Heap} {locs : List Loc} (h : fx_Xs X A s) (hS : va_S A s.heap H locs) (hH : U.heap = H) (hW : s.WarmedH U.vm) : fx_Xs X A U := by
  obtain ⟨⟨h1, h2, h3⟩, h4, h5, h6, h7, h8, h9, h10, ⟨h11, h12, h13⟩, h14⟩ := h
  subst hH
  have ha := hW.alike
  have kq : ∀ a : Nat, a < s.heap.size → ¬ A a → U.heap[a]? = s.heap[a]? := hS.2.1
  exact ⟨⟨(h1.moved ha).kept (kq _ h2 h3), Nat.lt_of_lt_of_le h2 hS.1, h3⟩, (h4.moved ha).kept kq, (h5.moved ha).kept kq, (h6.moved ha).kept kq, fun q hq => (h7 q hq).warm hW, (h8.moved ha).kept kq, (h9.moved ha).kept kq, fun q hq => (h10 q hq).warmM hW, ⟨h11.moved ha, h12.moved ha, h13.moved ha⟩, h14.warmC hW⟩
theorem fx_Xs_blind {X : fxX} {A : Nat → Prop} {U : State} (g : JFrame) (mk : MethodId) (a : Array Value) (h : fx_Xs X A U) : fx_Xs X A (U.calling g mk a) := by
  obtain ⟨⟨h1, h2, h3⟩, h4, h5, h6, h7, h8, h9, h10, ⟨h11, h12, h13⟩, h14⟩ := h
  have ha : U.vm.Alike (U.calling g mk a).vm := Vm.Alike.refl U.vm
  exact ⟨⟨h1.moved ha, h2, h3⟩, h4.moved ha, h5.moved ha, h6.moved ha, fun q hq => (h7 q hq).same rfl, h8.moved ha, h9.moved ha, fun q hq => (h10 q hq).same rfl rfl, ⟨h11.moved ha, h12.moved ha, h13.moved ha⟩, h14.same rfl rfl⟩
/-- the heap holds what the abstract one says -/
def fx_Xh (X : fxX) (ad : fxR → Nat) (h : fxH) : Prop := ad (90, 0) = X.1 ∧ h.2.1 90 0 = X.2.1 ∧ (∀ j, h.2.2.2.1 90 0 j = X.2.2.1 j) ∧ h.1 90 = 1 ∧ ad (91, 0) = X.2.2.2.1 ∧ h.2.1 91 0 = 14 ∧ (∀ j, h.2.2.2.1 91 0 j = fx_binds j) ∧ h.1 91 = 1 ∧ (∀ i, i < 18 → ad (92, i) = X.2.2.2.2.1 i) ∧ h.1 92 = 18
def fx_He (A : Nat → Prop) (D : va_G) (aC : Nat → ClassId) (X : fxX) (ad : fxR → Nat) (L : List fxR) (h : fxH) (H : Heap) : Prop :=
  va_P D fx_cl (fx_ws aC ad h L) H ∧ va_D A (fx_ws aC ad h L) ∧ (∀ r, r ∈ L ↔ (r.1 < 90 ∧ r.2 < h.1 r.1)) ∧ (∀ k j t r, j < h.1 k → h.2.2.1 k j t = some r → r.2 < h.1 r.1) ∧ fx_Xh X ad h
def fx_ext (h : fxH) (ad : fxR → Nat) (h' : fxH) (ad' : fxR → Nat) : Prop := (∀ k, h.1 k ≤ h'.1 k) ∧ ∀ r, r.2 < h.1 r.1 → ad' r = ad r
theorem fx_ext.rf (h : fxH) (ad : fxR → Nat) : fx_ext h ad h ad := ⟨fun _ => Nat.le_refl _, fun _ _ => rfl⟩
theorem fx_ext.tr {h h' h'' : fxH} {ad ad' ad'' : fxR → Nat} (a : fx_ext h ad h' ad') (b : fx_ext h' ad' h'' ad'') : fx_ext h ad h'' ad'' := ⟨fun k => Nat.le_trans (a.1 k) (b.1 k), fun r hr => (b.2 r (Nat.lt_of_lt_of_le hr (a.1 _))).trans (a.2 r hr)⟩
theorem fx_ext.cv {h h' : fxH} {ad ad' : fxR → Nat} (a : fx_ext h ad h' ad') {v : fxV} (hv : fx_ok h v) : fx_cv ad' v = fx_cv ad v := by
  rcases v with x | x | (_ | r)
  · rfl
  · rfl
  · rfl
  · show Value.ref _ = Value.ref _
    rw [a.2 r hv]
theorem fx_ext.ok {h h' : fxH} {ad ad' : fxR → Nat} (a : fx_ext h ad h' ad') {v : fxV} (hv : fx_ok h v) : fx_ok h' v := by
  rcases v with x | x | (_ | r)
  · trivial
  · trivial
  · trivial
  · exact Nat.lt_of_lt_of_le hv (a.1 _)
theorem fx_ext.st {h h' : fxH} {ad ad' : fxR → Nat} (a : fx_ext h ad h' ad') {st : List fxV} (hv : ∀ v ∈ st, fx_ok h v) : st.map (fx_cv ad') = st.map (fx_cv ad) := List.map_congr_left (fun v h => a.cv (hv v h))
theorem fx_ext.lv {h h' : fxH} {ad ad' : fxR → Nat} (a : fx_ext h ad h' ad') {lv : fxLv} (hv : ∀ i v, fx_get lv i = some v → fx_ok h v) : fx_lvo ad' lv = fx_lvo ad lv := by
  unfold fx_lvo
  congr 1
  funext i
  cases hi : fx_get lv i with
  | none => rfl
  | some v => simp only [Option.map_some, a.cv (hv i v hi)]
/-- the cells are the same where only the addresses of what wasn't there differ -/
theorem fx_cell_ext {aC : Nat → ClassId} {h h' : fxH} {ad ad' : fxR → Nat} (a : fx_ext h ad h' ad') (hr : ∀ k j t r, j < h.1 k → h.2.2.1 k j t = some r → r.2 < h.1 r.1) (r : fxR) (h1 : r.2 < h.1 r.1) : fx_cell aC ad' h r = fx_cell aC ad h r := by
  have e : ∀ t, (h.2.2.1 r.1 r.2 t).map ad' = (h.2.2.1 r.1 r.2 t).map ad := fun t => by
    cases hx : h.2.2.1 r.1 r.2 t with
    | none => rfl
    | some q => simp only [Option.map_some, a.2 q (hr r.1 r.2 t q h1 hx)]
  have e1 : fx_fv ad' h r.1 r.2 = fx_fv ad h r.1 r.2 := by
    funext s
    unfold fx_fv
    rw [e]
  have e2 : fx_ad (fx_ek r.1) ad' h r.1 r.2 = fx_ad (fx_ek r.1) ad h r.1 r.2 := by
    unfold fx_ad
    simp only [e]
  unfold fx_cell
  rw [e1, e2]
