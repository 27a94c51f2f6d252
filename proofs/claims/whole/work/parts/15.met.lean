/-! a method's contract out of the runs of its body -/
def fx_sl1 (v : fxV) : fxLv := match v with
  | .inr (.inl x) => [some (.inr (.inl x)), none]
  | v => [some v]
def fx_sl (av : List fxV) : fxLv := av.flatMap fx_sl1
def fx_ent (nL : Nat) (av : List fxV) : fxLv := fx_sl av ++ List.replicate (nL - (fx_sl av).length) none
theorem fx_sl_len (ad : fxR → Nat) (av : List fxV) : (lg_sl (av.map (fx_cv ad))).length = (fx_sl av).length := by
  induction av with
  | nil => rfl
  | cons v r ih =>
    unfold lg_sl fx_sl at *
    rw [List.map_cons, List.flatMap_cons, List.flatMap_cons, List.length_append, List.length_append, ih]
    congr 1
    rcases v with x | x | (_ | x) <;> rfl
theorem fx_get_app {a b : fxLv} {i : Nat} : fx_get (a ++ b) i = if i < a.length then fx_get a i else fx_get b (i - a.length) := by
  unfold fx_get
  split
  · rename_i h
    rw [List.getElem?_append_left h]
  · rename_i h
    rw [List.getElem?_append_right (Nat.not_lt.mp h)]
theorem fx_get_rep (n i : Nat) : fx_get (List.replicate n none) i = none := by
  unfold fx_get
  rw [List.getElem?_replicate]
  split <;> rfl
theorem fx_sl_at {ad : fxR → Nat} : ∀ (av : List fxV) (k n i : Nat) (v : fxV), fx_get (fx_sl av ++ List.replicate n none) i = some v → (k + i, fx_cv ad v) ∈ lv_args k (av.map (fx_cv ad)) := by
  intro av
  induction av with
  | nil =>
    intro k n i v h
    rw [show fx_sl [] ++ List.replicate n none = List.replicate n none from rfl, fx_get_rep] at h
    cases h
  | cons w r ih =>
    intro k n i v h
    rw [List.map_cons]
    unfold lv_args
    rw [show fx_sl (w :: r) = fx_sl1 w ++ fx_sl r from rfl, List.append_assoc] at h
    rcases w with x | x | x
    · dsimp only [fx_sl1] at h
      rw [fx_get_app] at h
      split at h
      · rename_i hi
        have : i = 0 := by simpa using hi
        subst this
        cases h
        exact List.mem_cons_self
      · rename_i hi
        have h1 := ih (k + 1) n (i - 1) v h
        have e : k + 1 + (i - 1) = k + i := by
          have : ¬ i < 1 := hi
          omega
        rw [e] at h1
        exact List.mem_cons_of_mem _ h1
    · dsimp only [fx_sl1] at h
      rw [fx_get_app] at h
      split at h
      · rename_i hi
        have hi : i < 2 := hi
        rcases (show i = 0 ∨ i = 1 by omega) with rfl | rfl
        · cases h
          exact List.mem_cons_self
        · cases h
      · rename_i hi
        have h1 := ih (k + 2) n (i - 2) v h
        have e : k + 2 + (i - 2) = k + i := by
          have : ¬ i < 2 := hi
          omega
        rw [e] at h1
        exact List.mem_cons_of_mem _ h1
    · have hc : ¬ (fx_cv ad (.inr (.inr x))).category = 2 := by
        rw [fx_cat_cv]
        show ¬ (1 = 2)
        decide
      dsimp only [fx_sl1] at h
      rw [fx_get_app] at h
      split at h
      · rename_i hi
        have : i = 0 := by simpa using hi
        subst this
        cases h
        exact List.mem_cons_self
      · rename_i hi
        have h1 := ih (k + 1) n (i - 1) v h
        have e : k + 1 + (i - 1) = k + i := by
          have : ¬ i < 1 := hi
          omega
        rw [e] at h1
        rw [if_neg hc]
        exact List.mem_cons_of_mem _ h1
theorem fx_sl_ok {h : fxH} : ∀ (av : List fxV) (n i : Nat) (v : fxV), (∀ w ∈ av, fx_ok h w) → fx_get (fx_sl av ++ List.replicate n none) i = some v → fx_ok h v := by
  intro av
  induction av with
  | nil =>
    intro n i v _ h
    rw [show fx_sl [] ++ List.replicate n none = List.replicate n none from rfl, fx_get_rep] at h
    cases h
  | cons w r ih =>
    intro n i v hw h
    rw [show fx_sl (w :: r) = fx_sl1 w ++ fx_sl r from rfl, List.append_assoc] at h
    have hw1 := hw w List.mem_cons_self
    have hw2 : ∀ z ∈ r, _ := fun z hz => hw z (List.mem_cons_of_mem _ hz)
    rcases w with x | x | x
    · dsimp only [fx_sl1] at h
      rw [fx_get_app] at h
      split at h
      · rename_i hi
        have : i = 0 := by simpa using hi
        subst this
        cases h
        exact hw1
      · exact ih n _ v hw2 h
    · dsimp only [fx_sl1] at h
      rw [fx_get_app] at h
      split at h
      · rename_i hi
        have hi : i < 2 := hi
        rcases (show i = 0 ∨ i = 1 by omega) with rfl | rfl
        · cases h
          exact hw1
        · cases h
      · exact ih n _ v hw2 h
    · dsimp only [fx_sl1] at h
      rw [fx_get_app] at h
      split at h
      · rename_i hi
        have : i = 0 := by simpa using hi
        subst this
        cases h
        exact hw1
      · exact ih n _ v hw2 h
theorem fx_entlv {ad : fxR → Nat} {nL : Nat} {av : List fxV} (h : (fx_sl av).length ≤ nL) : lv_has ((lg_sl (av.map (fx_cv ad)) ++ List.replicate (nL - (lg_sl (av.map (fx_cv ad))).length) Slot.unset).toArray) nL (fx_lvo ad (fx_ent nL av)) := by
  have h1 := lv_entry (av.map (fx_cv ad)) (n := nL) (by rw [fx_sl_len]; exact h)
  refine ⟨h1.1, h1.2.1, fun q hq => h1.2.2 q ?_⟩
  obtain ⟨v, hv, e⟩ := fx_lvo_mem.mp hq
  have h2 := fx_sl_at (ad := ad) av 0 _ q.1 v hv
  rw [Nat.zero_add, ← e] at h2
  exact h2
theorem fx_entlen {nL : Nat} {av : List fxV} (h : (fx_sl av).length ≤ nL) : (fx_ent nL av).length = nL := by
  unfold fx_ent
  rw [List.length_append, List.length_replicate]
  omega
theorem fx_met {l : Launch} {A : Nat → Prop} {D : va_G} {aC : Nat → ClassId} {X : fxX} {Y : Nat → fxY} {Γ : fxGa} {d : Nat} (hΓ : fx_sound l A D aC X Y d Γ) {y : fxY} (Yk : fx_Yok y) (K : fx_Mok y.2.1) (Ck : fx_Cok Y y.2.1) {av : List fxV} {h h' : fxH} {r : Option fxV} {N : Nat} (hlen : (fx_sl av).length ≤ y.2.1.1.2.2.1) (hR : fx_R Y Γ y.2.1 N (0, fx_ent y.2.1.1.2.2.1 av, [], h, 0, 0) r h') (ad : fxR → Nat) (L : List fxR) :
    Met l y.1 (Cond.code y.1 y.2.1.1.2.1 y.2.1.1.2.2.1 y.2.1.1.2.2.2 :: fx_tbl) (fx_room (d + 1) y.2.1.2.2.2.2.2.1 y.2.1.2.2.2.2.2.2) (fx_Pc A D aC X av ad L h) (fx_Qc A D aC X ad h r h') y.2.1.2.2.2.2.2.1 y.2.1.2.2.2.2.2.2 A := by
  refine Met.ofW (cc := y.2.1.1.2.1) (maxL := y.2.1.1.2.2.1) (ret := y.2.1.1.2.2.2) Yk.2.2.1 rfl ?_
  intro p e s m args below meth c s₁ B hml hv
  obtain ⟨rfl, hok, he, hK, hX, hA⟩ := hv
  have hts : ∀ w ∈ fx_tbl, w.before _ s = true := fun w hw => atoms_spec (ws := Cond.code y.1 y.2.1.1.2.1 y.2.1.1.2.2.1 y.2.1.1.2.2.2 :: fx_tbl) B.pre w (List.mem_cons_of_mem _ hw)
  have hown : s.vm.findClass y.1.cls = some m.cls := findClass_of_methodNamed B.named
  have hin : meth.name = y.1.name := (name_of_methodNamed B.named B.method).1
  rw [lg_entry_eq]
  have C : fx_Cx p (fx_room (d + 1) y.2.1.2.2.2.2.2.1 y.2.1.2.2.2.2.2.2) s m (av.map (fx_cv ad)).toArray meth c A D aC X y.2.1 :=
    ⟨B.exec, B.bytes, hml, by rw [← Yk.2.1]; exact hown, hts, hK, B.returns, B.notSynchronized, fun hi => hin.trans (Yk.2.2.2.2.2.2.1 hi), hX, hA, rfl, rfl, Nat.succ_le_succ (Nat.zero_le _), Nat.le_add_right _ _⟩
  have I : fx_Inv s A D aC X y.2.1.1.2.2.1 ad L h (fx_ent y.2.1.1.2.2.1 av) [] s.heap [] ((lg_sl (av.map (fx_cv ad)) ++ List.replicate (y.2.1.1.2.2.1 - (lg_sl (av.map (fx_cv ad))).length) Slot.unset).toArray) :=
    ⟨he, va_S.rf, fx_entlv hlen, fun i v hv => fx_sl_ok av _ i v hok hv, fun v hv => absurd hv List.not_mem_nil, fx_entlen hlen⟩
  exact fx_runG hΓ C K Ck ⟨Nat.le_refl _, Nat.le_refl _⟩ (fun i x hF hr ad1 L1 H1 locs1 ls1 I1 hx1 => fx_end C K hF hr I1 hx1) N _ hR ad L s.heap [] _ I (fx_ext.rf h ad)
