/-! stores and makings in the abstract heap, as they show in the cells -/
theorem fx_up_ne {α : Type} (f : Nat → Nat → Nat → α) {k j s : Nat} (v : α) {a b : Nat} (h : ¬ (a = k ∧ b = j)) : fx_up f k j s v a b = f a b := by
  unfold fx_up
  by_cases e : a = k
  · rw [if_pos e, if_neg (fun z => h ⟨e, z⟩)]
  · rw [if_neg e]
theorem fx_up_eq {α : Type} (f : Nat → Nat → Nat → α) (k j s : Nat) (v : α) : fx_up f k j s v k j = fun c => if c = s then v else f k j c := by
  unfold fx_up
  rw [if_pos rfl, if_pos rfl]
theorem fx_all_ne {α : Type} (f : Nat → Nat → Nat → α) {k j : Nat} (g : Nat → α) {a b : Nat} (h : ¬ (a = k ∧ b = j)) : fx_all f k j g a b = f a b := by
  unfold fx_all
  by_cases e : a = k
  · rw [if_pos e, if_neg (fun z => h ⟨e, z⟩)]
  · rw [if_neg e]
theorem fx_all_eq {α : Type} (f : Nat → Nat → Nat → α) (k j : Nat) (g : Nat → α) : fx_all f k j g k j = g := by
  unfold fx_all
  rw [if_pos rfl, if_pos rfl]
theorem fx_rne {r : fxR} {k j : Nat} (h : r ≠ (k, j)) : ¬ (r.1 = k ∧ r.2 = j) := fun z => h (Prod.ext z.1 z.2)
theorem fx_cell_congr {aC : Nat → ClassId} {ad : fxR → Nat} {h h' : fxH} {r : fxR} (h1 : h'.2.1 r.1 r.2 = h.2.1 r.1 r.2) (h2 : h'.2.2.1 r.1 r.2 = h.2.2.1 r.1 r.2) (h3 : h'.2.2.2.1 r.1 r.2 = h.2.2.2.1 r.1 r.2) (h4 : h'.2.2.2.2 r.1 r.2 = h.2.2.2.2 r.1 r.2) : fx_cell aC ad h' r = fx_cell aC ad h r := by
  have e1 : fx_fv ad h' r.1 r.2 = fx_fv ad h r.1 r.2 := by
    funext s
    unfold fx_fv
    rw [h2, h3, h4]
  unfold fx_cell fx_ad
  rw [e1, h1, h2, h3, h4]
theorem fx_map_set {α : Type} {N s : Nat} {f f' : Nat → α} {x : α} (h1 : f' s = x) (h2 : ∀ t, t ≠ s → f' t = f t) : (List.range N).map f' = ((List.range N).map f).set s x := by
  apply List.ext_getElem?
  intro i
  by_cases e : s = i
  · subst e
    by_cases hl : s < N
    · rw [List.getElem?_set_self (by simpa using hl), List.getElem?_map, List.getElem?_range hl, ← h1]
      rfl
    · rw [List.getElem?_eq_none (by simpa using hl), List.getElem?_eq_none (by simpa using hl)]
  · rw [List.getElem?_set_ne e, List.getElem?_map, List.getElem?_map]
    by_cases hl : i < N
    · rw [List.getElem?_range hl]
      simp only [Option.map_some, h2 i (Ne.symm e)]
    · rw [List.getElem?_eq_none (by simpa using hl)]
      rfl
theorem fx_cell_obj {aC : Nat → ClassId} {ad : fxR → Nat} {h h' : fxH} {k j s : Nat} {x : Value} (hk : k < 20) (h1 : fx_fv ad h' k j s = x) (h2 : ∀ t, t ≠ s → fx_fv ad h' k j t = fx_fv ad h k j t) : fx_cell aC ad h' (k, j) = .inr (k, ((List.range (fx_nf k)).map (fx_fv ad h k j)).set s x) := by
  unfold fx_cell
  rw [if_pos (show (k, j).1 < 20 from hk)]
  show Sum.inr (k, (List.range (fx_nf k)).map (fx_fv ad h' k j)) = _
  rw [fx_map_set h1 h2]
theorem fx_cell_o {aC : Nat → ClassId} {ad : fxR → Nat} {h : fxH} {k j : Nat} (hk : k < 20) : fx_cell aC ad h (k, j) = .inr (k, (List.range (fx_nf k)).map (fx_fv ad h k j)) := by
  unfold fx_cell
  rw [if_pos (show (k, j).1 < 20 from hk)]
theorem fx_cell_a {aC : Nat → ClassId} {ad : fxR → Nat} {h : fxH} {k j : Nat} (hk : 20 ≤ k) : fx_cell aC ad h (k, j) = .inl (aC (fx_ek k), h.2.1 k j, fx_ad (fx_ek k) ad h k j) := by
  unfold fx_cell
  rw [if_neg (show ¬ (k, j).1 < 20 from Nat.not_lt.mpr hk)]
/-- the fields' values where a class has them -/
theorem fx_fvs {ad : fxR → Nat} {h : fxH} {k j s N : Nat} (hs : s < N) : ((List.range N).map (fx_fv ad h k j))[s]? = some (fx_fv ad h k j s) := by
  rw [List.getElem?_map, List.getElem?_range hs]
  rfl
theorem fx_wi_o {aC : Nat → ClassId} {ad : fxR → Nat} {h : fxH} {k j s : Nat} {v : Int32} (hk : k < 20) (ht : fx_tc (fx_ty k s) = 0 ∨ fx_tc (fx_ty k s) = 3) : fx_cell aC ad (fx_wi h k j s v) (k, j) = .inr (k, ((List.range (fx_nf k)).map (fx_fv ad h k j)).set s (.int v)) := by
  refine fx_cell_obj hk ?_ (fun t hne => ?_)
  · unfold fx_fv fx_wi
    rcases ht with e | e <;> rw [e] <;> simp [fx_up]
  · unfold fx_fv fx_wi
    simp [fx_up, hne]
theorem fx_wl_o {aC : Nat → ClassId} {ad : fxR → Nat} {h : fxH} {k j s : Nat} {v : Int64} (hk : k < 20) (ht : fx_tc (fx_ty k s) = 1) : fx_cell aC ad (fx_wl h k j s v) (k, j) = .inr (k, ((List.range (fx_nf k)).map (fx_fv ad h k j)).set s (.long v)) := by
  refine fx_cell_obj hk ?_ (fun t hne => ?_)
  · unfold fx_fv fx_wl
    rw [ht]
    simp [fx_up]
  · unfold fx_fv fx_wl
    simp [fx_up, hne]
theorem fx_wr_o {aC : Nat → ClassId} {ad : fxR → Nat} {h : fxH} {k j s : Nat} {v : Option fxR} (hk : k < 20) (ht : fx_tc (fx_ty k s) = 2) : fx_cell aC ad (fx_wr h k j s v) (k, j) = .inr (k, ((List.range (fx_nf k)).map (fx_fv ad h k j)).set s (fx_cv ad (.inr (.inr v)))) := by
  refine fx_cell_obj hk ?_ (fun t hne => ?_)
  · unfold fx_fv fx_wr
    rw [ht, fx_rf]
    simp [fx_up]
  · unfold fx_fv fx_wr
    simp [fx_up, hne]
theorem fx_upd_eq (f : Nat → Int32) (i : Nat) (v : Int32) : (fun c => if c = i then v else f c) = upd f i v := rfl
theorem fx_wi_a {aC : Nat → ClassId} {ad : fxR → Nat} {h : fxH} {k j i : Nat} {v : Int32} (hk : 20 ≤ k) (he : fx_ek k = 0 ∨ fx_ek k = 1 ∨ fx_ek k = 2) : fx_cell aC ad (fx_wi h k j i v) (k, j) = .inl (aC (fx_ek k), h.2.1 k j, .inl (upd (h.2.2.2.1 k j) i v)) := by
  rw [fx_cell_a hk]
  unfold fx_ad
  rcases he with e | e | e <;> rw [e] <;> simp only [fx_wi, fx_up_eq] <;> rfl
theorem fx_wl_a {aC : Nat → ClassId} {ad : fxR → Nat} {h : fxH} {k j i : Nat} {v : Int64} (hk : 20 ≤ k) (he : fx_ek k = 3) : fx_cell aC ad (fx_wl h k j i v) (k, j) = .inl (aC (fx_ek k), h.2.1 k j, .inr (.inl (vp_updL (h.2.2.2.2 k j) i v))) := by
  rw [fx_cell_a hk]
  unfold fx_ad
  rw [he]
  simp only [fx_wl, fx_up_eq]
  rfl
theorem fx_wr_a {aC : Nat → ClassId} {ad : fxR → Nat} {h : fxH} {k j i : Nat} {v : fxR} (hk : 20 ≤ k) (he : fx_ek k = 4 ∨ fx_ek k = 5 ∨ fx_ek k = 6) : fx_cell aC ad (fx_wr h k j i (some v)) (k, j) = .inl (aC (fx_ek k), h.2.1 k j, .inr (.inr (.inr (.inr (va_up (fun s => (h.2.2.1 k j s).map ad) i (some (ad v))))))) := by
  rw [fx_cell_a hk]
  have e : (fun s => ((fx_wr h k j i (some v)).2.2.1 k j s).map ad) = va_up (fun s => (h.2.2.1 k j s).map ad) i (some (ad v)) := by
    funext s
    simp only [fx_wr, fx_up_eq, va_up]
    split <;> rfl
  unfold fx_ad
  rcases he with q | q | q <;> rw [q] <;> simp only [e] <;> rfl
theorem fx_wa_a {aC : Nat → ClassId} {ad : fxR → Nat} {h : fxH} {k j : Nat} {g : Nat → Int32} (hk : 20 ≤ k) (he : fx_ek k = 0) : fx_cell aC ad (fx_wa h k j g) (k, j) = .inl (aC (fx_ek k), h.2.1 k j, .inl g) := by
  rw [fx_cell_a hk]
  unfold fx_ad
  rw [he]
  simp only [fx_wa, fx_all_eq]
theorem fx_wi_ne {aC : Nat → ClassId} {ad : fxR → Nat} {h : fxH} {k j i : Nat} {v : Int32} {r : fxR} (hr : r ≠ (k, j)) : fx_cell aC ad (fx_wi h k j i v) r = fx_cell aC ad h r := fx_cell_congr rfl rfl (fx_up_ne _ _ (fx_rne hr)) rfl
theorem fx_wl_ne {aC : Nat → ClassId} {ad : fxR → Nat} {h : fxH} {k j i : Nat} {v : Int64} {r : fxR} (hr : r ≠ (k, j)) : fx_cell aC ad (fx_wl h k j i v) r = fx_cell aC ad h r := fx_cell_congr rfl rfl rfl (fx_up_ne _ _ (fx_rne hr))
theorem fx_wr_ne {aC : Nat → ClassId} {ad : fxR → Nat} {h : fxH} {k j i : Nat} {v : Option fxR} {r : fxR} (hr : r ≠ (k, j)) : fx_cell aC ad (fx_wr h k j i v) r = fx_cell aC ad h r := fx_cell_congr rfl (fx_up_ne _ _ (fx_rne hr)) rfl rfl
theorem fx_wa_ne {aC : Nat → ClassId} {ad : fxR → Nat} {h : fxH} {k j : Nat} {g : Nat → Int32} {r : fxR} (hr : r ≠ (k, j)) : fx_cell aC ad (fx_wa h k j g) r = fx_cell aC ad h r := fx_cell_congr rfl rfl (fx_all_ne _ _ (fx_rne hr)) rfl
theorem fx_Xh_i {X : fxX} {ad : fxR → Nat} {h : fxH} {k j i : Nat} {v : Int32} (hk : k < 90) (hX : fx_Xh X ad h) : fx_Xh X ad (fx_wi h k j i v) := by
  obtain ⟨a1, a2, a3, a4, a5, a6, a7, a8⟩ := hX
  refine ⟨a1, a2, fun t => ?_, a4, a5, a6, fun t => ?_, a8⟩
  · rw [← a3 t]
    exact congrFun (fx_up_ne _ _ (fun z => by omega)) t
  · rw [← a7 t]
    exact congrFun (fx_up_ne _ _ (fun z => by omega)) t
theorem fx_Xh_a {X : fxX} {ad : fxR → Nat} {h : fxH} {k j : Nat} {g : Nat → Int32} (hk : k < 90) (hX : fx_Xh X ad h) : fx_Xh X ad (fx_wa h k j g) := by
  obtain ⟨a1, a2, a3, a4, a5, a6, a7, a8⟩ := hX
  refine ⟨a1, a2, fun t => ?_, a4, a5, a6, fun t => ?_, a8⟩
  · rw [← a3 t]
    exact congrFun (fx_all_ne _ _ (fun z => by omega)) t
  · rw [← a7 t]
    exact congrFun (fx_all_ne _ _ (fun z => by omega)) t
theorem fx_refs_r {h : fxH} {k j i : Nat} {v : Option fxR} (hr : ∀ k j t r, j < h.1 k → h.2.2.1 k j t = some r → r.2 < h.1 r.1) (hv : fx_ok h (.inr (.inr v))) : ∀ a b t r, b < (fx_wr h k j i v).1 a → (fx_wr h k j i v).2.2.1 a b t = some r → r.2 < (fx_wr h k j i v).1 r.1 := by
  intro a b t r hb e
  by_cases z : a = k ∧ b = j
  · obtain ⟨rfl, rfl⟩ := z
    simp only [fx_wr, fx_up_eq] at e
    split at e
    · subst e
      exact hv
    · exact hr _ _ _ _ hb e
  · simp only [fx_wr] at e
    rw [fx_up_ne _ _ z] at e
    exact hr _ _ _ _ hb e
-- what is made
def fx_adn (ad : fxR → Nat) (h : fxH) (k q : Nat) : fxR → Nat := fun r => if r = (k, h.1 k) then q else ad r
theorem fx_mk_ext (ad : fxR → Nat) (h : fxH) (k n q : Nat) : fx_ext h ad (fx_mk h k n) (fx_adn ad h k q) := by
  refine ⟨fun a => ?_, fun r hr => ?_⟩
  · show h.1 a ≤ if a = k then h.1 k + 1 else h.1 a
    split
    · rename_i e
      subst e
      omega
    · exact Nat.le_refl _
  · unfold fx_adn
    rw [if_neg]
    intro e
    rw [e] at hr
    exact Nat.lt_irrefl _ hr
theorem fx_mk_cell {aC : Nat → ClassId} {ad : fxR → Nat} {h : fxH} {k n q : Nat} (hr : ∀ k j t r, j < h.1 k → h.2.2.1 k j t = some r → r.2 < h.1 r.1) {r : fxR} (h1 : r.2 < h.1 r.1) : fx_cell aC (fx_adn ad h k q) (fx_mk h k n) r = fx_cell aC ad h r := by
  have hne : ¬ (r.1 = k ∧ r.2 = h.1 k) := fun z => by rw [z.1] at h1; omega
  rw [← fx_cell_ext (fx_mk_ext ad h k n q) hr r h1]
  refine fx_cell_congr ?_ (fx_all_ne _ _ hne) (fx_all_ne _ _ hne) (fx_all_ne _ _ hne)
  show (if r.1 = k then fun b => if b = h.1 k then n else h.2.1 r.1 b else h.2.1 r.1) r.2 = h.2.1 r.1 r.2
  by_cases e : r.1 = k
  · rw [if_pos e, if_neg (fun z => hne ⟨e, z⟩)]
  · rw [if_neg e]
theorem fx_mk_len (h : fxH) (k n : Nat) : (fx_mk h k n).2.1 k (h.1 k) = n := by
  show (if k = k then fun b => if b = h.1 k then n else h.2.1 k b else h.2.1 k) (h.1 k) = n
  rw [if_pos rfl, if_pos rfl]
theorem fx_mk_cnt (h : fxH) (k n a : Nat) : (fx_mk h k n).1 a = if a = k then h.1 k + 1 else h.1 a := rfl
theorem fx_mk_He {A : Nat → Prop} {D : va_G} {aC : Nat → ClassId} {X : fxX} {ad : fxR → Nat} {L : List fxR} {h : fxH} {H H1 : Heap} {k n q : Nat} {e : va_E} (hk : k < 90) (hH : fx_He A D aC X ad L h H) (he : fx_cell aC (fx_adn ad h k q) (fx_mk h k n) (k, h.1 k) = e)
    (hP : va_P D fx_cl (fx_ws aC ad h L ++ [(q, e)]) H1) (hD : va_D A (fx_ws aC ad h L ++ [(q, e)])) : fx_He A D aC X (fx_adn ad h k q) (L ++ [(k, h.1 k)]) (fx_mk h k n) H1 := by
  obtain ⟨-, -, hL, hr, hX⟩ := hH
  have ew : fx_ws aC (fx_adn ad h k q) (fx_mk h k n) (L ++ [(k, h.1 k)]) = fx_ws aC ad h L ++ [(q, e)] := by
    unfold fx_ws
    rw [List.map_append]
    congr 1
    · refine List.map_congr_left (fun r hr1 => ?_)
      have h1 := ((hL r).mp hr1).2
      rw [fx_mk_cell hr h1, (fx_mk_ext ad h k n q).2 r h1]
    · rw [List.map_singleton, he]
      unfold fx_adn
      rw [if_pos rfl]
  refine ⟨by rw [ew]; exact hP, by rw [ew]; exact hD, fun r => ?_, fun a b t r hb e1 => ?_, ?_⟩
  · rw [List.mem_append, List.mem_singleton, hL r, fx_mk_cnt]
    constructor
    · rintro (⟨h1, h2⟩ | rfl)
      · refine ⟨h1, ?_⟩
        split
        · rename_i z
          rw [z] at h2
          omega
        · exact h2
      · exact ⟨hk, by rw [if_pos rfl]; exact Nat.lt_succ_self _⟩
    · rintro ⟨h1, h2⟩
      by_cases z : r.1 = k
      · rw [if_pos z] at h2
        by_cases z2 : r.2 = h.1 k
        · exact Or.inr (Prod.ext z z2)
        · exact Or.inl ⟨h1, by rw [z]; omega⟩
      · rw [if_neg z] at h2
        exact Or.inl ⟨h1, h2⟩
  · by_cases z : a = k ∧ b = h.1 k
    · obtain ⟨rfl, rfl⟩ := z
      have e2 : (fx_mk h a n).2.2.1 a (h.1 a) t = none := congrFun (fx_all_eq _ _ _ _) t
      rw [e2] at e1
      cases e1
    · have e2 : (fx_mk h k n).2.2.1 a b = h.2.2.1 a b := fx_all_ne _ _ z
      rw [e2] at e1
      refine Nat.lt_of_lt_of_le (hr _ _ _ _ ?_ e1) ((fx_mk_ext ad h k n q).1 _)
      rw [fx_mk_cnt] at hb
      split at hb
      · rename_i ek
        subst ek
        have : ¬ b = h.1 a := fun w => z ⟨rfl, w⟩
        omega
      · exact hb
  · obtain ⟨a1, a2, a3, a4, a5, a6, a7, a8, a9, a10⟩ := hX
    have n0 : ¬ (90 = k) := by omega
    have n1 : ¬ (91 = k) := by omega
    have n2 : ¬ (92 = k) := by omega
    refine ⟨?_, ?_, fun t => ?_, ?_, ?_, ?_, fun t => ?_, ?_, fun i hi => ?_, ?_⟩
    · rw [← a1]
      exact if_neg (fun z => n0 (congrArg Prod.fst z))
    · rw [← a2]
      show (if 90 = k then _ else h.2.1 90) 0 = _
      rw [if_neg n0]
    · rw [← a3 t]
      exact congrFun (fx_all_ne _ _ (fun z => n0 z.1)) t
    · rw [fx_mk_cnt, if_neg n0, a4]
    · rw [← a5]
      exact if_neg (fun z => n1 (congrArg Prod.fst z))
    · rw [← a6]
      show (if 91 = k then _ else h.2.1 91) 0 = _
      rw [if_neg n1]
    · rw [← a7 t]
      exact congrFun (fx_all_ne _ _ (fun z => n1 z.1)) t
    · rw [fx_mk_cnt, if_neg n1, a8]
    · rw [← a9 i hi]
      exact if_neg (fun z => n2 (congrArg Prod.fst z))
    · rw [fx_mk_cnt, if_neg n2, a10]
theorem fx_aw_spec {k e : Nat} (h : fx_aw k e = true) : 20 ≤ k ∧ k < 90 ∧ fx_ek k = e := by
  simp only [fx_aw, Bool.and_eq_true] at h
  exact ⟨Nat.le_of_ble_eq_true h.1.1, Nat.lt_succ_of_le (Nat.le_of_ble_eq_true h.1.2), Nat.eq_of_beq_eq_true h.2⟩
theorem fx_ar_spec {k e : Nat} (h : fx_ar k e = true) : 20 ≤ k ∧ k ≤ 91 ∧ fx_ek k = e := by
  simp only [fx_ar, Bool.and_eq_true] at h
  exact ⟨Nat.le_of_ble_eq_true h.1.1, Nat.le_of_ble_eq_true h.1.2, Nat.eq_of_beq_eq_true h.2⟩
theorem fx_tydef : ∀ ci, ci < 12 → ∀ s, s < fx_nf ci → defaultValue (fx_ty ci s) = (match fx_tc (fx_ty ci s) with | 1 => Value.long 0 | 2 => Value.null | _ => Value.int 0) := by decide +kernel
