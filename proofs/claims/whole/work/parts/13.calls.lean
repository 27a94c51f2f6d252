/-! contracts out of the abstract machine -/
def fx_Pc (A : Nat → Prop) (D : va_G) (aC : Nat → ClassId) (X : fxX) (av : List fxV) (ad : fxR → Nat) (L : List fxR) (h : fxH) : Array Value → State → Prop := fun v U =>
  v = (av.map (fx_cv ad)).toArray ∧ (∀ v ∈ av, fx_ok h v) ∧ fx_He A D aC X ad L h U.heap ∧ va_K D fx_cl (fx_tys aC) U ∧ fx_Xs X A U ∧ ∀ q, U.heap.size ≤ q → A q
def fx_Qc (A : Nat → Prop) (D : va_G) (aC : Nat → ClassId) (X : fxX) (ad : fxR → Nat) (h : fxH) (r : Option fxV) (h' : fxH) : Array Value → State → Outcome → State → Prop := fun _ st o t =>
  ∃ (ad' : fxR → Nat) (L' : List fxR), o = .returned (r.map (fx_cv ad')) ∧ fx_He A D aC X ad' L' h' t.heap ∧ fx_ext h ad h' ad' ∧ (∀ v, r = some v → fx_ok h' v) ∧ va_F A st t
theorem fx_Pc_blind {A : Nat → Prop} {D : va_G} {aC : Nat → ClassId} {X : fxX} {av : List fxV} {ad : fxR → Nat} {L : List fxR} {h : fxH} : FrameBlind (fx_Pc A D aC X av ad L h) := by
  intro a U g mk hU
  obtain ⟨h1, h2, h3, h4, h5, h6⟩ := hU
  exact ⟨h1, h2, h3, va_K.moved (u := U) (U := U.calling g mk a) (Vm.Alike.refl U.vm) h4, fx_Xs_blind g mk a h5, h6⟩
def fx_room (d mc ms : Nat) : Room := { frames := d + 1, cells := mc, slots := ms, locals := 60 + 200 * d }
section FXC
variable {p : Program} {l : Launch} {e : Env} {R : Room} {s : State} {m : MethodId} {args : Array Value} {below : List Frame} {meth : Method} {c0 : Code} {Q : State → Prop}
variable {A : Nat → Prop} {D : va_G} {aC : Nat → ClassId} {X : fxX} {M : fxM}
theorem fx_callk {H : Heap} {locs : List Loc} {c n mc ms pc : Nat} {ls : Array Slot} {st0 rest : List Value} {a : Array Value} {ad : fxR → Nat} {h h' : fxH} {r : Option fxV} (hr : va_Run p l e R s m args below meth c0 H locs c n mc ms (F0 m pc ls st0) rest (fx_Qc A D aC X ad h r h' a) A) (hS : va_S A s.heap H locs)
    (kk : ∀ (ad' : fxR → Nat) (L' : List fxR) (H1 : Heap) (locs1 : List Loc), fx_He A D aC X ad' L' h' H1 → fx_ext h ad h' ad' → (∀ v, r = some v → fx_ok h' v) → va_S A s.heap H1 locs1 → W p l e R s m args below meth c0 H1 locs1 (c + mc) (n + ms) Q (F0 m (pc + 3) ls ((r.map (fx_cv ad')).toList ++ rest))) : W p l e R s m args below meth c0 H locs c n Q (F0 m pc ls st0) := by
  intro T hT X0
  obtain ⟨v, st₀, t, T', L, h0, X', hL, e1, e2, ⟨ad', L', hv, hH, hx, hok, hz, hk⟩, st⟩ := hr T hT X0
  cases hv
  rw [h0] at hz hk
  obtain ⟨t2, a1, b1⟩ := kk ad' L' T'.heap (locs ++ L) (by rw [e1]; exact hH) hx hok
    ⟨Nat.le_trans hS.1 (by rw [e1]; exact hz), fun q h1 h2 => by rw [e1, hk q (Nat.lt_of_lt_of_le h1 hS.1) h2]; exact hS.2.1 q h1 h2, fun q hq => by
      rcases List.mem_append.mp hq with h | h
      · exact hS.2.2 q h
      · exact hL q h⟩ T' rfl X'
  exact ⟨t2, st t2 a1, b1⟩
/-- the callee's side: its name, its tables, how it is called -/
abbrev fxY : Type := MethodName × fxM × Nat × Nat × Nat
/-- (name, tables, how many parameters, 0 virtual 1 constructor 2 static 3 a nest mate's constructor, the receiver's class) -/
def fx_Yok (y : fxY) : Prop :=
  Cond.code y.1 y.2.1.1.2.1 y.2.1.1.2.2.1 y.2.1.1.2.2.2 ∈ fx_tbl ∧ y.1.cls = y.2.1.1.1 ∧ plainName y.1.cls = true ∧ Cond.initialized y.1.cls ∈ fx_tbl ∧ (y.1.cls ≠ "java/lang/invoke/MethodHandle" ∧ y.1.cls ≠ "java/lang/invoke/VarHandle" ∧ (parseMethodDescriptor y.1.desc).map (fun d => d.parameters.length) = some y.2.2.1) ∧ y.2.1.1.2.2.1 ≤ 100 ∧
  (y.2.1.2.2.2.2.1 = true → y.1.name = "<init>") ∧
  (match y.2.2.2.1 with
  | 0 => Cond.instanceMethod y.1 ∈ fx_tbl ∧ Cond.selects y.1.cls y.1 y.1 ∈ fx_tbl ∧ y.2.2.2.2 < 12 ∧ ∃ q, fx_cl[y.2.2.2.2]? = some q ∧ q.1 = y.1.cls
  | 1 => Cond.instanceMethod y.1 ∈ fx_tbl ∧ y.1.name = "<init>" ∧ y.2.1.1.2.2.2 = none
  | 2 => Cond.static y.1 ∈ fx_tbl
  | 3 => Cond.instanceMethod y.1 ∈ fx_tbl ∧ y.1.name = "<init>" ∧ y.2.1.1.2.2.2 = none
  | 4 => Cond.instanceMethod y.1 ∈ fx_tbl ∧ Cond.selects y.1.cls y.1 y.1 ∈ fx_tbl ∧ y.1.cls = "java/lang/String"
  | _ => False)
/-- the caller's side: its pool's entry is that method -/
def fx_Lok (own : String) (x : Nat) (y : fxY) : Prop := match y.2.2.2.1 with
  | 3 => ∃ host, (own, x, y.1, host) ∈ fx_nests
  | _ => Cond.methodLink own x y.1 ∈ fx_tbl
def fx_ins (k x : Nat) : Instr := match k with
  | 0 => .invokevirtual x
  | 4 => .invokevirtual x
  | 2 => .invokestatic x
  | _ => .invokespecial x
/-- how many values the call takes -/
def fx_na (y : fxY) : Nat := match y.2.2.2.1 with
  | 2 => y.2.2.1
  | _ => y.2.2.1 + 1
def fx_rcv (y : fxY) (av : List fxV) : Prop := match y.2.2.2.1 with
  | 0 => ∃ j t, av = .inr (.inr (some (y.2.2.2.2, j))) :: t
  | 2 => True
  | 4 => ∃ j t, av = .inr (.inr (some (92, j))) :: t
  | _ => ∃ k j t, av = .inr (.inr (some (k, j))) :: t
theorem fx_call {d : Nat} {y : fxY} (C : fx_Cx p R s m args meth c0 A D aC X M) (K : fx_Mok M) (Yk : fx_Yok y) (hR : d + 2 ≤ R.frames ∧ 60 + 200 * (d + 1) ≤ R.locals) {pc x c n : Nat} (hF : M.2.1 pc = some (fx_ins y.2.2.2.1 x)) (Lk : fx_Lok M.1.1 x y) {av rest : List fxV} {ad : fxR → Nat} {L : List fxR} {h h' : fxH} {r : Option fxV} {lv : fxLv} {H : Heap} {locs : List Loc} {ls : Array Slot}
    (hM : Met l y.1 (Cond.code y.1 y.2.1.1.2.1 y.2.1.1.2.2.1 y.2.1.1.2.2.2 :: fx_tbl) (fx_room d y.2.1.2.2.2.2.2.1 y.2.1.2.2.2.2.2.2) (fx_Pc A D aC X av ad L h) (fx_Qc A D aC X ad h r h') y.2.1.2.2.2.2.2.1 y.2.1.2.2.2.2.2.2 A)
    (hlen : av.length = fx_na y) (h8 : (rest.map fx_cat).sum ≤ 8) (hrc : fx_rcv y av) (hc : c + y.2.1.2.2.2.2.2.1 ≤ M.2.2.2.2.2.1) (hn : n + y.2.1.2.2.2.2.2.2 ≤ M.2.2.2.2.2.2) (I : fx_Inv s A D aC X M.1.2.2.1 ad L h lv (av.reverse ++ rest) H locs ls)
    (k : fx_K p l e R s m args below meth c0 Q A D aC X M.1.2.2.1 ad h (pc + 3, lv, r.toList ++ rest, h', c + y.2.1.2.2.2.2.2.1, n + y.2.1.2.2.2.2.2.2)) : W p l e R s m args below meth c0 H locs c n Q (F0 m pc ls ((av.reverse ++ rest).map (fx_cv ad))) := by
  obtain ⟨he, hS, hl, hlv, hst, hln⟩ := id I
  obtain ⟨C1, C2, C3, C4, C5, C6, C7, C8, C9, C10, C11, C12, C13, C14, C15⟩ := id C
  obtain ⟨Y1, Y2, Y3, Y4, Y5, Y6, Y7, Y8⟩ := Yk
  obtain ⟨nm, M2, np, kd, ck⟩ := y
  dsimp only at *
  have hsz : (F0 m pc ls ((av.reverse ++ rest).map (fx_cv ad))).locals.size = M.1.2.2.1 := hl.1
  have hav : ∀ v ∈ av, fx_ok h v := fun v hv => hst v (List.mem_append_left _ (List.mem_reverse.mpr hv))
  have hre : ∀ v ∈ rest, fx_ok h v := fun v hv => hst v (List.mem_append_right _ hv)
  have hW8 : 2 * (F0 m pc ls ((av.reverse ++ rest).map (fx_cv ad))).monitorRoom + ((rest.map (fx_cv ad)).map fun v => v.category).sum ≤ 8 := lv_room (by rw [fx_cats]; exact h8)
  have hpre : ∀ U : State, U.heap = H → s.WarmedH U.vm → fx_Pc A D aC X av ad L h (av.map (fx_cv ad)).toArray U := fun U hU hW => ⟨rfl, hav, by rw [hU]; exact he, va_K.moved hW.alike C6, fx_Xs_moved C10 hS hU hW, fun q hq => C11 q (Nat.le_trans hS.1 (by rw [← hU]; exact hq))⟩
  have hG := fx_gi _ Y1
  have hroom : (fx_room d M2.2.2.2.2.2.1 M2.2.2.2.2.2.2).frames + 1 ≤ R.frames ∧ 8 + (M2.1.2.2.1 + 11) + (fx_room d M2.2.2.2.2.2.1 M2.2.2.2.2.2.2).locals ≤ R.locals := by
    refine ⟨?_, ?_⟩
    · exact hR.1
    · refine Nat.le_trans ?_ hR.2
      show 8 + (M2.1.2.2.1 + 11) + (60 + 200 * d) ≤ 60 + 200 * (d + 1)
      omega
  have hfit : c + M2.2.2.2.2.2.1 ≤ R.cells ∧ n + M2.2.2.2.2.2.2 ≤ R.slots := by rw [C12, C13]; exact ⟨hc, hn⟩
  have fin : ∀ st0 : List Value, (av.reverse ++ rest).map (fx_cv ad) = st0 → ∀ a : Array Value, va_Run p l e R s m args below meth c0 H locs c n M2.2.2.2.2.2.1 M2.2.2.2.2.2.2 (F0 m pc ls st0) (rest.map (fx_cv ad)) (fx_Qc A D aC X ad h r h' a) A → W p l e R s m args below meth c0 H locs c n Q (F0 m pc ls ((av.reverse ++ rest).map (fx_cv ad))) := by
    intro st0 hst0 a hrun
    rw [hst0]
    refine fx_callk hrun hS (fun ad' L' H1 locs1 hH1 hx hok hS1 => ?_)
    have kk := k ad' L' H1 locs1 ls ⟨hH1, hS1, by rw [hx.lv hlv]; exact hl, fun i v hv => hx.ok (hlv i v hv), fun v hv => ?_, hln⟩ hx
    · have e3 : (r.toList ++ rest).map (fx_cv ad') = (r.map (fx_cv ad')).toList ++ rest.map (fx_cv ad) := by
        rw [List.map_append, hx.st hre]
        cases r <;> rfl
      rw [← e3]
      exact kk
    · rcases List.mem_append.mp hv with q | q
      · cases r with
        | none => cases q
        | some w =>
          have : v = w := by simpa using q
          subst this
          exact hok _ rfl
      · exact hx.ok (hre v q)
  have S : CallFix p m c0 M.1.2.1 M.1.2.2.1 s args fx_tbl M.1.1 := ⟨C1, C2, C3, C4, C5⟩
  have hdec : decode M.1.2.1 pc = .ok (fx_ins kd x, 3) := by
    refine fx_dec K hF ?_
    unfold fx_ins
    split <;> rfl
  have hgw : ∀ w ∈ fx_tbl, GoodIn fx_tbl [w] := fun w hw z hz => by
    rw [List.mem_singleton.mp hz]
    exact ⟨hw, good_of_word (List.mem_filter.mp hw).2⟩
  unfold fx_na at hlen
  unfold fx_rcv at hrc
  unfold fx_Lok at Lk
  dsimp only at hlen hrc Lk Y8
  match kd, Y8, hlen, hrc, Lk, hdec with
  | 0, Y8, hlen, hrc, Lk, hdec =>
    obtain ⟨g1, g2, g3, q, hq, hqn⟩ := Y8
    obtain ⟨j, t, rfl⟩ := hrc
    have hj : fx_ok h (.inr (.inr (some (ck, j)))) := hav _ List.mem_cons_self
    obtain ⟨q0, hq0⟩ := fx_inL he (show ck < 90 by omega) hj
    have hw := fx_ws_at (aC := aC) (ad := ad) (h := h) hq0
    rw [fx_cell_o (show ck < 20 by omega)] at hw
    have hrv := va_recv C6 he.1 hq hw
    have e0 : ((.inr (.inr (some (ck, j))) :: t).reverse ++ rest : List fxV).map (fx_cv ad) = (t.map (fx_cv ad)).reverse ++ Value.ref (ad (ck, j)) :: rest.map (fx_cv ad) := by
      simp [List.map_reverse, fx_cv]
    refine fin _ e0 _ (va_runV (C := q.1) S hM ⟨callB_of np C5 hG rfl rfl rfl (C5 _ Y4) (C5 _ Lk) Y5 hroom, C5 _ g1, by rw [hqn]; exact C5 _ g2⟩ ⟨fx_Pc_blind, hrv, fun U hU hW => hpre U hU hW⟩ rfl (by rw [List.length_map]; simpa using hlen) hsz rfl (by rw [← e0]; exact hW8) hdec hfit)
  | 1, Y8, hlen, hrc, Lk, hdec =>
    obtain ⟨g1, g2, g3⟩ := Y8
    obtain ⟨k1, j, t, rfl⟩ := hrc
    have e0 : ((.inr (.inr (some (k1, j))) :: t).reverse ++ rest : List fxV).map (fx_cv ad) = (t.map (fx_cv ad)).reverse ++ Value.ref (ad (k1, j)) :: rest.map (fx_cv ad) := by
      simp [List.map_reverse, fx_cv]
    rw [g3] at hM Y1 hG
    refine fin _ e0 _ (va_runI S hM ⟨callB_of np C5 hG rfl rfl rfl (C5 _ Y4) (C5 _ Lk) Y5 hroom, g2, C5 _ g1⟩ ⟨fx_Pc_blind, fun U hU hW => hpre U hU hW⟩ rfl (by rw [List.length_map]; simpa using hlen) hsz rfl (by rw [← e0]; exact hW8) hdec hfit)
  | 2, Y8, hlen, hrc, Lk, hdec =>
    have e0 : (av.reverse ++ rest).map (fx_cv ad) = (av.map (fx_cv ad)).reverse ++ rest.map (fx_cv ad) := by
      simp [List.map_reverse]
    refine fin _ e0 _ (va_runS S hM ⟨callB_of np C5 hG rfl rfl rfl (C5 _ Y4) (C5 _ Lk) Y5 hroom, C5 _ Y8⟩ ⟨fx_Pc_blind, fun U hU hW => hpre U hU hW⟩ rfl (by rw [List.length_map]; simpa using hlen) hsz rfl (by rw [← e0]; exact hW8) hdec hfit)
  | 3, Y8, hlen, hrc, Lk, hdec =>
    obtain ⟨g1, g2, g3⟩ := Y8
    obtain ⟨k1, j, t, rfl⟩ := hrc
    obtain ⟨host, hho⟩ := Lk
    have e0 : ((.inr (.inr (some (k1, j))) :: t).reverse ++ rest : List fxV).map (fx_cv ad) = (t.map (fx_cv ad)).reverse ++ Value.ref (ad (k1, j)) :: rest.map (fx_cv ad) := by
      simp [List.map_reverse, fx_cv]
    rw [g3] at hM Y1 hG
    refine fin _ e0 _ (va_runIN S hM ⟨va_cnB np C5 hG rfl rfl rfl (C10.2.2.2.2.2.2.2.1 _ hho) (C5 _ Y4) Y5 hroom, g2, C5 _ g1⟩ ⟨fx_Pc_blind, fun U hU hW => hpre U hU hW⟩ rfl (by rw [List.length_map]; simpa using hlen) hsz rfl (by rw [← e0]; exact hW8) hdec hfit)
  | 4, Y8, hlen, hrc, Lk, hdec =>
    obtain ⟨g1, g2, g3⟩ := Y8
    obtain ⟨j, t, rfl⟩ := hrc
    have hj : j < h.1 92 := hav _ List.mem_cons_self
    obtain ⟨a1, a2, a3, a4, a5, a6, a7, a8, a9, a10⟩ := he.2.2.2.2
    rw [a10] at hj
    obtain ⟨cell, o1, o2, o3, o4⟩ := (C10.2.2.2.1.1 j hj).1.kept hS.2.1
    have hrv : ∃ cellB : Cell, H[ad (92, j)]? = some cellB ∧ cellB.vm.isStatics = false ∧ s.vm.findClass nm.cls = some cellB.cls := ⟨cell, by rw [a9 j hj]; exact o1, o2, by rw [g3]; exact o3⟩
    have e0 : ((.inr (.inr (some (92, j))) :: t).reverse ++ rest : List fxV).map (fx_cv ad) = (t.map (fx_cv ad)).reverse ++ Value.ref (ad (92, j)) :: rest.map (fx_cv ad) := by
      simp [List.map_reverse, fx_cv]
    refine fin _ e0 _ (va_runV (C := nm.cls) S hM ⟨callB_of np C5 hG rfl rfl rfl (C5 _ Y4) (C5 _ Lk) Y5 hroom, C5 _ g1, C5 _ g2⟩ ⟨fx_Pc_blind, hrv, fun U hU hW => hpre U hU hW⟩ rfl (by rw [List.length_map]; simpa using hlen) hsz rfl (by rw [← e0]; exact hW8) hdec hfit)
  | k + 5, Y8, _, _, _, _ => exact absurd Y8 (by simp)
end FXC
