/-! rules read whole: the reference -/
abbrev fxQ3 : Type := Nat ⊕ (Nat × Nat × List Nat × Option (List Nat))
def vRi (T : Nat → Int32) (n p P : Nat) : fxQ3 := match vSu T n (lx_rn lx_L T n p) P with
  | .inl f => .inl f
  | .inr (p1, P1, xs) => if lx_wk T n (lx_rn lx_S T n p1) = 26982 then (match rdT T n (n + 1) (lx_rn lx_L T n (lx_rn lx_S T n p1)) P1 [] [] with
    | .inl f => .inl f
    | .inr (p2, P2, ys) => .inr (p2, P2, xs, some ys)) else .inr (lx_rn lx_S T n p1, P1, xs, none)
def vC1 (T : Nat → Int32) (n p P c : Nat) : fxQ3 := if lx_wk T n (lx_rn lx_S T n p) = 1919509605 then (if c = 12 then .inl (5 + 8 * lx_rn lx_S T n p) else vRi T n (lx_rn lx_S T n p) P) else .inl (1 + 8 * lx_rn lx_S T n p)
def rdR (T : Nat → Int32) (n : Nat) : Nat → Nat → Nat → fxRl → Nat ⊕ fxRl
  | 0, _, _, _ => .inl 0
  | k + 1, p, P, R => match vC1 T n p P R.length with
    | .inl f => .inl f
    | .inr (p1, P1, xs, o) => if lx_rn lx_S T n p1 < n ∧ T (lx_rn lx_S T n p1) = nI 59 then rdR T n k (lx_rn lx_S T n p1 + 1) P1 (R ++ [(xs, o)]) else if lx_rn lx_S T n p1 < n then .inl (1 + 8 * lx_rn lx_S T n p1) else .inr (R ++ [(xs, o)])
def flt : fxRl → List Nat
  | [] => []
  | (s, o) :: r => s ++ (o.getD [] ++ flt r)
theorem flt_snoc (R : fxRl) (s : List Nat) (o : Option (List Nat)) : flt (R ++ [(s, o)]) = flt R ++ (s ++ o.getD []) := by
  induction R with
  | nil =>
    show s ++ (o.getD [] ++ []) = [] ++ (s ++ o.getD [])
    rw [List.append_nil, List.nil_append]
  | cons z r ih =>
    obtain ⟨s2, o2⟩ := z
    show s2 ++ (o2.getD [] ++ flt (r ++ [(s, o)])) = s2 ++ (o2.getD [] ++ flt r) ++ (s ++ o.getD [])
    rw [ih, List.append_assoc, List.append_assoc]
/-- where a rule's clauses are marked -/
def mkC (hi : fxI3) (a q : Nat) (s : List Nat) (o : Option (List Nat)) : Prop := hi 53 0 a = nI q ∧ hi 53 0 (a + 1) = nI (q + s.length) ∧ hi 53 0 (a + 2) = (match o with | none => -1 | some _ => nI (q + s.length)) ∧ hi 53 0 (a + 3) = nI (q + s.length + (o.getD []).length)
def RMa (hi : fxI3) (t : Nat) : fxRl → Nat → Nat → Prop
  | [], _, _ => True
  | (s, o) :: r, c, q => mkC hi (48 * t + 4 * c) q s o ∧ RMa hi t r (c + 1) (q + s.length + (o.getD []).length)
theorem RMa_snoc {hi hi' : fxI3} {t : Nat} {s : List Nat} {o : Option (List Nat)} : ∀ (R : fxRl) (c q : Nat), RMa hi t R c q → (∀ x, x < 48 * t + 4 * (c + R.length) → hi' 53 0 x = hi 53 0 x) → mkC hi' (48 * t + 4 * (c + R.length)) (q + (flt R).length) s o → RMa hi' t (R ++ [(s, o)]) c q
  | [], c, q, _, _, h => ⟨h, trivial⟩
  | (s2, o2) :: r, c, q, h, hf, hm => by
    obtain ⟨⟨h1, h2, h3, h4⟩, h5⟩ := h
    rw [List.length_cons] at hf hm
    refine ⟨⟨(hf _ (by omega)).trans h1, (hf _ (by omega)).trans h2, (hf _ (by omega)).trans h3, (hf _ (by omega)).trans h4⟩, ?_⟩
    refine RMa_snoc r (c + 1) _ h5 (fun x hx => hf x (by omega)) ?_
    rw [show c + 1 + r.length = c + (r.length + 1) by omega]
    have e : (flt ((s2, o2) :: r)).length = s2.length + ((o2.getD []).length + (flt r).length) := by
      show (s2 ++ (o2.getD [] ++ flt r)).length = _
      rw [List.length_append, List.length_append]
    rw [e] at hm
    rw [show q + s2.length + (o2.getD []).length + (flt r).length = q + (s2.length + ((o2.getD []).length + (flt r).length)) by omega]
    exact hm
def FrU (t : Nat) (hi hi' : fxI3) : Prop := ∀ k j s, ¬ (k = 11 ∧ (s = 8 ∨ s = 9 ∨ s = 10 ∨ s = 12 ∨ s = 13 ∨ s = 14 ∨ s = 16)) → ¬ (k = 52 ∧ s = t) → ¬ (k = 51 ∧ 400 * t ≤ s) → k ≠ 56 → ¬ (k = 53 ∧ 48 * t ≤ s) → ¬ (k = 54 ∧ s = t) → hi' k j s = hi k j s
theorem FrU.rf (t : Nat) (hi : fxI3) : FrU t hi hi := fun _ _ _ _ _ _ _ _ _ => rfl
theorem FrU.tr {t : Nat} {a b c : fxI3} (h : FrU t a b) (g : FrU t b c) : FrU t a c := fun k j s h1 h2 h3 h4 h5 h6 => (g k j s h1 h2 h3 h4 h5 h6).trans (h k j s h1 h2 h3 h4 h5 h6)
theorem FrO.u {t : Nat} {a b : fxI3} (h : FrO t a b) : FrU t a b := fun k j s h1 h2 h3 h4 _ _ => h k j s (by omega) h2 h3 h4
theorem FrU.up {t : Nat} (hi : fxI3) {k j s : Nat} (x : Int32) (h : k = 11 ∧ (s = 8 ∨ s = 9 ∨ s = 10 ∨ s = 12 ∨ s = 13 ∨ s = 14 ∨ s = 16) ∨ k = 52 ∧ s = t ∨ k = 53 ∧ 48 * t ≤ s ∨ k = 54 ∧ s = t) : FrU t hi (fx_up hi k j s x) := fun k' j' s' h1 h2 h3 h4 h5 h6 => up_off hi x (fun z => by
  obtain ⟨z1, _, z3⟩ := z
  subst z1; subst z3
  rcases h with h | h | h | h
  · exact h1 h
  · exact h2 h
  · exact h5 h
  · exact h6 h)
theorem TM.fu {hi hi' : fxI3} {n t : Nat} {T : Nat → Int32} (h : TM hi n T) (f : FrU t hi hi') : TM hi' n T := ⟨h.1, (f 11 0 1 (by omega) (by omega) (by omega) (by omega) (by omega) (by omega)).trans h.2.1, fun i hi2 => (f 50 0 i (by omega) (by omega) (by omega) (by omega) (by omega) (by omega)).trans (h.2.2 i hi2)⟩
def RiP (σ : fxS) (hi : fxI3) (hl : fxL3) (t c : Nat) (L : List Nat) (res : fxQ3) : Option fxV → fxH → Prop := fun r2 h2 => match res with
  | .inl f => r2 = some (vi 0) ∧ ∃ hi', h2 = hp σ hi' hl ∧ FrU t hi hi' ∧ hi' 11 0 9 = nI f
  | .inr (p', P', xs, o) => r2 = some (vi 1) ∧ ∃ hi', h2 = hp σ hi' hl ∧ FrU t hi hi' ∧ RSt hi' t p' P' (L ++ (xs ++ o.getD [])) ∧ hi' 54 0 t = nI (c + 1) ∧ mkC hi' (48 * t + 4 * c) L.length xs o ∧ (∀ s, s < 48 * t + 4 * c → hi' 53 0 s = hi 53 0 s) ∧ hi' 11 0 14 = hi 11 0 14
def RiR (D y : Nat) (av : List fxV) (σ : fxS) (hi : fxI3) (hl : fxL3) (t c : Nat) (L : List Nat) (res : fxQ3) : Prop := match res with
  | .inl f => ∃ hi', fx_Ga D y av (hp σ hi hl) (some (vi 0)) (hp σ hi' hl) ∧ FrU t hi hi' ∧ hi' 11 0 9 = nI f
  | .inr (p', P', xs, o) => ∃ hi', fx_Ga D y av (hp σ hi hl) (some (vi 1)) (hp σ hi' hl) ∧ FrU t hi hi' ∧ RSt hi' t p' P' (L ++ (xs ++ o.getD [])) ∧ hi' 54 0 t = nI (c + 1) ∧ mkC hi' (48 * t + 4 * c) L.length xs o ∧ (∀ s, s < 48 * t + 4 * c → hi' 53 0 s = hi 53 0 s) ∧ hi' 11 0 14 = hi 11 0 14
theorem RiR_of {d y : Nat} {av : List fxV} {σ : fxS} {hi : fxI3} {hl : fxL3} {t c : Nat} {L : List Nat} {res : fxQ3} (M : fxM) (lv : fxLv) (hy : y < 255) (hM : (fx_Y y).2.1 = M) (hlv : fx_ent M.1.2.2.1 av = lv) (hll : (fx_sl av).length ≤ M.1.2.2.1) (k : fx_E (fx_Ga d) M (0, lv, [], hp σ hi hl, 0, 0) (RiP σ hi hl t c L res)) : RiR (d + 1) y av σ hi hl t c L res := by
  obtain ⟨r, h', hg, e⟩ := fx_methX (P := RiP σ hi hl t c L res) M lv hy hM hlv hll k
  match res, e with
  | .inl f, ⟨e1, hi', e2, e3⟩ =>
    subst e1
    subst e2
    exact ⟨hi', hg, e3⟩
  | .inr (p', P', xs, o), ⟨e1, hi', e2, e3⟩ =>
    subst e1
    subst e2
    exact ⟨hi', hg, e3⟩
section MRU
variable {d : Nat} {σ : fxS} {hi : fxI3} {hl : fxL3} {n p t P c : Nat} {T : Nat → Int32} {L : List Nat}
theorem m_takesWord (ht : TM hi n T) (hp1 : hi 11 0 8 = nI p) (hpn : p ≤ n) {c : Nat} (h0 : 0 < c) (hc : c < 2 ^ 56) : fx_Ga (d + 3) 154 [mO, vl (lN c)] (hp σ hi hl) (some (vi (b01 (decide (lx_wk T n (lx_rn lx_S T n p) = c))))) (hp σ (fx_up hi 11 0 8 (nI (if lx_wk T n (lx_rn lx_S T n p) = c then lx_rn lx_L T n (lx_rn lx_S T n p) else lx_rn lx_S T n p))) hl) := by
  have hw := m_isWord (d := d) (σ := σ) (hl := hl) ht hp1 hpn h0 hc
  have hqn : lx_rn lx_S T n p ≤ n := rn_le hpn
  have hpw := m_passWord (d := d) (σ := σ) (hi := fx_up hi 11 0 8 (nI (lx_rn lx_S T n p))) (hl := hl) (p := lx_rn lx_S T n p) ht (up_at _ _ _ _ _) hqn
  rw [up_up] at hpw
  refine fx_meth fx_M154 [some mO, some (vl (lN c)), none] (by decide) rfl rfl (Nat.le_of_ble_eq_true rfl) (fx_wpE [] 40 ?_)
  refine ⟨_, _, hw, bd_nf (fun h => ?_) (fun h => ?_)⟩
  · rw [decide_eq_true h, if_pos h]
    exact ⟨_, _, hpw, Or.inr rfl, rfl, rfl⟩
  · rw [decide_eq_false h, if_neg h]
    exact ⟨Or.inl rfl, rfl, rfl⟩
theorem rd52 (hr : RSt hi t p P L) (t6 : t < 6) : hi 52 0 (hi 11 0 11).toNatClampNeg = nI L.length := by
  rw [ni_cl hr.2.2.1 (by omega)]
  exact hr.2.2.2.2.1
theorem m_ride (hT : ∀ i, i < n → isB (T i)) (ht : TM hi n T) (hr : RSt hi t p P L) (h54 : hi 54 0 t = nI c) (c12 : c < 12) (hpn : p ≤ n) (t6 : t < 6) (hP : P ≤ 60) (hL : L.length ≤ p) : RiR (d + 10) 170 [mO] σ hi hl t c L (vRi T n p P) := by
  have h400 := ht.1
  obtain ⟨r1, r2, r3, r4, r5, r6⟩ := id hr
  have hpw := m_passWord (d := d + 7) (σ := σ) (hl := hl) ht r1 hpn
  have hp0 : lx_rn lx_L T n p ≤ n := rn_le hpn
  have hp1 : p ≤ lx_rn lx_L T n p := rn_ge
  refine RiR_of (d := d + 9) fx_M170 [some mO, none] (by decide) rfl rfl (Nat.le_of_ble_eq_true rfl) ?_
  unfold vRi
  generalize lx_rn lx_L T n p = p0 at hpw hp0 hp1 ⊢
  have hr0 : RSt (fx_up hi 11 0 8 (nI p0)) t p0 P L := ⟨up_at _ _ _ _ _, r2, r3, r4, r5, r6⟩
  have b6 : ∀ h : fxI3, h 11 0 11 = nI t → 0 ≤ (h 11 0 11).toInt ∧ (h 11 0 11).toInt < ((6 : Nat) : Int) := fun h e => ni_inx (n := t) (m := 6) e t6 (by decide)
  have b7 : ∀ h : fxI3, h 11 0 11 = nI t → 0 ≤ (h 11 0 11).toInt ∧ (h 11 0 11).toInt < ((7 : Nat) : Int) := fun h e => ni_inx (n := t) (m := 7) e (by omega) (by decide)
  have eA : (48 * hi 11 0 11 + 4 * hi 54 0 (hi 11 0 11).toNatClampNeg : Int32) = nI (48 * t + 4 * c) := by
    rw [r3, nI_clamp (by omega), h54]
    show nI 48 * nI t + nI 4 * nI c = _
    rw [pk_mul, pk_mul, nI_add]
  generalize hA : 48 * t + 4 * c = A at eA ⊢
  have A3 : A + 3 < 288 := by omega
  have i1 : (nI A + 1 : Int32) = nI (A + 1) := nI_1 A
  have i2 : (nI A + 2 : Int32) = nI (A + 2) := nI_add A 2
  have i3 : (nI A + 3 : Int32) = nI (A + 3) := nI_add A 3
  have bA : ∀ x : Int32, ∀ k, x = nI (A + k) → k < 4 → 0 ≤ x.toInt ∧ x.toInt < ((288 : Nat) : Int) := fun x k e h => ni_inx (n := A + k) (m := 288) e (by omega) (by decide)
  -- from the sum on
  have hr1 : RSt (fx_up (fx_up hi 11 0 8 (nI p0)) 53 0 A (nI L.length)) t p0 P L := ⟨hr0.1, r2, r3, r4, r5, r6⟩
  have F1 : FrU t hi (fx_up (fx_up hi 11 0 8 (nI p0)) 53 0 A (nI L.length)) := (FrU.up hi _ (by omega)).tr (FrU.up _ _ (by omega))
  have hsu := m_sum (d := d + 3) (σ := σ) (hl := hl) hT (ht.fu F1) hr1 hp0 t6 hP (by omega)
  have st39 : fx_E (fx_Ga (d + 9)) fx_M170 (39, [some mO, some (vi (nI A))], [], hp σ (fx_up (fx_up hi 11 0 8 (nI p0)) 53 0 A (nI L.length)) hl, 0, 0) (RiP σ hi hl t c L (match vSu T n p0 P with
    | .inl f => .inl f
    | .inr (p1, P1, xs) => if lx_wk T n (lx_rn lx_S T n p1) = 26982 then (match rdT T n (n + 1) (lx_rn lx_L T n (lx_rn lx_S T n p1)) P1 [] [] with
      | .inl f => .inl f
      | .inr (p2, P2, ys) => .inr (p2, P2, xs, some ys)) else .inr (lx_rn lx_S T n p1, P1, xs, none))) := by
    cases hv : vSu T n p0 P with
    | inl f =>
      rw [hv] at hsu
      obtain ⟨hi3, hg3, f3, e3⟩ := hsu
      exact fx_wpE [] 20 ⟨_, _, hg3, fun w => absurd rfl w, fun _ => ⟨Or.inl rfl, rfl, hi3, rfl, F1.tr f3.o.u, e3⟩⟩
    | inr z =>
      obtain ⟨p1, P1, xs⟩ := z
      obtain ⟨a1, a2, a3, a4, a5⟩ := vSu_g T n p0 P hp0 hP p1 P1 xs hv
      rw [hv] at hsu
      obtain ⟨hs, hg3, f3, hr3⟩ := hsu
      have Fs : FrU t hi hs := F1.tr f3.o.u
      obtain ⟨q1, q2, q3, q4, q5, q6⟩ := id hr3
      have e53 : ∀ s, hs 53 0 s = (fx_up (fx_up hi 11 0 8 (nI p0)) 53 0 A (nI L.length)) 53 0 s := fun s => f3 53 0 s (by omega) (by omega) (by omega)
      have e54 : hs 54 0 t = nI c := (f3 54 0 t (by omega) (by omega) (by omega)).trans h54
      have e14 : hs 11 0 14 = hi 11 0 14 := f3 11 0 14 (by omega) (by omega) (by omega)
      have hlx : (L ++ xs).length = L.length + xs.length := List.length_append
      have rb := rd52 hr3 t6
      generalize hh2 : fx_up (fx_up hs 53 0 (A + 1) (nI (L.length + xs.length))) 53 0 (A + 2) (-1) = h2
      have g2 : ∀ k j s, k ≠ 53 → h2 k j s = hs k j s := fun k j s hk => by rw [← hh2, up_off _ _ (by omega), up_off _ _ (by omega)]
      have c0 : h2 53 0 A = nI L.length := by rw [← hh2, up_off _ _ (by omega), up_off _ _ (by omega), e53, up_at]
      have c1 : h2 53 0 (A + 1) = nI (L.length + xs.length) := by rw [← hh2, up_off _ _ (by omega), up_at]
      have c2 : h2 53 0 (A + 2) = -1 := by rw [← hh2, up_at]
      have cb : ∀ s, s < A → h2 53 0 s = hi 53 0 s := fun s hs2 => by rw [← hh2, up_off _ _ (by omega), up_off _ _ (by omega), e53, up_off _ _ (by omega), up_off _ _ (by omega)]
      have F2 : FrU t hi h2 := by
        rw [← hh2]
        exact (Fs.tr (FrU.up _ _ (by omega))).tr (FrU.up _ _ (by omega))
      have hr2 : RSt h2 t p1 P1 (L ++ xs) := ⟨(g2 11 0 8 (by decide)).trans q1, (g2 11 0 9 (by decide)).trans q2, (g2 11 0 11 (by decide)).trans q3, (g2 11 0 12 (by decide)).trans q4, (g2 52 0 t (by decide)).trans q5, fun k hk => (g2 51 0 _ (by decide)).trans (q6 k hk)⟩
      have tw := m_takesWord (d := d + 6) (σ := σ) (hi := h2) (hl := hl) (ht.fu F2) hr2.1 a2 (c := 26982) (by decide) (by decide)
      have hqn : lx_rn lx_S T n p1 ≤ n := rn_le a2
      have hqp : p1 ≤ lx_rn lx_S T n p1 := rn_ge
      dsimp only
      generalize lx_rn lx_S T n p1 = q at tw hqn hqp ⊢
      -- the end
      have fin : ∀ (hc : fxI3) (p' P' : Nat) (o : Option (List Nat)), FrU t hi hc → RSt hc t p' P' (L ++ xs ++ o.getD []) → hc 54 0 t = nI c → hc 53 0 A = nI L.length → hc 53 0 (A + 1) = nI (L.length + xs.length) → hc 53 0 (A + 2) = (match o with | none => -1 | some _ => nI (L.length + xs.length)) → (∀ s, s < A → hc 53 0 s = hi 53 0 s) → hc 11 0 14 = hi 11 0 14 → fx_E (fx_Ga (d + 9)) fx_M170 (110, [some mO, some (vi (nI A))], [], hp σ hc hl, 0, 0) (RiP σ hi hl t c L (.inr (p', P', xs, o))) := by
        intro hc p' P' o k1 k2 k3 k4 k5 k6 k7 k8
        have rc := rd52 k2 t6
        have rt := k2.2.2.1
        have e54c : hc 54 0 (hc 11 0 11).toNatClampNeg = nI c := by rw [rt, nI_clamp (by omega)]; exact k3
        have eh : fx_up (fx_up hc 53 0 (nI A + 3).toNatClampNeg (hc 52 0 (hc 11 0 11).toNatClampNeg)) 54 0 (hc 11 0 11).toNatClampNeg (hc 54 0 (hc 11 0 11).toNatClampNeg + 1) = fx_up (fx_up hc 53 0 (A + 3) (nI (L ++ xs ++ o.getD []).length)) 54 0 t (nI (c + 1)) := by
          rw [ni_cl i3 (by omega), rc, e54c, nI_1, rt, nI_clamp (by omega)]
        have done : RiP σ hi hl t c L (.inr (p', P', xs, o)) (some (vi 1)) (hp σ (fx_up (fx_up hc 53 0 (A + 3) (nI (L ++ xs ++ o.getD []).length)) 54 0 t (nI (c + 1))) hl) := by
          have gg : ∀ k j s, k ≠ 53 → k ≠ 54 → fx_up (fx_up hc 53 0 (A + 3) (nI (L ++ xs ++ o.getD []).length)) 54 0 t (nI (c + 1)) k j s = hc k j s := fun k j s h1 h2 => by rw [up_off _ _ (by omega), up_off _ _ (by omega)]
          obtain ⟨w1, w2, w3, w4, w5, w6⟩ := k2
          refine ⟨rfl, _, rfl, (k1.tr (FrU.up _ _ (by omega))).tr (FrU.up _ _ (by omega)), ?_, up_at _ _ _ _ _, ?_, fun s hs2 => ?_, (gg 11 0 14 (by decide) (by decide)).trans k8⟩
          · rw [← List.append_assoc]
            exact ⟨(gg 11 0 8 (by decide) (by decide)).trans w1, (gg 11 0 9 (by decide) (by decide)).trans w2, (gg 11 0 11 (by decide) (by decide)).trans w3, (gg 11 0 12 (by decide) (by decide)).trans w4, (gg 52 0 t (by decide) (by decide)).trans w5, fun k hk => (gg 51 0 _ (by decide) (by decide)).trans (w6 k hk)⟩
          · rw [hA]
            refine ⟨?_, ?_, ?_, ?_⟩
            · rw [up_off _ _ (by omega), up_off _ _ (by omega)]
              exact k4
            · rw [up_off _ _ (by omega), up_off _ _ (by omega)]
              exact k5
            · rw [up_off _ _ (by omega), up_off _ _ (by omega)]
              exact k6
            · rw [up_off _ _ (by omega), up_at, List.length_append, hlx]
          · rw [up_off _ _ (by omega), up_off _ _ (by omega)]
            exact k7 s (by omega)
        rw [← eh] at done
        exact fx_wpE [] 60 ⟨b7 hc rt, bA _ 3 i3 (by decide), b6 hc rt, b6 hc rt, Or.inr rfl, done⟩
      have st74 : fx_E (fx_Ga (d + 9)) fx_M170 (74, [some mO, some (vi (nI A))], [], hp σ h2 hl, 0, 0) (RiP σ hi hl t c L (if lx_wk T n q = 26982 then (match rdT T n (n + 1) (lx_rn lx_L T n q) P1 [] [] with
        | .inl f => .inl f
        | .inr (p2, P2, ys) => .inr (p2, P2, xs, some ys)) else .inr (q, P1, xs, none))) := by
        have e54h : h2 54 0 t = nI c := (g2 54 0 t (by decide)).trans e54
        have e14h : h2 11 0 14 = hi 11 0 14 := (g2 11 0 14 (by decide)).trans e14
        by_cases hI : lx_wk T n q = 26982
        · rw [if_pos hI]
          rw [decide_eq_true hI, if_pos hI] at tw
          have w1 := wk_0 (by decide) hI
          have w2 : lx_rn lx_L T n q ≤ n := rn_le hqn
          generalize lx_rn lx_L T n q = e at tw w1 w2 ⊢
          have hr3b : RSt (fx_up (fx_up h2 11 0 8 (nI e)) 53 0 (A + 2) (nI (L.length + xs.length))) t e P1 (L ++ xs) := ⟨(up_off _ _ (by omega)).trans (up_at _ _ _ _ _), hr2.2.1, hr2.2.2.1, hr2.2.2.2.1, hr2.2.2.2.2.1, hr2.2.2.2.2.2⟩
          have F3 : FrU t hi (fx_up (fx_up h2 11 0 8 (nI e)) 53 0 (A + 2) (nI (L.length + xs.length))) := (F2.tr (FrU.up _ _ (by omega))).tr (FrU.up _ _ (by omega))
          have hte := m_tested (d := d) (σ := σ) (hl := hl) hT (ht.fu F3) hr3b w2 t6 a4 (by rw [hlx]; omega)
          have rb2 := rd52 hr2 t6
          have eh : fx_up (fx_up h2 11 0 8 (nI e)) 53 0 (nI A + 2).toNatClampNeg (h2 52 0 (h2 11 0 11).toNatClampNeg) = fx_up (fx_up h2 11 0 8 (nI e)) 53 0 (A + 2) (nI (L.length + xs.length)) := by
            rw [ni_cl i2 (by omega), rb2, hlx]
          have st101 : fx_E (fx_Ga (d + 9)) fx_M170 (101, [some mO, some (vi (nI A))], [], hp σ (fx_up (fx_up h2 11 0 8 (nI e)) 53 0 (A + 2) (nI (L.length + xs.length))) hl, 0, 0) (RiP σ hi hl t c L (match rdT T n (n + 1) e P1 [] [] with
            | .inl f => .inl f
            | .inr (p2, P2, ys) => .inr (p2, P2, xs, some ys))) := by
            cases hv2 : rdT T n (n + 1) e P1 [] [] with
            | inl f =>
              rw [hv2] at hte
              obtain ⟨hi4, hg4, f4, e4⟩ := hte
              exact fx_wpE [110] 20 ⟨_, _, hg4, fun w => absurd rfl w, fun _ => ⟨Or.inl rfl, rfl, hi4, rfl, F3.tr f4.u, e4⟩⟩
            | inr z =>
              obtain ⟨p2, P2, ys⟩ := z
              rw [hv2] at hte
              obtain ⟨hi4, hg4, f4, hr4⟩ := hte
              have x53 : ∀ s, hi4 53 0 s = (fx_up (fx_up h2 11 0 8 (nI e)) 53 0 (A + 2) (nI (L.length + xs.length))) 53 0 s := fun s => f4 53 0 s (by omega) (by omega) (by omega) (by omega)
              refine fx_wpE [110] 20 ⟨_, _, hg4, fun _ => fin hi4 p2 P2 (some ys) (F3.tr f4.u) hr4 ?_ ?_ ?_ ?_ ?_ ?_, fun w => absurd (fun z => absurd z (by decide)) w⟩
              · rw [f4 54 0 t (by omega) (by omega) (by omega) (by omega)]
                exact e54h
              · rw [x53, up_off _ _ (by omega), up_off _ _ (by omega)]
                exact c0
              · rw [x53, up_off _ _ (by omega), up_off _ _ (by omega)]
                exact c1
              · rw [x53, up_at]
              · intro s hs2
                rw [x53, up_off _ _ (by omega), up_off _ _ (by omega)]
                exact cb s hs2
              · rw [f4 11 0 14 (by omega) (by omega) (by omega) (by omega)]
                exact e14h
          rw [← eh] at st101
          exact fx_wpE [101] 40 ⟨_, _, tw, b01_if (fun z => by cases z) (fun _ => ⟨b7 h2 hr2.2.2.1, bA _ 2 i2 (by decide), st101⟩)⟩
        · rw [if_neg hI]
          rw [decide_eq_false hI, if_neg hI] at tw
          have hr3b : RSt (fx_up h2 11 0 8 (nI q)) t q P1 (L ++ xs ++ (none : Option (List Nat)).getD []) := by
            show RSt _ t q P1 (L ++ xs ++ [])
            rw [List.append_nil]
            exact ⟨up_at _ _ _ _ _, hr2.2.1, hr2.2.2.1, hr2.2.2.2.1, hr2.2.2.2.2.1, hr2.2.2.2.2.2⟩
          exact fx_wpE [110] 40 ⟨_, _, tw, b01_if (fun _ => fin _ q P1 none (F2.tr (FrU.up _ _ (by omega))) hr3b e54h c0 c1 c2 cb e14h) (fun z => by cases z)⟩
      rw [← hh2] at st74
      have eh : fx_up (fx_up hs 53 0 (nI A + 1).toNatClampNeg (hs 52 0 (hs 11 0 11).toNatClampNeg)) 53 0 (nI A + 2).toNatClampNeg (-1) = fx_up (fx_up hs 53 0 (A + 1) (nI (L.length + xs.length))) 53 0 (A + 2) (-1) := by
        rw [ni_cl i1 (by omega), ni_cl i2 (by omega), rb, hlx]
      rw [← eh] at st74
      exact fx_wpE [74] 60 ⟨_, _, hg3, fun _ => ⟨b7 hs q3, bA _ 1 i1 (by decide), bA _ 2 i2 (by decide), st74⟩, fun w => absurd (fun z => absurd z (by decide)) w⟩
  have eh : fx_up (fx_up hi 11 0 8 (nI p0)) 53 0 (48 * hi 11 0 11 + 4 * hi 54 0 (hi 11 0 11).toNatClampNeg : Int32).toNatClampNeg (hi 52 0 (hi 11 0 11).toNatClampNeg) = fx_up (fx_up hi 11 0 8 (nI p0)) 53 0 A (nI L.length) := by
    rw [ni_cl eA (by omega), rd52 hr t6]
  rw [← eh, ← eA] at st39
  exact fx_wpE [39] 60 ⟨_, _, hpw, b6 hi r3, b7 hi r3, bA _ 0 eA (by decide), st39⟩
end MRU
