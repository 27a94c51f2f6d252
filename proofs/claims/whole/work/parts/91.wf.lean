/-! rules that were read are whole -/
def EV (ys : List Nat) (m : Nat) : Prop := (∀ L n, n + m ≤ 60 → vDp (ys ++ L) n = vDp L (n + 1)) ∧ (∀ w, ∃ v, ∀ st L, vEv w (ys ++ L) st = vEv w L (v :: st)) ∧ ∀ x, x ∈ ys → x < 2 ^ 30
theorem EV.mo {ys : List Nat} {m m' : Nat} (h : EV ys m) (hm : m ≤ m') : EV ys m' := ⟨fun L n hn => h.1 L n (by omega), h.2⟩
theorem vDp_b {s n : Nat} (L : List Nat) (hs : 2 ≤ s ∧ s ≤ 14 ∧ s ≠ 11) : vDp (s :: L) (n + 2) = vDp L (n + 1) := by
  have e : s % 16 = s := Nat.mod_eq_of_lt (by omega)
  show (if s % 16 = 0 then _ else if s % 16 = 1 then _ else if s % 16 = 11 then _ else if s % 16 = 15 then _ else (if 2 ≤ n + 2 then vDp L (n + 2 - 1) else none)) = _
  rw [e, if_neg (by omega), if_neg (by omega), if_neg (by omega), if_neg (by omega), if_pos (by omega)]
  rfl
theorem vTk_b {s : Nat} (w : Nat → Int64) (a b : Int64) (st : List Int64) (hs : 2 ≤ s ∧ s ≤ 14 ∧ s ≠ 11) : vTk w s (b :: a :: st) = vOne s a b :: st := by
  have e : s % 16 = s := Nat.mod_eq_of_lt (by omega)
  unfold vTk
  rw [e, if_neg (by omega), if_neg (by omega), if_neg (by omega)]
theorem EV_op {xs ys : List Nat} {m1 m2 s : Nat} (hx : EV xs m1) (hy : EV ys m2) (h1 : 1 ≤ m1) (hs : 2 ≤ s ∧ s ≤ 14 ∧ s ≠ 11) : EV (xs ++ (ys ++ [s])) (m1 + m2) := by
  refine ⟨fun L n hn => ?_, fun w => ?_, fun x h => ?_⟩
  · rw [List.append_assoc, List.append_assoc, hx.1 _ n (by omega), hy.1 _ (n + 1) (by omega)]
    exact vDp_b L hs
  · obtain ⟨a, ha⟩ := hx.2.1 w
    obtain ⟨b, hb⟩ := hy.2.1 w
    refine ⟨vOne s a b, fun st L => ?_⟩
    rw [List.append_assoc, List.append_assoc, ha, hb]
    show vEv w L (vTk w s (b :: a :: st)) = _
    rw [vTk_b w a b st hs]
  · rcases List.mem_append.mp h with h | h
    · exact hx.2.2 x h
    · rcases List.mem_append.mp h with h | h
      · exact hy.2.2 x h
      · rcases List.mem_cons.mp h with h | h
        · omega
        · cases h
def gE (n : Nat) (V : Nat → Nat → fxQ) : Prop := ∀ p P p' P' ys, p ≤ n → P ≤ 60 → V p P = .inr (p', P', ys) → P < P' ∧ EV ys (P' - P)
section WF
variable {T : Nat → Int32} {n : Nat}
theorem EV_num {v : Nat} (hv : v < 100000) : EV [16 * v] 1 := by
  have e : 16 * v % 16 = 0 := Nat.mul_mod_right 16 v
  refine ⟨fun L n hn => ?_, fun w => ⟨lN v, fun st L => ?_⟩, fun x h => ?_⟩
  · show (if 16 * v % 16 = 0 then (if n < 60 then vDp L (n + 1) else none) else _) = _
    rw [if_pos e, if_pos (by omega)]
  · show vEv w L (vTk w (16 * v) st) = _
    unfold vTk
    rw [if_pos e, show 16 * v / 16 = v by omega]
  · rcases List.mem_cons.mp h with h | h
    · omega
    · cases h
theorem EV_wd {i : Nat} (hv : i < 11) : EV [1 + 16 * i] 1 := by
  have e : (1 + 16 * i) % 16 = 1 := by omega
  have e2 : (1 + 16 * i) / 16 = i := by omega
  refine ⟨fun L n hn => ?_, fun w => ⟨w i, fun st L => ?_⟩, fun x h => ?_⟩
  · show (if (1 + 16 * i) % 16 = 0 then _ else if (1 + 16 * i) % 16 = 1 then (if (1 + 16 * i) / 16 < 11 ∧ n < 60 then vDp L (n + 1) else none) else _) = _
    rw [if_neg (by omega), if_pos e, if_pos ⟨by omega, by omega⟩]
  · show vEv w L (vTk w (1 + 16 * i) st) = _
    unfold vTk
    rw [if_neg (by omega), if_pos e, e2]
  · rcases List.mem_cons.mp h with h | h
    · omega
    · cases h
theorem vV_e : gE n (vV T n) := by
  intro p P p' P' ys hp hP h
  unfold vV at h
  dsimp only at h
  have hqn : lx_rn lx_S T n p ≤ n := rn_le hp
  generalize lx_rn lx_S T n p = q at h hqn
  by_cases hD : q < n ∧ lx_D (T q) = true
  · rw [if_pos hD] at h
    by_cases h5 : 5 < lx_rn lx_D T n q - q
    · rw [if_pos h5] at h
      cases h
    rw [if_neg h5] at h
    by_cases h60 : P = 60
    · rw [if_pos h60] at h
      cases h
    rw [if_neg h60] at h
    cases h
    refine ⟨by omega, ?_⟩
    rw [show P + 1 - P = 1 by omega]
    exact EV_num (lx_nv_5 T q _ (fun i hi2 => rn_all (n := n) (p := q) (by omega) (by omega)))
  · rw [if_neg hD] at h
    cases hw : wdx (lx_wk T n q) with
    | none =>
      rw [hw] at h
      cases h
    | some i =>
      rw [hw] at h
      dsimp only at h
      by_cases h60 : P = 60
      · rw [if_pos h60] at h
        cases h
      rw [if_neg h60] at h
      cases h
      refine ⟨by omega, ?_⟩
      rw [show P + 1 - P = 1 by omega]
      exact EV_wd (wdx_lt hw)
theorem vLq_e {V : Nat → Nat → fxQ} {op : Nat → Option Nat} {sk : Nat → Nat} (hV : gQ n V) (hE : gE n V) (hsk : ∀ p, p ≤ n → p ≤ sk p ∧ sk p ≤ n) (hop : ∀ q s, op q = some s → q < n ∧ 2 ≤ s ∧ s ≤ 14 ∧ s ≠ 11) {P0 : Nat} : ∀ k p P xs p' P' zs, p ≤ n → P ≤ 60 → P0 < P → EV xs (P - P0) → vLq V op sk k p P xs = .inr (p', P', zs) → P0 < P' ∧ EV zs (P' - P0)
  | 0, p, P, xs, p', P', zs, hp, hP, h0, he, h => by
    cases h
    exact ⟨h0, he⟩
  | k + 1, p, P, xs, p', P', zs, hp, hP, h0, he, h => by
    unfold vLq at h
    cases ho : op (sk p) with
    | none =>
      rw [ho] at h
      cases h
      exact ⟨h0, he⟩
    | some s =>
      rw [ho] at h
      obtain ⟨o1, o2⟩ := hop _ _ ho
      dsimp only at h
      cases hv : V (sk p + 1) P with
      | inl f =>
        rw [hv] at h
        cases h
      | inr y =>
        obtain ⟨p2, P2, ys⟩ := y
        rw [hv] at h
        obtain ⟨g1, g2, g3, g4, g5⟩ := hV _ _ o1 hP _ _ _ hv
        obtain ⟨e1, e2⟩ := hE _ _ _ _ _ o1 hP hv
        have := EV_op he e2 (by omega) o2
        rw [show P - P0 + (P2 - P) = P2 - P0 by omega] at this
        exact vLq_e hV hE hsk hop k p2 P2 _ p' P' zs g2 g4 (by omega) this h
theorem vJn_e {V : Nat → Nat → fxQ} {op : Nat → Option Nat} {sk : Nat → Nat} (hV : gQ n V) (hE : gE n V) (hsk : ∀ p, p ≤ n → p ≤ sk p ∧ sk p ≤ n) (hop : ∀ q s, op q = some s → q < n ∧ 2 ≤ s ∧ s ≤ 14 ∧ s ≠ 11) : gE n (vJn V op sk n) := by
  intro p P p' P' ys hp hP h
  unfold vJn at h
  cases hv : V p P with
  | inl f =>
    rw [hv] at h
    cases h
  | inr y =>
    obtain ⟨p2, P2, xs⟩ := y
    rw [hv] at h
    obtain ⟨g1, g2, g3, g4, g5⟩ := hV _ _ hp hP _ _ _ hv
    obtain ⟨e1, e2⟩ := hE _ _ _ _ _ hp hP hv
    exact vLq_e hV hE hsk hop n p2 P2 xs p' P' ys g2 g4 e1 e2 h
theorem vT_e : gE n (vT T n) := vJn_e (vV_g T n) vV_e (sk_ok T n) (fun q s h => ⟨opM_lt h, by have := opM_v h; omega⟩)
theorem vSu_e : gE n (vSu T n) := vJn_e (vT_g T n) vT_e (sk_ok T n) (fun q s h => ⟨opA_lt h, by have := opA_v h; omega⟩)
/-- a comparison is yes or no -/
def EB (ys : List Nat) (m : Nat) : Prop := (∀ L n, n + m ≤ 60 → vDp (ys ++ L) n = vDp L (n + 1)) ∧ (∀ w, ∃ v, (v = 0 ∨ v = 1) ∧ ∀ st L, vEv w (ys ++ L) st = vEv w L (v :: st)) ∧ ∀ x, x ∈ ys → x < 2 ^ 30
theorem ite01 (c : Prop) [Decidable c] : (if c then (1 : Int64) else 0) = 0 ∨ (if c then (1 : Int64) else 0) = 1 := by
  by_cases h : c
  · rw [if_pos h]
    exact Or.inr rfl
  · rw [if_neg h]
    exact Or.inl rfl
theorem vOne_c {s : Nat} (hs : 6 ≤ s ∧ s ≤ 10) (a b : Int64) : vOne s a b = 0 ∨ vOne s a b = 1 := by
  rcases (show s = 6 ∨ s = 7 ∨ s = 8 ∨ s = 9 ∨ s = 10 by omega) with rfl | rfl | rfl | rfl | rfl
  · exact ite01 (a < b)
  · exact ite01 (a ≤ b)
  · exact ite01 (a = b)
  · exact ite01 (b ≤ a)
  · exact ite01 (b < a)
theorem vCm_e {p P p' P' : Nat} {ys : List Nat} (hp : p ≤ n) (hP : P ≤ 60) (h : vCm T n p P = .inr (p', P', ys)) : P < P' ∧ EB ys (P' - P) := by
  unfold vCm at h
  cases hv : vSu T n p P with
  | inl f =>
    rw [hv] at h
    cases h
  | inr y =>
    obtain ⟨p1, P1, xs⟩ := y
    rw [hv] at h
    obtain ⟨g1, g2, g3, g4, g5⟩ := vSu_g T n _ _ hp hP _ _ _ hv
    obtain ⟨e1, e2⟩ := vSu_e _ _ _ _ _ hp hP hv
    dsimp only at h
    cases hC : cmO T n (lx_rn lx_S T n p1) with
    | none =>
      rw [hC] at h
      cases h
    | some y =>
      obtain ⟨s, e⟩ := y
      rw [hC] at h
      have cl := cmO_lt hC
      dsimp only at h
      by_cases h60 : P1 = 60
      · rw [if_pos h60] at h
        cases h
      rw [if_neg h60] at h
      cases hv2 : vSu T n e (P1 + 1) with
      | inl f =>
        rw [hv2] at h
        cases h
      | inr y =>
        obtain ⟨p2, P2, zs⟩ := y
        rw [hv2] at h
        obtain ⟨k1, k2⟩ := vSu_e _ _ _ _ _ cl.2.1 (by omega) hv2
        cases h
        have hop := EV_op e2 k2 (by omega) (s := s) (by omega)
        refine ⟨by omega, (hop.mo (by omega)).1, fun w => ?_, hop.2.2⟩
        obtain ⟨a, ha⟩ := e2.2.1 w
        obtain ⟨b, hb⟩ := k2.2.1 w
        refine ⟨vOne s a b, vOne_c (by omega) a b, fun st L => ?_⟩
        rw [List.append_assoc, List.append_assoc, ha, hb]
        show vEv w L (vTk w s (b :: a :: st)) = _
        rw [vTk_b w a b st (by omega)]
end WF
