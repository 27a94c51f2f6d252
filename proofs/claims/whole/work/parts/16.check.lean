/-! the tables of a method, checked by evaluation -/
def fx_finB (own : String) (ini : Bool) (e : Nat × Nat × Nat × Nat) : Bool := match fx_cl[e.2.1]? with
  | some q => !(q.2.1 e.2.2.1).2.2.2 || (ini && (q.2.1 e.2.2.1).1 == own)
  | none => false
def fx_chk1 (kd : Nat → Nat) (M : fxM) (pc : Nat) (i : Instr) : Bool :=
  (match decode M.1.2.1 pc with
  | .ok (i', n) => decide (i' = i) && (match fx_len i with | some n0 => n == n0 | none => true)
  | _ => false) &&
  (match i with
  | .putfield x => M.2.2.1.1.all (fun e => e.1 != x || fx_finB M.1.1 M.2.2.2.2.1 e)
  | .getstatic x => M.1.1 == "FoxReply$RuleReader" && x == 143
  | .checkcast x => M.1.1 == "java/util/Arrays" && x == 317
  | .invokevirtual x => match fx_lk M.2.2.1.2.1 x with
    | some y => kd y == 0 || kd y == 4
    | none => true
  | .invokespecial x => match fx_lk M.2.2.1.2.1 x with
    | some y => kd y == 1 || kd y == 3
    | none => true
  | .invokestatic x => match fx_lk M.2.2.1.2.1 x with
    | some y => kd y == 2
    | none => true
  | _ => true)
def fx_chk (kd : Nat → Nat) (M : fxM) (sz : Nat) : Bool := (List.range sz).all (fun pc => match M.2.1 pc with
  | some i => fx_chk1 kd M pc i
  | none => true)
/-- what a class' pool must say -/
def fx_Pok (Y : Nat → fxY) (own : String) (P : fxPl) : Prop :=
  (∀ e ∈ P.1, e.2.1 < 12 ∧ ∃ q, fx_cl[e.2.1]? = some q ∧ e.2.2.1 < q.2.2 ∧ Cond.fieldLink own e.1 (q.2.1 e.2.2.1).1 (q.2.1 e.2.2.1).2.1 (q.2.1 e.2.2.1).2.2.1 ∈ fx_tbl ∧ fx_tc (fx_ty e.2.1 e.2.2.1) = e.2.2.2) ∧
  (∀ e ∈ P.2.1, fx_Lok own e.1 (Y e.2)) ∧
  (∀ e ∈ P.2.2.1, fx_prok own e.1 e.2) ∧
  (∀ e ∈ P.2.2.2.1, e.2 < 12 ∧ ∃ q, fx_cl[e.2]? = some q ∧ Cond.classLink own e.1 q.1 ∈ fx_tbl) ∧
  (∀ e ∈ P.2.2.2.2.1, Cond.constant own e.1 e.2 ∈ fx_tbl) ∧
  (∀ e ∈ P.2.2.2.2.2.1, Cond.constantLong own e.1 e.2 ∈ fx_tbl) ∧
  (∀ e ∈ P.2.2.2.2.2.2, e.2 < 18 ∧ ∃ tx, (own, e.1, tx, e.2) ∈ fx_srefs)
theorem fx_ok_of {Y : Nat → fxY} {M : fxM} {sz : Nat} (hsz : ∀ pc i, M.2.1 pc = some i → pc < sz) (hP : fx_Pok Y M.1.1 M.2.2.1) (hc : fx_chk (fun y => (Y y).2.2.2.1) M sz = true) (hgs : Cond.fieldLink "FoxReply$RuleReader" 143 "FoxReply$RuleReader" "BINDS" "[I" ∈ fx_tbl) (hcc : Cond.classLink "java/util/Arrays" 317 "[I" ∈ fx_tbl) : fx_Mok M ∧ fx_Cok Y M := by
  have one : ∀ pc i, M.2.1 pc = some i → fx_chk1 (fun y => (Y y).2.2.2.1) M pc i = true := by
    intro pc i hF
    have h1 := List.all_eq_true.mp hc pc (List.mem_range.mpr (hsz pc i hF))
    rw [hF] at h1
    exact h1
  obtain ⟨P1, P2, P3, P4, P5, P6, P7⟩ := hP
  refine ⟨⟨?_, fun x ci sl t h => P1 (x, ci, sl, t) h, ?_, fun x n h => P3 (x, n) h, fun x ci h => P4 (x, ci) h, fun x v h => P5 (x, v) h, fun x v h => P6 (x, v) h, fun x j h => P7 (x, j) h, ?_, ?_⟩, ?_⟩
  · intro pc i hF
    have h := (Bool.and_eq_true_iff.mp (one pc i hF)).1
    split at h
    · rename_i i' n hd
      obtain ⟨h1, h2⟩ := Bool.and_eq_true_iff.mp h
      have e1 := of_decide_eq_true h1
      subst e1
      refine ⟨n, hd, fun n0 hn0 => ?_⟩
      rw [hn0] at h2
      exact eq_of_beq h2
    · cases h
  · intro pc x ci sl t hF hm q hq hfin
    have h := (Bool.and_eq_true_iff.mp (one pc _ hF)).2
    have h1 := List.all_eq_true.mp h (x, ci, sl, t) hm
    dsimp only at h1
    have h2 : fx_finB M.1.1 M.2.2.2.2.1 (x, ci, sl, t) = true := by
      rcases Bool.or_eq_true_iff.mp h1 with z | z
      · simp at z
      · exact z
    unfold fx_finB at h2
    dsimp only at h2
    rw [hq] at h2
    dsimp only at h2
    rw [hfin] at h2
    simp only [Bool.not_true, Bool.false_or, Bool.and_eq_true, beq_iff_eq] at h2
    exact h2
  · intro pc x hF
    have h := (Bool.and_eq_true_iff.mp (one pc _ hF)).2
    simp only [Bool.and_eq_true, beq_iff_eq] at h
    rw [h.1, h.2]
    exact hgs
  · intro pc x hF
    have h := (Bool.and_eq_true_iff.mp (one pc _ hF)).2
    simp only [Bool.and_eq_true, beq_iff_eq] at h
    rw [h.1, h.2]
    exact hcc
  · intro pc i y hF hy
    have h := (Bool.and_eq_true_iff.mp (one pc _ hF)).2
    unfold fx_cy at hy
    split at hy
    · rename_i x
      dsimp only at h
      rw [hy] at h
      refine ⟨x, ?_, P2 (x, y) (fx_lk_mem hy)⟩
      simp only [Bool.or_eq_true, beq_iff_eq] at h
      rcases h with h | h <;> rw [h] <;> rfl
    · rename_i x
      dsimp only at h
      rw [hy] at h
      refine ⟨x, ?_, P2 (x, y) (fx_lk_mem hy)⟩
      simp only [Bool.or_eq_true, beq_iff_eq] at h
      rcases h with h | h <;> rw [h] <;> rfl
    · rename_i x
      dsimp only at h
      rw [hy] at h
      refine ⟨x, ?_, P2 (x, y) (fx_lk_mem hy)⟩
      simp only [beq_iff_eq] at h
      rw [h]
      rfl
    · cases hy
