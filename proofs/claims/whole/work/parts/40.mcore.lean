/-! the reference: trying and laying back -/
def scr (k s : Nat) : Prop := k = 59 ∨ k = 60 ∨ k = 61 ∨ k = 63 ∨ k = 64 ∨ k = 65 ∨ k = 66 ∨ k = 11 ∧ (s = 18 ∨ s = 25)
def FrQ (hi hi' : fxI3) : Prop := ∀ k j s, ¬ scr k s → hi' k j s = hi k j s
def FlQ (hl hl' : fxL3) : Prop := ∀ k j s, k ≠ 57 → k ≠ 58 → ¬ (k = 11 ∧ s = 33) → hl' k j s = hl k j s
theorem FrQ.rf (hi : fxI3) : FrQ hi hi := fun _ _ _ _ => rfl
theorem FlQ.rf (hl : fxL3) : FlQ hl hl := fun _ _ _ _ _ _ => rfl
theorem FrQ.tr {a b c : fxI3} (h : FrQ a b) (g : FrQ b c) : FrQ a c := fun k j s h1 => (g k j s h1).trans (h k j s h1)
theorem FlQ.tr {a b c : fxL3} (h : FlQ a b) (g : FlQ b c) : FlQ a c := fun k j s h1 h2 h3 => (g k j s h1 h2 h3).trans (h k j s h1 h2 h3)
theorem FrP.q {a b : fxI3} (h : FrP a b) : FrQ a b := fun k j s h1 => h k j s (fun z => h1 (Or.inl z)) (fun z => h1 (Or.inr (Or.inr (Or.inl z)))) (fun z => h1 (by unfold scr; omega))
theorem FlP.q {a b : fxL3} (h : FlP a b) : FlQ a b := fun k j s h1 h2 _ => h k j s h1 h2
theorem up_at {α : Type} (f : Nat → Nat → Nat → α) (k j s : Nat) (x : α) : fx_up f k j s x k j s = x := by
  rw [fx_up_eq]
  exact if_pos rfl
theorem up_off {α : Type} (f : Nat → Nat → Nat → α) {k j s k' j' s' : Nat} (x : α) (h : ¬ (k' = k ∧ j' = j ∧ s' = s)) : fx_up f k j s x k' j' s' = f k' j' s' := by
  by_cases e : k' = k ∧ j' = j
  · obtain ⟨rfl, rfl⟩ := e
    rw [fx_up_eq]
    exact if_neg (fun z => h ⟨rfl, rfl, z⟩)
  · rw [fx_up_ne f x e]
theorem all_at {α : Type} (f : Nat → Nat → Nat → α) (k j : Nat) (g : Nat → α) : fx_all f k j g k j = g := by
  unfold fx_all
  simp
theorem FrQ.up (hi : fxI3) {k j s : Nat} (x : Int32) (h : scr k s) : FrQ hi (fx_up hi k j s x) := fun k' j' s' h1 => up_off hi x (fun z => h1 (by rw [z.1, z.2.2]; exact h))
theorem FrQ.all (hi : fxI3) {k j : Nat} (g : Nat → Int32) (h : ∀ s, scr k s) : FrQ hi (fx_all hi k j g) := fun k' j' s' h1 => congrFun (fx_all_ne hi g (a := k') (b := j') (fun z => h1 (by rw [z.1]; exact h _))) s'
theorem RMl_of {hi hi' : fxI3} (h1 : ∀ s, hi' 51 0 s = hi 51 0 s) (h3 : ∀ s, hi' 53 0 s = hi 53 0 s) {t : Nat} : ∀ (R : fxRl) (c p : Nat), RMl hi t R c p → RMl hi' t R c p
  | [], _, _, _ => trivial
  | (s, o) :: r, c, p, g => by
    obtain ⟨g1, g2, g3, g4, g5, g6, g7, g8, g9, g10, g11⟩ := g
    have tk : ∀ {p : Nat} {L : List Nat}, tokAt hi p L → tokAt hi' p L := fun g k hk => by
      rw [h1]
      exact g k hk
    exact ⟨g1, g2, (h3 _).trans g3, (h3 _).trans g4, (h3 _).trans g5, (h3 _).trans g6, tk g7, tk g8, g9, g10, RMl_of h1 h3 r _ _ g11⟩
theorem RM_of {hi hi' : fxI3} (h1 : ∀ s, hi' 51 0 s = hi 51 0 s) (h3 : ∀ s, hi' 53 0 s = hi 53 0 s) (h4 : ∀ s, hi' 54 0 s = hi 54 0 s) {t : Nat} {R : fxRl} (g : RM hi t R) : RM hi' t R := ⟨g.1, (h4 t).trans g.2.1, RMl_of h1 h3 R 0 0 g.2.2⟩
theorem FM_q {hi hi' : fxI3} (h : FrQ hi hi') {rl : Option fxRl} (g : FM hi rl) : FM hi' rl := by
  have e : hi' 11 0 21 = hi 11 0 21 := h 11 0 21 (by unfold scr; omega)
  cases rl with
  | none => exact e.trans g
  | some R =>
    obtain ⟨t, g1, g2, g3⟩ := g
    exact ⟨t, g1, e.trans g2, RM_of (fun s => h 51 0 s (by unfold scr; omega)) (fun s => h 53 0 s (by unfold scr; omega)) (fun s => h 54 0 s (by unfold scr; omega)) g3⟩
theorem WN_q {hi hi' : fxI3} (h : FrQ hi hi') (g : WM hi none) : WM hi' none := (h 11 0 23 (by unfold scr; omega)).trans g
def KP (hi : fxI3) (v : Nat → Nat) : Prop := ∀ k, k < 28 → hi 63 0 k = nI (v (10 + k)) ∧ v (10 + k) < 2 ^ 30
theorem KP.fr {hi hi' : fxI3} {v : Nat → Nat} (h : KP hi v) (f : FrP hi hi') : KP hi' v := fun k hk => ⟨(f 63 0 k (by decide) (by decide) (by simp)).trans (h k hk).1, (h k hk).2⟩
def QMP (σ : fxS) (hi : fxI3) (hl : fxL3) (v : Nat → Nat) (ans : Int32) : Option fxV → fxH → Prop := fun r2 h2 => r2 = some (vi ans) ∧ ∃ hi' hl', h2 = hp σ hi' hl' ∧ FrQ hi hi' ∧ FlQ hl hl' ∧ PM hi' v
/-- a question of the reference -/
def QM (D y : Nat) (av : List fxV) (σ : fxS) (hi : fxI3) (hl : fxL3) (v : Nat → Nat) (ans : Int32) : Prop := ∃ hi' hl', fx_Ga D y av (hp σ hi hl) (some (vi ans)) (hp σ hi' hl') ∧ FrQ hi hi' ∧ FlQ hl hl' ∧ PM hi' v
theorem QM_of {d y : Nat} {av : List fxV} {σ : fxS} {hi : fxI3} {hl : fxL3} {v : Nat → Nat} {ans : Int32} (M : fxM) (lv : fxLv) (hy : y < 255) (hM : (fx_Y y).2.1 = M) (hlv : fx_ent M.1.2.2.1 av = lv) (hll : (fx_sl av).length ≤ M.1.2.2.1) (k : fx_E (fx_Ga d) M (0, lv, [], hp σ hi hl, 0, 0) (QMP σ hi hl v ans)) : QM (d + 1) y av σ hi hl v ans := by
  obtain ⟨r, h', hg, e1, hi', hl', e2, e3, e4, e5⟩ := fx_methX M lv hy hM hlv hll k
  subst e1
  subst e2
  exact ⟨hi', hl', hg, e3, e4, e5⟩
def vTg (v : Nat → Nat) (f : Nat) : Nat → Nat := vup v (36 + f / 30) (v (36 + f / 30) ^^^ 2 ^ (f % 30))
theorem sh_30 : ∀ k, k < 30 → (1 : Int32) <<< (nI k &&& 31) = nI (2 ^ k) := by decide +kernel
theorem ni_xor (a b : Nat) : nI a ^^^ nI b = nI (a ^^^ b) := by
  apply Int32.toBitVec_inj.mp
  rw [Int32.toBitVec_xor]
  apply BitVec.eq_of_toNat_eq
  show (BitVec.ofNat 32 a ^^^ BitVec.ofNat 32 b).toNat = (BitVec.ofNat 32 (a ^^^ b)).toNat
  rw [BitVec.toNat_xor, BitVec.toNat_ofNat, BitVec.toNat_ofNat, BitVec.toNat_ofNat, Nat.xor_mod_two_pow]
section MC
variable {d : Nat} {σ : fxS} {hi : fxI3} {hl : fxL3} {v : Nat → Nat}
theorem m_keeps (hv : PM hi v) : ∃ g, fx_Ga (d + 1) 216 [mO] (hp σ hi hl) none (hp σ (fx_all hi 63 0 g) hl) ∧ KP (fx_all hi 63 0 g) v := by
  let G : Nat → Nat → Int32 := fun i c => if c < i then hi 59 0 (10 + c) else hi 63 0 c
  have loop : ∀ k i, i + k = 28 → fx_E (fx_Ga d) fx_M216 (2, [some mO, some (vi (nI i))], [], hp σ (fx_all hi 63 0 (G i)) hl, 0, 0) (fun r2 h2 => r2 = none ∧ h2 = hp σ (fx_all hi 63 0 (G 28)) hl) := by
    intro k
    induction k with
    | zero =>
      intro i hk
      have : i = 28 := by omega
      subst this
      exact fx_wpL [2] 30 (pk_le 28 28 (fun _ => ⟨rfl, rfl⟩) (fun hc => by omega))
    | succ k ih =>
      intro i hk
      have c : (nI i).toNatClampNeg = i := nI_clamp (by omega)
      have e10 : (10 + nI i : Int32) = nI (10 + i) := nI_add 10 i
      refine fx_wpL [2] 30 (pk_le 28 i (fun hc => by omega) (fun _ => ?_))
      refine ⟨ni_inx (n := 10 + i) (m := 83) e10 (by omega) (by decide), ni_in (n := i) (m := 28) (by omega) (by decide), ?_⟩
      have h2 := ih (i + 1) (by omega)
      rw [← nI_1] at h2
      have eG : fx_all hi 63 0 (G (i + 1)) = fx_up (fx_all hi 63 0 (G i)) 63 0 (nI i).toNatClampNeg (hi 59 0 (10 + nI i : Int32).toNatClampNeg) := by
        rw [up_all, c, ni_cl e10 (by omega)]
        congr 1
        funext x
        show (if x < i + 1 then _ else _) = (if x = i then _ else if x < i then _ else _)
        by_cases e : x = i
        · subst e
          rw [if_pos (by omega), if_pos rfl]
        · by_cases e2 : x < i
          · rw [if_pos (by omega), if_neg e, if_pos e2]
          · rw [if_neg (by omega), if_neg e, if_neg e2]
      rw [eG] at h2
      exact h2
  refine ⟨G 28, fx_meth fx_M216 [some mO, none] (by decide) rfl rfl (Nat.le_of_ble_eq_true rfl) (fx_wpE [2] 9 ?_), fun k hk => ?_⟩
  · have := loop 28 0 rfl
    rw [show G 0 = hi 63 0 from funext fun c => if_neg (by omega), all_self] at this
    exact this
  · obtain ⟨h1, h2⟩ := hv (10 + k) (by omega)
    rw [all_at]
    exact ⟨(if_pos hk).trans h1, h2⟩
theorem m_laysBack {w : Nat → Nat} (hw : PM hi w) (hk : KP hi v) (hs : ∀ x, x < 10 ∨ 38 ≤ x → w x = v x) : ∃ g, fx_Ga (d + 1) 217 [mO] (hp σ hi hl) none (hp σ (fx_all hi 59 0 g) hl) ∧ PM (fx_all hi 59 0 g) v := by
  let G : Nat → Nat → Int32 := fun i c => if 10 ≤ c ∧ c < 10 + i then hi 63 0 (c - 10) else hi 59 0 c
  have loop : ∀ k i, i + k = 28 → fx_E (fx_Ga d) fx_M217 (2, [some mO, some (vi (nI i))], [], hp σ (fx_all hi 59 0 (G i)) hl, 0, 0) (fun r2 h2 => r2 = none ∧ h2 = hp σ (fx_all hi 59 0 (G 28)) hl) := by
    intro k
    induction k with
    | zero =>
      intro i hk
      have : i = 28 := by omega
      subst this
      exact fx_wpL [2] 30 (pk_le 28 28 (fun _ => ⟨rfl, rfl⟩) (fun hc => by omega))
    | succ k ih =>
      intro i hk
      have c : (nI i).toNatClampNeg = i := nI_clamp (by omega)
      have e10 : (10 + nI i : Int32) = nI (10 + i) := nI_add 10 i
      refine fx_wpL [2] 30 (pk_le 28 i (fun hc => by omega) (fun _ => ?_))
      refine ⟨ni_in (n := i) (m := 28) (by omega) (by decide), ni_inx (n := 10 + i) (m := 83) e10 (by omega) (by decide), ?_⟩
      have h2 := ih (i + 1) (by omega)
      rw [← nI_1] at h2
      have eG : fx_all hi 59 0 (G (i + 1)) = fx_up (fx_all hi 59 0 (G i)) 59 0 (10 + nI i : Int32).toNatClampNeg (hi 63 0 (nI i).toNatClampNeg) := by
        rw [up_all, c, ni_cl e10 (by omega)]
        congr 1
        funext x
        show (if 10 ≤ x ∧ x < 10 + (i + 1) then _ else _) = (if x = 10 + i then _ else if 10 ≤ x ∧ x < 10 + i then _ else _)
        by_cases e : x = 10 + i
        · subst e
          rw [if_pos (by omega), if_pos rfl, Nat.add_sub_cancel_left]
        · by_cases e2 : 10 ≤ x ∧ x < 10 + i
          · rw [if_pos (by omega), if_neg e, if_pos e2]
          · rw [if_neg (by omega), if_neg e, if_neg e2]
      rw [eG] at h2
      exact h2
  refine ⟨G 28, fx_meth fx_M217 [some mO, none] (by decide) rfl rfl (Nat.le_of_ble_eq_true rfl) (fx_wpE [2] 9 ?_), fun k hk0 => ?_⟩
  · have := loop 28 0 rfl
    rw [show G 0 = hi 59 0 from funext fun c => if_neg (by omega), all_self] at this
    exact this
  · rw [all_at]
    by_cases e : 10 ≤ k ∧ k < 38
    · obtain ⟨h1, h2⟩ := hk (k - 10) (by omega)
      rw [show 10 + (k - 10) = k by omega] at h1 h2
      exact ⟨(if_pos e).trans h1, h2⟩
    · obtain ⟨h1, h2⟩ := hw k hk0
      rw [hs k (by omega)] at h1 h2
      exact ⟨(if_neg e).trans h1, h2⟩
theorem m_passesAll (hv : PM hi v) (hs : SB v) {n : Nat} (h10 : v 10 + n ≤ 9999) {rl : Option fxRl} (hf : FM hi rl) (hr : WM hi none) :
    ∃ hi' hl', fx_Ga (d + 7) 207 [mO, vi (nI n)] (hp σ hi hl) none (hp σ hi' hl') ∧ FrP hi hi' ∧ FlP hl hl' ∧ PM hi' (vIt rl n v) := by
  have loop : ∀ k i (hb : fxI3) (hlb : fxL3), i + k = n → FrP hi hb → FlP hl hlb → PM hb (vIt rl i v) → fx_E (fx_Ga (d + 6)) fx_M207 (2, [some mO, some (vi (nI n)), some (vi (nI i))], [], hp σ hb hlb, 0, 0) (fun r2 h2 => r2 = none ∧ ∃ hi' hl', h2 = hp σ hi' hl' ∧ FrP hi hi' ∧ FlP hl hl' ∧ PM hi' (vIt rl n v)) := by
    intro k
    induction k with
    | zero =>
      intro i hb hlb hk f1 f2 hvb
      have : i = n := by omega
      subst this
      exact fx_wpL [2] 30 (pk_le i i (fun _ => ⟨rfl, hb, hlb, rfl, f1, f2, hvb⟩) (fun hc => by omega))
    | succ k ih =>
      intro i hb hlb hk f1 f2 hvb
      refine fx_wpL [2] 30 (pk_le n i (fun hc => by omega) (fun _ => ?_))
      obtain ⟨hi2, hl2, hg, g1, g2, hv2⟩ := m_passes (d := d) (σ := σ) (hl := hlb) hvb ((hs.it rl i).sv (by rw [vIt_10]; omega)) (FM_fr f1 hf) (WM_fr f1 hr)
      refine ⟨_, _, hg, ?_⟩
      have h2 := ih (i + 1) hi2 hl2 (by omega) (f1.tr g1) (f2.tr g2) hv2
      rw [← nI_1] at h2
      exact h2
  obtain ⟨r, h', hg, e1, hi', hl', e2, e3⟩ := fx_methX (y := 207) (av := [mO, vi (nI n)]) fx_M207 [some mO, some (vi (nI n)), none] (by decide) rfl rfl (Nat.le_of_ble_eq_true rfl) (fx_wpE [2] 9 (loop n 0 hi hl (by omega) (FrP.rf hi) (FlP.rf hl) hv))
  subst e1
  subst e2
  exact ⟨hi', hl', hg, e3⟩
theorem m_changesGate (hv : PM hi v) {f : Nat} (hf : f < 60) : fx_Ga (d + 1) 214 [mO, vi (nI f)] (hp σ hi hl) none (hp σ (fx_up hi 59 0 (36 + f / 30) (nI (v (36 + f / 30) ^^^ 2 ^ (f % 30)))) hl) ∧ PM (fx_up hi 59 0 (36 + f / 30) (nI (v (36 + f / 30) ^^^ 2 ^ (f % 30)))) (vTg v f) := by
  have ed : (nI f / 30 : Int32) = nI (f / 30) := pk_div (d := 30) (by omega) (by decide) (by decide)
  have er : (nI f - nI f / 30 * 30 : Int32) = nI (f % 30) := pk_rem (d := 30) (by omega) (by decide) (by decide)
  have e36 : (36 + nI f / 30 : Int32) = nI (36 + f / 30) := by rw [ed]; exact nI_add 36 _
  have hb := (hv (36 + f / 30) (by omega)).2
  refine ⟨fx_meth fx_M214 [some mO, some (vi (nI f))] (by decide) rfl rfl (Nat.le_of_ble_eq_true rfl) (fx_wpE [] 40 ?_), ?_⟩
  · refine ⟨by decide, ni_inx (n := 36 + f / 30) (m := 83) e36 (by omega) (by decide), by decide, ni_inx (n := 36 + f / 30) (m := 83) e36 (by omega) (by decide), rfl, ?_⟩
    show hp σ (fx_up hi 59 0 (36 + nI f / 30 : Int32).toNatClampNeg (hi 59 0 (36 + nI f / 30 : Int32).toNatClampNeg ^^^ ((1 : Int32) <<< ((nI f - nI f / 30 * 30) &&& 31)))) hl = _
    rw [ni_cl e36 (by omega), (hv (36 + f / 30) (by omega)).1, er, sh_30 _ (Nat.mod_lt _ (by decide)), ni_xor]
  · exact hv.put (Nat.xor_lt_two_pow hb (Nat.pow_lt_pow_right (by decide) (Nat.mod_lt _ (by decide))))
end MC
