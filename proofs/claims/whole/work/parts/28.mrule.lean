/-! the reference: rules reckoned out -/
def vOne (s : Nat) (x y : Int64) : Int64 := match s with
  | 2 => x + y
  | 3 => x - y
  | 4 => x * y
  | 5 => if y = 0 then 0 else x / y
  | 14 => if y = 0 then 0 else x - x / y * y
  | 6 => if x < y then 1 else 0
  | 7 => if x ≤ y then 1 else 0
  | 8 => if x = y then 1 else 0
  | 9 => if y ≤ x then 1 else 0
  | 10 => if y < x then 1 else 0
  | 12 => x &&& y
  | _ => x ||| y
theorem lc_eq {x y : Int64} {A B : Prop} (f : x = y → A) (g : ¬ x = y → B) : (¬ lg_cmp x y = 0 → B) ∧ (¬ ¬ lg_cmp x y = 0 → A) := by
  rw [lg_cmp_eq]
  exact ⟨g, fun z => f (Classical.not_not.mp z)⟩
theorem lc_ge {x y : Int64} {A B : Prop} (f : y ≤ x → A) (g : ¬ y ≤ x → B) : (0 ≤ lg_cmp x y → A) ∧ (¬ 0 ≤ lg_cmp x y → B) := by
  rw [lg_cmp_ge]
  exact ⟨f, g⟩
theorem lc_gt {x y : Int64} {A B : Prop} (f : y < x → A) (g : ¬ y < x → B) : (0 < lg_cmp x y → A) ∧ (¬ 0 < lg_cmp x y → B) := by
  rw [lg_cmp_gt]
  exact ⟨f, g⟩
theorem lc_lt {x y : Int64} {A B : Prop} (f : x < y → A) (g : ¬ x < y → B) : (lg_cmp x y < 0 → A) ∧ (¬ lg_cmp x y < 0 → B) := by
  rw [lg_cmp_lt]
  exact ⟨f, g⟩
theorem lc_le {x y : Int64} {A B : Prop} (f : x ≤ y → A) (g : ¬ x ≤ y → B) : (lg_cmp x y ≤ 0 → A) ∧ (¬ lg_cmp x y ≤ 0 → B) := by
  rw [lg_cmp_le]
  exact ⟨f, g⟩
theorem tsw {lo hi : Int} {x : Int32} {A B : Prop} (h : ¬ (x.toInt < lo ∨ hi < x.toInt)) (b : B) : (x.toInt < lo ∨ hi < x.toInt → A) ∧ (¬ (x.toInt < lo ∨ hi < x.toInt) → B) := ⟨fun z => absurd z h, fun _ => b⟩
theorem m_one {d : Nat} {h : fxH} {s : Nat} {x y : Int64} (hs : 2 ≤ s ∧ s ≤ 14 ∧ s ≠ 11) : fx_Ga (d + 1) 184 [vi (nI s), vl x, vl y] h (some (vl (vOne s x y))) h := by
  refine fx_meth fx_M184 [some (vi (nI s)), some (vl x), none, some (vl y), none] (by decide) rfl rfl (Nat.le_of_ble_eq_true rfl) (fx_wpE [] 30 ?_)
  rcases (show s = 2 ∨ s = 3 ∨ s = 4 ∨ s = 5 ∨ s = 6 ∨ s = 7 ∨ s = 8 ∨ s = 9 ∨ s = 10 ∨ s = 12 ∨ s = 13 ∨ s = 14 by omega) with rfl | rfl | rfl | rfl | rfl | rfl | rfl | rfl | rfl | rfl | rfl | rfl
  · exact tsw (by decide) ⟨_, rfl, rfl, rfl⟩
  · exact tsw (by decide) ⟨_, rfl, rfl, rfl⟩
  · exact tsw (by decide) ⟨_, rfl, rfl, rfl⟩
  · refine tsw (by decide) ⟨_, rfl, lc_eq (fun (hc : y = 0) => ⟨?_, rfl⟩) (fun (hc : ¬ y = 0) => ⟨hc, ?_, rfl⟩)⟩
    · show some (vl 0) = some (vl (if y = 0 then 0 else x / y))
      rw [if_pos hc]
    · show some (vl (x / y)) = some (vl (if y = 0 then 0 else x / y))
      rw [if_neg hc]
  · refine tsw (by decide) ⟨_, rfl, lc_ge (fun hc => ⟨?_, rfl⟩) (fun hc => ⟨?_, rfl⟩)⟩
    · show some (vl 0) = some (vl (if x < y then 1 else 0))
      rw [if_neg (Int64.not_lt.mpr hc)]
    · show some (vl 1) = some (vl (if x < y then 1 else 0))
      rw [if_pos (Int64.not_le.mp hc)]
  · refine tsw (by decide) ⟨_, rfl, lc_gt (fun hc => ⟨?_, rfl⟩) (fun hc => ⟨?_, rfl⟩)⟩
    · show some (vl 0) = some (vl (if x ≤ y then 1 else 0))
      rw [if_neg (Int64.not_le.mpr hc)]
    · show some (vl 1) = some (vl (if x ≤ y then 1 else 0))
      rw [if_pos (Int64.not_lt.mp hc)]
  · refine tsw (by decide) ⟨_, rfl, lc_eq (fun hc => ⟨?_, rfl⟩) (fun hc => ⟨?_, rfl⟩)⟩
    · show some (vl 1) = some (vl (if x = y then 1 else 0))
      rw [if_pos hc]
    · show some (vl 0) = some (vl (if x = y then 1 else 0))
      rw [if_neg hc]
  · refine tsw (by decide) ⟨_, rfl, lc_lt (fun hc => ⟨?_, rfl⟩) (fun hc => ⟨?_, rfl⟩)⟩
    · show some (vl 0) = some (vl (if y ≤ x then 1 else 0))
      rw [if_neg (Int64.not_le.mpr hc)]
    · show some (vl 1) = some (vl (if y ≤ x then 1 else 0))
      rw [if_pos (Int64.not_lt.mp hc)]
  · refine tsw (by decide) ⟨_, rfl, lc_le (fun hc => ⟨?_, rfl⟩) (fun hc => ⟨?_, rfl⟩)⟩
    · show some (vl 0) = some (vl (if y < x then 1 else 0))
      rw [if_neg (Int64.not_lt.mpr hc)]
    · show some (vl 1) = some (vl (if y < x then 1 else 0))
      rw [if_pos (Int64.not_le.mp hc)]
  · exact tsw (by decide) ⟨_, rfl, rfl, rfl⟩
  · exact tsw (by decide) ⟨_, rfl, rfl, rfl⟩
  · refine tsw (by decide) ⟨_, rfl, lc_eq (fun (hc : y = 0) => ⟨?_, rfl⟩) (fun (hc : ¬ y = 0) => ⟨hc, ?_, rfl⟩)⟩
    · show some (vl 0) = some (vl (if y = 0 then 0 else x - x / y * y))
      rw [if_pos hc]
    · show some (vl (x - x / y * y)) = some (vl (if y = 0 then 0 else x - x / y * y))
      rw [if_neg hc]
section MR
variable {d : Nat} {σ : fxS} {hi : fxI3} {hl : fxL3}
theorem m_push {n : Nat} (ht : hi 11 0 18 = nI n) (hn : n < 64) (x : Int64) : fx_Ga (d + 1) 182 [mO, vl x] (hp σ hi hl) none (hp σ (fx_up hi 11 0 18 (nI (n + 1))) (fx_up hl 57 0 n x)) := by
  refine fx_meth fx_M182 [some mO, some (vl x), none] (by decide) rfl rfl (Nat.le_of_ble_eq_true rfl) (fx_wpE [] 30 ?_)
  refine ⟨ni_inx (n := n) (m := 64) ht hn (by decide), rfl, ?_⟩
  show hp σ (fx_up hi 11 0 18 (hi 11 0 18 + 1)) (fx_up hl 57 0 (hi 11 0 18).toNatClampNeg x) = _
  rw [ht, nI_1, nI_clamp (by omega)]
theorem m_pop {n : Nat} (ht : hi 11 0 18 = nI (n + 1)) (hn : n < 64) : fx_Ga (d + 1) 183 [mO] (hp σ hi hl) (some (vl (hl 57 0 n))) (hp σ (fx_up hi 11 0 18 (nI n)) hl) := by
  refine fx_meth fx_M183 [some mO] (by decide) rfl rfl (Nat.le_of_ble_eq_true rfl) (fx_wpE [] 30 ?_)
  have e : hi 11 0 18 - 1 = nI n := by rw [ht]; exact nI_pred n
  refine ⟨ni_inx (n := n) (m := 64) e hn (by decide), ?_, ?_⟩
  · exact congrArg (fun z => some (vl (hl 57 0 z))) (ni_cl e (by omega))
  · exact congrArg (fun z => hp σ (fx_up hi 11 0 18 z) hl) e
theorem up_up {α : Type} (f : Nat → Nat → Nat → α) (k j s : Nat) (a b : α) : fx_up (fx_up f k j s a) k j s b = fx_up f k j s b := by
  funext x y z
  unfold fx_up
  by_cases h1 : x = k <;> by_cases h2 : y = j <;> by_cases h3 : z = s <;> simp [h1, h2, h3]
theorem up_all {α : Type} (f : Nat → Nat → Nat → α) (k j : Nat) (g : Nat → α) (s : Nat) (v : α) : fx_up (fx_all f k j g) k j s v = fx_all f k j (fun c => if c = s then v else g c) := by
  funext x y z
  unfold fx_up fx_all
  by_cases h1 : x = k <;> by_cases h2 : y = j <;> by_cases h3 : z = s <;> simp [h1, h2, h3]
theorem all_self {α : Type} (f : Nat → Nat → Nat → α) (k j : Nat) : fx_all f k j (f k j) = f := by
  funext x y z
  unfold fx_all
  by_cases h1 : x = k <;> by_cases h2 : y = j <;> simp [h1, h2]
theorem nn_eq {x y : Int32} {A B : Prop} (a b : Nat) (f : a = b → B) (g : a ≠ b → A) (hx : x = nI a := by rfl) (hy : y = nI b := by rfl) (ha : a < 2 ^ 31 := by omega) (hb : b < 2 ^ 31 := by omega) : (¬ x = y → A) ∧ (¬ ¬ x = y → B) := by
  rw [hx, hy, nI_eq ha hb]
  exact ⟨g, fun z => f (Classical.not_not.mp z)⟩
/-- how deep the stack is behind signs -/
def vDp : List Nat → Nat → Option Nat
  | [], n => some n
  | x :: L, n => if x % 16 = 0 then (if n < 60 then vDp L (n + 1) else none) else if x % 16 = 1 then (if x / 16 < 11 ∧ n < 60 then vDp L (n + 1) else none) else if x % 16 = 11 then (if 1 ≤ n then vDp L n else none) else if x % 16 = 15 then none else (if 2 ≤ n then vDp L (n - 1) else none)
def vTk (w : Nat → Int64) (x : Nat) (st : List Int64) : List Int64 := if x % 16 = 0 then lN (x / 16) :: st else if x % 16 = 1 then w (x / 16) :: st else if x % 16 = 11 then (match st with
  | a :: r => (1 - a) :: r
  | [] => []) else (match st with
  | b :: a :: r => vOne (x % 16) a b :: r
  | _ => [])
def vEv (w : Nat → Int64) : List Nat → List Int64 → List Int64
  | [], st => st
  | x :: L, st => vEv w L (vTk w x st)
/-- the row holds the stack, its top at the end -/
def SK (g : Nat → Int64) (st : List Int64) : Prop := ∀ k, k < st.length → g (st.length - 1 - k) = st.getD k 0
theorem SK.push {g : Nat → Int64} {st : List Int64} (h : SK g st) (x : Int64) : SK (fun c => if c = st.length then x else g c) (x :: st) := by
  intro k hk
  cases k with
  | zero => simp
  | succ k =>
    have hk : k < st.length := by simpa using hk
    have h1 := h k hk
    simp only [List.length_cons, List.getD_cons_succ]
    rw [if_neg (by omega), show st.length + 1 - 1 - (k + 1) = st.length - 1 - k by omega]
    exact h1
theorem SK.pop {g : Nat → Int64} {a : Int64} {st : List Int64} (h : SK g (a :: st)) : g st.length = a ∧ SK g st := by
  refine ⟨?_, fun k hk => ?_⟩
  · have := h 0 (by simp)
    simpa using this
  · have h1 := h (k + 1) (by simpa using hk)
    simp only [List.length_cons, List.getD_cons_succ] at h1
    rw [show st.length + 1 - 1 - (k + 1) = st.length - 1 - k by omega] at h1
    exact h1
theorem SK.keep {g : Nat → Int64} {st : List Int64} (h : SK g st) {n : Nat} (hn : st.length ≤ n) (x : Int64) : SK (fun c => if c = n then x else g c) st := by
  intro k hk
  show (if _ = n then x else _) = _
  rw [if_neg (by omega)]
  exact h k hk
theorem m_reckons {t b : Nat} {L0 : List Nat} {w : Nat → Int64} (ht : t < 6) (hb : b + L0.length ≤ 400) (hL0 : ∀ k, k < L0.length → hi 51 0 (400 * t + b + k) = nI (L0.getD k 0) ∧ L0.getD k 0 < 2 ^ 30) (hw : ∀ k, k < 11 → hl 58 0 k = w k) (hd0 : vDp L0 0 = some 1) :
    ∃ g, fx_Ga (d + 2) 185 [mO, vi (nI t), vi (nI b), vi (nI (b + L0.length))] (hp σ hi hl) (some (vl ((vEv w L0 []).headD 0))) (hp σ (fx_up hi 11 0 18 (nI 0)) (fx_all hl 57 0 g)) := by
  have loop : ∀ (L : List Nat) (i : Nat) (st : List Int64) (g : Nat → Int64), i + L.length = b + L0.length → (∀ k, k < L.length → hi 51 0 (400 * t + i + k) = nI (L.getD k 0) ∧ L.getD k 0 < 2 ^ 30) → SK g st → st.length ≤ 60 → vDp L st.length = some 1 → ∀ l5 l6 l7 l8 l9 l10, fx_E (fx_Ga (d + 1)) fx_M185 (8, [some mO, some (vi (nI t)), some (vi (nI b)), some (vi (nI (b + L0.length))), some (vi (nI i)), l5, l6, l7, l8, l9, l10], [], hp σ (fx_up hi 11 0 18 (nI st.length)) (fx_all hl 57 0 g), 0, 0) (fun r2 h2 => r2 = some (vl ((vEv w L st).headD 0)) ∧ ∃ g', h2 = hp σ (fx_up hi 11 0 18 (nI 0)) (fx_all hl 57 0 g')) := by
    intro L
    induction L with
    | nil =>
      intro i st g hi0 hL hS hlen hdp l5 l6 l7 l8 l9 l10
      have hi1 : i = b + L0.length := by simpa using hi0
      have h1 : st.length = 1 := by
        unfold vDp at hdp
        exact Option.some.inj hdp
      refine fx_wpL [8] 30 ?_
      refine pk_le (b + L0.length) i (fun _ => ?_) (fun hc => by omega)
      obtain ⟨a, rfl⟩ : ∃ a, st = [a] := List.length_eq_one_iff.mp h1
      have hp1 := m_pop (d := d) (σ := σ) (hi := fx_up hi 11 0 18 (nI 1)) (hl := fx_all hl 57 0 g) (n := 0) rfl (by decide)
      rw [up_up] at hp1
      refine ⟨_, _, hp1, ?_, g, rfl⟩
      exact congrArg (fun z => some (vl z)) hS.pop.1
    | cons x L ih =>
      intro i st g hi0 hL hS hlen hdp l5 l6 l7 l8 l9 l10
      have hlc : (x :: L).length = L.length + 1 := rfl
      have hx := hL 0 (by simp)
      have hxb : x < 2 ^ 30 := by simpa using hx.2
      have ei : (400 * nI t + nI i : Int32) = nI (400 * t + i) := by
        show nI 400 * nI t + nI i = _
        rw [pk_mul, nI_add]
      have ex : hi 51 0 (400 * nI t + nI i : Int32).toNatClampNeg = nI x := by
        rw [ni_cl ei (by omega)]
        simpa using hx.1
      have es : hi 51 0 (400 * nI t + nI i : Int32).toNatClampNeg &&& 15 = nI (x % 16) := by
        rw [ex]
        exact pk_andN (by omega) 4 (by decide)
      have ev : hi 51 0 (400 * nI t + nI i : Int32).toNatClampNeg >>> ((4 : Int32) &&& 31) = nI (x / 16) := by
        rw [ex]
        exact pk_shrN (by omega) _ 4 (by decide)
      have hm : x % 16 < 16 := Nat.mod_lt _ (by decide)
      have hq : x / 16 < 2 ^ 30 := Nat.lt_of_le_of_lt (Nat.div_le_self _ _) hxb
      have hL' : ∀ k, k < L.length → hi 51 0 (400 * t + (i + 1) + k) = nI (L.getD k 0) ∧ L.getD k 0 < 2 ^ 30 := by
        intro k hk
        have := hL (k + 1) (by simpa using hk)
        rw [show 400 * t + i + (k + 1) = 400 * t + (i + 1) + k by omega] at this
        simpa using this
      have next : ∀ (st' : List Int64) (g' : Nat → Int64), vTk w x st = st' → SK g' st' → st'.length ≤ 60 → vDp L st'.length = some 1 → ∀ l5 l6 l7 l8 l9 l10, fx_E (fx_Ga (d + 1)) fx_M185 (8, [some mO, some (vi (nI t)), some (vi (nI b)), some (vi (nI (b + L0.length))), some (vi (nI i + 1)), l5, l6, l7, l8, l9, l10], [], hp σ (fx_up hi 11 0 18 (nI st'.length)) (fx_all hl 57 0 g'), 0, 0) (fun r2 h2 => r2 = some (vl ((vEv w (x :: L) st).headD 0)) ∧ ∃ g', h2 = hp σ (fx_up hi 11 0 18 (nI 0)) (fx_all hl 57 0 g')) := by
        intro st' g' e1 e2 e3 e4 l5 l6 l7 l8 l9 l10
        have h1 := ih (i + 1) st' g' (by omega) hL' e2 e3 e4 l5 l6 l7 l8 l9 l10
        rw [← nI_1, ← e1] at h1
        rw [← e1]
        exact h1
      refine fx_wpL [8] 60 ?_
      refine pk_le (b + L0.length) i (fun hc => by omega) (fun _ => ?_)
      refine ⟨ni_inx (n := 400 * t + i) (m := 2400) ei (by omega) (by decide), ni_inx (n := 400 * t + i) (m := 2400) ei (by omega) (by decide), ?_⟩
      refine nn_eq (x % 16) 0 (fun h0 => ?_) (fun h0 => ?_) es
      · -- a number
        have hdp' : st.length < 60 ∧ vDp L (st.length + 1) = some 1 := by
          unfold vDp at hdp
          rw [if_pos h0] at hdp
          split at hdp
          · rename_i z
            exact ⟨z, hdp⟩
          · cases hdp
        have hpu := m_push (d := d) (σ := σ) (hi := fx_up hi 11 0 18 (nI st.length)) (hl := fx_all hl 57 0 g) (n := st.length) rfl (by omega) (hi 51 0 (400 * nI t + nI i : Int32).toNatClampNeg >>> ((4 : Int32) &&& 31)).toInt64
        rw [up_up, up_all] at hpu
        refine ⟨_, _, hpu, ?_⟩
        have el : (hi 51 0 (400 * nI t + nI i : Int32).toNatClampNeg >>> ((4 : Int32) &&& 31)).toInt64 = lN (x / 16) := by
          rw [ev]
          exact nI_l (by omega)
        rw [el]
        exact next (lN (x / 16) :: st) _ (by unfold vTk; rw [if_pos h0]) (hS.push _) (by simp; omega) hdp'.2 _ _ _ _ _ _
      · refine nn_eq (x % 16) 1 (fun h1 => ?_) (fun h1 => ?_) es
        · -- a word
          have hdp' : x / 16 < 11 ∧ st.length < 60 ∧ vDp L (st.length + 1) = some 1 := by
            unfold vDp at hdp
            rw [if_neg h0, if_pos h1] at hdp
            split at hdp
            · rename_i z
              exact ⟨z.1, z.2, hdp⟩
            · cases hdp
          refine ⟨ni_inx (n := x / 16) (m := 11) ev hdp'.1 (by decide), ?_⟩
          have hpu := m_push (d := d) (σ := σ) (hi := fx_up hi 11 0 18 (nI st.length)) (hl := fx_all hl 57 0 g) (n := st.length) rfl (by omega) (hl 58 0 (hi 51 0 (400 * nI t + nI i : Int32).toNatClampNeg >>> ((4 : Int32) &&& 31)).toNatClampNeg)
          rw [up_up, up_all] at hpu
          refine ⟨_, _, hpu, ?_⟩
          rw [show hl 58 0 (hi 51 0 (400 * nI t + nI i : Int32).toNatClampNeg >>> ((4 : Int32) &&& 31)).toNatClampNeg = w (x / 16) by rw [ni_cl ev (by omega)]; exact hw _ hdp'.1]
          exact next (w (x / 16) :: st) _ (by unfold vTk; rw [if_neg h0, if_pos h1]) (hS.push _) (by simp; omega) hdp'.2.2 _ _ _ _ _ _
        · refine nn_eq (x % 16) 11 (fun h2 => ?_) (fun h2 => ?_) es
          · -- not
            have hdp' : 1 ≤ st.length ∧ vDp L st.length = some 1 := by
              unfold vDp at hdp
              rw [if_neg h0, if_neg h1, if_pos h2] at hdp
              split at hdp
              · rename_i z
                exact ⟨z, hdp⟩
              · cases hdp
            match st, hS, hlen, hdp', next with
            | a :: r, hS, hlen, hdp', next =>
              obtain ⟨ha, hSr⟩ := hS.pop
              have hpo := m_pop (d := d) (σ := σ) (hi := fx_up hi 11 0 18 (nI (r.length + 1))) (hl := fx_all hl 57 0 g) (n := r.length) rfl (by have : r.length + 1 ≤ 60 := hlen; omega)
              rw [up_up] at hpo
              refine ⟨_, _, hpo, ?_⟩
              have hpu := m_push (d := d) (σ := σ) (hi := fx_up hi 11 0 18 (nI r.length)) (hl := fx_all hl 57 0 g) (n := r.length) rfl (by have : r.length + 1 ≤ 60 := hlen; omega) (1 - fx_all hl 57 0 g 57 0 r.length)
              rw [up_up, up_all] at hpu
              refine ⟨_, _, hpu, ?_⟩
              rw [show fx_all hl 57 0 g 57 0 r.length = a from ha]
              exact next ((1 - a) :: r) _ (by unfold vTk; rw [if_neg h0, if_neg h1, if_pos h2]) (hSr.push _) (by simpa using hlen) (by simpa using hdp'.2) _ _ _ _ _ _
            | [], _, _, hdp', _ => exact absurd hdp'.1 (by simp)
          · -- two joined
            have hdp' : x % 16 ≠ 15 ∧ 2 ≤ st.length ∧ vDp L (st.length - 1) = some 1 := by
              unfold vDp at hdp
              rw [if_neg h0, if_neg h1, if_neg h2] at hdp
              split at hdp
              · cases hdp
              · rename_i z0
                split at hdp
                · rename_i z
                  exact ⟨z0, z, hdp⟩
                · cases hdp
            match st, hS, hlen, hdp', next with
            | y :: a :: r, hS, hlen, hdp', next =>
              obtain ⟨hy, hSa⟩ := hS.pop
              obtain ⟨ha, hSr⟩ := hSa.pop
              have hlr : r.length + 2 ≤ 60 := hlen
              have hpo := m_pop (d := d) (σ := σ) (hi := fx_up hi 11 0 18 (nI (r.length + 1 + 1))) (hl := fx_all hl 57 0 g) (n := r.length + 1) rfl (by omega)
              rw [up_up] at hpo
              refine ⟨_, _, hpo, ?_⟩
              have hpo2 := m_pop (d := d) (σ := σ) (hi := fx_up hi 11 0 18 (nI (r.length + 1))) (hl := fx_all hl 57 0 g) (n := r.length) rfl (by omega)
              rw [up_up] at hpo2
              refine ⟨_, _, hpo2, ?_⟩
              have hon := m_one (d := d) (h := hp σ (fx_up hi 11 0 18 (nI r.length)) (fx_all hl 57 0 g)) (s := x % 16) (x := fx_all hl 57 0 g 57 0 r.length) (y := fx_all hl 57 0 g 57 0 (r.length + 1)) ⟨by omega, by omega, h2⟩
              rw [← es] at hon
              refine ⟨_, _, hon, ?_⟩
              have hpu := m_push (d := d) (σ := σ) (hi := fx_up hi 11 0 18 (nI r.length)) (hl := fx_all hl 57 0 g) (n := r.length) rfl (by omega) (vOne (x % 16) (fx_all hl 57 0 g 57 0 r.length) (fx_all hl 57 0 g 57 0 (r.length + 1)))
              rw [up_up, up_all] at hpu
              refine ⟨_, _, hpu, ?_⟩
              rw [show fx_all hl 57 0 g 57 0 r.length = a from ha, show fx_all hl 57 0 g 57 0 (r.length + 1) = y from hy]
              exact next (vOne (x % 16) a y :: r) _ (by unfold vTk; rw [if_neg h0, if_neg h1, if_neg h2]) (hSr.push _) (by simp; omega) (by simpa using hdp'.2.2) _ _ _ _ _ _
            | [_], _, _, hdp', _ => exact absurd hdp'.2.1 (by simp)
            | [], _, _, hdp', _ => exact absurd hdp'.2.1 (by simp)
  obtain ⟨r, h', hg, e1, g', e2⟩ := fx_methX (d := d + 1) (y := 185) (av := [mO, vi (nI t), vi (nI b), vi (nI (b + L0.length))]) (h := hp σ hi hl) (P := fun r2 h2 => r2 = some (vl ((vEv w L0 []).headD 0)) ∧ ∃ g', h2 = hp σ (fx_up hi 11 0 18 (nI 0)) (fx_all hl 57 0 g')) fx_M185 [some mO, some (vi (nI t)), some (vi (nI b)), some (vi (nI (b + L0.length))), none, none, none, none, none, none, none] (by decide) rfl rfl (Nat.le_of_ble_eq_true rfl) (fx_wpE [8] 20 (by
    have := loop L0 b [] (hl 57 0) rfl hL0 (fun k hk => absurd hk (by simp)) (by simp) hd0 none none none none none none
    rw [all_self] at this
    exact this))
  subst e1
  subst e2
  exact ⟨g', hg⟩
end MR
