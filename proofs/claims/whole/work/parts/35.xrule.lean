/-! the class: rules reckoned out -/
def xOp (s : Nat) : Nat := match s with
  | 2 => 11
  | 3 => 12
  | 4 => 13
  | 5 => 14
  | 14 => 15
  | 6 => 16
  | 7 => 17
  | 8 => 18
  | 9 => 19
  | 10 => 20
  | 12 => 21
  | 13 => 22
  | _ => 23
/-- a sign as the class holds it -/
def xCd (x : Nat) : Int32 := if x % 16 = 0 then nI (x / 16) else if x % 16 = 1 then -1 - nI (x / 16) else -1 - nI (xOp (x % 16))
theorem x_join {d : Nat} {h : fxH} {s : Nat} {x y : Int64} (hs : 2 ≤ s ∧ s ≤ 14 ∧ s ≠ 11) : fx_Ga (d + 1) 43 [vi (nI (xOp s)), vl x, vl y] h (some (vl (vOne s x y))) h := by
  refine fx_meth fx_M43 [some (vi (nI (xOp s))), some (vl x), none, some (vl y), none] (by decide) rfl rfl (Nat.le_of_ble_eq_true rfl) (fx_wpE [] 30 ?_)
  rcases (show s = 2 ∨ s = 3 ∨ s = 4 ∨ s = 5 ∨ s = 6 ∨ s = 7 ∨ s = 8 ∨ s = 9 ∨ s = 10 ∨ s = 12 ∨ s = 13 ∨ s = 14 by omega) with rfl | rfl | rfl | rfl | rfl | rfl | rfl | rfl | rfl | rfl | rfl | rfl
  · exact tsw (by decide) ⟨_, rfl, rfl, rfl⟩
  · exact tsw (by decide) ⟨_, rfl, rfl, rfl⟩
  · exact tsw (by decide) ⟨_, rfl, rfl, rfl⟩
  · refine tsw (by decide) ⟨_, rfl, lc_eq (fun (hc : y = 0) => ⟨?_, rfl⟩) (fun (hc : ¬ y = 0) => ⟨hc, ?_, rfl⟩)⟩
    · show some (vl 0) = some (vl (if y = 0 then 0 else x / y))
      rw [if_pos hc]
    · show some (vl (x / y)) = some (vl (if y = 0 then 0 else x / y))
      rw [if_neg hc]
  · refine tsw (by decide) ⟨_, rfl, lc_ge (fun hc => ⟨?_, rfl⟩) (fun hc => ⟨?_, rfl⟩)⟩
    · show some (vl 0) = some (vl (if x < y then 1 else 0))
      rw [if_neg (Int64.not_lt.mpr hc)]
    · show some (vl 1) = some (vl (if x < y then 1 else 0))
      rw [if_pos (Int64.not_le.mp hc)]
  · refine tsw (by decide) ⟨_, rfl, lc_gt (fun hc => ⟨?_, rfl⟩) (fun hc => ⟨?_, rfl⟩)⟩
    · show some (vl 0) = some (vl (if x ≤ y then 1 else 0))
      rw [if_neg (Int64.not_le.mpr hc)]
    · show some (vl 1) = some (vl (if x ≤ y then 1 else 0))
      rw [if_pos (Int64.not_lt.mp hc)]
  · refine tsw (by decide) ⟨_, rfl, lc_eq (fun hc => ⟨?_, rfl⟩) (fun hc => ⟨?_, rfl⟩)⟩
    · show some (vl 1) = some (vl (if x = y then 1 else 0))
      rw [if_pos hc]
    · show some (vl 0) = some (vl (if x = y then 1 else 0))
      rw [if_neg hc]
  · refine tsw (by decide) ⟨_, rfl, lc_lt (fun hc => ⟨?_, rfl⟩) (fun hc => ⟨?_, rfl⟩)⟩
    · show some (vl 0) = some (vl (if y ≤ x then 1 else 0))
      rw [if_neg (Int64.not_le.mpr hc)]
    · show some (vl 1) = some (vl (if y ≤ x then 1 else 0))
      rw [if_pos (Int64.not_lt.mp hc)]
  · refine tsw (by decide) ⟨_, rfl, lc_le (fun hc => ⟨?_, rfl⟩) (fun hc => ⟨?_, rfl⟩)⟩
    · show some (vl 0) = some (vl (if y < x then 1 else 0))
      rw [if_neg (Int64.not_lt.mpr hc)]
    · show some (vl 1) = some (vl (if y < x then 1 else 0))
      rw [if_pos (Int64.not_le.mp hc)]
  · exact tsw (by decide) ⟨_, rfl, rfl, rfl⟩
  · exact ⟨fun _ => ⟨rfl, rfl⟩, fun z => absurd (Or.inr (by decide)) z⟩
  · refine tsw (by decide) ⟨_, rfl, lc_eq (fun (hc : y = 0) => ⟨?_, rfl⟩) (fun (hc : ¬ y = 0) => ⟨hc, ?_, rfl⟩)⟩
    · show some (vl 0) = some (vl (if y = 0 then 0 else x - x / y * y))
      rw [if_pos hc]
    · show some (vl (x - x / y * y)) = some (vl (if y = 0 then 0 else x - x / y * y))
      rw [if_neg hc]
def tI (n : Nat) : Int32 := match n with
  | 0 => -1
  | n + 1 => nI n
theorem tI_1 (n : Nat) : tI n + 1 = nI n := by
  cases n with
  | zero => decide
  | succ n => exact nI_1 n
theorem cd_w : ∀ w, w < 11 → ¬ (-1 - nI w : Int32) < -11 ∧ (-1 - nI w : Int32) < 0 ∧ (-1 - nI w : Int32) ^^^ -1 = nI w := by decide +kernel
theorem cd_o : ∀ s, s < 15 → 2 ≤ s → (-1 - nI (xOp s) : Int32) < -11 ∧ ((-1 - nI (xOp s) : Int32) = -24 ↔ s = 11) ∧ (-1 - nI (xOp s) : Int32) ^^^ -1 = nI (xOp s) := by decide +kernel
theorem cd_n {n : Nat} (h : n < 2 ^ 31) : ¬ nI n < -11 := fun z => by
  have := Int32.lt_iff_toInt_lt.mp z
  rw [nI_toInt h] at this
  have e : (-11 : Int32).toInt = -11 := by decide
  omega
def cods (hi : fxI3) (t p : Nat) (L : List Nat) : Prop := ∀ k, k < L.length → hi 45 (3 * t) (p + k) = xCd (L.getD k 0) ∧ L.getD k 0 < 2 ^ 30
def rO (t : Nat) : fxV := .inr (.inr (some (5, t)))
abbrev wO : fxV := .inr (.inr (some (36, 0)))
abbrev sO : fxV := .inr (.inr (some (37, 0)))
section XR
variable {d : Nat} {σ : fxS} {hi : fxI3} {hl : fxL3}
theorem x_reckon {t b : Nat} {L0 : List Nat} {w : Nat → Int64} (hb : b + L0.length ≤ σ.2.2.2 (3 * t)) (hK : σ.2.2.2 (3 * t) ≤ 400) (hL0 : cods hi t b L0) (hw : ∀ k, k < 11 → hl 36 0 k = w k) (hd0 : vDp L0 0 = some 1) :
    ∃ g, fx_Ga (d + 2) 42 [.inr (.inr (some (5, t))), vi (nI b), vi (nI (b + L0.length)), wO, sO] (hp σ hi hl) (some (vl ((vEv w L0 []).headD 0))) (hp σ hi (fx_all hl 37 0 g)) := by
  have loop : ∀ (L : List Nat) (i : Nat) (st : List Int64) (g : Nat → Int64), i + L.length = b + L0.length → cods hi t i L → SK g st → st.length ≤ 60 → vDp L st.length = some 1 → ∀ l7, fx_E (fx_Ga (d + 1)) fx_M42 (6, [some (.inr (.inr (some (5, t)))), some (vi (nI b)), some (vi (nI (b + L0.length))), some wO, some sO, some (vi (tI st.length)), some (vi (nI i)), l7], [], hp σ hi (fx_all hl 37 0 g), 0, 0) (fun r2 h2 => r2 = some (vl ((vEv w L st).headD 0)) ∧ ∃ g', h2 = hp σ hi (fx_all hl 37 0 g')) := by
    intro L
    induction L with
    | nil =>
      intro i st g hi0 hL hS hlen hdp l7
      have hi1 : i = b + L0.length := by simpa using hi0
      have h1 : st.length = 1 := by
        unfold vDp at hdp
        exact Option.some.inj hdp
      obtain ⟨a, rfl⟩ : ∃ a, st = [a] := List.length_eq_one_iff.mp h1
      refine fx_wpL [6] 30 ?_
      refine pk_le (b + L0.length) i (fun _ => ?_) (fun hc => by omega)
      refine ⟨fun _ => ?_, fun z => absurd (show (0 : Int32) ≤ nI 0 by decide) z⟩
      refine ⟨ni_inx (n := 0) (m := 64) rfl (by decide) (by decide), ?_, g, rfl⟩
      exact congrArg (fun z => some (vl z)) hS.pop.1
    | cons x L ih =>
      intro i st g hi0 hL hS hlen hdp l7
      have hlc : i + (L.length + 1) = b + L0.length := hi0
      have hx := hL 0 (by simp)
      have hxb : x < 2 ^ 30 := by simpa using hx.2
      have hq : x / 16 < 2 ^ 30 := Nat.lt_of_le_of_lt (Nat.div_le_self _ _) hxb
      have hm : x % 16 < 16 := Nat.mod_lt _ (by decide)
      have ci : (nI i).toNatClampNeg = i := nI_clamp (by omega)
      have ex : hi 45 (3 * t) (nI i).toNatClampNeg = xCd x := by
        rw [ci]
        simpa using hx.1
      have hL' : cods hi t (i + 1) L := by
        intro k hk
        have := hL (k + 1) (by simpa using hk)
        rw [show i + (k + 1) = i + 1 + k by omega] at this
        simpa using this
      have next : ∀ (st' : List Int64) (g' : Nat → Int64), vTk w x st = st' → SK g' st' → st'.length ≤ 60 → vDp L st'.length = some 1 → ∀ l7, fx_E (fx_Ga (d + 1)) fx_M42 (6, [some (.inr (.inr (some (5, t)))), some (vi (nI b)), some (vi (nI (b + L0.length))), some wO, some sO, some (vi (tI st'.length)), some (vi (nI i + 1)), l7], [], hp σ hi (fx_all hl 37 0 g'), 0, 0) (fun r2 h2 => r2 = some (vl ((vEv w (x :: L) st).headD 0)) ∧ ∃ g', h2 = hp σ hi (fx_all hl 37 0 g')) := by
        intro st' g' e1 e2 e3 e4 l7
        have h1 := ih (i + 1) st' g' (by omega) hL' e2 e3 e4 l7
        rw [← nI_1, ← e1] at h1
        rw [← e1]
        exact h1
      refine fx_wpL [6] 60 ?_
      refine pk_le (b + L0.length) i (fun hc => by omega) (fun _ => ?_)
      refine pk_lt i 0 (fun hc => by omega) (fun _ => ?_)
      refine pk_le (σ.2.2.2 (3 * t)) i (fun hc => by omega) (fun _ => ?_)
      refine ⟨ni_in (n := i) (m := σ.2.2.2 (3 * t)) (by omega) (by omega), ?_⟩
      by_cases h0 : x % 16 = 0
      · have ec : hi 45 (3 * t) (nI i).toNatClampNeg = nI (x / 16) := by rw [ex]; unfold xCd; rw [if_pos h0]
        have hdp' : st.length < 60 ∧ vDp L (st.length + 1) = some 1 := by
          unfold vDp at hdp
          rw [if_pos h0] at hdp
          split at hdp
          · rename_i z
            exact ⟨z, hdp⟩
          · cases hdp
        refine ⟨fun (hc : hi 45 (3 * t) (nI i).toNatClampNeg < -11) => absurd hc (by rw [ec]; exact cd_n (by omega)), fun _ => ?_⟩
        refine pk_lt st.length 64 (fun _ => ?_) (fun hc => by omega) (tI_1 _)
        refine pk_lt (x / 16) 0 (fun hc => by omega) (fun _ => ?_) ec
        refine ⟨ni_inx (n := st.length) (m := 64) (tI_1 _) (by omega) (by decide), ?_⟩
        have h2 := next (lN (x / 16) :: st) _ (by unfold vTk; rw [if_pos h0]) (hS.push _) (by simp; omega) hdp'.2 (some (vi (hi 45 (3 * t) (nI i).toNatClampNeg)))
        have el : (hi 45 (3 * t) (nI i).toNatClampNeg).toInt64 = lN (x / 16) := by rw [ec]; exact nI_l (by omega)
        rw [← el, ← up_all, show tI ((hi 45 (3 * t) (nI i).toNatClampNeg).toInt64 :: st).length = tI st.length + 1 from (tI_1 _).symm] at h2
        conv at h2 => rw [show fx_up (fx_all hl 37 0 g) 37 0 st.length = fx_up (fx_all hl 37 0 g) 37 0 (tI st.length + 1).toNatClampNeg by rw [ni_cl (tI_1 _) (by omega)]]
        exact h2
      · by_cases h1 : x % 16 = 1
        · have hdp' : x / 16 < 11 ∧ st.length < 60 ∧ vDp L (st.length + 1) = some 1 := by
            unfold vDp at hdp
            rw [if_neg h0, if_pos h1] at hdp
            split at hdp
            · rename_i z
              exact ⟨z.1, z.2, hdp⟩
            · cases hdp
          have ec : hi 45 (3 * t) (nI i).toNatClampNeg = -1 - nI (x / 16) := by rw [ex]; unfold xCd; rw [if_neg h0, if_pos h1]
          obtain ⟨c1, c2, c3⟩ := cd_w _ hdp'.1
          refine ⟨fun (hc : hi 45 (3 * t) (nI i).toNatClampNeg < -11) => absurd hc (by rw [ec]; exact c1), fun _ => ?_⟩
          refine pk_lt st.length 64 (fun _ => ?_) (fun hc => by omega) (tI_1 _)
          refine ⟨fun _ => ?_, fun (hc : ¬ hi 45 (3 * t) (nI i).toNatClampNeg < 0) => absurd (by rw [ec]; exact c2) hc⟩
          have ew : hi 45 (3 * t) (nI i).toNatClampNeg ^^^ -1 = nI (x / 16) := by rw [ec]; exact c3
          refine ⟨ni_inx (n := x / 16) (m := 11) ew hdp'.1 (by decide), ni_inx (n := st.length) (m := 64) (tI_1 _) (by omega) (by decide), ?_⟩
          have h2 := next (w (x / 16) :: st) _ (by unfold vTk; rw [if_neg h0, if_pos h1]) (hS.push _) (by simp; omega) hdp'.2.2 (some (vi (hi 45 (3 * t) (nI i).toNatClampNeg)))
          have el : hl 36 0 (hi 45 (3 * t) (nI i).toNatClampNeg ^^^ -1).toNatClampNeg = w (x / 16) := by rw [ni_cl ew (by omega)]; exact hw _ hdp'.1
          rw [← el, ← up_all, show tI (hl 36 0 (hi 45 (3 * t) (nI i).toNatClampNeg ^^^ -1).toNatClampNeg :: st).length = tI st.length + 1 from (tI_1 _).symm] at h2
          conv at h2 => rw [show fx_up (fx_all hl 37 0 g) 37 0 st.length = fx_up (fx_all hl 37 0 g) 37 0 (tI st.length + 1).toNatClampNeg by rw [ni_cl (tI_1 _) (by omega)]]
          exact h2
        · have hdp0 : x % 16 ≠ 15 := by
            intro z
            unfold vDp at hdp
            rw [if_neg h0, if_neg h1, if_neg (by omega), if_pos z] at hdp
            cases hdp
          obtain ⟨c1, c2, c3⟩ := cd_o (x % 16) (by omega) (by omega)
          have ec : hi 45 (3 * t) (nI i).toNatClampNeg = -1 - nI (xOp (x % 16)) := by rw [ex]; unfold xCd; rw [if_neg h0, if_neg h1]
          refine ⟨fun _ => ?_, fun (hc : ¬ hi 45 (3 * t) (nI i).toNatClampNeg < -11) => absurd (by rw [ec]; exact c1) hc⟩
          by_cases h2 : x % 16 = 11
          · have hdp' : 1 ≤ st.length ∧ vDp L st.length = some 1 := by
              unfold vDp at hdp
              rw [if_neg h0, if_neg h1, if_pos h2] at hdp
              split at hdp
              · rename_i z
                exact ⟨z, hdp⟩
              · cases hdp
            refine ⟨fun (hc : ¬ hi 45 (3 * t) (nI i).toNatClampNeg = -24) => absurd (by rw [ec]; exact c2.mpr h2) hc, fun _ => ?_⟩
            match st, hS, hlen, hdp', next with
            | a :: r, hS, hlen, hdp', next =>
              obtain ⟨ha, hSr⟩ := hS.pop
              have hr60 : r.length + 1 ≤ 60 := hlen
              refine pk_le 0 r.length (fun _ => ?_) (fun hc => by omega)
              have cr : (nI r.length).toNatClampNeg = r.length := nI_clamp (by omega)
              refine ⟨ni_in (n := r.length) (m := 64) (by omega) (by decide), ni_in (n := r.length) (m := 64) (by omega) (by decide), ?_⟩
              have h3 := next ((1 - a) :: r) _ (by unfold vTk; rw [if_neg h0, if_neg h1, if_pos h2]) (hSr.push _) (by simpa using hlen) (by simpa using hdp'.2) (some (vi (hi 45 (3 * t) (nI i).toNatClampNeg)))
              rw [← up_all, ← show 1 - fx_all hl 37 0 g 37 0 (nI r.length).toNatClampNeg = 1 - a by rw [cr]; exact congrArg (fun z => 1 - z) ha] at h3
              conv at h3 => rw [show fx_up (fx_all hl 37 0 g) 37 0 r.length = fx_up (fx_all hl 37 0 g) 37 0 (nI r.length).toNatClampNeg by rw [cr]]
              exact h3
            | [], _, _, hdp', _ => exact absurd hdp'.1 (by simp)
          · have hdp' : 2 ≤ st.length ∧ vDp L (st.length - 1) = some 1 := by
              unfold vDp at hdp
              rw [if_neg h0, if_neg h1, if_neg h2, if_neg hdp0] at hdp
              split at hdp
              · rename_i z
                exact ⟨z, hdp⟩
              · cases hdp
            refine ⟨fun _ => ?_, fun (hc : ¬ ¬ hi 45 (3 * t) (nI i).toNatClampNeg = -24) => absurd (c2.mp (by rw [← ec]; exact Classical.not_not.mp hc)) h2⟩
            match st, hS, hlen, hdp', next with
            | y :: a :: r, hS, hlen, hdp', next =>
              obtain ⟨hy, hSa⟩ := hS.pop
              obtain ⟨ha, hSr⟩ := hSa.pop
              have hlr : r.length + 2 ≤ 60 := hlen
              refine pk_le 1 (r.length + 1) (fun _ => ?_) (fun hc => by omega)
              have ep : nI (r.length + 1) + -1 = nI r.length := pk_m1 r.length
              have cr : (nI (r.length + 1) + -1 : Int32).toNatClampNeg = r.length := ni_cl ep (by omega)
              have ep1 : nI (r.length + 1) + -1 + 1 = nI (r.length + 1) := by rw [ep]; exact nI_1 _
              have cr1 : (nI (r.length + 1) + -1 + 1 : Int32).toNatClampNeg = r.length + 1 := ni_cl ep1 (by omega)
              refine ⟨ni_inx (n := r.length) (m := 64) ep (by omega) (by decide), ni_inx (n := r.length + 1) (m := 64) ep1 (by omega) (by decide), ?_⟩
              have hj := x_join (d := d) (h := hp σ hi (fx_all hl 37 0 g)) (s := x % 16) (x := fx_all hl 37 0 g 37 0 (nI (r.length + 1) + -1 : Int32).toNatClampNeg) (y := fx_all hl 37 0 g 37 0 (nI (r.length + 1) + -1 + 1 : Int32).toNatClampNeg) ⟨by omega, by omega, h2⟩
              rw [← c3, ← ec] at hj
              refine ⟨_, _, hj, ni_inx (n := r.length) (m := 64) ep (by omega) (by decide), ?_⟩
              have h3 := next (vOne (x % 16) a y :: r) _ (by unfold vTk; rw [if_neg h0, if_neg h1, if_neg h2]) (hSr.push _) (by simp; omega) (by simpa using hdp'.2) (some (vi (hi 45 (3 * t) (nI i).toNatClampNeg)))
              rw [← up_all, ← show vOne (x % 16) (fx_all hl 37 0 g 37 0 (nI (r.length + 1) + -1 : Int32).toNatClampNeg) (fx_all hl 37 0 g 37 0 (nI (r.length + 1) + -1 + 1 : Int32).toNatClampNeg) = vOne (x % 16) a y by rw [cr, cr1, show fx_all hl 37 0 g 37 0 r.length = a from ha, show fx_all hl 37 0 g 37 0 (r.length + 1) = y from hy]] at h3
              conv at h3 => rw [show fx_up (fx_all hl 37 0 g) 37 0 r.length = fx_up (fx_all hl 37 0 g) 37 0 (nI (r.length + 1) + -1 : Int32).toNatClampNeg by rw [cr]]
              rw [show tI (vOne (x % 16) (fx_all hl 37 0 g 37 0 (nI (r.length + 1) + -1 : Int32).toNatClampNeg) (fx_all hl 37 0 g 37 0 (nI (r.length + 1) + -1 + 1 : Int32).toNatClampNeg) :: r).length = nI (r.length + 1) + -1 from ep.symm] at h3
              exact h3
            | [_], _, _, hdp', _ => exact absurd hdp'.1 (by simp)
            | [], _, _, hdp', _ => exact absurd hdp'.1 (by simp)
  obtain ⟨r, h', hg, e1, g', e2⟩ := fx_methX (d := d + 1) (y := 42) (av := [.inr (.inr (some (5, t))), vi (nI b), vi (nI (b + L0.length)), wO, sO]) (h := hp σ hi hl) (P := fun r2 h2 => r2 = some (vl ((vEv w L0 []).headD 0)) ∧ ∃ g', h2 = hp σ hi (fx_all hl 37 0 g')) fx_M42 [some (.inr (.inr (some (5, t)))), some (vi (nI b)), some (vi (nI (b + L0.length))), some wO, some sO, none, none, none] (by decide) rfl rfl (Nat.le_of_ble_eq_true rfl) (fx_wpE [6] 20 (by
    have := loop L0 b [] (hl 37 0) rfl hL0 (fun k hk => absurd hk (by simp)) (by simp) hd0 none
    rw [all_self] at this
    exact this))
  subst e1
  subst e2
  exact ⟨g', hg⟩
end XR
