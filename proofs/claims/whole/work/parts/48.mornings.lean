/-! mornings -/
def vStb (N : Nat → Nat) (p : Nat) (u : Nat → Nat) (x : Nat) : (Nat → Nat) × Nat :=
  if N x / 65536 % 100 < p ∧ 0 < u 4 then
    (if vOut u (N (N x) / 65536 % u 4) then u else vup u (12 + 4 * (N (N x) / 65536 % u 4)) (u (12 + 4 * (N (N x) / 65536 % u 4)) - 2), N (N x))
  else (u, N x)
def vMo (N : Nat → Nat) (rl : Option fxRl) (p : Nat) (v : Nat → Nat) (x : Nat) : Nat → (Nat → Nat) × Nat × Nat
  | 0 => (v, x, 0)
  | j + 1 => ((vStep (vStb N p (vMo N rl p v x j).1 (vMo N rl p v x j).2.1).1 rl none).1, (vStb N p (vMo N rl p v x j).1 (vMo N rl p v x j).2.1).2, (vMo N rl p v x j).2.2 + (if (vStep (vStb N p (vMo N rl p v x j).1 (vMo N rl p v x j).2.1).1 rl none).2.isSome then 1 else 0))
def vMm (N : Nat → Nat) (rl : Option fxRl) (p n : Nat) (v : Nat → Nat) (x : Nat) : Nat → Nat × Nat × Nat
  | 0 => (x, 0, 0)
  | i + 1 => ((vMo N rl p v (vMm N rl p n v x i).1 n).2.1, (vMm N rl p n v x i).2.1 + (vMo N rl p v (vMm N rl p n v x i).1 n).2.2, (vMm N rl p n v x i).2.2 + (vMo N rl p v (vMm N rl p n v x i).1 n).1 11)
def aMorn (N : Nat → Nat) (rl : Option fxRl) (v : Nat → Nat) (x : Nat) (m n p w : Int32) : Int32 := if v 0 = 1 ∧ (1 ≤ m ∧ m ≤ 10) ∧ (1 ≤ n ∧ n ≤ 60) ∧ (0 ≤ p ∧ p ≤ 100) ∧ (0 ≤ w ∧ w ≤ 1) then (if w = 0 then nI (vMm N rl p.toNatClampNeg n.toNatClampNeg v x m.toNatClampNeg).2.1 else nI (vMm N rl p.toNatClampNeg n.toNatClampNeg v x m.toNatClampNeg).2.2) else -1
theorem SB.run {v : Nat → Nat} (h : SB v) {i y : Nat} (hy : y ≤ v 11) : SB (vup v (12 + 4 * i) y) := by
  obtain ⟨s4, s1, s2, s3, s11, si⟩ := h
  refine ⟨by rw [vup_ne (by omega)]; exact s4, by rw [vup_ne (by omega)]; exact s1, by rw [vup_ne (by omega)]; exact s2, by rw [vup_ne (by omega)]; exact s3, by rw [vup_ne (by omega), vup_ne (by omega)]; exact s11, fun i' h6 => ?_⟩
  rw [vup_ne (show 13 + 4 * i' ≠ 12 + 4 * i by omega), vup_ne (show 14 + 4 * i' ≠ 12 + 4 * i by omega), vup_ne (show 15 + 4 * i' ≠ 12 + 4 * i by omega), vup_ne (show 11 ≠ 12 + 4 * i by omega), vup_ne (show 10 ≠ 12 + 4 * i by omega)]
  obtain ⟨q1, q2, q3, q4⟩ := si i' h6
  refine ⟨?_, q2, q3, q4⟩
  unfold vup
  split
  · exact hy
  · exact q1
theorem vStb_v (N : Nat → Nat) (p : Nat) (u : Nat → Nat) (x : Nat) : (vStb N p u x).1 = u ∨ ∃ r, r < u 4 ∧ (vStb N p u x).1 = vup u (12 + 4 * r) (u (12 + 4 * r) - 2) := by
  unfold vStb
  split
  · rename_i h
    dsimp only
    split
    · exact Or.inl rfl
    · exact Or.inr ⟨_, Nat.mod_lt _ h.2, rfl⟩
  · exact Or.inl rfl
theorem vStb_x {N : Nat → Nat} (hN : ∀ x, N x < 2 ^ 31) (p : Nat) (u : Nat → Nat) (x : Nat) : (vStb N p u x).2 < 2 ^ 31 := by
  unfold vStb
  split
  · exact hN _
  · exact hN _
theorem SB.stb {u : Nat → Nat} (h : SB u) (N : Nat → Nat) (p x : Nat) : SB (vStb N p u x).1 := by
  rcases vStb_v N p u x with e | ⟨r, h4, e⟩
  · rw [e]; exact h
  · rw [e]
    have := (h.2.2.2.2.2 r (by have := h.1; omega)).1
    exact h.run (by omega)
theorem vStb_ne (N : Nat → Nat) {u : Nat → Nat} (h4 : u 4 ≤ 6) (p x : Nat) {k : Nat} (hk : k < 12 ∨ 36 ≤ k ∨ k % 4 ≠ 0) : (vStb N p u x).1 k = u k := by
  rcases vStb_v N p u x with e | ⟨r, hr, e⟩
  · rw [e]
  · rw [e]
    exact vup_ne (by omega)
/-- what stays so -/
theorem vMo_ok {N : Nat → Nat} (hN : ∀ x, N x < 2 ^ 31) (rl : Option fxRl) (p : Nat) {v : Nat → Nat} (hs : SB v) (x : Nat) (hx : x < 2 ^ 31) : ∀ j, SB (vMo N rl p v x j).1 ∧ (vMo N rl p v x j).2.1 < 2 ^ 31 ∧ (∀ k, k < 10 ∨ 36 ≤ k → (vMo N rl p v x j).1 k = v k) ∧ (vMo N rl p v x j).1 10 = v 10 + j ∧ vWas (vMo N rl p v x j).1 (v 4) = vWas v (v 4) + (vMo N rl p v x j).2.2 ∧ (vMo N rl p v x j).2.2 ≤ j
  | 0 => ⟨hs, hx, fun _ _ => rfl, rfl, rfl, Nat.le_refl _⟩
  | j + 1 => by
    obtain ⟨h1, h2, h3, h4, h5, h6⟩ := vMo_ok hN rl p hs x hx j
    unfold vMo
    generalize hu : (vMo N rl p v x j).1 = u at h1 h3 h4 h5 ⊢
    generalize hy : (vMo N rl p v x j).2.1 = y at h2 ⊢
    generalize ho : (vMo N rl p v x j).2.2 = o at h5 h6 ⊢
    have u4 : u 4 = v 4 := h3 4 (by omega)
    have hs1 := h1.stb N p y
    have e := fun k (hk : k < 12 ∨ 36 ≤ k ∨ k % 4 ≠ 0) => vStb_ne N h1.1 p y hk
    refine ⟨hs1.step rl none, vStb_x hN p u y, fun k hk => ?_, ?_, ?_, ?_⟩
    · dsimp only
      rcases hk with hk | hk
      · rw [vStep_lo _ _ _ hk, e k (by omega), h3 k (Or.inl hk)]
      · rw [vStep_hi _ _ _ hs1.1 hk, e k (by omega), h3 k (Or.inr hk)]
    · dsimp only
      rw [vStep_10, e 10 (by omega), h4]
      rfl
    · dsimp only
      rw [vWas_one (vStep_was (vStb N p u y).1 rl none) (v 4)]
      have ew : ∀ n, vWas (vStb N p u y).1 n = vWas u n := by
        intro n
        induction n with
        | zero => rfl
        | succ n ih =>
          unfold vWas
          rw [ih, e (15 + 4 * n) (by omega)]
      rw [ew, h5]
      cases hw : (vStep (vStb N p u y).1 rl none).2 with
      | none => simp [vLo]
      | some l =>
        have := vStep_who _ _ _ hw
        rw [e 4 (by omega), u4] at this
        unfold vLo
        dsimp only
        rw [if_pos this]
        simp
        omega
    · dsimp only
      split <;> omega
theorem vMm_ok {N : Nat → Nat} (hN : ∀ x, N x < 2 ^ 31) (rl : Option fxRl) (p n : Nat) {v : Nat → Nat} (hs : SB v) (x : Nat) (hx : x < 2 ^ 31) (h10 : v 10 + n ≤ 9999) : ∀ i, (vMm N rl p n v x i).1 < 2 ^ 31 ∧ (vMm N rl p n v x i).2.1 ≤ i * n ∧ (vMm N rl p n v x i).2.2 ≤ i * 100000
  | 0 => ⟨hx, Nat.zero_le _, Nat.zero_le _⟩
  | i + 1 => by
    obtain ⟨h1, h2, h3⟩ := vMm_ok hN rl p n hs x hx h10 i
    obtain ⟨g1, g2, g3, g4, g5, g6⟩ := vMo_ok hN rl p hs (vMm N rl p n v x i).1 h1 n
    unfold vMm
    dsimp only
    have e1 : (i + 1) * n = i * n + n := Nat.succ_mul i n
    have e2 : (i + 1) * 100000 = i * 100000 + 100000 := Nat.succ_mul i 100000
    have := g1.2.2.2.2.1
    exact ⟨g2, by omega, by omega⟩
def nX (x : Nat) : Nat := (x * 1103515245 + 12345) % 2147483648
theorem nX_lt (x : Nat) : nX x < 2 ^ 31 := Nat.mod_lt _ (by decide)
section MN
variable {d : Nat} {σ : fxS} {hi : fxI3} {hl : fxL3} {v : Nat → Nat} {rl : Option fxRl} {f : Option Nat}
theorem x_nextX {h : fxH} {x : Nat} (hx : x < 2 ^ 31) : fx_Ga (d + 1) 137 [vi (nI x)] h (some (vi (nI (nX x)))) h := by
  refine fx_meth fx_M137 [some (vi (nI x))] (by decide) rfl rfl (Nat.le_of_ble_eq_true rfl) (fx_wpE [] 30 ⟨?_, rfl⟩)
  show some (vi (((nI x).toInt64 * 1103515245 + 12345) &&& 2147483647).toInt32) = _
  rw [nI_l hx, show (1103515245 : Int64) = lN 1103515245 from rfl, show (12345 : Int64) = lN 12345 from rfl, show (2147483647 : Int64) = lN (2 ^ 31 - 1) from rfl, lN_mul, lN_add, wb_mask (by omega) (by decide), lN_i]
  rfl
theorem x_draw {h : fxH} {x : Nat} (hx : x < 2 ^ 31) : fx_Ga (d + 1) 138 [vi (nI x)] h (some (vi (nI (x / 65536)))) h := by
  refine fx_meth fx_M138 [some (vi (nI x))] (by decide) rfl rfl (Nat.le_of_ble_eq_true rfl) (fx_wpE [] 30 ⟨by decide, ?_, rfl⟩)
  exact congrArg (fun z => some (vi z)) (pk_div (d := 65536) hx (by decide) (by decide))
theorem m_draw {x o : Nat} (hx : hl 11 0 33 = lN x) (hx2 : x < 2 ^ 31) (ho : 0 < o) (ho2 : o < 2 ^ 31) : fx_Ga (d + 1) 245 [mO, vi (nI o)] (hp σ hi hl) (some (vi (nI (nX x / 65536 % o)))) (hp σ hi (fx_up hl 11 0 33 (lN (nX x)))) := by
  have e1 : hl 11 0 33 * 1103515245 + 12345 = lN (x * 1103515245 + 12345) := by
    rw [hx, show (1103515245 : Int64) = lN 1103515245 from rfl, show (12345 : Int64) = lN 12345 from rfl, lN_mul, lN_add]
  have e2 : hl 11 0 33 * 1103515245 + 12345 - (hl 11 0 33 * 1103515245 + 12345) / 2147483648 * 2147483648 = lN (nX x) := by
    rw [e1]
    exact pk_lRem (b := 2147483648) (by omega) (by decide) (by decide)
  have e3 : lN (nX x) / 65536 = lN (nX x / 65536) := pk_lDiv (b := 65536) (by have := nX_lt x; omega) (by decide) (by decide)
  have e4 : (nI o).toInt64 = lN o := nI_l ho2
  have e5 : lN (nX x / 65536) - lN (nX x / 65536) / lN o * lN o = lN (nX x / 65536 % o) := pk_lRem (by have := nX_lt x; omega) ho (by omega)
  refine fx_meth fx_M245 [some mO, some (vi (nI o))] (by decide) rfl rfl (Nat.le_of_ble_eq_true rfl) (fx_wpE [] 40 ⟨by decide, by decide, ?_, ?_, ?_⟩)
  · show ¬ (nI o).toInt64 = 0
    rw [e4]
    exact fun z => absurd ((pk_lEQ (b := 0) (by omega) (by decide)).mp z) (by omega)
  · show some (vi ((hl 11 0 33 * 1103515245 + 12345 - (hl 11 0 33 * 1103515245 + 12345) / 2147483648 * 2147483648) / 65536 - (hl 11 0 33 * 1103515245 + 12345 - (hl 11 0 33 * 1103515245 + 12345) / 2147483648 * 2147483648) / 65536 / (nI o).toInt64 * (nI o).toInt64).toInt32) = _
    rw [e2, e3, e4, e5, lN_i]
  · show hp σ hi (fx_up hl 11 0 33 (hl 11 0 33 * 1103515245 + 12345 - (hl 11 0 33 * 1103515245 + 12345) / 2147483648 * 2147483648)) = _
    rw [e2]
theorem max_0 (n : Nat) (h : n < 2 ^ 30) : (if (0 : Int32) < nI n - 2 then nI n - 2 else 0) = nI (n - 2) := by
  by_cases e : 2 ≤ n
  · rw [show nI n - 2 = nI (n - 2) from pk_sub (b := 2) e]
    by_cases z : 2 < n
    · rw [if_pos (show (0 : Int32) < nI (n - 2) from nI_lt (a := 0) (by omega) (by omega))]
    · rw [show n - 2 = 0 by omega, nI_0]
      rfl
  · rcases (show n = 0 ∨ n = 1 by omega) with rfl | rfl <;> decide
theorem m_stumbles (hv : PM hi v) (hb : ∀ i, i < 6 → v (12 + 4 * i) < 2 ^ 30) {r : Nat} (r6 : r < 6) : ∃ hi', fx_Ga (d + 2) 246 [mO, vi (nI r)] (hp σ hi hl) none (hp σ hi' hl) ∧ FrP hi hi' ∧ PM hi' (if vOut v r then v else vup v (12 + 4 * r) (v (12 + 4 * r) - 2)) := by
  have hbr := hb r r6
  by_cases ho : vOut v r = true
  · refine ⟨hi, fx_meth fx_M246 [some mO, some (vi (nI r))] (by decide) rfl rfl (Nat.le_of_ble_eq_true rfl) (fx_wpE [] 40 ?_), FrP.rf hi, by rw [if_pos ho]; exact hv⟩
    exact ⟨_, _, m_isOut hv r6, b01_if (fun hc => absurd ho (by rw [hc]; decide)) (fun _ => ⟨rfl, rfl⟩)⟩
  · have ho : vOut v r = false := by simpa using ho
    refine ⟨fx_up hi 59 0 (12 + 4 * r) (nI (v (12 + 4 * r) - 2)), fx_meth fx_M246 [some mO, some (vi (nI r))] (by decide) rfl rfl (Nat.le_of_ble_eq_true rfl) (fx_wpE [] 60 ?_), FrP.said hi 0 _ _, by rw [ho]; exact hv.put (by omega)⟩
    refine ⟨_, _, m_isOut hv r6, b01_if (fun _ => ?_) (fun hc => absurd ho (by rw [hc]; decide))⟩
    refine ⟨_, _, m_runOf hv r6, pk_le (v (12 + 4 * r)) 2 (fun hle => ?_) (fun hgt => ?_)⟩
    · refine ⟨ni_inx (n := 12 + 4 * r) (m := 83) (ri_0 r) (by omega) (by decide), rfl, ?_⟩
      show hp σ (fx_up hi 59 0 (12 + 4 * nI r : Int32).toNatClampNeg 0) hl = _
      rw [ni_cl (ri_0 r) (by omega), show v (12 + 4 * r) - 2 = 0 by omega, nI_0]
    · refine ⟨_, _, m_runOf hv r6, ni_inx (n := 12 + 4 * r) (m := 83) (ri_0 r) (by omega) (by decide), rfl, ?_⟩
      show hp σ (fx_up hi 59 0 (12 + 4 * nI r : Int32).toNatClampNeg (nI (v (12 + 4 * r)) - 2)) hl = _
      rw [ni_cl (ri_0 r) (by omega), show nI (v (12 + 4 * r)) - 2 = nI (v (12 + 4 * r) - 2) from pk_sub (b := 2) (show 2 ≤ v (12 + 4 * r) by omega)]
theorem x_stumble {N : Nat → Nat} (hN : ∀ x, N x < 2 ^ 31) (hN1 : ∀ {d : Nat} {h : fxH} {x : Nat}, x < 2 ^ 31 → fx_Ga (d + 1) 137 [vi (nI x)] h (some (vi (nI (N x)))) h) {u : Nat → Nat} (hu : PX hi hl 23 u) (hs : SV u) {x p : Nat} (hx : x < 2 ^ 31) (hp100 : p ≤ 100) : ∃ hi', fx_Ga (d + 2) 136 [xO, vi (nI x), vi (nI p)] (hp σ hi hl) (some (vi (nI (vStb N p u x).2))) (hp σ hi' hl) ∧ FrY hi hi' ∧ PX hi' hl 23 (vStb N p u x).1 := by
  obtain ⟨s4, s1, s2, s3, s11, s10, si⟩ := id hs
  have hy := hN x
  have e100 : nI (N x / 65536) - nI (N x / 65536) / 100 * 100 = nI (N x / 65536 % 100) := pk_rem (d := 100) (by omega) (by decide) (by decide)
  have hm := Nat.mod_lt (N x / 65536) (show 0 < 100 by decide)
  let Post : Option fxV → fxH → Prop := fun r2 h2 => r2 = some (vi (nI (vStb N p u x).2)) ∧ ∃ hi', h2 = hp σ hi' hl ∧ FrY hi hi' ∧ PX hi' hl 23 (vStb N p u x).1
  have key : fx_E (fx_Ga (d + 1)) fx_M136 (0, [some xO, some (vi (nI x)), some (vi (nI p)), none, none, none], [], hp σ hi hl, 0, 0) Post := by
    refine fx_wpE [] 80 ⟨_, _, hN1 hx, _, _, x_draw hy, by decide, ?_⟩
    refine pk_le p (N x / 65536 % 100) (fun hle => ?_) (fun hlt => ?_) rfl e100
    · have e : vStb N p u x = (u, N x) := if_neg (by omega)
      exact ⟨by rw [e], hi, rfl, FrY.rf hi, by rw [e]; exact hu⟩
    · refine pk_lt 0 (u 4) (fun h0 => ?_) (fun h0 => ?_) rfl hu.2.2.2.1
      · have hz := hN (N x)
        have er : nI (N (N x) / 65536) - nI (N (N x) / 65536) / hi 1 23 3 * hi 1 23 3 = nI (N (N x) / 65536 % u 4) := by rw [hu.2.2.2.1]; exact pk_rem (by omega) h0 (by omega)
        have hr := Nat.mod_lt (N (N x) / 65536) h0
        generalize hrr : N (N x) / 65536 % u 4 = r at er hr
        have r6 : r < 6 := by omega
        have e : vStb N p u x = (if vOut u r then u else vup u (12 + 4 * r) (u (12 + 4 * r) - 2), N (N x)) := by
          unfold vStb
          rw [if_pos ⟨hlt, h0⟩, hrr]
        obtain ⟨a1, a2, a3, a4⟩ := hu.2.2.2.2.2.2.2 r hr
        obtain ⟨q1, q2, q3, q4⟩ := si r r6
        have br := ni_inx (n := r) (m := 6) er r6 (by decide)
        have cr := ni_cl er (by omega)
        refine ⟨_, _, hN1 hy, _, _, x_draw hz, ?_⟩
        refine ⟨by show ¬ hi 1 23 3 = 0; rw [hu.2.2.2.1]; exact nI_ne0 h0 (by omega), br, ?_⟩
        refine nn_eq (u (14 + 4 * r)) 0 (fun hg0 => ?_) (fun hg0 => ?_) ((congrArg (hi 23 23) cr).trans a3)
        · have ho : vOut u r = false := by unfold vOut; exact decide_eq_false (by omega)
          refine ⟨br, br, by rw [e], fx_up hi 21 23 r (nI (u (12 + 4 * r) - 2)), ?_, FrY.up hi _ (by unfold scx; omega), by rw [e, ho]; exact hu.run r6⟩
          show hp σ (fx_up hi 21 23 (nI (N (N x) / 65536) - nI (N (N x) / 65536) / hi 1 23 3 * hi 1 23 3).toNatClampNeg (if (0 : Int32) < hi 21 23 (nI (N (N x) / 65536) - nI (N (N x) / 65536) / hi 1 23 3 * hi 1 23 3).toNatClampNeg - 2 then hi 21 23 (nI (N (N x) / 65536) - nI (N (N x) / 65536) / hi 1 23 3 * hi 1 23 3).toNatClampNeg - 2 else 0)) hl = _
          rw [cr, a1, max_0 _ (by omega)]
        · have ho : vOut u r = true := by unfold vOut; exact decide_eq_true (by omega)
          exact ⟨by rw [e], hi, rfl, FrY.rf hi, by rw [e, if_pos ho]; exact hu⟩
      · have e : vStb N p u x = (u, N x) := if_neg (by omega)
        exact ⟨by rw [e], hi, rfl, FrY.rf hi, by rw [e]; exact hu⟩
  obtain ⟨r, h', hg, e1, hi', e2, e3, e4⟩ := fx_methX (y := 136) (av := [xO, vi (nI x), vi (nI p)]) fx_M136 [some xO, some (vi (nI x)), some (vi (nI p)), none, none, none] (by decide) rfl rfl (Nat.le_of_ble_eq_true rfl) key
  subst e1
  subst e2
  exact ⟨hi', hg, e3, e4⟩
end MN
