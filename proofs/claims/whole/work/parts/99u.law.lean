/-! the law's loop (by wip/whole/gen_law.py) -/
theorem fx_callC {Γ : fxGa} {M : fxM} {pc x y : Nat} {lv : fxLv} {st : List fxV} {h h1 : fxH} {c n : Nat} {P : Option fxV → fxH → Prop} {r1 : Option fxV} (hF : M.2.1 pc = some (.invokevirtual x)) (hy : fx_lk M.2.2.1.2.1 x = some y) (av rest : List fxV) (hst : st = av.reverse ++ rest) (hlen : av.length = fx_na (fx_Y y)) (h8 : (rest.map fx_cat).sum ≤ 8) (hrc : fx_rcB (fx_Y y) av = true) (hc : c + (fx_Y y).2.1.2.2.2.2.2.1 ≤ M.2.2.2.2.2.1) (hn : n + (fx_Y y).2.1.2.2.2.2.2.2 ≤ M.2.2.2.2.2.2) (g : Γ y av h r1 h1) (k : fx_E Γ M (pc + 3, lv, r1.toList ++ rest, h1, c + (fx_Y y).2.1.2.2.2.2.2.1, n + (fx_Y y).2.1.2.2.2.2.2.2) P) : fx_E Γ M (pc, lv, st, h, c, n) P := by
  obtain ⟨N, r, h', hR, hP⟩ := k
  refine ⟨N + 1, r, h', ?_, hP⟩
  unfold fx_R
  dsimp only
  rw [hF]
  dsimp only
  rw [show fx_cy M (.invokevirtual x) = some y from hy]
  exact ⟨av, rest, r1, h1, hst, hlen, h8, fx_rcB_ok hrc, hc, hn, g, hR⟩
abbrev lwv (i : Nat) : fxLv := [some (.inr (.inr (some (90, 0)))), some xO, some mO, some (vi (nI i))]
theorem SC.bd {L : Nat} {Sc : Nat → Int32} {h : fxH} (s : SC L Sc h) (hL : L ≤ 3072) {i k : Nat} (hk : i + k < L) {x : Int32} (e : x = nI (i + k)) : 0 ≤ x.toInt ∧ x.toInt < ((h.2.1 90 0 : Nat) : Int) := by
  rw [s.1]
  exact ni_inx e hk (by omega)
theorem SC.at {L : Nat} {Sc : Nat → Int32} {h : fxH} (s : SC L Sc h) (hL : L ≤ 3072) {i k : Nat} (hk : i + k < L) {x : Int32} (e : x = nI (i + k)) : Sc (i + k) = h.2.2.2.1 90 0 x.toNatClampNeg := by
  rw [ni_cl e (by omega)]
  exact (s.2 _).symm
theorem LI.sc {L : Nat} {Sc : Nat → Int32} {h : fxH} (li : LI L Sc h) : SC L Sc h := by
  obtain ⟨σ, hi, hl, v, f, x, N, Rs, m, us, n, T, im, rfl, eL, gx, gm, mi⟩ := li
  exact ⟨eL, gx.2.1.2.2.2.2⟩
section LW
variable {L i c n : Nat} {Sc : Nat → Int32} {h : fxH} {P : Option fxV → fxH → Prop}
theorem lc_feed (li : LI L Sc h) (hi6 : i + 6 ≤ L) (hL : L ≤ 3072) (hc : c + 4 ≤ 600000) (hn : n + 1204 ≤ 7302250) (k : ∀ h2 c2 n2, LI L Sc h2 → c2 ≤ c + 4 → n2 ≤ n + 1204 → fx_E (fx_Ga 20) fx_ML (1213, lwv i, [], h2, c2, n2) P) : fx_E (fx_Ga 20) fx_ML (188, lwv i, [], h, c, n) P := by
  have sc := li.sc
  obtain ⟨a, h1, h2, g1, g2, sc1, li2⟩ := op_feed li (Sc (i + 1)) (Sc (i + 2)) (Sc (i + 3)) (Sc (i + 4)) (Sc (i + 5))
  have x1 : (nI i + 1 : Int32) = nI (i + 1) := nI_add i 1
  have x2 : (nI i + 2 : Int32) = nI (i + 2) := nI_add i 2
  have x3 : (nI i + 3 : Int32) = nI (i + 3) := nI_add i 3
  have x4 : (nI i + 4 : Int32) = nI (i + 4) := nI_add i 4
  have x5 : (nI i + 5 : Int32) = nI (i + 5) := nI_add i 5
  rw [sc.at hL (show i + 1 < L by omega) x1, sc.at hL (show i + 2 < L by omega) x2, sc.at hL (show i + 3 < L by omega) x3, sc.at hL (show i + 4 < L by omega) x4, sc.at hL (show i + 5 < L by omega) x5] at g1
  rw [sc1.at hL (show i + 1 < L by omega) x1, sc1.at hL (show i + 2 < L by omega) x2, sc1.at hL (show i + 3 < L by omega) x3, sc1.at hL (show i + 4 < L by omega) x4, sc1.at hL (show i + 5 < L by omega) x5] at g2
  have s3 : fx_E (fx_Ga 20) fx_ML (246, lwv i, [vi a, vi a], h2, c + 0 + 0, n + 0 + 0) P := fx_wpE [1213] 10 ⟨fun _ => k h2 _ _ li2 (by omega) (by omega), fun w => absurd rfl w⟩
  have s2 : fx_E (fx_Ga 20) fx_ML (243, lwv i, [vi (h1.2.2.2.1 90 0 (nI i + 5 : Int32).toNatClampNeg), vi (h1.2.2.2.1 90 0 (nI i + 4 : Int32).toNatClampNeg), vi (h1.2.2.2.1 90 0 (nI i + 3 : Int32).toNatClampNeg), vi (h1.2.2.2.1 90 0 (nI i + 2 : Int32).toNatClampNeg), vi (h1.2.2.2.1 90 0 (nI i + 1 : Int32).toNatClampNeg), mO, vi a], h1, c + 0, n + 0) P := fx_callC rfl rfl [mO, vi (h1.2.2.2.1 90 0 (nI i + 1 : Int32).toNatClampNeg), vi (h1.2.2.2.1 90 0 (nI i + 2 : Int32).toNatClampNeg), vi (h1.2.2.2.1 90 0 (nI i + 3 : Int32).toNatClampNeg), vi (h1.2.2.2.1 90 0 (nI i + 4 : Int32).toNatClampNeg), vi (h1.2.2.2.1 90 0 (nI i + 5 : Int32).toNatClampNeg)] [vi a] rfl rfl (show 1 ≤ 8 by decide) rfl (show c + 0 + 0 ≤ 600000 by omega) (show n + 0 + 0 ≤ 7302250 by omega) g2 s3
  have s1 : fx_E (fx_Ga 20) fx_ML (217, lwv i, [vi a], h1, c + 0, n + 0) P := fx_wpE [243] 40 ⟨sc1.bd hL (show i + 1 < L by omega) x1, sc1.bd hL (show i + 2 < L by omega) x2, sc1.bd hL (show i + 3 < L by omega) x3, sc1.bd hL (show i + 4 < L by omega) x4, sc1.bd hL (show i + 5 < L by omega) x5, s2⟩
  have s0 : fx_E (fx_Ga 20) fx_ML (214, lwv i, [vi (h.2.2.2.1 90 0 (nI i + 5 : Int32).toNatClampNeg), vi (h.2.2.2.1 90 0 (nI i + 4 : Int32).toNatClampNeg), vi (h.2.2.2.1 90 0 (nI i + 3 : Int32).toNatClampNeg), vi (h.2.2.2.1 90 0 (nI i + 2 : Int32).toNatClampNeg), vi (h.2.2.2.1 90 0 (nI i + 1 : Int32).toNatClampNeg), xO], h, c, n) P := fx_callC rfl rfl [xO, vi (h.2.2.2.1 90 0 (nI i + 1 : Int32).toNatClampNeg), vi (h.2.2.2.1 90 0 (nI i + 2 : Int32).toNatClampNeg), vi (h.2.2.2.1 90 0 (nI i + 3 : Int32).toNatClampNeg), vi (h.2.2.2.1 90 0 (nI i + 4 : Int32).toNatClampNeg), vi (h.2.2.2.1 90 0 (nI i + 5 : Int32).toNatClampNeg)] [] rfl rfl (show 0 ≤ 8 by decide) rfl (show c + 0 ≤ 600000 by omega) (show n + 0 ≤ 7302250 by omega) g1 s1
  exact fx_wpE [214] 40 ⟨sc.bd hL (show i + 1 < L by omega) x1, sc.bd hL (show i + 2 < L by omega) x2, sc.bd hL (show i + 3 < L by omega) x3, sc.bd hL (show i + 4 < L by omega) x4, sc.bd hL (show i + 5 < L by omega) x5, s0⟩
theorem lc_end (li : LI L Sc h) (hi6 : i + 6 ≤ L) (hL : L ≤ 3072) (hc : c + 4 ≤ 600000) (hn : n + 1204 ≤ 7302250) (k : ∀ h2 c2 n2, LI L Sc h2 → c2 ≤ c + 4 → n2 ≤ n + 1204 → fx_E (fx_Ga 20) fx_ML (1213, lwv i, [], h2, c2, n2) P) : fx_E (fx_Ga 20) fx_ML (251, lwv i, [], h, c, n) P := by
  have sc := li.sc
  obtain ⟨a, h1, h2, g1, g2, sc1, li2⟩ := op_end li (Sc (i + 1))
  have x1 : (nI i + 1 : Int32) = nI (i + 1) := nI_add i 1
  rw [sc.at hL (show i + 1 < L by omega) x1] at g1
  rw [sc1.at hL (show i + 1 < L by omega) x1] at g2
  have s3 : fx_E (fx_Ga 20) fx_ML (269, lwv i, [vi a, vi a], h2, c + 0 + 0, n + 0 + 0) P := fx_wpE [1213] 10 ⟨fun _ => k h2 _ _ li2 (by omega) (by omega), fun w => absurd rfl w⟩
  have s2 : fx_E (fx_Ga 20) fx_ML (266, lwv i, [vi (h1.2.2.2.1 90 0 (nI i + 1 : Int32).toNatClampNeg), mO, vi a], h1, c + 0, n + 0) P := fx_callC rfl rfl [mO, vi (h1.2.2.2.1 90 0 (nI i + 1 : Int32).toNatClampNeg)] [vi a] rfl rfl (show 1 ≤ 8 by decide) rfl (show c + 0 + 0 ≤ 600000 by omega) (show n + 0 + 0 ≤ 7302250 by omega) g2 s3
  have s1 : fx_E (fx_Ga 20) fx_ML (260, lwv i, [vi a], h1, c + 0, n + 0) P := fx_wpE [266] 40 ⟨sc1.bd hL (show i + 1 < L by omega) x1, s2⟩
  have s0 : fx_E (fx_Ga 20) fx_ML (257, lwv i, [vi (h.2.2.2.1 90 0 (nI i + 1 : Int32).toNatClampNeg), xO], h, c, n) P := fx_callC rfl rfl [xO, vi (h.2.2.2.1 90 0 (nI i + 1 : Int32).toNatClampNeg)] [] rfl rfl (show 0 ≤ 8 by decide) rfl (show c + 0 ≤ 600000 by omega) (show n + 0 ≤ 7302250 by omega) g1 s1
  exact fx_wpE [257] 40 ⟨sc.bd hL (show i + 1 < L by omega) x1, s0⟩
theorem lc_hunt (li : LI L Sc h) (hi6 : i + 6 ≤ L) (hL : L ≤ 3072) (hc : c + 4 ≤ 600000) (hn : n + 1204 ≤ 7302250) (k : ∀ h2 c2 n2, LI L Sc h2 → c2 ≤ c + 4 → n2 ≤ n + 1204 → fx_E (fx_Ga 20) fx_ML (1213, lwv i, [], h2, c2, n2) P) : fx_E (fx_Ga 20) fx_ML (274, lwv i, [], h, c, n) P := by
  have sc := li.sc
  obtain ⟨a, h1, h2, g1, g2, sc1, li2⟩ := op_hunt li 
  have s3 : fx_E (fx_Ga 20) fx_ML (282, lwv i, [vi a, vi a], h2, c + 0 + 0, n + 0 + 0) P := fx_wpE [1213] 10 ⟨fun _ => k h2 _ _ li2 (by omega) (by omega), fun w => absurd rfl w⟩
  have s2 : fx_E (fx_Ga 20) fx_ML (279, lwv i, [mO, vi a], h1, c + 0, n + 0) P := fx_callC rfl rfl [mO] [vi a] rfl rfl (show 1 ≤ 8 by decide) rfl (show c + 0 + 0 ≤ 600000 by omega) (show n + 0 + 0 ≤ 7302250 by omega) g2 s3
  have s1 : fx_E (fx_Ga 20) fx_ML (278, lwv i, [vi a], h1, c + 0, n + 0) P := fx_wpE [279] 40 s2
  have s0 : fx_E (fx_Ga 20) fx_ML (275, lwv i, [xO], h, c, n) P := fx_callC rfl rfl [xO] [] rfl rfl (show 0 ≤ 8 by decide) rfl (show c + 0 ≤ 600000 by omega) (show n + 0 ≤ 7302250 by omega) g1 s1
  exact fx_wpE [275] 40 s0
theorem lc_rule (li : LI L Sc h) (hi6 : i + 6 ≤ L) (hL : L ≤ 3072) (hc : c + 4 ≤ 600000) (hn : n + 1204 ≤ 7302250) (k : ∀ h2 c2 n2, LI L Sc h2 → c2 ≤ c + 4 → n2 ≤ n + 1204 → fx_E (fx_Ga 20) fx_ML (1213, lwv i, [], h2, c2, n2) P) : fx_E (fx_Ga 20) fx_ML (287, lwv i, [], h, c, n) P := by
  have sc := li.sc
  obtain ⟨a, h1, h2, g1, g2, sc1, li2⟩ := op_rule li 
  have s3 : fx_E (fx_Ga 20) fx_ML (295, lwv i, [vi a, vi a], h2, c + 4 + 0, n + 1204 + 0) P := fx_wpE [1213] 10 ⟨fun _ => k h2 _ _ li2 (by omega) (by omega), fun w => absurd rfl w⟩
  have s2 : fx_E (fx_Ga 20) fx_ML (292, lwv i, [mO, vi a], h1, c + 4, n + 1204) P := fx_callC rfl rfl [mO] [vi a] rfl rfl (show 1 ≤ 8 by decide) rfl (show c + 4 + 0 ≤ 600000 by omega) (show n + 1204 + 0 ≤ 7302250 by omega) g2 s3
  have s1 : fx_E (fx_Ga 20) fx_ML (291, lwv i, [vi a], h1, c + 4, n + 1204) P := fx_wpE [292] 40 s2
  have s0 : fx_E (fx_Ga 20) fx_ML (288, lwv i, [xO], h, c, n) P := fx_callC rfl rfl [xO] [] rfl rfl (show 0 ≤ 8 by decide) rfl (show c + 4 ≤ 600000 by omega) (show n + 1204 ≤ 7302250 by omega) g1 s1
  exact fx_wpE [288] 40 s0
theorem lc_force (li : LI L Sc h) (hi6 : i + 6 ≤ L) (hL : L ≤ 3072) (hc : c + 4 ≤ 600000) (hn : n + 1204 ≤ 7302250) (k : ∀ h2 c2 n2, LI L Sc h2 → c2 ≤ c + 4 → n2 ≤ n + 1204 → fx_E (fx_Ga 20) fx_ML (1213, lwv i, [], h2, c2, n2) P) : fx_E (fx_Ga 20) fx_ML (300, lwv i, [], h, c, n) P := by
  have sc := li.sc
  obtain ⟨a, h1, h2, g1, g2, sc1, li2⟩ := op_force li (Sc (i + 1))
  have x1 : (nI i + 1 : Int32) = nI (i + 1) := nI_add i 1
  rw [sc.at hL (show i + 1 < L by omega) x1] at g1
  rw [sc1.at hL (show i + 1 < L by omega) x1] at g2
  have s3 : fx_E (fx_Ga 20) fx_ML (318, lwv i, [vi a, vi a], h2, c + 0 + 0, n + 0 + 0) P := fx_wpE [1213] 10 ⟨fun _ => k h2 _ _ li2 (by omega) (by omega), fun w => absurd rfl w⟩
  have s2 : fx_E (fx_Ga 20) fx_ML (315, lwv i, [vi (h1.2.2.2.1 90 0 (nI i + 1 : Int32).toNatClampNeg), mO, vi a], h1, c + 0, n + 0) P := fx_callC rfl rfl [mO, vi (h1.2.2.2.1 90 0 (nI i + 1 : Int32).toNatClampNeg)] [vi a] rfl rfl (show 1 ≤ 8 by decide) rfl (show c + 0 + 0 ≤ 600000 by omega) (show n + 0 + 0 ≤ 7302250 by omega) g2 s3
  have s1 : fx_E (fx_Ga 20) fx_ML (309, lwv i, [vi a], h1, c + 0, n + 0) P := fx_wpE [315] 40 ⟨sc1.bd hL (show i + 1 < L by omega) x1, s2⟩
  have s0 : fx_E (fx_Ga 20) fx_ML (306, lwv i, [vi (h.2.2.2.1 90 0 (nI i + 1 : Int32).toNatClampNeg), xO], h, c, n) P := fx_callC rfl rfl [xO, vi (h.2.2.2.1 90 0 (nI i + 1 : Int32).toNatClampNeg)] [] rfl rfl (show 0 ≤ 8 by decide) rfl (show c + 0 ≤ 600000 by omega) (show n + 0 ≤ 7302250 by omega) g1 s1
  exact fx_wpE [306] 40 ⟨sc.bd hL (show i + 1 < L by omega) x1, s0⟩
theorem lc_rider (li : LI L Sc h) (hi6 : i + 6 ≤ L) (hL : L ≤ 3072) (hc : c + 4 ≤ 600000) (hn : n + 1204 ≤ 7302250) (k : ∀ h2 c2 n2, LI L Sc h2 → c2 ≤ c + 4 → n2 ≤ n + 1204 → fx_E (fx_Ga 20) fx_ML (1213, lwv i, [], h2, c2, n2) P) : fx_E (fx_Ga 20) fx_ML (323, lwv i, [], h, c, n) P := by
  have sc := li.sc
  obtain ⟨a, h1, h2, g1, g2, sc1, li2⟩ := op_rider li (Sc (i + 1)) (Sc (i + 2))
  have x1 : (nI i + 1 : Int32) = nI (i + 1) := nI_add i 1
  have x2 : (nI i + 2 : Int32) = nI (i + 2) := nI_add i 2
  rw [sc.at hL (show i + 1 < L by omega) x1, sc.at hL (show i + 2 < L by omega) x2] at g1
  rw [sc1.at hL (show i + 1 < L by omega) x1, sc1.at hL (show i + 2 < L by omega) x2] at g2
  have s3 : fx_E (fx_Ga 20) fx_ML (351, lwv i, [vi a, vi a], h2, c + 0 + 0, n + 0 + 0) P := fx_wpE [1213] 10 ⟨fun _ => k h2 _ _ li2 (by omega) (by omega), fun w => absurd rfl w⟩
  have s2 : fx_E (fx_Ga 20) fx_ML (348, lwv i, [vi (h1.2.2.2.1 90 0 (nI i + 2 : Int32).toNatClampNeg), vi (h1.2.2.2.1 90 0 (nI i + 1 : Int32).toNatClampNeg), mO, vi a], h1, c + 0, n + 0) P := fx_callC rfl rfl [mO, vi (h1.2.2.2.1 90 0 (nI i + 1 : Int32).toNatClampNeg), vi (h1.2.2.2.1 90 0 (nI i + 2 : Int32).toNatClampNeg)] [vi a] rfl rfl (show 1 ≤ 8 by decide) rfl (show c + 0 + 0 ≤ 600000 by omega) (show n + 0 + 0 ≤ 7302250 by omega) g2 s3
  have s1 : fx_E (fx_Ga 20) fx_ML (337, lwv i, [vi a], h1, c + 0, n + 0) P := fx_wpE [348] 40 ⟨sc1.bd hL (show i + 1 < L by omega) x1, sc1.bd hL (show i + 2 < L by omega) x2, s2⟩
  have s0 : fx_E (fx_Ga 20) fx_ML (334, lwv i, [vi (h.2.2.2.1 90 0 (nI i + 2 : Int32).toNatClampNeg), vi (h.2.2.2.1 90 0 (nI i + 1 : Int32).toNatClampNeg), xO], h, c, n) P := fx_callC rfl rfl [xO, vi (h.2.2.2.1 90 0 (nI i + 1 : Int32).toNatClampNeg), vi (h.2.2.2.1 90 0 (nI i + 2 : Int32).toNatClampNeg)] [] rfl rfl (show 0 ≤ 8 by decide) rfl (show c + 0 ≤ 600000 by omega) (show n + 0 ≤ 7302250 by omega) g1 s1
  exact fx_wpE [334] 40 ⟨sc.bd hL (show i + 1 < L by omega) x1, sc.bd hL (show i + 2 < L by omega) x2, s0⟩
theorem lc_gateAt (li : LI L Sc h) (hi6 : i + 6 ≤ L) (hL : L ≤ 3072) (hc : c + 4 ≤ 600000) (hn : n + 1204 ≤ 7302250) (k : ∀ h2 c2 n2, LI L Sc h2 → c2 ≤ c + 4 → n2 ≤ n + 1204 → fx_E (fx_Ga 20) fx_ML (1213, lwv i, [], h2, c2, n2) P) : fx_E (fx_Ga 20) fx_ML (356, lwv i, [], h, c, n) P := by
  have sc := li.sc
  obtain ⟨a, h1, h2, g1, g2, sc1, li2⟩ := op_gateAt li (Sc (i + 1))
  have x1 : (nI i + 1 : Int32) = nI (i + 1) := nI_add i 1
  rw [sc.at hL (show i + 1 < L by omega) x1] at g1
  rw [sc1.at hL (show i + 1 < L by omega) x1] at g2
  have s3 : fx_E (fx_Ga 20) fx_ML (374, lwv i, [vi a, vi a], h2, c + 0 + 0, n + 0 + 0) P := fx_wpE [1213] 10 ⟨fun _ => k h2 _ _ li2 (by omega) (by omega), fun w => absurd rfl w⟩
  have s2 : fx_E (fx_Ga 20) fx_ML (371, lwv i, [vi (h1.2.2.2.1 90 0 (nI i + 1 : Int32).toNatClampNeg), mO, vi a], h1, c + 0, n + 0) P := fx_callC rfl rfl [mO, vi (h1.2.2.2.1 90 0 (nI i + 1 : Int32).toNatClampNeg)] [vi a] rfl rfl (show 1 ≤ 8 by decide) rfl (show c + 0 + 0 ≤ 600000 by omega) (show n + 0 + 0 ≤ 7302250 by omega) g2 s3
  have s1 : fx_E (fx_Ga 20) fx_ML (365, lwv i, [vi a], h1, c + 0, n + 0) P := fx_wpE [371] 40 ⟨sc1.bd hL (show i + 1 < L by omega) x1, s2⟩
  have s0 : fx_E (fx_Ga 20) fx_ML (362, lwv i, [vi (h.2.2.2.1 90 0 (nI i + 1 : Int32).toNatClampNeg), xO], h, c, n) P := fx_callC rfl rfl [xO, vi (h.2.2.2.1 90 0 (nI i + 1 : Int32).toNatClampNeg)] [] rfl rfl (show 0 ≤ 8 by decide) rfl (show c + 0 ≤ 600000 by omega) (show n + 0 ≤ 7302250 by omega) g1 s1
  exact fx_wpE [362] 40 ⟨sc.bd hL (show i + 1 < L by omega) x1, s0⟩
theorem lc_step (li : LI L Sc h) (hi6 : i + 6 ≤ L) (hL : L ≤ 3072) (hc : c + 4 ≤ 600000) (hn : n + 1204 ≤ 7302250) (k : ∀ h2 c2 n2, LI L Sc h2 → c2 ≤ c + 4 → n2 ≤ n + 1204 → fx_E (fx_Ga 20) fx_ML (1213, lwv i, [], h2, c2, n2) P) : fx_E (fx_Ga 20) fx_ML (379, lwv i, [], h, c, n) P := by
  have sc := li.sc
  obtain ⟨a, h1, h2, g1, g2, sc1, li2⟩ := op_step li 
  have s3 : fx_E (fx_Ga 20) fx_ML (387, lwv i, [vi a, vi a], h2, c + 0 + 0, n + 0 + 0) P := fx_wpE [1213] 10 ⟨fun _ => k h2 _ _ li2 (by omega) (by omega), fun w => absurd rfl w⟩
  have s2 : fx_E (fx_Ga 20) fx_ML (384, lwv i, [mO, vi a], h1, c + 0, n + 0) P := fx_callC rfl rfl [mO] [vi a] rfl rfl (show 1 ≤ 8 by decide) rfl (show c + 0 + 0 ≤ 600000 by omega) (show n + 0 + 0 ≤ 7302250 by omega) g2 s3
  have s1 : fx_E (fx_Ga 20) fx_ML (383, lwv i, [vi a], h1, c + 0, n + 0) P := fx_wpE [384] 40 s2
  have s0 : fx_E (fx_Ga 20) fx_ML (380, lwv i, [xO], h, c, n) P := fx_callC rfl rfl [xO] [] rfl rfl (show 0 ≤ 8 by decide) rfl (show c + 0 ≤ 600000 by omega) (show n + 0 ≤ 7302250 by omega) g1 s1
  exact fx_wpE [380] 40 s0
theorem lc_spur (li : LI L Sc h) (hi6 : i + 6 ≤ L) (hL : L ≤ 3072) (hc : c + 4 ≤ 600000) (hn : n + 1204 ≤ 7302250) (k : ∀ h2 c2 n2, LI L Sc h2 → c2 ≤ c + 4 → n2 ≤ n + 1204 → fx_E (fx_Ga 20) fx_ML (1213, lwv i, [], h2, c2, n2) P) : fx_E (fx_Ga 20) fx_ML (392, lwv i, [], h, c, n) P := by
  have sc := li.sc
  obtain ⟨a, h1, h2, g1, g2, sc1, li2⟩ := op_spur li (Sc (i + 1)) (Sc (i + 2))
  have x1 : (nI i + 1 : Int32) = nI (i + 1) := nI_add i 1
  have x2 : (nI i + 2 : Int32) = nI (i + 2) := nI_add i 2
  rw [sc.at hL (show i + 1 < L by omega) x1, sc.at hL (show i + 2 < L by omega) x2] at g1
  rw [sc1.at hL (show i + 1 < L by omega) x1, sc1.at hL (show i + 2 < L by omega) x2] at g2
  have s3 : fx_E (fx_Ga 20) fx_ML (420, lwv i, [vi a, vi a], h2, c + 0 + 0, n + 0 + 0) P := fx_wpE [1213] 10 ⟨fun _ => k h2 _ _ li2 (by omega) (by omega), fun w => absurd rfl w⟩
  have s2 : fx_E (fx_Ga 20) fx_ML (417, lwv i, [vi (h1.2.2.2.1 90 0 (nI i + 2 : Int32).toNatClampNeg), vi (h1.2.2.2.1 90 0 (nI i + 1 : Int32).toNatClampNeg), mO, vi a], h1, c + 0, n + 0) P := fx_callC rfl rfl [mO, vi (h1.2.2.2.1 90 0 (nI i + 1 : Int32).toNatClampNeg), vi (h1.2.2.2.1 90 0 (nI i + 2 : Int32).toNatClampNeg)] [vi a] rfl rfl (show 1 ≤ 8 by decide) rfl (show c + 0 + 0 ≤ 600000 by omega) (show n + 0 + 0 ≤ 7302250 by omega) g2 s3
  have s1 : fx_E (fx_Ga 20) fx_ML (406, lwv i, [vi a], h1, c + 0, n + 0) P := fx_wpE [417] 40 ⟨sc1.bd hL (show i + 1 < L by omega) x1, sc1.bd hL (show i + 2 < L by omega) x2, s2⟩
  have s0 : fx_E (fx_Ga 20) fx_ML (403, lwv i, [vi (h.2.2.2.1 90 0 (nI i + 2 : Int32).toNatClampNeg), vi (h.2.2.2.1 90 0 (nI i + 1 : Int32).toNatClampNeg), xO], h, c, n) P := fx_callC rfl rfl [xO, vi (h.2.2.2.1 90 0 (nI i + 1 : Int32).toNatClampNeg), vi (h.2.2.2.1 90 0 (nI i + 2 : Int32).toNatClampNeg)] [] rfl rfl (show 0 ≤ 8 by decide) rfl (show c + 0 ≤ 600000 by omega) (show n + 0 ≤ 7302250 by omega) g1 s1
  exact fx_wpE [403] 40 ⟨sc.bd hL (show i + 1 < L by omega) x1, sc.bd hL (show i + 2 < L by omega) x2, s0⟩
theorem lc_hold (li : LI L Sc h) (hi6 : i + 6 ≤ L) (hL : L ≤ 3072) (hc : c + 4 ≤ 600000) (hn : n + 1204 ≤ 7302250) (k : ∀ h2 c2 n2, LI L Sc h2 → c2 ≤ c + 4 → n2 ≤ n + 1204 → fx_E (fx_Ga 20) fx_ML (1213, lwv i, [], h2, c2, n2) P) : fx_E (fx_Ga 20) fx_ML (425, lwv i, [], h, c, n) P := by
  have sc := li.sc
  obtain ⟨a, h1, h2, g1, g2, sc1, li2⟩ := op_hold li (Sc (i + 1)) (Sc (i + 2))
  have x1 : (nI i + 1 : Int32) = nI (i + 1) := nI_add i 1
  have x2 : (nI i + 2 : Int32) = nI (i + 2) := nI_add i 2
  rw [sc.at hL (show i + 1 < L by omega) x1, sc.at hL (show i + 2 < L by omega) x2] at g1
  rw [sc1.at hL (show i + 1 < L by omega) x1, sc1.at hL (show i + 2 < L by omega) x2] at g2
  have s3 : fx_E (fx_Ga 20) fx_ML (453, lwv i, [vi a, vi a], h2, c + 0 + 0, n + 0 + 0) P := fx_wpE [1213] 10 ⟨fun _ => k h2 _ _ li2 (by omega) (by omega), fun w => absurd rfl w⟩
  have s2 : fx_E (fx_Ga 20) fx_ML (450, lwv i, [vi (h1.2.2.2.1 90 0 (nI i + 2 : Int32).toNatClampNeg), vi (h1.2.2.2.1 90 0 (nI i + 1 : Int32).toNatClampNeg), mO, vi a], h1, c + 0, n + 0) P := fx_callC rfl rfl [mO, vi (h1.2.2.2.1 90 0 (nI i + 1 : Int32).toNatClampNeg), vi (h1.2.2.2.1 90 0 (nI i + 2 : Int32).toNatClampNeg)] [vi a] rfl rfl (show 1 ≤ 8 by decide) rfl (show c + 0 + 0 ≤ 600000 by omega) (show n + 0 + 0 ≤ 7302250 by omega) g2 s3
  have s1 : fx_E (fx_Ga 20) fx_ML (439, lwv i, [vi a], h1, c + 0, n + 0) P := fx_wpE [450] 40 ⟨sc1.bd hL (show i + 1 < L by omega) x1, sc1.bd hL (show i + 2 < L by omega) x2, s2⟩
  have s0 : fx_E (fx_Ga 20) fx_ML (436, lwv i, [vi (h.2.2.2.1 90 0 (nI i + 2 : Int32).toNatClampNeg), vi (h.2.2.2.1 90 0 (nI i + 1 : Int32).toNatClampNeg), xO], h, c, n) P := fx_callC rfl rfl [xO, vi (h.2.2.2.1 90 0 (nI i + 1 : Int32).toNatClampNeg), vi (h.2.2.2.1 90 0 (nI i + 2 : Int32).toNatClampNeg)] [] rfl rfl (show 0 ≤ 8 by decide) rfl (show c + 0 ≤ 600000 by omega) (show n + 0 ≤ 7302250 by omega) g1 s1
  exact fx_wpE [436] 40 ⟨sc.bd hL (show i + 1 < L by omega) x1, sc.bd hL (show i + 2 < L by omega) x2, s0⟩
theorem lc_dig (li : LI L Sc h) (hi6 : i + 6 ≤ L) (hL : L ≤ 3072) (hc : c + 4 ≤ 600000) (hn : n + 1204 ≤ 7302250) (k : ∀ h2 c2 n2, LI L Sc h2 → c2 ≤ c + 4 → n2 ≤ n + 1204 → fx_E (fx_Ga 20) fx_ML (1213, lwv i, [], h2, c2, n2) P) : fx_E (fx_Ga 20) fx_ML (458, lwv i, [], h, c, n) P := by
  have sc := li.sc
  obtain ⟨a, h1, h2, g1, g2, sc1, li2⟩ := op_dig li (Sc (i + 1))
  have x1 : (nI i + 1 : Int32) = nI (i + 1) := nI_add i 1
  rw [sc.at hL (show i + 1 < L by omega) x1] at g1
  rw [sc1.at hL (show i + 1 < L by omega) x1] at g2
  have s3 : fx_E (fx_Ga 20) fx_ML (476, lwv i, [vi a, vi a], h2, c + 0 + 0, n + 0 + 0) P := fx_wpE [1213] 10 ⟨fun _ => k h2 _ _ li2 (by omega) (by omega), fun w => absurd rfl w⟩
  have s2 : fx_E (fx_Ga 20) fx_ML (473, lwv i, [vi (h1.2.2.2.1 90 0 (nI i + 1 : Int32).toNatClampNeg), mO, vi a], h1, c + 0, n + 0) P := fx_callC rfl rfl [mO, vi (h1.2.2.2.1 90 0 (nI i + 1 : Int32).toNatClampNeg)] [vi a] rfl rfl (show 1 ≤ 8 by decide) rfl (show c + 0 + 0 ≤ 600000 by omega) (show n + 0 + 0 ≤ 7302250 by omega) g2 s3
  have s1 : fx_E (fx_Ga 20) fx_ML (467, lwv i, [vi a], h1, c + 0, n + 0) P := fx_wpE [473] 40 ⟨sc1.bd hL (show i + 1 < L by omega) x1, s2⟩
  have s0 : fx_E (fx_Ga 20) fx_ML (464, lwv i, [vi (h.2.2.2.1 90 0 (nI i + 1 : Int32).toNatClampNeg), xO], h, c, n) P := fx_callC rfl rfl [xO, vi (h.2.2.2.1 90 0 (nI i + 1 : Int32).toNatClampNeg)] [] rfl rfl (show 0 ≤ 8 by decide) rfl (show c + 0 ≤ 600000 by omega) (show n + 0 ≤ 7302250 by omega) g1 s1
  exact fx_wpE [464] 40 ⟨sc.bd hL (show i + 1 < L by omega) x1, s0⟩
theorem lc_gate (li : LI L Sc h) (hi6 : i + 6 ≤ L) (hL : L ≤ 3072) (hc : c + 4 ≤ 600000) (hn : n + 1204 ≤ 7302250) (k : ∀ h2 c2 n2, LI L Sc h2 → c2 ≤ c + 4 → n2 ≤ n + 1204 → fx_E (fx_Ga 20) fx_ML (1213, lwv i, [], h2, c2, n2) P) : fx_E (fx_Ga 20) fx_ML (481, lwv i, [], h, c, n) P := by
  have sc := li.sc
  obtain ⟨a, h1, h2, g1, g2, sc1, li2⟩ := op_gate li (Sc (i + 1))
  have x1 : (nI i + 1 : Int32) = nI (i + 1) := nI_add i 1
  rw [sc.at hL (show i + 1 < L by omega) x1] at g1
  rw [sc1.at hL (show i + 1 < L by omega) x1] at g2
  have s3 : fx_E (fx_Ga 20) fx_ML (499, lwv i, [vi a, vi a], h2, c + 0 + 0, n + 0 + 0) P := fx_wpE [1213] 10 ⟨fun _ => k h2 _ _ li2 (by omega) (by omega), fun w => absurd rfl w⟩
  have s2 : fx_E (fx_Ga 20) fx_ML (496, lwv i, [vi (h1.2.2.2.1 90 0 (nI i + 1 : Int32).toNatClampNeg), mO, vi a], h1, c + 0, n + 0) P := fx_callC rfl rfl [mO, vi (h1.2.2.2.1 90 0 (nI i + 1 : Int32).toNatClampNeg)] [vi a] rfl rfl (show 1 ≤ 8 by decide) rfl (show c + 0 + 0 ≤ 600000 by omega) (show n + 0 + 0 ≤ 7302250 by omega) g2 s3
  have s1 : fx_E (fx_Ga 20) fx_ML (490, lwv i, [vi a], h1, c + 0, n + 0) P := fx_wpE [496] 40 ⟨sc1.bd hL (show i + 1 < L by omega) x1, s2⟩
  have s0 : fx_E (fx_Ga 20) fx_ML (487, lwv i, [vi (h.2.2.2.1 90 0 (nI i + 1 : Int32).toNatClampNeg), xO], h, c, n) P := fx_callC rfl rfl [xO, vi (h.2.2.2.1 90 0 (nI i + 1 : Int32).toNatClampNeg)] [] rfl rfl (show 0 ≤ 8 by decide) rfl (show c + 0 ≤ 600000 by omega) (show n + 0 ≤ 7302250 by omega) g1 s1
  exact fx_wpE [487] 40 ⟨sc.bd hL (show i + 1 < L by omega) x1, s0⟩
theorem lc_undo (li : LI L Sc h) (hi6 : i + 6 ≤ L) (hL : L ≤ 3072) (hc : c + 4 ≤ 600000) (hn : n + 1204 ≤ 7302250) (k : ∀ h2 c2 n2, LI L Sc h2 → c2 ≤ c + 4 → n2 ≤ n + 1204 → fx_E (fx_Ga 20) fx_ML (1213, lwv i, [], h2, c2, n2) P) : fx_E (fx_Ga 20) fx_ML (504, lwv i, [], h, c, n) P := by
  have sc := li.sc
  obtain ⟨a, h1, h2, g1, g2, sc1, li2⟩ := op_undo li 
  have s3 : fx_E (fx_Ga 20) fx_ML (512, lwv i, [vi a, vi a], h2, c + 0 + 0, n + 0 + 0) P := fx_wpE [1213] 10 ⟨fun _ => k h2 _ _ li2 (by omega) (by omega), fun w => absurd rfl w⟩
  have s2 : fx_E (fx_Ga 20) fx_ML (509, lwv i, [mO, vi a], h1, c + 0, n + 0) P := fx_callC rfl rfl [mO] [vi a] rfl rfl (show 1 ≤ 8 by decide) rfl (show c + 0 + 0 ≤ 600000 by omega) (show n + 0 + 0 ≤ 7302250 by omega) g2 s3
  have s1 : fx_E (fx_Ga 20) fx_ML (508, lwv i, [vi a], h1, c + 0, n + 0) P := fx_wpE [509] 40 s2
  have s0 : fx_E (fx_Ga 20) fx_ML (505, lwv i, [xO], h, c, n) P := fx_callC rfl rfl [xO] [] rfl rfl (show 0 ≤ 8 by decide) rfl (show c + 0 ≤ 600000 by omega) (show n + 0 ≤ 7302250 by omega) g1 s1
  exact fx_wpE [505] 40 s0
theorem lc_last (li : LI L Sc h) (hi6 : i + 6 ≤ L) (hL : L ≤ 3072) (hc : c + 4 ≤ 600000) (hn : n + 1204 ≤ 7302250) (k : ∀ h2 c2 n2, LI L Sc h2 → c2 ≤ c + 4 → n2 ≤ n + 1204 → fx_E (fx_Ga 20) fx_ML (1213, lwv i, [], h2, c2, n2) P) : fx_E (fx_Ga 20) fx_ML (517, lwv i, [], h, c, n) P := by
  have sc := li.sc
  obtain ⟨a, h1, h2, g1, g2, sc1, li2⟩ := op_last li 
  have s3 : fx_E (fx_Ga 20) fx_ML (525, lwv i, [vi a, vi a], h2, c + 0 + 0, n + 0 + 0) P := fx_wpE [1213] 10 ⟨fun _ => k h2 _ _ li2 (by omega) (by omega), fun w => absurd rfl w⟩
  have s2 : fx_E (fx_Ga 20) fx_ML (522, lwv i, [mO, vi a], h1, c + 0, n + 0) P := fx_callC rfl rfl [mO] [vi a] rfl rfl (show 1 ≤ 8 by decide) rfl (show c + 0 + 0 ≤ 600000 by omega) (show n + 0 + 0 ≤ 7302250 by omega) g2 s3
  have s1 : fx_E (fx_Ga 20) fx_ML (521, lwv i, [vi a], h1, c + 0, n + 0) P := fx_wpE [522] 40 s2
  have s0 : fx_E (fx_Ga 20) fx_ML (518, lwv i, [xO], h, c, n) P := fx_callC rfl rfl [xO] [] rfl rfl (show 0 ≤ 8 by decide) rfl (show c + 0 ≤ 600000 by omega) (show n + 0 ≤ 7302250 by omega) g1 s1
  exact fx_wpE [518] 40 s0
theorem lc_ahead (li : LI L Sc h) (hi6 : i + 6 ≤ L) (hL : L ≤ 3072) (hc : c + 4 ≤ 600000) (hn : n + 1204 ≤ 7302250) (k : ∀ h2 c2 n2, LI L Sc h2 → c2 ≤ c + 4 → n2 ≤ n + 1204 → fx_E (fx_Ga 20) fx_ML (1213, lwv i, [], h2, c2, n2) P) : fx_E (fx_Ga 20) fx_ML (530, lwv i, [], h, c, n) P := by
  have sc := li.sc
  obtain ⟨a, h1, h2, g1, g2, sc1, li2⟩ := op_ahead li (Sc (i + 1)) (Sc (i + 2)) (Sc (i + 3))
  have x1 : (nI i + 1 : Int32) = nI (i + 1) := nI_add i 1
  have x2 : (nI i + 2 : Int32) = nI (i + 2) := nI_add i 2
  have x3 : (nI i + 3 : Int32) = nI (i + 3) := nI_add i 3
  rw [sc.at hL (show i + 1 < L by omega) x1, sc.at hL (show i + 2 < L by omega) x2, sc.at hL (show i + 3 < L by omega) x3] at g1
  rw [sc1.at hL (show i + 1 < L by omega) x1, sc1.at hL (show i + 2 < L by omega) x2, sc1.at hL (show i + 3 < L by omega) x3] at g2
  have s3 : fx_E (fx_Ga 20) fx_ML (568, lwv i, [vi a, vi a], h2, c + 0 + 0, n + 0 + 0) P := fx_wpE [1213] 10 ⟨fun _ => k h2 _ _ li2 (by omega) (by omega), fun w => absurd rfl w⟩
  have s2 : fx_E (fx_Ga 20) fx_ML (565, lwv i, [vi (h1.2.2.2.1 90 0 (nI i + 3 : Int32).toNatClampNeg), vi (h1.2.2.2.1 90 0 (nI i + 2 : Int32).toNatClampNeg), vi (h1.2.2.2.1 90 0 (nI i + 1 : Int32).toNatClampNeg), mO, vi a], h1, c + 0, n + 0) P := fx_callC rfl rfl [mO, vi (h1.2.2.2.1 90 0 (nI i + 1 : Int32).toNatClampNeg), vi (h1.2.2.2.1 90 0 (nI i + 2 : Int32).toNatClampNeg), vi (h1.2.2.2.1 90 0 (nI i + 3 : Int32).toNatClampNeg)] [vi a] rfl rfl (show 1 ≤ 8 by decide) rfl (show c + 0 + 0 ≤ 600000 by omega) (show n + 0 + 0 ≤ 7302250 by omega) g2 s3
  have s1 : fx_E (fx_Ga 20) fx_ML (549, lwv i, [vi a], h1, c + 0, n + 0) P := fx_wpE [565] 40 ⟨sc1.bd hL (show i + 1 < L by omega) x1, sc1.bd hL (show i + 2 < L by omega) x2, sc1.bd hL (show i + 3 < L by omega) x3, s2⟩
  have s0 : fx_E (fx_Ga 20) fx_ML (546, lwv i, [vi (h.2.2.2.1 90 0 (nI i + 3 : Int32).toNatClampNeg), vi (h.2.2.2.1 90 0 (nI i + 2 : Int32).toNatClampNeg), vi (h.2.2.2.1 90 0 (nI i + 1 : Int32).toNatClampNeg), xO], h, c, n) P := fx_callC rfl rfl [xO, vi (h.2.2.2.1 90 0 (nI i + 1 : Int32).toNatClampNeg), vi (h.2.2.2.1 90 0 (nI i + 2 : Int32).toNatClampNeg), vi (h.2.2.2.1 90 0 (nI i + 3 : Int32).toNatClampNeg)] [] rfl rfl (show 0 ≤ 8 by decide) rfl (show c + 0 ≤ 600000 by omega) (show n + 0 ≤ 7302250 by omega) g1 s1
  exact fx_wpE [546] 40 ⟨sc.bd hL (show i + 1 < L by omega) x1, sc.bd hL (show i + 2 < L by omega) x2, sc.bd hL (show i + 3 < L by omega) x3, s0⟩
theorem lc_it (li : LI L Sc h) (hi6 : i + 6 ≤ L) (hL : L ≤ 3072) (hc : c + 4 ≤ 600000) (hn : n + 1204 ≤ 7302250) (k : ∀ h2 c2 n2, LI L Sc h2 → c2 ≤ c + 4 → n2 ≤ n + 1204 → fx_E (fx_Ga 20) fx_ML (1213, lwv i, [], h2, c2, n2) P) : fx_E (fx_Ga 20) fx_ML (573, lwv i, [], h, c, n) P := by
  have sc := li.sc
  obtain ⟨a, h1, h2, g1, g2, sc1, li2⟩ := op_it li (Sc (i + 1))
  have x1 : (nI i + 1 : Int32) = nI (i + 1) := nI_add i 1
  rw [sc.at hL (show i + 1 < L by omega) x1] at g1
  rw [sc1.at hL (show i + 1 < L by omega) x1] at g2
  have s3 : fx_E (fx_Ga 20) fx_ML (591, lwv i, [vi a, vi a], h2, c + 0 + 0, n + 0 + 0) P := fx_wpE [1213] 10 ⟨fun _ => k h2 _ _ li2 (by omega) (by omega), fun w => absurd rfl w⟩
  have s2 : fx_E (fx_Ga 20) fx_ML (588, lwv i, [vi (h1.2.2.2.1 90 0 (nI i + 1 : Int32).toNatClampNeg), mO, vi a], h1, c + 0, n + 0) P := fx_callC rfl rfl [mO, vi (h1.2.2.2.1 90 0 (nI i + 1 : Int32).toNatClampNeg)] [vi a] rfl rfl (show 1 ≤ 8 by decide) rfl (show c + 0 + 0 ≤ 600000 by omega) (show n + 0 + 0 ≤ 7302250 by omega) g2 s3
  have s1 : fx_E (fx_Ga 20) fx_ML (582, lwv i, [vi a], h1, c + 0, n + 0) P := fx_wpE [588] 40 ⟨sc1.bd hL (show i + 1 < L by omega) x1, s2⟩
  have s0 : fx_E (fx_Ga 20) fx_ML (579, lwv i, [vi (h.2.2.2.1 90 0 (nI i + 1 : Int32).toNatClampNeg), xO], h, c, n) P := fx_callC rfl rfl [xO, vi (h.2.2.2.1 90 0 (nI i + 1 : Int32).toNatClampNeg)] [] rfl rfl (show 0 ≤ 8 by decide) rfl (show c + 0 ≤ 600000 by omega) (show n + 0 ≤ 7302250 by omega) g1 s1
  exact fx_wpE [579] 40 ⟨sc.bd hL (show i + 1 < L by omega) x1, s0⟩
theorem lc_leastPace (li : LI L Sc h) (hi6 : i + 6 ≤ L) (hL : L ≤ 3072) (hc : c + 4 ≤ 600000) (hn : n + 1204 ≤ 7302250) (k : ∀ h2 c2 n2, LI L Sc h2 → c2 ≤ c + 4 → n2 ≤ n + 1204 → fx_E (fx_Ga 20) fx_ML (1213, lwv i, [], h2, c2, n2) P) : fx_E (fx_Ga 20) fx_ML (596, lwv i, [], h, c, n) P := by
  have sc := li.sc
  obtain ⟨a, h1, h2, g1, g2, sc1, li2⟩ := op_leastPace li (Sc (i + 1)) (Sc (i + 2))
  have x1 : (nI i + 1 : Int32) = nI (i + 1) := nI_add i 1
  have x2 : (nI i + 2 : Int32) = nI (i + 2) := nI_add i 2
  rw [sc.at hL (show i + 1 < L by omega) x1, sc.at hL (show i + 2 < L by omega) x2] at g1
  rw [sc1.at hL (show i + 1 < L by omega) x1, sc1.at hL (show i + 2 < L by omega) x2] at g2
  have s3 : fx_E (fx_Ga 20) fx_ML (624, lwv i, [vi a, vi a], h2, c + 0 + 0, n + 0 + 0) P := fx_wpE [1213] 10 ⟨fun _ => k h2 _ _ li2 (by omega) (by omega), fun w => absurd rfl w⟩
  have s2 : fx_E (fx_Ga 20) fx_ML (621, lwv i, [vi (h1.2.2.2.1 90 0 (nI i + 2 : Int32).toNatClampNeg), vi (h1.2.2.2.1 90 0 (nI i + 1 : Int32).toNatClampNeg), mO, vi a], h1, c + 0, n + 0) P := fx_callC rfl rfl [mO, vi (h1.2.2.2.1 90 0 (nI i + 1 : Int32).toNatClampNeg), vi (h1.2.2.2.1 90 0 (nI i + 2 : Int32).toNatClampNeg)] [vi a] rfl rfl (show 1 ≤ 8 by decide) rfl (show c + 0 + 0 ≤ 600000 by omega) (show n + 0 + 0 ≤ 7302250 by omega) g2 s3
  have s1 : fx_E (fx_Ga 20) fx_ML (610, lwv i, [vi a], h1, c + 0, n + 0) P := fx_wpE [621] 40 ⟨sc1.bd hL (show i + 1 < L by omega) x1, sc1.bd hL (show i + 2 < L by omega) x2, s2⟩
  have s0 : fx_E (fx_Ga 20) fx_ML (607, lwv i, [vi (h.2.2.2.1 90 0 (nI i + 2 : Int32).toNatClampNeg), vi (h.2.2.2.1 90 0 (nI i + 1 : Int32).toNatClampNeg), xO], h, c, n) P := fx_callC rfl rfl [xO, vi (h.2.2.2.1 90 0 (nI i + 1 : Int32).toNatClampNeg), vi (h.2.2.2.1 90 0 (nI i + 2 : Int32).toNatClampNeg)] [] rfl rfl (show 0 ≤ 8 by decide) rfl (show c + 0 ≤ 600000 by omega) (show n + 0 ≤ 7302250 by omega) g1 s1
  exact fx_wpE [607] 40 ⟨sc.bd hL (show i + 1 < L by omega) x1, sc.bd hL (show i + 2 < L by omega) x2, s0⟩
theorem lc_row (li : LI L Sc h) (hi6 : i + 6 ≤ L) (hL : L ≤ 3072) (hc : c + 4 ≤ 600000) (hn : n + 1204 ≤ 7302250) (k : ∀ h2 c2 n2, LI L Sc h2 → c2 ≤ c + 4 → n2 ≤ n + 1204 → fx_E (fx_Ga 20) fx_ML (1213, lwv i, [], h2, c2, n2) P) : fx_E (fx_Ga 20) fx_ML (629, lwv i, [], h, c, n) P := by
  have sc := li.sc
  obtain ⟨a, h1, h2, g1, g2, sc1, li2⟩ := op_row li (Sc (i + 1)) (Sc (i + 2)) (Sc (i + 3))
  have x1 : (nI i + 1 : Int32) = nI (i + 1) := nI_add i 1
  have x2 : (nI i + 2 : Int32) = nI (i + 2) := nI_add i 2
  have x3 : (nI i + 3 : Int32) = nI (i + 3) := nI_add i 3
  rw [sc.at hL (show i + 1 < L by omega) x1, sc.at hL (show i + 2 < L by omega) x2, sc.at hL (show i + 3 < L by omega) x3] at g1
  rw [sc1.at hL (show i + 1 < L by omega) x1, sc1.at hL (show i + 2 < L by omega) x2, sc1.at hL (show i + 3 < L by omega) x3] at g2
  have s3 : fx_E (fx_Ga 20) fx_ML (667, lwv i, [vi a, vi a], h2, c + 0 + 0, n + 0 + 0) P := fx_wpE [1213] 10 ⟨fun _ => k h2 _ _ li2 (by omega) (by omega), fun w => absurd rfl w⟩
  have s2 : fx_E (fx_Ga 20) fx_ML (664, lwv i, [vi (h1.2.2.2.1 90 0 (nI i + 3 : Int32).toNatClampNeg), vi (h1.2.2.2.1 90 0 (nI i + 2 : Int32).toNatClampNeg), vi (h1.2.2.2.1 90 0 (nI i + 1 : Int32).toNatClampNeg), mO, vi a], h1, c + 0, n + 0) P := fx_callC rfl rfl [mO, vi (h1.2.2.2.1 90 0 (nI i + 1 : Int32).toNatClampNeg), vi (h1.2.2.2.1 90 0 (nI i + 2 : Int32).toNatClampNeg), vi (h1.2.2.2.1 90 0 (nI i + 3 : Int32).toNatClampNeg)] [vi a] rfl rfl (show 1 ≤ 8 by decide) rfl (show c + 0 + 0 ≤ 600000 by omega) (show n + 0 + 0 ≤ 7302250 by omega) g2 s3
  have s1 : fx_E (fx_Ga 20) fx_ML (648, lwv i, [vi a], h1, c + 0, n + 0) P := fx_wpE [664] 40 ⟨sc1.bd hL (show i + 1 < L by omega) x1, sc1.bd hL (show i + 2 < L by omega) x2, sc1.bd hL (show i + 3 < L by omega) x3, s2⟩
  have s0 : fx_E (fx_Ga 20) fx_ML (645, lwv i, [vi (h.2.2.2.1 90 0 (nI i + 3 : Int32).toNatClampNeg), vi (h.2.2.2.1 90 0 (nI i + 2 : Int32).toNatClampNeg), vi (h.2.2.2.1 90 0 (nI i + 1 : Int32).toNatClampNeg), xO], h, c, n) P := fx_callC rfl rfl [xO, vi (h.2.2.2.1 90 0 (nI i + 1 : Int32).toNatClampNeg), vi (h.2.2.2.1 90 0 (nI i + 2 : Int32).toNatClampNeg), vi (h.2.2.2.1 90 0 (nI i + 3 : Int32).toNatClampNeg)] [] rfl rfl (show 0 ≤ 8 by decide) rfl (show c + 0 ≤ 600000 by omega) (show n + 0 ≤ 7302250 by omega) g1 s1
  exact fx_wpE [645] 40 ⟨sc.bd hL (show i + 1 < L by omega) x1, sc.bd hL (show i + 2 < L by omega) x2, sc.bd hL (show i + 3 < L by omega) x3, s0⟩
theorem lc_shut (li : LI L Sc h) (hi6 : i + 6 ≤ L) (hL : L ≤ 3072) (hc : c + 4 ≤ 600000) (hn : n + 1204 ≤ 7302250) (k : ∀ h2 c2 n2, LI L Sc h2 → c2 ≤ c + 4 → n2 ≤ n + 1204 → fx_E (fx_Ga 20) fx_ML (1213, lwv i, [], h2, c2, n2) P) : fx_E (fx_Ga 20) fx_ML (672, lwv i, [], h, c, n) P := by
  have sc := li.sc
  obtain ⟨a, h1, h2, g1, g2, sc1, li2⟩ := op_shut li (Sc (i + 1)) (Sc (i + 2))
  have x1 : (nI i + 1 : Int32) = nI (i + 1) := nI_add i 1
  have x2 : (nI i + 2 : Int32) = nI (i + 2) := nI_add i 2
  rw [sc.at hL (show i + 1 < L by omega) x1, sc.at hL (show i + 2 < L by omega) x2] at g1
  rw [sc1.at hL (show i + 1 < L by omega) x1, sc1.at hL (show i + 2 < L by omega) x2] at g2
  have s3 : fx_E (fx_Ga 20) fx_ML (700, lwv i, [vi a, vi a], h2, c + 0 + 0, n + 0 + 0) P := fx_wpE [1213] 10 ⟨fun _ => k h2 _ _ li2 (by omega) (by omega), fun w => absurd rfl w⟩
  have s2 : fx_E (fx_Ga 20) fx_ML (697, lwv i, [vi (h1.2.2.2.1 90 0 (nI i + 2 : Int32).toNatClampNeg), vi (h1.2.2.2.1 90 0 (nI i + 1 : Int32).toNatClampNeg), mO, vi a], h1, c + 0, n + 0) P := fx_callC rfl rfl [mO, vi (h1.2.2.2.1 90 0 (nI i + 1 : Int32).toNatClampNeg), vi (h1.2.2.2.1 90 0 (nI i + 2 : Int32).toNatClampNeg)] [vi a] rfl rfl (show 1 ≤ 8 by decide) rfl (show c + 0 + 0 ≤ 600000 by omega) (show n + 0 + 0 ≤ 7302250 by omega) g2 s3
  have s1 : fx_E (fx_Ga 20) fx_ML (686, lwv i, [vi a], h1, c + 0, n + 0) P := fx_wpE [697] 40 ⟨sc1.bd hL (show i + 1 < L by omega) x1, sc1.bd hL (show i + 2 < L by omega) x2, s2⟩
  have s0 : fx_E (fx_Ga 20) fx_ML (683, lwv i, [vi (h.2.2.2.1 90 0 (nI i + 2 : Int32).toNatClampNeg), vi (h.2.2.2.1 90 0 (nI i + 1 : Int32).toNatClampNeg), xO], h, c, n) P := fx_callC rfl rfl [xO, vi (h.2.2.2.1 90 0 (nI i + 1 : Int32).toNatClampNeg), vi (h.2.2.2.1 90 0 (nI i + 2 : Int32).toNatClampNeg)] [] rfl rfl (show 0 ≤ 8 by decide) rfl (show c + 0 ≤ 600000 by omega) (show n + 0 ≤ 7302250 by omega) g1 s1
  exact fx_wpE [683] 40 ⟨sc.bd hL (show i + 1 < L by omega) x1, sc.bd hL (show i + 2 < L by omega) x2, s0⟩
theorem lc_help (li : LI L Sc h) (hi6 : i + 6 ≤ L) (hL : L ≤ 3072) (hc : c + 4 ≤ 600000) (hn : n + 1204 ≤ 7302250) (k : ∀ h2 c2 n2, LI L Sc h2 → c2 ≤ c + 4 → n2 ≤ n + 1204 → fx_E (fx_Ga 20) fx_ML (1213, lwv i, [], h2, c2, n2) P) : fx_E (fx_Ga 20) fx_ML (705, lwv i, [], h, c, n) P := by
  have sc := li.sc
  obtain ⟨a, h1, h2, g1, g2, sc1, li2⟩ := op_help li (Sc (i + 1)) (Sc (i + 2))
  have x1 : (nI i + 1 : Int32) = nI (i + 1) := nI_add i 1
  have x2 : (nI i + 2 : Int32) = nI (i + 2) := nI_add i 2
  rw [sc.at hL (show i + 1 < L by omega) x1, sc.at hL (show i + 2 < L by omega) x2] at g1
  rw [sc1.at hL (show i + 1 < L by omega) x1, sc1.at hL (show i + 2 < L by omega) x2] at g2
  have s3 : fx_E (fx_Ga 20) fx_ML (733, lwv i, [vi a, vi a], h2, c + 0 + 0, n + 0 + 0) P := fx_wpE [1213] 10 ⟨fun _ => k h2 _ _ li2 (by omega) (by omega), fun w => absurd rfl w⟩
  have s2 : fx_E (fx_Ga 20) fx_ML (730, lwv i, [vi (h1.2.2.2.1 90 0 (nI i + 2 : Int32).toNatClampNeg), vi (h1.2.2.2.1 90 0 (nI i + 1 : Int32).toNatClampNeg), mO, vi a], h1, c + 0, n + 0) P := fx_callC rfl rfl [mO, vi (h1.2.2.2.1 90 0 (nI i + 1 : Int32).toNatClampNeg), vi (h1.2.2.2.1 90 0 (nI i + 2 : Int32).toNatClampNeg)] [vi a] rfl rfl (show 1 ≤ 8 by decide) rfl (show c + 0 + 0 ≤ 600000 by omega) (show n + 0 + 0 ≤ 7302250 by omega) g2 s3
  have s1 : fx_E (fx_Ga 20) fx_ML (719, lwv i, [vi a], h1, c + 0, n + 0) P := fx_wpE [730] 40 ⟨sc1.bd hL (show i + 1 < L by omega) x1, sc1.bd hL (show i + 2 < L by omega) x2, s2⟩
  have s0 : fx_E (fx_Ga 20) fx_ML (716, lwv i, [vi (h.2.2.2.1 90 0 (nI i + 2 : Int32).toNatClampNeg), vi (h.2.2.2.1 90 0 (nI i + 1 : Int32).toNatClampNeg), xO], h, c, n) P := fx_callC rfl rfl [xO, vi (h.2.2.2.1 90 0 (nI i + 1 : Int32).toNatClampNeg), vi (h.2.2.2.1 90 0 (nI i + 2 : Int32).toNatClampNeg)] [] rfl rfl (show 0 ≤ 8 by decide) rfl (show c + 0 ≤ 600000 by omega) (show n + 0 ≤ 7302250 by omega) g1 s1
  exact fx_wpE [716] 40 ⟨sc.bd hL (show i + 1 < L by omega) x1, sc.bd hL (show i + 2 < L by omega) x2, s0⟩
theorem lc_allIt (li : LI L Sc h) (hi6 : i + 6 ≤ L) (hL : L ≤ 3072) (hc : c + 4 ≤ 600000) (hn : n + 1204 ≤ 7302250) (k : ∀ h2 c2 n2, LI L Sc h2 → c2 ≤ c + 4 → n2 ≤ n + 1204 → fx_E (fx_Ga 20) fx_ML (1213, lwv i, [], h2, c2, n2) P) : fx_E (fx_Ga 20) fx_ML (738, lwv i, [], h, c, n) P := by
  have sc := li.sc
  obtain ⟨a, h1, h2, g1, g2, sc1, li2⟩ := op_allIt li 
  have s3 : fx_E (fx_Ga 20) fx_ML (746, lwv i, [vi a, vi a], h2, c + 0 + 0, n + 0 + 0) P := fx_wpE [1213] 10 ⟨fun _ => k h2 _ _ li2 (by omega) (by omega), fun w => absurd rfl w⟩
  have s2 : fx_E (fx_Ga 20) fx_ML (743, lwv i, [mO, vi a], h1, c + 0, n + 0) P := fx_callC rfl rfl [mO] [vi a] rfl rfl (show 1 ≤ 8 by decide) rfl (show c + 0 + 0 ≤ 600000 by omega) (show n + 0 + 0 ≤ 7302250 by omega) g2 s3
  have s1 : fx_E (fx_Ga 20) fx_ML (742, lwv i, [vi a], h1, c + 0, n + 0) P := fx_wpE [743] 40 s2
  have s0 : fx_E (fx_Ga 20) fx_ML (739, lwv i, [xO], h, c, n) P := fx_callC rfl rfl [xO] [] rfl rfl (show 0 ≤ 8 by decide) rfl (show c + 0 ≤ 600000 by omega) (show n + 0 ≤ 7302250 by omega) g1 s1
  exact fx_wpE [739] 40 s0
theorem lc_meet (li : LI L Sc h) (hi6 : i + 6 ≤ L) (hL : L ≤ 3072) (hc : c + 4 ≤ 600000) (hn : n + 1204 ≤ 7302250) (k : ∀ h2 c2 n2, LI L Sc h2 → c2 ≤ c + 4 → n2 ≤ n + 1204 → fx_E (fx_Ga 20) fx_ML (1213, lwv i, [], h2, c2, n2) P) : fx_E (fx_Ga 20) fx_ML (751, lwv i, [], h, c, n) P := by
  have sc := li.sc
  obtain ⟨a, h1, h2, g1, g2, sc1, li2⟩ := op_meet li (Sc (i + 1)) (Sc (i + 2))
  have x1 : (nI i + 1 : Int32) = nI (i + 1) := nI_add i 1
  have x2 : (nI i + 2 : Int32) = nI (i + 2) := nI_add i 2
  rw [sc.at hL (show i + 1 < L by omega) x1, sc.at hL (show i + 2 < L by omega) x2] at g1
  rw [sc1.at hL (show i + 1 < L by omega) x1, sc1.at hL (show i + 2 < L by omega) x2] at g2
  have s3 : fx_E (fx_Ga 20) fx_ML (779, lwv i, [vi a, vi a], h2, c + 0 + 0, n + 0 + 0) P := fx_wpE [1213] 10 ⟨fun _ => k h2 _ _ li2 (by omega) (by omega), fun w => absurd rfl w⟩
  have s2 : fx_E (fx_Ga 20) fx_ML (776, lwv i, [vi (h1.2.2.2.1 90 0 (nI i + 2 : Int32).toNatClampNeg), vi (h1.2.2.2.1 90 0 (nI i + 1 : Int32).toNatClampNeg), mO, vi a], h1, c + 0, n + 0) P := fx_callC rfl rfl [mO, vi (h1.2.2.2.1 90 0 (nI i + 1 : Int32).toNatClampNeg), vi (h1.2.2.2.1 90 0 (nI i + 2 : Int32).toNatClampNeg)] [vi a] rfl rfl (show 1 ≤ 8 by decide) rfl (show c + 0 + 0 ≤ 600000 by omega) (show n + 0 + 0 ≤ 7302250 by omega) g2 s3
  have s1 : fx_E (fx_Ga 20) fx_ML (765, lwv i, [vi a], h1, c + 0, n + 0) P := fx_wpE [776] 40 ⟨sc1.bd hL (show i + 1 < L by omega) x1, sc1.bd hL (show i + 2 < L by omega) x2, s2⟩
  have s0 : fx_E (fx_Ga 20) fx_ML (762, lwv i, [vi (h.2.2.2.1 90 0 (nI i + 2 : Int32).toNatClampNeg), vi (h.2.2.2.1 90 0 (nI i + 1 : Int32).toNatClampNeg), xO], h, c, n) P := fx_callC rfl rfl [xO, vi (h.2.2.2.1 90 0 (nI i + 1 : Int32).toNatClampNeg), vi (h.2.2.2.1 90 0 (nI i + 2 : Int32).toNatClampNeg)] [] rfl rfl (show 0 ≤ 8 by decide) rfl (show c + 0 ≤ 600000 by omega) (show n + 0 ≤ 7302250 by omega) g1 s1
  exact fx_wpE [762] 40 ⟨sc.bd hL (show i + 1 < L by omega) x1, sc.bd hL (show i + 2 < L by omega) x2, s0⟩
theorem lc_bunches (li : LI L Sc h) (hi6 : i + 6 ≤ L) (hL : L ≤ 3072) (hc : c + 4 ≤ 600000) (hn : n + 1204 ≤ 7302250) (k : ∀ h2 c2 n2, LI L Sc h2 → c2 ≤ c + 4 → n2 ≤ n + 1204 → fx_E (fx_Ga 20) fx_ML (1213, lwv i, [], h2, c2, n2) P) : fx_E (fx_Ga 20) fx_ML (784, lwv i, [], h, c, n) P := by
  have sc := li.sc
  obtain ⟨a, h1, h2, g1, g2, sc1, li2⟩ := op_bunches li (Sc (i + 1))
  have x1 : (nI i + 1 : Int32) = nI (i + 1) := nI_add i 1
  rw [sc.at hL (show i + 1 < L by omega) x1] at g1
  rw [sc1.at hL (show i + 1 < L by omega) x1] at g2
  have s3 : fx_E (fx_Ga 20) fx_ML (802, lwv i, [vi a, vi a], h2, c + 0 + 0, n + 0 + 0) P := fx_wpE [1213] 10 ⟨fun _ => k h2 _ _ li2 (by omega) (by omega), fun w => absurd rfl w⟩
  have s2 : fx_E (fx_Ga 20) fx_ML (799, lwv i, [vi (h1.2.2.2.1 90 0 (nI i + 1 : Int32).toNatClampNeg), mO, vi a], h1, c + 0, n + 0) P := fx_callC rfl rfl [mO, vi (h1.2.2.2.1 90 0 (nI i + 1 : Int32).toNatClampNeg)] [vi a] rfl rfl (show 1 ≤ 8 by decide) rfl (show c + 0 + 0 ≤ 600000 by omega) (show n + 0 + 0 ≤ 7302250 by omega) g2 s3
  have s1 : fx_E (fx_Ga 20) fx_ML (793, lwv i, [vi a], h1, c + 0, n + 0) P := fx_wpE [799] 40 ⟨sc1.bd hL (show i + 1 < L by omega) x1, s2⟩
  have s0 : fx_E (fx_Ga 20) fx_ML (790, lwv i, [vi (h.2.2.2.1 90 0 (nI i + 1 : Int32).toNatClampNeg), xO], h, c, n) P := fx_callC rfl rfl [xO, vi (h.2.2.2.1 90 0 (nI i + 1 : Int32).toNatClampNeg)] [] rfl rfl (show 0 ≤ 8 by decide) rfl (show c + 0 ≤ 600000 by omega) (show n + 0 ≤ 7302250 by omega) g1 s1
  exact fx_wpE [790] 40 ⟨sc.bd hL (show i + 1 < L by omega) x1, s0⟩
theorem lc_pence (li : LI L Sc h) (hi6 : i + 6 ≤ L) (hL : L ≤ 3072) (hc : c + 4 ≤ 600000) (hn : n + 1204 ≤ 7302250) (k : ∀ h2 c2 n2, LI L Sc h2 → c2 ≤ c + 4 → n2 ≤ n + 1204 → fx_E (fx_Ga 20) fx_ML (1213, lwv i, [], h2, c2, n2) P) : fx_E (fx_Ga 20) fx_ML (807, lwv i, [], h, c, n) P := by
  have sc := li.sc
  obtain ⟨a, h1, h2, g1, g2, sc1, li2⟩ := op_pence li (Sc (i + 1)) (Sc (i + 2))
  have x1 : (nI i + 1 : Int32) = nI (i + 1) := nI_add i 1
  have x2 : (nI i + 2 : Int32) = nI (i + 2) := nI_add i 2
  rw [sc.at hL (show i + 1 < L by omega) x1, sc.at hL (show i + 2 < L by omega) x2] at g1
  rw [sc1.at hL (show i + 1 < L by omega) x1, sc1.at hL (show i + 2 < L by omega) x2] at g2
  have s3 : fx_E (fx_Ga 20) fx_ML (835, lwv i, [vi a, vi a], h2, c + 0 + 0, n + 0 + 0) P := fx_wpE [1213] 10 ⟨fun _ => k h2 _ _ li2 (by omega) (by omega), fun w => absurd rfl w⟩
  have s2 : fx_E (fx_Ga 20) fx_ML (832, lwv i, [vi (h1.2.2.2.1 90 0 (nI i + 2 : Int32).toNatClampNeg), vi (h1.2.2.2.1 90 0 (nI i + 1 : Int32).toNatClampNeg), mO, vi a], h1, c + 0, n + 0) P := fx_callC rfl rfl [mO, vi (h1.2.2.2.1 90 0 (nI i + 1 : Int32).toNatClampNeg), vi (h1.2.2.2.1 90 0 (nI i + 2 : Int32).toNatClampNeg)] [vi a] rfl rfl (show 1 ≤ 8 by decide) rfl (show c + 0 + 0 ≤ 600000 by omega) (show n + 0 + 0 ≤ 7302250 by omega) g2 s3
  have s1 : fx_E (fx_Ga 20) fx_ML (821, lwv i, [vi a], h1, c + 0, n + 0) P := fx_wpE [832] 40 ⟨sc1.bd hL (show i + 1 < L by omega) x1, sc1.bd hL (show i + 2 < L by omega) x2, s2⟩
  have s0 : fx_E (fx_Ga 20) fx_ML (818, lwv i, [vi (h.2.2.2.1 90 0 (nI i + 2 : Int32).toNatClampNeg), vi (h.2.2.2.1 90 0 (nI i + 1 : Int32).toNatClampNeg), xO], h, c, n) P := fx_callC rfl rfl [xO, vi (h.2.2.2.1 90 0 (nI i + 1 : Int32).toNatClampNeg), vi (h.2.2.2.1 90 0 (nI i + 2 : Int32).toNatClampNeg)] [] rfl rfl (show 0 ≤ 8 by decide) rfl (show c + 0 ≤ 600000 by omega) (show n + 0 ≤ 7302250 by omega) g1 s1
  exact fx_wpE [818] 40 ⟨sc.bd hL (show i + 1 < L by omega) x1, sc.bd hL (show i + 2 < L by omega) x2, s0⟩
theorem lc_rests (li : LI L Sc h) (hi6 : i + 6 ≤ L) (hL : L ≤ 3072) (hc : c + 4 ≤ 600000) (hn : n + 1204 ≤ 7302250) (k : ∀ h2 c2 n2, LI L Sc h2 → c2 ≤ c + 4 → n2 ≤ n + 1204 → fx_E (fx_Ga 20) fx_ML (1213, lwv i, [], h2, c2, n2) P) : fx_E (fx_Ga 20) fx_ML (840, lwv i, [], h, c, n) P := by
  have sc := li.sc
  obtain ⟨a, h1, h2, g1, g2, sc1, li2⟩ := op_rests li (Sc (i + 1)) (Sc (i + 2)) (Sc (i + 3)) (Sc (i + 4))
  have x1 : (nI i + 1 : Int32) = nI (i + 1) := nI_add i 1
  have x2 : (nI i + 2 : Int32) = nI (i + 2) := nI_add i 2
  have x3 : (nI i + 3 : Int32) = nI (i + 3) := nI_add i 3
  have x4 : (nI i + 4 : Int32) = nI (i + 4) := nI_add i 4
  rw [sc.at hL (show i + 1 < L by omega) x1, sc.at hL (show i + 2 < L by omega) x2, sc.at hL (show i + 3 < L by omega) x3, sc.at hL (show i + 4 < L by omega) x4] at g1
  rw [sc1.at hL (show i + 1 < L by omega) x1, sc1.at hL (show i + 2 < L by omega) x2, sc1.at hL (show i + 3 < L by omega) x3, sc1.at hL (show i + 4 < L by omega) x4] at g2
  have s3 : fx_E (fx_Ga 20) fx_ML (888, lwv i, [vi a, vi a], h2, c + 0 + 0, n + 0 + 0) P := fx_wpE [1213] 10 ⟨fun _ => k h2 _ _ li2 (by omega) (by omega), fun w => absurd rfl w⟩
  have s2 : fx_E (fx_Ga 20) fx_ML (885, lwv i, [vi (h1.2.2.2.1 90 0 (nI i + 4 : Int32).toNatClampNeg), vi (h1.2.2.2.1 90 0 (nI i + 3 : Int32).toNatClampNeg), vi (h1.2.2.2.1 90 0 (nI i + 2 : Int32).toNatClampNeg), vi (h1.2.2.2.1 90 0 (nI i + 1 : Int32).toNatClampNeg), mO, vi a], h1, c + 0, n + 0) P := fx_callC rfl rfl [mO, vi (h1.2.2.2.1 90 0 (nI i + 1 : Int32).toNatClampNeg), vi (h1.2.2.2.1 90 0 (nI i + 2 : Int32).toNatClampNeg), vi (h1.2.2.2.1 90 0 (nI i + 3 : Int32).toNatClampNeg), vi (h1.2.2.2.1 90 0 (nI i + 4 : Int32).toNatClampNeg)] [vi a] rfl rfl (show 1 ≤ 8 by decide) rfl (show c + 0 + 0 ≤ 600000 by omega) (show n + 0 + 0 ≤ 7302250 by omega) g2 s3
  have s1 : fx_E (fx_Ga 20) fx_ML (864, lwv i, [vi a], h1, c + 0, n + 0) P := fx_wpE [885] 40 ⟨sc1.bd hL (show i + 1 < L by omega) x1, sc1.bd hL (show i + 2 < L by omega) x2, sc1.bd hL (show i + 3 < L by omega) x3, sc1.bd hL (show i + 4 < L by omega) x4, s2⟩
  have s0 : fx_E (fx_Ga 20) fx_ML (861, lwv i, [vi (h.2.2.2.1 90 0 (nI i + 4 : Int32).toNatClampNeg), vi (h.2.2.2.1 90 0 (nI i + 3 : Int32).toNatClampNeg), vi (h.2.2.2.1 90 0 (nI i + 2 : Int32).toNatClampNeg), vi (h.2.2.2.1 90 0 (nI i + 1 : Int32).toNatClampNeg), xO], h, c, n) P := fx_callC rfl rfl [xO, vi (h.2.2.2.1 90 0 (nI i + 1 : Int32).toNatClampNeg), vi (h.2.2.2.1 90 0 (nI i + 2 : Int32).toNatClampNeg), vi (h.2.2.2.1 90 0 (nI i + 3 : Int32).toNatClampNeg), vi (h.2.2.2.1 90 0 (nI i + 4 : Int32).toNatClampNeg)] [] rfl rfl (show 0 ≤ 8 by decide) rfl (show c + 0 ≤ 600000 by omega) (show n + 0 ≤ 7302250 by omega) g1 s1
  exact fx_wpE [861] 40 ⟨sc.bd hL (show i + 1 < L by omega) x1, sc.bd hL (show i + 2 < L by omega) x2, sc.bd hL (show i + 3 < L by omega) x3, sc.bd hL (show i + 4 < L by omega) x4, s0⟩
theorem lc_open (li : LI L Sc h) (hi6 : i + 6 ≤ L) (hL : L ≤ 3072) (hc : c + 4 ≤ 600000) (hn : n + 1204 ≤ 7302250) (k : ∀ h2 c2 n2, LI L Sc h2 → c2 ≤ c + 4 → n2 ≤ n + 1204 → fx_E (fx_Ga 20) fx_ML (1213, lwv i, [], h2, c2, n2) P) : fx_E (fx_Ga 20) fx_ML (893, lwv i, [], h, c, n) P := by
  have sc := li.sc
  obtain ⟨a, h1, h2, g1, g2, sc1, li2⟩ := op_open li (Sc (i + 1)) (Sc (i + 2)) (Sc (i + 3))
  have x1 : (nI i + 1 : Int32) = nI (i + 1) := nI_add i 1
  have x2 : (nI i + 2 : Int32) = nI (i + 2) := nI_add i 2
  have x3 : (nI i + 3 : Int32) = nI (i + 3) := nI_add i 3
  rw [sc.at hL (show i + 1 < L by omega) x1, sc.at hL (show i + 2 < L by omega) x2, sc.at hL (show i + 3 < L by omega) x3] at g1
  rw [sc1.at hL (show i + 1 < L by omega) x1, sc1.at hL (show i + 2 < L by omega) x2, sc1.at hL (show i + 3 < L by omega) x3] at g2
  have s3 : fx_E (fx_Ga 20) fx_ML (931, lwv i, [vi a, vi a], h2, c + 0 + 0, n + 0 + 0) P := fx_wpE [1213] 10 ⟨fun _ => k h2 _ _ li2 (by omega) (by omega), fun w => absurd rfl w⟩
  have s2 : fx_E (fx_Ga 20) fx_ML (928, lwv i, [vi (h1.2.2.2.1 90 0 (nI i + 3 : Int32).toNatClampNeg), vi (h1.2.2.2.1 90 0 (nI i + 2 : Int32).toNatClampNeg), vi (h1.2.2.2.1 90 0 (nI i + 1 : Int32).toNatClampNeg), mO, vi a], h1, c + 0, n + 0) P := fx_callC rfl rfl [mO, vi (h1.2.2.2.1 90 0 (nI i + 1 : Int32).toNatClampNeg), vi (h1.2.2.2.1 90 0 (nI i + 2 : Int32).toNatClampNeg), vi (h1.2.2.2.1 90 0 (nI i + 3 : Int32).toNatClampNeg)] [vi a] rfl rfl (show 1 ≤ 8 by decide) rfl (show c + 0 + 0 ≤ 600000 by omega) (show n + 0 + 0 ≤ 7302250 by omega) g2 s3
  have s1 : fx_E (fx_Ga 20) fx_ML (912, lwv i, [vi a], h1, c + 0, n + 0) P := fx_wpE [928] 40 ⟨sc1.bd hL (show i + 1 < L by omega) x1, sc1.bd hL (show i + 2 < L by omega) x2, sc1.bd hL (show i + 3 < L by omega) x3, s2⟩
  have s0 : fx_E (fx_Ga 20) fx_ML (909, lwv i, [vi (h.2.2.2.1 90 0 (nI i + 3 : Int32).toNatClampNeg), vi (h.2.2.2.1 90 0 (nI i + 2 : Int32).toNatClampNeg), vi (h.2.2.2.1 90 0 (nI i + 1 : Int32).toNatClampNeg), xO], h, c, n) P := fx_callC rfl rfl [xO, vi (h.2.2.2.1 90 0 (nI i + 1 : Int32).toNatClampNeg), vi (h.2.2.2.1 90 0 (nI i + 2 : Int32).toNatClampNeg), vi (h.2.2.2.1 90 0 (nI i + 3 : Int32).toNatClampNeg)] [] rfl rfl (show 0 ≤ 8 by decide) rfl (show c + 0 ≤ 600000 by omega) (show n + 0 ≤ 7302250 by omega) g1 s1
  exact fx_wpE [909] 40 ⟨sc.bd hL (show i + 1 < L by omega) x1, sc.bd hL (show i + 2 < L by omega) x2, sc.bd hL (show i + 3 < L by omega) x3, s0⟩
theorem lc_close (li : LI L Sc h) (hi6 : i + 6 ≤ L) (hL : L ≤ 3072) (hc : c + 4 ≤ 600000) (hn : n + 1204 ≤ 7302250) (k : ∀ h2 c2 n2, LI L Sc h2 → c2 ≤ c + 4 → n2 ≤ n + 1204 → fx_E (fx_Ga 20) fx_ML (1213, lwv i, [], h2, c2, n2) P) : fx_E (fx_Ga 20) fx_ML (936, lwv i, [], h, c, n) P := by
  have sc := li.sc
  obtain ⟨a, h1, h2, g1, g2, sc1, li2⟩ := op_close li (Sc (i + 1)) (Sc (i + 2))
  have x1 : (nI i + 1 : Int32) = nI (i + 1) := nI_add i 1
  have x2 : (nI i + 2 : Int32) = nI (i + 2) := nI_add i 2
  rw [sc.at hL (show i + 1 < L by omega) x1, sc.at hL (show i + 2 < L by omega) x2] at g1
  rw [sc1.at hL (show i + 1 < L by omega) x1, sc1.at hL (show i + 2 < L by omega) x2] at g2
  have s3 : fx_E (fx_Ga 20) fx_ML (964, lwv i, [vi a, vi a], h2, c + 0 + 0, n + 0 + 0) P := fx_wpE [1213] 10 ⟨fun _ => k h2 _ _ li2 (by omega) (by omega), fun w => absurd rfl w⟩
  have s2 : fx_E (fx_Ga 20) fx_ML (961, lwv i, [vi (h1.2.2.2.1 90 0 (nI i + 2 : Int32).toNatClampNeg), vi (h1.2.2.2.1 90 0 (nI i + 1 : Int32).toNatClampNeg), mO, vi a], h1, c + 0, n + 0) P := fx_callC rfl rfl [mO, vi (h1.2.2.2.1 90 0 (nI i + 1 : Int32).toNatClampNeg), vi (h1.2.2.2.1 90 0 (nI i + 2 : Int32).toNatClampNeg)] [vi a] rfl rfl (show 1 ≤ 8 by decide) rfl (show c + 0 + 0 ≤ 600000 by omega) (show n + 0 + 0 ≤ 7302250 by omega) g2 s3
  have s1 : fx_E (fx_Ga 20) fx_ML (950, lwv i, [vi a], h1, c + 0, n + 0) P := fx_wpE [961] 40 ⟨sc1.bd hL (show i + 1 < L by omega) x1, sc1.bd hL (show i + 2 < L by omega) x2, s2⟩
  have s0 : fx_E (fx_Ga 20) fx_ML (947, lwv i, [vi (h.2.2.2.1 90 0 (nI i + 2 : Int32).toNatClampNeg), vi (h.2.2.2.1 90 0 (nI i + 1 : Int32).toNatClampNeg), xO], h, c, n) P := fx_callC rfl rfl [xO, vi (h.2.2.2.1 90 0 (nI i + 1 : Int32).toNatClampNeg), vi (h.2.2.2.1 90 0 (nI i + 2 : Int32).toNatClampNeg)] [] rfl rfl (show 0 ≤ 8 by decide) rfl (show c + 0 ≤ 600000 by omega) (show n + 0 ≤ 7302250 by omega) g1 s1
  exact fx_wpE [947] 40 ⟨sc.bd hL (show i + 1 < L by omega) x1, sc.bd hL (show i + 2 < L by omega) x2, s0⟩
theorem lc_note (li : LI L Sc h) (hi6 : i + 6 ≤ L) (hL : L ≤ 3072) (hc : c + 4 ≤ 600000) (hn : n + 1204 ≤ 7302250) (k : ∀ h2 c2 n2, LI L Sc h2 → c2 ≤ c + 4 → n2 ≤ n + 1204 → fx_E (fx_Ga 20) fx_ML (1213, lwv i, [], h2, c2, n2) P) : fx_E (fx_Ga 20) fx_ML (969, lwv i, [], h, c, n) P := by
  have sc := li.sc
  obtain ⟨a, h1, h2, g1, g2, sc1, li2⟩ := op_note li (Sc (i + 1)) (Sc (i + 2)) (Sc (i + 3))
  have x1 : (nI i + 1 : Int32) = nI (i + 1) := nI_add i 1
  have x2 : (nI i + 2 : Int32) = nI (i + 2) := nI_add i 2
  have x3 : (nI i + 3 : Int32) = nI (i + 3) := nI_add i 3
  rw [sc.at hL (show i + 1 < L by omega) x1, sc.at hL (show i + 2 < L by omega) x2, sc.at hL (show i + 3 < L by omega) x3] at g1
  rw [sc1.at hL (show i + 1 < L by omega) x1, sc1.at hL (show i + 2 < L by omega) x2, sc1.at hL (show i + 3 < L by omega) x3] at g2
  have s3 : fx_E (fx_Ga 20) fx_ML (1007, lwv i, [vi a, vi a], h2, c + 0 + 0, n + 0 + 0) P := fx_wpE [1213] 10 ⟨fun _ => k h2 _ _ li2 (by omega) (by omega), fun w => absurd rfl w⟩
  have s2 : fx_E (fx_Ga 20) fx_ML (1004, lwv i, [vi (h1.2.2.2.1 90 0 (nI i + 3 : Int32).toNatClampNeg), vi (h1.2.2.2.1 90 0 (nI i + 2 : Int32).toNatClampNeg), vi (h1.2.2.2.1 90 0 (nI i + 1 : Int32).toNatClampNeg), mO, vi a], h1, c + 0, n + 0) P := fx_callC rfl rfl [mO, vi (h1.2.2.2.1 90 0 (nI i + 1 : Int32).toNatClampNeg), vi (h1.2.2.2.1 90 0 (nI i + 2 : Int32).toNatClampNeg), vi (h1.2.2.2.1 90 0 (nI i + 3 : Int32).toNatClampNeg)] [vi a] rfl rfl (show 1 ≤ 8 by decide) rfl (show c + 0 + 0 ≤ 600000 by omega) (show n + 0 + 0 ≤ 7302250 by omega) g2 s3
  have s1 : fx_E (fx_Ga 20) fx_ML (988, lwv i, [vi a], h1, c + 0, n + 0) P := fx_wpE [1004] 40 ⟨sc1.bd hL (show i + 1 < L by omega) x1, sc1.bd hL (show i + 2 < L by omega) x2, sc1.bd hL (show i + 3 < L by omega) x3, s2⟩
  have s0 : fx_E (fx_Ga 20) fx_ML (985, lwv i, [vi (h.2.2.2.1 90 0 (nI i + 3 : Int32).toNatClampNeg), vi (h.2.2.2.1 90 0 (nI i + 2 : Int32).toNatClampNeg), vi (h.2.2.2.1 90 0 (nI i + 1 : Int32).toNatClampNeg), xO], h, c, n) P := fx_callC rfl rfl [xO, vi (h.2.2.2.1 90 0 (nI i + 1 : Int32).toNatClampNeg), vi (h.2.2.2.1 90 0 (nI i + 2 : Int32).toNatClampNeg), vi (h.2.2.2.1 90 0 (nI i + 3 : Int32).toNatClampNeg)] [] rfl rfl (show 0 ≤ 8 by decide) rfl (show c + 0 ≤ 600000 by omega) (show n + 0 ≤ 7302250 by omega) g1 s1
  exact fx_wpE [985] 40 ⟨sc.bd hL (show i + 1 < L by omega) x1, sc.bd hL (show i + 2 < L by omega) x2, sc.bd hL (show i + 3 < L by omega) x3, s0⟩
theorem lc_ruled (li : LI L Sc h) (hi6 : i + 6 ≤ L) (hL : L ≤ 3072) (hc : c + 4 ≤ 600000) (hn : n + 1204 ≤ 7302250) (k : ∀ h2 c2 n2, LI L Sc h2 → c2 ≤ c + 4 → n2 ≤ n + 1204 → fx_E (fx_Ga 20) fx_ML (1213, lwv i, [], h2, c2, n2) P) : fx_E (fx_Ga 20) fx_ML (1012, lwv i, [], h, c, n) P := by
  have sc := li.sc
  obtain ⟨a, h1, h2, g1, g2, sc1, li2⟩ := op_ruled li (Sc (i + 1))
  have x1 : (nI i + 1 : Int32) = nI (i + 1) := nI_add i 1
  rw [sc.at hL (show i + 1 < L by omega) x1] at g1
  rw [sc1.at hL (show i + 1 < L by omega) x1] at g2
  have s3 : fx_E (fx_Ga 20) fx_ML (1030, lwv i, [vi a, vi a], h2, c + 0 + 0, n + 0 + 0) P := fx_wpE [1213] 10 ⟨fun _ => k h2 _ _ li2 (by omega) (by omega), fun w => absurd rfl w⟩
  have s2 : fx_E (fx_Ga 20) fx_ML (1027, lwv i, [vi (h1.2.2.2.1 90 0 (nI i + 1 : Int32).toNatClampNeg), mO, vi a], h1, c + 0, n + 0) P := fx_callC rfl rfl [mO, vi (h1.2.2.2.1 90 0 (nI i + 1 : Int32).toNatClampNeg)] [vi a] rfl rfl (show 1 ≤ 8 by decide) rfl (show c + 0 + 0 ≤ 600000 by omega) (show n + 0 + 0 ≤ 7302250 by omega) g2 s3
  have s1 : fx_E (fx_Ga 20) fx_ML (1021, lwv i, [vi a], h1, c + 0, n + 0) P := fx_wpE [1027] 40 ⟨sc1.bd hL (show i + 1 < L by omega) x1, s2⟩
  have s0 : fx_E (fx_Ga 20) fx_ML (1018, lwv i, [vi (h.2.2.2.1 90 0 (nI i + 1 : Int32).toNatClampNeg), xO], h, c, n) P := fx_callC rfl rfl [xO, vi (h.2.2.2.1 90 0 (nI i + 1 : Int32).toNatClampNeg)] [] rfl rfl (show 0 ≤ 8 by decide) rfl (show c + 0 ≤ 600000 by omega) (show n + 0 ≤ 7302250 by omega) g1 s1
  exact fx_wpE [1018] 40 ⟨sc.bd hL (show i + 1 < L by omega) x1, s0⟩
theorem lc_look (li : LI L Sc h) (hi6 : i + 6 ≤ L) (hL : L ≤ 3072) (hc : c + 4 ≤ 600000) (hn : n + 1204 ≤ 7302250) (k : ∀ h2 c2 n2, LI L Sc h2 → c2 ≤ c + 4 → n2 ≤ n + 1204 → fx_E (fx_Ga 20) fx_ML (1213, lwv i, [], h2, c2, n2) P) : fx_E (fx_Ga 20) fx_ML (1035, lwv i, [], h, c, n) P := by
  have sc := li.sc
  obtain ⟨a, h1, h2, g1, g2, sc1, li2⟩ := op_look li (Sc (i + 1)) (Sc (i + 2))
  have x1 : (nI i + 1 : Int32) = nI (i + 1) := nI_add i 1
  have x2 : (nI i + 2 : Int32) = nI (i + 2) := nI_add i 2
  rw [sc.at hL (show i + 1 < L by omega) x1, sc.at hL (show i + 2 < L by omega) x2] at g1
  rw [sc1.at hL (show i + 1 < L by omega) x1, sc1.at hL (show i + 2 < L by omega) x2] at g2
  have s3 : fx_E (fx_Ga 20) fx_ML (1063, lwv i, [vi a, vi a], h2, c + 0 + 0, n + 0 + 0) P := fx_wpE [1213] 10 ⟨fun _ => k h2 _ _ li2 (by omega) (by omega), fun w => absurd rfl w⟩
  have s2 : fx_E (fx_Ga 20) fx_ML (1060, lwv i, [vi (h1.2.2.2.1 90 0 (nI i + 2 : Int32).toNatClampNeg), vi (h1.2.2.2.1 90 0 (nI i + 1 : Int32).toNatClampNeg), mO, vi a], h1, c + 0, n + 0) P := fx_callC rfl rfl [mO, vi (h1.2.2.2.1 90 0 (nI i + 1 : Int32).toNatClampNeg), vi (h1.2.2.2.1 90 0 (nI i + 2 : Int32).toNatClampNeg)] [vi a] rfl rfl (show 1 ≤ 8 by decide) rfl (show c + 0 + 0 ≤ 600000 by omega) (show n + 0 + 0 ≤ 7302250 by omega) g2 s3
  have s1 : fx_E (fx_Ga 20) fx_ML (1049, lwv i, [vi a], h1, c + 0, n + 0) P := fx_wpE [1060] 40 ⟨sc1.bd hL (show i + 1 < L by omega) x1, sc1.bd hL (show i + 2 < L by omega) x2, s2⟩
  have s0 : fx_E (fx_Ga 20) fx_ML (1046, lwv i, [vi (h.2.2.2.1 90 0 (nI i + 2 : Int32).toNatClampNeg), vi (h.2.2.2.1 90 0 (nI i + 1 : Int32).toNatClampNeg), xO], h, c, n) P := fx_callC rfl rfl [xO, vi (h.2.2.2.1 90 0 (nI i + 1 : Int32).toNatClampNeg), vi (h.2.2.2.1 90 0 (nI i + 2 : Int32).toNatClampNeg)] [] rfl rfl (show 0 ≤ 8 by decide) rfl (show c + 0 ≤ 600000 by omega) (show n + 0 ≤ 7302250 by omega) g1 s1
  exact fx_wpE [1046] 40 ⟨sc.bd hL (show i + 1 < L by omega) x1, sc.bd hL (show i + 2 < L by omega) x2, s0⟩
theorem lc_seed (li : LI L Sc h) (hi6 : i + 6 ≤ L) (hL : L ≤ 3072) (hc : c + 4 ≤ 600000) (hn : n + 1204 ≤ 7302250) (k : ∀ h2 c2 n2, LI L Sc h2 → c2 ≤ c + 4 → n2 ≤ n + 1204 → fx_E (fx_Ga 20) fx_ML (1213, lwv i, [], h2, c2, n2) P) : fx_E (fx_Ga 20) fx_ML (1068, lwv i, [], h, c, n) P := by
  have sc := li.sc
  obtain ⟨a, h1, h2, g1, g2, sc1, li2⟩ := op_seed li (Sc (i + 1))
  have x1 : (nI i + 1 : Int32) = nI (i + 1) := nI_add i 1
  rw [sc.at hL (show i + 1 < L by omega) x1] at g1
  rw [sc1.at hL (show i + 1 < L by omega) x1] at g2
  have s3 : fx_E (fx_Ga 20) fx_ML (1086, lwv i, [vi a, vi a], h2, c + 0 + 0, n + 0 + 0) P := fx_wpE [1213] 10 ⟨fun _ => k h2 _ _ li2 (by omega) (by omega), fun w => absurd rfl w⟩
  have s2 : fx_E (fx_Ga 20) fx_ML (1083, lwv i, [vi (h1.2.2.2.1 90 0 (nI i + 1 : Int32).toNatClampNeg), mO, vi a], h1, c + 0, n + 0) P := fx_callC rfl rfl [mO, vi (h1.2.2.2.1 90 0 (nI i + 1 : Int32).toNatClampNeg)] [vi a] rfl rfl (show 1 ≤ 8 by decide) rfl (show c + 0 + 0 ≤ 600000 by omega) (show n + 0 + 0 ≤ 7302250 by omega) g2 s3
  have s1 : fx_E (fx_Ga 20) fx_ML (1077, lwv i, [vi a], h1, c + 0, n + 0) P := fx_wpE [1083] 40 ⟨sc1.bd hL (show i + 1 < L by omega) x1, s2⟩
  have s0 : fx_E (fx_Ga 20) fx_ML (1074, lwv i, [vi (h.2.2.2.1 90 0 (nI i + 1 : Int32).toNatClampNeg), xO], h, c, n) P := fx_callC rfl rfl [xO, vi (h.2.2.2.1 90 0 (nI i + 1 : Int32).toNatClampNeg)] [] rfl rfl (show 0 ≤ 8 by decide) rfl (show c + 0 ≤ 600000 by omega) (show n + 0 ≤ 7302250 by omega) g1 s1
  exact fx_wpE [1074] 40 ⟨sc.bd hL (show i + 1 < L by omega) x1, s0⟩
theorem lc_mornings (li : LI L Sc h) (hi6 : i + 6 ≤ L) (hL : L ≤ 3072) (hc : c + 4 ≤ 600000) (hn : n + 1204 ≤ 7302250) (k : ∀ h2 c2 n2, LI L Sc h2 → c2 ≤ c + 4 → n2 ≤ n + 1204 → fx_E (fx_Ga 20) fx_ML (1213, lwv i, [], h2, c2, n2) P) : fx_E (fx_Ga 20) fx_ML (1091, lwv i, [], h, c, n) P := by
  have sc := li.sc
  obtain ⟨a, h1, h2, g1, g2, sc1, li2⟩ := op_mornings li (Sc (i + 1)) (Sc (i + 2)) (Sc (i + 3)) (Sc (i + 4))
  have x1 : (nI i + 1 : Int32) = nI (i + 1) := nI_add i 1
  have x2 : (nI i + 2 : Int32) = nI (i + 2) := nI_add i 2
  have x3 : (nI i + 3 : Int32) = nI (i + 3) := nI_add i 3
  have x4 : (nI i + 4 : Int32) = nI (i + 4) := nI_add i 4
  rw [sc.at hL (show i + 1 < L by omega) x1, sc.at hL (show i + 2 < L by omega) x2, sc.at hL (show i + 3 < L by omega) x3, sc.at hL (show i + 4 < L by omega) x4] at g1
  rw [sc1.at hL (show i + 1 < L by omega) x1, sc1.at hL (show i + 2 < L by omega) x2, sc1.at hL (show i + 3 < L by omega) x3, sc1.at hL (show i + 4 < L by omega) x4] at g2
  have s3 : fx_E (fx_Ga 20) fx_ML (1139, lwv i, [vi a, vi a], h2, c + 0 + 0, n + 0 + 0) P := fx_wpE [1213] 10 ⟨fun _ => k h2 _ _ li2 (by omega) (by omega), fun w => absurd rfl w⟩
  have s2 : fx_E (fx_Ga 20) fx_ML (1136, lwv i, [vi (h1.2.2.2.1 90 0 (nI i + 4 : Int32).toNatClampNeg), vi (h1.2.2.2.1 90 0 (nI i + 3 : Int32).toNatClampNeg), vi (h1.2.2.2.1 90 0 (nI i + 2 : Int32).toNatClampNeg), vi (h1.2.2.2.1 90 0 (nI i + 1 : Int32).toNatClampNeg), mO, vi a], h1, c + 0, n + 0) P := fx_callC rfl rfl [mO, vi (h1.2.2.2.1 90 0 (nI i + 1 : Int32).toNatClampNeg), vi (h1.2.2.2.1 90 0 (nI i + 2 : Int32).toNatClampNeg), vi (h1.2.2.2.1 90 0 (nI i + 3 : Int32).toNatClampNeg), vi (h1.2.2.2.1 90 0 (nI i + 4 : Int32).toNatClampNeg)] [vi a] rfl rfl (show 1 ≤ 8 by decide) rfl (show c + 0 + 0 ≤ 600000 by omega) (show n + 0 + 0 ≤ 7302250 by omega) g2 s3
  have s1 : fx_E (fx_Ga 20) fx_ML (1115, lwv i, [vi a], h1, c + 0, n + 0) P := fx_wpE [1136] 40 ⟨sc1.bd hL (show i + 1 < L by omega) x1, sc1.bd hL (show i + 2 < L by omega) x2, sc1.bd hL (show i + 3 < L by omega) x3, sc1.bd hL (show i + 4 < L by omega) x4, s2⟩
  have s0 : fx_E (fx_Ga 20) fx_ML (1112, lwv i, [vi (h.2.2.2.1 90 0 (nI i + 4 : Int32).toNatClampNeg), vi (h.2.2.2.1 90 0 (nI i + 3 : Int32).toNatClampNeg), vi (h.2.2.2.1 90 0 (nI i + 2 : Int32).toNatClampNeg), vi (h.2.2.2.1 90 0 (nI i + 1 : Int32).toNatClampNeg), xO], h, c, n) P := fx_callC rfl rfl [xO, vi (h.2.2.2.1 90 0 (nI i + 1 : Int32).toNatClampNeg), vi (h.2.2.2.1 90 0 (nI i + 2 : Int32).toNatClampNeg), vi (h.2.2.2.1 90 0 (nI i + 3 : Int32).toNatClampNeg), vi (h.2.2.2.1 90 0 (nI i + 4 : Int32).toNatClampNeg)] [] rfl rfl (show 0 ≤ 8 by decide) rfl (show c + 0 ≤ 600000 by omega) (show n + 0 ≤ 7302250 by omega) g1 s1
  exact fx_wpE [1112] 40 ⟨sc.bd hL (show i + 1 < L by omega) x1, sc.bd hL (show i + 2 < L by omega) x2, sc.bd hL (show i + 3 < L by omega) x3, sc.bd hL (show i + 4 < L by omega) x4, s0⟩
theorem lc_count (li : LI L Sc h) (hi6 : i + 6 ≤ L) (hL : L ≤ 3072) (hc : c + 4 ≤ 600000) (hn : n + 1204 ≤ 7302250) (k : ∀ h2 c2 n2, LI L Sc h2 → c2 ≤ c + 4 → n2 ≤ n + 1204 → fx_E (fx_Ga 20) fx_ML (1213, lwv i, [], h2, c2, n2) P) : fx_E (fx_Ga 20) fx_ML (1144, lwv i, [], h, c, n) P := by
  have sc := li.sc
  obtain ⟨a, h1, h2, g1, g2, sc1, li2⟩ := op_count li (Sc (i + 1))
  have x1 : (nI i + 1 : Int32) = nI (i + 1) := nI_add i 1
  rw [sc.at hL (show i + 1 < L by omega) x1] at g1
  rw [sc1.at hL (show i + 1 < L by omega) x1] at g2
  have s3 : fx_E (fx_Ga 20) fx_ML (1162, lwv i, [vi a, vi a], h2, c + 0 + 0, n + 0 + 0) P := fx_wpE [1213] 10 ⟨fun _ => k h2 _ _ li2 (by omega) (by omega), fun w => absurd rfl w⟩
  have s2 : fx_E (fx_Ga 20) fx_ML (1159, lwv i, [vi (h1.2.2.2.1 90 0 (nI i + 1 : Int32).toNatClampNeg), mO, vi a], h1, c + 0, n + 0) P := fx_callC rfl rfl [mO, vi (h1.2.2.2.1 90 0 (nI i + 1 : Int32).toNatClampNeg)] [vi a] rfl rfl (show 1 ≤ 8 by decide) rfl (show c + 0 + 0 ≤ 600000 by omega) (show n + 0 + 0 ≤ 7302250 by omega) g2 s3
  have s1 : fx_E (fx_Ga 20) fx_ML (1153, lwv i, [vi a], h1, c + 0, n + 0) P := fx_wpE [1159] 40 ⟨sc1.bd hL (show i + 1 < L by omega) x1, s2⟩
  have s0 : fx_E (fx_Ga 20) fx_ML (1150, lwv i, [vi (h.2.2.2.1 90 0 (nI i + 1 : Int32).toNatClampNeg), xO], h, c, n) P := fx_callC rfl rfl [xO, vi (h.2.2.2.1 90 0 (nI i + 1 : Int32).toNatClampNeg)] [] rfl rfl (show 0 ≤ 8 by decide) rfl (show c + 0 ≤ 600000 by omega) (show n + 0 ≤ 7302250 by omega) g1 s1
  exact fx_wpE [1150] 40 ⟨sc.bd hL (show i + 1 < L by omega) x1, s0⟩
theorem lc_image (li : LI L Sc h) (hi6 : i + 6 ≤ L) (hL : L ≤ 3072) (hc : c + 4 ≤ 600000) (hn : n + 1204 ≤ 7302250) (k : ∀ h2 c2 n2, LI L Sc h2 → c2 ≤ c + 4 → n2 ≤ n + 1204 → fx_E (fx_Ga 20) fx_ML (1213, lwv i, [], h2, c2, n2) P) : fx_E (fx_Ga 20) fx_ML (1167, lwv i, [], h, c, n) P := by
  have sc := li.sc
  obtain ⟨a, h1, h2, g1, g2, sc1, li2⟩ := op_image li (Sc (i + 1))
  have x1 : (nI i + 1 : Int32) = nI (i + 1) := nI_add i 1
  rw [sc.at hL (show i + 1 < L by omega) x1] at g1
  rw [sc1.at hL (show i + 1 < L by omega) x1] at g2
  have s3 : fx_E (fx_Ga 20) fx_ML (1185, lwv i, [vi a, vi a], h2, c + 0 + 0, n + 0 + 0) P := fx_wpE [1213] 10 ⟨fun _ => k h2 _ _ li2 (by omega) (by omega), fun w => absurd rfl w⟩
  have s2 : fx_E (fx_Ga 20) fx_ML (1182, lwv i, [vi (h1.2.2.2.1 90 0 (nI i + 1 : Int32).toNatClampNeg), mO, vi a], h1, c + 0, n + 0) P := fx_callC rfl rfl [mO, vi (h1.2.2.2.1 90 0 (nI i + 1 : Int32).toNatClampNeg)] [vi a] rfl rfl (show 1 ≤ 8 by decide) rfl (show c + 0 + 0 ≤ 600000 by omega) (show n + 0 + 0 ≤ 7302250 by omega) g2 s3
  have s1 : fx_E (fx_Ga 20) fx_ML (1176, lwv i, [vi a], h1, c + 0, n + 0) P := fx_wpE [1182] 40 ⟨sc1.bd hL (show i + 1 < L by omega) x1, s2⟩
  have s0 : fx_E (fx_Ga 20) fx_ML (1173, lwv i, [vi (h.2.2.2.1 90 0 (nI i + 1 : Int32).toNatClampNeg), xO], h, c, n) P := fx_callC rfl rfl [xO, vi (h.2.2.2.1 90 0 (nI i + 1 : Int32).toNatClampNeg)] [] rfl rfl (show 0 ≤ 8 by decide) rfl (show c + 0 ≤ 600000 by omega) (show n + 0 ≤ 7302250 by omega) g1 s1
  exact fx_wpE [1173] 40 ⟨sc.bd hL (show i + 1 < L by omega) x1, s0⟩
theorem lc_back (li : LI L Sc h) (hi6 : i + 6 ≤ L) (hL : L ≤ 3072) (hc : c + 4 ≤ 600000) (hn : n + 1204 ≤ 7302250) (k : ∀ h2 c2 n2, LI L Sc h2 → c2 ≤ c + 4 → n2 ≤ n + 1204 → fx_E (fx_Ga 20) fx_ML (1213, lwv i, [], h2, c2, n2) P) : fx_E (fx_Ga 20) fx_ML (1190, lwv i, [], h, c, n) P := by
  have sc := li.sc
  obtain ⟨a, h1, h2, g1, g2, sc1, li2⟩ := op_back li (Sc (i + 1))
  have x1 : (nI i + 1 : Int32) = nI (i + 1) := nI_add i 1
  rw [sc.at hL (show i + 1 < L by omega) x1] at g1
  rw [sc1.at hL (show i + 1 < L by omega) x1] at g2
  have s3 : fx_E (fx_Ga 20) fx_ML (1208, lwv i, [vi a, vi a], h2, c + 0 + 0, n + 0 + 0) P := fx_wpE [1213] 10 ⟨fun _ => k h2 _ _ li2 (by omega) (by omega), fun w => absurd rfl w⟩
  have s2 : fx_E (fx_Ga 20) fx_ML (1205, lwv i, [vi (h1.2.2.2.1 90 0 (nI i + 1 : Int32).toNatClampNeg), mO, vi a], h1, c + 0, n + 0) P := fx_callC rfl rfl [mO, vi (h1.2.2.2.1 90 0 (nI i + 1 : Int32).toNatClampNeg)] [vi a] rfl rfl (show 1 ≤ 8 by decide) rfl (show c + 0 + 0 ≤ 600000 by omega) (show n + 0 + 0 ≤ 7302250 by omega) g2 s3
  have s1 : fx_E (fx_Ga 20) fx_ML (1199, lwv i, [vi a], h1, c + 0, n + 0) P := fx_wpE [1205] 40 ⟨sc1.bd hL (show i + 1 < L by omega) x1, s2⟩
  have s0 : fx_E (fx_Ga 20) fx_ML (1196, lwv i, [vi (h.2.2.2.1 90 0 (nI i + 1 : Int32).toNatClampNeg), xO], h, c, n) P := fx_callC rfl rfl [xO, vi (h.2.2.2.1 90 0 (nI i + 1 : Int32).toNatClampNeg)] [] rfl rfl (show 0 ≤ 8 by decide) rfl (show c + 0 ≤ 600000 by omega) (show n + 0 ≤ 7302250 by omega) g1 s1
  exact fx_wpE [1196] 40 ⟨sc.bd hL (show i + 1 < L by omega) x1, s0⟩
theorem and_63 (w : Int32) : ∃ s, s < 64 ∧ w &&& 63 = nI s := by
  refine ⟨(w &&& 63).toBitVec.toNat, ?_, nI_all _⟩
  rw [Int32.toBitVec_and, BitVec.toNat_and]
  exact Nat.and_lt_two_pow (n := 6) _ (by decide)
theorem lc_all (li : LI L Sc h) (hi6 : i + 6 ≤ L) (hL : L ≤ 3072) (hc : c + 4 ≤ 600000) (hn : n + 1204 ≤ 7302250) (k : ∀ h2 c2 n2, LI L Sc h2 → c2 ≤ c + 4 → n2 ≤ n + 1204 → fx_E (fx_Ga 20) fx_ML (1213, lwv i, [], h2, c2, n2) P) {s : Nat} (hs : s < 64) : fx_E (fx_Ga 20) fx_ML (33, lwv i, [vi (nI s)], h, c, n) P := by
  by_cases h34 : s ≤ 34
  · rcases (show s = 0 ∨ s = 1 ∨ s = 2 ∨ s = 3 ∨ s = 4 ∨ s = 5 ∨ s = 6 ∨ s = 7 ∨ s = 8 ∨ s = 9 ∨ s = 10 ∨ s = 11 ∨ s = 12 ∨ s = 13 ∨ s = 14 ∨ s = 15 ∨ s = 16 ∨ s = 17 ∨ s = 18 ∨ s = 19 ∨ s = 20 ∨ s = 21 ∨ s = 22 ∨ s = 23 ∨ s = 24 ∨ s = 25 ∨ s = 26 ∨ s = 27 ∨ s = 28 ∨ s = 29 ∨ s = 30 ∨ s = 31 ∨ s = 32 ∨ s = 33 ∨ s = 34 by omega) with rfl | rfl | rfl | rfl | rfl | rfl | rfl | rfl | rfl | rfl | rfl | rfl | rfl | rfl | rfl | rfl | rfl | rfl | rfl | rfl | rfl | rfl | rfl | rfl | rfl | rfl | rfl | rfl | rfl | rfl | rfl | rfl | rfl | rfl | rfl
    · exact fx_wpE [188] 10 (tsw (by decide) ⟨_, rfl, lc_feed li hi6 hL hc hn k⟩)
    · exact fx_wpE [251] 10 (tsw (by decide) ⟨_, rfl, lc_end li hi6 hL hc hn k⟩)
    · exact fx_wpE [274] 10 (tsw (by decide) ⟨_, rfl, lc_hunt li hi6 hL hc hn k⟩)
    · exact fx_wpE [287] 10 (tsw (by decide) ⟨_, rfl, lc_rule li hi6 hL hc hn k⟩)
    · exact fx_wpE [300] 10 (tsw (by decide) ⟨_, rfl, lc_force li hi6 hL hc hn k⟩)
    · exact fx_wpE [323] 10 (tsw (by decide) ⟨_, rfl, lc_rider li hi6 hL hc hn k⟩)
    · exact fx_wpE [356] 10 (tsw (by decide) ⟨_, rfl, lc_gateAt li hi6 hL hc hn k⟩)
    · exact fx_wpE [379] 10 (tsw (by decide) ⟨_, rfl, lc_step li hi6 hL hc hn k⟩)
    · exact fx_wpE [392] 10 (tsw (by decide) ⟨_, rfl, lc_spur li hi6 hL hc hn k⟩)
    · exact fx_wpE [425] 10 (tsw (by decide) ⟨_, rfl, lc_hold li hi6 hL hc hn k⟩)
    · exact fx_wpE [458] 10 (tsw (by decide) ⟨_, rfl, lc_dig li hi6 hL hc hn k⟩)
    · exact fx_wpE [481] 10 (tsw (by decide) ⟨_, rfl, lc_gate li hi6 hL hc hn k⟩)
    · exact fx_wpE [504] 10 (tsw (by decide) ⟨_, rfl, lc_undo li hi6 hL hc hn k⟩)
    · exact fx_wpE [517] 10 (tsw (by decide) ⟨_, rfl, lc_last li hi6 hL hc hn k⟩)
    · exact fx_wpE [530] 10 (tsw (by decide) ⟨_, rfl, lc_ahead li hi6 hL hc hn k⟩)
    · exact fx_wpE [573] 10 (tsw (by decide) ⟨_, rfl, lc_it li hi6 hL hc hn k⟩)
    · exact fx_wpE [596] 10 (tsw (by decide) ⟨_, rfl, lc_leastPace li hi6 hL hc hn k⟩)
    · exact fx_wpE [629] 10 (tsw (by decide) ⟨_, rfl, lc_row li hi6 hL hc hn k⟩)
    · exact fx_wpE [672] 10 (tsw (by decide) ⟨_, rfl, lc_shut li hi6 hL hc hn k⟩)
    · exact fx_wpE [705] 10 (tsw (by decide) ⟨_, rfl, lc_help li hi6 hL hc hn k⟩)
    · exact fx_wpE [738] 10 (tsw (by decide) ⟨_, rfl, lc_allIt li hi6 hL hc hn k⟩)
    · exact fx_wpE [751] 10 (tsw (by decide) ⟨_, rfl, lc_meet li hi6 hL hc hn k⟩)
    · exact fx_wpE [784] 10 (tsw (by decide) ⟨_, rfl, lc_bunches li hi6 hL hc hn k⟩)
    · exact fx_wpE [807] 10 (tsw (by decide) ⟨_, rfl, lc_pence li hi6 hL hc hn k⟩)
    · exact fx_wpE [840] 10 (tsw (by decide) ⟨_, rfl, lc_rests li hi6 hL hc hn k⟩)
    · exact fx_wpE [893] 10 (tsw (by decide) ⟨_, rfl, lc_open li hi6 hL hc hn k⟩)
    · exact fx_wpE [936] 10 (tsw (by decide) ⟨_, rfl, lc_close li hi6 hL hc hn k⟩)
    · exact fx_wpE [969] 10 (tsw (by decide) ⟨_, rfl, lc_note li hi6 hL hc hn k⟩)
    · exact fx_wpE [1012] 10 (tsw (by decide) ⟨_, rfl, lc_ruled li hi6 hL hc hn k⟩)
    · exact fx_wpE [1035] 10 (tsw (by decide) ⟨_, rfl, lc_look li hi6 hL hc hn k⟩)
    · exact fx_wpE [1068] 10 (tsw (by decide) ⟨_, rfl, lc_seed li hi6 hL hc hn k⟩)
    · exact fx_wpE [1091] 10 (tsw (by decide) ⟨_, rfl, lc_mornings li hi6 hL hc hn k⟩)
    · exact fx_wpE [1144] 10 (tsw (by decide) ⟨_, rfl, lc_count li hi6 hL hc hn k⟩)
    · exact fx_wpE [1167] 10 (tsw (by decide) ⟨_, rfl, lc_image li hi6 hL hc hn k⟩)
    · exact fx_wpE [1190] 10 (tsw (by decide) ⟨_, rfl, lc_back li hi6 hL hc hn k⟩)
  · have e : (nI s).toInt = (s : Int) := nI_toInt (by omega)
    exact fx_wpE [1213] 10 ⟨fun _ => k h c n li (by omega) (by omega), fun z => absurd (Or.inr (show (34 : Int) < (nI s).toInt by rw [e]; omega)) z⟩
theorem neg_6 : ∀ L, L < 6 → (nI L - 6 : Int32).toInt < 0 := by decide
theorem lw_cmp {i L : Nat} (hL : L ≤ 3072) (hi : i ≤ 4000) {A B : Prop} (f : L < i + 6 → A) (g : i + 6 ≤ L → B) : ((nI L - 6 : Int32) < nI i → A) ∧ (¬ (nI L - 6 : Int32) < nI i → B) := by
  by_cases h6 : L < 6
  · have h1 := neg_6 L h6
    have h2 : (nI i).toInt = (i : Int) := nI_toInt (by omega)
    have h3 : (nI L - 6 : Int32) < nI i := Int32.lt_iff_toInt_lt.mpr (by omega)
    exact ⟨fun _ => f (by omega), fun z => absurd h3 z⟩
  · have e : (nI L - 6 : Int32) = nI (L - 6) := pk_sub (b := 6) (by omega)
    rw [e]
    exact pk_lt (L - 6) i (fun z => f (by omega)) (fun z => g (by omega))
theorem law_loop (hL : L ≤ 3072) (fin : ∀ h, LI L Sc h → P (some (vi 1)) h) : ∀ t i c n h, L ≤ i + 6 * t + 5 → i ≤ L + 6 → c + 4 * t ≤ 600000 → n + 1204 * t ≤ 7302250 → LI L Sc h → fx_E (fx_Ga 20) fx_ML (18, lwv i, [], h, c, n) P := by
  intro t
  induction t with
  | zero =>
    intro i c n h h1 h2 h3 h4 li
    have at1219 : fx_E (fx_Ga 20) fx_ML (1219, lwv i, [], h, c, n) P := fx_E_step (i := .iconst 1) rfl rfl rfl rfl (fx_E_ret (i := .ireturn) rfl rfl rfl ⟨⟨by show c ≤ 600000; omega, by show n ≤ 7302250; omega⟩, rfl, 1, rfl, Or.inr rfl, rfl⟩ (fin h li))
    have z := lw_cmp (i := i) hL (by omega) (A := fx_E (fx_Ga 20) fx_ML (1219, lwv i, [], h, c, n) P) (B := fx_E (fx_Ga 20) fx_ML (27, lwv i, [], h, c, n) P) (fun _ => at1219) (fun z => by omega)
    rw [← li.sc.1] at z
    exact fx_wpL [18, 27, 1219] 20 z
  | succ t ih =>
    intro i c n h h1 h2 h3 h4 li
    have hc' : c + 4 ≤ 600000 := by omega
    have hn' : n + 1204 ≤ 7302250 := Nat.le_trans (Nat.add_le_add_left (Nat.le_mul_of_pos_right 1204 (Nat.succ_pos t)) n) h4
    have at1219 : fx_E (fx_Ga 20) fx_ML (1219, lwv i, [], h, c, n) P := fx_E_step (i := .iconst 1) rfl rfl rfl rfl (fx_E_ret (i := .ireturn) rfl rfl rfl ⟨⟨by show c ≤ 600000; omega, by show n ≤ 7302250; omega⟩, rfl, 1, rfl, Or.inr rfl, rfl⟩ (fin h li))
    have at27 : i + 6 ≤ L → fx_E (fx_Ga 20) fx_ML (27, lwv i, [], h, c, n) P := fun hi6 => by
      have nx : ∀ h2 c2 n2, LI L Sc h2 → c2 ≤ c + 4 → n2 ≤ n + 1204 → fx_E (fx_Ga 20) fx_ML (1213, lwv i, [], h2, c2, n2) P := fun h2 c2 n2 l2 hc2 hn2 => by
        have z := ih (i + 6) c2 n2 h2 (by omega) (by omega) (by omega) (by omega) l2
        unfold lwv at z
        rw [← nI_add i 6] at z
        exact fx_wpE [18] 10 z
      obtain ⟨s, hs, es⟩ := and_63 (h.2.2.2.1 90 0 (nI i).toNatClampNeg)
      have z := lc_all (P := P) (i := i) (c := c) (n := n) li hi6 hL hc' hn' nx hs
      rw [← es] at z
      exact fx_wpE [33] 10 ⟨li.sc.bd hL (k := 0) (by omega) rfl, z⟩
    have z := lw_cmp (i := i) hL (by omega) (A := fx_E (fx_Ga 20) fx_ML (1219, lwv i, [], h, c, n) P) (B := fx_E (fx_Ga 20) fx_ML (27, lwv i, [], h, c, n) P) (fun _ => at1219) at27
    rw [← li.sc.1] at z
    exact fx_wpL [18, 27, 1219] 20 z
end LW
