/-! by which rules days were: the reference -/
theorem vBg_congr {w v : Nat → Nat} (h : ∀ x, x < 10 ∨ 38 ≤ x → w x = v x) : vBg w = vBg v := by
  funext x
  by_cases hx : x < 10 ∨ 38 ≤ x
  · rw [vBg_ne w hx, vBg_ne v hx]
    exact h x hx
  · rcases (show x = 10 ∨ x = 11 ∨ (12 ≤ x ∧ x < 36) ∨ x = 36 ∨ x = 37 by omega) with rfl | rfl | c | rfl | rfl
    · rfl
    · rfl
    · have l : ∀ u : Nat → Nat, vBg u x = (if x % 4 = 0 then 100 - u (38 + (x - 12) / 4) else if x % 4 = 1 then u (44 + (x - 12) / 4) else 0) := fun u => by
        unfold vBg
        rw [if_neg (by omega), if_neg (by omega), if_pos c]
      rw [l w, l v, h (38 + (x - 12) / 4) (by omega), h (44 + (x - 12) / 4) (by omega)]
    · exact h 50 (by omega)
    · exact h 51 (by omega)
def FrG (hi hi' : fxI3) : Prop := ∀ k j s, ¬ scr k s → ¬ (k = 11 ∧ j = 0 ∧ s = 21) → hi' k j s = hi k j s
theorem FrG.tr {a b c : fxI3} (h : FrG a b) (g : FrG b c) : FrG a c := fun k j s h1 h2 => (g k j s h1 h2).trans (h k j s h1 h2)
theorem FrQ.g {a b : fxI3} (h : FrQ a b) : FrG a b := fun k j s h1 _ => h k j s h1
def JM (hi : fxI3) (R : Nat → fxRl) (v : Nat → Nat) (n p : Nat) : Prop := hi 65 0 p = b01 (vFt R v p) ∧ ∀ r, r < 6 → hi 66 0 (6 * p + r) = nI (vRu R v n p r)
section FI
variable {d : Nat} {σ : fxS} {hi : fxI3} {hl : fxL3} {v : Nat → Nat} {rl : Option fxRl} {R : Nat → fxRl} {N : Nat}
theorem m_fillsFits (hn : NM hi v rl) (ht : TOK v) (hno : NOK v) (h2N : hi 11 0 2 = nI N) (hN : N ≤ 6) (hR : ∀ t, t < N → RM hi t (R t)) {n : Nat} (hn60 : n ≤ 60) : ∃ hi' hl', fx_Ga (d + 7) 240 [mO, vi (nI n)] (hp σ hi hl) none (hp σ hi' hl') ∧ FrQ hi hi' ∧ FlQ hl hl' ∧ PM hi' v ∧ ∀ p, p ≤ N → JM hi' R v n p := by
  obtain ⟨hv, hs, hf, hr⟩ := hn
  have h4 := hs.1
  have hsb := hs.bg ht
  have b4 : vBg v 4 = v 4 := vBg_ne v (by omega)
  obtain ⟨g, hg1, hk⟩ := m_keeps (d := d + 5) (σ := σ) (hl := hl) hv
  have f1 : FrQ hi (fx_all hi 63 0 g) := FrQ.all hi g (fun s => by unfold scr; omega)
  let Post : Option fxV → fxH → Prop := fun r2 h2 => r2 = none ∧ ∃ hi' hl', h2 = hp σ hi' hl' ∧ FrQ hi hi' ∧ FlQ hl hl' ∧ PM hi' v ∧ ∀ p, p ≤ N → JM hi' R v n p
  have loop : ∀ t p (hb : fxI3) (hlb : fxL3) (w : Nat → Nat) l4 l5 l6, p + t = N + 1 → FrG hi hb → FlQ hl hlb → KP hb v → PM hb w → (∀ x, x < 10 ∨ 38 ≤ x → w x = v x) → (∀ q, q < p → JM hb R v n q) → fx_E (fx_Ga (d + 6)) fx_M240 (11, [some mO, some (vi (nI n)), some (vi (hi 11 0 21)), some (vi (nI p)), l4, l5, l6], [], hp σ hb hlb, 0, 0) Post := by
    intro t
    induction t with
    | zero =>
      intro p hb hlb w l4 l5 l6 hp1 g1 g2 hkb hwb hw hJ
      have m2 : hb 11 0 2 = nI N := (g1 11 0 2 (by unfold scr; omega) (by omega)).trans h2N
      obtain ⟨g3, hg3, hv3⟩ := m_laysBack (d := d + 5) (σ := σ) (hi := fx_up hb 11 0 21 (hi 11 0 21)) (hl := hlb) (v := v) (w := w) hwb hkb hw
      refine fx_wpL [11] 30 (pk_lt N p (fun _ => ?_) (fun hc => by omega) m2)
      refine ⟨_, _, hg3, rfl, _, _, rfl, fun k j s hks => ?_, g2, hv3, fun q hq => hJ q (by omega)⟩
      rw [fx_all_ne _ _ (fun z => hks (Or.inl z.1))]
      by_cases e : k = 11 ∧ j = 0 ∧ s = 21
      · obtain ⟨rfl, rfl, rfl⟩ := e
        exact up_at _ _ _ _ _
      · rw [up_off _ _ e]
        exact g1 k j s hks e
    | succ t ih =>
      intro p hb hlb w l4 l5 l6 hp1 g1 g2 hkb hwb hw hJ
      have m2 : hb 11 0 2 = nI N := (g1 11 0 2 (by unfold scr; omega) (by omega)).trans h2N
      have hft : vFt R v p = vFi (rr R p) v 61 := rfl
      have hru : ∀ r, vRu R v n p r = vIt (rr R p) n (vBg v) (12 + 4 * r) := fun r => rfl
      have hFM : ∀ hc : fxI3, FrG hi hc → hc 11 0 21 = tI p → FM hc (rr R p) := fun hc k1 k2 => by
        cases p with
        | zero => exact k2
        | succ p => exact ⟨p, by omega, k2, RM_of (fun s => k1 51 0 s (by unfold scr; omega) (by omega)) (fun s => k1 53 0 s (by unfold scr; omega) (by omega)) (fun s => k1 54 0 s (by unfold scr; omega) (by omega)) (hR p (by omega))⟩
      have hWM : ∀ hc : fxI3, FrG hi hc → WM hc none := fun hc k1 => (k1 11 0 23 (by unfold scr; omega) (by omega)).trans hr
      generalize rr R p = rl2 at hft hru hFM
      obtain ⟨hi1, hg1, e1, hv1⟩ := m_begins (d := d + 5) (σ := σ) (hi := fx_up hb 11 0 21 (tI p)) (hl := hlb) (v := w) hwb (fun i h6 => by rw [hw _ (by omega)]; exact (ht.2 i h6).2)
      rw [vBg_congr hw] at hv1
      have F1 : FrG hi hi1 := fun k j s h1 h2 => (e1 k j s (fun z => h1 (Or.inl z))).trans ((up_off hb _ h2).trans (g1 k j s h1 h2))
      have t1 : hi1 11 0 21 = tI p := (e1 11 0 21 (by decide)).trans (up_at _ _ _ _ _)
      have k1 : KP hi1 v := fun k hk => ⟨(e1 63 0 k (by decide)).trans (hkb k hk).1, (hkb k hk).2⟩
      have j1 : ∀ q, q < p → JM hi1 R v n q := fun q hq => ⟨(e1 65 0 q (by decide)).trans (hJ q hq).1, fun r hr => (e1 66 0 _ (by decide)).trans ((hJ q hq).2 r hr)⟩
      have days : ∀ t i (hc : fxI3) (hlc : fxL3) l6, i + t = 61 → FrG hi hc → FlQ hl hlc → hc 11 0 21 = tI p → KP hc v → PM hc (vIt rl2 i (vBg v)) → (∀ q, q < p → JM hc R v n q) → (n < i → ∀ r, r < 6 → hc 66 0 (6 * p + r) = nI (vRu R v n p r)) → fx_E (fx_Ga (d + 6)) fx_M240 (36, [some mO, some (vi (nI n)), some (vi (hi 11 0 21)), some (vi (nI p)), some (vi (b01 (vFi rl2 v i))), some (vi (nI i)), l6], [], hp σ hc hlc, 0, 0) Post := by
        intro t
        induction t with
        | zero =>
          intro i hc hlc l6 hi0 g3 g4 tc kc hvc jc rc
          have : i = 61 := by omega
          subst this
          have h2 := ih (p + 1) (fx_up hc 65 0 p (b01 (vFi rl2 v 61))) hlc (vIt rl2 61 (vBg v)) (some (vi (b01 (vFi rl2 v 61)))) (some (vi (nI 61))) l6 (by omega) (g3.tr (FrQ.up hc _ (by unfold scr; omega)).g) g4 kc hvc (fun x hx => (it_same rl2 hsb.1 61 x hx).trans (vBg_ne v hx)) (fun q hq => by
            by_cases e : q = p
            · subst e
              refine ⟨(up_at _ _ _ _ _).trans (by rw [hft]), fun r hr => ?_⟩
              rw [up_off _ _ (by omega)]
              exact rc (by omega) r hr
            · refine ⟨by rw [up_off _ _ (by omega)]; exact (jc q (by omega)).1, fun r hr => ?_⟩
              rw [up_off _ _ (by omega)]
              exact (jc q (by omega)).2 r hr)
          rw [← nI_1] at h2
          conv at h2 => rw [show fx_up hc 65 0 p (b01 (vFi rl2 v 61)) = fx_up hc 65 0 (nI p).toNatClampNeg (vp_nar .boolean (b01 (vFi rl2 v 61))) by rw [nar_b01, nI_clamp (show p < 2 ^ 31 by omega)]]
          exact fx_wpL [11, 36] 30 (pk_lt 60 61 (fun _ => ⟨ni_in (n := p) (m := 7) (by omega) (by decide), h2⟩) (fun hc => by omega))
        | succ t iht =>
          intro i hc hlc l6 hi0 g3 g4 tc kc hvc jc rc
          have hsi := hsb.it rl2 i
          have i10 : vIt rl2 i (vBg v) 10 = i := by rw [vIt_10]; exact Nat.zero_add i
          have i4 : vIt rl2 i (vBg v) 4 = v 4 := (vIt_lo rl2 _ (by decide) i).trans b4
          have hsv := hsi.sv (by omega)
          have tail : ∀ (he : fxI3) l6, FrG hi he → he 11 0 21 = tI p → KP he v → PM he (vIt rl2 i (vBg v)) → (∀ q, q < p → JM he R v n q) → (n < i + 1 → ∀ r, r < 6 → he 66 0 (6 * p + r) = nI (vRu R v n p r)) → fx_E (fx_Ga (d + 6)) fx_M240 (104, [some mO, some (vi (nI n)), some (vi (hi 11 0 21)), some (vi (nI p)), some (vi (b01 (vFi rl2 v (i + 1)))), some (vi (nI i)), l6], [], hp σ he hlc, 0, 0) Post := by
            intro he l6 k1 k2 k3 k4 k5 k6
            obtain ⟨hi3, hl3, hg3, p1, p2, hv3⟩ := m_passes (d := d) (σ := σ) (hl := hlc) (rl := rl2) (row := none) k4 hsv (hFM he k1 k2) (hWM he k1)
            have h2 := iht (i + 1) hi3 hl3 l6 (by omega) (k1.tr p1.q.g) (g4.tr p2.q) ((p1 11 0 21 (by decide) (by decide) (by omega)).trans k2) (k3.fr p1) hv3 (fun q hq => ⟨(p1 65 0 q (by decide) (by decide) (by omega)).trans (k5 q hq).1, fun r hr => (p1 66 0 _ (by decide) (by decide) (by omega)).trans ((k5 q hq).2 r hr)⟩) (fun hni r hr => (p1 66 0 _ (by decide) (by decide) (by omega)).trans (k6 hni r hr))
            rw [← nI_1] at h2
            exact fx_wpE [36] 20 ⟨_, _, hg3, h2⟩
          have runs : fx_E (fx_Ga (d + 6)) fx_M240 (64, [some mO, some (vi (nI n)), some (vi (hi 11 0 21)), some (vi (nI p)), some (vi (b01 (vFi rl2 v (i + 1)))), some (vi (nI i)), l6], [], hp σ hc hlc, 0, 0) Post := by
            by_cases hin : i = n
            · subst hin
              have copy : ∀ u k (he : fxI3), k + u = 6 → FrG hi he → he 11 0 21 = tI p → KP he v → PM he (vIt rl2 i (vBg v)) → (∀ q, q < p → JM he R v i q) → (∀ r, r < k → he 66 0 (6 * p + r) = nI (vRu R v i p r)) → fx_E (fx_Ga (d + 6)) fx_M240 (67, [some mO, some (vi (nI i)), some (vi (hi 11 0 21)), some (vi (nI p)), some (vi (b01 (vFi rl2 v (i + 1)))), some (vi (nI i)), some (vi (nI k))], [], hp σ he hlc, 0, 0) Post := by
                intro u
                induction u with
                | zero =>
                  intro k he hk6 k1 k2 k3 k4 k5 k6
                  have : k = 6 := by omega
                  subst this
                  exact fx_wpL [67, 104] 20 (pk_le 6 6 (fun _ => tail he _ k1 k2 k3 k4 k5 (fun _ => k6)) (fun hc => by omega))
                | succ u ihu =>
                  intro k he hk6 k1 k2 k3 k4 k5 k6
                  have ix : (6 * nI p + nI k : Int32) = nI (6 * p + k) := by
                    show nI 6 * nI p + nI k = _
                    rw [pk_mul, nI_add]
                  have hro := m_runOf (d := d + 5) (σ := σ) (hl := hlc) k4 (show k < 6 by omega)
                  rw [← hru] at hro
                  have h2 := ihu (k + 1) (fx_up he 66 0 (6 * p + k) (nI (vRu R v i p k))) (by omega) (k1.tr (FrQ.up he _ (by unfold scr; omega)).g) k2 k3 k4 (fun q hq => ⟨(k5 q hq).1, fun r hr => by
                    rw [up_off _ _ (by omega)]
                    exact (k5 q hq).2 r hr⟩) (fun r hr => by
                    by_cases e : r = k
                    · subst e
                      exact up_at _ _ _ _ _
                    · rw [up_off _ _ (by omega)]
                      exact k6 r (by omega))
                  rw [← nI_1] at h2
                  conv at h2 => rw [show fx_up he 66 0 (6 * p + k) = fx_up he 66 0 (6 * nI p + nI k : Int32).toNatClampNeg by rw [ni_cl ix (by omega)]]
                  refine fx_wpL [67, 104] 30 (pk_le 6 k (fun hc => by omega) (fun _ => ⟨fun (z : ¬ nI i = nI i) => absurd rfl z, fun _ => ⟨_, _, hro, ni_inx (n := 6 * p + k) (m := 42) ix (by omega) (by decide), h2⟩⟩))
              exact fx_wpE [67] 9 (copy 6 0 hc rfl g3 tc kc hvc jc (fun r hr => absurd hr (by omega)))
            · refine fx_wpE [104] 20 (pk_le 6 0 (fun hc => by omega) (fun _ => nn_eq i n (fun z => absurd z hin) (fun _ => tail hc _ g3 tc kc hvc jc (fun hni => rc (by omega)))))
          have hnx : vFi rl2 v (i + 1) = (vFi rl2 v i && vNt v (vIt rl2 i (vBg v)) i (v 82) 0) := rfl
          refine fx_wpL [36, 64] 40 (pk_lt 60 i (fun hc => by omega) (fun _ => b01_if (fun h0 => ?_) (fun h1 => ?_)))
          · rw [hnx, h0, Bool.false_and] at runs
            exact runs
          · have has := m_areNotesSo (d := d + 4) (σ := σ) (hl := hlc) (v := v) hvc hsv (fun x hx => (it_same rl2 hsb.1 i x (Or.inr hx)).trans (vBg_ne v (Or.inr hx))) i4 hno (n := i) (by omega)
            refine ⟨_, _, has, b01_if (fun h2 => ?_) (fun h2 => ?_)⟩
            · rw [hnx, h2, Bool.and_false] at runs
              exact runs
            · rw [hnx, h1, h2] at runs
              exact runs
      have h3 := days 61 0 hi1 hlb l6 rfl F1 g2 t1 k1 hv1 j1 (fun z => absurd z (by omega))
      rw [← nI_m1] at hg1
      refine fx_wpL [11, 36] 30 (pk_lt N p (fun hc => by omega) (fun _ => ⟨_, _, hg1, h3⟩) m2)
  obtain ⟨r, h', hg', e1, hi', hl', e2, e3⟩ := fx_methX (d := d + 6) (y := 240) (av := [mO, vi (nI n)]) (h := hp σ hi hl) (P := Post) fx_M240 [some mO, some (vi (nI n)), none, none, none, none, none] (by decide) rfl rfl (Nat.le_of_ble_eq_true rfl) (fx_wpE [11] 20 ⟨_, _, hg1, loop (N + 1) 0 (fx_all hi 63 0 g) hl v none none none (by omega) f1.g (FlQ.rf hl) hk hv (fun _ _ => rfl) (fun q hq => absurd hq (by omega))⟩)
  subst e1
  subst e2
  exact ⟨hi', hl', hg', e3⟩
theorem m_alikeAt {ft : Nat → Bool} {run : Nat → Nat} {r : Nat} (h2N : hi 11 0 2 = nI N) (hN : N ≤ 6) (hr : r < 6) (hJ : ∀ p, p ≤ N → hi 65 0 p = b01 (ft p) ∧ hi 66 0 (6 * p + r) = nI (run p)) (hrun : ∀ p, run p < 2 ^ 31) : fx_Ga (d + 1) 242 [mO, vi (nI r)] (hp σ hi hl) (some (vi (nI (vMa ft run (N + 1) (N + 1))))) (hp σ hi hl) := by
  refine fx_meth fx_M242 [some mO, some (vi (nI r)), none, none, none, none] (by decide) rfl rfl (Nat.le_of_ble_eq_true rfl) ?_
  have ix : ∀ p : Nat, (6 * nI p + nI r : Int32) = nI (6 * p + r) := fun p => by
    show nI 6 * nI p + nI r = _
    rw [pk_mul, nI_add]
  have loop : ∀ t a l4 l5, a + t = N + 1 → fx_E (fx_Ga d) fx_M242 (4, [some mO, some (vi (nI r)), some (vi (nI (vMa ft run (N + 1) a))), some (vi (nI a)), l4, l5], [], hp σ hi hl, 0, 0) (fun r2 h2 => r2 = some (vi (nI (vMa ft run (N + 1) (N + 1)))) ∧ h2 = hp σ hi hl) := by
    intro t
    induction t with
    | zero =>
      intro a l4 l5 ha
      have : a = N + 1 := by omega
      subst this
      exact fx_wpL [4] 20 (pk_lt N (N + 1) (fun _ => ⟨rfl, rfl⟩) (fun hc => by omega) h2N)
    | succ t ih =>
      intro a l4 l5 ha
      have ma := vMa_le ft run (N + 1) a
      obtain ⟨a1, a2⟩ := hJ a (by omega)
      have ba := ni_in (n := a) (m := 7) (by omega) (by decide)
      have ea : hi 65 0 (nI a).toNatClampNeg = b01 (ft a) := by rw [nI_clamp (by omega)]; exact a1
      have al := vAl_le ft run a (N + 1)
      have fin : ∀ l5, fx_E (fx_Ga d) fx_M242 (88, [some mO, some (vi (nI r)), some (vi (nI (vMa ft run (N + 1) a))), some (vi (nI a)), some (vi (nI (vAl ft run a (N + 1)))), l5], [], hp σ hi hl, 0, 0) (fun r2 h2 => r2 = some (vi (nI (vMa ft run (N + 1) (N + 1)))) ∧ h2 = hp σ hi hl) := by
        intro l5
        have h2 := ih (a + 1) (some (vi (nI (vAl ft run a (N + 1))))) l5 (by omega)
        rw [vMa, ← nI_1 a] at h2
        refine fx_wpE [4] 30 (pk_le (vAl ft run a (N + 1)) (vMa ft run (N + 1) a) (fun hle => ?_) (fun hgt => ?_))
        · rw [Nat.max_eq_left hle] at h2
          exact h2
        · rw [Nat.max_eq_right (Nat.le_of_lt hgt)] at h2
          exact h2
      have inner : ∀ s b, b + s = N + 1 → fx_E (fx_Ga d) fx_M242 (18, [some mO, some (vi (nI r)), some (vi (nI (vMa ft run (N + 1) a))), some (vi (nI a)), some (vi (nI (vAl ft run a b))), some (vi (nI b))], [], hp σ hi hl, 0, 0) (fun r2 h2 => r2 = some (vi (nI (vMa ft run (N + 1) (N + 1)))) ∧ h2 = hp σ hi hl) := by
        intro s
        induction s with
        | zero =>
          intro b hb
          have : b = N + 1 := by omega
          subst this
          exact fx_wpL [18, 88] 30 (pk_lt N (N + 1) (fun _ => fin _) (fun hc => by omega) h2N)
        | succ s ihs =>
          intro b hb
          have alb := vAl_le ft run a b
          obtain ⟨b1, b2⟩ := hJ b (by omega)
          have bb := ni_in (n := b) (m := 7) (by omega) (by decide)
          have eb : hi 65 0 (nI b).toNatClampNeg = b01 (ft b) := by rw [nI_clamp (by omega)]; exact b1
          have h2 := ihs (b + 1) (by omega)
          rw [vAl, ← nI_1 b] at h2
          refine fx_wpL [18, 88] 40 (pk_lt N b (fun hc => by omega) (fun _ => ⟨ba, ?_⟩) h2N)
          cases fa : ft a with
          | false =>
            rw [fa] at ea
            refine ⟨fun _ => ?_, fun z => absurd ea z⟩
            have h3 := fin (some (vi (nI b)))
            rw [vAl_no ft run fa] at h3
            rw [vAl_no ft run fa b]
            exact h3
          | true =>
            rw [fa] at ea h2
            refine ⟨fun z => absurd (ea.symm.trans z) (by decide), fun _ => ⟨bb, ?_⟩⟩
            cases fb : ft b with
            | false =>
              rw [fb] at eb h2
              rw [if_neg (by simp), ← nI_add] at h2
              exact ⟨fun _ => h2, fun z => absurd eb z⟩
            | true =>
              rw [fb] at eb h2
              have ra : hi 66 0 (6 * nI a + nI r : Int32).toNatClampNeg = nI (run a) := by rw [ni_cl (ix a) (by omega)]; exact a2
              have rb : hi 66 0 (6 * nI b + nI r : Int32).toNatClampNeg = nI (run b) := by rw [ni_cl (ix b) (by omega)]; exact b2
              refine ⟨fun z => absurd (eb.symm.trans z) (by decide), fun _ => ⟨ni_inx (n := 6 * a + r) (m := 42) (ix a) (by omega) (by decide), ni_inx (n := 6 * b + r) (m := 42) (ix b) (by omega) (by decide), nn_eq (run a) (run b) (fun he => ?_) (fun he => ?_) ra rb (hrun a) (hrun b)⟩⟩
              · rw [if_pos ⟨rfl, rfl, he⟩, ← nI_add] at h2
                exact h2
              · rw [if_neg (fun z => he z.2.2), ← nI_add] at h2
                exact h2
      refine fx_wpL [4, 18] 30 (pk_lt N a (fun hc => by omega) (fun _ => ?_) h2N)
      exact inner (N + 1) 0 (by omega)
  exact fx_wpE [4] 9 (loop (N + 1) 0 none none (by omega))
theorem m_ruled (hn : NM hi v rl) (ht : TOK v) (hno : NOK v) (h2N : hi 11 0 2 = nI N) (hN : N ≤ 6) (hR : ∀ t, t < N → RM hi t (R t)) (w : Int32) : QM (d + 8) 241 [mO, vi w] σ hi hl v (aRuled R N v w) := by
  have hv := hn.1
  refine QM_of fx_M241 [some mO, some (vi w), none, none, none] (by decide) rfl rfl (Nat.le_of_ble_eq_true rfl) (fx_wpE [36] 40 ?_)
  refine ⟨_, _, m_isHunt hv, bd_if (fun hc => QM.same hv (if_neg (fun z => hc z.1)).symm) (fun hc => ?_)⟩
  refine ⟨_, _, m_inN w 0 1 rfl rfl, bd_nf (fun hc2 => ?_) (fun hc2 => QM.same hv (if_neg (fun z => hc2 z.2)).symm)⟩
  obtain ⟨hi1, hl1, hg1, f1, f2, hv1, hJ⟩ := m_fillsFits (d := d) (σ := σ) (hl := hl) (n := 0) hn ht hno h2N hN hR (by decide)
  refine ⟨_, _, hg1, ?_⟩
  have eA : aRuled R N v w = if w = 0 then nI (vCu (vFt R v) (N + 1) 0) else tO (vFst (vFt R v) (N + 1) 0) := if_pos ⟨hc, hc2⟩
  generalize aRuled R N v w = A at eA
  have hJ : ∀ p, p ≤ N → hi1 65 0 p = b01 (vFt R v p) := fun p hp2 => (hJ p hp2).1
  generalize vFt R v = F at eA hJ
  have m2 : hi1 11 0 2 = nI N := (f1 11 0 2 (by unfold scr; omega)).trans h2N
  have loop : ∀ t, t ≤ N + 1 → fx_E (fx_Ga (d + 7)) fx_M241 (36, [some mO, some (vi w), some (vi (nI (vCu F (N + 1 - t) t))), some (vi (tO (vFst F (N + 1 - t) t))), some (vi (tI t))], [], hp σ hi1 hl1, 0, 0) (QMP σ hi hl v A) := by
    intro t
    induction t with
    | zero =>
      intro _
      refine fx_wpL [36] 30 ⟨fun _ => ?_, fun (z : ¬ tI 0 < 0) => absurd (show tI 0 < 0 by decide) z⟩
      exact ⟨fun (z : ¬ w = 0) => ⟨by rw [eA, if_neg z]; rfl, hi1, hl1, rfl, f1, f2, hv1⟩, fun (z : ¬ ¬ w = 0) => ⟨by rw [eA, if_pos (Classical.not_not.mp z)]; rfl, hi1, hl1, rfl, f1, f2, hv1⟩⟩
    | succ t ih =>
      intro ht2
      have h2 := ih (by omega)
      rw [show N + 1 - t = N + 1 - (t + 1) + 1 by omega, vCu] at h2
      have ej : hi1 65 0 (nI t).toNatClampNeg = b01 (F t) := by rw [nI_clamp (by omega)]; exact hJ t (by omega)
      refine fx_wpL [36] 30 ⟨fun (z : nI t < 0) => absurd z (nI_pos (by omega)), fun _ => ⟨ni_in (n := t) (m := 7) (by omega) (by decide), ?_⟩⟩
      cases hf : F t with
      | false =>
        rw [hf] at ej h2
        rw [vFst_f hf, ← tI_m, if_neg (by decide), Nat.zero_add] at h2
        exact ⟨fun z => absurd ej z, fun _ => h2⟩
      | true =>
        rw [hf] at ej
        rw [vFst_t hf, ← tI_m, if_pos hf, Nat.add_comm 1, ← nI_1] at h2
        refine ⟨fun _ => ?_, fun z => absurd (fun y => absurd (ej.symm.trans y) (by decide)) z⟩
        have h2 : fx_E (fx_Ga (d + 7)) fx_M241 (36, [some mO, some (vi w), some (vi (nI (vCu F (N + 1 - (t + 1)) (t + 1)) + 1)), some (vi (tI t)), some (vi (nI t + -1))], [], hp σ hi1 hl1, 0, 0) (QMP σ hi hl v A) := h2
        rw [← nI_m1] at h2
        exact h2
  have h3 := loop (N + 1) (Nat.le_refl _)
  rw [Nat.sub_self] at h3
  have h3 : fx_E (fx_Ga (d + 7)) fx_M241 (36, [some mO, some (vi w), some (vi (nI 0)), some (vi (-2)), some (vi (nI N))], [], hp σ hi1 hl1, 0, 0) (QMP σ hi hl v A) := h3
  rw [← m2] at h3
  exact h3
theorem m_look (hn : NM hi v rl) (ht : TOK v) (hno : NOK v) (h2N : hi 11 0 2 = nI N) (hN : N ≤ 6) (hR : ∀ t, t < N → RM hi t (R t)) (n w : Int32) : QM (d + 8) 243 [mO, vi n, vi w] σ hi hl v (aLook R N v n w) := by
  have hv := hn.1
  have hs := hn.2.1
  have h4 := hs.1
  refine QM_of fx_M243 [some mO, some (vi n), some (vi w), none, none, none, none] (by decide) rfl rfl (Nat.le_of_ble_eq_true rfl) (fx_wpE [46] 40 ?_)
  refine ⟨_, _, m_isHunt hv, bd_if (fun hc => QM.same hv (if_neg (fun z => hc z.1)).symm) (fun hc => ?_)⟩
  refine ⟨_, _, m_inN n 0 60 rfl rfl, bd_if (fun hc2 => QM.same hv (if_neg (fun z => hc2 z.2.1)).symm) (fun hc2 => ?_)⟩
  refine ⟨_, _, m_inN w 0 1 rfl rfl, bd_nf (fun hc3 => ?_) (fun hc3 => QM.same hv (if_neg (fun z => hc3 z.2.2)).symm)⟩
  obtain ⟨k, _, k3, en, ek⟩ := rg_of (a := 0) (b := 60) hc2 (by decide) (by decide)
  obtain ⟨hi1, hl1, hg1, f1, f2, hv1, hJ⟩ := m_fillsFits (d := d) (σ := σ) (hl := hl) (n := k) hn ht hno h2N hN hR k3
  rw [← en] at hg1
  refine ⟨_, _, hg1, ?_⟩
  have eA : aLook R N v n w = if vCu (vFt R v) (N + 1) 0 = 0 ∨ v 4 = 0 then -2 else if w = 0 then oI (vLk (vAk R N v k) (v 4)).1 else nI (vLk (vAk R N v k) (v 4)).2 := by
    unfold aLook
    rw [if_pos ⟨hc, hc2, hc3⟩, ek]
  generalize aLook R N v n w = A at eA
  have m2 : hi1 11 0 2 = nI N := (f1 11 0 2 (by unfold scr; omega)).trans h2N
  have e4 := (hv1 4 (by decide)).1
  have al7 : ∀ r, vAk R N v k r ≤ 7 := fun r => Nat.le_trans (vMa_le _ _ _ _) (by omega)
  have hsb := hs.bg ht
  have hak : ∀ r, r < 6 → fx_Ga (d + 7) 242 [mO, vi (nI r)] (hp σ hi1 hl1) (some (vi (nI (vAk R N v k r)))) (hp σ hi1 hl1) := fun r hr => m_alikeAt (d := d + 6) (σ := σ) (hi := hi1) (hl := hl1) (ft := vFt R v) (run := fun p => vRu R v k p r) (N := N) (r := r) m2 hN hr (fun p hp2 => ⟨(hJ p hp2).1, (hJ p hp2).2 r hr⟩) (fun p => by
    have q := ((hsb.it (rr R p) k).sv (by rw [vIt_10]; show 0 + k ≤ 9999; omega)).2.2.2.2
    have q1 := (q.2.2 r hr).1
    have q2 := q.1
    show vIt (rr R p) k (vBg v) (12 + 4 * r) < _
    omega)
  have fin : ∀ (x y : Int32) r l6, (A = if w = 0 then x else y) → v 4 ≤ r → r ≤ 6 → fx_E (fx_Ga (d + 7)) fx_M243 (46, [some mO, some (vi n), some (vi w), some (vi x), some (vi y), some (vi (nI r)), l6], [], hp σ hi1 hl1, 0, 0) (QMP σ hi hl v A) := by
    intro x y r l6 e hr hr6
    refine fx_wpL [46] 30 ⟨ni_inx (n := 4) (m := 83) rfl (by decide) (by decide), pk_le (v 4) r (fun _ => ?_) (fun hc => by omega) e4⟩
    exact ⟨fun (z : ¬ w = 0) => ⟨by rw [e, if_neg z], hi1, hl1, rfl, f1, f2, hv1⟩, fun (z : ¬ ¬ w = 0) => ⟨by rw [e, if_pos (Classical.not_not.mp z)], hi1, hl1, rfl, f1, f2, hv1⟩⟩
  by_cases c0 : vCu (vFt R v) (N + 1) 0 = 0
  · have a0 : ∀ r, vAk R N v k r = 0 := fun r => vMa_no _ _ _ _ (fun q hq => vCu_0 _ _ _ c0 q (by omega) (by omega))
    have eA : A = if w = 0 then -2 else -2 := by
      rw [eA, if_pos (Or.inl c0)]
      split <;> rfl
    have loop : ∀ t r l6, r + t = v 4 → fx_E (fx_Ga (d + 7)) fx_M243 (46, [some mO, some (vi n), some (vi w), some (vi (-2)), some (vi (-2)), some (vi (nI r)), l6], [], hp σ hi1 hl1, 0, 0) (QMP σ hi hl v A) := by
      intro t
      induction t with
      | zero => exact fun r l6 hr => fin _ _ r l6 eA (by omega) (by omega)
      | succ t ih =>
        intro r l6 hr
        have hk2 := hak r (by omega)
        rw [a0] at hk2
        have h2 := ih (r + 1) (some (vi (nI 0))) (by omega)
        rw [← nI_1] at h2
        exact fx_wpL [46] 30 ⟨ni_inx (n := 4) (m := 83) rfl (by decide) (by decide), pk_le (v 4) r (fun hc => by omega) (fun _ => ⟨_, _, hk2, pk_eq 0 0 (fun _ => h2) (fun hc => absurd rfl hc)⟩) e4⟩
    exact loop (v 4) 0 none (by omega)
  · obtain ⟨q, _, q2, q3⟩ := vCu_1 _ _ _ c0
    have a1 : ∀ r, 1 ≤ vAk R N v k r := fun r => vMa_pos _ _ q3 (by omega) _ (by omega)
    have loop : ∀ t r l6, r + t = v 4 → 0 < r → fx_E (fx_Ga (d + 7)) fx_M243 (46, [some mO, some (vi n), some (vi w), some (vi (oI (vLk (vAk R N v k) r).1)), some (vi (nI (vLk (vAk R N v k) r).2)), some (vi (nI r)), l6], [], hp σ hi1 hl1, 0, 0) (QMP σ hi hl v A) := by
      intro t
      induction t with
      | zero =>
        intro r l6 hr h0
        have : r = v 4 := by omega
        subst this
        exact fin _ _ (v 4) l6 (by rw [eA, if_neg (by omega)]) (by omega) (by omega)
      | succ t ih =>
        intro r l6 hr h0
        obtain ⟨lk1, lk2, lk3⟩ := vLk_ok _ al7 r
        obtain ⟨b, hb⟩ := lk3 h0
        have b6 := lk2 b hb
        have a7 := al7 r
        have a11 := a1 r
        have h2 := ih (r + 1) (some (vi (nI (vAk R N v k r)))) (by omega) (by omega)
        rw [vLk, ← nI_1] at h2
        rw [hb]
        refine fx_wpL [46] 40 ⟨ni_inx (n := 4) (m := 83) rfl (by decide) (by decide), pk_le (v 4) r (fun hc => by omega) (fun _ => ⟨_, _, hak r (by omega), pk_eq (vAk R N v k r) 0 (fun hc => by omega) (fun _ => ?_)⟩) e4⟩
        refine ⟨fun (z : nI b < 0) => absurd z (nI_pos (by omega)), fun _ => pk_lt (vAk R N v k r) (vLk (vAk R N v k) r).2 (fun hlt => ?_) (fun hge => ?_)⟩
        · rw [if_pos hlt] at h2
          exact h2
        · rw [if_neg (by omega), hb] at h2
          exact h2
    by_cases r0 : v 4 = 0
    · refine fin _ _ 0 none ?_ (by omega) (by omega)
      rw [eA, if_pos (Or.inr r0)]
      split <;> rfl
    · have a7 := al7 0
      have a11 := a1 0
      have h2 := loop (v 4 - 1) (0 + 1) (some (vi (nI (vAk R N v k 0)))) (by omega) (by decide)
      rw [vLk, if_pos (show vAk R N v k 0 < (vLk (vAk R N v k) 0).2 from (by show vAk R N v k 0 < 8; omega)), ← nI_1] at h2
      have h2 : fx_E (fx_Ga (d + 7)) fx_M243 (46, [some mO, some (vi n), some (vi w), some (vi (nI 0)), some (vi (nI (vAk R N v k 0))), some (vi (nI 0 + 1)), some (vi (nI (vAk R N v k 0)))], [], hp σ hi1 hl1, 0, 0) (QMP σ hi hl v A) := h2
      have start : fx_E (fx_Ga (d + 7)) fx_M243 (46, [some mO, some (vi n), some (vi w), some (vi (-2)), some (vi (-2)), some (vi (nI 0)), none], [], hp σ hi1 hl1, 0, 0) (QMP σ hi hl v A) := by
        refine fx_wpL [46] 40 ⟨ni_inx (n := 4) (m := 83) rfl (by decide) (by decide), pk_le (v 4) 0 (fun hc => by omega) (fun _ => ⟨_, _, hak 0 (by omega), pk_eq (vAk R N v k 0) 0 (fun hc => by omega) (fun _ => ?_)⟩) e4⟩
        exact ⟨fun _ => h2, fun (z : ¬ (-2 : Int32) < 0) => absurd (by decide) z⟩
      exact start
end FI
