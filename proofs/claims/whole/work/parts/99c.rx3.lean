/-! the class holds the rule that it made -/
theorem RX_new {σ : fxS} {hi hi' : fxI3} {hl : fxL3} {g0 g1 g2 : Nat → Int32} {R : fxRl} (hR : R ≠ []) (hw : WR R) (h12 : R.length ≤ 12) (hm : (flt R).length ≤ 400) (hx : XMa hi R 0 0) (hc : CD hi (flt R)) (k0 : ∀ i, i < (flt R).length → g0 i = hi 25 0 i) (k1 : ∀ i, i < R.length + 1 → g1 i = hi 26 0 i) (k2 : ∀ i, i < R.length → g2 i = hi 27 0 i) (r0 : hi' 45 (3 * σ.2.1) = g0) (r1 : hi' 45 (3 * σ.2.1 + 1) = g1) (r2 : hi' 45 (3 * σ.2.1 + 2) = g2) (r5 : hi' 5 σ.2.1 1 = nI R.length) : RX (sgU σ (flt R).length R.length) hi' σ.2.1 R := by
  have c0 : clU σ.2.2.2 σ.2.1 (flt R).length R.length (3 * σ.2.1) = (flt R).length := by
    unfold clU
    rw [if_neg (by omega), if_neg (by omega), if_pos rfl]
  have c1 : clU σ.2.2.2 σ.2.1 (flt R).length R.length (3 * σ.2.1 + 1) = R.length + 1 := by
    unfold clU
    rw [if_neg (by omega), if_pos rfl]
  have c2 : clU σ.2.2.2 σ.2.1 (flt R).length R.length (3 * σ.2.1 + 2) = R.length := by
    unfold clU
    rw [if_pos rfl]
  have h26 : hi 26 0 0 = nI 0 := by
    match R, hR, hx with
    | (s, o) :: r, _, hx => exact hx.1
  refine ⟨h12, ?_, r5, c1, c2, RXl_re R 0 0 hx h26 hw (fun x hx2 => ?_) (fun x hx2 => ?_) ?_ (fun k hk => ?_)⟩
  · show clU _ _ _ _ (3 * σ.2.1) ≤ 400
    rw [c0]
    exact hm
  · rw [r1]
    exact k1 x (by omega)
  · rw [r2]
    exact k2 x (by omega)
  · show 0 + (flt R).length ≤ clU _ _ _ _ (3 * σ.2.1)
    rw [c0]
    omega
  · rw [r0, Nat.zero_add, k0 k hk]
    exact hc.2 k hk
