/-! a rule that was made is held so by the class -/
theorem RXl_re {σ : fxS} {hi h0 : fxI3} {t : Nat} : ∀ (R : fxRl) (c q : Nat), XMa h0 R c q → h0 26 0 c = nI q → WR R → (∀ x, x ≤ c + R.length → hi 45 (3 * t + 1) x = h0 26 0 x) → (∀ x, x < c + R.length → hi 45 (3 * t + 2) x = h0 27 0 x) → q + (flt R).length ≤ σ.2.2.2 (3 * t) → (∀ k, k < (flt R).length → hi 45 (3 * t) (q + k) = xCd ((flt R).getD k 0)) → RXl σ hi t R c q
  | [], c, q, _, h6, _, hA, _, _, _ => (hA c (Nat.le_refl _)).trans h6
  | (s, o) :: r, c, q, h, h6, hw, hA, hB, hq, hk => by
    obtain ⟨m1, m2, m3, m4⟩ := h
    obtain ⟨w1, w2, w3⟩ := hw s o (List.mem_cons_self ..)
    have e : flt ((s, o) :: r) = s ++ (o.getD [] ++ flt r) := rfl
    rw [e] at hq hk
    rw [List.length_append, List.length_append] at hq hk
    rw [List.length_cons] at hA hB
    have wo : ∀ x, x ∈ o.getD [] → x < 2 ^ 30 := by
      cases o with
      | none => intro x hx; cases hx
      | some z => exact (w3 z rfl).2.2
    refine ⟨(hA c (by omega)).trans m1, (hB c (by omega)).trans m2, by omega, fun k hk2 => ⟨?_, w2 _ (getD_m hk2)⟩, fun k hk2 => ⟨?_, wo _ (getD_m hk2)⟩, w1, fun z hz => ⟨(w3 z hz).1, (w3 z hz).2.1⟩, ?_⟩
    · rw [hk k (by omega), getD_l hk2]
    · have := hk (s.length + k) (by omega)
      rw [getD_r, getD_l hk2] at this
      rw [show q + s.length + k = q + (s.length + k) by omega]
      exact this
    · refine RXl_re r (c + 1) _ m4 m3 (fun s2 o2 hm => hw s2 o2 (List.mem_cons_of_mem _ hm)) (fun x hx => hA x (by omega)) (fun x hx => hB x (by omega)) (by omega) (fun k hk2 => ?_)
      have := hk (s.length + ((o.getD []).length + k)) (by omega)
      rw [getD_r, getD_r] at this
      rw [show q + s.length + (o.getD []).length + k = q + (s.length + ((o.getD []).length + k)) by omega]
      exact this
