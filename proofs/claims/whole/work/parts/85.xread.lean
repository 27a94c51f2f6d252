/-! the class reads a rule's text -/
theorem nI_all (x : Int32) : x = nI x.toBitVec.toNat := by
  refine Int32.toBitVec_inj.mp ?_
  show x.toBitVec = BitVec.ofNat 32 x.toBitVec.toNat
  rw [BitVec.ofNat_toNat, BitVec.setWidth_eq]
def mr0 (w : Nat) : fxXc := (0, w, false, [], [], 0, [], none)
def LRs (D : Nat) (n : Nat) (σ : fxS) (hi : fxI3) (hl : fxL3) (res : Nat ⊕ fxRl) : Prop := match res with
  | .inl f => ∃ hi', fx_Ga D 46 [rrO, vi (nI n)] (hp σ hi hl) (some (vi (nI f))) (hp σ hi' hl) ∧ Fr9 hi hi'
  | .inr R => ∃ hi', fx_Ga D 46 [rrO, vi (nI n)] (hp σ hi hl) (some (vi 0)) (hp σ hi' hl) ∧ Fr9 hi hi' ∧ CD hi' (flt R) ∧ hi' 6 0 6 = nI R.length ∧ XMa hi' R 0 0
section XM
variable {d : Nat} {σ : fxS} {hi : fxI3} {hl : fxL3} {n : Nat} {T : Nat → Int32}
theorem x_rread (hn : n ≤ 400) (hT : ∀ i, i < n → hi 20 0 i = T i) (hbn : BN hi) : ∃ w, LRs (d + 7) n σ hi hl (mrun T n (n + 1) 0 (mr0 w)) := by
  refine ⟨(hi 6 0 13).toBitVec.toNat, ?_⟩
  have e13 := nI_all (hi 6 0 13)
  generalize (hi 6 0 13).toBitVec.toNat = w at e13
  have hb := x_begin (d := d + 5) (σ := σ) (hi := hi) (hl := hl) (j := 1) hn
  generalize hh : fx_up (fx_up (fx_up (fx_up (fx_up (fx_up (fx_up (fx_up (fx_up (fx_up hi 7 1 1 (nI n)) 7 1 2 0) 6 0 5 0) 6 0 6 0) 6 0 7 0) 6 0 8 0) 6 0 9 0) 6 0 10 0) 6 0 14 0) 6 0 12 0 = h2
  have off : ∀ k j s, ¬ (k = 6 ∧ (5 ≤ s ∧ s ≤ 10 ∨ s = 14 ∨ s = 12)) → ¬ (k = 7 ∧ j = 1 ∧ (s = 1 ∨ s = 2)) → h2 k j s = hi k j s := by
    intro k j s a1 a2
    rw [← hh]
    repeat rw [up_off _ _ (by omega)]
  have z : h2 6 0 5 = 0 ∧ h2 6 0 6 = 0 ∧ h2 6 0 7 = 0 ∧ h2 6 0 8 = 0 ∧ h2 6 0 9 = 0 ∧ h2 6 0 10 = 0 ∧ h2 6 0 14 = 0 ∧ h2 6 0 12 = 0 ∧ h2 7 1 1 = nI n ∧ h2 7 1 2 = 0 := by
    rw [← hh]
    exact ⟨rfl, rfl, rfl, rfl, rfl, rfl, rfl, rfl, rfl, rfl⟩
  obtain ⟨z5, z6, z7, z8, z9, z10, z14, z12, y1, y2⟩ := z
  have hx : XC h2 (mr0 w) := ⟨⟨z5, fun k hk => absurd hk (Nat.not_lt_zero k)⟩, ⟨z7, fun k hk => absurd hk (Nat.not_lt_zero k)⟩, z8, z9, z10, z12, (off 6 0 13 (by omega) (by omega)).trans e13, z14, z6, trivial, fun a => absurd rfl a, fun s hs => by cases hs⟩
  have hj : JR 0 (mr0 w) := ⟨fun o ho => by (cases ho), trivial, Nat.le_refl _, by decide, Nat.zero_le _, by decide, by decide, fun a => absurd rfl a, fun _ => ⟨rfl, rfl⟩, fun _ => rfl, fun a => by omega, fun a => by omega, fun a => by (cases a), fun a => by omega⟩
  have hf : Fr9 hi h2 := fun k j s a1 a2 a3 => off k j s (by omega) (by omega)
  have hl0 := x_rloop (d := d) (σ := σ) (hl := hl) (T := T) (n := n) (h0 := hi) (n + 1) 0 0 (mr0 w) h2 0 none rfl (Or.inr ⟨show (0 : Nat) ≠ 6 by decide, by omega, Nat.le_refl _⟩) (Nat.zero_le _) ⟨hn, y1, fun i hi2 => (off 20 0 i (by omega) (by omega)).trans (hT i hi2)⟩ y2 (fun i hi2 => (off 91 0 i (by omega) (by omega)).trans (hbn i hi2)) hx hj hf
  rw [← hh] at hl0
  obtain ⟨r, h', hg, e⟩ := fx_methX (d := d + 6) (y := 46) (av := [rrO, vi (nI n)]) (h := hp σ hi hl) (P := LRP σ hi hl (mrun T n (n + 1) 0 (mr0 w))) fx_M46 [some rrO, some (vi (nI n)), none, none] (by decide) rfl rfl (Nat.le_of_ble_eq_true rfl) (fx_wpE [50] 60 ⟨_, _, hb, hl0⟩)
  generalize mrun T n (n + 1) 0 (mr0 w) = res at e
  match res, e with
  | .inl f, ⟨e1, hi', e2, e3⟩ =>
    subst e1
    subst e2
    exact ⟨hi', hg, e3⟩
  | .inr R, ⟨e1, hi', e2, e3⟩ =>
    subst e1
    subst e2
    exact ⟨hi', hg, e3⟩
end XM
