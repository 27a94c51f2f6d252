/-! the law from its entry, over the abstract machine -/
section ST
variable {L : Nat} {Sc : Nat → Int32} {P : Option fxV → fxH → Prop}
theorem iM_z {k j s : Nat} (h1 : k < 90) (h2 : k ≠ 8) (h3 : k ≠ 9) (h4 : k ≠ 11 ∨ s ≠ 21 ∧ s ≠ 23) : iM Sc k j s = 0 := by
  unfold iM
  rw [up_off _ _ (by omega), up_off _ _ (by omega)]
  exact zI_W 4 k j s h2 h3 h1
theorem GV_0 : GV (fun _ => 0) := ⟨by decide, by decide, fun g hg hb => by simp [vGate] at hb⟩
theorem MV_0 : MV (fun _ => 0) := by
  refine ⟨⟨by decide, by decide, by decide, by decide, by decide, fun i h6 => ⟨Nat.zero_le _, Nat.zero_le _, Nat.zero_le _, Nat.zero_le _⟩⟩, GV_0, ⟨Or.inr ⟨rfl, rfl, rfl⟩, by decide⟩, ⟨⟨by decide, by decide, fun g hg hb => ?_⟩, fun i h6 => ⟨Nat.zero_le _, Nat.zero_le _⟩⟩, by decide, fun i hi => absurd hi (Nat.not_lt_zero i)⟩
  unfold vGate at hb
  rcases (show g / 30 = 0 ∨ g / 30 = 1 by omega) with z | z
  · rw [z] at hb
    have : vBg (fun _ => 0) (36 + 0) = 0 := rfl
    rw [this] at hb
    simp at hb
  · rw [z] at hb
    have : vBg (fun _ => 0) (36 + 1) = 0 := rfl
    rw [this] at hb
    simp at hb
theorem PX_0 {j : Nat} {v : Nat → Nat} (hv : v = fun _ => 0) : PX (iM Sc) (fun _ _ _ => 0) j v := by
  subst hv
  exact ⟨iM_z (by decide) (by decide) (by decide) (by omega), iM_z (by decide) (by decide) (by decide) (by omega), iM_z (by decide) (by decide) (by decide) (by omega), iM_z (by decide) (by decide) (by decide) (by omega), iM_z (by decide) (by decide) (by decide) (by omega), iM_z (by decide) (by decide) (by decide) (by omega), rfl, fun i hi => absurd hi (Nat.not_lt_zero i)⟩
theorem bn_0 : ∀ i, i < 14 → fx_binds i = nI ([5, 5, 6, 6, 6, 4, 4, 4, 4, 4, 2, 1, 3, 0].getD i 0) := by decide +kernel
theorem LI_0 : LI L Sc (hp (L, 0, none, fun _ => 0) (iM Sc) (fun _ _ _ => 0)) := by
  refine ⟨_, _, _, fun _ => 0, none, 0, 0, fun _ => [], 0, fun _ _ => 0, 0, fun _ => 0, fun _ => none, rfl, rfl, ⟨⟨PX_0 rfl, PX_0 ?_, ⟨?_, fun i hi => absurd hi (Nat.not_lt_zero i)⟩, rfl, rfl⟩, ⟨?_, rfl, fun i hi => ?_, rfl, fun i => rfl⟩, fun t ht => absurd ht (Nat.not_lt_zero t), ⟨0, by decide, Nat.zero_le _, ?_, ?_, fun i hi => absurd hi (Nat.not_lt_zero i)⟩, ⟨?_, fun i hi => absurd hi (Nat.not_lt_zero i)⟩, fun c hc => ?_⟩, ⟨fun i hi => ⟨?_, show 0 < 2 ^ 30 by decide⟩, ⟨rfl, ?_, rfl, ?_⟩, fun t ht => absurd ht (Nat.not_lt_zero t), ⟨Nat.zero_le _, ?_, fun i k hi => absurd hi (Nat.not_lt_zero i)⟩, ⟨Nat.zero_le _, ?_, fun i hi => absurd hi (Nat.not_lt_zero i)⟩, fun c hc => ?_⟩, MV_0, ⟨fun t ht => by (cases ht), by decide, by decide⟩, fun i hi => absurd hi (Nat.not_lt_zero i), ⟨Nat.zero_le _, fun i hi => absurd hi (Nat.not_lt_zero i)⟩, fun c hc q hq => by (cases hq)⟩
  · unfold vBz
    rw [if_neg (by decide)]
  · exact iM_z (by decide) (by decide) (by decide) (by omega)
  · exact iM_z (by decide) (by decide) (by decide) (by omega)
  · exact (show iM Sc 91 0 i = fx_binds i from rfl).trans (bn_0 i hi)
  · exact iM_z (by decide) (by decide) (by decide) (by omega)
  · exact iM_z (by decide) (by decide) (by decide) (by omega)
  · exact iM_z (by decide) (by decide) (by decide) (by omega)
  · exact iM_z (by decide) (by decide) (by decide) (by omega)
  · exact iM_z (by decide) (by decide) (by decide) (by omega)
  · exact iM_z (by decide) (by decide) (by decide) (by omega)
  · exact iM_z (by decide) (by decide) (by decide) (by omega)
  · exact iM_z (by decide) (by decide) (by decide) (by omega)
  · exact iM_z (by decide) (by decide) (by decide) (by omega)
  · exact iM_z (by decide) (by decide) (by decide) (by omega)
set_option maxRecDepth 100000 in
theorem law_E (hL : L ≤ 3072) (fin : ∀ h, LI L Sc h → P (some (vi 1)) h) : fx_E (fx_Ga 20) fx_ML (0, [some (.inr (.inr (some (90, 0)))), none, none, none], [], tH L cnt0 R0 (int0 Sc), 0, 0) P := by
  have g1 := x_fox (d := 17) (L := L) (sc := Sc)
  have g2 := x_model (d := 19) (L := L) (sc := Sc)
  rw [both_made] at g2
  have s := law_loop (P := P) hL fin 512 0 258 7460 _ (by omega) (by omega) (by decide) (by decide) (LI_0 (L := L) (Sc := Sc))
  exact fx_wpE [18] 40 ⟨_, _, g1, _, _, g2, s⟩
end ST
