/-! the class makes a rule -/
section MD
variable {d : Nat}
theorem x_ruleInit {h : fxH} {N a b c : Nat} (x : Int32) : fx_Ga (d + 1) 40 [.inr (.inr (some (5, N))), .inr (.inr (some (45, a))), .inr (.inr (some (45, b))), .inr (.inr (some (45, c))), vi x] h none (fx_wi (fx_wr (fx_wr (fx_wr h 5 N 0 (some (45, a))) 5 N 2 (some (45, b))) 5 N 3 (some (45, c))) 5 N 1 x) := by
  refine fx_meth fx_M40 [some (.inr (.inr (some (5, N)))), some (.inr (.inr (some (45, a)))), some (.inr (.inr (some (45, b)))), some (.inr (.inr (some (45, c)))), some (vi x)] (by decide) rfl rfl (Nat.le_of_ble_eq_true rfl) ?_
  refine fx_E_step (i := .aload_n 0) rfl rfl rfl rfl ?_
  refine fx_E_step (i := .invokespecial 1) rfl rfl rfl rfl ?_
  exact fx_wpE [] 40 ⟨rfl, rfl⟩
/-- the heap behind a new rule's making -/
def mkR (σ : fxS) (m c : Nat) (hi : fxI3) (hl : fxL3) (g0 g1 g2 : Nat → Int32) : fxH := fx_wi (fx_wr (fx_wr (fx_wr (fx_wa (fx_mk (fx_wa (fx_mk (fx_wa (fx_mk (fx_mk (hp σ hi hl) 5 0) 45 m) 45 (3 * σ.2.1) g0) 45 (c + 1)) 45 (3 * σ.2.1 + 1) g1) 45 c) 45 (3 * σ.2.1 + 2) g2) 5 σ.2.1 0 (some (45, 3 * σ.2.1))) 5 σ.2.1 2 (some (45, 3 * σ.2.1 + 1))) 5 σ.2.1 3 (some (45, 3 * σ.2.1 + 2))) 5 σ.2.1 1 (nI c)
end MD
