/-! instructions, family by family (by wip/whole/gen_steps.py) -/
section FXI
variable {p : Program} {l : Launch} {e : Env} {R : Room} {s : State} {m : MethodId} {args : Array Value} {below : List Frame} {meth : Method} {c0 : Code} {Q : State → Prop}
variable {A : Nat → Prop} {D : va_G} {aC : Nat → ClassId} {X : fxX} {M : fxM}
theorem fx_s_iadd (C : fx_Cx p R s m args meth c0 A D aC X M) (K : fx_Mok M) : fx_G p l e R s m args below meth c0 Q A D aC X M (.iadd) := by
  intro pc lv st h c n x ad L H locs ls hF hs I k
  obtain ⟨he, hS, hl, hlv, hst, hln⟩ := id I
  simp only [fx_stp] at hs
  split at hs
  · cases hs
    exact lv_iadd C.1 C.2.1 (fx_dec K hF rfl) (k ad L H locs ls ⟨he, hS, hl, hlv, fx_ci (fx_tl (fx_tl hst)), hln⟩ (fx_ext.rf h ad))
  · cases hs
theorem fx_s_isub (C : fx_Cx p R s m args meth c0 A D aC X M) (K : fx_Mok M) : fx_G p l e R s m args below meth c0 Q A D aC X M (.isub) := by
  intro pc lv st h c n x ad L H locs ls hF hs I k
  obtain ⟨he, hS, hl, hlv, hst, hln⟩ := id I
  simp only [fx_stp] at hs
  split at hs
  · cases hs
    exact lv_isub C.1 C.2.1 (fx_dec K hF rfl) (k ad L H locs ls ⟨he, hS, hl, hlv, fx_ci (fx_tl (fx_tl hst)), hln⟩ (fx_ext.rf h ad))
  · cases hs
theorem fx_s_imul (C : fx_Cx p R s m args meth c0 A D aC X M) (K : fx_Mok M) : fx_G p l e R s m args below meth c0 Q A D aC X M (.imul) := by
  intro pc lv st h c n x ad L H locs ls hF hs I k
  obtain ⟨he, hS, hl, hlv, hst, hln⟩ := id I
  simp only [fx_stp] at hs
  split at hs
  · cases hs
    exact lv_imul C.1 C.2.1 (fx_dec K hF rfl) (k ad L H locs ls ⟨he, hS, hl, hlv, fx_ci (fx_tl (fx_tl hst)), hln⟩ (fx_ext.rf h ad))
  · cases hs
theorem fx_s_iand (C : fx_Cx p R s m args meth c0 A D aC X M) (K : fx_Mok M) : fx_G p l e R s m args below meth c0 Q A D aC X M (.iand) := by
  intro pc lv st h c n x ad L H locs ls hF hs I k
  obtain ⟨he, hS, hl, hlv, hst, hln⟩ := id I
  simp only [fx_stp] at hs
  split at hs
  · cases hs
    exact lv_iand C.1 C.2.1 (fx_dec K hF rfl) (k ad L H locs ls ⟨he, hS, hl, hlv, fx_ci (fx_tl (fx_tl hst)), hln⟩ (fx_ext.rf h ad))
  · cases hs
theorem fx_s_ior (C : fx_Cx p R s m args meth c0 A D aC X M) (K : fx_Mok M) : fx_G p l e R s m args below meth c0 Q A D aC X M (.ior) := by
  intro pc lv st h c n x ad L H locs ls hF hs I k
  obtain ⟨he, hS, hl, hlv, hst, hln⟩ := id I
  simp only [fx_stp] at hs
  split at hs
  · cases hs
    exact lv_ior C.1 C.2.1 (fx_dec K hF rfl) (k ad L H locs ls ⟨he, hS, hl, hlv, fx_ci (fx_tl (fx_tl hst)), hln⟩ (fx_ext.rf h ad))
  · cases hs
theorem fx_s_ixor (C : fx_Cx p R s m args meth c0 A D aC X M) (K : fx_Mok M) : fx_G p l e R s m args below meth c0 Q A D aC X M (.ixor) := by
  intro pc lv st h c n x ad L H locs ls hF hs I k
  obtain ⟨he, hS, hl, hlv, hst, hln⟩ := id I
  simp only [fx_stp] at hs
  split at hs
  · cases hs
    exact lv_ixor C.1 C.2.1 (fx_dec K hF rfl) (k ad L H locs ls ⟨he, hS, hl, hlv, fx_ci (fx_tl (fx_tl hst)), hln⟩ (fx_ext.rf h ad))
  · cases hs
theorem fx_s_ishl (C : fx_Cx p R s m args meth c0 A D aC X M) (K : fx_Mok M) : fx_G p l e R s m args below meth c0 Q A D aC X M (.ishl) := by
  intro pc lv st h c n x ad L H locs ls hF hs I k
  obtain ⟨he, hS, hl, hlv, hst, hln⟩ := id I
  simp only [fx_stp] at hs
  split at hs
  · cases hs
    exact lv_ishl C.1 C.2.1 (fx_dec K hF rfl) (k ad L H locs ls ⟨he, hS, hl, hlv, fx_ci (fx_tl (fx_tl hst)), hln⟩ (fx_ext.rf h ad))
  · cases hs
theorem fx_s_ishr (C : fx_Cx p R s m args meth c0 A D aC X M) (K : fx_Mok M) : fx_G p l e R s m args below meth c0 Q A D aC X M (.ishr) := by
  intro pc lv st h c n x ad L H locs ls hF hs I k
  obtain ⟨he, hS, hl, hlv, hst, hln⟩ := id I
  simp only [fx_stp] at hs
  split at hs
  · cases hs
    exact lv_ishr C.1 C.2.1 (fx_dec K hF rfl) (k ad L H locs ls ⟨he, hS, hl, hlv, fx_ci (fx_tl (fx_tl hst)), hln⟩ (fx_ext.rf h ad))
  · cases hs
theorem fx_s_iushr (C : fx_Cx p R s m args meth c0 A D aC X M) (K : fx_Mok M) : fx_G p l e R s m args below meth c0 Q A D aC X M (.iushr) := by
  intro pc lv st h c n x ad L H locs ls hF hs I k
  obtain ⟨he, hS, hl, hlv, hst, hln⟩ := id I
  simp only [fx_stp] at hs
  split at hs
  · cases hs
    exact lv_iushr C.1 C.2.1 (fx_dec K hF rfl) rfl (k ad L H locs ls ⟨he, hS, hl, hlv, fx_ci (fx_tl (fx_tl hst)), hln⟩ (fx_ext.rf h ad))
  · cases hs
theorem fx_s_idiv (C : fx_Cx p R s m args meth c0 A D aC X M) (K : fx_Mok M) : fx_G p l e R s m args below meth c0 Q A D aC X M (.idiv) := by
  intro pc lv st h c n x ad L H locs ls hF hs I k
  obtain ⟨he, hS, hl, hlv, hst, hln⟩ := id I
  simp only [fx_stp] at hs
  split at hs
  · split at hs
    · cases hs
    · rename_i hne
      cases hs
      exact lv_idiv C.1 C.2.1 (fx_dec K hF rfl) hne (k ad L H locs ls ⟨he, hS, hl, hlv, fx_ci (fx_tl (fx_tl hst)), hln⟩ (fx_ext.rf h ad))
  · cases hs
theorem fx_s_irem (C : fx_Cx p R s m args meth c0 A D aC X M) (K : fx_Mok M) : fx_G p l e R s m args below meth c0 Q A D aC X M (.irem) := by
  intro pc lv st h c n x ad L H locs ls hF hs I k
  obtain ⟨he, hS, hl, hlv, hst, hln⟩ := id I
  simp only [fx_stp] at hs
  split at hs
  · split at hs
    · cases hs
    · rename_i hne
      cases hs
      exact lv_irem C.1 C.2.1 (fx_dec K hF rfl) hne (k ad L H locs ls ⟨he, hS, hl, hlv, fx_ci (fx_tl (fx_tl hst)), hln⟩ (fx_ext.rf h ad))
  · cases hs
theorem fx_s_ineg (C : fx_Cx p R s m args meth c0 A D aC X M) (K : fx_Mok M) : fx_G p l e R s m args below meth c0 Q A D aC X M (.ineg) := by
  intro pc lv st h c n x ad L H locs ls hF hs I k
  obtain ⟨he, hS, hl, hlv, hst, hln⟩ := id I
  simp only [fx_stp] at hs
  split at hs
  · cases hs
    exact lv_ineg C.1 C.2.1 (fx_dec K hF rfl) (k ad L H locs ls ⟨he, hS, hl, hlv, fx_ci (fx_tl hst), hln⟩ (fx_ext.rf h ad))
  · cases hs
theorem fx_s_ladd (C : fx_Cx p R s m args meth c0 A D aC X M) (K : fx_Mok M) : fx_G p l e R s m args below meth c0 Q A D aC X M (.ladd) := by
  intro pc lv st h c n x ad L H locs ls hF hs I k
  obtain ⟨he, hS, hl, hlv, hst, hln⟩ := id I
  simp only [fx_stp] at hs
  split at hs
  · cases hs
    exact lv_ladd C.1 C.2.1 (fx_dec K hF rfl) (k ad L H locs ls ⟨he, hS, hl, hlv, fx_cL (fx_tl (fx_tl hst)), hln⟩ (fx_ext.rf h ad))
  · cases hs
theorem fx_s_lsub (C : fx_Cx p R s m args meth c0 A D aC X M) (K : fx_Mok M) : fx_G p l e R s m args below meth c0 Q A D aC X M (.lsub) := by
  intro pc lv st h c n x ad L H locs ls hF hs I k
  obtain ⟨he, hS, hl, hlv, hst, hln⟩ := id I
  simp only [fx_stp] at hs
  split at hs
  · cases hs
    exact lv_lsub C.1 C.2.1 (fx_dec K hF rfl) (k ad L H locs ls ⟨he, hS, hl, hlv, fx_cL (fx_tl (fx_tl hst)), hln⟩ (fx_ext.rf h ad))
  · cases hs
theorem fx_s_lmul (C : fx_Cx p R s m args meth c0 A D aC X M) (K : fx_Mok M) : fx_G p l e R s m args below meth c0 Q A D aC X M (.lmul) := by
  intro pc lv st h c n x ad L H locs ls hF hs I k
  obtain ⟨he, hS, hl, hlv, hst, hln⟩ := id I
  simp only [fx_stp] at hs
  split at hs
  · cases hs
    exact lv_lmul C.1 C.2.1 (fx_dec K hF rfl) (k ad L H locs ls ⟨he, hS, hl, hlv, fx_cL (fx_tl (fx_tl hst)), hln⟩ (fx_ext.rf h ad))
  · cases hs
theorem fx_s_land (C : fx_Cx p R s m args meth c0 A D aC X M) (K : fx_Mok M) : fx_G p l e R s m args below meth c0 Q A D aC X M (.land) := by
  intro pc lv st h c n x ad L H locs ls hF hs I k
  obtain ⟨he, hS, hl, hlv, hst, hln⟩ := id I
  simp only [fx_stp] at hs
  split at hs
  · cases hs
    exact lv_land C.1 C.2.1 (fx_dec K hF rfl) (k ad L H locs ls ⟨he, hS, hl, hlv, fx_cL (fx_tl (fx_tl hst)), hln⟩ (fx_ext.rf h ad))
  · cases hs
theorem fx_s_lor (C : fx_Cx p R s m args meth c0 A D aC X M) (K : fx_Mok M) : fx_G p l e R s m args below meth c0 Q A D aC X M (.lor) := by
  intro pc lv st h c n x ad L H locs ls hF hs I k
  obtain ⟨he, hS, hl, hlv, hst, hln⟩ := id I
  simp only [fx_stp] at hs
  split at hs
  · cases hs
    exact lv_lor C.1 C.2.1 (fx_dec K hF rfl) (k ad L H locs ls ⟨he, hS, hl, hlv, fx_cL (fx_tl (fx_tl hst)), hln⟩ (fx_ext.rf h ad))
  · cases hs
theorem fx_s_lxor (C : fx_Cx p R s m args meth c0 A D aC X M) (K : fx_Mok M) : fx_G p l e R s m args below meth c0 Q A D aC X M (.lxor) := by
  intro pc lv st h c n x ad L H locs ls hF hs I k
  obtain ⟨he, hS, hl, hlv, hst, hln⟩ := id I
  simp only [fx_stp] at hs
  split at hs
  · cases hs
    exact lv_lxor C.1 C.2.1 (fx_dec K hF rfl) (k ad L H locs ls ⟨he, hS, hl, hlv, fx_cL (fx_tl (fx_tl hst)), hln⟩ (fx_ext.rf h ad))
  · cases hs
theorem fx_s_ldiv (C : fx_Cx p R s m args meth c0 A D aC X M) (K : fx_Mok M) : fx_G p l e R s m args below meth c0 Q A D aC X M (.ldiv) := by
  intro pc lv st h c n x ad L H locs ls hF hs I k
  obtain ⟨he, hS, hl, hlv, hst, hln⟩ := id I
  simp only [fx_stp] at hs
  split at hs
  · split at hs
    · cases hs
    · rename_i hne
      cases hs
      exact lv_ldiv C.1 C.2.1 (fx_dec K hF rfl) hne (k ad L H locs ls ⟨he, hS, hl, hlv, fx_cL (fx_tl (fx_tl hst)), hln⟩ (fx_ext.rf h ad))
  · cases hs
theorem fx_s_lrem (C : fx_Cx p R s m args meth c0 A D aC X M) (K : fx_Mok M) : fx_G p l e R s m args below meth c0 Q A D aC X M (.lrem) := by
  intro pc lv st h c n x ad L H locs ls hF hs I k
  obtain ⟨he, hS, hl, hlv, hst, hln⟩ := id I
  simp only [fx_stp] at hs
  split at hs
  · split at hs
    · cases hs
    · rename_i hne
      cases hs
      exact lv_lrem C.1 C.2.1 (fx_dec K hF rfl) hne (k ad L H locs ls ⟨he, hS, hl, hlv, fx_cL (fx_tl (fx_tl hst)), hln⟩ (fx_ext.rf h ad))
  · cases hs
theorem fx_s_lneg (C : fx_Cx p R s m args meth c0 A D aC X M) (K : fx_Mok M) : fx_G p l e R s m args below meth c0 Q A D aC X M (.lneg) := by
  intro pc lv st h c n x ad L H locs ls hF hs I k
  obtain ⟨he, hS, hl, hlv, hst, hln⟩ := id I
  simp only [fx_stp] at hs
  split at hs
  · cases hs
    exact lv_lneg C.1 C.2.1 (fx_dec K hF rfl) (k ad L H locs ls ⟨he, hS, hl, hlv, fx_cL (fx_tl hst), hln⟩ (fx_ext.rf h ad))
  · cases hs
theorem fx_s_lshl (C : fx_Cx p R s m args meth c0 A D aC X M) (K : fx_Mok M) : fx_G p l e R s m args below meth c0 Q A D aC X M (.lshl) := by
  intro pc lv st h c n x ad L H locs ls hF hs I k
  obtain ⟨he, hS, hl, hlv, hst, hln⟩ := id I
  simp only [fx_stp] at hs
  split at hs
  · cases hs
    exact lv_lshl C.1 C.2.1 (fx_dec K hF rfl) rfl (k ad L H locs ls ⟨he, hS, hl, hlv, fx_cL (fx_tl (fx_tl hst)), hln⟩ (fx_ext.rf h ad))
  · cases hs
theorem fx_s_lushr (C : fx_Cx p R s m args meth c0 A D aC X M) (K : fx_Mok M) : fx_G p l e R s m args below meth c0 Q A D aC X M (.lushr) := by
  intro pc lv st h c n x ad L H locs ls hF hs I k
  obtain ⟨he, hS, hl, hlv, hst, hln⟩ := id I
  simp only [fx_stp] at hs
  split at hs
  · cases hs
    exact lv_lushr C.1 C.2.1 (fx_dec K hF rfl) rfl (k ad L H locs ls ⟨he, hS, hl, hlv, fx_cL (fx_tl (fx_tl hst)), hln⟩ (fx_ext.rf h ad))
  · cases hs
theorem fx_s_lcmp (C : fx_Cx p R s m args meth c0 A D aC X M) (K : fx_Mok M) : fx_G p l e R s m args below meth c0 Q A D aC X M (.lcmp) := by
  intro pc lv st h c n x ad L H locs ls hF hs I k
  obtain ⟨he, hS, hl, hlv, hst, hln⟩ := id I
  simp only [fx_stp] at hs
  split at hs
  · cases hs
    exact W.lcmp C.1 C.2.1 (fx_dec K hF rfl) (k ad L H locs ls ⟨he, hS, hl, hlv, fx_ci (fx_tl (fx_tl hst)), hln⟩ (fx_ext.rf h ad))
  · cases hs
theorem fx_s_i2l (C : fx_Cx p R s m args meth c0 A D aC X M) (K : fx_Mok M) : fx_G p l e R s m args below meth c0 Q A D aC X M (.i2l) := by
  intro pc lv st h c n x ad L H locs ls hF hs I k
  obtain ⟨he, hS, hl, hlv, hst, hln⟩ := id I
  simp only [fx_stp] at hs
  split at hs
  · cases hs
    exact lv_i2l C.1 C.2.1 (fx_dec K hF rfl) rfl (k ad L H locs ls ⟨he, hS, hl, hlv, fx_cL (fx_tl hst), hln⟩ (fx_ext.rf h ad))
  · cases hs
theorem fx_s_l2i (C : fx_Cx p R s m args meth c0 A D aC X M) (K : fx_Mok M) : fx_G p l e R s m args below meth c0 Q A D aC X M (.l2i) := by
  intro pc lv st h c n x ad L H locs ls hF hs I k
  obtain ⟨he, hS, hl, hlv, hst, hln⟩ := id I
  simp only [fx_stp] at hs
  split at hs
  · cases hs
    exact lv_l2i C.1 C.2.1 (fx_dec K hF rfl) rfl (k ad L H locs ls ⟨he, hS, hl, hlv, fx_ci (fx_tl hst), hln⟩ (fx_ext.rf h ad))
  · cases hs
theorem fx_s_i2b (C : fx_Cx p R s m args meth c0 A D aC X M) (K : fx_Mok M) : fx_G p l e R s m args below meth c0 Q A D aC X M (.i2b) := by
  intro pc lv st h c n x ad L H locs ls hF hs I k
  obtain ⟨he, hS, hl, hlv, hst, hln⟩ := id I
  simp only [fx_stp] at hs
  split at hs
  · cases hs
    exact lv_i2b C.1 C.2.1 (fx_dec K hF rfl) rfl (k ad L H locs ls ⟨he, hS, hl, hlv, fx_ci (fx_tl hst), hln⟩ (fx_ext.rf h ad))
  · cases hs
theorem fx_s_iconst (C : fx_Cx p R s m args meth c0 A D aC X M) (K : fx_Mok M) (v : Int) : fx_G p l e R s m args below meth c0 Q A D aC X M (.iconst v) := by
  intro pc lv st h c n x ad L H locs ls hF hs I k
  obtain ⟨he, hS, hl, hlv, hst, hln⟩ := id I
  simp only [fx_stp] at hs
  cases hs
  exact lv_iconst C.1 C.2.1 (fx_dec K hF rfl) rfl (k ad L H locs ls ⟨he, hS, hl, hlv, fx_ci hst, hln⟩ (fx_ext.rf h ad))
theorem fx_s_bipush (C : fx_Cx p R s m args meth c0 A D aC X M) (K : fx_Mok M) (v : Int) : fx_G p l e R s m args below meth c0 Q A D aC X M (.bipush v) := by
  intro pc lv st h c n x ad L H locs ls hF hs I k
  obtain ⟨he, hS, hl, hlv, hst, hln⟩ := id I
  simp only [fx_stp] at hs
  cases hs
  exact lv_bipush C.1 C.2.1 (fx_dec K hF rfl) rfl (k ad L H locs ls ⟨he, hS, hl, hlv, fx_ci hst, hln⟩ (fx_ext.rf h ad))
theorem fx_s_sipush (C : fx_Cx p R s m args meth c0 A D aC X M) (K : fx_Mok M) (v : Int) : fx_G p l e R s m args below meth c0 Q A D aC X M (.sipush v) := by
  intro pc lv st h c n x ad L H locs ls hF hs I k
  obtain ⟨he, hS, hl, hlv, hst, hln⟩ := id I
  simp only [fx_stp] at hs
  cases hs
  exact lv_sipush C.1 C.2.1 (fx_dec K hF rfl) rfl (k ad L H locs ls ⟨he, hS, hl, hlv, fx_ci hst, hln⟩ (fx_ext.rf h ad))
theorem fx_s_lconst (C : fx_Cx p R s m args meth c0 A D aC X M) (K : fx_Mok M) (v : Fin 2) : fx_G p l e R s m args below meth c0 Q A D aC X M (.lconst v) := by
  intro pc lv st h c n x ad L H locs ls hF hs I k
  obtain ⟨he, hS, hl, hlv, hst, hln⟩ := id I
  simp only [fx_stp] at hs
  cases hs
  exact lv_lconst C.1 C.2.1 (fx_dec K hF rfl) rfl (k ad L H locs ls ⟨he, hS, hl, hlv, fx_cL hst, hln⟩ (fx_ext.rf h ad))
theorem fx_s_aconst_null (C : fx_Cx p R s m args meth c0 A D aC X M) (K : fx_Mok M) : fx_G p l e R s m args below meth c0 Q A D aC X M (.aconst_null) := by
  intro pc lv st h c n x ad L H locs ls hF hs I k
  obtain ⟨he, hS, hl, hlv, hst, hln⟩ := id I
  simp only [fx_stp] at hs
  cases hs
  exact lv_null C.1 C.2.1 (fx_dec K hF rfl) (k ad L H locs ls ⟨he, hS, hl, hlv, fx_cn (P := fx_ok h) trivial hst, hln⟩ (fx_ext.rf h ad))
theorem fx_s_ldc (C : fx_Cx p R s m args meth c0 A D aC X M) (K : fx_Mok M) (v : Nat) : fx_G p l e R s m args below meth c0 Q A D aC X M (.ldc v) := by
  intro pc lv st h c n x ad L H locs ls hF hs I k
  obtain ⟨he, hS, hl, hlv, hst, hln⟩ := id I
  simp only [fx_stp] at hs
  obtain ⟨-, -, -, -, -, Ki, -, Ks, -, -⟩ := id K
  split at hs
  · rename_i w hw
    cases hs
    exact lv_ldc C.1 C.2.1 C.2.2.2.1 (C.2.2.2.2.1 _ (Ki _ _ (fx_lk_mem hw))) (fx_dec K hF rfl) (k ad L H locs ls ⟨he, hS, hl, hlv, fx_ci hst, hln⟩ (fx_ext.rf h ad))
  · split at hs
    · rename_i j hj
      cases hs
      obtain ⟨hj1, tx, hj2⟩ := Ks _ _ (fx_lk_mem hj)
      have hX := he.2.2.2.2
      have e9 := hX.2.2.2.2.2.2.2.2.1 j hj1
      refine va_ldcS (q := ad (92, j)) C.1 C.2.1 C.2.2.2.1 (tx := tx) (by rw [e9]; exact C.2.2.2.2.2.2.2.2.2.1.2.2.2.2.1 _ hj2) (fx_dec K hF rfl) (k ad L H locs ls ⟨he, hS, hl, hlv, fx_cn (P := fx_ok h) (by show j < h.1 92; rw [hX.2.2.2.2.2.2.2.2.2]; exact hj1) hst, hln⟩ (fx_ext.rf h ad))
    · cases hs
theorem fx_s_ldc_w (C : fx_Cx p R s m args meth c0 A D aC X M) (K : fx_Mok M) (v : Nat) : fx_G p l e R s m args below meth c0 Q A D aC X M (.ldc_w v) := by
  intro pc lv st h c n x ad L H locs ls hF hs I k
  obtain ⟨he, hS, hl, hlv, hst, hln⟩ := id I
  simp only [fx_stp] at hs
  have Ki := K.2.2.2.2.2.1
  split at hs
  · rename_i w hw
    cases hs
    exact lv_ldcw C.1 C.2.1 C.2.2.2.1 (C.2.2.2.2.1 _ (Ki _ _ (fx_lk_mem hw))) (fx_dec K hF rfl) (k ad L H locs ls ⟨he, hS, hl, hlv, fx_ci hst, hln⟩ (fx_ext.rf h ad))
  · cases hs
theorem fx_s_ldc2_w (C : fx_Cx p R s m args meth c0 A D aC X M) (K : fx_Mok M) (v : Nat) : fx_G p l e R s m args below meth c0 Q A D aC X M (.ldc2_w v) := by
  intro pc lv st h c n x ad L H locs ls hF hs I k
  obtain ⟨he, hS, hl, hlv, hst, hln⟩ := id I
  simp only [fx_stp] at hs
  have Ki := K.2.2.2.2.2.2.1
  split at hs
  · rename_i w hw
    cases hs
    exact lv_ldc2 C.1 C.2.1 C.2.2.2.1 (C.2.2.2.2.1 _ (Ki _ _ (fx_lk_mem hw))) (fx_dec K hF rfl) (k ad L H locs ls ⟨he, hS, hl, hlv, fx_cL hst, hln⟩ (fx_ext.rf h ad))
  · cases hs
theorem fx_s_iload_n (C : fx_Cx p R s m args meth c0 A D aC X M) (K : fx_Mok M) (v : Fin 4) : fx_G p l e R s m args below meth c0 Q A D aC X M (.iload_n v) := by
  intro pc lv st h c n x ad L H locs ls hF hs I k
  obtain ⟨he, hS, hl, hlv, hst, hln⟩ := id I
  simp only [fx_stp] at hs
  split at hs
  · rename_i w hw
    cases hs
    exact lv_iload_n C.1 C.2.1 (fx_dec K hF rfl) rfl (fx_lvat hl hw) (k ad L H locs ls ⟨he, hS, hl, hlv, fx_ci hst, hln⟩ (fx_ext.rf h ad))
  · cases hs
theorem fx_s_iload (C : fx_Cx p R s m args meth c0 A D aC X M) (K : fx_Mok M) (v : Nat) : fx_G p l e R s m args below meth c0 Q A D aC X M (.iload v) := by
  intro pc lv st h c n x ad L H locs ls hF hs I k
  obtain ⟨he, hS, hl, hlv, hst, hln⟩ := id I
  simp only [fx_stp] at hs
  split at hs
  · rename_i w hw
    cases hs
    exact lv_iload C.1 C.2.1 (fx_dec K hF rfl) (fx_lvat hl hw) (k ad L H locs ls ⟨he, hS, hl, hlv, fx_ci hst, hln⟩ (fx_ext.rf h ad))
  · cases hs
theorem fx_s_lload_n (C : fx_Cx p R s m args meth c0 A D aC X M) (K : fx_Mok M) (v : Fin 4) : fx_G p l e R s m args below meth c0 Q A D aC X M (.lload_n v) := by
  intro pc lv st h c n x ad L H locs ls hF hs I k
  obtain ⟨he, hS, hl, hlv, hst, hln⟩ := id I
  simp only [fx_stp] at hs
  split at hs
  · rename_i w hw
    cases hs
    exact lv_lload_n C.1 C.2.1 (fx_dec K hF rfl) rfl (fx_lvat hl hw) (k ad L H locs ls ⟨he, hS, hl, hlv, fx_cL hst, hln⟩ (fx_ext.rf h ad))
  · cases hs
theorem fx_s_lload (C : fx_Cx p R s m args meth c0 A D aC X M) (K : fx_Mok M) (v : Nat) : fx_G p l e R s m args below meth c0 Q A D aC X M (.lload v) := by
  intro pc lv st h c n x ad L H locs ls hF hs I k
  obtain ⟨he, hS, hl, hlv, hst, hln⟩ := id I
  simp only [fx_stp] at hs
  split at hs
  · rename_i w hw
    cases hs
    exact lv_lload C.1 C.2.1 (fx_dec K hF rfl) (fx_lvat hl hw) (k ad L H locs ls ⟨he, hS, hl, hlv, fx_cL hst, hln⟩ (fx_ext.rf h ad))
  · cases hs
theorem fx_s_aload_n (C : fx_Cx p R s m args meth c0 A D aC X M) (K : fx_Mok M) (v : Fin 4) : fx_G p l e R s m args below meth c0 Q A D aC X M (.aload_n v) := by
  intro pc lv st h c n x ad L H locs ls hF hs I k
  obtain ⟨he, hS, hl, hlv, hst, hln⟩ := id I
  simp only [fx_stp] at hs
  split at hs
  · rename_i w hw
    cases hs
    cases w with
    | none => exact lv_aload_nN C.1 C.2.1 (fx_dec K hF rfl) rfl (fx_lvat hl hw) (k ad L H locs ls ⟨he, hS, hl, hlv, fx_cn (P := fx_ok h) (hlv _ _ hw) hst, hln⟩ (fx_ext.rf h ad))
    | some r => exact lv_aload_n C.1 C.2.1 (fx_dec K hF rfl) rfl (fx_lvat hl hw) (k ad L H locs ls ⟨he, hS, hl, hlv, fx_cn (P := fx_ok h) (hlv _ _ hw) hst, hln⟩ (fx_ext.rf h ad))
  · cases hs
theorem fx_s_aload (C : fx_Cx p R s m args meth c0 A D aC X M) (K : fx_Mok M) (v : Nat) : fx_G p l e R s m args below meth c0 Q A D aC X M (.aload v) := by
  intro pc lv st h c n x ad L H locs ls hF hs I k
  obtain ⟨he, hS, hl, hlv, hst, hln⟩ := id I
  simp only [fx_stp] at hs
  split at hs
  · rename_i w hw
    cases hs
    cases w with
    | none => exact lv_aloadN C.1 C.2.1 (fx_dec K hF rfl) (fx_lvat hl hw) (k ad L H locs ls ⟨he, hS, hl, hlv, fx_cn (P := fx_ok h) (hlv _ _ hw) hst, hln⟩ (fx_ext.rf h ad))
    | some r => exact lv_aload C.1 C.2.1 (fx_dec K hF rfl) (fx_lvat hl hw) (k ad L H locs ls ⟨he, hS, hl, hlv, fx_cn (P := fx_ok h) (hlv _ _ hw) hst, hln⟩ (fx_ext.rf h ad))
  · cases hs
theorem fx_s_istore_n (C : fx_Cx p R s m args meth c0 A D aC X M) (K : fx_Mok M) (v : Fin 4) : fx_G p l e R s m args below meth c0 Q A D aC X M (.istore_n v) := by
  intro pc lv st h c n x ad L H locs ls hF hs I k
  obtain ⟨he, hS, hl, hlv, hst, hln⟩ := id I
  simp only [fx_stp] at hs
  split at hs
  · cases hb : Nat.blt v M.1.2.2.1 with
    | false => rw [hb] at hs; cases hs
    | true =>
      rw [hb] at hs
      cases hs
      exact lv_istore_n C.1 C.2.1 (fx_dec K hF rfl) rfl hl (Nat.le_of_ble_eq_true hb) rfl (fun ls' hl' => (k ad L H locs ls' ⟨he, hS, fx_lv1 hl', (fun i w hw => (fx_st1_get hw).elim (fun z => by rw [z.2]; exact True.intro) (fun z => hlv i w z.2.1)), (fx_tl hst), (by rw [fx_st1_len]; exact hln)⟩ (fx_ext.rf h ad)))
  · cases hs
theorem fx_s_istore (C : fx_Cx p R s m args meth c0 A D aC X M) (K : fx_Mok M) (v : Nat) : fx_G p l e R s m args below meth c0 Q A D aC X M (.istore v) := by
  intro pc lv st h c n x ad L H locs ls hF hs I k
  obtain ⟨he, hS, hl, hlv, hst, hln⟩ := id I
  simp only [fx_stp] at hs
  split at hs
  · cases hb : Nat.blt v M.1.2.2.1 with
    | false => rw [hb] at hs; cases hs
    | true =>
      rw [hb] at hs
      cases hs
      exact lv_istore C.1 C.2.1 (fx_dec K hF rfl) hl (Nat.le_of_ble_eq_true hb) rfl (fun ls' hl' => (k ad L H locs ls' ⟨he, hS, fx_lv1 hl', (fun i w hw => (fx_st1_get hw).elim (fun z => by rw [z.2]; exact True.intro) (fun z => hlv i w z.2.1)), (fx_tl hst), (by rw [fx_st1_len]; exact hln)⟩ (fx_ext.rf h ad)))
  · cases hs
theorem fx_s_lstore_n (C : fx_Cx p R s m args meth c0 A D aC X M) (K : fx_Mok M) (v : Fin 4) : fx_G p l e R s m args below meth c0 Q A D aC X M (.lstore_n v) := by
  intro pc lv st h c n x ad L H locs ls hF hs I k
  obtain ⟨he, hS, hl, hlv, hst, hln⟩ := id I
  simp only [fx_stp] at hs
  split at hs
  · cases hb : Nat.blt (v + 1) M.1.2.2.1 with
    | false => rw [hb] at hs; cases hs
    | true =>
      rw [hb] at hs
      cases hs
      exact lv_lstore_n C.1 C.2.1 (fx_dec K hF rfl) rfl hl (Nat.le_of_ble_eq_true hb) rfl (fun ls' hl' => (k ad L H locs ls' ⟨he, hS, fx_lv2 hl', (fun i w hw => (fx_st2_get hw).elim (fun z => by rw [z.2]; exact True.intro) (fun z => hlv i w z.2.2.1)), (fx_tl hst), (by rw [fx_st2_len]; exact hln)⟩ (fx_ext.rf h ad)))
  · cases hs
theorem fx_s_lstore (C : fx_Cx p R s m args meth c0 A D aC X M) (K : fx_Mok M) (v : Nat) : fx_G p l e R s m args below meth c0 Q A D aC X M (.lstore v) := by
  intro pc lv st h c n x ad L H locs ls hF hs I k
  obtain ⟨he, hS, hl, hlv, hst, hln⟩ := id I
  simp only [fx_stp] at hs
  split at hs
  · cases hb : Nat.blt (v + 1) M.1.2.2.1 with
    | false => rw [hb] at hs; cases hs
    | true =>
      rw [hb] at hs
      cases hs
      exact lv_lstore C.1 C.2.1 (fx_dec K hF rfl) hl (Nat.le_of_ble_eq_true hb) rfl (fun ls' hl' => (k ad L H locs ls' ⟨he, hS, fx_lv2 hl', (fun i w hw => (fx_st2_get hw).elim (fun z => by rw [z.2]; exact True.intro) (fun z => hlv i w z.2.2.1)), (fx_tl hst), (by rw [fx_st2_len]; exact hln)⟩ (fx_ext.rf h ad)))
  · cases hs
theorem fx_s_astore_n (C : fx_Cx p R s m args meth c0 A D aC X M) (K : fx_Mok M) (v : Fin 4) : fx_G p l e R s m args below meth c0 Q A D aC X M (.astore_n v) := by
  intro pc lv st h c n x ad L H locs ls hF hs I k
  obtain ⟨he, hS, hl, hlv, hst, hln⟩ := id I
  simp only [fx_stp] at hs
  split at hs
  · rename_i u r
    cases hb : Nat.blt v M.1.2.2.1 with
    | false => rw [hb] at hs; cases hs
    | true =>
      rw [hb] at hs
      cases hs
      cases u with
      | none => exact lv_astore_nN C.1 C.2.1 (fx_dec K hF rfl) rfl hl (Nat.le_of_ble_eq_true hb) rfl (fun ls' hl' => (k ad L H locs ls' ⟨he, hS, fx_lv1 hl', (fun i w hw => (fx_st1_get hw).elim (fun z => by rw [z.2]; exact fx_hd hst) (fun z => hlv i w z.2.1)), (fx_tl hst), (by rw [fx_st1_len]; exact hln)⟩ (fx_ext.rf h ad)))
      | some u => exact lv_astore_n C.1 C.2.1 (fx_dec K hF rfl) rfl hl (Nat.le_of_ble_eq_true hb) rfl (fun ls' hl' => (k ad L H locs ls' ⟨he, hS, fx_lv1 hl', (fun i w hw => (fx_st1_get hw).elim (fun z => by rw [z.2]; exact fx_hd hst) (fun z => hlv i w z.2.1)), (fx_tl hst), (by rw [fx_st1_len]; exact hln)⟩ (fx_ext.rf h ad)))
  · cases hs
theorem fx_s_astore (C : fx_Cx p R s m args meth c0 A D aC X M) (K : fx_Mok M) (v : Nat) : fx_G p l e R s m args below meth c0 Q A D aC X M (.astore v) := by
  intro pc lv st h c n x ad L H locs ls hF hs I k
  obtain ⟨he, hS, hl, hlv, hst, hln⟩ := id I
  simp only [fx_stp] at hs
  split at hs
  · rename_i u r
    cases hb : Nat.blt v M.1.2.2.1 with
    | false => rw [hb] at hs; cases hs
    | true =>
      rw [hb] at hs
      cases hs
      cases u with
      | none => exact lv_astoreN C.1 C.2.1 (fx_dec K hF rfl) hl (Nat.le_of_ble_eq_true hb) rfl (fun ls' hl' => (k ad L H locs ls' ⟨he, hS, fx_lv1 hl', (fun i w hw => (fx_st1_get hw).elim (fun z => by rw [z.2]; exact fx_hd hst) (fun z => hlv i w z.2.1)), (fx_tl hst), (by rw [fx_st1_len]; exact hln)⟩ (fx_ext.rf h ad)))
      | some u => exact lv_astore C.1 C.2.1 (fx_dec K hF rfl) hl (Nat.le_of_ble_eq_true hb) rfl (fun ls' hl' => (k ad L H locs ls' ⟨he, hS, fx_lv1 hl', (fun i w hw => (fx_st1_get hw).elim (fun z => by rw [z.2]; exact fx_hd hst) (fun z => hlv i w z.2.1)), (fx_tl hst), (by rw [fx_st1_len]; exact hln)⟩ (fx_ext.rf h ad)))
  · cases hs
theorem fx_s_iinc (C : fx_Cx p R s m args meth c0 A D aC X M) (K : fx_Mok M) (v : Nat) (d : Int) : fx_G p l e R s m args below meth c0 Q A D aC X M (.iinc v d) := by
  intro pc lv st h c n x ad L H locs ls hF hs I k
  obtain ⟨he, hS, hl, hlv, hst, hln⟩ := id I
  simp only [fx_stp] at hs
  split at hs
  · rename_i w hw
    cases hb : Nat.blt v M.1.2.2.1 with
    | false => rw [hb] at hs; cases hs
    | true =>
      rw [hb] at hs
      cases hs
      obtain ⟨q, hq⟩ := List.getElem?_of_mem (fx_lvo_mem (ad := ad) (q := (v, .int w)).mpr ⟨_, hw, rfl⟩)
      exact lv_iinc C.1 C.2.1 (fx_dec K hF rfl) hl hq rfl (Nat.le_of_ble_eq_true hb) rfl (fun ls' hl' => (k ad L H locs ls' ⟨he, hS, fx_lv1 hl', (fun i w hw => (fx_st1_get hw).elim (fun z => by rw [z.2]; exact True.intro) (fun z => hlv i w z.2.1)), hst, (by rw [fx_st1_len]; exact hln)⟩ (fx_ext.rf h ad)))
  · cases hs
theorem fx_s_dup (C : fx_Cx p R s m args meth c0 A D aC X M) (K : fx_Mok M) : fx_G p l e R s m args below meth c0 Q A D aC X M (.dup) := by
  intro pc lv st h c n x ad L H locs ls hF hs I k
  obtain ⟨he, hS, hl, hlv, hst, hln⟩ := id I
  simp only [fx_stp] at hs
  split at hs
  · cases hs
  · rename_i u r hn
    cases hs
    exact lv_dup C.1 C.2.1 (fx_dec K hF rfl) (by rcases u with z | z | (_ | z) <;> first | rfl | exact (hn _ rfl).elim) (k ad L H locs ls ⟨he, hS, hl, hlv, fx_cn (P := fx_ok h) (fx_hd hst) hst, hln⟩ (fx_ext.rf h ad))
  · cases hs
theorem fx_s_pop (C : fx_Cx p R s m args meth c0 A D aC X M) (K : fx_Mok M) : fx_G p l e R s m args below meth c0 Q A D aC X M (.pop) := by
  intro pc lv st h c n x ad L H locs ls hF hs I k
  obtain ⟨he, hS, hl, hlv, hst, hln⟩ := id I
  simp only [fx_stp] at hs
  split at hs
  · cases hs
  · rename_i u r hn
    cases hs
    exact lv_pop (va := fx_cv ad u) C.1 C.2.1 (fx_dec K hF rfl) (by rcases u with z | z | (_ | z) <;> first | rfl | exact (hn _ rfl).elim) (k ad L H locs ls ⟨he, hS, hl, hlv, (fx_tl hst), hln⟩ (fx_ext.rf h ad))
  · cases hs
theorem fx_s_dup2 (C : fx_Cx p R s m args meth c0 A D aC X M) (K : fx_Mok M) : fx_G p l e R s m args below meth c0 Q A D aC X M (.dup2) := by
  intro pc lv st h c n x ad L H locs ls hF hs I k
  obtain ⟨he, hS, hl, hlv, hst, hln⟩ := id I
  simp only [fx_stp] at hs
  split at hs
  · rename_i y u r
    cases hs
    exact lv_dup2_11 C.1 C.2.1 (fx_dec K hF rfl) rfl (by cases u <;> rfl) (k ad L H locs ls ⟨he, hS, hl, hlv, fx_ci (fx_cn (P := fx_ok h) (fx_hd (fx_tl hst)) hst), hln⟩ (fx_ext.rf h ad))
  · cases hs
theorem fx_s_ifCond_eq (C : fx_Cx p R s m args meth c0 A D aC X M) (K : fx_Mok M) (o : Int) : fx_G p l e R s m args below meth c0 Q A D aC X M (.ifCond .eq o) := by
  intro pc lv st h c n x ad L H locs ls hF hs I k
  obtain ⟨he, hS, hl, hlv, hst, hln⟩ := id I
  simp only [fx_stp] at hs
  split at hs
  · rcases fx_br_spec hs with ⟨hc, rfl, ht⟩ | ⟨hc, rfl, ht⟩
    · exact lv_if_eq C.1 C.2.1 (fx_dec K hF rfl) ht (fun _ => (k ad L H locs ls ⟨he, hS, hl, hlv, (fx_tl hst), hln⟩ (fx_ext.rf h ad))) (fun q => absurd hc q)
    · exact lv_if_eq C.1 C.2.1 (fx_dec K hF rfl) ht (fun q => absurd q hc) (fun _ => (k ad L H locs ls ⟨he, hS, hl, hlv, (fx_tl hst), hln⟩ (fx_ext.rf h ad)))
  · cases hs
theorem fx_s_if_icmp_eq (C : fx_Cx p R s m args meth c0 A D aC X M) (K : fx_Mok M) (o : Int) : fx_G p l e R s m args below meth c0 Q A D aC X M (.if_icmp .eq o) := by
  intro pc lv st h c n x ad L H locs ls hF hs I k
  obtain ⟨he, hS, hl, hlv, hst, hln⟩ := id I
  simp only [fx_stp] at hs
  split at hs
  · rcases fx_br_spec hs with ⟨hc, rfl, ht⟩ | ⟨hc, rfl, ht⟩
    · exact lv_icmp_eq C.1 C.2.1 (fx_dec K hF rfl) ht (fun _ => (k ad L H locs ls ⟨he, hS, hl, hlv, (fx_tl (fx_tl hst)), hln⟩ (fx_ext.rf h ad))) (fun q => absurd hc q)
    · exact lv_icmp_eq C.1 C.2.1 (fx_dec K hF rfl) ht (fun q => absurd q hc) (fun _ => (k ad L H locs ls ⟨he, hS, hl, hlv, (fx_tl (fx_tl hst)), hln⟩ (fx_ext.rf h ad)))
  · cases hs
theorem fx_s_ifCond_ne (C : fx_Cx p R s m args meth c0 A D aC X M) (K : fx_Mok M) (o : Int) : fx_G p l e R s m args below meth c0 Q A D aC X M (.ifCond .ne o) := by
  intro pc lv st h c n x ad L H locs ls hF hs I k
  obtain ⟨he, hS, hl, hlv, hst, hln⟩ := id I
  simp only [fx_stp] at hs
  split at hs
  · rcases fx_br_spec hs with ⟨hc, rfl, ht⟩ | ⟨hc, rfl, ht⟩
    · exact lv_if_ne C.1 C.2.1 (fx_dec K hF rfl) ht (fun _ => (k ad L H locs ls ⟨he, hS, hl, hlv, (fx_tl hst), hln⟩ (fx_ext.rf h ad))) (fun q => absurd q hc)
    · exact lv_if_ne C.1 C.2.1 (fx_dec K hF rfl) ht (fun q => absurd q hc) (fun _ => (k ad L H locs ls ⟨he, hS, hl, hlv, (fx_tl hst), hln⟩ (fx_ext.rf h ad)))
  · cases hs
theorem fx_s_if_icmp_ne (C : fx_Cx p R s m args meth c0 A D aC X M) (K : fx_Mok M) (o : Int) : fx_G p l e R s m args below meth c0 Q A D aC X M (.if_icmp .ne o) := by
  intro pc lv st h c n x ad L H locs ls hF hs I k
  obtain ⟨he, hS, hl, hlv, hst, hln⟩ := id I
  simp only [fx_stp] at hs
  split at hs
  · rcases fx_br_spec hs with ⟨hc, rfl, ht⟩ | ⟨hc, rfl, ht⟩
    · exact lv_icmp_ne C.1 C.2.1 (fx_dec K hF rfl) ht (fun _ => (k ad L H locs ls ⟨he, hS, hl, hlv, (fx_tl (fx_tl hst)), hln⟩ (fx_ext.rf h ad))) (fun q => absurd q hc)
    · exact lv_icmp_ne C.1 C.2.1 (fx_dec K hF rfl) ht (fun q => absurd q hc) (fun _ => (k ad L H locs ls ⟨he, hS, hl, hlv, (fx_tl (fx_tl hst)), hln⟩ (fx_ext.rf h ad)))
  · cases hs
theorem fx_s_ifCond_lt (C : fx_Cx p R s m args meth c0 A D aC X M) (K : fx_Mok M) (o : Int) : fx_G p l e R s m args below meth c0 Q A D aC X M (.ifCond .lt o) := by
  intro pc lv st h c n x ad L H locs ls hF hs I k
  obtain ⟨he, hS, hl, hlv, hst, hln⟩ := id I
  simp only [fx_stp] at hs
  split at hs
  · rcases fx_br_spec hs with ⟨hc, rfl, ht⟩ | ⟨hc, rfl, ht⟩
    · exact lv_if_lt C.1 C.2.1 (fx_dec K hF rfl) ht (fun _ => (k ad L H locs ls ⟨he, hS, hl, hlv, (fx_tl hst), hln⟩ (fx_ext.rf h ad))) (fun q => absurd hc q)
    · exact lv_if_lt C.1 C.2.1 (fx_dec K hF rfl) ht (fun q => absurd q hc) (fun _ => (k ad L H locs ls ⟨he, hS, hl, hlv, (fx_tl hst), hln⟩ (fx_ext.rf h ad)))
  · cases hs
theorem fx_s_if_icmp_lt (C : fx_Cx p R s m args meth c0 A D aC X M) (K : fx_Mok M) (o : Int) : fx_G p l e R s m args below meth c0 Q A D aC X M (.if_icmp .lt o) := by
  intro pc lv st h c n x ad L H locs ls hF hs I k
  obtain ⟨he, hS, hl, hlv, hst, hln⟩ := id I
  simp only [fx_stp] at hs
  split at hs
  · rcases fx_br_spec hs with ⟨hc, rfl, ht⟩ | ⟨hc, rfl, ht⟩
    · exact lv_icmp_lt C.1 C.2.1 (fx_dec K hF rfl) ht (fun _ => (k ad L H locs ls ⟨he, hS, hl, hlv, (fx_tl (fx_tl hst)), hln⟩ (fx_ext.rf h ad))) (fun q => absurd hc q)
    · exact lv_icmp_lt C.1 C.2.1 (fx_dec K hF rfl) ht (fun q => absurd q hc) (fun _ => (k ad L H locs ls ⟨he, hS, hl, hlv, (fx_tl (fx_tl hst)), hln⟩ (fx_ext.rf h ad)))
  · cases hs
theorem fx_s_ifCond_ge (C : fx_Cx p R s m args meth c0 A D aC X M) (K : fx_Mok M) (o : Int) : fx_G p l e R s m args below meth c0 Q A D aC X M (.ifCond .ge o) := by
  intro pc lv st h c n x ad L H locs ls hF hs I k
  obtain ⟨he, hS, hl, hlv, hst, hln⟩ := id I
  simp only [fx_stp] at hs
  split at hs
  · rcases fx_br_spec hs with ⟨hc, rfl, ht⟩ | ⟨hc, rfl, ht⟩
    · exact lv_if_ge C.1 C.2.1 (fx_dec K hF rfl) ht (fun _ => (k ad L H locs ls ⟨he, hS, hl, hlv, (fx_tl hst), hln⟩ (fx_ext.rf h ad))) (fun q => absurd hc q)
    · exact lv_if_ge C.1 C.2.1 (fx_dec K hF rfl) ht (fun q => absurd q hc) (fun _ => (k ad L H locs ls ⟨he, hS, hl, hlv, (fx_tl hst), hln⟩ (fx_ext.rf h ad)))
  · cases hs
theorem fx_s_if_icmp_ge (C : fx_Cx p R s m args meth c0 A D aC X M) (K : fx_Mok M) (o : Int) : fx_G p l e R s m args below meth c0 Q A D aC X M (.if_icmp .ge o) := by
  intro pc lv st h c n x ad L H locs ls hF hs I k
  obtain ⟨he, hS, hl, hlv, hst, hln⟩ := id I
  simp only [fx_stp] at hs
  split at hs
  · rcases fx_br_spec hs with ⟨hc, rfl, ht⟩ | ⟨hc, rfl, ht⟩
    · exact lv_icmp_ge C.1 C.2.1 (fx_dec K hF rfl) ht (fun _ => (k ad L H locs ls ⟨he, hS, hl, hlv, (fx_tl (fx_tl hst)), hln⟩ (fx_ext.rf h ad))) (fun q => absurd hc q)
    · exact lv_icmp_ge C.1 C.2.1 (fx_dec K hF rfl) ht (fun q => absurd q hc) (fun _ => (k ad L H locs ls ⟨he, hS, hl, hlv, (fx_tl (fx_tl hst)), hln⟩ (fx_ext.rf h ad)))
  · cases hs
theorem fx_s_ifCond_gt (C : fx_Cx p R s m args meth c0 A D aC X M) (K : fx_Mok M) (o : Int) : fx_G p l e R s m args below meth c0 Q A D aC X M (.ifCond .gt o) := by
  intro pc lv st h c n x ad L H locs ls hF hs I k
  obtain ⟨he, hS, hl, hlv, hst, hln⟩ := id I
  simp only [fx_stp] at hs
  split at hs
  · rcases fx_br_spec hs with ⟨hc, rfl, ht⟩ | ⟨hc, rfl, ht⟩
    · exact lv_if_gt C.1 C.2.1 (fx_dec K hF rfl) ht (fun _ => (k ad L H locs ls ⟨he, hS, hl, hlv, (fx_tl hst), hln⟩ (fx_ext.rf h ad))) (fun q => absurd hc q)
    · exact lv_if_gt C.1 C.2.1 (fx_dec K hF rfl) ht (fun q => absurd q hc) (fun _ => (k ad L H locs ls ⟨he, hS, hl, hlv, (fx_tl hst), hln⟩ (fx_ext.rf h ad)))
  · cases hs
theorem fx_s_if_icmp_gt (C : fx_Cx p R s m args meth c0 A D aC X M) (K : fx_Mok M) (o : Int) : fx_G p l e R s m args below meth c0 Q A D aC X M (.if_icmp .gt o) := by
  intro pc lv st h c n x ad L H locs ls hF hs I k
  obtain ⟨he, hS, hl, hlv, hst, hln⟩ := id I
  simp only [fx_stp] at hs
  split at hs
  · rcases fx_br_spec hs with ⟨hc, rfl, ht⟩ | ⟨hc, rfl, ht⟩
    · exact lv_icmp_gt C.1 C.2.1 (fx_dec K hF rfl) ht (fun _ => (k ad L H locs ls ⟨he, hS, hl, hlv, (fx_tl (fx_tl hst)), hln⟩ (fx_ext.rf h ad))) (fun q => absurd hc q)
    · exact lv_icmp_gt C.1 C.2.1 (fx_dec K hF rfl) ht (fun q => absurd q hc) (fun _ => (k ad L H locs ls ⟨he, hS, hl, hlv, (fx_tl (fx_tl hst)), hln⟩ (fx_ext.rf h ad)))
  · cases hs
theorem fx_s_ifCond_le (C : fx_Cx p R s m args meth c0 A D aC X M) (K : fx_Mok M) (o : Int) : fx_G p l e R s m args below meth c0 Q A D aC X M (.ifCond .le o) := by
  intro pc lv st h c n x ad L H locs ls hF hs I k
  obtain ⟨he, hS, hl, hlv, hst, hln⟩ := id I
  simp only [fx_stp] at hs
  split at hs
  · rcases fx_br_spec hs with ⟨hc, rfl, ht⟩ | ⟨hc, rfl, ht⟩
    · exact lv_if_le C.1 C.2.1 (fx_dec K hF rfl) ht (fun _ => (k ad L H locs ls ⟨he, hS, hl, hlv, (fx_tl hst), hln⟩ (fx_ext.rf h ad))) (fun q => absurd hc q)
    · exact lv_if_le C.1 C.2.1 (fx_dec K hF rfl) ht (fun q => absurd q hc) (fun _ => (k ad L H locs ls ⟨he, hS, hl, hlv, (fx_tl hst), hln⟩ (fx_ext.rf h ad)))
  · cases hs
theorem fx_s_if_icmp_le (C : fx_Cx p R s m args meth c0 A D aC X M) (K : fx_Mok M) (o : Int) : fx_G p l e R s m args below meth c0 Q A D aC X M (.if_icmp .le o) := by
  intro pc lv st h c n x ad L H locs ls hF hs I k
  obtain ⟨he, hS, hl, hlv, hst, hln⟩ := id I
  simp only [fx_stp] at hs
  split at hs
  · rcases fx_br_spec hs with ⟨hc, rfl, ht⟩ | ⟨hc, rfl, ht⟩
    · exact lv_icmp_le C.1 C.2.1 (fx_dec K hF rfl) ht (fun _ => (k ad L H locs ls ⟨he, hS, hl, hlv, (fx_tl (fx_tl hst)), hln⟩ (fx_ext.rf h ad))) (fun q => absurd hc q)
    · exact lv_icmp_le C.1 C.2.1 (fx_dec K hF rfl) ht (fun q => absurd q hc) (fun _ => (k ad L H locs ls ⟨he, hS, hl, hlv, (fx_tl (fx_tl hst)), hln⟩ (fx_ext.rf h ad)))
  · cases hs
theorem fx_s_goto (C : fx_Cx p R s m args meth c0 A D aC X M) (K : fx_Mok M) (o : Int) : fx_G p l e R s m args below meth c0 Q A D aC X M (.goto o) := by
  intro pc lv st h c n x ad L H locs ls hF hs I k
  obtain ⟨he, hS, hl, hlv, hst, hln⟩ := id I
  simp only [fx_stp] at hs
  obtain ⟨rfl, ht⟩ := fx_jmp_spec hs
  exact lv_goto C.1 C.2.1 (fx_dec K hF rfl) ht (k ad L H locs ls ⟨he, hS, hl, hlv, hst, hln⟩ (fx_ext.rf h ad))
theorem fx_s_ifnull (C : fx_Cx p R s m args meth c0 A D aC X M) (K : fx_Mok M) (o : Int) : fx_G p l e R s m args below meth c0 Q A D aC X M (.ifnull o) := by
  intro pc lv st h c n x ad L H locs ls hF hs I k
  obtain ⟨he, hS, hl, hlv, hst, hln⟩ := id I
  simp only [fx_stp] at hs
  split at hs
  · obtain ⟨rfl, ht⟩ := fx_jmp_spec hs
    exact lv_ifnullN C.1 C.2.1 (fx_dec K hF rfl) ht (k ad L H locs ls ⟨he, hS, hl, hlv, (fx_tl hst), hln⟩ (fx_ext.rf h ad))
  · cases hs
    exact lv_ifnull C.1 C.2.1 (fx_dec K hF rfl) (k ad L H locs ls ⟨he, hS, hl, hlv, (fx_tl hst), hln⟩ (fx_ext.rf h ad))
  · cases hs
theorem fx_s_ifnonnull (C : fx_Cx p R s m args meth c0 A D aC X M) (K : fx_Mok M) (o : Int) : fx_G p l e R s m args below meth c0 Q A D aC X M (.ifnonnull o) := by
  intro pc lv st h c n x ad L H locs ls hF hs I k
  obtain ⟨he, hS, hl, hlv, hst, hln⟩ := id I
  simp only [fx_stp] at hs
  split at hs
  · cases hs
    exact lv_ifnonnullN C.1 C.2.1 (fx_dec K hF rfl) (k ad L H locs ls ⟨he, hS, hl, hlv, (fx_tl hst), hln⟩ (fx_ext.rf h ad))
  · obtain ⟨rfl, ht⟩ := fx_jmp_spec hs
    exact lv_ifnonnull C.1 C.2.1 (fx_dec K hF rfl) ht (k ad L H locs ls ⟨he, hS, hl, hlv, (fx_tl hst), hln⟩ (fx_ext.rf h ad))
  · cases hs
theorem fx_s_tableswitch (C : fx_Cx p R s m args meth c0 A D aC X M) (K : fx_Mok M) (d lo hi : Int) (os : Array Int) : fx_G p l e R s m args below meth c0 Q A D aC X M (.tableswitch d lo hi os) := by
  intro pc lv st h c n x ad L H locs ls hF hs I k
  obtain ⟨he, hS, hl, hlv, hst, hln⟩ := id I
  simp only [fx_stp] at hs
  obtain ⟨n1, hd1, -⟩ := K.1 _ _ hF
  split at hs
  · split at hs
    · rename_i hc
      obtain ⟨rfl, ht⟩ := fx_jmp_spec hs
      exact lv_tableOut C.1 C.2.1 hd1 hc ht (k ad L H locs ls ⟨he, hS, hl, hlv, (fx_tl hst), hln⟩ (fx_ext.rf h ad))
    · rename_i hc
      split at hs
      · rename_i of ho
        obtain ⟨rfl, ht⟩ := fx_jmp_spec hs
        exact lv_tableIn C.1 C.2.1 hd1 (fun q => hc (Or.inl q)) (fun q => hc (Or.inr q)) ho ht (k ad L H locs ls ⟨he, hS, hl, hlv, (fx_tl hst), hln⟩ (fx_ext.rf h ad))
      · cases hs
  · cases hs
theorem fx_s_lookupswitch (C : fx_Cx p R s m args meth c0 A D aC X M) (K : fx_Mok M) (d : Int) (ps : Array (Int × Int)) : fx_G p l e R s m args below meth c0 Q A D aC X M (.lookupswitch d ps) := by
  intro pc lv st h c n x ad L H locs ls hF hs I k
  obtain ⟨he, hS, hl, hlv, hst, hln⟩ := id I
  simp only [fx_stp] at hs
  obtain ⟨n1, hd1, -⟩ := K.1 _ _ hF
  split at hs
  · cases hb : (ps.toList.zip (ps.toList.drop 1)).all (fun (a, next) => decide (a.1 < next.1)) with
    | false => rw [hb] at hs; cases hs
    | true =>
      rw [hb] at hs
      obtain ⟨rfl, ht⟩ := fx_jmp_spec hs
      exact lv_lookup C.1 C.2.1 hd1 hb rfl ht (k ad L H locs ls ⟨he, hS, hl, hlv, (fx_tl hst), hln⟩ (fx_ext.rf h ad))
  · cases hs
end FXI
