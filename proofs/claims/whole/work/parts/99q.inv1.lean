/-! what holds between calls -/
/-- images: what each was made of -/
abbrev fxIm : Type := Nat → Option ((Nat → Nat) × Option Nat × Nat)
/-- the reference's cells -/
def XK (k : Nat) : Prop := k = 11 ∨ 50 ≤ k ∧ k ≤ 70
def ImM (hi : fxI3) (im : fxIm) : Prop := ∀ c, c < 4 → match im c with
  | none => hi 70 0 c = 0
  | some q => hi 70 0 c = 1 ∧ IM hi c q.1 q.2.1 q.2.2
def ImX (hi : fxI3) (hl : fxL3) (im : fxIm) : Prop := ∀ c, c < 4 → match im c with
  | none => hi 34 0 c = 0
  | some q => hi 34 0 c = 1 ∧ WD hi hl (c + 1) q.1 q.2.1 q.2.2
def RsM (hi : fxI3) (N : Nat) (Rs : Nat → fxRl) : Prop := ∀ t, t < N → RM hi t (Rs t)
def RsX (σ : fxS) (hi : fxI3) (N : Nat) (Rs : Nat → fxRl) : Prop := ∀ t, t < N → RX σ hi t (Rs t)
def GM (hi : fxI3) (v : Nat → Nat) (f : Option Nat) (x N : Nat) (Rs : Nat → fxRl) (m : Nat) (us : fxU) (n : Nat) (T : Nat → Int32) (im : fxIm) : Prop := PM hi v ∧ (hi 11 0 21 = oI f ∧ hi 11 0 22 = nI x ∧ hi 11 0 23 = -1 ∧ hi 11 0 2 = nI N) ∧ RsM hi N Rs ∧ UM hi m us ∧ TM hi n T ∧ ImM hi im
def GX (Sc : Nat → Int32) (σ : fxS) (hi : fxI3) (hl : fxL3) (v : Nat → Nat) (f : Option Nat) (x N : Nat) (Rs : Nat → fxRl) (m : Nat) (us : fxU) (n : Nat) (T : Nat → Int32) (im : fxIm) : Prop := WD hi hl 0 v f x ∧ (hi 10 0 5 = nI N ∧ σ.2.1 = N ∧ BN hi ∧ hi 8 0 3 = -1 ∧ ∀ i, hi 90 0 i = Sc i) ∧ RsX σ hi N Rs ∧ UX hi hl m us ∧ TP hi n T ∧ ImX hi hl im
/-- of a hunt that is on -/
def MV (v : Nat → Nat) : Prop := SB v ∧ GV v ∧ HV v ∧ TOK v ∧ NOK v
def MI (v : Nat → Nat) (f : Option Nat) (x N : Nat) (m : Nat) (us : fxU) (n : Nat) (T : Nat → Int32) (im : fxIm) : Prop := MV v ∧ ((∀ t, f = some t → t < N) ∧ x < 2 ^ 31 ∧ N ≤ 6) ∧ (∀ i, i < m → SB (us i) ∧ GV (us i) ∧ us i 10 ≤ 999 ∧ ∀ y, y < 10 → us i y = v y) ∧ (n ≤ 400 ∧ ∀ i, i < n → isB (T i)) ∧ ∀ c, c < 4 → ∀ q, im c = some q → MV q.1 ∧ (∀ t, q.2.1 = some t → t < N) ∧ q.2.2 < 2 ^ 31
-- frames: the reference
theorem RsM.fr {hi hi' : fxI3} {N : Nat} {Rs : Nat → fxRl} (g : RsM hi N Rs) (h : ∀ k s, k = 51 ∨ k = 53 ∨ k = 54 → hi' k 0 s = hi k 0 s) : RsM hi' N Rs := fun t ht => RM_of (fun s => h 51 s (by omega)) (fun s => h 53 s (by omega)) (fun s => h 54 s (by omega)) (g t ht)
theorem UM.f2 {hi hi' : fxI3} {m : Nat} {us : fxU} (g : UM hi m us) (h1 : hi' 11 0 28 = hi 11 0 28) (h2 : ∀ s, hi' 62 0 s = hi 62 0 s) : UM hi' m us := ⟨g.1, h1.trans g.2.1, fun i k a b => ⟨(h2 _).trans (g.2.2 i k a b).1, (g.2.2 i k a b).2⟩⟩
theorem TM.f2 {hi hi' : fxI3} {n : Nat} {T : Nat → Int32} (g : TM hi n T) (h1 : hi' 11 0 1 = hi 11 0 1) (h2 : ∀ s, hi' 50 0 s = hi 50 0 s) : TM hi' n T := ⟨g.1, h1.trans g.2.1, fun i a => (h2 i).trans (g.2.2 i a)⟩
theorem ImM.fr {hi hi' : fxI3} {im : fxIm} (g : ImM hi im) (h : ∀ k s, 67 ≤ k → k ≤ 70 → hi' k 0 s = hi k 0 s) : ImM hi' im := by
  intro c hc
  have a := g c hc
  cases e : im c with
  | none =>
    rw [e] at a
    exact (h 70 c (by decide) (by decide)).trans a
  | some q =>
    rw [e] at a
    obtain ⟨a1, a2, a3, a4⟩ := a
    exact ⟨(h 70 c (by decide) (by decide)).trans a1, (h 68 c (by decide) (by decide)).trans a2, (h 69 c (by decide) (by decide)).trans a3, fun i hi2 => ⟨(h 67 _ (by decide) (by decide)).trans (a4 i hi2).1, (a4 i hi2).2⟩⟩
theorem PM.f2 {hi hi' : fxI3} {v : Nat → Nat} (g : PM hi v) (h : ∀ s, hi' 59 0 s = hi 59 0 s) : PM hi' v := fun i a => ⟨(h i).trans (g i a).1, (g i a).2⟩
theorem GM.x {hi hi' : fxI3} {v : Nat → Nat} {f : Option Nat} {x N : Nat} {Rs : Nat → fxRl} {m : Nat} {us : fxU} {n : Nat} {T : Nat → Int32} {im : fxIm} (g : GM hi v f x N Rs m us n T im) (h : ∀ k j s, XK k → hi' k j s = hi k j s) : GM hi' v f x N Rs m us n T im := by
  obtain ⟨g1, ⟨g2, g3, g4, g5⟩, g6, g7, g8, g9⟩ := g
  exact ⟨g1.f2 (fun s => h 59 0 s (by unfold XK; omega)), ⟨(h 11 0 21 (by unfold XK; omega)).trans g2, (h 11 0 22 (by unfold XK; omega)).trans g3, (h 11 0 23 (by unfold XK; omega)).trans g4, (h 11 0 2 (by unfold XK; omega)).trans g5⟩, g6.fr (fun k s a => h k 0 s (by unfold XK; omega)), g7.f2 (h 11 0 28 (by unfold XK; omega)) (fun s => h 62 0 s (by unfold XK; omega)), g8.f2 (h 11 0 1 (by unfold XK; omega)) (fun s => h 50 0 s (by unfold XK; omega)), g9.fr (fun k s a b => h k 0 s (by unfold XK; omega))⟩
-- frames: the class
theorem NT.fr {hi hi' : fxI3} {j : Nat} {v : Nat → Nat} (g : NT hi j v) (h : ∀ k s, k = 3 ∨ 30 ≤ k ∧ k ≤ 32 → hi' k j s = hi k j s) : NT hi' j v := ⟨(h 3 0 (by omega)).trans g.1, fun i a => ⟨(h 30 i (by omega)).trans (g.2 i a).1, (h 31 i (by omega)).trans (g.2 i a).2.1, (h 32 i (by omega)).trans (g.2 i a).2.2⟩⟩
theorem WD.fr {hi hi' : fxI3} {hl hl' : fxL3} {j : Nat} {v : Nat → Nat} {f : Option Nat} {x : Nat} (g : WD hi hl j v f x) (h1 : ∀ k i s, k = 1 ∨ 21 ≤ k ∧ k ≤ 24 → i = fx_wn j ∨ i = fx_wb j → hi' k i s = hi k i s) (h2 : ∀ k s, k = 3 ∨ 30 ≤ k ∧ k ≤ 32 ∨ k = 9 → hi' k j s = hi k j s) (h3 : ∀ i, i = fx_wn j ∨ i = fx_wb j → hl' 1 i 6 = hl 1 i 6) : WD hi' hl' j v f x := by
  obtain ⟨g1, g2, g3, g4, g5⟩ := g
  exact ⟨g1.fr (fun s => h1 1 _ s (by omega) (Or.inl rfl)) (fun k s a => h1 k _ s (by omega) (Or.inl rfl)) (h3 _ (Or.inl rfl)), g2.fr (fun s => h1 1 _ s (by omega) (Or.inr rfl)) (fun k s a => h1 k _ s (by omega) (Or.inr rfl)) (h3 _ (Or.inr rfl)), g3.fr (fun k s a => h2 k s (by omega)), (h2 9 3 (by omega)).trans g4, (h2 9 4 (by omega)).trans g5⟩
theorem TP.f2 {hi hi' : fxI3} {n : Nat} {T : Nat → Int32} (g : TP hi n T) (h1 : hi' 10 0 1 = hi 10 0 1) (h2 : ∀ s, hi' 20 0 s = hi 20 0 s) : TP hi' n T := ⟨h1.trans g.1, fun i a => (h2 i).trans (g.2 i a)⟩
theorem ImX.fr {hi hi' : fxI3} {hl hl' : fxL3} {im : fxIm} (g : ImX hi hl im) (h1 : ∀ k j s, k = 1 ∨ 21 ≤ k ∧ k ≤ 24 → 29 ≤ j → j ≤ 36 → hi' k j s = hi k j s) (h2 : ∀ k j s, k = 3 ∨ 30 ≤ k ∧ k ≤ 32 ∨ k = 9 → 1 ≤ j → j ≤ 4 → hi' k j s = hi k j s) (h4 : ∀ s, hi' 34 0 s = hi 34 0 s) (h3 : ∀ j, 29 ≤ j → j ≤ 36 → hl' 1 j 6 = hl 1 j 6) : ImX hi' hl' im := by
  intro c hc
  have a := g c hc
  have wn : fx_wn (c + 1) = 28 + 2 * (c + 1) := rfl
  have wb : fx_wb (c + 1) = 27 + 2 * (c + 1) := rfl
  cases e : im c with
  | none =>
    rw [e] at a
    exact (h4 c).trans a
  | some q =>
    rw [e] at a
    exact ⟨(h4 c).trans a.1, a.2.fr (fun k i s b d => h1 k i s b (by omega) (by omega)) (fun k s b => h2 k _ s b (by omega) (by omega)) (fun i d => h3 i (by omega) (by omega))⟩
theorem RsX.fr {σ σ' : fxS} {hi hi' : fxI3} {N : Nat} {Rs : Nat → fxRl} (g : RsX σ hi N Rs) (e : σ'.2.2.2 = σ.2.2.2) (h : ∀ j s, hi' 45 j s = hi 45 j s) (h5 : ∀ t, hi' 5 t 1 = hi 5 t 1) : RsX σ' hi' N Rs := fun t ht => RX_cg9 (fun j _ _ => by rw [e]) (fun j s _ _ => h j s) (h5 t) (g t ht)
theorem BN.fr {hi hi' : fxI3} (g : BN hi) (h : ∀ s, hi' 91 0 s = hi 91 0 s) : BN hi' := fun i a => (h i).trans (g i a)
section GG
variable {Sc : Nat → Int32} {σ : fxS} {hi hi' : fxI3} {hl hl' : fxL3} {v : Nat → Nat} {f : Option Nat} {x N : Nat} {Rs : Nat → fxRl} {m : Nat} {us : fxU} {n : Nat} {T : Nat → Int32} {im : fxIm}
theorem GX.mm (g : GX Sc σ hi hl v f x N Rs m us n T im) (h : ∀ k j s, ¬ XK k → hi' k j s = hi k j s) (h2 : ∀ k j s, ¬ XK k → hl' k j s = hl k j s) : GX Sc σ hi' hl' v f x N Rs m us n T im := by
  obtain ⟨g1, ⟨g2, g3, g4, g5, g6⟩, g7, g8, g9, g10⟩ := g
  have hh : ∀ k j s, k ≠ 11 → ¬ (50 ≤ k ∧ k ≤ 70) → hi' k j s = hi k j s := fun k j s a b => h k j s (by unfold XK; omega)
  have hk : ∀ j s, hl' 1 j s = hl 1 j s := fun j s => h2 1 j s (by unfold XK; omega)
  exact ⟨g1.fr (fun k i s a _ => hh k i s (by omega) (by omega)) (fun k s a => hh k _ s (by omega) (by omega)) (fun i _ => hk i 6), ⟨(hh 10 0 5 (by decide) (by decide)).trans g2, g3, g4.fr (fun s => hh 91 0 s (by decide) (by decide)), (hh 8 0 3 (by decide) (by decide)).trans g5, fun i => (hh 90 0 i (by decide) (by decide)).trans (g6 i)⟩, g7.fr rfl (fun j s => hh 45 j s (by decide) (by decide)) (fun t => hh 5 t 1 (by decide) (by decide)), g8.fr (fun s => hh 0 0 s (by decide) (by decide)) (fun k j s a _ _ => hh k j s (by omega) (by omega)) (fun j _ _ => hk j 6), g9.f2 (hh 10 0 1 (by decide) (by decide)) (fun s => hh 20 0 s (by decide) (by decide)), g10.fr (fun k j s a _ _ => hh k j s (by omega) (by omega)) (fun k j s a _ _ => hh k j s (by omega) (by omega)) (fun s => hh 34 0 s (by decide) (by decide)) (fun j _ _ => hk j 6)⟩
theorem GX.y {σ' : fxS} (g : GX Sc σ hi hl v f x N Rs m us n T im) (e1 : σ'.2.1 = σ.2.1) (e2 : σ'.2.2.2 = σ.2.2.2) (h : FrY hi hi') (h2 : FlY hl hl') : GX Sc σ' hi' hl' v f x N Rs m us n T im := by
  obtain ⟨g1, ⟨g2, g3, g4, g5, g6⟩, g7, g8, g9, g10⟩ := g
  have hh : ∀ k j s, ¬ ((k = 1 ∨ 21 ≤ k ∧ k ≤ 24) ∧ (23 ≤ j ∧ j ≤ 28)) → k ≠ 38 → ¬ (40 ≤ k ∧ k ≤ 44) → k ≠ 4 → ¬ (k = 8 ∧ s = 4) → hi' k j s = hi k j s := fun k j s a b c d e => h k j s (by unfold scx; omega)
  have hk : ∀ j, ¬ (23 ≤ j ∧ j ≤ 28) → hl' 1 j 6 = hl 1 j 6 := fun j a => h2 1 j 6 (by decide) (by decide) (by omega)
  have w0 : fx_wn 0 = 2 := rfl
  have w1 : fx_wb 0 = 1 := rfl
  exact ⟨g1.fr (fun k i s a b => hh k i s (by omega) (by omega) (by omega) (by omega) (by omega)) (fun k s a => hh k _ s (by omega) (by omega) (by omega) (by omega) (by omega)) (fun i b => hk i (by omega)), ⟨(hh 10 0 5 (by omega) (by omega) (by omega) (by omega) (by omega)).trans g2, e1.trans g3, g4.fr (fun s => hh 91 0 s (by omega) (by omega) (by omega) (by omega) (by omega)), (hh 8 0 3 (by omega) (by omega) (by omega) (by omega) (by omega)).trans g5, fun i => (hh 90 0 i (by omega) (by omega) (by omega) (by omega) (by omega)).trans (g6 i)⟩, g7.fr e2 (fun j s => hh 45 j s (by omega) (by omega) (by omega) (by omega) (by omega)) (fun t => hh 5 t 1 (by omega) (by omega) (by omega) (by omega) (by omega)), g8.fr (fun s => hh 0 0 s (by omega) (by omega) (by omega) (by omega) (by omega)) (fun k j s a b c => hh k j s (by omega) (by omega) (by omega) (by omega) (by omega)) (fun j b c => hk j (by omega)), g9.f2 (hh 10 0 1 (by omega) (by omega) (by omega) (by omega) (by omega)) (fun s => hh 20 0 s (by omega) (by omega) (by omega) (by omega) (by omega)), g10.fr (fun k j s a b c => hh k j s (by omega) (by omega) (by omega) (by omega) (by omega)) (fun k j s a b c => hh k j s (by omega) (by omega) (by omega) (by omega) (by omega)) (fun s => hh 34 0 s (by omega) (by omega) (by omega) (by omega) (by omega)) (fun j b c => hk j (by omega))⟩
theorem GM.q (g : GM hi v f x N Rs m us n T im) (h : FrQ hi hi') (hv : PM hi' v) : GM hi' v f x N Rs m us n T im := by
  obtain ⟨g1, ⟨g2, g3, g4, g5⟩, g6, g7, g8, g9⟩ := g
  have hh : ∀ k j s, k ≠ 59 → k ≠ 60 → k ≠ 61 → ¬ (63 ≤ k ∧ k ≤ 66) → ¬ (k = 11 ∧ (s = 18 ∨ s = 25)) → hi' k j s = hi k j s := fun k j s a b c d e => h k j s (by unfold scr; omega)
  exact ⟨hv, ⟨(hh 11 0 21 (by omega) (by omega) (by omega) (by omega) (by omega)).trans g2, (hh 11 0 22 (by omega) (by omega) (by omega) (by omega) (by omega)).trans g3, (hh 11 0 23 (by omega) (by omega) (by omega) (by omega) (by omega)).trans g4, (hh 11 0 2 (by omega) (by omega) (by omega) (by omega) (by omega)).trans g5⟩, g6.fr (fun k s a => hh k 0 s (by omega) (by omega) (by omega) (by omega) (by omega)), g7.f2 (hh 11 0 28 (by omega) (by omega) (by omega) (by omega) (by omega)) (fun s => hh 62 0 s (by omega) (by omega) (by omega) (by omega) (by omega)), g8.f2 (hh 11 0 1 (by omega) (by omega) (by omega) (by omega) (by omega)) (fun s => hh 50 0 s (by omega) (by omega) (by omega) (by omega) (by omega)), g9.fr (fun k s a b => hh k 0 s (by omega) (by omega) (by omega) (by omega) (by omega))⟩
theorem GX.nx (g : GX Sc σ hi hl v f x N Rs m us n T im) (i : MI v f x N m us n T im) : NX σ hi hl v f (f.map Rs) := by
  obtain ⟨g1, ⟨g2, g3, g4, g5, g6⟩, g7, g8, g9, g10⟩ := g
  obtain ⟨⟨i1, i2, i3, i4, i5⟩, ⟨i6, i7, i8⟩, i9⟩ := i
  refine ⟨g1.1, i2, i1, g1.2.2.2.1, by rw [g3]; exact g2, by omega, fun t ht => by rw [g3]; exact i6 t ht, ?_, g5⟩
  cases f with
  | none => trivial
  | some t => exact g7 t (i6 t rfl)
theorem GM.nm (g : GM hi v f x N Rs m us n T im) (i : MI v f x N m us n T im) : NM hi v (f.map Rs) := by
  obtain ⟨g1, ⟨g2, g3, g4, g5⟩, g6, g7, g8, g9⟩ := g
  obtain ⟨⟨i1, i2, i3, i4, i5⟩, ⟨i6, i7, i8⟩, i9⟩ := i
  refine ⟨g1, i1, ?_, g4⟩
  cases f with
  | none => exact g2
  | some t =>
    have := i6 t rfl
    exact ⟨t, by omega, g2, g6 t this⟩
end GG
/-- what holds between calls of the law -/
def LI (L : Nat) (Sc : Nat → Int32) (h : fxH) : Prop := ∃ σ hi hl v f x N Rs m us n T im, h = hp σ hi hl ∧ σ.1 = L ∧ GX Sc σ hi hl v f x N Rs m us n T im ∧ GM hi v f x N Rs m us n T im ∧ MI v f x N m us n T im
/-- the script is there -/
def SC (L : Nat) (Sc : Nat → Int32) (h : fxH) : Prop := h.2.1 90 0 = L ∧ ∀ j, h.2.2.2.1 90 0 j = Sc j
/-- both calls answer alike -/
def OpR (L : Nat) (Sc : Nat → Int32) (h : fxH) (yx ym : Nat) (av : List fxV) : Prop := ∃ a h1 h2, fx_Ga 20 yx (xO :: av) h (some (vi a)) h1 ∧ fx_Ga 20 ym (mO :: av) h1 (some (vi a)) h2 ∧ SC L Sc h1 ∧ LI L Sc h2
theorem FrY.k {hi hi' : fxI3} (h : FrY hi hi') : ∀ k j s, XK k → hi' k j s = hi k j s := fun k j s a => h k j s (by unfold XK at a; unfold scx; omega)
theorem FrQ.k {hi hi' : fxI3} (h : FrQ hi hi') : ∀ k j s, ¬ XK k → hi' k j s = hi k j s := fun k j s a => h k j s (by unfold XK at a; unfold scr; omega)
theorem FlQ.k {hl hl' : fxL3} (h : FlQ hl hl') : ∀ k j s, ¬ XK k → hl' k j s = hl k j s := fun k j s a => h k j s (by unfold XK at a; omega) (by unfold XK at a; omega) (by unfold XK at a; omega)
section QQ
variable {L : Nat} {Sc : Nat → Int32} {h : fxH}
/-- a question -/
theorem op_q {yx ym : Nat} {av : List fxV} (li : LI L Sc h) (k : ∀ (σ : fxS) (hi : fxI3) (hl : fxL3) (v : Nat → Nat) (f : Option Nat) (x N : Nat) (Rs : Nat → fxRl) (m : Nat) (us : fxU) (n : Nat) (T : Nat → Int32) (im : fxIm), GX Sc σ hi hl v f x N Rs m us n T im → GM hi v f x N Rs m us n T im → MI v f x N m us n T im → ∃ a, (∃ q hi' hl', fx_Ga 20 yx (xO :: av) (hp σ hi hl) (some (vi a)) (hp (σ.1, σ.2.1, q, σ.2.2.2) hi' hl') ∧ FrY hi hi' ∧ FlY hl hl') ∧ ∀ σ' hi' hl', GM hi' v f x N Rs m us n T im → QM 20 ym (mO :: av) σ' hi' hl' v a) : OpR L Sc h yx ym av := by
  obtain ⟨σ, hi, hl, v, f, x, N, Rs, m, us, n, T, im, rfl, eL, gx, gm, mi⟩ := li
  obtain ⟨a, ⟨q, hi1, hl1, hg1, f1, f2⟩, hm⟩ := k σ hi hl v f x N Rs m us n T im gx gm mi
  have gm1 := gm.x f1.k
  have gx1 : GX Sc (σ.1, σ.2.1, q, σ.2.2.2) hi1 hl1 v f x N Rs m us n T im := gx.y rfl rfl f1 f2
  obtain ⟨hi2, hl2, hg2, f3, f4, pv⟩ := hm (σ.1, σ.2.1, q, σ.2.2.2) hi1 hl1 gm1
  exact ⟨a, _, _, hg1, hg2, ⟨eL, gx1.2.1.2.2.2.2⟩, (σ.1, σ.2.1, q, σ.2.2.2), hi2, hl2, v, f, x, N, Rs, m, us, n, T, im, rfl, eL, gx1.mm f3.k f4.k, gm1.q f3 pv, mi⟩
theorem qx_q {D y : Nat} {av : List fxV} {σ : fxS} {hi : fxI3} {hl : fxL3} {a : Int32} (h : QX D y av σ hi hl a) : ∃ q hi' hl', fx_Ga D y av (hp σ hi hl) (some (vi a)) (hp (σ.1, σ.2.1, q, σ.2.2.2) hi' hl') ∧ FrY hi hi' ∧ FlY hl hl' := by
  obtain ⟨hi', hl', hg, f1, f2⟩ := h
  exact ⟨σ.2.2.1, hi', hl', hg, f1, f2⟩
theorem op_rider (li : LI L Sc h) (a b : Int32) : OpR L Sc h 96 198 [vi a, vi b] := op_q li (fun σ hi hl v f x N Rs m us n T im gx gm mi => ⟨_, qx_q (x_rider (d := 18) gx.1.1 mi.1.1.1 a b), fun σ' hi' hl' g => m_rider (d := 18) g.1 mi.1.1.1 a b⟩)
theorem op_gateAt (li : LI L Sc h) (a : Int32) : OpR L Sc h 97 200 [vi a] := op_q li (fun σ hi hl v f x N Rs m us n T im gx gm mi => ⟨_, qx_q (x_gateAt (d := 18) gx.1.1 mi.1.2.1 mi.1.1.2.1 a), fun σ' hi' hl' g => m_gateAt (d := 17) g.1 mi.1.2.2.1 mi.1.1.2.1 a⟩)
theorem op_last (li : LI L Sc h) : OpR L Sc h 107 218 [] := op_q li (fun σ hi hl v f x N Rs m us n T im gx gm mi => ⟨_, qx_q (x_last (d := 18) gx.1.1 mi.1.1 mi.1.2.2.1), fun σ' hi' hl' g => m_last (d := 17) g.1 mi.1.1.1⟩)
theorem op_ahead (li : LI L Sc h) (a b c : Int32) : OpR L Sc h 108 219 [vi a, vi b, vi c] := op_q li (fun σ hi hl v f x N Rs m us n T im gx gm mi => ⟨_, qx_q (x_ahead (d := 13) (gx.nx mi) mi.1.2.2.1 a b c), fun σ' hi' hl' g => m_ahead (d := 12) (g.nm mi) mi.1.2.2.1 a b c⟩)
theorem op_it (li : LI L Sc h) (a : Int32) : OpR L Sc h 109 220 [vi a] := op_q li (fun σ hi hl v f x N Rs m us n T im gx gm mi => ⟨_, qx_q (x_it (d := 13) (gx.nx mi) mi.1.2.2.1 a), fun σ' hi' hl' g => m_it (d := 13) (g.nm mi) mi.1.2.2.1 a⟩)
theorem op_leastPace (li : LI L Sc h) (a b : Int32) : OpR L Sc h 110 221 [vi a, vi b] := op_q li (fun σ hi hl v f x N Rs m us n T im gx gm mi => ⟨_, qx_q (x_leastPace (d := 12) (gx.nx mi) mi.1.2.2.1 a b), fun σ' hi' hl' g => m_leastPace (d := 12) (g.nm mi) mi.1.2.2.1 a b⟩)
theorem op_row (li : LI L Sc h) (a b c : Int32) : OpR L Sc h 113 223 [vi a, vi b, vi c] := op_q li (fun σ hi hl v f x N Rs m us n T im gx gm mi => ⟨_, x_row (d := 8) (gx.nx mi) mi.1.2.2.1 a b c, fun σ' hi' hl' g => m_row (d := 13) (g.nm mi) mi.1.2.2.1 a b c⟩)
theorem op_shut (li : LI L Sc h) (a b : Int32) : OpR L Sc h 114 225 [vi a, vi b] := op_q li (fun σ hi hl v f x N Rs m us n T im gx gm mi => ⟨_, qx_q (x_shut (d := 12) (gx.nx mi) mi.1.2.2.1 a b), fun σ' hi' hl' g => m_shut (d := 11) (g.nm mi) mi.1.2.2.1 a b⟩)
theorem op_open (li : LI L Sc h) (a b c : Int32) : OpR L Sc h 115 236 [vi a, vi b, vi c] := op_q li (fun σ hi hl v f x N Rs m us n T im gx gm mi => ⟨_, qx_q (x_open (d := 12) (gx.nx mi) mi.1.2.2.1 a b c), fun σ' hi' hl' g => m_open (d := 12) (g.nm mi) mi.1.2.2.1 a b c⟩)
theorem op_help (li : LI L Sc h) (a b : Int32) : OpR L Sc h 116 227 [vi a, vi b] := op_q li (fun σ hi hl v f x N Rs m us n T im gx gm mi => ⟨_, qx_q (x_help (d := 12) (gx.nx mi) mi.1.2.2.1 a b), fun σ' hi' hl' g => m_help (d := 11) (g.nm mi) mi.1.2.2.1 a b⟩)
theorem op_allIt (li : LI L Sc h) : OpR L Sc h 118 229 [] := op_q li (fun σ hi hl v f x N Rs m us n T im gx gm mi => ⟨_, qx_q (x_allIt (d := 13) (gx.nx mi) mi.1.2.2.1), fun σ' hi' hl' g => m_allIt (d := 13) (g.nm mi) mi.1.2.2.1⟩)
theorem op_meet (li : LI L Sc h) (a b : Int32) : OpR L Sc h 119 230 [vi a, vi b] := op_q li (fun σ hi hl v f x N Rs m us n T im gx gm mi => ⟨_, qx_q (x_meet (d := 13) (gx.nx mi) mi.1.2.2.1 a b), fun σ' hi' hl' g => m_meet (d := 13) (g.nm mi) mi.1.2.2.1 a b⟩)
theorem op_close (li : LI L Sc h) (a b : Int32) : OpR L Sc h 121 237 [vi a, vi b] := op_q li (fun σ hi hl v f x N Rs m us n T im gx gm mi => ⟨_, qx_q (x_close (d := 13) (gx.nx mi) mi.1.2.2.1 a b), fun σ' hi' hl' g => m_close (d := 13) (g.nm mi) mi.1.2.2.1 a b⟩)
theorem op_bunches (li : LI L Sc h) (a : Int32) : OpR L Sc h 122 232 [vi a] := op_q li (fun σ hi hl v f x N Rs m us n T im gx gm mi => ⟨_, qx_q (x_bunches (d := 18) gx.1.1 mi.1.1 mi.1.2.2.1 a), fun σ' hi' hl' g => m_bunches (d := 17) g.1 mi.1.1 mi.1.2.2.1 a⟩)
theorem op_pence (li : LI L Sc h) (a b : Int32) : OpR L Sc h 123 233 [vi a, vi b] := op_q li (fun σ hi hl v f x N Rs m us n T im gx gm mi => ⟨_, qx_q (x_pence (d := 18) gx.1.1 mi.1.1 mi.1.2.2.1 a b), fun σ' hi' hl' g => m_pence (d := 17) g.1 mi.1.1 mi.1.2.2.1 a b⟩)
theorem op_rests (li : LI L Sc h) (a b c e : Int32) : OpR L Sc h 124 235 [vi a, vi b, vi c, vi e] := op_q li (fun σ hi hl v f x N Rs m us n T im gx gm mi => ⟨_, qx_q (x_rests (d := 12) (gx.nx mi) mi.1.2.2.1 a b c e), fun σ' hi' hl' g => m_rests (d := 12) (g.nm mi) mi.1.2.2.1 a b c e⟩)
theorem op_mornings (li : LI L Sc h) (a b c e : Int32) : OpR L Sc h 135 247 [vi a, vi b, vi c, vi e] := op_q li (fun σ hi hl v f x N Rs m us n T im gx gm mi => ⟨_, qx_q (x_mornings (d := 13) (gx.nx mi) mi.1.2.2.1 gx.1.2.2.2.2 mi.2.1.2.1 a b c e), fun σ' hi' hl' g => m_mornings (d := 13) (g.nm mi) mi.1.2.2.1 g.2.1.2.1 mi.2.1.2.1 a b c e⟩)
theorem bz_1 {hi : fxI3} {hl : fxL3} {v : Nat → Nat} (h : PX hi hl 1 (vBz v)) (h0 : v 0 = 1) : PX hi hl 1 (vBg v) := by
  unfold vBz at h
  rw [if_pos h0] at h
  exact h
theorem op_ruled (li : LI L Sc h) (a : Int32) : OpR L Sc h 129 241 [vi a] := op_q li (fun σ hi hl v f x N Rs m us n T im gx gm mi => by
  have e := gx.2.1.2.1
  refine ⟨_, qx_q (x_ruled (d := 12) (R := Rs) (gx.nx mi) mi.1.2.2.1 (bz_1 gx.1.2.1) mi.1.2.2.2.1 gx.1.2.2.1 mi.1.2.2.2.2 (fun t ht => gx.2.2.1 t (by omega)) a), fun σ' hi' hl' g => ?_⟩
  rw [e]
  exact m_ruled (d := 12) (g.nm mi) mi.1.2.2.2.1 mi.1.2.2.2.2 g.2.1.2.2.2 mi.2.1.2.2 g.2.2.1 a)
theorem op_look (li : LI L Sc h) (a b : Int32) : OpR L Sc h 130 243 [vi a, vi b] := op_q li (fun σ hi hl v f x N Rs m us n T im gx gm mi => by
  have e := gx.2.1.2.1
  refine ⟨_, qx_q (x_look (d := 12) (R := Rs) (gx.nx mi) mi.1.2.2.1 (bz_1 gx.1.2.1) mi.1.2.2.2.1 gx.1.2.2.1 mi.1.2.2.2.2 (fun t ht => gx.2.2.1 t (by omega)) a b), fun σ' hi' hl' g => ?_⟩
  rw [e]
  exact m_look (d := 12) (g.nm mi) mi.1.2.2.2.1 mi.1.2.2.2.2 g.2.1.2.2.2 mi.2.1.2.2 g.2.2.1 a b)
theorem op_count (li : LI L Sc h) (a : Int32) : OpR L Sc h 98 248 [vi a] := op_q li (fun σ hi hl v f x N Rs m us n T im gx gm mi => by
  obtain ⟨p, p1, p2, p3, p4, p5⟩ := gx.2.2.2.1
  have h10 := mi.1.2.2.1.2
  refine ⟨_, ⟨σ.2.2.1, hi, hl, x_count (d := 18) (N := N) (m := m) (x := x) (tn := n) (f := f) gx.1.1 (mi.1.1.sv (by omega)) mi.1.2.1 gx.1.2.2.1 gx.2.1.1 gx.1.2.2.2.1 p4 gx.1.2.2.2.2 gx.2.2.2.2.1.1 a, FrY.rf hi, FlY.rf hl⟩, fun σ' hi' hl' g => ⟨hi', hl', m_count (d := 17) g.1 mi.1.1.1 g.2.1.2.2.2 g.2.1.1 g.2.2.2.1.2.1 g.2.1.2.1 g.2.2.2.2.1.2.1 a, fun _ _ _ _ => rfl, fun _ _ _ _ _ _ => rfl, g.1⟩⟩)
end QQ
