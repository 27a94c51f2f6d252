/-! what lies where, once both objects are made (by wip/whole/gen_lay.py) -/
def fx_wb (j : Nat) : Nat := match j with | 0 => 1 | j => 27 + 2 * j
def fx_wn (j : Nat) : Nat := match j with | 0 => 2 | j => 28 + 2 * j
def fx_rfs (n : Nat) (q : Option fxR) : Nat → Nat → Nat → Option fxR := fun k j s => match k with
  | 0 => (match s with | 0 => some (35, 0) | _ => none)
  | 1 => (match s with | 7 => some (21, j) | 8 => some (22, j) | 9 => some (23, j) | 10 => some (24, j) | _ => none)
  | 2 => (match s with | 0 => some (7, 0) | 2 => some (1, 0) | _ => none)
  | 3 => (match s with | 1 => some (30, j) | 2 => some (31, j) | 3 => some (32, j) | _ => none)
  | 4 => (match s with | 0 => some (8, 0) | 1 => some (39, 0) | 2 => (match j with | 0 => q | _ => none) | _ => none)
  | 5 => (match s with | 0 => some (45, 3 * j) | 2 => some (45, 3 * j + 1) | 3 => some (45, 3 * j + 2) | _ => none)
  | 6 => (match s with | 0 => some (7, 1) | 1 => some (25, 0) | 2 => some (26, 0) | 3 => some (27, 0) | 4 => some (28, 0) | _ => none)
  | 7 => (match s with | 0 => some (20, 0) | _ => none)
  | 8 => (match s with | 0 => some (36, 0) | 1 => some (37, 0) | 2 => some (38, 0) | _ => none)
  | 9 => (match s with | 0 => some (1, fx_wb j) | 1 => some (1, fx_wn j) | 2 => some (3, j) | _ => none)
  | 10 => (match s with | 0 => some (20, 0) | 2 => some (2, 0) | 3 => some (6, 0) | 4 => some (29, 0) | 6 => some (9, 0) | 7 => some (33, 0) | 8 => some (34, 0) | 9 => some (0, 0) | 10 => some (8, 0) | 11 => some (1, 23) | 12 => some (4, 0) | 13 => some (40, 0) | 14 => some (41, 0) | 15 => some (42, 0) | 16 => some (43, 0) | 17 => some (44, 0) | _ => none)
  | 11 => (match s with | 0 => some (50, 0) | 3 => some (51, 0) | 4 => some (52, 0) | 5 => some (53, 0) | 6 => some (54, 0) | 7 => some (55, 0) | 15 => some (56, 0) | 17 => some (57, 0) | 19 => some (58, 0) | 20 => some (59, 0) | 24 => some (60, 0) | 26 => some (61, 0) | 27 => some (62, 0) | 29 => some (63, 0) | 30 => some (64, 0) | 31 => some (65, 0) | 32 => some (66, 0) | 34 => some (67, 0) | 35 => some (68, 0) | 36 => some (69, 0) | 37 => some (70, 0) | _ => none)
  | 29 => (match j with | 0 => bif Nat.blt s n then some (5, s) else none | _ => none)
  | 33 => bif Nat.blt s 4 then some (9, s + 1) else none
  | 35 => bif Nat.blt s 20 then some (1, 3 + s) else none
  | 39 => bif Nat.blt s 5 then some (1, 24 + s) else none
  | _ => none
def fx_lns (L : Nat) (cl : Nat → Nat) : Nat → Nat → Nat := fun k j => match k with
  | 20 => 400
  | 21 => 6
  | 22 => 6
  | 23 => 6
  | 24 => 6
  | 25 => 400
  | 26 => 13
  | 27 => 12
  | 28 => 64
  | 29 => 6
  | 30 => 10
  | 31 => 10
  | 32 => 10
  | 33 => 4
  | 34 => 4
  | 35 => 20
  | 36 => 11
  | 37 => 64
  | 38 => 6
  | 39 => 5
  | 40 => 6
  | 41 => 25
  | 42 => 25
  | 43 => 7
  | 44 => 42
  | 50 => 400
  | 51 => 2400
  | 52 => 7
  | 53 => 288
  | 54 => 6
  | 55 => 52
  | 56 => 400
  | 57 => 64
  | 58 => 11
  | 59 => 83
  | 60 => 4
  | 61 => 6
  | 62 => 560
  | 63 => 28
  | 64 => 50
  | 65 => 7
  | 66 => 42
  | 67 => 332
  | 68 => 4
  | 69 => 4
  | 70 => 4
  | 45 => cl j
  | 90 => L
  | 91 => 14
  | _ => 0
def fx_cns (n : Nat) : Nat → Nat := fun k => match k with
  | 0 => 1
  | 1 => 37
  | 2 => 1
  | 3 => 5
  | 4 => 1
  | 6 => 1
  | 7 => 2
  | 8 => 1
  | 9 => 5
  | 10 => 1
  | 11 => 1
  | 20 => 1
  | 21 => 37
  | 22 => 37
  | 23 => 37
  | 24 => 37
  | 25 => 1
  | 26 => 1
  | 27 => 1
  | 28 => 1
  | 29 => 1
  | 30 => 5
  | 31 => 5
  | 32 => 5
  | 33 => 1
  | 34 => 1
  | 35 => 1
  | 36 => 1
  | 37 => 1
  | 38 => 1
  | 39 => 1
  | 40 => 1
  | 41 => 1
  | 42 => 1
  | 43 => 1
  | 44 => 1
  | 50 => 1
  | 51 => 1
  | 52 => 1
  | 53 => 1
  | 54 => 1
  | 55 => 1
  | 56 => 1
  | 57 => 1
  | 58 => 1
  | 59 => 1
  | 60 => 1
  | 61 => 1
  | 62 => 1
  | 63 => 1
  | 64 => 1
  | 65 => 1
  | 66 => 1
  | 67 => 1
  | 68 => 1
  | 69 => 1
  | 70 => 1
  | 90 => 1
  | 91 => 1
  | 92 => 18
  | 5 => n
  | 45 => 3 * n
  | _ => 0
/-- what doesn't change: how many ints the script has, RULES, the row's RULE, their lengths -/
abbrev fxS : Type := Nat × Nat × Option fxR × (Nat → Nat)
abbrev fxI3 : Type := Nat → Nat → Nat → Int32
abbrev fxL3 : Type := Nat → Nat → Nat → Int64
def hp (σ : fxS) (hi : fxI3) (hl : fxL3) : fxH := (fx_cns σ.2.1, fx_lns σ.1 σ.2.2.2, fx_rfs σ.2.1 σ.2.2.1, hi, hl)
abbrev mO : fxV := .inr (.inr (some (11, 0)))
abbrev xO : fxV := .inr (.inr (some (10, 0)))
abbrev cO (j : Nat) : fxV := .inr (.inr (some (1, j)))
abbrev vi (x : Int32) : fxV := .inl x
abbrev vl (x : Int64) : fxV := .inr (.inl x)
