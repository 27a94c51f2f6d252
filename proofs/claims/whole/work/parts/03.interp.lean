/-! an abstract machine over pictures of cells: kinds and numbers in place of addresses -/
abbrev fxR : Type := Nat × Nat
abbrev fxV : Type := Int32 ⊕ (Int64 ⊕ Option fxR)
/-- how many of a kind, lengths, references, ints, longs -/
abbrev fxH : Type := (Nat → Nat) × (Nat → Nat → Nat) × (Nat → Nat → Nat → Option fxR) × (Nat → Nat → Nat → Int32) × (Nat → Nat → Nat → Int64)
abbrev fxLv : Type := List (Option fxV)
/-- pc, locals, stack, heap, cells and slots made -/
abbrev fxC : Type := Nat × fxLv × List fxV × fxH × Nat × Nat
abbrev fxPl : Type := List (Nat × Nat × Nat × Nat) × List (Nat × Nat) × List (Nat × Nat) × List (Nat × Nat) × List (Nat × Int32) × List (Nat × Int64) × List (Nat × Nat)
/-- own class, bytes, locals, answer; instructions; the pool: fields, methods, primitives, classes, ints, longs, texts; kinds of what is made; a constructor; cells, slots -/
abbrev fxM : Type := (String × ByteArray × Nat × Option FieldType) × (Nat → Option Instr) × fxPl × List (Nat × Nat) × Bool × Nat × Nat
def fx_lk {α : Type} : List (Nat × α) → Nat → Option α
  | [], _ => none
  | q :: r, i => bif Nat.beq q.1 i then some q.2 else fx_lk r i
theorem fx_lk_mem {α : Type} {L : List (Nat × α)} {i : Nat} {v : α} (h : fx_lk L i = some v) : (i, v) ∈ L := by
  induction L with
  | nil => cases h
  | cons q r ih =>
    unfold fx_lk at h
    cases e : Nat.beq q.1 i with
    | true =>
      rw [e] at h
      cases h
      have := Nat.eq_of_beq_eq_true e
      subst this
      exact List.mem_cons_self
    | false =>
      rw [e] at h
      exact List.mem_cons_of_mem _ (ih h)
def fx_up {α : Type} (f : Nat → Nat → Nat → α) (k j s : Nat) (v : α) : Nat → Nat → Nat → α := fun a => if a = k then fun b => if b = j then fun c => if c = s then v else f a b c else f a b else f a
def fx_all {α : Type} (f : Nat → Nat → Nat → α) (k j : Nat) (g : Nat → α) : Nat → Nat → Nat → α := fun a => if a = k then fun b => if b = j then g else f a b else f a
def fx_wi (h : fxH) (k j s : Nat) (v : Int32) : fxH := (h.1, h.2.1, h.2.2.1, fx_up h.2.2.2.1 k j s v, h.2.2.2.2)
def fx_wl (h : fxH) (k j s : Nat) (v : Int64) : fxH := (h.1, h.2.1, h.2.2.1, h.2.2.2.1, fx_up h.2.2.2.2 k j s v)
def fx_wr (h : fxH) (k j s : Nat) (v : Option fxR) : fxH := (h.1, h.2.1, fx_up h.2.2.1 k j s v, h.2.2.2.1, h.2.2.2.2)
def fx_mk (h : fxH) (k n : Nat) : fxH := (fun a => if a = k then h.1 k + 1 else h.1 a, fun a => if a = k then fun b => if b = h.1 k then n else h.2.1 a b else h.2.1 a, fx_all h.2.2.1 k (h.1 k) (fun _ => none), fx_all h.2.2.2.1 k (h.1 k) (fun _ => 0), fx_all h.2.2.2.2 k (h.1 k) (fun _ => 0))
/-- a whole row of ints -/
def fx_wa (h : fxH) (k j : Nat) (g : Nat → Int32) : fxH := (h.1, h.2.1, h.2.2.1, fx_all h.2.2.2.1 k j g, h.2.2.2.2)
def fx_get (lv : fxLv) (i : Nat) : Option fxV := (lv[i]?).getD none
def fx_clr (lv : fxLv) : Nat → fxLv
  | 0 => lv
  | j + 1 => match fx_get lv j with
    | some (.inr (.inl _)) => lv.set j none
    | _ => lv
def fx_st1 (lv : fxLv) (i : Nat) (v : fxV) : fxLv := (fx_clr lv i).set i (some v)
def fx_st2 (lv : fxLv) (i : Nat) (v : fxV) : fxLv := ((fx_clr lv i).set i (some v)).set (i + 1) none
/-- an array's element by its kind: 0 int, 1 byte, 2 boolean, 3 long, 4 Chase, 5 World, 6 Rule -/
def fx_ek (k : Nat) : Nat := match k with
  | 20 => 1 | 29 => 6 | 33 => 5 | 34 => 2 | 35 => 4 | 36 => 3 | 37 => 3 | 39 => 4 | 43 => 2
  | 50 => 1 | 57 => 3 | 58 => 3 | 65 => 2 | 70 => 2
  | _ => 0
def fx_cat (v : fxV) : Nat := match v with
  | .inr (.inl _) => 2
  | _ => 1
/-- arrays that can be read (90 the script, 91 BINDS) and written -/
def fx_ar (k e : Nat) : Bool := Nat.ble 20 k && Nat.ble k 91 && Nat.beq (fx_ek k) e
def fx_aw (k e : Nat) : Bool := Nat.ble 20 k && Nat.ble k 89 && Nat.beq (fx_ek k) e
def fx_tgt (pc : Nat) (off : Int) : Nat := ((pc : Int) + off).toNat
def fx_tg0 (pc : Nat) (off : Int) : Bool := decide (0 ≤ (pc : Int) + off)
def fx_jmp (pc : Nat) (off : Int) (lv : fxLv) (st : List fxV) (h : fxH) (c n : Nat) : Option fxC := bif fx_tg0 pc off then some (fx_tgt pc off, lv, st, h, c, n) else none
def fx_br (b : Prop) [Decidable b] (pc : Nat) (off : Int) (lv : fxLv) (st : List fxV) (h : fxH) (c n : Nat) : Option fxC := bif fx_tg0 pc off then (if b then some (fx_tgt pc off, lv, st, h, c, n) else some (pc + 3, lv, st, h, c, n)) else none
/-- a step that is neither a call nor an end -/
def fx_stp (M : fxM) (pc : Nat) (i : Instr) (lv : fxLv) (st : List fxV) (h : fxH) (c n : Nat) : Option fxC :=
  match i with
  | .iconst v => some (pc + 1, lv, .inl (Int32.ofInt v) :: st, h, c, n)
  | .bipush v => some (pc + 2, lv, .inl (Int8.ofInt v).toInt32 :: st, h, c, n)
  | .sipush v => some (pc + 3, lv, .inl (Int16.ofInt v).toInt32 :: st, h, c, n)
  | .lconst v => some (pc + 1, lv, .inr (.inl (Int64.ofNat (v : Nat))) :: st, h, c, n)
  | .aconst_null => some (pc + 1, lv, .inr (.inr none) :: st, h, c, n)
  | .ldc x => match fx_lk M.2.2.1.2.2.2.2.1 x with
    | some v => some (pc + 2, lv, .inl v :: st, h, c, n)
    | none => match fx_lk M.2.2.1.2.2.2.2.2.2 x with
      | some j => some (pc + 2, lv, .inr (.inr (some (92, j))) :: st, h, c, n)
      | none => none
  | .ldc_w x => match fx_lk M.2.2.1.2.2.2.2.1 x with
    | some v => some (pc + 3, lv, .inl v :: st, h, c, n)
    | none => none
  | .ldc2_w x => match fx_lk M.2.2.1.2.2.2.2.2.1 x with
    | some v => some (pc + 3, lv, .inr (.inl v) :: st, h, c, n)
    | none => none
  | .iload_n k => match fx_get lv k with
    | some (.inl v) => some (pc + 1, lv, .inl v :: st, h, c, n)
    | _ => none
  | .iload k => match fx_get lv k with
    | some (.inl v) => some (pc + 2, lv, .inl v :: st, h, c, n)
    | _ => none
  | .lload_n k => match fx_get lv k with
    | some (.inr (.inl v)) => some (pc + 1, lv, .inr (.inl v) :: st, h, c, n)
    | _ => none
  | .lload k => match fx_get lv k with
    | some (.inr (.inl v)) => some (pc + 2, lv, .inr (.inl v) :: st, h, c, n)
    | _ => none
  | .aload_n k => match fx_get lv k with
    | some (.inr (.inr v)) => some (pc + 1, lv, .inr (.inr v) :: st, h, c, n)
    | _ => none
  | .aload k => match fx_get lv k with
    | some (.inr (.inr v)) => some (pc + 2, lv, .inr (.inr v) :: st, h, c, n)
    | _ => none
  | .istore_n k => match st with
    | .inl v :: r => bif Nat.blt k M.1.2.2.1 then some (pc + 1, fx_st1 lv k (.inl v), r, h, c, n) else none
    | _ => none
  | .istore k => match st with
    | .inl v :: r => bif Nat.blt k M.1.2.2.1 then some (pc + 2, fx_st1 lv k (.inl v), r, h, c, n) else none
    | _ => none
  | .lstore_n k => match st with
    | .inr (.inl v) :: r => bif Nat.blt (k + 1) M.1.2.2.1 then some (pc + 1, fx_st2 lv k (.inr (.inl v)), r, h, c, n) else none
    | _ => none
  | .lstore k => match st with
    | .inr (.inl v) :: r => bif Nat.blt (k + 1) M.1.2.2.1 then some (pc + 2, fx_st2 lv k (.inr (.inl v)), r, h, c, n) else none
    | _ => none
  | .astore_n k => match st with
    | .inr (.inr v) :: r => bif Nat.blt k M.1.2.2.1 then some (pc + 1, fx_st1 lv k (.inr (.inr v)), r, h, c, n) else none
    | _ => none
  | .astore k => match st with
    | .inr (.inr v) :: r => bif Nat.blt k M.1.2.2.1 then some (pc + 2, fx_st1 lv k (.inr (.inr v)), r, h, c, n) else none
    | _ => none
  | .iinc k x => match fx_get lv k with
    | some (.inl v) => bif Nat.blt k M.1.2.2.1 then some (pc + 3, fx_st1 lv k (.inl (v + Int32.ofInt x)), st, h, c, n) else none
    | _ => none
  | .iadd => match st with
    | .inl y :: .inl x :: r => some (pc + 1, lv, .inl (x + y) :: r, h, c, n)
    | _ => none
  | .isub => match st with
    | .inl y :: .inl x :: r => some (pc + 1, lv, .inl (x - y) :: r, h, c, n)
    | _ => none
  | .imul => match st with
    | .inl y :: .inl x :: r => some (pc + 1, lv, .inl (x * y) :: r, h, c, n)
    | _ => none
  | .iand => match st with
    | .inl y :: .inl x :: r => some (pc + 1, lv, .inl (x &&& y) :: r, h, c, n)
    | _ => none
  | .ior => match st with
    | .inl y :: .inl x :: r => some (pc + 1, lv, .inl (x ||| y) :: r, h, c, n)
    | _ => none
  | .ixor => match st with
    | .inl y :: .inl x :: r => some (pc + 1, lv, .inl (x ^^^ y) :: r, h, c, n)
    | _ => none
  | .ishl => match st with
    | .inl y :: .inl x :: r => some (pc + 1, lv, .inl (x <<< (y &&& 31)) :: r, h, c, n)
    | _ => none
  | .ishr => match st with
    | .inl y :: .inl x :: r => some (pc + 1, lv, .inl (x >>> (y &&& 31)) :: r, h, c, n)
    | _ => none
  | .iushr => match st with
    | .inl y :: .inl x :: r => some (pc + 1, lv, .inl (x.toUInt32 >>> (y.toUInt32 &&& Int32.toUInt32 31)).toInt32 :: r, h, c, n)
    | _ => none
  | .idiv => match st with
    | .inl y :: .inl x :: r => if y = 0 then none else some (pc + 1, lv, .inl (x / y) :: r, h, c, n)
    | _ => none
  | .irem => match st with
    | .inl y :: .inl x :: r => if y = 0 then none else some (pc + 1, lv, .inl (x - x / y * y) :: r, h, c, n)
    | _ => none
  | .ineg => match st with
    | .inl x :: r => some (pc + 1, lv, .inl (-x) :: r, h, c, n)
    | _ => none
  | .ladd => match st with
    | .inr (.inl y) :: .inr (.inl x) :: r => some (pc + 1, lv, .inr (.inl (x + y)) :: r, h, c, n)
    | _ => none
  | .lsub => match st with
    | .inr (.inl y) :: .inr (.inl x) :: r => some (pc + 1, lv, .inr (.inl (x - y)) :: r, h, c, n)
    | _ => none
  | .lmul => match st with
    | .inr (.inl y) :: .inr (.inl x) :: r => some (pc + 1, lv, .inr (.inl (x * y)) :: r, h, c, n)
    | _ => none
  | .land => match st with
    | .inr (.inl y) :: .inr (.inl x) :: r => some (pc + 1, lv, .inr (.inl (x &&& y)) :: r, h, c, n)
    | _ => none
  | .lor => match st with
    | .inr (.inl y) :: .inr (.inl x) :: r => some (pc + 1, lv, .inr (.inl (x ||| y)) :: r, h, c, n)
    | _ => none
  | .lxor => match st with
    | .inr (.inl y) :: .inr (.inl x) :: r => some (pc + 1, lv, .inr (.inl (x ^^^ y)) :: r, h, c, n)
    | _ => none
  | .ldiv => match st with
    | .inr (.inl y) :: .inr (.inl x) :: r => if y = 0 then none else some (pc + 1, lv, .inr (.inl (x / y)) :: r, h, c, n)
    | _ => none
  | .lrem => match st with
    | .inr (.inl y) :: .inr (.inl x) :: r => if y = 0 then none else some (pc + 1, lv, .inr (.inl (x - x / y * y)) :: r, h, c, n)
    | _ => none
  | .lneg => match st with
    | .inr (.inl x) :: r => some (pc + 1, lv, .inr (.inl (-x)) :: r, h, c, n)
    | _ => none
  | .lshl => match st with
    | .inl y :: .inr (.inl x) :: r => some (pc + 1, lv, .inr (.inl (x <<< (y.toInt64 &&& 63))) :: r, h, c, n)
    | _ => none
  | .lushr => match st with
    | .inl y :: .inr (.inl x) :: r => some (pc + 1, lv, .inr (.inl (x.toUInt64 >>> (y.toInt64.toUInt64 &&& Int64.toUInt64 63)).toInt64) :: r, h, c, n)
    | _ => none
  | .lcmp => match st with
    | .inr (.inl y) :: .inr (.inl x) :: r => some (pc + 1, lv, .inl (lg_cmp x y) :: r, h, c, n)
    | _ => none
  | .i2l => match st with
    | .inl x :: r => some (pc + 1, lv, .inr (.inl x.toInt64) :: r, h, c, n)
    | _ => none
  | .l2i => match st with
    | .inr (.inl x) :: r => some (pc + 1, lv, .inl x.toInt32 :: r, h, c, n)
    | _ => none
  | .i2b => match st with
    | .inl x :: r => some (pc + 1, lv, .inl x.toInt8.toInt32 :: r, h, c, n)
    | _ => none
  | .dup => match st with
    | .inr (.inl _) :: _ => none
    | v :: r => some (pc + 1, lv, v :: v :: r, h, c, n)
    | _ => none
  | .pop => match st with
    | .inr (.inl _) :: _ => none
    | _ :: r => some (pc + 1, lv, r, h, c, n)
    | _ => none
  | .dup2 => match st with
    | .inl y :: .inr (.inr x) :: r => some (pc + 1, lv, .inl y :: .inr (.inr x) :: .inl y :: .inr (.inr x) :: r, h, c, n)
    | _ => none
  | .getfield x => match fx_lk M.2.2.1.1 x with
    | some (ci, s, t) => match st with
      | .inr (.inr (some (k, j))) :: r => bif Nat.beq k ci then (match t with
        | 0 => some (pc + 3, lv, .inl (h.2.2.2.1 k j s) :: r, h, c, n)
        | 1 => some (pc + 3, lv, .inr (.inl (h.2.2.2.2 k j s)) :: r, h, c, n)
        | 2 => some (pc + 3, lv, .inr (.inr (h.2.2.1 k j s)) :: r, h, c, n)
        | _ => some (pc + 3, lv, .inl (h.2.2.2.1 k j s) :: r, h, c, n)) else none
      | _ => none
    | none => none
  | .putfield x => match fx_lk M.2.2.1.1 x with
    | some (ci, s, t) => match t, st with
      | 0, .inl v :: .inr (.inr (some (k, j))) :: r => bif Nat.beq k ci then some (pc + 3, lv, r, fx_wi h k j s v, c, n) else none
      | 1, .inr (.inl v) :: .inr (.inr (some (k, j))) :: r => bif Nat.beq k ci then some (pc + 3, lv, r, fx_wl h k j s v, c, n) else none
      | 2, .inr (.inr v) :: .inr (.inr (some (k, j))) :: r => bif Nat.beq k ci then some (pc + 3, lv, r, fx_wr h k j s v, c, n) else none
      | 3, .inl v :: .inr (.inr (some (k, j))) :: r => bif Nat.beq k ci then (if v = 0 ∨ v = 1 then some (pc + 3, lv, r, fx_wi h k j s v, c, n) else none) else none
      | _, _ => none
    | none => none
  | .getstatic _ => some (pc + 3, lv, .inr (.inr (some (91, 0))) :: st, h, c, n)
  | .iaload => match st with
    | .inl i :: .inr (.inr (some (k, j))) :: r => bif fx_ar k 0 then (if 0 ≤ i.toInt ∧ i.toInt < (h.2.1 k j : Int) then some (pc + 1, lv, .inl (h.2.2.2.1 k j i.toNatClampNeg) :: r, h, c, n) else none) else none
    | _ => none
  | .baload => match st with
    | .inl i :: .inr (.inr (some (k, j))) :: r => bif fx_aw k 1 || fx_aw k 2 then (if 0 ≤ i.toInt ∧ i.toInt < (h.2.1 k j : Int) then some (pc + 1, lv, .inl (h.2.2.2.1 k j i.toNatClampNeg) :: r, h, c, n) else none) else none
    | _ => none
  | .laload => match st with
    | .inl i :: .inr (.inr (some (k, j))) :: r => bif fx_aw k 3 then (if 0 ≤ i.toInt ∧ i.toInt < (h.2.1 k j : Int) then some (pc + 1, lv, .inr (.inl (h.2.2.2.2 k j i.toNatClampNeg)) :: r, h, c, n) else none) else none
    | _ => none
  | .aaload => match st with
    | .inl i :: .inr (.inr (some (k, j))) :: r => bif fx_aw k 4 || fx_aw k 5 || fx_aw k 6 then (if 0 ≤ i.toInt ∧ i.toInt < (h.2.1 k j : Int) then some (pc + 1, lv, .inr (.inr (h.2.2.1 k j i.toNatClampNeg)) :: r, h, c, n) else none) else none
    | _ => none
  | .iastore => match st with
    | .inl v :: .inl i :: .inr (.inr (some (k, j))) :: r => bif fx_aw k 0 then (if 0 ≤ i.toInt ∧ i.toInt < (h.2.1 k j : Int) then some (pc + 1, lv, r, fx_wi h k j i.toNatClampNeg v, c, n) else none) else none
    | _ => none
  | .bastore => match st with
    | .inl v :: .inl i :: .inr (.inr (some (k, j))) :: r => bif fx_aw k 1 then (if 0 ≤ i.toInt ∧ i.toInt < (h.2.1 k j : Int) then some (pc + 1, lv, r, fx_wi h k j i.toNatClampNeg v.toInt8.toInt32, c, n) else none) else (bif fx_aw k 2 then (if 0 ≤ i.toInt ∧ i.toInt < (h.2.1 k j : Int) then some (pc + 1, lv, r, fx_wi h k j i.toNatClampNeg (vp_nar .boolean v), c, n) else none) else none)
    | _ => none
  | .lastore => match st with
    | .inr (.inl v) :: .inl i :: .inr (.inr (some (k, j))) :: r => bif fx_aw k 3 then (if 0 ≤ i.toInt ∧ i.toInt < (h.2.1 k j : Int) then some (pc + 1, lv, r, fx_wl h k j i.toNatClampNeg v, c, n) else none) else none
    | _ => none
  | .aastore => match st with
    | .inr (.inr (some (k2, j2))) :: .inl i :: .inr (.inr (some (k, j))) :: r => bif (fx_aw k 4 && Nat.beq k2 1) || (fx_aw k 5 && Nat.beq k2 9) || (fx_aw k 6 && Nat.beq k2 5) then (if 0 ≤ i.toInt ∧ i.toInt < (h.2.1 k j : Int) then some (pc + 1, lv, r, fx_wr h k j i.toNatClampNeg (some (k2, j2)), c, n) else none) else none
    | _ => none
  | .arraylength => match st with
    | .inr (.inr (some (k, j))) :: r => bif Nat.ble 20 k && Nat.ble k 91 then some (pc + 1, lv, .inl (Int32.ofNat (h.2.1 k j)) :: r, h, c, n) else none
    | _ => none
  | .newarray t => match st, fx_lk M.2.2.2.1 pc with
    | .inl x :: r, some k => bif fx_aw k (match t with | .int => 0 | .byte => 1 | .boolean => 2 | .long => 3 | _ => 9) then (if 0 ≤ x.toInt ∧ x.toInt ≤ 3000 ∧ c + 1 ≤ M.2.2.2.2.2.1 ∧ n + x.toNatClampNeg ≤ M.2.2.2.2.2.2 then some (pc + 2, lv, .inr (.inr (some (k, h.1 k))) :: r, fx_mk h k x.toNatClampNeg, c + 1, n + x.toNatClampNeg) else none) else none
    | _, _ => none
  | .anewarray x => match st, fx_lk M.2.2.2.1 pc, fx_lk M.2.2.1.2.2.2.1 x with
    | .inl x :: r, some k, some ci => bif (fx_aw k 4 && Nat.beq ci 1) || (fx_aw k 5 && Nat.beq ci 9) || (fx_aw k 6 && Nat.beq ci 5) then (if 0 ≤ x.toInt ∧ x.toInt ≤ 3000 ∧ c + 1 ≤ M.2.2.2.2.2.1 ∧ n + x.toNatClampNeg ≤ M.2.2.2.2.2.2 then some (pc + 3, lv, .inr (.inr (some (k, h.1 k))) :: r, fx_mk h k x.toNatClampNeg, c + 1, n + x.toNatClampNeg) else none) else none
    | _, _, _ => none
  | .new x => match fx_lk M.2.2.1.2.2.2.1 x with
    | some ci => match fx_cl[ci]? with
      | some q => if c + 1 ≤ M.2.2.2.2.2.1 ∧ n + q.2.2 ≤ M.2.2.2.2.2.2 then some (pc + 3, lv, .inr (.inr (some (ci, h.1 ci))) :: st, fx_mk h ci 0, c + 1, n + q.2.2) else none
      | none => none
    | none => none
  | .goto o => fx_jmp pc o lv st h c n
  | .ifCond .eq o => match st with
    | .inl x :: r => fx_br (x = 0) pc o lv r h c n
    | _ => none
  | .ifCond .ne o => match st with
    | .inl x :: r => fx_br (¬ x = 0) pc o lv r h c n
    | _ => none
  | .ifCond .lt o => match st with
    | .inl x :: r => fx_br (x < 0) pc o lv r h c n
    | _ => none
  | .ifCond .ge o => match st with
    | .inl x :: r => fx_br (0 ≤ x) pc o lv r h c n
    | _ => none
  | .ifCond .gt o => match st with
    | .inl x :: r => fx_br (0 < x) pc o lv r h c n
    | _ => none
  | .ifCond .le o => match st with
    | .inl x :: r => fx_br (x ≤ 0) pc o lv r h c n
    | _ => none
  | .if_icmp .eq o => match st with
    | .inl y :: .inl x :: r => fx_br (x = y) pc o lv r h c n
    | _ => none
  | .if_icmp .ne o => match st with
    | .inl y :: .inl x :: r => fx_br (¬ x = y) pc o lv r h c n
    | _ => none
  | .if_icmp .lt o => match st with
    | .inl y :: .inl x :: r => fx_br (x < y) pc o lv r h c n
    | _ => none
  | .if_icmp .ge o => match st with
    | .inl y :: .inl x :: r => fx_br (y ≤ x) pc o lv r h c n
    | _ => none
  | .if_icmp .gt o => match st with
    | .inl y :: .inl x :: r => fx_br (y < x) pc o lv r h c n
    | _ => none
  | .if_icmp .le o => match st with
    | .inl y :: .inl x :: r => fx_br (x ≤ y) pc o lv r h c n
    | _ => none
  | .ifnull o => match st with
    | .inr (.inr none) :: r => fx_jmp pc o lv r h c n
    | .inr (.inr (some _)) :: r => some (pc + 3, lv, r, h, c, n)
    | _ => none
  | .ifnonnull o => match st with
    | .inr (.inr none) :: r => some (pc + 3, lv, r, h, c, n)
    | .inr (.inr (some _)) :: r => fx_jmp pc o lv r h c n
    | _ => none
  | .tableswitch d lo hi os => match st with
    | .inl x :: r => if x.toInt < lo ∨ hi < x.toInt then fx_jmp pc d lv r h c n else (match os[(x.toInt - lo).toNat]? with
      | some o => fx_jmp pc o lv r h c n
      | none => none)
    | _ => none
  | .lookupswitch d ps => match st with
    | .inl x :: r => bif (ps.toList.zip (ps.toList.drop 1)).all (fun (a, next) => decide (a.1 < next.1)) then fx_jmp pc (Op.lookupswitch.offset ps.toList d x.toInt) lv r h c n else none
    | _ => none
  | .checkcast _ => match st with
    | .inr (.inr (some (k, j))) :: r => bif fx_aw k 0 then some (pc + 3, lv, .inr (.inr (some (k, j))) :: r, h, c, n) else none
    | _ => none
  | .invokestatic x => match fx_lk M.2.2.1.2.2.1 x with
    | some 0 => match st with
      | .inl y :: .inl x :: r => bif Nat.ble (r.map fx_cat).sum 8 && Nat.ble c M.2.2.2.2.2.1 && Nat.ble n M.2.2.2.2.2.2 then some (pc + 3, lv, .inl (if x < y then y else x) :: r, h, c, n) else none
      | _ => none
    | some 1 => match st with
      | .inl y :: .inl x :: r => bif Nat.ble (r.map fx_cat).sum 8 && Nat.ble c M.2.2.2.2.2.1 && Nat.ble n M.2.2.2.2.2.2 then some (pc + 3, lv, .inl (if y < x then y else x) :: r, h, c, n) else none
      | _ => none
    | some 2 => match st with
      | .inr (.inl y) :: .inr (.inl x) :: r => bif Nat.ble (r.map fx_cat).sum 8 && Nat.ble c M.2.2.2.2.2.1 && Nat.ble n M.2.2.2.2.2.2 then some (pc + 3, lv, .inr (.inl (if y < x then y else x)) :: r, h, c, n) else none
      | _ => none
    | some 3 => match st with
      | .inl z :: .inl dp :: .inr (.inr (some (k1, j1))) :: .inl sp :: .inr (.inr (some (k0, j0))) :: r =>
        bif fx_aw k1 0 && fx_aw k0 0 && Nat.ble (r.map fx_cat).sum 8 then (if 0 ≤ sp.toInt ∧ 0 ≤ dp.toInt ∧ 0 ≤ z.toInt ∧ sp.toInt + z.toInt ≤ (h.2.1 k0 j0 : Int) ∧ dp.toInt + z.toInt ≤ (h.2.1 k1 j1 : Int) then some (pc + 3, lv, r, fx_wa h k1 j1 (va_cpy (h.2.2.2.1 k0 j0) (h.2.2.2.1 k1 j1) sp.toNatClampNeg dp.toNatClampNeg z.toNatClampNeg), c, n) else none) else none
      | _ => none
    | _ => none
  | .invokespecial x => match fx_lk M.2.2.1.2.2.1 x with
    | some 4 => match st with
      | .inr (.inr (some _)) :: r => bif Nat.ble (r.map fx_cat).sum 8 then some (pc + 3, lv, r, h, c, n) else none
      | _ => none
    | _ => none
  | .invokevirtual x => match fx_lk M.2.2.1.2.2.1 x with
    | some 5 => match st, fx_lk M.2.2.2.1 pc with
      | .inr (.inr (some (k, j))) :: r, some k1 => bif fx_aw k 0 && fx_aw k1 0 && Nat.ble (r.map fx_cat).sum 8 then (if c + 1 ≤ M.2.2.2.2.2.1 ∧ n + h.2.1 k j ≤ M.2.2.2.2.2.2 then some (pc + 3, lv, .inr (.inr (some (k1, h.1 k1))) :: r, fx_wa (fx_mk h k1 (h.2.1 k j)) k1 (h.1 k1) (h.2.2.2.1 k j), c + 1, n + h.2.1 k j) else none) else none
      | _, _ => none
    | _ => none
  | _ => none
