/-! A small machine over whole numbers: values are an int, a long (both as mathematical integers) or a reference (a sort of cell, its number); memory is what each place of each cell holds. -/
abbrev jx_V : Type := Int ⊕ Int ⊕ (Nat × Nat)
abbrev jx_M : Type := Nat → Nat → Nat → Int
abbrev jx_L : Type := List (Option jx_V)
abbrev jx_R : Type := Instr × Nat × Nat × Int
abbrev xI (z : Int) : jx_V := .inl z
abbrev xL (z : Int) : jx_V := .inr (.inl z)
abbrev xA (s i : Nat) : jx_V := .inr (.inr (s, i))
abbrev jx_in (z : Int) : Prop := -2147483648 ≤ z ∧ z ≤ 2147483647
abbrev jx_inL (z : Int) : Prop := -9223372036854775808 ≤ z ∧ z ≤ 9223372036854775807
def jx_nth {β : Type} : List β → Nat → β → β
  | [], _, d => d
  | x :: _, 0, _ => x
  | _ :: l, k + 1, d => jx_nth l k d
-- the layout: sorts, fields, order of making
def jx_sK (s : Nat) : Nat := (jx_nth jx_srt s (9, 0, 0, 0, 0)).1
def jx_sP (s : Nat) : Nat := (jx_nth jx_srt s (9, 0, 0, 0, 0)).2.1
def jx_sC (s : Nat) : Nat := (jx_nth jx_srt s (9, 0, 0, 0, 0)).2.2.1
def jx_sE (s : Nat) : Nat := (jx_nth jx_srt s (9, 0, 0, 0, 0)).2.2.2.1
def jx_sT (s : Nat) : Nat := (jx_nth jx_srt s (9, 0, 0, 0, 0)).2.2.2.2
def jx_fT (s k : Nat) : Nat × Nat × Nat × Nat := jx_nth (jx_nth jx_fld (jx_sP s) []) k (9, 0, 0, 0)
def jx_posA : List (Nat × Nat) → Nat → Nat → Nat
  | [], _, _ => 0
  | q :: l, s, i => bif Nat.beq q.1 s && Nat.beq q.2 i then 0 else jx_posA l s i + 1
def jx_pos (s i : Nat) : Nat := jx_posA jx_lay s i
def jx_ix (mode b j : Nat) : Nat := match mode with
  | 0 => b
  | _ + 1 => j
def jx_el (s j : Nat) (z : Int) : Nat := match jx_sT s with
  | 0 => z.toNat
  | k + 1 => (k + 1) * j + z.toNat
def jx_mA (y : Nat) : Nat := (jx_nth jx_mt y (0, false, 0, 0, 0, 0)).1
def jx_mV (y : Nat) : Bool := (jx_nth jx_mt y (0, false, 0, 0, 0, 0)).2.1
def jx_mL (y : Nat) : Nat := (jx_nth jx_mt y (0, false, 0, 0, 0, 0)).2.2.1
def jx_mC (y : Nat) : Nat := (jx_nth jx_mt y (0, false, 0, 0, 0, 0)).2.2.2.1
def jx_mF (y : Nat) : Nat := (jx_nth jx_mt y (0, false, 0, 0, 0, 0)).2.2.2.2.1
def jx_mO (y : Nat) : Nat := (jx_nth jx_mt y (0, false, 0, 0, 0, 0)).2.2.2.2.2
def jx_row (x i : Nat) : jx_R := jx_nth (jx_nth jx_cd x []) i (.nop, 0, 0, 0)
