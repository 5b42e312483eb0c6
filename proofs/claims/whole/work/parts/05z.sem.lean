def jx_up (m : jx_M) (s i j : Nat) (v : Int) : jx_M := fun s' i' j' => if s' = s ∧ i' = i ∧ j' = j then v else m s' i' j'
def jx_zero (m : jx_M) (s i : Nat) : jx_M := fun s' i' j' => if s' = s ∧ i' = i then 0 else m s' i' j'
def jx_cpy (m : jx_M) (s i sp t k dp n : Nat) : jx_M := fun s' i' j' => if s' = t ∧ i' = k ∧ dp ≤ j' ∧ j' < dp + n then m s i (sp + (j' - dp)) else m s' i' j'
def jx_lcmp (x y : Int) : Int := if x < y then -1 else if y < x then 1 else 0
def jx_iand (x y : Int) : Int := (Int32.ofInt x &&& Int32.ofInt y).toInt
def jx_ior (x y : Int) : Int := (Int32.ofInt x ||| Int32.ofInt y).toInt
def jx_ixor (x y : Int) : Int := (Int32.ofInt x ^^^ Int32.ofInt y).toInt
def jx_ishl (x y : Int) : Int := (Int32.ofInt x <<< (Int32.ofInt y &&& 31)).toInt
def jx_ishr (x y : Int) : Int := (Int32.ofInt x >>> (Int32.ofInt y &&& 31)).toInt
def jx_iushr (x y : Int) : Int := ((Int32.ofInt x).toUInt32 >>> ((Int32.ofInt y).toUInt32 &&& Int32.toUInt32 31)).toInt32.toInt
def jx_land (x y : Int) : Int := (Int64.ofInt x &&& Int64.ofInt y).toInt
def jx_lor (x y : Int) : Int := (Int64.ofInt x ||| Int64.ofInt y).toInt
def jx_lshl (x y : Int) : Int := (Int64.ofInt x <<< ((Int32.ofInt y).toInt64 &&& 63)).toInt
def jx_lshr (x y : Int) : Int := (Int64.ofInt x >>> ((Int32.ofInt y).toInt64 &&& 63)).toInt
def jx_lushr (x y : Int) : Int := ((Int64.ofInt x).toUInt64 >>> ((Int32.ofInt y).toInt64.toUInt64 &&& Int64.toUInt64 63)).toInt64.toInt
def jx_l2i (x : Int) : Int := (Int64.ofInt x).toInt32.toInt
def jx_i2b (x : Int) : Int := (Int32.ofInt x).toInt8.toInt32.toInt
def jx_i2s (x : Int) : Int := (Int32.ofInt x).toInt16.toInt32.toInt
-- taking values off the stack and out of the locals
def jx_pI {α : Type} (d : α) (st : List jx_V) (k : Int → List jx_V → α) : α := match st with
  | .inl x :: r => k x r
  | _ => d
def jx_pL {α : Type} (d : α) (st : List jx_V) (k : Int → List jx_V → α) : α := match st with
  | .inr (.inl x) :: r => k x r
  | _ => d
def jx_pA {α : Type} (d : α) (st : List jx_V) (k : Nat → Nat → List jx_V → α) : α := match st with
  | .inr (.inr q) :: r => k q.1 q.2 r
  | _ => d
def jx_lI {α : Type} (d : α) (ls : jx_L) (a : Nat) (k : Int → α) : α := match jx_nth ls a none with
  | some (.inl x) => k x
  | _ => d
def jx_lL {α : Type} (d : α) (ls : jx_L) (a : Nat) (k : Int → α) : α := match jx_nth ls a none with
  | some (.inr (.inl x)) => k x
  | _ => d
def jx_lA {α : Type} (d : α) (ls : jx_L) (a : Nat) (k : Nat → Nat → α) : α := match jx_nth ls a none with
  | some (.inr (.inr q)) => k q.1 q.2
  | _ => d
/-- a local may be written over if no long stands just ahead of it -/
def jx_cl {α : Type} (d : α) (ls : jx_L) (a : Nat) (k : α) : α := match a with
  | 0 => k
  | b + 1 => match jx_nth ls b none with
    | some (.inr (.inl _)) => d
    | _ => k
def jx_gA {α : Type} (gd : (c : Prop) → Decidable c → α → α) (ph : Bool) (n s i : Nat) (a : α) : α := match ph with
  | true => gd (i < jx_sC s) inferInstance a
  | false => gd (i < jx_sC s ∧ jx_pos s i < n) inferInstance a
def jx_gF {α : Type} (gd : (c : Prop) → Decidable c → α → α) (ph : Bool) (f : Int) (a : α) : α := match ph with
  | true => a
  | false => gd (f = 1) inferInstance a
def jx_cat (v : jx_V) : Nat := match v with
  | .inr (.inl _) => 2
  | _ => 1
def jx_cats : List jx_V → Nat
  | [] => 0
  | v :: l => jx_cat v + jx_cats l
def jx_tsw {α : Type} (br : (c : Prop) → Decidable c → α → α → α) (x : Int) (k : Nat → α) : Int → List Nat → Nat → α
  | _, [], b => k b
  | z, t :: ts, b => br (x = z) inferInstance (k t) (jx_tsw br x k (z + 1) ts b)
def jx_cond {α : Type} (br : (c : Prop) → Decidable c → α → α → α) (c : ClassFile.Cond) (x y : Int) (t f : α) : α := match c with
  | .eq => br (x = y) inferInstance t f
  | .ne => br (x = y) inferInstance f t
  | .lt => br (x < y) inferInstance t f
  | .ge => br (x < y) inferInstance f t
  | .gt => br (y < x) inferInstance t f
  | .le => br (y < x) inferInstance f t
def jx_call {α : Type} (d : α) (gd : (c : Prop) → Decidable c → α → α) (kc : Nat → List jx_V → List jx_V → α) (ph vir : Bool) (y : Nat) (st : List jx_V) (n : Nat) : α :=
  bif Nat.ble (jx_mA y) st.length && Nat.ble (jx_cats (st.drop (jx_mA y))) 8 then
    (match vir with
    | false => kc y (st.take (jx_mA y)).reverse (st.drop (jx_mA y))
    | true => jx_pA d (st.take (jx_mA y)).reverse (fun s j _ => bif Nat.beq (jx_sK s) 0 && Nat.beq (jx_sP s) (jx_mC y) then jx_gA gd ph n s j (kc y (st.take (jx_mA y)).reverse (st.drop (jx_mA y))) else d))
  else d
/-- one instruction, whatever its answer is wanted as -/
def jx_sem {α : Type} (d : α) (gd : (c : Prop) → Decidable c → α → α) (br : (c : Prop) → Decidable c → α → α → α)
    (kn : Nat → jx_L → List jx_V → Nat → jx_M → α) (kc : Nat → List jx_V → List jx_V → α)
    (ph : Bool) (r : jx_R) (i : Nat) (ls : jx_L) (st : List jx_V) (n : Nat) (m : jx_M) : α :=
  match r.1 with
  | .iconst _ => kn (i + 1) ls (xI r.2.2.2 :: st) n m
  | .bipush _ => kn (i + 1) ls (xI r.2.2.2 :: st) n m
  | .sipush _ => kn (i + 1) ls (xI r.2.2.2 :: st) n m
  | .ldc _ => kn (i + 1) ls (xI r.2.2.2 :: st) n m
  | .ldc_w _ => kn (i + 1) ls (xI r.2.2.2 :: st) n m
  | .lconst _ => kn (i + 1) ls (xL r.2.2.2 :: st) n m
  | .ldc2_w _ => kn (i + 1) ls (xL r.2.2.2 :: st) n m
  | .iload_n _ => jx_lI d ls r.2.1 (fun x => kn (i + 1) ls (xI x :: st) n m)
  | .iload _ => jx_lI d ls r.2.1 (fun x => kn (i + 1) ls (xI x :: st) n m)
  | .lload_n _ => jx_lL d ls r.2.1 (fun x => kn (i + 1) ls (xL x :: st) n m)
  | .lload _ => jx_lL d ls r.2.1 (fun x => kn (i + 1) ls (xL x :: st) n m)
  | .aload_n _ => jx_lA d ls r.2.1 (fun s j => kn (i + 1) ls (xA s j :: st) n m)
  | .aload _ => jx_lA d ls r.2.1 (fun s j => kn (i + 1) ls (xA s j :: st) n m)
  | .istore_n _ => jx_pI d st (fun x st => jx_cl d ls r.2.1 (kn (i + 1) (ls.set r.2.1 (some (xI x))) st n m))
  | .istore _ => jx_pI d st (fun x st => jx_cl d ls r.2.1 (kn (i + 1) (ls.set r.2.1 (some (xI x))) st n m))
  | .astore_n _ => jx_pA d st (fun s j st => jx_cl d ls r.2.1 (kn (i + 1) (ls.set r.2.1 (some (xA s j))) st n m))
  | .astore _ => jx_pA d st (fun s j st => jx_cl d ls r.2.1 (kn (i + 1) (ls.set r.2.1 (some (xA s j))) st n m))
  | .iinc _ _ => jx_lI d ls r.2.1 (fun x => jx_cl d ls r.2.1 (gd (jx_in (x + r.2.2.2)) inferInstance (kn (i + 1) (ls.set r.2.1 (some (xI (x + r.2.2.2)))) st n m)))
  | .iadd => jx_pI d st (fun y st => jx_pI d st (fun x st => gd (jx_in (x + y)) inferInstance (kn (i + 1) ls (xI (x + y) :: st) n m)))
  | .isub => jx_pI d st (fun y st => jx_pI d st (fun x st => gd (jx_in (x - y)) inferInstance (kn (i + 1) ls (xI (x - y) :: st) n m)))
  | .imul => jx_pI d st (fun y st => jx_pI d st (fun x st => gd (jx_in (x * y)) inferInstance (kn (i + 1) ls (xI (x * y) :: st) n m)))
  | .idiv => jx_pI d st (fun y st => jx_pI d st (fun x st => gd (0 ≤ x ∧ 0 < y) inferInstance (kn (i + 1) ls (xI (x / y) :: st) n m)))
  | .irem => jx_pI d st (fun y st => jx_pI d st (fun x st => gd (0 ≤ x ∧ 0 < y) inferInstance (kn (i + 1) ls (xI (x % y) :: st) n m)))
  | .ineg => jx_pI d st (fun x st => gd (jx_in (-x)) inferInstance (kn (i + 1) ls (xI (-x) :: st) n m))
  | .iand => jx_pI d st (fun y st => jx_pI d st (fun x st => kn (i + 1) ls (xI (jx_iand x y) :: st) n m))
  | .ior => jx_pI d st (fun y st => jx_pI d st (fun x st => kn (i + 1) ls (xI (jx_ior x y) :: st) n m))
  | .ixor => jx_pI d st (fun y st => jx_pI d st (fun x st => kn (i + 1) ls (xI (jx_ixor x y) :: st) n m))
  | .ishl => jx_pI d st (fun y st => jx_pI d st (fun x st => kn (i + 1) ls (xI (jx_ishl x y) :: st) n m))
  | .ishr => jx_pI d st (fun y st => jx_pI d st (fun x st => kn (i + 1) ls (xI (jx_ishr x y) :: st) n m))
  | .iushr => jx_pI d st (fun y st => jx_pI d st (fun x st => kn (i + 1) ls (xI (jx_iushr x y) :: st) n m))
  | .ladd => jx_pL d st (fun y st => jx_pL d st (fun x st => gd (jx_inL (x + y)) inferInstance (kn (i + 1) ls (xL (x + y) :: st) n m)))
  | .land => jx_pL d st (fun y st => jx_pL d st (fun x st => kn (i + 1) ls (xL (jx_land x y) :: st) n m))
  | .lor => jx_pL d st (fun y st => jx_pL d st (fun x st => kn (i + 1) ls (xL (jx_lor x y) :: st) n m))
  | .lshl => jx_pI d st (fun y st => jx_pL d st (fun x st => kn (i + 1) ls (xL (jx_lshl x y) :: st) n m))
  | .lshr => jx_pI d st (fun y st => jx_pL d st (fun x st => kn (i + 1) ls (xL (jx_lshr x y) :: st) n m))
  | .lushr => jx_pI d st (fun y st => jx_pL d st (fun x st => kn (i + 1) ls (xL (jx_lushr x y) :: st) n m))
  | .lcmp => jx_pL d st (fun y st => jx_pL d st (fun x st => kn (i + 1) ls (xI (jx_lcmp x y) :: st) n m))
  | .i2l => jx_pI d st (fun x st => kn (i + 1) ls (xL x :: st) n m)
  | .l2i => jx_pL d st (fun x st => kn (i + 1) ls (xI (jx_l2i x) :: st) n m)
  | .i2b => jx_pI d st (fun x st => kn (i + 1) ls (xI (jx_i2b x) :: st) n m)
  | .i2s => jx_pI d st (fun x st => kn (i + 1) ls (xI (jx_i2s x) :: st) n m)
  | .dup => jx_pA d st (fun s j st => kn (i + 1) ls (xA s j :: xA s j :: st) n m)
  | .pop => jx_pI d st (fun _ st => kn (i + 1) ls st n m)
  | .dup2 => jx_pI d st (fun x st => jx_pA d st (fun s j st => kn (i + 1) ls (xI x :: xA s j :: xI x :: xA s j :: st) n m))
  | .ifCond c _ => jx_pI d st (fun x st => jx_cond br c x 0 (kn r.2.1 ls st n m) (kn (i + 1) ls st n m))
  | .if_icmp c _ => jx_pI d st (fun y st => jx_pI d st (fun x st => jx_cond br c x y (kn r.2.1 ls st n m) (kn (i + 1) ls st n m)))
  | .goto _ => kn r.2.1 ls st n m
  | .tableswitch _ _ _ _ => jx_pI d st (fun x st => jx_tsw br x (fun t => kn t ls st n m) r.2.2.2 (jx_nth jx_tsws r.2.1 []) r.2.2.1)
  | .getfield _ => jx_pA d st (fun s j st => bif Nat.beq (jx_sK s) 0 && Nat.beq (jx_sP s) r.2.2.1 then
      jx_gA gd ph n s j (match jx_fT s r.2.1 with
        | (0, _, _, _) => kn (i + 1) ls (xI (m s j r.2.1) :: st) n m
        | (1, _, _, _) => kn (i + 1) ls (xI (m s j r.2.1) :: st) n m
        | (2, s', mode, b) => jx_gF gd ph (m s j r.2.1) (kn (i + 1) ls (xA s' (jx_ix mode b j) :: st) n m)
        | _ => d) else d)
  | .putfield _ => (match st with
      | .inl v :: st => jx_pA d st (fun s j st => bif Nat.beq (jx_sK s) 0 && Nat.beq (jx_sP s) r.2.2.1 then
          jx_gA gd ph n s j (match jx_fT s r.2.1 with
            | (0, _, _, _) => kn (i + 1) ls st n (jx_up m s j r.2.1 v)
            | (1, _, _, _) => gd (v = 0 ∨ v = 1) inferInstance (kn (i + 1) ls st n (jx_up m s j r.2.1 v))
            | _ => d) else d)
      | .inr (.inr q) :: st => jx_pA d st (fun s j st => bif Nat.beq (jx_sK s) 0 && Nat.beq (jx_sP s) r.2.2.1 then
          jx_gA gd ph n s j (match jx_fT s r.2.1, ph with
            | (2, s', mode, b), false => bif Nat.beq q.1 s' && Nat.beq q.2 (jx_ix mode b j) then kn (i + 1) ls st n (jx_up m s j r.2.1 1) else d
            | _, _ => d) else d)
      | _ => d)
  | .iaload => jx_pI d st (fun z st => jx_pA d st (fun s j st => bif ph && Nat.beq s 60 then gd (0 ≤ z ∧ z < m 61 0 0) inferInstance (kn (i + 1) ls (xI (m 60 0 z.toNat) :: st) n m)
      else gd (jx_sK s = 1 ∧ 0 ≤ z ∧ z < jx_sP s) inferInstance (jx_gA gd ph n s j (kn (i + 1) ls (xI (m s j z.toNat) :: st) n m))))
  | .iastore => jx_pI d st (fun v st => jx_pI d st (fun z st => jx_pA d st (fun s j st => gd (jx_sK s = 1 ∧ 0 ≤ z ∧ z < jx_sP s) inferInstance (jx_gA gd ph n s j (kn (i + 1) ls st n (jx_up m s j z.toNat v))))))
  | .aaload => jx_pI d st (fun z st => jx_pA d st (fun s j st => bif Nat.beq (jx_sK s) 2 then gd (0 ≤ z ∧ z < jx_sP s) inferInstance (jx_gA gd ph n s j (jx_gF gd ph (m s j z.toNat) (kn (i + 1) ls (xA (jx_sE s) (jx_el s j z) :: st) n m))) else d))
  | .aastore => jx_pA d st (fun s2 j2 st => jx_pI d st (fun z st => jx_pA d st (fun s j st => bif !ph && (Nat.beq (jx_sK s) 2 && (Nat.beq s2 (jx_sE s) && Nat.beq j2 (jx_el s j z))) then
      gd (0 ≤ z ∧ z < jx_sP s) inferInstance (jx_gA gd ph n s j (jx_gA gd ph n s2 j2 (kn (i + 1) ls st n (jx_up m s j z.toNat 1)))) else d)))
  | .arraylength => jx_pA d st (fun s j st => bif ph && Nat.beq s 60 then kn (i + 1) ls (xI (m 61 0 0) :: st) n m
      else gd (jx_sK s = 1) inferInstance (jx_gA gd ph n s j (kn (i + 1) ls (xI (jx_sP s) :: st) n m)))
  | .new _ => bif !ph && (Nat.blt n jx_lay.length && (Nat.beq (jx_sK (jx_nth jx_lay n (0, 0)).1) 0 && Nat.beq (jx_sP (jx_nth jx_lay n (0, 0)).1) r.2.1)) then
      kn (i + 1) ls (xA (jx_nth jx_lay n (0, 0)).1 (jx_nth jx_lay n (0, 0)).2 :: st) (n + 1) (jx_zero m (jx_nth jx_lay n (0, 0)).1 (jx_nth jx_lay n (0, 0)).2) else d
  | .newarray _ => jx_pI d st (fun z st => bif !ph && (Nat.blt n jx_lay.length && Nat.beq (jx_sK (jx_nth jx_lay n (0, 0)).1) 1) then
      gd (z = jx_sP (jx_nth jx_lay n (0, 0)).1) inferInstance (kn (i + 1) ls (xA (jx_nth jx_lay n (0, 0)).1 (jx_nth jx_lay n (0, 0)).2 :: st) (n + 1) (jx_zero m (jx_nth jx_lay n (0, 0)).1 (jx_nth jx_lay n (0, 0)).2)) else d)
  | .anewarray _ => jx_pI d st (fun z st => bif !ph && (Nat.blt n jx_lay.length && (Nat.beq (jx_sK (jx_nth jx_lay n (0, 0)).1) 2 && Nat.beq (jx_sP (jx_sE (jx_nth jx_lay n (0, 0)).1)) r.2.1)) then
      gd (z = jx_sP (jx_nth jx_lay n (0, 0)).1) inferInstance (kn (i + 1) ls (xA (jx_nth jx_lay n (0, 0)).1 (jx_nth jx_lay n (0, 0)).2 :: st) (n + 1) (jx_zero m (jx_nth jx_lay n (0, 0)).1 (jx_nth jx_lay n (0, 0)).2)) else d)
  | .invokevirtual _ => jx_call d gd kc ph true r.2.1 st n
  | .invokestatic _ => (match r.2.2.1 with
      | 3 => jx_pI d st (fun k st => jx_pI d st (fun dp st => jx_pA d st (fun t j2 st => jx_pI d st (fun sp st => jx_pA d st (fun s j st => bif Nat.ble (jx_cats st) 8 then
          gd ((jx_sK s = 1 ∧ jx_sK t = 1) ∧ (0 ≤ sp ∧ 0 ≤ dp ∧ 0 ≤ k) ∧ sp + k ≤ jx_sP s ∧ dp + k ≤ jx_sP t) inferInstance (jx_gA gd ph n s j (jx_gA gd ph n t j2 (kn (i + 1) ls st n (jx_cpy m s j sp.toNat t j2 dp.toNat k.toNat)))) else d)))))
      | 4 => jx_pI d st (fun y st => jx_pI d st (fun x st => bif Nat.ble (jx_cats st) 8 then kn (i + 1) ls (xI (min x y) :: st) n m else d))
      | 5 => jx_pI d st (fun x st => bif Nat.ble (jx_cats st) 8 then gd (jx_in (-x)) inferInstance (kn (i + 1) ls (xI (x.natAbs : Int) :: st) n m) else d)
      | _ => jx_call d gd kc ph false r.2.1 st n)
  | .invokespecial _ => (match r.2.2.1 with
      | 2 => jx_pA d st (fun _ _ st => bif Nat.ble (jx_cats st) 8 then kn (i + 1) ls st n m else d)
      | _ => jx_call d gd kc ph true r.2.1 st n)
  | _ => d
-- running
abbrev jx_S : Type := Nat × jx_L × List jx_V × Nat × jx_M
abbrev jx_Q : Type := jx_S ⊕ (Nat × List jx_V × List jx_V)
def jx_step (ph : Bool) (r : jx_R) (s : jx_S) : Option jx_Q :=
  jx_sem none (fun c h a => @ite _ c h a none) (fun c h a b => @ite _ c h a b) (fun i ls st n m => some (.inl (i, ls, st, n, m))) (fun y as rest => some (.inr (y, as, rest))) ph r s.1 s.2.1 s.2.2.1 s.2.2.2.1 s.2.2.2.2
def jx_isR (r : jx_R) : Bool := match r.1 with
  | .ireturn => true
  | .return_ => true
  | _ => false
def jx_isC (r : jx_R) : Bool := match r.1 with
  | .invokevirtual _ => true
  | .invokestatic _ => true
  | .invokespecial _ => true
  | _ => false
def jx_exp : List jx_V → jx_L
  | [] => []
  | v :: l => match v with
    | .inr (.inl z) => some (xL z) :: none :: jx_exp l
    | .inl z => some (xI z) :: jx_exp l
    | .inr (.inr q) => some (xA q.1 q.2) :: jx_exp l
def jx_pad : jx_L → Nat → jx_L
  | l, 0 => l
  | [], k + 1 => none :: jx_pad [] k
  | v :: l, k + 1 => v :: jx_pad l k
def jx_ent (y : Nat) (as : List jx_V) : jx_L := jx_pad (jx_exp as) (jx_mL y)
def jx_psh (y : Nat) (z : Int) (st : List jx_V) : List jx_V := match jx_mV y with
  | true => st
  | false => xI z :: st
/-- the answer at a return: void counts as 0; of a boolean method (code 1) the answer is 0 or 1 -/
def jx_rv (x : Nat) (r : jx_R) (st : List jx_V) : Option Int := match r.1, st with
  | .ireturn, [.inl v] => bif jx_mV x then none else bif r.2.1 == 1 then (if v = 0 ∨ v = 1 then some v else none) else some v
  | .return_, [] => bif jx_mV x then some 0 else none
  | _, _ => none
def jx_go (ph : Bool) : Nat → Nat → Nat → jx_S → Option jx_S
  | 0, _, _, _ => none
  | k + 1, x, stop, s => bif Nat.beq s.1 stop || jx_isR (jx_row x s.1) then some s else
    match jx_step ph (jx_row x s.1) s with
    | none => none
    | some (.inl s') => jx_go ph k x stop s'
    | some (.inr (y, as, rest)) => bif jx_isC (jx_row x s.1) && Nat.ble (jx_exp as).length (jx_mL y) then (match jx_go ph k y 100000 (0, jx_ent y as, [], s.2.2.2.1, s.2.2.2.2) with
      | none => none
      | some t => match jx_rv y (jx_row y t.1) t.2.2.1 with
        | none => none
        | some z => jx_go ph k x stop (s.1 + 1, s.2.1, jx_psh y z rest, t.2.2.2.1, t.2.2.2.2)) else none
