/-! numbers of the small machine and of the machine itself -/
theorem jn_ti {z : Int} (h : jx_in z) : (Int32.ofInt z).toInt = z := Int32.toInt_ofInt_of_le (by omega) (by omega)
theorem jn_tiL {z : Int} (h : jx_inL z) : (Int64.ofInt z).toInt = z := Int64.toInt_ofInt_of_le (by omega) (by omega)
theorem jn_rng (x : Int32) : jx_in x.toInt := by
  have h1 := Int32.le_toInt x
  have h2 := Int32.toInt_lt x
  exact ⟨by omega, by omega⟩
theorem jn_rngL (x : Int64) : jx_inL x.toInt := by
  have h1 := Int64.le_toInt x
  have h2 := Int64.toInt_lt x
  exact ⟨by omega, by omega⟩
theorem jn_lt {x y : Int} (hx : jx_in x) (hy : jx_in y) : Int32.ofInt x < Int32.ofInt y ↔ x < y := by rw [Int32.lt_iff_toInt_lt, jn_ti hx, jn_ti hy]
theorem jn_le {x y : Int} (hx : jx_in x) (hy : jx_in y) : Int32.ofInt x ≤ Int32.ofInt y ↔ x ≤ y := by rw [Int32.le_iff_toInt_le, jn_ti hx, jn_ti hy]
theorem jn_eq {x y : Int} (hx : jx_in x) (hy : jx_in y) : Int32.ofInt x = Int32.ofInt y ↔ x = y := by rw [← Int32.toInt_inj, jn_ti hx, jn_ti hy]
theorem jn_0 : (0 : Int32) = Int32.ofInt 0 := rfl
theorem jn_in0 : jx_in 0 := by omega
theorem jn_lt0 {x : Int} (hx : jx_in x) : Int32.ofInt x < 0 ↔ x < 0 := jn_lt hx jn_in0
theorem jn_0lt {x : Int} (hx : jx_in x) : 0 < Int32.ofInt x ↔ 0 < x := jn_lt jn_in0 hx
theorem jn_0le {x : Int} (hx : jx_in x) : 0 ≤ Int32.ofInt x ↔ 0 ≤ x := jn_le jn_in0 hx
theorem jn_le0 {x : Int} (hx : jx_in x) : Int32.ofInt x ≤ 0 ↔ x ≤ 0 := jn_le hx jn_in0
theorem jn_eq0 {x : Int} (hx : jx_in x) : Int32.ofInt x = 0 ↔ x = 0 := jn_eq hx jn_in0
theorem jn_nat {x : Int} (h : 0 ≤ x) : Int32.ofInt x = nI x.toNat := by
  have e : x = (x.toNat : Int) := by omega
  conv => lhs; rw [e, Int32.ofInt_eq_ofNat]
  rfl
theorem jn_cl {x : Int} (hx : jx_in x) : (Int32.ofInt x).toNatClampNeg = x.toNat := by
  show (Int32.ofInt x).toInt.toNat = x.toNat
  rw [jn_ti hx]
theorem jn_vin {x : Int} {n : Nat} (hx : jx_in x) (h0 : 0 ≤ x) (h : x < n) : vp_in (Int32.ofInt x) n := by
  unfold vp_in
  rw [jn_lt0 hx, jn_cl hx]
  omega
theorem jn_add (x y : Int) : Int32.ofInt (x + y) = Int32.ofInt x + Int32.ofInt y := by
  apply Int32.toInt_inj.mp
  simp [Int32.toInt_add]
theorem jn_sub (x y : Int) : Int32.ofInt (x - y) = Int32.ofInt x - Int32.ofInt y := by
  apply Int32.toInt_inj.mp
  simp [Int32.toInt_sub]
theorem jn_mul (x y : Int) : Int32.ofInt (x * y) = Int32.ofInt x * Int32.ofInt y := by
  apply Int32.toInt_inj.mp
  simp [Int32.toInt_mul]
theorem jn_neg (x : Int) : Int32.ofInt (-x) = -Int32.ofInt x := by
  apply Int32.toInt_inj.mp
  simp [Int32.toInt_neg]
theorem jn_div {x y : Int} (hx : jx_in x) (hy : jx_in y) (h0 : 0 ≤ x) (h1 : 0 < y) : Int32.ofInt (x / y) = Int32.ofInt x / Int32.ofInt y := by
  have e1 : x / y = ((x.toNat / y.toNat : Nat) : Int) := by
    have a : x = (x.toNat : Int) := by omega
    have b : y = (y.toNat : Int) := by omega
    conv => lhs; rw [a, b]
    exact (Int.natCast_ediv x.toNat y.toNat).symm
  rw [jn_nat h0, jn_nat (by omega : 0 ≤ y), pk_div (by omega) (by omega) (by omega), e1, Int32.ofInt_eq_ofNat]
  rfl
theorem jn_rem {x y : Int} (hx : jx_in x) (hy : jx_in y) (h0 : 0 ≤ x) (h1 : 0 < y) : Int32.ofInt (x % y) = Int32.ofInt x - Int32.ofInt x / Int32.ofInt y * Int32.ofInt y := by
  rw [← jn_div hx hy h0 h1, ← jn_mul, ← jn_sub]
  congr 1
  have := Int.emod_add_mul_ediv x y
  rw [Int.mul_comm] at this
  omega
theorem jn_div_in {x y : Int} (hx : jx_in x) (h0 : 0 ≤ x) (h1 : 0 < y) : jx_in (x / y) := by
  have a := Int.ediv_nonneg h0 (Int.le_of_lt h1)
  have b := Int.ediv_le_self (a := x) y h0
  omega
theorem jn_rem_in {x y : Int} (hy : jx_in y) (h1 : 0 < y) : jx_in (x % y) := by
  have a := Int.emod_nonneg x (by omega : y ≠ 0)
  have b := Int.emod_lt_of_pos x h1
  omega
theorem jn_addL (x y : Int) : Int64.ofInt (x + y) = Int64.ofInt x + Int64.ofInt y := by
  apply Int64.toInt_inj.mp
  simp [Int64.toInt_add]
theorem jn_i2l {x : Int} (hx : jx_in x) : (Int32.ofInt x).toInt64 = Int64.ofInt x := by
  apply Int64.toInt_inj.mp
  rw [Int32.toInt_toInt64, jn_ti hx, jn_tiL (by omega)]
theorem jn_lcmp {x y : Int} (hx : jx_inL x) (hy : jx_inL y) : lg_cmp (Int64.ofInt x) (Int64.ofInt y) = Int32.ofInt (jx_lcmp x y) := by
  unfold lg_cmp jx_lcmp
  simp only [gt_iff_lt, Int64.lt_iff_toInt_lt, ← Int64.toInt_inj, jn_tiL hx, jn_tiL hy]
  by_cases h1 : y < x
  · rw [if_pos h1, if_neg (by omega), if_pos h1]; rfl
  · by_cases h2 : x = y
    · rw [if_neg h1, if_pos h2, if_neg (by omega), if_neg (by omega)]; rfl
    · rw [if_neg h1, if_neg h2, if_pos (by omega)]; rfl
theorem jn_lcmp_in (x y : Int) : jx_in (jx_lcmp x y) := by
  unfold jx_lcmp
  split
  · omega
  · split <;> omega
theorem jn_abs {x : Int} (hx : jx_in x) : Int32.ofInt (x.natAbs : Int) = if 0 ≤ Int32.ofInt x then Int32.ofInt x else 0 - Int32.ofInt x := by
  rw [jn_0, ← jn_sub]
  by_cases h : 0 ≤ x
  · rw [if_pos ((jn_le jn_in0 hx).mpr h)]
    congr 1
    omega
  · rw [if_neg (fun q => h ((jn_le jn_in0 hx).mp q))]
    congr 1
    omega
theorem jn_min {x y : Int} (hx : jx_in x) (hy : jx_in y) : Int32.ofInt (min x y) = if Int32.ofInt y < Int32.ofInt x then Int32.ofInt y else Int32.ofInt x := by
  by_cases h : y < x
  · rw [if_pos ((jn_lt hy hx).mpr h)]
    congr 1
    omega
  · rw [if_neg (fun q => h ((jn_lt hy hx).mp q))]
    congr 1
    omega
-- taking apart what the small machine answered
theorem ji_pI {α : Type} {st : List jx_V} {k : Int → List jx_V → Option α} {q : α} (h : jx_pI none st k = some q) : ∃ x r, st = xI x :: r ∧ k x r = some q := by
  unfold jx_pI at h
  split at h
  · exact ⟨_, _, rfl, h⟩
  · cases h
theorem ji_pL {α : Type} {st : List jx_V} {k : Int → List jx_V → Option α} {q : α} (h : jx_pL none st k = some q) : ∃ x r, st = xL x :: r ∧ k x r = some q := by
  unfold jx_pL at h
  split at h
  · exact ⟨_, _, rfl, h⟩
  · cases h
theorem ji_pA {α : Type} {st : List jx_V} {k : Nat → Nat → List jx_V → Option α} {q : α} (h : jx_pA none st k = some q) : ∃ s j r, st = xA s j :: r ∧ k s j r = some q := by
  unfold jx_pA at h
  split at h
  · exact ⟨_, _, _, rfl, h⟩
  · cases h
theorem ji_lI {α : Type} {ls : jx_L} {a : Nat} {k : Int → Option α} {q : α} (h : jx_lI none ls a k = some q) : ∃ x, jx_nth ls a none = some (xI x) ∧ k x = some q := by
  unfold jx_lI at h
  split at h
  · rename_i e; exact ⟨_, e, h⟩
  · cases h
theorem ji_lL {α : Type} {ls : jx_L} {a : Nat} {k : Int → Option α} {q : α} (h : jx_lL none ls a k = some q) : ∃ x, jx_nth ls a none = some (xL x) ∧ k x = some q := by
  unfold jx_lL at h
  split at h
  · rename_i e; exact ⟨_, e, h⟩
  · cases h
theorem ji_lA {α : Type} {ls : jx_L} {a : Nat} {k : Nat → Nat → Option α} {q : α} (h : jx_lA none ls a k = some q) : ∃ s j, jx_nth ls a none = some (xA s j) ∧ k s j = some q := by
  unfold jx_lA at h
  split at h
  · rename_i e; exact ⟨_, _, e, h⟩
  · cases h
theorem ji_cl {α : Type} {ls : jx_L} {a : Nat} {k : Option α} {q : α} (h : jx_cl none ls a k = some q) : (∀ b z, b + 1 = a → jx_nth ls b none ≠ some (xL z)) ∧ k = some q := by
  unfold jx_cl at h
  split at h
  · exact ⟨fun b z e => by omega, h⟩
  · rename_i a b
    split at h
    · cases h
    · rename_i h1
      exact ⟨fun b' z e => by obtain rfl : b' = b := by omega
                              exact h1 z, h⟩
theorem ji_if {α : Type} {c : Prop} {hd : Decidable c} {a : Option α} {q : α} (h : @ite _ c hd a none = some q) : c ∧ a = some q := by
  by_cases hc : c
  · rw [if_pos hc] at h; exact ⟨hc, h⟩
  · rw [if_neg hc] at h; cases h
theorem ji_bif {α : Type} {c : Bool} {a : Option α} {q : α} (h : (bif c then a else none) = some q) : c = true ∧ a = some q := by
  cases c
  · cases h
  · exact ⟨rfl, h⟩
theorem ji_gA {α : Type} {ph : Bool} {n s i : Nat} {a : Option α} {q : α} (h : jx_gA (fun c hd a => @ite _ c hd a none) ph n s i a = some q) : i < jx_sC s ∧ (ph = false → jx_pos s i < n) ∧ a = some q := by
  cases ph
  · obtain ⟨⟨h1, h2⟩, h3⟩ := ji_if h
    exact ⟨h1, fun _ => h2, h3⟩
  · obtain ⟨h1, h3⟩ := ji_if h
    exact ⟨h1, fun e => (by cases e), h3⟩
theorem ji_gF {α : Type} {ph : Bool} {f : Int} {a : Option α} {q : α} (h : jx_gF (fun c hd a => @ite _ c hd a none) ph f a = some q) : (ph = true ∨ f = 1) ∧ a = some q := by
  cases ph
  · obtain ⟨h1, h3⟩ := ji_if h
    exact ⟨Or.inr h1, h3⟩
  · exact ⟨Or.inl rfl, h⟩
theorem ji_and {a b : Bool} (h : (a && b) = true) : a = true ∧ b = true := by
  cases a
  · cases h
  · exact ⟨rfl, h⟩
theorem ji_beq {a b : Nat} (h : Nat.beq a b = true) : a = b := Nat.eq_of_beq_eq_true h
-- lists by places
theorem jl_nth_set {β : Type} (d v : β) : ∀ (l : List β) (a k : Nat), a < l.length → jx_nth (l.set a v) k d = if k = a then v else jx_nth l k d
  | [], a, k, h => by simp at h
  | x :: l, 0, 0, h => by simp [jx_nth]
  | x :: l, 0, k + 1, h => by simp [jx_nth]
  | x :: l, a + 1, 0, h => by simp [jx_nth]
  | x :: l, a + 1, k + 1, h => by
    have := jl_nth_set d v l a k (by simpa using h)
    simp [jx_nth, this]
theorem jl_nth_get {β : Type} (d : β) : ∀ (l : List β) (k : Nat), k < l.length → l[k]? = some (jx_nth l k d)
  | [], k, h => by simp at h
  | x :: l, 0, h => by simp [jx_nth]
  | x :: l, k + 1, h => by simpa [jx_nth] using jl_nth_get d l k (by simpa using h)
theorem jl_nth_out {β : Type} (d : β) : ∀ (l : List β) (k : Nat), l.length ≤ k → jx_nth l k d = d
  | [], k, h => by cases k <;> rfl
  | x :: l, 0, h => by simp at h
  | x :: l, k + 1, h => by simpa [jx_nth] using jl_nth_out d l k (by simpa using h)
