/-! WHAT A TOWN IS, apart from where it lies: a description d (d 0 0 c noise; d 1 0: 0 sellers, 1 buyers, 2 windows, 3 likeness, 4 bylaws; d 2 s: 0 kind, 1 loud, 2 begin, 3 pace, 4 corners, 5 notes; d 3 s i corner; d 4 s i note; d 5 b: corner, kind, floor, patience; d 6 w: corner, minute, heard) -/
def dt_sum (f : Nat → Int) : Nat → Int
  | 0 => 0
  | n + 1 => dt_sum f n + f n
def dt_lift (d : jx_M) (s : Nat) : Int := dt_sum (d 4 s) (d 2 s 5).toNat / d 2 s 5 / 3
def dt_wS (d : jx_M) (s : Nat) : Prop := (0 ≤ d 2 s 0 ∧ d 2 s 0 ≤ 3) ∧ (1 ≤ d 2 s 1 ∧ d 2 s 1 ≤ 9) ∧ (0 ≤ d 2 s 2 ∧ d 2 s 2 ≤ 119) ∧ (1 ≤ d 2 s 3 ∧ d 2 s 3 ≤ 5) ∧ (1 ≤ d 2 s 4 ∧ d 2 s 4 ≤ 12) ∧ (1 ≤ d 2 s 5 ∧ d 2 s 5 ≤ 6) ∧ (∀ i : Nat, (i : Int) < d 2 s 4 → 0 ≤ d 3 s i ∧ d 3 s i ≤ 24) ∧ (∀ i : Nat, (i : Int) < d 2 s 5 → 0 ≤ d 4 s i ∧ d 4 s i ≤ 9)
def dt_wB (d : jx_M) (b : Nat) : Prop := (0 ≤ d 5 b 0 ∧ d 5 b 0 ≤ 24) ∧ (0 ≤ d 5 b 1 ∧ d 5 b 1 ≤ 3) ∧ (0 ≤ d 5 b 2 ∧ d 5 b 2 ≤ 5) ∧ (0 ≤ d 5 b 3 ∧ d 5 b 3 ≤ 20)
def dt_wW (d : jx_M) (w : Nat) : Prop := (0 ≤ d 6 w 0 ∧ d 6 w 0 ≤ 24) ∧ (0 ≤ d 6 w 1 ∧ d 6 w 1 ≤ 119) ∧ (d 6 w 2 = 0 ∨ d 6 w 2 = 1)
def dt_w (d : jx_M) : Prop := (∀ c, c < 25 → 0 ≤ d 0 0 c ∧ d 0 0 c ≤ 9) ∧ (0 ≤ d 1 0 0 ∧ d 1 0 0 ≤ 6) ∧ (0 ≤ d 1 0 1 ∧ d 1 0 1 ≤ 12) ∧ (0 ≤ d 1 0 2 ∧ d 1 0 2 ≤ 12) ∧ (0 ≤ d 1 0 3 ∧ d 1 0 3 ≤ 20) ∧ (0 ≤ d 1 0 4 ∧ d 1 0 4 ≤ 15) ∧
  (∀ s : Nat, (s : Int) < d 1 0 0 → dt_wS d s) ∧ (∀ b : Nat, (b : Int) < d 1 0 1 → dt_wB d b) ∧ (∀ w : Nat, (w : Int) < d 1 0 2 → dt_wW d w)
/-- a seller of the class at number j is seller s of the description -/
def rc_S (m : jx_M) (j : Nat) (d : jx_M) (s : Nat) : Prop := m 6 j 4 = d 2 s 0 ∧ m 6 j 5 = d 2 s 1 ∧ m 6 j 6 = d 2 s 2 ∧ m 6 j 7 = d 2 s 3 ∧ m 6 j 2 = d 2 s 4 ∧ m 6 j 3 = d 2 s 5 ∧ m 6 j 8 = dt_lift d s ∧ (∀ i : Nat, (i : Int) < d 2 s 4 → m 7 j i = d 3 s i) ∧ (∀ i : Nat, (i : Int) < d 2 s 5 → m 8 j i = d 4 s i)
/-- town t of the class is as described -/
def rc_T (m : jx_M) (t : Nat) (d : jx_M) : Prop := (∀ c, c < 25 → m 2 t c = d 0 0 c) ∧ m 1 t 4 = d 1 0 0 ∧ m 1 t 5 = d 1 0 1 ∧ m 1 t 6 = d 1 0 2 ∧ m 1 t 7 = d 1 0 3 ∧ m 1 t 8 = d 1 0 4 ∧ (∀ s : Nat, (s : Int) < d 1 0 0 → rc_S m (6 * t + s) d s) ∧ (∀ b : Nat, (b : Int) < d 1 0 1 → ∀ k, k < 4 → m 9 (12 * t + b) k = d 5 b k) ∧ (∀ w : Nat, (w : Int) < d 1 0 2 → ∀ k, k < 3 → m 10 (12 * t + w) k = d 6 w k)
/-- the reference's arrays are as described -/
def rm_T (m : jx_M) (d : jx_M) : Prop := (∀ c, c < 25 → m 27 0 c = d 0 0 c) ∧ m 26 0 1 = d 1 0 0 ∧ m 26 0 7 = d 1 0 1 ∧ m 26 0 9 = d 1 0 2 ∧ m 26 0 5 = d 1 0 3 ∧ m 26 0 6 = d 1 0 4 ∧
  (∀ s : Nat, (s : Int) < d 1 0 0 → (∀ k, k < 4 → m 28 0 (4 * s + k) = d 2 s k) ∧ m 29 0 (13 * s) = d 2 s 4 ∧ m 30 0 (7 * s) = d 2 s 5 ∧ (∀ i : Nat, (i : Int) < d 2 s 4 → m 29 0 (13 * s + 1 + i) = d 3 s i) ∧ (∀ i : Nat, (i : Int) < d 2 s 5 → m 30 0 (7 * s + 1 + i) = d 4 s i)) ∧
  (∀ b : Nat, (b : Int) < d 1 0 1 → ∀ k, k < 4 → m 31 0 (4 * b + k) = d 5 b k) ∧ (∀ w : Nat, (w : Int) < d 1 0 2 → ∀ k, k < 3 → m 32 0 (3 * w + k) = d 6 w k)
-- WHAT IS ASKED OF A DESCRIPTION
def sp_far (a b : Int) : Int := ((a / 5 - b / 5).natAbs : Int) + ((a % 5 - b % 5).natAbs : Int)
def sp_pl (d : jx_M) (s : Nat) (t : Int) : Int := if t - d 2 s 2 < 0 then -4 else if (t - d 2 s 2) / d 2 s 3 < d 2 s 4 then d 3 s ((t - d 2 s 2) / d 2 s 3).toNat else -4
def sp_arr (d : jx_M) (s : Nat) (t : Int) : Prop := 0 ≤ t - d 2 s 2 ∧ (t - d 2 s 2) % d 2 s 3 = 0 ∧ (t - d 2 s 2) / d 2 s 3 < d 2 s 4
/-- a bylaw is in force: the k-th bit -/
def sp_by (d : jx_M) (k : Nat) : Prop := (d 1 0 4 / 2 ^ k) % 2 = 1
-- numbers
theorem jb_and {y : Int} (h0 : 0 ≤ y) (h1 : y ≤ 15) : (jx_iand y 1 = if y % 2 = 1 then 1 else 0) ∧ (jx_iand y 2 = if (y / 2) % 2 = 1 then 2 else 0) ∧ (jx_iand y 4 = if (y / 4) % 2 = 1 then 4 else 0) ∧ (jx_iand y 8 = if (y / 8) % 2 = 1 then 8 else 0) := by
  obtain ⟨n, rfl⟩ : ∃ n : Nat, y = (n : Int) := ⟨y.toNat, by omega⟩
  have hn : n < 16 := by omega
  have key : ∀ n : Fin 16, (jx_iand (n.val : Int) 1 = if (n.val : Int) % 2 = 1 then 1 else 0) ∧ (jx_iand (n.val : Int) 2 = if ((n.val : Int) / 2) % 2 = 1 then 2 else 0) ∧ (jx_iand (n.val : Int) 4 = if ((n.val : Int) / 4) % 2 = 1 then 4 else 0) ∧ (jx_iand (n.val : Int) 8 = if ((n.val : Int) / 8) % 2 = 1 then 8 else 0) := by decide +kernel
  exact key ⟨n, hn⟩
-- small methods of the class
theorem cl_11 {a : Int} {m : jx_M} {Q : Int → jx_M → Prop} (h1 : 0 ≤ a ∧ a < 25 → Q 1 m) (h0 : ¬ (0 ≤ a ∧ a < 25) → Q 0 m) : jx_Cl 11 [xI a] m Q :=
  sg_11 a m Q ⟨fun h => ⟨by omega, h0 (by omega)⟩, fun h => ⟨fun h2 => ⟨by omega, h1 (by omega)⟩, fun h2 => ⟨by omega, h0 (by omega)⟩⟩⟩
theorem cl_12 {a b c : Int} {m : jx_M} {Q : Int → jx_M → Prop} (h1 : b ≤ a ∧ a ≤ c → Q 1 m) (h0 : ¬ (b ≤ a ∧ a ≤ c) → Q 0 m) : jx_Cl 12 [xI a, xI b, xI c] m Q :=
  sg_12 a b c m Q ⟨fun h => ⟨by omega, h0 (by omega)⟩, fun h => ⟨fun h2 => ⟨by omega, h0 (by omega)⟩, fun h2 => ⟨by omega, h1 (by omega)⟩⟩⟩
theorem cl_14 {a : Int} {m : jx_M} {Q : Int → jx_M → Prop} (h1 : 0 ≤ a ∧ a < 4 → Q 1 m) (h0 : ¬ (0 ≤ a ∧ a < 4) → Q 0 m) : jx_Cl 14 [xI a] m Q :=
  sg_14 a m Q ⟨fun h => ⟨by omega, h0 (by omega)⟩, fun h => ⟨fun h2 => ⟨by omega, h1 (by omega)⟩, fun h2 => ⟨by omega, h0 (by omega)⟩⟩⟩
theorem cl_15 {a : Int} {m : jx_M} {Q : Int → jx_M → Prop} (h1 : 1 ≤ a ∧ a ≤ 9 → Q 1 m) (h0 : ¬ (1 ≤ a ∧ a ≤ 9) → Q 0 m) : jx_Cl 15 [xI a] m Q :=
  sg_15 a m Q ⟨fun h => ⟨by omega, h0 (by omega)⟩, fun h => ⟨fun h2 => ⟨by omega, h0 (by omega)⟩, fun h2 => ⟨by omega, h1 (by omega)⟩⟩⟩
theorem cl_21 {a : Int} {m : jx_M} {Q : Int → jx_M → Prop} (h1 : 0 ≤ a ∧ a < 120 → Q 1 m) (h0 : ¬ (0 ≤ a ∧ a < 120) → Q 0 m) : jx_Cl 21 [xI a] m Q :=
  sg_21 a m Q ⟨fun h => ⟨by omega, h0 (by omega)⟩, fun h => ⟨fun h2 => ⟨by omega, h1 (by omega)⟩, fun h2 => ⟨by omega, h0 (by omega)⟩⟩⟩
theorem cl_57 {a : Int} {m : jx_M} {Q : Int → jx_M → Prop} (h1 : 0 ≤ a ∧ a < 4 → Q 1 m) (h0 : ¬ (0 ≤ a ∧ a < 4) → Q 0 m) : jx_Cl 57 [xI a] m Q :=
  sg_57 a m Q ⟨fun h => ⟨by omega, h0 (by omega)⟩, fun h => ⟨fun h2 => ⟨by omega, h1 (by omega)⟩, fun h2 => ⟨by omega, h0 (by omega)⟩⟩⟩
theorem cl_107 {a : Int} {m : jx_M} {Q : Int → jx_M → Prop} (h1 : 0 ≤ a ∧ a < 4 → Q 1 m) (h0 : ¬ (0 ≤ a ∧ a < 4) → Q 0 m) : jx_Cl 107 [xI a] m Q :=
  sg_107 a m Q ⟨fun h => ⟨by omega, h0 (by omega)⟩, fun h => ⟨fun h2 => ⟨by omega, h1 (by omega)⟩, fun h2 => ⟨by omega, h0 (by omega)⟩⟩⟩
theorem cl_108 {a : Int} {m : jx_M} {Q : Int → jx_M → Prop} (h1 : 0 ≤ a ∧ a < 3 → Q 1 m) (h0 : ¬ (0 ≤ a ∧ a < 3) → Q 0 m) : jx_Cl 108 [xI a] m Q :=
  sg_108 a m Q ⟨fun h => ⟨by omega, h0 (by omega)⟩, fun h => ⟨fun h2 => ⟨by omega, h1 (by omega)⟩, fun h2 => ⟨by omega, h0 (by omega)⟩⟩⟩
theorem cl_36 {a b : Int} {m : jx_M} {Q : Int → jx_M → Prop} (ha : 0 ≤ a ∧ a < 25) (hb : 0 ≤ b ∧ b < 25) (hq : Q (sp_far a b) m) : jx_Cl 36 [xI a, xI b] m Q := by
  refine sg_36 a b m Q ?_
  repeat (refine ⟨by omega, ?_⟩)
  exact hq
/-- a number divided by a pace -/
theorem jb_div {g p : Int} (hg : 0 ≤ g) (hp : 1 ≤ p) : 0 ≤ g / p := Int.ediv_nonneg hg (by omega)
theorem cl_43 {d : jx_M} {j s : Nat} {a : Int} {m : jx_M} {Q : Int → jx_M → Prop} (hj : j < 18) (hw : dt_wS d s) (hr : rc_S m j d s) (ha : 0 ≤ a ∧ a < 120) (hq : Q (sp_pl d s a) m) : jx_Cl 43 [xA 6 j, xI a] m Q := by
  obtain ⟨r1, r2, r3, r4, r5, r6, r7, r8, r9⟩ := hr
  obtain ⟨w1, w2, w3, w4, w5, w6, w7, w8⟩ := hw
  refine sg_43 j a m Q ?_
  unfold sp_pl at hq
  rw [r3, r4, r5]
  refine ⟨hj, by omega, fun h => ?_, fun h => ⟨hj, fun h2 => by omega, fun h2 => ⟨hj, by omega, hj, fun h3 => ⟨hj, ⟨rfl, ?_, ?_⟩, hj, ?_⟩, fun h3 => ?_⟩⟩⟩
  · rw [if_pos h] at hq; exact hq
  · exact jb_div (by omega) (by omega)
  · omega
  · rw [if_neg h, if_pos h3] at hq
    have := jb_div (g := a - d 2 s 2) (p := d 2 s 3) (by omega) (by omega)
    rw [r8 _ (by omega)]
    exact hq
  · rw [if_neg h, if_neg h3] at hq; exact hq
theorem cl_49 {d : jx_M} {j s : Nat} {a : Int} {m : jx_M} {Q : Int → jx_M → Prop} (hj : j < 18) (hw : dt_wS d s) (hr : rc_S m j d s) (ha : 0 ≤ a ∧ a < 120) (h1 : sp_arr d s a → Q 1 m) (h0 : ¬ sp_arr d s a → Q 0 m) : jx_Cl 49 [xA 6 j, xI a] m Q := by
  obtain ⟨r1, r2, r3, r4, r5, r6, r7, r8, r9⟩ := hr
  obtain ⟨w1, w2, w3, w4, w5, w6, w7, w8⟩ := hw
  refine sg_49 j a m Q ?_
  unfold sp_arr at h1 h0
  rw [r3, r4, r5]
  exact ⟨hj, by omega, fun h => ⟨by omega, h0 (by omega)⟩, fun h => ⟨hj, fun h2 => by omega, fun h2 => ⟨hj, by omega, fun h3 => ⟨hj, by omega, hj, fun h4 => ⟨by omega, h1 (by omega)⟩, fun h4 => ⟨by omega, h0 (by omega)⟩⟩, fun h3 => ⟨by omega, h0 (by omega)⟩⟩⟩⟩
