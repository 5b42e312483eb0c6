/-! what is typed -/
theorem bv_s (X : BitVec 64) (s : Nat) (hs : s ≤ 56) : (X.sshiftRight s &&& 255#64).toNat = X.toNat / 2 ^ s % 256 := by
  apply Nat.eq_of_testBit_eq
  intro i
  have h255 : (255#64).getLsbD i = decide (i < 8) := Nat.testBit_two_pow_sub_one 8 i
  rw [show (256 : Nat) = 2 ^ 8 from rfl, Nat.testBit_mod_two_pow, Nat.testBit_div_two_pow, BitVec.testBit_toNat, BitVec.getLsbD_and, BitVec.getLsbD_sshiftRight, BitVec.testBit_toNat, h255]
  by_cases h : i < 8
  · simp [h, show i < 64 by omega, show s + i < 64 by omega, Nat.add_comm]
  · simp [h]
theorem bv_u (X : BitVec 64) (s : Nat) : ((X >>> s).signExtend 32 &&& 255#32).toNat = X.toNat / 2 ^ s % 256 := by
  apply Nat.eq_of_testBit_eq
  intro i
  have h255 : (255#32).getLsbD i = decide (i < 8) := Nat.testBit_two_pow_sub_one 8 i
  rw [show (256 : Nat) = 2 ^ 8 from rfl, Nat.testBit_mod_two_pow, Nat.testBit_div_two_pow, BitVec.testBit_toNat, BitVec.getLsbD_and, BitVec.getLsbD_signExtend, BitVec.getLsbD_ushiftRight, BitVec.testBit_toNat, h255]
  by_cases h : i < 8
  · simp [h, show i < 32 by omega, show i < 64 by omega, Nat.add_comm]
  · simp [h]
/-- a byte of a word -/
def by_t (w : Int) (k : Nat) : Int := (((BitVec.ofInt 64 w).toNat / 2 ^ (8 * k) % 256 : Nat) : Int)
theorem by_m {w : Int} {k : Nat} (hk : k < 8) : jx_land (jx_lshr w (8 * (k : Int))) 255 = by_t w k := by
  have key : (((Int32.ofInt (8 * (k : Int))).toInt64 &&& 63).toBitVec.smod 64).toNat = 8 * k := by
    have all : ∀ n : Fin 8, (((Int32.ofInt (8 * (n.val : Int))).toInt64 &&& 63).toBitVec.smod 64).toNat = 8 * n.val := by decide +kernel
    exact all ⟨k, hk⟩
  unfold jx_land jx_lshr by_t
  rw [Int64.ofInt_toInt]
  have h : (Int64.ofInt w >>> ((Int32.ofInt (8 * (k : Int))).toInt64 &&& 63) &&& Int64.ofInt 255).toBitVec = (BitVec.ofInt 64 w).sshiftRight (((Int32.ofInt (8 * (k : Int))).toInt64 &&& 63).toBitVec.smod 64).toNat &&& 255#64 := rfl
  rw [key] at h
  have hs := bv_s (BitVec.ofInt 64 w) (8 * k) (by omega)
  show (Int64.ofInt w >>> ((Int32.ofInt (8 * (k : Int))).toInt64 &&& 63) &&& Int64.ofInt 255).toBitVec.toInt = _
  rw [h, BitVec.toInt_eq_toNat_of_lt (by rw [hs]; omega), hs]
theorem by_c {w : Int} {k : Nat} (hk : k < 8) : jx_iand (jx_l2i (jx_lushr w (8 * (k : Int)))) 255 = by_t w k := by
  have key : (((Int32.ofInt (8 * (k : Int))).toInt64.toUInt64 &&& Int64.toUInt64 63) % 64).toBitVec.toNat = 8 * k := by
    have all : ∀ n : Fin 8, (((Int32.ofInt (8 * (n.val : Int))).toInt64.toUInt64 &&& Int64.toUInt64 63) % 64).toBitVec.toNat = 8 * n.val := by decide +kernel
    exact all ⟨k, hk⟩
  unfold jx_iand jx_l2i jx_lushr by_t
  rw [Int64.ofInt_toInt, Int32.ofInt_toInt]
  have h : (((Int64.ofInt w).toUInt64 >>> ((Int32.ofInt (8 * (k : Int))).toInt64.toUInt64 &&& Int64.toUInt64 63)).toInt64.toInt32 &&& Int32.ofInt 255).toBitVec = ((BitVec.ofInt 64 w) >>> (((Int32.ofInt (8 * (k : Int))).toInt64.toUInt64 &&& Int64.toUInt64 63) % 64).toBitVec.toNat).signExtend 32 &&& 255#32 := rfl
  rw [key] at h
  have hs := bv_u (BitVec.ofInt 64 w) (8 * k)
  show (((Int64.ofInt w).toUInt64 >>> ((Int32.ofInt (8 * (k : Int))).toInt64.toUInt64 &&& Int64.toUInt64 63)).toInt64.toInt32 &&& Int32.ofInt 255).toBitVec.toInt = _
  rw [h, BitVec.toInt_eq_toNat_of_lt (by rw [hs]; omega), hs]
theorem by_l {w : Int} {k : Nat} : jx_l2i (by_t w k) = by_t w k := by
  have all : ∀ n : Fin 256, jx_l2i (n.val : Int) = (n.val : Int) := by decide +kernel
  exact all ⟨(BitVec.ofInt 64 w).toNat / 2 ^ (8 * k) % 256, by omega⟩
def ty_ok (v : Int) : Prop := 32 ≤ v ∧ v ≤ 126
def ty_P (w : Int) (n : Nat) : Prop := ∀ k : Nat, k < n → ty_ok (by_t w k)
theorem cl_24 {w : Int} {k : Nat} {m : jx_M} {Q : Int → jx_M → Prop} (hk : k < 8) (hq : Q (by_t w k) m) : jx_Cl 24 [xL w, xI (k : Int)] m Q := by
  refine sg_24 w k m Q ⟨by omega, ?_⟩
  rw [by_c hk]
  exact hq
theorem lp_23 {w : Int} {n : Nat} {m : jx_M} {Q : Int → jx_M → Prop} (hn : n ≤ 8) (h1 : ty_P w n → Q 1 m) (h0 : ¬ ty_P w n → Q 0 m) :
    ∀ (s k : Nat) (w4 : Option jx_V), k + s = n → (∀ j : Nat, j < k → ty_ok (by_t w j)) → jx_AW 23 2 [some (xL w), none, some (xI (n : Int)), some (xI (k : Int)), w4] [] m Q := by
  intro s
  induction s with
  | zero =>
    intro k w4 hk h
    exact sg_23_2 w n k w4 m Q ⟨fun z => by omega, fun _ => ⟨by omega, h1 (fun j hj => h j (by omega))⟩⟩
  | succ s ih =>
    intro k w4 hk h
    refine sg_23_2 w n k w4 m Q ⟨fun _ => cl_24 (by omega) ⟨fun z => ⟨by omega, h0 (fun q => ?_)⟩, fun z => ⟨fun z2 => ⟨by omega, h0 (fun q => ?_)⟩, fun z2 => ⟨by omega, ih (k + 1) _ (by omega) (fun j hj => ?_)⟩⟩⟩, fun z => by omega⟩
    · have := (q k (by omega)).1; omega
    · have := (q k (by omega)).2; omega
    · rcases Nat.lt_or_ge j k with q | q
      · exact h j q
      · obtain rfl : j = k := by omega
        exact ⟨by omega, by omega⟩
/-- what is typed behind what was -/
def q_ty (q : jx_M) (L n : Nat) (w : Int) : jx_M := fun a b c => if a = 1 ∧ b = 0 ∧ c = 0 then ((L + n : Nat) : Int) else if a = 1 ∧ b = 1 ∧ L ≤ c then by_t w (n - 1 - (c - L)) else q a b c
theorem lp_25 {w : Int} {n L : Nat} {m : jx_M} {Q : Int → jx_M → Prop} (hn : n ≤ 8) (hL : L + n ≤ 60) (K : ∀ m2, (∀ s i j, ¬ (s = 20 ∧ i = 0 ∧ j = 1) → ¬ (s = 21 ∧ i = 0 ∧ L ≤ j) → m2 s i j = m s i j) → m2 20 0 1 = ((L + n : Nat) : Int) → (∀ j : Nat, j < n → m2 21 0 (L + j) = by_t w (n - 1 - j)) → Q ((L + n : Nat) : Int) m2) :
    ∀ (s k : Nat) (m1 : jx_M) (b4 : Int), k + s = n → b4 = (n : Int) - 1 - k → (∀ s i j, ¬ (s = 20 ∧ i = 0 ∧ j = 1) → ¬ (s = 21 ∧ i = 0 ∧ L ≤ j) → m1 s i j = m s i j) → m1 20 0 1 = ((L + k : Nat) : Int) → (∀ j : Nat, j < k → m1 21 0 (L + j) = by_t w (n - 1 - j)) → jx_AW 25 12 [some (xA 20 0), some (xL w), none, some (xI (n : Int)), some (xI b4)] [] m1 Q := by
  intro s
  induction s with
  | zero =>
    intro k m1 b4 hk hb hf hc h
    obtain rfl : k = n := by omega
    refine sg_25_12 w k b4 m1 Q ⟨fun _ => ⟨by omega, ?_⟩, fun z => by omega⟩
    rw [hc]
    exact K m1 hf hc h
  | succ s ih =>
    intro k m1 b4 hk hb hf hc h
    refine sg_25_12 w n b4 m1 Q ⟨fun z => by omega, fun _ => ⟨by omega, by omega, ?_⟩⟩
    rw [show b4 = ((n - 1 - k : Nat) : Int) by omega]
    refine cl_24 (by omega) ?_
    rw [up_ne (s' := 20) (by omega), hc, show (((L + k : Nat) : Int)).toNat = L + k by omega]
    refine ⟨by omega, by omega, by omega, by omega, by omega, by omega, ih (k + 1) _ _ (by omega) (by omega) (fun s i j q1 q2 => ?_) ?_ (fun j hj => ?_)⟩
    · rw [up_ne q1, up_ne (by omega)]; exact hf s i j q1 q2
    · rw [up_eq]; omega
    · rw [up_ne (by omega)]
      rcases Nat.decEq j k with q | q
      · rw [up_ne (by omega)]; exact h j (by omega)
      · subst q; exact up_eq
theorem cl_22 {w a : Int} {L : Nat} {m : jx_M} {Q : Int → jx_M → Prop} (hL : m 20 0 1 = (L : Int)) (hL6 : L ≤ 60) (h0 : ¬ ((1 ≤ a ∧ a ≤ 8) ∧ ty_P w a.toNat) → Q (-1) m) (hF : ((1 ≤ a ∧ a ≤ 8) ∧ ty_P w a.toNat) ∧ ¬ L + a.toNat ≤ 60 → Q (-3) m) (h1 : ((1 ≤ a ∧ a ≤ 8) ∧ ty_P w a.toNat) ∧ L + a.toNat ≤ 60 → ∀ m2, (∀ s i j, ¬ (s = 20 ∧ i = 0 ∧ j = 1) → ¬ (s = 21 ∧ i = 0 ∧ L ≤ j) → m2 s i j = m s i j) → m2 20 0 1 = ((L + a.toNat : Nat) : Int) → (∀ j : Nat, j < a.toNat → m2 21 0 (L + j) = by_t w (a.toNat - 1 - j)) → Q ((L + a.toNat : Nat) : Int) m2) : jx_Cl 22 [xA 0 0, xL w, xI a] m Q := by
  refine sg_22 w a m Q (cl_12 (fun g => ⟨fun z => by omega, fun _ => ?_⟩) (fun g => ⟨fun _ => h0 (fun z => g z.1), fun z => by omega⟩))
  obtain ⟨n, rfl⟩ : ∃ n : Nat, a = (n : Int) := ⟨a.toNat, by omega⟩
  refine sg_23 w n m _ (lp_23 (by omega) (fun hy => ⟨fun z => by omega, fun _ => ⟨by omega, by omega, ?_⟩⟩) (fun hy => ⟨fun _ => h0 (fun z => hy z.2), fun z => by omega⟩) n 0 none (by omega) (fun j hj => by omega))
  refine sg_25 w n m _ ?_
  rw [hL]
  refine ⟨by omega, by omega, fun z => hF ⟨⟨g, hy⟩, by show ¬ L + n ≤ 60; omega⟩, fun z => ⟨by omega, ?_⟩⟩
  exact lp_25 (n := n) (L := L) (by omega) (by omega) (h1 ⟨⟨g, hy⟩, by show L + n ≤ 60; omega⟩) n 0 m _ (by omega) (by omega) (fun _ _ _ _ _ => rfl) hL (fun j hj => by omega)
theorem lp_131_40 {w : Int} {n L : Nat} {m : jx_M} {Q : Int → jx_M → Prop} (hn : n ≤ 8) (hL : L + n ≤ 60) (K : ∀ m2, (∀ s i j, ¬ (s = 26 ∧ i = 0 ∧ j = 12) → ¬ (s = 33 ∧ i = 0 ∧ L ≤ j) → m2 s i j = m s i j) → m2 26 0 12 = ((L + n : Nat) : Int) → (∀ j : Nat, j < n → m2 33 0 (L + j) = by_t w (n - 1 - j)) → Q ((L + n : Nat) : Int) m2) :
    ∀ (s k : Nat) (m1 : jx_M) (b4 : Int), k + s = n → b4 = (n : Int) - 1 - k → (∀ s i j, ¬ (s = 26 ∧ i = 0 ∧ j = 12) → ¬ (s = 33 ∧ i = 0 ∧ L ≤ j) → m1 s i j = m s i j) → m1 26 0 12 = ((L + k : Nat) : Int) → (∀ j : Nat, j < k → m1 33 0 (L + j) = by_t w (n - 1 - j)) → jx_AW 131 40 [some (xA 26 0), some (xL w), none, some (xI (n : Int)), some (xI b4)] [] m1 Q := by
  intro s
  induction s with
  | zero =>
    intro k m1 b4 hk hb hf hc h
    obtain rfl : k = n := by omega
    refine sg_131_40 w k b4 m1 Q ⟨fun _ => ⟨by omega, ?_⟩, fun z => by omega⟩
    rw [hc]
    exact K m1 hf hc h
  | succ s ih =>
    intro k m1 b4 hk hb hf hc h
    refine sg_131_40 w n b4 m1 Q ⟨fun z => by omega, fun _ => ?_⟩
    rw [show b4 = ((n - 1 - k : Nat) : Int) by omega, by_m (by omega), by_l, up_ne (s' := 26) (by omega), hc, show (((L + k : Nat) : Int)).toNat = L + k by omega]
    refine ⟨by omega, by omega, by omega, by omega, by omega, by omega, by omega, by omega, by omega, ih (k + 1) _ _ (by omega) (by omega) (fun s i j q1 q2 => ?_) ?_ (fun j hj => ?_)⟩
    · rw [up_ne q1, up_ne (by omega)]; exact hf s i j q1 q2
    · rw [up_eq]; omega
    · rw [up_ne (by omega)]
      rcases Nat.decEq j k with q | q
      · rw [up_ne (by omega)]; exact h j (by omega)
      · subst q; exact up_eq
theorem lp_131 {w : Int} {n L : Nat} {m : jx_M} {Q : Int → jx_M → Prop} (hL : m 26 0 12 = (L : Int)) (hL6 : L ≤ 60) (hn : 1 ≤ n ∧ n ≤ 8) (h0 : ¬ ty_P w n → Q (-1) m) (hF : ty_P w n ∧ ¬ L + n ≤ 60 → Q (-3) m) (h1 : ty_P w n ∧ L + n ≤ 60 → ∀ m2, (∀ s i j, ¬ (s = 26 ∧ i = 0 ∧ j = 12) → ¬ (s = 33 ∧ i = 0 ∧ L ≤ j) → m2 s i j = m s i j) → m2 26 0 12 = ((L + n : Nat) : Int) → (∀ j : Nat, j < n → m2 33 0 (L + j) = by_t w (n - 1 - j)) → Q ((L + n : Nat) : Int) m2) :
    ∀ (s k : Nat), k + s = n → (∀ j : Nat, j < k → ty_ok (by_t w j)) → jx_AW 131 10 [some (xA 26 0), some (xL w), none, some (xI (n : Int)), some (xI (k : Int))] [] m Q := by
  intro s
  induction s with
  | zero =>
    intro k hk h
    have hy : ty_P w n := fun j hj => h j (by omega)
    refine sg_131_10 w n k m Q ⟨fun z => by omega, fun _ => ?_⟩
    rw [hL]
    refine ⟨by omega, by omega, fun z => hF ⟨hy, by omega⟩, fun z => ⟨by omega, ?_⟩⟩
    exact lp_131_40 (n := n) (L := L) (by omega) (by omega) (h1 ⟨hy, by omega⟩) n 0 m _ (by omega) (by omega) (fun _ _ _ _ _ => rfl) hL (fun j hj => by omega)
  | succ s ih =>
    intro k hk h
    refine sg_131_10 w n k m Q ⟨fun _ => ?_, fun z => by omega⟩
    rw [by_m (by omega)]
    refine ⟨by omega, cl_125 (fun g => ⟨fun z => by omega, fun _ => ⟨by omega, ih (k + 1) (by omega) (fun j hj => ?_)⟩⟩) (fun g => ⟨fun _ => h0 (fun q => g (q k (by omega))), fun z => by omega⟩)⟩
    rcases Nat.lt_or_ge j k with q | q
    · exact h j q
    · obtain rfl : j = k := by omega
      exact g
theorem cl_131 {w a : Int} {L : Nat} {m : jx_M} {Q : Int → jx_M → Prop} (hL : m 26 0 12 = (L : Int)) (hL6 : L ≤ 60) (h0 : ¬ ((1 ≤ a ∧ a ≤ 8) ∧ ty_P w a.toNat) → Q (-1) m) (hF : ((1 ≤ a ∧ a ≤ 8) ∧ ty_P w a.toNat) ∧ ¬ L + a.toNat ≤ 60 → Q (-3) m) (h1 : ((1 ≤ a ∧ a ≤ 8) ∧ ty_P w a.toNat) ∧ L + a.toNat ≤ 60 → ∀ m2, (∀ s i j, ¬ (s = 26 ∧ i = 0 ∧ j = 12) → ¬ (s = 33 ∧ i = 0 ∧ L ≤ j) → m2 s i j = m s i j) → m2 26 0 12 = ((L + a.toNat : Nat) : Int) → (∀ j : Nat, j < a.toNat → m2 33 0 (L + j) = by_t w (a.toNat - 1 - j)) → Q ((L + a.toNat : Nat) : Int) m2) : jx_Cl 131 [xA 26 0, xL w, xI a] m Q := by
  refine sg_131 w a m Q (cl_125 (fun g => ⟨fun z => by omega, fun _ => ?_⟩) (fun g => ⟨fun _ => h0 (fun z => g z.1), fun z => by omega⟩))
  obtain ⟨n, rfl⟩ : ∃ n : Nat, a = (n : Int) := ⟨a.toNat, by omega⟩
  exact lp_131 (n := n) hL hL6 (by omega) (fun z => h0 (fun q => z q.2)) (fun z => hF ⟨⟨g, z.1⟩, z.2⟩) (fun z => h1 ⟨⟨g, z.1⟩, z.2⟩) n 0 (by omega) (fun j hj => by omega)
theorem pr_3 {w a : Int} {m : jx_M} {R : Int → Int → jx_M → Prop} (hI : jv_I m) (K : ∀ z m2, jv_I m2 → fS m m2 → R z z m2) : jx_Cl 22 [xA 0 0, xL w, xI a] m (fun z1 m1 => jx_Cl 131 [xA 26 0, xL w, xI a] m1 (fun z2 m2 => R z1 z2 m2)) := by
  obtain ⟨d, e, q, hw, hC, hM⟩ := hI
  have kk := fun z => jv_ask (G := R z z m) hw hC hM (fcs_r m) (fms_r m) (K z m)
  obtain ⟨t1, t2⟩ := hw.2.2.2.1
  obtain ⟨L, eL⟩ : ∃ L : Nat, q 1 0 0 = (L : Int) := ⟨(q 1 0 0).toNat, by omega⟩
  have c1 : m 20 0 1 = (L : Int) := hC.2.2.1.1.trans eL
  have c2 : m 26 0 12 = (L : Int) := hM.2.2.1.1.trans eL
  refine cl_22 c1 (by omega) (fun g => cl_131 c2 (by omega) (fun _ => kk _) (fun z => absurd z.1 g) (fun z => absurd z.1 g)) (fun g => cl_131 c2 (by omega) (fun z => absurd g.1 z) (fun _ => kk _) (fun z => absurd z.2 g.2)) (fun g m1 f1 l1 v1 => ?_)
  have fct1 : fct m m1 := fun s i j hn => f1 s i j (by omega) (by omega)
  have hM1 := jv_M_C (fct_C fct1) hM
  refine cl_131 (hM1.2.2.1.1.trans eL) (by omega) (fun z => absurd g.1 z) (fun z => absurd g.2 z.2) (fun _ m2 f2 l2 v2 => ?_)
  have fmt2 : fmt m1 m2 := fun s i j hn => f2 s i j (by omega) (by omega)
  generalize hn : a.toNat = n at *
  have hn8 : n ≤ 8 := by omega
  have e00 : q_ty q L n w 1 0 0 = ((L + n : Nat) : Int) := rfl
  have hold : ∀ i : Nat, i < L → q_ty q L n w 1 1 i = q 1 1 i := fun i hi => by
    unfold q_ty
    rw [if_neg (by omega), if_neg (by omega)]
  have hnew : ∀ i : Nat, L ≤ i → q_ty q L n w 1 1 i = by_t w (n - 1 - (i - L)) := fun i hi => by
    unfold q_ty
    rw [if_neg (by omega), if_pos (by omega)]
  have hq : ∀ a b c, ¬ a = 1 → q_ty q L n w a b c = q a b c := fun a b c h => by
    unfold q_ty
    rw [if_neg (by omega), if_neg (by omega)]
  have hw' : sw d e (q_ty q L n w) := by
    obtain ⟨h1, h2, h3, h4, h5, h6⟩ := hw
    refine ⟨h1, h2, h3, ?_, fun i hi => ?_, fun k hk => ?_⟩
    · rw [e00]; omega
    · rw [e00] at hi
      rcases Nat.lt_or_ge i L with z | z
      · rw [hold i z]; exact h5 i (by omega)
      · rw [hnew i z]; exact g.1.2 _ (by omega)
    · rw [hq 2 k 0 (by omega), hq 2 k 1 (by omega), hq 2 k 2 (by omega)]; exact h6 k hk
  refine jv_fin hw' (fct_C fct1) (jv_C_g hw fct1 ?_ ⟨l1, fun i hi => ?_⟩ hq hC) (fmt_M fmt2) (jv_M_g fmt2 ?_ ⟨l2, fun i hi => ?_⟩ hq hM1) (K _ _)
  · exact rc_fr hw.1 (fun s j hs => f1 s 0 j (by omega) (by omega)) (fun s i j hs hi => f1 s i j (by omega) (by omega)) (fun s i j hs hi => f1 s i j (by omega) (by omega)) hC.1
  · rw [e00] at hi
    rcases Nat.lt_or_ge i L with z | z
    · rw [hold i z, f1 21 0 i (by omega) (by omega)]; exact hC.2.2.1.2 i (by omega)
    · rw [hnew i z]
      have := v1 (i - L) (by omega)
      rw [show L + (i - L) = i by omega] at this
      exact this
  · exact rm_fr (fun s j hs hj => f2 s 0 j (by omega) (by omega)) hM1.1.1
  · rw [e00] at hi
    rcases Nat.lt_or_ge i L with z | z
    · rw [hold i z, f2 33 0 i (by omega) (by omega)]; exact hM1.2.2.1.2 i (by omega)
    · rw [hnew i z]
      have := v2 (i - L) (by omega)
      rw [show L + (i - L) = i by omega] at this
      exact this
