/-! which came of which, by years -/
theorem lp_150_Mitems_Mitems {f g : Nat → Int} {x n y k : Int} {m : jx_M} {Q : Int → jx_M → Prop} (hn : 0 ≤ n ∧ n ≤ 6) (hk : 0 ≤ k ∧ k ≤ 6) (hx : 0 ≤ x ∧ x + n ≤ 96) (hy : 0 ≤ y ∧ y + k ≤ 96) (hf : ∀ i : Nat, (i : Int) < n → m 45 0 (x + i).toNat = f i ∧ 0 ≤ f i ∧ f i ≤ 9) (hg : ∀ i : Nat, (i : Int) < k → m 45 0 (y + i).toNat = g i ∧ 0 ≤ g i ∧ g i ≤ 9) (hq : Q (sp_off f n g k) m) :
    ∀ (r j : Nat) (w : Option jx_V) (b6 : Int), j + r = (max n k).toNat → b6 = dt_sum (sp_ab f g) (min j (min n k).toNat) + 4 * ((j - min j (min n k).toNat : Nat) : Int) → jx_AW 150 4 [some (xA 45 0), some (xI x), some (xI n), some (xA 45 0), some (xI y), some (xI k), some (xI b6), some (xI (j : Int)), w] [] m Q := by
  intro r
  induction r with
  | zero =>
    intro j w b6 hj hb
    refine sg_150_Mitems_Mitems_4 x n y k b6 j w m Q ⟨fun h => by omega, fun _ => ⟨fun h => by omega, fun _ => ?_⟩⟩
    rw [show min j (min n k).toNat = (min n k).toNat by omega] at hb
    unfold sp_off at hq
    rw [show b6 = 4 * ((n - k).natAbs : Int) + dt_sum (sp_ab f g) (min n k).toNat by omega]
    exact hq
  | succ r ih =>
    intro j w b6 hj hb
    have hs := dt_sum_in (f := sp_ab f g) (b := 9) (min j (min n k).toNat) (fun i hi => by have := hf i (by omega); have := hg i (by omega); unfold sp_ab; omega)
    have nxt : ∀ (w' : Option jx_V) (b' : Int), b' = dt_sum (sp_ab f g) (min (j + 1) (min n k).toNat) + 4 * ((j + 1 - min (j + 1) (min n k).toNat : Nat) : Int) → jx_AW 150 4 [some (xA 45 0), some (xI x), some (xI n), some (xA 45 0), some (xI y), some (xI k), some (xI b'), some (xI ((j : Int) + 1)), w'] [] m Q := fun w' b' h => ih (j + 1) w' b' (by omega) h
    have far : ¬ ((j : Int) < n ∧ (j : Int) < k) → b6 + 4 = dt_sum (sp_ab f g) (min (j + 1) (min n k).toNat) + 4 * ((j + 1 - min (j + 1) (min n k).toNat : Nat) : Int) := by
      intro h
      rw [show min (j + 1) (min n k).toNat = min j (min n k).toNat by omega]
      omega
    refine sg_150_Mitems_Mitems_4 x n y k b6 j w m Q ⟨fun h => ⟨fun _ => ⟨fun h2 => ?_, fun h2 => ⟨fun z => by omega, fun _ => ⟨by omega, by omega, nxt _ _ (far (by omega))⟩⟩⟩, fun z => absurd h z⟩, fun h => ⟨fun h2 => ⟨fun z => absurd z h, fun _ => ⟨fun z => by omega, fun _ => ⟨by omega, by omega, nxt _ _ (far (by omega))⟩⟩⟩, fun h2 => by omega⟩⟩
    have h3 := hf j h
    have h4 := hg j h2
    have e5 : dt_sum (sp_ab f g) (min (j + 1) (min n k).toNat) = dt_sum (sp_ab f g) (min j (min n k).toNat) + ((f j - g j).natAbs : Int) := by
      rw [show min (j + 1) (min n k).toNat = j + 1 by omega, show min j (min n k).toNat = j by omega]
      rfl
    rw [e5] at nxt
    rw [h3.1, h4.1]
    exact ⟨by omega, by omega, by omega, by omega, by omega, by omega, by omega, fun h5 => ⟨by omega, by omega, by omega, nxt _ _ (by omega)⟩, fun h5 => ⟨by omega, by omega, nxt _ _ (by omega)⟩⟩
theorem cl_150_Mitems_Mitems {f g : Nat → Int} {x n y k : Int} {m : jx_M} {Q : Int → jx_M → Prop} (hn : 0 ≤ n ∧ n ≤ 6) (hk : 0 ≤ k ∧ k ≤ 6) (hx : 0 ≤ x ∧ x + n ≤ 96) (hy : 0 ≤ y ∧ y + k ≤ 96) (hf : ∀ i : Nat, (i : Int) < n → m 45 0 (x + i).toNat = f i ∧ 0 ≤ f i ∧ f i ≤ 9) (hg : ∀ i : Nat, (i : Int) < k → m 45 0 (y + i).toNat = g i ∧ 0 ≤ g i ∧ g i ≤ 9) (hq : Q (sp_off f n g k) m) : jx_Cl 150 [xA 45 0, xI x, xI n, xA 45 0, xI y, xI k] m Q :=
  sg_150_Mitems_Mitems x n y k m Q (lp_150_Mitems_Mitems hn hk hx hy hf hg hq (max n k).toNat 0 none 0 (by omega) (by rw [show min 0 (min n k).toNat = 0 by omega]; rfl))

theorem off_same (x y : Nat → Int) (n : Nat) : sp_off x (n : Int) y (n : Int) = dt_sum (sp_ab x y) n := by
  unfold sp_off
  rw [show ((n : Int) - (n : Int)).natAbs = 0 by omega, show (min (n : Int) (n : Int)).toNat = n by omega]
  show 4 * (0 : Int) + _ = _
  omega
def ne_d (f : Nat → Int) (n k r : Nat) : Int := sp_off (fun p => f (k * (n + 1) + 1 + p)) n (fun p => f (r * (n + 1) + 1 + p)) n
def sp_ne (f : Nat → Int) (n k : Nat) : Nat → Int × Int
  | 0 => (-4, 0)
  | r + 1 => if f (r * (n + 1)) < f (k * (n + 1)) ∧ ((sp_ne f n k r).1 < 0 ∨ ne_d f n k r < (sp_ne f n k r).2) then ((r : Int), ne_d f n k r) else sp_ne f n k r
theorem ne_y {f : Nat → Int} {n k r : Nat} (h : f (r * (n + 1)) < f (k * (n + 1)) ∧ ((sp_ne f n k r).1 < 0 ∨ ne_d f n k r < (sp_ne f n k r).2)) : sp_ne f n k (r + 1) = ((r : Int), ne_d f n k r) := if_pos h
theorem ne_n {f : Nat → Int} {n k r : Nat} (h : ¬ (f (r * (n + 1)) < f (k * (n + 1)) ∧ ((sp_ne f n k r).1 < 0 ∨ ne_d f n k r < (sp_ne f n k r).2))) : sp_ne f n k (r + 1) = sp_ne f n k r := if_neg h
theorem lp_115 {x y : Nat → Int} {K A B n : Nat} {m : jx_M} {Q : Int → jx_M → Prop} (hK : K < 4) (hn : n ≤ 6) (hA : A + n ≤ 24) (hB : B + n ≤ 24) (hx : ∀ p : Nat, p < n → m 24 K (A + p) = x p ∧ nt1 (x p)) (hy : ∀ p : Nat, p < n → m 24 K (B + p) = y p ∧ nt1 (y p)) (hq : Q (dt_sum (sp_ab x y) n) m) :
    ∀ (s p : Nat), p + s = n → jx_AW 115 4 [some (xA 23 K), some (xI (A : Int)), some (xI (B : Int)), some (xI (n : Int)), some (xI (dt_sum (sp_ab x y) p)), some (xI (p : Int))] [] m Q := by
  intro s
  induction s with
  | zero =>
    intro p hp
    obtain rfl : p = n := by omega
    exact sg_115_4 K A B p _ _ m Q ⟨fun z => by omega, fun _ => hq⟩
  | succ s ih =>
    intro p hp
    have nx := ih (p + 1) (by omega)
    have h1 := hx p (by omega)
    have h2 := hy p (by omega)
    unfold nt1 at *
    have hs := dt_sum_in (f := sp_ab x y) (b := 9) p (fun i hi => by have := hx i (by omega); have := hy i (by omega); unfold sp_ab; omega)
    refine sg_115_4 K A B n _ p m Q ⟨fun _ => ?_, fun z => by omega⟩
    rw [show ((A : Int) + (p : Int)).toNat = A + p by omega, show ((B : Int) + (p : Int)).toNat = B + p by omega, h1.1, h2.1]
    exact ⟨hK, by omega, by omega, hK, hK, by omega, by omega, hK, by omega, by omega, by omega, by omega, nx⟩
theorem cl_115 {x y : Nat → Int} {K A B n : Nat} {m : jx_M} {Q : Int → jx_M → Prop} (hK : K < 4) (hn : n ≤ 6) (hA : A + n ≤ 24) (hB : B + n ≤ 24) (hx : ∀ p : Nat, p < n → m 24 K (A + p) = x p ∧ nt1 (x p)) (hy : ∀ p : Nat, p < n → m 24 K (B + p) = y p ∧ nt1 (y p)) (hq : Q (sp_off x n y n) m) : jx_Cl 115 [xA 23 K, xI (A : Int), xI (B : Int), xI (n : Int)] m Q := by
  rw [off_same] at hq
  exact sg_115 K A B n m Q (lp_115 hK hn hA hB hx hy hq n 0 (by omega))
theorem lp_114 {f : Nat → Int} {K I M n k T Y : Nat} {m : jx_M} {Q : Int → jx_M → Prop} (hK : K < 4) (hM : M ≤ 5) (hn : n ≤ 6) (hk : k < M) (hT : T = M * (n + 1)) (hY : Y = k * (n + 1)) (hI : I + T ≤ 24) (hf : ∀ j : Nat, j < T → m 24 K (I + j) = f j) (hN : hn_P f M n 1) (hq : Q (sp_ne f n k M).1 m) :
    ∀ (s r : Nat) (w9 w10 : Option jx_V), r + s = M → jx_AW 114 14 [some (xA 23 K), some (xI (I : Int)), some (xI (M : Int)), some (xI (n : Int)), some (xI (k : Int)), some (xI ((I + Y : Nat) : Int)), some (xI (sp_ne f n k r).1), some (xI (sp_ne f n k r).2), some (xI (r : Int)), w9, w10] [] m Q := by
  have hYb := mul_row (r := k) (M := M) (W := n + 1) hk
  rw [← hY, ← hT] at hYb
  intro s
  induction s with
  | zero =>
    intro r w9 w10 hr
    obtain rfl : r = M := by omega
    exact sg_114_14 K I r n k _ _ _ _ w9 w10 m Q ⟨fun z => by omega, fun _ => hq⟩
  | succ s ih =>
    intro r w9 w10 hr
    have nx := fun w9 w10 => ih (r + 1) w9 w10 (by omega)
    obtain ⟨P, hP⟩ : ∃ P : Nat, P = r * (n + 1) := ⟨_, rfl⟩
    have hb := mul_row (r := r) (M := M) (W := n + 1) (by omega)
    rw [← hP, ← hT] at hb
    have e : (r : Int) * ((n : Int) + 1) = (P : Int) := by rw [hP, Int.natCast_mul, Int.natCast_add]; rfl
    refine sg_114_14 K I M n k _ _ _ r w9 w10 m Q ⟨fun _ => ?_, fun z => by omega⟩
    rw [e, show ((I : Int) + (P : Int)).toNat = I + P by omega, show (((I + Y : Nat) : Int)).toNat = I + Y by omega, hf P (by omega), hf Y (by omega)]
    refine ⟨by omega, by omega, by omega, hK, by omega, hK, hK, by omega, hK, fun z => ⟨by omega, by omega, hK, ?_⟩, fun z => ⟨by omega, ?_⟩⟩
    · rw [show ((I + Y : Nat) : Int) + 1 = ((I + (Y + 1) : Nat) : Int) by omega, show (I : Int) + (P : Int) + 1 = ((I + (P + 1) : Nat) : Int) by omega]
      have hx : ∀ p : Nat, p < n → m 24 K (I + (Y + 1) + p) = f (k * (n + 1) + 1 + p) ∧ nt1 (f (k * (n + 1) + 1 + p)) := fun p hp => by
        have := hN k hk p hp
        rw [Nat.add_comm 1 n] at this
        refine ⟨?_, this⟩
        rw [← hY, Nat.add_assoc, hf (Y + 1 + p) (by omega)]
      have hy : ∀ p : Nat, p < n → m 24 K (I + (P + 1) + p) = f (r * (n + 1) + 1 + p) ∧ nt1 (f (r * (n + 1) + 1 + p)) := fun p hp => by
        have := hN r (by omega) p hp
        rw [Nat.add_comm 1 n] at this
        refine ⟨?_, this⟩
        rw [← hP, Nat.add_assoc, hf (P + 1 + p) (by omega)]
      refine cl_115 hK hn (by omega) (by omega) hx hy ?_
      have zz : f (r * (n + 1)) < f (k * (n + 1)) := by rw [← hP, ← hY]; exact z
      show ((sp_ne f n k r).1 < 0 → _) ∧ (¬ (sp_ne f n k r).1 < 0 → (ne_d f n k r < (sp_ne f n k r).2 → _) ∧ (¬ ne_d f n k r < (sp_ne f n k r).2 → _))
      refine ⟨fun z2 => ⟨by omega, ?_⟩, fun z2 => ⟨fun z3 => ⟨by omega, ?_⟩, fun z3 => ⟨by omega, ?_⟩⟩⟩
      · rw [ne_y ⟨zz, Or.inl z2⟩] at nx; exact nx _ _
      · rw [ne_y ⟨zz, Or.inr z3⟩] at nx; exact nx _ _
      · rw [ne_n (fun q => by have := q.2; omega)] at nx; exact nx _ _
    · rw [ne_n (fun q => z (by have := q.1; rw [← hP, ← hY] at this; exact this))] at nx; exact nx _ _
def g_ca (a l i M n k : Int) : Prop := (0 ≤ a ∧ a < 4) ∧ (0 ≤ l ∧ l < 3) ∧ (1 ≤ M ∧ M ≤ 5) ∧ (1 ≤ n ∧ n ≤ 6) ∧ (0 ≤ k ∧ k ≤ M - 1)
theorem cl_113 {q : jx_M} {a l i M n k : Int} {m : jx_M} {Q : Int → jx_M → Prop} (hs : sh_w q) (hH : jc_H m q) (h0 : ¬ g_ca a l i M n k → Q (-1) m) (h11 : g_ca a l i M n k ∧ q 2 a.toNat 0 = 0 → Q (-11) m) (h12 : g_ca a l i M n k ∧ q 2 a.toNat 0 = 1 ∧ ¬ q 2 a.toNat 1 = l → Q (-12) m) (h13 : g_ca a l i M n k ∧ (q 2 a.toNat 0 = 1 ∧ q 2 a.toNat 1 = l) ∧ ¬ (0 ≤ i ∧ i + M * (n + 1) ≤ q 2 a.toNat 2) → Q (-13) m)
    (h2 : g_ca a l i M n k ∧ ((q 2 a.toNat 0 = 1 ∧ q 2 a.toNat 1 = l) ∧ (0 ≤ i ∧ i + M * (n + 1) ≤ q 2 a.toNat 2)) ∧ ¬ hn_P (fun j => q 3 a.toNat (i.toNat + j)) M.toNat n.toNat 1 → Q (-2) m)
    (h1 : g_ca a l i M n k ∧ ((q 2 a.toNat 0 = 1 ∧ q 2 a.toNat 1 = l) ∧ (0 ≤ i ∧ i + M * (n + 1) ≤ q 2 a.toNat 2)) ∧ hn_P (fun j => q 3 a.toNat (i.toNat + j)) M.toNat n.toNat 1 → Q (sp_ne (fun j => q 3 a.toNat (i.toNat + j)) n.toNat k.toNat M.toNat).1 m) : jx_Cl 113 [xA 0 0, xI a, xI l, xI i, xI M, xI n, xI k] m Q := by
  unfold g_ca at *
  refine sg_113 a l i M n k m Q (cl_107 (fun g1 => ⟨fun z => by omega, fun _ => cl_108 (fun g2 => ⟨fun z => by omega, fun _ => cl_12 (fun g3 => ⟨fun z => by omega, fun _ => cl_12 (fun g4 => ⟨fun z => by omega, fun _ => ⟨by omega, cl_12 (fun g5 => ⟨fun z => by omega, fun _ => ?_⟩) (fun g => ⟨fun _ => h0 (by omega), fun z => by omega⟩)⟩⟩) (fun g => ⟨fun _ => h0 (by omega), fun z => by omega⟩)⟩) (fun g => ⟨fun _ => h0 (by omega), fun z => by omega⟩)⟩) (fun g => ⟨fun _ => h0 (by omega), fun z => by omega⟩)⟩) (fun g => ⟨fun _ => h0 (by omega), fun z => by omega⟩))
  have hmul := pos_mul (M := M) (n := n + 1) (by omega) (by omega)
  obtain ⟨a1, a2, a3, a4⟩ := hH a.toNat (by omega)
  obtain ⟨b1, b2, b3⟩ := hs a.toNat (by omega)
  have G : (0 ≤ a ∧ a < 4) ∧ (0 ≤ l ∧ l < 3) ∧ (1 ≤ M ∧ M ≤ 5) ∧ (1 ≤ n ∧ n ≤ 6) ∧ (0 ≤ k ∧ k ≤ M - 1) := by omega
  refine ⟨by omega, by omega, by omega, by omega, by omega, by omega, cl_109 (by omega) hs hH (by omega) (fun g => ⟨fun z => by omega, fun _ => h11 ⟨G, g⟩⟩) (fun g => ⟨fun z => by omega, fun _ => h12 ⟨G, g⟩⟩) (fun g => ⟨fun z => by omega, fun _ => h13 ⟨G, g⟩⟩) (fun g => ⟨fun _ => ⟨by omega, ?_⟩, fun z => by omega⟩)⟩
  obtain ⟨I, rfl⟩ : ∃ I : Nat, i = (I : Int) := ⟨i.toNat, by omega⟩
  obtain ⟨M, rfl⟩ : ∃ N : Nat, M = (N : Int) := ⟨M.toNat, by omega⟩
  obtain ⟨n, rfl⟩ : ∃ N : Nat, n = (N : Int) := ⟨n.toNat, by omega⟩
  obtain ⟨k, rfl⟩ : ∃ N : Nat, k = (N : Int) := ⟨k.toNat, by omega⟩
  have eT : ((M * (n + 1) : Nat) : Int) = (M : Int) * ((n : Int) + 1) := by rw [Int.natCast_mul, Int.natCast_add]; rfl
  obtain ⟨T, hT⟩ : ∃ T : Nat, T = M * (n + 1) := ⟨_, rfl⟩
  rw [← hT] at eT
  have hfit : I + T ≤ 24 := by
    have := g.2.2
    omega
  have hf : ∀ j : Nat, j < T → m 24 a.toNat (I + j) = q 3 a.toNat (I + j) := fun j hj => a4 _ (by omega)
  obtain ⟨Y, hY⟩ : ∃ Y : Nat, Y = k * (n + 1) := ⟨_, rfl⟩
  have eY : (k : Int) * ((n : Int) + 1) = (Y : Int) := by rw [hY, Int.natCast_mul, Int.natCast_add]; rfl
  have hYb := mul_row (r := k) (M := M) (W := n + 1) (by omega)
  rw [← hY, ← hT] at hYb
  refine cl_111 (f := fun j => q 3 a.toNat (I + j)) (a := 1) (T := T) (by omega) (by omega) (by omega) (by omega) (by rw [Nat.add_comm 1 n]; exact hT) hfit hf (fun hy => ⟨fun z => by omega, fun _ => ⟨by omega, ?_⟩⟩) (fun hy => ⟨fun _ => h2 ⟨G, g, hy⟩, fun z => by omega⟩)
  refine sg_114 a.toNat I M n k m _ ?_
  rw [eY]
  refine ⟨by omega, by omega, by omega, ?_⟩
  rw [show (I : Int) + (Y : Int) = ((I + Y : Nat) : Int) by omega]
  exact lp_114 (f := fun j => q 3 a.toNat (I + j)) (by omega) (by omega) (by omega) (by omega) hT hY hfit hf hy (h1 ⟨G, g, hy⟩) M 0 none none (by omega)
/-- all that are no years are notes -/
theorem ca_all {f : Nat → Int} {M n : Nat} : hn_P f M n 1 ↔ ∀ j : Nat, j < M * (n + 1) → 0 < j % (n + 1) → nt1 (f j) := by
  constructor
  · intro h j hj hm
    have h1 := Nat.div_add_mod j (n + 1)
    have h2 := Nat.mod_lt j (show 0 < n + 1 by omega)
    have h3 : j / (n + 1) < M := Nat.div_lt_of_lt_mul (by rw [Nat.mul_comm]; exact hj)
    have := h (j / (n + 1)) h3 (j % (n + 1) - 1) (by omega)
    rw [Nat.add_comm 1 n, Nat.mul_comm, show (n + 1) * (j / (n + 1)) + 1 + (j % (n + 1) - 1) = j by omega] at this
    exact this
  · intro h r hr p hp
    have hb := mul_row (r := r) (M := M) (W := n + 1) hr
    rw [Nat.add_comm 1 n]
    refine h _ (by omega) ?_
    rw [Nat.add_assoc, Nat.add_comm, Nat.add_mul_mod_self_right, Nat.mod_eq_of_lt (by omega)]
    omega
theorem lp_186_94 {f : Nat → Int} {B M n k T Y : Nat} {b1 b2 b3 b7 : Int} {m : jx_M} {Q : Int → jx_M → Prop} (hM : M ≤ 5) (hn : n ≤ 6) (hk : k < M) (hT : T = M * (n + 1)) (hY : Y = k * (n + 1)) (hB : B + T ≤ 96) (hf : ∀ j : Nat, j < T → m 45 0 (B + j) = f j) (hN : hn_P f M n 1) (hq : Q (sp_ne f n k M).1 m) :
    ∀ (s r : Nat) (w13 w14 w15 : Option jx_V), r + s = M → jx_AW 186 94 [some (xA 26 0), some (xI b1), some (xI b2), some (xI b3), some (xI (M : Int)), some (xI (n : Int)), some (xI (k : Int)), some (xI b7), some (xI (B : Int)), some (xI ((B + Y : Nat) : Int)), some (xI (sp_ne f n k r).1), some (xI (sp_ne f n k r).2), some (xI (r : Int)), w13, w14, w15] [] m Q := by
  have hYb := mul_row (r := k) (M := M) (W := n + 1) hk
  rw [← hY, ← hT] at hYb
  intro s
  induction s with
  | zero =>
    intro r w13 w14 w15 hr
    obtain rfl : r = M := by omega
    exact sg_186_94 b1 b2 b3 r n k b7 B _ _ _ _ w13 w14 w15 m Q ⟨fun z => by omega, fun _ => hq⟩
  | succ s ih =>
    intro r w13 w14 w15 hr
    have nx := fun w13 w14 w15 => ih (r + 1) w13 w14 w15 (by omega)
    obtain ⟨P, hP⟩ : ∃ P : Nat, P = r * (n + 1) := ⟨_, rfl⟩
    have hb := mul_row (r := r) (M := M) (W := n + 1) (by omega)
    rw [← hP, ← hT] at hb
    have e : ((n : Int) + 1) * (r : Int) = (P : Int) := by rw [hP, Int.natCast_mul, Int.natCast_add, Int.mul_comm]; rfl
    have ny : f P < f Y ∧ ((sp_ne f n k r).1 < 0 ∨ ne_d f n k r < (sp_ne f n k r).2) → ∀ w13 w14 w15 : Option jx_V, jx_AW 186 94 [some (xA 26 0), some (xI b1), some (xI b2), some (xI b3), some (xI (M : Int)), some (xI (n : Int)), some (xI (k : Int)), some (xI b7), some (xI (B : Int)), some (xI ((B + Y : Nat) : Int)), some (xI (r : Int)), some (xI (ne_d f n k r)), some (xI ((r : Int) + 1)), w13, w14, w15] [] m Q := fun q w13 w14 w15 => by
      rw [hP, hY] at q
      rw [ne_y q] at nx
      exact nx w13 w14 w15
    have nn : ¬ (f P < f Y ∧ ((sp_ne f n k r).1 < 0 ∨ ne_d f n k r < (sp_ne f n k r).2)) → ∀ w13 w14 w15 : Option jx_V, jx_AW 186 94 [some (xA 26 0), some (xI b1), some (xI b2), some (xI b3), some (xI (M : Int)), some (xI (n : Int)), some (xI (k : Int)), some (xI b7), some (xI (B : Int)), some (xI ((B + Y : Nat) : Int)), some (xI (sp_ne f n k r).1), some (xI (sp_ne f n k r).2), some (xI ((r : Int) + 1)), w13, w14, w15] [] m Q := fun q w13 w14 w15 => by
      rw [hP, hY] at q
      rw [ne_n q] at nx
      exact nx w13 w14 w15
    refine sg_186_94 b1 b2 b3 M n k b7 B _ _ _ r w13 w14 w15 m Q ⟨fun _ => ?_, fun z => by omega⟩
    rw [e]
    refine ⟨by omega, by omega, by omega, by omega, by omega, by omega, by omega, ?_⟩
    refine cl_150_Mitems_Mitems (f := fun p => f (k * (n + 1) + 1 + p)) (g := fun p => f (r * (n + 1) + 1 + p)) (by omega) (by omega) (by omega) (by omega) (fun p hp => ?_) (fun p hp => ?_) ?_
    · have := hN k hk p (by omega)
      rw [Nat.add_comm 1 n] at this
      refine ⟨?_, this⟩
      rw [show (((B + Y : Nat) : Int) + 1 + (p : Int)).toNat = B + (Y + 1 + p) by omega, hf (Y + 1 + p) (by omega), hY]
    · have := hN r (by omega) p (by omega)
      rw [Nat.add_comm 1 n] at this
      refine ⟨?_, this⟩
      rw [show ((B : Int) + (P : Int) + 1 + (p : Int)).toNat = B + (P + 1 + p) by omega, hf (P + 1 + p) (by omega), hP]
    · rw [show ((B : Int) + (P : Int)).toNat = B + P by omega, show (((B + Y : Nat) : Int)).toNat = B + Y by omega, hf P (by omega), hf Y (by omega)]
      have ed : sp_off (fun p => f (k * (n + 1) + 1 + p)) (n : Int) (fun p => f (r * (n + 1) + 1 + p)) (n : Int) = ne_d f n k r := rfl
      rw [ed]
      repeat' (first | omega | exact ny (by omega) _ _ _ | exact nn (by omega) _ _ _ | apply And.intro | intro _)
theorem lp_186_52 {f : Nat → Int} {B M n k T Y : Nat} {b1 b2 b3 b7 : Int} {w10 w11 w12 w13 w14 w15 : Option jx_V} {m : jx_M} {Q : Int → jx_M → Prop} (hM : M ≤ 5) (hn : 1 ≤ n ∧ n ≤ 6) (hk : k < M) (hT : T = M * (n + 1)) (hY : Y = k * (n + 1)) (hB : B + T ≤ 96) (hf : ∀ j : Nat, j < T → m 45 0 (B + j) = f j) (h2 : ¬ hn_P f M n 1 → Q (-2) m) (h1 : hn_P f M n 1 → Q (sp_ne f n k M).1 m) :
    ∀ (s j : Nat), j + s = T → (∀ j' : Nat, j' < j → 0 < j' % (n + 1) → nt1 (f j')) → jx_AW 186 52 [some (xA 26 0), some (xI b1), some (xI b2), some (xI b3), some (xI (M : Int)), some (xI (n : Int)), some (xI (k : Int)), some (xI b7), some (xI (B : Int)), some (xI (j : Int)), w10, w11, w12, w13, w14, w15] [] m Q := by
  have eT : (M : Int) * ((n : Int) + 1) = (T : Int) := by rw [hT, Int.natCast_mul, Int.natCast_add]; rfl
  have eY : ((n : Int) + 1) * (k : Int) = (Y : Int) := by rw [hY, Int.natCast_mul, Int.natCast_add, Int.mul_comm]; rfl
  have hYb := mul_row (r := k) (M := M) (W := n + 1) hk
  rw [← hY, ← hT] at hYb
  intro s
  induction s with
  | zero =>
    intro j hj h
    have hy : hn_P f M n 1 := ca_all.mpr (fun j' hj' => h j' (by omega))
    refine sg_186_52 b1 b2 b3 M n k b7 B j w10 w11 w12 w13 w14 w15 m Q ?_
    rw [eT, eY]
    refine ⟨by omega, by omega, fun z => by omega, fun _ => ⟨by omega, by omega, by omega, ?_⟩⟩
    rw [show (B : Int) + (Y : Int) = ((B + Y : Nat) : Int) by omega]
    exact lp_186_94 (f := f) hM hn.2 hk hT hY hB hf hy (h1 hy) M 0 w13 w14 w15 (by omega)
  | succ s ih =>
    intro j hj h
    have em : (j : Int) % ((n : Int) + 1) = ((j % (n + 1) : Nat) : Int) := by rw [Int.natCast_emod, Int.natCast_add]; rfl
    refine sg_186_52 b1 b2 b3 M n k b7 B j w10 w11 w12 w13 w14 w15 m Q ?_
    rw [eT, em, show ((B : Int) + (j : Int)).toNat = B + j by omega, hf j (by omega)]
    generalize hm : j % (n + 1) = jm
    have keep : (0 < jm → nt1 (f j)) → ∀ j' : Nat, j' < j + 1 → 0 < j' % (n + 1) → nt1 (f j') := fun hz j' hj' hq => by
      rcases Nat.lt_or_ge j' j with q | q
      · exact h j' q hq
      · obtain rfl : j' = j := by omega
        exact hz (by omega)
    refine ⟨by omega, by omega, fun _ => ⟨by omega, by omega, fun z => ⟨by omega, by omega, by omega, by omega, cl_125 (fun gg => ⟨fun z => by omega, fun _ => ⟨by omega, ih (j + 1) (by omega) (keep (fun _ => gg))⟩⟩) (fun gg => ⟨fun _ => h2 (fun z => gg (ca_all.mp z j (by omega) (by omega))), fun z => by omega⟩)⟩, fun z => ⟨by omega, ih (j + 1) (by omega) (keep (fun q => by omega))⟩⟩, fun z => by omega⟩
theorem cl_186 {q : jx_M} {a l i M n k : Int} {m : jx_M} {Q : Int → jx_M → Prop} (hs : sh_w q) (hH : jm_H m q) (hi : jx_in i) (h0 : ¬ g_ca a l i M n k → Q (-1) m) (h11 : g_ca a l i M n k ∧ q 2 a.toNat 0 = 0 → Q (-11) m) (h12 : g_ca a l i M n k ∧ q 2 a.toNat 0 = 1 ∧ ¬ q 2 a.toNat 1 = l → Q (-12) m) (h13 : g_ca a l i M n k ∧ (q 2 a.toNat 0 = 1 ∧ q 2 a.toNat 1 = l) ∧ ¬ (0 ≤ i ∧ i + M * (n + 1) ≤ q 2 a.toNat 2) → Q (-13) m)
    (h2 : g_ca a l i M n k ∧ ((q 2 a.toNat 0 = 1 ∧ q 2 a.toNat 1 = l) ∧ (0 ≤ i ∧ i + M * (n + 1) ≤ q 2 a.toNat 2)) ∧ ¬ hn_P (fun j => q 3 a.toNat (i.toNat + j)) M.toNat n.toNat 1 → Q (-2) m)
    (h1 : g_ca a l i M n k ∧ ((q 2 a.toNat 0 = 1 ∧ q 2 a.toNat 1 = l) ∧ (0 ≤ i ∧ i + M * (n + 1) ≤ q 2 a.toNat 2)) ∧ hn_P (fun j => q 3 a.toNat (i.toNat + j)) M.toNat n.toNat 1 → Q (sp_ne (fun j => q 3 a.toNat (i.toNat + j)) n.toNat k.toNat M.toNat).1 m) : jx_Cl 186 [xA 26 0, xI a, xI l, xI i, xI M, xI n, xI k] m Q := by
  unfold g_ca at *
  refine sg_186 a l i M n k m Q (cl_183 (fun g1 => ⟨fun z => by omega, fun _ => cl_184 (fun g2 => ⟨fun z => by omega, fun _ => cl_125 (fun g3 => ⟨fun z => by omega, fun _ => cl_125 (fun g4 => ⟨fun z => by omega, fun _ => ⟨by omega, cl_125 (fun g5 => ⟨fun z => by omega, fun _ => ?_⟩) (fun g => ⟨fun _ => h0 (by omega), fun z => by omega⟩)⟩⟩) (fun g => ⟨fun _ => h0 (by omega), fun z => by omega⟩)⟩) (fun g => ⟨fun _ => h0 (by omega), fun z => by omega⟩)⟩) (fun g => ⟨fun _ => h0 (by omega), fun z => by omega⟩)⟩) (fun g => ⟨fun _ => h0 (by omega), fun z => by omega⟩))
  have hmul := pos_mul (M := M) (n := n + 1) (by omega) (by omega)
  obtain ⟨a1, a2, a3, a4⟩ := hH a.toNat (by omega)
  obtain ⟨b1, b2, b3⟩ := hs a.toNat (by omega)
  have G : (0 ≤ a ∧ a < 4) ∧ (0 ≤ l ∧ l < 3) ∧ (1 ≤ M ∧ M ≤ 5) ∧ (1 ≤ n ∧ n ≤ 6) ∧ (0 ≤ k ∧ k ≤ M - 1) := by omega
  refine ⟨by omega, by omega, by omega, cl_185 (by omega) hs hH (by omega) (by omega) hi (by omega) (fun g => ⟨fun _ => h11 ⟨G, g⟩, fun z => by omega⟩) (fun g => ⟨fun _ => h12 ⟨G, g⟩, fun z => by omega⟩) (fun g => ⟨fun _ => h13 ⟨G, g⟩, fun z => by omega⟩) (fun g => ⟨fun z => by omega, fun _ => ⟨by omega, by omega, ?_⟩⟩)⟩
  obtain ⟨I, rfl⟩ : ∃ I : Nat, i = (I : Int) := ⟨i.toNat, by omega⟩
  obtain ⟨M, rfl⟩ : ∃ N : Nat, M = (N : Int) := ⟨M.toNat, by omega⟩
  obtain ⟨n, rfl⟩ : ∃ N : Nat, n = (N : Int) := ⟨n.toNat, by omega⟩
  obtain ⟨k, rfl⟩ : ∃ N : Nat, k = (N : Int) := ⟨k.toNat, by omega⟩
  have eT : ((M * (n + 1) : Nat) : Int) = (M : Int) * ((n : Int) + 1) := by rw [Int.natCast_mul, Int.natCast_add]; rfl
  obtain ⟨T, hT⟩ : ∃ T : Nat, T = M * (n + 1) := ⟨_, rfl⟩
  rw [← hT] at eT
  have hfit : I + T ≤ 24 := by
    have := g.2.2
    omega
  rw [show 24 * a + (I : Int) = ((24 * a.toNat + I : Nat) : Int) by omega]
  refine lp_186_52 (M := M) (n := n) (k := k) (T := T) (f := fun j => q 3 a.toNat (I + j)) (by omega) (by omega) (by omega) hT rfl (by omega) (fun j hj => ?_) (fun hy => h2 ⟨G, g, hy⟩) (fun hy => h1 ⟨G, g, hy⟩) T 0 (by omega) (fun j' hj' => by omega)
  rw [Nat.add_assoc]
  exact a4 _ (by omega)
theorem pr_33 {a l i M n k : Int} {m : jx_M} {R : Int → Int → jx_M → Prop} (hi : jx_in i) (hI : jv_I m) (K : ∀ z m2, jv_I m2 → fS m m2 → R z z m2) : jx_Cl 113 [xA 0 0, xI a, xI l, xI i, xI M, xI n, xI k] m (fun z1 m1 => jx_Cl 186 [xA 26 0, xI a, xI l, xI i, xI M, xI n, xI k] m1 (fun z2 m2 => R z1 z2 m2)) := by
  obtain ⟨d, e, q, hw, hC, hM⟩ := hI
  have kk := fun z => jv_ask (G := R z z m) hw hC hM (fcs_r m) (fms_r m) (K z m)
  have hs := sh_of hw
  exact cl_113 hs hC.2.2.2 (fun g => cl_186 hs hM.2.2.2 hi (fun _ => kk _) (fun z => absurd z.1 g) (fun z => absurd z.1 g) (fun z => absurd z.1 g) (fun z => absurd z.1 g) (fun z => absurd z.1 g)) (fun g => cl_186 hs hM.2.2.2 hi (fun z => absurd g.1 z) (fun _ => kk _) (fun z => by omega) (fun z => by omega) (fun z => by omega) (fun z => by omega)) (fun g => cl_186 hs hM.2.2.2 hi (fun z => absurd g.1 z) (fun z => by omega) (fun _ => kk _) (fun z => by omega) (fun z => by omega) (fun z => by omega)) (fun g => cl_186 hs hM.2.2.2 hi (fun z => absurd g.1 z) (fun z => by omega) (fun z => by omega) (fun _ => kk _) (fun z => absurd z.2.1.2 g.2.2) (fun z => absurd z.2.1.2 g.2.2)) (fun g => cl_186 hs hM.2.2.2 hi (fun z => absurd g.1 z) (fun z => by omega) (fun z => by omega) (fun z => absurd g.2.1.2 z.2.2) (fun _ => kk _) (fun z => absurd z.2.2 g.2.2)) (fun g => cl_186 hs hM.2.2.2 hi (fun z => absurd g.1 z) (fun z => by omega) (fun z => by omega) (fun z => absurd g.2.1.2 z.2.2) (fun z => absurd g.2.2 z.2.2) (fun _ => kk _))
