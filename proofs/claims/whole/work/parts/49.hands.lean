/-! hands that wrote one tune down -/
theorem mul_row {r M W : Nat} (h : r < M) : r * W + W ≤ M * W := by
  have := Nat.mul_le_mul_right W (show r + 1 ≤ M from h)
  rw [Nat.succ_mul] at this
  exact this
def nt1 (v : Int) : Prop := 0 ≤ v ∧ v ≤ 9
def hn_P (f : Nat → Int) (M n a : Nat) : Prop := ∀ r : Nat, r < M → ∀ p : Nat, p < n → nt1 (f (r * (a + n) + a + p))
theorem lp_111_17 {f : Nat → Int} {K I M n a r P T : Nat} {m : jx_M} {Q : Int → jx_M → Prop} (hK : K < 4) (hP : P = r * (a + n)) (hr : r < M) (hM : M ≤ 6) (hT : P + (a + n) ≤ T) (hI : I + T ≤ 24) (hf : ∀ j : Nat, j < T → m 24 K (I + j) = f j) (h0 : ¬ hn_P f M n a → Q 0 m)
    (K1 : (∀ p : Nat, p < n → nt1 (f (r * (a + n) + a + p))) → ∀ w6 w7 : Option jx_V, jx_AW 111 2 [some (xA 23 K), some (xI (I : Int)), some (xI (M : Int)), some (xI (n : Int)), some (xI (a : Int)), some (xI ((r : Int) + 1)), w6, w7] [] m Q) :
    ∀ (s p : Nat), p + s = n → (∀ p' : Nat, p' < p → nt1 (f (r * (a + n) + a + p'))) → jx_AW 111 17 [some (xA 23 K), some (xI (I : Int)), some (xI (M : Int)), some (xI (n : Int)), some (xI (a : Int)), some (xI (r : Int)), some (xI ((I + P + a : Nat) : Int)), some (xI (p : Int))] [] m Q := by
  intro s
  induction s with
  | zero =>
    intro p hp h
    exact sg_111_17 K I M n a r _ p m Q ⟨fun z => by omega, fun _ => ⟨by omega, K1 (fun p' hp' => h p' (by omega)) _ _⟩⟩
  | succ s ih =>
    intro p hp h
    refine sg_111_17 K I M n a r _ p m Q ⟨fun _ => ?_, fun z => by omega⟩
    rw [show (((I + P + a : Nat) : Int) + (p : Int)).toNat = I + (P + a + p) by omega, hf (P + a + p) (by omega)]
    refine ⟨hK, by omega, by omega, hK, cl_12 (fun g => ⟨fun z => by omega, fun _ => ⟨by omega, ih (p + 1) (by omega) (fun p' hp' => ?_)⟩⟩) (fun g => ⟨fun _ => ⟨by omega, h0 (fun z => g ?_)⟩, fun z => by omega⟩)⟩
    · rcases Nat.lt_or_ge p' p with q | q
      · exact h p' q
      · obtain rfl : p' = p := by omega
        rw [← hP]; exact g
    · have := z r hr p (by omega)
      rw [← hP] at this
      exact this
theorem lp_111 {f : Nat → Int} {K I M n a T : Nat} {m : jx_M} {Q : Int → jx_M → Prop} (hK : K < 4) (hM : M ≤ 6) (hn : n ≤ 6) (ha : a ≤ 1) (hT : T = M * (a + n)) (hI : I + T ≤ 24) (hf : ∀ j : Nat, j < T → m 24 K (I + j) = f j) (h1 : hn_P f M n a → Q 1 m) (h0 : ¬ hn_P f M n a → Q 0 m) :
    ∀ (s r : Nat) (w6 w7 : Option jx_V), r + s = M → (∀ r' : Nat, r' < r → ∀ p : Nat, p < n → nt1 (f (r' * (a + n) + a + p))) → jx_AW 111 2 [some (xA 23 K), some (xI (I : Int)), some (xI (M : Int)), some (xI (n : Int)), some (xI (a : Int)), some (xI (r : Int)), w6, w7] [] m Q := by
  intro s
  induction s with
  | zero =>
    intro r w6 w7 hr h
    exact sg_111_2 K I M n a r w6 w7 m Q ⟨fun z => by omega, fun _ => ⟨by omega, h1 (fun r' hr' => h r' (by omega))⟩⟩
  | succ s ih =>
    intro r w6 w7 hr h
    obtain ⟨P, hP⟩ : ∃ P : Nat, P = r * (a + n) := ⟨_, rfl⟩
    have hb := mul_row (r := r) (M := M) (W := a + n) (by omega)
    rw [← hP, ← hT] at hb
    have e : (r : Int) * ((a : Int) + (n : Int)) = (P : Int) := by rw [hP, Int.natCast_mul, Int.natCast_add]
    refine sg_111_2 K I M n a r w6 w7 m Q ⟨fun _ => ?_, fun z => by omega⟩
    rw [e]
    refine ⟨by omega, by omega, by omega, by omega, ?_⟩
    have l := lp_111_17 (m := m) (Q := Q) hK hP (by omega) hM hb hI hf h0 (fun g w6 w7 => ih (r + 1) w6 w7 (by omega) (fun r' hr' => by
      rcases Nat.lt_or_ge r' r with q | q
      · exact h r' q
      · obtain rfl : r' = r := by omega
        exact g)) n 0 (by omega) (fun p' hp' => by omega)
    rw [show ((I + P + a : Nat) : Int) = (I : Int) + (P : Int) + (a : Int) by omega] at l
    exact l
theorem cl_111 {f : Nat → Int} {K I M n a T : Nat} {m : jx_M} {Q : Int → jx_M → Prop} (hK : K < 4) (hM : M ≤ 6) (hn : n ≤ 6) (ha : a ≤ 1) (hT : T = M * (a + n)) (hI : I + T ≤ 24) (hf : ∀ j : Nat, j < T → m 24 K (I + j) = f j) (h1 : hn_P f M n a → Q 1 m) (h0 : ¬ hn_P f M n a → Q 0 m) : jx_Cl 111 [xA 23 K, xI (I : Int), xI (M : Int), xI (n : Int), xI (a : Int)] m Q :=
  sg_111 K I M n a m Q (lp_111 hK hM hn ha hT hI hf h1 h0 M 0 none none (by omega) (fun r' hr' => by omega))
/-- the most common: (which, how often) -/
noncomputable def sp_mc (g : Nat → Int) (M : Nat) : Nat → Int × Int
  | 0 => (0, 0)
  | k + 1 => if (sp_mc g M k).2 < nb_ct (fun r => g r = (k : Int)) M then ((k : Int), nb_ct (fun r => g r = (k : Int)) M) else sp_mc g M k
theorem mc_y {g : Nat → Int} {M k : Nat} (h : (sp_mc g M k).2 < nb_ct (fun r => g r = (k : Int)) M) : sp_mc g M (k + 1) = ((k : Int), nb_ct (fun r => g r = (k : Int)) M) := if_pos h
theorem mc_n {g : Nat → Int} {M k : Nat} (h : ¬ (sp_mc g M k).2 < nb_ct (fun r => g r = (k : Int)) M) : sp_mc g M (k + 1) = sp_mc g M k := if_neg h
theorem mc_in {g : Nat → Int} {M : Nat} : ∀ k : Nat, (0 ≤ (sp_mc g M k).1 ∧ (sp_mc g M k).1 ≤ (k : Int) - 1 ∨ (sp_mc g M k).1 = 0) ∧ 0 ≤ (sp_mc g M k).2 ∧ (sp_mc g M k).2 ≤ M
  | 0 => ⟨Or.inr rfl, by show (0 : Int) ≤ 0 ∧ (0 : Int) ≤ M; omega⟩
  | k + 1 => by
    have h := mc_in (g := g) (M := M) k
    have c := nb_ct_in (fun r => g r = (k : Int)) M
    by_cases q : (sp_mc g M k).2 < nb_ct (fun r => g r = (k : Int)) M
    · rw [mc_y q]
      refine ⟨Or.inl ?_, ?_⟩
      · show 0 ≤ (k : Int) ∧ (k : Int) ≤ ((k + 1 : Nat) : Int) - 1; omega
      · exact c
    · rw [mc_n q]; omega
theorem mc_mono {g : Nat → Int} {M : Nat} (j : Nat) : ∀ d : Nat, nb_ct (fun r => g r = (j : Int)) M ≤ (sp_mc g M (j + 1 + d)).2
  | 0 => by
    by_cases q : (sp_mc g M j).2 < nb_ct (fun r => g r = (j : Int)) M
    · rw [Nat.add_zero, mc_y q]; exact Int.le_refl _
    · rw [Nat.add_zero, mc_n q]; omega
  | d + 1 => by
    have h := mc_mono (g := g) (M := M) j d
    show _ ≤ (sp_mc g M ((j + 1 + d) + 1)).2
    by_cases q : (sp_mc g M (j + 1 + d)).2 < nb_ct (fun r => g r = ((j + 1 + d : Nat) : Int)) M
    · rw [mc_y q]; show _ ≤ nb_ct (fun r => g r = ((j + 1 + d : Nat) : Int)) M; omega
    · rw [mc_n q]; exact h
theorem nb_ct_pos {P : Nat → Prop} {i : Nat} (h : P i) : ∀ n : Nat, i < n → 1 ≤ nb_ct P n
  | 0, hi => by omega
  | n + 1, hi => by
    have c := nb_ct_in P n
    have c2 := nb_in (P n)
    rcases Nat.lt_or_ge i n with q | q
    · have := nb_ct_pos h n q
      show 1 ≤ nb_ct P n + nb_c (P n)
      omega
    · obtain rfl : i = n := by omega
      rw [nb_ct_yes h]
      omega
theorem mc_pos {g : Nat → Int} {M : Nat} (hM : 1 ≤ M) (hg : nt1 (g 0)) : 1 ≤ (sp_mc g M 10).2 := by
  obtain ⟨h1, h2⟩ := hg
  obtain ⟨j, hj⟩ : ∃ j : Nat, g 0 = (j : Int) := ⟨(g 0).toNat, by omega⟩
  have a := mc_mono (g := g) (M := M) j (9 - j)
  rw [show j + 1 + (9 - j) = 10 by omega] at a
  have b := nb_ct_pos (P := fun r => g r = (j : Int)) (i := 0) hj M (by omega)
  omega
theorem lp_112_13 {g : Nat → Int} {K F M n k : Nat} {m : jx_M} {Q : Int → jx_M → Prop} (hK : K < 4) (hM : M ≤ 6) (hn : n ≤ 6) (hg : ∀ r : Nat, r < M → F + r * n < 24 ∧ m 24 K (F + r * n) = g r) (hk : k < 10)
    (K1 : ∀ w7 w8 : Option jx_V, jx_AW 112 6 [some (xA 23 K), some (xI (F : Int)), some (xI (M : Int)), some (xI (n : Int)), some (xI (sp_mc g M (k + 1)).1), some (xI (sp_mc g M (k + 1)).2), some (xI ((k : Int) + 1)), w7, w8] [] m Q) :
    ∀ (s r : Nat), r + s = M → jx_AW 112 13 [some (xA 23 K), some (xI (F : Int)), some (xI (M : Int)), some (xI (n : Int)), some (xI (sp_mc g M k).1), some (xI (sp_mc g M k).2), some (xI (k : Int)), some (xI (nb_ct (fun r => g r = (k : Int)) r)), some (xI (r : Int))] [] m Q := by
  intro s
  induction s with
  | zero =>
    intro r hr
    obtain rfl : r = M := by omega
    refine sg_112_13 K F r n _ _ k _ _ m Q ⟨fun z => by omega, fun _ => ⟨fun z => ⟨by omega, ?_⟩, fun z => ⟨by omega, ?_⟩⟩⟩
    · rw [mc_y z] at K1; exact K1 _ _
    · rw [mc_n z] at K1; exact K1 _ _
  | succ s ih =>
    intro r hr
    have hc := nb_ct_in (fun r => g r = (k : Int)) r
    obtain ⟨g1, g2⟩ := hg r (by omega)
    have nx := ih (r + 1) (by omega)
    obtain ⟨P, hP⟩ : ∃ P : Nat, P = r * n := ⟨_, rfl⟩
    have e : (r : Int) * (n : Int) = (P : Int) := by rw [hP, Int.natCast_mul]
    rw [← hP] at g1 g2
    refine sg_112_13 K F M n _ _ k _ r m Q ⟨fun _ => ?_, fun z => by omega⟩
    rw [e, show ((F : Int) + (P : Int)).toNat = F + P by omega, g2]
    refine ⟨hK, by omega, by omega, by omega, hK, fun z => ⟨by omega, by omega, ?_⟩, fun z => ⟨by omega, ?_⟩⟩
    · rw [nb_ct_yes (P := fun r => g r = (k : Int)) z] at nx; exact nx
    · rw [nb_ct_no (P := fun r => g r = (k : Int)) z] at nx; exact nx
theorem lp_112 {g : Nat → Int} {K F M n : Nat} {m : jx_M} {Q : Int → jx_M → Prop} (hK : K < 4) (hM : M ≤ 6) (hn : n ≤ 6) (hg : ∀ r : Nat, r < M → F + r * n < 24 ∧ m 24 K (F + r * n) = g r) (hq : Q (sp_mc g M 10).1 m) :
    ∀ (s k : Nat) (w7 w8 : Option jx_V), k + s = 10 → jx_AW 112 6 [some (xA 23 K), some (xI (F : Int)), some (xI (M : Int)), some (xI (n : Int)), some (xI (sp_mc g M k).1), some (xI (sp_mc g M k).2), some (xI (k : Int)), w7, w8] [] m Q := by
  intro s
  induction s with
  | zero =>
    intro k w7 w8 hk
    obtain rfl : k = 10 := by omega
    exact sg_112_6 K F M n _ _ _ w7 w8 m Q ⟨fun _ => hq, fun z => by omega⟩
  | succ s ih =>
    intro k w7 w8 hk
    exact sg_112_6 K F M n _ _ k w7 w8 m Q ⟨fun z => by omega, fun _ => lp_112_13 hK hM hn hg (by omega) (fun w7 w8 => ih (k + 1) w7 w8 (by omega)) M 0 (by omega)⟩
theorem cl_112 {g : Nat → Int} {K F M n : Nat} {m : jx_M} {Q : Int → jx_M → Prop} (hK : K < 4) (hM : M ≤ 6) (hn : n ≤ 6) (hg : ∀ r : Nat, r < M → F + r * n < 24 ∧ m 24 K (F + r * n) = g r) (hq : Q (sp_mc g M 10).1 m) : jx_Cl 112 [xA 23 K, xI (F : Int), xI (M : Int), xI (n : Int)] m Q :=
  sg_112 K F M n m Q (lp_112 hK hM hn hg hq 10 0 none none (by omega))
/-- the tune that most hands wrote -/
noncomputable def hn_v (f : Nat → Int) (M n p : Nat) : Int := (sp_mc (fun r => f (r * n + p)) M 10).1
theorem hn_v_ok (f : Nat → Int) (M n : Nat) (k : Int) : nt_ok (hn_v f M n) k := fun p _ => by
  have h := (mc_in (g := fun r => f (r * n + p)) (M := M) 10).1
  unfold hn_v
  omega
/-- what hands answers, where it is not refused -/
def sp_ha (d : jx_M) (f : Nat → Int) (M n : Nat) (k z : Int) : Prop := (k < 0 → z = (sp_nr d (hn_v f M n) n (d 1 0 0).toNat).1) ∧ (¬ k < 0 → z = hn_v f M n k.toNat)
theorem lp_106 {d : jx_M} {f : Nat → Int} {K I M n T : Nat} {b1 b2 b8 k : Int} {m : jx_M} {Q : Int → jx_M → Prop} (hw : dt_w d) (hr : rc_T m 0 d) (hK : K < 4) (hM : 1 ≤ M ∧ M ≤ 6) (hn : 1 ≤ n ∧ n ≤ 6) (hT : T = M * n) (hI : I + T ≤ 24) (hf : ∀ j : Nat, j < T → m 24 K (I + j) = f j) (hk : -1 ≤ k ∧ k ≤ (n : Int) - 1) (h1 : ∀ z m2, sp_ha d f M n k z → fcs m m2 → Q z m2) :
    ∀ (s p : Nat) (m1 : jx_M), p + s = n → fcs m m1 → (∀ p' : Nat, p' < p → m1 25 0 p' = hn_v f M n p') → jx_AW 106 53 [some (xA 0 0), some (xI b1), some (xI b2), some (xI (I : Int)), some (xI (M : Int)), some (xI (n : Int)), some (xI k), some (xA 23 K), some (xI b8), some (xI (p : Int))] [] m1 Q := by
  intro s
  induction s with
  | zero =>
    intro p m1 hp hfr h
    refine sg_106_53 b1 b2 I M n k K b8 p m1 Q ⟨fun z => by omega, fun _ => ⟨fun z => ⟨by omega, by omega, cl_88 (f := hn_v f M n) hw (fcs_rc (by omega) hw hfr hr) (by omega) (hn_v_ok f M n n) (fun i hi => h i (by omega)) (h1 _ _ ⟨fun _ => rfl, fun q => absurd z q⟩ hfr)⟩, fun z => ⟨by omega, by omega, by omega, h1 _ _ ⟨fun q => absurd q z, fun _ => h k.toNat (by omega)⟩ hfr⟩⟩⟩
  | succ s ih =>
    intro p m1 hp hfr h
    refine sg_106_53 b1 b2 I M n k K b8 p m1 Q ⟨fun _ => ⟨by omega, by omega, hK, ?_⟩, fun z => by omega⟩
    rw [show (I : Int) + (p : Int) = ((I + p : Nat) : Int) by omega]
    refine cl_112 (g := fun r => f (r * n + p)) hK hM.2 hn.2 (fun r hr' => ?_) ⟨by omega, by omega, by omega, ih (p + 1) _ (by omega) (fun s i j hn' => ?_) (fun p' hp' => ?_)⟩
    · have hb := mul_row (r := r) (M := M) (W := n) hr'
      rw [← hT] at hb
      refine ⟨by omega, ?_⟩
      rw [show I + p + r * n = I + (r * n + p) by omega, hfr 24 K _ (by omega)]
      exact hf _ (by omega)
    · rw [up_ne (by omega)]; exact hfr s i j hn'
    · rw [show ((p : Int)).toNat = p by omega]
      rcases Nat.decEq p' p with q | q
      · rw [up_ne (by omega)]; exact h p' (by omega)
      · subst q; exact up_eq
def g_ha (a l i M n k : Int) : Prop := (0 ≤ a ∧ a < 4) ∧ (0 ≤ l ∧ l < 3) ∧ (1 ≤ M ∧ M ≤ 6) ∧ (1 ≤ n ∧ n ≤ 6) ∧ (-1 ≤ k ∧ k ≤ n - 1)
theorem pos_mul {M n : Int} (hM : 1 ≤ M ∧ M ≤ 6) (hn : 1 ≤ n ∧ n ≤ 7) : 0 ≤ M * n ∧ M * n ≤ 42 := by
  refine ⟨Int.mul_nonneg (by omega) (by omega), ?_⟩
  have := Int.mul_le_mul hM.2 hn.2 (by omega) (by omega)
  omega
theorem cl_106 {d q : jx_M} {a l i M n k : Int} {m : jx_M} {Q : Int → jx_M → Prop} (hw : dt_w d) (hs : sh_w q) (hr : rc_T m 0 d) (hH : jc_H m q) (h0 : ¬ g_ha a l i M n k → Q (-1) m) (h11 : g_ha a l i M n k ∧ q 2 a.toNat 0 = 0 → Q (-11) m) (h12 : g_ha a l i M n k ∧ q 2 a.toNat 0 = 1 ∧ ¬ q 2 a.toNat 1 = l → Q (-12) m) (h13 : g_ha a l i M n k ∧ (q 2 a.toNat 0 = 1 ∧ q 2 a.toNat 1 = l) ∧ ¬ (0 ≤ i ∧ i + M * n ≤ q 2 a.toNat 2) → Q (-13) m)
    (h2 : g_ha a l i M n k ∧ ((q 2 a.toNat 0 = 1 ∧ q 2 a.toNat 1 = l) ∧ (0 ≤ i ∧ i + M * n ≤ q 2 a.toNat 2)) ∧ ¬ hn_P (fun j => q 3 a.toNat (i.toNat + j)) M.toNat n.toNat 0 → Q (-2) m)
    (h1 : ∀ z m2, g_ha a l i M n k ∧ ((q 2 a.toNat 0 = 1 ∧ q 2 a.toNat 1 = l) ∧ (0 ≤ i ∧ i + M * n ≤ q 2 a.toNat 2)) ∧ hn_P (fun j => q 3 a.toNat (i.toNat + j)) M.toNat n.toNat 0 → sp_ha d (fun j => q 3 a.toNat (i.toNat + j)) M.toNat n.toNat k z → fcs m m2 → Q z m2) : jx_Cl 106 [xA 0 0, xI a, xI l, xI i, xI M, xI n, xI k] m Q := by
  unfold g_ha at *
  refine sg_106 a l i M n k m Q (cl_107 (fun g1 => ⟨fun z => by omega, fun _ => cl_108 (fun g2 => ⟨fun z => by omega, fun _ => cl_12 (fun g3 => ⟨fun z => by omega, fun _ => cl_12 (fun g4 => ⟨fun z => by omega, fun _ => ⟨by omega, cl_12 (fun g5 => ⟨fun z => by omega, fun _ => ?_⟩) (fun g => ⟨fun _ => h0 (by omega), fun z => by omega⟩)⟩⟩) (fun g => ⟨fun _ => h0 (by omega), fun z => by omega⟩)⟩) (fun g => ⟨fun _ => h0 (by omega), fun z => by omega⟩)⟩) (fun g => ⟨fun _ => h0 (by omega), fun z => by omega⟩)⟩) (fun g => ⟨fun _ => h0 (by omega), fun z => by omega⟩))
  have hmul := pos_mul g3 (show 1 ≤ n ∧ n ≤ 7 by omega)
  obtain ⟨a1, a2, a3, a4⟩ := hH a.toNat (by omega)
  obtain ⟨b1, b2, b3⟩ := hs a.toNat (by omega)
  have G : (0 ≤ a ∧ a < 4) ∧ (0 ≤ l ∧ l < 3) ∧ (1 ≤ M ∧ M ≤ 6) ∧ (1 ≤ n ∧ n ≤ 6) ∧ (-1 ≤ k ∧ k ≤ n - 1) := by omega
  refine ⟨by omega, by omega, by omega, by omega, by omega, cl_109 (by omega) hs hH (by omega) (fun g => ⟨fun z => by omega, fun _ => h11 ⟨G, g⟩⟩) (fun g => ⟨fun z => by omega, fun _ => h12 ⟨G, g⟩⟩) (fun g => ⟨fun z => by omega, fun _ => h13 ⟨G, g⟩⟩) (fun g => ⟨fun _ => ⟨by omega, ?_⟩, fun z => by omega⟩)⟩
  obtain ⟨I, rfl⟩ : ∃ I : Nat, i = (I : Int) := ⟨i.toNat, by omega⟩
  obtain ⟨M, rfl⟩ : ∃ N : Nat, M = (N : Int) := ⟨M.toNat, by omega⟩
  obtain ⟨n, rfl⟩ : ∃ N : Nat, n = (N : Int) := ⟨n.toNat, by omega⟩
  have eT : ((M * n : Nat) : Int) = (M : Int) * (n : Int) := Int.natCast_mul _ _
  have hfit : I + M * n ≤ 24 := by
    have := g.2.2
    omega
  have hf : ∀ j : Nat, j < M * n → m 24 a.toNat (I + j) = q 3 a.toNat (I + j) := fun j hj => a4 _ (by omega)
  refine cl_111 (f := fun j => q 3 a.toNat (I + j)) (a := 0) (T := M * n) (by omega) (by omega) (by omega) (by omega) (by rw [Nat.zero_add]) hfit hf (fun hy => ⟨fun z => by omega, fun _ => ?_⟩) (fun hy => ⟨fun _ => h2 ⟨G, g, hy⟩, fun z => by omega⟩)
  exact lp_106 (f := fun j => q 3 a.toNat (I + j)) hw hr (by omega) (by omega) (by omega) rfl hfit hf (by omega) (fun z m2 hz f2 => h1 z m2 ⟨G, g, hy⟩ hz f2) n 0 m (by omega) (fcs_r m) (fun p' hp' => by omega)
-- the reference
theorem lp_182_86 {f : Nat → Int} {B M n p k : Nat} {b1 b2 b3 b6 b7 : Int} {m : jx_M} {Q : Int → jx_M → Prop} (hM : M ≤ 6) (hn : n ≤ 6) (hp : p < n) (hB : B ≤ 96) (hg : ∀ r : Nat, r < M → B + (r * n + p) < 96 ∧ m 45 0 (B + (r * n + p)) = f (r * n + p)) (hk : k < 10)
    (ky : (sp_mc (fun r => f (r * n + p)) M k).2 < nb_ct (fun r => f (r * n + p) = (k : Int)) M → ∀ w12 w13 : Option jx_V, jx_AW 182 79 [some (xA 26 0), some (xI b1), some (xI b2), some (xI b3), some (xI (M : Int)), some (xI (n : Int)), some (xI b6), some (xI b7), some (xI (B : Int)), some (xI (p : Int)), some (xI (nb_ct (fun r => f (r * n + p) = (k : Int)) M)), some (xI ((k : Int) + 1)), w12, w13] [] (jx_up m 41 0 p (k : Int)) Q)
    (kn : ¬ (sp_mc (fun r => f (r * n + p)) M k).2 < nb_ct (fun r => f (r * n + p) = (k : Int)) M → ∀ w12 w13 : Option jx_V, jx_AW 182 79 [some (xA 26 0), some (xI b1), some (xI b2), some (xI b3), some (xI (M : Int)), some (xI (n : Int)), some (xI b6), some (xI b7), some (xI (B : Int)), some (xI (p : Int)), some (xI (sp_mc (fun r => f (r * n + p)) M k).2), some (xI ((k : Int) + 1)), w12, w13] [] (jx_up m 41 0 p (m 41 0 p)) Q) :
    ∀ (s r : Nat), r + s = M → jx_AW 182 86 [some (xA 26 0), some (xI b1), some (xI b2), some (xI b3), some (xI (M : Int)), some (xI (n : Int)), some (xI b6), some (xI b7), some (xI (B : Int)), some (xI (p : Int)), some (xI (sp_mc (fun r => f (r * n + p)) M k).2), some (xI (k : Int)), some (xI (nb_ct (fun r => f (r * n + p) = (k : Int)) r)), some (xI (r : Int))] [] m Q := by
  intro s
  induction s with
  | zero =>
    intro r hr
    obtain rfl : r = M := by omega
    refine sg_182_86 b1 b2 b3 r n b6 b7 B p _ k _ _ m Q ⟨fun z => by omega, fun _ => ?_⟩
    rw [show ((p : Int)).toNat = p by omega]
    exact ⟨by omega, fun z => ⟨by omega, by omega, fun _ => ⟨by omega, ky z _ _⟩, fun z2 => absurd z z2⟩, fun z => ⟨by omega, by omega, by omega, by omega, by omega, fun z2 => absurd z2 z, fun _ => ⟨by omega, kn z _ _⟩⟩⟩
  | succ s ih =>
    intro r hr
    have hc := nb_ct_in (fun r => f (r * n + p) = (k : Int)) r
    obtain ⟨g1, g2⟩ := hg r (by omega)
    have nx := ih (r + 1) (by omega)
    obtain ⟨P, hP⟩ : ∃ P : Nat, P = r * n := ⟨_, rfl⟩
    have e : (n : Int) * (r : Int) = (P : Int) := by rw [hP, Int.natCast_mul, Int.mul_comm]
    rw [← hP] at g1 g2
    refine sg_182_86 b1 b2 b3 M n b6 b7 B p _ k _ r m Q ⟨fun _ => ?_, fun z => by omega⟩
    rw [e, show ((B : Int) + (P : Int) + (p : Int)).toNat = B + (P + p) by omega, g2]
    refine ⟨by omega, by omega, by omega, by omega, by omega, by omega, fun z => ⟨by omega, by omega, ?_⟩, fun z => ⟨by omega, by omega, ?_⟩⟩
    · rw [nb_ct_yes (P := fun r => f (r * n + p) = (k : Int)) (n := r) (by rw [← hP]; exact z)] at nx; exact nx
    · rw [nb_ct_no (P := fun r => f (r * n + p) = (k : Int)) (n := r) (by rw [← hP]; exact z)] at nx; rw [Int.add_zero]; exact nx
theorem lp_182_79 {f : Nat → Int} {B M n p : Nat} {b1 b2 b3 b6 b7 : Int} {m : jx_M} {Q : Int → jx_M → Prop} (hM : 1 ≤ M ∧ M ≤ 6) (hn : n ≤ 6) (hp : p < n) (hB : B ≤ 96) (hg : ∀ r : Nat, r < M → B + (r * n + p) < 96 ∧ m 45 0 (B + (r * n + p)) = f (r * n + p)) (hz : nt1 (f (0 * n + p)))
    (K1 : ∀ m2 (w10 w11 w12 w13 : Option jx_V), (∀ s i j, ¬ (s = 41 ∧ i = 0 ∧ j = p) → m2 s i j = m s i j) → m2 41 0 p = hn_v f M n p → jx_AW 182 72 [some (xA 26 0), some (xI b1), some (xI b2), some (xI b3), some (xI (M : Int)), some (xI (n : Int)), some (xI b6), some (xI b7), some (xI (B : Int)), some (xI ((p : Int) + 1)), w10, w11, w12, w13] [] m2 Q) :
    ∀ (s k : Nat) (m1 : jx_M) (w12 w13 : Option jx_V), k + s = 10 → (∀ s i j, ¬ (s = 41 ∧ i = 0 ∧ j = p) → m1 s i j = m s i j) → (1 ≤ (sp_mc (fun r => f (r * n + p)) M k).2 → m1 41 0 p = (sp_mc (fun r => f (r * n + p)) M k).1) → jx_AW 182 79 [some (xA 26 0), some (xI b1), some (xI b2), some (xI b3), some (xI (M : Int)), some (xI (n : Int)), some (xI b6), some (xI b7), some (xI (B : Int)), some (xI (p : Int)), some (xI (sp_mc (fun r => f (r * n + p)) M k).2), some (xI (k : Int)), w12, w13] [] m1 Q := by
  intro s
  induction s with
  | zero =>
    intro k m1 w12 w13 hk hf h
    obtain rfl : k = 10 := by omega
    exact sg_182_79 b1 b2 b3 M n b6 b7 B p _ _ w12 w13 m1 Q ⟨fun z => by omega, fun _ => ⟨by omega, K1 m1 _ _ _ _ hf (h (mc_pos hM.1 hz))⟩⟩
  | succ s ih =>
    intro k m1 w12 w13 hk hf h
    have mi := mc_in (g := fun r => f (r * n + p)) (M := M) k
    have fr : ∀ v : Int, ∀ s i j, ¬ (s = 41 ∧ i = 0 ∧ j = p) → jx_up m1 41 0 p v s i j = m s i j := fun v s i j hn => by rw [up_ne hn]; exact hf s i j hn
    refine sg_182_79 b1 b2 b3 M n b6 b7 B p _ k w12 w13 m1 Q ⟨fun _ => lp_182_86 (f := f) hM.2 hn hp hB (fun r hr => ⟨(hg r hr).1, (hf 45 0 _ (by omega)).trans (hg r hr).2⟩) (by omega) (fun z w12 w13 => ?_) (fun z w12 w13 => ?_) M 0 (by omega), fun z => by omega⟩
    · have nx := ih (k + 1) (jx_up m1 41 0 p (k : Int)) w12 w13 (by omega) (fr _) (fun _ => by rw [mc_y z, up_eq])
      rw [mc_y z] at nx
      exact nx
    · have nx := ih (k + 1) (jx_up m1 41 0 p (m1 41 0 p)) w12 w13 (by omega) (fr _) (fun q => by rw [mc_n z] at q ⊢; rw [up_eq]; exact h q)
      rw [mc_n z] at nx
      exact nx
theorem lp_182_72 {d : jx_M} {f : Nat → Int} {B M n : Nat} {b1 b2 b3 b7 k : Int} {m : jx_M} {Q : Int → jx_M → Prop} (hw : dt_w d) (hr : re_T m d) (hM : 1 ≤ M ∧ M ≤ 6) (hn : 1 ≤ n ∧ n ≤ 6) (hB : B ≤ 96) (hg : ∀ j : Nat, j < M * n → B + j < 96 ∧ m 45 0 (B + j) = f j) (hz : ∀ p : Nat, p < n → nt1 (f p)) (hk : -1 ≤ k ∧ k ≤ (n : Int) - 1) (h1 : ∀ z m2, sp_ha d f M n k z → fms m m2 → Q z m2) :
    ∀ (s p : Nat) (m1 : jx_M) (w10 w11 w12 w13 : Option jx_V), p + s = n → fms m m1 → (∀ p' : Nat, p' < p → m1 41 0 p' = hn_v f M n p') → jx_AW 182 72 [some (xA 26 0), some (xI b1), some (xI b2), some (xI b3), some (xI (M : Int)), some (xI (n : Int)), some (xI k), some (xI b7), some (xI (B : Int)), some (xI (p : Int)), w10, w11, w12, w13] [] m1 Q := by
  intro s
  induction s with
  | zero =>
    intro p m1 w10 w11 w12 w13 hp hfr h
    have hr1 : re_T m1 d := re_fr (fun s j hs hj => hfr s 0 j (by omega)) hr
    refine sg_182_72 b1 b2 b3 M n k b7 B p w10 w11 w12 w13 m1 Q ⟨fun z => by omega, fun _ => ⟨fun z => ⟨by omega, cl_167 (f := hn_v f M n) hw hr1 (by omega) (hn_v_ok f M n n) (fun i hi => h i (by omega)) (fun m2 f2 g2 => ⟨by omega, h1 _ _ ⟨fun _ => g2, fun q => absurd z q⟩ (fun s i j hn' => (f2 s i j (by omega)).trans (hfr s i j hn'))⟩)⟩, fun z => ⟨by omega, by omega, by omega, h1 _ _ ⟨fun q => absurd q z, fun _ => h k.toNat (by omega)⟩ hfr⟩⟩⟩
  | succ s ih =>
    intro p m1 w10 w11 w12 w13 hp hfr h
    have hg' : ∀ r : Nat, r < M → B + (r * n + p) < 96 ∧ m1 45 0 (B + (r * n + p)) = f (r * n + p) := fun r hr' => by
      have hb := mul_row (r := r) (M := M) (W := n) hr'
      have := hg (r * n + p) (by omega)
      exact ⟨this.1, (hfr 45 0 _ (by omega)).trans this.2⟩
    refine sg_182_72 b1 b2 b3 M n k b7 B p w10 w11 w12 w13 m1 Q ⟨fun _ => lp_182_79 (f := f) hM hn.2 (by omega) hB hg' (by rw [Nat.zero_mul, Nat.zero_add]; exact hz p (by omega)) (fun m2 w10 w11 w12 w13 f2 g2 => ih (p + 1) m2 w10 w11 w12 w13 (by omega) (fun s i j hn' => (f2 s i j (by omega)).trans (hfr s i j hn')) (fun p' hp' => ?_)) 10 0 m1 w12 w13 (by omega) (fun _ _ _ _ => rfl) (fun q => by have : (1 : Int) ≤ 0 := q; omega), fun z => by omega⟩
    rcases Nat.decEq p' p with q | q
    · rw [f2 41 0 p' (by omega)]; exact h p' (by omega)
    · subst q; exact g2
/-- notes all, by rows or one behind the other -/
theorem hn_all {f : Nat → Int} {M n : Nat} (hn : 1 ≤ n) : hn_P f M n 0 ↔ ∀ j : Nat, j < M * n → nt1 (f j) := by
  constructor
  · intro h j hj
    have h1 := Nat.div_add_mod j n
    have h2 := Nat.mod_lt j (show 0 < n by omega)
    have h3 : j / n < M := Nat.div_lt_of_lt_mul (by rw [Nat.mul_comm]; exact hj)
    have := h (j / n) h3 (j % n) h2
    rw [Nat.zero_add, Nat.add_zero, Nat.mul_comm, h1] at this
    exact this
  · intro h r hr p hp
    have hb := mul_row (r := r) (M := M) (W := n) hr
    rw [Nat.zero_add, Nat.add_zero]
    exact h _ (by omega)
theorem lp_182_50 {d : jx_M} {f : Nat → Int} {B M n : Nat} {b1 b2 b3 b7 k : Int} {w10 w11 w12 w13 : Option jx_V} {m : jx_M} {Q : Int → jx_M → Prop} (hw : dt_w d) (hr : re_T m d) (hM : 1 ≤ M ∧ M ≤ 6) (hn : 1 ≤ n ∧ n ≤ 6) (hB : B ≤ 96) (hg : ∀ j : Nat, j < M * n → B + j < 96 ∧ m 45 0 (B + j) = f j) (hk : -1 ≤ k ∧ k ≤ (n : Int) - 1) (h2 : ¬ hn_P f M n 0 → Q (-2) m) (h1 : ∀ z m2, hn_P f M n 0 → sp_ha d f M n k z → fms m m2 → Q z m2) :
    ∀ (s j : Nat), j + s = M * n → (∀ j' : Nat, j' < j → nt1 (f j')) → jx_AW 182 50 [some (xA 26 0), some (xI b1), some (xI b2), some (xI b3), some (xI (M : Int)), some (xI (n : Int)), some (xI k), some (xI b7), some (xI (B : Int)), some (xI (j : Int)), w10, w11, w12, w13] [] m Q := by
  have eT : (M : Int) * (n : Int) = ((M * n : Nat) : Int) := (Int.natCast_mul _ _).symm
  have hmul := pos_mul (M := (M : Int)) (n := (n : Int)) (by omega) (by omega)
  rw [eT] at hmul
  have one : n ≤ M * n := by have := mul_row (r := 0) (M := M) (W := n) (by omega); omega
  intro s
  induction s with
  | zero =>
    intro j hj h
    have hy : hn_P f M n 0 := (hn_all hn.1).mpr (fun j' hj' => h j' (by omega))
    refine sg_182_50 b1 b2 b3 M n k b7 B j w10 w11 w12 w13 m Q ?_
    rw [eT]
    exact ⟨by omega, fun z => by omega, fun _ => lp_182_72 (f := f) hw hr hM hn hB hg (fun p hp => h p (by omega)) hk (fun z m2 hz f2 => h1 z m2 hy hz f2) n 0 m w10 w11 w12 w13 (by omega) (fms_r m) (fun p' hp' => by omega)⟩
  | succ s ih =>
    intro j hj h
    have g := hg j (by omega)
    refine sg_182_50 b1 b2 b3 M n k b7 B j w10 w11 w12 w13 m Q ?_
    rw [eT, show ((B : Int) + (j : Int)).toNat = B + j by omega, g.2]
    refine ⟨by omega, fun _ => ⟨by omega, by omega, by omega, by omega, cl_125 (fun gg => ⟨fun z => by omega, fun _ => ⟨by omega, ih (j + 1) (by omega) (fun j' hj' => ?_)⟩⟩) (fun gg => ⟨fun _ => h2 (fun z => gg ((hn_all hn.1).mp z j (by omega))), fun z => by omega⟩)⟩, fun z => by omega⟩
    rcases Nat.lt_or_ge j' j with q | q
    · exact h j' q
    · obtain rfl : j' = j := by omega
      exact gg
theorem cl_182 {d q : jx_M} {a l i M n k : Int} {m : jx_M} {Q : Int → jx_M → Prop} (hw : dt_w d) (hs : sh_w q) (hr : re_T m d) (hH : jm_H m q) (hi : jx_in i) (h0 : ¬ g_ha a l i M n k → Q (-1) m) (h11 : g_ha a l i M n k ∧ q 2 a.toNat 0 = 0 → Q (-11) m) (h12 : g_ha a l i M n k ∧ q 2 a.toNat 0 = 1 ∧ ¬ q 2 a.toNat 1 = l → Q (-12) m) (h13 : g_ha a l i M n k ∧ (q 2 a.toNat 0 = 1 ∧ q 2 a.toNat 1 = l) ∧ ¬ (0 ≤ i ∧ i + M * n ≤ q 2 a.toNat 2) → Q (-13) m)
    (h2 : g_ha a l i M n k ∧ ((q 2 a.toNat 0 = 1 ∧ q 2 a.toNat 1 = l) ∧ (0 ≤ i ∧ i + M * n ≤ q 2 a.toNat 2)) ∧ ¬ hn_P (fun j => q 3 a.toNat (i.toNat + j)) M.toNat n.toNat 0 → Q (-2) m)
    (h1 : ∀ z m2, g_ha a l i M n k ∧ ((q 2 a.toNat 0 = 1 ∧ q 2 a.toNat 1 = l) ∧ (0 ≤ i ∧ i + M * n ≤ q 2 a.toNat 2)) ∧ hn_P (fun j => q 3 a.toNat (i.toNat + j)) M.toNat n.toNat 0 → sp_ha d (fun j => q 3 a.toNat (i.toNat + j)) M.toNat n.toNat k z → fms m m2 → Q z m2) : jx_Cl 182 [xA 26 0, xI a, xI l, xI i, xI M, xI n, xI k] m Q := by
  unfold g_ha at *
  refine sg_182 a l i M n k m Q (cl_183 (fun g1 => ⟨fun z => by omega, fun _ => cl_184 (fun g2 => ⟨fun z => by omega, fun _ => cl_125 (fun g3 => ⟨fun z => by omega, fun _ => cl_125 (fun g4 => ⟨fun z => by omega, fun _ => ⟨by omega, cl_125 (fun g5 => ⟨fun z => by omega, fun _ => ?_⟩) (fun g => ⟨fun _ => h0 (by omega), fun z => by omega⟩)⟩⟩) (fun g => ⟨fun _ => h0 (by omega), fun z => by omega⟩)⟩) (fun g => ⟨fun _ => h0 (by omega), fun z => by omega⟩)⟩) (fun g => ⟨fun _ => h0 (by omega), fun z => by omega⟩)⟩) (fun g => ⟨fun _ => h0 (by omega), fun z => by omega⟩))
  have hmul := pos_mul g3 (show 1 ≤ n ∧ n ≤ 7 by omega)
  obtain ⟨a1, a2, a3, a4⟩ := hH a.toNat (by omega)
  obtain ⟨b1, b2, b3⟩ := hs a.toNat (by omega)
  have G : (0 ≤ a ∧ a < 4) ∧ (0 ≤ l ∧ l < 3) ∧ (1 ≤ M ∧ M ≤ 6) ∧ (1 ≤ n ∧ n ≤ 6) ∧ (-1 ≤ k ∧ k ≤ n - 1) := by omega
  refine ⟨by omega, by omega, cl_185 (by omega) hs hH (by omega) (by omega) hi (by omega) (fun g => ⟨fun _ => h11 ⟨G, g⟩, fun z => by omega⟩) (fun g => ⟨fun _ => h12 ⟨G, g⟩, fun z => by omega⟩) (fun g => ⟨fun _ => h13 ⟨G, g⟩, fun z => by omega⟩) (fun g => ⟨fun z => by omega, fun _ => ⟨by omega, by omega, ?_⟩⟩)⟩
  obtain ⟨I, rfl⟩ : ∃ I : Nat, i = (I : Int) := ⟨i.toNat, by omega⟩
  obtain ⟨M, rfl⟩ : ∃ N : Nat, M = (N : Int) := ⟨M.toNat, by omega⟩
  obtain ⟨n, rfl⟩ : ∃ N : Nat, n = (N : Int) := ⟨n.toNat, by omega⟩
  have eT : ((M * n : Nat) : Int) = (M : Int) * (n : Int) := Int.natCast_mul _ _
  have hfit : I + M * n ≤ 24 := by
    have := g.2.2
    omega
  rw [show 24 * a + (I : Int) = ((24 * a.toNat + I : Nat) : Int) by omega]
  refine lp_182_50 (M := M) (n := n) (f := fun j => q 3 a.toNat (I + j)) hw hr (by omega) (by omega) (by omega) (fun j hj => ⟨by omega, ?_⟩) (by omega) (fun hy => h2 ⟨G, g, hy⟩) (fun z m2 hy hz f2 => h1 z m2 ⟨G, g, hy⟩ hz f2) (M * n) 0 (by omega) (fun j' hj' => by omega)
  rw [Nat.add_assoc]
  exact a4 _ (by omega)
theorem sp_ha_un {d : jx_M} {f : Nat → Int} {M n : Nat} {k z w : Int} (h : sp_ha d f M n k z) (g : sp_ha d f M n k w) : z = w := by
  by_cases q : k < 0
  · rw [h.1 q, g.1 q]
  · rw [h.2 q, g.2 q]
theorem pr_32 {a l i M n k : Int} {m : jx_M} {R : Int → Int → jx_M → Prop} (hi : jx_in i) (hI : jv_I m) (K : ∀ z m2, jv_I m2 → fS m m2 → R z z m2) : jx_Cl 106 [xA 0 0, xI a, xI l, xI i, xI M, xI n, xI k] m (fun z1 m1 => jx_Cl 182 [xA 26 0, xI a, xI l, xI i, xI M, xI n, xI k] m1 (fun z2 m2 => R z1 z2 m2)) := by
  obtain ⟨d, e, q, hw, hC, hM⟩ := hI
  have kk := fun z => jv_ask (G := R z z m) hw hC hM (fcs_r m) (fms_r m) (K z m)
  have hs := sh_of hw
  refine cl_106 hw.1 hs hC.1 hC.2.2.2 (fun g => cl_182 hw.1 hs (re_M hM) hM.2.2.2 hi (fun _ => kk _) (fun z => absurd z.1 g) (fun z => absurd z.1 g) (fun z => absurd z.1 g) (fun z => absurd z.1 g) (fun _ _ z => absurd z.1 g)) (fun g => cl_182 hw.1 hs (re_M hM) hM.2.2.2 hi (fun z => absurd g.1 z) (fun _ => kk _) (fun z => by omega) (fun z => by omega) (fun z => by omega) (fun _ _ z => by omega)) (fun g => cl_182 hw.1 hs (re_M hM) hM.2.2.2 hi (fun z => absurd g.1 z) (fun z => by omega) (fun _ => kk _) (fun z => by omega) (fun z => by omega) (fun _ _ z => by omega)) (fun g => cl_182 hw.1 hs (re_M hM) hM.2.2.2 hi (fun z => absurd g.1 z) (fun z => by omega) (fun z => by omega) (fun _ => kk _) (fun z => absurd z.2.1.2 g.2.2) (fun _ _ z => absurd z.2.1.2 g.2.2)) (fun g => cl_182 hw.1 hs (re_M hM) hM.2.2.2 hi (fun z => absurd g.1 z) (fun z => by omega) (fun z => by omega) (fun z => absurd g.2.1.2 z.2.2) (fun _ => kk _) (fun _ _ z => absurd z.2.2 g.2.2)) (fun z m1 g h f1 => ?_)
  have hM1 := jv_M_C (fcs_C f1) hM
  refine cl_182 hw.1 hs (re_M hM1) hM1.2.2.2 hi (fun z => absurd g.1 z) (fun z => by omega) (fun z => by omega) (fun z => absurd g.2.1.2 z.2.2) (fun z => absurd g.2.2 z.2.2) (fun z2 m2 _ h2 f2 => ?_)
  obtain rfl : z = z2 := sp_ha_un h h2
  exact jv_ask hw hC hM f1 f2 (K z m2)
