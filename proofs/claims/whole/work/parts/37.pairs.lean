/-! pairs of answers: what is asked of the town as it is -/
def sp_bc (y : Int) : Int := y % 2 + (y / 2) % 2 + (y / 4) % 2 + (y / 8) % 2
theorem jb_dec {y : Int} (h0 : 0 < y) (h1 : y ≤ 15) : 0 ≤ jx_iand y (y - 1) ∧ jx_iand y (y - 1) < y ∧ sp_bc (jx_iand y (y - 1)) + 1 = sp_bc y := by
  have key : ∀ n : Fin 16, 0 < n.val → 0 ≤ jx_iand (n.val : Int) ((n.val : Int) - 1) ∧ jx_iand (n.val : Int) ((n.val : Int) - 1) < (n.val : Int) ∧ sp_bc (jx_iand (n.val : Int) ((n.val : Int) - 1)) + 1 = sp_bc (n.val : Int) := by decide +kernel
  obtain ⟨n, rfl⟩ : ∃ n : Nat, y = (n : Int) := ⟨y.toNat, by omega⟩
  exact key ⟨n, by omega⟩ (by show 0 < n; omega)
theorem lp_154 {m : jx_M} {Q : Int → jx_M → Prop} {b0 : Int} : ∀ (n : Nat) (b1 b2 : Int), b2.toNat ≤ n → 0 ≤ b1 ∧ b1 ≤ 100 - b2 → 0 ≤ b2 ∧ b2 ≤ 15 → Q (b1 + sp_bc b2) m → jx_AW 154 4 [some (xI b0), some (xI b1), some (xI b2)] [] m Q := by
  intro n
  induction n with
  | zero =>
    intro b1 b2 hn h1 h2 hq
    obtain rfl : b2 = 0 := by omega
    exact sg_154_4 b0 b1 0 m Q ⟨fun _ => by rw [show sp_bc 0 = 0 from rfl, Int.add_zero] at hq; exact hq, fun z => by omega⟩
  | succ n ih =>
    intro b1 b2 hn h1 h2 hq
    refine sg_154_4 b0 b1 b2 m Q ⟨fun z => ?_, fun z => ?_⟩
    · subst z
      rw [show sp_bc 0 = 0 from rfl, Int.add_zero] at hq
      exact hq
    · obtain ⟨k1, k2, k3⟩ := jb_dec (y := b2) (by omega) (by omega)
      refine ⟨by omega, by omega, ih _ _ (by omega) (by omega) (by omega) ?_⟩
      rw [show b1 + 1 + sp_bc (jx_iand b2 (b2 - 1)) = b1 + sp_bc b2 by omega]
      exact hq
theorem cl_154 {m : jx_M} {Q : Int → jx_M → Prop} {a : Int} (ha : 0 ≤ a ∧ a ≤ 15) (hq : Q (sp_bc a) m) : jx_Cl 154 [xI a] m Q :=
  sg_154 a m Q (lp_154 a.toNat 0 a (by omega) (by omega) ha (by rw [Int.zero_add]; exact hq))
set_option maxRecDepth 100000 in
theorem cl_59 {m : jx_M} {Q : Int → jx_M → Prop} {a : Int} (ha : 0 ≤ a ∧ a ≤ 15) (hq : Q (sp_bc a) m) : jx_Cl 59 [xI a] m Q := by
  have h : a = 0 ∨ a = 1 ∨ a = 2 ∨ a = 3 ∨ a = 4 ∨ a = 5 ∨ a = 6 ∨ a = 7 ∨ a = 8 ∨ a = 9 ∨ a = 10 ∨ a = 11 ∨ a = 12 ∨ a = 13 ∨ a = 14 ∨ a = 15 := by omega
  rcases h with h | h | h | h | h | h | h | h | h | h | h | h | h | h | h | h <;> subst h <;> (
    refine sg_59 _ m Q ⟨by decide +kernel, by decide +kernel, by decide +kernel, by decide +kernel, by decide +kernel, Eq.mp (congrArg (fun z => Q z m) ?_) hq⟩
    decide +kernel)
def sp_cn (d : jx_M) (a z : Int) : Prop := (a = 0 → z = d 1 0 0) ∧ (a = 1 → z = d 1 0 1) ∧ (a = 2 → z = d 1 0 2) ∧ (a = 3 → z = sp_bc (d 1 0 4)) ∧ (¬ a = 0 ∧ ¬ a = 1 ∧ ¬ a = 2 ∧ ¬ a = 3 → z = -1)
theorem cl_58 {d : jx_M} {a : Int} {m : jx_M} {Q : Int → jx_M → Prop} (hw : dt_w d) (hr : rc_T m 0 d) (h1 : ∀ z, sp_cn d a z → Q z m) : jx_Cl 58 [xA 0 0, xI a] m Q := by
  obtain ⟨r1, r2, r3, r4, r5, r6, -⟩ := hr
  have hb := hw.2.2.2.2.2.1
  unfold sp_cn at h1
  have h0 : a = 3 → Q (sp_bc (d 1 0 4)) m := fun _ => h1 _ (by omega)
  refine sg_58 a m Q ?_
  rw [r6]
  repeat' (first | omega | exact h1 _ (by omega) | exact cl_59 hb (h0 (by assumption)) | apply And.intro | intro _)
theorem cl_153 {d : jx_M} {a : Int} {m : jx_M} {Q : Int → jx_M → Prop} (hw : dt_w d) (hr : rm_T m d) (h1 : ∀ z, sp_cn d a z → Q z m) : jx_Cl 153 [xA 26 0, xI a] m Q := by
  obtain ⟨r1, r2, r3, r4, r5, r6, -⟩ := hr
  have hb := hw.2.2.2.2.2.1
  unfold sp_cn at h1
  have h0 : a = 3 → Q (sp_bc (d 1 0 4)) m := fun _ => h1 _ (by omega)
  refine sg_153 a m Q ?_
  rw [r6]
  repeat' (first | omega | exact h1 _ (by omega) | exact cl_154 hb (h0 (by assumption)) | apply And.intro | intro _)
/-- fates -/
def sp_ft (d : jx_M) (b : Nat) (c z : Int) : Prop := (c = 0 → z = (sp_life d b 120).2.1) ∧ (c = 1 → z = (sp_life d b 120).2.2.1) ∧ (c = 2 → z = (sp_life d b 120).2.2.2)
theorem cl_62 {d : jx_M} {a b : Int} {m : jx_M} {Q : Int → jx_M → Prop} (hw : dt_w d) (hr : rc_T m 0 d) (h1 : ∀ z m2, (0 ≤ a ∧ a < d 1 0 1) ∧ (0 ≤ b ∧ b ≤ 2) → sp_ft d a.toNat b z → fcs m m2 → Q z m2) (h0 : ¬ ((0 ≤ a ∧ a < d 1 0 1) ∧ (0 ≤ b ∧ b ≤ 2)) → Q (-1) m) : jx_Cl 62 [xA 0 0, xI a, xI b] m Q := by
  have hn := hw.2.2.1
  have en := hr.2.2.1
  unfold sp_ft at h1
  refine sg_62 a b m Q ?_
  repeat' (first | omega | exact h0 (by omega) | refine cl_12 ?_ ?_ | (refine cl_63 (by omega) (by omega) hw hr (fun m3 hf hk => ?_); have e := hk.1 a.toNat (by omega); have f := fcs_dy hf) | exact h1 _ _ (by omega) (by omega) f | apply And.intro | intro _)
theorem cl_156 {d : jx_M} {a b : Int} {m : jx_M} {Q : Int → jx_M → Prop} (hw : dt_w d) (hr : re_T m d) (hal : m 26 0 17 < 0) (h1 : ∀ z m2, (0 ≤ a ∧ a < d 1 0 1) ∧ (0 ≤ b ∧ b ≤ 2) → sp_ft d a.toNat b z → fms m m2 → Q z m2) (h0 : ¬ ((0 ≤ a ∧ a < d 1 0 1) ∧ (0 ≤ b ∧ b ≤ 2)) → Q (-1) m) : jx_Cl 156 [xA 26 0, xI a, xI b] m Q := by
  have hn := hw.2.2.1
  have en := hr.2.2.1
  unfold sp_ft at h1
  refine sg_156 a b m Q ?_
  repeat' (first | omega | exact h0 (by omega) | refine cl_125 ?_ ?_ | (refine cl_157 hw hr hal (fun m3 hf hk => ?_); have e := hk a.toNat (by omega); have e1 : m3 36 0 a.toNat = (sp_life d a.toNat 120).2.1 := congrArg (fun x => x.2.1) e; have e2 : m3 37 0 a.toNat = (sp_life d a.toNat 120).2.2.1 := congrArg (fun x => x.2.2.1) e; have e3 : m3 38 0 a.toNat = (sp_life d a.toNat 120).2.2.2 := congrArg (fun x => x.2.2.2) e; have f := fms_lf hf; clear e) | exact h1 _ _ (by omega) (by omega) f | apply And.intro | intro _)
theorem cl_69 {d : jx_M} {a : Int} {m : jx_M} {Q : Int → jx_M → Prop} (hw : dt_w d) (hr : rc_T m 0 d) (h1 : ∀ m2, (0 ≤ a ∧ a < d 1 0 0) → fcs m m2 → Q (sp_br d a) m2) (h0 : ¬ (0 ≤ a ∧ a < d 1 0 0) → Q (-1) m) : jx_Cl 69 [xA 0 0, xI a] m Q := by
  have en := hr.2.1
  refine sg_69 a m Q ?_
  repeat' (first | omega | exact h0 (by omega) | refine cl_19 (by omega) ?_ ?_ | refine cl_63 (by omega) (by omega) hw hr (fun m3 hf hk => ?_) | exact cl_70 (by omega) hw hk (h1 _ (by omega) (fcs_dy hf)) | apply And.intro | intro _)
theorem cl_160 {d : jx_M} {a : Int} {m : jx_M} {Q : Int → jx_M → Prop} (hw : dt_w d) (hr : re_T m d) (hal : m 26 0 17 < 0) (h1 : ∀ m2, (0 ≤ a ∧ a < d 1 0 0) → fms m m2 → Q (sp_br d a) m2) (h0 : ¬ (0 ≤ a ∧ a < d 1 0 0) → Q (-1) m) : jx_Cl 160 [xA 26 0, xI a] m Q := by
  have hn := hw.2.1
  have en := hr.2.1
  refine sg_160 a m Q ?_
  repeat' (first | omega | exact h0 (by omega) | refine cl_130 (by omega) ?_ ?_ | exact cl_161 hw hr hal (fun m2 hf => h1 _ (by omega) (fms_lf hf)) | apply And.intro | intro _)
theorem cl_71 {d : jx_M} {a : Int} {m : jx_M} {Q : Int → jx_M → Prop} (hw : dt_w d) (hr : rc_T m 0 d) (K : ∀ m2, fcs m m2 → Q (sp_q162 d a) m2) : jx_Cl 71 [xA 0 0, xI a] m Q := by
  unfold sp_q162 at K
  refine sg_71 a m Q (cl_12 (fun h => ⟨fun z => by omega, fun _ => ⟨by omega, by omega, by omega, cl_63 (by omega) (by omega) hw hr (fun m2 hf hk => ?_)⟩⟩) (fun h => ⟨fun _ => ?_, fun z => by omega⟩))
  · have k := K m2 (fcs_dy hf)
    refine ⟨fun z => ⟨by omega, by omega, ?_⟩, fun z => ⟨fun z2 => ⟨by omega, by omega, cl_72 (by omega) hw hk ?_⟩, fun z2 => ⟨by omega, by omega, cl_73 (by omega) hw hk ?_⟩⟩⟩
    · rw [if_neg (by omega), if_neg (by omega), if_pos z, ← cs_all hw, ← hk.2.1] at k; exact k
    · rw [if_pos z2] at k; exact k
    · rw [if_neg (by omega), if_pos (by omega)] at k; exact k
  · have k := K m (fcs_r m)
    rw [if_neg (by omega), if_neg (by omega), if_neg (by omega)] at k
    exact k
theorem sp_tl_un {d : jx_M} {s : Nat} {b c z w : Int} (h : sp_tl d s b c z) (g : sp_tl d s b c w) : z = w := by
  obtain ⟨h1, h2, h3, h4, h5, h6⟩ := h
  obtain ⟨g1, g2, g3, g4, g5, g6⟩ := g
  by_cases q : b = 0
  · by_cases q1 : c < 0
    · rw [h1 ⟨q, q1⟩, g1 ⟨q, q1⟩]
    · by_cases q2 : c < d 2 s 4
      · rw [h2 ⟨q, q1, q2⟩, g2 ⟨q, q1, q2⟩]
      · rw [h3 ⟨q, q1, q2⟩, g3 ⟨q, q1, q2⟩]
  · by_cases q1 : c < 0
    · rw [h4 ⟨q, q1⟩, g4 ⟨q, q1⟩]
    · by_cases q2 : c < d 2 s 5
      · rw [h5 ⟨q, q1, q2⟩, g5 ⟨q, q1, q2⟩]
      · rw [h6 ⟨q, q1, q2⟩, g6 ⟨q, q1, q2⟩]
theorem sp_cn_un {d : jx_M} {a z w : Int} (h : sp_cn d a z) (g : sp_cn d a w) : z = w := by
  obtain ⟨h1, h2, h3, h4, h5⟩ := h
  obtain ⟨g1, g2, g3, g4, g5⟩ := g
  by_cases q1 : a = 0
  · rw [h1 q1, g1 q1]
  · by_cases q2 : a = 1
    · rw [h2 q2, g2 q2]
    · by_cases q3 : a = 2
      · rw [h3 q3, g3 q3]
      · by_cases q4 : a = 3
        · rw [h4 q4, g4 q4]
        · rw [h5 ⟨q1, q2, q3, q4⟩, g5 ⟨q1, q2, q3, q4⟩]
theorem sp_ft_un {d : jx_M} {s : Nat} {c z w : Int} (hc : 0 ≤ c ∧ c ≤ 2) (h : sp_ft d s c z) (g : sp_ft d s c w) : z = w := by
  obtain ⟨h1, h2, h3⟩ := h
  obtain ⟨g1, g2, g3⟩ := g
  rcases (by omega : c = 0 ∨ c = 1 ∨ c = 2) with q | q | q
  · rw [h1 q, g1 q]
  · rw [h2 q, g2 q]
  · rw [h3 q, g3 q]
theorem pr_8 {a b : Int} {m : jx_M} {R : Int → Int → jx_M → Prop} (hI : jv_I m) (K : ∀ z m2, jv_I m2 → fS m m2 → R z z m2) : jx_Cl 42 [xA 0 0, xI a, xI b] m (fun z1 m1 => jx_Cl 141 [xA 26 0, xI a, xI b] m1 (fun z2 m2 => R z1 z2 m2)) := by
  obtain ⟨d, e, q, hw, hC, hM⟩ := hI
  have k := fun z => jv_ask (G := R z z m) hw hC hM (fcs_r m) (fms_r m) (K z m)
  exact cl_42 hw.1 hC.1 (fun g => cl_141 hw.1 (re_M hM) (al_M hM) (fun _ => k _) (fun z => absurd g z)) (fun g => cl_141 hw.1 (re_M hM) (al_M hM) (fun z => absurd z g) (fun _ => k _))
theorem pr_9 {a : Int} {m : jx_M} {R : Int → Int → jx_M → Prop} (hI : jv_I m) (K : ∀ z m2, jv_I m2 → fS m m2 → R z z m2) : jx_Cl 44 [xA 0 0, xI a] m (fun z1 m1 => jx_Cl 143 [xA 26 0, xI a] m1 (fun z2 m2 => R z1 z2 m2)) := by
  obtain ⟨d, e, q, hw, hC, hM⟩ := hI
  have k := fun z => jv_ask (G := R z z m) hw hC hM (fcs_r m) (fms_r m) (K z m)
  exact cl_44 hw.1 hC.1 (fun g => cl_143 hw.1 (re_M hM) (fun _ => k _) (fun z => absurd g z)) (fun g => cl_143 hw.1 (re_M hM) (fun z => absurd z g) (fun _ => k _))
theorem pr_10 {a b : Int} {m : jx_M} {R : Int → Int → jx_M → Prop} (hI : jv_I m) (K : ∀ z m2, jv_I m2 → fS m m2 → R z z m2) : jx_Cl 46 [xA 0 0, xI a, xI b] m (fun z1 m1 => jx_Cl 145 [xA 26 0, xI a, xI b] m1 (fun z2 m2 => R z1 z2 m2)) := by
  obtain ⟨d, e, q, hw, hC, hM⟩ := hI
  have k := fun z => jv_ask (G := R z z m) hw hC hM (fcs_r m) (fms_r m) (K z m)
  exact cl_46 hw.1 hC.1 (fun g => cl_145 hw.1 (re_M hM) (al_M hM) (fun _ => k _) (fun z => absurd g z)) (fun g => cl_145 hw.1 (re_M hM) (al_M hM) (fun z => absurd z g) (fun _ => k _))
theorem pr_22 {a : Int} {m : jx_M} {R : Int → Int → jx_M → Prop} (hI : jv_I m) (K : ∀ z m2, jv_I m2 → fS m m2 → R z z m2) : jx_Cl 89 [xA 0 0, xI a] m (fun z1 m1 => jx_Cl 168 [xA 26 0, xI a] m1 (fun z2 m2 => R z1 z2 m2)) := by
  obtain ⟨d, e, q, hw, hC, hM⟩ := hI
  have k := fun z => jv_ask (G := R z z m) hw hC hM (fcs_r m) (fms_r m) (K z m)
  exact cl_89 hw.1 hC.1 (fun g => cl_168 hw.1 (re_M hM) (al_M hM) (fun _ => k _) (fun z => absurd g z)) (fun g => cl_168 hw.1 (re_M hM) (al_M hM) (fun z => absurd z g) (fun _ => k _))
theorem pr_29 {a b : Int} {m : jx_M} {R : Int → Int → jx_M → Prop} (hI : jv_I m) (K : ∀ z m2, jv_I m2 → fS m m2 → R z z m2) : jx_Cl 103 [xA 0 0, xI a, xI b] m (fun z1 m1 => jx_Cl 177 [xA 26 0, xI a, xI b] m1 (fun z2 m2 => R z1 z2 m2)) := by
  obtain ⟨d, e, q, hw, hC, hM⟩ := hI
  have k := fun z => jv_ask (G := R z z m) hw hC hM (fcs_r m) (fms_r m) (K z m)
  exact cl_103 hw.1 hC.1 (fun g => cl_177 hw.1 (re_M hM) (al_M hM) (fun _ => k _) (fun z => absurd g z)) (fun g => cl_177 hw.1 (re_M hM) (al_M hM) (fun z => absurd z g) (fun _ => k _))
theorem pr_11 {a b : Int} {m : jx_M} {R : Int → Int → jx_M → Prop} (hI : jv_I m) (K : ∀ z m2, jv_I m2 → fS m m2 → R z z m2) : jx_Cl 53 [xA 0 0, xI a, xI b] m (fun z1 m1 => jx_Cl 148 [xA 26 0, xI a, xI b] m1 (fun z2 m2 => R z1 z2 m2)) := by
  obtain ⟨d, e, q, hw, hC, hM⟩ := hI
  have k := fun z => jv_ask (G := R z z m) hw hC hM (fcs_r m) (fms_r m) (K z m)
  exact cl_53 hw.1 hC.1 (cl_148 hw.1 (re_M hM) (k _))
theorem pr_7 {a b c : Int} {m : jx_M} {R : Int → Int → jx_M → Prop} (hI : jv_I m) (K : ∀ z m2, jv_I m2 → fS m m2 → R z z m2) : jx_Cl 41 [xA 0 0, xI a, xI b, xI c] m (fun z1 m1 => jx_Cl 140 [xA 26 0, xI a, xI b, xI c] m1 (fun z2 m2 => R z1 z2 m2)) := by
  obtain ⟨d, e, q, hw, hC, hM⟩ := hI
  have k := fun z => jv_ask (G := R z z m) hw hC hM (fcs_r m) (fms_r m) (K z m)
  exact cl_41 hw.1 hC.1 (fun z g h => cl_140 hw.1 hM.1.1 (fun z2 _ h2 => by
    obtain rfl : z = z2 := sp_tl_un h h2
    exact k z) (fun z => absurd g z)) (fun g => cl_140 hw.1 hM.1.1 (fun _ z => absurd z g) (fun _ => k _))
theorem pr_14 {a : Int} {m : jx_M} {R : Int → Int → jx_M → Prop} (hI : jv_I m) (K : ∀ z m2, jv_I m2 → fS m m2 → R z z m2) : jx_Cl 58 [xA 0 0, xI a] m (fun z1 m1 => jx_Cl 153 [xA 26 0, xI a] m1 (fun z2 m2 => R z1 z2 m2)) := by
  obtain ⟨d, e, q, hw, hC, hM⟩ := hI
  have k := fun z => jv_ask (G := R z z m) hw hC hM (fcs_r m) (fms_r m) (K z m)
  exact cl_58 hw.1 hC.1 (fun z h => cl_153 hw.1 hM.1.1 (fun z2 h2 => by
    obtain rfl : z = z2 := sp_cn_un h h2
    exact k z))
theorem pr_16 {a b : Int} {m : jx_M} {R : Int → Int → jx_M → Prop} (hI : jv_I m) (K : ∀ z m2, jv_I m2 → fS m m2 → R z z m2) : jx_Cl 62 [xA 0 0, xI a, xI b] m (fun z1 m1 => jx_Cl 156 [xA 26 0, xI a, xI b] m1 (fun z2 m2 => R z1 z2 m2)) := by
  obtain ⟨d, e, q, hw, hC, hM⟩ := hI
  have k := fun z => jv_ask (G := R z z m) hw hC hM (fcs_r m) (fms_r m) (K z m)
  exact cl_62 hw.1 hC.1 (fun z m1 g h f1 => cl_156 hw.1 (re_M (jv_M_C (fcs_C f1) hM)) (al_M (jv_M_C (fcs_C f1) hM)) (fun z2 m2 _ h2 f2 => by
    obtain rfl : z = z2 := sp_ft_un g.2 h h2
    exact jv_ask hw hC hM f1 f2 (K z m2)) (fun z => absurd g z)) (fun g => cl_156 hw.1 (re_M hM) (al_M hM) (fun _ _ z => absurd z g) (fun _ => k _))
theorem pr_17 {a : Int} {m : jx_M} {R : Int → Int → jx_M → Prop} (hI : jv_I m) (K : ∀ z m2, jv_I m2 → fS m m2 → R z z m2) : jx_Cl 69 [xA 0 0, xI a] m (fun z1 m1 => jx_Cl 160 [xA 26 0, xI a] m1 (fun z2 m2 => R z1 z2 m2)) := by
  obtain ⟨d, e, q, hw, hC, hM⟩ := hI
  have k := fun z => jv_ask (G := R z z m) hw hC hM (fcs_r m) (fms_r m) (K z m)
  exact cl_69 hw.1 hC.1 (fun m1 g f1 => cl_160 hw.1 (re_M (jv_M_C (fcs_C f1) hM)) (al_M (jv_M_C (fcs_C f1) hM)) (fun m2 _ f2 => jv_ask hw hC hM f1 f2 (K _ m2)) (fun z => absurd g z)) (fun g => cl_160 hw.1 (re_M hM) (al_M hM) (fun _ z => absurd z g) (fun _ => k _))
theorem pr_18 {a : Int} {m : jx_M} {R : Int → Int → jx_M → Prop} (hI : jv_I m) (K : ∀ z m2, jv_I m2 → fS m m2 → R z z m2) : jx_Cl 71 [xA 0 0, xI a] m (fun z1 m1 => jx_Cl 162 [xA 26 0, xI a] m1 (fun z2 m2 => R z1 z2 m2)) := by
  obtain ⟨d, e, q, hw, hC, hM⟩ := hI
  have k := fun z => jv_ask (G := R z z m) hw hC hM (fcs_r m) (fms_r m) (K z m)
  exact cl_71 hw.1 hC.1 (fun m1 f1 => cl_162 hw.1 (re_M (jv_M_C (fcs_C f1) hM)) (al_M (jv_M_C (fcs_C f1) hM)) (fun m2 f2 => jv_ask hw hC hM f1 (fms_lf f2) (K _ m2)))
