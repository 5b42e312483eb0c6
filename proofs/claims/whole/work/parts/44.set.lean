/-! calls that change the town: frames; noise, of, likeness, bylaw, shut -/
theorem up_so {m : jx_M} {s i j s' : Nat} {v : Int} (h : s' ≠ s) : jx_up m s i j v s' = m s' := funext fun a => funext fun b => up_ne (fun z => h z.1)
def fct (m m' : jx_M) : Prop := ∀ s i j, ¬ (((s = 1 ∨ s = 2) ∧ i = 0) ∨ (6 ≤ s ∧ s ≤ 8 ∧ i < 6) ∨ ((s = 9 ∨ s = 10) ∧ i < 12) ∨ s = 25 ∨ s = 20 ∨ s = 21) → m' s i j = m s i j
def fmt (m m' : jx_M) : Prop := ∀ s i j, ¬ ((27 ≤ s ∧ s ≤ 41) ∨ s = 46 ∨ (s = 26 ∧ (j = 1 ∨ j = 5 ∨ j = 6 ∨ j = 7 ∨ j = 9 ∨ j = 12 ∨ j = 13 ∨ j = 14 ∨ j = 25))) → m' s i j = m s i j
theorem fct_C {m m' : jx_M} (h : fct m m') : fC m m' := fun s i j hn => h s i j (by omega)
theorem fmt_M {m m' : jx_M} (h : fmt m m') : fM m m' := fun s i j hn => h s i j (by omega)
theorem fct_r (m : jx_M) : fct m m := fun _ _ _ _ => rfl
theorem fmt_r (m : jx_M) : fmt m m := fun _ _ _ _ => rfl
theorem fct_tr {m m1 m2 : jx_M} (h : fct m m1) (g : fct m1 m2) : fct m m2 := fun s i j hn => (g s i j hn).trans (h s i j hn)
theorem fmt_tr {m m1 m2 : jx_M} (h : fmt m m1) (g : fmt m1 m2) : fmt m m2 := fun s i j hn => (g s i j hn).trans (h s i j hn)
theorem jv_C_g {m m' d e q d' q' : jx_M} (hw : sw d e q) (h : fct m m') (hr : rc_T m' 0 d') (hP : jc_P m' q') (hq : ∀ a b c, ¬ a = 1 → q' a b c = q a b c) (hC : jv_C m d e q) : jv_C m' d' e q' := by
  obtain ⟨h1, ⟨h2, h3⟩, h4, h5⟩ := hC
  refine ⟨hr, ⟨?_, fun z => ?_⟩, hP, fun k hk => ?_⟩
  · rw [hq 0 0 0 (by omega), h 0 0 7 (by omega)]; exact h2
  · rw [hq 0 0 0 (by omega)] at z
    exact rc_fr (hw.2.2.1 z) (fun s j hs => h s 1 j (by omega)) (fun s i j hs hi => h s i j (by omega)) (fun s i j hs hi => h s i j (by omega)) (h3 z)
  · obtain ⟨a1, a2, a3, a4⟩ := h5 k hk
    rw [hq 2 k 0 (by omega), hq 2 k 1 (by omega), hq 2 k 2 (by omega)]
    refine ⟨(h 23 k 1 (by omega)).trans a1, fun z => (h 23 k 2 (by omega)).trans (a2 z), (h 23 k 3 (by omega)).trans a3, fun i hi => ?_⟩
    rw [hq 3 k i (by omega)]
    exact (h 24 k i (by omega)).trans (a4 i hi)
theorem jv_M_g {m m' d e q d' q' : jx_M} (h : fmt m m') (hr : rm_T m' d') (hP : jm_P m' q') (hq : ∀ a b c, ¬ a = 1 → q' a b c = q a b c) (hM : jv_M m d e q) : jv_M m' d' e q' := by
  obtain ⟨⟨h1, h2, h3⟩, ⟨h4, h5⟩, h6, h7⟩ := hM
  refine ⟨⟨hr, (h 26 0 16 (by omega)).trans h2, (h 26 0 17 (by omega)).trans h3⟩, ⟨?_, fun z => ?_⟩, hP, fun k hk => ?_⟩
  · rw [hq 0 0 0 (by omega), h 26 0 27 (by omega)]; exact h4
  · rw [hq 0 0 0 (by omega)] at z
    exact im_fr (fun j => h 42 0 j (by omega)) (h5 z)
  · obtain ⟨a1, a2, a3, a4⟩ := h7 k hk
    rw [hq 2 k 0 (by omega), hq 2 k 1 (by omega), hq 2 k 2 (by omega)]
    refine ⟨fun z => (h 43 0 k (by omega)).trans (a1 z), fun z => (h 43 0 k (by omega)).trans (a2 z), (h 44 0 k (by omega)).trans a3, fun i hi => ?_⟩
    rw [hq 3 k i (by omega)]
    exact (h 45 0 _ (by omega)).trans (a4 i hi)
theorem sw_d {d e q d' : jx_M} (hw : sw d e q) (h : dt_w d') : sw d' e q := ⟨h, hw.2⟩
/-- only the town changes -/
theorem jv_town {m m1 m2 d e q d' : jx_M} {G : Prop} (hw : sw d e q) (hC : jv_C m d e q) (hM : jv_M m d e q) (hd : dt_w d') (f1 : fct m m1) (t1 : m1 20 = m 20 ∧ m1 21 = m 21) (c1 : rc_T m1 0 d') (f2 : fmt m1 m2) (t2 : m2 26 0 12 = m1 26 0 12 ∧ m2 33 = m1 33) (c2 : rm_T m2 d') (K : jv_I m2 → fS m m2 → G) : G := by
  refine jv_fin (sw_d hw hd) (fct_C f1) (jv_C_g hw f1 c1 ?_ (fun _ _ _ _ => rfl) hC) (fmt_M f2) (jv_M_g f2 c2 ?_ (fun _ _ _ _ => rfl) (jv_M_C (fct_C f1) hM)) K
  · unfold jc_P
    rw [t1.1, t1.2]
    exact hC.2.2.1
  · unfold jm_P
    rw [t2.1, t2.2, fct_C f1 26 0 12 (by omega), show m1 33 = m 33 from funext fun i => funext fun j => fct_C f1 33 i j (by omega)]
    exact hM.2.2.1
-- noise
theorem cl_10 {a b : Int} {m : jx_M} {Q : Int → jx_M → Prop} (h1 : (0 ≤ a ∧ a < 25) ∧ (0 ≤ b ∧ b ≤ 9) → Q (m 2 0 a.toNat) (jx_up m 2 0 a.toNat b)) (h0 : ¬ ((0 ≤ a ∧ a < 25) ∧ (0 ≤ b ∧ b ≤ 9)) → Q (-1) m) : jx_Cl 10 [xA 0 0, xI a, xI b] m Q := by
  refine sg_10 a b m Q ?_
  repeat' (first | omega | exact h0 (by omega) | exact h1 (by omega) | refine cl_11 ?_ ?_ | refine cl_12 ?_ ?_ | apply And.intro | intro _)
theorem cl_123 {a b : Int} {m : jx_M} {Q : Int → jx_M → Prop} (h1 : (0 ≤ a ∧ a < 25) ∧ (0 ≤ b ∧ b ≤ 9) → Q (m 27 0 a.toNat) (jx_up m 27 0 a.toNat b)) (h0 : ¬ ((0 ≤ a ∧ a < 25) ∧ (0 ≤ b ∧ b ≤ 9)) → Q (-1) m) : jx_Cl 123 [xA 26 0, xI a, xI b] m Q := by
  refine sg_123 a b m Q ?_
  repeat' (first | omega | exact h0 (by omega) | exact h1 (by omega) | refine cl_124 ?_ ?_ | refine cl_125 ?_ ?_ | apply And.intro | intro _)
theorem pr_0 {a b : Int} {m : jx_M} {R : Int → Int → jx_M → Prop} (hI : jv_I m) (K : ∀ z m2, jv_I m2 → fS m m2 → R z z m2) : jx_Cl 10 [xA 0 0, xI a, xI b] m (fun z1 m1 => jx_Cl 123 [xA 26 0, xI a, xI b] m1 (fun z2 m2 => R z1 z2 m2)) := by
  obtain ⟨d, e, q, hw, hC, hM⟩ := hI
  have k := fun z => jv_ask (G := R z z m) hw hC hM (fcs_r m) (fms_r m) (K z m)
  refine cl_10 (fun g => cl_123 (fun _ => ?_) (fun z => absurd g z)) (fun g => cl_123 (fun z => absurd z g) (fun _ => k _))
  have e1 : m 2 0 a.toNat = d 0 0 a.toNat := hC.1.1 _ (by omega)
  have e2 : jx_up m 2 0 a.toNat b 27 0 a.toNat = d 0 0 a.toNat := hM.1.1.1 _ (by omega)
  rw [e1, e2]
  have hM1 : jv_M (jx_up m 2 0 a.toNat b) d e q := jv_M_C (fun s i j hs => up_ne (by omega)) hM
  refine jv_town (d' := jx_up d 0 0 a.toNat b) (m1 := jx_up m 2 0 a.toNat b) hw hC hM ?_ ?_ ?_ ?_ ?_ ?_ ?_ (K _ _)
  · exact u0_w (c := a.toNat) g.2 hw.1
  · exact fun s i j hn => up_ne (by omega)
  · exact ⟨up_so (by omega), up_so (by omega)⟩
  · exact u0_rc hC.1
  · exact fun s i j hn => up_ne (by omega)
  · exact ⟨rfl, up_so (by omega)⟩
  · exact rm_of (u0_re (re_M hM1)) hM1.1.2.1
-- likeness
theorem cl_55 {a : Int} {m : jx_M} {Q : Int → jx_M → Prop} (h1 : (0 ≤ a ∧ a ≤ 20) → Q (m 1 0 7) (jx_up m 1 0 7 a)) (h0 : ¬ (0 ≤ a ∧ a ≤ 20) → Q (-1) m) : jx_Cl 55 [xA 0 0, xI a] m Q := by
  refine sg_55 a m Q ?_
  repeat' (first | omega | exact h0 (by omega) | exact h1 (by omega) | refine cl_12 ?_ ?_ | apply And.intro | intro _)
theorem cl_151 {a : Int} {m : jx_M} {Q : Int → jx_M → Prop} (h1 : (0 ≤ a ∧ a ≤ 20) → Q (m 26 0 5) (jx_up m 26 0 5 a)) (h0 : ¬ (0 ≤ a ∧ a ≤ 20) → Q (-1) m) : jx_Cl 151 [xA 26 0, xI a] m Q := by
  refine sg_151 a m Q ?_
  repeat' (first | omega | exact h0 (by omega) | exact h1 (by omega) | refine cl_125 ?_ ?_ | apply And.intro | intro _)
theorem pr_12 {a : Int} {m : jx_M} {R : Int → Int → jx_M → Prop} (hI : jv_I m) (K : ∀ z m2, jv_I m2 → fS m m2 → R z z m2) : jx_Cl 55 [xA 0 0, xI a] m (fun z1 m1 => jx_Cl 151 [xA 26 0, xI a] m1 (fun z2 m2 => R z1 z2 m2)) := by
  obtain ⟨d, e, q, hw, hC, hM⟩ := hI
  have k := fun z => jv_ask (G := R z z m) hw hC hM (fcs_r m) (fms_r m) (K z m)
  refine cl_55 (fun g => cl_151 (fun _ => ?_) (fun z => absurd g z)) (fun g => cl_151 (fun z => absurd z g) (fun _ => k _))
  have e1 : m 1 0 7 = d 1 0 3 := hC.1.2.2.2.2.1
  have e2 : jx_up m 1 0 7 a 26 0 5 = d 1 0 3 := hM.1.1.2.2.2.2.1
  rw [e1, e2]
  have hM1 : jv_M (jx_up m 1 0 7 a) d e q := jv_M_C (fun s i j hs => up_ne (by omega)) hM
  refine jv_town (d' := jx_up d 1 0 3 a) (m1 := jx_up m 1 0 7 a) hw hC hM ?_ ?_ ?_ ?_ ?_ ?_ ?_ (K _ _)
  · exact u13_w g hw.1
  · exact fun s i j hn => up_ne (by omega)
  · exact ⟨up_so (by omega), up_so (by omega)⟩
  · exact u13_rc hC.1
  · exact fun s i j hn => up_ne (by omega)
  · exact ⟨rfl, up_so (by omega)⟩
  · exact rm_of (u13_re (re_M hM1)) hM1.1.2.1
-- bylaw
theorem jb_by {y b : Int} (h0 : 0 ≤ y ∧ y ≤ 15) (hb : 0 ≤ b ∧ b ≤ 3) : (jx_iand y (jx_ishl 1 b) = 0 → jx_iand (jx_ishr y b) 1 = 0) ∧ (¬ jx_iand y (jx_ishl 1 b) = 0 → jx_iand (jx_ishr y b) 1 = 1) ∧ (0 ≤ jx_iand y (jx_ixor (jx_ishl 1 b) (-1)) ∧ jx_iand y (jx_ixor (jx_ishl 1 b) (-1)) ≤ 15) := by
  have key : ∀ (n : Fin 16) (k : Fin 4), (jx_iand (n.val : Int) (jx_ishl 1 (k.val : Int)) = 0 → jx_iand (jx_ishr (n.val : Int) (k.val : Int)) 1 = 0) ∧ (¬ jx_iand (n.val : Int) (jx_ishl 1 (k.val : Int)) = 0 → jx_iand (jx_ishr (n.val : Int) (k.val : Int)) 1 = 1) ∧ (0 ≤ jx_iand (n.val : Int) (jx_ixor (jx_ishl 1 (k.val : Int)) (-1)) ∧ jx_iand (n.val : Int) (jx_ixor (jx_ishl 1 (k.val : Int)) (-1)) ≤ 15) := by decide +kernel
  obtain ⟨n, rfl⟩ : ∃ n : Nat, y = (n : Int) := ⟨y.toNat, by omega⟩
  obtain ⟨k, rfl⟩ : ∃ k : Nat, b = (k : Int) := ⟨b.toNat, by omega⟩
  exact key ⟨n, by omega⟩ ⟨k, by omega⟩
def by_v (y a b : Int) : Int := if b = 0 then jx_iand y (jx_ixor (jx_ishl 1 a) (-1)) else jx_ior y (jx_ishl 1 a)
theorem cl_56 {y a b : Int} {m : jx_M} {Q : Int → jx_M → Prop} (hy : m 1 0 8 = y) (hy2 : 0 ≤ y ∧ y ≤ 15) (h1 : (0 ≤ a ∧ a < 4) → Q (jx_iand (jx_ishr y a) 1) (jx_up m 1 0 8 (by_v y a b))) (h0 : ¬ (0 ≤ a ∧ a < 4) → Q (-1) m) : jx_Cl 56 [xA 0 0, xI a, xI b] m Q := by
  refine sg_56 a b m Q (cl_57 (fun g => ⟨fun z => by omega, fun _ => ?_⟩) (fun g => ⟨fun _ => h0 (by omega), fun z => by omega⟩))
  obtain ⟨k1, k2, -⟩ := jb_by (y := y) (b := a) hy2 (by omega)
  have h := h1 g
  unfold by_v at h
  rw [hy]
  refine ⟨by omega, by omega, fun z => ⟨by omega, fun z2 => ⟨by omega, by omega, by omega, ?_⟩, fun z2 => ⟨by omega, by omega, by omega, ?_⟩⟩, fun z => ⟨by omega, fun z2 => ⟨by omega, by omega, by omega, ?_⟩, fun z2 => ⟨by omega, by omega, by omega, ?_⟩⟩⟩
  · rw [k1 z, if_pos z2] at h; exact h
  · rw [k1 z, if_neg z2] at h; exact h
  · rw [k2 z, if_pos z2] at h; exact h
  · rw [k2 z, if_neg z2] at h; exact h
theorem cl_152 {y a b : Int} {m : jx_M} {Q : Int → jx_M → Prop} (hy : m 26 0 6 = y) (h1 : (0 ≤ a ∧ a < 4) → Q (jx_iand (jx_ishr y a) 1) (jx_up m 26 0 6 (by_v y a b))) (h0 : ¬ (0 ≤ a ∧ a < 4) → Q (-1) m) : jx_Cl 152 [xA 26 0, xI a, xI b] m Q := by
  refine sg_152 a b m Q (cl_125 (fun g => ⟨fun z => by omega, fun _ => ?_⟩) (fun g => ⟨fun _ => h0 (by omega), fun z => by omega⟩))
  have h := h1 (by omega)
  unfold by_v at h
  rw [hy]
  refine ⟨by omega, fun z2 => ⟨by omega, by omega, ?_⟩, fun z2 => ⟨by omega, by omega, ?_⟩⟩
  · rw [if_pos z2] at h; exact h
  · rw [if_neg z2] at h; exact h
theorem pr_13 {a b : Int} {m : jx_M} {R : Int → Int → jx_M → Prop} (hI : jv_I m) (K : ∀ z m2, jv_I m2 → fS m m2 → R z z m2) : jx_Cl 56 [xA 0 0, xI a, xI b] m (fun z1 m1 => jx_Cl 152 [xA 26 0, xI a, xI b] m1 (fun z2 m2 => R z1 z2 m2)) := by
  obtain ⟨d, e, q, hw, hC, hM⟩ := hI
  have k := fun z => jv_ask (G := R z z m) hw hC hM (fcs_r m) (fms_r m) (K z m)
  have e1 : m 1 0 8 = d 1 0 4 := hC.1.2.2.2.2.2.1
  have e2 : m 26 0 6 = d 1 0 4 := hM.1.1.2.2.2.2.2.1
  have hy := hw.1.2.2.2.2.2.1
  refine cl_56 e1 hy (fun g => cl_152 (show jx_up m 1 0 8 _ 26 0 6 = d 1 0 4 from e2) (fun _ => ?_) (fun z => absurd g z)) (fun g => cl_152 e2 (fun z => absurd z g) (fun _ => k _))
  have hM1 : jv_M (jx_up m 1 0 8 (by_v (d 1 0 4) a b)) d e q := jv_M_C (fun s i j hs => up_ne (by omega)) hM
  have hv : 0 ≤ by_v (d 1 0 4) a b ∧ by_v (d 1 0 4) a b ≤ 15 := by
    unfold by_v
    split
    · exact (jb_by hy (by omega)).2.2
    · exact jb_orb hy (by omega)
  refine jv_town (d' := jx_up d 1 0 4 (by_v (d 1 0 4) a b)) (m1 := jx_up m 1 0 8 (by_v (d 1 0 4) a b)) hw hC hM ?_ ?_ ?_ ?_ ?_ ?_ ?_ (K _ _)
  · exact u14_w hv hw.1
  · exact fun s i j hn => up_ne (by omega)
  · exact ⟨up_so (by omega), up_so (by omega)⟩
  · exact u14_rc hC.1
  · exact fun s i j hn => up_ne (by omega)
  · exact ⟨rfl, up_so (by omega)⟩
  · exact rm_of (u14_re (re_M hM1)) hM1.1.2.1
-- of
def vl_b (k v : Int) : Prop := (k = 0 ∧ 0 ≤ v ∧ v ≤ 3) ∨ (k = 1 ∧ 1 ≤ v ∧ v ≤ 9) ∨ (k = 2 ∧ 0 ≤ v ∧ v ≤ 119) ∨ (k = 3 ∧ 1 ≤ v ∧ v ≤ 5)
theorem cl_20 {t0 : Nat} {a b : Int} {m : jx_M} {Q : Int → jx_M → Prop} (ht : t0 < 18) (h1 : vl_b a b → Q (m 6 t0 (4 + a.toNat)) (jx_up m 6 t0 (4 + a.toNat) b)) (h0 : ¬ vl_b a b → Q (-1) m) : jx_Cl 20 [xA 6 t0, xI a, xI b] m Q := by
  unfold vl_b at h1 h0
  refine sg_20 t0 a b m Q ?_
  by_cases q0 : a = 0
  · subst q0
    refine ⟨fun _ => cl_14 (fun g => ⟨fun z => by omega, fun _ => ⟨ht, ht, h1 (by omega)⟩⟩) (fun g => ⟨fun _ => ⟨fun z => by omega, fun _ => ⟨fun z => by omega, fun _ => ⟨fun z => by omega, fun _ => h0 (by omega)⟩⟩⟩, fun z => by omega⟩), fun z => absurd rfl z⟩
  · refine ⟨fun z => absurd z q0, fun _ => ?_⟩
    by_cases q1 : a = 1
    · subst q1
      refine ⟨fun _ => cl_15 (fun g => ⟨fun z => by omega, fun _ => ⟨ht, ht, h1 (by omega)⟩⟩) (fun g => ⟨fun _ => ⟨fun z => by omega, fun _ => ⟨fun z => by omega, fun _ => h0 (by omega)⟩⟩, fun z => by omega⟩), fun z => absurd rfl z⟩
    · refine ⟨fun z => absurd z q1, fun _ => ?_⟩
      by_cases q2 : a = 2
      · subst q2
        refine ⟨fun _ => cl_21 (fun g => ⟨fun z => by omega, fun _ => ⟨ht, ht, h1 (by omega)⟩⟩) (fun g => ⟨fun _ => ⟨fun z => by omega, fun _ => h0 (by omega)⟩, fun z => by omega⟩), fun z => absurd rfl z⟩
      · refine ⟨fun z => absurd z q2, fun _ => ?_⟩
        by_cases q3 : a = 3
        · subst q3
          refine ⟨fun _ => cl_12 (fun g => ⟨fun z => by omega, fun _ => ⟨ht, ht, h1 (by omega)⟩⟩) (fun g => ⟨fun _ => h0 (by omega), fun z => by omega⟩), fun z => absurd rfl z⟩
        · exact ⟨fun z => absurd z q3, fun _ => h0 (by omega)⟩
theorem cl_18 {d : jx_M} {a b c : Int} {m : jx_M} {Q : Int → jx_M → Prop} (hw : dt_w d) (hr : rc_T m 0 d) (h1 : (0 ≤ a ∧ a < d 1 0 0) ∧ vl_b b c → Q (m 6 (6 * 0 + a.toNat) (4 + b.toNat)) (jx_up m 6 (6 * 0 + a.toNat) (4 + b.toNat) c)) (h0 : ¬ ((0 ≤ a ∧ a < d 1 0 0) ∧ vl_b b c) → Q (-1) m) : jx_Cl 18 [xA 0 0, xI a, xI b, xI c] m Q := by
  have hn := hw.2.1
  have en := hr.2.1
  exact sg_18 a b c m Q ⟨by omega, by omega, cl_19 (by omega) (fun g => ⟨fun z => by omega, fun _ => ⟨by omega, by omega, by omega, by omega, by omega, cl_20 (by omega) (fun g2 => h1 ⟨by omega, g2⟩) (fun g2 => h0 (fun z => g2 z.2))⟩⟩) (fun g => ⟨fun _ => h0 (fun z => g (by omega)), fun z => by omega⟩)⟩
theorem cl_127 {a b : Int} {m : jx_M} {Q : Int → jx_M → Prop} (ha : 0 ≤ a ∧ a ≤ 3) (h1 : vl_b a b → Q 1 m) (h0 : ¬ vl_b a b → Q 0 m) : jx_Cl 127 [xI a, xI b] m Q := by
  unfold vl_b at h1 h0
  refine sg_127 a b m Q ⟨fun q => cl_125 (fun g => ⟨by omega, h1 (by omega)⟩) (fun g => ⟨by omega, h0 (by omega)⟩), fun q => ⟨fun q => cl_125 (fun g => ⟨by omega, h1 (by omega)⟩) (fun g => ⟨by omega, h0 (by omega)⟩), fun q => ⟨fun q => cl_128 (fun g => ⟨by omega, h1 (by omega)⟩) (fun g => ⟨by omega, h0 (by omega)⟩), fun q => cl_125 (fun g => ⟨by omega, h1 (by omega)⟩) (fun g => ⟨by omega, h0 (by omega)⟩)⟩⟩⟩
theorem vl_b_in {k v : Int} (h : vl_b k v) : 0 ≤ k ∧ k ≤ 3 ∧ vl_2 k.toNat v := by
  unfold vl_b at h
  unfold vl_2
  rcases h with ⟨rfl, h⟩ | ⟨rfl, h⟩ | ⟨rfl, h⟩ | ⟨rfl, h⟩
  · exact ⟨by omega, by omega, fun _ => h, fun z => absurd z (by decide), fun z => absurd z (by decide), fun z => absurd z (by decide)⟩
  · exact ⟨by omega, by omega, fun z => absurd z (by decide), fun _ => h, fun z => absurd z (by decide), fun z => absurd z (by decide)⟩
  · exact ⟨by omega, by omega, fun z => absurd z (by decide), fun z => absurd z (by decide), fun _ => h, fun z => absurd z (by decide)⟩
  · exact ⟨by omega, by omega, fun z => absurd z (by decide), fun z => absurd z (by decide), fun z => absurd z (by decide), fun _ => h⟩
theorem cl_129 {d : jx_M} {a b c : Int} {m : jx_M} {Q : Int → jx_M → Prop} (hw : dt_w d) (hr : re_T m d) (h1 : (0 ≤ a ∧ a < d 1 0 0) ∧ vl_b b c → Q (m 28 0 (4 * a + b).toNat) (jx_up m 28 0 (4 * a + b).toNat c)) (h0 : ¬ ((0 ≤ a ∧ a < d 1 0 0) ∧ vl_b b c) → Q (-1) m) : jx_Cl 129 [xA 26 0, xI a, xI b, xI c] m Q := by
  have hn := hw.2.1
  have en := hr.2.1
  exact sg_129 a b c m Q ⟨by omega, cl_130 (by omega) (fun g => ⟨fun z => by omega, fun _ => cl_125 (fun g2 => ⟨fun z => by omega, fun _ => cl_127 (by omega) (fun g3 => ⟨fun z => by omega, fun _ => ⟨by omega, by omega, by omega, by omega, by omega, by omega, by omega, by omega, by omega, by omega, h1 ⟨by omega, g3⟩⟩⟩) (fun g3 => ⟨fun _ => h0 (fun z => g3 z.2), fun z => by omega⟩)⟩) (fun g2 => ⟨fun _ => h0 (fun z => by have := vl_b_in z.2; omega), fun z => by omega⟩)⟩) (fun g => ⟨fun _ => h0 (fun z => g (by omega)), fun z => by omega⟩)⟩
theorem pr_2 {a b c : Int} {m : jx_M} {R : Int → Int → jx_M → Prop} (hI : jv_I m) (K : ∀ z m2, jv_I m2 → fS m m2 → R z z m2) : jx_Cl 18 [xA 0 0, xI a, xI b, xI c] m (fun z1 m1 => jx_Cl 129 [xA 26 0, xI a, xI b, xI c] m1 (fun z2 m2 => R z1 z2 m2)) := by
  obtain ⟨d, e, q, hw, hC, hM⟩ := hI
  have k := fun z => jv_ask (G := R z z m) hw hC hM (fcs_r m) (fms_r m) (K z m)
  have hn := hw.1.2.1
  refine cl_18 hw.1 hC.1 (fun g => ?_) (fun g => cl_129 hw.1 (re_M hM) (fun z => absurd z g) (fun _ => k _))
  obtain ⟨v1, v2, v3⟩ := vl_b_in g.2
  have hM1 : jv_M (jx_up m 6 (6 * 0 + a.toNat) (4 + b.toNat) c) d e q := jv_M_C (fun s i j hs => up_ne (by omega)) hM
  refine cl_129 hw.1 (re_M hM1) (fun _ => ?_) (fun z => absurd g z)
  rw [show (4 * a + b).toNat = 4 * a.toNat + b.toNat by omega]
  obtain ⟨r1, r2, r3, r4, -⟩ := rs_of hC.1 a.toNat (by omega)
  have ec : m 6 (6 * 0 + a.toNat) (4 + b.toNat) = d 2 a.toNat b.toNat := by
    rcases (by omega : b = 0 ∨ b = 1 ∨ b = 2 ∨ b = 3) with rfl | rfl | rfl | rfl
    · exact r1
    · exact r2
    · exact r3
    · exact r4
  have er : jx_up m 6 (6 * 0 + a.toNat) (4 + b.toNat) c 28 0 (4 * a.toNat + b.toNat) = d 2 a.toNat b.toNat := (hM1.1.1.2.2.2.2.2.2.1 a.toNat (by omega)).1 b.toNat (by omega)
  rw [ec, er]
  refine jv_town (d' := jx_up d 2 a.toNat b.toNat c) (m1 := jx_up m 6 (6 * 0 + a.toNat) (4 + b.toNat) c) hw hC hM ?_ ?_ ?_ ?_ ?_ ?_ ?_ (K _ _)
  · exact u2_w (s := a.toNat) (k := b.toNat) (by omega) v3 hw.1
  · exact fun s i j hn => up_ne (by omega)
  · exact ⟨up_so (by omega), up_so (by omega)⟩
  · exact u2_rc (t := 0) (by omega) hC.1
  · exact fun s i j hn => up_ne (by omega)
  · exact ⟨rfl, up_so (by omega)⟩
  · exact rm_of (u2_re (by omega) (re_M hM1)) hM1.1.2.1
-- shut
theorem pr_27 {m : jx_M} {R : Int → Int → jx_M → Prop} (hI : jv_I m) (K : ∀ z m2, jv_I m2 → fS m m2 → R z z m2) : jx_Cl 100 [xA 0 0] m (fun z1 m1 => jx_Cl 174 [xA 26 0] m1 (fun z2 m2 => R z1 z2 m2)) := by
  obtain ⟨d, e, q, hw, hC, hM⟩ := hI
  refine sg_100 m _ ⟨by omega, by omega, by omega, by omega, sg_174 _ _ ⟨by omega, by omega, ?_⟩⟩
  have e1 : m 1 0 6 = d 1 0 2 := hC.1.2.2.2.1
  have e2 : jx_up m 1 0 6 0 26 0 9 = d 1 0 2 := hM.1.1.2.2.2.1
  rw [e1, e2]
  have hM1 : jv_M (jx_up m 1 0 6 0) d e q := jv_M_C (fun s i j hs => up_ne (by omega)) hM
  refine jv_town (d' := jx_up d 1 0 2 0) hw hC hM ?_ (fun s i j hn => up_ne (by omega)) ⟨up_so (by omega), up_so (by omega)⟩ ?_ (fun s i j hn => up_ne (by omega)) ⟨rfl, up_so (by omega)⟩ ?_ (K _ _)
  · obtain ⟨h1, h2, h3, h4, h5, h6, h7, h8, h9⟩ := hw.1
    exact ⟨h1, h2, h3, (by show (0 : Int) ≤ 0 ∧ (0 : Int) ≤ 12; omega), h5, h6, h7, h8, fun w hw => by have : (w : Int) < 0 := hw; omega⟩
  · obtain ⟨h1, h2, h3, h4, h5, h6, h7, h8, h9⟩ := hC.1
    exact ⟨h1, h2, h3, rfl, h5, h6, h7, h8, fun w hw => by have : (w : Int) < 0 := hw; omega⟩
  · obtain ⟨h1, h2, h3, h4, h5, h6, h7, h8, h9⟩ := hM1.1.1
    exact ⟨h1, h2, h3, rfl, h5, h6, h7, h8, fun w hw => by have : (w : Int) < 0 := hw; omega⟩
