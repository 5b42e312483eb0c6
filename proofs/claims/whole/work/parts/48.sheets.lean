/-! sheets -/
theorem lp_2_ITEMS {t0 : Nat} {v : Int} {m : jx_M} {Q : Int → jx_M → Prop} (ht0 : t0 < 4) (K : ∀ m2 : jx_M, (∀ s i j, ¬ (s = 24 ∧ i = t0) → m2 s i j = m s i j) → (∀ j : Nat, j < 24 → m2 24 t0 j = v) → Q 0 m2) :
    ∀ (r k : Nat) (m1 : jx_M), k + r = 24 → (∀ s i j, ¬ (s = 24 ∧ i = t0) → m1 s i j = m s i j) → (∀ j : Nat, j < k → m1 24 t0 j = v) → jx_AW 2 5 [some (xA 24 t0), some (xI v), some (xI (k : Int)), some (xI 24)] [] m1 Q := by
  intro r
  induction r with
  | zero =>
    intro k m1 hk hf h
    exact sg_2_ITEMS_5 t0 v k 24 m1 Q ⟨fun z => by omega, fun _ => K m1 hf (fun j hj => h j (by omega))⟩
  | succ r ih =>
    intro k m1 hk hf h
    refine sg_2_ITEMS_5 t0 v k 24 m1 Q ⟨fun _ => ⟨by omega, ht0, by omega, ih (k + 1) _ (by omega) (fun s i j hn => ?_) (fun j hj => ?_)⟩, fun z => by omega⟩
    · rw [up_ne (fun z => hn ⟨z.1, z.2.1⟩)]; exact hf s i j hn
    · rw [show ((k : Int)).toNat = k by omega]
      rcases Nat.decEq j k with q | q
      · rw [up_ne (by omega)]; exact h j (by omega)
      · subst q; exact up_eq
theorem cl_2_ITEMS {t0 : Nat} {v : Int} {m : jx_M} {Q : Int → jx_M → Prop} (ht0 : t0 < 4) (K : ∀ m2 : jx_M, (∀ s i j, ¬ (s = 24 ∧ i = t0) → m2 s i j = m s i j) → (∀ j : Nat, j < 24 → m2 24 t0 j = v) → Q 0 m2) : jx_Cl 2 [xA 24 t0, xI v] m Q :=
  sg_2_ITEMS t0 v m Q ⟨rfl, ht0, lp_2_ITEMS ht0 K 24 0 m (by omega) (fun _ _ _ _ => rfl) (fun j hj => by omega)⟩
def sh_w (q : jx_M) : Prop := ∀ k, k < 4 → (q 2 k 0 = 0 ∨ q 2 k 0 = 1) ∧ (q 2 k 0 = 1 → 0 ≤ q 2 k 1 ∧ q 2 k 1 ≤ 2) ∧ (0 ≤ q 2 k 2 ∧ q 2 k 2 ≤ 24)
/-- only the sheets change -/
theorem jv_sh {m m1 m2 d e q q' : jx_M} {G : Prop} (hw : sw d e q) (hC : jv_C m d e q) (hM : jv_M m d e q) (hq : ∀ a b c, a < 2 → q' a b c = q a b c) (hs : sh_w q') (f1 : ∀ s i j, ¬ (s = 23 ∨ s = 24) → m1 s i j = m s i j) (c1 : jc_H m1 q') (f2 : ∀ s i j, ¬ (43 ≤ s ∧ s ≤ 46) → m2 s i j = m1 s i j) (c2 : jm_H m2 q') (K : jv_I m2 → fS m m2 → G) : G := by
  have e0 := hq 0 0 0 (by omega)
  have e1 := hq 1 0 0 (by omega)
  have hw' : sw d e q' := by
    obtain ⟨h1, h2, h3, h4, h5, h6⟩ := hw
    refine ⟨h1, by rw [e0]; exact h2, by rw [e0]; exact h3, by rw [e1]; exact h4, fun i hi => ?_, hs⟩
    rw [hq 1 1 i (by omega)]
    rw [e1] at hi
    exact h5 i hi
  have c1' : jv_C m1 d e q' := by
    obtain ⟨h1, ⟨h2, h3⟩, h4, h5⟩ := hC
    refine ⟨rc_fr hw.1 (fun s j hs => f1 s 0 j (by omega)) (fun s i j hs hi => f1 s i j (by omega)) (fun s i j hs hi => f1 s i j (by omega)) h1, ⟨by rw [e0, f1 0 0 7 (by omega)]; exact h2, fun z => ?_⟩, ⟨by rw [e1, f1 20 0 1 (by omega)]; exact h4.1, fun i hi => ?_⟩, c1⟩
    · rw [e0] at z
      exact rc_fr (hw.2.2.1 z) (fun s j hs => f1 s 1 j (by omega)) (fun s i j hs hi => f1 s i j (by omega)) (fun s i j hs hi => f1 s i j (by omega)) (h3 z)
    · rw [e1] at hi
      rw [hq 1 1 i (by omega), f1 21 0 i (by omega)]
      exact h4.2 i hi
  have fc : fC m m1 := fun s i j hs => f1 s i j (by omega)
  refine jv_fin hw' fc c1' (fun s i j hs => f2 s i j (by omega)) ?_ K
  obtain ⟨⟨h1, h2, h3⟩, ⟨h4, h5⟩, h6, h7⟩ := jv_M_C fc hM
  refine ⟨⟨rm_fr (fun s j hs hj => f2 s 0 j (by omega)) h1, (f2 26 0 16 (by omega)).trans h2, (f2 26 0 17 (by omega)).trans h3⟩, ⟨by rw [e0, f2 26 0 27 (by omega)]; exact h4, fun z => ?_⟩, ⟨by rw [e1, f2 26 0 12 (by omega)]; exact h6.1, fun i hi => ?_⟩, c2⟩
  · rw [e0] at z
    exact im_fr (fun j => f2 42 0 j (by omega)) (h5 z)
  · rw [e1] at hi
    rw [hq 1 1 i (by omega), f2 33 0 i (by omega)]
    exact h6.2 i hi
theorem cl_110 {t0 : Nat} {c i n : Int} {m : jx_M} {Q : Int → jx_M → Prop} (ht : t0 < 4) (hc : m 23 t0 3 = c) (hc2 : 0 ≤ c ∧ c ≤ 24) (h1 : 0 ≤ i ∧ 0 ≤ n ∧ i + n ≤ c → Q 1 m) (h0 : ¬ (0 ≤ i ∧ 0 ≤ n ∧ i + n ≤ c) → Q 0 m) : jx_Cl 110 [xA 23 t0, xI i, xI n] m Q := by
  refine sg_110 t0 i n m Q ?_
  rw [hc]
  repeat' (first | omega | exact h0 (by omega) | exact h1 (by omega) | apply And.intro | intro _)
theorem cl_109 {q : jx_M} {t0 : Nat} {l i n : Int} {m : jx_M} {Q : Int → jx_M → Prop} (ht : t0 < 4) (hw : sh_w q) (hH : jc_H m q) (hn : 0 ≤ n) (h11 : q 2 t0 0 = 0 → Q (-11) m) (h12 : q 2 t0 0 = 1 ∧ ¬ q 2 t0 1 = l → Q (-12) m) (h13 : (q 2 t0 0 = 1 ∧ q 2 t0 1 = l) ∧ ¬ (0 ≤ i ∧ i + n ≤ q 2 t0 2) → Q (-13) m) (h0 : (q 2 t0 0 = 1 ∧ q 2 t0 1 = l) ∧ (0 ≤ i ∧ i + n ≤ q 2 t0 2) → Q 0 m) : jx_Cl 109 [xA 23 t0, xI l, xI i, xI n] m Q := by
  obtain ⟨a1, a2, a3, -⟩ := hH t0 ht
  obtain ⟨b1, b2, b3⟩ := hw t0 ht
  refine sg_109 t0 l i n m Q ?_
  rw [a1]
  refine ⟨ht, fun z => h11 z, fun z => ⟨ht, ?_⟩⟩
  rw [a2 (by omega)]
  exact ⟨fun z2 => ⟨ht, cl_110 ht a3 b3 (fun g => ⟨fun z => by omega, fun _ => h0 (by omega)⟩) (fun g => ⟨fun _ => h13 (by omega), fun z => by omega⟩)⟩, fun z2 => h12 (by omega)⟩
theorem cl_185 {q : jx_M} {a l i n : Int} {m : jx_M} {Q : Int → jx_M → Prop} (ha : 0 ≤ a ∧ a < 4) (hw : sh_w q) (hH : jm_H m q) (hl : 0 ≤ l) (hn : 0 ≤ n) (hi : jx_in i) (hn2 : jx_in n) (h11 : q 2 a.toNat 0 = 0 → Q (-11) m) (h12 : q 2 a.toNat 0 = 1 ∧ ¬ q 2 a.toNat 1 = l → Q (-12) m) (h13 : (q 2 a.toNat 0 = 1 ∧ q 2 a.toNat 1 = l) ∧ ¬ (0 ≤ i ∧ i + n ≤ q 2 a.toNat 2) → Q (-13) m) (h0 : (q 2 a.toNat 0 = 1 ∧ q 2 a.toNat 1 = l) ∧ (0 ≤ i ∧ i + n ≤ q 2 a.toNat 2) → Q 0 m) : jx_Cl 185 [xA 26 0, xI a, xI l, xI i, xI n] m Q := by
  obtain ⟨a1, a2, a3, -⟩ := hH a.toNat (by omega)
  obtain ⟨b1, b2, b3⟩ := hw a.toNat (by omega)
  have e2 := jb_lcmp (i + n) (q 2 a.toNat 2)
  refine sg_185 a l i n m Q ?_
  rw [a3]
  rcases b1 with b | b
  · rw [a1 b]
    exact ⟨by omega, by omega, by omega, fun _ => h11 b, fun z => by omega⟩
  · have b4 := b2 b
    rw [a2 b]
    exact ⟨by omega, by omega, by omega, fun z => by omega, fun _ => ⟨by omega, by omega, by omega, fun z2 => ⟨fun z3 => h13 (by omega), fun z3 => ⟨by omega, by omega, by omega, by omega, fun z4 => h13 (by omega), fun z4 => h0 (by omega)⟩⟩, fun z2 => h12 (by omega)⟩⟩
theorem sh_of {d e q : jx_M} (hw : sw d e q) : sh_w q := hw.2.2.2.2.2
-- drop
theorem cl_118 {q : jx_M} {a : Int} {m : jx_M} {Q : Int → jx_M → Prop} (hw : sh_w q) (hH : jc_H m q) (h1 : (0 ≤ a ∧ a < 4) ∧ q 2 a.toNat 0 = 1 → Q (q 2 a.toNat 2) (jx_up m 23 a.toNat 1 0)) (h11 : (0 ≤ a ∧ a < 4) ∧ q 2 a.toNat 0 = 0 → Q (-11) m) (h0 : ¬ (0 ≤ a ∧ a < 4) → Q (-1) m) : jx_Cl 118 [xA 0 0, xI a] m Q := by
  refine sg_118 a m Q (cl_107 (fun g => ⟨fun z => by omega, fun _ => ?_⟩) (fun g => ⟨fun _ => h0 g, fun z => by omega⟩))
  obtain ⟨a1, a2, a3, -⟩ := hH a.toNat (by omega)
  obtain ⟨b1, b2, b3⟩ := hw a.toNat (by omega)
  rw [up_ne (by omega), a1, a3]
  exact ⟨by omega, by omega, by omega, by omega, fun z => h11 (by omega), fun z => ⟨by omega, by omega, by omega, h1 (by omega)⟩⟩
theorem cl_188 {q : jx_M} {a : Int} {m : jx_M} {Q : Int → jx_M → Prop} (hw : sh_w q) (hH : jm_H m q) (h1 : (0 ≤ a ∧ a < 4) ∧ q 2 a.toNat 0 = 1 → Q (q 2 a.toNat 2) (jx_up m 43 0 a.toNat (-1))) (h11 : (0 ≤ a ∧ a < 4) ∧ q 2 a.toNat 0 = 0 → Q (-11) m) (h0 : ¬ (0 ≤ a ∧ a < 4) → Q (-1) m) : jx_Cl 188 [xA 26 0, xI a] m Q := by
  refine sg_188 a m Q (cl_183 (fun g => ⟨fun z => by omega, fun _ => ?_⟩) (fun g => ⟨fun _ => h0 (by omega), fun z => by omega⟩))
  obtain ⟨a1, a2, a3, -⟩ := hH a.toNat (by omega)
  obtain ⟨b1, b2, b3⟩ := hw a.toNat (by omega)
  rw [up_ne (by omega), a3]
  rcases b1 with b | b
  · rw [a1 b]
    exact ⟨by omega, by omega, by omega, fun _ => h11 (by omega), fun z => by omega⟩
  · have b4 := b2 b
    rw [a2 b]
    exact ⟨by omega, by omega, by omega, fun z => by omega, fun _ => ⟨by omega, by omega, by omega, by omega, by omega, by omega, h1 (by omega)⟩⟩
theorem pr_35 {a : Int} {m : jx_M} {R : Int → Int → jx_M → Prop} (hI : jv_I m) (K : ∀ z m2, jv_I m2 → fS m m2 → R z z m2) : jx_Cl 118 [xA 0 0, xI a] m (fun z1 m1 => jx_Cl 188 [xA 26 0, xI a] m1 (fun z2 m2 => R z1 z2 m2)) := by
  obtain ⟨d, e, q, hw, hC, hM⟩ := hI
  have k := fun z => jv_ask (G := R z z m) hw hC hM (fcs_r m) (fms_r m) (K z m)
  have hs := sh_of hw
  refine cl_118 hs hC.2.2.2 (fun g => ?_) (fun g => cl_188 hs hM.2.2.2 (fun z => by omega) (fun _ => k _) (fun z => absurd g.1 z)) (fun g => cl_188 hs hM.2.2.2 (fun z => absurd z.1 g) (fun z => absurd z.1 g) (fun _ => k _))
  have hM1 : jv_M (jx_up m 23 a.toNat 1 0) d e q := jv_M_C (fun s i j hs => up_ne (by omega)) hM
  refine cl_188 hs hM1.2.2.2 (fun _ => ?_) (fun z => by omega) (fun z => absurd g.1 z)
  refine jv_sh (q' := jx_up q 2 a.toNat 0 0) (m1 := jx_up m 23 a.toNat 1 0) (m2 := jx_up (jx_up m 23 a.toNat 1 0) 43 0 a.toNat (-1)) hw hC hM (fun a b c h => up_ne (by omega)) ?_ (fun s i j hn => up_ne (by omega)) ?_ (fun s i j hn => up_ne (by omega)) ?_ (K _ _)
  · intro k hk
    obtain ⟨b1, b2, b3⟩ := hs k hk
    rw [up_ne (j := 0) (j' := 1) (by omega), up_ne (j := 0) (j' := 2) (by omega)]
    by_cases h : k = a.toNat
    · rw [h, up_eq, ← h]; exact ⟨Or.inl rfl, fun z => by omega, b3⟩
    · rw [up_ne (by omega)]; exact ⟨b1, b2, b3⟩
  · intro k hk
    obtain ⟨a1, a2, a3, a4⟩ := hC.2.2.2 k hk
    rw [up_ne (j := 0) (j' := 1) (by omega), up_ne (j := 0) (j' := 2) (by omega), up_ne (j := 1) (j' := 2) (by omega), up_ne (j := 1) (j' := 3) (by omega)]
    by_cases h : k = a.toNat
    · subst h; rw [up_eq, up_eq]; exact ⟨rfl, fun z => by omega, a3, a4⟩
    · rw [up_ne (by omega), up_ne (by omega)]; exact ⟨a1, a2, a3, a4⟩
  · intro k hk
    obtain ⟨a1, a2, a3, a4⟩ := hM1.2.2.2 k hk
    rw [up_ne (j := 0) (j' := 1) (by omega), up_ne (j := 0) (j' := 2) (by omega)]
    by_cases h : k = a.toNat
    · subst h; rw [up_eq, up_eq]; exact ⟨fun _ => rfl, fun z => by omega, a3, a4⟩
    · rw [up_ne (by omega), up_ne (by omega)]; exact ⟨a1, a2, a3, a4⟩
-- item
def it_v (l v : Int) : Int := if l = 0 then jx_i2b v else if l = 1 then jx_i2s v else v
theorem cl_119 {q : jx_M} {a l i v : Int} {m : jx_M} {Q : Int → jx_M → Prop} (hw : sh_w q) (hH : jc_H m q) (h1 : ((0 ≤ a ∧ a < 4) ∧ (0 ≤ l ∧ l < 3)) ∧ (q 2 a.toNat 0 = 1 ∧ q 2 a.toNat 1 = l) ∧ (0 ≤ i ∧ i + 1 ≤ q 2 a.toNat 2) → Q 1 (jx_up m 24 a.toNat i.toNat (it_v l v))) (h11 : ((0 ≤ a ∧ a < 4) ∧ (0 ≤ l ∧ l < 3)) ∧ q 2 a.toNat 0 = 0 → Q (-11) m) (h12 : ((0 ≤ a ∧ a < 4) ∧ (0 ≤ l ∧ l < 3)) ∧ q 2 a.toNat 0 = 1 ∧ ¬ q 2 a.toNat 1 = l → Q (-12) m) (h13 : ((0 ≤ a ∧ a < 4) ∧ (0 ≤ l ∧ l < 3)) ∧ (q 2 a.toNat 0 = 1 ∧ q 2 a.toNat 1 = l) ∧ ¬ (0 ≤ i ∧ i + 1 ≤ q 2 a.toNat 2) → Q (-13) m) (h0 : ¬ ((0 ≤ a ∧ a < 4) ∧ (0 ≤ l ∧ l < 3)) → Q (-1) m) : jx_Cl 119 [xA 0 0, xI a, xI l, xI i, xI v] m Q := by
  refine sg_119 a l i v m Q (cl_107 (fun g1 => ⟨fun z => by omega, fun _ => cl_108 (fun g2 => ⟨fun z => by omega, fun _ => ⟨by omega, by omega, by omega, by omega, ?_⟩⟩) (fun g => ⟨fun _ => h0 (by omega), fun z => by omega⟩)⟩) (fun g => ⟨fun _ => h0 (by omega), fun z => by omega⟩))
  obtain ⟨a1, a2, a3, -⟩ := hH a.toNat (by omega)
  obtain ⟨b1, b2, b3⟩ := hw a.toNat (by omega)
  refine cl_109 (by omega) hw hH (by omega) (fun g => ⟨fun z => by omega, fun _ => h11 (by omega)⟩) (fun g => ⟨fun z => by omega, fun _ => h12 (by omega)⟩) (fun g => ⟨fun z => by omega, fun _ => h13 (by omega)⟩) (fun g => ⟨fun _ => ⟨by omega, ?_⟩, fun z => by omega⟩)
  have h := h1 (by omega)
  unfold it_v at h
  refine sg_120 a.toNat i v m _ ?_
  rw [a2 g.1.1, g.1.2]
  refine ⟨by omega, fun z => ⟨by omega, by omega, by omega, ?_⟩, fun z => ⟨by omega, fun z2 => ⟨by omega, by omega, by omega, ?_⟩, fun z2 => ⟨by omega, by omega, by omega, ?_⟩⟩⟩
  · rw [if_pos z] at h; exact h
  · rw [if_neg z, if_pos z2] at h; exact h
  · rw [if_neg z, if_neg z2] at h; exact h
theorem cl_189 {q : jx_M} {a l i v : Int} {m : jx_M} {Q : Int → jx_M → Prop} (hw : sh_w q) (hH : jm_H m q) (hi : jx_in i) (h1 : ((0 ≤ a ∧ a < 4) ∧ (0 ≤ l ∧ l < 3)) ∧ (q 2 a.toNat 0 = 1 ∧ q 2 a.toNat 1 = l) ∧ (0 ≤ i ∧ i + 1 ≤ q 2 a.toNat 2) → Q 1 (jx_up m 45 0 (24 * a.toNat + i.toNat) (it_v l v))) (h11 : ((0 ≤ a ∧ a < 4) ∧ (0 ≤ l ∧ l < 3)) ∧ q 2 a.toNat 0 = 0 → Q (-11) m) (h12 : ((0 ≤ a ∧ a < 4) ∧ (0 ≤ l ∧ l < 3)) ∧ q 2 a.toNat 0 = 1 ∧ ¬ q 2 a.toNat 1 = l → Q (-12) m) (h13 : ((0 ≤ a ∧ a < 4) ∧ (0 ≤ l ∧ l < 3)) ∧ (q 2 a.toNat 0 = 1 ∧ q 2 a.toNat 1 = l) ∧ ¬ (0 ≤ i ∧ i + 1 ≤ q 2 a.toNat 2) → Q (-13) m) (h0 : ¬ ((0 ≤ a ∧ a < 4) ∧ (0 ≤ l ∧ l < 3)) → Q (-1) m) : jx_Cl 189 [xA 26 0, xI a, xI l, xI i, xI v] m Q := by
  refine sg_189 a l i v m Q (cl_183 (fun g1 => ⟨fun z => by omega, fun _ => cl_184 (fun g2 => ⟨fun z => by omega, fun _ => ⟨by omega, ?_⟩⟩) (fun g => ⟨fun _ => h0 (by omega), fun z => by omega⟩)⟩) (fun g => ⟨fun _ => h0 (by omega), fun z => by omega⟩))
  obtain ⟨b1, b2, b3⟩ := hw a.toNat (by omega)
  refine cl_185 (by omega) hw hH (by omega) (by omega) hi (by omega) (fun g => ⟨fun _ => h11 (by omega), fun z => by omega⟩) (fun g => ⟨fun _ => h12 (by omega), fun z => by omega⟩) (fun g => ⟨fun _ => h13 (by omega), fun z => by omega⟩) (fun g => ⟨fun z => by omega, fun _ => ?_⟩)
  have h := h1 (by omega)
  unfold it_v at h
  rw [show (24 * a + i).toNat = 24 * a.toNat + i.toNat by omega]
  refine ⟨by omega, by omega, by omega, fun z => ⟨by omega, by omega, ?_⟩, fun z => ⟨fun z2 => ⟨by omega, by omega, ?_⟩, fun z2 => ⟨by omega, by omega, ?_⟩⟩⟩
  · rw [if_pos z] at h; exact h
  · rw [if_neg z, if_pos z2] at h; exact h
  · rw [if_neg z, if_neg z2] at h; exact h
theorem pr_36 {a l i v : Int} {m : jx_M} {R : Int → Int → jx_M → Prop} (hi : jx_in i) (hI : jv_I m) (K : ∀ z m2, jv_I m2 → fS m m2 → R z z m2) : jx_Cl 119 [xA 0 0, xI a, xI l, xI i, xI v] m (fun z1 m1 => jx_Cl 189 [xA 26 0, xI a, xI l, xI i, xI v] m1 (fun z2 m2 => R z1 z2 m2)) := by
  obtain ⟨d, e, q, hw, hC, hM⟩ := hI
  have k := fun z => jv_ask (G := R z z m) hw hC hM (fcs_r m) (fms_r m) (K z m)
  have hs := sh_of hw
  refine cl_119 hs hC.2.2.2 (fun g => ?_) (fun g => cl_189 hs hM.2.2.2 hi (fun z => by omega) (fun _ => k _) (fun z => by omega) (fun z => by omega) (fun z => by omega)) (fun g => cl_189 hs hM.2.2.2 hi (fun z => by omega) (fun z => by omega) (fun _ => k _) (fun z => by omega) (fun z => by omega)) (fun g => cl_189 hs hM.2.2.2 hi (fun z => by omega) (fun z => by omega) (fun z => by omega) (fun _ => k _) (fun z => by omega)) (fun g => cl_189 hs hM.2.2.2 hi (fun z => by omega) (fun z => by omega) (fun z => by omega) (fun z => by omega) (fun _ => k _))
  have b3 := (hs a.toNat (by omega)).2.2
  have hM1 : jv_M (jx_up m 24 a.toNat i.toNat (it_v l v)) d e q := jv_M_C (fun s i j hs => up_ne (by omega)) hM
  refine cl_189 hs hM1.2.2.2 hi (fun _ => ?_) (fun z => by omega) (fun z => by omega) (fun z => by omega) (fun z => by omega)
  refine jv_sh (q' := jx_up q 3 a.toNat i.toNat (it_v l v)) (m1 := jx_up m 24 a.toNat i.toNat (it_v l v)) (m2 := jx_up (jx_up m 24 a.toNat i.toNat (it_v l v)) 45 0 (24 * a.toNat + i.toNat) (it_v l v)) hw hC hM (fun a b c h => up_ne (by omega)) hs (fun s i j hn => up_ne (by omega)) ?_ (fun s i j hn => up_ne (by omega)) ?_ (K _ _)
  · intro k hk
    obtain ⟨a1, a2, a3, a4⟩ := hC.2.2.2 k hk
    refine ⟨a1, a2, a3, fun j hj => ?_⟩
    by_cases h : k = a.toNat ∧ j = i.toNat
    · rw [h.1, h.2, up_eq, up_eq]
    · rw [up_ne (by omega), up_ne (by omega)]; exact a4 j hj
  · intro k hk
    obtain ⟨a1, a2, a3, a4⟩ := hM1.2.2.2 k hk
    refine ⟨a1, a2, a3, fun j hj => ?_⟩
    by_cases h : k = a.toNat ∧ j = i.toNat
    · rw [h.1, h.2, up_eq, up_eq]
    · rw [up_ne (s := 45) (by omega), up_ne (s := 3) (by omega)]; exact a4 j hj
-- sheet
def q_sh (q : jx_M) (k : Nat) (l n : Int) : jx_M := fun a b c => if a = 2 ∧ b = k then (if c = 0 then 1 else if c = 1 then l else n) else if a = 3 ∧ b = k then 0 else q a b c
theorem qs_2 {q : jx_M} {k : Nat} {l n : Int} (c : Nat) : q_sh q k l n 2 k c = (if c = 0 then 1 else if c = 1 then l else n) := if_pos ⟨rfl, rfl⟩
theorem qs_3 {q : jx_M} {k : Nat} {l n : Int} (c : Nat) : q_sh q k l n 3 k c = 0 := by
  unfold q_sh
  rw [if_neg (by omega), if_pos ⟨rfl, rfl⟩]
theorem qs_o {q : jx_M} {k a b c : Nat} {l n : Int} (h : ¬ ((a = 2 ∨ a = 3) ∧ b = k)) : q_sh q k l n a b c = q a b c := by
  unfold q_sh
  rw [if_neg (by omega), if_neg (by omega)]
theorem cl_116 {a l n : Int} {m : jx_M} {Q : Int → jx_M → Prop} (h1 : ((0 ≤ a ∧ a < 4) ∧ (0 ≤ l ∧ l < 3) ∧ n ≤ 24) ∧ 0 ≤ n → ∀ m2, (∀ s i j, ¬ ((s = 23 ∨ s = 24) ∧ i = a.toNat) → m2 s i j = m s i j) → (m2 23 a.toNat 1 = 1 ∧ m2 23 a.toNat 2 = l ∧ m2 23 a.toNat 3 = n ∧ ∀ j : Nat, j < 24 → m2 24 a.toNat j = 0) → Q n m2) (h14 : ((0 ≤ a ∧ a < 4) ∧ (0 ≤ l ∧ l < 3) ∧ n ≤ 24) ∧ n < 0 → Q (-14) m) (h0 : ¬ ((0 ≤ a ∧ a < 4) ∧ (0 ≤ l ∧ l < 3) ∧ n ≤ 24) → Q (-1) m) : jx_Cl 116 [xA 0 0, xI a, xI l, xI n] m Q := by
  have l117 : ((0 ≤ a ∧ a < 4) ∧ (0 ≤ l ∧ l < 3) ∧ n ≤ 24) ∧ 0 ≤ n → jx_Cl 117 [xA 23 a.toNat, xI l, xI n] m (fun _ m3 => Q n m3) := fun g => by
    refine sg_117 a.toNat l n m _ ⟨by omega, cl_2_ITEMS (by omega) (fun m1 f1 g1 => ⟨by omega, by omega, by omega, by omega, h1 g _ (fun s i j hn => ?_) ⟨?_, ?_, up_eq, fun j hj => ?_⟩⟩)⟩
    · rw [up_ne (by omega), up_ne (by omega), up_ne (by omega)]; exact f1 s i j (by omega)
    · rw [up_ne (by omega), up_ne (by omega), up_eq]
    · rw [up_ne (by omega), up_eq]
    · rw [up_ne (by omega), up_ne (by omega), up_ne (by omega)]; exact g1 j hj
  refine sg_116 a l n m Q ?_
  repeat' (first | omega | exact h0 (by omega) | exact h14 (by omega) | exact l117 (by omega) | refine cl_107 ?_ ?_ | refine cl_108 ?_ ?_ | apply And.intro | intro _)
theorem lp_187 {a l n : Int} {m : jx_M} {Q : Int → jx_M → Prop} (ha : 0 ≤ a ∧ a < 4) (K : ∀ m2, (∀ s i j, ¬ (s = 45 ∧ i = 0 ∧ 24 * a.toNat ≤ j ∧ j < 24 * a.toNat + 24) → m2 s i j = m s i j) → (∀ j : Nat, j < 24 → m2 45 0 (24 * a.toNat + j) = 0) → Q n m2) :
    ∀ (r k : Nat) (m1 : jx_M), k + r = 24 → (∀ s i j, ¬ (s = 45 ∧ i = 0 ∧ 24 * a.toNat ≤ j ∧ j < 24 * a.toNat + 24) → m1 s i j = m s i j) → (∀ j : Nat, j < k → m1 45 0 (24 * a.toNat + j) = 0) → jx_AW 187 27 [some (xA 26 0), some (xI a), some (xI l), some (xI n), some (xI (k : Int))] [] m1 Q := by
  intro r
  induction r with
  | zero =>
    intro k m1 hk hf h
    exact sg_187_27 a l n k m1 Q ⟨fun z => by omega, fun _ => K m1 hf (fun j hj => h j (by omega))⟩
  | succ r ih =>
    intro k m1 hk hf h
    refine sg_187_27 a l n k m1 Q ⟨fun _ => ?_, fun z => by omega⟩
    rw [show (24 * a + (k : Int)).toNat = 24 * a.toNat + k by omega]
    refine ⟨by omega, by omega, by omega, by omega, by omega, by omega, ih (k + 1) _ (by omega) (fun s i j hn => ?_) (fun j hj => ?_)⟩
    · rw [up_ne (by omega)]; exact hf s i j hn
    · rcases Nat.decEq j k with q | q
      · rw [up_ne (by omega)]; exact h j (by omega)
      · subst q; exact up_eq
theorem cl_187 {a l n : Int} {m : jx_M} {Q : Int → jx_M → Prop} (h1 : ((0 ≤ a ∧ a < 4) ∧ (0 ≤ l ∧ l < 3) ∧ n ≤ 24) ∧ 0 ≤ n → ∀ m2, (∀ s i j, ¬ ((s = 43 ∨ s = 44) ∧ i = 0 ∧ j = a.toNat) → ¬ (s = 45 ∧ i = 0 ∧ 24 * a.toNat ≤ j ∧ j < 24 * a.toNat + 24) → m2 s i j = m s i j) → (m2 43 0 a.toNat = l ∧ m2 44 0 a.toNat = n ∧ ∀ j : Nat, j < 24 → m2 45 0 (24 * a.toNat + j) = 0) → Q n m2) (h14 : ((0 ≤ a ∧ a < 4) ∧ (0 ≤ l ∧ l < 3) ∧ n ≤ 24) ∧ n < 0 → Q (-14) m) (h0 : ¬ ((0 ≤ a ∧ a < 4) ∧ (0 ≤ l ∧ l < 3) ∧ n ≤ 24) → Q (-1) m) : jx_Cl 187 [xA 26 0, xI a, xI l, xI n] m Q := by
  have l9 : ((0 ≤ a ∧ a < 4) ∧ (0 ≤ l ∧ l < 3) ∧ n ≤ 24) ∧ 0 ≤ n → jx_AW 187 27 [some (xA 26 0), some (xI a), some (xI l), some (xI n), some (xI 0)] [] (jx_up (jx_up m 43 0 a.toNat l) 44 0 a.toNat n) Q := fun g => by
    refine lp_187 g.1.1 (fun m2 f2 g2 => h1 g m2 (fun s i j q1 q2 => ?_) ⟨?_, ?_, g2⟩) 24 0 _ (by omega) (fun _ _ _ _ => rfl) (fun j hj => by omega)
    · rw [f2 s i j q2, up_ne (by omega), up_ne (by omega)]
    · rw [f2 43 0 _ (by omega), up_ne (by omega), up_eq]
    · rw [f2 44 0 _ (by omega), up_eq]
  refine sg_187 a l n m Q ?_
  repeat' (first | omega | exact h0 (by omega) | exact h14 (by omega) | exact l9 (by omega) | refine cl_183 ?_ ?_ | refine cl_184 ?_ ?_ | apply And.intro | intro _)
theorem pr_34 {a l n : Int} {m : jx_M} {R : Int → Int → jx_M → Prop} (hI : jv_I m) (K : ∀ z m2, jv_I m2 → fS m m2 → R z z m2) : jx_Cl 116 [xA 0 0, xI a, xI l, xI n] m (fun z1 m1 => jx_Cl 187 [xA 26 0, xI a, xI l, xI n] m1 (fun z2 m2 => R z1 z2 m2)) := by
  obtain ⟨d, e, q, hw, hC, hM⟩ := hI
  have k := fun z => jv_ask (G := R z z m) hw hC hM (fcs_r m) (fms_r m) (K z m)
  have hs := sh_of hw
  refine cl_116 (fun g m1 f1 c1 => cl_187 (fun _ m2 f2 c2 => ?_) (fun z => by omega) (fun z => absurd g.1 z)) (fun g => cl_187 (fun z => by omega) (fun _ => k _) (fun z => absurd g.1 z)) (fun g => cl_187 (fun z => absurd z.1 g) (fun z => absurd z.1 g) (fun _ => k _))
  refine jv_sh (q' := q_sh q a.toNat l n) (m1 := m1) hw hC hM (fun a b c h => qs_o (by omega)) ?_ (fun s i j hn => f1 s i j (by omega)) ?_ (fun s i j hn => f2 s i j (by omega) (by omega)) ?_ (K _ _)
  · intro k hk
    by_cases h : k = a.toNat
    · rw [h, qs_2, qs_2, qs_2]
      exact ⟨Or.inr rfl, fun _ => by show 0 ≤ l ∧ l ≤ 2; omega, by show 0 ≤ n ∧ n ≤ 24; omega⟩
    · rw [qs_o (by omega), qs_o (by omega), qs_o (by omega)]; exact hs k hk
  · intro k hk
    by_cases h : k = a.toNat
    · subst h
      rw [qs_2, qs_2, qs_2]
      exact ⟨c1.1, fun _ => c1.2.1, c1.2.2.1, fun i hi => by rw [qs_3]; exact c1.2.2.2 i hi⟩
    · obtain ⟨a1, a2, a3, a4⟩ := hC.2.2.2 k hk
      rw [qs_o (by omega), qs_o (by omega), qs_o (by omega), f1 23 k 1 (by omega), f1 23 k 2 (by omega), f1 23 k 3 (by omega)]
      exact ⟨a1, a2, a3, fun i hi => by rw [qs_o (by omega), f1 24 k i (by omega)]; exact a4 i hi⟩
  · intro k hk
    by_cases h : k = a.toNat
    · subst h
      rw [qs_2, qs_2, qs_2]
      exact ⟨fun z => by have : (1 : Int) = 0 := z; omega, fun _ => c2.1, c2.2.1, fun i hi => by rw [qs_3]; exact c2.2.2 i hi⟩
    · obtain ⟨a1, a2, a3, a4⟩ := hM.2.2.2 k hk
      rw [qs_o (by omega), qs_o (by omega), qs_o (by omega), f2 43 0 k (by omega) (by omega), f2 44 0 k (by omega) (by omega), f1 43 0 k (by omega), f1 44 0 k (by omega)]
      exact ⟨a1, a2, a3, fun i hi => by rw [qs_o (by omega), f2 45 0 _ (by omega) (by omega), f1 45 0 _ (by omega)]; exact a4 i hi⟩
-- copy
def cpy_fit (q : jx_M) (a i b j n : Int) : Prop := (0 ≤ n ∧ 0 ≤ i ∧ i + n ≤ q 2 a.toNat 2) ∧ (0 ≤ j ∧ j + n ≤ q 2 b.toNat 2)
theorem cl_121 {q : jx_M} {a i b j n : Int} {m : jx_M} {Q : Int → jx_M → Prop} (hw : sh_w q) (hH : jc_H m q) (h0 : ¬ ((0 ≤ a ∧ a < 4) ∧ (0 ≤ b ∧ b < 4)) → Q (-1) m) (h11 : ((0 ≤ a ∧ a < 4) ∧ (0 ≤ b ∧ b < 4)) ∧ ¬ (q 2 a.toNat 0 = 1 ∧ q 2 b.toNat 0 = 1) → Q (-11) m) (h12 : ((0 ≤ a ∧ a < 4) ∧ (0 ≤ b ∧ b < 4)) ∧ (q 2 a.toNat 0 = 1 ∧ q 2 b.toNat 0 = 1) ∧ ¬ q 2 a.toNat 1 = q 2 b.toNat 1 → Q (-12) m) (h13 : ((0 ≤ a ∧ a < 4) ∧ (0 ≤ b ∧ b < 4)) ∧ (q 2 a.toNat 0 = 1 ∧ q 2 b.toNat 0 = 1) ∧ q 2 a.toNat 1 = q 2 b.toNat 1 ∧ ¬ cpy_fit q a i b j n → Q (-13) m) (h1 : ((0 ≤ a ∧ a < 4) ∧ (0 ≤ b ∧ b < 4)) ∧ (q 2 a.toNat 0 = 1 ∧ q 2 b.toNat 0 = 1) ∧ q 2 a.toNat 1 = q 2 b.toNat 1 ∧ cpy_fit q a i b j n → Q n (jx_cpy m 24 a.toNat i.toNat 24 b.toNat j.toNat n.toNat)) : jx_Cl 121 [xA 0 0, xI a, xI i, xI b, xI j, xI n] m Q := by
  unfold cpy_fit at h13 h1
  refine sg_121 a i b j n m Q (cl_107 (fun g1 => ⟨fun z => by omega, fun _ => cl_107 (fun g2 => ⟨fun z => by omega, fun _ => ?_⟩) (fun g => ⟨fun _ => h0 (by omega), fun z => by omega⟩)⟩) (fun g => ⟨fun _ => h0 (by omega), fun z => by omega⟩))
  obtain ⟨a1, a2, a3, -⟩ := hH a.toNat (by omega)
  obtain ⟨b1, b2, b3⟩ := hw a.toNat (by omega)
  obtain ⟨c1, c2, c3, -⟩ := hH b.toNat (by omega)
  obtain ⟨d1, d2, d3⟩ := hw b.toNat (by omega)
  rw [a1, c1]
  refine ⟨by omega, by omega, by omega, by omega, by omega, by omega, by omega, fun z => h11 (by omega), fun z => ⟨by omega, fun z2 => h11 (by omega), fun z2 => ⟨by omega, by omega, ?_⟩⟩⟩
  rw [a2 (by omega), c2 (by omega)]
  exact ⟨fun z3 => ⟨by omega, cl_110 (by omega) a3 b3 (fun g3 => ⟨fun z => by omega, fun _ => ⟨by omega, cl_110 (by omega) c3 d3 (fun g4 => ⟨fun z => by omega, fun _ => ⟨by omega, by omega, by omega, by omega, by omega, h1 (by omega)⟩⟩) (fun g4 => ⟨fun _ => h13 (by omega), fun z => by omega⟩)⟩⟩) (fun g3 => ⟨fun _ => h13 (by omega), fun z => by omega⟩)⟩, fun z3 => h12 (by omega)⟩
theorem lp_190_78 {b1 b2 a b n : Int} {k0 : Nat} {m : jx_M} {Q : Int → jx_M → Prop} (ha : 0 ≤ a ∧ a < 4) (hb : 0 ≤ b ∧ 0 ≤ n ∧ b + n ≤ 24) (hk0 : k0 = 24 * a.toNat + b.toNat) (K : ∀ m2, (∀ s i j, ¬ (s = 45 ∧ i = 0 ∧ k0 ≤ j ∧ j < k0 + n.toNat) → m2 s i j = m s i j) → (∀ j : Nat, j < n.toNat → m2 45 0 (k0 + j) = m 46 0 j) → Q n m2) :
    ∀ (r k : Nat) (m1 : jx_M), k + r = n.toNat → (∀ s i j, ¬ (s = 45 ∧ i = 0 ∧ k0 ≤ j ∧ j < k0 + n.toNat) → m1 s i j = m s i j) → (∀ j : Nat, j < k → m1 45 0 (k0 + j) = m 46 0 j) → jx_AW 190 78 [some (xA 26 0), some (xI b1), some (xI b2), some (xI a), some (xI b), some (xI n), some (xI (k : Int))] [] m1 Q := by
  intro r
  induction r with
  | zero =>
    intro k m1 hk hf h
    exact sg_190_78 b1 b2 a b n k m1 Q ⟨fun z => by omega, fun _ => K m1 hf (fun j hj => h j (by omega))⟩
  | succ r ih =>
    intro k m1 hk hf h
    refine sg_190_78 b1 b2 a b n k m1 Q ⟨fun _ => ?_, fun z => by omega⟩
    rw [show (24 * a + b + (k : Int)).toNat = k0 + k by omega, show ((k : Int)).toNat = k by omega, hf 46 0 k (by omega)]
    refine ⟨by omega, by omega, by omega, by omega, by omega, by omega, by omega, by omega, by omega, by omega, ih (k + 1) _ (by omega) (fun s i j hn => ?_) (fun j hj => ?_)⟩
    · rw [up_ne (by omega)]; exact hf s i j hn
    · rcases Nat.decEq j k with q | q
      · rw [up_ne (by omega)]; exact h j (by omega)
      · subst q; exact up_eq
theorem lp_190_57 {a i b j n : Int} {k0 : Nat} {m : jx_M} {Q : Int → jx_M → Prop} (ha : 0 ≤ a ∧ a < 4) (hi : 0 ≤ i ∧ 0 ≤ n ∧ i + n ≤ 24) (hk0 : k0 = 24 * a.toNat + i.toNat) (K : ∀ m2, (∀ s i j, ¬ (s = 46 ∧ i = 0) → m2 s i j = m s i j) → (∀ c : Nat, c < n.toNat → m2 46 0 c = m 45 0 (k0 + c)) → jx_AW 190 78 [some (xA 26 0), some (xI a), some (xI i), some (xI b), some (xI j), some (xI n), some (xI 0)] [] m2 Q) :
    ∀ (r k : Nat) (m1 : jx_M), k + r = n.toNat → (∀ s i j, ¬ (s = 46 ∧ i = 0) → m1 s i j = m s i j) → (∀ c : Nat, c < k → m1 46 0 c = m 45 0 (k0 + c)) → jx_AW 190 57 [some (xA 26 0), some (xI a), some (xI i), some (xI b), some (xI j), some (xI n), some (xI (k : Int))] [] m1 Q := by
  intro r
  induction r with
  | zero =>
    intro k m1 hk hf h
    exact sg_190_57 a i b j n k m1 Q ⟨fun z => by omega, fun _ => K m1 hf (fun c hc => h c (by omega))⟩
  | succ r ih =>
    intro k m1 hk hf h
    refine sg_190_57 a i b j n k m1 Q ⟨fun _ => ?_, fun z => by omega⟩
    rw [show (24 * a + i + (k : Int)).toNat = k0 + k by omega, show ((k : Int)).toNat = k by omega, hf 45 0 (k0 + k) (by omega)]
    refine ⟨by omega, by omega, by omega, by omega, by omega, by omega, by omega, by omega, by omega, by omega, ih (k + 1) _ (by omega) (fun s i j hn => ?_) (fun j hj => ?_)⟩
    · rw [up_ne (by omega)]; exact hf s i j hn
    · rcases Nat.decEq j k with q | q
      · rw [up_ne (by omega)]; exact h j (by omega)
      · subst q; exact up_eq
theorem cl_190 {q : jx_M} {a i b j n : Int} {m : jx_M} {Q : Int → jx_M → Prop} (hw : sh_w q) (hH : jm_H m q) (hi : jx_in i) (hj : jx_in j) (hn : jx_in n) (h0 : ¬ ((0 ≤ a ∧ a < 4) ∧ (0 ≤ b ∧ b < 4)) → Q (-1) m) (h11 : ((0 ≤ a ∧ a < 4) ∧ (0 ≤ b ∧ b < 4)) ∧ ¬ (q 2 a.toNat 0 = 1 ∧ q 2 b.toNat 0 = 1) → Q (-11) m) (h12 : ((0 ≤ a ∧ a < 4) ∧ (0 ≤ b ∧ b < 4)) ∧ (q 2 a.toNat 0 = 1 ∧ q 2 b.toNat 0 = 1) ∧ ¬ q 2 a.toNat 1 = q 2 b.toNat 1 → Q (-12) m) (h13 : ((0 ≤ a ∧ a < 4) ∧ (0 ≤ b ∧ b < 4)) ∧ (q 2 a.toNat 0 = 1 ∧ q 2 b.toNat 0 = 1) ∧ q 2 a.toNat 1 = q 2 b.toNat 1 ∧ ¬ cpy_fit q a i b j n → Q (-13) m) (h1 : ((0 ≤ a ∧ a < 4) ∧ (0 ≤ b ∧ b < 4)) ∧ (q 2 a.toNat 0 = 1 ∧ q 2 b.toNat 0 = 1) ∧ q 2 a.toNat 1 = q 2 b.toNat 1 ∧ cpy_fit q a i b j n → ∀ m2, (∀ s i' j', ¬ (s = 46 ∧ i' = 0) → ¬ (s = 45 ∧ i' = 0 ∧ 24 * b.toNat + j.toNat ≤ j' ∧ j' < 24 * b.toNat + j.toNat + n.toNat) → m2 s i' j' = m s i' j') → (∀ c : Nat, c < n.toNat → m2 45 0 (24 * b.toNat + j.toNat + c) = m 45 0 (24 * a.toNat + i.toNat + c)) → Q n m2) : jx_Cl 190 [xA 26 0, xI a, xI i, xI b, xI j, xI n] m Q := by
  unfold cpy_fit at h13 h1
  refine sg_190 a i b j n m Q (cl_183 (fun g1 => ⟨fun z => by omega, fun _ => cl_183 (fun g2 => ⟨fun z => by omega, fun _ => ?_⟩) (fun g => ⟨fun _ => h0 (by omega), fun z => by omega⟩)⟩) (fun g => ⟨fun _ => h0 (by omega), fun z => by omega⟩))
  obtain ⟨a1, a2, a3, -⟩ := hH a.toNat (by omega)
  obtain ⟨b1, b2, b3⟩ := hw a.toNat (by omega)
  obtain ⟨c1, c2, c3, -⟩ := hH b.toNat (by omega)
  obtain ⟨d1, d2, d3⟩ := hw b.toNat (by omega)
  rcases b1 with b1 | b1
  · rw [a1 b1]
    exact ⟨by omega, by omega, by omega, fun _ => h11 (by omega), fun z => by omega⟩
  · have b4 := b2 b1
    rw [a2 b1]
    rcases d1 with d1 | d1
    · rw [c1 d1]
      exact ⟨by omega, by omega, by omega, fun z => by omega, fun _ => ⟨by omega, by omega, by omega, fun _ => h11 (by omega), fun z => by omega⟩⟩
    · have d4 := d2 d1
      rw [c2 d1]
      refine ⟨by omega, by omega, by omega, fun z => by omega, fun _ => ⟨by omega, by omega, by omega, fun z => by omega, fun _ => ⟨by omega, by omega, by omega, by omega, by omega, by omega, fun z3 => ⟨fun z4 => h13 (by omega), fun z4 => ⟨by omega, by omega, by omega, by omega, ?_⟩⟩, fun z3 => h12 (by omega)⟩⟩⟩
      refine cl_185 (by omega) hw hH (by omega) (by omega) hi hn (fun g => by omega) (fun g => by omega) (fun g => ⟨fun _ => h13 (by omega), fun z => by omega⟩) (fun g => ⟨fun z => by omega, fun _ => ?_⟩)
      rw [c2 d1]
      refine ⟨by omega, by omega, by omega, by omega, cl_185 (by omega) hw hH (by omega) (by omega) hj hn (fun g => by omega) (fun g => by omega) (fun g => ⟨fun _ => h13 (by omega), fun z => by omega⟩) (fun g4 => ⟨fun z => by omega, fun _ => ?_⟩)⟩
      refine lp_190_57 (k0 := 24 * a.toNat + i.toNat) (by omega) (by omega) rfl (fun m2 f2 v2 => lp_190_78 (k0 := 24 * b.toNat + j.toNat) (by omega) (by omega) rfl (fun m3 f3 v3 => h1 (by omega) m3 (fun s i' j' q1 q2 => (f3 s i' j' q2).trans (f2 s i' j' q1)) (fun c hc => (v3 c hc).trans (v2 c hc))) n.toNat 0 m2 (by omega) (fun _ _ _ _ => rfl) (fun c hc => by omega)) n.toNat 0 m (by omega) (fun _ _ _ _ => rfl) (fun c hc => by omega)
theorem pr_37 {a i b j n : Int} {m : jx_M} {R : Int → Int → jx_M → Prop} (hi : jx_in i) (hj : jx_in j) (hn : jx_in n) (hI : jv_I m) (K : ∀ z m2, jv_I m2 → fS m m2 → R z z m2) : jx_Cl 121 [xA 0 0, xI a, xI i, xI b, xI j, xI n] m (fun z1 m1 => jx_Cl 190 [xA 26 0, xI a, xI i, xI b, xI j, xI n] m1 (fun z2 m2 => R z1 z2 m2)) := by
  obtain ⟨d, e, q, hw, hC, hM⟩ := hI
  have k := fun z => jv_ask (G := R z z m) hw hC hM (fcs_r m) (fms_r m) (K z m)
  have hs := sh_of hw
  refine cl_121 hs hC.2.2.2 (fun g => cl_190 hs hM.2.2.2 hi hj hn (fun _ => k _) (fun z => absurd z.1 g) (fun z => absurd z.1 g) (fun z => absurd z.1 g) (fun z => absurd z.1 g)) (fun g => cl_190 hs hM.2.2.2 hi hj hn (fun z => absurd g.1 z) (fun _ => k _) (fun z => absurd z.2.1 g.2) (fun z => absurd z.2.1 g.2) (fun z => absurd z.2.1 g.2)) (fun g => cl_190 hs hM.2.2.2 hi hj hn (fun z => absurd g.1 z) (fun z => absurd g.2.1 z.2) (fun _ => k _) (fun z => absurd z.2.2.1 g.2.2) (fun z => absurd z.2.2.1 g.2.2)) (fun g => cl_190 hs hM.2.2.2 hi hj hn (fun z => absurd g.1 z) (fun z => absurd g.2.1 z.2) (fun z => absurd g.2.2.1 z.2.2) (fun _ => k _) (fun z => absurd z.2.2.2 g.2.2.2)) (fun g => ?_)
  have f1 : ∀ s i' j', ¬ (s = 24 ∧ i' = b.toNat) → jx_cpy m 24 a.toNat i.toNat 24 b.toNat j.toNat n.toNat s i' j' = m s i' j' := fun s i' j' q => if_neg (fun z => q ⟨z.1, z.2.1⟩)
  have hM1 : jv_M (jx_cpy m 24 a.toNat i.toNat 24 b.toNat j.toNat n.toNat) d e q := jv_M_C (fun s i' j' hs => f1 s i' j' (by omega)) hM
  refine cl_190 hs hM1.2.2.2 hi hj hn (fun z => absurd g.1 z) (fun z => absurd g.2.1 z.2) (fun z => absurd g.2.2.1 z.2.2) (fun z => absurd g.2.2.2 z.2.2.2) (fun _ m2 f2 v2 => ?_)
  have fit := g.2.2.2
  unfold cpy_fit at fit
  have sa := (hs a.toNat (by omega)).2.2
  have sb := (hs b.toNat (by omega)).2.2
  refine jv_sh (q' := jx_cpy q 3 a.toNat i.toNat 3 b.toNat j.toNat n.toNat) (m1 := jx_cpy m 24 a.toNat i.toNat 24 b.toNat j.toNat n.toNat) hw hC hM (fun a b c h => if_neg (by omega)) hs (fun s i' j' hn => f1 s i' j' (by omega)) ?_ (fun s i' j' hn => f2 s i' j' (by omega) (by omega)) ?_ (K _ _)
  · intro k hk
    obtain ⟨a1, a2, a3, a4⟩ := hC.2.2.2 k hk
    refine ⟨a1, a2, a3, fun c hc => ?_⟩
    unfold jx_cpy
    by_cases h : k = b.toNat ∧ j.toNat ≤ c ∧ c < j.toNat + n.toNat
    · rw [if_pos ⟨rfl, h⟩, if_pos ⟨rfl, h⟩]
      exact (hC.2.2.2 a.toNat (by omega)).2.2.2 _ (by omega)
    · rw [if_neg (fun z => h z.2), if_neg (fun z => h z.2)]
      exact a4 c hc
  · intro k hk
    obtain ⟨a1, a2, a3, a4⟩ := hM1.2.2.2 k hk
    refine ⟨fun z => (f2 43 0 k (by omega) (by omega)).trans (a1 z), fun z => (f2 43 0 k (by omega) (by omega)).trans (a2 z), (f2 44 0 k (by omega) (by omega)).trans a3, fun c hc => ?_⟩
    show _ = (if 3 = 3 ∧ k = b.toNat ∧ j.toNat ≤ c ∧ c < j.toNat + n.toNat then q 3 a.toNat (i.toNat + (c - j.toNat)) else q 3 k c)
    by_cases h : k = b.toNat ∧ j.toNat ≤ c ∧ c < j.toNat + n.toNat
    · rw [if_pos ⟨rfl, h⟩, h.1, show 24 * b.toNat + c = 24 * b.toNat + j.toNat + (c - j.toNat) by omega, v2 _ (by omega), show 24 * a.toNat + i.toNat + (c - j.toNat) = 24 * a.toNat + (i.toNat + (c - j.toNat)) by omega]
      exact (hM1.2.2.2 a.toNat (by omega)).2.2.2 _ (by omega)
    · rw [if_neg (fun z => h z.2), f2 45 0 _ (by omega) (by omega)]
      exact a4 c hc
