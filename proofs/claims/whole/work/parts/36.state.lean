/-! THE STATE: d the town, e the image's town, q the rest (q 0 0 0: is there an image; q 1 0 0: how much is typed, q 1 1 i: what; q 2 k: is sheet k there, its lane, its size; q 3 k i: its items) -/
def sw (d e q : jx_M) : Prop := dt_w d ∧ (q 0 0 0 = 0 ∨ q 0 0 0 = 1) ∧ (q 0 0 0 = 1 → dt_w e) ∧ (0 ≤ q 1 0 0 ∧ q 1 0 0 ≤ 60) ∧ (∀ i : Nat, (i : Int) < q 1 0 0 → 32 ≤ q 1 1 i ∧ q 1 1 i ≤ 126) ∧ (∀ k, k < 4 → (q 2 k 0 = 0 ∨ q 2 k 0 = 1) ∧ (q 2 k 0 = 1 → 0 ≤ q 2 k 1 ∧ q 2 k 1 ≤ 2) ∧ (0 ≤ q 2 k 2 ∧ q 2 k 2 ≤ 24))
def jc_P (m q : jx_M) : Prop := m 20 0 1 = q 1 0 0 ∧ (∀ i : Nat, (i : Int) < q 1 0 0 → m 21 0 i = q 1 1 i)
def jc_H (m q : jx_M) : Prop := ∀ k, k < 4 → m 23 k 1 = q 2 k 0 ∧ (q 2 k 0 = 1 → m 23 k 2 = q 2 k 1) ∧ m 23 k 3 = q 2 k 2 ∧ ∀ i : Nat, i < 24 → m 24 k i = q 3 k i
def jv_C (m d e q : jx_M) : Prop := rc_T m 0 d ∧ (m 0 0 7 = q 0 0 0 ∧ (q 0 0 0 = 1 → rc_T m 1 e)) ∧ jc_P m q ∧ jc_H m q
/-- the image of the reference, read as its arrays are -/
def im_v (m : jx_M) : jx_M := fun s i j =>
  if s = 27 then m 42 0 j else if s = 28 then m 42 0 (25 + j) else if s = 29 then m 42 0 (49 + j) else if s = 30 then m 42 0 (127 + j) else if s = 31 then m 42 0 (169 + j) else if s = 32 then m 42 0 (217 + j) else
  if s = 26 ∧ j = 1 then m 42 0 253 else if s = 26 ∧ j = 5 then m 42 0 254 else if s = 26 ∧ j = 6 then m 42 0 255 else if s = 26 ∧ j = 7 then m 42 0 256 else if s = 26 ∧ j = 9 then m 42 0 257 else m s i j
def jm_P (m q : jx_M) : Prop := m 26 0 12 = q 1 0 0 ∧ (∀ i : Nat, (i : Int) < q 1 0 0 → m 33 0 i = q 1 1 i)
def jm_H (m q : jx_M) : Prop := ∀ k, k < 4 → (q 2 k 0 = 0 → m 43 0 k = -1) ∧ (q 2 k 0 = 1 → m 43 0 k = q 2 k 1) ∧ m 44 0 k = q 2 k 2 ∧ ∀ i : Nat, i < 24 → m 45 0 (24 * k + i) = q 3 k i
def jv_M (m d e q : jx_M) : Prop := (rm_T m d ∧ m 26 0 16 = -4 ∧ m 26 0 17 = -4) ∧ (m 26 0 27 = q 0 0 0 ∧ (q 0 0 0 = 1 → rm_T (im_v m) e)) ∧ jm_P m q ∧ jm_H m q
def jv_I (m : jx_M) : Prop := ∃ d e q, sw d e q ∧ jv_C m d e q ∧ jv_M m d e q
/-- the class leaves all of the reference alone, and the other way about; the script stays -/
def fC (m m' : jx_M) : Prop := ∀ s i j, 26 ≤ s → m' s i j = m s i j
def fM (m m' : jx_M) : Prop := ∀ s i j, s < 26 ∨ 60 ≤ s → m' s i j = m s i j
def fS (m m' : jx_M) : Prop := ∀ s i j, 60 ≤ s → m' s i j = m s i j
/-- only what is tried and asked is changed -/
def fcs (m m' : jx_M) : Prop := ∀ s i j, ¬ (((s = 1 ∨ s = 2) ∧ i = 2) ∨ (6 ≤ s ∧ s ≤ 8 ∧ 12 ≤ i) ∨ ((s = 9 ∨ s = 10) ∧ 24 ≤ i) ∨ (12 ≤ s ∧ s ≤ 19) ∨ s = 25) → m' s i j = m s i j
def fms (m m' : jx_M) : Prop := ∀ s i j, ¬ ((34 ≤ s ∧ s ≤ 41) ∨ s = 46 ∨ (s = 26 ∧ (j = 13 ∨ j = 14 ∨ j = 25))) → m' s i j = m s i j
theorem fcs_r (m : jx_M) : fcs m m := fun _ _ _ _ => rfl
theorem fms_r (m : jx_M) : fms m m := fun _ _ _ _ => rfl
theorem fcs_tr {m m1 m2 : jx_M} (h : fcs m m1) (g : fcs m1 m2) : fcs m m2 := fun s i j hn => (g s i j hn).trans (h s i j hn)
theorem fms_tr {m m1 m2 : jx_M} (h : fms m m1) (g : fms m1 m2) : fms m m2 := fun s i j hn => (g s i j hn).trans (h s i j hn)
theorem fcs_dy {t0 : Nat} {m m' : jx_M} (h : dy_fr t0 m m') : fcs m m' := fun s i j hn => h s i j (by omega)
theorem fcs_tw {m m' : jx_M} (h : tw_fr 2 m m') : fcs m m' := fun s i j hn => h s i j (by omega)
theorem fms_lf {m m' : jx_M} (h : lf_fr m m') : fms m m' := fun s i j hn => h s i j (by omega)
theorem fcs_C {m m' : jx_M} (h : fcs m m') : fC m m' := fun s i j hn => h s i j (by omega)
theorem fms_M {m m' : jx_M} (h : fms m m') : fM m m' := fun s i j hn => h s i j (by omega)
theorem rc_fr {m m' d : jx_M} {t : Nat} (hw : dt_w d) (h1 : ∀ s j, s = 1 ∨ s = 2 → m' s t j = m s t j) (h6 : ∀ s i j, 6 ≤ s ∧ s ≤ 8 → 6 * t ≤ i ∧ i < 6 * t + 6 → m' s i j = m s i j) (h9 : ∀ s i j, s = 9 ∨ s = 10 → 12 * t ≤ i ∧ i < 12 * t + 12 → m' s i j = m s i j) (hr : rc_T m t d) : rc_T m' t d := by
  have n1 := hw.2.1
  have n2 := hw.2.2.1
  have n3 := hw.2.2.2.1
  obtain ⟨r1, r2, r3, r4, r5, r6, r7, r8, r9⟩ := hr
  exact ⟨fun c hc => (h1 2 c (by omega)).trans (r1 c hc), (h1 1 4 (by omega)).trans r2, (h1 1 5 (by omega)).trans r3, (h1 1 6 (by omega)).trans r4, (h1 1 7 (by omega)).trans r5, (h1 1 8 (by omega)).trans r6, fun s hs => rc_S_fr (fun a k ha => h6 a (6 * t + s) k ha (by omega)) (r7 s hs), fun b hb k hk => (h9 9 (12 * t + b) k (by omega) (by omega)).trans (r8 b hb k hk), fun w hw2 k hk => (h9 10 (12 * t + w) k (by omega) (by omega)).trans (r9 w hw2 k hk)⟩
theorem fcs_rc {m m' d : jx_M} {t : Nat} (ht : t < 2) (hw : dt_w d) (h : fcs m m') (hr : rc_T m t d) : rc_T m' t d :=
  rc_fr hw (fun s j hs => h s t j (by omega)) (fun s i j hs hi => h s i j (by omega)) (fun s i j hs hi => h s i j (by omega)) hr
theorem jv_C_fr {m m' d e q : jx_M} (hw : sw d e q) (h : fcs m m') (hC : jv_C m d e q) : jv_C m' d e q := by
  obtain ⟨h1, ⟨h2, h3⟩, h4, h5⟩ := hC
  refine ⟨fcs_rc (by omega) hw.1 h h1, ⟨(h 0 0 7 (by omega)).trans h2, fun z => fcs_rc (by omega) (hw.2.2.1 z) h (h3 z)⟩, ⟨(h 20 0 1 (by omega)).trans h4.1, fun i hi => (h 21 0 i (by omega)).trans (h4.2 i hi)⟩, fun k hk => ?_⟩
  obtain ⟨a1, a2, a3, a4⟩ := h5 k hk
  exact ⟨(h 23 k 1 (by omega)).trans a1, fun z => (h 23 k 2 (by omega)).trans (a2 z), (h 23 k 3 (by omega)).trans a3, fun i hi => (h 24 k i (by omega)).trans (a4 i hi)⟩
theorem jv_C_M {m m' d e q : jx_M} (h : fM m m') (hC : jv_C m d e q) : jv_C m' d e q := by
  have e' : ∀ s, s < 26 → m' s = m s := fun s hs => funext fun i => funext fun j => h s i j (by omega)
  unfold jv_C rc_T rc_S jc_P jc_H
  rw [e' 0 (by omega), e' 1 (by omega), e' 2 (by omega), e' 6 (by omega), e' 7 (by omega), e' 8 (by omega), e' 9 (by omega), e' 10 (by omega), e' 20 (by omega), e' 21 (by omega), e' 23 (by omega), e' 24 (by omega)]
  exact hC
theorem rm_fr {m m' d : jx_M} (h : ∀ s j, (26 ≤ s ∧ s ≤ 32) → ¬ (s = 26 ∧ ¬ (j = 1 ∨ j = 5 ∨ j = 6 ∨ j = 7 ∨ j = 9)) → m' s 0 j = m s 0 j) (hr : rm_T m d) : rm_T m' d := by
  obtain ⟨h1, h2, h3, h4, h5, h6, h7, h8, h9⟩ := hr
  refine ⟨fun c hc => (h 27 c (by omega) (by omega)).trans (h1 c hc), (h 26 1 (by omega) (by omega)).trans h2, (h 26 7 (by omega) (by omega)).trans h3, (h 26 9 (by omega) (by omega)).trans h4, (h 26 5 (by omega) (by omega)).trans h5, (h 26 6 (by omega) (by omega)).trans h6, fun s hs => ?_, fun b hb k hk => (h 31 _ (by omega) (by omega)).trans (h8 b hb k hk), fun w hw k hk => (h 32 _ (by omega) (by omega)).trans (h9 w hw k hk)⟩
  obtain ⟨a1, a2, a3, a4, a5⟩ := h7 s hs
  exact ⟨fun k hk => (h 28 _ (by omega) (by omega)).trans (a1 k hk), (h 29 _ (by omega) (by omega)).trans a2, (h 30 _ (by omega) (by omega)).trans a3, fun i hi => (h 29 _ (by omega) (by omega)).trans (a4 i hi), fun i hi => (h 30 _ (by omega) (by omega)).trans (a5 i hi)⟩
theorem im_fr {m m' d : jx_M} (h : ∀ j, m' 42 0 j = m 42 0 j) (hr : rm_T (im_v m) d) : rm_T (im_v m') d := by
  refine rm_fr (fun s j hs hj => ?_) hr
  rcases (by omega : s = 27 ∨ s = 28 ∨ s = 29 ∨ s = 30 ∨ s = 31 ∨ s = 32 ∨ (s = 26 ∧ j = 1) ∨ (s = 26 ∧ j = 5) ∨ (s = 26 ∧ j = 6) ∨ (s = 26 ∧ j = 7) ∨ (s = 26 ∧ j = 9)) with rfl | rfl | rfl | rfl | rfl | rfl | ⟨rfl, rfl⟩ | ⟨rfl, rfl⟩ | ⟨rfl, rfl⟩ | ⟨rfl, rfl⟩ | ⟨rfl, rfl⟩ <;> exact h _
theorem jv_M_fr {m m' d e q : jx_M} (h : fms m m') (hM : jv_M m d e q) : jv_M m' d e q := by
  obtain ⟨⟨h1, h2, h3⟩, ⟨h4, h5⟩, h6, h7⟩ := hM
  refine ⟨⟨rm_fr (fun s j hs hj => h s 0 j (by omega)) h1, (h 26 0 16 (by omega)).trans h2, (h 26 0 17 (by omega)).trans h3⟩, ⟨(h 26 0 27 (by omega)).trans h4, fun z => im_fr (fun j => h 42 0 j (by omega)) (h5 z)⟩, ⟨(h 26 0 12 (by omega)).trans h6.1, fun i hi => (h 33 0 i (by omega)).trans (h6.2 i hi)⟩, fun k hk => ?_⟩
  obtain ⟨a1, a2, a3, a4⟩ := h7 k hk
  exact ⟨fun z => (h 43 0 k (by omega)).trans (a1 z), fun z => (h 43 0 k (by omega)).trans (a2 z), (h 44 0 k (by omega)).trans a3, fun i hi => (h 45 0 _ (by omega)).trans (a4 i hi)⟩
theorem jv_M_C {m m' d e q : jx_M} (h : fC m m') (hM : jv_M m d e q) : jv_M m' d e q := by
  obtain ⟨⟨h1, h2, h3⟩, ⟨h4, h5⟩, h6, h7⟩ := hM
  refine ⟨⟨rm_fr (fun s j hs hj => h s 0 j (by omega)) h1, (h 26 0 16 (by omega)).trans h2, (h 26 0 17 (by omega)).trans h3⟩, ⟨(h 26 0 27 (by omega)).trans h4, fun z => im_fr (fun j => h 42 0 j (by omega)) (h5 z)⟩, ⟨(h 26 0 12 (by omega)).trans h6.1, fun i hi => (h 33 0 i (by omega)).trans (h6.2 i hi)⟩, fun k hk => ?_⟩
  obtain ⟨a1, a2, a3, a4⟩ := h7 k hk
  exact ⟨fun z => (h 43 0 k (by omega)).trans (a1 z), fun z => (h 43 0 k (by omega)).trans (a2 z), (h 44 0 k (by omega)).trans a3, fun i hi => (h 45 0 _ (by omega)).trans (a4 i hi)⟩
theorem jv_fin {m m1 m2 d e q : jx_M} {G : Prop} (hw : sw d e q) (f1 : fC m m1) (c1 : jv_C m1 d e q) (f2 : fM m1 m2) (c2 : jv_M m2 d e q) (K : jv_I m2 → fS m m2 → G) : G :=
  K ⟨d, e, q, hw, jv_C_M f2 c1, c2⟩ (fun s i j hs => (f2 s i j (by omega)).trans (f1 s i j (by omega)))
/-- what was only asked -/
theorem jv_ask {m m1 m2 d e q : jx_M} {G : Prop} (hw : sw d e q) (hC : jv_C m d e q) (hM : jv_M m d e q) (f1 : fcs m m1) (f2 : fms m1 m2) (K : jv_I m2 → fS m m2 → G) : G :=
  jv_fin hw (fcs_C f1) (jv_C_fr hw f1 hC) (fms_M f2) (jv_M_fr f2 (jv_M_C (fcs_C f1) hM)) K
theorem re_M {m d e q : jx_M} (hM : jv_M m d e q) : re_T m d := re_of hM.1.1 hM.1.2.1
theorem al_M {m d e q : jx_M} (hM : jv_M m d e q) : m 26 0 17 < 0 := by rw [hM.1.2.2]; omega
/-- two answers that are the same -/
theorem pq_ask {m m1 d e q : jx_M} {x : Nat} {as : List jx_V} {z : Int} {R : Int → Int → jx_M → Prop} (hw : sw d e q) (hC : jv_C m d e q) (hM : jv_M m d e q) (K : ∀ z m2, jv_I m2 → fS m m2 → R z z m2) (f1 : fcs m m1) (h : jv_M m1 d e q → ∀ Q : Int → jx_M → Prop, (∀ m2, fms m1 m2 → Q z m2) → jx_Cl x as m1 Q) : jx_Cl x as m1 (fun z2 m2 => R z z2 m2) :=
  h (jv_M_C (fcs_C f1) hM) _ (fun m2 f2 => jv_ask hw hC hM f1 f2 (K z m2))
