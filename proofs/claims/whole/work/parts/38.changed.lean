/-! descriptions changed at one place, and the memories that bear them -/
theorem rm_of {m d : jx_M} (h : re_T m d) (ht : m 26 0 16 = -4) : rm_T m d := by
  obtain ⟨h1, h2, h3, h4, h5, h6, h7, h8, h9⟩ := h
  refine ⟨h1, h2, h3, h4, h5, h6, fun s hs => ?_, h8, h9⟩
  obtain ⟨a, b, c, e, f⟩ := h7 s hs
  exact ⟨a, b, c, fun i hi => (e i hi).2 (by omega), f⟩
-- a seller's kind, loudness, beginning, pace
def vl_2 (k : Nat) (v : Int) : Prop := (k = 0 → 0 ≤ v ∧ v ≤ 3) ∧ (k = 1 → 1 ≤ v ∧ v ≤ 9) ∧ (k = 2 → 0 ≤ v ∧ v ≤ 119) ∧ (k = 3 → 1 ≤ v ∧ v ≤ 5)
theorem u2_S {d : jx_M} {s k o : Nat} {v : Int} (hk : k < 4) (hv : vl_2 k v) (hw : dt_wS d o) : dt_wS (jx_up d 2 s k v) o := by
  obtain ⟨w1, w2, w3, w4, w5, w6, w7, w8⟩ := hw
  obtain ⟨v1, v2, v3, v4⟩ := hv
  have e4 : jx_up d 2 s k v 2 o 4 = d 2 o 4 := up_ne (by omega)
  have e5 : jx_up d 2 s k v 2 o 5 = d 2 o 5 := up_ne (by omega)
  unfold dt_wS
  rw [e4, e5]
  refine ⟨?_, ?_, ?_, ?_, w5, w6, w7, w8⟩
  · by_cases h : o = s ∧ 0 = k
    · rw [← h.1, ← h.2, up_eq]; exact v1 h.2.symm
    · rw [up_ne (by omega)]; exact w1
  · by_cases h : o = s ∧ 1 = k
    · rw [← h.1, ← h.2, up_eq]; exact v2 h.2.symm
    · rw [up_ne (by omega)]; exact w2
  · by_cases h : o = s ∧ 2 = k
    · rw [← h.1, ← h.2, up_eq]; exact v3 h.2.symm
    · rw [up_ne (by omega)]; exact w3
  · by_cases h : o = s ∧ 3 = k
    · rw [← h.1, ← h.2, up_eq]; exact v4 h.2.symm
    · rw [up_ne (by omega)]; exact w4
theorem u2_w {d : jx_M} {s k : Nat} {v : Int} (hk : k < 4) (hv : vl_2 k v) (hw : dt_w d) : dt_w (jx_up d 2 s k v) := by
  obtain ⟨h1, h2, h3, h4, h5, h6, h7, h8, h9⟩ := hw
  exact ⟨h1, h2, h3, h4, h5, h6, fun o ho => u2_S hk hv (h7 o ho), h8, h9⟩
theorem u2_rc {m d : jx_M} {t s k : Nat} {v : Int} (hk : k < 4) (hr : rc_T m t d) : rc_T (jx_up m 6 (6 * t + s) (4 + k) v) t (jx_up d 2 s k v) := by
  obtain ⟨h1, h2, h3, h4, h5, h6, h7, h8, h9⟩ := hr
  refine ⟨h1, h2, h3, h4, h5, h6, fun o ho => ?_, h8, h9⟩
  obtain ⟨r1, r2, r3, r4, r5, r6, r7, r8, r9⟩ := h7 o ho
  have e4 : jx_up d 2 s k v 2 o 4 = d 2 o 4 := up_ne (by omega)
  have e5 : jx_up d 2 s k v 2 o 5 = d 2 o 5 := up_ne (by omega)
  have x : ∀ q : Nat, q < 4 → m 6 (6 * t + o) (4 + q) = d 2 o q → jx_up m 6 (6 * t + s) (4 + k) v 6 (6 * t + o) (4 + q) = jx_up d 2 s k v 2 o q := fun q hq e => by
    by_cases h : o = s ∧ q = k
    · rw [← h.1, ← h.2, up_eq, up_eq]
    · rw [up_ne (by omega), up_ne (by omega)]; exact e
  unfold rc_S dt_lift
  rw [e4, e5]
  refine ⟨x 0 (by omega) r1, x 1 (by omega) r2, x 2 (by omega) r3, x 3 (by omega) r4, ?_, ?_, ?_, r8, r9⟩
  · rw [up_ne (by omega)]; exact r5
  · rw [up_ne (by omega)]; exact r6
  · rw [up_ne (by omega)]; exact r7
theorem u2_re {m d : jx_M} {s k : Nat} {v : Int} (hk : k < 4) (hr : re_T m d) : re_T (jx_up m 28 0 (4 * s + k) v) (jx_up d 2 s k v) := by
  obtain ⟨h1, h2, h3, h4, h5, h6, h7, h8, h9⟩ := hr
  refine ⟨h1, h2, h3, h4, h5, h6, fun o ho => ?_, h8, h9⟩
  obtain ⟨r1, r2, r3, r4, r5⟩ := h7 o ho
  have e4 : jx_up d 2 s k v 2 o 4 = d 2 o 4 := up_ne (by omega)
  have e5 : jx_up d 2 s k v 2 o 5 = d 2 o 5 := up_ne (by omega)
  rw [e4, e5]
  refine ⟨fun q hq => ?_, r2, r3, r4, r5⟩
  by_cases h : o = s ∧ q = k
  · rw [h.1, h.2, up_eq, up_eq]
  · rw [up_ne (by omega), up_ne (by omega)]; exact r1 q hq
-- noise
theorem u0_w {d : jx_M} {c : Nat} {v : Int} (hv : 0 ≤ v ∧ v ≤ 9) (hw : dt_w d) : dt_w (jx_up d 0 0 c v) := by
  obtain ⟨h1, h2⟩ := hw
  refine ⟨fun o ho => ?_, h2⟩
  by_cases h : o = c
  · rw [h, up_eq]; exact hv
  · rw [up_ne (by omega)]; exact h1 o ho
theorem u0_rc {m d : jx_M} {t c : Nat} {v : Int} (hr : rc_T m t d) : rc_T (jx_up m 2 t c v) t (jx_up d 0 0 c v) := by
  obtain ⟨h1, h2⟩ := hr
  refine ⟨fun o ho => ?_, h2⟩
  by_cases h : o = c
  · rw [h, up_eq, up_eq]
  · rw [up_ne (by omega), up_ne (by omega)]; exact h1 o ho
theorem u0_re {m d : jx_M} {c : Nat} {v : Int} (hr : re_T m d) : re_T (jx_up m 27 0 c v) (jx_up d 0 0 c v) := by
  obtain ⟨h1, h2⟩ := hr
  refine ⟨fun o ho => ?_, h2⟩
  by_cases h : o = c
  · rw [h, up_eq, up_eq]
  · rw [up_ne (by omega), up_ne (by omega)]; exact h1 o ho
-- likeness, bylaws
theorem u13_w {d : jx_M} {v : Int} (hv : 0 ≤ v ∧ v ≤ 20) (hw : dt_w d) : dt_w (jx_up d 1 0 3 v) := by
  obtain ⟨h1, h2, h3, h4, h5, h6⟩ := hw
  exact ⟨h1, h2, h3, h4, hv, h6⟩
theorem u13_re {m d : jx_M} {v : Int} (hr : re_T m d) : re_T (jx_up m 26 0 5 v) (jx_up d 1 0 3 v) := by
  obtain ⟨h1, h2, h3, h4, h5, h6⟩ := hr
  exact ⟨h1, h2, h3, h4, rfl, h6⟩
theorem u14_w {d : jx_M} {v : Int} (hv : 0 ≤ v ∧ v ≤ 15) (hw : dt_w d) : dt_w (jx_up d 1 0 4 v) := by
  obtain ⟨h1, h2, h3, h4, h5, h6, h7⟩ := hw
  exact ⟨h1, h2, h3, h4, h5, hv, h7⟩
theorem u13_rc {m d : jx_M} {t : Nat} {v : Int} (hr : rc_T m t d) : rc_T (jx_up m 1 t 7 v) t (jx_up d 1 0 3 v) := by
  obtain ⟨h1, h2, h3, h4, h5, h6, h7⟩ := hr
  refine ⟨h1, ?_, ?_, ?_, up_eq, ?_, h7⟩
  · rw [up_ne (by omega)]; exact h2
  · rw [up_ne (by omega)]; exact h3
  · rw [up_ne (by omega)]; exact h4
  · rw [up_ne (by omega)]; exact h6
theorem u14_rc {m d : jx_M} {t : Nat} {v : Int} (hr : rc_T m t d) : rc_T (jx_up m 1 t 8 v) t (jx_up d 1 0 4 v) := by
  obtain ⟨h1, h2, h3, h4, h5, h6, h7⟩ := hr
  refine ⟨h1, ?_, ?_, ?_, ?_, up_eq, h7⟩
  · rw [up_ne (by omega)]; exact h2
  · rw [up_ne (by omega)]; exact h3
  · rw [up_ne (by omega)]; exact h4
  · rw [up_ne (by omega)]; exact h5
theorem u14_re {m d : jx_M} {v : Int} (hr : re_T m d) : re_T (jx_up m 26 0 6 v) (jx_up d 1 0 4 v) := by
  obtain ⟨h1, h2, h3, h4, h5, h6, h7⟩ := hr
  exact ⟨h1, h2, h3, h4, h5, rfl, h7⟩
-- a round turned
def dt_r (d : jx_M) (s : Nat) : jx_M := fun a b c => if a = 3 ∧ b = s then d 3 s ((d 2 s 4).toNat - 1 - c) else d a b c
theorem dr_ne {d : jx_M} {s a b c : Nat} (h : ¬ (a = 3 ∧ b = s)) : dt_r d s a b c = d a b c := if_neg h
theorem dr_eq {d : jx_M} {s c : Nat} : dt_r d s 3 s c = d 3 s ((d 2 s 4).toNat - 1 - c) := if_pos ⟨rfl, rfl⟩
theorem dr_w {d : jx_M} {s : Nat} (hw : dt_w d) : dt_w (dt_r d s) := by
  obtain ⟨h1, h2, h3, h4, h5, h6, h7, h8, h9⟩ := hw
  refine ⟨h1, h2, h3, h4, h5, h6, fun o ho => ?_, h8, h9⟩
  obtain ⟨w1, w2, w3, w4, w5, w6, w7, w8⟩ := h7 o ho
  refine ⟨w1, w2, w3, w4, w5, w6, fun i hi => ?_, w8⟩
  have hi : (i : Int) < d 2 o 4 := hi
  by_cases h : o = s
  · rw [h, dr_eq, ← h]; exact w7 _ (by omega)
  · rw [dr_ne (by omega)]; exact w7 i hi
theorem dr_rc {m m' d : jx_M} {t s : Nat} (hw : dt_w d) (hs : (s : Int) < d 1 0 0) (hr : rc_T m t d) (hf : ∀ a i j, ¬ (a = 7 ∧ i = 6 * t + s) → m' a i j = m a i j) (h7 : ∀ i : Nat, i < (d 2 s 4).toNat → m' 7 (6 * t + s) i = m 7 (6 * t + s) ((d 2 s 4).toNat - 1 - i)) : rc_T m' t (dt_r d s) := by
  obtain ⟨r1, r2, r3, r4, r5, r6, r7, r8, r9⟩ := hr
  refine ⟨fun c hc => (hf 2 t c (by omega)).trans (r1 c hc), (hf 1 t 4 (by omega)).trans r2, (hf 1 t 5 (by omega)).trans r3, (hf 1 t 6 (by omega)).trans r4, (hf 1 t 7 (by omega)).trans r5, (hf 1 t 8 (by omega)).trans r6, fun o ho => ?_, fun b hb k hk => (hf 9 _ k (by omega)).trans (r8 b hb k hk), fun w hw2 k hk => (hf 10 _ k (by omega)).trans (r9 w hw2 k hk)⟩
  obtain ⟨q1, q2, q3, q4, q5, q6, q7, q8, q9⟩ := r7 o ho
  refine ⟨(hf 6 _ 4 (by omega)).trans q1, (hf 6 _ 5 (by omega)).trans q2, (hf 6 _ 6 (by omega)).trans q3, (hf 6 _ 7 (by omega)).trans q4, (hf 6 _ 2 (by omega)).trans q5, (hf 6 _ 3 (by omega)).trans q6, (hf 6 _ 8 (by omega)).trans q7, fun i hi => ?_, fun i hi => (hf 8 _ i (by omega)).trans (q9 i hi)⟩
  have hi : (i : Int) < d 2 o 4 := hi
  by_cases h : o = s
  · subst h
    rw [dr_eq, h7 i (by omega)]; exact q8 _ (by omega)
  · rw [dr_ne (by omega), hf 7 _ i (by omega)]; exact q8 i hi
/-- turned back -/
theorem dr_rc2 {m m' d : jx_M} {t s : Nat} (hw : dt_w d) (hs : (s : Int) < d 1 0 0) (hr : rc_T m t (dt_r d s)) (hf : ∀ a i j, ¬ (a = 7 ∧ i = 6 * t + s) → m' a i j = m a i j) (h7 : ∀ i : Nat, i < (d 2 s 4).toNat → m' 7 (6 * t + s) i = m 7 (6 * t + s) ((d 2 s 4).toNat - 1 - i)) : rc_T m' t d := by
  have h := dr_rc (s := s) (dr_w hw) hs hr hf h7
  obtain ⟨r1, r2, r3, r4, r5, r6, r7, r8, r9⟩ := h
  refine ⟨r1, r2, r3, r4, r5, r6, fun o ho => ?_, r8, r9⟩
  obtain ⟨q1, q2, q3, q4, q5, q6, q7, q8, q9⟩ := r7 o ho
  refine ⟨q1, q2, q3, q4, q5, q6, q7, fun i hi => ?_, q9⟩
  have e := q8 i hi
  by_cases h : o = s
  · subst h
    rw [e, dr_eq]
    show dt_r d o 3 o ((d 2 o 4).toNat - 1 - i) = _
    rw [dr_eq]
    congr 1
    omega
  · rw [dr_ne (by omega), dr_ne (by omega)] at e
    exact e
theorem dr_re {m d : jx_M} {s : Nat} (hr : re_T m d) (h16 : m 26 0 16 = -4) : re_T (jx_up m 26 0 16 (s : Int)) (dt_r d s) := by
  obtain ⟨h1, h2, h3, h4, h5, h6, h7, h8, h9⟩ := hr
  refine ⟨h1, h2, h3, h4, h5, h6, fun o ho => ?_, h8, h9⟩
  obtain ⟨r1, r2, r3, r4, r5⟩ := h7 o ho
  refine ⟨r1, r2, r3, fun i hi => ?_, r5⟩
  have hi : (i : Int) < d 2 o 4 := hi
  rw [show jx_up m 26 0 16 (s : Int) 26 0 16 = (s : Int) from up_eq]
  refine ⟨fun h => ?_, fun h => ?_⟩
  · obtain rfl : o = s := by omega
    rw [dr_eq]
    exact (r4 ((d 2 o 4).toNat - 1 - i) (by omega)).2 (by omega)
  · rw [dr_ne (by omega)]
    exact (r4 i hi).2 (by omega)
