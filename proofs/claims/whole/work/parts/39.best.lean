/-! the best beginning -/
theorem up_up {m : jx_M} {s i j : Nat} {v w : Int} : jx_up (jx_up m s i j v) s i j w = jx_up m s i j w := by
  funext a b c
  by_cases h : a = s ∧ b = i ∧ c = j
  · obtain ⟨rfl, rfl, rfl⟩ := h
    rw [up_eq, up_eq]
  · rw [up_ne h, up_ne h, up_ne h]
theorem up_self {m : jx_M} {s i j : Nat} : jx_up m s i j (m s i j) = m := by
  funext a b c
  by_cases h : a = s ∧ b = i ∧ c = j
  · obtain ⟨rfl, rfl, rfl⟩ := h
    rw [up_eq]
  · rw [up_ne h]
theorem re_fr {m m' d : jx_M} (h : ∀ s j, (26 ≤ s ∧ s ≤ 32) → ¬ (s = 26 ∧ ¬ (j = 1 ∨ j = 5 ∨ j = 6 ∨ j = 7 ∨ j = 9 ∨ j = 16)) → m' s 0 j = m s 0 j) (hr : re_T m d) : re_T m' d := by
  obtain ⟨h1, h2, h3, h4, h5, h6, h7, h8, h9⟩ := hr
  refine ⟨fun c hc => (h 27 c (by omega) (by omega)).trans (h1 c hc), (h 26 1 (by omega) (by omega)).trans h2, (h 26 7 (by omega) (by omega)).trans h3, (h 26 9 (by omega) (by omega)).trans h4, (h 26 5 (by omega) (by omega)).trans h5, (h 26 6 (by omega) (by omega)).trans h6, fun s hs => ?_, fun b hb k hk => (h 31 _ (by omega) (by omega)).trans (h8 b hb k hk), fun w hw k hk => (h 32 _ (by omega) (by omega)).trans (h9 w hw k hk)⟩
  obtain ⟨a1, a2, a3, a4, a5⟩ := h7 s hs
  rw [h 26 16 (by omega) (by omega)]
  exact ⟨fun k hk => (h 28 _ (by omega) (by omega)).trans (a1 k hk), (h 29 _ (by omega) (by omega)).trans a2, (h 30 _ (by omega) (by omega)).trans a3, fun i hi => ⟨fun z => (h 29 _ (by omega) (by omega)).trans ((a4 i hi).1 z), fun z => (h 29 _ (by omega) (by omega)).trans ((a4 i hi).2 z)⟩, fun i hi => (h 30 _ (by omega) (by omega)).trans (a5 i hi)⟩
theorem sp_br_in {d : jx_M} (hw : dt_w d) (s : Int) : 0 ≤ sp_br d s ∧ sp_br d s ≤ 12 := by
  have := nb_ct_in (fun b => (sp_life d b 120).2.1 = s) (d 1 0 1).toNat
  have hb := hw.2.2.1
  unfold sp_br
  omega
def bs_D (d : jx_M) (s u w : Nat) : jx_M := if w = 1 then dt_r (jx_up d 2 s 2 (5 * (u : Int))) s else jx_up d 2 s 2 (5 * (u : Int))
noncomputable def sp_bst (d : jx_M) (s : Nat) : Nat → Int × Int
  | 0 => (-1, 0)
  | k + 1 => if (sp_bst d s k).1 < sp_br (bs_D d s (k / 2) (k % 2)) s then (sp_br (bs_D d s (k / 2) (k % 2)) s, (k : Int)) else sp_bst d s k
theorem bs_D_w {d : jx_M} {s u w : Nat} (hw : dt_w d) (hu : u < 12) : dt_w (bs_D d s u w) := by
  have h : dt_w (jx_up d 2 s 2 (5 * (u : Int))) := u2_w (by omega) ⟨fun z => by omega, fun z => by omega, fun z => by omega, fun z => by omega⟩ hw
  unfold bs_D
  split
  · exact dr_w h
  · exact h
theorem bs_D_4 {d : jx_M} {s u w : Nat} : bs_D d s u w 2 s 4 = d 2 s 4 := by
  unfold bs_D
  split
  · rw [dr_ne (by omega), up_ne (by omega)]
  · rw [up_ne (by omega)]
theorem bs_D_0 {d : jx_M} {s u w : Nat} : bs_D d s u w 1 0 0 = d 1 0 0 := by
  unfold bs_D
  split
  · rw [dr_ne (by omega), up_ne (by omega)]
  · rw [up_ne (by omega)]
theorem sp_bst_in {d : jx_M} {s : Nat} : ∀ k : Nat, 0 ≤ (sp_bst d s k).2 ∧ (sp_bst d s k).2 ≤ k
  | 0 => by show (0 : Int) ≤ 0 ∧ (0 : Int) ≤ 0; omega
  | k + 1 => by
    have h := sp_bst_in (d := d) (s := s) k
    unfold sp_bst
    split
    · show 0 ≤ (k : Int) ∧ (k : Int) ≤ ((k + 1 : Nat) : Int); omega
    · omega
theorem bst_y {d : jx_M} {s k u w : Nat} (hk : k = 2 * u + w) (hw : w < 2) (h : (sp_bst d s k).1 < sp_br (bs_D d s u w) s) : sp_bst d s (k + 1) = (sp_br (bs_D d s u w) s, (k : Int)) := by
  have e1 : k / 2 = u := by omega
  have e2 : k % 2 = w := by omega
  show (if (sp_bst d s k).1 < sp_br (bs_D d s (k / 2) (k % 2)) s then (sp_br (bs_D d s (k / 2) (k % 2)) s, (k : Int)) else sp_bst d s k) = _
  rw [e1, e2, if_pos h]
theorem bst_n {d : jx_M} {s k u w : Nat} (hk : k = 2 * u + w) (hw : w < 2) (h : ¬ (sp_bst d s k).1 < sp_br (bs_D d s u w) s) : sp_bst d s (k + 1) = sp_bst d s k := by
  have e1 : k / 2 = u := by omega
  have e2 : k % 2 = w := by omega
  show (if (sp_bst d s k).1 < sp_br (bs_D d s (k / 2) (k % 2)) s then (sp_br (bs_D d s (k / 2) (k % 2)) s, (k : Int)) else sp_bst d s k) = _
  rw [e1, e2, if_neg h]
def sp_be (d : jx_M) (s : Nat) (a z : Int) : Prop := (a = 0 → z = 5 * ((sp_bst d s 24).2 / 2)) ∧ (a = 1 → z = (sp_bst d s 24).2 % 2) ∧ (a = 2 → z = (sp_bst d s 24).1)
theorem st_75 {d : jx_M} {s k u w : Nat} {a3 : Int} {m : jx_M} {w10 : Option jx_V} {Q : Int → jx_M → Prop} (hw : dt_w d) (hs : (s : Int) < d 1 0 0) (hk : k = 2 * u + w) (hw2 : w < 2) (hu : u < 12) (hr : rc_T m 2 (bs_D d s u w))
    (K : ∀ (m1 m2 : jx_M) (w10 : Option jx_V), dy_fr 1 m m1 → (∀ a i j, ¬ (a = 7 ∧ i = 6 * 2 + s) → m2 a i j = m1 a i j) → (∀ i : Nat, i < (d 2 s 4).toNat → m2 7 (6 * 2 + s) i = m1 7 (6 * 2 + s) ((d 2 s 4).toNat - 1 - i)) → jx_AW 75 26 [some (xA 11 0), some (xA 1 0), some (xI (s : Int)), some (xI a3), some (xA 6 (6 * 2 + s)), some (xI (5 * ((sp_bst d s (k + 1)).2 / 2))), some (xI ((sp_bst d s (k + 1)).2 % 2)), some (xI (sp_bst d s (k + 1)).1), some (xI (5 * (u : Int))), some (xI ((w : Int) + 1)), w10] [] m2 Q) :
    jx_AW 75 26 [some (xA 11 0), some (xA 1 0), some (xI (s : Int)), some (xI a3), some (xA 6 (6 * 2 + s)), some (xI (5 * ((sp_bst d s k).2 / 2))), some (xI ((sp_bst d s k).2 % 2)), some (xI (sp_bst d s k).1), some (xI (5 * (u : Int))), some (xI (w : Int)), w10] [] m Q := by
  have hn := hw.2.1
  have hE := bs_D_w (s := s) (w := w) hw hu
  have w5 := (hs_of hw s hs).2.2.2.2.1
  refine sg_75_26 0 s a3 _ _ _ _ _ w w10 m Q ⟨fun z => by omega, fun _ => ⟨by omega, by omega, by omega, cl_63 (by omega) (by omega) hE hr (fun m1 hf hok => ⟨by omega, by omega, cl_70 (by omega) hE hok ?_⟩)⟩⟩
  have hr1 := dy_fr_rc hf hr
  have e2 : m1 6 (6 * 2 + s) 2 = ((d 2 s 4).toNat : Nat) := by
    rw [(rs_of hr1 s (by rw [bs_D_0]; exact hs)).2.2.2.2.1, bs_D_4]; omega
  refine ⟨fun h => ⟨by omega, cl_79 (n := (d 2 s 4).toNat) (by omega) (by omega) e2 (fun m2 f2 g2 => ⟨by omega, ?_⟩)⟩, fun h => ⟨by omega, cl_79 (n := (d 2 s 4).toNat) (by omega) (by omega) e2 (fun m2 f2 g2 => ⟨by omega, ?_⟩)⟩⟩
  · have k9 := K m1 m2 (some (xI (sp_br (bs_D d s u w) (s : Int)))) hf f2 g2
    rw [bst_y hk hw2 h] at k9
    have e5 : (5 : Int) * ((k : Int) / 2) = 5 * (u : Int) := by omega
    have e6 : (k : Int) % 2 = (w : Int) := by omega
    simp only [e5, e6] at k9
    exact k9
  · have k9 := K m1 m2 (some (xI (sp_br (bs_D d s u w) (s : Int)))) hf f2 g2
    rw [bst_n hk hw2 h] at k9
    exact k9
theorem lp_75 {d : jx_M} {s : Nat} {a3 : Int} {m : jx_M} {Q : Int → jx_M → Prop} (hw : dt_w d) (hs : (s : Int) < d 1 0 0) (ha : 0 ≤ a3 ∧ a3 ≤ 2) (h1 : ∀ z m2, sp_be d s a3 z → fcs m m2 → Q z m2) :
    ∀ (r u : Nat) (m1 : jx_M) (v0 : Int) (w9 w10 : Option jx_V), u + r = 12 → fcs m m1 → rc_T m1 2 (jx_up d 2 s 2 v0) → jx_AW 75 18 [some (xA 11 0), some (xA 1 0), some (xI (s : Int)), some (xI a3), some (xA 6 (6 * 2 + s)), some (xI (5 * ((sp_bst d s (2 * u)).2 / 2))), some (xI ((sp_bst d s (2 * u)).2 % 2)), some (xI (sp_bst d s (2 * u)).1), some (xI (5 * (u : Int))), w9, w10] [] m1 Q := by
  have hn := hw.2.1
  intro r
  induction r with
  | zero =>
    intro u m1 v0 w9 w10 hu hf hr
    obtain rfl : u = 12 := by omega
    unfold sp_be at h1
    refine sg_75_18 0 s a3 _ _ _ _ _ w9 w10 m1 Q ⟨fun _ => ⟨fun z => h1 _ _ ⟨fun q => by omega, fun q => by omega, fun q => rfl⟩ hf, fun z => ⟨fun z2 => h1 _ _ ⟨fun q => rfl, fun q => by omega, fun q => by omega⟩ hf, fun z2 => h1 _ _ ⟨fun q => by omega, fun q => rfl, fun q => by omega⟩ hf⟩⟩, fun z => by omega⟩
  | succ r ih =>
    intro u m1 v0 w9 w10 hu hf hr
    have hwu : dt_w (jx_up d 2 s 2 (5 * (u : Int))) := u2_w (by omega) ⟨fun z => by omega, fun z => by omega, fun z => by omega, fun z => by omega⟩ hw
    have hrA := u2_rc (s := s) (k := 2) (v := 5 * (u : Int)) (by omega) hr
    rw [up_up] at hrA
    have f0 : fcs m (jx_up m1 6 (6 * 2 + s) 6 (5 * (u : Int))) := fun a i j hn' => by rw [up_ne (by omega)]; exact hf a i j hn'
    refine sg_75_18 0 s a3 _ _ _ _ _ w9 w10 m1 Q ⟨fun z => by omega, fun _ => ⟨by omega, ?_⟩⟩
    refine st_75 (k := 2 * u) (u := u) (w := 0) hw hs (by omega) (by omega) (by omega) hrA (fun m2 m3 w10 g1 g2 g3 => ?_)
    have hr2 := dy_fr_rc g1 hrA
    have hr3 : rc_T m3 2 (bs_D d s u 1) := dr_rc hwu hs hr2 g2 (by rw [up_ne (by omega)]; exact g3)
    have f3 : fcs m m3 := fun a i j hn' => (g2 a i j (by omega)).trans ((g1 a i j (by omega)).trans (f0 a i j hn'))
    refine st_75 (k := 2 * u + 1) (u := u) (w := 1) hw hs (by omega) (by omega) (by omega) hr3 (fun m4 m5 w10 g4 g5 g6 => ?_)
    have hr4 := dy_fr_rc g4 hr3
    have hr5 : rc_T m5 2 (jx_up d 2 s 2 (5 * (u : Int))) := dr_rc2 hwu hs hr4 g5 (by rw [up_ne (by omega)]; exact g6)
    have f5 : fcs m m5 := fun a i j hn' => (g5 a i j (by omega)).trans ((g4 a i j (by omega)).trans (f3 a i j hn'))
    refine sg_75_26 0 s a3 _ _ _ _ _ _ w10 m5 Q ⟨fun _ => ⟨by omega, ?_⟩, fun z => by omega⟩
    have k9 := ih (u + 1) m5 _ (some (xI (((1 : Nat) : Int) + 1))) w10 (by omega) f5 hr5
    rw [show 2 * (u + 1) = 2 * u + 1 + 1 by omega, show (5 : Int) * ((u + 1 : Nat) : Int) = 5 * (u : Int) + 5 by omega] at k9
    exact k9
theorem cl_75 {d : jx_M} {a a3 : Int} {m : jx_M} {Q : Int → jx_M → Prop} (hw : dt_w d) (hr : rc_T m 0 d) (hs : 0 ≤ a ∧ a < d 1 0 0) (ha : 0 ≤ a3 ∧ a3 ≤ 2) (h1 : ∀ z m2, sp_be d a.toNat a3 z → fcs m m2 → Q z m2) : jx_Cl 75 [xA 11 0, xA 1 0, xI a, xI a3] m Q := by
  have hn := hw.2.1
  refine sg_75 0 a a3 m Q ⟨by omega, by omega, cl_76 (by omega) (by omega) (by omega) hw hr (fun m1 f1 r1 => ⟨by omega, by omega, by omega, by omega, ?_⟩)⟩
  have e : jx_up d 2 a.toNat 2 (d 2 a.toNat 2) = d := up_self
  have l := lp_75 (a3 := a3) (m := m) (Q := Q) hw (s := a.toNat) (by omega) ha h1 12 0 m1 (d 2 a.toNat 2) none none (by omega) (fcs_tw f1) (by rw [e]; exact r1)
  rw [show ((a.toNat : Nat) : Int) = a by omega] at l
  exact l
theorem cl_74 {d : jx_M} {a b : Int} {m : jx_M} {Q : Int → jx_M → Prop} (hw : dt_w d) (hr : rc_T m 0 d) (h1 : ∀ z m2, (0 ≤ a ∧ a < d 1 0 0) ∧ (0 ≤ b ∧ b ≤ 2) → sp_be d a.toNat b z → fcs m m2 → Q z m2) (h0 : ¬ ((0 ≤ a ∧ a < d 1 0 0) ∧ (0 ≤ b ∧ b ≤ 2)) → Q (-1) m) : jx_Cl 74 [xA 0 0, xI a, xI b] m Q := by
  have en := hr.2.1
  refine sg_74 a b m Q ?_
  repeat' (first | omega | exact h0 (by omega) | refine cl_19 (by omega) ?_ ?_ | refine cl_12 ?_ ?_ | exact cl_75 hw hr (by omega) (by omega) (fun z m2 q f => h1 z m2 (by omega) q f) | apply And.intro | intro _)
/-- the reference, while it tries: what may differ -/
def fx (p1 p2 : Nat) (m m' : jx_M) : Prop := ∀ a i j, ¬ ((34 ≤ a ∧ a ≤ 41) ∨ a = 46 ∨ (a = 26 ∧ (j = 13 ∨ j = 14 ∨ j = 25)) ∨ (a = 26 ∧ i = 0 ∧ j = 16) ∨ (a = 28 ∧ i = 0 ∧ (j = p1 ∨ j = p2))) → m' a i j = m a i j
theorem lp_163 {d : jx_M} {s : Nat} {b2 : Int} {m : jx_M} {Q : Int → jx_M → Prop} (hw : dt_w d) (hr : re_T m d) (hal : m 26 0 17 < 0) (h16 : m 26 0 16 = -4) (hs : (s : Int) < d 1 0 0) (ha : 0 ≤ b2 ∧ b2 ≤ 2) (h1 : ∀ z m2, sp_be d s b2 z → fms m m2 → Q z m2) :
    ∀ (r k : Nat) (m1 : jx_M) (w7 : Option jx_V), k + r = 24 → fx (4 * s + 2) (4 * s + 2) m m1 → jx_AW 163 27 [some (xA 26 0), some (xI (s : Int)), some (xI b2), some (xI (m 28 0 (4 * s + 2))), some (xI (sp_bst d s k).2), some (xI (sp_bst d s k).1), some (xI (k : Int)), w7] [] m1 Q := by
  have hn := hw.2.1
  intro r
  induction r with
  | zero =>
    intro k m1 w7 hk hf
    obtain rfl : k = 24 := by omega
    have hb := sp_bst_in (d := d) (s := s) 24
    unfold sp_be at h1
    have f0 : fms m (jx_up (jx_up m1 26 0 16 (-4)) 28 0 (4 * s + 2) (m 28 0 (4 * s + 2))) := fun a i j hn' => by
      by_cases q1 : a = 28 ∧ i = 0 ∧ j = 4 * s + 2
      · obtain ⟨rfl, rfl, rfl⟩ := q1; exact up_eq
      · rw [up_ne q1]
        by_cases q2 : a = 26 ∧ i = 0 ∧ j = 16
        · obtain ⟨rfl, rfl, rfl⟩ := q2; rw [up_eq]; exact h16.symm
        · rw [up_ne q2]
          exact hf a i j (by omega)
    refine sg_163_27 s b2 _ _ _ _ w7 m1 Q ⟨fun z => by omega, fun _ => ?_⟩
    rw [show (4 * (s : Int) + 2).toNat = 4 * s + 2 by omega]
    exact ⟨by omega, by omega, by omega, by omega, by omega, by omega, fun z => ⟨by omega, by omega, h1 _ _ ⟨fun q => rfl, fun q => by omega, fun q => by omega⟩ f0⟩, fun z => ⟨fun z2 => ⟨by omega, h1 _ _ ⟨fun q => by omega, fun q => rfl, fun q => by omega⟩ f0⟩, fun z2 => h1 _ _ ⟨fun q => by omega, fun q => by omega, fun q => rfl⟩ f0⟩⟩
  | succ r ih =>
    intro k m1 w7 hk hf
    have hb := sp_bst_in (d := d) (s := s) k
    have hwu : dt_w (jx_up d 2 s 2 (5 * ((k / 2 : Nat) : Int))) := u2_w (by omega) ⟨fun z => by omega, fun z => by omega, fun z => by omega, fun z => by omega⟩ hw
    have hru := u2_re (s := s) (k := 2) (v := 5 * ((k / 2 : Nat) : Int)) (by omega) hr
    refine sg_163_27 s b2 _ _ _ _ w7 m1 Q ⟨fun _ => ?_, fun z => by omega⟩
    rw [show (4 * (s : Int) + 2).toNat = 4 * s + 2 by omega, show (5 : Int) * ((k : Int) / 2) = 5 * ((k / 2 : Nat) : Int) by omega]
    have go : ∀ (M : jx_M) (w : Nat), k = 2 * (k / 2) + w → w < 2 → re_T M (bs_D d s (k / 2) w) → M 26 0 17 < 0 → fx (4 * s + 2) (4 * s + 2) m M → jx_Cl 161 [xA 26 0, xI (s : Int)] M (fun z1 m2 =>
          (((sp_bst d s k).1 < z1 →
            (((sp_bst d s k).1 < z1 →
              ((jx_in ((k : Int) + 1)) ∧
  jx_AW 163 27 [some (xA 26 0), some (xI (s : Int)), some (xI b2), some (xI (m 28 0 (4 * s + 2))), some (xI (k : Int)), some (xI z1), some (xI ((k : Int) + 1)), some (xI z1)] [] m2 Q)) ∧
              (¬ ((sp_bst d s k).1 < z1) →
              ((jx_in ((k : Int) + 1)) ∧
  jx_AW 163 27 [some (xA 26 0), some (xI (s : Int)), some (xI b2), some (xI (m 28 0 (4 * s + 2))), some (xI (k : Int)), some (xI (sp_bst d s k).1), some (xI ((k : Int) + 1)), some (xI z1)] [] m2 Q)))) ∧
            (¬ ((sp_bst d s k).1 < z1) →
            (((sp_bst d s k).1 < z1 →
              ((jx_in ((k : Int) + 1)) ∧
  jx_AW 163 27 [some (xA 26 0), some (xI (s : Int)), some (xI b2), some (xI (m 28 0 (4 * s + 2))), some (xI (sp_bst d s k).2), some (xI z1), some (xI ((k : Int) + 1)), some (xI z1)] [] m2 Q)) ∧
              (¬ ((sp_bst d s k).1 < z1) →
              ((jx_in ((k : Int) + 1)) ∧
  jx_AW 163 27 [some (xA 26 0), some (xI (s : Int)), some (xI b2), some (xI (m 28 0 (4 * s + 2))), some (xI (sp_bst d s k).2), some (xI (sp_bst d s k).1), some (xI ((k : Int) + 1)), some (xI z1)] [] m2 Q)))))) := fun M w hk2 hw2 hrM hM17 hfM => by
      refine cl_161 (bs_D_w hw (by omega)) hrM hM17 (fun m2 f2 => ?_)
      have nxt := fun w' => ih (k + 1) m2 w' (by omega) (fun a i j hn' => (f2 a i j (by omega)).trans (hfM a i j hn'))
      refine ⟨fun h => ⟨fun _ => ⟨by omega, ?_⟩, fun z => absurd h z⟩, fun h => ⟨fun z => absurd z h, fun _ => ⟨by omega, ?_⟩⟩⟩
      · rw [bst_y hk2 hw2 h] at nxt; exact nxt _
      · rw [bst_n hk2 hw2 h] at nxt; exact nxt _
    have f0 : ∀ x : Int, fx (4 * s + 2) (4 * s + 2) m (jx_up (jx_up m1 28 0 (4 * s + 2) (5 * ((k / 2 : Nat) : Int))) 26 0 16 x) := fun x a i j hn' => by
      rw [up_ne (by omega), up_ne (by omega)]; exact hf a i j hn'
    have g0 : ∀ (x : Int) (E : jx_M), re_T (jx_up (jx_up m 28 0 (4 * s + 2) (5 * ((k / 2 : Nat) : Int))) 26 0 16 x) E → re_T (jx_up (jx_up m1 28 0 (4 * s + 2) (5 * ((k / 2 : Nat) : Int))) 26 0 16 x) E := fun x E => re_fr (fun a j ha hj => by
      by_cases q2 : a = 26 ∧ j = 16
      · obtain ⟨rfl, rfl⟩ := q2; rw [up_eq, up_eq]
      · rw [up_ne (s := 26) (by omega), up_ne (s := 26) (by omega)]
        by_cases q1 : a = 28 ∧ j = 4 * s + 2
        · obtain ⟨rfl, rfl⟩ := q1; rw [up_eq, up_eq]
        · rw [up_ne (by omega), up_ne (by omega)]
          exact hf a 0 j (by omega))
    refine ⟨by omega, by omega, by omega, by omega, by omega, by omega, by omega, by omega, fun h => ⟨by omega, by omega, go _ 1 (by omega) (by omega) (g0 _ _ (dr_re hru h16)) ?_ (f0 _)⟩, fun h => ⟨by omega, by omega, go _ 0 (by omega) (by omega) (g0 _ _ ?_) ?_ (f0 _)⟩⟩
    · rw [f0 _ 26 0 17 (by omega)]; exact hal
    · rw [show jx_up (jx_up m 28 0 (4 * s + 2) (5 * ((k / 2 : Nat) : Int))) 26 0 16 (-4) = jx_up m 28 0 (4 * s + 2) (5 * ((k / 2 : Nat) : Int)) by
        rw [← h16]; exact up_self (m := jx_up m 28 0 (4 * s + 2) (5 * ((k / 2 : Nat) : Int)))]
      exact hru
    · rw [f0 _ 26 0 17 (by omega)]; exact hal
theorem cl_163 {d : jx_M} {a b : Int} {m : jx_M} {Q : Int → jx_M → Prop} (hw : dt_w d) (hr : re_T m d) (hal : m 26 0 17 < 0) (h16 : m 26 0 16 = -4) (h1 : ∀ z m2, (0 ≤ a ∧ a < d 1 0 0) ∧ (0 ≤ b ∧ b ≤ 2) → sp_be d a.toNat b z → fms m m2 → Q z m2) (h0 : ¬ ((0 ≤ a ∧ a < d 1 0 0) ∧ (0 ≤ b ∧ b ≤ 2)) → Q (-1) m) : jx_Cl 163 [xA 26 0, xI a, xI b] m Q := by
  have hn := hw.2.1
  have en := hr.2.1
  have l : (0 ≤ a ∧ a < d 1 0 0) ∧ (0 ≤ b ∧ b ≤ 2) → jx_AW 163 27 [some (xA 26 0), some (xI a), some (xI b), some (xI (m 28 0 ((4 * a + 2).toNat))), some (xI 0), some (xI (-1)), some (xI 0), none] [] m Q := fun g => by
    have l := lp_163 (b2 := b) (m := m) (Q := Q) hw hr hal h16 (s := a.toNat) (by omega) (by omega) (fun z m2 q f => h1 z m2 g q f) 24 0 m none (by omega) (fun _ _ _ _ => rfl)
    rw [show ((a.toNat : Nat) : Int) = a by omega, show 4 * a.toNat + 2 = (4 * a + 2).toNat by omega] at l
    exact l
  refine sg_163 a b m Q ?_
  repeat' (first | omega | exact h0 (by omega) | refine cl_130 (by omega) ?_ ?_ | refine cl_125 ?_ ?_ | exact l (by omega) | apply And.intro | intro _)
theorem pr_19 {a b : Int} {m : jx_M} {R : Int → Int → jx_M → Prop} (hI : jv_I m) (K : ∀ z m2, jv_I m2 → fS m m2 → R z z m2) : jx_Cl 74 [xA 0 0, xI a, xI b] m (fun z1 m1 => jx_Cl 163 [xA 26 0, xI a, xI b] m1 (fun z2 m2 => R z1 z2 m2)) := by
  obtain ⟨d, e, q, hw, hC, hM⟩ := hI
  have k := fun z => jv_ask (G := R z z m) hw hC hM (fcs_r m) (fms_r m) (K z m)
  refine cl_74 hw.1 hC.1 (fun z m1 g h f1 => ?_) (fun g => cl_163 hw.1 (re_M hM) (al_M hM) hM.1.2.1 (fun _ _ z => absurd z g) (fun _ => k _))
  have hM1 := jv_M_C (fcs_C f1) hM
  refine cl_163 hw.1 (re_M hM1) (al_M hM1) hM1.1.2.1 (fun z2 m2 _ h2 f2 => ?_) (fun z => absurd g z)
  unfold sp_be at h h2
  obtain rfl : z = z2 := by
    rcases (by omega : b = 0 ∨ b = 1 ∨ b = 2) with q | q | q
    · rw [h.1 q, h2.1 q]
    · rw [h.2.1 q, h2.2.1 q]
    · rw [h.2.2 q, h2.2.2 q]
  exact jv_ask hw hC hM f1 f2 (K z m2)
