/-! beginnings of two at which neither would move -/
theorem up_comm {m : jx_M} {s i j s' i' j' : Nat} {v w : Int} (h : ¬ (s' = s ∧ i' = i ∧ j' = j)) : jx_up (jx_up m s i j v) s' i' j' w = jx_up (jx_up m s' i' j' w) s i j v := by
  funext a b c
  by_cases h1 : a = s ∧ b = i ∧ c = j
  · obtain ⟨rfl, rfl, rfl⟩ := h1
    rw [up_eq, up_ne (by omega), up_eq]
  · by_cases h2 : a = s' ∧ b = i' ∧ c = j'
    · obtain ⟨rfl, rfl, rfl⟩ := h2
      rw [up_eq, up_ne (by omega), up_eq]
    · rw [up_ne h2, up_ne h1, up_ne h1, up_ne h2]
/-- the least that has a property, from lo on and below hi -/
def fs (P : Nat → Prop) (lo hi : Nat) (z : Int) : Prop := (z = -4 ∧ ∀ j : Nat, lo ≤ j → j < hi → ¬ P j) ∨ (∃ i : Nat, lo ≤ i ∧ i < hi ∧ z = (i : Int) ∧ P i ∧ ∀ j : Nat, lo ≤ j → j < i → ¬ P j)
theorem fs_0 {P : Nat → Prop} {k : Nat} : fs P k k (-4) := Or.inl ⟨rfl, fun j h1 h2 => by omega⟩
theorem fs_in {P : Nat → Prop} {lo hi : Nat} {z : Int} (h : fs P lo hi z) : z = -4 ∨ ((lo : Int) ≤ z ∧ z < hi) := by
  rcases h with ⟨h, -⟩ | ⟨i, h1, h2, h3, -⟩
  · exact Or.inl h
  · right; omega
theorem fs_yes {P : Nat → Prop} {lo k : Nat} {z : Int} (h : fs P lo k z) (hz : z < 0) (hl : lo ≤ k) (hP : P k) : fs P lo (k + 1) (k : Int) := by
  rcases h with ⟨-, h⟩ | ⟨i, h1, h2, h3, -⟩
  · exact Or.inr ⟨k, hl, by omega, rfl, hP, fun j h1 h2 => h j h1 h2⟩
  · omega
theorem fs_no {P : Nat → Prop} {lo k : Nat} {z : Int} (h : fs P lo k z) (hP : ¬ P k) : fs P lo (k + 1) z := by
  rcases h with ⟨h0, h⟩ | ⟨i, h1, h2, h3, h4, h5⟩
  · refine Or.inl ⟨h0, fun j h1 h2 => ?_⟩
    rcases Nat.lt_or_ge j k with q | q
    · exact h j h1 q
    · obtain rfl : j = k := by omega
      exact hP
  · exact Or.inr ⟨i, h1, by omega, h3, h4, h5⟩
theorem fs_had {P : Nat → Prop} {lo k : Nat} {z : Int} (h : fs P lo k z) (hz : 0 ≤ z) : fs P lo (k + 1) z := by
  rcases h with ⟨h0, h⟩ | ⟨i, h1, h2, h3, h4, h5⟩
  · omega
  · exact Or.inr ⟨i, h1, by omega, h3, h4, h5⟩
theorem fs_dy {P : Nat → Prop} {k hi : Nat} {z : Int} (h : fs P (k + 1) hi z) (hk : k < hi) (hP : P k) : fs P k hi (k : Int) := Or.inr ⟨k, by omega, hk, rfl, hP, fun j h1 h2 => by omega⟩
theorem fs_dn {P : Nat → Prop} {k hi : Nat} {z : Int} (h : fs P (k + 1) hi z) (hP : ¬ P k) : fs P k hi z := by
  have x : ∀ j : Nat, k ≤ j → ¬ k + 1 ≤ j → ¬ P j := fun j h1 h2 => by
    obtain rfl : j = k := by omega
    exact hP
  rcases h with ⟨h0, h⟩ | ⟨i, h1, h2, h3, h4, h5⟩
  · exact Or.inl ⟨h0, fun j h1 h2 => if q : k + 1 ≤ j then h j q h2 else x j h1 q⟩
  · exact Or.inr ⟨i, by omega, h2, h3, h4, fun j h6 h7 => if q : k + 1 ≤ j then h5 j q h7 else x j h6 q⟩
theorem fs_un {P : Nat → Prop} {lo hi : Nat} {z w : Int} (h : fs P lo hi z) (g : fs P lo hi w) : z = w := by
  rcases h with ⟨h0, h⟩ | ⟨i, h1, h2, h3, h4, h5⟩
  · rcases g with ⟨g0, g⟩ | ⟨i, g1, g2, g3, g4, g5⟩
    · omega
    · exact absurd g4 (h i g1 g2)
  · rcases g with ⟨g0, g⟩ | ⟨j, g1, g2, g3, g4, g5⟩
    · exact absurd h4 (g i h1 h2)
    · rcases Nat.lt_trichotomy i j with q | q | q
      · exact absurd h4 (g5 i h1 q)
      · omega
      · exact absurd g4 (h5 j g1 q)
theorem fs_iff {P R : Nat → Prop} {lo hi : Nat} {z : Int} (hPR : ∀ j, lo ≤ j → j < hi → (P j ↔ R j)) (h : fs P lo hi z) : fs R lo hi z := by
  rcases h with ⟨h0, h⟩ | ⟨i, h1, h2, h3, h4, h5⟩
  · exact Or.inl ⟨h0, fun j g1 g2 => fun z => h j g1 g2 ((hPR j g1 g2).mpr z)⟩
  · exact Or.inr ⟨i, h1, h2, h3, (hPR i h1 h2).mp h4, fun j g1 g2 z => h5 j g1 g2 ((hPR j g1 (by omega)).mpr z)⟩
def rs_D (d : jx_M) (a b k : Nat) : jx_M := jx_up (jx_up d 2 a 2 (10 * ((k / 6 : Nat) : Int))) 2 b 2 (10 * ((k % 6 : Nat) : Int))
noncomputable def rs_F (d : jx_M) (a b k : Nat) : Int := sp_br (rs_D d a b k) a
noncomputable def rs_G (d : jx_M) (a b k : Nat) : Int := sp_br (rs_D d a b k) b
def sp_rt (F G : Nat → Int) (k : Nat) : Prop := ∀ j : Nat, j < 6 → F (6 * j + k % 6) ≤ F k ∧ G (6 * (k / 6) + j) ≤ G k
def sp_rs (F G : Nat → Int) (a z : Int) : Prop := (a = 0 → z = nb_ct (sp_rt F G) 36) ∧ (¬ a = 0 → ∃ f, fs (sp_rt F G) 0 36 f ∧ (f < 0 → z = -4) ∧ (¬ f < 0 → a = 1 → z = 10 * (f / 6)) ∧ (¬ f < 0 → ¬ a = 1 → z = 10 * (f % 6)))
theorem sp_rs_un {F G : Nat → Int} {a z w : Int} (h : sp_rs F G a z) (g : sp_rs F G a w) : z = w := by
  by_cases q : a = 0
  · rw [h.1 q, g.1 q]
  · obtain ⟨f, h1, h2, h3, h4⟩ := h.2 q
    obtain ⟨f', g1, g2, g3, g4⟩ := g.2 q
    obtain rfl : f = f' := fs_un h1 g1
    by_cases q1 : f < 0
    · rw [h2 q1, g2 q1]
    · by_cases q2 : a = 1
      · rw [h3 q1 q2, g3 q1 q2]
      · rw [h4 q1 q2, g4 q1 q2]
theorem vl_22 {v : Int} (h : 0 ≤ v ∧ v ≤ 119) : vl_2 2 v := ⟨fun z => by omega, fun z => by omega, fun _ => h, fun z => by omega⟩
theorem rs_D_w {d : jx_M} {a b k : Nat} (hw : dt_w d) (hk : k < 36) : dt_w (rs_D d a b k) := u2_w (by omega) (vl_22 (by omega)) (u2_w (by omega) (vl_22 (by omega)) hw)
theorem lp_81 {d : jx_M} {a b : Nat} {m : jx_M} {Q : Int → jx_M → Prop} (hw : dt_w d) (ha : (a : Int) < d 1 0 0) (hb : (b : Int) < d 1 0 0) (hab : a ≠ b) (K : ∀ m2, fcs m m2 → (∀ j : Nat, j < 36 → m2 12 0 j = rs_F d a b j ∧ m2 13 0 j = rs_G d a b j) → Q 0 m2) :
    ∀ (r k : Nat) (m1 : jx_M) (x y : Int), k + r = 36 → fcs m m1 → rc_T m1 2 (jx_up (jx_up d 2 a 2 x) 2 b 2 y) → (∀ j : Nat, j < k → m1 12 0 j = rs_F d a b j ∧ m1 13 0 j = rs_G d a b j) → jx_AW 81 6 [some (xA 11 0), some (xA 1 0), some (xI (a : Int)), some (xI (b : Int)), some (xI (k : Int))] [] m1 Q := by
  have hn := hw.2.1
  intro r
  induction r with
  | zero =>
    intro k m1 x y hk hf hr h
    exact sg_81_6 0 a b k m1 Q ⟨fun z => by omega, fun _ => K m1 hf (fun j hj => h j (by omega))⟩
  | succ r ih =>
    intro k m1 x y hk hf hr h
    have h1 := u2_rc (s := a) (k := 2) (v := 10 * ((k / 6 : Nat) : Int)) (by omega) hr
    rw [up_comm (s := 2) (i := b) (s' := 2) (i' := a) (by omega), up_up] at h1
    have h2 := u2_rc (s := b) (k := 2) (v := 10 * ((k % 6 : Nat) : Int)) (by omega) h1
    rw [up_up] at h2
    have f0 : fcs m (jx_up (jx_up m1 6 (6 * 2 + a) (4 + 2) (10 * ((k / 6 : Nat) : Int))) 6 (6 * 2 + b) (4 + 2) (10 * ((k % 6 : Nat) : Int))) := fun s i j hn' => by rw [up_ne (by omega), up_ne (by omega)]; exact hf s i j hn'
    have g0 : ∀ s j, s = 12 ∨ s = 13 → jx_up (jx_up m1 6 (6 * 2 + a) (4 + 2) (10 * ((k / 6 : Nat) : Int))) 6 (6 * 2 + b) (4 + 2) (10 * ((k % 6 : Nat) : Int)) s 0 j = m1 s 0 j := fun s j hs => by rw [up_ne (by omega), up_ne (by omega)]
    have hE : dt_w (rs_D d a b k) := rs_D_w hw (by omega)
    refine sg_81_6 0 a b k m1 Q ⟨fun _ => ?_, fun z => by omega⟩
    rw [show ((k : Int)).toNat = k by omega, show ((a : Int)).toNat = a by omega, show ((b : Int)).toNat = b by omega, show (k : Int) / 6 = ((k / 6 : Nat) : Int) by omega, show (k : Int) % 6 = ((k % 6 : Nat) : Int) by omega]
    refine ⟨by omega, by omega, by omega, by omega, by omega, by omega, by omega, by omega, by omega, by omega, by omega, by omega, by omega, by omega, by omega, by omega, by omega, cl_63 (d := rs_D d a b k) (by omega) (by omega) hE h2 (fun m2 f2 ok => ⟨by omega, by omega, by omega, cl_70 (by omega) hE ok ⟨by omega, by omega, by omega, by omega, by omega, ?_⟩⟩)⟩
    have ok2 : dy_ok (jx_up m2 12 0 k (sp_br (rs_D d a b k) (a : Int))) 1 (rs_D d a b k) := ok
    refine cl_70 (by omega) hE ok2 ⟨by omega, by omega, by omega, ih (k + 1) _ _ _ (by omega) (fun s i j hn' => ?_) (rc_fr (u2_w (by omega) (vl_22 (by omega)) (u2_w (by omega) (vl_22 (by omega)) hw)) (fun s j hs => ?_) (fun s i j hs hi => ?_) (fun s i j hs hi => ?_) h2) (fun j hj => ?_)⟩
    · rw [up_ne (by omega), up_ne (by omega), f2 s i j (by omega)]; exact f0 s i j hn'
    · rw [up_ne (by omega), up_ne (by omega), f2 s _ j (by omega)]
    · rw [up_ne (by omega), up_ne (by omega), f2 s i j (by omega)]
    · rw [up_ne (by omega), up_ne (by omega), f2 s i j (by omega)]
    · rcases Nat.decEq j k with q | q
      · rw [up_ne (by omega), up_ne (by omega), up_ne (by omega), up_ne (by omega), f2 12 0 j (by omega), f2 13 0 j (by omega), g0 12 j (by omega), g0 13 j (by omega)]
        exact h j (by omega)
      · subst q
        rw [up_ne (by omega), up_eq, up_eq]
        exact ⟨rfl, rfl⟩
theorem cl_81 {d : jx_M} {a b : Int} {m : jx_M} {Q : Int → jx_M → Prop} (hw : dt_w d) (hr : rc_T m 0 d) (ha : 0 ≤ a ∧ a < d 1 0 0) (hb : 0 ≤ b ∧ b < d 1 0 0) (hab : a ≠ b) (K : ∀ m2, fcs m m2 → (∀ j : Nat, j < 36 → m2 12 0 j = rs_F d a.toNat b.toNat j ∧ m2 13 0 j = rs_G d a.toNat b.toNat j) → Q 0 m2) : jx_Cl 81 [xA 11 0, xA 1 0, xI a, xI b] m Q := by
  refine sg_81 0 a b m Q ⟨by omega, by omega, cl_76 (by omega) (by omega) (by omega) hw hr (fun m1 f1 r1 => ?_)⟩
  have e1 : jx_up d 2 a.toNat 2 (d 2 a.toNat 2) = d := up_self
  have e2 : jx_up d 2 b.toNat 2 (d 2 b.toNat 2) = d := up_self
  have l := lp_81 (m := m) (Q := Q) hw (a := a.toNat) (b := b.toNat) (by omega) (by omega) (by omega) K 36 0 m1 (d 2 a.toNat 2) (d 2 b.toNat 2) (by omega) (fcs_tw f1) (by rw [e1, e2]; exact r1) (fun j hj => by omega)
  rw [show ((a.toNat : Nat) : Int) = a by omega, show ((b.toNat : Nat) : Int) = b by omega] at l
  exact l
theorem lp_83 {F G : Nat → Int} {k : Nat} {m : jx_M} {Q : Int → jx_M → Prop} (hk : k < 36) (hF : ∀ j : Nat, j < 36 → m 12 0 j = F j ∧ m 13 0 j = G j) (h1 : sp_rt F G k → Q 1 m) (h0 : ¬ sp_rt F G k → Q 0 m) :
    ∀ (r c : Nat), c + r = 6 → (∀ j : Nat, j < c → F (6 * j + k % 6) ≤ F k ∧ G (6 * (k / 6) + j) ≤ G k) → jx_AW 83 10 [some (xA 11 0), some (xI (k : Int)), some (xI ((k : Int) / 6)), some (xI ((k : Int) % 6)), some (xI (c : Int))] [] m Q := by
  intro r
  induction r with
  | zero =>
    intro c hc h
    obtain rfl : c = 6 := by omega
    exact sg_83_10 k _ _ _ m Q ⟨fun z => by omega, fun _ => ⟨by omega, h1 h⟩⟩
  | succ r ih =>
    intro c hc h
    refine sg_83_10 k _ _ c m Q ⟨fun _ => ?_, fun z => by omega⟩
    rw [show ((k : Int)).toNat = k by omega, show ((c : Int) * 6 + (k : Int) % 6).toNat = 6 * c + k % 6 by omega, show ((k : Int) / 6 * 6 + (c : Int)).toNat = 6 * (k / 6) + c by omega, (hF k hk).1, (hF k hk).2, (hF (6 * c + k % 6) (by omega)).1, (hF (6 * (k / 6) + c) (by omega)).2]
    refine ⟨by omega, by omega, by omega, by omega, by omega, by omega, by omega, by omega, fun z => ⟨by omega, h0 (fun q => ?_)⟩, fun z => ⟨by omega, by omega, by omega, by omega, by omega, by omega, by omega, by omega, fun z2 => ⟨by omega, h0 (fun q => ?_)⟩, fun z2 => ⟨by omega, ih (c + 1) (by omega) (fun j hj => ?_)⟩⟩⟩
    · have := (q c (by omega)).1; omega
    · have := (q c (by omega)).2; omega
    · rcases Nat.lt_or_ge j c with q | q
      · exact h j q
      · obtain rfl : j = c := by omega
        exact ⟨by omega, by omega⟩
theorem cl_83 {F G : Nat → Int} {k : Nat} {m : jx_M} {Q : Int → jx_M → Prop} (hk : k < 36) (hF : ∀ j : Nat, j < 36 → m 12 0 j = F j ∧ m 13 0 j = G j) (h1 : sp_rt F G k → Q 1 m) (h0 : ¬ sp_rt F G k → Q 0 m) : jx_Cl 83 [xA 11 0, xI (k : Int)] m Q :=
  sg_83 k m Q ⟨by omega, by omega, lp_83 hk hF h1 h0 6 0 (by omega) (fun j hj => by omega)⟩
theorem lp_82 {F G : Nat → Int} {a : Int} {m : jx_M} {Q : Int → jx_M → Prop} (hF : ∀ j : Nat, j < 36 → m 12 0 j = F j ∧ m 13 0 j = G j) (h1 : ∀ z, sp_rs F G a z → Q z m) :
    ∀ (r k : Nat) (b3 : Int), k + r = 36 → fs (sp_rt F G) 0 k b3 → jx_AW 82 6 [some (xA 11 0), some (xI a), some (xI (nb_ct (sp_rt F G) k)), some (xI b3), some (xI (k : Int))] [] m Q := by
  intro r
  induction r with
  | zero =>
    intro k b3 hk hf
    obtain rfl : k = 36 := by omega
    have hin := fs_in hf
    exact sg_82_6 a _ b3 _ m Q ⟨fun z => by omega, fun _ => ⟨fun z => h1 _ ⟨fun _ => rfl, fun q => absurd z q⟩, fun z => ⟨fun z2 => h1 _ ⟨fun q => absurd q z, fun _ => ⟨b3, hf, fun _ => rfl, fun q => absurd z2 q, fun q => absurd z2 q⟩⟩, fun z2 => ⟨fun z3 => ⟨by omega, by omega, h1 _ ⟨fun q => absurd q z, fun _ => ⟨b3, hf, fun q => absurd q z2, fun _ _ => rfl, fun _ q => absurd z3 q⟩⟩⟩, fun z3 => ⟨by omega, by omega, h1 _ ⟨fun q => absurd q z, fun _ => ⟨b3, hf, fun q => absurd q z2, fun _ q => absurd q z3, fun _ _ => rfl⟩⟩⟩⟩⟩⟩⟩
  | succ r ih =>
    intro k b3 hk hf
    have hc := nb_ct_in (sp_rt F G) k
    have hin := fs_in hf
    have nxt := fun b3 => ih (k + 1) b3 (by omega)
    refine sg_82_6 a _ b3 k m Q ⟨fun _ => ⟨by omega, cl_83 (by omega) hF (fun hy => ⟨fun z => by omega, fun _ => ⟨by omega, fun z => ⟨by omega, ?_⟩, fun z => ⟨by omega, ?_⟩⟩⟩) (fun hy => ⟨fun _ => ⟨by omega, ?_⟩, fun z => by omega⟩)⟩, fun z => by omega⟩
    · rw [nb_ct_yes hy] at nxt; exact nxt _ (fs_yes hf z (by omega) hy)
    · rw [nb_ct_yes hy] at nxt; exact nxt _ (fs_had hf (by omega))
    · rw [nb_ct_no hy] at nxt; exact nxt _ (fs_no hf hy)
theorem cl_82 {F G : Nat → Int} {a : Int} {m : jx_M} {Q : Int → jx_M → Prop} (hF : ∀ j : Nat, j < 36 → m 12 0 j = F j ∧ m 13 0 j = G j) (h1 : ∀ z, sp_rs F G a z → Q z m) : jx_Cl 82 [xA 11 0, xI a] m Q :=
  sg_82 a m Q (lp_82 hF h1 36 0 (-4) (by omega) fs_0)
theorem cl_80 {d : jx_M} {a b c : Int} {m : jx_M} {Q : Int → jx_M → Prop} (hw : dt_w d) (hr : rc_T m 0 d) (h1 : ∀ z m2, (0 ≤ a ∧ a < d 1 0 0) ∧ (0 ≤ b ∧ b < d 1 0 0) ∧ a ≠ b ∧ (0 ≤ c ∧ c ≤ 2) → sp_rs (rs_F d a.toNat b.toNat) (rs_G d a.toNat b.toNat) c z → fcs m m2 → Q z m2) (h0 : ¬ ((0 ≤ a ∧ a < d 1 0 0) ∧ (0 ≤ b ∧ b < d 1 0 0) ∧ a ≠ b ∧ (0 ≤ c ∧ c ≤ 2)) → Q (-1) m) : jx_Cl 80 [xA 0 0, xI a, xI b, xI c] m Q := by
  have en := hr.2.1
  refine sg_80 a b c m Q ?_
  repeat' (first | omega | exact h0 (by omega) | refine cl_19 (by omega) ?_ ?_ | refine cl_12 ?_ ?_ | refine cl_81 hw hr (by omega) (by omega) (by omega) (fun m2 f2 g2 => ⟨by omega, by omega, cl_82 g2 (fun z hz => h1 z m2 (by omega) hz f2)⟩) | apply And.intro | intro _)
theorem cl_161r {d : jx_M} {a : Int} {m : jx_M} {Q : Int → jx_M → Prop} (hw : dt_w d) (hr : re_T m d) (hal : m 26 0 17 < 0) (K : ∀ (m2 : jx_M), lf_fr m m2 → (∀ b : Nat, (b : Int) < d 1 0 1 → m2 36 0 b = (sp_life d b 120).2.1) → Q (sp_br d a) m2) : jx_Cl 161 [xA 26 0, xI a] m Q := by
  have hbu := hw.2.2.1
  exact sg_161 a m Q ⟨by omega, cl_157 hw hr hal (fun m2 hf hl => lp_161 hw (lf_fr_re hf hr) hl (K m2 hf (fun b hb => congrArg (fun x => x.2.1) (hl b hb))) (d 1 0 1).toNat 0 (by omega))⟩
theorem lp_164_82 {d : jx_M} {k : Nat} {b1 b2 b3 b4 b5 : Int} {m : jx_M} {Q : Int → jx_M → Prop} {w8 w9 w10 : Option jx_V} (hw : dt_w d) (hk : k < 36) (h7 : m 26 0 7 = d 1 0 1) (hl : ∀ b : Nat, (b : Int) < d 1 0 1 → m 36 0 b = (sp_life d b 120).2.1)
    (K : ∀ m2 (w7 : Option jx_V), (∀ s i j, ¬ (s = 40 ∧ i = 0 ∧ j = k) → m2 s i j = m s i j) → m2 40 0 k = sp_br d b2 → jx_AW 164 39 [some (xA 26 0), some (xI b1), some (xI b2), some (xI b3), some (xI b4), some (xI b5), some (xI ((k : Int) + 1)), w7, w8, w9, w10] [] m2 Q) :
    ∀ (r j : Nat) (m1 : jx_M), j + r = (d 1 0 1).toNat → (∀ s i j, ¬ (s = 40 ∧ i = 0 ∧ j = k) → m1 s i j = m s i j) → m1 40 0 k = nb_ct (fun b => (sp_life d b 120).2.1 = b2) j → jx_AW 164 82 [some (xA 26 0), some (xI b1), some (xI b2), some (xI b3), some (xI b4), some (xI b5), some (xI (k : Int)), some (xI (j : Int)), w8, w9, w10] [] m1 Q := by
  have hbu := hw.2.2.1
  intro r
  induction r with
  | zero =>
    intro j m1 hj hf h
    have e7 : m1 26 0 7 = d 1 0 1 := (hf 26 0 7 (by omega)).trans h7
    obtain rfl : j = (d 1 0 1).toNat := by omega
    exact sg_164_82 b1 b2 b3 b4 b5 k _ w8 w9 w10 m1 Q ⟨by omega, fun z => by omega, fun _ => ⟨by omega, K m1 _ hf h⟩⟩
  | succ r ih =>
    intro j m1 hj hf h
    have e7 : m1 26 0 7 = d 1 0 1 := (hf 26 0 7 (by omega)).trans h7
    have hc := nb_ct_in (fun b => (sp_life d b 120).2.1 = b2) j
    have f9 : ∀ v : Int, ∀ s i j, ¬ (s = 40 ∧ i = 0 ∧ j = k) → jx_up m1 40 0 k v s i j = m s i j := fun v s i j hn => by rw [up_ne hn]; exact hf s i j hn
    refine sg_164_82 b1 b2 b3 b4 b5 k j w8 w9 w10 m1 Q ?_
    rw [show ((k : Int)).toNat = k by omega, show ((j : Int)).toNat = j by omega, show m1 36 0 j = (sp_life d j 120).2.1 from (hf 36 0 j (by omega)).trans (hl j (by omega)), h]
    refine ⟨by omega, fun _ => ⟨by omega, by omega, by omega, by omega, by omega, by omega, fun z => ⟨by omega, by omega, by omega, by omega, ih (j + 1) _ (by omega) (f9 _) ?_⟩, fun z => ⟨by omega, by omega, by omega, by omega, ih (j + 1) _ (by omega) (f9 _) ?_⟩⟩, fun z => by omega⟩
    · rw [up_eq, nb_ct_yes (P := fun b => (sp_life d b 120).2.1 = b2) z]
    · rw [up_eq, nb_ct_no (P := fun b => (sp_life d b 120).2.1 = b2) z, Int.add_zero]
theorem lp_164_136 {F G : Nat → Int} {k : Nat} {b1 b2 b3 b4 b5 b6 b7 : Int} {m : jx_M} {Q : Int → jx_M → Prop} (hk : k < 36) (hb6 : 0 ≤ b6 ∧ b6 ≤ 36) (hF : ∀ j : Nat, j < 36 → m 39 0 j = F j ∧ m 40 0 j = G j)
    (h1 : sp_rt F G k → ∀ w9 w10 : Option jx_V, jx_AW 164 130 [some (xA 26 0), some (xI b1), some (xI b2), some (xI b3), some (xI b4), some (xI b5), some (xI (b6 + 1)), some (xI (k : Int)), some (xI ((k : Int) + (-1))), w9, w10] [] m Q)
    (h0 : ¬ sp_rt F G k → ∀ w9 w10 : Option jx_V, jx_AW 164 130 [some (xA 26 0), some (xI b1), some (xI b2), some (xI b3), some (xI b4), some (xI b5), some (xI (b6 + 0)), some (xI b7), some (xI ((k : Int) + (-1))), w9, w10] [] m Q) :
    ∀ (r c : Nat) (b9 : Int), c + r = 6 → ((b9 = 1 ∧ ∀ j : Nat, j < c → F (6 * j + k % 6) ≤ F k ∧ G (6 * (k / 6) + j) ≤ G k) ∨ (b9 = 0 ∧ ¬ sp_rt F G k)) → jx_AW 164 136 [some (xA 26 0), some (xI b1), some (xI b2), some (xI b3), some (xI b4), some (xI b5), some (xI b6), some (xI b7), some (xI (k : Int)), some (xI b9), some (xI (c : Int))] [] m Q := by
  intro r
  induction r with
  | zero =>
    intro c b9 hc h
    obtain rfl : c = 6 := by omega
    refine sg_164_136 b1 b2 b3 b4 b5 b6 b7 k b9 _ m Q ⟨fun z => by omega, fun _ => ⟨fun z => ⟨by omega, fun _ => ⟨by omega, h0 ?_ _ _⟩, fun z2 => absurd z z2⟩, fun z => ⟨by omega, fun z2 => absurd z2 z, fun _ => ⟨by omega, h1 ?_ _ _⟩⟩⟩⟩
    · rcases h with ⟨q, -⟩ | ⟨-, q⟩
      · omega
      · exact q
    · rcases h with ⟨-, q⟩ | ⟨q, -⟩
      · exact q
      · omega
  | succ r ih =>
    intro c b9 hc h
    refine sg_164_136 b1 b2 b3 b4 b5 b6 b7 k b9 c m Q ⟨fun _ => ⟨fun z => ⟨by omega, ih (c + 1) 0 (by omega) (Or.inr ⟨rfl, ?_⟩)⟩, fun z => ?_⟩, fun z => by omega⟩
    · rcases h with ⟨q, -⟩ | ⟨-, q⟩
      · omega
      · exact q
    · have hall : ∀ j : Nat, j < c → F (6 * j + k % 6) ≤ F k ∧ G (6 * (k / 6) + j) ≤ G k := by
        rcases h with ⟨-, q⟩ | ⟨q, -⟩
        · exact q
        · omega
      rw [show ((k : Int)).toNat = k by omega, show (6 * (c : Int) + (k : Int) % 6).toNat = 6 * c + k % 6 by omega, show ((k : Int) / 6 * 6 + (c : Int)).toNat = 6 * (k / 6) + c by omega, (hF k hk).1, (hF k hk).2, (hF (6 * c + k % 6) (by omega)).1, (hF (6 * (k / 6) + c) (by omega)).2]
      refine ⟨by omega, by omega, by omega, by omega, by omega, by omega, by omega, by omega, by omega, fun z2 => ⟨by omega, ih (c + 1) 0 (by omega) (Or.inr ⟨rfl, fun q => ?_⟩)⟩, fun z2 => ⟨by omega, by omega, by omega, by omega, by omega, by omega, by omega, by omega, by omega, fun z3 => ⟨by omega, ih (c + 1) 0 (by omega) (Or.inr ⟨rfl, fun q => ?_⟩)⟩, fun z3 => ⟨by omega, ih (c + 1) 1 (by omega) (Or.inl ⟨rfl, fun j hj => ?_⟩)⟩⟩⟩
      · have := (q c (by omega)).1; omega
      · have := (q c (by omega)).2; omega
      · rcases Nat.lt_or_ge j c with q | q
        · exact hall j q
        · obtain rfl : j = c := by omega
          exact ⟨by omega, by omega⟩
theorem lp_164_130 {F G : Nat → Int} {a : Int} {b1 b2 b4 b5 : Int} {m : jx_M} {Q : Int → jx_M → Prop} (hF : ∀ j : Nat, j < 36 → m 39 0 j = F j ∧ m 40 0 j = G j) (h1 : ∀ z, sp_rs F G a z → Q z m) :
    ∀ (k : Nat) (b6 b7 b8 : Int) (w9 w10 : Option jx_V), k ≤ 36 → b8 = (k : Int) - 1 → b6 = nb_ct (sp_rt F G) 36 - nb_ct (sp_rt F G) k → fs (sp_rt F G) k 36 b7 → jx_AW 164 130 [some (xA 26 0), some (xI b1), some (xI b2), some (xI a), some (xI b4), some (xI b5), some (xI b6), some (xI b7), some (xI b8), w9, w10] [] m Q := by
  intro k
  induction k with
  | zero =>
    intro b6 b7 b8 w9 w10 hk h8 h6 hf
    have hin := fs_in hf
    have e6 : b6 = nb_ct (sp_rt F G) 36 := by rw [h6]; show _ - 0 = _; omega
    exact sg_164_130 b1 b2 a b4 b5 b6 b7 b8 w9 w10 m Q ⟨fun _ => ⟨fun z => h1 _ ⟨fun _ => e6, fun q => absurd z q⟩, fun z => ⟨fun z2 => h1 _ ⟨fun q => absurd q z, fun _ => ⟨b7, hf, fun _ => rfl, fun q => absurd z2 q, fun q => absurd z2 q⟩⟩, fun z2 => ⟨fun z3 => ⟨by omega, by omega, h1 _ ⟨fun q => absurd q z, fun _ => ⟨b7, hf, fun q => absurd q z2, fun _ _ => rfl, fun _ q => absurd z3 q⟩⟩⟩, fun z3 => ⟨by omega, by omega, h1 _ ⟨fun q => absurd q z, fun _ => ⟨b7, hf, fun q => absurd q z2, fun _ q => absurd q z3, fun _ _ => rfl⟩⟩⟩⟩⟩⟩, fun z => by omega⟩
  | succ k ih =>
    intro b6 b7 b8 w9 w10 hk h8 h6 hf
    have c1 := nb_ct_in (sp_rt F G) k
    have c2 := nb_ct_in (sp_rt F G) 36
    have c3 := nb_in (sp_rt F G k)
    have e7 : nb_ct (sp_rt F G) (k + 1) = nb_ct (sp_rt F G) k + nb_c (sp_rt F G k) := rfl
    obtain rfl : b8 = (k : Int) := by omega
    have mono : ∀ j n : Nat, j ≤ n → nb_ct (sp_rt F G) j ≤ nb_ct (sp_rt F G) n := fun j n hjn => by
      induction n with
      | zero => obtain rfl : j = 0 := by omega
                exact Int.le_refl _
      | succ n ih2 =>
        rcases Nat.lt_or_ge n j with q | q
        · obtain rfl : j = n + 1 := by omega
          exact Int.le_refl _
        · have c9 := nb_in (sp_rt F G n)
          have := ih2 q
          show nb_ct (sp_rt F G) j ≤ nb_ct (sp_rt F G) n + nb_c (sp_rt F G n)
          omega
    have c4 := mono (k + 1) 36 (by omega)
    refine sg_164_130 b1 b2 a b4 b5 b6 b7 _ w9 w10 m Q ⟨fun z => by omega, fun _ => lp_164_136 (k := k) (F := F) (G := G) (by omega) (by omega) hF (fun hy w9 w10 => ih _ _ _ w9 w10 (by omega) (by omega) ?_ (fs_dy hf (by omega) hy)) (fun hy w9 w10 => ih _ _ _ w9 w10 (by omega) (by omega) ?_ (fs_dn hf hy)) 6 0 1 (by omega) (Or.inl ⟨rfl, fun j hj => by omega⟩)⟩
    · rw [nb_t hy] at e7; omega
    · rw [nb_f hy] at e7; omega
theorem lp_164 {d : jx_M} {a b : Nat} {c : Int} {m : jx_M} {Q : Int → jx_M → Prop} (hw : dt_w d) (hr : re_T m d) (hal : m 26 0 17 < 0) (ha : (a : Int) < d 1 0 0) (hb : (b : Int) < d 1 0 0) (hab : a ≠ b) (h1 : ∀ z m2, sp_rs (rs_F d a b) (rs_G d a b) c z → fms m m2 → Q z m2) :
    ∀ (r k : Nat) (m1 : jx_M) (w7 w8 w9 w10 : Option jx_V), k + r = 36 → fx (4 * a + 2) (4 * b + 2) m m1 → m1 26 0 16 = m 26 0 16 → (∀ j : Nat, j < k → m1 39 0 j = rs_F d a b j ∧ m1 40 0 j = rs_G d a b j) → jx_AW 164 39 [some (xA 26 0), some (xI (a : Int)), some (xI (b : Int)), some (xI c), some (xI (m 28 0 (4 * a + 2))), some (xI (m 28 0 (4 * b + 2))), some (xI (k : Int)), w7, w8, w9, w10] [] m1 Q := by
  have hn := hw.2.1
  intro r
  induction r with
  | zero =>
    intro k m1 w7 w8 w9 w10 hk hf h16 h
    refine sg_164_39 a b c _ _ k w7 w8 w9 w10 m1 Q ⟨fun z => by omega, fun _ => ?_⟩
    rw [show (4 * (a : Int) + 2).toNat = 4 * a + 2 by omega, show (4 * (b : Int) + 2).toNat = 4 * b + 2 by omega]
    have f0 : fms m (jx_up (jx_up m1 28 0 (4 * a + 2) (m 28 0 (4 * a + 2))) 28 0 (4 * b + 2) (m 28 0 (4 * b + 2))) := fun s i j hn' => by
      by_cases q1 : s = 28 ∧ i = 0 ∧ j = 4 * b + 2
      · obtain ⟨rfl, rfl, rfl⟩ := q1; exact up_eq
      · rw [up_ne q1]
        by_cases q2 : s = 28 ∧ i = 0 ∧ j = 4 * a + 2
        · obtain ⟨rfl, rfl, rfl⟩ := q2; exact up_eq
        · rw [up_ne q2]
          by_cases q3 : s = 26 ∧ i = 0 ∧ j = 16
          · obtain ⟨rfl, rfl, rfl⟩ := q3; exact h16
          · exact hf s i j (by omega)
    refine ⟨by omega, by omega, by omega, by omega, by omega, by omega, by omega, by omega, by omega, by omega, lp_164_130 (F := rs_F d a b) (G := rs_G d a b) (fun j hj => ?_) (fun z hz => h1 z _ hz f0) 36 0 (-4) 35 _ _ (by omega) (by omega) (by omega) fs_0⟩
    rw [up_ne (by omega), up_ne (by omega), up_ne (by omega), up_ne (by omega)]
    exact h j (by omega)
  | succ r ih =>
    intro k m1 w7 w8 w9 w10 hk hf h16 h
    have hE : dt_w (rs_D d a b k) := rs_D_w hw (by omega)
    have hru := u2_re (s := b) (k := 2) (v := 10 * ((k % 6 : Nat) : Int)) (by omega) (u2_re (s := a) (k := 2) (v := 10 * ((k / 6 : Nat) : Int)) (by omega) hr)
    refine sg_164_39 a b c _ _ k w7 w8 w9 w10 m1 Q ⟨fun _ => ?_, fun z => by omega⟩
    rw [show (4 * (a : Int) + 2).toNat = 4 * a + 2 by omega, show (4 * (b : Int) + 2).toNat = 4 * b + 2 by omega, show ((k : Int)).toNat = k by omega, show (k : Int) / 6 = ((k / 6 : Nat) : Int) by omega, show (k : Int) % 6 = ((k % 6 : Nat) : Int) by omega]
    have f0 : fx (4 * a + 2) (4 * b + 2) m (jx_up (jx_up m1 28 0 (4 * a + 2) (10 * ((k / 6 : Nat) : Int))) 28 0 (4 * b + 2) (10 * ((k % 6 : Nat) : Int))) := fun s i j hn' => by
      rw [up_ne (by omega), up_ne (by omega)]; exact hf s i j hn'
    have g0 : re_T (jx_up (jx_up m1 28 0 (4 * a + 2) (10 * ((k / 6 : Nat) : Int))) 28 0 (4 * b + 2) (10 * ((k % 6 : Nat) : Int))) (rs_D d a b k) := re_fr (fun s j hs hj => by
      by_cases q2 : s = 28 ∧ j = 4 * b + 2
      · obtain ⟨rfl, rfl⟩ := q2; rw [up_eq, up_eq]
      · rw [up_ne (j := 4 * b + 2) (by omega), up_ne (j := 4 * b + 2) (by omega)]
        by_cases q1 : s = 28 ∧ j = 4 * a + 2
        · obtain ⟨rfl, rfl⟩ := q1; rw [up_eq, up_eq]
        · rw [up_ne (by omega), up_ne (by omega)]
          by_cases q3 : s = 26 ∧ j = 16
          · obtain ⟨rfl, rfl⟩ := q3; exact h16
          · exact hf s 0 j (by omega)) hru
    have g7 : (jx_up (jx_up m1 28 0 (4 * a + 2) (10 * ((k / 6 : Nat) : Int))) 28 0 (4 * b + 2) (10 * ((k % 6 : Nat) : Int))) 26 0 17 < 0 := by rw [f0 26 0 17 (by omega)]; exact hal
    have g6 : (jx_up (jx_up m1 28 0 (4 * a + 2) (10 * ((k / 6 : Nat) : Int))) 28 0 (4 * b + 2) (10 * ((k % 6 : Nat) : Int))) 26 0 16 = m 26 0 16 := h16
    have g9 : ∀ j : Nat, j < k → (jx_up (jx_up m1 28 0 (4 * a + 2) (10 * ((k / 6 : Nat) : Int))) 28 0 (4 * b + 2) (10 * ((k % 6 : Nat) : Int))) 39 0 j = rs_F d a b j ∧ (jx_up (jx_up m1 28 0 (4 * a + 2) (10 * ((k / 6 : Nat) : Int))) 28 0 (4 * b + 2) (10 * ((k % 6 : Nat) : Int))) 40 0 j = rs_G d a b j := h
    generalize jx_up (jx_up m1 28 0 (4 * a + 2) (10 * ((k / 6 : Nat) : Int))) 28 0 (4 * b + 2) (10 * ((k % 6 : Nat) : Int)) = M at f0 g0 g7 g6 g9 ⊢
    refine ⟨by omega, by omega, by omega, by omega, by omega, by omega, by omega, by omega, by omega, by omega, by omega, by omega, by omega, by omega, by omega, by omega, cl_161r hE g0 g7 (fun m2 f2 hl => ⟨by omega, by omega, by omega, by omega, by omega, ?_⟩)⟩
    refine lp_164_82 (d := rs_D d a b k) hE (k := k) (by omega) ?_ (fun b' hb' => ?_) (fun m3 w7 f3 h3 => ih (k + 1) m3 w7 _ _ _ (by omega) (fun s i j hn' => ?_) ?_ (fun j hj => ?_)) (d 1 0 1).toNat 0 _ (by show 0 + (d 1 0 1).toNat = (d 1 0 1).toNat; omega) (fun _ _ _ _ => rfl) (by rw [up_eq]; rfl)
    · rw [up_ne (by omega), up_ne (by omega), f2 26 0 7 (by omega)]; exact g0.2.2.1
    · rw [up_ne (by omega), up_ne (by omega)]; exact hl b' hb'
    · rw [f3 s i j (by omega), up_ne (by omega), up_ne (by omega), f2 s i j (by omega)]; exact f0 s i j hn'
    · rw [f3 26 0 16 (by omega), up_ne (by omega), up_ne (by omega), f2 26 0 16 (by omega)]; exact g6
    · rcases Nat.decEq j k with q | q
      · rw [f3 39 0 j (by omega), f3 40 0 j (by omega), up_ne (by omega), up_ne (by omega), up_ne (by omega), up_ne (by omega), f2 39 0 j (by omega), f2 40 0 j (by omega)]
        exact g9 j (by omega)
      · subst q
        rw [f3 39 0 j (by omega), up_ne (by omega), up_eq, h3]
        exact ⟨rfl, rfl⟩
theorem cl_164 {d : jx_M} {a b c : Int} {m : jx_M} {Q : Int → jx_M → Prop} (hw : dt_w d) (hr : re_T m d) (hal : m 26 0 17 < 0) (h1 : ∀ z m2, (0 ≤ a ∧ a < d 1 0 0) ∧ (0 ≤ b ∧ b < d 1 0 0) ∧ a ≠ b ∧ (0 ≤ c ∧ c ≤ 2) → sp_rs (rs_F d a.toNat b.toNat) (rs_G d a.toNat b.toNat) c z → fms m m2 → Q z m2) (h0 : ¬ ((0 ≤ a ∧ a < d 1 0 0) ∧ (0 ≤ b ∧ b < d 1 0 0) ∧ a ≠ b ∧ (0 ≤ c ∧ c ≤ 2)) → Q (-1) m) : jx_Cl 164 [xA 26 0, xI a, xI b, xI c] m Q := by
  have hn := hw.2.1
  have en := hr.2.1
  have l : (0 ≤ a ∧ a < d 1 0 0) ∧ (0 ≤ b ∧ b < d 1 0 0) ∧ a ≠ b ∧ (0 ≤ c ∧ c ≤ 2) → jx_AW 164 39 [some (xA 26 0), some (xI a), some (xI b), some (xI c), some (xI (m 28 0 ((4 * a + 2).toNat))), some (xI (m 28 0 ((4 * b + 2).toNat))), some (xI 0), none, none, none, none] [] m Q := fun g => by
    have l := lp_164 (c := c) (m := m) (Q := Q) hw hr hal (a := a.toNat) (b := b.toNat) (by omega) (by omega) (by omega) (fun z m2 q f => h1 z m2 g q f) 36 0 m none none none none (by omega) (fun _ _ _ _ => rfl) rfl (fun j hj => by omega)
    rw [show ((a.toNat : Nat) : Int) = a by omega, show ((b.toNat : Nat) : Int) = b by omega, show 4 * a.toNat + 2 = (4 * a + 2).toNat by omega, show 4 * b.toNat + 2 = (4 * b + 2).toNat by omega] at l
    exact l
  refine sg_164 a b c m Q ?_
  repeat' (first | omega | exact h0 (by omega) | refine cl_130 (by omega) ?_ ?_ | refine cl_125 ?_ ?_ | exact l (by omega) | apply And.intro | intro _)
theorem pr_20 {a b c : Int} {m : jx_M} {R : Int → Int → jx_M → Prop} (hI : jv_I m) (K : ∀ z m2, jv_I m2 → fS m m2 → R z z m2) : jx_Cl 80 [xA 0 0, xI a, xI b, xI c] m (fun z1 m1 => jx_Cl 164 [xA 26 0, xI a, xI b, xI c] m1 (fun z2 m2 => R z1 z2 m2)) := by
  obtain ⟨d, e, q, hw, hC, hM⟩ := hI
  have k := fun z => jv_ask (G := R z z m) hw hC hM (fcs_r m) (fms_r m) (K z m)
  refine cl_80 hw.1 hC.1 (fun z m1 g h f1 => ?_) (fun g => cl_164 hw.1 (re_M hM) (al_M hM) (fun _ _ z => absurd z g) (fun _ => k _))
  have hM1 := jv_M_C (fcs_C f1) hM
  refine cl_164 hw.1 (re_M hM1) (al_M hM1) (fun z2 m2 _ h2 f2 => ?_) (fun z => absurd g z)
  obtain rfl : z = z2 := sp_rs_un h h2
  exact jv_ask hw hC hM f1 f2 (K z m2)
