/-! the fewest bylaws; what one costs; the least noise at which one is not heard -/
def qk (P : Nat → Prop) (k : Nat) (z : Int) : Prop := (z = -4 ∧ ∀ j : Nat, j < k → ¬ P j) ∨ (∃ i : Nat, i < k ∧ z = (i : Int) ∧ P i ∧ ∀ j : Nat, j < k → P j → sp_bc i < sp_bc j ∨ (sp_bc i = sp_bc j ∧ i ≤ j))
theorem qk_un {P : Nat → Prop} {k : Nat} {z w : Int} (h : qk P k z) (g : qk P k w) : z = w := by
  rcases h with ⟨h0, h⟩ | ⟨i, h1, h2, h3, h4⟩
  · rcases g with ⟨g0, g⟩ | ⟨i, g1, g2, g3, g4⟩
    · omega
    · exact absurd g3 (h i g1)
  · rcases g with ⟨g0, g⟩ | ⟨j, g1, g2, g3, g4⟩
    · exact absurd h3 (g i h1)
    · have a := h4 j g1 g3
      have b := g4 i h1 h3
      omega
theorem qk_in {P : Nat → Prop} {k : Nat} {z : Int} (h : qk P k z) : z = -4 ∨ (0 ≤ z ∧ z < k) := by
  rcases h with ⟨h, -⟩ | ⟨i, h1, h2, -⟩
  · exact Or.inl h
  · right; omega
theorem qk_new {P : Nat → Prop} {k : Nat} {z : Int} (h : qk P k z) (hz : z < 0) (hP : P k) : qk P (k + 1) (k : Int) := by
  rcases h with ⟨-, h⟩ | ⟨i, h1, h2, -⟩
  · refine Or.inr ⟨k, by omega, rfl, hP, fun j hj hP => ?_⟩
    rcases Nat.lt_or_ge j k with q | q
    · exact absurd hP (h j q)
    · obtain rfl : j = k := by omega
      right; exact ⟨rfl, Nat.le_refl _⟩
  · omega
theorem qk_less {P : Nat → Prop} {k i : Nat} (h : qk P k (i : Int)) (hb : sp_bc k < sp_bc i) (hP : P k) : qk P (k + 1) (k : Int) := by
  rcases h with ⟨h, -⟩ | ⟨i', h1, h2, h3, h4⟩
  · omega
  · obtain rfl : i = i' := by omega
    refine Or.inr ⟨k, by omega, rfl, hP, fun j hj hP => ?_⟩
    rcases Nat.lt_or_ge j k with q | q
    · have := h4 j q hP; omega
    · obtain rfl : j = k := by omega
      right; exact ⟨rfl, Nat.le_refl _⟩
theorem qk_no {P : Nat → Prop} {k : Nat} {z : Int} (h : qk P k z) (hP : ¬ P k) : qk P (k + 1) z := by
  rcases h with ⟨h0, h⟩ | ⟨i, h1, h2, h3, h4⟩
  · refine Or.inl ⟨h0, fun j hj => ?_⟩
    rcases Nat.lt_or_ge j k with q | q
    · exact h j q
    · obtain rfl : j = k := by omega
      exact hP
  · refine Or.inr ⟨i, by omega, h2, h3, fun j hj hPj => ?_⟩
    rcases Nat.lt_or_ge j k with q | q
    · exact h4 j q hPj
    · obtain rfl : j = k := by omega
      exact absurd hPj hP
theorem qk_stay {P : Nat → Prop} {k i : Nat} (h : qk P k (i : Int)) (hb : ¬ sp_bc k < sp_bc i) : qk P (k + 1) (i : Int) := by
  rcases h with ⟨h, -⟩ | ⟨i', h1, h2, h3, h4⟩
  · omega
  · obtain rfl : i = i' := by omega
    refine Or.inr ⟨i, by omega, rfl, h3, fun j hj hPj => ?_⟩
    rcases Nat.lt_or_ge j k with q | q
    · exact h4 j q hPj
    · obtain rfl : j = k := by omega
      omega
theorem sp_bc_in (y : Int) : 0 ≤ sp_bc y ∧ sp_bc y ≤ 4 := by
  unfold sp_bc
  omega
def qt_P (d : jx_M) (c mo : Int) (k : Nat) : Prop := sp_loud (jx_up d 1 0 4 (k : Int)) c ≤ mo
theorem lp_93_11 {d : jx_M} {c mo : Int} {n : Nat} {m : jx_M} {Q : Int → jx_M → Prop} (hw : dt_w d) (hc : 0 ≤ c ∧ c < 25) (hn : n ≤ 4) (hlt : ∀ j : Nat, j < 16 → sp_bc j < n → ¬ qt_P d c mo j) (h1 : ∀ z m2, qk (qt_P d c mo) 16 z → fcs m m2 → Q z m2)
    (K : ∀ (m2 : jx_M) (x : Int) (w : Option jx_V), fcs m m2 → rc_T m2 2 (jx_up d 1 0 4 x) → (∀ j : Nat, j < 16 → sp_bc j < (n : Int) + 1 → ¬ qt_P d c mo j) → jx_AW 93 6 [some (xA 11 0), some (xA 1 0), some (xI c), some (xI mo), some (xI ((n : Int) + 1)), w] [] m2 Q) :
    ∀ (r k : Nat) (m1 : jx_M) (x : Int), k + r = 16 → fcs m m1 → rc_T m1 2 (jx_up d 1 0 4 x) → (∀ j : Nat, j < k → sp_bc j = n → ¬ qt_P d c mo j) → jx_AW 93 11 [some (xA 11 0), some (xA 1 0), some (xI c), some (xI mo), some (xI (n : Int)), some (xI (k : Int))] [] m1 Q := by
  intro r
  induction r with
  | zero =>
    intro k m1 x hk hf hr h
    refine sg_93_11 0 c mo n k m1 Q ⟨fun z => by omega, fun _ => ⟨by omega, K m1 x _ hf hr (fun j hj hb => ?_)⟩⟩
    by_cases q : sp_bc j < n
    · exact hlt j hj q
    · exact h j (by omega) (by omega)
  | succ r ih =>
    intro k m1 x hk hf hr h
    have hrk := u14_rc (v := (k : Int)) hr
    rw [up_up] at hrk
    have hwk : dt_w (jx_up d 1 0 4 (k : Int)) := u14_w (by omega) hw
    have f0 : fcs m (jx_up m1 1 2 8 (k : Int)) := fun s i j hn' => by rw [up_ne (by omega)]; exact hf s i j hn'
    have nx : ∀ m2 x, fcs m m2 → rc_T m2 2 (jx_up d 1 0 4 x) → (sp_bc k = n → ¬ qt_P d c mo k) → jx_AW 93 11 [some (xA 11 0), some (xA 1 0), some (xI c), some (xI mo), some (xI (n : Int)), some (xI ((k : Int) + 1))] [] m2 Q := fun m2 x f2 r2 hz => ih (k + 1) m2 x (by omega) f2 r2 (fun j hj hb => by
      rcases Nat.lt_or_ge j k with q | q
      · exact h j q hb
      · obtain rfl : j = k := by omega
        exact hz hb)
    refine sg_93_11 0 c mo n k m1 Q ⟨fun _ => cl_59 (by omega) ⟨fun hb => ⟨by omega, by omega, by omega, by omega, cl_90 (by omega) hwk hrk (by omega) ⟨fun hl => ⟨by omega, nx _ _ f0 hrk (fun _ q => ?_)⟩, fun hl => h1 _ _ (Or.inr ⟨k, by omega, rfl, ?_, fun j hj hPj => ?_⟩) f0⟩⟩, fun hb => ⟨by omega, nx m1 x hf hr (fun q => absurd q hb)⟩⟩, fun z => by omega⟩
    · have q : sp_loud (jx_up d 1 0 4 (k : Int)) c ≤ mo := q
      omega
    · show sp_loud (jx_up d 1 0 4 (k : Int)) c ≤ mo
      omega
    · have a := hlt j hj
      have b := h j
      by_cases q : sp_bc j < n
      · exact absurd hPj (a q)
      · by_cases q2 : sp_bc j = n
        · by_cases q3 : j < k
          · exact absurd hPj (b q3 q2)
          · right; omega
        · left; omega
theorem lp_93 {d : jx_M} {c mo : Int} {m : jx_M} {Q : Int → jx_M → Prop} (hw : dt_w d) (hc : 0 ≤ c ∧ c < 25) (h1 : ∀ z m2, qk (qt_P d c mo) 16 z → fcs m m2 → Q z m2) :
    ∀ (r n : Nat) (m1 : jx_M) (x : Int) (w : Option jx_V), n + r = 5 → fcs m m1 → rc_T m1 2 (jx_up d 1 0 4 x) → (∀ j : Nat, j < 16 → sp_bc j < n → ¬ qt_P d c mo j) → jx_AW 93 6 [some (xA 11 0), some (xA 1 0), some (xI c), some (xI mo), some (xI (n : Int)), w] [] m1 Q := by
  intro r
  induction r with
  | zero =>
    intro n m1 x w hn hf hr h
    refine sg_93_6 0 c mo n w m1 Q ⟨fun _ => h1 _ _ (Or.inl ⟨rfl, fun j hj => h j hj ?_⟩) hf, fun z => by omega⟩
    have := sp_bc_in j
    omega
  | succ r ih =>
    intro n m1 x w hn hf hr h
    exact sg_93_6 0 c mo n w m1 Q ⟨fun z => by omega, fun _ => lp_93_11 hw hc (by omega) h h1 (fun m2 x w f2 r2 h2 => ih (n + 1) m2 x w (by omega) f2 r2 h2) 16 0 m1 x (by omega) hf hr (fun j hj => by omega)⟩
theorem cl_92 {d : jx_M} {a b : Int} {m : jx_M} {Q : Int → jx_M → Prop} (hw : dt_w d) (hr : rc_T m 0 d) (h1 : ∀ z m2, (0 ≤ a ∧ a < 25) ∧ (0 ≤ b ∧ b ≤ 999) → qk (qt_P d a b) 16 z → fcs m m2 → Q z m2) (h0 : ¬ ((0 ≤ a ∧ a < 25) ∧ (0 ≤ b ∧ b ≤ 999)) → Q (-1) m) : jx_Cl 92 [xA 0 0, xI a, xI b] m Q := by
  have e : jx_up d 1 0 4 (d 1 0 4) = d := up_self
  have l : (0 ≤ a ∧ a < 25) ∧ (0 ≤ b ∧ b ≤ 999) → jx_Cl 93 [xA 11 0, xA 1 0, xI a, xI b] m Q := fun g =>
    sg_93 0 a b m Q ⟨by omega, by omega, cl_76 (by omega) (by omega) (by omega) hw hr (fun m1 f1 r1 => lp_93 hw g.1 (fun z m2 q f => h1 z m2 g q f) 5 0 m1 (d 1 0 4) none (by omega) (fcs_tw f1) (by rw [e]; exact r1) (fun j _ hb => by have := sp_bc_in j; omega))⟩
  refine sg_92 a b m Q ?_
  repeat' (first | omega | exact h0 (by omega) | refine cl_11 ?_ ?_ | refine cl_12 ?_ ?_ | exact l (by omega) | apply And.intro | intro _)
theorem lp_170 {d : jx_M} {c mo : Int} {m : jx_M} {Q : Int → jx_M → Prop} (hw : dt_w d) (hr : re_T m d) (hal : m 26 0 17 < 0) (hc : 0 ≤ c ∧ c < 25) (h1 : ∀ z, qk (qt_P d c mo) 16 z → Q z m) :
    ∀ (r k : Nat) (x b4 : Int) (w6 : Option jx_V), k + r = 16 → qk (qt_P d c mo) k b4 → jx_AW 170 18 [some (xA 26 0), some (xI c), some (xI mo), some (xI (m 26 0 6)), some (xI b4), some (xI (k : Int)), w6] [] (jx_up m 26 0 6 x) Q := by
  intro r
  induction r with
  | zero =>
    intro k x b4 w6 hk h
    obtain rfl : k = 16 := by omega
    refine sg_170_18 c mo _ b4 _ w6 _ Q ⟨fun z => by omega, fun _ => ⟨by omega, ?_⟩⟩
    rw [up_up, up_self]
    exact h1 _ h
  | succ r ih =>
    intro k x b4 w6 hk h
    have hin := qk_in h
    have hrk := u14_re (v := (k : Int)) hr
    have hwk : dt_w (jx_up d 1 0 4 (k : Int)) := u14_w (by omega) hw
    have hak : jx_up m 26 0 6 (k : Int) 26 0 17 < 0 := hal
    have nx := fun b4 w => ih (k + 1) (k : Int) b4 w (by omega)
    have eP : qt_P d c mo k = (sp_loud (jx_up d 1 0 4 (k : Int)) c ≤ mo) := rfl
    refine sg_170_18 c mo _ b4 k w6 _ Q ⟨fun _ => ?_, fun z => by omega⟩
    rw [up_up]
    refine ⟨by omega, fun hz => ⟨fun z => by omega, fun _ => ⟨by omega, cl_169 hwk hrk hak hc ⟨fun hl => ⟨by omega, nx b4 _ (qk_no h (by rw [eP]; omega))⟩, fun hl => ⟨by omega, nx _ _ (qk_new h hz (by rw [eP]; omega))⟩⟩⟩⟩, fun hz => ?_⟩
    obtain ⟨i, rfl⟩ : ∃ i : Nat, b4 = (i : Int) := ⟨b4.toNat, by omega⟩
    refine cl_154 (by omega) (cl_154 (by omega) ⟨fun hb => ⟨fun z => by omega, fun _ => ⟨by omega, cl_169 hwk hrk hak hc ⟨fun hl => ⟨by omega, nx _ _ (qk_no h (by rw [eP]; omega))⟩, fun hl => ⟨by omega, nx _ _ (qk_less h hb (by rw [eP]; omega))⟩⟩⟩⟩, fun hb => ⟨fun _ => ⟨by omega, nx _ _ (qk_stay h hb)⟩, fun z => by omega⟩⟩)
theorem cl_170 {d : jx_M} {a b : Int} {m : jx_M} {Q : Int → jx_M → Prop} (hw : dt_w d) (hr : re_T m d) (hal : m 26 0 17 < 0) (h1 : ∀ z, (0 ≤ a ∧ a < 25) ∧ (0 ≤ b ∧ b ≤ 999) → qk (qt_P d a b) 16 z → Q z m) (h0 : ¬ ((0 ≤ a ∧ a < 25) ∧ (0 ≤ b ∧ b ≤ 999)) → Q (-1) m) : jx_Cl 170 [xA 26 0, xI a, xI b] m Q := by
  have e : jx_up m 26 0 6 (m 26 0 6) = m := up_self
  have l : (0 ≤ a ∧ a < 25) ∧ (0 ≤ b ∧ b ≤ 999) → jx_AW 170 18 [some (xA 26 0), some (xI a), some (xI b), some (xI (m 26 0 6)), some (xI (-4)), some (xI 0), none] [] m Q := fun g => by
    have l := lp_170 (mo := b) (Q := Q) hw hr hal g.1 (fun z q => h1 z g q) 16 0 (m 26 0 6) (-4) none (by omega) (Or.inl ⟨rfl, fun j hj => by omega⟩)
    rw [e] at l
    exact l
  refine sg_170 a b m Q ?_
  repeat' (first | omega | exact h0 (by omega) | refine cl_124 ?_ ?_ | refine cl_125 ?_ ?_ | exact l (by omega) | apply And.intro | intro _)
theorem pr_23 {a b : Int} {m : jx_M} {R : Int → Int → jx_M → Prop} (hI : jv_I m) (K : ∀ z m2, jv_I m2 → fS m m2 → R z z m2) : jx_Cl 92 [xA 0 0, xI a, xI b] m (fun z1 m1 => jx_Cl 170 [xA 26 0, xI a, xI b] m1 (fun z2 m2 => R z1 z2 m2)) := by
  obtain ⟨d, e, q, hw, hC, hM⟩ := hI
  have k := fun z => jv_ask (G := R z z m) hw hC hM (fcs_r m) (fms_r m) (K z m)
  refine cl_92 hw.1 hC.1 (fun z m1 g h f1 => ?_) (fun g => cl_170 hw.1 (re_M hM) (al_M hM) (fun _ z => absurd z g) (fun _ => k _))
  have hM1 := jv_M_C (fcs_C f1) hM
  refine cl_170 hw.1 (re_M hM1) (al_M hM1) (fun z2 _ h2 => ?_) (fun z => absurd g z)
  obtain rfl : z = z2 := qk_un h h2
  exact jv_ask hw hC hM f1 (fms_r _) (K z _)
-- costs
theorem jb_orb {y b : Int} (h0 : 0 ≤ y ∧ y ≤ 15) (hb : 0 ≤ b ∧ b ≤ 3) : 0 ≤ jx_ior y (jx_ishl 1 b) ∧ jx_ior y (jx_ishl 1 b) ≤ 15 := by
  have key : ∀ (n : Fin 16) (k : Fin 4), 0 ≤ jx_ior (n.val : Int) (jx_ishl 1 (k.val : Int)) ∧ jx_ior (n.val : Int) (jx_ishl 1 (k.val : Int)) ≤ 15 := by decide +kernel
  obtain ⟨n, rfl⟩ : ∃ n : Nat, y = (n : Int) := ⟨y.toNat, by omega⟩
  obtain ⟨k, rfl⟩ : ∃ k : Nat, b = (k : Int) := ⟨b.toNat, by omega⟩
  exact key ⟨n, by omega⟩ ⟨k, by omega⟩
noncomputable def sp_co (d : jx_M) (b s : Int) : Int := sp_br d s - sp_br (jx_up d 1 0 4 (jx_ior (d 1 0 4) (jx_ishl 1 b))) s
theorem cl_95 {d : jx_M} {a b : Int} {m : jx_M} {Q : Int → jx_M → Prop} (hw : dt_w d) (hr : rc_T m 0 d) (ha : 0 ≤ a ∧ a ≤ 3) (h1 : ∀ m2, fcs m m2 → Q (sp_co d a b) m2) : jx_Cl 95 [xA 11 0, xA 1 0, xI a, xI b] m Q := by
  have hb4 := hw.2.2.2.2.2.1
  have hwk : dt_w (jx_up d 1 0 4 (jx_ior (d 1 0 4) (jx_ishl 1 a))) := u14_w (jb_orb hb4 ha) hw
  have i1 := sp_br_in hw b
  have i2 := sp_br_in hwk b
  refine sg_95 0 a b m Q ⟨by omega, by omega, cl_76 (by omega) (by omega) (by omega) hw hr (fun m1 f1 r1 => ⟨by omega, by omega, by omega, cl_63 (by omega) (by omega) hw r1 (fun m2 f2 ok => ⟨by omega, by omega, cl_70 (by omega) hw ok ?_⟩)⟩)⟩
  have r2 := dy_fr_rc f2 r1
  have e8 := r2.2.2.2.2.2.1
  have r3 := u14_rc (v := jx_ior (d 1 0 4) (jx_ishl 1 a)) r2
  rw [e8]
  refine ⟨by omega, by omega, by omega, by omega, by omega, by omega, cl_63 (by omega) (by omega) hwk r3 (fun m4 f4 ok4 => ⟨by omega, by omega, cl_70 (by omega) hwk ok4 ⟨by omega, h1 _ (fun s i j hn => ?_)⟩⟩)⟩
  rw [f4 s i j (by omega), up_ne (by omega), f2 s i j (by omega)]
  exact fcs_tw f1 s i j hn
theorem cl_94 {d : jx_M} {a b : Int} {m : jx_M} {Q : Int → jx_M → Prop} (hw : dt_w d) (hr : rc_T m 0 d) (h1 : ∀ m2, (0 ≤ a ∧ a < 4) ∧ (0 ≤ b ∧ b < d 1 0 0) → fcs m m2 → Q (sp_co d a b) m2) (h0 : ¬ ((0 ≤ a ∧ a < 4) ∧ (0 ≤ b ∧ b < d 1 0 0)) → Q (-100001) m) : jx_Cl 94 [xA 0 0, xI a, xI b] m Q := by
  have en := hr.2.1
  refine sg_94 a b m Q ?_
  repeat' (first | omega | exact h0 (by omega) | refine cl_57 ?_ ?_ | refine cl_19 (by omega) ?_ ?_ | exact cl_95 hw hr (by omega) (fun m2 f2 => h1 m2 (by omega) f2) | apply And.intro | intro _)
theorem cl_171 {d : jx_M} {a b : Int} {m : jx_M} {Q : Int → jx_M → Prop} (hw : dt_w d) (hr : re_T m d) (hal : m 26 0 17 < 0) (h1 : ∀ m2, (0 ≤ a ∧ a < 4) ∧ (0 ≤ b ∧ b < d 1 0 0) → fms m m2 → Q (sp_co d a b) m2) (h0 : ¬ ((0 ≤ a ∧ a < 4) ∧ (0 ≤ b ∧ b < d 1 0 0)) → Q (-100001) m) : jx_Cl 171 [xA 26 0, xI a, xI b] m Q := by
  have hn := hw.2.1
  have en := hr.2.1
  have hb4 := hw.2.2.2.2.2.1
  have l : (0 ≤ a ∧ a < 4) ∧ (0 ≤ b ∧ b < d 1 0 0) → jx_Cl 161 [xA 26 0, xI b] m (fun z3 m3 => ((0 < 1) ∧ ((0 < 1) ∧ ((0 < 1) ∧ jx_Cl 161 [xA 26 0, xI b] (jx_up m3 26 0 6 (jx_ior (m3 26 0 6) (jx_ishl 1 a))) (fun z4 m4 => ((0 < 1) ∧ ((jx_in (z3 - z4)) ∧ Q (z3 - z4) (jx_up m4 26 0 6 (m 26 0 6))))))))) := fun g => by
    have hwk : dt_w (jx_up d 1 0 4 (jx_ior (d 1 0 4) (jx_ishl 1 a))) := u14_w (jb_orb hb4 (by omega)) hw
    have i1 := sp_br_in hw b
    have i2 := sp_br_in hwk b
    refine cl_161 hw hr hal (fun m3 f3 => ⟨by omega, by omega, by omega, ?_⟩)
    have r3 := lf_fr_re f3 hr
    have e6 := r3.2.2.2.2.2.1
    rw [e6]
    refine cl_161 hwk (u14_re r3) (show m3 26 0 17 < 0 by rw [f3 26 0 17 (by omega)]; exact hal) (fun m4 f4 => ⟨by omega, by omega, h1 _ g (fun s i j hn' => ?_)⟩)
    by_cases q : s = 26 ∧ i = 0 ∧ j = 6
    · obtain ⟨rfl, rfl, rfl⟩ := q; exact up_eq
    · rw [up_ne q, f4 s i j (by omega), up_ne q]
      exact f3 s i j (by omega)
  refine sg_171 a b m Q ?_
  repeat' (first | omega | exact h0 (by omega) | refine cl_125 ?_ ?_ | refine cl_130 (by omega) ?_ ?_ | exact l (by omega) | apply And.intro | intro _)
theorem pr_24 {a b : Int} {m : jx_M} {R : Int → Int → jx_M → Prop} (hI : jv_I m) (K : ∀ z m2, jv_I m2 → fS m m2 → R z z m2) : jx_Cl 94 [xA 0 0, xI a, xI b] m (fun z1 m1 => jx_Cl 171 [xA 26 0, xI a, xI b] m1 (fun z2 m2 => R z1 z2 m2)) := by
  obtain ⟨d, e, q, hw, hC, hM⟩ := hI
  have k := fun z => jv_ask (G := R z z m) hw hC hM (fcs_r m) (fms_r m) (K z m)
  refine cl_94 hw.1 hC.1 (fun m1 g f1 => ?_) (fun g => cl_171 hw.1 (re_M hM) (al_M hM) (fun _ z => absurd z g) (fun _ => k _))
  have hM1 := jv_M_C (fcs_C f1) hM
  exact cl_171 hw.1 (re_M hM1) (al_M hM1) (fun m2 _ f2 => jv_ask hw hC hM f1 f2 (K _ _)) (fun z => absurd g z)
-- dies
def di_P (d : jx_M) (s : Nat) (c : Int) (v : Nat) : Prop := sp_tm (jx_up d 0 0 c.toNat (v : Int)) c s = 0
theorem lp_102 {d : jx_M} {a c : Int} {m : jx_M} {Q : Int → jx_M → Prop} (hw : dt_w d) (ha : 0 ≤ a ∧ a < d 1 0 0) (hc : 0 ≤ c ∧ c < 25) (h1 : ∀ z m2, fs (di_P d a.toNat c) 0 10 z → fcs m m2 → Q z m2) :
    ∀ (r k : Nat) (m1 : jx_M) (x : Int), k + r = 10 → fcs m m1 → rc_T m1 2 (jx_up d 0 0 c.toNat x) → (∀ j : Nat, j < k → ¬ di_P d a.toNat c j) → jx_AW 102 6 [some (xA 11 0), some (xA 1 0), some (xI a), some (xI c), some (xI (k : Int))] [] m1 Q := by
  intro r
  induction r with
  | zero =>
    intro k m1 x hk hf hr h
    exact sg_102_6 0 a c k m1 Q ⟨fun _ => h1 _ _ (Or.inl ⟨rfl, fun j _ hj => h j (by omega)⟩) hf, fun z => by omega⟩
  | succ r ih =>
    intro k m1 x hk hf hr h
    have hrk := u0_rc (c := c.toNat) (v := (k : Int)) hr
    rw [up_up] at hrk
    have hwk : dt_w (jx_up d 0 0 c.toNat (k : Int)) := u0_w (by omega) hw
    have f0 : fcs m (jx_up m1 2 2 c.toNat (k : Int)) := fun s i j hn' => by rw [up_ne (by omega)]; exact hf s i j hn'
    refine sg_102_6 0 a c k m1 Q ⟨fun z => by omega, fun _ => ⟨by omega, by omega, by omega, by omega, by omega, by omega, cl_91 (by omega) hwk hrk ha (by omega) ⟨fun hz => h1 _ _ (Or.inr ⟨k, by omega, by omega, rfl, hz, fun j _ hj => h j hj⟩) f0, fun hz => ⟨by omega, ih (k + 1) _ _ (by omega) f0 hrk (fun j hj => ?_)⟩⟩⟩⟩
    rcases Nat.lt_or_ge j k with q | q
    · exact h j q
    · obtain rfl : j = k := by omega
      exact hz
theorem cl_101 {d : jx_M} {a b : Int} {m : jx_M} {Q : Int → jx_M → Prop} (hw : dt_w d) (hr : rc_T m 0 d) (h1 : ∀ z m2, (0 ≤ a ∧ a < d 1 0 0) ∧ (0 ≤ b ∧ b < 25) → fs (di_P d a.toNat b) 0 10 z → fcs m m2 → Q z m2) (h0 : ¬ ((0 ≤ a ∧ a < d 1 0 0) ∧ (0 ≤ b ∧ b < 25)) → Q (-1) m) : jx_Cl 101 [xA 0 0, xI a, xI b] m Q := by
  have en := hr.2.1
  have e : jx_up d 0 0 b.toNat (d 0 0 b.toNat) = d := up_self
  have l : (0 ≤ a ∧ a < d 1 0 0) ∧ (0 ≤ b ∧ b < 25) → jx_Cl 102 [xA 11 0, xA 1 0, xI a, xI b] m Q := fun g =>
    sg_102 0 a b m Q ⟨by omega, by omega, cl_76 (by omega) (by omega) (by omega) hw hr (fun m1 f1 r1 => lp_102 hw g.1 g.2 (fun z m2 q f => h1 z m2 g q f) 10 0 m1 (d 0 0 b.toNat) (by omega) (fcs_tw f1) (by rw [e]; exact r1) (fun j hj => by omega))⟩
  refine sg_101 a b m Q ?_
  repeat' (first | omega | exact h0 (by omega) | refine cl_19 (by omega) ?_ ?_ | refine cl_11 ?_ ?_ | exact l (by omega) | apply And.intro | intro _)
theorem lp_175 {d : jx_M} {a c : Int} {m : jx_M} {Q : Int → jx_M → Prop} (hw : dt_w d) (hr : re_T m d) (hal : m 26 0 17 < 0) (ha : 0 ≤ a ∧ a < d 1 0 0) (hc : 0 ≤ c ∧ c < 25) (h1 : ∀ z, fs (di_P d a.toNat c) 0 10 z → Q z m) :
    ∀ (k : Nat) (x b4 b5 : Int), k ≤ 10 → b5 = (k : Int) - 1 → fs (di_P d a.toNat c) k 10 b4 → jx_AW 175 18 [some (xA 26 0), some (xI a), some (xI c), some (xI (m 27 0 c.toNat)), some (xI b4), some (xI b5)] [] (jx_up m 27 0 c.toNat x) Q := by
  intro k
  induction k with
  | zero =>
    intro x b4 b5 hk h5 h
    refine sg_175_18 a c _ b4 b5 _ Q ⟨fun _ => ⟨by omega, by omega, by omega, ?_⟩, fun z => by omega⟩
    rw [up_up, up_self]
    exact h1 _ h
  | succ k ih =>
    intro x b4 b5 hk h5 h
    obtain rfl : b5 = (k : Int) := by omega
    have hrk := u0_re (c := c.toNat) (v := (k : Int)) hr
    have hwk : dt_w (jx_up d 0 0 c.toNat (k : Int)) := u0_w (by omega) hw
    refine sg_175_18 a c _ b4 _ _ Q ⟨fun z => by omega, fun _ => ?_⟩
    rw [up_up]
    exact ⟨by omega, by omega, by omega, by omega, cl_176 hwk hrk hal ha hc ⟨fun hz => ⟨by omega, ih _ _ _ (by omega) (by omega) (fs_dy h (by omega) hz)⟩, fun hz => ⟨by omega, ih _ _ _ (by omega) (by omega) (fs_dn h hz)⟩⟩⟩
theorem cl_175 {d : jx_M} {a b : Int} {m : jx_M} {Q : Int → jx_M → Prop} (hw : dt_w d) (hr : re_T m d) (hal : m 26 0 17 < 0) (h1 : ∀ z, (0 ≤ a ∧ a < d 1 0 0) ∧ (0 ≤ b ∧ b < 25) → fs (di_P d a.toNat b) 0 10 z → Q z m) (h0 : ¬ ((0 ≤ a ∧ a < d 1 0 0) ∧ (0 ≤ b ∧ b < 25)) → Q (-1) m) : jx_Cl 175 [xA 26 0, xI a, xI b] m Q := by
  have hn := hw.2.1
  have en := hr.2.1
  have e : jx_up m 27 0 b.toNat (m 27 0 b.toNat) = m := up_self
  have l : (0 ≤ a ∧ a < d 1 0 0) ∧ (0 ≤ b ∧ b < 25) → jx_AW 175 18 [some (xA 26 0), some (xI a), some (xI b), some (xI (m 27 0 b.toNat)), some (xI (-4)), some (xI 9)] [] m Q := fun g => by
    have l := lp_175 (Q := Q) hw hr hal g.1 g.2 (fun z q => h1 z g q) 10 (m 27 0 b.toNat) (-4) 9 (by omega) (by omega) fs_0
    rw [e] at l
    exact l
  refine sg_175 a b m Q ?_
  repeat' (first | omega | exact h0 (by omega) | refine cl_130 (by omega) ?_ ?_ | refine cl_124 ?_ ?_ | exact l (by omega) | apply And.intro | intro _)
theorem pr_28 {a b : Int} {m : jx_M} {R : Int → Int → jx_M → Prop} (hI : jv_I m) (K : ∀ z m2, jv_I m2 → fS m m2 → R z z m2) : jx_Cl 101 [xA 0 0, xI a, xI b] m (fun z1 m1 => jx_Cl 175 [xA 26 0, xI a, xI b] m1 (fun z2 m2 => R z1 z2 m2)) := by
  obtain ⟨d, e, q, hw, hC, hM⟩ := hI
  have k := fun z => jv_ask (G := R z z m) hw hC hM (fcs_r m) (fms_r m) (K z m)
  refine cl_101 hw.1 hC.1 (fun z m1 g h f1 => ?_) (fun g => cl_175 hw.1 (re_M hM) (al_M hM) (fun _ z => absurd z g) (fun _ => k _))
  have hM1 := jv_M_C (fcs_C f1) hM
  refine cl_175 hw.1 (re_M hM1) (al_M hM1) (fun z2 _ h2 => ?_) (fun z => absurd g z)
  obtain rfl : z = z2 := fs_un h h2
  exact jv_ask hw hC hM f1 (fms_r _) (K z _)
