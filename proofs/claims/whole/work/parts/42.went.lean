/-! where one went, by what was heard at windows: it alone, from every beginning -/
def dt_al (d : jx_M) (s : Nat) (v : Int) : jx_M := fun a b c => if a = 1 ∧ b = 0 ∧ c = 0 then 1 else if a = 2 ∧ b = 0 then (if c = 2 then v else d 2 s c) else if (a = 3 ∨ a = 4) ∧ b = 0 then d a s c else d a b c
theorem al_w {d : jx_M} {s : Nat} {v : Int} (hw : dt_w d) (hs : (s : Int) < d 1 0 0) (hv : 0 ≤ v ∧ v ≤ 119) : dt_w (dt_al d s v) := by
  obtain ⟨w1, w2, w3, w4, w5, w6, w7, w8⟩ := hs_of hw s hs
  obtain ⟨h1, h2, h3, h4, h5, h6, h7, h8, h9⟩ := hw
  refine ⟨h1, ?_, h3, h4, h5, h6, fun o ho => ?_, h8, h9⟩
  · show (0 : Int) ≤ 1 ∧ (1 : Int) ≤ 6; omega
  · have ho : (o : Int) < 1 := ho
    obtain rfl : o = 0 := by omega
    exact ⟨w1, w2, hv, w4, w5, w6, w7, w8⟩
theorem al_up {d : jx_M} {s : Nat} {x v : Int} : jx_up (dt_al d s x) 2 0 2 v = dt_al d s v := by
  funext a b c
  by_cases h : a = 2 ∧ b = 0 ∧ c = 2
  · obtain ⟨rfl, rfl, rfl⟩ := h
    rw [up_eq]; rfl
  · rw [up_ne h]
    unfold dt_al
    split
    · rfl
    · split
      · rw [if_neg (by omega), if_neg (by omega)]
      · rfl
theorem al_2 {d : jx_M} {s : Nat} {v : Int} (k : Nat) : dt_al d s v 2 0 k = jx_up d 2 s 2 v 2 s k := by
  by_cases h : k = 2
  · subst h; rw [up_eq]; rfl
  · rw [up_ne (by omega)]
    show (if k = 2 then v else d 2 s k) = _
    rw [if_neg h]
theorem al_pl {d : jx_M} {s : Nat} {v t : Int} : sp_pl (dt_al d s v) 0 t = sp_pl (jx_up d 2 s 2 v) s t := by
  unfold sp_pl
  rw [al_2 2, al_2 3, al_2 4]
  rfl
theorem al_re {d : jx_M} {s : Nat} {v : Int} : sp_re (dt_al d s v) 0 = sp_re (jx_up d 2 s 2 v) s := by
  unfold sp_re dt_lift
  rw [al_2 1, al_2 5]
  rfl
theorem al_he {d : jx_M} {s : Nat} {v cc t : Int} (ht : 0 ≤ t ∧ t < 120) : sp_he (dt_al d s v) cc 0 t ↔ sp_heM (jx_up d 2 s 2 v) (s : Int) cc s t := by
  unfold sp_he sp_heM sp_cry sp_cryM sp_arr
  rw [al_pl, al_re, al_2 2, al_2 3, al_2 4]
  constructor
  · rintro ⟨⟨-, h1, h2, h3, -⟩, h5⟩
    exact ⟨⟨h1, h2, h3, fun q => by omega⟩, h5⟩
  · rintro ⟨⟨h1, h2, h3, -⟩, h5⟩
    exact ⟨⟨ht, h1, h2, h3, fun q => by obtain ⟨o, ho, -⟩ := q.2; omega⟩, h5⟩
def wn_P (d : jx_M) (s : Nat) (v : Nat) : Prop := ∀ w : Nat, (w : Int) < d 1 0 2 → (sp_heM (jx_up d 2 s 2 (v : Int)) (s : Int) (d 6 w 0) s (d 6 w 1) ↔ d 6 w 2 = 1)
theorem wn_ag {d : jx_M} {s v : Nat} (hw : dt_w d) : sp_ag (dt_al d s (v : Int)) 0 (d 1 0 2).toNat ↔ wn_P d s v := by
  constructor
  · intro h w hw2
    have hww := hw.2.2.2.2.2.2.2.2 w hw2
    have x := h w (by omega)
    exact (al_he (by have := hww.2.1; omega)).symm.trans x
  · intro h w hw2
    have hww := hw.2.2.2.2.2.2.2.2 w (by omega)
    exact (al_he (by have := hww.2.1; show 0 ≤ d 6 w 1 ∧ d 6 w 1 < 120; omega)).trans (h w (by omega))
noncomputable def wn_l (P : Nat → Prop) : Nat → Int
  | 0 => -4
  | k + 1 => @ite _ (P k) (Classical.propDecidable _) (k : Int) (wn_l P k)
theorem wn_l_y {P : Nat → Prop} {k : Nat} (h : P k) : wn_l P (k + 1) = (k : Int) := if_pos h
theorem wn_l_n {P : Nat → Prop} {k : Nat} (h : ¬ P k) : wn_l P (k + 1) = wn_l P k := if_neg h
def sp_wn (P : Nat → Prop) (a z : Int) : Prop := (a = 0 → z = nb_ct P 120) ∧ (a = 1 → fs P 0 120 z) ∧ (a = 2 → z = wn_l P 120)
theorem sp_wn_un {P : Nat → Prop} {a z w : Int} (ha : 0 ≤ a ∧ a ≤ 2) (h : sp_wn P a z) (g : sp_wn P a w) : z = w := by
  rcases (by omega : a = 0 ∨ a = 1 ∨ a = 2) with q | q | q
  · rw [h.1 q, g.1 q]
  · exact fs_un (h.2.1 q) (g.2.1 q)
  · rw [h.2.2 q, g.2.2 q]
theorem lp_98 {d : jx_M} {s : Nat} {a b2 : Int} {m : jx_M} {Q : Int → jx_M → Prop} (hw : dt_w d) (hs : (s : Int) < d 1 0 0) (ha : 0 ≤ a ∧ a ≤ 2) (h1 : ∀ z m2, sp_wn (wn_P d s) a z → fcs m m2 → Q z m2) :
    ∀ (r k : Nat) (m1 : jx_M) (x b5 : Int), k + r = 120 → fcs m m1 → rc_T m1 2 (dt_al d s x) → fs (wn_P d s) 0 k b5 → jx_AW 98 26 [some (xA 11 0), some (xA 1 0), some (xI b2), some (xI a), some (xI (nb_ct (wn_P d s) k)), some (xI b5), some (xI (wn_l (wn_P d s) k)), some (xI (k : Int))] [] m1 Q := by
  intro r
  induction r with
  | zero =>
    intro k m1 x b5 hk hf hr h
    obtain rfl : k = 120 := by omega
    exact sg_98_26 0 b2 a _ b5 _ _ m1 Q ⟨fun z => by omega, fun _ => ⟨fun z => h1 _ _ ⟨fun _ => rfl, fun q => by omega, fun q => by omega⟩ hf, fun z => ⟨fun z2 => h1 _ _ ⟨fun q => by omega, fun _ => h, fun q => by omega⟩ hf, fun z2 => h1 _ _ ⟨fun q => by omega, fun q => by omega, fun _ => rfl⟩ hf⟩⟩⟩
  | succ r ih =>
    intro k m1 x b5 hk hf hr h
    have hc := nb_ct_in (wn_P d s) k
    have hin := fs_in h
    have hrk := u2_rc (s := 0) (k := 2) (v := (k : Int)) (by omega) hr
    rw [al_up] at hrk
    have hwk : dt_w (dt_al d s (k : Int)) := al_w hw hs (by omega)
    have f0 : fcs m (jx_up m1 6 (6 * 2 + 0) (4 + 2) (k : Int)) := fun a i j hn' => by rw [up_ne (by omega)]; exact hf a i j hn'
    have nx := fun b5 => ih (k + 1) _ (k : Int) b5 (by omega) f0 hrk
    refine sg_98_26 0 b2 a _ b5 _ k m1 Q ⟨fun _ => ⟨by omega, by omega, by omega, by omega, by omega, by omega, by omega, cl_99 (a := 0) (by omega) hwk hrk (by show (0 : Int) ≤ 0 ∧ (0 : Int) < 1; omega) (fun hy => ?_) (fun hy => ?_)⟩, fun z => by omega⟩
    · have hy := (wn_ag hw).mp hy
      rw [nb_ct_yes hy, wn_l_y hy] at nx
      exact ⟨fun z => by omega, fun _ => ⟨by omega, fun z => ⟨by omega, nx _ (fs_yes h z (by omega) hy)⟩, fun z => ⟨by omega, nx _ (fs_had h (by omega))⟩⟩⟩
    · have hy : ¬ wn_P d s k := fun q => hy ((wn_ag hw).mpr q)
      rw [nb_ct_no hy, wn_l_n hy] at nx
      exact ⟨fun _ => ⟨by omega, nx _ (fs_no h hy)⟩, fun z => by omega⟩
theorem cl_98 {d : jx_M} {a b : Int} {m : jx_M} {Q : Int → jx_M → Prop} (hw : dt_w d) (hr : rc_T m 0 d) (ha : 0 ≤ a ∧ a < d 1 0 0) (hb : 0 ≤ b ∧ b ≤ 2) (h1 : ∀ z m2, sp_wn (wn_P d a.toNat) b z → fcs m m2 → Q z m2) : jx_Cl 98 [xA 11 0, xA 1 0, xI a, xI b] m Q := by
  have hn := hw.2.1
  refine sg_98 0 a b m Q ⟨by omega, by omega, cl_76 (by omega) (by omega) (by omega) hw hr (fun m1 f1 r1 => ⟨by omega, by omega, by omega, by omega, by omega, by omega, by omega, by omega, ?_⟩)⟩
  have r0 := tw_rc f1 (show 0 ≠ 2 by omega) hw hr
  refine cl_77 (d := d) (s := a.toNat) (show 12 < 18 by omega) (by omega) (show 6 * 0 + a.toNat ≠ 12 by omega) (hs_of hw a.toNat (by omega)) (rs_of r0 a.toNat (by omega)) (fun m2 f2 g2 => ⟨by omega, by omega, ?_⟩)
  have hf : fcs m (jx_up m2 1 2 4 1) := fun s i j hn' => by rw [up_ne (by omega), f2 s i j (by omega)]; exact fcs_tw f1 s i j hn'
  obtain ⟨q1, q2, q3, q4, q5, q6, q7, q8, q9⟩ := r1
  have hrr : rc_T (jx_up m2 1 2 4 1) 2 (dt_al d a.toNat (d 2 a.toNat 2)) := by
    refine ⟨fun c hc => (f2 2 2 c (by omega)).trans (q1 c hc), rfl, (f2 1 2 5 (by omega)).trans q3, (f2 1 2 6 (by omega)).trans q4, (f2 1 2 7 (by omega)).trans q5, (f2 1 2 8 (by omega)).trans q6, fun o ho => ?_, fun b' hb' k hk => (f2 9 _ k (by omega)).trans (q8 b' hb' k hk), fun w hw' k hk => (f2 10 _ k (by omega)).trans (q9 w hw' k hk)⟩
    have ho : (o : Int) < 1 := ho
    obtain rfl : o = 0 := by omega
    obtain ⟨s1, s2, s3, s4, s5, s6, s7, s8, s9⟩ := g2
    exact ⟨s1, s2, s3, s4, s5, s6, s7, s8, s9⟩
  exact lp_98 hw (by omega) hb h1 120 0 _ (d 2 a.toNat 2) (-4) (by omega) hf hrr fs_0
theorem cl_97 {d : jx_M} {a b : Int} {m : jx_M} {Q : Int → jx_M → Prop} (hw : dt_w d) (hr : rc_T m 0 d) (h1 : ∀ z m2, (0 ≤ a ∧ a < d 1 0 0) ∧ (0 ≤ b ∧ b ≤ 2) → sp_wn (wn_P d a.toNat) b z → fcs m m2 → Q z m2) (h0 : ¬ ((0 ≤ a ∧ a < d 1 0 0) ∧ (0 ≤ b ∧ b ≤ 2)) → Q (-1) m) : jx_Cl 97 [xA 0 0, xI a, xI b] m Q := by
  have en := hr.2.1
  refine sg_97 a b m Q ?_
  repeat' (first | omega | exact h0 (by omega) | refine cl_19 (by omega) ?_ ?_ | refine cl_12 ?_ ?_ | exact cl_98 hw hr (by omega) (by omega) (fun z m2 q f => h1 z m2 (by omega) q f) | apply And.intro | intro _)
theorem lp_173_48 {d : jx_M} {s v : Nat} {b2 b3 b4 b5 b6 : Int} {m : jx_M} {Q : Int → jx_M → Prop} (hw : dt_w d) (hr : re_T m (jx_up d 2 s 2 (v : Int))) (hs : (s : Int) < d 1 0 0) (hv : v < 120) (hal : m 26 0 17 = (s : Int)) (hb4 : 0 ≤ b4 ∧ b4 ≤ 120)
    (k0 : ¬ wn_P d s v → ∀ w8 w9 : Option jx_V, jx_AW 173 32 [some (xA 26 0), some (xI (s : Int)), some (xI b2), some (xI b3), some (xI (b4 + 0)), some (xI b5), some (xI b6), some (xI ((v : Int) + 1)), w8, w9] [] m Q)
    (k1 : wn_P d s v → b5 < 0 → ∀ w8 w9 : Option jx_V, jx_AW 173 32 [some (xA 26 0), some (xI (s : Int)), some (xI b2), some (xI b3), some (xI (b4 + 1)), some (xI (v : Int)), some (xI (v : Int)), some (xI ((v : Int) + 1)), w8, w9] [] m Q)
    (k2 : wn_P d s v → ¬ b5 < 0 → ∀ w8 w9 : Option jx_V, jx_AW 173 32 [some (xA 26 0), some (xI (s : Int)), some (xI b2), some (xI b3), some (xI (b4 + 1)), some (xI b5), some (xI (v : Int)), some (xI ((v : Int) + 1)), w8, w9] [] m Q) :
    ∀ (r j : Nat) (b8 : Int), j + r = (d 1 0 2).toNat → ((b8 = 1 ∧ ∀ w : Nat, w < j → (sp_heM (jx_up d 2 s 2 (v : Int)) (s : Int) (d 6 w 0) s (d 6 w 1) ↔ d 6 w 2 = 1)) ∨ (b8 = 0 ∧ ¬ wn_P d s v)) → jx_AW 173 48 [some (xA 26 0), some (xI (s : Int)), some (xI b2), some (xI b3), some (xI b4), some (xI b5), some (xI b6), some (xI (v : Int)), some (xI b8), some (xI (j : Int))] [] m Q := by
  have hn := hw.2.1
  have hwi := hw.2.2.2.1
  have e9 : m 26 0 9 = d 1 0 2 := hr.2.2.2.1
  have hwk : dt_w (jx_up d 2 s 2 (v : Int)) := u2_w (by omega) (vl_22 (by omega)) hw
  intro r
  induction r with
  | zero =>
    intro j b8 hj h
    refine sg_173_48 s b2 b3 b4 b5 b6 v b8 j m Q ⟨by omega, fun z => by omega, fun _ => ?_⟩
    rcases h with ⟨rfl, h⟩ | ⟨rfl, h⟩
    · have hP : wn_P d s v := fun w hw2 => h w (by omega)
      repeat' (first | omega | exact k1 hP (by omega) _ _ | exact k2 hP (by omega) _ _ | apply And.intro | intro _)
    · repeat' (first | omega | exact k0 h _ _ | apply And.intro | intro _)
  | succ r ih =>
    intro j b8 hj h
    have hww := hw.2.2.2.2.2.2.2.2 j (by omega)
    obtain ⟨v1, v2, v3⟩ := hww
    have hnt := hr.2.2.2.2.2.2.2.2 j (show (j : Int) < d 1 0 2 by omega)
    have n0 : m 32 0 ((3 * (j : Int)).toNat) = d 6 j 0 := by rw [show (3 * (j : Int)).toNat = 3 * j + 0 by omega]; exact hnt 0 (by omega)
    have n1 : m 32 0 ((3 * (j : Int) + 1).toNat) = d 6 j 1 := by rw [show (3 * (j : Int) + 1).toNat = 3 * j + 1 by omega]; exact hnt 1 (by omega)
    have n2 : m 32 0 ((3 * (j : Int) + 2).toNat) = d 6 j 2 := by rw [show (3 * (j : Int) + 2).toNat = 3 * j + 2 by omega]; exact hnt 2 (by omega)
    refine sg_173_48 s b2 b3 b4 b5 b6 v b8 j m Q ⟨by omega, fun _ => ⟨fun z => ⟨by omega, ih (j + 1) 0 (by omega) (Or.inr ⟨rfl, ?_⟩)⟩, fun z => ?_⟩, fun z => by omega⟩
    · rcases h with ⟨q, -⟩ | ⟨-, q⟩
      · omega
      · exact q
    · have hall : ∀ w : Nat, w < j → (sp_heM (jx_up d 2 s 2 (v : Int)) (s : Int) (d 6 w 0) s (d 6 w 1) ↔ d 6 w 2 = 1) := by
        rcases h with ⟨-, q⟩ | ⟨q, -⟩
        · exact q
        · omega
      have ny : (sp_heM (jx_up d 2 s 2 (v : Int)) (s : Int) (d 6 j 0) s (d 6 j 1) ↔ d 6 j 2 = 1) → jx_AW 173 48 [some (xA 26 0), some (xI (s : Int)), some (xI b2), some (xI b3), some (xI b4), some (xI b5), some (xI b6), some (xI (v : Int)), some (xI 1), some (xI ((j : Int) + 1))] [] m Q := fun hy => ih (j + 1) 1 (by omega) (Or.inl ⟨rfl, fun w hw2 => by
        rcases Nat.lt_or_ge w j with q | q
        · exact hall w q
        · obtain rfl : w = j := by omega
          exact hy⟩)
      have nn : ¬ (sp_heM (jx_up d 2 s 2 (v : Int)) (s : Int) (d 6 j 0) s (d 6 j 1) ↔ d 6 j 2 = 1) → jx_AW 173 48 [some (xA 26 0), some (xI (s : Int)), some (xI b2), some (xI b3), some (xI b4), some (xI b5), some (xI b6), some (xI (v : Int)), some (xI 0), some (xI ((j : Int) + 1))] [] m Q := fun hy => ih (j + 1) 0 (by omega) (Or.inr ⟨rfl, fun q => hy (q j (by omega))⟩)
      rw [n0, n1]
      refine ⟨by omega, by omega, by omega, by omega, by omega, by omega, by omega, by omega, by omega, by omega, cl_146 hwk hr (show 0 ≤ (s : Int) ∧ (s : Int) < d 1 0 0 by omega) v1 (by omega) (Or.inr hal) (fun hy => ?_) (fun hy => ?_)⟩
      · rw [hal, show ((s : Int)).toNat = s by omega] at hy
        rw [n2]
        exact ⟨by omega, by omega, by omega, by omega, by omega, fun z => ⟨fun _ => ⟨by omega, ny ⟨fun _ => z, fun _ => hy⟩⟩, fun q => by omega⟩, fun z => ⟨fun q => by omega, fun _ => ⟨by omega, nn (fun q => z (q.mp hy))⟩⟩⟩
      · rw [hal, show ((s : Int)).toNat = s by omega] at hy
        rw [n2]
        exact ⟨by omega, by omega, by omega, by omega, by omega, fun z => ⟨fun q => by omega, fun _ => ⟨by omega, nn (fun q => hy (q.mpr z))⟩⟩, fun z => ⟨fun _ => ⟨by omega, ny ⟨fun q => absurd q hy, fun q => absurd q z⟩⟩, fun q => by omega⟩⟩
theorem lp_173 {d : jx_M} {s : Nat} {a : Int} {m : jx_M} {Q : Int → jx_M → Prop} (hw : dt_w d) (hr : re_T m d) (hal : m 26 0 17 = -4) (hs : (s : Int) < d 1 0 0) (ha : 0 ≤ a ∧ a ≤ 2) (h1 : ∀ z, sp_wn (wn_P d s) a z → Q z m) :
    ∀ (r k : Nat) (x b5 : Int) (w8 w9 : Option jx_V), k + r = 120 → fs (wn_P d s) 0 k b5 → jx_AW 173 32 [some (xA 26 0), some (xI (s : Int)), some (xI a), some (xI (m 28 0 (4 * s + 2))), some (xI (nb_ct (wn_P d s) k)), some (xI b5), some (xI (wn_l (wn_P d s) k)), some (xI (k : Int)), w8, w9] [] (jx_up (jx_up m 26 0 17 (s : Int)) 28 0 (4 * s + 2) x) Q := by
  have hn := hw.2.1
  intro r
  induction r with
  | zero =>
    intro k x b5 w8 w9 hk h
    obtain rfl : k = 120 := by omega
    refine sg_173_32 s a _ _ b5 _ _ w8 w9 _ Q ⟨fun z => by omega, fun _ => ?_⟩
    rw [show (4 * (s : Int) + 2).toNat = 4 * s + 2 by omega, up_comm (s := 28) (s' := 26) (by omega), up_up, up_up, show jx_up m 26 0 17 (-4) = m by rw [← hal]; exact up_self, up_self]
    exact ⟨by omega, by omega, by omega, by omega, by omega, by omega, fun z => h1 _ ⟨fun _ => rfl, fun q => by omega, fun q => by omega⟩, fun z => ⟨fun z2 => h1 _ ⟨fun q => by omega, fun _ => h, fun q => by omega⟩, fun z2 => h1 _ ⟨fun q => by omega, fun q => by omega, fun _ => rfl⟩⟩⟩
  | succ r ih =>
    intro k x b5 w8 w9 hk h
    have hc := nb_ct_in (wn_P d s) k
    have hin := fs_in h
    have hr0 : re_T (jx_up m 26 0 17 (s : Int)) d := re_fr (fun a j ha hj => up_ne (by omega)) hr
    have hrk := u2_re (s := s) (k := 2) (v := (k : Int)) (by omega) hr0
    have nx := fun b5 w8 w9 => ih (k + 1) (k : Int) b5 w8 w9 (by omega)
    refine sg_173_32 s a _ _ b5 _ k w8 w9 _ Q ⟨fun _ => ?_, fun z => by omega⟩
    rw [show (4 * (s : Int) + 2).toNat = 4 * s + 2 by omega, up_up]
    refine ⟨by omega, by omega, by omega, by omega, by omega, lp_173_48 (v := k) hw hrk hs (by omega) rfl (by omega) (fun hy w8 w9 => ?_) (fun hy z w8 w9 => ?_) (fun hy z w8 w9 => ?_) (d 1 0 2).toNat 0 1 (by omega) (Or.inl ⟨rfl, fun w hw2 => by omega⟩)⟩
    · rw [nb_ct_no hy, wn_l_n hy] at nx; rw [Int.add_zero]; exact nx _ w8 w9 (fs_no h hy)
    · rw [nb_ct_yes hy, wn_l_y hy] at nx; exact nx _ w8 w9 (fs_yes h z (by omega) hy)
    · rw [nb_ct_yes hy, wn_l_y hy] at nx; exact nx _ w8 w9 (fs_had h (by omega))
theorem cl_173 {d : jx_M} {a b : Int} {m : jx_M} {Q : Int → jx_M → Prop} (hw : dt_w d) (hr : re_T m d) (hal : m 26 0 17 = -4) (h1 : ∀ z, (0 ≤ a ∧ a < d 1 0 0) ∧ (0 ≤ b ∧ b ≤ 2) → sp_wn (wn_P d a.toNat) b z → Q z m) (h0 : ¬ ((0 ≤ a ∧ a < d 1 0 0) ∧ (0 ≤ b ∧ b ≤ 2)) → Q (-1) m) : jx_Cl 173 [xA 26 0, xI a, xI b] m Q := by
  have hn := hw.2.1
  have en := hr.2.1
  have l : (0 ≤ a ∧ a < d 1 0 0) ∧ (0 ≤ b ∧ b ≤ 2) → jx_AW 173 32 [some (xA 26 0), some (xI a), some (xI b), some (xI (m 28 0 ((4 * a + 2).toNat))), some (xI 0), some (xI (-4)), some (xI (-4)), some (xI 0), none, none] [] (jx_up m 26 0 17 a) Q := fun g => by
    have l := lp_173 (a := b) (Q := Q) (s := a.toNat) hw hr hal (by omega) (by omega) (fun z q => h1 z g q) 120 0 (m 28 0 (4 * a.toNat + 2)) (-4) none none (by omega) fs_0
    rw [show jx_up (jx_up m 26 0 17 ((a.toNat : Nat) : Int)) 28 0 (4 * a.toNat + 2) (m 28 0 (4 * a.toNat + 2)) = jx_up m 26 0 17 ((a.toNat : Nat) : Int) from up_self (m := jx_up m 26 0 17 ((a.toNat : Nat) : Int)), show ((a.toNat : Nat) : Int) = a by omega, show 4 * a.toNat + 2 = (4 * a + 2).toNat by omega] at l
    exact l
  refine sg_173 a b m Q ?_
  repeat' (first | omega | exact h0 (by omega) | refine cl_130 (by omega) ?_ ?_ | refine cl_125 ?_ ?_ | exact l (by omega) | apply And.intro | intro _)
theorem pr_26 {a b : Int} {m : jx_M} {R : Int → Int → jx_M → Prop} (hI : jv_I m) (K : ∀ z m2, jv_I m2 → fS m m2 → R z z m2) : jx_Cl 97 [xA 0 0, xI a, xI b] m (fun z1 m1 => jx_Cl 173 [xA 26 0, xI a, xI b] m1 (fun z2 m2 => R z1 z2 m2)) := by
  obtain ⟨d, e, q, hw, hC, hM⟩ := hI
  have k := fun z => jv_ask (G := R z z m) hw hC hM (fcs_r m) (fms_r m) (K z m)
  refine cl_97 hw.1 hC.1 (fun z m1 g h f1 => ?_) (fun g => cl_173 hw.1 (re_M hM) hM.1.2.2 (fun _ z => absurd z g) (fun _ => k _))
  have hM1 := jv_M_C (fcs_C f1) hM
  refine cl_173 hw.1 (re_M hM1) hM1.1.2.2 (fun z2 _ h2 => ?_) (fun z => absurd g z)
  obtain rfl : z = z2 := sp_wn_un g.2 h h2
  exact jv_ask hw hC hM f1 (fms_r _) (K z _)
