/-! simple questions, of the class and of the reference -/
theorem jb_or0 {x : Int} (h : jx_in x) : jx_ior x 0 = x := by
  show (Int32.ofInt x ||| Int32.ofInt 0).toInt = x
  rw [← jn_0]
  simp [jn_ti h]
abbrev hs_of {d : jx_M} (hw : dt_w d) := hw.2.2.2.2.2.2.1
abbrev rs_of {m d : jx_M} {t : Nat} (hr : rc_T m t d) := hr.2.2.2.2.2.2.1
theorem cl_42 {d : jx_M} {a b : Int} {m : jx_M} {Q : Int → jx_M → Prop} (hw : dt_w d) (hr : rc_T m 0 d) (h1 : (0 ≤ a ∧ a < d 1 0 0) ∧ 0 ≤ b ∧ b < 120 → Q (sp_pl d a.toNat b) m) (h0 : ¬ ((0 ≤ a ∧ a < d 1 0 0) ∧ 0 ≤ b ∧ b < 120) → Q (-1) m) : jx_Cl 42 [xA 0 0, xI a, xI b] m Q := by
  have hn := hw.2.1
  have en := hr.2.1
  refine sg_42 a b m Q ?_
  repeat' (first | omega | exact h0 (by omega) | refine cl_19 (by omega) ?_ ?_ | refine cl_21 ?_ ?_ | exact cl_43 (by omega) (hs_of hw a.toNat (by omega)) (rs_of hr a.toNat (by omega)) (by omega) (h1 (by omega)) | apply And.intro | intro _)
theorem cl_141 {d : jx_M} {a b : Int} {m : jx_M} {Q : Int → jx_M → Prop} (hw : dt_w d) (hr : re_T m d) (hal : m 26 0 17 < 0) (h1 : (0 ≤ a ∧ a < d 1 0 0) ∧ 0 ≤ b ∧ b < 120 → Q (sp_pl d a.toNat b) m) (h0 : ¬ ((0 ≤ a ∧ a < d 1 0 0) ∧ 0 ≤ b ∧ b < 120) → Q (-1) m) : jx_Cl 141 [xA 26 0, xI a, xI b] m Q := by
  have hn := hw.2.1
  have en := hr.2.1
  refine sg_141 a b m Q ?_
  repeat' (first | omega | exact h0 (by omega) | refine cl_130 (by omega) ?_ ?_ | refine cl_128 ?_ ?_ | exact cl_142 hw hr (by omega) (by omega) (by rw [sp_plA_self (Or.inl hal)]; exact h1 (by omega)) | apply And.intro | intro _)
theorem cl_44 {d : jx_M} {a : Int} {m : jx_M} {Q : Int → jx_M → Prop} (hw : dt_w d) (hr : rc_T m 0 d) (h1 : (0 ≤ a ∧ a < d 1 0 0) → Q (sp_re d a.toNat) m) (h0 : ¬ (0 ≤ a ∧ a < d 1 0 0) → Q (-1) m) : jx_Cl 44 [xA 0 0, xI a] m Q := by
  have hn := hw.2.1
  have en := hr.2.1
  have hb4 := hw.2.2.2.2.2.1
  refine sg_44 a m Q ?_
  repeat' (first | omega | exact h0 (by omega) | refine cl_19 (by omega) ?_ ?_ | (rw [hr.2.2.2.2.2.1]; exact cl_45 (by omega) (hs_of hw a.toNat (by omega)) (rs_of hr a.toNat (by omega)) hb4 (h1 (by omega))) | apply And.intro | intro _)
theorem cl_143 {d : jx_M} {a : Int} {m : jx_M} {Q : Int → jx_M → Prop} (hw : dt_w d) (hr : re_T m d) (h1 : (0 ≤ a ∧ a < d 1 0 0) → Q (sp_re d a.toNat) m) (h0 : ¬ (0 ≤ a ∧ a < d 1 0 0) → Q (-1) m) : jx_Cl 143 [xA 26 0, xI a] m Q := by
  have hn := hw.2.1
  have en := hr.2.1
  refine sg_143 a m Q ?_
  repeat' (first | omega | exact h0 (by omega) | refine cl_130 (by omega) ?_ ?_ | exact cl_144 hw hr (by omega) (h1 (by omega)) | apply And.intro | intro _)
/-- who is heard, as bits -/
noncomputable def sp_hb (d : jx_M) (cc t : Int) : Nat → Int
  | 0 => 0
  | k + 1 => @ite _ (sp_he d cc k t) (Classical.propDecidable _) (jx_ior (sp_hb d cc t k) (jx_ishl 1 k)) (sp_hb d cc t k)
theorem sp_hb_in (d : jx_M) (cc t : Int) : ∀ k : Nat, jx_in (sp_hb d cc t k)
  | 0 => by show jx_in 0; omega
  | k + 1 => by
    unfold sp_hb
    split
    · exact jn_rng _
    · exact sp_hb_in d cc t k
theorem lp_46 {d : jx_M} {a b : Int} {m : jx_M} {Q : Int → jx_M → Prop} (hw : dt_w d) (hr : rc_T m 0 d) (ha : 0 ≤ a ∧ a < 25) (hb : 0 ≤ b ∧ b < 120) (hq : Q (sp_hb d a b (d 1 0 0).toNat) m) :
    ∀ (r k : Nat), k + r = (d 1 0 0).toNat → jx_AW 46 12 [some (xA 0 0), some (xI a), some (xI b), some (xI (sp_hb d a b k)), some (xI (k : Int))] [] m Q := by
  have hn := hw.2.1
  have en := hr.2.1
  intro r
  induction r with
  | zero =>
    intro k hk
    obtain rfl : k = (d 1 0 0).toNat := by omega
    exact sg_46_12 a b _ _ m Q ⟨by omega, by omega, fun z => by omega, fun _ => hq⟩
  | succ r ih =>
    intro k hk
    have nxt := ih (k + 1) (by omega)
    unfold sp_hb at nxt
    refine sg_46_12 a b _ _ m Q ⟨by omega, by omega, fun _ => ⟨by omega, by omega, cl_47 (by omega) hw hr (by omega) (by omega) (by omega) (fun hy => ⟨fun z => by omega, fun _ => ⟨by omega, ?_⟩⟩) (fun hy => ⟨fun _ => ⟨by omega, ?_⟩, fun z => by omega⟩)⟩, fun z => by omega⟩
    · rw [if_pos (show sp_he d a k b from hy)] at nxt; exact nxt
    · rw [if_neg (show ¬ sp_he d a k b from hy)] at nxt; exact nxt
theorem cl_46 {d : jx_M} {a b : Int} {m : jx_M} {Q : Int → jx_M → Prop} (hw : dt_w d) (hr : rc_T m 0 d) (h1 : (0 ≤ a ∧ a < 25) ∧ 0 ≤ b ∧ b < 120 → Q (sp_hb d a b (d 1 0 0).toNat) m) (h0 : ¬ ((0 ≤ a ∧ a < 25) ∧ 0 ≤ b ∧ b < 120) → Q (-1) m) : jx_Cl 46 [xA 0 0, xI a, xI b] m Q := by
  have hn := hw.2.1
  refine sg_46 a b m Q ?_
  repeat' (first | omega | exact h0 (by omega) | refine cl_11 ?_ ?_ | refine cl_21 ?_ ?_ | exact lp_46 hw hr (by omega) (by omega) (h1 (by omega)) (d 1 0 0).toNat 0 (by omega) | apply And.intro | intro _)
theorem lp_145 {d : jx_M} {a b : Int} {m : jx_M} {Q : Int → jx_M → Prop} (hw : dt_w d) (hr : re_T m d) (hal : m 26 0 17 < 0) (ha : 0 ≤ a ∧ a < 25) (hb : 0 ≤ b ∧ b < 120) (hq : Q (sp_hb d a b (d 1 0 0).toNat) m) :
    ∀ (r k : Nat), k + r = (d 1 0 0).toNat → jx_AW 145 12 [some (xA 26 0), some (xI a), some (xI b), some (xI (sp_hb d a b k)), some (xI (k : Int))] [] m Q := by
  have hn := hw.2.1
  have en := hr.2.1
  intro r
  induction r with
  | zero =>
    intro k hk
    obtain rfl : k = (d 1 0 0).toNat := by omega
    exact sg_145_12 a b _ _ m Q ⟨by omega, fun z => by omega, fun _ => hq⟩
  | succ r ih =>
    intro k hk
    have nxt := ih (k + 1) (by omega)
    unfold sp_hb at nxt
    refine sg_145_12 a b _ _ m Q ⟨by omega, fun _ => ⟨by omega, cl_146 hw hr (by omega) (by omega) hb (Or.inl hal) (fun hy => ⟨fun z => by omega, fun _ => ⟨by omega, ?_⟩⟩) (fun hy => ⟨fun _ => ⟨by omega, ?_⟩, fun z => by omega⟩)⟩, fun z => by omega⟩
    · rw [if_pos (show sp_he d a k b from (sp_heM_of hal hb).mp hy)] at nxt; exact nxt
    · rw [if_neg (show ¬ sp_he d a k b from fun z => hy ((sp_heM_of hal hb).mpr z))] at nxt
      rw [jb_or0 (sp_hb_in d a b k)]
      exact nxt
theorem cl_145 {d : jx_M} {a b : Int} {m : jx_M} {Q : Int → jx_M → Prop} (hw : dt_w d) (hr : re_T m d) (hal : m 26 0 17 < 0) (h1 : (0 ≤ a ∧ a < 25) ∧ 0 ≤ b ∧ b < 120 → Q (sp_hb d a b (d 1 0 0).toNat) m) (h0 : ¬ ((0 ≤ a ∧ a < 25) ∧ 0 ≤ b ∧ b < 120) → Q (-1) m) : jx_Cl 145 [xA 26 0, xI a, xI b] m Q := by
  have hn := hw.2.1
  refine sg_145 a b m Q ?_
  repeat' (first | omega | exact h0 (by omega) | refine cl_124 ?_ ?_ | refine cl_128 ?_ ?_ | exact lp_145 hw hr hal (by omega) (by omega) (h1 (by omega)) (d 1 0 0).toNat 0 (by omega) | apply And.intro | intro _)
theorem lp_176 {d : jx_M} {a b : Int} {m : jx_M} {Q : Int → jx_M → Prop} (hw : dt_w d) (hr : re_T m d) (hal : m 26 0 17 < 0) (ha : 0 ≤ a ∧ a < d 1 0 0) (hb : 0 ≤ b ∧ b < 25) (hq : Q (sp_tm d b a.toNat) m) :
    ∀ (r k : Nat), k + r = 120 → jx_AW 176 4 [some (xA 26 0), some (xI a), some (xI b), some (xI (nb_ct (fun t => sp_he d b a.toNat t) k)), some (xI (k : Int))] [] m Q := by
  have hn := hw.2.1
  intro r
  induction r with
  | zero =>
    intro k hk
    obtain rfl : k = 120 := by omega
    refine sg_176_4 a b _ _ m Q ⟨fun z => by omega, fun _ => ?_⟩
    rw [tm_min (hs_of hw a.toNat (by omega))]
    exact hq
  | succ r ih =>
    intro k hk
    have nxt := ih (k + 1) (by omega)
    have hc := nb_ct_in (fun t => sp_he d b a.toNat t) k
    have hk2 : 0 ≤ (k : Int) ∧ (k : Int) < 120 := by omega
    refine sg_176_4 a b _ _ m Q ⟨fun _ => ⟨by omega, cl_146 hw hr (by omega) (by omega) (by omega) (Or.inl hal) (fun hy => ⟨fun z => by omega, fun _ => ⟨by omega, by omega, ?_⟩⟩) (fun hy => ⟨fun _ => ⟨by omega, by omega, ?_⟩, fun z => by omega⟩)⟩, fun z => by omega⟩
    · rw [nb_ct_yes (P := fun t => sp_he d b a.toNat t) (n := k) ((sp_heM_of hal hk2).mp hy)] at nxt; exact nxt
    · rw [nb_ct_no (P := fun t => sp_he d b a.toNat t) (n := k) (fun z => hy ((sp_heM_of hal hk2).mpr z))] at nxt; rw [Int.add_zero]; exact nxt
theorem cl_176 {d : jx_M} {a b : Int} {m : jx_M} {Q : Int → jx_M → Prop} (hw : dt_w d) (hr : re_T m d) (hal : m 26 0 17 < 0) (ha : 0 ≤ a ∧ a < d 1 0 0) (hb : 0 ≤ b ∧ b < 25) (hq : Q (sp_tm d b a.toNat) m) : jx_Cl 176 [xA 26 0, xI a, xI b] m Q :=
  sg_176 a b m Q (lp_176 hw hr hal ha hb hq 120 0 (by omega))
theorem lp_169_9 {d : jx_M} {a : Int} {t : Nat} {m : jx_M} {Q : Int → jx_M → Prop} (hw : dt_w d) (hr : re_T m d) (hal : m 26 0 17 < 0) (ha : 0 ≤ a ∧ a < 25) (ht : t < 120) (b2 : Int) (hb2 : 0 ≤ b2 ∧ b2 ≤ 6 * 120)
    (K : ∀ w : Option jx_V, jx_AW 169 4 [some (xA 26 0), some (xI a), some (xI (b2 + nb_ct (fun s => sp_he d a s t) (d 1 0 0).toNat)), some (xI ((t : Int) + 1)), w] [] m Q) :
    ∀ (r k : Nat), k + r = (d 1 0 0).toNat → jx_AW 169 9 [some (xA 26 0), some (xI a), some (xI (b2 + nb_ct (fun s => sp_he d a s t) k)), some (xI (t : Int)), some (xI (k : Int))] [] m Q := by
  have hs := hw.2.1
  have en := hr.2.1
  intro r
  induction r with
  | zero =>
    intro k hk
    obtain rfl : k = (d 1 0 0).toNat := by omega
    exact sg_169_9 a _ _ _ m Q ⟨by omega, fun h => by omega, fun _ => ⟨by omega, K _⟩⟩
  | succ r ih =>
    intro k hk
    have nxt := ih (k + 1) (by omega)
    have hc := nb_ct_in (fun s => sp_he d a s t) k
    refine sg_169_9 a _ _ _ m Q ⟨by omega, fun _ => ⟨by omega, cl_146 hw hr (by omega) (by omega) (by omega) (Or.inl hal) (fun hy => ⟨fun z => by omega, fun _ => ⟨by omega, by omega, ?_⟩⟩) (fun hy => ⟨fun _ => ⟨by omega, by omega, ?_⟩, fun z => by omega⟩)⟩, fun h => by omega⟩
    · rw [nb_ct_yes (P := fun s => sp_he d a s t) (n := k) ((sp_heM_of hal (by omega)).mp hy), ← Int.add_assoc] at nxt; exact nxt
    · rw [nb_ct_no (P := fun s => sp_he d a s t) (n := k) (fun z => hy ((sp_heM_of hal (by omega)).mpr z))] at nxt; rw [Int.add_zero]; exact nxt
theorem lp_169 {d : jx_M} {a : Int} {m : jx_M} {Q : Int → jx_M → Prop} (hw : dt_w d) (hr : re_T m d) (hal : m 26 0 17 < 0) (ha : 0 ≤ a ∧ a < 25) (hq : Q (sp_loud d a) m) :
    ∀ (r t : Nat) (w : Option jx_V), t + r = 120 → jx_AW 169 4 [some (xA 26 0), some (xI a), some (xI (dt_sum (fun t => nb_ct (fun s => sp_he d a s t) (d 1 0 0).toNat) t)), some (xI (t : Int)), w] [] m Q := by
  have hs := hw.2.1
  intro r
  induction r with
  | zero =>
    intro t w ht
    obtain rfl : t = 120 := by omega
    refine sg_169_4 a _ _ w m Q ⟨fun h => by omega, fun _ => ?_⟩
    rw [loud_min hw]
    exact hq
  | succ r ih =>
    intro t w ht
    have hc := dt_sum_in (f := fun t => nb_ct (fun s => sp_he d a s t) (d 1 0 0).toNat) (b := 6) t (fun i _ => by have := nb_ct_in (fun s => sp_he d a s i) (d 1 0 0).toNat; show 0 ≤ nb_ct (fun s => sp_he d a s i) (d 1 0 0).toNat ∧ nb_ct (fun s => sp_he d a s i) (d 1 0 0).toNat ≤ 6; omega)
    refine sg_169_4 a _ _ w m Q ⟨fun _ => ?_, fun h => by omega⟩
    have l := lp_169_9 (Q := Q) hw hr hal ha (t := t) (by omega) (dt_sum (fun t => nb_ct (fun s => sp_he d a s t) (d 1 0 0).toNat) t) (by omega) (fun w => ih (t + 1) w (by omega)) (d 1 0 0).toNat 0 (by omega)
    rw [show nb_ct (fun s => sp_he d a s t) 0 = 0 from rfl, Int.add_zero] at l
    exact l
theorem cl_169 {d : jx_M} {a : Int} {m : jx_M} {Q : Int → jx_M → Prop} (hw : dt_w d) (hr : re_T m d) (hal : m 26 0 17 < 0) (ha : 0 ≤ a ∧ a < 25) (hq : Q (sp_loud d a) m) : jx_Cl 169 [xA 26 0, xI a] m Q :=
  sg_169 a m Q (lp_169 hw hr hal ha hq 120 0 none (by omega))
theorem cl_89 {d : jx_M} {a : Int} {m : jx_M} {Q : Int → jx_M → Prop} (hw : dt_w d) (hr : rc_T m 0 d) (h1 : (0 ≤ a ∧ a < 25) → Q (sp_loud d a) m) (h0 : ¬ (0 ≤ a ∧ a < 25) → Q (-1) m) : jx_Cl 89 [xA 0 0, xI a] m Q := by
  refine sg_89 a m Q ?_
  repeat' (first | omega | exact h0 (by omega) | refine cl_11 ?_ ?_ | exact cl_90 (by omega) hw hr (by omega) (h1 (by omega)) | apply And.intro | intro _)
theorem cl_168 {d : jx_M} {a : Int} {m : jx_M} {Q : Int → jx_M → Prop} (hw : dt_w d) (hr : re_T m d) (hal : m 26 0 17 < 0) (h1 : (0 ≤ a ∧ a < 25) → Q (sp_loud d a) m) (h0 : ¬ (0 ≤ a ∧ a < 25) → Q (-1) m) : jx_Cl 168 [xA 26 0, xI a] m Q := by
  refine sg_168 a m Q ?_
  repeat' (first | omega | exact h0 (by omega) | refine cl_124 ?_ ?_ | exact cl_169 hw hr hal (by omega) (h1 (by omega)) | apply And.intro | intro _)
theorem cl_103 {d : jx_M} {a b : Int} {m : jx_M} {Q : Int → jx_M → Prop} (hw : dt_w d) (hr : rc_T m 0 d) (h1 : (0 ≤ a ∧ a < d 1 0 0) ∧ (0 ≤ b ∧ b < 25) → Q (sp_tm d b a.toNat) m) (h0 : ¬ ((0 ≤ a ∧ a < d 1 0 0) ∧ (0 ≤ b ∧ b < 25)) → Q (-1) m) : jx_Cl 103 [xA 0 0, xI a, xI b] m Q := by
  have en := hr.2.1
  refine sg_103 a b m Q ?_
  repeat' (first | omega | exact h0 (by omega) | refine cl_19 (by omega) ?_ ?_ | refine cl_11 ?_ ?_ | exact cl_91 (by omega) hw hr (by omega) (by omega) (h1 (by omega)) | apply And.intro | intro _)
theorem cl_177 {d : jx_M} {a b : Int} {m : jx_M} {Q : Int → jx_M → Prop} (hw : dt_w d) (hr : re_T m d) (hal : m 26 0 17 < 0) (h1 : (0 ≤ a ∧ a < d 1 0 0) ∧ (0 ≤ b ∧ b < 25) → Q (sp_tm d b a.toNat) m) (h0 : ¬ ((0 ≤ a ∧ a < d 1 0 0) ∧ (0 ≤ b ∧ b < 25)) → Q (-1) m) : jx_Cl 177 [xA 26 0, xI a, xI b] m Q := by
  have hn := hw.2.1
  have en := hr.2.1
  refine sg_177 a b m Q ?_
  repeat' (first | omega | exact h0 (by omega) | refine cl_130 (by omega) ?_ ?_ | refine cl_124 ?_ ?_ | exact cl_176 hw hr hal (by omega) (by omega) (h1 (by omega)) | apply And.intro | intro _)
/-- what told answers -/
def sp_tl (d : jx_M) (s : Nat) (b c z : Int) : Prop := (b = 0 ∧ c < 0 → z = d 2 s 4) ∧ (b = 0 ∧ ¬ c < 0 ∧ c < d 2 s 4 → z = d 3 s c.toNat) ∧ (b = 0 ∧ ¬ c < 0 ∧ ¬ c < d 2 s 4 → z = -4) ∧ (¬ b = 0 ∧ c < 0 → z = d 2 s 5) ∧ (¬ b = 0 ∧ ¬ c < 0 ∧ c < d 2 s 5 → z = d 4 s c.toNat) ∧ (¬ b = 0 ∧ ¬ c < 0 ∧ ¬ c < d 2 s 5 → z = -4)
theorem cl_41 {d : jx_M} {a b c : Int} {m : jx_M} {Q : Int → jx_M → Prop} (hw : dt_w d) (hr : rc_T m 0 d) (h1 : ∀ z, (0 ≤ a ∧ a < d 1 0 0) ∧ (0 ≤ b ∧ b ≤ 1) ∧ -1 ≤ c → sp_tl d a.toNat b c z → Q z m) (h0 : ¬ ((0 ≤ a ∧ a < d 1 0 0) ∧ (0 ≤ b ∧ b ≤ 1) ∧ -1 ≤ c) → Q (-1) m) : jx_Cl 41 [xA 0 0, xI a, xI b, xI c] m Q := by
  have hn := hw.2.1
  have en := hr.2.1
  unfold sp_tl at h1
  refine sg_41 a b c m Q ⟨by omega, by omega, cl_19 (by omega) (fun g => ?_) (fun g => ⟨fun _ => h0 (by omega), fun z => by omega⟩)⟩
  obtain ⟨r1, r2, r3, r4, r5, r6, r7, r8, r9⟩ := rs_of hr a.toNat (by omega)
  obtain ⟨w1, w2, w3, w4, w5, w6, w7, w8⟩ := hs_of hw a.toNat (by omega)
  have e8 := r8 c.toNat
  have e9 := r9 c.toNat
  repeat' (first | omega | exact h0 (by omega) | refine cl_12 ?_ ?_ | exact h1 _ (by omega) (by omega) | apply And.intro | intro _)
theorem cl_140 {d : jx_M} {a b c : Int} {m : jx_M} {Q : Int → jx_M → Prop} (hw : dt_w d) (hr : rm_T m d) (h1 : ∀ z, (0 ≤ a ∧ a < d 1 0 0) ∧ (0 ≤ b ∧ b ≤ 1) ∧ -1 ≤ c → sp_tl d a.toNat b c z → Q z m) (h0 : ¬ ((0 ≤ a ∧ a < d 1 0 0) ∧ (0 ≤ b ∧ b ≤ 1) ∧ -1 ≤ c) → Q (-1) m) : jx_Cl 140 [xA 26 0, xI a, xI b, xI c] m Q := by
  have hn := hw.2.1
  have en := hr.2.1
  unfold sp_tl at h1
  refine sg_140 a b c m Q ⟨by omega, cl_130 (by omega) (fun g => ?_) (fun g => ⟨fun _ => h0 (by omega), fun z => by omega⟩)⟩
  obtain ⟨r1, r2, r3, r4, r5⟩ := hr.2.2.2.2.2.2.1 a.toNat (by omega)
  obtain ⟨w1, w2, w3, w4, w5, w6, w7, w8⟩ := hs_of hw a.toNat (by omega)
  have e4 : (c.toNat : Int) < d 2 a.toNat 4 → 0 ≤ c → m 29 0 ((13 * a + 1 + c).toNat) = d 3 a.toNat c.toNat := fun h h' => by rw [← r4 c.toNat h]; congr 1; omega
  have e5 : (c.toNat : Int) < d 2 a.toNat 5 → 0 ≤ c → m 30 0 ((7 * a + 1 + c).toNat) = d 4 a.toNat c.toNat := fun h h' => by rw [← r5 c.toNat h]; congr 1; omega
  rw [show 13 * a.toNat = (13 * a).toNat by omega] at r2
  rw [show 7 * a.toNat = (7 * a).toNat by omega] at r3
  repeat' (first | omega | exact h0 (by omega) | refine cl_125 ?_ ?_ | exact h1 _ (by omega) (by omega) | apply And.intro | intro _)
