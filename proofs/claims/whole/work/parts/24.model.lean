/-! the reference: who cries, who is heard. A description d in effect: the corners of the one that is turned are read from the end -/
def re_T (m : jx_M) (d : jx_M) : Prop := (∀ c, c < 25 → m 27 0 c = d 0 0 c) ∧ m 26 0 1 = d 1 0 0 ∧ m 26 0 7 = d 1 0 1 ∧ m 26 0 9 = d 1 0 2 ∧ m 26 0 5 = d 1 0 3 ∧ m 26 0 6 = d 1 0 4 ∧
  (∀ s : Nat, (s : Int) < d 1 0 0 → (∀ k, k < 4 → m 28 0 (4 * s + k) = d 2 s k) ∧ m 29 0 (13 * s) = d 2 s 4 ∧ m 30 0 (7 * s) = d 2 s 5 ∧ (∀ i : Nat, (i : Int) < d 2 s 4 → (m 26 0 16 = (s : Int) → m 29 0 (13 * s + 1 + ((d 2 s 4).toNat - 1 - i)) = d 3 s i) ∧ (¬ m 26 0 16 = (s : Int) → m 29 0 (13 * s + 1 + i) = d 3 s i)) ∧ (∀ i : Nat, (i : Int) < d 2 s 5 → m 30 0 (7 * s + 1 + i) = d 4 s i)) ∧
  (∀ b : Nat, (b : Int) < d 1 0 1 → ∀ k, k < 4 → m 31 0 (4 * b + k) = d 5 b k) ∧ (∀ w : Nat, (w : Int) < d 1 0 2 → ∀ k, k < 3 → m 32 0 (3 * w + k) = d 6 w k)
theorem re_of {m d : jx_M} (h : rm_T m d) (ht : m 26 0 16 = -4) : re_T m d := by
  obtain ⟨h1, h2, h3, h4, h5, h6, h7, h8, h9⟩ := h
  refine ⟨h1, h2, h3, h4, h5, h6, fun s hs => ?_, h8, h9⟩
  obtain ⟨a, b, c, e, f⟩ := h7 s hs
  exact ⟨a, b, c, fun i hi => ⟨fun q => by omega, fun _ => e i hi⟩, f⟩
theorem jb_lcmp (x y : Int) : (jx_lcmp x y < 0 ↔ x < y) ∧ (0 < jx_lcmp x y ↔ y < x) := by
  unfold jx_lcmp
  split
  · omega
  · split <;> omega
theorem cl_125 {a b c : Int} {m : jx_M} {Q : Int → jx_M → Prop} (h1 : b ≤ a ∧ a ≤ c → Q 1 m) (h0 : ¬ (b ≤ a ∧ a ≤ c) → Q 0 m) : jx_Cl 125 [xL a, xL b, xL c] m Q := by
  have e1 := jb_lcmp a b
  have e2 := jb_lcmp a c
  exact sg_125 a b c m Q ⟨fun h => ⟨by omega, h0 (by omega)⟩, fun h => ⟨fun h2 => ⟨by omega, h0 (by omega)⟩, fun h2 => ⟨by omega, h1 (by omega)⟩⟩⟩
theorem cl_124 {a : Int} {m : jx_M} {Q : Int → jx_M → Prop} (h1 : 0 ≤ a ∧ a ≤ 24 → Q 1 m) (h0 : ¬ (0 ≤ a ∧ a ≤ 24) → Q 0 m) : jx_Cl 124 [xI a] m Q :=
  sg_124 a m Q (cl_125 (fun h => ⟨by omega, h1 h⟩) (fun h => ⟨by omega, h0 h⟩))
theorem cl_128 {a : Int} {m : jx_M} {Q : Int → jx_M → Prop} (h1 : 0 ≤ a ∧ a ≤ 119 → Q 1 m) (h0 : ¬ (0 ≤ a ∧ a ≤ 119) → Q 0 m) : jx_Cl 128 [xI a] m Q :=
  sg_128 a m Q (cl_125 (fun h => ⟨by omega, h1 h⟩) (fun h => ⟨by omega, h0 h⟩))
theorem cl_183 {a : Int} {m : jx_M} {Q : Int → jx_M → Prop} (h1 : 0 ≤ a ∧ a ≤ 3 → Q 1 m) (h0 : ¬ (0 ≤ a ∧ a ≤ 3) → Q 0 m) : jx_Cl 183 [xI a] m Q :=
  sg_183 a m Q (cl_125 (fun h => ⟨by omega, h1 h⟩) (fun h => ⟨by omega, h0 h⟩))
theorem cl_184 {a : Int} {m : jx_M} {Q : Int → jx_M → Prop} (h1 : 0 ≤ a ∧ a ≤ 2 → Q 1 m) (h0 : ¬ (0 ≤ a ∧ a ≤ 2) → Q 0 m) : jx_Cl 184 [xI a] m Q :=
  sg_184 a m Q (cl_125 (fun h => ⟨by omega, h1 h⟩) (fun h => ⟨by omega, h0 h⟩))
theorem cl_130 {a : Int} {m : jx_M} {Q : Int → jx_M → Prop} (hr : 0 ≤ m 26 0 1 ∧ m 26 0 1 ≤ 6) (h1 : 0 ≤ a ∧ a < m 26 0 1 → Q 1 m) (h0 : ¬ (0 ≤ a ∧ a < m 26 0 1) → Q 0 m) : jx_Cl 130 [xA 26 0, xI a] m Q :=
  sg_130 a m Q ⟨by omega, by omega, cl_125 (fun h => ⟨by omega, h1 (by omega)⟩) (fun h => ⟨by omega, h0 (by omega)⟩)⟩
theorem cl_138 {a b : Int} {m : jx_M} {Q : Int → jx_M → Prop} (ha : 0 ≤ a ∧ a < 25) (hb : 0 ≤ b ∧ b < 25) (hq : Q (sp_far a b) m) : jx_Cl 138 [xI a, xI b] m Q := by
  have e : ∀ z, z = sp_far a b → Q z m := fun z hz => by rw [hz]; exact hq
  unfold sp_far at e
  refine sg_138 a b m Q ⟨by omega, by omega, by omega, by omega, by omega, by omega, fun h => ⟨by omega, fun h2 => ⟨by omega, by omega, e _ (by omega)⟩, fun h2 => ⟨by omega, e _ (by omega)⟩⟩, fun h => ⟨fun h2 => ⟨by omega, by omega, e _ (by omega)⟩, fun h2 => ⟨by omega, e _ (by omega)⟩⟩⟩
theorem sp_far_sym (a b : Int) : sp_far a b = sp_far b a := by
  unfold sp_far
  omega
/-- where one is, if the others are there at all -/
def sp_plA (d : jx_M) (al : Int) (s : Nat) (t : Int) : Int := if 0 ≤ al ∧ ¬ al = (s : Int) then -4 else sp_pl d s t
theorem cl_142 {d : jx_M} {a b : Int} {m : jx_M} {Q : Int → jx_M → Prop} (hw : dt_w d) (hr : re_T m d) (ha : 0 ≤ a ∧ a < d 1 0 0) (hb : 0 ≤ b ∧ b < 120) (hq : Q (sp_plA d (m 26 0 17) a.toNat b) m) : jx_Cl 142 [xA 26 0, xI a, xI b] m Q := by
  have hs := hw.2.1
  have hws := hw.2.2.2.2.2.2.1 a.toNat (by omega)
  obtain ⟨r1, r2, r3, r4, r5⟩ := hr.2.2.2.2.2.2.1 a.toNat (by omega)
  obtain ⟨w1, w2, w3, w4, w5, w6, w7, w8⟩ := hws
  have ea : ((a.toNat : Nat) : Int) = a := by omega
  have e2 : m 28 0 ((4 * a + 2).toNat) = d 2 a.toNat 2 := by rw [← r1 2 (by omega)]; congr 1; omega
  have e3 : m 28 0 ((4 * a + 3).toNat) = d 2 a.toNat 3 := by rw [← r1 3 (by omega)]; congr 1; omega
  have e4 : m 29 0 ((13 * a).toNat) = d 2 a.toNat 4 := by rw [← r2]; congr 1; omega
  unfold sp_plA at hq
  unfold sp_pl at hq
  rw [ea] at hq r4
  refine sg_142 a b m Q ?_
  rw [e2, e3, e4]
  refine ⟨by omega, by omega, by omega, by omega, by omega, by omega, by omega, by omega, by omega, by omega, fun h => ⟨fun _ => ?_, fun h2 => by omega⟩, fun h => ⟨by omega, by omega, by omega, by omega, by omega, by omega, ?_⟩⟩
  · rw [if_pos h] at hq
    split at hq <;> exact hq
  · have hk := jb_div (g := b - d 2 a.toNat 2) (p := d 2 a.toNat 3) (by omega) (by omega)
    rw [if_neg h] at hq
    generalize (b - d 2 a.toNat 2) / d 2 a.toNat 3 = k at hk hq ⊢
    refine ⟨fun h2 => by omega, fun h2 => ⟨fun h3 => ⟨by omega, fun h4 => ?_, fun h4 => ⟨by omega, fun h5 => ?_, fun h5 => ?_⟩⟩, fun h3 => ?_⟩⟩
    · rw [if_neg (by omega), if_pos h3] at hq
      refine ⟨by omega, by omega, by omega, by omega, fun h6 => ⟨by omega, by omega, by omega, by omega, by omega, ?_⟩, fun h6 => ⟨by omega, by omega, by omega, ?_⟩⟩
      · rw [← (r4 k.toNat (by omega)).1 h6] at hq
        rw [show (13 * a + 1 + (d 2 a.toNat 4 - 1 - k)).toNat = 13 * a.toNat + 1 + ((d 2 a.toNat 4).toNat - 1 - k.toNat) by omega]
        exact hq
      · rw [← (r4 k.toNat (by omega)).2 h6] at hq
        rw [show (13 * a + 1 + k).toNat = 13 * a.toNat + 1 + k.toNat by omega]
        exact hq
    · rw [if_neg (fun q => q.2 h5), if_pos h3] at hq
      refine ⟨by omega, by omega, by omega, by omega, fun h6 => ⟨by omega, by omega, by omega, by omega, by omega, ?_⟩, fun h6 => ⟨by omega, by omega, by omega, ?_⟩⟩
      · rw [← (r4 k.toNat (by omega)).1 h6] at hq
        rw [show (13 * a + 1 + (d 2 a.toNat 4 - 1 - k)).toNat = 13 * a.toNat + 1 + ((d 2 a.toNat 4).toNat - 1 - k.toNat) by omega]
        exact hq
      · rw [← (r4 k.toNat (by omega)).2 h6] at hq
        rw [show (13 * a + 1 + k).toNat = 13 * a.toNat + 1 + k.toNat by omega]
        exact hq
    · rw [if_pos ⟨by omega, h5⟩] at hq; exact hq
    · rw [if_neg h3, ite_self] at hq
      exact hq
theorem lp_144 {d : jx_M} {a : Int} {m : jx_M} {Q : Int → jx_M → Prop} (hw : dt_w d) (hr : re_T m d) (ha : 0 ≤ a ∧ a < d 1 0 0) (hq : Q (sp_re d a.toNat) m) :
    ∀ (n k : Nat), k + n = (d 2 a.toNat 5).toNat → jx_AW 144 4 [some (xA 26 0), some (xI a), some (xI (dt_sum (d 4 a.toNat) k)), some (xI ((k : Int) + 1))] [] m Q := by
  have hs := hw.2.1
  have hws := hw.2.2.2.2.2.2.1 a.toNat (by omega)
  have hl := dt_lift_in hws
  obtain ⟨r1, r2, r3, r4, r5⟩ := hr.2.2.2.2.2.2.1 a.toNat (by omega)
  obtain ⟨w1, w2, w3, w4, w5, w6, w7, w8⟩ := hws
  have hb4 := hw.2.2.2.2.2.1
  obtain ⟨b1, b2, b3, b4⟩ := jb_and hb4.1 hb4.2
  have e1 : m 28 0 ((4 * a + 1).toNat) = d 2 a.toNat 1 := by rw [← r1 1 (by omega)]; congr 1; omega
  have e5 : m 30 0 ((7 * a).toNat) = d 2 a.toNat 5 := by rw [← r3]; congr 1; omega
  intro n
  induction n with
  | zero =>
    intro k hk
    have hk : k = (d 2 a.toNat 5).toNat := by omega
    have hsum := dt_sum_in (f := d 4 a.toNat) (b := 9) k (fun i hi => w8 i (by omega))
    refine sg_144_4 a _ ((k : Int) + 1) m Q ?_
    rw [e5, e1, hr.2.2.2.2.2.1, b3]
    have hl9 : dt_sum (d 4 a.toNat) k / d 2 a.toNat 5 / 3 = dt_lift d a.toNat := by rw [hk]; rfl
    have h3 : 0 ≤ dt_sum (d 4 a.toNat) k / d 2 a.toNat 5 := Int.ediv_nonneg hsum.1 (by omega)
    rw [hl9]
    unfold sp_re at hq
    refine ⟨by omega, by omega, by omega, by omega, fun h => ⟨by omega, by omega, by omega, by omega, by omega, by omega, by omega, by omega, by omega, by omega, by omega, by omega, by omega, fun h2 => ⟨fun h4 => ?_, fun h4 => ?_⟩, fun h2 => ?_⟩, fun h => by omega⟩
    · split at h2
      · rename_i q; rw [if_pos ⟨q, h4⟩] at hq; exact hq
      · omega
    · rw [if_neg (fun q => h4 q.2)] at hq; exact hq
    · split at h2
      · omega
      · rename_i q; rw [if_neg (fun z => q z.1)] at hq; exact hq
  | succ n ih =>
    intro k hk
    have hsum := dt_sum_in (f := d 4 a.toNat) (b := 9) k (fun i hi => w8 i (by omega))
    have hv := w8 k (by omega)
    have ev : m 30 0 ((7 * a + ((k : Int) + 1)).toNat) = d 4 a.toNat k := by rw [← r5 k (by omega)]; congr 1; omega
    have nxt := ih (k + 1) (by omega)
    refine sg_144_4 a _ ((k : Int) + 1) m Q ?_
    rw [e5, ev]
    refine ⟨by omega, by omega, by omega, by omega, fun h => by omega, fun h => ⟨by omega, by omega, by omega, by omega, by omega, by omega, by omega, ?_⟩⟩
    exact nxt
theorem cl_144 {d : jx_M} {a : Int} {m : jx_M} {Q : Int → jx_M → Prop} (hw : dt_w d) (hr : re_T m d) (ha : 0 ≤ a ∧ a < d 1 0 0) (hq : Q (sp_re d a.toNat) m) : jx_Cl 144 [xA 26 0, xI a] m Q :=
  sg_144 a m Q (lp_144 hw hr ha hq _ 0 (Nat.zero_add _))
/-- a cry, where all others are away if one is alone -/
def sp_cryM (d : jx_M) (al : Int) (s : Nat) (t : Int) : Prop := sp_arr d s t ∧ ¬ (d 1 0 4 % 2 = 1 ∧ 60 ≤ t) ∧ ¬ ((d 1 0 4 / 2) % 2 = 1 ∧ d 0 0 (sp_pl d s t).toNat = 0) ∧ ¬ ((d 1 0 4 / 8) % 2 = 1 ∧ al < 0 ∧ sp_crowd d s t)
theorem sp_cryM_of {d : jx_M} {al : Int} {s : Nat} {t : Int} (hal : al < 0) (ht : 0 ≤ t ∧ t < 120) : sp_cryM d al s t ↔ sp_cry d s t := by
  unfold sp_cryM sp_cry
  constructor
  · rintro ⟨h1, h2, h3, h4⟩
    exact ⟨ht, h1, h2, h3, fun q => h4 ⟨q.1, hal, q.2⟩⟩
  · rintro ⟨_, h1, h2, h3, h4⟩
    exact ⟨h1, h2, h3, fun q => h4 ⟨q.1, q.2.2⟩⟩
theorem sp_pl_arr {d : jx_M} {s : Nat} (hw : dt_wS d s) {t : Int} : sp_arr d s t ↔ 0 ≤ sp_pl d s t ∧ (t - d 2 s 2) % d 2 s 3 = 0 := by
  constructor
  · intro h; exact ⟨(sp_arr_pl hw h).1, h.2.1⟩
  · rintro ⟨h1, h2⟩
    unfold sp_pl at h1
    unfold sp_arr
    split at h1
    · omega
    · split at h1
      · exact ⟨by omega, h2, by assumption⟩
      · omega
theorem sp_plA_self {d : jx_M} {al : Int} {s : Nat} {t : Int} (h : al < 0 ∨ al = (s : Int)) : sp_plA d al s t = sp_pl d s t := by
  unfold sp_plA
  rw [if_neg (by omega)]
theorem lp_147 {d : jx_M} {a b : Int} {m : jx_M} {Q : Int → jx_M → Prop} {G : Prop} (hw : dt_w d) (hr : re_T m d) (ha : 0 ≤ a ∧ a < d 1 0 0) (hb : 0 ≤ b ∧ b < 120) (hal : m 26 0 17 < 0 ∨ m 26 0 17 = a) (hp : 0 ≤ sp_pl d a.toNat b)
    (h1 : G ∧ ¬ ((d 1 0 4 / 8) % 2 = 1 ∧ m 26 0 17 < 0 ∧ sp_crowd d a.toNat b) → Q 1 m) (h0 : ¬ (G ∧ ¬ ((d 1 0 4 / 8) % 2 = 1 ∧ m 26 0 17 < 0 ∧ sp_crowd d a.toNat b)) → Q 0 m) :
    ∀ (n k : Nat) (w : Option jx_V) (b4 : Int), k + n = a.toNat → ((b4 = 1 ∧ G ∧ ∀ o : Nat, o < k → ¬ (m 26 0 17 < 0 ∧ sp_cr d a.toNat o b)) ∨ (b4 = 0 ∧ ¬ (G ∧ ∀ o : Nat, o < k → ¬ (m 26 0 17 < 0 ∧ sp_cr d a.toNat o b))) ) → (0 < k → (d 1 0 4 / 8) % 2 = 1) →
      jx_AW 147 53 [some (xA 26 0), some (xI a), some (xI b), some (xI (sp_pl d a.toNat b)), some (xI b4), some (xI (k : Int)), w] [] m Q := by
  have hs := hw.2.1
  have hb4 := hw.2.2.2.2.2.1
  obtain ⟨y1, y2, y3, y4⟩ := jb_and hb4.1 hb4.2
  have hwa := hw.2.2.2.2.2.2.1 a.toNat (by omega)
  obtain ⟨q1, -⟩ := hr.2.2.2.2.2.2.1 a.toNat (by omega)
  have ea : m 28 0 ((4 * a).toNat) = d 2 a.toNat 0 := by rw [← q1 0 (by omega)]; congr 1; omega
  -- the end of the loop
  have fin : ∀ (k : Nat) (b4 : Int), (k = a.toNat ∨ ¬ (d 1 0 4 / 8) % 2 = 1) → ((b4 = 1 ∧ G ∧ ∀ o : Nat, o < k → ¬ (m 26 0 17 < 0 ∧ sp_cr d a.toNat o b)) ∨ (b4 = 0 ∧ ¬ (G ∧ ∀ o : Nat, o < k → ¬ (m 26 0 17 < 0 ∧ sp_cr d a.toNat o b)))) → (0 < k → (d 1 0 4 / 8) % 2 = 1) → (b4 = 0 ∨ b4 = 1) ∧ Q b4 m := by
    intro k b4 hk hc hk0
    rcases hc with ⟨rfl, hg, hno⟩ | ⟨rfl, hno⟩
    · refine ⟨Or.inr rfl, h1 ⟨hg, fun q => ?_⟩⟩
      obtain ⟨o, ho, hcr⟩ := q.2.2
      rcases hk with rfl | hk
      · exact hno o ho ⟨q.2.1, hcr⟩
      · exact hk q.1
    · refine ⟨Or.inl rfl, h0 (fun q => hno ⟨q.1, fun o ho hcr => q.2 ⟨hk0 (by omega), hcr.1, o, ?_, hcr.2⟩⟩)⟩
      rcases hk with rfl | hk
      · exact ho
      · exact absurd (hk0 (by omega)) hk
  intro n
  induction n with
  | zero =>
    intro k w b4 hk hc hk0
    refine sg_147_53 a b _ b4 k w m Q ⟨fun h => by omega, fun _ => fin k b4 (Or.inl (by omega)) hc hk0⟩
  | succ n ih =>
    intro k w b4 hk hc hk0
    have hsk := hw.2.2.2.2.2.2.1 k (by omega)
    obtain ⟨q2, -⟩ := hr.2.2.2.2.2.2.1 k (by omega)
    have ek : m 28 0 ((4 * (k : Int)).toNat) = d 2 k 0 := by rw [← q2 0 (by omega)]; congr 1 <;> omega
    refine sg_147_53 a b _ b4 k w m Q ⟨fun h => ⟨by omega, ?_⟩, fun h => by omega⟩
    rw [hr.2.2.2.2.2.1, y4]
    refine ⟨fun h2 => ⟨by omega, cl_142 hw hr (by omega) hb ?_⟩, fun h2 => ?_⟩
    · have hby : (d 1 0 4 / 8) % 2 = 1 := by
        rcases Int.decEq ((d 1 0 4 / 8) % 2) 1 with q9 | q9
        · rw [if_neg q9] at h2; omega
        · exact q9
      rw [show ((k : Int)).toNat = k by omega]
      have nxt : ∀ (b' : Int) (w' : Option jx_V), ((b' = 1 ∧ G ∧ ∀ o : Nat, o < k + 1 → ¬ (m 26 0 17 < 0 ∧ sp_cr d a.toNat o b)) ∨ (b' = 0 ∧ ¬ (G ∧ ∀ o : Nat, o < k + 1 → ¬ (m 26 0 17 < 0 ∧ sp_cr d a.toNat o b)))) → jx_AW 147 53 [some (xA 26 0), some (xI a), some (xI b), some (xI (sp_pl d a.toNat b)), some (xI b'), some (xI ((k : Int) + 1)), w'] [] m Q := fun b' w' hc' => ih (k + 1) w' b' (by omega) hc' (fun _ => hby)
      have keep : ¬ (m 26 0 17 < 0 ∧ sp_cr d a.toNat k b) → (∀ o : Nat, o < k → ¬ (m 26 0 17 < 0 ∧ sp_cr d a.toNat o b)) → ∀ o : Nat, o < k + 1 → ¬ (m 26 0 17 < 0 ∧ sp_cr d a.toNat o b) := fun z hno o ho => by
        rcases Nat.lt_or_ge o k with q | q
        · exact hno o q
        · obtain rfl : o = k := by omega
          exact z
      have hplk := sp_pl_in hsk b
      have hpla := sp_pl_in hwa b
      refine ⟨fun h3 => ⟨by omega, nxt 0 _ (Or.inr ⟨rfl, ?_⟩)⟩, fun h3 => ⟨by omega, by omega, by omega, by omega, by omega, by omega, by omega, by omega, ?_⟩⟩
      · rcases hc with ⟨e, -⟩ | ⟨-, hno⟩
        · omega
        · exact fun q => hno ⟨q.1, fun o ho => q.2 o (by omega)⟩
      · obtain ⟨hg, hno⟩ : G ∧ ∀ o : Nat, o < k → ¬ (m 26 0 17 < 0 ∧ sp_cr d a.toNat o b) := by
          rcases hc with ⟨-, q⟩ | ⟨e, -⟩
          · exact q
          · omega
        rw [ek, ea]
        by_cases hal0 : m 26 0 17 < 0
        · rw [sp_plA_self (Or.inl hal0)]
          refine ⟨fun h4 => ⟨fun h5 => ⟨by omega, nxt 1 _ (Or.inl ⟨rfl, hg, keep (fun q => by have := q.2.2.1; omega) hno⟩)⟩, fun h5 => cl_138 (by omega) (by omega) ⟨fun h6 => ⟨by omega, nxt 0 _ (Or.inr ⟨rfl, fun q => q.2 k (by omega) ⟨hal0, h4, by omega, ?_⟩⟩)⟩, fun h6 => ⟨by omega, nxt 1 _ (Or.inl ⟨rfl, hg, keep (fun q => ?_) hno⟩)⟩⟩⟩, fun h4 => ⟨by omega, nxt 1 _ (Or.inl ⟨rfl, hg, keep (fun q => h4 q.2.1) hno⟩)⟩⟩
          · rw [sp_far_sym]; omega
          · have := q.2.2.2; rw [sp_far_sym] at this; omega
        · have e4 : sp_plA d (m 26 0 17) k b = -4 := by
            unfold sp_plA
            rw [if_pos ⟨by omega, by omega⟩]
          rw [e4]
          exact ⟨fun h4 => ⟨fun h5 => ⟨by omega, nxt 1 _ (Or.inl ⟨rfl, hg, keep (fun q => hal0 q.1) hno⟩)⟩, fun h5 => by omega⟩, fun h4 => ⟨by omega, nxt 1 _ (Or.inl ⟨rfl, hg, keep (fun q => hal0 q.1) hno⟩)⟩⟩
    · refine fin k b4 (Or.inr (fun q => ?_)) hc hk0
      rw [if_pos q] at h2; omega
theorem cl_147 {d : jx_M} {a b : Int} {m : jx_M} {Q : Int → jx_M → Prop} (hw : dt_w d) (hr : re_T m d) (ha : 0 ≤ a ∧ a < d 1 0 0) (hb : 0 ≤ b ∧ b < 120) (hal : m 26 0 17 < 0 ∨ m 26 0 17 = a) (h1 : sp_cryM d (m 26 0 17) a.toNat b → Q 1 m) (h0 : ¬ sp_cryM d (m 26 0 17) a.toNat b → Q 0 m) : jx_Cl 147 [xA 26 0, xI a, xI b] m Q := by
  have hs := hw.2.1
  have hws := hw.2.2.2.2.2.2.1 a.toNat (by omega)
  have hb4 := hw.2.2.2.2.2.1
  obtain ⟨y1, y2, y3, y4⟩ := jb_and hb4.1 hb4.2
  obtain ⟨r1, r2, r3, r4, r5⟩ := hr.2.2.2.2.2.2.1 a.toNat (by omega)
  have e2 : m 28 0 ((4 * a + 2).toNat) = d 2 a.toNat 2 := by rw [← r1 2 (by omega)]; congr 1; omega
  have e3 : m 28 0 ((4 * a + 3).toNat) = d 2 a.toNat 3 := by rw [← r1 3 (by omega)]; congr 1; omega
  have hpl := sp_pl_in hws b
  have harr := sp_pl_arr hws (t := b)
  refine sg_147 a b m Q ⟨by omega, cl_142 hw hr ha hb ?_⟩
  rw [sp_plA_self (by omega), e2, e3, hr.2.2.2.2.2.1, y1, y2]
  unfold sp_cryM at h1 h0
  refine ⟨fun h => ⟨by omega, h0 (fun q => by have := (harr.mp q.1).1; omega)⟩, fun h => ?_⟩
  have hge : 0 ≤ b - d 2 a.toNat 2 := by
    by_cases q : b - d 2 a.toNat 2 < 0
    · exfalso; unfold sp_pl at h; rw [if_pos q] at h; omega
    · omega
  have hpa := hws.2.2.2.1
  have hmod := Int.emod_nonneg (b - d 2 a.toNat 2) (show d 2 a.toNat 3 ≠ 0 by omega)
  have hbe := hws.2.2.1
  refine ⟨by omega, by omega, by omega, by omega, by omega, by omega, by omega, by omega, by omega, by omega, by omega, by omega, fun h2 => ⟨by omega, h0 (fun q => by have := (harr.mp q.1).2; omega)⟩, fun h2 => ⟨by omega, ?_⟩⟩
  have hA : sp_arr d a.toNat b := harr.mpr ⟨by omega, by omega⟩
  have go : ∀ (b4 : Int), ((b4 = 1 ∧ (¬ (d 1 0 4 % 2 = 1 ∧ 60 ≤ b) ∧ ¬ ((d 1 0 4 / 2) % 2 = 1 ∧ d 0 0 (sp_pl d a.toNat b).toNat = 0))) ∨ (b4 = 0 ∧ ¬ (¬ (d 1 0 4 % 2 = 1 ∧ 60 ≤ b) ∧ ¬ ((d 1 0 4 / 2) % 2 = 1 ∧ d 0 0 (sp_pl d a.toNat b).toNat = 0)))) → jx_AW 147 53 [some (xA 26 0), some (xI a), some (xI b), some (xI (sp_pl d a.toNat b)), some (xI b4), some (xI 0), none] [] m Q := by
    intro b4 hb
    refine lp_147 (G := ¬ (d 1 0 4 % 2 = 1 ∧ 60 ≤ b) ∧ ¬ ((d 1 0 4 / 2) % 2 = 1 ∧ d 0 0 (sp_pl d a.toNat b).toNat = 0)) hw hr ha (by assumption) hal (by omega) (fun q => h1 ⟨hA, q.1.1, q.1.2, q.2⟩) (fun q => h0 (fun z => q ⟨⟨z.2.1, z.2.2.1⟩, z.2.2.2⟩)) a.toNat 0 none b4 (by omega) ?_ (fun q => by omega)
    rcases hb with ⟨e, g⟩ | ⟨e, g⟩
    · exact Or.inl ⟨e, g, fun o ho => by omega⟩
    · exact Or.inr ⟨e, fun q => g q.1⟩
  have hnz := hw.1 (sp_pl d a.toNat b).toNat (by omega)
  have en : m 27 0 ((sp_pl d a.toNat b).toNat) = d 0 0 (sp_pl d a.toNat b).toNat := hr.1 _ (by omega)
  have mid : ¬ (d 1 0 4 % 2 = 1 ∧ 60 ≤ b) → ((0 < 1) ∧ (((if (d 1 0 4 / 2) % 2 = 1 then (2 : Int) else 0) = 0 → jx_AW 147 53 [some (xA 26 0), some (xI a), some (xI b), some (xI (sp_pl d a.toNat b)), some (xI 1), some (xI 0), none] [] m Q) ∧ (¬ ((if (d 1 0 4 / 2) % 2 = 1 then (2 : Int) else 0) = 0) → ((0 < 1) ∧ ((1 = 1 ∧ 0 ≤ sp_pl d a.toNat b ∧ sp_pl d a.toNat b < 25) ∧ ((0 < 1) ∧ (((0 : Int) < (m 27 0 ((sp_pl d a.toNat b).toNat)) → jx_AW 147 53 [some (xA 26 0), some (xI a), some (xI b), some (xI (sp_pl d a.toNat b)), some (xI 1), some (xI 0), none] [] m Q) ∧ (¬ ((0 : Int) < (m 27 0 ((sp_pl d a.toNat b).toNat))) → jx_AW 147 53 [some (xA 26 0), some (xI a), some (xI b), some (xI (sp_pl d a.toNat b)), some (xI 0), some (xI 0), none] [] m Q))))))) ) := by
    intro e1
    rw [en]
    refine ⟨by omega, fun h3 => go 1 (Or.inl ⟨rfl, e1, fun q => by rw [if_pos q.1] at h3; omega⟩), fun h3 => ⟨by omega, by omega, by omega, fun h4 => go 1 (Or.inl ⟨rfl, e1, fun q => by omega⟩), fun h4 => go 0 (Or.inr ⟨rfl, fun q => q.2 ⟨?_, by omega⟩⟩)⟩⟩
    rcases Int.decEq ((d 1 0 4 / 2) % 2) 1 with q9 | q9
    · rw [if_neg q9] at h3; omega
    · exact q9
  refine ⟨fun h3 => mid (fun q => by rw [if_pos q.1] at h3; omega), fun h3 => ⟨fun h4 => mid (fun q => by omega), fun h4 => go 0 (Or.inr ⟨rfl, fun q => q.1 ⟨?_, by omega⟩⟩)⟩⟩
  rcases Int.decEq (d 1 0 4 % 2) 1 with q9 | q9
  · rw [if_neg q9] at h3; omega
  · exact q9
def sp_heM (d : jx_M) (al : Int) (cc : Int) (s : Nat) (t : Int) : Prop := sp_cryM d al s t ∧ sp_far (sp_pl d s t) cc ≤ sp_re d s - d 0 0 cc.toNat
theorem sp_heM_of {d : jx_M} {al cc : Int} {s : Nat} {t : Int} (hal : al < 0) (ht : 0 ≤ t ∧ t < 120) : sp_heM d al cc s t ↔ sp_he d cc s t := by
  unfold sp_heM sp_he
  rw [sp_cryM_of hal ht]
theorem cl_146 {d : jx_M} {a cc b : Int} {m : jx_M} {Q : Int → jx_M → Prop} (hw : dt_w d) (hr : re_T m d) (ha : 0 ≤ a ∧ a < d 1 0 0) (hc : 0 ≤ cc ∧ cc ≤ 24) (hb : 0 ≤ b ∧ b < 120) (hal : m 26 0 17 < 0 ∨ m 26 0 17 = a) (h1 : sp_heM d (m 26 0 17) cc a.toNat b → Q 1 m) (h0 : ¬ sp_heM d (m 26 0 17) cc a.toNat b → Q 0 m) : jx_Cl 146 [xA 26 0, xI cc, xI a, xI b] m Q := by
  have hs := hw.2.1
  have hws := hw.2.2.2.2.2.2.1 a.toNat (by omega)
  have hre := sp_re_in hws
  have hn := hw.1 cc.toNat (by omega)
  refine sg_146 cc a b m Q ⟨by omega, cl_147 hw hr ha hb hal (fun hy => ⟨fun h => by omega, fun _ => ⟨by omega, cl_142 hw hr ha hb ?_⟩⟩) (fun hy => ⟨fun _ => ⟨by omega, h0 (fun z => hy z.1)⟩, fun h => by omega⟩)⟩
  have hpl := sp_arr_pl hws hy.1
  rw [sp_plA_self (by omega)]
  refine cl_138 (by omega) (by omega) ⟨by omega, cl_144 hw hr ha ⟨by omega, by omega, by omega, ?_⟩⟩
  rw [hr.1 _ (by omega)]
  exact ⟨by omega, fun h2 => ⟨by omega, h0 (fun z => by have := z.2; omega)⟩, fun h2 => ⟨by omega, h1 ⟨hy, by omega⟩⟩⟩
