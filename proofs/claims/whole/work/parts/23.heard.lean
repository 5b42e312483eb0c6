/-! the class: who is heard, how often; counts -/
noncomputable def nb_c (P : Prop) : Int := @ite _ P (Classical.propDecidable P) 1 0
theorem nb_t {P : Prop} (h : P) : nb_c P = 1 := if_pos h
theorem nb_f {P : Prop} (h : ¬ P) : nb_c P = 0 := if_neg h
theorem nb_in (P : Prop) : nb_c P = 0 ∨ nb_c P = 1 := by
  rcases Classical.em P with h | h
  · right; exact nb_t h
  · left; exact nb_f h
theorem nb_iff {P R : Prop} (h : P ↔ R) : nb_c P = nb_c R := by
  rcases Classical.em P with q | q
  · rw [nb_t q, nb_t (h.mp q)]
  · rw [nb_f q, nb_f (fun z => q (h.mpr z))]
noncomputable def nb_ct (P : Nat → Prop) : Nat → Int
  | 0 => 0
  | n + 1 => nb_ct P n + nb_c (P n)
theorem nb_ct_in (P : Nat → Prop) : ∀ n : Nat, 0 ≤ nb_ct P n ∧ nb_ct P n ≤ n
  | 0 => by simp [nb_ct]
  | n + 1 => by
    have h := nb_ct_in P n
    have h2 := nb_in (P n)
    unfold nb_ct
    rw [Int.natCast_add]
    simp only [Int.natCast_one]
    omega
theorem nb_ct_iff {P R : Nat → Prop} : ∀ (n : Nat), (∀ i, i < n → (P i ↔ R i)) → nb_ct P n = nb_ct R n
  | 0, _ => rfl
  | n + 1, h => by
    unfold nb_ct
    rw [nb_ct_iff n (fun i hi => h i (by omega)), nb_iff (h n (by omega))]
theorem nb_ct_yes {P : Nat → Prop} {n : Nat} (h : P n) : nb_ct P (n + 1) = nb_ct P n + 1 := by
  show nb_ct P n + nb_c (P n) = _
  rw [nb_t h]
theorem nb_ct_no {P : Nat → Prop} {n : Nat} (h : ¬ P n) : nb_ct P (n + 1) = nb_ct P n := by
  show nb_ct P n + nb_c (P n) = _
  rw [nb_f h, Int.add_zero]
theorem sp_re_in {d : jx_M} {s : Nat} (hw : dt_wS d s) : 0 ≤ sp_re d s ∧ sp_re d s ≤ 12 := by
  have hl := dt_lift_in hw
  obtain ⟨w1, w2, w3, w4, w5, w6, w7, w8⟩ := hw
  unfold sp_re
  split <;> omega
theorem cl_52 {d : jx_M} {t : Nat} {a cc b : Int} {m : jx_M} {Q : Int → jx_M → Prop} (ht : t < 3) (hw : dt_w d) (hr : rc_T m t d) (ha : 0 ≤ a ∧ a < d 1 0 0) (hc : 0 ≤ cc ∧ cc ≤ 24) (hb : 0 ≤ b ∧ b < 120)
    (h1 : 0 ≤ sp_pl d a.toNat b ∧ sp_far (sp_pl d a.toNat b) cc ≤ sp_re d a.toNat - d 0 0 cc.toNat → Q 1 m) (h0 : ¬ (0 ≤ sp_pl d a.toNat b ∧ sp_far (sp_pl d a.toNat b) cc ≤ sp_re d a.toNat - d 0 0 cc.toNat) → Q 0 m) : jx_Cl 52 [xA 1 t, xI a, xI cc, xI b] m Q := by
  have hs := hw.2.1
  have hws := hw.2.2.2.2.2.2.1 a.toNat (by omega)
  have hrs := hr.2.2.2.2.2.2.1 a.toNat (by omega)
  have h8 : m 1 t 8 = d 1 0 4 := hr.2.2.2.2.2.1
  have hb4 := hw.2.2.2.2.2.1
  have hre := sp_re_in hws
  have hn := hw.1 cc.toNat (by omega)
  have hpl := sp_pl_in hws b
  refine sg_52 t a cc b m Q ⟨ht, by omega, ht, by omega, cl_43 (by omega) hws hrs hb ⟨fun h => ⟨by omega, h0 (by omega)⟩, fun h => cl_36 (by omega) (by omega) ⟨ht, by omega, ht, ht, by omega, ?_⟩⟩⟩
  rw [h8]
  refine cl_45 (by omega) hws hrs hb4 ⟨ht, by omega, ht, ?_⟩
  rw [hr.1 _ (by omega)]
  exact ⟨by omega, fun h2 => ⟨by omega, h0 (by omega)⟩, fun h2 => ⟨by omega, h1 (by omega)⟩⟩
theorem cl_47 {d : jx_M} {t : Nat} {a cc b : Int} {m : jx_M} {Q : Int → jx_M → Prop} (ht : t < 3) (hw : dt_w d) (hr : rc_T m t d) (ha : 0 ≤ a ∧ a < d 1 0 0) (hc : 0 ≤ cc ∧ cc ≤ 24) (hin : jx_in b)
    (h1 : sp_he d cc a.toNat b → Q 1 m) (h0 : ¬ sp_he d cc a.toNat b → Q 0 m) : jx_Cl 47 [xA 1 t, xI a, xI cc, xI b] m Q := by
  have hs := hw.2.1
  have hws := hw.2.2.2.2.2.2.1 a.toNat (by omega)
  refine sg_47 t a cc b m Q ⟨ht, cl_48 ht hw hr ha hin (fun hy => ⟨fun h => by omega, fun _ => ⟨ht, cl_52 ht hw hr ha hc hy.1 (fun q => ⟨fun h => by omega, fun _ => ⟨by omega, h1 ⟨hy, q.2⟩⟩⟩) (fun q => ⟨fun _ => ⟨by omega, h0 (fun z => q ⟨(sp_arr_pl hws hy.2.1).1, z.2⟩)⟩, fun h => by omega⟩)⟩⟩) (fun hy => ⟨fun _ => ⟨by omega, h0 (fun z => hy z.1)⟩, fun h => by omega⟩)⟩
/-- how often one is heard at a corner, by the stops of its round -/
noncomputable def sp_tm (d : jx_M) (cc : Int) (s : Nat) : Int := nb_ct (fun i => sp_he d cc s (d 2 s 2 + (i : Int) * d 2 s 3)) (d 2 s 4).toNat
theorem lp_91 {d : jx_M} {t : Nat} {a cc : Int} {m : jx_M} {Q : Int → jx_M → Prop} (ht : t < 3) (hw : dt_w d) (hr : rc_T m t d) (ha : 0 ≤ a ∧ a < d 1 0 0) (hc : 0 ≤ cc ∧ cc ≤ 24) (hq : Q (sp_tm d cc a.toNat) m) :
    ∀ (n k : Nat), k + n = (d 2 a.toNat 4).toNat → jx_AW 91 4 [some (xA 1 t), some (xI a), some (xI cc), some (xI (nb_ct (fun i => sp_he d cc a.toNat (d 2 a.toNat 2 + (i : Int) * d 2 a.toNat 3)) k)), some (xI (k : Int))] [] m Q := by
  have hs := hw.2.1
  have hws := hw.2.2.2.2.2.2.1 a.toNat (by omega)
  have hrs := hr.2.2.2.2.2.2.1 a.toNat (by omega)
  obtain ⟨r1, r2, r3, r4, r5, r6, r7, r8, r9⟩ := hrs
  obtain ⟨w1, w2, w3, w4, w5, w6, w7, w8⟩ := hws
  intro n
  induction n with
  | zero =>
    intro k hk
    refine sg_91_4 t a cc _ k m Q ⟨ht, by omega, ht, by omega, ?_⟩
    rw [r5]
    refine ⟨fun h => by omega, fun _ => ?_⟩
    have hk : k = (d 2 a.toNat 4).toNat := by omega
    rw [hk]
    exact hq
  | succ n ih =>
    intro k hk
    have hb := nb_ct_in (fun i => sp_he d cc a.toNat (d 2 a.toNat 2 + (i : Int) * d 2 a.toNat 3)) k
    have hm1 : 0 ≤ (k : Int) * d 2 a.toNat 3 := Int.mul_nonneg (by omega) (by omega)
    have hm2 : (k : Int) * d 2 a.toNat 3 ≤ 12 * 5 := Int.mul_le_mul (by omega) (by omega) (by omega) (by omega)
    have nxt := ih (k + 1) (by omega)
    refine sg_91_4 t a cc _ k m Q ⟨ht, by omega, ht, by omega, ?_⟩
    rw [r3, r4, r5]
    refine ⟨fun h => ⟨ht, by omega, ht, by omega, ht, by omega, ht, by omega, by omega, by omega, ht, cl_47 ht hw hr ha hc (by omega) (fun hy => ⟨fun h2 => by omega, fun _ => ⟨by omega, by omega, ?_⟩⟩) (fun hy => ⟨fun _ => ⟨by omega, ?_⟩, fun h2 => by omega⟩)⟩, fun h => by omega⟩
    · rw [nb_ct_yes (P := fun i => sp_he d cc a.toNat (d 2 a.toNat 2 + (i : Int) * d 2 a.toNat 3)) hy] at nxt
      exact nxt
    · rw [nb_ct_no (P := fun i => sp_he d cc a.toNat (d 2 a.toNat 2 + (i : Int) * d 2 a.toNat 3)) hy] at nxt
      exact nxt
theorem cl_91 {d : jx_M} {t : Nat} {a cc : Int} {m : jx_M} {Q : Int → jx_M → Prop} (ht : t < 3) (hw : dt_w d) (hr : rc_T m t d) (ha : 0 ≤ a ∧ a < d 1 0 0) (hc : 0 ≤ cc ∧ cc ≤ 24) (hq : Q (sp_tm d cc a.toNat) m) : jx_Cl 91 [xA 1 t, xI a, xI cc] m Q :=
  sg_91 t a cc m Q (lp_91 ht hw hr ha hc hq _ 0 (Nat.zero_add _))
/-- the sum over sellers -/
noncomputable def sp_loud (d : jx_M) (cc : Int) : Int := dt_sum (fun s => sp_tm d cc s) (d 1 0 0).toNat
theorem sp_tm_in {d : jx_M} {s : Nat} (hw : dt_wS d s) (cc : Int) : 0 ≤ sp_tm d cc s ∧ sp_tm d cc s ≤ 12 := by
  obtain ⟨w1, w2, w3, w4, w5, w6, w7, w8⟩ := hw
  have := nb_ct_in (fun i => sp_he d cc s (d 2 s 2 + (i : Int) * d 2 s 3)) (d 2 s 4).toNat
  unfold sp_tm
  omega
theorem lp_90 {d : jx_M} {t : Nat} {cc : Int} {m : jx_M} {Q : Int → jx_M → Prop} (ht : t < 3) (hw : dt_w d) (hr : rc_T m t d) (hc : 0 ≤ cc ∧ cc ≤ 24) (hq : Q (sp_loud d cc) m) :
    ∀ (n k : Nat), k + n = (d 1 0 0).toNat → jx_AW 90 4 [some (xA 1 t), some (xI cc), some (xI (dt_sum (fun s => sp_tm d cc s) k)), some (xI (k : Int))] [] m Q := by
  have hs := hw.2.1
  intro n
  induction n with
  | zero =>
    intro k hk
    refine sg_90_4 t cc _ k m Q ⟨ht, ?_⟩
    rw [hr.2.1]
    refine ⟨fun h => by omega, fun _ => ?_⟩
    have hk : k = (d 1 0 0).toNat := by omega
    rw [hk]
    exact hq
  | succ n ih =>
    intro k hk
    have hb := dt_sum_in (f := fun s => sp_tm d cc s) (b := 12) k (fun i hi => sp_tm_in (hw.2.2.2.2.2.2.1 i (by omega)) cc)
    have hk2 := sp_tm_in (hw.2.2.2.2.2.2.1 k (by omega)) cc
    have nxt := ih (k + 1) (by omega)
    refine sg_90_4 t cc _ k m Q ⟨ht, ?_⟩
    rw [hr.2.1]
    refine ⟨fun h => ⟨ht, cl_91 ht hw hr (by omega) hc ⟨?_, by omega, ?_⟩⟩, fun h => by omega⟩
    · rw [show ((k : Int)).toNat = k by omega]; omega
    · exact nxt
theorem cl_90 {d : jx_M} {t : Nat} {cc : Int} {m : jx_M} {Q : Int → jx_M → Prop} (ht : t < 3) (hw : dt_w d) (hr : rc_T m t d) (hc : 0 ≤ cc ∧ cc ≤ 24) (hq : Q (sp_loud d cc) m) : jx_Cl 90 [xA 1 t, xI cc] m Q :=
  sg_90 t cc m Q (lp_90 ht hw hr hc hq _ 0 (Nat.zero_add _))
/-- who of a kind stands at a corner: the least, from k on -/
def sp_sa (d : jx_M) (cc kd t : Int) : Nat → Nat → Int
  | 0, _ => -4
  | n + 1, k => if d 2 k 0 = kd ∧ sp_pl d k t = cc then (k : Int) else sp_sa d cc kd t n (k + 1)
abbrev sp_st (d : jx_M) (cc kd t : Int) : Int := sp_sa d cc kd t (d 1 0 0).toNat 0
theorem lp_68 {d : jx_M} {t : Nat} {cc kd b : Int} {m : jx_M} {Q : Int → jx_M → Prop} (ht : t < 3) (hw : dt_w d) (hr : rc_T m t d) (hb : 0 ≤ b ∧ b < 120) :
    ∀ (n k : Nat), k + n = (d 1 0 0).toNat → Q (sp_sa d cc kd b n k) m → jx_AW 68 2 [some (xA 1 t), some (xI cc), some (xI kd), some (xI b), some (xI (k : Int))] [] m Q := by
  have hs := hw.2.1
  intro n
  induction n with
  | zero =>
    intro k hk hq
    refine sg_68_2 t cc kd b k m Q ⟨ht, ?_⟩
    rw [hr.2.1]
    exact ⟨fun h => by omega, fun _ => hq⟩
  | succ n ih =>
    intro k hk hq
    have hws := hw.2.2.2.2.2.2.1 k (by omega)
    have hrs := hr.2.2.2.2.2.2.1 k (by omega)
    have ek : ((k : Int)).toNat = k := by omega
    refine sg_68_2 t cc kd b k m Q ⟨ht, ?_⟩
    rw [hr.2.1, ek, hrs.1]
    unfold sp_sa at hq
    refine ⟨fun h => ⟨ht, by omega, ht, by omega, fun h2 => ⟨ht, by omega, ht, by omega, cl_43 (by omega) hws hrs hb ⟨fun h3 => ?_, fun h3 => ⟨by omega, ?_⟩⟩⟩, fun h2 => ⟨by omega, ?_⟩⟩, fun h => by omega⟩
    · rw [if_pos ⟨h2, h3⟩] at hq; exact hq
    · rw [if_neg (fun q => h3 q.2)] at hq; exact ih (k + 1) (by omega) hq
    · rw [if_neg (fun q => h2 q.1)] at hq; exact ih (k + 1) (by omega) hq
theorem cl_68 {d : jx_M} {t : Nat} {cc kd b : Int} {m : jx_M} {Q : Int → jx_M → Prop} (ht : t < 3) (hw : dt_w d) (hr : rc_T m t d) (hb : 0 ≤ b ∧ b < 120) (hq : Q (sp_st d cc kd b) m) : jx_Cl 68 [xA 1 t, xI cc, xI kd, xI b] m Q :=
  sg_68 t cc kd b m Q (lp_68 ht hw hr hb _ 0 (Nat.zero_add _) hq)
/-- all windows agree, up to k -/
def sp_ag (d : jx_M) (s : Nat) (k : Nat) : Prop := ∀ w : Nat, w < k → (sp_he d (d 6 w 0) s (d 6 w 1) ↔ d 6 w 2 = 1)
theorem lp_99 {d : jx_M} {t : Nat} {a : Int} {m : jx_M} {Q : Int → jx_M → Prop} (ht : t < 3) (hw : dt_w d) (hr : rc_T m t d) (ha : 0 ≤ a ∧ a < d 1 0 0) (h1 : sp_ag d a.toNat (d 1 0 2).toNat → Q 1 m) (h0 : ¬ sp_ag d a.toNat (d 1 0 2).toNat → Q 0 m) :
    ∀ (n k : Nat) (w : Option jx_V), k + n = (d 1 0 2).toNat → sp_ag d a.toNat k → jx_AW 99 2 [some (xA 1 t), some (xI a), some (xI (k : Int)), w] [] m Q := by
  have hs := hw.2.2.2.1
  intro n
  induction n with
  | zero =>
    intro k w hk hq
    refine sg_99_2 t a k w m Q ⟨ht, ?_⟩
    rw [hr.2.2.2.1]
    refine ⟨fun h => by omega, fun _ => ⟨by omega, h1 ?_⟩⟩
    have hk : k = (d 1 0 2).toNat := by omega
    rw [← hk]
    exact hq
  | succ n ih =>
    intro k w hk hq
    have hww := hw.2.2.2.2.2.2.2.2 k (by omega)
    have hrw := hr.2.2.2.2.2.2.2.2 k (by omega)
    obtain ⟨v1, v2, v3⟩ := hww
    have ek : ((k : Int)).toNat = k := by omega
    refine sg_99_2 t a k w m Q ⟨ht, ?_⟩
    rw [hr.2.2.2.1, ek, hrw 0 (by omega), hrw 1 (by omega)]
    have e2 := hrw 2 (by omega)
    have nxt : (sp_he d (d 6 k 0) a.toNat (d 6 k 1) ↔ d 6 k 2 = 1) → ∀ w', jx_AW 99 2 [some (xA 1 t), some (xI a), some (xI ((k : Int) + 1)), w'] [] m Q := fun hh w' => ih (k + 1) w' (by omega) (fun w9 hw9 => by
      rcases Nat.lt_or_ge w9 k with q | q
      · exact hq w9 q
      · obtain rfl : w9 = k := by omega
        exact hh)
    refine ⟨fun h => ⟨ht, by omega, ht, by omega, by omega, ht, cl_47 ht hw hr ha v1 (by omega) (fun hy => ⟨by omega, fun h2 => ⟨by omega, nxt ⟨fun _ => by omega, fun _ => hy⟩ _⟩, fun h2 => ⟨by omega, h0 (fun z => by have := (z k (by omega)).mp hy; omega)⟩⟩) (fun hy => ⟨by omega, fun h2 => ⟨by omega, nxt ⟨fun q => absurd q hy, fun q => by omega⟩ _⟩, fun h2 => ⟨by omega, h0 (fun z => hy ((z k (by omega)).mpr (by omega)))⟩⟩)⟩, fun h => by omega⟩
theorem cl_99 {d : jx_M} {t : Nat} {a : Int} {m : jx_M} {Q : Int → jx_M → Prop} (ht : t < 3) (hw : dt_w d) (hr : rc_T m t d) (ha : 0 ≤ a ∧ a < d 1 0 0) (h1 : sp_ag d a.toNat (d 1 0 2).toNat → Q 1 m) (h0 : ¬ sp_ag d a.toNat (d 1 0 2).toNat → Q 0 m) : jx_Cl 99 [xA 1 t, xI a] m Q :=
  sg_99 t a m Q (lp_99 ht hw hr ha h1 h0 _ 0 none (Nat.zero_add _) (fun w h => by omega))
theorem cl_19 {t : Nat} {a : Int} {m : jx_M} {Q : Int → jx_M → Prop} (ht : t < 3) (h1 : 0 ≤ a ∧ a < m 1 t 4 → Q 1 m) (h0 : ¬ (0 ≤ a ∧ a < m 1 t 4) → Q 0 m) : jx_Cl 19 [xA 1 t, xI a] m Q :=
  sg_19 t a m Q ⟨fun h => ⟨by omega, h0 (by omega)⟩, fun h => ⟨ht, fun h2 => ⟨by omega, h1 (by omega)⟩, fun h2 => ⟨by omega, h0 (by omega)⟩⟩⟩
