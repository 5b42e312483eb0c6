/-! the class: who cries, who is heard -/
def sp_re (d : jx_M) (s : Nat) : Int := if (d 1 0 4 / 4) % 2 = 1 ∧ 4 < d 2 s 1 + dt_lift d s then 4 else d 2 s 1 + dt_lift d s
def sp_cr (d : jx_M) (s o : Nat) (t : Int) : Prop := d 2 o 0 = d 2 s 0 ∧ 0 ≤ sp_pl d o t ∧ sp_far (sp_pl d s t) (sp_pl d o t) ≤ 2
def sp_crowd (d : jx_M) (s : Nat) (t : Int) : Prop := ∃ o : Nat, o < s ∧ sp_cr d s o t
def sp_cry (d : jx_M) (s : Nat) (t : Int) : Prop := (0 ≤ t ∧ t < 120) ∧ sp_arr d s t ∧ ¬ (d 1 0 4 % 2 = 1 ∧ 60 ≤ t) ∧ ¬ ((d 1 0 4 / 2) % 2 = 1 ∧ d 0 0 (sp_pl d s t).toNat = 0) ∧ ¬ ((d 1 0 4 / 8) % 2 = 1 ∧ sp_crowd d s t)
def sp_he (d : jx_M) (c : Int) (s : Nat) (t : Int) : Prop := sp_cry d s t ∧ sp_far (sp_pl d s t) c ≤ sp_re d s - d 0 0 c.toNat
theorem dt_sum_in {f : Nat → Int} {b : Int} : ∀ (n : Nat), (∀ i : Nat, i < n → 0 ≤ f i ∧ f i ≤ b) → 0 ≤ dt_sum f n ∧ dt_sum f n ≤ b * n
  | 0, _ => by simp [dt_sum]
  | n + 1, h => by
    have h1 := dt_sum_in n (fun i hi => h i (by omega))
    have h2 := h n (by omega)
    have e : b * ((n + 1 : Nat) : Int) = b * n + b := by rw [Int.natCast_add, Int.mul_add]; simp
    unfold dt_sum
    rw [e]
    omega
theorem dt_lift_in {d : jx_M} {s : Nat} (hw : dt_wS d s) : 0 ≤ dt_lift d s ∧ dt_lift d s ≤ 3 := by
  obtain ⟨w1, w2, w3, w4, w5, w6, w7, w8⟩ := hw
  have h1 := dt_sum_in (f := d 4 s) (b := 9) (d 2 s 5).toNat (fun i hi => w8 i (by omega))
  have e : ((d 2 s 5).toNat : Int) = d 2 s 5 := by omega
  rw [e] at h1
  unfold dt_lift
  have h2 : dt_sum (d 4 s) (d 2 s 5).toNat / d 2 s 5 ≤ 9 := Int.ediv_le_of_le_mul (by omega) h1.2
  have h3 : 0 ≤ dt_sum (d 4 s) (d 2 s 5).toNat / d 2 s 5 := Int.ediv_nonneg h1.1 (by omega)
  omega
theorem sp_pl_in {d : jx_M} {s : Nat} (hw : dt_wS d s) (t : Int) : sp_pl d s t = -4 ∨ (0 ≤ sp_pl d s t ∧ sp_pl d s t ≤ 24) := by
  obtain ⟨w1, w2, w3, w4, w5, w6, w7, w8⟩ := hw
  unfold sp_pl
  split
  · left; rfl
  · split
    · right
      have := jb_div (g := t - d 2 s 2) (p := d 2 s 3) (by omega) (by omega)
      exact w7 _ (by omega)
    · left; rfl
theorem sp_arr_pl {d : jx_M} {s : Nat} (hw : dt_wS d s) {t : Int} (h : sp_arr d s t) : 0 ≤ sp_pl d s t ∧ sp_pl d s t ≤ 24 := by
  obtain ⟨w1, w2, w3, w4, w5, w6, w7, w8⟩ := hw
  obtain ⟨a1, a2, a3⟩ := h
  unfold sp_pl
  rw [if_neg (by omega), if_pos a3]
  have := jb_div (g := t - d 2 s 2) (p := d 2 s 3) (by omega) (by omega)
  exact w7 _ (by omega)
theorem sp_far_in {a b : Int} (ha : 0 ≤ a ∧ a ≤ 24) (hb : 0 ≤ b ∧ b ≤ 24) : 0 ≤ sp_far a b ∧ sp_far a b ≤ 8 := by
  unfold sp_far
  omega
theorem cl_45 {d : jx_M} {j s : Nat} {m : jx_M} {Q : Int → jx_M → Prop} (hj : j < 18) (hw : dt_wS d s) (hr : rc_S m j d s) (hb : 0 ≤ d 1 0 4 ∧ d 1 0 4 ≤ 15) (hq : Q (sp_re d s) m) : jx_Cl 45 [xA 6 j, xI (d 1 0 4)] m Q := by
  have hl := dt_lift_in hw
  obtain ⟨r1, r2, r3, r4, r5, r6, r7, r8, r9⟩ := hr
  obtain ⟨w1, w2, w3, w4, w5, w6, w7, w8⟩ := hw
  obtain ⟨b1, b2, b3, b4⟩ := jb_and hb.1 hb.2
  refine sg_45 j (d 1 0 4) m Q ?_
  rw [r2, r7, b3]
  unfold sp_re at hq
  refine ⟨hj, hj, by omega, fun h => ?_, fun h => ⟨fun h2 => ?_, fun h2 => ?_⟩⟩
  · split at h
    · omega
    · rename_i h3; rw [if_neg (fun q => h3 q.1)] at hq; exact hq
  · split at h
    · rename_i h3; rw [if_pos ⟨h3, h2⟩] at hq; exact hq
    · omega
  · rw [if_neg (fun q => h2 q.2)] at hq; exact hq
theorem cl_50 {d : jx_M} {t : Nat} {a : Int} {m : jx_M} {Q : Int → jx_M → Prop} (ht : t < 3) (hr : ∀ c, c < 25 → m 2 t c = d 0 0 c) (ha : 0 ≤ a ∧ a ≤ 24) (h1 : d 0 0 a.toNat = 0 → Q 1 m) (h0 : ¬ d 0 0 a.toNat = 0 → Q 0 m) : jx_Cl 50 [xA 1 t, xI a] m Q := by
  refine sg_50 t a m Q (cl_11 (fun _ => ⟨fun h => by omega, fun _ => ⟨ht, by omega, ht, ?_⟩⟩) (fun h => by omega))
  rw [hr _ (by omega)]
  exact ⟨fun h => ⟨by omega, h1 h⟩, fun h => ⟨by omega, h0 h⟩⟩
theorem lp_51 {d : jx_M} {t : Nat} {a b : Int} {m : jx_M} {Q : Int → jx_M → Prop} (ht : t < 3) (hw : dt_w d) (hr : rc_T m t d) (ha : 0 ≤ a ∧ a < d 1 0 0) (hb : 0 ≤ b ∧ b < 120) (hp : 0 ≤ sp_pl d a.toNat b) (h1 : sp_crowd d a.toNat b → Q 1 m) (h0 : ¬ sp_crowd d a.toNat b → Q 0 m) :
    ∀ (n k : Nat) (w : Option jx_V), k + n = a.toNat → (∀ o : Nat, o < k → ¬ sp_cr d a.toNat o b) → jx_AW 51 9 [some (xA 1 t), some (xI a), some (xI b), some (xI (sp_pl d a.toNat b)), some (xI (k : Int)), w] [] m Q := by
  obtain ⟨q1, q2, q3, q4, q5, q6, q7, q8, q9⟩ := hw
  obtain ⟨r1, r2, r3, r4, r5, r6, r7, r8, r9⟩ := hr
  intro n
  induction n with
  | zero =>
    intro k w hk hno
    refine sg_51_9 t a b _ k w m Q ⟨fun h => by omega, fun _ => ⟨by omega, h0 ?_⟩⟩
    rintro ⟨o, ho, hc⟩
    exact hno o (by omega) hc
  | succ n ih =>
    intro k w hk hno
    have hs := q7 k (by omega)
    have hsa := q7 a.toNat (by omega)
    have hR := r7 k (by omega)
    have hRa := r7 a.toNat (by omega)
    have ek : ((k : Int)).toNat = k := by omega
    refine sg_51_9 t a b _ k w m Q ⟨fun h => ?_, fun h => by omega⟩
    rw [ek]
    refine ⟨ht, by omega, ht, by omega, cl_43 (by omega) hs hR hb ⟨ht, by omega, ht, by omega, ht, by omega, ht, by omega, ?_⟩⟩
    rw [hR.1, hRa.1]
    have next : ¬ sp_cr d a.toNat k b → ∀ w', jx_AW 51 9 [some (xA 1 t), some (xI a), some (xI b), some (xI (sp_pl d a.toNat b)), some (xI ((k : Int) + 1)), w'] [] m Q := by
      intro hc w'
      have := ih (k + 1) w' (by omega) (fun o ho => by
        rcases Nat.lt_or_ge o k with q | q
        · exact hno o q
        · obtain rfl : o = k := by omega
          exact hc)
      exact this
    refine ⟨fun h2 => ⟨fun h3 => ⟨by omega, next (fun q => ?_) _⟩, fun h3 => ?_⟩, fun h2 => ⟨by omega, next (fun q => h2 q.1) _⟩⟩
    · have := q.2.1; omega
    · have e1 := sp_pl_in hsa b
      have e2 := sp_pl_in hs b
      refine cl_36 (by omega) (by omega) ⟨fun h4 => ⟨by omega, next (fun q => ?_) _⟩, fun h4 => ⟨by omega, h1 ⟨k, by omega, h2, by omega, by omega⟩⟩⟩
      have := q.2.2; omega
theorem cl_51 {d : jx_M} {t : Nat} {a b : Int} {m : jx_M} {Q : Int → jx_M → Prop} (ht : t < 3) (hw : dt_w d) (hr : rc_T m t d) (ha : 0 ≤ a ∧ a < d 1 0 0) (hb : 0 ≤ b ∧ b < 120) (hp : 0 ≤ sp_pl d a.toNat b) (h1 : sp_crowd d a.toNat b → Q 1 m) (h0 : ¬ sp_crowd d a.toNat b → Q 0 m) : jx_Cl 51 [xA 1 t, xI a, xI b] m Q := by
  have hs := hw.2.1
  refine sg_51 t a b m Q ⟨ht, by omega, ht, by omega, cl_43 (by omega) (hw.2.2.2.2.2.2.1 a.toNat (by omega)) (hr.2.2.2.2.2.2.1 a.toNat (by omega)) hb ?_⟩
  exact lp_51 ht hw hr ha hb hp h1 h0 a.toNat 0 none (by omega) (fun o ho => by omega)
theorem cl_48 {d : jx_M} {t : Nat} {a b : Int} {m : jx_M} {Q : Int → jx_M → Prop} (ht : t < 3) (hw : dt_w d) (hr : rc_T m t d) (ha : 0 ≤ a ∧ a < d 1 0 0) (hin : jx_in b) (h1 : sp_cry d a.toNat b → Q 1 m) (h0 : ¬ sp_cry d a.toNat b → Q 0 m) : jx_Cl 48 [xA 1 t, xI a, xI b] m Q := by
  have hs := hw.2.1
  have hws := hw.2.2.2.2.2.2.1 a.toNat (by omega)
  have hrs := hr.2.2.2.2.2.2.1 a.toNat (by omega)
  have h8 : m 1 t 8 = d 1 0 4 := hr.2.2.2.2.2.1
  have hb4 := hw.2.2.2.2.2.1
  obtain ⟨b1, b2, b3, b4⟩ := jb_and hb4.1 hb4.2
  unfold sp_cry at h1 h0
  refine sg_48 t a b m Q (cl_21 (fun hm => ⟨fun h => by omega, fun _ => ⟨ht, by omega, ht, by omega, cl_49 (by omega) hws hrs hm (fun harr => ⟨fun h => by omega, fun _ => ⟨ht, ?_⟩⟩) (fun harr => ⟨fun _ => ⟨by omega, h0 (fun q => harr q.2.1)⟩, fun h => by omega⟩)⟩⟩) (fun hm => ⟨fun _ => ⟨by omega, h0 (fun q => hm q.1)⟩, fun h => by omega⟩))
  have hpl := sp_arr_pl hws harr
  rw [h8, b1, b2, b4]
  -- behind the first bylaw: the second and the fourth
  have fin : ¬ (d 1 0 4 % 2 = 1 ∧ 60 ≤ b) → ¬ ((d 1 0 4 / 2) % 2 = 1 ∧ d 0 0 (sp_pl d a.toNat b).toNat = 0) → (t < 3) ∧ (((if (d 1 0 4 / 8) % 2 = 1 then (8 : Int) else 0) = 0 → (((1 : Int) = 0 ∨ (1 : Int) = 1) ∧ Q 1 m)) ∧ (¬ ((if (d 1 0 4 / 8) % 2 = 1 then (8 : Int) else 0) = 0) → ((t < 3) ∧ jx_Cl 51 [xA 1 t, xI a, xI b] m (fun z3 m3 => ((z3 = 0 → (((1 : Int) = 0 ∨ (1 : Int) = 1) ∧ Q 1 m3)) ∧ (¬ (z3 = 0) → (((0 : Int) = 0 ∨ (0 : Int) = 1) ∧ Q 0 m3))))))) := by
    intro e1 e2
    refine ⟨ht, fun h => ⟨by omega, h1 ⟨hm, harr, e1, e2, fun q => ?_⟩⟩, fun h => ⟨ht, cl_51 ht hw hr ha hm hpl.1 (fun hc => ⟨fun q => by omega, fun _ => ⟨by omega, h0 (fun q => q.2.2.2.2 ⟨?_, hc⟩)⟩⟩) (fun hc => ⟨fun _ => ⟨by omega, h1 ⟨hm, harr, e1, e2, fun q => hc q.2⟩⟩, fun q => by omega⟩)⟩⟩
    · rw [if_pos q.1] at h; omega
    · rcases Int.decEq ((d 1 0 4 / 8) % 2) 1 with q9 | q9
      · rw [if_neg q9] at h; omega
      · exact q9
  have mid : ¬ (d 1 0 4 % 2 = 1 ∧ 60 ≤ b) → (t < 3) ∧ (((if (d 1 0 4 / 2) % 2 = 1 then (2 : Int) else 0) = 0 → (t < 3) ∧ (((if (d 1 0 4 / 8) % 2 = 1 then (8 : Int) else 0) = 0 → (((1 : Int) = 0 ∨ (1 : Int) = 1) ∧ Q 1 m)) ∧ (¬ ((if (d 1 0 4 / 8) % 2 = 1 then (8 : Int) else 0) = 0) → ((t < 3) ∧ jx_Cl 51 [xA 1 t, xI a, xI b] m (fun z3 m3 => ((z3 = 0 → (((1 : Int) = 0 ∨ (1 : Int) = 1) ∧ Q 1 m3)) ∧ (¬ (z3 = 0) → (((0 : Int) = 0 ∨ (0 : Int) = 1) ∧ Q 0 m3)))))))) ∧ (¬ ((if (d 1 0 4 / 2) % 2 = 1 then (2 : Int) else 0) = 0) → ((t < 3) ∧ ((0 ≤ a ∧ a < 6) ∧ ((t < 3) ∧ (((6 * t + a.toNat) < 18) ∧ jx_Cl 43 [xA 6 (6 * t + a.toNat), xI b] m (fun z4 m4 => ((t < 3) ∧ jx_Cl 50 [xA 1 t, xI z4] m4 (fun z5 m5 => ((z5 = 0 → ((t < 3) ∧ (((jx_iand (m5 1 t 8) 8) = 0 → (((1 : Int) = 0 ∨ (1 : Int) = 1) ∧ Q 1 m5)) ∧ (¬ ((jx_iand (m5 1 t 8) 8) = 0) → ((t < 3) ∧ jx_Cl 51 [xA 1 t, xI a, xI b] m5 (fun z6 m6 => ((z6 = 0 → (((1 : Int) = 0 ∨ (1 : Int) = 1) ∧ Q 1 m6)) ∧ (¬ (z6 = 0) → (((0 : Int) = 0 ∨ (0 : Int) = 1) ∧ Q 0 m6))))))))) ∧ (¬ (z5 = 0) → (((0 : Int) = 0 ∨ (0 : Int) = 1) ∧ Q 0 m5)))))))))))) := by
    intro e1
    refine ⟨ht, fun h => ?_, fun h => ⟨ht, by omega, ht, by omega, cl_43 (by omega) hws hrs hm ⟨ht, cl_50 ht hr.1 hpl (fun hn => ⟨fun q => by omega, fun _ => ⟨by omega, h0 (fun q => q.2.2.2.1 ⟨?_, hn⟩)⟩⟩) (fun hn => ⟨fun _ => ?_, fun q => by omega⟩)⟩⟩⟩
    · exact fin e1 (fun q => by rw [if_pos q.1] at h; omega)
    · rcases Int.decEq ((d 1 0 4 / 2) % 2) 1 with q9 | q9
      · rw [if_neg q9] at h; omega
      · exact q9
    · rw [h8, b4]
      exact fin e1 (fun q => hn q.2)
  refine ⟨fun h => mid (fun q => by rw [if_pos q.1] at h; omega), fun h => ⟨fun h2 => mid (fun q => by omega), fun h2 => ⟨by omega, h0 (fun q => q.2.2.1 ⟨?_, by omega⟩)⟩⟩⟩
  rcases Int.decEq (d 1 0 4 % 2) 1 with q9 | q9
  · rw [if_neg q9] at h; omega
  · exact q9
