/-! a new seller, a new buyer, a new window -/
def dt_ns (d : jx_M) (n : Nat) (k l p : Int) : jx_M := fun a b c => if a = 1 ∧ b = 0 ∧ c = 0 then (n : Int) + 1 else if a = 2 ∧ b = n then (if c = 0 then k else if c = 1 then l else if c = 2 then 0 else if c = 3 then p else 1) else if a = 3 ∧ b = n then 0 else if a = 4 ∧ b = n then 5 else d a b c
theorem ns_2 {d : jx_M} {n : Nat} {k l p : Int} (c : Nat) : dt_ns d n k l p 2 n c = (if c = 0 then k else if c = 1 then l else if c = 2 then 0 else if c = 3 then p else 1) := by
  unfold dt_ns
  rw [if_neg (by omega), if_pos ⟨rfl, rfl⟩]
theorem ns_3 {d : jx_M} {n : Nat} {k l p : Int} (c : Nat) : dt_ns d n k l p 3 n c = 0 := by
  unfold dt_ns
  rw [if_neg (by omega), if_neg (by omega), if_pos ⟨rfl, rfl⟩]
theorem ns_4 {d : jx_M} {n : Nat} {k l p : Int} (c : Nat) : dt_ns d n k l p 4 n c = 5 := by
  unfold dt_ns
  rw [if_neg (by omega), if_neg (by omega), if_neg (by omega), if_pos ⟨rfl, rfl⟩]
theorem ns_o {d : jx_M} {n : Nat} {k l p : Int} {a o c : Nat} (h : 2 ≤ a ∧ a ≤ 4) (ho : o ≠ n) : dt_ns d n k l p a o c = d a o c := by
  unfold dt_ns
  rw [if_neg (by omega), if_neg (by omega), if_neg (by omega), if_neg (by omega)]
theorem ns_S {d : jx_M} {n o : Nat} {k l p : Int} (ho : o ≠ n) (h : dt_wS d o) : dt_wS (dt_ns d n k l p) o := by
  obtain ⟨w1, w2, w3, w4, w5, w6, w7, w8⟩ := h
  unfold dt_wS
  rw [ns_o (by omega) ho, ns_o (by omega) ho, ns_o (by omega) ho, ns_o (by omega) ho, ns_o (by omega) ho, ns_o (by omega) ho]
  exact ⟨w1, w2, w3, w4, w5, w6, fun i hi => by rw [ns_o (by omega) ho]; exact w7 i hi, fun i hi => by rw [ns_o (by omega) ho]; exact w8 i hi⟩
theorem ns_w {d : jx_M} {n : Nat} {k l p : Int} (hw : dt_w d) (hn : (n : Int) = d 1 0 0) (h6 : n < 6) (hk : 0 ≤ k ∧ k ≤ 3) (hl : 1 ≤ l ∧ l ≤ 9) (hp : 1 ≤ p ∧ p ≤ 5) : dt_w (dt_ns d n k l p) := by
  obtain ⟨h1, h2, h3, h4, h5, h6', h7, h8, h9⟩ := hw
  refine ⟨h1, ?_, h3, h4, h5, h6', fun o ho => ?_, h8, h9⟩
  · show 0 ≤ (n : Int) + 1 ∧ (n : Int) + 1 ≤ 6; omega
  · have ho : (o : Int) < (n : Int) + 1 := ho
    rcases Nat.decEq o n with q | q
    · exact ns_S q (h7 o (by omega))
    · subst q
      unfold dt_wS
      simp only [ns_2, ns_3, ns_4]
      refine ⟨hk, hl, ?_, hp, ?_, ?_, fun i hi => ?_, fun i hi => ?_⟩ <;> simp
theorem ns_lift {d : jx_M} {n : Nat} {k l p : Int} : dt_lift (dt_ns d n k l p) n = 1 := by
  unfold dt_lift
  rw [show dt_ns d n k l p 2 n 5 = 1 from ns_2 5]
  show (0 + dt_ns d n k l p 4 n 0) / 1 / 3 = 1
  rw [ns_4]
  rfl
theorem ns_rcS {d m m' : jx_M} {n o j : Nat} {k l p : Int} (ho : o ≠ n) (h : ∀ a i, 6 ≤ a ∧ a ≤ 8 → m' a j i = m a j i) (hr : rc_S m j d o) : rc_S m' j (dt_ns d n k l p) o := by
  have hr := rc_S_fr h hr
  obtain ⟨r1, r2, r3, r4, r5, r6, r7, r8, r9⟩ := hr
  have e4 : dt_ns d n k l p 4 o = d 4 o := funext fun c => ns_o (by omega) ho
  unfold rc_S dt_lift
  rw [e4, ns_o (by omega) ho, ns_o (by omega) ho, ns_o (by omega) ho, ns_o (by omega) ho, ns_o (by omega) ho, ns_o (by omega) ho]
  exact ⟨r1, r2, r3, r4, r5, r6, r7, fun i hi => by rw [ns_o (by omega) ho]; exact r8 i hi, r9⟩
def sl_new (m : jx_M) (j : Nat) (a b c : Int) : Prop := m 6 j 4 = a ∧ m 6 j 5 = b ∧ m 6 j 6 = 0 ∧ m 6 j 7 = c ∧ m 6 j 2 = 1 ∧ m 6 j 3 = 1 ∧ m 6 j 8 = 1 ∧ m 7 j 0 = 0 ∧ m 8 j 0 = 5
theorem cl_16 {t0 : Nat} {a b c : Int} {m : jx_M} {Q : Int → jx_M → Prop} (ht : t0 < 18) (K : ∀ m2, cs_fr t0 m m2 → sl_new m2 t0 a b c → Q 0 m2) : jx_Cl 16 [xA 6 t0, xI a, xI b, xI c] m Q := by
  refine sg_16 t0 a b c m Q ?_
  rw [up_eq]
  refine ⟨ht, ht, ht, ht, ht, by omega, ht, ht, ht, by omega, ht, ht, ht, ht, cl_17_NOTE (f := fun _ => 5) ht (by omega) (fun i hi => ?_) ⟨ht, K _ (fun s i j hn => ?_) ?_⟩⟩
  · obtain rfl : i = 0 := by omega
    refine ⟨?_, by omega⟩
    simp [jx_up]
  · rw [up_ne (by omega), up_ne (by omega), up_ne (by omega), up_ne (by omega), up_ne (by omega), up_ne (by omega), up_ne (by omega), up_ne (by omega), up_ne (by omega)]
  · refine ⟨?_, ?_, ?_, ?_, ?_, ?_, up_eq, ?_, ?_⟩ <;> simp [jx_up]
theorem cl_13 {n : Nat} {a b c : Int} {m : jx_M} {Q : Int → jx_M → Prop} (hn : m 1 0 4 = (n : Int)) (h1 : ((0 ≤ a ∧ a ≤ 3) ∧ (1 ≤ b ∧ b ≤ 9) ∧ (1 ≤ c ∧ c ≤ 5)) ∧ n < 6 → ∀ m2, cs_fr (6 * 0 + n) m m2 → sl_new m2 (6 * 0 + n) a b c → Q (n : Int) (jx_up m2 1 0 4 ((n : Int) + 1))) (hF : ((0 ≤ a ∧ a ≤ 3) ∧ (1 ≤ b ∧ b ≤ 9) ∧ (1 ≤ c ∧ c ≤ 5)) ∧ ¬ n < 6 → Q (-3) m) (h0 : ¬ ((0 ≤ a ∧ a ≤ 3) ∧ (1 ≤ b ∧ b ≤ 9) ∧ (1 ≤ c ∧ c ≤ 5)) → Q (-1) m) : jx_Cl 13 [xA 0 0, xI a, xI b, xI c] m Q := by
  refine sg_13 a b c m Q (cl_14 (fun g1 => ⟨fun z => by omega, fun _ => cl_15 (fun g2 => ⟨fun z => by omega, fun _ => cl_12 (fun g3 => ⟨fun z => by omega, fun _ => ?_⟩) (fun g => ⟨fun _ => h0 (by omega), fun z => by omega⟩)⟩) (fun g => ⟨fun _ => h0 (by omega), fun z => by omega⟩)⟩) (fun g => ⟨fun _ => h0 (by omega), fun z => by omega⟩))
  rw [hn, show ((n : Int)).toNat = n by omega]
  repeat' (first | omega | exact hF (by omega) | refine cl_16 (by omega) (fun m2 f2 g2 => ⟨by omega, by omega, by omega, h1 (by omega) m2 f2 g2⟩) | apply And.intro | intro _)
def ms_new (m : jx_M) (n : Nat) (a b c : Int) : jx_M := (jx_up (jx_up (jx_up (jx_up (jx_up (jx_up (jx_up (jx_up (jx_up m 28 0 (4 * n) a) 28 0 (4 * n + 1) b) 28 0 (4 * n + 2) 0) 28 0 (4 * n + 3) c) 29 0 (13 * n) 1) 29 0 (13 * n + 1) 0) 30 0 (7 * n) 1) 30 0 (7 * n + 1) 5) 26 0 1 ((n : Int) + 1))
theorem cl_126 {n : Nat} {a b c : Int} {m : jx_M} {Q : Int → jx_M → Prop} (hn : m 26 0 1 = (n : Int)) (hn6 : n ≤ 6) (h1 : ((0 ≤ a ∧ a ≤ 3) ∧ (1 ≤ b ∧ b ≤ 9) ∧ (1 ≤ c ∧ c ≤ 5)) ∧ n < 6 → Q (n : Int) (ms_new m n a b c)) (hF : ((0 ≤ a ∧ a ≤ 3) ∧ (1 ≤ b ∧ b ≤ 9) ∧ (1 ≤ c ∧ c ≤ 5)) ∧ ¬ n < 6 → Q (-3) m) (h0 : ¬ ((0 ≤ a ∧ a ≤ 3) ∧ (1 ≤ b ∧ b ≤ 9) ∧ (1 ≤ c ∧ c ≤ 5)) → Q (-1) m) : jx_Cl 126 [xA 26 0, xI a, xI b, xI c] m Q := by
  unfold ms_new at h1
  refine sg_126 a b c m Q (cl_127 (by omega) (fun g1 => ⟨fun z => by omega, fun _ => cl_127 (by omega) (fun g2 => ⟨fun z => by omega, fun _ => cl_127 (by omega) (fun g3 => ⟨fun z => by omega, fun _ => ?_⟩) (fun g3 => ⟨fun _ => h0 (fun z => g3 ?_), fun z => by omega⟩)⟩) (fun g2 => ⟨fun _ => h0 (fun z => g2 ?_), fun z => by omega⟩)⟩) (fun g1 => ⟨fun _ => h0 (fun z => g1 ?_), fun z => by omega⟩))
  · simp only [up_so (show (26 : Nat) ≠ 28 by decide), up_so (show (26 : Nat) ≠ 29 by decide), up_so (show (26 : Nat) ≠ 30 by decide), hn]
    unfold vl_b at g1 g2 g3
    rw [show (4 * (n : Int)).toNat = 4 * n by omega, show (4 * (n : Int) + 1).toNat = 4 * n + 1 by omega, show (4 * (n : Int) + 2).toNat = 4 * n + 2 by omega, show (4 * (n : Int) + 3).toNat = 4 * n + 3 by omega, show (13 * (n : Int)).toNat = 13 * n by omega, show (13 * (n : Int) + 1).toNat = 13 * n + 1 by omega, show (7 * (n : Int)).toNat = 7 * n by omega, show (7 * (n : Int) + 1).toNat = 7 * n + 1 by omega]
    repeat' (first | exact trivial | omega | exact hF (by omega) | exact h1 (by omega) | apply And.intro | intro _)
  · unfold vl_b; omega
  · unfold vl_b; omega
  · unfold vl_b; omega
theorem ns_rm {d m : jx_M} {n : Nat} {a b c : Int} (hw : dt_w d) (hn : (n : Int) = d 1 0 0) (hr : rm_T m d) : rm_T (ms_new m n a b c) (dt_ns d n a b c) := by
  have fr : ∀ s j, ¬ (s = 26 ∧ j = 1) → ¬ (s = 28 ∧ 4 * n ≤ j ∧ j < 4 * n + 4) → ¬ (s = 29 ∧ 13 * n ≤ j ∧ j < 13 * n + 2) → ¬ (s = 30 ∧ 7 * n ≤ j ∧ j < 7 * n + 2) → ms_new m n a b c s 0 j = m s 0 j := fun s j q1 q2 q3 q4 => by
    unfold ms_new
    rw [up_ne (by omega), up_ne (by omega), up_ne (by omega), up_ne (by omega), up_ne (by omega), up_ne (by omega), up_ne (by omega), up_ne (by omega), up_ne (by omega)]
  obtain ⟨h1, h2, h3, h4, h5, h6, h7, h8, h9⟩ := hr
  refine ⟨fun q hq => (fr 27 q (by omega) (by omega) (by omega) (by omega)).trans (h1 q hq), up_eq, (fr 26 7 (by omega) (by omega) (by omega) (by omega)).trans h3, (fr 26 9 (by omega) (by omega) (by omega) (by omega)).trans h4, (fr 26 5 (by omega) (by omega) (by omega) (by omega)).trans h5, (fr 26 6 (by omega) (by omega) (by omega) (by omega)).trans h6, fun o ho => ?_, fun b' hb' k hk => (fr 31 _ (by omega) (by omega) (by omega) (by omega)).trans (h8 b' hb' k hk), fun w' hw' k hk => (fr 32 _ (by omega) (by omega) (by omega) (by omega)).trans (h9 w' hw' k hk)⟩
  have ho : (o : Int) < (n : Int) + 1 := ho
  rcases Nat.decEq o n with q | q
  · obtain ⟨r1, r2, r3, r4, r5⟩ := h7 o (by omega)
    have ws := hs_of hw o (by omega)
    have w5 := ws.2.2.2.2.1
    have w6 := ws.2.2.2.2.2.1
    rw [ns_o (a := 2) (c := 4) (by omega) q, ns_o (a := 2) (c := 5) (by omega) q]
    refine ⟨fun k hk => ?_, (fr 29 _ (by omega) (by omega) (by omega) (by omega)).trans r2, (fr 30 _ (by omega) (by omega) (by omega) (by omega)).trans r3, fun i hi => ?_, fun i hi => ?_⟩
    · rw [ns_o (by omega) q, fr 28 _ (by omega) (by omega) (by omega) (by omega)]; exact r1 k hk
    · rw [ns_o (by omega) q, fr 29 _ (by omega) (by omega) (by omega) (by omega)]; exact r4 i hi
    · rw [ns_o (by omega) q, fr 30 _ (by omega) (by omega) (by omega) (by omega)]; exact r5 i hi
  · subst q
    rw [show dt_ns d o a b c 2 o 4 = 1 from ns_2 4, show dt_ns d o a b c 2 o 5 = 1 from ns_2 5]
    unfold ms_new
    refine ⟨fun k hk => ?_, ?_, ?_, fun i hi => ?_, fun i hi => ?_⟩
    · rw [ns_2]
      match k, hk with
      | 0, _ => show _ = a; rw [up_ne (by omega), up_ne (by omega), up_ne (by omega), up_ne (by omega), up_ne (by omega), up_ne (by omega), up_ne (by omega), up_ne (by omega)]; exact up_eq
      | 1, _ => show _ = b; rw [up_ne (by omega), up_ne (by omega), up_ne (by omega), up_ne (by omega), up_ne (by omega), up_ne (by omega), up_ne (by omega), up_eq]
      | 2, _ => show _ = 0; rw [up_ne (by omega), up_ne (by omega), up_ne (by omega), up_ne (by omega), up_ne (by omega), up_ne (by omega), up_eq]
      | 3, _ => show _ = c; rw [up_ne (by omega), up_ne (by omega), up_ne (by omega), up_ne (by omega), up_ne (by omega), up_eq]
    · rw [up_ne (by omega), up_ne (by omega), up_ne (by omega), up_ne (by omega), up_eq]
    · rw [up_ne (by omega), up_ne (by omega), up_eq]
    · obtain rfl : i = 0 := by omega
      rw [ns_3]
      rw [up_ne (by omega), up_ne (by omega), up_ne (by omega), up_eq]
    · obtain rfl : i = 0 := by omega
      rw [ns_4]
      rw [up_ne (by omega), up_eq]
theorem pr_1 {a b c : Int} {m : jx_M} {R : Int → Int → jx_M → Prop} (hI : jv_I m) (K : ∀ z m2, jv_I m2 → fS m m2 → R z z m2) : jx_Cl 13 [xA 0 0, xI a, xI b, xI c] m (fun z1 m1 => jx_Cl 126 [xA 26 0, xI a, xI b, xI c] m1 (fun z2 m2 => R z1 z2 m2)) := by
  obtain ⟨d, e, q, hw, hC, hM⟩ := hI
  have k := fun z => jv_ask (G := R z z m) hw hC hM (fcs_r m) (fms_r m) (K z m)
  have hn := hw.1.2.1
  obtain ⟨n, en⟩ : ∃ n : Nat, d 1 0 0 = (n : Int) := ⟨(d 1 0 0).toNat, by omega⟩
  have e1 : m 1 0 4 = (n : Int) := hC.1.2.1.trans en
  have e2 : m 26 0 1 = (n : Int) := hM.1.1.2.1.trans en
  refine cl_13 e1 (fun g m1 f1 s1 => ?_) (fun g => cl_126 e2 (by omega) (fun z => absurd z.2 g.2) (fun _ => k _) (fun z => absurd g.1 z)) (fun g => cl_126 e2 (by omega) (fun z => absurd z.1 g) (fun z => absurd z.1 g) (fun _ => k _))
  have fct1 : fct m (jx_up m1 1 0 4 ((n : Int) + 1)) := fun s i j hn' => by rw [up_ne (by omega)]; exact f1 s i j (by omega)
  have hM1 : jv_M (jx_up m1 1 0 4 ((n : Int) + 1)) d e q := jv_M_C (fct_C fct1) hM
  refine cl_126 (hM1.1.1.2.1.trans en) (by omega) (fun _ => ?_) (fun z => absurd g.2 z.2) (fun z => absurd g.1 z)
  refine jv_town (d' := dt_ns d n a b c) (m1 := jx_up m1 1 0 4 ((n : Int) + 1)) hw hC hM ?_ fct1 ?_ ?_ ?_ ?_ ?_ (K _ _)
  · exact ns_w hw.1 en.symm g.2 g.1.1 g.1.2.1 g.1.2.2
  · exact ⟨funext fun i => funext fun j => (up_ne (by omega)).trans (f1 20 i j (by omega)), funext fun i => funext fun j => (up_ne (by omega)).trans (f1 21 i j (by omega))⟩
  · obtain ⟨r1, r2, r3, r4, r5, r6, r7, r8, r9⟩ := hC.1
    have g9 : ∀ s i j, ¬ (6 ≤ s ∧ s ≤ 8 ∧ i = 6 * 0 + n) → ¬ (s = 1 ∧ i = 0 ∧ j = 4) → jx_up m1 1 0 4 ((n : Int) + 1) s i j = m s i j := fun s i j q1 q2 => (up_ne (by omega)).trans (f1 s i j q1)
    refine ⟨fun c' hc' => (g9 2 0 c' (by omega) (by omega)).trans (r1 c' hc'), up_eq, (g9 1 0 5 (by omega) (by omega)).trans r3, (g9 1 0 6 (by omega) (by omega)).trans r4, (g9 1 0 7 (by omega) (by omega)).trans r5, (g9 1 0 8 (by omega) (by omega)).trans r6, fun o ho => ?_, fun b' hb' k hk => (g9 9 _ k (by omega) (by omega)).trans (r8 b' hb' k hk), fun w' hw' k hk => (g9 10 _ k (by omega) (by omega)).trans (r9 w' hw' k hk)⟩
    have ho : (o : Int) < (n : Int) + 1 := ho
    rcases Nat.decEq o n with q5 | q5
    · exact ns_rcS q5 (fun a' i ha' => g9 a' _ i (by omega) (by omega)) (r7 o (by omega))
    · subst q5
      have s1 : sl_new (jx_up m1 1 0 4 ((o : Int) + 1)) (6 * 0 + o) a b c := s1
      obtain ⟨s1, s2, s3, s4, s5, s6, s7, s8, s9⟩ := s1
      unfold rc_S
      rw [ns_lift, show dt_ns d o a b c 2 o 4 = 1 from ns_2 4, show dt_ns d o a b c 2 o 5 = 1 from ns_2 5, show dt_ns d o a b c 2 o 0 = a from ns_2 0, show dt_ns d o a b c 2 o 1 = b from ns_2 1, show dt_ns d o a b c 2 o 2 = 0 from ns_2 2, show dt_ns d o a b c 2 o 3 = c from ns_2 3]
      refine ⟨s1, s2, s3, s4, s5, s6, s7, fun i hi => ?_, fun i hi => ?_⟩
      · obtain rfl : i = 0 := by omega
        rw [ns_3]; exact s8
      · obtain rfl : i = 0 := by omega
        rw [ns_4]; exact s9
  · intro s i j hn'
    unfold ms_new
    rw [up_ne (by omega), up_ne (by omega), up_ne (by omega), up_ne (by omega), up_ne (by omega), up_ne (by omega), up_ne (by omega), up_ne (by omega), up_ne (by omega)]
  · unfold ms_new
    exact ⟨by rw [up_ne (by omega), up_ne (by omega), up_ne (by omega), up_ne (by omega), up_ne (by omega), up_ne (by omega), up_ne (by omega), up_ne (by omega), up_ne (by omega)], by rw [up_so (by omega), up_so (by omega), up_so (by omega), up_so (by omega), up_so (by omega), up_so (by omega), up_so (by omega), up_so (by omega), up_so (by omega)]⟩
  · exact ns_rm hw.1 en.symm hM1.1.1
