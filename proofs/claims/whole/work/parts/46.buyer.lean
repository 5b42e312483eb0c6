/-! a new buyer, a new window -/
def dt_nb (d : jx_M) (n : Nat) (x0 x1 x2 x3 : Int) : jx_M := fun a b c => if a = 1 ∧ b = 0 ∧ c = 1 then (n : Int) + 1 else if a = 5 ∧ b = n then (if c = 0 then x0 else if c = 1 then x1 else if c = 2 then x2 else x3) else d a b c
theorem nb_n {d : jx_M} {n : Nat} {x0 x1 x2 x3 : Int} (c : Nat) : dt_nb d n x0 x1 x2 x3 5 n c = (if c = 0 then x0 else if c = 1 then x1 else if c = 2 then x2 else x3) := by
  unfold dt_nb
  rw [if_neg (by omega), if_pos ⟨rfl, rfl⟩]
theorem nb_o {d : jx_M} {n : Nat} {x0 x1 x2 x3 : Int} {o c : Nat} (ho : o ≠ n) : dt_nb d n x0 x1 x2 x3 5 o c = d 5 o c := by
  unfold dt_nb
  rw [if_neg (by omega), if_neg (by omega)]
def c_nb (m : jx_M) (n : Nat) (x0 x1 x2 x3 : Int) : jx_M := (jx_up (jx_up (jx_up (jx_up (jx_up m 9 (12 * 0 + n) 0 x0) 9 (12 * 0 + n) 1 x1) 9 (12 * 0 + n) 2 x2) 9 (12 * 0 + n) 3 x3) 1 0 5 ((n : Int) + 1))
def m_nb (m : jx_M) (n : Nat) (x0 x1 x2 x3 : Int) : jx_M := (jx_up (jx_up (jx_up (jx_up (jx_up m 31 0 (4 * n) x0) 31 0 (4 * n + 1) x1) 31 0 (4 * n + 2) x2) 31 0 (4 * n + 3) x3) 26 0 7 ((n : Int) + 1))
theorem nb_rc {d m : jx_M} {n : Nat} {x0 x1 x2 x3 : Int} (hn : (n : Int) = d 1 0 1) (hr : rc_T m 0 d) : rc_T (c_nb m n x0 x1 x2 x3) 0 (dt_nb d n x0 x1 x2 x3) := by
  have fr : ∀ s i j, ¬ (s = 1 ∧ i = 0 ∧ j = 5) → ¬ (s = 9 ∧ i = 12 * 0 + n) → c_nb m n x0 x1 x2 x3 s i j = m s i j := fun s i j q1 q2 => by
    unfold c_nb
    rw [up_ne (by omega), up_ne (by omega), up_ne (by omega), up_ne (by omega), up_ne (by omega)]
  have nw : ∀ q, q < 4 → c_nb m n x0 x1 x2 x3 9 (12 * 0 + n) q = dt_nb d n x0 x1 x2 x3 5 n q := fun q hq => by
    rw [nb_n]
    unfold c_nb
    match q, hq with
    | 0, _ => show _ = x0; rw [up_ne (by omega), up_ne (by omega), up_ne (by omega), up_ne (by omega), up_eq]
    | 1, _ => show _ = x1; rw [up_ne (by omega), up_ne (by omega), up_ne (by omega), up_eq]
    | 2, _ => show _ = x2; rw [up_ne (by omega), up_ne (by omega), up_eq]
    | 3, _ => show _ = x3; rw [up_ne (by omega), up_eq]
  obtain ⟨h1, h2, h3, h4, h5, h6, h7, h8, h9⟩ := hr
  have hS : ∀ s : Nat, (s : Int) < d 1 0 0 → rc_S (c_nb m n x0 x1 x2 x3) (6 * 0 + s) (dt_nb d n x0 x1 x2 x3) s := fun s hs => rc_S_fr (d := d) (fun a k ha => fr a _ k (by omega) (by omega)) (h7 s hs)
  refine ⟨fun c hc => (fr 2 0 c (by omega) (by omega)).trans (h1 c hc), (fr 1 0 4 (by omega) (by omega)).trans h2, up_eq, (fr 1 0 6 (by omega) (by omega)).trans h4, (fr 1 0 7 (by omega) (by omega)).trans h5, (fr 1 0 8 (by omega) (by omega)).trans h6, hS, fun o ho q hq => ?_, fun b hb k hk => (fr 10 _ k (by omega) (by omega)).trans (h9 b hb k hk)⟩
  have ho : (o : Int) < (n : Int) + 1 := ho
  rcases Nat.decEq o n with q5 | q5
  · rw [nb_o q5, fr 9 _ q (by omega) (by omega)]; exact h8 o (by omega) q hq
  · subst q5; exact nw q hq
theorem nb_rm {d m : jx_M} {n : Nat} {x0 x1 x2 x3 : Int} (hn : (n : Int) = d 1 0 1) (hr : rm_T m d) : rm_T (m_nb m n x0 x1 x2 x3) (dt_nb d n x0 x1 x2 x3) := by
  have fr : ∀ s j, ¬ (s = 26 ∧ j = 7) → ¬ (s = 31 ∧ 4 * n ≤ j) → m_nb m n x0 x1 x2 x3 s 0 j = m s 0 j := fun s j q1 q2 => by
    unfold m_nb
    rw [up_ne (by omega), up_ne (by omega), up_ne (by omega), up_ne (by omega), up_ne (by omega)]
  have nw : ∀ q, q < 4 → m_nb m n x0 x1 x2 x3 31 0 (4 * n + q) = dt_nb d n x0 x1 x2 x3 5 n q := fun q hq => by
    rw [nb_n]
    unfold m_nb
    match q, hq with
    | 0, _ => show _ = x0; rw [up_ne (by omega), up_ne (by omega), up_ne (by omega), up_ne (by omega)]; exact up_eq
    | 1, _ => show _ = x1; rw [up_ne (by omega), up_ne (by omega), up_ne (by omega)]; exact up_eq
    | 2, _ => show _ = x2; rw [up_ne (by omega), up_ne (by omega)]; exact up_eq
    | 3, _ => show _ = x3; rw [up_ne (by omega)]; exact up_eq
  obtain ⟨h1, h2, h3, h4, h5, h6, h7, h8, h9⟩ := hr
  have hS : ∀ s : Nat, (s : Int) < d 1 0 0 → (∀ k, k < 4 → m_nb m n x0 x1 x2 x3 28 0 (4 * s + k) = d 2 s k) ∧ m_nb m n x0 x1 x2 x3 29 0 (13 * s) = d 2 s 4 ∧ m_nb m n x0 x1 x2 x3 30 0 (7 * s) = d 2 s 5 ∧ (∀ i : Nat, (i : Int) < d 2 s 4 → m_nb m n x0 x1 x2 x3 29 0 (13 * s + 1 + i) = d 3 s i) ∧ (∀ i : Nat, (i : Int) < d 2 s 5 → m_nb m n x0 x1 x2 x3 30 0 (7 * s + 1 + i) = d 4 s i) := fun s hs => by
    obtain ⟨r1, r2, r3, r4, r5⟩ := h7 s hs
    exact ⟨fun k hk => (fr 28 _ (by omega) (by omega)).trans (r1 k hk), (fr 29 _ (by omega) (by omega)).trans r2, (fr 30 _ (by omega) (by omega)).trans r3, fun i hi => (fr 29 _ (by omega) (by omega)).trans (r4 i hi), fun i hi => (fr 30 _ (by omega) (by omega)).trans (r5 i hi)⟩
  refine ⟨fun c hc => (fr 27 c (by omega) (by omega)).trans (h1 c hc), (fr 26 1 (by omega) (by omega)).trans h2, up_eq, (fr 26 9 (by omega) (by omega)).trans h4, (fr 26 5 (by omega) (by omega)).trans h5, (fr 26 6 (by omega) (by omega)).trans h6, hS, fun o ho q hq => ?_, fun b hb k hk => (fr 32 _ (by omega) (by omega)).trans (h9 b hb k hk)⟩
  have ho : (o : Int) < (n : Int) + 1 := ho
  rcases Nat.decEq o n with q5 | q5
  · rw [nb_o q5, fr 31 _ (by omega) (by omega)]; exact h8 o (by omega) q hq
  · subst q5; exact nw q hq
theorem cl_60 {n : Nat} {x0 x1 x2 x3 : Int} {m : jx_M} {Q : Int → jx_M → Prop} (hn : m 1 0 5 = (n : Int)) (h1 : ((0 ≤ x0 ∧ x0 ≤ 24) ∧ (0 ≤ x1 ∧ x1 ≤ 3) ∧ (0 ≤ x2 ∧ x2 ≤ 5) ∧ (0 ≤ x3 ∧ x3 ≤ 20)) ∧ n < 12 → Q (n : Int) (c_nb m n x0 x1 x2 x3)) (hF : ((0 ≤ x0 ∧ x0 ≤ 24) ∧ (0 ≤ x1 ∧ x1 ≤ 3) ∧ (0 ≤ x2 ∧ x2 ≤ 5) ∧ (0 ≤ x3 ∧ x3 ≤ 20)) ∧ ¬ n < 12 → Q (-3) m) (h0 : ¬ ((0 ≤ x0 ∧ x0 ≤ 24) ∧ (0 ≤ x1 ∧ x1 ≤ 3) ∧ (0 ≤ x2 ∧ x2 ≤ 5) ∧ (0 ≤ x3 ∧ x3 ≤ 20)) → Q (-1) m) : jx_Cl 60 [xA 0 0, xI x0, xI x1, xI x2, xI x3] m Q := by
  unfold c_nb at h1
  refine sg_60 x0 x1 x2 x3 m Q (cl_11 (fun g1 => ⟨fun z => by omega, fun _ => cl_14 (fun g2 => ⟨fun z => by omega, fun _ => cl_12 (fun g3 => ⟨fun z => by omega, fun _ => cl_12 (fun g4 => ⟨fun z => by omega, fun _ => ?_⟩) (fun g => ⟨fun _ => h0 (by omega), fun z => by omega⟩)⟩) (fun g => ⟨fun _ => h0 (by omega), fun z => by omega⟩)⟩) (fun g => ⟨fun _ => h0 (by omega), fun z => by omega⟩)⟩) (fun g => ⟨fun _ => h0 (by omega), fun z => by omega⟩))
  rw [hn, show ((n : Int)).toNat = n by omega]
  refine ⟨by omega, by omega, fun q => ⟨by omega, by omega, by omega, by omega, by omega, by omega, by omega, sg_61 _ _ _ _ _ _ _ ⟨by omega, by omega, by omega, by omega, ?_⟩⟩, fun q => hF (by omega)⟩
  exact ⟨by omega, by omega, by omega, h1 (by omega)⟩
theorem cl_155 {n : Nat} {x0 x1 x2 x3 : Int} {m : jx_M} {Q : Int → jx_M → Prop} (hn : m 26 0 7 = (n : Int)) (hn2 : n ≤ 12) (h1 : ((0 ≤ x0 ∧ x0 ≤ 24) ∧ (0 ≤ x1 ∧ x1 ≤ 3) ∧ (0 ≤ x2 ∧ x2 ≤ 5) ∧ (0 ≤ x3 ∧ x3 ≤ 20)) ∧ n < 12 → Q (n : Int) (m_nb m n x0 x1 x2 x3)) (hF : ((0 ≤ x0 ∧ x0 ≤ 24) ∧ (0 ≤ x1 ∧ x1 ≤ 3) ∧ (0 ≤ x2 ∧ x2 ≤ 5) ∧ (0 ≤ x3 ∧ x3 ≤ 20)) ∧ ¬ n < 12 → Q (-3) m) (h0 : ¬ ((0 ≤ x0 ∧ x0 ≤ 24) ∧ (0 ≤ x1 ∧ x1 ≤ 3) ∧ (0 ≤ x2 ∧ x2 ≤ 5) ∧ (0 ≤ x3 ∧ x3 ≤ 20)) → Q (-1) m) : jx_Cl 155 [xA 26 0, xI x0, xI x1, xI x2, xI x3] m Q := by
  unfold m_nb at h1
  refine sg_155 x0 x1 x2 x3 m Q (cl_124 (fun g1 => ⟨fun z => by omega, fun _ => cl_125 (fun g2 => ⟨fun z => by omega, fun _ => cl_125 (fun g3 => ⟨fun z => by omega, fun _ => cl_125 (fun g4 => ⟨fun z => by omega, fun _ => ?_⟩) (fun g => ⟨fun _ => h0 (by omega), fun z => by omega⟩)⟩) (fun g => ⟨fun _ => h0 (by omega), fun z => by omega⟩)⟩) (fun g => ⟨fun _ => h0 (by omega), fun z => by omega⟩)⟩) (fun g => ⟨fun _ => h0 (by omega), fun z => by omega⟩))
  simp only [up_so (show (26 : Nat) ≠ 31 by decide), up_eq, hn]
  rw [show (4 * (n : Int)).toNat = 4 * n by omega, show (4 * (n : Int) + 1).toNat = 4 * n + 1 by omega, show (4 * (n : Int) + 2).toNat = 4 * n + 2 by omega, show (4 * (n : Int) + 3).toNat = 4 * n + 3 by omega, show (n : Int) + 1 - 1 = (n : Int) by omega]
  repeat' (first | exact trivial | omega | exact hF (by omega) | exact h1 (by omega) | apply And.intro | intro _)
theorem pr_15 {x0 x1 x2 x3 : Int} {m : jx_M} {R : Int → Int → jx_M → Prop} (hI : jv_I m) (K : ∀ z m2, jv_I m2 → fS m m2 → R z z m2) : jx_Cl 60 [xA 0 0, xI x0, xI x1, xI x2, xI x3] m (fun z1 m1 => jx_Cl 155 [xA 26 0, xI x0, xI x1, xI x2, xI x3] m1 (fun z2 m2 => R z1 z2 m2)) := by
  obtain ⟨d, e, q, hw, hC, hM⟩ := hI
  have k := fun z => jv_ask (G := R z z m) hw hC hM (fcs_r m) (fms_r m) (K z m)
  have hn := hw.1.2.2.1
  obtain ⟨n, en⟩ : ∃ n : Nat, d 1 0 1 = (n : Int) := ⟨(d 1 0 1).toNat, by omega⟩
  have e1 : m 1 0 5 = (n : Int) := hC.1.2.2.1.trans en
  have e2 : m 26 0 7 = (n : Int) := hM.1.1.2.2.1.trans en
  refine cl_60 e1 (fun g => ?_) (fun g => cl_155 e2 (by omega) (fun z => absurd z.2 g.2) (fun _ => k _) (fun z => absurd g.1 z)) (fun g => cl_155 e2 (by omega) (fun z => absurd z.1 g) (fun z => absurd z.1 g) (fun _ => k _))
  have fct1 : fct m (c_nb m n x0 x1 x2 x3) := fun s i j hn' => by
    unfold c_nb
    rw [up_ne (by omega), up_ne (by omega), up_ne (by omega), up_ne (by omega), up_ne (by omega)]
  have hM1 : jv_M (c_nb m n x0 x1 x2 x3) d e q := jv_M_C (fct_C fct1) hM
  refine cl_155 (hM1.1.1.2.2.1.trans en) (by omega) (fun _ => ?_) (fun z => absurd g.2 z.2) (fun z => absurd g.1 z)
  refine jv_town (d' := dt_nb d n x0 x1 x2 x3) (m1 := (c_nb m n x0 x1 x2 x3)) hw hC hM ?_ fct1 ?_ ?_ ?_ ?_ ?_ (K _ _)
  · obtain ⟨h1, h2, h3, h4, h5, h6, h7, h8, h9⟩ := hw.1
    refine ⟨h1, h2, ?_, h4, h5, h6, h7, fun o ho => ?_, h9⟩
    · show 0 ≤ (n : Int) + 1 ∧ (n : Int) + 1 ≤ 12; omega
    · have ho : (o : Int) < (n : Int) + 1 := ho
      unfold dt_wB
      rcases Nat.decEq o n with q5 | q5
      · rw [nb_o q5, nb_o q5, nb_o q5, nb_o q5]; exact h8 o (by omega)
      · subst q5; rw [nb_n, nb_n, nb_n, nb_n]; exact g.1
  · unfold c_nb
    exact ⟨by rw [up_so (by omega), up_so (by omega), up_so (by omega), up_so (by omega), up_so (by omega)], by rw [up_so (by omega), up_so (by omega), up_so (by omega), up_so (by omega), up_so (by omega)]⟩
  · exact nb_rc en.symm hC.1
  · intro s i j hn'
    unfold m_nb
    rw [up_ne (by omega), up_ne (by omega), up_ne (by omega), up_ne (by omega), up_ne (by omega)]
  · refine ⟨?_, ?_⟩
    · unfold m_nb
      rw [up_ne (by omega), up_ne (by omega), up_ne (by omega), up_ne (by omega), up_ne (by omega)]
    · unfold m_nb
      rw [up_so (by omega), up_so (by omega), up_so (by omega), up_so (by omega), up_so (by omega)]
  · exact nb_rm en.symm hM1.1.1
def dt_nw (d : jx_M) (n : Nat) (x0 x1 x2 : Int) : jx_M := fun a b c => if a = 1 ∧ b = 0 ∧ c = 2 then (n : Int) + 1 else if a = 6 ∧ b = n then (if c = 0 then x0 else if c = 1 then x1 else x2) else d a b c
theorem nw_n {d : jx_M} {n : Nat} {x0 x1 x2 : Int} (c : Nat) : dt_nw d n x0 x1 x2 6 n c = (if c = 0 then x0 else if c = 1 then x1 else x2) := by
  unfold dt_nw
  rw [if_neg (by omega), if_pos ⟨rfl, rfl⟩]
theorem nw_o {d : jx_M} {n : Nat} {x0 x1 x2 : Int} {o c : Nat} (ho : o ≠ n) : dt_nw d n x0 x1 x2 6 o c = d 6 o c := by
  unfold dt_nw
  rw [if_neg (by omega), if_neg (by omega)]
def c_nw (m : jx_M) (n : Nat) (x0 x1 x2 : Int) : jx_M := (jx_up (jx_up (jx_up (jx_up m 10 (12 * 0 + n) 0 x0) 10 (12 * 0 + n) 1 x1) 10 (12 * 0 + n) 2 x2) 1 0 6 ((n : Int) + 1))
def m_nw (m : jx_M) (n : Nat) (x0 x1 x2 : Int) : jx_M := (jx_up (jx_up (jx_up (jx_up m 32 0 (3 * n) x0) 32 0 (3 * n + 1) x1) 32 0 (3 * n + 2) x2) 26 0 9 ((n : Int) + 1))
theorem nw_rc {d m : jx_M} {n : Nat} {x0 x1 x2 : Int} (hn : (n : Int) = d 1 0 2) (hr : rc_T m 0 d) : rc_T (c_nw m n x0 x1 x2) 0 (dt_nw d n x0 x1 x2) := by
  have fr : ∀ s i j, ¬ (s = 1 ∧ i = 0 ∧ j = 6) → ¬ (s = 10 ∧ i = 12 * 0 + n) → c_nw m n x0 x1 x2 s i j = m s i j := fun s i j q1 q2 => by
    unfold c_nw
    rw [up_ne (by omega), up_ne (by omega), up_ne (by omega), up_ne (by omega)]
  have nw : ∀ q, q < 3 → c_nw m n x0 x1 x2 10 (12 * 0 + n) q = dt_nw d n x0 x1 x2 6 n q := fun q hq => by
    rw [nw_n]
    unfold c_nw
    match q, hq with
    | 0, _ => show _ = x0; rw [up_ne (by omega), up_ne (by omega), up_ne (by omega), up_eq]
    | 1, _ => show _ = x1; rw [up_ne (by omega), up_ne (by omega), up_eq]
    | 2, _ => show _ = x2; rw [up_ne (by omega), up_eq]
  obtain ⟨h1, h2, h3, h4, h5, h6, h7, h8, h9⟩ := hr
  have hS : ∀ s : Nat, (s : Int) < d 1 0 0 → rc_S (c_nw m n x0 x1 x2) (6 * 0 + s) (dt_nw d n x0 x1 x2) s := fun s hs => rc_S_fr (d := d) (fun a k ha => fr a _ k (by omega) (by omega)) (h7 s hs)
  refine ⟨fun c hc => (fr 2 0 c (by omega) (by omega)).trans (h1 c hc), (fr 1 0 4 (by omega) (by omega)).trans h2, (fr 1 0 5 (by omega) (by omega)).trans h3, up_eq, (fr 1 0 7 (by omega) (by omega)).trans h5, (fr 1 0 8 (by omega) (by omega)).trans h6, hS, fun b hb k hk => (fr 9 _ k (by omega) (by omega)).trans (h8 b hb k hk), fun o ho q hq => ?_⟩
  have ho : (o : Int) < (n : Int) + 1 := ho
  rcases Nat.decEq o n with q5 | q5
  · rw [nw_o q5, fr 10 _ q (by omega) (by omega)]; exact h9 o (by omega) q hq
  · subst q5; exact nw q hq
theorem nw_rm {d m : jx_M} {n : Nat} {x0 x1 x2 : Int} (hn : (n : Int) = d 1 0 2) (hr : rm_T m d) : rm_T (m_nw m n x0 x1 x2) (dt_nw d n x0 x1 x2) := by
  have fr : ∀ s j, ¬ (s = 26 ∧ j = 9) → ¬ (s = 32 ∧ 3 * n ≤ j) → m_nw m n x0 x1 x2 s 0 j = m s 0 j := fun s j q1 q2 => by
    unfold m_nw
    rw [up_ne (by omega), up_ne (by omega), up_ne (by omega), up_ne (by omega)]
  have nw : ∀ q, q < 3 → m_nw m n x0 x1 x2 32 0 (3 * n + q) = dt_nw d n x0 x1 x2 6 n q := fun q hq => by
    rw [nw_n]
    unfold m_nw
    match q, hq with
    | 0, _ => show _ = x0; rw [up_ne (by omega), up_ne (by omega), up_ne (by omega)]; exact up_eq
    | 1, _ => show _ = x1; rw [up_ne (by omega), up_ne (by omega)]; exact up_eq
    | 2, _ => show _ = x2; rw [up_ne (by omega)]; exact up_eq
  obtain ⟨h1, h2, h3, h4, h5, h6, h7, h8, h9⟩ := hr
  have hS : ∀ s : Nat, (s : Int) < d 1 0 0 → (∀ k, k < 4 → m_nw m n x0 x1 x2 28 0 (4 * s + k) = d 2 s k) ∧ m_nw m n x0 x1 x2 29 0 (13 * s) = d 2 s 4 ∧ m_nw m n x0 x1 x2 30 0 (7 * s) = d 2 s 5 ∧ (∀ i : Nat, (i : Int) < d 2 s 4 → m_nw m n x0 x1 x2 29 0 (13 * s + 1 + i) = d 3 s i) ∧ (∀ i : Nat, (i : Int) < d 2 s 5 → m_nw m n x0 x1 x2 30 0 (7 * s + 1 + i) = d 4 s i) := fun s hs => by
    obtain ⟨r1, r2, r3, r4, r5⟩ := h7 s hs
    exact ⟨fun k hk => (fr 28 _ (by omega) (by omega)).trans (r1 k hk), (fr 29 _ (by omega) (by omega)).trans r2, (fr 30 _ (by omega) (by omega)).trans r3, fun i hi => (fr 29 _ (by omega) (by omega)).trans (r4 i hi), fun i hi => (fr 30 _ (by omega) (by omega)).trans (r5 i hi)⟩
  refine ⟨fun c hc => (fr 27 c (by omega) (by omega)).trans (h1 c hc), (fr 26 1 (by omega) (by omega)).trans h2, (fr 26 7 (by omega) (by omega)).trans h3, up_eq, (fr 26 5 (by omega) (by omega)).trans h5, (fr 26 6 (by omega) (by omega)).trans h6, hS, fun b hb k hk => (fr 31 _ (by omega) (by omega)).trans (h8 b hb k hk), fun o ho q hq => ?_⟩
  have ho : (o : Int) < (n : Int) + 1 := ho
  rcases Nat.decEq o n with q5 | q5
  · rw [nw_o q5, fr 32 _ (by omega) (by omega)]; exact h9 o (by omega) q hq
  · subst q5; exact nw q hq
theorem cl_96 {n : Nat} {x0 x1 x2 : Int} {m : jx_M} {Q : Int → jx_M → Prop} (hx2 : x2 = 0 ∨ x2 = 1) (hn : m 1 0 6 = (n : Int)) (h1 : ((0 ≤ x0 ∧ x0 ≤ 24) ∧ (0 ≤ x1 ∧ x1 ≤ 119)) ∧ n < 12 → Q ((n : Int) + 1) (c_nw m n x0 x1 x2)) (hF : ((0 ≤ x0 ∧ x0 ≤ 24) ∧ (0 ≤ x1 ∧ x1 ≤ 119)) ∧ ¬ n < 12 → Q (-3) m) (h0 : ¬ ((0 ≤ x0 ∧ x0 ≤ 24) ∧ (0 ≤ x1 ∧ x1 ≤ 119)) → Q (-1) m) : jx_Cl 96 [xA 0 0, xI x0, xI x1, xI x2] m Q := by
  unfold c_nw at h1
  refine sg_96 x0 x1 x2 m Q (cl_11 (fun g1 => ⟨fun z => by omega, fun _ => cl_21 (fun g2 => ⟨fun z => by omega, fun _ => ?_⟩) (fun g => ⟨fun _ => h0 (by omega), fun z => by omega⟩)⟩) (fun g => ⟨fun _ => h0 (by omega), fun z => by omega⟩))
  rw [hn, show ((n : Int)).toNat = n by omega]
  refine ⟨by omega, by omega, fun q => ⟨by omega, by omega, by omega, by omega, by omega, by omega, by omega, sg_78 _ _ _ _ _ _ ⟨by omega, by omega, by omega, hx2, ?_⟩⟩, fun q => hF (by omega)⟩
  simp only [up_so (show (1 : Nat) ≠ 10 by decide), up_eq, hn]
  exact ⟨by omega, by omega, by omega, by omega, by omega, by omega, h1 (by omega)⟩
theorem cl_172 {n : Nat} {x0 x1 x2 : Int} {m : jx_M} {Q : Int → jx_M → Prop} (hx2 : x2 = 0 ∨ x2 = 1) (hn : m 26 0 9 = (n : Int)) (hn2 : n ≤ 12) (h1 : ((0 ≤ x0 ∧ x0 ≤ 24) ∧ (0 ≤ x1 ∧ x1 ≤ 119)) ∧ n < 12 → Q ((n : Int) + 1) (m_nw m n x0 x1 x2)) (hF : ((0 ≤ x0 ∧ x0 ≤ 24) ∧ (0 ≤ x1 ∧ x1 ≤ 119)) ∧ ¬ n < 12 → Q (-3) m) (h0 : ¬ ((0 ≤ x0 ∧ x0 ≤ 24) ∧ (0 ≤ x1 ∧ x1 ≤ 119)) → Q (-1) m) : jx_Cl 172 [xA 26 0, xI x0, xI x1, xI x2] m Q := by
  unfold m_nw at h1
  refine sg_172 x0 x1 x2 m Q (cl_124 (fun g1 => ⟨fun z => by omega, fun _ => cl_128 (fun g2 => ⟨fun z => by omega, fun _ => ?_⟩) (fun g => ⟨fun _ => h0 (by omega), fun z => by omega⟩)⟩) (fun g => ⟨fun _ => h0 (by omega), fun z => by omega⟩))
  simp only [up_so (show (26 : Nat) ≠ 32 by decide), up_eq, hn]
  rw [show (3 * (n : Int)).toNat = 3 * n by omega, show (3 * (n : Int) + 1).toNat = 3 * n + 1 by omega, show (3 * (n : Int) + 2).toNat = 3 * n + 2 by omega]
  rcases hx2 with rfl | rfl
  · repeat' (first | exact trivial | omega | exact hF (by omega) | exact h1 (by omega) | apply And.intro | intro _)
  · repeat' (first | exact trivial | omega | exact hF (by omega) | exact h1 (by omega) | apply And.intro | intro _)
theorem pr_25 {x0 x1 x2 : Int} {m : jx_M} {R : Int → Int → jx_M → Prop} (hx2 : x2 = 0 ∨ x2 = 1) (hI : jv_I m) (K : ∀ z m2, jv_I m2 → fS m m2 → R z z m2) : jx_Cl 96 [xA 0 0, xI x0, xI x1, xI x2] m (fun z1 m1 => jx_Cl 172 [xA 26 0, xI x0, xI x1, xI x2] m1 (fun z2 m2 => R z1 z2 m2)) := by
  obtain ⟨d, e, q, hw, hC, hM⟩ := hI
  have k := fun z => jv_ask (G := R z z m) hw hC hM (fcs_r m) (fms_r m) (K z m)
  have hn := hw.1.2.2.2.1
  obtain ⟨n, en⟩ : ∃ n : Nat, d 1 0 2 = (n : Int) := ⟨(d 1 0 2).toNat, by omega⟩
  have e1 : m 1 0 6 = (n : Int) := hC.1.2.2.2.1.trans en
  have e2 : m 26 0 9 = (n : Int) := hM.1.1.2.2.2.1.trans en
  refine cl_96 hx2 e1 (fun g => ?_) (fun g => cl_172 hx2 e2 (by omega) (fun z => absurd z.2 g.2) (fun _ => k _) (fun z => absurd g.1 z)) (fun g => cl_172 hx2 e2 (by omega) (fun z => absurd z.1 g) (fun z => absurd z.1 g) (fun _ => k _))
  have fct1 : fct m (c_nw m n x0 x1 x2) := fun s i j hn' => by
    unfold c_nw
    rw [up_ne (by omega), up_ne (by omega), up_ne (by omega), up_ne (by omega)]
  have hM1 : jv_M (c_nw m n x0 x1 x2) d e q := jv_M_C (fct_C fct1) hM
  refine cl_172 hx2 (hM1.1.1.2.2.2.1.trans en) (by omega) (fun _ => ?_) (fun z => absurd g.2 z.2) (fun z => absurd g.1 z)
  refine jv_town (d' := dt_nw d n x0 x1 x2) (m1 := (c_nw m n x0 x1 x2)) hw hC hM ?_ fct1 ?_ ?_ ?_ ?_ ?_ (K _ _)
  · obtain ⟨h1, h2, h3, h4, h5, h6, h7, h8, h9⟩ := hw.1
    refine ⟨h1, h2, h3, ?_, h5, h6, h7, h8, fun o ho => ?_⟩
    · show 0 ≤ (n : Int) + 1 ∧ (n : Int) + 1 ≤ 12; omega
    · have ho : (o : Int) < (n : Int) + 1 := ho
      unfold dt_wW
      rcases Nat.decEq o n with q5 | q5
      · rw [nw_o q5, nw_o q5, nw_o q5]; exact h9 o (by omega)
      · subst q5; rw [nw_n, nw_n, nw_n]; exact ⟨g.1.1, g.1.2, hx2⟩
  · unfold c_nw
    exact ⟨by rw [up_so (by omega), up_so (by omega), up_so (by omega), up_so (by omega)], by rw [up_so (by omega), up_so (by omega), up_so (by omega), up_so (by omega)]⟩
  · exact nw_rc en.symm hC.1
  · intro s i j hn'
    unfold m_nw
    rw [up_ne (by omega), up_ne (by omega), up_ne (by omega), up_ne (by omega)]
  · refine ⟨?_, ?_⟩
    · unfold m_nw
      rw [up_ne (by omega), up_ne (by omega), up_ne (by omega), up_ne (by omega)]
    · unfold m_nw
      rw [up_so (by omega), up_so (by omega), up_so (by omega), up_so (by omega)]
  · exact nw_rm en.symm hM1.1.1
