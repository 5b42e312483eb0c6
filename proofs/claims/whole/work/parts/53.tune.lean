/-! a tune, a round: what is taken over -/
def dt_tu (d : jx_M) (s : Nat) (n : Int) (v : Nat → Int) : jx_M := fun a b c => if a = 2 ∧ b = s ∧ c = 5 then n else if a = 4 ∧ b = s then v c else d a b c
theorem tu_n {d : jx_M} {s : Nat} {n : Int} {v : Nat → Int} : dt_tu d s n v 2 s 5 = n := if_pos ⟨rfl, rfl, rfl⟩
theorem tu_v {d : jx_M} {s i : Nat} {n : Int} {v : Nat → Int} : dt_tu d s n v 4 s i = v i := by
  unfold dt_tu
  rw [if_neg (by omega), if_pos ⟨rfl, rfl⟩]
theorem tu_o {d : jx_M} {s x b q : Nat} {n : Int} {v : Nat → Int} (h : ¬ (x = 2 ∧ b = s ∧ q = 5)) (h2 : ¬ (x = 4 ∧ b = s)) : dt_tu d s n v x b q = d x b q := by
  unfold dt_tu
  rw [if_neg h, if_neg h2]
theorem tu_w {d : jx_M} {s : Nat} {n : Int} {v : Nat → Int} (hw : dt_w d) (hn : 1 ≤ n ∧ n ≤ 6) (hv : ∀ i : Nat, (i : Int) < n → 0 ≤ v i ∧ v i ≤ 9) : dt_w (dt_tu d s n v) := by
  obtain ⟨h1, h2, h3, h4, h5, h6, h7, h8, h9⟩ := hw
  refine ⟨h1, h2, h3, h4, h5, h6, fun x hx => ?_, h8, h9⟩
  obtain ⟨w1, w2, w3, w4, w5, w6, w7, w8⟩ := h7 x hx
  rcases Nat.decEq x s with q | q
  · unfold dt_wS
    rw [tu_o (by omega) (by omega), tu_o (by omega) (by omega), tu_o (by omega) (by omega), tu_o (by omega) (by omega), tu_o (by omega) (by omega), tu_o (by omega) (by omega)]
    exact ⟨w1, w2, w3, w4, w5, w6, fun i hi => by rw [tu_o (by omega) (by omega)]; exact w7 i hi, fun i hi => by rw [tu_o (by omega) (by omega)]; exact w8 i hi⟩
  · subst q
    unfold dt_wS
    rw [tu_n, tu_o (q := 0) (by omega) (by omega), tu_o (q := 1) (by omega) (by omega), tu_o (q := 2) (by omega) (by omega), tu_o (q := 3) (by omega) (by omega), tu_o (q := 4) (by omega) (by omega)]
    exact ⟨w1, w2, w3, w4, w5, hn, fun i hi => by rw [tu_o (by omega) (by omega)]; exact w7 i hi, fun i hi => by rw [tu_v]; exact hv i hi⟩
theorem tu_rc {d m m' : jx_M} {o : Nat} {n : Int} {v : Nat → Int} (hr : rc_T m 0 d) (hf : ∀ s i j, ¬ ((s = 6 ∧ i = 6 * 0 + o ∧ (j = 3 ∨ j = 8)) ∨ (s = 8 ∧ i = 6 * 0 + o)) → m' s i j = m s i j) (hn : m' 6 (6 * 0 + o) 3 = n) (h8' : m' 6 (6 * 0 + o) 8 = dt_sum v n.toNat / n / 3) (hv : ∀ i : Nat, (i : Int) < n → m' 8 (6 * 0 + o) i = v i) : rc_T m' 0 (dt_tu d o n v) := by
  obtain ⟨r1, r2, r3, r4, r5, r6, r7, r8, r9⟩ := hr
  refine ⟨fun c hc => (hf 2 0 c (by omega)).trans (r1 c hc), (hf 1 0 4 (by omega)).trans r2, (hf 1 0 5 (by omega)).trans r3, (hf 1 0 6 (by omega)).trans r4, (hf 1 0 7 (by omega)).trans r5, (hf 1 0 8 (by omega)).trans r6, fun x hx => ?_, fun b hb k hk => (hf 9 _ k (by omega)).trans (r8 b hb k hk), fun w hw k hk => (hf 10 _ k (by omega)).trans (r9 w hw k hk)⟩
  have hx : (x : Int) < d 1 0 0 := hx
  rcases Nat.decEq x o with q | q
  · obtain ⟨s1, s2, s3, s4, s5, s6, s7, s8, s9⟩ := rc_S_fr (m' := m') (fun a k ha => hf a (6 * 0 + x) k (by omega)) (r7 x hx)
    have e4 : dt_tu d o n v 4 x = d 4 x := funext fun c => tu_o (by omega) (by omega)
    unfold rc_S dt_lift
    rw [e4, tu_o (q := 0) (by omega) (by omega), tu_o (q := 1) (by omega) (by omega), tu_o (q := 2) (by omega) (by omega), tu_o (q := 3) (by omega) (by omega), tu_o (q := 4) (by omega) (by omega), tu_o (q := 5) (by omega) (by omega)]
    exact ⟨s1, s2, s3, s4, s5, s6, s7, fun i hi => by rw [tu_o (by omega) (by omega)]; exact s8 i hi, s9⟩
  · subst q
    obtain ⟨s1, s2, s3, s4, s5, s6, s7, s8, s9⟩ := r7 x hx
    unfold rc_S dt_lift
    have e4 : dt_tu d x n v 4 x = v := funext fun c => tu_v
    rw [e4, tu_n, tu_o (q := 0) (by omega) (by omega), tu_o (q := 1) (by omega) (by omega), tu_o (q := 2) (by omega) (by omega), tu_o (q := 3) (by omega) (by omega), tu_o (q := 4) (by omega) (by omega)]
    exact ⟨(hf 6 _ 4 (by omega)).trans s1, (hf 6 _ 5 (by omega)).trans s2, (hf 6 _ 6 (by omega)).trans s3, (hf 6 _ 7 (by omega)).trans s4, (hf 6 _ 2 (by omega)).trans s5, hn, h8', fun i hi => by rw [tu_o (by omega) (by omega), hf 7 _ i (by omega)]; exact s8 i hi, hv⟩
theorem tu_rm {d m m' : jx_M} {o : Nat} {n : Int} {v : Nat → Int} (hw : dt_w d) (hr : rm_T m d) (hn2 : 0 ≤ n ∧ n ≤ 6) (hf : ∀ s j, ¬ (s = 30 ∧ 7 * o ≤ j ∧ j < 7 * o + 7) → (26 ≤ s ∧ s ≤ 32) → ¬ (s = 26 ∧ ¬ (j = 1 ∨ j = 5 ∨ j = 6 ∨ j = 7 ∨ j = 9)) → m' s 0 j = m s 0 j) (hn : m' 30 0 (7 * o) = n) (hv : ∀ i : Nat, (i : Int) < n → m' 30 0 (7 * o + 1 + i) = v i) : rm_T m' (dt_tu d o n v) := by
  obtain ⟨h1, h2, h3, h4, h5, h6, h7, h8, h9⟩ := hr
  refine ⟨fun c hc => (hf 27 c (by omega) (by omega) (by omega)).trans (h1 c hc), (hf 26 1 (by omega) (by omega) (by omega)).trans h2, (hf 26 7 (by omega) (by omega) (by omega)).trans h3, (hf 26 9 (by omega) (by omega) (by omega)).trans h4, (hf 26 5 (by omega) (by omega) (by omega)).trans h5, (hf 26 6 (by omega) (by omega) (by omega)).trans h6, fun x hx => ?_, fun b hb k hk => (hf 31 _ (by omega) (by omega) (by omega)).trans (h8 b hb k hk), fun w hw k hk => (hf 32 _ (by omega) (by omega) (by omega)).trans (h9 w hw k hk)⟩
  have hx : (x : Int) < d 1 0 0 := hx
  obtain ⟨a1, a2, a3, a4, a5⟩ := h7 x hx
  have ws := hs_of hw x hx
  have w5 := ws.2.2.2.2.1
  have w6 := ws.2.2.2.2.2.1
  rcases Nat.decEq x o with q | q
  · rw [tu_o (q := 4) (by omega) (by omega), tu_o (q := 5) (by omega) (by omega)]
    exact ⟨fun k hk => by rw [tu_o (by omega) (by omega), hf 28 _ (by omega) (by omega) (by omega)]; exact a1 k hk, (hf 29 _ (by omega) (by omega) (by omega)).trans a2, (hf 30 _ (by omega) (by omega) (by omega)).trans a3, fun i hi => by rw [tu_o (by omega) (by omega), hf 29 _ (by omega) (by omega) (by omega)]; exact a4 i hi, fun i hi => by rw [tu_o (by omega) (by omega), hf 30 _ (by omega) (by omega) (by omega)]; exact a5 i hi⟩
  · subst q
    rw [tu_n, tu_o (q := 4) (by omega) (by omega)]
    exact ⟨fun k hk => by rw [tu_o (by omega) (by omega), hf 28 _ (by omega) (by omega) (by omega)]; exact a1 k hk, (hf 29 _ (by omega) (by omega) (by omega)).trans a2, hn, fun i hi => by rw [tu_o (by omega) (by omega), hf 29 _ (by omega) (by omega) (by omega)]; exact a4 i hi, fun i hi => by rw [tu_v]; exact hv i hi⟩
def dt_ro (d : jx_M) (s : Nat) (n : Int) (v : Nat → Int) : jx_M := fun a b c => if a = 2 ∧ b = s ∧ c = 4 then n else if a = 3 ∧ b = s then v c else d a b c
theorem ro_n {d : jx_M} {s : Nat} {n : Int} {v : Nat → Int} : dt_ro d s n v 2 s 4 = n := if_pos ⟨rfl, rfl, rfl⟩
theorem ro_v {d : jx_M} {s i : Nat} {n : Int} {v : Nat → Int} : dt_ro d s n v 3 s i = v i := by
  unfold dt_ro
  rw [if_neg (by omega), if_pos ⟨rfl, rfl⟩]
theorem ro_o {d : jx_M} {s x b q : Nat} {n : Int} {v : Nat → Int} (h : ¬ (x = 2 ∧ b = s ∧ q = 4)) (h2 : ¬ (x = 3 ∧ b = s)) : dt_ro d s n v x b q = d x b q := by
  unfold dt_ro
  rw [if_neg h, if_neg h2]
theorem ro_w {d : jx_M} {s : Nat} {n : Int} {v : Nat → Int} (hw : dt_w d) (hn : 1 ≤ n ∧ n ≤ 12) (hv : ∀ i : Nat, (i : Int) < n → 0 ≤ v i ∧ v i ≤ 24) : dt_w (dt_ro d s n v) := by
  obtain ⟨h1, h2, h3, h4, h5, h6, h7, h8, h9⟩ := hw
  refine ⟨h1, h2, h3, h4, h5, h6, fun x hx => ?_, h8, h9⟩
  obtain ⟨w1, w2, w3, w4, w5, w6, w7, w8⟩ := h7 x hx
  rcases Nat.decEq x s with q | q
  · unfold dt_wS
    rw [ro_o (by omega) (by omega), ro_o (by omega) (by omega), ro_o (by omega) (by omega), ro_o (by omega) (by omega), ro_o (by omega) (by omega), ro_o (by omega) (by omega)]
    exact ⟨w1, w2, w3, w4, w5, w6, fun i hi => by rw [ro_o (by omega) (by omega)]; exact w7 i hi, fun i hi => by rw [ro_o (by omega) (by omega)]; exact w8 i hi⟩
  · subst q
    unfold dt_wS
    rw [ro_n, ro_o (q := 0) (by omega) (by omega), ro_o (q := 1) (by omega) (by omega), ro_o (q := 2) (by omega) (by omega), ro_o (q := 3) (by omega) (by omega), ro_o (q := 5) (by omega) (by omega)]
    exact ⟨w1, w2, w3, w4, hn, w6, fun i hi => by rw [ro_v]; exact hv i hi, fun i hi => by rw [ro_o (by omega) (by omega)]; exact w8 i hi⟩
theorem ro_rc {d m m' : jx_M} {o : Nat} {n : Int} {v : Nat → Int} (hr : rc_T m 0 d) (hf : ∀ s i j, ¬ ((s = 6 ∧ i = 6 * 0 + o ∧ j = 2) ∨ (s = 7 ∧ i = 6 * 0 + o)) → m' s i j = m s i j) (hn : m' 6 (6 * 0 + o) 2 = n) (hv : ∀ i : Nat, (i : Int) < n → m' 7 (6 * 0 + o) i = v i) : rc_T m' 0 (dt_ro d o n v) := by
  obtain ⟨r1, r2, r3, r4, r5, r6, r7, r8, r9⟩ := hr
  refine ⟨fun c hc => (hf 2 0 c (by omega)).trans (r1 c hc), (hf 1 0 4 (by omega)).trans r2, (hf 1 0 5 (by omega)).trans r3, (hf 1 0 6 (by omega)).trans r4, (hf 1 0 7 (by omega)).trans r5, (hf 1 0 8 (by omega)).trans r6, fun x hx => ?_, fun b hb k hk => (hf 9 _ k (by omega)).trans (r8 b hb k hk), fun w hw k hk => (hf 10 _ k (by omega)).trans (r9 w hw k hk)⟩
  have hx : (x : Int) < d 1 0 0 := hx
  rcases Nat.decEq x o with q | q
  · obtain ⟨s1, s2, s3, s4, s5, s6, s7, s8, s9⟩ := rc_S_fr (m' := m') (fun a k ha => hf a (6 * 0 + x) k (by omega)) (r7 x hx)
    have e4 : dt_ro d o n v 4 x = d 4 x := funext fun c => ro_o (by omega) (by omega)
    unfold rc_S dt_lift
    rw [e4, ro_o (q := 0) (by omega) (by omega), ro_o (q := 1) (by omega) (by omega), ro_o (q := 2) (by omega) (by omega), ro_o (q := 3) (by omega) (by omega), ro_o (q := 4) (by omega) (by omega), ro_o (q := 5) (by omega) (by omega)]
    exact ⟨s1, s2, s3, s4, s5, s6, s7, fun i hi => by rw [ro_o (by omega) (by omega)]; exact s8 i hi, s9⟩
  · subst q
    obtain ⟨s1, s2, s3, s4, s5, s6, s7, s8, s9⟩ := r7 x hx
    unfold rc_S dt_lift
    have e4 : dt_ro d x n v 4 x = d 4 x := funext fun c => ro_o (by omega) (by omega)
    rw [e4, ro_n, ro_o (q := 0) (by omega) (by omega), ro_o (q := 1) (by omega) (by omega), ro_o (q := 2) (by omega) (by omega), ro_o (q := 3) (by omega) (by omega), ro_o (q := 5) (by omega) (by omega)]
    exact ⟨(hf 6 _ 4 (by omega)).trans s1, (hf 6 _ 5 (by omega)).trans s2, (hf 6 _ 6 (by omega)).trans s3, (hf 6 _ 7 (by omega)).trans s4, hn, (hf 6 _ 3 (by omega)).trans s6, (hf 6 _ 8 (by omega)).trans s7, fun i hi => by rw [ro_v]; exact hv i hi, fun i hi => (hf 8 _ i (by omega)).trans (s9 i hi)⟩
theorem ro_rm {d m m' : jx_M} {o : Nat} {n : Int} {v : Nat → Int} (hw : dt_w d) (hr : rm_T m d) (hn2 : 0 ≤ n ∧ n ≤ 12) (hf : ∀ s j, ¬ (s = 29 ∧ 13 * o ≤ j ∧ j < 13 * o + 13) → (26 ≤ s ∧ s ≤ 32) → ¬ (s = 26 ∧ ¬ (j = 1 ∨ j = 5 ∨ j = 6 ∨ j = 7 ∨ j = 9)) → m' s 0 j = m s 0 j) (hn : m' 29 0 (13 * o) = n) (hv : ∀ i : Nat, (i : Int) < n → m' 29 0 (13 * o + 1 + i) = v i) : rm_T m' (dt_ro d o n v) := by
  obtain ⟨h1, h2, h3, h4, h5, h6, h7, h8, h9⟩ := hr
  refine ⟨fun c hc => (hf 27 c (by omega) (by omega) (by omega)).trans (h1 c hc), (hf 26 1 (by omega) (by omega) (by omega)).trans h2, (hf 26 7 (by omega) (by omega) (by omega)).trans h3, (hf 26 9 (by omega) (by omega) (by omega)).trans h4, (hf 26 5 (by omega) (by omega) (by omega)).trans h5, (hf 26 6 (by omega) (by omega) (by omega)).trans h6, fun x hx => ?_, fun b hb k hk => (hf 31 _ (by omega) (by omega) (by omega)).trans (h8 b hb k hk), fun w hw k hk => (hf 32 _ (by omega) (by omega) (by omega)).trans (h9 w hw k hk)⟩
  have hx : (x : Int) < d 1 0 0 := hx
  obtain ⟨a1, a2, a3, a4, a5⟩ := h7 x hx
  have ws := hs_of hw x hx
  have w5 := ws.2.2.2.2.1
  have w6 := ws.2.2.2.2.2.1
  rcases Nat.decEq x o with q | q
  · rw [ro_o (q := 4) (by omega) (by omega), ro_o (q := 5) (by omega) (by omega)]
    exact ⟨fun k hk => by rw [ro_o (by omega) (by omega), hf 28 _ (by omega) (by omega) (by omega)]; exact a1 k hk, (hf 29 _ (by omega) (by omega) (by omega)).trans a2, (hf 30 _ (by omega) (by omega) (by omega)).trans a3, fun i hi => by rw [ro_o (by omega) (by omega), hf 29 _ (by omega) (by omega) (by omega)]; exact a4 i hi, fun i hi => by rw [ro_o (by omega) (by omega), hf 30 _ (by omega) (by omega) (by omega)]; exact a5 i hi⟩
  · subst q
    rw [ro_n, ro_o (q := 5) (by omega) (by omega)]
    exact ⟨fun k hk => by rw [ro_o (by omega) (by omega), hf 28 _ (by omega) (by omega) (by omega)]; exact a1 k hk, hn, (hf 30 _ (by omega) (by omega) (by omega)).trans a3, fun i hi => by rw [ro_v]; exact hv i hi, fun i hi => by rw [ro_o (by omega) (by omega), hf 30 _ (by omega) (by omega) (by omega)]; exact a5 i hi⟩
theorem lp_139 {a : Int} {n : Nat} {v : Nat → Int} {m : jx_M} {Q : Int → jx_M → Prop} (ha : 0 ≤ a ∧ a < 6) (hn : n ≤ 6) (hv : ∀ j : Nat, j < n → m 34 0 j = v j) (K : ∀ m2, (∀ s i j, ¬ (s = 30 ∧ i = 0 ∧ 7 * a.toNat + 1 ≤ j ∧ j < 7 * a.toNat + 1 + n) → m2 s i j = m s i j) → (∀ j : Nat, j < n → m2 30 0 (7 * a.toNat + 1 + j) = v j) → Q (n : Int) m2) :
    ∀ (r k : Nat) (m1 : jx_M), k + r = n → (∀ s i j, ¬ (s = 30 ∧ i = 0 ∧ 7 * a.toNat + 1 ≤ j ∧ j < 7 * a.toNat + 1 + n) → m1 s i j = m s i j) → (∀ j : Nat, j < k → m1 30 0 (7 * a.toNat + 1 + j) = v j) → jx_AW 139 22 [some (xA 26 0), some (xI a), some (xI (n : Int)), some (xI (k : Int))] [] m1 Q := by
  intro r
  induction r with
  | zero =>
    intro k m1 hk hf h
    exact sg_139_22 a n k m1 Q ⟨fun z => by omega, fun _ => K m1 hf (fun j hj => h j (by omega))⟩
  | succ r ih =>
    intro k m1 hk hf h
    refine sg_139_22 a n k m1 Q ⟨fun _ => ?_, fun z => by omega⟩
    rw [show (7 * a + 1 + (k : Int)).toNat = 7 * a.toNat + 1 + k by omega, show ((k : Int)).toNat = k by omega, show m1 34 0 k = v k from (hf 34 0 k (by omega)).trans (hv k (by omega))]
    refine ⟨by omega, by omega, by omega, by omega, by omega, by omega, by omega, by omega, by omega, by omega, ih (k + 1) _ (by omega) (fun s i j hn => ?_) (fun j hj => ?_)⟩
    · rw [up_ne (by omega)]; exact hf s i j hn
    · rcases Nat.decEq j k with q | q
      · rw [up_ne (by omega)]; exact h j (by omega)
      · subst q; exact up_eq
theorem pr_6 {a : Int} {m : jx_M} {R : Int → Int → jx_M → Prop} (hI : jv_I m) (K : ∀ z m2, jv_I m2 → fS m m2 → R z z m2) : jx_Cl 39 [xA 0 0, xI a] m (fun z1 m1 => jx_Cl 139 [xA 26 0, xI a] m1 (fun z2 m2 => R z1 z2 m2)) := by
  obtain ⟨d, e, q, hw, hC, hM⟩ := hI
  have kk := fun z => jv_ask (G := R z z m) hw hC hM (fcs_r m) (fms_r m) (K z m)
  have hn := hw.1.2.1
  have en := hC.1.2.1
  have em := hM.1.1.2.1
  have din := dgs_in (t := q 1 1) (L := (q 1 0 0).toNat) (le := 1) (mo := 6) (by omega)
  refine sg_39 a m _ ⟨by omega, by omega, cl_19 (by omega) (fun g => ⟨fun z => by omega, fun _ => ⟨by omega, by omega, by omega, cl_27 (tp_of hw) (tc_of hw hC) (by omega) (fun m1 f1 v1 => ⟨by omega, by omega, sg_29 _ _ ⟨by omega, ?_⟩⟩)⟩⟩) (fun g => ⟨fun _ => sg_139 a m _ ⟨by omega, cl_130 (by omega) (fun z => by omega) (fun _ => ⟨fun _ => kk _, fun z => by omega⟩)⟩, fun z => by omega⟩)⟩
  have fct1 : fct m (jx_up m1 20 0 1 0) := fun s i j hn => by rw [up_ne (by omega)]; exact f1 s i j (by omega)
  have rc1 : rc_T (jx_up m1 20 0 1 0) 0 d := rc_fr hw.1 (fun s j hs => (up_ne (by omega)).trans (f1 s 0 j (by omega))) (fun s i j hs hi => (up_ne (by omega)).trans (f1 s i j (by omega))) (fun s i j hs hi => (up_ne (by omega)).trans (f1 s i j (by omega))) hC.1
  have v1' : ∀ j : Nat, (j : Int) < (dgs (q 1 1) (q 1 0 0).toNat 1 6).1 → (jx_up m1 20 0 1 0) 25 0 j = (dgs (q 1 1) (q 1 0 0).toNat 1 6).2 j := v1
  have l1 : (jx_up m1 20 0 1 0) 20 0 1 = 0 := up_eq
  generalize jx_up m1 20 0 1 0 = M at fct1 rc1 v1' l1 ⊢
  have din2 := din.2
  have din1 := din.1
  unfold nt1 at din2
  refine ⟨fun z => ⟨by omega, by omega, by omega, by omega, by omega, by omega, ?_⟩, fun z => ?_⟩
  · refine cl_40_DRAFT (f := (dgs (q 1 1) (q 1 0 0).toNat 1 6).2) (by omega) (by omega) (fun i hi => ⟨v1' i hi, din2 i hi⟩) (fun m2 f2 a1 a2 a3 => ?_)
    have fct2 : fct m m2 := fun s i j hn => (f2 s i j (by omega)).trans (fct1 s i j hn)
    have hM2 := jv_M_C (fct_C fct2) hM
    refine sg_139 a m2 _ ⟨by omega, cl_130 (by rw [hM2.1.1.2.1]; omega) (fun _ => ⟨fun z => by omega, fun _ => ⟨by omega, cl_133 (tp_of hw) (tm_of hw hM2) (by omega) (by omega) (fun m3 f3 l3 v3 => ⟨fun _ => ⟨by omega, by omega, by omega, by omega, ?_⟩, fun z2 => absurd z z2⟩)⟩⟩) (fun z2 => by rw [hM2.1.1.2.1] at z2; omega)⟩
    generalize hD : dgs (q 1 1) (q 1 0 0).toNat 1 6 = D at *
    obtain ⟨n, en2⟩ : ∃ n : Nat, D.1 = (n : Int) := ⟨D.1.toNat, by omega⟩
    rw [show (7 * a).toNat = 7 * a.toNat by omega]
    have e9 : ∀ j : Nat, j < n → (jx_up m3 30 0 (7 * a.toNat) D.1) 34 0 j = D.2 j := fun j hj => v3 j (by omega)
    rw [en2] at e9 ⊢
    refine lp_139 (v := D.2) (by omega) (by omega) e9 (fun m4 f4 g4 => ?_) n 0 _ (by omega) (fun _ _ _ _ => rfl) (fun j hj => by omega)
    refine jv_text (d' := dt_tu d a.toNat (n : Int) D.2) (m1 := m2) hw hC hM ?_ fct2 ((f2 20 0 1 (by omega)).trans l1) ?_ ?_ ?_ ?_ (K _ _)
    · exact tu_w hw.1 (by omega) (fun i hi => din2 i (by omega))
    · refine tu_rc rc1 (fun s i j hn => f2 s i j (by omega)) (a1.trans en2) ?_ (fun i hi => a3 i (by omega))
      rw [a2, en2]
    · intro s i j hn'
      rw [f4 s i j (by omega), up_ne (by omega)]
      exact f3 s i j (by omega)
    · rw [f4 26 0 12 (by omega)]; exact l3
    · refine tu_rm hw.1 hM2.1.1 (by omega) (fun s j h1 h2 h3 => ?_) ?_ (fun i hi => g4 i (by omega))
      · rw [f4 s 0 j (by omega), up_ne (by omega)]; exact f3 s 0 j (by omega)
      · rw [f4 30 0 _ (by omega), up_eq]
  · have hM2 := jv_M_C (fct_C fct1) hM
    refine sg_139 a M _ ⟨by omega, cl_130 (by rw [hM2.1.1.2.1]; omega) (fun _ => ⟨fun z => by omega, fun _ => ⟨by omega, cl_133 (tp_of hw) (tm_of hw hM2) (by omega) (by omega) (fun m3 f3 l3 v3 => ⟨fun z2 => absurd z2 z, fun _ => ?_⟩)⟩⟩) (fun z2 => by rw [hM2.1.1.2.1] at z2; omega)⟩
    exact jv_text (d' := d) hw hC hM hw.1 fct1 l1 rc1 (fun s i j hn => f3 s i j (by omega)) l3 (rm_fr (fun s j hs hj => f3 s 0 j (by omega)) hM2.1.1) (K _ _)
