/-! who is nearest to a row of notes; a new tune -/
def sp_nr (d : jx_M) (f : Nat → Int) (n : Int) : Nat → Int × Int
  | 0 => (-4, 0)
  | k + 1 => if (sp_nr d f n k).1 < 0 ∨ sp_off f n (d 4 k) (d 2 k 5) < (sp_nr d f n k).2 then ((k : Int), sp_off f n (d 4 k) (d 2 k 5)) else sp_nr d f n k
theorem nr_y {d : jx_M} {f : Nat → Int} {n : Int} {k : Nat} (h : (sp_nr d f n k).1 < 0 ∨ sp_off f n (d 4 k) (d 2 k 5) < (sp_nr d f n k).2) : sp_nr d f n (k + 1) = ((k : Int), sp_off f n (d 4 k) (d 2 k 5)) := if_pos h
theorem nr_n {d : jx_M} {f : Nat → Int} {n : Int} {k : Nat} (h : ¬ ((sp_nr d f n k).1 < 0 ∨ sp_off f n (d 4 k) (d 2 k 5) < (sp_nr d f n k).2)) : sp_nr d f n (k + 1) = sp_nr d f n k := if_neg h
theorem nr_ok {d : jx_M} {f : Nat → Int} {n : Int} : ∀ k : Nat, sp_nr d f n k = (-4, 0) ∨ (∃ i : Nat, i < k ∧ sp_nr d f n k = ((i : Int), sp_off f n (d 4 i) (d 2 i 5)))
  | 0 => Or.inl rfl
  | k + 1 => by
    by_cases h : (sp_nr d f n k).1 < 0 ∨ sp_off f n (d 4 k) (d 2 k 5) < (sp_nr d f n k).2
    · exact Or.inr ⟨k, by omega, nr_y h⟩
    · rw [nr_n h]
      rcases nr_ok k with q | ⟨i, h1, h2⟩
      · exact Or.inl q
      · exact Or.inr ⟨i, by omega, h2⟩
/-- notes are notes -/
def nt_ok (f : Nat → Int) (n : Int) : Prop := ∀ i : Nat, (i : Int) < n → 0 ≤ f i ∧ f i ≤ 9
theorem nr_in {d : jx_M} {f : Nat → Int} {n : Int} (hw : dt_w d) (hn : 0 ≤ n ∧ n ≤ 6) (hf : nt_ok f n) (k : Nat) (hk : (k : Int) ≤ d 1 0 0) : ((sp_nr d f n k).1 = -4 ∨ (0 ≤ (sp_nr d f n k).1 ∧ (sp_nr d f n k).1 < k)) ∧ 0 ≤ (sp_nr d f n k).2 ∧ (sp_nr d f n k).2 ≤ 78 := by
  rcases nr_ok (d := d) (f := f) (n := n) k with q | ⟨i, h1, h2⟩
  · rw [q]; refine ⟨Or.inl rfl, ?_⟩; show (0 : Int) ≤ 0 ∧ (0 : Int) ≤ 78; omega
  · have w := hs_of hw i (by omega)
    have o := sp_off_in hn (show 0 ≤ d 2 i 5 ∧ d 2 i 5 ≤ 6 by have := w.2.2.2.2.2.1; omega) hf w.2.2.2.2.2.2.2
    rw [h2]
    refine ⟨Or.inr ?_, o⟩
    show 0 ≤ (i : Int) ∧ (i : Int) < k
    omega
theorem cl_54_D {d : jx_M} {f : Nat → Int} {n : Int} {j s : Nat} {m : jx_M} {Q : Int → jx_M → Prop} (hj : j < 18) (hs : dt_wS d s) (hr : rc_S m j d s) (hn : 0 ≤ n ∧ n ≤ 6) (hf : nt_ok f n) (hd : ∀ i : Nat, (i : Int) < n → m 25 0 i = f i) (hq : Q (sp_off f n (d 4 s) (d 2 s 5)) m) : jx_Cl 54 [xA 6 j, xA 25 0, xI n] m Q :=
  cl_54_DRAFT hj hn (by have := hs.2.2.2.2.2.1; omega) hr.2.2.2.2.2.1 (fun i hi => ⟨hd i hi, hf i hi⟩) (fun i hi => ⟨hr.2.2.2.2.2.2.2.2 i hi, hs.2.2.2.2.2.2.2 i hi⟩) hq
theorem lp_88 {d : jx_M} {f : Nat → Int} {n : Int} {m : jx_M} {Q : Int → jx_M → Prop} (hw : dt_w d) (hr : rc_T m 0 d) (hn : 0 ≤ n ∧ n ≤ 6) (hf : nt_ok f n) (hd : ∀ i : Nat, (i : Int) < n → m 25 0 i = f i) (hq : Q (sp_nr d f n (d 1 0 0).toNat).1 m) :
    ∀ (r k : Nat) (w6 : Option jx_V), k + r = (d 1 0 0).toNat → jx_AW 88 6 [some (xA 0 0), some (xA 25 0), some (xI n), some (xI (sp_nr d f n k).1), some (xI (sp_nr d f n k).2), some (xI (k : Int)), w6] [] m Q := by
  have hnn := hw.2.1
  have en := hr.2.1
  intro r
  induction r with
  | zero =>
    intro k w6 hk
    obtain rfl : k = (d 1 0 0).toNat := by omega
    exact sg_88_DRAFT_6 n _ _ _ w6 m Q ⟨by omega, by omega, fun z => by omega, fun _ => hq⟩
  | succ r ih =>
    intro k w6 hk
    have nx := fun w => ih (k + 1) w (by omega)
    refine sg_88_DRAFT_6 n _ _ k w6 m Q ⟨by omega, by omega, fun _ => ⟨by omega, by omega, by omega, by omega, by omega, cl_54_D (d := d) (s := k) (by omega) (hs_of hw k (by omega)) (rs_of hr k (by omega)) hn hf hd ⟨fun z => ⟨by omega, ?_⟩, fun z => ⟨fun z2 => ⟨by omega, ?_⟩, fun z2 => ⟨by omega, ?_⟩⟩⟩⟩, fun z => by omega⟩
    · rw [nr_y (Or.inl z)] at nx; exact nx _
    · rw [nr_y (Or.inr z2)] at nx; exact nx _
    · rw [nr_n (by omega)] at nx; exact nx _
theorem cl_88 {d : jx_M} {f : Nat → Int} {n : Int} {m : jx_M} {Q : Int → jx_M → Prop} (hw : dt_w d) (hr : rc_T m 0 d) (hn : 0 ≤ n ∧ n ≤ 6) (hf : nt_ok f n) (hd : ∀ i : Nat, (i : Int) < n → m 25 0 i = f i) (hq : Q (sp_nr d f n (d 1 0 0).toNat).1 m) : jx_Cl 88 [xA 0 0, xA 25 0, xI n] m Q :=
  sg_88_DRAFT n m Q (lp_88 hw hr hn hf hd hq (d 1 0 0).toNat 0 none (by omega))
theorem cl_87 {d : jx_M} {f : Nat → Int} {n : Int} {m : jx_M} {Q : Int → jx_M → Prop} (hw : dt_w d) (hr : rc_T m 0 d) (hn : 0 ≤ n ∧ n ≤ 6) (hf : nt_ok f n) (hd : ∀ i : Nat, (i : Int) < n → m 25 0 i = f i) (hq : Q (sp_nr d f n (d 1 0 0).toNat).2 m) : jx_Cl 87 [xA 0 0, xA 25 0, xI n] m Q := by
  have hnn := hw.2.1
  refine sg_87_DRAFT n m Q ⟨by omega, cl_88 hw hr hn hf hd ?_⟩
  rcases nr_ok (d := d) (f := f) (n := n) (d 1 0 0).toNat with q | ⟨i, h1, h2⟩
  · rw [q] at hq ⊢
    exact ⟨fun _ => hq, fun z => by have : ¬ ((-4 : Int) < 0) := z; omega⟩
  · rw [h2] at hq ⊢
    refine ⟨fun z => by have : (i : Int) < 0 := z; omega, fun _ => ⟨by omega, by omega, ?_, by omega, ?_, ?_⟩⟩
    · show 0 ≤ (i : Int) ∧ (i : Int) < 6; omega
    · show 6 * 0 + ((i : Int)).toNat < 18; omega
    · exact cl_54_D (d := d) (s := i) (by show 6 * 0 + ((i : Int)).toNat < 18; omega) (hs_of hw i (by omega)) (rs_of hr i (by omega)) hn hf hd hq
theorem lp_167 {d : jx_M} {f : Nat → Int} {n : Int} {m : jx_M} {Q : Int → jx_M → Prop} (hw : dt_w d) (hr : re_T m d) (hn : 0 ≤ n ∧ n ≤ 6) (hf : nt_ok f n) (hd : ∀ i : Nat, (i : Int) < n → m 41 0 i = f i) (K : ∀ m2, (∀ s i j, ¬ (s = 26 ∧ i = 0 ∧ j = 25) → m2 s i j = m s i j) → m2 26 0 25 = (sp_nr d f n (d 1 0 0).toNat).1 → Q (sp_nr d f n (d 1 0 0).toNat).2 m2) :
    ∀ (r k : Nat) (m1 : jx_M) (w4 w5 : Option jx_V), k + r = (d 1 0 0).toNat → (∀ s i j, ¬ (s = 26 ∧ i = 0 ∧ j = 25) → m1 s i j = m s i j) → m1 26 0 25 = (sp_nr d f n k).1 → jx_AW 167 7 [some (xA 26 0), some (xI n), some (xI (sp_nr d f n k).2), some (xI (k : Int)), w4, w5] [] m1 Q := by
  have hnn := hw.2.1
  intro r
  induction r with
  | zero =>
    intro k m1 w4 w5 hk hfr h
    have en : m1 26 0 1 = d 1 0 0 := (hfr 26 0 1 (by omega)).trans hr.2.1
    obtain rfl : k = (d 1 0 0).toNat := by omega
    exact sg_167_7 n _ _ w4 w5 m1 Q ⟨by omega, fun z => by omega, fun _ => K m1 hfr h⟩
  | succ r ih =>
    intro k m1 w4 w5 hk hfr h
    have en : m1 26 0 1 = d 1 0 0 := (hfr 26 0 1 (by omega)).trans hr.2.1
    have ws := hs_of hw k (by omega)
    have w6 := ws.2.2.2.2.2.1
    obtain ⟨-, -, r3, -, r5⟩ := hr.2.2.2.2.2.2.1 k (by omega)
    have e5 : m1 30 0 ((7 * (k : Int)).toNat) = d 2 k 5 := by rw [hfr 30 0 _ (by omega), show (7 * (k : Int)).toNat = 7 * k by omega]; exact r3
    have up : ∀ v : Int, ∀ s i j, ¬ (s = 26 ∧ i = 0 ∧ j = 25) → jx_up m1 26 0 25 v s i j = m s i j := fun v s i j hn => by rw [up_ne hn]; exact hfr s i j hn
    have ny : ((sp_nr d f n k).1 < 0 ∨ sp_off f n (d 4 k) (d 2 k 5) < (sp_nr d f n k).2) → ∀ w4 w5 : Option jx_V, jx_AW 167 7 [some (xA 26 0), some (xI n), some (xI (sp_off f n (d 4 k) (d 2 k 5))), some (xI ((k : Int) + 1)), w4, w5] [] (jx_up m1 26 0 25 (k : Int)) Q := fun q w4 w5 => by
      have nx := ih (k + 1) _ w4 w5 (by omega) (up (k : Int)) (by rw [up_eq, nr_y q])
      rw [nr_y q] at nx
      exact nx
    have nn : ¬ ((sp_nr d f n k).1 < 0 ∨ sp_off f n (d 4 k) (d 2 k 5) < (sp_nr d f n k).2) → ∀ w4 w5 : Option jx_V, jx_AW 167 7 [some (xA 26 0), some (xI n), some (xI (sp_nr d f n k).2), some (xI ((k : Int) + 1)), w4, w5] [] (jx_up m1 26 0 25 (m1 26 0 25)) Q := fun q w4 w5 => by
      have nx := ih (k + 1) _ w4 w5 (by omega) (up (m1 26 0 25)) (by rw [up_eq, nr_n q]; exact h)
      rw [nr_n q] at nx
      exact nx
    refine sg_167_7 n _ k w4 w5 m1 Q ?_
    rw [e5]
    refine ⟨by omega, fun _ => ⟨by omega, by omega, by omega, by omega, by omega, by omega, by omega, by omega, cl_150_Mrow_Mtunes (f := f) (g := d 4 k) (by omega) (by omega) (by omega) (by omega) (fun i hi => ⟨?_, hf i hi⟩) (fun i hi => ⟨?_, ws.2.2.2.2.2.2.2 i hi⟩) ?_⟩, fun z => by omega⟩
    · rw [show ((0 : Int) + (i : Int)).toNat = i by omega, hfr 41 0 i (by omega)]; exact hd i hi
    · rw [show (7 * (k : Int) + 1 + (i : Int)).toNat = 7 * k + 1 + i by omega, hfr 30 0 _ (by omega)]; exact r5 i hi
    · repeat' (first | omega | exact ny (by omega) _ _ | exact nn (by omega) _ _ | apply And.intro | intro _)
theorem cl_167 {d : jx_M} {f : Nat → Int} {n : Int} {m : jx_M} {Q : Int → jx_M → Prop} (hw : dt_w d) (hr : re_T m d) (hn : 0 ≤ n ∧ n ≤ 6) (hf : nt_ok f n) (hd : ∀ i : Nat, (i : Int) < n → m 41 0 i = f i) (K : ∀ m2, (∀ s i j, ¬ (s = 26 ∧ i = 0 ∧ j = 25) → m2 s i j = m s i j) → m2 26 0 25 = (sp_nr d f n (d 1 0 0).toNat).1 → Q (sp_nr d f n (d 1 0 0).toNat).2 m2) : jx_Cl 167 [xA 26 0, xI n] m Q :=
  sg_167 n m Q ⟨by omega, lp_167 hw hr hn hf hd K (d 1 0 0).toNat 0 _ none none (by omega) (fun s i j hn => up_ne hn) up_eq⟩
-- rows by their number
def dg (n : Nat) (r : Nat) (i : Nat) : Int := ((r / 10 ^ (n - 1 - i) % 10 : Nat) : Int)
theorem dg_ok (n r : Nat) (k : Int) : nt_ok (dg n r) k := fun i _ => by unfold dg; omega
theorem lp_86 {n c : Nat} {b1 b2 : Int} {m : jx_M} {Q : Int → jx_M → Prop} (hn : n ≤ 6) (K : ∀ m2, (∀ s i j, ¬ (s = 25 ∧ i = 0) → m2 s i j = m s i j) → (∀ i : Nat, i < n → m2 25 0 i = dg n c i) → Q 0 m2) :
    ∀ (r k : Nat) (m1 : jx_M) (b4 : Int), k + r = n → b4 = (n : Int) - 1 - k → (∀ s i j, ¬ (s = 25 ∧ i = 0) → m1 s i j = m s i j) → (∀ i : Nat, i < n → n ≤ i + k → m1 25 0 i = dg n c i) → jx_AW 86 6 [some (xA 0 0), some (xI b1), some (xI b2), some (xI ((c / 10 ^ k : Nat) : Int)), some (xI b4)] [] m1 Q := by
  intro r
  induction r with
  | zero =>
    intro k m1 b4 hk hb hf h
    exact sg_86_6 b1 b2 _ b4 m1 Q ⟨fun _ => K m1 hf (fun i hi => h i hi (by omega)), fun z => by omega⟩
  | succ r ih =>
    intro k m1 b4 hk hb hf h
    have nx := fun m1 b4 => ih (k + 1) m1 b4 (by omega)
    have e : ((c / 10 ^ (k + 1) : Nat) : Int) = ((c / 10 ^ k : Nat) : Int) / 10 := by rw [Nat.pow_succ, ← Nat.div_div_eq_div_mul, Int.natCast_ediv]; rfl
    rw [e] at nx
    refine sg_86_6 b1 b2 _ b4 m1 Q ⟨fun z => by omega, fun _ => ⟨by omega, ⟨Int.natCast_nonneg _, by omega⟩, by omega, by omega, ⟨Int.natCast_nonneg _, by omega⟩, by omega, nx _ _ (by omega) (fun s i j hn' => ?_) (fun i hi hik => ?_)⟩⟩
    · rw [up_ne (fun z => hn' ⟨z.1, z.2.1⟩)]; exact hf s i j hn'
    · rcases Nat.decEq i b4.toNat with q | q
      · rw [up_ne (by omega)]; exact h i hi (by omega)
      · rw [← q, up_eq]
        unfold dg
        rw [show n - 1 - i = k by omega]
        omega
theorem cl_86 {n c : Nat} {m : jx_M} {Q : Int → jx_M → Prop} (hn : n ≤ 6) (K : ∀ m2, (∀ s i j, ¬ (s = 25 ∧ i = 0) → m2 s i j = m s i j) → (∀ i : Nat, i < n → m2 25 0 i = dg n c i) → Q 0 m2) : jx_Cl 86 [xA 0 0, xI (c : Int), xI (n : Int)] m Q := by
  have l := lp_86 (b1 := (c : Int)) (b2 := (n : Int)) (c := c) hn K n 0 m ((n : Int) - 1) (by omega) (by omega) (fun _ _ _ _ => rfl) (fun i hi hik => by omega)
  rw [show c / 10 ^ 0 = c by rw [Nat.pow_zero, Nat.div_one]] at l
  exact sg_86 c n m Q ⟨by omega, l⟩
theorem lp_166 {n c : Nat} {b1 b2 : Int} {m : jx_M} {Q : Int → jx_M → Prop} (hn : n ≤ 6) (K : ∀ m2, (∀ s i j, ¬ (s = 41 ∧ i = 0) → m2 s i j = m s i j) → (∀ i : Nat, i < n → m2 41 0 i = dg n c i) → Q 0 m2) :
    ∀ (r k : Nat) (m1 : jx_M) (b4 : Int), k + r = n → b4 = (n : Int) - 1 - k → (∀ s i j, ¬ (s = 41 ∧ i = 0) → m1 s i j = m s i j) → (∀ i : Nat, i < n → n ≤ i + k → m1 41 0 i = dg n c i) → jx_AW 166 6 [some (xA 26 0), some (xI b1), some (xI b2), some (xI ((c / 10 ^ k : Nat) : Int)), some (xI b4)] [] m1 Q := by
  intro r
  induction r with
  | zero =>
    intro k m1 b4 hk hb hf h
    exact sg_166_6 b1 b2 _ b4 m1 Q ⟨fun _ => K m1 hf (fun i hi => h i hi (by omega)), fun z => by omega⟩
  | succ r ih =>
    intro k m1 b4 hk hb hf h
    have nx := fun m1 b4 => ih (k + 1) m1 b4 (by omega)
    have e : ((c / 10 ^ (k + 1) : Nat) : Int) = ((c / 10 ^ k : Nat) : Int) / 10 := by rw [Nat.pow_succ, ← Nat.div_div_eq_div_mul, Int.natCast_ediv]; rfl
    rw [e] at nx
    refine sg_166_6 b1 b2 _ b4 m1 Q ⟨fun z => by omega, fun _ => ⟨by omega, ⟨Int.natCast_nonneg _, by omega⟩, by omega, by omega, ⟨Int.natCast_nonneg _, by omega⟩, by omega, nx _ _ (by omega) (fun s i j hn' => ?_) (fun i hi hik => ?_)⟩⟩
    · rw [up_ne (fun z => hn' ⟨z.1, z.2.1⟩)]; exact hf s i j hn'
    · rcases Nat.decEq i b4.toNat with q | q
      · rw [up_ne (by omega)]; exact h i hi (by omega)
      · rw [← q, up_eq]
        unfold dg
        rw [show n - 1 - i = k by omega]
        omega
theorem cl_166 {n c : Nat} {m : jx_M} {Q : Int → jx_M → Prop} (hn : n ≤ 6) (K : ∀ m2, (∀ s i j, ¬ (s = 41 ∧ i = 0) → m2 s i j = m s i j) → (∀ i : Nat, i < n → m2 41 0 i = dg n c i) → Q 0 m2) : jx_Cl 166 [xA 26 0, xI (c : Int), xI (n : Int)] m Q := by
  have l := lp_166 (b1 := (c : Int)) (b2 := (n : Int)) (c := c) hn K n 0 m ((n : Int) - 1) (by omega) (by omega) (fun _ _ _ _ => rfl) (fun i hi hik => by omega)
  rw [show c / 10 ^ 0 = c by rw [Nat.pow_zero, Nat.div_one]] at l
  exact sg_166 c n m Q ⟨by omega, l⟩
def fr_o (d : jx_M) (n k : Nat) : Int := (sp_nr d (dg n k) n (d 1 0 0).toNat).2
def fr_l (n k : Nat) : Int := dt_sum (dg n k) n / n / 3
/-- (how far, which), -1 and -4 ahead of the first -/
def sp_fr (d : jx_M) (n : Nat) (lo ca : Int) : Nat → Int × Int
  | 0 => (-1, -4)
  | k + 1 => if ca ≤ lo + fr_l n k ∧ (sp_fr d n lo ca k).1 < fr_o d n k then (fr_o d n k, (k : Int)) else sp_fr d n lo ca k
theorem fr_y {d : jx_M} {n : Nat} {lo ca : Int} {k : Nat} (h : ca ≤ lo + fr_l n k ∧ (sp_fr d n lo ca k).1 < fr_o d n k) : sp_fr d n lo ca (k + 1) = (fr_o d n k, (k : Int)) := if_pos h
theorem fr_n {d : jx_M} {n : Nat} {lo ca : Int} {k : Nat} (h : ¬ (ca ≤ lo + fr_l n k ∧ (sp_fr d n lo ca k).1 < fr_o d n k)) : sp_fr d n lo ca (k + 1) = sp_fr d n lo ca k := if_neg h
theorem fr_o_in {d : jx_M} {n k : Nat} (hw : dt_w d) (hn : n ≤ 6) : 0 ≤ fr_o d n k ∧ fr_o d n k ≤ 78 := (nr_in hw (by omega) (dg_ok n k n) (d 1 0 0).toNat (by have := hw.2.1; omega)).2
theorem fr_l_in {n k : Nat} (h1 : 1 ≤ n) : 0 ≤ fr_l n k ∧ fr_l n k ≤ 3 := by
  have h := dt_sum_in (f := dg n k) (b := 9) n (fun i _ => dg_ok n k (i + 1) i (by omega))
  unfold fr_l
  have h2 : dt_sum (dg n k) n / (n : Int) ≤ 9 := Int.ediv_le_of_le_mul (by omega) h.2
  have h3 : 0 ≤ dt_sum (dg n k) n / (n : Int) := Int.ediv_nonneg h.1 (by omega)
  omega
theorem fr_ok {d : jx_M} {n : Nat} {lo ca : Int} (hw : dt_w d) (hn : n ≤ 6) : ∀ k : Nat, sp_fr d n lo ca k = (-1, -4) ∨ (0 ≤ (sp_fr d n lo ca k).1 ∧ (sp_fr d n lo ca k).1 ≤ 78 ∧ ∃ i : Nat, i < k ∧ (sp_fr d n lo ca k).2 = (i : Int))
  | 0 => Or.inl rfl
  | k + 1 => by
    by_cases h : ca ≤ lo + fr_l n k ∧ (sp_fr d n lo ca k).1 < fr_o d n k
    · have := fr_o_in (k := k) hw hn
      rw [fr_y h]
      exact Or.inr ⟨this.1, this.2, k, by omega, rfl⟩
    · rw [fr_n h]
      rcases fr_ok hw hn k with q | ⟨h1, h2, i, h3, h4⟩
      · exact Or.inl q
      · exact Or.inr ⟨h1, h2, i, by omega, h4⟩
/-- what fresh answers -/
def sp_fa (d : jx_M) (n : Nat) (lo ca i z : Int) : Prop := ((sp_fr d n lo ca (10 ^ n)).1 < 0 → z = -4) ∧ (¬ (sp_fr d n lo ca (10 ^ n)).1 < 0 → i < 0 → z = (sp_fr d n lo ca (10 ^ n)).1) ∧ (¬ (sp_fr d n lo ca (10 ^ n)).1 < 0 → ¬ i < 0 → z = dg n (sp_fr d n lo ca (10 ^ n)).2.toNat i.toNat)
theorem sp_fa_un {d : jx_M} {n : Nat} {lo ca i z w : Int} (h : sp_fa d n lo ca i z) (g : sp_fa d n lo ca i w) : z = w := by
  obtain ⟨h1, h2, h3⟩ := h
  obtain ⟨g1, g2, g3⟩ := g
  by_cases q : (sp_fr d n lo ca (10 ^ n)).1 < 0
  · rw [h1 q, g1 q]
  · by_cases q2 : i < 0
    · rw [h2 q q2, g2 q q2]
    · rw [h3 q q2, g3 q q2]
theorem fcs_25 {m m1 m2 : jx_M} (h : fcs m m1) (g : ∀ s i j, ¬ (s = 25 ∧ i = 0) → m2 s i j = m1 s i j) : fcs m m2 := fun s i j hn => (g s i j (by omega)).trans (h s i j hn)
theorem lp_84 {d : jx_M} {n : Nat} {lo ca i : Int} {m : jx_M} {Q : Int → jx_M → Prop} (hw : dt_w d) (hr : rc_T m 0 d) (hn : 1 ≤ n ∧ n ≤ 3) (h10 : 10 ^ n ≤ 1000) (hlo : 1 ≤ lo ∧ lo ≤ 9) (hi : -1 ≤ i ∧ i ≤ (n : Int) - 1) (h1 : ∀ z m2, sp_fa d n lo ca i z → fcs m m2 → Q z m2) :
    ∀ (r k : Nat) (m1 : jx_M) (b7 : Int) (w9 : Option jx_V), k + r = 10 ^ n → fcs m m1 → (0 ≤ (sp_fr d n lo ca k).1 → b7 = (sp_fr d n lo ca k).2) → jx_AW 84 31 [some (xA 0 0), some (xI (n : Int)), some (xI lo), some (xI ca), some (xI i), some (xI ((10 ^ n : Nat) : Int)), some (xI (sp_fr d n lo ca k).1), some (xI b7), some (xI (k : Int)), w9] [] m1 Q := by
  intro r
  induction r with
  | zero =>
    intro k m1 b7 w9 hk hf hb
    have ok := fr_ok (n := n) (lo := lo) (ca := ca) hw (by omega) k
    obtain rfl : k = 10 ^ n := by omega
    unfold sp_fa at h1
    refine sg_84_31 n lo ca i _ _ b7 _ w9 m1 Q ⟨fun z => by omega, fun _ => ⟨fun z => h1 _ _ ⟨fun _ => rfl, fun q => absurd z q, fun q => absurd z q⟩ hf, fun z => ⟨by omega, ?_⟩⟩⟩
    have hb := hb (by omega)
    rcases ok with q | ⟨o1, o2, c, o3, o4⟩
    · rw [q] at z; have : ¬ ((-1 : Int) < 0) := z; omega
    · rw [hb, o4]
      refine cl_86 (by omega) (fun m2 f2 g2 => ⟨fun zi => h1 _ _ ⟨fun q => absurd q z, fun _ _ => rfl, fun _ q => absurd zi q⟩ (fcs_25 hf f2), fun zi => ⟨by omega, by omega, by omega, h1 _ _ ⟨fun q => absurd q z, fun _ q => absurd q zi, fun _ _ => ?_⟩ (fcs_25 hf f2)⟩⟩)
      rw [g2 i.toNat (by omega), o4]
      rfl
  | succ r ih =>
    intro k m1 b7 w9 hk hf hb
    have ok := fr_ok (n := n) (lo := lo) (ca := ca) hw (by omega) k
    have oin := fr_o_in (n := n) (k := k) hw (by omega)
    have lin := fr_l_in (n := n) (k := k) hn.1
    have hr1 := fcs_rc (by omega) hw hf hr
    have nx := fun m2 b7 w9 => ih (k + 1) m2 b7 w9 (by omega)
    refine sg_84_31 n lo ca i _ _ b7 k w9 m1 Q ⟨fun _ => ⟨by omega, cl_86 (by omega) (fun m2 f2 g2 => ⟨by omega, ?_⟩)⟩, fun z => by omega⟩
    have hf2 := fcs_25 hf f2
    have hr2 := fcs_rc (by omega) hw hf2 hr
    refine cl_17_DRAFT (f := dg n k) (by omega) (fun i hi => ⟨g2 i (by omega), dg_ok n k n i hi⟩) ?_
    show jx_in (lo + fr_l n k) ∧ (lo + fr_l n k < ca → _) ∧ (¬ lo + fr_l n k < ca → _)
    refine ⟨by omega, fun z => ⟨by omega, ?_⟩, fun z => ⟨by omega, by omega, cl_87 (f := dg n k) hw hr2 (by omega) (dg_ok n k n) (fun i hi => g2 i (by omega)) ?_⟩⟩
    · rw [fr_n (by omega)] at nx; exact nx m2 b7 w9 hf2 hb
    · show ((sp_fr d n lo ca k).1 < fr_o d n k → _) ∧ (¬ (sp_fr d n lo ca k).1 < fr_o d n k → _)
      refine ⟨fun z2 => ⟨by omega, ?_⟩, fun z2 => ⟨by omega, ?_⟩⟩
      · rw [fr_y (by omega)] at nx; exact nx m2 _ _ hf2 (fun _ => rfl)
      · rw [fr_n (by omega)] at nx; exact nx m2 _ _ hf2 hb
theorem cl_85 {n : Nat} {m : jx_M} {Q : Int → jx_M → Prop} (hn : 1 ≤ n ∧ n ≤ 3) (hq : Q ((10 ^ n : Nat) : Int) m) : jx_Cl 85 [xI (n : Int)] m Q := by
  refine sg_85 n m Q ?_
  rcases (by omega : n = 1 ∨ n = 2 ∨ n = 3) with rfl | rfl | rfl
  · exact sg_85_4 _ _ _ m Q ⟨fun _ => ⟨by omega, by omega, sg_85_4 _ _ _ m Q ⟨fun z => by omega, fun _ => hq⟩⟩, fun z => by omega⟩
  · exact sg_85_4 _ _ _ m Q ⟨fun _ => ⟨by omega, by omega, sg_85_4 _ _ _ m Q ⟨fun _ => ⟨by omega, by omega, sg_85_4 _ _ _ m Q ⟨fun z => by omega, fun _ => hq⟩⟩, fun z => by omega⟩⟩, fun z => by omega⟩
  · exact sg_85_4 _ _ _ m Q ⟨fun _ => ⟨by omega, by omega, sg_85_4 _ _ _ m Q ⟨fun _ => ⟨by omega, by omega, sg_85_4 _ _ _ m Q ⟨fun _ => ⟨by omega, by omega, sg_85_4 _ _ _ m Q ⟨fun z => by omega, fun _ => hq⟩⟩, fun z => by omega⟩⟩, fun z => by omega⟩⟩, fun z => by omega⟩
theorem cl_84 {d : jx_M} {a b c i : Int} {m : jx_M} {Q : Int → jx_M → Prop} (hw : dt_w d) (hr : rc_T m 0 d) (h1 : ∀ z m2, (1 ≤ a ∧ a ≤ 3) ∧ (1 ≤ b ∧ b ≤ 9) ∧ (0 ≤ c ∧ c ≤ 12) ∧ (-1 ≤ i ∧ i ≤ a - 1) → sp_fa d a.toNat b c i z → fcs m m2 → Q z m2) (h0 : ¬ ((1 ≤ a ∧ a ≤ 3) ∧ (1 ≤ b ∧ b ≤ 9) ∧ (0 ≤ c ∧ c ≤ 12) ∧ (-1 ≤ i ∧ i ≤ a - 1)) → Q (-1) m) : jx_Cl 84 [xA 0 0, xI a, xI b, xI c, xI i] m Q := by
  have l : (1 ≤ a ∧ a ≤ 3) ∧ (1 ≤ b ∧ b ≤ 9) ∧ (0 ≤ c ∧ c ≤ 12) ∧ (-1 ≤ i ∧ i ≤ a - 1) → jx_Cl 85 [xI a] m (fun z5 m5 => jx_AW 84 31 [some (xA 0 0), some (xI a), some (xI b), some (xI c), some (xI i), some (xI z5), some (xI (-1)), some (xI 0), some (xI 0), none] [] m5 Q) := fun g => by
    obtain ⟨n, rfl⟩ : ∃ n : Nat, a = (n : Int) := ⟨a.toNat, by omega⟩
    have h10 : 10 ^ n ≤ 1000 := by
      rcases (by omega : n = 1 ∨ n = 2 ∨ n = 3) with rfl | rfl | rfl <;> decide
    exact cl_85 (by omega) (lp_84 (n := n) hw hr (by omega) h10 (by omega) (by omega) (fun z m2 q f => h1 z m2 g q f) (10 ^ n) 0 m 0 none (Nat.zero_add _) (fcs_r m) (fun z => by have : (0 : Int) ≤ -1 := z; omega))
  refine sg_84 a b c i m Q ?_
  repeat' (first | omega | exact h0 (by omega) | refine cl_12 ?_ ?_ | refine cl_15 ?_ ?_ | exact l (by omega) | apply And.intro | intro _)
theorem lp_165 {d : jx_M} {n : Nat} {lo ca i : Int} {m : jx_M} {Q : Int → jx_M → Prop} (hw : dt_w d) (hr : re_T m d) (hn : n = 1 ∨ n = 2 ∨ n = 3) (h10 : 10 ^ n ≤ 1000) (hlo : 1 ≤ lo ∧ lo ≤ 9) (hi : -1 ≤ i ∧ i ≤ (n : Int) - 1) (h1 : ∀ z m2, sp_fa d n lo ca i z → fms m m2 → Q z m2) :
    ∀ (r k : Nat) (m1 : jx_M) (w9 w10 w11 : Option jx_V), k + r = 10 ^ n → fms m m1 → jx_AW 165 47 [some (xA 26 0), some (xI (n : Int)), some (xI lo), some (xI ca), some (xI i), some (xI (sp_fr d n lo ca k).2), some (xI (sp_fr d n lo ca k).1), some (xI ((10 ^ n : Nat) : Int)), some (xI (k : Int)), w9, w10, w11] [] m1 Q := by
  intro r
  induction r with
  | zero =>
    intro k m1 w9 w10 w11 hk hf
    have ok := fr_ok (n := n) (lo := lo) (ca := ca) hw (by omega) k
    obtain rfl : k = 10 ^ n := by omega
    unfold sp_fa at h1
    refine sg_165_47 n lo ca i _ _ _ _ w9 w10 w11 m1 Q ⟨fun z => by omega, fun _ => ?_⟩
    rcases ok with q | ⟨o1, o2, c, o3, o4⟩
    · rw [q] at h1 ⊢
      exact ⟨fun _ => h1 _ _ ⟨fun _ => rfl, fun z => by have : ¬ ((-1 : Int) < 0) := z; omega, fun z => by have : ¬ ((-1 : Int) < 0) := z; omega⟩ hf, fun z => by have : ¬ ((-4 : Int) < 0) := z; omega⟩
    · refine ⟨fun z => by omega, fun _ => ⟨by omega, ?_⟩⟩
      rw [o4] at h1 ⊢
      have f9 : ∀ m2, (∀ s i j, ¬ (s = 41 ∧ i = 0) → m2 s i j = m1 s i j) → fms m m2 := fun m2 f2 s i j hn => (f2 s i j (by omega)).trans (hf s i j hn)
      refine cl_166 (by omega) (fun m2 f2 g2 => ⟨fun zi => h1 _ _ ⟨fun q => by omega, fun _ _ => rfl, fun _ q => absurd zi q⟩ (f9 m2 f2), fun zi => ⟨by omega, by omega, by omega, h1 _ _ ⟨fun q => by omega, fun _ q => absurd q zi, fun _ _ => g2 i.toNat (by omega)⟩ (f9 m2 f2)⟩⟩)
  | succ r ih =>
    intro k m1 w9 w10 w11 hk hf
    have ok := fr_ok (n := n) (lo := lo) (ca := ca) hw (by omega) k
    have oin := fr_o_in (n := n) (k := k) hw (by omega)
    have hr1 : re_T m1 d := re_fr (fun s j hs hj => hf s 0 j (by omega)) hr
    have nx := fun m2 w9 w10 w11 => ih (k + 1) m2 w9 w10 w11 (by omega)
    have ny : (ca ≤ lo + fr_l n k ∧ (sp_fr d n lo ca k).1 < fr_o d n k) → ∀ m2, fms m m2 → ∀ w9 w10 w11 : Option jx_V, jx_AW 165 47 [some (xA 26 0), some (xI (n : Int)), some (xI lo), some (xI ca), some (xI i), some (xI (k : Int)), some (xI (fr_o d n k)), some (xI ((10 ^ n : Nat) : Int)), some (xI ((k : Int) + 1)), w9, w10, w11] [] m2 Q := fun q m2 f2 w9 w10 w11 => by
      rw [fr_y q] at nx; exact nx m2 w9 w10 w11 f2
    have nn : ¬ (ca ≤ lo + fr_l n k ∧ (sp_fr d n lo ca k).1 < fr_o d n k) → ∀ m2, fms m m2 → ∀ w9 w10 w11 : Option jx_V, jx_AW 165 47 [some (xA 26 0), some (xI (n : Int)), some (xI lo), some (xI ca), some (xI i), some (xI (sp_fr d n lo ca k).2), some (xI (sp_fr d n lo ca k).1), some (xI ((10 ^ n : Nat) : Int)), some (xI ((k : Int) + 1)), w9, w10, w11] [] m2 Q := fun q m2 f2 w9 w10 w11 => by
      rw [fr_n q] at nx; exact nx m2 w9 w10 w11 f2
    refine sg_165_47 n lo ca i _ _ _ k w9 w10 w11 m1 Q ⟨fun _ => ⟨by omega, cl_166 (by omega) (fun m2 f2 g2 => ?_)⟩, fun z => by omega⟩
    have hr2 : re_T m2 d := re_fr (fun s j hs hj => f2 s 0 j (by omega)) hr1
    have c167 : ∀ {Q' : Int → jx_M → Prop}, (∀ m3, fms m m3 → Q' (fr_o d n k) m3) → jx_Cl 167 [xA 26 0, xI (n : Int)] m2 Q' := fun K => cl_167 (f := dg n k) hw hr2 (by omega) (dg_ok n k n) (fun i hi => g2 i (by omega)) (fun m3 f3 _ => K m3 (fun s i j hn => (f3 s i j (by omega)).trans ((f2 s i j (by omega)).trans (hf s i j hn))))
    rcases hn with rfl | rfl | rfl
    · have d0 : m2 41 0 ((0 : Int).toNat) = dg 1 k 0 := g2 0 (by omega)
      have i0 := dg_ok 1 k 3 0 (by omega)
      have el : fr_l 1 k = (0 + dg 1 k 0) / 1 / 3 := rfl
      repeat' (first | omega | (refine c167 (fun m3 f3 => ?_)) | exact ny (by omega) _ (by assumption) _ _ _ | exact nn (by omega) _ (by assumption) _ _ _ | apply And.intro | intro _)
    · have d0 : m2 41 0 ((0 : Int).toNat) = dg 2 k 0 := g2 0 (by omega)
      have d1 : m2 41 0 ((1 : Int).toNat) = dg 2 k 1 := g2 1 (by omega)
      have i0 := dg_ok 2 k 3 0 (by omega)
      have i1 := dg_ok 2 k 3 1 (by omega)
      have el : fr_l 2 k = (0 + dg 2 k 0 + dg 2 k 1) / 2 / 3 := rfl
      repeat' (first | omega | (refine c167 (fun m3 f3 => ?_)) | exact ny (by omega) _ (by assumption) _ _ _ | exact nn (by omega) _ (by assumption) _ _ _ | apply And.intro | intro _)
    · have d0 : m2 41 0 ((0 : Int).toNat) = dg 3 k 0 := g2 0 (by omega)
      have d1 : m2 41 0 ((1 : Int).toNat) = dg 3 k 1 := g2 1 (by omega)
      have d2 : m2 41 0 ((2 : Int).toNat) = dg 3 k 2 := g2 2 (by omega)
      have i0 := dg_ok 3 k 3 0 (by omega)
      have i1 := dg_ok 3 k 3 1 (by omega)
      have i2 := dg_ok 3 k 3 2 (by omega)
      have el : fr_l 3 k = (0 + dg 3 k 0 + dg 3 k 1 + dg 3 k 2) / 3 / 3 := rfl
      repeat' (first | omega | (refine c167 (fun m3 f3 => ?_)) | exact ny (by omega) _ (by assumption) _ _ _ | exact nn (by omega) _ (by assumption) _ _ _ | apply And.intro | intro _)
theorem cl_165 {d : jx_M} {a b c i : Int} {m : jx_M} {Q : Int → jx_M → Prop} (hw : dt_w d) (hr : re_T m d) (h1 : ∀ z m2, (1 ≤ a ∧ a ≤ 3) ∧ (1 ≤ b ∧ b ≤ 9) ∧ (0 ≤ c ∧ c ≤ 12) ∧ (-1 ≤ i ∧ i ≤ a - 1) → sp_fa d a.toNat b c i z → fms m m2 → Q z m2) (h0 : ¬ ((1 ≤ a ∧ a ≤ 3) ∧ (1 ≤ b ∧ b ≤ 9) ∧ (0 ≤ c ∧ c ≤ 12) ∧ (-1 ≤ i ∧ i ≤ a - 1)) → Q (-1) m) : jx_Cl 165 [xA 26 0, xI a, xI b, xI c, xI i] m Q := by
  have l : (1 ≤ a ∧ a ≤ 3) ∧ (1 ≤ b ∧ b ≤ 9) ∧ (0 ≤ c ∧ c ≤ 12) ∧ (-1 ≤ i ∧ i ≤ a - 1) → jx_AW 165 47 [some (xA 26 0), some (xI a), some (xI b), some (xI c), some (xI i), some (xI (-4)), some (xI (-1)), some (xI ((10 ^ a.toNat : Nat) : Int)), some (xI 0), none, none, none] [] m Q := fun g => by
    obtain ⟨n, rfl⟩ : ∃ n : Nat, a = (n : Int) := ⟨a.toNat, by omega⟩
    have h10 : 10 ^ n ≤ 1000 := by
      rcases (by omega : n = 1 ∨ n = 2 ∨ n = 3) with rfl | rfl | rfl <;> decide
    exact lp_165 (n := n) hw hr (by omega) h10 (by omega) (by omega) (fun z m2 q f => h1 z m2 g q f) (10 ^ n) 0 m none none none (Nat.zero_add _) (fms_r m)
  have l1 : (1 ≤ a ∧ a ≤ 3) ∧ (1 ≤ b ∧ b ≤ 9) ∧ (0 ≤ c ∧ c ≤ 12) ∧ (-1 ≤ i ∧ i ≤ a - 1) → a = 1 → jx_AW 165 47 [some (xA 26 0), some (xI a), some (xI b), some (xI c), some (xI i), some (xI (-4)), some (xI (-1)), some (xI 10), some (xI 0), none, none, none] [] m Q := fun g e => by
    subst e; exact l g
  have l2 : (1 ≤ a ∧ a ≤ 3) ∧ (1 ≤ b ∧ b ≤ 9) ∧ (0 ≤ c ∧ c ≤ 12) ∧ (-1 ≤ i ∧ i ≤ a - 1) → a = 2 → jx_AW 165 47 [some (xA 26 0), some (xI a), some (xI b), some (xI c), some (xI i), some (xI (-4)), some (xI (-1)), some (xI 100), some (xI 0), none, none, none] [] m Q := fun g e => by
    subst e; exact l g
  have l3 : (1 ≤ a ∧ a ≤ 3) ∧ (1 ≤ b ∧ b ≤ 9) ∧ (0 ≤ c ∧ c ≤ 12) ∧ (-1 ≤ i ∧ i ≤ a - 1) → a = 3 → jx_AW 165 47 [some (xA 26 0), some (xI a), some (xI b), some (xI c), some (xI i), some (xI (-4)), some (xI (-1)), some (xI 1000), some (xI 0), none, none, none] [] m Q := fun g e => by
    subst e; exact l g
  clear l
  refine sg_165 a b c i m Q ?_
  repeat' (first | omega | exact h0 (by omega) | refine cl_125 ?_ ?_ | exact l1 (by omega) (by omega) | exact l2 (by omega) (by omega) | exact l3 (by omega) (by omega) | apply And.intro | intro _)
theorem pr_21 {a b c i : Int} {m : jx_M} {R : Int → Int → jx_M → Prop} (hI : jv_I m) (K : ∀ z m2, jv_I m2 → fS m m2 → R z z m2) : jx_Cl 84 [xA 0 0, xI a, xI b, xI c, xI i] m (fun z1 m1 => jx_Cl 165 [xA 26 0, xI a, xI b, xI c, xI i] m1 (fun z2 m2 => R z1 z2 m2)) := by
  obtain ⟨d, e, q, hw, hC, hM⟩ := hI
  have k := fun z => jv_ask (G := R z z m) hw hC hM (fcs_r m) (fms_r m) (K z m)
  refine cl_84 hw.1 hC.1 (fun z m1 g h f1 => ?_) (fun g => cl_165 hw.1 (re_M hM) (fun _ _ z => absurd z g) (fun _ => k _))
  have hM1 := jv_M_C (fcs_C f1) hM
  refine cl_165 hw.1 (re_M hM1) (fun z2 m2 _ h2 f2 => ?_) (fun z => absurd g z)
  obtain rfl : z = z2 := sp_fa_un h h2
  exact jv_ask hw hC hM f1 f2 (K z m2)
