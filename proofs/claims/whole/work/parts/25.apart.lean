/-! how far two rows of notes are apart -/
def sp_ab (f g : Nat → Int) (i : Nat) : Int := ((f i - g i).natAbs : Int)
def sp_off (f : Nat → Int) (n : Int) (g : Nat → Int) (k : Int) : Int := 4 * ((n - k).natAbs : Int) + dt_sum (sp_ab f g) (min n k).toNat
theorem dt_sum_eq {f g : Nat → Int} : ∀ (n : Nat), (∀ i : Nat, i < n → f i = g i) → dt_sum f n = dt_sum g n := by
  intro n
  induction n with
  | zero => intro _; rfl
  | succ n ih =>
    intro h
    have e1 : dt_sum f (n + 1) = dt_sum f n + f n := rfl
    have e2 : dt_sum g (n + 1) = dt_sum g n + g n := rfl
    rw [e1, e2, ih (fun i hi => h i (by omega)), h n (by omega)]
theorem sp_off_sym (f : Nat → Int) (n : Int) (g : Nat → Int) (k : Int) : sp_off f n g k = sp_off g k f n := by
  unfold sp_off
  rw [show (min n k).toNat = (min k n).toNat by omega, dt_sum_eq (f := sp_ab f g) (g := sp_ab g f) (min k n).toNat (fun i _ => by unfold sp_ab; omega)]
  omega
theorem sp_off_in {f g : Nat → Int} {n k : Int} (hn : 0 ≤ n ∧ n ≤ 6) (hk : 0 ≤ k ∧ k ≤ 6) (hf : ∀ i : Nat, (i : Int) < n → 0 ≤ f i ∧ f i ≤ 9) (hg : ∀ i : Nat, (i : Int) < k → 0 ≤ g i ∧ g i ≤ 9) : 0 ≤ sp_off f n g k ∧ sp_off f n g k ≤ 78 := by
  have h := dt_sum_in (f := sp_ab f g) (b := 9) (min n k).toNat (fun i hi => by have := hf i (by omega); have := hg i (by omega); unfold sp_ab; omega)
  unfold sp_off
  omega
theorem lp_54_NOTE {f g : Nat → Int} {t0 t1 : Nat} {n k b2 : Int} {m : jx_M} {Q : Int → jx_M → Prop} (ht0 : t0 < 18) (ht1 : t1 < 18) (hn : 0 ≤ n ∧ n ≤ 6) (hk : 0 ≤ k ∧ k ≤ 6) (hf : ∀ i : Nat, (i : Int) < n → m 8 t1 i = f i ∧ 0 ≤ f i ∧ f i ≤ 9) (hg : ∀ i : Nat, (i : Int) < k → m 8 t0 i = g i ∧ 0 ≤ g i ∧ g i ≤ 9) (hq : Q (sp_off f n g k) m) :
    ∀ (r j : Nat), j + r = (min n k).toNat → jx_AW 54 18 [some (xA 6 t0), some (xA 8 t1), some (xI b2), some (xI (min n k)), some (xI (4 * ((n - k).natAbs : Int) + dt_sum (sp_ab f g) j)), some (xI (j : Int))] [] m Q := by
  intro r
  induction r with
  | zero =>
    intro j hj
    obtain rfl : j = (min n k).toNat := by omega
    exact sg_54_NOTE_18 t0 t1 b2 (min n k) _ _ m Q ⟨fun h => by omega, fun _ => hq⟩
  | succ r ih =>
    intro j hj
    have nxt := ih (j + 1) (by omega)
    have h1 := hf j (by omega)
    have h2 := hg j (by omega)
    have hs := dt_sum_in (f := sp_ab f g) (b := 9) j (fun i hi => by have := hf i (by omega); have := hg i (by omega); unfold sp_ab; omega)
    rw [show 4 * ((n - k).natAbs : Int) + dt_sum (sp_ab f g) (j + 1) = 4 * ((n - k).natAbs : Int) + dt_sum (sp_ab f g) j + ((f j - g j).natAbs : Int) by rw [show dt_sum (sp_ab f g) (j + 1) = dt_sum (sp_ab f g) j + ((f j - g j).natAbs : Int) from rfl]; omega] at nxt
    refine sg_54_NOTE_18 t0 t1 b2 (min n k) _ _ m Q ⟨fun h => ?_, fun h => by omega⟩
    rw [show ((j : Int)).toNat = j by omega, h1.1, h2.1]
    exact ⟨by omega, ht1, ht0, by omega, ht0, by omega, by omega, by omega, by omega, nxt⟩
theorem cl_54_NOTE {f g : Nat → Int} {t0 t1 : Nat} {n k : Int} {m : jx_M} {Q : Int → jx_M → Prop} (ht0 : t0 < 18) (ht1 : t1 < 18) (hn : 0 ≤ n ∧ n ≤ 6) (hk : 0 ≤ k ∧ k ≤ 6) (hk0 : m 6 t0 3 = k) (hf : ∀ i : Nat, (i : Int) < n → m 8 t1 i = f i ∧ 0 ≤ f i ∧ f i ≤ 9) (hg : ∀ i : Nat, (i : Int) < k → m 8 t0 i = g i ∧ 0 ≤ g i ∧ g i ≤ 9) (hq : Q (sp_off f n g k) m) : jx_Cl 54 [xA 6 t0, xA 8 t1, xI n] m Q := by
  have l := lp_54_NOTE (b2 := n) ht0 ht1 hn hk hf hg hq (min n k).toNat 0 (by omega)
  rw [show 4 * ((n - k).natAbs : Int) + dt_sum (sp_ab f g) 0 = 4 * ((n - k).natAbs : Int) from Int.add_zero _] at l
  refine sg_54_NOTE t0 t1 n m Q ?_
  rw [hk0, show min (min n 6) k = min n k by omega]
  exact ⟨rfl, ht1, ht0, ht0, by omega, by omega, by omega, l⟩
theorem lp_54_DRAFT {f g : Nat → Int} {t0 : Nat} {n k b2 : Int} {m : jx_M} {Q : Int → jx_M → Prop} (ht0 : t0 < 18) (hn : 0 ≤ n ∧ n ≤ 6) (hk : 0 ≤ k ∧ k ≤ 6) (hf : ∀ i : Nat, (i : Int) < n → m 25 0 i = f i ∧ 0 ≤ f i ∧ f i ≤ 9) (hg : ∀ i : Nat, (i : Int) < k → m 8 t0 i = g i ∧ 0 ≤ g i ∧ g i ≤ 9) (hq : Q (sp_off f n g k) m) :
    ∀ (r j : Nat), j + r = (min n k).toNat → jx_AW 54 18 [some (xA 6 t0), some (xA 25 0), some (xI b2), some (xI (min n k)), some (xI (4 * ((n - k).natAbs : Int) + dt_sum (sp_ab f g) j)), some (xI (j : Int))] [] m Q := by
  intro r
  induction r with
  | zero =>
    intro j hj
    obtain rfl : j = (min n k).toNat := by omega
    exact sg_54_DRAFT_18 t0 b2 (min n k) _ _ m Q ⟨fun h => by omega, fun _ => hq⟩
  | succ r ih =>
    intro j hj
    have nxt := ih (j + 1) (by omega)
    have h1 := hf j (by omega)
    have h2 := hg j (by omega)
    have hs := dt_sum_in (f := sp_ab f g) (b := 9) j (fun i hi => by have := hf i (by omega); have := hg i (by omega); unfold sp_ab; omega)
    rw [show 4 * ((n - k).natAbs : Int) + dt_sum (sp_ab f g) (j + 1) = 4 * ((n - k).natAbs : Int) + dt_sum (sp_ab f g) j + ((f j - g j).natAbs : Int) by rw [show dt_sum (sp_ab f g) (j + 1) = dt_sum (sp_ab f g) j + ((f j - g j).natAbs : Int) from rfl]; omega] at nxt
    refine sg_54_DRAFT_18 t0 b2 (min n k) _ _ m Q ⟨fun h => ?_, fun h => by omega⟩
    rw [show ((j : Int)).toNat = j by omega, h1.1, h2.1]
    exact ⟨by omega, by omega, ht0, by omega, ht0, by omega, by omega, by omega, by omega, nxt⟩
theorem cl_54_DRAFT {f g : Nat → Int} {t0 : Nat} {n k : Int} {m : jx_M} {Q : Int → jx_M → Prop} (ht0 : t0 < 18) (hn : 0 ≤ n ∧ n ≤ 6) (hk : 0 ≤ k ∧ k ≤ 6) (hk0 : m 6 t0 3 = k) (hf : ∀ i : Nat, (i : Int) < n → m 25 0 i = f i ∧ 0 ≤ f i ∧ f i ≤ 9) (hg : ∀ i : Nat, (i : Int) < k → m 8 t0 i = g i ∧ 0 ≤ g i ∧ g i ≤ 9) (hq : Q (sp_off f n g k) m) : jx_Cl 54 [xA 6 t0, xA 25 0, xI n] m Q := by
  have l := lp_54_DRAFT (b2 := n) ht0 hn hk hf hg hq (min n k).toNat 0 (by omega)
  rw [show 4 * ((n - k).natAbs : Int) + dt_sum (sp_ab f g) 0 = 4 * ((n - k).natAbs : Int) from Int.add_zero _] at l
  refine sg_54_DRAFT t0 n m Q ?_
  rw [hk0, show min (min n 25) k = min n k by omega]
  exact ⟨rfl, by omega, ht0, ht0, by omega, by omega, by omega, l⟩
theorem lp_150_Mtunes_Mtunes {f g : Nat → Int} {x n y k : Int} {m : jx_M} {Q : Int → jx_M → Prop} (hn : 0 ≤ n ∧ n ≤ 6) (hk : 0 ≤ k ∧ k ≤ 6) (hx : 0 ≤ x ∧ x + n ≤ 42) (hy : 0 ≤ y ∧ y + k ≤ 42) (hf : ∀ i : Nat, (i : Int) < n → m 30 0 (x + i).toNat = f i ∧ 0 ≤ f i ∧ f i ≤ 9) (hg : ∀ i : Nat, (i : Int) < k → m 30 0 (y + i).toNat = g i ∧ 0 ≤ g i ∧ g i ≤ 9) (hq : Q (sp_off f n g k) m) :
    ∀ (r j : Nat) (w : Option jx_V) (b6 : Int), j + r = (max n k).toNat → b6 = dt_sum (sp_ab f g) (min j (min n k).toNat) + 4 * ((j - min j (min n k).toNat : Nat) : Int) → jx_AW 150 4 [some (xA 30 0), some (xI x), some (xI n), some (xA 30 0), some (xI y), some (xI k), some (xI b6), some (xI (j : Int)), w] [] m Q := by
  intro r
  induction r with
  | zero =>
    intro j w b6 hj hb
    refine sg_150_Mtunes_Mtunes_4 x n y k b6 j w m Q ⟨fun h => by omega, fun _ => ⟨fun h => by omega, fun _ => ?_⟩⟩
    rw [show min j (min n k).toNat = (min n k).toNat by omega] at hb
    unfold sp_off at hq
    rw [show b6 = 4 * ((n - k).natAbs : Int) + dt_sum (sp_ab f g) (min n k).toNat by omega]
    exact hq
  | succ r ih =>
    intro j w b6 hj hb
    have hs := dt_sum_in (f := sp_ab f g) (b := 9) (min j (min n k).toNat) (fun i hi => by have := hf i (by omega); have := hg i (by omega); unfold sp_ab; omega)
    have nxt : ∀ (w' : Option jx_V) (b' : Int), b' = dt_sum (sp_ab f g) (min (j + 1) (min n k).toNat) + 4 * ((j + 1 - min (j + 1) (min n k).toNat : Nat) : Int) → jx_AW 150 4 [some (xA 30 0), some (xI x), some (xI n), some (xA 30 0), some (xI y), some (xI k), some (xI b'), some (xI ((j : Int) + 1)), w'] [] m Q := fun w' b' h => ih (j + 1) w' b' (by omega) h
    have far : ¬ ((j : Int) < n ∧ (j : Int) < k) → b6 + 4 = dt_sum (sp_ab f g) (min (j + 1) (min n k).toNat) + 4 * ((j + 1 - min (j + 1) (min n k).toNat : Nat) : Int) := by
      intro h
      rw [show min (j + 1) (min n k).toNat = min j (min n k).toNat by omega]
      omega
    refine sg_150_Mtunes_Mtunes_4 x n y k b6 j w m Q ⟨fun h => ⟨fun _ => ⟨fun h2 => ?_, fun h2 => ⟨fun z => by omega, fun _ => ⟨by omega, by omega, nxt _ _ (far (by omega))⟩⟩⟩, fun z => absurd h z⟩, fun h => ⟨fun h2 => ⟨fun z => absurd z h, fun _ => ⟨fun z => by omega, fun _ => ⟨by omega, by omega, nxt _ _ (far (by omega))⟩⟩⟩, fun h2 => by omega⟩⟩
    have h3 := hf j h
    have h4 := hg j h2
    have e5 : dt_sum (sp_ab f g) (min (j + 1) (min n k).toNat) = dt_sum (sp_ab f g) (min j (min n k).toNat) + ((f j - g j).natAbs : Int) := by
      rw [show min (j + 1) (min n k).toNat = j + 1 by omega, show min j (min n k).toNat = j by omega]
      rfl
    rw [e5] at nxt
    rw [h3.1, h4.1]
    exact ⟨by omega, by omega, by omega, by omega, by omega, by omega, by omega, fun h5 => ⟨by omega, by omega, by omega, nxt _ _ (by omega)⟩, fun h5 => ⟨by omega, by omega, nxt _ _ (by omega)⟩⟩
theorem cl_150_Mtunes_Mtunes {f g : Nat → Int} {x n y k : Int} {m : jx_M} {Q : Int → jx_M → Prop} (hn : 0 ≤ n ∧ n ≤ 6) (hk : 0 ≤ k ∧ k ≤ 6) (hx : 0 ≤ x ∧ x + n ≤ 42) (hy : 0 ≤ y ∧ y + k ≤ 42) (hf : ∀ i : Nat, (i : Int) < n → m 30 0 (x + i).toNat = f i ∧ 0 ≤ f i ∧ f i ≤ 9) (hg : ∀ i : Nat, (i : Int) < k → m 30 0 (y + i).toNat = g i ∧ 0 ≤ g i ∧ g i ≤ 9) (hq : Q (sp_off f n g k) m) : jx_Cl 150 [xA 30 0, xI x, xI n, xA 30 0, xI y, xI k] m Q :=
  sg_150_Mtunes_Mtunes x n y k m Q (lp_150_Mtunes_Mtunes hn hk hx hy hf hg hq (max n k).toNat 0 none 0 (by omega) (by rw [show min 0 (min n k).toNat = 0 by omega]; rfl))
theorem lp_150_Mrow_Mtunes {f g : Nat → Int} {x n y k : Int} {m : jx_M} {Q : Int → jx_M → Prop} (hn : 0 ≤ n ∧ n ≤ 6) (hk : 0 ≤ k ∧ k ≤ 6) (hx : 0 ≤ x ∧ x + n ≤ 6) (hy : 0 ≤ y ∧ y + k ≤ 42) (hf : ∀ i : Nat, (i : Int) < n → m 41 0 (x + i).toNat = f i ∧ 0 ≤ f i ∧ f i ≤ 9) (hg : ∀ i : Nat, (i : Int) < k → m 30 0 (y + i).toNat = g i ∧ 0 ≤ g i ∧ g i ≤ 9) (hq : Q (sp_off f n g k) m) :
    ∀ (r j : Nat) (w : Option jx_V) (b6 : Int), j + r = (max n k).toNat → b6 = dt_sum (sp_ab f g) (min j (min n k).toNat) + 4 * ((j - min j (min n k).toNat : Nat) : Int) → jx_AW 150 4 [some (xA 41 0), some (xI x), some (xI n), some (xA 30 0), some (xI y), some (xI k), some (xI b6), some (xI (j : Int)), w] [] m Q := by
  intro r
  induction r with
  | zero =>
    intro j w b6 hj hb
    refine sg_150_Mrow_Mtunes_4 x n y k b6 j w m Q ⟨fun h => by omega, fun _ => ⟨fun h => by omega, fun _ => ?_⟩⟩
    rw [show min j (min n k).toNat = (min n k).toNat by omega] at hb
    unfold sp_off at hq
    rw [show b6 = 4 * ((n - k).natAbs : Int) + dt_sum (sp_ab f g) (min n k).toNat by omega]
    exact hq
  | succ r ih =>
    intro j w b6 hj hb
    have hs := dt_sum_in (f := sp_ab f g) (b := 9) (min j (min n k).toNat) (fun i hi => by have := hf i (by omega); have := hg i (by omega); unfold sp_ab; omega)
    have nxt : ∀ (w' : Option jx_V) (b' : Int), b' = dt_sum (sp_ab f g) (min (j + 1) (min n k).toNat) + 4 * ((j + 1 - min (j + 1) (min n k).toNat : Nat) : Int) → jx_AW 150 4 [some (xA 41 0), some (xI x), some (xI n), some (xA 30 0), some (xI y), some (xI k), some (xI b'), some (xI ((j : Int) + 1)), w'] [] m Q := fun w' b' h => ih (j + 1) w' b' (by omega) h
    have far : ¬ ((j : Int) < n ∧ (j : Int) < k) → b6 + 4 = dt_sum (sp_ab f g) (min (j + 1) (min n k).toNat) + 4 * ((j + 1 - min (j + 1) (min n k).toNat : Nat) : Int) := by
      intro h
      rw [show min (j + 1) (min n k).toNat = min j (min n k).toNat by omega]
      omega
    refine sg_150_Mrow_Mtunes_4 x n y k b6 j w m Q ⟨fun h => ⟨fun _ => ⟨fun h2 => ?_, fun h2 => ⟨fun z => by omega, fun _ => ⟨by omega, by omega, nxt _ _ (far (by omega))⟩⟩⟩, fun z => absurd h z⟩, fun h => ⟨fun h2 => ⟨fun z => absurd z h, fun _ => ⟨fun z => by omega, fun _ => ⟨by omega, by omega, nxt _ _ (far (by omega))⟩⟩⟩, fun h2 => by omega⟩⟩
    have h3 := hf j h
    have h4 := hg j h2
    have e5 : dt_sum (sp_ab f g) (min (j + 1) (min n k).toNat) = dt_sum (sp_ab f g) (min j (min n k).toNat) + ((f j - g j).natAbs : Int) := by
      rw [show min (j + 1) (min n k).toNat = j + 1 by omega, show min j (min n k).toNat = j by omega]
      rfl
    rw [e5] at nxt
    rw [h3.1, h4.1]
    exact ⟨by omega, by omega, by omega, by omega, by omega, by omega, by omega, fun h5 => ⟨by omega, by omega, by omega, nxt _ _ (by omega)⟩, fun h5 => ⟨by omega, by omega, nxt _ _ (by omega)⟩⟩
theorem cl_150_Mrow_Mtunes {f g : Nat → Int} {x n y k : Int} {m : jx_M} {Q : Int → jx_M → Prop} (hn : 0 ≤ n ∧ n ≤ 6) (hk : 0 ≤ k ∧ k ≤ 6) (hx : 0 ≤ x ∧ x + n ≤ 6) (hy : 0 ≤ y ∧ y + k ≤ 42) (hf : ∀ i : Nat, (i : Int) < n → m 41 0 (x + i).toNat = f i ∧ 0 ≤ f i ∧ f i ≤ 9) (hg : ∀ i : Nat, (i : Int) < k → m 30 0 (y + i).toNat = g i ∧ 0 ≤ g i ∧ g i ≤ 9) (hq : Q (sp_off f n g k) m) : jx_Cl 150 [xA 41 0, xI x, xI n, xA 30 0, xI y, xI k] m Q :=
  sg_150_Mrow_Mtunes x n y k m Q (lp_150_Mrow_Mtunes hn hk hx hy hf hg hq (max n k).toNat 0 none 0 (by omega) (by rw [show min 0 (min n k).toNat = 0 by omega]; rfl))
/-- two sellers' tunes -/
def sp_apart (d : jx_M) (s o : Nat) : Int := sp_off (d 4 s) (d 2 s 5) (d 4 o) (d 2 o 5)
theorem sp_apart_in {d : jx_M} {s o : Nat} (hs : dt_wS d s) (ho : dt_wS d o) : 0 ≤ sp_apart d s o ∧ sp_apart d s o ≤ 78 := by
  have h1 := hs.2.2.2.2.2.1
  have h2 := ho.2.2.2.2.2.1
  exact sp_off_in (by omega) (by omega) hs.2.2.2.2.2.2.2 ho.2.2.2.2.2.2.2
theorem sp_apart_sym (d : jx_M) (s o : Nat) : sp_apart d s o = sp_apart d o s := sp_off_sym _ _ _ _
/-- the seller at j differs from the tune of the one at i -/
theorem cl_54_S {d : jx_M} {i j s o : Nat} {m : jx_M} {Q : Int → jx_M → Prop} (hi : i < 18) (hj : j < 18) (hs : dt_wS d s) (ho : dt_wS d o) (ri : rc_S m i d s) (rj : rc_S m j d o) (hq : Q (sp_apart d s o) m) : jx_Cl 54 [xA 6 j, xA 8 i, xI (m 6 i 3)] m Q := by
  have h1 := hs.2.2.2.2.2.1
  have h2 := ho.2.2.2.2.2.1
  have e1 := ri.2.2.2.2.2.1
  have e2 := rj.2.2.2.2.2.1
  rw [e1]
  exact cl_54_NOTE hj hi (by omega) (by omega) e2 (fun k hk => ⟨ri.2.2.2.2.2.2.2.2 k hk, hs.2.2.2.2.2.2.2 k hk⟩) (fun k hk => ⟨rj.2.2.2.2.2.2.2.2 k hk, ho.2.2.2.2.2.2.2 k hk⟩) hq
theorem cl_149 {d : jx_M} {a b : Int} {m : jx_M} {Q : Int → jx_M → Prop} (hw : dt_w d) (hr : re_T m d) (ha : 0 ≤ a ∧ a < d 1 0 0) (hb : 0 ≤ b ∧ b < d 1 0 0) (hq : Q (sp_apart d a.toNat b.toNat) m) : jx_Cl 149 [xA 26 0, xI a, xI b] m Q := by
  have hs := hw.2.1
  have wa := hw.2.2.2.2.2.2.1 a.toNat (by omega)
  have wb := hw.2.2.2.2.2.2.1 b.toNat (by omega)
  obtain ⟨-, -, p3, -, p5⟩ := hr.2.2.2.2.2.2.1 a.toNat (by omega)
  obtain ⟨-, -, q3, -, q5⟩ := hr.2.2.2.2.2.2.1 b.toNat (by omega)
  have e1 : m 30 0 ((7 * a).toNat) = d 2 a.toNat 5 := by rw [← p3]; congr 1; omega
  have e2 : m 30 0 ((7 * b).toNat) = d 2 b.toNat 5 := by rw [← q3]; congr 1; omega
  have h1 := wa.2.2.2.2.2.1
  have h2 := wb.2.2.2.2.2.1
  refine sg_149 a b m Q ?_
  rw [e1, e2]
  refine ⟨by omega, by omega, by omega, by omega, by omega, by omega, by omega, by omega, by omega, by omega, by omega, by omega, by omega, by omega, ?_⟩
  refine cl_150_Mtunes_Mtunes (f := d 4 a.toNat) (g := d 4 b.toNat) (by omega) (by omega) (by omega) (by omega) (fun i hi => ⟨?_, wa.2.2.2.2.2.2.2 i hi⟩) (fun i hi => ⟨?_, wb.2.2.2.2.2.2.2 i hi⟩) hq
  · rw [← p5 i hi]; congr 1; omega
  · rw [← q5 i hi]; congr 1; omega
/-- what apart answers -/
noncomputable def sp_q53 (d : jx_M) (a b : Int) : Int := @ite _ ((0 ≤ a ∧ a < d 1 0 0) ∧ (0 ≤ b ∧ b < d 1 0 0)) (Classical.propDecidable _) (sp_apart d a.toNat b.toNat) (-1)
theorem cl_148 {d : jx_M} {a b : Int} {m : jx_M} {Q : Int → jx_M → Prop} (hw : dt_w d) (hr : re_T m d) (hq : Q (sp_q53 d a b) m) : jx_Cl 148 [xA 26 0, xI a, xI b] m Q := by
  have hs := hw.2.1
  have en := hr.2.1
  unfold sp_q53 at hq
  refine sg_148 a b m Q ⟨by omega, cl_130 (by omega) (fun h => ⟨fun z => by omega, fun _ => ⟨by omega, cl_130 (by omega) (fun h2 => ⟨fun z => by omega, fun _ => ⟨by omega, cl_149 hw hr (by omega) (by omega) ?_⟩⟩) (fun h2 => ⟨fun _ => ?_, fun z => by omega⟩)⟩⟩) (fun h => ⟨fun _ => ?_, fun z => by omega⟩)⟩
  · rw [if_pos (by omega)] at hq; exact hq
  · rw [if_neg (by omega)] at hq; exact hq
  · rw [if_neg (by omega)] at hq; exact hq
theorem cl_53 {d : jx_M} {a b : Int} {m : jx_M} {Q : Int → jx_M → Prop} (hw : dt_w d) (hr : rc_T m 0 d) (hq : Q (sp_q53 d a b) m) : jx_Cl 53 [xA 0 0, xI a, xI b] m Q := by
  have hs := hw.2.1
  have en := hr.2.1
  unfold sp_q53 at hq
  refine sg_53 a b m Q ⟨by omega, by omega, cl_19 (by omega) (fun h => ⟨fun z => by omega, fun _ => ⟨by omega, by omega, cl_19 (by omega) (fun h2 => ⟨fun z => by omega, fun _ => ⟨by omega, by omega, by omega, by omega, by omega, by omega, by omega, by omega, by omega, by omega, by omega, ?_⟩⟩) (fun h2 => ⟨fun _ => ?_, fun z => by omega⟩)⟩⟩) (fun h => ⟨fun _ => ?_, fun z => by omega⟩)⟩
  · rw [if_pos (by omega), sp_apart_sym] at hq
    exact cl_54_S (by omega) (by omega) (hw.2.2.2.2.2.2.1 _ (by omega)) (hw.2.2.2.2.2.2.1 _ (by omega)) (hr.2.2.2.2.2.2.1 b.toNat (by omega)) (hr.2.2.2.2.2.2.1 a.toNat (by omega)) hq
  · rw [if_neg (by omega)] at hq; exact hq
  · rw [if_neg (by omega)] at hq; exact hq
