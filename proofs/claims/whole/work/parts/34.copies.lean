/-! the class: what a seller takes over, copies of sellers and towns -/
theorem lp_17_NOTE {f : Nat → Int} {t1 : Nat} {n : Int} {m : jx_M} {Q : Int → jx_M → Prop} (ht1 : t1 < 18) (hn : 1 ≤ n ∧ n ≤ 6) (hf : ∀ i : Nat, (i : Int) < n → m 8 t1 i = f i ∧ 0 ≤ f i ∧ f i ≤ 9) (hq : Q (dt_sum f n.toNat / n / 3) m) :
    ∀ (r k : Nat), k + r = n.toNat → jx_AW 17 13 [some (xA 8 t1), some (xI n), some (xI (dt_sum f k)), some (xI (k : Int))] [] m Q := by
  intro r
  induction r with
  | zero =>
    intro k hk
    obtain rfl : k = n.toNat := by omega
    have h1 := dt_sum_in (f := f) (b := 9) n.toNat (fun i hi => (hf i (by omega)).2)
    have h2 : 0 ≤ dt_sum f n.toNat / n := Int.ediv_nonneg h1.1 (by omega)
    exact sg_17_NOTE_13 t1 n _ _ m Q ⟨fun z => by omega, fun _ => ⟨by omega, by omega, hq⟩⟩
  | succ r ih =>
    intro k hk
    have h1 := dt_sum_in (f := f) (b := 9) k (fun i hi => (hf i (by omega)).2)
    have h2 := hf k (by omega)
    have nxt := ih (k + 1) (by omega)
    refine sg_17_NOTE_13 t1 n _ _ m Q ?_
    rw [show ((k : Int)).toNat = k by omega, h2.1]
    exact ⟨fun _ => ⟨by omega, ht1, by omega, by omega, nxt⟩, fun z => by omega⟩
theorem cl_17_NOTE {f : Nat → Int} {t1 : Nat} {n : Int} {m : jx_M} {Q : Int → jx_M → Prop} (ht1 : t1 < 18) (hn : 1 ≤ n ∧ n ≤ 6) (hf : ∀ i : Nat, (i : Int) < n → m 8 t1 i = f i ∧ 0 ≤ f i ∧ f i ≤ 9) (hq : Q (dt_sum f n.toNat / n / 3) m) : jx_Cl 17 [xA 8 t1, xI n] m Q :=
  sg_17_NOTE t1 n m Q ⟨fun z => by omega, fun _ => ⟨rfl, ht1, fun z => by omega, fun _ => lp_17_NOTE ht1 hn hf hq n.toNat 0 (by omega)⟩⟩
theorem lp_17_DRAFT {f : Nat → Int} {n : Int} {m : jx_M} {Q : Int → jx_M → Prop} (hn : 1 ≤ n ∧ n ≤ 25) (hf : ∀ i : Nat, (i : Int) < n → m 25 0 i = f i ∧ 0 ≤ f i ∧ f i ≤ 9) (hq : Q (dt_sum f n.toNat / n / 3) m) :
    ∀ (r k : Nat), k + r = n.toNat → jx_AW 17 13 [some (xA 25 0), some (xI n), some (xI (dt_sum f k)), some (xI (k : Int))] [] m Q := by
  intro r
  induction r with
  | zero =>
    intro k hk
    obtain rfl : k = n.toNat := by omega
    have h1 := dt_sum_in (f := f) (b := 9) n.toNat (fun i hi => (hf i (by omega)).2)
    have h2 : 0 ≤ dt_sum f n.toNat / n := Int.ediv_nonneg h1.1 (by omega)
    exact sg_17_DRAFT_13 n _ _ m Q ⟨fun z => by omega, fun _ => ⟨by omega, by omega, hq⟩⟩
  | succ r ih =>
    intro k hk
    have h1 := dt_sum_in (f := f) (b := 9) k (fun i hi => (hf i (by omega)).2)
    have h2 := hf k (by omega)
    have nxt := ih (k + 1) (by omega)
    refine sg_17_DRAFT_13 n _ _ m Q ?_
    rw [show ((k : Int)).toNat = k by omega, h2.1]
    exact ⟨fun _ => ⟨by omega, (by omega), by omega, by omega, nxt⟩, fun z => by omega⟩
theorem cl_17_DRAFT {f : Nat → Int} {n : Int} {m : jx_M} {Q : Int → jx_M → Prop} (hn : 1 ≤ n ∧ n ≤ 25) (hf : ∀ i : Nat, (i : Int) < n → m 25 0 i = f i ∧ 0 ≤ f i ∧ f i ≤ 9) (hq : Q (dt_sum f n.toNat / n / 3) m) : jx_Cl 17 [xA 25 0, xI n] m Q :=
  sg_17_DRAFT n m Q ⟨fun z => by omega, fun _ => ⟨rfl, (by omega), fun z => by omega, fun _ => lp_17_DRAFT hn hf hq n.toNat 0 (by omega)⟩⟩
theorem lp_38_CORN {f : Nat → Int} {t0 : Nat} {t1 : Nat} {n b2 : Int} {m : jx_M} {Q : Int → jx_M → Prop} (ht0 : t0 < 18) (ht1 : t1 < 18) (hne : t1 ≠ t0) (hn : 0 ≤ n ∧ n ≤ 12) (hf : ∀ i : Nat, (i : Int) < n → m 7 t1 i = f i)
    (K : ∀ m2 : jx_M, (∀ s i j, ¬ ((s = 6 ∧ i = t0 ∧ j = 2) ∨ (s = 7 ∧ i = t0)) → m2 s i j = m s i j) → m2 6 t0 2 = n → (∀ i : Nat, (i : Int) < n → m2 7 t0 i = f i) → Q 0 m2) :
    ∀ (r k : Nat) (m1 : jx_M), k + r = n.toNat → (∀ s i j, ¬ ((s = 6 ∧ i = t0 ∧ j = 2) ∨ (s = 7 ∧ i = t0)) → m1 s i j = m s i j) → m1 6 t0 2 = n → (∀ i : Nat, i < k → m1 7 t0 i = f i) → jx_AW 38 10 [some (xA 6 t0), some (xA 7 t1), some (xI b2), some (xI (k : Int))] [] m1 Q := by
  intro r
  induction r with
  | zero =>
    intro k m1 hk hfr h2 h
    exact sg_38_CORN_10 t0 t1 b2 k m1 Q ⟨ht0, fun z => by omega, fun _ => K m1 hfr h2 (fun i hi => h i (by omega))⟩
  | succ r ih =>
    intro k m1 hk hfr h2 h
    refine sg_38_CORN_10 t0 t1 b2 k m1 Q ?_
    rw [show ((k : Int)).toNat = k by omega, show m1 7 t1 k = f k from (hfr 7 t1 k (by omega)).trans (hf k (by omega))]
    refine ⟨ht0, fun _ => ⟨ht0, by omega, ht1, by omega, ht0, by omega, ih (k + 1) _ (by omega) (fun s i j hn' => ?_) ?_ (fun i hi => ?_)⟩, fun z => by omega⟩
    · rw [up_ne (fun z => hn' (Or.inr ⟨z.1, z.2.1⟩))]; exact hfr s i j hn'
    · rw [up_ne (by omega)]; exact h2
    · rcases Nat.decEq i k with q | q
      · rw [up_ne (by omega)]; exact h i (by omega)
      · subst q; exact up_eq
theorem cl_38_CORN {f : Nat → Int} {t0 : Nat} {t1 : Nat} {n : Int} {m : jx_M} {Q : Int → jx_M → Prop} (ht0 : t0 < 18) (ht1 : t1 < 18) (hne : t1 ≠ t0) (hn : 0 ≤ n ∧ n ≤ 12) (hf : ∀ i : Nat, (i : Int) < n → m 7 t1 i = f i)
    (K : ∀ m2 : jx_M, (∀ s i j, ¬ ((s = 6 ∧ i = t0 ∧ j = 2) ∨ (s = 7 ∧ i = t0)) → m2 s i j = m s i j) → m2 6 t0 2 = n → (∀ i : Nat, (i : Int) < n → m2 7 t0 i = f i) → Q 0 m2) : jx_Cl 38 [xA 6 t0, xA 7 t1, xI n] m Q := by
  refine sg_38_CORN t0 t1 n m Q ?_
  rw [show min n (min 12 12) = n by omega]
  refine ⟨rfl, ht1, ht0, lp_38_CORN ht0 ht1 hne hn hf K n.toNat 0 _ (by omega) (fun s i j hn' => up_ne (fun z => hn' (Or.inl z))) up_eq (fun i hi => by omega)⟩
theorem lp_38_DRAFT {f : Nat → Int} {t0 : Nat} {n b2 : Int} {m : jx_M} {Q : Int → jx_M → Prop} (ht0 : t0 < 18) (hn : 0 ≤ n ∧ n ≤ 12) (hf : ∀ i : Nat, (i : Int) < n → m 25 0 i = f i)
    (K : ∀ m2 : jx_M, (∀ s i j, ¬ ((s = 6 ∧ i = t0 ∧ j = 2) ∨ (s = 7 ∧ i = t0)) → m2 s i j = m s i j) → m2 6 t0 2 = n → (∀ i : Nat, (i : Int) < n → m2 7 t0 i = f i) → Q 0 m2) :
    ∀ (r k : Nat) (m1 : jx_M), k + r = n.toNat → (∀ s i j, ¬ ((s = 6 ∧ i = t0 ∧ j = 2) ∨ (s = 7 ∧ i = t0)) → m1 s i j = m s i j) → m1 6 t0 2 = n → (∀ i : Nat, i < k → m1 7 t0 i = f i) → jx_AW 38 10 [some (xA 6 t0), some (xA 25 0), some (xI b2), some (xI (k : Int))] [] m1 Q := by
  intro r
  induction r with
  | zero =>
    intro k m1 hk hfr h2 h
    exact sg_38_DRAFT_10 t0 b2 k m1 Q ⟨ht0, fun z => by omega, fun _ => K m1 hfr h2 (fun i hi => h i (by omega))⟩
  | succ r ih =>
    intro k m1 hk hfr h2 h
    refine sg_38_DRAFT_10 t0 b2 k m1 Q ?_
    rw [show ((k : Int)).toNat = k by omega, show m1 25 0 k = f k from (hfr 25 0 k (by omega)).trans (hf k (by omega))]
    refine ⟨ht0, fun _ => ⟨ht0, by omega, (by omega), by omega, ht0, by omega, ih (k + 1) _ (by omega) (fun s i j hn' => ?_) ?_ (fun i hi => ?_)⟩, fun z => by omega⟩
    · rw [up_ne (fun z => hn' (Or.inr ⟨z.1, z.2.1⟩))]; exact hfr s i j hn'
    · rw [up_ne (by omega)]; exact h2
    · rcases Nat.decEq i k with q | q
      · rw [up_ne (by omega)]; exact h i (by omega)
      · subst q; exact up_eq
theorem cl_38_DRAFT {f : Nat → Int} {t0 : Nat} {n : Int} {m : jx_M} {Q : Int → jx_M → Prop} (ht0 : t0 < 18) (hn : 0 ≤ n ∧ n ≤ 12) (hf : ∀ i : Nat, (i : Int) < n → m 25 0 i = f i)
    (K : ∀ m2 : jx_M, (∀ s i j, ¬ ((s = 6 ∧ i = t0 ∧ j = 2) ∨ (s = 7 ∧ i = t0)) → m2 s i j = m s i j) → m2 6 t0 2 = n → (∀ i : Nat, (i : Int) < n → m2 7 t0 i = f i) → Q 0 m2) : jx_Cl 38 [xA 6 t0, xA 25 0, xI n] m Q := by
  refine sg_38_DRAFT t0 n m Q ?_
  rw [show min n (min 25 12) = n by omega]
  refine ⟨rfl, (by omega), ht0, lp_38_DRAFT ht0 hn hf K n.toNat 0 _ (by omega) (fun s i j hn' => up_ne (fun z => hn' (Or.inl z))) up_eq (fun i hi => by omega)⟩
theorem lp_40_NOTE {f : Nat → Int} {t0 : Nat} {t1 : Nat} {n b2 : Int} {m : jx_M} {Q : Int → jx_M → Prop} (ht0 : t0 < 18) (ht1 : t1 < 18) (hne : t1 ≠ t0) (hn : 1 ≤ n ∧ n ≤ 6) (hf : ∀ i : Nat, (i : Int) < n → m 8 t1 i = f i ∧ 0 ≤ f i ∧ f i ≤ 9)
    (K : ∀ m2 : jx_M, (∀ s i j, ¬ ((s = 6 ∧ i = t0 ∧ (j = 3 ∨ j = 8)) ∨ (s = 8 ∧ i = t0)) → m2 s i j = m s i j) → m2 6 t0 3 = n → m2 6 t0 8 = dt_sum f n.toNat / n / 3 → (∀ i : Nat, (i : Int) < n → m2 8 t0 i = f i) → Q 0 m2) :
    ∀ (r k : Nat) (m1 : jx_M), k + r = n.toNat → (∀ s i j, ¬ ((s = 6 ∧ i = t0 ∧ (j = 3 ∨ j = 8)) ∨ (s = 8 ∧ i = t0)) → m1 s i j = m s i j) → m1 6 t0 3 = n → (∀ i : Nat, i < k → m1 8 t0 i = f i) → jx_AW 40 10 [some (xA 6 t0), some (xA 8 t1), some (xI b2), some (xI (k : Int))] [] m1 Q := by
  intro r
  induction r with
  | zero =>
    intro k m1 hk hfr h3 h
    refine sg_40_NOTE_10 t0 t1 b2 k m1 Q ?_
    rw [h3]
    refine ⟨ht0, fun z => by omega, fun _ => ⟨ht0, ht0, cl_17_NOTE (f := f) ht0 hn (fun i hi => ⟨h i (by omega), (hf i hi).2⟩) ⟨ht0, K _ (fun s i j hn' => ?_) ?_ up_eq (fun i hi => ?_)⟩⟩⟩
    · rw [up_ne (fun z => hn' (Or.inl ⟨z.1, z.2.1, Or.inr z.2.2⟩))]; exact hfr s i j hn'
    · rw [up_ne (by omega)]; exact h3
    · rw [up_ne (by omega)]; exact h i (by omega)
  | succ r ih =>
    intro k m1 hk hfr h3 h
    refine sg_40_NOTE_10 t0 t1 b2 k m1 Q ?_
    rw [show ((k : Int)).toNat = k by omega, show m1 8 t1 k = f k from (hfr 8 t1 k (by omega)).trans (hf k (by omega)).1]
    refine ⟨ht0, fun _ => ⟨ht0, by omega, ht1, by omega, ht0, by omega, ih (k + 1) _ (by omega) (fun s i j hn' => ?_) ?_ (fun i hi => ?_)⟩, fun z => by omega⟩
    · rw [up_ne (fun z => hn' (Or.inr ⟨z.1, z.2.1⟩))]; exact hfr s i j hn'
    · rw [up_ne (by omega)]; exact h3
    · rcases Nat.decEq i k with q | q
      · rw [up_ne (by omega)]; exact h i (by omega)
      · subst q; exact up_eq
theorem cl_40_NOTE {f : Nat → Int} {t0 : Nat} {t1 : Nat} {n : Int} {m : jx_M} {Q : Int → jx_M → Prop} (ht0 : t0 < 18) (ht1 : t1 < 18) (hne : t1 ≠ t0) (hn : 1 ≤ n ∧ n ≤ 6) (hf : ∀ i : Nat, (i : Int) < n → m 8 t1 i = f i ∧ 0 ≤ f i ∧ f i ≤ 9)
    (K : ∀ m2 : jx_M, (∀ s i j, ¬ ((s = 6 ∧ i = t0 ∧ (j = 3 ∨ j = 8)) ∨ (s = 8 ∧ i = t0)) → m2 s i j = m s i j) → m2 6 t0 3 = n → m2 6 t0 8 = dt_sum f n.toNat / n / 3 → (∀ i : Nat, (i : Int) < n → m2 8 t0 i = f i) → Q 0 m2) : jx_Cl 40 [xA 6 t0, xA 8 t1, xI n] m Q := by
  refine sg_40_NOTE t0 t1 n m Q ?_
  rw [show min n (min 6 6) = n by omega]
  refine ⟨rfl, ht1, ht0, lp_40_NOTE ht0 ht1 hne hn hf K n.toNat 0 _ (by omega) (fun s i j hn' => up_ne (fun z => hn' (Or.inl ⟨z.1, z.2.1, Or.inl z.2.2⟩))) up_eq (fun i hi => by omega)⟩
theorem lp_40_DRAFT {f : Nat → Int} {t0 : Nat} {n b2 : Int} {m : jx_M} {Q : Int → jx_M → Prop} (ht0 : t0 < 18) (hn : 1 ≤ n ∧ n ≤ 6) (hf : ∀ i : Nat, (i : Int) < n → m 25 0 i = f i ∧ 0 ≤ f i ∧ f i ≤ 9)
    (K : ∀ m2 : jx_M, (∀ s i j, ¬ ((s = 6 ∧ i = t0 ∧ (j = 3 ∨ j = 8)) ∨ (s = 8 ∧ i = t0)) → m2 s i j = m s i j) → m2 6 t0 3 = n → m2 6 t0 8 = dt_sum f n.toNat / n / 3 → (∀ i : Nat, (i : Int) < n → m2 8 t0 i = f i) → Q 0 m2) :
    ∀ (r k : Nat) (m1 : jx_M), k + r = n.toNat → (∀ s i j, ¬ ((s = 6 ∧ i = t0 ∧ (j = 3 ∨ j = 8)) ∨ (s = 8 ∧ i = t0)) → m1 s i j = m s i j) → m1 6 t0 3 = n → (∀ i : Nat, i < k → m1 8 t0 i = f i) → jx_AW 40 10 [some (xA 6 t0), some (xA 25 0), some (xI b2), some (xI (k : Int))] [] m1 Q := by
  intro r
  induction r with
  | zero =>
    intro k m1 hk hfr h3 h
    refine sg_40_DRAFT_10 t0 b2 k m1 Q ?_
    rw [h3]
    refine ⟨ht0, fun z => by omega, fun _ => ⟨ht0, ht0, cl_17_NOTE (f := f) ht0 hn (fun i hi => ⟨h i (by omega), (hf i hi).2⟩) ⟨ht0, K _ (fun s i j hn' => ?_) ?_ up_eq (fun i hi => ?_)⟩⟩⟩
    · rw [up_ne (fun z => hn' (Or.inl ⟨z.1, z.2.1, Or.inr z.2.2⟩))]; exact hfr s i j hn'
    · rw [up_ne (by omega)]; exact h3
    · rw [up_ne (by omega)]; exact h i (by omega)
  | succ r ih =>
    intro k m1 hk hfr h3 h
    refine sg_40_DRAFT_10 t0 b2 k m1 Q ?_
    rw [show ((k : Int)).toNat = k by omega, show m1 25 0 k = f k from (hfr 25 0 k (by omega)).trans (hf k (by omega)).1]
    refine ⟨ht0, fun _ => ⟨ht0, by omega, (by omega), by omega, ht0, by omega, ih (k + 1) _ (by omega) (fun s i j hn' => ?_) ?_ (fun i hi => ?_)⟩, fun z => by omega⟩
    · rw [up_ne (fun z => hn' (Or.inr ⟨z.1, z.2.1⟩))]; exact hfr s i j hn'
    · rw [up_ne (by omega)]; exact h3
    · rcases Nat.decEq i k with q | q
      · rw [up_ne (by omega)]; exact h i (by omega)
      · subst q; exact up_eq
theorem cl_40_DRAFT {f : Nat → Int} {t0 : Nat} {n : Int} {m : jx_M} {Q : Int → jx_M → Prop} (ht0 : t0 < 18) (hn : 1 ≤ n ∧ n ≤ 6) (hf : ∀ i : Nat, (i : Int) < n → m 25 0 i = f i ∧ 0 ≤ f i ∧ f i ≤ 9)
    (K : ∀ m2 : jx_M, (∀ s i j, ¬ ((s = 6 ∧ i = t0 ∧ (j = 3 ∨ j = 8)) ∨ (s = 8 ∧ i = t0)) → m2 s i j = m s i j) → m2 6 t0 3 = n → m2 6 t0 8 = dt_sum f n.toNat / n / 3 → (∀ i : Nat, (i : Int) < n → m2 8 t0 i = f i) → Q 0 m2) : jx_Cl 40 [xA 6 t0, xA 25 0, xI n] m Q := by
  refine sg_40_DRAFT t0 n m Q ?_
  rw [show min n (min 25 6) = n by omega]
  refine ⟨rfl, (by omega), ht0, lp_40_DRAFT ht0 hn hf K n.toNat 0 _ (by omega) (fun s i j hn' => up_ne (fun z => hn' (Or.inl ⟨z.1, z.2.1, Or.inl z.2.2⟩))) up_eq (fun i hi => by omega)⟩
theorem rc_S_fr {m m' d : jx_M} {j s : Nat} (h : ∀ a k, 6 ≤ a ∧ a ≤ 8 → m' a j k = m a j k) (hr : rc_S m j d s) : rc_S m' j d s := by
  obtain ⟨r1, r2, r3, r4, r5, r6, r7, r8, r9⟩ := hr
  refine ⟨(h 6 4 (by omega)).trans r1, (h 6 5 (by omega)).trans r2, (h 6 6 (by omega)).trans r3, (h 6 7 (by omega)).trans r4, (h 6 2 (by omega)).trans r5, (h 6 3 (by omega)).trans r6, (h 6 8 (by omega)).trans r7, fun i hi => (h 7 i (by omega)).trans (r8 i hi), fun i hi => (h 8 i (by omega)).trans (r9 i hi)⟩
/-- only the seller at j0 is changed -/
def cs_fr (j0 : Nat) (m m' : jx_M) : Prop := ∀ s i j, ¬ (6 ≤ s ∧ s ≤ 8 ∧ i = j0) → m' s i j = m s i j
theorem cl_77 {d : jx_M} {j0 j1 s : Nat} {m : jx_M} {Q : Int → jx_M → Prop} (h0 : j0 < 18) (h1 : j1 < 18) (hne : j1 ≠ j0) (hw : dt_wS d s) (hr : rc_S m j1 d s) (K : ∀ m2 : jx_M, cs_fr j0 m m2 → rc_S m2 j0 d s → Q 0 m2) : jx_Cl 77 [xA 6 j0, xA 6 j1] m Q := by
  obtain ⟨r1, r2, r3, r4, r5, r6, r7, r8, r9⟩ := hr
  obtain ⟨w1, w2, w3, w4, w5, w6, w7, w8⟩ := hw
  refine sg_77 j0 j1 m Q ?_
  rw [r5]
  refine ⟨h1, h1, h0, cl_38_CORN (f := d 3 s) h0 h1 hne (by omega) r8 (fun m1 f1 a1 a2 => ?_)⟩
  rw [show m1 6 j1 3 = d 2 s 5 from (f1 6 j1 3 (by omega)).trans r6]
  refine ⟨h1, h1, h0, cl_40_NOTE (f := d 4 s) h0 h1 hne w6 (fun i hi => ⟨(f1 8 j1 i (by omega)).trans (r9 i hi), w8 i hi⟩) (fun m2 f2 b1 b2 b3 => ?_)⟩
  have g : ∀ k, ¬ (k = 2 ∨ k = 3 ∨ k = 8) → m2 6 j1 k = m 6 j1 k := fun k hk => (f2 6 j1 k (by omega)).trans (f1 6 j1 k (by omega))
  have c2 : m2 6 j0 2 = d 2 s 4 := (f2 6 j0 2 (by omega)).trans a1
  have c7 : ∀ i : Nat, (i : Int) < d 2 s 4 → m2 7 j0 i = d 3 s i := fun i hi => (f2 7 j0 i (by omega)).trans (a2 i hi)
  have fr : cs_fr j0 m m2 := fun s i j hn => (f2 s i j (by omega)).trans (f1 s i j (by omega))
  refine ⟨h1, h0, h1, h0, h1, h0, h1, h0, K _ (fun s i j hn => ?_) ?_⟩
  · rw [up_ne (by omega), up_ne (by omega), up_ne (by omega), up_ne (by omega)]; exact fr s i j hn
  · have e : ∀ (M : jx_M) (k : Nat) (v : Int) (a q : Nat), jx_up M 6 j0 k v a j1 q = M a j1 q := fun M k v a q => up_ne (by omega)
    simp only [e]
    rw [g 4 (by omega), g 5 (by omega), g 6 (by omega), g 7 (by omega), r1, r2, r3, r4]
    refine ⟨by simp [jx_up], by simp [jx_up], by simp [jx_up], by simp [jx_up], by simp [jx_up, c2], by simp [jx_up, b1], ?_, fun i hi => ?_, fun i hi => ?_⟩
    · rw [up_ne (by omega), up_ne (by omega), up_ne (by omega), up_ne (by omega)]; exact b2
    · rw [up_ne (by omega), up_ne (by omega), up_ne (by omega), up_ne (by omega)]; exact c7 i hi
    · rw [up_ne (by omega), up_ne (by omega), up_ne (by omega), up_ne (by omega)]; exact b3 i hi
/-- only town t0 is changed -/
def tw_fr (t0 : Nat) (m m' : jx_M) : Prop := ∀ s i j, ¬ (((s = 1 ∨ s = 2) ∧ i = t0) ∨ (6 ≤ s ∧ s ≤ 8 ∧ 6 * t0 ≤ i ∧ i < 6 * t0 + 6) ∨ ((s = 9 ∨ s = 10) ∧ 12 * t0 ≤ i ∧ i < 12 * t0 + 12)) → m' s i j = m s i j
theorem tw_fr_up {t0 : Nat} {m m' : jx_M} {s i j : Nat} {v : Int} (h : tw_fr t0 m m') (h1 : ((s = 1 ∨ s = 2) ∧ i = t0) ∨ (6 ≤ s ∧ s ≤ 8 ∧ 6 * t0 ≤ i ∧ i < 6 * t0 + 6) ∨ ((s = 9 ∨ s = 10) ∧ 12 * t0 ≤ i ∧ i < 12 * t0 + 12)) : tw_fr t0 m (jx_up m' s i j v) := fun s' i' j' hn => by
  rw [up_ne (by omega)]
  exact h s' i' j' hn
theorem tw_fr_tr {t0 : Nat} {m m1 m2 : jx_M} (h : tw_fr t0 m m1) (g : tw_fr t0 m1 m2) : tw_fr t0 m m2 := fun s i j hn => (g s i j hn).trans (h s i j hn)
theorem tw_rc {t0 t : Nat} {m m' d : jx_M} (h : tw_fr t0 m m') (hne : t ≠ t0) (hw : dt_w d) (hr : rc_T m t d) : rc_T m' t d := by
  have n1 := hw.2.1
  have n2 := hw.2.2.1
  have n3 := hw.2.2.2.1
  obtain ⟨r1, r2, r3, r4, r5, r6, r7, r8, r9⟩ := hr
  exact ⟨fun c hc => (h 2 t c (by omega)).trans (r1 c hc), (h 1 t 4 (by omega)).trans r2, (h 1 t 5 (by omega)).trans r3, (h 1 t 6 (by omega)).trans r4, (h 1 t 7 (by omega)).trans r5, (h 1 t 8 (by omega)).trans r6, fun s hs => rc_S_fr (fun a k ha => h a (6 * t + s) k (by omega)) (r7 s hs), fun b hb k hk => (h 9 (12 * t + b) k (by omega)).trans (r8 b hb k hk), fun w hw2 k hk => (h 10 (12 * t + w) k (by omega)).trans (r9 w hw2 k hk)⟩
def cp_A (m : jx_M) (t0 : Nat) (d : jx_M) (k : Nat) : Prop := (∀ c, c < 25 → m 2 t0 c = d 0 0 c) ∧ m 1 t0 4 = d 1 0 0 ∧ ∀ s : Nat, s < k → rc_S m (6 * t0 + s) d s
def cp_B (m : jx_M) (t0 : Nat) (d : jx_M) (k : Nat) : Prop := cp_A m t0 d (d 1 0 0).toNat ∧ m 1 t0 5 = d 1 0 1 ∧ ∀ b : Nat, b < k → ∀ q, q < 4 → m 9 (12 * t0 + b) q = d 5 b q
def cp_C (m : jx_M) (t0 : Nat) (d : jx_M) (k : Nat) : Prop := cp_B m t0 d (d 1 0 1).toNat ∧ m 1 t0 6 = d 1 0 2 ∧ ∀ w : Nat, w < k → ∀ q, q < 3 → m 10 (12 * t0 + w) q = d 6 w q
theorem cp_A_fr {m m' d : jx_M} {t0 k : Nat} (h : ∀ s i j, ¬ (s = 1 ∧ ¬ j = 4) → ¬ s = 9 → ¬ s = 10 → m' s i j = m s i j) (hA : cp_A m t0 d k) : cp_A m' t0 d k :=
  ⟨fun c hc => (h 2 t0 c (by omega) (by omega) (by omega)).trans (hA.1 c hc), (h 1 t0 4 (by omega) (by omega) (by omega)).trans hA.2.1, fun s hs => rc_S_fr (fun a k ha => h a _ k (by omega) (by omega) (by omega)) (hA.2.2 s hs)⟩
theorem cp_B_fr {m m' d : jx_M} {t0 k : Nat} (h : ∀ s i j, ¬ (s = 1 ∧ ¬ j = 4 ∧ ¬ j = 5) → ¬ s = 10 → m' s i j = m s i j) (h9 : cp_B m t0 d k) : cp_B m' t0 d k :=
  ⟨cp_A_fr (fun s i j h1 h2 h3 => h s i j (by omega) h3) h9.1, (h 1 t0 5 (by omega) (by omega)).trans h9.2.1, fun b hb q hq => (h 9 _ q (by omega) (by omega)).trans (h9.2.2 b hb q hq)⟩
theorem lp_76_65 {d : jx_M} {t0 t1 : Nat} {m : jx_M} {Q : Int → jx_M → Prop} (h0 : t0 < 3) (h1 : t1 < 3) (hne : t1 ≠ t0) (hw : dt_w d) (hr : rc_T m t1 d) (K : ∀ m2 : jx_M, tw_fr t0 m m2 → rc_T m2 t0 d → Q 0 m2) :
    ∀ (r k : Nat) (m1 : jx_M) (w3 : Option jx_V), k + r = (d 1 0 2).toNat → tw_fr t0 m m1 → cp_C m1 t0 d k → jx_AW 76 65 [some (xA 1 t0), some (xA 1 t1), some (xI (k : Int)), w3] [] m1 Q := by
  have n3 := hw.2.2.2.1
  have n2 := hw.2.2.1
  have n1 := hw.2.1
  intro r
  induction r with
  | zero =>
    intro k m1 w3 hk hf h
    have hr1 := tw_rc hf hne hw hr
    obtain ⟨⟨⟨a1, a2, a3⟩, b1, b2⟩, c1, c2⟩ := h
    refine sg_76_65 t0 t1 k w3 m1 Q ⟨h0, fun z => by omega, fun _ => ⟨h1, h0, h1, h0, ?_⟩⟩
    rw [up_ne (s' := 1) (i' := t1) (by omega), hr1.2.2.2.2.1, hr1.2.2.2.2.2.1]
    refine K _ (tw_fr_up (tw_fr_up hf (by omega)) (by omega)) ⟨fun c hc => ?_, ?_, ?_, ?_, ?_, up_eq, fun s hs => ?_, fun b hb q hq => ?_, fun w hw q hq => ?_⟩
    · rw [up_ne (by omega), up_ne (by omega)]; exact a1 c hc
    · rw [up_ne (by omega), up_ne (by omega)]; exact a2
    · rw [up_ne (by omega), up_ne (by omega)]; exact b1
    · rw [up_ne (by omega), up_ne (by omega)]; exact c1
    · rw [up_ne (by omega), up_eq]
    · exact rc_S_fr (fun a k ha => by rw [up_ne (by omega), up_ne (by omega)]) (a3 s (by omega))
    · rw [up_ne (by omega), up_ne (by omega)]; exact b2 b (by omega) q hq
    · rw [up_ne (by omega), up_ne (by omega)]; exact c2 w (by omega) q hq
  | succ r ih =>
    intro k m1 w3 hk hf h
    have hr1 := tw_rc hf hne hw hr
    have e := hr1.2.2.2.2.2.2.2.2 k (by omega)
    have hww := hw.2.2.2.2.2.2.2.2 k (by omega)
    have c1 := h.2.1
    refine sg_76_65 t0 t1 k w3 m1 Q ?_
    rw [show ((k : Int)).toNat = k by omega, e 0 (by omega), e 1 (by omega), e 2 (by omega)]
    refine ⟨h0, fun _ => ⟨h1, by omega, h1, h0, by omega, h0, by omega, by omega, by omega, by omega, sg_78 _ _ _ _ _ _ ⟨by omega, by omega, by omega, hww.2.2, ⟨by omega, ih (k + 1) _ _ (by omega) (tw_fr_up (tw_fr_up (tw_fr_up hf (by omega)) (by omega)) (by omega)) ⟨cp_B_fr (fun s i j q1 q2 => by rw [up_ne (by omega), up_ne (by omega), up_ne (by omega)]) h.1, ?_, fun w hw2 q hq => ?_⟩⟩⟩⟩, fun z => by omega⟩
    · rw [up_ne (by omega), up_ne (by omega), up_ne (by omega)]; exact c1
    · rcases Nat.decEq w k with q5 | q5
      · rw [up_ne (by omega), up_ne (by omega), up_ne (by omega)]; exact h.2.2 w (by omega) q hq
      · subst q5
        match q, hq with
        | 0, _ => simp [jx_up]
        | 1, _ => simp [jx_up]
        | 2, _ => simp [jx_up]
theorem lp_76_35 {d : jx_M} {t0 t1 : Nat} {m : jx_M} {Q : Int → jx_M → Prop} (h0 : t0 < 3) (h1 : t1 < 3) (hne : t1 ≠ t0) (hw : dt_w d) (hr : rc_T m t1 d) (K : ∀ m2 : jx_M, tw_fr t0 m m2 → rc_T m2 t0 d → Q 0 m2) :
    ∀ (r k : Nat) (m1 : jx_M) (w3 : Option jx_V), k + r = (d 1 0 1).toNat → tw_fr t0 m m1 → cp_B m1 t0 d k → jx_AW 76 35 [some (xA 1 t0), some (xA 1 t1), some (xI (k : Int)), w3] [] m1 Q := by
  have n3 := hw.2.2.2.1
  have n2 := hw.2.2.1
  intro r
  induction r with
  | zero =>
    intro k m1 w3 hk hf h
    have hr1 := tw_rc hf hne hw hr
    have b1 := h.2.1
    obtain rfl : k = (d 1 0 1).toNat := by omega
    refine sg_76_35 t0 t1 _ w3 m1 Q ⟨h0, fun z => by omega, fun _ => ⟨h1, h0, ?_⟩⟩
    rw [hr1.2.2.2.1]
    exact lp_76_65 h0 h1 hne hw hr K (d 1 0 2).toNat 0 _ w3 (by omega) (tw_fr_up hf (by omega)) ⟨cp_B_fr (fun s i j q1 q2 => up_ne (by omega)) h, up_eq, fun w hw => by omega⟩
  | succ r ih =>
    intro k m1 w3 hk hf h
    have hr1 := tw_rc hf hne hw hr
    have e := hr1.2.2.2.2.2.2.2.1 k (by omega)
    have b1 := h.2.1
    refine sg_76_35 t0 t1 k w3 m1 Q ?_
    rw [show ((k : Int)).toNat = k by omega, e 0 (by omega), e 1 (by omega), e 2 (by omega), e 3 (by omega)]
    refine ⟨h0, fun _ => ⟨h1, by omega, h1, h0, by omega, h0, by omega, by omega, by omega, by omega, by omega, sg_61 _ _ _ _ _ _ _ ⟨by omega, by omega, by omega, by omega, ⟨by omega, ih (k + 1) _ _ (by omega) (tw_fr_up (tw_fr_up (tw_fr_up (tw_fr_up hf (by omega)) (by omega)) (by omega)) (by omega)) ⟨cp_A_fr (fun s i j q1 q2 q3 => by rw [up_ne (by omega), up_ne (by omega), up_ne (by omega), up_ne (by omega)]) h.1, ?_, fun w hw2 q hq => ?_⟩⟩⟩⟩, fun z => by omega⟩
    · rw [up_ne (by omega), up_ne (by omega), up_ne (by omega), up_ne (by omega)]; exact b1
    · rcases Nat.decEq w k with q5 | q5
      · rw [up_ne (by omega), up_ne (by omega), up_ne (by omega), up_ne (by omega)]; exact h.2.2 w (by omega) q hq
      · subst q5
        match q, hq with
        | 0, _ => simp [jx_up]
        | 1, _ => simp [jx_up]
        | 2, _ => simp [jx_up]
        | 3, _ => simp [jx_up]
theorem lp_76_14 {d : jx_M} {t0 t1 : Nat} {m : jx_M} {Q : Int → jx_M → Prop} (h0 : t0 < 3) (h1 : t1 < 3) (hne : t1 ≠ t0) (hw : dt_w d) (hr : rc_T m t1 d) (K : ∀ m2 : jx_M, tw_fr t0 m m2 → rc_T m2 t0 d → Q 0 m2) :
    ∀ (r k : Nat) (m1 : jx_M) (w3 : Option jx_V), k + r = (d 1 0 0).toNat → tw_fr t0 m m1 → cp_A m1 t0 d k → jx_AW 76 14 [some (xA 1 t0), some (xA 1 t1), some (xI (k : Int)), w3] [] m1 Q := by
  have n1 := hw.2.1
  have n2 := hw.2.2.1
  intro r
  induction r with
  | zero =>
    intro k m1 w3 hk hf h
    have hr1 := tw_rc hf hne hw hr
    have a2 := h.2.1
    obtain rfl : k = (d 1 0 0).toNat := by omega
    refine sg_76_14 t0 t1 _ w3 m1 Q ⟨h0, fun z => by omega, fun _ => ⟨h1, h0, ?_⟩⟩
    rw [hr1.2.2.1]
    exact lp_76_35 h0 h1 hne hw hr K (d 1 0 1).toNat 0 _ w3 (by omega) (tw_fr_up hf (by omega)) ⟨cp_A_fr (fun s i j q1 q2 q3 => up_ne (by omega)) h, up_eq, fun w hw => by omega⟩
  | succ r ih =>
    intro k m1 w3 hk hf h
    have hr1 := tw_rc hf hne hw hr
    have a2 := h.2.1
    refine sg_76_14 t0 t1 k w3 m1 Q ?_
    rw [show ((k : Int)).toNat = k by omega]
    refine ⟨h0, fun _ => ⟨h0, by omega, h0, h1, by omega, h1, by omega, cl_77 (d := d) (s := k) (by omega) (by omega) (by omega) (hw.2.2.2.2.2.2.1 k (by omega)) (hr1.2.2.2.2.2.2.1 k (by omega)) (fun m2 f2 g2 => ⟨by omega, ih (k + 1) m2 _ (by omega) (tw_fr_tr hf (fun s i j hn => f2 s i j (by omega))) ⟨fun c hc => (f2 2 t0 c (by omega)).trans (h.1 c hc), (f2 1 t0 4 (by omega)).trans a2, fun s hs => ?_⟩⟩)⟩, fun z => by omega⟩
    rcases Nat.decEq s k with q5 | q5
    · exact rc_S_fr (fun a j ha => f2 a _ j (by omega)) (h.2.2 s (by omega))
    · subst q5; exact g2
/-- a town is made as another is -/
theorem cl_76 {d : jx_M} {t0 t1 : Nat} {m : jx_M} {Q : Int → jx_M → Prop} (h0 : t0 < 3) (h1 : t1 < 3) (hne : t1 ≠ t0) (hw : dt_w d) (hr : rc_T m t1 d) (K : ∀ m2 : jx_M, tw_fr t0 m m2 → rc_T m2 t0 d → Q 0 m2) : jx_Cl 76 [xA 1 t0, xA 1 t1] m Q := by
  have n1 := hw.2.1
  have e : jx_cpy m 2 t1 ((0 : Int).toNat) 2 t0 ((0 : Int).toNat) ((25 : Int).toNat) 1 t1 4 = d 1 0 0 := hr.2.1
  have f0 : tw_fr t0 m (jx_cpy m 2 t1 ((0 : Int).toNat) 2 t0 ((0 : Int).toNat) ((25 : Int).toNat)) := fun s i j hn => if_neg (fun z => hn (by omega))
  refine sg_76 t0 t1 m Q ?_
  rw [e]
  refine ⟨h1, h0, by omega, h1, h0, h1, h0, lp_76_14 h0 h1 hne hw hr K (d 1 0 0).toNat 0 _ none (by omega) (tw_fr_up f0 (by omega)) ⟨fun c hc => ?_, up_eq, fun s hs => by omega⟩⟩
  rw [up_ne (by omega), ← hr.1 c hc]
  show (if 2 = 2 ∧ t0 = t0 ∧ (0 : Int).toNat ≤ c ∧ c < (0 : Int).toNat + (25 : Int).toNat then m 2 t1 ((0 : Int).toNat + (c - (0 : Int).toNat)) else m 2 t0 c) = _
  rw [if_pos ⟨rfl, rfl, Nat.zero_le _, hc⟩]
  show m 2 t1 (0 + (c - 0)) = _
  rw [Nat.zero_add, Nat.sub_zero]
/-- the round is turned -/
theorem lp_79 {t0 n : Nat} {m : jx_M} {Q : Int → jx_M → Prop} (h0 : t0 < 18) (hn : n ≤ 12) (hm : m 6 t0 2 = n) (K : ∀ m2 : jx_M, (∀ s i j, ¬ (s = 7 ∧ i = t0) → m2 s i j = m s i j) → (∀ i : Nat, i < n → m2 7 t0 i = m 7 t0 (n - 1 - i)) → Q 0 m2) :
    ∀ (r k : Nat) (m1 : jx_M) (b2 : Int) (w : Option jx_V), 2 * k + r = n + 1 → b2 = (n : Int) - 1 - k → (∀ s i j, ¬ (s = 7 ∧ i = t0) → m1 s i j = m s i j) → (∀ i : Nat, i < n → (i < k ∨ n - 1 - k < i) → m1 7 t0 i = m 7 t0 (n - 1 - i)) → (∀ i : Nat, i < n → ¬ (i < k ∨ n - 1 - k < i) → m1 7 t0 i = m 7 t0 i) → jx_AW 79 7 [some (xA 6 t0), some (xI (k : Int)), some (xI b2), w] [] m1 Q := by
  intro r
  induction r using Nat.strongRecOn with
  | ind r ih =>
    intro k m1 b2 w hk hb hf hd hu
    refine sg_79_7 t0 k b2 w m1 Q ⟨fun hlt => ?_, fun hlt => K m1 hf (fun i hi => ?_)⟩
    · rw [show ((k : Int)).toNat = k by omega, show b2.toNat = n - 1 - k by omega, hu k (by omega) (by omega), hu (n - 1 - k) (by omega) (by omega)]
      refine ⟨h0, by omega, h0, h0, h0, by omega, h0, by omega, h0, h0, by omega, h0, by omega, by omega, ih (r - 2) (by omega) (k + 1) _ _ _ (by omega) (by omega) (fun s i j hn' => ?_) (fun i hi hq => ?_) (fun i hi hq => ?_)⟩
      · rw [up_ne (fun z => hn' ⟨z.1, z.2.1⟩), up_ne (fun z => hn' ⟨z.1, z.2.1⟩)]; exact hf s i j hn'
      · rcases Nat.decEq i (n - 1 - k) with q1 | q1
        · rw [up_ne (by omega)]
          rcases Nat.decEq i k with q2 | q2
          · rw [up_ne (by omega)]; exact hd i hi (by omega)
          · subst q2; exact up_eq
        · subst q1
          rw [up_eq, show n - 1 - (n - 1 - k) = k by omega]
      · rw [up_ne (by omega), up_ne (by omega)]; exact hu i hi (by omega)
    · by_cases hq : i < k ∨ n - 1 - k < i
      · exact hd i hi hq
      · rw [hu i hi hq]
        congr 1
        omega
theorem cl_79 {t0 n : Nat} {m : jx_M} {Q : Int → jx_M → Prop} (h0 : t0 < 18) (hn : n ≤ 12) (hm : m 6 t0 2 = n) (K : ∀ m2 : jx_M, (∀ s i j, ¬ (s = 7 ∧ i = t0) → m2 s i j = m s i j) → (∀ i : Nat, i < n → m2 7 t0 i = m 7 t0 (n - 1 - i)) → Q 0 m2) : jx_Cl 79 [xA 6 t0] m Q := by
  refine sg_79 t0 m Q ?_
  rw [hm]
  refine ⟨h0, by omega, lp_79 h0 hn hm K (n + 1) 0 m _ none (by omega) (by omega) (fun _ _ _ _ => rfl) (fun i hi hq => by omega) (fun i hi hq => rfl)⟩
