/-! the image, and the town restored from it -/
def rm_b (s j : Nat) : Prop := (s = 27 ∧ j < 25) ∨ (s = 28 ∧ j < 24) ∨ (s = 29 ∧ j < 78) ∨ (s = 30 ∧ j < 42) ∨ (s = 31 ∧ j < 48) ∨ (s = 32 ∧ j < 36) ∨ (s = 26 ∧ (j = 1 ∨ j = 5 ∨ j = 6 ∨ j = 7 ∨ j = 9))
theorem rm_frb {m m' d : jx_M} (hw : dt_w d) (h : ∀ s j, rm_b s j → m' s 0 j = m s 0 j) (hr : rm_T m d) : rm_T m' d := by
  unfold rm_b at h
  obtain ⟨h1, h2, h3, h4, h5, h6, h7, h8, h9⟩ := hr
  have n1 := hw.2.1
  have n2 := hw.2.2.1
  have n3 := hw.2.2.2.1
  refine ⟨fun c hc => (h 27 c (by omega)).trans (h1 c hc), (h 26 1 (by omega)).trans h2, (h 26 7 (by omega)).trans h3, (h 26 9 (by omega)).trans h4, (h 26 5 (by omega)).trans h5, (h 26 6 (by omega)).trans h6, fun s hs => ?_, fun b hb k hk => (h 31 _ (by omega)).trans (h8 b hb k hk), fun w hw k hk => (h 32 _ (by omega)).trans (h9 w hw k hk)⟩
  obtain ⟨a1, a2, a3, a4, a5⟩ := h7 s hs
  have ws := hs_of hw s hs
  have w5 := ws.2.2.2.2.1
  have w6 := ws.2.2.2.2.2.1
  exact ⟨fun k hk => (h 28 _ (by omega)).trans (a1 k hk), (h 29 _ (by omega)).trans a2, (h 30 _ (by omega)).trans a3, fun i hi => (h 29 _ (by omega)).trans (a4 i hi), fun i hi => (h 30 _ (by omega)).trans (a5 i hi)⟩
theorem lp_179_Mnoises {a : Nat} {m : jx_M} {Q : Int → jx_M → Prop} (ha : a + 25 ≤ 300) (K : ∀ m2, (∀ s i j, ¬ (s = 42 ∧ i = 0 ∧ a ≤ j ∧ j < a + 25) → m2 s i j = m s i j) → (∀ k : Nat, k < 25 → m2 42 0 (a + k) = m 27 0 k) → Q ((a + 25 : Nat) : Int) m2) :
    ∀ (r k : Nat) (m1 : jx_M), k + r = 25 → (∀ s i j, ¬ (s = 42 ∧ i = 0 ∧ a ≤ j ∧ j < a + 25) → m1 s i j = m s i j) → (∀ i : Nat, i < k → m1 42 0 (a + i) = m 27 0 i) → jx_AW 179 2 [some (xA 27 0), some (xA 42 0), some (xI (a : Int)), some (xI (k : Int))] [] m1 Q := by
  intro r
  induction r with
  | zero =>
    intro k m1 hk hf h
    have kk := K m1 hf (fun i hi => h i (by omega))
    exact sg_179_Mnoises_Mimage_2 a k m1 Q ⟨rfl, by omega, fun z => by omega, fun _ => ⟨rfl, by omega, by omega, kk⟩⟩
  | succ r ih =>
    intro k m1 hk hf h
    refine sg_179_Mnoises_Mimage_2 a k m1 Q ?_
    rw [show ((a : Int) + (k : Int)).toNat = a + k by omega, show ((k : Int)).toNat = k by omega, hf 27 0 k (by omega)]
    refine ⟨rfl, by omega, fun _ => ⟨by omega, by omega, by omega, by omega, by omega, by omega, ih (k + 1) _ (by omega) (fun s i j hn => ?_) (fun i hi => ?_)⟩, fun z => by omega⟩
    · rw [up_ne (by omega)]; exact hf s i j hn
    · rcases Nat.decEq i k with q | q
      · rw [up_ne (by omega)]; exact h i (by omega)
      · subst q; exact up_eq
theorem cl_179_Mnoises {a : Nat} {m : jx_M} {Q : Int → jx_M → Prop} (ha : a + 25 ≤ 300) (K : ∀ m2, (∀ s i j, ¬ (s = 42 ∧ i = 0 ∧ a ≤ j ∧ j < a + 25) → m2 s i j = m s i j) → (∀ k : Nat, k < 25 → m2 42 0 (a + k) = m 27 0 k) → Q ((a + 25 : Nat) : Int) m2) : jx_Cl 179 [xA 27 0, xA 42 0, xI (a : Int)] m Q :=
  sg_179_Mnoises_Mimage a m Q (lp_179_Mnoises ha K 25 0 m (by omega) (fun _ _ _ _ => rfl) (fun i hi => by omega))
theorem lp_181_Mnoises {a : Nat} {m : jx_M} {Q : Int → jx_M → Prop} (ha : a + 25 ≤ 300) (K : ∀ m2, (∀ s i j, ¬ (s = 27 ∧ i = 0) → m2 s i j = m s i j) → (∀ k : Nat, k < 25 → m2 27 0 k = m 42 0 (a + k)) → Q ((a + 25 : Nat) : Int) m2) :
    ∀ (r k : Nat) (m1 : jx_M), k + r = 25 → (∀ s i j, ¬ (s = 27 ∧ i = 0) → m1 s i j = m s i j) → (∀ i : Nat, i < k → m1 27 0 i = m 42 0 (a + i)) → jx_AW 181 2 [some (xA 42 0), some (xI (a : Int)), some (xA 27 0), some (xI (k : Int))] [] m1 Q := by
  intro r
  induction r with
  | zero =>
    intro k m1 hk hf h
    have kk := K m1 hf (fun i hi => h i (by omega))
    exact sg_181_Mimage_Mnoises_2 a k m1 Q ⟨rfl, by omega, fun z => by omega, fun _ => ⟨rfl, by omega, by omega, kk⟩⟩
  | succ r ih =>
    intro k m1 hk hf h
    refine sg_181_Mimage_Mnoises_2 a k m1 Q ?_
    rw [show ((a : Int) + (k : Int)).toNat = a + k by omega, show ((k : Int)).toNat = k by omega, hf 42 0 (a + k) (by omega)]
    refine ⟨rfl, by omega, fun _ => ⟨by omega, by omega, by omega, by omega, by omega, by omega, ih (k + 1) _ (by omega) (fun s i j hn => ?_) (fun i hi => ?_)⟩, fun z => by omega⟩
    · rw [up_ne (by omega)]; exact hf s i j hn
    · rcases Nat.decEq i k with q | q
      · rw [up_ne (by omega)]; exact h i (by omega)
      · subst q; exact up_eq
theorem cl_181_Mnoises {a : Nat} {m : jx_M} {Q : Int → jx_M → Prop} (ha : a + 25 ≤ 300) (K : ∀ m2, (∀ s i j, ¬ (s = 27 ∧ i = 0) → m2 s i j = m s i j) → (∀ k : Nat, k < 25 → m2 27 0 k = m 42 0 (a + k)) → Q ((a + 25 : Nat) : Int) m2) : jx_Cl 181 [xA 42 0, xI (a : Int), xA 27 0] m Q :=
  sg_181_Mimage_Mnoises a m Q (lp_181_Mnoises ha K 25 0 m (by omega) (fun _ _ _ _ => rfl) (fun i hi => by omega))
theorem lp_179_Mparts {a : Nat} {m : jx_M} {Q : Int → jx_M → Prop} (ha : a + 24 ≤ 300) (K : ∀ m2, (∀ s i j, ¬ (s = 42 ∧ i = 0 ∧ a ≤ j ∧ j < a + 24) → m2 s i j = m s i j) → (∀ k : Nat, k < 24 → m2 42 0 (a + k) = m 28 0 k) → Q ((a + 24 : Nat) : Int) m2) :
    ∀ (r k : Nat) (m1 : jx_M), k + r = 24 → (∀ s i j, ¬ (s = 42 ∧ i = 0 ∧ a ≤ j ∧ j < a + 24) → m1 s i j = m s i j) → (∀ i : Nat, i < k → m1 42 0 (a + i) = m 28 0 i) → jx_AW 179 2 [some (xA 28 0), some (xA 42 0), some (xI (a : Int)), some (xI (k : Int))] [] m1 Q := by
  intro r
  induction r with
  | zero =>
    intro k m1 hk hf h
    have kk := K m1 hf (fun i hi => h i (by omega))
    exact sg_179_Mparts_Mimage_2 a k m1 Q ⟨rfl, by omega, fun z => by omega, fun _ => ⟨rfl, by omega, by omega, kk⟩⟩
  | succ r ih =>
    intro k m1 hk hf h
    refine sg_179_Mparts_Mimage_2 a k m1 Q ?_
    rw [show ((a : Int) + (k : Int)).toNat = a + k by omega, show ((k : Int)).toNat = k by omega, hf 28 0 k (by omega)]
    refine ⟨rfl, by omega, fun _ => ⟨by omega, by omega, by omega, by omega, by omega, by omega, ih (k + 1) _ (by omega) (fun s i j hn => ?_) (fun i hi => ?_)⟩, fun z => by omega⟩
    · rw [up_ne (by omega)]; exact hf s i j hn
    · rcases Nat.decEq i k with q | q
      · rw [up_ne (by omega)]; exact h i (by omega)
      · subst q; exact up_eq
theorem cl_179_Mparts {a : Nat} {m : jx_M} {Q : Int → jx_M → Prop} (ha : a + 24 ≤ 300) (K : ∀ m2, (∀ s i j, ¬ (s = 42 ∧ i = 0 ∧ a ≤ j ∧ j < a + 24) → m2 s i j = m s i j) → (∀ k : Nat, k < 24 → m2 42 0 (a + k) = m 28 0 k) → Q ((a + 24 : Nat) : Int) m2) : jx_Cl 179 [xA 28 0, xA 42 0, xI (a : Int)] m Q :=
  sg_179_Mparts_Mimage a m Q (lp_179_Mparts ha K 24 0 m (by omega) (fun _ _ _ _ => rfl) (fun i hi => by omega))
theorem lp_181_Mparts {a : Nat} {m : jx_M} {Q : Int → jx_M → Prop} (ha : a + 24 ≤ 300) (K : ∀ m2, (∀ s i j, ¬ (s = 28 ∧ i = 0) → m2 s i j = m s i j) → (∀ k : Nat, k < 24 → m2 28 0 k = m 42 0 (a + k)) → Q ((a + 24 : Nat) : Int) m2) :
    ∀ (r k : Nat) (m1 : jx_M), k + r = 24 → (∀ s i j, ¬ (s = 28 ∧ i = 0) → m1 s i j = m s i j) → (∀ i : Nat, i < k → m1 28 0 i = m 42 0 (a + i)) → jx_AW 181 2 [some (xA 42 0), some (xI (a : Int)), some (xA 28 0), some (xI (k : Int))] [] m1 Q := by
  intro r
  induction r with
  | zero =>
    intro k m1 hk hf h
    have kk := K m1 hf (fun i hi => h i (by omega))
    exact sg_181_Mimage_Mparts_2 a k m1 Q ⟨rfl, by omega, fun z => by omega, fun _ => ⟨rfl, by omega, by omega, kk⟩⟩
  | succ r ih =>
    intro k m1 hk hf h
    refine sg_181_Mimage_Mparts_2 a k m1 Q ?_
    rw [show ((a : Int) + (k : Int)).toNat = a + k by omega, show ((k : Int)).toNat = k by omega, hf 42 0 (a + k) (by omega)]
    refine ⟨rfl, by omega, fun _ => ⟨by omega, by omega, by omega, by omega, by omega, by omega, ih (k + 1) _ (by omega) (fun s i j hn => ?_) (fun i hi => ?_)⟩, fun z => by omega⟩
    · rw [up_ne (by omega)]; exact hf s i j hn
    · rcases Nat.decEq i k with q | q
      · rw [up_ne (by omega)]; exact h i (by omega)
      · subst q; exact up_eq
theorem cl_181_Mparts {a : Nat} {m : jx_M} {Q : Int → jx_M → Prop} (ha : a + 24 ≤ 300) (K : ∀ m2, (∀ s i j, ¬ (s = 28 ∧ i = 0) → m2 s i j = m s i j) → (∀ k : Nat, k < 24 → m2 28 0 k = m 42 0 (a + k)) → Q ((a + 24 : Nat) : Int) m2) : jx_Cl 181 [xA 42 0, xI (a : Int), xA 28 0] m Q :=
  sg_181_Mimage_Mparts a m Q (lp_181_Mparts ha K 24 0 m (by omega) (fun _ _ _ _ => rfl) (fun i hi => by omega))
theorem lp_179_Mrounds {a : Nat} {m : jx_M} {Q : Int → jx_M → Prop} (ha : a + 78 ≤ 300) (K : ∀ m2, (∀ s i j, ¬ (s = 42 ∧ i = 0 ∧ a ≤ j ∧ j < a + 78) → m2 s i j = m s i j) → (∀ k : Nat, k < 78 → m2 42 0 (a + k) = m 29 0 k) → Q ((a + 78 : Nat) : Int) m2) :
    ∀ (r k : Nat) (m1 : jx_M), k + r = 78 → (∀ s i j, ¬ (s = 42 ∧ i = 0 ∧ a ≤ j ∧ j < a + 78) → m1 s i j = m s i j) → (∀ i : Nat, i < k → m1 42 0 (a + i) = m 29 0 i) → jx_AW 179 2 [some (xA 29 0), some (xA 42 0), some (xI (a : Int)), some (xI (k : Int))] [] m1 Q := by
  intro r
  induction r with
  | zero =>
    intro k m1 hk hf h
    have kk := K m1 hf (fun i hi => h i (by omega))
    exact sg_179_Mrounds_Mimage_2 a k m1 Q ⟨rfl, by omega, fun z => by omega, fun _ => ⟨rfl, by omega, by omega, kk⟩⟩
  | succ r ih =>
    intro k m1 hk hf h
    refine sg_179_Mrounds_Mimage_2 a k m1 Q ?_
    rw [show ((a : Int) + (k : Int)).toNat = a + k by omega, show ((k : Int)).toNat = k by omega, hf 29 0 k (by omega)]
    refine ⟨rfl, by omega, fun _ => ⟨by omega, by omega, by omega, by omega, by omega, by omega, ih (k + 1) _ (by omega) (fun s i j hn => ?_) (fun i hi => ?_)⟩, fun z => by omega⟩
    · rw [up_ne (by omega)]; exact hf s i j hn
    · rcases Nat.decEq i k with q | q
      · rw [up_ne (by omega)]; exact h i (by omega)
      · subst q; exact up_eq
theorem cl_179_Mrounds {a : Nat} {m : jx_M} {Q : Int → jx_M → Prop} (ha : a + 78 ≤ 300) (K : ∀ m2, (∀ s i j, ¬ (s = 42 ∧ i = 0 ∧ a ≤ j ∧ j < a + 78) → m2 s i j = m s i j) → (∀ k : Nat, k < 78 → m2 42 0 (a + k) = m 29 0 k) → Q ((a + 78 : Nat) : Int) m2) : jx_Cl 179 [xA 29 0, xA 42 0, xI (a : Int)] m Q :=
  sg_179_Mrounds_Mimage a m Q (lp_179_Mrounds ha K 78 0 m (by omega) (fun _ _ _ _ => rfl) (fun i hi => by omega))
theorem lp_181_Mrounds {a : Nat} {m : jx_M} {Q : Int → jx_M → Prop} (ha : a + 78 ≤ 300) (K : ∀ m2, (∀ s i j, ¬ (s = 29 ∧ i = 0) → m2 s i j = m s i j) → (∀ k : Nat, k < 78 → m2 29 0 k = m 42 0 (a + k)) → Q ((a + 78 : Nat) : Int) m2) :
    ∀ (r k : Nat) (m1 : jx_M), k + r = 78 → (∀ s i j, ¬ (s = 29 ∧ i = 0) → m1 s i j = m s i j) → (∀ i : Nat, i < k → m1 29 0 i = m 42 0 (a + i)) → jx_AW 181 2 [some (xA 42 0), some (xI (a : Int)), some (xA 29 0), some (xI (k : Int))] [] m1 Q := by
  intro r
  induction r with
  | zero =>
    intro k m1 hk hf h
    have kk := K m1 hf (fun i hi => h i (by omega))
    exact sg_181_Mimage_Mrounds_2 a k m1 Q ⟨rfl, by omega, fun z => by omega, fun _ => ⟨rfl, by omega, by omega, kk⟩⟩
  | succ r ih =>
    intro k m1 hk hf h
    refine sg_181_Mimage_Mrounds_2 a k m1 Q ?_
    rw [show ((a : Int) + (k : Int)).toNat = a + k by omega, show ((k : Int)).toNat = k by omega, hf 42 0 (a + k) (by omega)]
    refine ⟨rfl, by omega, fun _ => ⟨by omega, by omega, by omega, by omega, by omega, by omega, ih (k + 1) _ (by omega) (fun s i j hn => ?_) (fun i hi => ?_)⟩, fun z => by omega⟩
    · rw [up_ne (by omega)]; exact hf s i j hn
    · rcases Nat.decEq i k with q | q
      · rw [up_ne (by omega)]; exact h i (by omega)
      · subst q; exact up_eq
theorem cl_181_Mrounds {a : Nat} {m : jx_M} {Q : Int → jx_M → Prop} (ha : a + 78 ≤ 300) (K : ∀ m2, (∀ s i j, ¬ (s = 29 ∧ i = 0) → m2 s i j = m s i j) → (∀ k : Nat, k < 78 → m2 29 0 k = m 42 0 (a + k)) → Q ((a + 78 : Nat) : Int) m2) : jx_Cl 181 [xA 42 0, xI (a : Int), xA 29 0] m Q :=
  sg_181_Mimage_Mrounds a m Q (lp_181_Mrounds ha K 78 0 m (by omega) (fun _ _ _ _ => rfl) (fun i hi => by omega))
theorem lp_179_Mtunes {a : Nat} {m : jx_M} {Q : Int → jx_M → Prop} (ha : a + 42 ≤ 300) (K : ∀ m2, (∀ s i j, ¬ (s = 42 ∧ i = 0 ∧ a ≤ j ∧ j < a + 42) → m2 s i j = m s i j) → (∀ k : Nat, k < 42 → m2 42 0 (a + k) = m 30 0 k) → Q ((a + 42 : Nat) : Int) m2) :
    ∀ (r k : Nat) (m1 : jx_M), k + r = 42 → (∀ s i j, ¬ (s = 42 ∧ i = 0 ∧ a ≤ j ∧ j < a + 42) → m1 s i j = m s i j) → (∀ i : Nat, i < k → m1 42 0 (a + i) = m 30 0 i) → jx_AW 179 2 [some (xA 30 0), some (xA 42 0), some (xI (a : Int)), some (xI (k : Int))] [] m1 Q := by
  intro r
  induction r with
  | zero =>
    intro k m1 hk hf h
    have kk := K m1 hf (fun i hi => h i (by omega))
    exact sg_179_Mtunes_Mimage_2 a k m1 Q ⟨rfl, by omega, fun z => by omega, fun _ => ⟨rfl, by omega, by omega, kk⟩⟩
  | succ r ih =>
    intro k m1 hk hf h
    refine sg_179_Mtunes_Mimage_2 a k m1 Q ?_
    rw [show ((a : Int) + (k : Int)).toNat = a + k by omega, show ((k : Int)).toNat = k by omega, hf 30 0 k (by omega)]
    refine ⟨rfl, by omega, fun _ => ⟨by omega, by omega, by omega, by omega, by omega, by omega, ih (k + 1) _ (by omega) (fun s i j hn => ?_) (fun i hi => ?_)⟩, fun z => by omega⟩
    · rw [up_ne (by omega)]; exact hf s i j hn
    · rcases Nat.decEq i k with q | q
      · rw [up_ne (by omega)]; exact h i (by omega)
      · subst q; exact up_eq
theorem cl_179_Mtunes {a : Nat} {m : jx_M} {Q : Int → jx_M → Prop} (ha : a + 42 ≤ 300) (K : ∀ m2, (∀ s i j, ¬ (s = 42 ∧ i = 0 ∧ a ≤ j ∧ j < a + 42) → m2 s i j = m s i j) → (∀ k : Nat, k < 42 → m2 42 0 (a + k) = m 30 0 k) → Q ((a + 42 : Nat) : Int) m2) : jx_Cl 179 [xA 30 0, xA 42 0, xI (a : Int)] m Q :=
  sg_179_Mtunes_Mimage a m Q (lp_179_Mtunes ha K 42 0 m (by omega) (fun _ _ _ _ => rfl) (fun i hi => by omega))
theorem lp_181_Mtunes {a : Nat} {m : jx_M} {Q : Int → jx_M → Prop} (ha : a + 42 ≤ 300) (K : ∀ m2, (∀ s i j, ¬ (s = 30 ∧ i = 0) → m2 s i j = m s i j) → (∀ k : Nat, k < 42 → m2 30 0 k = m 42 0 (a + k)) → Q ((a + 42 : Nat) : Int) m2) :
    ∀ (r k : Nat) (m1 : jx_M), k + r = 42 → (∀ s i j, ¬ (s = 30 ∧ i = 0) → m1 s i j = m s i j) → (∀ i : Nat, i < k → m1 30 0 i = m 42 0 (a + i)) → jx_AW 181 2 [some (xA 42 0), some (xI (a : Int)), some (xA 30 0), some (xI (k : Int))] [] m1 Q := by
  intro r
  induction r with
  | zero =>
    intro k m1 hk hf h
    have kk := K m1 hf (fun i hi => h i (by omega))
    exact sg_181_Mimage_Mtunes_2 a k m1 Q ⟨rfl, by omega, fun z => by omega, fun _ => ⟨rfl, by omega, by omega, kk⟩⟩
  | succ r ih =>
    intro k m1 hk hf h
    refine sg_181_Mimage_Mtunes_2 a k m1 Q ?_
    rw [show ((a : Int) + (k : Int)).toNat = a + k by omega, show ((k : Int)).toNat = k by omega, hf 42 0 (a + k) (by omega)]
    refine ⟨rfl, by omega, fun _ => ⟨by omega, by omega, by omega, by omega, by omega, by omega, ih (k + 1) _ (by omega) (fun s i j hn => ?_) (fun i hi => ?_)⟩, fun z => by omega⟩
    · rw [up_ne (by omega)]; exact hf s i j hn
    · rcases Nat.decEq i k with q | q
      · rw [up_ne (by omega)]; exact h i (by omega)
      · subst q; exact up_eq
theorem cl_181_Mtunes {a : Nat} {m : jx_M} {Q : Int → jx_M → Prop} (ha : a + 42 ≤ 300) (K : ∀ m2, (∀ s i j, ¬ (s = 30 ∧ i = 0) → m2 s i j = m s i j) → (∀ k : Nat, k < 42 → m2 30 0 k = m 42 0 (a + k)) → Q ((a + 42 : Nat) : Int) m2) : jx_Cl 181 [xA 42 0, xI (a : Int), xA 30 0] m Q :=
  sg_181_Mimage_Mtunes a m Q (lp_181_Mtunes ha K 42 0 m (by omega) (fun _ _ _ _ => rfl) (fun i hi => by omega))
theorem lp_179_Mwants {a : Nat} {m : jx_M} {Q : Int → jx_M → Prop} (ha : a + 48 ≤ 300) (K : ∀ m2, (∀ s i j, ¬ (s = 42 ∧ i = 0 ∧ a ≤ j ∧ j < a + 48) → m2 s i j = m s i j) → (∀ k : Nat, k < 48 → m2 42 0 (a + k) = m 31 0 k) → Q ((a + 48 : Nat) : Int) m2) :
    ∀ (r k : Nat) (m1 : jx_M), k + r = 48 → (∀ s i j, ¬ (s = 42 ∧ i = 0 ∧ a ≤ j ∧ j < a + 48) → m1 s i j = m s i j) → (∀ i : Nat, i < k → m1 42 0 (a + i) = m 31 0 i) → jx_AW 179 2 [some (xA 31 0), some (xA 42 0), some (xI (a : Int)), some (xI (k : Int))] [] m1 Q := by
  intro r
  induction r with
  | zero =>
    intro k m1 hk hf h
    have kk := K m1 hf (fun i hi => h i (by omega))
    exact sg_179_Mwants_Mimage_2 a k m1 Q ⟨rfl, by omega, fun z => by omega, fun _ => ⟨rfl, by omega, by omega, kk⟩⟩
  | succ r ih =>
    intro k m1 hk hf h
    refine sg_179_Mwants_Mimage_2 a k m1 Q ?_
    rw [show ((a : Int) + (k : Int)).toNat = a + k by omega, show ((k : Int)).toNat = k by omega, hf 31 0 k (by omega)]
    refine ⟨rfl, by omega, fun _ => ⟨by omega, by omega, by omega, by omega, by omega, by omega, ih (k + 1) _ (by omega) (fun s i j hn => ?_) (fun i hi => ?_)⟩, fun z => by omega⟩
    · rw [up_ne (by omega)]; exact hf s i j hn
    · rcases Nat.decEq i k with q | q
      · rw [up_ne (by omega)]; exact h i (by omega)
      · subst q; exact up_eq
theorem cl_179_Mwants {a : Nat} {m : jx_M} {Q : Int → jx_M → Prop} (ha : a + 48 ≤ 300) (K : ∀ m2, (∀ s i j, ¬ (s = 42 ∧ i = 0 ∧ a ≤ j ∧ j < a + 48) → m2 s i j = m s i j) → (∀ k : Nat, k < 48 → m2 42 0 (a + k) = m 31 0 k) → Q ((a + 48 : Nat) : Int) m2) : jx_Cl 179 [xA 31 0, xA 42 0, xI (a : Int)] m Q :=
  sg_179_Mwants_Mimage a m Q (lp_179_Mwants ha K 48 0 m (by omega) (fun _ _ _ _ => rfl) (fun i hi => by omega))
theorem lp_181_Mwants {a : Nat} {m : jx_M} {Q : Int → jx_M → Prop} (ha : a + 48 ≤ 300) (K : ∀ m2, (∀ s i j, ¬ (s = 31 ∧ i = 0) → m2 s i j = m s i j) → (∀ k : Nat, k < 48 → m2 31 0 k = m 42 0 (a + k)) → Q ((a + 48 : Nat) : Int) m2) :
    ∀ (r k : Nat) (m1 : jx_M), k + r = 48 → (∀ s i j, ¬ (s = 31 ∧ i = 0) → m1 s i j = m s i j) → (∀ i : Nat, i < k → m1 31 0 i = m 42 0 (a + i)) → jx_AW 181 2 [some (xA 42 0), some (xI (a : Int)), some (xA 31 0), some (xI (k : Int))] [] m1 Q := by
  intro r
  induction r with
  | zero =>
    intro k m1 hk hf h
    have kk := K m1 hf (fun i hi => h i (by omega))
    exact sg_181_Mimage_Mwants_2 a k m1 Q ⟨rfl, by omega, fun z => by omega, fun _ => ⟨rfl, by omega, by omega, kk⟩⟩
  | succ r ih =>
    intro k m1 hk hf h
    refine sg_181_Mimage_Mwants_2 a k m1 Q ?_
    rw [show ((a : Int) + (k : Int)).toNat = a + k by omega, show ((k : Int)).toNat = k by omega, hf 42 0 (a + k) (by omega)]
    refine ⟨rfl, by omega, fun _ => ⟨by omega, by omega, by omega, by omega, by omega, by omega, ih (k + 1) _ (by omega) (fun s i j hn => ?_) (fun i hi => ?_)⟩, fun z => by omega⟩
    · rw [up_ne (by omega)]; exact hf s i j hn
    · rcases Nat.decEq i k with q | q
      · rw [up_ne (by omega)]; exact h i (by omega)
      · subst q; exact up_eq
theorem cl_181_Mwants {a : Nat} {m : jx_M} {Q : Int → jx_M → Prop} (ha : a + 48 ≤ 300) (K : ∀ m2, (∀ s i j, ¬ (s = 31 ∧ i = 0) → m2 s i j = m s i j) → (∀ k : Nat, k < 48 → m2 31 0 k = m 42 0 (a + k)) → Q ((a + 48 : Nat) : Int) m2) : jx_Cl 181 [xA 42 0, xI (a : Int), xA 31 0] m Q :=
  sg_181_Mimage_Mwants a m Q (lp_181_Mwants ha K 48 0 m (by omega) (fun _ _ _ _ => rfl) (fun i hi => by omega))
theorem lp_179_Mnoted {a : Nat} {m : jx_M} {Q : Int → jx_M → Prop} (ha : a + 36 ≤ 300) (K : ∀ m2, (∀ s i j, ¬ (s = 42 ∧ i = 0 ∧ a ≤ j ∧ j < a + 36) → m2 s i j = m s i j) → (∀ k : Nat, k < 36 → m2 42 0 (a + k) = m 32 0 k) → Q ((a + 36 : Nat) : Int) m2) :
    ∀ (r k : Nat) (m1 : jx_M), k + r = 36 → (∀ s i j, ¬ (s = 42 ∧ i = 0 ∧ a ≤ j ∧ j < a + 36) → m1 s i j = m s i j) → (∀ i : Nat, i < k → m1 42 0 (a + i) = m 32 0 i) → jx_AW 179 2 [some (xA 32 0), some (xA 42 0), some (xI (a : Int)), some (xI (k : Int))] [] m1 Q := by
  intro r
  induction r with
  | zero =>
    intro k m1 hk hf h
    have kk := K m1 hf (fun i hi => h i (by omega))
    exact sg_179_Mnoted_Mimage_2 a k m1 Q ⟨rfl, by omega, fun z => by omega, fun _ => ⟨rfl, by omega, by omega, kk⟩⟩
  | succ r ih =>
    intro k m1 hk hf h
    refine sg_179_Mnoted_Mimage_2 a k m1 Q ?_
    rw [show ((a : Int) + (k : Int)).toNat = a + k by omega, show ((k : Int)).toNat = k by omega, hf 32 0 k (by omega)]
    refine ⟨rfl, by omega, fun _ => ⟨by omega, by omega, by omega, by omega, by omega, by omega, ih (k + 1) _ (by omega) (fun s i j hn => ?_) (fun i hi => ?_)⟩, fun z => by omega⟩
    · rw [up_ne (by omega)]; exact hf s i j hn
    · rcases Nat.decEq i k with q | q
      · rw [up_ne (by omega)]; exact h i (by omega)
      · subst q; exact up_eq
theorem cl_179_Mnoted {a : Nat} {m : jx_M} {Q : Int → jx_M → Prop} (ha : a + 36 ≤ 300) (K : ∀ m2, (∀ s i j, ¬ (s = 42 ∧ i = 0 ∧ a ≤ j ∧ j < a + 36) → m2 s i j = m s i j) → (∀ k : Nat, k < 36 → m2 42 0 (a + k) = m 32 0 k) → Q ((a + 36 : Nat) : Int) m2) : jx_Cl 179 [xA 32 0, xA 42 0, xI (a : Int)] m Q :=
  sg_179_Mnoted_Mimage a m Q (lp_179_Mnoted ha K 36 0 m (by omega) (fun _ _ _ _ => rfl) (fun i hi => by omega))
theorem lp_181_Mnoted {a : Nat} {m : jx_M} {Q : Int → jx_M → Prop} (ha : a + 36 ≤ 300) (K : ∀ m2, (∀ s i j, ¬ (s = 32 ∧ i = 0) → m2 s i j = m s i j) → (∀ k : Nat, k < 36 → m2 32 0 k = m 42 0 (a + k)) → Q ((a + 36 : Nat) : Int) m2) :
    ∀ (r k : Nat) (m1 : jx_M), k + r = 36 → (∀ s i j, ¬ (s = 32 ∧ i = 0) → m1 s i j = m s i j) → (∀ i : Nat, i < k → m1 32 0 i = m 42 0 (a + i)) → jx_AW 181 2 [some (xA 42 0), some (xI (a : Int)), some (xA 32 0), some (xI (k : Int))] [] m1 Q := by
  intro r
  induction r with
  | zero =>
    intro k m1 hk hf h
    have kk := K m1 hf (fun i hi => h i (by omega))
    exact sg_181_Mimage_Mnoted_2 a k m1 Q ⟨rfl, by omega, fun z => by omega, fun _ => ⟨rfl, by omega, by omega, kk⟩⟩
  | succ r ih =>
    intro k m1 hk hf h
    refine sg_181_Mimage_Mnoted_2 a k m1 Q ?_
    rw [show ((a : Int) + (k : Int)).toNat = a + k by omega, show ((k : Int)).toNat = k by omega, hf 42 0 (a + k) (by omega)]
    refine ⟨rfl, by omega, fun _ => ⟨by omega, by omega, by omega, by omega, by omega, by omega, ih (k + 1) _ (by omega) (fun s i j hn => ?_) (fun i hi => ?_)⟩, fun z => by omega⟩
    · rw [up_ne (by omega)]; exact hf s i j hn
    · rcases Nat.decEq i k with q | q
      · rw [up_ne (by omega)]; exact h i (by omega)
      · subst q; exact up_eq
theorem cl_181_Mnoted {a : Nat} {m : jx_M} {Q : Int → jx_M → Prop} (ha : a + 36 ≤ 300) (K : ∀ m2, (∀ s i j, ¬ (s = 32 ∧ i = 0) → m2 s i j = m s i j) → (∀ k : Nat, k < 36 → m2 32 0 k = m 42 0 (a + k)) → Q ((a + 36 : Nat) : Int) m2) : jx_Cl 181 [xA 42 0, xI (a : Int), xA 32 0] m Q :=
  sg_181_Mimage_Mnoted a m Q (lp_181_Mnoted ha K 36 0 m (by omega) (fun _ _ _ _ => rfl) (fun i hi => by omega))
theorem cl_178 {m : jx_M} {Q : Int → jx_M → Prop} (K : ∀ M, (∀ s i j, ¬ (s = 42 ∧ i = 0) → ¬ (s = 26 ∧ i = 0 ∧ j = 27) → M s i j = m s i j) → M 26 0 27 = 1 → (∀ s j, rm_b s j → im_v M s 0 j = m s 0 j) → Q 1 M) : jx_Cl 178 [xA 26 0] m Q := by
  refine sg_178 m Q ⟨by omega, by omega, cl_179_Mnoises (a := 0) (by omega) (fun m1 f1 g1 => ⟨by omega, by omega, cl_179_Mparts (a := 25) (by omega) (fun m2 f2 g2 => ⟨by omega, by omega, cl_179_Mrounds (a := 49) (by omega) (fun m3 f3 g3 => ⟨by omega, by omega, cl_179_Mtunes (a := 127) (by omega) (fun m4 f4 g4 => ⟨by omega, by omega, cl_179_Mwants (a := 169) (by omega) (fun m5 f5 g5 => ⟨by omega, by omega, cl_179_Mnoted (a := 217) (by omega) (fun m6 f6 g6 => ?_)⟩)⟩)⟩)⟩)⟩)⟩
  rw [show ((217 + 36 : Nat) : Int) = 253 from rfl]
  simp only [up_so (show (26 : Nat) ≠ 42 by decide)]
  rw [show (253 : Int).toNat = 253 from rfl, show ((253 : Int) + 1).toNat = 254 from rfl, show ((253 : Int) + 2).toNat = 255 from rfl, show ((253 : Int) + 3).toNat = 256 from rfl, show ((253 : Int) + 4).toNat = 257 from rfl]
  have F : ∀ s i j, ¬ (s = 42 ∧ i = 0) → m6 s i j = m s i j := fun s i j hn => by rw [f6 s i j (by omega), f5 s i j (by omega), f4 s i j (by omega), f3 s i j (by omega), f2 s i j (by omega), f1 s i j (by omega)]
  rw [F 26 0 1 (by omega), F 26 0 5 (by omega), F 26 0 6 (by omega), F 26 0 7 (by omega), F 26 0 9 (by omega)]
  have kk := K (jx_up (jx_up (jx_up (jx_up (jx_up (jx_up m6 42 0 253 (m 26 0 1)) 42 0 254 (m 26 0 5)) 42 0 255 (m 26 0 6)) 42 0 256 (m 26 0 7)) 42 0 257 (m 26 0 9)) 26 0 27 1) (fun s i j h1 h2 => by
    rw [up_ne (by omega), up_ne (by omega), up_ne (by omega), up_ne (by omega), up_ne (by omega), up_ne (by omega)]; exact F s i j h1) up_eq (fun s j hb => by
    have A : ∀ j, j < 253 → jx_up (jx_up (jx_up (jx_up (jx_up (jx_up m6 42 0 253 (m 26 0 1)) 42 0 254 (m 26 0 5)) 42 0 255 (m 26 0 6)) 42 0 256 (m 26 0 7)) 42 0 257 (m 26 0 9)) 26 0 27 1 42 0 j = m6 42 0 j := fun j hj => by
      rw [up_ne (by omega), up_ne (by omega), up_ne (by omega), up_ne (by omega), up_ne (by omega), up_ne (by omega)]
    unfold rm_b at hb
    rcases hb with ⟨rfl, hb⟩ | ⟨rfl, hb⟩ | ⟨rfl, hb⟩ | ⟨rfl, hb⟩ | ⟨rfl, hb⟩ | ⟨rfl, hb⟩ | ⟨rfl, hb⟩
    · refine (A j (by omega)).trans ?_
      rw [f6 42 0 j (by omega), f5 42 0 j (by omega), f4 42 0 j (by omega), f3 42 0 j (by omega), f2 42 0 j (by omega)]
      have := g1 j hb
      rw [Nat.zero_add] at this
      exact this
    · refine (A (25 + j) (by omega)).trans ?_
      rw [f6 42 0 _ (by omega), f5 42 0 _ (by omega), f4 42 0 _ (by omega), f3 42 0 _ (by omega), g2 j hb, f1 28 0 j (by omega)]
    · refine (A (49 + j) (by omega)).trans ?_
      rw [f6 42 0 _ (by omega), f5 42 0 _ (by omega), f4 42 0 _ (by omega), g3 j hb, f2 29 0 j (by omega), f1 29 0 j (by omega)]
    · refine (A (127 + j) (by omega)).trans ?_
      rw [f6 42 0 _ (by omega), f5 42 0 _ (by omega), g4 j hb, f3 30 0 j (by omega), f2 30 0 j (by omega), f1 30 0 j (by omega)]
    · refine (A (169 + j) (by omega)).trans ?_
      rw [f6 42 0 _ (by omega), g5 j hb, f4 31 0 j (by omega), f3 31 0 j (by omega), f2 31 0 j (by omega), f1 31 0 j (by omega)]
    · refine (A (217 + j) (by omega)).trans ?_
      rw [g6 j hb, f5 32 0 j (by omega), f4 32 0 j (by omega), f3 32 0 j (by omega), f2 32 0 j (by omega), f1 32 0 j (by omega)]
    · rcases hb with rfl | rfl | rfl | rfl | rfl <;> rfl)
  repeat' (first | exact trivial | exact Or.inr trivial | omega | exact kk | apply And.intro)
theorem cl_180 {m : jx_M} {Q : Int → jx_M → Prop} (h0 : m 26 0 27 = 0 → Q (-4) m) (K : ¬ m 26 0 27 = 0 → ∀ M, (∀ s i j, ¬ (27 ≤ s ∧ s ≤ 32) → ¬ (s = 26 ∧ i = 0 ∧ (j = 1 ∨ j = 5 ∨ j = 6 ∨ j = 7 ∨ j = 9)) → M s i j = m s i j) → (∀ s j, rm_b s j → M s 0 j = im_v m s 0 j) → Q 1 M) : jx_Cl 180 [xA 26 0] m Q := by
  refine sg_180 m Q ⟨by omega, h0, fun hz => ⟨by omega, by omega, cl_181_Mnoises (a := 0) (by omega) (fun m1 f1 g1 => ⟨by omega, by omega, cl_181_Mparts (a := 25) (by omega) (fun m2 f2 g2 => ⟨by omega, by omega, cl_181_Mrounds (a := 49) (by omega) (fun m3 f3 g3 => ⟨by omega, by omega, cl_181_Mtunes (a := 127) (by omega) (fun m4 f4 g4 => ⟨by omega, by omega, cl_181_Mwants (a := 169) (by omega) (fun m5 f5 g5 => ⟨by omega, by omega, cl_181_Mnoted (a := 217) (by omega) (fun m6 f6 g6 => ?_)⟩)⟩)⟩)⟩)⟩)⟩⟩
  rw [show ((217 + 36 : Nat) : Int) = 253 from rfl]
  simp only [up_so (show (42 : Nat) ≠ 26 by decide)]
  rw [show (253 : Int).toNat = 253 from rfl, show ((253 : Int) + 1).toNat = 254 from rfl, show ((253 : Int) + 2).toNat = 255 from rfl, show ((253 : Int) + 3).toNat = 256 from rfl, show ((253 : Int) + 4).toNat = 257 from rfl]
  have F : ∀ s i j, ¬ (27 ≤ s ∧ s ≤ 32) → m6 s i j = m s i j := fun s i j hn => by rw [f6 s i j (by omega), f5 s i j (by omega), f4 s i j (by omega), f3 s i j (by omega), f2 s i j (by omega), f1 s i j (by omega)]
  rw [F 42 0 253 (by omega), F 42 0 254 (by omega), F 42 0 255 (by omega), F 42 0 256 (by omega), F 42 0 257 (by omega)]
  have kk := K hz (jx_up (jx_up (jx_up (jx_up (jx_up m6 26 0 1 (m 42 0 253)) 26 0 5 (m 42 0 254)) 26 0 6 (m 42 0 255)) 26 0 7 (m 42 0 256)) 26 0 9 (m 42 0 257)) (fun s i j h1 h2 => by
    rw [up_ne (by omega), up_ne (by omega), up_ne (by omega), up_ne (by omega), up_ne (by omega)]; exact F s i j h1) (fun s j hb => by
    have A : ∀ s j, ¬ s = 26 → jx_up (jx_up (jx_up (jx_up (jx_up m6 26 0 1 (m 42 0 253)) 26 0 5 (m 42 0 254)) 26 0 6 (m 42 0 255)) 26 0 7 (m 42 0 256)) 26 0 9 (m 42 0 257) s 0 j = m6 s 0 j := fun s j hj => by
      rw [up_ne (by omega), up_ne (by omega), up_ne (by omega), up_ne (by omega), up_ne (by omega)]
    unfold rm_b at hb
    rcases hb with ⟨rfl, hb⟩ | ⟨rfl, hb⟩ | ⟨rfl, hb⟩ | ⟨rfl, hb⟩ | ⟨rfl, hb⟩ | ⟨rfl, hb⟩ | ⟨rfl, hb⟩
    · refine (A 27 j (by omega)).trans ?_
      rw [f6 27 0 j (by omega), f5 27 0 j (by omega), f4 27 0 j (by omega), f3 27 0 j (by omega), f2 27 0 j (by omega), g1 j hb, Nat.zero_add]
      rfl
    · refine (A 28 j (by omega)).trans ?_
      rw [f6 28 0 j (by omega), f5 28 0 j (by omega), f4 28 0 j (by omega), f3 28 0 j (by omega), g2 j hb, f1 42 0 _ (by omega)]
      rfl
    · refine (A 29 j (by omega)).trans ?_
      rw [f6 29 0 j (by omega), f5 29 0 j (by omega), f4 29 0 j (by omega), g3 j hb, f2 42 0 _ (by omega), f1 42 0 _ (by omega)]
      rfl
    · refine (A 30 j (by omega)).trans ?_
      rw [f6 30 0 j (by omega), f5 30 0 j (by omega), g4 j hb, f3 42 0 _ (by omega), f2 42 0 _ (by omega), f1 42 0 _ (by omega)]
      rfl
    · refine (A 31 j (by omega)).trans ?_
      rw [f6 31 0 j (by omega), g5 j hb, f4 42 0 _ (by omega), f3 42 0 _ (by omega), f2 42 0 _ (by omega), f1 42 0 _ (by omega)]
      rfl
    · refine (A 32 j (by omega)).trans ?_
      rw [g6 j hb, f5 42 0 _ (by omega), f4 42 0 _ (by omega), f3 42 0 _ (by omega), f2 42 0 _ (by omega), f1 42 0 _ (by omega)]
      rfl
    · rcases hb with rfl | rfl | rfl | rfl | rfl <;> rfl)
  repeat' (first | exact trivial | exact Or.inr trivial | omega | exact kk | apply And.intro)
theorem pr_30 {m : jx_M} {R : Int → Int → jx_M → Prop} (hI : jv_I m) (K : ∀ z m2, jv_I m2 → fS m m2 → R z z m2) : jx_Cl 104 [xA 0 0] m (fun z1 m1 => jx_Cl 178 [xA 26 0] m1 (fun z2 m2 => R z1 z2 m2)) := by
  obtain ⟨d, e, q, hw, hC, hM⟩ := hI
  refine sg_104 m _ ⟨by omega, by omega, by omega, cl_76 (by omega) (by omega) (by omega) hw.1 hC.1 (fun m1 f1 r1 => ⟨by omega, by omega, cl_178 (fun M g1 g2 g3 => ?_)⟩)⟩
  have fr : ∀ s i j, ¬ (((s = 1 ∨ s = 2) ∧ i = 1) ∨ (6 ≤ s ∧ s ≤ 8 ∧ 6 ≤ i ∧ i < 12) ∨ ((s = 9 ∨ s = 10) ∧ 12 ≤ i ∧ i < 24) ∨ (s = 0 ∧ i = 0 ∧ j = 7)) → jx_up m1 0 0 7 1 s i j = m s i j := fun s i j hn => by rw [up_ne (by omega)]; exact f1 s i j (by omega)
  have hq : sw d d (jx_up q 0 0 0 1) := ⟨hw.1, Or.inr rfl, fun _ => hw.1, hw.2.2.2⟩
  have c1 : jv_C (jx_up m1 0 0 7 1) d d (jx_up q 0 0 0 1) := by
    refine ⟨(tw_rc (t := 0) (t0 := 1) f1 (by decide) hw.1 hC.1 : rc_T m1 0 d), ⟨rfl, fun _ => r1⟩, ⟨(fr 20 0 1 (by omega)).trans hC.2.2.1.1, fun i hi => (fr 21 0 i (by omega)).trans (hC.2.2.1.2 i hi)⟩, fun k hk => ?_⟩
    obtain ⟨a1, a2, a3, a4⟩ := hC.2.2.2 k hk
    exact ⟨(fr 23 k 1 (by omega)).trans a1, fun z => (fr 23 k 2 (by omega)).trans (a2 z), (fr 23 k 3 (by omega)).trans a3, fun i hi => (fr 24 k i (by omega)).trans (a4 i hi)⟩
  have hM1 : jv_M (jx_up m1 0 0 7 1) d e q := jv_M_C (fun s i j hs => fr s i j (by omega)) hM
  refine jv_fin hq (fun s i j hs => fr s i j (by omega)) c1 (fun s i j hs => g1 s i j (by omega) (by omega)) ?_ (K _ _)
  obtain ⟨⟨h1, h2, h3⟩, ⟨h4, h5⟩, h6, h7⟩ := hM1
  refine ⟨⟨rm_fr (fun s j hs hj => g1 s 0 j (by omega) (by omega)) h1, (g1 26 0 16 (by omega) (by omega)).trans h2, (g1 26 0 17 (by omega) (by omega)).trans h3⟩, ⟨g2, fun _ => rm_frb hw.1 g3 h1⟩, ⟨(g1 26 0 12 (by omega) (by omega)).trans h6.1, fun i hi => (g1 33 0 i (by omega) (by omega)).trans (h6.2 i hi)⟩, fun k hk => ?_⟩
  obtain ⟨a1, a2, a3, a4⟩ := h7 k hk
  exact ⟨fun z => (g1 43 0 k (by omega) (by omega)).trans (a1 z), fun z => (g1 43 0 k (by omega) (by omega)).trans (a2 z), (g1 44 0 k (by omega) (by omega)).trans a3, fun i hi => (g1 45 0 _ (by omega) (by omega)).trans (a4 i hi)⟩
theorem pr_31 {m : jx_M} {R : Int → Int → jx_M → Prop} (hI : jv_I m) (K : ∀ z m2, jv_I m2 → fS m m2 → R z z m2) : jx_Cl 105 [xA 0 0] m (fun z1 m1 => jx_Cl 180 [xA 26 0] m1 (fun z2 m2 => R z1 z2 m2)) := by
  obtain ⟨d, e, q, hw, hC, hM⟩ := hI
  have k := fun z => jv_ask (G := R z z m) hw hC hM (fcs_r m) (fms_r m) (K z m)
  have e1 : m 0 0 7 = q 0 0 0 := hC.2.1.1
  have e2 : m 26 0 27 = q 0 0 0 := hM.2.1.1
  have h01 := hw.2.1
  refine sg_105 m _ ⟨by omega, fun z => cl_180 (fun _ => k _) (fun z2 => absurd (by omega) z2), fun z => ⟨by omega, by omega, by omega, ?_⟩⟩
  have hq1 : q 0 0 0 = 1 := by omega
  have hwe := hw.2.2.1 hq1
  refine cl_76 (by omega) (by omega) (by omega) hwe (hC.2.1.2 hq1) (fun m1 f1 r1 => ?_)
  have fct1 : fct m m1 := fun s i j hn => f1 s i j (by omega)
  have hM1 : jv_M m1 d e q := jv_M_C (fct_C fct1) hM
  refine cl_180 (fun z2 => by have := hM1.2.1.1; omega) (fun _ M g1 g2 => ?_)
  refine jv_town (d' := e) (m1 := m1) hw hC hM hwe fct1 ?_ r1 ?_ ?_ ?_ (K _ _)
  · exact ⟨funext fun i => funext fun j => f1 20 i j (by omega), funext fun i => funext fun j => f1 21 i j (by omega)⟩
  · exact fun s i j hn => g1 s i j (by omega) (by omega)
  · exact ⟨g1 26 0 12 (by omega) (by omega), funext fun i => funext fun j => g1 33 i j (by omega) (by omega)⟩
  · exact rm_frb hwe g2 (hM1.2.1.2 hq1)
