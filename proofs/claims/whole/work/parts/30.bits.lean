/-! sets of sellers as bits; the class's day: what it leaves alone, its rows filled -/
def bs_is (v : Int) (P : Nat → Prop) : Prop := 0 ≤ v ∧ v < 64 ∧ ∀ s : Nat, s < 6 → (¬ jx_iand v (jx_ishl 1 s) = 0 ↔ P s)
theorem bs_orF : ∀ (v : Fin 64) (s : Fin 6), 0 ≤ jx_ior (v.val : Int) (jx_ishl 1 (s.val : Int)) ∧ jx_ior (v.val : Int) (jx_ishl 1 (s.val : Int)) < 64 ∧ ∀ r : Fin 6, (¬ jx_iand (jx_ior (v.val : Int) (jx_ishl 1 (s.val : Int))) (jx_ishl 1 (r.val : Int)) = 0 ↔ (r.val = s.val ∨ ¬ jx_iand (v.val : Int) (jx_ishl 1 (r.val : Int)) = 0)) := by decide +kernel
theorem bs_andF : ∀ (v : Fin 64) (w : Fin 64), 0 ≤ jx_iand (v.val : Int) (w.val : Int) ∧ jx_iand (v.val : Int) (w.val : Int) < 64 ∧ ∀ r : Fin 6, (¬ jx_iand (jx_iand (v.val : Int) (w.val : Int)) (jx_ishl 1 (r.val : Int)) = 0 ↔ (¬ jx_iand (v.val : Int) (jx_ishl 1 (r.val : Int)) = 0 ∧ ¬ jx_iand (w.val : Int) (jx_ishl 1 (r.val : Int)) = 0)) := by decide +kernel
theorem bs_0F : ∀ (r : Fin 6), jx_iand 0 (jx_ishl 1 (r.val : Int)) = 0 := by decide +kernel
theorem bs_0 {P : Nat → Prop} (h : ∀ s : Nat, s < 6 → ¬ P s) : bs_is 0 P := ⟨by omega, by omega, fun s hs => ⟨fun z => absurd (bs_0F ⟨s, hs⟩) z, fun z => absurd z (h s hs)⟩⟩
theorem bs_no {P : Nat → Prop} (h : bs_is 0 P) {s : Nat} (hs : s < 6) : ¬ P s := fun z => (h.2.2 s hs).mpr z (bs_0F ⟨s, hs⟩)
theorem bs_or {v : Int} {P R : Nat → Prop} {s : Nat} (hs : s < 6) (h : bs_is v P) (hR : ∀ r : Nat, r < 6 → (R r ↔ (r = s ∨ P r))) : bs_is (jx_ior v (jx_ishl 1 (s : Int))) R := by
  obtain ⟨h1, h2, h3⟩ := h
  obtain ⟨n, rfl⟩ : ∃ n : Nat, v = (n : Int) := ⟨v.toNat, by omega⟩
  have k := bs_orF ⟨n, by omega⟩ ⟨s, hs⟩
  refine ⟨k.1, k.2.1, fun r hr => ?_⟩
  rw [hR r hr, ← h3 r hr]
  exact k.2.2 ⟨r, hr⟩
theorem bs_and {v w : Int} {P R : Nat → Prop} (h : bs_is v P) (g : bs_is w R) : bs_is (jx_iand v w) (fun s => P s ∧ R s) := by
  obtain ⟨h1, h2, h3⟩ := h
  obtain ⟨g1, g2, g3⟩ := g
  obtain ⟨n, rfl⟩ : ∃ n : Nat, v = (n : Int) := ⟨v.toNat, by omega⟩
  obtain ⟨k, rfl⟩ : ∃ k : Nat, w = (k : Int) := ⟨w.toNat, by omega⟩
  have q := bs_andF ⟨n, by omega⟩ ⟨k, by omega⟩
  refine ⟨q.1, q.2.1, fun r hr => ?_⟩
  show _ ↔ (P r ∧ R r)
  rw [← h3 r hr, ← g3 r hr]
  exact q.2.2 ⟨r, hr⟩
/-- a day of the class changes its own rows only -/
def dy_fr (t0 : Nat) (m m' : jx_M) : Prop := ∀ s i j, ¬ (14 ≤ s ∧ s ≤ 19 ∧ i = t0) → m' s i j = m s i j
theorem dy_fr_up {t0 : Nat} {m m' : jx_M} {s j : Nat} {v : Int} (h : dy_fr t0 m m') (h1 : 14 ≤ s ∧ s ≤ 19) : dy_fr t0 m (jx_up m' s t0 j v) := fun s' i' j' hn => by
  show (if s' = s ∧ i' = t0 ∧ j' = j then v else m' s' i' j') = _
  rw [if_neg (show ¬ (s' = s ∧ i' = t0 ∧ j' = j) from fun z => hn (by omega))]
  exact h s' i' j' hn
theorem dy_fr_rc {t0 t : Nat} {m m' d : jx_M} (h : dy_fr t0 m m') (hr : rc_T m t d) : rc_T m' t d := by
  have e : ∀ s, s < 14 → m' s = m s := fun s hs => funext fun i => funext fun j => h s i j (by omega)
  unfold rc_T rc_S
  rw [e 1 (by omega), e 2 (by omega), e 6 (by omega), e 7 (by omega), e 8 (by omega), e 9 (by omega), e 10 (by omega)]
  exact hr
theorem dy_fr_tr {t0 : Nat} {m m1 m2 : jx_M} (h : dy_fr t0 m m1) (g : dy_fr t0 m1 m2) : dy_fr t0 m m2 := fun s i j hn => (g s i j hn).trans (h s i j hn)
theorem lp_2_CRI {t0 : Nat} {v : Int} {m : jx_M} {Q : Int → jx_M → Prop} (ht0 : t0 < 2) (K : ∀ m2 : jx_M, (∀ s i j, ¬ (s = 18 ∧ i = t0) → m2 s i j = m s i j) → (∀ j : Nat, j < 120 → m2 18 t0 j = v) → Q 0 m2) :
    ∀ (r k : Nat) (m1 : jx_M), k + r = 120 → (∀ s i j, ¬ (s = 18 ∧ i = t0) → m1 s i j = m s i j) → (∀ j : Nat, j < k → m1 18 t0 j = v) → jx_AW 2 5 [some (xA 18 t0), some (xI v), some (xI (k : Int)), some (xI 120)] [] m1 Q := by
  intro r
  induction r with
  | zero =>
    intro k m1 hk hf h
    exact sg_2_CRI_5 t0 v k 120 m1 Q ⟨fun z => by omega, fun _ => K m1 hf (fun j hj => h j (by omega))⟩
  | succ r ih =>
    intro k m1 hk hf h
    refine sg_2_CRI_5 t0 v k 120 m1 Q ⟨fun _ => ⟨by omega, ht0, by omega, ih (k + 1) _ (by omega) (fun s i j hn => ?_) (fun j hj => ?_)⟩, fun z => by omega⟩
    · show (if s = 18 ∧ i = t0 ∧ j = ((k : Int)).toNat then v else m1 s i j) = _
      rw [if_neg (show ¬ (s = 18 ∧ i = t0 ∧ j = ((k : Int)).toNat) from fun z => hn ⟨z.1, z.2.1⟩)]
      exact hf s i j hn
    · show (if 18 = 18 ∧ t0 = t0 ∧ j = ((k : Int)).toNat then v else m1 18 t0 j) = v
      split
      · rfl
      · exact h j (by omega)
theorem cl_2_CRI {t0 : Nat} {v : Int} {m : jx_M} {Q : Int → jx_M → Prop} (ht0 : t0 < 2) (K : ∀ m2 : jx_M, (∀ s i j, ¬ (s = 18 ∧ i = t0) → m2 s i j = m s i j) → (∀ j : Nat, j < 120 → m2 18 t0 j = v) → Q 0 m2) : jx_Cl 2 [xA 18 t0, xI v] m Q :=
  sg_2_CRI t0 v m Q ⟨rfl, ht0, lp_2_CRI ht0 K 120 0 m (by omega) (fun _ _ _ _ => rfl) (fun j hj => by omega)⟩
theorem lp_2_LUR {t0 : Nat} {v : Int} {m : jx_M} {Q : Int → jx_M → Prop} (ht0 : t0 < 2) (K : ∀ m2 : jx_M, (∀ s i j, ¬ (s = 19 ∧ i = t0) → m2 s i j = m s i j) → (∀ j : Nat, j < 4 → m2 19 t0 j = v) → Q 0 m2) :
    ∀ (r k : Nat) (m1 : jx_M), k + r = 4 → (∀ s i j, ¬ (s = 19 ∧ i = t0) → m1 s i j = m s i j) → (∀ j : Nat, j < k → m1 19 t0 j = v) → jx_AW 2 5 [some (xA 19 t0), some (xI v), some (xI (k : Int)), some (xI 4)] [] m1 Q := by
  intro r
  induction r with
  | zero =>
    intro k m1 hk hf h
    exact sg_2_LUR_5 t0 v k 4 m1 Q ⟨fun z => by omega, fun _ => K m1 hf (fun j hj => h j (by omega))⟩
  | succ r ih =>
    intro k m1 hk hf h
    refine sg_2_LUR_5 t0 v k 4 m1 Q ⟨fun _ => ⟨by omega, ht0, by omega, ih (k + 1) _ (by omega) (fun s i j hn => ?_) (fun j hj => ?_)⟩, fun z => by omega⟩
    · show (if s = 19 ∧ i = t0 ∧ j = ((k : Int)).toNat then v else m1 s i j) = _
      rw [if_neg (show ¬ (s = 19 ∧ i = t0 ∧ j = ((k : Int)).toNat) from fun z => hn ⟨z.1, z.2.1⟩)]
      exact hf s i j hn
    · show (if 19 = 19 ∧ t0 = t0 ∧ j = ((k : Int)).toNat then v else m1 19 t0 j) = v
      split
      · rfl
      · exact h j (by omega)
theorem cl_2_LUR {t0 : Nat} {v : Int} {m : jx_M} {Q : Int → jx_M → Prop} (ht0 : t0 < 2) (K : ∀ m2 : jx_M, (∀ s i j, ¬ (s = 19 ∧ i = t0) → m2 s i j = m s i j) → (∀ j : Nat, j < 4 → m2 19 t0 j = v) → Q 0 m2) : jx_Cl 2 [xA 19 t0, xI v] m Q :=
  sg_2_LUR t0 v m Q ⟨rfl, ht0, lp_2_LUR ht0 K 4 0 m (by omega) (fun _ _ _ _ => rfl) (fun j hj => by omega)⟩
/-- hears one of a set -/
theorem lp_67 {d : jx_M} {t : Nat} {v cc b : Int} {P : Nat → Prop} {m : jx_M} {Q : Int → jx_M → Prop} (ht : t < 3) (hw : dt_w d) (hr : rc_T m t d) (hc : 0 ≤ cc ∧ cc ≤ 24) (hb : 0 ≤ b ∧ b < 120) (hv : bs_is v P)
    (h1 : (∃ o : Nat, (o : Int) < d 1 0 0 ∧ P o ∧ 0 ≤ sp_pl d o b ∧ sp_far (sp_pl d o b) cc ≤ sp_re d o - d 0 0 cc.toNat) → Q 1 m) (h0 : ¬ (∃ o : Nat, (o : Int) < d 1 0 0 ∧ P o ∧ 0 ≤ sp_pl d o b ∧ sp_far (sp_pl d o b) cc ≤ sp_re d o - d 0 0 cc.toNat) → Q 0 m) :
    ∀ (r k : Nat), k + r = (d 1 0 0).toNat → (∀ o : Nat, o < k → ¬ (P o ∧ 0 ≤ sp_pl d o b ∧ sp_far (sp_pl d o b) cc ≤ sp_re d o - d 0 0 cc.toNat)) → jx_AW 67 6 [some (xA 1 t), some (xI v), some (xI cc), some (xI b), some (xI (k : Int))] [] m Q := by
  have hs := hw.2.1
  have en := hr.2.1
  intro r
  induction r with
  | zero =>
    intro k hk hno
    exact sg_67_6 t v cc b k m Q ⟨ht, fun z => by omega, fun _ => ⟨by omega, h0 (fun ⟨o, q1, q2⟩ => hno o (by omega) q2)⟩⟩
  | succ r ih =>
    intro k hk hno
    have keep : ¬ (P k ∧ 0 ≤ sp_pl d k b ∧ sp_far (sp_pl d k b) cc ≤ sp_re d k - d 0 0 cc.toNat) → jx_AW 67 6 [some (xA 1 t), some (xI v), some (xI cc), some (xI b), some (xI ((k : Int) + 1))] [] m Q := fun z => ih (k + 1) (by omega) (fun o ho => by
      rcases Nat.lt_or_ge o k with q | q
      · exact hno o q
      · obtain rfl : o = k := by omega
        exact z)
    have hbit := hv.2.2 k (by omega)
    exact sg_67_6 t v cc b k m Q ⟨ht, fun _ => ⟨fun hz => ⟨by omega, keep (fun z => hbit.mpr z.1 hz)⟩, fun hz => ⟨ht, cl_52 ht hw hr (by omega) hc hb (fun hy => ⟨fun z => by omega, fun _ => ⟨by omega, h1 ⟨k, by omega, hbit.mp hz, hy⟩⟩⟩) (fun hy => ⟨fun _ => ⟨by omega, keep (fun z => hy z.2)⟩, fun z => by omega⟩)⟩⟩, fun z => by omega⟩
theorem cl_67 {d : jx_M} {t : Nat} {v cc b : Int} {P : Nat → Prop} {m : jx_M} {Q : Int → jx_M → Prop} (ht : t < 3) (hw : dt_w d) (hr : rc_T m t d) (hc : 0 ≤ cc ∧ cc ≤ 24) (hb : 0 ≤ b ∧ b < 120) (hv : bs_is v P)
    (h1 : (∃ o : Nat, (o : Int) < d 1 0 0 ∧ P o ∧ 0 ≤ sp_pl d o b ∧ sp_far (sp_pl d o b) cc ≤ sp_re d o - d 0 0 cc.toNat) → Q 1 m) (h0 : ¬ (∃ o : Nat, (o : Int) < d 1 0 0 ∧ P o ∧ 0 ≤ sp_pl d o b ∧ sp_far (sp_pl d o b) cc ≤ sp_re d o - d 0 0 cc.toNat) → Q 0 m) : jx_Cl 67 [xA 1 t, xI v, xI cc, xI b] m Q := by
  have hs := hw.2.1
  refine sg_67 t v cc b m Q ⟨fun h => ⟨by omega, h0 (fun ⟨o, q1, q2⟩ => ?_)⟩, fun _ => lp_67 ht hw hr hc hb hv h1 h0 (d 1 0 0).toNat 0 (by omega) (fun o ho => by omega)⟩
  subst h
  exact bs_no hv (by omega) q2.1
