/-! the class: who cries in which minute, and how many cries there are -/
theorem up_ne {m : jx_M} {s i j s' i' j' : Nat} {v : Int} (h : ¬ (s' = s ∧ i' = i ∧ j' = j)) : jx_up m s i j v s' i' j' = m s' i' j' := if_neg h
theorem up_eq {m : jx_M} {s i j : Nat} {v : Int} : jx_up m s i j v s i j = v := if_pos ⟨rfl, rfl, rfl⟩
/-- a cry is at a stop -/
theorem cry_stop {d : jx_M} {s : Nat} {t : Int} (hw : dt_wS d s) (h : sp_arr d s t) : ∃ i : Nat, (i : Int) < d 2 s 4 ∧ t = d 2 s 2 + (i : Int) * d 2 s 3 := by
  obtain ⟨a1, a2, a3⟩ := h
  have hp := hw.2.2.2.1
  have h0 := jb_div (g := t - d 2 s 2) (p := d 2 s 3) a1 (by omega)
  have e := Int.mul_ediv_add_emod (t - d 2 s 2) (d 2 s 3)
  rw [a2, Int.mul_comm] at e
  refine ⟨((t - d 2 s 2) / d 2 s 3).toNat, by omega, ?_⟩
  rw [show ((((t - d 2 s 2) / d 2 s 3).toNat : Nat) : Int) = (t - d 2 s 2) / d 2 s 3 by omega]
  omega
def cs_C (d : jx_M) (s j : Nat) (u : Nat) (o : Nat) : Prop := (o < s ∧ sp_cry d o u) ∨ (o = s ∧ sp_cry d o u ∧ ∃ i : Nat, i < j ∧ (u : Int) = d 2 s 2 + (i : Int) * d 2 s 3)
noncomputable def cs_n (d : jx_M) (s : Nat) (j : Nat) : Int := nb_ct (fun i => sp_cry d s (d 2 s 2 + (i : Int) * d 2 s 3)) j
noncomputable def cs_N (d : jx_M) (s : Nat) : Int := dt_sum (fun o => cs_n d o (d 2 o 4).toNat) s
theorem cs_n_in (d : jx_M) (s j : Nat) : 0 ≤ cs_n d s j ∧ cs_n d s j ≤ j := nb_ct_in _ _
theorem cs_N_in {d : jx_M} (hw : dt_w d) : ∀ s : Nat, (s : Int) ≤ d 1 0 0 → 0 ≤ cs_N d s ∧ cs_N d s ≤ 12 * s := fun s hs =>
  dt_sum_in (f := fun o => cs_n d o (d 2 o 4).toNat) (b := 12) s (fun i hi => by
    have h1 := cs_n_in d i (d 2 i 4).toNat
    have h2 := (hw.2.2.2.2.2.2.1 i (by omega)).2.2.2.2.1
    show 0 ≤ cs_n d i (d 2 i 4).toNat ∧ cs_n d i (d 2 i 4).toNat ≤ 12
    omega)
theorem lp_64_20 {d : jx_M} {t0 t : Nat} {s : Nat} {m : jx_M} {Q : Int → jx_M → Prop} (ht0 : t0 < 2) (ht : t < 3) (hw : dt_w d) (hr : rc_T m t d) (hs : (s : Int) < d 1 0 0)
    (K : ∀ (m2 : jx_M) (w3 w4 w5 : Option jx_V), dy_fr t0 m m2 → (∀ u : Nat, u < 120 → bs_is (m2 18 t0 u) (cs_C d (s + 1) 0 u)) → m2 14 t0 3 = cs_N d (s + 1) → jx_AW 64 9 [some (xA 14 t0), some (xA 1 t), some (xI ((s : Int) + 1)), w3, w4, w5] [] m2 Q) :
    ∀ (r j : Nat) (m1 : jx_M) (w5 : Option jx_V), j + r = (d 2 s 4).toNat → dy_fr t0 m m1 → (∀ u : Nat, u < 120 → bs_is (m1 18 t0 u) (cs_C d s j u)) → m1 14 t0 3 = cs_N d s + cs_n d s j → jx_AW 64 20 [some (xA 14 t0), some (xA 1 t), some (xI (s : Int)), some (xA 6 (6 * t + s)), some (xI (j : Int)), w5] [] m1 Q := by
  have hn := hw.2.1
  have ws := hw.2.2.2.2.2.2.1 s hs
  have w3 := ws.2.2.1
  have w4 := ws.2.2.2.1
  have w5 := ws.2.2.2.2.1
  have hN := cs_N_in hw s (by omega)
  intro r
  induction r with
  | zero =>
    intro j m1 w5 hj hf h hc
    have rs := (dy_fr_rc hf hr).2.2.2.2.2.2.1 s hs
    have e2 := rs.2.2.2.2.1
    refine sg_64_20 t0 t s _ j w5 m1 Q ⟨by omega, fun z => by omega, fun _ => ⟨by omega, K m1 _ _ _ hf (fun u hu => bs_iff (h u hu) (fun o _ => ?_)) ?_⟩⟩
    · constructor
      · rintro (⟨q1, q2⟩ | ⟨-, -, i, q2, -⟩)
        · rcases Nat.lt_or_ge o s with q | q
          · exact Or.inl ⟨q, q2⟩
          · obtain rfl : o = s := by omega
            obtain ⟨i, i1, i2⟩ := cry_stop ws q2.2.1
            exact Or.inr ⟨rfl, q2, i, by omega, i2⟩
        · omega
      · rintro (⟨q1, q2⟩ | ⟨q1, q2, -⟩)
        · exact Or.inl ⟨by omega, q2⟩
        · exact Or.inl ⟨by omega, q2⟩
    · rw [hc, show j = (d 2 s 4).toNat by omega]; rfl
  | succ r ih =>
    intro j m1 w5 hj hf h hc
    have hr1 := dy_fr_rc hf hr
    have rs := hr1.2.2.2.2.2.2.1 s hs
    have e2 := rs.2.2.2.2.1
    have hcn := cs_n_in d s j
    have hm1 : 0 ≤ (j : Int) * d 2 s 3 := Int.mul_nonneg (by omega) (by omega)
    have hm2 : (j : Int) * d 2 s 3 ≤ 12 * 5 := Int.mul_le_mul (by omega) (by omega) (by omega) (by omega)
    have no : ¬ sp_cry d s (d 2 s 2 + (j : Int) * d 2 s 3) → ∀ w, jx_AW 64 20 [some (xA 14 t0), some (xA 1 t), some (xI (s : Int)), some (xA 6 (6 * t + s)), some (xI ((j : Int) + 1)), w] [] m1 Q := fun hy w => ih (j + 1) m1 w (by omega) hf (fun u hu => bs_iff (h u hu) (fun o _ => by
      constructor
      · rintro (q | ⟨q1, q2, i, i1, i2⟩)
        · exact Or.inl q
        · rcases Nat.lt_or_ge i j with q | q
          · exact Or.inr ⟨q1, q2, i, q, i2⟩
          · obtain rfl : i = j := by omega
            rw [← i2, ← q1] at hy
            exact absurd q2 hy
      · rintro (q | ⟨q1, q2, i, i1, i2⟩)
        · exact Or.inl q
        · exact Or.inr ⟨q1, q2, i, by omega, i2⟩)) (by
      rw [hc]
      unfold cs_n
      rw [nb_ct_no (P := fun i => sp_cry d s (d 2 s 2 + (i : Int) * d 2 s 3)) (n := j) hy])
    refine sg_64_20 t0 t s _ j w5 m1 Q ?_
    rw [rs.2.2.1, rs.2.2.2.1]
    refine ⟨by omega, fun _ => ⟨by omega, by omega, by omega, by omega, cl_21 (fun hm => ⟨fun z => by omega, fun _ => ⟨ht, cl_48 ht hw hr1 (by omega) (by omega) (fun hy => ⟨fun z => by omega, fun _ => ?_⟩) (fun hy => ⟨fun _ => ⟨by omega, no hy _⟩, fun z => by omega⟩)⟩⟩) (fun hm => ⟨fun _ => ⟨by omega, no (fun q => hm q.1) _⟩, fun z => by omega⟩)⟩, fun z => by omega⟩
    rw [up_ne (s' := 14) (by omega)]
    refine ⟨by omega, by omega, by omega, by omega, by omega, by omega, by omega, by omega, by omega, ih (j + 1) _ _ (by omega) (dy_fr_up (dy_fr_up hf (by omega)) (by omega)) (fun u hu => ?_) ?_⟩
    · rw [up_ne (by omega)]
      have hy : sp_cry d s (d 2 s 2 + (j : Int) * d 2 s 3) := hy
      rcases Nat.decEq u (d 2 s 2 + (j : Int) * d 2 s 3).toNat with q | q
      · rw [up_ne (fun z => q z.2.2)]
        refine bs_iff (h u hu) (fun o _ => ?_)
        constructor
        · rintro (q | ⟨q1, q2, i, i1, i2⟩)
          · exact Or.inl q
          · rcases Nat.lt_or_ge i j with q5 | q5
            · exact Or.inr ⟨q1, q2, i, q5, i2⟩
            · obtain rfl : i = j := by omega
              omega
        · rintro (q | ⟨q1, q2, i, i1, i2⟩)
          · exact Or.inl q
          · exact Or.inr ⟨q1, q2, i, by omega, i2⟩
      · have eu : (u : Int) = d 2 s 2 + (j : Int) * d 2 s 3 := by omega
        rw [← q, up_eq]
        refine bs_or (by omega) (h u hu) (fun o _ => ?_)
        constructor
        · rintro (q | ⟨q1, q2, i, i1, i2⟩)
          · exact Or.inr (Or.inl q)
          · exact Or.inl q1
        · rintro (q1 | q | ⟨q1, q2, i, i1, i2⟩)
          · subst q1
            exact Or.inr ⟨rfl, by rw [eu]; exact hy, j, by omega, eu⟩
          · exact Or.inl q
          · exact Or.inr ⟨q1, q2, i, by omega, i2⟩
    · rw [up_eq, hc]
      unfold cs_n
      rw [nb_ct_yes (P := fun i => sp_cry d s (d 2 s 2 + (i : Int) * d 2 s 3)) (n := j) hy]
      omega
theorem lp_64 {d : jx_M} {t0 t : Nat} {m : jx_M} {Q : Int → jx_M → Prop} (ht0 : t0 < 2) (ht : t < 3) (hw : dt_w d) (hr : rc_T m t d)
    (K : ∀ (m2 : jx_M), dy_fr t0 m m2 → (∀ u : Nat, u < 120 → bs_is (m2 18 t0 u) (fun o => (o : Int) < d 1 0 0 ∧ sp_cry d o u)) → m2 14 t0 3 = cs_N d (d 1 0 0).toNat → Q 0 m2) :
    ∀ (r s : Nat) (m1 : jx_M) (w3 w4 w5 : Option jx_V), s + r = (d 1 0 0).toNat → dy_fr t0 m m1 → (∀ u : Nat, u < 120 → bs_is (m1 18 t0 u) (cs_C d s 0 u)) → m1 14 t0 3 = cs_N d s → jx_AW 64 9 [some (xA 14 t0), some (xA 1 t), some (xI (s : Int)), w3, w4, w5] [] m1 Q := by
  have hn := hw.2.1
  intro r
  induction r with
  | zero =>
    intro s m1 w3 w4 w5 hs hf h hc
    have en := (dy_fr_rc hf hr).2.1
    obtain rfl : s = (d 1 0 0).toNat := by omega
    refine sg_64_9 t0 t _ w3 w4 w5 m1 Q ⟨ht, fun z => by omega, fun _ => K m1 hf (fun u hu => bs_iff (h u hu) (fun o _ => ?_)) hc⟩
    constructor
    · rintro ⟨q1, q2⟩; exact Or.inl ⟨by omega, q2⟩
    · rintro (⟨q1, q2⟩ | ⟨-, -, i, q2, -⟩)
      · exact ⟨by omega, q2⟩
      · omega
  | succ r ih =>
    intro s m1 w3 w4 w5 hs hf h hc
    have hr1 := dy_fr_rc hf hr
    have en := hr1.2.1
    have w5' := (hw.2.2.2.2.2.2.1 s (by omega)).2.2.2.2.1
    refine sg_64_9 t0 t s w3 w4 w5 m1 Q ⟨ht, fun _ => ⟨ht, by omega, ht, lp_64_20 ht0 ht hw hr1 (by omega) (fun m2 w3 w4 w5 hf2 h2 hc2 => ih (s + 1) m2 w3 w4 w5 (by omega) (dy_fr_tr hf hf2) h2 hc2) (d 2 s 4).toNat 0 m1 w5 (by omega) (fun _ _ _ _ => rfl) h ?_⟩, fun z => by omega⟩
    rw [hc]
    exact (Int.add_zero _).symm
theorem cl_64 {d : jx_M} {t0 t : Nat} {m : jx_M} {Q : Int → jx_M → Prop} (ht0 : t0 < 2) (ht : t < 3) (hw : dt_w d) (hr : rc_T m t d)
    (K : ∀ (m2 : jx_M), dy_fr t0 m m2 → (∀ u : Nat, u < 120 → bs_is (m2 18 t0 u) (fun o => (o : Int) < d 1 0 0 ∧ sp_cry d o u)) → m2 14 t0 3 = cs_N d (d 1 0 0).toNat → Q 0 m2) : jx_Cl 64 [xA 14 t0, xA 1 t] m Q := by
  have hn := hw.2.1
  refine sg_64 t0 t m Q ⟨ht0, cl_2_CRI ht0 (fun m2 hf h => ⟨ht0, ?_⟩)⟩
  have hf0 : dy_fr t0 m m2 := fun s i j hn' => hf s i j (fun z => hn' ⟨by omega, by omega, z.2⟩)
  have hf1 : dy_fr t0 m (jx_up m2 14 t0 3 0) := dy_fr_up hf0 (by omega)
  refine lp_64 ht0 ht hw hr K (d 1 0 0).toNat 0 _ none none none (by omega) hf1 (fun u hu => ?_) ?_
  · rw [up_ne (by omega), h u hu]
    exact bs_0 (fun o _ z => by
      rcases z with ⟨z, -⟩ | ⟨-, -, i, z, -⟩ <;> omega)
  · rw [up_eq]; rfl
