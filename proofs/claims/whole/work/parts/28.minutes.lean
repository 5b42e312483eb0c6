/-! the reference: a day, minute by minute -/
theorem ss_b {d : jx_M} {b : Nat} {t : Int} {x : Int × Int × Int × Int} (h : 0 ≤ x.2.1) : sp_step d b t x = x := if_pos h
theorem ss_n {d : jx_M} {b : Nat} {t : Int} {x : Int × Int × Int × Int} (h : x.2.1 < 0) (h1 : x.1 < 0) (hc : ¬ sp_call d (d 5 b 0) (d 5 b 1) t) : sp_step d b t x = x := by
  unfold sp_step; rw [if_neg (by omega), if_pos h1, if_neg hc]
theorem ss_c {d : jx_M} {b : Nat} {t : Int} {x : Int × Int × Int × Int} (h : x.2.1 < 0) (h1 : x.1 < 0) (hc : sp_call d (d 5 b 0) (d 5 b 1) t) : sp_step d b t x = (t + d 5 b 2 + 1, x.2) := by
  unfold sp_step; rw [if_neg (by omega), if_pos h1, if_pos hc]
theorem ss_w {d : jx_M} {b : Nat} {t : Int} {x : Int × Int × Int × Int} (h : x.2.1 < 0) (h1 : ¬ x.1 < 0) (h2 : t < x.1) : sp_step d b t x = x := by
  unfold sp_step; rw [if_neg (by omega), if_neg h1, if_pos h2]
theorem ss_s {d : jx_M} {b : Nat} {t : Int} {x : Int × Int × Int × Int} (h : x.2.1 < 0) (h1 : ¬ x.1 < 0) (h2 : ¬ t < x.1) (h3 : 0 ≤ sp_st d (d 5 b 0) (d 5 b 1) t) : sp_step d b t x = (x.1, sp_st d (d 5 b 0) (d 5 b 1) t, t, x.2.2.2) := by
  unfold sp_step; rw [if_neg (by omega), if_neg h1, if_neg h2, if_pos h3]
theorem ss_p {d : jx_M} {b : Nat} {t : Int} {x : Int × Int × Int × Int} (h : x.2.1 < 0) (h1 : ¬ x.1 < 0) (h2 : ¬ t < x.1) (h3 : sp_st d (d 5 b 0) (d 5 b 1) t < 0) (h4 : t - x.1 < d 5 b 3) : sp_step d b t x = x := by
  unfold sp_step; rw [if_neg (by omega), if_neg h1, if_neg h2, if_neg (by omega), if_pos h4]
theorem ss_l {d : jx_M} {b : Nat} {t : Int} {x : Int × Int × Int × Int} (h : x.2.1 < 0) (h1 : ¬ x.1 < 0) (h2 : ¬ t < x.1) (h3 : sp_st d (d 5 b 0) (d 5 b 1) t < 0) (h4 : ¬ t - x.1 < d 5 b 3) : sp_step d b t x = (-4, x.2.1, x.2.2.1, x.2.2.2 + 1) := by
  unfold sp_step; rw [if_neg (by omega), if_neg h1, if_neg h2, if_neg (by omega), if_neg h4]
theorem st_157_114 {t b3 b4 b5 : Int} {b : Nat} {M : jx_M} {Q : Int → jx_M → Prop} (hb : b < 12) (h38 : 0 ≤ M 38 0 b ∧ M 38 0 b ≤ 200)
    (k0 : b5 = 0 → jx_AW 157 138 [some (xA 26 0), some (xI t), some (xI (b : Int)), some (xI b3), some (xI b4), some (xI b5)] [] (jx_up (jx_up M 38 0 b (M 38 0 b + 0)) 35 0 b (M 35 0 b)) Q)
    (k1 : ¬ b5 = 0 → jx_AW 157 138 [some (xA 26 0), some (xI t), some (xI (b : Int)), some (xI b3), some (xI b4), some (xI b5)] [] (jx_up (jx_up M 38 0 b (M 38 0 b + 1)) 35 0 b (-4)) Q) :
    jx_AW 157 114 [some (xA 26 0), some (xI t), some (xI (b : Int)), some (xI b3), some (xI b4), some (xI b5)] [] M Q := by
  refine sg_157_114 t b b3 b4 b5 M Q ?_
  rw [show ((b : Int)).toNat = b by omega]
  refine ⟨by omega, by omega, by omega, fun h => ⟨by omega, by omega, by omega, by omega, fun _ => ⟨by omega, by omega, by omega, by omega, by omega, k0 h⟩, fun z => absurd h z⟩, fun h => ⟨by omega, by omega, by omega, by omega, fun z => absurd z h, fun _ => ⟨by omega, by omega, k1 h⟩⟩⟩
theorem st_157_35 {d : jx_M} {t : Int} {b : Nat} {w3 w4 w5 : Option jx_V} {m : jx_M} {Q : Int → jx_M → Prop} (hw : dt_w d) (hr : re_T m d) (hal : m 26 0 17 < 0) (hb : (b : Int) < d 1 0 1) (ht : 0 ≤ t ∧ t < 120) (hok : lf_ok t (lf_row m b))
    (K : ∀ (m2 : jx_M) (w3 w4 w5 : Option jx_V), lf_fr m m2 → (∀ b' : Nat, b' ≠ b → lf_row m2 b' = lf_row m b') → lf_row m2 b = sp_step d b t (lf_row m b) → jx_AW 157 35 [some (xA 26 0), some (xI t), some (xI ((b : Int) + 1)), w3, w4, w5] [] m2 Q) :
    jx_AW 157 35 [some (xA 26 0), some (xI t), some (xI (b : Int)), w3, w4, w5] [] m Q := by
  have hbu := hw.2.2.1
  have hwb := hw.2.2.2.2.2.2.2.1 b hb
  have hp := hwb.2.2.2
  have en := hr.2.2.1
  have rb := hr.2.2.2.2.2.2.2.1 b hb
  have e0 : m 31 0 ((4 * (b : Int)).toNat) = d 5 b 0 := by rw [← rb 0 (by omega)]; congr 1 <;> omega
  have e1 : m 31 0 ((4 * (b : Int) + 1).toNat) = d 5 b 1 := by rw [← rb 1 (by omega)]; congr 1 <;> omega
  have e3 : m 31 0 ((4 * (b : Int) + 3).toNat) = d 5 b 3 := by rw [← rb 3 (by omega)]; congr 1 <;> omega
  obtain ⟨g1, g2, g3⟩ := hok
  have g1 : m 35 0 b = -4 ∨ (0 ≤ m 35 0 b ∧ m 35 0 b ≤ 130) := g1
  have g2 : (m 36 0 b = -4 ∧ m 37 0 b = -4) ∨ (0 ≤ m 36 0 b ∧ 0 ≤ m 35 0 b) := g2
  have g3 : 0 ≤ m 38 0 b ∧ m 38 0 b ≤ t := g3
  have same : ∀ (w3 w4 w5 : Option jx_V), sp_step d b t (lf_row m b) = lf_row m b → jx_AW 157 35 [some (xA 26 0), some (xI t), some (xI ((b : Int) + 1)), w3, w4, w5] [] m Q := fun w3 w4 w5 h => K m w3 w4 w5 (fun _ _ _ _ => rfl) (fun _ _ => rfl) h.symm
  refine sg_157_35 t b w3 w4 w5 m Q ?_
  rw [show ((b : Int)).toNat = b by omega]
  refine ⟨by omega, fun _ => ⟨by omega, by omega, by omega, fun hu => ?_, fun hu => ?_⟩, fun h => by omega⟩
  · refine sg_157_48 t b 1 w4 w5 m Q ?_
    rw [show ((b : Int)).toNat = b by omega]
    refine ⟨by omega, by omega, by omega, fun h36 => ⟨fun z => by omega, fun _ => ?_⟩, fun h36 => by omega⟩
    refine st_157_138 hw hr hal hb ht (fun hc => same _ _ _ (ss_n h36 hu (hc.elim (fun z => absurd z (by omega)) id))) (fun _ hc => K _ _ _ _ (lf_fr_up (fun _ _ _ _ => rfl) (by omega)) (fun b' h => lf_row_up h) ?_)
    rw [ss_c h36 hu hc]
    simp [lf_row, jx_up]
  · refine sg_157_48 t b 0 w4 w5 m Q ?_
    rw [show ((b : Int)).toNat = b by omega, e0, e1]
    refine ⟨by omega, by omega, by omega, fun h36 => ⟨fun _ => ⟨by omega, by omega, by omega, fun hlt => ?_, fun hge => ⟨by omega, by omega, by omega, by omega, by omega, by omega, by omega, by omega, by omega, by omega, cl_158 hw hr hal ht ?_⟩⟩, fun z => by omega⟩, fun h36 => ?_⟩
    · exact st_157_138 hw hr hal hb ht (fun _ => same _ _ _ (ss_w h36 hu hlt)) (fun z => absurd rfl z)
    · have hz := sp_sa_in d (d 5 b 0) (d 5 b 1) t (d 1 0 0).toNat 0
      have hst := ss_s (d := d) (b := b) (t := t) (x := lf_row m b) h36 hu hge
      have hsp := ss_p (d := d) (b := b) (t := t) (x := lf_row m b) h36 hu hge
      have hsl := ss_l (d := d) (b := b) (t := t) (x := lf_row m b) h36 hu hge
      change sp_st d (d 5 b 0) (d 5 b 1) t = -4 ∨ 0 ≤ sp_st d (d 5 b 0) (d 5 b 1) t at hz
      generalize sp_st d (d 5 b 0) (d 5 b 1) t = z1 at hz hst hsp hsl ⊢
      have fr : ∀ (v u1 u2 : Int), lf_fr m (jx_up (jx_up (jx_up (jx_up m 36 0 b z1) 37 0 b v) 38 0 b u1) 35 0 b u2) := fun v u1 u2 => lf_fr_up (lf_fr_up (lf_fr_up (lf_fr_up (fun _ _ _ _ => rfl) (by omega)) (by omega)) (by omega)) (by omega)
      have ro : ∀ (v u1 u2 : Int) (b' : Nat), b' ≠ b → lf_row (jx_up (jx_up (jx_up (jx_up m 36 0 b z1) 37 0 b v) 38 0 b u1) 35 0 b u2) b' = lf_row m b' := fun v u1 u2 b' h => by rw [lf_row_up h, lf_row_up h, lf_row_up h, lf_row_up h]
      have rw5 : ∀ (v u1 u2 : Int), lf_row (jx_up (jx_up (jx_up (jx_up m 36 0 b z1) 37 0 b v) 38 0 b u1) 35 0 b u2) b = (u2, z1, v, u1) := fun v u1 u2 => by simp [lf_row, jx_up]
      have go : ∀ (v u1 u2 : Int) (w4 w5 : Option jx_V), sp_step d b t (lf_row m b) = (u2, z1, v, u1) → jx_AW 157 138 [some (xA 26 0), some (xI t), some (xI (b : Int)), some (xI 0), w4, w5] [] (jx_up (jx_up (jx_up (jx_up m 36 0 b z1) 37 0 b v) 38 0 b u1) 35 0 b u2) Q := fun v u1 u2 w4 w5 h =>
        st_157_138 hw (lf_fr_re (fr v u1 u2) hr) hal hb ht (fun _ => K _ _ _ _ (fr v u1 u2) (ro v u1 u2) ((rw5 v u1 u2).trans h.symm)) (fun z => absurd rfl z)
      refine ⟨by omega, by omega, by omega, by omega, fun hn => ⟨by omega, by omega, fun _ => ?_, fun z => absurd hn z⟩, fun hn => ⟨by omega, by omega, fun z => absurd z hn, fun _ => ?_⟩⟩
      · have u1 : (jx_up (jx_up m 36 0 b z1) 37 0 b (-4)) 35 0 b = m 35 0 b := rfl
        have u2 : (jx_up (jx_up m 36 0 b z1) 37 0 b (-4)) 31 0 ((4 * (b : Int) + 3).toNat) = d 5 b 3 := e3
        rw [u1, u2]
        refine ⟨by omega, by omega, by omega, by omega, by omega, by omega, by omega, by omega, by omega, fun hc => ?_, fun hc => ?_⟩
        · refine st_157_114 (by omega) (by show 0 ≤ m 38 0 b ∧ m 38 0 b ≤ 200; omega) (fun _ => ?_) (fun z => absurd rfl z)
          refine go (-4) (m 38 0 b + 0) (m 35 0 b) _ _ ?_
          rw [hsp hn hc]
          show (m 35 0 b, m 36 0 b, m 37 0 b, m 38 0 b) = _
          rw [show m 36 0 b = z1 by omega, show m 37 0 b = -4 by omega, Int.add_zero]
        · refine st_157_114 (by omega) (by show 0 ≤ m 38 0 b ∧ m 38 0 b ≤ 200; omega) (fun z => by omega) (fun _ => ?_)
          refine go (-4) (m 38 0 b + 1) (-4) _ _ ?_
          rw [hsl hn hc]
          show ((-4 : Int), m 36 0 b, m 37 0 b, m 38 0 b + 1) = _
          rw [show m 36 0 b = z1 by omega, show m 37 0 b = -4 by omega]
      · refine st_157_114 (by omega) (by show 0 ≤ m 38 0 b ∧ m 38 0 b ≤ 200; omega) (fun _ => ?_) (fun z => absurd rfl z)
        refine go t (m 38 0 b + 0) (m 35 0 b) _ _ ?_
        rw [hst (by omega), Int.add_zero]
        rfl
    · exact st_157_138 hw hr hal hb ht (fun _ => same _ _ _ (ss_b (by show 0 ≤ m 36 0 b; omega))) (fun z => absurd rfl z)
theorem lp_157_35 {d : jx_M} {t : Nat} {m : jx_M} {Q : Int → jx_M → Prop} (hw : dt_w d) (hr : re_T m d) (hal : m 26 0 17 < 0) (ht : t < 120)
    (K : ∀ (m2 : jx_M) (w2 w3 w4 w5 : Option jx_V), lf_fr m m2 → (∀ b : Nat, (b : Int) < d 1 0 1 → lf_row m2 b = sp_life d b (t + 1)) → jx_AW 157 30 [some (xA 26 0), some (xI ((t : Int) + 1)), w2, w3, w4, w5] [] m2 Q) :
    ∀ (r k : Nat) (m1 : jx_M) (w3 w4 w5 : Option jx_V), k + r = (d 1 0 1).toNat → lf_fr m m1 → (∀ b : Nat, b < k → lf_row m1 b = sp_life d b (t + 1)) → (∀ b : Nat, k ≤ b → (b : Int) < d 1 0 1 → lf_row m1 b = sp_life d b t) → jx_AW 157 35 [some (xA 26 0), some (xI (t : Int)), some (xI (k : Int)), w3, w4, w5] [] m1 Q := by
  have hbu := hw.2.2.1
  intro r
  induction r with
  | zero =>
    intro k m1 w3 w4 w5 hk hf h1 h2
    have en := (lf_fr_re hf hr).2.2.1
    exact sg_157_35 t k w3 w4 w5 m1 Q ⟨by omega, fun h => by omega, fun _ => ⟨by omega, K m1 _ _ _ _ hf (fun b hb => h1 b (by omega))⟩⟩
  | succ r ih =>
    intro k m1 w3 w4 w5 hk hf h1 h2
    have hal1 : m1 26 0 17 < 0 := by rw [hf 26 0 17 (by omega)]; exact hal
    have hrow := h2 k (by omega) (by omega)
    refine st_157_35 hw (lf_fr_re hf hr) hal1 (by omega) (by omega) (by rw [hrow]; exact lf_life (hw.2.2.2.2.2.2.2.1 k (by omega)) t (by omega)) (fun m2 w3 w4 w5 hf2 ho hs => ?_)
    refine ih (k + 1) m2 w3 w4 w5 (by omega) (fun s i j hn => (hf2 s i j hn).trans (hf s i j hn)) (fun b hb => ?_) (fun b hb hb2 => ?_)
    · rcases Nat.lt_or_ge b k with q | q
      · rw [ho b (by omega)]; exact h1 b q
      · obtain rfl : b = k := by omega
        rw [hs, hrow]
        rfl
    · rw [ho b (by omega)]; exact h2 b (by omega) hb2
theorem lp_157_30 {d : jx_M} {m : jx_M} {Q : Int → jx_M → Prop} (hw : dt_w d) (hr : re_T m d) (hal : m 26 0 17 < 0)
    (K : ∀ (m2 : jx_M), lf_fr m m2 → (∀ b : Nat, (b : Int) < d 1 0 1 → lf_row m2 b = sp_life d b 120) → Q 0 m2) :
    ∀ (r t : Nat) (m1 : jx_M) (w2 w3 w4 w5 : Option jx_V), t + r = 120 → lf_fr m m1 → (∀ b : Nat, (b : Int) < d 1 0 1 → lf_row m1 b = sp_life d b t) → jx_AW 157 30 [some (xA 26 0), some (xI (t : Int)), w2, w3, w4, w5] [] m1 Q := by
  have hbu := hw.2.2.1
  intro r
  induction r with
  | zero =>
    intro t m1 w2 w3 w4 w5 ht hf h
    obtain rfl : t = 120 := by omega
    exact sg_157_30 _ w2 w3 w4 w5 m1 Q ⟨fun h => by omega, fun _ => K m1 hf h⟩
  | succ r ih =>
    intro t m1 w2 w3 w4 w5 ht hf h
    have hal1 : m1 26 0 17 < 0 := by rw [hf 26 0 17 (by omega)]; exact hal
    refine sg_157_30 _ w2 w3 w4 w5 m1 Q ⟨fun _ => ?_, fun h => by omega⟩
    exact lp_157_35 hw (lf_fr_re hf hr) hal1 (by omega) (fun m2 w2 w3 w4 w5 hf2 h2 => ih (t + 1) m2 w2 w3 w4 w5 (by omega) (fun s i j hn => (hf2 s i j hn).trans (hf s i j hn)) h2) (d 1 0 1).toNat 0 m1 w3 w4 w5 (by omega) (fun _ _ _ _ => rfl) (fun b hb => by omega) (fun b _ hb => h b hb)
theorem lp_157_2 {d : jx_M} {m : jx_M} {Q : Int → jx_M → Prop} (hw : dt_w d) (hr : re_T m d) (hal : m 26 0 17 < 0)
    (K : ∀ (m2 : jx_M), lf_fr m m2 → (∀ b : Nat, (b : Int) < d 1 0 1 → lf_row m2 b = sp_life d b 120) → Q 0 m2) :
    ∀ (r k : Nat) (m1 : jx_M) (w2 w3 w4 w5 : Option jx_V), k + r = (d 1 0 1).toNat → lf_fr m m1 → (∀ b : Nat, b < k → lf_row m1 b = sp_life d b 0) → jx_AW 157 2 [some (xA 26 0), some (xI (k : Int)), w2, w3, w4, w5] [] m1 Q := by
  have hbu := hw.2.2.1
  intro r
  induction r with
  | zero =>
    intro k m1 w2 w3 w4 w5 hk hf h
    have en := (lf_fr_re hf hr).2.2.1
    exact sg_157_2 k w2 w3 w4 w5 m1 Q ⟨by omega, fun h => by omega, fun _ => lp_157_30 hw hr hal K 120 0 m1 w2 w3 w4 w5 (by omega) hf (fun b hb => h b (by omega))⟩
  | succ r ih =>
    intro k m1 w2 w3 w4 w5 hk hf h
    have en := (lf_fr_re hf hr).2.2.1
    refine sg_157_2 k w2 w3 w4 w5 m1 Q ?_
    rw [show ((k : Int)).toNat = k by omega]
    refine ⟨by omega, fun _ => ⟨by omega, by omega, by omega, by omega, by omega, by omega, by omega, by omega, by omega, by omega, by omega, by omega, by omega, ?_⟩, fun h => by omega⟩
    refine ih (k + 1) _ w2 w3 w4 w5 (by omega) (lf_fr_up (lf_fr_up (lf_fr_up (lf_fr_up hf (by omega)) (by omega)) (by omega)) (by omega)) (fun b hb => ?_)
    rcases Nat.lt_or_ge b k with q | q
    · rw [lf_row_up (by omega), lf_row_up (by omega), lf_row_up (by omega), lf_row_up (by omega)]; exact h b q
    · obtain rfl : b = k := by omega
      simp [lf_row, jx_up, sp_life]
theorem cl_157 {d : jx_M} {m : jx_M} {Q : Int → jx_M → Prop} (hw : dt_w d) (hr : re_T m d) (hal : m 26 0 17 < 0)
    (K : ∀ (m2 : jx_M), lf_fr m m2 → (∀ b : Nat, (b : Int) < d 1 0 1 → lf_row m2 b = sp_life d b 120) → Q 0 m2) : jx_Cl 157 [xA 26 0] m Q := by
  have hbu := hw.2.2.1
  exact sg_157 m Q (lp_157_2 hw hr hal K (d 1 0 1).toNat 0 m none none none none (by omega) (fun _ _ _ _ => rfl) (fun b hb => by omega))
