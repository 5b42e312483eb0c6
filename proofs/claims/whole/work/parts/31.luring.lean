/-! the class: whose tunes are taken for one of a kind -/
def lu_L (d : jx_M) (s j : Nat) (kd : Int) (o : Nat) : Prop := (o : Int) < d 1 0 0 ∧ ∃ q : Nat, (q < s ∨ (q = s ∧ o < j)) ∧ d 2 q 0 = kd ∧ sp_apart d q o ≤ d 1 0 3
def fr_19 (t0 : Nat) (m m' : jx_M) : Prop := ∀ s i j, ¬ (s = 19 ∧ i = t0) → m' s i j = m s i j
theorem fr_19_rc {t0 t : Nat} {m m' d : jx_M} (h : fr_19 t0 m m') (hr : rc_T m t d) : rc_T m' t d := dy_fr_rc (t0 := t0) (fun s i j hn => h s i j (fun z => hn ⟨by omega, by omega, z.2⟩)) hr
theorem bs_iff {v : Int} {P R : Nat → Prop} (h : bs_is v P) (hR : ∀ r : Nat, r < 6 → (R r ↔ P r)) : bs_is v R := ⟨h.1, h.2.1, fun s hs => (h.2.2 s hs).trans (hR s hs).symm⟩
theorem lp_65_17 {d : jx_M} {t0 t : Nat} {s : Nat} {m : jx_M} {Q : Int → jx_M → Prop} (ht0 : t0 < 2) (ht : t < 3) (hw : dt_w d) (hr : rc_T m t d) (hs : (s : Int) < d 1 0 0)
    (K : ∀ (m2 : jx_M) (w3 w4 : Option jx_V), fr_19 t0 m m2 → (∀ kd : Nat, kd < 4 → bs_is (m2 19 t0 kd) (lu_L d (s + 1) 0 kd)) → jx_AW 65 6 [some (xA 14 t0), some (xA 1 t), some (xI ((s : Int) + 1)), w3, w4] [] m2 Q) :
    ∀ (r j : Nat) (m1 : jx_M), j + r = (d 1 0 0).toNat → fr_19 t0 m m1 → (∀ kd : Nat, kd < 4 → bs_is (m1 19 t0 kd) (lu_L d s j kd)) → jx_AW 65 17 [some (xA 14 t0), some (xA 1 t), some (xI (s : Int)), some (xA 6 (6 * t + s)), some (xI (j : Int))] [] m1 Q := by
  have hn := hw.2.1
  have hli := hw.2.2.2.2.1
  have ws := hw.2.2.2.2.2.2.1 s hs
  intro r
  induction r with
  | zero =>
    intro j m1 hj hf h
    have en := (fr_19_rc hf hr).2.1
    refine sg_65_17 t0 t s _ j m1 Q ⟨ht, fun z => by omega, fun _ => ⟨by omega, K m1 _ _ hf (fun kd hk => bs_iff (h kd hk) (fun o _ => ?_))⟩⟩
    constructor
    · rintro ⟨q1, q, q2, q3⟩; exact ⟨q1, q, by omega, q3⟩
    · rintro ⟨q1, q, q2, q3⟩; exact ⟨q1, q, by omega, q3⟩
  | succ r ih =>
    intro j m1 hj hf h
    have hr1 := fr_19_rc hf hr
    have en := hr1.2.1
    have el := hr1.2.2.2.2.1
    have rs := hr1.2.2.2.2.2.2.1 s hs
    have wj := hw.2.2.2.2.2.2.1 j (by omega)
    have rj := hr1.2.2.2.2.2.2.1 j (by omega)
    have ek := rs.1
    have w1 := ws.1
    refine sg_65_17 t0 t s _ j m1 Q ⟨ht, fun _ => ⟨by omega, cl_14 (fun hk => ⟨fun z => by omega, fun _ => ⟨ht, by omega, ht, by omega, by omega, by omega, cl_54_S (i := 6 * t + s) (j := 6 * t + j) (by omega) (by omega) ws wj rs rj ⟨ht, fun hz => ⟨by omega, ih (j + 1) m1 (by omega) hf (fun kd hk2 => bs_iff (h kd hk2) (fun o _ => ?_))⟩, fun hz => ⟨ht0, by omega, by omega, ht0, by omega, ht0, by omega, ih (j + 1) _ (by omega) (fun s' i' j' hn' => ?_) (fun kd hk2 => ?_)⟩⟩⟩⟩) (fun hk => by omega)⟩, fun z => by omega⟩
    · constructor
      · rintro ⟨q1, q, q2, q3⟩
        refine ⟨q1, q, ?_, q3⟩
        rcases q2 with q2 | ⟨q2, q4⟩
        · exact Or.inl q2
        · refine Or.inr ⟨q2, ?_⟩
          rcases Nat.lt_or_ge o j with q5 | q5
          · exact q5
          · obtain rfl : o = j := by omega
            subst q2
            have := q3.2
            omega
      · rintro ⟨q1, q, q2, q3⟩; exact ⟨q1, q, by omega, q3⟩
    · show (if s' = 19 ∧ i' = t0 ∧ j' = _ then _ else m1 s' i' j') = _
      rw [if_neg (fun z => hn' ⟨z.1, z.2.1⟩)]
      exact hf s' i' j' hn'
    · show bs_is (if 19 = 19 ∧ t0 = t0 ∧ kd = (m1 6 (6 * t + s) 4).toNat then jx_ior (m1 19 t0 ((m1 6 (6 * t + s) 4).toNat)) (jx_ishl 1 (j : Int)) else m1 19 t0 kd) _
      rw [ek]
      split
      · rename_i hq
        obtain rfl : kd = (d 2 s 0).toNat := hq.2.2
        refine bs_or (by omega) (h _ hk2) (fun o ho => ?_)
        constructor
        · rintro ⟨q1, q, q2, q3⟩
          rcases Nat.decEq o j with q5 | q5
          · exact Or.inr ⟨q1, q, by omega, q3⟩
          · exact Or.inl q5
        · rintro (q5 | ⟨q1, q, q2, q3⟩)
          · subst q5
            exact ⟨by omega, s, by omega, by omega, by omega⟩
          · exact ⟨q1, q, by omega, q3⟩
      · rename_i hq
        refine bs_iff (h kd hk2) (fun o _ => ?_)
        constructor
        · rintro ⟨q1, q, q2, q3⟩
          refine ⟨q1, q, ?_, q3⟩
          rcases q2 with q2 | ⟨q2, q4⟩
          · exact Or.inl q2
          · subst q2
            exact absurd ⟨rfl, rfl, by have := q3.1; omega⟩ hq
        · rintro ⟨q1, q, q2, q3⟩; exact ⟨q1, q, by omega, q3⟩
theorem lp_65 {d : jx_M} {t0 t : Nat} {m : jx_M} {Q : Int → jx_M → Prop} (ht0 : t0 < 2) (ht : t < 3) (hw : dt_w d) (hr : rc_T m t d)
    (K : ∀ (m2 : jx_M), fr_19 t0 m m2 → (∀ kd : Nat, kd < 4 → bs_is (m2 19 t0 kd) (fun o => (o : Int) < d 1 0 0 ∧ sp_lur d kd o)) → Q 0 m2) :
    ∀ (r s : Nat) (m1 : jx_M) (w3 w4 : Option jx_V), s + r = (d 1 0 0).toNat → fr_19 t0 m m1 → (∀ kd : Nat, kd < 4 → bs_is (m1 19 t0 kd) (lu_L d s 0 kd)) → jx_AW 65 6 [some (xA 14 t0), some (xA 1 t), some (xI (s : Int)), w3, w4] [] m1 Q := by
  have hn := hw.2.1
  intro r
  induction r with
  | zero =>
    intro s m1 w3 w4 hs hf h
    have en := (fr_19_rc hf hr).2.1
    refine sg_65_6 t0 t s w3 w4 m1 Q ⟨ht, fun z => by omega, fun _ => K m1 hf (fun kd hk => bs_iff (h kd hk) (fun o _ => ?_))⟩
    constructor
    · rintro ⟨q1, q, q2, q3, q4⟩
      exact ⟨q1, q, by omega, q3, by rw [sp_apart_sym]; exact q4⟩
    · rintro ⟨q1, q, q2, q3, q4⟩
      exact ⟨q1, q, by omega, q3, by rw [sp_apart_sym]; exact q4⟩
  | succ r ih =>
    intro s m1 w3 w4 hs hf h
    have hr1 := fr_19_rc hf hr
    have en := hr1.2.1
    exact sg_65_6 t0 t s w3 w4 m1 Q ⟨ht, fun _ => ⟨ht, by omega, ht, lp_65_17 ht0 ht hw hr1 (by omega) (fun m2 w3 w4 hf2 h2 => ih (s + 1) m2 w3 w4 (by omega) (fun a b c hn' => (hf2 a b c hn').trans (hf a b c hn')) h2) (d 1 0 0).toNat 0 m1 (by omega) (fun _ _ _ _ => rfl) h⟩, fun z => by omega⟩
theorem cl_65 {d : jx_M} {t0 t : Nat} {m : jx_M} {Q : Int → jx_M → Prop} (ht0 : t0 < 2) (ht : t < 3) (hw : dt_w d) (hr : rc_T m t d)
    (K : ∀ (m2 : jx_M), fr_19 t0 m m2 → (∀ kd : Nat, kd < 4 → bs_is (m2 19 t0 kd) (fun o => (o : Int) < d 1 0 0 ∧ sp_lur d kd o)) → Q 0 m2) : jx_Cl 65 [xA 14 t0, xA 1 t] m Q := by
  have hn := hw.2.1
  refine sg_65 t0 t m Q ⟨ht0, cl_2_LUR ht0 (fun m2 hf h => lp_65 ht0 ht hw (fr_19_rc hf hr) (fun m3 hf3 h3 => K m3 (fun a b c hn' => (hf3 a b c hn').trans (hf a b c hn')) h3) (d 1 0 0).toNat 0 m2 none none (by omega) (fun _ _ _ _ => rfl) (fun kd hk => ?_))⟩
  rw [h kd hk]
  exact bs_0 (fun o _ z => by obtain ⟨-, q, q2, -⟩ := z; omega)
