/-! a buyer's day: (down from, bought from, bought in, wasted); -4 is none -/
noncomputable def sp_step (d : jx_M) (b : Nat) (t : Int) (x : Int × Int × Int × Int) : Int × Int × Int × Int :=
  if 0 ≤ x.2.1 then x
  else if x.1 < 0 then @ite _ (sp_call d (d 5 b 0) (d 5 b 1) t) (Classical.propDecidable _) (t + d 5 b 2 + 1, x.2) x
  else if t < x.1 then x
  else if 0 ≤ sp_st d (d 5 b 0) (d 5 b 1) t then (x.1, sp_st d (d 5 b 0) (d 5 b 1) t, t, x.2.2.2)
  else if t - x.1 < d 5 b 3 then x else (-4, x.2.1, x.2.2.1, x.2.2.2 + 1)
noncomputable def sp_life (d : jx_M) (b : Nat) : Nat → Int × Int × Int × Int
  | 0 => (-4, -4, -4, 0)
  | t + 1 => sp_step d b t (sp_life d b t)
def lf_ok (t : Int) (x : Int × Int × Int × Int) : Prop := (x.1 = -4 ∨ (0 ≤ x.1 ∧ x.1 ≤ 130)) ∧ ((x.2.1 = -4 ∧ x.2.2.1 = -4) ∨ (0 ≤ x.2.1 ∧ 0 ≤ x.1)) ∧ 0 ≤ x.2.2.2 ∧ x.2.2.2 ≤ t
theorem sp_sa_in (d : jx_M) (cc kd t : Int) : ∀ (n k : Nat), sp_sa d cc kd t n k = -4 ∨ 0 ≤ sp_sa d cc kd t n k := by
  intro n
  induction n with
  | zero => intro k; exact Or.inl rfl
  | succ n ih =>
    intro k
    unfold sp_sa
    split
    · right; omega
    · exact ih (k + 1)
theorem lf_step {d : jx_M} {b : Nat} {t : Int} {x : Int × Int × Int × Int} (hb : dt_wB d b) (ht : 0 ≤ t ∧ t < 120) (h : lf_ok t x) : lf_ok (t + 1) (sp_step d b t x) := by
  obtain ⟨x1, x2, x3, x4⟩ := x
  obtain ⟨g1, g2, g3⟩ := h
  have hf := hb.2.2.1
  simp only at g1 g2 g3
  unfold sp_step
  simp only
  split
  · refine ⟨g1, g2, ?_⟩; show 0 ≤ x4 ∧ x4 ≤ t + 1; omega
  · split
    · split
      · refine ⟨Or.inr ?_, ?_, ?_⟩
        · show 0 ≤ t + d 5 b 2 + 1 ∧ t + d 5 b 2 + 1 ≤ 130; omega
        · show (x2 = -4 ∧ x3 = -4) ∨ (0 ≤ x2 ∧ 0 ≤ t + d 5 b 2 + 1); omega
        · show 0 ≤ x4 ∧ x4 ≤ t + 1; omega
      · refine ⟨g1, g2, ?_⟩; show 0 ≤ x4 ∧ x4 ≤ t + 1; omega
    · split
      · refine ⟨g1, g2, ?_⟩; show 0 ≤ x4 ∧ x4 ≤ t + 1; omega
      · split
        · refine ⟨g1, Or.inr ⟨by assumption, ?_⟩, ?_⟩
          · show 0 ≤ x1; omega
          · show 0 ≤ x4 ∧ x4 ≤ t + 1; omega
        · split
          · refine ⟨g1, g2, ?_⟩; show 0 ≤ x4 ∧ x4 ≤ t + 1; omega
          · refine ⟨Or.inl rfl, Or.inl ?_, ?_⟩
            · show x2 = -4 ∧ x3 = -4; omega
            · show 0 ≤ x4 + 1 ∧ x4 + 1 ≤ t + 1; omega
theorem lf_life {d : jx_M} {b : Nat} (hb : dt_wB d b) : ∀ (t : Nat), t ≤ 120 → lf_ok t (sp_life d b t) := by
  intro t
  induction t with
  | zero => intro _; exact ⟨Or.inl rfl, Or.inl ⟨rfl, rfl⟩, by show (0 : Int) ≤ 0 ∧ (0 : Int) ≤ 0; omega⟩
  | succ t ih =>
    intro ht
    have h := lf_step hb (t := t) (by omega) (ih (by omega))
    exact h
/-- what a day of the reference leaves alone -/
def lf_fr (m m' : jx_M) : Prop := ∀ s i j, ¬ (35 ≤ s ∧ s ≤ 38) → m' s i j = m s i j
theorem lf_fr_up {m m' : jx_M} {s i j : Nat} {v : Int} (h : lf_fr m m') (h1 : 35 ≤ s ∧ s ≤ 38) : lf_fr m (jx_up m' s i j v) := fun s' i' j' hn => by
  show (if s' = s ∧ i' = i ∧ j' = j then v else m' s' i' j') = _
  rw [if_neg (show ¬ (s' = s ∧ i' = i ∧ j' = j) from fun z => hn (by omega))]
  exact h s' i' j' hn
theorem lf_fr_re {m m' d : jx_M} (h : lf_fr m m') (hr : re_T m d) : re_T m' d := by
  have e : ∀ s, s < 35 → m' s = m s := fun s hs => funext fun i => funext fun j => h s i j (by omega)
  unfold re_T
  rw [e 26 (by omega), e 27 (by omega), e 28 (by omega), e 29 (by omega), e 30 (by omega), e 31 (by omega), e 32 (by omega)]
  exact hr
def lf_row (m : jx_M) (b : Nat) : Int × Int × Int × Int := (m 35 0 b, m 36 0 b, m 37 0 b, m 38 0 b)
theorem lf_row_up {m : jx_M} {s b b' : Nat} {v : Int} (h : b' ≠ b) : lf_row (jx_up m s 0 b v) b' = lf_row m b' := by
  have e : ∀ s', jx_up m s 0 b v s' 0 b' = m s' 0 b' := fun s' => if_neg (fun z => h z.2.2)
  unfold lf_row
  rw [e, e, e, e]
theorem st_157_138 {d : jx_M} {t : Int} {b : Nat} {b3 : Int} {w4 w5 : Option jx_V} {m : jx_M} {Q : Int → jx_M → Prop} (hw : dt_w d) (hr : re_T m d) (hal : m 26 0 17 < 0) (hb : (b : Int) < d 1 0 1) (ht : 0 ≤ t ∧ t < 120)
    (k0 : b3 = 0 ∨ ¬ sp_call d (d 5 b 0) (d 5 b 1) t → jx_AW 157 35 [some (xA 26 0), some (xI t), some (xI ((b : Int) + 1)), some (xI b3), w4, w5] [] m Q)
    (k1 : ¬ b3 = 0 → sp_call d (d 5 b 0) (d 5 b 1) t → jx_AW 157 35 [some (xA 26 0), some (xI t), some (xI ((b : Int) + 1)), some (xI b3), w4, w5] [] (jx_up m 35 0 b (t + d 5 b 2 + 1)) Q) :
    jx_AW 157 138 [some (xA 26 0), some (xI t), some (xI (b : Int)), some (xI b3), w4, w5] [] m Q := by
  have hbu := hw.2.2.1
  have hf := (hw.2.2.2.2.2.2.2.1 b hb).2.2.1
  have e2 : m 31 0 ((4 * (b : Int) + 2).toNat) = d 5 b 2 := by rw [← hr.2.2.2.2.2.2.2.1 b hb 2 (by omega)]; congr 1 <;> omega
  refine sg_157_138 t b b3 w4 w5 m Q ⟨fun h => ⟨by omega, k0 (Or.inl h)⟩, fun h => ⟨by omega, cl_159 hw hr hal (by omega) ht (fun hc => ⟨fun z => by omega, fun _ => ?_⟩) (fun hc => ⟨fun _ => ⟨by omega, k0 (Or.inr hc)⟩, fun z => by omega⟩)⟩⟩
  rw [e2]
  exact ⟨by omega, by omega, by omega, by omega, by omega, by omega, by omega, by omega, by omega, by omega, by omega, k1 h hc⟩
