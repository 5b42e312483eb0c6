/-! a round as a text -/
def isd (t : Nat → Int) (L i : Nat) : Prop := i < L ∧ 48 ≤ t i ∧ t i ≤ 57
def dge (t : Nat → Int) : Nat → Nat → Nat
  | 0, i => i
  | r + 1, i => if 48 ≤ t i ∧ t i ≤ 57 then dge t r (i + 1) else i
theorem dge_d {t : Nat → Int} {r i : Nat} (h : 48 ≤ t i ∧ t i ≤ 57) : dge t (r + 1) i = dge t r (i + 1) := if_pos h
theorem dge_e {t : Nat → Int} {r i : Nat} (h : ¬ (48 ≤ t i ∧ t i ≤ 57)) : dge t (r + 1) i = i := if_neg h
theorem dge_in {t : Nat → Int} {L : Nat} : ∀ (r i : Nat), i + r = L → i ≤ dge t r i ∧ dge t r i ≤ L ∧ (∀ j : Nat, i ≤ j → j < dge t r i → 48 ≤ t j ∧ t j ≤ 57) ∧ (dge t r i < L → ¬ (48 ≤ t (dge t r i) ∧ t (dge t r i) ≤ 57))
  | 0, i, h => ⟨Nat.le_refl _, by show i ≤ L; omega, fun j h1 h2 => by have : j < i := h2; omega, fun z => by have : i < L := z; omega⟩
  | r + 1, i, h => by
    by_cases q : 48 ≤ t i ∧ t i ≤ 57
    · obtain ⟨a, b, c, e⟩ := dge_in (t := t) (L := L) r (i + 1) (by omega)
      rw [dge_d q]
      refine ⟨by omega, b, fun j h1 h2 => ?_, e⟩
      rcases Nat.decEq j i with z | z
      · exact c j (by omega) h2
      · subst z; exact q
    · rw [dge_e q]
      exact ⟨Nat.le_refl _, by omega, fun j h1 h2 => by omega, fun _ => q⟩
def cnum (t : Nat → Int) : Nat → Nat → Int → Int
  | 0, _, c => c
  | r + 1, i, c => cnum t r (i + 1) (min 25 (10 * c + t i - 48))
def rnum (t : Nat → Int) : Nat → Nat → Int → Int
  | 0, _, c => c
  | r + 1, i, c => rnum t r (i + 1) (if 999 < c then c else 10 * c + t i - 48)
theorem num_eq {t : Nat → Int} : ∀ (r i : Nat) (c : Int), 0 ≤ c ∧ c ≤ 9999 → (∀ j : Nat, i ≤ j → j < i + r → 48 ≤ t j ∧ t j ≤ 57) → cnum t r i (min 25 c) = min 25 (rnum t r i c) ∧ 0 ≤ rnum t r i c ∧ rnum t r i c ≤ 9999
  | 0, i, c, hc, h => ⟨rfl, hc⟩
  | r + 1, i, c, hc, h => by
    have hi := h i (by omega) (by omega)
    have x := num_eq (t := t) r (i + 1) (if 999 < c then c else 10 * c + t i - 48) (by split <;> omega) (fun j h1 h2 => h j (by omega) (by omega))
    show cnum t r (i + 1) (min 25 (10 * min 25 c + t i - 48)) = min 25 (rnum t r (i + 1) (if 999 < c then c else 10 * c + t i - 48)) ∧ _
    rw [show min 25 (10 * min 25 c + t i - 48) = min 25 (if 999 < c then c else 10 * c + t i - 48) by split <;> omega]
    exact x
def rd_e (t : Nat → Int) (L p : Nat) : Nat := dge t (L - p) p
def rd_c (t : Nat → Int) (L p : Nat) : Int := cnum t (rd_e t L p - p) p 0
def rd_x (t : Nat → Int) (L p : Nat) : Nat := nbk t (L - rd_e t L p) (rd_e t L p)
def rd_ok (t : Nat → Int) (L f p : Nat) (v : Nat → Int) : Prop := rd_c t L p < 25 ∧ (f = 0 ∨ sp_far (v (f - 1)) (rd_c t L p) ≤ 1)
noncomputable def rnd (t : Nat → Int) (L : Nat) : Nat → Nat → Nat → (Nat → Int) → Int × (Nat → Int)
  | 0, _, p, v => (-20 - (p : Int), v)
  | k + 1, f, p, v => @ite _ (isd t L p ∧ rd_ok t L f p v) (Classical.propDecidable _)
      (if L ≤ rd_x t L p then ((f : Int) + 1, fun j => if j = f then rd_c t L p else v j)
       else if t (rd_x t L p) = 44 ∧ ¬ k = 0 then rnd t L k (f + 1) (nbk t (L - (rd_x t L p + 1)) (rd_x t L p + 1)) (fun j => if j = f then rd_c t L p else v j)
       else (-20 - (rd_x t L p : Int), v))
      (-20 - (p : Int), v)
theorem rn_w {t : Nat → Int} {L k f p : Nat} {v : Nat → Int} (h : ¬ (isd t L p ∧ rd_ok t L f p v)) : rnd t L (k + 1) f p v = (-20 - (p : Int), v) := if_neg h
theorem rn_end {t : Nat → Int} {L k f p : Nat} {v : Nat → Int} (h : isd t L p ∧ rd_ok t L f p v) (h2 : L ≤ rd_x t L p) : rnd t L (k + 1) f p v = ((f : Int) + 1, fun j => if j = f then rd_c t L p else v j) := (if_pos h).trans (if_pos h2)
theorem rn_go {t : Nat → Int} {L k f p : Nat} {v : Nat → Int} (h : isd t L p ∧ rd_ok t L f p v) (h2 : ¬ L ≤ rd_x t L p) (h3 : t (rd_x t L p) = 44 ∧ ¬ k = 0) : rnd t L (k + 1) f p v = rnd t L k (f + 1) (nbk t (L - (rd_x t L p + 1)) (rd_x t L p + 1)) (fun j => if j = f then rd_c t L p else v j) := (if_pos h).trans ((if_neg h2).trans (if_pos h3))
theorem rn_bad {t : Nat → Int} {L k f p : Nat} {v : Nat → Int} (h : isd t L p ∧ rd_ok t L f p v) (h2 : ¬ L ≤ rd_x t L p) (h3 : ¬ (t (rd_x t L p) = 44 ∧ ¬ k = 0)) : rnd t L (k + 1) f p v = (-20 - (rd_x t L p : Int), v) := (if_pos h).trans ((if_neg h2).trans (if_neg h3))
def co_ok (v : Int) : Prop := 0 ≤ v ∧ v ≤ 24
theorem rd_in {t : Nat → Int} {L p : Nat} (hp : p ≤ L) : (p ≤ rd_e t L p ∧ rd_e t L p ≤ L ∧ ∀ j : Nat, p ≤ j → j < rd_e t L p → 48 ≤ t j ∧ t j ≤ 57) ∧ 0 ≤ rd_c t L p ∧ rd_c t L p ≤ 25 := by
  obtain ⟨a, b, c, -⟩ : p ≤ rd_e t L p ∧ rd_e t L p ≤ L ∧ (∀ j : Nat, p ≤ j → j < rd_e t L p → 48 ≤ t j ∧ t j ≤ 57) ∧ (rd_e t L p < L → ¬ (48 ≤ t (rd_e t L p) ∧ t (rd_e t L p) ≤ 57)) := dge_in (t := t) (L := L) (L - p) p (by omega)
  have x := num_eq (t := t) (rd_e t L p - p) p 0 (by omega) (fun j h1 h2 => c j h1 (by omega))
  refine ⟨⟨a, b, c⟩, ?_⟩
  have e : rd_c t L p = min 25 (rnum t (rd_e t L p - p) p 0) := x.1
  rw [e]
  omega
theorem rx_in {t : Nat → Int} {L p : Nat} (hp : p ≤ L) : rd_e t L p ≤ rd_x t L p ∧ rd_x t L p ≤ L ∧ (rd_x t L p < L → ¬ t (rd_x t L p) = 32) := nbk_in (t := t) (L := L) (L - rd_e t L p) (rd_e t L p) (by have := (rd_in (t := t) hp).1.2.1; omega)
theorem rnd_in {t : Nat → Int} {L : Nat} : ∀ (k f p : Nat) (v : Nat → Int), f + k = 12 → p ≤ L → (∀ j : Nat, j < f → co_ok (v j)) → ((rnd t L k f p v).1 < 0 ∨ (1 ≤ (rnd t L k f p v).1 ∧ (rnd t L k f p v).1 ≤ 12)) ∧ ∀ j : Nat, (j : Int) < (rnd t L k f p v).1 → co_ok ((rnd t L k f p v).2 j)
  | 0, f, p, v, hk, hp, hv => ⟨Or.inl (by show -20 - (p : Int) < 0; omega), fun j hj => by have : (j : Int) < -20 - (p : Int) := hj; omega⟩
  | k + 1, f, p, v, hk, hp, hv => by
    by_cases h : isd t L p ∧ rd_ok t L f p v
    · have hc := (rd_in (t := t) hp).2
      have hx := rx_in (t := t) hp
      have hv' : ∀ j : Nat, j < f + 1 → co_ok (if j = f then rd_c t L p else v j) := fun j hj => by
        split
        · have := h.2.1
          exact ⟨by omega, by omega⟩
        · exact hv j (by omega)
      by_cases h2 : L ≤ rd_x t L p
      · rw [rn_end h h2]
        refine ⟨Or.inr ?_, fun j hj => hv' j ?_⟩
        · show 1 ≤ (f : Int) + 1 ∧ (f : Int) + 1 ≤ 12; omega
        · have : (j : Int) < (f : Int) + 1 := hj
          omega
      · by_cases h3 : t (rd_x t L p) = 44 ∧ ¬ k = 0
        · rw [rn_go h h2 h3]
          exact rnd_in k (f + 1) _ _ (by omega) (nbk_in (t := t) (L := L) (L - (rd_x t L p + 1)) (rd_x t L p + 1) (by omega)).2.1 hv'
        · rw [rn_bad h h2 h3]
          exact ⟨Or.inl (by show -20 - (rd_x t L p : Int) < 0; omega), fun j hj => by have : (j : Int) < -20 - (rd_x t L p : Int) := hj; omega⟩
    · rw [rn_w h]
      exact ⟨Or.inl (by show -20 - (p : Int) < 0; omega), fun j hj => by have : (j : Int) < -20 - (p : Int) := hj; omega⟩
-- the class
theorem lp_33 {t : Nat → Int} {L : Nat} {b1 : Int} {m : jx_M} {Q : Int → jx_M → Prop} (hT : tp_t t L) (hc : tp_c m t L) :
    ∀ (r i : Nat), i + r = L → Q (nbk t r i : Nat) m → jx_AW 33 2 [some (xA 20 0), some (xI b1), some (xI (i : Int))] [] m Q := by
  have t1 := hT.1
  intro r
  induction r with
  | zero =>
    intro i hi hq
    refine sg_33_2 b1 i m Q ?_
    rw [hc.1]
    refine ⟨by omega, fun z => by omega, fun _ => ⟨by omega, ?_⟩⟩
    rw [show (L : Int) = (i : Int) by omega]
    exact hq
  | succ r ih =>
    intro i hi hq
    refine sg_33_2 b1 i m Q ?_
    rw [hc.1, show ((i : Int)).toNat = i by omega, hc.2 i (by omega)]
    refine ⟨by omega, fun _ => ⟨by omega, by omega, by omega, fun z => ⟨by omega, ih (i + 1) (by omega) ?_⟩, fun z => ?_⟩, fun z => by omega⟩
    · rw [nb_b z] at hq; exact hq
    · rw [nb_e z] at hq; exact hq
theorem cl_33 {t : Nat → Int} {L i : Nat} {m : jx_M} {Q : Int → jx_M → Prop} (hT : tp_t t L) (hc : tp_c m t L) (hi : i ≤ L) (hq : Q (nbk t (L - i) i : Nat) m) : jx_Cl 33 [xA 20 0, xI (i : Int)] m Q :=
  sg_33 i m Q (lp_33 hT hc (L - i) i (by omega) hq)
theorem lp_34 {t : Nat → Int} {L : Nat} {b1 : Int} {m : jx_M} {Q : Int → jx_M → Prop} (hT : tp_t t L) (hc : tp_c m t L) :
    ∀ (r i : Nat), i + r = L → Q (dge t r i : Nat) m → jx_AW 34 2 [some (xA 20 0), some (xI b1), some (xI (i : Int))] [] m Q := by
  have t1 := hT.1
  intro r
  induction r with
  | zero =>
    intro i hi hq
    refine sg_34_2 b1 i m Q ?_
    rw [hc.1]
    refine ⟨by omega, fun z => by omega, fun _ => ⟨by omega, ?_⟩⟩
    rw [show (L : Int) = (i : Int) by omega]
    exact hq
  | succ r ih =>
    intro i hi hq
    refine sg_34_2 b1 i m Q ?_
    rw [hc.1]
    refine ⟨by omega, fun _ => ⟨by omega, cl_28 hT hc (fun g => ⟨fun z => by omega, fun _ => ⟨by omega, ih (i + 1) (by omega) ?_⟩⟩) (fun g => ⟨fun _ => ?_, fun z => by omega⟩)⟩, fun z => by omega⟩
    · rw [dge_d g.2] at hq; exact hq
    · rw [dge_e (fun z => g ⟨by omega, z⟩)] at hq; exact hq
theorem cl_34 {t : Nat → Int} {L i : Nat} {m : jx_M} {Q : Int → jx_M → Prop} (hT : tp_t t L) (hc : tp_c m t L) (hi : i ≤ L) (hq : Q (rd_e t L i : Nat) m) : jx_Cl 34 [xA 20 0, xI (i : Int)] m Q :=
  sg_34 i m Q (lp_34 hT hc (L - i) i (by omega) hq)
theorem lp_35 {t : Nat → Int} {L e : Nat} {b1 : Int} {m : jx_M} {Q : Int → jx_M → Prop} (hT : tp_t t L) (hc : tp_c m t L) (he : e ≤ L) :
    ∀ (r i : Nat) (c : Int), i + r = e → 0 ≤ c ∧ c ≤ 25 → (∀ j : Nat, i ≤ j → j < e → 48 ≤ t j ∧ t j ≤ 57) → Q (cnum t r i c) m → jx_AW 35 4 [some (xA 20 0), some (xI b1), some (xI (e : Int)), some (xI c), some (xI (i : Int))] [] m Q := by
  have t1 := hT.1
  intro r
  induction r with
  | zero =>
    intro i c hi hcc h hq
    exact sg_35_4 b1 e c i m Q ⟨fun z => by omega, fun _ => hq⟩
  | succ r ih =>
    intro i c hi hcc h hq
    have ti := h i (by omega) (by omega)
    refine sg_35_4 b1 e c i m Q ⟨fun _ => ?_, fun z => by omega⟩
    rw [show ((i : Int)).toNat = i by omega, hc.2 i (by omega)]
    exact ⟨by omega, by omega, by omega, by omega, by omega, by omega, by omega, ih (i + 1) _ (by omega) (by omega) (fun j h1 h2 => h j (by omega) h2) hq⟩
theorem cl_35 {t : Nat → Int} {L p : Nat} {m : jx_M} {Q : Int → jx_M → Prop} (hT : tp_t t L) (hc : tp_c m t L) (hp : p ≤ L) (hq : Q (rd_c t L p) m) : jx_Cl 35 [xA 20 0, xI (p : Int), xI (rd_e t L p : Nat)] m Q := by
  obtain ⟨⟨a, b, c⟩, -⟩ := rd_in (t := t) hp
  exact sg_35 p _ m Q (lp_35 hT hc b (rd_e t L p - p) p 0 (by omega) (by omega) c hq)
theorem lp_31 {t : Nat → Int} {L : Nat} {m : jx_M} {Q : Int → jx_M → Prop} (hT : tp_t t L) (hc : tp_c m t L) :
    ∀ (k f p : Nat) (v : Nat → Int) (m1 : jx_M) (w5 w6 : Option jx_V), f + k = 12 → p ≤ L → (∀ s i j, ¬ (s = 25 ∧ i = 0) → m1 s i j = m s i j) → (∀ j : Nat, j < f → m1 25 0 j = v j ∧ co_ok (v j)) → (∀ m2, (∀ s i j, ¬ (s = 25 ∧ i = 0) → m2 s i j = m s i j) → (∀ j : Nat, (j : Int) < (rnd t L k f p v).1 → m2 25 0 j = (rnd t L k f p v).2 j) → Q (rnd t L k f p v).1 m2) → jx_AW 31 11 [some (xA 20 0), some (xA 25 0), some (xI 12), some (xI (p : Int)), some (xI (f : Int)), w5, w6] [] m1 Q := by
  have t1 := hT.1
  intro k
  induction k with
  | zero =>
    intro f p v m1 w5 w6 hk hp hfr h K
    exact sg_31_DRAFT_11 12 p f w5 w6 m1 Q ⟨fun z => by omega, fun _ => ⟨by omega, K m1 hfr (fun j hj => by have : (j : Int) < -20 - (p : Int) := hj; omega)⟩⟩
  | succ k ih =>
    intro f p v m1 w5 w6 hk hp hfr h K
    have tc : tp_c m1 t L := ⟨(hfr 20 0 1 (by omega)).trans hc.1, fun j hj => (hfr 21 0 j (by omega)).trans (hc.2 j hj)⟩
    obtain ⟨⟨e1, e2, e3⟩, c1, c2⟩ := rd_in (t := t) hp
    obtain ⟨x1, x2, x3⟩ := rx_in (t := t) hp
    have bad : ¬ (isd t L p ∧ rd_ok t L f p v) → Q (-20 - (p : Int)) m1 := fun q => by
      have k9 := K m1 hfr
      rw [rn_w q] at k9
      exact k9 (fun j hj => by have : (j : Int) < -20 - (p : Int) := hj; omega)
    -- behind a corner that stands
    have tail : isd t L p ∧ rd_ok t L f p v → ∀ w5 w6 : Option jx_V, jx_Cl 33 [xA 20 0, xI (rd_e t L p : Nat)] (jx_up m1 25 0 f (rd_c t L p)) (fun z6 m6 =>
                          ((0 < 1) ∧
  ((z6 < (m6 20 0 1) →
                            ((0 < 1) ∧
  ((1 = 1 ∧ 0 ≤ z6 ∧ z6 < 60) ∧
  ((0 < 1) ∧
  (((m6 21 0 (z6.toNat)) = 44 →
                              ((jx_in ((12 : Int) - 1)) ∧
  (((f : Int) = ((12 : Int) - 1) →
                                ((jx_in ((-20) - z6)) ∧
  Q ((-20) - z6) m6)) ∧
                                (¬ ((f : Int) = ((12 : Int) - 1)) →
                                ((jx_in (z6 + 1)) ∧
  ((0 < 1) ∧
  jx_Cl 33 [xA 20 0, xI (z6 + 1)] m6 (fun z7 m7 =>
                                  ((jx_in ((f : Int) + 1)) ∧
  jx_AW 31 11 [some (xA 20 0), some (xA 25 0), some (xI 12), some (xI z7), some (xI ((f : Int) + 1)), w5, w6] [] m7 Q)))))))) ∧
                              (¬ ((m6 21 0 (z6.toNat)) = 44) →
                              ((jx_in ((-20) - z6)) ∧
  Q ((-20) - z6) m6))))))) ∧
                            (¬ (z6 < (m6 20 0 1)) →
                            ((jx_in ((f : Int) + 1)) ∧
  Q ((f : Int) + 1) m6))))) := fun hok w5 w6 => by
      have tc2 : tp_c (jx_up m1 25 0 f (rd_c t L p)) t L := tc
      have fr2 : ∀ s i j, ¬ (s = 25 ∧ i = 0) → (jx_up m1 25 0 f (rd_c t L p)) s i j = m s i j := fun s i j hn => by rw [up_ne (fun z => hn ⟨z.1, z.2.1⟩)]; exact hfr s i j hn
      have v2 : ∀ j : Nat, j < f + 1 → (jx_up m1 25 0 f (rd_c t L p)) 25 0 j = (if j = f then rd_c t L p else v j) ∧ co_ok (if j = f then rd_c t L p else v j) := fun j hj => by
        rcases Nat.decEq j f with q | q
        · rw [if_neg q, up_ne (by omega)]; exact h j (by omega)
        · subst q
          rw [if_pos rfl, up_eq]
          have := hok.2.1
          exact ⟨rfl, by omega, by omega⟩
      refine cl_33 hT tc2 e2 ?_
      have e20 : (jx_up m1 25 0 f (rd_c t L p)) 20 0 1 = (L : Int) := tc2.1
      rw [show nbk t (L - rd_e t L p) (rd_e t L p) = rd_x t L p from rfl, e20, show ((rd_x t L p : Nat) : Int).toNat = rd_x t L p by omega]
      have nbad : ¬ L ≤ rd_x t L p → ¬ (t (rd_x t L p) = 44 ∧ ¬ k = 0) → Q (-20 - (rd_x t L p : Int)) (jx_up m1 25 0 f (rd_c t L p)) := fun q1 q2 => by
        have k9 := K _ fr2
        rw [rn_bad hok q1 q2] at k9
        exact k9 (fun j hj => by have : (j : Int) < -20 - (rd_x t L p : Int) := hj; omega)
      refine ⟨by omega, fun z => ?_, fun z => ⟨by omega, ?_⟩⟩
      · have ex : (jx_up m1 25 0 f (rd_c t L p)) 21 0 (rd_x t L p) = t (rd_x t L p) := tc2.2 _ (by omega)
        rw [ex]
        refine ⟨by omega, by omega, by omega, fun z2 => ⟨by omega, fun z3 => ⟨by omega, nbad (by omega) (by omega)⟩, fun z3 => ⟨by omega, by omega, ?_⟩⟩, fun z2 => ⟨by omega, nbad (by omega) (by omega)⟩⟩
        rw [show ((rd_x t L p : Nat) : Int) + 1 = ((rd_x t L p + 1 : Nat) : Int) by omega]
        refine cl_33 hT tc2 (by omega) ⟨by omega, ?_⟩
        rw [rn_go hok (by omega) ⟨z2, by omega⟩] at K
        exact ih (f + 1) _ _ _ w5 w6 (by omega) (nbk_in (t := t) (L := L) (L - (rd_x t L p + 1)) (rd_x t L p + 1) (by omega)).2.1 fr2 v2 K
      · have k9 := K _ fr2
        rw [rn_end hok (by omega)] at k9
        exact k9 (fun j hj => (v2 j (by have : (j : Int) < (f : Int) + 1 := hj; omega)).1)
    refine sg_31_DRAFT_11 12 p f w5 w6 m1 Q ⟨fun _ => ⟨by omega, cl_28 hT tc (fun g => ⟨fun z => by omega, fun _ => ⟨by omega, cl_34 hT tc hp ⟨by omega, cl_35 hT tc hp (cl_11 (fun g2 => ⟨fun z => by omega, fun _ => ?_⟩) (fun g2 => ⟨fun _ => ⟨by omega, bad (fun q => by have := q.2.1; omega)⟩, fun z => by omega⟩))⟩⟩⟩) (fun g => ⟨fun _ => ⟨by omega, bad (fun q => g q.1)⟩, fun z => by omega⟩)⟩, fun z => by omega⟩
    rw [show ((f : Int)).toNat = f by omega]
    refine ⟨fun z => ?_, fun z => ⟨by omega, by omega, by omega, tail ⟨g, by omega, Or.inl (by omega)⟩ _ _⟩⟩
    rw [show ((f : Int) - 1).toNat = f - 1 by omega, (h (f - 1) (by omega)).1]
    have hv := (h (f - 1) (by omega)).2
    refine ⟨by omega, by omega, by omega, cl_36 ⟨hv.1, by have := hv.2; omega⟩ (by omega) ⟨fun z2 => ⟨by omega, bad (fun q => ?_)⟩, fun z2 => ⟨by omega, by omega, by omega, tail ⟨g, by omega, Or.inr (by omega)⟩ _ _⟩⟩⟩
    rcases q.2.2 with q | q
    · omega
    · omega
noncomputable abbrev rns (t : Nat → Int) (L : Nat) : Int × (Nat → Int) := rnd t L 12 0 (nbk t L 0) (fun _ => 0)
theorem rns_in {t : Nat → Int} {L : Nat} : ((rns t L).1 < 0 ∨ (1 ≤ (rns t L).1 ∧ (rns t L).1 ≤ 12)) ∧ ∀ j : Nat, (j : Int) < (rns t L).1 → co_ok ((rns t L).2 j) :=
  rnd_in 12 0 _ _ (by omega) (nbk_in (t := t) (L := L) L 0 (by omega)).2.1 (fun j hj => by omega)
theorem cl_31 {t : Nat → Int} {L : Nat} {m : jx_M} {Q : Int → jx_M → Prop} (hT : tp_t t L) (hc : tp_c m t L) (K : ∀ m2, (∀ s i j, ¬ (s = 25 ∧ i = 0) → m2 s i j = m s i j) → (∀ j : Nat, (j : Int) < (rns t L).1 → m2 25 0 j = (rns t L).2 j) → Q (rns t L).1 m2) : jx_Cl 31 [xA 20 0, xA 25 0] m Q := by
  refine sg_31_DRAFT m Q ⟨rfl, by omega, by omega, cl_33 (i := 0) hT hc (by omega) ?_⟩
  exact lp_31 hT hc 12 0 _ _ m none none (by omega) (nbk_in (t := t) (L := L) L 0 (by omega)).2.1 (fun _ _ _ _ => rfl) (fun j hj => by omega) K
-- the reference
theorem rdA (M : jx_M) (x c : Int) (f : Nat) : jx_up (jx_up M 26 0 14 x) 34 0 f c 26 0 14 = x := rfl
theorem rdB (M : jx_M) (x c : Int) (f : Nat) : jx_up (jx_up M 26 0 14 x) 34 0 f c 26 0 13 = M 26 0 13 := rfl
def frc (f : Nat) (m m' : jx_M) : Prop := ∀ s i j, ¬ ((s = 34 ∧ i = 0 ∧ j = f) ∨ (s = 26 ∧ i = 0 ∧ (j = 13 ∨ j = 14))) → m' s i j = m s i j
theorem lp_137 {t : Nat → Int} {L f p : Nat} {v : Nat → Int} {m : jx_M} {Q : Int → jx_M → Prop} (hT : tp_t t L) (hm : tp_m m t L) (hf : f < 12) (hp : p ≤ L) (hv : ∀ j : Nat, j < f → m 34 0 j = v j ∧ co_ok (v j))
    (kw : ∀ c : Int, (24 < c ∨ (0 < f ∧ 1 < sp_far c (v (f - 1)))) → c = rnum t (rd_e t L p - p) p 0 → ∀ m2, frc f m m2 → m2 26 0 13 = (p : Int) → m2 26 0 14 = 1 → Q 0 m2)
    (ko : ∀ c : Int, ¬ (24 < c ∨ (0 < f ∧ 1 < sp_far c (v (f - 1)))) → c = rnum t (rd_e t L p - p) p 0 → ∀ m2, frc f m m2 → m2 26 0 13 = (rd_e t L p : Nat) → m2 26 0 14 = 0 → m2 34 0 f = c → Q 0 m2) :
    ∀ (r i : Nat) (c : Int) (m1 : jx_M), i + r = L → 0 ≤ c ∧ c ≤ 9999 → p ≤ i → dge t r i = rd_e t L p → rnum t (rd_e t L p - i) i c = rnum t (rd_e t L p - p) p 0 → (∀ s i j, ¬ (s = 26 ∧ i = 0 ∧ j = 13) → m1 s i j = m s i j) → m1 26 0 13 = (i : Int) → jx_AW 137 12 [some (xA 26 0), some (xI (f : Int)), some (xI (p : Int)), some (xI c)] [] m1 Q := by
  have t1 := hT.1
  -- the end
  have ex : ∀ (i : Nat) (c : Int) (m1 : jx_M), 0 ≤ c ∧ c ≤ 9999 → i = rd_e t L p → c = rnum t (rd_e t L p - p) p 0 → (∀ s i j, ¬ (s = 26 ∧ i = 0 ∧ j = 13) → m1 s i j = m s i j) → m1 26 0 13 = (i : Int) → ((24 < c ∨ (0 < f ∧ 1 < sp_far c (v (f - 1)))) → Q 0 (jx_up (jx_up (jx_up m1 26 0 14 1) 34 0 f c) 26 0 13 (p : Int))) ∧ (¬ (24 < c ∨ (0 < f ∧ 1 < sp_far c (v (f - 1)))) → Q 0 (jx_up (jx_up (jx_up m1 26 0 14 0) 34 0 f c) 26 0 13 (m1 26 0 13))) := fun i c m1 hc hi hcc hfr h13 => by
    refine ⟨fun z => kw c z hcc _ (fun s i j hn => ?_) up_eq rfl, fun z => ko c z hcc _ (fun s i j hn => ?_) ?_ rfl ?_⟩
    · rw [up_ne (by omega), up_ne (by omega), up_ne (by omega)]; exact hfr s i j (by omega)
    · rw [up_ne (by omega), up_ne (by omega), up_ne (by omega)]; exact hfr s i j (by omega)
    · rw [up_eq, h13, hi]
    · rw [up_ne (by omega), up_eq]
  intro r
  induction r with
  | zero =>
    intro i c m1 hi hc hpi hd hn hfr h13
    have hd : i = rd_e t L p := hd
    have hcc : c = rnum t (rd_e t L p - p) p 0 := by
      rw [← hn, ← hd, Nat.sub_self]; rfl
    obtain ⟨E1, E2⟩ := ex i c m1 hc hd hcc hfr h13
    have h12 : m1 26 0 12 = (L : Int) := (hfr 26 0 12 (by omega)).trans hm.1
    have hpr : 0 < f → m1 34 0 (((f : Int) - 1).toNat) = v (f - 1) ∧ co_ok (v (f - 1)) := fun z => by
      rw [show ((f : Int) - 1).toNat = f - 1 by omega, hfr 34 0 _ (by omega)]; exact hv _ (by omega)
    refine sg_137_12 f p c m1 Q ?_
    rw [show ((f : Int)).toNat = f by omega]
    simp only [rdA, rdB]
    refine ⟨by first | exact trivial | omega, by first | exact trivial | omega, fun z => by omega, fun _ => ?_⟩
    by_cases hf0 : 0 < f
    · obtain ⟨q1, q2, q3⟩ := hpr hf0
      rw [q1]
      repeat' (first | exact trivial | omega | exact absurd trivial (by assumption) | exact Or.inl trivial | exact Or.inr trivial | exact E1 (by omega) | exact E2 (by omega) | refine cl_138 (by omega) (by omega) ?_ | apply And.intro | intro _)
    · repeat' (first | exact trivial | omega | exact absurd trivial (by assumption) | exact Or.inl trivial | exact Or.inr trivial | exact E1 (by omega) | exact E2 (by omega) | apply And.intro | intro _)
  | succ r ih =>
    intro i c m1 hi hc hpi hd hn hfr h13
    have h12 : m1 26 0 12 = (L : Int) := (hfr 26 0 12 (by omega)).trans hm.1
    have hti : m1 33 0 i = t i := (hfr 33 0 i (by omega)).trans (hm.2 i (by omega))
    have tb := hT.2 i (by omega)
    have hpr : 0 < f → m1 34 0 (((f : Int) - 1).toNat) = v (f - 1) ∧ co_ok (v (f - 1)) := fun z => by
      rw [show ((f : Int) - 1).toNat = f - 1 by omega, hfr 34 0 _ (by omega)]; exact hv _ (by omega)
    refine sg_137_12 f p c m1 Q ?_
    rw [h13, h12, show ((i : Int)).toNat = i by omega, hti]
    refine ⟨by omega, by omega, fun _ => ⟨by omega, by omega, by omega, by omega, cl_125 (fun g => ?_) (fun g => ?_)⟩, fun z => by omega⟩
    · rw [dge_d g] at hd
      have le := (dge_in (t := t) (L := L) r (i + 1) (by omega)).1
      have es : rd_e t L p - i = (rd_e t L p - (i + 1)) + 1 := by omega
      rw [es] at hn
      have hn : rnum t (rd_e t L p - (i + 1)) (i + 1) (if 999 < c then c else 10 * c + t i - 48) = rnum t (rd_e t L p - p) p 0 := hn
      have nx : ∀ c2 : Int, c2 = (if 999 < c then c else 10 * c + t i - 48) → jx_AW 137 12 [some (xA 26 0), some (xI (f : Int)), some (xI (p : Int)), some (xI c2)] [] (jx_up m1 26 0 13 ((i : Int) + 1)) Q := fun c2 hc2 => by
        subst hc2
        exact ih (i + 1) _ _ (by omega) (by split <;> omega) (by omega) hd hn (fun s i j hn => by rw [up_ne hn]; exact hfr s i j hn) up_eq
      rw [h13, show ((i : Int)).toNat = i by omega, hti]
      refine ⟨fun z => by omega, fun _ => ⟨fun z => ⟨by omega, by omega, by omega, nx c (by rw [if_pos z])⟩, fun z => ⟨by omega, by omega, by omega, by omega, by omega, by omega, by omega, by omega, by omega, by omega, nx _ (by rw [if_neg z])⟩⟩⟩
    · rw [dge_e g] at hd
      have hcc : c = rnum t (rd_e t L p - p) p 0 := by
        rw [← hn, ← hd, Nat.sub_self]; rfl
      obtain ⟨E1, E2⟩ := ex i c m1 hc hd hcc hfr h13
      rw [show ((f : Int)).toNat = f by omega]
      refine ⟨fun _ => ?_, fun z => by omega⟩
      simp only [rdA, rdB]
      by_cases hf0 : 0 < f
      · obtain ⟨q1, q2, q3⟩ := hpr hf0
        rw [q1]
        repeat' (first | exact trivial | omega | exact absurd trivial (by assumption) | exact Or.inl trivial | exact Or.inr trivial | exact E1 (by omega) | exact E2 (by omega) | refine cl_138 (by omega) (by omega) ?_ | apply And.intro | intro _)
      · repeat' (first | exact trivial | omega | exact absurd trivial (by assumption) | exact Or.inl trivial | exact Or.inr trivial | exact E1 (by omega) | exact E2 (by omega) | apply And.intro | intro _)
theorem cl_137 {t : Nat → Int} {L f i : Nat} {v : Nat → Int} {m : jx_M} {Q : Int → jx_M → Prop} (hT : tp_t t L) (hm : tp_m m t L) (hf : f < 12) (hi : i ≤ L) (h13 : m 26 0 13 = (i : Int)) (hv : ∀ j : Nat, j < f → m 34 0 j = v j ∧ co_ok (v j))
    (kw : ¬ (isd t L (nbk t (L - i) i) ∧ rd_ok t L f (nbk t (L - i) i) v) → ∀ m2, frc f m m2 → m2 26 0 13 = (nbk t (L - i) i : Nat) → m2 26 0 14 = 1 → Q 0 m2)
    (ko : isd t L (nbk t (L - i) i) ∧ rd_ok t L f (nbk t (L - i) i) v → ∀ m2, frc f m m2 → m2 26 0 13 = (rd_e t L (nbk t (L - i) i) : Nat) → m2 26 0 14 = 0 → m2 34 0 f = rd_c t L (nbk t (L - i) i) → Q 0 m2) : jx_Cl 137 [xA 26 0, xI (f : Int)] m Q := by
  obtain ⟨n1, n2, n3⟩ := nbk_in (t := t) (L := L) (L - i) i (by omega)
  refine sg_137 f m Q ⟨by omega, cl_134 (i := i) (r := L - i) hT (by omega) h13 hm (fun g => ?_) (fun g => ?_)⟩
  · generalize nbk t (L - i) i = p at *
    obtain ⟨⟨e1, e2, e3⟩, c1, c2⟩ := rd_in (t := t) n2
    have ne := num_eq (t := t) (rd_e t L p - p) p 0 (by omega) (fun j h1 h2 => e3 j h1 (by omega))
    have ec : rd_c t L p = min 25 (rnum t (rd_e t L p - p) p 0) := ne.1
    rw [show (jx_up m 26 0 13 (p : Int)) 26 0 13 = (p : Int) from up_eq]
    have fr0 : ∀ m2, frc f (jx_up m 26 0 13 (p : Int)) m2 → frc f m m2 := fun m2 h s i j hn => by rw [h s i j hn, up_ne (by omega)]
    refine ⟨fun z => by omega, fun _ => ⟨by omega, lp_137 (v := v) (p := p) (m := jx_up m 26 0 13 (p : Int)) hT hm hf n2 hv (fun c z hc m2 f2 a b => kw (fun q => ?_) m2 (fr0 m2 f2) a b) (fun c z hc m2 f2 a b e => ko ⟨g, ?_⟩ m2 (fr0 m2 f2) a b ?_) (L - p) p 0 _ (by omega) (by omega) (by omega) rfl rfl (fun _ _ _ _ => rfl) up_eq⟩⟩
    · have o1 := q.2.1
      rcases z with z | ⟨z, z2⟩
      · omega
      · rcases q.2.2 with o2 | o2
        · omega
        · rw [sp_far_sym, show c = rd_c t L p by omega] at z2
          omega
    · refine ⟨by omega, ?_⟩
      rcases Nat.eq_zero_or_pos f with o | o
      · exact Or.inl o
      · right
        rw [sp_far_sym, show rd_c t L p = c by omega]
        omega
    · rw [e]; omega
  · exact ⟨fun _ => ⟨by omega, by omega, kw (fun q => g q.1) _ (fun s i j hn => by rw [up_ne (by omega), up_ne (by omega)]) rfl rfl⟩, fun z => by omega⟩
theorem lp_136_78 {a b3 : Int} {n : Nat} {v : Nat → Int} {m : jx_M} {Q : Int → jx_M → Prop} (ha : 0 ≤ a ∧ a < 6) (hn : n ≤ 12) (hv : ∀ j : Nat, j < n → m 34 0 j = v j) (K : ∀ m2, (∀ s i j, ¬ (s = 29 ∧ i = 0 ∧ 13 * a.toNat + 1 ≤ j ∧ j < 13 * a.toNat + 1 + n) → m2 s i j = m s i j) → (∀ j : Nat, j < n → m2 29 0 (13 * a.toNat + 1 + j) = v j) → Q (n : Int) m2) :
    ∀ (r k : Nat) (m1 : jx_M), k + r = n → (∀ s i j, ¬ (s = 29 ∧ i = 0 ∧ 13 * a.toNat + 1 ≤ j ∧ j < 13 * a.toNat + 1 + n) → m1 s i j = m s i j) → (∀ j : Nat, j < k → m1 29 0 (13 * a.toNat + 1 + j) = v j) → jx_AW 136 78 [some (xA 26 0), some (xI a), some (xI (n : Int)), some (xI b3), some (xI (k : Int))] [] m1 Q := by
  intro r
  induction r with
  | zero =>
    intro k m1 hk hf h
    exact sg_136_78 a n b3 k m1 Q ⟨fun z => by omega, fun _ => K m1 hf (fun j hj => h j (by omega))⟩
  | succ r ih =>
    intro k m1 hk hf h
    refine sg_136_78 a n b3 k m1 Q ⟨fun _ => ?_, fun z => by omega⟩
    rw [show (13 * a + 1 + (k : Int)).toNat = 13 * a.toNat + 1 + k by omega, show ((k : Int)).toNat = k by omega, show m1 34 0 k = v k from (hf 34 0 k (by omega)).trans (hv k (by omega))]
    refine ⟨by omega, by omega, by omega, by omega, by omega, by omega, by omega, by omega, by omega, by omega, ih (k + 1) _ (by omega) (fun s i j hn => ?_) (fun j hj => ?_)⟩
    · rw [up_ne (by omega)]; exact hf s i j hn
    · rcases Nat.decEq j k with q | q
      · rw [up_ne (by omega)]; exact h j (by omega)
      · subst q; exact up_eq
def fry (o : Nat) (m m' : jx_M) : Prop := ∀ s i j, ¬ (s = 34 ∨ (s = 26 ∧ i = 0 ∧ (j = 12 ∨ j = 13 ∨ j = 14)) ∨ (s = 29 ∧ i = 0 ∧ 13 * o ≤ j ∧ j < 13 * o + 13)) → m' s i j = m s i j
/-- it was wrong -/
theorem ex_w {a n : Int} {p : Nat} {w4 : Option jx_V} {m m1 : jx_M} {Q : Int → jx_M → Prop} (hf : frm m m1) (hp : p ≤ 60) (h13 : m1 26 0 13 = (p : Int)) (h14 : m1 26 0 14 = 1) (K : ∀ m2, frm m m2 → m2 26 0 12 = 0 → Q (-20 - (p : Int)) m2) : jx_AW 136 16 [some (xA 26 0), some (xI a), some (xI n), some (xI 0), w4] [] m1 Q := by
  have k := K (jx_up (jx_up m1 26 0 14 1) 26 0 12 0) (fun s i j hn => by rw [up_ne (by omega), up_ne (by omega)]; exact hf s i j hn) rfl
  refine sg_136_16 a n 0 w4 m1 Q ⟨fun _ => ?_, fun z => by omega⟩
  rw [rd14 _ 1, rd13 _ 1, h13, h14]
  exact ⟨by omega, fun z => by omega, fun _ => ⟨by omega, by omega, by omega, by omega, fun z => by omega, fun _ => ⟨by omega, by omega, k⟩⟩⟩
/-- it was right so far -/
theorem ex_n {t : Nat → Int} {L : Nat} {a : Int} {n i : Nat} {w4 : Option jx_V} {v : Nat → Int} {m m1 : jx_M} {Q : Int → jx_M → Prop} (hT : tp_t t L) (hm : tp_m m1 t L) (ha : 0 ≤ a ∧ a < 6) (hn : n ≤ 12) (hf : frm m m1) (hi : i ≤ L) (h13 : m1 26 0 13 = (i : Int)) (h14 : m1 26 0 14 = 0) (hv : ∀ j : Nat, j < n → m1 34 0 j = v j)
    (kb : nbk t (L - i) i < L → ∀ m2, frm m m2 → m2 26 0 12 = 0 → Q (-20 - (nbk t (L - i) i : Nat)) m2)
    (ky : L ≤ nbk t (L - i) i → ∀ m2, fry a.toNat m m2 → m2 26 0 12 = 0 → m2 29 0 (13 * a.toNat) = (n : Int) → (∀ j : Nat, j < n → m2 29 0 (13 * a.toNat + 1 + j) = v j) → Q (n : Int) m2) : jx_AW 136 16 [some (xA 26 0), some (xI a), some (xI (n : Int)), some (xI 0), w4] [] m1 Q := by
  obtain ⟨n1, n2, n3⟩ := nbk_in (t := t) (L := L) (L - i) i (by omega)
  have t1 := hT.1
  refine sg_136_16 a n 0 w4 m1 Q ⟨fun _ => ?_, fun z => by omega⟩
  refine ⟨by omega, fun _ => ⟨by omega, cl_135 (i := i) (r := L - i) hT (by omega) h13 hm ?_⟩, fun z => absurd h14 z⟩
  generalize nbk t (L - i) i = p at *
  have aM : (jx_up m1 26 0 13 (p : Int)) 26 0 13 = (p : Int) := up_eq
  rw [rd14 _ 0, rd14 _ 1, rd13 _ 0, rd13 _ 1, aM]
  have fM : ∀ x : Int, frm m (jx_up (jx_up (jx_up m1 26 0 13 (p : Int)) 26 0 14 x) 26 0 12 0) := fun x s i j hn => by rw [up_ne (by omega), up_ne (by omega), up_ne (by omega)]; exact hf s i j hn
  unfold hre
  by_cases hp : p < L
  · have tp := (hT.2 p hp).1
    rw [if_pos hp]
    exact ⟨fun z => by omega, fun _ => ⟨by omega, by omega, by omega, by omega, fun z => by omega, fun _ => ⟨by omega, by omega, kb hp _ (fM 1) rfl⟩⟩⟩
  · rw [if_neg hp]
    refine ⟨fun _ => ⟨by omega, by omega, by omega, by omega, fun _ => ⟨by omega, by omega, by omega, by omega, ?_⟩, fun z => by omega⟩, fun z => by omega⟩
    rw [show (13 * a).toNat = 13 * a.toNat by omega]
    refine lp_136_78 (v := v) ha hn (fun j hj => ?_) (fun m2 f2 g2 => ky (by omega) m2 (fun s i j hn' => ?_) ?_ ?_ g2) n 0 _ (by omega) (fun _ _ _ _ => rfl) (fun j hj => by omega)
    · exact hv j hj
    · rw [f2 s i j (by omega), up_ne (by omega)]; exact fM 0 s i j (by omega)
    · rw [f2 26 0 12 (by omega)]; rfl
    · rw [f2 29 0 _ (by omega), up_eq]
theorem lp_136 {t : Nat → Int} {L : Nat} {a : Int} {m : jx_M} {Q : Int → jx_M → Prop} (hT : tp_t t L) (ha : 0 ≤ a ∧ a < 6) :
    ∀ (k f i : Nat) (v : Nat → Int) (m1 : jx_M) (w4 : Option jx_V), f + k = 11 → i ≤ L → frm m m1 → tp_m m1 t L → m1 26 0 13 = (i : Int) → (∀ j : Nat, j < f → m1 34 0 j = v j ∧ co_ok (v j)) →
      (∀ m2, (rnd t L (k + 1) f (nbk t (L - i) i) v).1 < 0 → frm m m2 → m2 26 0 12 = 0 → Q (rnd t L (k + 1) f (nbk t (L - i) i) v).1 m2) →
      (∀ m2, ¬ (rnd t L (k + 1) f (nbk t (L - i) i) v).1 < 0 → fry a.toNat m m2 → m2 26 0 12 = 0 → m2 29 0 (13 * a.toNat) = (rnd t L (k + 1) f (nbk t (L - i) i) v).1 → (∀ j : Nat, (j : Int) < (rnd t L (k + 1) f (nbk t (L - i) i) v).1 → m2 29 0 (13 * a.toNat + 1 + j) = (rnd t L (k + 1) f (nbk t (L - i) i) v).2 j) → Q (rnd t L (k + 1) f (nbk t (L - i) i) v).1 m2) →
      jx_AW 136 16 [some (xA 26 0), some (xI a), some (xI (f : Int)), some (xI 1), w4] [] m1 Q := by
  have t1 := hT.1
  intro k
  induction k with
  | zero =>
    intro f i v m1 w4 hk hi hfr hm h13 hv KN KY
    obtain ⟨n1, n2, n3⟩ := nbk_in (t := t) (L := L) (L - i) i (by omega)
    refine sg_136_16 a f 1 w4 m1 Q ⟨fun z => by omega, fun _ => ⟨by omega, cl_137 hT hm (by omega) hi h13 hv (fun hw m2 f2 b1 b2 => ?_) (fun hok m2 f2 b1 b2 b3 => ?_)⟩⟩
    · have fr2 : frm m m2 := fun s i j hn => (f2 s i j (by omega)).trans (hfr s i j hn)
      generalize nbk t (L - i) i = p at *
      rw [rn_w hw] at KN
      rw [b2, b1, Int.add_zero, show jx_up m2 26 0 13 (p : Int) = m2 by rw [← b1]; exact up_self]
      exact ⟨by omega, by omega, fun z => by omega, fun _ => ⟨by omega, fun _ => ⟨by omega, by omega, ex_w fr2 (by omega) b1 b2 (fun m3 f3 l3 => KN m3 (by show -20 - (p : Int) < 0; omega) f3 l3)⟩, fun z => by omega⟩⟩
    · have fr2 : frm m m2 := fun s i j hn => (f2 s i j (by omega)).trans (hfr s i j hn)
      have tm2 : tp_m m2 t L := ⟨(f2 26 0 12 (by omega)).trans hm.1, fun j hj => (f2 33 0 j (by omega)).trans (hm.2 j hj)⟩
      generalize nbk t (L - i) i = p at *
      obtain ⟨⟨e1, e2, e3⟩, c1, c2⟩ := rd_in (t := t) n2
      have vv : ∀ j : Nat, j < f + 1 → m2 34 0 j = (if j = f then rd_c t L p else v j) := fun j hj => by
        rcases Nat.decEq j f with q | q
        · rw [if_neg q, f2 34 0 j (by omega)]; exact (hv j (by omega)).1
        · subst q; rw [if_pos rfl]; exact b3
      rw [b2, b1, Int.add_zero, show jx_up m2 26 0 13 (rd_e t L p : Nat) = m2 by rw [← b1]; exact up_self]
      refine ⟨by omega, by omega, fun _ => ⟨fun z => by omega, fun _ => ⟨by omega, fun _ => ⟨by omega, by omega, ?_⟩, fun z => by omega⟩⟩, fun z => absurd rfl z⟩
      rw [show (f : Int) + 1 = ((f + 1 : Nat) : Int) by omega]
      refine ex_n (v := fun j => if j = f then rd_c t L p else v j) hT tm2 ha (by omega) fr2 e2 b1 b2 vv (fun hx m3 f3 l3 => ?_) (fun hx m3 f3 l3 g3 h3 => ?_)
      · rw [rn_bad hok (show ¬ L ≤ rd_x t L p by have : rd_x t L p < L := hx; omega) (by omega)] at KN
        exact KN m3 (by show -20 - (rd_x t L p : Int) < 0; omega) f3 l3
      · rw [rn_end hok hx] at KY
        exact KY m3 (by show ¬ (f : Int) + 1 < 0; omega) f3 l3 g3 (fun j hj => h3 j (by have : (j : Int) < (f : Int) + 1 := hj; omega))
  | succ k ih =>
    intro f i v m1 w4 hk hi hfr hm h13 hv KN KY
    obtain ⟨n1, n2, n3⟩ := nbk_in (t := t) (L := L) (L - i) i (by omega)
    refine sg_136_16 a f 1 w4 m1 Q ⟨fun z => by omega, fun _ => ⟨by omega, cl_137 hT hm (by omega) hi h13 hv (fun hw m2 f2 b1 b2 => ?_) (fun hok m2 f2 b1 b2 b3 => ?_)⟩⟩
    · have fr2 : frm m m2 := fun s i j hn => (f2 s i j (by omega)).trans (hfr s i j hn)
      generalize nbk t (L - i) i = p at *
      rw [rn_w hw] at KN
      rw [b2, b1, Int.add_zero, show jx_up m2 26 0 13 (p : Int) = m2 by rw [← b1]; exact up_self]
      exact ⟨by omega, by omega, fun z => by omega, fun _ => ⟨by omega, fun _ => ⟨by omega, by omega, ex_w fr2 (by omega) b1 b2 (fun m3 f3 l3 => KN m3 (by show -20 - (p : Int) < 0; omega) f3 l3)⟩, fun z => by omega⟩⟩
    · have fr2 : frm m m2 := fun s i j hn => (f2 s i j (by omega)).trans (hfr s i j hn)
      have tm2 : tp_m m2 t L := ⟨(f2 26 0 12 (by omega)).trans hm.1, fun j hj => (f2 33 0 j (by omega)).trans (hm.2 j hj)⟩
      generalize nbk t (L - i) i = p at *
      obtain ⟨⟨e1, e2, e3⟩, c1, c2⟩ := rd_in (t := t) n2
      obtain ⟨x1, x2, x3⟩ := rx_in (t := t) n2
      have vv : ∀ j : Nat, j < f + 1 → m2 34 0 j = (if j = f then rd_c t L p else v j) ∧ co_ok (if j = f then rd_c t L p else v j) := fun j hj => by
        rcases Nat.decEq j f with q | q
        · rw [if_neg q, f2 34 0 j (by omega)]; exact hv j (by omega)
        · subst q
          rw [if_pos rfl]
          have := hok.2.1
          exact ⟨b3, by omega, by omega⟩
      rw [b2]
      refine ⟨by omega, by omega, fun _ => ⟨fun _ => ⟨by omega, cl_135 (i := rd_e t L p) (r := L - rd_e t L p) hT (by omega) b1 tm2 ?_⟩, fun z => by omega⟩, fun z => absurd rfl z⟩
      rw [show nbk t (L - rd_e t L p) (rd_e t L p) = rd_x t L p from rfl]
      have aM : (jx_up m2 26 0 13 (rd_x t L p : Nat)) 26 0 13 = (rd_x t L p : Nat) := up_eq
      have fM : frm m (jx_up m2 26 0 13 (rd_x t L p : Nat)) := fun s i j hn => by rw [up_ne (by omega)]; exact fr2 s i j hn
      have tM : tp_m (jx_up m2 26 0 13 (rd_x t L p : Nat)) t L := tm2
      have bM : (jx_up m2 26 0 13 (rd_x t L p : Nat)) 26 0 14 = 0 := b2
      have vM : ∀ j : Nat, j < f + 1 → (jx_up m2 26 0 13 (rd_x t L p : Nat)) 34 0 j = (if j = f then rd_c t L p else v j) ∧ co_ok (if j = f then rd_c t L p else v j) := vv
      have ek : nbk t (L - rd_x t L p) (rd_x t L p) = rd_x t L p := nbk_self (by
        rcases Nat.lt_or_ge (rd_x t L p) L with q | q
        · exact Or.inr (x3 q)
        · left; omega)
      rw [aM, up_up, Int.add_zero, up_up]
      refine ⟨fun z => ⟨by omega, fun z2 => by omega, fun _ => ⟨by omega, by omega, ?_⟩⟩, fun z => ⟨by omega, fun _ => ⟨by omega, by omega, ?_⟩, fun z2 => by omega⟩⟩
      · unfold hre at z
        have hx : rd_x t L p < L := by
          rcases Nat.lt_or_ge (rd_x t L p) L with q | q
          · exact q
          · rw [if_neg (by omega)] at z; omega
        rw [if_pos hx] at z
        rw [rn_go hok (by omega) ⟨z, by omega⟩] at KN KY
        rw [show (f : Int) + 1 = ((f + 1 : Nat) : Int) by omega]
        exact ih (f + 1) (rd_x t L p + 1) _ _ w4 (by omega) (by omega) (fun s i j hn => by rw [up_ne (by omega)]; exact fr2 s i j hn) tm2 (by rw [up_eq]; omega) vv KN KY
      · rw [show (f : Int) + 1 = ((f + 1 : Nat) : Int) by omega]
        refine ex_n (v := fun j => if j = f then rd_c t L p else v j) hT tM ha (by omega) fM x2 aM bM (fun j hj => (vM j hj).1) (fun hx m3 f3 l3 => ?_) (fun hx m3 f3 l3 g3 h3 => ?_)
        · rw [ek] at hx ⊢
          unfold hre at z
          rw [if_pos hx] at z
          rw [rn_bad hok (by omega) (fun q => z q.1)] at KN
          exact KN m3 (by show -20 - (rd_x t L p : Int) < 0; omega) f3 l3
        · rw [ek] at hx
          rw [rn_end hok hx] at KY
          exact KY m3 (by show ¬ (f : Int) + 1 < 0; omega) f3 l3 g3 (fun j hj => h3 j (by have : (j : Int) < (f : Int) + 1 := hj; omega))
theorem pr_5 {a : Int} {m : jx_M} {R : Int → Int → jx_M → Prop} (hI : jv_I m) (K : ∀ z m2, jv_I m2 → fS m m2 → R z z m2) : jx_Cl 30 [xA 0 0, xI a] m (fun z1 m1 => jx_Cl 136 [xA 26 0, xI a] m1 (fun z2 m2 => R z1 z2 m2)) := by
  obtain ⟨d, e, q, hw, hC, hM⟩ := hI
  have kk := fun z => jv_ask (G := R z z m) hw hC hM (fcs_r m) (fms_r m) (K z m)
  have hn := hw.1.2.1
  have en := hC.1.2.1
  have em := hM.1.1.2.1
  have din := rns_in (t := q 1 1) (L := (q 1 0 0).toNat)
  refine sg_30 a m _ ⟨by omega, by omega, cl_19 (by omega) (fun g => ⟨fun z => by omega, fun _ => ⟨by omega, by omega, by omega, cl_31 (tp_of hw) (tc_of hw hC) (fun m1 f1 v1 => ⟨by omega, by omega, sg_29 _ _ ⟨by omega, ?_⟩⟩)⟩⟩) (fun g => ⟨fun _ => sg_136 a m _ ⟨by omega, cl_130 (by omega) (fun z => by omega) (fun _ => ⟨fun _ => kk _, fun z => by omega⟩)⟩, fun z => by omega⟩)⟩
  have fct1 : fct m (jx_up m1 20 0 1 0) := fun s i j hn => by rw [up_ne (by omega)]; exact f1 s i j (by omega)
  have rc1 : rc_T (jx_up m1 20 0 1 0) 0 d := rc_fr hw.1 (fun s j hs => (up_ne (by omega)).trans (f1 s 0 j (by omega))) (fun s i j hs hi => (up_ne (by omega)).trans (f1 s i j (by omega))) (fun s i j hs hi => (up_ne (by omega)).trans (f1 s i j (by omega))) hC.1
  have v1' : ∀ j : Nat, (j : Int) < (rns (q 1 1) (q 1 0 0).toNat).1 → (jx_up m1 20 0 1 0) 25 0 j = (rns (q 1 1) (q 1 0 0).toNat).2 j := v1
  have l1 : (jx_up m1 20 0 1 0) 20 0 1 = 0 := up_eq
  generalize jx_up m1 20 0 1 0 = M at fct1 rc1 v1' l1 ⊢
  have din2 := din.2
  have din1 := din.1
  unfold co_ok at din2
  -- the reference's call
  have ref : ∀ M2 : jx_M, fct m M2 → ∀ {Q : Int → jx_M → Prop}, (∀ m2, (rns (q 1 1) (q 1 0 0).toNat).1 < 0 → frm M2 m2 → m2 26 0 12 = 0 → Q (rns (q 1 1) (q 1 0 0).toNat).1 m2) → (∀ m2, ¬ (rns (q 1 1) (q 1 0 0).toNat).1 < 0 → fry a.toNat M2 m2 → m2 26 0 12 = 0 → m2 29 0 (13 * a.toNat) = (rns (q 1 1) (q 1 0 0).toNat).1 → (∀ j : Nat, (j : Int) < (rns (q 1 1) (q 1 0 0).toNat).1 → m2 29 0 (13 * a.toNat + 1 + j) = (rns (q 1 1) (q 1 0 0).toNat).2 j) → Q (rns (q 1 1) (q 1 0 0).toNat).1 m2) → jx_Cl 136 [xA 26 0, xI a] M2 Q := fun M2 fM2 {Q} KN KY => by
    have hM2 := jv_M_C (fct_C fM2) hM
    refine sg_136 a M2 _ ⟨by omega, cl_130 (by rw [hM2.1.1.2.1]; omega) (fun _ => ⟨fun z => by omega, fun _ => ⟨by omega, by omega, by omega, ?_⟩⟩) (fun z2 => by rw [hM2.1.1.2.1] at z2; omega)⟩
    exact lp_136 (L := (q 1 0 0).toNat) (tp_of hw) (by omega) 11 0 0 (fun _ => 0) _ none (by omega) (by omega) (fun s i j hn => by rw [up_ne (by omega), up_ne (by omega)]) (tm_of hw hM2) rfl (fun j hj => by omega) KN KY
  refine ⟨fun z => ⟨by omega, by omega, by omega, by omega, by omega, by omega, ?_⟩, fun z => ?_⟩
  · refine cl_38_DRAFT (f := (rns (q 1 1) (q 1 0 0).toNat).2) (by omega) (by omega) (fun i hi => v1' i hi) (fun m2 f2 a1 a3 => ?_)
    have fct2 : fct m m2 := fun s i j hn => (f2 s i j (by omega)).trans (fct1 s i j hn)
    have hM2 := jv_M_C (fct_C fct2) hM
    refine ref m2 fct2 (fun m3 z2 => by omega) (fun m3 _ f3 l3 g3 h3 => ?_)
    generalize hD : rns (q 1 1) (q 1 0 0).toNat = D at *
    refine jv_text (d' := dt_ro d a.toNat D.1 D.2) (m1 := m2) hw hC hM ?_ fct2 ((f2 20 0 1 (by omega)).trans l1) ?_ ?_ l3 ?_ (K _ _)
    · exact ro_w hw.1 (by omega) (fun i hi => din2 i (by omega))
    · exact ro_rc rc1 (fun s i j hn => f2 s i j (by omega)) a1 (fun i hi => a3 i (by omega))
    · exact fun s i j hn' => f3 s i j (by omega)
    · exact ro_rm hw.1 hM2.1.1 (by omega) (fun s j h1 h2 h3 => f3 s 0 j (by omega)) g3 (fun i hi => h3 i (by omega))
  · have hM2 := jv_M_C (fct_C fct1) hM
    refine ref M fct1 (fun m3 _ f3 l3 => ?_) (fun m3 z2 => by omega)
    exact jv_text (d' := d) hw hC hM hw.1 fct1 l1 rc1 (fun s i j hn => f3 s i j (by omega)) l3 (rm_fr (fun s j hs hj => f3 s 0 j (by omega)) hM2.1.1) (K _ _)
