/-! texts of digits -/
def dgt (t : Nat → Int) (L : Nat) (le mo : Int) : Nat → Nat → Nat → (Nat → Int) → Int × (Nat → Int)
  | 0, _, f, v => (if (f : Int) < le then -20 - (L : Int) else (f : Int), v)
  | r + 1, i, f, v => if t i = 32 then dgt t L le mo r (i + 1) f v else if (f : Int) < mo ∧ 48 ≤ t i ∧ t i ≤ 57 then dgt t L le mo r (i + 1) (f + 1) (fun j => if j = f then t i - 48 else v j) else (-20 - (i : Int), v)
theorem dg_b {t : Nat → Int} {L : Nat} {le mo : Int} {r i f : Nat} {v : Nat → Int} (h : t i = 32) : dgt t L le mo (r + 1) i f v = dgt t L le mo r (i + 1) f v := if_pos h
theorem dg_d {t : Nat → Int} {L : Nat} {le mo : Int} {r i f : Nat} {v : Nat → Int} (h : ¬ t i = 32) (h2 : (f : Int) < mo ∧ 48 ≤ t i ∧ t i ≤ 57) : dgt t L le mo (r + 1) i f v = dgt t L le mo r (i + 1) (f + 1) (fun j => if j = f then t i - 48 else v j) := (if_neg h).trans (if_pos h2)
theorem dg_e {t : Nat → Int} {L : Nat} {le mo : Int} {r i f : Nat} {v : Nat → Int} (h : ¬ t i = 32) (h2 : ¬ ((f : Int) < mo ∧ 48 ≤ t i ∧ t i ≤ 57)) : dgt t L le mo (r + 1) i f v = (-20 - (i : Int), v) := (if_neg h).trans (if_neg h2)
theorem dg_0 {t : Nat → Int} {L : Nat} {le mo : Int} {i f : Nat} {v : Nat → Int} : dgt t L le mo 0 i f v = (if (f : Int) < le then -20 - (L : Int) else (f : Int), v) := rfl
theorem dg_in {t : Nat → Int} {L : Nat} {le mo : Int} : ∀ (r i f : Nat) (v : Nat → Int), i + r = L → (f : Int) ≤ mo → (∀ j : Nat, j < f → nt1 (v j)) → ((dgt t L le mo r i f v).1 < 0 ∧ -20 - (L : Int) ≤ (dgt t L le mo r i f v).1 ∨ (le ≤ (dgt t L le mo r i f v).1 ∧ (f : Int) ≤ (dgt t L le mo r i f v).1 ∧ (dgt t L le mo r i f v).1 ≤ mo)) ∧ ∀ j : Nat, (j : Int) < (dgt t L le mo r i f v).1 → nt1 ((dgt t L le mo r i f v).2 j)
  | 0, i, f, v, hi, hf, hv => by
    by_cases h : (f : Int) < le
    · rw [dg_0, if_pos h]
      exact ⟨Or.inl ⟨by show -20 - (L : Int) < 0; omega, Int.le_refl _⟩, fun j hj => by have : (j : Int) < -20 - (L : Int) := hj; omega⟩
    · rw [dg_0, if_neg h]
      exact ⟨Or.inr ⟨by show le ≤ (f : Int); omega, Int.le_refl _, hf⟩, fun j hj => hv j (by have : (j : Int) < (f : Int) := hj; omega)⟩
  | r + 1, i, f, v, hi, hf, hv => by
    by_cases h : t i = 32
    · rw [dg_b h]; exact dg_in r (i + 1) f v (by omega) hf hv
    · by_cases h2 : (f : Int) < mo ∧ 48 ≤ t i ∧ t i ≤ 57
      · rw [dg_d h h2]
        have x := dg_in (t := t) (L := L) (le := le) (mo := mo) r (i + 1) (f + 1) (fun j => if j = f then t i - 48 else v j) (by omega) (by omega) (fun j hj => by
          show nt1 (if j = f then t i - 48 else v j)
          split
          · exact ⟨by omega, by omega⟩
          · exact hv j (by omega))
        refine ⟨?_, x.2⟩
        rcases x.1 with y | y
        · exact Or.inl y
        · exact Or.inr ⟨y.1, by omega, y.2.2⟩
      · rw [dg_e h h2]
        refine ⟨Or.inl ⟨?_, ?_⟩, fun j hj => ?_⟩
        · show -20 - (i : Int) < 0; omega
        · show -20 - (L : Int) ≤ -20 - (i : Int); omega
        · have : (j : Int) < -20 - (i : Int) := hj
          omega
def tp_c (m : jx_M) (t : Nat → Int) (L : Nat) : Prop := m 20 0 1 = (L : Int) ∧ ∀ i : Nat, i < L → m 21 0 i = t i
def tp_m (m : jx_M) (t : Nat → Int) (L : Nat) : Prop := m 26 0 12 = (L : Int) ∧ ∀ i : Nat, i < L → m 33 0 i = t i
def tp_t (t : Nat → Int) (L : Nat) : Prop := L ≤ 60 ∧ ∀ i : Nat, i < L → 32 ≤ t i ∧ t i ≤ 126
theorem cl_28 {t : Nat → Int} {L i : Nat} {m : jx_M} {Q : Int → jx_M → Prop} (hT : tp_t t L) (hc : tp_c m t L) (h1 : i < L ∧ 48 ≤ t i ∧ t i ≤ 57 → Q 1 m) (h0 : ¬ (i < L ∧ 48 ≤ t i ∧ t i ≤ 57) → Q 0 m) : jx_Cl 28 [xA 20 0, xI (i : Int)] m Q := by
  obtain ⟨c1, c2⟩ := hc
  obtain ⟨t1, t2⟩ := hT
  refine sg_28 i m Q ?_
  rw [c1, show ((i : Int)).toNat = i by omega]
  by_cases hi : i < L
  · rw [c2 i hi]
    repeat' (first | omega | exact h0 (by omega) | exact h1 (by omega) | apply And.intro | intro _)
  · exact ⟨by omega, fun z => by omega, fun _ => ⟨by omega, h0 (by omega)⟩⟩
theorem lp_27 {t : Nat → Int} {L : Nat} {le mo : Int} {m : jx_M} {Q : Int → jx_M → Prop} (hT : tp_t t L) (hc : tp_c m t L) (hmo : mo ≤ 25) :
    ∀ (r i f : Nat) (v : Nat → Int) (m1 : jx_M), i + r = L → (f : Int) ≤ mo → (∀ s i j, ¬ (s = 25 ∧ i = 0) → m1 s i j = m s i j) → (∀ j : Nat, j < f → m1 25 0 j = v j) → (∀ m2, (∀ s i j, ¬ (s = 25 ∧ i = 0) → m2 s i j = m s i j) → (∀ j : Nat, (j : Int) < (dgt t L le mo r i f v).1 → m2 25 0 j = (dgt t L le mo r i f v).2 j) → Q (dgt t L le mo r i f v).1 m2) → jx_AW 27 4 [some (xA 20 0), some (xA 25 0), some (xI le), some (xI mo), some (xI (f : Int)), some (xI (i : Int))] [] m1 Q := by
  obtain ⟨t1, t2⟩ := hT
  intro r
  induction r with
  | zero =>
    intro i f v m1 hi hf hfr h K
    have c1 : m1 20 0 1 = (L : Int) := (hfr 20 0 1 (by omega)).trans hc.1
    have k := K m1 hfr
    rw [dg_0] at k
    refine sg_27_DRAFT_4 le mo f i m1 Q ?_
    rw [c1]
    refine ⟨by omega, fun z => by omega, fun _ => ⟨fun z => ⟨by omega, by omega, ?_⟩, fun z => ?_⟩⟩
    · rw [if_pos z] at k; exact k (fun j hj => by have : (j : Int) < -20 - (L : Int) := hj; omega)
    · rw [if_neg z] at k; exact k (fun j hj => h j (by have : (j : Int) < (f : Int) := hj; omega))
  | succ r ih =>
    intro i f v m1 hi hf hfr h K
    have c1 : m1 20 0 1 = (L : Int) := (hfr 20 0 1 (by omega)).trans hc.1
    have c2 : m1 21 0 i = t i := (hfr 21 0 i (by omega)).trans (hc.2 i (by omega))
    have tc : tp_c m1 t L := ⟨c1, fun j hj => (hfr 21 0 j (by omega)).trans (hc.2 j hj)⟩
    have ti := t2 i (by omega)
    have bad : ¬ t i = 32 → ¬ ((f : Int) < mo ∧ 48 ≤ t i ∧ t i ≤ 57) → Q (-20 - (i : Int)) m1 := fun q1 q2 => by
      have k := K m1 hfr
      rw [dg_e q1 q2] at k
      exact k (fun j hj => by have : (j : Int) < -20 - (i : Int) := hj; omega)
    refine sg_27_DRAFT_4 le mo f i m1 Q ?_
    rw [c1, show ((i : Int)).toNat = i by omega, c2]
    refine ⟨by omega, fun _ => ⟨by omega, by omega, by omega, fun z => ⟨by omega, ih (i + 1) f v m1 (by omega) hf hfr h ?_⟩, fun z => ⟨fun z2 => ⟨rfl, by omega, fun z3 => ⟨by omega, cl_28 ⟨t1, t2⟩ tc (fun g => ⟨fun q => by omega, fun _ => ?_⟩) (fun g => ⟨fun _ => ⟨by omega, bad z (by omega)⟩, fun q => by omega⟩)⟩, fun z3 => by omega⟩, fun z2 => ⟨by omega, bad z (by omega)⟩⟩⟩, fun z => by omega⟩
    · rw [dg_b z] at K; exact K
    · rw [c2, show ((f : Int)).toNat = f by omega]
      rw [dg_d z (by omega)] at K
      refine ⟨by omega, by omega, by omega, by omega, by omega, by omega, by omega, by omega, ih (i + 1) (f + 1) _ _ (by omega) (by omega) (fun s i j hn => ?_) (fun j hj => ?_) K⟩
      · rw [up_ne (fun z => hn ⟨z.1, z.2.1⟩)]; exact hfr s i j hn
      · show _ = (if j = f then t i - 48 else v j)
        rcases Nat.decEq j f with q | q
        · rw [up_ne (by omega), if_neg q]; exact h j (by omega)
        · subst q; rw [up_eq, if_pos rfl]
abbrev dgs (t : Nat → Int) (L : Nat) (le mo : Int) : Int × (Nat → Int) := dgt t L le mo L 0 0 (fun _ => 0)
theorem dgs_in {t : Nat → Int} {L : Nat} {le mo : Int} (hmo : 0 ≤ mo) : ((dgs t L le mo).1 < 0 ∧ -20 - (L : Int) ≤ (dgs t L le mo).1 ∨ (le ≤ (dgs t L le mo).1 ∧ 0 ≤ (dgs t L le mo).1 ∧ (dgs t L le mo).1 ≤ mo)) ∧ ∀ j : Nat, (j : Int) < (dgs t L le mo).1 → nt1 ((dgs t L le mo).2 j) :=
  dg_in L 0 0 (fun _ => 0) (by omega) hmo (fun j hj => by omega)
theorem cl_27 {t : Nat → Int} {L : Nat} {le mo : Int} {m : jx_M} {Q : Int → jx_M → Prop} (hT : tp_t t L) (hc : tp_c m t L) (hmo : 0 ≤ mo ∧ mo ≤ 25) (K : ∀ m2, (∀ s i j, ¬ (s = 25 ∧ i = 0) → m2 s i j = m s i j) → (∀ j : Nat, (j : Int) < (dgs t L le mo).1 → m2 25 0 j = (dgs t L le mo).2 j) → Q (dgs t L le mo).1 m2) : jx_Cl 27 [xA 20 0, xA 25 0, xI le, xI mo] m Q :=
  sg_27_DRAFT le mo m Q (lp_27 hT hc hmo.2 L 0 0 _ m (by omega) (by omega) (fun _ _ _ _ => rfl) (fun j hj => by omega) K)
-- the reference
def nbk (t : Nat → Int) : Nat → Nat → Nat
  | 0, i => i
  | r + 1, i => if t i = 32 then nbk t r (i + 1) else i
theorem nb_b {t : Nat → Int} {r i : Nat} (h : t i = 32) : nbk t (r + 1) i = nbk t r (i + 1) := if_pos h
theorem nb_e {t : Nat → Int} {r i : Nat} (h : ¬ t i = 32) : nbk t (r + 1) i = i := if_neg h
theorem nbk_in {t : Nat → Int} {L : Nat} : ∀ (r i : Nat), i + r = L → i ≤ nbk t r i ∧ nbk t r i ≤ L ∧ (nbk t r i < L → ¬ t (nbk t r i) = 32)
  | 0, i, h => ⟨Nat.le_refl _, by show i ≤ L; omega, fun z => by have : i < L := z; omega⟩
  | r + 1, i, h => by
    by_cases q : t i = 32
    · have := nbk_in (t := t) (L := L) r (i + 1) (by omega)
      rw [nb_b q]
      exact ⟨by omega, this.2⟩
    · rw [nb_e q]
      exact ⟨Nat.le_refl _, by omega, fun _ => q⟩
theorem nbk_self {t : Nat → Int} {r i : Nat} (h : r = 0 ∨ ¬ t i = 32) : nbk t r i = i := by
  match r with
  | 0 => rfl
  | r + 1 => exact nb_e (by omega)
def hre (t : Nat → Int) (L p : Nat) : Int := if p < L then t p else 0
theorem lp_135 {t : Nat → Int} {L : Nat} {Q : Int → jx_M → Prop} (hT : tp_t t L) :
    ∀ (r i : Nat) (m : jx_M), i + r = L → m 26 0 13 = (i : Int) → tp_m m t L → Q (hre t L (nbk t r i)) (jx_up m 26 0 13 (nbk t r i : Nat)) → jx_AW 135 0 [some (xA 26 0)] [] m Q := by
  obtain ⟨t1, t2⟩ := hT
  intro r
  induction r with
  | zero =>
    intro i m hi h13 hm hq
    have e : jx_up m 26 0 13 (i : Int) = m := by rw [← h13]; exact up_self
    have hq : Q (hre t L i) (jx_up m 26 0 13 (i : Int)) := hq
    unfold hre at hq
    rw [if_neg (by omega), e] at hq
    refine sg_135_0 m Q ?_
    rw [h13, hm.1]
    exact ⟨by omega, by omega, fun z => by omega, fun _ => ⟨by omega, by omega, fun z => by omega, fun _ => hq⟩⟩
  | succ r ih =>
    intro i m hi h13 hm hq
    have ti := hm.2 i (by omega)
    refine sg_135_0 m Q ?_
    rw [h13, hm.1, show ((i : Int)).toNat = i by omega, ti]
    refine ⟨by omega, by omega, fun _ => ⟨by omega, by omega, by omega, by omega, fun z => ⟨by omega, by omega, by omega, ih (i + 1) _ (by omega) up_eq ⟨hm.1, hm.2⟩ ?_⟩, fun z => ⟨by omega, by omega, fun _ => ⟨by omega, by omega, by omega, by omega, ?_⟩, fun z2 => by omega⟩⟩, fun z => by omega⟩
    · rw [up_up]
      rw [nb_b z] at hq
      exact hq
    · rw [nb_e z] at hq
      have e : jx_up m 26 0 13 (i : Int) = m := by rw [← h13]; exact up_self
      unfold hre at hq
      rw [if_pos (by omega), e] at hq
      exact hq
theorem cl_135 {t : Nat → Int} {L i r : Nat} {m : jx_M} {Q : Int → jx_M → Prop} (hT : tp_t t L) (hi : i + r = L) (h13 : m 26 0 13 = (i : Int)) (hm : tp_m m t L) (hq : Q (hre t L (nbk t r i)) (jx_up m 26 0 13 (nbk t r i : Nat))) : jx_Cl 135 [xA 26 0] m Q :=
  lp_135 hT r i m hi h13 hm hq
theorem cl_134 {t : Nat → Int} {L i r : Nat} {m : jx_M} {Q : Int → jx_M → Prop} (hT : tp_t t L) (hi : i + r = L) (h13 : m 26 0 13 = (i : Int)) (hm : tp_m m t L) (h1 : nbk t r i < L ∧ 48 ≤ t (nbk t r i) ∧ t (nbk t r i) ≤ 57 → Q 1 (jx_up m 26 0 13 (nbk t r i : Nat))) (h0 : ¬ (nbk t r i < L ∧ 48 ≤ t (nbk t r i) ∧ t (nbk t r i) ≤ 57) → Q 0 (jx_up m 26 0 13 (nbk t r i : Nat))) : jx_Cl 134 [xA 26 0] m Q := by
  refine sg_134 m Q ⟨by omega, cl_135 hT hi h13 hm ?_⟩
  unfold hre
  by_cases hp : nbk t r i < L
  · rw [if_pos hp]
    exact cl_125 (fun g => ⟨by omega, h1 (by omega)⟩) (fun g => ⟨by omega, h0 (by omega)⟩)
  · rw [if_neg hp]
    exact cl_125 (fun g => by omega) (fun g => ⟨by omega, h0 (by omega)⟩)
theorem dg_skip {t : Nat → Int} {L : Nat} {le mo : Int} {f : Nat} {v : Nat → Int} : ∀ (r i : Nat), i + r = L → dgt t L le mo r i f v = dgt t L le mo (L - nbk t r i) (nbk t r i) f v
  | 0, i, h => by show dgt t L le mo 0 i f v = dgt t L le mo (L - i) i f v; rw [show L - i = 0 by omega]
  | r + 1, i, h => by
    by_cases q : t i = 32
    · rw [dg_b q, nb_b q]; exact dg_skip r (i + 1) (by omega)
    · rw [nb_e q, show L - i = r + 1 by omega]
theorem rd14 (M : jx_M) (x : Int) : jx_up (jx_up M 26 0 14 x) 26 0 12 0 26 0 14 = x := rfl
theorem rd13 (M : jx_M) (x : Int) : jx_up (jx_up M 26 0 14 x) 26 0 12 0 26 0 13 = M 26 0 13 := rfl
def frm (m m' : jx_M) : Prop := ∀ s i j, ¬ (s = 34 ∨ (s = 26 ∧ i = 0 ∧ (j = 12 ∨ j = 13 ∨ j = 14))) → m' s i j = m s i j
theorem lp_133 {t : Nat → Int} {L : Nat} {le mo : Int} {m : jx_M} {Q : Int → jx_M → Prop} (hT : tp_t t L) (hle : le ≤ mo) (hmo : mo ≤ 25) :
    ∀ (r i f : Nat) (v : Nat → Int) (m1 : jx_M), i + r = L → (f : Int) ≤ mo → frm m m1 → tp_m m1 t L → m1 26 0 13 = (i : Int) → (∀ j : Nat, j < f → m1 34 0 j = v j) → (∀ m2, frm m m2 → m2 26 0 12 = 0 → (∀ j : Nat, (j : Int) < (dgt t L le mo r i f v).1 → m2 34 0 j = (dgt t L le mo r i f v).2 j) → Q (dgt t L le mo r i f v).1 m2) → jx_AW 133 5 [some (xA 26 0), some (xI le), some (xI mo), some (xI (f : Int))] [] m1 Q := by
  intro r
  induction r using Nat.strongRecOn with
  | ind r ih =>
    intro i f v m1 hi hf hfr hm h13 h K
    obtain ⟨n1, n2, n3⟩ := nbk_in (t := t) (L := L) r i hi
    rw [dg_skip r i hi] at K
    generalize hp : nbk t r i = p at *
    have t1 := hT.1
    have fin : ∀ x : Int, ∀ M : jx_M, frm m M → frm m (jx_up (jx_up M 26 0 14 x) 26 0 12 0) := fun x M hM s i j hn => by rw [up_ne (by omega), up_ne (by omega)]; exact hM s i j hn
    have fM : frm m (jx_up m1 26 0 13 (p : Int)) := fun s i j hn => by rw [up_ne (by omega)]; exact hfr s i j hn
    have mM : tp_m (jx_up m1 26 0 13 (p : Int)) t L := hm
    have vM : ∀ j : Nat, j < f → (jx_up m1 26 0 13 (p : Int)) 34 0 j = v j := h
    have aM : (jx_up m1 26 0 13 (p : Int)) 26 0 13 = (p : Int) := up_eq
    -- here once more
    have again : ∀ {Q' : Int → jx_M → Prop}, Q' (hre t L p) (jx_up m1 26 0 13 (p : Int)) → jx_Cl 135 [xA 26 0] (jx_up m1 26 0 13 (p : Int)) Q' := fun {Q'} hq => by
      have e : nbk t (L - p) p = p := nbk_self (by
        rcases Nat.lt_or_ge p L with q | q
        · exact Or.inr (n3 q)
        · left; omega)
      refine cl_135 (i := p) (r := L - p) hT (by omega) aM mM ?_
      rw [e, up_up]
      exact hq
    have endOk : p = L → ¬ (f : Int) < le → ∀ x : Int, Q (f : Int) (jx_up (jx_up (jx_up m1 26 0 13 (p : Int)) 26 0 14 x) 26 0 12 0) := fun e z x => by
      have k := K _ (fin x _ fM) rfl
      rw [show L - p = 0 by omega, dg_0, if_neg z] at k
      exact k (fun j hj => vM j (by have : (j : Int) < (f : Int) := hj; omega))
    have endBad : (p = L ∧ (f : Int) < le) ∨ (p < L ∧ ¬ ((f : Int) < mo ∧ 48 ≤ t p ∧ t p ≤ 57)) → ∀ x : Int, Q (-20 - (p : Int)) (jx_up (jx_up (jx_up m1 26 0 13 (p : Int)) 26 0 14 x) 26 0 12 0) := fun hz x => by
      have k := K _ (fin x _ fM) rfl
      rcases hz with ⟨e, z⟩ | ⟨e, z⟩
      · rw [show L - p = 0 by omega, dg_0, if_pos z, ← e] at k
        exact k (fun j hj => by have : (j : Int) < -20 - (p : Int) := hj; omega)
      · rw [show L - p = (L - p - 1) + 1 by omega, dg_e (n3 e) z] at k
        exact k (fun j hj => by have : (j : Int) < -20 - (p : Int) := hj; omega)
    refine sg_133_5 le mo f m1 Q ?_
    by_cases hfm : (f : Int) < mo
    · refine ⟨fun _ => ⟨by omega, cl_134 (i := i) (r := r) hT hi h13 hm (fun g => ?_) (fun g => ?_)⟩, fun z => absurd hfm z⟩
      · rw [hp] at g ⊢
        refine ⟨fun z => by omega, fun _ => ⟨by omega, by omega, again ?_⟩⟩
        unfold hre
        rw [if_pos g.1, show ((f : Int)).toNat = f by omega]
        rw [show L - p = (L - p - 1) + 1 by omega, dg_d (n3 g.1) ⟨hfm, g.2⟩] at K
        rw [show (jx_up (jx_up m1 26 0 13 (p : Int)) 34 0 f (t p - 48)) 26 0 13 = (p : Int) from (up_ne (by omega)).trans up_eq]
        refine ⟨by omega, by omega, by omega, by omega, by omega, by omega, by omega, ih (L - p - 1) (by omega) (p + 1) (f + 1) _ _ (by omega) (by omega) (fun s i j hn => ?_) mM up_eq (fun j hj => ?_) K⟩
        · rw [up_ne (by omega), up_ne (by omega)]; exact fM s i j hn
        · show _ = (if j = f then t p - 48 else v j)
          rw [up_ne (by omega)]
          rcases Nat.decEq j f with q | q
          · rw [up_ne (by omega), if_neg q]; exact vM j (by omega)
          · subst q; rw [up_eq, if_pos rfl]
      · rw [hp] at g ⊢
        refine ⟨fun _ => ⟨fun z => ?_, fun z => ⟨by omega, again ?_⟩⟩, fun z => by omega⟩
        · rw [rd14 _ 1, rd13 _ 1, aM]
          exact ⟨by omega, by omega, by omega, by omega, fun q => by omega, fun _ => ⟨by omega, by omega, endBad (by omega) 1⟩⟩
        · rw [rd14 _ 0, rd14 _ 1, rd13 _ 0, rd13 _ 1, aM]
          unfold hre
          by_cases hpL : p < L
          · have tp := (hT.2 p hpL).1
            rw [if_pos hpL]
            exact ⟨fun q => by omega, fun _ => ⟨by omega, by omega, by omega, by omega, fun q => by omega, fun _ => ⟨by omega, by omega, endBad (by omega) 1⟩⟩⟩
          · rw [if_neg hpL]
            exact ⟨fun _ => ⟨by omega, by omega, by omega, by omega, fun _ => endOk (by omega) z 0, fun q => by omega⟩, fun q => by omega⟩
    · refine ⟨fun z => absurd z hfm, fun _ => ⟨fun z => by omega, fun z => ⟨by omega, cl_135 (i := i) (r := r) hT hi h13 hm ?_⟩⟩⟩
      rw [hp, rd14 _ 0, rd14 _ 1, rd13 _ 0, rd13 _ 1, aM]
      unfold hre
      by_cases hpL : p < L
      · have tp := (hT.2 p hpL).1
        rw [if_pos hpL]
        exact ⟨fun q => by omega, fun _ => ⟨by omega, by omega, by omega, by omega, fun q => by omega, fun _ => ⟨by omega, by omega, endBad (by omega) 1⟩⟩⟩
      · rw [if_neg hpL]
        exact ⟨fun _ => ⟨by omega, by omega, by omega, by omega, fun _ => endOk (by omega) z 0, fun q => by omega⟩, fun q => by omega⟩
theorem cl_133 {t : Nat → Int} {L : Nat} {le mo : Int} {m : jx_M} {Q : Int → jx_M → Prop} (hT : tp_t t L) (hm : tp_m m t L) (hle : le ≤ mo) (hmo : 0 ≤ mo ∧ mo ≤ 25) (K : ∀ m2, frm m m2 → m2 26 0 12 = 0 → (∀ j : Nat, (j : Int) < (dgs t L le mo).1 → m2 34 0 j = (dgs t L le mo).2 j) → Q (dgs t L le mo).1 m2) : jx_Cl 133 [xA 26 0, xI le, xI mo] m Q :=
  sg_133 le mo m Q ⟨by omega, lp_133 hT hle hmo.2 L 0 0 _ _ (by omega) (by omega) (fun s i j hn => up_ne (by omega)) hm up_eq (fun j hj => by omega) K⟩
-- town
def dt_no (d : jx_M) (v : Nat → Int) : jx_M := fun a b c => if a = 0 ∧ b = 0 then v c else d a b c
theorem lp_26 {v : Nat → Int} {b1 : Int} {m : jx_M} {Q : Int → jx_M → Prop} (hv : ∀ j : Nat, j < 25 → m 25 0 j = v j ∧ nt1 (v j)) (K : ∀ m2, (∀ s i j, ¬ (s = 2 ∧ i = 0) → m2 s i j = m s i j) → (∀ j : Nat, j < 25 → m2 2 0 j = v j) → Q (dt_sum v 25) m2) :
    ∀ (r k : Nat) (m1 : jx_M), k + r = 25 → (∀ s i j, ¬ (s = 2 ∧ i = 0) → m1 s i j = m s i j) → (∀ j : Nat, j < k → m1 2 0 j = v j) → jx_AW 26 19 [some (xA 0 0), some (xI b1), some (xI (dt_sum v k)), some (xI (k : Int))] [] m1 Q := by
  unfold nt1 at hv
  intro r
  induction r with
  | zero =>
    intro k m1 hk hf h
    obtain rfl : k = 25 := by omega
    exact sg_26_19 b1 _ _ m1 Q ⟨fun z => by omega, fun _ => K m1 hf h⟩
  | succ r ih =>
    intro k m1 hk hf h
    have hs := dt_sum_in (f := v) (b := 9) k (fun i hi => (hv i (by omega)).2)
    have hk2 := hv k (by omega)
    refine sg_26_19 b1 _ k m1 Q ⟨fun _ => ?_, fun z => by omega⟩
    rw [show ((k : Int)).toNat = k by omega, up_ne (s' := 25) (by omega), show m1 25 0 k = v k from (hf 25 0 k (by omega)).trans hk2.1]
    refine ⟨by omega, by omega, by omega, by omega, by omega, by omega, by omega, by omega, by omega, by omega, by omega, by omega, ih (k + 1) _ (by omega) (fun s i j hn => ?_) (fun j hj => ?_)⟩
    · rw [up_ne (fun z => hn ⟨z.1, z.2.1⟩)]; exact hf s i j hn
    · rcases Nat.decEq j k with q | q
      · rw [up_ne (by omega)]; exact h j (by omega)
      · subst q; exact up_eq
theorem lp_132 {v : Nat → Int} {m : jx_M} {Q : Int → jx_M → Prop} (hv : ∀ j : Nat, j < 25 → m 34 0 j = v j ∧ nt1 (v j)) (K : ∀ m2, (∀ s i j, ¬ (s = 27 ∧ i = 0) → m2 s i j = m s i j) → (∀ j : Nat, j < 25 → m2 27 0 j = v j) → Q (dt_sum v 25) m2) :
    ∀ (r k : Nat) (m1 : jx_M), k + r = 25 → (∀ s i j, ¬ (s = 27 ∧ i = 0) → m1 s i j = m s i j) → (∀ j : Nat, j < k → m1 27 0 j = v j) → jx_AW 132 9 [some (xA 26 0), some (xI 25), some (xI (dt_sum v k)), some (xI (k : Int))] [] m1 Q := by
  unfold nt1 at hv
  intro r
  induction r with
  | zero =>
    intro k m1 hk hf h
    obtain rfl : k = 25 := by omega
    exact sg_132_9 25 _ _ m1 Q ⟨fun z => by omega, fun _ => ⟨fun z => by omega, fun _ => K m1 hf h⟩⟩
  | succ r ih =>
    intro k m1 hk hf h
    have hs := dt_sum_in (f := v) (b := 9) k (fun i hi => (hv i (by omega)).2)
    have hk2 := hv k (by omega)
    refine sg_132_9 25 _ k m1 Q ⟨fun _ => ?_, fun z => by omega⟩
    rw [show ((k : Int)).toNat = k by omega, up_ne (s' := 34) (by omega), show m1 34 0 k = v k from (hf 34 0 k (by omega)).trans hk2.1]
    refine ⟨by omega, by omega, by omega, by omega, by omega, by omega, by omega, by omega, by omega, by omega, by omega, ih (k + 1) _ (by omega) (fun s i j hn => ?_) (fun j hj => ?_)⟩
    · rw [up_ne (fun z => hn ⟨z.1, z.2.1⟩)]; exact hf s i j hn
    · rcases Nat.decEq j k with q | q
      · rw [up_ne (by omega)]; exact h j (by omega)
      · subst q; exact up_eq
theorem q_clr {q : jx_M} : ∀ a b c, ¬ a = 1 → jx_up q 1 0 0 0 a b c = q a b c := fun a b c h => up_ne (by omega)
theorem sw_clr {d e q d' : jx_M} (hw : sw d e q) (hd : dt_w d') : sw d' e (jx_up q 1 0 0 0) := by
  obtain ⟨h1, h2, h3, h4, h5, h6⟩ := hw
  exact ⟨hd, h2, h3, by show (0 : Int) ≤ 0 ∧ (0 : Int) ≤ 60; omega, fun i hi => by have : (i : Int) < 0 := hi; omega, h6⟩
/-- the text is used up; the town may have changed -/
theorem jv_text {m m1 m2 d e q d' : jx_M} {G : Prop} (hw : sw d e q) (hC : jv_C m d e q) (hM : jv_M m d e q) (hd : dt_w d') (f1 : fct m m1) (t1 : m1 20 0 1 = 0) (c1 : rc_T m1 0 d') (f2 : fmt m1 m2) (t2 : m2 26 0 12 = 0) (c2 : rm_T m2 d') (K : jv_I m2 → fS m m2 → G) : G := by
  refine jv_fin (q := jx_up q 1 0 0 0) (sw_clr hw hd) (fct_C f1) (jv_C_g hw f1 c1 ⟨t1, fun i hi => ?_⟩ q_clr hC) (fmt_M f2) (jv_M_g f2 c2 ⟨t2, fun i hi => ?_⟩ q_clr (jv_M_C (fct_C f1) hM)) K
  · have : (i : Int) < 0 := hi
    omega
  · have : (i : Int) < 0 := hi
    omega
theorem tp_of {d e q : jx_M} (hw : sw d e q) : tp_t (q 1 1) (q 1 0 0).toNat := by
  obtain ⟨h1, h2, h3, h4, h5, h6⟩ := hw
  exact ⟨by omega, fun i hi => h5 i (by omega)⟩
theorem tc_of {m d e q : jx_M} (hw : sw d e q) (hC : jv_C m d e q) : tp_c m (q 1 1) (q 1 0 0).toNat := by
  have h4 := hw.2.2.2.1
  exact ⟨by rw [hC.2.2.1.1]; omega, fun i hi => hC.2.2.1.2 i (by omega)⟩
theorem tm_of {m d e q : jx_M} (hw : sw d e q) (hM : jv_M m d e q) : tp_m m (q 1 1) (q 1 0 0).toNat := by
  have h4 := hw.2.2.2.1
  exact ⟨by rw [hM.2.2.1.1]; omega, fun i hi => hM.2.2.1.2 i (by omega)⟩
theorem pr_4 {m : jx_M} {R : Int → Int → jx_M → Prop} (hI : jv_I m) (K : ∀ z m2, jv_I m2 → fS m m2 → R z z m2) : jx_Cl 26 [xA 0 0] m (fun z1 m1 => jx_Cl 132 [xA 26 0] m1 (fun z2 m2 => R z1 z2 m2)) := by
  obtain ⟨d, e, q, hw, hC, hM⟩ := hI
  have din := dgs_in (t := q 1 1) (L := (q 1 0 0).toNat) (le := 25) (mo := 25) (by omega)
  refine sg_26 m _ ⟨by omega, by omega, by omega, cl_27 (tp_of hw) (tc_of hw hC) (by omega) (fun m1 f1 v1 => ⟨by omega, by omega, sg_29 _ _ ⟨by omega, ?_⟩⟩)⟩
  have fct1 : fct m (jx_up m1 20 0 1 0) := fun s i j hn => by rw [up_ne (by omega)]; exact f1 s i j (by omega)
  have rc1 : rc_T (jx_up m1 20 0 1 0) 0 d := rc_fr hw.1 (fun s j hs => (up_ne (by omega)).trans (f1 s 0 j (by omega))) (fun s i j hs hi => (up_ne (by omega)).trans (f1 s i j (by omega))) (fun s i j hs hi => (up_ne (by omega)).trans (f1 s i j (by omega))) hC.1
  refine ⟨fun z => ?_, fun z => ?_⟩
  · have hM1 := jv_M_C (fct_C fct1) hM
    refine sg_132 _ _ ⟨by omega, cl_133 (tp_of hw) (tm_of hw hM1) (by omega) (by omega) (fun m2 f2 l2 v2 => ?_)⟩
    refine sg_132_9 _ _ _ m2 _ ⟨fun z2 => by omega, fun _ => ⟨fun _ => ?_, fun z2 => absurd z z2⟩⟩
    exact jv_text (d' := d) hw hC hM hw.1 fct1 up_eq rc1 (fun s i j hn => f2 s i j (by omega)) l2 (rm_fr (fun s j hs hj => f2 s 0 j (by omega)) hM1.1.1) (K _ _)
  · have h25 : (dgs (q 1 1) (q 1 0 0).toNat 25 25).1 = 25 := by
      rcases din.1 with y | y <;> omega
    have hv : ∀ j : Nat, j < 25 → nt1 ((dgs (q 1 1) (q 1 0 0).toNat 25 25).2 j) := fun j hj => din.2 j (by rw [h25]; omega)
    rw [h25] at v1 ⊢
    generalize hD : (dgs (q 1 1) (q 1 0 0).toNat 25 25).2 = v at hv v1
    refine lp_26 (v := v) (fun j hj => ⟨(up_ne (by omega)).trans (v1 j (by omega)), hv j hj⟩) (fun m2 f2 g2 => ?_) 25 0 _ (by omega) (fun _ _ _ _ => rfl) (fun j hj => by omega)
    have fct2 : fct m m2 := fun s i j hn => (f2 s i j (by omega)).trans (fct1 s i j hn)
    have hM2 := jv_M_C (fct_C fct2) hM
    refine sg_132 _ _ ⟨by omega, cl_133 (tp_of hw) (tm_of hw hM2) (by omega) (by omega) (fun m3 f3 l3 v3 => ?_)⟩
    rw [h25] at v3 ⊢
    rw [hD] at v3
    refine lp_132 (v := v) (fun j hj => ⟨v3 j (by omega), hv j hj⟩) (fun m4 f4 g4 => ?_) 25 0 m3 (by omega) (fun _ _ _ _ => rfl) (fun j hj => by omega)
    refine jv_text (d' := dt_no d v) (m1 := m2) hw hC hM ?_ fct2 ((f2 20 0 1 (by omega)).trans up_eq) ?_ ?_ ((f4 26 0 12 (by omega)).trans l3) ?_ (K _ _)
    · obtain ⟨h1, h2⟩ := hw.1
      exact ⟨fun c hc => hv c hc, h2⟩
    · obtain ⟨r1, r2, r3, r4, r5, r6, r7, r8, r9⟩ := rc1
      exact ⟨fun c hc => g2 c hc, (f2 1 0 4 (by omega)).trans r2, (f2 1 0 5 (by omega)).trans r3, (f2 1 0 6 (by omega)).trans r4, (f2 1 0 7 (by omega)).trans r5, (f2 1 0 8 (by omega)).trans r6, fun s hs => rc_S_fr (d := d) (fun a k ha => f2 a _ k (by omega)) (r7 s hs), fun b hb k hk => (f2 9 _ k (by omega)).trans (r8 b hb k hk), fun w hw2 k hk => (f2 10 _ k (by omega)).trans (r9 w hw2 k hk)⟩
    · exact fun s i j hn => (f4 s i j (by omega)).trans (f3 s i j (by omega))
    · obtain ⟨h1, h2, h3, h4, h5, h6, h7, h8, h9⟩ := rm_fr (m := m2) (m' := m3) (fun s j hs hj => f3 s 0 j (by omega)) hM2.1.1
      refine ⟨fun c hc => g4 c hc, (f4 26 0 1 (by omega)).trans h2, (f4 26 0 7 (by omega)).trans h3, (f4 26 0 9 (by omega)).trans h4, (f4 26 0 5 (by omega)).trans h5, (f4 26 0 6 (by omega)).trans h6, fun s hs => ?_, fun b hb k hk => (f4 31 0 _ (by omega)).trans (h8 b hb k hk), fun w hw2 k hk => (f4 32 0 _ (by omega)).trans (h9 w hw2 k hk)⟩
      obtain ⟨a1, a2, a3, a4, a5⟩ := h7 s hs
      exact ⟨fun k hk => (f4 28 0 _ (by omega)).trans (a1 k hk), (f4 29 0 _ (by omega)).trans a2, (f4 30 0 _ (by omega)).trans a3, fun i hi => (f4 29 0 _ (by omega)).trans (a4 i hi), fun i hi => (f4 30 0 _ (by omega)).trans (a5 i hi)⟩
