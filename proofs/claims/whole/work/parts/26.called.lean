/-! the reference: who stands at a corner, and whether a buyer is called -/
theorem lp_158 {d : jx_M} {cc kd b : Int} {m : jx_M} {Q : Int → jx_M → Prop} (hw : dt_w d) (hr : re_T m d) (hal : m 26 0 17 < 0) (hb : 0 ≤ b ∧ b < 120) (hq : Q (sp_st d cc kd b) m) :
    ∀ (j : Nat) (b5 : Int), (j : Int) ≤ d 1 0 0 → b5 = (j : Int) - 1 → jx_AW 158 7 [some (xA 26 0), some (xI kd), some (xI cc), some (xI b), some (xI (sp_sa d cc kd b ((d 1 0 0).toNat - j) j)), some (xI b5)] [] m Q := by
  have hs := hw.2.1
  intro j
  induction j with
  | zero =>
    intro b5 _ h5
    exact sg_158_7 kd cc b _ b5 m Q ⟨fun _ => hq, fun h => by omega⟩
  | succ j ih =>
    intro b5 hj h5
    obtain ⟨q1, -⟩ := hr.2.2.2.2.2.2.1 j (by omega)
    have e1 : m 28 0 ((4 * b5).toNat) = d 2 j 0 := by rw [← q1 0 (by omega)]; congr 1; omega
    have nxt := ih (b5 + (-1)) (by omega) (by omega)
    rw [show (d 1 0 0).toNat - j = ((d 1 0 0).toNat - (j + 1)) + 1 by omega] at nxt
    unfold sp_sa at nxt
    refine sg_158_7 kd cc b _ b5 m Q ⟨fun h => by omega, fun _ => ?_⟩
    rw [e1]
    refine ⟨by omega, by omega, by omega, by omega, fun h => ⟨by omega, cl_142 hw hr (by omega) hb ?_⟩, fun h => ⟨by omega, ?_⟩⟩
    · rw [sp_plA_self (Or.inl hal), show b5.toNat = j by omega]
      refine ⟨fun h2 => ⟨by omega, ?_⟩, fun h2 => ⟨by omega, ?_⟩⟩
      · rw [if_pos ⟨h, h2⟩] at nxt
        rw [show b5 = (j : Int) by omega] at nxt ⊢
        exact nxt
      · rw [if_neg (fun z => h2 z.2)] at nxt
        exact nxt
    · rw [if_neg (fun z => h z.1)] at nxt
      exact nxt
theorem cl_158 {d : jx_M} {cc kd b : Int} {m : jx_M} {Q : Int → jx_M → Prop} (hw : dt_w d) (hr : re_T m d) (hal : m 26 0 17 < 0) (hb : 0 ≤ b ∧ b < 120) (hq : Q (sp_st d cc kd b) m) : jx_Cl 158 [xA 26 0, xI kd, xI cc, xI b] m Q := by
  have hs := hw.2.1
  have en := hr.2.1
  have l := lp_158 hw hr hal hb hq (d 1 0 0).toNat (d 1 0 0 - 1) (by omega) (by omega)
  rw [show (d 1 0 0).toNat - (d 1 0 0).toNat = 0 by omega] at l
  refine sg_158 kd cc b m Q ?_
  rw [en]
  exact ⟨by omega, by omega, l⟩
/-- whose tune is taken for one of the kind -/
def sp_lur (d : jx_M) (kd : Int) (o : Nat) : Prop := ∃ s : Nat, (s : Int) < d 1 0 0 ∧ d 2 s 0 = kd ∧ sp_apart d o s ≤ d 1 0 3
def sp_call (d : jx_M) (cc kd t : Int) : Prop := ∃ o : Nat, (o : Int) < d 1 0 0 ∧ sp_he d cc o t ∧ sp_lur d kd o
theorem lp_159_23 {d : jx_M} {a b kd : Int} {o : Nat} {m : jx_M} {Q : Int → jx_M → Prop} (hw : dt_w d) (hr : re_T m d) (ha : 0 ≤ a ∧ a < d 1 0 1) (hk : kd = d 5 a.toNat 1) (ho : (o : Int) < d 1 0 0)
    (K : ∀ (b3 : Int) (w : Option jx_V), ((b3 = 1 ∧ sp_lur d kd o) ∨ (b3 = 0 ∧ ¬ sp_lur d kd o)) → jx_AW 159 4 [some (xA 26 0), some (xI a), some (xI b), some (xI b3), some (xI ((o : Int) + 1)), w] [] m Q) :
    ∀ (r j : Nat) (b3 : Int), j + r = (d 1 0 0).toNat → ((b3 = 1 ∧ sp_lur d kd o) ∨ (b3 = 0 ∧ ∀ s : Nat, s < j → ¬ (d 2 s 0 = kd ∧ sp_apart d o s ≤ d 1 0 3))) → jx_AW 159 23 [some (xA 26 0), some (xI a), some (xI b), some (xI b3), some (xI (o : Int)), some (xI (j : Int))] [] m Q := by
  have hs := hw.2.1
  have hbu := hw.2.2.1
  have en := hr.2.1
  have el := hr.2.2.2.2.1
  have e2 : m 31 0 ((4 * a + 1).toNat) = d 5 a.toNat 1 := by rw [← hr.2.2.2.2.2.2.2.1 a.toNat (by omega) 1 (by omega)]; congr 1; omega
  intro r
  induction r with
  | zero =>
    intro j b3 hj hc
    refine sg_159_23 a b b3 o j m Q ⟨by omega, fun h => by omega, fun _ => ⟨by omega, K b3 _ ?_⟩⟩
    rcases hc with hc | ⟨e, hn⟩
    · exact Or.inl hc
    · exact Or.inr ⟨e, fun ⟨s, q1, q2⟩ => hn s (by omega) q2⟩
  | succ r ih =>
    intro j b3 hj hc
    obtain ⟨q1, -⟩ := hr.2.2.2.2.2.2.1 j (by omega)
    have e1 : m 28 0 ((4 * (j : Int)).toNat) = d 2 j 0 := by rw [← q1 0 (by omega)]; congr 1 <;> omega
    have nxt : ∀ (b' : Int), ((b' = 1 ∧ sp_lur d kd o) ∨ (b' = 0 ∧ ∀ s : Nat, s < j + 1 → ¬ (d 2 s 0 = kd ∧ sp_apart d o s ≤ d 1 0 3))) → jx_AW 159 23 [some (xA 26 0), some (xI a), some (xI b), some (xI b'), some (xI (o : Int)), some (xI ((j : Int) + 1))] [] m Q := fun b' h => ih (j + 1) b' (by omega) h
    refine sg_159_23 a b b3 o j m Q ?_
    rw [e1, e2, ← hk]
    refine ⟨by omega, fun _ => ⟨fun h0 => ⟨by omega, by omega, by omega, by omega, by omega, by omega, by omega, by omega, by omega, fun h1 => ⟨by omega, cl_149 hw hr (by omega) (by omega) ?_⟩, fun h1 => ⟨by omega, nxt 0 (Or.inr ⟨rfl, ?_⟩)⟩⟩, fun h0 => ⟨by omega, nxt 1 (Or.inl ⟨rfl, ?_⟩)⟩⟩, fun h => by omega⟩
    · have hno : ∀ s : Nat, s < j → ¬ (d 2 s 0 = kd ∧ sp_apart d o s ≤ d 1 0 3) := by
        rcases hc with ⟨e, -⟩ | ⟨-, hn⟩
        · omega
        · exact hn
      rw [el, show ((o : Int)).toNat = o by omega, show ((j : Int)).toNat = j by omega]
      refine ⟨by omega, fun h2 => ⟨by omega, nxt 0 (Or.inr ⟨rfl, fun s hs2 => ?_⟩)⟩, fun h2 => ⟨by omega, nxt 1 (Or.inl ⟨rfl, j, by omega, h1, by omega⟩)⟩⟩
      rcases Nat.lt_or_ge s j with q | q
      · exact hno s q
      · obtain rfl : s = j := by omega
        exact fun z => by have := z.2; omega
    · have hno : ∀ s : Nat, s < j → ¬ (d 2 s 0 = kd ∧ sp_apart d o s ≤ d 1 0 3) := by
        rcases hc with ⟨e, -⟩ | ⟨-, hn⟩
        · omega
        · exact hn
      intro s hs2
      rcases Nat.lt_or_ge s j with q | q
      · exact hno s q
      · obtain rfl : s = j := by omega
        exact fun z => h1 z.1
    · rcases hc with ⟨-, h⟩ | ⟨e, -⟩
      · exact h
      · omega
theorem lp_159 {d : jx_M} {a b : Int} {m : jx_M} {Q : Int → jx_M → Prop} (hw : dt_w d) (hr : re_T m d) (hal : m 26 0 17 < 0) (ha : 0 ≤ a ∧ a < d 1 0 1) (hb : 0 ≤ b ∧ b < 120) (h1 : sp_call d (d 5 a.toNat 0) (d 5 a.toNat 1) b → Q 1 m) (h0 : ¬ sp_call d (d 5 a.toNat 0) (d 5 a.toNat 1) b → Q 0 m) :
    ∀ (r k : Nat) (w : Option jx_V), k + r = (d 1 0 0).toNat → (∀ o : Nat, o < k → ¬ (sp_he d (d 5 a.toNat 0) o b ∧ sp_lur d (d 5 a.toNat 1) o)) → jx_AW 159 4 [some (xA 26 0), some (xI a), some (xI b), some (xI 0), some (xI (k : Int)), w] [] m Q := by
  have hs := hw.2.1
  have hbu := hw.2.2.1
  have hwb := hw.2.2.2.2.2.2.2.1 a.toNat (by omega)
  have hcc := hwb.1
  have en := hr.2.1
  have e2 : m 31 0 ((4 * a).toNat) = d 5 a.toNat 0 := by rw [← hr.2.2.2.2.2.2.2.1 a.toNat (by omega) 0 (by omega)]; congr 1; omega
  intro r
  induction r with
  | zero =>
    intro k w hk hno
    refine sg_159_4 a b 0 k w m Q ⟨by omega, fun h => by omega, fun _ => ⟨by omega, h0 (fun ⟨o, q1, q2⟩ => hno o (by omega) q2)⟩⟩
  | succ r ih =>
    intro k w hk hno
    have keep : ¬ (sp_he d (d 5 a.toNat 0) k b ∧ sp_lur d (d 5 a.toNat 1) k) → ∀ o : Nat, o < k + 1 → ¬ (sp_he d (d 5 a.toNat 0) o b ∧ sp_lur d (d 5 a.toNat 1) o) := fun z o ho => by
      rcases Nat.lt_or_ge o k with q | q
      · exact hno o q
      · obtain rfl : o = k := by omega
        exact z
    refine sg_159_4 a b 0 k w m Q ?_
    rw [e2]
    refine ⟨by omega, fun _ => ⟨fun _ => ⟨by omega, by omega, by omega, by omega, by omega, cl_146 hw hr (by omega) (by omega) hb (Or.inl hal) (fun hh => ⟨fun z => by omega, fun _ => ?_⟩) (fun hh => ⟨fun _ => ⟨by omega, ih (k + 1) w (by omega) (keep (fun z => hh ?_))⟩, fun z => by omega⟩)⟩, fun z => by omega⟩, fun h => by omega⟩
    · have hh2 := (sp_heM_of hal hb).mp hh
      rw [show ((k : Int)).toNat = k by omega] at hh2
      refine lp_159_23 (o := k) hw hr ha rfl (by omega) ?_ (d 1 0 0).toNat 0 0 (by omega) (Or.inr ⟨rfl, fun s hs2 => by omega⟩)
      rintro b3 w2 (⟨rfl, hl⟩ | ⟨rfl, hl⟩)
      · have hq := h1 ⟨k, by omega, hh2, hl⟩
        exact sg_159_4 a b 1 _ w2 m Q ⟨by omega, fun _ => ⟨fun z => by omega, fun _ => ⟨by omega, hq⟩⟩, fun _ => ⟨by omega, hq⟩⟩
      · exact ih (k + 1) w2 (by omega) (keep (fun z => hl z.2))
    · rw [show ((k : Int)).toNat = k by omega]
      exact (sp_heM_of hal hb).mpr z.1
theorem cl_159 {d : jx_M} {a b : Int} {m : jx_M} {Q : Int → jx_M → Prop} (hw : dt_w d) (hr : re_T m d) (hal : m 26 0 17 < 0) (ha : 0 ≤ a ∧ a < d 1 0 1) (hb : 0 ≤ b ∧ b < 120) (h1 : sp_call d (d 5 a.toNat 0) (d 5 a.toNat 1) b → Q 1 m) (h0 : ¬ sp_call d (d 5 a.toNat 0) (d 5 a.toNat 1) b → Q 0 m) : jx_Cl 159 [xA 26 0, xI a, xI b] m Q := by
  have hs := hw.2.1
  exact sg_159 a b m Q (lp_159 hw hr hal ha hb h1 h0 (d 1 0 0).toNat 0 none (by omega) (fun o ho => by omega))
