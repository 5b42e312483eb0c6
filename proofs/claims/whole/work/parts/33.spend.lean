/-! the class: a buyer's day, a day -/
def lv_fr (t0 b : Nat) (m m' : jx_M) : Prop := ∀ s i j, ¬ (15 ≤ s ∧ s ≤ 17 ∧ i = t0 ∧ j = b) → m' s i j = m s i j
theorem lv_dy {t0 b : Nat} {m m' : jx_M} (h : lv_fr t0 b m m') : dy_fr t0 m m' := fun s i j hn => h s i j (fun z => hn ⟨by omega, by omega, z.2.2.1⟩)
theorem lv_up {t0 b : Nat} {m m' : jx_M} {s : Nat} {v : Int} (h : lv_fr t0 b m m') (h1 : 15 ≤ s ∧ s ≤ 17) : lv_fr t0 b m (jx_up m' s t0 b v) := fun s' i' j' hn => by
  rw [up_ne (fun z => hn ⟨by omega, by omega, z.2.1, z.2.2⟩)]
  exact h s' i' j' hn
theorem lf_stay {d : jx_M} {b t : Nat} (h : 0 ≤ (sp_life d b t).2.1) : ∀ k : Nat, sp_life d b (t + k) = sp_life d b t
  | 0 => rfl
  | k + 1 => by
    show sp_step d b _ (sp_life d b (t + k)) = _
    rw [lf_stay h k]
    exact ss_b h
theorem sp_call_set {d : jx_M} (hw : dt_w d) {cc kd t : Int} : (∃ o : Nat, (o : Int) < d 1 0 0 ∧ (((o : Int) < d 1 0 0 ∧ sp_cry d o t) ∧ ((o : Int) < d 1 0 0 ∧ sp_lur d kd o)) ∧ 0 ≤ sp_pl d o t ∧ sp_far (sp_pl d o t) cc ≤ sp_re d o - d 0 0 cc.toNat) ↔ sp_call d cc kd t := by
  constructor
  · rintro ⟨o, h1, ⟨h2, h3⟩, h4, h5⟩
    exact ⟨o, h1, ⟨h2.2, h5⟩, h3.2⟩
  · rintro ⟨o, h1, h2, h3⟩
    exact ⟨o, h1, ⟨⟨h1, h2.1⟩, h1, h3⟩, (sp_arr_pl (hw.2.2.2.2.2.2.1 o h1) h2.1.2.1).1, h2.2⟩
theorem lp_66 {d : jx_M} {t0 t b : Nat} {b4 : Int} {m : jx_M} {Q : Int → jx_M → Prop} (ht0 : t0 < 2) (ht : t < 3) (hw : dt_w d) (hr : rc_T m t d) (hb : (b : Int) < d 1 0 1)
    (hcr : ∀ u : Nat, u < 120 → bs_is (m 18 t0 u) (fun o => (o : Int) < d 1 0 0 ∧ sp_cry d o u)) (hlu : bs_is b4 (fun o => (o : Int) < d 1 0 0 ∧ sp_lur d (d 5 b 1) o))
    (K : ∀ m2 : jx_M, lv_fr t0 b m m2 → m2 15 t0 b = (sp_life d b 120).2.1 → m2 16 t0 b = (sp_life d b 120).2.2.1 → m2 17 t0 b = (sp_life d b 120).2.2.2 → Q 0 m2) :
    ∀ (r u : Nat) (m1 : jx_M) (b5 : Int) (w7 : Option jx_V), u + r = 120 → lv_fr t0 b m m1 → (sp_life d b u).2.1 < 0 → (((sp_life d b u).1 < 0 ∧ b5 = -1) ∨ (0 ≤ (sp_life d b u).1 ∧ b5 = (sp_life d b u).1)) → m1 15 t0 b = -4 → m1 16 t0 b = -4 → m1 17 t0 b = (sp_life d b u).2.2.2 →
      jx_AW 66 31 [some (xA 14 t0), some (xA 1 t), some (xA 9 (12 * t + b)), some (xI (b : Int)), some (xI b4), some (xI b5), some (xI (u : Int)), w7] [] m1 Q := by
  have hbu := hw.2.2.1
  have wb := hw.2.2.2.2.2.2.2.1 b hb
  intro r
  induction r with
  | zero =>
    intro u m1 b5 w7 hu hf hn hd h15 h16 h17
    obtain rfl : u = 120 := by omega
    have ok := (lf_life wb 120 (by omega)).2.1
    exact sg_66_31 t0 t _ b b4 b5 _ w7 m1 Q ⟨fun z => by omega, fun _ => K m1 hf (by omega) (by omega) h17⟩
  | succ r ih =>
    intro u m1 b5 w7 hu hf hn hd h15 h16 h17
    have hr1 := dy_fr_rc (lv_dy hf) hr
    have rb := hr1.2.2.2.2.2.2.2.1 b hb
    have b0 := rb 0 (by omega)
    have b1 := rb 1 (by omega)
    have b2 := rb 2 (by omega)
    have b3 := rb 3 (by omega)
    obtain ⟨v1, v2, v3, v4⟩ := wb
    have ok := lf_life (hw.2.2.2.2.2.2.2.1 b hb) u (by omega)
    obtain ⟨k1, k2, k3⟩ := ok
    have es : sp_life d b (u + 1) = sp_step d b u (sp_life d b u) := rfl
    have e18 : m1 18 t0 u = m 18 t0 u := hf 18 t0 u (by omega)
    have same : sp_step d b u (sp_life d b u) = sp_life d b u → ∀ w, jx_AW 66 31 [some (xA 14 t0), some (xA 1 t), some (xA 9 (12 * t + b)), some (xI (b : Int)), some (xI b4), some (xI b5), some (xI ((u : Int) + 1)), w] [] m1 Q := fun e w => ih (u + 1) m1 b5 w (by omega) hf (by rw [es, e]; exact hn) (by rw [es, e]; exact hd) h15 h16 (by rw [es, e]; exact h17)
    refine sg_66_31 t0 t _ b b4 b5 u w7 m1 Q ⟨fun _ => ⟨fun hup => ?_, fun hup => ⟨fun hlt => ⟨by omega, same (ss_w hn (by omega) (by omega)) _⟩, fun hlt => ⟨by omega, by omega, ht, ?_⟩⟩⟩, fun z => by omega⟩
    · rw [show ((u : Int)).toNat = u by omega, e18, b0]
      refine ⟨ht0, by omega, ht0, by omega, cl_67 ht hw hr1 (by omega) (by omega) (bs_and (hcr u (by omega)) hlu) (fun hc => ⟨fun z => by omega, fun _ => ?_⟩) (fun hc => ⟨fun _ => ⟨by omega, same (ss_n hn (by omega) (fun z => hc ((sp_call_set hw).mpr z))) _⟩, fun z => by omega⟩)⟩
      rw [b2]
      have e := ss_c (d := d) (b := b) hn (by omega) ((sp_call_set hw).mp hc)
      exact ⟨by omega, by omega, by omega, by omega, ih (u + 1) m1 _ _ (by omega) hf (by rw [es, e]; exact hn) (by rw [es, e]; right; exact ⟨by show 0 ≤ (u : Int) + d 5 b 2 + 1; omega, rfl⟩) h15 h16 (by rw [es, e]; exact h17)⟩
    · rw [b0, b1]
      refine cl_68 ht hw hr1 (by omega) ?_
      rw [b3]
      refine ⟨fun hs => ⟨by omega, by omega, fun hp => ⟨by omega, same (ss_p hn (by omega) (by omega) hs (by omega)) _⟩, fun hp => ?_⟩, fun hs => ⟨ht0, by omega, ht0, ht0, by omega, ht0, ?_⟩⟩
      · have e := ss_l (d := d) (b := b) (t := u) hn (by omega) (by omega) hs (by omega)
        rw [show ((b : Int)).toNat = b by omega]
        refine ⟨ht0, by omega, ht0, by omega, by omega, ht0, by omega, ih (u + 1) _ _ _ (by omega) (lv_up hf (by omega)) (by rw [es, e]; exact hn) (by rw [es, e]; left; exact ⟨by show (-4 : Int) < 0; omega, rfl⟩) ?_ ?_ ?_⟩
        · rw [up_ne (by omega)]; exact h15
        · rw [up_ne (by omega)]; exact h16
        · rw [up_eq, es, e, h17]
      · have e := ss_s (d := d) (b := b) (t := u) hn (by omega) (by omega) (by omega)
        have hst := lf_stay (d := d) (b := b) (t := u + 1) (by rw [es, e]; show 0 ≤ sp_st d (d 5 b 0) (d 5 b 1) u; omega) (119 - u)
        rw [show u + 1 + (119 - u) = 120 by omega, es, e] at hst
        rw [show ((b : Int)).toNat = b by omega]
        refine K _ (lv_up (lv_up hf (by omega)) (by omega)) ?_ ?_ ?_
        · rw [hst, up_ne (by omega), up_eq]
        · rw [hst, up_eq]
        · rw [hst, up_ne (by omega), up_ne (by omega)]; exact h17
theorem cl_66 {d : jx_M} {t0 t b : Nat} {m : jx_M} {Q : Int → jx_M → Prop} (ht0 : t0 < 2) (ht : t < 3) (hw : dt_w d) (hr : rc_T m t d) (hb : (b : Int) < d 1 0 1)
    (hcr : ∀ u : Nat, u < 120 → bs_is (m 18 t0 u) (fun o => (o : Int) < d 1 0 0 ∧ sp_cry d o u)) (hlu : ∀ kd : Nat, kd < 4 → bs_is (m 19 t0 kd) (fun o => (o : Int) < d 1 0 0 ∧ sp_lur d kd o))
    (K : ∀ m2 : jx_M, lv_fr t0 b m m2 → m2 15 t0 b = (sp_life d b 120).2.1 → m2 16 t0 b = (sp_life d b 120).2.2.1 → m2 17 t0 b = (sp_life d b 120).2.2.2 → Q 0 m2) : jx_Cl 66 [xA 14 t0, xA 1 t, xA 9 (12 * t + b), xI (b : Int)] m Q := by
  have hbu := hw.2.2.1
  obtain ⟨v1, v2, v3, v4⟩ := hw.2.2.2.2.2.2.2.1 b hb
  have b1 := hr.2.2.2.2.2.2.2.1 b hb 1 (by omega)
  refine sg_66 t0 t _ b m Q ?_
  rw [show ((b : Int)).toNat = b by omega]
  have hf0 : lv_fr t0 b m (jx_up (jx_up (jx_up m 15 t0 b (-4)) 16 t0 b (-4)) 17 t0 b 0) := lv_up (lv_up (lv_up (fun _ _ _ _ => rfl) (by omega)) (by omega)) (by omega)
  have g15 : jx_up (jx_up (jx_up m 15 t0 b (-4)) 16 t0 b (-4)) 17 t0 b 0 15 t0 b = -4 := by rw [up_ne (by omega), up_ne (by omega), up_eq]
  have g16 : jx_up (jx_up (jx_up m 15 t0 b (-4)) 16 t0 b (-4)) 17 t0 b 0 16 t0 b = -4 := by rw [up_ne (by omega), up_eq]
  have g17 : jx_up (jx_up (jx_up m 15 t0 b (-4)) 16 t0 b (-4)) 17 t0 b 0 17 t0 b = 0 := up_eq
  generalize jx_up (jx_up (jx_up m 15 t0 b (-4)) 16 t0 b (-4)) 17 t0 b 0 = m0 at hf0 g15 g16 g17 ⊢
  have e1 : m0 9 (12 * t + b) 1 = d 5 b 1 := by rw [hf0 9 (12 * t + b) 1 (by omega)]; exact b1
  have e19 : m0 19 t0 (d 5 b 1).toNat = m 19 t0 (d 5 b 1).toNat := hf0 19 t0 _ (by omega)
  have hl := hlu (d 5 b 1).toNat (by omega)
  rw [show (((d 5 b 1).toNat : Nat) : Int) = d 5 b 1 by omega] at hl
  rw [e1]
  refine ⟨ht0, by omega, ht0, ht0, by omega, ht0, ht0, by omega, ht0, by omega, cl_14 (fun _ => ⟨fun z => by omega, fun _ => ?_⟩) (fun z => by omega)⟩
  rw [e1, e19]
  refine ⟨ht0, by omega, by omega, ht0, lp_66 ht0 ht hw hr hb hcr hl K 120 0 m0 (-1) none (by omega) hf0 (by show (-4 : Int) < 0; omega) (Or.inl ⟨by show (-4 : Int) < 0; omega, rfl⟩) g15 g16 g17⟩
/-- what a day of the class leaves in its rows -/
def dy_ok (m : jx_M) (t0 : Nat) (d : jx_M) : Prop := (∀ b : Nat, (b : Int) < d 1 0 1 → m 15 t0 b = (sp_life d b 120).2.1 ∧ m 16 t0 b = (sp_life d b 120).2.2.1 ∧ m 17 t0 b = (sp_life d b 120).2.2.2) ∧ m 14 t0 3 = cs_N d (d 1 0 0).toNat ∧ m 14 t0 4 = d 1 0 1
theorem lp_63 {d : jx_M} {t0 t : Nat} {m : jx_M} {Q : Int → jx_M → Prop} (ht0 : t0 < 2) (ht : t < 3) (hw : dt_w d) (hr : rc_T m t d)
    (hcr : ∀ u : Nat, u < 120 → bs_is (m 18 t0 u) (fun o => (o : Int) < d 1 0 0 ∧ sp_cry d o u)) (hlu : ∀ kd : Nat, kd < 4 → bs_is (m 19 t0 kd) (fun o => (o : Int) < d 1 0 0 ∧ sp_lur d kd o)) (h3 : m 14 t0 3 = cs_N d (d 1 0 0).toNat) (h4 : m 14 t0 4 = d 1 0 1)
    (K : ∀ m2 : jx_M, dy_fr t0 m m2 → dy_ok m2 t0 d → Q 0 m2) :
    ∀ (r k : Nat) (m1 : jx_M), k + r = (d 1 0 1).toNat → (∀ s i j, ¬ (15 ≤ s ∧ s ≤ 17 ∧ i = t0) → m1 s i j = m s i j) → (∀ b : Nat, b < k → m1 15 t0 b = (sp_life d b 120).2.1 ∧ m1 16 t0 b = (sp_life d b 120).2.2.1 ∧ m1 17 t0 b = (sp_life d b 120).2.2.2) → jx_AW 63 12 [some (xA 14 t0), some (xA 1 t), some (xI (k : Int))] [] m1 Q := by
  have hbu := hw.2.2.1
  intro r
  induction r with
  | zero =>
    intro k m1 hk hf h
    have e4 : m1 14 t0 4 = d 1 0 1 := by rw [hf 14 t0 4 (by omega)]; exact h4
    have e3 : m1 14 t0 3 = cs_N d (d 1 0 0).toNat := by rw [hf 14 t0 3 (by omega)]; exact h3
    exact sg_63_12 t0 t k m1 Q ⟨ht0, fun z => by omega, fun _ => K m1 (fun s i j hn => hf s i j (fun z => hn ⟨by omega, by omega, z.2.2⟩)) ⟨fun b hb => h b (by omega), e3, e4⟩⟩
  | succ r ih =>
    intro k m1 hk hf h
    have e4 : m1 14 t0 4 = d 1 0 1 := by rw [hf 14 t0 4 (by omega)]; exact h4
    have hr1 : rc_T m1 t d := dy_fr_rc (t0 := t0) (fun s i j hn => hf s i j (fun z => hn ⟨by omega, by omega, z.2.2⟩)) hr
    refine sg_63_12 t0 t k m1 Q ⟨ht0, fun _ => ⟨ht, by omega, ht, ht0, ?_⟩, fun z => by omega⟩
    refine cl_66 (b := k) ht0 ht hw hr1 (by omega) (fun u hu => ?_) (fun kd hk => ?_) (fun m2 hf2 g1 g2 g3 => ⟨by omega, ih (k + 1) m2 (by omega) (fun s i j hn => ?_) (fun b hb => ?_)⟩)
    · rw [hf 18 t0 u (by omega)]; exact hcr u hu
    · rw [hf 19 t0 kd (by omega)]; exact hlu kd hk
    · rw [hf2 s i j (fun z => hn ⟨by omega, by omega, z.2.2.1⟩)]; exact hf s i j hn
    · rcases Nat.lt_or_ge b k with q | q
      · rw [hf2 15 t0 b (by omega), hf2 16 t0 b (by omega), hf2 17 t0 b (by omega)]; exact h b q
      · obtain rfl : b = k := by omega
        exact ⟨g1, g2, g3⟩
theorem cl_63 {d : jx_M} {t0 t : Nat} {m : jx_M} {Q : Int → jx_M → Prop} (ht0 : t0 < 2) (ht : t < 3) (hw : dt_w d) (hr : rc_T m t d) (K : ∀ m2 : jx_M, dy_fr t0 m m2 → dy_ok m2 t0 d → Q 0 m2) : jx_Cl 63 [xA 14 t0, xA 1 t] m Q := by
  have hbu := hw.2.2.1
  refine sg_63 t0 t m Q ⟨ht0, cl_64 ht0 ht hw hr (fun m1 hf1 hc hN => ⟨ht0, cl_65 ht0 ht hw (dy_fr_rc hf1 hr) (fun m2 hf2 hl => ⟨ht, ht0, ?_⟩)⟩)⟩
  have hf2' : dy_fr t0 m m2 := fun s i j hn => (hf2 s i j (fun z => hn ⟨by omega, by omega, z.2⟩)).trans (hf1 s i j hn)
  have hr2 := dy_fr_rc hf2' hr
  have e5 := hr2.2.2.1
  rw [e5]
  refine lp_63 ht0 ht hw (dy_fr_rc (dy_fr_up (j := 4) (v := d 1 0 1) hf2' (show 14 ≤ 14 ∧ 14 ≤ 19 by omega)) hr) (fun u hu => ?_) (fun kd hk => ?_) ?_ up_eq (fun m3 hf3 hok => K m3 (dy_fr_tr (dy_fr_up hf2' (by omega)) hf3) hok) (d 1 0 1).toNat 0 _ (by omega) (fun _ _ _ _ => rfl) (fun b hb => by omega)
  · rw [up_ne (by omega), hf2 18 t0 u (by omega)]; exact hc u hu
  · rw [up_ne (by omega)]; exact hl kd hk
  · rw [up_ne (by omega), hf2 14 t0 3 (by omega)]; exact hN
theorem lp_70 {d : jx_M} {t0 : Nat} {a : Int} {m : jx_M} {Q : Int → jx_M → Prop} (ht0 : t0 < 2) (hw : dt_w d) (hk : dy_ok m t0 d) (hq : Q (sp_br d a) m) :
    ∀ (r k : Nat), k + r = (d 1 0 1).toNat → jx_AW 70 4 [some (xA 14 t0), some (xI a), some (xI (nb_ct (fun b => (sp_life d b 120).2.1 = a) k)), some (xI (k : Int))] [] m Q := by
  have hbu := hw.2.2.1
  obtain ⟨h1, h3, h4⟩ := hk
  intro r
  induction r with
  | zero =>
    intro k hk
    obtain rfl : k = (d 1 0 1).toNat := by omega
    exact sg_70_4 t0 a _ _ m Q ⟨ht0, fun z => by omega, fun _ => hq⟩
  | succ r ih =>
    intro k hk
    have nxt := ih (k + 1) (by omega)
    have hc := nb_ct_in (fun b => (sp_life d b 120).2.1 = a) k
    refine sg_70_4 t0 a _ _ m Q ?_
    rw [show ((k : Int)).toNat = k by omega, (h1 k (by omega)).1]
    refine ⟨ht0, fun _ => ⟨ht0, by omega, ht0, fun h => ⟨by omega, by omega, ?_⟩, fun h => ⟨by omega, ?_⟩⟩, fun h => by omega⟩
    · rw [nb_ct_yes (P := fun b => (sp_life d b 120).2.1 = a) h] at nxt; exact nxt
    · rw [nb_ct_no (P := fun b => (sp_life d b 120).2.1 = a) h] at nxt; exact nxt
theorem cl_70 {d : jx_M} {t0 : Nat} {a : Int} {m : jx_M} {Q : Int → jx_M → Prop} (ht0 : t0 < 2) (hw : dt_w d) (hk : dy_ok m t0 d) (hq : Q (sp_br d a) m) : jx_Cl 70 [xA 14 t0, xI a] m Q :=
  sg_70 t0 a m Q (lp_70 ht0 hw hk hq (d 1 0 1).toNat 0 (by omega))
theorem lp_72 {d : jx_M} {t0 : Nat} {m : jx_M} {Q : Int → jx_M → Prop} (ht0 : t0 < 2) (hw : dt_w d) (hk : dy_ok m t0 d) (hq : Q (sp_buy d) m) :
    ∀ (r k : Nat), k + r = (d 1 0 1).toNat → jx_AW 72 4 [some (xA 14 t0), some (xI (nb_ct (fun b => 0 ≤ (sp_life d b 120).2.1) k)), some (xI (k : Int))] [] m Q := by
  have hbu := hw.2.2.1
  obtain ⟨h1, h3, h4⟩ := hk
  intro r
  induction r with
  | zero =>
    intro k hk
    obtain rfl : k = (d 1 0 1).toNat := by omega
    exact sg_72_4 t0 _ _ m Q ⟨ht0, fun z => by omega, fun _ => hq⟩
  | succ r ih =>
    intro k hk
    have nxt := ih (k + 1) (by omega)
    have hc := nb_ct_in (fun b => 0 ≤ (sp_life d b 120).2.1) k
    refine sg_72_4 t0 _ _ m Q ?_
    rw [show ((k : Int)).toNat = k by omega, (h1 k (by omega)).1]
    refine ⟨ht0, fun _ => ⟨ht0, by omega, ht0, fun h => ⟨by omega, ?_⟩, fun h => ⟨by omega, by omega, ?_⟩⟩, fun h => by omega⟩
    · rw [nb_ct_no (P := fun b => 0 ≤ (sp_life d b 120).2.1) (show ¬ 0 ≤ (sp_life d k 120).2.1 by omega)] at nxt; exact nxt
    · rw [nb_ct_yes (P := fun b => 0 ≤ (sp_life d b 120).2.1) (show 0 ≤ (sp_life d k 120).2.1 by omega)] at nxt; exact nxt
theorem cl_72 {d : jx_M} {t0 : Nat} {m : jx_M} {Q : Int → jx_M → Prop} (ht0 : t0 < 2) (hw : dt_w d) (hk : dy_ok m t0 d) (hq : Q (sp_buy d) m) : jx_Cl 72 [xA 14 t0] m Q :=
  sg_72 t0 m Q (lp_72 ht0 hw hk hq (d 1 0 1).toNat 0 (by omega))
theorem lp_73 {d : jx_M} {t0 : Nat} {m : jx_M} {Q : Int → jx_M → Prop} (ht0 : t0 < 2) (hw : dt_w d) (hk : dy_ok m t0 d) (hq : Q (sp_wst d) m) :
    ∀ (r k : Nat), k + r = (d 1 0 1).toNat → jx_AW 73 4 [some (xA 14 t0), some (xI (dt_sum (fun b => (sp_life d b 120).2.2.2) k)), some (xI (k : Int))] [] m Q := by
  have hbu := hw.2.2.1
  obtain ⟨h1, h3, h4⟩ := hk
  intro r
  induction r with
  | zero =>
    intro k hk
    obtain rfl : k = (d 1 0 1).toNat := by omega
    exact sg_73_4 t0 _ _ m Q ⟨ht0, fun z => by omega, fun _ => hq⟩
  | succ r ih =>
    intro k hk
    have nxt := ih (k + 1) (by omega)
    have hd := dt_sum_in (f := fun b => (sp_life d b 120).2.2.2) (b := 120) k (fun i hi => (lf_life (hw.2.2.2.2.2.2.2.1 i (by omega)) 120 (by omega)).2.2)
    have hv : 0 ≤ (sp_life d k 120).2.2.2 ∧ (sp_life d k 120).2.2.2 ≤ 120 := (lf_life (hw.2.2.2.2.2.2.2.1 k (by omega)) 120 (by omega)).2.2
    refine sg_73_4 t0 _ _ m Q ?_
    rw [show ((k : Int)).toNat = k by omega, (h1 k (by omega)).2.2]
    exact ⟨ht0, fun _ => ⟨ht0, by omega, ht0, by omega, by omega, nxt⟩, fun h => by omega⟩
theorem cl_73 {d : jx_M} {t0 : Nat} {m : jx_M} {Q : Int → jx_M → Prop} (ht0 : t0 < 2) (hw : dt_w d) (hk : dy_ok m t0 d) (hq : Q (sp_wst d) m) : jx_Cl 73 [xA 14 t0] m Q :=
  sg_73 t0 m Q (lp_73 ht0 hw hk hq (d 1 0 1).toNat 0 (by omega))
-- COUNTS: by minutes and by stops
theorem nb_or {A B : Nat → Prop} : ∀ (n : Nat), (∀ i, i < n → ¬ (A i ∧ B i)) → nb_ct (fun i => A i ∨ B i) n = nb_ct A n + nb_ct B n
  | 0, _ => rfl
  | n + 1, h => by
    have e := nb_or n (fun i hi => h i (by omega))
    show nb_ct (fun i => A i ∨ B i) n + nb_c (A n ∨ B n) = nb_ct A n + nb_c (A n) + (nb_ct B n + nb_c (B n))
    rw [e]
    have hn := h n (by omega)
    rcases Classical.em (A n) with a | a
    · rw [nb_t (Or.inl a : A n ∨ B n), nb_t a, nb_f (fun b => hn ⟨a, b⟩)]; omega
    · rcases Classical.em (B n) with b | b
      · rw [nb_t (Or.inr b : A n ∨ B n), nb_f a, nb_t b]; omega
      · rw [nb_f (fun z : A n ∨ B n => z.elim a b), nb_f a, nb_f b]; omega
theorem nb_none {A : Nat → Prop} : ∀ (n : Nat), (∀ i, i < n → ¬ A i) → nb_ct A n = 0
  | 0, _ => rfl
  | n + 1, h => by
    rw [nb_ct_no (h n (by omega))]
    exact nb_none n (fun i hi => h i (by omega))
theorem nb_one {A : Nat → Prop} {c : Nat} : ∀ (n : Nat), c < n → (∀ i, i < n → (A i → i = c)) → nb_ct A n = nb_c (A c)
  | 0, h, _ => by omega
  | n + 1, h, hA => by
    rcases Nat.lt_or_ge c n with q | q
    · rw [nb_ct_no (fun z => by have := hA n (by omega) z; omega)]
      exact nb_one n q (fun i hi => hA i (by omega))
    · obtain rfl : c = n := by omega
      show nb_ct A c + nb_c (A c) = _
      rw [nb_none c (fun i hi z => by have := hA i (by omega) z; omega), Int.zero_add]
theorem nb_stops {P : Int → Prop} {b p : Int} (hb : 0 ≤ b) (hp : 1 ≤ p) (hP : ∀ t, P t → 0 ≤ t ∧ t < 120) : ∀ n : Nat, nb_ct (fun t => P t ∧ ∃ i : Nat, i < n ∧ (t : Int) = b + (i : Int) * p) 120 = nb_ct (fun i => P (b + (i : Int) * p)) n
  | 0 => nb_none 120 (fun i _ z => by obtain ⟨-, j, h, -⟩ := z; omega)
  | n + 1 => by
    have e := nb_stops (P := P) hb hp hP n
    have mono : ∀ i : Nat, i < n → (i : Int) * p < (n : Int) * p := fun i hi => Int.mul_lt_mul_of_pos_right (by omega) (by omega)
    have hn0 : 0 ≤ (n : Int) * p := Int.mul_nonneg (by omega) (by omega)
    rw [nb_ct_iff (R := fun t : Nat => (P t ∧ ∃ i : Nat, i < n ∧ (t : Int) = b + (i : Int) * p) ∨ (P t ∧ (t : Int) = b + (n : Int) * p)) 120 (fun t _ => by
      constructor
      · rintro ⟨h1, i, h2, h3⟩
        rcases Nat.lt_or_ge i n with q | q
        · exact Or.inl ⟨h1, i, q, h3⟩
        · obtain rfl : i = n := by omega
          exact Or.inr ⟨h1, h3⟩
      · rintro (⟨h1, i, h2, h3⟩ | ⟨h1, h3⟩)
        · exact ⟨h1, i, by omega, h3⟩
        · exact ⟨h1, n, by omega, h3⟩),
      nb_or (A := fun t : Nat => P t ∧ ∃ i : Nat, i < n ∧ (t : Int) = b + (i : Int) * p) (B := fun t : Nat => P t ∧ (t : Int) = b + (n : Int) * p) 120 (fun t _ z => by
        obtain ⟨⟨-, i, h2, h3⟩, -, h4⟩ := z
        have := mono i h2
        omega), e]
    show _ = nb_ct (fun i => P (b + (i : Int) * p)) n + nb_c (P (b + (n : Int) * p))
    refine congrArg (fun x => nb_ct (fun i => P (b + (i : Int) * p)) n + x) ?_
    rcases Classical.em (P (b + (n : Int) * p)) with q | q
    · have hr := hP _ q
      rw [nb_one (A := fun t : Nat => P t ∧ (t : Int) = b + (n : Int) * p) (c := (b + (n : Int) * p).toNat) 120 (by omega) (fun i hi z => by have := z.2; omega)]
      have ec : (((b + (n : Int) * p).toNat : Nat) : Int) = b + (n : Int) * p := by omega
      exact nb_iff (by rw [ec]; exact ⟨fun z => z.1, fun z => ⟨z, rfl⟩⟩)
    · rw [nb_f q]
      exact nb_none 120 (fun t _ z => by have h1 := z.1; have h2 := z.2; rw [h2] at h1; exact q h1)
theorem dt_sum_iff {f g : Nat → Int} : ∀ (n : Nat), (∀ i, i < n → f i = g i) → dt_sum f n = dt_sum g n
  | 0, _ => rfl
  | n + 1, h => by
    unfold dt_sum
    rw [dt_sum_iff n (fun i hi => h i (by omega)), h n (by omega)]
theorem dt_sum_add (f g : Nat → Int) : ∀ n : Nat, dt_sum (fun i => f i + g i) n = dt_sum f n + dt_sum g n
  | 0 => rfl
  | n + 1 => by
    show dt_sum (fun i => f i + g i) n + (f n + g n) = dt_sum f n + f n + (dt_sum g n + g n)
    rw [dt_sum_add f g n]
    omega
theorem dt_sum_c (P : Nat → Prop) : ∀ n : Nat, dt_sum (fun i => nb_c (P i)) n = nb_ct P n
  | 0 => rfl
  | n + 1 => by
    show dt_sum (fun i => nb_c (P i)) n + nb_c (P n) = nb_ct P n + nb_c (P n)
    rw [dt_sum_c P n]
theorem dt_sum_0 : ∀ n : Nat, dt_sum (fun _ => 0) n = 0
  | 0 => rfl
  | n + 1 => by
    show dt_sum (fun _ => 0) n + 0 = 0
    rw [dt_sum_0 n]; rfl
/-- first over minutes, then over sellers; or the other way about -/
theorem nb_swap (R : Nat → Nat → Prop) (k : Nat) : ∀ n : Nat, dt_sum (fun t => nb_ct (fun s => R s t) n) k = dt_sum (fun s => nb_ct (fun t => R s t) k) n
  | 0 => dt_sum_0 k
  | n + 1 => by
    have e := nb_swap R k n
    show dt_sum (fun t => nb_ct (fun s => R s t) n + nb_c (R n t)) k = dt_sum (fun s => nb_ct (fun t => R s t) k) n + nb_ct (fun t => R n t) k
    rw [dt_sum_add (fun t => nb_ct (fun s => R s t) n) (fun t => nb_c (R n t)) k, e, dt_sum_c]
theorem cs_min {d : jx_M} {s : Nat} (hw : dt_wS d s) : nb_ct (fun t => sp_cry d s t) 120 = cs_n d s (d 2 s 4).toNat := by
  have h1 := hw.2.2.1
  have h2 := hw.2.2.2.1
  rw [cs_n, ← nb_stops (P := sp_cry d s) (b := d 2 s 2) (p := d 2 s 3) (by omega) (by omega) (fun t h => h.1)]
  refine nb_ct_iff 120 (fun t _ => ⟨fun h => ⟨h, ?_⟩, fun h => h.1⟩)
  obtain ⟨i, i1, i2⟩ := cry_stop hw h.2.1
  exact ⟨i, by omega, i2⟩
theorem cs_all {d : jx_M} (hw : dt_w d) : cs_N d (d 1 0 0).toNat = sp_crs d := by
  have hn := hw.2.1
  unfold sp_crs cs_N
  rw [nb_swap (fun s t => sp_cry d s t) 120]
  exact (dt_sum_iff _ (fun i hi => cs_min (hw.2.2.2.2.2.2.1 i (by omega)))).symm
theorem tm_min {d : jx_M} {cc : Int} {s : Nat} (hw : dt_wS d s) : nb_ct (fun t => sp_he d cc s t) 120 = sp_tm d cc s := by
  have h1 := hw.2.2.1
  have h2 := hw.2.2.2.1
  rw [sp_tm, ← nb_stops (P := sp_he d cc s) (b := d 2 s 2) (p := d 2 s 3) (by omega) (by omega) (fun t h => h.1.1)]
  refine nb_ct_iff 120 (fun t _ => ⟨fun h => ⟨h, ?_⟩, fun h => h.1⟩)
  obtain ⟨i, i1, i2⟩ := cry_stop hw h.1.2.1
  exact ⟨i, by omega, i2⟩
theorem loud_min {d : jx_M} {cc : Int} (hw : dt_w d) : dt_sum (fun t => nb_ct (fun s => sp_he d cc s t) (d 1 0 0).toNat) 120 = sp_loud d cc := by
  have hn := hw.2.1
  unfold sp_loud
  rw [nb_swap (fun s t => sp_he d cc s t) 120]
  exact dt_sum_iff _ (fun i hi => tm_min (hw.2.2.2.2.2.2.1 i (by omega)))
