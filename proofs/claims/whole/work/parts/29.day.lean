/-! the reference: what comes of a day -/
noncomputable def sp_br (d : jx_M) (s : Int) : Int := nb_ct (fun b => (sp_life d b 120).2.1 = s) (d 1 0 1).toNat
noncomputable def sp_buy (d : jx_M) : Int := nb_ct (fun b => 0 ≤ (sp_life d b 120).2.1) (d 1 0 1).toNat
noncomputable def sp_wst (d : jx_M) : Int := dt_sum (fun b => (sp_life d b 120).2.2.2) (d 1 0 1).toNat
noncomputable def sp_crs (d : jx_M) : Int := dt_sum (fun t => nb_ct (fun s => sp_cry d s t) (d 1 0 0).toNat) 120
theorem lp_161 {d : jx_M} {a : Int} {m : jx_M} {Q : Int → jx_M → Prop} (hw : dt_w d) (hr : re_T m d) (hl : ∀ b : Nat, (b : Int) < d 1 0 1 → lf_row m b = sp_life d b 120) (hq : Q (sp_br d a) m) :
    ∀ (r k : Nat), k + r = (d 1 0 1).toNat → jx_AW 161 6 [some (xA 26 0), some (xI a), some (xI (nb_ct (fun b => (sp_life d b 120).2.1 = a) k)), some (xI (k : Int))] [] m Q := by
  have hbu := hw.2.2.1
  have en := hr.2.2.1
  intro r
  induction r with
  | zero =>
    intro k hk
    obtain rfl : k = (d 1 0 1).toNat := by omega
    exact sg_161_6 a _ _ m Q ⟨by omega, fun h => by omega, fun _ => hq⟩
  | succ r ih =>
    intro k hk
    have nxt := ih (k + 1) (by omega)
    have hc := nb_ct_in (fun b => (sp_life d b 120).2.1 = a) k
    have e : m 36 0 k = (sp_life d k 120).2.1 := by rw [← hl k (by omega)]; rfl
    refine sg_161_6 a _ _ m Q ?_
    rw [show ((k : Int)).toNat = k by omega, e]
    refine ⟨by omega, fun _ => ⟨by omega, by omega, by omega, fun h => ⟨by omega, by omega, ?_⟩, fun h => ⟨by omega, by omega, ?_⟩⟩, fun h => by omega⟩
    · rw [nb_ct_yes (P := fun b => (sp_life d b 120).2.1 = a) h] at nxt; exact nxt
    · rw [nb_ct_no (P := fun b => (sp_life d b 120).2.1 = a) h] at nxt; rw [Int.add_zero]; exact nxt
theorem cl_161 {d : jx_M} {a : Int} {m : jx_M} {Q : Int → jx_M → Prop} (hw : dt_w d) (hr : re_T m d) (hal : m 26 0 17 < 0) (K : ∀ (m2 : jx_M), lf_fr m m2 → Q (sp_br d a) m2) : jx_Cl 161 [xA 26 0, xI a] m Q := by
  have hbu := hw.2.2.1
  exact sg_161 a m Q ⟨by omega, cl_157 hw hr hal (fun m2 hf hl => lp_161 hw (lf_fr_re hf hr) hl (K m2 hf) (d 1 0 1).toNat 0 (by omega))⟩
theorem lp_162_49 {d : jx_M} {a b2 b3 : Int} {t : Nat} {m : jx_M} {Q : Int → jx_M → Prop} (hw : dt_w d) (hr : re_T m d) (hal : m 26 0 17 < 0) (ht : t < 120) (b4 : Int) (hb4 : 0 ≤ b4 ∧ b4 ≤ 6 * 120)
    (K : ∀ w : Option jx_V, jx_AW 162 44 [some (xA 26 0), some (xI a), some (xI b2), some (xI b3), some (xI (b4 + nb_ct (fun s => sp_cry d s t) (d 1 0 0).toNat)), some (xI ((t : Int) + 1)), w] [] m Q) :
    ∀ (r k : Nat), k + r = (d 1 0 0).toNat → jx_AW 162 49 [some (xA 26 0), some (xI a), some (xI b2), some (xI b3), some (xI (b4 + nb_ct (fun s => sp_cry d s t) k)), some (xI (t : Int)), some (xI (k : Int))] [] m Q := by
  have hs := hw.2.1
  have en := hr.2.1
  intro r
  induction r with
  | zero =>
    intro k hk
    obtain rfl : k = (d 1 0 0).toNat := by omega
    exact sg_162_49 a b2 b3 _ _ _ m Q ⟨by omega, fun h => by omega, fun _ => ⟨by omega, K _⟩⟩
  | succ r ih =>
    intro k hk
    have nxt := ih (k + 1) (by omega)
    have hc := nb_ct_in (fun s => sp_cry d s t) k
    refine sg_162_49 a b2 b3 _ _ _ m Q ⟨by omega, fun _ => ⟨by omega, cl_147 hw hr (by omega) (by omega) (Or.inl hal) (fun hy => ⟨fun z => by omega, fun _ => ⟨by omega, by omega, ?_⟩⟩) (fun hy => ⟨fun _ => ⟨by omega, by omega, ?_⟩, fun z => by omega⟩)⟩, fun h => by omega⟩
    · rw [nb_ct_yes (P := fun s => sp_cry d s t) (n := k) ((sp_cryM_of hal (by omega)).mp hy), ← Int.add_assoc] at nxt; exact nxt
    · rw [nb_ct_no (P := fun s => sp_cry d s t) (n := k) (fun z => hy ((sp_cryM_of hal (by omega)).mpr z))] at nxt; rw [Int.add_zero]; exact nxt
theorem lp_162_44 {d : jx_M} {a b2 b3 : Int} {m : jx_M} {Q : Int → jx_M → Prop} (hw : dt_w d) (hr : re_T m d) (hal : m 26 0 17 < 0) (h0 : a = 0 → Q b2 m) (h1 : a = 1 → Q b3 m) (h2 : ¬ a = 0 → ¬ a = 1 → Q (sp_crs d) m) :
    ∀ (r t : Nat) (w : Option jx_V), t + r = 120 → jx_AW 162 44 [some (xA 26 0), some (xI a), some (xI b2), some (xI b3), some (xI (dt_sum (fun t => nb_ct (fun s => sp_cry d s t) (d 1 0 0).toNat) t)), some (xI (t : Int)), w] [] m Q := by
  have hs := hw.2.1
  intro r
  induction r with
  | zero =>
    intro t w ht
    obtain rfl : t = 120 := by omega
    exact sg_162_44 a b2 b3 _ _ w m Q ⟨fun h => by omega, fun _ => ⟨h0, fun z => ⟨h1, fun z2 => h2 z z2⟩⟩⟩
  | succ r ih =>
    intro t w ht
    have hc := dt_sum_in (f := fun t => nb_ct (fun s => sp_cry d s t) (d 1 0 0).toNat) (b := 6) t (fun i _ => by have := nb_ct_in (fun s => sp_cry d s i) (d 1 0 0).toNat; show 0 ≤ nb_ct (fun s => sp_cry d s i) (d 1 0 0).toNat ∧ nb_ct (fun s => sp_cry d s i) (d 1 0 0).toNat ≤ 6; omega)
    refine sg_162_44 a b2 b3 _ _ w m Q ⟨fun _ => ?_, fun h => by omega⟩
    have l := lp_162_49 (a := a) (b2 := b2) (b3 := b3) (Q := Q) hw hr hal (t := t) (by omega) (dt_sum (fun t => nb_ct (fun s => sp_cry d s t) (d 1 0 0).toNat) t) (by omega) (fun w => ih (t + 1) w (by omega)) (d 1 0 0).toNat 0 (by omega)
    rw [show nb_ct (fun s => sp_cry d s t) 0 = 0 from rfl, Int.add_zero] at l
    exact l
theorem lp_162 {d : jx_M} {a : Int} {m : jx_M} {Q : Int → jx_M → Prop} (hw : dt_w d) (hr : re_T m d) (hal : m 26 0 17 < 0) (hl : ∀ b : Nat, (b : Int) < d 1 0 1 → lf_row m b = sp_life d b 120) (h0 : a = 0 → Q (sp_buy d) m) (h1 : a = 1 → Q (sp_wst d) m) (h2 : ¬ a = 0 → ¬ a = 1 → Q (sp_crs d) m) :
    ∀ (r k : Nat) (w5 w6 : Option jx_V), k + r = (d 1 0 1).toNat → jx_AW 162 16 [some (xA 26 0), some (xI a), some (xI (nb_ct (fun b => 0 ≤ (sp_life d b 120).2.1) k)), some (xI (dt_sum (fun b => (sp_life d b 120).2.2.2) k)), some (xI (k : Int)), w5, w6] [] m Q := by
  have hbu := hw.2.2.1
  have en := hr.2.2.1
  intro r
  induction r with
  | zero =>
    intro k w5 w6 hk
    obtain rfl : k = (d 1 0 1).toNat := by omega
    exact sg_162_16 a _ _ _ w5 w6 m Q ⟨by omega, fun h => by omega, fun _ => lp_162_44 hw hr hal h0 h1 h2 120 0 w6 (by omega)⟩
  | succ r ih =>
    intro k w5 w6 hk
    have nxt := ih (k + 1) w5 w6 (by omega)
    have hc := nb_ct_in (fun b => 0 ≤ (sp_life d b 120).2.1) k
    have hd := dt_sum_in (f := fun b => (sp_life d b 120).2.2.2) (b := 120) k (fun i hi => (lf_life (hw.2.2.2.2.2.2.2.1 i (by omega)) 120 (by omega)).2.2)
    have hv : 0 ≤ (sp_life d k 120).2.2.2 ∧ (sp_life d k 120).2.2.2 ≤ 120 := (lf_life (hw.2.2.2.2.2.2.2.1 k (by omega)) 120 (by omega)).2.2
    have e : m 36 0 k = (sp_life d k 120).2.1 := by rw [← hl k (by omega)]; rfl
    have e8 : m 38 0 k = (sp_life d k 120).2.2.2 := by rw [← hl k (by omega)]; rfl
    refine sg_162_16 a _ _ _ w5 w6 m Q ?_
    rw [show ((k : Int)).toNat = k by omega, e, e8]
    refine ⟨by omega, fun _ => ⟨by omega, by omega, by omega, fun h => ⟨by omega, by omega, by omega, by omega, by omega, by omega, ?_⟩, fun h => ⟨by omega, by omega, by omega, by omega, by omega, by omega, ?_⟩⟩, fun h => by omega⟩
    · rw [nb_ct_no (P := fun b => 0 ≤ (sp_life d b 120).2.1) (show ¬ 0 ≤ (sp_life d k 120).2.1 by omega)] at nxt; rw [Int.add_zero]; exact nxt
    · rw [nb_ct_yes (P := fun b => 0 ≤ (sp_life d b 120).2.1) (show 0 ≤ (sp_life d k 120).2.1 by omega)] at nxt; exact nxt
/-- what day answers -/
noncomputable def sp_q162 (d : jx_M) (a : Int) : Int := if a = 0 then sp_buy d else if a = 1 then sp_wst d else if a = 2 then sp_crs d else -1
theorem cl_162 {d : jx_M} {a : Int} {m : jx_M} {Q : Int → jx_M → Prop} (hw : dt_w d) (hr : re_T m d) (hal : m 26 0 17 < 0) (K : ∀ (m2 : jx_M), lf_fr m m2 → Q (sp_q162 d a) m2) : jx_Cl 162 [xA 26 0, xI a] m Q := by
  have hbu := hw.2.2.1
  unfold sp_q162 at K
  refine sg_162 a m Q (cl_125 (fun h => ⟨fun z => by omega, fun _ => ⟨by omega, cl_157 hw hr hal (fun m2 hf hl => ?_)⟩⟩) (fun h => ⟨fun _ => ?_, fun z => by omega⟩))
  · have k := K m2 hf
    refine lp_162 hw (lf_fr_re hf hr) (by rw [hf 26 0 17 (by omega)]; exact hal) hl (fun z => ?_) (fun z => ?_) (fun z z2 => ?_) (d 1 0 1).toNat 0 none none (by omega)
    · rw [if_pos z] at k; exact k
    · rw [if_neg (by omega), if_pos z] at k; exact k
    · rw [if_neg z, if_neg z2, if_pos (by omega)] at k; exact k
  · have k := K m (fun _ _ _ _ => rfl)
    rw [if_neg (by omega), if_neg (by omega), if_neg (by omega)] at k
    exact k
