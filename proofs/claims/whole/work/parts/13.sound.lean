/-! the run of a method, whole -/
section
variable {E : jx_E} {ph : Bool} {xs : Nat → Int} {L : Int} {p : Program} {l : Launch} {e : Env} {R : Room} {s : State} {mm : MethodId} {args : Array Value} {below : List Frame} {meth : Method} {c : Code} {Q : State → Prop} {n0 x : Nat}
theorem jg_nop {x i : Nat} (h : (jx_row x i).1 ≠ .nop) : i < (jx_nth jx_cd x []).length ∧ x < 192 := by
  have h1 : i < (jx_nth jx_cd x []).length := by
    rcases Nat.lt_or_ge i (jx_nth jx_cd x []).length with q | q
    · exact q
    · exact absurd (by unfold jx_row; rw [jl_nth_out _ _ _ q]) h
  refine ⟨h1, ?_⟩
  rcases Nat.lt_or_ge x 192 with q | q
  · exact q
  · rw [jl_nth_out _ _ _ (show jx_cd.length ≤ x from q)] at h1
    cases h1
theorem jg_stepRow {x i : Nat} {t : jx_S} {q : jx_Q} (h : jx_step ph (jx_row x i) t = some q) : i < (jx_nth jx_cd x []).length ∧ x < 192 := by
  refine jg_nop (fun e1 => ?_)
  unfold jx_step jx_sem at h
  simp only [e1] at h
  cases h
theorem jg_retRow {x i : Nat} {st : List jx_V} {z : Int} (h : jx_rv x (jx_row x i) st = some z) : i < (jx_nth jx_cd x []).length ∧ x < 192 := by
  refine jg_nop (fun e1 => ?_)
  unfold jx_rv at h
  simp only [e1] at h
  cases h
theorem jg_pcs : ((List.range 192).all (fun x => Nat.beq (jx_pc x 0) 0)) = true := by decide +kernel
theorem jg_pc0 {x : Nat} (h : x < 192) : jx_pc x 0 = 0 := ji_beq (List.all_eq_true.mp jg_pcs x (List.mem_range.mpr h))
-- a method's locals at its start
theorem jt_exp : ∀ (as : List jx_V) (o : Nat), jx_lv E o (jx_exp as) = lv_args o (as.map (jx_con E))
  | [], o => rfl
  | .inl z :: as, o => by
    show (o, jx_con E (.inl z)) :: jx_lv E (o + 1) (jx_exp as) = _
    rw [jt_exp as (o + 1)]
    rfl
  | .inr (.inl z) :: as, o => by
    show (o, jx_con E (.inr (.inl z))) :: jx_lv E (o + 2) (jx_exp as) = _
    rw [jt_exp as (o + 2)]
    rfl
  | .inr (.inr q) :: as, o => by
    show (o, jx_con E (.inr (.inr q))) :: jx_lv E (o + 1) (jx_exp as) = _
    rw [jt_exp as (o + 1)]
    rfl
theorem jt_pad0 : ∀ (k o : Nat), jx_lv E o (jx_pad [] k) = []
  | 0, o => rfl
  | k + 1, o => jt_pad0 k (o + 1)
theorem jt_pad : ∀ (ls : jx_L) (k o : Nat), jx_lv E o (jx_pad ls k) = jx_lv E o ls
  | ls, 0, o => by cases ls <;> rfl
  | [], k + 1, o => jt_pad0 (k + 1) o
  | some v :: ls, k + 1, o => by
    show (o, jx_con E v) :: jx_lv E (o + 1) (jx_pad ls k) = (o, jx_con E v) :: jx_lv E (o + 1) ls
    rw [jt_pad ls k (o + 1)]
  | none :: ls, k + 1, o => jt_pad ls k (o + 1)
theorem jt_len : ∀ (ls : jx_L) (k : Nat), ls.length ≤ k → (jx_pad ls k).length = k
  | [], 0, _ => rfl
  | v :: ls, 0, h => by simp at h
  | [], k + 1, _ => by
    show (jx_pad [] k).length + 1 = k + 1
    rw [jt_len [] k (Nat.zero_le _)]
  | v :: ls, k + 1, h => by
    show (jx_pad ls k).length + 1 = k + 1
    rw [jt_len ls k (by simpa using h)]
theorem jt_nth : ∀ (ls : jx_L) (k i : Nat), jx_nth (jx_pad ls k) i none = jx_nth ls i none
  | ls, 0, i => by cases ls <;> rfl
  | [], k + 1, 0 => rfl
  | [], k + 1, i + 1 => by
    show jx_nth (jx_pad [] k) i none = none
    rw [jt_nth [] k i]
    cases i <;> rfl
  | v :: ls, k + 1, 0 => rfl
  | v :: ls, k + 1, i + 1 => jt_nth ls k i
theorem jt_wf : ∀ (as : List jx_V), (∀ v ∈ as, jx_wV v) → ∀ i v, jx_nth (jx_exp as) i none = some v → jx_wV v
  | [], _, i, v, h => by cases i <;> cases h
  | .inl z :: as, hw, 0, v, h => by cases h; exact hw _ List.mem_cons_self
  | .inl z :: as, hw, i + 1, v, h => jt_wf as (fun v hv => hw v (List.mem_cons_of_mem _ hv)) i v h
  | .inr (.inr q) :: as, hw, 0, v, h => by cases h; exact trivial
  | .inr (.inr q) :: as, hw, i + 1, v, h => jt_wf as (fun v hv => hw v (List.mem_cons_of_mem _ hv)) i v h
  | .inr (.inl z) :: as, hw, 0, v, h => by cases h; exact hw _ List.mem_cons_self
  | .inr (.inl z) :: as, hw, 1, v, h => by cases h
  | .inr (.inl z) :: as, hw, i + 2, v, h => jt_wf as (fun v hv => hw v (List.mem_cons_of_mem _ hv)) i v h
theorem jt_sl : ∀ (as : List jx_V), (lg_sl (as.map (jx_con E))).length = (jx_exp as).length
  | [] => rfl
  | .inl z :: as => by
    have ih := jt_sl as
    unfold lg_sl at ih ⊢
    rw [List.map_cons, List.flatMap_cons, List.length_append, ih]
    show 1 + _ = (jx_exp as).length + 1
    omega
  | .inr (.inr q) :: as => by
    have ih := jt_sl as
    unfold lg_sl at ih ⊢
    rw [List.map_cons, List.flatMap_cons, List.length_append, ih]
    show 1 + _ = (jx_exp as).length + 1
    omega
  | .inr (.inl z) :: as => by
    have ih := jt_sl as
    unfold lg_sl at ih ⊢
    rw [List.map_cons, List.flatMap_cons, List.length_append, ih]
    show 2 + _ = (jx_exp as).length + 1 + 1
    omega
theorem jt_ent {y : Nat} {as : List jx_V} {n : Nat} {m : jx_M} (has : ∀ v ∈ as, jx_wV v) (hl : (jx_exp as).length ≤ jx_mL y) (hM : jx_wM xs L m ∧ (ph = true → n = 190) ∧ n ≤ 190) : jx_wf ph xs L y (0, jx_ent y as, [], n, m) :=
  ⟨fun k v h => jt_wf as has k v (by have h : jx_nth (jx_pad (jx_exp as) (jx_mL y)) k none = some v := h; rw [jt_nth] at h; exact h), jt_len _ _ hl, (fun v h => by cases h), hM⟩
theorem jt_rv {y : Nat} {t : jx_S} {z : Int} (hwf : jx_wf ph xs L y t) (h : jx_rv y (jx_row y t.1) t.2.2.1 = some z) : jx_in z := by
  unfold jx_rv at h
  split at h
  · rename_i v e1 e2
    have hv : jx_in v := hwf.2.2.1 (.inl v) (by rw [e2]; exact List.mem_cons_self)
    cases h1 : jx_mV y
    · simp only [h1, cond_false] at h
      cases hb : ((jx_row y t.1).2.1 == 1)
      · simp only [hb, cond_false] at h; cases h; exact hv
      · simp only [hb, cond_true] at h
        obtain ⟨-, h⟩ := ji_if h; cases h; exact hv
    · simp only [h1, cond_true] at h
      cases h
  · cases h1 : jx_mV y
    · simp only [h1, cond_false] at h; cases h
    · simp only [h1, cond_true] at h; cases h; omega
  · cases h
/-- arguments and what stays behind on the stack at a call -/
theorem jt_inr {i : Nat} {ls : jx_L} {st : List jx_V} {n : Nat} {m : jx_M} {y : Nat} {as rest : List jx_V} (hisC : jx_isC (jx_row x i) = true) (hwf : jx_wf ph xs L x (i, ls, st, n, m)) (h : jx_step ph (jx_row x i) (i, ls, st, n, m) = some (.inr (y, as, rest))) : (∀ v ∈ as, jx_wV v) ∧ ∀ v ∈ rest, jx_wV v := by
  have hS := hwf.2.2.1
  have main : st = as.reverse ++ rest → (∀ v ∈ as, jx_wV v) ∧ (∀ v ∈ rest, jx_wV v) := by
    intro e3
    have hS : ∀ v ∈ st, jx_wV v := hS
    rw [e3] at hS
    exact ⟨fun v hv => hS v (List.mem_append_left _ (List.mem_reverse.mpr hv)), fun v hv => hS v (List.mem_append_right _ hv)⟩
  have fin : ∀ {vir : Bool}, jx_call none (fun c hd a => @ite _ c hd a none) (fun y as rest => some (.inr (y, as, rest))) ph vir (jx_row x i).2.1 st n = some (Sum.inr (y, as, rest) : jx_Q) → (∀ v ∈ as, jx_wV v) ∧ (∀ v ∈ rest, jx_wV v) := by
    intro vir h
    obtain ⟨as', rest', hq, hst, -⟩ := ji_call h
    cases hq
    exact main hst
  cases ho : (jx_row x i).1
  case invokevirtual k0 =>
    unfold jx_step jx_sem at h
    simp only [ho] at h
    exact fin h
  case invokestatic k0 =>
    unfold jx_step jx_sem at h
    simp only [ho] at h
    split at h
    · obtain ⟨_, _, _, h⟩ := ji_pI h
      obtain ⟨_, _, _, h⟩ := ji_pI h
      obtain ⟨_, _, _, _, h⟩ := ji_pA h
      obtain ⟨_, _, _, h⟩ := ji_pI h
      obtain ⟨_, _, _, _, h⟩ := ji_pA h
      obtain ⟨_, h⟩ := ji_bif h
      obtain ⟨_, h⟩ := ji_if h
      obtain ⟨_, _, h⟩ := ji_gA h
      obtain ⟨_, _, h⟩ := ji_gA h
      cases h
    · obtain ⟨_, _, _, h⟩ := ji_pI h
      obtain ⟨_, _, _, h⟩ := ji_pI h
      obtain ⟨_, h⟩ := ji_bif h
      cases h
    · obtain ⟨_, _, _, h⟩ := ji_pI h
      obtain ⟨_, h⟩ := ji_bif h
      obtain ⟨_, h⟩ := ji_if h
      cases h
    · exact fin h
  case invokespecial k0 =>
    unfold jx_step jx_sem at h
    simp only [ho] at h
    split at h
    · obtain ⟨_, _, _, _, h⟩ := ji_pA h
      obtain ⟨_, h⟩ := ji_bif h
      cases h
    · exact fin h
  all_goals (exfalso; unfold jx_isC at hisC; rw [ho] at hisC; cases hisC)
/-- what one turn of the run is -/
theorem jt_go {k x stop : Nat} {t0 t : jx_S} (h : jx_go ph (k + 1) x stop t0 = some t) : t = t0 ∨ (∃ t1, jx_step ph (jx_row x t0.1) t0 = some (.inl t1) ∧ jx_go ph k x stop t1 = some t) ∨
    (∃ y as rest u z, jx_step ph (jx_row x t0.1) t0 = some (.inr (y, as, rest)) ∧ jx_isC (jx_row x t0.1) = true ∧ (jx_exp as).length ≤ jx_mL y ∧ jx_go ph k y 100000 (0, jx_ent y as, [], t0.2.2.2.1, t0.2.2.2.2) = some u ∧ jx_rv y (jx_row y u.1) u.2.2.1 = some z ∧ jx_go ph k x stop (t0.1 + 1, t0.2.1, jx_psh y z rest, u.2.2.2.1, u.2.2.2.2) = some t) := by
  unfold jx_go at h
  rcases ji_br h with ⟨-, h1⟩ | ⟨-, h1⟩
  · left; cases h1; rfl
  · clear h
    split at h1
    · cases h1
    · rename_i t1 e1
      exact Or.inr (Or.inl ⟨t1, e1, h1⟩)
    · rename_i y as rest e1
      obtain ⟨hc, h2⟩ := ji_bif h1
      obtain ⟨hc, hl⟩ := ji_and hc
      split at h2
      · cases h2
      · rename_i u e2
        split at h2
        · cases h2
        · rename_i z e3
          exact Or.inr (Or.inr ⟨y, as, rest, u, z, e1, hc, Nat.le_of_ble_eq_true hl, e2, e3, h2⟩)
theorem jg_pure (E : jx_E) (p : Program) (l : Launch) (e : Env) (R : Room) (s : State) (mm : MethodId) (args : Array Value) (below : List Frame) (meth : Method) (c : Code) (Q : State → Prop) : ∀ (k x stop : Nat) (t0 t : jx_S), jx_go ph k x stop t0 = some t → jx_wf ph xs L x t0 → jx_wf ph xs L x t ∧ t0.2.2.2.1 ≤ t.2.2.2.1
  | 0, x, stop, t0, t, h, _ => by cases h
  | k + 1, x, stop, t0, t, h, hwf => by
    rcases jt_go h with rfl | ⟨t1, h1, h2⟩ | ⟨y, as, rest, u, z, h1, hc, hl, h2, h3, h4⟩
    · exact ⟨hwf, Nat.le_refl _⟩
    · obtain ⟨i, ls, st, n, m⟩ := t0
      obtain ⟨hi, hx⟩ := jg_stepRow h1
      have K := jk_step (E := E) (p := p) (l := l) (e := e) (R := R) (s := s) (mm := mm) (args := args) (below := below) (meth := meth) (c := c) (Q := Q) (n0 := 0) (jx_ck x hx i hi) hwf h1
      have r := jg_pure E p l e R s mm args below meth c Q k x stop t1 t h2 K.1
      exact ⟨r.1, Nat.le_trans K.2.1 r.2⟩
    · obtain ⟨i, ls, st, n, m⟩ := t0
      obtain ⟨ha, hr⟩ := jt_inr hc hwf h1
      have ru := jg_pure E p l e R s mm args below meth c Q k y 100000 _ u h2 (jt_ent ha hl ⟨hwf.2.2.2.1, hwf.2.2.2.2⟩)
      have hz := jt_rv ru.1 h3
      have r := jg_pure E p l e R s mm args below meth c Q k x stop _ t h4 ⟨hwf.1, hwf.2.1, by
        unfold jx_psh
        show ∀ v ∈ (match jx_mV y with | true => rest | false => xI z :: rest), jx_wV v
        cases jx_mV y
        · exact jw_mk hz hr
        · exact hr, ru.1.2.2.2⟩
      exact ⟨r.1, Nat.le_trans ru.2 r.2⟩
/-- a method's contract out of its run -/
theorem jg_met {k y : Nat} {as : List jx_V} {n : Nat} {m : jx_M} {u : jx_S} {z : Int}
    (IH : ∀ {E : jx_E} {p : Program} {l : Launch} {e : Env} {R : Room} {s : State} {mm : MethodId} {args : Array Value} {below : List Frame} {meth : Method} {c : Code} {Q : State → Prop} {n0 x stop : Nat} {t0 t : jx_S}, jx_C E ph xs L p R s mm args meth c x → jx_go ph k x stop t0 = some t → jx_wf ph xs L x t0 → n0 ≤ t0.2.2.2.1 → t.2.2.2.1 - n0 ≤ R.cells → jx_SL t.2.2.2.1 - jx_SL n0 ≤ R.slots → jx_W E ph p l e R s mm args below meth c Q n0 x t → jx_W E ph p l e R s mm args below meth c Q n0 x t0)
    (hok : jx_okM y = true) (hg : jx_go ph k y 100000 (0, jx_ent y as, [], n, m) = some u) (hz : jx_rv y (jx_row y u.1) u.2.2.1 = some z) (hwf : jx_wf ph xs L y (0, jx_ent y as, [], n, m)) (hl : (jx_exp as).length ≤ jx_mL y) :
    Met l (jx_mN y) (jx_ws y) (jx_rm y (u.2.2.2.1 - n) (jx_SL u.2.2.2.1 - jx_SL n)) (jx_Pc E ph xs L as n m) (jx_Qc E ph xs L y z n u.2.2.2.1 u.2.2.2.2) (u.2.2.2.1 - n) (jx_SL u.2.2.2.1 - jx_SL n) (fun q => E.1 ≤ q) := by
  obtain ⟨w1, w2, w3, w4, -, -, -⟩ := jk_okM hok
  refine Met.ofW (cc := jx_mB y) (maxL := jx_mL y) (ret := jx_mR y) w4 rfl ?_
  intro p e s mm args below meth c s₁ B hml hv
  obtain ⟨hargs, hWd, hG, hX⟩ := hv
  obtain ⟨hi, hy⟩ := jg_retRow hz
  have hrow := jx_ck y hy u.1 hi
  have pu := jg_pure (xs := xs) (L := L) (ph := ph) E p l e (jx_rm y 0 0) s mm args below meth c (fun _ => True) k y 100000 _ u hg hwf
  have hts : ∀ w ∈ jx_gw, w.before args s = true := fun w hw => atoms_spec (ws := jx_ws y) B.pre w (List.mem_cons_of_mem _ hw)
  have C : jx_C E ph xs L p (headSpec (jx_ws y) (jx_rm y (u.2.2.2.1 - n) (jx_SL u.2.2.2.1 - jx_SL n))).room s mm args meth c y :=
    ⟨B.exec, B.bytes, hml, findClass_of_methodNamed B.named, hts, (fun q => by rw [(name_of_methodNamed B.named B.method).1]; exact q), hG, Nat.le_refl _, Nat.le_refl _, hy, hX⟩
  have key : jx_W E ph p l e (headSpec (jx_ws y) (jx_rm y (u.2.2.2.1 - n) (jx_SL u.2.2.2.1 - jx_SL n))).room s mm args below meth c (MQ below (jx_Qc E ph xs L y z n u.2.2.2.1 u.2.2.2.2) args s (u.2.2.2.1 - n) (jx_SL u.2.2.2.1 - jx_SL n) (fun q => E.1 ≤ q)) n y (0, jx_ent y as, [], n, m) := by
    refine IH C hg hwf (Nat.le_refl n) (Nat.le_refl _) (Nat.le_refl _) (fun H locs lsr h1 h2 h3 => ?_)
    have hq : ∀ (v : Option Value), v = jx_ret y z → ∀ t : State, t.heap = H → s.WarmedH t.vm → jx_Qc E ph xs L y z n u.2.2.2.1 u.2.2.2.2 args s (.returned v) t := fun v hv t ht _ => ⟨by rw [hv], by rw [ht]; exact h1, fun q hq => by rw [ht]; exact h2.2.1 q hq, pu.1.2.2.2.1, jt_rv pu.1 hz, pu.2, pu.1.2.2.2.2.2, pu.1.2.2.2.2.1⟩
    have hlocks := B.notSynchronized
    have hr := B.returns
    have hA := (ji_and hrow).2
    unfold jx_rv at hz
    split at hz
    · rename_i v e1 e2
      have hd := jk_dec hrow e1 rfl
      unfold jx_okA at hA
      simp only [e1] at hA
      rw [e2]
      cases h9 : jx_mV y
      · simp only [h9, cond_false] at hz
        have hret : jx_ret y z = some (.int (Int32.ofInt z)) := by unfold jx_ret; rw [h9]
        split at hA
        · rename_i e3
          have hzv : v = z := by
            rw [ji_beq hA] at hz
            cases hz; rfl
          subst hzv
          exact W.iret B.exec B.bytes (by rw [hr, e3]) (hq _ hret.symm) h2.2.2 hd
        · rename_i e3
          rw [ji_beq hA] at hz
          obtain ⟨hb, hz⟩ := ji_if (show (if v = 0 ∨ v = 1 then some v else none) = some z from hz)
          have hzv : v = z := by cases hz; rfl
          subst hzv
          exact W.zret B.exec B.bytes (by rw [hr, e3]) (by rcases hb with rfl | rfl <;> decide +kernel) (hq _ hret.symm) h2.2.2 hd
        · cases hA
      · simp only [h9, cond_true] at hz
        cases hz
    · rename_i e1 e2
      have hd := jk_dec hrow e1 rfl
      unfold jx_okA at hA
      simp only [e1] at hA
      have hA := of_decide_eq_true hA
      rw [e2]
      cases h9 : jx_mV y
      · simp only [h9, cond_false] at hz
        cases hz
      · have hret : jx_ret y z = none := by unfold jx_ret; rw [h9]
        exact W.vret B.exec B.bytes (by rw [hr, hA]) (hq _ hret.symm) h2.2.2 hd
    · cases hz
  have hent := lv_entry (as.map (jx_con E)) (n := jx_mL y) (by
    rw [jt_sl]; exact hl)
  rw [← jt_exp as 0, ← jt_pad (jx_exp as) (jx_mL y) 0] at hent
  have hfin := key s.heap [] _ hWd ⟨by rw [hWd.1]; omega, fun _ _ => rfl, fun _ h => by cases h⟩ hent
  rw [hargs, lg_entry_eq]
  have e0 : n - n = 0 := Nat.sub_self n
  have e1 : jx_SL n - jx_SL n = 0 := Nat.sub_self _
  simp only [e0, e1, jg_pc0 hy, List.map_nil] at hfin
  rw [hargs] at hfin
  exact hfin
/-- THE RUN IS THE MACHINE'S -/
theorem jg_sound : ∀ (k : Nat) {E : jx_E} {p : Program} {l : Launch} {e : Env} {R : Room} {s : State} {mm : MethodId} {args : Array Value} {below : List Frame} {meth : Method} {c : Code} {Q : State → Prop} {n0 x stop : Nat} {t0 t : jx_S}, jx_C E ph xs L p R s mm args meth c x → jx_go ph k x stop t0 = some t → jx_wf ph xs L x t0 → n0 ≤ t0.2.2.2.1 → t.2.2.2.1 - n0 ≤ R.cells → jx_SL t.2.2.2.1 - jx_SL n0 ≤ R.slots → jx_W E ph p l e R s mm args below meth c Q n0 x t → jx_W E ph p l e R s mm args below meth c Q n0 x t0
  | 0, E, p, l, e, R, s, mm, args, below, meth, c, Q, n0, x, stop, t0, t => fun _ h => by cases h
  | k + 1, E, p, l, e, R, s, mm, args, below, meth, c, Q, n0, x, stop, t0, t => by
    intro C h hwf hn hc hs hW
    rcases jt_go h with rfl | ⟨t1, h1, h2⟩ | ⟨y, as, rest, u, z, h1, hisC, hl, h2, h3, h4⟩
    · exact hW
    · obtain ⟨i, ls, st, n, m⟩ := t0
      obtain ⟨hi, hx⟩ := jg_stepRow h1
      have K := jk_step (E := E) (p := p) (l := l) (e := e) (R := R) (s := s) (mm := mm) (args := args) (below := below) (meth := meth) (c := c) (Q := Q) (n0 := n0) (jx_ck x hx i hi) hwf h1
      have r := jg_pure E p l e R s mm args below meth c Q k x stop t1 t h2 K.1
      have hn : n0 ≤ n := hn
      have hm : n ≤ t1.2.2.2.1 := K.2.1
      have hsl := jw_SL r.2
      exact K.2.2 C hn (by have := r.2; omega) (by omega) (jg_sound k C h2 K.1 (by omega) hc hs hW)
    · obtain ⟨i, ls, st, n, m⟩ := t0
      obtain ⟨hi, hx⟩ := jg_stepRow h1
      obtain ⟨ha, hr⟩ := jt_inr hisC hwf h1
      have hwe := jt_ent (y := y) ha hl (xs := xs) (L := L) (ph := ph) ⟨hwf.2.2.2.1, hwf.2.2.2.2⟩
      have ru := jg_pure E p l e R s mm args below meth c Q k y 100000 _ u h2 hwe
      have hz := jt_rv ru.1 h3
      have hw1 : jx_wf ph xs L x (i + 1, ls, jx_psh y z rest, u.2.2.2.1, u.2.2.2.2) := ⟨hwf.1, hwf.2.1, by
        unfold jx_psh
        show ∀ v ∈ (match jx_mV y with | true => rest | false => xI z :: rest), jx_wV v
        cases jx_mV y
        · exact jw_mk hz hr
        · exact hr, ru.1.2.2.2⟩
      have r := jg_pure E p l e R s mm args below meth c Q k x stop _ t h4 hw1
      have hn : n0 ≤ n := hn
      have h8 : n ≤ u.2.2.2.1 := ru.2
      have h9 : u.2.2.2.1 ≤ t.2.2.2.1 := r.2
      have s8 := jw_SL h8
      have s9 := jw_SL h9
      have s7 := jw_SL hn
      have ea : n - n0 + (u.2.2.2.1 - n) = u.2.2.2.1 - n0 := by omega
      have eb : jx_SL n - jx_SL n0 + (jx_SL u.2.2.2.1 - jx_SL n) = jx_SL u.2.2.2.1 - jx_SL n0 := by omega
      refine (jk_call C (jx_ck x hx i hi) hisC hwf h1 (z := z) (n' := u.2.2.2.1) (m' := u.2.2.2.2) (mc := u.2.2.2.1 - n) (ms := jx_SL u.2.2.2.1 - jx_SL n) (fun hok => jg_met (jg_sound k) hok h2 h3 hwe hl) ⟨by omega, by omega⟩ (fun H1 locs1 lsr b1 b2 b3 b4 => ?_)).1
      rw [ea, eb]
      exact jg_sound k C h4 hw1 (by show n0 ≤ u.2.2.2.1; omega) hc hs hW H1 locs1 lsr b1 b2 b3
end
