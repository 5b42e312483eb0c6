/-! one instruction of the small machine is one of the machine -/
section
variable {E : jx_E} {ph : Bool} {xs : Nat → Int} {L : Int} {p : Program} {l : Launch} {e : Env} {R : Room} {s : State} {mm : MethodId} {args : Array Value} {below : List Frame} {meth : Method} {c : Code} {Q : State → Prop} {n0 x : Nat}
/-- what stays while a method's body runs -/
def jx_C (E : jx_E) (ph : Bool) (xs : Nat → Int) (L : Int) (p : Program) (R : Room) (s : State) (mm : MethodId) (args : Array Value) (meth : Method) (c : Code) (x : Nat) : Prop :=
  p.tables.exec = Jvm.exec ∧ c.code = jx_mB x ∧ c.maxLocals = jx_mL x ∧ s.vm.findClass (jx_mN x).cls = some mm.cls ∧ (∀ w ∈ jx_gw, w.before args s = true) ∧ ((jx_mN x).name = "<init>" → meth.name = "<init>") ∧ jx_G E s ∧ jx_mF x ≤ R.frames ∧ jx_mO x ≤ R.locals ∧ x < 192 ∧ (ph = true → jx_X E xs L s s.heap)
def jx_W (E : jx_E) (ph : Bool) (p : Program) (l : Launch) (e : Env) (R : Room) (s : State) (mm : MethodId) (args : Array Value) (below : List Frame) (meth : Method) (c : Code) (Q : State → Prop) (n0 x : Nat) (t : jx_S) : Prop :=
  ∀ (H : Heap) (locs : List Loc) (lsr : Array Slot), jx_Wd E ph t.2.2.2.1 t.2.2.2.2 H → jx_F E s H locs → lv_has lsr (jx_mL x) (jx_lv E 0 t.2.1) → W p l e R s mm args below meth c H locs (t.2.2.2.1 - n0) (jx_SL t.2.2.2.1 - jx_SL n0) Q (F0 mm (jx_pc x t.1) lsr (t.2.2.1.map (jx_con E)))
def jx_K (E : jx_E) (ph : Bool) (xs : Nat → Int) (L : Int) (p : Program) (l : Launch) (e : Env) (R : Room) (s : State) (mm : MethodId) (args : Array Value) (below : List Frame) (meth : Method) (c : Code) (Q : State → Prop) (n0 x : Nat) (t t' : jx_S) : Prop :=
  jx_wf ph xs L x t' ∧ t.2.2.2.1 ≤ t'.2.2.2.1 ∧ (jx_C E ph xs L p R s mm args meth c x → n0 ≤ t.2.2.2.1 → t'.2.2.2.1 - n0 ≤ R.cells → jx_SL t'.2.2.2.1 - jx_SL n0 ≤ R.slots → jx_W E ph p l e R s mm args below meth c Q n0 x t' → jx_W E ph p l e R s mm args below meth c Q n0 x t)
theorem jk_dec {i : Nat} (h : jx_okR x i = true) {o : Instr} (ho : (jx_row x i).1 = o) (ht : jx_isT o = false) : decode (jx_mB x) (jx_pc x i) = .ok (o, jx_ln o) := by
  have h := (ji_and h).1
  unfold jx_okD at h
  split at h
  · rename_i o' n' hd
    obtain ⟨a, b⟩ := ji_and h
    have a := of_decide_eq_true a
    rw [ho] at a
    subst a
    rw [ht, Bool.false_or] at b
    rw [hd, ji_beq b]
  · cases h
theorem jk_decT {i : Nat} (h : jx_okR x i = true) {o : Instr} (ho : (jx_row x i).1 = o) : ∃ n, decode (jx_mB x) (jx_pc x i) = .ok (o, n) := by
  have h := (ji_and h).1
  unfold jx_okD at h
  split at h
  · rename_i o' n' hd
    obtain ⟨a, b⟩ := ji_and h
    have a := of_decide_eq_true a
    rw [ho] at a
    subst a
    exact ⟨n', hd⟩
  · cases h
theorem jk_ok {i i' : Nat} {ls : jx_L} {st st' : List jx_V} {n : Nat} {m : jx_M} (hwf : jx_wf ph xs L x (i, ls, st, n, m)) (hst : ∀ v ∈ st', jx_wV v) {pc' : Nat} (hpc : jx_pc x i' = pc')
    (hw : jx_C E ph xs L p R s mm args meth c x → ∀ (H : Heap) (locs : List Loc) (lsr : Array Slot), n - n0 ≤ R.cells → jx_SL n - jx_SL n0 ≤ R.slots → jx_Wd E ph n m H → jx_F E s H locs → lv_has lsr (jx_mL x) (jx_lv E 0 ls) → W p l e R s mm args below meth c H locs (n - n0) (jx_SL n - jx_SL n0) Q (F0 mm pc' lsr (st'.map (jx_con E))) → W p l e R s mm args below meth c H locs (n - n0) (jx_SL n - jx_SL n0) Q (F0 mm (jx_pc x i) lsr (st.map (jx_con E)))) :
    jx_K E ph xs L p l e R s mm args below meth c Q n0 x (i, ls, st, n, m) (i', ls, st', n, m) :=
  ⟨⟨hwf.1, hwf.2.1, hst, hwf.2.2.2⟩, Nat.le_refl _, fun C _ hc hs k H locs lsr h1 h2 h3 => hw C H locs lsr hc hs h1 h2 h3 (by have q := k H locs lsr h1 h2 h3; rw [← hpc]; exact q)⟩
theorem jk_st {i : Nat} {ls : jx_L} {st st' : List jx_V} {n a : Nat} {m : jx_M} {v : jx_V} (hwf : jx_wf ph xs L x (i, ls, st, n, m)) (hst : ∀ v ∈ st', jx_wV v) (hv : jx_wV v) (ha : a < jx_mL x) (hcl : ∀ b z, b + 1 = a → jx_nth ls b none ≠ some (xL z)) {pc' : Nat} (hpc : jx_pc x (i + 1) = pc')
    (hw : jx_C E ph xs L p R s mm args meth c x → ∀ (H : Heap) (locs : List Loc) (lsr : Array Slot), lv_has lsr (jx_mL x) (jx_lv E 0 ls) → (∀ lsr', lv_has lsr' (jx_mL x) ((a, jx_con E v) :: (jx_lv E 0 ls).filter (fun q => !(q.1 == a) && !(q.1 + 1 == a && q.2.category == 2))) → W p l e R s mm args below meth c H locs (n - n0) (jx_SL n - jx_SL n0) Q (F0 mm pc' lsr' (st'.map (jx_con E)))) → W p l e R s mm args below meth c H locs (n - n0) (jx_SL n - jx_SL n0) Q (F0 mm (jx_pc x i) lsr (st.map (jx_con E)))) :
    jx_K E ph xs L p l e R s mm args below meth c Q n0 x (i, ls, st, n, m) (i + 1, ls.set a (some v), st', n, m) := by
  have hl : a < ls.length := by rw [show ls.length = jx_mL x from hwf.2.1]; exact ha
  refine ⟨⟨fun k w hk => ?_, ?_, hst, hwf.2.2.2⟩, Nat.le_refl _, fun C _ hc hs k H locs lsr h1 h2 h3 => hw C H locs lsr h3 (fun lsr' h' => ?_)⟩
  · have hk : jx_nth (ls.set a (some v)) k none = some w := hk
    rw [jl_nth_set none (some v) ls a k hl] at hk
    by_cases e : k = a
    · rw [if_pos e] at hk; cases hk; exact hv
    · rw [if_neg e] at hk; exact hwf.1 k w hk
  · show (ls.set a (some v)).length = _
    rw [List.length_set]; exact hwf.2.1
  · have q := k H locs lsr' h1 h2 (jv_set hl hcl h')
    rw [← hpc]; exact q
theorem jw_cons {v : jx_V} {st : List jx_V} (h : ∀ w ∈ v :: st, jx_wV w) : jx_wV v ∧ ∀ w ∈ st, jx_wV w := List.forall_mem_cons.mp h
theorem jw_mk {v : jx_V} {st : List jx_V} (h1 : jx_wV v) (h2 : ∀ w ∈ st, jx_wV w) : ∀ w ∈ v :: st, jx_wV w := List.forall_mem_cons.mpr ⟨h1, h2⟩
set_option maxHeartbeats 1000000 in
theorem jo_iadd {i : Nat} {ls : jx_L} {st : List jx_V} {n : Nat} {m : jx_M} (hok : jx_okR x i = true) (hwf : jx_wf ph xs L x (i, ls, st, n, m)) {t' : jx_S} (ho : (jx_row x i).1 = .iadd) (h : jx_step ph (jx_row x i) (i, ls, st, n, m) = some (.inl t')) : jx_K E ph xs L p l e R s mm args below meth c Q n0 x (i, ls, st, n, m) t' := by
  have hS := hwf.2.2.1
  have hA := (ji_and hok).2
  have hd := jk_dec hok ho rfl
  unfold jx_okA at hA
  unfold jx_step jx_sem at h
  simp only [ho] at hA h
  obtain ⟨y, st1, e9, h9⟩ := ji_pI h
  clear h
  subst e9
  have h := h9
  clear h9
  obtain ⟨x0, st2, e9, h9⟩ := ji_pI h
  clear h
  subst e9
  have h := h9
  clear h9
  obtain ⟨hg, h9⟩ := ji_if h
  clear h
  have h := h9
  clear h9
  cases h
  obtain ⟨hy, hS⟩ := jw_cons hS
  obtain ⟨hx0, hS⟩ := jw_cons hS
  exact jk_ok hwf (jw_mk (hg) hS) (ji_beq hA) (fun ⟨hx, hb, hml, hown, hts, hnm, hG, hfr, hlo, hx9, hX⟩ H locs lsr _ _ _ _ _ k => lv_iadd hx hb hd (by rw [← jn_add]; exact k))
set_option maxHeartbeats 1000000 in
theorem jo_isub {i : Nat} {ls : jx_L} {st : List jx_V} {n : Nat} {m : jx_M} (hok : jx_okR x i = true) (hwf : jx_wf ph xs L x (i, ls, st, n, m)) {t' : jx_S} (ho : (jx_row x i).1 = .isub) (h : jx_step ph (jx_row x i) (i, ls, st, n, m) = some (.inl t')) : jx_K E ph xs L p l e R s mm args below meth c Q n0 x (i, ls, st, n, m) t' := by
  have hS := hwf.2.2.1
  have hA := (ji_and hok).2
  have hd := jk_dec hok ho rfl
  unfold jx_okA at hA
  unfold jx_step jx_sem at h
  simp only [ho] at hA h
  obtain ⟨y, st1, e9, h9⟩ := ji_pI h
  clear h
  subst e9
  have h := h9
  clear h9
  obtain ⟨x0, st2, e9, h9⟩ := ji_pI h
  clear h
  subst e9
  have h := h9
  clear h9
  obtain ⟨hg, h9⟩ := ji_if h
  clear h
  have h := h9
  clear h9
  cases h
  obtain ⟨hy, hS⟩ := jw_cons hS
  obtain ⟨hx0, hS⟩ := jw_cons hS
  exact jk_ok hwf (jw_mk (hg) hS) (ji_beq hA) (fun ⟨hx, hb, hml, hown, hts, hnm, hG, hfr, hlo, hx9, hX⟩ H locs lsr _ _ _ _ _ k => lv_isub hx hb hd (by rw [← jn_sub]; exact k))
set_option maxHeartbeats 1000000 in
theorem jo_imul {i : Nat} {ls : jx_L} {st : List jx_V} {n : Nat} {m : jx_M} (hok : jx_okR x i = true) (hwf : jx_wf ph xs L x (i, ls, st, n, m)) {t' : jx_S} (ho : (jx_row x i).1 = .imul) (h : jx_step ph (jx_row x i) (i, ls, st, n, m) = some (.inl t')) : jx_K E ph xs L p l e R s mm args below meth c Q n0 x (i, ls, st, n, m) t' := by
  have hS := hwf.2.2.1
  have hA := (ji_and hok).2
  have hd := jk_dec hok ho rfl
  unfold jx_okA at hA
  unfold jx_step jx_sem at h
  simp only [ho] at hA h
  obtain ⟨y, st1, e9, h9⟩ := ji_pI h
  clear h
  subst e9
  have h := h9
  clear h9
  obtain ⟨x0, st2, e9, h9⟩ := ji_pI h
  clear h
  subst e9
  have h := h9
  clear h9
  obtain ⟨hg, h9⟩ := ji_if h
  clear h
  have h := h9
  clear h9
  cases h
  obtain ⟨hy, hS⟩ := jw_cons hS
  obtain ⟨hx0, hS⟩ := jw_cons hS
  exact jk_ok hwf (jw_mk (hg) hS) (ji_beq hA) (fun ⟨hx, hb, hml, hown, hts, hnm, hG, hfr, hlo, hx9, hX⟩ H locs lsr _ _ _ _ _ k => lv_imul hx hb hd (by rw [← jn_mul]; exact k))
set_option maxHeartbeats 1000000 in
theorem jo_idiv {i : Nat} {ls : jx_L} {st : List jx_V} {n : Nat} {m : jx_M} (hok : jx_okR x i = true) (hwf : jx_wf ph xs L x (i, ls, st, n, m)) {t' : jx_S} (ho : (jx_row x i).1 = .idiv) (h : jx_step ph (jx_row x i) (i, ls, st, n, m) = some (.inl t')) : jx_K E ph xs L p l e R s mm args below meth c Q n0 x (i, ls, st, n, m) t' := by
  have hS := hwf.2.2.1
  have hA := (ji_and hok).2
  have hd := jk_dec hok ho rfl
  unfold jx_okA at hA
  unfold jx_step jx_sem at h
  simp only [ho] at hA h
  obtain ⟨y, st1, e9, h9⟩ := ji_pI h
  clear h
  subst e9
  have h := h9
  clear h9
  obtain ⟨x0, st2, e9, h9⟩ := ji_pI h
  clear h
  subst e9
  have h := h9
  clear h9
  obtain ⟨hg, h9⟩ := ji_if h
  clear h
  have h := h9
  clear h9
  cases h
  obtain ⟨hy, hS⟩ := jw_cons hS
  obtain ⟨hx0, hS⟩ := jw_cons hS
  exact jk_ok hwf (jw_mk (jn_div_in hx0 hg.1 hg.2) hS) (ji_beq hA) (fun ⟨hx, hb, hml, hown, hts, hnm, hG, hfr, hlo, hx9, hX⟩ H locs lsr _ _ _ _ _ k => lv_idiv hx hb hd (fun q => by have := (jn_eq0 hy).mp q; omega) (by rw [← jn_div hx0 hy hg.1 hg.2]; exact k))
set_option maxHeartbeats 1000000 in
theorem jo_irem {i : Nat} {ls : jx_L} {st : List jx_V} {n : Nat} {m : jx_M} (hok : jx_okR x i = true) (hwf : jx_wf ph xs L x (i, ls, st, n, m)) {t' : jx_S} (ho : (jx_row x i).1 = .irem) (h : jx_step ph (jx_row x i) (i, ls, st, n, m) = some (.inl t')) : jx_K E ph xs L p l e R s mm args below meth c Q n0 x (i, ls, st, n, m) t' := by
  have hS := hwf.2.2.1
  have hA := (ji_and hok).2
  have hd := jk_dec hok ho rfl
  unfold jx_okA at hA
  unfold jx_step jx_sem at h
  simp only [ho] at hA h
  obtain ⟨y, st1, e9, h9⟩ := ji_pI h
  clear h
  subst e9
  have h := h9
  clear h9
  obtain ⟨x0, st2, e9, h9⟩ := ji_pI h
  clear h
  subst e9
  have h := h9
  clear h9
  obtain ⟨hg, h9⟩ := ji_if h
  clear h
  have h := h9
  clear h9
  cases h
  obtain ⟨hy, hS⟩ := jw_cons hS
  obtain ⟨hx0, hS⟩ := jw_cons hS
  exact jk_ok hwf (jw_mk (jn_rem_in hy hg.2) hS) (ji_beq hA) (fun ⟨hx, hb, hml, hown, hts, hnm, hG, hfr, hlo, hx9, hX⟩ H locs lsr _ _ _ _ _ k => lv_irem hx hb hd (fun q => by have := (jn_eq0 hy).mp q; omega) (by rw [← jn_rem hx0 hy hg.1 hg.2]; exact k))
set_option maxHeartbeats 1000000 in
theorem jo_iand {i : Nat} {ls : jx_L} {st : List jx_V} {n : Nat} {m : jx_M} (hok : jx_okR x i = true) (hwf : jx_wf ph xs L x (i, ls, st, n, m)) {t' : jx_S} (ho : (jx_row x i).1 = .iand) (h : jx_step ph (jx_row x i) (i, ls, st, n, m) = some (.inl t')) : jx_K E ph xs L p l e R s mm args below meth c Q n0 x (i, ls, st, n, m) t' := by
  have hS := hwf.2.2.1
  have hA := (ji_and hok).2
  have hd := jk_dec hok ho rfl
  unfold jx_okA at hA
  unfold jx_step jx_sem at h
  simp only [ho] at hA h
  obtain ⟨y, st1, e9, h9⟩ := ji_pI h
  clear h
  subst e9
  have h := h9
  clear h9
  obtain ⟨x0, st2, e9, h9⟩ := ji_pI h
  clear h
  subst e9
  have h := h9
  clear h9
  cases h
  obtain ⟨hy, hS⟩ := jw_cons hS
  obtain ⟨hx0, hS⟩ := jw_cons hS
  exact jk_ok hwf (jw_mk (jn_rng _) hS) (ji_beq hA) (fun ⟨hx, hb, hml, hown, hts, hnm, hG, hfr, hlo, hx9, hX⟩ H locs lsr _ _ _ _ _ k => lv_iand hx hb hd (by have k := k; simp only [List.map_cons, jx_con, jx_iand, Int32.ofInt_toInt] at k; exact k))
set_option maxHeartbeats 1000000 in
theorem jo_ior {i : Nat} {ls : jx_L} {st : List jx_V} {n : Nat} {m : jx_M} (hok : jx_okR x i = true) (hwf : jx_wf ph xs L x (i, ls, st, n, m)) {t' : jx_S} (ho : (jx_row x i).1 = .ior) (h : jx_step ph (jx_row x i) (i, ls, st, n, m) = some (.inl t')) : jx_K E ph xs L p l e R s mm args below meth c Q n0 x (i, ls, st, n, m) t' := by
  have hS := hwf.2.2.1
  have hA := (ji_and hok).2
  have hd := jk_dec hok ho rfl
  unfold jx_okA at hA
  unfold jx_step jx_sem at h
  simp only [ho] at hA h
  obtain ⟨y, st1, e9, h9⟩ := ji_pI h
  clear h
  subst e9
  have h := h9
  clear h9
  obtain ⟨x0, st2, e9, h9⟩ := ji_pI h
  clear h
  subst e9
  have h := h9
  clear h9
  cases h
  obtain ⟨hy, hS⟩ := jw_cons hS
  obtain ⟨hx0, hS⟩ := jw_cons hS
  exact jk_ok hwf (jw_mk (jn_rng _) hS) (ji_beq hA) (fun ⟨hx, hb, hml, hown, hts, hnm, hG, hfr, hlo, hx9, hX⟩ H locs lsr _ _ _ _ _ k => lv_ior hx hb hd (by have k := k; simp only [List.map_cons, jx_con, jx_ior, Int32.ofInt_toInt] at k; exact k))
set_option maxHeartbeats 1000000 in
theorem jo_ixor {i : Nat} {ls : jx_L} {st : List jx_V} {n : Nat} {m : jx_M} (hok : jx_okR x i = true) (hwf : jx_wf ph xs L x (i, ls, st, n, m)) {t' : jx_S} (ho : (jx_row x i).1 = .ixor) (h : jx_step ph (jx_row x i) (i, ls, st, n, m) = some (.inl t')) : jx_K E ph xs L p l e R s mm args below meth c Q n0 x (i, ls, st, n, m) t' := by
  have hS := hwf.2.2.1
  have hA := (ji_and hok).2
  have hd := jk_dec hok ho rfl
  unfold jx_okA at hA
  unfold jx_step jx_sem at h
  simp only [ho] at hA h
  obtain ⟨y, st1, e9, h9⟩ := ji_pI h
  clear h
  subst e9
  have h := h9
  clear h9
  obtain ⟨x0, st2, e9, h9⟩ := ji_pI h
  clear h
  subst e9
  have h := h9
  clear h9
  cases h
  obtain ⟨hy, hS⟩ := jw_cons hS
  obtain ⟨hx0, hS⟩ := jw_cons hS
  exact jk_ok hwf (jw_mk (jn_rng _) hS) (ji_beq hA) (fun ⟨hx, hb, hml, hown, hts, hnm, hG, hfr, hlo, hx9, hX⟩ H locs lsr _ _ _ _ _ k => lv_ixor hx hb hd (by have k := k; simp only [List.map_cons, jx_con, jx_ixor, Int32.ofInt_toInt] at k; exact k))
set_option maxHeartbeats 1000000 in
theorem jo_ishl {i : Nat} {ls : jx_L} {st : List jx_V} {n : Nat} {m : jx_M} (hok : jx_okR x i = true) (hwf : jx_wf ph xs L x (i, ls, st, n, m)) {t' : jx_S} (ho : (jx_row x i).1 = .ishl) (h : jx_step ph (jx_row x i) (i, ls, st, n, m) = some (.inl t')) : jx_K E ph xs L p l e R s mm args below meth c Q n0 x (i, ls, st, n, m) t' := by
  have hS := hwf.2.2.1
  have hA := (ji_and hok).2
  have hd := jk_dec hok ho rfl
  unfold jx_okA at hA
  unfold jx_step jx_sem at h
  simp only [ho] at hA h
  obtain ⟨y, st1, e9, h9⟩ := ji_pI h
  clear h
  subst e9
  have h := h9
  clear h9
  obtain ⟨x0, st2, e9, h9⟩ := ji_pI h
  clear h
  subst e9
  have h := h9
  clear h9
  cases h
  obtain ⟨hy, hS⟩ := jw_cons hS
  obtain ⟨hx0, hS⟩ := jw_cons hS
  exact jk_ok hwf (jw_mk (jn_rng _) hS) (ji_beq hA) (fun ⟨hx, hb, hml, hown, hts, hnm, hG, hfr, hlo, hx9, hX⟩ H locs lsr _ _ _ _ _ k => lv_ishl hx hb hd (by have k := k; simp only [List.map_cons, jx_con, jx_ishl, Int32.ofInt_toInt] at k; exact k))
set_option maxHeartbeats 1000000 in
theorem jo_ishr {i : Nat} {ls : jx_L} {st : List jx_V} {n : Nat} {m : jx_M} (hok : jx_okR x i = true) (hwf : jx_wf ph xs L x (i, ls, st, n, m)) {t' : jx_S} (ho : (jx_row x i).1 = .ishr) (h : jx_step ph (jx_row x i) (i, ls, st, n, m) = some (.inl t')) : jx_K E ph xs L p l e R s mm args below meth c Q n0 x (i, ls, st, n, m) t' := by
  have hS := hwf.2.2.1
  have hA := (ji_and hok).2
  have hd := jk_dec hok ho rfl
  unfold jx_okA at hA
  unfold jx_step jx_sem at h
  simp only [ho] at hA h
  obtain ⟨y, st1, e9, h9⟩ := ji_pI h
  clear h
  subst e9
  have h := h9
  clear h9
  obtain ⟨x0, st2, e9, h9⟩ := ji_pI h
  clear h
  subst e9
  have h := h9
  clear h9
  cases h
  obtain ⟨hy, hS⟩ := jw_cons hS
  obtain ⟨hx0, hS⟩ := jw_cons hS
  exact jk_ok hwf (jw_mk (jn_rng _) hS) (ji_beq hA) (fun ⟨hx, hb, hml, hown, hts, hnm, hG, hfr, hlo, hx9, hX⟩ H locs lsr _ _ _ _ _ k => lv_ishr hx hb hd (by have k := k; simp only [List.map_cons, jx_con, jx_ishr, Int32.ofInt_toInt] at k; exact k))
set_option maxHeartbeats 1000000 in
theorem jo_iushr {i : Nat} {ls : jx_L} {st : List jx_V} {n : Nat} {m : jx_M} (hok : jx_okR x i = true) (hwf : jx_wf ph xs L x (i, ls, st, n, m)) {t' : jx_S} (ho : (jx_row x i).1 = .iushr) (h : jx_step ph (jx_row x i) (i, ls, st, n, m) = some (.inl t')) : jx_K E ph xs L p l e R s mm args below meth c Q n0 x (i, ls, st, n, m) t' := by
  have hS := hwf.2.2.1
  have hA := (ji_and hok).2
  have hd := jk_dec hok ho rfl
  unfold jx_okA at hA
  unfold jx_step jx_sem at h
  simp only [ho] at hA h
  obtain ⟨y, st1, e9, h9⟩ := ji_pI h
  clear h
  subst e9
  have h := h9
  clear h9
  obtain ⟨x0, st2, e9, h9⟩ := ji_pI h
  clear h
  subst e9
  have h := h9
  clear h9
  cases h
  obtain ⟨hy, hS⟩ := jw_cons hS
  obtain ⟨hx0, hS⟩ := jw_cons hS
  exact jk_ok hwf (jw_mk (jn_rng _) hS) (ji_beq hA) (fun ⟨hx, hb, hml, hown, hts, hnm, hG, hfr, hlo, hx9, hX⟩ H locs lsr _ _ _ _ _ k => lv_iushr hx hb hd rfl (by have k := k; simp only [List.map_cons, jx_con, jx_iushr, Int32.ofInt_toInt] at k; exact k))
set_option maxHeartbeats 1000000 in
theorem jo_ladd {i : Nat} {ls : jx_L} {st : List jx_V} {n : Nat} {m : jx_M} (hok : jx_okR x i = true) (hwf : jx_wf ph xs L x (i, ls, st, n, m)) {t' : jx_S} (ho : (jx_row x i).1 = .ladd) (h : jx_step ph (jx_row x i) (i, ls, st, n, m) = some (.inl t')) : jx_K E ph xs L p l e R s mm args below meth c Q n0 x (i, ls, st, n, m) t' := by
  have hS := hwf.2.2.1
  have hA := (ji_and hok).2
  have hd := jk_dec hok ho rfl
  unfold jx_okA at hA
  unfold jx_step jx_sem at h
  simp only [ho] at hA h
  obtain ⟨y, st1, e9, h9⟩ := ji_pL h
  clear h
  subst e9
  have h := h9
  clear h9
  obtain ⟨x0, st2, e9, h9⟩ := ji_pL h
  clear h
  subst e9
  have h := h9
  clear h9
  obtain ⟨hg, h9⟩ := ji_if h
  clear h
  have h := h9
  clear h9
  cases h
  obtain ⟨hy, hS⟩ := jw_cons hS
  obtain ⟨hx0, hS⟩ := jw_cons hS
  exact jk_ok hwf (jw_mk (hg) hS) (ji_beq hA) (fun ⟨hx, hb, hml, hown, hts, hnm, hG, hfr, hlo, hx9, hX⟩ H locs lsr _ _ _ _ _ k => lv_ladd hx hb hd (by rw [← jn_addL]; exact k))
set_option maxHeartbeats 1000000 in
theorem jo_land {i : Nat} {ls : jx_L} {st : List jx_V} {n : Nat} {m : jx_M} (hok : jx_okR x i = true) (hwf : jx_wf ph xs L x (i, ls, st, n, m)) {t' : jx_S} (ho : (jx_row x i).1 = .land) (h : jx_step ph (jx_row x i) (i, ls, st, n, m) = some (.inl t')) : jx_K E ph xs L p l e R s mm args below meth c Q n0 x (i, ls, st, n, m) t' := by
  have hS := hwf.2.2.1
  have hA := (ji_and hok).2
  have hd := jk_dec hok ho rfl
  unfold jx_okA at hA
  unfold jx_step jx_sem at h
  simp only [ho] at hA h
  obtain ⟨y, st1, e9, h9⟩ := ji_pL h
  clear h
  subst e9
  have h := h9
  clear h9
  obtain ⟨x0, st2, e9, h9⟩ := ji_pL h
  clear h
  subst e9
  have h := h9
  clear h9
  cases h
  obtain ⟨hy, hS⟩ := jw_cons hS
  obtain ⟨hx0, hS⟩ := jw_cons hS
  exact jk_ok hwf (jw_mk (jn_rngL _) hS) (ji_beq hA) (fun ⟨hx, hb, hml, hown, hts, hnm, hG, hfr, hlo, hx9, hX⟩ H locs lsr _ _ _ _ _ k => lv_land hx hb hd (by have k := k; simp only [List.map_cons, jx_con, jx_land, Int64.ofInt_toInt] at k; exact k))
set_option maxHeartbeats 1000000 in
theorem jo_lor {i : Nat} {ls : jx_L} {st : List jx_V} {n : Nat} {m : jx_M} (hok : jx_okR x i = true) (hwf : jx_wf ph xs L x (i, ls, st, n, m)) {t' : jx_S} (ho : (jx_row x i).1 = .lor) (h : jx_step ph (jx_row x i) (i, ls, st, n, m) = some (.inl t')) : jx_K E ph xs L p l e R s mm args below meth c Q n0 x (i, ls, st, n, m) t' := by
  have hS := hwf.2.2.1
  have hA := (ji_and hok).2
  have hd := jk_dec hok ho rfl
  unfold jx_okA at hA
  unfold jx_step jx_sem at h
  simp only [ho] at hA h
  obtain ⟨y, st1, e9, h9⟩ := ji_pL h
  clear h
  subst e9
  have h := h9
  clear h9
  obtain ⟨x0, st2, e9, h9⟩ := ji_pL h
  clear h
  subst e9
  have h := h9
  clear h9
  cases h
  obtain ⟨hy, hS⟩ := jw_cons hS
  obtain ⟨hx0, hS⟩ := jw_cons hS
  exact jk_ok hwf (jw_mk (jn_rngL _) hS) (ji_beq hA) (fun ⟨hx, hb, hml, hown, hts, hnm, hG, hfr, hlo, hx9, hX⟩ H locs lsr _ _ _ _ _ k => lv_lor hx hb hd (by have k := k; simp only [List.map_cons, jx_con, jx_lor, Int64.ofInt_toInt] at k; exact k))
set_option maxHeartbeats 1000000 in
theorem jo_lshl {i : Nat} {ls : jx_L} {st : List jx_V} {n : Nat} {m : jx_M} (hok : jx_okR x i = true) (hwf : jx_wf ph xs L x (i, ls, st, n, m)) {t' : jx_S} (ho : (jx_row x i).1 = .lshl) (h : jx_step ph (jx_row x i) (i, ls, st, n, m) = some (.inl t')) : jx_K E ph xs L p l e R s mm args below meth c Q n0 x (i, ls, st, n, m) t' := by
  have hS := hwf.2.2.1
  have hA := (ji_and hok).2
  have hd := jk_dec hok ho rfl
  unfold jx_okA at hA
  unfold jx_step jx_sem at h
  simp only [ho] at hA h
  obtain ⟨y, st1, e9, h9⟩ := ji_pI h
  clear h
  subst e9
  have h := h9
  clear h9
  obtain ⟨x0, st2, e9, h9⟩ := ji_pL h
  clear h
  subst e9
  have h := h9
  clear h9
  cases h
  obtain ⟨hy, hS⟩ := jw_cons hS
  obtain ⟨hx0, hS⟩ := jw_cons hS
  exact jk_ok hwf (jw_mk (jn_rngL _) hS) (ji_beq hA) (fun ⟨hx, hb, hml, hown, hts, hnm, hG, hfr, hlo, hx9, hX⟩ H locs lsr _ _ _ _ _ k => lv_lshl hx hb hd rfl (by have k := k; simp only [List.map_cons, jx_con, jx_lshl, Int64.ofInt_toInt] at k; exact k))
set_option maxHeartbeats 1000000 in
theorem jo_lshr {i : Nat} {ls : jx_L} {st : List jx_V} {n : Nat} {m : jx_M} (hok : jx_okR x i = true) (hwf : jx_wf ph xs L x (i, ls, st, n, m)) {t' : jx_S} (ho : (jx_row x i).1 = .lshr) (h : jx_step ph (jx_row x i) (i, ls, st, n, m) = some (.inl t')) : jx_K E ph xs L p l e R s mm args below meth c Q n0 x (i, ls, st, n, m) t' := by
  have hS := hwf.2.2.1
  have hA := (ji_and hok).2
  have hd := jk_dec hok ho rfl
  unfold jx_okA at hA
  unfold jx_step jx_sem at h
  simp only [ho] at hA h
  obtain ⟨y, st1, e9, h9⟩ := ji_pI h
  clear h
  subst e9
  have h := h9
  clear h9
  obtain ⟨x0, st2, e9, h9⟩ := ji_pL h
  clear h
  subst e9
  have h := h9
  clear h9
  cases h
  obtain ⟨hy, hS⟩ := jw_cons hS
  obtain ⟨hx0, hS⟩ := jw_cons hS
  exact jk_ok hwf (jw_mk (jn_rngL _) hS) (ji_beq hA) (fun ⟨hx, hb, hml, hown, hts, hnm, hG, hfr, hlo, hx9, hX⟩ H locs lsr _ _ _ _ _ k => lv_lshr hx hb hd rfl (by have k := k; simp only [List.map_cons, jx_con, jx_lshr, Int64.ofInt_toInt] at k; exact k))
set_option maxHeartbeats 1000000 in
theorem jo_lushr {i : Nat} {ls : jx_L} {st : List jx_V} {n : Nat} {m : jx_M} (hok : jx_okR x i = true) (hwf : jx_wf ph xs L x (i, ls, st, n, m)) {t' : jx_S} (ho : (jx_row x i).1 = .lushr) (h : jx_step ph (jx_row x i) (i, ls, st, n, m) = some (.inl t')) : jx_K E ph xs L p l e R s mm args below meth c Q n0 x (i, ls, st, n, m) t' := by
  have hS := hwf.2.2.1
  have hA := (ji_and hok).2
  have hd := jk_dec hok ho rfl
  unfold jx_okA at hA
  unfold jx_step jx_sem at h
  simp only [ho] at hA h
  obtain ⟨y, st1, e9, h9⟩ := ji_pI h
  clear h
  subst e9
  have h := h9
  clear h9
  obtain ⟨x0, st2, e9, h9⟩ := ji_pL h
  clear h
  subst e9
  have h := h9
  clear h9
  cases h
  obtain ⟨hy, hS⟩ := jw_cons hS
  obtain ⟨hx0, hS⟩ := jw_cons hS
  exact jk_ok hwf (jw_mk (jn_rngL _) hS) (ji_beq hA) (fun ⟨hx, hb, hml, hown, hts, hnm, hG, hfr, hlo, hx9, hX⟩ H locs lsr _ _ _ _ _ k => lv_lushr hx hb hd rfl (by have k := k; simp only [List.map_cons, jx_con, jx_lushr, Int64.ofInt_toInt] at k; exact k))
set_option maxHeartbeats 1000000 in
theorem jo_lcmp {i : Nat} {ls : jx_L} {st : List jx_V} {n : Nat} {m : jx_M} (hok : jx_okR x i = true) (hwf : jx_wf ph xs L x (i, ls, st, n, m)) {t' : jx_S} (ho : (jx_row x i).1 = .lcmp) (h : jx_step ph (jx_row x i) (i, ls, st, n, m) = some (.inl t')) : jx_K E ph xs L p l e R s mm args below meth c Q n0 x (i, ls, st, n, m) t' := by
  have hS := hwf.2.2.1
  have hA := (ji_and hok).2
  have hd := jk_dec hok ho rfl
  unfold jx_okA at hA
  unfold jx_step jx_sem at h
  simp only [ho] at hA h
  obtain ⟨y, st1, e9, h9⟩ := ji_pL h
  clear h
  subst e9
  have h := h9
  clear h9
  obtain ⟨x0, st2, e9, h9⟩ := ji_pL h
  clear h
  subst e9
  have h := h9
  clear h9
  cases h
  obtain ⟨hy, hS⟩ := jw_cons hS
  obtain ⟨hx0, hS⟩ := jw_cons hS
  exact jk_ok hwf (jw_mk (jn_lcmp_in _ _) hS) (ji_beq hA) (fun ⟨hx, hb, hml, hown, hts, hnm, hG, hfr, hlo, hx9, hX⟩ H locs lsr _ _ _ _ _ k => W.lcmp hx hb hd (by rw [jn_lcmp hx0 hy]; exact k))
set_option maxHeartbeats 1000000 in
theorem jo_ineg {i : Nat} {ls : jx_L} {st : List jx_V} {n : Nat} {m : jx_M} (hok : jx_okR x i = true) (hwf : jx_wf ph xs L x (i, ls, st, n, m)) {t' : jx_S} (ho : (jx_row x i).1 = .ineg) (h : jx_step ph (jx_row x i) (i, ls, st, n, m) = some (.inl t')) : jx_K E ph xs L p l e R s mm args below meth c Q n0 x (i, ls, st, n, m) t' := by
  have hS := hwf.2.2.1
  have hA := (ji_and hok).2
  have hd := jk_dec hok ho rfl
  unfold jx_okA at hA
  unfold jx_step jx_sem at h
  simp only [ho] at hA h
  obtain ⟨x0, st1, e9, h9⟩ := ji_pI h
  clear h
  subst e9
  have h := h9
  clear h9
  obtain ⟨hg, h9⟩ := ji_if h
  clear h
  have h := h9
  clear h9
  cases h
  obtain ⟨hx0, hS⟩ := jw_cons hS
  exact jk_ok hwf (jw_mk (hg) hS) (ji_beq hA) (fun ⟨hx, hb, hml, hown, hts, hnm, hG, hfr, hlo, hx9, hX⟩ H locs lsr _ _ _ _ _ k => lv_ineg hx hb hd (by have k := k; simp only [List.map_cons, jx_con, jn_neg] at k; first | exact k | (rw [show (0 : Int32) - Int32.ofInt x0 = -Int32.ofInt x0 by simp]; exact k)))
set_option maxHeartbeats 1000000 in
theorem jo_i2l {i : Nat} {ls : jx_L} {st : List jx_V} {n : Nat} {m : jx_M} (hok : jx_okR x i = true) (hwf : jx_wf ph xs L x (i, ls, st, n, m)) {t' : jx_S} (ho : (jx_row x i).1 = .i2l) (h : jx_step ph (jx_row x i) (i, ls, st, n, m) = some (.inl t')) : jx_K E ph xs L p l e R s mm args below meth c Q n0 x (i, ls, st, n, m) t' := by
  have hS := hwf.2.2.1
  have hA := (ji_and hok).2
  have hd := jk_dec hok ho rfl
  unfold jx_okA at hA
  unfold jx_step jx_sem at h
  simp only [ho] at hA h
  obtain ⟨x0, st1, e9, h9⟩ := ji_pI h
  clear h
  subst e9
  have h := h9
  clear h9
  cases h
  obtain ⟨hx0, hS⟩ := jw_cons hS
  exact jk_ok hwf (jw_mk ((by have q : jx_in x0 := hx0; show jx_inL x0; omega)) hS) (ji_beq hA) (fun ⟨hx, hb, hml, hown, hts, hnm, hG, hfr, hlo, hx9, hX⟩ H locs lsr _ _ _ _ _ k => lv_i2l hx hb hd (jn_i2l hx0) k)
set_option maxHeartbeats 1000000 in
theorem jo_l2i {i : Nat} {ls : jx_L} {st : List jx_V} {n : Nat} {m : jx_M} (hok : jx_okR x i = true) (hwf : jx_wf ph xs L x (i, ls, st, n, m)) {t' : jx_S} (ho : (jx_row x i).1 = .l2i) (h : jx_step ph (jx_row x i) (i, ls, st, n, m) = some (.inl t')) : jx_K E ph xs L p l e R s mm args below meth c Q n0 x (i, ls, st, n, m) t' := by
  have hS := hwf.2.2.1
  have hA := (ji_and hok).2
  have hd := jk_dec hok ho rfl
  unfold jx_okA at hA
  unfold jx_step jx_sem at h
  simp only [ho] at hA h
  obtain ⟨x0, st1, e9, h9⟩ := ji_pL h
  clear h
  subst e9
  have h := h9
  clear h9
  cases h
  obtain ⟨hx0, hS⟩ := jw_cons hS
  exact jk_ok hwf (jw_mk (jn_rng _) hS) (ji_beq hA) (fun ⟨hx, hb, hml, hown, hts, hnm, hG, hfr, hlo, hx9, hX⟩ H locs lsr _ _ _ _ _ k => lv_l2i hx hb hd rfl (by have k := k; simp only [List.map_cons, jx_con, jx_l2i, Int32.ofInt_toInt] at k; exact k))
set_option maxHeartbeats 1000000 in
theorem jo_i2b {i : Nat} {ls : jx_L} {st : List jx_V} {n : Nat} {m : jx_M} (hok : jx_okR x i = true) (hwf : jx_wf ph xs L x (i, ls, st, n, m)) {t' : jx_S} (ho : (jx_row x i).1 = .i2b) (h : jx_step ph (jx_row x i) (i, ls, st, n, m) = some (.inl t')) : jx_K E ph xs L p l e R s mm args below meth c Q n0 x (i, ls, st, n, m) t' := by
  have hS := hwf.2.2.1
  have hA := (ji_and hok).2
  have hd := jk_dec hok ho rfl
  unfold jx_okA at hA
  unfold jx_step jx_sem at h
  simp only [ho] at hA h
  obtain ⟨x0, st1, e9, h9⟩ := ji_pI h
  clear h
  subst e9
  have h := h9
  clear h9
  cases h
  obtain ⟨hx0, hS⟩ := jw_cons hS
  exact jk_ok hwf (jw_mk (jn_rng _) hS) (ji_beq hA) (fun ⟨hx, hb, hml, hown, hts, hnm, hG, hfr, hlo, hx9, hX⟩ H locs lsr _ _ _ _ _ k => lv_i2b hx hb hd rfl (by have k := k; simp only [List.map_cons, jx_con, jx_i2b, Int32.ofInt_toInt] at k; exact k))
set_option maxHeartbeats 1000000 in
theorem jo_i2s {i : Nat} {ls : jx_L} {st : List jx_V} {n : Nat} {m : jx_M} (hok : jx_okR x i = true) (hwf : jx_wf ph xs L x (i, ls, st, n, m)) {t' : jx_S} (ho : (jx_row x i).1 = .i2s) (h : jx_step ph (jx_row x i) (i, ls, st, n, m) = some (.inl t')) : jx_K E ph xs L p l e R s mm args below meth c Q n0 x (i, ls, st, n, m) t' := by
  have hS := hwf.2.2.1
  have hA := (ji_and hok).2
  have hd := jk_dec hok ho rfl
  unfold jx_okA at hA
  unfold jx_step jx_sem at h
  simp only [ho] at hA h
  obtain ⟨x0, st1, e9, h9⟩ := ji_pI h
  clear h
  subst e9
  have h := h9
  clear h9
  cases h
  obtain ⟨hx0, hS⟩ := jw_cons hS
  exact jk_ok hwf (jw_mk (jn_rng _) hS) (ji_beq hA) (fun ⟨hx, hb, hml, hown, hts, hnm, hG, hfr, hlo, hx9, hX⟩ H locs lsr _ _ _ _ _ k => lv_i2s hx hb hd rfl (by have k := k; simp only [List.map_cons, jx_con, jx_i2s, Int32.ofInt_toInt] at k; exact k))
set_option maxHeartbeats 1000000 in
theorem jo_iconst {i : Nat} {ls : jx_L} {st : List jx_V} {n : Nat} {m : jx_M} (hok : jx_okR x i = true) (hwf : jx_wf ph xs L x (i, ls, st, n, m)) {t' : jx_S} {k0 : Int} (ho : (jx_row x i).1 = .iconst k0) (h : jx_step ph (jx_row x i) (i, ls, st, n, m) = some (.inl t')) : jx_K E ph xs L p l e R s mm args below meth c Q n0 x (i, ls, st, n, m) t' := by
  have hS := hwf.2.2.1
  have hA := (ji_and hok).2
  have hd := jk_dec hok ho rfl
  unfold jx_okA at hA
  unfold jx_step jx_sem at h
  simp only [ho] at hA h
  obtain ⟨hA, hpc⟩ := ji_and hA
  have hpc := ji_beq hpc
  have hA := of_decide_eq_true hA
  cases h
  exact jk_ok hwf (jw_mk ((by rw [hA.1]; exact hA.2)) hS) hpc (fun ⟨hx, hb, hml, hown, hts, hnm, hG, hfr, hlo, hx9, hX⟩ H locs lsr _ _ _ _ _ k => lv_iconst hx hb hd (by rw [← hA.1]) k)
set_option maxHeartbeats 1000000 in
theorem jo_bipush {i : Nat} {ls : jx_L} {st : List jx_V} {n : Nat} {m : jx_M} (hok : jx_okR x i = true) (hwf : jx_wf ph xs L x (i, ls, st, n, m)) {t' : jx_S} {k0 : Int} (ho : (jx_row x i).1 = .bipush k0) (h : jx_step ph (jx_row x i) (i, ls, st, n, m) = some (.inl t')) : jx_K E ph xs L p l e R s mm args below meth c Q n0 x (i, ls, st, n, m) t' := by
  have hS := hwf.2.2.1
  have hA := (ji_and hok).2
  have hd := jk_dec hok ho rfl
  unfold jx_okA at hA
  unfold jx_step jx_sem at h
  simp only [ho] at hA h
  obtain ⟨hA, hpc⟩ := ji_and hA
  have hpc := ji_beq hpc
  have hA := of_decide_eq_true hA
  cases h
  exact jk_ok hwf (jw_mk ((by rw [hA.1]; exact hA.2.2)) hS) hpc (fun ⟨hx, hb, hml, hown, hts, hnm, hG, hfr, hlo, hx9, hX⟩ H locs lsr _ _ _ _ _ k => lv_bipush hx hb hd (by rw [hA.2.1, ← hA.1]) k)
set_option maxHeartbeats 1000000 in
theorem jo_sipush {i : Nat} {ls : jx_L} {st : List jx_V} {n : Nat} {m : jx_M} (hok : jx_okR x i = true) (hwf : jx_wf ph xs L x (i, ls, st, n, m)) {t' : jx_S} {k0 : Int} (ho : (jx_row x i).1 = .sipush k0) (h : jx_step ph (jx_row x i) (i, ls, st, n, m) = some (.inl t')) : jx_K E ph xs L p l e R s mm args below meth c Q n0 x (i, ls, st, n, m) t' := by
  have hS := hwf.2.2.1
  have hA := (ji_and hok).2
  have hd := jk_dec hok ho rfl
  unfold jx_okA at hA
  unfold jx_step jx_sem at h
  simp only [ho] at hA h
  obtain ⟨hA, hpc⟩ := ji_and hA
  have hpc := ji_beq hpc
  have hA := of_decide_eq_true hA
  cases h
  exact jk_ok hwf (jw_mk ((by rw [hA.1]; exact hA.2.2)) hS) hpc (fun ⟨hx, hb, hml, hown, hts, hnm, hG, hfr, hlo, hx9, hX⟩ H locs lsr _ _ _ _ _ k => lv_sipush hx hb hd (by rw [hA.2.1, ← hA.1]) k)
set_option maxHeartbeats 1000000 in
theorem jo_lconst {i : Nat} {ls : jx_L} {st : List jx_V} {n : Nat} {m : jx_M} (hok : jx_okR x i = true) (hwf : jx_wf ph xs L x (i, ls, st, n, m)) {t' : jx_S} {k0 : Fin 2} (ho : (jx_row x i).1 = .lconst k0) (h : jx_step ph (jx_row x i) (i, ls, st, n, m) = some (.inl t')) : jx_K E ph xs L p l e R s mm args below meth c Q n0 x (i, ls, st, n, m) t' := by
  have hS := hwf.2.2.1
  have hA := (ji_and hok).2
  have hd := jk_dec hok ho rfl
  unfold jx_okA at hA
  unfold jx_step jx_sem at h
  simp only [ho] at hA h
  obtain ⟨hA, hpc⟩ := ji_and hA
  have hpc := ji_beq hpc
  have hA := of_decide_eq_true hA
  cases h
  exact jk_ok hwf (jw_mk (hA.2) hS) hpc (fun ⟨hx, hb, hml, hown, hts, hnm, hG, hfr, hlo, hx9, hX⟩ H locs lsr _ _ _ _ _ k => lv_lconst hx hb hd hA.1 k)
set_option maxHeartbeats 1000000 in
theorem jo_ldc {i : Nat} {ls : jx_L} {st : List jx_V} {n : Nat} {m : jx_M} (hok : jx_okR x i = true) (hwf : jx_wf ph xs L x (i, ls, st, n, m)) {t' : jx_S} {k0 : Nat} (ho : (jx_row x i).1 = .ldc k0) (h : jx_step ph (jx_row x i) (i, ls, st, n, m) = some (.inl t')) : jx_K E ph xs L p l e R s mm args below meth c Q n0 x (i, ls, st, n, m) t' := by
  have hS := hwf.2.2.1
  have hA := (ji_and hok).2
  have hd := jk_dec hok ho rfl
  unfold jx_okA at hA
  unfold jx_step jx_sem at h
  simp only [ho] at hA h
  obtain ⟨hA, hpc⟩ := ji_and hA
  obtain ⟨hB, hpc⟩ := ji_and hpc
  have hpc := ji_beq hpc
  have hB := of_decide_eq_true hB
  cases h
  exact jk_ok hwf (jw_mk (hB) hS) hpc (fun ⟨hx, hb, hml, hown, hts, hnm, hG, hfr, hlo, hx9, hX⟩ H locs lsr _ _ _ _ _ k => lv_ldc hx hb hown (hts _ (jx_at_mem hA)) hd k)
set_option maxHeartbeats 1000000 in
theorem jo_ldcw {i : Nat} {ls : jx_L} {st : List jx_V} {n : Nat} {m : jx_M} (hok : jx_okR x i = true) (hwf : jx_wf ph xs L x (i, ls, st, n, m)) {t' : jx_S} {k0 : Nat} (ho : (jx_row x i).1 = .ldc_w k0) (h : jx_step ph (jx_row x i) (i, ls, st, n, m) = some (.inl t')) : jx_K E ph xs L p l e R s mm args below meth c Q n0 x (i, ls, st, n, m) t' := by
  have hS := hwf.2.2.1
  have hA := (ji_and hok).2
  have hd := jk_dec hok ho rfl
  unfold jx_okA at hA
  unfold jx_step jx_sem at h
  simp only [ho] at hA h
  obtain ⟨hA, hpc⟩ := ji_and hA
  obtain ⟨hB, hpc⟩ := ji_and hpc
  have hpc := ji_beq hpc
  have hB := of_decide_eq_true hB
  cases h
  exact jk_ok hwf (jw_mk (hB) hS) hpc (fun ⟨hx, hb, hml, hown, hts, hnm, hG, hfr, hlo, hx9, hX⟩ H locs lsr _ _ _ _ _ k => lv_ldcw hx hb hown (hts _ (jx_at_mem hA)) hd k)
set_option maxHeartbeats 1000000 in
theorem jo_ldc2 {i : Nat} {ls : jx_L} {st : List jx_V} {n : Nat} {m : jx_M} (hok : jx_okR x i = true) (hwf : jx_wf ph xs L x (i, ls, st, n, m)) {t' : jx_S} {k0 : Nat} (ho : (jx_row x i).1 = .ldc2_w k0) (h : jx_step ph (jx_row x i) (i, ls, st, n, m) = some (.inl t')) : jx_K E ph xs L p l e R s mm args below meth c Q n0 x (i, ls, st, n, m) t' := by
  have hS := hwf.2.2.1
  have hA := (ji_and hok).2
  have hd := jk_dec hok ho rfl
  unfold jx_okA at hA
  unfold jx_step jx_sem at h
  simp only [ho] at hA h
  obtain ⟨hA, hpc⟩ := ji_and hA
  obtain ⟨hB, hpc⟩ := ji_and hpc
  have hpc := ji_beq hpc
  have hB := of_decide_eq_true hB
  cases h
  exact jk_ok hwf (jw_mk (hB) hS) hpc (fun ⟨hx, hb, hml, hown, hts, hnm, hG, hfr, hlo, hx9, hX⟩ H locs lsr _ _ _ _ _ k => lv_ldc2 hx hb hown (hts _ (jx_at_mem hA)) hd k)
set_option maxHeartbeats 1000000 in
theorem jo_iload_n {i : Nat} {ls : jx_L} {st : List jx_V} {n : Nat} {m : jx_M} (hok : jx_okR x i = true) (hwf : jx_wf ph xs L x (i, ls, st, n, m)) {t' : jx_S} {k0 : Fin 4} (ho : (jx_row x i).1 = .iload_n k0) (h : jx_step ph (jx_row x i) (i, ls, st, n, m) = some (.inl t')) : jx_K E ph xs L p l e R s mm args below meth c Q n0 x (i, ls, st, n, m) t' := by
  have hS := hwf.2.2.1
  have hA := (ji_and hok).2
  have hd := jk_dec hok ho rfl
  unfold jx_okA at hA
  unfold jx_step jx_sem at h
  simp only [ho] at hA h
  obtain ⟨hA, hpc⟩ := ji_and hA
  have hpc := ji_beq hpc
  have hA := ji_beq hA
  obtain ⟨x0, hv, h9⟩ := ji_lI h
  clear h
  have h := h9
  clear h9
  cases h
  have hw := hwf.1 _ _ hv
  exact jk_ok hwf (jw_mk hw hS) hpc (fun ⟨hx, hb, hml, hown, hts, hnm, hG, hfr, hlo, hx9, hX⟩ H locs lsr _ _ _ _ h3 k => lv_iload_n hx hb hd hA (jv_at h3 hv) k)
set_option maxHeartbeats 1000000 in
theorem jo_iload {i : Nat} {ls : jx_L} {st : List jx_V} {n : Nat} {m : jx_M} (hok : jx_okR x i = true) (hwf : jx_wf ph xs L x (i, ls, st, n, m)) {t' : jx_S} {k0 : Nat} (ho : (jx_row x i).1 = .iload k0) (h : jx_step ph (jx_row x i) (i, ls, st, n, m) = some (.inl t')) : jx_K E ph xs L p l e R s mm args below meth c Q n0 x (i, ls, st, n, m) t' := by
  have hS := hwf.2.2.1
  have hA := (ji_and hok).2
  have hd := jk_dec hok ho rfl
  unfold jx_okA at hA
  unfold jx_step jx_sem at h
  simp only [ho] at hA h
  obtain ⟨hA, hpc⟩ := ji_and hA
  have hpc := ji_beq hpc
  have hA := ji_beq hA
  obtain ⟨x0, hv, h9⟩ := ji_lI h
  clear h
  have h := h9
  clear h9
  cases h
  have hw := hwf.1 _ _ hv
  exact jk_ok hwf (jw_mk hw hS) hpc (fun ⟨hx, hb, hml, hown, hts, hnm, hG, hfr, hlo, hx9, hX⟩ H locs lsr _ _ _ _ h3 k => lv_iload hx hb hd (by rw [hA]; exact jv_at h3 hv) k)
set_option maxHeartbeats 1000000 in
theorem jo_lload_n {i : Nat} {ls : jx_L} {st : List jx_V} {n : Nat} {m : jx_M} (hok : jx_okR x i = true) (hwf : jx_wf ph xs L x (i, ls, st, n, m)) {t' : jx_S} {k0 : Fin 4} (ho : (jx_row x i).1 = .lload_n k0) (h : jx_step ph (jx_row x i) (i, ls, st, n, m) = some (.inl t')) : jx_K E ph xs L p l e R s mm args below meth c Q n0 x (i, ls, st, n, m) t' := by
  have hS := hwf.2.2.1
  have hA := (ji_and hok).2
  have hd := jk_dec hok ho rfl
  unfold jx_okA at hA
  unfold jx_step jx_sem at h
  simp only [ho] at hA h
  obtain ⟨hA, hpc⟩ := ji_and hA
  have hpc := ji_beq hpc
  have hA := ji_beq hA
  obtain ⟨x0, hv, h9⟩ := ji_lL h
  clear h
  have h := h9
  clear h9
  cases h
  have hw := hwf.1 _ _ hv
  exact jk_ok hwf (jw_mk hw hS) hpc (fun ⟨hx, hb, hml, hown, hts, hnm, hG, hfr, hlo, hx9, hX⟩ H locs lsr _ _ _ _ h3 k => lv_lload_n hx hb hd hA (jv_at h3 hv) k)
set_option maxHeartbeats 1000000 in
theorem jo_lload {i : Nat} {ls : jx_L} {st : List jx_V} {n : Nat} {m : jx_M} (hok : jx_okR x i = true) (hwf : jx_wf ph xs L x (i, ls, st, n, m)) {t' : jx_S} {k0 : Nat} (ho : (jx_row x i).1 = .lload k0) (h : jx_step ph (jx_row x i) (i, ls, st, n, m) = some (.inl t')) : jx_K E ph xs L p l e R s mm args below meth c Q n0 x (i, ls, st, n, m) t' := by
  have hS := hwf.2.2.1
  have hA := (ji_and hok).2
  have hd := jk_dec hok ho rfl
  unfold jx_okA at hA
  unfold jx_step jx_sem at h
  simp only [ho] at hA h
  obtain ⟨hA, hpc⟩ := ji_and hA
  have hpc := ji_beq hpc
  have hA := ji_beq hA
  obtain ⟨x0, hv, h9⟩ := ji_lL h
  clear h
  have h := h9
  clear h9
  cases h
  have hw := hwf.1 _ _ hv
  exact jk_ok hwf (jw_mk hw hS) hpc (fun ⟨hx, hb, hml, hown, hts, hnm, hG, hfr, hlo, hx9, hX⟩ H locs lsr _ _ _ _ h3 k => lv_lload hx hb hd (by rw [hA]; exact jv_at h3 hv) k)
set_option maxHeartbeats 1000000 in
theorem jo_aload_n {i : Nat} {ls : jx_L} {st : List jx_V} {n : Nat} {m : jx_M} (hok : jx_okR x i = true) (hwf : jx_wf ph xs L x (i, ls, st, n, m)) {t' : jx_S} {k0 : Fin 4} (ho : (jx_row x i).1 = .aload_n k0) (h : jx_step ph (jx_row x i) (i, ls, st, n, m) = some (.inl t')) : jx_K E ph xs L p l e R s mm args below meth c Q n0 x (i, ls, st, n, m) t' := by
  have hS := hwf.2.2.1
  have hA := (ji_and hok).2
  have hd := jk_dec hok ho rfl
  unfold jx_okA at hA
  unfold jx_step jx_sem at h
  simp only [ho] at hA h
  obtain ⟨hA, hpc⟩ := ji_and hA
  have hpc := ji_beq hpc
  have hA := ji_beq hA
  obtain ⟨s0, j0, hv, h9⟩ := ji_lA h
  clear h
  have h := h9
  clear h9
  cases h
  have hw := hwf.1 _ _ hv
  exact jk_ok hwf (jw_mk hw hS) hpc (fun ⟨hx, hb, hml, hown, hts, hnm, hG, hfr, hlo, hx9, hX⟩ H locs lsr _ _ _ _ h3 k => lv_aload_n hx hb hd hA (jv_at h3 hv) k)
set_option maxHeartbeats 1000000 in
theorem jo_aload {i : Nat} {ls : jx_L} {st : List jx_V} {n : Nat} {m : jx_M} (hok : jx_okR x i = true) (hwf : jx_wf ph xs L x (i, ls, st, n, m)) {t' : jx_S} {k0 : Nat} (ho : (jx_row x i).1 = .aload k0) (h : jx_step ph (jx_row x i) (i, ls, st, n, m) = some (.inl t')) : jx_K E ph xs L p l e R s mm args below meth c Q n0 x (i, ls, st, n, m) t' := by
  have hS := hwf.2.2.1
  have hA := (ji_and hok).2
  have hd := jk_dec hok ho rfl
  unfold jx_okA at hA
  unfold jx_step jx_sem at h
  simp only [ho] at hA h
  obtain ⟨hA, hpc⟩ := ji_and hA
  have hpc := ji_beq hpc
  have hA := ji_beq hA
  obtain ⟨s0, j0, hv, h9⟩ := ji_lA h
  clear h
  have h := h9
  clear h9
  cases h
  have hw := hwf.1 _ _ hv
  exact jk_ok hwf (jw_mk hw hS) hpc (fun ⟨hx, hb, hml, hown, hts, hnm, hG, hfr, hlo, hx9, hX⟩ H locs lsr _ _ _ _ h3 k => lv_aload hx hb hd (by rw [hA]; exact jv_at h3 hv) k)
set_option maxHeartbeats 1000000 in
theorem jo_istore_n {i : Nat} {ls : jx_L} {st : List jx_V} {n : Nat} {m : jx_M} (hok : jx_okR x i = true) (hwf : jx_wf ph xs L x (i, ls, st, n, m)) {t' : jx_S} {k0 : Fin 4} (ho : (jx_row x i).1 = .istore_n k0) (h : jx_step ph (jx_row x i) (i, ls, st, n, m) = some (.inl t')) : jx_K E ph xs L p l e R s mm args below meth c Q n0 x (i, ls, st, n, m) t' := by
  have hS := hwf.2.2.1
  have hA := (ji_and hok).2
  have hd := jk_dec hok ho rfl
  unfold jx_okA at hA
  unfold jx_step jx_sem at h
  simp only [ho] at hA h
  obtain ⟨hA, hpc⟩ := ji_and hA
  obtain ⟨hB, hpc⟩ := ji_and hpc
  have hpc := ji_beq hpc
  have hA := ji_beq hA
  have hB := Nat.le_of_ble_eq_true hB
  obtain ⟨x0, st1, e9, h9⟩ := ji_pI h
  clear h
  subst e9
  have h := h9
  clear h9
  obtain ⟨hcl, h9⟩ := ji_cl h
  clear h
  have h := h9
  clear h9
  cases h
  obtain ⟨hw, hS⟩ := jw_cons hS
  exact jk_st hwf hS hw hB hcl hpc (fun ⟨hx, hb, hml, hown, hts, hnm, hG, hfr, hlo, hx9, hX⟩ H locs lsr h3 k => lv_istore_n hx hb hd hA h3 hB rfl k)
set_option maxHeartbeats 1000000 in
theorem jo_istore {i : Nat} {ls : jx_L} {st : List jx_V} {n : Nat} {m : jx_M} (hok : jx_okR x i = true) (hwf : jx_wf ph xs L x (i, ls, st, n, m)) {t' : jx_S} {k0 : Nat} (ho : (jx_row x i).1 = .istore k0) (h : jx_step ph (jx_row x i) (i, ls, st, n, m) = some (.inl t')) : jx_K E ph xs L p l e R s mm args below meth c Q n0 x (i, ls, st, n, m) t' := by
  have hS := hwf.2.2.1
  have hA := (ji_and hok).2
  have hd := jk_dec hok ho rfl
  unfold jx_okA at hA
  unfold jx_step jx_sem at h
  simp only [ho] at hA h
  obtain ⟨hA, hpc⟩ := ji_and hA
  obtain ⟨hB, hpc⟩ := ji_and hpc
  have hpc := ji_beq hpc
  have hA := ji_beq hA
  have hB := Nat.le_of_ble_eq_true hB
  obtain ⟨x0, st1, e9, h9⟩ := ji_pI h
  clear h
  subst e9
  have h := h9
  clear h9
  obtain ⟨hcl, h9⟩ := ji_cl h
  clear h
  have h := h9
  clear h9
  cases h
  obtain ⟨hw, hS⟩ := jw_cons hS
  exact jk_st hwf hS hw hB hcl hpc (fun ⟨hx, hb, hml, hown, hts, hnm, hG, hfr, hlo, hx9, hX⟩ H locs lsr h3 k => lv_istore (i := (jx_row x i).2.1) hx hb (by rw [← hA]; exact hd) h3 hB rfl k)
set_option maxHeartbeats 1000000 in
theorem jo_astore_n {i : Nat} {ls : jx_L} {st : List jx_V} {n : Nat} {m : jx_M} (hok : jx_okR x i = true) (hwf : jx_wf ph xs L x (i, ls, st, n, m)) {t' : jx_S} {k0 : Fin 4} (ho : (jx_row x i).1 = .astore_n k0) (h : jx_step ph (jx_row x i) (i, ls, st, n, m) = some (.inl t')) : jx_K E ph xs L p l e R s mm args below meth c Q n0 x (i, ls, st, n, m) t' := by
  have hS := hwf.2.2.1
  have hA := (ji_and hok).2
  have hd := jk_dec hok ho rfl
  unfold jx_okA at hA
  unfold jx_step jx_sem at h
  simp only [ho] at hA h
  obtain ⟨hA, hpc⟩ := ji_and hA
  obtain ⟨hB, hpc⟩ := ji_and hpc
  have hpc := ji_beq hpc
  have hA := ji_beq hA
  have hB := Nat.le_of_ble_eq_true hB
  obtain ⟨s0, j0, st1, e9, h9⟩ := ji_pA h
  clear h
  subst e9
  have h := h9
  clear h9
  obtain ⟨hcl, h9⟩ := ji_cl h
  clear h
  have h := h9
  clear h9
  cases h
  obtain ⟨hw, hS⟩ := jw_cons hS
  exact jk_st hwf hS hw hB hcl hpc (fun ⟨hx, hb, hml, hown, hts, hnm, hG, hfr, hlo, hx9, hX⟩ H locs lsr h3 k => lv_astore_n hx hb hd hA h3 hB rfl k)
set_option maxHeartbeats 1000000 in
theorem jo_astore {i : Nat} {ls : jx_L} {st : List jx_V} {n : Nat} {m : jx_M} (hok : jx_okR x i = true) (hwf : jx_wf ph xs L x (i, ls, st, n, m)) {t' : jx_S} {k0 : Nat} (ho : (jx_row x i).1 = .astore k0) (h : jx_step ph (jx_row x i) (i, ls, st, n, m) = some (.inl t')) : jx_K E ph xs L p l e R s mm args below meth c Q n0 x (i, ls, st, n, m) t' := by
  have hS := hwf.2.2.1
  have hA := (ji_and hok).2
  have hd := jk_dec hok ho rfl
  unfold jx_okA at hA
  unfold jx_step jx_sem at h
  simp only [ho] at hA h
  obtain ⟨hA, hpc⟩ := ji_and hA
  obtain ⟨hB, hpc⟩ := ji_and hpc
  have hpc := ji_beq hpc
  have hA := ji_beq hA
  have hB := Nat.le_of_ble_eq_true hB
  obtain ⟨s0, j0, st1, e9, h9⟩ := ji_pA h
  clear h
  subst e9
  have h := h9
  clear h9
  obtain ⟨hcl, h9⟩ := ji_cl h
  clear h
  have h := h9
  clear h9
  cases h
  obtain ⟨hw, hS⟩ := jw_cons hS
  exact jk_st hwf hS hw hB hcl hpc (fun ⟨hx, hb, hml, hown, hts, hnm, hG, hfr, hlo, hx9, hX⟩ H locs lsr h3 k => lv_astore (i := (jx_row x i).2.1) hx hb (by rw [← hA]; exact hd) h3 hB rfl k)
set_option maxHeartbeats 1000000 in
theorem jo_iinc {i : Nat} {ls : jx_L} {st : List jx_V} {n : Nat} {m : jx_M} (hok : jx_okR x i = true) (hwf : jx_wf ph xs L x (i, ls, st, n, m)) {t' : jx_S} {k0 : Nat} {c0 : Int} (ho : (jx_row x i).1 = .iinc k0 c0) (h : jx_step ph (jx_row x i) (i, ls, st, n, m) = some (.inl t')) : jx_K E ph xs L p l e R s mm args below meth c Q n0 x (i, ls, st, n, m) t' := by
  have hS := hwf.2.2.1
  have hA := (ji_and hok).2
  have hd := jk_dec hok ho rfl
  unfold jx_okA at hA
  unfold jx_step jx_sem at h
  simp only [ho] at hA h
  obtain ⟨hA, hpc⟩ := ji_and hA
  obtain ⟨hB, hpc⟩ := ji_and hpc
  obtain ⟨hz, hpc⟩ := ji_and hpc
  have hpc := ji_beq hpc
  have hA := ji_beq hA
  have hB := Nat.le_of_ble_eq_true hB
  have hz := of_decide_eq_true hz
  obtain ⟨x0, hv, h9⟩ := ji_lI h
  clear h
  have h := h9
  clear h9
  obtain ⟨hcl, h9⟩ := ji_cl h
  clear h
  have h := h9
  clear h9
  obtain ⟨hg, h9⟩ := ji_if h
  clear h
  have h := h9
  clear h9
  cases h
  refine jk_st hwf hS (v := xI (x0 + (jx_row x i).2.2.2)) hg hB hcl hpc (fun ⟨hx, hb, hml, hown, hts, hnm, hG, hfr, hlo, hx9, hX⟩ H locs lsr h3 k => ?_)
  obtain ⟨k9, hk9⟩ := List.getElem?_of_mem ((jv_mem (E := E) ls 0 ((jx_row x i).2.1, jx_con E (xI x0))).mpr ⟨(jx_row x i).2.1, xI x0, by rw [Nat.zero_add], hv⟩)
  exact lv_iinc (i := (jx_row x i).2.1) (k := k9) (x := Int32.ofInt x0) (v := Int32.ofInt (x0 + (jx_row x i).2.2.2)) hx hb (by rw [← hA]; exact hd) h3 hk9 (by rw [hz, jn_add]) hB rfl k
set_option maxHeartbeats 1000000 in
theorem jo_dup {i : Nat} {ls : jx_L} {st : List jx_V} {n : Nat} {m : jx_M} (hok : jx_okR x i = true) (hwf : jx_wf ph xs L x (i, ls, st, n, m)) {t' : jx_S} (ho : (jx_row x i).1 = .dup) (h : jx_step ph (jx_row x i) (i, ls, st, n, m) = some (.inl t')) : jx_K E ph xs L p l e R s mm args below meth c Q n0 x (i, ls, st, n, m) t' := by
  have hS := hwf.2.2.1
  have hA := (ji_and hok).2
  have hd := jk_dec hok ho rfl
  unfold jx_okA at hA
  unfold jx_step jx_sem at h
  simp only [ho] at hA h
  obtain ⟨s0, j0, st1, e9, h9⟩ := ji_pA h
  clear h
  subst e9
  have h := h9
  clear h9
  cases h
  obtain ⟨hw, hS⟩ := jw_cons hS
  exact jk_ok hwf (jw_mk hw (jw_mk hw hS)) (ji_beq hA) (fun ⟨hx, hb, hml, hown, hts, hnm, hG, hfr, hlo, hx9, hX⟩ H locs lsr _ _ _ _ _ k => lv_dup hx hb hd rfl k)
set_option maxHeartbeats 1000000 in
theorem jo_pop {i : Nat} {ls : jx_L} {st : List jx_V} {n : Nat} {m : jx_M} (hok : jx_okR x i = true) (hwf : jx_wf ph xs L x (i, ls, st, n, m)) {t' : jx_S} (ho : (jx_row x i).1 = .pop) (h : jx_step ph (jx_row x i) (i, ls, st, n, m) = some (.inl t')) : jx_K E ph xs L p l e R s mm args below meth c Q n0 x (i, ls, st, n, m) t' := by
  have hS := hwf.2.2.1
  have hA := (ji_and hok).2
  have hd := jk_dec hok ho rfl
  unfold jx_okA at hA
  unfold jx_step jx_sem at h
  simp only [ho] at hA h
  obtain ⟨x0, st1, e9, h9⟩ := ji_pI h
  clear h
  subst e9
  have h := h9
  clear h9
  cases h
  obtain ⟨hw, hS⟩ := jw_cons hS
  exact jk_ok hwf hS (ji_beq hA) (fun ⟨hx, hb, hml, hown, hts, hnm, hG, hfr, hlo, hx9, hX⟩ H locs lsr _ _ _ _ _ k => lv_pop hx hb hd rfl k)
set_option maxHeartbeats 1000000 in
theorem jo_dup2 {i : Nat} {ls : jx_L} {st : List jx_V} {n : Nat} {m : jx_M} (hok : jx_okR x i = true) (hwf : jx_wf ph xs L x (i, ls, st, n, m)) {t' : jx_S} (ho : (jx_row x i).1 = .dup2) (h : jx_step ph (jx_row x i) (i, ls, st, n, m) = some (.inl t')) : jx_K E ph xs L p l e R s mm args below meth c Q n0 x (i, ls, st, n, m) t' := by
  have hS := hwf.2.2.1
  have hA := (ji_and hok).2
  have hd := jk_dec hok ho rfl
  unfold jx_okA at hA
  unfold jx_step jx_sem at h
  simp only [ho] at hA h
  obtain ⟨x0, st1, e9, h9⟩ := ji_pI h
  clear h
  subst e9
  have h := h9
  clear h9
  obtain ⟨s0, j0, st2, e9, h9⟩ := ji_pA h
  clear h
  subst e9
  have h := h9
  clear h9
  cases h
  obtain ⟨hw, hS⟩ := jw_cons hS
  obtain ⟨hw2, hS⟩ := jw_cons hS
  exact jk_ok hwf (jw_mk hw (jw_mk hw2 (jw_mk hw (jw_mk hw2 hS)))) (ji_beq hA) (fun ⟨hx, hb, hml, hown, hts, hnm, hG, hfr, hlo, hx9, hX⟩ H locs lsr _ _ _ _ _ k => lv_dup2_11 hx hb hd rfl rfl k)
set_option maxHeartbeats 1000000 in
theorem jo_if_eq {i : Nat} {ls : jx_L} {st : List jx_V} {n : Nat} {m : jx_M} (hok : jx_okR x i = true) (hwf : jx_wf ph xs L x (i, ls, st, n, m)) {t' : jx_S} {o0 : Int} (ho : (jx_row x i).1 = .ifCond .eq o0) (h : jx_step ph (jx_row x i) (i, ls, st, n, m) = some (.inl t')) : jx_K E ph xs L p l e R s mm args below meth c Q n0 x (i, ls, st, n, m) t' := by
  have hS := hwf.2.2.1
  have hA := (ji_and hok).2
  have hd := jk_dec hok ho rfl
  unfold jx_okA at hA
  unfold jx_step jx_sem at h
  simp only [ho] at hA h
  obtain ⟨hA, hpc⟩ := ji_and hA
  have hpc := ji_beq hpc
  have hA := of_decide_eq_true hA
  obtain ⟨x0, st2, e9, h9⟩ := ji_pI h
  clear h
  subst e9
  have h := h9
  clear h9
  obtain ⟨hx0, hS⟩ := jw_cons hS
  unfold jx_cond at h
  by_cases hc : x0 = 0
  · simp only [if_pos hc] at h
    cases h
    exact jk_ok hwf hS rfl (fun ⟨hx, hb, hml, hown, hts, hnm, hG, hfr, hlo, hx9, hX⟩ H locs lsr _ _ _ _ _ k => lv_if_eq (tgt := jx_pc x (jx_row x i).2.1) hx hb hd hA (fun q => k) (fun q => absurd ((jn_eq hx0 jn_in0).mpr hc) q))
  · simp only [if_neg hc] at h
    cases h
    exact jk_ok hwf hS hpc (fun ⟨hx, hb, hml, hown, hts, hnm, hG, hfr, hlo, hx9, hX⟩ H locs lsr _ _ _ _ _ k => lv_if_eq (tgt := jx_pc x (jx_row x i).2.1) hx hb hd hA (fun q => absurd ((jn_eq hx0 jn_in0).mp q) hc) (fun q => k))
set_option maxHeartbeats 1000000 in
theorem jo_icmp_eq {i : Nat} {ls : jx_L} {st : List jx_V} {n : Nat} {m : jx_M} (hok : jx_okR x i = true) (hwf : jx_wf ph xs L x (i, ls, st, n, m)) {t' : jx_S} {o0 : Int} (ho : (jx_row x i).1 = .if_icmp .eq o0) (h : jx_step ph (jx_row x i) (i, ls, st, n, m) = some (.inl t')) : jx_K E ph xs L p l e R s mm args below meth c Q n0 x (i, ls, st, n, m) t' := by
  have hS := hwf.2.2.1
  have hA := (ji_and hok).2
  have hd := jk_dec hok ho rfl
  unfold jx_okA at hA
  unfold jx_step jx_sem at h
  simp only [ho] at hA h
  obtain ⟨hA, hpc⟩ := ji_and hA
  have hpc := ji_beq hpc
  have hA := of_decide_eq_true hA
  obtain ⟨y, st1, e9, h9⟩ := ji_pI h
  clear h
  subst e9
  have h := h9
  clear h9
  obtain ⟨x0, st2, e9, h9⟩ := ji_pI h
  clear h
  subst e9
  have h := h9
  clear h9
  obtain ⟨hy, hS⟩ := jw_cons hS
  obtain ⟨hx0, hS⟩ := jw_cons hS
  unfold jx_cond at h
  by_cases hc : x0 = y
  · simp only [if_pos hc] at h
    cases h
    exact jk_ok hwf hS rfl (fun ⟨hx, hb, hml, hown, hts, hnm, hG, hfr, hlo, hx9, hX⟩ H locs lsr _ _ _ _ _ k => lv_icmp_eq (tgt := jx_pc x (jx_row x i).2.1) hx hb hd hA (fun q => k) (fun q => absurd ((jn_eq hx0 hy).mpr hc) q))
  · simp only [if_neg hc] at h
    cases h
    exact jk_ok hwf hS hpc (fun ⟨hx, hb, hml, hown, hts, hnm, hG, hfr, hlo, hx9, hX⟩ H locs lsr _ _ _ _ _ k => lv_icmp_eq (tgt := jx_pc x (jx_row x i).2.1) hx hb hd hA (fun q => absurd ((jn_eq hx0 hy).mp q) hc) (fun q => k))
set_option maxHeartbeats 1000000 in
theorem jo_if_ne {i : Nat} {ls : jx_L} {st : List jx_V} {n : Nat} {m : jx_M} (hok : jx_okR x i = true) (hwf : jx_wf ph xs L x (i, ls, st, n, m)) {t' : jx_S} {o0 : Int} (ho : (jx_row x i).1 = .ifCond .ne o0) (h : jx_step ph (jx_row x i) (i, ls, st, n, m) = some (.inl t')) : jx_K E ph xs L p l e R s mm args below meth c Q n0 x (i, ls, st, n, m) t' := by
  have hS := hwf.2.2.1
  have hA := (ji_and hok).2
  have hd := jk_dec hok ho rfl
  unfold jx_okA at hA
  unfold jx_step jx_sem at h
  simp only [ho] at hA h
  obtain ⟨hA, hpc⟩ := ji_and hA
  have hpc := ji_beq hpc
  have hA := of_decide_eq_true hA
  obtain ⟨x0, st2, e9, h9⟩ := ji_pI h
  clear h
  subst e9
  have h := h9
  clear h9
  obtain ⟨hx0, hS⟩ := jw_cons hS
  unfold jx_cond at h
  by_cases hc : x0 = 0
  · simp only [if_pos hc] at h
    cases h
    exact jk_ok hwf hS hpc (fun ⟨hx, hb, hml, hown, hts, hnm, hG, hfr, hlo, hx9, hX⟩ H locs lsr _ _ _ _ _ k => lv_if_ne (tgt := jx_pc x (jx_row x i).2.1) hx hb hd hA (fun q => absurd ((jn_eq hx0 jn_in0).mpr hc) q) (fun q => k))
  · simp only [if_neg hc] at h
    cases h
    exact jk_ok hwf hS rfl (fun ⟨hx, hb, hml, hown, hts, hnm, hG, hfr, hlo, hx9, hX⟩ H locs lsr _ _ _ _ _ k => lv_if_ne (tgt := jx_pc x (jx_row x i).2.1) hx hb hd hA (fun q => k) (fun q => absurd ((jn_eq hx0 jn_in0).mp q) hc))
set_option maxHeartbeats 1000000 in
theorem jo_icmp_ne {i : Nat} {ls : jx_L} {st : List jx_V} {n : Nat} {m : jx_M} (hok : jx_okR x i = true) (hwf : jx_wf ph xs L x (i, ls, st, n, m)) {t' : jx_S} {o0 : Int} (ho : (jx_row x i).1 = .if_icmp .ne o0) (h : jx_step ph (jx_row x i) (i, ls, st, n, m) = some (.inl t')) : jx_K E ph xs L p l e R s mm args below meth c Q n0 x (i, ls, st, n, m) t' := by
  have hS := hwf.2.2.1
  have hA := (ji_and hok).2
  have hd := jk_dec hok ho rfl
  unfold jx_okA at hA
  unfold jx_step jx_sem at h
  simp only [ho] at hA h
  obtain ⟨hA, hpc⟩ := ji_and hA
  have hpc := ji_beq hpc
  have hA := of_decide_eq_true hA
  obtain ⟨y, st1, e9, h9⟩ := ji_pI h
  clear h
  subst e9
  have h := h9
  clear h9
  obtain ⟨x0, st2, e9, h9⟩ := ji_pI h
  clear h
  subst e9
  have h := h9
  clear h9
  obtain ⟨hy, hS⟩ := jw_cons hS
  obtain ⟨hx0, hS⟩ := jw_cons hS
  unfold jx_cond at h
  by_cases hc : x0 = y
  · simp only [if_pos hc] at h
    cases h
    exact jk_ok hwf hS hpc (fun ⟨hx, hb, hml, hown, hts, hnm, hG, hfr, hlo, hx9, hX⟩ H locs lsr _ _ _ _ _ k => lv_icmp_ne (tgt := jx_pc x (jx_row x i).2.1) hx hb hd hA (fun q => absurd ((jn_eq hx0 hy).mpr hc) q) (fun q => k))
  · simp only [if_neg hc] at h
    cases h
    exact jk_ok hwf hS rfl (fun ⟨hx, hb, hml, hown, hts, hnm, hG, hfr, hlo, hx9, hX⟩ H locs lsr _ _ _ _ _ k => lv_icmp_ne (tgt := jx_pc x (jx_row x i).2.1) hx hb hd hA (fun q => k) (fun q => absurd ((jn_eq hx0 hy).mp q) hc))
set_option maxHeartbeats 1000000 in
theorem jo_if_lt {i : Nat} {ls : jx_L} {st : List jx_V} {n : Nat} {m : jx_M} (hok : jx_okR x i = true) (hwf : jx_wf ph xs L x (i, ls, st, n, m)) {t' : jx_S} {o0 : Int} (ho : (jx_row x i).1 = .ifCond .lt o0) (h : jx_step ph (jx_row x i) (i, ls, st, n, m) = some (.inl t')) : jx_K E ph xs L p l e R s mm args below meth c Q n0 x (i, ls, st, n, m) t' := by
  have hS := hwf.2.2.1
  have hA := (ji_and hok).2
  have hd := jk_dec hok ho rfl
  unfold jx_okA at hA
  unfold jx_step jx_sem at h
  simp only [ho] at hA h
  obtain ⟨hA, hpc⟩ := ji_and hA
  have hpc := ji_beq hpc
  have hA := of_decide_eq_true hA
  obtain ⟨x0, st2, e9, h9⟩ := ji_pI h
  clear h
  subst e9
  have h := h9
  clear h9
  obtain ⟨hx0, hS⟩ := jw_cons hS
  unfold jx_cond at h
  by_cases hc : x0 < 0
  · simp only [if_pos hc] at h
    cases h
    exact jk_ok hwf hS rfl (fun ⟨hx, hb, hml, hown, hts, hnm, hG, hfr, hlo, hx9, hX⟩ H locs lsr _ _ _ _ _ k => lv_if_lt (tgt := jx_pc x (jx_row x i).2.1) hx hb hd hA (fun q => k) (fun q => absurd ((jn_lt hx0 jn_in0).mpr hc) q))
  · simp only [if_neg hc] at h
    cases h
    exact jk_ok hwf hS hpc (fun ⟨hx, hb, hml, hown, hts, hnm, hG, hfr, hlo, hx9, hX⟩ H locs lsr _ _ _ _ _ k => lv_if_lt (tgt := jx_pc x (jx_row x i).2.1) hx hb hd hA (fun q => absurd ((jn_lt hx0 jn_in0).mp q) hc) (fun q => k))
set_option maxHeartbeats 1000000 in
theorem jo_icmp_lt {i : Nat} {ls : jx_L} {st : List jx_V} {n : Nat} {m : jx_M} (hok : jx_okR x i = true) (hwf : jx_wf ph xs L x (i, ls, st, n, m)) {t' : jx_S} {o0 : Int} (ho : (jx_row x i).1 = .if_icmp .lt o0) (h : jx_step ph (jx_row x i) (i, ls, st, n, m) = some (.inl t')) : jx_K E ph xs L p l e R s mm args below meth c Q n0 x (i, ls, st, n, m) t' := by
  have hS := hwf.2.2.1
  have hA := (ji_and hok).2
  have hd := jk_dec hok ho rfl
  unfold jx_okA at hA
  unfold jx_step jx_sem at h
  simp only [ho] at hA h
  obtain ⟨hA, hpc⟩ := ji_and hA
  have hpc := ji_beq hpc
  have hA := of_decide_eq_true hA
  obtain ⟨y, st1, e9, h9⟩ := ji_pI h
  clear h
  subst e9
  have h := h9
  clear h9
  obtain ⟨x0, st2, e9, h9⟩ := ji_pI h
  clear h
  subst e9
  have h := h9
  clear h9
  obtain ⟨hy, hS⟩ := jw_cons hS
  obtain ⟨hx0, hS⟩ := jw_cons hS
  unfold jx_cond at h
  by_cases hc : x0 < y
  · simp only [if_pos hc] at h
    cases h
    exact jk_ok hwf hS rfl (fun ⟨hx, hb, hml, hown, hts, hnm, hG, hfr, hlo, hx9, hX⟩ H locs lsr _ _ _ _ _ k => lv_icmp_lt (tgt := jx_pc x (jx_row x i).2.1) hx hb hd hA (fun q => k) (fun q => absurd ((jn_lt hx0 hy).mpr hc) q))
  · simp only [if_neg hc] at h
    cases h
    exact jk_ok hwf hS hpc (fun ⟨hx, hb, hml, hown, hts, hnm, hG, hfr, hlo, hx9, hX⟩ H locs lsr _ _ _ _ _ k => lv_icmp_lt (tgt := jx_pc x (jx_row x i).2.1) hx hb hd hA (fun q => absurd ((jn_lt hx0 hy).mp q) hc) (fun q => k))
set_option maxHeartbeats 1000000 in
theorem jo_if_ge {i : Nat} {ls : jx_L} {st : List jx_V} {n : Nat} {m : jx_M} (hok : jx_okR x i = true) (hwf : jx_wf ph xs L x (i, ls, st, n, m)) {t' : jx_S} {o0 : Int} (ho : (jx_row x i).1 = .ifCond .ge o0) (h : jx_step ph (jx_row x i) (i, ls, st, n, m) = some (.inl t')) : jx_K E ph xs L p l e R s mm args below meth c Q n0 x (i, ls, st, n, m) t' := by
  have hS := hwf.2.2.1
  have hA := (ji_and hok).2
  have hd := jk_dec hok ho rfl
  unfold jx_okA at hA
  unfold jx_step jx_sem at h
  simp only [ho] at hA h
  obtain ⟨hA, hpc⟩ := ji_and hA
  have hpc := ji_beq hpc
  have hA := of_decide_eq_true hA
  obtain ⟨x0, st2, e9, h9⟩ := ji_pI h
  clear h
  subst e9
  have h := h9
  clear h9
  obtain ⟨hx0, hS⟩ := jw_cons hS
  unfold jx_cond at h
  by_cases hc : x0 < 0
  · simp only [if_pos hc] at h
    cases h
    exact jk_ok hwf hS hpc (fun ⟨hx, hb, hml, hown, hts, hnm, hG, hfr, hlo, hx9, hX⟩ H locs lsr _ _ _ _ _ k => lv_if_ge (tgt := jx_pc x (jx_row x i).2.1) hx hb hd hA (fun q => absurd ((jn_le jn_in0 hx0).mp q) (by omega)) (fun q => k))
  · simp only [if_neg hc] at h
    cases h
    exact jk_ok hwf hS rfl (fun ⟨hx, hb, hml, hown, hts, hnm, hG, hfr, hlo, hx9, hX⟩ H locs lsr _ _ _ _ _ k => lv_if_ge (tgt := jx_pc x (jx_row x i).2.1) hx hb hd hA (fun q => k) (fun q => absurd ((jn_le jn_in0 hx0).mpr (by omega)) q))
set_option maxHeartbeats 1000000 in
theorem jo_icmp_ge {i : Nat} {ls : jx_L} {st : List jx_V} {n : Nat} {m : jx_M} (hok : jx_okR x i = true) (hwf : jx_wf ph xs L x (i, ls, st, n, m)) {t' : jx_S} {o0 : Int} (ho : (jx_row x i).1 = .if_icmp .ge o0) (h : jx_step ph (jx_row x i) (i, ls, st, n, m) = some (.inl t')) : jx_K E ph xs L p l e R s mm args below meth c Q n0 x (i, ls, st, n, m) t' := by
  have hS := hwf.2.2.1
  have hA := (ji_and hok).2
  have hd := jk_dec hok ho rfl
  unfold jx_okA at hA
  unfold jx_step jx_sem at h
  simp only [ho] at hA h
  obtain ⟨hA, hpc⟩ := ji_and hA
  have hpc := ji_beq hpc
  have hA := of_decide_eq_true hA
  obtain ⟨y, st1, e9, h9⟩ := ji_pI h
  clear h
  subst e9
  have h := h9
  clear h9
  obtain ⟨x0, st2, e9, h9⟩ := ji_pI h
  clear h
  subst e9
  have h := h9
  clear h9
  obtain ⟨hy, hS⟩ := jw_cons hS
  obtain ⟨hx0, hS⟩ := jw_cons hS
  unfold jx_cond at h
  by_cases hc : x0 < y
  · simp only [if_pos hc] at h
    cases h
    exact jk_ok hwf hS hpc (fun ⟨hx, hb, hml, hown, hts, hnm, hG, hfr, hlo, hx9, hX⟩ H locs lsr _ _ _ _ _ k => lv_icmp_ge (tgt := jx_pc x (jx_row x i).2.1) hx hb hd hA (fun q => absurd ((jn_le hy hx0).mp q) (by omega)) (fun q => k))
  · simp only [if_neg hc] at h
    cases h
    exact jk_ok hwf hS rfl (fun ⟨hx, hb, hml, hown, hts, hnm, hG, hfr, hlo, hx9, hX⟩ H locs lsr _ _ _ _ _ k => lv_icmp_ge (tgt := jx_pc x (jx_row x i).2.1) hx hb hd hA (fun q => k) (fun q => absurd ((jn_le hy hx0).mpr (by omega)) q))
set_option maxHeartbeats 1000000 in
theorem jo_if_gt {i : Nat} {ls : jx_L} {st : List jx_V} {n : Nat} {m : jx_M} (hok : jx_okR x i = true) (hwf : jx_wf ph xs L x (i, ls, st, n, m)) {t' : jx_S} {o0 : Int} (ho : (jx_row x i).1 = .ifCond .gt o0) (h : jx_step ph (jx_row x i) (i, ls, st, n, m) = some (.inl t')) : jx_K E ph xs L p l e R s mm args below meth c Q n0 x (i, ls, st, n, m) t' := by
  have hS := hwf.2.2.1
  have hA := (ji_and hok).2
  have hd := jk_dec hok ho rfl
  unfold jx_okA at hA
  unfold jx_step jx_sem at h
  simp only [ho] at hA h
  obtain ⟨hA, hpc⟩ := ji_and hA
  have hpc := ji_beq hpc
  have hA := of_decide_eq_true hA
  obtain ⟨x0, st2, e9, h9⟩ := ji_pI h
  clear h
  subst e9
  have h := h9
  clear h9
  obtain ⟨hx0, hS⟩ := jw_cons hS
  unfold jx_cond at h
  by_cases hc : 0 < x0
  · simp only [if_pos hc] at h
    cases h
    exact jk_ok hwf hS rfl (fun ⟨hx, hb, hml, hown, hts, hnm, hG, hfr, hlo, hx9, hX⟩ H locs lsr _ _ _ _ _ k => lv_if_gt (tgt := jx_pc x (jx_row x i).2.1) hx hb hd hA (fun q => k) (fun q => absurd ((jn_lt jn_in0 hx0).mpr hc) q))
  · simp only [if_neg hc] at h
    cases h
    exact jk_ok hwf hS hpc (fun ⟨hx, hb, hml, hown, hts, hnm, hG, hfr, hlo, hx9, hX⟩ H locs lsr _ _ _ _ _ k => lv_if_gt (tgt := jx_pc x (jx_row x i).2.1) hx hb hd hA (fun q => absurd ((jn_lt jn_in0 hx0).mp q) hc) (fun q => k))
set_option maxHeartbeats 1000000 in
theorem jo_icmp_gt {i : Nat} {ls : jx_L} {st : List jx_V} {n : Nat} {m : jx_M} (hok : jx_okR x i = true) (hwf : jx_wf ph xs L x (i, ls, st, n, m)) {t' : jx_S} {o0 : Int} (ho : (jx_row x i).1 = .if_icmp .gt o0) (h : jx_step ph (jx_row x i) (i, ls, st, n, m) = some (.inl t')) : jx_K E ph xs L p l e R s mm args below meth c Q n0 x (i, ls, st, n, m) t' := by
  have hS := hwf.2.2.1
  have hA := (ji_and hok).2
  have hd := jk_dec hok ho rfl
  unfold jx_okA at hA
  unfold jx_step jx_sem at h
  simp only [ho] at hA h
  obtain ⟨hA, hpc⟩ := ji_and hA
  have hpc := ji_beq hpc
  have hA := of_decide_eq_true hA
  obtain ⟨y, st1, e9, h9⟩ := ji_pI h
  clear h
  subst e9
  have h := h9
  clear h9
  obtain ⟨x0, st2, e9, h9⟩ := ji_pI h
  clear h
  subst e9
  have h := h9
  clear h9
  obtain ⟨hy, hS⟩ := jw_cons hS
  obtain ⟨hx0, hS⟩ := jw_cons hS
  unfold jx_cond at h
  by_cases hc : y < x0
  · simp only [if_pos hc] at h
    cases h
    exact jk_ok hwf hS rfl (fun ⟨hx, hb, hml, hown, hts, hnm, hG, hfr, hlo, hx9, hX⟩ H locs lsr _ _ _ _ _ k => lv_icmp_gt (tgt := jx_pc x (jx_row x i).2.1) hx hb hd hA (fun q => k) (fun q => absurd ((jn_lt hy hx0).mpr hc) q))
  · simp only [if_neg hc] at h
    cases h
    exact jk_ok hwf hS hpc (fun ⟨hx, hb, hml, hown, hts, hnm, hG, hfr, hlo, hx9, hX⟩ H locs lsr _ _ _ _ _ k => lv_icmp_gt (tgt := jx_pc x (jx_row x i).2.1) hx hb hd hA (fun q => absurd ((jn_lt hy hx0).mp q) hc) (fun q => k))
set_option maxHeartbeats 1000000 in
theorem jo_if_le {i : Nat} {ls : jx_L} {st : List jx_V} {n : Nat} {m : jx_M} (hok : jx_okR x i = true) (hwf : jx_wf ph xs L x (i, ls, st, n, m)) {t' : jx_S} {o0 : Int} (ho : (jx_row x i).1 = .ifCond .le o0) (h : jx_step ph (jx_row x i) (i, ls, st, n, m) = some (.inl t')) : jx_K E ph xs L p l e R s mm args below meth c Q n0 x (i, ls, st, n, m) t' := by
  have hS := hwf.2.2.1
  have hA := (ji_and hok).2
  have hd := jk_dec hok ho rfl
  unfold jx_okA at hA
  unfold jx_step jx_sem at h
  simp only [ho] at hA h
  obtain ⟨hA, hpc⟩ := ji_and hA
  have hpc := ji_beq hpc
  have hA := of_decide_eq_true hA
  obtain ⟨x0, st2, e9, h9⟩ := ji_pI h
  clear h
  subst e9
  have h := h9
  clear h9
  obtain ⟨hx0, hS⟩ := jw_cons hS
  unfold jx_cond at h
  by_cases hc : 0 < x0
  · simp only [if_pos hc] at h
    cases h
    exact jk_ok hwf hS hpc (fun ⟨hx, hb, hml, hown, hts, hnm, hG, hfr, hlo, hx9, hX⟩ H locs lsr _ _ _ _ _ k => lv_if_le (tgt := jx_pc x (jx_row x i).2.1) hx hb hd hA (fun q => absurd ((jn_le hx0 jn_in0).mp q) (by omega)) (fun q => k))
  · simp only [if_neg hc] at h
    cases h
    exact jk_ok hwf hS rfl (fun ⟨hx, hb, hml, hown, hts, hnm, hG, hfr, hlo, hx9, hX⟩ H locs lsr _ _ _ _ _ k => lv_if_le (tgt := jx_pc x (jx_row x i).2.1) hx hb hd hA (fun q => k) (fun q => absurd ((jn_le hx0 jn_in0).mpr (by omega)) q))
set_option maxHeartbeats 1000000 in
theorem jo_icmp_le {i : Nat} {ls : jx_L} {st : List jx_V} {n : Nat} {m : jx_M} (hok : jx_okR x i = true) (hwf : jx_wf ph xs L x (i, ls, st, n, m)) {t' : jx_S} {o0 : Int} (ho : (jx_row x i).1 = .if_icmp .le o0) (h : jx_step ph (jx_row x i) (i, ls, st, n, m) = some (.inl t')) : jx_K E ph xs L p l e R s mm args below meth c Q n0 x (i, ls, st, n, m) t' := by
  have hS := hwf.2.2.1
  have hA := (ji_and hok).2
  have hd := jk_dec hok ho rfl
  unfold jx_okA at hA
  unfold jx_step jx_sem at h
  simp only [ho] at hA h
  obtain ⟨hA, hpc⟩ := ji_and hA
  have hpc := ji_beq hpc
  have hA := of_decide_eq_true hA
  obtain ⟨y, st1, e9, h9⟩ := ji_pI h
  clear h
  subst e9
  have h := h9
  clear h9
  obtain ⟨x0, st2, e9, h9⟩ := ji_pI h
  clear h
  subst e9
  have h := h9
  clear h9
  obtain ⟨hy, hS⟩ := jw_cons hS
  obtain ⟨hx0, hS⟩ := jw_cons hS
  unfold jx_cond at h
  by_cases hc : y < x0
  · simp only [if_pos hc] at h
    cases h
    exact jk_ok hwf hS hpc (fun ⟨hx, hb, hml, hown, hts, hnm, hG, hfr, hlo, hx9, hX⟩ H locs lsr _ _ _ _ _ k => lv_icmp_le (tgt := jx_pc x (jx_row x i).2.1) hx hb hd hA (fun q => absurd ((jn_le hx0 hy).mp q) (by omega)) (fun q => k))
  · simp only [if_neg hc] at h
    cases h
    exact jk_ok hwf hS rfl (fun ⟨hx, hb, hml, hown, hts, hnm, hG, hfr, hlo, hx9, hX⟩ H locs lsr _ _ _ _ _ k => lv_icmp_le (tgt := jx_pc x (jx_row x i).2.1) hx hb hd hA (fun q => k) (fun q => absurd ((jn_le hx0 hy).mpr (by omega)) q))
set_option maxHeartbeats 1000000 in
theorem jo_goto {i : Nat} {ls : jx_L} {st : List jx_V} {n : Nat} {m : jx_M} (hok : jx_okR x i = true) (hwf : jx_wf ph xs L x (i, ls, st, n, m)) {t' : jx_S} {o0 : Int} (ho : (jx_row x i).1 = .goto o0) (h : jx_step ph (jx_row x i) (i, ls, st, n, m) = some (.inl t')) : jx_K E ph xs L p l e R s mm args below meth c Q n0 x (i, ls, st, n, m) t' := by
  have hS := hwf.2.2.1
  have hA := (ji_and hok).2
  have hd := jk_dec hok ho rfl
  unfold jx_okA at hA
  unfold jx_step jx_sem at h
  simp only [ho] at hA h
  have hA := of_decide_eq_true hA
  cases h
  exact jk_ok hwf hS rfl (fun ⟨hx, hb, hml, hown, hts, hnm, hG, hfr, hlo, hx9, hX⟩ H locs lsr _ _ _ _ _ k => lv_goto (tgt := jx_pc x (jx_row x i).2.1) hx hb hd hA k)
end
