/-! calls, and the run of a whole method -/
section
variable {E : jx_E} {ph : Bool} {xs : Nat → Int} {L : Int} {p : Program} {l : Launch} {e : Env} {R : Room} {s : State} {mm : MethodId} {args : Array Value} {below : List Frame} {meth : Method} {c : Code} {Q : State → Prop} {n0 x : Nat}
abbrev jx_ws (y : Nat) : List Jvm.Cond := Jvm.Cond.code (jx_mN y) (jx_mB y) (jx_mL y) (jx_mR y) :: jx_gw
def jx_Pc (E : jx_E) (ph : Bool) (xs : Nat → Int) (L : Int) (as : List jx_V) (n : Nat) (m : jx_M) : Array Value → State → Prop := fun v U => v = (as.map (jx_con E)).toArray ∧ jx_Wd E ph n m U.heap ∧ jx_G E U ∧ (ph = true → jx_X E xs L U U.heap)
def jx_ret (y : Nat) (z : Int) : Option Value := match jx_mV y with
  | true => none
  | false => some (.int (Int32.ofInt z))
def jx_Qc (E : jx_E) (ph : Bool) (xs : Nat → Int) (L : Int) (y : Nat) (z : Int) (n n' : Nat) (m' : jx_M) : Array Value → State → Outcome → State → Prop := fun _ st o t =>
  o = .returned (jx_ret y z) ∧ jx_Wd E ph n' m' t.heap ∧ (∀ q : Nat, q < E.1 → t.heap[q]? = st.heap[q]?) ∧ jx_wM xs L m' ∧ jx_in z ∧ n ≤ n' ∧ n' ≤ 190 ∧ (ph = true → n' = 190)
abbrev jx_rm (y mc ms : Nat) : Room := { frames := jx_mF y, cells := mc, slots := ms, locals := jx_mO y }
theorem jg_warm {U : State} (hW : s.WarmedH U.vm) (h : jx_G E s) : jx_G E U := ⟨va_K.moved hW.alike h.1, fun a i x q hm => va_Nw.warmM hW (h.2.1 a i x q hm), fun C hm => va_AO.moved hW.alike (h.2.2 C hm)⟩
theorem jg_same {u U : State} (hv : u.vm = U.vm) (h : jx_G E u) : jx_G E U := ⟨va_K.moved (by rw [hv]; exact Vm.Alike.refl _) h.1, fun a i x q hm => va_Nw.same rfl hv (h.2.1 a i x q hm), fun C hm => va_AO.moved (by rw [hv]; exact Vm.Alike.refl _) (h.2.2 C hm)⟩
theorem jg_blind {as : List jx_V} {n : Nat} {m : jx_M} : FrameBlind (jx_Pc E ph xs L as n m) := by
  intro a U g mk h
  obtain ⟨h1, h2, h3, h4⟩ := h
  exact ⟨h1, h2, jg_same (u := U) rfl h3, fun hp => ⟨(h4 hp).1.moved (u := U) (Vm.Alike.refl U.vm), (h4 hp).2⟩⟩
theorem jg_good {ws : List Jvm.Cond} (h : ∀ w ∈ ws, w ∈ jx_gw) : GoodIn jx_gw ws := fun w hw => ⟨h w hw, good_of_word (List.mem_filter.mp (h w hw)).2⟩
theorem jg_pre {as : List jx_V} {n : Nat} {m : jx_M} {H : Heap} {locs : List Loc} (hG : jx_G E s) (hX : ph = true → jx_X E xs L s s.heap) (hW : jx_Wd E ph n m H) (hF : jx_F E s H locs) : PreS s H (jx_Pc E ph xs L as n m) (as.map (jx_con E)) :=
  ⟨jg_blind, fun U hU hw => ⟨rfl, by rw [hU]; exact hW, jg_warm hw hG, fun hp => ⟨by rw [hU]; exact (jw_X (hX hp) hF).moved hw.alike, (hX hp).2⟩⟩⟩
theorem jg_psh {y : Nat} {z : Int} {rest : List jx_V} : (jx_psh y z rest).map (jx_con E) = (jx_ret y z).toList ++ rest.map (jx_con E) := by
  unfold jx_psh jx_ret
  cases jx_mV y <;> rfl
/-- behind a call -/
theorem jr_after {H : Heap} {locs : List Loc} {cells slots mc ms pc : Nat} {lsr : Array Slot} {st0 rest : List Value} {y : Nat} {z : Int} {n n' : Nat} {m' : jx_M} {a : Array Value} (hr : va_Run p l e R s mm args below meth c H locs cells slots mc ms (F0 mm pc lsr st0) rest (jx_Qc E ph xs L y z n n' m' a) (fun q => E.1 ≤ q)) (hF : jx_F E s H locs)
    (kk : ∀ (H1 : Heap) (locs1 : List Loc), jx_Wd E ph n' m' H1 → jx_F E s H1 locs1 → (jx_wM xs L m' ∧ jx_in z ∧ n ≤ n' ∧ n' ≤ 190 ∧ (ph = true → n' = 190)) → W p l e R s mm args below meth c H1 locs1 (cells + mc) (slots + ms) Q (F0 mm (pc + 3) lsr ((jx_ret y z).toList ++ rest))) : W p l e R s mm args below meth c H locs cells slots Q (F0 mm pc lsr st0) := by
  intro T hT X
  obtain ⟨v, st₀, t, T', L', h0, X', hL, e1, e2, ⟨hv, hWd, hk, hp⟩, st⟩ := hr T hT X
  cases hv
  rw [h0] at hk
  obtain ⟨t2, a1, b1⟩ := kk T'.heap (locs ++ L') (by rw [e1]; exact hWd) ⟨hF.1, fun q hq => by rw [e1, hk q hq]; exact hF.2.1 q hq, fun q hq => by
      rcases List.mem_append.mp hq with h | h
      · exact hF.2.2 q h
      · exact hL q h⟩ hp T' rfl X'
  exact ⟨t2, st t2 a1, b1⟩
/-- what jx_okM says of a method -/
theorem jk_okM {y : Nat} (h : jx_okM y = true) : (Jvm.Cond.code (jx_mN y) (jx_mB y) (jx_mL y) (jx_mR y)) ∈ jx_gw ∧ (Jvm.Cond.initialized (jx_mN y).cls) ∈ jx_gw ∧ ((jx_mN y).cls ≠ "java/lang/invoke/MethodHandle" ∧ (jx_mN y).cls ≠ "java/lang/invoke/VarHandle") ∧ plainName (jx_mN y).cls = true ∧
    ((jx_mP y).2.2.1 = 1 → Jvm.Cond.static (jx_mN y) ∈ jx_gw ∧ (parseMethodDescriptor (jx_mN y).desc).map (fun d => d.parameters.length) = some (jx_mA y)) ∧
    ((jx_mP y).2.2.1 = 0 → Jvm.Cond.instanceMethod (jx_mN y) ∈ jx_gw ∧ Jvm.Cond.selects (jx_mN y).cls (jx_mN y) (jx_mN y) ∈ jx_gw ∧ (parseMethodDescriptor (jx_mN y).desc).map (fun d => d.parameters.length + 1) = some (jx_mA y) ∧ (jx_classes.map (·.1))[jx_mC y]? = some (jx_mN y).cls) ∧
    ((jx_mP y).2.2.1 = 3 → Jvm.Cond.instanceMethod (jx_mN y) ∈ jx_gw ∧ (jx_mN y).name = "<init>" ∧ (parseMethodDescriptor (jx_mN y).desc).map (fun d => d.parameters.length + 1) = some (jx_mA y) ∧ jx_mR y = none ∧ jx_mV y = true) := by
  unfold jx_okM at h
  obtain ⟨h1, h⟩ := ji_and h
  obtain ⟨h2, h⟩ := ji_and h
  obtain ⟨h3, h⟩ := ji_and h
  obtain ⟨h4, h⟩ := ji_and h
  refine ⟨jx_at_mem h1, jx_at_mem h2, of_decide_eq_true h3, h4, fun q => ?_, fun q => ?_, fun q => ?_⟩
  · rw [q] at h
    obtain ⟨a, b⟩ := ji_and h
    exact ⟨jx_at_mem a, of_decide_eq_true b⟩
  · rw [q] at h
    obtain ⟨a, b⟩ := ji_and h
    obtain ⟨b, d⟩ := ji_and b
    obtain ⟨d, f⟩ := ji_and d
    exact ⟨jx_at_mem a, jx_at_mem b, of_decide_eq_true d, of_decide_eq_true f⟩
  · rw [q] at h
    obtain ⟨a, b⟩ := ji_and h
    obtain ⟨b, d⟩ := ji_and b
    obtain ⟨d, f⟩ := ji_and d
    obtain ⟨f, g⟩ := ji_and f
    exact ⟨jx_at_mem a, of_decide_eq_true b, of_decide_eq_true d, of_decide_eq_true f, g⟩
theorem jk_par {d : String} {k : Nat} (h : (parseMethodDescriptor d).map (fun d => d.parameters.length + 1) = some k) {j : Nat} (hj : j + 1 = k) : (parseMethodDescriptor d).map (fun d => d.parameters.length) = some j := by
  cases hp : parseMethodDescriptor d with
  | none => rw [hp] at h; cases h
  | some q =>
    rw [hp] at h
    have h : some (q.parameters.length + 1) = some k := h
    have := Option.some.inj h
    show some q.parameters.length = some j
    congr 1
    omega
theorem jk_cons {w : Jvm.Cond} {ws : List Jvm.Cond} (h1 : w ∈ jx_gw) (h2 : ∀ v ∈ ws, v ∈ jx_gw) : ∀ v ∈ w :: ws, v ∈ jx_gw := List.forall_mem_cons.mpr ⟨h1, h2⟩
theorem jk_self : ∀ v ∈ jx_gw, v ∈ jx_gw := fun _ h => h
theorem jk_map {as : List jx_V} {s0 j0 : Nat} {tl rest : List jx_V} (h : as = xA s0 j0 :: tl) : (as.reverse ++ rest).map (jx_con E) = (tl.map (jx_con E)).reverse ++ Value.ref (jx_ad E s0 j0) :: rest.map (jx_con E) := by
  subst h
  simp only [List.reverse_cons, List.append_assoc, List.map_append, List.map_reverse]
  rfl
set_option maxHeartbeats 4000000 in
theorem jk_call (C : jx_C E ph xs L p R s mm args meth c x) {i : Nat} {ls : jx_L} {st : List jx_V} {n : Nat} {m : jx_M} (hok : jx_okR x i = true) (hisC : jx_isC (jx_row x i) = true) (hwf : jx_wf ph xs L x (i, ls, st, n, m)) {y : Nat} {as rest : List jx_V} (h : jx_step ph (jx_row x i) (i, ls, st, n, m) = some (.inr (y, as, rest)))
    {z : Int} {n' mc ms : Nat} {m' : jx_M} (hM : jx_okM y = true → Met l (jx_mN y) (jx_ws y) (jx_rm y mc ms) (jx_Pc E ph xs L as n m) (jx_Qc E ph xs L y z n n' m') mc ms (fun q => E.1 ≤ q)) (hfit : n - n0 + mc ≤ R.cells ∧ jx_SL n - jx_SL n0 + ms ≤ R.slots)
    (kk : ∀ (H1 : Heap) (locs1 : List Loc) (lsr : Array Slot), jx_Wd E ph n' m' H1 → jx_F E s H1 locs1 → lv_has lsr (jx_mL x) (jx_lv E 0 ls) → (jx_wM xs L m' ∧ jx_in z ∧ n ≤ n' ∧ n' ≤ 190 ∧ (ph = true → n' = 190)) → W p l e R s mm args below meth c H1 locs1 (n - n0 + mc) (jx_SL n - jx_SL n0 + ms) Q (F0 mm (jx_pc x (i + 1)) lsr ((jx_psh y z rest).map (jx_con E)))) :
    jx_W E ph p l e R s mm args below meth c Q n0 x (i, ls, st, n, m) ∧ (∀ v ∈ as, jx_wV v) ∧ (∀ v ∈ rest, jx_wV v) := by
  obtain ⟨hx, hb, hml, hown, hts, hnm, hG, hfr, hlo, hx9, hX⟩ := C
  have hS := hwf.2.2.1
  have hA := (ji_and hok).2
  have main : ∀ (as' rest' : List jx_V), as' = as → rest' = rest → st = as'.reverse ++ rest' → (∀ v ∈ as, jx_wV v) ∧ (∀ v ∈ rest, jx_wV v) := by
    intro as' rest' e1 e2 e3
    subst e1; subst e2
    have hS : ∀ v ∈ st, jx_wV v := hS
    rw [e3] at hS
    exact ⟨fun v hv => hS v (List.mem_append_left _ (List.mem_reverse.mpr hv)), fun v hv => hS v (List.mem_append_right _ hv)⟩
  cases ho : (jx_row x i).1
  case invokevirtual k0 =>
    have hd := jk_dec hok ho rfl
    unfold jx_okA at hA
    unfold jx_step jx_sem at h
    simp only [ho] at hA h
    obtain ⟨as', rest', hq, hst, hlen, hcat, hvir⟩ := ji_call h
    have hq : (y, as, rest) = ((jx_row x i).2.1, as', rest') := by cases hq; rfl
    obtain ⟨rfl, rfl, rfl⟩ : y = (jx_row x i).2.1 ∧ as = as' ∧ rest = rest' := by cases hq; exact ⟨rfl, rfl, rfl⟩
    obtain ⟨s0, j0, tl, ea, hk, hk2, hj, hn⟩ := hvir rfl
    have hn := jw_alive hwf hj hn
    obtain ⟨a1, hA⟩ := ji_and hA
    obtain ⟨a2, hA⟩ := ji_and hA
    obtain ⟨a3, hA⟩ := ji_and hA
    obtain ⟨a4, hA⟩ := ji_and hA
    obtain ⟨a5, hpc⟩ := ji_and hA
    have hpc := ji_beq hpc
    have a3 := Nat.le_of_ble_eq_true a3
    have a4 := Nat.le_of_ble_eq_true a4
    obtain ⟨w1, w2, w3, w4, -, w5, -⟩ := jk_okM a1
    obtain ⟨w5, w6, w7, w8⟩ := w5 (ji_beq a2)
    refine ⟨fun H locs lsr h1 h2 h3 => ?_, main _ _ rfl rfl hst⟩
    have hat := jw_at h1 hj hn
    rw [jw_ce0 hk, hk2] at hat
    rw [List.getElem?_map] at w8
    obtain ⟨q, hq1, hq2⟩ := Option.map_eq_some_iff.mp w8
    have hlen2 : tl.length + 1 = jx_mA (jx_row x i).2.1 := by rw [← hlen, ea]; rfl
    have hPS := jg_pre (as := as) hG hX h1 h2
    show W p l e R s mm args below meth c H locs _ _ Q (F0 mm (jx_pc x i) lsr (st.map (jx_con E)))
    rw [hst, jk_map ea]
    have hav : as.map (jx_con E) = Value.ref (jx_ad E s0 j0) :: tl.map (jx_con E) := by rw [ea]; rfl
    refine jr_after (y := (jx_row x i).2.1) (va_runV (own := (jx_mN x).cls) (C := (jx_mN (jx_row x i).2.1).cls) (As := tl.map (jx_con E)) (rest := rest.map (jx_con E)) (b := jx_ad E s0 j0) (Ts := jx_gw) ⟨hx, hb, hml, hown, hts⟩ (hM a1) (cwV tl.length hts (jg_good (jk_cons (jx_at_mem a5) (jk_cons w5 (jk_cons w6 (jk_cons w2 (jk_cons w1 jk_self)))))) rfl rfl rfl ⟨rfl, w3.1, w3.2, jk_par w7 hlen2⟩ ⟨by show jx_mF _ + 1 ≤ _; omega, by show 8 + (_ + 11) + jx_mO _ ≤ _; omega⟩) ⟨hPS.1, ?_, fun U hU hW => by rw [← hav]; exact hPS.2 U hU hW⟩ rfl (by rw [List.length_map]) h3.1 rfl (lv_room (by rw [jv_cats]; exact hcat)) hd hfit) h2 (fun H1 locs1 b1 b2 b3 => ?_)
    · have hr := va_recv hG.1 (jp_one hat) hq1 rfl (a := E.1 + jx_pos s0 j0) (q0 := 0)
      rw [jy_ad hj, ← hq2]
      exact hr
    · have q9 := kk H1 locs1 lsr b1 b2 h3 b3
      rw [hpc, jg_psh] at q9
      exact q9
  case invokestatic k0 =>
    have hd := jk_dec hok ho rfl
    have hne : (jx_row x i).2.2.1 ≠ 3 ∧ (jx_row x i).2.2.1 ≠ 4 ∧ (jx_row x i).2.2.1 ≠ 5 := by
      refine ⟨fun q => ?_, fun q => ?_, fun q => ?_⟩
      · unfold jx_step jx_sem at h
        simp only [ho, q] at h
        obtain ⟨_, _, _, h⟩ := ji_pI h
        obtain ⟨_, _, _, h⟩ := ji_pI h
        obtain ⟨_, _, _, _, h⟩ := ji_pA h
        obtain ⟨_, _, _, h⟩ := ji_pI h
        obtain ⟨_, _, _, _, h⟩ := ji_pA h
        obtain ⟨_, h⟩ := ji_bif h
        obtain ⟨_, h⟩ := ji_if h
        obtain ⟨_, _, h⟩ := ji_gA h
        obtain ⟨_, _, h⟩ := ji_gA h
        cases h
      · unfold jx_step jx_sem at h
        simp only [ho, q] at h
        obtain ⟨_, _, _, h⟩ := ji_pI h
        obtain ⟨_, _, _, h⟩ := ji_pI h
        obtain ⟨_, h⟩ := ji_bif h
        cases h
      · unfold jx_step jx_sem at h
        simp only [ho, q] at h
        obtain ⟨_, _, _, h⟩ := ji_pI h
        obtain ⟨_, h⟩ := ji_bif h
        obtain ⟨_, h⟩ := ji_if h
        cases h
    obtain ⟨n3, n4, n5⟩ := hne
    unfold jx_okA at hA
    unfold jx_step jx_sem at h
    simp only [ho] at hA h
    obtain ⟨as', rest', hq, hst, hlen, hcat, hvir⟩ := ji_call h
    have hq : (y, as, rest) = ((jx_row x i).2.1, as', rest') := by cases hq; rfl
    obtain ⟨rfl, rfl, rfl⟩ : y = (jx_row x i).2.1 ∧ as = as' ∧ rest = rest' := by cases hq; exact ⟨rfl, rfl, rfl⟩
    refine ⟨fun H locs lsr h1 h2 h3 => ?_, main _ _ rfl rfl hst⟩
    have hPS := jg_pre (as := as) hG hX h1 h2
    show W p l e R s mm args below meth c H locs _ _ Q (F0 mm (jx_pc x i) lsr (st.map (jx_con E)))
    rw [hst, List.map_append, List.map_reverse]
    by_cases n1 : (jx_row x i).2.2.1 = 1
    · simp only [n1] at hA
      obtain ⟨a1, hA⟩ := ji_and hA
      obtain ⟨a2, hA⟩ := ji_and hA
      obtain ⟨a3, hA⟩ := ji_and hA
      obtain ⟨a4, hA⟩ := ji_and hA
      obtain ⟨a5, hpc⟩ := ji_and hA
      have hpc := ji_beq hpc
      have a3 := Nat.le_of_ble_eq_true a3
      have a4 := Nat.le_of_ble_eq_true a4
      have a5 := List.mem_of_getElem? (of_decide_eq_true a5)
      obtain ⟨w1, w2, w3, w4, w5, -, -⟩ := jk_okM a1
      obtain ⟨w5, w6⟩ := w5 (ji_beq a2)
      refine jr_after (y := (jx_row x i).2.1) (va_runSN (own := (jx_mN x).cls) (host := "StreetCries") (As := as.map (jx_con E)) (rest := rest.map (jx_con E)) (Ts := jx_gw) ⟨hx, hb, hml, hown, hts⟩ (hM a1) ⟨va_cnB (jx_mA (jx_row x i).2.1) hts (jg_good (jk_cons w1 jk_self)) rfl rfl rfl (hG.2.1 _ _ _ _ a5) (hts _ w2) ⟨w3.1, w3.2, w6⟩ ⟨by show jx_mF _ + 1 ≤ _; omega, by show 8 + (_ + 11) + jx_mO _ ≤ _; omega⟩, hts _ w5, trivial⟩ hPS rfl (by rw [List.length_map]; exact hlen) h3.1 rfl (lv_room (by rw [jv_cats]; exact hcat)) hd hfit) h2 (fun H1 locs1 b1 b2 b3 => ?_)
      have q9 := kk H1 locs1 lsr b1 b2 h3 b3
      rw [hpc, jg_psh] at q9
      exact q9
    · have hA2 : (jx_okM (jx_row x i).2.1 && (Nat.beq (jx_mP (jx_row x i).2.1).2.2.1 1 && (Nat.ble (jx_mF (jx_row x i).2.1 + 1) (jx_mF x) && (Nat.ble (8 + (jx_mL (jx_row x i).2.1 + 11) + jx_mO (jx_row x i).2.1) (jx_mO x) && (jx_at (jx_row x i).2.2.2.toNat (.methodLink (jx_mN x).cls k0 (jx_mN (jx_row x i).2.1)) && Nat.beq (jx_pc x (i + 1)) (jx_pc x i + jx_ln (.invokestatic k0))))))) = true := by
        split at hA
        · rename_i q; exact absurd q n3
        · rename_i q; exact absurd q n4
        · rename_i q; exact absurd q n5
        · rename_i q; exact absurd q n1
        · exact hA
      obtain ⟨a1, hA⟩ := ji_and hA2
      obtain ⟨a2, hA⟩ := ji_and hA
      obtain ⟨a3, hA⟩ := ji_and hA
      obtain ⟨a4, hA⟩ := ji_and hA
      obtain ⟨a5, hpc⟩ := ji_and hA
      have hpc := ji_beq hpc
      have a3 := Nat.le_of_ble_eq_true a3
      have a4 := Nat.le_of_ble_eq_true a4
      obtain ⟨w1, w2, w3, w4, w5, -, -⟩ := jk_okM a1
      obtain ⟨w5, w6⟩ := w5 (ji_beq a2)
      refine jr_after (y := (jx_row x i).2.1) (va_runS (own := (jx_mN x).cls) (As := as.map (jx_con E)) (rest := rest.map (jx_con E)) (Ts := jx_gw) ⟨hx, hb, hml, hown, hts⟩ (hM a1) (va_cwS (jx_mA (jx_row x i).2.1) hts (jg_good (jk_cons (jx_at_mem a5) (jk_cons w5 (jk_cons w2 (jk_cons w1 jk_self))))) rfl rfl rfl ⟨w3.1, w3.2, w6⟩ ⟨by show jx_mF _ + 1 ≤ _; omega, by show 8 + (_ + 11) + jx_mO _ ≤ _; omega⟩) hPS rfl (by rw [List.length_map]; exact hlen) h3.1 rfl (lv_room (by rw [jv_cats]; exact hcat)) hd hfit) h2 (fun H1 locs1 b1 b2 b3 => ?_)
      have q9 := kk H1 locs1 lsr b1 b2 h3 b3
      rw [hpc, jg_psh] at q9
      exact q9
  case invokespecial k0 =>
    have hd := jk_dec hok ho rfl
    have n2 : (jx_row x i).2.2.1 ≠ 2 := by
      intro q
      unfold jx_step jx_sem at h
      simp only [ho, q] at h
      obtain ⟨_, _, _, _, h⟩ := ji_pA h
      obtain ⟨_, h⟩ := ji_bif h
      cases h
    unfold jx_okA at hA
    unfold jx_step jx_sem at h
    simp only [ho] at hA h
    obtain ⟨as', rest', hq, hst, hlen, hcat, hvir⟩ := ji_call h
    have hq : (y, as, rest) = ((jx_row x i).2.1, as', rest') := by cases hq; rfl
    obtain ⟨rfl, rfl, rfl⟩ : y = (jx_row x i).2.1 ∧ as = as' ∧ rest = rest' := by cases hq; exact ⟨rfl, rfl, rfl⟩
    obtain ⟨s0, j0, tl, ea, -, -, -, -⟩ := hvir rfl
    refine ⟨fun H locs lsr h1 h2 h3 => ?_, main _ _ rfl rfl hst⟩
    have hlen2 : tl.length + 1 = jx_mA (jx_row x i).2.1 := by rw [← hlen, ea]; rfl
    have hPS := jg_pre (as := as) hG hX h1 h2
    have hav : as.map (jx_con E) = Value.ref (jx_ad E s0 j0) :: tl.map (jx_con E) := by rw [ea]; rfl
    rw [hav] at hPS
    show W p l e R s mm args below meth c H locs _ _ Q (F0 mm (jx_pc x i) lsr (st.map (jx_con E)))
    rw [hst, jk_map ea]
    by_cases n1 : (jx_row x i).2.2.1 = 1
    · simp only [n1] at hA
      obtain ⟨a1, hA⟩ := ji_and hA
      obtain ⟨a2, hA⟩ := ji_and hA
      obtain ⟨a3, hA⟩ := ji_and hA
      obtain ⟨a4, hA⟩ := ji_and hA
      obtain ⟨a5, hpc⟩ := ji_and hA
      have hpc := ji_beq hpc
      have a3 := Nat.le_of_ble_eq_true a3
      have a4 := Nat.le_of_ble_eq_true a4
      have a5 := List.mem_of_getElem? (of_decide_eq_true a5)
      obtain ⟨w1, w2, w3, w4, -, -, w5⟩ := jk_okM a1
      obtain ⟨w5, w6, w7, w8, w9⟩ := w5 (ji_beq a2)
      have hws : jx_ws (jx_row x i).2.1 = Jvm.Cond.code (jx_mN (jx_row x i).2.1) (jx_mB (jx_row x i).2.1) (jx_mL (jx_row x i).2.1) none :: jx_gw := by show Jvm.Cond.code _ _ _ _ :: jx_gw = _; rw [w8]
      refine jr_after (y := (jx_row x i).2.1) (va_runIN (own := (jx_mN x).cls) (host := "StreetCries") (As := tl.map (jx_con E)) (rest := rest.map (jx_con E)) (b := jx_ad E s0 j0) (Ts := jx_gw) ⟨hx, hb, hml, hown, hts⟩ (hM a1) ⟨va_cnB tl.length hts (jg_good (jk_cons w1 jk_self)) hws rfl rfl (hG.2.1 _ _ _ _ a5) (hts _ w2) ⟨w3.1, w3.2, jk_par w7 hlen2⟩ ⟨by show jx_mF _ + 1 ≤ _; omega, by show 8 + (_ + 11) + jx_mO _ ≤ _; omega⟩, w6, hts _ w5⟩ hPS rfl (by rw [List.length_map]) h3.1 rfl (lv_room (by rw [jv_cats]; exact hcat)) hd hfit) h2 (fun H1 locs1 b1 b2 b3 => ?_)
      have q9 := kk H1 locs1 lsr b1 b2 h3 b3
      rw [hpc, jg_psh] at q9
      exact q9
    · have hA2 : (jx_okM (jx_row x i).2.1 && (Nat.beq (jx_mP (jx_row x i).2.1).2.2.1 3 && (Nat.ble (jx_mF (jx_row x i).2.1 + 1) (jx_mF x) && (Nat.ble (8 + (jx_mL (jx_row x i).2.1 + 11) + jx_mO (jx_row x i).2.1) (jx_mO x) && (jx_at (jx_row x i).2.2.2.toNat (.methodLink (jx_mN x).cls k0 (jx_mN (jx_row x i).2.1)) && Nat.beq (jx_pc x (i + 1)) (jx_pc x i + jx_ln (.invokespecial k0))))))) = true := by
        split at hA
        · rename_i q; exact absurd q n2
        · rename_i q; exact absurd q n1
        · exact hA
      obtain ⟨a1, hA⟩ := ji_and hA2
      obtain ⟨a2, hA⟩ := ji_and hA
      obtain ⟨a3, hA⟩ := ji_and hA
      obtain ⟨a4, hA⟩ := ji_and hA
      obtain ⟨a5, hpc⟩ := ji_and hA
      have hpc := ji_beq hpc
      have a3 := Nat.le_of_ble_eq_true a3
      have a4 := Nat.le_of_ble_eq_true a4
      obtain ⟨w1, w2, w3, w4, -, -, w5⟩ := jk_okM a1
      obtain ⟨w5, w6, w7, w8, w9⟩ := w5 (ji_beq a2)
      have hws : jx_ws (jx_row x i).2.1 = Jvm.Cond.code (jx_mN (jx_row x i).2.1) (jx_mB (jx_row x i).2.1) (jx_mL (jx_row x i).2.1) none :: jx_gw := by show Jvm.Cond.code _ _ _ _ :: jx_gw = _; rw [w8]
      refine jr_after (y := (jx_row x i).2.1) (va_runI (own := (jx_mN x).cls) (As := tl.map (jx_con E)) (rest := rest.map (jx_con E)) (b := jx_ad E s0 j0) (Ts := jx_gw) ⟨hx, hb, hml, hown, hts⟩ (hM a1) (cwI tl.length hts (jg_good (jk_cons w1 jk_self)) hws rfl rfl (hts _ w2) (hts _ (jx_at_mem a5)) (hts _ w5) w6 ⟨w3.1, w3.2, jk_par w7 hlen2⟩ ⟨by show jx_mF _ + 1 ≤ _; omega, by show 8 + (_ + 11) + jx_mO _ ≤ _; omega⟩) hPS rfl (by rw [List.length_map]) h3.1 rfl (lv_room (by rw [jv_cats]; exact hcat)) hd hfit) h2 (fun H1 locs1 b1 b2 b3 => ?_)
      have q9 := kk H1 locs1 lsr b1 b2 h3 b3
      rw [hpc, jg_psh] at q9
      exact q9
  all_goals (exfalso; unfold jx_isC at hisC; rw [ho] at hisC; cases hisC)
end
