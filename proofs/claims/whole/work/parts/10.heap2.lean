/-! arrays, making, copying, library members as one step; switches -/
section
variable {E : jx_E} {ph : Bool} {xs : Nat → Int} {L : Int} {p : Program} {l : Launch} {e : Env} {R : Room} {s : State} {mm : MethodId} {args : Array Value} {below : List Frame} {meth : Method} {c : Code} {Q : State → Prop} {n0 x : Nat}
theorem ji_br {α : Type} {c : Bool} {a b : Option α} {q : α} (h : (bif c then a else b) = some q) : (c = true ∧ a = some q) ∨ (c = false ∧ b = some q) := by
  cases c
  · exact Or.inr ⟨rfl, h⟩
  · exact Or.inl ⟨rfl, h⟩
theorem jw_X {H : Heap} {locs : List Loc} (hX : jx_X E xs L s s.heap) (hF : jx_F E s H locs) : va_X E.2.1 L.toNat (fun k => Int32.ofInt (xs k)) s H := hX.1.kept (hF.2.1 _ hX.2.1)
theorem jw_sld {H : Heap} {locs : List Loc} {cells slots pc : Nat} {lsr : Array Slot} {rest : List Value} {cc : ByteArray} (hexec : p.tables.exec = Jvm.exec) (hb : c.code = cc) {b N : Nat} {f : Nat → Int32} (hX : va_X b N f s H) {i : Int32} (hin : vp_in i N) (hdg : decode cc pc = .ok (.iaload, 1))
    (kk : W p l e R s mm args below meth c H locs cells slots Q (F0 mm (pc + 1) lsr (.int (f i.toNatClampNeg) :: rest))) : W p l e R s mm args below meth c H locs cells slots Q (F0 mm pc lsr (.int i :: .ref b :: rest)) := by
  obtain ⟨scr, h1, h2, h3, h4, h5⟩ := hX
  have hlt : i.toNatClampNeg < N := Nat.not_le.mp fun q => hin (Or.inr q)
  exact W.iald (v := .int (f i.toNatClampNeg)) hexec hb h1 h2 h3 (by rw [h4]; exact hin) (h5 _ hlt) rfl rfl hdg kk
theorem jw_slen {H : Heap} {locs : List Loc} {cells slots pc : Nat} {lsr : Array Slot} {rest : List Value} {cc : ByteArray} (hexec : p.tables.exec = Jvm.exec) (hb : c.code = cc) {b N : Nat} {f : Nat → Int32} (hX : va_X b N f s H) (hdg : decode cc pc = .ok (.arraylength, 1))
    (kk : W p l e R s mm args below meth c H locs cells slots Q (F0 mm (pc + 1) lsr (.int (Int32.ofNat N) :: rest))) : W p l e R s mm args below meth c H locs cells slots Q (F0 mm pc lsr (.ref b :: rest)) := by
  obtain ⟨scr, h1, h2, h3, h4, h5⟩ := hX
  exact W.alen (n := Int32.ofNat N) hexec hb h1 h2 (by rw [h4] <;> rfl) rfl rfl hdg kk
theorem jw_ad60 {j : Nat} : jx_ad E 60 j = E.2.1 := rfl
set_option maxHeartbeats 1000000 in
theorem jo_iaload {i : Nat} {ls : jx_L} {st : List jx_V} {n : Nat} {m : jx_M} (hok : jx_okR x i = true) (hwf : jx_wf ph xs L x (i, ls, st, n, m)) {t' : jx_S} (ho : (jx_row x i).1 = .iaload) (h : jx_step ph (jx_row x i) (i, ls, st, n, m) = some (.inl t')) : jx_K E ph xs L p l e R s mm args below meth c Q n0 x (i, ls, st, n, m) t' := by
  have hS := hwf.2.2.1
  have hA := (ji_and hok).2
  have hd := jk_dec hok ho rfl
  unfold jx_okA at hA
  unfold jx_step jx_sem at h
  simp only [ho] at hA h
  obtain ⟨z, st1, e9, h9⟩ := ji_pI h
  clear h
  subst e9
  have h := h9
  clear h9
  obtain ⟨s0, j0, st2, e9, h9⟩ := ji_pA h
  clear h
  subst e9
  have h := h9
  clear h9
  obtain ⟨hz, hS8⟩ := jw_cons hS
  obtain ⟨hw, hS9⟩ := jw_cons hS8
  have hz : jx_in z := hz
  clear hS hS8
  have hS := hS9
  clear hS9
  rcases ji_br h with ⟨hs, h9⟩ | ⟨hs, h9⟩
  · clear h
    obtain ⟨hg, h⟩ := ji_if h9
    cases h
    obtain ⟨hph, hs⟩ := ji_and hs
    obtain rfl := ji_beq hs
    have hM := hwf.2.2.2.1
    refine jk_ok hwf (jw_mk (hM.1 _ _ _) hS) (ji_beq hA) (fun ⟨hx, hb, hml, hown, hts, hnm, hG, hfr, hlo, hx9, hX⟩ H locs lsr _ _ h1 h2 h3 k => ?_)
    have hL : m 61 0 0 = L := hM.2.2
    show W p l e R s mm args below meth c H locs _ _ Q (F0 mm (jx_pc x i) lsr (.int (Int32.ofInt z) :: .ref E.2.1 :: st2.map (jx_con E)))
    refine jw_sld hx hb (jw_X (hX hph) h2) (jn_vin hz hg.1 (by rw [hL] at hg; omega)) hd ?_
    rw [jn_cl hz, ← hM.2.1]
    exact k
  · clear h
    obtain ⟨hg, h⟩ := ji_if h9
    obtain ⟨hj, hn, h9⟩ := ji_gA h
    clear h
    have h := h9
    clear h9
    cases h
    have hn := jw_alive hwf hj hn
    refine jk_ok hwf (jw_mk (hwf.2.2.2.1.1 _ _ _) hS) (ji_beq hA) (fun ⟨hx, hb, hml, hown, hts, hnm, hG, hfr, hlo, hx9, hX⟩ H locs lsr _ _ h1 h2 h3 k => ?_)
    have hat := jw_at h1 hj hn
    rw [jw_ce1 hg.1] at hat
    show W p l e R s mm args below meth c H locs _ _ Q (F0 mm (jx_pc x i) lsr (.int (Int32.ofInt z) :: .ref (jx_ad E s0 j0) :: st2.map (jx_con E)))
    rw [jy_ad hj]
    refine va_iald (D := E.2.2.1) (cl := jx_classes) (tys := jx_tys E) hx hb hG.1 (jp_one hat) 0 0 rfl rfl (jn_vin hz hg.2.1 hg.2.2) hd ?_
    rw [jn_cl hz]
    exact k
set_option maxHeartbeats 1000000 in
theorem jo_iastore {i : Nat} {ls : jx_L} {st : List jx_V} {n : Nat} {m : jx_M} (hok : jx_okR x i = true) (hwf : jx_wf ph xs L x (i, ls, st, n, m)) {t' : jx_S} (ho : (jx_row x i).1 = .iastore) (h : jx_step ph (jx_row x i) (i, ls, st, n, m) = some (.inl t')) : jx_K E ph xs L p l e R s mm args below meth c Q n0 x (i, ls, st, n, m) t' := by
  have hS := hwf.2.2.1
  have hA := (ji_and hok).2
  have hd := jk_dec hok ho rfl
  unfold jx_okA at hA
  unfold jx_step jx_sem at h
  simp only [ho] at hA h
  obtain ⟨v, st0, e9, h9⟩ := ji_pI h
  clear h
  subst e9
  have h := h9
  clear h9
  obtain ⟨z, st1, e9, h9⟩ := ji_pI h
  clear h
  subst e9
  have h := h9
  clear h9
  obtain ⟨s0, j0, st2, e9, h9⟩ := ji_pA h
  clear h
  subst e9
  have h := h9
  clear h9
  obtain ⟨hg, h9⟩ := ji_if h
  clear h
  have h := h9
  clear h9
  obtain ⟨hj, hn, h9⟩ := ji_gA h
  clear h
  have h := h9
  clear h9
  cases h
  have hn := jw_alive hwf hj hn
  obtain ⟨hv, hS⟩ := jw_cons hS
  obtain ⟨hz, hS⟩ := jw_cons hS
  obtain ⟨hw, hS⟩ := jw_cons hS
  have hz : jx_in z := hz
  refine jk_mem hwf hS hj hn jw_up_ne (jw_up_in hwf.2.2.2.1.1 hv) (ji_beq hA) (fun ⟨hx, hb, hml, hown, hts, hnm, hG, hfr, hlo, hx9, hX⟩ H locs lsr h1 h2 h3 k => ?_)
  have hat := jw_at h1 hj hn
  rw [jw_ce1 hg.1] at hat
  show W p l e R s mm args below meth c H locs _ _ Q (F0 mm (jx_pc x i) lsr (.int (Int32.ofInt v) :: .int (Int32.ofInt z) :: .ref (jx_ad E s0 j0) :: st2.map (jx_con E)))
  rw [jy_ad hj]
  refine jp_ias hx hb hG hat (jn_vin hz hg.2.1 hg.2.2) hd (fun H1 y a1 a2 a3 => k H1 _ ?_ a2 a3 jl_loc)
  rw [jw_ce1 hg.1]
  rw [jn_cl hz] at a1
  have ef : (fun k => Int32.ofInt (jx_up m s0 j0 z.toNat v s0 j0 k)) = upd (fun k => Int32.ofInt (m s0 j0 k)) z.toNat (Int32.ofInt v) := by
    funext q
    unfold upd
    by_cases e1 : q = z.toNat
    · rw [if_pos e1, e1, jw_up_self]
    · rw [if_neg e1, jw_up_oth e1]
  rw [ef]
  exact a1
set_option maxHeartbeats 1000000 in
theorem jo_aaload {i : Nat} {ls : jx_L} {st : List jx_V} {n : Nat} {m : jx_M} (hok : jx_okR x i = true) (hwf : jx_wf ph xs L x (i, ls, st, n, m)) {t' : jx_S} (ho : (jx_row x i).1 = .aaload) (h : jx_step ph (jx_row x i) (i, ls, st, n, m) = some (.inl t')) : jx_K E ph xs L p l e R s mm args below meth c Q n0 x (i, ls, st, n, m) t' := by
  have hS := hwf.2.2.1
  have hA := (ji_and hok).2
  have hd := jk_dec hok ho rfl
  unfold jx_okA at hA
  unfold jx_step jx_sem at h
  simp only [ho] at hA h
  obtain ⟨z, st1, e9, h9⟩ := ji_pI h
  clear h
  subst e9
  have h := h9
  clear h9
  obtain ⟨s0, j0, st2, e9, h9⟩ := ji_pA h
  clear h
  subst e9
  have h := h9
  clear h9
  obtain ⟨hk, h9⟩ := ji_bif h
  clear h
  have h := h9
  clear h9
  have hk := ji_beq hk
  obtain ⟨hg, h9⟩ := ji_if h
  clear h
  have h := h9
  clear h9
  obtain ⟨hj, hn, h9⟩ := ji_gA h
  clear h
  have h := h9
  clear h9
  obtain ⟨hfl, h9⟩ := ji_gF h
  clear h
  have h := h9
  clear h9
  cases h
  have hn := jw_alive hwf hj hn
  obtain ⟨hz, hS⟩ := jw_cons hS
  obtain ⟨hw, hS⟩ := jw_cons hS
  have hz : jx_in z := hz
  obtain ⟨-, -, hel⟩ := jy_arr hj hk
  have hel := hel z hg.1 hg.2
  refine jk_ok hwf (jw_mk trivial hS) (ji_beq hA) (fun ⟨hx, hb, hml, hown, hts, hnm, hG, hfr, hlo, hx9, hX⟩ H locs lsr _ _ h1 h2 h3 k => ?_)
  have hat := jw_at h1 hj hn
  rw [jw_ce2 hk] at hat
  obtain ⟨q, hq, hty, -⟩ := jy_tys (E := E) hj hk
  show W p l e R s mm args below meth c H locs _ _ Q (F0 mm (jx_pc x i) lsr (.int (Int32.ofInt z) :: .ref (jx_ad E s0 j0) :: st2.map (jx_con E)))
  rw [jy_ad hj]
  refine va_aldq (D := E.2.2.1) (cl := jx_classes) (tys := jx_tys E) hx hb hG.1 (jp_one hat) 0 (jy_rt s0) rfl hty (jn_vin hz hg.1 hg.2) hd ?_
  rw [jn_cl hz, if_pos hfl]
  have ez : ((z.toNat : Nat) : Int) = z := by omega
  rw [ez]
  have k : W p l e R s mm args below meth c H locs _ _ Q (F0 mm (jx_pc x i + 1) lsr (.ref (jx_ad E (jx_sE s0) (jx_el s0 j0 z)) :: st2.map (jx_con E))) := k
  rw [jy_ad hel] at k
  exact k
set_option maxHeartbeats 1000000 in
theorem jo_aastore {i : Nat} {ls : jx_L} {st : List jx_V} {n : Nat} {m : jx_M} (hok : jx_okR x i = true) (hwf : jx_wf ph xs L x (i, ls, st, n, m)) {t' : jx_S} (ho : (jx_row x i).1 = .aastore) (h : jx_step ph (jx_row x i) (i, ls, st, n, m) = some (.inl t')) : jx_K E ph xs L p l e R s mm args below meth c Q n0 x (i, ls, st, n, m) t' := by
  have hS := hwf.2.2.1
  have hA := (ji_and hok).2
  have hd := jk_dec hok ho rfl
  unfold jx_okA at hA
  unfold jx_step jx_sem at h
  simp only [ho] at hA h
  obtain ⟨s2, j2, st0, e9, h9⟩ := ji_pA h
  clear h
  subst e9
  have h := h9
  clear h9
  obtain ⟨z, st1, e9, h9⟩ := ji_pI h
  clear h
  subst e9
  have h := h9
  clear h9
  obtain ⟨s0, j0, st2, e9, h9⟩ := ji_pA h
  clear h
  subst e9
  have h := h9
  clear h9
  obtain ⟨hk, h9⟩ := ji_bif h
  clear h
  have h := h9
  clear h9
  obtain ⟨hph, hk⟩ := ji_and hk
  obtain ⟨hk, hk2⟩ := ji_and hk
  obtain ⟨hk2, hk3⟩ := ji_and hk2
  have hk := ji_beq hk
  have hk2 := ji_beq hk2
  have hk3 := ji_beq hk3
  obtain ⟨hg, h9⟩ := ji_if h
  clear h
  have h := h9
  clear h9
  obtain ⟨hj, hn, h9⟩ := ji_gA h
  clear h
  have h := h9
  clear h9
  obtain ⟨hj2, hn2, h9⟩ := ji_gA h
  clear h
  have h := h9
  clear h9
  cases h
  have hn := jw_alive hwf hj hn
  have hn2 := jw_alive hwf hj2 hn2
  obtain ⟨hv, hS⟩ := jw_cons hS
  obtain ⟨hz, hS⟩ := jw_cons hS
  obtain ⟨hw, hS⟩ := jw_cons hS
  have hz : jx_in z := hz
  obtain ⟨-, hke, -⟩ := jy_arr hj hk
  refine jk_mem hwf hS hj hn jw_up_ne (jw_up_in hwf.2.2.2.1.1 (by omega)) (ji_beq hA) (fun ⟨hx, hb, hml, hown, hts, hnm, hG, hfr, hlo, hx9, hX⟩ H locs lsr h1 h2 h3 k => ?_)
  have hat := jw_at h1 hj hn
  rw [jw_ce2 hk] at hat
  have hat2 := jw_at h1 hj2 hn2
  rw [hk2] at hat2
  rw [jw_ce0 hke] at hat2
  obtain ⟨q, hq, hty, -⟩ := jy_tys (E := E) hj hk
  show W p l e R s mm args below meth c H locs _ _ Q (F0 mm (jx_pc x i) lsr (.ref (jx_ad E s2 j2) :: .int (Int32.ofInt z) :: .ref (jx_ad E s0 j0) :: st2.map (jx_con E)))
  rw [jy_ad hj, jy_ad hj2, hk2]
  refine jp_aas hx hb hG hat hty hat2 hq (jn_vin hz hg.1 hg.2) hd (fun H1 y a1 a2 a3 => k H1 _ ?_ a2 a3 jl_loc)
  rw [jw_ce2 hk]
  rw [jn_cl hz] at a1
  have ef : (fun k : Nat => if ph = true ∨ jx_up m s0 j0 z.toNat 1 s0 j0 k = 1 then some (E.1 + jx_pos (jx_sE s0) (jx_el s0 j0 k)) else none) = va_up (fun k : Nat => if ph = true ∨ m s0 j0 k = 1 then some (E.1 + jx_pos (jx_sE s0) (jx_el s0 j0 k)) else none) z.toNat (some (E.1 + jx_pos (jx_sE s0) j2)) := by
    funext q
    unfold va_up
    by_cases e1 : q = z.toNat
    · rw [if_pos e1, e1, jw_up_self, if_pos (Or.inr rfl), hk3]
      have ez : ((z.toNat : Nat) : Int) = z := by omega
      rw [ez]
    · rw [if_neg e1, jw_up_oth e1]
  rw [ef]
  exact a1
set_option maxHeartbeats 1000000 in
theorem jo_arraylength {i : Nat} {ls : jx_L} {st : List jx_V} {n : Nat} {m : jx_M} (hok : jx_okR x i = true) (hwf : jx_wf ph xs L x (i, ls, st, n, m)) {t' : jx_S} (ho : (jx_row x i).1 = .arraylength) (h : jx_step ph (jx_row x i) (i, ls, st, n, m) = some (.inl t')) : jx_K E ph xs L p l e R s mm args below meth c Q n0 x (i, ls, st, n, m) t' := by
  have hS := hwf.2.2.1
  have hA := (ji_and hok).2
  have hd := jk_dec hok ho rfl
  unfold jx_okA at hA
  unfold jx_step jx_sem at h
  simp only [ho] at hA h
  obtain ⟨s0, j0, st1, e9, h9⟩ := ji_pA h
  clear h
  subst e9
  have h := h9
  clear h9
  obtain ⟨hw, hS9⟩ := jw_cons hS
  clear hS
  have hS := hS9
  clear hS9
  rcases ji_br h with ⟨hs, h9⟩ | ⟨hs, h9⟩
  · clear h
    cases h9
    obtain ⟨hph, hs⟩ := ji_and hs
    obtain rfl := ji_beq hs
    have hM := hwf.2.2.2.1
    refine jk_ok hwf (jw_mk (hM.1 _ _ _) hS) (ji_beq hA) (fun ⟨hx, hb, hml, hown, hts, hnm, hG, hfr, hlo, hx9, hX⟩ H locs lsr _ _ h1 h2 h3 k => ?_)
    have hL : m 61 0 0 = L := hM.2.2
    show W p l e R s mm args below meth c H locs _ _ Q (F0 mm (jx_pc x i) lsr (.ref E.2.1 :: st1.map (jx_con E)))
    refine jw_slen hx hb (jw_X (hX hph) h2) hd ?_
    have k : W p l e R s mm args below meth c H locs _ _ Q (F0 mm (jx_pc x i + 1) lsr (.int (Int32.ofInt (m 61 0 0)) :: st1.map (jx_con E))) := k
    rw [hL, jn_nat (hX hph).2.2.1] at k
    exact k
  · clear h
    obtain ⟨hg, h⟩ := ji_if h9
    obtain ⟨hj, hn, h9⟩ := ji_gA h
    clear h
    have h := h9
    clear h9
    cases h
    have hn := jw_alive hwf hj hn
    have hP := jy_ints hj hg
    refine jk_ok hwf (jw_mk (show jx_in (jx_sP s0 : Int) by omega) hS) (ji_beq hA) (fun ⟨hx, hb, hml, hown, hts, hnm, hG, hfr, hlo, hx9, hX⟩ H locs lsr _ _ h1 h2 h3 k => ?_)
    have hat := jw_at h1 hj hn
    rw [jw_ce1 hg] at hat
    show W p l e R s mm args below meth c H locs _ _ Q (F0 mm (jx_pc x i) lsr (.ref (jx_ad E s0 j0) :: st1.map (jx_con E)))
    rw [jy_ad hj]
    exact va_alen (D := E.2.2.1) (cl := jx_classes) (tys := jx_tys E) hx hb hG.1 (jp_one hat) 0 0 rfl rfl (by rw [← Int32.ofInt_eq_ofNat]) hd k
theorem ji_tsw {α : Type} {x0 : Int} {k : Nat → Option α} {q : α} {b : Nat} : ∀ (ts : List Nat) (z : Int), jx_tsw (fun c hd a b => @ite _ c hd a b) x0 k z ts b = some q → (∃ (y t : Nat), ts[y]? = some t ∧ x0 = z + (y : Int) ∧ k t = some q) ∨ ((x0 < z ∨ z + (ts.length : Int) ≤ x0) ∧ k b = some q)
  | [], z, h => by
    right
    refine ⟨?_, h⟩
    simp only [List.length_nil]
    omega
  | t :: ts, z, h => by
    unfold jx_tsw at h
    by_cases e1 : x0 = z
    · simp only [if_pos e1] at h
      exact Or.inl ⟨0, t, rfl, by omega, h⟩
    · simp only [if_neg e1] at h
      rcases ji_tsw ts (z + 1) h with ⟨y, t', h1, h2, h3⟩ | ⟨h1, h2⟩
      · exact Or.inl ⟨y + 1, t', by rw [List.getElem?_cons_succ]; exact h1, by omega, h3⟩
      · right
        refine ⟨?_, h2⟩
        simp only [List.length_cons]
        omega
set_option maxHeartbeats 1000000 in
theorem jo_tableswitch {i : Nat} {ls : jx_L} {st : List jx_V} {n : Nat} {m : jx_M} (hok : jx_okR x i = true) (hwf : jx_wf ph xs L x (i, ls, st, n, m)) {t' : jx_S} {df lo hi : Int} {os : Array Int} (ho : (jx_row x i).1 = .tableswitch df lo hi os) (h : jx_step ph (jx_row x i) (i, ls, st, n, m) = some (.inl t')) : jx_K E ph xs L p l e R s mm args below meth c Q n0 x (i, ls, st, n, m) t' := by
  have hS := hwf.2.2.1
  have hA := (ji_and hok).2
  unfold jx_okA at hA
  unfold jx_step jx_sem at h
  simp only [ho] at hA h
  obtain ⟨nn, hd⟩ := jk_decT hok ho
  have hA := of_decide_eq_true hA
  obtain ⟨hA1, hA2, hA3, hA4⟩ := hA
  obtain ⟨x0, st1, e9, h9⟩ := ji_pI h
  clear h
  subst e9
  have h := h9
  clear h9
  obtain ⟨hx0, hS⟩ := jw_cons hS
  have hx0 : jx_in x0 := hx0
  rcases ji_tsw _ _ h with ⟨y, t, h1, h2, h3⟩ | ⟨h1, h2⟩
  · cases h3
    have hy : y < (jx_nth jx_tsws (jx_row x i).2.1 []).length := (List.getElem?_eq_some_iff.mp h1).1
    have ho2 : (os.toList.map (fun o => (jx_pc x i : Int) + o))[y]? = some ((jx_pc x t : Int)) := by rw [hA4, List.getElem?_map, h1]; rfl
    rw [List.getElem?_map] at ho2
    obtain ⟨o2, ho2, ho3⟩ := Option.map_eq_some_iff.mp ho2
    refine jk_ok hwf hS rfl (fun ⟨hx, hb, hml, hown, hts, hnm, hG, hfr, hlo, hx9, hX⟩ H locs lsr _ _ _ _ _ k => lv_tableIn (tgt := jx_pc x t) (off := o2) hx hb hd ?_ ?_ ?_ ho3 k)
    · rw [jn_ti hx0]; omega
    · rw [jn_ti hx0]; omega
    · rw [jn_ti hx0, ← Array.getElem?_toList, show (x0 - lo).toNat = y by omega]
      exact ho2
  · cases h2
    refine jk_ok hwf hS rfl (fun ⟨hx, hb, hml, hown, hts, hnm, hG, hfr, hlo, hx9, hX⟩ H locs lsr _ _ _ _ _ k => lv_tableOut (tgt := jx_pc x (jx_row x i).2.2.1) hx hb hd ?_ hA1 k)
    rw [jn_ti hx0]
    omega
theorem jw_SL {a : Nat} : ∀ {b : Nat}, a ≤ b → jx_SL a ≤ jx_SL b
  | 0, h => by obtain rfl : a = 0 := by omega
               exact Nat.le_refl _
  | b + 1, h => by
    rcases Nat.lt_or_ge b a with q | q
    · obtain rfl : a = b + 1 := by omega
      exact Nat.le_refl _
    · exact Nat.le_trans (jw_SL q) (Nat.le_add_right _ _)
theorem jw_zero_ne {m : jx_M} {s0 j0 : Nat} : ∀ s' j' k, ¬ (s' = s0 ∧ j' = j0) → jx_zero m s0 j0 s' j' k = m s' j' k := by
  intro s' j' k h
  unfold jx_zero
  rw [if_neg h]
theorem jw_zero_self {m : jx_M} {s0 j0 : Nat} (k : Nat) : jx_zero m s0 j0 s0 j0 k = 0 := by
  unfold jx_zero
  rw [if_pos ⟨rfl, rfl⟩]
/-- a step that makes a cell -/
theorem jk_new {i : Nat} {ls : jx_L} {st st' : List jx_V} {n : Nat} {m : jx_M} (hph : ph = false) (hwf : jx_wf ph xs L x (i, ls, st, n, m)) (hst : ∀ v ∈ st', jx_wV v) (hn : n < 190) {pc' : Nat} (hpc : jx_pc x (i + 1) = pc')
    (hw : jx_C E ph xs L p R s mm args meth c x → ∀ (H : Heap) (locs : List Loc) (lsr : Array Slot), n - n0 + 1 ≤ R.cells → jx_SL n - jx_SL n0 + jx_sl (jx_la n).1 ≤ R.slots → jx_Wd E ph n m H → jx_F E s H locs → lv_has lsr (jx_mL x) (jx_lv E 0 ls) → (∀ (H1 : Heap), va_at E.2.2.1 jx_classes (E.1 + n, jx_ce E ph (jx_zero m (jx_la n).1 (jx_la n).2) (jx_la n).1 (jx_la n).2) H1 → H1.size = E.1 + n + 1 → (∀ q : Nat, q < E.1 + n → H1[q]? = H[q]?) → W p l e R s mm args below meth c H1 locs (n - n0 + 1) (jx_SL n - jx_SL n0 + jx_sl (jx_la n).1) Q (F0 mm pc' lsr (.ref (E.1 + n) :: st'.map (jx_con E)))) → W p l e R s mm args below meth c H locs (n - n0) (jx_SL n - jx_SL n0) Q (F0 mm (jx_pc x i) lsr (st.map (jx_con E)))) :
    jx_K E ph xs L p l e R s mm args below meth c Q n0 x (i, ls, st, n, m) (i + 1, ls, xA (jx_la n).1 (jx_la n).2 :: st', n + 1, jx_zero m (jx_la n).1 (jx_la n).2) := by
  obtain ⟨l1, l2, l3⟩ := jy_lay hn
  refine ⟨⟨hwf.1, hwf.2.1, jw_mk trivial hst, jw_M hwf.2.2.2.1 l2 jw_zero_ne (fun k => by show jx_in (jx_zero m (jx_la n).1 (jx_la n).2 (jx_la n).1 (jx_la n).2 k); rw [jw_zero_self]; omega), (fun q => by rw [hph] at q; cases q), by show n + 1 ≤ 190; omega⟩, Nat.le_succ n, fun C hn0 hc hs k H locs lsr h1 h2 h3 => ?_⟩
  have hn0 : n0 ≤ n := hn0
  have hmono : jx_SL n0 ≤ jx_SL n := jw_SL hn0
  have e1 : n + 1 - n0 = n - n0 + 1 := by omega
  have e2 : jx_SL (n + 1) - jx_SL n0 = jx_SL n - jx_SL n0 + jx_sl (jx_la n).1 := by
    show jx_SL n + jx_sl (jx_la n).1 - jx_SL n0 = _
    omega
  have hc : n + 1 - n0 ≤ R.cells := hc
  have hs : jx_SL (n + 1) - jx_SL n0 ≤ R.slots := hs
  rw [e1] at hc
  rw [e2] at hs
  refine hw C H locs lsr hc hs h1 h2 h3 (fun H1 a1 a2 a3 => ?_)
  have q := k H1 locs lsr (jw_push h1 hn jw_zero_ne a1 a2 a3) ⟨h2.1, fun y hy => (a3 y (by omega)).trans (h2.2.1 y hy), h2.2.2⟩ h3
  have q : W p l e R s mm args below meth c H1 locs (n + 1 - n0) (jx_SL (n + 1) - jx_SL n0) Q (F0 mm (jx_pc x (i + 1)) lsr (.ref (jx_ad E (jx_la n).1 (jx_la n).2) :: st'.map (jx_con E))) := q
  rw [e1, e2, hpc, jy_ad l2, l1] at q
  exact q
set_option maxHeartbeats 1000000 in
theorem jo_new {i : Nat} {ls : jx_L} {st : List jx_V} {n : Nat} {m : jx_M} (hok : jx_okR x i = true) (hwf : jx_wf ph xs L x (i, ls, st, n, m)) {t' : jx_S} {k0 : Nat} (ho : (jx_row x i).1 = .new k0) (h : jx_step ph (jx_row x i) (i, ls, st, n, m) = some (.inl t')) : jx_K E ph xs L p l e R s mm args below meth c Q n0 x (i, ls, st, n, m) t' := by
  have hS := hwf.2.2.1
  have hA := (ji_and hok).2
  have hd := jk_dec hok ho rfl
  unfold jx_okA at hA
  unfold jx_step jx_sem at h
  simp only [ho] at hA h
  obtain ⟨hA, hpc⟩ := ji_and hA
  have hpc := ji_beq hpc
  obtain ⟨hk, h9⟩ := ji_bif h
  clear h
  have h := h9
  clear h9
  obtain ⟨hph, hk⟩ := ji_and hk
  obtain ⟨hn, hk⟩ := ji_and hk
  have hn := Nat.le_of_ble_eq_true hn
  rw [jy_len.2] at hn
  have hph : ph = false := by cases ph
                              · rfl
                              · cases hph
  obtain ⟨hk, hk2⟩ := ji_and hk
  have hk : jx_sK (jx_la n).1 = 0 := ji_beq hk
  have hk2 : jx_sP (jx_la n).1 = (jx_row x i).2.1 := ji_beq hk2
  cases h
  obtain ⟨l1, l2, l3⟩ := jy_lay hn
  refine jk_new hph hwf hS hn hpc (fun ⟨hx, hb, hml, hown, hts, hnm, hG, hfr, hlo, hx9, hX⟩ H locs lsr hc hs h1 h2 h3 k => ?_)
  cases hq : jx_classes[(jx_row x i).2.1]? with
  | none => rw [hq] at hA; cases hA
  | some q =>
    rw [hq] at hA
    obtain ⟨C0, T0, N0⟩ := q
    obtain ⟨w1, w2⟩ := ji_and hA
    obtain ⟨w2, w3⟩ := ji_and w2
    have w2 := List.elem_iff.mp w2
    have w3 := List.elem_iff.mp w3
    have hN : jx_nf (jx_la n).1 = N0 := by unfold jx_nf; rw [hk2]; exact jy_nf hq
    have hsl : jx_sl (jx_la n).1 = N0 := by unfold jx_sl; rw [hk]; exact hN
    have hKn := hG.1.1 _ _ hq
    rw [hsl] at hs k
    refine W.newcK hx hb hown (hts _ (jx_at_mem w1)) (hts _ w2) (hts _ w3) rfl hd hc hs hKn.2.1 h1.1 fun H1 kC hkC e1 z1 o1 => ?_
    refine k H1 ?_ z1 o1
    rw [jw_ce0 hk, hk2]
    refine ⟨_, hq, (u_born (jy_ty (jx_row x i).2.1) hts (jy_cls hq).1 hKn hkC e1 (jy_cls hq).2.1).to (fun y hy => ?_)⟩
    have hy' : y < jx_nf (jx_la n).1 := by rw [hN]; exact hy
    show defaultValue (jy_ty (jx_row x i).2.1 y) = vp_V ((List.range (jx_nf (jx_la n).1)).map (jx_fv E ph _ (jx_la n).1 (jx_la n).2)) y
    unfold vp_V
    rw [List.getD_eq_getElem?_getD, jy_fget hy']
    show defaultValue (jy_ty (jx_row x i).2.1 y) = jx_fv E ph _ (jx_la n).1 (jx_la n).2 y
    rw [← hk2] at hq ⊢
    obtain ⟨hf, -⟩ := jy_fok1 l2 hk hq hy
    unfold jy_fok at hf
    rw [hq] at hf
    unfold jx_fv
    rw [jw_zero_self]
    have ef : jx_fT (jx_la n).1 y = jx_nth (jx_nth jx_fld (jx_sP (jx_la n).1) []) y (9, 0, 0, 0) := rfl
    rw [ef]
    revert hf
    rcases jx_nth (jx_nth jx_fld (jx_sP (jx_la n).1) []) y (9, 0, 0, 0) with ⟨t1, t2, t3, t4⟩
    intro hf
    match t1, hf with
    | 0, hf => rw [(of_decide_eq_true hf).1]; rfl
    | 1, hf => rw [(of_decide_eq_true hf).1]; rfl
    | 2, hf =>
      obtain ⟨-, hf⟩ := ji_and hf
      obtain ⟨hf, -⟩ := ji_and hf
      show _ = (if ph = true ∨ (0 : Int) = 1 then Value.ref _ else Value.null)
      rw [if_neg (by rw [hph]; rintro (q | q) <;> cases q)]
      split at hf
      · rename_i C hC; rw [hC]; rfl
      · rename_i C hC; rw [hC]; rfl
      · cases hf
    | t + 3, hf => cases hf
set_option maxHeartbeats 1000000 in
theorem jo_newarray {i : Nat} {ls : jx_L} {st : List jx_V} {n : Nat} {m : jx_M} (hok : jx_okR x i = true) (hwf : jx_wf ph xs L x (i, ls, st, n, m)) {t' : jx_S} {t0 : ArrayType} (ho : (jx_row x i).1 = .newarray t0) (h : jx_step ph (jx_row x i) (i, ls, st, n, m) = some (.inl t')) : jx_K E ph xs L p l e R s mm args below meth c Q n0 x (i, ls, st, n, m) t' := by
  have hS := hwf.2.2.1
  have hA := (ji_and hok).2
  have hd := jk_dec hok ho rfl
  unfold jx_okA at hA
  unfold jx_step jx_sem at h
  simp only [ho] at hA h
  obtain ⟨hA, hpc⟩ := ji_and hA
  have hpc := ji_beq hpc
  have hA := of_decide_eq_true hA
  subst hA
  obtain ⟨z, st1, e9, h9⟩ := ji_pI h
  clear h
  subst e9
  have h := h9
  clear h9
  obtain ⟨hk, h9⟩ := ji_bif h
  clear h
  have h := h9
  clear h9
  obtain ⟨hph, hk⟩ := ji_and hk
  obtain ⟨hn, hk⟩ := ji_and hk
  have hn := Nat.le_of_ble_eq_true hn
  rw [jy_len.2] at hn
  have hph : ph = false := by cases ph
                              · rfl
                              · cases hph
  have hk : jx_sK (jx_la n).1 = 1 := ji_beq hk
  obtain ⟨hg, h9⟩ := ji_if h
  clear h
  have h := h9
  clear h9
  cases h
  have hg : z = (jx_sP (jx_la n).1 : Int) := hg
  obtain ⟨hz, hS⟩ := jw_cons hS
  obtain ⟨l1, l2, l3⟩ := jy_lay hn
  have hP := jy_ints l2 hk
  refine jk_new hph hwf hS hn hpc (fun ⟨hx, hb, hml, hown, hts, hnm, hG, hfr, hlo, hx9, hX⟩ H locs lsr hc hs h1 h2 h3 k => ?_)
  have hsl : jx_sl (jx_la n).1 = jx_sP (jx_la n).1 := by unfold jx_sl; rw [hk]; rfl
  rw [hsl] at hs k
  have hz : jx_in z := hz
  refine va_newaK (atype := .int) hx hb (hts _ (jx_at_mem jx_copyW.2.2.2.2.2)) rfl hd (N := jx_sP (jx_la n).1) rfl (fun q => by have := (jn_lt0 hz).mp q; omega) (by rw [jn_cl hz]; omega) (by show jx_sP (jx_la n).1 * 4 ≤ _; omega) hc hs h1.1 fun H1 cA e1 z1 o1 hAr hNm => ?_
  refine k H1 ?_ z1 o1
  have hcA : cA = E.2.2.2.1 := Option.some.inj (hNm.symm.trans (hG.1.2 0 _ rfl).2)
  rw [jw_ce1 hk]
  show H1[E.1 + n]? = some (vp_cell _ _)
  rw [vp_cell_i, e1, hcA]
  refine congrArg (fun f => some (arrV _ _ f)) (funext (fun q => ?_))
  show defaultValue .int = Value.int (Int32.ofInt (jx_zero m _ _ _ _ q))
  rw [jw_zero_self]
  rfl
set_option maxHeartbeats 1000000 in
theorem jo_anewarray {i : Nat} {ls : jx_L} {st : List jx_V} {n : Nat} {m : jx_M} (hok : jx_okR x i = true) (hwf : jx_wf ph xs L x (i, ls, st, n, m)) {t' : jx_S} {k0 : Nat} (ho : (jx_row x i).1 = .anewarray k0) (h : jx_step ph (jx_row x i) (i, ls, st, n, m) = some (.inl t')) : jx_K E ph xs L p l e R s mm args below meth c Q n0 x (i, ls, st, n, m) t' := by
  have hS := hwf.2.2.1
  have hA := (ji_and hok).2
  have hd := jk_dec hok ho rfl
  unfold jx_okA at hA
  unfold jx_step jx_sem at h
  simp only [ho] at hA h
  obtain ⟨hA, hpc⟩ := ji_and hA
  have hpc := ji_beq hpc
  obtain ⟨z, st1, e9, h9⟩ := ji_pI h
  clear h
  subst e9
  have h := h9
  clear h9
  obtain ⟨hk, h9⟩ := ji_bif h
  clear h
  have h := h9
  clear h9
  obtain ⟨hph, hk⟩ := ji_and hk
  obtain ⟨hn, hk⟩ := ji_and hk
  have hn := Nat.le_of_ble_eq_true hn
  rw [jy_len.2] at hn
  have hph : ph = false := by cases ph
                              · rfl
                              · cases hph
  obtain ⟨hk, hk2⟩ := ji_and hk
  have hk : jx_sK (jx_la n).1 = 2 := ji_beq hk
  have hk2 : jx_sP (jx_sE (jx_la n).1) = (jx_row x i).2.1 := ji_beq hk2
  obtain ⟨hg, h9⟩ := ji_if h
  clear h
  have h := h9
  clear h9
  cases h
  have hg : z = (jx_sP (jx_la n).1 : Int) := hg
  obtain ⟨hz, hS⟩ := jw_cons hS
  obtain ⟨l1, l2, l3⟩ := jy_lay hn
  obtain ⟨hP, hke, -⟩ := jy_arr l2 hk
  obtain ⟨q, hq, hty, hov⟩ := jy_tys (E := E) l2 hk
  rw [hk2] at hq
  rw [hq] at hA
  obtain ⟨C0, T0, N0⟩ := q
  refine jk_new hph hwf hS hn hpc (fun ⟨hx, hb, hml, hown, hts, hnm, hG, hfr, hlo, hx9, hX⟩ H locs lsr hc hs h1 h2 h3 k => ?_)
  have hsl : jx_sl (jx_la n).1 = jx_sP (jx_la n).1 := by unfold jx_sl; rw [hk]; rfl
  rw [hsl] at hs k
  have hz : jx_in z := hz
  have ecl : (Int32.ofInt z).toNatClampNeg = jx_sP (jx_la n).1 := by rw [jn_cl hz]; omega
  refine W.anew hx hb hown (hts _ (jx_at_mem hA)) (va_AO.use (hG.2.2 _ hov)) rfl hd rfl (fun q => by have := (jn_lt0 hz).mp q; omega) (by rw [ecl]; omega) hc (by rw [ecl]; exact hs) fun cA kA comp f1 f2 f3 f4 => ?_
  rw [ecl]
  have hcA : cA = E.2.2.2.2 (jx_la n).1 := by
    obtain ⟨kA', comp', g1, g2, g3, g4⟩ := (hG.1.2 _ _ hty).2
    exact Option.some.inj (f1.symm.trans g4)
  have hsz : H.size = E.1 + n := h1.1
  have k9 := k (H.push ({ cls := cA, slots := Array.replicate (jx_sP (jx_la n).1) .null, vm := .none } : Cell)) (by
    rw [jw_ce2 hk]
    show (H.push _)[E.1 + n]? = some (vp_cell _ _)
    rw [← hsz, Array.getElem?_push_size, vp_cell_q, ← hcA, arrV_new]
    refine congrArg (fun f => some (arrV _ _ f)) (funext (fun q => ?_))
    rw [jw_zero_self, if_neg (by rw [hph]; rintro (z | z) <;> cases z)]
    rfl) (by rw [Array.size_push, hsz]) (fun q hq => by rw [Array.getElem?_push, if_neg (by omega)])
  rw [← hsz] at k9
  exact k9
set_option maxHeartbeats 1000000 in
theorem jo_objinit {i : Nat} {ls : jx_L} {st : List jx_V} {n : Nat} {m : jx_M} (hok : jx_okR x i = true) (hwf : jx_wf ph xs L x (i, ls, st, n, m)) {t' : jx_S} {k0 : Nat} (hb2 : (jx_row x i).2.2.1 = 2) (ho : (jx_row x i).1 = .invokespecial k0) (h : jx_step ph (jx_row x i) (i, ls, st, n, m) = some (.inl t')) : jx_K E ph xs L p l e R s mm args below meth c Q n0 x (i, ls, st, n, m) t' := by
  have hS := hwf.2.2.1
  have hA := (ji_and hok).2
  have hd := jk_dec hok ho rfl
  unfold jx_okA at hA
  unfold jx_step jx_sem at h
  simp only [ho] at hA h
  rw [hb2] at h hA
  obtain ⟨hA, hpc⟩ := ji_and hA
  obtain ⟨hf, hpc⟩ := ji_and hpc
  obtain ⟨ho2, hpc⟩ := ji_and hpc
  have hpc := ji_beq hpc
  have hf := Nat.le_of_ble_eq_true hf
  have ho2 := Nat.le_of_ble_eq_true ho2
  obtain ⟨s0, j0, st1, e9, h9⟩ := ji_pA h
  clear h
  subst e9
  have h := h9
  clear h9
  obtain ⟨hcat, h9⟩ := ji_bif h
  clear h
  have h := h9
  clear h9
  have hcat := Nat.le_of_ble_eq_true hcat
  cases h
  obtain ⟨hw, hS⟩ := jw_cons hS
  refine jk_ok hwf hS hpc (fun ⟨hx, hb, hml, hown, hts, hnm, hG, hfr, hlo, hx9, hX⟩ H locs lsr _ _ h1 h2 h3 k => ?_)
  exact W.objInit hx hb hown (hts _ (jx_at_mem hA)) (hts _ (jx_at_mem jx_copyW.2.2.2.1)) (hts _ (jx_at_mem jx_copyW.2.2.2.2.1)) rfl (by rw [hml]; exact h3.1) rfl hd (by omega) (by rw [jv_cats]; show 2 * 0 + _ + 12 ≤ _; omega) k
set_option maxHeartbeats 1000000 in
theorem jo_mmin {i : Nat} {ls : jx_L} {st : List jx_V} {n : Nat} {m : jx_M} (hok : jx_okR x i = true) (hwf : jx_wf ph xs L x (i, ls, st, n, m)) {t' : jx_S} {k0 : Nat} (hb2 : (jx_row x i).2.2.1 = 4) (ho : (jx_row x i).1 = .invokestatic k0) (h : jx_step ph (jx_row x i) (i, ls, st, n, m) = some (.inl t')) : jx_K E ph xs L p l e R s mm args below meth c Q n0 x (i, ls, st, n, m) t' := by
  have hS := hwf.2.2.1
  have hA := (ji_and hok).2
  have hd := jk_dec hok ho rfl
  unfold jx_okA at hA
  unfold jx_step jx_sem at h
  simp only [ho] at hA h
  rw [hb2] at h hA
  obtain ⟨hA, hpc⟩ := ji_and hA
  obtain ⟨hf, hpc⟩ := ji_and hpc
  obtain ⟨ho2, hpc⟩ := ji_and hpc
  have hpc := ji_beq hpc
  have hf := Nat.le_of_ble_eq_true hf
  have ho2 := Nat.le_of_ble_eq_true ho2
  obtain ⟨y, st1, e9, h9⟩ := ji_pI h
  clear h
  subst e9
  have h := h9
  clear h9
  obtain ⟨x0, st2, e9, h9⟩ := ji_pI h
  clear h
  subst e9
  have h := h9
  clear h9
  obtain ⟨hcat, h9⟩ := ji_bif h
  clear h
  have h := h9
  clear h9
  have hcat := Nat.le_of_ble_eq_true hcat
  cases h
  obtain ⟨hy, hS⟩ := jw_cons hS
  obtain ⟨hx0, hS⟩ := jw_cons hS
  have hy : jx_in y := hy
  have hx0 : jx_in x0 := hx0
  refine jk_ok hwf (jw_mk (show jx_in (min x0 y) by omega) hS) hpc (fun ⟨hx, hb, hml, hown, hts, hnm, hG, hfr, hlo, hx9, hX⟩ H locs lsr hc hs h1 h2 h3 k => ?_)
  refine va_mmin hx hb (by rw [hml]; exact h3.1.symm) hown (hts _ (jx_at_mem hA)) (hts _ (jx_at_mem jx_mathW.2.2.1)) (hts _ (jx_at_mem jx_mathW.2.2.2.2)) (hts _ (jx_at_mem jx_mathW.1)) (by omega) (by rw [jv_cats]; omega) hc hs hd ?_
  rw [← jn_min hx0 hy]
  exact k
set_option maxHeartbeats 1000000 in
theorem jo_mabs {i : Nat} {ls : jx_L} {st : List jx_V} {n : Nat} {m : jx_M} (hok : jx_okR x i = true) (hwf : jx_wf ph xs L x (i, ls, st, n, m)) {t' : jx_S} {k0 : Nat} (hb2 : (jx_row x i).2.2.1 = 5) (ho : (jx_row x i).1 = .invokestatic k0) (h : jx_step ph (jx_row x i) (i, ls, st, n, m) = some (.inl t')) : jx_K E ph xs L p l e R s mm args below meth c Q n0 x (i, ls, st, n, m) t' := by
  have hS := hwf.2.2.1
  have hA := (ji_and hok).2
  have hd := jk_dec hok ho rfl
  unfold jx_okA at hA
  unfold jx_step jx_sem at h
  simp only [ho] at hA h
  rw [hb2] at h hA
  obtain ⟨hA, hpc⟩ := ji_and hA
  obtain ⟨hf, hpc⟩ := ji_and hpc
  obtain ⟨ho2, hpc⟩ := ji_and hpc
  have hpc := ji_beq hpc
  have hf := Nat.le_of_ble_eq_true hf
  have ho2 := Nat.le_of_ble_eq_true ho2
  obtain ⟨x0, st2, e9, h9⟩ := ji_pI h
  clear h
  subst e9
  have h := h9
  clear h9
  obtain ⟨hcat, h9⟩ := ji_bif h
  clear h
  have h := h9
  clear h9
  have hcat := Nat.le_of_ble_eq_true hcat
  obtain ⟨hg, h9⟩ := ji_if h
  clear h
  have h := h9
  clear h9
  cases h
  obtain ⟨hx0, hS⟩ := jw_cons hS
  have hx0 : jx_in x0 := hx0
  refine jk_ok hwf (jw_mk (show jx_in (x0.natAbs : Int) by omega) hS) hpc (fun ⟨hx, hb, hml, hown, hts, hnm, hG, hfr, hlo, hx9, hX⟩ H locs lsr hc hs h1 h2 h3 k => ?_)
  refine va_mabs hx hb (by rw [hml]; exact h3.1.symm) hown (hts _ (jx_at_mem hA)) (hts _ (jx_at_mem jx_mathW.2.2.2.1)) (hts _ (jx_at_mem jx_mathW.2.2.2.2)) (hts _ (jx_at_mem jx_mathW.2.1)) (by omega) (by rw [jv_cats]; omega) hc hs hd ?_
  rw [← jn_abs hx0]
  exact k
set_option maxHeartbeats 1000000 in
theorem jo_copy {i : Nat} {ls : jx_L} {st : List jx_V} {n : Nat} {m : jx_M} (hok : jx_okR x i = true) (hwf : jx_wf ph xs L x (i, ls, st, n, m)) {t' : jx_S} {k0 : Nat} (hb2 : (jx_row x i).2.2.1 = 3) (ho : (jx_row x i).1 = .invokestatic k0) (h : jx_step ph (jx_row x i) (i, ls, st, n, m) = some (.inl t')) : jx_K E ph xs L p l e R s mm args below meth c Q n0 x (i, ls, st, n, m) t' := by
  have hS := hwf.2.2.1
  have hA := (ji_and hok).2
  have hd := jk_dec hok ho rfl
  unfold jx_okA at hA
  unfold jx_step jx_sem at h
  simp only [ho] at hA h
  rw [hb2] at h hA
  obtain ⟨hA, hpc⟩ := ji_and hA
  obtain ⟨hf, hpc⟩ := ji_and hpc
  obtain ⟨ho2, hpc⟩ := ji_and hpc
  have hpc := ji_beq hpc
  have hf := Nat.le_of_ble_eq_true hf
  have ho2 := Nat.le_of_ble_eq_true ho2
  obtain ⟨kk, st1, e9, h9⟩ := ji_pI h
  clear h
  subst e9
  have h := h9
  clear h9
  obtain ⟨dp, st2, e9, h9⟩ := ji_pI h
  clear h
  subst e9
  have h := h9
  clear h9
  obtain ⟨t0, j2, st3, e9, h9⟩ := ji_pA h
  clear h
  subst e9
  have h := h9
  clear h9
  obtain ⟨sp, st4, e9, h9⟩ := ji_pI h
  clear h
  subst e9
  have h := h9
  clear h9
  obtain ⟨s0, j0, st5, e9, h9⟩ := ji_pA h
  clear h
  subst e9
  have h := h9
  clear h9
  obtain ⟨hcat, h9⟩ := ji_bif h
  clear h
  have h := h9
  clear h9
  have hcat := Nat.le_of_ble_eq_true hcat
  obtain ⟨hg, h9⟩ := ji_if h
  clear h
  have h := h9
  clear h9
  obtain ⟨hj, hn, h9⟩ := ji_gA h
  clear h
  have h := h9
  clear h9
  obtain ⟨hj2, hn2, h9⟩ := ji_gA h
  clear h
  have h := h9
  clear h9
  cases h
  have hn := jw_alive hwf hj hn
  have hn2 := jw_alive hwf hj2 hn2
  obtain ⟨hkk, hS⟩ := jw_cons hS
  obtain ⟨hdp, hS⟩ := jw_cons hS
  obtain ⟨-, hS⟩ := jw_cons hS
  obtain ⟨hsp, hS⟩ := jw_cons hS
  obtain ⟨-, hS⟩ := jw_cons hS
  have hkk : jx_in kk := hkk
  have hdp : jx_in dp := hdp
  have hsp : jx_in sp := hsp
  refine jk_mem hwf hS hj2 hn2 (fun s' j' k hne => by unfold jx_cpy; rw [if_neg (fun q => hne ⟨q.1, q.2.1⟩)]) (fun k => by unfold jx_cpy; split <;> exact hwf.2.2.2.1.1 _ _ _) hpc (fun ⟨hx, hb, hml, hown, hts, hnm, hG, hfr, hlo, hx9, hX⟩ H locs lsr h1 h2 h3 k => ?_)
  have hat := jw_at h1 hj hn
  rw [jw_ce1 hg.1.1] at hat
  have hat2 := jw_at h1 hj2 hn2
  rw [jw_ce1 hg.1.2] at hat2
  show W p l e R s mm args below meth c H locs _ _ Q (F0 mm (jx_pc x i) lsr (.int (Int32.ofInt kk) :: .int (Int32.ofInt dp) :: .ref (jx_ad E t0 j2) :: .int (Int32.ofInt sp) :: .ref (jx_ad E s0 j0) :: st5.map (jx_con E)))
  rw [jy_ad hj, jy_ad hj2]
  refine jp_copy hx hb (by rw [hml]; exact h3.1.symm) hown (hts _ (jx_at_mem hA)) (hts _ (jx_at_mem jx_copyW.1)) (hts _ (jx_at_mem jx_copyW.2.1)) (hts _ (jx_at_mem jx_copyW.2.2.1)) hG hat hat2 (by rw [jn_lt0 hsp]; omega) (by rw [jn_lt0 hdp]; omega) (by rw [jn_lt0 hkk]; omega) (by rw [jn_cl hsp, jn_cl hkk]; omega) (by rw [jn_cl hdp, jn_cl hkk]; omega) (by omega) (by rw [jv_cats]; omega) hd (fun H1 ls1 a1 a2 a3 a4 => k H1 ls1 ?_ a2 a3 a4)
  rw [jw_ce1 hg.1.2]
  rw [jn_cl hsp, jn_cl hdp, jn_cl hkk] at a1
  have ef : (fun k => Int32.ofInt (jx_cpy m s0 j0 sp.toNat t0 j2 dp.toNat kk.toNat t0 j2 k)) = va_cpy (fun k => Int32.ofInt (m s0 j0 k)) (fun k => Int32.ofInt (m t0 j2 k)) sp.toNat dp.toNat kk.toNat := by
    funext q
    unfold va_cpy jx_cpy
    by_cases e1 : dp.toNat ≤ q ∧ q < dp.toNat + kk.toNat
    · rw [if_pos e1, if_pos ⟨rfl, rfl, e1⟩]
    · rw [if_neg e1, if_neg (fun z => e1 z.2.2)]
  rw [ef]
  exact a1
end
