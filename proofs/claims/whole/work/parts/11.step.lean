/-! the small machine's run is the machine's -/
section
variable {E : jx_E} {ph : Bool} {xs : Nat → Int} {L : Int} {p : Program} {l : Launch} {e : Env} {R : Room} {s : State} {mm : MethodId} {args : Array Value} {below : List Frame} {meth : Method} {c : Code} {Q : State → Prop} {n0 x : Nat}
theorem ji_call {y : Nat} {vir : Bool} {st : List jx_V} {n : Nat} {q : jx_Q} (h : jx_call none (fun c hd a => @ite _ c hd a none) (fun y as rest => some (.inr (y, as, rest))) ph vir y st n = some q) :
    ∃ as rest, q = .inr (y, as, rest) ∧ st = as.reverse ++ rest ∧ as.length = jx_mA y ∧ jx_cats rest ≤ 8 ∧ (vir = true → ∃ s0 j0 tl, as = xA s0 j0 :: tl ∧ jx_sK s0 = 0 ∧ jx_sP s0 = jx_mC y ∧ j0 < jx_sC s0 ∧ (ph = false → jx_pos s0 j0 < n)) := by
  unfold jx_call at h
  obtain ⟨hc, h9⟩ := ji_bif h
  clear h
  obtain ⟨h1, h2⟩ := ji_and hc
  have h1 := Nat.le_of_ble_eq_true h1
  have h2 := Nat.le_of_ble_eq_true h2
  have e1 : st = (st.take (jx_mA y)).reverse.reverse ++ st.drop (jx_mA y) := by rw [List.reverse_reverse, List.take_append_drop]
  have e2 : (st.take (jx_mA y)).reverse.length = jx_mA y := by rw [List.length_reverse, List.length_take]; omega
  cases vir
  · cases h9
    exact ⟨_, _, rfl, e1, e2, h2, fun z => by cases z⟩
  · obtain ⟨s0, j0, tl, ea, h⟩ := ji_pA h9
    obtain ⟨hk, h8⟩ := ji_bif h
    obtain ⟨hk, hk2⟩ := ji_and hk
    obtain ⟨hj, hn, h7⟩ := ji_gA h8
    cases h7
    exact ⟨_, _, rfl, e1, e2, h2, fun _ => ⟨s0, j0, tl, ea, ji_beq hk, ji_beq hk2, hj, hn⟩⟩
set_option maxHeartbeats 4000000 in
theorem jk_step {i : Nat} {ls : jx_L} {st : List jx_V} {n : Nat} {m : jx_M} {t' : jx_S} (hok : jx_okR x i = true) (hwf : jx_wf ph xs L x (i, ls, st, n, m)) (h : jx_step ph (jx_row x i) (i, ls, st, n, m) = some (.inl t')) : jx_K E ph xs L p l e R s mm args below meth c Q n0 x (i, ls, st, n, m) t' := by
  cases ho : (jx_row x i).1
  case iconst k0 => exact jo_iconst hok hwf ho h
  case bipush k0 => exact jo_bipush hok hwf ho h
  case sipush k0 => exact jo_sipush hok hwf ho h
  case ldc k0 => exact jo_ldc hok hwf ho h
  case lconst k0 => exact jo_lconst hok hwf ho h
  case iload_n k0 => exact jo_iload_n hok hwf ho h
  case iload k0 => exact jo_iload hok hwf ho h
  case lload_n k0 => exact jo_lload_n hok hwf ho h
  case lload k0 => exact jo_lload hok hwf ho h
  case aload_n k0 => exact jo_aload_n hok hwf ho h
  case aload k0 => exact jo_aload hok hwf ho h
  case istore_n k0 => exact jo_istore_n hok hwf ho h
  case istore k0 => exact jo_istore hok hwf ho h
  case astore_n k0 => exact jo_astore_n hok hwf ho h
  case astore k0 => exact jo_astore hok hwf ho h
  case iadd => exact jo_iadd hok hwf ho h
  case isub => exact jo_isub hok hwf ho h
  case imul => exact jo_imul hok hwf ho h
  case idiv => exact jo_idiv hok hwf ho h
  case irem => exact jo_irem hok hwf ho h
  case ineg => exact jo_ineg hok hwf ho h
  case iand => exact jo_iand hok hwf ho h
  case ior => exact jo_ior hok hwf ho h
  case ixor => exact jo_ixor hok hwf ho h
  case ishl => exact jo_ishl hok hwf ho h
  case ishr => exact jo_ishr hok hwf ho h
  case iushr => exact jo_iushr hok hwf ho h
  case ladd => exact jo_ladd hok hwf ho h
  case land => exact jo_land hok hwf ho h
  case lor => exact jo_lor hok hwf ho h
  case lshl => exact jo_lshl hok hwf ho h
  case lshr => exact jo_lshr hok hwf ho h
  case lushr => exact jo_lushr hok hwf ho h
  case lcmp => exact jo_lcmp hok hwf ho h
  case i2l => exact jo_i2l hok hwf ho h
  case l2i => exact jo_l2i hok hwf ho h
  case i2b => exact jo_i2b hok hwf ho h
  case i2s => exact jo_i2s hok hwf ho h
  case dup => exact jo_dup hok hwf ho h
  case pop => exact jo_pop hok hwf ho h
  case dup2 => exact jo_dup2 hok hwf ho h
  case goto k0 => exact jo_goto hok hwf ho h
  case getfield k0 => exact jo_getfield hok hwf ho h
  case putfield k0 => exact jo_putfield hok hwf ho h
  case iaload => exact jo_iaload hok hwf ho h
  case iastore => exact jo_iastore hok hwf ho h
  case aaload => exact jo_aaload hok hwf ho h
  case aastore => exact jo_aastore hok hwf ho h
  case arraylength => exact jo_arraylength hok hwf ho h
  case new k0 => exact jo_new hok hwf ho h
  case newarray k0 => exact jo_newarray hok hwf ho h
  case anewarray k0 => exact jo_anewarray hok hwf ho h
  case ldc_w k0 => exact jo_ldcw hok hwf ho h
  case ldc2_w k0 => exact jo_ldc2 hok hwf ho h
  case iinc k0 k1 => exact jo_iinc hok hwf ho h
  case tableswitch a b c0 d => exact jo_tableswitch hok hwf ho h
  case ifCond k0 k1 =>
    cases k0
    · exact jo_if_eq hok hwf ho h
    · exact jo_if_ne hok hwf ho h
    · exact jo_if_lt hok hwf ho h
    · exact jo_if_ge hok hwf ho h
    · exact jo_if_gt hok hwf ho h
    · exact jo_if_le hok hwf ho h
  case if_icmp k0 k1 =>
    cases k0
    · exact jo_icmp_eq hok hwf ho h
    · exact jo_icmp_ne hok hwf ho h
    · exact jo_icmp_lt hok hwf ho h
    · exact jo_icmp_ge hok hwf ho h
    · exact jo_icmp_gt hok hwf ho h
    · exact jo_icmp_le hok hwf ho h
  case invokevirtual k0 =>
    unfold jx_step jx_sem at h
    simp only [ho] at h
    obtain ⟨as, rest, hq, -⟩ := ji_call h
    cases hq
  case invokestatic k0 =>
    by_cases h3 : (jx_row x i).2.2.1 = 3
    · exact jo_copy hok hwf h3 ho h
    by_cases h4 : (jx_row x i).2.2.1 = 4
    · exact jo_mmin hok hwf h4 ho h
    by_cases h5 : (jx_row x i).2.2.1 = 5
    · exact jo_mabs hok hwf h5 ho h
    unfold jx_step jx_sem at h
    simp only [ho] at h
    obtain ⟨as, rest, hq, -⟩ := ji_call h
    cases hq
  case invokespecial k0 =>
    by_cases h3 : (jx_row x i).2.2.1 = 2
    · exact jo_objinit hok hwf h3 ho h
    unfold jx_step jx_sem at h
    simp only [ho] at h
    obtain ⟨as, rest, hq, -⟩ := ji_call h
    cases hq
  all_goals (exfalso; unfold jx_step jx_sem at h; simp only [ho] at h; cases h)
end
