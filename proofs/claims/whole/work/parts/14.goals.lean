/-! goals first: what must hold so that a method of the small machine (all cells made) comes to its end -/
def jx_AW (x i : Nat) (ls : jx_L) (st : List jx_V) (m : jx_M) (Q : Int → jx_M → Prop) : Prop := ∃ (k : Nat) (t : jx_S) (z : Int), jx_go true k x 100000 (i, ls, st, 190, m) = some t ∧ t.2.2.2.1 = 190 ∧ jx_rv x (jx_row x t.1) t.2.2.1 = some z ∧ Q z t.2.2.2.2
/-- a call of a method -/
abbrev jx_Cl (y : Nat) (as : List jx_V) (m : jx_M) (Q : Int → jx_M → Prop) : Prop := jx_AW y 0 (jx_ent y as) [] m Q
abbrev jx_gP : (c : Prop) → Decidable c → Prop → Prop := fun c _ a => c ∧ a
abbrev jx_bP : (c : Prop) → Decidable c → Prop → Prop → Prop := fun c _ a b => (c → a) ∧ (¬ c → b)
def jx_seg (x : Nat) (cd : List jx_R) (stops : List Nat) (Q : Int → jx_M → Prop) : Nat → Nat → jx_L → List jx_V → jx_M → Prop
  | 0, i, ls, st, m => jx_AW x i ls st m Q
  | k + 1, i, ls, st, m => match (jx_nth cd i (.nop, 0, 0, 0)).1 with
    | .ireturn => (match st with
      | [.inl v] => bif jx_mV x then False else bif (jx_nth cd i (.nop, 0, 0, 0)).2.1 == 1 then (v = 0 ∨ v = 1) ∧ Q v m else Q v m
      | _ => False)
    | .return_ => (match st with
      | [] => bif jx_mV x then Q 0 m else False
      | _ => False)
    | _ => jx_sem False jx_gP jx_bP (fun i' ls' st' n' m' => bif Nat.beq n' 190 then (bif stops.elem i' then jx_AW x i' ls' st' m' Q else jx_seg x cd stops Q k i' ls' st' m') else False)
        (fun y as rest => bif Nat.ble (jx_exp as).length (jx_mL y) then jx_Cl y as m (fun z m' => jx_seg x cd stops Q k (i + 1) ls (jx_psh y z rest) m') else False) true (jx_nth cd i (.nop, 0, 0, 0)) i ls st 190 m
theorem jj_pI {st : List jx_V} {k : Int → List jx_V → Prop} (h : jx_pI False st k) : ∃ x r, st = xI x :: r ∧ k x r := by
  unfold jx_pI at h
  split at h
  · exact ⟨_, _, rfl, h⟩
  · cases h
theorem jj_pL {st : List jx_V} {k : Int → List jx_V → Prop} (h : jx_pL False st k) : ∃ x r, st = xL x :: r ∧ k x r := by
  unfold jx_pL at h
  split at h
  · exact ⟨_, _, rfl, h⟩
  · cases h
theorem jj_pA {st : List jx_V} {k : Nat → Nat → List jx_V → Prop} (h : jx_pA False st k) : ∃ s j r, st = xA s j :: r ∧ k s j r := by
  unfold jx_pA at h
  split at h
  · exact ⟨_, _, _, rfl, h⟩
  · cases h
theorem jj_lI {ls : jx_L} {a : Nat} {k : Int → Prop} (h : jx_lI False ls a k) : ∃ x, (∀ {α : Type} (d : α) (k' : Int → α), jx_lI d ls a k' = k' x) ∧ k x := by
  unfold jx_lI at h
  split at h
  · rename_i x e; exact ⟨x, fun d k' => by unfold jx_lI; rw [e], h⟩
  · cases h
theorem jj_lL {ls : jx_L} {a : Nat} {k : Int → Prop} (h : jx_lL False ls a k) : ∃ x, (∀ {α : Type} (d : α) (k' : Int → α), jx_lL d ls a k' = k' x) ∧ k x := by
  unfold jx_lL at h
  split at h
  · rename_i x e; exact ⟨x, fun d k' => by unfold jx_lL; rw [e], h⟩
  · cases h
theorem jj_lA {ls : jx_L} {a : Nat} {k : Nat → Nat → Prop} (h : jx_lA False ls a k) : ∃ s j, (∀ {α : Type} (d : α) (k' : Nat → Nat → α), jx_lA d ls a k' = k' s j) ∧ k s j := by
  unfold jx_lA at h
  split at h
  · rename_i q e; exact ⟨q.1, q.2, fun d k' => by unfold jx_lA; rw [e], h⟩
  · cases h
theorem jj_cl {ls : jx_L} {a : Nat} {k : Prop} (h : jx_cl False ls a k) : (∀ {α : Type} (d k' : α), jx_cl d ls a k' = k') ∧ k := by
  unfold jx_cl at h
  split at h
  · exact ⟨fun d k' => rfl, h⟩
  · rename_i b
    split at h
    · cases h
    · rename_i hne
      refine ⟨fun d k' => ?_, h⟩
      unfold jx_cl
      simp only
theorem jj_bif {c : Bool} {a : Prop} (h : (bif c then a else False)) : c = true ∧ a := by
  cases c
  · cases h
  · exact ⟨rfl, h⟩
theorem jj_if {c : Prop} {hd : Decidable c} {α : Type} {a : Option α} (h : c) : @ite _ c hd a none = a := if_pos h
theorem jj_gA {α : Type} {n s i : Nat} {a : Option α} {b : Prop} (h : jx_gA jx_gP true n s i b) : jx_gA (fun c hd a => @ite _ c hd a none) true n s i a = a ∧ b := ⟨if_pos h.1, h.2⟩
def jx_re (C : Prop) (kn : Nat → jx_L → List jx_V → Nat → jx_M → Prop) (kc : Nat → List jx_V → List jx_V → Prop) (q : jx_Q) : Prop := match q with
  | .inl t => kn t.1 t.2.1 t.2.2.1 t.2.2.2.1 t.2.2.2.2
  | .inr w => C ∧ kc w.1 w.2.1 w.2.2
theorem jj_call {kn : Nat → jx_L → List jx_V → Nat → jx_M → Prop} {kc : Nat → List jx_V → List jx_V → Prop} {vir : Bool} {y : Nat} {st : List jx_V} {n : Nat} {C : Prop} (hC : C) (h : jx_call False jx_gP kc true vir y st n) : ∃ q, jx_call none (fun c hd a => @ite _ c hd a none) (fun y as rest => some (.inr (y, as, rest))) true vir y st n = some q ∧ jx_re C kn kc q := by
  unfold jx_call at h ⊢
  obtain ⟨h1, h2⟩ := jj_bif h
  rw [h1]
  cases vir
  · exact ⟨_, rfl, hC, h2⟩
  · obtain ⟨s0, j0, tl, e1, h3⟩ := jj_pA h2
    obtain ⟨h4, h5⟩ := jj_bif h3
    simp only [cond_true]
    rw [e1] at h5 ⊢
    refine ⟨.inr (y, xA s0 j0 :: tl, st.drop (jx_mA y)), ?_, hC, h5.2⟩
    show (bif _ then _ else _) = _
    rw [h4]
    exact if_pos h5.1
theorem jj_tsw {kn : Nat → Prop} {F : Nat → jx_Q} {x0 : Int} {b : Nat} : ∀ (ts : List Nat) (z : Int), jx_tsw jx_bP x0 kn z ts b → ∃ t, jx_tsw (fun c hd a b => @ite (Option jx_Q) c hd a b) x0 (fun t => some (F t)) z ts b = some (F t) ∧ kn t
  | [], z, h => ⟨b, rfl, h⟩
  | t :: ts, z, h => by
    by_cases e1 : x0 = z
    · exact ⟨t, if_pos e1, h.1 e1⟩
    · obtain ⟨t', h1, h2⟩ := jj_tsw ts (z + 1) (h.2 e1)
      exact ⟨t', (if_neg e1).trans h1, h2⟩
set_option maxHeartbeats 4000000 in
theorem jj_sem {kn : Nat → jx_L → List jx_V → Nat → jx_M → Prop} {kc : Nat → List jx_V → List jx_V → Prop} {r : jx_R} {i : Nat} {ls : jx_L} {st : List jx_V} {n : Nat} {m : jx_M} (h : jx_sem False jx_gP jx_bP kn kc true r i ls st n m) : ∃ q, jx_step true r (i, ls, st, n, m) = some q ∧ jx_re (jx_isC r = true) kn kc q := by
  cases ho : r.1
  case iconst k0 =>
    unfold jx_sem at h
    unfold jx_step jx_sem
    simp only [ho] at h ⊢
    exact ⟨_, rfl, h⟩
  case bipush k0 =>
    unfold jx_sem at h
    unfold jx_step jx_sem
    simp only [ho] at h ⊢
    exact ⟨_, rfl, h⟩
  case sipush k0 =>
    unfold jx_sem at h
    unfold jx_step jx_sem
    simp only [ho] at h ⊢
    exact ⟨_, rfl, h⟩
  case ldc k0 =>
    unfold jx_sem at h
    unfold jx_step jx_sem
    simp only [ho] at h ⊢
    exact ⟨_, rfl, h⟩
  case ldc_w k0 =>
    unfold jx_sem at h
    unfold jx_step jx_sem
    simp only [ho] at h ⊢
    exact ⟨_, rfl, h⟩
  case lconst k0 =>
    unfold jx_sem at h
    unfold jx_step jx_sem
    simp only [ho] at h ⊢
    exact ⟨_, rfl, h⟩
  case ldc2_w k0 =>
    unfold jx_sem at h
    unfold jx_step jx_sem
    simp only [ho] at h ⊢
    exact ⟨_, rfl, h⟩
  case goto k0 =>
    unfold jx_sem at h
    unfold jx_step jx_sem
    simp only [ho] at h ⊢
    exact ⟨_, rfl, h⟩
  case iload_n k0 =>
    unfold jx_sem at h
    unfold jx_step jx_sem
    simp only [ho] at h ⊢
    obtain ⟨v, e1, h⟩ := jj_lI h
    exact ⟨_, e1 _ _, h⟩
  case iload k0 =>
    unfold jx_sem at h
    unfold jx_step jx_sem
    simp only [ho] at h ⊢
    obtain ⟨v, e1, h⟩ := jj_lI h
    exact ⟨_, e1 _ _, h⟩
  case lload_n k0 =>
    unfold jx_sem at h
    unfold jx_step jx_sem
    simp only [ho] at h ⊢
    obtain ⟨v, e1, h⟩ := jj_lL h
    exact ⟨_, e1 _ _, h⟩
  case lload k0 =>
    unfold jx_sem at h
    unfold jx_step jx_sem
    simp only [ho] at h ⊢
    obtain ⟨v, e1, h⟩ := jj_lL h
    exact ⟨_, e1 _ _, h⟩
  case aload_n k0 =>
    unfold jx_sem at h
    unfold jx_step jx_sem
    simp only [ho] at h ⊢
    obtain ⟨v, w, e1, h⟩ := jj_lA h
    exact ⟨_, e1 _ _, h⟩
  case aload k0 =>
    unfold jx_sem at h
    unfold jx_step jx_sem
    simp only [ho] at h ⊢
    obtain ⟨v, w, e1, h⟩ := jj_lA h
    exact ⟨_, e1 _ _, h⟩
  case istore_n k0 =>
    unfold jx_sem at h
    unfold jx_step jx_sem
    simp only [ho] at h ⊢
    obtain ⟨v, s1, e9, h9⟩ := jj_pI h
    clear h
    subst e9
    obtain ⟨e1, h⟩ := jj_cl h9
    exact ⟨_, e1 _ _, h⟩
  case istore k0 =>
    unfold jx_sem at h
    unfold jx_step jx_sem
    simp only [ho] at h ⊢
    obtain ⟨v, s1, e9, h9⟩ := jj_pI h
    clear h
    subst e9
    obtain ⟨e1, h⟩ := jj_cl h9
    exact ⟨_, e1 _ _, h⟩
  case astore_n k0 =>
    unfold jx_sem at h
    unfold jx_step jx_sem
    simp only [ho] at h ⊢
    obtain ⟨v, w, s1, e9, h9⟩ := jj_pA h
    clear h
    subst e9
    obtain ⟨e1, h⟩ := jj_cl h9
    exact ⟨_, e1 _ _, h⟩
  case astore k0 =>
    unfold jx_sem at h
    unfold jx_step jx_sem
    simp only [ho] at h ⊢
    obtain ⟨v, w, s1, e9, h9⟩ := jj_pA h
    clear h
    subst e9
    obtain ⟨e1, h⟩ := jj_cl h9
    exact ⟨_, e1 _ _, h⟩
  case iinc k0 k1 =>
    unfold jx_sem at h
    unfold jx_step jx_sem
    simp only [ho] at h ⊢
    obtain ⟨v, e1, h⟩ := jj_lI h
    obtain ⟨e2, h⟩ := jj_cl h
    exact ⟨_, (e1 _ _).trans ((e2 _ _).trans (if_pos h.1)), h.2⟩
  case iadd =>
    unfold jx_sem at h
    unfold jx_step jx_sem
    simp only [ho] at h ⊢
    obtain ⟨v1, s1, e9, h9⟩ := jj_pI h
    clear h
    subst e9
    have h := h9
    clear h9
    obtain ⟨v2, s2, e9, h9⟩ := jj_pI h
    clear h
    subst e9
    have h := h9
    clear h9
    exact ⟨_, if_pos h.1, h.2⟩
  case isub =>
    unfold jx_sem at h
    unfold jx_step jx_sem
    simp only [ho] at h ⊢
    obtain ⟨v1, s1, e9, h9⟩ := jj_pI h
    clear h
    subst e9
    have h := h9
    clear h9
    obtain ⟨v2, s2, e9, h9⟩ := jj_pI h
    clear h
    subst e9
    have h := h9
    clear h9
    exact ⟨_, if_pos h.1, h.2⟩
  case imul =>
    unfold jx_sem at h
    unfold jx_step jx_sem
    simp only [ho] at h ⊢
    obtain ⟨v1, s1, e9, h9⟩ := jj_pI h
    clear h
    subst e9
    have h := h9
    clear h9
    obtain ⟨v2, s2, e9, h9⟩ := jj_pI h
    clear h
    subst e9
    have h := h9
    clear h9
    exact ⟨_, if_pos h.1, h.2⟩
  case idiv =>
    unfold jx_sem at h
    unfold jx_step jx_sem
    simp only [ho] at h ⊢
    obtain ⟨v1, s1, e9, h9⟩ := jj_pI h
    clear h
    subst e9
    have h := h9
    clear h9
    obtain ⟨v2, s2, e9, h9⟩ := jj_pI h
    clear h
    subst e9
    have h := h9
    clear h9
    exact ⟨_, if_pos h.1, h.2⟩
  case irem =>
    unfold jx_sem at h
    unfold jx_step jx_sem
    simp only [ho] at h ⊢
    obtain ⟨v1, s1, e9, h9⟩ := jj_pI h
    clear h
    subst e9
    have h := h9
    clear h9
    obtain ⟨v2, s2, e9, h9⟩ := jj_pI h
    clear h
    subst e9
    have h := h9
    clear h9
    exact ⟨_, if_pos h.1, h.2⟩
  case ineg =>
    unfold jx_sem at h
    unfold jx_step jx_sem
    simp only [ho] at h ⊢
    obtain ⟨v1, s1, e9, h9⟩ := jj_pI h
    clear h
    subst e9
    have h := h9
    clear h9
    exact ⟨_, if_pos h.1, h.2⟩
  case iand =>
    unfold jx_sem at h
    unfold jx_step jx_sem
    simp only [ho] at h ⊢
    obtain ⟨v1, s1, e9, h9⟩ := jj_pI h
    clear h
    subst e9
    have h := h9
    clear h9
    obtain ⟨v2, s2, e9, h9⟩ := jj_pI h
    clear h
    subst e9
    have h := h9
    clear h9
    exact ⟨_, rfl, h⟩
  case ior =>
    unfold jx_sem at h
    unfold jx_step jx_sem
    simp only [ho] at h ⊢
    obtain ⟨v1, s1, e9, h9⟩ := jj_pI h
    clear h
    subst e9
    have h := h9
    clear h9
    obtain ⟨v2, s2, e9, h9⟩ := jj_pI h
    clear h
    subst e9
    have h := h9
    clear h9
    exact ⟨_, rfl, h⟩
  case ixor =>
    unfold jx_sem at h
    unfold jx_step jx_sem
    simp only [ho] at h ⊢
    obtain ⟨v1, s1, e9, h9⟩ := jj_pI h
    clear h
    subst e9
    have h := h9
    clear h9
    obtain ⟨v2, s2, e9, h9⟩ := jj_pI h
    clear h
    subst e9
    have h := h9
    clear h9
    exact ⟨_, rfl, h⟩
  case ishl =>
    unfold jx_sem at h
    unfold jx_step jx_sem
    simp only [ho] at h ⊢
    obtain ⟨v1, s1, e9, h9⟩ := jj_pI h
    clear h
    subst e9
    have h := h9
    clear h9
    obtain ⟨v2, s2, e9, h9⟩ := jj_pI h
    clear h
    subst e9
    have h := h9
    clear h9
    exact ⟨_, rfl, h⟩
  case ishr =>
    unfold jx_sem at h
    unfold jx_step jx_sem
    simp only [ho] at h ⊢
    obtain ⟨v1, s1, e9, h9⟩ := jj_pI h
    clear h
    subst e9
    have h := h9
    clear h9
    obtain ⟨v2, s2, e9, h9⟩ := jj_pI h
    clear h
    subst e9
    have h := h9
    clear h9
    exact ⟨_, rfl, h⟩
  case iushr =>
    unfold jx_sem at h
    unfold jx_step jx_sem
    simp only [ho] at h ⊢
    obtain ⟨v1, s1, e9, h9⟩ := jj_pI h
    clear h
    subst e9
    have h := h9
    clear h9
    obtain ⟨v2, s2, e9, h9⟩ := jj_pI h
    clear h
    subst e9
    have h := h9
    clear h9
    exact ⟨_, rfl, h⟩
  case ladd =>
    unfold jx_sem at h
    unfold jx_step jx_sem
    simp only [ho] at h ⊢
    obtain ⟨v1, s1, e9, h9⟩ := jj_pL h
    clear h
    subst e9
    have h := h9
    clear h9
    obtain ⟨v2, s2, e9, h9⟩ := jj_pL h
    clear h
    subst e9
    have h := h9
    clear h9
    exact ⟨_, if_pos h.1, h.2⟩
  case land =>
    unfold jx_sem at h
    unfold jx_step jx_sem
    simp only [ho] at h ⊢
    obtain ⟨v1, s1, e9, h9⟩ := jj_pL h
    clear h
    subst e9
    have h := h9
    clear h9
    obtain ⟨v2, s2, e9, h9⟩ := jj_pL h
    clear h
    subst e9
    have h := h9
    clear h9
    exact ⟨_, rfl, h⟩
  case lor =>
    unfold jx_sem at h
    unfold jx_step jx_sem
    simp only [ho] at h ⊢
    obtain ⟨v1, s1, e9, h9⟩ := jj_pL h
    clear h
    subst e9
    have h := h9
    clear h9
    obtain ⟨v2, s2, e9, h9⟩ := jj_pL h
    clear h
    subst e9
    have h := h9
    clear h9
    exact ⟨_, rfl, h⟩
  case lcmp =>
    unfold jx_sem at h
    unfold jx_step jx_sem
    simp only [ho] at h ⊢
    obtain ⟨v1, s1, e9, h9⟩ := jj_pL h
    clear h
    subst e9
    have h := h9
    clear h9
    obtain ⟨v2, s2, e9, h9⟩ := jj_pL h
    clear h
    subst e9
    have h := h9
    clear h9
    exact ⟨_, rfl, h⟩
  case lshl =>
    unfold jx_sem at h
    unfold jx_step jx_sem
    simp only [ho] at h ⊢
    obtain ⟨v1, s1, e9, h9⟩ := jj_pI h
    clear h
    subst e9
    have h := h9
    clear h9
    obtain ⟨v2, s2, e9, h9⟩ := jj_pL h
    clear h
    subst e9
    have h := h9
    clear h9
    exact ⟨_, rfl, h⟩
  case lshr =>
    unfold jx_sem at h
    unfold jx_step jx_sem
    simp only [ho] at h ⊢
    obtain ⟨v1, s1, e9, h9⟩ := jj_pI h
    clear h
    subst e9
    have h := h9
    clear h9
    obtain ⟨v2, s2, e9, h9⟩ := jj_pL h
    clear h
    subst e9
    have h := h9
    clear h9
    exact ⟨_, rfl, h⟩
  case lushr =>
    unfold jx_sem at h
    unfold jx_step jx_sem
    simp only [ho] at h ⊢
    obtain ⟨v1, s1, e9, h9⟩ := jj_pI h
    clear h
    subst e9
    have h := h9
    clear h9
    obtain ⟨v2, s2, e9, h9⟩ := jj_pL h
    clear h
    subst e9
    have h := h9
    clear h9
    exact ⟨_, rfl, h⟩
  case i2l =>
    unfold jx_sem at h
    unfold jx_step jx_sem
    simp only [ho] at h ⊢
    obtain ⟨v1, s1, e9, h9⟩ := jj_pI h
    clear h
    subst e9
    have h := h9
    clear h9
    exact ⟨_, rfl, h⟩
  case i2b =>
    unfold jx_sem at h
    unfold jx_step jx_sem
    simp only [ho] at h ⊢
    obtain ⟨v1, s1, e9, h9⟩ := jj_pI h
    clear h
    subst e9
    have h := h9
    clear h9
    exact ⟨_, rfl, h⟩
  case i2s =>
    unfold jx_sem at h
    unfold jx_step jx_sem
    simp only [ho] at h ⊢
    obtain ⟨v1, s1, e9, h9⟩ := jj_pI h
    clear h
    subst e9
    have h := h9
    clear h9
    exact ⟨_, rfl, h⟩
  case pop =>
    unfold jx_sem at h
    unfold jx_step jx_sem
    simp only [ho] at h ⊢
    obtain ⟨v1, s1, e9, h9⟩ := jj_pI h
    clear h
    subst e9
    have h := h9
    clear h9
    exact ⟨_, rfl, h⟩
  case l2i =>
    unfold jx_sem at h
    unfold jx_step jx_sem
    simp only [ho] at h ⊢
    obtain ⟨v1, s1, e9, h9⟩ := jj_pL h
    clear h
    subst e9
    have h := h9
    clear h9
    exact ⟨_, rfl, h⟩
  case dup =>
    unfold jx_sem at h
    unfold jx_step jx_sem
    simp only [ho] at h ⊢
    obtain ⟨a1, b1, s1, e9, h9⟩ := jj_pA h
    clear h
    subst e9
    have h := h9
    clear h9
    exact ⟨_, rfl, h⟩
  case dup2 =>
    unfold jx_sem at h
    unfold jx_step jx_sem
    simp only [ho] at h ⊢
    obtain ⟨v1, s1, e9, h9⟩ := jj_pI h
    clear h
    subst e9
    have h := h9
    clear h9
    obtain ⟨a2, b2, s2, e9, h9⟩ := jj_pA h
    clear h
    subst e9
    have h := h9
    clear h9
    exact ⟨_, rfl, h⟩
  case ifCond k0 k1 =>
    unfold jx_sem at h
    unfold jx_step jx_sem
    simp only [ho] at h ⊢
    obtain ⟨v1, s1, e9, h9⟩ := jj_pI h
    clear h
    subst e9
    have h := h9
    clear h9
    unfold jx_cond at h ⊢
    cases k0
    · by_cases hc : v1 = 0
      · exact ⟨_, if_pos hc, h.1 hc⟩
      · exact ⟨_, if_neg hc, h.2 hc⟩
    · by_cases hc : v1 = 0
      · exact ⟨_, if_pos hc, h.1 hc⟩
      · exact ⟨_, if_neg hc, h.2 hc⟩
    · by_cases hc : v1 < 0
      · exact ⟨_, if_pos hc, h.1 hc⟩
      · exact ⟨_, if_neg hc, h.2 hc⟩
    · by_cases hc : v1 < 0
      · exact ⟨_, if_pos hc, h.1 hc⟩
      · exact ⟨_, if_neg hc, h.2 hc⟩
    · by_cases hc : 0 < v1
      · exact ⟨_, if_pos hc, h.1 hc⟩
      · exact ⟨_, if_neg hc, h.2 hc⟩
    · by_cases hc : 0 < v1
      · exact ⟨_, if_pos hc, h.1 hc⟩
      · exact ⟨_, if_neg hc, h.2 hc⟩
  case if_icmp k0 k1 =>
    unfold jx_sem at h
    unfold jx_step jx_sem
    simp only [ho] at h ⊢
    obtain ⟨v1, s1, e9, h9⟩ := jj_pI h
    clear h
    subst e9
    have h := h9
    clear h9
    obtain ⟨v2, s2, e9, h9⟩ := jj_pI h
    clear h
    subst e9
    have h := h9
    clear h9
    unfold jx_cond at h ⊢
    cases k0
    · by_cases hc : v2 = v1
      · exact ⟨_, if_pos hc, h.1 hc⟩
      · exact ⟨_, if_neg hc, h.2 hc⟩
    · by_cases hc : v2 = v1
      · exact ⟨_, if_pos hc, h.1 hc⟩
      · exact ⟨_, if_neg hc, h.2 hc⟩
    · by_cases hc : v2 < v1
      · exact ⟨_, if_pos hc, h.1 hc⟩
      · exact ⟨_, if_neg hc, h.2 hc⟩
    · by_cases hc : v2 < v1
      · exact ⟨_, if_pos hc, h.1 hc⟩
      · exact ⟨_, if_neg hc, h.2 hc⟩
    · by_cases hc : v1 < v2
      · exact ⟨_, if_pos hc, h.1 hc⟩
      · exact ⟨_, if_neg hc, h.2 hc⟩
    · by_cases hc : v1 < v2
      · exact ⟨_, if_pos hc, h.1 hc⟩
      · exact ⟨_, if_neg hc, h.2 hc⟩
  case tableswitch a b c0 d =>
    unfold jx_sem at h
    unfold jx_step jx_sem
    simp only [ho] at h ⊢
    obtain ⟨v1, s1, e9, h9⟩ := jj_pI h
    clear h
    subst e9
    have h := h9
    clear h9
    obtain ⟨t, h1, h2⟩ := jj_tsw (F := fun t => (Sum.inl (t, ls, s1, n, m) : jx_Q)) _ _ h
    exact ⟨_, h1, h2⟩
  case getfield k0 =>
    unfold jx_sem at h
    unfold jx_step jx_sem
    simp only [ho] at h ⊢
    obtain ⟨a1, b1, s1, e9, h9⟩ := jj_pA h
    clear h
    subst e9
    have h := h9
    clear h9
    simp only [jx_pI, jx_pA, jx_pL]
    obtain ⟨h1, h⟩ := jj_bif h
    rw [h1]
    simp only [cond_true]
    obtain ⟨h2, h⟩ := h
    generalize jx_fT a1 r.2.1 = ft at h ⊢
    rcases ft with ⟨t1, t2, t3, t4⟩
    match t1, h with
    | 0, h => exact ⟨.inl (i + 1, ls, xI (m a1 b1 r.2.1) :: s1, n, m), if_pos h2, h⟩
    | 1, h => exact ⟨.inl (i + 1, ls, xI (m a1 b1 r.2.1) :: s1, n, m), if_pos h2, h⟩
    | 2, h => exact ⟨.inl (i + 1, ls, xA t2 (jx_ix t3 t4 b1) :: s1, n, m), if_pos h2, h⟩
    | t + 3, h => exact False.elim h
  case putfield k0 =>
    unfold jx_sem at h
    unfold jx_step jx_sem
    simp only [ho] at h ⊢
    split at h
    · rename_i v st9
      obtain ⟨a1, b1, s1, e9, h9⟩ := jj_pA h
      clear h
      subst e9
      simp only [jx_pI, jx_pA, jx_pL]
      obtain ⟨h1, h⟩ := jj_bif h9
      rw [h1]
      simp only [cond_true]
      obtain ⟨h2, h⟩ := h
      clear h9
      generalize jx_fT a1 r.2.1 = ft at h ⊢
      rcases ft with ⟨t1, t2, t3, t4⟩
      match t1, h with
      | 0, h => exact ⟨.inl (i + 1, ls, s1, n, jx_up m a1 b1 r.2.1 v), if_pos h2, h⟩
      | 1, h => exact ⟨.inl (i + 1, ls, s1, n, jx_up m a1 b1 r.2.1 v), (if_pos h2).trans (if_pos h.1), h.2⟩
      | t + 2, h => exact False.elim h
    · obtain ⟨a1, b1, s1, e9, h9⟩ := jj_pA h
      obtain ⟨h1, h⟩ := jj_bif h9
      obtain ⟨h2, h⟩ := h
      split at h
      · rename_i e2; cases e2
      · exact False.elim h
    · exact False.elim h
  case iaload =>
    unfold jx_sem at h
    unfold jx_step jx_sem
    simp only [ho] at h ⊢
    obtain ⟨v1, s1, e9, h9⟩ := jj_pI h
    clear h
    subst e9
    have h := h9
    clear h9
    obtain ⟨a2, b2, s2, e9, h9⟩ := jj_pA h
    clear h
    subst e9
    have h := h9
    clear h9
    simp only [jx_pI, jx_pA, jx_pL]
    cases hb : (true && Nat.beq a2 60)
    · rw [hb] at h; simp only [cond_false] at h ⊢; exact ⟨.inl (i + 1, ls, xI (m a2 b2 v1.toNat) :: s2, n, m), (if_pos h.1).trans (if_pos h.2.1), h.2.2⟩
    · rw [hb] at h; simp only [cond_true] at h ⊢; exact ⟨.inl (i + 1, ls, xI (m 60 0 v1.toNat) :: s2, n, m), if_pos h.1, h.2⟩
  case iastore =>
    unfold jx_sem at h
    unfold jx_step jx_sem
    simp only [ho] at h ⊢
    obtain ⟨v1, s1, e9, h9⟩ := jj_pI h
    clear h
    subst e9
    have h := h9
    clear h9
    obtain ⟨v2, s2, e9, h9⟩ := jj_pI h
    clear h
    subst e9
    have h := h9
    clear h9
    obtain ⟨a3, b3, s3, e9, h9⟩ := jj_pA h
    clear h
    subst e9
    have h := h9
    clear h9
    simp only [jx_pI, jx_pA, jx_pL]
    exact ⟨.inl (i + 1, ls, s3, n, jx_up m a3 b3 v2.toNat v1), (if_pos h.1).trans (if_pos h.2.1), h.2.2⟩
  case aaload =>
    unfold jx_sem at h
    unfold jx_step jx_sem
    simp only [ho] at h ⊢
    obtain ⟨v1, s1, e9, h9⟩ := jj_pI h
    clear h
    subst e9
    have h := h9
    clear h9
    obtain ⟨a2, b2, s2, e9, h9⟩ := jj_pA h
    clear h
    subst e9
    have h := h9
    clear h9
    simp only [jx_pI, jx_pA, jx_pL]
    obtain ⟨h1, h⟩ := jj_bif h
    rw [h1]
    simp only [cond_true]
    exact ⟨.inl (i + 1, ls, xA (jx_sE a2) (jx_el a2 b2 v1) :: s2, n, m), (if_pos h.1).trans (if_pos h.2.1), h.2.2⟩
  case aastore =>
    unfold jx_sem at h
    unfold jx_step jx_sem
    simp only [ho] at h ⊢
    obtain ⟨a1, b1, s1, e9, h9⟩ := jj_pA h
    clear h
    subst e9
    have h := h9
    clear h9
    obtain ⟨v2, s2, e9, h9⟩ := jj_pI h
    clear h
    subst e9
    have h := h9
    clear h9
    obtain ⟨a3, b3, s3, e9, h9⟩ := jj_pA h
    clear h
    subst e9
    have h := h9
    clear h9
    obtain ⟨h1, h⟩ := jj_bif h
    cases h1
  case arraylength =>
    unfold jx_sem at h
    unfold jx_step jx_sem
    simp only [ho] at h ⊢
    obtain ⟨a1, b1, s1, e9, h9⟩ := jj_pA h
    clear h
    subst e9
    have h := h9
    clear h9
    simp only [jx_pI, jx_pA, jx_pL]
    cases hb : (true && Nat.beq a1 60)
    · rw [hb] at h; simp only [cond_false] at h ⊢; exact ⟨.inl (i + 1, ls, xI (jx_sP a1) :: s1, n, m), (if_pos h.1).trans (if_pos h.2.1), h.2.2⟩
    · rw [hb] at h; simp only [cond_true] at h ⊢; exact ⟨.inl (i + 1, ls, xI (m 61 0 0) :: s1, n, m), rfl, h⟩
  case new k0 =>
    unfold jx_sem at h
    unfold jx_step jx_sem
    simp only [ho] at h ⊢
    obtain ⟨h1, h⟩ := jj_bif h
    cases h1
  case newarray k0 =>
    unfold jx_sem at h
    unfold jx_step jx_sem
    simp only [ho] at h ⊢
    obtain ⟨v1, s1, e9, h9⟩ := jj_pI h
    clear h
    subst e9
    have h := h9
    clear h9
    obtain ⟨h1, h⟩ := jj_bif h
    cases h1
  case anewarray k0 =>
    unfold jx_sem at h
    unfold jx_step jx_sem
    simp only [ho] at h ⊢
    obtain ⟨v1, s1, e9, h9⟩ := jj_pI h
    clear h
    subst e9
    have h := h9
    clear h9
    obtain ⟨h1, h⟩ := jj_bif h
    cases h1
  case invokevirtual k0 =>
    unfold jx_sem at h
    unfold jx_step jx_sem
    simp only [ho] at h ⊢
    exact jj_call (by unfold jx_isC; rw [ho]) h
  case invokestatic k0 =>
    unfold jx_sem at h
    unfold jx_step jx_sem
    simp only [ho] at h ⊢
    split at h
    · rename_i e1
      obtain ⟨v1, s1, e9, h9⟩ := jj_pI h
      clear h
      subst e9
      have h := h9
      clear h9
      obtain ⟨v2, s2, e9, h9⟩ := jj_pI h
      clear h
      subst e9
      have h := h9
      clear h9
      obtain ⟨a3, b3, s3, e9, h9⟩ := jj_pA h
      clear h
      subst e9
      have h := h9
      clear h9
      obtain ⟨v4, s4, e9, h9⟩ := jj_pI h
      clear h
      subst e9
      have h := h9
      clear h9
      obtain ⟨a5, b5, s5, e9, h9⟩ := jj_pA h
      clear h
      subst e9
      have h := h9
      clear h9
      try simp only [e1]
      simp only [jx_pI, jx_pA, jx_pL]
      obtain ⟨h1, h⟩ := jj_bif h
      rw [h1]
      simp only [cond_true]
      exact ⟨.inl (i + 1, ls, s5, n, jx_cpy m a5 b5 v4.toNat a3 b3 v2.toNat v1.toNat), (if_pos h.1).trans ((if_pos h.2.1).trans (if_pos h.2.2.1)), h.2.2.2⟩
    · rename_i e1
      obtain ⟨v1, s1, e9, h9⟩ := jj_pI h
      clear h
      subst e9
      have h := h9
      clear h9
      obtain ⟨v2, s2, e9, h9⟩ := jj_pI h
      clear h
      subst e9
      have h := h9
      clear h9
      try simp only [e1]
      simp only [jx_pI, jx_pA, jx_pL]
      obtain ⟨h1, h⟩ := jj_bif h
      rw [h1]
      exact ⟨.inl (i + 1, ls, xI (min v2 v1) :: s2, n, m), rfl, h⟩
    · rename_i e1
      obtain ⟨v1, s1, e9, h9⟩ := jj_pI h
      clear h
      subst e9
      have h := h9
      clear h9
      try simp only [e1]
      simp only [jx_pI, jx_pA, jx_pL]
      obtain ⟨h1, h⟩ := jj_bif h
      rw [h1]
      exact ⟨.inl (i + 1, ls, xI (v1.natAbs : Int) :: s1, n, m), if_pos h.1, h.2⟩
    · exact jj_call (by unfold jx_isC; rw [ho]) h
  case invokespecial k0 =>
    unfold jx_sem at h
    unfold jx_step jx_sem
    simp only [ho] at h ⊢
    split at h
    · rename_i e1
      obtain ⟨a1, b1, s1, e9, h9⟩ := jj_pA h
      clear h
      subst e9
      have h := h9
      clear h9
      try simp only [e1]
      simp only [jx_pI, jx_pA, jx_pL]
      obtain ⟨h1, h⟩ := jj_bif h
      rw [h1]
      exact ⟨.inl (i + 1, ls, s1, n, m), rfl, h⟩
    · exact jj_call (by unfold jx_isC; rw [ho]) h
  all_goals (exfalso; unfold jx_sem at h; simp only [ho] at h)
theorem jx_mono {ph : Bool} : ∀ (k : Nat) {x stop : Nat} {t0 t : jx_S}, jx_go ph k x stop t0 = some t → ∀ {k' : Nat}, k ≤ k' → jx_go ph k' x stop t0 = some t
  | 0, _, _, _, _, h, _, _ => by cases h
  | k + 1, x, stop, t0, t, h, 0, hk => by omega
  | k + 1, x, stop, t0, t, h, k' + 1, hk => by
    have hk : k ≤ k' := by omega
    unfold jx_go at h ⊢
    cases hb : (Nat.beq t0.1 stop || jx_isR (jx_row x t0.1))
    · rw [hb] at h
      simp only [cond_false] at h ⊢
      split at h
      · cases h
      · rename_i t1 e1
        try simp only [e1]
        exact jx_mono k h hk
      · rename_i y as rest e1
        try simp only [e1]
        obtain ⟨hc, h2⟩ := ji_bif h
        rw [hc]
        simp only [cond_true]
        split at h2
        · cases h2
        · rename_i u e2
          rw [jx_mono k e2 hk]
          simp only
          split at h2
          · cases h2
          · rename_i z e3
            try simp only [e3]
            exact jx_mono k h2 hk
    · rw [hb] at h
      exact h
theorem jx_isR_of {r : jx_R} (h1 : r.1 ≠ .ireturn) (h2 : r.1 ≠ .return_) : jx_isR r = false := by
  unfold jx_isR
  split
  · rename_i e; exact absurd e h1
  · rename_i e; exact absurd e h2
  · rfl
theorem jx_lens : jx_cd.all (fun l => Nat.blt l.length 99999) = true := by decide +kernel
theorem jx_ilt {x i : Nat} (h : (jx_row x i).1 ≠ .nop) : Nat.beq i 100000 = false := by
  obtain ⟨h1, h2⟩ := jg_nop h
  have h3 : (jx_nth jx_cd x []).length < 99999 := Nat.le_of_ble_eq_true (List.all_eq_true.mp jx_lens _ (List.mem_of_getElem? (jl_nth_get [] jx_cd x (show x < jx_cd.length from h2))))
  cases hb : Nat.beq i 100000
  · rfl
  · have := ji_beq hb; omega
theorem jx_stepNop {r : jx_R} {t : jx_S} {q : jx_Q} (h : jx_step true r t = some q) : r.1 ≠ .nop := by
  intro e1
  unfold jx_step jx_sem at h
  try simp only [e1] at h
  cases h
/-- one step on -/
theorem jx_AW_step {x i : Nat} {ls : jx_L} {st : List jx_V} {m : jx_M} {Q : Int → jx_M → Prop} {t : jx_S} (h1 : jx_step true (jx_row x i) (i, ls, st, 190, m) = some (.inl t)) (hr : jx_isR (jx_row x i) = false) (hn : t.2.2.2.1 = 190) (h : jx_AW x t.1 t.2.1 t.2.2.1 t.2.2.2.2 Q) : jx_AW x i ls st m Q := by
  obtain ⟨k, u, z, a, b, c, d⟩ := h
  refine ⟨k + 1, u, z, ?_, b, c, d⟩
  unfold jx_go
  rw [show (Nat.beq (i, ls, st, 190, m).1 100000 || jx_isR (jx_row x (i, ls, st, 190, m).1)) = false by rw [show Nat.beq (i, ls, st, 190, m).1 100000 = false from jx_ilt (jx_stepNop h1)]; exact hr]
  simp only [cond_false, h1]
  rw [← hn] at a
  exact a
theorem jx_AW_call {x i y : Nat} {ls : jx_L} {st as rest : List jx_V} {m : jx_M} {Q : Int → jx_M → Prop} (h1 : jx_step true (jx_row x i) (i, ls, st, 190, m) = some (.inr (y, as, rest))) (hr : jx_isR (jx_row x i) = false) (hc : jx_isC (jx_row x i) = true) (hl : Nat.ble (jx_exp as).length (jx_mL y) = true) (h : jx_Cl y as m (fun z m' => jx_AW x (i + 1) ls (jx_psh y z rest) m' Q)) : jx_AW x i ls st m Q := by
  obtain ⟨k, u, z, a, b, c, k2, u2, z2, a2, b2, c2, d2⟩ := h
  refine ⟨k + k2 + 1, u2, z2, ?_, b2, c2, d2⟩
  unfold jx_go
  rw [show (Nat.beq (i, ls, st, 190, m).1 100000 || jx_isR (jx_row x (i, ls, st, 190, m).1)) = false by rw [show Nat.beq (i, ls, st, 190, m).1 100000 = false from jx_ilt (jx_stepNop h1)]; exact hr]
  simp only [cond_false, h1, hc, hl, Bool.and_true, cond_true]
  rw [jx_mono k a (by omega)]
  simp only [c]
  rw [b]
  exact jx_mono k2 a2 (by omega)
theorem jx_AW_ret {x i : Nat} {ls : jx_L} {st : List jx_V} {m : jx_M} {Q : Int → jx_M → Prop} {z : Int} (hr : jx_isR (jx_row x i) = true) (hv : jx_rv x (jx_row x i) st = some z) (h : Q z m) : jx_AW x i ls st m Q := by
  refine ⟨1, (i, ls, st, 190, m), z, ?_, rfl, hv, h⟩
  unfold jx_go
  rw [show jx_isR (jx_row x (i, ls, st, 190, m).1) = true from hr, Bool.or_true]
  rfl
theorem jx_segOk {x : Nat} {cd : List jx_R} (hcd : jx_nth jx_cd x [] = cd) {stops : List Nat} {Q : Int → jx_M → Prop} : ∀ (k : Nat) {i : Nat} {ls : jx_L} {st : List jx_V} {m : jx_M}, jx_seg x cd stops Q k i ls st m → jx_AW x i ls st m Q
  | 0, _, _, _, _, h => h
  | k + 1, i, ls, st, m, h => by
    have hrow : jx_nth cd i (.nop, 0, 0, 0) = jx_row x i := by unfold jx_row; rw [hcd]
    unfold jx_seg at h
    rw [hrow] at h
    split at h
    · rename_i e1
      split at h
      · rename_i v
        have hr : jx_isR (jx_row x i) = true := by unfold jx_isR; rw [e1]
        cases hv : jx_mV x
        · rw [hv] at h
          simp only [cond_false] at h
          cases hb : ((jx_row x i).2.1 == 1)
          · rw [hb] at h
            exact jx_AW_ret hr (by unfold jx_rv; rw [e1]; simp only [hv, hb, cond_false]) h
          · rw [hb] at h
            exact jx_AW_ret hr (by unfold jx_rv; rw [e1]; simp only [hv, hb, cond_false, cond_true]; exact if_pos h.1) h.2
        · rw [hv] at h
          cases h
      · cases h
    · rename_i e1
      split at h
      · have hr : jx_isR (jx_row x i) = true := by unfold jx_isR; rw [e1]
        cases hv : jx_mV x
        · rw [hv] at h; cases h
        · rw [hv] at h
          exact jx_AW_ret hr (by unfold jx_rv; rw [e1]; simp only [hv, cond_true]) h
      · cases h
    · rename_i e1 e2
      have hr := jx_isR_of e1 e2
      obtain ⟨q, hq, hre⟩ := jj_sem h
      rcases q with t | ⟨y, as, rest⟩
      · obtain ⟨hn, hre⟩ := jj_bif hre
        refine jx_AW_step hq hr (ji_beq hn) ?_
        cases hs : stops.elem t.1
        · rw [hs] at hre; exact jx_segOk hcd k hre
        · rw [hs] at hre; exact hre
      · obtain ⟨hc, hre⟩ := hre
        obtain ⟨hl, hre⟩ := jj_bif hre
        refine jx_AW_call hq hr hc hl ?_
        obtain ⟨k1, u, z, a, b, c, d⟩ := hre
        exact ⟨k1, u, z, a, b, c, jx_segOk hcd k d⟩
/-- a call that answers just so -/
abbrev jx_An (y : Nat) (as : List jx_V) (m : jx_M) (z : Int) (m' : jx_M) : Prop := jx_Cl y as m (fun z' m'' => z' = z ∧ m'' = m')
theorem jx_use {y : Nat} {as : List jx_V} {m m' : jx_M} {z : Int} {Q : Int → jx_M → Prop} (h : jx_An y as m z m') (hq : Q z m') : jx_Cl y as m Q := by
  obtain ⟨k, u, z2, a, b, c, rfl, rfl⟩ := h
  exact ⟨k, u, z2, a, b, c, hq⟩
theorem jx_AW_imp {x i : Nat} {ls : jx_L} {st : List jx_V} {m : jx_M} {P Q : Int → jx_M → Prop} (h : jx_AW x i ls st m P) (hpq : ∀ z m', P z m' → Q z m') : jx_AW x i ls st m Q := by
  obtain ⟨k, u, z2, a, b, c, d⟩ := h
  exact ⟨k, u, z2, a, b, c, hpq _ _ d⟩
