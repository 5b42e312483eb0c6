/-! the claim's start: from the law's entry to its loop -/
def jm_1 (xs : Nat → Int) (L : Int) : jx_M := fun s i k => if s = 60 then (if i = 0 then xs k else 0) else if s = 61 then (if i = 0 ∧ k = 0 then L else 0) else jm_e s i k
theorem jm_run : ∃ m : jx_M, jx_go false 1000 191 10 jm_i0 = some (10, jm_l, [], 190, m) ∧ ∀ q ∈ jx_lay, jm_okc m q = true := by
  have h := jm_ok
  split at h
  · rename_i t e1
    obtain ⟨i, ls, st, n, m⟩ := t
    obtain ⟨h1, h⟩ := ji_and h
    obtain ⟨h2, h⟩ := ji_and h
    obtain ⟨h3, h⟩ := ji_and h
    obtain ⟨h4, h⟩ := ji_and h
    have g1 : i = 10 := ji_beq h1
    have g2 : ls = jm_l := of_decide_eq_true h2
    have g3 : st = [] := of_decide_eq_true h3
    have g4 : n = 190 := ji_beq h4
    refine ⟨m, ?_, List.all_eq_true.mp h⟩
    rw [e1, g1, g2, g3, g4]
  · cases h
theorem jm_arr {c : ClassId} {n : Nat} {f g : Nat → Value} (h : ∀ k, k < n → f k = g k) : arrV c n f = arrV c n g := by
  unfold arrV
  congr 1
  apply Array.ext
  · simp
  · intro i h1 h2
    simp at h1
    simp [h i h1]
theorem jm_ne {s i : Nat} (h : i < jx_sC s) (xs : Nat → Int) (L : Int) (k : Nat) : jm_1 xs L s i k = jm_e s i k := by
  have := jy_ne60 h
  unfold jm_1
  rw [if_neg this.2.1, if_neg this.2.2]
/-- the made cells, read as those that stay -/
theorem jm_wd {E : jx_E} {m : jx_M} {H : Heap} (hm : ∀ q ∈ jx_lay, jm_okc m q = true) (xs : Nat → Int) (L : Int) (h : jx_Wd E false 190 m H) : jx_Wd E true 190 (jm_1 xs L) H := by
  refine ⟨h.1, h.2.1, fun k hk => ?_⟩
  have h1 := h.2.2 k hk
  obtain ⟨l1, l2, l3⟩ := jy_lay hk
  have hq : jm_okc m (jx_la k) = true := hm _ (List.mem_of_getElem? (jl_nth_get (0, 0) jx_lay k (by rw [jy_len.2]; exact hk)))
  generalize jx_la k = q at h1 hq l2 l3
  obtain ⟨s, j⟩ := q
  have l2 : j < jx_sC s := l2
  have l3 : jx_sK s ≤ 2 := l3
  show va_at E.2.2.1 jx_classes (E.1 + k, jx_ce E true (jm_1 xs L) s j) H
  have h1 : va_at E.2.2.1 jx_classes (E.1 + k, jx_ce E false m s j) H := h1
  have hne := jm_ne l2 xs L
  rcases (show jx_sK s = 0 ∨ jx_sK s = 1 ∨ jx_sK s = 2 by omega) with e1 | e1 | e1
  · have hq : ((List.range (jx_nf s)).all (fun k => match jx_fT s k with
      | (2, _, _, _) => decide (m s j k = 1)
      | _ => decide (m s j k = jm_e s j k))) = true := by
      unfold jm_okc at hq
      simp only [e1] at hq
      exact hq
    rw [jw_ce0 e1] at h1 ⊢
    have e2 : (List.range (jx_nf s)).map (jx_fv E true (jm_1 xs L) s j) = (List.range (jx_nf s)).map (jx_fv E false m s j) := by
      apply List.map_congr_left
      intro y hy
      have h2 := List.all_eq_true.mp hq y hy
      unfold jx_fv
      rw [hne y]
      revert h2
      rcases jx_fT s y with ⟨t1, t2, t3, t4⟩
      intro h2
      match t1, h2 with
      | 0, h2 =>
        show Value.int (Int32.ofInt (jm_e s j y)) = Value.int (Int32.ofInt (m s j y))
        rw [of_decide_eq_true (p := m s j y = jm_e s j y) h2]
      | 1, h2 =>
        show Value.int (Int32.ofInt (jm_e s j y)) = Value.int (Int32.ofInt (m s j y))
        rw [of_decide_eq_true (p := m s j y = jm_e s j y) h2]
      | 2, h2 =>
        show (if true = true ∨ jm_e s j y = 1 then Value.ref _ else Value.null) = (if false = true ∨ m s j y = 1 then Value.ref _ else Value.null)
        rw [if_pos (Or.inl rfl), if_pos (Or.inr (of_decide_eq_true (p := m s j y = 1) h2))]
      | t + 3, h2 => rfl
    rw [e2]
    exact h1
  · have hq : ((List.range (jx_sP s)).all (fun k => decide (m s j k = jm_e s j k))) = true := by
      unfold jm_okc at hq
      simp only [e1] at hq
      exact hq
    rw [jw_ce1 e1] at h1 ⊢
    have h1 : H[E.1 + k]? = some (arrV E.2.2.2.1 (jx_sP s) (fun y => .int (Int32.ofInt (m s j y)))) := h1
    show H[E.1 + k]? = some (arrV E.2.2.2.1 (jx_sP s) (fun y => .int (Int32.ofInt (jm_1 xs L s j y))))
    rw [h1]
    refine congrArg some (jm_arr (fun y hy => ?_))
    have h2 := of_decide_eq_true (p := m s j y = jm_e s j y) (List.all_eq_true.mp hq y (List.mem_range.mpr hy))
    show Value.int (Int32.ofInt (m s j y)) = Value.int (Int32.ofInt (jm_1 xs L s j y))
    rw [h2, hne y]
  · have hq : ((List.range (jx_sP s)).all (fun k => decide (m s j k = 1))) = true := by
      unfold jm_okc at hq
      simp only [e1] at hq
      exact hq
    rw [jw_ce2 e1] at h1 ⊢
    have h1 : H[E.1 + k]? = some (arrV (E.2.2.2.2 s) (jx_sP s) (fun y => va_rf (if false = true ∨ m s j y = 1 then some (E.1 + jx_pos (jx_sE s) (jx_el s j y)) else none))) := h1
    show H[E.1 + k]? = some (arrV (E.2.2.2.2 s) (jx_sP s) (fun y => va_rf (if true = true ∨ jm_1 xs L s j y = 1 then some (E.1 + jx_pos (jx_sE s) (jx_el s j y)) else none)))
    rw [h1]
    refine congrArg some (jm_arr (fun y hy => ?_))
    have h2 := of_decide_eq_true (p := m s j y = 1) (List.all_eq_true.mp hq y (List.mem_range.mpr hy))
    show va_rf (if false = true ∨ m s j y = 1 then some _ else none) = va_rf (if true = true ∨ jm_1 xs L s j y = 1 then some _ else none)
    rw [if_pos (Or.inr h2), if_pos (Or.inl rfl)]
theorem jm_wf0 : jx_wf false (fun _ => 0) 0 191 jm_i0 := by
  refine ⟨fun k v h => ?_, rfl, fun v h => (by cases h), ⟨fun _ _ _ => ?_, fun _ => rfl, rfl⟩, (fun h => by cases h), Nat.zero_le _⟩
  · have h : jx_nth [some (xA 60 0), none, none, none] k none = some v := h
    match k, h with
    | 0, h => cases h; exact trivial
    | 1, h => cases h
    | 2, h => cases h
    | 3, h => cases h
    | k + 4, h => cases k <;> cases h
  · show jx_in 0
    omega
theorem jm_e_in (s i k : Nat) : jx_in (jm_e s i k) := by
  unfold jm_e
  split
  · split <;> omega
  · omega
  · split
    · omega
    · split
      · omega
      · split <;> omega
  · omega
  · omega
  · omega
theorem jm_wf1 {xs : Nat → Int} {L : Int} (hxs : ∀ k, jx_in (xs k)) (hL : jx_in L) : jx_wf true xs L 191 (10, jm_l, [], 190, jm_1 xs L) := by
  refine ⟨fun k v h => ?_, rfl, fun v h => (by cases h), ⟨fun s i k => ?_, fun _ => rfl, rfl⟩, fun _ => rfl, Nat.le_refl _⟩
  · have h : jx_nth [some (xA 60 0), some (xA 0 0), some (xA 26 0), some (xI 0)] k none = some v := h
    match k, h with
    | 0, h => cases h; exact trivial
    | 1, h => cases h; exact trivial
    | 2, h => cases h; exact trivial
    | 3, h => cases h; show jx_in 0; omega
    | k + 4, h => cases k <;> cases h
  · show jx_in (jm_1 xs L s i k)
    unfold jm_1
    split
    · split
      · exact hxs k
      · omega
    · split
      · split
        · exact hL
        · omega
      · exact jm_e_in s i k
/-- the classes' numbers, and the arrays' -/
theorem jm_G {s : State} {args : Array Value} (B b : Nat) (hts : ∀ w ∈ lw_tbl, w.before args s = true) : ∃ (D : va_G) (cI : ClassId) (cR : Nat → ClassId), jx_G (B, b, D, cI, cR) s := by
  have hgw : ∀ w ∈ jx_gw, w.before args s = true := fun w hw => hts w (List.mem_filter.mp hw).1
  have ex : ∀ k : Nat, ∃ (cC : ClassId) (iS : Nat → Nat), ∀ q : vw_C, jx_classes[k]? = some q → u_Kn s q.1 q.2.1 q.2.2 cC iS := by
    intro k
    cases hq : jx_classes[k]? with
    | none => exact ⟨0, fun _ => 0, fun q h => by cases h⟩
    | some q =>
      have hin := (jy_cls hq).1
      have hinst : ∃ n, (Jvm.Cond.instantiable q.1 n).before args s = true := by
        match k, hq with
        | 0, hq => cases hq; exact ⟨_, hts (.instantiable RX0 4) (by decide +kernel)⟩
        | 1, hq => cases hq; exact ⟨_, hts (.instantiable RX1 7) (by decide +kernel)⟩
        | 2, hq => cases hq; exact ⟨_, hts (.instantiable RX2 9) (by decide +kernel)⟩
        | 3, hq => cases hq; exact ⟨_, hts (.instantiable RX3 4) (by decide +kernel)⟩
        | 4, hq => cases hq; exact ⟨_, hts (.instantiable RX4 2) (by decide +kernel)⟩
        | 5, hq => cases hq; exact ⟨_, hts (.instantiable RX5 9) (by decide +kernel)⟩
        | 6, hq => cases hq; exact ⟨_, hts (.instantiable RX6 4) (by decide +kernel)⟩
        | 7, hq => cases hq; exact ⟨_, hts (.instantiable RX7 3) (by decide +kernel)⟩
        | 8, hq => cases hq; exact ⟨_, hts (.instantiable RX8 8) (by decide +kernel)⟩
        | 9, hq => cases hq; exact ⟨_, hts (.instantiable RX9 32) (by decide +kernel)⟩
        | k + 10, hq => simp [jx_classes] at hq
      obtain ⟨n, hinst⟩ := hinst
      obtain ⟨cC, iS, hK⟩ := u_known (C := q.1) (T := q.2.1) (N := q.2.2) (n := n) hgw hin hinst
      exact ⟨cC, iS, fun q' h => by cases h; exact hK⟩
  obtain ⟨cI, kA, comp, hcI, hkA, hkind⟩ := Cond.arrayClass_spec (hts (.arrayClass .int) (by decide +kernel))
  have exR : ∀ C : String, (Jvm.Cond.arrayOver (.object C)).before args s = true → ∃ cA : ClassId, ArrOfT s cA (.object C) ∧ va_RA s cA (.object C) := by
    intro C hC
    obtain ⟨comp, c, k, h1, h2, h3, h4, h5⟩ := Cond.arrayOver_spec hC
    exact ⟨c, fun N z => ⟨(fun k h => by cases h), k, h3, comp, h4⟩, k, comp, h3, h4, h1, h5⟩
  obtain ⟨c3, a3, b3⟩ := exR RX2 (hts _ (by decide +kernel))
  obtain ⟨c4, a4, b4⟩ := exR RX0 (hts _ (by decide +kernel))
  obtain ⟨c5, a5, b5⟩ := exR RX7 (hts _ (by decide +kernel))
  obtain ⟨c6, a6, b6⟩ := exR RX3 (hts _ (by decide +kernel))
  refine ⟨(fun k => Classical.choose (ex k), fun k => Classical.choose (Classical.choose_spec (ex k))), cI, fun s => if s = 3 then c3 else if s = 4 then c4 else if s = 5 then c5 else c6, ⟨fun k q hq => Classical.choose_spec (Classical.choose_spec (ex k)) q hq, fun k q hq => ?_⟩, fun a i x h hm => va_Nw.of rfl (hts _ hm), fun C hm => va_AO.of (hts _ hm)⟩
  match k, hq with
  | 0, hq => cases hq; exact ⟨fun N z => ⟨(fun k h => by cases h), kA, hkA, comp, hkind⟩, hcI⟩
  | 1, hq => cases hq; exact ⟨a3, b3⟩
  | 2, hq => cases hq; exact ⟨a4, b4⟩
  | 3, hq => cases hq; exact ⟨a5, b5⟩
  | 4, hq => cases hq; exact ⟨a6, b6⟩
  | k + 5, hq => simp [jx_tys] at hq
