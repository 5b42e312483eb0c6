/-! the small machine's memory in the heap -/
abbrev jx_E : Type := Nat × Nat × va_G × ClassId × (Nat → ClassId)
def jx_ad (E : jx_E) (s i : Nat) : Nat := bif Nat.beq s 60 then E.2.1 else E.1 + jx_pos s i
def jx_con (E : jx_E) (v : jx_V) : Value := match v with
  | .inl z => .int (Int32.ofInt z)
  | .inr (.inl z) => .long (Int64.ofInt z)
  | .inr (.inr q) => .ref (jx_ad E q.1 q.2)
def jx_fv (E : jx_E) (ph : Bool) (m : jx_M) (s j k : Nat) : Value := match jx_fT s k with
  | (0, _, _, _) => .int (Int32.ofInt (m s j k))
  | (1, _, _, _) => .int (Int32.ofInt (m s j k))
  | (2, s', mode, b) => if ph = true ∨ m s j k = 1 then .ref (E.1 + jx_pos s' (jx_ix mode b j)) else .null
  | _ => .null
def jx_nf (s : Nat) : Nat := (jx_nth jx_fld (jx_sP s) []).length
def jx_ce (E : jx_E) (ph : Bool) (m : jx_M) (s j : Nat) : va_E := match jx_sK s with
  | 0 => .inr (jx_sP s, (List.range (jx_nf s)).map (jx_fv E ph m s j))
  | 1 => .inl (E.2.2.2.1, jx_sP s, .inl (fun k => Int32.ofInt (m s j k)))
  | _ => .inl (E.2.2.2.2 s, jx_sP s, .inr (.inr (.inr (.inr (fun k => if ph = true ∨ m s j k = 1 then some (E.1 + jx_pos (jx_sE s) (jx_el s j k)) else none)))))
def jx_la (k : Nat) : Nat × Nat := jx_nth jx_lay k (0, 0)
def jx_Wd (E : jx_E) (ph : Bool) (n : Nat) (m : jx_M) (H : Heap) : Prop := H.size = E.1 + n ∧ n ≤ 190 ∧ ∀ k, k < n → va_at E.2.2.1 jx_classes (E.1 + k, jx_ce E ph m (jx_la k).1 (jx_la k).2) H
def jx_sl (s : Nat) : Nat := match jx_sK s with
  | 0 => jx_nf s
  | _ => jx_sP s
def jx_SL : Nat → Nat
  | 0 => 0
  | n + 1 => jx_SL n + jx_sl (jx_la n).1
def jx_tys (E : jx_E) : List (ClassId × FieldType) := [(E.2.2.2.1, .int), (E.2.2.2.2 3, .object RX2), (E.2.2.2.2 4, .object RX0), (E.2.2.2.2 5, .object RX7), (E.2.2.2.2 22, .object RX3)]
def jx_G (E : jx_E) (U : State) : Prop := va_K E.2.2.1 jx_classes (jx_tys E) U ∧ (∀ (a : String) (i : Nat) (x : MethodName) (h : String), Jvm.Cond.methodLinkNest a i x h ∈ lw_tbl → va_Nw (.methodLinkNest a i x h) U) ∧ (∀ C : String, Jvm.Cond.arrayOver (.object C) ∈ lw_tbl → va_AO C U)
def jx_F (E : jx_E) (s : State) (H : Heap) (locs : List Loc) : Prop := E.1 ≤ s.heap.size ∧ (∀ q : Nat, q < E.1 → H[q]? = s.heap[q]?) ∧ ∀ l ∈ locs, E.1 ≤ l.base
def jx_X (E : jx_E) (xs : Nat → Int) (L : Int) (U : State) (H : Heap) : Prop := va_X E.2.1 L.toNat (fun k => Int32.ofInt (xs k)) U H ∧ E.2.1 < E.1 ∧ 0 ≤ L ∧ L ≤ 2147483647
def jx_lv (E : jx_E) : Nat → jx_L → List (Nat × Value)
  | _, [] => []
  | k, some v :: l => (k, jx_con E v) :: jx_lv E (k + 1) l
  | k, none :: l => jx_lv E (k + 1) l
def jx_wV (v : jx_V) : Prop := match v with
  | .inl z => jx_in z
  | .inr (.inl z) => jx_inL z
  | .inr (.inr _) => True
def jx_wM (xs : Nat → Int) (L : Int) (m : jx_M) : Prop := (∀ s i k, jx_in (m s i k)) ∧ (∀ k, m 60 0 k = xs k) ∧ m 61 0 0 = L
def jx_wf (ph : Bool) (xs : Nat → Int) (L : Int) (x : Nat) (t : jx_S) : Prop := (∀ k v, jx_nth t.2.1 k none = some v → jx_wV v) ∧ t.2.1.length = jx_mL x ∧ (∀ v ∈ t.2.2.1, jx_wV v) ∧ jx_wM xs L t.2.2.2.2 ∧ (ph = true → t.2.2.2.1 = 190) ∧ t.2.2.2.1 ≤ 190
-- the layout's own facts
theorem jy_pos0 : ((List.range 47).all (fun s => (List.range (jx_sC s)).all (fun j => Nat.blt (jx_pos s j) 190 && (Nat.beq (jx_la (jx_pos s j)).1 s && Nat.beq (jx_la (jx_pos s j)).2 j)))) = true := by decide +kernel
theorem jy_lay0 : ((List.range 190).all (fun k => Nat.beq (jx_pos (jx_la k).1 (jx_la k).2) k && (Nat.blt (jx_la k).2 (jx_sC (jx_la k).1) && Nat.ble (jx_sK (jx_la k).1) 2))) = true := by decide +kernel
theorem jy_len : jx_srt.length = 47 ∧ jx_lay.length = 190 := by decide +kernel
theorem jy_srt {s j : Nat} (h : j < jx_sC s) : s < 47 := by
  rcases Nat.lt_or_ge s 47 with q | q
  · exact q
  · have : jx_sC s = 0 := by
      unfold jx_sC
      rw [jl_nth_out _ _ _ (by rw [jy_len.1]; exact q)]
    omega
theorem jy_pos {s j : Nat} (h : j < jx_sC s) : jx_pos s j < 190 ∧ jx_la (jx_pos s j) = (s, j) := by
  have h1 := List.all_eq_true.mp (List.all_eq_true.mp jy_pos0 s (List.mem_range.mpr (jy_srt h))) j (List.mem_range.mpr h)
  obtain ⟨a, b⟩ := ji_and h1
  obtain ⟨b, c⟩ := ji_and b
  exact ⟨Nat.le_of_ble_eq_true a, Prod.ext (ji_beq b) (ji_beq c)⟩
theorem jy_lay {k : Nat} (h : k < 190) : jx_pos (jx_la k).1 (jx_la k).2 = k ∧ (jx_la k).2 < jx_sC (jx_la k).1 ∧ jx_sK (jx_la k).1 ≤ 2 := by
  have h1 := List.all_eq_true.mp jy_lay0 k (List.mem_range.mpr h)
  obtain ⟨a, b⟩ := ji_and h1
  obtain ⟨b, c⟩ := ji_and b
  exact ⟨ji_beq a, Nat.le_of_ble_eq_true b, Nat.le_of_ble_eq_true c⟩
theorem jy_ne60 {s j : Nat} (h : j < jx_sC s) : Nat.beq s 60 = false ∧ s ≠ 60 ∧ s ≠ 61 := by
  have := jy_srt h
  refine ⟨?_, by omega, by omega⟩
  cases e : Nat.beq s 60
  · rfl
  · have := ji_beq e; omega
theorem jy_ad {E : jx_E} {s j : Nat} (h : j < jx_sC s) : jx_ad E s j = E.1 + jx_pos s j := by
  unfold jx_ad
  rw [(jy_ne60 h).1]
  rfl
-- the classes' own facts
theorem jy_in0 : ∀ w ∈ u_ws RX0 TX0 4, w ∈ jx_gw := by decide +kernel
theorem jy_in1 : ∀ w ∈ u_ws RX1 TX1 7, w ∈ jx_gw := by decide +kernel
theorem jy_in2 : ∀ w ∈ u_ws RX2 TX2 9, w ∈ jx_gw := by decide +kernel
theorem jy_in3 : ∀ w ∈ u_ws RX3 TX3 4, w ∈ jx_gw := by decide +kernel
theorem jy_in4 : ∀ w ∈ u_ws RX4 TX4 2, w ∈ jx_gw := by decide +kernel
theorem jy_in5 : ∀ w ∈ u_ws RX5 TX5 9, w ∈ jx_gw := by decide +kernel
theorem jy_in6 : ∀ w ∈ u_ws RX6 TX6 4, w ∈ jx_gw := by decide +kernel
theorem jy_in7 : ∀ w ∈ u_ws RX7 TX7 3, w ∈ jx_gw := by decide +kernel
theorem jy_in8 : ∀ w ∈ u_ws RX8 TX8 8, w ∈ jx_gw := by decide +kernel
theorem jy_in9 : ∀ w ∈ u_ws RX9 TX9 32, w ∈ jx_gw := by decide +kernel
/-- of a class: its fields' words, types, names; the field table fits -/
def jy_ty (c : Nat) : Nat → FieldType := match c with
  | 0 => tyX0 | 1 => tyX1 | 2 => tyX2 | 3 => tyX3 | 4 => tyX4 | 5 => tyX5 | 6 => tyX6 | 7 => tyX7 | 8 => tyX8 | _ => tyX9
theorem jy_cls {c : Nat} {q : vw_C} (h : jx_classes[c]? = some q) : (∀ w ∈ u_ws q.1 q.2.1 q.2.2, w ∈ jx_gw) ∧ (∀ k, k < q.2.2 → parseFieldDescriptor (q.2.1 k).2.2.1 = some (jy_ty c k)) ∧ (∀ a, a < q.2.2 → ∀ b, b < q.2.2 → a ≠ b → (q.2.1 a).2.1 ≠ (q.2.1 b).2.1) ∧ c < 10 := by
  match c, h with
  | 0, h => cases h; exact ⟨jy_in0, tyX0_ok, nmX0, by omega⟩
  | 1, h => cases h; exact ⟨jy_in1, tyX1_ok, nmX1, by omega⟩
  | 2, h => cases h; exact ⟨jy_in2, tyX2_ok, nmX2, by omega⟩
  | 3, h => cases h; exact ⟨jy_in3, tyX3_ok, nmX3, by omega⟩
  | 4, h => cases h; exact ⟨jy_in4, tyX4_ok, nmX4, by omega⟩
  | 5, h => cases h; exact ⟨jy_in5, tyX5_ok, nmX5, by omega⟩
  | 6, h => cases h; exact ⟨jy_in6, tyX6_ok, nmX6, by omega⟩
  | 7, h => cases h; exact ⟨jy_in7, tyX7_ok, nmX7, by omega⟩
  | 8, h => cases h; exact ⟨jy_in8, tyX8_ok, nmX8, by omega⟩
  | 9, h => cases h; exact ⟨jy_in9, tyX9_ok, nmX9, by omega⟩
  | c + 10, h => simp [jx_classes] at h
/-- the field table and the classes' own: an int, a boolean, or a final reference -/
def jy_fok (c k : Nat) : Bool := match jx_classes[c]? with
  | some (_, T, _) => (match jx_nth (jx_nth jx_fld c []) k (9, 0, 0, 0) with
    | (0, _, _, _) => decide (jy_ty c k = .int ∧ (T k).2.2.2 = false)
    | (1, _, _, _) => decide (jy_ty c k = .boolean ∧ (T k).2.2.2 = false)
    | (2, s, md, b) => decide ((T k).2.2.2 = true) && ((match jy_ty c k with
        | .object _ => true
        | .array _ => true
        | _ => false) && (Nat.blt s 47 && (Nat.beq md 1 || (Nat.beq md 0 && Nat.blt b (jx_sC s)))))
    | _ => false)
  | none => false
theorem jy_fok0 : ((List.range 10).all (fun c => (List.range (jx_nth jx_fld c []).length).all (jy_fok c))) = true := by decide +kernel
theorem jy_nf0 : ((List.range 10).all (fun c => match jx_classes[c]? with | some (_, _, n) => Nat.beq (jx_nth jx_fld c []).length n | none => false)) = true := by decide +kernel
theorem jy_nf {c : Nat} {q : vw_C} (h : jx_classes[c]? = some q) : (jx_nth jx_fld c []).length = q.2.2 := by
  have h1 := List.all_eq_true.mp jy_nf0 c (List.mem_range.mpr (jy_cls h).2.2.2)
  simp only [h] at h1
  exact ji_beq h1
/-- objects' sorts have a class; a field that is a reference leads to cells that there are -/
theorem jy_srt0 : ((List.range 47).all (fun s => (match jx_sK s with
    | 0 => Nat.blt (jx_sP s) 10 && ((List.range (jx_nf s)).all (fun k => match jx_fT s k with
      | (2, s', md, b) => (List.range (jx_sC s)).all (fun j => Nat.blt (jx_ix md b j) (jx_sC s'))
      | _ => true))
    | 1 => Nat.blt (jx_sP s) 1000
    | 2 => Nat.blt (jx_sP s) 1000 && ((Nat.beq (jx_sK (jx_sE s)) 0) && (List.range (jx_sC s)).all (fun j => (List.range (jx_sP s)).all (fun k => Nat.blt (jx_el s j k) (jx_sC (jx_sE s)))))
    | _ => true))) = true := by decide +kernel
theorem jy_obj {s j : Nat} (h : j < jx_sC s) (hk : jx_sK s = 0) : jx_sP s < 10 ∧ ∀ k, k < jx_nf s → ∀ s' md b, jx_fT s k = (2, s', md, b) → jx_ix md b j < jx_sC s' := by
  have h1 := List.all_eq_true.mp jy_srt0 s (List.mem_range.mpr (jy_srt h))
  rw [hk] at h1
  obtain ⟨a, b⟩ := ji_and h1
  refine ⟨Nat.le_of_ble_eq_true a, fun k hkn s' md b' e => ?_⟩
  have h2 := List.all_eq_true.mp b k (List.mem_range.mpr hkn)
  rw [e] at h2
  exact Nat.le_of_ble_eq_true (List.all_eq_true.mp h2 j (List.mem_range.mpr h))
theorem jy_arr {s j : Nat} (h : j < jx_sC s) (hk : jx_sK s = 2) : jx_sP s < 1000 ∧ jx_sK (jx_sE s) = 0 ∧ ∀ z : Int, 0 ≤ z → z < jx_sP s → jx_el s j z < jx_sC (jx_sE s) := by
  have h1 := List.all_eq_true.mp jy_srt0 s (List.mem_range.mpr (jy_srt h))
  rw [hk] at h1
  obtain ⟨a, b⟩ := ji_and h1
  obtain ⟨b, c⟩ := ji_and b
  refine ⟨Nat.le_of_ble_eq_true a, ji_beq b, fun z z0 z1 => ?_⟩
  have h2 := List.all_eq_true.mp (List.all_eq_true.mp c j (List.mem_range.mpr h)) z.toNat (List.mem_range.mpr (by omega))
  have e : ((z.toNat : Nat) : Int) = z := by omega
  rw [e] at h2
  exact Nat.le_of_ble_eq_true h2
theorem jy_ints {s j : Nat} (h : j < jx_sC s) (hk : jx_sK s = 1) : jx_sP s < 1000 := by
  have h1 := List.all_eq_true.mp jy_srt0 s (List.mem_range.mpr (jy_srt h))
  rw [hk] at h1
  exact Nat.le_of_ble_eq_true h1
/-- of what type an array of references is -/
def jy_rt (s : Nat) : Nat := match s with
  | 3 => 1 | 4 => 2 | 5 => 3 | 22 => 4 | _ => 9
theorem jy_rt0 : ((List.range 47).all (fun s => match jx_sK s with
    | 2 => (match (jx_classes.map (·.1))[jx_sP (jx_sE s)]? with
      | some C => decide (([(0, FieldType.int), (3, .object RX2), (4, .object RX0), (5, .object RX7), (22, .object RX3)] : List (Nat × FieldType))[jy_rt s]? = some (s, .object C)) && lw_tbl.elem (.arrayOver (.object C))
      | none => false)
    | _ => true)) = true := by decide +kernel
theorem jy_tys {E : jx_E} {s j : Nat} (h : j < jx_sC s) (hk : jx_sK s = 2) : ∃ q : vw_C, jx_classes[jx_sP (jx_sE s)]? = some q ∧ (jx_tys E)[jy_rt s]? = some (E.2.2.2.2 s, .object q.1) ∧ Jvm.Cond.arrayOver (.object q.1) ∈ lw_tbl := by
  have h1 := List.all_eq_true.mp jy_rt0 s (List.mem_range.mpr (jy_srt h))
  rw [hk] at h1
  cases hq : jx_classes[jx_sP (jx_sE s)]? with
  | none => rw [List.getElem?_map, hq] at h1; cases h1
  | some q =>
    rw [List.getElem?_map, hq] at h1
    obtain ⟨a, b⟩ := ji_and h1
    refine ⟨q, rfl, ?_, List.elem_iff.mp b⟩
    have a := of_decide_eq_true a
    have hr : jy_rt s < 5 := (List.getElem?_eq_some_iff.mp a).1
    match jy_rt s, hr, a with
    | 0, _, a => simp at a
    | 1, _, a => simp at a; obtain ⟨rfl, e⟩ := a; simp [jx_tys, ← e]
    | 2, _, a => simp at a; obtain ⟨rfl, e⟩ := a; simp [jx_tys, ← e]
    | 3, _, a => simp at a; obtain ⟨rfl, e⟩ := a; simp [jx_tys, ← e]
    | 4, _, a => simp at a; obtain ⟨rfl, e⟩ := a; simp [jx_tys, ← e]
    | n + 5, hr, _ => omega
-- the world's cells
theorem jw_at {E : jx_E} {ph : Bool} {n : Nat} {m : jx_M} {H : Heap} (h : jx_Wd E ph n m H) {s j : Nat} (hj : j < jx_sC s) (hn : jx_pos s j < n) : va_at E.2.2.1 jx_classes (E.1 + jx_pos s j, jx_ce E ph m s j) H := by
  have h1 := h.2.2 _ hn
  rw [(jy_pos hj).2] at h1
  exact h1
theorem jw_ce_up {E : jx_E} {ph : Bool} {m m' : jx_M} {s j s' j' : Nat} (h : ∀ k, m' s' j' k = m s' j' k) : jx_ce E ph m' s' j' = jx_ce E ph m s' j' := by
  unfold jx_ce
  have e : jx_fv E ph m' s' j' = jx_fv E ph m s' j' := by
    funext k
    unfold jx_fv
    simp only [h]
  split
  · rw [e]
  · simp only [h]
  · simp only [h]
/-- one cell is written: the others stay -/
theorem jw_set {E : jx_E} {ph : Bool} {n : Nat} {m m' : jx_M} {H H1 : Heap} (h : jx_Wd E ph n m H) {s j : Nat} (hj : j < jx_sC s) (hn : jx_pos s j < n) (hm : ∀ s' j' k, ¬ (s' = s ∧ j' = j) → m' s' j' k = m s' j' k)
    (he : va_at E.2.2.1 jx_classes (E.1 + jx_pos s j, jx_ce E ph m' s j) H1) (z : H1.size = H.size) (oq : ∀ q : Nat, q ≠ E.1 + jx_pos s j → H1[q]? = H[q]?) : jx_Wd E ph n m' H1 := by
  refine ⟨z.trans h.1, h.2.1, fun k hk => ?_⟩
  by_cases e : k = jx_pos s j
  · subst e
    rw [(jy_pos hj).2]
    exact he
  · rw [jw_ce_up (m := m) (s := s) (j := j) (fun i => hm _ _ i (fun q => e ?_))]
    · exact (h.2.2 k hk).kept (oq _ (by show E.1 + k ≠ _; omega))
    · have hk' := (jy_lay (Nat.lt_of_lt_of_le hk h.2.1)).1
      rw [q.1, q.2] at hk'
      exact hk'.symm
/-- a cell is made -/
theorem jw_push {E : jx_E} {ph : Bool} {n : Nat} {m m' : jx_M} {H H1 : Heap} (h : jx_Wd E ph n m H) (hn : n < 190) (hm : ∀ s' j' k, ¬ (s' = (jx_la n).1 ∧ j' = (jx_la n).2) → m' s' j' k = m s' j' k)
    (he : va_at E.2.2.1 jx_classes (E.1 + n, jx_ce E ph m' (jx_la n).1 (jx_la n).2) H1) (z : H1.size = E.1 + n + 1) (oq : ∀ q : Nat, q < E.1 + n → H1[q]? = H[q]?) : jx_Wd E ph (n + 1) m' H1 := by
  refine ⟨by omega, by omega, fun k hk => ?_⟩
  by_cases e : k = n
  · subst e
    exact he
  · rw [jw_ce_up (m := m) (s := (jx_la n).1) (j := (jx_la n).2) (fun i => hm _ _ i (fun q => e ?_))]
    · exact (h.2.2 k (by omega)).kept (oq _ (by show E.1 + k < _; omega))
    · have h1 := (jy_lay (show k < 190 by omega)).1
      have h2 := (jy_lay hn).1
      rw [q.1, q.2, h2] at h1
      exact h1.symm
theorem jw_F_put {E : jx_E} {s : State} {H H1 : Heap} {locs : List Loc} {a k : Nat} (h : jx_F E s H locs) (ha : E.1 ≤ a) (oq : ∀ q : Nat, q ≠ a → H1[q]? = H[q]?) : jx_F E s H1 (locs ++ [⟨a, k⟩]) := by
  refine ⟨h.1, fun q hq => (oq q (by omega)).trans (h.2.1 q hq), fun l hl => ?_⟩
  rcases List.mem_append.mp hl with h1 | h1
  · exact h.2.2 l h1
  · rw [List.mem_singleton.mp h1]; exact ha
-- locals
theorem jv_mem {E : jx_E} : ∀ (ls : jx_L) (o : Nat) (q : Nat × Value), q ∈ jx_lv E o ls ↔ ∃ k v, q = (o + k, jx_con E v) ∧ jx_nth ls k none = some v
  | [], o, q => by
    constructor
    · intro h; cases h
    · rintro ⟨k, v, -, h⟩
      cases k <;> cases h
  | some w :: ls, o, q => by
    have ih := jv_mem (E := E) ls (o + 1) q
    show q ∈ (o, jx_con E w) :: jx_lv E (o + 1) ls ↔ _
    rw [List.mem_cons, ih]
    constructor
    · rintro (h | ⟨k, v, h1, h2⟩)
      · exact ⟨0, w, h, rfl⟩
      · exact ⟨k + 1, v, by rw [h1]; congr 1; omega, h2⟩
    · rintro ⟨k, v, h1, h2⟩
      cases k with
      | zero => left; cases h2; exact h1
      | succ k => right; exact ⟨k, v, by rw [h1]; congr 1; omega, h2⟩
  | none :: ls, o, q => by
    have ih := jv_mem (E := E) ls (o + 1) q
    show q ∈ jx_lv E (o + 1) ls ↔ _
    rw [ih]
    constructor
    · rintro ⟨k, v, h1, h2⟩
      exact ⟨k + 1, v, by rw [h1]; congr 1; omega, h2⟩
    · rintro ⟨k, v, h1, h2⟩
      cases k with
      | zero => cases h2
      | succ k => exact ⟨k, v, by rw [h1]; congr 1; omega, h2⟩
theorem jv_at {E : jx_E} {lsr : Array Slot} {nL : Nat} {ls : jx_L} (h : lv_has lsr nL (jx_lv E 0 ls)) {a : Nat} {v : jx_V} (hv : jx_nth ls a none = some v) : lsr[a]? = some (.val (jx_con E v)) :=
  h.2.2 (a, jx_con E v) ((jv_mem ls 0 _).mpr ⟨a, v, by rw [Nat.zero_add], hv⟩)
theorem jv_sub {lsr : Array Slot} {nL : Nat} {l l' : List (Nat × Value)} (h : lv_has lsr nL l) (hs : ∀ q ∈ l', q ∈ l) : lv_has lsr nL l' := ⟨h.1, h.2.1, fun q hq => h.2.2 q (hs q hq)⟩
theorem jv_cat (E : jx_E) (v : jx_V) : (jx_con E v).category = jx_cat v := by
  rcases v with z | z | z <;> rfl
theorem jv_set {E : jx_E} {lsr : Array Slot} {nL : Nat} {ls : jx_L} {a : Nat} {v : jx_V} (ha : a < ls.length) (hcl : ∀ b z, b + 1 = a → jx_nth ls b none ≠ some (xL z))
    (h : lv_has lsr nL ((a, jx_con E v) :: (jx_lv E 0 ls).filter (fun q => !(q.1 == a) && !(q.1 + 1 == a && q.2.category == 2)))) : lv_has lsr nL (jx_lv E 0 (ls.set a (some v))) := by
  refine jv_sub h (fun q hq => ?_)
  obtain ⟨k, w, rfl, h2⟩ := (jv_mem _ 0 q).mp hq
  rw [jl_nth_set none (some v) ls a k ha] at h2
  rw [Nat.zero_add]
  by_cases e : k = a
  · rw [if_pos e] at h2
    cases h2
    subst e
    exact List.mem_cons_self
  · rw [if_neg e] at h2
    refine List.mem_cons_of_mem _ (List.mem_filter.mpr ⟨(jv_mem ls 0 _).mpr ⟨k, w, by rw [Nat.zero_add], h2⟩, ?_⟩)
    simp only [jv_cat]
    have h3 : ¬ (k + 1 = a ∧ jx_cat w = 2) := fun ⟨q1, q2⟩ => by
      rcases w with z | z | z
      · cases q2
      · exact hcl k z q1 h2
      · cases q2
    simp only [Bool.and_eq_true, Bool.not_eq_true', beq_eq_false_iff_ne, ne_eq, Bool.and_eq_false_iff]
    refine ⟨e, ?_⟩
    by_cases h4 : k + 1 = a
    · right; exact fun q => h3 ⟨h4, q⟩
    · left; exact h4
theorem jv_cats (E : jx_E) : ∀ st : List jx_V, ((st.map (jx_con E)).map fun v => v.category).sum = jx_cats st
  | [] => rfl
  | v :: st => by
    simp only [List.map_cons, List.sum_cons, jv_cat, jx_cats]
    rw [jv_cats E st]
