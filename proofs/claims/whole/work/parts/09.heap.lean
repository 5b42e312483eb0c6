/-! instructions that touch the heap -/
section
variable {E : jx_E} {ph : Bool} {xs : Nat → Int} {L : Int} {p : Program} {l : Launch} {e : Env} {R : Room} {s : State} {mm : MethodId} {args : Array Value} {below : List Frame} {meth : Method} {c : Code} {Q : State → Prop} {n0 x : Nat}
variable {H : Heap} {locs : List Loc} {cells slots pc : Nat} {lsr : Array Slot} {rest : List Value} {cc : ByteArray}
/-- a field is written; what else is in the heap is told -/
theorem jp_put (hexec : p.tables.exec = Jvm.exec) (hb : c.code = cc) (hts : ∀ w ∈ jx_gw, w.before args s = true) {own : String} (hown : s.vm.findClass own = some mm.cls) (hG : jx_G E s) {ci a k index : Nat} {q : vw_C} {fs : List Value} (hat : va_at E.2.2.1 jx_classes (a, .inr (ci, fs)) H) (hc : jx_classes[ci]? = some q) (hk : k < q.2.2) (hlink : (Jvm.Cond.fieldLink own index (q.2.1 k).1 (q.2.1 k).2.1 (q.2.1 k).2.2.1).before args s = true) (hfin : (q.2.1 k).2.2.2 = false) {v : Value} (hn : narrow (jy_ty ci k) v = v) (hfit : fits (jy_ty ci k) v = true) (hl : k < fs.length)
    (hdg : decode cc pc = .ok (.putfield index, 3)) (kk : ∀ (H1 : Heap) (i : Nat), va_at E.2.2.1 jx_classes (a, .inr (ci, fs.set k v)) H1 → H1.size = H.size → (∀ y : Nat, y ≠ a → H1[y]? = H[y]?) → W p l e R s mm args below meth c H1 (locs ++ [⟨a, i⟩]) cells slots Q (F0 mm (pc + 3) lsr rest)) : W p l e R s mm args below meth c H locs cells slots Q (F0 mm pc lsr (v :: .ref a :: rest)) := by
  obtain ⟨hin, hty, hnm, -⟩ := jy_cls hc
  obtain ⟨C0, T0, N0⟩ := q
  have hap := va_apart (own := own) hts hin (jy_ty ci) hty hnm hG.1 hc
  obtain ⟨r, h1, cell, q1, q2, q3, q4⟩ := hat
  have hr : r = (C0, T0, N0) := Option.some.inj (h1.symm.trans hc)
  subst hr
  obtain ⟨hS, hfc, kC, hkC, hkind⟩ := hG.1.1 ci _ hc
  obtain ⟨cf, kf, fi, f, hi, hsl⟩ := hS k hk
  have hlay := hts _ (hin _ (u_in_lay hk))
  unfold u_lay at hlay
  rw [if_neg (by rw [hfin]; decide)] at hlay
  have hst := (u_facts hfc hkC (u_lays hts hin hk) hi).1
  have h6 := u_store hfc hkC hkind hlay hi (hty k hk) hn hfit
  refine W.putK hexec hb (f := f) ⟨hown, hlink, ⟨_, _, _, hi⟩, hst⟩ (by rw [q2]; exact h6) q1 q3 (by rw [hsl]; exact k2_hasslot (q4 k hk)) rfl rfl hdg fun H' e1 e2 e3 => ?_
  rw [hsl] at e1
  exact kk H' _ ⟨_, hc, t_OB.to (V := updV (vp_V fs) k v) ⟨_, e1, q2, q3, t_set q4 hap hk v⟩ (fun j _ => vp_updV_set hl v j)⟩ e2 e3
theorem jp_putF (hexec : p.tables.exec = Jvm.exec) (hb : c.code = cc) (hts : ∀ w ∈ jx_gw, w.before args s = true) {own : String} (hown : s.vm.findClass own = some mm.cls) (hG : jx_G E s) {ci a k index : Nat} {q : vw_C} {fs : List Value} (hat : va_at E.2.2.1 jx_classes (a, .inr (ci, fs)) H) (hc : jx_classes[ci]? = some q) (hk : k < q.2.2) (hlink : (Jvm.Cond.fieldLink own index (q.2.1 k).1 (q.2.1 k).2.1 (q.2.1 k).2.2.1).before args s = true) (hfin : (q.2.1 k).2.2.2 = true) (hin2 : meth.name = "<init>") (hdecl : (q.2.1 k).1 = own) {v : Value} (hn : narrow (jy_ty ci k) v = v) (hfit : fits (jy_ty ci k) v = true) (hl : k < fs.length)
    (hdg : decode cc pc = .ok (.putfield index, 3)) (kk : ∀ (H1 : Heap) (i : Nat), va_at E.2.2.1 jx_classes (a, .inr (ci, fs.set k v)) H1 → H1.size = H.size → (∀ y : Nat, y ≠ a → H1[y]? = H[y]?) → W p l e R s mm args below meth c H1 (locs ++ [⟨a, i⟩]) cells slots Q (F0 mm (pc + 3) lsr rest)) : W p l e R s mm args below meth c H locs cells slots Q (F0 mm pc lsr (v :: .ref a :: rest)) := by
  obtain ⟨hin, hty, hnm, -⟩ := jy_cls hc
  obtain ⟨C0, T0, N0⟩ := q
  have hap := va_apart (own := own) hts hin (jy_ty ci) hty hnm hG.1 hc
  obtain ⟨r, h1, cell, q1, q2, q3, q4⟩ := hat
  have hr : r = (C0, T0, N0) := Option.some.inj (h1.symm.trans hc)
  subst hr
  obtain ⟨hS, hfc, kC, hkC, hkind⟩ := hG.1.1 ci _ hc
  obtain ⟨cf, kf, fi, f, hi, hsl⟩ := hS k hk
  have hlay := hts _ (hin _ (u_in_lay hk))
  unfold u_lay at hlay
  rw [if_pos hfin] at hlay
  have hst := (u_facts hfc hkC (u_lays hts hin hk) hi).1
  have hcf : mm.cls = cf := by
    obtain ⟨_, _, c', _, _, _, -, -, hf', -, -, -, hown2, -⟩ := Cond.laysFinal_spec hlay
    have e1 : c' = cf := by have := hi.symm.trans hf'; simp at this; exact this.1.symm
    have hdecl : (T0 k).1 = own := hdecl
    rw [hdecl] at hown2
    rw [← e1]; exact Option.some.inj (hown.symm.trans hown2)
  have h6 := u_fits hfc hkC hkind (Or.inr hlay) hi (hty k hk) hn hfit
  refine W.putFinK hexec hb hown hlink hi hst hcf hin2 (by rw [q2]; exact h6) q1 q3 (by rw [hsl]; exact k2_hasslot (q4 k hk)) rfl rfl hdg fun H' e1 e2 e3 => ?_
  rw [hsl] at e1
  exact kk H' _ ⟨_, hc, t_OB.to (V := updV (vp_V fs) k v) ⟨_, e1, q2, q3, t_set q4 hap hk v⟩ (fun j _ => vp_updV_set hl v j)⟩ e2 e3
/-- an int is written into an array -/
theorem jp_ias (hexec : p.tables.exec = Jvm.exec) (hb : c.code = cc) (hG : jx_G E s) {a n : Nat} {f : Nat → Int32} (hat : va_at E.2.2.1 jx_classes (a, .inl (E.2.2.2.1, n, .inl f)) H) {i v : Int32} (hin : vp_in i n) (hdg : decode cc pc = .ok (.iastore, 1))
    (kk : ∀ (H1 : Heap) (y : Nat), va_at E.2.2.1 jx_classes (a, .inl (E.2.2.2.1, n, .inl (upd f i.toNatClampNeg v))) H1 → H1.size = H.size → (∀ y : Nat, y ≠ a → H1[y]? = H[y]?) → W p l e R s mm args below meth c H1 (locs ++ [⟨a, y⟩]) cells slots Q (F0 mm (pc + 1) lsr rest)) : W p l e R s mm args below meth c H locs cells slots Q (F0 mm pc lsr (.int v :: .int i :: .ref a :: rest)) := by
  have hat : H[a]? = some (vp_cell E.2.2.2.1 (n, .inl f)) := hat
  refine W.iast hexec hb hat ((hG.1.2 0 _ rfl).1 n (fun j => .int (f j))) (fun q => by cases q) (by show ¬ (i < 0 ∨ (arrV _ _ _).slots.size ≤ _); rw [arrV_size]; exact hin) rfl rfl hdg fun H1 e1 z oq => ?_
  refine kk H1 _ ?_ z oq
  show H1[a]? = some (vp_cell _ _)
  rw [e1]
  rw [vp_cell_i, vp_cell_i, arrV_store]
  congr 2
  funext q
  by_cases hq : q = i.toNatClampNeg
  · subst hq
    simp [updV, upd]
  · simp [updV, upd, hq]
theorem jp_aas (hexec : p.tables.exec = Jvm.exec) (hb : c.code = cc) (hG : jx_G E s) {a v n ci t0 : Nat} {cA : ClassId} {q : vw_C} {vs : List Value} {f : Nat → Option Nat} (hat : va_at E.2.2.1 jx_classes (a, .inl (cA, n, .inr (.inr (.inr (.inr f))))) H) (ht : (jx_tys E)[t0]? = some (cA, .object q.1)) (hv : va_at E.2.2.1 jx_classes (v, .inr (ci, vs)) H) (hc : jx_classes[ci]? = some q) {i : Int32} (hin : vp_in i n) (hdg : decode cc pc = .ok (.aastore, 1))
    (kk : ∀ (H1 : Heap) (y : Nat), va_at E.2.2.1 jx_classes (a, .inl (cA, n, .inr (.inr (.inr (.inr (va_up f i.toNatClampNeg (some v))))))) H1 → H1.size = H.size → (∀ y : Nat, y ≠ a → H1[y]? = H[y]?) → W p l e R s mm args below meth c H1 (locs ++ [⟨a, y⟩]) cells slots Q (F0 mm (pc + 1) lsr rest)) : W p l e R s mm args below meth c H locs cells slots Q (F0 mm pc lsr (.ref v :: .int i :: .ref a :: rest)) := by
  have hat : H[a]? = some (vp_cell cA (n, .inr (.inr (.inr (.inr f))))) := hat
  have hlt : i.toNatClampNeg < n := Nat.not_le.mp fun q => hin (Or.inr q)
  have h0 : ¬ i < 0 := fun q => hin (Or.inl q)
  obtain ⟨r', hr', cellV, g1, g2, g3, -⟩ := hv
  have hcls := (hG.1.1 ci q hc).2
  obtain ⟨kA, comp, k1, k2, k3, -⟩ := (hG.1.2 t0 _ ht).2
  have hcomp : comp = E.2.2.1.1 ci := Option.some.inj (k3.symm.trans hcls.1)
  subst hcomp
  obtain ⟨kC, hkC, -⟩ := hcls.2
  refine W.aast hexec hb hat (fun q h => by cases h) (fun h => by cases h) k1 k2 rfl hkC ⟨h0, by show _ < (arrV _ _ _).slots.size; rw [arrV_size]; exact hlt⟩ g1 (fun q h => by rw [g3] at h; cases h) (by rw [g2]; exact hkC) (by rw [g2]; exact va_assign hcls) rfl rfl hdg fun H1 e1 z oq => ?_
  refine kk H1 _ ?_ z oq
  show H1[a]? = some (vp_cell _ _)
  rw [e1]
  rw [vp_cell_q, vp_cell_q, arrV_store]
  congr 2
  funext q
  by_cases hq : q = i.toNatClampNeg
  · subst hq
    simp [updV, va_up, va_rf]
  · simp [updV, va_up, hq]
theorem jp_one {a : Nat} {w : va_E} (h : va_at E.2.2.1 jx_classes (a, w) H) : va_P E.2.2.1 jx_classes [(a, w)] H := by
  intro k q hk
  cases k with
  | zero => cases hk; exact h
  | succ k => simp at hk
/-- System.arraycopy of ints -/
theorem jp_copy (hexec : p.tables.exec = Jvm.exec) (hb : c.code = cc) (hml : c.maxLocals = lsr.size) {own : String} {index : Nat} (hown : s.vm.findClass own = some mm.cls) (hlink : (Jvm.Cond.methodLink own index arraycopyName).before args s = true) (hnat : (Jvm.Cond.native arraycopyName).before args s = true) (hstat : (Jvm.Cond.static arraycopyName).before args s = true) (hini : (Jvm.Cond.initialized "java/lang/System").before args s = true)
    (hG : jx_G E s) {a0 a n0 n1 : Nat} {f g : Nat → Int32} (h0 : va_at E.2.2.1 jx_classes (a0, .inl (E.2.2.2.1, n0, .inl f)) H) (ha : va_at E.2.2.1 jx_classes (a, .inl (E.2.2.2.1, n1, .inl g)) H) {sp dp n : Int32} (h1 : ¬ sp < 0) (h2 : ¬ dp < 0) (h3 : ¬ n < 0) (h4 : sp.toNatClampNeg + n.toNatClampNeg ≤ n0) (h5 : dp.toNatClampNeg + n.toNatClampNeg ≤ n1)
    (hframes : 1 ≤ R.frames) (hlocals : (rest.map fun v => v.category).sum + (nativeFrameWords "java/lang/System" "arraycopy" 5 + 11) ≤ R.locals) (hdg : decode cc pc = .ok (.invokestatic index, 3))
    (kk : ∀ (H1 : Heap) (ls1 : List Loc), va_at E.2.2.1 jx_classes (a, .inl (E.2.2.2.1, n1, .inl (va_cpy f g sp.toNatClampNeg dp.toNatClampNeg n.toNatClampNeg))) H1 → H1.size = H.size → (∀ y : Nat, y ≠ a → H1[y]? = H[y]?) → (∀ q ∈ ls1, q ∈ locs ∨ q.base = a) → W p l e R s mm args below meth c H1 ls1 cells slots Q (F0 mm (pc + 3) lsr rest)) : W p l e R s mm args below meth c H locs cells slots Q (F0 mm pc lsr (.int n :: .int dp :: .ref a :: .int sp :: .ref a0 :: rest)) := by
  have nn : ∀ z : Int32, ¬ z < 0 → z.toInt = (z.toNatClampNeg : Int) := by
    intro z hz
    have hz0 : (0 : Int) ≤ z.toInt := by
      have := Int32.not_lt.mp hz
      simpa using Int32.le_iff_toInt_le.mp this
    show z.toInt = ((z.toInt.toNat : Nat) : Int)
    omega
  intro T hT X
  have hc0 : H[a0]? = some (vp_cell E.2.2.2.1 (n0, .inl f)) := h0
  have hc1 : H[a]? = some (vp_cell E.2.2.2.1 (n1, .inl g)) := ha
  obtain ⟨-, k0, hk0, cm0, hkk0⟩ := (hG.1.2 0 _ rfl).1 n0 (fun j => .int (f j))
  obtain ⟨-, k1, hk1, cm1, hkk1⟩ := (hG.1.2 0 _ rfl).1 n1 (fun j => .int (g j))
  obtain ⟨vm', X', step⟩ := X.arraycopy hexec hown hlink hnat hstat hini (src := a0) (dst := a) (cs := vp_cell E.2.2.2.1 (n0, .inl f)) (cd := vp_cell E.2.2.2.1 (n1, .inl g)) (srcPos := sp) (destPos := dp) (n := n) (by rw [hT]; exact hc0) (by rw [hT]; exact hc1)
    (fun _ h => by cases h) (fun _ h => by cases h) (fun h => by cases h) (fun h => by cases h) hk0 hk1 hkk0 hkk1 (by simp) h1 h2 h3
    (by rw [nn sp h1, nn n h3]; show ¬ _ > ((arrV E.2.2.2.1 n0 (fun j => .int (f j))).slots.size : Int); rw [arrV_size]; omega)
    (by rw [nn dp h2, nn n h3]; show ¬ _ > ((arrV E.2.2.2.1 n1 (fun j => .int (g j))).slots.size : Int); rw [arrV_size]; omega)
    (fun vm₁ _ i hi => by
      have e0 : (vp_cell E.2.2.2.1 (n0, .inl f)).slots.getD (sp.toNatClampNeg + i) .null = .int (f (sp.toNatClampNeg + i)) := by
        show (arrV E.2.2.2.1 n0 (fun j => .int (f j))).slots.getD _ _ = _
        rw [Array.getD_eq_getD_getElem?, arrV_read _ _ (by omega)]
        rfl
      refine ⟨?_, ?_⟩
      · rw [e0]
        rfl
      · rw [e0]
        exact trivial)
    (g := F0 mm pc lsr (.int n :: .int dp :: .ref a :: .int sp :: .ref a0 :: rest)) rfl (by rw [hml]) (rest := rest) rfl (by rw [hb]; exact hdg) hframes (by show 2 * 0 + _ + _ ≤ _; omega)
  have e1 : copied (vp_cell E.2.2.2.1 (n0, .inl f)) (vp_cell E.2.2.2.1 (n1, .inl g)) sp dp n = vp_cell E.2.2.2.1 (n1, .inl (va_cpy f g sp.toNatClampNeg dp.toNatClampNeg n.toNatClampNeg)) := va_copied (fun z => .int z) E.2.2.2.1 E.2.2.2.1 f g h4
  rw [e1] at X' step
  have hl : a < H.size := (Array.getElem?_eq_some_iff.mp hc1).1
  have hheap : ((T.setVm vm').setCell a (vp_cell E.2.2.2.1 (n1, .inl (va_cpy f g sp.toNatClampNeg dp.toNatClampNeg n.toNatClampNeg)))).heap = H.setIfInBounds a (vp_cell E.2.2.2.1 (n1, .inl (va_cpy f g sp.toNatClampNeg dp.toNatClampNeg n.toNatClampNeg))) := by rw [← hT]; rfl
  obtain ⟨t, a1, b1⟩ := kk _ _ (show (H.setIfInBounds a _)[a]? = some _ by simp [Array.getElem?_setIfInBounds, hl]) (by simp) (fun q hq => by simp [Array.getElem?_setIfInBounds, Ne.symm hq]) (fun q hq => by
      rcases List.mem_append.mp hq with h | h
      · exact Or.inl h
      · obtain ⟨z, -, hz⟩ := List.mem_map.mp h
        exact Or.inr (by rw [← hz])) _ hheap X'
  exact ⟨t, step t a1, b1⟩
end
section
variable {E : jx_E} {ph : Bool} {xs : Nat → Int} {L : Int} {p : Program} {l : Launch} {e : Env} {R : Room} {s : State} {mm : MethodId} {args : Array Value} {below : List Frame} {meth : Method} {c : Code} {Q : State → Prop} {n0 x : Nat}
theorem jw_alive {i : Nat} {ls : jx_L} {st : List jx_V} {n : Nat} {m : jx_M} (hwf : jx_wf ph xs L x (i, ls, st, n, m)) {s0 j0 : Nat} (hj : j0 < jx_sC s0) (hn : ph = false → jx_pos s0 j0 < n) : jx_pos s0 j0 < n := by
  cases ph
  · exact hn rfl
  · have e : n = 190 := hwf.2.2.2.2.1 rfl
    rw [e]
    exact (jy_pos hj).1
theorem jw_fv {m m' : jx_M} {s0 j0 k : Nat} (h : m' s0 j0 k = m s0 j0 k) : jx_fv E ph m' s0 j0 k = jx_fv E ph m s0 j0 k := by
  unfold jx_fv
  simp only [h]
theorem jw_fset {m m' : jx_M} {s0 j0 k N : Nat} {v : Value} (h : ∀ i, i ≠ k → m' s0 j0 i = m s0 j0 i) (hv : jx_fv E ph m' s0 j0 k = v) : (List.range N).map (jx_fv E ph m' s0 j0) = ((List.range N).map (jx_fv E ph m s0 j0)).set k v := by
  apply List.ext_getElem?
  intro i
  rw [List.getElem?_set]
  by_cases e1 : k = i
  · subst e1
    rw [if_pos rfl]
    by_cases hl : k < N
    · simp [hl, hv]
    · simp [hl]
  · rw [if_neg e1, List.getElem?_map, List.getElem?_map]
    cases hr : (List.range N)[i]? with
    | none => rfl
    | some q =>
      obtain ⟨hl, hq⟩ := List.getElem?_eq_some_iff.mp hr
      rw [List.getElem_range] at hq
      subst hq
      show some _ = some _
      rw [jw_fv (h i (fun z => e1 z.symm))]
theorem jw_ce0 {m : jx_M} {s0 j0 : Nat} (h : jx_sK s0 = 0) : jx_ce E ph m s0 j0 = .inr (jx_sP s0, (List.range (jx_nf s0)).map (jx_fv E ph m s0 j0)) := by
  unfold jx_ce
  rw [h]
  rfl
theorem jw_ce1 {m : jx_M} {s0 j0 : Nat} (h : jx_sK s0 = 1) : jx_ce E ph m s0 j0 = .inl (E.2.2.2.1, jx_sP s0, .inl (fun k => Int32.ofInt (m s0 j0 k))) := by
  unfold jx_ce
  rw [h]
  rfl
theorem jw_ce2 {m : jx_M} {s0 j0 : Nat} (h : jx_sK s0 = 2) : jx_ce E ph m s0 j0 = .inl (E.2.2.2.2 s0, jx_sP s0, .inr (.inr (.inr (.inr (fun k => if ph = true ∨ m s0 j0 k = 1 then some (E.1 + jx_pos (jx_sE s0) (jx_el s0 j0 k)) else none))))) := by
  unfold jx_ce
  rw [h]
  rfl
/-- memory is written: what the script is stays, numbers stay small -/
theorem jw_M {m m' : jx_M} (h : jx_wM xs L m) {s0 j0 : Nat} (hj : j0 < jx_sC s0) (hm : ∀ s' j' k, ¬ (s' = s0 ∧ j' = j0) → m' s' j' k = m s' j' k) (hr : ∀ k, jx_in (m' s0 j0 k)) : jx_wM xs L m' := by
  have hne := jy_ne60 hj
  refine ⟨fun a b k => ?_, fun k => ?_, ?_⟩
  · by_cases e1 : a = s0 ∧ b = j0
    · rw [e1.1, e1.2]; exact hr k
    · rw [hm a b k e1]; exact h.1 a b k
  · rw [hm 60 0 k (fun q => hne.2.1 q.1.symm)]; exact h.2.1 k
  · rw [hm 61 0 0 (fun q => hne.2.2 q.1.symm)]; exact h.2.2
theorem jw_up_ne {m : jx_M} {s0 j0 k : Nat} {v : Int} : ∀ s' j' i, ¬ (s' = s0 ∧ j' = j0) → jx_up m s0 j0 k v s' j' i = m s' j' i := by
  intro s' j' i h
  unfold jx_up
  rw [if_neg (fun q => h ⟨q.1, q.2.1⟩)]
theorem jw_up_self {m : jx_M} {s0 j0 k : Nat} {v : Int} : jx_up m s0 j0 k v s0 j0 k = v := by
  unfold jx_up
  rw [if_pos ⟨rfl, rfl, rfl⟩]
theorem jw_up_oth {m : jx_M} {s0 j0 k i : Nat} {v : Int} (h : i ≠ k) : jx_up m s0 j0 k v s0 j0 i = m s0 j0 i := by
  unfold jx_up
  rw [if_neg (fun q => h q.2.2)]
theorem jw_up_in {m : jx_M} {s0 j0 k : Nat} {v : Int} (h : ∀ a b k, jx_in (m a b k)) (hv : jx_in v) (i : Nat) : jx_in (jx_up m s0 j0 k v s0 j0 i) := by
  by_cases e1 : i = k
  · rw [e1, jw_up_self]; exact hv
  · rw [jw_up_oth e1]; exact h _ _ _
/-- a step that writes one cell -/
theorem jk_mem {i : Nat} {ls : jx_L} {st st' : List jx_V} {n : Nat} {m m' : jx_M} (hwf : jx_wf ph xs L x (i, ls, st, n, m)) (hst : ∀ v ∈ st', jx_wV v) {s0 j0 : Nat} (hj : j0 < jx_sC s0) (hn : jx_pos s0 j0 < n) (hm : ∀ s' j' k, ¬ (s' = s0 ∧ j' = j0) → m' s' j' k = m s' j' k) (hr : ∀ k, jx_in (m' s0 j0 k)) {pc' : Nat} (hpc : jx_pc x (i + 1) = pc')
    (hw : jx_C E ph xs L p R s mm args meth c x → ∀ (H : Heap) (locs : List Loc) (lsr : Array Slot), jx_Wd E ph n m H → jx_F E s H locs → lv_has lsr (jx_mL x) (jx_lv E 0 ls) → (∀ (H1 : Heap) (ls1 : List Loc), va_at E.2.2.1 jx_classes (E.1 + jx_pos s0 j0, jx_ce E ph m' s0 j0) H1 → H1.size = H.size → (∀ q : Nat, q ≠ E.1 + jx_pos s0 j0 → H1[q]? = H[q]?) → (∀ q ∈ ls1, q ∈ locs ∨ q.base = E.1 + jx_pos s0 j0) → W p l e R s mm args below meth c H1 ls1 (n - n0) (jx_SL n - jx_SL n0) Q (F0 mm pc' lsr (st'.map (jx_con E)))) → W p l e R s mm args below meth c H locs (n - n0) (jx_SL n - jx_SL n0) Q (F0 mm (jx_pc x i) lsr (st.map (jx_con E)))) :
    jx_K E ph xs L p l e R s mm args below meth c Q n0 x (i, ls, st, n, m) (i + 1, ls, st', n, m') := by
  refine ⟨⟨hwf.1, hwf.2.1, hst, jw_M hwf.2.2.2.1 hj hm hr, hwf.2.2.2.2⟩, Nat.le_refl _, fun C _ hc hs k H locs lsr h1 h2 h3 => hw C H locs lsr h1 h2 h3 (fun H1 ls1 a1 a2 a3 a4 => ?_)⟩
  have q := k H1 ls1 lsr (jw_set h1 hj hn hm a1 a2 a3) ⟨h2.1, fun y hy => (a3 y (by omega)).trans (h2.2.1 y hy), fun y hy => by
    rcases a4 y hy with z | z
    · exact h2.2.2 y z
    · rw [z]; omega⟩ h3
  rw [← hpc]; exact q
theorem jl_loc {locs : List Loc} {a k : Nat} : ∀ q ∈ locs ++ [(⟨a, k⟩ : Loc)], q ∈ locs ∨ q.base = a := by
  intro q hq
  rcases List.mem_append.mp hq with h | h
  · exact Or.inl h
  · right; rw [List.mem_singleton.mp h]
theorem jy_fok1 {s0 j0 k : Nat} {q : vw_C} (hj : j0 < jx_sC s0) (hk : jx_sK s0 = 0) (hc : jx_classes[jx_sP s0]? = some q) (hs : k < q.2.2) : jy_fok (jx_sP s0) k = true ∧ k < jx_nf s0 := by
  have h0 : k < jx_nf s0 := by unfold jx_nf; rw [jy_nf hc]; exact hs
  exact ⟨List.all_eq_true.mp (List.all_eq_true.mp jy_fok0 (jx_sP s0) (List.mem_range.mpr (jy_obj hj hk).1)) k (List.mem_range.mpr h0), h0⟩
theorem jy_clsA {b a z k : Nat} {ow : String} {X : u_T → Bool} (h : (match jx_classes[b]? with
      | some (C, T, n) => Nat.blt a n && (jx_at z (.fieldLink ow k (T a).1 (T a).2.1 (T a).2.2.1) && X T)
      | none => false) = true) : ∃ q : vw_C, jx_classes[b]? = some q ∧ a < q.2.2 ∧ jx_at z (.fieldLink ow k (q.2.1 a).1 (q.2.1 a).2.1 (q.2.1 a).2.2.1) = true ∧ X q.2.1 = true := by
  cases hc : jx_classes[b]? with
  | none => rw [hc] at h; cases h
  | some q =>
    rw [hc] at h
    obtain ⟨C0, T0, N0⟩ := q
    obtain ⟨h1, h2⟩ := ji_and h
    obtain ⟨h2, h3⟩ := ji_and h2
    exact ⟨_, rfl, Nat.le_of_ble_eq_true h1, h2, h3⟩
theorem jy_clsB {b a z k : Nat} {ow : String} (h : (match jx_classes[b]? with
      | some (C, T, n) => Nat.blt a n && (jx_at z (.fieldLink ow k (T a).1 (T a).2.1 (T a).2.2.1))
      | none => false) = true) : ∃ q : vw_C, jx_classes[b]? = some q ∧ a < q.2.2 ∧ jx_at z (.fieldLink ow k (q.2.1 a).1 (q.2.1 a).2.1 (q.2.1 a).2.2.1) = true := by
  cases hc : jx_classes[b]? with
  | none => rw [hc] at h; cases h
  | some q =>
    rw [hc] at h
    obtain ⟨C0, T0, N0⟩ := q
    obtain ⟨h1, h2⟩ := ji_and h
    exact ⟨_, rfl, Nat.le_of_ble_eq_true h1, h2⟩
theorem jy_fget {m : jx_M} {s0 j0 k : Nat} (h : k < jx_nf s0) : ((List.range (jx_nf s0)).map (jx_fv E ph m s0 j0))[k]? = some (jx_fv E ph m s0 j0 k) := by
  rw [List.getElem?_map, List.getElem?_range h]
  rfl
set_option maxHeartbeats 1000000 in
theorem jo_getfield {i : Nat} {ls : jx_L} {st : List jx_V} {n : Nat} {m : jx_M} (hok : jx_okR x i = true) (hwf : jx_wf ph xs L x (i, ls, st, n, m)) {t' : jx_S} {k0 : Nat} (ho : (jx_row x i).1 = .getfield k0) (h : jx_step ph (jx_row x i) (i, ls, st, n, m) = some (.inl t')) : jx_K E ph xs L p l e R s mm args below meth c Q n0 x (i, ls, st, n, m) t' := by
  have hS := hwf.2.2.1
  have hA := (ji_and hok).2
  have hd := jk_dec hok ho rfl
  unfold jx_okA at hA
  unfold jx_step jx_sem at h
  simp only [ho] at hA h
  obtain ⟨hA, hpc⟩ := ji_and hA
  have hpc := ji_beq hpc
  obtain ⟨s0, j0, st1, e9, h9⟩ := ji_pA h
  clear h
  subst e9
  have h := h9
  clear h9
  obtain ⟨hk, h9⟩ := ji_bif h
  clear h
  have h := h9
  clear h9
  obtain ⟨hk, hk2⟩ := ji_and hk
  have hk := ji_beq hk
  have hk2 := ji_beq hk2
  obtain ⟨hj, hn, h9⟩ := ji_gA h
  clear h
  have h := h9
  clear h9
  have hn2 := jw_alive hwf hj hn
  clear hn
  have hn := hn2
  clear hn2
  obtain ⟨q, hc, hsl, hlk⟩ := jy_clsB hA
  rw [← hk2] at hc
  obtain ⟨hf, hfn⟩ := jy_fok1 hj hk hc hsl
  obtain ⟨hw, hS⟩ := jw_cons hS
  split at h
  · rename_i hft
    cases h
    refine jk_ok hwf (jw_mk (hwf.2.2.2.1.1 _ _ _) hS) hpc (fun ⟨hx, hb, hml, hown, hts, hnm, hG, hfr, hlo, hx9, hX⟩ H locs lsr _ _ h1 h2 h3 k => ?_)
    have hat := jw_at h1 hj hn
    rw [jw_ce0 hk] at hat
    show W p l e R s mm args below meth c H locs _ _ Q (F0 mm (jx_pc x i) lsr (.ref (jx_ad E s0 j0) :: st1.map (jx_con E)))
    rw [jy_ad hj]
    obtain ⟨C0, T0, N0⟩ := q
    refine va_get (D := E.2.2.1) (cl := jx_classes) (tys := jx_tys E) hx hb hts (jy_cls hc).1 hown hG.1 (jp_one hat) 0 rfl hc (jx_row x i).2.1 hsl (hts _ (jx_at_mem hlk)) (fun _ h9 => h9) (jy_fget hfn) hd ?_
    have ev : jx_fv E ph m s0 j0 (jx_row x i).2.1 = jx_con E (xI (m s0 j0 (jx_row x i).2.1)) := by
      unfold jx_fv; rw [hft]; rfl
    rw [ev]
    exact k
  · rename_i hft
    cases h
    refine jk_ok hwf (jw_mk (hwf.2.2.2.1.1 _ _ _) hS) hpc (fun ⟨hx, hb, hml, hown, hts, hnm, hG, hfr, hlo, hx9, hX⟩ H locs lsr _ _ h1 h2 h3 k => ?_)
    have hat := jw_at h1 hj hn
    rw [jw_ce0 hk] at hat
    show W p l e R s mm args below meth c H locs _ _ Q (F0 mm (jx_pc x i) lsr (.ref (jx_ad E s0 j0) :: st1.map (jx_con E)))
    rw [jy_ad hj]
    obtain ⟨C0, T0, N0⟩ := q
    refine va_get (D := E.2.2.1) (cl := jx_classes) (tys := jx_tys E) hx hb hts (jy_cls hc).1 hown hG.1 (jp_one hat) 0 rfl hc (jx_row x i).2.1 hsl (hts _ (jx_at_mem hlk)) (fun _ h9 => h9) (jy_fget hfn) hd ?_
    have ev : jx_fv E ph m s0 j0 (jx_row x i).2.1 = jx_con E (xI (m s0 j0 (jx_row x i).2.1)) := by
      unfold jx_fv; rw [hft]; rfl
    rw [ev]
    exact k
  · rename_i s' md b' hft
    obtain ⟨hfl, h9⟩ := ji_gF h
    clear h
    have h := h9
    clear h9
    have hix := (jy_obj hj hk).2 _ hfn _ _ _ hft
    cases h
    refine jk_ok hwf (jw_mk (trivial) hS) hpc (fun ⟨hx, hb, hml, hown, hts, hnm, hG, hfr, hlo, hx9, hX⟩ H locs lsr _ _ h1 h2 h3 k => ?_)
    have hat := jw_at h1 hj hn
    rw [jw_ce0 hk] at hat
    show W p l e R s mm args below meth c H locs _ _ Q (F0 mm (jx_pc x i) lsr (.ref (jx_ad E s0 j0) :: st1.map (jx_con E)))
    rw [jy_ad hj]
    obtain ⟨C0, T0, N0⟩ := q
    refine va_get (D := E.2.2.1) (cl := jx_classes) (tys := jx_tys E) hx hb hts (jy_cls hc).1 hown hG.1 (jp_one hat) 0 rfl hc (jx_row x i).2.1 hsl (hts _ (jx_at_mem hlk)) (fun _ h9 => h9) (jy_fget hfn) hd ?_
    have ev : jx_fv E ph m s0 j0 (jx_row x i).2.1 = jx_con E (xA s' (jx_ix md b' j0)) := by
      unfold jx_fv; rw [hft]
      show (if ph = true ∨ m s0 j0 _ = 1 then Value.ref (E.1 + jx_pos s' (jx_ix md b' j0)) else Value.null) = Value.ref (jx_ad E s' (jx_ix md b' j0))
      rw [if_pos hfl, jy_ad hix]
    rw [ev]
    exact k
  · cases h
set_option maxHeartbeats 1000000 in
theorem jo_putfield {i : Nat} {ls : jx_L} {st : List jx_V} {n : Nat} {m : jx_M} (hok : jx_okR x i = true) (hwf : jx_wf ph xs L x (i, ls, st, n, m)) {t' : jx_S} {k0 : Nat} (ho : (jx_row x i).1 = .putfield k0) (h : jx_step ph (jx_row x i) (i, ls, st, n, m) = some (.inl t')) : jx_K E ph xs L p l e R s mm args below meth c Q n0 x (i, ls, st, n, m) t' := by
  have hS := hwf.2.2.1
  have hA := (ji_and hok).2
  have hd := jk_dec hok ho rfl
  unfold jx_okA at hA
  unfold jx_step jx_sem at h
  simp only [ho] at hA h
  obtain ⟨hA, hpc⟩ := ji_and hA
  have hpc := ji_beq hpc
  obtain ⟨q, hc, hsl, hlk, hfi⟩ := jy_clsA (X := fun T => (match (T (jx_row x i).2.1).2.2.2 with
          | true => decide ((jx_mN x).name = "<init>" ∧ (T (jx_row x i).2.1).1 = (jx_mN x).cls)
          | false => true)) hA
  split at h
  · rename_i v st'
    obtain ⟨s0, j0, st1, e9, h9⟩ := ji_pA h
    clear h
    subst e9
    have h := h9
    clear h9
    obtain ⟨hk, h9⟩ := ji_bif h
    clear h
    have h := h9
    clear h9
    obtain ⟨hk, hk2⟩ := ji_and hk
    have hk := ji_beq hk
    have hk2 := ji_beq hk2
    obtain ⟨hj, hn, h9⟩ := ji_gA h
    clear h
    have h := h9
    clear h9
    have hn2 := jw_alive hwf hj hn
    clear hn
    have hn := hn2
    clear hn2
    rw [← hk2] at hc
    obtain ⟨hf, hfn⟩ := jy_fok1 hj hk hc hsl
    obtain ⟨hv, hS⟩ := jw_cons hS
    obtain ⟨hw, hS⟩ := jw_cons hS
    split at h
    · rename_i hft
      cases h
      have ht : jy_ty (jx_sP s0) (jx_row x i).2.1 = .int ∧ (q.2.1 (jx_row x i).2.1).2.2.2 = false := by
        unfold jy_fok at hf
        rw [hc] at hf
        have hft' : jx_nth (jx_nth jx_fld (jx_sP s0) []) (jx_row x i).2.1 (9, 0, 0, 0) = _ := hft
        rw [hft'] at hf
        exact of_decide_eq_true hf
      refine jk_mem hwf hS hj hn jw_up_ne (jw_up_in hwf.2.2.2.1.1 hv) hpc (fun ⟨hx, hb, hml, hown, hts, hnm, hG, hfr, hlo, hx9, hX⟩ H locs lsr h1 h2 h3 k => ?_)
      have hat := jw_at h1 hj hn
      rw [jw_ce0 hk] at hat
      show W p l e R s mm args below meth c H locs _ _ Q (F0 mm (jx_pc x i) lsr (.int (Int32.ofInt v) :: .ref (jx_ad E s0 j0) :: st1.map (jx_con E)))
      rw [jy_ad hj]
      refine jp_put hx hb hts hown hG hat hc hsl (hts _ (jx_at_mem hlk)) ht.2 (by rw [ht.1]; exact vp_nar_int _) (by rw [ht.1]; rfl) (by rw [List.length_map, List.length_range]; exact hfn) hd (fun H1 y a1 a2 a3 => k H1 _ ?_ a2 a3 jl_loc)
      rw [jw_ce0 hk, jw_fset (m := m) (k := (jx_row x i).2.1) (v := .int (Int32.ofInt v)) (fun y hy => jw_up_oth hy) (by unfold jx_fv; rw [hft]; show Value.int (Int32.ofInt (jx_up m s0 j0 _ v s0 j0 _)) = _; rw [jw_up_self])]
      exact a1
    · rename_i hft
      obtain ⟨hg, h9⟩ := ji_if h
      clear h
      have h := h9
      clear h9
      cases h
      have ht : jy_ty (jx_sP s0) (jx_row x i).2.1 = .boolean ∧ (q.2.1 (jx_row x i).2.1).2.2.2 = false := by
        unfold jy_fok at hf
        rw [hc] at hf
        have hft' : jx_nth (jx_nth jx_fld (jx_sP s0) []) (jx_row x i).2.1 (9, 0, 0, 0) = _ := hft
        rw [hft'] at hf
        exact of_decide_eq_true hf
      refine jk_mem hwf hS hj hn jw_up_ne (jw_up_in hwf.2.2.2.1.1 hv) hpc (fun ⟨hx, hb, hml, hown, hts, hnm, hG, hfr, hlo, hx9, hX⟩ H locs lsr h1 h2 h3 k => ?_)
      have hat := jw_at h1 hj hn
      rw [jw_ce0 hk] at hat
      show W p l e R s mm args below meth c H locs _ _ Q (F0 mm (jx_pc x i) lsr (.int (Int32.ofInt v) :: .ref (jx_ad E s0 j0) :: st1.map (jx_con E)))
      rw [jy_ad hj]
      refine jp_put hx hb hts hown hG hat hc hsl (hts _ (jx_at_mem hlk)) ht.2 (by rw [ht.1]; (rcases hg with rfl | rfl <;> decide +kernel)) (by rw [ht.1]; (rcases hg with rfl | rfl <;> rfl)) (by rw [List.length_map, List.length_range]; exact hfn) hd (fun H1 y a1 a2 a3 => k H1 _ ?_ a2 a3 jl_loc)
      rw [jw_ce0 hk, jw_fset (m := m) (k := (jx_row x i).2.1) (v := .int (Int32.ofInt v)) (fun y hy => jw_up_oth hy) (by unfold jx_fv; rw [hft]; show Value.int (Int32.ofInt (jx_up m s0 j0 _ v s0 j0 _)) = _; rw [jw_up_self])]
      exact a1
    · cases h
  · rename_i q2 st'
    obtain ⟨s0, j0, st1, e9, h9⟩ := ji_pA h
    clear h
    subst e9
    have h := h9
    clear h9
    obtain ⟨hk, h9⟩ := ji_bif h
    clear h
    have h := h9
    clear h9
    obtain ⟨hk, hk2⟩ := ji_and hk
    have hk := ji_beq hk
    have hk2 := ji_beq hk2
    obtain ⟨hj, hn, h9⟩ := ji_gA h
    clear h
    have h := h9
    clear h9
    have hn2 := jw_alive hwf hj hn
    clear hn
    have hn := hn2
    clear hn2
    rw [← hk2] at hc
    obtain ⟨hf, hfn⟩ := jy_fok1 hj hk hc hsl
    obtain ⟨hv, hS⟩ := jw_cons hS
    obtain ⟨hw, hS⟩ := jw_cons hS
    split at h
    · rename_i s' md b' hft
      obtain ⟨hq, h9⟩ := ji_bif h
      clear h
      have h := h9
      clear h9
      obtain ⟨hq1, hq2⟩ := ji_and hq
      have hq1 := ji_beq hq1
      have hq2 := ji_beq hq2
      cases h
      have hix := (jy_obj hj hk).2 _ hfn _ _ _ hft
      have ht : (q.2.1 (jx_row x i).2.1).2.2.2 = true ∧ ((∃ C, jy_ty (jx_sP s0) (jx_row x i).2.1 = .object C) ∨ ∃ t, jy_ty (jx_sP s0) (jx_row x i).2.1 = .array t) := by
        unfold jy_fok at hf
        rw [hc] at hf
        have hft' : jx_nth (jx_nth jx_fld (jx_sP s0) []) (jx_row x i).2.1 (9, 0, 0, 0) = _ := hft
        rw [hft'] at hf
        obtain ⟨f1, f2⟩ := ji_and hf
        obtain ⟨f2, -⟩ := ji_and f2
        refine ⟨of_decide_eq_true f1, ?_⟩
        split at f2
        · rename_i C hC; exact Or.inl ⟨C, hC⟩
        · rename_i C hC; exact Or.inr ⟨C, hC⟩
        · cases f2
      rw [ht.1] at hfi
      have hfi := of_decide_eq_true hfi
      refine jk_mem hwf hS hj hn jw_up_ne (jw_up_in hwf.2.2.2.1.1 (by omega)) hpc (fun ⟨hx, hb, hml, hown, hts, hnm, hG, hfr, hlo, hx9, hX⟩ H locs lsr h1 h2 h3 k => ?_)
      have hat := jw_at h1 hj hn
      rw [jw_ce0 hk] at hat
      show W p l e R s mm args below meth c H locs _ _ Q (F0 mm (jx_pc x i) lsr (.ref (jx_ad E q2.1 q2.2) :: .ref (jx_ad E s0 j0) :: st1.map (jx_con E)))
      rw [jy_ad hj, hq1, hq2, jy_ad hix]
      refine jp_putF hx hb hts hown hG hat hc hsl (hts _ (jx_at_mem hlk)) ht.1 (hnm hfi.1) hfi.2 (by rcases ht.2 with ⟨C, hC⟩ | ⟨C, hC⟩ <;> rw [hC] <;> rfl) (by rcases ht.2 with ⟨C, hC⟩ | ⟨C, hC⟩ <;> rw [hC] <;> rfl) (by rw [List.length_map, List.length_range]; exact hfn) hd (fun H1 y a1 a2 a3 => k H1 _ ?_ a2 a3 jl_loc)
      rw [jw_ce0 hk, jw_fset (m := m) (k := (jx_row x i).2.1) (v := .ref (E.1 + jx_pos s' (jx_ix md b' j0))) (fun y hy => jw_up_oth hy) (by unfold jx_fv; rw [hft]; show (if _ ∨ jx_up m s0 j0 _ 1 s0 j0 _ = 1 then Value.ref _ else Value.null) = _; rw [if_pos (Or.inr jw_up_self)])]
      exact a1
    · cases h
  · cases h
end
