set_option maxRecDepth 100000 in
theorem sg_2_CRI (t1 : Nat) (a2 : Int) (m : jx_M) (Q : Int → jx_M → Prop) (hv :
    ((1 = 1) ∧
  ((t1 < 2) ∧
  jx_AW 2 5 [some (xA 18 t1), some (xI a2), some (xI 0), some (xI 120)] [] m Q))) :
    jx_Cl 2 [xA 18 t1, xI a2] m Q :=
  jx_segOk (x := 2) (cd := jx_c2) rfl (stops := [5]) 6 hv
set_option maxRecDepth 100000 in
theorem sg_2_CRI_5 (t0 : Nat) (b1 : Int) (b2 : Int) (b3 : Int) (m : jx_M) (Q : Int → jx_M → Prop) (hv :
    ((b2 < b3 →
      ((1 = 1 ∧ 0 ≤ b2 ∧ b2 < 120) ∧
  ((t0 < 2) ∧
  ((jx_in (b2 + 1)) ∧
  jx_AW 2 5 [some (xA 18 t0), some (xI b1), some (xI (b2 + 1)), some (xI b3)] [] (jx_up m 18 t0 (b2.toNat) b1) Q)))) ∧
      (¬ (b2 < b3) →
      Q 0 m))) :
    jx_AW 2 5 [some (xA 18 t0), some (xI b1), some (xI b2), some (xI b3)] [] m Q :=
  jx_segOk (x := 2) (cd := jx_c2) rfl (stops := [5]) 10 hv
set_option maxRecDepth 100000 in
theorem sg_2_LUR (t1 : Nat) (a2 : Int) (m : jx_M) (Q : Int → jx_M → Prop) (hv :
    ((1 = 1) ∧
  ((t1 < 2) ∧
  jx_AW 2 5 [some (xA 19 t1), some (xI a2), some (xI 0), some (xI 4)] [] m Q))) :
    jx_Cl 2 [xA 19 t1, xI a2] m Q :=
  jx_segOk (x := 2) (cd := jx_c2) rfl (stops := [5]) 6 hv
set_option maxRecDepth 100000 in
theorem sg_2_LUR_5 (t0 : Nat) (b1 : Int) (b2 : Int) (b3 : Int) (m : jx_M) (Q : Int → jx_M → Prop) (hv :
    ((b2 < b3 →
      ((1 = 1 ∧ 0 ≤ b2 ∧ b2 < 4) ∧
  ((t0 < 2) ∧
  ((jx_in (b2 + 1)) ∧
  jx_AW 2 5 [some (xA 19 t0), some (xI b1), some (xI (b2 + 1)), some (xI b3)] [] (jx_up m 19 t0 (b2.toNat) b1) Q)))) ∧
      (¬ (b2 < b3) →
      Q 0 m))) :
    jx_AW 2 5 [some (xA 19 t0), some (xI b1), some (xI b2), some (xI b3)] [] m Q :=
  jx_segOk (x := 2) (cd := jx_c2) rfl (stops := [5]) 10 hv
set_option maxRecDepth 100000 in
theorem sg_2_ITEMS (t1 : Nat) (a2 : Int) (m : jx_M) (Q : Int → jx_M → Prop) (hv :
    ((1 = 1) ∧
  ((t1 < 4) ∧
  jx_AW 2 5 [some (xA 24 t1), some (xI a2), some (xI 0), some (xI 24)] [] m Q))) :
    jx_Cl 2 [xA 24 t1, xI a2] m Q :=
  jx_segOk (x := 2) (cd := jx_c2) rfl (stops := [5]) 6 hv
set_option maxRecDepth 100000 in
theorem sg_2_ITEMS_5 (t0 : Nat) (b1 : Int) (b2 : Int) (b3 : Int) (m : jx_M) (Q : Int → jx_M → Prop) (hv :
    ((b2 < b3 →
      ((1 = 1 ∧ 0 ≤ b2 ∧ b2 < 24) ∧
  ((t0 < 4) ∧
  ((jx_in (b2 + 1)) ∧
  jx_AW 2 5 [some (xA 24 t0), some (xI b1), some (xI (b2 + 1)), some (xI b3)] [] (jx_up m 24 t0 (b2.toNat) b1) Q)))) ∧
      (¬ (b2 < b3) →
      Q 0 m))) :
    jx_AW 2 5 [some (xA 24 t0), some (xI b1), some (xI b2), some (xI b3)] [] m Q :=
  jx_segOk (x := 2) (cd := jx_c2) rfl (stops := [5]) 10 hv
set_option maxRecDepth 100000 in
theorem sg_10 (a1 : Int) (a2 : Int) (m : jx_M) (Q : Int → jx_M → Prop) (hv :
    jx_Cl 11 [xI a1] m (fun z1 m1 =>
      ((z1 = 0 →
        Q (-1) m1) ∧
        (¬ (z1 = 0) →
        jx_Cl 12 [xI a2, xI 0, xI 9] m1 (fun z2 m2 =>
          ((z2 = 0 →
            Q (-1) m2) ∧
            (¬ (z2 = 0) →
            ((0 < 1) ∧
  ((0 < 3) ∧
  ((1 = 1 ∧ 0 ≤ a1 ∧ a1 < 25) ∧
  ((0 < 3) ∧
  ((0 < 1) ∧
  ((0 < 3) ∧
  ((1 = 1 ∧ 0 ≤ a1 ∧ a1 < 25) ∧
  ((0 < 3) ∧
  Q (m2 2 0 (a1.toNat)) (jx_up m2 2 0 (a1.toNat) a2)))))))))))))))) :
    jx_Cl 10 [xA 0 0, xI a1, xI a2] m Q :=
  jx_segOk (x := 10) (cd := jx_c10) rfl (stops := []) 23 hv
set_option maxRecDepth 100000 in
theorem sg_11 (a1 : Int) (m : jx_M) (Q : Int → jx_M → Prop) (hv :
    ((a1 < 0 →
      (((0 : Int) = 0 ∨ (0 : Int) = 1) ∧
  Q 0 m)) ∧
      (¬ (a1 < 0) →
      ((a1 < 25 →
        (((1 : Int) = 0 ∨ (1 : Int) = 1) ∧
  Q 1 m)) ∧
        (¬ (a1 < 25) →
        (((0 : Int) = 0 ∨ (0 : Int) = 1) ∧
  Q 0 m)))))) :
    jx_Cl 11 [xI a1] m Q :=
  jx_segOk (x := 11) (cd := jx_c11) rfl (stops := []) 9 hv
set_option maxRecDepth 100000 in
theorem sg_12 (a1 : Int) (a2 : Int) (a3 : Int) (m : jx_M) (Q : Int → jx_M → Prop) (hv :
    ((a1 < a2 →
      (((0 : Int) = 0 ∨ (0 : Int) = 1) ∧
  Q 0 m)) ∧
      (¬ (a1 < a2) →
      ((a3 < a1 →
        (((0 : Int) = 0 ∨ (0 : Int) = 1) ∧
  Q 0 m)) ∧
        (¬ (a3 < a1) →
        (((1 : Int) = 0 ∨ (1 : Int) = 1) ∧
  Q 1 m)))))) :
    jx_Cl 12 [xI a1, xI a2, xI a3] m Q :=
  jx_segOk (x := 12) (cd := jx_c12) rfl (stops := []) 10 hv
set_option maxRecDepth 100000 in
theorem sg_13 (a1 : Int) (a2 : Int) (a3 : Int) (m : jx_M) (Q : Int → jx_M → Prop) (hv :
    jx_Cl 14 [xI a1] m (fun z1 m1 =>
      ((z1 = 0 →
        Q (-1) m1) ∧
        (¬ (z1 = 0) →
        jx_Cl 15 [xI a2] m1 (fun z2 m2 =>
          ((z2 = 0 →
            Q (-1) m2) ∧
            (¬ (z2 = 0) →
            jx_Cl 12 [xI a3, xI 1, xI 5] m2 (fun z3 m3 =>
              ((z3 = 0 →
                Q (-1) m3) ∧
                (¬ (z3 = 0) →
                ((0 < 1) ∧
  ((0 < 3) ∧
  (((m3 1 0 4) < 6 →
                  ((0 < 1) ∧
  ((0 < 3) ∧
  ((0 < 1) ∧
  ((0 < 3) ∧
  ((0 ≤ (m3 1 0 4) ∧ (m3 1 0 4) < 6) ∧
  ((0 < 3) ∧
  (((6 * 0 + (m3 1 0 4).toNat) < 18) ∧
  jx_Cl 16 [xA 6 (6 * 0 + (m3 1 0 4).toNat), xI a1, xI a2, xI a3] m3 (fun _ m4 =>
                    ((0 < 1) ∧
  ((jx_in ((m3 1 0 4) + 1)) ∧
  ((0 < 3) ∧
  Q (m3 1 0 4) (jx_up m4 1 0 4 ((m3 1 0 4) + 1)))))))))))))) ∧
                  (¬ ((m3 1 0 4) < 6) →
                  Q (-3) m3)))))))))))))) :
    jx_Cl 13 [xA 0 0, xI a1, xI a2, xI a3] m Q :=
  jx_segOk (x := 13) (cd := jx_c13) rfl (stops := []) 38 hv
set_option maxRecDepth 100000 in
theorem sg_14 (a1 : Int) (m : jx_M) (Q : Int → jx_M → Prop) (hv :
    ((a1 < 0 →
      (((0 : Int) = 0 ∨ (0 : Int) = 1) ∧
  Q 0 m)) ∧
      (¬ (a1 < 0) →
      ((a1 < 4 →
        (((1 : Int) = 0 ∨ (1 : Int) = 1) ∧
  Q 1 m)) ∧
        (¬ (a1 < 4) →
        (((0 : Int) = 0 ∨ (0 : Int) = 1) ∧
  Q 0 m)))))) :
    jx_Cl 14 [xI a1] m Q :=
  jx_segOk (x := 14) (cd := jx_c14) rfl (stops := []) 9 hv
set_option maxRecDepth 100000 in
theorem sg_15 (a1 : Int) (m : jx_M) (Q : Int → jx_M → Prop) (hv :
    ((a1 < 1 →
      (((0 : Int) = 0 ∨ (0 : Int) = 1) ∧
  Q 0 m)) ∧
      (¬ (a1 < 1) →
      (((9 : Int) < a1 →
        (((0 : Int) = 0 ∨ (0 : Int) = 1) ∧
  Q 0 m)) ∧
        (¬ ((9 : Int) < a1) →
        (((1 : Int) = 0 ∨ (1 : Int) = 1) ∧
  Q 1 m)))))) :
    jx_Cl 15 [xI a1] m Q :=
  jx_segOk (x := 15) (cd := jx_c15) rfl (stops := []) 10 hv
set_option maxRecDepth 100000 in
theorem sg_16 (t0 : Nat) (a1 : Int) (a2 : Int) (a3 : Int) (m : jx_M) (Q : Int → jx_M → Prop) (hv :
    ((t0 < 18) ∧
  ((t0 < 18) ∧
  ((t0 < 18) ∧
  ((t0 < 18) ∧
  ((t0 < 18) ∧
  ((1 = 1 ∧ 0 ≤ (0 : Int) ∧ (0 : Int) < 12) ∧
  ((t0 < 18) ∧
  ((t0 < 18) ∧
  ((t0 < 18) ∧
  ((1 = 1 ∧ 0 ≤ (0 : Int) ∧ (0 : Int) < 6) ∧
  ((t0 < 18) ∧
  ((t0 < 18) ∧
  ((t0 < 18) ∧
  ((t0 < 18) ∧
  jx_Cl 17 [xA 8 t0, xI ((jx_up (jx_up (jx_up (jx_up (jx_up (jx_up (jx_up (jx_up m 6 t0 4 a1) 6 t0 5 a2) 6 t0 7 a3) 6 t0 6 0) 7 t0 ((0 : Int).toNat) 0) 6 t0 2 1) 8 t0 ((0 : Int).toNat) 5) 6 t0 3 1) 6 t0 3)] (jx_up (jx_up (jx_up (jx_up (jx_up (jx_up (jx_up (jx_up m 6 t0 4 a1) 6 t0 5 a2) 6 t0 7 a3) 6 t0 6 0) 7 t0 ((0 : Int).toNat) 0) 6 t0 2 1) 8 t0 ((0 : Int).toNat) 5) 6 t0 3 1) (fun z1 m1 =>
      ((t0 < 18) ∧
  Q 0 (jx_up m1 6 t0 8 z1)))))))))))))))))) :
    jx_Cl 16 [xA 6 t0, xI a1, xI a2, xI a3] m Q :=
  jx_segOk (x := 16) (cd := jx_c16) rfl (stops := []) 37 hv
set_option maxRecDepth 100000 in
theorem sg_17_NOTE (t1 : Nat) (a2 : Int) (m : jx_M) (Q : Int → jx_M → Prop) (hv :
    ((a2 < 1 →
      Q 0 m) ∧
      (¬ (a2 < 1) →
      ((1 = 1) ∧
  ((t1 < 18) ∧
  (((6 : Int) < a2 →
        Q 0 m) ∧
        (¬ ((6 : Int) < a2) →
        jx_AW 17 13 [some (xA 8 t1), some (xI a2), some (xI 0), some (xI 0)] [] m Q))))))) :
    jx_Cl 17 [xA 8 t1, xI a2] m Q :=
  jx_segOk (x := 17) (cd := jx_c17) rfl (stops := [13]) 12 hv
set_option maxRecDepth 100000 in
theorem sg_17_NOTE_13 (t0 : Nat) (b1 : Int) (b2 : Int) (b3 : Int) (m : jx_M) (Q : Int → jx_M → Prop) (hv :
    ((b3 < b1 →
      ((1 = 1 ∧ 0 ≤ b3 ∧ b3 < 6) ∧
  ((t0 < 18) ∧
  ((jx_in (b2 + (m 8 t0 (b3.toNat)))) ∧
  ((jx_in (b3 + 1)) ∧
  jx_AW 17 13 [some (xA 8 t0), some (xI b1), some (xI (b2 + (m 8 t0 (b3.toNat)))), some (xI (b3 + 1))] [] m Q))))) ∧
      (¬ (b3 < b1) →
      ((0 ≤ b2 ∧ 0 < b1) ∧
  ((0 ≤ (b2 / b1) ∧ 0 < (3 : Int)) ∧
  Q ((b2 / b1) / 3) m))))) :
    jx_AW 17 13 [some (xA 8 t0), some (xI b1), some (xI b2), some (xI b3)] [] m Q :=
  jx_segOk (x := 17) (cd := jx_c17) rfl (stops := [13]) 12 hv
set_option maxRecDepth 100000 in
theorem sg_17_DRAFT (a2 : Int) (m : jx_M) (Q : Int → jx_M → Prop) (hv :
    ((a2 < 1 →
      Q 0 m) ∧
      (¬ (a2 < 1) →
      ((1 = 1) ∧
  ((0 < 1) ∧
  (((25 : Int) < a2 →
        Q 0 m) ∧
        (¬ ((25 : Int) < a2) →
        jx_AW 17 13 [some (xA 25 0), some (xI a2), some (xI 0), some (xI 0)] [] m Q))))))) :
    jx_Cl 17 [xA 25 0, xI a2] m Q :=
  jx_segOk (x := 17) (cd := jx_c17) rfl (stops := [13]) 12 hv
set_option maxRecDepth 100000 in
theorem sg_17_DRAFT_13 (b1 : Int) (b2 : Int) (b3 : Int) (m : jx_M) (Q : Int → jx_M → Prop) (hv :
    ((b3 < b1 →
      ((1 = 1 ∧ 0 ≤ b3 ∧ b3 < 25) ∧
  ((0 < 1) ∧
  ((jx_in (b2 + (m 25 0 (b3.toNat)))) ∧
  ((jx_in (b3 + 1)) ∧
  jx_AW 17 13 [some (xA 25 0), some (xI b1), some (xI (b2 + (m 25 0 (b3.toNat)))), some (xI (b3 + 1))] [] m Q))))) ∧
      (¬ (b3 < b1) →
      ((0 ≤ b2 ∧ 0 < b1) ∧
  ((0 ≤ (b2 / b1) ∧ 0 < (3 : Int)) ∧
  Q ((b2 / b1) / 3) m))))) :
    jx_AW 17 13 [some (xA 25 0), some (xI b1), some (xI b2), some (xI b3)] [] m Q :=
  jx_segOk (x := 17) (cd := jx_c17) rfl (stops := [13]) 12 hv
set_option maxRecDepth 100000 in
theorem sg_18 (a1 : Int) (a2 : Int) (a3 : Int) (m : jx_M) (Q : Int → jx_M → Prop) (hv :
    ((0 < 1) ∧
  ((0 < 3) ∧
  jx_Cl 19 [xA 1 0, xI a1] m (fun z1 m1 =>
      ((z1 = 0 →
        Q (-1) m1) ∧
        (¬ (z1 = 0) →
        ((0 < 1) ∧
  ((0 < 3) ∧
  ((0 ≤ a1 ∧ a1 < 6) ∧
  ((0 < 3) ∧
  (((6 * 0 + a1.toNat) < 18) ∧
  jx_Cl 20 [xA 6 (6 * 0 + a1.toNat), xI a2, xI a3] m1 (fun z2 m2 =>
          Q z2 m2)))))))))))) :
    jx_Cl 18 [xA 0 0, xI a1, xI a2, xI a3] m Q :=
  jx_segOk (x := 18) (cd := jx_c18) rfl (stops := []) 16 hv
set_option maxRecDepth 100000 in
theorem sg_19 (t0 : Nat) (a1 : Int) (m : jx_M) (Q : Int → jx_M → Prop) (hv :
    ((a1 < 0 →
      (((0 : Int) = 0 ∨ (0 : Int) = 1) ∧
  Q 0 m)) ∧
      (¬ (a1 < 0) →
      ((t0 < 3) ∧
  ((a1 < (m 1 t0 4) →
        (((1 : Int) = 0 ∨ (1 : Int) = 1) ∧
  Q 1 m)) ∧
        (¬ (a1 < (m 1 t0 4)) →
        (((0 : Int) = 0 ∨ (0 : Int) = 1) ∧
  Q 0 m))))))) :
    jx_Cl 19 [xA 1 t0, xI a1] m Q :=
  jx_segOk (x := 19) (cd := jx_c19) rfl (stops := []) 10 hv
set_option maxRecDepth 100000 in
theorem sg_20 (t0 : Nat) (a1 : Int) (a2 : Int) (m : jx_M) (Q : Int → jx_M → Prop) (hv :
    ((a1 = 0 →
      jx_Cl 14 [xI a2] m (fun z1 m1 =>
        ((z1 = 0 →
          ((a1 = 1 →
            jx_Cl 15 [xI a2] m1 (fun z2 m2 =>
              ((z2 = 0 →
                ((a1 = 2 →
                  jx_Cl 21 [xI a2] m2 (fun z3 m3 =>
                    ((z3 = 0 →
                      ((a1 = 3 →
                        jx_Cl 12 [xI a2, xI 1, xI 5] m3 (fun z4 m4 =>
                          ((z4 = 0 →
                            Q (-1) m4) ∧
                            (¬ (z4 = 0) →
                            ((t0 < 18) ∧
  ((t0 < 18) ∧
  Q (m4 6 t0 7) (jx_up m4 6 t0 7 a2))))))) ∧
                        (¬ (a1 = 3) →
                        Q (-1) m3))) ∧
                      (¬ (z3 = 0) →
                      ((t0 < 18) ∧
  ((t0 < 18) ∧
  Q (m3 6 t0 6) (jx_up m3 6 t0 6 a2))))))) ∧
                  (¬ (a1 = 2) →
                  ((a1 = 3 →
                    jx_Cl 12 [xI a2, xI 1, xI 5] m2 (fun z5 m5 =>
                      ((z5 = 0 →
                        Q (-1) m5) ∧
                        (¬ (z5 = 0) →
                        ((t0 < 18) ∧
  ((t0 < 18) ∧
  Q (m5 6 t0 7) (jx_up m5 6 t0 7 a2))))))) ∧
                    (¬ (a1 = 3) →
                    Q (-1) m2))))) ∧
                (¬ (z2 = 0) →
                ((t0 < 18) ∧
  ((t0 < 18) ∧
  Q (m2 6 t0 5) (jx_up m2 6 t0 5 a2))))))) ∧
            (¬ (a1 = 1) →
            ((a1 = 2 →
              jx_Cl 21 [xI a2] m1 (fun z6 m6 =>
                ((z6 = 0 →
                  ((a1 = 3 →
                    jx_Cl 12 [xI a2, xI 1, xI 5] m6 (fun z7 m7 =>
                      ((z7 = 0 →
                        Q (-1) m7) ∧
                        (¬ (z7 = 0) →
                        ((t0 < 18) ∧
  ((t0 < 18) ∧
  Q (m7 6 t0 7) (jx_up m7 6 t0 7 a2))))))) ∧
                    (¬ (a1 = 3) →
                    Q (-1) m6))) ∧
                  (¬ (z6 = 0) →
                  ((t0 < 18) ∧
  ((t0 < 18) ∧
  Q (m6 6 t0 6) (jx_up m6 6 t0 6 a2))))))) ∧
              (¬ (a1 = 2) →
              ((a1 = 3 →
                jx_Cl 12 [xI a2, xI 1, xI 5] m1 (fun z8 m8 =>
                  ((z8 = 0 →
                    Q (-1) m8) ∧
                    (¬ (z8 = 0) →
                    ((t0 < 18) ∧
  ((t0 < 18) ∧
  Q (m8 6 t0 7) (jx_up m8 6 t0 7 a2))))))) ∧
                (¬ (a1 = 3) →
                Q (-1) m1))))))) ∧
          (¬ (z1 = 0) →
          ((t0 < 18) ∧
  ((t0 < 18) ∧
  Q (m1 6 t0 4) (jx_up m1 6 t0 4 a2))))))) ∧
      (¬ (a1 = 0) →
      ((a1 = 1 →
        jx_Cl 15 [xI a2] m (fun z9 m9 =>
          ((z9 = 0 →
            ((a1 = 2 →
              jx_Cl 21 [xI a2] m9 (fun z10 m10 =>
                ((z10 = 0 →
                  ((a1 = 3 →
                    jx_Cl 12 [xI a2, xI 1, xI 5] m10 (fun z11 m11 =>
                      ((z11 = 0 →
                        Q (-1) m11) ∧
                        (¬ (z11 = 0) →
                        ((t0 < 18) ∧
  ((t0 < 18) ∧
  Q (m11 6 t0 7) (jx_up m11 6 t0 7 a2))))))) ∧
                    (¬ (a1 = 3) →
                    Q (-1) m10))) ∧
                  (¬ (z10 = 0) →
                  ((t0 < 18) ∧
  ((t0 < 18) ∧
  Q (m10 6 t0 6) (jx_up m10 6 t0 6 a2))))))) ∧
              (¬ (a1 = 2) →
              ((a1 = 3 →
                jx_Cl 12 [xI a2, xI 1, xI 5] m9 (fun z12 m12 =>
                  ((z12 = 0 →
                    Q (-1) m12) ∧
                    (¬ (z12 = 0) →
                    ((t0 < 18) ∧
  ((t0 < 18) ∧
  Q (m12 6 t0 7) (jx_up m12 6 t0 7 a2))))))) ∧
                (¬ (a1 = 3) →
                Q (-1) m9))))) ∧
            (¬ (z9 = 0) →
            ((t0 < 18) ∧
  ((t0 < 18) ∧
  Q (m9 6 t0 5) (jx_up m9 6 t0 5 a2))))))) ∧
        (¬ (a1 = 1) →
        ((a1 = 2 →
          jx_Cl 21 [xI a2] m (fun z13 m13 =>
            ((z13 = 0 →
              ((a1 = 3 →
                jx_Cl 12 [xI a2, xI 1, xI 5] m13 (fun z14 m14 =>
                  ((z14 = 0 →
                    Q (-1) m14) ∧
                    (¬ (z14 = 0) →
                    ((t0 < 18) ∧
  ((t0 < 18) ∧
  Q (m14 6 t0 7) (jx_up m14 6 t0 7 a2))))))) ∧
                (¬ (a1 = 3) →
                Q (-1) m13))) ∧
              (¬ (z13 = 0) →
              ((t0 < 18) ∧
  ((t0 < 18) ∧
  Q (m13 6 t0 6) (jx_up m13 6 t0 6 a2))))))) ∧
          (¬ (a1 = 2) →
          ((a1 = 3 →
            jx_Cl 12 [xI a2, xI 1, xI 5] m (fun z15 m15 =>
              ((z15 = 0 →
                Q (-1) m15) ∧
                (¬ (z15 = 0) →
                ((t0 < 18) ∧
  ((t0 < 18) ∧
  Q (m15 6 t0 7) (jx_up m15 6 t0 7 a2))))))) ∧
            (¬ (a1 = 3) →
            Q (-1) m))))))))) :
    jx_Cl 20 [xA 6 t0, xI a1, xI a2] m Q :=
  jx_segOk (x := 20) (cd := jx_c20) rfl (stops := []) 35 hv
set_option maxRecDepth 100000 in
theorem sg_21 (a1 : Int) (m : jx_M) (Q : Int → jx_M → Prop) (hv :
    ((a1 < 0 →
      (((0 : Int) = 0 ∨ (0 : Int) = 1) ∧
  Q 0 m)) ∧
      (¬ (a1 < 0) →
      ((a1 < 120 →
        (((1 : Int) = 0 ∨ (1 : Int) = 1) ∧
  Q 1 m)) ∧
        (¬ (a1 < 120) →
        (((0 : Int) = 0 ∨ (0 : Int) = 1) ∧
  Q 0 m)))))) :
    jx_Cl 21 [xI a1] m Q :=
  jx_segOk (x := 21) (cd := jx_c21) rfl (stops := []) 9 hv
set_option maxRecDepth 100000 in
theorem sg_22 (a1 : Int) (a2 : Int) (m : jx_M) (Q : Int → jx_M → Prop) (hv :
    jx_Cl 12 [xI a2, xI 1, xI 8] m (fun z1 m1 =>
      ((z1 = 0 →
        Q (-1) m1) ∧
        (¬ (z1 = 0) →
        jx_Cl 23 [xL a1, xI a2] m1 (fun z2 m2 =>
          ((z2 = 0 →
            Q (-1) m2) ∧
            (¬ (z2 = 0) →
            ((0 < 1) ∧
  ((0 < 1) ∧
  jx_Cl 25 [xA 20 0, xL a1, xI a2] m2 (fun z3 m3 =>
              Q z3 m3)))))))))) :
    jx_Cl 22 [xA 0 0, xL a1, xI a2] m Q :=
  jx_segOk (x := 22) (cd := jx_c22) rfl (stops := []) 16 hv
set_option maxRecDepth 100000 in
theorem sg_23 (a1 : Int) (a2 : Int) (m : jx_M) (Q : Int → jx_M → Prop) (hv :
    jx_AW 23 2 [some (xL a1), none, some (xI a2), some (xI 0), none] [] m Q) :
    jx_Cl 23 [xL a1, xI a2] m Q :=
  jx_segOk (x := 23) (cd := jx_c23) rfl (stops := [2]) 3 hv
set_option maxRecDepth 100000 in
theorem sg_23_2 (b0 : Int) (b2 : Int) (b3 : Int) (w4 : Option jx_V) (m : jx_M) (Q : Int → jx_M → Prop) (hv :
    ((b3 < b2 →
      jx_Cl 24 [xL b0, xI b3] m (fun z1 m1 =>
        ((z1 < 32 →
          (((0 : Int) = 0 ∨ (0 : Int) = 1) ∧
  Q 0 m1)) ∧
          (¬ (z1 < 32) →
          (((126 : Int) < z1 →
            (((0 : Int) = 0 ∨ (0 : Int) = 1) ∧
  Q 0 m1)) ∧
            (¬ ((126 : Int) < z1) →
            ((jx_in (b3 + 1)) ∧
  jx_AW 23 2 [some (xL b0), none, some (xI b2), some (xI (b3 + 1)), some (xI z1)] [] m1 Q))))))) ∧
      (¬ (b3 < b2) →
      (((1 : Int) = 0 ∨ (1 : Int) = 1) ∧
  Q 1 m)))) :
    jx_AW 23 2 [some (xL b0), none, some (xI b2), some (xI b3), w4] [] m Q :=
  jx_segOk (x := 23) (cd := jx_c23) rfl (stops := [2]) 16 hv
set_option maxRecDepth 100000 in
theorem sg_24 (a1 : Int) (a2 : Int) (m : jx_M) (Q : Int → jx_M → Prop) (hv :
    ((jx_in (8 * a2)) ∧
  Q (jx_iand (jx_l2i (jx_lushr a1 (8 * a2))) 255) m)) :
    jx_Cl 24 [xL a1, xI a2] m Q :=
  jx_segOk (x := 24) (cd := jx_c24) rfl (stops := []) 10 hv
set_option maxRecDepth 100000 in
theorem sg_25 (a1 : Int) (a2 : Int) (m : jx_M) (Q : Int → jx_M → Prop) (hv :
    ((0 < 1) ∧
  ((jx_in (60 - (m 20 0 1))) ∧
  (((60 - (m 20 0 1)) < a2 →
      Q (-3) m) ∧
      (¬ ((60 - (m 20 0 1)) < a2) →
      ((jx_in (a2 - 1)) ∧
  jx_AW 25 12 [some (xA 20 0), some (xL a1), none, some (xI a2), some (xI (a2 - 1))] [] m Q)))))) :
    jx_Cl 25 [xA 20 0, xL a1, xI a2] m Q :=
  jx_segOk (x := 25) (cd := jx_c25) rfl (stops := [12]) 11 hv
set_option maxRecDepth 100000 in
theorem sg_25_12 (b1 : Int) (b3 : Int) (b4 : Int) (m : jx_M) (Q : Int → jx_M → Prop) (hv :
    ((b4 < 0 →
      ((0 < 1) ∧
  Q (m 20 0 1) m)) ∧
      (¬ (b4 < 0) →
      ((0 < 1) ∧
  ((0 < 1) ∧
  jx_Cl 24 [xL b1, xI b4] m (fun z1 m1 =>
        ((1 = 1 ∧ 0 ≤ (m 20 0 1) ∧ (m 20 0 1) < 60) ∧
  ((0 < 1) ∧
  ((0 < 1) ∧
  ((jx_in (((jx_up m1 21 0 ((m 20 0 1).toNat) z1) 20 0 1) + 1)) ∧
  ((0 < 1) ∧
  ((jx_in (b4 + (-1))) ∧
  jx_AW 25 12 [some (xA 20 0), some (xL b1), none, some (xI b3), some (xI (b4 + (-1)))] [] (jx_up (jx_up m1 21 0 ((m 20 0 1).toNat) z1) 20 0 1 (((jx_up m1 21 0 ((m 20 0 1).toNat) z1) 20 0 1) + 1)) Q)))))))))))) :
    jx_AW 25 12 [some (xA 20 0), some (xL b1), none, some (xI b3), some (xI b4)] [] m Q :=
  jx_segOk (x := 25) (cd := jx_c25) rfl (stops := [12]) 19 hv
set_option maxRecDepth 100000 in
theorem sg_26  (m : jx_M) (Q : Int → jx_M → Prop) (hv :
    ((0 < 1) ∧
  ((0 < 1) ∧
  ((0 < 1) ∧
  jx_Cl 27 [xA 20 0, xA 25 0, xI 25, xI 25] m (fun z1 m1 =>
      ((0 < 1) ∧
  ((0 < 1) ∧
  jx_Cl 29 [xA 20 0] m1 (fun _ m2 =>
        ((z1 < 0 →
          Q z1 m2) ∧
          (¬ (z1 < 0) →
          jx_AW 26 19 [some (xA 0 0), some (xI z1), some (xI 0), some (xI 0)] [] m2 Q)))))))))) :
    jx_Cl 26 [xA 0 0] m Q :=
  jx_segOk (x := 26) (cd := jx_c26) rfl (stops := [19]) 18 hv
set_option maxRecDepth 100000 in
theorem sg_26_19 (b1 : Int) (b2 : Int) (b3 : Int) (m : jx_M) (Q : Int → jx_M → Prop) (hv :
    ((b3 < 25 →
      ((0 < 1) ∧
  ((0 < 3) ∧
  ((0 < 1) ∧
  ((1 = 1 ∧ 0 ≤ b3 ∧ b3 < 25) ∧
  ((0 < 1) ∧
  ((1 = 1 ∧ 0 ≤ b3 ∧ b3 < 25) ∧
  ((0 < 3) ∧
  ((0 < 1) ∧
  ((1 = 1 ∧ 0 ≤ b3 ∧ b3 < 25) ∧
  ((0 < 1) ∧
  ((jx_in (b2 + ((jx_up m 2 0 (b3.toNat) (m 25 0 (b3.toNat))) 25 0 (b3.toNat)))) ∧
  ((jx_in (b3 + 1)) ∧
  jx_AW 26 19 [some (xA 0 0), some (xI b1), some (xI (b2 + ((jx_up m 2 0 (b3.toNat) (m 25 0 (b3.toNat))) 25 0 (b3.toNat)))), some (xI (b3 + 1))] [] (jx_up m 2 0 (b3.toNat) (m 25 0 (b3.toNat))) Q))))))))))))) ∧
      (¬ (b3 < 25) →
      Q b2 m))) :
    jx_AW 26 19 [some (xA 0 0), some (xI b1), some (xI b2), some (xI b3)] [] m Q :=
  jx_segOk (x := 26) (cd := jx_c26) rfl (stops := [19]) 22 hv
set_option maxRecDepth 100000 in
theorem sg_27_DRAFT (a2 : Int) (a3 : Int) (m : jx_M) (Q : Int → jx_M → Prop) (hv :
    jx_AW 27 4 [some (xA 20 0), some (xA 25 0), some (xI a2), some (xI a3), some (xI 0), some (xI 0)] [] m Q) :
    jx_Cl 27 [xA 20 0, xA 25 0, xI a2, xI a3] m Q :=
  jx_segOk (x := 27) (cd := jx_c27) rfl (stops := [4]) 5 hv
set_option maxRecDepth 100000 in
theorem sg_27_DRAFT_4 (b2 : Int) (b3 : Int) (b4 : Int) (b5 : Int) (m : jx_M) (Q : Int → jx_M → Prop) (hv :
    ((0 < 1) ∧
  ((b5 < (m 20 0 1) →
      ((0 < 1) ∧
  ((1 = 1 ∧ 0 ≤ b5 ∧ b5 < 60) ∧
  ((0 < 1) ∧
  (((m 21 0 (b5.toNat)) = 32 →
        ((jx_in (b5 + 1)) ∧
  jx_AW 27 4 [some (xA 20 0), some (xA 25 0), some (xI b2), some (xI b3), some (xI b4), some (xI (b5 + 1))] [] m Q)) ∧
        (¬ ((m 21 0 (b5.toNat)) = 32) →
        ((b4 < b3 →
          ((1 = 1) ∧
  ((0 < 1) ∧
  ((b4 < 25 →
            ((0 < 1) ∧
  jx_Cl 28 [xA 20 0, xI b5] m (fun z1 m1 =>
              ((z1 = 0 →
                ((jx_in ((-20) - b5)) ∧
  Q ((-20) - b5) m1)) ∧
                (¬ (z1 = 0) →
                ((0 < 1) ∧
  ((1 = 1 ∧ 0 ≤ b5 ∧ b5 < 60) ∧
  ((0 < 1) ∧
  ((jx_in ((m1 21 0 (b5.toNat)) - 48)) ∧
  ((1 = 1 ∧ 0 ≤ b4 ∧ b4 < 25) ∧
  ((0 < 1) ∧
  ((jx_in (b4 + 1)) ∧
  ((jx_in (b5 + 1)) ∧
  jx_AW 27 4 [some (xA 20 0), some (xA 25 0), some (xI b2), some (xI b3), some (xI (b4 + 1)), some (xI (b5 + 1))] [] (jx_up m1 25 0 (b4.toNat) ((m1 21 0 (b5.toNat)) - 48)) Q))))))))))))) ∧
            (¬ (b4 < 25) →
            ((jx_in ((-20) - b5)) ∧
  Q ((-20) - b5) m)))))) ∧
          (¬ (b4 < b3) →
          ((jx_in ((-20) - b5)) ∧
  Q ((-20) - b5) m))))))))) ∧
      (¬ (b5 < (m 20 0 1)) →
      ((b4 < b2 →
        ((0 < 1) ∧
  ((jx_in ((-20) - (m 20 0 1))) ∧
  Q ((-20) - (m 20 0 1)) m))) ∧
        (¬ (b4 < b2) →
        Q b4 m)))))) :
    jx_AW 27 4 [some (xA 20 0), some (xA 25 0), some (xI b2), some (xI b3), some (xI b4), some (xI b5)] [] m Q :=
  jx_segOk (x := 27) (cd := jx_c27) rfl (stops := [4]) 34 hv
set_option maxRecDepth 100000 in
theorem sg_28 (a1 : Int) (m : jx_M) (Q : Int → jx_M → Prop) (hv :
    ((0 < 1) ∧
  ((a1 < (m 20 0 1) →
      ((0 < 1) ∧
  ((1 = 1 ∧ 0 ≤ a1 ∧ a1 < 60) ∧
  ((0 < 1) ∧
  (((m 21 0 (a1.toNat)) < 48 →
        (((0 : Int) = 0 ∨ (0 : Int) = 1) ∧
  Q 0 m)) ∧
        (¬ ((m 21 0 (a1.toNat)) < 48) →
        ((0 < 1) ∧
  ((1 = 1 ∧ 0 ≤ a1 ∧ a1 < 60) ∧
  ((0 < 1) ∧
  (((57 : Int) < (m 21 0 (a1.toNat)) →
          (((0 : Int) = 0 ∨ (0 : Int) = 1) ∧
  Q 0 m)) ∧
          (¬ ((57 : Int) < (m 21 0 (a1.toNat))) →
          (((1 : Int) = 0 ∨ (1 : Int) = 1) ∧
  Q 1 m)))))))))))) ∧
      (¬ (a1 < (m 20 0 1)) →
      (((0 : Int) = 0 ∨ (0 : Int) = 1) ∧
  Q 0 m))))) :
    jx_Cl 28 [xA 20 0, xI a1] m Q :=
  jx_segOk (x := 28) (cd := jx_c28) rfl (stops := []) 20 hv
set_option maxRecDepth 100000 in
theorem sg_29  (m : jx_M) (Q : Int → jx_M → Prop) (hv :
    ((0 < 1) ∧
  Q 0 (jx_up m 20 0 1 0))) :
    jx_Cl 29 [xA 20 0] m Q :=
  jx_segOk (x := 29) (cd := jx_c29) rfl (stops := []) 5 hv
set_option maxRecDepth 100000 in
theorem sg_30 (a1 : Int) (m : jx_M) (Q : Int → jx_M → Prop) (hv :
    ((0 < 1) ∧
  ((0 < 3) ∧
  jx_Cl 19 [xA 1 0, xI a1] m (fun z1 m1 =>
      ((z1 = 0 →
        Q (-1) m1) ∧
        (¬ (z1 = 0) →
        ((0 < 1) ∧
  ((0 < 1) ∧
  ((0 < 1) ∧
  jx_Cl 31 [xA 20 0, xA 25 0] m1 (fun z2 m2 =>
          ((0 < 1) ∧
  ((0 < 1) ∧
  jx_Cl 29 [xA 20 0] m2 (fun _ m3 =>
            (((0 : Int) < z2 →
              ((0 < 1) ∧
  ((0 < 3) ∧
  ((0 ≤ a1 ∧ a1 < 6) ∧
  ((0 < 3) ∧
  ((0 < 1) ∧
  (((6 * 0 + a1.toNat) < 18) ∧
  jx_Cl 38 [xA 6 (6 * 0 + a1.toNat), xA 25 0, xI z2] m3 (fun _ m4 =>
                Q z2 m4)))))))) ∧
              (¬ ((0 : Int) < z2) →
              Q z2 m3))))))))))))))) :
    jx_Cl 30 [xA 0 0, xI a1] m Q :=
  jx_segOk (x := 30) (cd := jx_c30) rfl (stops := []) 28 hv
set_option maxRecDepth 100000 in
theorem sg_31_DRAFT  (m : jx_M) (Q : Int → jx_M → Prop) (hv :
    ((1 = 1) ∧
  ((0 < 1) ∧
  ((0 < 1) ∧
  jx_Cl 33 [xA 20 0, xI 0] m (fun z1 m1 =>
      jx_AW 31 11 [some (xA 20 0), some (xA 25 0), some (xI (min 12 25)), some (xI z1), some (xI 0), none, none] [] m1 Q))))) :
    jx_Cl 31 [xA 20 0, xA 25 0] m Q :=
  jx_segOk (x := 31) (cd := jx_c31) rfl (stops := [11]) 12 hv
set_option maxRecDepth 100000 in
theorem sg_31_DRAFT_11 (b2 : Int) (b3 : Int) (b4 : Int) (w5 : Option jx_V) (w6 : Option jx_V) (m : jx_M) (Q : Int → jx_M → Prop) (hv :
    ((b4 < b2 →
      ((0 < 1) ∧
  jx_Cl 28 [xA 20 0, xI b3] m (fun z1 m1 =>
        ((z1 = 0 →
          ((jx_in ((-20) - b3)) ∧
  Q ((-20) - b3) m1)) ∧
          (¬ (z1 = 0) →
          ((0 < 1) ∧
  jx_Cl 34 [xA 20 0, xI b3] m1 (fun z2 m2 =>
            ((0 < 1) ∧
  jx_Cl 35 [xA 20 0, xI b3, xI z2] m2 (fun z3 m3 =>
              jx_Cl 11 [xI z3] m3 (fun z4 m4 =>
                ((z4 = 0 →
                  ((jx_in ((-20) - b3)) ∧
  Q ((-20) - b3) m4)) ∧
                  (¬ (z4 = 0) →
                  (((0 : Int) < b4 →
                    ((jx_in (b4 - 1)) ∧
  ((1 = 1 ∧ 0 ≤ (b4 - 1) ∧ (b4 - 1) < 25) ∧
  ((0 < 1) ∧
  jx_Cl 36 [xI (m4 25 0 ((b4 - 1).toNat)), xI z3] m4 (fun z5 m5 =>
                      (((1 : Int) < z5 →
                        ((jx_in ((-20) - b3)) ∧
  Q ((-20) - b3) m5)) ∧
                        (¬ ((1 : Int) < z5) →
                        ((1 = 1 ∧ 0 ≤ b4 ∧ b4 < 25) ∧
  ((0 < 1) ∧
  ((0 < 1) ∧
  jx_Cl 33 [xA 20 0, xI z2] (jx_up m5 25 0 (b4.toNat) z3) (fun z6 m6 =>
                          ((0 < 1) ∧
  ((z6 < (m6 20 0 1) →
                            ((0 < 1) ∧
  ((1 = 1 ∧ 0 ≤ z6 ∧ z6 < 60) ∧
  ((0 < 1) ∧
  (((m6 21 0 (z6.toNat)) = 44 →
                              ((jx_in (b2 - 1)) ∧
  ((b4 = (b2 - 1) →
                                ((jx_in ((-20) - z6)) ∧
  Q ((-20) - z6) m6)) ∧
                                (¬ (b4 = (b2 - 1)) →
                                ((jx_in (z6 + 1)) ∧
  ((0 < 1) ∧
  jx_Cl 33 [xA 20 0, xI (z6 + 1)] m6 (fun z7 m7 =>
                                  ((jx_in (b4 + 1)) ∧
  jx_AW 31 11 [some (xA 20 0), some (xA 25 0), some (xI b2), some (xI z7), some (xI (b4 + 1)), some (xI z2), some (xI z3)] [] m7 Q)))))))) ∧
                              (¬ ((m6 21 0 (z6.toNat)) = 44) →
                              ((jx_in ((-20) - z6)) ∧
  Q ((-20) - z6) m6))))))) ∧
                            (¬ (z6 < (m6 20 0 1)) →
                            ((jx_in (b4 + 1)) ∧
  Q (b4 + 1) m6))))))))))))))) ∧
                    (¬ ((0 : Int) < b4) →
                    ((1 = 1 ∧ 0 ≤ b4 ∧ b4 < 25) ∧
  ((0 < 1) ∧
  ((0 < 1) ∧
  jx_Cl 33 [xA 20 0, xI z2] (jx_up m4 25 0 (b4.toNat) z3) (fun z8 m8 =>
                      ((0 < 1) ∧
  ((z8 < (m8 20 0 1) →
                        ((0 < 1) ∧
  ((1 = 1 ∧ 0 ≤ z8 ∧ z8 < 60) ∧
  ((0 < 1) ∧
  (((m8 21 0 (z8.toNat)) = 44 →
                          ((jx_in (b2 - 1)) ∧
  ((b4 = (b2 - 1) →
                            ((jx_in ((-20) - z8)) ∧
  Q ((-20) - z8) m8)) ∧
                            (¬ (b4 = (b2 - 1)) →
                            ((jx_in (z8 + 1)) ∧
  ((0 < 1) ∧
  jx_Cl 33 [xA 20 0, xI (z8 + 1)] m8 (fun z9 m9 =>
                              ((jx_in (b4 + 1)) ∧
  jx_AW 31 11 [some (xA 20 0), some (xA 25 0), some (xI b2), some (xI z9), some (xI (b4 + 1)), some (xI z2), some (xI z3)] [] m9 Q)))))))) ∧
                          (¬ ((m8 21 0 (z8.toNat)) = 44) →
                          ((jx_in ((-20) - z8)) ∧
  Q ((-20) - z8) m8))))))) ∧
                        (¬ (z8 < (m8 20 0 1)) →
                        ((jx_in (b4 + 1)) ∧
  Q (b4 + 1) m8)))))))))))))))))))))) ∧
      (¬ (b4 < b2) →
      ((jx_in ((-20) - b3)) ∧
  Q ((-20) - b3) m)))) :
    jx_AW 31 11 [some (xA 20 0), some (xA 25 0), some (xI b2), some (xI b3), some (xI b4), w5, w6] [] m Q :=
  jx_segOk (x := 31) (cd := jx_c31) rfl (stops := [11]) 62 hv
set_option maxRecDepth 100000 in
theorem sg_33 (a1 : Int) (m : jx_M) (Q : Int → jx_M → Prop) (hv :
    jx_AW 33 2 [some (xA 20 0), some (xI a1), some (xI a1)] [] m Q) :
    jx_Cl 33 [xA 20 0, xI a1] m Q :=
  jx_segOk (x := 33) (cd := jx_c33) rfl (stops := [2]) 3 hv
set_option maxRecDepth 100000 in
theorem sg_33_2 (b1 : Int) (b2 : Int) (m : jx_M) (Q : Int → jx_M → Prop) (hv :
    ((0 < 1) ∧
  ((b2 < (m 20 0 1) →
      ((0 < 1) ∧
  ((1 = 1 ∧ 0 ≤ b2 ∧ b2 < 60) ∧
  ((0 < 1) ∧
  (((m 21 0 (b2.toNat)) = 32 →
        ((jx_in (b2 + 1)) ∧
  jx_AW 33 2 [some (xA 20 0), some (xI b1), some (xI (b2 + 1))] [] m Q)) ∧
        (¬ ((m 21 0 (b2.toNat)) = 32) →
        Q b2 m)))))) ∧
      (¬ (b2 < (m 20 0 1)) →
      ((0 < 1) ∧
  Q (m 20 0 1) m))))) :
    jx_AW 33 2 [some (xA 20 0), some (xI b1), some (xI b2)] [] m Q :=
  jx_segOk (x := 33) (cd := jx_c33) rfl (stops := [2]) 13 hv
set_option maxRecDepth 100000 in
theorem sg_34 (a1 : Int) (m : jx_M) (Q : Int → jx_M → Prop) (hv :
    jx_AW 34 2 [some (xA 20 0), some (xI a1), some (xI a1)] [] m Q) :
    jx_Cl 34 [xA 20 0, xI a1] m Q :=
  jx_segOk (x := 34) (cd := jx_c34) rfl (stops := [2]) 3 hv
set_option maxRecDepth 100000 in
theorem sg_34_2 (b1 : Int) (b2 : Int) (m : jx_M) (Q : Int → jx_M → Prop) (hv :
    ((0 < 1) ∧
  ((b2 < (m 20 0 1) →
      ((0 < 1) ∧
  jx_Cl 28 [xA 20 0, xI b2] m (fun z1 m1 =>
        ((z1 = 0 →
          Q b2 m1) ∧
          (¬ (z1 = 0) →
          ((jx_in (b2 + 1)) ∧
  jx_AW 34 2 [some (xA 20 0), some (xI b1), some (xI (b2 + 1))] [] m1 Q)))))) ∧
      (¬ (b2 < (m 20 0 1)) →
      ((0 < 1) ∧
  Q (m 20 0 1) m))))) :
    jx_AW 34 2 [some (xA 20 0), some (xI b1), some (xI b2)] [] m Q :=
  jx_segOk (x := 34) (cd := jx_c34) rfl (stops := [2]) 11 hv
set_option maxRecDepth 100000 in
theorem sg_35 (a1 : Int) (a2 : Int) (m : jx_M) (Q : Int → jx_M → Prop) (hv :
    jx_AW 35 4 [some (xA 20 0), some (xI a1), some (xI a2), some (xI 0), some (xI a1)] [] m Q) :
    jx_Cl 35 [xA 20 0, xI a1, xI a2] m Q :=
  jx_segOk (x := 35) (cd := jx_c35) rfl (stops := [4]) 5 hv
set_option maxRecDepth 100000 in
theorem sg_35_4 (b1 : Int) (b2 : Int) (b3 : Int) (b4 : Int) (m : jx_M) (Q : Int → jx_M → Prop) (hv :
    ((b4 < b2 →
      ((jx_in (10 * b3)) ∧
  ((0 < 1) ∧
  ((1 = 1 ∧ 0 ≤ b4 ∧ b4 < 60) ∧
  ((0 < 1) ∧
  ((jx_in ((10 * b3) + (m 21 0 (b4.toNat)))) ∧
  ((jx_in (((10 * b3) + (m 21 0 (b4.toNat))) - 48)) ∧
  ((jx_in (b4 + 1)) ∧
  jx_AW 35 4 [some (xA 20 0), some (xI b1), some (xI b2), some (xI (min 25 (((10 * b3) + (m 21 0 (b4.toNat))) - 48))), some (xI (b4 + 1))] [] m Q)))))))) ∧
      (¬ (b4 < b2) →
      Q b3 m))) :
    jx_AW 35 4 [some (xA 20 0), some (xI b1), some (xI b2), some (xI b3), some (xI b4)] [] m Q :=
  jx_segOk (x := 35) (cd := jx_c35) rfl (stops := [4]) 19 hv
set_option maxRecDepth 100000 in
theorem sg_36 (a1 : Int) (a2 : Int) (m : jx_M) (Q : Int → jx_M → Prop) (hv :
    ((0 ≤ a1 ∧ 0 < (5 : Int)) ∧
  ((0 ≤ a2 ∧ 0 < (5 : Int)) ∧
  ((jx_in ((a1 / 5) - (a2 / 5))) ∧
  ((jx_in (-((a1 / 5) - (a2 / 5)))) ∧
  ((0 ≤ a1 ∧ 0 < (5 : Int)) ∧
  ((0 ≤ a2 ∧ 0 < (5 : Int)) ∧
  ((jx_in ((a1 % 5) - (a2 % 5))) ∧
  ((jx_in (-((a1 % 5) - (a2 % 5)))) ∧
  ((jx_in ((((a1 / 5) - (a2 / 5)).natAbs : Int) + (((a1 % 5) - (a2 % 5)).natAbs : Int))) ∧
  Q ((((a1 / 5) - (a2 / 5)).natAbs : Int) + (((a1 % 5) - (a2 % 5)).natAbs : Int)) m)))))))))) :
    jx_Cl 36 [xI a1, xI a2] m Q :=
  jx_segOk (x := 36) (cd := jx_c36) rfl (stops := []) 19 hv
set_option maxRecDepth 100000 in
theorem sg_38_DRAFT (t0 : Nat) (a2 : Int) (m : jx_M) (Q : Int → jx_M → Prop) (hv :
    ((1 = 1) ∧
  ((0 < 1) ∧
  ((t0 < 18) ∧
  jx_AW 38 10 [some (xA 6 t0), some (xA 25 0), some (xI a2), some (xI 0)] [] (jx_up m 6 t0 2 (min a2 (min 25 12))) Q)))) :
    jx_Cl 38 [xA 6 t0, xA 25 0, xI a2] m Q :=
  jx_segOk (x := 38) (cd := jx_c38) rfl (stops := [10]) 11 hv
set_option maxRecDepth 100000 in
theorem sg_38_DRAFT_10 (t0 : Nat) (b2 : Int) (b3 : Int) (m : jx_M) (Q : Int → jx_M → Prop) (hv :
    ((t0 < 18) ∧
  ((b3 < (m 6 t0 2) →
      ((t0 < 18) ∧
  ((1 = 1 ∧ 0 ≤ b3 ∧ b3 < 25) ∧
  ((0 < 1) ∧
  ((1 = 1 ∧ 0 ≤ b3 ∧ b3 < 12) ∧
  ((t0 < 18) ∧
  ((jx_in (b3 + 1)) ∧
  jx_AW 38 10 [some (xA 6 t0), some (xA 25 0), some (xI b2), some (xI (b3 + 1))] [] (jx_up m 7 t0 (b3.toNat) (m 25 0 (b3.toNat))) Q))))))) ∧
      (¬ (b3 < (m 6 t0 2)) →
      Q 0 m)))) :
    jx_AW 38 10 [some (xA 6 t0), some (xA 25 0), some (xI b2), some (xI b3)] [] m Q :=
  jx_segOk (x := 38) (cd := jx_c38) rfl (stops := [10]) 14 hv
set_option maxRecDepth 100000 in
theorem sg_38_CORN (t0 : Nat) (t1 : Nat) (a2 : Int) (m : jx_M) (Q : Int → jx_M → Prop) (hv :
    ((1 = 1) ∧
  ((t1 < 18) ∧
  ((t0 < 18) ∧
  jx_AW 38 10 [some (xA 6 t0), some (xA 7 t1), some (xI a2), some (xI 0)] [] (jx_up m 6 t0 2 (min a2 (min 12 12))) Q)))) :
    jx_Cl 38 [xA 6 t0, xA 7 t1, xI a2] m Q :=
  jx_segOk (x := 38) (cd := jx_c38) rfl (stops := [10]) 11 hv
set_option maxRecDepth 100000 in
theorem sg_38_CORN_10 (t0 : Nat) (t1 : Nat) (b2 : Int) (b3 : Int) (m : jx_M) (Q : Int → jx_M → Prop) (hv :
    ((t0 < 18) ∧
  ((b3 < (m 6 t0 2) →
      ((t0 < 18) ∧
  ((1 = 1 ∧ 0 ≤ b3 ∧ b3 < 12) ∧
  ((t1 < 18) ∧
  ((1 = 1 ∧ 0 ≤ b3 ∧ b3 < 12) ∧
  ((t0 < 18) ∧
  ((jx_in (b3 + 1)) ∧
  jx_AW 38 10 [some (xA 6 t0), some (xA 7 t1), some (xI b2), some (xI (b3 + 1))] [] (jx_up m 7 t0 (b3.toNat) (m 7 t1 (b3.toNat))) Q))))))) ∧
      (¬ (b3 < (m 6 t0 2)) →
      Q 0 m)))) :
    jx_AW 38 10 [some (xA 6 t0), some (xA 7 t1), some (xI b2), some (xI b3)] [] m Q :=
  jx_segOk (x := 38) (cd := jx_c38) rfl (stops := [10]) 14 hv
set_option maxRecDepth 100000 in
theorem sg_39 (a1 : Int) (m : jx_M) (Q : Int → jx_M → Prop) (hv :
    ((0 < 1) ∧
  ((0 < 3) ∧
  jx_Cl 19 [xA 1 0, xI a1] m (fun z1 m1 =>
      ((z1 = 0 →
        Q (-1) m1) ∧
        (¬ (z1 = 0) →
        ((0 < 1) ∧
  ((0 < 1) ∧
  ((0 < 1) ∧
  jx_Cl 27 [xA 20 0, xA 25 0, xI 1, xI 6] m1 (fun z2 m2 =>
          ((0 < 1) ∧
  ((0 < 1) ∧
  jx_Cl 29 [xA 20 0] m2 (fun _ m3 =>
            (((0 : Int) < z2 →
              ((0 < 1) ∧
  ((0 < 3) ∧
  ((0 ≤ a1 ∧ a1 < 6) ∧
  ((0 < 3) ∧
  ((0 < 1) ∧
  (((6 * 0 + a1.toNat) < 18) ∧
  jx_Cl 40 [xA 6 (6 * 0 + a1.toNat), xA 25 0, xI z2] m3 (fun _ m4 =>
                Q z2 m4)))))))) ∧
              (¬ ((0 : Int) < z2) →
              Q z2 m3))))))))))))))) :
    jx_Cl 39 [xA 0 0, xI a1] m Q :=
  jx_segOk (x := 39) (cd := jx_c39) rfl (stops := []) 30 hv
set_option maxRecDepth 100000 in
theorem sg_40_DRAFT (t0 : Nat) (a2 : Int) (m : jx_M) (Q : Int → jx_M → Prop) (hv :
    ((1 = 1) ∧
  ((0 < 1) ∧
  ((t0 < 18) ∧
  jx_AW 40 10 [some (xA 6 t0), some (xA 25 0), some (xI a2), some (xI 0)] [] (jx_up m 6 t0 3 (min a2 (min 25 6))) Q)))) :
    jx_Cl 40 [xA 6 t0, xA 25 0, xI a2] m Q :=
  jx_segOk (x := 40) (cd := jx_c40) rfl (stops := [10]) 11 hv
set_option maxRecDepth 100000 in
theorem sg_40_DRAFT_10 (t0 : Nat) (b2 : Int) (b3 : Int) (m : jx_M) (Q : Int → jx_M → Prop) (hv :
    ((t0 < 18) ∧
  ((b3 < (m 6 t0 3) →
      ((t0 < 18) ∧
  ((1 = 1 ∧ 0 ≤ b3 ∧ b3 < 25) ∧
  ((0 < 1) ∧
  ((1 = 1 ∧ 0 ≤ b3 ∧ b3 < 6) ∧
  ((t0 < 18) ∧
  ((jx_in (b3 + 1)) ∧
  jx_AW 40 10 [some (xA 6 t0), some (xA 25 0), some (xI b2), some (xI (b3 + 1))] [] (jx_up m 8 t0 (b3.toNat) (m 25 0 (b3.toNat))) Q))))))) ∧
      (¬ (b3 < (m 6 t0 3)) →
      ((t0 < 18) ∧
  ((t0 < 18) ∧
  jx_Cl 17 [xA 8 t0, xI (m 6 t0 3)] m (fun z1 m1 =>
        ((t0 < 18) ∧
  Q 0 (jx_up m1 6 t0 8 z1))))))))) :
    jx_AW 40 10 [some (xA 6 t0), some (xA 25 0), some (xI b2), some (xI b3)] [] m Q :=
  jx_segOk (x := 40) (cd := jx_c40) rfl (stops := [10]) 14 hv
set_option maxRecDepth 100000 in
theorem sg_40_NOTE (t0 : Nat) (t1 : Nat) (a2 : Int) (m : jx_M) (Q : Int → jx_M → Prop) (hv :
    ((1 = 1) ∧
  ((t1 < 18) ∧
  ((t0 < 18) ∧
  jx_AW 40 10 [some (xA 6 t0), some (xA 8 t1), some (xI a2), some (xI 0)] [] (jx_up m 6 t0 3 (min a2 (min 6 6))) Q)))) :
    jx_Cl 40 [xA 6 t0, xA 8 t1, xI a2] m Q :=
  jx_segOk (x := 40) (cd := jx_c40) rfl (stops := [10]) 11 hv
set_option maxRecDepth 100000 in
theorem sg_40_NOTE_10 (t0 : Nat) (t1 : Nat) (b2 : Int) (b3 : Int) (m : jx_M) (Q : Int → jx_M → Prop) (hv :
    ((t0 < 18) ∧
  ((b3 < (m 6 t0 3) →
      ((t0 < 18) ∧
  ((1 = 1 ∧ 0 ≤ b3 ∧ b3 < 6) ∧
  ((t1 < 18) ∧
  ((1 = 1 ∧ 0 ≤ b3 ∧ b3 < 6) ∧
  ((t0 < 18) ∧
  ((jx_in (b3 + 1)) ∧
  jx_AW 40 10 [some (xA 6 t0), some (xA 8 t1), some (xI b2), some (xI (b3 + 1))] [] (jx_up m 8 t0 (b3.toNat) (m 8 t1 (b3.toNat))) Q))))))) ∧
      (¬ (b3 < (m 6 t0 3)) →
      ((t0 < 18) ∧
  ((t0 < 18) ∧
  jx_Cl 17 [xA 8 t0, xI (m 6 t0 3)] m (fun z1 m1 =>
        ((t0 < 18) ∧
  Q 0 (jx_up m1 6 t0 8 z1))))))))) :
    jx_AW 40 10 [some (xA 6 t0), some (xA 8 t1), some (xI b2), some (xI b3)] [] m Q :=
  jx_segOk (x := 40) (cd := jx_c40) rfl (stops := [10]) 14 hv
set_option maxRecDepth 100000 in
theorem sg_41 (a1 : Int) (a2 : Int) (a3 : Int) (m : jx_M) (Q : Int → jx_M → Prop) (hv :
    ((0 < 1) ∧
  ((0 < 3) ∧
  jx_Cl 19 [xA 1 0, xI a1] m (fun z1 m1 =>
      ((z1 = 0 →
        Q (-1) m1) ∧
        (¬ (z1 = 0) →
        jx_Cl 12 [xI a2, xI 0, xI 1] m1 (fun z2 m2 =>
          ((z2 = 0 →
            Q (-1) m2) ∧
            (¬ (z2 = 0) →
            ((a3 < (-1) →
              Q (-1) m2) ∧
              (¬ (a3 < (-1)) →
              ((0 < 1) ∧
  ((0 < 3) ∧
  ((0 ≤ a1 ∧ a1 < 6) ∧
  ((0 < 3) ∧
  ((a2 = 0 →
                (((6 * 0 + a1.toNat) < 18) ∧
  ((a2 = 0 →
                  (((6 * 0 + a1.toNat) < 18) ∧
  ((a3 < 0 →
                    Q (m2 6 (6 * 0 + a1.toNat) 2) m2) ∧
                    (¬ (a3 < 0) →
                    ((a3 < (m2 6 (6 * 0 + a1.toNat) 2) →
                      ((1 = 1) ∧
  (((6 * 0 + a1.toNat) < 18) ∧
  ((a3 < 12 →
                        ((1 = 1 ∧ 0 ≤ a3 ∧ a3 < 12) ∧
  (((6 * 0 + a1.toNat) < 18) ∧
  Q (m2 7 (6 * 0 + a1.toNat) (a3.toNat)) m2))) ∧
                        (¬ (a3 < 12) →
                        Q (-4) m2))))) ∧
                      (¬ (a3 < (m2 6 (6 * 0 + a1.toNat) 2)) →
                      Q (-4) m2)))))) ∧
                  (¬ (a2 = 0) →
                  (((6 * 0 + a1.toNat) < 18) ∧
  ((a3 < 0 →
                    Q (m2 6 (6 * 0 + a1.toNat) 3) m2) ∧
                    (¬ (a3 < 0) →
                    ((a3 < (m2 6 (6 * 0 + a1.toNat) 3) →
                      ((1 = 1) ∧
  (((6 * 0 + a1.toNat) < 18) ∧
  ((a3 < 12 →
                        ((1 = 1 ∧ 0 ≤ a3 ∧ a3 < 12) ∧
  (((6 * 0 + a1.toNat) < 18) ∧
  Q (m2 7 (6 * 0 + a1.toNat) (a3.toNat)) m2))) ∧
                        (¬ (a3 < 12) →
                        Q (-4) m2))))) ∧
                      (¬ (a3 < (m2 6 (6 * 0 + a1.toNat) 3)) →
                      Q (-4) m2))))))))) ∧
                (¬ (a2 = 0) →
                (((6 * 0 + a1.toNat) < 18) ∧
  ((a2 = 0 →
                  (((6 * 0 + a1.toNat) < 18) ∧
  ((a3 < 0 →
                    Q (m2 6 (6 * 0 + a1.toNat) 2) m2) ∧
                    (¬ (a3 < 0) →
                    ((a3 < (m2 6 (6 * 0 + a1.toNat) 2) →
                      ((1 = 1) ∧
  (((6 * 0 + a1.toNat) < 18) ∧
  ((a3 < 6 →
                        ((1 = 1 ∧ 0 ≤ a3 ∧ a3 < 6) ∧
  (((6 * 0 + a1.toNat) < 18) ∧
  Q (m2 8 (6 * 0 + a1.toNat) (a3.toNat)) m2))) ∧
                        (¬ (a3 < 6) →
                        Q (-4) m2))))) ∧
                      (¬ (a3 < (m2 6 (6 * 0 + a1.toNat) 2)) →
                      Q (-4) m2)))))) ∧
                  (¬ (a2 = 0) →
                  (((6 * 0 + a1.toNat) < 18) ∧
  ((a3 < 0 →
                    Q (m2 6 (6 * 0 + a1.toNat) 3) m2) ∧
                    (¬ (a3 < 0) →
                    ((a3 < (m2 6 (6 * 0 + a1.toNat) 3) →
                      ((1 = 1) ∧
  (((6 * 0 + a1.toNat) < 18) ∧
  ((a3 < 6 →
                        ((1 = 1 ∧ 0 ≤ a3 ∧ a3 < 6) ∧
  (((6 * 0 + a1.toNat) < 18) ∧
  Q (m2 8 (6 * 0 + a1.toNat) (a3.toNat)) m2))) ∧
                        (¬ (a3 < 6) →
                        Q (-4) m2))))) ∧
                      (¬ (a3 < (m2 6 (6 * 0 + a1.toNat) 3)) →
                      Q (-4) m2))))))))))))))))))))))))) :
    jx_Cl 41 [xA 0 0, xI a1, xI a2, xI a3] m Q :=
  jx_segOk (x := 41) (cd := jx_c41) rfl (stops := []) 46 hv
set_option maxRecDepth 100000 in
theorem sg_42 (a1 : Int) (a2 : Int) (m : jx_M) (Q : Int → jx_M → Prop) (hv :
    ((0 < 1) ∧
  ((0 < 3) ∧
  jx_Cl 19 [xA 1 0, xI a1] m (fun z1 m1 =>
      ((z1 = 0 →
        Q (-1) m1) ∧
        (¬ (z1 = 0) →
        jx_Cl 21 [xI a2] m1 (fun z2 m2 =>
          ((z2 = 0 →
            Q (-1) m2) ∧
            (¬ (z2 = 0) →
            ((0 < 1) ∧
  ((0 < 3) ∧
  ((0 ≤ a1 ∧ a1 < 6) ∧
  ((0 < 3) ∧
  (((6 * 0 + a1.toNat) < 18) ∧
  jx_Cl 43 [xA 6 (6 * 0 + a1.toNat), xI a2] m2 (fun z3 m3 =>
              Q z3 m3))))))))))))))) :
    jx_Cl 42 [xA 0 0, xI a1, xI a2] m Q :=
  jx_segOk (x := 42) (cd := jx_c42) rfl (stops := []) 17 hv
set_option maxRecDepth 100000 in
theorem sg_43 (t0 : Nat) (a1 : Int) (m : jx_M) (Q : Int → jx_M → Prop) (hv :
    ((t0 < 18) ∧
  ((jx_in (a1 - (m 6 t0 6))) ∧
  (((a1 - (m 6 t0 6)) < 0 →
      Q (-4) m) ∧
      (¬ ((a1 - (m 6 t0 6)) < 0) →
      ((t0 < 18) ∧
  (((m 6 t0 7) < 1 →
        Q (-4) m) ∧
        (¬ ((m 6 t0 7) < 1) →
        ((t0 < 18) ∧
  ((0 ≤ (a1 - (m 6 t0 6)) ∧ 0 < (m 6 t0 7)) ∧
  ((t0 < 18) ∧
  ((((a1 - (m 6 t0 6)) / (m 6 t0 7)) < (m 6 t0 2) →
          ((t0 < 18) ∧
  ((1 = 1 ∧ 0 ≤ ((a1 - (m 6 t0 6)) / (m 6 t0 7)) ∧ ((a1 - (m 6 t0 6)) / (m 6 t0 7)) < 12) ∧
  ((t0 < 18) ∧
  Q (m 7 t0 (((a1 - (m 6 t0 6)) / (m 6 t0 7)).toNat)) m)))) ∧
          (¬ (((a1 - (m 6 t0 6)) / (m 6 t0 7)) < (m 6 t0 2)) →
          Q (-4) m))))))))))))) :
    jx_Cl 43 [xA 6 t0, xI a1] m Q :=
  jx_segOk (x := 43) (cd := jx_c43) rfl (stops := []) 27 hv
set_option maxRecDepth 100000 in
theorem sg_44 (a1 : Int) (m : jx_M) (Q : Int → jx_M → Prop) (hv :
    ((0 < 1) ∧
  ((0 < 3) ∧
  jx_Cl 19 [xA 1 0, xI a1] m (fun z1 m1 =>
      ((z1 = 0 →
        Q (-1) m1) ∧
        (¬ (z1 = 0) →
        ((0 < 1) ∧
  ((0 < 3) ∧
  ((0 ≤ a1 ∧ a1 < 6) ∧
  ((0 < 3) ∧
  ((0 < 1) ∧
  ((0 < 3) ∧
  (((6 * 0 + a1.toNat) < 18) ∧
  jx_Cl 45 [xA 6 (6 * 0 + a1.toNat), xI (m1 1 0 8)] m1 (fun z2 m2 =>
          Q z2 m2)))))))))))))) :
    jx_Cl 44 [xA 0 0, xI a1] m Q :=
  jx_segOk (x := 44) (cd := jx_c44) rfl (stops := []) 17 hv
set_option maxRecDepth 100000 in
theorem sg_45 (t0 : Nat) (a1 : Int) (m : jx_M) (Q : Int → jx_M → Prop) (hv :
    ((t0 < 18) ∧
  ((t0 < 18) ∧
  ((jx_in ((m 6 t0 5) + (m 6 t0 8))) ∧
  (((jx_iand a1 4) = 0 →
      Q ((m 6 t0 5) + (m 6 t0 8)) m) ∧
      (¬ ((jx_iand a1 4) = 0) →
      (((4 : Int) < ((m 6 t0 5) + (m 6 t0 8)) →
        Q 4 m) ∧
        (¬ ((4 : Int) < ((m 6 t0 5) + (m 6 t0 8))) →
        Q ((m 6 t0 5) + (m 6 t0 8)) m)))))))) :
    jx_Cl 45 [xA 6 t0, xI a1] m Q :=
  jx_segOk (x := 45) (cd := jx_c45) rfl (stops := []) 17 hv
set_option maxRecDepth 100000 in
theorem sg_46 (a1 : Int) (a2 : Int) (m : jx_M) (Q : Int → jx_M → Prop) (hv :
    jx_Cl 11 [xI a1] m (fun z1 m1 =>
      ((z1 = 0 →
        Q (-1) m1) ∧
        (¬ (z1 = 0) →
        jx_Cl 21 [xI a2] m1 (fun z2 m2 =>
          ((z2 = 0 →
            Q (-1) m2) ∧
            (¬ (z2 = 0) →
            jx_AW 46 12 [some (xA 0 0), some (xI a1), some (xI a2), some (xI 0), some (xI 0)] [] m2 Q))))))) :
    jx_Cl 46 [xA 0 0, xI a1, xI a2] m Q :=
  jx_segOk (x := 46) (cd := jx_c46) rfl (stops := [12]) 11 hv
set_option maxRecDepth 100000 in
theorem sg_46_12 (b1 : Int) (b2 : Int) (b3 : Int) (b4 : Int) (m : jx_M) (Q : Int → jx_M → Prop) (hv :
    ((0 < 1) ∧
  ((0 < 3) ∧
  ((b4 < (m 1 0 4) →
      ((0 < 1) ∧
  ((0 < 3) ∧
  jx_Cl 47 [xA 1 0, xI b4, xI b1, xI b2] m (fun z1 m1 =>
        ((z1 = 0 →
          ((jx_in (b4 + 1)) ∧
  jx_AW 46 12 [some (xA 0 0), some (xI b1), some (xI b2), some (xI b3), some (xI (b4 + 1))] [] m1 Q)) ∧
          (¬ (z1 = 0) →
          ((jx_in (b4 + 1)) ∧
  jx_AW 46 12 [some (xA 0 0), some (xI b1), some (xI b2), some (xI (jx_ior b3 (jx_ishl 1 b4))), some (xI (b4 + 1))] [] m1 Q))))))) ∧
      (¬ (b4 < (m 1 0 4)) →
      Q b3 m))))) :
    jx_AW 46 12 [some (xA 0 0), some (xI b1), some (xI b2), some (xI b3), some (xI b4)] [] m Q :=
  jx_segOk (x := 46) (cd := jx_c46) rfl (stops := [12]) 21 hv
set_option maxRecDepth 100000 in
theorem sg_47 (t0 : Nat) (a1 : Int) (a2 : Int) (a3 : Int) (m : jx_M) (Q : Int → jx_M → Prop) (hv :
    ((t0 < 3) ∧
  jx_Cl 48 [xA 1 t0, xI a1, xI a3] m (fun z1 m1 =>
      ((z1 = 0 →
        (((0 : Int) = 0 ∨ (0 : Int) = 1) ∧
  Q 0 m1)) ∧
        (¬ (z1 = 0) →
        ((t0 < 3) ∧
  jx_Cl 52 [xA 1 t0, xI a1, xI a2, xI a3] m1 (fun z2 m2 =>
          ((z2 = 0 →
            (((0 : Int) = 0 ∨ (0 : Int) = 1) ∧
  Q 0 m2)) ∧
            (¬ (z2 = 0) →
            (((1 : Int) = 0 ∨ (1 : Int) = 1) ∧
  Q 1 m2)))))))))) :
    jx_Cl 47 [xA 1 t0, xI a1, xI a2, xI a3] m Q :=
  jx_segOk (x := 47) (cd := jx_c47) rfl (stops := []) 15 hv
set_option maxRecDepth 100000 in
theorem sg_48 (t0 : Nat) (a1 : Int) (a2 : Int) (m : jx_M) (Q : Int → jx_M → Prop) (hv :
    jx_Cl 21 [xI a2] m (fun z1 m1 =>
      ((z1 = 0 →
        (((0 : Int) = 0 ∨ (0 : Int) = 1) ∧
  Q 0 m1)) ∧
        (¬ (z1 = 0) →
        ((t0 < 3) ∧
  ((0 ≤ a1 ∧ a1 < 6) ∧
  ((t0 < 3) ∧
  (((6 * t0 + a1.toNat) < 18) ∧
  jx_Cl 49 [xA 6 (6 * t0 + a1.toNat), xI a2] m1 (fun z2 m2 =>
          ((z2 = 0 →
            (((0 : Int) = 0 ∨ (0 : Int) = 1) ∧
  Q 0 m2)) ∧
            (¬ (z2 = 0) →
            ((t0 < 3) ∧
  (((jx_iand (m2 1 t0 8) 1) = 0 →
              ((t0 < 3) ∧
  (((jx_iand (m2 1 t0 8) 2) = 0 →
                ((t0 < 3) ∧
  (((jx_iand (m2 1 t0 8) 8) = 0 →
                  (((1 : Int) = 0 ∨ (1 : Int) = 1) ∧
  Q 1 m2)) ∧
                  (¬ ((jx_iand (m2 1 t0 8) 8) = 0) →
                  ((t0 < 3) ∧
  jx_Cl 51 [xA 1 t0, xI a1, xI a2] m2 (fun z3 m3 =>
                    ((z3 = 0 →
                      (((1 : Int) = 0 ∨ (1 : Int) = 1) ∧
  Q 1 m3)) ∧
                      (¬ (z3 = 0) →
                      (((0 : Int) = 0 ∨ (0 : Int) = 1) ∧
  Q 0 m3))))))))) ∧
                (¬ ((jx_iand (m2 1 t0 8) 2) = 0) →
                ((t0 < 3) ∧
  ((0 ≤ a1 ∧ a1 < 6) ∧
  ((t0 < 3) ∧
  (((6 * t0 + a1.toNat) < 18) ∧
  jx_Cl 43 [xA 6 (6 * t0 + a1.toNat), xI a2] m2 (fun z4 m4 =>
                  ((t0 < 3) ∧
  jx_Cl 50 [xA 1 t0, xI z4] m4 (fun z5 m5 =>
                    ((z5 = 0 →
                      ((t0 < 3) ∧
  (((jx_iand (m5 1 t0 8) 8) = 0 →
                        (((1 : Int) = 0 ∨ (1 : Int) = 1) ∧
  Q 1 m5)) ∧
                        (¬ ((jx_iand (m5 1 t0 8) 8) = 0) →
                        ((t0 < 3) ∧
  jx_Cl 51 [xA 1 t0, xI a1, xI a2] m5 (fun z6 m6 =>
                          ((z6 = 0 →
                            (((1 : Int) = 0 ∨ (1 : Int) = 1) ∧
  Q 1 m6)) ∧
                            (¬ (z6 = 0) →
                            (((0 : Int) = 0 ∨ (0 : Int) = 1) ∧
  Q 0 m6))))))))) ∧
                      (¬ (z5 = 0) →
                      (((0 : Int) = 0 ∨ (0 : Int) = 1) ∧
  Q 0 m5)))))))))))))) ∧
              (¬ ((jx_iand (m2 1 t0 8) 1) = 0) →
              ((a2 < 60 →
                ((t0 < 3) ∧
  (((jx_iand (m2 1 t0 8) 2) = 0 →
                  ((t0 < 3) ∧
  (((jx_iand (m2 1 t0 8) 8) = 0 →
                    (((1 : Int) = 0 ∨ (1 : Int) = 1) ∧
  Q 1 m2)) ∧
                    (¬ ((jx_iand (m2 1 t0 8) 8) = 0) →
                    ((t0 < 3) ∧
  jx_Cl 51 [xA 1 t0, xI a1, xI a2] m2 (fun z7 m7 =>
                      ((z7 = 0 →
                        (((1 : Int) = 0 ∨ (1 : Int) = 1) ∧
  Q 1 m7)) ∧
                        (¬ (z7 = 0) →
                        (((0 : Int) = 0 ∨ (0 : Int) = 1) ∧
  Q 0 m7))))))))) ∧
                  (¬ ((jx_iand (m2 1 t0 8) 2) = 0) →
                  ((t0 < 3) ∧
  ((0 ≤ a1 ∧ a1 < 6) ∧
  ((t0 < 3) ∧
  (((6 * t0 + a1.toNat) < 18) ∧
  jx_Cl 43 [xA 6 (6 * t0 + a1.toNat), xI a2] m2 (fun z8 m8 =>
                    ((t0 < 3) ∧
  jx_Cl 50 [xA 1 t0, xI z8] m8 (fun z9 m9 =>
                      ((z9 = 0 →
                        ((t0 < 3) ∧
  (((jx_iand (m9 1 t0 8) 8) = 0 →
                          (((1 : Int) = 0 ∨ (1 : Int) = 1) ∧
  Q 1 m9)) ∧
                          (¬ ((jx_iand (m9 1 t0 8) 8) = 0) →
                          ((t0 < 3) ∧
  jx_Cl 51 [xA 1 t0, xI a1, xI a2] m9 (fun z10 m10 =>
                            ((z10 = 0 →
                              (((1 : Int) = 0 ∨ (1 : Int) = 1) ∧
  Q 1 m10)) ∧
                              (¬ (z10 = 0) →
                              (((0 : Int) = 0 ∨ (0 : Int) = 1) ∧
  Q 0 m10))))))))) ∧
                        (¬ (z9 = 0) →
                        (((0 : Int) = 0 ∨ (0 : Int) = 1) ∧
  Q 0 m9)))))))))))))) ∧
                (¬ (a2 < 60) →
                (((0 : Int) = 0 ∨ (0 : Int) = 1) ∧
  Q 0 m2))))))))))))))))) :
    jx_Cl 48 [xA 1 t0, xI a1, xI a2] m Q :=
  jx_segOk (x := 48) (cd := jx_c48) rfl (stops := []) 46 hv
set_option maxRecDepth 100000 in
theorem sg_49 (t0 : Nat) (a1 : Int) (m : jx_M) (Q : Int → jx_M → Prop) (hv :
    ((t0 < 18) ∧
  ((jx_in (a1 - (m 6 t0 6))) ∧
  (((a1 - (m 6 t0 6)) < 0 →
      (((0 : Int) = 0 ∨ (0 : Int) = 1) ∧
  Q 0 m)) ∧
      (¬ ((a1 - (m 6 t0 6)) < 0) →
      ((t0 < 18) ∧
  (((m 6 t0 7) < 1 →
        (((0 : Int) = 0 ∨ (0 : Int) = 1) ∧
  Q 0 m)) ∧
        (¬ ((m 6 t0 7) < 1) →
        ((t0 < 18) ∧
  ((0 ≤ (a1 - (m 6 t0 6)) ∧ 0 < (m 6 t0 7)) ∧
  ((((a1 - (m 6 t0 6)) % (m 6 t0 7)) = 0 →
          ((t0 < 18) ∧
  ((0 ≤ (a1 - (m 6 t0 6)) ∧ 0 < (m 6 t0 7)) ∧
  ((t0 < 18) ∧
  ((((a1 - (m 6 t0 6)) / (m 6 t0 7)) < (m 6 t0 2) →
            (((1 : Int) = 0 ∨ (1 : Int) = 1) ∧
  Q 1 m)) ∧
            (¬ (((a1 - (m 6 t0 6)) / (m 6 t0 7)) < (m 6 t0 2)) →
            (((0 : Int) = 0 ∨ (0 : Int) = 1) ∧
  Q 0 m))))))) ∧
          (¬ (((a1 - (m 6 t0 6)) % (m 6 t0 7)) = 0) →
          (((0 : Int) = 0 ∨ (0 : Int) = 1) ∧
  Q 0 m))))))))))))) :
    jx_Cl 49 [xA 6 t0, xI a1] m Q :=
  jx_segOk (x := 49) (cd := jx_c49) rfl (stops := []) 27 hv
set_option maxRecDepth 100000 in
theorem sg_50 (t0 : Nat) (a1 : Int) (m : jx_M) (Q : Int → jx_M → Prop) (hv :
    jx_Cl 11 [xI a1] m (fun z1 m1 =>
      ((z1 = 0 →
        (((0 : Int) = 0 ∨ (0 : Int) = 1) ∧
  Q 0 m1)) ∧
        (¬ (z1 = 0) →
        ((t0 < 3) ∧
  ((1 = 1 ∧ 0 ≤ a1 ∧ a1 < 25) ∧
  ((t0 < 3) ∧
  (((m1 2 t0 (a1.toNat)) = 0 →
          (((1 : Int) = 0 ∨ (1 : Int) = 1) ∧
  Q 1 m1)) ∧
          (¬ ((m1 2 t0 (a1.toNat)) = 0) →
          (((0 : Int) = 0 ∨ (0 : Int) = 1) ∧
  Q 0 m1)))))))))) :
    jx_Cl 50 [xA 1 t0, xI a1] m Q :=
  jx_segOk (x := 50) (cd := jx_c50) rfl (stops := []) 12 hv
set_option maxRecDepth 100000 in
theorem sg_51 (t0 : Nat) (a1 : Int) (a2 : Int) (m : jx_M) (Q : Int → jx_M → Prop) (hv :
    ((t0 < 3) ∧
  ((0 ≤ a1 ∧ a1 < 6) ∧
  ((t0 < 3) ∧
  (((6 * t0 + a1.toNat) < 18) ∧
  jx_Cl 43 [xA 6 (6 * t0 + a1.toNat), xI a2] m (fun z1 m1 =>
      jx_AW 51 9 [some (xA 1 t0), some (xI a1), some (xI a2), some (xI z1), some (xI 0), none] [] m1 Q)))))) :
    jx_Cl 51 [xA 1 t0, xI a1, xI a2] m Q :=
  jx_segOk (x := 51) (cd := jx_c51) rfl (stops := [9]) 10 hv
set_option maxRecDepth 100000 in
theorem sg_51_9 (t0 : Nat) (b1 : Int) (b2 : Int) (b3 : Int) (b4 : Int) (w5 : Option jx_V) (m : jx_M) (Q : Int → jx_M → Prop) (hv :
    ((b4 < b1 →
      ((t0 < 3) ∧
  ((0 ≤ b4 ∧ b4 < 6) ∧
  ((t0 < 3) ∧
  (((6 * t0 + b4.toNat) < 18) ∧
  jx_Cl 43 [xA 6 (6 * t0 + b4.toNat), xI b2] m (fun z1 m1 =>
        ((t0 < 3) ∧
  ((0 ≤ b4 ∧ b4 < 6) ∧
  ((t0 < 3) ∧
  (((6 * t0 + b4.toNat) < 18) ∧
  ((t0 < 3) ∧
  ((0 ≤ b1 ∧ b1 < 6) ∧
  ((t0 < 3) ∧
  (((6 * t0 + b1.toNat) < 18) ∧
  (((m1 6 (6 * t0 + b4.toNat) 4) = (m1 6 (6 * t0 + b1.toNat) 4) →
          ((z1 < 0 →
            ((jx_in (b4 + 1)) ∧
  jx_AW 51 9 [some (xA 1 t0), some (xI b1), some (xI b2), some (xI b3), some (xI (b4 + 1)), some (xI z1)] [] m1 Q)) ∧
            (¬ (z1 < 0) →
            jx_Cl 36 [xI b3, xI z1] m1 (fun z2 m2 =>
              (((2 : Int) < z2 →
                ((jx_in (b4 + 1)) ∧
  jx_AW 51 9 [some (xA 1 t0), some (xI b1), some (xI b2), some (xI b3), some (xI (b4 + 1)), some (xI z1)] [] m2 Q)) ∧
                (¬ ((2 : Int) < z2) →
                (((1 : Int) = 0 ∨ (1 : Int) = 1) ∧
  Q 1 m2))))))) ∧
          (¬ ((m1 6 (6 * t0 + b4.toNat) 4) = (m1 6 (6 * t0 + b1.toNat) 4)) →
          ((jx_in (b4 + 1)) ∧
  jx_AW 51 9 [some (xA 1 t0), some (xI b1), some (xI b2), some (xI b3), some (xI (b4 + 1)), some (xI z1)] [] m1 Q))))))))))))))))) ∧
      (¬ (b4 < b1) →
      (((0 : Int) = 0 ∨ (0 : Int) = 1) ∧
  Q 0 m)))) :
    jx_AW 51 9 [some (xA 1 t0), some (xI b1), some (xI b2), some (xI b3), some (xI b4), w5] [] m Q :=
  jx_segOk (x := 51) (cd := jx_c51) rfl (stops := [9]) 31 hv
set_option maxRecDepth 100000 in
theorem sg_52 (t0 : Nat) (a1 : Int) (a2 : Int) (a3 : Int) (m : jx_M) (Q : Int → jx_M → Prop) (hv :
    ((t0 < 3) ∧
  ((0 ≤ a1 ∧ a1 < 6) ∧
  ((t0 < 3) ∧
  (((6 * t0 + a1.toNat) < 18) ∧
  jx_Cl 43 [xA 6 (6 * t0 + a1.toNat), xI a3] m (fun z1 m1 =>
      ((z1 < 0 →
        (((0 : Int) = 0 ∨ (0 : Int) = 1) ∧
  Q 0 m1)) ∧
        (¬ (z1 < 0) →
        jx_Cl 36 [xI z1, xI a2] m1 (fun z2 m2 =>
          ((t0 < 3) ∧
  ((0 ≤ a1 ∧ a1 < 6) ∧
  ((t0 < 3) ∧
  ((t0 < 3) ∧
  (((6 * t0 + a1.toNat) < 18) ∧
  jx_Cl 45 [xA 6 (6 * t0 + a1.toNat), xI (m2 1 t0 8)] m2 (fun z3 m3 =>
            ((t0 < 3) ∧
  ((1 = 1 ∧ 0 ≤ a2 ∧ a2 < 25) ∧
  ((t0 < 3) ∧
  ((jx_in (z3 - (m3 2 t0 (a2.toNat)))) ∧
  (((z3 - (m3 2 t0 (a2.toNat))) < z2 →
              (((0 : Int) = 0 ∨ (0 : Int) = 1) ∧
  Q 0 m3)) ∧
              (¬ ((z3 - (m3 2 t0 (a2.toNat))) < z2) →
              (((1 : Int) = 0 ∨ (1 : Int) = 1) ∧
  Q 1 m3)))))))))))))))))))))) :
    jx_Cl 52 [xA 1 t0, xI a1, xI a2, xI a3] m Q :=
  jx_segOk (x := 52) (cd := jx_c52) rfl (stops := []) 29 hv
set_option maxRecDepth 100000 in
theorem sg_53 (a1 : Int) (a2 : Int) (m : jx_M) (Q : Int → jx_M → Prop) (hv :
    ((0 < 1) ∧
  ((0 < 3) ∧
  jx_Cl 19 [xA 1 0, xI a1] m (fun z1 m1 =>
      ((z1 = 0 →
        Q (-1) m1) ∧
        (¬ (z1 = 0) →
        ((0 < 1) ∧
  ((0 < 3) ∧
  jx_Cl 19 [xA 1 0, xI a2] m1 (fun z2 m2 =>
          ((z2 = 0 →
            Q (-1) m2) ∧
            (¬ (z2 = 0) →
            ((0 < 1) ∧
  ((0 < 3) ∧
  ((0 ≤ a2 ∧ a2 < 6) ∧
  ((0 < 3) ∧
  ((0 < 1) ∧
  ((0 < 3) ∧
  ((0 ≤ a1 ∧ a1 < 6) ∧
  ((0 < 3) ∧
  (((6 * 0 + a2.toNat) < 18) ∧
  (((6 * 0 + a2.toNat) < 18) ∧
  (((6 * 0 + a1.toNat) < 18) ∧
  jx_Cl 54 [xA 6 (6 * 0 + a1.toNat), xA 8 (6 * 0 + a2.toNat), xI (m2 6 (6 * 0 + a2.toNat) 3)] m2 (fun z3 m3 =>
              Q z3 m3))))))))))))))))))))))) :
    jx_Cl 53 [xA 0 0, xI a1, xI a2] m Q :=
  jx_segOk (x := 53) (cd := jx_c53) rfl (stops := []) 28 hv
set_option maxRecDepth 100000 in
theorem sg_54_NOTE (t0 : Nat) (t1 : Nat) (a2 : Int) (m : jx_M) (Q : Int → jx_M → Prop) (hv :
    ((1 = 1) ∧
  ((t1 < 18) ∧
  ((t0 < 18) ∧
  ((t0 < 18) ∧
  ((jx_in (a2 - (m 6 t0 3))) ∧
  ((jx_in (-(a2 - (m 6 t0 3)))) ∧
  ((jx_in (4 * ((a2 - (m 6 t0 3)).natAbs : Int))) ∧
  jx_AW 54 18 [some (xA 6 t0), some (xA 8 t1), some (xI a2), some (xI (min (min a2 6) (m 6 t0 3))), some (xI (4 * ((a2 - (m 6 t0 3)).natAbs : Int))), some (xI 0)] [] m Q)))))))) :
    jx_Cl 54 [xA 6 t0, xA 8 t1, xI a2] m Q :=
  jx_segOk (x := 54) (cd := jx_c54) rfl (stops := [18]) 19 hv
set_option maxRecDepth 100000 in
theorem sg_54_NOTE_18 (t0 : Nat) (t1 : Nat) (b2 : Int) (b3 : Int) (b4 : Int) (b5 : Int) (m : jx_M) (Q : Int → jx_M → Prop) (hv :
    ((b5 < b3 →
      ((1 = 1 ∧ 0 ≤ b5 ∧ b5 < 6) ∧
  ((t1 < 18) ∧
  ((t0 < 18) ∧
  ((1 = 1 ∧ 0 ≤ b5 ∧ b5 < 6) ∧
  ((t0 < 18) ∧
  ((jx_in ((m 8 t1 (b5.toNat)) - (m 8 t0 (b5.toNat)))) ∧
  ((jx_in (-((m 8 t1 (b5.toNat)) - (m 8 t0 (b5.toNat))))) ∧
  ((jx_in (b4 + (((m 8 t1 (b5.toNat)) - (m 8 t0 (b5.toNat))).natAbs : Int))) ∧
  ((jx_in (b5 + 1)) ∧
  jx_AW 54 18 [some (xA 6 t0), some (xA 8 t1), some (xI b2), some (xI b3), some (xI (b4 + (((m 8 t1 (b5.toNat)) - (m 8 t0 (b5.toNat))).natAbs : Int))), some (xI (b5 + 1))] [] m Q)))))))))) ∧
      (¬ (b5 < b3) →
      Q b4 m))) :
    jx_AW 54 18 [some (xA 6 t0), some (xA 8 t1), some (xI b2), some (xI b3), some (xI b4), some (xI b5)] [] m Q :=
  jx_segOk (x := 54) (cd := jx_c54) rfl (stops := [18]) 18 hv
set_option maxRecDepth 100000 in
theorem sg_54_DRAFT (t0 : Nat) (a2 : Int) (m : jx_M) (Q : Int → jx_M → Prop) (hv :
    ((1 = 1) ∧
  ((0 < 1) ∧
  ((t0 < 18) ∧
  ((t0 < 18) ∧
  ((jx_in (a2 - (m 6 t0 3))) ∧
  ((jx_in (-(a2 - (m 6 t0 3)))) ∧
  ((jx_in (4 * ((a2 - (m 6 t0 3)).natAbs : Int))) ∧
  jx_AW 54 18 [some (xA 6 t0), some (xA 25 0), some (xI a2), some (xI (min (min a2 25) (m 6 t0 3))), some (xI (4 * ((a2 - (m 6 t0 3)).natAbs : Int))), some (xI 0)] [] m Q)))))))) :
    jx_Cl 54 [xA 6 t0, xA 25 0, xI a2] m Q :=
  jx_segOk (x := 54) (cd := jx_c54) rfl (stops := [18]) 19 hv
set_option maxRecDepth 100000 in
theorem sg_54_DRAFT_18 (t0 : Nat) (b2 : Int) (b3 : Int) (b4 : Int) (b5 : Int) (m : jx_M) (Q : Int → jx_M → Prop) (hv :
    ((b5 < b3 →
      ((1 = 1 ∧ 0 ≤ b5 ∧ b5 < 25) ∧
  ((0 < 1) ∧
  ((t0 < 18) ∧
  ((1 = 1 ∧ 0 ≤ b5 ∧ b5 < 6) ∧
  ((t0 < 18) ∧
  ((jx_in ((m 25 0 (b5.toNat)) - (m 8 t0 (b5.toNat)))) ∧
  ((jx_in (-((m 25 0 (b5.toNat)) - (m 8 t0 (b5.toNat))))) ∧
  ((jx_in (b4 + (((m 25 0 (b5.toNat)) - (m 8 t0 (b5.toNat))).natAbs : Int))) ∧
  ((jx_in (b5 + 1)) ∧
  jx_AW 54 18 [some (xA 6 t0), some (xA 25 0), some (xI b2), some (xI b3), some (xI (b4 + (((m 25 0 (b5.toNat)) - (m 8 t0 (b5.toNat))).natAbs : Int))), some (xI (b5 + 1))] [] m Q)))))))))) ∧
      (¬ (b5 < b3) →
      Q b4 m))) :
    jx_AW 54 18 [some (xA 6 t0), some (xA 25 0), some (xI b2), some (xI b3), some (xI b4), some (xI b5)] [] m Q :=
  jx_segOk (x := 54) (cd := jx_c54) rfl (stops := [18]) 18 hv
set_option maxRecDepth 100000 in
theorem sg_55 (a1 : Int) (m : jx_M) (Q : Int → jx_M → Prop) (hv :
    jx_Cl 12 [xI a1, xI 0, xI 20] m (fun z1 m1 =>
      ((z1 = 0 →
        Q (-1) m1) ∧
        (¬ (z1 = 0) →
        ((0 < 1) ∧
  ((0 < 3) ∧
  ((0 < 1) ∧
  ((0 < 3) ∧
  Q (m1 1 0 7) (jx_up m1 1 0 7 a1))))))))) :
    jx_Cl 55 [xA 0 0, xI a1] m Q :=
  jx_segOk (x := 55) (cd := jx_c55) rfl (stops := []) 16 hv
set_option maxRecDepth 100000 in
theorem sg_56 (a1 : Int) (a2 : Int) (m : jx_M) (Q : Int → jx_M → Prop) (hv :
    jx_Cl 57 [xI a1] m (fun z1 m1 =>
      ((z1 = 0 →
        Q (-1) m1) ∧
        (¬ (z1 = 0) →
        ((0 < 1) ∧
  ((0 < 3) ∧
  (((jx_iand (m1 1 0 8) (jx_ishl 1 a1)) = 0 →
          ((0 < 1) ∧
  ((a2 = 0 →
            ((0 < 1) ∧
  ((0 < 3) ∧
  ((0 < 3) ∧
  Q 0 (jx_up m1 1 0 8 (jx_iand (m1 1 0 8) (jx_ixor (jx_ishl 1 a1) (-1)))))))) ∧
            (¬ (a2 = 0) →
            ((0 < 1) ∧
  ((0 < 3) ∧
  ((0 < 3) ∧
  Q 0 (jx_up m1 1 0 8 (jx_ior (m1 1 0 8) (jx_ishl 1 a1)))))))))) ∧
          (¬ ((jx_iand (m1 1 0 8) (jx_ishl 1 a1)) = 0) →
          ((0 < 1) ∧
  ((a2 = 0 →
            ((0 < 1) ∧
  ((0 < 3) ∧
  ((0 < 3) ∧
  Q 1 (jx_up m1 1 0 8 (jx_iand (m1 1 0 8) (jx_ixor (jx_ishl 1 a1) (-1)))))))) ∧
            (¬ (a2 = 0) →
            ((0 < 1) ∧
  ((0 < 3) ∧
  ((0 < 3) ∧
  Q 1 (jx_up m1 1 0 8 (jx_ior (m1 1 0 8) (jx_ishl 1 a1))))))))))))))))) :
    jx_Cl 56 [xA 0 0, xI a1, xI a2] m Q :=
  jx_segOk (x := 56) (cd := jx_c56) rfl (stops := []) 31 hv
set_option maxRecDepth 100000 in
theorem sg_57 (a1 : Int) (m : jx_M) (Q : Int → jx_M → Prop) (hv :
    ((a1 < 0 →
      (((0 : Int) = 0 ∨ (0 : Int) = 1) ∧
  Q 0 m)) ∧
      (¬ (a1 < 0) →
      ((a1 < 4 →
        (((1 : Int) = 0 ∨ (1 : Int) = 1) ∧
  Q 1 m)) ∧
        (¬ (a1 < 4) →
        (((0 : Int) = 0 ∨ (0 : Int) = 1) ∧
  Q 0 m)))))) :
    jx_Cl 57 [xI a1] m Q :=
  jx_segOk (x := 57) (cd := jx_c57) rfl (stops := []) 9 hv
set_option maxRecDepth 100000 in
theorem sg_58 (a1 : Int) (m : jx_M) (Q : Int → jx_M → Prop) (hv :
    ((a1 = 0 →
      ((0 < 1) ∧
  ((0 < 3) ∧
  Q (m 1 0 4) m))) ∧
      (¬ (a1 = 0) →
      ((a1 = 1 →
      ((0 < 1) ∧
  ((0 < 3) ∧
  Q (m 1 0 5) m))) ∧
      (¬ (a1 = 1) →
      ((a1 = 2 →
      ((0 < 1) ∧
  ((0 < 3) ∧
  Q (m 1 0 6) m))) ∧
      (¬ (a1 = 2) →
      ((a1 = 3 →
      ((0 < 1) ∧
  ((0 < 3) ∧
  jx_Cl 59 [xI (m 1 0 8)] m (fun z1 m1 =>
        Q z1 m1)))) ∧
      (¬ (a1 = 3) →
      Q (-1) m))))))))) :
    jx_Cl 58 [xA 0 0, xI a1] m Q :=
  jx_segOk (x := 58) (cd := jx_c58) rfl (stops := []) 8 hv
set_option maxRecDepth 100000 in
theorem sg_59 (a1 : Int) (m : jx_M) (Q : Int → jx_M → Prop) (hv :
    ((jx_in (a1 - (jx_iand (jx_iushr a1 1) 1431655765))) ∧
  ((jx_in ((jx_iand (a1 - (jx_iand (jx_iushr a1 1) 1431655765)) 858993459) + (jx_iand (jx_iushr (a1 - (jx_iand (jx_iushr a1 1) 1431655765)) 2) 858993459))) ∧
  ((jx_in (((jx_iand (a1 - (jx_iand (jx_iushr a1 1) 1431655765)) 858993459) + (jx_iand (jx_iushr (a1 - (jx_iand (jx_iushr a1 1) 1431655765)) 2) 858993459)) + (jx_iushr ((jx_iand (a1 - (jx_iand (jx_iushr a1 1) 1431655765)) 858993459) + (jx_iand (jx_iushr (a1 - (jx_iand (jx_iushr a1 1) 1431655765)) 2) 858993459)) 4))) ∧
  ((jx_in ((jx_iand (((jx_iand (a1 - (jx_iand (jx_iushr a1 1) 1431655765)) 858993459) + (jx_iand (jx_iushr (a1 - (jx_iand (jx_iushr a1 1) 1431655765)) 2) 858993459)) + (jx_iushr ((jx_iand (a1 - (jx_iand (jx_iushr a1 1) 1431655765)) 858993459) + (jx_iand (jx_iushr (a1 - (jx_iand (jx_iushr a1 1) 1431655765)) 2) 858993459)) 4)) 252645135) + (jx_iushr (jx_iand (((jx_iand (a1 - (jx_iand (jx_iushr a1 1) 1431655765)) 858993459) + (jx_iand (jx_iushr (a1 - (jx_iand (jx_iushr a1 1) 1431655765)) 2) 858993459)) + (jx_iushr ((jx_iand (a1 - (jx_iand (jx_iushr a1 1) 1431655765)) 858993459) + (jx_iand (jx_iushr (a1 - (jx_iand (jx_iushr a1 1) 1431655765)) 2) 858993459)) 4)) 252645135) 8))) ∧
  ((jx_in (((jx_iand (((jx_iand (a1 - (jx_iand (jx_iushr a1 1) 1431655765)) 858993459) + (jx_iand (jx_iushr (a1 - (jx_iand (jx_iushr a1 1) 1431655765)) 2) 858993459)) + (jx_iushr ((jx_iand (a1 - (jx_iand (jx_iushr a1 1) 1431655765)) 858993459) + (jx_iand (jx_iushr (a1 - (jx_iand (jx_iushr a1 1) 1431655765)) 2) 858993459)) 4)) 252645135) + (jx_iushr (jx_iand (((jx_iand (a1 - (jx_iand (jx_iushr a1 1) 1431655765)) 858993459) + (jx_iand (jx_iushr (a1 - (jx_iand (jx_iushr a1 1) 1431655765)) 2) 858993459)) + (jx_iushr ((jx_iand (a1 - (jx_iand (jx_iushr a1 1) 1431655765)) 858993459) + (jx_iand (jx_iushr (a1 - (jx_iand (jx_iushr a1 1) 1431655765)) 2) 858993459)) 4)) 252645135) 8)) + (jx_iushr ((jx_iand (((jx_iand (a1 - (jx_iand (jx_iushr a1 1) 1431655765)) 858993459) + (jx_iand (jx_iushr (a1 - (jx_iand (jx_iushr a1 1) 1431655765)) 2) 858993459)) + (jx_iushr ((jx_iand (a1 - (jx_iand (jx_iushr a1 1) 1431655765)) 858993459) + (jx_iand (jx_iushr (a1 - (jx_iand (jx_iushr a1 1) 1431655765)) 2) 858993459)) 4)) 252645135) + (jx_iushr (jx_iand (((jx_iand (a1 - (jx_iand (jx_iushr a1 1) 1431655765)) 858993459) + (jx_iand (jx_iushr (a1 - (jx_iand (jx_iushr a1 1) 1431655765)) 2) 858993459)) + (jx_iushr ((jx_iand (a1 - (jx_iand (jx_iushr a1 1) 1431655765)) 858993459) + (jx_iand (jx_iushr (a1 - (jx_iand (jx_iushr a1 1) 1431655765)) 2) 858993459)) 4)) 252645135) 8)) 16))) ∧
  Q (jx_iand (((jx_iand (((jx_iand (a1 - (jx_iand (jx_iushr a1 1) 1431655765)) 858993459) + (jx_iand (jx_iushr (a1 - (jx_iand (jx_iushr a1 1) 1431655765)) 2) 858993459)) + (jx_iushr ((jx_iand (a1 - (jx_iand (jx_iushr a1 1) 1431655765)) 858993459) + (jx_iand (jx_iushr (a1 - (jx_iand (jx_iushr a1 1) 1431655765)) 2) 858993459)) 4)) 252645135) + (jx_iushr (jx_iand (((jx_iand (a1 - (jx_iand (jx_iushr a1 1) 1431655765)) 858993459) + (jx_iand (jx_iushr (a1 - (jx_iand (jx_iushr a1 1) 1431655765)) 2) 858993459)) + (jx_iushr ((jx_iand (a1 - (jx_iand (jx_iushr a1 1) 1431655765)) 858993459) + (jx_iand (jx_iushr (a1 - (jx_iand (jx_iushr a1 1) 1431655765)) 2) 858993459)) 4)) 252645135) 8)) + (jx_iushr ((jx_iand (((jx_iand (a1 - (jx_iand (jx_iushr a1 1) 1431655765)) 858993459) + (jx_iand (jx_iushr (a1 - (jx_iand (jx_iushr a1 1) 1431655765)) 2) 858993459)) + (jx_iushr ((jx_iand (a1 - (jx_iand (jx_iushr a1 1) 1431655765)) 858993459) + (jx_iand (jx_iushr (a1 - (jx_iand (jx_iushr a1 1) 1431655765)) 2) 858993459)) 4)) 252645135) + (jx_iushr (jx_iand (((jx_iand (a1 - (jx_iand (jx_iushr a1 1) 1431655765)) 858993459) + (jx_iand (jx_iushr (a1 - (jx_iand (jx_iushr a1 1) 1431655765)) 2) 858993459)) + (jx_iushr ((jx_iand (a1 - (jx_iand (jx_iushr a1 1) 1431655765)) 858993459) + (jx_iand (jx_iushr (a1 - (jx_iand (jx_iushr a1 1) 1431655765)) 2) 858993459)) 4)) 252645135) 8)) 16)) 63) m)))))) :
    jx_Cl 59 [xI a1] m Q :=
  jx_segOk (x := 59) (cd := jx_c59) rfl (stops := []) 43 hv
set_option maxRecDepth 100000 in
theorem sg_60 (a1 : Int) (a2 : Int) (a3 : Int) (a4 : Int) (m : jx_M) (Q : Int → jx_M → Prop) (hv :
    jx_Cl 11 [xI a1] m (fun z1 m1 =>
      ((z1 = 0 →
        Q (-1) m1) ∧
        (¬ (z1 = 0) →
        jx_Cl 14 [xI a2] m1 (fun z2 m2 =>
          ((z2 = 0 →
            Q (-1) m2) ∧
            (¬ (z2 = 0) →
            jx_Cl 12 [xI a3, xI 0, xI 5] m2 (fun z3 m3 =>
              ((z3 = 0 →
                Q (-1) m3) ∧
                (¬ (z3 = 0) →
                jx_Cl 12 [xI a4, xI 0, xI 20] m3 (fun z4 m4 =>
                  ((z4 = 0 →
                    Q (-1) m4) ∧
                    (¬ (z4 = 0) →
                    ((0 < 1) ∧
  ((0 < 3) ∧
  (((m4 1 0 5) < 12 →
                      ((0 < 1) ∧
  ((0 < 3) ∧
  ((0 < 1) ∧
  ((0 < 3) ∧
  ((0 ≤ (m4 1 0 5) ∧ (m4 1 0 5) < 12) ∧
  ((0 < 3) ∧
  (((12 * 0 + (m4 1 0 5).toNat) < 36) ∧
  jx_Cl 61 [xA 9 (12 * 0 + (m4 1 0 5).toNat), xI a1, xI a2, xI a3, xI a4] m4 (fun _ m5 =>
                        ((0 < 1) ∧
  ((jx_in ((m4 1 0 5) + 1)) ∧
  ((0 < 3) ∧
  Q (m4 1 0 5) (jx_up m5 1 0 5 ((m4 1 0 5) + 1)))))))))))))) ∧
                      (¬ ((m4 1 0 5) < 12) →
                      Q (-3) m4))))))))))))))))) :
    jx_Cl 60 [xA 0 0, xI a1, xI a2, xI a3, xI a4] m Q :=
  jx_segOk (x := 60) (cd := jx_c60) rfl (stops := []) 44 hv
set_option maxRecDepth 100000 in
theorem sg_61 (t0 : Nat) (a1 : Int) (a2 : Int) (a3 : Int) (a4 : Int) (m : jx_M) (Q : Int → jx_M → Prop) (hv :
    ((t0 < 36) ∧
  ((t0 < 36) ∧
  ((t0 < 36) ∧
  ((t0 < 36) ∧
  Q 0 (jx_up (jx_up (jx_up (jx_up m 9 t0 0 a1) 9 t0 1 a2) 9 t0 2 a3) 9 t0 3 a4)))))) :
    jx_Cl 61 [xA 9 t0, xI a1, xI a2, xI a3, xI a4] m Q :=
  jx_segOk (x := 61) (cd := jx_c61) rfl (stops := []) 14 hv
set_option maxRecDepth 100000 in
theorem sg_62 (a1 : Int) (a2 : Int) (m : jx_M) (Q : Int → jx_M → Prop) (hv :
    ((0 < 1) ∧
  ((0 < 3) ∧
  ((jx_in ((m 1 0 5) - 1)) ∧
  jx_Cl 12 [xI a1, xI 0, xI ((m 1 0 5) - 1)] m (fun z1 m1 =>
      ((z1 = 0 →
        Q (-1) m1) ∧
        (¬ (z1 = 0) →
        jx_Cl 12 [xI a2, xI 0, xI 2] m1 (fun z2 m2 =>
          ((z2 = 0 →
            Q (-1) m2) ∧
            (¬ (z2 = 0) →
            ((0 < 1) ∧
  ((0 < 1) ∧
  ((0 < 2) ∧
  jx_Cl 63 [xA 14 0, xA 1 0] m2 (fun _ m3 =>
              ((a2 = 2 →
                ((0 < 1) ∧
  ((0 < 2) ∧
  ((1 = 1 ∧ 0 ≤ a1 ∧ a1 < 12) ∧
  ((0 < 2) ∧
  Q (m3 17 0 (a1.toNat)) m3))))) ∧
                (¬ (a2 = 2) →
                ((a2 = 0 →
                  ((0 < 1) ∧
  ((0 < 2) ∧
  ((1 = 1 ∧ 0 ≤ a1 ∧ a1 < 12) ∧
  ((0 < 2) ∧
  Q (m3 15 0 (a1.toNat)) m3))))) ∧
                  (¬ (a2 = 0) →
                  ((0 < 1) ∧
  ((0 < 2) ∧
  ((1 = 1 ∧ 0 ≤ a1 ∧ a1 < 12) ∧
  ((0 < 2) ∧
  Q (m3 16 0 (a1.toNat)) m3)))))))))))))))))))))) :
    jx_Cl 62 [xA 0 0, xI a1, xI a2] m Q :=
  jx_segOk (x := 62) (cd := jx_c62) rfl (stops := []) 32 hv
set_option maxRecDepth 100000 in
theorem sg_63 (t0 : Nat) (t1 : Nat) (m : jx_M) (Q : Int → jx_M → Prop) (hv :
    ((t0 < 2) ∧
  jx_Cl 64 [xA 14 t0, xA 1 t1] m (fun _ m1 =>
      ((t0 < 2) ∧
  jx_Cl 65 [xA 14 t0, xA 1 t1] m1 (fun _ m2 =>
        ((t1 < 3) ∧
  ((t0 < 2) ∧
  jx_AW 63 12 [some (xA 14 t0), some (xA 1 t1), some (xI 0)] [] (jx_up m2 14 t0 4 (m2 1 t1 5)) Q))))))) :
    jx_Cl 63 [xA 14 t0, xA 1 t1] m Q :=
  jx_segOk (x := 63) (cd := jx_c63) rfl (stops := [12]) 13 hv
set_option maxRecDepth 100000 in
theorem sg_63_12 (t0 : Nat) (t1 : Nat) (b2 : Int) (m : jx_M) (Q : Int → jx_M → Prop) (hv :
    ((t0 < 2) ∧
  ((b2 < (m 14 t0 4) →
      ((t1 < 3) ∧
  ((0 ≤ b2 ∧ b2 < 12) ∧
  ((t1 < 3) ∧
  ((t0 < 2) ∧
  jx_Cl 66 [xA 14 t0, xA 1 t1, xA 9 (12 * t1 + b2.toNat), xI b2] m (fun _ m1 =>
        ((jx_in (b2 + 1)) ∧
  jx_AW 63 12 [some (xA 14 t0), some (xA 1 t1), some (xI (b2 + 1))] [] m1 Q))))))) ∧
      (¬ (b2 < (m 14 t0 4)) →
      Q 0 m)))) :
    jx_AW 63 12 [some (xA 14 t0), some (xA 1 t1), some (xI b2)] [] m Q :=
  jx_segOk (x := 63) (cd := jx_c63) rfl (stops := [12]) 15 hv
set_option maxRecDepth 100000 in
theorem sg_64 (t0 : Nat) (t1 : Nat) (m : jx_M) (Q : Int → jx_M → Prop) (hv :
    ((t0 < 2) ∧
  jx_Cl 2 [xA 18 t0, xI 0] m (fun _ m1 =>
      ((t0 < 2) ∧
  jx_AW 64 9 [some (xA 14 t0), some (xA 1 t1), some (xI 0), none, none, none] [] (jx_up m1 14 t0 3 0) Q)))) :
    jx_Cl 64 [xA 14 t0, xA 1 t1] m Q :=
  jx_segOk (x := 64) (cd := jx_c64) rfl (stops := [9, 20]) 10 hv
set_option maxRecDepth 100000 in
theorem sg_64_9 (t0 : Nat) (t1 : Nat) (b2 : Int) (w3 : Option jx_V) (w4 : Option jx_V) (w5 : Option jx_V) (m : jx_M) (Q : Int → jx_M → Prop) (hv :
    ((t1 < 3) ∧
  ((b2 < (m 1 t1 4) →
      ((t1 < 3) ∧
  ((0 ≤ b2 ∧ b2 < 6) ∧
  ((t1 < 3) ∧
  jx_AW 64 20 [some (xA 14 t0), some (xA 1 t1), some (xI b2), some (xA 6 (6 * t1 + b2.toNat)), some (xI 0), w5] [] m Q)))) ∧
      (¬ (b2 < (m 1 t1 4)) →
      Q 0 m)))) :
    jx_AW 64 9 [some (xA 14 t0), some (xA 1 t1), some (xI b2), w3, w4, w5] [] m Q :=
  jx_segOk (x := 64) (cd := jx_c64) rfl (stops := [9, 20]) 12 hv
set_option maxRecDepth 100000 in
theorem sg_64_20 (t0 : Nat) (t1 : Nat) (b2 : Int) (t3 : Nat) (b4 : Int) (w5 : Option jx_V) (m : jx_M) (Q : Int → jx_M → Prop) (hv :
    ((t3 < 18) ∧
  ((b4 < (m 6 t3 2) →
      ((t3 < 18) ∧
  ((t3 < 18) ∧
  ((jx_in (b4 * (m 6 t3 7))) ∧
  ((jx_in ((m 6 t3 6) + (b4 * (m 6 t3 7)))) ∧
  jx_Cl 21 [xI ((m 6 t3 6) + (b4 * (m 6 t3 7)))] m (fun z1 m1 =>
        ((z1 = 0 →
          ((jx_in (b4 + 1)) ∧
  jx_AW 64 20 [some (xA 14 t0), some (xA 1 t1), some (xI b2), some (xA 6 t3), some (xI (b4 + 1)), some (xI ((m 6 t3 6) + (b4 * (m 6 t3 7))))] [] m1 Q)) ∧
          (¬ (z1 = 0) →
          ((t1 < 3) ∧
  jx_Cl 48 [xA 1 t1, xI b2, xI ((m 6 t3 6) + (b4 * (m 6 t3 7)))] m1 (fun z2 m2 =>
            ((z2 = 0 →
              ((jx_in (b4 + 1)) ∧
  jx_AW 64 20 [some (xA 14 t0), some (xA 1 t1), some (xI b2), some (xA 6 t3), some (xI (b4 + 1)), some (xI ((m 6 t3 6) + (b4 * (m 6 t3 7))))] [] m2 Q)) ∧
              (¬ (z2 = 0) →
              ((t0 < 2) ∧
  ((1 = 1 ∧ 0 ≤ ((m 6 t3 6) + (b4 * (m 6 t3 7))) ∧ ((m 6 t3 6) + (b4 * (m 6 t3 7))) < 120) ∧
  ((t0 < 2) ∧
  ((1 = 1 ∧ 0 ≤ ((m 6 t3 6) + (b4 * (m 6 t3 7))) ∧ ((m 6 t3 6) + (b4 * (m 6 t3 7))) < 120) ∧
  ((t0 < 2) ∧
  ((t0 < 2) ∧
  ((jx_in (((jx_up m2 18 t0 (((m 6 t3 6) + (b4 * (m 6 t3 7))).toNat) (jx_ior (m2 18 t0 (((m 6 t3 6) + (b4 * (m 6 t3 7))).toNat)) (jx_ishl 1 b2))) 14 t0 3) + 1)) ∧
  ((t0 < 2) ∧
  ((jx_in (b4 + 1)) ∧
  jx_AW 64 20 [some (xA 14 t0), some (xA 1 t1), some (xI b2), some (xA 6 t3), some (xI (b4 + 1)), some (xI ((m 6 t3 6) + (b4 * (m 6 t3 7))))] [] (jx_up (jx_up m2 18 t0 (((m 6 t3 6) + (b4 * (m 6 t3 7))).toNat) (jx_ior (m2 18 t0 (((m 6 t3 6) + (b4 * (m 6 t3 7))).toNat)) (jx_ishl 1 b2))) 14 t0 3 (((jx_up m2 18 t0 (((m 6 t3 6) + (b4 * (m 6 t3 7))).toNat) (jx_ior (m2 18 t0 (((m 6 t3 6) + (b4 * (m 6 t3 7))).toNat)) (jx_ishl 1 b2))) 14 t0 3) + 1)) Q))))))))))))))))))))) ∧
      (¬ (b4 < (m 6 t3 2)) →
      ((jx_in (b2 + 1)) ∧
  jx_AW 64 9 [some (xA 14 t0), some (xA 1 t1), some (xI (b2 + 1)), some (xA 6 t3), some (xI b4), w5] [] m Q))))) :
    jx_AW 64 20 [some (xA 14 t0), some (xA 1 t1), some (xI b2), some (xA 6 t3), some (xI b4), w5] [] m Q :=
  jx_segOk (x := 64) (cd := jx_c64) rfl (stops := [9, 20]) 39 hv
set_option maxRecDepth 100000 in
theorem sg_65 (t0 : Nat) (t1 : Nat) (m : jx_M) (Q : Int → jx_M → Prop) (hv :
    ((t0 < 2) ∧
  jx_Cl 2 [xA 19 t0, xI 0] m (fun _ m1 =>
      jx_AW 65 6 [some (xA 14 t0), some (xA 1 t1), some (xI 0), none, none] [] m1 Q))) :
    jx_Cl 65 [xA 14 t0, xA 1 t1] m Q :=
  jx_segOk (x := 65) (cd := jx_c65) rfl (stops := [6, 17]) 7 hv
set_option maxRecDepth 100000 in
theorem sg_65_6 (t0 : Nat) (t1 : Nat) (b2 : Int) (w3 : Option jx_V) (w4 : Option jx_V) (m : jx_M) (Q : Int → jx_M → Prop) (hv :
    ((t1 < 3) ∧
  ((b2 < (m 1 t1 4) →
      ((t1 < 3) ∧
  ((0 ≤ b2 ∧ b2 < 6) ∧
  ((t1 < 3) ∧
  jx_AW 65 17 [some (xA 14 t0), some (xA 1 t1), some (xI b2), some (xA 6 (6 * t1 + b2.toNat)), some (xI 0)] [] m Q)))) ∧
      (¬ (b2 < (m 1 t1 4)) →
      Q 0 m)))) :
    jx_AW 65 6 [some (xA 14 t0), some (xA 1 t1), some (xI b2), w3, w4] [] m Q :=
  jx_segOk (x := 65) (cd := jx_c65) rfl (stops := [6, 17]) 12 hv
set_option maxRecDepth 100000 in
theorem sg_65_17 (t0 : Nat) (t1 : Nat) (b2 : Int) (t3 : Nat) (b4 : Int) (m : jx_M) (Q : Int → jx_M → Prop) (hv :
    ((t1 < 3) ∧
  ((b4 < (m 1 t1 4) →
      ((t3 < 18) ∧
  jx_Cl 14 [xI (m 6 t3 4)] m (fun z1 m1 =>
        ((z1 = 0 →
          ((jx_in (b4 + 1)) ∧
  jx_AW 65 17 [some (xA 14 t0), some (xA 1 t1), some (xI b2), some (xA 6 t3), some (xI (b4 + 1))] [] m1 Q)) ∧
          (¬ (z1 = 0) →
          ((t1 < 3) ∧
  ((0 ≤ b4 ∧ b4 < 6) ∧
  ((t1 < 3) ∧
  ((t3 < 18) ∧
  ((t3 < 18) ∧
  (((6 * t1 + b4.toNat) < 18) ∧
  jx_Cl 54 [xA 6 (6 * t1 + b4.toNat), xA 8 t3, xI (m1 6 t3 3)] m1 (fun z2 m2 =>
            ((t1 < 3) ∧
  (((m2 1 t1 7) < z2 →
              ((jx_in (b4 + 1)) ∧
  jx_AW 65 17 [some (xA 14 t0), some (xA 1 t1), some (xI b2), some (xA 6 t3), some (xI (b4 + 1))] [] m2 Q)) ∧
              (¬ ((m2 1 t1 7) < z2) →
              ((t0 < 2) ∧
  ((t3 < 18) ∧
  ((1 = 1 ∧ 0 ≤ (m2 6 t3 4) ∧ (m2 6 t3 4) < 4) ∧
  ((t0 < 2) ∧
  ((1 = 1 ∧ 0 ≤ (m2 6 t3 4) ∧ (m2 6 t3 4) < 4) ∧
  ((t0 < 2) ∧
  ((jx_in (b4 + 1)) ∧
  jx_AW 65 17 [some (xA 14 t0), some (xA 1 t1), some (xI b2), some (xA 6 t3), some (xI (b4 + 1))] [] (jx_up m2 19 t0 ((m2 6 t3 4).toNat) (jx_ior (m2 19 t0 ((m2 6 t3 4).toNat)) (jx_ishl 1 b4))) Q)))))))))))))))))))))) ∧
      (¬ (b4 < (m 1 t1 4)) →
      ((jx_in (b2 + 1)) ∧
  jx_AW 65 6 [some (xA 14 t0), some (xA 1 t1), some (xI (b2 + 1)), some (xA 6 t3), some (xI b4)] [] m Q))))) :
    jx_AW 65 17 [some (xA 14 t0), some (xA 1 t1), some (xI b2), some (xA 6 t3), some (xI b4)] [] m Q :=
  jx_segOk (x := 65) (cd := jx_c65) rfl (stops := [6, 17]) 34 hv
set_option maxRecDepth 100000 in
theorem sg_66 (t0 : Nat) (t1 : Nat) (t2 : Nat) (a3 : Int) (m : jx_M) (Q : Int → jx_M → Prop) (hv :
    ((t0 < 2) ∧
  ((1 = 1 ∧ 0 ≤ a3 ∧ a3 < 12) ∧
  ((t0 < 2) ∧
  ((t0 < 2) ∧
  ((1 = 1 ∧ 0 ≤ a3 ∧ a3 < 12) ∧
  ((t0 < 2) ∧
  ((t0 < 2) ∧
  ((1 = 1 ∧ 0 ≤ a3 ∧ a3 < 12) ∧
  ((t0 < 2) ∧
  ((t2 < 36) ∧
  jx_Cl 14 [xI ((jx_up (jx_up (jx_up m 15 t0 (a3.toNat) (-4)) 16 t0 (a3.toNat) (-4)) 17 t0 (a3.toNat) 0) 9 t2 1)] (jx_up (jx_up (jx_up m 15 t0 (a3.toNat) (-4)) 16 t0 (a3.toNat) (-4)) 17 t0 (a3.toNat) 0) (fun z1 m1 =>
      ((z1 = 0 →
        jx_AW 66 31 [some (xA 14 t0), some (xA 1 t1), some (xA 9 t2), some (xI a3), some (xI 0), some (xI (-1)), some (xI 0), none] [] m1 Q) ∧
        (¬ (z1 = 0) →
        ((t0 < 2) ∧
  ((t2 < 36) ∧
  ((1 = 1 ∧ 0 ≤ (m1 9 t2 1) ∧ (m1 9 t2 1) < 4) ∧
  ((t0 < 2) ∧
  jx_AW 66 31 [some (xA 14 t0), some (xA 1 t1), some (xA 9 t2), some (xI a3), some (xI (m1 19 t0 ((m1 9 t2 1).toNat))), some (xI (-1)), some (xI 0), none] [] m1 Q)))))))))))))))))) :
    jx_Cl 66 [xA 14 t0, xA 1 t1, xA 9 t2, xI a3] m Q :=
  jx_segOk (x := 66) (cd := jx_c66) rfl (stops := [31]) 31 hv
set_option maxRecDepth 100000 in
theorem sg_66_31 (t0 : Nat) (t1 : Nat) (t2 : Nat) (b3 : Int) (b4 : Int) (b5 : Int) (b6 : Int) (w7 : Option jx_V) (m : jx_M) (Q : Int → jx_M → Prop) (hv :
    ((b6 < 120 →
      ((b5 = (-1) →
        ((t0 < 2) ∧
  ((1 = 1 ∧ 0 ≤ b6 ∧ b6 < 120) ∧
  ((t0 < 2) ∧
  ((t2 < 36) ∧
  jx_Cl 67 [xA 1 t1, xI (jx_iand (m 18 t0 (b6.toNat)) b4), xI (m 9 t2 0), xI b6] m (fun z1 m1 =>
          ((z1 = 0 →
            ((jx_in (b6 + 1)) ∧
  jx_AW 66 31 [some (xA 14 t0), some (xA 1 t1), some (xA 9 t2), some (xI b3), some (xI b4), some (xI b5), some (xI (b6 + 1)), w7] [] m1 Q)) ∧
            (¬ (z1 = 0) →
            ((t2 < 36) ∧
  ((jx_in (b6 + (m1 9 t2 2))) ∧
  ((jx_in ((b6 + (m1 9 t2 2)) + 1)) ∧
  ((jx_in (b6 + 1)) ∧
  jx_AW 66 31 [some (xA 14 t0), some (xA 1 t1), some (xA 9 t2), some (xI b3), some (xI b4), some (xI ((b6 + (m1 9 t2 2)) + 1)), some (xI (b6 + 1)), w7] [] m1 Q)))))))))))) ∧
        (¬ (b5 = (-1)) →
        ((b6 < b5 →
          ((jx_in (b6 + 1)) ∧
  jx_AW 66 31 [some (xA 14 t0), some (xA 1 t1), some (xA 9 t2), some (xI b3), some (xI b4), some (xI b5), some (xI (b6 + 1)), w7] [] m Q)) ∧
          (¬ (b6 < b5) →
          ((t2 < 36) ∧
  ((t2 < 36) ∧
  ((t1 < 3) ∧
  jx_Cl 68 [xA 1 t1, xI (m 9 t2 0), xI (m 9 t2 1), xI b6] m (fun z2 m2 =>
            ((z2 < 0 →
              ((jx_in (b6 - b5)) ∧
  ((t2 < 36) ∧
  (((b6 - b5) < (m2 9 t2 3) →
                ((jx_in (b6 + 1)) ∧
  jx_AW 66 31 [some (xA 14 t0), some (xA 1 t1), some (xA 9 t2), some (xI b3), some (xI b4), some (xI b5), some (xI (b6 + 1)), some (xI z2)] [] m2 Q)) ∧
                (¬ ((b6 - b5) < (m2 9 t2 3)) →
                ((t0 < 2) ∧
  ((1 = 1 ∧ 0 ≤ b3 ∧ b3 < 12) ∧
  ((t0 < 2) ∧
  ((jx_in ((m2 17 t0 (b3.toNat)) + 1)) ∧
  ((1 = 1 ∧ 0 ≤ b3 ∧ b3 < 12) ∧
  ((t0 < 2) ∧
  ((jx_in (b6 + 1)) ∧
  jx_AW 66 31 [some (xA 14 t0), some (xA 1 t1), some (xA 9 t2), some (xI b3), some (xI b4), some (xI (-1)), some (xI (b6 + 1)), some (xI z2)] [] (jx_up m2 17 t0 (b3.toNat) ((m2 17 t0 (b3.toNat)) + 1)) Q)))))))))))) ∧
              (¬ (z2 < 0) →
              ((t0 < 2) ∧
  ((1 = 1 ∧ 0 ≤ b3 ∧ b3 < 12) ∧
  ((t0 < 2) ∧
  ((t0 < 2) ∧
  ((1 = 1 ∧ 0 ≤ b3 ∧ b3 < 12) ∧
  ((t0 < 2) ∧
  Q 0 (jx_up (jx_up m2 15 t0 (b3.toNat) z2) 16 t0 (b3.toNat) b6)))))))))))))))))) ∧
      (¬ (b6 < 120) →
      Q 0 m))) :
    jx_AW 66 31 [some (xA 14 t0), some (xA 1 t1), some (xA 9 t2), some (xI b3), some (xI b4), some (xI b5), some (xI b6), w7] [] m Q :=
  jx_segOk (x := 66) (cd := jx_c66) rfl (stops := [31]) 38 hv
set_option maxRecDepth 100000 in
theorem sg_67 (t1 : Nat) (a2 : Int) (a3 : Int) (a4 : Int) (m : jx_M) (Q : Int → jx_M → Prop) (hv :
    ((a2 = 0 →
      (((0 : Int) = 0 ∨ (0 : Int) = 1) ∧
  Q 0 m)) ∧
      (¬ (a2 = 0) →
      jx_AW 67 6 [some (xA 1 t1), some (xI a2), some (xI a3), some (xI a4), some (xI 0)] [] m Q))) :
    jx_Cl 67 [xA 1 t1, xI a2, xI a3, xI a4] m Q :=
  jx_segOk (x := 67) (cd := jx_c67) rfl (stops := [6]) 5 hv
set_option maxRecDepth 100000 in
theorem sg_67_6 (t0 : Nat) (b1 : Int) (b2 : Int) (b3 : Int) (b4 : Int) (m : jx_M) (Q : Int → jx_M → Prop) (hv :
    ((t0 < 3) ∧
  ((b4 < (m 1 t0 4) →
      (((jx_iand b1 (jx_ishl 1 b4)) = 0 →
        ((jx_in (b4 + 1)) ∧
  jx_AW 67 6 [some (xA 1 t0), some (xI b1), some (xI b2), some (xI b3), some (xI (b4 + 1))] [] m Q)) ∧
        (¬ ((jx_iand b1 (jx_ishl 1 b4)) = 0) →
        ((t0 < 3) ∧
  jx_Cl 52 [xA 1 t0, xI b4, xI b2, xI b3] m (fun z1 m1 =>
          ((z1 = 0 →
            ((jx_in (b4 + 1)) ∧
  jx_AW 67 6 [some (xA 1 t0), some (xI b1), some (xI b2), some (xI b3), some (xI (b4 + 1))] [] m1 Q)) ∧
            (¬ (z1 = 0) →
            (((1 : Int) = 0 ∨ (1 : Int) = 1) ∧
  Q 1 m1)))))))) ∧
      (¬ (b4 < (m 1 t0 4)) →
      (((0 : Int) = 0 ∨ (0 : Int) = 1) ∧
  Q 0 m))))) :
    jx_AW 67 6 [some (xA 1 t0), some (xI b1), some (xI b2), some (xI b3), some (xI b4)] [] m Q :=
  jx_segOk (x := 67) (cd := jx_c67) rfl (stops := [6]) 19 hv
set_option maxRecDepth 100000 in
theorem sg_68 (t0 : Nat) (a1 : Int) (a2 : Int) (a3 : Int) (m : jx_M) (Q : Int → jx_M → Prop) (hv :
    jx_AW 68 2 [some (xA 1 t0), some (xI a1), some (xI a2), some (xI a3), some (xI 0)] [] m Q) :
    jx_Cl 68 [xA 1 t0, xI a1, xI a2, xI a3] m Q :=
  jx_segOk (x := 68) (cd := jx_c68) rfl (stops := [2]) 3 hv
set_option maxRecDepth 100000 in
theorem sg_68_2 (t0 : Nat) (b1 : Int) (b2 : Int) (b3 : Int) (b4 : Int) (m : jx_M) (Q : Int → jx_M → Prop) (hv :
    ((t0 < 3) ∧
  ((b4 < (m 1 t0 4) →
      ((t0 < 3) ∧
  ((0 ≤ b4 ∧ b4 < 6) ∧
  ((t0 < 3) ∧
  (((6 * t0 + b4.toNat) < 18) ∧
  (((m 6 (6 * t0 + b4.toNat) 4) = b2 →
        ((t0 < 3) ∧
  ((0 ≤ b4 ∧ b4 < 6) ∧
  ((t0 < 3) ∧
  (((6 * t0 + b4.toNat) < 18) ∧
  jx_Cl 43 [xA 6 (6 * t0 + b4.toNat), xI b3] m (fun z1 m1 =>
          ((z1 = b1 →
            Q b4 m1) ∧
            (¬ (z1 = b1) →
            ((jx_in (b4 + 1)) ∧
  jx_AW 68 2 [some (xA 1 t0), some (xI b1), some (xI b2), some (xI b3), some (xI (b4 + 1))] [] m1 Q))))))))) ∧
        (¬ ((m 6 (6 * t0 + b4.toNat) 4) = b2) →
        ((jx_in (b4 + 1)) ∧
  jx_AW 68 2 [some (xA 1 t0), some (xI b1), some (xI b2), some (xI b3), some (xI (b4 + 1))] [] m Q)))))))) ∧
      (¬ (b4 < (m 1 t0 4)) →
      Q (-4) m)))) :
    jx_AW 68 2 [some (xA 1 t0), some (xI b1), some (xI b2), some (xI b3), some (xI b4)] [] m Q :=
  jx_segOk (x := 68) (cd := jx_c68) rfl (stops := [2]) 22 hv
set_option maxRecDepth 100000 in
theorem sg_69 (a1 : Int) (m : jx_M) (Q : Int → jx_M → Prop) (hv :
    ((0 < 1) ∧
  ((0 < 3) ∧
  jx_Cl 19 [xA 1 0, xI a1] m (fun z1 m1 =>
      ((z1 = 0 →
        Q (-1) m1) ∧
        (¬ (z1 = 0) →
        ((0 < 1) ∧
  ((0 < 1) ∧
  ((0 < 2) ∧
  jx_Cl 63 [xA 14 0, xA 1 0] m1 (fun _ m2 =>
          ((0 < 1) ∧
  ((0 < 2) ∧
  jx_Cl 70 [xA 14 0, xI a1] m2 (fun z3 m3 =>
            Q z3 m3))))))))))))) :
    jx_Cl 69 [xA 0 0, xI a1] m Q :=
  jx_segOk (x := 69) (cd := jx_c69) rfl (stops := []) 16 hv
set_option maxRecDepth 100000 in
theorem sg_70 (t0 : Nat) (a1 : Int) (m : jx_M) (Q : Int → jx_M → Prop) (hv :
    jx_AW 70 4 [some (xA 14 t0), some (xI a1), some (xI 0), some (xI 0)] [] m Q) :
    jx_Cl 70 [xA 14 t0, xI a1] m Q :=
  jx_segOk (x := 70) (cd := jx_c70) rfl (stops := [4]) 5 hv
set_option maxRecDepth 100000 in
theorem sg_70_4 (t0 : Nat) (b1 : Int) (b2 : Int) (b3 : Int) (m : jx_M) (Q : Int → jx_M → Prop) (hv :
    ((t0 < 2) ∧
  ((b3 < (m 14 t0 4) →
      ((t0 < 2) ∧
  ((1 = 1 ∧ 0 ≤ b3 ∧ b3 < 12) ∧
  ((t0 < 2) ∧
  (((m 15 t0 (b3.toNat)) = b1 →
        ((jx_in (b2 + 1)) ∧
  ((jx_in (b3 + 1)) ∧
  jx_AW 70 4 [some (xA 14 t0), some (xI b1), some (xI (b2 + 1)), some (xI (b3 + 1))] [] m Q))) ∧
        (¬ ((m 15 t0 (b3.toNat)) = b1) →
        ((jx_in (b3 + 1)) ∧
  jx_AW 70 4 [some (xA 14 t0), some (xI b1), some (xI b2), some (xI (b3 + 1))] [] m Q))))))) ∧
      (¬ (b3 < (m 14 t0 4)) →
      Q b2 m)))) :
    jx_AW 70 4 [some (xA 14 t0), some (xI b1), some (xI b2), some (xI b3)] [] m Q :=
  jx_segOk (x := 70) (cd := jx_c70) rfl (stops := [4]) 14 hv
set_option maxRecDepth 100000 in
theorem sg_71 (a1 : Int) (m : jx_M) (Q : Int → jx_M → Prop) (hv :
    jx_Cl 12 [xI a1, xI 0, xI 2] m (fun z1 m1 =>
      ((z1 = 0 →
        Q (-1) m1) ∧
        (¬ (z1 = 0) →
        ((0 < 1) ∧
  ((0 < 1) ∧
  ((0 < 2) ∧
  jx_Cl 63 [xA 14 0, xA 1 0] m1 (fun _ m2 =>
          ((a1 = 2 →
            ((0 < 1) ∧
  ((0 < 2) ∧
  Q (m2 14 0 3) m2))) ∧
            (¬ (a1 = 2) →
            ((a1 = 0 →
              ((0 < 1) ∧
  ((0 < 2) ∧
  jx_Cl 72 [xA 14 0] m2 (fun z3 m3 =>
                Q z3 m3)))) ∧
              (¬ (a1 = 0) →
              ((0 < 1) ∧
  ((0 < 2) ∧
  jx_Cl 73 [xA 14 0] m2 (fun z4 m4 =>
                Q z4 m4))))))))))))))) :
    jx_Cl 71 [xA 0 0, xI a1] m Q :=
  jx_segOk (x := 71) (cd := jx_c71) rfl (stops := []) 21 hv
set_option maxRecDepth 100000 in
theorem sg_72 (t0 : Nat) (m : jx_M) (Q : Int → jx_M → Prop) (hv :
    jx_AW 72 4 [some (xA 14 t0), some (xI 0), some (xI 0)] [] m Q) :
    jx_Cl 72 [xA 14 t0] m Q :=
  jx_segOk (x := 72) (cd := jx_c72) rfl (stops := [4]) 5 hv
set_option maxRecDepth 100000 in
theorem sg_72_4 (t0 : Nat) (b1 : Int) (b2 : Int) (m : jx_M) (Q : Int → jx_M → Prop) (hv :
    ((t0 < 2) ∧
  ((b2 < (m 14 t0 4) →
      ((t0 < 2) ∧
  ((1 = 1 ∧ 0 ≤ b2 ∧ b2 < 12) ∧
  ((t0 < 2) ∧
  (((m 15 t0 (b2.toNat)) < 0 →
        ((jx_in (b2 + 1)) ∧
  jx_AW 72 4 [some (xA 14 t0), some (xI b1), some (xI (b2 + 1))] [] m Q)) ∧
        (¬ ((m 15 t0 (b2.toNat)) < 0) →
        ((jx_in (b1 + 1)) ∧
  ((jx_in (b2 + 1)) ∧
  jx_AW 72 4 [some (xA 14 t0), some (xI (b1 + 1)), some (xI (b2 + 1))] [] m Q)))))))) ∧
      (¬ (b2 < (m 14 t0 4)) →
      Q b1 m)))) :
    jx_AW 72 4 [some (xA 14 t0), some (xI b1), some (xI b2)] [] m Q :=
  jx_segOk (x := 72) (cd := jx_c72) rfl (stops := [4]) 13 hv
set_option maxRecDepth 100000 in
theorem sg_73 (t0 : Nat) (m : jx_M) (Q : Int → jx_M → Prop) (hv :
    jx_AW 73 4 [some (xA 14 t0), some (xI 0), some (xI 0)] [] m Q) :
    jx_Cl 73 [xA 14 t0] m Q :=
  jx_segOk (x := 73) (cd := jx_c73) rfl (stops := [4]) 5 hv
set_option maxRecDepth 100000 in
theorem sg_73_4 (t0 : Nat) (b1 : Int) (b2 : Int) (m : jx_M) (Q : Int → jx_M → Prop) (hv :
    ((t0 < 2) ∧
  ((b2 < (m 14 t0 4) →
      ((t0 < 2) ∧
  ((1 = 1 ∧ 0 ≤ b2 ∧ b2 < 12) ∧
  ((t0 < 2) ∧
  ((jx_in (b1 + (m 17 t0 (b2.toNat)))) ∧
  ((jx_in (b2 + 1)) ∧
  jx_AW 73 4 [some (xA 14 t0), some (xI (b1 + (m 17 t0 (b2.toNat)))), some (xI (b2 + 1))] [] m Q)))))) ∧
      (¬ (b2 < (m 14 t0 4)) →
      Q b1 m)))) :
    jx_AW 73 4 [some (xA 14 t0), some (xI b1), some (xI b2)] [] m Q :=
  jx_segOk (x := 73) (cd := jx_c73) rfl (stops := [4]) 14 hv
set_option maxRecDepth 100000 in
theorem sg_74 (a1 : Int) (a2 : Int) (m : jx_M) (Q : Int → jx_M → Prop) (hv :
    ((0 < 1) ∧
  ((0 < 3) ∧
  jx_Cl 19 [xA 1 0, xI a1] m (fun z1 m1 =>
      ((z1 = 0 →
        Q (-1) m1) ∧
        (¬ (z1 = 0) →
        jx_Cl 12 [xI a2, xI 0, xI 2] m1 (fun z2 m2 =>
          ((z2 = 0 →
            Q (-1) m2) ∧
            (¬ (z2 = 0) →
            ((0 < 1) ∧
  ((0 < 1) ∧
  ((0 < 1) ∧
  jx_Cl 75 [xA 11 0, xA 1 0, xI a1, xI a2] m2 (fun z3 m3 =>
              Q z3 m3))))))))))))) :
    jx_Cl 74 [xA 0 0, xI a1, xI a2] m Q :=
  jx_segOk (x := 74) (cd := jx_c74) rfl (stops := []) 19 hv
set_option maxRecDepth 100000 in
theorem sg_75 (t1 : Nat) (a2 : Int) (a3 : Int) (m : jx_M) (Q : Int → jx_M → Prop) (hv :
    ((0 < 1) ∧
  ((2 < 3) ∧
  jx_Cl 76 [xA 1 2, xA 1 t1] m (fun _ m1 =>
      ((0 < 1) ∧
  ((2 < 3) ∧
  ((0 ≤ a2 ∧ a2 < 6) ∧
  ((2 < 3) ∧
  jx_AW 75 18 [some (xA 11 0), some (xA 1 t1), some (xI a2), some (xI a3), some (xA 6 (6 * 2 + a2.toNat)), some (xI 0), some (xI 0), some (xI (-1)), some (xI 0), none, none] [] m1 Q)))))))) :
    jx_Cl 75 [xA 11 0, xA 1 t1, xI a2, xI a3] m Q :=
  jx_segOk (x := 75) (cd := jx_c75) rfl (stops := [18, 26]) 19 hv
set_option maxRecDepth 100000 in
theorem sg_75_18 (t1 : Nat) (b2 : Int) (b3 : Int) (t4 : Nat) (b5 : Int) (b6 : Int) (b7 : Int) (b8 : Int) (w9 : Option jx_V) (w10 : Option jx_V) (m : jx_M) (Q : Int → jx_M → Prop) (hv :
    (((55 : Int) < b8 →
      ((b3 = 2 →
        Q b7 m) ∧
        (¬ (b3 = 2) →
        ((b3 = 0 →
          Q b5 m) ∧
          (¬ (b3 = 0) →
          Q b6 m))))) ∧
      (¬ ((55 : Int) < b8) →
      ((t4 < 18) ∧
  jx_AW 75 26 [some (xA 11 0), some (xA 1 t1), some (xI b2), some (xI b3), some (xA 6 t4), some (xI b5), some (xI b6), some (xI b7), some (xI b8), some (xI 0), w10] [] (jx_up m 6 t4 6 b8) Q)))) :
    jx_AW 75 18 [some (xA 11 0), some (xA 1 t1), some (xI b2), some (xI b3), some (xA 6 t4), some (xI b5), some (xI b6), some (xI b7), some (xI b8), w9, w10] [] m Q :=
  jx_segOk (x := 75) (cd := jx_c75) rfl (stops := [18, 26]) 12 hv
set_option maxRecDepth 100000 in
theorem sg_75_26 (t1 : Nat) (b2 : Int) (b3 : Int) (t4 : Nat) (b5 : Int) (b6 : Int) (b7 : Int) (b8 : Int) (b9 : Int) (w10 : Option jx_V) (m : jx_M) (Q : Int → jx_M → Prop) (hv :
    (((1 : Int) < b9 →
      ((jx_in (b8 + 5)) ∧
  jx_AW 75 18 [some (xA 11 0), some (xA 1 t1), some (xI b2), some (xI b3), some (xA 6 t4), some (xI b5), some (xI b6), some (xI b7), some (xI (b8 + 5)), some (xI b9), w10] [] m Q)) ∧
      (¬ ((1 : Int) < b9) →
      ((0 < 1) ∧
  ((0 < 1) ∧
  ((1 < 2) ∧
  jx_Cl 63 [xA 14 1, xA 1 2] m (fun _ m1 =>
        ((0 < 1) ∧
  ((1 < 2) ∧
  jx_Cl 70 [xA 14 1, xI b2] m1 (fun z2 m2 =>
          ((b7 < z2 →
            ((t4 < 18) ∧
  jx_Cl 79 [xA 6 t4] m2 (fun _ m3 =>
              ((jx_in (b9 + 1)) ∧
  jx_AW 75 26 [some (xA 11 0), some (xA 1 t1), some (xI b2), some (xI b3), some (xA 6 t4), some (xI b8), some (xI b9), some (xI z2), some (xI b8), some (xI (b9 + 1)), some (xI z2)] [] m3 Q)))) ∧
            (¬ (b7 < z2) →
            ((t4 < 18) ∧
  jx_Cl 79 [xA 6 t4] m2 (fun _ m4 =>
              ((jx_in (b9 + 1)) ∧
  jx_AW 75 26 [some (xA 11 0), some (xA 1 t1), some (xI b2), some (xI b3), some (xA 6 t4), some (xI b5), some (xI b6), some (xI b7), some (xI b8), some (xI (b9 + 1)), some (xI z2)] [] m4 Q))))))))))))))) :
    jx_AW 75 26 [some (xA 11 0), some (xA 1 t1), some (xI b2), some (xI b3), some (xA 6 t4), some (xI b5), some (xI b6), some (xI b7), some (xI b8), some (xI b9), w10] [] m Q :=
  jx_segOk (x := 75) (cd := jx_c75) rfl (stops := [18, 26]) 27 hv
set_option maxRecDepth 100000 in
theorem sg_76 (t0 : Nat) (t1 : Nat) (m : jx_M) (Q : Int → jx_M → Prop) (hv :
    ((t1 < 3) ∧
  ((t0 < 3) ∧
  (((1 = 1 ∧ 1 = 1) ∧ (0 ≤ (0 : Int) ∧ 0 ≤ (0 : Int) ∧ 0 ≤ (25 : Int)) ∧ (0 : Int) + 25 ≤ 25 ∧ (0 : Int) + 25 ≤ 25) ∧
  ((t1 < 3) ∧
  ((t0 < 3) ∧
  ((t1 < 3) ∧
  ((t0 < 3) ∧
  jx_AW 76 14 [some (xA 1 t0), some (xA 1 t1), some (xI 0), none] [] (jx_up (jx_cpy m 2 t1 ((0 : Int).toNat) 2 t0 ((0 : Int).toNat) ((25 : Int).toNat)) 1 t0 4 ((jx_cpy m 2 t1 ((0 : Int).toNat) 2 t0 ((0 : Int).toNat) ((25 : Int).toNat)) 1 t1 4)) Q)))))))) :
    jx_Cl 76 [xA 1 t0, xA 1 t1] m Q :=
  jx_segOk (x := 76) (cd := jx_c76) rfl (stops := [14, 35, 65]) 15 hv
set_option maxRecDepth 100000 in
theorem sg_76_14 (t0 : Nat) (t1 : Nat) (b2 : Int) (w3 : Option jx_V) (m : jx_M) (Q : Int → jx_M → Prop) (hv :
    ((t0 < 3) ∧
  ((b2 < (m 1 t0 4) →
      ((t0 < 3) ∧
  ((0 ≤ b2 ∧ b2 < 6) ∧
  ((t0 < 3) ∧
  ((t1 < 3) ∧
  ((0 ≤ b2 ∧ b2 < 6) ∧
  ((t1 < 3) ∧
  (((6 * t0 + b2.toNat) < 18) ∧
  jx_Cl 77 [xA 6 (6 * t0 + b2.toNat), xA 6 (6 * t1 + b2.toNat)] m (fun _ m1 =>
        ((jx_in (b2 + 1)) ∧
  jx_AW 76 14 [some (xA 1 t0), some (xA 1 t1), some (xI (b2 + 1)), w3] [] m1 Q)))))))))) ∧
      (¬ (b2 < (m 1 t0 4)) →
      ((t1 < 3) ∧
  ((t0 < 3) ∧
  jx_AW 76 35 [some (xA 1 t0), some (xA 1 t1), some (xI 0), w3] [] (jx_up m 1 t0 5 (m 1 t1 5)) Q)))))) :
    jx_AW 76 14 [some (xA 1 t0), some (xA 1 t1), some (xI b2), w3] [] m Q :=
  jx_segOk (x := 76) (cd := jx_c76) rfl (stops := [14, 35, 65]) 16 hv
set_option maxRecDepth 100000 in
theorem sg_76_35 (t0 : Nat) (t1 : Nat) (b2 : Int) (w3 : Option jx_V) (m : jx_M) (Q : Int → jx_M → Prop) (hv :
    ((t0 < 3) ∧
  ((b2 < (m 1 t0 5) →
      ((t1 < 3) ∧
  ((0 ≤ b2 ∧ b2 < 12) ∧
  ((t1 < 3) ∧
  ((t0 < 3) ∧
  ((0 ≤ b2 ∧ b2 < 12) ∧
  ((t0 < 3) ∧
  (((12 * t1 + b2.toNat) < 36) ∧
  (((12 * t1 + b2.toNat) < 36) ∧
  (((12 * t1 + b2.toNat) < 36) ∧
  (((12 * t1 + b2.toNat) < 36) ∧
  (((12 * t0 + b2.toNat) < 36) ∧
  jx_Cl 61 [xA 9 (12 * t0 + b2.toNat), xI (m 9 (12 * t1 + b2.toNat) 0), xI (m 9 (12 * t1 + b2.toNat) 1), xI (m 9 (12 * t1 + b2.toNat) 2), xI (m 9 (12 * t1 + b2.toNat) 3)] m (fun _ m1 =>
        ((jx_in (b2 + 1)) ∧
  jx_AW 76 35 [some (xA 1 t0), some (xA 1 t1), some (xI (b2 + 1)), some (xA 9 (12 * t1 + b2.toNat))] [] m1 Q)))))))))))))) ∧
      (¬ (b2 < (m 1 t0 5)) →
      ((t1 < 3) ∧
  ((t0 < 3) ∧
  jx_AW 76 65 [some (xA 1 t0), some (xA 1 t1), some (xI 0), w3] [] (jx_up m 1 t0 6 (m 1 t1 6)) Q)))))) :
    jx_AW 76 35 [some (xA 1 t0), some (xA 1 t1), some (xI b2), w3] [] m Q :=
  jx_segOk (x := 76) (cd := jx_c76) rfl (stops := [14, 35, 65]) 25 hv
set_option maxRecDepth 100000 in
theorem sg_76_65 (t0 : Nat) (t1 : Nat) (b2 : Int) (w3 : Option jx_V) (m : jx_M) (Q : Int → jx_M → Prop) (hv :
    ((t0 < 3) ∧
  ((b2 < (m 1 t0 6) →
      ((t1 < 3) ∧
  ((0 ≤ b2 ∧ b2 < 12) ∧
  ((t1 < 3) ∧
  ((t0 < 3) ∧
  ((0 ≤ b2 ∧ b2 < 12) ∧
  ((t0 < 3) ∧
  (((12 * t1 + b2.toNat) < 36) ∧
  (((12 * t1 + b2.toNat) < 36) ∧
  (((12 * t1 + b2.toNat) < 36) ∧
  (((12 * t0 + b2.toNat) < 36) ∧
  jx_Cl 78 [xA 10 (12 * t0 + b2.toNat), xI (m 10 (12 * t1 + b2.toNat) 0), xI (m 10 (12 * t1 + b2.toNat) 1), xI (m 10 (12 * t1 + b2.toNat) 2)] m (fun _ m1 =>
        ((jx_in (b2 + 1)) ∧
  jx_AW 76 65 [some (xA 1 t0), some (xA 1 t1), some (xI (b2 + 1)), some (xA 10 (12 * t1 + b2.toNat))] [] m1 Q))))))))))))) ∧
      (¬ (b2 < (m 1 t0 6)) →
      ((t1 < 3) ∧
  ((t0 < 3) ∧
  ((t1 < 3) ∧
  ((t0 < 3) ∧
  Q 0 (jx_up (jx_up m 1 t0 7 (m 1 t1 7)) 1 t0 8 ((jx_up m 1 t0 7 (m 1 t1 7)) 1 t1 8)))))))))) :
    jx_AW 76 65 [some (xA 1 t0), some (xA 1 t1), some (xI b2), w3] [] m Q :=
  jx_segOk (x := 76) (cd := jx_c76) rfl (stops := [14, 35, 65]) 23 hv
set_option maxRecDepth 100000 in
theorem sg_77 (t0 : Nat) (t1 : Nat) (m : jx_M) (Q : Int → jx_M → Prop) (hv :
    ((t1 < 18) ∧
  ((t1 < 18) ∧
  ((t0 < 18) ∧
  jx_Cl 38 [xA 6 t0, xA 7 t1, xI (m 6 t1 2)] m (fun _ m1 =>
      ((t1 < 18) ∧
  ((t1 < 18) ∧
  ((t0 < 18) ∧
  jx_Cl 40 [xA 6 t0, xA 8 t1, xI (m1 6 t1 3)] m1 (fun _ m2 =>
        ((t1 < 18) ∧
  ((t0 < 18) ∧
  ((t1 < 18) ∧
  ((t0 < 18) ∧
  ((t1 < 18) ∧
  ((t0 < 18) ∧
  ((t1 < 18) ∧
  ((t0 < 18) ∧
  Q 0 (jx_up (jx_up (jx_up (jx_up m2 6 t0 4 (m2 6 t1 4)) 6 t0 5 ((jx_up m2 6 t0 4 (m2 6 t1 4)) 6 t1 5)) 6 t0 6 ((jx_up (jx_up m2 6 t0 4 (m2 6 t1 4)) 6 t0 5 ((jx_up m2 6 t0 4 (m2 6 t1 4)) 6 t1 5)) 6 t1 6)) 6 t0 7 ((jx_up (jx_up (jx_up m2 6 t0 4 (m2 6 t1 4)) 6 t0 5 ((jx_up m2 6 t0 4 (m2 6 t1 4)) 6 t1 5)) 6 t0 6 ((jx_up (jx_up m2 6 t0 4 (m2 6 t1 4)) 6 t0 5 ((jx_up m2 6 t0 4 (m2 6 t1 4)) 6 t1 5)) 6 t1 6)) 6 t1 7))))))))))))))))))) :
    jx_Cl 77 [xA 6 t0, xA 6 t1] m Q :=
  jx_segOk (x := 77) (cd := jx_c77) rfl (stops := []) 30 hv
set_option maxRecDepth 100000 in
theorem sg_78 (t0 : Nat) (a1 : Int) (a2 : Int) (a3 : Int) (m : jx_M) (Q : Int → jx_M → Prop) (hv :
    ((t0 < 36) ∧
  ((t0 < 36) ∧
  ((t0 < 36) ∧
  ((a3 = 0 ∨ a3 = 1) ∧
  Q 0 (jx_up (jx_up (jx_up m 10 t0 0 a1) 10 t0 1 a2) 10 t0 2 a3)))))) :
    jx_Cl 78 [xA 10 t0, xI a1, xI a2, xI a3] m Q :=
  jx_segOk (x := 78) (cd := jx_c78) rfl (stops := []) 11 hv
set_option maxRecDepth 100000 in
theorem sg_79 (t0 : Nat) (m : jx_M) (Q : Int → jx_M → Prop) (hv :
    ((t0 < 18) ∧
  ((jx_in ((m 6 t0 2) - 1)) ∧
  jx_AW 79 7 [some (xA 6 t0), some (xI 0), some (xI ((m 6 t0 2) - 1)), none] [] m Q))) :
    jx_Cl 79 [xA 6 t0] m Q :=
  jx_segOk (x := 79) (cd := jx_c79) rfl (stops := [7]) 8 hv
set_option maxRecDepth 100000 in
theorem sg_79_7 (t0 : Nat) (b1 : Int) (b2 : Int) (w3 : Option jx_V) (m : jx_M) (Q : Int → jx_M → Prop) (hv :
    ((b1 < b2 →
      ((t0 < 18) ∧
  ((1 = 1 ∧ 0 ≤ b1 ∧ b1 < 12) ∧
  ((t0 < 18) ∧
  ((t0 < 18) ∧
  ((t0 < 18) ∧
  ((1 = 1 ∧ 0 ≤ b2 ∧ b2 < 12) ∧
  ((t0 < 18) ∧
  ((1 = 1 ∧ 0 ≤ b1 ∧ b1 < 12) ∧
  ((t0 < 18) ∧
  ((t0 < 18) ∧
  ((1 = 1 ∧ 0 ≤ b2 ∧ b2 < 12) ∧
  ((t0 < 18) ∧
  ((jx_in (b1 + 1)) ∧
  ((jx_in (b2 + (-1))) ∧
  jx_AW 79 7 [some (xA 6 t0), some (xI (b1 + 1)), some (xI (b2 + (-1))), some (xI (m 7 t0 (b1.toNat)))] [] (jx_up (jx_up m 7 t0 (b1.toNat) (m 7 t0 (b2.toNat))) 7 t0 (b2.toNat) (m 7 t0 (b1.toNat))) Q))))))))))))))) ∧
      (¬ (b1 < b2) →
      Q 0 m))) :
    jx_AW 79 7 [some (xA 6 t0), some (xI b1), some (xI b2), w3] [] m Q :=
  jx_segOk (x := 79) (cd := jx_c79) rfl (stops := [7]) 25 hv
set_option maxRecDepth 100000 in
theorem sg_80 (a1 : Int) (a2 : Int) (a3 : Int) (m : jx_M) (Q : Int → jx_M → Prop) (hv :
    ((0 < 1) ∧
  ((0 < 3) ∧
  jx_Cl 19 [xA 1 0, xI a1] m (fun z1 m1 =>
      ((z1 = 0 →
        Q (-1) m1) ∧
        (¬ (z1 = 0) →
        ((0 < 1) ∧
  ((0 < 3) ∧
  jx_Cl 19 [xA 1 0, xI a2] m1 (fun z2 m2 =>
          ((z2 = 0 →
            Q (-1) m2) ∧
            (¬ (z2 = 0) →
            ((a1 = a2 →
              Q (-1) m2) ∧
              (¬ (a1 = a2) →
              jx_Cl 12 [xI a3, xI 0, xI 2] m2 (fun z3 m3 =>
                ((z3 = 0 →
                  Q (-1) m3) ∧
                  (¬ (z3 = 0) →
                  ((0 < 1) ∧
  ((0 < 1) ∧
  ((0 < 1) ∧
  jx_Cl 81 [xA 11 0, xA 1 0, xI a1, xI a2] m3 (fun _ m4 =>
                    ((0 < 1) ∧
  ((0 < 1) ∧
  jx_Cl 82 [xA 11 0, xI a3] m4 (fun z5 m5 =>
                      Q z5 m5))))))))))))))))))))))) :
    jx_Cl 80 [xA 0 0, xI a1, xI a2, xI a3] m Q :=
  jx_segOk (x := 80) (cd := jx_c80) rfl (stops := []) 31 hv
set_option maxRecDepth 100000 in
theorem sg_81 (t1 : Nat) (a2 : Int) (a3 : Int) (m : jx_M) (Q : Int → jx_M → Prop) (hv :
    ((0 < 1) ∧
  ((2 < 3) ∧
  jx_Cl 76 [xA 1 2, xA 1 t1] m (fun _ m1 =>
      jx_AW 81 6 [some (xA 11 0), some (xA 1 t1), some (xI a2), some (xI a3), some (xI 0)] [] m1 Q)))) :
    jx_Cl 81 [xA 11 0, xA 1 t1, xI a2, xI a3] m Q :=
  jx_segOk (x := 81) (cd := jx_c81) rfl (stops := [6]) 7 hv
set_option maxRecDepth 100000 in
theorem sg_81_6 (t1 : Nat) (b2 : Int) (b3 : Int) (b4 : Int) (m : jx_M) (Q : Int → jx_M → Prop) (hv :
    ((b4 < 36 →
      ((0 < 1) ∧
  ((2 < 3) ∧
  ((0 ≤ b2 ∧ b2 < 6) ∧
  ((2 < 3) ∧
  ((0 ≤ b4 ∧ 0 < (6 : Int)) ∧
  ((jx_in (10 * (b4 / 6))) ∧
  (((6 * 2 + b2.toNat) < 18) ∧
  ((0 < 1) ∧
  ((2 < 3) ∧
  ((0 ≤ b3 ∧ b3 < 6) ∧
  ((2 < 3) ∧
  ((0 ≤ b4 ∧ 0 < (6 : Int)) ∧
  ((jx_in (10 * (b4 % 6))) ∧
  (((6 * 2 + b3.toNat) < 18) ∧
  ((0 < 1) ∧
  ((0 < 1) ∧
  ((1 < 2) ∧
  jx_Cl 63 [xA 14 1, xA 1 2] (jx_up (jx_up m 6 (6 * 2 + b2.toNat) 6 (10 * (b4 / 6))) 6 (6 * 2 + b3.toNat) 6 (10 * (b4 % 6))) (fun _ m1 =>
        ((0 < 1) ∧
  ((0 < 1) ∧
  ((1 < 2) ∧
  jx_Cl 70 [xA 14 1, xI b2] m1 (fun z2 m2 =>
          ((1 = 1 ∧ 0 ≤ b4 ∧ b4 < 36) ∧
  ((0 < 1) ∧
  ((0 < 1) ∧
  ((0 < 1) ∧
  ((1 < 2) ∧
  jx_Cl 70 [xA 14 1, xI b3] (jx_up m2 12 0 (b4.toNat) z2) (fun z3 m3 =>
            ((1 = 1 ∧ 0 ≤ b4 ∧ b4 < 36) ∧
  ((0 < 1) ∧
  ((jx_in (b4 + 1)) ∧
  jx_AW 81 6 [some (xA 11 0), some (xA 1 t1), some (xI b2), some (xI b3), some (xI (b4 + 1))] [] (jx_up m3 13 0 (b4.toNat) z3) Q)))))))))))))))))))))))))))))))) ∧
      (¬ (b4 < 36) →
      Q 0 m))) :
    jx_AW 81 6 [some (xA 11 0), some (xA 1 t1), some (xI b2), some (xI b3), some (xI b4)] [] m Q :=
  jx_segOk (x := 81) (cd := jx_c81) rfl (stops := [6]) 49 hv
set_option maxRecDepth 100000 in
theorem sg_82 (a1 : Int) (m : jx_M) (Q : Int → jx_M → Prop) (hv :
    jx_AW 82 6 [some (xA 11 0), some (xI a1), some (xI 0), some (xI (-4)), some (xI 0)] [] m Q) :
    jx_Cl 82 [xA 11 0, xI a1] m Q :=
  jx_segOk (x := 82) (cd := jx_c82) rfl (stops := [6]) 7 hv
set_option maxRecDepth 100000 in
theorem sg_82_6 (b1 : Int) (b2 : Int) (b3 : Int) (b4 : Int) (m : jx_M) (Q : Int → jx_M → Prop) (hv :
    ((b4 < 36 →
      ((0 < 1) ∧
  jx_Cl 83 [xA 11 0, xI b4] m (fun z1 m1 =>
        ((z1 = 0 →
          ((jx_in (b4 + 1)) ∧
  jx_AW 82 6 [some (xA 11 0), some (xI b1), some (xI b2), some (xI b3), some (xI (b4 + 1))] [] m1 Q)) ∧
          (¬ (z1 = 0) →
          ((jx_in (b2 + 1)) ∧
  ((b3 < 0 →
            ((jx_in (b4 + 1)) ∧
  jx_AW 82 6 [some (xA 11 0), some (xI b1), some (xI (b2 + 1)), some (xI b4), some (xI (b4 + 1))] [] m1 Q)) ∧
            (¬ (b3 < 0) →
            ((jx_in (b4 + 1)) ∧
  jx_AW 82 6 [some (xA 11 0), some (xI b1), some (xI (b2 + 1)), some (xI b3), some (xI (b4 + 1))] [] m1 Q))))))))) ∧
      (¬ (b4 < 36) →
      ((b1 = 0 →
        Q b2 m) ∧
        (¬ (b1 = 0) →
        ((b3 < 0 →
          Q (-4) m) ∧
          (¬ (b3 < 0) →
          ((b1 = 1 →
            ((0 ≤ b3 ∧ 0 < (6 : Int)) ∧
  ((jx_in (10 * (b3 / 6))) ∧
  Q (10 * (b3 / 6)) m))) ∧
            (¬ (b1 = 1) →
            ((0 ≤ b3 ∧ 0 < (6 : Int)) ∧
  ((jx_in (10 * (b3 % 6))) ∧
  Q (10 * (b3 % 6)) m))))))))))) :
    jx_AW 82 6 [some (xA 11 0), some (xI b1), some (xI b2), some (xI b3), some (xI b4)] [] m Q :=
  jx_segOk (x := 82) (cd := jx_c82) rfl (stops := [6]) 18 hv
set_option maxRecDepth 100000 in
theorem sg_83 (a1 : Int) (m : jx_M) (Q : Int → jx_M → Prop) (hv :
    ((0 ≤ a1 ∧ 0 < (6 : Int)) ∧
  ((0 ≤ a1 ∧ 0 < (6 : Int)) ∧
  jx_AW 83 10 [some (xA 11 0), some (xI a1), some (xI (a1 / 6)), some (xI (a1 % 6)), some (xI 0)] [] m Q))) :
    jx_Cl 83 [xA 11 0, xI a1] m Q :=
  jx_segOk (x := 83) (cd := jx_c83) rfl (stops := [10]) 11 hv
set_option maxRecDepth 100000 in
theorem sg_83_10 (b1 : Int) (b2 : Int) (b3 : Int) (b4 : Int) (m : jx_M) (Q : Int → jx_M → Prop) (hv :
    ((b4 < 6 →
      ((0 < 1) ∧
  ((jx_in (b4 * 6)) ∧
  ((jx_in ((b4 * 6) + b3)) ∧
  ((1 = 1 ∧ 0 ≤ ((b4 * 6) + b3) ∧ ((b4 * 6) + b3) < 36) ∧
  ((0 < 1) ∧
  ((0 < 1) ∧
  ((1 = 1 ∧ 0 ≤ b1 ∧ b1 < 36) ∧
  ((0 < 1) ∧
  (((m 12 0 (b1.toNat)) < (m 12 0 (((b4 * 6) + b3).toNat)) →
        (((0 : Int) = 0 ∨ (0 : Int) = 1) ∧
  Q 0 m)) ∧
        (¬ ((m 12 0 (b1.toNat)) < (m 12 0 (((b4 * 6) + b3).toNat))) →
        ((0 < 1) ∧
  ((jx_in (b2 * 6)) ∧
  ((jx_in ((b2 * 6) + b4)) ∧
  ((1 = 1 ∧ 0 ≤ ((b2 * 6) + b4) ∧ ((b2 * 6) + b4) < 36) ∧
  ((0 < 1) ∧
  ((0 < 1) ∧
  ((1 = 1 ∧ 0 ≤ b1 ∧ b1 < 36) ∧
  ((0 < 1) ∧
  (((m 13 0 (b1.toNat)) < (m 13 0 (((b2 * 6) + b4).toNat)) →
          (((0 : Int) = 0 ∨ (0 : Int) = 1) ∧
  Q 0 m)) ∧
          (¬ ((m 13 0 (b1.toNat)) < (m 13 0 (((b2 * 6) + b4).toNat))) →
          ((jx_in (b4 + 1)) ∧
  jx_AW 83 10 [some (xA 11 0), some (xI b1), some (xI b2), some (xI b3), some (xI (b4 + 1))] [] m Q)))))))))))))))))))))) ∧
      (¬ (b4 < 6) →
      (((1 : Int) = 0 ∨ (1 : Int) = 1) ∧
  Q 1 m)))) :
    jx_AW 83 10 [some (xA 11 0), some (xI b1), some (xI b2), some (xI b3), some (xI b4)] [] m Q :=
  jx_segOk (x := 83) (cd := jx_c83) rfl (stops := [10]) 32 hv
set_option maxRecDepth 100000 in
theorem sg_84 (a1 : Int) (a2 : Int) (a3 : Int) (a4 : Int) (m : jx_M) (Q : Int → jx_M → Prop) (hv :
    jx_Cl 12 [xI a1, xI 1, xI 3] m (fun z1 m1 =>
      ((z1 = 0 →
        Q (-1) m1) ∧
        (¬ (z1 = 0) →
        jx_Cl 15 [xI a2] m1 (fun z2 m2 =>
          ((z2 = 0 →
            Q (-1) m2) ∧
            (¬ (z2 = 0) →
            jx_Cl 12 [xI a3, xI 0, xI 12] m2 (fun z3 m3 =>
              ((z3 = 0 →
                Q (-1) m3) ∧
                (¬ (z3 = 0) →
                ((jx_in (a1 - 1)) ∧
  jx_Cl 12 [xI a4, xI (-1), xI (a1 - 1)] m3 (fun z4 m4 =>
                  ((z4 = 0 →
                    Q (-1) m4) ∧
                    (¬ (z4 = 0) →
                    jx_Cl 85 [xI a1] m4 (fun z5 m5 =>
                      jx_AW 84 31 [some (xA 0 0), some (xI a1), some (xI a2), some (xI a3), some (xI a4), some (xI z5), some (xI (-1)), some (xI 0), some (xI 0), none] [] m5 Q))))))))))))))) :
    jx_Cl 84 [xA 0 0, xI a1, xI a2, xI a3, xI a4] m Q :=
  jx_segOk (x := 84) (cd := jx_c84) rfl (stops := [31]) 30 hv
set_option maxRecDepth 100000 in
theorem sg_84_31 (b1 : Int) (b2 : Int) (b3 : Int) (b4 : Int) (b5 : Int) (b6 : Int) (b7 : Int) (b8 : Int) (w9 : Option jx_V) (m : jx_M) (Q : Int → jx_M → Prop) (hv :
    ((b8 < b5 →
      ((0 < 1) ∧
  jx_Cl 86 [xA 0 0, xI b8, xI b1] m (fun _ m1 =>
        ((0 < 1) ∧
  jx_Cl 17 [xA 25 0, xI b1] m1 (fun z2 m2 =>
          ((jx_in (b2 + z2)) ∧
  (((b2 + z2) < b3 →
            ((jx_in (b8 + 1)) ∧
  jx_AW 84 31 [some (xA 0 0), some (xI b1), some (xI b2), some (xI b3), some (xI b4), some (xI b5), some (xI b6), some (xI b7), some (xI (b8 + 1)), w9] [] m2 Q)) ∧
            (¬ ((b2 + z2) < b3) →
            ((0 < 1) ∧
  ((0 < 1) ∧
  jx_Cl 87 [xA 0 0, xA 25 0, xI b1] m2 (fun z3 m3 =>
              ((b6 < z3 →
                ((jx_in (b8 + 1)) ∧
  jx_AW 84 31 [some (xA 0 0), some (xI b1), some (xI b2), some (xI b3), some (xI b4), some (xI b5), some (xI z3), some (xI b8), some (xI (b8 + 1)), some (xI z3)] [] m3 Q)) ∧
                (¬ (b6 < z3) →
                ((jx_in (b8 + 1)) ∧
  jx_AW 84 31 [some (xA 0 0), some (xI b1), some (xI b2), some (xI b3), some (xI b4), some (xI b5), some (xI b6), some (xI b7), some (xI (b8 + 1)), some (xI z3)] [] m3 Q)))))))))))))) ∧
      (¬ (b8 < b5) →
      ((b6 < 0 →
        Q (-4) m) ∧
        (¬ (b6 < 0) →
        ((0 < 1) ∧
  jx_Cl 86 [xA 0 0, xI b7, xI b1] m (fun _ m4 =>
          ((b4 < 0 →
            Q b6 m4) ∧
            (¬ (b4 < 0) →
            ((0 < 1) ∧
  ((1 = 1 ∧ 0 ≤ b4 ∧ b4 < 25) ∧
  ((0 < 1) ∧
  Q (m4 25 0 (b4.toNat)) m4)))))))))))) :
    jx_AW 84 31 [some (xA 0 0), some (xI b1), some (xI b2), some (xI b3), some (xI b4), some (xI b5), some (xI b6), some (xI b7), some (xI b8), w9] [] m Q :=
  jx_segOk (x := 84) (cd := jx_c84) rfl (stops := [31]) 31 hv
set_option maxRecDepth 100000 in
theorem sg_85 (a1 : Int) (m : jx_M) (Q : Int → jx_M → Prop) (hv :
    jx_AW 85 4 [some (xI a1), some (xI 1), some (xI 0)] [] m Q) :
    jx_Cl 85 [xI a1] m Q :=
  jx_segOk (x := 85) (cd := jx_c85) rfl (stops := [4]) 5 hv
set_option maxRecDepth 100000 in
theorem sg_85_4 (b0 : Int) (b1 : Int) (b2 : Int) (m : jx_M) (Q : Int → jx_M → Prop) (hv :
    ((b2 < b0 →
      ((jx_in (b1 * 10)) ∧
  ((jx_in (b2 + 1)) ∧
  jx_AW 85 4 [some (xI b0), some (xI (b1 * 10)), some (xI (b2 + 1))] [] m Q))) ∧
      (¬ (b2 < b0) →
      Q b1 m))) :
    jx_AW 85 4 [some (xI b0), some (xI b1), some (xI b2)] [] m Q :=
  jx_segOk (x := 85) (cd := jx_c85) rfl (stops := [4]) 10 hv
set_option maxRecDepth 100000 in
theorem sg_86 (a1 : Int) (a2 : Int) (m : jx_M) (Q : Int → jx_M → Prop) (hv :
    ((jx_in (a2 - 1)) ∧
  jx_AW 86 6 [some (xA 0 0), some (xI a1), some (xI a2), some (xI a1), some (xI (a2 - 1))] [] m Q)) :
    jx_Cl 86 [xA 0 0, xI a1, xI a2] m Q :=
  jx_segOk (x := 86) (cd := jx_c86) rfl (stops := [6]) 7 hv
set_option maxRecDepth 100000 in
theorem sg_86_6 (b1 : Int) (b2 : Int) (b3 : Int) (b4 : Int) (m : jx_M) (Q : Int → jx_M → Prop) (hv :
    ((b4 < 0 →
      Q 0 m) ∧
      (¬ (b4 < 0) →
      ((0 < 1) ∧
  ((0 ≤ b3 ∧ 0 < (10 : Int)) ∧
  ((1 = 1 ∧ 0 ≤ b4 ∧ b4 < 25) ∧
  ((0 < 1) ∧
  ((0 ≤ b3 ∧ 0 < (10 : Int)) ∧
  ((jx_in (b4 + (-1))) ∧
  jx_AW 86 6 [some (xA 0 0), some (xI b1), some (xI b2), some (xI (b3 / 10)), some (xI (b4 + (-1)))] [] (jx_up m 25 0 (b4.toNat) (b3 % 10)) Q))))))))) :
    jx_AW 86 6 [some (xA 0 0), some (xI b1), some (xI b2), some (xI b3), some (xI b4)] [] m Q :=
  jx_segOk (x := 86) (cd := jx_c86) rfl (stops := [6]) 16 hv
set_option maxRecDepth 100000 in
theorem sg_87_DRAFT (a2 : Int) (m : jx_M) (Q : Int → jx_M → Prop) (hv :
    ((0 < 1) ∧
  jx_Cl 88 [xA 0 0, xA 25 0, xI a2] m (fun z1 m1 =>
      ((z1 < 0 →
        Q 0 m1) ∧
        (¬ (z1 < 0) →
        ((0 < 1) ∧
  ((0 < 3) ∧
  ((0 ≤ z1 ∧ z1 < 6) ∧
  ((0 < 3) ∧
  (((6 * 0 + z1.toNat) < 18) ∧
  jx_Cl 54 [xA 6 (6 * 0 + z1.toNat), xA 25 0, xI a2] m1 (fun z2 m2 =>
          Q z2 m2))))))))))) :
    jx_Cl 87 [xA 0 0, xA 25 0, xI a2] m Q :=
  jx_segOk (x := 87) (cd := jx_c87) rfl (stops := []) 17 hv
set_option maxRecDepth 100000 in
theorem sg_88_DRAFT (a2 : Int) (m : jx_M) (Q : Int → jx_M → Prop) (hv :
    jx_AW 88 6 [some (xA 0 0), some (xA 25 0), some (xI a2), some (xI (-4)), some (xI 0), some (xI 0), none] [] m Q) :
    jx_Cl 88 [xA 0 0, xA 25 0, xI a2] m Q :=
  jx_segOk (x := 88) (cd := jx_c88) rfl (stops := [6]) 7 hv
set_option maxRecDepth 100000 in
theorem sg_88_DRAFT_6 (b2 : Int) (b3 : Int) (b4 : Int) (b5 : Int) (w6 : Option jx_V) (m : jx_M) (Q : Int → jx_M → Prop) (hv :
    ((0 < 1) ∧
  ((0 < 3) ∧
  ((b5 < (m 1 0 4) →
      ((0 < 1) ∧
  ((0 < 3) ∧
  ((0 ≤ b5 ∧ b5 < 6) ∧
  ((0 < 3) ∧
  (((6 * 0 + b5.toNat) < 18) ∧
  jx_Cl 54 [xA 6 (6 * 0 + b5.toNat), xA 25 0, xI b2] m (fun z1 m1 =>
        ((b3 < 0 →
          ((jx_in (b5 + 1)) ∧
  jx_AW 88 6 [some (xA 0 0), some (xA 25 0), some (xI b2), some (xI b5), some (xI z1), some (xI (b5 + 1)), some (xI z1)] [] m1 Q)) ∧
          (¬ (b3 < 0) →
          ((z1 < b4 →
            ((jx_in (b5 + 1)) ∧
  jx_AW 88 6 [some (xA 0 0), some (xA 25 0), some (xI b2), some (xI b5), some (xI z1), some (xI (b5 + 1)), some (xI z1)] [] m1 Q)) ∧
            (¬ (z1 < b4) →
            ((jx_in (b5 + 1)) ∧
  jx_AW 88 6 [some (xA 0 0), some (xA 25 0), some (xI b2), some (xI b3), some (xI b4), some (xI (b5 + 1)), some (xI z1)] [] m1 Q)))))))))))) ∧
      (¬ (b5 < (m 1 0 4)) →
      Q b3 m))))) :
    jx_AW 88 6 [some (xA 0 0), some (xA 25 0), some (xI b2), some (xI b3), some (xI b4), some (xI b5), w6] [] m Q :=
  jx_segOk (x := 88) (cd := jx_c88) rfl (stops := [6]) 26 hv
set_option maxRecDepth 100000 in
theorem sg_89 (a1 : Int) (m : jx_M) (Q : Int → jx_M → Prop) (hv :
    jx_Cl 11 [xI a1] m (fun z1 m1 =>
      ((z1 = 0 →
        Q (-1) m1) ∧
        (¬ (z1 = 0) →
        ((0 < 1) ∧
  ((0 < 3) ∧
  jx_Cl 90 [xA 1 0, xI a1] m1 (fun z2 m2 =>
          Q z2 m2))))))) :
    jx_Cl 89 [xA 0 0, xI a1] m Q :=
  jx_segOk (x := 89) (cd := jx_c89) rfl (stops := []) 10 hv
set_option maxRecDepth 100000 in
theorem sg_90 (t0 : Nat) (a1 : Int) (m : jx_M) (Q : Int → jx_M → Prop) (hv :
    jx_AW 90 4 [some (xA 1 t0), some (xI a1), some (xI 0), some (xI 0)] [] m Q) :
    jx_Cl 90 [xA 1 t0, xI a1] m Q :=
  jx_segOk (x := 90) (cd := jx_c90) rfl (stops := [4]) 5 hv
set_option maxRecDepth 100000 in
theorem sg_90_4 (t0 : Nat) (b1 : Int) (b2 : Int) (b3 : Int) (m : jx_M) (Q : Int → jx_M → Prop) (hv :
    ((t0 < 3) ∧
  ((b3 < (m 1 t0 4) →
      ((t0 < 3) ∧
  jx_Cl 91 [xA 1 t0, xI b3, xI b1] m (fun z1 m1 =>
        ((jx_in (b2 + z1)) ∧
  ((jx_in (b3 + 1)) ∧
  jx_AW 90 4 [some (xA 1 t0), some (xI b1), some (xI (b2 + z1)), some (xI (b3 + 1))] [] m1 Q))))) ∧
      (¬ (b3 < (m 1 t0 4)) →
      Q b2 m)))) :
    jx_AW 90 4 [some (xA 1 t0), some (xI b1), some (xI b2), some (xI b3)] [] m Q :=
  jx_segOk (x := 90) (cd := jx_c90) rfl (stops := [4]) 14 hv
set_option maxRecDepth 100000 in
theorem sg_91 (t0 : Nat) (a1 : Int) (a2 : Int) (m : jx_M) (Q : Int → jx_M → Prop) (hv :
    jx_AW 91 4 [some (xA 1 t0), some (xI a1), some (xI a2), some (xI 0), some (xI 0)] [] m Q) :
    jx_Cl 91 [xA 1 t0, xI a1, xI a2] m Q :=
  jx_segOk (x := 91) (cd := jx_c91) rfl (stops := [4]) 5 hv
set_option maxRecDepth 100000 in
theorem sg_91_4 (t0 : Nat) (b1 : Int) (b2 : Int) (b3 : Int) (b4 : Int) (m : jx_M) (Q : Int → jx_M → Prop) (hv :
    ((t0 < 3) ∧
  ((0 ≤ b1 ∧ b1 < 6) ∧
  ((t0 < 3) ∧
  (((6 * t0 + b1.toNat) < 18) ∧
  ((b4 < (m 6 (6 * t0 + b1.toNat) 2) →
      ((t0 < 3) ∧
  ((0 ≤ b1 ∧ b1 < 6) ∧
  ((t0 < 3) ∧
  (((6 * t0 + b1.toNat) < 18) ∧
  ((t0 < 3) ∧
  ((0 ≤ b1 ∧ b1 < 6) ∧
  ((t0 < 3) ∧
  (((6 * t0 + b1.toNat) < 18) ∧
  ((jx_in (b4 * (m 6 (6 * t0 + b1.toNat) 7))) ∧
  ((jx_in ((m 6 (6 * t0 + b1.toNat) 6) + (b4 * (m 6 (6 * t0 + b1.toNat) 7)))) ∧
  ((t0 < 3) ∧
  jx_Cl 47 [xA 1 t0, xI b1, xI b2, xI ((m 6 (6 * t0 + b1.toNat) 6) + (b4 * (m 6 (6 * t0 + b1.toNat) 7)))] m (fun z1 m1 =>
        ((z1 = 0 →
          ((jx_in (b4 + 1)) ∧
  jx_AW 91 4 [some (xA 1 t0), some (xI b1), some (xI b2), some (xI b3), some (xI (b4 + 1))] [] m1 Q)) ∧
          (¬ (z1 = 0) →
          ((jx_in (b3 + 1)) ∧
  ((jx_in (b4 + 1)) ∧
  jx_AW 91 4 [some (xA 1 t0), some (xI b1), some (xI b2), some (xI (b3 + 1)), some (xI (b4 + 1))] [] m1 Q))))))))))))))))) ∧
      (¬ (b4 < (m 6 (6 * t0 + b1.toNat) 2)) →
      Q b3 m))))))) :
    jx_AW 91 4 [some (xA 1 t0), some (xI b1), some (xI b2), some (xI b3), some (xI b4)] [] m Q :=
  jx_segOk (x := 91) (cd := jx_c91) rfl (stops := [4]) 29 hv
set_option maxRecDepth 100000 in
theorem sg_92 (a1 : Int) (a2 : Int) (m : jx_M) (Q : Int → jx_M → Prop) (hv :
    jx_Cl 11 [xI a1] m (fun z1 m1 =>
      ((z1 = 0 →
        Q (-1) m1) ∧
        (¬ (z1 = 0) →
        jx_Cl 12 [xI a2, xI 0, xI 999] m1 (fun z2 m2 =>
          ((z2 = 0 →
            Q (-1) m2) ∧
            (¬ (z2 = 0) →
            ((0 < 1) ∧
  ((0 < 1) ∧
  ((0 < 1) ∧
  jx_Cl 93 [xA 11 0, xA 1 0, xI a1, xI a2] m2 (fun z3 m3 =>
              Q z3 m3))))))))))) :
    jx_Cl 92 [xA 0 0, xI a1, xI a2] m Q :=
  jx_segOk (x := 92) (cd := jx_c92) rfl (stops := []) 17 hv
set_option maxRecDepth 100000 in
theorem sg_93 (t1 : Nat) (a2 : Int) (a3 : Int) (m : jx_M) (Q : Int → jx_M → Prop) (hv :
    ((0 < 1) ∧
  ((2 < 3) ∧
  jx_Cl 76 [xA 1 2, xA 1 t1] m (fun _ m1 =>
      jx_AW 93 6 [some (xA 11 0), some (xA 1 t1), some (xI a2), some (xI a3), some (xI 0), none] [] m1 Q)))) :
    jx_Cl 93 [xA 11 0, xA 1 t1, xI a2, xI a3] m Q :=
  jx_segOk (x := 93) (cd := jx_c93) rfl (stops := [6, 11]) 7 hv
set_option maxRecDepth 100000 in
theorem sg_93_6 (t1 : Nat) (b2 : Int) (b3 : Int) (b4 : Int) (w5 : Option jx_V) (m : jx_M) (Q : Int → jx_M → Prop) (hv :
    (((4 : Int) < b4 →
      Q (-4) m) ∧
      (¬ ((4 : Int) < b4) →
      jx_AW 93 11 [some (xA 11 0), some (xA 1 t1), some (xI b2), some (xI b3), some (xI b4), some (xI 0)] [] m Q))) :
    jx_AW 93 6 [some (xA 11 0), some (xA 1 t1), some (xI b2), some (xI b3), some (xI b4), w5] [] m Q :=
  jx_segOk (x := 93) (cd := jx_c93) rfl (stops := [6, 11]) 6 hv
set_option maxRecDepth 100000 in
theorem sg_93_11 (t1 : Nat) (b2 : Int) (b3 : Int) (b4 : Int) (b5 : Int) (m : jx_M) (Q : Int → jx_M → Prop) (hv :
    ((b5 < 16 →
      jx_Cl 59 [xI b5] m (fun z1 m1 =>
        ((z1 = b4 →
          ((0 < 1) ∧
  ((2 < 3) ∧
  ((0 < 1) ∧
  ((2 < 3) ∧
  jx_Cl 90 [xA 1 2, xI b2] (jx_up m1 1 2 8 b5) (fun z2 m2 =>
            ((b3 < z2 →
              ((jx_in (b5 + 1)) ∧
  jx_AW 93 11 [some (xA 11 0), some (xA 1 t1), some (xI b2), some (xI b3), some (xI b4), some (xI (b5 + 1))] [] m2 Q)) ∧
              (¬ (b3 < z2) →
              Q b5 m2)))))))) ∧
          (¬ (z1 = b4) →
          ((jx_in (b5 + 1)) ∧
  jx_AW 93 11 [some (xA 11 0), some (xA 1 t1), some (xI b2), some (xI b3), some (xI b4), some (xI (b5 + 1))] [] m1 Q))))) ∧
      (¬ (b5 < 16) →
      ((jx_in (b4 + 1)) ∧
  jx_AW 93 6 [some (xA 11 0), some (xA 1 t1), some (xI b2), some (xI b3), some (xI (b4 + 1)), some (xI b5)] [] m Q)))) :
    jx_AW 93 11 [some (xA 11 0), some (xA 1 t1), some (xI b2), some (xI b3), some (xI b4), some (xI b5)] [] m Q :=
  jx_segOk (x := 93) (cd := jx_c93) rfl (stops := [6, 11]) 20 hv
set_option maxRecDepth 100000 in
theorem sg_94 (a1 : Int) (a2 : Int) (m : jx_M) (Q : Int → jx_M → Prop) (hv :
    jx_Cl 57 [xI a1] m (fun z1 m1 =>
      ((z1 = 0 →
        Q (-100001) m1) ∧
        (¬ (z1 = 0) →
        ((0 < 1) ∧
  ((0 < 3) ∧
  jx_Cl 19 [xA 1 0, xI a2] m1 (fun z2 m2 =>
          ((z2 = 0 →
            Q (-100001) m2) ∧
            (¬ (z2 = 0) →
            ((0 < 1) ∧
  ((0 < 1) ∧
  ((0 < 1) ∧
  jx_Cl 95 [xA 11 0, xA 1 0, xI a1, xI a2] m2 (fun z3 m3 =>
              Q z3 m3))))))))))))) :
    jx_Cl 94 [xA 0 0, xI a1, xI a2] m Q :=
  jx_segOk (x := 94) (cd := jx_c94) rfl (stops := []) 17 hv
set_option maxRecDepth 100000 in
theorem sg_95 (t1 : Nat) (a2 : Int) (a3 : Int) (m : jx_M) (Q : Int → jx_M → Prop) (hv :
    ((0 < 1) ∧
  ((2 < 3) ∧
  jx_Cl 76 [xA 1 2, xA 1 t1] m (fun _ m1 =>
      ((0 < 1) ∧
  ((0 < 1) ∧
  ((1 < 2) ∧
  jx_Cl 63 [xA 14 1, xA 1 2] m1 (fun _ m2 =>
        ((0 < 1) ∧
  ((1 < 2) ∧
  jx_Cl 70 [xA 14 1, xI a3] m2 (fun z3 m3 =>
          ((0 < 1) ∧
  ((2 < 3) ∧
  ((2 < 3) ∧
  ((0 < 1) ∧
  ((0 < 1) ∧
  ((1 < 2) ∧
  jx_Cl 63 [xA 14 1, xA 1 2] (jx_up m3 1 2 8 (jx_ior (m3 1 2 8) (jx_ishl 1 a2))) (fun _ m4 =>
            ((0 < 1) ∧
  ((1 < 2) ∧
  jx_Cl 70 [xA 14 1, xI a3] m4 (fun z5 m5 =>
              ((jx_in (z3 - z5)) ∧
  Q (z3 - z5) m5)))))))))))))))))))))) :
    jx_Cl 95 [xA 11 0, xA 1 t1, xI a2, xI a3] m Q :=
  jx_segOk (x := 95) (cd := jx_c95) rfl (stops := []) 36 hv
set_option maxRecDepth 100000 in
theorem sg_96 (a1 : Int) (a2 : Int) (a3 : Int) (m : jx_M) (Q : Int → jx_M → Prop) (hv :
    jx_Cl 11 [xI a1] m (fun z1 m1 =>
      ((z1 = 0 →
        Q (-1) m1) ∧
        (¬ (z1 = 0) →
        jx_Cl 21 [xI a2] m1 (fun z2 m2 =>
          ((z2 = 0 →
            Q (-1) m2) ∧
            (¬ (z2 = 0) →
            ((0 < 1) ∧
  ((0 < 3) ∧
  (((m2 1 0 6) < 12 →
              ((0 < 1) ∧
  ((0 < 3) ∧
  ((0 < 1) ∧
  ((0 < 3) ∧
  ((0 ≤ (m2 1 0 6) ∧ (m2 1 0 6) < 12) ∧
  ((0 < 3) ∧
  (((12 * 0 + (m2 1 0 6).toNat) < 36) ∧
  jx_Cl 78 [xA 10 (12 * 0 + (m2 1 0 6).toNat), xI a1, xI a2, xI a3] m2 (fun _ m3 =>
                ((0 < 1) ∧
  ((0 < 3) ∧
  ((jx_in ((m3 1 0 6) + 1)) ∧
  ((0 < 3) ∧
  ((0 < 1) ∧
  ((0 < 3) ∧
  Q ((jx_up m3 1 0 6 ((m3 1 0 6) + 1)) 1 0 6) (jx_up m3 1 0 6 ((m3 1 0 6) + 1))))))))))))))))) ∧
              (¬ ((m2 1 0 6) < 12) →
              Q (-3) m2))))))))))) :
    jx_Cl 96 [xA 0 0, xI a1, xI a2, xI a3] m Q :=
  jx_segOk (x := 96) (cd := jx_c96) rfl (stops := []) 34 hv
set_option maxRecDepth 100000 in
theorem sg_97 (a1 : Int) (a2 : Int) (m : jx_M) (Q : Int → jx_M → Prop) (hv :
    ((0 < 1) ∧
  ((0 < 3) ∧
  jx_Cl 19 [xA 1 0, xI a1] m (fun z1 m1 =>
      ((z1 = 0 →
        Q (-1) m1) ∧
        (¬ (z1 = 0) →
        jx_Cl 12 [xI a2, xI 0, xI 2] m1 (fun z2 m2 =>
          ((z2 = 0 →
            Q (-1) m2) ∧
            (¬ (z2 = 0) →
            ((0 < 1) ∧
  ((0 < 1) ∧
  ((0 < 1) ∧
  jx_Cl 98 [xA 11 0, xA 1 0, xI a1, xI a2] m2 (fun z3 m3 =>
              Q z3 m3))))))))))))) :
    jx_Cl 97 [xA 0 0, xI a1, xI a2] m Q :=
  jx_segOk (x := 97) (cd := jx_c97) rfl (stops := []) 19 hv
set_option maxRecDepth 100000 in
theorem sg_98 (t1 : Nat) (a2 : Int) (a3 : Int) (m : jx_M) (Q : Int → jx_M → Prop) (hv :
    ((0 < 1) ∧
  ((2 < 3) ∧
  jx_Cl 76 [xA 1 2, xA 1 t1] m (fun _ m1 =>
      ((0 < 1) ∧
  ((2 < 3) ∧
  ((0 ≤ (0 : Int) ∧ (0 : Int) < 6) ∧
  ((2 < 3) ∧
  ((t1 < 3) ∧
  ((0 ≤ a2 ∧ a2 < 6) ∧
  ((t1 < 3) ∧
  (((6 * 2 + (0 : Int).toNat) < 18) ∧
  jx_Cl 77 [xA 6 (6 * 2 + (0 : Int).toNat), xA 6 (6 * t1 + a2.toNat)] m1 (fun _ m2 =>
        ((0 < 1) ∧
  ((2 < 3) ∧
  jx_AW 98 26 [some (xA 11 0), some (xA 1 t1), some (xI a2), some (xI a3), some (xI 0), some (xI (-4)), some (xI (-4)), some (xI 0)] [] (jx_up m2 1 2 4 1) Q))))))))))))))) :
    jx_Cl 98 [xA 11 0, xA 1 t1, xI a2, xI a3] m Q :=
  jx_segOk (x := 98) (cd := jx_c98) rfl (stops := [26]) 27 hv
set_option maxRecDepth 100000 in
theorem sg_98_26 (t1 : Nat) (b2 : Int) (b3 : Int) (b4 : Int) (b5 : Int) (b6 : Int) (b7 : Int) (m : jx_M) (Q : Int → jx_M → Prop) (hv :
    ((b7 < 120 →
      ((0 < 1) ∧
  ((2 < 3) ∧
  ((0 ≤ (0 : Int) ∧ (0 : Int) < 6) ∧
  ((2 < 3) ∧
  (((6 * 2 + (0 : Int).toNat) < 18) ∧
  ((0 < 1) ∧
  ((2 < 3) ∧
  jx_Cl 99 [xA 1 2, xI 0] (jx_up m 6 (6 * 2 + (0 : Int).toNat) 6 b7) (fun z1 m1 =>
        ((z1 = 0 →
          ((jx_in (b7 + 1)) ∧
  jx_AW 98 26 [some (xA 11 0), some (xA 1 t1), some (xI b2), some (xI b3), some (xI b4), some (xI b5), some (xI b6), some (xI (b7 + 1))] [] m1 Q)) ∧
          (¬ (z1 = 0) →
          ((jx_in (b4 + 1)) ∧
  ((b5 < 0 →
            ((jx_in (b7 + 1)) ∧
  jx_AW 98 26 [some (xA 11 0), some (xA 1 t1), some (xI b2), some (xI b3), some (xI (b4 + 1)), some (xI b7), some (xI b7), some (xI (b7 + 1))] [] m1 Q)) ∧
            (¬ (b5 < 0) →
            ((jx_in (b7 + 1)) ∧
  jx_AW 98 26 [some (xA 11 0), some (xA 1 t1), some (xI b2), some (xI b3), some (xI (b4 + 1)), some (xI b5), some (xI b7), some (xI (b7 + 1))] [] m1 Q))))))))))))))) ∧
      (¬ (b7 < 120) →
      ((b3 = 0 →
        Q b4 m) ∧
        (¬ (b3 = 0) →
        ((b3 = 1 →
          Q b5 m) ∧
          (¬ (b3 = 1) →
          Q b6 m))))))) :
    jx_AW 98 26 [some (xA 11 0), some (xA 1 t1), some (xI b2), some (xI b3), some (xI b4), some (xI b5), some (xI b6), some (xI b7)] [] m Q :=
  jx_segOk (x := 98) (cd := jx_c98) rfl (stops := [26]) 26 hv
set_option maxRecDepth 100000 in
theorem sg_99 (t0 : Nat) (a1 : Int) (m : jx_M) (Q : Int → jx_M → Prop) (hv :
    jx_AW 99 2 [some (xA 1 t0), some (xI a1), some (xI 0), none] [] m Q) :
    jx_Cl 99 [xA 1 t0, xI a1] m Q :=
  jx_segOk (x := 99) (cd := jx_c99) rfl (stops := [2]) 3 hv
set_option maxRecDepth 100000 in
theorem sg_99_2 (t0 : Nat) (b1 : Int) (b2 : Int) (w3 : Option jx_V) (m : jx_M) (Q : Int → jx_M → Prop) (hv :
    ((t0 < 3) ∧
  ((b2 < (m 1 t0 6) →
      ((t0 < 3) ∧
  ((0 ≤ b2 ∧ b2 < 12) ∧
  ((t0 < 3) ∧
  (((12 * t0 + b2.toNat) < 36) ∧
  (((12 * t0 + b2.toNat) < 36) ∧
  ((t0 < 3) ∧
  jx_Cl 47 [xA 1 t0, xI b1, xI (m 10 (12 * t0 + b2.toNat) 0), xI (m 10 (12 * t0 + b2.toNat) 1)] m (fun z1 m1 =>
        (((12 * t0 + b2.toNat) < 36) ∧
  ((z1 = (m1 10 (12 * t0 + b2.toNat) 2) →
          ((jx_in (b2 + 1)) ∧
  jx_AW 99 2 [some (xA 1 t0), some (xI b1), some (xI (b2 + 1)), some (xA 10 (12 * t0 + b2.toNat))] [] m1 Q)) ∧
          (¬ (z1 = (m1 10 (12 * t0 + b2.toNat) 2)) →
          (((0 : Int) = 0 ∨ (0 : Int) = 1) ∧
  Q 0 m1)))))))))))) ∧
      (¬ (b2 < (m 1 t0 6)) →
      (((1 : Int) = 0 ∨ (1 : Int) = 1) ∧
  Q 1 m))))) :
    jx_AW 99 2 [some (xA 1 t0), some (xI b1), some (xI b2), w3] [] m Q :=
  jx_segOk (x := 99) (cd := jx_c99) rfl (stops := [2]) 22 hv
set_option maxRecDepth 100000 in
theorem sg_100  (m : jx_M) (Q : Int → jx_M → Prop) (hv :
    ((0 < 1) ∧
  ((0 < 3) ∧
  ((0 < 1) ∧
  ((0 < 3) ∧
  Q (m 1 0 6) (jx_up m 1 0 6 0)))))) :
    jx_Cl 100 [xA 0 0] m Q :=
  jx_segOk (x := 100) (cd := jx_c100) rfl (stops := []) 11 hv
set_option maxRecDepth 100000 in
theorem sg_101 (a1 : Int) (a2 : Int) (m : jx_M) (Q : Int → jx_M → Prop) (hv :
    ((0 < 1) ∧
  ((0 < 3) ∧
  jx_Cl 19 [xA 1 0, xI a1] m (fun z1 m1 =>
      ((z1 = 0 →
        Q (-1) m1) ∧
        (¬ (z1 = 0) →
        jx_Cl 11 [xI a2] m1 (fun z2 m2 =>
          ((z2 = 0 →
            Q (-1) m2) ∧
            (¬ (z2 = 0) →
            ((0 < 1) ∧
  ((0 < 1) ∧
  ((0 < 1) ∧
  jx_Cl 102 [xA 11 0, xA 1 0, xI a1, xI a2] m2 (fun z3 m3 =>
              Q z3 m3))))))))))))) :
    jx_Cl 101 [xA 0 0, xI a1, xI a2] m Q :=
  jx_segOk (x := 101) (cd := jx_c101) rfl (stops := []) 17 hv
set_option maxRecDepth 100000 in
theorem sg_102 (t1 : Nat) (a2 : Int) (a3 : Int) (m : jx_M) (Q : Int → jx_M → Prop) (hv :
    ((0 < 1) ∧
  ((2 < 3) ∧
  jx_Cl 76 [xA 1 2, xA 1 t1] m (fun _ m1 =>
      jx_AW 102 6 [some (xA 11 0), some (xA 1 t1), some (xI a2), some (xI a3), some (xI 0)] [] m1 Q)))) :
    jx_Cl 102 [xA 11 0, xA 1 t1, xI a2, xI a3] m Q :=
  jx_segOk (x := 102) (cd := jx_c102) rfl (stops := [6]) 7 hv
set_option maxRecDepth 100000 in
theorem sg_102_6 (t1 : Nat) (b2 : Int) (b3 : Int) (b4 : Int) (m : jx_M) (Q : Int → jx_M → Prop) (hv :
    (((9 : Int) < b4 →
      Q (-4) m) ∧
      (¬ ((9 : Int) < b4) →
      ((0 < 1) ∧
  ((2 < 3) ∧
  ((1 = 1 ∧ 0 ≤ b3 ∧ b3 < 25) ∧
  ((2 < 3) ∧
  ((0 < 1) ∧
  ((2 < 3) ∧
  jx_Cl 91 [xA 1 2, xI b2, xI b3] (jx_up m 2 2 (b3.toNat) b4) (fun z1 m1 =>
        ((z1 = 0 →
          Q b4 m1) ∧
          (¬ (z1 = 0) →
          ((jx_in (b4 + 1)) ∧
  jx_AW 102 6 [some (xA 11 0), some (xA 1 t1), some (xI b2), some (xI b3), some (xI (b4 + 1))] [] m1 Q))))))))))))) :
    jx_AW 102 6 [some (xA 11 0), some (xA 1 t1), some (xI b2), some (xI b3), some (xI b4)] [] m Q :=
  jx_segOk (x := 102) (cd := jx_c102) rfl (stops := [6]) 18 hv
set_option maxRecDepth 100000 in
theorem sg_103 (a1 : Int) (a2 : Int) (m : jx_M) (Q : Int → jx_M → Prop) (hv :
    ((0 < 1) ∧
  ((0 < 3) ∧
  jx_Cl 19 [xA 1 0, xI a1] m (fun z1 m1 =>
      ((z1 = 0 →
        Q (-1) m1) ∧
        (¬ (z1 = 0) →
        jx_Cl 11 [xI a2] m1 (fun z2 m2 =>
          ((z2 = 0 →
            Q (-1) m2) ∧
            (¬ (z2 = 0) →
            ((0 < 1) ∧
  ((0 < 3) ∧
  jx_Cl 91 [xA 1 0, xI a1, xI a2] m2 (fun z3 m3 =>
              Q z3 m3)))))))))))) :
    jx_Cl 103 [xA 0 0, xI a1, xI a2] m Q :=
  jx_segOk (x := 103) (cd := jx_c103) rfl (stops := []) 15 hv
set_option maxRecDepth 100000 in
theorem sg_104  (m : jx_M) (Q : Int → jx_M → Prop) (hv :
    ((0 < 1) ∧
  ((0 < 1) ∧
  ((1 < 3) ∧
  jx_Cl 76 [xA 1 1, xA 1 0] m (fun _ m1 =>
      ((0 < 1) ∧
  (((1 : Int) = 0 ∨ (1 : Int) = 1) ∧
  Q 1 (jx_up m1 0 0 7 1)))))))) :
    jx_Cl 104 [xA 0 0] m Q :=
  jx_segOk (x := 104) (cd := jx_c104) rfl (stops := []) 11 hv
set_option maxRecDepth 100000 in
theorem sg_105  (m : jx_M) (Q : Int → jx_M → Prop) (hv :
    ((0 < 1) ∧
  (((m 0 0 7) = 0 →
      Q (-4) m) ∧
      (¬ ((m 0 0 7) = 0) →
      ((0 < 1) ∧
  ((0 < 1) ∧
  ((0 < 3) ∧
  jx_Cl 76 [xA 1 0, xA 1 1] m (fun _ m1 =>
        Q 1 m1)))))))) :
    jx_Cl 105 [xA 0 0] m Q :=
  jx_segOk (x := 105) (cd := jx_c105) rfl (stops := []) 11 hv
set_option maxRecDepth 100000 in
theorem sg_106 (a1 : Int) (a2 : Int) (a3 : Int) (a4 : Int) (a5 : Int) (a6 : Int) (m : jx_M) (Q : Int → jx_M → Prop) (hv :
    jx_Cl 107 [xI a1] m (fun z1 m1 =>
      ((z1 = 0 →
        Q (-1) m1) ∧
        (¬ (z1 = 0) →
        jx_Cl 108 [xI a2] m1 (fun z2 m2 =>
          ((z2 = 0 →
            Q (-1) m2) ∧
            (¬ (z2 = 0) →
            jx_Cl 12 [xI a4, xI 1, xI 6] m2 (fun z3 m3 =>
              ((z3 = 0 →
                Q (-1) m3) ∧
                (¬ (z3 = 0) →
                jx_Cl 12 [xI a5, xI 1, xI 6] m3 (fun z4 m4 =>
                  ((z4 = 0 →
                    Q (-1) m4) ∧
                    (¬ (z4 = 0) →
                    ((jx_in (a5 - 1)) ∧
  jx_Cl 12 [xI a6, xI (-1), xI (a5 - 1)] m4 (fun z5 m5 =>
                      ((z5 = 0 →
                        Q (-1) m5) ∧
                        (¬ (z5 = 0) →
                        ((0 < 1) ∧
  ((0 ≤ a1 ∧ a1 < 4) ∧
  ((0 < 1) ∧
  ((jx_in (a4 * a5)) ∧
  ((a1.toNat < 4) ∧
  jx_Cl 109 [xA 23 a1.toNat, xI a2, xI a3, xI (a4 * a5)] m5 (fun z6 m6 =>
                          ((z6 = 0 →
                            ((a1.toNat < 4) ∧
  jx_Cl 111 [xA 23 a1.toNat, xI a3, xI a4, xI a5, xI 0] m6 (fun z7 m7 =>
                              ((z7 = 0 →
                                Q (-2) m7) ∧
                                (¬ (z7 = 0) →
                                jx_AW 106 53 [some (xA 0 0), some (xI a1), some (xI a2), some (xI a3), some (xI a4), some (xI a5), some (xI a6), some (xA 23 a1.toNat), some (xI z6), some (xI 0)] [] m7 Q))))) ∧
                            (¬ (z6 = 0) →
                            Q z6 m6))))))))))))))))))))))))) :
    jx_Cl 106 [xA 0 0, xI a1, xI a2, xI a3, xI a4, xI a5, xI a6] m Q :=
  jx_segOk (x := 106) (cd := jx_c106) rfl (stops := [53]) 48 hv
set_option maxRecDepth 100000 in
theorem sg_106_53 (b1 : Int) (b2 : Int) (b3 : Int) (b4 : Int) (b5 : Int) (b6 : Int) (t7 : Nat) (b8 : Int) (b9 : Int) (m : jx_M) (Q : Int → jx_M → Prop) (hv :
    ((b9 < b5 →
      ((0 < 1) ∧
  ((jx_in (b3 + b9)) ∧
  ((t7 < 4) ∧
  jx_Cl 112 [xA 23 t7, xI (b3 + b9), xI b4, xI b5] m (fun z1 m1 =>
        ((1 = 1 ∧ 0 ≤ b9 ∧ b9 < 25) ∧
  ((0 < 1) ∧
  ((jx_in (b9 + 1)) ∧
  jx_AW 106 53 [some (xA 0 0), some (xI b1), some (xI b2), some (xI b3), some (xI b4), some (xI b5), some (xI b6), some (xA 23 t7), some (xI b8), some (xI (b9 + 1))] [] (jx_up m1 25 0 (b9.toNat) z1) Q)))))))) ∧
      (¬ (b9 < b5) →
      ((b6 < 0 →
        ((0 < 1) ∧
  ((0 < 1) ∧
  jx_Cl 88 [xA 0 0, xA 25 0, xI b5] m (fun z2 m2 =>
          Q z2 m2)))) ∧
        (¬ (b6 < 0) →
        ((0 < 1) ∧
  ((1 = 1 ∧ 0 ≤ b6 ∧ b6 < 25) ∧
  ((0 < 1) ∧
  Q (m 25 0 (b6.toNat)) m)))))))) :
    jx_AW 106 53 [some (xA 0 0), some (xI b1), some (xI b2), some (xI b3), some (xI b4), some (xI b5), some (xI b6), some (xA 23 t7), some (xI b8), some (xI b9)] [] m Q :=
  jx_segOk (x := 106) (cd := jx_c106) rfl (stops := [53]) 17 hv
set_option maxRecDepth 100000 in
theorem sg_107 (a1 : Int) (m : jx_M) (Q : Int → jx_M → Prop) (hv :
    ((a1 < 0 →
      (((0 : Int) = 0 ∨ (0 : Int) = 1) ∧
  Q 0 m)) ∧
      (¬ (a1 < 0) →
      ((a1 < 4 →
        (((1 : Int) = 0 ∨ (1 : Int) = 1) ∧
  Q 1 m)) ∧
        (¬ (a1 < 4) →
        (((0 : Int) = 0 ∨ (0 : Int) = 1) ∧
  Q 0 m)))))) :
    jx_Cl 107 [xI a1] m Q :=
  jx_segOk (x := 107) (cd := jx_c107) rfl (stops := []) 9 hv
set_option maxRecDepth 100000 in
theorem sg_108 (a1 : Int) (m : jx_M) (Q : Int → jx_M → Prop) (hv :
    ((a1 < 0 →
      (((0 : Int) = 0 ∨ (0 : Int) = 1) ∧
  Q 0 m)) ∧
      (¬ (a1 < 0) →
      ((a1 < 3 →
        (((1 : Int) = 0 ∨ (1 : Int) = 1) ∧
  Q 1 m)) ∧
        (¬ (a1 < 3) →
        (((0 : Int) = 0 ∨ (0 : Int) = 1) ∧
  Q 0 m)))))) :
    jx_Cl 108 [xI a1] m Q :=
  jx_segOk (x := 108) (cd := jx_c108) rfl (stops := []) 9 hv
set_option maxRecDepth 100000 in
theorem sg_109 (t0 : Nat) (a1 : Int) (a2 : Int) (a3 : Int) (m : jx_M) (Q : Int → jx_M → Prop) (hv :
    ((t0 < 4) ∧
  (((m 23 t0 1) = 0 →
      Q (-11) m) ∧
      (¬ ((m 23 t0 1) = 0) →
      ((t0 < 4) ∧
  (((m 23 t0 2) = a1 →
        ((t0 < 4) ∧
  jx_Cl 110 [xA 23 t0, xI a2, xI a3] m (fun z1 m1 =>
          ((z1 = 0 →
            Q (-13) m1) ∧
            (¬ (z1 = 0) →
            Q 0 m1))))) ∧
        (¬ ((m 23 t0 2) = a1) →
        Q (-12) m))))))) :
    jx_Cl 109 [xA 23 t0, xI a1, xI a2, xI a3] m Q :=
  jx_segOk (x := 109) (cd := jx_c109) rfl (stops := []) 16 hv
set_option maxRecDepth 100000 in
theorem sg_110 (t0 : Nat) (a1 : Int) (a2 : Int) (m : jx_M) (Q : Int → jx_M → Prop) (hv :
    ((a1 < 0 →
      (((0 : Int) = 0 ∨ (0 : Int) = 1) ∧
  Q 0 m)) ∧
      (¬ (a1 < 0) →
      ((a2 < 0 →
        (((0 : Int) = 0 ∨ (0 : Int) = 1) ∧
  Q 0 m)) ∧
        (¬ (a2 < 0) →
        ((t0 < 4) ∧
  (((m 23 t0 3) < a1 →
          (((0 : Int) = 0 ∨ (0 : Int) = 1) ∧
  Q 0 m)) ∧
          (¬ ((m 23 t0 3) < a1) →
          ((t0 < 4) ∧
  ((jx_in ((m 23 t0 3) - a1)) ∧
  ((((m 23 t0 3) - a1) < a2 →
            (((0 : Int) = 0 ∨ (0 : Int) = 1) ∧
  Q 0 m)) ∧
            (¬ (((m 23 t0 3) - a1) < a2) →
            (((1 : Int) = 0 ∨ (1 : Int) = 1) ∧
  Q 1 m))))))))))))) :
    jx_Cl 110 [xA 23 t0, xI a1, xI a2] m Q :=
  jx_segOk (x := 110) (cd := jx_c110) rfl (stops := []) 18 hv
set_option maxRecDepth 100000 in
theorem sg_111 (t0 : Nat) (a1 : Int) (a2 : Int) (a3 : Int) (a4 : Int) (m : jx_M) (Q : Int → jx_M → Prop) (hv :
    jx_AW 111 2 [some (xA 23 t0), some (xI a1), some (xI a2), some (xI a3), some (xI a4), some (xI 0), none, none] [] m Q) :
    jx_Cl 111 [xA 23 t0, xI a1, xI a2, xI a3, xI a4] m Q :=
  jx_segOk (x := 111) (cd := jx_c111) rfl (stops := [2, 17]) 3 hv
set_option maxRecDepth 100000 in
theorem sg_111_2 (t0 : Nat) (b1 : Int) (b2 : Int) (b3 : Int) (b4 : Int) (b5 : Int) (w6 : Option jx_V) (w7 : Option jx_V) (m : jx_M) (Q : Int → jx_M → Prop) (hv :
    ((b5 < b2 →
      ((jx_in (b4 + b3)) ∧
  ((jx_in (b5 * (b4 + b3))) ∧
  ((jx_in (b1 + (b5 * (b4 + b3)))) ∧
  ((jx_in ((b1 + (b5 * (b4 + b3))) + b4)) ∧
  jx_AW 111 17 [some (xA 23 t0), some (xI b1), some (xI b2), some (xI b3), some (xI b4), some (xI b5), some (xI ((b1 + (b5 * (b4 + b3))) + b4)), some (xI 0)] [] m Q))))) ∧
      (¬ (b5 < b2) →
      (((1 : Int) = 0 ∨ (1 : Int) = 1) ∧
  Q 1 m)))) :
    jx_AW 111 2 [some (xA 23 t0), some (xI b1), some (xI b2), some (xI b3), some (xI b4), some (xI b5), w6, w7] [] m Q :=
  jx_segOk (x := 111) (cd := jx_c111) rfl (stops := [2, 17]) 16 hv
set_option maxRecDepth 100000 in
theorem sg_111_17 (t0 : Nat) (b1 : Int) (b2 : Int) (b3 : Int) (b4 : Int) (b5 : Int) (b6 : Int) (b7 : Int) (m : jx_M) (Q : Int → jx_M → Prop) (hv :
    ((b7 < b3 →
      ((t0 < 4) ∧
  ((jx_in (b6 + b7)) ∧
  ((1 = 1 ∧ 0 ≤ (b6 + b7) ∧ (b6 + b7) < 24) ∧
  ((t0 < 4) ∧
  jx_Cl 12 [xI (m 24 t0 ((b6 + b7).toNat)), xI 0, xI 9] m (fun z1 m1 =>
        ((z1 = 0 →
          (((0 : Int) = 0 ∨ (0 : Int) = 1) ∧
  Q 0 m1)) ∧
          (¬ (z1 = 0) →
          ((jx_in (b7 + 1)) ∧
  jx_AW 111 17 [some (xA 23 t0), some (xI b1), some (xI b2), some (xI b3), some (xI b4), some (xI b5), some (xI b6), some (xI (b7 + 1))] [] m1 Q))))))))) ∧
      (¬ (b7 < b3) →
      ((jx_in (b5 + 1)) ∧
  jx_AW 111 2 [some (xA 23 t0), some (xI b1), some (xI b2), some (xI b3), some (xI b4), some (xI (b5 + 1)), some (xI b6), some (xI b7)] [] m Q)))) :
    jx_AW 111 17 [some (xA 23 t0), some (xI b1), some (xI b2), some (xI b3), some (xI b4), some (xI b5), some (xI b6), some (xI b7)] [] m Q :=
  jx_segOk (x := 111) (cd := jx_c111) rfl (stops := [2, 17]) 16 hv
set_option maxRecDepth 100000 in
theorem sg_112 (t0 : Nat) (a1 : Int) (a2 : Int) (a3 : Int) (m : jx_M) (Q : Int → jx_M → Prop) (hv :
    jx_AW 112 6 [some (xA 23 t0), some (xI a1), some (xI a2), some (xI a3), some (xI 0), some (xI 0), some (xI 0), none, none] [] m Q) :
    jx_Cl 112 [xA 23 t0, xI a1, xI a2, xI a3] m Q :=
  jx_segOk (x := 112) (cd := jx_c112) rfl (stops := [6, 13]) 7 hv
set_option maxRecDepth 100000 in
theorem sg_112_6 (t0 : Nat) (b1 : Int) (b2 : Int) (b3 : Int) (b4 : Int) (b5 : Int) (b6 : Int) (w7 : Option jx_V) (w8 : Option jx_V) (m : jx_M) (Q : Int → jx_M → Prop) (hv :
    (((9 : Int) < b6 →
      Q b4 m) ∧
      (¬ ((9 : Int) < b6) →
      jx_AW 112 13 [some (xA 23 t0), some (xI b1), some (xI b2), some (xI b3), some (xI b4), some (xI b5), some (xI b6), some (xI 0), some (xI 0)] [] m Q))) :
    jx_AW 112 6 [some (xA 23 t0), some (xI b1), some (xI b2), some (xI b3), some (xI b4), some (xI b5), some (xI b6), w7, w8] [] m Q :=
  jx_segOk (x := 112) (cd := jx_c112) rfl (stops := [6, 13]) 8 hv
set_option maxRecDepth 100000 in
theorem sg_112_13 (t0 : Nat) (b1 : Int) (b2 : Int) (b3 : Int) (b4 : Int) (b5 : Int) (b6 : Int) (b7 : Int) (b8 : Int) (m : jx_M) (Q : Int → jx_M → Prop) (hv :
    ((b8 < b2 →
      ((t0 < 4) ∧
  ((jx_in (b8 * b3)) ∧
  ((jx_in (b1 + (b8 * b3))) ∧
  ((1 = 1 ∧ 0 ≤ (b1 + (b8 * b3)) ∧ (b1 + (b8 * b3)) < 24) ∧
  ((t0 < 4) ∧
  (((m 24 t0 ((b1 + (b8 * b3)).toNat)) = b6 →
        ((jx_in (b7 + 1)) ∧
  ((jx_in (b8 + 1)) ∧
  jx_AW 112 13 [some (xA 23 t0), some (xI b1), some (xI b2), some (xI b3), some (xI b4), some (xI b5), some (xI b6), some (xI (b7 + 1)), some (xI (b8 + 1))] [] m Q))) ∧
        (¬ ((m 24 t0 ((b1 + (b8 * b3)).toNat)) = b6) →
        ((jx_in (b8 + 1)) ∧
  jx_AW 112 13 [some (xA 23 t0), some (xI b1), some (xI b2), some (xI b3), some (xI b4), some (xI b5), some (xI b6), some (xI b7), some (xI (b8 + 1))] [] m Q))))))))) ∧
      (¬ (b8 < b2) →
      ((b5 < b7 →
        ((jx_in (b6 + 1)) ∧
  jx_AW 112 6 [some (xA 23 t0), some (xI b1), some (xI b2), some (xI b3), some (xI b6), some (xI b7), some (xI (b6 + 1)), some (xI b7), some (xI b8)] [] m Q)) ∧
        (¬ (b5 < b7) →
        ((jx_in (b6 + 1)) ∧
  jx_AW 112 6 [some (xA 23 t0), some (xI b1), some (xI b2), some (xI b3), some (xI b4), some (xI b5), some (xI (b6 + 1)), some (xI b7), some (xI b8)] [] m Q)))))) :
    jx_AW 112 13 [some (xA 23 t0), some (xI b1), some (xI b2), some (xI b3), some (xI b4), some (xI b5), some (xI b6), some (xI b7), some (xI b8)] [] m Q :=
  jx_segOk (x := 112) (cd := jx_c112) rfl (stops := [6, 13]) 17 hv
set_option maxRecDepth 100000 in
theorem sg_113 (a1 : Int) (a2 : Int) (a3 : Int) (a4 : Int) (a5 : Int) (a6 : Int) (m : jx_M) (Q : Int → jx_M → Prop) (hv :
    jx_Cl 107 [xI a1] m (fun z1 m1 =>
      ((z1 = 0 →
        Q (-1) m1) ∧
        (¬ (z1 = 0) →
        jx_Cl 108 [xI a2] m1 (fun z2 m2 =>
          ((z2 = 0 →
            Q (-1) m2) ∧
            (¬ (z2 = 0) →
            jx_Cl 12 [xI a4, xI 1, xI 5] m2 (fun z3 m3 =>
              ((z3 = 0 →
                Q (-1) m3) ∧
                (¬ (z3 = 0) →
                jx_Cl 12 [xI a5, xI 1, xI 6] m3 (fun z4 m4 =>
                  ((z4 = 0 →
                    Q (-1) m4) ∧
                    (¬ (z4 = 0) →
                    ((jx_in (a4 - 1)) ∧
  jx_Cl 12 [xI a6, xI 0, xI (a4 - 1)] m4 (fun z5 m5 =>
                      ((z5 = 0 →
                        Q (-1) m5) ∧
                        (¬ (z5 = 0) →
                        ((0 < 1) ∧
  ((0 ≤ a1 ∧ a1 < 4) ∧
  ((0 < 1) ∧
  ((jx_in (a5 + 1)) ∧
  ((jx_in (a4 * (a5 + 1))) ∧
  ((a1.toNat < 4) ∧
  jx_Cl 109 [xA 23 a1.toNat, xI a2, xI a3, xI (a4 * (a5 + 1))] m5 (fun z6 m6 =>
                          ((z6 = 0 →
                            ((a1.toNat < 4) ∧
  jx_Cl 111 [xA 23 a1.toNat, xI a3, xI a4, xI a5, xI 1] m6 (fun z7 m7 =>
                              ((z7 = 0 →
                                Q (-2) m7) ∧
                                (¬ (z7 = 0) →
                                ((a1.toNat < 4) ∧
  jx_Cl 114 [xA 23 a1.toNat, xI a3, xI a4, xI a5, xI a6] m7 (fun z8 m8 =>
                                  Q z8 m8))))))) ∧
                            (¬ (z6 = 0) →
                            Q z6 m6)))))))))))))))))))))))))) :
    jx_Cl 113 [xA 0 0, xI a1, xI a2, xI a3, xI a4, xI a5, xI a6] m Q :=
  jx_segOk (x := 113) (cd := jx_c113) rfl (stops := []) 55 hv
set_option maxRecDepth 100000 in
theorem sg_114 (t0 : Nat) (a1 : Int) (a2 : Int) (a3 : Int) (a4 : Int) (m : jx_M) (Q : Int → jx_M → Prop) (hv :
    ((jx_in (a3 + 1)) ∧
  ((jx_in (a4 * (a3 + 1))) ∧
  ((jx_in (a1 + (a4 * (a3 + 1)))) ∧
  jx_AW 114 14 [some (xA 23 t0), some (xI a1), some (xI a2), some (xI a3), some (xI a4), some (xI (a1 + (a4 * (a3 + 1)))), some (xI (-4)), some (xI 0), some (xI 0), none, none] [] m Q)))) :
    jx_Cl 114 [xA 23 t0, xI a1, xI a2, xI a3, xI a4] m Q :=
  jx_segOk (x := 114) (cd := jx_c114) rfl (stops := [14]) 15 hv
set_option maxRecDepth 100000 in
theorem sg_114_14 (t0 : Nat) (b1 : Int) (b2 : Int) (b3 : Int) (b4 : Int) (b5 : Int) (b6 : Int) (b7 : Int) (b8 : Int) (w9 : Option jx_V) (w10 : Option jx_V) (m : jx_M) (Q : Int → jx_M → Prop) (hv :
    ((b8 < b2 →
      ((jx_in (b3 + 1)) ∧
  ((jx_in (b8 * (b3 + 1))) ∧
  ((jx_in (b1 + (b8 * (b3 + 1)))) ∧
  ((t0 < 4) ∧
  ((1 = 1 ∧ 0 ≤ (b1 + (b8 * (b3 + 1))) ∧ (b1 + (b8 * (b3 + 1))) < 24) ∧
  ((t0 < 4) ∧
  ((t0 < 4) ∧
  ((1 = 1 ∧ 0 ≤ b5 ∧ b5 < 24) ∧
  ((t0 < 4) ∧
  (((m 24 t0 ((b1 + (b8 * (b3 + 1))).toNat)) < (m 24 t0 (b5.toNat)) →
        ((jx_in (b5 + 1)) ∧
  ((jx_in ((b1 + (b8 * (b3 + 1))) + 1)) ∧
  ((t0 < 4) ∧
  jx_Cl 115 [xA 23 t0, xI (b5 + 1), xI ((b1 + (b8 * (b3 + 1))) + 1), xI b3] m (fun z1 m1 =>
          ((b6 < 0 →
            ((jx_in (b8 + 1)) ∧
  jx_AW 114 14 [some (xA 23 t0), some (xI b1), some (xI b2), some (xI b3), some (xI b4), some (xI b5), some (xI b8), some (xI z1), some (xI (b8 + 1)), some (xI (b1 + (b8 * (b3 + 1)))), some (xI z1)] [] m1 Q)) ∧
            (¬ (b6 < 0) →
            ((z1 < b7 →
              ((jx_in (b8 + 1)) ∧
  jx_AW 114 14 [some (xA 23 t0), some (xI b1), some (xI b2), some (xI b3), some (xI b4), some (xI b5), some (xI b8), some (xI z1), some (xI (b8 + 1)), some (xI (b1 + (b8 * (b3 + 1)))), some (xI z1)] [] m1 Q)) ∧
              (¬ (z1 < b7) →
              ((jx_in (b8 + 1)) ∧
  jx_AW 114 14 [some (xA 23 t0), some (xI b1), some (xI b2), some (xI b3), some (xI b4), some (xI b5), some (xI b6), some (xI b7), some (xI (b8 + 1)), some (xI (b1 + (b8 * (b3 + 1)))), some (xI z1)] [] m1 Q)))))))))) ∧
        (¬ ((m 24 t0 ((b1 + (b8 * (b3 + 1))).toNat)) < (m 24 t0 (b5.toNat))) →
        ((jx_in (b8 + 1)) ∧
  jx_AW 114 14 [some (xA 23 t0), some (xI b1), some (xI b2), some (xI b3), some (xI b4), some (xI b5), some (xI b6), some (xI b7), some (xI (b8 + 1)), some (xI (b1 + (b8 * (b3 + 1)))), w10] [] m Q))))))))))))) ∧
      (¬ (b8 < b2) →
      Q b6 m))) :
    jx_AW 114 14 [some (xA 23 t0), some (xI b1), some (xI b2), some (xI b3), some (xI b4), some (xI b5), some (xI b6), some (xI b7), some (xI b8), w9, w10] [] m Q :=
  jx_segOk (x := 114) (cd := jx_c114) rfl (stops := [14]) 42 hv
set_option maxRecDepth 100000 in
theorem sg_115 (t0 : Nat) (a1 : Int) (a2 : Int) (a3 : Int) (m : jx_M) (Q : Int → jx_M → Prop) (hv :
    jx_AW 115 4 [some (xA 23 t0), some (xI a1), some (xI a2), some (xI a3), some (xI 0), some (xI 0)] [] m Q) :
    jx_Cl 115 [xA 23 t0, xI a1, xI a2, xI a3] m Q :=
  jx_segOk (x := 115) (cd := jx_c115) rfl (stops := [4]) 5 hv
set_option maxRecDepth 100000 in
theorem sg_115_4 (t0 : Nat) (b1 : Int) (b2 : Int) (b3 : Int) (b4 : Int) (b5 : Int) (m : jx_M) (Q : Int → jx_M → Prop) (hv :
    ((b5 < b3 →
      ((t0 < 4) ∧
  ((jx_in (b1 + b5)) ∧
  ((1 = 1 ∧ 0 ≤ (b1 + b5) ∧ (b1 + b5) < 24) ∧
  ((t0 < 4) ∧
  ((t0 < 4) ∧
  ((jx_in (b2 + b5)) ∧
  ((1 = 1 ∧ 0 ≤ (b2 + b5) ∧ (b2 + b5) < 24) ∧
  ((t0 < 4) ∧
  ((jx_in ((m 24 t0 ((b1 + b5).toNat)) - (m 24 t0 ((b2 + b5).toNat)))) ∧
  ((jx_in (-((m 24 t0 ((b1 + b5).toNat)) - (m 24 t0 ((b2 + b5).toNat))))) ∧
  ((jx_in (b4 + (((m 24 t0 ((b1 + b5).toNat)) - (m 24 t0 ((b2 + b5).toNat))).natAbs : Int))) ∧
  ((jx_in (b5 + 1)) ∧
  jx_AW 115 4 [some (xA 23 t0), some (xI b1), some (xI b2), some (xI b3), some (xI (b4 + (((m 24 t0 ((b1 + b5).toNat)) - (m 24 t0 ((b2 + b5).toNat))).natAbs : Int))), some (xI (b5 + 1))] [] m Q))))))))))))) ∧
      (¬ (b5 < b3) →
      Q b4 m))) :
    jx_AW 115 4 [some (xA 23 t0), some (xI b1), some (xI b2), some (xI b3), some (xI b4), some (xI b5)] [] m Q :=
  jx_segOk (x := 115) (cd := jx_c115) rfl (stops := [4]) 23 hv
set_option maxRecDepth 100000 in
theorem sg_116 (a1 : Int) (a2 : Int) (a3 : Int) (m : jx_M) (Q : Int → jx_M → Prop) (hv :
    jx_Cl 107 [xI a1] m (fun z1 m1 =>
      ((z1 = 0 →
        Q (-1) m1) ∧
        (¬ (z1 = 0) →
        jx_Cl 108 [xI a2] m1 (fun z2 m2 =>
          ((z2 = 0 →
            Q (-1) m2) ∧
            (¬ (z2 = 0) →
            (((24 : Int) < a3 →
              Q (-1) m2) ∧
              (¬ ((24 : Int) < a3) →
              ((a3 < 0 →
                Q (-14) m2) ∧
                (¬ (a3 < 0) →
                ((0 < 1) ∧
  ((0 ≤ a1 ∧ a1 < 4) ∧
  ((0 < 1) ∧
  ((a1.toNat < 4) ∧
  jx_Cl 117 [xA 23 a1.toNat, xI a2, xI a3] m2 (fun _ m3 =>
                  Q a3 m3)))))))))))))))) :
    jx_Cl 116 [xA 0 0, xI a1, xI a2, xI a3] m Q :=
  jx_segOk (x := 116) (cd := jx_c116) rfl (stops := []) 21 hv
set_option maxRecDepth 100000 in
theorem sg_117 (t0 : Nat) (a1 : Int) (a2 : Int) (m : jx_M) (Q : Int → jx_M → Prop) (hv :
    ((t0 < 4) ∧
  jx_Cl 2 [xA 24 t0, xI 0] m (fun _ m1 =>
      ((t0 < 4) ∧
  (((1 : Int) = 0 ∨ (1 : Int) = 1) ∧
  ((t0 < 4) ∧
  ((t0 < 4) ∧
  Q 0 (jx_up (jx_up (jx_up m1 23 t0 1 1) 23 t0 2 a1) 23 t0 3 a2)))))))) :
    jx_Cl 117 [xA 23 t0, xI a1, xI a2] m Q :=
  jx_segOk (x := 117) (cd := jx_c117) rfl (stops := []) 15 hv
set_option maxRecDepth 100000 in
theorem sg_118 (a1 : Int) (m : jx_M) (Q : Int → jx_M → Prop) (hv :
    jx_Cl 107 [xI a1] m (fun z1 m1 =>
      ((z1 = 0 →
        Q (-1) m1) ∧
        (¬ (z1 = 0) →
        ((0 < 1) ∧
  ((0 ≤ a1 ∧ a1 < 4) ∧
  ((0 < 1) ∧
  ((a1.toNat < 4) ∧
  (((m1 23 a1.toNat 1) = 0 →
          Q (-11) m1) ∧
          (¬ ((m1 23 a1.toNat 1) = 0) →
          ((a1.toNat < 4) ∧
  (((0 : Int) = 0 ∨ (0 : Int) = 1) ∧
  ((a1.toNat < 4) ∧
  Q ((jx_up m1 23 a1.toNat 1 0) 23 a1.toNat 3) (jx_up m1 23 a1.toNat 1 0)))))))))))))) :
    jx_Cl 118 [xA 0 0, xI a1] m Q :=
  jx_segOk (x := 118) (cd := jx_c118) rfl (stops := []) 18 hv
set_option maxRecDepth 100000 in
theorem sg_119 (a1 : Int) (a2 : Int) (a3 : Int) (a4 : Int) (m : jx_M) (Q : Int → jx_M → Prop) (hv :
    jx_Cl 107 [xI a1] m (fun z1 m1 =>
      ((z1 = 0 →
        Q (-1) m1) ∧
        (¬ (z1 = 0) →
        jx_Cl 108 [xI a2] m1 (fun z2 m2 =>
          ((z2 = 0 →
            Q (-1) m2) ∧
            (¬ (z2 = 0) →
            ((0 < 1) ∧
  ((0 ≤ a1 ∧ a1 < 4) ∧
  ((0 < 1) ∧
  ((a1.toNat < 4) ∧
  jx_Cl 109 [xA 23 a1.toNat, xI a2, xI a3, xI 1] m2 (fun z3 m3 =>
              ((z3 = 0 →
                ((a1.toNat < 4) ∧
  jx_Cl 120 [xA 23 a1.toNat, xI a3, xI a4] m3 (fun _ m4 =>
                  Q 1 m4))) ∧
                (¬ (z3 = 0) →
                Q z3 m3)))))))))))))) :
    jx_Cl 119 [xA 0 0, xI a1, xI a2, xI a3, xI a4] m Q :=
  jx_segOk (x := 119) (cd := jx_c119) rfl (stops := []) 26 hv
set_option maxRecDepth 100000 in
theorem sg_120 (t0 : Nat) (a1 : Int) (a2 : Int) (m : jx_M) (Q : Int → jx_M → Prop) (hv :
    ((t0 < 4) ∧
  (((m 23 t0 2) = 0 →
      ((t0 < 4) ∧
  ((1 = 1 ∧ 0 ≤ a1 ∧ a1 < 24) ∧
  ((t0 < 4) ∧
  Q 0 (jx_up m 24 t0 (a1.toNat) (jx_i2b a2)))))) ∧
      (¬ ((m 23 t0 2) = 0) →
      ((t0 < 4) ∧
  (((m 23 t0 2) = 1 →
        ((t0 < 4) ∧
  ((1 = 1 ∧ 0 ≤ a1 ∧ a1 < 24) ∧
  ((t0 < 4) ∧
  Q 0 (jx_up m 24 t0 (a1.toNat) (jx_i2s a2)))))) ∧
        (¬ ((m 23 t0 2) = 1) →
        ((t0 < 4) ∧
  ((1 = 1 ∧ 0 ≤ a1 ∧ a1 < 24) ∧
  ((t0 < 4) ∧
  Q 0 (jx_up m 24 t0 (a1.toNat) a2))))))))))) :
    jx_Cl 120 [xA 23 t0, xI a1, xI a2] m Q :=
  jx_segOk (x := 120) (cd := jx_c120) rfl (stops := []) 16 hv
set_option maxRecDepth 100000 in
theorem sg_121 (a1 : Int) (a2 : Int) (a3 : Int) (a4 : Int) (a5 : Int) (m : jx_M) (Q : Int → jx_M → Prop) (hv :
    jx_Cl 107 [xI a1] m (fun z1 m1 =>
      ((z1 = 0 →
        Q (-1) m1) ∧
        (¬ (z1 = 0) →
        jx_Cl 107 [xI a3] m1 (fun z2 m2 =>
          ((z2 = 0 →
            Q (-1) m2) ∧
            (¬ (z2 = 0) →
            ((0 < 1) ∧
  ((0 ≤ a1 ∧ a1 < 4) ∧
  ((0 < 1) ∧
  ((0 < 1) ∧
  ((0 ≤ a3 ∧ a3 < 4) ∧
  ((0 < 1) ∧
  ((a1.toNat < 4) ∧
  (((m2 23 a1.toNat 1) = 0 →
              Q (-11) m2) ∧
              (¬ ((m2 23 a1.toNat 1) = 0) →
              ((a3.toNat < 4) ∧
  (((m2 23 a3.toNat 1) = 0 →
                Q (-11) m2) ∧
                (¬ ((m2 23 a3.toNat 1) = 0) →
                ((a1.toNat < 4) ∧
  ((a3.toNat < 4) ∧
  (((m2 23 a1.toNat 2) = (m2 23 a3.toNat 2) →
                  ((a1.toNat < 4) ∧
  jx_Cl 110 [xA 23 a1.toNat, xI a2, xI a5] m2 (fun z3 m3 =>
                    ((z3 = 0 →
                      Q (-13) m3) ∧
                      (¬ (z3 = 0) →
                      ((a3.toNat < 4) ∧
  jx_Cl 110 [xA 23 a3.toNat, xI a4, xI a5] m3 (fun z4 m4 =>
                        ((z4 = 0 →
                          Q (-13) m4) ∧
                          (¬ (z4 = 0) →
                          ((a1.toNat < 4) ∧
  ((a3.toNat < 4) ∧
  (((1 = 1 ∧ 1 = 1) ∧ (0 ≤ a2 ∧ 0 ≤ a4 ∧ 0 ≤ a5) ∧ a2 + a5 ≤ 24 ∧ a4 + a5 ≤ 24) ∧
  ((a1.toNat < 4) ∧
  ((a3.toNat < 4) ∧
  Q a5 (jx_cpy m4 24 a1.toNat (a2.toNat) 24 a3.toNat (a4.toNat) (a5.toNat)))))))))))))))) ∧
                  (¬ ((m2 23 a1.toNat 2) = (m2 23 a3.toNat 2)) →
                  Q (-12) m2))))))))))))))))))))))) :
    jx_Cl 121 [xA 0 0, xI a1, xI a2, xI a3, xI a4, xI a5] m Q :=
  jx_segOk (x := 121) (cd := jx_c121) rfl (stops := []) 48 hv
