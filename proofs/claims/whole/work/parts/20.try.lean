set_option maxRecDepth 100000 in
theorem sg_10 (a1 : Int) (a2 : Int) (m : jx_M) (Q : Int → jx_M → Prop) (hv :
    jx_Cl 11 [xI a1] m (fun z1 m1 =>
      ((z1 = 0 →
        Q (-1) m1) ∧
        (¬ (z1 = 0) →
        jx_Cl 12 [xI a2, xI 0, xI 9] m1 (fun z2 m2 =>
          ((z2 = 0 →
            Q (-1) m2) ∧
            (¬ (z2 = 0) →
            ((0 < 1) ∧
  ((0 < 3) ∧
  ((1 = 1 ∧ 0 ≤ a1 ∧ a1 < 25) ∧
  ((0 < 3) ∧
  ((0 < 1) ∧
  ((0 < 3) ∧
  ((1 = 1 ∧ 0 ≤ a1 ∧ a1 < 25) ∧
  ((0 < 3) ∧
  Q (m2 2 0 (a1.toNat)) (jx_up m2 2 0 (a1.toNat) a2)))))))))))))))) :
    jx_Cl 10 [xA 0 0, xI a1, xI a2] m Q :=
  jx_segOk (x := 10) (cd := jx_c10) rfl (stops := []) 23 hv
set_option maxRecDepth 100000 in
theorem sg_11 (a1 : Int) (m : jx_M) (Q : Int → jx_M → Prop) (hv :
    ((a1 < 0 →
      (((0 : Int) = 0 ∨ (0 : Int) = 1) ∧
  Q 0 m)) ∧
      (¬ (a1 < 0) →
      ((a1 < 25 →
        (((1 : Int) = 0 ∨ (1 : Int) = 1) ∧
  Q 1 m)) ∧
        (¬ (a1 < 25) →
        (((0 : Int) = 0 ∨ (0 : Int) = 1) ∧
  Q 0 m)))))) :
    jx_Cl 11 [xI a1] m Q :=
  jx_segOk (x := 11) (cd := jx_c11) rfl (stops := []) 9 hv
set_option maxRecDepth 100000 in
theorem sg_12 (a1 : Int) (a2 : Int) (a3 : Int) (m : jx_M) (Q : Int → jx_M → Prop) (hv :
    ((a1 < a2 →
      (((0 : Int) = 0 ∨ (0 : Int) = 1) ∧
  Q 0 m)) ∧
      (¬ (a1 < a2) →
      ((a3 < a1 →
        (((0 : Int) = 0 ∨ (0 : Int) = 1) ∧
  Q 0 m)) ∧
        (¬ (a3 < a1) →
        (((1 : Int) = 0 ∨ (1 : Int) = 1) ∧
  Q 1 m)))))) :
    jx_Cl 12 [xI a1, xI a2, xI a3] m Q :=
  jx_segOk (x := 12) (cd := jx_c12) rfl (stops := []) 10 hv
set_option maxRecDepth 100000 in
theorem sg_13 (a1 : Int) (a2 : Int) (a3 : Int) (m : jx_M) (Q : Int → jx_M → Prop) (hv :
    jx_Cl 14 [xI a1] m (fun z1 m1 =>
      ((z1 = 0 →
        Q (-1) m1) ∧
        (¬ (z1 = 0) →
        jx_Cl 15 [xI a2] m1 (fun z2 m2 =>
          ((z2 = 0 →
            Q (-1) m2) ∧
            (¬ (z2 = 0) →
            jx_Cl 12 [xI a3, xI 1, xI 5] m2 (fun z3 m3 =>
              ((z3 = 0 →
                Q (-1) m3) ∧
                (¬ (z3 = 0) →
                ((0 < 1) ∧
  ((0 < 3) ∧
  (((m3 1 0 4) < 6 →
                  ((0 < 1) ∧
  ((0 < 3) ∧
  ((0 < 1) ∧
  ((0 < 3) ∧
  ((0 ≤ (m3 1 0 4) ∧ (m3 1 0 4) < 6) ∧
  ((0 < 3) ∧
  (((6 * 0 + (m3 1 0 4).toNat) < 18) ∧
  jx_Cl 16 [xA 6 (6 * 0 + (m3 1 0 4).toNat), xI a1, xI a2, xI a3] m3 (fun _ m4 =>
                    ((0 < 1) ∧
  ((jx_in ((m3 1 0 4) + 1)) ∧
  ((0 < 3) ∧
  Q (m3 1 0 4) (jx_up m4 1 0 4 ((m3 1 0 4) + 1)))))))))))))) ∧
                  (¬ ((m3 1 0 4) < 6) →
                  Q (-3) m3)))))))))))))) :
    jx_Cl 13 [xA 0 0, xI a1, xI a2, xI a3] m Q :=
  jx_segOk (x := 13) (cd := jx_c13) rfl (stops := []) 38 hv
set_option maxRecDepth 100000 in
theorem sg_14 (a1 : Int) (m : jx_M) (Q : Int → jx_M → Prop) (hv :
    ((a1 < 0 →
      (((0 : Int) = 0 ∨ (0 : Int) = 1) ∧
  Q 0 m)) ∧
      (¬ (a1 < 0) →
      ((a1 < 4 →
        (((1 : Int) = 0 ∨ (1 : Int) = 1) ∧
  Q 1 m)) ∧
        (¬ (a1 < 4) →
        (((0 : Int) = 0 ∨ (0 : Int) = 1) ∧
  Q 0 m)))))) :
    jx_Cl 14 [xI a1] m Q :=
  jx_segOk (x := 14) (cd := jx_c14) rfl (stops := []) 9 hv
set_option maxRecDepth 100000 in
theorem sg_15 (a1 : Int) (m : jx_M) (Q : Int → jx_M → Prop) (hv :
    ((a1 < 1 →
      (((0 : Int) = 0 ∨ (0 : Int) = 1) ∧
  Q 0 m)) ∧
      (¬ (a1 < 1) →
      (((9 : Int) < a1 →
        (((0 : Int) = 0 ∨ (0 : Int) = 1) ∧
  Q 0 m)) ∧
        (¬ ((9 : Int) < a1) →
        (((1 : Int) = 0 ∨ (1 : Int) = 1) ∧
  Q 1 m)))))) :
    jx_Cl 15 [xI a1] m Q :=
  jx_segOk (x := 15) (cd := jx_c15) rfl (stops := []) 10 hv
set_option maxRecDepth 100000 in
theorem sg_16 (t0 : Nat) (a1 : Int) (a2 : Int) (a3 : Int) (m : jx_M) (Q : Int → jx_M → Prop) (hv :
    ((t0 < 18) ∧
  ((t0 < 18) ∧
  ((t0 < 18) ∧
  ((t0 < 18) ∧
  ((t0 < 18) ∧
  ((1 = 1 ∧ 0 ≤ (0 : Int) ∧ (0 : Int) < 12) ∧
  ((t0 < 18) ∧
  ((t0 < 18) ∧
  ((t0 < 18) ∧
  ((1 = 1 ∧ 0 ≤ (0 : Int) ∧ (0 : Int) < 6) ∧
  ((t0 < 18) ∧
  ((t0 < 18) ∧
  ((t0 < 18) ∧
  ((t0 < 18) ∧
  jx_Cl 17 [xA 8 t0, xI ((jx_up (jx_up (jx_up (jx_up (jx_up (jx_up (jx_up (jx_up m 6 t0 4 a1) 6 t0 5 a2) 6 t0 7 a3) 6 t0 6 0) 7 t0 ((0 : Int).toNat) 0) 6 t0 2 1) 8 t0 ((0 : Int).toNat) 5) 6 t0 3 1) 6 t0 3)] (jx_up (jx_up (jx_up (jx_up (jx_up (jx_up (jx_up (jx_up m 6 t0 4 a1) 6 t0 5 a2) 6 t0 7 a3) 6 t0 6 0) 7 t0 ((0 : Int).toNat) 0) 6 t0 2 1) 8 t0 ((0 : Int).toNat) 5) 6 t0 3 1) (fun z1 m1 =>
      ((t0 < 18) ∧
  Q 0 (jx_up m1 6 t0 8 z1)))))))))))))))))) :
    jx_Cl 16 [xA 6 t0, xI a1, xI a2, xI a3] m Q :=
  jx_segOk (x := 16) (cd := jx_c16) rfl (stops := []) 37 hv
set_option maxRecDepth 100000 in
theorem sg_18 (a1 : Int) (a2 : Int) (a3 : Int) (m : jx_M) (Q : Int → jx_M → Prop) (hv :
    ((0 < 1) ∧
  ((0 < 3) ∧
  jx_Cl 19 [xA 1 0, xI a1] m (fun z1 m1 =>
      ((z1 = 0 →
        Q (-1) m1) ∧
        (¬ (z1 = 0) →
        ((0 < 1) ∧
  ((0 < 3) ∧
  ((0 ≤ a1 ∧ a1 < 6) ∧
  ((0 < 3) ∧
  (((6 * 0 + a1.toNat) < 18) ∧
  jx_Cl 20 [xA 6 (6 * 0 + a1.toNat), xI a2, xI a3] m1 (fun z2 m2 =>
          Q z2 m2)))))))))))) :
    jx_Cl 18 [xA 0 0, xI a1, xI a2, xI a3] m Q :=
  jx_segOk (x := 18) (cd := jx_c18) rfl (stops := []) 16 hv
set_option maxRecDepth 100000 in
theorem sg_19 (t0 : Nat) (a1 : Int) (m : jx_M) (Q : Int → jx_M → Prop) (hv :
    ((a1 < 0 →
      (((0 : Int) = 0 ∨ (0 : Int) = 1) ∧
  Q 0 m)) ∧
      (¬ (a1 < 0) →
      ((t0 < 3) ∧
  ((a1 < (m 1 t0 4) →
        (((1 : Int) = 0 ∨ (1 : Int) = 1) ∧
  Q 1 m)) ∧
        (¬ (a1 < (m 1 t0 4)) →
        (((0 : Int) = 0 ∨ (0 : Int) = 1) ∧
  Q 0 m))))))) :
    jx_Cl 19 [xA 1 t0, xI a1] m Q :=
  jx_segOk (x := 19) (cd := jx_c19) rfl (stops := []) 10 hv
set_option maxRecDepth 100000 in
theorem sg_20 (t0 : Nat) (a1 : Int) (a2 : Int) (m : jx_M) (Q : Int → jx_M → Prop) (hv :
    ((a1 = 0 →
      jx_Cl 14 [xI a2] m (fun z1 m1 =>
        ((z1 = 0 →
          ((a1 = 1 →
            jx_Cl 15 [xI a2] m1 (fun z2 m2 =>
              ((z2 = 0 →
                ((a1 = 2 →
                  jx_Cl 21 [xI a2] m2 (fun z3 m3 =>
                    ((z3 = 0 →
                      ((a1 = 3 →
                        jx_Cl 12 [xI a2, xI 1, xI 5] m3 (fun z4 m4 =>
                          ((z4 = 0 →
                            Q (-1) m4) ∧
                            (¬ (z4 = 0) →
                            ((t0 < 18) ∧
  ((t0 < 18) ∧
  Q (m4 6 t0 7) (jx_up m4 6 t0 7 a2))))))) ∧
                        (¬ (a1 = 3) →
                        Q (-1) m3))) ∧
                      (¬ (z3 = 0) →
                      ((t0 < 18) ∧
  ((t0 < 18) ∧
  Q (m3 6 t0 6) (jx_up m3 6 t0 6 a2))))))) ∧
                  (¬ (a1 = 2) →
                  ((a1 = 3 →
                    jx_Cl 12 [xI a2, xI 1, xI 5] m2 (fun z5 m5 =>
                      ((z5 = 0 →
                        Q (-1) m5) ∧
                        (¬ (z5 = 0) →
                        ((t0 < 18) ∧
  ((t0 < 18) ∧
  Q (m5 6 t0 7) (jx_up m5 6 t0 7 a2))))))) ∧
                    (¬ (a1 = 3) →
                    Q (-1) m2))))) ∧
                (¬ (z2 = 0) →
                ((t0 < 18) ∧
  ((t0 < 18) ∧
  Q (m2 6 t0 5) (jx_up m2 6 t0 5 a2))))))) ∧
            (¬ (a1 = 1) →
            ((a1 = 2 →
              jx_Cl 21 [xI a2] m1 (fun z6 m6 =>
                ((z6 = 0 →
                  ((a1 = 3 →
                    jx_Cl 12 [xI a2, xI 1, xI 5] m6 (fun z7 m7 =>
                      ((z7 = 0 →
                        Q (-1) m7) ∧
                        (¬ (z7 = 0) →
                        ((t0 < 18) ∧
  ((t0 < 18) ∧
  Q (m7 6 t0 7) (jx_up m7 6 t0 7 a2))))))) ∧
                    (¬ (a1 = 3) →
                    Q (-1) m6))) ∧
                  (¬ (z6 = 0) →
                  ((t0 < 18) ∧
  ((t0 < 18) ∧
  Q (m6 6 t0 6) (jx_up m6 6 t0 6 a2))))))) ∧
              (¬ (a1 = 2) →
              ((a1 = 3 →
                jx_Cl 12 [xI a2, xI 1, xI 5] m1 (fun z8 m8 =>
                  ((z8 = 0 →
                    Q (-1) m8) ∧
                    (¬ (z8 = 0) →
                    ((t0 < 18) ∧
  ((t0 < 18) ∧
  Q (m8 6 t0 7) (jx_up m8 6 t0 7 a2))))))) ∧
                (¬ (a1 = 3) →
                Q (-1) m1))))))) ∧
          (¬ (z1 = 0) →
          ((t0 < 18) ∧
  ((t0 < 18) ∧
  Q (m1 6 t0 4) (jx_up m1 6 t0 4 a2))))))) ∧
      (¬ (a1 = 0) →
      ((a1 = 1 →
        jx_Cl 15 [xI a2] m (fun z9 m9 =>
          ((z9 = 0 →
            ((a1 = 2 →
              jx_Cl 21 [xI a2] m9 (fun z10 m10 =>
                ((z10 = 0 →
                  ((a1 = 3 →
                    jx_Cl 12 [xI a2, xI 1, xI 5] m10 (fun z11 m11 =>
                      ((z11 = 0 →
                        Q (-1) m11) ∧
                        (¬ (z11 = 0) →
                        ((t0 < 18) ∧
  ((t0 < 18) ∧
  Q (m11 6 t0 7) (jx_up m11 6 t0 7 a2))))))) ∧
                    (¬ (a1 = 3) →
                    Q (-1) m10))) ∧
                  (¬ (z10 = 0) →
                  ((t0 < 18) ∧
  ((t0 < 18) ∧
  Q (m10 6 t0 6) (jx_up m10 6 t0 6 a2))))))) ∧
              (¬ (a1 = 2) →
              ((a1 = 3 →
                jx_Cl 12 [xI a2, xI 1, xI 5] m9 (fun z12 m12 =>
                  ((z12 = 0 →
                    Q (-1) m12) ∧
                    (¬ (z12 = 0) →
                    ((t0 < 18) ∧
  ((t0 < 18) ∧
  Q (m12 6 t0 7) (jx_up m12 6 t0 7 a2))))))) ∧
                (¬ (a1 = 3) →
                Q (-1) m9))))) ∧
            (¬ (z9 = 0) →
            ((t0 < 18) ∧
  ((t0 < 18) ∧
  Q (m9 6 t0 5) (jx_up m9 6 t0 5 a2))))))) ∧
        (¬ (a1 = 1) →
        ((a1 = 2 →
          jx_Cl 21 [xI a2] m (fun z13 m13 =>
            ((z13 = 0 →
              ((a1 = 3 →
                jx_Cl 12 [xI a2, xI 1, xI 5] m13 (fun z14 m14 =>
                  ((z14 = 0 →
                    Q (-1) m14) ∧
                    (¬ (z14 = 0) →
                    ((t0 < 18) ∧
  ((t0 < 18) ∧
  Q (m14 6 t0 7) (jx_up m14 6 t0 7 a2))))))) ∧
                (¬ (a1 = 3) →
                Q (-1) m13))) ∧
              (¬ (z13 = 0) →
              ((t0 < 18) ∧
  ((t0 < 18) ∧
  Q (m13 6 t0 6) (jx_up m13 6 t0 6 a2))))))) ∧
          (¬ (a1 = 2) →
          ((a1 = 3 →
            jx_Cl 12 [xI a2, xI 1, xI 5] m (fun z15 m15 =>
              ((z15 = 0 →
                Q (-1) m15) ∧
                (¬ (z15 = 0) →
                ((t0 < 18) ∧
  ((t0 < 18) ∧
  Q (m15 6 t0 7) (jx_up m15 6 t0 7 a2))))))) ∧
            (¬ (a1 = 3) →
            Q (-1) m))))))))) :
    jx_Cl 20 [xA 6 t0, xI a1, xI a2] m Q :=
  jx_segOk (x := 20) (cd := jx_c20) rfl (stops := []) 35 hv
set_option maxRecDepth 100000 in
theorem sg_21 (a1 : Int) (m : jx_M) (Q : Int → jx_M → Prop) (hv :
    ((a1 < 0 →
      (((0 : Int) = 0 ∨ (0 : Int) = 1) ∧
  Q 0 m)) ∧
      (¬ (a1 < 0) →
      ((a1 < 120 →
        (((1 : Int) = 0 ∨ (1 : Int) = 1) ∧
  Q 1 m)) ∧
        (¬ (a1 < 120) →
        (((0 : Int) = 0 ∨ (0 : Int) = 1) ∧
  Q 0 m)))))) :
    jx_Cl 21 [xI a1] m Q :=
  jx_segOk (x := 21) (cd := jx_c21) rfl (stops := []) 9 hv
set_option maxRecDepth 100000 in
theorem sg_22 (a1 : Int) (a2 : Int) (m : jx_M) (Q : Int → jx_M → Prop) (hv :
    jx_Cl 12 [xI a2, xI 1, xI 8] m (fun z1 m1 =>
      ((z1 = 0 →
        Q (-1) m1) ∧
        (¬ (z1 = 0) →
        jx_Cl 23 [xL a1, xI a2] m1 (fun z2 m2 =>
          ((z2 = 0 →
            Q (-1) m2) ∧
            (¬ (z2 = 0) →
            ((0 < 1) ∧
  ((0 < 1) ∧
  jx_Cl 25 [xA 20 0, xL a1, xI a2] m2 (fun z3 m3 =>
              Q z3 m3)))))))))) :
    jx_Cl 22 [xA 0 0, xL a1, xI a2] m Q :=
  jx_segOk (x := 22) (cd := jx_c22) rfl (stops := []) 16 hv
set_option maxRecDepth 100000 in
theorem sg_23 (a1 : Int) (a2 : Int) (m : jx_M) (Q : Int → jx_M → Prop) (hv :
    jx_AW 23 2 [some (xL a1), none, some (xI a2), some (xI 0), none] [] m Q) :
    jx_Cl 23 [xL a1, xI a2] m Q :=
  jx_segOk (x := 23) (cd := jx_c23) rfl (stops := [2]) 3 hv
set_option maxRecDepth 100000 in
theorem sg_24 (a1 : Int) (a2 : Int) (m : jx_M) (Q : Int → jx_M → Prop) (hv :
    ((jx_in (8 * a2)) ∧
  Q (jx_iand (jx_l2i (jx_lushr a1 (8 * a2))) 255) m)) :
    jx_Cl 24 [xL a1, xI a2] m Q :=
  jx_segOk (x := 24) (cd := jx_c24) rfl (stops := []) 10 hv
set_option maxRecDepth 100000 in
theorem sg_25 (a1 : Int) (a2 : Int) (m : jx_M) (Q : Int → jx_M → Prop) (hv :
    ((0 < 1) ∧
  ((jx_in (60 - (m 20 0 1))) ∧
  (((60 - (m 20 0 1)) < a2 →
      Q (-3) m) ∧
      (¬ ((60 - (m 20 0 1)) < a2) →
      ((jx_in (a2 - 1)) ∧
  jx_AW 25 12 [some (xA 20 0), some (xL a1), none, some (xI a2), some (xI (a2 - 1))] [] m Q)))))) :
    jx_Cl 25 [xA 20 0, xL a1, xI a2] m Q :=
  jx_segOk (x := 25) (cd := jx_c25) rfl (stops := [12]) 11 hv
set_option maxRecDepth 100000 in
theorem sg_26  (m : jx_M) (Q : Int → jx_M → Prop) (hv :
    ((0 < 1) ∧
  ((0 < 1) ∧
  ((0 < 1) ∧
  jx_Cl 27 [xA 20 0, xA 25 0, xI 25, xI 25] m (fun z1 m1 =>
      ((0 < 1) ∧
  ((0 < 1) ∧
  jx_Cl 29 [xA 20 0] m1 (fun _ m2 =>
        ((z1 < 0 →
          Q z1 m2) ∧
          (¬ (z1 < 0) →
          jx_AW 26 19 [some (xA 0 0), some (xI z1), some (xI 0), some (xI 0)] [] m2 Q)))))))))) :
    jx_Cl 26 [xA 0 0] m Q :=
  jx_segOk (x := 26) (cd := jx_c26) rfl (stops := [19]) 18 hv
set_option maxRecDepth 100000 in
theorem sg_28 (a1 : Int) (m : jx_M) (Q : Int → jx_M → Prop) (hv :
    ((0 < 1) ∧
  ((a1 < (m 20 0 1) →
      ((0 < 1) ∧
  ((1 = 1 ∧ 0 ≤ a1 ∧ a1 < 60) ∧
  ((0 < 1) ∧
  (((m 21 0 (a1.toNat)) < 48 →
        (((0 : Int) = 0 ∨ (0 : Int) = 1) ∧
  Q 0 m)) ∧
        (¬ ((m 21 0 (a1.toNat)) < 48) →
        ((0 < 1) ∧
  ((1 = 1 ∧ 0 ≤ a1 ∧ a1 < 60) ∧
  ((0 < 1) ∧
  (((57 : Int) < (m 21 0 (a1.toNat)) →
          (((0 : Int) = 0 ∨ (0 : Int) = 1) ∧
  Q 0 m)) ∧
          (¬ ((57 : Int) < (m 21 0 (a1.toNat))) →
          (((1 : Int) = 0 ∨ (1 : Int) = 1) ∧
  Q 1 m)))))))))))) ∧
      (¬ (a1 < (m 20 0 1)) →
      (((0 : Int) = 0 ∨ (0 : Int) = 1) ∧
  Q 0 m))))) :
    jx_Cl 28 [xA 20 0, xI a1] m Q :=
  jx_segOk (x := 28) (cd := jx_c28) rfl (stops := []) 20 hv
set_option maxRecDepth 100000 in
theorem sg_29  (m : jx_M) (Q : Int → jx_M → Prop) (hv :
    ((0 < 1) ∧
  Q 0 (jx_up m 20 0 1 0))) :
    jx_Cl 29 [xA 20 0] m Q :=
  jx_segOk (x := 29) (cd := jx_c29) rfl (stops := []) 5 hv
set_option maxRecDepth 100000 in
theorem sg_30 (a1 : Int) (m : jx_M) (Q : Int → jx_M → Prop) (hv :
    ((0 < 1) ∧
  ((0 < 3) ∧
  jx_Cl 19 [xA 1 0, xI a1] m (fun z1 m1 =>
      ((z1 = 0 →
        Q (-1) m1) ∧
        (¬ (z1 = 0) →
        ((0 < 1) ∧
  ((0 < 1) ∧
  ((0 < 1) ∧
  jx_Cl 31 [xA 20 0, xA 25 0] m1 (fun z2 m2 =>
          ((0 < 1) ∧
  ((0 < 1) ∧
  jx_Cl 29 [xA 20 0] m2 (fun _ m3 =>
            (((0 : Int) < z2 →
              ((0 < 1) ∧
  ((0 < 3) ∧
  ((0 ≤ a1 ∧ a1 < 6) ∧
  ((0 < 3) ∧
  ((0 < 1) ∧
  (((6 * 0 + a1.toNat) < 18) ∧
  jx_Cl 38 [xA 6 (6 * 0 + a1.toNat), xA 25 0, xI z2] m3 (fun _ m4 =>
                Q z2 m4)))))))) ∧
              (¬ ((0 : Int) < z2) →
              Q z2 m3))))))))))))))) :
    jx_Cl 30 [xA 0 0, xI a1] m Q :=
  jx_segOk (x := 30) (cd := jx_c30) rfl (stops := []) 28 hv
set_option maxRecDepth 100000 in
theorem sg_32 (a1 : Int) (a2 : Int) (m : jx_M) (Q : Int → jx_M → Prop) (hv :
    ((a2 < a1 →
      Q a2 m) ∧
      (¬ (a2 < a1) →
      Q a1 m))) :
    jx_Cl 32 [xI a1, xI a2] m Q :=
  jx_segOk (x := 32) (cd := jx_c32) rfl (stops := []) 7 hv
set_option maxRecDepth 100000 in
theorem sg_33 (a1 : Int) (m : jx_M) (Q : Int → jx_M → Prop) (hv :
    jx_AW 33 2 [some (xA 20 0), some (xI a1), some (xI a1)] [] m Q) :
    jx_Cl 33 [xA 20 0, xI a1] m Q :=
  jx_segOk (x := 33) (cd := jx_c33) rfl (stops := [2]) 3 hv
set_option maxRecDepth 100000 in
theorem sg_34 (a1 : Int) (m : jx_M) (Q : Int → jx_M → Prop) (hv :
    jx_AW 34 2 [some (xA 20 0), some (xI a1), some (xI a1)] [] m Q) :
    jx_Cl 34 [xA 20 0, xI a1] m Q :=
  jx_segOk (x := 34) (cd := jx_c34) rfl (stops := [2]) 3 hv
set_option maxRecDepth 100000 in
theorem sg_35 (a1 : Int) (a2 : Int) (m : jx_M) (Q : Int → jx_M → Prop) (hv :
    jx_AW 35 4 [some (xA 20 0), some (xI a1), some (xI a2), some (xI 0), some (xI a1)] [] m Q) :
    jx_Cl 35 [xA 20 0, xI a1, xI a2] m Q :=
  jx_segOk (x := 35) (cd := jx_c35) rfl (stops := [4]) 5 hv
set_option maxRecDepth 100000 in
theorem sg_36 (a1 : Int) (a2 : Int) (m : jx_M) (Q : Int → jx_M → Prop) (hv :
    ((0 ≤ a1 ∧ 0 < (5 : Int)) ∧
  ((0 ≤ a2 ∧ 0 < (5 : Int)) ∧
  ((jx_in ((a1 / 5) - (a2 / 5))) ∧
  ((jx_in (-((a1 / 5) - (a2 / 5)))) ∧
  ((0 ≤ a1 ∧ 0 < (5 : Int)) ∧
  ((0 ≤ a2 ∧ 0 < (5 : Int)) ∧
  ((jx_in ((a1 % 5) - (a2 % 5))) ∧
  ((jx_in (-((a1 % 5) - (a2 % 5)))) ∧
  ((jx_in ((((a1 / 5) - (a2 / 5)).natAbs : Int) + (((a1 % 5) - (a2 % 5)).natAbs : Int))) ∧
  Q ((((a1 / 5) - (a2 / 5)).natAbs : Int) + (((a1 % 5) - (a2 % 5)).natAbs : Int)) m)))))))))) :
    jx_Cl 36 [xI a1, xI a2] m Q :=
  jx_segOk (x := 36) (cd := jx_c36) rfl (stops := []) 19 hv
set_option maxRecDepth 100000 in
theorem sg_37 (a1 : Int) (m : jx_M) (Q : Int → jx_M → Prop) (hv :
    ((a1 < 0 →
      ((jx_in (-a1)) ∧
  Q (-a1) m)) ∧
      (¬ (a1 < 0) →
      Q a1 m))) :
    jx_Cl 37 [xI a1] m Q :=
  jx_segOk (x := 37) (cd := jx_c37) rfl (stops := []) 7 hv
set_option maxRecDepth 100000 in
theorem sg_39 (a1 : Int) (m : jx_M) (Q : Int → jx_M → Prop) (hv :
    ((0 < 1) ∧
  ((0 < 3) ∧
  jx_Cl 19 [xA 1 0, xI a1] m (fun z1 m1 =>
      ((z1 = 0 →
        Q (-1) m1) ∧
        (¬ (z1 = 0) →
        ((0 < 1) ∧
  ((0 < 1) ∧
  ((0 < 1) ∧
  jx_Cl 27 [xA 20 0, xA 25 0, xI 1, xI 6] m1 (fun z2 m2 =>
          ((0 < 1) ∧
  ((0 < 1) ∧
  jx_Cl 29 [xA 20 0] m2 (fun _ m3 =>
            (((0 : Int) < z2 →
              ((0 < 1) ∧
  ((0 < 3) ∧
  ((0 ≤ a1 ∧ a1 < 6) ∧
  ((0 < 3) ∧
  ((0 < 1) ∧
  (((6 * 0 + a1.toNat) < 18) ∧
  jx_Cl 40 [xA 6 (6 * 0 + a1.toNat), xA 25 0, xI z2] m3 (fun _ m4 =>
                Q z2 m4)))))))) ∧
              (¬ ((0 : Int) < z2) →
              Q z2 m3))))))))))))))) :
    jx_Cl 39 [xA 0 0, xI a1] m Q :=
  jx_segOk (x := 39) (cd := jx_c39) rfl (stops := []) 30 hv
set_option maxRecDepth 100000 in
theorem sg_41 (a1 : Int) (a2 : Int) (a3 : Int) (m : jx_M) (Q : Int → jx_M → Prop) (hv :
    ((0 < 1) ∧
  ((0 < 3) ∧
  jx_Cl 19 [xA 1 0, xI a1] m (fun z1 m1 =>
      ((z1 = 0 →
        Q (-1) m1) ∧
        (¬ (z1 = 0) →
        jx_Cl 12 [xI a2, xI 0, xI 1] m1 (fun z2 m2 =>
          ((z2 = 0 →
            Q (-1) m2) ∧
            (¬ (z2 = 0) →
            ((a3 < (-1) →
              Q (-1) m2) ∧
              (¬ (a3 < (-1)) →
              ((0 < 1) ∧
  ((0 < 3) ∧
  ((0 ≤ a1 ∧ a1 < 6) ∧
  ((0 < 3) ∧
  ((a2 = 0 →
                (((6 * 0 + a1.toNat) < 18) ∧
  ((a2 = 0 →
                  (((6 * 0 + a1.toNat) < 18) ∧
  ((a3 < 0 →
                    Q (m2 6 (6 * 0 + a1.toNat) 2) m2) ∧
                    (¬ (a3 < 0) →
                    ((a3 < (m2 6 (6 * 0 + a1.toNat) 2) →
                      ((1 = 1) ∧
  (((6 * 0 + a1.toNat) < 18) ∧
  ((a3 < 12 →
                        ((1 = 1 ∧ 0 ≤ a3 ∧ a3 < 12) ∧
  (((6 * 0 + a1.toNat) < 18) ∧
  Q (m2 7 (6 * 0 + a1.toNat) (a3.toNat)) m2))) ∧
                        (¬ (a3 < 12) →
                        Q (-4) m2))))) ∧
                      (¬ (a3 < (m2 6 (6 * 0 + a1.toNat) 2)) →
                      Q (-4) m2)))))) ∧
                  (¬ (a2 = 0) →
                  (((6 * 0 + a1.toNat) < 18) ∧
  ((a3 < 0 →
                    Q (m2 6 (6 * 0 + a1.toNat) 3) m2) ∧
                    (¬ (a3 < 0) →
                    ((a3 < (m2 6 (6 * 0 + a1.toNat) 3) →
                      ((1 = 1) ∧
  (((6 * 0 + a1.toNat) < 18) ∧
  ((a3 < 12 →
                        ((1 = 1 ∧ 0 ≤ a3 ∧ a3 < 12) ∧
  (((6 * 0 + a1.toNat) < 18) ∧
  Q (m2 7 (6 * 0 + a1.toNat) (a3.toNat)) m2))) ∧
                        (¬ (a3 < 12) →
                        Q (-4) m2))))) ∧
                      (¬ (a3 < (m2 6 (6 * 0 + a1.toNat) 3)) →
                      Q (-4) m2))))))))) ∧
                (¬ (a2 = 0) →
                (((6 * 0 + a1.toNat) < 18) ∧
  ((a2 = 0 →
                  (((6 * 0 + a1.toNat) < 18) ∧
  ((a3 < 0 →
                    Q (m2 6 (6 * 0 + a1.toNat) 2) m2) ∧
                    (¬ (a3 < 0) →
                    ((a3 < (m2 6 (6 * 0 + a1.toNat) 2) →
                      ((1 = 1) ∧
  (((6 * 0 + a1.toNat) < 18) ∧
  ((a3 < 6 →
                        ((1 = 1 ∧ 0 ≤ a3 ∧ a3 < 6) ∧
  (((6 * 0 + a1.toNat) < 18) ∧
  Q (m2 8 (6 * 0 + a1.toNat) (a3.toNat)) m2))) ∧
                        (¬ (a3 < 6) →
                        Q (-4) m2))))) ∧
                      (¬ (a3 < (m2 6 (6 * 0 + a1.toNat) 2)) →
                      Q (-4) m2)))))) ∧
                  (¬ (a2 = 0) →
                  (((6 * 0 + a1.toNat) < 18) ∧
  ((a3 < 0 →
                    Q (m2 6 (6 * 0 + a1.toNat) 3) m2) ∧
                    (¬ (a3 < 0) →
                    ((a3 < (m2 6 (6 * 0 + a1.toNat) 3) →
                      ((1 = 1) ∧
  (((6 * 0 + a1.toNat) < 18) ∧
  ((a3 < 6 →
                        ((1 = 1 ∧ 0 ≤ a3 ∧ a3 < 6) ∧
  (((6 * 0 + a1.toNat) < 18) ∧
  Q (m2 8 (6 * 0 + a1.toNat) (a3.toNat)) m2))) ∧
                        (¬ (a3 < 6) →
                        Q (-4) m2))))) ∧
                      (¬ (a3 < (m2 6 (6 * 0 + a1.toNat) 3)) →
                      Q (-4) m2))))))))))))))))))))))))) :
    jx_Cl 41 [xA 0 0, xI a1, xI a2, xI a3] m Q :=
  jx_segOk (x := 41) (cd := jx_c41) rfl (stops := []) 46 hv
set_option maxRecDepth 100000 in
theorem sg_42 (a1 : Int) (a2 : Int) (m : jx_M) (Q : Int → jx_M → Prop) (hv :
    ((0 < 1) ∧
  ((0 < 3) ∧
  jx_Cl 19 [xA 1 0, xI a1] m (fun z1 m1 =>
      ((z1 = 0 →
        Q (-1) m1) ∧
        (¬ (z1 = 0) →
        jx_Cl 21 [xI a2] m1 (fun z2 m2 =>
          ((z2 = 0 →
            Q (-1) m2) ∧
            (¬ (z2 = 0) →
            ((0 < 1) ∧
  ((0 < 3) ∧
  ((0 ≤ a1 ∧ a1 < 6) ∧
  ((0 < 3) ∧
  (((6 * 0 + a1.toNat) < 18) ∧
  jx_Cl 43 [xA 6 (6 * 0 + a1.toNat), xI a2] m2 (fun z3 m3 =>
              Q z3 m3))))))))))))))) :
    jx_Cl 42 [xA 0 0, xI a1, xI a2] m Q :=
  jx_segOk (x := 42) (cd := jx_c42) rfl (stops := []) 17 hv
set_option maxRecDepth 100000 in
theorem sg_43 (t0 : Nat) (a1 : Int) (m : jx_M) (Q : Int → jx_M → Prop) (hv :
    ((t0 < 18) ∧
  ((jx_in (a1 - (m 6 t0 6))) ∧
  (((a1 - (m 6 t0 6)) < 0 →
      Q (-4) m) ∧
      (¬ ((a1 - (m 6 t0 6)) < 0) →
      ((t0 < 18) ∧
  (((m 6 t0 7) < 1 →
        Q (-4) m) ∧
        (¬ ((m 6 t0 7) < 1) →
        ((t0 < 18) ∧
  ((0 ≤ (a1 - (m 6 t0 6)) ∧ 0 < (m 6 t0 7)) ∧
  ((t0 < 18) ∧
  ((((a1 - (m 6 t0 6)) / (m 6 t0 7)) < (m 6 t0 2) →
          ((t0 < 18) ∧
  ((1 = 1 ∧ 0 ≤ ((a1 - (m 6 t0 6)) / (m 6 t0 7)) ∧ ((a1 - (m 6 t0 6)) / (m 6 t0 7)) < 12) ∧
  ((t0 < 18) ∧
  Q (m 7 t0 (((a1 - (m 6 t0 6)) / (m 6 t0 7)).toNat)) m)))) ∧
          (¬ (((a1 - (m 6 t0 6)) / (m 6 t0 7)) < (m 6 t0 2)) →
          Q (-4) m))))))))))))) :
    jx_Cl 43 [xA 6 t0, xI a1] m Q :=
  jx_segOk (x := 43) (cd := jx_c43) rfl (stops := []) 27 hv
set_option maxRecDepth 100000 in
theorem sg_44 (a1 : Int) (m : jx_M) (Q : Int → jx_M → Prop) (hv :
    ((0 < 1) ∧
  ((0 < 3) ∧
  jx_Cl 19 [xA 1 0, xI a1] m (fun z1 m1 =>
      ((z1 = 0 →
        Q (-1) m1) ∧
        (¬ (z1 = 0) →
        ((0 < 1) ∧
  ((0 < 3) ∧
  ((0 ≤ a1 ∧ a1 < 6) ∧
  ((0 < 3) ∧
  ((0 < 1) ∧
  ((0 < 3) ∧
  (((6 * 0 + a1.toNat) < 18) ∧
  jx_Cl 45 [xA 6 (6 * 0 + a1.toNat), xI (m1 1 0 8)] m1 (fun z2 m2 =>
          Q z2 m2)))))))))))))) :
    jx_Cl 44 [xA 0 0, xI a1] m Q :=
  jx_segOk (x := 44) (cd := jx_c44) rfl (stops := []) 17 hv
set_option maxRecDepth 100000 in
theorem sg_45 (t0 : Nat) (a1 : Int) (m : jx_M) (Q : Int → jx_M → Prop) (hv :
    ((t0 < 18) ∧
  ((t0 < 18) ∧
  ((jx_in ((m 6 t0 5) + (m 6 t0 8))) ∧
  (((jx_iand a1 4) = 0 →
      Q ((m 6 t0 5) + (m 6 t0 8)) m) ∧
      (¬ ((jx_iand a1 4) = 0) →
      (((4 : Int) < ((m 6 t0 5) + (m 6 t0 8)) →
        Q 4 m) ∧
        (¬ ((4 : Int) < ((m 6 t0 5) + (m 6 t0 8))) →
        Q ((m 6 t0 5) + (m 6 t0 8)) m)))))))) :
    jx_Cl 45 [xA 6 t0, xI a1] m Q :=
  jx_segOk (x := 45) (cd := jx_c45) rfl (stops := []) 17 hv
set_option maxRecDepth 100000 in
theorem sg_46 (a1 : Int) (a2 : Int) (m : jx_M) (Q : Int → jx_M → Prop) (hv :
    jx_Cl 11 [xI a1] m (fun z1 m1 =>
      ((z1 = 0 →
        Q (-1) m1) ∧
        (¬ (z1 = 0) →
        jx_Cl 21 [xI a2] m1 (fun z2 m2 =>
          ((z2 = 0 →
            Q (-1) m2) ∧
            (¬ (z2 = 0) →
            jx_AW 46 12 [some (xA 0 0), some (xI a1), some (xI a2), some (xI 0), some (xI 0)] [] m2 Q))))))) :
    jx_Cl 46 [xA 0 0, xI a1, xI a2] m Q :=
  jx_segOk (x := 46) (cd := jx_c46) rfl (stops := [12]) 11 hv
set_option maxRecDepth 100000 in
theorem sg_47 (t0 : Nat) (a1 : Int) (a2 : Int) (a3 : Int) (m : jx_M) (Q : Int → jx_M → Prop) (hv :
    ((t0 < 3) ∧
  jx_Cl 48 [xA 1 t0, xI a1, xI a3] m (fun z1 m1 =>
      ((z1 = 0 →
        (((0 : Int) = 0 ∨ (0 : Int) = 1) ∧
  Q 0 m1)) ∧
        (¬ (z1 = 0) →
        ((t0 < 3) ∧
  jx_Cl 52 [xA 1 t0, xI a1, xI a2, xI a3] m1 (fun z2 m2 =>
          ((z2 = 0 →
            (((0 : Int) = 0 ∨ (0 : Int) = 1) ∧
  Q 0 m2)) ∧
            (¬ (z2 = 0) →
            (((1 : Int) = 0 ∨ (1 : Int) = 1) ∧
  Q 1 m2)))))))))) :
    jx_Cl 47 [xA 1 t0, xI a1, xI a2, xI a3] m Q :=
  jx_segOk (x := 47) (cd := jx_c47) rfl (stops := []) 15 hv
set_option maxRecDepth 100000 in
theorem sg_48 (t0 : Nat) (a1 : Int) (a2 : Int) (m : jx_M) (Q : Int → jx_M → Prop) (hv :
    jx_Cl 21 [xI a2] m (fun z1 m1 =>
      ((z1 = 0 →
        (((0 : Int) = 0 ∨ (0 : Int) = 1) ∧
  Q 0 m1)) ∧
        (¬ (z1 = 0) →
        ((t0 < 3) ∧
  ((0 ≤ a1 ∧ a1 < 6) ∧
  ((t0 < 3) ∧
  (((6 * t0 + a1.toNat) < 18) ∧
  jx_Cl 49 [xA 6 (6 * t0 + a1.toNat), xI a2] m1 (fun z2 m2 =>
          ((z2 = 0 →
            (((0 : Int) = 0 ∨ (0 : Int) = 1) ∧
  Q 0 m2)) ∧
            (¬ (z2 = 0) →
            ((t0 < 3) ∧
  (((jx_iand (m2 1 t0 8) 1) = 0 →
              ((t0 < 3) ∧
  (((jx_iand (m2 1 t0 8) 2) = 0 →
                ((t0 < 3) ∧
  (((jx_iand (m2 1 t0 8) 8) = 0 →
                  (((1 : Int) = 0 ∨ (1 : Int) = 1) ∧
  Q 1 m2)) ∧
                  (¬ ((jx_iand (m2 1 t0 8) 8) = 0) →
                  ((t0 < 3) ∧
  jx_Cl 51 [xA 1 t0, xI a1, xI a2] m2 (fun z3 m3 =>
                    ((z3 = 0 →
                      (((1 : Int) = 0 ∨ (1 : Int) = 1) ∧
  Q 1 m3)) ∧
                      (¬ (z3 = 0) →
                      (((0 : Int) = 0 ∨ (0 : Int) = 1) ∧
  Q 0 m3))))))))) ∧
                (¬ ((jx_iand (m2 1 t0 8) 2) = 0) →
                ((t0 < 3) ∧
  ((0 ≤ a1 ∧ a1 < 6) ∧
  ((t0 < 3) ∧
  (((6 * t0 + a1.toNat) < 18) ∧
  jx_Cl 43 [xA 6 (6 * t0 + a1.toNat), xI a2] m2 (fun z4 m4 =>
                  ((t0 < 3) ∧
  jx_Cl 50 [xA 1 t0, xI z4] m4 (fun z5 m5 =>
                    ((z5 = 0 →
                      ((t0 < 3) ∧
  (((jx_iand (m5 1 t0 8) 8) = 0 →
                        (((1 : Int) = 0 ∨ (1 : Int) = 1) ∧
  Q 1 m5)) ∧
                        (¬ ((jx_iand (m5 1 t0 8) 8) = 0) →
                        ((t0 < 3) ∧
  jx_Cl 51 [xA 1 t0, xI a1, xI a2] m5 (fun z6 m6 =>
                          ((z6 = 0 →
                            (((1 : Int) = 0 ∨ (1 : Int) = 1) ∧
  Q 1 m6)) ∧
                            (¬ (z6 = 0) →
                            (((0 : Int) = 0 ∨ (0 : Int) = 1) ∧
  Q 0 m6))))))))) ∧
                      (¬ (z5 = 0) →
                      (((0 : Int) = 0 ∨ (0 : Int) = 1) ∧
  Q 0 m5)))))))))))))) ∧
              (¬ ((jx_iand (m2 1 t0 8) 1) = 0) →
              ((a2 < 60 →
                ((t0 < 3) ∧
  (((jx_iand (m2 1 t0 8) 2) = 0 →
                  ((t0 < 3) ∧
  (((jx_iand (m2 1 t0 8) 8) = 0 →
                    (((1 : Int) = 0 ∨ (1 : Int) = 1) ∧
  Q 1 m2)) ∧
                    (¬ ((jx_iand (m2 1 t0 8) 8) = 0) →
                    ((t0 < 3) ∧
  jx_Cl 51 [xA 1 t0, xI a1, xI a2] m2 (fun z7 m7 =>
                      ((z7 = 0 →
                        (((1 : Int) = 0 ∨ (1 : Int) = 1) ∧
  Q 1 m7)) ∧
                        (¬ (z7 = 0) →
                        (((0 : Int) = 0 ∨ (0 : Int) = 1) ∧
  Q 0 m7))))))))) ∧
                  (¬ ((jx_iand (m2 1 t0 8) 2) = 0) →
                  ((t0 < 3) ∧
  ((0 ≤ a1 ∧ a1 < 6) ∧
  ((t0 < 3) ∧
  (((6 * t0 + a1.toNat) < 18) ∧
  jx_Cl 43 [xA 6 (6 * t0 + a1.toNat), xI a2] m2 (fun z8 m8 =>
                    ((t0 < 3) ∧
  jx_Cl 50 [xA 1 t0, xI z8] m8 (fun z9 m9 =>
                      ((z9 = 0 →
                        ((t0 < 3) ∧
  (((jx_iand (m9 1 t0 8) 8) = 0 →
                          (((1 : Int) = 0 ∨ (1 : Int) = 1) ∧
  Q 1 m9)) ∧
                          (¬ ((jx_iand (m9 1 t0 8) 8) = 0) →
                          ((t0 < 3) ∧
  jx_Cl 51 [xA 1 t0, xI a1, xI a2] m9 (fun z10 m10 =>
                            ((z10 = 0 →
                              (((1 : Int) = 0 ∨ (1 : Int) = 1) ∧
  Q 1 m10)) ∧
                              (¬ (z10 = 0) →
                              (((0 : Int) = 0 ∨ (0 : Int) = 1) ∧
  Q 0 m10))))))))) ∧
                        (¬ (z9 = 0) →
                        (((0 : Int) = 0 ∨ (0 : Int) = 1) ∧
  Q 0 m9)))))))))))))) ∧
                (¬ (a2 < 60) →
                (((0 : Int) = 0 ∨ (0 : Int) = 1) ∧
  Q 0 m2))))))))))))))))) :
    jx_Cl 48 [xA 1 t0, xI a1, xI a2] m Q :=
  jx_segOk (x := 48) (cd := jx_c48) rfl (stops := []) 46 hv
set_option maxRecDepth 100000 in
theorem sg_49 (t0 : Nat) (a1 : Int) (m : jx_M) (Q : Int → jx_M → Prop) (hv :
    ((t0 < 18) ∧
  ((jx_in (a1 - (m 6 t0 6))) ∧
  (((a1 - (m 6 t0 6)) < 0 →
      (((0 : Int) = 0 ∨ (0 : Int) = 1) ∧
  Q 0 m)) ∧
      (¬ ((a1 - (m 6 t0 6)) < 0) →
      ((t0 < 18) ∧
  (((m 6 t0 7) < 1 →
        (((0 : Int) = 0 ∨ (0 : Int) = 1) ∧
  Q 0 m)) ∧
        (¬ ((m 6 t0 7) < 1) →
        ((t0 < 18) ∧
  ((0 ≤ (a1 - (m 6 t0 6)) ∧ 0 < (m 6 t0 7)) ∧
  ((((a1 - (m 6 t0 6)) % (m 6 t0 7)) = 0 →
          ((t0 < 18) ∧
  ((0 ≤ (a1 - (m 6 t0 6)) ∧ 0 < (m 6 t0 7)) ∧
  ((t0 < 18) ∧
  ((((a1 - (m 6 t0 6)) / (m 6 t0 7)) < (m 6 t0 2) →
            (((1 : Int) = 0 ∨ (1 : Int) = 1) ∧
  Q 1 m)) ∧
            (¬ (((a1 - (m 6 t0 6)) / (m 6 t0 7)) < (m 6 t0 2)) →
            (((0 : Int) = 0 ∨ (0 : Int) = 1) ∧
  Q 0 m))))))) ∧
          (¬ (((a1 - (m 6 t0 6)) % (m 6 t0 7)) = 0) →
          (((0 : Int) = 0 ∨ (0 : Int) = 1) ∧
  Q 0 m))))))))))))) :
    jx_Cl 49 [xA 6 t0, xI a1] m Q :=
  jx_segOk (x := 49) (cd := jx_c49) rfl (stops := []) 27 hv
set_option maxRecDepth 100000 in
theorem sg_50 (t0 : Nat) (a1 : Int) (m : jx_M) (Q : Int → jx_M → Prop) (hv :
    jx_Cl 11 [xI a1] m (fun z1 m1 =>
      ((z1 = 0 →
        (((0 : Int) = 0 ∨ (0 : Int) = 1) ∧
  Q 0 m1)) ∧
        (¬ (z1 = 0) →
        ((t0 < 3) ∧
  ((1 = 1 ∧ 0 ≤ a1 ∧ a1 < 25) ∧
  ((t0 < 3) ∧
  (((m1 2 t0 (a1.toNat)) = 0 →
          (((1 : Int) = 0 ∨ (1 : Int) = 1) ∧
  Q 1 m1)) ∧
          (¬ ((m1 2 t0 (a1.toNat)) = 0) →
          (((0 : Int) = 0 ∨ (0 : Int) = 1) ∧
  Q 0 m1)))))))))) :
    jx_Cl 50 [xA 1 t0, xI a1] m Q :=
  jx_segOk (x := 50) (cd := jx_c50) rfl (stops := []) 12 hv
set_option maxRecDepth 100000 in
theorem sg_51 (t0 : Nat) (a1 : Int) (a2 : Int) (m : jx_M) (Q : Int → jx_M → Prop) (hv :
    ((t0 < 3) ∧
  ((0 ≤ a1 ∧ a1 < 6) ∧
  ((t0 < 3) ∧
  (((6 * t0 + a1.toNat) < 18) ∧
  jx_Cl 43 [xA 6 (6 * t0 + a1.toNat), xI a2] m (fun z1 m1 =>
      jx_AW 51 9 [some (xA 1 t0), some (xI a1), some (xI a2), some (xI z1), some (xI 0), none] [] m1 Q)))))) :
    jx_Cl 51 [xA 1 t0, xI a1, xI a2] m Q :=
  jx_segOk (x := 51) (cd := jx_c51) rfl (stops := [9]) 10 hv
set_option maxRecDepth 100000 in
theorem sg_52 (t0 : Nat) (a1 : Int) (a2 : Int) (a3 : Int) (m : jx_M) (Q : Int → jx_M → Prop) (hv :
    ((t0 < 3) ∧
  ((0 ≤ a1 ∧ a1 < 6) ∧
  ((t0 < 3) ∧
  (((6 * t0 + a1.toNat) < 18) ∧
  jx_Cl 43 [xA 6 (6 * t0 + a1.toNat), xI a3] m (fun z1 m1 =>
      ((z1 < 0 →
        (((0 : Int) = 0 ∨ (0 : Int) = 1) ∧
  Q 0 m1)) ∧
        (¬ (z1 < 0) →
        jx_Cl 36 [xI z1, xI a2] m1 (fun z2 m2 =>
          ((t0 < 3) ∧
  ((0 ≤ a1 ∧ a1 < 6) ∧
  ((t0 < 3) ∧
  ((t0 < 3) ∧
  (((6 * t0 + a1.toNat) < 18) ∧
  jx_Cl 45 [xA 6 (6 * t0 + a1.toNat), xI (m2 1 t0 8)] m2 (fun z3 m3 =>
            ((t0 < 3) ∧
  ((1 = 1 ∧ 0 ≤ a2 ∧ a2 < 25) ∧
  ((t0 < 3) ∧
  ((jx_in (z3 - (m3 2 t0 (a2.toNat)))) ∧
  (((z3 - (m3 2 t0 (a2.toNat))) < z2 →
              (((0 : Int) = 0 ∨ (0 : Int) = 1) ∧
  Q 0 m3)) ∧
              (¬ ((z3 - (m3 2 t0 (a2.toNat))) < z2) →
              (((1 : Int) = 0 ∨ (1 : Int) = 1) ∧
  Q 1 m3)))))))))))))))))))))) :
    jx_Cl 52 [xA 1 t0, xI a1, xI a2, xI a3] m Q :=
  jx_segOk (x := 52) (cd := jx_c52) rfl (stops := []) 29 hv
set_option maxRecDepth 100000 in
theorem sg_53 (a1 : Int) (a2 : Int) (m : jx_M) (Q : Int → jx_M → Prop) (hv :
    ((0 < 1) ∧
  ((0 < 3) ∧
  jx_Cl 19 [xA 1 0, xI a1] m (fun z1 m1 =>
      ((z1 = 0 →
        Q (-1) m1) ∧
        (¬ (z1 = 0) →
        ((0 < 1) ∧
  ((0 < 3) ∧
  jx_Cl 19 [xA 1 0, xI a2] m1 (fun z2 m2 =>
          ((z2 = 0 →
            Q (-1) m2) ∧
            (¬ (z2 = 0) →
            ((0 < 1) ∧
  ((0 < 3) ∧
  ((0 ≤ a2 ∧ a2 < 6) ∧
  ((0 < 3) ∧
  ((0 < 1) ∧
  ((0 < 3) ∧
  ((0 ≤ a1 ∧ a1 < 6) ∧
  ((0 < 3) ∧
  (((6 * 0 + a2.toNat) < 18) ∧
  (((6 * 0 + a2.toNat) < 18) ∧
  (((6 * 0 + a1.toNat) < 18) ∧
  jx_Cl 54 [xA 6 (6 * 0 + a1.toNat), xA 8 (6 * 0 + a2.toNat), xI (m2 6 (6 * 0 + a2.toNat) 3)] m2 (fun z3 m3 =>
              Q z3 m3))))))))))))))))))))))) :
    jx_Cl 53 [xA 0 0, xI a1, xI a2] m Q :=
  jx_segOk (x := 53) (cd := jx_c53) rfl (stops := []) 28 hv
set_option maxRecDepth 100000 in
theorem sg_55 (a1 : Int) (m : jx_M) (Q : Int → jx_M → Prop) (hv :
    jx_Cl 12 [xI a1, xI 0, xI 20] m (fun z1 m1 =>
      ((z1 = 0 →
        Q (-1) m1) ∧
        (¬ (z1 = 0) →
        ((0 < 1) ∧
  ((0 < 3) ∧
  ((0 < 1) ∧
  ((0 < 3) ∧
  Q (m1 1 0 7) (jx_up m1 1 0 7 a1))))))))) :
    jx_Cl 55 [xA 0 0, xI a1] m Q :=
  jx_segOk (x := 55) (cd := jx_c55) rfl (stops := []) 16 hv
set_option maxRecDepth 100000 in
theorem sg_56 (a1 : Int) (a2 : Int) (m : jx_M) (Q : Int → jx_M → Prop) (hv :
    jx_Cl 57 [xI a1] m (fun z1 m1 =>
      ((z1 = 0 →
        Q (-1) m1) ∧
        (¬ (z1 = 0) →
        ((0 < 1) ∧
  ((0 < 3) ∧
  (((jx_iand (m1 1 0 8) (jx_ishl 1 a1)) = 0 →
          ((0 < 1) ∧
  ((a2 = 0 →
            ((0 < 1) ∧
  ((0 < 3) ∧
  ((0 < 3) ∧
  Q 0 (jx_up m1 1 0 8 (jx_iand (m1 1 0 8) (jx_ixor (jx_ishl 1 a1) (-1)))))))) ∧
            (¬ (a2 = 0) →
            ((0 < 1) ∧
  ((0 < 3) ∧
  ((0 < 3) ∧
  Q 0 (jx_up m1 1 0 8 (jx_ior (m1 1 0 8) (jx_ishl 1 a1)))))))))) ∧
          (¬ ((jx_iand (m1 1 0 8) (jx_ishl 1 a1)) = 0) →
          ((0 < 1) ∧
  ((a2 = 0 →
            ((0 < 1) ∧
  ((0 < 3) ∧
  ((0 < 3) ∧
  Q 1 (jx_up m1 1 0 8 (jx_iand (m1 1 0 8) (jx_ixor (jx_ishl 1 a1) (-1)))))))) ∧
            (¬ (a2 = 0) →
            ((0 < 1) ∧
  ((0 < 3) ∧
  ((0 < 3) ∧
  Q 1 (jx_up m1 1 0 8 (jx_ior (m1 1 0 8) (jx_ishl 1 a1))))))))))))))))) :
    jx_Cl 56 [xA 0 0, xI a1, xI a2] m Q :=
  jx_segOk (x := 56) (cd := jx_c56) rfl (stops := []) 31 hv
set_option maxRecDepth 100000 in
theorem sg_57 (a1 : Int) (m : jx_M) (Q : Int → jx_M → Prop) (hv :
    ((a1 < 0 →
      (((0 : Int) = 0 ∨ (0 : Int) = 1) ∧
  Q 0 m)) ∧
      (¬ (a1 < 0) →
      ((a1 < 4 →
        (((1 : Int) = 0 ∨ (1 : Int) = 1) ∧
  Q 1 m)) ∧
        (¬ (a1 < 4) →
        (((0 : Int) = 0 ∨ (0 : Int) = 1) ∧
  Q 0 m)))))) :
    jx_Cl 57 [xI a1] m Q :=
  jx_segOk (x := 57) (cd := jx_c57) rfl (stops := []) 9 hv
set_option maxRecDepth 100000 in
theorem sg_58 (a1 : Int) (m : jx_M) (Q : Int → jx_M → Prop) (hv :
    ((a1 = 0 →
      ((0 < 1) ∧
  ((0 < 3) ∧
  Q (m 1 0 4) m))) ∧
      (¬ (a1 = 0) →
      ((a1 = 1 →
      ((0 < 1) ∧
  ((0 < 3) ∧
  Q (m 1 0 5) m))) ∧
      (¬ (a1 = 1) →
      ((a1 = 2 →
      ((0 < 1) ∧
  ((0 < 3) ∧
  Q (m 1 0 6) m))) ∧
      (¬ (a1 = 2) →
      ((a1 = 3 →
      ((0 < 1) ∧
  ((0 < 3) ∧
  jx_Cl 59 [xI (m 1 0 8)] m (fun z1 m1 =>
        Q z1 m1)))) ∧
      (¬ (a1 = 3) →
      Q (-1) m))))))))) :
    jx_Cl 58 [xA 0 0, xI a1] m Q :=
  jx_segOk (x := 58) (cd := jx_c58) rfl (stops := []) 8 hv
set_option maxRecDepth 100000 in
theorem sg_59 (a1 : Int) (m : jx_M) (Q : Int → jx_M → Prop) (hv :
    ((jx_in (a1 - (jx_iand (jx_iushr a1 1) 1431655765))) ∧
  ((jx_in ((jx_iand (a1 - (jx_iand (jx_iushr a1 1) 1431655765)) 858993459) + (jx_iand (jx_iushr (a1 - (jx_iand (jx_iushr a1 1) 1431655765)) 2) 858993459))) ∧
  ((jx_in (((jx_iand (a1 - (jx_iand (jx_iushr a1 1) 1431655765)) 858993459) + (jx_iand (jx_iushr (a1 - (jx_iand (jx_iushr a1 1) 1431655765)) 2) 858993459)) + (jx_iushr ((jx_iand (a1 - (jx_iand (jx_iushr a1 1) 1431655765)) 858993459) + (jx_iand (jx_iushr (a1 - (jx_iand (jx_iushr a1 1) 1431655765)) 2) 858993459)) 4))) ∧
  ((jx_in ((jx_iand (((jx_iand (a1 - (jx_iand (jx_iushr a1 1) 1431655765)) 858993459) + (jx_iand (jx_iushr (a1 - (jx_iand (jx_iushr a1 1) 1431655765)) 2) 858993459)) + (jx_iushr ((jx_iand (a1 - (jx_iand (jx_iushr a1 1) 1431655765)) 858993459) + (jx_iand (jx_iushr (a1 - (jx_iand (jx_iushr a1 1) 1431655765)) 2) 858993459)) 4)) 252645135) + (jx_iushr (jx_iand (((jx_iand (a1 - (jx_iand (jx_iushr a1 1) 1431655765)) 858993459) + (jx_iand (jx_iushr (a1 - (jx_iand (jx_iushr a1 1) 1431655765)) 2) 858993459)) + (jx_iushr ((jx_iand (a1 - (jx_iand (jx_iushr a1 1) 1431655765)) 858993459) + (jx_iand (jx_iushr (a1 - (jx_iand (jx_iushr a1 1) 1431655765)) 2) 858993459)) 4)) 252645135) 8))) ∧
  ((jx_in (((jx_iand (((jx_iand (a1 - (jx_iand (jx_iushr a1 1) 1431655765)) 858993459) + (jx_iand (jx_iushr (a1 - (jx_iand (jx_iushr a1 1) 1431655765)) 2) 858993459)) + (jx_iushr ((jx_iand (a1 - (jx_iand (jx_iushr a1 1) 1431655765)) 858993459) + (jx_iand (jx_iushr (a1 - (jx_iand (jx_iushr a1 1) 1431655765)) 2) 858993459)) 4)) 252645135) + (jx_iushr (jx_iand (((jx_iand (a1 - (jx_iand (jx_iushr a1 1) 1431655765)) 858993459) + (jx_iand (jx_iushr (a1 - (jx_iand (jx_iushr a1 1) 1431655765)) 2) 858993459)) + (jx_iushr ((jx_iand (a1 - (jx_iand (jx_iushr a1 1) 1431655765)) 858993459) + (jx_iand (jx_iushr (a1 - (jx_iand (jx_iushr a1 1) 1431655765)) 2) 858993459)) 4)) 252645135) 8)) + (jx_iushr ((jx_iand (((jx_iand (a1 - (jx_iand (jx_iushr a1 1) 1431655765)) 858993459) + (jx_iand (jx_iushr (a1 - (jx_iand (jx_iushr a1 1) 1431655765)) 2) 858993459)) + (jx_iushr ((jx_iand (a1 - (jx_iand (jx_iushr a1 1) 1431655765)) 858993459) + (jx_iand (jx_iushr (a1 - (jx_iand (jx_iushr a1 1) 1431655765)) 2) 858993459)) 4)) 252645135) + (jx_iushr (jx_iand (((jx_iand (a1 - (jx_iand (jx_iushr a1 1) 1431655765)) 858993459) + (jx_iand (jx_iushr (a1 - (jx_iand (jx_iushr a1 1) 1431655765)) 2) 858993459)) + (jx_iushr ((jx_iand (a1 - (jx_iand (jx_iushr a1 1) 1431655765)) 858993459) + (jx_iand (jx_iushr (a1 - (jx_iand (jx_iushr a1 1) 1431655765)) 2) 858993459)) 4)) 252645135) 8)) 16))) ∧
  Q (jx_iand (((jx_iand (((jx_iand (a1 - (jx_iand (jx_iushr a1 1) 1431655765)) 858993459) + (jx_iand (jx_iushr (a1 - (jx_iand (jx_iushr a1 1) 1431655765)) 2) 858993459)) + (jx_iushr ((jx_iand (a1 - (jx_iand (jx_iushr a1 1) 1431655765)) 858993459) + (jx_iand (jx_iushr (a1 - (jx_iand (jx_iushr a1 1) 1431655765)) 2) 858993459)) 4)) 252645135) + (jx_iushr (jx_iand (((jx_iand (a1 - (jx_iand (jx_iushr a1 1) 1431655765)) 858993459) + (jx_iand (jx_iushr (a1 - (jx_iand (jx_iushr a1 1) 1431655765)) 2) 858993459)) + (jx_iushr ((jx_iand (a1 - (jx_iand (jx_iushr a1 1) 1431655765)) 858993459) + (jx_iand (jx_iushr (a1 - (jx_iand (jx_iushr a1 1) 1431655765)) 2) 858993459)) 4)) 252645135) 8)) + (jx_iushr ((jx_iand (((jx_iand (a1 - (jx_iand (jx_iushr a1 1) 1431655765)) 858993459) + (jx_iand (jx_iushr (a1 - (jx_iand (jx_iushr a1 1) 1431655765)) 2) 858993459)) + (jx_iushr ((jx_iand (a1 - (jx_iand (jx_iushr a1 1) 1431655765)) 858993459) + (jx_iand (jx_iushr (a1 - (jx_iand (jx_iushr a1 1) 1431655765)) 2) 858993459)) 4)) 252645135) + (jx_iushr (jx_iand (((jx_iand (a1 - (jx_iand (jx_iushr a1 1) 1431655765)) 858993459) + (jx_iand (jx_iushr (a1 - (jx_iand (jx_iushr a1 1) 1431655765)) 2) 858993459)) + (jx_iushr ((jx_iand (a1 - (jx_iand (jx_iushr a1 1) 1431655765)) 858993459) + (jx_iand (jx_iushr (a1 - (jx_iand (jx_iushr a1 1) 1431655765)) 2) 858993459)) 4)) 252645135) 8)) 16)) 63) m)))))) :
    jx_Cl 59 [xI a1] m Q :=
  jx_segOk (x := 59) (cd := jx_c59) rfl (stops := []) 43 hv
set_option maxRecDepth 100000 in
theorem sg_60 (a1 : Int) (a2 : Int) (a3 : Int) (a4 : Int) (m : jx_M) (Q : Int → jx_M → Prop) (hv :
    jx_Cl 11 [xI a1] m (fun z1 m1 =>
      ((z1 = 0 →
        Q (-1) m1) ∧
        (¬ (z1 = 0) →
        jx_Cl 14 [xI a2] m1 (fun z2 m2 =>
          ((z2 = 0 →
            Q (-1) m2) ∧
            (¬ (z2 = 0) →
            jx_Cl 12 [xI a3, xI 0, xI 5] m2 (fun z3 m3 =>
              ((z3 = 0 →
                Q (-1) m3) ∧
                (¬ (z3 = 0) →
                jx_Cl 12 [xI a4, xI 0, xI 20] m3 (fun z4 m4 =>
                  ((z4 = 0 →
                    Q (-1) m4) ∧
                    (¬ (z4 = 0) →
                    ((0 < 1) ∧
  ((0 < 3) ∧
  (((m4 1 0 5) < 12 →
                      ((0 < 1) ∧
  ((0 < 3) ∧
  ((0 < 1) ∧
  ((0 < 3) ∧
  ((0 ≤ (m4 1 0 5) ∧ (m4 1 0 5) < 12) ∧
  ((0 < 3) ∧
  (((12 * 0 + (m4 1 0 5).toNat) < 36) ∧
  jx_Cl 61 [xA 9 (12 * 0 + (m4 1 0 5).toNat), xI a1, xI a2, xI a3, xI a4] m4 (fun _ m5 =>
                        ((0 < 1) ∧
  ((jx_in ((m4 1 0 5) + 1)) ∧
  ((0 < 3) ∧
  Q (m4 1 0 5) (jx_up m5 1 0 5 ((m4 1 0 5) + 1)))))))))))))) ∧
                      (¬ ((m4 1 0 5) < 12) →
                      Q (-3) m4))))))))))))))))) :
    jx_Cl 60 [xA 0 0, xI a1, xI a2, xI a3, xI a4] m Q :=
  jx_segOk (x := 60) (cd := jx_c60) rfl (stops := []) 44 hv
set_option maxRecDepth 100000 in
theorem sg_61 (t0 : Nat) (a1 : Int) (a2 : Int) (a3 : Int) (a4 : Int) (m : jx_M) (Q : Int → jx_M → Prop) (hv :
    ((t0 < 36) ∧
  ((t0 < 36) ∧
  ((t0 < 36) ∧
  ((t0 < 36) ∧
  Q 0 (jx_up (jx_up (jx_up (jx_up m 9 t0 0 a1) 9 t0 1 a2) 9 t0 2 a3) 9 t0 3 a4)))))) :
    jx_Cl 61 [xA 9 t0, xI a1, xI a2, xI a3, xI a4] m Q :=
  jx_segOk (x := 61) (cd := jx_c61) rfl (stops := []) 14 hv
set_option maxRecDepth 100000 in
theorem sg_62 (a1 : Int) (a2 : Int) (m : jx_M) (Q : Int → jx_M → Prop) (hv :
    ((0 < 1) ∧
  ((0 < 3) ∧
  ((jx_in ((m 1 0 5) - 1)) ∧
  jx_Cl 12 [xI a1, xI 0, xI ((m 1 0 5) - 1)] m (fun z1 m1 =>
      ((z1 = 0 →
        Q (-1) m1) ∧
        (¬ (z1 = 0) →
        jx_Cl 12 [xI a2, xI 0, xI 2] m1 (fun z2 m2 =>
          ((z2 = 0 →
            Q (-1) m2) ∧
            (¬ (z2 = 0) →
            ((0 < 1) ∧
  ((0 < 1) ∧
  ((0 < 2) ∧
  jx_Cl 63 [xA 14 0, xA 1 0] m2 (fun _ m3 =>
              ((a2 = 2 →
                ((0 < 1) ∧
  ((0 < 2) ∧
  ((1 = 1 ∧ 0 ≤ a1 ∧ a1 < 12) ∧
  ((0 < 2) ∧
  Q (m3 17 0 (a1.toNat)) m3))))) ∧
                (¬ (a2 = 2) →
                ((a2 = 0 →
                  ((0 < 1) ∧
  ((0 < 2) ∧
  ((1 = 1 ∧ 0 ≤ a1 ∧ a1 < 12) ∧
  ((0 < 2) ∧
  Q (m3 15 0 (a1.toNat)) m3))))) ∧
                  (¬ (a2 = 0) →
                  ((0 < 1) ∧
  ((0 < 2) ∧
  ((1 = 1 ∧ 0 ≤ a1 ∧ a1 < 12) ∧
  ((0 < 2) ∧
  Q (m3 16 0 (a1.toNat)) m3)))))))))))))))))))))) :
    jx_Cl 62 [xA 0 0, xI a1, xI a2] m Q :=
  jx_segOk (x := 62) (cd := jx_c62) rfl (stops := []) 32 hv
set_option maxRecDepth 100000 in
theorem sg_63 (t0 : Nat) (t1 : Nat) (m : jx_M) (Q : Int → jx_M → Prop) (hv :
    ((t0 < 2) ∧
  jx_Cl 64 [xA 14 t0, xA 1 t1] m (fun _ m1 =>
      ((t0 < 2) ∧
  jx_Cl 65 [xA 14 t0, xA 1 t1] m1 (fun _ m2 =>
        ((t1 < 3) ∧
  ((t0 < 2) ∧
  jx_AW 63 12 [some (xA 14 t0), some (xA 1 t1), some (xI 0)] [] (jx_up m2 14 t0 4 (m2 1 t1 5)) Q))))))) :
    jx_Cl 63 [xA 14 t0, xA 1 t1] m Q :=
  jx_segOk (x := 63) (cd := jx_c63) rfl (stops := [12]) 13 hv
set_option maxRecDepth 100000 in
theorem sg_64 (t0 : Nat) (t1 : Nat) (m : jx_M) (Q : Int → jx_M → Prop) (hv :
    ((t0 < 2) ∧
  jx_Cl 2 [xA 18 t0, xI 0] m (fun _ m1 =>
      ((t0 < 2) ∧
  jx_AW 64 9 [some (xA 14 t0), some (xA 1 t1), some (xI 0), none, none, none] [] (jx_up m1 14 t0 3 0) Q)))) :
    jx_Cl 64 [xA 14 t0, xA 1 t1] m Q :=
  jx_segOk (x := 64) (cd := jx_c64) rfl (stops := [9, 20]) 10 hv
set_option maxRecDepth 100000 in
theorem sg_65 (t0 : Nat) (t1 : Nat) (m : jx_M) (Q : Int → jx_M → Prop) (hv :
    ((t0 < 2) ∧
  jx_Cl 2 [xA 19 t0, xI 0] m (fun _ m1 =>
      jx_AW 65 6 [some (xA 14 t0), some (xA 1 t1), some (xI 0), none, none] [] m1 Q))) :
    jx_Cl 65 [xA 14 t0, xA 1 t1] m Q :=
  jx_segOk (x := 65) (cd := jx_c65) rfl (stops := [6, 17]) 7 hv
set_option maxRecDepth 100000 in
theorem sg_66 (t0 : Nat) (t1 : Nat) (t2 : Nat) (a3 : Int) (m : jx_M) (Q : Int → jx_M → Prop) (hv :
    ((t0 < 2) ∧
  ((1 = 1 ∧ 0 ≤ a3 ∧ a3 < 12) ∧
  ((t0 < 2) ∧
  ((t0 < 2) ∧
  ((1 = 1 ∧ 0 ≤ a3 ∧ a3 < 12) ∧
  ((t0 < 2) ∧
  ((t0 < 2) ∧
  ((1 = 1 ∧ 0 ≤ a3 ∧ a3 < 12) ∧
  ((t0 < 2) ∧
  ((t2 < 36) ∧
  jx_Cl 14 [xI ((jx_up (jx_up (jx_up m 15 t0 (a3.toNat) (-4)) 16 t0 (a3.toNat) (-4)) 17 t0 (a3.toNat) 0) 9 t2 1)] (jx_up (jx_up (jx_up m 15 t0 (a3.toNat) (-4)) 16 t0 (a3.toNat) (-4)) 17 t0 (a3.toNat) 0) (fun z1 m1 =>
      ((z1 = 0 →
        jx_AW 66 31 [some (xA 14 t0), some (xA 1 t1), some (xA 9 t2), some (xI a3), some (xI 0), some (xI (-1)), some (xI 0), none] [] m1 Q) ∧
        (¬ (z1 = 0) →
        ((t0 < 2) ∧
  ((t2 < 36) ∧
  ((1 = 1 ∧ 0 ≤ (m1 9 t2 1) ∧ (m1 9 t2 1) < 4) ∧
  ((t0 < 2) ∧
  jx_AW 66 31 [some (xA 14 t0), some (xA 1 t1), some (xA 9 t2), some (xI a3), some (xI (m1 19 t0 ((m1 9 t2 1).toNat))), some (xI (-1)), some (xI 0), none] [] m1 Q)))))))))))))))))) :
    jx_Cl 66 [xA 14 t0, xA 1 t1, xA 9 t2, xI a3] m Q :=
  jx_segOk (x := 66) (cd := jx_c66) rfl (stops := [31]) 31 hv
set_option maxRecDepth 100000 in
theorem sg_67 (t1 : Nat) (a2 : Int) (a3 : Int) (a4 : Int) (m : jx_M) (Q : Int → jx_M → Prop) (hv :
    ((a2 = 0 →
      (((0 : Int) = 0 ∨ (0 : Int) = 1) ∧
  Q 0 m)) ∧
      (¬ (a2 = 0) →
      jx_AW 67 6 [some (xA 1 t1), some (xI a2), some (xI a3), some (xI a4), some (xI 0)] [] m Q))) :
    jx_Cl 67 [xA 1 t1, xI a2, xI a3, xI a4] m Q :=
  jx_segOk (x := 67) (cd := jx_c67) rfl (stops := [6]) 5 hv
set_option maxRecDepth 100000 in
theorem sg_68 (t0 : Nat) (a1 : Int) (a2 : Int) (a3 : Int) (m : jx_M) (Q : Int → jx_M → Prop) (hv :
    jx_AW 68 2 [some (xA 1 t0), some (xI a1), some (xI a2), some (xI a3), some (xI 0)] [] m Q) :
    jx_Cl 68 [xA 1 t0, xI a1, xI a2, xI a3] m Q :=
  jx_segOk (x := 68) (cd := jx_c68) rfl (stops := [2]) 3 hv
set_option maxRecDepth 100000 in
theorem sg_69 (a1 : Int) (m : jx_M) (Q : Int → jx_M → Prop) (hv :
    ((0 < 1) ∧
  ((0 < 3) ∧
  jx_Cl 19 [xA 1 0, xI a1] m (fun z1 m1 =>
      ((z1 = 0 →
        Q (-1) m1) ∧
        (¬ (z1 = 0) →
        ((0 < 1) ∧
  ((0 < 1) ∧
  ((0 < 2) ∧
  jx_Cl 63 [xA 14 0, xA 1 0] m1 (fun _ m2 =>
          ((0 < 1) ∧
  ((0 < 2) ∧
  jx_Cl 70 [xA 14 0, xI a1] m2 (fun z3 m3 =>
            Q z3 m3))))))))))))) :
    jx_Cl 69 [xA 0 0, xI a1] m Q :=
  jx_segOk (x := 69) (cd := jx_c69) rfl (stops := []) 16 hv
set_option maxRecDepth 100000 in
theorem sg_70 (t0 : Nat) (a1 : Int) (m : jx_M) (Q : Int → jx_M → Prop) (hv :
    jx_AW 70 4 [some (xA 14 t0), some (xI a1), some (xI 0), some (xI 0)] [] m Q) :
    jx_Cl 70 [xA 14 t0, xI a1] m Q :=
  jx_segOk (x := 70) (cd := jx_c70) rfl (stops := [4]) 5 hv
set_option maxRecDepth 100000 in
theorem sg_71 (a1 : Int) (m : jx_M) (Q : Int → jx_M → Prop) (hv :
    jx_Cl 12 [xI a1, xI 0, xI 2] m (fun z1 m1 =>
      ((z1 = 0 →
        Q (-1) m1) ∧
        (¬ (z1 = 0) →
        ((0 < 1) ∧
  ((0 < 1) ∧
  ((0 < 2) ∧
  jx_Cl 63 [xA 14 0, xA 1 0] m1 (fun _ m2 =>
          ((a1 = 2 →
            ((0 < 1) ∧
  ((0 < 2) ∧
  Q (m2 14 0 3) m2))) ∧
            (¬ (a1 = 2) →
            ((a1 = 0 →
              ((0 < 1) ∧
  ((0 < 2) ∧
  jx_Cl 72 [xA 14 0] m2 (fun z3 m3 =>
                Q z3 m3)))) ∧
              (¬ (a1 = 0) →
              ((0 < 1) ∧
  ((0 < 2) ∧
  jx_Cl 73 [xA 14 0] m2 (fun z4 m4 =>
                Q z4 m4))))))))))))))) :
    jx_Cl 71 [xA 0 0, xI a1] m Q :=
  jx_segOk (x := 71) (cd := jx_c71) rfl (stops := []) 21 hv
set_option maxRecDepth 100000 in
theorem sg_72 (t0 : Nat) (m : jx_M) (Q : Int → jx_M → Prop) (hv :
    jx_AW 72 4 [some (xA 14 t0), some (xI 0), some (xI 0)] [] m Q) :
    jx_Cl 72 [xA 14 t0] m Q :=
  jx_segOk (x := 72) (cd := jx_c72) rfl (stops := [4]) 5 hv
set_option maxRecDepth 100000 in
theorem sg_73 (t0 : Nat) (m : jx_M) (Q : Int → jx_M → Prop) (hv :
    jx_AW 73 4 [some (xA 14 t0), some (xI 0), some (xI 0)] [] m Q) :
    jx_Cl 73 [xA 14 t0] m Q :=
  jx_segOk (x := 73) (cd := jx_c73) rfl (stops := [4]) 5 hv
set_option maxRecDepth 100000 in
theorem sg_74 (a1 : Int) (a2 : Int) (m : jx_M) (Q : Int → jx_M → Prop) (hv :
    ((0 < 1) ∧
  ((0 < 3) ∧
  jx_Cl 19 [xA 1 0, xI a1] m (fun z1 m1 =>
      ((z1 = 0 →
        Q (-1) m1) ∧
        (¬ (z1 = 0) →
        jx_Cl 12 [xI a2, xI 0, xI 2] m1 (fun z2 m2 =>
          ((z2 = 0 →
            Q (-1) m2) ∧
            (¬ (z2 = 0) →
            ((0 < 1) ∧
  ((0 < 1) ∧
  ((0 < 1) ∧
  jx_Cl 75 [xA 11 0, xA 1 0, xI a1, xI a2] m2 (fun z3 m3 =>
              Q z3 m3))))))))))))) :
    jx_Cl 74 [xA 0 0, xI a1, xI a2] m Q :=
  jx_segOk (x := 74) (cd := jx_c74) rfl (stops := []) 19 hv
set_option maxRecDepth 100000 in
theorem sg_75 (t1 : Nat) (a2 : Int) (a3 : Int) (m : jx_M) (Q : Int → jx_M → Prop) (hv :
    ((0 < 1) ∧
  ((2 < 3) ∧
  jx_Cl 76 [xA 1 2, xA 1 t1] m (fun _ m1 =>
      ((0 < 1) ∧
  ((2 < 3) ∧
  ((0 ≤ a2 ∧ a2 < 6) ∧
  ((2 < 3) ∧
  jx_AW 75 18 [some (xA 11 0), some (xA 1 t1), some (xI a2), some (xI a3), some (xA 6 (6 * 2 + a2.toNat)), some (xI 0), some (xI 0), some (xI (-1)), some (xI 0), none, none] [] m1 Q)))))))) :
    jx_Cl 75 [xA 11 0, xA 1 t1, xI a2, xI a3] m Q :=
  jx_segOk (x := 75) (cd := jx_c75) rfl (stops := [18, 26]) 19 hv
set_option maxRecDepth 100000 in
theorem sg_76 (t0 : Nat) (t1 : Nat) (m : jx_M) (Q : Int → jx_M → Prop) (hv :
    ((t1 < 3) ∧
  ((t0 < 3) ∧
  (((1 = 1 ∧ 1 = 1) ∧ (0 ≤ (0 : Int) ∧ 0 ≤ (0 : Int) ∧ 0 ≤ (25 : Int)) ∧ (0 : Int) + 25 ≤ 25 ∧ (0 : Int) + 25 ≤ 25) ∧
  ((t1 < 3) ∧
  ((t0 < 3) ∧
  ((t1 < 3) ∧
  ((t0 < 3) ∧
  jx_AW 76 14 [some (xA 1 t0), some (xA 1 t1), some (xI 0), none] [] (jx_up (jx_cpy m 2 t1 ((0 : Int).toNat) 2 t0 ((0 : Int).toNat) ((25 : Int).toNat)) 1 t0 4 ((jx_cpy m 2 t1 ((0 : Int).toNat) 2 t0 ((0 : Int).toNat) ((25 : Int).toNat)) 1 t1 4)) Q)))))))) :
    jx_Cl 76 [xA 1 t0, xA 1 t1] m Q :=
  jx_segOk (x := 76) (cd := jx_c76) rfl (stops := [14, 35, 65]) 15 hv
set_option maxRecDepth 100000 in
theorem sg_77 (t0 : Nat) (t1 : Nat) (m : jx_M) (Q : Int → jx_M → Prop) (hv :
    ((t1 < 18) ∧
  ((t1 < 18) ∧
  ((t0 < 18) ∧
  jx_Cl 38 [xA 6 t0, xA 7 t1, xI (m 6 t1 2)] m (fun _ m1 =>
      ((t1 < 18) ∧
  ((t1 < 18) ∧
  ((t0 < 18) ∧
  jx_Cl 40 [xA 6 t0, xA 8 t1, xI (m1 6 t1 3)] m1 (fun _ m2 =>
        ((t1 < 18) ∧
  ((t0 < 18) ∧
  ((t1 < 18) ∧
  ((t0 < 18) ∧
  ((t1 < 18) ∧
  ((t0 < 18) ∧
  ((t1 < 18) ∧
  ((t0 < 18) ∧
  Q 0 (jx_up (jx_up (jx_up (jx_up m2 6 t0 4 (m2 6 t1 4)) 6 t0 5 ((jx_up m2 6 t0 4 (m2 6 t1 4)) 6 t1 5)) 6 t0 6 ((jx_up (jx_up m2 6 t0 4 (m2 6 t1 4)) 6 t0 5 ((jx_up m2 6 t0 4 (m2 6 t1 4)) 6 t1 5)) 6 t1 6)) 6 t0 7 ((jx_up (jx_up (jx_up m2 6 t0 4 (m2 6 t1 4)) 6 t0 5 ((jx_up m2 6 t0 4 (m2 6 t1 4)) 6 t1 5)) 6 t0 6 ((jx_up (jx_up m2 6 t0 4 (m2 6 t1 4)) 6 t0 5 ((jx_up m2 6 t0 4 (m2 6 t1 4)) 6 t1 5)) 6 t1 6)) 6 t1 7))))))))))))))))))) :
    jx_Cl 77 [xA 6 t0, xA 6 t1] m Q :=
  jx_segOk (x := 77) (cd := jx_c77) rfl (stops := []) 30 hv
set_option maxRecDepth 100000 in
theorem sg_78 (t0 : Nat) (a1 : Int) (a2 : Int) (a3 : Int) (m : jx_M) (Q : Int → jx_M → Prop) (hv :
    ((t0 < 36) ∧
  ((t0 < 36) ∧
  ((t0 < 36) ∧
  ((a3 = 0 ∨ a3 = 1) ∧
  Q 0 (jx_up (jx_up (jx_up m 10 t0 0 a1) 10 t0 1 a2) 10 t0 2 a3)))))) :
    jx_Cl 78 [xA 10 t0, xI a1, xI a2, xI a3] m Q :=
  jx_segOk (x := 78) (cd := jx_c78) rfl (stops := []) 11 hv
set_option maxRecDepth 100000 in
theorem sg_79 (t0 : Nat) (m : jx_M) (Q : Int → jx_M → Prop) (hv :
    ((t0 < 18) ∧
  ((jx_in ((m 6 t0 2) - 1)) ∧
  jx_AW 79 7 [some (xA 6 t0), some (xI 0), some (xI ((m 6 t0 2) - 1)), none] [] m Q))) :
    jx_Cl 79 [xA 6 t0] m Q :=
  jx_segOk (x := 79) (cd := jx_c79) rfl (stops := [7]) 8 hv
set_option maxRecDepth 100000 in
theorem sg_80 (a1 : Int) (a2 : Int) (a3 : Int) (m : jx_M) (Q : Int → jx_M → Prop) (hv :
    ((0 < 1) ∧
  ((0 < 3) ∧
  jx_Cl 19 [xA 1 0, xI a1] m (fun z1 m1 =>
      ((z1 = 0 →
        Q (-1) m1) ∧
        (¬ (z1 = 0) →
        ((0 < 1) ∧
  ((0 < 3) ∧
  jx_Cl 19 [xA 1 0, xI a2] m1 (fun z2 m2 =>
          ((z2 = 0 →
            Q (-1) m2) ∧
            (¬ (z2 = 0) →
            ((a1 = a2 →
              Q (-1) m2) ∧
              (¬ (a1 = a2) →
              jx_Cl 12 [xI a3, xI 0, xI 2] m2 (fun z3 m3 =>
                ((z3 = 0 →
                  Q (-1) m3) ∧
                  (¬ (z3 = 0) →
                  ((0 < 1) ∧
  ((0 < 1) ∧
  ((0 < 1) ∧
  jx_Cl 81 [xA 11 0, xA 1 0, xI a1, xI a2] m3 (fun _ m4 =>
                    ((0 < 1) ∧
  ((0 < 1) ∧
  jx_Cl 82 [xA 11 0, xI a3] m4 (fun z5 m5 =>
                      Q z5 m5))))))))))))))))))))))) :
    jx_Cl 80 [xA 0 0, xI a1, xI a2, xI a3] m Q :=
  jx_segOk (x := 80) (cd := jx_c80) rfl (stops := []) 31 hv
set_option maxRecDepth 100000 in
theorem sg_81 (t1 : Nat) (a2 : Int) (a3 : Int) (m : jx_M) (Q : Int → jx_M → Prop) (hv :
    ((0 < 1) ∧
  ((2 < 3) ∧
  jx_Cl 76 [xA 1 2, xA 1 t1] m (fun _ m1 =>
      jx_AW 81 6 [some (xA 11 0), some (xA 1 t1), some (xI a2), some (xI a3), some (xI 0)] [] m1 Q)))) :
    jx_Cl 81 [xA 11 0, xA 1 t1, xI a2, xI a3] m Q :=
  jx_segOk (x := 81) (cd := jx_c81) rfl (stops := [6]) 7 hv
set_option maxRecDepth 100000 in
theorem sg_82 (a1 : Int) (m : jx_M) (Q : Int → jx_M → Prop) (hv :
    jx_AW 82 6 [some (xA 11 0), some (xI a1), some (xI 0), some (xI (-4)), some (xI 0)] [] m Q) :
    jx_Cl 82 [xA 11 0, xI a1] m Q :=
  jx_segOk (x := 82) (cd := jx_c82) rfl (stops := [6]) 7 hv
set_option maxRecDepth 100000 in
theorem sg_83 (a1 : Int) (m : jx_M) (Q : Int → jx_M → Prop) (hv :
    ((0 ≤ a1 ∧ 0 < (6 : Int)) ∧
  ((0 ≤ a1 ∧ 0 < (6 : Int)) ∧
  jx_AW 83 10 [some (xA 11 0), some (xI a1), some (xI (a1 / 6)), some (xI (a1 % 6)), some (xI 0)] [] m Q))) :
    jx_Cl 83 [xA 11 0, xI a1] m Q :=
  jx_segOk (x := 83) (cd := jx_c83) rfl (stops := [10]) 11 hv
set_option maxRecDepth 100000 in
theorem sg_84 (a1 : Int) (a2 : Int) (a3 : Int) (a4 : Int) (m : jx_M) (Q : Int → jx_M → Prop) (hv :
    jx_Cl 12 [xI a1, xI 1, xI 3] m (fun z1 m1 =>
      ((z1 = 0 →
        Q (-1) m1) ∧
        (¬ (z1 = 0) →
        jx_Cl 15 [xI a2] m1 (fun z2 m2 =>
          ((z2 = 0 →
            Q (-1) m2) ∧
            (¬ (z2 = 0) →
            jx_Cl 12 [xI a3, xI 0, xI 12] m2 (fun z3 m3 =>
              ((z3 = 0 →
                Q (-1) m3) ∧
                (¬ (z3 = 0) →
                ((jx_in (a1 - 1)) ∧
  jx_Cl 12 [xI a4, xI (-1), xI (a1 - 1)] m3 (fun z4 m4 =>
                  ((z4 = 0 →
                    Q (-1) m4) ∧
                    (¬ (z4 = 0) →
                    jx_Cl 85 [xI a1] m4 (fun z5 m5 =>
                      jx_AW 84 31 [some (xA 0 0), some (xI a1), some (xI a2), some (xI a3), some (xI a4), some (xI z5), some (xI (-1)), some (xI 0), some (xI 0), none] [] m5 Q))))))))))))))) :
    jx_Cl 84 [xA 0 0, xI a1, xI a2, xI a3, xI a4] m Q :=
  jx_segOk (x := 84) (cd := jx_c84) rfl (stops := [31]) 30 hv
set_option maxRecDepth 100000 in
theorem sg_85 (a1 : Int) (m : jx_M) (Q : Int → jx_M → Prop) (hv :
    jx_AW 85 4 [some (xI a1), some (xI 1), some (xI 0)] [] m Q) :
    jx_Cl 85 [xI a1] m Q :=
  jx_segOk (x := 85) (cd := jx_c85) rfl (stops := [4]) 5 hv
set_option maxRecDepth 100000 in
theorem sg_86 (a1 : Int) (a2 : Int) (m : jx_M) (Q : Int → jx_M → Prop) (hv :
    ((jx_in (a2 - 1)) ∧
  jx_AW 86 6 [some (xA 0 0), some (xI a1), some (xI a2), some (xI a1), some (xI (a2 - 1))] [] m Q)) :
    jx_Cl 86 [xA 0 0, xI a1, xI a2] m Q :=
  jx_segOk (x := 86) (cd := jx_c86) rfl (stops := [6]) 7 hv
set_option maxRecDepth 100000 in
theorem sg_89 (a1 : Int) (m : jx_M) (Q : Int → jx_M → Prop) (hv :
    jx_Cl 11 [xI a1] m (fun z1 m1 =>
      ((z1 = 0 →
        Q (-1) m1) ∧
        (¬ (z1 = 0) →
        ((0 < 1) ∧
  ((0 < 3) ∧
  jx_Cl 90 [xA 1 0, xI a1] m1 (fun z2 m2 =>
          Q z2 m2))))))) :
    jx_Cl 89 [xA 0 0, xI a1] m Q :=
  jx_segOk (x := 89) (cd := jx_c89) rfl (stops := []) 10 hv
set_option maxRecDepth 100000 in
theorem sg_90 (t0 : Nat) (a1 : Int) (m : jx_M) (Q : Int → jx_M → Prop) (hv :
    jx_AW 90 4 [some (xA 1 t0), some (xI a1), some (xI 0), some (xI 0)] [] m Q) :
    jx_Cl 90 [xA 1 t0, xI a1] m Q :=
  jx_segOk (x := 90) (cd := jx_c90) rfl (stops := [4]) 5 hv
set_option maxRecDepth 100000 in
theorem sg_91 (t0 : Nat) (a1 : Int) (a2 : Int) (m : jx_M) (Q : Int → jx_M → Prop) (hv :
    jx_AW 91 4 [some (xA 1 t0), some (xI a1), some (xI a2), some (xI 0), some (xI 0)] [] m Q) :
    jx_Cl 91 [xA 1 t0, xI a1, xI a2] m Q :=
  jx_segOk (x := 91) (cd := jx_c91) rfl (stops := [4]) 5 hv
set_option maxRecDepth 100000 in
theorem sg_92 (a1 : Int) (a2 : Int) (m : jx_M) (Q : Int → jx_M → Prop) (hv :
    jx_Cl 11 [xI a1] m (fun z1 m1 =>
      ((z1 = 0 →
        Q (-1) m1) ∧
        (¬ (z1 = 0) →
        jx_Cl 12 [xI a2, xI 0, xI 999] m1 (fun z2 m2 =>
          ((z2 = 0 →
            Q (-1) m2) ∧
            (¬ (z2 = 0) →
            ((0 < 1) ∧
  ((0 < 1) ∧
  ((0 < 1) ∧
  jx_Cl 93 [xA 11 0, xA 1 0, xI a1, xI a2] m2 (fun z3 m3 =>
              Q z3 m3))))))))))) :
    jx_Cl 92 [xA 0 0, xI a1, xI a2] m Q :=
  jx_segOk (x := 92) (cd := jx_c92) rfl (stops := []) 17 hv
set_option maxRecDepth 100000 in
theorem sg_93 (t1 : Nat) (a2 : Int) (a3 : Int) (m : jx_M) (Q : Int → jx_M → Prop) (hv :
    ((0 < 1) ∧
  ((2 < 3) ∧
  jx_Cl 76 [xA 1 2, xA 1 t1] m (fun _ m1 =>
      jx_AW 93 6 [some (xA 11 0), some (xA 1 t1), some (xI a2), some (xI a3), some (xI 0), none] [] m1 Q)))) :
    jx_Cl 93 [xA 11 0, xA 1 t1, xI a2, xI a3] m Q :=
  jx_segOk (x := 93) (cd := jx_c93) rfl (stops := [6, 11]) 7 hv
set_option maxRecDepth 100000 in
theorem sg_94 (a1 : Int) (a2 : Int) (m : jx_M) (Q : Int → jx_M → Prop) (hv :
    jx_Cl 57 [xI a1] m (fun z1 m1 =>
      ((z1 = 0 →
        Q (-100001) m1) ∧
        (¬ (z1 = 0) →
        ((0 < 1) ∧
  ((0 < 3) ∧
  jx_Cl 19 [xA 1 0, xI a2] m1 (fun z2 m2 =>
          ((z2 = 0 →
            Q (-100001) m2) ∧
            (¬ (z2 = 0) →
            ((0 < 1) ∧
  ((0 < 1) ∧
  ((0 < 1) ∧
  jx_Cl 95 [xA 11 0, xA 1 0, xI a1, xI a2] m2 (fun z3 m3 =>
              Q z3 m3))))))))))))) :
    jx_Cl 94 [xA 0 0, xI a1, xI a2] m Q :=
  jx_segOk (x := 94) (cd := jx_c94) rfl (stops := []) 17 hv
set_option maxRecDepth 100000 in
theorem sg_95 (t1 : Nat) (a2 : Int) (a3 : Int) (m : jx_M) (Q : Int → jx_M → Prop) (hv :
    ((0 < 1) ∧
  ((2 < 3) ∧
  jx_Cl 76 [xA 1 2, xA 1 t1] m (fun _ m1 =>
      ((0 < 1) ∧
  ((0 < 1) ∧
  ((1 < 2) ∧
  jx_Cl 63 [xA 14 1, xA 1 2] m1 (fun _ m2 =>
        ((0 < 1) ∧
  ((1 < 2) ∧
  jx_Cl 70 [xA 14 1, xI a3] m2 (fun z3 m3 =>
          ((0 < 1) ∧
  ((2 < 3) ∧
  ((2 < 3) ∧
  ((0 < 1) ∧
  ((0 < 1) ∧
  ((1 < 2) ∧
  jx_Cl 63 [xA 14 1, xA 1 2] (jx_up m3 1 2 8 (jx_ior (m3 1 2 8) (jx_ishl 1 a2))) (fun _ m4 =>
            ((0 < 1) ∧
  ((1 < 2) ∧
  jx_Cl 70 [xA 14 1, xI a3] m4 (fun z5 m5 =>
              ((jx_in (z3 - z5)) ∧
  Q (z3 - z5) m5)))))))))))))))))))))) :
    jx_Cl 95 [xA 11 0, xA 1 t1, xI a2, xI a3] m Q :=
  jx_segOk (x := 95) (cd := jx_c95) rfl (stops := []) 36 hv
set_option maxRecDepth 100000 in
theorem sg_96 (a1 : Int) (a2 : Int) (a3 : Int) (m : jx_M) (Q : Int → jx_M → Prop) (hv :
    jx_Cl 11 [xI a1] m (fun z1 m1 =>
      ((z1 = 0 →
        Q (-1) m1) ∧
        (¬ (z1 = 0) →
        jx_Cl 21 [xI a2] m1 (fun z2 m2 =>
          ((z2 = 0 →
            Q (-1) m2) ∧
            (¬ (z2 = 0) →
            ((0 < 1) ∧
  ((0 < 3) ∧
  (((m2 1 0 6) < 12 →
              ((0 < 1) ∧
  ((0 < 3) ∧
  ((0 < 1) ∧
  ((0 < 3) ∧
  ((0 ≤ (m2 1 0 6) ∧ (m2 1 0 6) < 12) ∧
  ((0 < 3) ∧
  (((12 * 0 + (m2 1 0 6).toNat) < 36) ∧
  jx_Cl 78 [xA 10 (12 * 0 + (m2 1 0 6).toNat), xI a1, xI a2, xI a3] m2 (fun _ m3 =>
                ((0 < 1) ∧
  ((0 < 3) ∧
  ((jx_in ((m3 1 0 6) + 1)) ∧
  ((0 < 3) ∧
  ((0 < 1) ∧
  ((0 < 3) ∧
  Q ((jx_up m3 1 0 6 ((m3 1 0 6) + 1)) 1 0 6) (jx_up m3 1 0 6 ((m3 1 0 6) + 1))))))))))))))))) ∧
              (¬ ((m2 1 0 6) < 12) →
              Q (-3) m2))))))))))) :
    jx_Cl 96 [xA 0 0, xI a1, xI a2, xI a3] m Q :=
  jx_segOk (x := 96) (cd := jx_c96) rfl (stops := []) 34 hv
set_option maxRecDepth 100000 in
theorem sg_97 (a1 : Int) (a2 : Int) (m : jx_M) (Q : Int → jx_M → Prop) (hv :
    ((0 < 1) ∧
  ((0 < 3) ∧
  jx_Cl 19 [xA 1 0, xI a1] m (fun z1 m1 =>
      ((z1 = 0 →
        Q (-1) m1) ∧
        (¬ (z1 = 0) →
        jx_Cl 12 [xI a2, xI 0, xI 2] m1 (fun z2 m2 =>
          ((z2 = 0 →
            Q (-1) m2) ∧
            (¬ (z2 = 0) →
            ((0 < 1) ∧
  ((0 < 1) ∧
  ((0 < 1) ∧
  jx_Cl 98 [xA 11 0, xA 1 0, xI a1, xI a2] m2 (fun z3 m3 =>
              Q z3 m3))))))))))))) :
    jx_Cl 97 [xA 0 0, xI a1, xI a2] m Q :=
  jx_segOk (x := 97) (cd := jx_c97) rfl (stops := []) 19 hv
set_option maxRecDepth 100000 in
theorem sg_98 (t1 : Nat) (a2 : Int) (a3 : Int) (m : jx_M) (Q : Int → jx_M → Prop) (hv :
    ((0 < 1) ∧
  ((2 < 3) ∧
  jx_Cl 76 [xA 1 2, xA 1 t1] m (fun _ m1 =>
      ((0 < 1) ∧
  ((2 < 3) ∧
  ((0 ≤ (0 : Int) ∧ (0 : Int) < 6) ∧
  ((2 < 3) ∧
  ((t1 < 3) ∧
  ((0 ≤ a2 ∧ a2 < 6) ∧
  ((t1 < 3) ∧
  (((6 * 2 + (0 : Int).toNat) < 18) ∧
  jx_Cl 77 [xA 6 (6 * 2 + (0 : Int).toNat), xA 6 (6 * t1 + a2.toNat)] m1 (fun _ m2 =>
        ((0 < 1) ∧
  ((2 < 3) ∧
  jx_AW 98 26 [some (xA 11 0), some (xA 1 t1), some (xI a2), some (xI a3), some (xI 0), some (xI (-4)), some (xI (-4)), some (xI 0)] [] (jx_up m2 1 2 4 1) Q))))))))))))))) :
    jx_Cl 98 [xA 11 0, xA 1 t1, xI a2, xI a3] m Q :=
  jx_segOk (x := 98) (cd := jx_c98) rfl (stops := [26]) 27 hv
set_option maxRecDepth 100000 in
theorem sg_99 (t0 : Nat) (a1 : Int) (m : jx_M) (Q : Int → jx_M → Prop) (hv :
    jx_AW 99 2 [some (xA 1 t0), some (xI a1), some (xI 0), none] [] m Q) :
    jx_Cl 99 [xA 1 t0, xI a1] m Q :=
  jx_segOk (x := 99) (cd := jx_c99) rfl (stops := [2]) 3 hv
set_option maxRecDepth 100000 in
theorem sg_100  (m : jx_M) (Q : Int → jx_M → Prop) (hv :
    ((0 < 1) ∧
  ((0 < 3) ∧
  ((0 < 1) ∧
  ((0 < 3) ∧
  Q (m 1 0 6) (jx_up m 1 0 6 0)))))) :
    jx_Cl 100 [xA 0 0] m Q :=
  jx_segOk (x := 100) (cd := jx_c100) rfl (stops := []) 11 hv
set_option maxRecDepth 100000 in
theorem sg_101 (a1 : Int) (a2 : Int) (m : jx_M) (Q : Int → jx_M → Prop) (hv :
    ((0 < 1) ∧
  ((0 < 3) ∧
  jx_Cl 19 [xA 1 0, xI a1] m (fun z1 m1 =>
      ((z1 = 0 →
        Q (-1) m1) ∧
        (¬ (z1 = 0) →
        jx_Cl 11 [xI a2] m1 (fun z2 m2 =>
          ((z2 = 0 →
            Q (-1) m2) ∧
            (¬ (z2 = 0) →
            ((0 < 1) ∧
  ((0 < 1) ∧
  ((0 < 1) ∧
  jx_Cl 102 [xA 11 0, xA 1 0, xI a1, xI a2] m2 (fun z3 m3 =>
              Q z3 m3))))))))))))) :
    jx_Cl 101 [xA 0 0, xI a1, xI a2] m Q :=
  jx_segOk (x := 101) (cd := jx_c101) rfl (stops := []) 17 hv
set_option maxRecDepth 100000 in
theorem sg_102 (t1 : Nat) (a2 : Int) (a3 : Int) (m : jx_M) (Q : Int → jx_M → Prop) (hv :
    ((0 < 1) ∧
  ((2 < 3) ∧
  jx_Cl 76 [xA 1 2, xA 1 t1] m (fun _ m1 =>
      jx_AW 102 6 [some (xA 11 0), some (xA 1 t1), some (xI a2), some (xI a3), some (xI 0)] [] m1 Q)))) :
    jx_Cl 102 [xA 11 0, xA 1 t1, xI a2, xI a3] m Q :=
  jx_segOk (x := 102) (cd := jx_c102) rfl (stops := [6]) 7 hv
set_option maxRecDepth 100000 in
theorem sg_103 (a1 : Int) (a2 : Int) (m : jx_M) (Q : Int → jx_M → Prop) (hv :
    ((0 < 1) ∧
  ((0 < 3) ∧
  jx_Cl 19 [xA 1 0, xI a1] m (fun z1 m1 =>
      ((z1 = 0 →
        Q (-1) m1) ∧
        (¬ (z1 = 0) →
        jx_Cl 11 [xI a2] m1 (fun z2 m2 =>
          ((z2 = 0 →
            Q (-1) m2) ∧
            (¬ (z2 = 0) →
            ((0 < 1) ∧
  ((0 < 3) ∧
  jx_Cl 91 [xA 1 0, xI a1, xI a2] m2 (fun z3 m3 =>
              Q z3 m3)))))))))))) :
    jx_Cl 103 [xA 0 0, xI a1, xI a2] m Q :=
  jx_segOk (x := 103) (cd := jx_c103) rfl (stops := []) 15 hv
set_option maxRecDepth 100000 in
theorem sg_104  (m : jx_M) (Q : Int → jx_M → Prop) (hv :
    ((0 < 1) ∧
  ((0 < 1) ∧
  ((1 < 3) ∧
  jx_Cl 76 [xA 1 1, xA 1 0] m (fun _ m1 =>
      ((0 < 1) ∧
  (((1 : Int) = 0 ∨ (1 : Int) = 1) ∧
  Q 1 (jx_up m1 0 0 7 1)))))))) :
    jx_Cl 104 [xA 0 0] m Q :=
  jx_segOk (x := 104) (cd := jx_c104) rfl (stops := []) 11 hv
set_option maxRecDepth 100000 in
theorem sg_105  (m : jx_M) (Q : Int → jx_M → Prop) (hv :
    ((0 < 1) ∧
  (((m 0 0 7) = 0 →
      Q (-4) m) ∧
      (¬ ((m 0 0 7) = 0) →
      ((0 < 1) ∧
  ((0 < 1) ∧
  ((0 < 3) ∧
  jx_Cl 76 [xA 1 0, xA 1 1] m (fun _ m1 =>
        Q 1 m1)))))))) :
    jx_Cl 105 [xA 0 0] m Q :=
  jx_segOk (x := 105) (cd := jx_c105) rfl (stops := []) 11 hv
set_option maxRecDepth 100000 in
theorem sg_106 (a1 : Int) (a2 : Int) (a3 : Int) (a4 : Int) (a5 : Int) (a6 : Int) (m : jx_M) (Q : Int → jx_M → Prop) (hv :
    jx_Cl 107 [xI a1] m (fun z1 m1 =>
      ((z1 = 0 →
        Q (-1) m1) ∧
        (¬ (z1 = 0) →
        jx_Cl 108 [xI a2] m1 (fun z2 m2 =>
          ((z2 = 0 →
            Q (-1) m2) ∧
            (¬ (z2 = 0) →
            jx_Cl 12 [xI a4, xI 1, xI 6] m2 (fun z3 m3 =>
              ((z3 = 0 →
                Q (-1) m3) ∧
                (¬ (z3 = 0) →
                jx_Cl 12 [xI a5, xI 1, xI 6] m3 (fun z4 m4 =>
                  ((z4 = 0 →
                    Q (-1) m4) ∧
                    (¬ (z4 = 0) →
                    ((jx_in (a5 - 1)) ∧
  jx_Cl 12 [xI a6, xI (-1), xI (a5 - 1)] m4 (fun z5 m5 =>
                      ((z5 = 0 →
                        Q (-1) m5) ∧
                        (¬ (z5 = 0) →
                        ((0 < 1) ∧
  ((0 ≤ a1 ∧ a1 < 4) ∧
  ((0 < 1) ∧
  ((jx_in (a4 * a5)) ∧
  ((a1.toNat < 4) ∧
  jx_Cl 109 [xA 23 a1.toNat, xI a2, xI a3, xI (a4 * a5)] m5 (fun z6 m6 =>
                          ((z6 = 0 →
                            ((a1.toNat < 4) ∧
  jx_Cl 111 [xA 23 a1.toNat, xI a3, xI a4, xI a5, xI 0] m6 (fun z7 m7 =>
                              ((z7 = 0 →
                                Q (-2) m7) ∧
                                (¬ (z7 = 0) →
                                jx_AW 106 53 [some (xA 0 0), some (xI a1), some (xI a2), some (xI a3), some (xI a4), some (xI a5), some (xI a6), some (xA 23 a1.toNat), some (xI z6), some (xI 0)] [] m7 Q))))) ∧
                            (¬ (z6 = 0) →
                            Q z6 m6))))))))))))))))))))))))) :
    jx_Cl 106 [xA 0 0, xI a1, xI a2, xI a3, xI a4, xI a5, xI a6] m Q :=
  jx_segOk (x := 106) (cd := jx_c106) rfl (stops := [53]) 48 hv
set_option maxRecDepth 100000 in
theorem sg_107 (a1 : Int) (m : jx_M) (Q : Int → jx_M → Prop) (hv :
    ((a1 < 0 →
      (((0 : Int) = 0 ∨ (0 : Int) = 1) ∧
  Q 0 m)) ∧
      (¬ (a1 < 0) →
      ((a1 < 4 →
        (((1 : Int) = 0 ∨ (1 : Int) = 1) ∧
  Q 1 m)) ∧
        (¬ (a1 < 4) →
        (((0 : Int) = 0 ∨ (0 : Int) = 1) ∧
  Q 0 m)))))) :
    jx_Cl 107 [xI a1] m Q :=
  jx_segOk (x := 107) (cd := jx_c107) rfl (stops := []) 9 hv
set_option maxRecDepth 100000 in
theorem sg_108 (a1 : Int) (m : jx_M) (Q : Int → jx_M → Prop) (hv :
    ((a1 < 0 →
      (((0 : Int) = 0 ∨ (0 : Int) = 1) ∧
  Q 0 m)) ∧
      (¬ (a1 < 0) →
      ((a1 < 3 →
        (((1 : Int) = 0 ∨ (1 : Int) = 1) ∧
  Q 1 m)) ∧
        (¬ (a1 < 3) →
        (((0 : Int) = 0 ∨ (0 : Int) = 1) ∧
  Q 0 m)))))) :
    jx_Cl 108 [xI a1] m Q :=
  jx_segOk (x := 108) (cd := jx_c108) rfl (stops := []) 9 hv
set_option maxRecDepth 100000 in
theorem sg_109 (t0 : Nat) (a1 : Int) (a2 : Int) (a3 : Int) (m : jx_M) (Q : Int → jx_M → Prop) (hv :
    ((t0 < 4) ∧
  (((m 23 t0 1) = 0 →
      Q (-11) m) ∧
      (¬ ((m 23 t0 1) = 0) →
      ((t0 < 4) ∧
  (((m 23 t0 2) = a1 →
        ((t0 < 4) ∧
  jx_Cl 110 [xA 23 t0, xI a2, xI a3] m (fun z1 m1 =>
          ((z1 = 0 →
            Q (-13) m1) ∧
            (¬ (z1 = 0) →
            Q 0 m1))))) ∧
        (¬ ((m 23 t0 2) = a1) →
        Q (-12) m))))))) :
    jx_Cl 109 [xA 23 t0, xI a1, xI a2, xI a3] m Q :=
  jx_segOk (x := 109) (cd := jx_c109) rfl (stops := []) 16 hv
set_option maxRecDepth 100000 in
theorem sg_110 (t0 : Nat) (a1 : Int) (a2 : Int) (m : jx_M) (Q : Int → jx_M → Prop) (hv :
    ((a1 < 0 →
      (((0 : Int) = 0 ∨ (0 : Int) = 1) ∧
  Q 0 m)) ∧
      (¬ (a1 < 0) →
      ((a2 < 0 →
        (((0 : Int) = 0 ∨ (0 : Int) = 1) ∧
  Q 0 m)) ∧
        (¬ (a2 < 0) →
        ((t0 < 4) ∧
  (((m 23 t0 3) < a1 →
          (((0 : Int) = 0 ∨ (0 : Int) = 1) ∧
  Q 0 m)) ∧
          (¬ ((m 23 t0 3) < a1) →
          ((t0 < 4) ∧
  ((jx_in ((m 23 t0 3) - a1)) ∧
  ((((m 23 t0 3) - a1) < a2 →
            (((0 : Int) = 0 ∨ (0 : Int) = 1) ∧
  Q 0 m)) ∧
            (¬ (((m 23 t0 3) - a1) < a2) →
            (((1 : Int) = 0 ∨ (1 : Int) = 1) ∧
  Q 1 m))))))))))))) :
    jx_Cl 110 [xA 23 t0, xI a1, xI a2] m Q :=
  jx_segOk (x := 110) (cd := jx_c110) rfl (stops := []) 18 hv
set_option maxRecDepth 100000 in
theorem sg_111 (t0 : Nat) (a1 : Int) (a2 : Int) (a3 : Int) (a4 : Int) (m : jx_M) (Q : Int → jx_M → Prop) (hv :
    jx_AW 111 2 [some (xA 23 t0), some (xI a1), some (xI a2), some (xI a3), some (xI a4), some (xI 0), none, none] [] m Q) :
    jx_Cl 111 [xA 23 t0, xI a1, xI a2, xI a3, xI a4] m Q :=
  jx_segOk (x := 111) (cd := jx_c111) rfl (stops := [2, 17]) 3 hv
set_option maxRecDepth 100000 in
theorem sg_112 (t0 : Nat) (a1 : Int) (a2 : Int) (a3 : Int) (m : jx_M) (Q : Int → jx_M → Prop) (hv :
    jx_AW 112 6 [some (xA 23 t0), some (xI a1), some (xI a2), some (xI a3), some (xI 0), some (xI 0), some (xI 0), none, none] [] m Q) :
    jx_Cl 112 [xA 23 t0, xI a1, xI a2, xI a3] m Q :=
  jx_segOk (x := 112) (cd := jx_c112) rfl (stops := [6, 13]) 7 hv
set_option maxRecDepth 100000 in
theorem sg_113 (a1 : Int) (a2 : Int) (a3 : Int) (a4 : Int) (a5 : Int) (a6 : Int) (m : jx_M) (Q : Int → jx_M → Prop) (hv :
    jx_Cl 107 [xI a1] m (fun z1 m1 =>
      ((z1 = 0 →
        Q (-1) m1) ∧
        (¬ (z1 = 0) →
        jx_Cl 108 [xI a2] m1 (fun z2 m2 =>
          ((z2 = 0 →
            Q (-1) m2) ∧
            (¬ (z2 = 0) →
            jx_Cl 12 [xI a4, xI 1, xI 5] m2 (fun z3 m3 =>
              ((z3 = 0 →
                Q (-1) m3) ∧
                (¬ (z3 = 0) →
                jx_Cl 12 [xI a5, xI 1, xI 6] m3 (fun z4 m4 =>
                  ((z4 = 0 →
                    Q (-1) m4) ∧
                    (¬ (z4 = 0) →
                    ((jx_in (a4 - 1)) ∧
  jx_Cl 12 [xI a6, xI 0, xI (a4 - 1)] m4 (fun z5 m5 =>
                      ((z5 = 0 →
                        Q (-1) m5) ∧
                        (¬ (z5 = 0) →
                        ((0 < 1) ∧
  ((0 ≤ a1 ∧ a1 < 4) ∧
  ((0 < 1) ∧
  ((jx_in (a5 + 1)) ∧
  ((jx_in (a4 * (a5 + 1))) ∧
  ((a1.toNat < 4) ∧
  jx_Cl 109 [xA 23 a1.toNat, xI a2, xI a3, xI (a4 * (a5 + 1))] m5 (fun z6 m6 =>
                          ((z6 = 0 →
                            ((a1.toNat < 4) ∧
  jx_Cl 111 [xA 23 a1.toNat, xI a3, xI a4, xI a5, xI 1] m6 (fun z7 m7 =>
                              ((z7 = 0 →
                                Q (-2) m7) ∧
                                (¬ (z7 = 0) →
                                ((a1.toNat < 4) ∧
  jx_Cl 114 [xA 23 a1.toNat, xI a3, xI a4, xI a5, xI a6] m7 (fun z8 m8 =>
                                  Q z8 m8))))))) ∧
                            (¬ (z6 = 0) →
                            Q z6 m6)))))))))))))))))))))))))) :
    jx_Cl 113 [xA 0 0, xI a1, xI a2, xI a3, xI a4, xI a5, xI a6] m Q :=
  jx_segOk (x := 113) (cd := jx_c113) rfl (stops := []) 55 hv
set_option maxRecDepth 100000 in
theorem sg_114 (t0 : Nat) (a1 : Int) (a2 : Int) (a3 : Int) (a4 : Int) (m : jx_M) (Q : Int → jx_M → Prop) (hv :
    ((jx_in (a3 + 1)) ∧
  ((jx_in (a4 * (a3 + 1))) ∧
  ((jx_in (a1 + (a4 * (a3 + 1)))) ∧
  jx_AW 114 14 [some (xA 23 t0), some (xI a1), some (xI a2), some (xI a3), some (xI a4), some (xI (a1 + (a4 * (a3 + 1)))), some (xI (-4)), some (xI 0), some (xI 0), none, none] [] m Q)))) :
    jx_Cl 114 [xA 23 t0, xI a1, xI a2, xI a3, xI a4] m Q :=
  jx_segOk (x := 114) (cd := jx_c114) rfl (stops := [14]) 15 hv
set_option maxRecDepth 100000 in
theorem sg_115 (t0 : Nat) (a1 : Int) (a2 : Int) (a3 : Int) (m : jx_M) (Q : Int → jx_M → Prop) (hv :
    jx_AW 115 4 [some (xA 23 t0), some (xI a1), some (xI a2), some (xI a3), some (xI 0), some (xI 0)] [] m Q) :
    jx_Cl 115 [xA 23 t0, xI a1, xI a2, xI a3] m Q :=
  jx_segOk (x := 115) (cd := jx_c115) rfl (stops := [4]) 5 hv
set_option maxRecDepth 100000 in
theorem sg_116 (a1 : Int) (a2 : Int) (a3 : Int) (m : jx_M) (Q : Int → jx_M → Prop) (hv :
    jx_Cl 107 [xI a1] m (fun z1 m1 =>
      ((z1 = 0 →
        Q (-1) m1) ∧
        (¬ (z1 = 0) →
        jx_Cl 108 [xI a2] m1 (fun z2 m2 =>
          ((z2 = 0 →
            Q (-1) m2) ∧
            (¬ (z2 = 0) →
            (((24 : Int) < a3 →
              Q (-1) m2) ∧
              (¬ ((24 : Int) < a3) →
              ((a3 < 0 →
                Q (-14) m2) ∧
                (¬ (a3 < 0) →
                ((0 < 1) ∧
  ((0 ≤ a1 ∧ a1 < 4) ∧
  ((0 < 1) ∧
  ((a1.toNat < 4) ∧
  jx_Cl 117 [xA 23 a1.toNat, xI a2, xI a3] m2 (fun _ m3 =>
                  Q a3 m3)))))))))))))))) :
    jx_Cl 116 [xA 0 0, xI a1, xI a2, xI a3] m Q :=
  jx_segOk (x := 116) (cd := jx_c116) rfl (stops := []) 21 hv
set_option maxRecDepth 100000 in
theorem sg_117 (t0 : Nat) (a1 : Int) (a2 : Int) (m : jx_M) (Q : Int → jx_M → Prop) (hv :
    ((t0 < 4) ∧
  jx_Cl 2 [xA 24 t0, xI 0] m (fun _ m1 =>
      ((t0 < 4) ∧
  (((1 : Int) = 0 ∨ (1 : Int) = 1) ∧
  ((t0 < 4) ∧
  ((t0 < 4) ∧
  Q 0 (jx_up (jx_up (jx_up m1 23 t0 1 1) 23 t0 2 a1) 23 t0 3 a2)))))))) :
    jx_Cl 117 [xA 23 t0, xI a1, xI a2] m Q :=
  jx_segOk (x := 117) (cd := jx_c117) rfl (stops := []) 15 hv
set_option maxRecDepth 100000 in
theorem sg_118 (a1 : Int) (m : jx_M) (Q : Int → jx_M → Prop) (hv :
    jx_Cl 107 [xI a1] m (fun z1 m1 =>
      ((z1 = 0 →
        Q (-1) m1) ∧
        (¬ (z1 = 0) →
        ((0 < 1) ∧
  ((0 ≤ a1 ∧ a1 < 4) ∧
  ((0 < 1) ∧
  ((a1.toNat < 4) ∧
  (((m1 23 a1.toNat 1) = 0 →
          Q (-11) m1) ∧
          (¬ ((m1 23 a1.toNat 1) = 0) →
          ((a1.toNat < 4) ∧
  (((0 : Int) = 0 ∨ (0 : Int) = 1) ∧
  ((a1.toNat < 4) ∧
  Q ((jx_up m1 23 a1.toNat 1 0) 23 a1.toNat 3) (jx_up m1 23 a1.toNat 1 0)))))))))))))) :
    jx_Cl 118 [xA 0 0, xI a1] m Q :=
  jx_segOk (x := 118) (cd := jx_c118) rfl (stops := []) 18 hv
set_option maxRecDepth 100000 in
theorem sg_119 (a1 : Int) (a2 : Int) (a3 : Int) (a4 : Int) (m : jx_M) (Q : Int → jx_M → Prop) (hv :
    jx_Cl 107 [xI a1] m (fun z1 m1 =>
      ((z1 = 0 →
        Q (-1) m1) ∧
        (¬ (z1 = 0) →
        jx_Cl 108 [xI a2] m1 (fun z2 m2 =>
          ((z2 = 0 →
            Q (-1) m2) ∧
            (¬ (z2 = 0) →
            ((0 < 1) ∧
  ((0 ≤ a1 ∧ a1 < 4) ∧
  ((0 < 1) ∧
  ((a1.toNat < 4) ∧
  jx_Cl 109 [xA 23 a1.toNat, xI a2, xI a3, xI 1] m2 (fun z3 m3 =>
              ((z3 = 0 →
                ((a1.toNat < 4) ∧
  jx_Cl 120 [xA 23 a1.toNat, xI a3, xI a4] m3 (fun _ m4 =>
                  Q 1 m4))) ∧
                (¬ (z3 = 0) →
                Q z3 m3)))))))))))))) :
    jx_Cl 119 [xA 0 0, xI a1, xI a2, xI a3, xI a4] m Q :=
  jx_segOk (x := 119) (cd := jx_c119) rfl (stops := []) 26 hv
set_option maxRecDepth 100000 in
theorem sg_120 (t0 : Nat) (a1 : Int) (a2 : Int) (m : jx_M) (Q : Int → jx_M → Prop) (hv :
    ((t0 < 4) ∧
  (((m 23 t0 2) = 0 →
      ((t0 < 4) ∧
  ((1 = 1 ∧ 0 ≤ a1 ∧ a1 < 24) ∧
  ((t0 < 4) ∧
  Q 0 (jx_up m 24 t0 (a1.toNat) (jx_i2b a2)))))) ∧
      (¬ ((m 23 t0 2) = 0) →
      ((t0 < 4) ∧
  (((m 23 t0 2) = 1 →
        ((t0 < 4) ∧
  ((1 = 1 ∧ 0 ≤ a1 ∧ a1 < 24) ∧
  ((t0 < 4) ∧
  Q 0 (jx_up m 24 t0 (a1.toNat) (jx_i2s a2)))))) ∧
        (¬ ((m 23 t0 2) = 1) →
        ((t0 < 4) ∧
  ((1 = 1 ∧ 0 ≤ a1 ∧ a1 < 24) ∧
  ((t0 < 4) ∧
  Q 0 (jx_up m 24 t0 (a1.toNat) a2))))))))))) :
    jx_Cl 120 [xA 23 t0, xI a1, xI a2] m Q :=
  jx_segOk (x := 120) (cd := jx_c120) rfl (stops := []) 16 hv
set_option maxRecDepth 100000 in
theorem sg_121 (a1 : Int) (a2 : Int) (a3 : Int) (a4 : Int) (a5 : Int) (m : jx_M) (Q : Int → jx_M → Prop) (hv :
    jx_Cl 107 [xI a1] m (fun z1 m1 =>
      ((z1 = 0 →
        Q (-1) m1) ∧
        (¬ (z1 = 0) →
        jx_Cl 107 [xI a3] m1 (fun z2 m2 =>
          ((z2 = 0 →
            Q (-1) m2) ∧
            (¬ (z2 = 0) →
            ((0 < 1) ∧
  ((0 ≤ a1 ∧ a1 < 4) ∧
  ((0 < 1) ∧
  ((0 < 1) ∧
  ((0 ≤ a3 ∧ a3 < 4) ∧
  ((0 < 1) ∧
  ((a1.toNat < 4) ∧
  (((m2 23 a1.toNat 1) = 0 →
              Q (-11) m2) ∧
              (¬ ((m2 23 a1.toNat 1) = 0) →
              ((a3.toNat < 4) ∧
  (((m2 23 a3.toNat 1) = 0 →
                Q (-11) m2) ∧
                (¬ ((m2 23 a3.toNat 1) = 0) →
                ((a1.toNat < 4) ∧
  ((a3.toNat < 4) ∧
  (((m2 23 a1.toNat 2) = (m2 23 a3.toNat 2) →
                  ((a1.toNat < 4) ∧
  jx_Cl 110 [xA 23 a1.toNat, xI a2, xI a5] m2 (fun z3 m3 =>
                    ((z3 = 0 →
                      Q (-13) m3) ∧
                      (¬ (z3 = 0) →
                      ((a3.toNat < 4) ∧
  jx_Cl 110 [xA 23 a3.toNat, xI a4, xI a5] m3 (fun z4 m4 =>
                        ((z4 = 0 →
                          Q (-13) m4) ∧
                          (¬ (z4 = 0) →
                          ((a1.toNat < 4) ∧
  ((a3.toNat < 4) ∧
  (((1 = 1 ∧ 1 = 1) ∧ (0 ≤ a2 ∧ 0 ≤ a4 ∧ 0 ≤ a5) ∧ a2 + a5 ≤ 24 ∧ a4 + a5 ≤ 24) ∧
  ((a1.toNat < 4) ∧
  ((a3.toNat < 4) ∧
  Q a5 (jx_cpy m4 24 a1.toNat (a2.toNat) 24 a3.toNat (a4.toNat) (a5.toNat)))))))))))))))) ∧
                  (¬ ((m2 23 a1.toNat 2) = (m2 23 a3.toNat 2)) →
                  Q (-12) m2))))))))))))))))))))))) :
    jx_Cl 121 [xA 0 0, xI a1, xI a2, xI a3, xI a4, xI a5] m Q :=
  jx_segOk (x := 121) (cd := jx_c121) rfl (stops := []) 48 hv
set_option maxRecDepth 100000 in
theorem sg_123 (a1 : Int) (a2 : Int) (m : jx_M) (Q : Int → jx_M → Prop) (hv :
    jx_Cl 124 [xI a1] m (fun z1 m1 =>
      ((z1 = 0 →
        Q (-1) m1) ∧
        (¬ (z1 = 0) →
        jx_Cl 125 [xL a2, xL 0, xL 9] m1 (fun z2 m2 =>
          ((z2 = 0 →
            Q (-1) m2) ∧
            (¬ (z2 = 0) →
            ((0 < 1) ∧
  ((1 = 1 ∧ 0 ≤ a1 ∧ a1 < 25) ∧
  ((0 < 1) ∧
  ((0 < 1) ∧
  ((1 = 1 ∧ 0 ≤ a1 ∧ a1 < 25) ∧
  ((0 < 1) ∧
  Q (m2 27 0 (a1.toNat)) (jx_up m2 27 0 (a1.toNat) a2)))))))))))))) :
    jx_Cl 123 [xA 26 0, xI a1, xI a2] m Q :=
  jx_segOk (x := 123) (cd := jx_c123) rfl (stops := []) 22 hv
set_option maxRecDepth 100000 in
theorem sg_124 (a1 : Int) (m : jx_M) (Q : Int → jx_M → Prop) (hv :
    jx_Cl 125 [xL a1, xL 0, xL 24] m (fun z1 m1 =>
      ((z1 = 0 ∨ z1 = 1) ∧
  Q z1 m1))) :
    jx_Cl 124 [xI a1] m Q :=
  jx_segOk (x := 124) (cd := jx_c124) rfl (stops := []) 7 hv
set_option maxRecDepth 100000 in
theorem sg_125 (a1 : Int) (a2 : Int) (a3 : Int) (m : jx_M) (Q : Int → jx_M → Prop) (hv :
    (((jx_lcmp a1 a2) < 0 →
      (((0 : Int) = 0 ∨ (0 : Int) = 1) ∧
  Q 0 m)) ∧
      (¬ ((jx_lcmp a1 a2) < 0) →
      (((0 : Int) < (jx_lcmp a1 a3) →
        (((0 : Int) = 0 ∨ (0 : Int) = 1) ∧
  Q 0 m)) ∧
        (¬ ((0 : Int) < (jx_lcmp a1 a3)) →
        (((1 : Int) = 0 ∨ (1 : Int) = 1) ∧
  Q 1 m)))))) :
    jx_Cl 125 [xL a1, xL a2, xL a3] m Q :=
  jx_segOk (x := 125) (cd := jx_c125) rfl (stops := []) 12 hv
set_option maxRecDepth 100000 in
theorem sg_126 (a1 : Int) (a2 : Int) (a3 : Int) (m : jx_M) (Q : Int → jx_M → Prop) (hv :
    jx_Cl 127 [xI 0, xI a1] m (fun z1 m1 =>
      ((z1 = 0 →
        Q (-1) m1) ∧
        (¬ (z1 = 0) →
        jx_Cl 127 [xI 1, xI a2] m1 (fun z2 m2 =>
          ((z2 = 0 →
            Q (-1) m2) ∧
            (¬ (z2 = 0) →
            jx_Cl 127 [xI 3, xI a3] m2 (fun z3 m3 =>
              ((z3 = 0 →
                Q (-1) m3) ∧
                (¬ (z3 = 0) →
                ((0 < 1) ∧
  (((m3 26 0 1) = 6 →
                  Q (-3) m3) ∧
                  (¬ ((m3 26 0 1) = 6) →
                  ((0 < 1) ∧
  ((0 < 1) ∧
  ((jx_in (4 * (m3 26 0 1))) ∧
  ((1 = 1 ∧ 0 ≤ (4 * (m3 26 0 1)) ∧ (4 * (m3 26 0 1)) < 24) ∧
  ((0 < 1) ∧
  ((0 < 1) ∧
  ((jx_in (4 * (m3 26 0 1))) ∧
  ((jx_in ((4 * (m3 26 0 1)) + 1)) ∧
  ((1 = 1 ∧ 0 ≤ ((4 * (m3 26 0 1)) + 1) ∧ ((4 * (m3 26 0 1)) + 1) < 24) ∧
  ((0 < 1) ∧
  ((0 < 1) ∧
  ((jx_in (4 * (m3 26 0 1))) ∧
  ((jx_in ((4 * (m3 26 0 1)) + 2)) ∧
  ((1 = 1 ∧ 0 ≤ ((4 * (m3 26 0 1)) + 2) ∧ ((4 * (m3 26 0 1)) + 2) < 24) ∧
  ((0 < 1) ∧
  ((0 < 1) ∧
  ((jx_in (4 * (m3 26 0 1))) ∧
  ((jx_in ((4 * (m3 26 0 1)) + 3)) ∧
  ((1 = 1 ∧ 0 ≤ ((4 * (m3 26 0 1)) + 3) ∧ ((4 * (m3 26 0 1)) + 3) < 24) ∧
  ((0 < 1) ∧
  ((0 < 1) ∧
  ((jx_in (13 * (m3 26 0 1))) ∧
  ((1 = 1 ∧ 0 ≤ (13 * (m3 26 0 1)) ∧ (13 * (m3 26 0 1)) < 78) ∧
  ((0 < 1) ∧
  ((0 < 1) ∧
  ((jx_in (13 * (m3 26 0 1))) ∧
  ((jx_in ((13 * (m3 26 0 1)) + 1)) ∧
  ((1 = 1 ∧ 0 ≤ ((13 * (m3 26 0 1)) + 1) ∧ ((13 * (m3 26 0 1)) + 1) < 78) ∧
  ((0 < 1) ∧
  ((0 < 1) ∧
  ((jx_in (7 * (m3 26 0 1))) ∧
  ((1 = 1 ∧ 0 ≤ (7 * (m3 26 0 1)) ∧ (7 * (m3 26 0 1)) < 42) ∧
  ((0 < 1) ∧
  ((0 < 1) ∧
  ((jx_in (7 * (m3 26 0 1))) ∧
  ((jx_in ((7 * (m3 26 0 1)) + 1)) ∧
  ((1 = 1 ∧ 0 ≤ ((7 * (m3 26 0 1)) + 1) ∧ ((7 * (m3 26 0 1)) + 1) < 42) ∧
  ((0 < 1) ∧
  ((0 < 1) ∧
  ((jx_in (((jx_up (jx_up (jx_up (jx_up (jx_up (jx_up (jx_up (jx_up m3 28 0 ((4 * (m3 26 0 1)).toNat) a1) 28 0 (((4 * (m3 26 0 1)) + 1).toNat) a2) 28 0 (((4 * (m3 26 0 1)) + 2).toNat) 0) 28 0 (((4 * (m3 26 0 1)) + 3).toNat) a3) 29 0 ((13 * (m3 26 0 1)).toNat) 1) 29 0 (((13 * (m3 26 0 1)) + 1).toNat) 0) 30 0 ((7 * (m3 26 0 1)).toNat) 1) 30 0 (((7 * (m3 26 0 1)) + 1).toNat) 5) 26 0 1) + 1)) ∧
  ((0 < 1) ∧
  Q (m3 26 0 1) (jx_up (jx_up (jx_up (jx_up (jx_up (jx_up (jx_up (jx_up (jx_up m3 28 0 ((4 * (m3 26 0 1)).toNat) a1) 28 0 (((4 * (m3 26 0 1)) + 1).toNat) a2) 28 0 (((4 * (m3 26 0 1)) + 2).toNat) 0) 28 0 (((4 * (m3 26 0 1)) + 3).toNat) a3) 29 0 ((13 * (m3 26 0 1)).toNat) 1) 29 0 (((13 * (m3 26 0 1)) + 1).toNat) 0) 30 0 ((7 * (m3 26 0 1)).toNat) 1) 30 0 (((7 * (m3 26 0 1)) + 1).toNat) 5) 26 0 1 (((jx_up (jx_up (jx_up (jx_up (jx_up (jx_up (jx_up (jx_up m3 28 0 ((4 * (m3 26 0 1)).toNat) a1) 28 0 (((4 * (m3 26 0 1)) + 1).toNat) a2) 28 0 (((4 * (m3 26 0 1)) + 2).toNat) 0) 28 0 (((4 * (m3 26 0 1)) + 3).toNat) a3) 29 0 ((13 * (m3 26 0 1)).toNat) 1) 29 0 (((13 * (m3 26 0 1)) + 1).toNat) 0) 30 0 ((7 * (m3 26 0 1)).toNat) 1) 30 0 (((7 * (m3 26 0 1)) + 1).toNat) 5) 26 0 1) + 1)))))))))))))))))))))))))))))))))))))))))))))))))))))))) :
    jx_Cl 126 [xA 26 0, xI a1, xI a2, xI a3] m Q :=
  jx_segOk (x := 126) (cd := jx_c126) rfl (stops := []) 94 hv
set_option maxRecDepth 100000 in
theorem sg_127 (a1 : Int) (a2 : Int) (m : jx_M) (Q : Int → jx_M → Prop) (hv :
    ((a1 = 0 →
      jx_Cl 125 [xL a2, xL 0, xL 3] m (fun z1 m1 =>
        ((z1 = 0 ∨ z1 = 1) ∧
  Q z1 m1))) ∧
      (¬ (a1 = 0) →
      ((a1 = 1 →
        jx_Cl 125 [xL a2, xL 1, xL 9] m (fun z2 m2 =>
          ((z2 = 0 ∨ z2 = 1) ∧
  Q z2 m2))) ∧
        (¬ (a1 = 1) →
        ((a1 = 2 →
          jx_Cl 128 [xI a2] m (fun z3 m3 =>
            ((z3 = 0 ∨ z3 = 1) ∧
  Q z3 m3))) ∧
          (¬ (a1 = 2) →
          jx_Cl 125 [xL a2, xL 1, xL 5] m (fun z4 m4 =>
            ((z4 = 0 ∨ z4 = 1) ∧
  Q z4 m4))))))))) :
    jx_Cl 127 [xI a1, xI a2] m Q :=
  jx_segOk (x := 127) (cd := jx_c127) rfl (stops := []) 15 hv
set_option maxRecDepth 100000 in
theorem sg_128 (a1 : Int) (m : jx_M) (Q : Int → jx_M → Prop) (hv :
    jx_Cl 125 [xL a1, xL 0, xL 119] m (fun z1 m1 =>
      ((z1 = 0 ∨ z1 = 1) ∧
  Q z1 m1))) :
    jx_Cl 128 [xI a1] m Q :=
  jx_segOk (x := 128) (cd := jx_c128) rfl (stops := []) 7 hv
set_option maxRecDepth 100000 in
theorem sg_129 (a1 : Int) (a2 : Int) (a3 : Int) (m : jx_M) (Q : Int → jx_M → Prop) (hv :
    ((0 < 1) ∧
  jx_Cl 130 [xA 26 0, xI a1] m (fun z1 m1 =>
      ((z1 = 0 →
        Q (-1) m1) ∧
        (¬ (z1 = 0) →
        jx_Cl 125 [xL a2, xL 0, xL 3] m1 (fun z2 m2 =>
          ((z2 = 0 →
            Q (-1) m2) ∧
            (¬ (z2 = 0) →
            jx_Cl 127 [xI a2, xI a3] m2 (fun z3 m3 =>
              ((z3 = 0 →
                Q (-1) m3) ∧
                (¬ (z3 = 0) →
                ((0 < 1) ∧
  ((jx_in (4 * a1)) ∧
  ((jx_in ((4 * a1) + a2)) ∧
  ((1 = 1 ∧ 0 ≤ ((4 * a1) + a2) ∧ ((4 * a1) + a2) < 24) ∧
  ((0 < 1) ∧
  ((0 < 1) ∧
  ((jx_in (4 * a1)) ∧
  ((jx_in ((4 * a1) + a2)) ∧
  ((1 = 1 ∧ 0 ≤ ((4 * a1) + a2) ∧ ((4 * a1) + a2) < 24) ∧
  ((0 < 1) ∧
  Q (m3 28 0 (((4 * a1) + a2).toNat)) (jx_up m3 28 0 (((4 * a1) + a2).toNat) a3)))))))))))))))))))))) :
    jx_Cl 129 [xA 26 0, xI a1, xI a2, xI a3] m Q :=
  jx_segOk (x := 129) (cd := jx_c129) rfl (stops := []) 35 hv
set_option maxRecDepth 100000 in
theorem sg_130 (a1 : Int) (m : jx_M) (Q : Int → jx_M → Prop) (hv :
    ((0 < 1) ∧
  ((jx_in ((m 26 0 1) - 1)) ∧
  jx_Cl 125 [xL a1, xL 0, xL ((m 26 0 1) - 1)] m (fun z1 m1 =>
      ((z1 = 0 ∨ z1 = 1) ∧
  Q z1 m1))))) :
    jx_Cl 130 [xA 26 0, xI a1] m Q :=
  jx_segOk (x := 130) (cd := jx_c130) rfl (stops := []) 11 hv
set_option maxRecDepth 100000 in
theorem sg_131 (a1 : Int) (a2 : Int) (m : jx_M) (Q : Int → jx_M → Prop) (hv :
    jx_Cl 125 [xL a2, xL 1, xL 8] m (fun z1 m1 =>
      ((z1 = 0 →
        Q (-1) m1) ∧
        (¬ (z1 = 0) →
        jx_AW 131 10 [some (xA 26 0), some (xL a1), none, some (xI a2), some (xI 0)] [] m1 Q)))) :
    jx_Cl 131 [xA 26 0, xL a1, xI a2] m Q :=
  jx_segOk (x := 131) (cd := jx_c131) rfl (stops := [10, 40]) 9 hv
set_option maxRecDepth 100000 in
theorem sg_132  (m : jx_M) (Q : Int → jx_M → Prop) (hv :
    ((0 < 1) ∧
  jx_Cl 133 [xA 26 0, xI 25, xI 25] m (fun z1 m1 =>
      jx_AW 132 9 [some (xA 26 0), some (xI z1), some (xI 0), some (xI 0)] [] m1 Q))) :
    jx_Cl 132 [xA 26 0] m Q :=
  jx_segOk (x := 132) (cd := jx_c132) rfl (stops := [9]) 10 hv
set_option maxRecDepth 100000 in
theorem sg_133 (a1 : Int) (a2 : Int) (m : jx_M) (Q : Int → jx_M → Prop) (hv :
    ((0 < 1) ∧
  jx_AW 133 5 [some (xA 26 0), some (xI a1), some (xI a2), some (xI 0)] [] (jx_up m 26 0 13 0) Q)) :
    jx_Cl 133 [xA 26 0, xI a1, xI a2] m Q :=
  jx_segOk (x := 133) (cd := jx_c133) rfl (stops := [5]) 6 hv
set_option maxRecDepth 100000 in
theorem sg_134  (m : jx_M) (Q : Int → jx_M → Prop) (hv :
    ((0 < 1) ∧
  jx_Cl 135 [xA 26 0] m (fun z1 m1 =>
      jx_Cl 125 [xL z1, xL 48, xL 57] m1 (fun z2 m2 =>
        ((z2 = 0 ∨ z2 = 1) ∧
  Q z2 m2))))) :
    jx_Cl 134 [xA 26 0] m Q :=
  jx_segOk (x := 134) (cd := jx_c134) rfl (stops := []) 8 hv
set_option maxRecDepth 100000 in
theorem sg_135  (m : jx_M) (Q : Int → jx_M → Prop) (hv :
    ((0 < 1) ∧
  ((0 < 1) ∧
  (((m 26 0 13) < (m 26 0 12) →
      ((0 < 1) ∧
  ((0 < 1) ∧
  ((1 = 1 ∧ 0 ≤ (m 26 0 13) ∧ (m 26 0 13) < 60) ∧
  ((0 < 1) ∧
  (((m 33 0 ((m 26 0 13).toNat)) = 32 →
        ((0 < 1) ∧
  ((jx_in ((m 26 0 13) + 1)) ∧
  ((0 < 1) ∧
  jx_AW 135 0 [some (xA 26 0)] [] (jx_up m 26 0 13 ((m 26 0 13) + 1)) Q)))) ∧
        (¬ ((m 33 0 ((m 26 0 13).toNat)) = 32) →
        ((0 < 1) ∧
  ((0 < 1) ∧
  (((m 26 0 13) < (m 26 0 12) →
          ((0 < 1) ∧
  ((0 < 1) ∧
  ((1 = 1 ∧ 0 ≤ (m 26 0 13) ∧ (m 26 0 13) < 60) ∧
  ((0 < 1) ∧
  Q (m 33 0 ((m 26 0 13).toNat)) m))))) ∧
          (¬ ((m 26 0 13) < (m 26 0 12)) →
          Q 0 m))))))))))) ∧
      (¬ ((m 26 0 13) < (m 26 0 12)) →
      ((0 < 1) ∧
  ((0 < 1) ∧
  (((m 26 0 13) < (m 26 0 12) →
        ((0 < 1) ∧
  ((0 < 1) ∧
  ((1 = 1 ∧ 0 ≤ (m 26 0 13) ∧ (m 26 0 13) < 60) ∧
  ((0 < 1) ∧
  Q (m 33 0 ((m 26 0 13).toNat)) m))))) ∧
        (¬ ((m 26 0 13) < (m 26 0 12)) →
        Q 0 m))))))))) :
    jx_Cl 135 [xA 26 0] m Q :=
  jx_segOk (x := 135) (cd := jx_c135) rfl (stops := [0]) 25 hv
set_option maxRecDepth 100000 in
theorem sg_136 (a1 : Int) (m : jx_M) (Q : Int → jx_M → Prop) (hv :
    ((0 < 1) ∧
  jx_Cl 130 [xA 26 0, xI a1] m (fun z1 m1 =>
      ((z1 = 0 →
        Q (-1) m1) ∧
        (¬ (z1 = 0) →
        ((0 < 1) ∧
  ((0 < 1) ∧
  (((0 : Int) = 0 ∨ (0 : Int) = 1) ∧
  jx_AW 136 16 [some (xA 26 0), some (xI a1), some (xI 0), some (xI 1), none] [] (jx_up (jx_up m1 26 0 13 0) 26 0 14 0) Q)))))))) :
    jx_Cl 136 [xA 26 0, xI a1] m Q :=
  jx_segOk (x := 136) (cd := jx_c136) rfl (stops := [16, 78]) 15 hv
set_option maxRecDepth 100000 in
theorem sg_137 (a1 : Int) (m : jx_M) (Q : Int → jx_M → Prop) (hv :
    ((0 < 1) ∧
  jx_Cl 134 [xA 26 0] m (fun z1 m1 =>
      ((z1 = 0 →
        ((0 < 1) ∧
  (((1 : Int) = 0 ∨ (1 : Int) = 1) ∧
  Q 0 (jx_up m1 26 0 14 1)))) ∧
        (¬ (z1 = 0) →
        ((0 < 1) ∧
  jx_AW 137 12 [some (xA 26 0), some (xI a1), some (xI (m1 26 0 13)), some (xI 0)] [] m1 Q)))))) :
    jx_Cl 137 [xA 26 0, xI a1] m Q :=
  jx_segOk (x := 137) (cd := jx_c137) rfl (stops := [12]) 9 hv
set_option maxRecDepth 100000 in
theorem sg_138 (a1 : Int) (a2 : Int) (m : jx_M) (Q : Int → jx_M → Prop) (hv :
    ((0 ≤ a1 ∧ 0 < (5 : Int)) ∧
  ((0 ≤ a2 ∧ 0 < (5 : Int)) ∧
  ((jx_in ((a1 / 5) - (a2 / 5))) ∧
  ((0 ≤ a1 ∧ 0 < (5 : Int)) ∧
  ((0 ≤ a2 ∧ 0 < (5 : Int)) ∧
  ((jx_in ((a1 % 5) - (a2 % 5))) ∧
  ((((a1 / 5) - (a2 / 5)) < 0 →
      ((jx_in (-((a1 / 5) - (a2 / 5)))) ∧
  ((((a1 % 5) - (a2 % 5)) < 0 →
        ((jx_in (-((a1 % 5) - (a2 % 5)))) ∧
  ((jx_in ((-((a1 / 5) - (a2 / 5))) + (-((a1 % 5) - (a2 % 5))))) ∧
  Q ((-((a1 / 5) - (a2 / 5))) + (-((a1 % 5) - (a2 % 5)))) m))) ∧
        (¬ (((a1 % 5) - (a2 % 5)) < 0) →
        ((jx_in ((-((a1 / 5) - (a2 / 5))) + ((a1 % 5) - (a2 % 5)))) ∧
  Q ((-((a1 / 5) - (a2 / 5))) + ((a1 % 5) - (a2 % 5))) m))))) ∧
      (¬ (((a1 / 5) - (a2 / 5)) < 0) →
      ((((a1 % 5) - (a2 % 5)) < 0 →
        ((jx_in (-((a1 % 5) - (a2 % 5)))) ∧
  ((jx_in (((a1 / 5) - (a2 / 5)) + (-((a1 % 5) - (a2 % 5))))) ∧
  Q (((a1 / 5) - (a2 / 5)) + (-((a1 % 5) - (a2 % 5)))) m))) ∧
        (¬ (((a1 % 5) - (a2 % 5)) < 0) →
        ((jx_in (((a1 / 5) - (a2 / 5)) + ((a1 % 5) - (a2 % 5)))) ∧
  Q (((a1 / 5) - (a2 / 5)) + ((a1 % 5) - (a2 % 5))) m)))))))))))) :
    jx_Cl 138 [xI a1, xI a2] m Q :=
  jx_segOk (x := 138) (cd := jx_c138) rfl (stops := []) 29 hv
set_option maxRecDepth 100000 in
theorem sg_139 (a1 : Int) (m : jx_M) (Q : Int → jx_M → Prop) (hv :
    ((0 < 1) ∧
  jx_Cl 130 [xA 26 0, xI a1] m (fun z1 m1 =>
      ((z1 = 0 →
        Q (-1) m1) ∧
        (¬ (z1 = 0) →
        ((0 < 1) ∧
  jx_Cl 133 [xA 26 0, xI 1, xI 6] m1 (fun z2 m2 =>
          (((0 : Int) < z2 →
            ((0 < 1) ∧
  ((jx_in (7 * a1)) ∧
  ((1 = 1 ∧ 0 ≤ (7 * a1) ∧ (7 * a1) < 42) ∧
  ((0 < 1) ∧
  jx_AW 139 22 [some (xA 26 0), some (xI a1), some (xI z2), some (xI 0)] [] (jx_up m2 30 0 ((7 * a1).toNat) z2) Q))))) ∧
            (¬ ((0 : Int) < z2) →
            Q z2 m2))))))))) :
    jx_Cl 139 [xA 26 0, xI a1] m Q :=
  jx_segOk (x := 139) (cd := jx_c139) rfl (stops := [22]) 21 hv
set_option maxRecDepth 100000 in
theorem sg_140 (a1 : Int) (a2 : Int) (a3 : Int) (m : jx_M) (Q : Int → jx_M → Prop) (hv :
    ((0 < 1) ∧
  jx_Cl 130 [xA 26 0, xI a1] m (fun z1 m1 =>
      ((z1 = 0 →
        Q (-1) m1) ∧
        (¬ (z1 = 0) →
        jx_Cl 125 [xL a2, xL 0, xL 1] m1 (fun z2 m2 =>
          ((z2 = 0 →
            Q (-1) m2) ∧
            (¬ (z2 = 0) →
            ((a3 < (-1) →
              Q (-1) m2) ∧
              (¬ (a3 < (-1)) →
              ((a2 = 0 →
                ((0 < 1) ∧
  ((jx_in (13 * a1)) ∧
  ((1 = 1 ∧ 0 ≤ (13 * a1) ∧ (13 * a1) < 78) ∧
  ((0 < 1) ∧
  ((a3 < 0 →
                  Q (m2 29 0 ((13 * a1).toNat)) m2) ∧
                  (¬ (a3 < 0) →
                  ((a3 < (m2 29 0 ((13 * a1).toNat)) →
                    ((a2 = 0 →
                      ((0 < 1) ∧
  ((jx_in (13 * a1)) ∧
  ((jx_in ((13 * a1) + 1)) ∧
  ((jx_in (((13 * a1) + 1) + a3)) ∧
  ((1 = 1 ∧ 0 ≤ (((13 * a1) + 1) + a3) ∧ (((13 * a1) + 1) + a3) < 78) ∧
  ((0 < 1) ∧
  Q (m2 29 0 ((((13 * a1) + 1) + a3).toNat)) m2))))))) ∧
                      (¬ (a2 = 0) →
                      ((0 < 1) ∧
  ((jx_in (7 * a1)) ∧
  ((jx_in ((7 * a1) + 1)) ∧
  ((jx_in (((7 * a1) + 1) + a3)) ∧
  ((1 = 1 ∧ 0 ≤ (((7 * a1) + 1) + a3) ∧ (((7 * a1) + 1) + a3) < 42) ∧
  ((0 < 1) ∧
  Q (m2 30 0 ((((7 * a1) + 1) + a3).toNat)) m2))))))))) ∧
                    (¬ (a3 < (m2 29 0 ((13 * a1).toNat))) →
                    Q (-4) m2))))))))) ∧
                (¬ (a2 = 0) →
                ((0 < 1) ∧
  ((jx_in (7 * a1)) ∧
  ((1 = 1 ∧ 0 ≤ (7 * a1) ∧ (7 * a1) < 42) ∧
  ((0 < 1) ∧
  ((a3 < 0 →
                  Q (m2 30 0 ((7 * a1).toNat)) m2) ∧
                  (¬ (a3 < 0) →
                  ((a3 < (m2 30 0 ((7 * a1).toNat)) →
                    ((a2 = 0 →
                      ((0 < 1) ∧
  ((jx_in (13 * a1)) ∧
  ((jx_in ((13 * a1) + 1)) ∧
  ((jx_in (((13 * a1) + 1) + a3)) ∧
  ((1 = 1 ∧ 0 ≤ (((13 * a1) + 1) + a3) ∧ (((13 * a1) + 1) + a3) < 78) ∧
  ((0 < 1) ∧
  Q (m2 29 0 ((((13 * a1) + 1) + a3).toNat)) m2))))))) ∧
                      (¬ (a2 = 0) →
                      ((0 < 1) ∧
  ((jx_in (7 * a1)) ∧
  ((jx_in ((7 * a1) + 1)) ∧
  ((jx_in (((7 * a1) + 1) + a3)) ∧
  ((1 = 1 ∧ 0 ≤ (((7 * a1) + 1) + a3) ∧ (((7 * a1) + 1) + a3) < 42) ∧
  ((0 < 1) ∧
  Q (m2 30 0 ((((7 * a1) + 1) + a3).toNat)) m2))))))))) ∧
                    (¬ (a3 < (m2 30 0 ((7 * a1).toNat))) →
                    Q (-4) m2)))))))))))))))))))) :
    jx_Cl 140 [xA 26 0, xI a1, xI a2, xI a3] m Q :=
  jx_segOk (x := 140) (cd := jx_c140) rfl (stops := []) 43 hv
set_option maxRecDepth 100000 in
theorem sg_141 (a1 : Int) (a2 : Int) (m : jx_M) (Q : Int → jx_M → Prop) (hv :
    ((0 < 1) ∧
  jx_Cl 130 [xA 26 0, xI a1] m (fun z1 m1 =>
      ((z1 = 0 →
        Q (-1) m1) ∧
        (¬ (z1 = 0) →
        jx_Cl 128 [xI a2] m1 (fun z2 m2 =>
          ((z2 = 0 →
            Q (-1) m2) ∧
            (¬ (z2 = 0) →
            ((0 < 1) ∧
  jx_Cl 142 [xA 26 0, xI a1, xI a2] m2 (fun z3 m3 =>
              Q z3 m3)))))))))) :
    jx_Cl 141 [xA 26 0, xI a1, xI a2] m Q :=
  jx_segOk (x := 141) (cd := jx_c141) rfl (stops := []) 14 hv
set_option maxRecDepth 100000 in
theorem sg_142 (a1 : Int) (a2 : Int) (m : jx_M) (Q : Int → jx_M → Prop) (hv :
    ((0 < 1) ∧
  ((jx_in (4 * a1)) ∧
  ((jx_in ((4 * a1) + 2)) ∧
  ((1 = 1 ∧ 0 ≤ ((4 * a1) + 2) ∧ ((4 * a1) + 2) < 24) ∧
  ((0 < 1) ∧
  ((jx_in (a2 - (m 28 0 (((4 * a1) + 2).toNat)))) ∧
  ((0 < 1) ∧
  ((jx_in (13 * a1)) ∧
  ((1 = 1 ∧ 0 ≤ (13 * a1) ∧ (13 * a1) < 78) ∧
  ((0 < 1) ∧
  (((a2 - (m 28 0 (((4 * a1) + 2).toNat))) < 0 →
      ((((-1) : Int) < 0 →
        Q (-4) m) ∧
        (¬ (((-1) : Int) < 0) →
        ((((-1) : Int) < (m 29 0 ((13 * a1).toNat)) →
          ((0 < 1) ∧
  (((m 26 0 17) < 0 →
            ((0 < 1) ∧
  ((jx_in (13 * a1)) ∧
  ((jx_in ((13 * a1) + 1)) ∧
  ((0 < 1) ∧
  (((m 26 0 16) = a1 →
              ((jx_in ((m 29 0 ((13 * a1).toNat)) - 1)) ∧
  ((jx_in (((m 29 0 ((13 * a1).toNat)) - 1) - (-1))) ∧
  ((jx_in (((13 * a1) + 1) + (((m 29 0 ((13 * a1).toNat)) - 1) - (-1)))) ∧
  ((1 = 1 ∧ 0 ≤ (((13 * a1) + 1) + (((m 29 0 ((13 * a1).toNat)) - 1) - (-1))) ∧ (((13 * a1) + 1) + (((m 29 0 ((13 * a1).toNat)) - 1) - (-1))) < 78) ∧
  ((0 < 1) ∧
  Q (m 29 0 ((((13 * a1) + 1) + (((m 29 0 ((13 * a1).toNat)) - 1) - (-1))).toNat)) m)))))) ∧
              (¬ ((m 26 0 16) = a1) →
              ((jx_in (((13 * a1) + 1) + (-1))) ∧
  ((1 = 1 ∧ 0 ≤ (((13 * a1) + 1) + (-1)) ∧ (((13 * a1) + 1) + (-1)) < 78) ∧
  ((0 < 1) ∧
  Q (m 29 0 ((((13 * a1) + 1) + (-1)).toNat)) m)))))))))) ∧
            (¬ ((m 26 0 17) < 0) →
            ((0 < 1) ∧
  (((m 26 0 17) = a1 →
              ((0 < 1) ∧
  ((jx_in (13 * a1)) ∧
  ((jx_in ((13 * a1) + 1)) ∧
  ((0 < 1) ∧
  (((m 26 0 16) = a1 →
                ((jx_in ((m 29 0 ((13 * a1).toNat)) - 1)) ∧
  ((jx_in (((m 29 0 ((13 * a1).toNat)) - 1) - (-1))) ∧
  ((jx_in (((13 * a1) + 1) + (((m 29 0 ((13 * a1).toNat)) - 1) - (-1)))) ∧
  ((1 = 1 ∧ 0 ≤ (((13 * a1) + 1) + (((m 29 0 ((13 * a1).toNat)) - 1) - (-1))) ∧ (((13 * a1) + 1) + (((m 29 0 ((13 * a1).toNat)) - 1) - (-1))) < 78) ∧
  ((0 < 1) ∧
  Q (m 29 0 ((((13 * a1) + 1) + (((m 29 0 ((13 * a1).toNat)) - 1) - (-1))).toNat)) m)))))) ∧
                (¬ ((m 26 0 16) = a1) →
                ((jx_in (((13 * a1) + 1) + (-1))) ∧
  ((1 = 1 ∧ 0 ≤ (((13 * a1) + 1) + (-1)) ∧ (((13 * a1) + 1) + (-1)) < 78) ∧
  ((0 < 1) ∧
  Q (m 29 0 ((((13 * a1) + 1) + (-1)).toNat)) m)))))))))) ∧
              (¬ ((m 26 0 17) = a1) →
              Q (-4) m))))))) ∧
          (¬ (((-1) : Int) < (m 29 0 ((13 * a1).toNat))) →
          Q (-4) m))))) ∧
      (¬ ((a2 - (m 28 0 (((4 * a1) + 2).toNat))) < 0) →
      ((0 < 1) ∧
  ((jx_in (4 * a1)) ∧
  ((jx_in ((4 * a1) + 3)) ∧
  ((1 = 1 ∧ 0 ≤ ((4 * a1) + 3) ∧ ((4 * a1) + 3) < 24) ∧
  ((0 < 1) ∧
  ((0 ≤ (a2 - (m 28 0 (((4 * a1) + 2).toNat))) ∧ 0 < (m 28 0 (((4 * a1) + 3).toNat))) ∧
  ((((a2 - (m 28 0 (((4 * a1) + 2).toNat))) / (m 28 0 (((4 * a1) + 3).toNat))) < 0 →
        Q (-4) m) ∧
        (¬ (((a2 - (m 28 0 (((4 * a1) + 2).toNat))) / (m 28 0 (((4 * a1) + 3).toNat))) < 0) →
        ((((a2 - (m 28 0 (((4 * a1) + 2).toNat))) / (m 28 0 (((4 * a1) + 3).toNat))) < (m 29 0 ((13 * a1).toNat)) →
          ((0 < 1) ∧
  (((m 26 0 17) < 0 →
            ((0 < 1) ∧
  ((jx_in (13 * a1)) ∧
  ((jx_in ((13 * a1) + 1)) ∧
  ((0 < 1) ∧
  (((m 26 0 16) = a1 →
              ((jx_in ((m 29 0 ((13 * a1).toNat)) - 1)) ∧
  ((jx_in (((m 29 0 ((13 * a1).toNat)) - 1) - ((a2 - (m 28 0 (((4 * a1) + 2).toNat))) / (m 28 0 (((4 * a1) + 3).toNat))))) ∧
  ((jx_in (((13 * a1) + 1) + (((m 29 0 ((13 * a1).toNat)) - 1) - ((a2 - (m 28 0 (((4 * a1) + 2).toNat))) / (m 28 0 (((4 * a1) + 3).toNat)))))) ∧
  ((1 = 1 ∧ 0 ≤ (((13 * a1) + 1) + (((m 29 0 ((13 * a1).toNat)) - 1) - ((a2 - (m 28 0 (((4 * a1) + 2).toNat))) / (m 28 0 (((4 * a1) + 3).toNat))))) ∧ (((13 * a1) + 1) + (((m 29 0 ((13 * a1).toNat)) - 1) - ((a2 - (m 28 0 (((4 * a1) + 2).toNat))) / (m 28 0 (((4 * a1) + 3).toNat))))) < 78) ∧
  ((0 < 1) ∧
  Q (m 29 0 ((((13 * a1) + 1) + (((m 29 0 ((13 * a1).toNat)) - 1) - ((a2 - (m 28 0 (((4 * a1) + 2).toNat))) / (m 28 0 (((4 * a1) + 3).toNat))))).toNat)) m)))))) ∧
              (¬ ((m 26 0 16) = a1) →
              ((jx_in (((13 * a1) + 1) + ((a2 - (m 28 0 (((4 * a1) + 2).toNat))) / (m 28 0 (((4 * a1) + 3).toNat))))) ∧
  ((1 = 1 ∧ 0 ≤ (((13 * a1) + 1) + ((a2 - (m 28 0 (((4 * a1) + 2).toNat))) / (m 28 0 (((4 * a1) + 3).toNat)))) ∧ (((13 * a1) + 1) + ((a2 - (m 28 0 (((4 * a1) + 2).toNat))) / (m 28 0 (((4 * a1) + 3).toNat)))) < 78) ∧
  ((0 < 1) ∧
  Q (m 29 0 ((((13 * a1) + 1) + ((a2 - (m 28 0 (((4 * a1) + 2).toNat))) / (m 28 0 (((4 * a1) + 3).toNat)))).toNat)) m)))))))))) ∧
            (¬ ((m 26 0 17) < 0) →
            ((0 < 1) ∧
  (((m 26 0 17) = a1 →
              ((0 < 1) ∧
  ((jx_in (13 * a1)) ∧
  ((jx_in ((13 * a1) + 1)) ∧
  ((0 < 1) ∧
  (((m 26 0 16) = a1 →
                ((jx_in ((m 29 0 ((13 * a1).toNat)) - 1)) ∧
  ((jx_in (((m 29 0 ((13 * a1).toNat)) - 1) - ((a2 - (m 28 0 (((4 * a1) + 2).toNat))) / (m 28 0 (((4 * a1) + 3).toNat))))) ∧
  ((jx_in (((13 * a1) + 1) + (((m 29 0 ((13 * a1).toNat)) - 1) - ((a2 - (m 28 0 (((4 * a1) + 2).toNat))) / (m 28 0 (((4 * a1) + 3).toNat)))))) ∧
  ((1 = 1 ∧ 0 ≤ (((13 * a1) + 1) + (((m 29 0 ((13 * a1).toNat)) - 1) - ((a2 - (m 28 0 (((4 * a1) + 2).toNat))) / (m 28 0 (((4 * a1) + 3).toNat))))) ∧ (((13 * a1) + 1) + (((m 29 0 ((13 * a1).toNat)) - 1) - ((a2 - (m 28 0 (((4 * a1) + 2).toNat))) / (m 28 0 (((4 * a1) + 3).toNat))))) < 78) ∧
  ((0 < 1) ∧
  Q (m 29 0 ((((13 * a1) + 1) + (((m 29 0 ((13 * a1).toNat)) - 1) - ((a2 - (m 28 0 (((4 * a1) + 2).toNat))) / (m 28 0 (((4 * a1) + 3).toNat))))).toNat)) m)))))) ∧
                (¬ ((m 26 0 16) = a1) →
                ((jx_in (((13 * a1) + 1) + ((a2 - (m 28 0 (((4 * a1) + 2).toNat))) / (m 28 0 (((4 * a1) + 3).toNat))))) ∧
  ((1 = 1 ∧ 0 ≤ (((13 * a1) + 1) + ((a2 - (m 28 0 (((4 * a1) + 2).toNat))) / (m 28 0 (((4 * a1) + 3).toNat)))) ∧ (((13 * a1) + 1) + ((a2 - (m 28 0 (((4 * a1) + 2).toNat))) / (m 28 0 (((4 * a1) + 3).toNat)))) < 78) ∧
  ((0 < 1) ∧
  Q (m 29 0 ((((13 * a1) + 1) + ((a2 - (m 28 0 (((4 * a1) + 2).toNat))) / (m 28 0 (((4 * a1) + 3).toNat)))).toNat)) m)))))))))) ∧
              (¬ ((m 26 0 17) = a1) →
              Q (-4) m))))))) ∧
          (¬ (((a2 - (m 28 0 (((4 * a1) + 2).toNat))) / (m 28 0 (((4 * a1) + 3).toNat))) < (m 29 0 ((13 * a1).toNat))) →
          Q (-4) m))))))))))))))))))))))) :
    jx_Cl 142 [xA 26 0, xI a1, xI a2] m Q :=
  jx_segOk (x := 142) (cd := jx_c142) rfl (stops := []) 64 hv
set_option maxRecDepth 100000 in
theorem sg_143 (a1 : Int) (m : jx_M) (Q : Int → jx_M → Prop) (hv :
    ((0 < 1) ∧
  jx_Cl 130 [xA 26 0, xI a1] m (fun z1 m1 =>
      ((z1 = 0 →
        Q (-1) m1) ∧
        (¬ (z1 = 0) →
        ((0 < 1) ∧
  jx_Cl 144 [xA 26 0, xI a1] m1 (fun z2 m2 =>
          Q z2 m2))))))) :
    jx_Cl 143 [xA 26 0, xI a1] m Q :=
  jx_segOk (x := 143) (cd := jx_c143) rfl (stops := []) 10 hv
set_option maxRecDepth 100000 in
theorem sg_144 (a1 : Int) (m : jx_M) (Q : Int → jx_M → Prop) (hv :
    jx_AW 144 4 [some (xA 26 0), some (xI a1), some (xI 0), some (xI 1)] [] m Q) :
    jx_Cl 144 [xA 26 0, xI a1] m Q :=
  jx_segOk (x := 144) (cd := jx_c144) rfl (stops := [4]) 5 hv
set_option maxRecDepth 100000 in
theorem sg_145 (a1 : Int) (a2 : Int) (m : jx_M) (Q : Int → jx_M → Prop) (hv :
    jx_Cl 124 [xI a1] m (fun z1 m1 =>
      ((z1 = 0 →
        Q (-1) m1) ∧
        (¬ (z1 = 0) →
        jx_Cl 128 [xI a2] m1 (fun z2 m2 =>
          ((z2 = 0 →
            Q (-1) m2) ∧
            (¬ (z2 = 0) →
            jx_AW 145 12 [some (xA 26 0), some (xI a1), some (xI a2), some (xI 0), some (xI 0)] [] m2 Q))))))) :
    jx_Cl 145 [xA 26 0, xI a1, xI a2] m Q :=
  jx_segOk (x := 145) (cd := jx_c145) rfl (stops := [12]) 11 hv
set_option maxRecDepth 100000 in
theorem sg_146 (a1 : Int) (a2 : Int) (a3 : Int) (m : jx_M) (Q : Int → jx_M → Prop) (hv :
    ((0 < 1) ∧
  jx_Cl 147 [xA 26 0, xI a2, xI a3] m (fun z1 m1 =>
      ((z1 = 0 →
        (((0 : Int) = 0 ∨ (0 : Int) = 1) ∧
  Q 0 m1)) ∧
        (¬ (z1 = 0) →
        ((0 < 1) ∧
  jx_Cl 142 [xA 26 0, xI a2, xI a3] m1 (fun z2 m2 =>
          jx_Cl 138 [xI z2, xI a1] m2 (fun z3 m3 =>
            ((0 < 1) ∧
  jx_Cl 144 [xA 26 0, xI a2] m3 (fun z4 m4 =>
              ((0 < 1) ∧
  ((1 = 1 ∧ 0 ≤ a1 ∧ a1 < 25) ∧
  ((0 < 1) ∧
  ((jx_in (z4 - (m4 27 0 (a1.toNat)))) ∧
  (((z4 - (m4 27 0 (a1.toNat))) < z3 →
                (((0 : Int) = 0 ∨ (0 : Int) = 1) ∧
  Q 0 m4)) ∧
                (¬ ((z4 - (m4 27 0 (a1.toNat))) < z3) →
                (((1 : Int) = 0 ∨ (1 : Int) = 1) ∧
  Q 1 m4))))))))))))))))) :
    jx_Cl 146 [xA 26 0, xI a1, xI a2, xI a3] m Q :=
  jx_segOk (x := 146) (cd := jx_c146) rfl (stops := []) 24 hv
set_option maxRecDepth 100000 in
theorem sg_147 (a1 : Int) (a2 : Int) (m : jx_M) (Q : Int → jx_M → Prop) (hv :
    ((0 < 1) ∧
  jx_Cl 142 [xA 26 0, xI a1, xI a2] m (fun z1 m1 =>
      ((z1 < 0 →
        (((0 : Int) = 0 ∨ (0 : Int) = 1) ∧
  Q 0 m1)) ∧
        (¬ (z1 < 0) →
        ((0 < 1) ∧
  ((jx_in (4 * a1)) ∧
  ((jx_in ((4 * a1) + 2)) ∧
  ((1 = 1 ∧ 0 ≤ ((4 * a1) + 2) ∧ ((4 * a1) + 2) < 24) ∧
  ((0 < 1) ∧
  ((jx_in (a2 - (m1 28 0 (((4 * a1) + 2).toNat)))) ∧
  ((0 < 1) ∧
  ((jx_in (4 * a1)) ∧
  ((jx_in ((4 * a1) + 3)) ∧
  ((1 = 1 ∧ 0 ≤ ((4 * a1) + 3) ∧ ((4 * a1) + 3) < 24) ∧
  ((0 < 1) ∧
  ((0 ≤ (a2 - (m1 28 0 (((4 * a1) + 2).toNat))) ∧ 0 < (m1 28 0 (((4 * a1) + 3).toNat))) ∧
  (((0 : Int) < ((a2 - (m1 28 0 (((4 * a1) + 2).toNat))) % (m1 28 0 (((4 * a1) + 3).toNat))) →
          (((0 : Int) = 0 ∨ (0 : Int) = 1) ∧
  Q 0 m1)) ∧
          (¬ ((0 : Int) < ((a2 - (m1 28 0 (((4 * a1) + 2).toNat))) % (m1 28 0 (((4 * a1) + 3).toNat)))) →
          ((0 < 1) ∧
  (((jx_iand (m1 26 0 6) 1) = 0 →
            ((0 < 1) ∧
  (((jx_iand (m1 26 0 6) 2) = 0 →
              jx_AW 147 53 [some (xA 26 0), some (xI a1), some (xI a2), some (xI z1), some (xI 1), some (xI 0), none] [] m1 Q) ∧
              (¬ ((jx_iand (m1 26 0 6) 2) = 0) →
              ((0 < 1) ∧
  ((1 = 1 ∧ 0 ≤ z1 ∧ z1 < 25) ∧
  ((0 < 1) ∧
  (((0 : Int) < (m1 27 0 (z1.toNat)) →
                jx_AW 147 53 [some (xA 26 0), some (xI a1), some (xI a2), some (xI z1), some (xI 1), some (xI 0), none] [] m1 Q) ∧
                (¬ ((0 : Int) < (m1 27 0 (z1.toNat))) →
                jx_AW 147 53 [some (xA 26 0), some (xI a1), some (xI a2), some (xI z1), some (xI 0), some (xI 0), none] [] m1 Q))))))))) ∧
            (¬ ((jx_iand (m1 26 0 6) 1) = 0) →
            ((a2 < 60 →
              ((0 < 1) ∧
  (((jx_iand (m1 26 0 6) 2) = 0 →
                jx_AW 147 53 [some (xA 26 0), some (xI a1), some (xI a2), some (xI z1), some (xI 1), some (xI 0), none] [] m1 Q) ∧
                (¬ ((jx_iand (m1 26 0 6) 2) = 0) →
                ((0 < 1) ∧
  ((1 = 1 ∧ 0 ≤ z1 ∧ z1 < 25) ∧
  ((0 < 1) ∧
  (((0 : Int) < (m1 27 0 (z1.toNat)) →
                  jx_AW 147 53 [some (xA 26 0), some (xI a1), some (xI a2), some (xI z1), some (xI 1), some (xI 0), none] [] m1 Q) ∧
                  (¬ ((0 : Int) < (m1 27 0 (z1.toNat))) →
                  jx_AW 147 53 [some (xA 26 0), some (xI a1), some (xI a2), some (xI z1), some (xI 0), some (xI 0), none] [] m1 Q))))))))) ∧
              (¬ (a2 < 60) →
              jx_AW 147 53 [some (xA 26 0), some (xI a1), some (xI a2), some (xI z1), some (xI 0), some (xI 0), none] [] m1 Q)))))))))))))))))))))))) :
    jx_Cl 147 [xA 26 0, xI a1, xI a2] m Q :=
  jx_segOk (x := 147) (cd := jx_c147) rfl (stops := [53]) 51 hv
set_option maxRecDepth 100000 in
theorem sg_148 (a1 : Int) (a2 : Int) (m : jx_M) (Q : Int → jx_M → Prop) (hv :
    ((0 < 1) ∧
  jx_Cl 130 [xA 26 0, xI a1] m (fun z1 m1 =>
      ((z1 = 0 →
        Q (-1) m1) ∧
        (¬ (z1 = 0) →
        ((0 < 1) ∧
  jx_Cl 130 [xA 26 0, xI a2] m1 (fun z2 m2 =>
          ((z2 = 0 →
            Q (-1) m2) ∧
            (¬ (z2 = 0) →
            ((0 < 1) ∧
  jx_Cl 149 [xA 26 0, xI a1, xI a2] m2 (fun z3 m3 =>
              Q z3 m3))))))))))) :
    jx_Cl 148 [xA 26 0, xI a1, xI a2] m Q :=
  jx_segOk (x := 148) (cd := jx_c148) rfl (stops := []) 15 hv
set_option maxRecDepth 100000 in
theorem sg_149 (a1 : Int) (a2 : Int) (m : jx_M) (Q : Int → jx_M → Prop) (hv :
    ((0 < 1) ∧
  ((jx_in (7 * a1)) ∧
  ((jx_in ((7 * a1) + 1)) ∧
  ((0 < 1) ∧
  ((jx_in (7 * a1)) ∧
  ((1 = 1 ∧ 0 ≤ (7 * a1) ∧ (7 * a1) < 42) ∧
  ((0 < 1) ∧
  ((0 < 1) ∧
  ((jx_in (7 * a2)) ∧
  ((jx_in ((7 * a2) + 1)) ∧
  ((0 < 1) ∧
  ((jx_in (7 * a2)) ∧
  ((1 = 1 ∧ 0 ≤ (7 * a2) ∧ (7 * a2) < 42) ∧
  ((0 < 1) ∧
  jx_Cl 150 [xA 30 0, xI ((7 * a1) + 1), xI (m 30 0 ((7 * a1).toNat)), xA 30 0, xI ((7 * a2) + 1), xI (m 30 0 ((7 * a2).toNat))] m (fun z1 m1 =>
      Q z1 m1)))))))))))))))) :
    jx_Cl 149 [xA 26 0, xI a1, xI a2] m Q :=
  jx_segOk (x := 149) (cd := jx_c149) rfl (stops := []) 29 hv
set_option maxRecDepth 100000 in
theorem sg_151 (a1 : Int) (m : jx_M) (Q : Int → jx_M → Prop) (hv :
    jx_Cl 125 [xL a1, xL 0, xL 20] m (fun z1 m1 =>
      ((z1 = 0 →
        Q (-1) m1) ∧
        (¬ (z1 = 0) →
        ((0 < 1) ∧
  ((0 < 1) ∧
  Q (m1 26 0 5) (jx_up m1 26 0 5 a1))))))) :
    jx_Cl 151 [xA 26 0, xI a1] m Q :=
  jx_segOk (x := 151) (cd := jx_c151) rfl (stops := []) 15 hv
set_option maxRecDepth 100000 in
theorem sg_152 (a1 : Int) (a2 : Int) (m : jx_M) (Q : Int → jx_M → Prop) (hv :
    jx_Cl 125 [xL a1, xL 0, xL 3] m (fun z1 m1 =>
      ((z1 = 0 →
        Q (-1) m1) ∧
        (¬ (z1 = 0) →
        ((0 < 1) ∧
  ((a2 = 0 →
          ((0 < 1) ∧
  ((0 < 1) ∧
  Q (jx_iand (jx_ishr (m1 26 0 6) a1) 1) (jx_up m1 26 0 6 (jx_iand (m1 26 0 6) (jx_ixor (jx_ishl 1 a1) (-1))))))) ∧
          (¬ (a2 = 0) →
          ((0 < 1) ∧
  ((0 < 1) ∧
  Q (jx_iand (jx_ishr (m1 26 0 6) a1) 1) (jx_up m1 26 0 6 (jx_ior (m1 26 0 6) (jx_ishl 1 a1)))))))))))) :
    jx_Cl 152 [xA 26 0, xI a1, xI a2] m Q :=
  jx_segOk (x := 152) (cd := jx_c152) rfl (stops := []) 28 hv
set_option maxRecDepth 100000 in
theorem sg_153 (a1 : Int) (m : jx_M) (Q : Int → jx_M → Prop) (hv :
    ((a1 = 0 →
      ((0 < 1) ∧
  Q (m 26 0 1) m)) ∧
      (¬ (a1 = 0) →
      ((a1 = 1 →
        ((0 < 1) ∧
  Q (m 26 0 7) m)) ∧
        (¬ (a1 = 1) →
        ((a1 = 2 →
          ((0 < 1) ∧
  Q (m 26 0 9) m)) ∧
          (¬ (a1 = 2) →
          ((a1 = 3 →
            ((0 < 1) ∧
  jx_Cl 154 [xI (m 26 0 6)] m (fun z1 m1 =>
              Q z1 m1))) ∧
            (¬ (a1 = 3) →
            Q (-1) m))))))))) :
    jx_Cl 153 [xA 26 0, xI a1] m Q :=
  jx_segOk (x := 153) (cd := jx_c153) rfl (stops := []) 17 hv
set_option maxRecDepth 100000 in
theorem sg_154 (a1 : Int) (m : jx_M) (Q : Int → jx_M → Prop) (hv :
    jx_AW 154 4 [some (xI a1), some (xI 0), some (xI a1)] [] m Q) :
    jx_Cl 154 [xI a1] m Q :=
  jx_segOk (x := 154) (cd := jx_c154) rfl (stops := [4]) 5 hv
set_option maxRecDepth 100000 in
theorem sg_155 (a1 : Int) (a2 : Int) (a3 : Int) (a4 : Int) (m : jx_M) (Q : Int → jx_M → Prop) (hv :
    jx_Cl 124 [xI a1] m (fun z1 m1 =>
      ((z1 = 0 →
        Q (-1) m1) ∧
        (¬ (z1 = 0) →
        jx_Cl 125 [xL a2, xL 0, xL 3] m1 (fun z2 m2 =>
          ((z2 = 0 →
            Q (-1) m2) ∧
            (¬ (z2 = 0) →
            jx_Cl 125 [xL a3, xL 0, xL 5] m2 (fun z3 m3 =>
              ((z3 = 0 →
                Q (-1) m3) ∧
                (¬ (z3 = 0) →
                jx_Cl 125 [xL a4, xL 0, xL 20] m3 (fun z4 m4 =>
                  ((z4 = 0 →
                    Q (-1) m4) ∧
                    (¬ (z4 = 0) →
                    ((0 < 1) ∧
  (((m4 26 0 7) = 12 →
                      Q (-3) m4) ∧
                      (¬ ((m4 26 0 7) = 12) →
                      ((0 < 1) ∧
  ((0 < 1) ∧
  ((jx_in (4 * (m4 26 0 7))) ∧
  ((1 = 1 ∧ 0 ≤ (4 * (m4 26 0 7)) ∧ (4 * (m4 26 0 7)) < 48) ∧
  ((0 < 1) ∧
  ((0 < 1) ∧
  ((0 < 1) ∧
  ((jx_in (4 * ((jx_up m4 31 0 ((4 * (m4 26 0 7)).toNat) a1) 26 0 7))) ∧
  ((jx_in ((4 * ((jx_up m4 31 0 ((4 * (m4 26 0 7)).toNat) a1) 26 0 7)) + 1)) ∧
  ((1 = 1 ∧ 0 ≤ ((4 * ((jx_up m4 31 0 ((4 * (m4 26 0 7)).toNat) a1) 26 0 7)) + 1) ∧ ((4 * ((jx_up m4 31 0 ((4 * (m4 26 0 7)).toNat) a1) 26 0 7)) + 1) < 48) ∧
  ((0 < 1) ∧
  ((0 < 1) ∧
  ((0 < 1) ∧
  ((jx_in (4 * ((jx_up (jx_up m4 31 0 ((4 * (m4 26 0 7)).toNat) a1) 31 0 (((4 * ((jx_up m4 31 0 ((4 * (m4 26 0 7)).toNat) a1) 26 0 7)) + 1).toNat) a2) 26 0 7))) ∧
  ((jx_in ((4 * ((jx_up (jx_up m4 31 0 ((4 * (m4 26 0 7)).toNat) a1) 31 0 (((4 * ((jx_up m4 31 0 ((4 * (m4 26 0 7)).toNat) a1) 26 0 7)) + 1).toNat) a2) 26 0 7)) + 2)) ∧
  ((1 = 1 ∧ 0 ≤ ((4 * ((jx_up (jx_up m4 31 0 ((4 * (m4 26 0 7)).toNat) a1) 31 0 (((4 * ((jx_up m4 31 0 ((4 * (m4 26 0 7)).toNat) a1) 26 0 7)) + 1).toNat) a2) 26 0 7)) + 2) ∧ ((4 * ((jx_up (jx_up m4 31 0 ((4 * (m4 26 0 7)).toNat) a1) 31 0 (((4 * ((jx_up m4 31 0 ((4 * (m4 26 0 7)).toNat) a1) 26 0 7)) + 1).toNat) a2) 26 0 7)) + 2) < 48) ∧
  ((0 < 1) ∧
  ((0 < 1) ∧
  ((0 < 1) ∧
  ((jx_in (4 * ((jx_up (jx_up (jx_up m4 31 0 ((4 * (m4 26 0 7)).toNat) a1) 31 0 (((4 * ((jx_up m4 31 0 ((4 * (m4 26 0 7)).toNat) a1) 26 0 7)) + 1).toNat) a2) 31 0 (((4 * ((jx_up (jx_up m4 31 0 ((4 * (m4 26 0 7)).toNat) a1) 31 0 (((4 * ((jx_up m4 31 0 ((4 * (m4 26 0 7)).toNat) a1) 26 0 7)) + 1).toNat) a2) 26 0 7)) + 2).toNat) a3) 26 0 7))) ∧
  ((jx_in ((4 * ((jx_up (jx_up (jx_up m4 31 0 ((4 * (m4 26 0 7)).toNat) a1) 31 0 (((4 * ((jx_up m4 31 0 ((4 * (m4 26 0 7)).toNat) a1) 26 0 7)) + 1).toNat) a2) 31 0 (((4 * ((jx_up (jx_up m4 31 0 ((4 * (m4 26 0 7)).toNat) a1) 31 0 (((4 * ((jx_up m4 31 0 ((4 * (m4 26 0 7)).toNat) a1) 26 0 7)) + 1).toNat) a2) 26 0 7)) + 2).toNat) a3) 26 0 7)) + 3)) ∧
  ((1 = 1 ∧ 0 ≤ ((4 * ((jx_up (jx_up (jx_up m4 31 0 ((4 * (m4 26 0 7)).toNat) a1) 31 0 (((4 * ((jx_up m4 31 0 ((4 * (m4 26 0 7)).toNat) a1) 26 0 7)) + 1).toNat) a2) 31 0 (((4 * ((jx_up (jx_up m4 31 0 ((4 * (m4 26 0 7)).toNat) a1) 31 0 (((4 * ((jx_up m4 31 0 ((4 * (m4 26 0 7)).toNat) a1) 26 0 7)) + 1).toNat) a2) 26 0 7)) + 2).toNat) a3) 26 0 7)) + 3) ∧ ((4 * ((jx_up (jx_up (jx_up m4 31 0 ((4 * (m4 26 0 7)).toNat) a1) 31 0 (((4 * ((jx_up m4 31 0 ((4 * (m4 26 0 7)).toNat) a1) 26 0 7)) + 1).toNat) a2) 31 0 (((4 * ((jx_up (jx_up m4 31 0 ((4 * (m4 26 0 7)).toNat) a1) 31 0 (((4 * ((jx_up m4 31 0 ((4 * (m4 26 0 7)).toNat) a1) 26 0 7)) + 1).toNat) a2) 26 0 7)) + 2).toNat) a3) 26 0 7)) + 3) < 48) ∧
  ((0 < 1) ∧
  ((0 < 1) ∧
  ((jx_in (((jx_up (jx_up (jx_up (jx_up m4 31 0 ((4 * (m4 26 0 7)).toNat) a1) 31 0 (((4 * ((jx_up m4 31 0 ((4 * (m4 26 0 7)).toNat) a1) 26 0 7)) + 1).toNat) a2) 31 0 (((4 * ((jx_up (jx_up m4 31 0 ((4 * (m4 26 0 7)).toNat) a1) 31 0 (((4 * ((jx_up m4 31 0 ((4 * (m4 26 0 7)).toNat) a1) 26 0 7)) + 1).toNat) a2) 26 0 7)) + 2).toNat) a3) 31 0 (((4 * ((jx_up (jx_up (jx_up m4 31 0 ((4 * (m4 26 0 7)).toNat) a1) 31 0 (((4 * ((jx_up m4 31 0 ((4 * (m4 26 0 7)).toNat) a1) 26 0 7)) + 1).toNat) a2) 31 0 (((4 * ((jx_up (jx_up m4 31 0 ((4 * (m4 26 0 7)).toNat) a1) 31 0 (((4 * ((jx_up m4 31 0 ((4 * (m4 26 0 7)).toNat) a1) 26 0 7)) + 1).toNat) a2) 26 0 7)) + 2).toNat) a3) 26 0 7)) + 3).toNat) a4) 26 0 7) + 1)) ∧
  ((0 < 1) ∧
  ((0 < 1) ∧
  ((jx_in (((jx_up (jx_up (jx_up (jx_up (jx_up m4 31 0 ((4 * (m4 26 0 7)).toNat) a1) 31 0 (((4 * ((jx_up m4 31 0 ((4 * (m4 26 0 7)).toNat) a1) 26 0 7)) + 1).toNat) a2) 31 0 (((4 * ((jx_up (jx_up m4 31 0 ((4 * (m4 26 0 7)).toNat) a1) 31 0 (((4 * ((jx_up m4 31 0 ((4 * (m4 26 0 7)).toNat) a1) 26 0 7)) + 1).toNat) a2) 26 0 7)) + 2).toNat) a3) 31 0 (((4 * ((jx_up (jx_up (jx_up m4 31 0 ((4 * (m4 26 0 7)).toNat) a1) 31 0 (((4 * ((jx_up m4 31 0 ((4 * (m4 26 0 7)).toNat) a1) 26 0 7)) + 1).toNat) a2) 31 0 (((4 * ((jx_up (jx_up m4 31 0 ((4 * (m4 26 0 7)).toNat) a1) 31 0 (((4 * ((jx_up m4 31 0 ((4 * (m4 26 0 7)).toNat) a1) 26 0 7)) + 1).toNat) a2) 26 0 7)) + 2).toNat) a3) 26 0 7)) + 3).toNat) a4) 26 0 7 (((jx_up (jx_up (jx_up (jx_up m4 31 0 ((4 * (m4 26 0 7)).toNat) a1) 31 0 (((4 * ((jx_up m4 31 0 ((4 * (m4 26 0 7)).toNat) a1) 26 0 7)) + 1).toNat) a2) 31 0 (((4 * ((jx_up (jx_up m4 31 0 ((4 * (m4 26 0 7)).toNat) a1) 31 0 (((4 * ((jx_up m4 31 0 ((4 * (m4 26 0 7)).toNat) a1) 26 0 7)) + 1).toNat) a2) 26 0 7)) + 2).toNat) a3) 31 0 (((4 * ((jx_up (jx_up (jx_up m4 31 0 ((4 * (m4 26 0 7)).toNat) a1) 31 0 (((4 * ((jx_up m4 31 0 ((4 * (m4 26 0 7)).toNat) a1) 26 0 7)) + 1).toNat) a2) 31 0 (((4 * ((jx_up (jx_up m4 31 0 ((4 * (m4 26 0 7)).toNat) a1) 31 0 (((4 * ((jx_up m4 31 0 ((4 * (m4 26 0 7)).toNat) a1) 26 0 7)) + 1).toNat) a2) 26 0 7)) + 2).toNat) a3) 26 0 7)) + 3).toNat) a4) 26 0 7) + 1)) 26 0 7) - 1)) ∧
  Q (((jx_up (jx_up (jx_up (jx_up (jx_up m4 31 0 ((4 * (m4 26 0 7)).toNat) a1) 31 0 (((4 * ((jx_up m4 31 0 ((4 * (m4 26 0 7)).toNat) a1) 26 0 7)) + 1).toNat) a2) 31 0 (((4 * ((jx_up (jx_up m4 31 0 ((4 * (m4 26 0 7)).toNat) a1) 31 0 (((4 * ((jx_up m4 31 0 ((4 * (m4 26 0 7)).toNat) a1) 26 0 7)) + 1).toNat) a2) 26 0 7)) + 2).toNat) a3) 31 0 (((4 * ((jx_up (jx_up (jx_up m4 31 0 ((4 * (m4 26 0 7)).toNat) a1) 31 0 (((4 * ((jx_up m4 31 0 ((4 * (m4 26 0 7)).toNat) a1) 26 0 7)) + 1).toNat) a2) 31 0 (((4 * ((jx_up (jx_up m4 31 0 ((4 * (m4 26 0 7)).toNat) a1) 31 0 (((4 * ((jx_up m4 31 0 ((4 * (m4 26 0 7)).toNat) a1) 26 0 7)) + 1).toNat) a2) 26 0 7)) + 2).toNat) a3) 26 0 7)) + 3).toNat) a4) 26 0 7 (((jx_up (jx_up (jx_up (jx_up m4 31 0 ((4 * (m4 26 0 7)).toNat) a1) 31 0 (((4 * ((jx_up m4 31 0 ((4 * (m4 26 0 7)).toNat) a1) 26 0 7)) + 1).toNat) a2) 31 0 (((4 * ((jx_up (jx_up m4 31 0 ((4 * (m4 26 0 7)).toNat) a1) 31 0 (((4 * ((jx_up m4 31 0 ((4 * (m4 26 0 7)).toNat) a1) 26 0 7)) + 1).toNat) a2) 26 0 7)) + 2).toNat) a3) 31 0 (((4 * ((jx_up (jx_up (jx_up m4 31 0 ((4 * (m4 26 0 7)).toNat) a1) 31 0 (((4 * ((jx_up m4 31 0 ((4 * (m4 26 0 7)).toNat) a1) 26 0 7)) + 1).toNat) a2) 31 0 (((4 * ((jx_up (jx_up m4 31 0 ((4 * (m4 26 0 7)).toNat) a1) 31 0 (((4 * ((jx_up m4 31 0 ((4 * (m4 26 0 7)).toNat) a1) 26 0 7)) + 1).toNat) a2) 26 0 7)) + 2).toNat) a3) 26 0 7)) + 3).toNat) a4) 26 0 7) + 1)) 26 0 7) - 1) (jx_up (jx_up (jx_up (jx_up (jx_up m4 31 0 ((4 * (m4 26 0 7)).toNat) a1) 31 0 (((4 * ((jx_up m4 31 0 ((4 * (m4 26 0 7)).toNat) a1) 26 0 7)) + 1).toNat) a2) 31 0 (((4 * ((jx_up (jx_up m4 31 0 ((4 * (m4 26 0 7)).toNat) a1) 31 0 (((4 * ((jx_up m4 31 0 ((4 * (m4 26 0 7)).toNat) a1) 26 0 7)) + 1).toNat) a2) 26 0 7)) + 2).toNat) a3) 31 0 (((4 * ((jx_up (jx_up (jx_up m4 31 0 ((4 * (m4 26 0 7)).toNat) a1) 31 0 (((4 * ((jx_up m4 31 0 ((4 * (m4 26 0 7)).toNat) a1) 26 0 7)) + 1).toNat) a2) 31 0 (((4 * ((jx_up (jx_up m4 31 0 ((4 * (m4 26 0 7)).toNat) a1) 31 0 (((4 * ((jx_up m4 31 0 ((4 * (m4 26 0 7)).toNat) a1) 26 0 7)) + 1).toNat) a2) 26 0 7)) + 2).toNat) a3) 26 0 7)) + 3).toNat) a4) 26 0 7 (((jx_up (jx_up (jx_up (jx_up m4 31 0 ((4 * (m4 26 0 7)).toNat) a1) 31 0 (((4 * ((jx_up m4 31 0 ((4 * (m4 26 0 7)).toNat) a1) 26 0 7)) + 1).toNat) a2) 31 0 (((4 * ((jx_up (jx_up m4 31 0 ((4 * (m4 26 0 7)).toNat) a1) 31 0 (((4 * ((jx_up m4 31 0 ((4 * (m4 26 0 7)).toNat) a1) 26 0 7)) + 1).toNat) a2) 26 0 7)) + 2).toNat) a3) 31 0 (((4 * ((jx_up (jx_up (jx_up m4 31 0 ((4 * (m4 26 0 7)).toNat) a1) 31 0 (((4 * ((jx_up m4 31 0 ((4 * (m4 26 0 7)).toNat) a1) 26 0 7)) + 1).toNat) a2) 31 0 (((4 * ((jx_up (jx_up m4 31 0 ((4 * (m4 26 0 7)).toNat) a1) 31 0 (((4 * ((jx_up m4 31 0 ((4 * (m4 26 0 7)).toNat) a1) 26 0 7)) + 1).toNat) a2) 26 0 7)) + 2).toNat) a3) 26 0 7)) + 3).toNat) a4) 26 0 7) + 1)))))))))))))))))))))))))))))))))))))))))))))) :
    jx_Cl 155 [xA 26 0, xI a1, xI a2, xI a3, xI a4] m Q :=
  jx_segOk (x := 155) (cd := jx_c155) rfl (stops := []) 75 hv
set_option maxRecDepth 100000 in
theorem sg_156 (a1 : Int) (a2 : Int) (m : jx_M) (Q : Int → jx_M → Prop) (hv :
    ((0 < 1) ∧
  ((jx_in ((m 26 0 7) - 1)) ∧
  jx_Cl 125 [xL a1, xL 0, xL ((m 26 0 7) - 1)] m (fun z1 m1 =>
      ((z1 = 0 →
        Q (-1) m1) ∧
        (¬ (z1 = 0) →
        jx_Cl 125 [xL a2, xL 0, xL 2] m1 (fun z2 m2 =>
          ((z2 = 0 →
            Q (-1) m2) ∧
            (¬ (z2 = 0) →
            ((0 < 1) ∧
  jx_Cl 157 [xA 26 0] m2 (fun _ m3 =>
              ((a2 = 0 →
                ((0 < 1) ∧
  ((1 = 1 ∧ 0 ≤ a1 ∧ a1 < 12) ∧
  ((0 < 1) ∧
  Q (m3 36 0 (a1.toNat)) m3)))) ∧
                (¬ (a2 = 0) →
                ((a2 = 1 →
                  ((0 < 1) ∧
  ((1 = 1 ∧ 0 ≤ a1 ∧ a1 < 12) ∧
  ((0 < 1) ∧
  Q (m3 37 0 (a1.toNat)) m3)))) ∧
                  (¬ (a2 = 1) →
                  ((0 < 1) ∧
  ((1 = 1 ∧ 0 ≤ a1 ∧ a1 < 12) ∧
  ((0 < 1) ∧
  Q (m3 38 0 (a1.toNat)) m3)))))))))))))))))) :
    jx_Cl 156 [xA 26 0, xI a1, xI a2] m Q :=
  jx_segOk (x := 156) (cd := jx_c156) rfl (stops := []) 30 hv
set_option maxRecDepth 100000 in
theorem sg_157  (m : jx_M) (Q : Int → jx_M → Prop) (hv :
    jx_AW 157 2 [some (xA 26 0), some (xI 0), none, none, none, none] [] m Q) :
    jx_Cl 157 [xA 26 0] m Q :=
  jx_segOk (x := 157) (cd := jx_c157) rfl (stops := [2, 30, 35]) 3 hv
set_option maxRecDepth 100000 in
theorem sg_158 (a1 : Int) (a2 : Int) (a3 : Int) (m : jx_M) (Q : Int → jx_M → Prop) (hv :
    ((0 < 1) ∧
  ((jx_in ((m 26 0 1) - 1)) ∧
  jx_AW 158 7 [some (xA 26 0), some (xI a1), some (xI a2), some (xI a3), some (xI (-4)), some (xI ((m 26 0 1) - 1))] [] m Q))) :
    jx_Cl 158 [xA 26 0, xI a1, xI a2, xI a3] m Q :=
  jx_segOk (x := 158) (cd := jx_c158) rfl (stops := [7]) 8 hv
set_option maxRecDepth 100000 in
theorem sg_159 (a1 : Int) (a2 : Int) (m : jx_M) (Q : Int → jx_M → Prop) (hv :
    jx_AW 159 4 [some (xA 26 0), some (xI a1), some (xI a2), some (xI 0), some (xI 0), none] [] m Q) :
    jx_Cl 159 [xA 26 0, xI a1, xI a2] m Q :=
  jx_segOk (x := 159) (cd := jx_c159) rfl (stops := [4, 23]) 5 hv
set_option maxRecDepth 100000 in
theorem sg_160 (a1 : Int) (m : jx_M) (Q : Int → jx_M → Prop) (hv :
    ((0 < 1) ∧
  jx_Cl 130 [xA 26 0, xI a1] m (fun z1 m1 =>
      ((z1 = 0 →
        Q (-1) m1) ∧
        (¬ (z1 = 0) →
        ((0 < 1) ∧
  jx_Cl 161 [xA 26 0, xI a1] m1 (fun z2 m2 =>
          Q z2 m2))))))) :
    jx_Cl 160 [xA 26 0, xI a1] m Q :=
  jx_segOk (x := 160) (cd := jx_c160) rfl (stops := []) 10 hv
set_option maxRecDepth 100000 in
theorem sg_161 (a1 : Int) (m : jx_M) (Q : Int → jx_M → Prop) (hv :
    ((0 < 1) ∧
  jx_Cl 157 [xA 26 0] m (fun _ m1 =>
      jx_AW 161 6 [some (xA 26 0), some (xI a1), some (xI 0), some (xI 0)] [] m1 Q))) :
    jx_Cl 161 [xA 26 0, xI a1] m Q :=
  jx_segOk (x := 161) (cd := jx_c161) rfl (stops := [6]) 7 hv
set_option maxRecDepth 100000 in
theorem sg_162 (a1 : Int) (m : jx_M) (Q : Int → jx_M → Prop) (hv :
    jx_Cl 125 [xL a1, xL 0, xL 2] m (fun z1 m1 =>
      ((z1 = 0 →
        Q (-1) m1) ∧
        (¬ (z1 = 0) →
        ((0 < 1) ∧
  jx_Cl 157 [xA 26 0] m1 (fun _ m2 =>
          jx_AW 162 16 [some (xA 26 0), some (xI a1), some (xI 0), some (xI 0), some (xI 0), none, none] [] m2 Q)))))) :
    jx_Cl 162 [xA 26 0, xI a1] m Q :=
  jx_segOk (x := 162) (cd := jx_c162) rfl (stops := [16, 44, 49]) 15 hv
set_option maxRecDepth 100000 in
theorem sg_163 (a1 : Int) (a2 : Int) (m : jx_M) (Q : Int → jx_M → Prop) (hv :
    ((0 < 1) ∧
  jx_Cl 130 [xA 26 0, xI a1] m (fun z1 m1 =>
      ((z1 = 0 →
        Q (-1) m1) ∧
        (¬ (z1 = 0) →
        jx_Cl 125 [xL a2, xL 0, xL 2] m1 (fun z2 m2 =>
          ((z2 = 0 →
            Q (-1) m2) ∧
            (¬ (z2 = 0) →
            ((0 < 1) ∧
  ((jx_in (4 * a1)) ∧
  ((jx_in ((4 * a1) + 2)) ∧
  ((1 = 1 ∧ 0 ≤ ((4 * a1) + 2) ∧ ((4 * a1) + 2) < 24) ∧
  ((0 < 1) ∧
  jx_AW 163 27 [some (xA 26 0), some (xI a1), some (xI a2), some (xI (m2 28 0 (((4 * a1) + 2).toNat))), some (xI 0), some (xI (-1)), some (xI 0), none] [] m2 Q))))))))))))) :
    jx_Cl 163 [xA 26 0, xI a1, xI a2] m Q :=
  jx_segOk (x := 163) (cd := jx_c163) rfl (stops := [27]) 26 hv
set_option maxRecDepth 100000 in
theorem sg_164 (a1 : Int) (a2 : Int) (a3 : Int) (m : jx_M) (Q : Int → jx_M → Prop) (hv :
    ((0 < 1) ∧
  jx_Cl 130 [xA 26 0, xI a1] m (fun z1 m1 =>
      ((z1 = 0 →
        Q (-1) m1) ∧
        (¬ (z1 = 0) →
        ((0 < 1) ∧
  jx_Cl 130 [xA 26 0, xI a2] m1 (fun z2 m2 =>
          ((z2 = 0 →
            Q (-1) m2) ∧
            (¬ (z2 = 0) →
            ((a1 = a2 →
              Q (-1) m2) ∧
              (¬ (a1 = a2) →
              jx_Cl 125 [xL a3, xL 0, xL 2] m2 (fun z3 m3 =>
                ((z3 = 0 →
                  Q (-1) m3) ∧
                  (¬ (z3 = 0) →
                  ((0 < 1) ∧
  ((jx_in (4 * a1)) ∧
  ((jx_in ((4 * a1) + 2)) ∧
  ((1 = 1 ∧ 0 ≤ ((4 * a1) + 2) ∧ ((4 * a1) + 2) < 24) ∧
  ((0 < 1) ∧
  ((0 < 1) ∧
  ((jx_in (4 * a2)) ∧
  ((jx_in ((4 * a2) + 2)) ∧
  ((1 = 1 ∧ 0 ≤ ((4 * a2) + 2) ∧ ((4 * a2) + 2) < 24) ∧
  ((0 < 1) ∧
  jx_AW 164 39 [some (xA 26 0), some (xI a1), some (xI a2), some (xI a3), some (xI (m3 28 0 (((4 * a1) + 2).toNat))), some (xI (m3 28 0 (((4 * a2) + 2).toNat))), some (xI 0), none, none, none, none] [] m3 Q)))))))))))))))))))))))) :
    jx_Cl 164 [xA 26 0, xI a1, xI a2, xI a3] m Q :=
  jx_segOk (x := 164) (cd := jx_c164) rfl (stops := [39, 82, 130, 136]) 38 hv
set_option maxRecDepth 100000 in
theorem sg_165 (a1 : Int) (a2 : Int) (a3 : Int) (a4 : Int) (m : jx_M) (Q : Int → jx_M → Prop) (hv :
    jx_Cl 125 [xL a1, xL 1, xL 3] m (fun z1 m1 =>
      ((z1 = 0 →
        Q (-1) m1) ∧
        (¬ (z1 = 0) →
        jx_Cl 125 [xL a2, xL 1, xL 9] m1 (fun z2 m2 =>
          ((z2 = 0 →
            Q (-1) m2) ∧
            (¬ (z2 = 0) →
            jx_Cl 125 [xL a3, xL 0, xL 12] m2 (fun z3 m3 =>
              ((z3 = 0 →
                Q (-1) m3) ∧
                (¬ (z3 = 0) →
                ((jx_in (a1 - 1)) ∧
  jx_Cl 125 [xL a4, xL (-1), xL (a1 - 1)] m3 (fun z4 m4 =>
                  ((z4 = 0 →
                    Q (-1) m4) ∧
                    (¬ (z4 = 0) →
                    ((a1 = 1 →
                      jx_AW 165 47 [some (xA 26 0), some (xI a1), some (xI a2), some (xI a3), some (xI a4), some (xI (-4)), some (xI (-1)), some (xI 10), some (xI 0), none, none, none] [] m4 Q) ∧
                      (¬ (a1 = 1) →
                      ((a1 = 2 →
                        jx_AW 165 47 [some (xA 26 0), some (xI a1), some (xI a2), some (xI a3), some (xI a4), some (xI (-4)), some (xI (-1)), some (xI 100), some (xI 0), none, none, none] [] m4 Q) ∧
                        (¬ (a1 = 2) →
                        jx_AW 165 47 [some (xA 26 0), some (xI a1), some (xI a2), some (xI a3), some (xI a4), some (xI (-4)), some (xI (-1)), some (xI 1000), some (xI 0), none, none, none] [] m4 Q)))))))))))))))))) :
    jx_Cl 165 [xA 26 0, xI a1, xI a2, xI a3, xI a4] m Q :=
  jx_segOk (x := 165) (cd := jx_c165) rfl (stops := [47]) 43 hv
set_option maxRecDepth 100000 in
theorem sg_166 (a1 : Int) (a2 : Int) (m : jx_M) (Q : Int → jx_M → Prop) (hv :
    ((jx_in (a2 - 1)) ∧
  jx_AW 166 6 [some (xA 26 0), some (xI a1), some (xI a2), some (xI a1), some (xI (a2 - 1))] [] m Q)) :
    jx_Cl 166 [xA 26 0, xI a1, xI a2] m Q :=
  jx_segOk (x := 166) (cd := jx_c166) rfl (stops := [6]) 7 hv
set_option maxRecDepth 100000 in
theorem sg_167 (a1 : Int) (m : jx_M) (Q : Int → jx_M → Prop) (hv :
    ((0 < 1) ∧
  jx_AW 167 7 [some (xA 26 0), some (xI a1), some (xI 0), some (xI 0), none, none] [] (jx_up m 26 0 25 (-4)) Q)) :
    jx_Cl 167 [xA 26 0, xI a1] m Q :=
  jx_segOk (x := 167) (cd := jx_c167) rfl (stops := [7]) 8 hv
set_option maxRecDepth 100000 in
theorem sg_168 (a1 : Int) (m : jx_M) (Q : Int → jx_M → Prop) (hv :
    jx_Cl 124 [xI a1] m (fun z1 m1 =>
      ((z1 = 0 →
        Q (-1) m1) ∧
        (¬ (z1 = 0) →
        ((0 < 1) ∧
  jx_Cl 169 [xA 26 0, xI a1] m1 (fun z2 m2 =>
          Q z2 m2)))))) :
    jx_Cl 168 [xA 26 0, xI a1] m Q :=
  jx_segOk (x := 168) (cd := jx_c168) rfl (stops := []) 9 hv
set_option maxRecDepth 100000 in
theorem sg_169 (a1 : Int) (m : jx_M) (Q : Int → jx_M → Prop) (hv :
    jx_AW 169 4 [some (xA 26 0), some (xI a1), some (xI 0), some (xI 0), none] [] m Q) :
    jx_Cl 169 [xA 26 0, xI a1] m Q :=
  jx_segOk (x := 169) (cd := jx_c169) rfl (stops := [4, 9]) 5 hv
set_option maxRecDepth 100000 in
theorem sg_170 (a1 : Int) (a2 : Int) (m : jx_M) (Q : Int → jx_M → Prop) (hv :
    jx_Cl 124 [xI a1] m (fun z1 m1 =>
      ((z1 = 0 →
        Q (-1) m1) ∧
        (¬ (z1 = 0) →
        jx_Cl 125 [xL a2, xL 0, xL 999] m1 (fun z2 m2 =>
          ((z2 = 0 →
            Q (-1) m2) ∧
            (¬ (z2 = 0) →
            ((0 < 1) ∧
  jx_AW 170 18 [some (xA 26 0), some (xI a1), some (xI a2), some (xI (m2 26 0 6)), some (xI (-4)), some (xI 0), none] [] m2 Q)))))))) :
    jx_Cl 170 [xA 26 0, xI a1, xI a2] m Q :=
  jx_segOk (x := 170) (cd := jx_c170) rfl (stops := [18]) 17 hv
set_option maxRecDepth 100000 in
theorem sg_171 (a1 : Int) (a2 : Int) (m : jx_M) (Q : Int → jx_M → Prop) (hv :
    jx_Cl 125 [xL a1, xL 0, xL 3] m (fun z1 m1 =>
      ((z1 = 0 →
        Q (-100001) m1) ∧
        (¬ (z1 = 0) →
        ((0 < 1) ∧
  jx_Cl 130 [xA 26 0, xI a2] m1 (fun z2 m2 =>
          ((z2 = 0 →
            Q (-100001) m2) ∧
            (¬ (z2 = 0) →
            ((0 < 1) ∧
  ((0 < 1) ∧
  jx_Cl 161 [xA 26 0, xI a2] m2 (fun z3 m3 =>
              ((0 < 1) ∧
  ((0 < 1) ∧
  ((0 < 1) ∧
  jx_Cl 161 [xA 26 0, xI a2] (jx_up m3 26 0 6 (jx_ior (m3 26 0 6) (jx_ishl 1 a1))) (fun z4 m4 =>
                ((0 < 1) ∧
  ((jx_in (z3 - z4)) ∧
  Q (z3 - z4) (jx_up m4 26 0 6 (m2 26 0 6))))))))))))))))))) :
    jx_Cl 171 [xA 26 0, xI a1, xI a2] m Q :=
  jx_segOk (x := 171) (cd := jx_c171) rfl (stops := []) 37 hv
set_option maxRecDepth 100000 in
theorem sg_172 (a1 : Int) (a2 : Int) (a3 : Int) (m : jx_M) (Q : Int → jx_M → Prop) (hv :
    jx_Cl 124 [xI a1] m (fun z1 m1 =>
      ((z1 = 0 →
        Q (-1) m1) ∧
        (¬ (z1 = 0) →
        jx_Cl 128 [xI a2] m1 (fun z2 m2 =>
          ((z2 = 0 →
            Q (-1) m2) ∧
            (¬ (z2 = 0) →
            ((0 < 1) ∧
  (((m2 26 0 9) = 12 →
              Q (-3) m2) ∧
              (¬ ((m2 26 0 9) = 12) →
              ((0 < 1) ∧
  ((0 < 1) ∧
  ((jx_in (3 * (m2 26 0 9))) ∧
  ((1 = 1 ∧ 0 ≤ (3 * (m2 26 0 9)) ∧ (3 * (m2 26 0 9)) < 36) ∧
  ((0 < 1) ∧
  ((0 < 1) ∧
  ((0 < 1) ∧
  ((jx_in (3 * ((jx_up m2 32 0 ((3 * (m2 26 0 9)).toNat) a1) 26 0 9))) ∧
  ((jx_in ((3 * ((jx_up m2 32 0 ((3 * (m2 26 0 9)).toNat) a1) 26 0 9)) + 1)) ∧
  ((1 = 1 ∧ 0 ≤ ((3 * ((jx_up m2 32 0 ((3 * (m2 26 0 9)).toNat) a1) 26 0 9)) + 1) ∧ ((3 * ((jx_up m2 32 0 ((3 * (m2 26 0 9)).toNat) a1) 26 0 9)) + 1) < 36) ∧
  ((0 < 1) ∧
  ((0 < 1) ∧
  ((0 < 1) ∧
  ((jx_in (3 * ((jx_up (jx_up m2 32 0 ((3 * (m2 26 0 9)).toNat) a1) 32 0 (((3 * ((jx_up m2 32 0 ((3 * (m2 26 0 9)).toNat) a1) 26 0 9)) + 1).toNat) a2) 26 0 9))) ∧
  ((jx_in ((3 * ((jx_up (jx_up m2 32 0 ((3 * (m2 26 0 9)).toNat) a1) 32 0 (((3 * ((jx_up m2 32 0 ((3 * (m2 26 0 9)).toNat) a1) 26 0 9)) + 1).toNat) a2) 26 0 9)) + 2)) ∧
  ((a3 = 0 →
                ((1 = 1 ∧ 0 ≤ ((3 * ((jx_up (jx_up m2 32 0 ((3 * (m2 26 0 9)).toNat) a1) 32 0 (((3 * ((jx_up m2 32 0 ((3 * (m2 26 0 9)).toNat) a1) 26 0 9)) + 1).toNat) a2) 26 0 9)) + 2) ∧ ((3 * ((jx_up (jx_up m2 32 0 ((3 * (m2 26 0 9)).toNat) a1) 32 0 (((3 * ((jx_up m2 32 0 ((3 * (m2 26 0 9)).toNat) a1) 26 0 9)) + 1).toNat) a2) 26 0 9)) + 2) < 36) ∧
  ((0 < 1) ∧
  ((0 < 1) ∧
  ((jx_in (((jx_up (jx_up (jx_up m2 32 0 ((3 * (m2 26 0 9)).toNat) a1) 32 0 (((3 * ((jx_up m2 32 0 ((3 * (m2 26 0 9)).toNat) a1) 26 0 9)) + 1).toNat) a2) 32 0 (((3 * ((jx_up (jx_up m2 32 0 ((3 * (m2 26 0 9)).toNat) a1) 32 0 (((3 * ((jx_up m2 32 0 ((3 * (m2 26 0 9)).toNat) a1) 26 0 9)) + 1).toNat) a2) 26 0 9)) + 2).toNat) 0) 26 0 9) + 1)) ∧
  ((0 < 1) ∧
  ((0 < 1) ∧
  Q ((jx_up (jx_up (jx_up (jx_up m2 32 0 ((3 * (m2 26 0 9)).toNat) a1) 32 0 (((3 * ((jx_up m2 32 0 ((3 * (m2 26 0 9)).toNat) a1) 26 0 9)) + 1).toNat) a2) 32 0 (((3 * ((jx_up (jx_up m2 32 0 ((3 * (m2 26 0 9)).toNat) a1) 32 0 (((3 * ((jx_up m2 32 0 ((3 * (m2 26 0 9)).toNat) a1) 26 0 9)) + 1).toNat) a2) 26 0 9)) + 2).toNat) 0) 26 0 9 (((jx_up (jx_up (jx_up m2 32 0 ((3 * (m2 26 0 9)).toNat) a1) 32 0 (((3 * ((jx_up m2 32 0 ((3 * (m2 26 0 9)).toNat) a1) 26 0 9)) + 1).toNat) a2) 32 0 (((3 * ((jx_up (jx_up m2 32 0 ((3 * (m2 26 0 9)).toNat) a1) 32 0 (((3 * ((jx_up m2 32 0 ((3 * (m2 26 0 9)).toNat) a1) 26 0 9)) + 1).toNat) a2) 26 0 9)) + 2).toNat) 0) 26 0 9) + 1)) 26 0 9) (jx_up (jx_up (jx_up (jx_up m2 32 0 ((3 * (m2 26 0 9)).toNat) a1) 32 0 (((3 * ((jx_up m2 32 0 ((3 * (m2 26 0 9)).toNat) a1) 26 0 9)) + 1).toNat) a2) 32 0 (((3 * ((jx_up (jx_up m2 32 0 ((3 * (m2 26 0 9)).toNat) a1) 32 0 (((3 * ((jx_up m2 32 0 ((3 * (m2 26 0 9)).toNat) a1) 26 0 9)) + 1).toNat) a2) 26 0 9)) + 2).toNat) 0) 26 0 9 (((jx_up (jx_up (jx_up m2 32 0 ((3 * (m2 26 0 9)).toNat) a1) 32 0 (((3 * ((jx_up m2 32 0 ((3 * (m2 26 0 9)).toNat) a1) 26 0 9)) + 1).toNat) a2) 32 0 (((3 * ((jx_up (jx_up m2 32 0 ((3 * (m2 26 0 9)).toNat) a1) 32 0 (((3 * ((jx_up m2 32 0 ((3 * (m2 26 0 9)).toNat) a1) 26 0 9)) + 1).toNat) a2) 26 0 9)) + 2).toNat) 0) 26 0 9) + 1))))))))) ∧
                (¬ (a3 = 0) →
                ((1 = 1 ∧ 0 ≤ ((3 * ((jx_up (jx_up m2 32 0 ((3 * (m2 26 0 9)).toNat) a1) 32 0 (((3 * ((jx_up m2 32 0 ((3 * (m2 26 0 9)).toNat) a1) 26 0 9)) + 1).toNat) a2) 26 0 9)) + 2) ∧ ((3 * ((jx_up (jx_up m2 32 0 ((3 * (m2 26 0 9)).toNat) a1) 32 0 (((3 * ((jx_up m2 32 0 ((3 * (m2 26 0 9)).toNat) a1) 26 0 9)) + 1).toNat) a2) 26 0 9)) + 2) < 36) ∧
  ((0 < 1) ∧
  ((0 < 1) ∧
  ((jx_in (((jx_up (jx_up (jx_up m2 32 0 ((3 * (m2 26 0 9)).toNat) a1) 32 0 (((3 * ((jx_up m2 32 0 ((3 * (m2 26 0 9)).toNat) a1) 26 0 9)) + 1).toNat) a2) 32 0 (((3 * ((jx_up (jx_up m2 32 0 ((3 * (m2 26 0 9)).toNat) a1) 32 0 (((3 * ((jx_up m2 32 0 ((3 * (m2 26 0 9)).toNat) a1) 26 0 9)) + 1).toNat) a2) 26 0 9)) + 2).toNat) 1) 26 0 9) + 1)) ∧
  ((0 < 1) ∧
  ((0 < 1) ∧
  Q ((jx_up (jx_up (jx_up (jx_up m2 32 0 ((3 * (m2 26 0 9)).toNat) a1) 32 0 (((3 * ((jx_up m2 32 0 ((3 * (m2 26 0 9)).toNat) a1) 26 0 9)) + 1).toNat) a2) 32 0 (((3 * ((jx_up (jx_up m2 32 0 ((3 * (m2 26 0 9)).toNat) a1) 32 0 (((3 * ((jx_up m2 32 0 ((3 * (m2 26 0 9)).toNat) a1) 26 0 9)) + 1).toNat) a2) 26 0 9)) + 2).toNat) 1) 26 0 9 (((jx_up (jx_up (jx_up m2 32 0 ((3 * (m2 26 0 9)).toNat) a1) 32 0 (((3 * ((jx_up m2 32 0 ((3 * (m2 26 0 9)).toNat) a1) 26 0 9)) + 1).toNat) a2) 32 0 (((3 * ((jx_up (jx_up m2 32 0 ((3 * (m2 26 0 9)).toNat) a1) 32 0 (((3 * ((jx_up m2 32 0 ((3 * (m2 26 0 9)).toNat) a1) 26 0 9)) + 1).toNat) a2) 26 0 9)) + 2).toNat) 1) 26 0 9) + 1)) 26 0 9) (jx_up (jx_up (jx_up (jx_up m2 32 0 ((3 * (m2 26 0 9)).toNat) a1) 32 0 (((3 * ((jx_up m2 32 0 ((3 * (m2 26 0 9)).toNat) a1) 26 0 9)) + 1).toNat) a2) 32 0 (((3 * ((jx_up (jx_up m2 32 0 ((3 * (m2 26 0 9)).toNat) a1) 32 0 (((3 * ((jx_up m2 32 0 ((3 * (m2 26 0 9)).toNat) a1) 26 0 9)) + 1).toNat) a2) 26 0 9)) + 2).toNat) 1) 26 0 9 (((jx_up (jx_up (jx_up m2 32 0 ((3 * (m2 26 0 9)).toNat) a1) 32 0 (((3 * ((jx_up m2 32 0 ((3 * (m2 26 0 9)).toNat) a1) 26 0 9)) + 1).toNat) a2) 32 0 (((3 * ((jx_up (jx_up m2 32 0 ((3 * (m2 26 0 9)).toNat) a1) 32 0 (((3 * ((jx_up m2 32 0 ((3 * (m2 26 0 9)).toNat) a1) 26 0 9)) + 1).toNat) a2) 26 0 9)) + 2).toNat) 1) 26 0 9) + 1))))))))))))))))))))))))))))))))))) :
    jx_Cl 172 [xA 26 0, xI a1, xI a2, xI a3] m Q :=
  jx_segOk (x := 172) (cd := jx_c172) rfl (stops := []) 51 hv
set_option maxRecDepth 100000 in
theorem sg_173 (a1 : Int) (a2 : Int) (m : jx_M) (Q : Int → jx_M → Prop) (hv :
    ((0 < 1) ∧
  jx_Cl 130 [xA 26 0, xI a1] m (fun z1 m1 =>
      ((z1 = 0 →
        Q (-1) m1) ∧
        (¬ (z1 = 0) →
        jx_Cl 125 [xL a2, xL 0, xL 2] m1 (fun z2 m2 =>
          ((z2 = 0 →
            Q (-1) m2) ∧
            (¬ (z2 = 0) →
            ((0 < 1) ∧
  ((jx_in (4 * a1)) ∧
  ((jx_in ((4 * a1) + 2)) ∧
  ((1 = 1 ∧ 0 ≤ ((4 * a1) + 2) ∧ ((4 * a1) + 2) < 24) ∧
  ((0 < 1) ∧
  ((0 < 1) ∧
  jx_AW 173 32 [some (xA 26 0), some (xI a1), some (xI a2), some (xI (m2 28 0 (((4 * a1) + 2).toNat))), some (xI 0), some (xI (-4)), some (xI (-4)), some (xI 0), none, none] [] (jx_up m2 26 0 17 a1) Q)))))))))))))) :
    jx_Cl 173 [xA 26 0, xI a1, xI a2] m Q :=
  jx_segOk (x := 173) (cd := jx_c173) rfl (stops := [32, 48]) 31 hv
set_option maxRecDepth 100000 in
theorem sg_174  (m : jx_M) (Q : Int → jx_M → Prop) (hv :
    ((0 < 1) ∧
  ((0 < 1) ∧
  Q (m 26 0 9) (jx_up m 26 0 9 0)))) :
    jx_Cl 174 [xA 26 0] m Q :=
  jx_segOk (x := 174) (cd := jx_c174) rfl (stops := []) 9 hv
set_option maxRecDepth 100000 in
theorem sg_175 (a1 : Int) (a2 : Int) (m : jx_M) (Q : Int → jx_M → Prop) (hv :
    ((0 < 1) ∧
  jx_Cl 130 [xA 26 0, xI a1] m (fun z1 m1 =>
      ((z1 = 0 →
        Q (-1) m1) ∧
        (¬ (z1 = 0) →
        jx_Cl 124 [xI a2] m1 (fun z2 m2 =>
          ((z2 = 0 →
            Q (-1) m2) ∧
            (¬ (z2 = 0) →
            ((0 < 1) ∧
  ((1 = 1 ∧ 0 ≤ a2 ∧ a2 < 25) ∧
  ((0 < 1) ∧
  jx_AW 175 18 [some (xA 26 0), some (xI a1), some (xI a2), some (xI (m2 27 0 (a2.toNat))), some (xI (-4)), some (xI 9)] [] m2 Q))))))))))) :
    jx_Cl 175 [xA 26 0, xI a1, xI a2] m Q :=
  jx_segOk (x := 175) (cd := jx_c175) rfl (stops := [18]) 17 hv
set_option maxRecDepth 100000 in
theorem sg_176 (a1 : Int) (a2 : Int) (m : jx_M) (Q : Int → jx_M → Prop) (hv :
    jx_AW 176 4 [some (xA 26 0), some (xI a1), some (xI a2), some (xI 0), some (xI 0)] [] m Q) :
    jx_Cl 176 [xA 26 0, xI a1, xI a2] m Q :=
  jx_segOk (x := 176) (cd := jx_c176) rfl (stops := [4]) 5 hv
set_option maxRecDepth 100000 in
theorem sg_177 (a1 : Int) (a2 : Int) (m : jx_M) (Q : Int → jx_M → Prop) (hv :
    ((0 < 1) ∧
  jx_Cl 130 [xA 26 0, xI a1] m (fun z1 m1 =>
      ((z1 = 0 →
        Q (-1) m1) ∧
        (¬ (z1 = 0) →
        jx_Cl 124 [xI a2] m1 (fun z2 m2 =>
          ((z2 = 0 →
            Q (-1) m2) ∧
            (¬ (z2 = 0) →
            ((0 < 1) ∧
  jx_Cl 176 [xA 26 0, xI a1, xI a2] m2 (fun z3 m3 =>
              Q z3 m3)))))))))) :
    jx_Cl 177 [xA 26 0, xI a1, xI a2] m Q :=
  jx_segOk (x := 177) (cd := jx_c177) rfl (stops := []) 14 hv
set_option maxRecDepth 100000 in
theorem sg_178  (m : jx_M) (Q : Int → jx_M → Prop) (hv :
    ((0 < 1) ∧
  ((0 < 1) ∧
  jx_Cl 179 [xA 27 0, xA 42 0, xI 0] m (fun z1 m1 =>
      ((0 < 1) ∧
  ((0 < 1) ∧
  jx_Cl 179 [xA 28 0, xA 42 0, xI z1] m1 (fun z2 m2 =>
        ((0 < 1) ∧
  ((0 < 1) ∧
  jx_Cl 179 [xA 29 0, xA 42 0, xI z2] m2 (fun z3 m3 =>
          ((0 < 1) ∧
  ((0 < 1) ∧
  jx_Cl 179 [xA 30 0, xA 42 0, xI z3] m3 (fun z4 m4 =>
            ((0 < 1) ∧
  ((0 < 1) ∧
  jx_Cl 179 [xA 31 0, xA 42 0, xI z4] m4 (fun z5 m5 =>
              ((0 < 1) ∧
  ((0 < 1) ∧
  jx_Cl 179 [xA 32 0, xA 42 0, xI z5] m5 (fun z6 m6 =>
                ((0 < 1) ∧
  ((0 < 1) ∧
  ((1 = 1 ∧ 0 ≤ z6 ∧ z6 < 300) ∧
  ((0 < 1) ∧
  ((0 < 1) ∧
  ((jx_in (z6 + 1)) ∧
  ((0 < 1) ∧
  ((1 = 1 ∧ 0 ≤ (z6 + 1) ∧ (z6 + 1) < 300) ∧
  ((0 < 1) ∧
  ((0 < 1) ∧
  ((jx_in (z6 + 2)) ∧
  ((0 < 1) ∧
  ((1 = 1 ∧ 0 ≤ (z6 + 2) ∧ (z6 + 2) < 300) ∧
  ((0 < 1) ∧
  ((0 < 1) ∧
  ((jx_in (z6 + 3)) ∧
  ((0 < 1) ∧
  ((1 = 1 ∧ 0 ≤ (z6 + 3) ∧ (z6 + 3) < 300) ∧
  ((0 < 1) ∧
  ((0 < 1) ∧
  ((jx_in (z6 + 4)) ∧
  ((0 < 1) ∧
  ((1 = 1 ∧ 0 ≤ (z6 + 4) ∧ (z6 + 4) < 300) ∧
  ((0 < 1) ∧
  ((0 < 1) ∧
  (((1 : Int) = 0 ∨ (1 : Int) = 1) ∧
  Q 1 (jx_up (jx_up (jx_up (jx_up (jx_up (jx_up m6 42 0 (z6.toNat) (m6 26 0 1)) 42 0 ((z6 + 1).toNat) ((jx_up m6 42 0 (z6.toNat) (m6 26 0 1)) 26 0 5)) 42 0 ((z6 + 2).toNat) ((jx_up (jx_up m6 42 0 (z6.toNat) (m6 26 0 1)) 42 0 ((z6 + 1).toNat) ((jx_up m6 42 0 (z6.toNat) (m6 26 0 1)) 26 0 5)) 26 0 6)) 42 0 ((z6 + 3).toNat) ((jx_up (jx_up (jx_up m6 42 0 (z6.toNat) (m6 26 0 1)) 42 0 ((z6 + 1).toNat) ((jx_up m6 42 0 (z6.toNat) (m6 26 0 1)) 26 0 5)) 42 0 ((z6 + 2).toNat) ((jx_up (jx_up m6 42 0 (z6.toNat) (m6 26 0 1)) 42 0 ((z6 + 1).toNat) ((jx_up m6 42 0 (z6.toNat) (m6 26 0 1)) 26 0 5)) 26 0 6)) 26 0 7)) 42 0 ((z6 + 4).toNat) ((jx_up (jx_up (jx_up (jx_up m6 42 0 (z6.toNat) (m6 26 0 1)) 42 0 ((z6 + 1).toNat) ((jx_up m6 42 0 (z6.toNat) (m6 26 0 1)) 26 0 5)) 42 0 ((z6 + 2).toNat) ((jx_up (jx_up m6 42 0 (z6.toNat) (m6 26 0 1)) 42 0 ((z6 + 1).toNat) ((jx_up m6 42 0 (z6.toNat) (m6 26 0 1)) 26 0 5)) 26 0 6)) 42 0 ((z6 + 3).toNat) ((jx_up (jx_up (jx_up m6 42 0 (z6.toNat) (m6 26 0 1)) 42 0 ((z6 + 1).toNat) ((jx_up m6 42 0 (z6.toNat) (m6 26 0 1)) 26 0 5)) 42 0 ((z6 + 2).toNat) ((jx_up (jx_up m6 42 0 (z6.toNat) (m6 26 0 1)) 42 0 ((z6 + 1).toNat) ((jx_up m6 42 0 (z6.toNat) (m6 26 0 1)) 26 0 5)) 26 0 6)) 26 0 7)) 26 0 9)) 26 0 27 1)))))))))))))))))))))))))))))))))))))))))))))) :
    jx_Cl 178 [xA 26 0] m Q :=
  jx_segOk (x := 178) (cd := jx_c178) rfl (stops := []) 86 hv
set_option maxRecDepth 100000 in
theorem sg_180  (m : jx_M) (Q : Int → jx_M → Prop) (hv :
    ((0 < 1) ∧
  (((m 26 0 27) = 0 →
      Q (-4) m) ∧
      (¬ ((m 26 0 27) = 0) →
      ((0 < 1) ∧
  ((0 < 1) ∧
  jx_Cl 181 [xA 42 0, xI 0, xA 27 0] m (fun z1 m1 =>
        ((0 < 1) ∧
  ((0 < 1) ∧
  jx_Cl 181 [xA 42 0, xI z1, xA 28 0] m1 (fun z2 m2 =>
          ((0 < 1) ∧
  ((0 < 1) ∧
  jx_Cl 181 [xA 42 0, xI z2, xA 29 0] m2 (fun z3 m3 =>
            ((0 < 1) ∧
  ((0 < 1) ∧
  jx_Cl 181 [xA 42 0, xI z3, xA 30 0] m3 (fun z4 m4 =>
              ((0 < 1) ∧
  ((0 < 1) ∧
  jx_Cl 181 [xA 42 0, xI z4, xA 31 0] m4 (fun z5 m5 =>
                ((0 < 1) ∧
  ((0 < 1) ∧
  jx_Cl 181 [xA 42 0, xI z5, xA 32 0] m5 (fun z6 m6 =>
                  ((0 < 1) ∧
  ((1 = 1 ∧ 0 ≤ z6 ∧ z6 < 300) ∧
  ((0 < 1) ∧
  ((0 < 1) ∧
  ((0 < 1) ∧
  ((jx_in (z6 + 1)) ∧
  ((1 = 1 ∧ 0 ≤ (z6 + 1) ∧ (z6 + 1) < 300) ∧
  ((0 < 1) ∧
  ((0 < 1) ∧
  ((0 < 1) ∧
  ((jx_in (z6 + 2)) ∧
  ((1 = 1 ∧ 0 ≤ (z6 + 2) ∧ (z6 + 2) < 300) ∧
  ((0 < 1) ∧
  ((0 < 1) ∧
  ((0 < 1) ∧
  ((jx_in (z6 + 3)) ∧
  ((1 = 1 ∧ 0 ≤ (z6 + 3) ∧ (z6 + 3) < 300) ∧
  ((0 < 1) ∧
  ((0 < 1) ∧
  ((0 < 1) ∧
  ((jx_in (z6 + 4)) ∧
  ((1 = 1 ∧ 0 ≤ (z6 + 4) ∧ (z6 + 4) < 300) ∧
  ((0 < 1) ∧
  ((0 < 1) ∧
  Q 1 (jx_up (jx_up (jx_up (jx_up (jx_up m6 26 0 1 (m6 42 0 (z6.toNat))) 26 0 5 ((jx_up m6 26 0 1 (m6 42 0 (z6.toNat))) 42 0 ((z6 + 1).toNat))) 26 0 6 ((jx_up (jx_up m6 26 0 1 (m6 42 0 (z6.toNat))) 26 0 5 ((jx_up m6 26 0 1 (m6 42 0 (z6.toNat))) 42 0 ((z6 + 1).toNat))) 42 0 ((z6 + 2).toNat))) 26 0 7 ((jx_up (jx_up (jx_up m6 26 0 1 (m6 42 0 (z6.toNat))) 26 0 5 ((jx_up m6 26 0 1 (m6 42 0 (z6.toNat))) 42 0 ((z6 + 1).toNat))) 26 0 6 ((jx_up (jx_up m6 26 0 1 (m6 42 0 (z6.toNat))) 26 0 5 ((jx_up m6 26 0 1 (m6 42 0 (z6.toNat))) 42 0 ((z6 + 1).toNat))) 42 0 ((z6 + 2).toNat))) 42 0 ((z6 + 3).toNat))) 26 0 9 ((jx_up (jx_up (jx_up (jx_up m6 26 0 1 (m6 42 0 (z6.toNat))) 26 0 5 ((jx_up m6 26 0 1 (m6 42 0 (z6.toNat))) 42 0 ((z6 + 1).toNat))) 26 0 6 ((jx_up (jx_up m6 26 0 1 (m6 42 0 (z6.toNat))) 26 0 5 ((jx_up m6 26 0 1 (m6 42 0 (z6.toNat))) 42 0 ((z6 + 1).toNat))) 42 0 ((z6 + 2).toNat))) 26 0 7 ((jx_up (jx_up (jx_up m6 26 0 1 (m6 42 0 (z6.toNat))) 26 0 5 ((jx_up m6 26 0 1 (m6 42 0 (z6.toNat))) 42 0 ((z6 + 1).toNat))) 26 0 6 ((jx_up (jx_up m6 26 0 1 (m6 42 0 (z6.toNat))) 26 0 5 ((jx_up m6 26 0 1 (m6 42 0 (z6.toNat))) 42 0 ((z6 + 1).toNat))) 42 0 ((z6 + 2).toNat))) 42 0 ((z6 + 3).toNat))) 42 0 ((z6 + 4).toNat))))))))))))))))))))))))))))))))))))))))))))))))) :
    jx_Cl 180 [xA 26 0] m Q :=
  jx_segOk (x := 180) (cd := jx_c180) rfl (stops := []) 86 hv
set_option maxRecDepth 100000 in
theorem sg_182 (a1 : Int) (a2 : Int) (a3 : Int) (a4 : Int) (a5 : Int) (a6 : Int) (m : jx_M) (Q : Int → jx_M → Prop) (hv :
    jx_Cl 183 [xI a1] m (fun z1 m1 =>
      ((z1 = 0 →
        Q (-1) m1) ∧
        (¬ (z1 = 0) →
        jx_Cl 184 [xI a2] m1 (fun z2 m2 =>
          ((z2 = 0 →
            Q (-1) m2) ∧
            (¬ (z2 = 0) →
            jx_Cl 125 [xL a4, xL 1, xL 6] m2 (fun z3 m3 =>
              ((z3 = 0 →
                Q (-1) m3) ∧
                (¬ (z3 = 0) →
                jx_Cl 125 [xL a5, xL 1, xL 6] m3 (fun z4 m4 =>
                  ((z4 = 0 →
                    Q (-1) m4) ∧
                    (¬ (z4 = 0) →
                    ((jx_in (a5 - 1)) ∧
  jx_Cl 125 [xL a6, xL (-1), xL (a5 - 1)] m4 (fun z5 m5 =>
                      ((z5 = 0 →
                        Q (-1) m5) ∧
                        (¬ (z5 = 0) →
                        ((jx_in (a4 * a5)) ∧
  ((0 < 1) ∧
  jx_Cl 185 [xA 26 0, xI a1, xI a2, xI a3, xI (a4 * a5)] m5 (fun z6 m6 =>
                          ((z6 < 0 →
                            Q z6 m6) ∧
                            (¬ (z6 < 0) →
                            ((jx_in (24 * a1)) ∧
  ((jx_in ((24 * a1) + a3)) ∧
  jx_AW 182 50 [some (xA 26 0), some (xI a1), some (xI a2), some (xI a3), some (xI a4), some (xI a5), some (xI a6), some (xI z6), some (xI ((24 * a1) + a3)), some (xI 0), none, none, none, none] [] m6 Q)))))))))))))))))))))))) :
    jx_Cl 182 [xA 26 0, xI a1, xI a2, xI a3, xI a4, xI a5, xI a6] m Q :=
  jx_segOk (x := 182) (cd := jx_c182) rfl (stops := [50, 72, 79, 86]) 47 hv
set_option maxRecDepth 100000 in
theorem sg_183 (a1 : Int) (m : jx_M) (Q : Int → jx_M → Prop) (hv :
    jx_Cl 125 [xL a1, xL 0, xL 3] m (fun z1 m1 =>
      ((z1 = 0 ∨ z1 = 1) ∧
  Q z1 m1))) :
    jx_Cl 183 [xI a1] m Q :=
  jx_segOk (x := 183) (cd := jx_c183) rfl (stops := []) 7 hv
set_option maxRecDepth 100000 in
theorem sg_184 (a1 : Int) (m : jx_M) (Q : Int → jx_M → Prop) (hv :
    jx_Cl 125 [xL a1, xL 0, xL 2] m (fun z1 m1 =>
      ((z1 = 0 ∨ z1 = 1) ∧
  Q z1 m1))) :
    jx_Cl 184 [xI a1] m Q :=
  jx_segOk (x := 184) (cd := jx_c184) rfl (stops := []) 7 hv
set_option maxRecDepth 100000 in
theorem sg_185 (a1 : Int) (a2 : Int) (a3 : Int) (a4 : Int) (m : jx_M) (Q : Int → jx_M → Prop) (hv :
    ((0 < 1) ∧
  ((1 = 1 ∧ 0 ≤ a1 ∧ a1 < 4) ∧
  ((0 < 1) ∧
  (((m 43 0 (a1.toNat)) < 0 →
      Q (-11) m) ∧
      (¬ ((m 43 0 (a1.toNat)) < 0) →
      ((0 < 1) ∧
  ((1 = 1 ∧ 0 ≤ a1 ∧ a1 < 4) ∧
  ((0 < 1) ∧
  (((m 43 0 (a1.toNat)) = a2 →
        ((a3 < 0 →
          Q (-13) m) ∧
          (¬ (a3 < 0) →
          ((jx_inL (a3 + a4)) ∧
  ((0 < 1) ∧
  ((1 = 1 ∧ 0 ≤ a1 ∧ a1 < 4) ∧
  ((0 < 1) ∧
  (((0 : Int) < (jx_lcmp (a3 + a4) (m 44 0 (a1.toNat))) →
            Q (-13) m) ∧
            (¬ ((0 : Int) < (jx_lcmp (a3 + a4) (m 44 0 (a1.toNat)))) →
            Q 0 m))))))))) ∧
        (¬ ((m 43 0 (a1.toNat)) = a2) →
        Q (-12) m))))))))))) :
    jx_Cl 185 [xA 26 0, xI a1, xI a2, xI a3, xI a4] m Q :=
  jx_segOk (x := 185) (cd := jx_c185) rfl (stops := []) 29 hv
set_option maxRecDepth 100000 in
theorem sg_186 (a1 : Int) (a2 : Int) (a3 : Int) (a4 : Int) (a5 : Int) (a6 : Int) (m : jx_M) (Q : Int → jx_M → Prop) (hv :
    jx_Cl 183 [xI a1] m (fun z1 m1 =>
      ((z1 = 0 →
        Q (-1) m1) ∧
        (¬ (z1 = 0) →
        jx_Cl 184 [xI a2] m1 (fun z2 m2 =>
          ((z2 = 0 →
            Q (-1) m2) ∧
            (¬ (z2 = 0) →
            jx_Cl 125 [xL a4, xL 1, xL 5] m2 (fun z3 m3 =>
              ((z3 = 0 →
                Q (-1) m3) ∧
                (¬ (z3 = 0) →
                jx_Cl 125 [xL a5, xL 1, xL 6] m3 (fun z4 m4 =>
                  ((z4 = 0 →
                    Q (-1) m4) ∧
                    (¬ (z4 = 0) →
                    ((jx_in (a4 - 1)) ∧
  jx_Cl 125 [xL a6, xL 0, xL (a4 - 1)] m4 (fun z5 m5 =>
                      ((z5 = 0 →
                        Q (-1) m5) ∧
                        (¬ (z5 = 0) →
                        ((jx_in (a5 + 1)) ∧
  ((jx_in (a4 * (a5 + 1))) ∧
  ((0 < 1) ∧
  jx_Cl 185 [xA 26 0, xI a1, xI a2, xI a3, xI (a4 * (a5 + 1))] m5 (fun z6 m6 =>
                          ((z6 < 0 →
                            Q z6 m6) ∧
                            (¬ (z6 < 0) →
                            ((jx_in (24 * a1)) ∧
  ((jx_in ((24 * a1) + a3)) ∧
  jx_AW 186 52 [some (xA 26 0), some (xI a1), some (xI a2), some (xI a3), some (xI a4), some (xI a5), some (xI a6), some (xI z6), some (xI ((24 * a1) + a3)), some (xI 0), none, none, none, none, none, none] [] m6 Q))))))))))))))))))))))))) :
    jx_Cl 186 [xA 26 0, xI a1, xI a2, xI a3, xI a4, xI a5, xI a6] m Q :=
  jx_segOk (x := 186) (cd := jx_c186) rfl (stops := [52, 94]) 49 hv
set_option maxRecDepth 100000 in
theorem sg_187 (a1 : Int) (a2 : Int) (a3 : Int) (m : jx_M) (Q : Int → jx_M → Prop) (hv :
    jx_Cl 183 [xI a1] m (fun z1 m1 =>
      ((z1 = 0 →
        Q (-1) m1) ∧
        (¬ (z1 = 0) →
        jx_Cl 184 [xI a2] m1 (fun z2 m2 =>
          ((z2 = 0 →
            Q (-1) m2) ∧
            (¬ (z2 = 0) →
            (((24 : Int) < a3 →
              Q (-1) m2) ∧
              (¬ ((24 : Int) < a3) →
              ((a3 < 0 →
                Q (-14) m2) ∧
                (¬ (a3 < 0) →
                ((0 < 1) ∧
  ((1 = 1 ∧ 0 ≤ a1 ∧ a1 < 4) ∧
  ((0 < 1) ∧
  ((0 < 1) ∧
  ((1 = 1 ∧ 0 ≤ a1 ∧ a1 < 4) ∧
  ((0 < 1) ∧
  jx_AW 187 27 [some (xA 26 0), some (xI a1), some (xI a2), some (xI a3), some (xI 0)] [] (jx_up (jx_up m2 43 0 (a1.toNat) a2) 44 0 (a1.toNat) a3) Q))))))))))))))))) :
    jx_Cl 187 [xA 26 0, xI a1, xI a2, xI a3] m Q :=
  jx_segOk (x := 187) (cd := jx_c187) rfl (stops := [27]) 24 hv
set_option maxRecDepth 100000 in
theorem sg_188 (a1 : Int) (m : jx_M) (Q : Int → jx_M → Prop) (hv :
    jx_Cl 183 [xI a1] m (fun z1 m1 =>
      ((z1 = 0 →
        Q (-1) m1) ∧
        (¬ (z1 = 0) →
        ((0 < 1) ∧
  ((1 = 1 ∧ 0 ≤ a1 ∧ a1 < 4) ∧
  ((0 < 1) ∧
  (((m1 43 0 (a1.toNat)) < 0 →
          Q (-11) m1) ∧
          (¬ ((m1 43 0 (a1.toNat)) < 0) →
          ((0 < 1) ∧
  ((1 = 1 ∧ 0 ≤ a1 ∧ a1 < 4) ∧
  ((0 < 1) ∧
  ((0 < 1) ∧
  ((1 = 1 ∧ 0 ≤ a1 ∧ a1 < 4) ∧
  ((0 < 1) ∧
  Q ((jx_up m1 43 0 (a1.toNat) (-1)) 44 0 (a1.toNat)) (jx_up m1 43 0 (a1.toNat) (-1))))))))))))))))) :
    jx_Cl 188 [xA 26 0, xI a1] m Q :=
  jx_segOk (x := 188) (cd := jx_c188) rfl (stops := []) 19 hv
set_option maxRecDepth 100000 in
theorem sg_189 (a1 : Int) (a2 : Int) (a3 : Int) (a4 : Int) (m : jx_M) (Q : Int → jx_M → Prop) (hv :
    jx_Cl 183 [xI a1] m (fun z1 m1 =>
      ((z1 = 0 →
        Q (-1) m1) ∧
        (¬ (z1 = 0) →
        jx_Cl 184 [xI a2] m1 (fun z2 m2 =>
          ((z2 = 0 →
            Q (-1) m2) ∧
            (¬ (z2 = 0) →
            ((0 < 1) ∧
  jx_Cl 185 [xA 26 0, xI a1, xI a2, xI a3, xI 1] m2 (fun z3 m3 =>
              ((z3 < 0 →
                Q z3 m3) ∧
                (¬ (z3 < 0) →
                ((0 < 1) ∧
  ((jx_in (24 * a1)) ∧
  ((jx_in ((24 * a1) + a3)) ∧
  ((a2 = 0 →
                  ((1 = 1 ∧ 0 ≤ ((24 * a1) + a3) ∧ ((24 * a1) + a3) < 96) ∧
  ((0 < 1) ∧
  Q 1 (jx_up m3 45 0 (((24 * a1) + a3).toNat) (jx_i2b a4))))) ∧
                  (¬ (a2 = 0) →
                  ((a2 = 1 →
                    ((1 = 1 ∧ 0 ≤ ((24 * a1) + a3) ∧ ((24 * a1) + a3) < 96) ∧
  ((0 < 1) ∧
  Q 1 (jx_up m3 45 0 (((24 * a1) + a3).toNat) (jx_i2s a4))))) ∧
                    (¬ (a2 = 1) →
                    ((1 = 1 ∧ 0 ≤ ((24 * a1) + a3) ∧ ((24 * a1) + a3) < 96) ∧
  ((0 < 1) ∧
  Q 1 (jx_up m3 45 0 (((24 * a1) + a3).toNat) a4))))))))))))))))))))) :
    jx_Cl 189 [xA 26 0, xI a1, xI a2, xI a3, xI a4] m Q :=
  jx_segOk (x := 189) (cd := jx_c189) rfl (stops := []) 34 hv
set_option maxRecDepth 100000 in
theorem sg_190 (a1 : Int) (a2 : Int) (a3 : Int) (a4 : Int) (a5 : Int) (m : jx_M) (Q : Int → jx_M → Prop) (hv :
    jx_Cl 183 [xI a1] m (fun z1 m1 =>
      ((z1 = 0 →
        Q (-1) m1) ∧
        (¬ (z1 = 0) →
        jx_Cl 183 [xI a3] m1 (fun z2 m2 =>
          ((z2 = 0 →
            Q (-1) m2) ∧
            (¬ (z2 = 0) →
            ((0 < 1) ∧
  ((1 = 1 ∧ 0 ≤ a1 ∧ a1 < 4) ∧
  ((0 < 1) ∧
  (((m2 43 0 (a1.toNat)) < 0 →
              Q (-11) m2) ∧
              (¬ ((m2 43 0 (a1.toNat)) < 0) →
              ((0 < 1) ∧
  ((1 = 1 ∧ 0 ≤ a3 ∧ a3 < 4) ∧
  ((0 < 1) ∧
  (((m2 43 0 (a3.toNat)) < 0 →
                Q (-11) m2) ∧
                (¬ ((m2 43 0 (a3.toNat)) < 0) →
                ((0 < 1) ∧
  ((1 = 1 ∧ 0 ≤ a1 ∧ a1 < 4) ∧
  ((0 < 1) ∧
  ((0 < 1) ∧
  ((1 = 1 ∧ 0 ≤ a3 ∧ a3 < 4) ∧
  ((0 < 1) ∧
  (((m2 43 0 (a1.toNat)) = (m2 43 0 (a3.toNat)) →
                  ((a5 < 0 →
                    Q (-13) m2) ∧
                    (¬ (a5 < 0) →
                    ((0 < 1) ∧
  ((1 = 1 ∧ 0 ≤ a1 ∧ a1 < 4) ∧
  ((0 < 1) ∧
  ((0 < 1) ∧
  jx_Cl 185 [xA 26 0, xI a1, xI (m2 43 0 (a1.toNat)), xI a2, xI a5] m2 (fun z3 m3 =>
                      ((z3 < 0 →
                        Q (-13) m3) ∧
                        (¬ (z3 < 0) →
                        ((0 < 1) ∧
  ((1 = 1 ∧ 0 ≤ a3 ∧ a3 < 4) ∧
  ((0 < 1) ∧
  ((0 < 1) ∧
  jx_Cl 185 [xA 26 0, xI a3, xI (m3 43 0 (a3.toNat)), xI a4, xI a5] m3 (fun z4 m4 =>
                          ((z4 < 0 →
                            Q (-13) m4) ∧
                            (¬ (z4 < 0) →
                            jx_AW 190 57 [some (xA 26 0), some (xI a1), some (xI a2), some (xI a3), some (xI a4), some (xI a5), some (xI 0)] [] m4 Q))))))))))))))))) ∧
                  (¬ ((m2 43 0 (a1.toNat)) = (m2 43 0 (a3.toNat))) →
                  Q (-12) m2))))))))))))))))))))))))) :
    jx_Cl 190 [xA 26 0, xI a1, xI a2, xI a3, xI a4, xI a5] m Q :=
  jx_segOk (x := 190) (cd := jx_c190) rfl (stops := [57, 78]) 50 hv
