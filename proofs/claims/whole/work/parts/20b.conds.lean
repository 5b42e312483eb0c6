set_option maxRecDepth 100000 in
theorem sg_123 (a1 : Int) (a2 : Int) (m : jx_M) (Q : Int → jx_M → Prop) (hv :
    jx_Cl 124 [xI a1] m (fun z1 m1 =>
      ((z1 = 0 →
        Q (-1) m1) ∧
        (¬ (z1 = 0) →
        jx_Cl 125 [xL a2, xL 0, xL 9] m1 (fun z2 m2 =>
          ((z2 = 0 →
            Q (-1) m2) ∧
            (¬ (z2 = 0) →
            ((0 < 1) ∧
  ((1 = 1 ∧ 0 ≤ a1 ∧ a1 < 25) ∧
  ((0 < 1) ∧
  ((0 < 1) ∧
  ((1 = 1 ∧ 0 ≤ a1 ∧ a1 < 25) ∧
  ((0 < 1) ∧
  Q (m2 27 0 (a1.toNat)) (jx_up m2 27 0 (a1.toNat) a2)))))))))))))) :
    jx_Cl 123 [xA 26 0, xI a1, xI a2] m Q :=
  jx_segOk (x := 123) (cd := jx_c123) rfl (stops := []) 22 hv
set_option maxRecDepth 100000 in
theorem sg_124 (a1 : Int) (m : jx_M) (Q : Int → jx_M → Prop) (hv :
    jx_Cl 125 [xL a1, xL 0, xL 24] m (fun z1 m1 =>
      ((z1 = 0 ∨ z1 = 1) ∧
  Q z1 m1))) :
    jx_Cl 124 [xI a1] m Q :=
  jx_segOk (x := 124) (cd := jx_c124) rfl (stops := []) 7 hv
set_option maxRecDepth 100000 in
theorem sg_125 (a1 : Int) (a2 : Int) (a3 : Int) (m : jx_M) (Q : Int → jx_M → Prop) (hv :
    (((jx_lcmp a1 a2) < 0 →
      (((0 : Int) = 0 ∨ (0 : Int) = 1) ∧
  Q 0 m)) ∧
      (¬ ((jx_lcmp a1 a2) < 0) →
      (((0 : Int) < (jx_lcmp a1 a3) →
        (((0 : Int) = 0 ∨ (0 : Int) = 1) ∧
  Q 0 m)) ∧
        (¬ ((0 : Int) < (jx_lcmp a1 a3)) →
        (((1 : Int) = 0 ∨ (1 : Int) = 1) ∧
  Q 1 m)))))) :
    jx_Cl 125 [xL a1, xL a2, xL a3] m Q :=
  jx_segOk (x := 125) (cd := jx_c125) rfl (stops := []) 12 hv
set_option maxRecDepth 100000 in
theorem sg_126 (a1 : Int) (a2 : Int) (a3 : Int) (m : jx_M) (Q : Int → jx_M → Prop) (hv :
    jx_Cl 127 [xI 0, xI a1] m (fun z1 m1 =>
      ((z1 = 0 →
        Q (-1) m1) ∧
        (¬ (z1 = 0) →
        jx_Cl 127 [xI 1, xI a2] m1 (fun z2 m2 =>
          ((z2 = 0 →
            Q (-1) m2) ∧
            (¬ (z2 = 0) →
            jx_Cl 127 [xI 3, xI a3] m2 (fun z3 m3 =>
              ((z3 = 0 →
                Q (-1) m3) ∧
                (¬ (z3 = 0) →
                ((0 < 1) ∧
  (((m3 26 0 1) = 6 →
                  Q (-3) m3) ∧
                  (¬ ((m3 26 0 1) = 6) →
                  ((0 < 1) ∧
  ((0 < 1) ∧
  ((jx_in (4 * (m3 26 0 1))) ∧
  ((1 = 1 ∧ 0 ≤ (4 * (m3 26 0 1)) ∧ (4 * (m3 26 0 1)) < 24) ∧
  ((0 < 1) ∧
  ((0 < 1) ∧
  ((jx_in (4 * (m3 26 0 1))) ∧
  ((jx_in ((4 * (m3 26 0 1)) + 1)) ∧
  ((1 = 1 ∧ 0 ≤ ((4 * (m3 26 0 1)) + 1) ∧ ((4 * (m3 26 0 1)) + 1) < 24) ∧
  ((0 < 1) ∧
  ((0 < 1) ∧
  ((jx_in (4 * (m3 26 0 1))) ∧
  ((jx_in ((4 * (m3 26 0 1)) + 2)) ∧
  ((1 = 1 ∧ 0 ≤ ((4 * (m3 26 0 1)) + 2) ∧ ((4 * (m3 26 0 1)) + 2) < 24) ∧
  ((0 < 1) ∧
  ((0 < 1) ∧
  ((jx_in (4 * (m3 26 0 1))) ∧
  ((jx_in ((4 * (m3 26 0 1)) + 3)) ∧
  ((1 = 1 ∧ 0 ≤ ((4 * (m3 26 0 1)) + 3) ∧ ((4 * (m3 26 0 1)) + 3) < 24) ∧
  ((0 < 1) ∧
  ((0 < 1) ∧
  ((jx_in (13 * (m3 26 0 1))) ∧
  ((1 = 1 ∧ 0 ≤ (13 * (m3 26 0 1)) ∧ (13 * (m3 26 0 1)) < 78) ∧
  ((0 < 1) ∧
  ((0 < 1) ∧
  ((jx_in (13 * (m3 26 0 1))) ∧
  ((jx_in ((13 * (m3 26 0 1)) + 1)) ∧
  ((1 = 1 ∧ 0 ≤ ((13 * (m3 26 0 1)) + 1) ∧ ((13 * (m3 26 0 1)) + 1) < 78) ∧
  ((0 < 1) ∧
  ((0 < 1) ∧
  ((jx_in (7 * (m3 26 0 1))) ∧
  ((1 = 1 ∧ 0 ≤ (7 * (m3 26 0 1)) ∧ (7 * (m3 26 0 1)) < 42) ∧
  ((0 < 1) ∧
  ((0 < 1) ∧
  ((jx_in (7 * (m3 26 0 1))) ∧
  ((jx_in ((7 * (m3 26 0 1)) + 1)) ∧
  ((1 = 1 ∧ 0 ≤ ((7 * (m3 26 0 1)) + 1) ∧ ((7 * (m3 26 0 1)) + 1) < 42) ∧
  ((0 < 1) ∧
  ((0 < 1) ∧
  ((jx_in (((jx_up (jx_up (jx_up (jx_up (jx_up (jx_up (jx_up (jx_up m3 28 0 ((4 * (m3 26 0 1)).toNat) a1) 28 0 (((4 * (m3 26 0 1)) + 1).toNat) a2) 28 0 (((4 * (m3 26 0 1)) + 2).toNat) 0) 28 0 (((4 * (m3 26 0 1)) + 3).toNat) a3) 29 0 ((13 * (m3 26 0 1)).toNat) 1) 29 0 (((13 * (m3 26 0 1)) + 1).toNat) 0) 30 0 ((7 * (m3 26 0 1)).toNat) 1) 30 0 (((7 * (m3 26 0 1)) + 1).toNat) 5) 26 0 1) + 1)) ∧
  ((0 < 1) ∧
  Q (m3 26 0 1) (jx_up (jx_up (jx_up (jx_up (jx_up (jx_up (jx_up (jx_up (jx_up m3 28 0 ((4 * (m3 26 0 1)).toNat) a1) 28 0 (((4 * (m3 26 0 1)) + 1).toNat) a2) 28 0 (((4 * (m3 26 0 1)) + 2).toNat) 0) 28 0 (((4 * (m3 26 0 1)) + 3).toNat) a3) 29 0 ((13 * (m3 26 0 1)).toNat) 1) 29 0 (((13 * (m3 26 0 1)) + 1).toNat) 0) 30 0 ((7 * (m3 26 0 1)).toNat) 1) 30 0 (((7 * (m3 26 0 1)) + 1).toNat) 5) 26 0 1 (((jx_up (jx_up (jx_up (jx_up (jx_up (jx_up (jx_up (jx_up m3 28 0 ((4 * (m3 26 0 1)).toNat) a1) 28 0 (((4 * (m3 26 0 1)) + 1).toNat) a2) 28 0 (((4 * (m3 26 0 1)) + 2).toNat) 0) 28 0 (((4 * (m3 26 0 1)) + 3).toNat) a3) 29 0 ((13 * (m3 26 0 1)).toNat) 1) 29 0 (((13 * (m3 26 0 1)) + 1).toNat) 0) 30 0 ((7 * (m3 26 0 1)).toNat) 1) 30 0 (((7 * (m3 26 0 1)) + 1).toNat) 5) 26 0 1) + 1)))))))))))))))))))))))))))))))))))))))))))))))))))))))) :
    jx_Cl 126 [xA 26 0, xI a1, xI a2, xI a3] m Q :=
  jx_segOk (x := 126) (cd := jx_c126) rfl (stops := []) 94 hv
set_option maxRecDepth 100000 in
theorem sg_127 (a1 : Int) (a2 : Int) (m : jx_M) (Q : Int → jx_M → Prop) (hv :
    ((a1 = 0 →
      jx_Cl 125 [xL a2, xL 0, xL 3] m (fun z1 m1 =>
        ((z1 = 0 ∨ z1 = 1) ∧
  Q z1 m1))) ∧
      (¬ (a1 = 0) →
      ((a1 = 1 →
        jx_Cl 125 [xL a2, xL 1, xL 9] m (fun z2 m2 =>
          ((z2 = 0 ∨ z2 = 1) ∧
  Q z2 m2))) ∧
        (¬ (a1 = 1) →
        ((a1 = 2 →
          jx_Cl 128 [xI a2] m (fun z3 m3 =>
            ((z3 = 0 ∨ z3 = 1) ∧
  Q z3 m3))) ∧
          (¬ (a1 = 2) →
          jx_Cl 125 [xL a2, xL 1, xL 5] m (fun z4 m4 =>
            ((z4 = 0 ∨ z4 = 1) ∧
  Q z4 m4))))))))) :
    jx_Cl 127 [xI a1, xI a2] m Q :=
  jx_segOk (x := 127) (cd := jx_c127) rfl (stops := []) 15 hv
set_option maxRecDepth 100000 in
theorem sg_128 (a1 : Int) (m : jx_M) (Q : Int → jx_M → Prop) (hv :
    jx_Cl 125 [xL a1, xL 0, xL 119] m (fun z1 m1 =>
      ((z1 = 0 ∨ z1 = 1) ∧
  Q z1 m1))) :
    jx_Cl 128 [xI a1] m Q :=
  jx_segOk (x := 128) (cd := jx_c128) rfl (stops := []) 7 hv
set_option maxRecDepth 100000 in
theorem sg_129 (a1 : Int) (a2 : Int) (a3 : Int) (m : jx_M) (Q : Int → jx_M → Prop) (hv :
    ((0 < 1) ∧
  jx_Cl 130 [xA 26 0, xI a1] m (fun z1 m1 =>
      ((z1 = 0 →
        Q (-1) m1) ∧
        (¬ (z1 = 0) →
        jx_Cl 125 [xL a2, xL 0, xL 3] m1 (fun z2 m2 =>
          ((z2 = 0 →
            Q (-1) m2) ∧
            (¬ (z2 = 0) →
            jx_Cl 127 [xI a2, xI a3] m2 (fun z3 m3 =>
              ((z3 = 0 →
                Q (-1) m3) ∧
                (¬ (z3 = 0) →
                ((0 < 1) ∧
  ((jx_in (4 * a1)) ∧
  ((jx_in ((4 * a1) + a2)) ∧
  ((1 = 1 ∧ 0 ≤ ((4 * a1) + a2) ∧ ((4 * a1) + a2) < 24) ∧
  ((0 < 1) ∧
  ((0 < 1) ∧
  ((jx_in (4 * a1)) ∧
  ((jx_in ((4 * a1) + a2)) ∧
  ((1 = 1 ∧ 0 ≤ ((4 * a1) + a2) ∧ ((4 * a1) + a2) < 24) ∧
  ((0 < 1) ∧
  Q (m3 28 0 (((4 * a1) + a2).toNat)) (jx_up m3 28 0 (((4 * a1) + a2).toNat) a3)))))))))))))))))))))) :
    jx_Cl 129 [xA 26 0, xI a1, xI a2, xI a3] m Q :=
  jx_segOk (x := 129) (cd := jx_c129) rfl (stops := []) 35 hv
set_option maxRecDepth 100000 in
theorem sg_130 (a1 : Int) (m : jx_M) (Q : Int → jx_M → Prop) (hv :
    ((0 < 1) ∧
  ((jx_in ((m 26 0 1) - 1)) ∧
  jx_Cl 125 [xL a1, xL 0, xL ((m 26 0 1) - 1)] m (fun z1 m1 =>
      ((z1 = 0 ∨ z1 = 1) ∧
  Q z1 m1))))) :
    jx_Cl 130 [xA 26 0, xI a1] m Q :=
  jx_segOk (x := 130) (cd := jx_c130) rfl (stops := []) 11 hv
set_option maxRecDepth 100000 in
theorem sg_131 (a1 : Int) (a2 : Int) (m : jx_M) (Q : Int → jx_M → Prop) (hv :
    jx_Cl 125 [xL a2, xL 1, xL 8] m (fun z1 m1 =>
      ((z1 = 0 →
        Q (-1) m1) ∧
        (¬ (z1 = 0) →
        jx_AW 131 10 [some (xA 26 0), some (xL a1), none, some (xI a2), some (xI 0)] [] m1 Q)))) :
    jx_Cl 131 [xA 26 0, xL a1, xI a2] m Q :=
  jx_segOk (x := 131) (cd := jx_c131) rfl (stops := [10, 40]) 9 hv
set_option maxRecDepth 100000 in
theorem sg_131_10 (b1 : Int) (b3 : Int) (b4 : Int) (m : jx_M) (Q : Int → jx_M → Prop) (hv :
    ((b4 < b3 →
      ((jx_in (8 * b4)) ∧
  jx_Cl 125 [xL (jx_land (jx_lshr b1 (8 * b4)) 255), xL 32, xL 126] m (fun z1 m1 =>
        ((z1 = 0 →
          Q (-1) m1) ∧
          (¬ (z1 = 0) →
          ((jx_in (b4 + 1)) ∧
  jx_AW 131 10 [some (xA 26 0), some (xL b1), none, some (xI b3), some (xI (b4 + 1))] [] m1 Q)))))) ∧
      (¬ (b4 < b3) →
      ((0 < 1) ∧
  ((jx_in ((m 26 0 12) + b3)) ∧
  (((60 : Int) < ((m 26 0 12) + b3) →
        Q (-3) m) ∧
        (¬ ((60 : Int) < ((m 26 0 12) + b3)) →
        ((jx_in (b3 - 1)) ∧
  jx_AW 131 40 [some (xA 26 0), some (xL b1), none, some (xI b3), some (xI (b3 - 1))] [] m Q)))))))) :
    jx_AW 131 10 [some (xA 26 0), some (xL b1), none, some (xI b3), some (xI b4)] [] m Q :=
  jx_segOk (x := 131) (cd := jx_c131) rfl (stops := [10, 40]) 17 hv
set_option maxRecDepth 100000 in
theorem sg_131_40 (b1 : Int) (b3 : Int) (b4 : Int) (m : jx_M) (Q : Int → jx_M → Prop) (hv :
    ((b4 < 0 →
      ((0 < 1) ∧
  Q (m 26 0 12) m)) ∧
      (¬ (b4 < 0) →
      ((0 < 1) ∧
  ((0 < 1) ∧
  ((jx_in (8 * b4)) ∧
  ((1 = 1 ∧ 0 ≤ (m 26 0 12) ∧ (m 26 0 12) < 60) ∧
  ((0 < 1) ∧
  ((0 < 1) ∧
  ((jx_in (((jx_up m 33 0 ((m 26 0 12).toNat) (jx_l2i (jx_land (jx_lshr b1 (8 * b4)) 255))) 26 0 12) + 1)) ∧
  ((0 < 1) ∧
  ((jx_in (b4 + (-1))) ∧
  jx_AW 131 40 [some (xA 26 0), some (xL b1), none, some (xI b3), some (xI (b4 + (-1)))] [] (jx_up (jx_up m 33 0 ((m 26 0 12).toNat) (jx_l2i (jx_land (jx_lshr b1 (8 * b4)) 255))) 26 0 12 (((jx_up m 33 0 ((m 26 0 12).toNat) (jx_l2i (jx_land (jx_lshr b1 (8 * b4)) 255))) 26 0 12) + 1)) Q)))))))))))) :
    jx_AW 131 40 [some (xA 26 0), some (xL b1), none, some (xI b3), some (xI b4)] [] m Q :=
  jx_segOk (x := 131) (cd := jx_c131) rfl (stops := [10, 40]) 24 hv
set_option maxRecDepth 100000 in
theorem sg_132  (m : jx_M) (Q : Int → jx_M → Prop) (hv :
    ((0 < 1) ∧
  jx_Cl 133 [xA 26 0, xI 25, xI 25] m (fun z1 m1 =>
      jx_AW 132 9 [some (xA 26 0), some (xI z1), some (xI 0), some (xI 0)] [] m1 Q))) :
    jx_Cl 132 [xA 26 0] m Q :=
  jx_segOk (x := 132) (cd := jx_c132) rfl (stops := [9]) 10 hv
set_option maxRecDepth 100000 in
theorem sg_132_9 (b1 : Int) (b2 : Int) (b3 : Int) (m : jx_M) (Q : Int → jx_M → Prop) (hv :
    ((b3 < b1 →
      ((0 < 1) ∧
  ((0 < 1) ∧
  ((1 = 1 ∧ 0 ≤ b3 ∧ b3 < 25) ∧
  ((0 < 1) ∧
  ((1 = 1 ∧ 0 ≤ b3 ∧ b3 < 25) ∧
  ((0 < 1) ∧
  ((0 < 1) ∧
  ((1 = 1 ∧ 0 ≤ b3 ∧ b3 < 25) ∧
  ((0 < 1) ∧
  ((jx_in (b2 + ((jx_up m 27 0 (b3.toNat) (m 34 0 (b3.toNat))) 34 0 (b3.toNat)))) ∧
  ((jx_in (b3 + 1)) ∧
  jx_AW 132 9 [some (xA 26 0), some (xI b1), some (xI (b2 + ((jx_up m 27 0 (b3.toNat) (m 34 0 (b3.toNat))) 34 0 (b3.toNat)))), some (xI (b3 + 1))] [] (jx_up m 27 0 (b3.toNat) (m 34 0 (b3.toNat))) Q)))))))))))) ∧
      (¬ (b3 < b1) →
      ((b1 < 0 →
        Q b1 m) ∧
        (¬ (b1 < 0) →
        Q b2 m))))) :
    jx_AW 132 9 [some (xA 26 0), some (xI b1), some (xI b2), some (xI b3)] [] m Q :=
  jx_segOk (x := 132) (cd := jx_c132) rfl (stops := [9]) 21 hv
set_option maxRecDepth 100000 in
theorem sg_133 (a1 : Int) (a2 : Int) (m : jx_M) (Q : Int → jx_M → Prop) (hv :
    ((0 < 1) ∧
  jx_AW 133 5 [some (xA 26 0), some (xI a1), some (xI a2), some (xI 0)] [] (jx_up m 26 0 13 0) Q)) :
    jx_Cl 133 [xA 26 0, xI a1, xI a2] m Q :=
  jx_segOk (x := 133) (cd := jx_c133) rfl (stops := [5]) 6 hv
set_option maxRecDepth 100000 in
theorem sg_133_5 (b1 : Int) (b2 : Int) (b3 : Int) (m : jx_M) (Q : Int → jx_M → Prop) (hv :
    ((b3 < b2 →
      ((0 < 1) ∧
  jx_Cl 134 [xA 26 0] m (fun z1 m1 =>
        ((z1 = 0 →
          ((b3 < b1 →
            ((0 < 1) ∧
  (((1 : Int) = 0 ∨ (1 : Int) = 1) ∧
  ((0 < 1) ∧
  ((0 < 1) ∧
  ((((jx_up (jx_up m1 26 0 14 1) 26 0 12 0) 26 0 14) = 0 →
              Q b3 (jx_up (jx_up m1 26 0 14 1) 26 0 12 0)) ∧
              (¬ (((jx_up (jx_up m1 26 0 14 1) 26 0 12 0) 26 0 14) = 0) →
              ((0 < 1) ∧
  ((jx_in ((-20) - ((jx_up (jx_up m1 26 0 14 1) 26 0 12 0) 26 0 13))) ∧
  Q ((-20) - ((jx_up (jx_up m1 26 0 14 1) 26 0 12 0) 26 0 13)) (jx_up (jx_up m1 26 0 14 1) 26 0 12 0)))))))))) ∧
            (¬ (b3 < b1) →
            ((0 < 1) ∧
  jx_Cl 135 [xA 26 0] m1 (fun z2 m2 =>
              ((z2 = 0 →
                ((0 < 1) ∧
  (((0 : Int) = 0 ∨ (0 : Int) = 1) ∧
  ((0 < 1) ∧
  ((0 < 1) ∧
  ((((jx_up (jx_up m2 26 0 14 0) 26 0 12 0) 26 0 14) = 0 →
                  Q b3 (jx_up (jx_up m2 26 0 14 0) 26 0 12 0)) ∧
                  (¬ (((jx_up (jx_up m2 26 0 14 0) 26 0 12 0) 26 0 14) = 0) →
                  ((0 < 1) ∧
  ((jx_in ((-20) - ((jx_up (jx_up m2 26 0 14 0) 26 0 12 0) 26 0 13))) ∧
  Q ((-20) - ((jx_up (jx_up m2 26 0 14 0) 26 0 12 0) 26 0 13)) (jx_up (jx_up m2 26 0 14 0) 26 0 12 0)))))))))) ∧
                (¬ (z2 = 0) →
                ((0 < 1) ∧
  (((1 : Int) = 0 ∨ (1 : Int) = 1) ∧
  ((0 < 1) ∧
  ((0 < 1) ∧
  ((((jx_up (jx_up m2 26 0 14 1) 26 0 12 0) 26 0 14) = 0 →
                  Q b3 (jx_up (jx_up m2 26 0 14 1) 26 0 12 0)) ∧
                  (¬ (((jx_up (jx_up m2 26 0 14 1) 26 0 12 0) 26 0 14) = 0) →
                  ((0 < 1) ∧
  ((jx_in ((-20) - ((jx_up (jx_up m2 26 0 14 1) 26 0 12 0) 26 0 13))) ∧
  Q ((-20) - ((jx_up (jx_up m2 26 0 14 1) 26 0 12 0) 26 0 13)) (jx_up (jx_up m2 26 0 14 1) 26 0 12 0)))))))))))))))) ∧
          (¬ (z1 = 0) →
          ((0 < 1) ∧
  ((0 < 1) ∧
  jx_Cl 135 [xA 26 0] m1 (fun z3 m3 =>
            ((jx_in (z3 - 48)) ∧
  ((1 = 1 ∧ 0 ≤ b3 ∧ b3 < 25) ∧
  ((0 < 1) ∧
  ((0 < 1) ∧
  ((jx_in (((jx_up m3 34 0 (b3.toNat) (z3 - 48)) 26 0 13) + 1)) ∧
  ((0 < 1) ∧
  ((jx_in (b3 + 1)) ∧
  jx_AW 133 5 [some (xA 26 0), some (xI b1), some (xI b2), some (xI (b3 + 1))] [] (jx_up (jx_up m3 34 0 (b3.toNat) (z3 - 48)) 26 0 13 (((jx_up m3 34 0 (b3.toNat) (z3 - 48)) 26 0 13) + 1)) Q))))))))))))))) ∧
      (¬ (b3 < b2) →
      ((b3 < b1 →
        ((0 < 1) ∧
  (((1 : Int) = 0 ∨ (1 : Int) = 1) ∧
  ((0 < 1) ∧
  ((0 < 1) ∧
  ((((jx_up (jx_up m 26 0 14 1) 26 0 12 0) 26 0 14) = 0 →
          Q b3 (jx_up (jx_up m 26 0 14 1) 26 0 12 0)) ∧
          (¬ (((jx_up (jx_up m 26 0 14 1) 26 0 12 0) 26 0 14) = 0) →
          ((0 < 1) ∧
  ((jx_in ((-20) - ((jx_up (jx_up m 26 0 14 1) 26 0 12 0) 26 0 13))) ∧
  Q ((-20) - ((jx_up (jx_up m 26 0 14 1) 26 0 12 0) 26 0 13)) (jx_up (jx_up m 26 0 14 1) 26 0 12 0)))))))))) ∧
        (¬ (b3 < b1) →
        ((0 < 1) ∧
  jx_Cl 135 [xA 26 0] m (fun z4 m4 =>
          ((z4 = 0 →
            ((0 < 1) ∧
  (((0 : Int) = 0 ∨ (0 : Int) = 1) ∧
  ((0 < 1) ∧
  ((0 < 1) ∧
  ((((jx_up (jx_up m4 26 0 14 0) 26 0 12 0) 26 0 14) = 0 →
              Q b3 (jx_up (jx_up m4 26 0 14 0) 26 0 12 0)) ∧
              (¬ (((jx_up (jx_up m4 26 0 14 0) 26 0 12 0) 26 0 14) = 0) →
              ((0 < 1) ∧
  ((jx_in ((-20) - ((jx_up (jx_up m4 26 0 14 0) 26 0 12 0) 26 0 13))) ∧
  Q ((-20) - ((jx_up (jx_up m4 26 0 14 0) 26 0 12 0) 26 0 13)) (jx_up (jx_up m4 26 0 14 0) 26 0 12 0)))))))))) ∧
            (¬ (z4 = 0) →
            ((0 < 1) ∧
  (((1 : Int) = 0 ∨ (1 : Int) = 1) ∧
  ((0 < 1) ∧
  ((0 < 1) ∧
  ((((jx_up (jx_up m4 26 0 14 1) 26 0 12 0) 26 0 14) = 0 →
              Q b3 (jx_up (jx_up m4 26 0 14 1) 26 0 12 0)) ∧
              (¬ (((jx_up (jx_up m4 26 0 14 1) 26 0 12 0) 26 0 14) = 0) →
              ((0 < 1) ∧
  ((jx_in ((-20) - ((jx_up (jx_up m4 26 0 14 1) 26 0 12 0) 26 0 13))) ∧
  Q ((-20) - ((jx_up (jx_up m4 26 0 14 1) 26 0 12 0) 26 0 13)) (jx_up (jx_up m4 26 0 14 1) 26 0 12 0)))))))))))))))))) :
    jx_AW 133 5 [some (xA 26 0), some (xI b1), some (xI b2), some (xI b3)] [] m Q :=
  jx_segOk (x := 133) (cd := jx_c133) rfl (stops := [5]) 29 hv
set_option maxRecDepth 100000 in
theorem sg_134  (m : jx_M) (Q : Int → jx_M → Prop) (hv :
    ((0 < 1) ∧
  jx_Cl 135 [xA 26 0] m (fun z1 m1 =>
      jx_Cl 125 [xL z1, xL 48, xL 57] m1 (fun z2 m2 =>
        ((z2 = 0 ∨ z2 = 1) ∧
  Q z2 m2))))) :
    jx_Cl 134 [xA 26 0] m Q :=
  jx_segOk (x := 134) (cd := jx_c134) rfl (stops := []) 8 hv
set_option maxRecDepth 100000 in
theorem sg_135  (m : jx_M) (Q : Int → jx_M → Prop) (hv :
    ((0 < 1) ∧
  ((0 < 1) ∧
  (((m 26 0 13) < (m 26 0 12) →
      ((0 < 1) ∧
  ((0 < 1) ∧
  ((1 = 1 ∧ 0 ≤ (m 26 0 13) ∧ (m 26 0 13) < 60) ∧
  ((0 < 1) ∧
  (((m 33 0 ((m 26 0 13).toNat)) = 32 →
        ((0 < 1) ∧
  ((jx_in ((m 26 0 13) + 1)) ∧
  ((0 < 1) ∧
  jx_AW 135 0 [some (xA 26 0)] [] (jx_up m 26 0 13 ((m 26 0 13) + 1)) Q)))) ∧
        (¬ ((m 33 0 ((m 26 0 13).toNat)) = 32) →
        ((0 < 1) ∧
  ((0 < 1) ∧
  (((m 26 0 13) < (m 26 0 12) →
          ((0 < 1) ∧
  ((0 < 1) ∧
  ((1 = 1 ∧ 0 ≤ (m 26 0 13) ∧ (m 26 0 13) < 60) ∧
  ((0 < 1) ∧
  Q (m 33 0 ((m 26 0 13).toNat)) m))))) ∧
          (¬ ((m 26 0 13) < (m 26 0 12)) →
          Q 0 m))))))))))) ∧
      (¬ ((m 26 0 13) < (m 26 0 12)) →
      ((0 < 1) ∧
  ((0 < 1) ∧
  (((m 26 0 13) < (m 26 0 12) →
        ((0 < 1) ∧
  ((0 < 1) ∧
  ((1 = 1 ∧ 0 ≤ (m 26 0 13) ∧ (m 26 0 13) < 60) ∧
  ((0 < 1) ∧
  Q (m 33 0 ((m 26 0 13).toNat)) m))))) ∧
        (¬ ((m 26 0 13) < (m 26 0 12)) →
        Q 0 m))))))))) :
    jx_Cl 135 [xA 26 0] m Q :=
  jx_segOk (x := 135) (cd := jx_c135) rfl (stops := [0]) 25 hv
set_option maxRecDepth 100000 in
theorem sg_135_0  (m : jx_M) (Q : Int → jx_M → Prop) (hv :
    ((0 < 1) ∧
  ((0 < 1) ∧
  (((m 26 0 13) < (m 26 0 12) →
      ((0 < 1) ∧
  ((0 < 1) ∧
  ((1 = 1 ∧ 0 ≤ (m 26 0 13) ∧ (m 26 0 13) < 60) ∧
  ((0 < 1) ∧
  (((m 33 0 ((m 26 0 13).toNat)) = 32 →
        ((0 < 1) ∧
  ((jx_in ((m 26 0 13) + 1)) ∧
  ((0 < 1) ∧
  jx_AW 135 0 [some (xA 26 0)] [] (jx_up m 26 0 13 ((m 26 0 13) + 1)) Q)))) ∧
        (¬ ((m 33 0 ((m 26 0 13).toNat)) = 32) →
        ((0 < 1) ∧
  ((0 < 1) ∧
  (((m 26 0 13) < (m 26 0 12) →
          ((0 < 1) ∧
  ((0 < 1) ∧
  ((1 = 1 ∧ 0 ≤ (m 26 0 13) ∧ (m 26 0 13) < 60) ∧
  ((0 < 1) ∧
  Q (m 33 0 ((m 26 0 13).toNat)) m))))) ∧
          (¬ ((m 26 0 13) < (m 26 0 12)) →
          Q 0 m))))))))))) ∧
      (¬ ((m 26 0 13) < (m 26 0 12)) →
      ((0 < 1) ∧
  ((0 < 1) ∧
  (((m 26 0 13) < (m 26 0 12) →
        ((0 < 1) ∧
  ((0 < 1) ∧
  ((1 = 1 ∧ 0 ≤ (m 26 0 13) ∧ (m 26 0 13) < 60) ∧
  ((0 < 1) ∧
  Q (m 33 0 ((m 26 0 13).toNat)) m))))) ∧
        (¬ ((m 26 0 13) < (m 26 0 12)) →
        Q 0 m))))))))) :
    jx_AW 135 0 [some (xA 26 0)] [] m Q :=
  jx_segOk (x := 135) (cd := jx_c135) rfl (stops := [0]) 25 hv
set_option maxRecDepth 100000 in
theorem sg_136 (a1 : Int) (m : jx_M) (Q : Int → jx_M → Prop) (hv :
    ((0 < 1) ∧
  jx_Cl 130 [xA 26 0, xI a1] m (fun z1 m1 =>
      ((z1 = 0 →
        Q (-1) m1) ∧
        (¬ (z1 = 0) →
        ((0 < 1) ∧
  ((0 < 1) ∧
  (((0 : Int) = 0 ∨ (0 : Int) = 1) ∧
  jx_AW 136 16 [some (xA 26 0), some (xI a1), some (xI 0), some (xI 1), none] [] (jx_up (jx_up m1 26 0 13 0) 26 0 14 0) Q)))))))) :
    jx_Cl 136 [xA 26 0, xI a1] m Q :=
  jx_segOk (x := 136) (cd := jx_c136) rfl (stops := [16, 78]) 15 hv
set_option maxRecDepth 100000 in
theorem sg_136_16 (b1 : Int) (b2 : Int) (b3 : Int) (w4 : Option jx_V) (m : jx_M) (Q : Int → jx_M → Prop) (hv :
    ((b3 = 0 →
      ((0 < 1) ∧
  (((m 26 0 14) = 0 →
        ((0 < 1) ∧
  jx_Cl 135 [xA 26 0] m (fun z1 m1 =>
          ((z1 = 0 →
            ((0 < 1) ∧
  (((0 : Int) = 0 ∨ (0 : Int) = 1) ∧
  ((0 < 1) ∧
  ((0 < 1) ∧
  ((((jx_up (jx_up m1 26 0 14 0) 26 0 12 0) 26 0 14) = 0 →
              ((0 < 1) ∧
  ((jx_in (13 * b1)) ∧
  ((1 = 1 ∧ 0 ≤ (13 * b1) ∧ (13 * b1) < 78) ∧
  ((0 < 1) ∧
  jx_AW 136 78 [some (xA 26 0), some (xI b1), some (xI b2), some (xI b3), some (xI 0)] [] (jx_up (jx_up (jx_up m1 26 0 14 0) 26 0 12 0) 29 0 ((13 * b1).toNat) b2) Q))))) ∧
              (¬ (((jx_up (jx_up m1 26 0 14 0) 26 0 12 0) 26 0 14) = 0) →
              ((0 < 1) ∧
  ((jx_in ((-20) - ((jx_up (jx_up m1 26 0 14 0) 26 0 12 0) 26 0 13))) ∧
  Q ((-20) - ((jx_up (jx_up m1 26 0 14 0) 26 0 12 0) 26 0 13)) (jx_up (jx_up m1 26 0 14 0) 26 0 12 0)))))))))) ∧
            (¬ (z1 = 0) →
            ((0 < 1) ∧
  (((1 : Int) = 0 ∨ (1 : Int) = 1) ∧
  ((0 < 1) ∧
  ((0 < 1) ∧
  ((((jx_up (jx_up m1 26 0 14 1) 26 0 12 0) 26 0 14) = 0 →
              ((0 < 1) ∧
  ((jx_in (13 * b1)) ∧
  ((1 = 1 ∧ 0 ≤ (13 * b1) ∧ (13 * b1) < 78) ∧
  ((0 < 1) ∧
  jx_AW 136 78 [some (xA 26 0), some (xI b1), some (xI b2), some (xI b3), some (xI 0)] [] (jx_up (jx_up (jx_up m1 26 0 14 1) 26 0 12 0) 29 0 ((13 * b1).toNat) b2) Q))))) ∧
              (¬ (((jx_up (jx_up m1 26 0 14 1) 26 0 12 0) 26 0 14) = 0) →
              ((0 < 1) ∧
  ((jx_in ((-20) - ((jx_up (jx_up m1 26 0 14 1) 26 0 12 0) 26 0 13))) ∧
  Q ((-20) - ((jx_up (jx_up m1 26 0 14 1) 26 0 12 0) 26 0 13)) (jx_up (jx_up m1 26 0 14 1) 26 0 12 0)))))))))))))) ∧
        (¬ ((m 26 0 14) = 0) →
        ((0 < 1) ∧
  (((1 : Int) = 0 ∨ (1 : Int) = 1) ∧
  ((0 < 1) ∧
  ((0 < 1) ∧
  ((((jx_up (jx_up m 26 0 14 1) 26 0 12 0) 26 0 14) = 0 →
          ((0 < 1) ∧
  ((jx_in (13 * b1)) ∧
  ((1 = 1 ∧ 0 ≤ (13 * b1) ∧ (13 * b1) < 78) ∧
  ((0 < 1) ∧
  jx_AW 136 78 [some (xA 26 0), some (xI b1), some (xI b2), some (xI b3), some (xI 0)] [] (jx_up (jx_up (jx_up m 26 0 14 1) 26 0 12 0) 29 0 ((13 * b1).toNat) b2) Q))))) ∧
          (¬ (((jx_up (jx_up m 26 0 14 1) 26 0 12 0) 26 0 14) = 0) →
          ((0 < 1) ∧
  ((jx_in ((-20) - ((jx_up (jx_up m 26 0 14 1) 26 0 12 0) 26 0 13))) ∧
  Q ((-20) - ((jx_up (jx_up m 26 0 14 1) 26 0 12 0) 26 0 13)) (jx_up (jx_up m 26 0 14 1) 26 0 12 0))))))))))))) ∧
      (¬ (b3 = 0) →
      ((0 < 1) ∧
  jx_Cl 137 [xA 26 0, xI b2] m (fun _ m2 =>
        ((jx_in (b2 + 1)) ∧
  ((0 < 1) ∧
  (((m2 26 0 14) = 0 →
          (((b2 + 1) < 12 →
            ((0 < 1) ∧
  jx_Cl 135 [xA 26 0] m2 (fun z3 m3 =>
              ((z3 = 44 →
                ((0 < 1) ∧
  (((1 : Int) = 0 →
                  ((jx_in ((m3 26 0 13) + 0)) ∧
  ((0 < 1) ∧
  jx_AW 136 16 [some (xA 26 0), some (xI b1), some (xI (b2 + 1)), some (xI 1), w4] [] (jx_up m3 26 0 13 ((m3 26 0 13) + 0)) Q))) ∧
                  (¬ ((1 : Int) = 0) →
                  ((jx_in ((m3 26 0 13) + 1)) ∧
  ((0 < 1) ∧
  jx_AW 136 16 [some (xA 26 0), some (xI b1), some (xI (b2 + 1)), some (xI 1), w4] [] (jx_up m3 26 0 13 ((m3 26 0 13) + 1)) Q)))))) ∧
                (¬ (z3 = 44) →
                ((0 < 1) ∧
  (((0 : Int) = 0 →
                  ((jx_in ((m3 26 0 13) + 0)) ∧
  ((0 < 1) ∧
  jx_AW 136 16 [some (xA 26 0), some (xI b1), some (xI (b2 + 1)), some (xI 0), w4] [] (jx_up m3 26 0 13 ((m3 26 0 13) + 0)) Q))) ∧
                  (¬ ((0 : Int) = 0) →
                  ((jx_in ((m3 26 0 13) + 1)) ∧
  ((0 < 1) ∧
  jx_AW 136 16 [some (xA 26 0), some (xI b1), some (xI (b2 + 1)), some (xI 0), w4] [] (jx_up m3 26 0 13 ((m3 26 0 13) + 1)) Q)))))))))) ∧
            (¬ ((b2 + 1) < 12) →
            ((0 < 1) ∧
  (((0 : Int) = 0 →
              ((jx_in ((m2 26 0 13) + 0)) ∧
  ((0 < 1) ∧
  jx_AW 136 16 [some (xA 26 0), some (xI b1), some (xI (b2 + 1)), some (xI 0), w4] [] (jx_up m2 26 0 13 ((m2 26 0 13) + 0)) Q))) ∧
              (¬ ((0 : Int) = 0) →
              ((jx_in ((m2 26 0 13) + 1)) ∧
  ((0 < 1) ∧
  jx_AW 136 16 [some (xA 26 0), some (xI b1), some (xI (b2 + 1)), some (xI 0), w4] [] (jx_up m2 26 0 13 ((m2 26 0 13) + 1)) Q)))))))) ∧
          (¬ ((m2 26 0 14) = 0) →
          ((0 < 1) ∧
  (((0 : Int) = 0 →
            ((jx_in ((m2 26 0 13) + 0)) ∧
  ((0 < 1) ∧
  jx_AW 136 16 [some (xA 26 0), some (xI b1), some (xI (b2 + 1)), some (xI 0), w4] [] (jx_up m2 26 0 13 ((m2 26 0 13) + 0)) Q))) ∧
            (¬ ((0 : Int) = 0) →
            ((jx_in ((m2 26 0 13) + 1)) ∧
  ((0 < 1) ∧
  jx_AW 136 16 [some (xA 26 0), some (xI b1), some (xI (b2 + 1)), some (xI 0), w4] [] (jx_up m2 26 0 13 ((m2 26 0 13) + 1)) Q)))))))))))))) :
    jx_AW 136 16 [some (xA 26 0), some (xI b1), some (xI b2), some (xI b3), w4] [] m Q :=
  jx_segOk (x := 136) (cd := jx_c136) rfl (stops := [16, 78]) 30 hv
set_option maxRecDepth 100000 in
theorem sg_136_78 (b1 : Int) (b2 : Int) (b3 : Int) (b4 : Int) (m : jx_M) (Q : Int → jx_M → Prop) (hv :
    ((b4 < b2 →
      ((0 < 1) ∧
  ((jx_in (13 * b1)) ∧
  ((jx_in ((13 * b1) + 1)) ∧
  ((jx_in (((13 * b1) + 1) + b4)) ∧
  ((0 < 1) ∧
  ((1 = 1 ∧ 0 ≤ b4 ∧ b4 < 25) ∧
  ((0 < 1) ∧
  ((1 = 1 ∧ 0 ≤ (((13 * b1) + 1) + b4) ∧ (((13 * b1) + 1) + b4) < 78) ∧
  ((0 < 1) ∧
  ((jx_in (b4 + 1)) ∧
  jx_AW 136 78 [some (xA 26 0), some (xI b1), some (xI b2), some (xI b3), some (xI (b4 + 1))] [] (jx_up m 29 0 ((((13 * b1) + 1) + b4).toNat) (m 34 0 (b4.toNat))) Q))))))))))) ∧
      (¬ (b4 < b2) →
      Q b2 m))) :
    jx_AW 136 78 [some (xA 26 0), some (xI b1), some (xI b2), some (xI b3), some (xI b4)] [] m Q :=
  jx_segOk (x := 136) (cd := jx_c136) rfl (stops := [16, 78]) 20 hv
set_option maxRecDepth 100000 in
theorem sg_137 (a1 : Int) (m : jx_M) (Q : Int → jx_M → Prop) (hv :
    ((0 < 1) ∧
  jx_Cl 134 [xA 26 0] m (fun z1 m1 =>
      ((z1 = 0 →
        ((0 < 1) ∧
  (((1 : Int) = 0 ∨ (1 : Int) = 1) ∧
  Q 0 (jx_up m1 26 0 14 1)))) ∧
        (¬ (z1 = 0) →
        ((0 < 1) ∧
  jx_AW 137 12 [some (xA 26 0), some (xI a1), some (xI (m1 26 0 13)), some (xI 0)] [] m1 Q)))))) :
    jx_Cl 137 [xA 26 0, xI a1] m Q :=
  jx_segOk (x := 137) (cd := jx_c137) rfl (stops := [12]) 9 hv
set_option maxRecDepth 100000 in
theorem sg_137_12 (b1 : Int) (b2 : Int) (b3 : Int) (m : jx_M) (Q : Int → jx_M → Prop) (hv :
    ((0 < 1) ∧
  ((0 < 1) ∧
  (((m 26 0 13) < (m 26 0 12) →
      ((0 < 1) ∧
  ((0 < 1) ∧
  ((1 = 1 ∧ 0 ≤ (m 26 0 13) ∧ (m 26 0 13) < 60) ∧
  ((0 < 1) ∧
  jx_Cl 125 [xL (m 33 0 ((m 26 0 13).toNat)), xL 48, xL 57] m (fun z1 m1 =>
        ((z1 = 0 →
          (((24 : Int) < b3 →
            ((0 < 1) ∧
  (((1 : Int) = 0 ∨ (1 : Int) = 1) ∧
  ((0 < 1) ∧
  ((1 = 1 ∧ 0 ≤ b1 ∧ b1 < 25) ∧
  ((0 < 1) ∧
  ((0 < 1) ∧
  ((((jx_up (jx_up m1 26 0 14 1) 34 0 (b1.toNat) b3) 26 0 14) = 0 →
              ((0 < 1) ∧
  ((0 < 1) ∧
  Q 0 (jx_up (jx_up (jx_up m1 26 0 14 1) 34 0 (b1.toNat) b3) 26 0 13 ((jx_up (jx_up m1 26 0 14 1) 34 0 (b1.toNat) b3) 26 0 13))))) ∧
              (¬ (((jx_up (jx_up m1 26 0 14 1) 34 0 (b1.toNat) b3) 26 0 14) = 0) →
              ((0 < 1) ∧
  Q 0 (jx_up (jx_up (jx_up m1 26 0 14 1) 34 0 (b1.toNat) b3) 26 0 13 b2))))))))))) ∧
            (¬ ((24 : Int) < b3) →
            (((0 : Int) < b1 →
              ((0 < 1) ∧
  (((0 : Int) < b1 →
                ((jx_in (b1 - 1)) ∧
  ((1 = 1 ∧ 0 ≤ (b1 - 1) ∧ (b1 - 1) < 25) ∧
  ((0 < 1) ∧
  jx_Cl 138 [xI b3, xI (m1 34 0 ((b1 - 1).toNat))] m1 (fun z2 m2 =>
                  (((1 : Int) < z2 →
                    ((0 < 1) ∧
  (((1 : Int) = 0 ∨ (1 : Int) = 1) ∧
  ((0 < 1) ∧
  ((1 = 1 ∧ 0 ≤ b1 ∧ b1 < 25) ∧
  ((0 < 1) ∧
  ((0 < 1) ∧
  ((((jx_up (jx_up m2 26 0 14 1) 34 0 (b1.toNat) b3) 26 0 14) = 0 →
                      ((0 < 1) ∧
  ((0 < 1) ∧
  Q 0 (jx_up (jx_up (jx_up m2 26 0 14 1) 34 0 (b1.toNat) b3) 26 0 13 ((jx_up (jx_up m2 26 0 14 1) 34 0 (b1.toNat) b3) 26 0 13))))) ∧
                      (¬ (((jx_up (jx_up m2 26 0 14 1) 34 0 (b1.toNat) b3) 26 0 14) = 0) →
                      ((0 < 1) ∧
  Q 0 (jx_up (jx_up (jx_up m2 26 0 14 1) 34 0 (b1.toNat) b3) 26 0 13 b2))))))))))) ∧
                    (¬ ((1 : Int) < z2) →
                    ((0 < 1) ∧
  (((0 : Int) = 0 ∨ (0 : Int) = 1) ∧
  ((0 < 1) ∧
  ((1 = 1 ∧ 0 ≤ b1 ∧ b1 < 25) ∧
  ((0 < 1) ∧
  ((0 < 1) ∧
  ((((jx_up (jx_up m2 26 0 14 0) 34 0 (b1.toNat) b3) 26 0 14) = 0 →
                      ((0 < 1) ∧
  ((0 < 1) ∧
  Q 0 (jx_up (jx_up (jx_up m2 26 0 14 0) 34 0 (b1.toNat) b3) 26 0 13 ((jx_up (jx_up m2 26 0 14 0) 34 0 (b1.toNat) b3) 26 0 13))))) ∧
                      (¬ (((jx_up (jx_up m2 26 0 14 0) 34 0 (b1.toNat) b3) 26 0 14) = 0) →
                      ((0 < 1) ∧
  Q 0 (jx_up (jx_up (jx_up m2 26 0 14 0) 34 0 (b1.toNat) b3) 26 0 13 b2))))))))))))))))) ∧
                (¬ ((0 : Int) < b1) →
                ((1 = 1 ∧ 0 ≤ (0 : Int) ∧ (0 : Int) < 25) ∧
  ((0 < 1) ∧
  jx_Cl 138 [xI b3, xI (m1 34 0 ((0 : Int).toNat))] m1 (fun z3 m3 =>
                  (((1 : Int) < z3 →
                    ((0 < 1) ∧
  (((1 : Int) = 0 ∨ (1 : Int) = 1) ∧
  ((0 < 1) ∧
  ((1 = 1 ∧ 0 ≤ b1 ∧ b1 < 25) ∧
  ((0 < 1) ∧
  ((0 < 1) ∧
  ((((jx_up (jx_up m3 26 0 14 1) 34 0 (b1.toNat) b3) 26 0 14) = 0 →
                      ((0 < 1) ∧
  ((0 < 1) ∧
  Q 0 (jx_up (jx_up (jx_up m3 26 0 14 1) 34 0 (b1.toNat) b3) 26 0 13 ((jx_up (jx_up m3 26 0 14 1) 34 0 (b1.toNat) b3) 26 0 13))))) ∧
                      (¬ (((jx_up (jx_up m3 26 0 14 1) 34 0 (b1.toNat) b3) 26 0 14) = 0) →
                      ((0 < 1) ∧
  Q 0 (jx_up (jx_up (jx_up m3 26 0 14 1) 34 0 (b1.toNat) b3) 26 0 13 b2))))))))))) ∧
                    (¬ ((1 : Int) < z3) →
                    ((0 < 1) ∧
  (((0 : Int) = 0 ∨ (0 : Int) = 1) ∧
  ((0 < 1) ∧
  ((1 = 1 ∧ 0 ≤ b1 ∧ b1 < 25) ∧
  ((0 < 1) ∧
  ((0 < 1) ∧
  ((((jx_up (jx_up m3 26 0 14 0) 34 0 (b1.toNat) b3) 26 0 14) = 0 →
                      ((0 < 1) ∧
  ((0 < 1) ∧
  Q 0 (jx_up (jx_up (jx_up m3 26 0 14 0) 34 0 (b1.toNat) b3) 26 0 13 ((jx_up (jx_up m3 26 0 14 0) 34 0 (b1.toNat) b3) 26 0 13))))) ∧
                      (¬ (((jx_up (jx_up m3 26 0 14 0) 34 0 (b1.toNat) b3) 26 0 14) = 0) →
                      ((0 < 1) ∧
  Q 0 (jx_up (jx_up (jx_up m3 26 0 14 0) 34 0 (b1.toNat) b3) 26 0 13 b2))))))))))))))))))) ∧
              (¬ ((0 : Int) < b1) →
              ((0 < 1) ∧
  (((0 : Int) = 0 ∨ (0 : Int) = 1) ∧
  ((0 < 1) ∧
  ((1 = 1 ∧ 0 ≤ b1 ∧ b1 < 25) ∧
  ((0 < 1) ∧
  ((0 < 1) ∧
  ((((jx_up (jx_up m1 26 0 14 0) 34 0 (b1.toNat) b3) 26 0 14) = 0 →
                ((0 < 1) ∧
  ((0 < 1) ∧
  Q 0 (jx_up (jx_up (jx_up m1 26 0 14 0) 34 0 (b1.toNat) b3) 26 0 13 ((jx_up (jx_up m1 26 0 14 0) 34 0 (b1.toNat) b3) 26 0 13))))) ∧
                (¬ (((jx_up (jx_up m1 26 0 14 0) 34 0 (b1.toNat) b3) 26 0 14) = 0) →
                ((0 < 1) ∧
  Q 0 (jx_up (jx_up (jx_up m1 26 0 14 0) 34 0 (b1.toNat) b3) 26 0 13 b2))))))))))))))) ∧
          (¬ (z1 = 0) →
          (((999 : Int) < b3 →
            ((0 < 1) ∧
  ((jx_in ((m1 26 0 13) + 1)) ∧
  ((0 < 1) ∧
  jx_AW 137 12 [some (xA 26 0), some (xI b1), some (xI b2), some (xI b3)] [] (jx_up m1 26 0 13 ((m1 26 0 13) + 1)) Q)))) ∧
            (¬ ((999 : Int) < b3) →
            ((jx_in (10 * b3)) ∧
  ((0 < 1) ∧
  ((0 < 1) ∧
  ((1 = 1 ∧ 0 ≤ (m1 26 0 13) ∧ (m1 26 0 13) < 60) ∧
  ((0 < 1) ∧
  ((jx_in ((10 * b3) + (m1 33 0 ((m1 26 0 13).toNat)))) ∧
  ((jx_in (((10 * b3) + (m1 33 0 ((m1 26 0 13).toNat))) - 48)) ∧
  ((0 < 1) ∧
  ((jx_in ((m1 26 0 13) + 1)) ∧
  ((0 < 1) ∧
  jx_AW 137 12 [some (xA 26 0), some (xI b1), some (xI b2), some (xI (((10 * b3) + (m1 33 0 ((m1 26 0 13).toNat))) - 48))] [] (jx_up m1 26 0 13 ((m1 26 0 13) + 1)) Q)))))))))))))))))))) ∧
      (¬ ((m 26 0 13) < (m 26 0 12)) →
      (((24 : Int) < b3 →
        ((0 < 1) ∧
  (((1 : Int) = 0 ∨ (1 : Int) = 1) ∧
  ((0 < 1) ∧
  ((1 = 1 ∧ 0 ≤ b1 ∧ b1 < 25) ∧
  ((0 < 1) ∧
  ((0 < 1) ∧
  ((((jx_up (jx_up m 26 0 14 1) 34 0 (b1.toNat) b3) 26 0 14) = 0 →
          ((0 < 1) ∧
  ((0 < 1) ∧
  Q 0 (jx_up (jx_up (jx_up m 26 0 14 1) 34 0 (b1.toNat) b3) 26 0 13 ((jx_up (jx_up m 26 0 14 1) 34 0 (b1.toNat) b3) 26 0 13))))) ∧
          (¬ (((jx_up (jx_up m 26 0 14 1) 34 0 (b1.toNat) b3) 26 0 14) = 0) →
          ((0 < 1) ∧
  Q 0 (jx_up (jx_up (jx_up m 26 0 14 1) 34 0 (b1.toNat) b3) 26 0 13 b2))))))))))) ∧
        (¬ ((24 : Int) < b3) →
        (((0 : Int) < b1 →
          ((0 < 1) ∧
  (((0 : Int) < b1 →
            ((jx_in (b1 - 1)) ∧
  ((1 = 1 ∧ 0 ≤ (b1 - 1) ∧ (b1 - 1) < 25) ∧
  ((0 < 1) ∧
  jx_Cl 138 [xI b3, xI (m 34 0 ((b1 - 1).toNat))] m (fun z4 m4 =>
              (((1 : Int) < z4 →
                ((0 < 1) ∧
  (((1 : Int) = 0 ∨ (1 : Int) = 1) ∧
  ((0 < 1) ∧
  ((1 = 1 ∧ 0 ≤ b1 ∧ b1 < 25) ∧
  ((0 < 1) ∧
  ((0 < 1) ∧
  ((((jx_up (jx_up m4 26 0 14 1) 34 0 (b1.toNat) b3) 26 0 14) = 0 →
                  ((0 < 1) ∧
  ((0 < 1) ∧
  Q 0 (jx_up (jx_up (jx_up m4 26 0 14 1) 34 0 (b1.toNat) b3) 26 0 13 ((jx_up (jx_up m4 26 0 14 1) 34 0 (b1.toNat) b3) 26 0 13))))) ∧
                  (¬ (((jx_up (jx_up m4 26 0 14 1) 34 0 (b1.toNat) b3) 26 0 14) = 0) →
                  ((0 < 1) ∧
  Q 0 (jx_up (jx_up (jx_up m4 26 0 14 1) 34 0 (b1.toNat) b3) 26 0 13 b2))))))))))) ∧
                (¬ ((1 : Int) < z4) →
                ((0 < 1) ∧
  (((0 : Int) = 0 ∨ (0 : Int) = 1) ∧
  ((0 < 1) ∧
  ((1 = 1 ∧ 0 ≤ b1 ∧ b1 < 25) ∧
  ((0 < 1) ∧
  ((0 < 1) ∧
  ((((jx_up (jx_up m4 26 0 14 0) 34 0 (b1.toNat) b3) 26 0 14) = 0 →
                  ((0 < 1) ∧
  ((0 < 1) ∧
  Q 0 (jx_up (jx_up (jx_up m4 26 0 14 0) 34 0 (b1.toNat) b3) 26 0 13 ((jx_up (jx_up m4 26 0 14 0) 34 0 (b1.toNat) b3) 26 0 13))))) ∧
                  (¬ (((jx_up (jx_up m4 26 0 14 0) 34 0 (b1.toNat) b3) 26 0 14) = 0) →
                  ((0 < 1) ∧
  Q 0 (jx_up (jx_up (jx_up m4 26 0 14 0) 34 0 (b1.toNat) b3) 26 0 13 b2))))))))))))))))) ∧
            (¬ ((0 : Int) < b1) →
            ((1 = 1 ∧ 0 ≤ (0 : Int) ∧ (0 : Int) < 25) ∧
  ((0 < 1) ∧
  jx_Cl 138 [xI b3, xI (m 34 0 ((0 : Int).toNat))] m (fun z5 m5 =>
              (((1 : Int) < z5 →
                ((0 < 1) ∧
  (((1 : Int) = 0 ∨ (1 : Int) = 1) ∧
  ((0 < 1) ∧
  ((1 = 1 ∧ 0 ≤ b1 ∧ b1 < 25) ∧
  ((0 < 1) ∧
  ((0 < 1) ∧
  ((((jx_up (jx_up m5 26 0 14 1) 34 0 (b1.toNat) b3) 26 0 14) = 0 →
                  ((0 < 1) ∧
  ((0 < 1) ∧
  Q 0 (jx_up (jx_up (jx_up m5 26 0 14 1) 34 0 (b1.toNat) b3) 26 0 13 ((jx_up (jx_up m5 26 0 14 1) 34 0 (b1.toNat) b3) 26 0 13))))) ∧
                  (¬ (((jx_up (jx_up m5 26 0 14 1) 34 0 (b1.toNat) b3) 26 0 14) = 0) →
                  ((0 < 1) ∧
  Q 0 (jx_up (jx_up (jx_up m5 26 0 14 1) 34 0 (b1.toNat) b3) 26 0 13 b2))))))))))) ∧
                (¬ ((1 : Int) < z5) →
                ((0 < 1) ∧
  (((0 : Int) = 0 ∨ (0 : Int) = 1) ∧
  ((0 < 1) ∧
  ((1 = 1 ∧ 0 ≤ b1 ∧ b1 < 25) ∧
  ((0 < 1) ∧
  ((0 < 1) ∧
  ((((jx_up (jx_up m5 26 0 14 0) 34 0 (b1.toNat) b3) 26 0 14) = 0 →
                  ((0 < 1) ∧
  ((0 < 1) ∧
  Q 0 (jx_up (jx_up (jx_up m5 26 0 14 0) 34 0 (b1.toNat) b3) 26 0 13 ((jx_up (jx_up m5 26 0 14 0) 34 0 (b1.toNat) b3) 26 0 13))))) ∧
                  (¬ (((jx_up (jx_up m5 26 0 14 0) 34 0 (b1.toNat) b3) 26 0 14) = 0) →
                  ((0 < 1) ∧
  Q 0 (jx_up (jx_up (jx_up m5 26 0 14 0) 34 0 (b1.toNat) b3) 26 0 13 b2))))))))))))))))))) ∧
          (¬ ((0 : Int) < b1) →
          ((0 < 1) ∧
  (((0 : Int) = 0 ∨ (0 : Int) = 1) ∧
  ((0 < 1) ∧
  ((1 = 1 ∧ 0 ≤ b1 ∧ b1 < 25) ∧
  ((0 < 1) ∧
  ((0 < 1) ∧
  ((((jx_up (jx_up m 26 0 14 0) 34 0 (b1.toNat) b3) 26 0 14) = 0 →
            ((0 < 1) ∧
  ((0 < 1) ∧
  Q 0 (jx_up (jx_up (jx_up m 26 0 14 0) 34 0 (b1.toNat) b3) 26 0 13 ((jx_up (jx_up m 26 0 14 0) 34 0 (b1.toNat) b3) 26 0 13))))) ∧
            (¬ (((jx_up (jx_up m 26 0 14 0) 34 0 (b1.toNat) b3) 26 0 14) = 0) →
            ((0 < 1) ∧
  Q 0 (jx_up (jx_up (jx_up m 26 0 14 0) 34 0 (b1.toNat) b3) 26 0 13 b2))))))))))))))))))) :
    jx_AW 137 12 [some (xA 26 0), some (xI b1), some (xI b2), some (xI b3)] [] m Q :=
  jx_segOk (x := 137) (cd := jx_c137) rfl (stops := [12]) 51 hv
set_option maxRecDepth 100000 in
theorem sg_138 (a1 : Int) (a2 : Int) (m : jx_M) (Q : Int → jx_M → Prop) (hv :
    ((0 ≤ a1 ∧ 0 < (5 : Int)) ∧
  ((0 ≤ a2 ∧ 0 < (5 : Int)) ∧
  ((jx_in ((a1 / 5) - (a2 / 5))) ∧
  ((0 ≤ a1 ∧ 0 < (5 : Int)) ∧
  ((0 ≤ a2 ∧ 0 < (5 : Int)) ∧
  ((jx_in ((a1 % 5) - (a2 % 5))) ∧
  ((((a1 / 5) - (a2 / 5)) < 0 →
      ((jx_in (-((a1 / 5) - (a2 / 5)))) ∧
  ((((a1 % 5) - (a2 % 5)) < 0 →
        ((jx_in (-((a1 % 5) - (a2 % 5)))) ∧
  ((jx_in ((-((a1 / 5) - (a2 / 5))) + (-((a1 % 5) - (a2 % 5))))) ∧
  Q ((-((a1 / 5) - (a2 / 5))) + (-((a1 % 5) - (a2 % 5)))) m))) ∧
        (¬ (((a1 % 5) - (a2 % 5)) < 0) →
        ((jx_in ((-((a1 / 5) - (a2 / 5))) + ((a1 % 5) - (a2 % 5)))) ∧
  Q ((-((a1 / 5) - (a2 / 5))) + ((a1 % 5) - (a2 % 5))) m))))) ∧
      (¬ (((a1 / 5) - (a2 / 5)) < 0) →
      ((((a1 % 5) - (a2 % 5)) < 0 →
        ((jx_in (-((a1 % 5) - (a2 % 5)))) ∧
  ((jx_in (((a1 / 5) - (a2 / 5)) + (-((a1 % 5) - (a2 % 5))))) ∧
  Q (((a1 / 5) - (a2 / 5)) + (-((a1 % 5) - (a2 % 5)))) m))) ∧
        (¬ (((a1 % 5) - (a2 % 5)) < 0) →
        ((jx_in (((a1 / 5) - (a2 / 5)) + ((a1 % 5) - (a2 % 5)))) ∧
  Q (((a1 / 5) - (a2 / 5)) + ((a1 % 5) - (a2 % 5))) m)))))))))))) :
    jx_Cl 138 [xI a1, xI a2] m Q :=
  jx_segOk (x := 138) (cd := jx_c138) rfl (stops := []) 29 hv
set_option maxRecDepth 100000 in
theorem sg_139 (a1 : Int) (m : jx_M) (Q : Int → jx_M → Prop) (hv :
    ((0 < 1) ∧
  jx_Cl 130 [xA 26 0, xI a1] m (fun z1 m1 =>
      ((z1 = 0 →
        Q (-1) m1) ∧
        (¬ (z1 = 0) →
        ((0 < 1) ∧
  jx_Cl 133 [xA 26 0, xI 1, xI 6] m1 (fun z2 m2 =>
          (((0 : Int) < z2 →
            ((0 < 1) ∧
  ((jx_in (7 * a1)) ∧
  ((1 = 1 ∧ 0 ≤ (7 * a1) ∧ (7 * a1) < 42) ∧
  ((0 < 1) ∧
  jx_AW 139 22 [some (xA 26 0), some (xI a1), some (xI z2), some (xI 0)] [] (jx_up m2 30 0 ((7 * a1).toNat) z2) Q))))) ∧
            (¬ ((0 : Int) < z2) →
            Q z2 m2))))))))) :
    jx_Cl 139 [xA 26 0, xI a1] m Q :=
  jx_segOk (x := 139) (cd := jx_c139) rfl (stops := [22]) 21 hv
set_option maxRecDepth 100000 in
theorem sg_139_22 (b1 : Int) (b2 : Int) (b3 : Int) (m : jx_M) (Q : Int → jx_M → Prop) (hv :
    ((b3 < b2 →
      ((0 < 1) ∧
  ((jx_in (7 * b1)) ∧
  ((jx_in ((7 * b1) + 1)) ∧
  ((jx_in (((7 * b1) + 1) + b3)) ∧
  ((0 < 1) ∧
  ((1 = 1 ∧ 0 ≤ b3 ∧ b3 < 25) ∧
  ((0 < 1) ∧
  ((1 = 1 ∧ 0 ≤ (((7 * b1) + 1) + b3) ∧ (((7 * b1) + 1) + b3) < 42) ∧
  ((0 < 1) ∧
  ((jx_in (b3 + 1)) ∧
  jx_AW 139 22 [some (xA 26 0), some (xI b1), some (xI b2), some (xI (b3 + 1))] [] (jx_up m 30 0 ((((7 * b1) + 1) + b3).toNat) (m 34 0 (b3.toNat))) Q))))))))))) ∧
      (¬ (b3 < b2) →
      Q b2 m))) :
    jx_AW 139 22 [some (xA 26 0), some (xI b1), some (xI b2), some (xI b3)] [] m Q :=
  jx_segOk (x := 139) (cd := jx_c139) rfl (stops := [22]) 20 hv
set_option maxRecDepth 100000 in
theorem sg_140 (a1 : Int) (a2 : Int) (a3 : Int) (m : jx_M) (Q : Int → jx_M → Prop) (hv :
    ((0 < 1) ∧
  jx_Cl 130 [xA 26 0, xI a1] m (fun z1 m1 =>
      ((z1 = 0 →
        Q (-1) m1) ∧
        (¬ (z1 = 0) →
        jx_Cl 125 [xL a2, xL 0, xL 1] m1 (fun z2 m2 =>
          ((z2 = 0 →
            Q (-1) m2) ∧
            (¬ (z2 = 0) →
            ((a3 < (-1) →
              Q (-1) m2) ∧
              (¬ (a3 < (-1)) →
              ((a2 = 0 →
                ((0 < 1) ∧
  ((jx_in (13 * a1)) ∧
  ((1 = 1 ∧ 0 ≤ (13 * a1) ∧ (13 * a1) < 78) ∧
  ((0 < 1) ∧
  ((a3 < 0 →
                  Q (m2 29 0 ((13 * a1).toNat)) m2) ∧
                  (¬ (a3 < 0) →
                  ((a3 < (m2 29 0 ((13 * a1).toNat)) →
                    ((a2 = 0 →
                      ((0 < 1) ∧
  ((jx_in (13 * a1)) ∧
  ((jx_in ((13 * a1) + 1)) ∧
  ((jx_in (((13 * a1) + 1) + a3)) ∧
  ((1 = 1 ∧ 0 ≤ (((13 * a1) + 1) + a3) ∧ (((13 * a1) + 1) + a3) < 78) ∧
  ((0 < 1) ∧
  Q (m2 29 0 ((((13 * a1) + 1) + a3).toNat)) m2))))))) ∧
                      (¬ (a2 = 0) →
                      ((0 < 1) ∧
  ((jx_in (7 * a1)) ∧
  ((jx_in ((7 * a1) + 1)) ∧
  ((jx_in (((7 * a1) + 1) + a3)) ∧
  ((1 = 1 ∧ 0 ≤ (((7 * a1) + 1) + a3) ∧ (((7 * a1) + 1) + a3) < 42) ∧
  ((0 < 1) ∧
  Q (m2 30 0 ((((7 * a1) + 1) + a3).toNat)) m2))))))))) ∧
                    (¬ (a3 < (m2 29 0 ((13 * a1).toNat))) →
                    Q (-4) m2))))))))) ∧
                (¬ (a2 = 0) →
                ((0 < 1) ∧
  ((jx_in (7 * a1)) ∧
  ((1 = 1 ∧ 0 ≤ (7 * a1) ∧ (7 * a1) < 42) ∧
  ((0 < 1) ∧
  ((a3 < 0 →
                  Q (m2 30 0 ((7 * a1).toNat)) m2) ∧
                  (¬ (a3 < 0) →
                  ((a3 < (m2 30 0 ((7 * a1).toNat)) →
                    ((a2 = 0 →
                      ((0 < 1) ∧
  ((jx_in (13 * a1)) ∧
  ((jx_in ((13 * a1) + 1)) ∧
  ((jx_in (((13 * a1) + 1) + a3)) ∧
  ((1 = 1 ∧ 0 ≤ (((13 * a1) + 1) + a3) ∧ (((13 * a1) + 1) + a3) < 78) ∧
  ((0 < 1) ∧
  Q (m2 29 0 ((((13 * a1) + 1) + a3).toNat)) m2))))))) ∧
                      (¬ (a2 = 0) →
                      ((0 < 1) ∧
  ((jx_in (7 * a1)) ∧
  ((jx_in ((7 * a1) + 1)) ∧
  ((jx_in (((7 * a1) + 1) + a3)) ∧
  ((1 = 1 ∧ 0 ≤ (((7 * a1) + 1) + a3) ∧ (((7 * a1) + 1) + a3) < 42) ∧
  ((0 < 1) ∧
  Q (m2 30 0 ((((7 * a1) + 1) + a3).toNat)) m2))))))))) ∧
                    (¬ (a3 < (m2 30 0 ((7 * a1).toNat))) →
                    Q (-4) m2)))))))))))))))))))) :
    jx_Cl 140 [xA 26 0, xI a1, xI a2, xI a3] m Q :=
  jx_segOk (x := 140) (cd := jx_c140) rfl (stops := []) 43 hv
set_option maxRecDepth 100000 in
theorem sg_141 (a1 : Int) (a2 : Int) (m : jx_M) (Q : Int → jx_M → Prop) (hv :
    ((0 < 1) ∧
  jx_Cl 130 [xA 26 0, xI a1] m (fun z1 m1 =>
      ((z1 = 0 →
        Q (-1) m1) ∧
        (¬ (z1 = 0) →
        jx_Cl 128 [xI a2] m1 (fun z2 m2 =>
          ((z2 = 0 →
            Q (-1) m2) ∧
            (¬ (z2 = 0) →
            ((0 < 1) ∧
  jx_Cl 142 [xA 26 0, xI a1, xI a2] m2 (fun z3 m3 =>
              Q z3 m3)))))))))) :
    jx_Cl 141 [xA 26 0, xI a1, xI a2] m Q :=
  jx_segOk (x := 141) (cd := jx_c141) rfl (stops := []) 14 hv
set_option maxRecDepth 100000 in
theorem sg_142 (a1 : Int) (a2 : Int) (m : jx_M) (Q : Int → jx_M → Prop) (hv :
    ((0 < 1) ∧
  ((jx_in (4 * a1)) ∧
  ((jx_in ((4 * a1) + 2)) ∧
  ((1 = 1 ∧ 0 ≤ ((4 * a1) + 2) ∧ ((4 * a1) + 2) < 24) ∧
  ((0 < 1) ∧
  ((jx_in (a2 - (m 28 0 (((4 * a1) + 2).toNat)))) ∧
  ((0 < 1) ∧
  ((jx_in (13 * a1)) ∧
  ((1 = 1 ∧ 0 ≤ (13 * a1) ∧ (13 * a1) < 78) ∧
  ((0 < 1) ∧
  (((a2 - (m 28 0 (((4 * a1) + 2).toNat))) < 0 →
      ((((-1) : Int) < 0 →
        Q (-4) m) ∧
        (¬ (((-1) : Int) < 0) →
        ((((-1) : Int) < (m 29 0 ((13 * a1).toNat)) →
          ((0 < 1) ∧
  (((m 26 0 17) < 0 →
            ((0 < 1) ∧
  ((jx_in (13 * a1)) ∧
  ((jx_in ((13 * a1) + 1)) ∧
  ((0 < 1) ∧
  (((m 26 0 16) = a1 →
              ((jx_in ((m 29 0 ((13 * a1).toNat)) - 1)) ∧
  ((jx_in (((m 29 0 ((13 * a1).toNat)) - 1) - (-1))) ∧
  ((jx_in (((13 * a1) + 1) + (((m 29 0 ((13 * a1).toNat)) - 1) - (-1)))) ∧
  ((1 = 1 ∧ 0 ≤ (((13 * a1) + 1) + (((m 29 0 ((13 * a1).toNat)) - 1) - (-1))) ∧ (((13 * a1) + 1) + (((m 29 0 ((13 * a1).toNat)) - 1) - (-1))) < 78) ∧
  ((0 < 1) ∧
  Q (m 29 0 ((((13 * a1) + 1) + (((m 29 0 ((13 * a1).toNat)) - 1) - (-1))).toNat)) m)))))) ∧
              (¬ ((m 26 0 16) = a1) →
              ((jx_in (((13 * a1) + 1) + (-1))) ∧
  ((1 = 1 ∧ 0 ≤ (((13 * a1) + 1) + (-1)) ∧ (((13 * a1) + 1) + (-1)) < 78) ∧
  ((0 < 1) ∧
  Q (m 29 0 ((((13 * a1) + 1) + (-1)).toNat)) m)))))))))) ∧
            (¬ ((m 26 0 17) < 0) →
            ((0 < 1) ∧
  (((m 26 0 17) = a1 →
              ((0 < 1) ∧
  ((jx_in (13 * a1)) ∧
  ((jx_in ((13 * a1) + 1)) ∧
  ((0 < 1) ∧
  (((m 26 0 16) = a1 →
                ((jx_in ((m 29 0 ((13 * a1).toNat)) - 1)) ∧
  ((jx_in (((m 29 0 ((13 * a1).toNat)) - 1) - (-1))) ∧
  ((jx_in (((13 * a1) + 1) + (((m 29 0 ((13 * a1).toNat)) - 1) - (-1)))) ∧
  ((1 = 1 ∧ 0 ≤ (((13 * a1) + 1) + (((m 29 0 ((13 * a1).toNat)) - 1) - (-1))) ∧ (((13 * a1) + 1) + (((m 29 0 ((13 * a1).toNat)) - 1) - (-1))) < 78) ∧
  ((0 < 1) ∧
  Q (m 29 0 ((((13 * a1) + 1) + (((m 29 0 ((13 * a1).toNat)) - 1) - (-1))).toNat)) m)))))) ∧
                (¬ ((m 26 0 16) = a1) →
                ((jx_in (((13 * a1) + 1) + (-1))) ∧
  ((1 = 1 ∧ 0 ≤ (((13 * a1) + 1) + (-1)) ∧ (((13 * a1) + 1) + (-1)) < 78) ∧
  ((0 < 1) ∧
  Q (m 29 0 ((((13 * a1) + 1) + (-1)).toNat)) m)))))))))) ∧
              (¬ ((m 26 0 17) = a1) →
              Q (-4) m))))))) ∧
          (¬ (((-1) : Int) < (m 29 0 ((13 * a1).toNat))) →
          Q (-4) m))))) ∧
      (¬ ((a2 - (m 28 0 (((4 * a1) + 2).toNat))) < 0) →
      ((0 < 1) ∧
  ((jx_in (4 * a1)) ∧
  ((jx_in ((4 * a1) + 3)) ∧
  ((1 = 1 ∧ 0 ≤ ((4 * a1) + 3) ∧ ((4 * a1) + 3) < 24) ∧
  ((0 < 1) ∧
  ((0 ≤ (a2 - (m 28 0 (((4 * a1) + 2).toNat))) ∧ 0 < (m 28 0 (((4 * a1) + 3).toNat))) ∧
  ((((a2 - (m 28 0 (((4 * a1) + 2).toNat))) / (m 28 0 (((4 * a1) + 3).toNat))) < 0 →
        Q (-4) m) ∧
        (¬ (((a2 - (m 28 0 (((4 * a1) + 2).toNat))) / (m 28 0 (((4 * a1) + 3).toNat))) < 0) →
        ((((a2 - (m 28 0 (((4 * a1) + 2).toNat))) / (m 28 0 (((4 * a1) + 3).toNat))) < (m 29 0 ((13 * a1).toNat)) →
          ((0 < 1) ∧
  (((m 26 0 17) < 0 →
            ((0 < 1) ∧
  ((jx_in (13 * a1)) ∧
  ((jx_in ((13 * a1) + 1)) ∧
  ((0 < 1) ∧
  (((m 26 0 16) = a1 →
              ((jx_in ((m 29 0 ((13 * a1).toNat)) - 1)) ∧
  ((jx_in (((m 29 0 ((13 * a1).toNat)) - 1) - ((a2 - (m 28 0 (((4 * a1) + 2).toNat))) / (m 28 0 (((4 * a1) + 3).toNat))))) ∧
  ((jx_in (((13 * a1) + 1) + (((m 29 0 ((13 * a1).toNat)) - 1) - ((a2 - (m 28 0 (((4 * a1) + 2).toNat))) / (m 28 0 (((4 * a1) + 3).toNat)))))) ∧
  ((1 = 1 ∧ 0 ≤ (((13 * a1) + 1) + (((m 29 0 ((13 * a1).toNat)) - 1) - ((a2 - (m 28 0 (((4 * a1) + 2).toNat))) / (m 28 0 (((4 * a1) + 3).toNat))))) ∧ (((13 * a1) + 1) + (((m 29 0 ((13 * a1).toNat)) - 1) - ((a2 - (m 28 0 (((4 * a1) + 2).toNat))) / (m 28 0 (((4 * a1) + 3).toNat))))) < 78) ∧
  ((0 < 1) ∧
  Q (m 29 0 ((((13 * a1) + 1) + (((m 29 0 ((13 * a1).toNat)) - 1) - ((a2 - (m 28 0 (((4 * a1) + 2).toNat))) / (m 28 0 (((4 * a1) + 3).toNat))))).toNat)) m)))))) ∧
              (¬ ((m 26 0 16) = a1) →
              ((jx_in (((13 * a1) + 1) + ((a2 - (m 28 0 (((4 * a1) + 2).toNat))) / (m 28 0 (((4 * a1) + 3).toNat))))) ∧
  ((1 = 1 ∧ 0 ≤ (((13 * a1) + 1) + ((a2 - (m 28 0 (((4 * a1) + 2).toNat))) / (m 28 0 (((4 * a1) + 3).toNat)))) ∧ (((13 * a1) + 1) + ((a2 - (m 28 0 (((4 * a1) + 2).toNat))) / (m 28 0 (((4 * a1) + 3).toNat)))) < 78) ∧
  ((0 < 1) ∧
  Q (m 29 0 ((((13 * a1) + 1) + ((a2 - (m 28 0 (((4 * a1) + 2).toNat))) / (m 28 0 (((4 * a1) + 3).toNat)))).toNat)) m)))))))))) ∧
            (¬ ((m 26 0 17) < 0) →
            ((0 < 1) ∧
  (((m 26 0 17) = a1 →
              ((0 < 1) ∧
  ((jx_in (13 * a1)) ∧
  ((jx_in ((13 * a1) + 1)) ∧
  ((0 < 1) ∧
  (((m 26 0 16) = a1 →
                ((jx_in ((m 29 0 ((13 * a1).toNat)) - 1)) ∧
  ((jx_in (((m 29 0 ((13 * a1).toNat)) - 1) - ((a2 - (m 28 0 (((4 * a1) + 2).toNat))) / (m 28 0 (((4 * a1) + 3).toNat))))) ∧
  ((jx_in (((13 * a1) + 1) + (((m 29 0 ((13 * a1).toNat)) - 1) - ((a2 - (m 28 0 (((4 * a1) + 2).toNat))) / (m 28 0 (((4 * a1) + 3).toNat)))))) ∧
  ((1 = 1 ∧ 0 ≤ (((13 * a1) + 1) + (((m 29 0 ((13 * a1).toNat)) - 1) - ((a2 - (m 28 0 (((4 * a1) + 2).toNat))) / (m 28 0 (((4 * a1) + 3).toNat))))) ∧ (((13 * a1) + 1) + (((m 29 0 ((13 * a1).toNat)) - 1) - ((a2 - (m 28 0 (((4 * a1) + 2).toNat))) / (m 28 0 (((4 * a1) + 3).toNat))))) < 78) ∧
  ((0 < 1) ∧
  Q (m 29 0 ((((13 * a1) + 1) + (((m 29 0 ((13 * a1).toNat)) - 1) - ((a2 - (m 28 0 (((4 * a1) + 2).toNat))) / (m 28 0 (((4 * a1) + 3).toNat))))).toNat)) m)))))) ∧
                (¬ ((m 26 0 16) = a1) →
                ((jx_in (((13 * a1) + 1) + ((a2 - (m 28 0 (((4 * a1) + 2).toNat))) / (m 28 0 (((4 * a1) + 3).toNat))))) ∧
  ((1 = 1 ∧ 0 ≤ (((13 * a1) + 1) + ((a2 - (m 28 0 (((4 * a1) + 2).toNat))) / (m 28 0 (((4 * a1) + 3).toNat)))) ∧ (((13 * a1) + 1) + ((a2 - (m 28 0 (((4 * a1) + 2).toNat))) / (m 28 0 (((4 * a1) + 3).toNat)))) < 78) ∧
  ((0 < 1) ∧
  Q (m 29 0 ((((13 * a1) + 1) + ((a2 - (m 28 0 (((4 * a1) + 2).toNat))) / (m 28 0 (((4 * a1) + 3).toNat)))).toNat)) m)))))))))) ∧
              (¬ ((m 26 0 17) = a1) →
              Q (-4) m))))))) ∧
          (¬ (((a2 - (m 28 0 (((4 * a1) + 2).toNat))) / (m 28 0 (((4 * a1) + 3).toNat))) < (m 29 0 ((13 * a1).toNat))) →
          Q (-4) m))))))))))))))))))))))) :
    jx_Cl 142 [xA 26 0, xI a1, xI a2] m Q :=
  jx_segOk (x := 142) (cd := jx_c142) rfl (stops := []) 64 hv
set_option maxRecDepth 100000 in
theorem sg_143 (a1 : Int) (m : jx_M) (Q : Int → jx_M → Prop) (hv :
    ((0 < 1) ∧
  jx_Cl 130 [xA 26 0, xI a1] m (fun z1 m1 =>
      ((z1 = 0 →
        Q (-1) m1) ∧
        (¬ (z1 = 0) →
        ((0 < 1) ∧
  jx_Cl 144 [xA 26 0, xI a1] m1 (fun z2 m2 =>
          Q z2 m2))))))) :
    jx_Cl 143 [xA 26 0, xI a1] m Q :=
  jx_segOk (x := 143) (cd := jx_c143) rfl (stops := []) 10 hv
set_option maxRecDepth 100000 in
theorem sg_144 (a1 : Int) (m : jx_M) (Q : Int → jx_M → Prop) (hv :
    jx_AW 144 4 [some (xA 26 0), some (xI a1), some (xI 0), some (xI 1)] [] m Q) :
    jx_Cl 144 [xA 26 0, xI a1] m Q :=
  jx_segOk (x := 144) (cd := jx_c144) rfl (stops := [4]) 5 hv
set_option maxRecDepth 100000 in
theorem sg_144_4 (b1 : Int) (b2 : Int) (b3 : Int) (m : jx_M) (Q : Int → jx_M → Prop) (hv :
    ((0 < 1) ∧
  ((jx_in (7 * b1)) ∧
  ((1 = 1 ∧ 0 ≤ (7 * b1) ∧ (7 * b1) < 42) ∧
  ((0 < 1) ∧
  (((m 30 0 ((7 * b1).toNat)) < b3 →
      ((0 < 1) ∧
  ((jx_in (4 * b1)) ∧
  ((jx_in ((4 * b1) + 1)) ∧
  ((1 = 1 ∧ 0 ≤ ((4 * b1) + 1) ∧ ((4 * b1) + 1) < 24) ∧
  ((0 < 1) ∧
  ((0 < 1) ∧
  ((jx_in (7 * b1)) ∧
  ((1 = 1 ∧ 0 ≤ (7 * b1) ∧ (7 * b1) < 42) ∧
  ((0 < 1) ∧
  ((0 ≤ b2 ∧ 0 < (m 30 0 ((7 * b1).toNat))) ∧
  ((0 ≤ (b2 / (m 30 0 ((7 * b1).toNat))) ∧ 0 < (3 : Int)) ∧
  ((jx_in ((m 28 0 (((4 * b1) + 1).toNat)) + ((b2 / (m 30 0 ((7 * b1).toNat))) / 3))) ∧
  ((0 < 1) ∧
  (((0 : Int) < (jx_iand (m 26 0 6) 4) →
        (((4 : Int) < ((m 28 0 (((4 * b1) + 1).toNat)) + ((b2 / (m 30 0 ((7 * b1).toNat))) / 3)) →
          Q 4 m) ∧
          (¬ ((4 : Int) < ((m 28 0 (((4 * b1) + 1).toNat)) + ((b2 / (m 30 0 ((7 * b1).toNat))) / 3))) →
          Q ((m 28 0 (((4 * b1) + 1).toNat)) + ((b2 / (m 30 0 ((7 * b1).toNat))) / 3)) m))) ∧
        (¬ ((0 : Int) < (jx_iand (m 26 0 6) 4)) →
        Q ((m 28 0 (((4 * b1) + 1).toNat)) + ((b2 / (m 30 0 ((7 * b1).toNat))) / 3)) m)))))))))))))))) ∧
      (¬ ((m 30 0 ((7 * b1).toNat)) < b3) →
      ((0 < 1) ∧
  ((jx_in (7 * b1)) ∧
  ((jx_in ((7 * b1) + b3)) ∧
  ((1 = 1 ∧ 0 ≤ ((7 * b1) + b3) ∧ ((7 * b1) + b3) < 42) ∧
  ((0 < 1) ∧
  ((jx_in (b2 + (m 30 0 (((7 * b1) + b3).toNat)))) ∧
  ((jx_in (b3 + 1)) ∧
  jx_AW 144 4 [some (xA 26 0), some (xI b1), some (xI (b2 + (m 30 0 (((7 * b1) + b3).toNat)))), some (xI (b3 + 1))] [] m Q)))))))))))))) :
    jx_AW 144 4 [some (xA 26 0), some (xI b1), some (xI b2), some (xI b3)] [] m Q :=
  jx_segOk (x := 144) (cd := jx_c144) rfl (stops := [4]) 40 hv
set_option maxRecDepth 100000 in
theorem sg_145 (a1 : Int) (a2 : Int) (m : jx_M) (Q : Int → jx_M → Prop) (hv :
    jx_Cl 124 [xI a1] m (fun z1 m1 =>
      ((z1 = 0 →
        Q (-1) m1) ∧
        (¬ (z1 = 0) →
        jx_Cl 128 [xI a2] m1 (fun z2 m2 =>
          ((z2 = 0 →
            Q (-1) m2) ∧
            (¬ (z2 = 0) →
            jx_AW 145 12 [some (xA 26 0), some (xI a1), some (xI a2), some (xI 0), some (xI 0)] [] m2 Q))))))) :
    jx_Cl 145 [xA 26 0, xI a1, xI a2] m Q :=
  jx_segOk (x := 145) (cd := jx_c145) rfl (stops := [12]) 11 hv
set_option maxRecDepth 100000 in
theorem sg_145_12 (b1 : Int) (b2 : Int) (b3 : Int) (b4 : Int) (m : jx_M) (Q : Int → jx_M → Prop) (hv :
    ((0 < 1) ∧
  ((b4 < (m 26 0 1) →
      ((0 < 1) ∧
  jx_Cl 146 [xA 26 0, xI b1, xI b4, xI b2] m (fun z1 m1 =>
        ((z1 = 0 →
          ((jx_in (b4 + 1)) ∧
  jx_AW 145 12 [some (xA 26 0), some (xI b1), some (xI b2), some (xI (jx_ior b3 0)), some (xI (b4 + 1))] [] m1 Q)) ∧
          (¬ (z1 = 0) →
          ((jx_in (b4 + 1)) ∧
  jx_AW 145 12 [some (xA 26 0), some (xI b1), some (xI b2), some (xI (jx_ior b3 (jx_ishl 1 b4))), some (xI (b4 + 1))] [] m1 Q)))))) ∧
      (¬ (b4 < (m 26 0 1)) →
      Q b3 m)))) :
    jx_AW 145 12 [some (xA 26 0), some (xI b1), some (xI b2), some (xI b3), some (xI b4)] [] m Q :=
  jx_segOk (x := 145) (cd := jx_c145) rfl (stops := [12]) 20 hv
set_option maxRecDepth 100000 in
theorem sg_146 (a1 : Int) (a2 : Int) (a3 : Int) (m : jx_M) (Q : Int → jx_M → Prop) (hv :
    ((0 < 1) ∧
  jx_Cl 147 [xA 26 0, xI a2, xI a3] m (fun z1 m1 =>
      ((z1 = 0 →
        (((0 : Int) = 0 ∨ (0 : Int) = 1) ∧
  Q 0 m1)) ∧
        (¬ (z1 = 0) →
        ((0 < 1) ∧
  jx_Cl 142 [xA 26 0, xI a2, xI a3] m1 (fun z2 m2 =>
          jx_Cl 138 [xI z2, xI a1] m2 (fun z3 m3 =>
            ((0 < 1) ∧
  jx_Cl 144 [xA 26 0, xI a2] m3 (fun z4 m4 =>
              ((0 < 1) ∧
  ((1 = 1 ∧ 0 ≤ a1 ∧ a1 < 25) ∧
  ((0 < 1) ∧
  ((jx_in (z4 - (m4 27 0 (a1.toNat)))) ∧
  (((z4 - (m4 27 0 (a1.toNat))) < z3 →
                (((0 : Int) = 0 ∨ (0 : Int) = 1) ∧
  Q 0 m4)) ∧
                (¬ ((z4 - (m4 27 0 (a1.toNat))) < z3) →
                (((1 : Int) = 0 ∨ (1 : Int) = 1) ∧
  Q 1 m4))))))))))))))))) :
    jx_Cl 146 [xA 26 0, xI a1, xI a2, xI a3] m Q :=
  jx_segOk (x := 146) (cd := jx_c146) rfl (stops := []) 24 hv
set_option maxRecDepth 100000 in
theorem sg_147 (a1 : Int) (a2 : Int) (m : jx_M) (Q : Int → jx_M → Prop) (hv :
    ((0 < 1) ∧
  jx_Cl 142 [xA 26 0, xI a1, xI a2] m (fun z1 m1 =>
      ((z1 < 0 →
        (((0 : Int) = 0 ∨ (0 : Int) = 1) ∧
  Q 0 m1)) ∧
        (¬ (z1 < 0) →
        ((0 < 1) ∧
  ((jx_in (4 * a1)) ∧
  ((jx_in ((4 * a1) + 2)) ∧
  ((1 = 1 ∧ 0 ≤ ((4 * a1) + 2) ∧ ((4 * a1) + 2) < 24) ∧
  ((0 < 1) ∧
  ((jx_in (a2 - (m1 28 0 (((4 * a1) + 2).toNat)))) ∧
  ((0 < 1) ∧
  ((jx_in (4 * a1)) ∧
  ((jx_in ((4 * a1) + 3)) ∧
  ((1 = 1 ∧ 0 ≤ ((4 * a1) + 3) ∧ ((4 * a1) + 3) < 24) ∧
  ((0 < 1) ∧
  ((0 ≤ (a2 - (m1 28 0 (((4 * a1) + 2).toNat))) ∧ 0 < (m1 28 0 (((4 * a1) + 3).toNat))) ∧
  (((0 : Int) < ((a2 - (m1 28 0 (((4 * a1) + 2).toNat))) % (m1 28 0 (((4 * a1) + 3).toNat))) →
          (((0 : Int) = 0 ∨ (0 : Int) = 1) ∧
  Q 0 m1)) ∧
          (¬ ((0 : Int) < ((a2 - (m1 28 0 (((4 * a1) + 2).toNat))) % (m1 28 0 (((4 * a1) + 3).toNat)))) →
          ((0 < 1) ∧
  (((jx_iand (m1 26 0 6) 1) = 0 →
            ((0 < 1) ∧
  (((jx_iand (m1 26 0 6) 2) = 0 →
              jx_AW 147 53 [some (xA 26 0), some (xI a1), some (xI a2), some (xI z1), some (xI 1), some (xI 0), none] [] m1 Q) ∧
              (¬ ((jx_iand (m1 26 0 6) 2) = 0) →
              ((0 < 1) ∧
  ((1 = 1 ∧ 0 ≤ z1 ∧ z1 < 25) ∧
  ((0 < 1) ∧
  (((0 : Int) < (m1 27 0 (z1.toNat)) →
                jx_AW 147 53 [some (xA 26 0), some (xI a1), some (xI a2), some (xI z1), some (xI 1), some (xI 0), none] [] m1 Q) ∧
                (¬ ((0 : Int) < (m1 27 0 (z1.toNat))) →
                jx_AW 147 53 [some (xA 26 0), some (xI a1), some (xI a2), some (xI z1), some (xI 0), some (xI 0), none] [] m1 Q))))))))) ∧
            (¬ ((jx_iand (m1 26 0 6) 1) = 0) →
            ((a2 < 60 →
              ((0 < 1) ∧
  (((jx_iand (m1 26 0 6) 2) = 0 →
                jx_AW 147 53 [some (xA 26 0), some (xI a1), some (xI a2), some (xI z1), some (xI 1), some (xI 0), none] [] m1 Q) ∧
                (¬ ((jx_iand (m1 26 0 6) 2) = 0) →
                ((0 < 1) ∧
  ((1 = 1 ∧ 0 ≤ z1 ∧ z1 < 25) ∧
  ((0 < 1) ∧
  (((0 : Int) < (m1 27 0 (z1.toNat)) →
                  jx_AW 147 53 [some (xA 26 0), some (xI a1), some (xI a2), some (xI z1), some (xI 1), some (xI 0), none] [] m1 Q) ∧
                  (¬ ((0 : Int) < (m1 27 0 (z1.toNat))) →
                  jx_AW 147 53 [some (xA 26 0), some (xI a1), some (xI a2), some (xI z1), some (xI 0), some (xI 0), none] [] m1 Q))))))))) ∧
              (¬ (a2 < 60) →
              jx_AW 147 53 [some (xA 26 0), some (xI a1), some (xI a2), some (xI z1), some (xI 0), some (xI 0), none] [] m1 Q)))))))))))))))))))))))) :
    jx_Cl 147 [xA 26 0, xI a1, xI a2] m Q :=
  jx_segOk (x := 147) (cd := jx_c147) rfl (stops := [53]) 51 hv
set_option maxRecDepth 100000 in
theorem sg_147_53 (b1 : Int) (b2 : Int) (b3 : Int) (b4 : Int) (b5 : Int) (w6 : Option jx_V) (m : jx_M) (Q : Int → jx_M → Prop) (hv :
    ((b5 < b1 →
      ((0 < 1) ∧
  (((0 : Int) < (jx_iand (m 26 0 6) 8) →
        ((0 < 1) ∧
  jx_Cl 142 [xA 26 0, xI b5, xI b2] m (fun z1 m1 =>
          ((b4 = 0 →
            ((jx_in (b5 + 1)) ∧
  jx_AW 147 53 [some (xA 26 0), some (xI b1), some (xI b2), some (xI b3), some (xI 0), some (xI (b5 + 1)), some (xI z1)] [] m1 Q)) ∧
            (¬ (b4 = 0) →
            ((0 < 1) ∧
  ((jx_in (4 * b5)) ∧
  ((1 = 1 ∧ 0 ≤ (4 * b5) ∧ (4 * b5) < 24) ∧
  ((0 < 1) ∧
  ((0 < 1) ∧
  ((jx_in (4 * b1)) ∧
  ((1 = 1 ∧ 0 ≤ (4 * b1) ∧ (4 * b1) < 24) ∧
  ((0 < 1) ∧
  (((m1 28 0 ((4 * b5).toNat)) = (m1 28 0 ((4 * b1).toNat)) →
              ((z1 < 0 →
                ((jx_in (b5 + 1)) ∧
  jx_AW 147 53 [some (xA 26 0), some (xI b1), some (xI b2), some (xI b3), some (xI 1), some (xI (b5 + 1)), some (xI z1)] [] m1 Q)) ∧
                (¬ (z1 < 0) →
                jx_Cl 138 [xI z1, xI b3] m1 (fun z2 m2 =>
                  ((z2 < 3 →
                    ((jx_in (b5 + 1)) ∧
  jx_AW 147 53 [some (xA 26 0), some (xI b1), some (xI b2), some (xI b3), some (xI 0), some (xI (b5 + 1)), some (xI z1)] [] m2 Q)) ∧
                    (¬ (z2 < 3) →
                    ((jx_in (b5 + 1)) ∧
  jx_AW 147 53 [some (xA 26 0), some (xI b1), some (xI b2), some (xI b3), some (xI 1), some (xI (b5 + 1)), some (xI z1)] [] m2 Q))))))) ∧
              (¬ ((m1 28 0 ((4 * b5).toNat)) = (m1 28 0 ((4 * b1).toNat))) →
              ((jx_in (b5 + 1)) ∧
  jx_AW 147 53 [some (xA 26 0), some (xI b1), some (xI b2), some (xI b3), some (xI 1), some (xI (b5 + 1)), some (xI z1)] [] m1 Q)))))))))))))))) ∧
        (¬ ((0 : Int) < (jx_iand (m 26 0 6) 8)) →
        ((b4 = 0 ∨ b4 = 1) ∧
  Q b4 m))))) ∧
      (¬ (b5 < b1) →
      ((b4 = 0 ∨ b4 = 1) ∧
  Q b4 m)))) :
    jx_AW 147 53 [some (xA 26 0), some (xI b1), some (xI b2), some (xI b3), some (xI b4), some (xI b5), w6] [] m Q :=
  jx_segOk (x := 147) (cd := jx_c147) rfl (stops := [53]) 41 hv
set_option maxRecDepth 100000 in
theorem sg_148 (a1 : Int) (a2 : Int) (m : jx_M) (Q : Int → jx_M → Prop) (hv :
    ((0 < 1) ∧
  jx_Cl 130 [xA 26 0, xI a1] m (fun z1 m1 =>
      ((z1 = 0 →
        Q (-1) m1) ∧
        (¬ (z1 = 0) →
        ((0 < 1) ∧
  jx_Cl 130 [xA 26 0, xI a2] m1 (fun z2 m2 =>
          ((z2 = 0 →
            Q (-1) m2) ∧
            (¬ (z2 = 0) →
            ((0 < 1) ∧
  jx_Cl 149 [xA 26 0, xI a1, xI a2] m2 (fun z3 m3 =>
              Q z3 m3))))))))))) :
    jx_Cl 148 [xA 26 0, xI a1, xI a2] m Q :=
  jx_segOk (x := 148) (cd := jx_c148) rfl (stops := []) 15 hv
set_option maxRecDepth 100000 in
theorem sg_149 (a1 : Int) (a2 : Int) (m : jx_M) (Q : Int → jx_M → Prop) (hv :
    ((0 < 1) ∧
  ((jx_in (7 * a1)) ∧
  ((jx_in ((7 * a1) + 1)) ∧
  ((0 < 1) ∧
  ((jx_in (7 * a1)) ∧
  ((1 = 1 ∧ 0 ≤ (7 * a1) ∧ (7 * a1) < 42) ∧
  ((0 < 1) ∧
  ((0 < 1) ∧
  ((jx_in (7 * a2)) ∧
  ((jx_in ((7 * a2) + 1)) ∧
  ((0 < 1) ∧
  ((jx_in (7 * a2)) ∧
  ((1 = 1 ∧ 0 ≤ (7 * a2) ∧ (7 * a2) < 42) ∧
  ((0 < 1) ∧
  jx_Cl 150 [xA 30 0, xI ((7 * a1) + 1), xI (m 30 0 ((7 * a1).toNat)), xA 30 0, xI ((7 * a2) + 1), xI (m 30 0 ((7 * a2).toNat))] m (fun z1 m1 =>
      Q z1 m1)))))))))))))))) :
    jx_Cl 149 [xA 26 0, xI a1, xI a2] m Q :=
  jx_segOk (x := 149) (cd := jx_c149) rfl (stops := []) 29 hv
set_option maxRecDepth 100000 in
theorem sg_150_Mtunes_Mtunes (a2 : Int) (a3 : Int) (a5 : Int) (a6 : Int) (m : jx_M) (Q : Int → jx_M → Prop) (hv :
    jx_AW 150 4 [some (xA 30 0), some (xI a2), some (xI a3), some (xA 30 0), some (xI a5), some (xI a6), some (xI 0), some (xI 0), none] [] m Q) :
    jx_Cl 150 [xA 30 0, xI a2, xI a3, xA 30 0, xI a5, xI a6] m Q :=
  jx_segOk (x := 150) (cd := jx_c150) rfl (stops := [4]) 5 hv
set_option maxRecDepth 100000 in
theorem sg_150_Mtunes_Mtunes_4 (b1 : Int) (b2 : Int) (b4 : Int) (b5 : Int) (b6 : Int) (b7 : Int) (w8 : Option jx_V) (m : jx_M) (Q : Int → jx_M → Prop) (hv :
    ((b7 < b2 →
      ((b7 < b2 →
        ((b7 < b5 →
          ((jx_in (b1 + b7)) ∧
  ((1 = 1 ∧ 0 ≤ (b1 + b7) ∧ (b1 + b7) < 42) ∧
  ((0 < 1) ∧
  ((jx_in (b4 + b7)) ∧
  ((1 = 1 ∧ 0 ≤ (b4 + b7) ∧ (b4 + b7) < 42) ∧
  ((0 < 1) ∧
  ((jx_in ((m 30 0 ((b1 + b7).toNat)) - (m 30 0 ((b4 + b7).toNat)))) ∧
  ((((m 30 0 ((b1 + b7).toNat)) - (m 30 0 ((b4 + b7).toNat))) < 0 →
            ((jx_in (-((m 30 0 ((b1 + b7).toNat)) - (m 30 0 ((b4 + b7).toNat))))) ∧
  ((jx_in (b6 + (-((m 30 0 ((b1 + b7).toNat)) - (m 30 0 ((b4 + b7).toNat)))))) ∧
  ((jx_in (b7 + 1)) ∧
  jx_AW 150 4 [some (xA 30 0), some (xI b1), some (xI b2), some (xA 30 0), some (xI b4), some (xI b5), some (xI (b6 + (-((m 30 0 ((b1 + b7).toNat)) - (m 30 0 ((b4 + b7).toNat)))))), some (xI (b7 + 1)), some (xI ((m 30 0 ((b1 + b7).toNat)) - (m 30 0 ((b4 + b7).toNat))))] [] m Q)))) ∧
            (¬ (((m 30 0 ((b1 + b7).toNat)) - (m 30 0 ((b4 + b7).toNat))) < 0) →
            ((jx_in (b6 + ((m 30 0 ((b1 + b7).toNat)) - (m 30 0 ((b4 + b7).toNat))))) ∧
  ((jx_in (b7 + 1)) ∧
  jx_AW 150 4 [some (xA 30 0), some (xI b1), some (xI b2), some (xA 30 0), some (xI b4), some (xI b5), some (xI (b6 + ((m 30 0 ((b1 + b7).toNat)) - (m 30 0 ((b4 + b7).toNat))))), some (xI (b7 + 1)), some (xI ((m 30 0 ((b1 + b7).toNat)) - (m 30 0 ((b4 + b7).toNat))))] [] m Q)))))))))))) ∧
          (¬ (b7 < b5) →
          (((4 : Int) < 0 →
            ((jx_in (-4)) ∧
  ((jx_in (b6 + (-4))) ∧
  ((jx_in (b7 + 1)) ∧
  jx_AW 150 4 [some (xA 30 0), some (xI b1), some (xI b2), some (xA 30 0), some (xI b4), some (xI b5), some (xI (b6 + (-4))), some (xI (b7 + 1)), some (xI 4)] [] m Q)))) ∧
            (¬ ((4 : Int) < 0) →
            ((jx_in (b6 + 4)) ∧
  ((jx_in (b7 + 1)) ∧
  jx_AW 150 4 [some (xA 30 0), some (xI b1), some (xI b2), some (xA 30 0), some (xI b4), some (xI b5), some (xI (b6 + 4)), some (xI (b7 + 1)), some (xI 4)] [] m Q))))))) ∧
        (¬ (b7 < b2) →
        (((4 : Int) < 0 →
          ((jx_in (-4)) ∧
  ((jx_in (b6 + (-4))) ∧
  ((jx_in (b7 + 1)) ∧
  jx_AW 150 4 [some (xA 30 0), some (xI b1), some (xI b2), some (xA 30 0), some (xI b4), some (xI b5), some (xI (b6 + (-4))), some (xI (b7 + 1)), some (xI 4)] [] m Q)))) ∧
          (¬ ((4 : Int) < 0) →
          ((jx_in (b6 + 4)) ∧
  ((jx_in (b7 + 1)) ∧
  jx_AW 150 4 [some (xA 30 0), some (xI b1), some (xI b2), some (xA 30 0), some (xI b4), some (xI b5), some (xI (b6 + 4)), some (xI (b7 + 1)), some (xI 4)] [] m Q))))))) ∧
      (¬ (b7 < b2) →
      ((b7 < b5 →
        ((b7 < b2 →
          ((b7 < b5 →
            ((jx_in (b1 + b7)) ∧
  ((1 = 1 ∧ 0 ≤ (b1 + b7) ∧ (b1 + b7) < 42) ∧
  ((0 < 1) ∧
  ((jx_in (b4 + b7)) ∧
  ((1 = 1 ∧ 0 ≤ (b4 + b7) ∧ (b4 + b7) < 42) ∧
  ((0 < 1) ∧
  ((jx_in ((m 30 0 ((b1 + b7).toNat)) - (m 30 0 ((b4 + b7).toNat)))) ∧
  ((((m 30 0 ((b1 + b7).toNat)) - (m 30 0 ((b4 + b7).toNat))) < 0 →
              ((jx_in (-((m 30 0 ((b1 + b7).toNat)) - (m 30 0 ((b4 + b7).toNat))))) ∧
  ((jx_in (b6 + (-((m 30 0 ((b1 + b7).toNat)) - (m 30 0 ((b4 + b7).toNat)))))) ∧
  ((jx_in (b7 + 1)) ∧
  jx_AW 150 4 [some (xA 30 0), some (xI b1), some (xI b2), some (xA 30 0), some (xI b4), some (xI b5), some (xI (b6 + (-((m 30 0 ((b1 + b7).toNat)) - (m 30 0 ((b4 + b7).toNat)))))), some (xI (b7 + 1)), some (xI ((m 30 0 ((b1 + b7).toNat)) - (m 30 0 ((b4 + b7).toNat))))] [] m Q)))) ∧
              (¬ (((m 30 0 ((b1 + b7).toNat)) - (m 30 0 ((b4 + b7).toNat))) < 0) →
              ((jx_in (b6 + ((m 30 0 ((b1 + b7).toNat)) - (m 30 0 ((b4 + b7).toNat))))) ∧
  ((jx_in (b7 + 1)) ∧
  jx_AW 150 4 [some (xA 30 0), some (xI b1), some (xI b2), some (xA 30 0), some (xI b4), some (xI b5), some (xI (b6 + ((m 30 0 ((b1 + b7).toNat)) - (m 30 0 ((b4 + b7).toNat))))), some (xI (b7 + 1)), some (xI ((m 30 0 ((b1 + b7).toNat)) - (m 30 0 ((b4 + b7).toNat))))] [] m Q)))))))))))) ∧
            (¬ (b7 < b5) →
            (((4 : Int) < 0 →
              ((jx_in (-4)) ∧
  ((jx_in (b6 + (-4))) ∧
  ((jx_in (b7 + 1)) ∧
  jx_AW 150 4 [some (xA 30 0), some (xI b1), some (xI b2), some (xA 30 0), some (xI b4), some (xI b5), some (xI (b6 + (-4))), some (xI (b7 + 1)), some (xI 4)] [] m Q)))) ∧
              (¬ ((4 : Int) < 0) →
              ((jx_in (b6 + 4)) ∧
  ((jx_in (b7 + 1)) ∧
  jx_AW 150 4 [some (xA 30 0), some (xI b1), some (xI b2), some (xA 30 0), some (xI b4), some (xI b5), some (xI (b6 + 4)), some (xI (b7 + 1)), some (xI 4)] [] m Q))))))) ∧
          (¬ (b7 < b2) →
          (((4 : Int) < 0 →
            ((jx_in (-4)) ∧
  ((jx_in (b6 + (-4))) ∧
  ((jx_in (b7 + 1)) ∧
  jx_AW 150 4 [some (xA 30 0), some (xI b1), some (xI b2), some (xA 30 0), some (xI b4), some (xI b5), some (xI (b6 + (-4))), some (xI (b7 + 1)), some (xI 4)] [] m Q)))) ∧
            (¬ ((4 : Int) < 0) →
            ((jx_in (b6 + 4)) ∧
  ((jx_in (b7 + 1)) ∧
  jx_AW 150 4 [some (xA 30 0), some (xI b1), some (xI b2), some (xA 30 0), some (xI b4), some (xI b5), some (xI (b6 + 4)), some (xI (b7 + 1)), some (xI 4)] [] m Q))))))) ∧
        (¬ (b7 < b5) →
        Q b6 m))))) :
    jx_AW 150 4 [some (xA 30 0), some (xI b1), some (xI b2), some (xA 30 0), some (xI b4), some (xI b5), some (xI b6), some (xI b7), w8] [] m Q :=
  jx_segOk (x := 150) (cd := jx_c150) rfl (stops := [4]) 36 hv
set_option maxRecDepth 100000 in
theorem sg_150_Mrow_Mtunes (a2 : Int) (a3 : Int) (a5 : Int) (a6 : Int) (m : jx_M) (Q : Int → jx_M → Prop) (hv :
    jx_AW 150 4 [some (xA 41 0), some (xI a2), some (xI a3), some (xA 30 0), some (xI a5), some (xI a6), some (xI 0), some (xI 0), none] [] m Q) :
    jx_Cl 150 [xA 41 0, xI a2, xI a3, xA 30 0, xI a5, xI a6] m Q :=
  jx_segOk (x := 150) (cd := jx_c150) rfl (stops := [4]) 5 hv
set_option maxRecDepth 100000 in
theorem sg_150_Mrow_Mtunes_4 (b1 : Int) (b2 : Int) (b4 : Int) (b5 : Int) (b6 : Int) (b7 : Int) (w8 : Option jx_V) (m : jx_M) (Q : Int → jx_M → Prop) (hv :
    ((b7 < b2 →
      ((b7 < b2 →
        ((b7 < b5 →
          ((jx_in (b1 + b7)) ∧
  ((1 = 1 ∧ 0 ≤ (b1 + b7) ∧ (b1 + b7) < 6) ∧
  ((0 < 1) ∧
  ((jx_in (b4 + b7)) ∧
  ((1 = 1 ∧ 0 ≤ (b4 + b7) ∧ (b4 + b7) < 42) ∧
  ((0 < 1) ∧
  ((jx_in ((m 41 0 ((b1 + b7).toNat)) - (m 30 0 ((b4 + b7).toNat)))) ∧
  ((((m 41 0 ((b1 + b7).toNat)) - (m 30 0 ((b4 + b7).toNat))) < 0 →
            ((jx_in (-((m 41 0 ((b1 + b7).toNat)) - (m 30 0 ((b4 + b7).toNat))))) ∧
  ((jx_in (b6 + (-((m 41 0 ((b1 + b7).toNat)) - (m 30 0 ((b4 + b7).toNat)))))) ∧
  ((jx_in (b7 + 1)) ∧
  jx_AW 150 4 [some (xA 41 0), some (xI b1), some (xI b2), some (xA 30 0), some (xI b4), some (xI b5), some (xI (b6 + (-((m 41 0 ((b1 + b7).toNat)) - (m 30 0 ((b4 + b7).toNat)))))), some (xI (b7 + 1)), some (xI ((m 41 0 ((b1 + b7).toNat)) - (m 30 0 ((b4 + b7).toNat))))] [] m Q)))) ∧
            (¬ (((m 41 0 ((b1 + b7).toNat)) - (m 30 0 ((b4 + b7).toNat))) < 0) →
            ((jx_in (b6 + ((m 41 0 ((b1 + b7).toNat)) - (m 30 0 ((b4 + b7).toNat))))) ∧
  ((jx_in (b7 + 1)) ∧
  jx_AW 150 4 [some (xA 41 0), some (xI b1), some (xI b2), some (xA 30 0), some (xI b4), some (xI b5), some (xI (b6 + ((m 41 0 ((b1 + b7).toNat)) - (m 30 0 ((b4 + b7).toNat))))), some (xI (b7 + 1)), some (xI ((m 41 0 ((b1 + b7).toNat)) - (m 30 0 ((b4 + b7).toNat))))] [] m Q)))))))))))) ∧
          (¬ (b7 < b5) →
          (((4 : Int) < 0 →
            ((jx_in (-4)) ∧
  ((jx_in (b6 + (-4))) ∧
  ((jx_in (b7 + 1)) ∧
  jx_AW 150 4 [some (xA 41 0), some (xI b1), some (xI b2), some (xA 30 0), some (xI b4), some (xI b5), some (xI (b6 + (-4))), some (xI (b7 + 1)), some (xI 4)] [] m Q)))) ∧
            (¬ ((4 : Int) < 0) →
            ((jx_in (b6 + 4)) ∧
  ((jx_in (b7 + 1)) ∧
  jx_AW 150 4 [some (xA 41 0), some (xI b1), some (xI b2), some (xA 30 0), some (xI b4), some (xI b5), some (xI (b6 + 4)), some (xI (b7 + 1)), some (xI 4)] [] m Q))))))) ∧
        (¬ (b7 < b2) →
        (((4 : Int) < 0 →
          ((jx_in (-4)) ∧
  ((jx_in (b6 + (-4))) ∧
  ((jx_in (b7 + 1)) ∧
  jx_AW 150 4 [some (xA 41 0), some (xI b1), some (xI b2), some (xA 30 0), some (xI b4), some (xI b5), some (xI (b6 + (-4))), some (xI (b7 + 1)), some (xI 4)] [] m Q)))) ∧
          (¬ ((4 : Int) < 0) →
          ((jx_in (b6 + 4)) ∧
  ((jx_in (b7 + 1)) ∧
  jx_AW 150 4 [some (xA 41 0), some (xI b1), some (xI b2), some (xA 30 0), some (xI b4), some (xI b5), some (xI (b6 + 4)), some (xI (b7 + 1)), some (xI 4)] [] m Q))))))) ∧
      (¬ (b7 < b2) →
      ((b7 < b5 →
        ((b7 < b2 →
          ((b7 < b5 →
            ((jx_in (b1 + b7)) ∧
  ((1 = 1 ∧ 0 ≤ (b1 + b7) ∧ (b1 + b7) < 6) ∧
  ((0 < 1) ∧
  ((jx_in (b4 + b7)) ∧
  ((1 = 1 ∧ 0 ≤ (b4 + b7) ∧ (b4 + b7) < 42) ∧
  ((0 < 1) ∧
  ((jx_in ((m 41 0 ((b1 + b7).toNat)) - (m 30 0 ((b4 + b7).toNat)))) ∧
  ((((m 41 0 ((b1 + b7).toNat)) - (m 30 0 ((b4 + b7).toNat))) < 0 →
              ((jx_in (-((m 41 0 ((b1 + b7).toNat)) - (m 30 0 ((b4 + b7).toNat))))) ∧
  ((jx_in (b6 + (-((m 41 0 ((b1 + b7).toNat)) - (m 30 0 ((b4 + b7).toNat)))))) ∧
  ((jx_in (b7 + 1)) ∧
  jx_AW 150 4 [some (xA 41 0), some (xI b1), some (xI b2), some (xA 30 0), some (xI b4), some (xI b5), some (xI (b6 + (-((m 41 0 ((b1 + b7).toNat)) - (m 30 0 ((b4 + b7).toNat)))))), some (xI (b7 + 1)), some (xI ((m 41 0 ((b1 + b7).toNat)) - (m 30 0 ((b4 + b7).toNat))))] [] m Q)))) ∧
              (¬ (((m 41 0 ((b1 + b7).toNat)) - (m 30 0 ((b4 + b7).toNat))) < 0) →
              ((jx_in (b6 + ((m 41 0 ((b1 + b7).toNat)) - (m 30 0 ((b4 + b7).toNat))))) ∧
  ((jx_in (b7 + 1)) ∧
  jx_AW 150 4 [some (xA 41 0), some (xI b1), some (xI b2), some (xA 30 0), some (xI b4), some (xI b5), some (xI (b6 + ((m 41 0 ((b1 + b7).toNat)) - (m 30 0 ((b4 + b7).toNat))))), some (xI (b7 + 1)), some (xI ((m 41 0 ((b1 + b7).toNat)) - (m 30 0 ((b4 + b7).toNat))))] [] m Q)))))))))))) ∧
            (¬ (b7 < b5) →
            (((4 : Int) < 0 →
              ((jx_in (-4)) ∧
  ((jx_in (b6 + (-4))) ∧
  ((jx_in (b7 + 1)) ∧
  jx_AW 150 4 [some (xA 41 0), some (xI b1), some (xI b2), some (xA 30 0), some (xI b4), some (xI b5), some (xI (b6 + (-4))), some (xI (b7 + 1)), some (xI 4)] [] m Q)))) ∧
              (¬ ((4 : Int) < 0) →
              ((jx_in (b6 + 4)) ∧
  ((jx_in (b7 + 1)) ∧
  jx_AW 150 4 [some (xA 41 0), some (xI b1), some (xI b2), some (xA 30 0), some (xI b4), some (xI b5), some (xI (b6 + 4)), some (xI (b7 + 1)), some (xI 4)] [] m Q))))))) ∧
          (¬ (b7 < b2) →
          (((4 : Int) < 0 →
            ((jx_in (-4)) ∧
  ((jx_in (b6 + (-4))) ∧
  ((jx_in (b7 + 1)) ∧
  jx_AW 150 4 [some (xA 41 0), some (xI b1), some (xI b2), some (xA 30 0), some (xI b4), some (xI b5), some (xI (b6 + (-4))), some (xI (b7 + 1)), some (xI 4)] [] m Q)))) ∧
            (¬ ((4 : Int) < 0) →
            ((jx_in (b6 + 4)) ∧
  ((jx_in (b7 + 1)) ∧
  jx_AW 150 4 [some (xA 41 0), some (xI b1), some (xI b2), some (xA 30 0), some (xI b4), some (xI b5), some (xI (b6 + 4)), some (xI (b7 + 1)), some (xI 4)] [] m Q))))))) ∧
        (¬ (b7 < b5) →
        Q b6 m))))) :
    jx_AW 150 4 [some (xA 41 0), some (xI b1), some (xI b2), some (xA 30 0), some (xI b4), some (xI b5), some (xI b6), some (xI b7), w8] [] m Q :=
  jx_segOk (x := 150) (cd := jx_c150) rfl (stops := [4]) 36 hv
set_option maxRecDepth 100000 in
theorem sg_150_Mitems_Mitems (a2 : Int) (a3 : Int) (a5 : Int) (a6 : Int) (m : jx_M) (Q : Int → jx_M → Prop) (hv :
    jx_AW 150 4 [some (xA 45 0), some (xI a2), some (xI a3), some (xA 45 0), some (xI a5), some (xI a6), some (xI 0), some (xI 0), none] [] m Q) :
    jx_Cl 150 [xA 45 0, xI a2, xI a3, xA 45 0, xI a5, xI a6] m Q :=
  jx_segOk (x := 150) (cd := jx_c150) rfl (stops := [4]) 5 hv
set_option maxRecDepth 100000 in
theorem sg_150_Mitems_Mitems_4 (b1 : Int) (b2 : Int) (b4 : Int) (b5 : Int) (b6 : Int) (b7 : Int) (w8 : Option jx_V) (m : jx_M) (Q : Int → jx_M → Prop) (hv :
    ((b7 < b2 →
      ((b7 < b2 →
        ((b7 < b5 →
          ((jx_in (b1 + b7)) ∧
  ((1 = 1 ∧ 0 ≤ (b1 + b7) ∧ (b1 + b7) < 96) ∧
  ((0 < 1) ∧
  ((jx_in (b4 + b7)) ∧
  ((1 = 1 ∧ 0 ≤ (b4 + b7) ∧ (b4 + b7) < 96) ∧
  ((0 < 1) ∧
  ((jx_in ((m 45 0 ((b1 + b7).toNat)) - (m 45 0 ((b4 + b7).toNat)))) ∧
  ((((m 45 0 ((b1 + b7).toNat)) - (m 45 0 ((b4 + b7).toNat))) < 0 →
            ((jx_in (-((m 45 0 ((b1 + b7).toNat)) - (m 45 0 ((b4 + b7).toNat))))) ∧
  ((jx_in (b6 + (-((m 45 0 ((b1 + b7).toNat)) - (m 45 0 ((b4 + b7).toNat)))))) ∧
  ((jx_in (b7 + 1)) ∧
  jx_AW 150 4 [some (xA 45 0), some (xI b1), some (xI b2), some (xA 45 0), some (xI b4), some (xI b5), some (xI (b6 + (-((m 45 0 ((b1 + b7).toNat)) - (m 45 0 ((b4 + b7).toNat)))))), some (xI (b7 + 1)), some (xI ((m 45 0 ((b1 + b7).toNat)) - (m 45 0 ((b4 + b7).toNat))))] [] m Q)))) ∧
            (¬ (((m 45 0 ((b1 + b7).toNat)) - (m 45 0 ((b4 + b7).toNat))) < 0) →
            ((jx_in (b6 + ((m 45 0 ((b1 + b7).toNat)) - (m 45 0 ((b4 + b7).toNat))))) ∧
  ((jx_in (b7 + 1)) ∧
  jx_AW 150 4 [some (xA 45 0), some (xI b1), some (xI b2), some (xA 45 0), some (xI b4), some (xI b5), some (xI (b6 + ((m 45 0 ((b1 + b7).toNat)) - (m 45 0 ((b4 + b7).toNat))))), some (xI (b7 + 1)), some (xI ((m 45 0 ((b1 + b7).toNat)) - (m 45 0 ((b4 + b7).toNat))))] [] m Q)))))))))))) ∧
          (¬ (b7 < b5) →
          (((4 : Int) < 0 →
            ((jx_in (-4)) ∧
  ((jx_in (b6 + (-4))) ∧
  ((jx_in (b7 + 1)) ∧
  jx_AW 150 4 [some (xA 45 0), some (xI b1), some (xI b2), some (xA 45 0), some (xI b4), some (xI b5), some (xI (b6 + (-4))), some (xI (b7 + 1)), some (xI 4)] [] m Q)))) ∧
            (¬ ((4 : Int) < 0) →
            ((jx_in (b6 + 4)) ∧
  ((jx_in (b7 + 1)) ∧
  jx_AW 150 4 [some (xA 45 0), some (xI b1), some (xI b2), some (xA 45 0), some (xI b4), some (xI b5), some (xI (b6 + 4)), some (xI (b7 + 1)), some (xI 4)] [] m Q))))))) ∧
        (¬ (b7 < b2) →
        (((4 : Int) < 0 →
          ((jx_in (-4)) ∧
  ((jx_in (b6 + (-4))) ∧
  ((jx_in (b7 + 1)) ∧
  jx_AW 150 4 [some (xA 45 0), some (xI b1), some (xI b2), some (xA 45 0), some (xI b4), some (xI b5), some (xI (b6 + (-4))), some (xI (b7 + 1)), some (xI 4)] [] m Q)))) ∧
          (¬ ((4 : Int) < 0) →
          ((jx_in (b6 + 4)) ∧
  ((jx_in (b7 + 1)) ∧
  jx_AW 150 4 [some (xA 45 0), some (xI b1), some (xI b2), some (xA 45 0), some (xI b4), some (xI b5), some (xI (b6 + 4)), some (xI (b7 + 1)), some (xI 4)] [] m Q))))))) ∧
      (¬ (b7 < b2) →
      ((b7 < b5 →
        ((b7 < b2 →
          ((b7 < b5 →
            ((jx_in (b1 + b7)) ∧
  ((1 = 1 ∧ 0 ≤ (b1 + b7) ∧ (b1 + b7) < 96) ∧
  ((0 < 1) ∧
  ((jx_in (b4 + b7)) ∧
  ((1 = 1 ∧ 0 ≤ (b4 + b7) ∧ (b4 + b7) < 96) ∧
  ((0 < 1) ∧
  ((jx_in ((m 45 0 ((b1 + b7).toNat)) - (m 45 0 ((b4 + b7).toNat)))) ∧
  ((((m 45 0 ((b1 + b7).toNat)) - (m 45 0 ((b4 + b7).toNat))) < 0 →
              ((jx_in (-((m 45 0 ((b1 + b7).toNat)) - (m 45 0 ((b4 + b7).toNat))))) ∧
  ((jx_in (b6 + (-((m 45 0 ((b1 + b7).toNat)) - (m 45 0 ((b4 + b7).toNat)))))) ∧
  ((jx_in (b7 + 1)) ∧
  jx_AW 150 4 [some (xA 45 0), some (xI b1), some (xI b2), some (xA 45 0), some (xI b4), some (xI b5), some (xI (b6 + (-((m 45 0 ((b1 + b7).toNat)) - (m 45 0 ((b4 + b7).toNat)))))), some (xI (b7 + 1)), some (xI ((m 45 0 ((b1 + b7).toNat)) - (m 45 0 ((b4 + b7).toNat))))] [] m Q)))) ∧
              (¬ (((m 45 0 ((b1 + b7).toNat)) - (m 45 0 ((b4 + b7).toNat))) < 0) →
              ((jx_in (b6 + ((m 45 0 ((b1 + b7).toNat)) - (m 45 0 ((b4 + b7).toNat))))) ∧
  ((jx_in (b7 + 1)) ∧
  jx_AW 150 4 [some (xA 45 0), some (xI b1), some (xI b2), some (xA 45 0), some (xI b4), some (xI b5), some (xI (b6 + ((m 45 0 ((b1 + b7).toNat)) - (m 45 0 ((b4 + b7).toNat))))), some (xI (b7 + 1)), some (xI ((m 45 0 ((b1 + b7).toNat)) - (m 45 0 ((b4 + b7).toNat))))] [] m Q)))))))))))) ∧
            (¬ (b7 < b5) →
            (((4 : Int) < 0 →
              ((jx_in (-4)) ∧
  ((jx_in (b6 + (-4))) ∧
  ((jx_in (b7 + 1)) ∧
  jx_AW 150 4 [some (xA 45 0), some (xI b1), some (xI b2), some (xA 45 0), some (xI b4), some (xI b5), some (xI (b6 + (-4))), some (xI (b7 + 1)), some (xI 4)] [] m Q)))) ∧
              (¬ ((4 : Int) < 0) →
              ((jx_in (b6 + 4)) ∧
  ((jx_in (b7 + 1)) ∧
  jx_AW 150 4 [some (xA 45 0), some (xI b1), some (xI b2), some (xA 45 0), some (xI b4), some (xI b5), some (xI (b6 + 4)), some (xI (b7 + 1)), some (xI 4)] [] m Q))))))) ∧
          (¬ (b7 < b2) →
          (((4 : Int) < 0 →
            ((jx_in (-4)) ∧
  ((jx_in (b6 + (-4))) ∧
  ((jx_in (b7 + 1)) ∧
  jx_AW 150 4 [some (xA 45 0), some (xI b1), some (xI b2), some (xA 45 0), some (xI b4), some (xI b5), some (xI (b6 + (-4))), some (xI (b7 + 1)), some (xI 4)] [] m Q)))) ∧
            (¬ ((4 : Int) < 0) →
            ((jx_in (b6 + 4)) ∧
  ((jx_in (b7 + 1)) ∧
  jx_AW 150 4 [some (xA 45 0), some (xI b1), some (xI b2), some (xA 45 0), some (xI b4), some (xI b5), some (xI (b6 + 4)), some (xI (b7 + 1)), some (xI 4)] [] m Q))))))) ∧
        (¬ (b7 < b5) →
        Q b6 m))))) :
    jx_AW 150 4 [some (xA 45 0), some (xI b1), some (xI b2), some (xA 45 0), some (xI b4), some (xI b5), some (xI b6), some (xI b7), w8] [] m Q :=
  jx_segOk (x := 150) (cd := jx_c150) rfl (stops := [4]) 36 hv
set_option maxRecDepth 100000 in
theorem sg_151 (a1 : Int) (m : jx_M) (Q : Int → jx_M → Prop) (hv :
    jx_Cl 125 [xL a1, xL 0, xL 20] m (fun z1 m1 =>
      ((z1 = 0 →
        Q (-1) m1) ∧
        (¬ (z1 = 0) →
        ((0 < 1) ∧
  ((0 < 1) ∧
  Q (m1 26 0 5) (jx_up m1 26 0 5 a1))))))) :
    jx_Cl 151 [xA 26 0, xI a1] m Q :=
  jx_segOk (x := 151) (cd := jx_c151) rfl (stops := []) 15 hv
set_option maxRecDepth 100000 in
theorem sg_152 (a1 : Int) (a2 : Int) (m : jx_M) (Q : Int → jx_M → Prop) (hv :
    jx_Cl 125 [xL a1, xL 0, xL 3] m (fun z1 m1 =>
      ((z1 = 0 →
        Q (-1) m1) ∧
        (¬ (z1 = 0) →
        ((0 < 1) ∧
  ((a2 = 0 →
          ((0 < 1) ∧
  ((0 < 1) ∧
  Q (jx_iand (jx_ishr (m1 26 0 6) a1) 1) (jx_up m1 26 0 6 (jx_iand (m1 26 0 6) (jx_ixor (jx_ishl 1 a1) (-1))))))) ∧
          (¬ (a2 = 0) →
          ((0 < 1) ∧
  ((0 < 1) ∧
  Q (jx_iand (jx_ishr (m1 26 0 6) a1) 1) (jx_up m1 26 0 6 (jx_ior (m1 26 0 6) (jx_ishl 1 a1)))))))))))) :
    jx_Cl 152 [xA 26 0, xI a1, xI a2] m Q :=
  jx_segOk (x := 152) (cd := jx_c152) rfl (stops := []) 28 hv
set_option maxRecDepth 100000 in
theorem sg_153 (a1 : Int) (m : jx_M) (Q : Int → jx_M → Prop) (hv :
    ((a1 = 0 →
      ((0 < 1) ∧
  Q (m 26 0 1) m)) ∧
      (¬ (a1 = 0) →
      ((a1 = 1 →
        ((0 < 1) ∧
  Q (m 26 0 7) m)) ∧
        (¬ (a1 = 1) →
        ((a1 = 2 →
          ((0 < 1) ∧
  Q (m 26 0 9) m)) ∧
          (¬ (a1 = 2) →
          ((a1 = 3 →
            ((0 < 1) ∧
  jx_Cl 154 [xI (m 26 0 6)] m (fun z1 m1 =>
              Q z1 m1))) ∧
            (¬ (a1 = 3) →
            Q (-1) m))))))))) :
    jx_Cl 153 [xA 26 0, xI a1] m Q :=
  jx_segOk (x := 153) (cd := jx_c153) rfl (stops := []) 17 hv
set_option maxRecDepth 100000 in
theorem sg_154 (a1 : Int) (m : jx_M) (Q : Int → jx_M → Prop) (hv :
    jx_AW 154 4 [some (xI a1), some (xI 0), some (xI a1)] [] m Q) :
    jx_Cl 154 [xI a1] m Q :=
  jx_segOk (x := 154) (cd := jx_c154) rfl (stops := [4]) 5 hv
set_option maxRecDepth 100000 in
theorem sg_154_4 (b0 : Int) (b1 : Int) (b2 : Int) (m : jx_M) (Q : Int → jx_M → Prop) (hv :
    ((b2 = 0 →
      Q b1 m) ∧
      (¬ (b2 = 0) →
      ((jx_in (b1 + 1)) ∧
  ((jx_in (b2 - 1)) ∧
  jx_AW 154 4 [some (xI b0), some (xI (b1 + 1)), some (xI (jx_iand b2 (b2 - 1)))] [] m Q))))) :
    jx_AW 154 4 [some (xI b0), some (xI b1), some (xI b2)] [] m Q :=
  jx_segOk (x := 154) (cd := jx_c154) rfl (stops := [4]) 11 hv
set_option maxRecDepth 100000 in
theorem sg_155 (a1 : Int) (a2 : Int) (a3 : Int) (a4 : Int) (m : jx_M) (Q : Int → jx_M → Prop) (hv :
    jx_Cl 124 [xI a1] m (fun z1 m1 =>
      ((z1 = 0 →
        Q (-1) m1) ∧
        (¬ (z1 = 0) →
        jx_Cl 125 [xL a2, xL 0, xL 3] m1 (fun z2 m2 =>
          ((z2 = 0 →
            Q (-1) m2) ∧
            (¬ (z2 = 0) →
            jx_Cl 125 [xL a3, xL 0, xL 5] m2 (fun z3 m3 =>
              ((z3 = 0 →
                Q (-1) m3) ∧
                (¬ (z3 = 0) →
                jx_Cl 125 [xL a4, xL 0, xL 20] m3 (fun z4 m4 =>
                  ((z4 = 0 →
                    Q (-1) m4) ∧
                    (¬ (z4 = 0) →
                    ((0 < 1) ∧
  (((m4 26 0 7) = 12 →
                      Q (-3) m4) ∧
                      (¬ ((m4 26 0 7) = 12) →
                      ((0 < 1) ∧
  ((0 < 1) ∧
  ((jx_in (4 * (m4 26 0 7))) ∧
  ((1 = 1 ∧ 0 ≤ (4 * (m4 26 0 7)) ∧ (4 * (m4 26 0 7)) < 48) ∧
  ((0 < 1) ∧
  ((0 < 1) ∧
  ((0 < 1) ∧
  ((jx_in (4 * ((jx_up m4 31 0 ((4 * (m4 26 0 7)).toNat) a1) 26 0 7))) ∧
  ((jx_in ((4 * ((jx_up m4 31 0 ((4 * (m4 26 0 7)).toNat) a1) 26 0 7)) + 1)) ∧
  ((1 = 1 ∧ 0 ≤ ((4 * ((jx_up m4 31 0 ((4 * (m4 26 0 7)).toNat) a1) 26 0 7)) + 1) ∧ ((4 * ((jx_up m4 31 0 ((4 * (m4 26 0 7)).toNat) a1) 26 0 7)) + 1) < 48) ∧
  ((0 < 1) ∧
  ((0 < 1) ∧
  ((0 < 1) ∧
  ((jx_in (4 * ((jx_up (jx_up m4 31 0 ((4 * (m4 26 0 7)).toNat) a1) 31 0 (((4 * ((jx_up m4 31 0 ((4 * (m4 26 0 7)).toNat) a1) 26 0 7)) + 1).toNat) a2) 26 0 7))) ∧
  ((jx_in ((4 * ((jx_up (jx_up m4 31 0 ((4 * (m4 26 0 7)).toNat) a1) 31 0 (((4 * ((jx_up m4 31 0 ((4 * (m4 26 0 7)).toNat) a1) 26 0 7)) + 1).toNat) a2) 26 0 7)) + 2)) ∧
  ((1 = 1 ∧ 0 ≤ ((4 * ((jx_up (jx_up m4 31 0 ((4 * (m4 26 0 7)).toNat) a1) 31 0 (((4 * ((jx_up m4 31 0 ((4 * (m4 26 0 7)).toNat) a1) 26 0 7)) + 1).toNat) a2) 26 0 7)) + 2) ∧ ((4 * ((jx_up (jx_up m4 31 0 ((4 * (m4 26 0 7)).toNat) a1) 31 0 (((4 * ((jx_up m4 31 0 ((4 * (m4 26 0 7)).toNat) a1) 26 0 7)) + 1).toNat) a2) 26 0 7)) + 2) < 48) ∧
  ((0 < 1) ∧
  ((0 < 1) ∧
  ((0 < 1) ∧
  ((jx_in (4 * ((jx_up (jx_up (jx_up m4 31 0 ((4 * (m4 26 0 7)).toNat) a1) 31 0 (((4 * ((jx_up m4 31 0 ((4 * (m4 26 0 7)).toNat) a1) 26 0 7)) + 1).toNat) a2) 31 0 (((4 * ((jx_up (jx_up m4 31 0 ((4 * (m4 26 0 7)).toNat) a1) 31 0 (((4 * ((jx_up m4 31 0 ((4 * (m4 26 0 7)).toNat) a1) 26 0 7)) + 1).toNat) a2) 26 0 7)) + 2).toNat) a3) 26 0 7))) ∧
  ((jx_in ((4 * ((jx_up (jx_up (jx_up m4 31 0 ((4 * (m4 26 0 7)).toNat) a1) 31 0 (((4 * ((jx_up m4 31 0 ((4 * (m4 26 0 7)).toNat) a1) 26 0 7)) + 1).toNat) a2) 31 0 (((4 * ((jx_up (jx_up m4 31 0 ((4 * (m4 26 0 7)).toNat) a1) 31 0 (((4 * ((jx_up m4 31 0 ((4 * (m4 26 0 7)).toNat) a1) 26 0 7)) + 1).toNat) a2) 26 0 7)) + 2).toNat) a3) 26 0 7)) + 3)) ∧
  ((1 = 1 ∧ 0 ≤ ((4 * ((jx_up (jx_up (jx_up m4 31 0 ((4 * (m4 26 0 7)).toNat) a1) 31 0 (((4 * ((jx_up m4 31 0 ((4 * (m4 26 0 7)).toNat) a1) 26 0 7)) + 1).toNat) a2) 31 0 (((4 * ((jx_up (jx_up m4 31 0 ((4 * (m4 26 0 7)).toNat) a1) 31 0 (((4 * ((jx_up m4 31 0 ((4 * (m4 26 0 7)).toNat) a1) 26 0 7)) + 1).toNat) a2) 26 0 7)) + 2).toNat) a3) 26 0 7)) + 3) ∧ ((4 * ((jx_up (jx_up (jx_up m4 31 0 ((4 * (m4 26 0 7)).toNat) a1) 31 0 (((4 * ((jx_up m4 31 0 ((4 * (m4 26 0 7)).toNat) a1) 26 0 7)) + 1).toNat) a2) 31 0 (((4 * ((jx_up (jx_up m4 31 0 ((4 * (m4 26 0 7)).toNat) a1) 31 0 (((4 * ((jx_up m4 31 0 ((4 * (m4 26 0 7)).toNat) a1) 26 0 7)) + 1).toNat) a2) 26 0 7)) + 2).toNat) a3) 26 0 7)) + 3) < 48) ∧
  ((0 < 1) ∧
  ((0 < 1) ∧
  ((jx_in (((jx_up (jx_up (jx_up (jx_up m4 31 0 ((4 * (m4 26 0 7)).toNat) a1) 31 0 (((4 * ((jx_up m4 31 0 ((4 * (m4 26 0 7)).toNat) a1) 26 0 7)) + 1).toNat) a2) 31 0 (((4 * ((jx_up (jx_up m4 31 0 ((4 * (m4 26 0 7)).toNat) a1) 31 0 (((4 * ((jx_up m4 31 0 ((4 * (m4 26 0 7)).toNat) a1) 26 0 7)) + 1).toNat) a2) 26 0 7)) + 2).toNat) a3) 31 0 (((4 * ((jx_up (jx_up (jx_up m4 31 0 ((4 * (m4 26 0 7)).toNat) a1) 31 0 (((4 * ((jx_up m4 31 0 ((4 * (m4 26 0 7)).toNat) a1) 26 0 7)) + 1).toNat) a2) 31 0 (((4 * ((jx_up (jx_up m4 31 0 ((4 * (m4 26 0 7)).toNat) a1) 31 0 (((4 * ((jx_up m4 31 0 ((4 * (m4 26 0 7)).toNat) a1) 26 0 7)) + 1).toNat) a2) 26 0 7)) + 2).toNat) a3) 26 0 7)) + 3).toNat) a4) 26 0 7) + 1)) ∧
  ((0 < 1) ∧
  ((0 < 1) ∧
  ((jx_in (((jx_up (jx_up (jx_up (jx_up (jx_up m4 31 0 ((4 * (m4 26 0 7)).toNat) a1) 31 0 (((4 * ((jx_up m4 31 0 ((4 * (m4 26 0 7)).toNat) a1) 26 0 7)) + 1).toNat) a2) 31 0 (((4 * ((jx_up (jx_up m4 31 0 ((4 * (m4 26 0 7)).toNat) a1) 31 0 (((4 * ((jx_up m4 31 0 ((4 * (m4 26 0 7)).toNat) a1) 26 0 7)) + 1).toNat) a2) 26 0 7)) + 2).toNat) a3) 31 0 (((4 * ((jx_up (jx_up (jx_up m4 31 0 ((4 * (m4 26 0 7)).toNat) a1) 31 0 (((4 * ((jx_up m4 31 0 ((4 * (m4 26 0 7)).toNat) a1) 26 0 7)) + 1).toNat) a2) 31 0 (((4 * ((jx_up (jx_up m4 31 0 ((4 * (m4 26 0 7)).toNat) a1) 31 0 (((4 * ((jx_up m4 31 0 ((4 * (m4 26 0 7)).toNat) a1) 26 0 7)) + 1).toNat) a2) 26 0 7)) + 2).toNat) a3) 26 0 7)) + 3).toNat) a4) 26 0 7 (((jx_up (jx_up (jx_up (jx_up m4 31 0 ((4 * (m4 26 0 7)).toNat) a1) 31 0 (((4 * ((jx_up m4 31 0 ((4 * (m4 26 0 7)).toNat) a1) 26 0 7)) + 1).toNat) a2) 31 0 (((4 * ((jx_up (jx_up m4 31 0 ((4 * (m4 26 0 7)).toNat) a1) 31 0 (((4 * ((jx_up m4 31 0 ((4 * (m4 26 0 7)).toNat) a1) 26 0 7)) + 1).toNat) a2) 26 0 7)) + 2).toNat) a3) 31 0 (((4 * ((jx_up (jx_up (jx_up m4 31 0 ((4 * (m4 26 0 7)).toNat) a1) 31 0 (((4 * ((jx_up m4 31 0 ((4 * (m4 26 0 7)).toNat) a1) 26 0 7)) + 1).toNat) a2) 31 0 (((4 * ((jx_up (jx_up m4 31 0 ((4 * (m4 26 0 7)).toNat) a1) 31 0 (((4 * ((jx_up m4 31 0 ((4 * (m4 26 0 7)).toNat) a1) 26 0 7)) + 1).toNat) a2) 26 0 7)) + 2).toNat) a3) 26 0 7)) + 3).toNat) a4) 26 0 7) + 1)) 26 0 7) - 1)) ∧
  Q (((jx_up (jx_up (jx_up (jx_up (jx_up m4 31 0 ((4 * (m4 26 0 7)).toNat) a1) 31 0 (((4 * ((jx_up m4 31 0 ((4 * (m4 26 0 7)).toNat) a1) 26 0 7)) + 1).toNat) a2) 31 0 (((4 * ((jx_up (jx_up m4 31 0 ((4 * (m4 26 0 7)).toNat) a1) 31 0 (((4 * ((jx_up m4 31 0 ((4 * (m4 26 0 7)).toNat) a1) 26 0 7)) + 1).toNat) a2) 26 0 7)) + 2).toNat) a3) 31 0 (((4 * ((jx_up (jx_up (jx_up m4 31 0 ((4 * (m4 26 0 7)).toNat) a1) 31 0 (((4 * ((jx_up m4 31 0 ((4 * (m4 26 0 7)).toNat) a1) 26 0 7)) + 1).toNat) a2) 31 0 (((4 * ((jx_up (jx_up m4 31 0 ((4 * (m4 26 0 7)).toNat) a1) 31 0 (((4 * ((jx_up m4 31 0 ((4 * (m4 26 0 7)).toNat) a1) 26 0 7)) + 1).toNat) a2) 26 0 7)) + 2).toNat) a3) 26 0 7)) + 3).toNat) a4) 26 0 7 (((jx_up (jx_up (jx_up (jx_up m4 31 0 ((4 * (m4 26 0 7)).toNat) a1) 31 0 (((4 * ((jx_up m4 31 0 ((4 * (m4 26 0 7)).toNat) a1) 26 0 7)) + 1).toNat) a2) 31 0 (((4 * ((jx_up (jx_up m4 31 0 ((4 * (m4 26 0 7)).toNat) a1) 31 0 (((4 * ((jx_up m4 31 0 ((4 * (m4 26 0 7)).toNat) a1) 26 0 7)) + 1).toNat) a2) 26 0 7)) + 2).toNat) a3) 31 0 (((4 * ((jx_up (jx_up (jx_up m4 31 0 ((4 * (m4 26 0 7)).toNat) a1) 31 0 (((4 * ((jx_up m4 31 0 ((4 * (m4 26 0 7)).toNat) a1) 26 0 7)) + 1).toNat) a2) 31 0 (((4 * ((jx_up (jx_up m4 31 0 ((4 * (m4 26 0 7)).toNat) a1) 31 0 (((4 * ((jx_up m4 31 0 ((4 * (m4 26 0 7)).toNat) a1) 26 0 7)) + 1).toNat) a2) 26 0 7)) + 2).toNat) a3) 26 0 7)) + 3).toNat) a4) 26 0 7) + 1)) 26 0 7) - 1) (jx_up (jx_up (jx_up (jx_up (jx_up m4 31 0 ((4 * (m4 26 0 7)).toNat) a1) 31 0 (((4 * ((jx_up m4 31 0 ((4 * (m4 26 0 7)).toNat) a1) 26 0 7)) + 1).toNat) a2) 31 0 (((4 * ((jx_up (jx_up m4 31 0 ((4 * (m4 26 0 7)).toNat) a1) 31 0 (((4 * ((jx_up m4 31 0 ((4 * (m4 26 0 7)).toNat) a1) 26 0 7)) + 1).toNat) a2) 26 0 7)) + 2).toNat) a3) 31 0 (((4 * ((jx_up (jx_up (jx_up m4 31 0 ((4 * (m4 26 0 7)).toNat) a1) 31 0 (((4 * ((jx_up m4 31 0 ((4 * (m4 26 0 7)).toNat) a1) 26 0 7)) + 1).toNat) a2) 31 0 (((4 * ((jx_up (jx_up m4 31 0 ((4 * (m4 26 0 7)).toNat) a1) 31 0 (((4 * ((jx_up m4 31 0 ((4 * (m4 26 0 7)).toNat) a1) 26 0 7)) + 1).toNat) a2) 26 0 7)) + 2).toNat) a3) 26 0 7)) + 3).toNat) a4) 26 0 7 (((jx_up (jx_up (jx_up (jx_up m4 31 0 ((4 * (m4 26 0 7)).toNat) a1) 31 0 (((4 * ((jx_up m4 31 0 ((4 * (m4 26 0 7)).toNat) a1) 26 0 7)) + 1).toNat) a2) 31 0 (((4 * ((jx_up (jx_up m4 31 0 ((4 * (m4 26 0 7)).toNat) a1) 31 0 (((4 * ((jx_up m4 31 0 ((4 * (m4 26 0 7)).toNat) a1) 26 0 7)) + 1).toNat) a2) 26 0 7)) + 2).toNat) a3) 31 0 (((4 * ((jx_up (jx_up (jx_up m4 31 0 ((4 * (m4 26 0 7)).toNat) a1) 31 0 (((4 * ((jx_up m4 31 0 ((4 * (m4 26 0 7)).toNat) a1) 26 0 7)) + 1).toNat) a2) 31 0 (((4 * ((jx_up (jx_up m4 31 0 ((4 * (m4 26 0 7)).toNat) a1) 31 0 (((4 * ((jx_up m4 31 0 ((4 * (m4 26 0 7)).toNat) a1) 26 0 7)) + 1).toNat) a2) 26 0 7)) + 2).toNat) a3) 26 0 7)) + 3).toNat) a4) 26 0 7) + 1)))))))))))))))))))))))))))))))))))))))))))))) :
    jx_Cl 155 [xA 26 0, xI a1, xI a2, xI a3, xI a4] m Q :=
  jx_segOk (x := 155) (cd := jx_c155) rfl (stops := []) 75 hv
set_option maxRecDepth 100000 in
theorem sg_156 (a1 : Int) (a2 : Int) (m : jx_M) (Q : Int → jx_M → Prop) (hv :
    ((0 < 1) ∧
  ((jx_in ((m 26 0 7) - 1)) ∧
  jx_Cl 125 [xL a1, xL 0, xL ((m 26 0 7) - 1)] m (fun z1 m1 =>
      ((z1 = 0 →
        Q (-1) m1) ∧
        (¬ (z1 = 0) →
        jx_Cl 125 [xL a2, xL 0, xL 2] m1 (fun z2 m2 =>
          ((z2 = 0 →
            Q (-1) m2) ∧
            (¬ (z2 = 0) →
            ((0 < 1) ∧
  jx_Cl 157 [xA 26 0] m2 (fun _ m3 =>
              ((a2 = 0 →
                ((0 < 1) ∧
  ((1 = 1 ∧ 0 ≤ a1 ∧ a1 < 12) ∧
  ((0 < 1) ∧
  Q (m3 36 0 (a1.toNat)) m3)))) ∧
                (¬ (a2 = 0) →
                ((a2 = 1 →
                  ((0 < 1) ∧
  ((1 = 1 ∧ 0 ≤ a1 ∧ a1 < 12) ∧
  ((0 < 1) ∧
  Q (m3 37 0 (a1.toNat)) m3)))) ∧
                  (¬ (a2 = 1) →
                  ((0 < 1) ∧
  ((1 = 1 ∧ 0 ≤ a1 ∧ a1 < 12) ∧
  ((0 < 1) ∧
  Q (m3 38 0 (a1.toNat)) m3)))))))))))))))))) :
    jx_Cl 156 [xA 26 0, xI a1, xI a2] m Q :=
  jx_segOk (x := 156) (cd := jx_c156) rfl (stops := []) 30 hv
set_option maxRecDepth 100000 in
theorem sg_157  (m : jx_M) (Q : Int → jx_M → Prop) (hv :
    jx_AW 157 2 [some (xA 26 0), some (xI 0), none, none, none, none] [] m Q) :
    jx_Cl 157 [xA 26 0] m Q :=
  jx_segOk (x := 157) (cd := jx_c157) rfl (stops := [2, 30, 35, 48, 114, 138]) 3 hv
set_option maxRecDepth 100000 in
theorem sg_157_2 (b1 : Int) (w2 : Option jx_V) (w3 : Option jx_V) (w4 : Option jx_V) (w5 : Option jx_V) (m : jx_M) (Q : Int → jx_M → Prop) (hv :
    ((0 < 1) ∧
  ((b1 < (m 26 0 7) →
      ((0 < 1) ∧
  ((1 = 1 ∧ 0 ≤ b1 ∧ b1 < 12) ∧
  ((0 < 1) ∧
  ((0 < 1) ∧
  ((1 = 1 ∧ 0 ≤ b1 ∧ b1 < 12) ∧
  ((0 < 1) ∧
  ((0 < 1) ∧
  ((1 = 1 ∧ 0 ≤ b1 ∧ b1 < 12) ∧
  ((0 < 1) ∧
  ((0 < 1) ∧
  ((1 = 1 ∧ 0 ≤ b1 ∧ b1 < 12) ∧
  ((0 < 1) ∧
  ((jx_in (b1 + 1)) ∧
  jx_AW 157 2 [some (xA 26 0), some (xI (b1 + 1)), w2, w3, w4, w5] [] (jx_up (jx_up (jx_up (jx_up m 35 0 (b1.toNat) (-4)) 36 0 (b1.toNat) (-4)) 37 0 (b1.toNat) (-4)) 38 0 (b1.toNat) 0) Q)))))))))))))) ∧
      (¬ (b1 < (m 26 0 7)) →
      jx_AW 157 30 [some (xA 26 0), some (xI 0), w2, w3, w4, w5] [] m Q)))) :
    jx_AW 157 2 [some (xA 26 0), some (xI b1), w2, w3, w4, w5] [] m Q :=
  jx_segOk (x := 157) (cd := jx_c157) rfl (stops := [2, 30, 35, 48, 114, 138]) 27 hv
set_option maxRecDepth 100000 in
theorem sg_157_30 (b1 : Int) (w2 : Option jx_V) (w3 : Option jx_V) (w4 : Option jx_V) (w5 : Option jx_V) (m : jx_M) (Q : Int → jx_M → Prop) (hv :
    ((b1 < 120 →
      jx_AW 157 35 [some (xA 26 0), some (xI b1), some (xI 0), w3, w4, w5] [] m Q) ∧
      (¬ (b1 < 120) →
      Q 0 m))) :
    jx_AW 157 30 [some (xA 26 0), some (xI b1), w2, w3, w4, w5] [] m Q :=
  jx_segOk (x := 157) (cd := jx_c157) rfl (stops := [2, 30, 35, 48, 114, 138]) 6 hv
set_option maxRecDepth 100000 in
theorem sg_157_35 (b1 : Int) (b2 : Int) (w3 : Option jx_V) (w4 : Option jx_V) (w5 : Option jx_V) (m : jx_M) (Q : Int → jx_M → Prop) (hv :
    ((0 < 1) ∧
  ((b2 < (m 26 0 7) →
      ((0 < 1) ∧
  ((1 = 1 ∧ 0 ≤ b2 ∧ b2 < 12) ∧
  ((0 < 1) ∧
  (((m 35 0 (b2.toNat)) < 0 →
        jx_AW 157 48 [some (xA 26 0), some (xI b1), some (xI b2), some (xI 1), w4, w5] [] m Q) ∧
        (¬ ((m 35 0 (b2.toNat)) < 0) →
        jx_AW 157 48 [some (xA 26 0), some (xI b1), some (xI b2), some (xI 0), w4, w5] [] m Q)))))) ∧
      (¬ (b2 < (m 26 0 7)) →
      ((jx_in (b1 + 1)) ∧
  jx_AW 157 30 [some (xA 26 0), some (xI (b1 + 1)), some (xI b2), w3, w4, w5] [] m Q))))) :
    jx_AW 157 35 [some (xA 26 0), some (xI b1), some (xI b2), w3, w4, w5] [] m Q :=
  jx_segOk (x := 157) (cd := jx_c157) rfl (stops := [2, 30, 35, 48, 114, 138]) 13 hv
set_option maxRecDepth 100000 in
theorem sg_157_48 (b1 : Int) (b2 : Int) (b3 : Int) (w4 : Option jx_V) (w5 : Option jx_V) (m : jx_M) (Q : Int → jx_M → Prop) (hv :
    ((0 < 1) ∧
  ((1 = 1 ∧ 0 ≤ b2 ∧ b2 < 12) ∧
  ((0 < 1) ∧
  (((m 36 0 (b2.toNat)) < 0 →
      ((b3 = 0 →
        ((0 < 1) ∧
  ((1 = 1 ∧ 0 ≤ b2 ∧ b2 < 12) ∧
  ((0 < 1) ∧
  ((b1 < (m 35 0 (b2.toNat)) →
          jx_AW 157 138 [some (xA 26 0), some (xI b1), some (xI b2), some (xI b3), w4, w5] [] m Q) ∧
          (¬ (b1 < (m 35 0 (b2.toNat))) →
          ((0 < 1) ∧
  ((jx_in (4 * b2)) ∧
  ((jx_in ((4 * b2) + 1)) ∧
  ((1 = 1 ∧ 0 ≤ ((4 * b2) + 1) ∧ ((4 * b2) + 1) < 48) ∧
  ((0 < 1) ∧
  ((0 < 1) ∧
  ((jx_in (4 * b2)) ∧
  ((1 = 1 ∧ 0 ≤ (4 * b2) ∧ (4 * b2) < 48) ∧
  ((0 < 1) ∧
  ((0 < 1) ∧
  jx_Cl 158 [xA 26 0, xI (m 31 0 (((4 * b2) + 1).toNat)), xI (m 31 0 ((4 * b2).toNat)), xI b1] m (fun z1 m1 =>
            ((0 < 1) ∧
  ((1 = 1 ∧ 0 ≤ b2 ∧ b2 < 12) ∧
  ((0 < 1) ∧
  ((0 < 1) ∧
  ((z1 < 0 →
              ((1 = 1 ∧ 0 ≤ b2 ∧ b2 < 12) ∧
  ((0 < 1) ∧
  ((z1 < 0 →
                ((0 < 1) ∧
  ((1 = 1 ∧ 0 ≤ b2 ∧ b2 < 12) ∧
  ((0 < 1) ∧
  ((jx_in (b1 - ((jx_up (jx_up m1 36 0 (b2.toNat) z1) 37 0 (b2.toNat) (-4)) 35 0 (b2.toNat)))) ∧
  ((0 < 1) ∧
  ((jx_in (4 * b2)) ∧
  ((jx_in ((4 * b2) + 3)) ∧
  ((1 = 1 ∧ 0 ≤ ((4 * b2) + 3) ∧ ((4 * b2) + 3) < 48) ∧
  ((0 < 1) ∧
  (((b1 - ((jx_up (jx_up m1 36 0 (b2.toNat) z1) 37 0 (b2.toNat) (-4)) 35 0 (b2.toNat))) < ((jx_up (jx_up m1 36 0 (b2.toNat) z1) 37 0 (b2.toNat) (-4)) 31 0 (((4 * b2) + 3).toNat)) →
                  jx_AW 157 114 [some (xA 26 0), some (xI b1), some (xI b2), some (xI b3), some (xI z1), some (xI 0)] [] (jx_up (jx_up m1 36 0 (b2.toNat) z1) 37 0 (b2.toNat) (-4)) Q) ∧
                  (¬ ((b1 - ((jx_up (jx_up m1 36 0 (b2.toNat) z1) 37 0 (b2.toNat) (-4)) 35 0 (b2.toNat))) < ((jx_up (jx_up m1 36 0 (b2.toNat) z1) 37 0 (b2.toNat) (-4)) 31 0 (((4 * b2) + 3).toNat))) →
                  jx_AW 157 114 [some (xA 26 0), some (xI b1), some (xI b2), some (xI b3), some (xI z1), some (xI 1)] [] (jx_up (jx_up m1 36 0 (b2.toNat) z1) 37 0 (b2.toNat) (-4)) Q)))))))))))) ∧
                (¬ (z1 < 0) →
                jx_AW 157 114 [some (xA 26 0), some (xI b1), some (xI b2), some (xI b3), some (xI z1), some (xI 0)] [] (jx_up (jx_up m1 36 0 (b2.toNat) z1) 37 0 (b2.toNat) (-4)) Q))))) ∧
              (¬ (z1 < 0) →
              ((1 = 1 ∧ 0 ≤ b2 ∧ b2 < 12) ∧
  ((0 < 1) ∧
  ((z1 < 0 →
                ((0 < 1) ∧
  ((1 = 1 ∧ 0 ≤ b2 ∧ b2 < 12) ∧
  ((0 < 1) ∧
  ((jx_in (b1 - ((jx_up (jx_up m1 36 0 (b2.toNat) z1) 37 0 (b2.toNat) b1) 35 0 (b2.toNat)))) ∧
  ((0 < 1) ∧
  ((jx_in (4 * b2)) ∧
  ((jx_in ((4 * b2) + 3)) ∧
  ((1 = 1 ∧ 0 ≤ ((4 * b2) + 3) ∧ ((4 * b2) + 3) < 48) ∧
  ((0 < 1) ∧
  (((b1 - ((jx_up (jx_up m1 36 0 (b2.toNat) z1) 37 0 (b2.toNat) b1) 35 0 (b2.toNat))) < ((jx_up (jx_up m1 36 0 (b2.toNat) z1) 37 0 (b2.toNat) b1) 31 0 (((4 * b2) + 3).toNat)) →
                  jx_AW 157 114 [some (xA 26 0), some (xI b1), some (xI b2), some (xI b3), some (xI z1), some (xI 0)] [] (jx_up (jx_up m1 36 0 (b2.toNat) z1) 37 0 (b2.toNat) b1) Q) ∧
                  (¬ ((b1 - ((jx_up (jx_up m1 36 0 (b2.toNat) z1) 37 0 (b2.toNat) b1) 35 0 (b2.toNat))) < ((jx_up (jx_up m1 36 0 (b2.toNat) z1) 37 0 (b2.toNat) b1) 31 0 (((4 * b2) + 3).toNat))) →
                  jx_AW 157 114 [some (xA 26 0), some (xI b1), some (xI b2), some (xI b3), some (xI z1), some (xI 1)] [] (jx_up (jx_up m1 36 0 (b2.toNat) z1) 37 0 (b2.toNat) b1) Q)))))))))))) ∧
                (¬ (z1 < 0) →
                jx_AW 157 114 [some (xA 26 0), some (xI b1), some (xI b2), some (xI b3), some (xI z1), some (xI 0)] [] (jx_up (jx_up m1 36 0 (b2.toNat) z1) 37 0 (b2.toNat) b1) Q))))))))))))))))))))))))))) ∧
        (¬ (b3 = 0) →
        jx_AW 157 138 [some (xA 26 0), some (xI b1), some (xI b2), some (xI b3), w4, w5] [] m Q))) ∧
      (¬ ((m 36 0 (b2.toNat)) < 0) →
      jx_AW 157 138 [some (xA 26 0), some (xI b1), some (xI b2), some (xI b3), w4, w5] [] m Q)))))) :
    jx_AW 157 48 [some (xA 26 0), some (xI b1), some (xI b2), some (xI b3), w4, w5] [] m Q :=
  jx_segOk (x := 157) (cd := jx_c157) rfl (stops := [2, 30, 35, 48, 114, 138]) 65 hv
set_option maxRecDepth 100000 in
theorem sg_157_114 (b1 : Int) (b2 : Int) (b3 : Int) (b4 : Int) (b5 : Int) (m : jx_M) (Q : Int → jx_M → Prop) (hv :
    ((0 < 1) ∧
  ((1 = 1 ∧ 0 ≤ b2 ∧ b2 < 12) ∧
  ((0 < 1) ∧
  ((b5 = 0 →
      ((jx_in ((m 38 0 (b2.toNat)) + 0)) ∧
  ((1 = 1 ∧ 0 ≤ b2 ∧ b2 < 12) ∧
  ((0 < 1) ∧
  ((0 < 1) ∧
  ((b5 = 0 →
        ((0 < 1) ∧
  ((1 = 1 ∧ 0 ≤ b2 ∧ b2 < 12) ∧
  ((0 < 1) ∧
  ((1 = 1 ∧ 0 ≤ b2 ∧ b2 < 12) ∧
  ((0 < 1) ∧
  jx_AW 157 138 [some (xA 26 0), some (xI b1), some (xI b2), some (xI b3), some (xI b4), some (xI b5)] [] (jx_up (jx_up m 38 0 (b2.toNat) ((m 38 0 (b2.toNat)) + 0)) 35 0 (b2.toNat) ((jx_up m 38 0 (b2.toNat) ((m 38 0 (b2.toNat)) + 0)) 35 0 (b2.toNat))) Q)))))) ∧
        (¬ (b5 = 0) →
        ((1 = 1 ∧ 0 ≤ b2 ∧ b2 < 12) ∧
  ((0 < 1) ∧
  jx_AW 157 138 [some (xA 26 0), some (xI b1), some (xI b2), some (xI b3), some (xI b4), some (xI b5)] [] (jx_up (jx_up m 38 0 (b2.toNat) ((m 38 0 (b2.toNat)) + 0)) 35 0 (b2.toNat) (-4)) Q))))))))) ∧
      (¬ (b5 = 0) →
      ((jx_in ((m 38 0 (b2.toNat)) + 1)) ∧
  ((1 = 1 ∧ 0 ≤ b2 ∧ b2 < 12) ∧
  ((0 < 1) ∧
  ((0 < 1) ∧
  ((b5 = 0 →
        ((0 < 1) ∧
  ((1 = 1 ∧ 0 ≤ b2 ∧ b2 < 12) ∧
  ((0 < 1) ∧
  ((1 = 1 ∧ 0 ≤ b2 ∧ b2 < 12) ∧
  ((0 < 1) ∧
  jx_AW 157 138 [some (xA 26 0), some (xI b1), some (xI b2), some (xI b3), some (xI b4), some (xI b5)] [] (jx_up (jx_up m 38 0 (b2.toNat) ((m 38 0 (b2.toNat)) + 1)) 35 0 (b2.toNat) ((jx_up m 38 0 (b2.toNat) ((m 38 0 (b2.toNat)) + 1)) 35 0 (b2.toNat))) Q)))))) ∧
        (¬ (b5 = 0) →
        ((1 = 1 ∧ 0 ≤ b2 ∧ b2 < 12) ∧
  ((0 < 1) ∧
  jx_AW 157 138 [some (xA 26 0), some (xI b1), some (xI b2), some (xI b3), some (xI b4), some (xI b5)] [] (jx_up (jx_up m 38 0 (b2.toNat) ((m 38 0 (b2.toNat)) + 1)) 35 0 (b2.toNat) (-4)) Q)))))))))))))) :
    jx_AW 157 114 [some (xA 26 0), some (xI b1), some (xI b2), some (xI b3), some (xI b4), some (xI b5)] [] m Q :=
  jx_segOk (x := 157) (cd := jx_c157) rfl (stops := [2, 30, 35, 48, 114, 138]) 22 hv
set_option maxRecDepth 100000 in
theorem sg_157_138 (b1 : Int) (b2 : Int) (b3 : Int) (w4 : Option jx_V) (w5 : Option jx_V) (m : jx_M) (Q : Int → jx_M → Prop) (hv :
    ((b3 = 0 →
      ((jx_in (b2 + 1)) ∧
  jx_AW 157 35 [some (xA 26 0), some (xI b1), some (xI (b2 + 1)), some (xI b3), w4, w5] [] m Q)) ∧
      (¬ (b3 = 0) →
      ((0 < 1) ∧
  jx_Cl 159 [xA 26 0, xI b2, xI b1] m (fun z1 m1 =>
        ((z1 = 0 →
          ((jx_in (b2 + 1)) ∧
  jx_AW 157 35 [some (xA 26 0), some (xI b1), some (xI (b2 + 1)), some (xI b3), w4, w5] [] m1 Q)) ∧
          (¬ (z1 = 0) →
          ((0 < 1) ∧
  ((0 < 1) ∧
  ((jx_in (4 * b2)) ∧
  ((jx_in ((4 * b2) + 2)) ∧
  ((1 = 1 ∧ 0 ≤ ((4 * b2) + 2) ∧ ((4 * b2) + 2) < 48) ∧
  ((0 < 1) ∧
  ((jx_in (b1 + (m1 31 0 (((4 * b2) + 2).toNat)))) ∧
  ((jx_in ((b1 + (m1 31 0 (((4 * b2) + 2).toNat))) + 1)) ∧
  ((1 = 1 ∧ 0 ≤ b2 ∧ b2 < 12) ∧
  ((0 < 1) ∧
  ((jx_in (b2 + 1)) ∧
  jx_AW 157 35 [some (xA 26 0), some (xI b1), some (xI (b2 + 1)), some (xI b3), w4, w5] [] (jx_up m1 35 0 (b2.toNat) ((b1 + (m1 31 0 (((4 * b2) + 2).toNat))) + 1)) Q)))))))))))))))))) :
    jx_AW 157 138 [some (xA 26 0), some (xI b1), some (xI b2), some (xI b3), w4, w5] [] m Q :=
  jx_segOk (x := 157) (cd := jx_c157) rfl (stops := [2, 30, 35, 48, 114, 138]) 26 hv
set_option maxRecDepth 100000 in
theorem sg_158 (a1 : Int) (a2 : Int) (a3 : Int) (m : jx_M) (Q : Int → jx_M → Prop) (hv :
    ((0 < 1) ∧
  ((jx_in ((m 26 0 1) - 1)) ∧
  jx_AW 158 7 [some (xA 26 0), some (xI a1), some (xI a2), some (xI a3), some (xI (-4)), some (xI ((m 26 0 1) - 1))] [] m Q))) :
    jx_Cl 158 [xA 26 0, xI a1, xI a2, xI a3] m Q :=
  jx_segOk (x := 158) (cd := jx_c158) rfl (stops := [7]) 8 hv
set_option maxRecDepth 100000 in
theorem sg_158_7 (b1 : Int) (b2 : Int) (b3 : Int) (b4 : Int) (b5 : Int) (m : jx_M) (Q : Int → jx_M → Prop) (hv :
    ((b5 < 0 →
      Q b4 m) ∧
      (¬ (b5 < 0) →
      ((0 < 1) ∧
  ((jx_in (4 * b5)) ∧
  ((1 = 1 ∧ 0 ≤ (4 * b5) ∧ (4 * b5) < 24) ∧
  ((0 < 1) ∧
  (((m 28 0 ((4 * b5).toNat)) = b1 →
        ((0 < 1) ∧
  jx_Cl 142 [xA 26 0, xI b5, xI b3] m (fun z1 m1 =>
          ((z1 = b2 →
            ((jx_in (b5 + (-1))) ∧
  jx_AW 158 7 [some (xA 26 0), some (xI b1), some (xI b2), some (xI b3), some (xI b5), some (xI (b5 + (-1)))] [] m1 Q)) ∧
            (¬ (z1 = b2) →
            ((jx_in (b5 + (-1))) ∧
  jx_AW 158 7 [some (xA 26 0), some (xI b1), some (xI b2), some (xI b3), some (xI b4), some (xI (b5 + (-1)))] [] m1 Q)))))) ∧
        (¬ ((m 28 0 ((4 * b5).toNat)) = b1) →
        ((jx_in (b5 + (-1))) ∧
  jx_AW 158 7 [some (xA 26 0), some (xI b1), some (xI b2), some (xI b3), some (xI b4), some (xI (b5 + (-1)))] [] m Q)))))))))) :
    jx_AW 158 7 [some (xA 26 0), some (xI b1), some (xI b2), some (xI b3), some (xI b4), some (xI b5)] [] m Q :=
  jx_segOk (x := 158) (cd := jx_c158) rfl (stops := [7]) 22 hv
set_option maxRecDepth 100000 in
theorem sg_159 (a1 : Int) (a2 : Int) (m : jx_M) (Q : Int → jx_M → Prop) (hv :
    jx_AW 159 4 [some (xA 26 0), some (xI a1), some (xI a2), some (xI 0), some (xI 0), none] [] m Q) :
    jx_Cl 159 [xA 26 0, xI a1, xI a2] m Q :=
  jx_segOk (x := 159) (cd := jx_c159) rfl (stops := [4, 23]) 5 hv
set_option maxRecDepth 100000 in
theorem sg_159_4 (b1 : Int) (b2 : Int) (b3 : Int) (b4 : Int) (w5 : Option jx_V) (m : jx_M) (Q : Int → jx_M → Prop) (hv :
    ((0 < 1) ∧
  ((b4 < (m 26 0 1) →
      ((b3 = 0 →
        ((0 < 1) ∧
  ((jx_in (4 * b1)) ∧
  ((1 = 1 ∧ 0 ≤ (4 * b1) ∧ (4 * b1) < 48) ∧
  ((0 < 1) ∧
  ((0 < 1) ∧
  jx_Cl 146 [xA 26 0, xI (m 31 0 ((4 * b1).toNat)), xI b4, xI b2] m (fun z1 m1 =>
          ((z1 = 0 →
            ((jx_in (b4 + 1)) ∧
  jx_AW 159 4 [some (xA 26 0), some (xI b1), some (xI b2), some (xI b3), some (xI (b4 + 1)), w5] [] m1 Q)) ∧
            (¬ (z1 = 0) →
            jx_AW 159 23 [some (xA 26 0), some (xI b1), some (xI b2), some (xI b3), some (xI b4), some (xI 0)] [] m1 Q))))))))) ∧
        (¬ (b3 = 0) →
        ((b3 = 0 ∨ b3 = 1) ∧
  Q b3 m)))) ∧
      (¬ (b4 < (m 26 0 1)) →
      ((b3 = 0 ∨ b3 = 1) ∧
  Q b3 m))))) :
    jx_AW 159 4 [some (xA 26 0), some (xI b1), some (xI b2), some (xI b3), some (xI b4), w5] [] m Q :=
  jx_segOk (x := 159) (cd := jx_c159) rfl (stops := [4, 23]) 20 hv
set_option maxRecDepth 100000 in
theorem sg_159_23 (b1 : Int) (b2 : Int) (b3 : Int) (b4 : Int) (b5 : Int) (m : jx_M) (Q : Int → jx_M → Prop) (hv :
    ((0 < 1) ∧
  ((b5 < (m 26 0 1) →
      ((b3 = 0 →
        ((0 < 1) ∧
  ((jx_in (4 * b5)) ∧
  ((1 = 1 ∧ 0 ≤ (4 * b5) ∧ (4 * b5) < 24) ∧
  ((0 < 1) ∧
  ((0 < 1) ∧
  ((jx_in (4 * b1)) ∧
  ((jx_in ((4 * b1) + 1)) ∧
  ((1 = 1 ∧ 0 ≤ ((4 * b1) + 1) ∧ ((4 * b1) + 1) < 48) ∧
  ((0 < 1) ∧
  (((m 28 0 ((4 * b5).toNat)) = (m 31 0 (((4 * b1) + 1).toNat)) →
          ((0 < 1) ∧
  jx_Cl 149 [xA 26 0, xI b4, xI b5] m (fun z1 m1 =>
            ((0 < 1) ∧
  (((m1 26 0 5) < z1 →
              ((jx_in (b5 + 1)) ∧
  jx_AW 159 23 [some (xA 26 0), some (xI b1), some (xI b2), some (xI 0), some (xI b4), some (xI (b5 + 1))] [] m1 Q)) ∧
              (¬ ((m1 26 0 5) < z1) →
              ((jx_in (b5 + 1)) ∧
  jx_AW 159 23 [some (xA 26 0), some (xI b1), some (xI b2), some (xI 1), some (xI b4), some (xI (b5 + 1))] [] m1 Q))))))) ∧
          (¬ ((m 28 0 ((4 * b5).toNat)) = (m 31 0 (((4 * b1) + 1).toNat))) →
          ((jx_in (b5 + 1)) ∧
  jx_AW 159 23 [some (xA 26 0), some (xI b1), some (xI b2), some (xI 0), some (xI b4), some (xI (b5 + 1))] [] m Q))))))))))))) ∧
        (¬ (b3 = 0) →
        ((jx_in (b5 + 1)) ∧
  jx_AW 159 23 [some (xA 26 0), some (xI b1), some (xI b2), some (xI 1), some (xI b4), some (xI (b5 + 1))] [] m Q)))) ∧
      (¬ (b5 < (m 26 0 1)) →
      ((jx_in (b4 + 1)) ∧
  jx_AW 159 4 [some (xA 26 0), some (xI b1), some (xI b2), some (xI b3), some (xI (b4 + 1)), some (xI b5)] [] m Q))))) :
    jx_AW 159 23 [some (xA 26 0), some (xI b1), some (xI b2), some (xI b3), some (xI b4), some (xI b5)] [] m Q :=
  jx_segOk (x := 159) (cd := jx_c159) rfl (stops := [4, 23]) 34 hv
set_option maxRecDepth 100000 in
theorem sg_160 (a1 : Int) (m : jx_M) (Q : Int → jx_M → Prop) (hv :
    ((0 < 1) ∧
  jx_Cl 130 [xA 26 0, xI a1] m (fun z1 m1 =>
      ((z1 = 0 →
        Q (-1) m1) ∧
        (¬ (z1 = 0) →
        ((0 < 1) ∧
  jx_Cl 161 [xA 26 0, xI a1] m1 (fun z2 m2 =>
          Q z2 m2))))))) :
    jx_Cl 160 [xA 26 0, xI a1] m Q :=
  jx_segOk (x := 160) (cd := jx_c160) rfl (stops := []) 10 hv
set_option maxRecDepth 100000 in
theorem sg_161 (a1 : Int) (m : jx_M) (Q : Int → jx_M → Prop) (hv :
    ((0 < 1) ∧
  jx_Cl 157 [xA 26 0] m (fun _ m1 =>
      jx_AW 161 6 [some (xA 26 0), some (xI a1), some (xI 0), some (xI 0)] [] m1 Q))) :
    jx_Cl 161 [xA 26 0, xI a1] m Q :=
  jx_segOk (x := 161) (cd := jx_c161) rfl (stops := [6]) 7 hv
set_option maxRecDepth 100000 in
theorem sg_161_6 (b1 : Int) (b2 : Int) (b3 : Int) (m : jx_M) (Q : Int → jx_M → Prop) (hv :
    ((0 < 1) ∧
  ((b3 < (m 26 0 7) →
      ((0 < 1) ∧
  ((1 = 1 ∧ 0 ≤ b3 ∧ b3 < 12) ∧
  ((0 < 1) ∧
  (((m 36 0 (b3.toNat)) = b1 →
        ((jx_in (b2 + 1)) ∧
  ((jx_in (b3 + 1)) ∧
  jx_AW 161 6 [some (xA 26 0), some (xI b1), some (xI (b2 + 1)), some (xI (b3 + 1))] [] m Q))) ∧
        (¬ ((m 36 0 (b3.toNat)) = b1) →
        ((jx_in (b2 + 0)) ∧
  ((jx_in (b3 + 1)) ∧
  jx_AW 161 6 [some (xA 26 0), some (xI b1), some (xI (b2 + 0)), some (xI (b3 + 1))] [] m Q)))))))) ∧
      (¬ (b3 < (m 26 0 7)) →
      Q b2 m)))) :
    jx_AW 161 6 [some (xA 26 0), some (xI b1), some (xI b2), some (xI b3)] [] m Q :=
  jx_segOk (x := 161) (cd := jx_c161) rfl (stops := [6]) 18 hv
set_option maxRecDepth 100000 in
theorem sg_162 (a1 : Int) (m : jx_M) (Q : Int → jx_M → Prop) (hv :
    jx_Cl 125 [xL a1, xL 0, xL 2] m (fun z1 m1 =>
      ((z1 = 0 →
        Q (-1) m1) ∧
        (¬ (z1 = 0) →
        ((0 < 1) ∧
  jx_Cl 157 [xA 26 0] m1 (fun _ m2 =>
          jx_AW 162 16 [some (xA 26 0), some (xI a1), some (xI 0), some (xI 0), some (xI 0), none, none] [] m2 Q)))))) :
    jx_Cl 162 [xA 26 0, xI a1] m Q :=
  jx_segOk (x := 162) (cd := jx_c162) rfl (stops := [16, 44, 49]) 15 hv
set_option maxRecDepth 100000 in
theorem sg_162_16 (b1 : Int) (b2 : Int) (b3 : Int) (b4 : Int) (w5 : Option jx_V) (w6 : Option jx_V) (m : jx_M) (Q : Int → jx_M → Prop) (hv :
    ((0 < 1) ∧
  ((b4 < (m 26 0 7) →
      ((0 < 1) ∧
  ((1 = 1 ∧ 0 ≤ b4 ∧ b4 < 12) ∧
  ((0 < 1) ∧
  (((m 36 0 (b4.toNat)) < 0 →
        ((jx_in (b2 + 0)) ∧
  ((0 < 1) ∧
  ((1 = 1 ∧ 0 ≤ b4 ∧ b4 < 12) ∧
  ((0 < 1) ∧
  ((jx_in (b3 + (m 38 0 (b4.toNat)))) ∧
  ((jx_in (b4 + 1)) ∧
  jx_AW 162 16 [some (xA 26 0), some (xI b1), some (xI (b2 + 0)), some (xI (b3 + (m 38 0 (b4.toNat)))), some (xI (b4 + 1)), w5, w6] [] m Q))))))) ∧
        (¬ ((m 36 0 (b4.toNat)) < 0) →
        ((jx_in (b2 + 1)) ∧
  ((0 < 1) ∧
  ((1 = 1 ∧ 0 ≤ b4 ∧ b4 < 12) ∧
  ((0 < 1) ∧
  ((jx_in (b3 + (m 38 0 (b4.toNat)))) ∧
  ((jx_in (b4 + 1)) ∧
  jx_AW 162 16 [some (xA 26 0), some (xI b1), some (xI (b2 + 1)), some (xI (b3 + (m 38 0 (b4.toNat)))), some (xI (b4 + 1)), w5, w6] [] m Q)))))))))))) ∧
      (¬ (b4 < (m 26 0 7)) →
      jx_AW 162 44 [some (xA 26 0), some (xI b1), some (xI b2), some (xI b3), some (xI 0), some (xI 0), w6] [] m Q)))) :
    jx_AW 162 16 [some (xA 26 0), some (xI b1), some (xI b2), some (xI b3), some (xI b4), w5, w6] [] m Q :=
  jx_segOk (x := 162) (cd := jx_c162) rfl (stops := [16, 44, 49]) 24 hv
set_option maxRecDepth 100000 in
theorem sg_162_44 (b1 : Int) (b2 : Int) (b3 : Int) (b4 : Int) (b5 : Int) (w6 : Option jx_V) (m : jx_M) (Q : Int → jx_M → Prop) (hv :
    ((b5 < 120 →
      jx_AW 162 49 [some (xA 26 0), some (xI b1), some (xI b2), some (xI b3), some (xI b4), some (xI b5), some (xI 0)] [] m Q) ∧
      (¬ (b5 < 120) →
      ((b1 = 0 →
        Q b2 m) ∧
        (¬ (b1 = 0) →
        ((b1 = 1 →
          Q b3 m) ∧
          (¬ (b1 = 1) →
          Q b4 m))))))) :
    jx_AW 162 44 [some (xA 26 0), some (xI b1), some (xI b2), some (xI b3), some (xI b4), some (xI b5), w6] [] m Q :=
  jx_segOk (x := 162) (cd := jx_c162) rfl (stops := [16, 44, 49]) 12 hv
set_option maxRecDepth 100000 in
theorem sg_162_49 (b1 : Int) (b2 : Int) (b3 : Int) (b4 : Int) (b5 : Int) (b6 : Int) (m : jx_M) (Q : Int → jx_M → Prop) (hv :
    ((0 < 1) ∧
  ((b6 < (m 26 0 1) →
      ((0 < 1) ∧
  jx_Cl 147 [xA 26 0, xI b6, xI b5] m (fun z1 m1 =>
        ((z1 = 0 →
          ((jx_in (b4 + 0)) ∧
  ((jx_in (b6 + 1)) ∧
  jx_AW 162 49 [some (xA 26 0), some (xI b1), some (xI b2), some (xI b3), some (xI (b4 + 0)), some (xI b5), some (xI (b6 + 1))] [] m1 Q))) ∧
          (¬ (z1 = 0) →
          ((jx_in (b4 + 1)) ∧
  ((jx_in (b6 + 1)) ∧
  jx_AW 162 49 [some (xA 26 0), some (xI b1), some (xI b2), some (xI b3), some (xI (b4 + 1)), some (xI b5), some (xI (b6 + 1))] [] m1 Q))))))) ∧
      (¬ (b6 < (m 26 0 1)) →
      ((jx_in (b5 + 1)) ∧
  jx_AW 162 44 [some (xA 26 0), some (xI b1), some (xI b2), some (xI b3), some (xI b4), some (xI (b5 + 1)), some (xI b6)] [] m Q))))) :
    jx_AW 162 49 [some (xA 26 0), some (xI b1), some (xI b2), some (xI b3), some (xI b4), some (xI b5), some (xI b6)] [] m Q :=
  jx_segOk (x := 162) (cd := jx_c162) rfl (stops := [16, 44, 49]) 17 hv
set_option maxRecDepth 100000 in
theorem sg_163 (a1 : Int) (a2 : Int) (m : jx_M) (Q : Int → jx_M → Prop) (hv :
    ((0 < 1) ∧
  jx_Cl 130 [xA 26 0, xI a1] m (fun z1 m1 =>
      ((z1 = 0 →
        Q (-1) m1) ∧
        (¬ (z1 = 0) →
        jx_Cl 125 [xL a2, xL 0, xL 2] m1 (fun z2 m2 =>
          ((z2 = 0 →
            Q (-1) m2) ∧
            (¬ (z2 = 0) →
            ((0 < 1) ∧
  ((jx_in (4 * a1)) ∧
  ((jx_in ((4 * a1) + 2)) ∧
  ((1 = 1 ∧ 0 ≤ ((4 * a1) + 2) ∧ ((4 * a1) + 2) < 24) ∧
  ((0 < 1) ∧
  jx_AW 163 27 [some (xA 26 0), some (xI a1), some (xI a2), some (xI (m2 28 0 (((4 * a1) + 2).toNat))), some (xI 0), some (xI (-1)), some (xI 0), none] [] m2 Q))))))))))))) :
    jx_Cl 163 [xA 26 0, xI a1, xI a2] m Q :=
  jx_segOk (x := 163) (cd := jx_c163) rfl (stops := [27]) 26 hv
set_option maxRecDepth 100000 in
theorem sg_163_27 (b1 : Int) (b2 : Int) (b3 : Int) (b4 : Int) (b5 : Int) (b6 : Int) (w7 : Option jx_V) (m : jx_M) (Q : Int → jx_M → Prop) (hv :
    ((b6 < 24 →
      ((0 < 1) ∧
  ((jx_in (4 * b1)) ∧
  ((jx_in ((4 * b1) + 2)) ∧
  ((0 ≤ b6 ∧ 0 < (2 : Int)) ∧
  ((jx_in (5 * (b6 / 2))) ∧
  ((1 = 1 ∧ 0 ≤ ((4 * b1) + 2) ∧ ((4 * b1) + 2) < 24) ∧
  ((0 < 1) ∧
  ((0 ≤ b6 ∧ 0 < (2 : Int)) ∧
  (((b6 % 2) = 1 →
        ((0 < 1) ∧
  ((0 < 1) ∧
  jx_Cl 161 [xA 26 0, xI b1] (jx_up (jx_up m 28 0 (((4 * b1) + 2).toNat) (5 * (b6 / 2))) 26 0 16 b1) (fun z1 m1 =>
          ((b5 < z1 →
            ((b5 < z1 →
              ((jx_in (b6 + 1)) ∧
  jx_AW 163 27 [some (xA 26 0), some (xI b1), some (xI b2), some (xI b3), some (xI b6), some (xI z1), some (xI (b6 + 1)), some (xI z1)] [] m1 Q)) ∧
              (¬ (b5 < z1) →
              ((jx_in (b6 + 1)) ∧
  jx_AW 163 27 [some (xA 26 0), some (xI b1), some (xI b2), some (xI b3), some (xI b6), some (xI b5), some (xI (b6 + 1)), some (xI z1)] [] m1 Q)))) ∧
            (¬ (b5 < z1) →
            ((b5 < z1 →
              ((jx_in (b6 + 1)) ∧
  jx_AW 163 27 [some (xA 26 0), some (xI b1), some (xI b2), some (xI b3), some (xI b4), some (xI z1), some (xI (b6 + 1)), some (xI z1)] [] m1 Q)) ∧
              (¬ (b5 < z1) →
              ((jx_in (b6 + 1)) ∧
  jx_AW 163 27 [some (xA 26 0), some (xI b1), some (xI b2), some (xI b3), some (xI b4), some (xI b5), some (xI (b6 + 1)), some (xI z1)] [] m1 Q))))))))) ∧
        (¬ ((b6 % 2) = 1) →
        ((0 < 1) ∧
  ((0 < 1) ∧
  jx_Cl 161 [xA 26 0, xI b1] (jx_up (jx_up m 28 0 (((4 * b1) + 2).toNat) (5 * (b6 / 2))) 26 0 16 (-4)) (fun z2 m2 =>
          ((b5 < z2 →
            ((b5 < z2 →
              ((jx_in (b6 + 1)) ∧
  jx_AW 163 27 [some (xA 26 0), some (xI b1), some (xI b2), some (xI b3), some (xI b6), some (xI z2), some (xI (b6 + 1)), some (xI z2)] [] m2 Q)) ∧
              (¬ (b5 < z2) →
              ((jx_in (b6 + 1)) ∧
  jx_AW 163 27 [some (xA 26 0), some (xI b1), some (xI b2), some (xI b3), some (xI b6), some (xI b5), some (xI (b6 + 1)), some (xI z2)] [] m2 Q)))) ∧
            (¬ (b5 < z2) →
            ((b5 < z2 →
              ((jx_in (b6 + 1)) ∧
  jx_AW 163 27 [some (xA 26 0), some (xI b1), some (xI b2), some (xI b3), some (xI b4), some (xI z2), some (xI (b6 + 1)), some (xI z2)] [] m2 Q)) ∧
              (¬ (b5 < z2) →
              ((jx_in (b6 + 1)) ∧
  jx_AW 163 27 [some (xA 26 0), some (xI b1), some (xI b2), some (xI b3), some (xI b4), some (xI b5), some (xI (b6 + 1)), some (xI z2)] [] m2 Q))))))))))))))))))) ∧
      (¬ (b6 < 24) →
      ((0 < 1) ∧
  ((0 < 1) ∧
  ((jx_in (4 * b1)) ∧
  ((jx_in ((4 * b1) + 2)) ∧
  ((1 = 1 ∧ 0 ≤ ((4 * b1) + 2) ∧ ((4 * b1) + 2) < 24) ∧
  ((0 < 1) ∧
  ((b2 = 0 →
        ((0 ≤ b4 ∧ 0 < (2 : Int)) ∧
  ((jx_in (5 * (b4 / 2))) ∧
  Q (5 * (b4 / 2)) (jx_up (jx_up m 26 0 16 (-4)) 28 0 (((4 * b1) + 2).toNat) b3)))) ∧
        (¬ (b2 = 0) →
        ((b2 = 1 →
          ((0 ≤ b4 ∧ 0 < (2 : Int)) ∧
  Q (b4 % 2) (jx_up (jx_up m 26 0 16 (-4)) 28 0 (((4 * b1) + 2).toNat) b3))) ∧
          (¬ (b2 = 1) →
          Q b5 (jx_up (jx_up m 26 0 16 (-4)) 28 0 (((4 * b1) + 2).toNat) b3)))))))))))))) :
    jx_AW 163 27 [some (xA 26 0), some (xI b1), some (xI b2), some (xI b3), some (xI b4), some (xI b5), some (xI b6), w7] [] m Q :=
  jx_segOk (x := 163) (cd := jx_c163) rfl (stops := [27]) 44 hv
set_option maxRecDepth 100000 in
theorem sg_164 (a1 : Int) (a2 : Int) (a3 : Int) (m : jx_M) (Q : Int → jx_M → Prop) (hv :
    ((0 < 1) ∧
  jx_Cl 130 [xA 26 0, xI a1] m (fun z1 m1 =>
      ((z1 = 0 →
        Q (-1) m1) ∧
        (¬ (z1 = 0) →
        ((0 < 1) ∧
  jx_Cl 130 [xA 26 0, xI a2] m1 (fun z2 m2 =>
          ((z2 = 0 →
            Q (-1) m2) ∧
            (¬ (z2 = 0) →
            ((a1 = a2 →
              Q (-1) m2) ∧
              (¬ (a1 = a2) →
              jx_Cl 125 [xL a3, xL 0, xL 2] m2 (fun z3 m3 =>
                ((z3 = 0 →
                  Q (-1) m3) ∧
                  (¬ (z3 = 0) →
                  ((0 < 1) ∧
  ((jx_in (4 * a1)) ∧
  ((jx_in ((4 * a1) + 2)) ∧
  ((1 = 1 ∧ 0 ≤ ((4 * a1) + 2) ∧ ((4 * a1) + 2) < 24) ∧
  ((0 < 1) ∧
  ((0 < 1) ∧
  ((jx_in (4 * a2)) ∧
  ((jx_in ((4 * a2) + 2)) ∧
  ((1 = 1 ∧ 0 ≤ ((4 * a2) + 2) ∧ ((4 * a2) + 2) < 24) ∧
  ((0 < 1) ∧
  jx_AW 164 39 [some (xA 26 0), some (xI a1), some (xI a2), some (xI a3), some (xI (m3 28 0 (((4 * a1) + 2).toNat))), some (xI (m3 28 0 (((4 * a2) + 2).toNat))), some (xI 0), none, none, none, none] [] m3 Q)))))))))))))))))))))))) :
    jx_Cl 164 [xA 26 0, xI a1, xI a2, xI a3] m Q :=
  jx_segOk (x := 164) (cd := jx_c164) rfl (stops := [39, 82, 130, 136]) 38 hv
set_option maxRecDepth 100000 in
theorem sg_164_39 (b1 : Int) (b2 : Int) (b3 : Int) (b4 : Int) (b5 : Int) (b6 : Int) (w7 : Option jx_V) (w8 : Option jx_V) (w9 : Option jx_V) (w10 : Option jx_V) (m : jx_M) (Q : Int → jx_M → Prop) (hv :
    ((b6 < 36 →
      ((0 < 1) ∧
  ((jx_in (4 * b1)) ∧
  ((jx_in ((4 * b1) + 2)) ∧
  ((0 ≤ b6 ∧ 0 < (6 : Int)) ∧
  ((jx_in (10 * (b6 / 6))) ∧
  ((1 = 1 ∧ 0 ≤ ((4 * b1) + 2) ∧ ((4 * b1) + 2) < 24) ∧
  ((0 < 1) ∧
  ((0 < 1) ∧
  ((jx_in (4 * b2)) ∧
  ((jx_in ((4 * b2) + 2)) ∧
  ((0 ≤ b6 ∧ 0 < (6 : Int)) ∧
  ((jx_in (10 * (b6 % 6))) ∧
  ((1 = 1 ∧ 0 ≤ ((4 * b2) + 2) ∧ ((4 * b2) + 2) < 24) ∧
  ((0 < 1) ∧
  ((0 < 1) ∧
  ((0 < 1) ∧
  jx_Cl 161 [xA 26 0, xI b1] (jx_up (jx_up m 28 0 (((4 * b1) + 2).toNat) (10 * (b6 / 6))) 28 0 (((4 * b2) + 2).toNat) (10 * (b6 % 6))) (fun z1 m1 =>
        ((1 = 1 ∧ 0 ≤ b6 ∧ b6 < 36) ∧
  ((0 < 1) ∧
  ((0 < 1) ∧
  ((1 = 1 ∧ 0 ≤ b6 ∧ b6 < 36) ∧
  ((0 < 1) ∧
  jx_AW 164 82 [some (xA 26 0), some (xI b1), some (xI b2), some (xI b3), some (xI b4), some (xI b5), some (xI b6), some (xI 0), w8, w9, w10] [] (jx_up (jx_up m1 39 0 (b6.toNat) z1) 40 0 (b6.toNat) 0) Q))))))))))))))))))))))) ∧
      (¬ (b6 < 36) →
      ((0 < 1) ∧
  ((jx_in (4 * b1)) ∧
  ((jx_in ((4 * b1) + 2)) ∧
  ((1 = 1 ∧ 0 ≤ ((4 * b1) + 2) ∧ ((4 * b1) + 2) < 24) ∧
  ((0 < 1) ∧
  ((0 < 1) ∧
  ((jx_in (4 * b2)) ∧
  ((jx_in ((4 * b2) + 2)) ∧
  ((1 = 1 ∧ 0 ≤ ((4 * b2) + 2) ∧ ((4 * b2) + 2) < 24) ∧
  ((0 < 1) ∧
  jx_AW 164 130 [some (xA 26 0), some (xI b1), some (xI b2), some (xI b3), some (xI b4), some (xI b5), some (xI 0), some (xI (-4)), some (xI 35), w9, w10] [] (jx_up (jx_up m 28 0 (((4 * b1) + 2).toNat) b4) 28 0 (((4 * b2) + 2).toNat) b5) Q))))))))))))) :
    jx_AW 164 39 [some (xA 26 0), some (xI b1), some (xI b2), some (xI b3), some (xI b4), some (xI b5), some (xI b6), w7, w8, w9, w10] [] m Q :=
  jx_segOk (x := 164) (cd := jx_c164) rfl (stops := [39, 82, 130, 136]) 44 hv
set_option maxRecDepth 100000 in
theorem sg_164_82 (b1 : Int) (b2 : Int) (b3 : Int) (b4 : Int) (b5 : Int) (b6 : Int) (b7 : Int) (w8 : Option jx_V) (w9 : Option jx_V) (w10 : Option jx_V) (m : jx_M) (Q : Int → jx_M → Prop) (hv :
    ((0 < 1) ∧
  ((b7 < (m 26 0 7) →
      ((0 < 1) ∧
  ((1 = 1 ∧ 0 ≤ b6 ∧ b6 < 36) ∧
  ((0 < 1) ∧
  ((0 < 1) ∧
  ((1 = 1 ∧ 0 ≤ b7 ∧ b7 < 12) ∧
  ((0 < 1) ∧
  (((m 36 0 (b7.toNat)) = b2 →
        ((jx_in ((m 40 0 (b6.toNat)) + 1)) ∧
  ((1 = 1 ∧ 0 ≤ b6 ∧ b6 < 36) ∧
  ((0 < 1) ∧
  ((jx_in (b7 + 1)) ∧
  jx_AW 164 82 [some (xA 26 0), some (xI b1), some (xI b2), some (xI b3), some (xI b4), some (xI b5), some (xI b6), some (xI (b7 + 1)), w8, w9, w10] [] (jx_up m 40 0 (b6.toNat) ((m 40 0 (b6.toNat)) + 1)) Q))))) ∧
        (¬ ((m 36 0 (b7.toNat)) = b2) →
        ((jx_in ((m 40 0 (b6.toNat)) + 0)) ∧
  ((1 = 1 ∧ 0 ≤ b6 ∧ b6 < 36) ∧
  ((0 < 1) ∧
  ((jx_in (b7 + 1)) ∧
  jx_AW 164 82 [some (xA 26 0), some (xI b1), some (xI b2), some (xI b3), some (xI b4), some (xI b5), some (xI b6), some (xI (b7 + 1)), w8, w9, w10] [] (jx_up m 40 0 (b6.toNat) ((m 40 0 (b6.toNat)) + 0)) Q))))))))))))) ∧
      (¬ (b7 < (m 26 0 7)) →
      ((jx_in (b6 + 1)) ∧
  jx_AW 164 39 [some (xA 26 0), some (xI b1), some (xI b2), some (xI b3), some (xI b4), some (xI b5), some (xI (b6 + 1)), some (xI b7), w8, w9, w10] [] m Q))))) :
    jx_AW 164 82 [some (xA 26 0), some (xI b1), some (xI b2), some (xI b3), some (xI b4), some (xI b5), some (xI b6), some (xI b7), w8, w9, w10] [] m Q :=
  jx_segOk (x := 164) (cd := jx_c164) rfl (stops := [39, 82, 130, 136]) 22 hv
set_option maxRecDepth 100000 in
theorem sg_164_130 (b1 : Int) (b2 : Int) (b3 : Int) (b4 : Int) (b5 : Int) (b6 : Int) (b7 : Int) (b8 : Int) (w9 : Option jx_V) (w10 : Option jx_V) (m : jx_M) (Q : Int → jx_M → Prop) (hv :
    ((b8 < 0 →
      ((b3 = 0 →
        Q b6 m) ∧
        (¬ (b3 = 0) →
        ((b7 < 0 →
          Q (-4) m) ∧
          (¬ (b7 < 0) →
          ((b3 = 1 →
            ((0 ≤ b7 ∧ 0 < (6 : Int)) ∧
  ((jx_in (10 * (b7 / 6))) ∧
  Q (10 * (b7 / 6)) m))) ∧
            (¬ (b3 = 1) →
            ((0 ≤ b7 ∧ 0 < (6 : Int)) ∧
  ((jx_in (10 * (b7 % 6))) ∧
  Q (10 * (b7 % 6)) m))))))))) ∧
      (¬ (b8 < 0) →
      jx_AW 164 136 [some (xA 26 0), some (xI b1), some (xI b2), some (xI b3), some (xI b4), some (xI b5), some (xI b6), some (xI b7), some (xI b8), some (xI 1), some (xI 0)] [] m Q))) :
    jx_AW 164 130 [some (xA 26 0), some (xI b1), some (xI b2), some (xI b3), some (xI b4), some (xI b5), some (xI b6), some (xI b7), some (xI b8), w9, w10] [] m Q :=
  jx_segOk (x := 164) (cd := jx_c164) rfl (stops := [39, 82, 130, 136]) 17 hv
set_option maxRecDepth 100000 in
theorem sg_164_136 (b1 : Int) (b2 : Int) (b3 : Int) (b4 : Int) (b5 : Int) (b6 : Int) (b7 : Int) (b8 : Int) (b9 : Int) (b10 : Int) (m : jx_M) (Q : Int → jx_M → Prop) (hv :
    ((b10 < 6 →
      ((b9 = 0 →
        ((jx_in (b10 + 1)) ∧
  jx_AW 164 136 [some (xA 26 0), some (xI b1), some (xI b2), some (xI b3), some (xI b4), some (xI b5), some (xI b6), some (xI b7), some (xI b8), some (xI 0), some (xI (b10 + 1))] [] m Q)) ∧
        (¬ (b9 = 0) →
        ((0 < 1) ∧
  ((jx_in (6 * b10)) ∧
  ((0 ≤ b8 ∧ 0 < (6 : Int)) ∧
  ((jx_in ((6 * b10) + (b8 % 6))) ∧
  ((1 = 1 ∧ 0 ≤ ((6 * b10) + (b8 % 6)) ∧ ((6 * b10) + (b8 % 6)) < 36) ∧
  ((0 < 1) ∧
  ((0 < 1) ∧
  ((1 = 1 ∧ 0 ≤ b8 ∧ b8 < 36) ∧
  ((0 < 1) ∧
  (((m 39 0 (b8.toNat)) < (m 39 0 (((6 * b10) + (b8 % 6)).toNat)) →
          ((jx_in (b10 + 1)) ∧
  jx_AW 164 136 [some (xA 26 0), some (xI b1), some (xI b2), some (xI b3), some (xI b4), some (xI b5), some (xI b6), some (xI b7), some (xI b8), some (xI 0), some (xI (b10 + 1))] [] m Q)) ∧
          (¬ ((m 39 0 (b8.toNat)) < (m 39 0 (((6 * b10) + (b8 % 6)).toNat))) →
          ((0 < 1) ∧
  ((0 ≤ b8 ∧ 0 < (6 : Int)) ∧
  ((jx_in ((b8 / 6) * 6)) ∧
  ((jx_in (((b8 / 6) * 6) + b10)) ∧
  ((1 = 1 ∧ 0 ≤ (((b8 / 6) * 6) + b10) ∧ (((b8 / 6) * 6) + b10) < 36) ∧
  ((0 < 1) ∧
  ((0 < 1) ∧
  ((1 = 1 ∧ 0 ≤ b8 ∧ b8 < 36) ∧
  ((0 < 1) ∧
  (((m 40 0 (b8.toNat)) < (m 40 0 ((((b8 / 6) * 6) + b10).toNat)) →
            ((jx_in (b10 + 1)) ∧
  jx_AW 164 136 [some (xA 26 0), some (xI b1), some (xI b2), some (xI b3), some (xI b4), some (xI b5), some (xI b6), some (xI b7), some (xI b8), some (xI 0), some (xI (b10 + 1))] [] m Q)) ∧
            (¬ ((m 40 0 (b8.toNat)) < (m 40 0 ((((b8 / 6) * 6) + b10).toNat))) →
            ((jx_in (b10 + 1)) ∧
  jx_AW 164 136 [some (xA 26 0), some (xI b1), some (xI b2), some (xI b3), some (xI b4), some (xI b5), some (xI b6), some (xI b7), some (xI b8), some (xI 1), some (xI (b10 + 1))] [] m Q)))))))))))))))))))))))))) ∧
      (¬ (b10 < 6) →
      ((b9 = 0 →
        ((jx_in (b6 + 0)) ∧
  ((b9 = 0 →
          ((jx_in (b8 + (-1))) ∧
  jx_AW 164 130 [some (xA 26 0), some (xI b1), some (xI b2), some (xI b3), some (xI b4), some (xI b5), some (xI (b6 + 0)), some (xI b7), some (xI (b8 + (-1))), some (xI b9), some (xI b10)] [] m Q)) ∧
          (¬ (b9 = 0) →
          ((jx_in (b8 + (-1))) ∧
  jx_AW 164 130 [some (xA 26 0), some (xI b1), some (xI b2), some (xI b3), some (xI b4), some (xI b5), some (xI (b6 + 0)), some (xI b8), some (xI (b8 + (-1))), some (xI b9), some (xI b10)] [] m Q))))) ∧
        (¬ (b9 = 0) →
        ((jx_in (b6 + 1)) ∧
  ((b9 = 0 →
          ((jx_in (b8 + (-1))) ∧
  jx_AW 164 130 [some (xA 26 0), some (xI b1), some (xI b2), some (xI b3), some (xI b4), some (xI b5), some (xI (b6 + 1)), some (xI b7), some (xI (b8 + (-1))), some (xI b9), some (xI b10)] [] m Q)) ∧
          (¬ (b9 = 0) →
          ((jx_in (b8 + (-1))) ∧
  jx_AW 164 130 [some (xA 26 0), some (xI b1), some (xI b2), some (xI b3), some (xI b4), some (xI b5), some (xI (b6 + 1)), some (xI b8), some (xI (b8 + (-1))), some (xI b9), some (xI b10)] [] m Q))))))))) :
    jx_AW 164 136 [some (xA 26 0), some (xI b1), some (xI b2), some (xI b3), some (xI b4), some (xI b5), some (xI b6), some (xI b7), some (xI b8), some (xI b9), some (xI b10)] [] m Q :=
  jx_segOk (x := 164) (cd := jx_c164) rfl (stops := [39, 82, 130, 136]) 41 hv
set_option maxRecDepth 100000 in
theorem sg_165 (a1 : Int) (a2 : Int) (a3 : Int) (a4 : Int) (m : jx_M) (Q : Int → jx_M → Prop) (hv :
    jx_Cl 125 [xL a1, xL 1, xL 3] m (fun z1 m1 =>
      ((z1 = 0 →
        Q (-1) m1) ∧
        (¬ (z1 = 0) →
        jx_Cl 125 [xL a2, xL 1, xL 9] m1 (fun z2 m2 =>
          ((z2 = 0 →
            Q (-1) m2) ∧
            (¬ (z2 = 0) →
            jx_Cl 125 [xL a3, xL 0, xL 12] m2 (fun z3 m3 =>
              ((z3 = 0 →
                Q (-1) m3) ∧
                (¬ (z3 = 0) →
                ((jx_in (a1 - 1)) ∧
  jx_Cl 125 [xL a4, xL (-1), xL (a1 - 1)] m3 (fun z4 m4 =>
                  ((z4 = 0 →
                    Q (-1) m4) ∧
                    (¬ (z4 = 0) →
                    ((a1 = 1 →
                      jx_AW 165 47 [some (xA 26 0), some (xI a1), some (xI a2), some (xI a3), some (xI a4), some (xI (-4)), some (xI (-1)), some (xI 10), some (xI 0), none, none, none] [] m4 Q) ∧
                      (¬ (a1 = 1) →
                      ((a1 = 2 →
                        jx_AW 165 47 [some (xA 26 0), some (xI a1), some (xI a2), some (xI a3), some (xI a4), some (xI (-4)), some (xI (-1)), some (xI 100), some (xI 0), none, none, none] [] m4 Q) ∧
                        (¬ (a1 = 2) →
                        jx_AW 165 47 [some (xA 26 0), some (xI a1), some (xI a2), some (xI a3), some (xI a4), some (xI (-4)), some (xI (-1)), some (xI 1000), some (xI 0), none, none, none] [] m4 Q)))))))))))))))))) :
    jx_Cl 165 [xA 26 0, xI a1, xI a2, xI a3, xI a4] m Q :=
  jx_segOk (x := 165) (cd := jx_c165) rfl (stops := [47]) 43 hv
set_option maxRecDepth 100000 in
theorem sg_165_47 (b1 : Int) (b2 : Int) (b3 : Int) (b4 : Int) (b5 : Int) (b6 : Int) (b7 : Int) (b8 : Int) (w9 : Option jx_V) (w10 : Option jx_V) (w11 : Option jx_V) (m : jx_M) (Q : Int → jx_M → Prop) (hv :
    ((b8 < b7 →
      ((0 < 1) ∧
  jx_Cl 166 [xA 26 0, xI b8, xI b1] m (fun _ m1 =>
        ((0 < 1) ∧
  ((1 = 1 ∧ 0 ≤ (0 : Int) ∧ (0 : Int) < 6) ∧
  ((0 < 1) ∧
  (((1 : Int) < b1 →
          ((0 < 1) ∧
  ((1 = 1 ∧ 0 ≤ (1 : Int) ∧ (1 : Int) < 6) ∧
  ((0 < 1) ∧
  ((jx_in ((m1 41 0 ((0 : Int).toNat)) + (m1 41 0 ((1 : Int).toNat)))) ∧
  (((2 : Int) < b1 →
            ((0 < 1) ∧
  ((1 = 1 ∧ 0 ≤ (2 : Int) ∧ (2 : Int) < 6) ∧
  ((0 < 1) ∧
  ((jx_in (((m1 41 0 ((0 : Int).toNat)) + (m1 41 0 ((1 : Int).toNat))) + (m1 41 0 ((2 : Int).toNat)))) ∧
  ((0 < 1) ∧
  jx_Cl 167 [xA 26 0, xI b1] m1 (fun z2 m2 =>
              ((0 ≤ (((m1 41 0 ((0 : Int).toNat)) + (m1 41 0 ((1 : Int).toNat))) + (m1 41 0 ((2 : Int).toNat))) ∧ 0 < b1) ∧
  ((0 ≤ ((((m1 41 0 ((0 : Int).toNat)) + (m1 41 0 ((1 : Int).toNat))) + (m1 41 0 ((2 : Int).toNat))) / b1) ∧ 0 < (3 : Int)) ∧
  ((jx_in (b2 + (((((m1 41 0 ((0 : Int).toNat)) + (m1 41 0 ((1 : Int).toNat))) + (m1 41 0 ((2 : Int).toNat))) / b1) / 3))) ∧
  (((b2 + (((((m1 41 0 ((0 : Int).toNat)) + (m1 41 0 ((1 : Int).toNat))) + (m1 41 0 ((2 : Int).toNat))) / b1) / 3)) < b3 →
                (((0 : Int) = 0 →
                  (((0 : Int) = 0 →
                    ((jx_in (b8 + 1)) ∧
  jx_AW 165 47 [some (xA 26 0), some (xI b1), some (xI b2), some (xI b3), some (xI b4), some (xI b5), some (xI b6), some (xI b7), some (xI (b8 + 1)), some (xI (((m1 41 0 ((0 : Int).toNat)) + (m1 41 0 ((1 : Int).toNat))) + (m1 41 0 ((2 : Int).toNat)))), some (xI z2), some (xI 0)] [] m2 Q)) ∧
                    (¬ ((0 : Int) = 0) →
                    ((jx_in (b8 + 1)) ∧
  jx_AW 165 47 [some (xA 26 0), some (xI b1), some (xI b2), some (xI b3), some (xI b4), some (xI b5), some (xI z2), some (xI b7), some (xI (b8 + 1)), some (xI (((m1 41 0 ((0 : Int).toNat)) + (m1 41 0 ((1 : Int).toNat))) + (m1 41 0 ((2 : Int).toNat)))), some (xI z2), some (xI 0)] [] m2 Q)))) ∧
                  (¬ ((0 : Int) = 0) →
                  (((0 : Int) = 0 →
                    ((jx_in (b8 + 1)) ∧
  jx_AW 165 47 [some (xA 26 0), some (xI b1), some (xI b2), some (xI b3), some (xI b4), some (xI b8), some (xI b6), some (xI b7), some (xI (b8 + 1)), some (xI (((m1 41 0 ((0 : Int).toNat)) + (m1 41 0 ((1 : Int).toNat))) + (m1 41 0 ((2 : Int).toNat)))), some (xI z2), some (xI 0)] [] m2 Q)) ∧
                    (¬ ((0 : Int) = 0) →
                    ((jx_in (b8 + 1)) ∧
  jx_AW 165 47 [some (xA 26 0), some (xI b1), some (xI b2), some (xI b3), some (xI b4), some (xI b8), some (xI z2), some (xI b7), some (xI (b8 + 1)), some (xI (((m1 41 0 ((0 : Int).toNat)) + (m1 41 0 ((1 : Int).toNat))) + (m1 41 0 ((2 : Int).toNat)))), some (xI z2), some (xI 0)] [] m2 Q)))))) ∧
                (¬ ((b2 + (((((m1 41 0 ((0 : Int).toNat)) + (m1 41 0 ((1 : Int).toNat))) + (m1 41 0 ((2 : Int).toNat))) / b1) / 3)) < b3) →
                ((b6 < z2 →
                  (((1 : Int) = 0 →
                    (((1 : Int) = 0 →
                      ((jx_in (b8 + 1)) ∧
  jx_AW 165 47 [some (xA 26 0), some (xI b1), some (xI b2), some (xI b3), some (xI b4), some (xI b5), some (xI b6), some (xI b7), some (xI (b8 + 1)), some (xI (((m1 41 0 ((0 : Int).toNat)) + (m1 41 0 ((1 : Int).toNat))) + (m1 41 0 ((2 : Int).toNat)))), some (xI z2), some (xI 1)] [] m2 Q)) ∧
                      (¬ ((1 : Int) = 0) →
                      ((jx_in (b8 + 1)) ∧
  jx_AW 165 47 [some (xA 26 0), some (xI b1), some (xI b2), some (xI b3), some (xI b4), some (xI b5), some (xI z2), some (xI b7), some (xI (b8 + 1)), some (xI (((m1 41 0 ((0 : Int).toNat)) + (m1 41 0 ((1 : Int).toNat))) + (m1 41 0 ((2 : Int).toNat)))), some (xI z2), some (xI 1)] [] m2 Q)))) ∧
                    (¬ ((1 : Int) = 0) →
                    (((1 : Int) = 0 →
                      ((jx_in (b8 + 1)) ∧
  jx_AW 165 47 [some (xA 26 0), some (xI b1), some (xI b2), some (xI b3), some (xI b4), some (xI b8), some (xI b6), some (xI b7), some (xI (b8 + 1)), some (xI (((m1 41 0 ((0 : Int).toNat)) + (m1 41 0 ((1 : Int).toNat))) + (m1 41 0 ((2 : Int).toNat)))), some (xI z2), some (xI 1)] [] m2 Q)) ∧
                      (¬ ((1 : Int) = 0) →
                      ((jx_in (b8 + 1)) ∧
  jx_AW 165 47 [some (xA 26 0), some (xI b1), some (xI b2), some (xI b3), some (xI b4), some (xI b8), some (xI z2), some (xI b7), some (xI (b8 + 1)), some (xI (((m1 41 0 ((0 : Int).toNat)) + (m1 41 0 ((1 : Int).toNat))) + (m1 41 0 ((2 : Int).toNat)))), some (xI z2), some (xI 1)] [] m2 Q)))))) ∧
                  (¬ (b6 < z2) →
                  (((0 : Int) = 0 →
                    (((0 : Int) = 0 →
                      ((jx_in (b8 + 1)) ∧
  jx_AW 165 47 [some (xA 26 0), some (xI b1), some (xI b2), some (xI b3), some (xI b4), some (xI b5), some (xI b6), some (xI b7), some (xI (b8 + 1)), some (xI (((m1 41 0 ((0 : Int).toNat)) + (m1 41 0 ((1 : Int).toNat))) + (m1 41 0 ((2 : Int).toNat)))), some (xI z2), some (xI 0)] [] m2 Q)) ∧
                      (¬ ((0 : Int) = 0) →
                      ((jx_in (b8 + 1)) ∧
  jx_AW 165 47 [some (xA 26 0), some (xI b1), some (xI b2), some (xI b3), some (xI b4), some (xI b5), some (xI z2), some (xI b7), some (xI (b8 + 1)), some (xI (((m1 41 0 ((0 : Int).toNat)) + (m1 41 0 ((1 : Int).toNat))) + (m1 41 0 ((2 : Int).toNat)))), some (xI z2), some (xI 0)] [] m2 Q)))) ∧
                    (¬ ((0 : Int) = 0) →
                    (((0 : Int) = 0 →
                      ((jx_in (b8 + 1)) ∧
  jx_AW 165 47 [some (xA 26 0), some (xI b1), some (xI b2), some (xI b3), some (xI b4), some (xI b8), some (xI b6), some (xI b7), some (xI (b8 + 1)), some (xI (((m1 41 0 ((0 : Int).toNat)) + (m1 41 0 ((1 : Int).toNat))) + (m1 41 0 ((2 : Int).toNat)))), some (xI z2), some (xI 0)] [] m2 Q)) ∧
                      (¬ ((0 : Int) = 0) →
                      ((jx_in (b8 + 1)) ∧
  jx_AW 165 47 [some (xA 26 0), some (xI b1), some (xI b2), some (xI b3), some (xI b4), some (xI b8), some (xI z2), some (xI b7), some (xI (b8 + 1)), some (xI (((m1 41 0 ((0 : Int).toNat)) + (m1 41 0 ((1 : Int).toNat))) + (m1 41 0 ((2 : Int).toNat)))), some (xI z2), some (xI 0)] [] m2 Q))))))))))))))))))) ∧
            (¬ ((2 : Int) < b1) →
            ((jx_in (((m1 41 0 ((0 : Int).toNat)) + (m1 41 0 ((1 : Int).toNat))) + 0)) ∧
  ((0 < 1) ∧
  jx_Cl 167 [xA 26 0, xI b1] m1 (fun z3 m3 =>
              ((0 ≤ (((m1 41 0 ((0 : Int).toNat)) + (m1 41 0 ((1 : Int).toNat))) + 0) ∧ 0 < b1) ∧
  ((0 ≤ ((((m1 41 0 ((0 : Int).toNat)) + (m1 41 0 ((1 : Int).toNat))) + 0) / b1) ∧ 0 < (3 : Int)) ∧
  ((jx_in (b2 + (((((m1 41 0 ((0 : Int).toNat)) + (m1 41 0 ((1 : Int).toNat))) + 0) / b1) / 3))) ∧
  (((b2 + (((((m1 41 0 ((0 : Int).toNat)) + (m1 41 0 ((1 : Int).toNat))) + 0) / b1) / 3)) < b3 →
                (((0 : Int) = 0 →
                  (((0 : Int) = 0 →
                    ((jx_in (b8 + 1)) ∧
  jx_AW 165 47 [some (xA 26 0), some (xI b1), some (xI b2), some (xI b3), some (xI b4), some (xI b5), some (xI b6), some (xI b7), some (xI (b8 + 1)), some (xI (((m1 41 0 ((0 : Int).toNat)) + (m1 41 0 ((1 : Int).toNat))) + 0)), some (xI z3), some (xI 0)] [] m3 Q)) ∧
                    (¬ ((0 : Int) = 0) →
                    ((jx_in (b8 + 1)) ∧
  jx_AW 165 47 [some (xA 26 0), some (xI b1), some (xI b2), some (xI b3), some (xI b4), some (xI b5), some (xI z3), some (xI b7), some (xI (b8 + 1)), some (xI (((m1 41 0 ((0 : Int).toNat)) + (m1 41 0 ((1 : Int).toNat))) + 0)), some (xI z3), some (xI 0)] [] m3 Q)))) ∧
                  (¬ ((0 : Int) = 0) →
                  (((0 : Int) = 0 →
                    ((jx_in (b8 + 1)) ∧
  jx_AW 165 47 [some (xA 26 0), some (xI b1), some (xI b2), some (xI b3), some (xI b4), some (xI b8), some (xI b6), some (xI b7), some (xI (b8 + 1)), some (xI (((m1 41 0 ((0 : Int).toNat)) + (m1 41 0 ((1 : Int).toNat))) + 0)), some (xI z3), some (xI 0)] [] m3 Q)) ∧
                    (¬ ((0 : Int) = 0) →
                    ((jx_in (b8 + 1)) ∧
  jx_AW 165 47 [some (xA 26 0), some (xI b1), some (xI b2), some (xI b3), some (xI b4), some (xI b8), some (xI z3), some (xI b7), some (xI (b8 + 1)), some (xI (((m1 41 0 ((0 : Int).toNat)) + (m1 41 0 ((1 : Int).toNat))) + 0)), some (xI z3), some (xI 0)] [] m3 Q)))))) ∧
                (¬ ((b2 + (((((m1 41 0 ((0 : Int).toNat)) + (m1 41 0 ((1 : Int).toNat))) + 0) / b1) / 3)) < b3) →
                ((b6 < z3 →
                  (((1 : Int) = 0 →
                    (((1 : Int) = 0 →
                      ((jx_in (b8 + 1)) ∧
  jx_AW 165 47 [some (xA 26 0), some (xI b1), some (xI b2), some (xI b3), some (xI b4), some (xI b5), some (xI b6), some (xI b7), some (xI (b8 + 1)), some (xI (((m1 41 0 ((0 : Int).toNat)) + (m1 41 0 ((1 : Int).toNat))) + 0)), some (xI z3), some (xI 1)] [] m3 Q)) ∧
                      (¬ ((1 : Int) = 0) →
                      ((jx_in (b8 + 1)) ∧
  jx_AW 165 47 [some (xA 26 0), some (xI b1), some (xI b2), some (xI b3), some (xI b4), some (xI b5), some (xI z3), some (xI b7), some (xI (b8 + 1)), some (xI (((m1 41 0 ((0 : Int).toNat)) + (m1 41 0 ((1 : Int).toNat))) + 0)), some (xI z3), some (xI 1)] [] m3 Q)))) ∧
                    (¬ ((1 : Int) = 0) →
                    (((1 : Int) = 0 →
                      ((jx_in (b8 + 1)) ∧
  jx_AW 165 47 [some (xA 26 0), some (xI b1), some (xI b2), some (xI b3), some (xI b4), some (xI b8), some (xI b6), some (xI b7), some (xI (b8 + 1)), some (xI (((m1 41 0 ((0 : Int).toNat)) + (m1 41 0 ((1 : Int).toNat))) + 0)), some (xI z3), some (xI 1)] [] m3 Q)) ∧
                      (¬ ((1 : Int) = 0) →
                      ((jx_in (b8 + 1)) ∧
  jx_AW 165 47 [some (xA 26 0), some (xI b1), some (xI b2), some (xI b3), some (xI b4), some (xI b8), some (xI z3), some (xI b7), some (xI (b8 + 1)), some (xI (((m1 41 0 ((0 : Int).toNat)) + (m1 41 0 ((1 : Int).toNat))) + 0)), some (xI z3), some (xI 1)] [] m3 Q)))))) ∧
                  (¬ (b6 < z3) →
                  (((0 : Int) = 0 →
                    (((0 : Int) = 0 →
                      ((jx_in (b8 + 1)) ∧
  jx_AW 165 47 [some (xA 26 0), some (xI b1), some (xI b2), some (xI b3), some (xI b4), some (xI b5), some (xI b6), some (xI b7), some (xI (b8 + 1)), some (xI (((m1 41 0 ((0 : Int).toNat)) + (m1 41 0 ((1 : Int).toNat))) + 0)), some (xI z3), some (xI 0)] [] m3 Q)) ∧
                      (¬ ((0 : Int) = 0) →
                      ((jx_in (b8 + 1)) ∧
  jx_AW 165 47 [some (xA 26 0), some (xI b1), some (xI b2), some (xI b3), some (xI b4), some (xI b5), some (xI z3), some (xI b7), some (xI (b8 + 1)), some (xI (((m1 41 0 ((0 : Int).toNat)) + (m1 41 0 ((1 : Int).toNat))) + 0)), some (xI z3), some (xI 0)] [] m3 Q)))) ∧
                    (¬ ((0 : Int) = 0) →
                    (((0 : Int) = 0 →
                      ((jx_in (b8 + 1)) ∧
  jx_AW 165 47 [some (xA 26 0), some (xI b1), some (xI b2), some (xI b3), some (xI b4), some (xI b8), some (xI b6), some (xI b7), some (xI (b8 + 1)), some (xI (((m1 41 0 ((0 : Int).toNat)) + (m1 41 0 ((1 : Int).toNat))) + 0)), some (xI z3), some (xI 0)] [] m3 Q)) ∧
                      (¬ ((0 : Int) = 0) →
                      ((jx_in (b8 + 1)) ∧
  jx_AW 165 47 [some (xA 26 0), some (xI b1), some (xI b2), some (xI b3), some (xI b4), some (xI b8), some (xI z3), some (xI b7), some (xI (b8 + 1)), some (xI (((m1 41 0 ((0 : Int).toNat)) + (m1 41 0 ((1 : Int).toNat))) + 0)), some (xI z3), some (xI 0)] [] m3 Q)))))))))))))))))))))) ∧
          (¬ ((1 : Int) < b1) →
          ((jx_in ((m1 41 0 ((0 : Int).toNat)) + 0)) ∧
  (((2 : Int) < b1 →
            ((0 < 1) ∧
  ((1 = 1 ∧ 0 ≤ (2 : Int) ∧ (2 : Int) < 6) ∧
  ((0 < 1) ∧
  ((jx_in (((m1 41 0 ((0 : Int).toNat)) + 0) + (m1 41 0 ((2 : Int).toNat)))) ∧
  ((0 < 1) ∧
  jx_Cl 167 [xA 26 0, xI b1] m1 (fun z4 m4 =>
              ((0 ≤ (((m1 41 0 ((0 : Int).toNat)) + 0) + (m1 41 0 ((2 : Int).toNat))) ∧ 0 < b1) ∧
  ((0 ≤ ((((m1 41 0 ((0 : Int).toNat)) + 0) + (m1 41 0 ((2 : Int).toNat))) / b1) ∧ 0 < (3 : Int)) ∧
  ((jx_in (b2 + (((((m1 41 0 ((0 : Int).toNat)) + 0) + (m1 41 0 ((2 : Int).toNat))) / b1) / 3))) ∧
  (((b2 + (((((m1 41 0 ((0 : Int).toNat)) + 0) + (m1 41 0 ((2 : Int).toNat))) / b1) / 3)) < b3 →
                (((0 : Int) = 0 →
                  (((0 : Int) = 0 →
                    ((jx_in (b8 + 1)) ∧
  jx_AW 165 47 [some (xA 26 0), some (xI b1), some (xI b2), some (xI b3), some (xI b4), some (xI b5), some (xI b6), some (xI b7), some (xI (b8 + 1)), some (xI (((m1 41 0 ((0 : Int).toNat)) + 0) + (m1 41 0 ((2 : Int).toNat)))), some (xI z4), some (xI 0)] [] m4 Q)) ∧
                    (¬ ((0 : Int) = 0) →
                    ((jx_in (b8 + 1)) ∧
  jx_AW 165 47 [some (xA 26 0), some (xI b1), some (xI b2), some (xI b3), some (xI b4), some (xI b5), some (xI z4), some (xI b7), some (xI (b8 + 1)), some (xI (((m1 41 0 ((0 : Int).toNat)) + 0) + (m1 41 0 ((2 : Int).toNat)))), some (xI z4), some (xI 0)] [] m4 Q)))) ∧
                  (¬ ((0 : Int) = 0) →
                  (((0 : Int) = 0 →
                    ((jx_in (b8 + 1)) ∧
  jx_AW 165 47 [some (xA 26 0), some (xI b1), some (xI b2), some (xI b3), some (xI b4), some (xI b8), some (xI b6), some (xI b7), some (xI (b8 + 1)), some (xI (((m1 41 0 ((0 : Int).toNat)) + 0) + (m1 41 0 ((2 : Int).toNat)))), some (xI z4), some (xI 0)] [] m4 Q)) ∧
                    (¬ ((0 : Int) = 0) →
                    ((jx_in (b8 + 1)) ∧
  jx_AW 165 47 [some (xA 26 0), some (xI b1), some (xI b2), some (xI b3), some (xI b4), some (xI b8), some (xI z4), some (xI b7), some (xI (b8 + 1)), some (xI (((m1 41 0 ((0 : Int).toNat)) + 0) + (m1 41 0 ((2 : Int).toNat)))), some (xI z4), some (xI 0)] [] m4 Q)))))) ∧
                (¬ ((b2 + (((((m1 41 0 ((0 : Int).toNat)) + 0) + (m1 41 0 ((2 : Int).toNat))) / b1) / 3)) < b3) →
                ((b6 < z4 →
                  (((1 : Int) = 0 →
                    (((1 : Int) = 0 →
                      ((jx_in (b8 + 1)) ∧
  jx_AW 165 47 [some (xA 26 0), some (xI b1), some (xI b2), some (xI b3), some (xI b4), some (xI b5), some (xI b6), some (xI b7), some (xI (b8 + 1)), some (xI (((m1 41 0 ((0 : Int).toNat)) + 0) + (m1 41 0 ((2 : Int).toNat)))), some (xI z4), some (xI 1)] [] m4 Q)) ∧
                      (¬ ((1 : Int) = 0) →
                      ((jx_in (b8 + 1)) ∧
  jx_AW 165 47 [some (xA 26 0), some (xI b1), some (xI b2), some (xI b3), some (xI b4), some (xI b5), some (xI z4), some (xI b7), some (xI (b8 + 1)), some (xI (((m1 41 0 ((0 : Int).toNat)) + 0) + (m1 41 0 ((2 : Int).toNat)))), some (xI z4), some (xI 1)] [] m4 Q)))) ∧
                    (¬ ((1 : Int) = 0) →
                    (((1 : Int) = 0 →
                      ((jx_in (b8 + 1)) ∧
  jx_AW 165 47 [some (xA 26 0), some (xI b1), some (xI b2), some (xI b3), some (xI b4), some (xI b8), some (xI b6), some (xI b7), some (xI (b8 + 1)), some (xI (((m1 41 0 ((0 : Int).toNat)) + 0) + (m1 41 0 ((2 : Int).toNat)))), some (xI z4), some (xI 1)] [] m4 Q)) ∧
                      (¬ ((1 : Int) = 0) →
                      ((jx_in (b8 + 1)) ∧
  jx_AW 165 47 [some (xA 26 0), some (xI b1), some (xI b2), some (xI b3), some (xI b4), some (xI b8), some (xI z4), some (xI b7), some (xI (b8 + 1)), some (xI (((m1 41 0 ((0 : Int).toNat)) + 0) + (m1 41 0 ((2 : Int).toNat)))), some (xI z4), some (xI 1)] [] m4 Q)))))) ∧
                  (¬ (b6 < z4) →
                  (((0 : Int) = 0 →
                    (((0 : Int) = 0 →
                      ((jx_in (b8 + 1)) ∧
  jx_AW 165 47 [some (xA 26 0), some (xI b1), some (xI b2), some (xI b3), some (xI b4), some (xI b5), some (xI b6), some (xI b7), some (xI (b8 + 1)), some (xI (((m1 41 0 ((0 : Int).toNat)) + 0) + (m1 41 0 ((2 : Int).toNat)))), some (xI z4), some (xI 0)] [] m4 Q)) ∧
                      (¬ ((0 : Int) = 0) →
                      ((jx_in (b8 + 1)) ∧
  jx_AW 165 47 [some (xA 26 0), some (xI b1), some (xI b2), some (xI b3), some (xI b4), some (xI b5), some (xI z4), some (xI b7), some (xI (b8 + 1)), some (xI (((m1 41 0 ((0 : Int).toNat)) + 0) + (m1 41 0 ((2 : Int).toNat)))), some (xI z4), some (xI 0)] [] m4 Q)))) ∧
                    (¬ ((0 : Int) = 0) →
                    (((0 : Int) = 0 →
                      ((jx_in (b8 + 1)) ∧
  jx_AW 165 47 [some (xA 26 0), some (xI b1), some (xI b2), some (xI b3), some (xI b4), some (xI b8), some (xI b6), some (xI b7), some (xI (b8 + 1)), some (xI (((m1 41 0 ((0 : Int).toNat)) + 0) + (m1 41 0 ((2 : Int).toNat)))), some (xI z4), some (xI 0)] [] m4 Q)) ∧
                      (¬ ((0 : Int) = 0) →
                      ((jx_in (b8 + 1)) ∧
  jx_AW 165 47 [some (xA 26 0), some (xI b1), some (xI b2), some (xI b3), some (xI b4), some (xI b8), some (xI z4), some (xI b7), some (xI (b8 + 1)), some (xI (((m1 41 0 ((0 : Int).toNat)) + 0) + (m1 41 0 ((2 : Int).toNat)))), some (xI z4), some (xI 0)] [] m4 Q))))))))))))))))))) ∧
            (¬ ((2 : Int) < b1) →
            ((jx_in (((m1 41 0 ((0 : Int).toNat)) + 0) + 0)) ∧
  ((0 < 1) ∧
  jx_Cl 167 [xA 26 0, xI b1] m1 (fun z5 m5 =>
              ((0 ≤ (((m1 41 0 ((0 : Int).toNat)) + 0) + 0) ∧ 0 < b1) ∧
  ((0 ≤ ((((m1 41 0 ((0 : Int).toNat)) + 0) + 0) / b1) ∧ 0 < (3 : Int)) ∧
  ((jx_in (b2 + (((((m1 41 0 ((0 : Int).toNat)) + 0) + 0) / b1) / 3))) ∧
  (((b2 + (((((m1 41 0 ((0 : Int).toNat)) + 0) + 0) / b1) / 3)) < b3 →
                (((0 : Int) = 0 →
                  (((0 : Int) = 0 →
                    ((jx_in (b8 + 1)) ∧
  jx_AW 165 47 [some (xA 26 0), some (xI b1), some (xI b2), some (xI b3), some (xI b4), some (xI b5), some (xI b6), some (xI b7), some (xI (b8 + 1)), some (xI (((m1 41 0 ((0 : Int).toNat)) + 0) + 0)), some (xI z5), some (xI 0)] [] m5 Q)) ∧
                    (¬ ((0 : Int) = 0) →
                    ((jx_in (b8 + 1)) ∧
  jx_AW 165 47 [some (xA 26 0), some (xI b1), some (xI b2), some (xI b3), some (xI b4), some (xI b5), some (xI z5), some (xI b7), some (xI (b8 + 1)), some (xI (((m1 41 0 ((0 : Int).toNat)) + 0) + 0)), some (xI z5), some (xI 0)] [] m5 Q)))) ∧
                  (¬ ((0 : Int) = 0) →
                  (((0 : Int) = 0 →
                    ((jx_in (b8 + 1)) ∧
  jx_AW 165 47 [some (xA 26 0), some (xI b1), some (xI b2), some (xI b3), some (xI b4), some (xI b8), some (xI b6), some (xI b7), some (xI (b8 + 1)), some (xI (((m1 41 0 ((0 : Int).toNat)) + 0) + 0)), some (xI z5), some (xI 0)] [] m5 Q)) ∧
                    (¬ ((0 : Int) = 0) →
                    ((jx_in (b8 + 1)) ∧
  jx_AW 165 47 [some (xA 26 0), some (xI b1), some (xI b2), some (xI b3), some (xI b4), some (xI b8), some (xI z5), some (xI b7), some (xI (b8 + 1)), some (xI (((m1 41 0 ((0 : Int).toNat)) + 0) + 0)), some (xI z5), some (xI 0)] [] m5 Q)))))) ∧
                (¬ ((b2 + (((((m1 41 0 ((0 : Int).toNat)) + 0) + 0) / b1) / 3)) < b3) →
                ((b6 < z5 →
                  (((1 : Int) = 0 →
                    (((1 : Int) = 0 →
                      ((jx_in (b8 + 1)) ∧
  jx_AW 165 47 [some (xA 26 0), some (xI b1), some (xI b2), some (xI b3), some (xI b4), some (xI b5), some (xI b6), some (xI b7), some (xI (b8 + 1)), some (xI (((m1 41 0 ((0 : Int).toNat)) + 0) + 0)), some (xI z5), some (xI 1)] [] m5 Q)) ∧
                      (¬ ((1 : Int) = 0) →
                      ((jx_in (b8 + 1)) ∧
  jx_AW 165 47 [some (xA 26 0), some (xI b1), some (xI b2), some (xI b3), some (xI b4), some (xI b5), some (xI z5), some (xI b7), some (xI (b8 + 1)), some (xI (((m1 41 0 ((0 : Int).toNat)) + 0) + 0)), some (xI z5), some (xI 1)] [] m5 Q)))) ∧
                    (¬ ((1 : Int) = 0) →
                    (((1 : Int) = 0 →
                      ((jx_in (b8 + 1)) ∧
  jx_AW 165 47 [some (xA 26 0), some (xI b1), some (xI b2), some (xI b3), some (xI b4), some (xI b8), some (xI b6), some (xI b7), some (xI (b8 + 1)), some (xI (((m1 41 0 ((0 : Int).toNat)) + 0) + 0)), some (xI z5), some (xI 1)] [] m5 Q)) ∧
                      (¬ ((1 : Int) = 0) →
                      ((jx_in (b8 + 1)) ∧
  jx_AW 165 47 [some (xA 26 0), some (xI b1), some (xI b2), some (xI b3), some (xI b4), some (xI b8), some (xI z5), some (xI b7), some (xI (b8 + 1)), some (xI (((m1 41 0 ((0 : Int).toNat)) + 0) + 0)), some (xI z5), some (xI 1)] [] m5 Q)))))) ∧
                  (¬ (b6 < z5) →
                  (((0 : Int) = 0 →
                    (((0 : Int) = 0 →
                      ((jx_in (b8 + 1)) ∧
  jx_AW 165 47 [some (xA 26 0), some (xI b1), some (xI b2), some (xI b3), some (xI b4), some (xI b5), some (xI b6), some (xI b7), some (xI (b8 + 1)), some (xI (((m1 41 0 ((0 : Int).toNat)) + 0) + 0)), some (xI z5), some (xI 0)] [] m5 Q)) ∧
                      (¬ ((0 : Int) = 0) →
                      ((jx_in (b8 + 1)) ∧
  jx_AW 165 47 [some (xA 26 0), some (xI b1), some (xI b2), some (xI b3), some (xI b4), some (xI b5), some (xI z5), some (xI b7), some (xI (b8 + 1)), some (xI (((m1 41 0 ((0 : Int).toNat)) + 0) + 0)), some (xI z5), some (xI 0)] [] m5 Q)))) ∧
                    (¬ ((0 : Int) = 0) →
                    (((0 : Int) = 0 →
                      ((jx_in (b8 + 1)) ∧
  jx_AW 165 47 [some (xA 26 0), some (xI b1), some (xI b2), some (xI b3), some (xI b4), some (xI b8), some (xI b6), some (xI b7), some (xI (b8 + 1)), some (xI (((m1 41 0 ((0 : Int).toNat)) + 0) + 0)), some (xI z5), some (xI 0)] [] m5 Q)) ∧
                      (¬ ((0 : Int) = 0) →
                      ((jx_in (b8 + 1)) ∧
  jx_AW 165 47 [some (xA 26 0), some (xI b1), some (xI b2), some (xI b3), some (xI b4), some (xI b8), some (xI z5), some (xI b7), some (xI (b8 + 1)), some (xI (((m1 41 0 ((0 : Int).toNat)) + 0) + 0)), some (xI z5), some (xI 0)] [] m5 Q)))))))))))))))))))))))))) ∧
      (¬ (b8 < b7) →
      ((b5 < 0 →
        Q (-4) m) ∧
        (¬ (b5 < 0) →
        ((0 < 1) ∧
  jx_Cl 166 [xA 26 0, xI b5, xI b1] m (fun _ m6 =>
          ((b4 < 0 →
            Q b6 m6) ∧
            (¬ (b4 < 0) →
            ((0 < 1) ∧
  ((1 = 1 ∧ 0 ≤ b4 ∧ b4 < 6) ∧
  ((0 < 1) ∧
  Q (m6 41 0 (b4.toNat)) m6)))))))))))) :
    jx_AW 165 47 [some (xA 26 0), some (xI b1), some (xI b2), some (xI b3), some (xI b4), some (xI b5), some (xI b6), some (xI b7), some (xI b8), w9, w10, w11] [] m Q :=
  jx_segOk (x := 165) (cd := jx_c165) rfl (stops := [47]) 62 hv
set_option maxRecDepth 100000 in
theorem sg_166 (a1 : Int) (a2 : Int) (m : jx_M) (Q : Int → jx_M → Prop) (hv :
    ((jx_in (a2 - 1)) ∧
  jx_AW 166 6 [some (xA 26 0), some (xI a1), some (xI a2), some (xI a1), some (xI (a2 - 1))] [] m Q)) :
    jx_Cl 166 [xA 26 0, xI a1, xI a2] m Q :=
  jx_segOk (x := 166) (cd := jx_c166) rfl (stops := [6]) 7 hv
set_option maxRecDepth 100000 in
theorem sg_166_6 (b1 : Int) (b2 : Int) (b3 : Int) (b4 : Int) (m : jx_M) (Q : Int → jx_M → Prop) (hv :
    ((b4 < 0 →
      Q 0 m) ∧
      (¬ (b4 < 0) →
      ((0 < 1) ∧
  ((0 ≤ b3 ∧ 0 < (10 : Int)) ∧
  ((1 = 1 ∧ 0 ≤ b4 ∧ b4 < 6) ∧
  ((0 < 1) ∧
  ((0 ≤ b3 ∧ 0 < (10 : Int)) ∧
  ((jx_in (b4 + (-1))) ∧
  jx_AW 166 6 [some (xA 26 0), some (xI b1), some (xI b2), some (xI (b3 / 10)), some (xI (b4 + (-1)))] [] (jx_up m 41 0 (b4.toNat) (b3 % 10)) Q))))))))) :
    jx_AW 166 6 [some (xA 26 0), some (xI b1), some (xI b2), some (xI b3), some (xI b4)] [] m Q :=
  jx_segOk (x := 166) (cd := jx_c166) rfl (stops := [6]) 16 hv
set_option maxRecDepth 100000 in
theorem sg_167 (a1 : Int) (m : jx_M) (Q : Int → jx_M → Prop) (hv :
    ((0 < 1) ∧
  jx_AW 167 7 [some (xA 26 0), some (xI a1), some (xI 0), some (xI 0), none, none] [] (jx_up m 26 0 25 (-4)) Q)) :
    jx_Cl 167 [xA 26 0, xI a1] m Q :=
  jx_segOk (x := 167) (cd := jx_c167) rfl (stops := [7]) 8 hv
set_option maxRecDepth 100000 in
theorem sg_167_7 (b1 : Int) (b2 : Int) (b3 : Int) (w4 : Option jx_V) (w5 : Option jx_V) (m : jx_M) (Q : Int → jx_M → Prop) (hv :
    ((0 < 1) ∧
  ((b3 < (m 26 0 1) →
      ((0 < 1) ∧
  ((0 < 1) ∧
  ((jx_in (7 * b3)) ∧
  ((jx_in ((7 * b3) + 1)) ∧
  ((0 < 1) ∧
  ((jx_in (7 * b3)) ∧
  ((1 = 1 ∧ 0 ≤ (7 * b3) ∧ (7 * b3) < 42) ∧
  ((0 < 1) ∧
  jx_Cl 150 [xA 41 0, xI 0, xI b1, xA 30 0, xI ((7 * b3) + 1), xI (m 30 0 ((7 * b3).toNat))] m (fun z1 m1 =>
        ((0 < 1) ∧
  (((m1 26 0 25) < 0 →
          (((1 : Int) = 0 →
            ((0 < 1) ∧
  ((0 < 1) ∧
  (((1 : Int) = 0 →
              ((jx_in (b3 + 1)) ∧
  jx_AW 167 7 [some (xA 26 0), some (xI b1), some (xI b2), some (xI (b3 + 1)), some (xI z1), some (xI 1)] [] (jx_up m1 26 0 25 (m1 26 0 25)) Q)) ∧
              (¬ ((1 : Int) = 0) →
              ((jx_in (b3 + 1)) ∧
  jx_AW 167 7 [some (xA 26 0), some (xI b1), some (xI z1), some (xI (b3 + 1)), some (xI z1), some (xI 1)] [] (jx_up m1 26 0 25 (m1 26 0 25)) Q)))))) ∧
            (¬ ((1 : Int) = 0) →
            ((0 < 1) ∧
  (((1 : Int) = 0 →
              ((jx_in (b3 + 1)) ∧
  jx_AW 167 7 [some (xA 26 0), some (xI b1), some (xI b2), some (xI (b3 + 1)), some (xI z1), some (xI 1)] [] (jx_up m1 26 0 25 b3) Q)) ∧
              (¬ ((1 : Int) = 0) →
              ((jx_in (b3 + 1)) ∧
  jx_AW 167 7 [some (xA 26 0), some (xI b1), some (xI z1), some (xI (b3 + 1)), some (xI z1), some (xI 1)] [] (jx_up m1 26 0 25 b3) Q))))))) ∧
          (¬ ((m1 26 0 25) < 0) →
          ((z1 < b2 →
            (((1 : Int) = 0 →
              ((0 < 1) ∧
  ((0 < 1) ∧
  (((1 : Int) = 0 →
                ((jx_in (b3 + 1)) ∧
  jx_AW 167 7 [some (xA 26 0), some (xI b1), some (xI b2), some (xI (b3 + 1)), some (xI z1), some (xI 1)] [] (jx_up m1 26 0 25 (m1 26 0 25)) Q)) ∧
                (¬ ((1 : Int) = 0) →
                ((jx_in (b3 + 1)) ∧
  jx_AW 167 7 [some (xA 26 0), some (xI b1), some (xI z1), some (xI (b3 + 1)), some (xI z1), some (xI 1)] [] (jx_up m1 26 0 25 (m1 26 0 25)) Q)))))) ∧
              (¬ ((1 : Int) = 0) →
              ((0 < 1) ∧
  (((1 : Int) = 0 →
                ((jx_in (b3 + 1)) ∧
  jx_AW 167 7 [some (xA 26 0), some (xI b1), some (xI b2), some (xI (b3 + 1)), some (xI z1), some (xI 1)] [] (jx_up m1 26 0 25 b3) Q)) ∧
                (¬ ((1 : Int) = 0) →
                ((jx_in (b3 + 1)) ∧
  jx_AW 167 7 [some (xA 26 0), some (xI b1), some (xI z1), some (xI (b3 + 1)), some (xI z1), some (xI 1)] [] (jx_up m1 26 0 25 b3) Q))))))) ∧
            (¬ (z1 < b2) →
            (((0 : Int) = 0 →
              ((0 < 1) ∧
  ((0 < 1) ∧
  (((0 : Int) = 0 →
                ((jx_in (b3 + 1)) ∧
  jx_AW 167 7 [some (xA 26 0), some (xI b1), some (xI b2), some (xI (b3 + 1)), some (xI z1), some (xI 0)] [] (jx_up m1 26 0 25 (m1 26 0 25)) Q)) ∧
                (¬ ((0 : Int) = 0) →
                ((jx_in (b3 + 1)) ∧
  jx_AW 167 7 [some (xA 26 0), some (xI b1), some (xI z1), some (xI (b3 + 1)), some (xI z1), some (xI 0)] [] (jx_up m1 26 0 25 (m1 26 0 25)) Q)))))) ∧
              (¬ ((0 : Int) = 0) →
              ((0 < 1) ∧
  (((0 : Int) = 0 →
                ((jx_in (b3 + 1)) ∧
  jx_AW 167 7 [some (xA 26 0), some (xI b1), some (xI b2), some (xI (b3 + 1)), some (xI z1), some (xI 0)] [] (jx_up m1 26 0 25 b3) Q)) ∧
                (¬ ((0 : Int) = 0) →
                ((jx_in (b3 + 1)) ∧
  jx_AW 167 7 [some (xA 26 0), some (xI b1), some (xI z1), some (xI (b3 + 1)), some (xI z1), some (xI 0)] [] (jx_up m1 26 0 25 b3) Q))))))))))))))))))))) ∧
      (¬ (b3 < (m 26 0 1)) →
      Q b2 m)))) :
    jx_AW 167 7 [some (xA 26 0), some (xI b1), some (xI b2), some (xI b3), w4, w5] [] m Q :=
  jx_segOk (x := 167) (cd := jx_c167) rfl (stops := [7]) 46 hv
set_option maxRecDepth 100000 in
theorem sg_168 (a1 : Int) (m : jx_M) (Q : Int → jx_M → Prop) (hv :
    jx_Cl 124 [xI a1] m (fun z1 m1 =>
      ((z1 = 0 →
        Q (-1) m1) ∧
        (¬ (z1 = 0) →
        ((0 < 1) ∧
  jx_Cl 169 [xA 26 0, xI a1] m1 (fun z2 m2 =>
          Q z2 m2)))))) :
    jx_Cl 168 [xA 26 0, xI a1] m Q :=
  jx_segOk (x := 168) (cd := jx_c168) rfl (stops := []) 9 hv
set_option maxRecDepth 100000 in
theorem sg_169 (a1 : Int) (m : jx_M) (Q : Int → jx_M → Prop) (hv :
    jx_AW 169 4 [some (xA 26 0), some (xI a1), some (xI 0), some (xI 0), none] [] m Q) :
    jx_Cl 169 [xA 26 0, xI a1] m Q :=
  jx_segOk (x := 169) (cd := jx_c169) rfl (stops := [4, 9]) 5 hv
set_option maxRecDepth 100000 in
theorem sg_169_4 (b1 : Int) (b2 : Int) (b3 : Int) (w4 : Option jx_V) (m : jx_M) (Q : Int → jx_M → Prop) (hv :
    ((b3 < 120 →
      jx_AW 169 9 [some (xA 26 0), some (xI b1), some (xI b2), some (xI b3), some (xI 0)] [] m Q) ∧
      (¬ (b3 < 120) →
      Q b2 m))) :
    jx_AW 169 4 [some (xA 26 0), some (xI b1), some (xI b2), some (xI b3), w4] [] m Q :=
  jx_segOk (x := 169) (cd := jx_c169) rfl (stops := [4, 9]) 6 hv
set_option maxRecDepth 100000 in
theorem sg_169_9 (b1 : Int) (b2 : Int) (b3 : Int) (b4 : Int) (m : jx_M) (Q : Int → jx_M → Prop) (hv :
    ((0 < 1) ∧
  ((b4 < (m 26 0 1) →
      ((0 < 1) ∧
  jx_Cl 146 [xA 26 0, xI b1, xI b4, xI b3] m (fun z1 m1 =>
        ((z1 = 0 →
          ((jx_in (b2 + 0)) ∧
  ((jx_in (b4 + 1)) ∧
  jx_AW 169 9 [some (xA 26 0), some (xI b1), some (xI (b2 + 0)), some (xI b3), some (xI (b4 + 1))] [] m1 Q))) ∧
          (¬ (z1 = 0) →
          ((jx_in (b2 + 1)) ∧
  ((jx_in (b4 + 1)) ∧
  jx_AW 169 9 [some (xA 26 0), some (xI b1), some (xI (b2 + 1)), some (xI b3), some (xI (b4 + 1))] [] m1 Q))))))) ∧
      (¬ (b4 < (m 26 0 1)) →
      ((jx_in (b3 + 1)) ∧
  jx_AW 169 4 [some (xA 26 0), some (xI b1), some (xI b2), some (xI (b3 + 1)), some (xI b4)] [] m Q))))) :
    jx_AW 169 9 [some (xA 26 0), some (xI b1), some (xI b2), some (xI b3), some (xI b4)] [] m Q :=
  jx_segOk (x := 169) (cd := jx_c169) rfl (stops := [4, 9]) 18 hv
set_option maxRecDepth 100000 in
theorem sg_170 (a1 : Int) (a2 : Int) (m : jx_M) (Q : Int → jx_M → Prop) (hv :
    jx_Cl 124 [xI a1] m (fun z1 m1 =>
      ((z1 = 0 →
        Q (-1) m1) ∧
        (¬ (z1 = 0) →
        jx_Cl 125 [xL a2, xL 0, xL 999] m1 (fun z2 m2 =>
          ((z2 = 0 →
            Q (-1) m2) ∧
            (¬ (z2 = 0) →
            ((0 < 1) ∧
  jx_AW 170 18 [some (xA 26 0), some (xI a1), some (xI a2), some (xI (m2 26 0 6)), some (xI (-4)), some (xI 0), none] [] m2 Q)))))))) :
    jx_Cl 170 [xA 26 0, xI a1, xI a2] m Q :=
  jx_segOk (x := 170) (cd := jx_c170) rfl (stops := [18]) 17 hv
set_option maxRecDepth 100000 in
theorem sg_170_18 (b1 : Int) (b2 : Int) (b3 : Int) (b4 : Int) (b5 : Int) (w6 : Option jx_V) (m : jx_M) (Q : Int → jx_M → Prop) (hv :
    ((b5 < 16 →
      ((0 < 1) ∧
  ((b4 < 0 →
        (((1 : Int) = 0 →
          ((jx_in (b5 + 1)) ∧
  jx_AW 170 18 [some (xA 26 0), some (xI b1), some (xI b2), some (xI b3), some (xI b4), some (xI (b5 + 1)), some (xI 1)] [] (jx_up m 26 0 6 b5) Q)) ∧
          (¬ ((1 : Int) = 0) →
          ((0 < 1) ∧
  jx_Cl 169 [xA 26 0, xI b1] (jx_up m 26 0 6 b5) (fun z1 m1 =>
            ((b2 < z1 →
              ((jx_in (b5 + 1)) ∧
  jx_AW 170 18 [some (xA 26 0), some (xI b1), some (xI b2), some (xI b3), some (xI b4), some (xI (b5 + 1)), some (xI 1)] [] m1 Q)) ∧
              (¬ (b2 < z1) →
              ((jx_in (b5 + 1)) ∧
  jx_AW 170 18 [some (xA 26 0), some (xI b1), some (xI b2), some (xI b3), some (xI b5), some (xI (b5 + 1)), some (xI 1)] [] m1 Q)))))))) ∧
        (¬ (b4 < 0) →
        jx_Cl 154 [xI b5] (jx_up m 26 0 6 b5) (fun z2 m2 =>
          jx_Cl 154 [xI b4] m2 (fun z3 m3 =>
            ((z2 < z3 →
              (((1 : Int) = 0 →
                ((jx_in (b5 + 1)) ∧
  jx_AW 170 18 [some (xA 26 0), some (xI b1), some (xI b2), some (xI b3), some (xI b4), some (xI (b5 + 1)), some (xI 1)] [] m3 Q)) ∧
                (¬ ((1 : Int) = 0) →
                ((0 < 1) ∧
  jx_Cl 169 [xA 26 0, xI b1] m3 (fun z4 m4 =>
                  ((b2 < z4 →
                    ((jx_in (b5 + 1)) ∧
  jx_AW 170 18 [some (xA 26 0), some (xI b1), some (xI b2), some (xI b3), some (xI b4), some (xI (b5 + 1)), some (xI 1)] [] m4 Q)) ∧
                    (¬ (b2 < z4) →
                    ((jx_in (b5 + 1)) ∧
  jx_AW 170 18 [some (xA 26 0), some (xI b1), some (xI b2), some (xI b3), some (xI b5), some (xI (b5 + 1)), some (xI 1)] [] m4 Q)))))))) ∧
              (¬ (z2 < z3) →
              (((0 : Int) = 0 →
                ((jx_in (b5 + 1)) ∧
  jx_AW 170 18 [some (xA 26 0), some (xI b1), some (xI b2), some (xI b3), some (xI b4), some (xI (b5 + 1)), some (xI 0)] [] m3 Q)) ∧
                (¬ ((0 : Int) = 0) →
                ((0 < 1) ∧
  jx_Cl 169 [xA 26 0, xI b1] m3 (fun z5 m5 =>
                  ((b2 < z5 →
                    ((jx_in (b5 + 1)) ∧
  jx_AW 170 18 [some (xA 26 0), some (xI b1), some (xI b2), some (xI b3), some (xI b4), some (xI (b5 + 1)), some (xI 0)] [] m5 Q)) ∧
                    (¬ (b2 < z5) →
                    ((jx_in (b5 + 1)) ∧
  jx_AW 170 18 [some (xA 26 0), some (xI b1), some (xI b2), some (xI b3), some (xI b5), some (xI (b5 + 1)), some (xI 0)] [] m5 Q))))))))))))))) ∧
      (¬ (b5 < 16) →
      ((0 < 1) ∧
  Q b4 (jx_up m 26 0 6 b3))))) :
    jx_AW 170 18 [some (xA 26 0), some (xI b1), some (xI b2), some (xI b3), some (xI b4), some (xI b5), w6] [] m Q :=
  jx_segOk (x := 170) (cd := jx_c170) rfl (stops := [18]) 29 hv
set_option maxRecDepth 100000 in
theorem sg_171 (a1 : Int) (a2 : Int) (m : jx_M) (Q : Int → jx_M → Prop) (hv :
    jx_Cl 125 [xL a1, xL 0, xL 3] m (fun z1 m1 =>
      ((z1 = 0 →
        Q (-100001) m1) ∧
        (¬ (z1 = 0) →
        ((0 < 1) ∧
  jx_Cl 130 [xA 26 0, xI a2] m1 (fun z2 m2 =>
          ((z2 = 0 →
            Q (-100001) m2) ∧
            (¬ (z2 = 0) →
            ((0 < 1) ∧
  ((0 < 1) ∧
  jx_Cl 161 [xA 26 0, xI a2] m2 (fun z3 m3 =>
              ((0 < 1) ∧
  ((0 < 1) ∧
  ((0 < 1) ∧
  jx_Cl 161 [xA 26 0, xI a2] (jx_up m3 26 0 6 (jx_ior (m3 26 0 6) (jx_ishl 1 a1))) (fun z4 m4 =>
                ((0 < 1) ∧
  ((jx_in (z3 - z4)) ∧
  Q (z3 - z4) (jx_up m4 26 0 6 (m2 26 0 6))))))))))))))))))) :
    jx_Cl 171 [xA 26 0, xI a1, xI a2] m Q :=
  jx_segOk (x := 171) (cd := jx_c171) rfl (stops := []) 37 hv
set_option maxRecDepth 100000 in
theorem sg_172 (a1 : Int) (a2 : Int) (a3 : Int) (m : jx_M) (Q : Int → jx_M → Prop) (hv :
    jx_Cl 124 [xI a1] m (fun z1 m1 =>
      ((z1 = 0 →
        Q (-1) m1) ∧
        (¬ (z1 = 0) →
        jx_Cl 128 [xI a2] m1 (fun z2 m2 =>
          ((z2 = 0 →
            Q (-1) m2) ∧
            (¬ (z2 = 0) →
            ((0 < 1) ∧
  (((m2 26 0 9) = 12 →
              Q (-3) m2) ∧
              (¬ ((m2 26 0 9) = 12) →
              ((0 < 1) ∧
  ((0 < 1) ∧
  ((jx_in (3 * (m2 26 0 9))) ∧
  ((1 = 1 ∧ 0 ≤ (3 * (m2 26 0 9)) ∧ (3 * (m2 26 0 9)) < 36) ∧
  ((0 < 1) ∧
  ((0 < 1) ∧
  ((0 < 1) ∧
  ((jx_in (3 * ((jx_up m2 32 0 ((3 * (m2 26 0 9)).toNat) a1) 26 0 9))) ∧
  ((jx_in ((3 * ((jx_up m2 32 0 ((3 * (m2 26 0 9)).toNat) a1) 26 0 9)) + 1)) ∧
  ((1 = 1 ∧ 0 ≤ ((3 * ((jx_up m2 32 0 ((3 * (m2 26 0 9)).toNat) a1) 26 0 9)) + 1) ∧ ((3 * ((jx_up m2 32 0 ((3 * (m2 26 0 9)).toNat) a1) 26 0 9)) + 1) < 36) ∧
  ((0 < 1) ∧
  ((0 < 1) ∧
  ((0 < 1) ∧
  ((jx_in (3 * ((jx_up (jx_up m2 32 0 ((3 * (m2 26 0 9)).toNat) a1) 32 0 (((3 * ((jx_up m2 32 0 ((3 * (m2 26 0 9)).toNat) a1) 26 0 9)) + 1).toNat) a2) 26 0 9))) ∧
  ((jx_in ((3 * ((jx_up (jx_up m2 32 0 ((3 * (m2 26 0 9)).toNat) a1) 32 0 (((3 * ((jx_up m2 32 0 ((3 * (m2 26 0 9)).toNat) a1) 26 0 9)) + 1).toNat) a2) 26 0 9)) + 2)) ∧
  ((a3 = 0 →
                ((1 = 1 ∧ 0 ≤ ((3 * ((jx_up (jx_up m2 32 0 ((3 * (m2 26 0 9)).toNat) a1) 32 0 (((3 * ((jx_up m2 32 0 ((3 * (m2 26 0 9)).toNat) a1) 26 0 9)) + 1).toNat) a2) 26 0 9)) + 2) ∧ ((3 * ((jx_up (jx_up m2 32 0 ((3 * (m2 26 0 9)).toNat) a1) 32 0 (((3 * ((jx_up m2 32 0 ((3 * (m2 26 0 9)).toNat) a1) 26 0 9)) + 1).toNat) a2) 26 0 9)) + 2) < 36) ∧
  ((0 < 1) ∧
  ((0 < 1) ∧
  ((jx_in (((jx_up (jx_up (jx_up m2 32 0 ((3 * (m2 26 0 9)).toNat) a1) 32 0 (((3 * ((jx_up m2 32 0 ((3 * (m2 26 0 9)).toNat) a1) 26 0 9)) + 1).toNat) a2) 32 0 (((3 * ((jx_up (jx_up m2 32 0 ((3 * (m2 26 0 9)).toNat) a1) 32 0 (((3 * ((jx_up m2 32 0 ((3 * (m2 26 0 9)).toNat) a1) 26 0 9)) + 1).toNat) a2) 26 0 9)) + 2).toNat) 0) 26 0 9) + 1)) ∧
  ((0 < 1) ∧
  ((0 < 1) ∧
  Q ((jx_up (jx_up (jx_up (jx_up m2 32 0 ((3 * (m2 26 0 9)).toNat) a1) 32 0 (((3 * ((jx_up m2 32 0 ((3 * (m2 26 0 9)).toNat) a1) 26 0 9)) + 1).toNat) a2) 32 0 (((3 * ((jx_up (jx_up m2 32 0 ((3 * (m2 26 0 9)).toNat) a1) 32 0 (((3 * ((jx_up m2 32 0 ((3 * (m2 26 0 9)).toNat) a1) 26 0 9)) + 1).toNat) a2) 26 0 9)) + 2).toNat) 0) 26 0 9 (((jx_up (jx_up (jx_up m2 32 0 ((3 * (m2 26 0 9)).toNat) a1) 32 0 (((3 * ((jx_up m2 32 0 ((3 * (m2 26 0 9)).toNat) a1) 26 0 9)) + 1).toNat) a2) 32 0 (((3 * ((jx_up (jx_up m2 32 0 ((3 * (m2 26 0 9)).toNat) a1) 32 0 (((3 * ((jx_up m2 32 0 ((3 * (m2 26 0 9)).toNat) a1) 26 0 9)) + 1).toNat) a2) 26 0 9)) + 2).toNat) 0) 26 0 9) + 1)) 26 0 9) (jx_up (jx_up (jx_up (jx_up m2 32 0 ((3 * (m2 26 0 9)).toNat) a1) 32 0 (((3 * ((jx_up m2 32 0 ((3 * (m2 26 0 9)).toNat) a1) 26 0 9)) + 1).toNat) a2) 32 0 (((3 * ((jx_up (jx_up m2 32 0 ((3 * (m2 26 0 9)).toNat) a1) 32 0 (((3 * ((jx_up m2 32 0 ((3 * (m2 26 0 9)).toNat) a1) 26 0 9)) + 1).toNat) a2) 26 0 9)) + 2).toNat) 0) 26 0 9 (((jx_up (jx_up (jx_up m2 32 0 ((3 * (m2 26 0 9)).toNat) a1) 32 0 (((3 * ((jx_up m2 32 0 ((3 * (m2 26 0 9)).toNat) a1) 26 0 9)) + 1).toNat) a2) 32 0 (((3 * ((jx_up (jx_up m2 32 0 ((3 * (m2 26 0 9)).toNat) a1) 32 0 (((3 * ((jx_up m2 32 0 ((3 * (m2 26 0 9)).toNat) a1) 26 0 9)) + 1).toNat) a2) 26 0 9)) + 2).toNat) 0) 26 0 9) + 1))))))))) ∧
                (¬ (a3 = 0) →
                ((1 = 1 ∧ 0 ≤ ((3 * ((jx_up (jx_up m2 32 0 ((3 * (m2 26 0 9)).toNat) a1) 32 0 (((3 * ((jx_up m2 32 0 ((3 * (m2 26 0 9)).toNat) a1) 26 0 9)) + 1).toNat) a2) 26 0 9)) + 2) ∧ ((3 * ((jx_up (jx_up m2 32 0 ((3 * (m2 26 0 9)).toNat) a1) 32 0 (((3 * ((jx_up m2 32 0 ((3 * (m2 26 0 9)).toNat) a1) 26 0 9)) + 1).toNat) a2) 26 0 9)) + 2) < 36) ∧
  ((0 < 1) ∧
  ((0 < 1) ∧
  ((jx_in (((jx_up (jx_up (jx_up m2 32 0 ((3 * (m2 26 0 9)).toNat) a1) 32 0 (((3 * ((jx_up m2 32 0 ((3 * (m2 26 0 9)).toNat) a1) 26 0 9)) + 1).toNat) a2) 32 0 (((3 * ((jx_up (jx_up m2 32 0 ((3 * (m2 26 0 9)).toNat) a1) 32 0 (((3 * ((jx_up m2 32 0 ((3 * (m2 26 0 9)).toNat) a1) 26 0 9)) + 1).toNat) a2) 26 0 9)) + 2).toNat) 1) 26 0 9) + 1)) ∧
  ((0 < 1) ∧
  ((0 < 1) ∧
  Q ((jx_up (jx_up (jx_up (jx_up m2 32 0 ((3 * (m2 26 0 9)).toNat) a1) 32 0 (((3 * ((jx_up m2 32 0 ((3 * (m2 26 0 9)).toNat) a1) 26 0 9)) + 1).toNat) a2) 32 0 (((3 * ((jx_up (jx_up m2 32 0 ((3 * (m2 26 0 9)).toNat) a1) 32 0 (((3 * ((jx_up m2 32 0 ((3 * (m2 26 0 9)).toNat) a1) 26 0 9)) + 1).toNat) a2) 26 0 9)) + 2).toNat) 1) 26 0 9 (((jx_up (jx_up (jx_up m2 32 0 ((3 * (m2 26 0 9)).toNat) a1) 32 0 (((3 * ((jx_up m2 32 0 ((3 * (m2 26 0 9)).toNat) a1) 26 0 9)) + 1).toNat) a2) 32 0 (((3 * ((jx_up (jx_up m2 32 0 ((3 * (m2 26 0 9)).toNat) a1) 32 0 (((3 * ((jx_up m2 32 0 ((3 * (m2 26 0 9)).toNat) a1) 26 0 9)) + 1).toNat) a2) 26 0 9)) + 2).toNat) 1) 26 0 9) + 1)) 26 0 9) (jx_up (jx_up (jx_up (jx_up m2 32 0 ((3 * (m2 26 0 9)).toNat) a1) 32 0 (((3 * ((jx_up m2 32 0 ((3 * (m2 26 0 9)).toNat) a1) 26 0 9)) + 1).toNat) a2) 32 0 (((3 * ((jx_up (jx_up m2 32 0 ((3 * (m2 26 0 9)).toNat) a1) 32 0 (((3 * ((jx_up m2 32 0 ((3 * (m2 26 0 9)).toNat) a1) 26 0 9)) + 1).toNat) a2) 26 0 9)) + 2).toNat) 1) 26 0 9 (((jx_up (jx_up (jx_up m2 32 0 ((3 * (m2 26 0 9)).toNat) a1) 32 0 (((3 * ((jx_up m2 32 0 ((3 * (m2 26 0 9)).toNat) a1) 26 0 9)) + 1).toNat) a2) 32 0 (((3 * ((jx_up (jx_up m2 32 0 ((3 * (m2 26 0 9)).toNat) a1) 32 0 (((3 * ((jx_up m2 32 0 ((3 * (m2 26 0 9)).toNat) a1) 26 0 9)) + 1).toNat) a2) 26 0 9)) + 2).toNat) 1) 26 0 9) + 1))))))))))))))))))))))))))))))))))) :
    jx_Cl 172 [xA 26 0, xI a1, xI a2, xI a3] m Q :=
  jx_segOk (x := 172) (cd := jx_c172) rfl (stops := []) 51 hv
set_option maxRecDepth 100000 in
theorem sg_173 (a1 : Int) (a2 : Int) (m : jx_M) (Q : Int → jx_M → Prop) (hv :
    ((0 < 1) ∧
  jx_Cl 130 [xA 26 0, xI a1] m (fun z1 m1 =>
      ((z1 = 0 →
        Q (-1) m1) ∧
        (¬ (z1 = 0) →
        jx_Cl 125 [xL a2, xL 0, xL 2] m1 (fun z2 m2 =>
          ((z2 = 0 →
            Q (-1) m2) ∧
            (¬ (z2 = 0) →
            ((0 < 1) ∧
  ((jx_in (4 * a1)) ∧
  ((jx_in ((4 * a1) + 2)) ∧
  ((1 = 1 ∧ 0 ≤ ((4 * a1) + 2) ∧ ((4 * a1) + 2) < 24) ∧
  ((0 < 1) ∧
  ((0 < 1) ∧
  jx_AW 173 32 [some (xA 26 0), some (xI a1), some (xI a2), some (xI (m2 28 0 (((4 * a1) + 2).toNat))), some (xI 0), some (xI (-4)), some (xI (-4)), some (xI 0), none, none] [] (jx_up m2 26 0 17 a1) Q)))))))))))))) :
    jx_Cl 173 [xA 26 0, xI a1, xI a2] m Q :=
  jx_segOk (x := 173) (cd := jx_c173) rfl (stops := [32, 48]) 31 hv
set_option maxRecDepth 100000 in
theorem sg_173_32 (b1 : Int) (b2 : Int) (b3 : Int) (b4 : Int) (b5 : Int) (b6 : Int) (b7 : Int) (w8 : Option jx_V) (w9 : Option jx_V) (m : jx_M) (Q : Int → jx_M → Prop) (hv :
    ((b7 < 120 →
      ((0 < 1) ∧
  ((jx_in (4 * b1)) ∧
  ((jx_in ((4 * b1) + 2)) ∧
  ((1 = 1 ∧ 0 ≤ ((4 * b1) + 2) ∧ ((4 * b1) + 2) < 24) ∧
  ((0 < 1) ∧
  jx_AW 173 48 [some (xA 26 0), some (xI b1), some (xI b2), some (xI b3), some (xI b4), some (xI b5), some (xI b6), some (xI b7), some (xI 1), some (xI 0)] [] (jx_up m 28 0 (((4 * b1) + 2).toNat) b7) Q)))))) ∧
      (¬ (b7 < 120) →
      ((0 < 1) ∧
  ((0 < 1) ∧
  ((jx_in (4 * b1)) ∧
  ((jx_in ((4 * b1) + 2)) ∧
  ((1 = 1 ∧ 0 ≤ ((4 * b1) + 2) ∧ ((4 * b1) + 2) < 24) ∧
  ((0 < 1) ∧
  ((b2 = 0 →
        Q b4 (jx_up (jx_up m 26 0 17 (-4)) 28 0 (((4 * b1) + 2).toNat) b3)) ∧
        (¬ (b2 = 0) →
        ((b2 = 1 →
          Q b5 (jx_up (jx_up m 26 0 17 (-4)) 28 0 (((4 * b1) + 2).toNat) b3)) ∧
          (¬ (b2 = 1) →
          Q b6 (jx_up (jx_up m 26 0 17 (-4)) 28 0 (((4 * b1) + 2).toNat) b3)))))))))))))) :
    jx_AW 173 32 [some (xA 26 0), some (xI b1), some (xI b2), some (xI b3), some (xI b4), some (xI b5), some (xI b6), some (xI b7), w8, w9] [] m Q :=
  jx_segOk (x := 173) (cd := jx_c173) rfl (stops := [32, 48]) 24 hv
set_option maxRecDepth 100000 in
theorem sg_173_48 (b1 : Int) (b2 : Int) (b3 : Int) (b4 : Int) (b5 : Int) (b6 : Int) (b7 : Int) (b8 : Int) (b9 : Int) (m : jx_M) (Q : Int → jx_M → Prop) (hv :
    ((0 < 1) ∧
  ((b9 < (m 26 0 9) →
      ((b8 = 0 →
        ((jx_in (b9 + 1)) ∧
  jx_AW 173 48 [some (xA 26 0), some (xI b1), some (xI b2), some (xI b3), some (xI b4), some (xI b5), some (xI b6), some (xI b7), some (xI 0), some (xI (b9 + 1))] [] m Q)) ∧
        (¬ (b8 = 0) →
        ((0 < 1) ∧
  ((jx_in (3 * b9)) ∧
  ((1 = 1 ∧ 0 ≤ (3 * b9) ∧ (3 * b9) < 36) ∧
  ((0 < 1) ∧
  ((0 < 1) ∧
  ((jx_in (3 * b9)) ∧
  ((jx_in ((3 * b9) + 1)) ∧
  ((1 = 1 ∧ 0 ≤ ((3 * b9) + 1) ∧ ((3 * b9) + 1) < 36) ∧
  ((0 < 1) ∧
  ((0 < 1) ∧
  jx_Cl 146 [xA 26 0, xI (m 32 0 ((3 * b9).toNat)), xI b1, xI (m 32 0 (((3 * b9) + 1).toNat))] m (fun z1 m1 =>
          ((0 < 1) ∧
  ((jx_in (3 * b9)) ∧
  ((jx_in ((3 * b9) + 2)) ∧
  ((1 = 1 ∧ 0 ≤ ((3 * b9) + 2) ∧ ((3 * b9) + 2) < 36) ∧
  ((0 < 1) ∧
  (((m1 32 0 (((3 * b9) + 2).toNat)) = 1 →
            ((z1 = 1 →
              ((jx_in (b9 + 1)) ∧
  jx_AW 173 48 [some (xA 26 0), some (xI b1), some (xI b2), some (xI b3), some (xI b4), some (xI b5), some (xI b6), some (xI b7), some (xI 1), some (xI (b9 + 1))] [] m1 Q)) ∧
              (¬ (z1 = 1) →
              ((jx_in (b9 + 1)) ∧
  jx_AW 173 48 [some (xA 26 0), some (xI b1), some (xI b2), some (xI b3), some (xI b4), some (xI b5), some (xI b6), some (xI b7), some (xI 0), some (xI (b9 + 1))] [] m1 Q)))) ∧
            (¬ ((m1 32 0 (((3 * b9) + 2).toNat)) = 1) →
            ((z1 = 0 →
              ((jx_in (b9 + 1)) ∧
  jx_AW 173 48 [some (xA 26 0), some (xI b1), some (xI b2), some (xI b3), some (xI b4), some (xI b5), some (xI b6), some (xI b7), some (xI 1), some (xI (b9 + 1))] [] m1 Q)) ∧
              (¬ (z1 = 0) →
              ((jx_in (b9 + 1)) ∧
  jx_AW 173 48 [some (xA 26 0), some (xI b1), some (xI b2), some (xI b3), some (xI b4), some (xI b5), some (xI b6), some (xI b7), some (xI 0), some (xI (b9 + 1))] [] m1 Q)))))))))))))))))))))))) ∧
      (¬ (b9 < (m 26 0 9)) →
      ((b8 = 0 →
        ((jx_in (b4 + 0)) ∧
  ((b8 = 0 →
          ((b8 = 0 →
            ((jx_in (b7 + 1)) ∧
  jx_AW 173 32 [some (xA 26 0), some (xI b1), some (xI b2), some (xI b3), some (xI (b4 + 0)), some (xI b5), some (xI b6), some (xI (b7 + 1)), some (xI b8), some (xI b9)] [] m Q)) ∧
            (¬ (b8 = 0) →
            ((jx_in (b7 + 1)) ∧
  jx_AW 173 32 [some (xA 26 0), some (xI b1), some (xI b2), some (xI b3), some (xI (b4 + 0)), some (xI b5), some (xI b7), some (xI (b7 + 1)), some (xI b8), some (xI b9)] [] m Q)))) ∧
          (¬ (b8 = 0) →
          ((b5 < 0 →
            ((b8 = 0 →
              ((jx_in (b7 + 1)) ∧
  jx_AW 173 32 [some (xA 26 0), some (xI b1), some (xI b2), some (xI b3), some (xI (b4 + 0)), some (xI b7), some (xI b6), some (xI (b7 + 1)), some (xI b8), some (xI b9)] [] m Q)) ∧
              (¬ (b8 = 0) →
              ((jx_in (b7 + 1)) ∧
  jx_AW 173 32 [some (xA 26 0), some (xI b1), some (xI b2), some (xI b3), some (xI (b4 + 0)), some (xI b7), some (xI b7), some (xI (b7 + 1)), some (xI b8), some (xI b9)] [] m Q)))) ∧
            (¬ (b5 < 0) →
            ((b8 = 0 →
              ((jx_in (b7 + 1)) ∧
  jx_AW 173 32 [some (xA 26 0), some (xI b1), some (xI b2), some (xI b3), some (xI (b4 + 0)), some (xI b5), some (xI b6), some (xI (b7 + 1)), some (xI b8), some (xI b9)] [] m Q)) ∧
              (¬ (b8 = 0) →
              ((jx_in (b7 + 1)) ∧
  jx_AW 173 32 [some (xA 26 0), some (xI b1), some (xI b2), some (xI b3), some (xI (b4 + 0)), some (xI b5), some (xI b7), some (xI (b7 + 1)), some (xI b8), some (xI b9)] [] m Q))))))))) ∧
        (¬ (b8 = 0) →
        ((jx_in (b4 + 1)) ∧
  ((b8 = 0 →
          ((b8 = 0 →
            ((jx_in (b7 + 1)) ∧
  jx_AW 173 32 [some (xA 26 0), some (xI b1), some (xI b2), some (xI b3), some (xI (b4 + 1)), some (xI b5), some (xI b6), some (xI (b7 + 1)), some (xI b8), some (xI b9)] [] m Q)) ∧
            (¬ (b8 = 0) →
            ((jx_in (b7 + 1)) ∧
  jx_AW 173 32 [some (xA 26 0), some (xI b1), some (xI b2), some (xI b3), some (xI (b4 + 1)), some (xI b5), some (xI b7), some (xI (b7 + 1)), some (xI b8), some (xI b9)] [] m Q)))) ∧
          (¬ (b8 = 0) →
          ((b5 < 0 →
            ((b8 = 0 →
              ((jx_in (b7 + 1)) ∧
  jx_AW 173 32 [some (xA 26 0), some (xI b1), some (xI b2), some (xI b3), some (xI (b4 + 1)), some (xI b7), some (xI b6), some (xI (b7 + 1)), some (xI b8), some (xI b9)] [] m Q)) ∧
              (¬ (b8 = 0) →
              ((jx_in (b7 + 1)) ∧
  jx_AW 173 32 [some (xA 26 0), some (xI b1), some (xI b2), some (xI b3), some (xI (b4 + 1)), some (xI b7), some (xI b7), some (xI (b7 + 1)), some (xI b8), some (xI b9)] [] m Q)))) ∧
            (¬ (b5 < 0) →
            ((b8 = 0 →
              ((jx_in (b7 + 1)) ∧
  jx_AW 173 32 [some (xA 26 0), some (xI b1), some (xI b2), some (xI b3), some (xI (b4 + 1)), some (xI b5), some (xI b6), some (xI (b7 + 1)), some (xI b8), some (xI b9)] [] m Q)) ∧
              (¬ (b8 = 0) →
              ((jx_in (b7 + 1)) ∧
  jx_AW 173 32 [some (xA 26 0), some (xI b1), some (xI b2), some (xI b3), some (xI (b4 + 1)), some (xI b5), some (xI b7), some (xI (b7 + 1)), some (xI b8), some (xI b9)] [] m Q)))))))))))))) :
    jx_AW 173 48 [some (xA 26 0), some (xI b1), some (xI b2), some (xI b3), some (xI b4), some (xI b5), some (xI b6), some (xI b7), some (xI b8), some (xI b9)] [] m Q :=
  jx_segOk (x := 173) (cd := jx_c173) rfl (stops := [32, 48]) 42 hv
set_option maxRecDepth 100000 in
theorem sg_174  (m : jx_M) (Q : Int → jx_M → Prop) (hv :
    ((0 < 1) ∧
  ((0 < 1) ∧
  Q (m 26 0 9) (jx_up m 26 0 9 0)))) :
    jx_Cl 174 [xA 26 0] m Q :=
  jx_segOk (x := 174) (cd := jx_c174) rfl (stops := []) 9 hv
set_option maxRecDepth 100000 in
theorem sg_175 (a1 : Int) (a2 : Int) (m : jx_M) (Q : Int → jx_M → Prop) (hv :
    ((0 < 1) ∧
  jx_Cl 130 [xA 26 0, xI a1] m (fun z1 m1 =>
      ((z1 = 0 →
        Q (-1) m1) ∧
        (¬ (z1 = 0) →
        jx_Cl 124 [xI a2] m1 (fun z2 m2 =>
          ((z2 = 0 →
            Q (-1) m2) ∧
            (¬ (z2 = 0) →
            ((0 < 1) ∧
  ((1 = 1 ∧ 0 ≤ a2 ∧ a2 < 25) ∧
  ((0 < 1) ∧
  jx_AW 175 18 [some (xA 26 0), some (xI a1), some (xI a2), some (xI (m2 27 0 (a2.toNat))), some (xI (-4)), some (xI 9)] [] m2 Q))))))))))) :
    jx_Cl 175 [xA 26 0, xI a1, xI a2] m Q :=
  jx_segOk (x := 175) (cd := jx_c175) rfl (stops := [18]) 17 hv
set_option maxRecDepth 100000 in
theorem sg_175_18 (b1 : Int) (b2 : Int) (b3 : Int) (b4 : Int) (b5 : Int) (m : jx_M) (Q : Int → jx_M → Prop) (hv :
    ((b5 < 0 →
      ((0 < 1) ∧
  ((1 = 1 ∧ 0 ≤ b2 ∧ b2 < 25) ∧
  ((0 < 1) ∧
  Q b4 (jx_up m 27 0 (b2.toNat) b3))))) ∧
      (¬ (b5 < 0) →
      ((0 < 1) ∧
  ((1 = 1 ∧ 0 ≤ b2 ∧ b2 < 25) ∧
  ((0 < 1) ∧
  ((0 < 1) ∧
  jx_Cl 176 [xA 26 0, xI b1, xI b2] (jx_up m 27 0 (b2.toNat) b5) (fun z1 m1 =>
        ((z1 = 0 →
          ((jx_in (b5 + (-1))) ∧
  jx_AW 175 18 [some (xA 26 0), some (xI b1), some (xI b2), some (xI b3), some (xI b5), some (xI (b5 + (-1)))] [] m1 Q)) ∧
          (¬ (z1 = 0) →
          ((jx_in (b5 + (-1))) ∧
  jx_AW 175 18 [some (xA 26 0), some (xI b1), some (xI b2), some (xI b3), some (xI b4), some (xI (b5 + (-1)))] [] m1 Q))))))))))) :
    jx_AW 175 18 [some (xA 26 0), some (xI b1), some (xI b2), some (xI b3), some (xI b4), some (xI b5)] [] m Q :=
  jx_segOk (x := 175) (cd := jx_c175) rfl (stops := [18]) 18 hv
set_option maxRecDepth 100000 in
theorem sg_176 (a1 : Int) (a2 : Int) (m : jx_M) (Q : Int → jx_M → Prop) (hv :
    jx_AW 176 4 [some (xA 26 0), some (xI a1), some (xI a2), some (xI 0), some (xI 0)] [] m Q) :
    jx_Cl 176 [xA 26 0, xI a1, xI a2] m Q :=
  jx_segOk (x := 176) (cd := jx_c176) rfl (stops := [4]) 5 hv
set_option maxRecDepth 100000 in
theorem sg_176_4 (b1 : Int) (b2 : Int) (b3 : Int) (b4 : Int) (m : jx_M) (Q : Int → jx_M → Prop) (hv :
    ((b4 < 120 →
      ((0 < 1) ∧
  jx_Cl 146 [xA 26 0, xI b2, xI b1, xI b4] m (fun z1 m1 =>
        ((z1 = 0 →
          ((jx_in (b3 + 0)) ∧
  ((jx_in (b4 + 1)) ∧
  jx_AW 176 4 [some (xA 26 0), some (xI b1), some (xI b2), some (xI (b3 + 0)), some (xI (b4 + 1))] [] m1 Q))) ∧
          (¬ (z1 = 0) →
          ((jx_in (b3 + 1)) ∧
  ((jx_in (b4 + 1)) ∧
  jx_AW 176 4 [some (xA 26 0), some (xI b1), some (xI b2), some (xI (b3 + 1)), some (xI (b4 + 1))] [] m1 Q))))))) ∧
      (¬ (b4 < 120) →
      Q b3 m))) :
    jx_AW 176 4 [some (xA 26 0), some (xI b1), some (xI b2), some (xI b3), some (xI b4)] [] m Q :=
  jx_segOk (x := 176) (cd := jx_c176) rfl (stops := [4]) 17 hv
set_option maxRecDepth 100000 in
theorem sg_177 (a1 : Int) (a2 : Int) (m : jx_M) (Q : Int → jx_M → Prop) (hv :
    ((0 < 1) ∧
  jx_Cl 130 [xA 26 0, xI a1] m (fun z1 m1 =>
      ((z1 = 0 →
        Q (-1) m1) ∧
        (¬ (z1 = 0) →
        jx_Cl 124 [xI a2] m1 (fun z2 m2 =>
          ((z2 = 0 →
            Q (-1) m2) ∧
            (¬ (z2 = 0) →
            ((0 < 1) ∧
  jx_Cl 176 [xA 26 0, xI a1, xI a2] m2 (fun z3 m3 =>
              Q z3 m3)))))))))) :
    jx_Cl 177 [xA 26 0, xI a1, xI a2] m Q :=
  jx_segOk (x := 177) (cd := jx_c177) rfl (stops := []) 14 hv
set_option maxRecDepth 100000 in
theorem sg_178  (m : jx_M) (Q : Int → jx_M → Prop) (hv :
    ((0 < 1) ∧
  ((0 < 1) ∧
  jx_Cl 179 [xA 27 0, xA 42 0, xI 0] m (fun z1 m1 =>
      ((0 < 1) ∧
  ((0 < 1) ∧
  jx_Cl 179 [xA 28 0, xA 42 0, xI z1] m1 (fun z2 m2 =>
        ((0 < 1) ∧
  ((0 < 1) ∧
  jx_Cl 179 [xA 29 0, xA 42 0, xI z2] m2 (fun z3 m3 =>
          ((0 < 1) ∧
  ((0 < 1) ∧
  jx_Cl 179 [xA 30 0, xA 42 0, xI z3] m3 (fun z4 m4 =>
            ((0 < 1) ∧
  ((0 < 1) ∧
  jx_Cl 179 [xA 31 0, xA 42 0, xI z4] m4 (fun z5 m5 =>
              ((0 < 1) ∧
  ((0 < 1) ∧
  jx_Cl 179 [xA 32 0, xA 42 0, xI z5] m5 (fun z6 m6 =>
                ((0 < 1) ∧
  ((0 < 1) ∧
  ((1 = 1 ∧ 0 ≤ z6 ∧ z6 < 300) ∧
  ((0 < 1) ∧
  ((0 < 1) ∧
  ((jx_in (z6 + 1)) ∧
  ((0 < 1) ∧
  ((1 = 1 ∧ 0 ≤ (z6 + 1) ∧ (z6 + 1) < 300) ∧
  ((0 < 1) ∧
  ((0 < 1) ∧
  ((jx_in (z6 + 2)) ∧
  ((0 < 1) ∧
  ((1 = 1 ∧ 0 ≤ (z6 + 2) ∧ (z6 + 2) < 300) ∧
  ((0 < 1) ∧
  ((0 < 1) ∧
  ((jx_in (z6 + 3)) ∧
  ((0 < 1) ∧
  ((1 = 1 ∧ 0 ≤ (z6 + 3) ∧ (z6 + 3) < 300) ∧
  ((0 < 1) ∧
  ((0 < 1) ∧
  ((jx_in (z6 + 4)) ∧
  ((0 < 1) ∧
  ((1 = 1 ∧ 0 ≤ (z6 + 4) ∧ (z6 + 4) < 300) ∧
  ((0 < 1) ∧
  ((0 < 1) ∧
  (((1 : Int) = 0 ∨ (1 : Int) = 1) ∧
  Q 1 (jx_up (jx_up (jx_up (jx_up (jx_up (jx_up m6 42 0 (z6.toNat) (m6 26 0 1)) 42 0 ((z6 + 1).toNat) ((jx_up m6 42 0 (z6.toNat) (m6 26 0 1)) 26 0 5)) 42 0 ((z6 + 2).toNat) ((jx_up (jx_up m6 42 0 (z6.toNat) (m6 26 0 1)) 42 0 ((z6 + 1).toNat) ((jx_up m6 42 0 (z6.toNat) (m6 26 0 1)) 26 0 5)) 26 0 6)) 42 0 ((z6 + 3).toNat) ((jx_up (jx_up (jx_up m6 42 0 (z6.toNat) (m6 26 0 1)) 42 0 ((z6 + 1).toNat) ((jx_up m6 42 0 (z6.toNat) (m6 26 0 1)) 26 0 5)) 42 0 ((z6 + 2).toNat) ((jx_up (jx_up m6 42 0 (z6.toNat) (m6 26 0 1)) 42 0 ((z6 + 1).toNat) ((jx_up m6 42 0 (z6.toNat) (m6 26 0 1)) 26 0 5)) 26 0 6)) 26 0 7)) 42 0 ((z6 + 4).toNat) ((jx_up (jx_up (jx_up (jx_up m6 42 0 (z6.toNat) (m6 26 0 1)) 42 0 ((z6 + 1).toNat) ((jx_up m6 42 0 (z6.toNat) (m6 26 0 1)) 26 0 5)) 42 0 ((z6 + 2).toNat) ((jx_up (jx_up m6 42 0 (z6.toNat) (m6 26 0 1)) 42 0 ((z6 + 1).toNat) ((jx_up m6 42 0 (z6.toNat) (m6 26 0 1)) 26 0 5)) 26 0 6)) 42 0 ((z6 + 3).toNat) ((jx_up (jx_up (jx_up m6 42 0 (z6.toNat) (m6 26 0 1)) 42 0 ((z6 + 1).toNat) ((jx_up m6 42 0 (z6.toNat) (m6 26 0 1)) 26 0 5)) 42 0 ((z6 + 2).toNat) ((jx_up (jx_up m6 42 0 (z6.toNat) (m6 26 0 1)) 42 0 ((z6 + 1).toNat) ((jx_up m6 42 0 (z6.toNat) (m6 26 0 1)) 26 0 5)) 26 0 6)) 26 0 7)) 26 0 9)) 26 0 27 1)))))))))))))))))))))))))))))))))))))))))))))) :
    jx_Cl 178 [xA 26 0] m Q :=
  jx_segOk (x := 178) (cd := jx_c178) rfl (stops := []) 86 hv
set_option maxRecDepth 100000 in
theorem sg_179_Mnoises_Mimage (a3 : Int) (m : jx_M) (Q : Int → jx_M → Prop) (hv :
    jx_AW 179 2 [some (xA 27 0), some (xA 42 0), some (xI a3), some (xI 0)] [] m Q) :
    jx_Cl 179 [xA 27 0, xA 42 0, xI a3] m Q :=
  jx_segOk (x := 179) (cd := jx_c179) rfl (stops := [2]) 3 hv
set_option maxRecDepth 100000 in
theorem sg_179_Mnoises_Mimage_2 (b2 : Int) (b3 : Int) (m : jx_M) (Q : Int → jx_M → Prop) (hv :
    ((1 = 1) ∧
  ((0 < 1) ∧
  ((b3 < 25 →
      ((jx_in (b2 + b3)) ∧
  ((1 = 1 ∧ 0 ≤ b3 ∧ b3 < 25) ∧
  ((0 < 1) ∧
  ((1 = 1 ∧ 0 ≤ (b2 + b3) ∧ (b2 + b3) < 300) ∧
  ((0 < 1) ∧
  ((jx_in (b3 + 1)) ∧
  jx_AW 179 2 [some (xA 27 0), some (xA 42 0), some (xI b2), some (xI (b3 + 1))] [] (jx_up m 42 0 ((b2 + b3).toNat) (m 27 0 (b3.toNat))) Q))))))) ∧
      (¬ (b3 < 25) →
      ((1 = 1) ∧
  ((0 < 1) ∧
  ((jx_in (b2 + 25)) ∧
  Q (b2 + 25) m)))))))) :
    jx_AW 179 2 [some (xA 27 0), some (xA 42 0), some (xI b2), some (xI b3)] [] m Q :=
  jx_segOk (x := 179) (cd := jx_c179) rfl (stops := [2]) 15 hv
set_option maxRecDepth 100000 in
theorem sg_179_Mparts_Mimage (a3 : Int) (m : jx_M) (Q : Int → jx_M → Prop) (hv :
    jx_AW 179 2 [some (xA 28 0), some (xA 42 0), some (xI a3), some (xI 0)] [] m Q) :
    jx_Cl 179 [xA 28 0, xA 42 0, xI a3] m Q :=
  jx_segOk (x := 179) (cd := jx_c179) rfl (stops := [2]) 3 hv
set_option maxRecDepth 100000 in
theorem sg_179_Mparts_Mimage_2 (b2 : Int) (b3 : Int) (m : jx_M) (Q : Int → jx_M → Prop) (hv :
    ((1 = 1) ∧
  ((0 < 1) ∧
  ((b3 < 24 →
      ((jx_in (b2 + b3)) ∧
  ((1 = 1 ∧ 0 ≤ b3 ∧ b3 < 24) ∧
  ((0 < 1) ∧
  ((1 = 1 ∧ 0 ≤ (b2 + b3) ∧ (b2 + b3) < 300) ∧
  ((0 < 1) ∧
  ((jx_in (b3 + 1)) ∧
  jx_AW 179 2 [some (xA 28 0), some (xA 42 0), some (xI b2), some (xI (b3 + 1))] [] (jx_up m 42 0 ((b2 + b3).toNat) (m 28 0 (b3.toNat))) Q))))))) ∧
      (¬ (b3 < 24) →
      ((1 = 1) ∧
  ((0 < 1) ∧
  ((jx_in (b2 + 24)) ∧
  Q (b2 + 24) m)))))))) :
    jx_AW 179 2 [some (xA 28 0), some (xA 42 0), some (xI b2), some (xI b3)] [] m Q :=
  jx_segOk (x := 179) (cd := jx_c179) rfl (stops := [2]) 15 hv
set_option maxRecDepth 100000 in
theorem sg_179_Mrounds_Mimage (a3 : Int) (m : jx_M) (Q : Int → jx_M → Prop) (hv :
    jx_AW 179 2 [some (xA 29 0), some (xA 42 0), some (xI a3), some (xI 0)] [] m Q) :
    jx_Cl 179 [xA 29 0, xA 42 0, xI a3] m Q :=
  jx_segOk (x := 179) (cd := jx_c179) rfl (stops := [2]) 3 hv
set_option maxRecDepth 100000 in
theorem sg_179_Mrounds_Mimage_2 (b2 : Int) (b3 : Int) (m : jx_M) (Q : Int → jx_M → Prop) (hv :
    ((1 = 1) ∧
  ((0 < 1) ∧
  ((b3 < 78 →
      ((jx_in (b2 + b3)) ∧
  ((1 = 1 ∧ 0 ≤ b3 ∧ b3 < 78) ∧
  ((0 < 1) ∧
  ((1 = 1 ∧ 0 ≤ (b2 + b3) ∧ (b2 + b3) < 300) ∧
  ((0 < 1) ∧
  ((jx_in (b3 + 1)) ∧
  jx_AW 179 2 [some (xA 29 0), some (xA 42 0), some (xI b2), some (xI (b3 + 1))] [] (jx_up m 42 0 ((b2 + b3).toNat) (m 29 0 (b3.toNat))) Q))))))) ∧
      (¬ (b3 < 78) →
      ((1 = 1) ∧
  ((0 < 1) ∧
  ((jx_in (b2 + 78)) ∧
  Q (b2 + 78) m)))))))) :
    jx_AW 179 2 [some (xA 29 0), some (xA 42 0), some (xI b2), some (xI b3)] [] m Q :=
  jx_segOk (x := 179) (cd := jx_c179) rfl (stops := [2]) 15 hv
set_option maxRecDepth 100000 in
theorem sg_179_Mtunes_Mimage (a3 : Int) (m : jx_M) (Q : Int → jx_M → Prop) (hv :
    jx_AW 179 2 [some (xA 30 0), some (xA 42 0), some (xI a3), some (xI 0)] [] m Q) :
    jx_Cl 179 [xA 30 0, xA 42 0, xI a3] m Q :=
  jx_segOk (x := 179) (cd := jx_c179) rfl (stops := [2]) 3 hv
set_option maxRecDepth 100000 in
theorem sg_179_Mtunes_Mimage_2 (b2 : Int) (b3 : Int) (m : jx_M) (Q : Int → jx_M → Prop) (hv :
    ((1 = 1) ∧
  ((0 < 1) ∧
  ((b3 < 42 →
      ((jx_in (b2 + b3)) ∧
  ((1 = 1 ∧ 0 ≤ b3 ∧ b3 < 42) ∧
  ((0 < 1) ∧
  ((1 = 1 ∧ 0 ≤ (b2 + b3) ∧ (b2 + b3) < 300) ∧
  ((0 < 1) ∧
  ((jx_in (b3 + 1)) ∧
  jx_AW 179 2 [some (xA 30 0), some (xA 42 0), some (xI b2), some (xI (b3 + 1))] [] (jx_up m 42 0 ((b2 + b3).toNat) (m 30 0 (b3.toNat))) Q))))))) ∧
      (¬ (b3 < 42) →
      ((1 = 1) ∧
  ((0 < 1) ∧
  ((jx_in (b2 + 42)) ∧
  Q (b2 + 42) m)))))))) :
    jx_AW 179 2 [some (xA 30 0), some (xA 42 0), some (xI b2), some (xI b3)] [] m Q :=
  jx_segOk (x := 179) (cd := jx_c179) rfl (stops := [2]) 15 hv
set_option maxRecDepth 100000 in
theorem sg_179_Mwants_Mimage (a3 : Int) (m : jx_M) (Q : Int → jx_M → Prop) (hv :
    jx_AW 179 2 [some (xA 31 0), some (xA 42 0), some (xI a3), some (xI 0)] [] m Q) :
    jx_Cl 179 [xA 31 0, xA 42 0, xI a3] m Q :=
  jx_segOk (x := 179) (cd := jx_c179) rfl (stops := [2]) 3 hv
set_option maxRecDepth 100000 in
theorem sg_179_Mwants_Mimage_2 (b2 : Int) (b3 : Int) (m : jx_M) (Q : Int → jx_M → Prop) (hv :
    ((1 = 1) ∧
  ((0 < 1) ∧
  ((b3 < 48 →
      ((jx_in (b2 + b3)) ∧
  ((1 = 1 ∧ 0 ≤ b3 ∧ b3 < 48) ∧
  ((0 < 1) ∧
  ((1 = 1 ∧ 0 ≤ (b2 + b3) ∧ (b2 + b3) < 300) ∧
  ((0 < 1) ∧
  ((jx_in (b3 + 1)) ∧
  jx_AW 179 2 [some (xA 31 0), some (xA 42 0), some (xI b2), some (xI (b3 + 1))] [] (jx_up m 42 0 ((b2 + b3).toNat) (m 31 0 (b3.toNat))) Q))))))) ∧
      (¬ (b3 < 48) →
      ((1 = 1) ∧
  ((0 < 1) ∧
  ((jx_in (b2 + 48)) ∧
  Q (b2 + 48) m)))))))) :
    jx_AW 179 2 [some (xA 31 0), some (xA 42 0), some (xI b2), some (xI b3)] [] m Q :=
  jx_segOk (x := 179) (cd := jx_c179) rfl (stops := [2]) 15 hv
set_option maxRecDepth 100000 in
theorem sg_179_Mnoted_Mimage (a3 : Int) (m : jx_M) (Q : Int → jx_M → Prop) (hv :
    jx_AW 179 2 [some (xA 32 0), some (xA 42 0), some (xI a3), some (xI 0)] [] m Q) :
    jx_Cl 179 [xA 32 0, xA 42 0, xI a3] m Q :=
  jx_segOk (x := 179) (cd := jx_c179) rfl (stops := [2]) 3 hv
set_option maxRecDepth 100000 in
theorem sg_179_Mnoted_Mimage_2 (b2 : Int) (b3 : Int) (m : jx_M) (Q : Int → jx_M → Prop) (hv :
    ((1 = 1) ∧
  ((0 < 1) ∧
  ((b3 < 36 →
      ((jx_in (b2 + b3)) ∧
  ((1 = 1 ∧ 0 ≤ b3 ∧ b3 < 36) ∧
  ((0 < 1) ∧
  ((1 = 1 ∧ 0 ≤ (b2 + b3) ∧ (b2 + b3) < 300) ∧
  ((0 < 1) ∧
  ((jx_in (b3 + 1)) ∧
  jx_AW 179 2 [some (xA 32 0), some (xA 42 0), some (xI b2), some (xI (b3 + 1))] [] (jx_up m 42 0 ((b2 + b3).toNat) (m 32 0 (b3.toNat))) Q))))))) ∧
      (¬ (b3 < 36) →
      ((1 = 1) ∧
  ((0 < 1) ∧
  ((jx_in (b2 + 36)) ∧
  Q (b2 + 36) m)))))))) :
    jx_AW 179 2 [some (xA 32 0), some (xA 42 0), some (xI b2), some (xI b3)] [] m Q :=
  jx_segOk (x := 179) (cd := jx_c179) rfl (stops := [2]) 15 hv
set_option maxRecDepth 100000 in
theorem sg_180  (m : jx_M) (Q : Int → jx_M → Prop) (hv :
    ((0 < 1) ∧
  (((m 26 0 27) = 0 →
      Q (-4) m) ∧
      (¬ ((m 26 0 27) = 0) →
      ((0 < 1) ∧
  ((0 < 1) ∧
  jx_Cl 181 [xA 42 0, xI 0, xA 27 0] m (fun z1 m1 =>
        ((0 < 1) ∧
  ((0 < 1) ∧
  jx_Cl 181 [xA 42 0, xI z1, xA 28 0] m1 (fun z2 m2 =>
          ((0 < 1) ∧
  ((0 < 1) ∧
  jx_Cl 181 [xA 42 0, xI z2, xA 29 0] m2 (fun z3 m3 =>
            ((0 < 1) ∧
  ((0 < 1) ∧
  jx_Cl 181 [xA 42 0, xI z3, xA 30 0] m3 (fun z4 m4 =>
              ((0 < 1) ∧
  ((0 < 1) ∧
  jx_Cl 181 [xA 42 0, xI z4, xA 31 0] m4 (fun z5 m5 =>
                ((0 < 1) ∧
  ((0 < 1) ∧
  jx_Cl 181 [xA 42 0, xI z5, xA 32 0] m5 (fun z6 m6 =>
                  ((0 < 1) ∧
  ((1 = 1 ∧ 0 ≤ z6 ∧ z6 < 300) ∧
  ((0 < 1) ∧
  ((0 < 1) ∧
  ((0 < 1) ∧
  ((jx_in (z6 + 1)) ∧
  ((1 = 1 ∧ 0 ≤ (z6 + 1) ∧ (z6 + 1) < 300) ∧
  ((0 < 1) ∧
  ((0 < 1) ∧
  ((0 < 1) ∧
  ((jx_in (z6 + 2)) ∧
  ((1 = 1 ∧ 0 ≤ (z6 + 2) ∧ (z6 + 2) < 300) ∧
  ((0 < 1) ∧
  ((0 < 1) ∧
  ((0 < 1) ∧
  ((jx_in (z6 + 3)) ∧
  ((1 = 1 ∧ 0 ≤ (z6 + 3) ∧ (z6 + 3) < 300) ∧
  ((0 < 1) ∧
  ((0 < 1) ∧
  ((0 < 1) ∧
  ((jx_in (z6 + 4)) ∧
  ((1 = 1 ∧ 0 ≤ (z6 + 4) ∧ (z6 + 4) < 300) ∧
  ((0 < 1) ∧
  ((0 < 1) ∧
  Q 1 (jx_up (jx_up (jx_up (jx_up (jx_up m6 26 0 1 (m6 42 0 (z6.toNat))) 26 0 5 ((jx_up m6 26 0 1 (m6 42 0 (z6.toNat))) 42 0 ((z6 + 1).toNat))) 26 0 6 ((jx_up (jx_up m6 26 0 1 (m6 42 0 (z6.toNat))) 26 0 5 ((jx_up m6 26 0 1 (m6 42 0 (z6.toNat))) 42 0 ((z6 + 1).toNat))) 42 0 ((z6 + 2).toNat))) 26 0 7 ((jx_up (jx_up (jx_up m6 26 0 1 (m6 42 0 (z6.toNat))) 26 0 5 ((jx_up m6 26 0 1 (m6 42 0 (z6.toNat))) 42 0 ((z6 + 1).toNat))) 26 0 6 ((jx_up (jx_up m6 26 0 1 (m6 42 0 (z6.toNat))) 26 0 5 ((jx_up m6 26 0 1 (m6 42 0 (z6.toNat))) 42 0 ((z6 + 1).toNat))) 42 0 ((z6 + 2).toNat))) 42 0 ((z6 + 3).toNat))) 26 0 9 ((jx_up (jx_up (jx_up (jx_up m6 26 0 1 (m6 42 0 (z6.toNat))) 26 0 5 ((jx_up m6 26 0 1 (m6 42 0 (z6.toNat))) 42 0 ((z6 + 1).toNat))) 26 0 6 ((jx_up (jx_up m6 26 0 1 (m6 42 0 (z6.toNat))) 26 0 5 ((jx_up m6 26 0 1 (m6 42 0 (z6.toNat))) 42 0 ((z6 + 1).toNat))) 42 0 ((z6 + 2).toNat))) 26 0 7 ((jx_up (jx_up (jx_up m6 26 0 1 (m6 42 0 (z6.toNat))) 26 0 5 ((jx_up m6 26 0 1 (m6 42 0 (z6.toNat))) 42 0 ((z6 + 1).toNat))) 26 0 6 ((jx_up (jx_up m6 26 0 1 (m6 42 0 (z6.toNat))) 26 0 5 ((jx_up m6 26 0 1 (m6 42 0 (z6.toNat))) 42 0 ((z6 + 1).toNat))) 42 0 ((z6 + 2).toNat))) 42 0 ((z6 + 3).toNat))) 42 0 ((z6 + 4).toNat))))))))))))))))))))))))))))))))))))))))))))))))) :
    jx_Cl 180 [xA 26 0] m Q :=
  jx_segOk (x := 180) (cd := jx_c180) rfl (stops := []) 86 hv
set_option maxRecDepth 100000 in
theorem sg_181_Mimage_Mnoises (a2 : Int) (m : jx_M) (Q : Int → jx_M → Prop) (hv :
    jx_AW 181 2 [some (xA 42 0), some (xI a2), some (xA 27 0), some (xI 0)] [] m Q) :
    jx_Cl 181 [xA 42 0, xI a2, xA 27 0] m Q :=
  jx_segOk (x := 181) (cd := jx_c181) rfl (stops := [2]) 3 hv
set_option maxRecDepth 100000 in
theorem sg_181_Mimage_Mnoises_2 (b1 : Int) (b3 : Int) (m : jx_M) (Q : Int → jx_M → Prop) (hv :
    ((1 = 1) ∧
  ((0 < 1) ∧
  ((b3 < 25 →
      ((jx_in (b1 + b3)) ∧
  ((1 = 1 ∧ 0 ≤ (b1 + b3) ∧ (b1 + b3) < 300) ∧
  ((0 < 1) ∧
  ((1 = 1 ∧ 0 ≤ b3 ∧ b3 < 25) ∧
  ((0 < 1) ∧
  ((jx_in (b3 + 1)) ∧
  jx_AW 181 2 [some (xA 42 0), some (xI b1), some (xA 27 0), some (xI (b3 + 1))] [] (jx_up m 27 0 (b3.toNat) (m 42 0 ((b1 + b3).toNat))) Q))))))) ∧
      (¬ (b3 < 25) →
      ((1 = 1) ∧
  ((0 < 1) ∧
  ((jx_in (b1 + 25)) ∧
  Q (b1 + 25) m)))))))) :
    jx_AW 181 2 [some (xA 42 0), some (xI b1), some (xA 27 0), some (xI b3)] [] m Q :=
  jx_segOk (x := 181) (cd := jx_c181) rfl (stops := [2]) 15 hv
set_option maxRecDepth 100000 in
theorem sg_181_Mimage_Mparts (a2 : Int) (m : jx_M) (Q : Int → jx_M → Prop) (hv :
    jx_AW 181 2 [some (xA 42 0), some (xI a2), some (xA 28 0), some (xI 0)] [] m Q) :
    jx_Cl 181 [xA 42 0, xI a2, xA 28 0] m Q :=
  jx_segOk (x := 181) (cd := jx_c181) rfl (stops := [2]) 3 hv
set_option maxRecDepth 100000 in
theorem sg_181_Mimage_Mparts_2 (b1 : Int) (b3 : Int) (m : jx_M) (Q : Int → jx_M → Prop) (hv :
    ((1 = 1) ∧
  ((0 < 1) ∧
  ((b3 < 24 →
      ((jx_in (b1 + b3)) ∧
  ((1 = 1 ∧ 0 ≤ (b1 + b3) ∧ (b1 + b3) < 300) ∧
  ((0 < 1) ∧
  ((1 = 1 ∧ 0 ≤ b3 ∧ b3 < 24) ∧
  ((0 < 1) ∧
  ((jx_in (b3 + 1)) ∧
  jx_AW 181 2 [some (xA 42 0), some (xI b1), some (xA 28 0), some (xI (b3 + 1))] [] (jx_up m 28 0 (b3.toNat) (m 42 0 ((b1 + b3).toNat))) Q))))))) ∧
      (¬ (b3 < 24) →
      ((1 = 1) ∧
  ((0 < 1) ∧
  ((jx_in (b1 + 24)) ∧
  Q (b1 + 24) m)))))))) :
    jx_AW 181 2 [some (xA 42 0), some (xI b1), some (xA 28 0), some (xI b3)] [] m Q :=
  jx_segOk (x := 181) (cd := jx_c181) rfl (stops := [2]) 15 hv
set_option maxRecDepth 100000 in
theorem sg_181_Mimage_Mrounds (a2 : Int) (m : jx_M) (Q : Int → jx_M → Prop) (hv :
    jx_AW 181 2 [some (xA 42 0), some (xI a2), some (xA 29 0), some (xI 0)] [] m Q) :
    jx_Cl 181 [xA 42 0, xI a2, xA 29 0] m Q :=
  jx_segOk (x := 181) (cd := jx_c181) rfl (stops := [2]) 3 hv
set_option maxRecDepth 100000 in
theorem sg_181_Mimage_Mrounds_2 (b1 : Int) (b3 : Int) (m : jx_M) (Q : Int → jx_M → Prop) (hv :
    ((1 = 1) ∧
  ((0 < 1) ∧
  ((b3 < 78 →
      ((jx_in (b1 + b3)) ∧
  ((1 = 1 ∧ 0 ≤ (b1 + b3) ∧ (b1 + b3) < 300) ∧
  ((0 < 1) ∧
  ((1 = 1 ∧ 0 ≤ b3 ∧ b3 < 78) ∧
  ((0 < 1) ∧
  ((jx_in (b3 + 1)) ∧
  jx_AW 181 2 [some (xA 42 0), some (xI b1), some (xA 29 0), some (xI (b3 + 1))] [] (jx_up m 29 0 (b3.toNat) (m 42 0 ((b1 + b3).toNat))) Q))))))) ∧
      (¬ (b3 < 78) →
      ((1 = 1) ∧
  ((0 < 1) ∧
  ((jx_in (b1 + 78)) ∧
  Q (b1 + 78) m)))))))) :
    jx_AW 181 2 [some (xA 42 0), some (xI b1), some (xA 29 0), some (xI b3)] [] m Q :=
  jx_segOk (x := 181) (cd := jx_c181) rfl (stops := [2]) 15 hv
set_option maxRecDepth 100000 in
theorem sg_181_Mimage_Mtunes (a2 : Int) (m : jx_M) (Q : Int → jx_M → Prop) (hv :
    jx_AW 181 2 [some (xA 42 0), some (xI a2), some (xA 30 0), some (xI 0)] [] m Q) :
    jx_Cl 181 [xA 42 0, xI a2, xA 30 0] m Q :=
  jx_segOk (x := 181) (cd := jx_c181) rfl (stops := [2]) 3 hv
set_option maxRecDepth 100000 in
theorem sg_181_Mimage_Mtunes_2 (b1 : Int) (b3 : Int) (m : jx_M) (Q : Int → jx_M → Prop) (hv :
    ((1 = 1) ∧
  ((0 < 1) ∧
  ((b3 < 42 →
      ((jx_in (b1 + b3)) ∧
  ((1 = 1 ∧ 0 ≤ (b1 + b3) ∧ (b1 + b3) < 300) ∧
  ((0 < 1) ∧
  ((1 = 1 ∧ 0 ≤ b3 ∧ b3 < 42) ∧
  ((0 < 1) ∧
  ((jx_in (b3 + 1)) ∧
  jx_AW 181 2 [some (xA 42 0), some (xI b1), some (xA 30 0), some (xI (b3 + 1))] [] (jx_up m 30 0 (b3.toNat) (m 42 0 ((b1 + b3).toNat))) Q))))))) ∧
      (¬ (b3 < 42) →
      ((1 = 1) ∧
  ((0 < 1) ∧
  ((jx_in (b1 + 42)) ∧
  Q (b1 + 42) m)))))))) :
    jx_AW 181 2 [some (xA 42 0), some (xI b1), some (xA 30 0), some (xI b3)] [] m Q :=
  jx_segOk (x := 181) (cd := jx_c181) rfl (stops := [2]) 15 hv
set_option maxRecDepth 100000 in
theorem sg_181_Mimage_Mwants (a2 : Int) (m : jx_M) (Q : Int → jx_M → Prop) (hv :
    jx_AW 181 2 [some (xA 42 0), some (xI a2), some (xA 31 0), some (xI 0)] [] m Q) :
    jx_Cl 181 [xA 42 0, xI a2, xA 31 0] m Q :=
  jx_segOk (x := 181) (cd := jx_c181) rfl (stops := [2]) 3 hv
set_option maxRecDepth 100000 in
theorem sg_181_Mimage_Mwants_2 (b1 : Int) (b3 : Int) (m : jx_M) (Q : Int → jx_M → Prop) (hv :
    ((1 = 1) ∧
  ((0 < 1) ∧
  ((b3 < 48 →
      ((jx_in (b1 + b3)) ∧
  ((1 = 1 ∧ 0 ≤ (b1 + b3) ∧ (b1 + b3) < 300) ∧
  ((0 < 1) ∧
  ((1 = 1 ∧ 0 ≤ b3 ∧ b3 < 48) ∧
  ((0 < 1) ∧
  ((jx_in (b3 + 1)) ∧
  jx_AW 181 2 [some (xA 42 0), some (xI b1), some (xA 31 0), some (xI (b3 + 1))] [] (jx_up m 31 0 (b3.toNat) (m 42 0 ((b1 + b3).toNat))) Q))))))) ∧
      (¬ (b3 < 48) →
      ((1 = 1) ∧
  ((0 < 1) ∧
  ((jx_in (b1 + 48)) ∧
  Q (b1 + 48) m)))))))) :
    jx_AW 181 2 [some (xA 42 0), some (xI b1), some (xA 31 0), some (xI b3)] [] m Q :=
  jx_segOk (x := 181) (cd := jx_c181) rfl (stops := [2]) 15 hv
set_option maxRecDepth 100000 in
theorem sg_181_Mimage_Mnoted (a2 : Int) (m : jx_M) (Q : Int → jx_M → Prop) (hv :
    jx_AW 181 2 [some (xA 42 0), some (xI a2), some (xA 32 0), some (xI 0)] [] m Q) :
    jx_Cl 181 [xA 42 0, xI a2, xA 32 0] m Q :=
  jx_segOk (x := 181) (cd := jx_c181) rfl (stops := [2]) 3 hv
set_option maxRecDepth 100000 in
theorem sg_181_Mimage_Mnoted_2 (b1 : Int) (b3 : Int) (m : jx_M) (Q : Int → jx_M → Prop) (hv :
    ((1 = 1) ∧
  ((0 < 1) ∧
  ((b3 < 36 →
      ((jx_in (b1 + b3)) ∧
  ((1 = 1 ∧ 0 ≤ (b1 + b3) ∧ (b1 + b3) < 300) ∧
  ((0 < 1) ∧
  ((1 = 1 ∧ 0 ≤ b3 ∧ b3 < 36) ∧
  ((0 < 1) ∧
  ((jx_in (b3 + 1)) ∧
  jx_AW 181 2 [some (xA 42 0), some (xI b1), some (xA 32 0), some (xI (b3 + 1))] [] (jx_up m 32 0 (b3.toNat) (m 42 0 ((b1 + b3).toNat))) Q))))))) ∧
      (¬ (b3 < 36) →
      ((1 = 1) ∧
  ((0 < 1) ∧
  ((jx_in (b1 + 36)) ∧
  Q (b1 + 36) m)))))))) :
    jx_AW 181 2 [some (xA 42 0), some (xI b1), some (xA 32 0), some (xI b3)] [] m Q :=
  jx_segOk (x := 181) (cd := jx_c181) rfl (stops := [2]) 15 hv
set_option maxRecDepth 100000 in
theorem sg_182 (a1 : Int) (a2 : Int) (a3 : Int) (a4 : Int) (a5 : Int) (a6 : Int) (m : jx_M) (Q : Int → jx_M → Prop) (hv :
    jx_Cl 183 [xI a1] m (fun z1 m1 =>
      ((z1 = 0 →
        Q (-1) m1) ∧
        (¬ (z1 = 0) →
        jx_Cl 184 [xI a2] m1 (fun z2 m2 =>
          ((z2 = 0 →
            Q (-1) m2) ∧
            (¬ (z2 = 0) →
            jx_Cl 125 [xL a4, xL 1, xL 6] m2 (fun z3 m3 =>
              ((z3 = 0 →
                Q (-1) m3) ∧
                (¬ (z3 = 0) →
                jx_Cl 125 [xL a5, xL 1, xL 6] m3 (fun z4 m4 =>
                  ((z4 = 0 →
                    Q (-1) m4) ∧
                    (¬ (z4 = 0) →
                    ((jx_in (a5 - 1)) ∧
  jx_Cl 125 [xL a6, xL (-1), xL (a5 - 1)] m4 (fun z5 m5 =>
                      ((z5 = 0 →
                        Q (-1) m5) ∧
                        (¬ (z5 = 0) →
                        ((jx_in (a4 * a5)) ∧
  ((0 < 1) ∧
  jx_Cl 185 [xA 26 0, xI a1, xI a2, xI a3, xI (a4 * a5)] m5 (fun z6 m6 =>
                          ((z6 < 0 →
                            Q z6 m6) ∧
                            (¬ (z6 < 0) →
                            ((jx_in (24 * a1)) ∧
  ((jx_in ((24 * a1) + a3)) ∧
  jx_AW 182 50 [some (xA 26 0), some (xI a1), some (xI a2), some (xI a3), some (xI a4), some (xI a5), some (xI a6), some (xI z6), some (xI ((24 * a1) + a3)), some (xI 0), none, none, none, none] [] m6 Q)))))))))))))))))))))))) :
    jx_Cl 182 [xA 26 0, xI a1, xI a2, xI a3, xI a4, xI a5, xI a6] m Q :=
  jx_segOk (x := 182) (cd := jx_c182) rfl (stops := [50, 72, 79, 86]) 47 hv
set_option maxRecDepth 100000 in
theorem sg_182_50 (b1 : Int) (b2 : Int) (b3 : Int) (b4 : Int) (b5 : Int) (b6 : Int) (b7 : Int) (b8 : Int) (b9 : Int) (w10 : Option jx_V) (w11 : Option jx_V) (w12 : Option jx_V) (w13 : Option jx_V) (m : jx_M) (Q : Int → jx_M → Prop) (hv :
    ((jx_in (b4 * b5)) ∧
  ((b9 < (b4 * b5) →
      ((0 < 1) ∧
  ((jx_in (b8 + b9)) ∧
  ((1 = 1 ∧ 0 ≤ (b8 + b9) ∧ (b8 + b9) < 96) ∧
  ((0 < 1) ∧
  jx_Cl 125 [xL (m 45 0 ((b8 + b9).toNat)), xL 0, xL 9] m (fun z1 m1 =>
        ((z1 = 0 →
          Q (-2) m1) ∧
          (¬ (z1 = 0) →
          ((jx_in (b9 + 1)) ∧
  jx_AW 182 50 [some (xA 26 0), some (xI b1), some (xI b2), some (xI b3), some (xI b4), some (xI b5), some (xI b6), some (xI b7), some (xI b8), some (xI (b9 + 1)), w10, w11, w12, w13] [] m1 Q))))))))) ∧
      (¬ (b9 < (b4 * b5)) →
      jx_AW 182 72 [some (xA 26 0), some (xI b1), some (xI b2), some (xI b3), some (xI b4), some (xI b5), some (xI b6), some (xI b7), some (xI b8), some (xI 0), w10, w11, w12, w13] [] m Q)))) :
    jx_AW 182 50 [some (xA 26 0), some (xI b1), some (xI b2), some (xI b3), some (xI b4), some (xI b5), some (xI b6), some (xI b7), some (xI b8), some (xI b9), w10, w11, w12, w13] [] m Q :=
  jx_segOk (x := 182) (cd := jx_c182) rfl (stops := [50, 72, 79, 86]) 19 hv
set_option maxRecDepth 100000 in
theorem sg_182_72 (b1 : Int) (b2 : Int) (b3 : Int) (b4 : Int) (b5 : Int) (b6 : Int) (b7 : Int) (b8 : Int) (b9 : Int) (w10 : Option jx_V) (w11 : Option jx_V) (w12 : Option jx_V) (w13 : Option jx_V) (m : jx_M) (Q : Int → jx_M → Prop) (hv :
    ((b9 < b5 →
      jx_AW 182 79 [some (xA 26 0), some (xI b1), some (xI b2), some (xI b3), some (xI b4), some (xI b5), some (xI b6), some (xI b7), some (xI b8), some (xI b9), some (xI 0), some (xI 0), w12, w13] [] m Q) ∧
      (¬ (b9 < b5) →
      ((b6 < 0 →
        ((0 < 1) ∧
  jx_Cl 167 [xA 26 0, xI b5] m (fun z1 m1 =>
          ((0 < 1) ∧
  Q (m1 26 0 25) m1)))) ∧
        (¬ (b6 < 0) →
        ((0 < 1) ∧
  ((1 = 1 ∧ 0 ≤ b6 ∧ b6 < 6) ∧
  ((0 < 1) ∧
  Q (m 41 0 (b6.toNat)) m)))))))) :
    jx_AW 182 72 [some (xA 26 0), some (xI b1), some (xI b2), some (xI b3), some (xI b4), some (xI b5), some (xI b6), some (xI b7), some (xI b8), some (xI b9), w10, w11, w12, w13] [] m Q :=
  jx_segOk (x := 182) (cd := jx_c182) rfl (stops := [50, 72, 79, 86]) 13 hv
set_option maxRecDepth 100000 in
theorem sg_182_79 (b1 : Int) (b2 : Int) (b3 : Int) (b4 : Int) (b5 : Int) (b6 : Int) (b7 : Int) (b8 : Int) (b9 : Int) (b10 : Int) (b11 : Int) (w12 : Option jx_V) (w13 : Option jx_V) (m : jx_M) (Q : Int → jx_M → Prop) (hv :
    ((b11 < 10 →
      jx_AW 182 86 [some (xA 26 0), some (xI b1), some (xI b2), some (xI b3), some (xI b4), some (xI b5), some (xI b6), some (xI b7), some (xI b8), some (xI b9), some (xI b10), some (xI b11), some (xI 0), some (xI 0)] [] m Q) ∧
      (¬ (b11 < 10) →
      ((jx_in (b9 + 1)) ∧
  jx_AW 182 72 [some (xA 26 0), some (xI b1), some (xI b2), some (xI b3), some (xI b4), some (xI b5), some (xI b6), some (xI b7), some (xI b8), some (xI (b9 + 1)), some (xI b10), some (xI b11), w12, w13] [] m Q)))) :
    jx_AW 182 79 [some (xA 26 0), some (xI b1), some (xI b2), some (xI b3), some (xI b4), some (xI b5), some (xI b6), some (xI b7), some (xI b8), some (xI b9), some (xI b10), some (xI b11), w12, w13] [] m Q :=
  jx_segOk (x := 182) (cd := jx_c182) rfl (stops := [50, 72, 79, 86]) 8 hv
set_option maxRecDepth 100000 in
theorem sg_182_86 (b1 : Int) (b2 : Int) (b3 : Int) (b4 : Int) (b5 : Int) (b6 : Int) (b7 : Int) (b8 : Int) (b9 : Int) (b10 : Int) (b11 : Int) (b12 : Int) (b13 : Int) (m : jx_M) (Q : Int → jx_M → Prop) (hv :
    ((b13 < b4 →
      ((0 < 1) ∧
  ((jx_in (b5 * b13)) ∧
  ((jx_in (b8 + (b5 * b13))) ∧
  ((jx_in ((b8 + (b5 * b13)) + b9)) ∧
  ((1 = 1 ∧ 0 ≤ ((b8 + (b5 * b13)) + b9) ∧ ((b8 + (b5 * b13)) + b9) < 96) ∧
  ((0 < 1) ∧
  (((m 45 0 (((b8 + (b5 * b13)) + b9).toNat)) = b11 →
        ((jx_in (b12 + 1)) ∧
  ((jx_in (b13 + 1)) ∧
  jx_AW 182 86 [some (xA 26 0), some (xI b1), some (xI b2), some (xI b3), some (xI b4), some (xI b5), some (xI b6), some (xI b7), some (xI b8), some (xI b9), some (xI b10), some (xI b11), some (xI (b12 + 1)), some (xI (b13 + 1))] [] m Q))) ∧
        (¬ ((m 45 0 (((b8 + (b5 * b13)) + b9).toNat)) = b11) →
        ((jx_in (b12 + 0)) ∧
  ((jx_in (b13 + 1)) ∧
  jx_AW 182 86 [some (xA 26 0), some (xI b1), some (xI b2), some (xI b3), some (xI b4), some (xI b5), some (xI b6), some (xI b7), some (xI b8), some (xI b9), some (xI b10), some (xI b11), some (xI (b12 + 0)), some (xI (b13 + 1))] [] m Q))))))))))) ∧
      (¬ (b13 < b4) →
      ((0 < 1) ∧
  ((b10 < b12 →
        ((1 = 1 ∧ 0 ≤ b9 ∧ b9 < 6) ∧
  ((0 < 1) ∧
  ((b10 < b12 →
          ((jx_in (b11 + 1)) ∧
  jx_AW 182 79 [some (xA 26 0), some (xI b1), some (xI b2), some (xI b3), some (xI b4), some (xI b5), some (xI b6), some (xI b7), some (xI b8), some (xI b9), some (xI b12), some (xI (b11 + 1)), some (xI b12), some (xI b13)] [] (jx_up m 41 0 (b9.toNat) b11) Q)) ∧
          (¬ (b10 < b12) →
          ((jx_in (b11 + 1)) ∧
  jx_AW 182 79 [some (xA 26 0), some (xI b1), some (xI b2), some (xI b3), some (xI b4), some (xI b5), some (xI b6), some (xI b7), some (xI b8), some (xI b9), some (xI b10), some (xI (b11 + 1)), some (xI b12), some (xI b13)] [] (jx_up m 41 0 (b9.toNat) b11) Q)))))) ∧
        (¬ (b10 < b12) →
        ((0 < 1) ∧
  ((1 = 1 ∧ 0 ≤ b9 ∧ b9 < 6) ∧
  ((0 < 1) ∧
  ((1 = 1 ∧ 0 ≤ b9 ∧ b9 < 6) ∧
  ((0 < 1) ∧
  ((b10 < b12 →
          ((jx_in (b11 + 1)) ∧
  jx_AW 182 79 [some (xA 26 0), some (xI b1), some (xI b2), some (xI b3), some (xI b4), some (xI b5), some (xI b6), some (xI b7), some (xI b8), some (xI b9), some (xI b12), some (xI (b11 + 1)), some (xI b12), some (xI b13)] [] (jx_up m 41 0 (b9.toNat) (m 41 0 (b9.toNat))) Q)) ∧
          (¬ (b10 < b12) →
          ((jx_in (b11 + 1)) ∧
  jx_AW 182 79 [some (xA 26 0), some (xI b1), some (xI b2), some (xI b3), some (xI b4), some (xI b5), some (xI b6), some (xI b7), some (xI b8), some (xI b9), some (xI b10), some (xI (b11 + 1)), some (xI b12), some (xI b13)] [] (jx_up m 41 0 (b9.toNat) (m 41 0 (b9.toNat))) Q)))))))))))))) :
    jx_AW 182 86 [some (xA 26 0), some (xI b1), some (xI b2), some (xI b3), some (xI b4), some (xI b5), some (xI b6), some (xI b7), some (xI b8), some (xI b9), some (xI b10), some (xI b11), some (xI b12), some (xI b13)] [] m Q :=
  jx_segOk (x := 182) (cd := jx_c182) rfl (stops := [50, 72, 79, 86]) 23 hv
set_option maxRecDepth 100000 in
theorem sg_183 (a1 : Int) (m : jx_M) (Q : Int → jx_M → Prop) (hv :
    jx_Cl 125 [xL a1, xL 0, xL 3] m (fun z1 m1 =>
      ((z1 = 0 ∨ z1 = 1) ∧
  Q z1 m1))) :
    jx_Cl 183 [xI a1] m Q :=
  jx_segOk (x := 183) (cd := jx_c183) rfl (stops := []) 7 hv
set_option maxRecDepth 100000 in
theorem sg_184 (a1 : Int) (m : jx_M) (Q : Int → jx_M → Prop) (hv :
    jx_Cl 125 [xL a1, xL 0, xL 2] m (fun z1 m1 =>
      ((z1 = 0 ∨ z1 = 1) ∧
  Q z1 m1))) :
    jx_Cl 184 [xI a1] m Q :=
  jx_segOk (x := 184) (cd := jx_c184) rfl (stops := []) 7 hv
set_option maxRecDepth 100000 in
theorem sg_185 (a1 : Int) (a2 : Int) (a3 : Int) (a4 : Int) (m : jx_M) (Q : Int → jx_M → Prop) (hv :
    ((0 < 1) ∧
  ((1 = 1 ∧ 0 ≤ a1 ∧ a1 < 4) ∧
  ((0 < 1) ∧
  (((m 43 0 (a1.toNat)) < 0 →
      Q (-11) m) ∧
      (¬ ((m 43 0 (a1.toNat)) < 0) →
      ((0 < 1) ∧
  ((1 = 1 ∧ 0 ≤ a1 ∧ a1 < 4) ∧
  ((0 < 1) ∧
  (((m 43 0 (a1.toNat)) = a2 →
        ((a3 < 0 →
          Q (-13) m) ∧
          (¬ (a3 < 0) →
          ((jx_inL (a3 + a4)) ∧
  ((0 < 1) ∧
  ((1 = 1 ∧ 0 ≤ a1 ∧ a1 < 4) ∧
  ((0 < 1) ∧
  (((0 : Int) < (jx_lcmp (a3 + a4) (m 44 0 (a1.toNat))) →
            Q (-13) m) ∧
            (¬ ((0 : Int) < (jx_lcmp (a3 + a4) (m 44 0 (a1.toNat)))) →
            Q 0 m))))))))) ∧
        (¬ ((m 43 0 (a1.toNat)) = a2) →
        Q (-12) m))))))))))) :
    jx_Cl 185 [xA 26 0, xI a1, xI a2, xI a3, xI a4] m Q :=
  jx_segOk (x := 185) (cd := jx_c185) rfl (stops := []) 29 hv
set_option maxRecDepth 100000 in
theorem sg_186 (a1 : Int) (a2 : Int) (a3 : Int) (a4 : Int) (a5 : Int) (a6 : Int) (m : jx_M) (Q : Int → jx_M → Prop) (hv :
    jx_Cl 183 [xI a1] m (fun z1 m1 =>
      ((z1 = 0 →
        Q (-1) m1) ∧
        (¬ (z1 = 0) →
        jx_Cl 184 [xI a2] m1 (fun z2 m2 =>
          ((z2 = 0 →
            Q (-1) m2) ∧
            (¬ (z2 = 0) →
            jx_Cl 125 [xL a4, xL 1, xL 5] m2 (fun z3 m3 =>
              ((z3 = 0 →
                Q (-1) m3) ∧
                (¬ (z3 = 0) →
                jx_Cl 125 [xL a5, xL 1, xL 6] m3 (fun z4 m4 =>
                  ((z4 = 0 →
                    Q (-1) m4) ∧
                    (¬ (z4 = 0) →
                    ((jx_in (a4 - 1)) ∧
  jx_Cl 125 [xL a6, xL 0, xL (a4 - 1)] m4 (fun z5 m5 =>
                      ((z5 = 0 →
                        Q (-1) m5) ∧
                        (¬ (z5 = 0) →
                        ((jx_in (a5 + 1)) ∧
  ((jx_in (a4 * (a5 + 1))) ∧
  ((0 < 1) ∧
  jx_Cl 185 [xA 26 0, xI a1, xI a2, xI a3, xI (a4 * (a5 + 1))] m5 (fun z6 m6 =>
                          ((z6 < 0 →
                            Q z6 m6) ∧
                            (¬ (z6 < 0) →
                            ((jx_in (24 * a1)) ∧
  ((jx_in ((24 * a1) + a3)) ∧
  jx_AW 186 52 [some (xA 26 0), some (xI a1), some (xI a2), some (xI a3), some (xI a4), some (xI a5), some (xI a6), some (xI z6), some (xI ((24 * a1) + a3)), some (xI 0), none, none, none, none, none, none] [] m6 Q))))))))))))))))))))))))) :
    jx_Cl 186 [xA 26 0, xI a1, xI a2, xI a3, xI a4, xI a5, xI a6] m Q :=
  jx_segOk (x := 186) (cd := jx_c186) rfl (stops := [52, 94]) 49 hv
set_option maxRecDepth 100000 in
theorem sg_186_52 (b1 : Int) (b2 : Int) (b3 : Int) (b4 : Int) (b5 : Int) (b6 : Int) (b7 : Int) (b8 : Int) (b9 : Int) (w10 : Option jx_V) (w11 : Option jx_V) (w12 : Option jx_V) (w13 : Option jx_V) (w14 : Option jx_V) (w15 : Option jx_V) (m : jx_M) (Q : Int → jx_M → Prop) (hv :
    ((jx_in (b5 + 1)) ∧
  ((jx_in (b4 * (b5 + 1))) ∧
  ((b9 < (b4 * (b5 + 1)) →
      ((jx_in (b5 + 1)) ∧
  ((0 ≤ b9 ∧ 0 < (b5 + 1)) ∧
  (((0 : Int) < (b9 % (b5 + 1)) →
        ((0 < 1) ∧
  ((jx_in (b8 + b9)) ∧
  ((1 = 1 ∧ 0 ≤ (b8 + b9) ∧ (b8 + b9) < 96) ∧
  ((0 < 1) ∧
  jx_Cl 125 [xL (m 45 0 ((b8 + b9).toNat)), xL 0, xL 9] m (fun z1 m1 =>
          ((z1 = 0 →
            Q (-2) m1) ∧
            (¬ (z1 = 0) →
            ((jx_in (b9 + 1)) ∧
  jx_AW 186 52 [some (xA 26 0), some (xI b1), some (xI b2), some (xI b3), some (xI b4), some (xI b5), some (xI b6), some (xI b7), some (xI b8), some (xI (b9 + 1)), w10, w11, w12, w13, w14, w15] [] m1 Q))))))))) ∧
        (¬ ((0 : Int) < (b9 % (b5 + 1))) →
        ((jx_in (b9 + 1)) ∧
  jx_AW 186 52 [some (xA 26 0), some (xI b1), some (xI b2), some (xI b3), some (xI b4), some (xI b5), some (xI b6), some (xI b7), some (xI b8), some (xI (b9 + 1)), w10, w11, w12, w13, w14, w15] [] m Q)))))) ∧
      (¬ (b9 < (b4 * (b5 + 1))) →
      ((jx_in (b5 + 1)) ∧
  ((jx_in ((b5 + 1) * b6)) ∧
  ((jx_in (b8 + ((b5 + 1) * b6))) ∧
  jx_AW 186 94 [some (xA 26 0), some (xI b1), some (xI b2), some (xI b3), some (xI b4), some (xI b5), some (xI b6), some (xI b7), some (xI b8), some (xI (b8 + ((b5 + 1) * b6))), some (xI (-4)), some (xI 0), some (xI 0), w13, w14, w15] [] m Q)))))))) :
    jx_AW 186 52 [some (xA 26 0), some (xI b1), some (xI b2), some (xI b3), some (xI b4), some (xI b5), some (xI b6), some (xI b7), some (xI b8), some (xI b9), w10, w11, w12, w13, w14, w15] [] m Q :=
  jx_segOk (x := 186) (cd := jx_c186) rfl (stops := [52, 94]) 27 hv
set_option maxRecDepth 100000 in
theorem sg_186_94 (b1 : Int) (b2 : Int) (b3 : Int) (b4 : Int) (b5 : Int) (b6 : Int) (b7 : Int) (b8 : Int) (b9 : Int) (b10 : Int) (b11 : Int) (b12 : Int) (w13 : Option jx_V) (w14 : Option jx_V) (w15 : Option jx_V) (m : jx_M) (Q : Int → jx_M → Prop) (hv :
    ((b12 < b4 →
      ((jx_in (b5 + 1)) ∧
  ((jx_in ((b5 + 1) * b12)) ∧
  ((jx_in (b8 + ((b5 + 1) * b12))) ∧
  ((0 < 1) ∧
  ((jx_in (b9 + 1)) ∧
  ((0 < 1) ∧
  ((jx_in ((b8 + ((b5 + 1) * b12)) + 1)) ∧
  jx_Cl 150 [xA 45 0, xI (b9 + 1), xI b5, xA 45 0, xI ((b8 + ((b5 + 1) * b12)) + 1), xI b5] m (fun z1 m1 =>
        ((0 < 1) ∧
  ((1 = 1 ∧ 0 ≤ (b8 + ((b5 + 1) * b12)) ∧ (b8 + ((b5 + 1) * b12)) < 96) ∧
  ((0 < 1) ∧
  ((0 < 1) ∧
  ((1 = 1 ∧ 0 ≤ b9 ∧ b9 < 96) ∧
  ((0 < 1) ∧
  (((m1 45 0 ((b8 + ((b5 + 1) * b12)).toNat)) < (m1 45 0 (b9.toNat)) →
          ((b10 < 0 →
            (((1 : Int) = 0 →
              (((1 : Int) = 0 →
                ((jx_in (b12 + 1)) ∧
  jx_AW 186 94 [some (xA 26 0), some (xI b1), some (xI b2), some (xI b3), some (xI b4), some (xI b5), some (xI b6), some (xI b7), some (xI b8), some (xI b9), some (xI b10), some (xI b11), some (xI (b12 + 1)), some (xI (b8 + ((b5 + 1) * b12))), some (xI z1), some (xI 1)] [] m1 Q)) ∧
                (¬ ((1 : Int) = 0) →
                ((jx_in (b12 + 1)) ∧
  jx_AW 186 94 [some (xA 26 0), some (xI b1), some (xI b2), some (xI b3), some (xI b4), some (xI b5), some (xI b6), some (xI b7), some (xI b8), some (xI b9), some (xI b10), some (xI z1), some (xI (b12 + 1)), some (xI (b8 + ((b5 + 1) * b12))), some (xI z1), some (xI 1)] [] m1 Q)))) ∧
              (¬ ((1 : Int) = 0) →
              (((1 : Int) = 0 →
                ((jx_in (b12 + 1)) ∧
  jx_AW 186 94 [some (xA 26 0), some (xI b1), some (xI b2), some (xI b3), some (xI b4), some (xI b5), some (xI b6), some (xI b7), some (xI b8), some (xI b9), some (xI b12), some (xI b11), some (xI (b12 + 1)), some (xI (b8 + ((b5 + 1) * b12))), some (xI z1), some (xI 1)] [] m1 Q)) ∧
                (¬ ((1 : Int) = 0) →
                ((jx_in (b12 + 1)) ∧
  jx_AW 186 94 [some (xA 26 0), some (xI b1), some (xI b2), some (xI b3), some (xI b4), some (xI b5), some (xI b6), some (xI b7), some (xI b8), some (xI b9), some (xI b12), some (xI z1), some (xI (b12 + 1)), some (xI (b8 + ((b5 + 1) * b12))), some (xI z1), some (xI 1)] [] m1 Q)))))) ∧
            (¬ (b10 < 0) →
            ((z1 < b11 →
              (((1 : Int) = 0 →
                (((1 : Int) = 0 →
                  ((jx_in (b12 + 1)) ∧
  jx_AW 186 94 [some (xA 26 0), some (xI b1), some (xI b2), some (xI b3), some (xI b4), some (xI b5), some (xI b6), some (xI b7), some (xI b8), some (xI b9), some (xI b10), some (xI b11), some (xI (b12 + 1)), some (xI (b8 + ((b5 + 1) * b12))), some (xI z1), some (xI 1)] [] m1 Q)) ∧
                  (¬ ((1 : Int) = 0) →
                  ((jx_in (b12 + 1)) ∧
  jx_AW 186 94 [some (xA 26 0), some (xI b1), some (xI b2), some (xI b3), some (xI b4), some (xI b5), some (xI b6), some (xI b7), some (xI b8), some (xI b9), some (xI b10), some (xI z1), some (xI (b12 + 1)), some (xI (b8 + ((b5 + 1) * b12))), some (xI z1), some (xI 1)] [] m1 Q)))) ∧
                (¬ ((1 : Int) = 0) →
                (((1 : Int) = 0 →
                  ((jx_in (b12 + 1)) ∧
  jx_AW 186 94 [some (xA 26 0), some (xI b1), some (xI b2), some (xI b3), some (xI b4), some (xI b5), some (xI b6), some (xI b7), some (xI b8), some (xI b9), some (xI b12), some (xI b11), some (xI (b12 + 1)), some (xI (b8 + ((b5 + 1) * b12))), some (xI z1), some (xI 1)] [] m1 Q)) ∧
                  (¬ ((1 : Int) = 0) →
                  ((jx_in (b12 + 1)) ∧
  jx_AW 186 94 [some (xA 26 0), some (xI b1), some (xI b2), some (xI b3), some (xI b4), some (xI b5), some (xI b6), some (xI b7), some (xI b8), some (xI b9), some (xI b12), some (xI z1), some (xI (b12 + 1)), some (xI (b8 + ((b5 + 1) * b12))), some (xI z1), some (xI 1)] [] m1 Q)))))) ∧
              (¬ (z1 < b11) →
              (((0 : Int) = 0 →
                (((0 : Int) = 0 →
                  ((jx_in (b12 + 1)) ∧
  jx_AW 186 94 [some (xA 26 0), some (xI b1), some (xI b2), some (xI b3), some (xI b4), some (xI b5), some (xI b6), some (xI b7), some (xI b8), some (xI b9), some (xI b10), some (xI b11), some (xI (b12 + 1)), some (xI (b8 + ((b5 + 1) * b12))), some (xI z1), some (xI 0)] [] m1 Q)) ∧
                  (¬ ((0 : Int) = 0) →
                  ((jx_in (b12 + 1)) ∧
  jx_AW 186 94 [some (xA 26 0), some (xI b1), some (xI b2), some (xI b3), some (xI b4), some (xI b5), some (xI b6), some (xI b7), some (xI b8), some (xI b9), some (xI b10), some (xI z1), some (xI (b12 + 1)), some (xI (b8 + ((b5 + 1) * b12))), some (xI z1), some (xI 0)] [] m1 Q)))) ∧
                (¬ ((0 : Int) = 0) →
                (((0 : Int) = 0 →
                  ((jx_in (b12 + 1)) ∧
  jx_AW 186 94 [some (xA 26 0), some (xI b1), some (xI b2), some (xI b3), some (xI b4), some (xI b5), some (xI b6), some (xI b7), some (xI b8), some (xI b9), some (xI b12), some (xI b11), some (xI (b12 + 1)), some (xI (b8 + ((b5 + 1) * b12))), some (xI z1), some (xI 0)] [] m1 Q)) ∧
                  (¬ ((0 : Int) = 0) →
                  ((jx_in (b12 + 1)) ∧
  jx_AW 186 94 [some (xA 26 0), some (xI b1), some (xI b2), some (xI b3), some (xI b4), some (xI b5), some (xI b6), some (xI b7), some (xI b8), some (xI b9), some (xI b12), some (xI z1), some (xI (b12 + 1)), some (xI (b8 + ((b5 + 1) * b12))), some (xI z1), some (xI 0)] [] m1 Q)))))))))) ∧
          (¬ ((m1 45 0 ((b8 + ((b5 + 1) * b12)).toNat)) < (m1 45 0 (b9.toNat))) →
          (((0 : Int) = 0 →
            (((0 : Int) = 0 →
              ((jx_in (b12 + 1)) ∧
  jx_AW 186 94 [some (xA 26 0), some (xI b1), some (xI b2), some (xI b3), some (xI b4), some (xI b5), some (xI b6), some (xI b7), some (xI b8), some (xI b9), some (xI b10), some (xI b11), some (xI (b12 + 1)), some (xI (b8 + ((b5 + 1) * b12))), some (xI z1), some (xI 0)] [] m1 Q)) ∧
              (¬ ((0 : Int) = 0) →
              ((jx_in (b12 + 1)) ∧
  jx_AW 186 94 [some (xA 26 0), some (xI b1), some (xI b2), some (xI b3), some (xI b4), some (xI b5), some (xI b6), some (xI b7), some (xI b8), some (xI b9), some (xI b10), some (xI z1), some (xI (b12 + 1)), some (xI (b8 + ((b5 + 1) * b12))), some (xI z1), some (xI 0)] [] m1 Q)))) ∧
            (¬ ((0 : Int) = 0) →
            (((0 : Int) = 0 →
              ((jx_in (b12 + 1)) ∧
  jx_AW 186 94 [some (xA 26 0), some (xI b1), some (xI b2), some (xI b3), some (xI b4), some (xI b5), some (xI b6), some (xI b7), some (xI b8), some (xI b9), some (xI b12), some (xI b11), some (xI (b12 + 1)), some (xI (b8 + ((b5 + 1) * b12))), some (xI z1), some (xI 0)] [] m1 Q)) ∧
              (¬ ((0 : Int) = 0) →
              ((jx_in (b12 + 1)) ∧
  jx_AW 186 94 [some (xA 26 0), some (xI b1), some (xI b2), some (xI b3), some (xI b4), some (xI b5), some (xI b6), some (xI b7), some (xI b8), some (xI b9), some (xI b12), some (xI z1), some (xI (b12 + 1)), some (xI (b8 + ((b5 + 1) * b12))), some (xI z1), some (xI 0)] [] m1 Q)))))))))))))))))))))) ∧
      (¬ (b12 < b4) →
      Q b10 m))) :
    jx_AW 186 94 [some (xA 26 0), some (xI b1), some (xI b2), some (xI b3), some (xI b4), some (xI b5), some (xI b6), some (xI b7), some (xI b8), some (xI b9), some (xI b10), some (xI b11), some (xI b12), w13, w14, w15] [] m Q :=
  jx_segOk (x := 186) (cd := jx_c186) rfl (stops := [52, 94]) 55 hv
set_option maxRecDepth 100000 in
theorem sg_187 (a1 : Int) (a2 : Int) (a3 : Int) (m : jx_M) (Q : Int → jx_M → Prop) (hv :
    jx_Cl 183 [xI a1] m (fun z1 m1 =>
      ((z1 = 0 →
        Q (-1) m1) ∧
        (¬ (z1 = 0) →
        jx_Cl 184 [xI a2] m1 (fun z2 m2 =>
          ((z2 = 0 →
            Q (-1) m2) ∧
            (¬ (z2 = 0) →
            (((24 : Int) < a3 →
              Q (-1) m2) ∧
              (¬ ((24 : Int) < a3) →
              ((a3 < 0 →
                Q (-14) m2) ∧
                (¬ (a3 < 0) →
                ((0 < 1) ∧
  ((1 = 1 ∧ 0 ≤ a1 ∧ a1 < 4) ∧
  ((0 < 1) ∧
  ((0 < 1) ∧
  ((1 = 1 ∧ 0 ≤ a1 ∧ a1 < 4) ∧
  ((0 < 1) ∧
  jx_AW 187 27 [some (xA 26 0), some (xI a1), some (xI a2), some (xI a3), some (xI 0)] [] (jx_up (jx_up m2 43 0 (a1.toNat) a2) 44 0 (a1.toNat) a3) Q))))))))))))))))) :
    jx_Cl 187 [xA 26 0, xI a1, xI a2, xI a3] m Q :=
  jx_segOk (x := 187) (cd := jx_c187) rfl (stops := [27]) 24 hv
set_option maxRecDepth 100000 in
theorem sg_187_27 (b1 : Int) (b2 : Int) (b3 : Int) (b4 : Int) (m : jx_M) (Q : Int → jx_M → Prop) (hv :
    ((b4 < 24 →
      ((0 < 1) ∧
  ((jx_in (24 * b1)) ∧
  ((jx_in ((24 * b1) + b4)) ∧
  ((1 = 1 ∧ 0 ≤ ((24 * b1) + b4) ∧ ((24 * b1) + b4) < 96) ∧
  ((0 < 1) ∧
  ((jx_in (b4 + 1)) ∧
  jx_AW 187 27 [some (xA 26 0), some (xI b1), some (xI b2), some (xI b3), some (xI (b4 + 1))] [] (jx_up m 45 0 (((24 * b1) + b4).toNat) 0) Q))))))) ∧
      (¬ (b4 < 24) →
      Q b3 m))) :
    jx_AW 187 27 [some (xA 26 0), some (xI b1), some (xI b2), some (xI b3), some (xI b4)] [] m Q :=
  jx_segOk (x := 187) (cd := jx_c187) rfl (stops := [27]) 15 hv
set_option maxRecDepth 100000 in
theorem sg_188 (a1 : Int) (m : jx_M) (Q : Int → jx_M → Prop) (hv :
    jx_Cl 183 [xI a1] m (fun z1 m1 =>
      ((z1 = 0 →
        Q (-1) m1) ∧
        (¬ (z1 = 0) →
        ((0 < 1) ∧
  ((1 = 1 ∧ 0 ≤ a1 ∧ a1 < 4) ∧
  ((0 < 1) ∧
  (((m1 43 0 (a1.toNat)) < 0 →
          Q (-11) m1) ∧
          (¬ ((m1 43 0 (a1.toNat)) < 0) →
          ((0 < 1) ∧
  ((1 = 1 ∧ 0 ≤ a1 ∧ a1 < 4) ∧
  ((0 < 1) ∧
  ((0 < 1) ∧
  ((1 = 1 ∧ 0 ≤ a1 ∧ a1 < 4) ∧
  ((0 < 1) ∧
  Q ((jx_up m1 43 0 (a1.toNat) (-1)) 44 0 (a1.toNat)) (jx_up m1 43 0 (a1.toNat) (-1))))))))))))))))) :
    jx_Cl 188 [xA 26 0, xI a1] m Q :=
  jx_segOk (x := 188) (cd := jx_c188) rfl (stops := []) 19 hv
set_option maxRecDepth 100000 in
theorem sg_189 (a1 : Int) (a2 : Int) (a3 : Int) (a4 : Int) (m : jx_M) (Q : Int → jx_M → Prop) (hv :
    jx_Cl 183 [xI a1] m (fun z1 m1 =>
      ((z1 = 0 →
        Q (-1) m1) ∧
        (¬ (z1 = 0) →
        jx_Cl 184 [xI a2] m1 (fun z2 m2 =>
          ((z2 = 0 →
            Q (-1) m2) ∧
            (¬ (z2 = 0) →
            ((0 < 1) ∧
  jx_Cl 185 [xA 26 0, xI a1, xI a2, xI a3, xI 1] m2 (fun z3 m3 =>
              ((z3 < 0 →
                Q z3 m3) ∧
                (¬ (z3 < 0) →
                ((0 < 1) ∧
  ((jx_in (24 * a1)) ∧
  ((jx_in ((24 * a1) + a3)) ∧
  ((a2 = 0 →
                  ((1 = 1 ∧ 0 ≤ ((24 * a1) + a3) ∧ ((24 * a1) + a3) < 96) ∧
  ((0 < 1) ∧
  Q 1 (jx_up m3 45 0 (((24 * a1) + a3).toNat) (jx_i2b a4))))) ∧
                  (¬ (a2 = 0) →
                  ((a2 = 1 →
                    ((1 = 1 ∧ 0 ≤ ((24 * a1) + a3) ∧ ((24 * a1) + a3) < 96) ∧
  ((0 < 1) ∧
  Q 1 (jx_up m3 45 0 (((24 * a1) + a3).toNat) (jx_i2s a4))))) ∧
                    (¬ (a2 = 1) →
                    ((1 = 1 ∧ 0 ≤ ((24 * a1) + a3) ∧ ((24 * a1) + a3) < 96) ∧
  ((0 < 1) ∧
  Q 1 (jx_up m3 45 0 (((24 * a1) + a3).toNat) a4))))))))))))))))))))) :
    jx_Cl 189 [xA 26 0, xI a1, xI a2, xI a3, xI a4] m Q :=
  jx_segOk (x := 189) (cd := jx_c189) rfl (stops := []) 34 hv
set_option maxRecDepth 100000 in
theorem sg_190 (a1 : Int) (a2 : Int) (a3 : Int) (a4 : Int) (a5 : Int) (m : jx_M) (Q : Int → jx_M → Prop) (hv :
    jx_Cl 183 [xI a1] m (fun z1 m1 =>
      ((z1 = 0 →
        Q (-1) m1) ∧
        (¬ (z1 = 0) →
        jx_Cl 183 [xI a3] m1 (fun z2 m2 =>
          ((z2 = 0 →
            Q (-1) m2) ∧
            (¬ (z2 = 0) →
            ((0 < 1) ∧
  ((1 = 1 ∧ 0 ≤ a1 ∧ a1 < 4) ∧
  ((0 < 1) ∧
  (((m2 43 0 (a1.toNat)) < 0 →
              Q (-11) m2) ∧
              (¬ ((m2 43 0 (a1.toNat)) < 0) →
              ((0 < 1) ∧
  ((1 = 1 ∧ 0 ≤ a3 ∧ a3 < 4) ∧
  ((0 < 1) ∧
  (((m2 43 0 (a3.toNat)) < 0 →
                Q (-11) m2) ∧
                (¬ ((m2 43 0 (a3.toNat)) < 0) →
                ((0 < 1) ∧
  ((1 = 1 ∧ 0 ≤ a1 ∧ a1 < 4) ∧
  ((0 < 1) ∧
  ((0 < 1) ∧
  ((1 = 1 ∧ 0 ≤ a3 ∧ a3 < 4) ∧
  ((0 < 1) ∧
  (((m2 43 0 (a1.toNat)) = (m2 43 0 (a3.toNat)) →
                  ((a5 < 0 →
                    Q (-13) m2) ∧
                    (¬ (a5 < 0) →
                    ((0 < 1) ∧
  ((1 = 1 ∧ 0 ≤ a1 ∧ a1 < 4) ∧
  ((0 < 1) ∧
  ((0 < 1) ∧
  jx_Cl 185 [xA 26 0, xI a1, xI (m2 43 0 (a1.toNat)), xI a2, xI a5] m2 (fun z3 m3 =>
                      ((z3 < 0 →
                        Q (-13) m3) ∧
                        (¬ (z3 < 0) →
                        ((0 < 1) ∧
  ((1 = 1 ∧ 0 ≤ a3 ∧ a3 < 4) ∧
  ((0 < 1) ∧
  ((0 < 1) ∧
  jx_Cl 185 [xA 26 0, xI a3, xI (m3 43 0 (a3.toNat)), xI a4, xI a5] m3 (fun z4 m4 =>
                          ((z4 < 0 →
                            Q (-13) m4) ∧
                            (¬ (z4 < 0) →
                            jx_AW 190 57 [some (xA 26 0), some (xI a1), some (xI a2), some (xI a3), some (xI a4), some (xI a5), some (xI 0)] [] m4 Q))))))))))))))))) ∧
                  (¬ ((m2 43 0 (a1.toNat)) = (m2 43 0 (a3.toNat))) →
                  Q (-12) m2))))))))))))))))))))))))) :
    jx_Cl 190 [xA 26 0, xI a1, xI a2, xI a3, xI a4, xI a5] m Q :=
  jx_segOk (x := 190) (cd := jx_c190) rfl (stops := [57, 78]) 50 hv
set_option maxRecDepth 100000 in
theorem sg_190_57 (b1 : Int) (b2 : Int) (b3 : Int) (b4 : Int) (b5 : Int) (b6 : Int) (m : jx_M) (Q : Int → jx_M → Prop) (hv :
    ((b6 < b5 →
      ((0 < 1) ∧
  ((0 < 1) ∧
  ((jx_in (24 * b1)) ∧
  ((jx_in ((24 * b1) + b2)) ∧
  ((jx_in (((24 * b1) + b2) + b6)) ∧
  ((1 = 1 ∧ 0 ≤ (((24 * b1) + b2) + b6) ∧ (((24 * b1) + b2) + b6) < 96) ∧
  ((0 < 1) ∧
  ((1 = 1 ∧ 0 ≤ b6 ∧ b6 < 24) ∧
  ((0 < 1) ∧
  ((jx_in (b6 + 1)) ∧
  jx_AW 190 57 [some (xA 26 0), some (xI b1), some (xI b2), some (xI b3), some (xI b4), some (xI b5), some (xI (b6 + 1))] [] (jx_up m 46 0 (b6.toNat) (m 45 0 ((((24 * b1) + b2) + b6).toNat))) Q))))))))))) ∧
      (¬ (b6 < b5) →
      jx_AW 190 78 [some (xA 26 0), some (xI b1), some (xI b2), some (xI b3), some (xI b4), some (xI b5), some (xI 0)] [] m Q))) :
    jx_AW 190 57 [some (xA 26 0), some (xI b1), some (xI b2), some (xI b3), some (xI b4), some (xI b5), some (xI b6)] [] m Q :=
  jx_segOk (x := 190) (cd := jx_c190) rfl (stops := [57, 78]) 20 hv
set_option maxRecDepth 100000 in
theorem sg_190_78 (b1 : Int) (b2 : Int) (b3 : Int) (b4 : Int) (b5 : Int) (b6 : Int) (m : jx_M) (Q : Int → jx_M → Prop) (hv :
    ((b6 < b5 →
      ((0 < 1) ∧
  ((jx_in (24 * b3)) ∧
  ((jx_in ((24 * b3) + b4)) ∧
  ((jx_in (((24 * b3) + b4) + b6)) ∧
  ((0 < 1) ∧
  ((1 = 1 ∧ 0 ≤ b6 ∧ b6 < 24) ∧
  ((0 < 1) ∧
  ((1 = 1 ∧ 0 ≤ (((24 * b3) + b4) + b6) ∧ (((24 * b3) + b4) + b6) < 96) ∧
  ((0 < 1) ∧
  ((jx_in (b6 + 1)) ∧
  jx_AW 190 78 [some (xA 26 0), some (xI b1), some (xI b2), some (xI b3), some (xI b4), some (xI b5), some (xI (b6 + 1))] [] (jx_up m 45 0 ((((24 * b3) + b4) + b6).toNat) (m 46 0 (b6.toNat))) Q))))))))))) ∧
      (¬ (b6 < b5) →
      Q b5 m))) :
    jx_AW 190 78 [some (xA 26 0), some (xI b1), some (xI b2), some (xI b3), some (xI b4), some (xI b5), some (xI b6)] [] m Q :=
  jx_segOk (x := 190) (cd := jx_c190) rfl (stops := [57, 78]) 20 hv
