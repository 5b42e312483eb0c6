theorem jx_ck53 : (List.range (jx_nth jx_cd 53 []).length).all (jx_okR 53) = true := by decide +kernel
theorem jx_ck54 : (List.range (jx_nth jx_cd 54 []).length).all (jx_okR 54) = true := by decide +kernel
theorem jx_ck55 : (List.range (jx_nth jx_cd 55 []).length).all (jx_okR 55) = true := by decide +kernel
theorem jx_ck56 : (List.range (jx_nth jx_cd 56 []).length).all (jx_okR 56) = true := by decide +kernel
theorem jx_ck57 : (List.range (jx_nth jx_cd 57 []).length).all (jx_okR 57) = true := by decide +kernel
theorem jx_ck58 : (List.range (jx_nth jx_cd 58 []).length).all (jx_okR 58) = true := by decide +kernel
theorem jx_ck59 : (List.range (jx_nth jx_cd 59 []).length).all (jx_okR 59) = true := by decide +kernel
theorem jx_ck60 : (List.range (jx_nth jx_cd 60 []).length).all (jx_okR 60) = true := by decide +kernel
theorem jx_ck61 : (List.range (jx_nth jx_cd 61 []).length).all (jx_okR 61) = true := by decide +kernel
theorem jx_ck62 : (List.range (jx_nth jx_cd 62 []).length).all (jx_okR 62) = true := by decide +kernel
theorem jx_ck63 : (List.range (jx_nth jx_cd 63 []).length).all (jx_okR 63) = true := by decide +kernel
theorem jx_ck64 : (List.range (jx_nth jx_cd 64 []).length).all (jx_okR 64) = true := by decide +kernel
theorem jx_ck65 : (List.range (jx_nth jx_cd 65 []).length).all (jx_okR 65) = true := by decide +kernel
theorem jx_ck66_0 : (List.range' 0 48).all (jx_okR 66) = true := by decide +kernel
theorem jx_ck66_48 : (List.range' 48 48).all (jx_okR 66) = true := by decide +kernel
theorem jx_ck66_96 : (List.range' 96 4).all (jx_okR 66) = true := by decide +kernel
theorem jx_ck66 : (List.range (jx_nth jx_cd 66 []).length).all (jx_okR 66) = true := by
  refine List.all_eq_true.mpr (fun i hi => ?_)
  have hi : i < 100 := List.mem_range.mp hi
  rcases Nat.lt_or_ge i 48 with h | h
  · exact List.all_eq_true.mp jx_ck66_0 i (List.mem_range'_1.mpr ⟨by omega, by omega⟩)
  rcases Nat.lt_or_ge i 96 with h | h
  · exact List.all_eq_true.mp jx_ck66_48 i (List.mem_range'_1.mpr ⟨by omega, by omega⟩)
  exact List.all_eq_true.mp jx_ck66_96 i (List.mem_range'_1.mpr ⟨by omega, by omega⟩)
theorem jx_ck67 : (List.range (jx_nth jx_cd 67 []).length).all (jx_okR 67) = true := by decide +kernel
theorem jx_ck68 : (List.range (jx_nth jx_cd 68 []).length).all (jx_okR 68) = true := by decide +kernel
theorem jx_ck69 : (List.range (jx_nth jx_cd 69 []).length).all (jx_okR 69) = true := by decide +kernel
theorem jx_ck70 : (List.range (jx_nth jx_cd 70 []).length).all (jx_okR 70) = true := by decide +kernel
theorem jx_ck71 : (List.range (jx_nth jx_cd 71 []).length).all (jx_okR 71) = true := by decide +kernel
theorem jx_ck72 : (List.range (jx_nth jx_cd 72 []).length).all (jx_okR 72) = true := by decide +kernel
theorem jx_ck73 : (List.range (jx_nth jx_cd 73 []).length).all (jx_okR 73) = true := by decide +kernel
theorem jx_ck74 : (List.range (jx_nth jx_cd 74 []).length).all (jx_okR 74) = true := by decide +kernel
theorem jx_ck75 : (List.range (jx_nth jx_cd 75 []).length).all (jx_okR 75) = true := by decide +kernel
theorem jx_ck76_0 : (List.range' 0 48).all (jx_okR 76) = true := by decide +kernel
theorem jx_ck76_48 : (List.range' 48 48).all (jx_okR 76) = true := by decide +kernel
theorem jx_ck76 : (List.range (jx_nth jx_cd 76 []).length).all (jx_okR 76) = true := by
  refine List.all_eq_true.mpr (fun i hi => ?_)
  have hi : i < 96 := List.mem_range.mp hi
  rcases Nat.lt_or_ge i 48 with h | h
  · exact List.all_eq_true.mp jx_ck76_0 i (List.mem_range'_1.mpr ⟨by omega, by omega⟩)
  exact List.all_eq_true.mp jx_ck76_48 i (List.mem_range'_1.mpr ⟨by omega, by omega⟩)
theorem jx_ck77 : (List.range (jx_nth jx_cd 77 []).length).all (jx_okR 77) = true := by decide +kernel
theorem jx_ck78 : (List.range (jx_nth jx_cd 78 []).length).all (jx_okR 78) = true := by decide +kernel
theorem jx_ck79 : (List.range (jx_nth jx_cd 79 []).length).all (jx_okR 79) = true := by decide +kernel
theorem jx_ck80 : (List.range (jx_nth jx_cd 80 []).length).all (jx_okR 80) = true := by decide +kernel
theorem jx_ck81 : (List.range (jx_nth jx_cd 81 []).length).all (jx_okR 81) = true := by decide +kernel
theorem jx_ck82 : (List.range (jx_nth jx_cd 82 []).length).all (jx_okR 82) = true := by decide +kernel
theorem jx_ck83 : (List.range (jx_nth jx_cd 83 []).length).all (jx_okR 83) = true := by decide +kernel
theorem jx_ck84_0 : (List.range' 0 48).all (jx_okR 84) = true := by decide +kernel
theorem jx_ck84_48 : (List.range' 48 31).all (jx_okR 84) = true := by decide +kernel
theorem jx_ck84 : (List.range (jx_nth jx_cd 84 []).length).all (jx_okR 84) = true := by
  refine List.all_eq_true.mpr (fun i hi => ?_)
  have hi : i < 79 := List.mem_range.mp hi
  rcases Nat.lt_or_ge i 48 with h | h
  · exact List.all_eq_true.mp jx_ck84_0 i (List.mem_range'_1.mpr ⟨by omega, by omega⟩)
  exact List.all_eq_true.mp jx_ck84_48 i (List.mem_range'_1.mpr ⟨by omega, by omega⟩)
theorem jx_ck85 : (List.range (jx_nth jx_cd 85 []).length).all (jx_okR 85) = true := by decide +kernel
theorem jx_ck86 : (List.range (jx_nth jx_cd 86 []).length).all (jx_okR 86) = true := by decide +kernel
theorem jx_ck87 : (List.range (jx_nth jx_cd 87 []).length).all (jx_okR 87) = true := by decide +kernel
theorem jx_ck88 : (List.range (jx_nth jx_cd 88 []).length).all (jx_okR 88) = true := by decide +kernel
