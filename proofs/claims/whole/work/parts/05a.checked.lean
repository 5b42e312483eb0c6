theorem jx_ck0 : (List.range (jx_nth jx_cd 0 []).length).all (jx_okR 0) = true := by decide +kernel
theorem jx_ck1 : (List.range (jx_nth jx_cd 1 []).length).all (jx_okR 1) = true := by decide +kernel
theorem jx_ck2 : (List.range (jx_nth jx_cd 2 []).length).all (jx_okR 2) = true := by decide +kernel
theorem jx_ck3 : (List.range (jx_nth jx_cd 3 []).length).all (jx_okR 3) = true := by decide +kernel
theorem jx_ck4 : (List.range (jx_nth jx_cd 4 []).length).all (jx_okR 4) = true := by decide +kernel
theorem jx_ck5 : (List.range (jx_nth jx_cd 5 []).length).all (jx_okR 5) = true := by decide +kernel
theorem jx_ck6 : (List.range (jx_nth jx_cd 6 []).length).all (jx_okR 6) = true := by decide +kernel
theorem jx_ck7 : (List.range (jx_nth jx_cd 7 []).length).all (jx_okR 7) = true := by decide +kernel
theorem jx_ck8 : (List.range (jx_nth jx_cd 8 []).length).all (jx_okR 8) = true := by decide +kernel
theorem jx_ck9 : (List.range (jx_nth jx_cd 9 []).length).all (jx_okR 9) = true := by decide +kernel
theorem jx_ck10 : (List.range (jx_nth jx_cd 10 []).length).all (jx_okR 10) = true := by decide +kernel
theorem jx_ck11 : (List.range (jx_nth jx_cd 11 []).length).all (jx_okR 11) = true := by decide +kernel
theorem jx_ck12 : (List.range (jx_nth jx_cd 12 []).length).all (jx_okR 12) = true := by decide +kernel
theorem jx_ck13 : (List.range (jx_nth jx_cd 13 []).length).all (jx_okR 13) = true := by decide +kernel
theorem jx_ck14 : (List.range (jx_nth jx_cd 14 []).length).all (jx_okR 14) = true := by decide +kernel
theorem jx_ck15 : (List.range (jx_nth jx_cd 15 []).length).all (jx_okR 15) = true := by decide +kernel
theorem jx_ck16 : (List.range (jx_nth jx_cd 16 []).length).all (jx_okR 16) = true := by decide +kernel
theorem jx_ck17 : (List.range (jx_nth jx_cd 17 []).length).all (jx_okR 17) = true := by decide +kernel
theorem jx_ck18 : (List.range (jx_nth jx_cd 18 []).length).all (jx_okR 18) = true := by decide +kernel
theorem jx_ck19 : (List.range (jx_nth jx_cd 19 []).length).all (jx_okR 19) = true := by decide +kernel
theorem jx_ck20 : (List.range (jx_nth jx_cd 20 []).length).all (jx_okR 20) = true := by decide +kernel
theorem jx_ck21 : (List.range (jx_nth jx_cd 21 []).length).all (jx_okR 21) = true := by decide +kernel
theorem jx_ck22 : (List.range (jx_nth jx_cd 22 []).length).all (jx_okR 22) = true := by decide +kernel
theorem jx_ck23 : (List.range (jx_nth jx_cd 23 []).length).all (jx_okR 23) = true := by decide +kernel
theorem jx_ck24 : (List.range (jx_nth jx_cd 24 []).length).all (jx_okR 24) = true := by decide +kernel
theorem jx_ck25 : (List.range (jx_nth jx_cd 25 []).length).all (jx_okR 25) = true := by decide +kernel
theorem jx_ck26 : (List.range (jx_nth jx_cd 26 []).length).all (jx_okR 26) = true := by decide +kernel
theorem jx_ck27 : (List.range (jx_nth jx_cd 27 []).length).all (jx_okR 27) = true := by decide +kernel
theorem jx_ck28 : (List.range (jx_nth jx_cd 28 []).length).all (jx_okR 28) = true := by decide +kernel
theorem jx_ck29 : (List.range (jx_nth jx_cd 29 []).length).all (jx_okR 29) = true := by decide +kernel
theorem jx_ck30 : (List.range (jx_nth jx_cd 30 []).length).all (jx_okR 30) = true := by decide +kernel
theorem jx_ck31_0 : (List.range' 0 48).all (jx_okR 31) = true := by decide +kernel
theorem jx_ck31_48 : (List.range' 48 44).all (jx_okR 31) = true := by decide +kernel
theorem jx_ck31 : (List.range (jx_nth jx_cd 31 []).length).all (jx_okR 31) = true := by
  refine List.all_eq_true.mpr (fun i hi => ?_)
  have hi : i < 92 := List.mem_range.mp hi
  rcases Nat.lt_or_ge i 48 with h | h
  · exact List.all_eq_true.mp jx_ck31_0 i (List.mem_range'_1.mpr ⟨by omega, by omega⟩)
  exact List.all_eq_true.mp jx_ck31_48 i (List.mem_range'_1.mpr ⟨by omega, by omega⟩)
theorem jx_ck32 : (List.range (jx_nth jx_cd 32 []).length).all (jx_okR 32) = true := by decide +kernel
theorem jx_ck33 : (List.range (jx_nth jx_cd 33 []).length).all (jx_okR 33) = true := by decide +kernel
theorem jx_ck34 : (List.range (jx_nth jx_cd 34 []).length).all (jx_okR 34) = true := by decide +kernel
theorem jx_ck35 : (List.range (jx_nth jx_cd 35 []).length).all (jx_okR 35) = true := by decide +kernel
theorem jx_ck36 : (List.range (jx_nth jx_cd 36 []).length).all (jx_okR 36) = true := by decide +kernel
theorem jx_ck37 : (List.range (jx_nth jx_cd 37 []).length).all (jx_okR 37) = true := by decide +kernel
theorem jx_ck38 : (List.range (jx_nth jx_cd 38 []).length).all (jx_okR 38) = true := by decide +kernel
theorem jx_ck39 : (List.range (jx_nth jx_cd 39 []).length).all (jx_okR 39) = true := by decide +kernel
theorem jx_ck40 : (List.range (jx_nth jx_cd 40 []).length).all (jx_okR 40) = true := by decide +kernel
theorem jx_ck41 : (List.range (jx_nth jx_cd 41 []).length).all (jx_okR 41) = true := by decide +kernel
theorem jx_ck42 : (List.range (jx_nth jx_cd 42 []).length).all (jx_okR 42) = true := by decide +kernel
theorem jx_ck43 : (List.range (jx_nth jx_cd 43 []).length).all (jx_okR 43) = true := by decide +kernel
theorem jx_ck44 : (List.range (jx_nth jx_cd 44 []).length).all (jx_okR 44) = true := by decide +kernel
theorem jx_ck45 : (List.range (jx_nth jx_cd 45 []).length).all (jx_okR 45) = true := by decide +kernel
theorem jx_ck46 : (List.range (jx_nth jx_cd 46 []).length).all (jx_okR 46) = true := by decide +kernel
theorem jx_ck47 : (List.range (jx_nth jx_cd 47 []).length).all (jx_okR 47) = true := by decide +kernel
theorem jx_ck48 : (List.range (jx_nth jx_cd 48 []).length).all (jx_okR 48) = true := by decide +kernel
theorem jx_ck49 : (List.range (jx_nth jx_cd 49 []).length).all (jx_okR 49) = true := by decide +kernel
theorem jx_ck50 : (List.range (jx_nth jx_cd 50 []).length).all (jx_okR 50) = true := by decide +kernel
theorem jx_ck51 : (List.range (jx_nth jx_cd 51 []).length).all (jx_okR 51) = true := by decide +kernel
theorem jx_ck52 : (List.range (jx_nth jx_cd 52 []).length).all (jx_okR 52) = true := by decide +kernel
