theorem jx_ck89 : (List.range (jx_nth jx_cd 89 []).length).all (jx_okR 89) = true := by decide +kernel
theorem jx_ck90 : (List.range (jx_nth jx_cd 90 []).length).all (jx_okR 90) = true := by decide +kernel
theorem jx_ck91 : (List.range (jx_nth jx_cd 91 []).length).all (jx_okR 91) = true := by decide +kernel
theorem jx_ck92 : (List.range (jx_nth jx_cd 92 []).length).all (jx_okR 92) = true := by decide +kernel
theorem jx_ck93 : (List.range (jx_nth jx_cd 93 []).length).all (jx_okR 93) = true := by decide +kernel
theorem jx_ck94 : (List.range (jx_nth jx_cd 94 []).length).all (jx_okR 94) = true := by decide +kernel
theorem jx_ck95 : (List.range (jx_nth jx_cd 95 []).length).all (jx_okR 95) = true := by decide +kernel
theorem jx_ck96 : (List.range (jx_nth jx_cd 96 []).length).all (jx_okR 96) = true := by decide +kernel
theorem jx_ck97 : (List.range (jx_nth jx_cd 97 []).length).all (jx_okR 97) = true := by decide +kernel
theorem jx_ck98 : (List.range (jx_nth jx_cd 98 []).length).all (jx_okR 98) = true := by decide +kernel
theorem jx_ck99 : (List.range (jx_nth jx_cd 99 []).length).all (jx_okR 99) = true := by decide +kernel
theorem jx_ck100 : (List.range (jx_nth jx_cd 100 []).length).all (jx_okR 100) = true := by decide +kernel
theorem jx_ck101 : (List.range (jx_nth jx_cd 101 []).length).all (jx_okR 101) = true := by decide +kernel
theorem jx_ck102 : (List.range (jx_nth jx_cd 102 []).length).all (jx_okR 102) = true := by decide +kernel
theorem jx_ck103 : (List.range (jx_nth jx_cd 103 []).length).all (jx_okR 103) = true := by decide +kernel
theorem jx_ck104 : (List.range (jx_nth jx_cd 104 []).length).all (jx_okR 104) = true := by decide +kernel
theorem jx_ck105 : (List.range (jx_nth jx_cd 105 []).length).all (jx_okR 105) = true := by decide +kernel
theorem jx_ck106_0 : (List.range' 0 48).all (jx_okR 106) = true := by decide +kernel
theorem jx_ck106_48 : (List.range' 48 34).all (jx_okR 106) = true := by decide +kernel
theorem jx_ck106 : (List.range (jx_nth jx_cd 106 []).length).all (jx_okR 106) = true := by
  refine List.all_eq_true.mpr (fun i hi => ?_)
  have hi : i < 82 := List.mem_range.mp hi
  rcases Nat.lt_or_ge i 48 with h | h
  · exact List.all_eq_true.mp jx_ck106_0 i (List.mem_range'_1.mpr ⟨by omega, by omega⟩)
  exact List.all_eq_true.mp jx_ck106_48 i (List.mem_range'_1.mpr ⟨by omega, by omega⟩)
theorem jx_ck107 : (List.range (jx_nth jx_cd 107 []).length).all (jx_okR 107) = true := by decide +kernel
theorem jx_ck108 : (List.range (jx_nth jx_cd 108 []).length).all (jx_okR 108) = true := by decide +kernel
theorem jx_ck109 : (List.range (jx_nth jx_cd 109 []).length).all (jx_okR 109) = true := by decide +kernel
theorem jx_ck110 : (List.range (jx_nth jx_cd 110 []).length).all (jx_okR 110) = true := by decide +kernel
theorem jx_ck111 : (List.range (jx_nth jx_cd 111 []).length).all (jx_okR 111) = true := by decide +kernel
theorem jx_ck112 : (List.range (jx_nth jx_cd 112 []).length).all (jx_okR 112) = true := by decide +kernel
theorem jx_ck113 : (List.range (jx_nth jx_cd 113 []).length).all (jx_okR 113) = true := by decide +kernel
theorem jx_ck114 : (List.range (jx_nth jx_cd 114 []).length).all (jx_okR 114) = true := by decide +kernel
theorem jx_ck115 : (List.range (jx_nth jx_cd 115 []).length).all (jx_okR 115) = true := by decide +kernel
theorem jx_ck116 : (List.range (jx_nth jx_cd 116 []).length).all (jx_okR 116) = true := by decide +kernel
theorem jx_ck117 : (List.range (jx_nth jx_cd 117 []).length).all (jx_okR 117) = true := by decide +kernel
theorem jx_ck118 : (List.range (jx_nth jx_cd 118 []).length).all (jx_okR 118) = true := by decide +kernel
theorem jx_ck119 : (List.range (jx_nth jx_cd 119 []).length).all (jx_okR 119) = true := by decide +kernel
theorem jx_ck120 : (List.range (jx_nth jx_cd 120 []).length).all (jx_okR 120) = true := by decide +kernel
theorem jx_ck121 : (List.range (jx_nth jx_cd 121 []).length).all (jx_okR 121) = true := by decide +kernel
theorem jx_ck122_0 : (List.range' 0 48).all (jx_okR 122) = true := by decide +kernel
theorem jx_ck122_48 : (List.range' 48 48).all (jx_okR 122) = true := by decide +kernel
theorem jx_ck122_96 : (List.range' 96 20).all (jx_okR 122) = true := by decide +kernel
theorem jx_ck122 : (List.range (jx_nth jx_cd 122 []).length).all (jx_okR 122) = true := by
  refine List.all_eq_true.mpr (fun i hi => ?_)
  have hi : i < 116 := List.mem_range.mp hi
  rcases Nat.lt_or_ge i 48 with h | h
  · exact List.all_eq_true.mp jx_ck122_0 i (List.mem_range'_1.mpr ⟨by omega, by omega⟩)
  rcases Nat.lt_or_ge i 96 with h | h
  · exact List.all_eq_true.mp jx_ck122_48 i (List.mem_range'_1.mpr ⟨by omega, by omega⟩)
  exact List.all_eq_true.mp jx_ck122_96 i (List.mem_range'_1.mpr ⟨by omega, by omega⟩)
theorem jx_ck123 : (List.range (jx_nth jx_cd 123 []).length).all (jx_okR 123) = true := by decide +kernel
theorem jx_ck124 : (List.range (jx_nth jx_cd 124 []).length).all (jx_okR 124) = true := by decide +kernel
theorem jx_ck125 : (List.range (jx_nth jx_cd 125 []).length).all (jx_okR 125) = true := by decide +kernel
theorem jx_ck126_0 : (List.range' 0 48).all (jx_okR 126) = true := by decide +kernel
theorem jx_ck126_48 : (List.range' 48 48).all (jx_okR 126) = true := by decide +kernel
theorem jx_ck126_96 : (List.range' 96 1).all (jx_okR 126) = true := by decide +kernel
theorem jx_ck126 : (List.range (jx_nth jx_cd 126 []).length).all (jx_okR 126) = true := by
  refine List.all_eq_true.mpr (fun i hi => ?_)
  have hi : i < 97 := List.mem_range.mp hi
  rcases Nat.lt_or_ge i 48 with h | h
  · exact List.all_eq_true.mp jx_ck126_0 i (List.mem_range'_1.mpr ⟨by omega, by omega⟩)
  rcases Nat.lt_or_ge i 96 with h | h
  · exact List.all_eq_true.mp jx_ck126_48 i (List.mem_range'_1.mpr ⟨by omega, by omega⟩)
  exact List.all_eq_true.mp jx_ck126_96 i (List.mem_range'_1.mpr ⟨by omega, by omega⟩)
theorem jx_ck127 : (List.range (jx_nth jx_cd 127 []).length).all (jx_okR 127) = true := by decide +kernel
theorem jx_ck128 : (List.range (jx_nth jx_cd 128 []).length).all (jx_okR 128) = true := by decide +kernel
theorem jx_ck129 : (List.range (jx_nth jx_cd 129 []).length).all (jx_okR 129) = true := by decide +kernel
theorem jx_ck130 : (List.range (jx_nth jx_cd 130 []).length).all (jx_okR 130) = true := by decide +kernel
theorem jx_ck131 : (List.range (jx_nth jx_cd 131 []).length).all (jx_okR 131) = true := by decide +kernel
