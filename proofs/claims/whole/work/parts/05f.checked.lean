theorem jx_ck182_0 : (List.range' 0 48).all (jx_okR 182) = true := by decide +kernel
theorem jx_ck182_48 : (List.range' 48 48).all (jx_okR 182) = true := by decide +kernel
theorem jx_ck182_96 : (List.range' 96 48).all (jx_okR 182) = true := by decide +kernel
theorem jx_ck182_144 : (List.range' 144 3).all (jx_okR 182) = true := by decide +kernel
theorem jx_ck182 : (List.range (jx_nth jx_cd 182 []).length).all (jx_okR 182) = true := by
  refine List.all_eq_true.mpr (fun i hi => ?_)
  have hi : i < 147 := List.mem_range.mp hi
  rcases Nat.lt_or_ge i 48 with h | h
  · exact List.all_eq_true.mp jx_ck182_0 i (List.mem_range'_1.mpr ⟨by omega, by omega⟩)
  rcases Nat.lt_or_ge i 96 with h | h
  · exact List.all_eq_true.mp jx_ck182_48 i (List.mem_range'_1.mpr ⟨by omega, by omega⟩)
  rcases Nat.lt_or_ge i 144 with h | h
  · exact List.all_eq_true.mp jx_ck182_96 i (List.mem_range'_1.mpr ⟨by omega, by omega⟩)
  exact List.all_eq_true.mp jx_ck182_144 i (List.mem_range'_1.mpr ⟨by omega, by omega⟩)
theorem jx_ck183 : (List.range (jx_nth jx_cd 183 []).length).all (jx_okR 183) = true := by decide +kernel
theorem jx_ck184 : (List.range (jx_nth jx_cd 184 []).length).all (jx_okR 184) = true := by decide +kernel
theorem jx_ck185 : (List.range (jx_nth jx_cd 185 []).length).all (jx_okR 185) = true := by decide +kernel
theorem jx_ck186_0 : (List.range' 0 48).all (jx_okR 186) = true := by decide +kernel
theorem jx_ck186_48 : (List.range' 48 48).all (jx_okR 186) = true := by decide +kernel
theorem jx_ck186_96 : (List.range' 96 48).all (jx_okR 186) = true := by decide +kernel
theorem jx_ck186_144 : (List.range' 144 9).all (jx_okR 186) = true := by decide +kernel
theorem jx_ck186 : (List.range (jx_nth jx_cd 186 []).length).all (jx_okR 186) = true := by
  refine List.all_eq_true.mpr (fun i hi => ?_)
  have hi : i < 153 := List.mem_range.mp hi
  rcases Nat.lt_or_ge i 48 with h | h
  · exact List.all_eq_true.mp jx_ck186_0 i (List.mem_range'_1.mpr ⟨by omega, by omega⟩)
  rcases Nat.lt_or_ge i 96 with h | h
  · exact List.all_eq_true.mp jx_ck186_48 i (List.mem_range'_1.mpr ⟨by omega, by omega⟩)
  rcases Nat.lt_or_ge i 144 with h | h
  · exact List.all_eq_true.mp jx_ck186_96 i (List.mem_range'_1.mpr ⟨by omega, by omega⟩)
  exact List.all_eq_true.mp jx_ck186_144 i (List.mem_range'_1.mpr ⟨by omega, by omega⟩)
theorem jx_ck187 : (List.range (jx_nth jx_cd 187 []).length).all (jx_okR 187) = true := by decide +kernel
theorem jx_ck188 : (List.range (jx_nth jx_cd 188 []).length).all (jx_okR 188) = true := by decide +kernel
theorem jx_ck189 : (List.range (jx_nth jx_cd 189 []).length).all (jx_okR 189) = true := by decide +kernel
theorem jx_ck190_0 : (List.range' 0 48).all (jx_okR 190) = true := by decide +kernel
theorem jx_ck190_48 : (List.range' 48 48).all (jx_okR 190) = true := by decide +kernel
theorem jx_ck190_96 : (List.range' 96 3).all (jx_okR 190) = true := by decide +kernel
theorem jx_ck190 : (List.range (jx_nth jx_cd 190 []).length).all (jx_okR 190) = true := by
  refine List.all_eq_true.mpr (fun i hi => ?_)
  have hi : i < 99 := List.mem_range.mp hi
  rcases Nat.lt_or_ge i 48 with h | h
  · exact List.all_eq_true.mp jx_ck190_0 i (List.mem_range'_1.mpr ⟨by omega, by omega⟩)
  rcases Nat.lt_or_ge i 96 with h | h
  · exact List.all_eq_true.mp jx_ck190_48 i (List.mem_range'_1.mpr ⟨by omega, by omega⟩)
  exact List.all_eq_true.mp jx_ck190_96 i (List.mem_range'_1.mpr ⟨by omega, by omega⟩)
theorem jx_ck191_0 : (List.range' 0 48).all (jx_okR 191) = true := by decide +kernel
theorem jx_ck191_48 : (List.range' 48 48).all (jx_okR 191) = true := by decide +kernel
theorem jx_ck191_96 : (List.range' 96 48).all (jx_okR 191) = true := by decide +kernel
theorem jx_ck191_144 : (List.range' 144 48).all (jx_okR 191) = true := by decide +kernel
theorem jx_ck191_192 : (List.range' 192 48).all (jx_okR 191) = true := by decide +kernel
theorem jx_ck191_240 : (List.range' 240 48).all (jx_okR 191) = true := by decide +kernel
theorem jx_ck191_288 : (List.range' 288 48).all (jx_okR 191) = true := by decide +kernel
theorem jx_ck191_336 : (List.range' 336 48).all (jx_okR 191) = true := by decide +kernel
theorem jx_ck191_384 : (List.range' 384 48).all (jx_okR 191) = true := by decide +kernel
theorem jx_ck191_432 : (List.range' 432 48).all (jx_okR 191) = true := by decide +kernel
theorem jx_ck191_480 : (List.range' 480 48).all (jx_okR 191) = true := by decide +kernel
theorem jx_ck191_528 : (List.range' 528 48).all (jx_okR 191) = true := by decide +kernel
theorem jx_ck191_576 : (List.range' 576 48).all (jx_okR 191) = true := by decide +kernel
theorem jx_ck191_624 : (List.range' 624 48).all (jx_okR 191) = true := by decide +kernel
theorem jx_ck191_672 : (List.range' 672 48).all (jx_okR 191) = true := by decide +kernel
theorem jx_ck191_720 : (List.range' 720 48).all (jx_okR 191) = true := by decide +kernel
