theorem jx_ck160 : (List.range (jx_nth jx_cd 160 []).length).all (jx_okR 160) = true := by decide +kernel
theorem jx_ck161 : (List.range (jx_nth jx_cd 161 []).length).all (jx_okR 161) = true := by decide +kernel
theorem jx_ck162_0 : (List.range' 0 48).all (jx_okR 162) = true := by decide +kernel
theorem jx_ck162_48 : (List.range' 48 31).all (jx_okR 162) = true := by decide +kernel
theorem jx_ck162 : (List.range (jx_nth jx_cd 162 []).length).all (jx_okR 162) = true := by
  refine List.all_eq_true.mpr (fun i hi => ?_)
  have hi : i < 79 := List.mem_range.mp hi
  rcases Nat.lt_or_ge i 48 with h | h
  · exact List.all_eq_true.mp jx_ck162_0 i (List.mem_range'_1.mpr ⟨by omega, by omega⟩)
  exact List.all_eq_true.mp jx_ck162_48 i (List.mem_range'_1.mpr ⟨by omega, by omega⟩)
theorem jx_ck163_0 : (List.range' 0 48).all (jx_okR 163) = true := by decide +kernel
theorem jx_ck163_48 : (List.range' 48 48).all (jx_okR 163) = true := by decide +kernel
theorem jx_ck163_96 : (List.range' 96 6).all (jx_okR 163) = true := by decide +kernel
theorem jx_ck163 : (List.range (jx_nth jx_cd 163 []).length).all (jx_okR 163) = true := by
  refine List.all_eq_true.mpr (fun i hi => ?_)
  have hi : i < 102 := List.mem_range.mp hi
  rcases Nat.lt_or_ge i 48 with h | h
  · exact List.all_eq_true.mp jx_ck163_0 i (List.mem_range'_1.mpr ⟨by omega, by omega⟩)
  rcases Nat.lt_or_ge i 96 with h | h
  · exact List.all_eq_true.mp jx_ck163_48 i (List.mem_range'_1.mpr ⟨by omega, by omega⟩)
  exact List.all_eq_true.mp jx_ck163_96 i (List.mem_range'_1.mpr ⟨by omega, by omega⟩)
theorem jx_ck164_0 : (List.range' 0 48).all (jx_okR 164) = true := by decide +kernel
theorem jx_ck164_48 : (List.range' 48 48).all (jx_okR 164) = true := by decide +kernel
theorem jx_ck164_96 : (List.range' 96 48).all (jx_okR 164) = true := by decide +kernel
theorem jx_ck164_144 : (List.range' 144 48).all (jx_okR 164) = true := by decide +kernel
theorem jx_ck164_192 : (List.range' 192 22).all (jx_okR 164) = true := by decide +kernel
theorem jx_ck164 : (List.range (jx_nth jx_cd 164 []).length).all (jx_okR 164) = true := by
  refine List.all_eq_true.mpr (fun i hi => ?_)
  have hi : i < 214 := List.mem_range.mp hi
  rcases Nat.lt_or_ge i 48 with h | h
  · exact List.all_eq_true.mp jx_ck164_0 i (List.mem_range'_1.mpr ⟨by omega, by omega⟩)
  rcases Nat.lt_or_ge i 96 with h | h
  · exact List.all_eq_true.mp jx_ck164_48 i (List.mem_range'_1.mpr ⟨by omega, by omega⟩)
  rcases Nat.lt_or_ge i 144 with h | h
  · exact List.all_eq_true.mp jx_ck164_96 i (List.mem_range'_1.mpr ⟨by omega, by omega⟩)
  rcases Nat.lt_or_ge i 192 with h | h
  · exact List.all_eq_true.mp jx_ck164_144 i (List.mem_range'_1.mpr ⟨by omega, by omega⟩)
  exact List.all_eq_true.mp jx_ck164_192 i (List.mem_range'_1.mpr ⟨by omega, by omega⟩)
theorem jx_ck165_0 : (List.range' 0 48).all (jx_okR 165) = true := by decide +kernel
theorem jx_ck165_48 : (List.range' 48 48).all (jx_okR 165) = true := by decide +kernel
theorem jx_ck165_96 : (List.range' 96 34).all (jx_okR 165) = true := by decide +kernel
theorem jx_ck165 : (List.range (jx_nth jx_cd 165 []).length).all (jx_okR 165) = true := by
  refine List.all_eq_true.mpr (fun i hi => ?_)
  have hi : i < 130 := List.mem_range.mp hi
  rcases Nat.lt_or_ge i 48 with h | h
  · exact List.all_eq_true.mp jx_ck165_0 i (List.mem_range'_1.mpr ⟨by omega, by omega⟩)
  rcases Nat.lt_or_ge i 96 with h | h
  · exact List.all_eq_true.mp jx_ck165_48 i (List.mem_range'_1.mpr ⟨by omega, by omega⟩)
  exact List.all_eq_true.mp jx_ck165_96 i (List.mem_range'_1.mpr ⟨by omega, by omega⟩)
theorem jx_ck166 : (List.range (jx_nth jx_cd 166 []).length).all (jx_okR 166) = true := by decide +kernel
theorem jx_ck167 : (List.range (jx_nth jx_cd 167 []).length).all (jx_okR 167) = true := by decide +kernel
theorem jx_ck168 : (List.range (jx_nth jx_cd 168 []).length).all (jx_okR 168) = true := by decide +kernel
theorem jx_ck169 : (List.range (jx_nth jx_cd 169 []).length).all (jx_okR 169) = true := by decide +kernel
theorem jx_ck170 : (List.range (jx_nth jx_cd 170 []).length).all (jx_okR 170) = true := by decide +kernel
theorem jx_ck171 : (List.range (jx_nth jx_cd 171 []).length).all (jx_okR 171) = true := by decide +kernel
theorem jx_ck172 : (List.range (jx_nth jx_cd 172 []).length).all (jx_okR 172) = true := by decide +kernel
theorem jx_ck173_0 : (List.range' 0 48).all (jx_okR 173) = true := by decide +kernel
theorem jx_ck173_48 : (List.range' 48 48).all (jx_okR 173) = true := by decide +kernel
theorem jx_ck173_96 : (List.range' 96 42).all (jx_okR 173) = true := by decide +kernel
theorem jx_ck173 : (List.range (jx_nth jx_cd 173 []).length).all (jx_okR 173) = true := by
  refine List.all_eq_true.mpr (fun i hi => ?_)
  have hi : i < 138 := List.mem_range.mp hi
  rcases Nat.lt_or_ge i 48 with h | h
  · exact List.all_eq_true.mp jx_ck173_0 i (List.mem_range'_1.mpr ⟨by omega, by omega⟩)
  rcases Nat.lt_or_ge i 96 with h | h
  · exact List.all_eq_true.mp jx_ck173_48 i (List.mem_range'_1.mpr ⟨by omega, by omega⟩)
  exact List.all_eq_true.mp jx_ck173_96 i (List.mem_range'_1.mpr ⟨by omega, by omega⟩)
theorem jx_ck174 : (List.range (jx_nth jx_cd 174 []).length).all (jx_okR 174) = true := by decide +kernel
theorem jx_ck175 : (List.range (jx_nth jx_cd 175 []).length).all (jx_okR 175) = true := by decide +kernel
theorem jx_ck176 : (List.range (jx_nth jx_cd 176 []).length).all (jx_okR 176) = true := by decide +kernel
theorem jx_ck177 : (List.range (jx_nth jx_cd 177 []).length).all (jx_okR 177) = true := by decide +kernel
theorem jx_ck178_0 : (List.range' 0 48).all (jx_okR 178) = true := by decide +kernel
theorem jx_ck178_48 : (List.range' 48 37).all (jx_okR 178) = true := by decide +kernel
theorem jx_ck178 : (List.range (jx_nth jx_cd 178 []).length).all (jx_okR 178) = true := by
  refine List.all_eq_true.mpr (fun i hi => ?_)
  have hi : i < 85 := List.mem_range.mp hi
  rcases Nat.lt_or_ge i 48 with h | h
  · exact List.all_eq_true.mp jx_ck178_0 i (List.mem_range'_1.mpr ⟨by omega, by omega⟩)
  exact List.all_eq_true.mp jx_ck178_48 i (List.mem_range'_1.mpr ⟨by omega, by omega⟩)
theorem jx_ck179 : (List.range (jx_nth jx_cd 179 []).length).all (jx_okR 179) = true := by decide +kernel
theorem jx_ck180_0 : (List.range' 0 48).all (jx_okR 180) = true := by decide +kernel
theorem jx_ck180_48 : (List.range' 48 39).all (jx_okR 180) = true := by decide +kernel
theorem jx_ck180 : (List.range (jx_nth jx_cd 180 []).length).all (jx_okR 180) = true := by
  refine List.all_eq_true.mpr (fun i hi => ?_)
  have hi : i < 87 := List.mem_range.mp hi
  rcases Nat.lt_or_ge i 48 with h | h
  · exact List.all_eq_true.mp jx_ck180_0 i (List.mem_range'_1.mpr ⟨by omega, by omega⟩)
  exact List.all_eq_true.mp jx_ck180_48 i (List.mem_range'_1.mpr ⟨by omega, by omega⟩)
theorem jx_ck181 : (List.range (jx_nth jx_cd 181 []).length).all (jx_okR 181) = true := by decide +kernel
