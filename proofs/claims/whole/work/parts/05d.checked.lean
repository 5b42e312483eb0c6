theorem jx_ck132 : (List.range (jx_nth jx_cd 132 []).length).all (jx_okR 132) = true := by decide +kernel
theorem jx_ck133 : (List.range (jx_nth jx_cd 133 []).length).all (jx_okR 133) = true := by decide +kernel
theorem jx_ck134 : (List.range (jx_nth jx_cd 134 []).length).all (jx_okR 134) = true := by decide +kernel
theorem jx_ck135 : (List.range (jx_nth jx_cd 135 []).length).all (jx_okR 135) = true := by decide +kernel
theorem jx_ck136_0 : (List.range' 0 48).all (jx_okR 136) = true := by decide +kernel
theorem jx_ck136_48 : (List.range' 48 48).all (jx_okR 136) = true := by decide +kernel
theorem jx_ck136_96 : (List.range' 96 3).all (jx_okR 136) = true := by decide +kernel
theorem jx_ck136 : (List.range (jx_nth jx_cd 136 []).length).all (jx_okR 136) = true := by
  refine List.all_eq_true.mpr (fun i hi => ?_)
  have hi : i < 99 := List.mem_range.mp hi
  rcases Nat.lt_or_ge i 48 with h | h
  · exact List.all_eq_true.mp jx_ck136_0 i (List.mem_range'_1.mpr ⟨by omega, by omega⟩)
  rcases Nat.lt_or_ge i 96 with h | h
  · exact List.all_eq_true.mp jx_ck136_48 i (List.mem_range'_1.mpr ⟨by omega, by omega⟩)
  exact List.all_eq_true.mp jx_ck136_96 i (List.mem_range'_1.mpr ⟨by omega, by omega⟩)
theorem jx_ck137_0 : (List.range' 0 48).all (jx_okR 137) = true := by decide +kernel
theorem jx_ck137_48 : (List.range' 48 42).all (jx_okR 137) = true := by decide +kernel
theorem jx_ck137 : (List.range (jx_nth jx_cd 137 []).length).all (jx_okR 137) = true := by
  refine List.all_eq_true.mpr (fun i hi => ?_)
  have hi : i < 90 := List.mem_range.mp hi
  rcases Nat.lt_or_ge i 48 with h | h
  · exact List.all_eq_true.mp jx_ck137_0 i (List.mem_range'_1.mpr ⟨by omega, by omega⟩)
  exact List.all_eq_true.mp jx_ck137_48 i (List.mem_range'_1.mpr ⟨by omega, by omega⟩)
theorem jx_ck138 : (List.range (jx_nth jx_cd 138 []).length).all (jx_okR 138) = true := by decide +kernel
theorem jx_ck139 : (List.range (jx_nth jx_cd 139 []).length).all (jx_okR 139) = true := by decide +kernel
theorem jx_ck140 : (List.range (jx_nth jx_cd 140 []).length).all (jx_okR 140) = true := by decide +kernel
theorem jx_ck141 : (List.range (jx_nth jx_cd 141 []).length).all (jx_okR 141) = true := by decide +kernel
theorem jx_ck142 : (List.range (jx_nth jx_cd 142 []).length).all (jx_okR 142) = true := by decide +kernel
theorem jx_ck143 : (List.range (jx_nth jx_cd 143 []).length).all (jx_okR 143) = true := by decide +kernel
theorem jx_ck144 : (List.range (jx_nth jx_cd 144 []).length).all (jx_okR 144) = true := by decide +kernel
theorem jx_ck145 : (List.range (jx_nth jx_cd 145 []).length).all (jx_okR 145) = true := by decide +kernel
theorem jx_ck146 : (List.range (jx_nth jx_cd 146 []).length).all (jx_okR 146) = true := by decide +kernel
theorem jx_ck147_0 : (List.range' 0 48).all (jx_okR 147) = true := by decide +kernel
theorem jx_ck147_48 : (List.range' 48 48).all (jx_okR 147) = true := by decide +kernel
theorem jx_ck147 : (List.range (jx_nth jx_cd 147 []).length).all (jx_okR 147) = true := by
  refine List.all_eq_true.mpr (fun i hi => ?_)
  have hi : i < 96 := List.mem_range.mp hi
  rcases Nat.lt_or_ge i 48 with h | h
  · exact List.all_eq_true.mp jx_ck147_0 i (List.mem_range'_1.mpr ⟨by omega, by omega⟩)
  exact List.all_eq_true.mp jx_ck147_48 i (List.mem_range'_1.mpr ⟨by omega, by omega⟩)
theorem jx_ck148 : (List.range (jx_nth jx_cd 148 []).length).all (jx_okR 148) = true := by decide +kernel
theorem jx_ck149 : (List.range (jx_nth jx_cd 149 []).length).all (jx_okR 149) = true := by decide +kernel
theorem jx_ck150 : (List.range (jx_nth jx_cd 150 []).length).all (jx_okR 150) = true := by decide +kernel
theorem jx_ck151 : (List.range (jx_nth jx_cd 151 []).length).all (jx_okR 151) = true := by decide +kernel
theorem jx_ck152 : (List.range (jx_nth jx_cd 152 []).length).all (jx_okR 152) = true := by decide +kernel
theorem jx_ck153 : (List.range (jx_nth jx_cd 153 []).length).all (jx_okR 153) = true := by decide +kernel
theorem jx_ck154 : (List.range (jx_nth jx_cd 154 []).length).all (jx_okR 154) = true := by decide +kernel
theorem jx_ck155_0 : (List.range' 0 48).all (jx_okR 155) = true := by decide +kernel
theorem jx_ck155_48 : (List.range' 48 30).all (jx_okR 155) = true := by decide +kernel
theorem jx_ck155 : (List.range (jx_nth jx_cd 155 []).length).all (jx_okR 155) = true := by
  refine List.all_eq_true.mpr (fun i hi => ?_)
  have hi : i < 78 := List.mem_range.mp hi
  rcases Nat.lt_or_ge i 48 with h | h
  · exact List.all_eq_true.mp jx_ck155_0 i (List.mem_range'_1.mpr ⟨by omega, by omega⟩)
  exact List.all_eq_true.mp jx_ck155_48 i (List.mem_range'_1.mpr ⟨by omega, by omega⟩)
theorem jx_ck156 : (List.range (jx_nth jx_cd 156 []).length).all (jx_okR 156) = true := by decide +kernel
theorem jx_ck157_0 : (List.range' 0 48).all (jx_okR 157) = true := by decide +kernel
theorem jx_ck157_48 : (List.range' 48 48).all (jx_okR 157) = true := by decide +kernel
theorem jx_ck157_96 : (List.range' 96 48).all (jx_okR 157) = true := by decide +kernel
theorem jx_ck157_144 : (List.range' 144 22).all (jx_okR 157) = true := by decide +kernel
theorem jx_ck157 : (List.range (jx_nth jx_cd 157 []).length).all (jx_okR 157) = true := by
  refine List.all_eq_true.mpr (fun i hi => ?_)
  have hi : i < 166 := List.mem_range.mp hi
  rcases Nat.lt_or_ge i 48 with h | h
  · exact List.all_eq_true.mp jx_ck157_0 i (List.mem_range'_1.mpr ⟨by omega, by omega⟩)
  rcases Nat.lt_or_ge i 96 with h | h
  · exact List.all_eq_true.mp jx_ck157_48 i (List.mem_range'_1.mpr ⟨by omega, by omega⟩)
  rcases Nat.lt_or_ge i 144 with h | h
  · exact List.all_eq_true.mp jx_ck157_96 i (List.mem_range'_1.mpr ⟨by omega, by omega⟩)
  exact List.all_eq_true.mp jx_ck157_144 i (List.mem_range'_1.mpr ⟨by omega, by omega⟩)
theorem jx_ck158 : (List.range (jx_nth jx_cd 158 []).length).all (jx_okR 158) = true := by decide +kernel
theorem jx_ck159 : (List.range (jx_nth jx_cd 159 []).length).all (jx_okR 159) = true := by decide +kernel
