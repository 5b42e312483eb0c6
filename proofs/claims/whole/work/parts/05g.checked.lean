theorem jx_ck191_768 : (List.range' 768 48).all (jx_okR 191) = true := by decide +kernel
theorem jx_ck191_816 : (List.range' 816 48).all (jx_okR 191) = true := by decide +kernel
theorem jx_ck191_864 : (List.range' 864 48).all (jx_okR 191) = true := by decide +kernel
theorem jx_ck191_912 : (List.range' 912 48).all (jx_okR 191) = true := by decide +kernel
theorem jx_ck191_960 : (List.range' 960 48).all (jx_okR 191) = true := by decide +kernel
theorem jx_ck191_1008 : (List.range' 1008 48).all (jx_okR 191) = true := by decide +kernel
theorem jx_ck191_1056 : (List.range' 1056 48).all (jx_okR 191) = true := by decide +kernel
theorem jx_ck191_1104 : (List.range' 1104 48).all (jx_okR 191) = true := by decide +kernel
