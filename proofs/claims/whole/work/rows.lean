section
-- ===== PART A: goes FIRST, ahead of the names: the tables' words, and 'selects' of the private methods out of them =====
/-- a private method of a class that the tables say can be made, by its rows of tables_1 -/
def lw_okq (q : MethodName × Nat) : Prop := (q.1.cls ≠ "java/lang/invoke/MethodHandle" ∧ q.1.cls ≠ "java/lang/invoke/VarHandle") ∧ Cond.instantiable q.1.cls q.2 ∈ tables_1 ∧ Cond.privateMethod q.1 ∈ tables_1 ∧ Cond.instanceMethod q.1 ∈ tables_1
theorem lw_p0 : lw_okq (⟨"StreetCries$Tape", "isDigit", "(I)Z"⟩, 2) := ⟨⟨by decide +kernel, by decide +kernel⟩, List.mem_of_getElem? (i := 233) (by decide +kernel), List.mem_of_getElem? (i := 362) (by decide +kernel), List.mem_of_getElem? (i := 363) (by decide +kernel)⟩
theorem lw_p1 : lw_okq (⟨"StreetCries$Tape", "behindBlanks", "(I)I"⟩, 2) := ⟨⟨by decide +kernel, by decide +kernel⟩, List.mem_of_getElem? (i := 233) (by decide +kernel), List.mem_of_getElem? (i := 381) (by decide +kernel), List.mem_of_getElem? (i := 382) (by decide +kernel)⟩
theorem lw_p2 : lw_okq (⟨"StreetCries$Tape", "behindDigits", "(I)I"⟩, 2) := ⟨⟨by decide +kernel, by decide +kernel⟩, List.mem_of_getElem? (i := 233) (by decide +kernel), List.mem_of_getElem? (i := 385) (by decide +kernel), List.mem_of_getElem? (i := 386) (by decide +kernel)⟩
theorem lw_p3 : lw_okq (⟨"StreetCries$Tape", "numberIn", "(II)I"⟩, 2) := ⟨⟨by decide +kernel, by decide +kernel⟩, List.mem_of_getElem? (i := 233) (by decide +kernel), List.mem_of_getElem? (i := 389) (by decide +kernel), List.mem_of_getElem? (i := 390) (by decide +kernel)⟩
theorem lw_p4 : lw_okq (⟨"StreetCries$Town", "isStill", "(I)Z"⟩, 9) := ⟨⟨by decide +kernel, by decide +kernel⟩, List.mem_of_getElem? (i := 24) (by decide +kernel), List.mem_of_getElem? (i := 452) (by decide +kernel), List.mem_of_getElem? (i := 453) (by decide +kernel)⟩
theorem lw_p5 : lw_okq (⟨"StreetCries$Town", "isCrowded", "(II)Z"⟩, 9) := ⟨⟨by decide +kernel, by decide +kernel⟩, List.mem_of_getElem? (i := 24) (by decide +kernel), List.mem_of_getElem? (i := 457) (by decide +kernel), List.mem_of_getElem? (i := 458) (by decide +kernel)⟩
theorem lw_p6 : lw_okq (⟨"StreetCries$Day", "gatherCries", "(LStreetCries$Town;)V"⟩, 7) := ⟨⟨by decide +kernel, by decide +kernel⟩, List.mem_of_getElem? (i := 186) (by decide +kernel), List.mem_of_getElem? (i := 513) (by decide +kernel), List.mem_of_getElem? (i := 514) (by decide +kernel)⟩
theorem lw_p7 : lw_okq (⟨"StreetCries$Day", "gatherLuring", "(LStreetCries$Town;)V"⟩, 7) := ⟨⟨by decide +kernel, by decide +kernel⟩, List.mem_of_getElem? (i := 186) (by decide +kernel), List.mem_of_getElem? (i := 520) (by decide +kernel), List.mem_of_getElem? (i := 521) (by decide +kernel)⟩
theorem lw_p8 : lw_okq (⟨"StreetCries$Day", "live", "(LStreetCries$Town;LStreetCries$Buyer;I)V"⟩, 7) := ⟨⟨by decide +kernel, by decide +kernel⟩, List.mem_of_getElem? (i := 186) (by decide +kernel), List.mem_of_getElem? (i := 526) (by decide +kernel), List.mem_of_getElem? (i := 527) (by decide +kernel)⟩
theorem lw_p9 : lw_okq (⟨"StreetCries$Trial", "isRest", "(I)Z"⟩, 4) := ⟨⟨by decide +kernel, by decide +kernel⟩, List.mem_of_getElem? (i := 178) (by decide +kernel), List.mem_of_getElem? (i := 602) (by decide +kernel), List.mem_of_getElem? (i := 603) (by decide +kernel)⟩
theorem lw_p10 : lw_okq (⟨"StreetCries", "draftRow", "(II)V"⟩, 8) := ⟨⟨by decide +kernel, by decide +kernel⟩, List.mem_of_getElem? (i := 16) (by decide +kernel), List.mem_of_getElem? (i := 613) (by decide +kernel), List.mem_of_getElem? (i := 614) (by decide +kernel)⟩
theorem lw_p11 : lw_okq (⟨"StreetCries", "distanceToNearest", "([II)I"⟩, 8) := ⟨⟨by decide +kernel, by decide +kernel⟩, List.mem_of_getElem? (i := 16) (by decide +kernel), List.mem_of_getElem? (i := 618) (by decide +kernel), List.mem_of_getElem? (i := 619) (by decide +kernel)⟩
theorem lw_p12 : lw_okq (⟨"StreetCries", "nearestSeller", "([II)I"⟩, 8) := ⟨⟨by decide +kernel, by decide +kernel⟩, List.mem_of_getElem? (i := 16) (by decide +kernel), List.mem_of_getElem? (i := 622) (by decide +kernel), List.mem_of_getElem? (i := 623) (by decide +kernel)⟩
theorem lw_p13 : lw_okq (⟨"StreetCries$Sheet", "differenceOf", "(III)I"⟩, 4) := ⟨⟨by decide +kernel, by decide +kernel⟩, List.mem_of_getElem? (i := 247) (by decide +kernel), List.mem_of_getElem? (i := 738) (by decide +kernel), List.mem_of_getElem? (i := 739) (by decide +kernel)⟩
theorem lw_p14 : lw_okq (⟨"StreetCriesModel", "isSeller", "(I)Z"⟩, 32) := ⟨⟨by decide +kernel, by decide +kernel⟩, List.mem_of_getElem? (i := 770) (by decide +kernel), List.mem_of_getElem? (i := 902) (by decide +kernel), List.mem_of_getElem? (i := 903) (by decide +kernel)⟩
theorem lw_p15 : lw_okq (⟨"StreetCriesModel", "digits", "(II)I"⟩, 32) := ⟨⟨by decide +kernel, by decide +kernel⟩, List.mem_of_getElem? (i := 770) (by decide +kernel), List.mem_of_getElem? (i := 918) (by decide +kernel), List.mem_of_getElem? (i := 919) (by decide +kernel)⟩
def lw_privs_1 : List (MethodName × Nat) := [(⟨"StreetCries$Tape", "isDigit", "(I)Z"⟩, 2), (⟨"StreetCries$Tape", "behindBlanks", "(I)I"⟩, 2), (⟨"StreetCries$Tape", "behindDigits", "(I)I"⟩, 2), (⟨"StreetCries$Tape", "numberIn", "(II)I"⟩, 2), (⟨"StreetCries$Town", "isStill", "(I)Z"⟩, 9), (⟨"StreetCries$Town", "isCrowded", "(II)Z"⟩, 9), (⟨"StreetCries$Day", "gatherCries", "(LStreetCries$Town;)V"⟩, 7), (⟨"StreetCries$Day", "gatherLuring", "(LStreetCries$Town;)V"⟩, 7), (⟨"StreetCries$Day", "live", "(LStreetCries$Town;LStreetCries$Buyer;I)V"⟩, 7), (⟨"StreetCries$Trial", "isRest", "(I)Z"⟩, 4), (⟨"StreetCries", "draftRow", "(II)V"⟩, 8), (⟨"StreetCries", "distanceToNearest", "([II)I"⟩, 8), (⟨"StreetCries", "nearestSeller", "([II)I"⟩, 8), (⟨"StreetCries$Sheet", "differenceOf", "(III)I"⟩, 4), (⟨"StreetCriesModel", "isSeller", "(I)Z"⟩, 32), (⟨"StreetCriesModel", "digits", "(II)I"⟩, 32)]
theorem lw_r1 : ∀ q ∈ lw_privs_1, lw_okq q := List.forall_mem_cons.mpr ⟨lw_p0, List.forall_mem_cons.mpr ⟨lw_p1, List.forall_mem_cons.mpr ⟨lw_p2, List.forall_mem_cons.mpr ⟨lw_p3, List.forall_mem_cons.mpr ⟨lw_p4, List.forall_mem_cons.mpr ⟨lw_p5, List.forall_mem_cons.mpr ⟨lw_p6, List.forall_mem_cons.mpr ⟨lw_p7, List.forall_mem_cons.mpr ⟨lw_p8, List.forall_mem_cons.mpr ⟨lw_p9, List.forall_mem_cons.mpr ⟨lw_p10, List.forall_mem_cons.mpr ⟨lw_p11, List.forall_mem_cons.mpr ⟨lw_p12, List.forall_mem_cons.mpr ⟨lw_p13, List.forall_mem_cons.mpr ⟨lw_p14, List.forall_mem_cons.mpr ⟨lw_p15, fun _ h => absurd h List.not_mem_nil⟩⟩⟩⟩⟩⟩⟩⟩⟩⟩⟩⟩⟩⟩⟩⟩
theorem lw_p16 : lw_okq (⟨"StreetCriesModel", "isDigit", "()Z"⟩, 32) := ⟨⟨by decide +kernel, by decide +kernel⟩, List.mem_of_getElem? (i := 770) (by decide +kernel), List.mem_of_getElem? (i := 922) (by decide +kernel), List.mem_of_getElem? (i := 923) (by decide +kernel)⟩
theorem lw_p17 : lw_okq (⟨"StreetCriesModel", "here", "()I"⟩, 32) := ⟨⟨by decide +kernel, by decide +kernel⟩, List.mem_of_getElem? (i := 770) (by decide +kernel), List.mem_of_getElem? (i := 926) (by decide +kernel), List.mem_of_getElem? (i := 927) (by decide +kernel)⟩
theorem lw_p18 : lw_okq (⟨"StreetCriesModel", "corner", "(I)V"⟩, 32) := ⟨⟨by decide +kernel, by decide +kernel⟩, List.mem_of_getElem? (i := 770) (by decide +kernel), List.mem_of_getElem? (i := 936) (by decide +kernel), List.mem_of_getElem? (i := 937) (by decide +kernel)⟩
theorem lw_p19 : lw_okq (⟨"StreetCriesModel", "placeOf", "(II)I"⟩, 32) := ⟨⟨by decide +kernel, by decide +kernel⟩, List.mem_of_getElem? (i := 770) (by decide +kernel), List.mem_of_getElem? (i := 955) (by decide +kernel), List.mem_of_getElem? (i := 956) (by decide +kernel)⟩
theorem lw_p20 : lw_okq (⟨"StreetCriesModel", "carry", "(I)I"⟩, 32) := ⟨⟨by decide +kernel, by decide +kernel⟩, List.mem_of_getElem? (i := 770) (by decide +kernel), List.mem_of_getElem? (i := 963) (by decide +kernel), List.mem_of_getElem? (i := 964) (by decide +kernel)⟩
theorem lw_p21 : lw_okq (⟨"StreetCriesModel", "hears", "(III)Z"⟩, 32) := ⟨⟨by decide +kernel, by decide +kernel⟩, List.mem_of_getElem? (i := 770) (by decide +kernel), List.mem_of_getElem? (i := 971) (by decide +kernel), List.mem_of_getElem? (i := 972) (by decide +kernel)⟩
theorem lw_p22 : lw_okq (⟨"StreetCriesModel", "cries", "(II)Z"⟩, 32) := ⟨⟨by decide +kernel, by decide +kernel⟩, List.mem_of_getElem? (i := 770) (by decide +kernel), List.mem_of_getElem? (i := 975) (by decide +kernel), List.mem_of_getElem? (i := 976) (by decide +kernel)⟩
theorem lw_p23 : lw_okq (⟨"StreetCriesModel", "apartOf", "(II)I"⟩, 32) := ⟨⟨by decide +kernel, by decide +kernel⟩, List.mem_of_getElem? (i := 770) (by decide +kernel), List.mem_of_getElem? (i := 983) (by decide +kernel), List.mem_of_getElem? (i := 984) (by decide +kernel)⟩
theorem lw_p24 : lw_okq (⟨"StreetCriesModel", "minutes", "()V"⟩, 32) := ⟨⟨by decide +kernel, by decide +kernel⟩, List.mem_of_getElem? (i := 770) (by decide +kernel), List.mem_of_getElem? (i := 1015) (by decide +kernel), List.mem_of_getElem? (i := 1016) (by decide +kernel)⟩
theorem lw_p25 : lw_okq (⟨"StreetCriesModel", "standing", "(III)I"⟩, 32) := ⟨⟨by decide +kernel, by decide +kernel⟩, List.mem_of_getElem? (i := 770) (by decide +kernel), List.mem_of_getElem? (i := 1019) (by decide +kernel), List.mem_of_getElem? (i := 1020) (by decide +kernel)⟩
theorem lw_p26 : lw_okq (⟨"StreetCriesModel", "isCalled", "(II)Z"⟩, 32) := ⟨⟨by decide +kernel, by decide +kernel⟩, List.mem_of_getElem? (i := 770) (by decide +kernel), List.mem_of_getElem? (i := 1023) (by decide +kernel), List.mem_of_getElem? (i := 1024) (by decide +kernel)⟩
theorem lw_p27 : lw_okq (⟨"StreetCriesModel", "bringsOf", "(I)I"⟩, 32) := ⟨⟨by decide +kernel, by decide +kernel⟩, List.mem_of_getElem? (i := 770) (by decide +kernel), List.mem_of_getElem? (i := 1031) (by decide +kernel), List.mem_of_getElem? (i := 1032) (by decide +kernel)⟩
theorem lw_p28 : lw_okq (⟨"StreetCriesModel", "lays", "(II)V"⟩, 32) := ⟨⟨by decide +kernel, by decide +kernel⟩, List.mem_of_getElem? (i := 770) (by decide +kernel), List.mem_of_getElem? (i := 1053) (by decide +kernel), List.mem_of_getElem? (i := 1054) (by decide +kernel)⟩
theorem lw_p29 : lw_okq (⟨"StreetCriesModel", "nearestOff", "(I)I"⟩, 32) := ⟨⟨by decide +kernel, by decide +kernel⟩, List.mem_of_getElem? (i := 770) (by decide +kernel), List.mem_of_getElem? (i := 1057) (by decide +kernel), List.mem_of_getElem? (i := 1058) (by decide +kernel)⟩
theorem lw_p30 : lw_okq (⟨"StreetCriesModel", "loudnessOf", "(I)I"⟩, 32) := ⟨⟨by decide +kernel, by decide +kernel⟩, List.mem_of_getElem? (i := 770) (by decide +kernel), List.mem_of_getElem? (i := 1065) (by decide +kernel), List.mem_of_getElem? (i := 1066) (by decide +kernel)⟩
theorem lw_p31 : lw_okq (⟨"StreetCriesModel", "heardMinutes", "(II)I"⟩, 32) := ⟨⟨by decide +kernel, by decide +kernel⟩, List.mem_of_getElem? (i := 770) (by decide +kernel), List.mem_of_getElem? (i := 1095) (by decide +kernel), List.mem_of_getElem? (i := 1096) (by decide +kernel)⟩
def lw_privs_2 : List (MethodName × Nat) := [(⟨"StreetCriesModel", "isDigit", "()Z"⟩, 32), (⟨"StreetCriesModel", "here", "()I"⟩, 32), (⟨"StreetCriesModel", "corner", "(I)V"⟩, 32), (⟨"StreetCriesModel", "placeOf", "(II)I"⟩, 32), (⟨"StreetCriesModel", "carry", "(I)I"⟩, 32), (⟨"StreetCriesModel", "hears", "(III)Z"⟩, 32), (⟨"StreetCriesModel", "cries", "(II)Z"⟩, 32), (⟨"StreetCriesModel", "apartOf", "(II)I"⟩, 32), (⟨"StreetCriesModel", "minutes", "()V"⟩, 32), (⟨"StreetCriesModel", "standing", "(III)I"⟩, 32), (⟨"StreetCriesModel", "isCalled", "(II)Z"⟩, 32), (⟨"StreetCriesModel", "bringsOf", "(I)I"⟩, 32), (⟨"StreetCriesModel", "lays", "(II)V"⟩, 32), (⟨"StreetCriesModel", "nearestOff", "(I)I"⟩, 32), (⟨"StreetCriesModel", "loudnessOf", "(I)I"⟩, 32), (⟨"StreetCriesModel", "heardMinutes", "(II)I"⟩, 32)]
theorem lw_r2 : ∀ q ∈ lw_privs_2, lw_okq q := List.forall_mem_cons.mpr ⟨lw_p16, List.forall_mem_cons.mpr ⟨lw_p17, List.forall_mem_cons.mpr ⟨lw_p18, List.forall_mem_cons.mpr ⟨lw_p19, List.forall_mem_cons.mpr ⟨lw_p20, List.forall_mem_cons.mpr ⟨lw_p21, List.forall_mem_cons.mpr ⟨lw_p22, List.forall_mem_cons.mpr ⟨lw_p23, List.forall_mem_cons.mpr ⟨lw_p24, List.forall_mem_cons.mpr ⟨lw_p25, List.forall_mem_cons.mpr ⟨lw_p26, List.forall_mem_cons.mpr ⟨lw_p27, List.forall_mem_cons.mpr ⟨lw_p28, List.forall_mem_cons.mpr ⟨lw_p29, List.forall_mem_cons.mpr ⟨lw_p30, List.forall_mem_cons.mpr ⟨lw_p31, fun _ h => absurd h List.not_mem_nil⟩⟩⟩⟩⟩⟩⟩⟩⟩⟩⟩⟩⟩⟩⟩⟩
theorem lw_p32 : lw_okq (⟨"StreetCriesModel", "finds", "(IIII)I"⟩, 32) := ⟨⟨by decide +kernel, by decide +kernel⟩, List.mem_of_getElem? (i := 770) (by decide +kernel), List.mem_of_getElem? (i := 1128) (by decide +kernel), List.mem_of_getElem? (i := 1129) (by decide +kernel)⟩
def lw_privs_3 : List (MethodName × Nat) := [(⟨"StreetCriesModel", "finds", "(IIII)I"⟩, 32)]
theorem lw_r3 : ∀ q ∈ lw_privs_3, lw_okq q := List.forall_mem_cons.mpr ⟨lw_p32, fun _ h => absurd h List.not_mem_nil⟩
def lw_privs : List (MethodName × Nat) := lw_privs_1 ++ (lw_privs_2 ++ (lw_privs_3))
def lw_tbl : List Cond := k2_sels lw_privs ++ tables_1
theorem lw_privs_ok : ∀ q ∈ lw_privs, lw_okq q := by
  show ∀ q ∈ lw_privs_1 ++ (lw_privs_2 ++ (lw_privs_3)), lw_okq q
  exact List.forall_mem_append.mpr ⟨lw_r1, List.forall_mem_append.mpr ⟨lw_r2, lw_r3⟩⟩
end
section
def RX0 : String := "StreetCries$Buyer"
def TX0 : u_T := fun k => match k with
  | 0 => ("StreetCries$Buyer", "corner", "I", false)
  | 1 => ("StreetCries$Buyer", "kind", "I", false)
  | 2 => ("StreetCries$Buyer", "floor", "I", false)
  | _ => ("StreetCries$Buyer", "patience", "I", false)
def tyX0 : Nat → FieldType := fun k => match k with
  | 0 => .int
  | 1 => .int
  | 2 => .int
  | _ => .int
abbrev wsX00 : List Cond := u_ws RX0 TX0 4
theorem nmX0 : ∀ a, a < 4 → ∀ b, b < 4 → a ≠ b → (TX0 a).2.1 ≠ (TX0 b).2.1 := by decide +kernel
theorem tyX0_ok : ∀ k, k < 4 → parseFieldDescriptor (TX0 k).2.2.1 = some (tyX0 k) := by decide +kernel
def RX1 : String := "StreetCries$Day"
def TX1 : u_T := fun k => match k with
  | 0 => ("StreetCries$Day", "boughtFrom", "[I", true)
  | 1 => ("StreetCries$Day", "boughtIn", "[I", true)
  | 2 => ("StreetCries$Day", "wasted", "[I", true)
  | 3 => ("StreetCries$Day", "cryCount", "I", false)
  | 4 => ("StreetCries$Day", "buyerCount", "I", false)
  | 5 => ("StreetCries$Day", "criers", "[I", true)
  | _ => ("StreetCries$Day", "luring", "[I", true)
def tyX1 : Nat → FieldType := fun k => match k with
  | 0 => .array .int
  | 1 => .array .int
  | 2 => .array .int
  | 3 => .int
  | 4 => .int
  | 5 => .array .int
  | _ => .array .int
abbrev wsX10 : List Cond := u_ws RX1 TX1 7
theorem nmX1 : ∀ a, a < 7 → ∀ b, b < 7 → a ≠ b → (TX1 a).2.1 ≠ (TX1 b).2.1 := by decide +kernel
theorem tyX1_ok : ∀ k, k < 7 → parseFieldDescriptor (TX1 k).2.2.1 = some (tyX1 k) := by decide +kernel
def RX2 : String := "StreetCries$Seller"
def TX2 : u_T := fun k => match k with
  | 0 => ("StreetCries$Seller", "corners", "[I", true)
  | 1 => ("StreetCries$Seller", "notes", "[I", true)
  | 2 => ("StreetCries$Seller", "cornerCount", "I", false)
  | 3 => ("StreetCries$Seller", "noteCount", "I", false)
  | 4 => ("StreetCries$Seller", "kind", "I", false)
  | 5 => ("StreetCries$Seller", "loud", "I", false)
  | 6 => ("StreetCries$Seller", "begin", "I", false)
  | 7 => ("StreetCries$Seller", "pace", "I", false)
  | _ => ("StreetCries$Seller", "lift", "I", false)
def tyX2 : Nat → FieldType := fun k => match k with
  | 0 => .array .int
  | 1 => .array .int
  | 2 => .int
  | 3 => .int
  | 4 => .int
  | 5 => .int
  | 6 => .int
  | 7 => .int
  | _ => .int
abbrev wsX20 : List Cond := u_ws RX2 TX2 9
theorem nmX2 : ∀ a, a < 9 → ∀ b, b < 9 → a ≠ b → (TX2 a).2.1 ≠ (TX2 b).2.1 := by decide +kernel
theorem tyX2_ok : ∀ k, k < 9 → parseFieldDescriptor (TX2 k).2.2.1 = some (tyX2 k) := by decide +kernel
def RX3 : String := "StreetCries$Sheet"
def TX3 : u_T := fun k => match k with
  | 0 => ("StreetCries$Sheet", "items", "[I", true)
  | 1 => ("StreetCries$Sheet", "isThere", "Z", false)
  | 2 => ("StreetCries$Sheet", "lane", "I", false)
  | _ => ("StreetCries$Sheet", "count", "I", false)
def tyX3 : Nat → FieldType := fun k => match k with
  | 0 => .array .int
  | 1 => .boolean
  | 2 => .int
  | _ => .int
abbrev wsX30 : List Cond := u_ws RX3 TX3 4
theorem nmX3 : ∀ a, a < 4 → ∀ b, b < 4 → a ≠ b → (TX3 a).2.1 ≠ (TX3 b).2.1 := by decide +kernel
theorem tyX3_ok : ∀ k, k < 4 → parseFieldDescriptor (TX3 k).2.2.1 = some (tyX3 k) := by decide +kernel
def RX4 : String := "StreetCries$Tape"
def TX4 : u_T := fun k => match k with
  | 0 => ("StreetCries$Tape", "bytes", "[I", true)
  | _ => ("StreetCries$Tape", "count", "I", false)
def tyX4 : Nat → FieldType := fun k => match k with
  | 0 => .array .int
  | _ => .int
abbrev wsX40 : List Cond := u_ws RX4 TX4 2
theorem nmX4 : ∀ a, a < 2 → ∀ b, b < 2 → a ≠ b → (TX4 a).2.1 ≠ (TX4 b).2.1 := by decide +kernel
theorem tyX4_ok : ∀ k, k < 2 → parseFieldDescriptor (TX4 k).2.2.1 = some (tyX4 k) := by decide +kernel
def RX5 : String := "StreetCries$Town"
def TX5 : u_T := fun k => match k with
  | 0 => ("StreetCries$Town", "noises", "[I", true)
  | 1 => ("StreetCries$Town", "sellers", "[LStreetCries$Seller;", true)
  | 2 => ("StreetCries$Town", "buyers", "[LStreetCries$Buyer;", true)
  | 3 => ("StreetCries$Town", "windows", "[LStreetCries$Window;", true)
  | 4 => ("StreetCries$Town", "sellerCount", "I", false)
  | 5 => ("StreetCries$Town", "buyerCount", "I", false)
  | 6 => ("StreetCries$Town", "windowCount", "I", false)
  | 7 => ("StreetCries$Town", "likeness", "I", false)
  | _ => ("StreetCries$Town", "bylaws", "I", false)
def tyX5 : Nat → FieldType := fun k => match k with
  | 0 => .array .int
  | 1 => .array (.object "StreetCries$Seller")
  | 2 => .array (.object "StreetCries$Buyer")
  | 3 => .array (.object "StreetCries$Window")
  | 4 => .int
  | 5 => .int
  | 6 => .int
  | 7 => .int
  | _ => .int
abbrev wsX50 : List Cond := u_ws RX5 TX5 9
theorem nmX5 : ∀ a, a < 9 → ∀ b, b < 9 → a ≠ b → (TX5 a).2.1 ≠ (TX5 b).2.1 := by decide +kernel
theorem tyX5_ok : ∀ k, k < 9 → parseFieldDescriptor (TX5 k).2.2.1 = some (tyX5 k) := by decide +kernel
def RX6 : String := "StreetCries$Trial"
def TX6 : u_T := fun k => match k with
  | 0 => ("StreetCries$Trial", "town", "LStreetCries$Town;", true)
  | 1 => ("StreetCries$Trial", "day", "LStreetCries$Day;", true)
  | 2 => ("StreetCries$Trial", "toOne", "[I", true)
  | _ => ("StreetCries$Trial", "toOther", "[I", true)
def tyX6 : Nat → FieldType := fun k => match k with
  | 0 => .object "StreetCries$Town"
  | 1 => .object "StreetCries$Day"
  | 2 => .array .int
  | _ => .array .int
abbrev wsX60 : List Cond := u_ws RX6 TX6 4
theorem nmX6 : ∀ a, a < 4 → ∀ b, b < 4 → a ≠ b → (TX6 a).2.1 ≠ (TX6 b).2.1 := by decide +kernel
theorem tyX6_ok : ∀ k, k < 4 → parseFieldDescriptor (TX6 k).2.2.1 = some (tyX6 k) := by decide +kernel
def RX7 : String := "StreetCries$Window"
def TX7 : u_T := fun k => match k with
  | 0 => ("StreetCries$Window", "corner", "I", false)
  | 1 => ("StreetCries$Window", "minute", "I", false)
  | _ => ("StreetCries$Window", "isHeard", "Z", false)
def tyX7 : Nat → FieldType := fun k => match k with
  | 0 => .int
  | 1 => .int
  | _ => .boolean
abbrev wsX70 : List Cond := u_ws RX7 TX7 3
theorem nmX7 : ∀ a, a < 3 → ∀ b, b < 3 → a ≠ b → (TX7 a).2.1 ≠ (TX7 b).2.1 := by decide +kernel
theorem tyX7_ok : ∀ k, k < 3 → parseFieldDescriptor (TX7 k).2.2.1 = some (tyX7 k) := by decide +kernel
def RX8 : String := "StreetCries"
def TX8 : u_T := fun k => match k with
  | 0 => ("StreetCries", "now", "LStreetCries$Town;", true)
  | 1 => ("StreetCries", "kept", "LStreetCries$Town;", true)
  | 2 => ("StreetCries", "trial", "LStreetCries$Trial;", true)
  | 3 => ("StreetCries", "today", "LStreetCries$Day;", true)
  | 4 => ("StreetCries", "tape", "LStreetCries$Tape;", true)
  | 5 => ("StreetCries", "sheets", "[LStreetCries$Sheet;", true)
  | 6 => ("StreetCries", "draft", "[I", true)
  | _ => ("StreetCries", "hasImage", "Z", false)
def tyX8 : Nat → FieldType := fun k => match k with
  | 0 => .object "StreetCries$Town"
  | 1 => .object "StreetCries$Town"
  | 2 => .object "StreetCries$Trial"
  | 3 => .object "StreetCries$Day"
  | 4 => .object "StreetCries$Tape"
  | 5 => .array (.object "StreetCries$Sheet")
  | 6 => .array .int
  | _ => .boolean
abbrev wsX80 : List Cond := u_ws RX8 TX8 8
theorem nmX8 : ∀ a, a < 8 → ∀ b, b < 8 → a ≠ b → (TX8 a).2.1 ≠ (TX8 b).2.1 := by decide +kernel
theorem tyX8_ok : ∀ k, k < 8 → parseFieldDescriptor (TX8 k).2.2.1 = some (tyX8 k) := by decide +kernel
def RX9 : String := "StreetCriesModel"
def TX9 : u_T := fun k => match k with
  | 0 => ("StreetCriesModel", "noises", "[I", true)
  | 1 => ("StreetCriesModel", "sellers", "I", false)
  | 2 => ("StreetCriesModel", "parts", "[I", true)
  | 3 => ("StreetCriesModel", "rounds", "[I", true)
  | 4 => ("StreetCriesModel", "tunes", "[I", true)
  | 5 => ("StreetCriesModel", "likeness", "I", false)
  | 6 => ("StreetCriesModel", "bylaws", "I", false)
  | 7 => ("StreetCriesModel", "buyers", "I", false)
  | 8 => ("StreetCriesModel", "wants", "[I", true)
  | 9 => ("StreetCriesModel", "windows", "I", false)
  | 10 => ("StreetCriesModel", "noted", "[I", true)
  | 11 => ("StreetCriesModel", "tape", "[I", true)
  | 12 => ("StreetCriesModel", "taped", "I", false)
  | 13 => ("StreetCriesModel", "at", "I", false)
  | 14 => ("StreetCriesModel", "wrong", "Z", false)
  | 15 => ("StreetCriesModel", "read", "[I", true)
  | 16 => ("StreetCriesModel", "turned", "I", false)
  | 17 => ("StreetCriesModel", "alone", "I", false)
  | 18 => ("StreetCriesModel", "downAt", "[I", true)
  | 19 => ("StreetCriesModel", "boughtOf", "[I", true)
  | 20 => ("StreetCriesModel", "boughtAt", "[I", true)
  | 21 => ("StreetCriesModel", "wasted", "[I", true)
  | 22 => ("StreetCriesModel", "ones", "[I", true)
  | 23 => ("StreetCriesModel", "others", "[I", true)
  | 24 => ("StreetCriesModel", "row", "[I", true)
  | 25 => ("StreetCriesModel", "nearest", "I", false)
  | 26 => ("StreetCriesModel", "image", "[I", true)
  | 27 => ("StreetCriesModel", "isImage", "Z", false)
  | 28 => ("StreetCriesModel", "lanes", "[I", true)
  | 29 => ("StreetCriesModel", "sizes", "[I", true)
  | 30 => ("StreetCriesModel", "items", "[I", true)
  | _ => ("StreetCriesModel", "moved", "[I", true)
def tyX9 : Nat → FieldType := fun k => match k with
  | 0 => .array .int
  | 1 => .int
  | 2 => .array .int
  | 3 => .array .int
  | 4 => .array .int
  | 5 => .int
  | 6 => .int
  | 7 => .int
  | 8 => .array .int
  | 9 => .int
  | 10 => .array .int
  | 11 => .array .int
  | 12 => .int
  | 13 => .int
  | 14 => .boolean
  | 15 => .array .int
  | 16 => .int
  | 17 => .int
  | 18 => .array .int
  | 19 => .array .int
  | 20 => .array .int
  | 21 => .array .int
  | 22 => .array .int
  | 23 => .array .int
  | 24 => .array .int
  | 25 => .int
  | 26 => .array .int
  | 27 => .boolean
  | 28 => .array .int
  | 29 => .array .int
  | 30 => .array .int
  | _ => .array .int
abbrev wsX90 : List Cond := u_ws RX9 TX9 32
theorem nmX9 : ∀ a, a < 32 → ∀ b, b < 32 → a ≠ b → (TX9 a).2.1 ≠ (TX9 b).2.1 := by decide +kernel
theorem tyX9_ok : ∀ k, k < 32 → parseFieldDescriptor (TX9 k).2.2.1 = some (tyX9 k) := by decide +kernel
-- sorts: kind (0 object, 1 ints, 2 references), class or length, how many, sort of elements, stride
def jx_srt : List (Nat × Nat × Nat × Nat × Nat) := [(0, 8, 1, 0, 0), (0, 5, 3, 0, 0), (1, 25, 3, 0, 0), (2, 6, 3, 6, 6), (2, 12, 3, 9, 12), (2, 12, 3, 10, 12), (0, 2, 18, 0, 0), (1, 12, 18, 0, 0), (1, 6, 18, 0, 0), (0, 0, 36, 0, 0), (0, 7, 36, 0, 0), (0, 6, 1, 0, 0),
  (1, 36, 1, 0, 0), (1, 36, 1, 0, 0), (0, 1, 2, 0, 0), (1, 12, 2, 0, 0), (1, 12, 2, 0, 0), (1, 12, 2, 0, 0), (1, 120, 2, 0, 0), (1, 4, 2, 0, 0), (0, 4, 1, 0, 0), (1, 60, 1, 0, 0), (2, 4, 1, 23, 0), (0, 3, 4, 0, 0),
  (1, 24, 4, 0, 0), (1, 25, 1, 0, 0), (0, 9, 1, 0, 0), (1, 25, 1, 0, 0), (1, 24, 1, 0, 0), (1, 78, 1, 0, 0), (1, 42, 1, 0, 0), (1, 48, 1, 0, 0), (1, 36, 1, 0, 0), (1, 60, 1, 0, 0), (1, 25, 1, 0, 0), (1, 12, 1, 0, 0),
  (1, 12, 1, 0, 0), (1, 12, 1, 0, 0), (1, 12, 1, 0, 0), (1, 36, 1, 0, 0), (1, 36, 1, 0, 0), (1, 6, 1, 0, 0), (1, 300, 1, 0, 0), (1, 4, 1, 0, 0), (1, 4, 1, 0, 0), (1, 96, 1, 0, 0), (1, 24, 1, 0, 0)]
def jx_fld : List (List (Nat × Nat × Nat × Nat)) := [[(0, 0, 0, 0), (0, 0, 0, 0), (0, 0, 0, 0), (0, 0, 0, 0)],
  [(2, 15, 1, 0), (2, 16, 1, 0), (2, 17, 1, 0), (0, 0, 0, 0), (0, 0, 0, 0), (2, 18, 1, 0), (2, 19, 1, 0)],
  [(2, 7, 1, 0), (2, 8, 1, 0), (0, 0, 0, 0), (0, 0, 0, 0), (0, 0, 0, 0), (0, 0, 0, 0), (0, 0, 0, 0), (0, 0, 0, 0), (0, 0, 0, 0)],
  [(2, 24, 1, 0), (1, 0, 0, 0), (0, 0, 0, 0), (0, 0, 0, 0)],
  [(2, 21, 1, 0), (0, 0, 0, 0)],
  [(2, 2, 1, 0), (2, 3, 1, 0), (2, 4, 1, 0), (2, 5, 1, 0), (0, 0, 0, 0), (0, 0, 0, 0), (0, 0, 0, 0), (0, 0, 0, 0), (0, 0, 0, 0)],
  [(2, 1, 0, 2), (2, 14, 0, 1), (2, 12, 1, 0), (2, 13, 1, 0)],
  [(0, 0, 0, 0), (0, 0, 0, 0), (1, 0, 0, 0)],
  [(2, 1, 0, 0), (2, 1, 0, 1), (2, 11, 0, 0), (2, 14, 0, 0), (2, 20, 0, 0), (2, 22, 0, 0), (2, 25, 0, 0), (1, 0, 0, 0)],
  [(2, 27, 1, 0), (0, 0, 0, 0), (2, 28, 1, 0), (2, 29, 1, 0), (2, 30, 1, 0), (0, 0, 0, 0), (0, 0, 0, 0), (0, 0, 0, 0), (2, 31, 1, 0), (0, 0, 0, 0), (2, 32, 1, 0), (2, 33, 1, 0), (0, 0, 0, 0), (0, 0, 0, 0), (1, 0, 0, 0), (2, 34, 1, 0), (0, 0, 0, 0), (0, 0, 0, 0), (2, 35, 1, 0), (2, 36, 1, 0), (2, 37, 1, 0), (2, 38, 1, 0), (2, 39, 1, 0), (2, 40, 1, 0), (2, 41, 1, 0), (0, 0, 0, 0), (2, 42, 1, 0), (1, 0, 0, 0), (2, 43, 1, 0), (2, 44, 1, 0), (2, 45, 1, 0), (2, 46, 1, 0)]]
def jx_lay : List (Nat × Nat) := [(0, 0), (1, 0), (2, 0), (3, 0), (4, 0), (5, 0), (6, 0), (7, 0), (8, 0), (6, 1), (7, 1), (8, 1), (6, 2), (7, 2), (8, 2), (6, 3), (7, 3), (8, 3), (6, 4), (7, 4),
  (8, 4), (6, 5), (7, 5), (8, 5), (9, 0), (9, 1), (9, 2), (9, 3), (9, 4), (9, 5), (9, 6), (9, 7), (9, 8), (9, 9), (9, 10), (9, 11), (10, 0), (10, 1), (10, 2), (10, 3),
  (10, 4), (10, 5), (10, 6), (10, 7), (10, 8), (10, 9), (10, 10), (10, 11), (1, 1), (2, 1), (3, 1), (4, 1), (5, 1), (6, 6), (7, 6), (8, 6), (6, 7), (7, 7), (8, 7), (6, 8),
  (7, 8), (8, 8), (6, 9), (7, 9), (8, 9), (6, 10), (7, 10), (8, 10), (6, 11), (7, 11), (8, 11), (9, 12), (9, 13), (9, 14), (9, 15), (9, 16), (9, 17), (9, 18), (9, 19), (9, 20),
  (9, 21), (9, 22), (9, 23), (10, 12), (10, 13), (10, 14), (10, 15), (10, 16), (10, 17), (10, 18), (10, 19), (10, 20), (10, 21), (10, 22), (10, 23), (11, 0), (1, 2), (2, 2), (3, 2), (4, 2),
  (5, 2), (6, 12), (7, 12), (8, 12), (6, 13), (7, 13), (8, 13), (6, 14), (7, 14), (8, 14), (6, 15), (7, 15), (8, 15), (6, 16), (7, 16), (8, 16), (6, 17), (7, 17), (8, 17), (9, 24),
  (9, 25), (9, 26), (9, 27), (9, 28), (9, 29), (9, 30), (9, 31), (9, 32), (9, 33), (9, 34), (9, 35), (10, 24), (10, 25), (10, 26), (10, 27), (10, 28), (10, 29), (10, 30), (10, 31), (10, 32),
  (10, 33), (10, 34), (10, 35), (14, 1), (15, 1), (16, 1), (17, 1), (18, 1), (19, 1), (12, 0), (13, 0), (14, 0), (15, 0), (16, 0), (17, 0), (18, 0), (19, 0), (20, 0), (21, 0), (25, 0),
  (22, 0), (23, 0), (24, 0), (23, 1), (24, 1), (23, 2), (24, 2), (23, 3), (24, 3), (26, 0), (27, 0), (28, 0), (29, 0), (30, 0), (31, 0), (32, 0), (33, 0), (34, 0), (35, 0), (36, 0),
  (37, 0), (38, 0), (39, 0), (40, 0), (41, 0), (42, 0), (43, 0), (44, 0), (45, 0), (46, 0)]
def jx_mt : List (Nat × Bool × Nat × Nat × Nat × Nat) := [(1, true, 2, 8, 4, 81), (1, true, 2, 5, 2, 40), (2, true, 4, 20, 0, 0), (1, true, 1, 2, 1, 20), (1, true, 1, 0, 1, 20), (1, true, 1, 7, 1, 20), (1, true, 1, 6, 3, 61), (1, true, 1, 1, 1, 20),
  (1, true, 1, 4, 1, 20), (1, true, 1, 3, 1, 20), (3, false, 4, 8, 1, 22), (1, false, 1, 8, 0, 0), (3, false, 3, 8, 0, 0), (4, false, 5, 8, 2, 46), (1, false, 1, 8, 0, 0), (1, false, 1, 8, 0, 0),
  (4, true, 4, 2, 1, 23), (2, false, 4, 8, 0, 0), (4, false, 4, 8, 2, 45), (2, false, 2, 5, 0, 0), (3, false, 4, 2, 1, 22), (1, false, 1, 8, 0, 0), (3, false, 4, 8, 2, 46), (2, false, 5, 4, 1, 22),
  (2, false, 3, 4, 0, 0), (3, false, 5, 4, 1, 22), (1, false, 4, 8, 2, 46), (4, false, 6, 4, 1, 21), (2, false, 2, 4, 0, 0), (1, true, 1, 4, 0, 0), (2, false, 3, 8, 3, 90), (2, false, 7, 4, 2, 64),
  (2, false, 2, 20, 0, 0), (2, false, 3, 4, 0, 0), (2, false, 3, 4, 1, 21), (3, false, 5, 4, 1, 40), (2, false, 2, 8, 1, 40), (1, false, 1, 20, 0, 0), (3, true, 4, 2, 1, 40), (2, false, 3, 8, 2, 63),
  (3, true, 4, 2, 1, 40), (4, false, 7, 8, 1, 22), (3, false, 3, 8, 1, 23), (2, false, 4, 2, 0, 0), (2, false, 2, 8, 1, 22), (2, false, 3, 2, 0, 0), (3, false, 5, 8, 5, 131), (4, false, 4, 5, 4, 108),
  (3, false, 3, 5, 3, 86), (2, false, 3, 2, 0, 0), (2, false, 2, 5, 1, 20), (3, false, 6, 5, 2, 61), (4, false, 5, 5, 2, 61), (3, false, 4, 8, 2, 65), (3, false, 6, 2, 1, 40), (2, false, 3, 8, 1, 22),
  (3, false, 5, 8, 1, 20), (1, false, 1, 8, 0, 0), (2, false, 2, 8, 1, 20), (1, false, 1, 20, 0, 0), (5, false, 6, 8, 1, 24), (5, true, 5, 0, 0, 0), (3, false, 3, 8, 6, 158), (2, true, 3, 1, 5, 136),
  (2, true, 6, 1, 4, 108), (2, true, 5, 1, 2, 65), (4, true, 8, 1, 4, 109), (4, false, 5, 1, 3, 85), (4, false, 5, 5, 1, 23), (2, false, 2, 8, 6, 158), (2, false, 4, 1, 0, 0), (2, false, 2, 8, 6, 158),
  (1, false, 3, 1, 0, 0), (1, false, 3, 1, 0, 0), (3, false, 3, 8, 7, 188), (4, false, 11, 6, 6, 158), (2, true, 4, 5, 3, 84), (2, true, 2, 2, 2, 63), (4, true, 4, 7, 0, 0), (1, true, 4, 2, 0, 0),
  (4, false, 4, 8, 7, 182), (4, true, 5, 6, 6, 158), (2, false, 5, 6, 1, 24), (2, false, 5, 6, 0, 0), (5, false, 10, 8, 4, 114), (1, false, 3, 8, 0, 0), (3, true, 5, 8, 0, 0), (3, false, 4, 8, 3, 91),
  (3, false, 7, 8, 2, 65), (2, false, 2, 8, 7, 178), (2, false, 4, 5, 6, 155), (3, false, 5, 5, 5, 131), (3, false, 3, 8, 8, 203), (4, false, 6, 6, 7, 178), (3, false, 3, 8, 7, 182), (4, false, 5, 6, 6, 158),
  (4, false, 4, 8, 1, 23), (3, false, 3, 8, 7, 181), (4, false, 8, 6, 6, 154), (2, false, 4, 5, 5, 131), (1, false, 2, 8, 0, 0), (3, false, 3, 8, 7, 179), (4, false, 5, 6, 6, 155), (3, false, 3, 8, 6, 155),
  (1, false, 1, 8, 4, 107), (1, false, 1, 8, 4, 107), (7, false, 10, 8, 3, 91), (1, false, 1, 8, 0, 0), (1, false, 1, 8, 0, 0), (4, false, 4, 3, 1, 22), (3, false, 3, 3, 0, 0), (5, false, 8, 3, 1, 22),
  (4, false, 9, 3, 0, 0), (7, false, 9, 8, 3, 95), (5, false, 11, 3, 2, 65), (4, false, 6, 3, 1, 40), (4, false, 4, 8, 2, 45), (3, true, 3, 3, 1, 23), (2, false, 3, 8, 1, 20), (5, false, 7, 8, 2, 45),
  (3, true, 3, 3, 0, 0), (6, false, 8, 8, 1, 40), (1, true, 2, 9, 1, 20), (3, false, 4, 9, 2, 45), (1, false, 1, 9, 1, 25), (3, false, 6, 9, 0, 0), (4, false, 5, 9, 3, 66), (2, false, 2, 9, 2, 45),
  (1, false, 1, 9, 1, 25), (4, false, 5, 9, 3, 66), (2, false, 2, 9, 1, 25), (3, false, 5, 9, 1, 25), (1, false, 4, 9, 3, 68), (3, false, 4, 9, 2, 45), (1, false, 1, 9, 1, 25), (1, false, 1, 9, 0, 0),
  (2, false, 5, 9, 3, 68), (2, true, 4, 9, 2, 45), (2, false, 4, 9, 0, 0), (2, false, 4, 9, 3, 68), (4, false, 5, 9, 2, 46), (3, false, 3, 9, 2, 46), (3, false, 6, 9, 0, 0), (2, false, 2, 9, 2, 46),
  (2, false, 4, 9, 0, 0), (3, false, 5, 9, 3, 74), (4, false, 4, 9, 2, 51), (3, false, 7, 9, 1, 25), (3, false, 3, 9, 2, 50), (3, false, 3, 9, 1, 28), (6, false, 9, 9, 0, 0), (2, false, 3, 9, 1, 25),
  (3, false, 4, 9, 1, 25), (2, false, 2, 9, 1, 22), (1, false, 3, 9, 0, 0), (5, false, 5, 9, 2, 45), (3, false, 3, 9, 5, 124), (1, true, 6, 9, 4, 99), (4, false, 6, 9, 1, 25), (3, false, 6, 9, 3, 74),
  (2, false, 2, 9, 6, 147), (2, false, 4, 9, 5, 124), (2, false, 7, 9, 5, 124), (3, false, 8, 9, 6, 147), (4, false, 11, 9, 6, 147), (5, false, 12, 9, 2, 53), (3, true, 5, 9, 0, 0), (2, false, 6, 9, 1, 28),
  (2, false, 2, 9, 4, 98), (2, false, 5, 9, 3, 74), (3, false, 7, 9, 4, 98), (3, false, 6, 9, 6, 147), (4, false, 4, 9, 2, 45), (3, false, 10, 9, 3, 74), (1, false, 2, 9, 0, 0), (3, false, 6, 9, 4, 98),
  (3, false, 5, 9, 3, 74), (3, false, 3, 9, 4, 98), (1, false, 2, 9, 1, 23), (3, false, 4, 9, 0, 0), (1, false, 2, 9, 1, 23), (3, false, 4, 9, 0, 0), (7, false, 14, 9, 2, 53), (1, false, 1, 9, 1, 25),
  (1, false, 1, 9, 1, 25), (5, false, 5, 9, 0, 0), (7, false, 16, 9, 2, 45), (4, false, 5, 9, 2, 45), (2, false, 2, 9, 2, 45), (5, false, 6, 9, 2, 45), (6, false, 7, 9, 2, 45), (1, false, 4, 20, 9, 225)]
def jx_tsws : List (List Nat) := [[2, 6, 10, 14],
  [22, 49, 86, 123, 174, 181, 198, 215, 252, 279, 296, 323, 350, 367, 402, 419, 466, 493, 510, 527, 554, 591, 638, 655, 682, 709, 754, 781, 788, 815, 842, 849, 856, 923, 990, 1027, 1044, 1091]]
/-- StreetCries.<init>()V -/
def jx_c0 : List (Instr × Nat × Nat × Int) := [(.aload_n 0, 0, 0, 0), (.invokespecial 1, 0, 2, 53), (.aload_n 0, 0, 0, 0), (.new 7, 5, 0, 56), (.dup, 0, 0, 0), (.invokespecial 9, 1, 0, 58), (.putfield 10, 0, 8, 302), (.aload_n 0, 0, 0, 0),
  (.new 7, 5, 0, 56), (.dup, 0, 0, 0), (.invokespecial 9, 1, 0, 58), (.putfield 16, 1, 8, 303), (.aload_n 0, 0, 0, 0), (.new 19, 6, 0, 210), (.dup, 0, 0, 0), (.invokespecial 21, 6, 1, 212),
  (.putfield 22, 2, 8, 304), (.aload_n 0, 0, 0, 0), (.new 26, 1, 0, 263), (.dup, 0, 0, 0), (.invokespecial 28, 7, 1, 264), (.putfield 29, 3, 8, 305), (.aload_n 0, 0, 0, 0), (.new 33, 4, 0, 265),
  (.dup, 0, 0, 0), (.invokespecial 35, 8, 1, 267), (.putfield 36, 4, 8, 306), (.aload_n 0, 0, 0, 0), (.bipush 25, 0, 0, 25), (.newarray .int, 0, 0, 0), (.putfield 40, 6, 8, 308), (.aload_n 0, 0, 0, 0),
  (.iconst 4, 0, 0, 4), (.anewarray 44, 3, 0, 278), (.putfield 46, 5, 8, 307), (.iconst 0, 0, 0, 0), (.istore_n 1, 1, 0, 0), (.iload_n 1, 1, 0, 0), (.iconst 4, 0, 0, 4), (.if_icmp .ge 22, 49, 0, 0),
  (.aload_n 0, 0, 0, 0), (.getfield 46, 5, 8, 307), (.iload_n 1, 1, 0, 0), (.new 44, 3, 0, 278), (.dup, 0, 0, 0), (.invokespecial 50, 9, 1, 281), (.aastore, 0, 0, 0), (.iinc 1 1, 1, 0, 1),
  (.goto (-21), 37, 0, 0), (.return_, 0, 0, 0)]
/-- StreetCries$Town.<init>()V -/
def jx_c1 : List (Instr × Nat × Nat × Int) := [(.aload_n 0, 0, 0, 0), (.invokespecial 3, 0, 2, 61), (.aload_n 0, 0, 0, 0), (.bipush 25, 0, 0, 25), (.newarray .int, 0, 0, 0), (.putfield 9, 0, 5, 164), (.aload_n 0, 0, 0, 0), (.bipush 6, 0, 0, 6),
  (.anewarray 15, 2, 0, 62), (.putfield 17, 1, 5, 167), (.aload_n 0, 0, 0, 0), (.bipush 12, 0, 0, 12), (.anewarray 21, 0, 0, 64), (.putfield 23, 2, 5, 171), (.aload_n 0, 0, 0, 0), (.bipush 12, 0, 0, 12),
  (.anewarray 27, 7, 0, 66), (.putfield 29, 3, 5, 174), (.aload_n 0, 0, 0, 0), (.iconst 3, 0, 0, 3), (.putfield 33, 7, 5, 185), (.aload_n 0, 0, 0, 0), (.getfield 9, 0, 5, 164), (.iconst 1, 0, 0, 1),
  (.invokestatic 37, 2, 0, 68), (.iconst 0, 0, 0, 0), (.istore_n 1, 1, 0, 0), (.iload_n 1, 1, 0, 0), (.bipush 6, 0, 0, 6), (.if_icmp .ge 22, 39, 0, 0), (.aload_n 0, 0, 0, 0), (.getfield 17, 1, 5, 167),
  (.iload_n 1, 1, 0, 0), (.new 15, 2, 0, 62), (.dup, 0, 0, 0), (.invokespecial 43, 3, 1, 72), (.aastore, 0, 0, 0), (.iinc 1 1, 1, 0, 1), (.goto (-22), 27, 0, 0), (.iconst 0, 0, 0, 0),
  (.istore_n 1, 1, 0, 0), (.iload_n 1, 1, 0, 0), (.bipush 12, 0, 0, 12), (.if_icmp .ge 22, 53, 0, 0), (.aload_n 0, 0, 0, 0), (.getfield 23, 2, 5, 171), (.iload_n 1, 1, 0, 0), (.new 21, 0, 0, 64),
  (.dup, 0, 0, 0), (.invokespecial 44, 4, 1, 121), (.aastore, 0, 0, 0), (.iinc 1 1, 1, 0, 1), (.goto (-22), 41, 0, 0), (.iconst 0, 0, 0, 0), (.istore_n 1, 1, 0, 0), (.iload_n 1, 1, 0, 0),
  (.bipush 12, 0, 0, 12), (.if_icmp .ge 22, 67, 0, 0), (.aload_n 0, 0, 0, 0), (.getfield 29, 3, 5, 174), (.iload_n 1, 1, 0, 0), (.new 27, 7, 0, 66), (.dup, 0, 0, 0), (.invokespecial 45, 5, 1, 147),
  (.aastore, 0, 0, 0), (.iinc 1 1, 1, 0, 1), (.goto (-22), 55, 0, 0), (.return_, 0, 0, 0)]
/-- java/util/Arrays.fill([II)V -/
def jx_c2 : List (Instr × Nat × Nat × Int) := [(.iconst 0, 0, 0, 0), (.istore_n 2, 2, 0, 0), (.aload_n 0, 0, 0, 0), (.arraylength, 0, 0, 0), (.istore_n 3, 3, 0, 0), (.iload_n 2, 2, 0, 0), (.iload_n 3, 3, 0, 0), (.if_icmp .ge 13, 14, 0, 0),
  (.aload_n 0, 0, 0, 0), (.iload_n 2, 2, 0, 0), (.iload_n 1, 1, 0, 0), (.iastore, 0, 0, 0), (.iinc 2 1, 2, 0, 1), (.goto (-12), 5, 0, 0), (.return_, 0, 0, 0)]
/-- StreetCries$Seller.<init>()V -/
def jx_c3 : List (Instr × Nat × Nat × Int) := [(.aload_n 0, 0, 0, 0), (.invokespecial 3, 0, 2, 75), (.aload_n 0, 0, 0, 0), (.bipush 12, 0, 0, 12), (.newarray .int, 0, 0, 0), (.putfield 9, 0, 2, 76), (.aload_n 0, 0, 0, 0), (.bipush 6, 0, 0, 6),
  (.newarray .int, 0, 0, 0), (.putfield 15, 1, 2, 78), (.return_, 0, 0, 0)]
/-- StreetCries$Buyer.<init>()V -/
def jx_c4 : List (Instr × Nat × Nat × Int) := [(.aload_n 0, 0, 0, 0), (.invokespecial 1, 0, 2, 124), (.return_, 0, 0, 0)]
/-- StreetCries$Window.<init>()V -/
def jx_c5 : List (Instr × Nat × Nat × Int) := [(.aload_n 0, 0, 0, 0), (.invokespecial 1, 0, 2, 150), (.return_, 0, 0, 0)]
/-- StreetCries$Trial.<init>()V -/
def jx_c6 : List (Instr × Nat × Nat × Int) := [(.aload_n 0, 0, 0, 0), (.invokespecial 3, 0, 2, 215), (.aload_n 0, 0, 0, 0), (.new 9, 5, 0, 216), (.dup, 0, 0, 0), (.invokespecial 11, 1, 0, 217), (.putfield 12, 0, 6, 250), (.aload_n 0, 0, 0, 0),
  (.new 18, 1, 0, 218), (.dup, 0, 0, 0), (.invokespecial 20, 7, 1, 220), (.putfield 21, 1, 6, 251), (.aload_n 0, 0, 0, 0), (.bipush 36, 0, 0, 36), (.newarray .int, 0, 0, 0), (.putfield 25, 2, 6, 252),
  (.aload_n 0, 0, 0, 0), (.bipush 36, 0, 0, 36), (.newarray .int, 0, 0, 0), (.putfield 29, 3, 6, 253), (.return_, 0, 0, 0)]
/-- StreetCries$Day.<init>()V -/
def jx_c7 : List (Instr × Nat × Nat × Int) := [(.aload_n 0, 0, 0, 0), (.invokespecial 3, 0, 2, 223), (.aload_n 0, 0, 0, 0), (.bipush 12, 0, 0, 12), (.newarray .int, 0, 0, 0), (.putfield 9, 0, 1, 224), (.aload_n 0, 0, 0, 0), (.bipush 12, 0, 0, 12),
  (.newarray .int, 0, 0, 0), (.putfield 15, 1, 1, 226), (.aload_n 0, 0, 0, 0), (.bipush 12, 0, 0, 12), (.newarray .int, 0, 0, 0), (.putfield 18, 2, 1, 228), (.aload_n 0, 0, 0, 0), (.bipush 120, 0, 0, 120),
  (.newarray .int, 0, 0, 0), (.putfield 21, 5, 1, 233), (.aload_n 0, 0, 0, 0), (.iconst 4, 0, 0, 4), (.newarray .int, 0, 0, 0), (.putfield 24, 6, 1, 234), (.return_, 0, 0, 0)]
/-- StreetCries$Tape.<init>()V -/
def jx_c8 : List (Instr × Nat × Nat × Int) := [(.aload_n 0, 0, 0, 0), (.invokespecial 3, 0, 2, 270), (.aload_n 0, 0, 0, 0), (.bipush 60, 0, 0, 60), (.newarray .int, 0, 0, 0), (.putfield 9, 0, 4, 271), (.return_, 0, 0, 0)]
/-- StreetCries$Sheet.<init>()V -/
def jx_c9 : List (Instr × Nat × Nat × Int) := [(.aload_n 0, 0, 0, 0), (.invokespecial 3, 0, 2, 284), (.aload_n 0, 0, 0, 0), (.bipush 24, 0, 0, 24), (.newarray .int, 0, 0, 0), (.putfield 9, 0, 3, 285), (.return_, 0, 0, 0)]
/-- StreetCries.noise(II)I -/
def jx_c10 : List (Instr × Nat × Nat × Int) := [(.iload_n 1, 1, 0, 0), (.invokestatic 51, 11, 0, 331), (.ifCond .eq 13, 8, 0, 0), (.iload_n 2, 2, 0, 0), (.iconst 0, 0, 0, 0), (.bipush 9, 0, 0, 9), (.invokestatic 55, 12, 0, 334), (.ifCond .ne 5, 10, 0, 0),
  (.iconst (-1), 0, 0, -1), (.ireturn, 0, 0, 0), (.aload_n 0, 0, 0, 0), (.getfield 10, 0, 8, 302), (.getfield 59, 0, 5, 165), (.iload_n 1, 1, 0, 0), (.iaload, 0, 0, 0), (.istore_n 3, 3, 0, 0),
  (.aload_n 0, 0, 0, 0), (.getfield 10, 0, 8, 302), (.getfield 59, 0, 5, 165), (.iload_n 1, 1, 0, 0), (.iload_n 2, 2, 0, 0), (.iastore, 0, 0, 0), (.iload_n 3, 3, 0, 0), (.ireturn, 0, 0, 0)]
/-- StreetCries.isCorner(I)Z -/
def jx_c11 : List (Instr × Nat × Nat × Int) := [(.iload_n 0, 0, 0, 0), (.ifCond .lt 13, 7, 0, 0), (.iload_n 0, 0, 0, 0), (.bipush 25, 0, 0, 25), (.if_icmp .ge 7, 7, 0, 0), (.iconst 1, 0, 0, 1), (.goto 4, 8, 0, 0), (.iconst 0, 0, 0, 0),
  (.ireturn, 1, 0, 0)]
/-- StreetCries.isWithin(III)Z -/
def jx_c12 : List (Instr × Nat × Nat × Int) := [(.iload_n 0, 0, 0, 0), (.iload_n 1, 1, 0, 0), (.if_icmp .lt 12, 8, 0, 0), (.iload_n 0, 0, 0, 0), (.iload_n 2, 2, 0, 0), (.if_icmp .gt 7, 8, 0, 0), (.iconst 1, 0, 0, 1), (.goto 4, 9, 0, 0),
  (.iconst 0, 0, 0, 0), (.ireturn, 1, 0, 0)]
/-- StreetCries.seller(III)I -/
def jx_c13 : List (Instr × Nat × Nat × Int) := [(.iload_n 1, 1, 0, 0), (.invokestatic 62, 14, 0, 341), (.ifCond .eq 19, 11, 0, 0), (.iload_n 2, 2, 0, 0), (.invokestatic 65, 15, 0, 344), (.ifCond .eq 12, 11, 0, 0), (.iload_n 3, 3, 0, 0), (.iconst 1, 0, 0, 1),
  (.iconst 5, 0, 0, 5), (.invokestatic 55, 12, 0, 334), (.ifCond .ne 5, 13, 0, 0), (.iconst (-1), 0, 0, -1), (.ireturn, 0, 0, 0), (.aload_n 0, 0, 0, 0), (.getfield 10, 0, 8, 302), (.getfield 68, 4, 5, 178),
  (.bipush 6, 0, 0, 6), (.if_icmp .lt 6, 20, 0, 0), (.bipush (-3), 0, 0, -3), (.ireturn, 0, 0, 0), (.aload_n 0, 0, 0, 0), (.getfield 10, 0, 8, 302), (.getfield 68, 4, 5, 178), (.istore 4, 4, 0, 0),
  (.aload_n 0, 0, 0, 0), (.getfield 10, 0, 8, 302), (.getfield 72, 1, 5, 170), (.iload 4, 4, 0, 0), (.aaload, 0, 0, 0), (.iload_n 1, 1, 0, 0), (.iload_n 2, 2, 0, 0), (.iload_n 3, 3, 0, 0),
  (.invokevirtual 76, 16, 0, 347), (.aload_n 0, 0, 0, 0), (.getfield 10, 0, 8, 302), (.iload 4, 4, 0, 0), (.iconst 1, 0, 0, 1), (.iadd, 0, 0, 0), (.putfield 68, 4, 5, 178), (.iload 4, 4, 0, 0),
  (.ireturn, 0, 0, 0)]
/-- StreetCries.isKind(I)Z -/
def jx_c14 : List (Instr × Nat × Nat × Int) := [(.iload_n 0, 0, 0, 0), (.ifCond .lt 12, 7, 0, 0), (.iload_n 0, 0, 0, 0), (.iconst 4, 0, 0, 4), (.if_icmp .ge 7, 7, 0, 0), (.iconst 1, 0, 0, 1), (.goto 4, 8, 0, 0), (.iconst 0, 0, 0, 0),
  (.ireturn, 1, 0, 0)]
/-- StreetCries.isLoud(I)Z -/
def jx_c15 : List (Instr × Nat × Nat × Int) := [(.iload_n 0, 0, 0, 0), (.iconst 1, 0, 0, 1), (.if_icmp .lt 13, 8, 0, 0), (.iload_n 0, 0, 0, 0), (.bipush 9, 0, 0, 9), (.if_icmp .gt 7, 8, 0, 0), (.iconst 1, 0, 0, 1), (.goto 4, 9, 0, 0),
  (.iconst 0, 0, 0, 0), (.ireturn, 1, 0, 0)]
/-- StreetCries$Seller.comeAs(III)V -/
def jx_c16 : List (Instr × Nat × Nat × Int) := [(.aload_n 0, 0, 0, 0), (.iload_n 1, 1, 0, 0), (.putfield 18, 4, 2, 88), (.aload_n 0, 0, 0, 0), (.iload_n 2, 2, 0, 0), (.putfield 22, 5, 2, 91), (.aload_n 0, 0, 0, 0), (.iload_n 3, 3, 0, 0),
  (.putfield 25, 7, 2, 96), (.aload_n 0, 0, 0, 0), (.iconst 0, 0, 0, 0), (.putfield 28, 6, 2, 92), (.aload_n 0, 0, 0, 0), (.getfield 9, 0, 2, 76), (.iconst 0, 0, 0, 0), (.iconst 0, 0, 0, 0),
  (.iastore, 0, 0, 0), (.aload_n 0, 0, 0, 0), (.iconst 1, 0, 0, 1), (.putfield 31, 2, 2, 81), (.aload_n 0, 0, 0, 0), (.getfield 15, 1, 2, 78), (.iconst 0, 0, 0, 0), (.iconst 5, 0, 0, 5),
  (.iastore, 0, 0, 0), (.aload_n 0, 0, 0, 0), (.iconst 1, 0, 0, 1), (.putfield 34, 3, 2, 85), (.aload_n 0, 0, 0, 0), (.aload_n 0, 0, 0, 0), (.getfield 15, 1, 2, 78), (.aload_n 0, 0, 0, 0),
  (.getfield 34, 3, 2, 85), (.invokestatic 37, 17, 1, 351), (.putfield 41, 8, 2, 99), (.return_, 0, 0, 0)]
/-- StreetCries.liftOf([II)I -/
def jx_c17 : List (Instr × Nat × Nat × Int) := [(.iload_n 1, 1, 0, 0), (.iconst 1, 0, 0, 1), (.if_icmp .lt 9, 7, 0, 0), (.iload_n 1, 1, 0, 0), (.aload_n 0, 0, 0, 0), (.arraylength, 0, 0, 0), (.if_icmp .le 5, 9, 0, 0), (.iconst 0, 0, 0, 0),
  (.ireturn, 0, 0, 0), (.iconst 0, 0, 0, 0), (.istore_n 2, 2, 0, 0), (.iconst 0, 0, 0, 0), (.istore_n 3, 3, 0, 0), (.iload_n 3, 3, 0, 0), (.iload_n 1, 1, 0, 0), (.if_icmp .ge 15, 24, 0, 0),
  (.iload_n 2, 2, 0, 0), (.aload_n 0, 0, 0, 0), (.iload_n 3, 3, 0, 0), (.iaload, 0, 0, 0), (.iadd, 0, 0, 0), (.istore_n 2, 2, 0, 0), (.iinc 3 1, 3, 0, 1), (.goto (-14), 13, 0, 0),
  (.iload_n 2, 2, 0, 0), (.iload_n 1, 1, 0, 0), (.idiv, 0, 0, 0), (.iconst 3, 0, 0, 3), (.idiv, 0, 0, 0), (.ireturn, 0, 0, 0)]
/-- StreetCries.of(III)I -/
def jx_c18 : List (Instr × Nat × Nat × Int) := [(.aload_n 0, 0, 0, 0), (.getfield 10, 0, 8, 302), (.iload_n 1, 1, 0, 0), (.invokevirtual 82, 19, 0, 358), (.ifCond .eq 20, 14, 0, 0), (.aload_n 0, 0, 0, 0), (.getfield 10, 0, 8, 302), (.getfield 72, 1, 5, 170),
  (.iload_n 1, 1, 0, 0), (.aaload, 0, 0, 0), (.iload_n 2, 2, 0, 0), (.iload_n 3, 3, 0, 0), (.invokevirtual 85, 20, 0, 362), (.goto 4, 15, 0, 0), (.iconst (-1), 0, 0, -1), (.ireturn, 0, 0, 0)]
/-- StreetCries$Town.hasSeller(I)Z -/
def jx_c19 : List (Instr × Nat × Nat × Int) := [(.iload_n 1, 1, 0, 0), (.ifCond .lt 15, 8, 0, 0), (.iload_n 1, 1, 0, 0), (.aload_n 0, 0, 0, 0), (.getfield 52, 4, 5, 176), (.if_icmp .ge 7, 8, 0, 0), (.iconst 1, 0, 0, 1), (.goto 4, 9, 0, 0),
  (.iconst 0, 0, 0, 0), (.ireturn, 1, 0, 0)]
/-- StreetCries$Seller.change(II)I -/
def jx_c20 : List (Instr × Nat × Nat × Int) := [(.iload_n 1, 1, 0, 0), (.ifCond .ne 23, 12, 0, 0), (.iload_n 2, 2, 0, 0), (.invokestatic 51, 14, 1, 366), (.ifCond .eq 16, 12, 0, 0), (.aload_n 0, 0, 0, 0), (.getfield 18, 4, 2, 88), (.istore_n 3, 3, 0, 0),
  (.aload_n 0, 0, 0, 0), (.iload_n 2, 2, 0, 0), (.putfield 18, 4, 2, 88), (.goto 82, 55, 0, 0), (.iload_n 1, 1, 0, 0), (.iconst 1, 0, 0, 1), (.if_icmp .ne 23, 25, 0, 0), (.iload_n 2, 2, 0, 0),
  (.invokestatic 55, 15, 1, 367), (.ifCond .eq 16, 25, 0, 0), (.aload_n 0, 0, 0, 0), (.getfield 22, 5, 2, 91), (.istore_n 3, 3, 0, 0), (.aload_n 0, 0, 0, 0), (.iload_n 2, 2, 0, 0), (.putfield 22, 5, 2, 91),
  (.goto 57, 55, 0, 0), (.iload_n 1, 1, 0, 0), (.iconst 2, 0, 0, 2), (.if_icmp .ne 23, 38, 0, 0), (.iload_n 2, 2, 0, 0), (.invokestatic 58, 21, 1, 368), (.ifCond .eq 16, 38, 0, 0), (.aload_n 0, 0, 0, 0),
  (.getfield 28, 6, 2, 92), (.istore_n 3, 3, 0, 0), (.aload_n 0, 0, 0, 0), (.iload_n 2, 2, 0, 0), (.putfield 28, 6, 2, 92), (.goto 32, 55, 0, 0), (.iload_n 1, 1, 0, 0), (.iconst 3, 0, 0, 3),
  (.if_icmp .ne 25, 53, 0, 0), (.iload_n 2, 2, 0, 0), (.iconst 1, 0, 0, 1), (.iconst 5, 0, 0, 5), (.invokestatic 61, 12, 1, 371), (.ifCond .eq 16, 53, 0, 0), (.aload_n 0, 0, 0, 0), (.getfield 25, 7, 2, 96),
  (.istore_n 3, 3, 0, 0), (.aload_n 0, 0, 0, 0), (.iload_n 2, 2, 0, 0), (.putfield 25, 7, 2, 96), (.goto 5, 55, 0, 0), (.iconst (-1), 0, 0, -1), (.istore_n 3, 3, 0, 0), (.iload_n 3, 3, 0, 0),
  (.ireturn, 0, 0, 0)]
/-- StreetCries.isMinute(I)Z -/
def jx_c21 : List (Instr × Nat × Nat × Int) := [(.iload_n 0, 0, 0, 0), (.ifCond .lt 13, 7, 0, 0), (.iload_n 0, 0, 0, 0), (.bipush 120, 0, 0, 120), (.if_icmp .ge 7, 7, 0, 0), (.iconst 1, 0, 0, 1), (.goto 4, 8, 0, 0), (.iconst 0, 0, 0, 0),
  (.ireturn, 1, 0, 0)]
/-- StreetCries.type(JI)I -/
def jx_c22 : List (Instr × Nat × Nat × Int) := [(.iload_n 3, 3, 0, 0), (.iconst 1, 0, 0, 1), (.bipush 8, 0, 0, 8), (.invokestatic 55, 12, 0, 334), (.ifCond .eq 11, 9, 0, 0), (.lload_n 1, 1, 0, 0), (.iload_n 3, 3, 0, 0), (.invokestatic 89, 23, 0, 376),
  (.ifCond .ne 5, 11, 0, 0), (.iconst (-1), 0, 0, -1), (.ireturn, 0, 0, 0), (.aload_n 0, 0, 0, 0), (.getfield 36, 4, 8, 306), (.lload_n 1, 1, 0, 0), (.iload_n 3, 3, 0, 0), (.invokevirtual 93, 25, 0, 382),
  (.ireturn, 0, 0, 0)]
/-- StreetCries$Tape.isTypable(JI)Z -/
def jx_c23 : List (Instr × Nat × Nat × Int) := [(.iconst 0, 0, 0, 0), (.istore_n 3, 3, 0, 0), (.iload_n 3, 3, 0, 0), (.iload_n 2, 2, 0, 0), (.if_icmp .ge 32, 19, 0, 0), (.lload_n 0, 0, 0, 0), (.iload_n 3, 3, 0, 0), (.invokestatic 15, 24, 0, 379),
  (.istore 4, 4, 0, 0), (.iload 4, 4, 0, 0), (.bipush 32, 0, 0, 32), (.if_icmp .lt 10, 15, 0, 0), (.iload 4, 4, 0, 0), (.bipush 126, 0, 0, 126), (.if_icmp .le 5, 17, 0, 0), (.iconst 0, 0, 0, 0),
  (.ireturn, 1, 0, 0), (.iinc 3 1, 3, 0, 1), (.goto (-31), 2, 0, 0), (.iconst 1, 0, 0, 1), (.ireturn, 1, 0, 0)]
/-- StreetCries$Tape.byteOf(JI)I -/
def jx_c24 : List (Instr × Nat × Nat × Int) := [(.lload_n 0, 0, 0, 0), (.bipush 8, 0, 0, 8), (.iload_n 2, 2, 0, 0), (.imul, 0, 0, 0), (.lushr, 0, 0, 0), (.l2i, 0, 0, 0), (.sipush 255, 0, 0, 255), (.iand, 0, 0, 0),
  (.ireturn, 0, 0, 0)]
/-- StreetCries$Tape.append(JI)I -/
def jx_c25 : List (Instr × Nat × Nat × Int) := [(.iload_n 3, 3, 0, 0), (.bipush 60, 0, 0, 60), (.aload_n 0, 0, 0, 0), (.getfield 19, 1, 4, 272), (.isub, 0, 0, 0), (.if_icmp .le 6, 8, 0, 0), (.bipush (-3), 0, 0, -3), (.ireturn, 0, 0, 0),
  (.iload_n 3, 3, 0, 0), (.iconst 1, 0, 0, 1), (.isub, 0, 0, 0), (.istore 4, 4, 0, 0), (.iload 4, 4, 0, 0), (.ifCond .lt 34, 30, 0, 0), (.aload_n 0, 0, 0, 0), (.getfield 9, 0, 4, 271),
  (.aload_n 0, 0, 0, 0), (.getfield 19, 1, 4, 272), (.lload_n 1, 1, 0, 0), (.iload 4, 4, 0, 0), (.invokestatic 15, 24, 0, 379), (.iastore, 0, 0, 0), (.aload_n 0, 0, 0, 0), (.dup, 0, 0, 0),
  (.getfield 19, 1, 4, 272), (.iconst 1, 0, 0, 1), (.iadd, 0, 0, 0), (.putfield 19, 1, 4, 272), (.iinc 4 (-1), 4, 0, -1), (.goto (-33), 12, 0, 0), (.aload_n 0, 0, 0, 0), (.getfield 19, 1, 4, 272),
  (.ireturn, 0, 0, 0)]
/-- StreetCries.town()I -/
def jx_c26 : List (Instr × Nat × Nat × Int) := [(.aload_n 0, 0, 0, 0), (.getfield 36, 4, 8, 306), (.aload_n 0, 0, 0, 0), (.getfield 40, 6, 8, 308), (.bipush 25, 0, 0, 25), (.bipush 25, 0, 0, 25), (.invokevirtual 97, 27, 0, 390), (.istore_n 1, 1, 0, 0),
  (.aload_n 0, 0, 0, 0), (.getfield 36, 4, 8, 306), (.invokevirtual 101, 29, 0, 398), (.iload_n 1, 1, 0, 0), (.ifCond .ge 5, 15, 0, 0), (.iload_n 1, 1, 0, 0), (.ireturn, 0, 0, 0), (.iconst 0, 0, 0, 0),
  (.istore_n 2, 2, 0, 0), (.iconst 0, 0, 0, 0), (.istore_n 3, 3, 0, 0), (.iload_n 3, 3, 0, 0), (.bipush 25, 0, 0, 25), (.if_icmp .ge 33, 40, 0, 0), (.aload_n 0, 0, 0, 0), (.getfield 10, 0, 8, 302),
  (.getfield 59, 0, 5, 165), (.iload_n 3, 3, 0, 0), (.aload_n 0, 0, 0, 0), (.getfield 40, 6, 8, 308), (.iload_n 3, 3, 0, 0), (.iaload, 0, 0, 0), (.iastore, 0, 0, 0), (.iload_n 2, 2, 0, 0),
  (.aload_n 0, 0, 0, 0), (.getfield 40, 6, 8, 308), (.iload_n 3, 3, 0, 0), (.iaload, 0, 0, 0), (.iadd, 0, 0, 0), (.istore_n 2, 2, 0, 0), (.iinc 3 1, 3, 0, 1), (.goto (-33), 19, 0, 0),
  (.iload_n 2, 2, 0, 0), (.ireturn, 0, 0, 0)]
/-- StreetCries$Tape.readDigits([III)I -/
def jx_c27 : List (Instr × Nat × Nat × Int) := [(.iconst 0, 0, 0, 0), (.istore 4, 4, 0, 0), (.iconst 0, 0, 0, 0), (.istore 5, 5, 0, 0), (.iload 5, 5, 0, 0), (.aload_n 0, 0, 0, 0), (.getfield 19, 1, 4, 272), (.if_icmp .ge 69, 42, 0, 0),
  (.aload_n 0, 0, 0, 0), (.getfield 9, 0, 4, 271), (.iload 5, 5, 0, 0), (.iaload, 0, 0, 0), (.bipush 32, 0, 0, 32), (.if_icmp .ne 6, 15, 0, 0), (.goto 48, 40, 0, 0), (.iload 4, 4, 0, 0),
  (.iload_n 3, 3, 0, 0), (.if_icmp .ge 19, 26, 0, 0), (.iload 4, 4, 0, 0), (.aload_n 1, 1, 0, 0), (.arraylength, 0, 0, 0), (.if_icmp .ge 12, 26, 0, 0), (.aload_n 0, 0, 0, 0), (.iload 5, 5, 0, 0),
  (.invokevirtual 23, 28, 0, 394), (.ifCond .ne 9, 30, 0, 0), (.bipush (-20), 0, 0, -20), (.iload 5, 5, 0, 0), (.isub, 0, 0, 0), (.ireturn, 0, 0, 0), (.aload_n 1, 1, 0, 0), (.iload 4, 4, 0, 0),
  (.aload_n 0, 0, 0, 0), (.getfield 9, 0, 4, 271), (.iload 5, 5, 0, 0), (.iaload, 0, 0, 0), (.bipush 48, 0, 0, 48), (.isub, 0, 0, 0), (.iastore, 0, 0, 0), (.iinc 4 1, 4, 0, 1),
  (.iinc 5 1, 5, 0, 1), (.goto (-72), 4, 0, 0), (.iload 4, 4, 0, 0), (.iload_n 2, 2, 0, 0), (.if_icmp .ge 13, 50, 0, 0), (.bipush (-20), 0, 0, -20), (.aload_n 0, 0, 0, 0), (.getfield 19, 1, 4, 272),
  (.isub, 0, 0, 0), (.goto 5, 51, 0, 0), (.iload 4, 4, 0, 0), (.ireturn, 0, 0, 0)]
/-- StreetCries$Tape.isDigit(I)Z -/
def jx_c28 : List (Instr × Nat × Nat × Int) := [(.iload_n 1, 1, 0, 0), (.aload_n 0, 0, 0, 0), (.getfield 19, 1, 4, 272), (.if_icmp .ge 29, 18, 0, 0), (.aload_n 0, 0, 0, 0), (.getfield 9, 0, 4, 271), (.iload_n 1, 1, 0, 0), (.iaload, 0, 0, 0),
  (.bipush 48, 0, 0, 48), (.if_icmp .lt 18, 18, 0, 0), (.aload_n 0, 0, 0, 0), (.getfield 9, 0, 4, 271), (.iload_n 1, 1, 0, 0), (.iaload, 0, 0, 0), (.bipush 57, 0, 0, 57), (.if_icmp .gt 7, 18, 0, 0),
  (.iconst 1, 0, 0, 1), (.goto 4, 19, 0, 0), (.iconst 0, 0, 0, 0), (.ireturn, 1, 0, 0)]
/-- StreetCries$Tape.clear()V -/
def jx_c29 : List (Instr × Nat × Nat × Int) := [(.aload_n 0, 0, 0, 0), (.iconst 0, 0, 0, 0), (.putfield 19, 1, 4, 272), (.return_, 0, 0, 0)]
/-- StreetCries.round(I)I -/
def jx_c30 : List (Instr × Nat × Nat × Int) := [(.aload_n 0, 0, 0, 0), (.getfield 10, 0, 8, 302), (.iload_n 1, 1, 0, 0), (.invokevirtual 82, 19, 0, 358), (.ifCond .ne 5, 7, 0, 0), (.iconst (-1), 0, 0, -1), (.ireturn, 0, 0, 0), (.aload_n 0, 0, 0, 0),
  (.getfield 36, 4, 8, 306), (.aload_n 0, 0, 0, 0), (.getfield 40, 6, 8, 308), (.invokevirtual 104, 31, 0, 406), (.istore_n 2, 2, 0, 0), (.aload_n 0, 0, 0, 0), (.getfield 36, 4, 8, 306), (.invokevirtual 101, 29, 0, 398),
  (.iload_n 2, 2, 0, 0), (.ifCond .le 20, 27, 0, 0), (.aload_n 0, 0, 0, 0), (.getfield 10, 0, 8, 302), (.getfield 72, 1, 5, 170), (.iload_n 1, 1, 0, 0), (.aaload, 0, 0, 0), (.aload_n 0, 0, 0, 0),
  (.getfield 40, 6, 8, 308), (.iload_n 2, 2, 0, 0), (.invokevirtual 108, 38, 0, 432), (.iload_n 2, 2, 0, 0), (.ireturn, 0, 0, 0)]
/-- StreetCries$Tape.readRound([I)I -/
def jx_c31 : List (Instr × Nat × Nat × Int) := [(.bipush 12, 0, 0, 12), (.aload_n 1, 1, 0, 0), (.arraylength, 0, 0, 0), (.invokestatic 27, 0, 4, 410), (.istore_n 2, 2, 0, 0), (.aload_n 0, 0, 0, 0), (.iconst 0, 0, 0, 0), (.invokevirtual 33, 33, 0, 413),
  (.istore_n 3, 3, 0, 0), (.iconst 0, 0, 0, 0), (.istore 4, 4, 0, 0), (.iload 4, 4, 0, 0), (.iload_n 2, 2, 0, 0), (.if_icmp .ge 129, 88, 0, 0), (.aload_n 0, 0, 0, 0), (.iload_n 3, 3, 0, 0),
  (.invokevirtual 23, 28, 0, 394), (.ifCond .ne 8, 22, 0, 0), (.bipush (-20), 0, 0, -20), (.iload_n 3, 3, 0, 0), (.isub, 0, 0, 0), (.ireturn, 0, 0, 0), (.aload_n 0, 0, 0, 0), (.iload_n 3, 3, 0, 0),
  (.invokevirtual 37, 34, 0, 417), (.istore 5, 5, 0, 0), (.aload_n 0, 0, 0, 0), (.iload_n 3, 3, 0, 0), (.iload 5, 5, 0, 0), (.invokevirtual 40, 35, 0, 421), (.istore 6, 6, 0, 0), (.iload 6, 6, 0, 0),
  (.invokestatic 43, 11, 1, 425), (.ifCond .eq 23, 45, 0, 0), (.iload 4, 4, 0, 0), (.ifCond .le 23, 49, 0, 0), (.aload_n 1, 1, 0, 0), (.iload 4, 4, 0, 0), (.iconst 1, 0, 0, 1), (.isub, 0, 0, 0),
  (.iaload, 0, 0, 0), (.iload 6, 6, 0, 0), (.invokestatic 46, 36, 1, 426), (.iconst 1, 0, 0, 1), (.if_icmp .le 8, 49, 0, 0), (.bipush (-20), 0, 0, -20), (.iload_n 3, 3, 0, 0), (.isub, 0, 0, 0),
  (.ireturn, 0, 0, 0), (.aload_n 1, 1, 0, 0), (.iload 4, 4, 0, 0), (.iload 6, 6, 0, 0), (.iastore, 0, 0, 0), (.aload_n 0, 0, 0, 0), (.iload 5, 5, 0, 0), (.invokevirtual 33, 33, 0, 413),
  (.istore_n 3, 3, 0, 0), (.iload_n 3, 3, 0, 0), (.aload_n 0, 0, 0, 0), (.getfield 19, 1, 4, 272), (.if_icmp .lt 8, 65, 0, 0), (.iload 4, 4, 0, 0), (.iconst 1, 0, 0, 1), (.iadd, 0, 0, 0),
  (.ireturn, 0, 0, 0), (.aload_n 0, 0, 0, 0), (.getfield 9, 0, 4, 271), (.iload_n 3, 3, 0, 0), (.iaload, 0, 0, 0), (.bipush 44, 0, 0, 44), (.if_icmp .ne 11, 76, 0, 0), (.iload 4, 4, 0, 0),
  (.iload_n 2, 2, 0, 0), (.iconst 1, 0, 0, 1), (.isub, 0, 0, 0), (.if_icmp .ne 8, 80, 0, 0), (.bipush (-20), 0, 0, -20), (.iload_n 3, 3, 0, 0), (.isub, 0, 0, 0), (.ireturn, 0, 0, 0),
  (.aload_n 0, 0, 0, 0), (.iload_n 3, 3, 0, 0), (.iconst 1, 0, 0, 1), (.iadd, 0, 0, 0), (.invokevirtual 33, 33, 0, 413), (.istore_n 3, 3, 0, 0), (.iinc 4 1, 4, 0, 1), (.goto (-129), 11, 0, 0),
  (.bipush (-20), 0, 0, -20), (.iload_n 3, 3, 0, 0), (.isub, 0, 0, 0), (.ireturn, 0, 0, 0)]
/-- java/lang/Math.min(II)I -/
def jx_c32 : List (Instr × Nat × Nat × Int) := [(.iload_n 0, 0, 0, 0), (.iload_n 1, 1, 0, 0), (.if_icmp .gt 7, 5, 0, 0), (.iload_n 0, 0, 0, 0), (.goto 4, 6, 0, 0), (.iload_n 1, 1, 0, 0), (.ireturn, 0, 0, 0)]
/-- StreetCries$Tape.behindBlanks(I)I -/
def jx_c33 : List (Instr × Nat × Nat × Int) := [(.iload_n 1, 1, 0, 0), (.istore_n 2, 2, 0, 0), (.iload_n 2, 2, 0, 0), (.aload_n 0, 0, 0, 0), (.getfield 19, 1, 4, 272), (.if_icmp .ge 22, 16, 0, 0), (.aload_n 0, 0, 0, 0), (.getfield 9, 0, 4, 271),
  (.iload_n 2, 2, 0, 0), (.iaload, 0, 0, 0), (.bipush 32, 0, 0, 32), (.if_icmp .eq 5, 14, 0, 0), (.iload_n 2, 2, 0, 0), (.ireturn, 0, 0, 0), (.iinc 2 1, 2, 0, 1), (.goto (-24), 2, 0, 0),
  (.aload_n 0, 0, 0, 0), (.getfield 19, 1, 4, 272), (.ireturn, 0, 0, 0)]
/-- StreetCries$Tape.behindDigits(I)I -/
def jx_c34 : List (Instr × Nat × Nat × Int) := [(.iload_n 1, 1, 0, 0), (.istore_n 2, 2, 0, 0), (.iload_n 2, 2, 0, 0), (.aload_n 0, 0, 0, 0), (.getfield 19, 1, 4, 272), (.if_icmp .ge 19, 14, 0, 0), (.aload_n 0, 0, 0, 0), (.iload_n 2, 2, 0, 0),
  (.invokevirtual 23, 28, 0, 394), (.ifCond .ne 5, 12, 0, 0), (.iload_n 2, 2, 0, 0), (.ireturn, 0, 0, 0), (.iinc 2 1, 2, 0, 1), (.goto (-21), 2, 0, 0), (.aload_n 0, 0, 0, 0), (.getfield 19, 1, 4, 272),
  (.ireturn, 0, 0, 0)]
/-- StreetCries$Tape.numberIn(II)I -/
def jx_c35 : List (Instr × Nat × Nat × Int) := [(.iconst 0, 0, 0, 0), (.istore_n 3, 3, 0, 0), (.iload_n 1, 1, 0, 0), (.istore 4, 4, 0, 0), (.iload 4, 4, 0, 0), (.iload_n 2, 2, 0, 0), (.if_icmp .ge 30, 22, 0, 0), (.bipush 25, 0, 0, 25),
  (.bipush 10, 0, 0, 10), (.iload_n 3, 3, 0, 0), (.imul, 0, 0, 0), (.aload_n 0, 0, 0, 0), (.getfield 9, 0, 4, 271), (.iload 4, 4, 0, 0), (.iaload, 0, 0, 0), (.iadd, 0, 0, 0),
  (.bipush 48, 0, 0, 48), (.isub, 0, 0, 0), (.invokestatic 27, 0, 4, 410), (.istore_n 3, 3, 0, 0), (.iinc 4 1, 4, 0, 1), (.goto (-30), 4, 0, 0), (.iload_n 3, 3, 0, 0), (.ireturn, 0, 0, 0)]
/-- StreetCries.far(II)I -/
def jx_c36 : List (Instr × Nat × Nat × Int) := [(.iload_n 0, 0, 0, 0), (.iconst 5, 0, 0, 5), (.idiv, 0, 0, 0), (.iload_n 1, 1, 0, 0), (.iconst 5, 0, 0, 5), (.idiv, 0, 0, 0), (.isub, 0, 0, 0), (.invokestatic 311, 0, 5, 429),
  (.iload_n 0, 0, 0, 0), (.iconst 5, 0, 0, 5), (.irem, 0, 0, 0), (.iload_n 1, 1, 0, 0), (.iconst 5, 0, 0, 5), (.irem, 0, 0, 0), (.isub, 0, 0, 0), (.invokestatic 311, 0, 5, 429),
  (.iadd, 0, 0, 0), (.ireturn, 0, 0, 0)]
/-- java/lang/Math.abs(I)I -/
def jx_c37 : List (Instr × Nat × Nat × Int) := [(.iload_n 0, 0, 0, 0), (.ifCond .ge 8, 5, 0, 0), (.iload_n 0, 0, 0, 0), (.ineg, 0, 0, 0), (.goto 4, 6, 0, 0), (.iload_n 0, 0, 0, 0), (.ireturn, 0, 0, 0)]
/-- StreetCries$Seller.takeRound([II)V -/
def jx_c38 : List (Instr × Nat × Nat × Int) := [(.aload_n 0, 0, 0, 0), (.iload_n 2, 2, 0, 0), (.aload_n 1, 1, 0, 0), (.arraylength, 0, 0, 0), (.bipush 12, 0, 0, 12), (.invokestatic 65, 0, 4, 436), (.invokestatic 65, 0, 4, 436), (.putfield 31, 2, 2, 81),
  (.iconst 0, 0, 0, 0), (.istore_n 3, 3, 0, 0), (.iload_n 3, 3, 0, 0), (.aload_n 0, 0, 0, 0), (.getfield 31, 2, 2, 81), (.if_icmp .ge 18, 23, 0, 0), (.aload_n 0, 0, 0, 0), (.getfield 9, 0, 2, 76),
  (.iload_n 3, 3, 0, 0), (.aload_n 1, 1, 0, 0), (.iload_n 3, 3, 0, 0), (.iaload, 0, 0, 0), (.iastore, 0, 0, 0), (.iinc 3 1, 3, 0, 1), (.goto (-20), 10, 0, 0), (.return_, 0, 0, 0)]
/-- StreetCries.tune(I)I -/
def jx_c39 : List (Instr × Nat × Nat × Int) := [(.aload_n 0, 0, 0, 0), (.getfield 10, 0, 8, 302), (.iload_n 1, 1, 0, 0), (.invokevirtual 82, 19, 0, 358), (.ifCond .ne 5, 7, 0, 0), (.iconst (-1), 0, 0, -1), (.ireturn, 0, 0, 0), (.aload_n 0, 0, 0, 0),
  (.getfield 36, 4, 8, 306), (.aload_n 0, 0, 0, 0), (.getfield 40, 6, 8, 308), (.iconst 1, 0, 0, 1), (.bipush 6, 0, 0, 6), (.invokevirtual 97, 27, 0, 390), (.istore_n 2, 2, 0, 0), (.aload_n 0, 0, 0, 0),
  (.getfield 36, 4, 8, 306), (.invokevirtual 101, 29, 0, 398), (.iload_n 2, 2, 0, 0), (.ifCond .le 20, 29, 0, 0), (.aload_n 0, 0, 0, 0), (.getfield 10, 0, 8, 302), (.getfield 72, 1, 5, 170), (.iload_n 1, 1, 0, 0),
  (.aaload, 0, 0, 0), (.aload_n 0, 0, 0, 0), (.getfield 40, 6, 8, 308), (.iload_n 2, 2, 0, 0), (.invokevirtual 112, 40, 0, 441), (.iload_n 2, 2, 0, 0), (.ireturn, 0, 0, 0)]
/-- StreetCries$Seller.takeTune([II)V -/
def jx_c40 : List (Instr × Nat × Nat × Int) := [(.aload_n 0, 0, 0, 0), (.iload_n 2, 2, 0, 0), (.aload_n 1, 1, 0, 0), (.arraylength, 0, 0, 0), (.bipush 6, 0, 0, 6), (.invokestatic 65, 0, 4, 436), (.invokestatic 65, 0, 4, 436), (.putfield 34, 3, 2, 85),
  (.iconst 0, 0, 0, 0), (.istore_n 3, 3, 0, 0), (.iload_n 3, 3, 0, 0), (.aload_n 0, 0, 0, 0), (.getfield 34, 3, 2, 85), (.if_icmp .ge 18, 23, 0, 0), (.aload_n 0, 0, 0, 0), (.getfield 15, 1, 2, 78),
  (.iload_n 3, 3, 0, 0), (.aload_n 1, 1, 0, 0), (.iload_n 3, 3, 0, 0), (.iaload, 0, 0, 0), (.iastore, 0, 0, 0), (.iinc 3 1, 3, 0, 1), (.goto (-20), 10, 0, 0), (.aload_n 0, 0, 0, 0),
  (.aload_n 0, 0, 0, 0), (.getfield 15, 1, 2, 78), (.aload_n 0, 0, 0, 0), (.getfield 34, 3, 2, 85), (.invokestatic 37, 17, 1, 351), (.putfield 41, 8, 2, 99), (.return_, 0, 0, 0)]
/-- StreetCries.told(III)I -/
def jx_c41 : List (Instr × Nat × Nat × Int) := [(.aload_n 0, 0, 0, 0), (.getfield 10, 0, 8, 302), (.iload_n 1, 1, 0, 0), (.invokevirtual 82, 19, 0, 358), (.ifCond .eq 17, 13, 0, 0), (.iload_n 2, 2, 0, 0), (.iconst 0, 0, 0, 0), (.iconst 1, 0, 0, 1),
  (.invokestatic 55, 12, 0, 334), (.ifCond .eq 8, 13, 0, 0), (.iload_n 3, 3, 0, 0), (.iconst (-1), 0, 0, -1), (.if_icmp .ge 5, 15, 0, 0), (.iconst (-1), 0, 0, -1), (.ireturn, 0, 0, 0), (.aload_n 0, 0, 0, 0),
  (.getfield 10, 0, 8, 302), (.getfield 72, 1, 5, 170), (.iload_n 1, 1, 0, 0), (.aaload, 0, 0, 0), (.astore 4, 4, 0, 0), (.iload_n 2, 2, 0, 0), (.ifCond .ne 11, 26, 0, 0), (.aload 4, 4, 0, 0),
  (.getfield 115, 0, 2, 77), (.goto 8, 28, 0, 0), (.aload 4, 4, 0, 0), (.getfield 118, 1, 2, 80), (.astore 5, 5, 0, 0), (.iload_n 2, 2, 0, 0), (.ifCond .ne 11, 34, 0, 0), (.aload 4, 4, 0, 0),
  (.getfield 121, 2, 2, 84), (.goto 8, 36, 0, 0), (.aload 4, 4, 0, 0), (.getfield 124, 3, 2, 87), (.istore 6, 6, 0, 0), (.iload_n 3, 3, 0, 0), (.ifCond .ge 6, 41, 0, 0), (.iload 6, 6, 0, 0),
  (.ireturn, 0, 0, 0), (.iload_n 3, 3, 0, 0), (.iload 6, 6, 0, 0), (.if_icmp .ge 17, 52, 0, 0), (.iload_n 3, 3, 0, 0), (.aload 5, 5, 0, 0), (.arraylength, 0, 0, 0), (.if_icmp .ge 10, 52, 0, 0),
  (.aload 5, 5, 0, 0), (.iload_n 3, 3, 0, 0), (.iaload, 0, 0, 0), (.goto 5, 53, 0, 0), (.bipush (-4), 0, 0, -4), (.ireturn, 0, 0, 0)]
/-- StreetCries.where(II)I -/
def jx_c42 : List (Instr × Nat × Nat × Int) := [(.aload_n 0, 0, 0, 0), (.getfield 10, 0, 8, 302), (.iload_n 1, 1, 0, 0), (.invokevirtual 82, 19, 0, 358), (.ifCond .eq 10, 8, 0, 0), (.iload_n 2, 2, 0, 0), (.invokestatic 127, 21, 0, 453), (.ifCond .ne 5, 10, 0, 0),
  (.iconst (-1), 0, 0, -1), (.ireturn, 0, 0, 0), (.aload_n 0, 0, 0, 0), (.getfield 10, 0, 8, 302), (.getfield 72, 1, 5, 170), (.iload_n 1, 1, 0, 0), (.aaload, 0, 0, 0), (.iload_n 2, 2, 0, 0),
  (.invokevirtual 130, 43, 0, 454), (.ireturn, 0, 0, 0)]
/-- StreetCries$Seller.placeIn(I)I -/
def jx_c43 : List (Instr × Nat × Nat × Int) := [(.iload_n 1, 1, 0, 0), (.aload_n 0, 0, 0, 0), (.getfield 28, 6, 2, 92), (.isub, 0, 0, 0), (.istore_n 2, 2, 0, 0), (.iload_n 2, 2, 0, 0), (.ifCond .lt 11, 11, 0, 0), (.aload_n 0, 0, 0, 0),
  (.getfield 25, 7, 2, 96), (.iconst 1, 0, 0, 1), (.if_icmp .ge 6, 13, 0, 0), (.bipush (-4), 0, 0, -4), (.ireturn, 0, 0, 0), (.iload_n 2, 2, 0, 0), (.aload_n 0, 0, 0, 0), (.getfield 25, 7, 2, 96),
  (.idiv, 0, 0, 0), (.istore_n 3, 3, 0, 0), (.iload_n 3, 3, 0, 0), (.aload_n 0, 0, 0, 0), (.getfield 31, 2, 2, 81), (.if_icmp .ge 12, 27, 0, 0), (.aload_n 0, 0, 0, 0), (.getfield 9, 0, 2, 76),
  (.iload_n 3, 3, 0, 0), (.iaload, 0, 0, 0), (.goto 5, 28, 0, 0), (.bipush (-4), 0, 0, -4), (.ireturn, 0, 0, 0)]
/-- StreetCries.carries(I)I -/
def jx_c44 : List (Instr × Nat × Nat × Int) := [(.aload_n 0, 0, 0, 0), (.getfield 10, 0, 8, 302), (.iload_n 1, 1, 0, 0), (.invokevirtual 82, 19, 0, 358), (.ifCond .eq 25, 15, 0, 0), (.aload_n 0, 0, 0, 0), (.getfield 10, 0, 8, 302), (.getfield 72, 1, 5, 170),
  (.iload_n 1, 1, 0, 0), (.aaload, 0, 0, 0), (.aload_n 0, 0, 0, 0), (.getfield 10, 0, 8, 302), (.getfield 134, 8, 5, 190), (.invokevirtual 137, 45, 0, 462), (.goto 4, 16, 0, 0), (.iconst (-1), 0, 0, -1),
  (.ireturn, 0, 0, 0)]
/-- StreetCries$Seller.reach(I)I -/
def jx_c45 : List (Instr × Nat × Nat × Int) := [(.aload_n 0, 0, 0, 0), (.getfield 22, 5, 2, 91), (.aload_n 0, 0, 0, 0), (.getfield 41, 8, 2, 99), (.iadd, 0, 0, 0), (.istore_n 2, 2, 0, 0), (.iload_n 1, 1, 0, 0), (.iconst 4, 0, 0, 4),
  (.iand, 0, 0, 0), (.ifCond .eq 12, 15, 0, 0), (.iload_n 2, 2, 0, 0), (.iconst 4, 0, 0, 4), (.if_icmp .le 7, 15, 0, 0), (.iconst 4, 0, 0, 4), (.goto 4, 16, 0, 0), (.iload_n 2, 2, 0, 0),
  (.ireturn, 0, 0, 0)]
/-- StreetCries.heard(II)I -/
def jx_c46 : List (Instr × Nat × Nat × Int) := [(.iload_n 1, 1, 0, 0), (.invokestatic 51, 11, 0, 331), (.ifCond .eq 10, 6, 0, 0), (.iload_n 2, 2, 0, 0), (.invokestatic 127, 21, 0, 453), (.ifCond .ne 5, 8, 0, 0), (.iconst (-1), 0, 0, -1), (.ireturn, 0, 0, 0),
  (.iconst 0, 0, 0, 0), (.istore_n 3, 3, 0, 0), (.iconst 0, 0, 0, 0), (.istore 4, 4, 0, 0), (.iload 4, 4, 0, 0), (.aload_n 0, 0, 0, 0), (.getfield 10, 0, 8, 302), (.getfield 68, 4, 5, 178),
  (.if_icmp .ge 30, 32, 0, 0), (.aload_n 0, 0, 0, 0), (.getfield 10, 0, 8, 302), (.iload 4, 4, 0, 0), (.iload_n 1, 1, 0, 0), (.iload_n 2, 2, 0, 0), (.invokevirtual 140, 47, 0, 470), (.ifCond .eq 10, 30, 0, 0),
  (.iload_n 3, 3, 0, 0), (.iconst 1, 0, 0, 1), (.iload 4, 4, 0, 0), (.ishl, 0, 0, 0), (.ior, 0, 0, 0), (.istore_n 3, 3, 0, 0), (.iinc 4 1, 4, 0, 1), (.goto (-36), 12, 0, 0),
  (.iload_n 3, 3, 0, 0), (.ireturn, 0, 0, 0)]
/-- StreetCries$Town.isHeard(III)Z -/
def jx_c47 : List (Instr × Nat × Nat × Int) := [(.aload_n 0, 0, 0, 0), (.iload_n 1, 1, 0, 0), (.iload_n 3, 3, 0, 0), (.invokevirtual 125, 48, 0, 474), (.ifCond .eq 17, 13, 0, 0), (.aload_n 0, 0, 0, 0), (.iload_n 1, 1, 0, 0), (.iload_n 2, 2, 0, 0),
  (.iload_n 3, 3, 0, 0), (.invokevirtual 128, 52, 0, 494), (.ifCond .eq 7, 13, 0, 0), (.iconst 1, 0, 0, 1), (.goto 4, 14, 0, 0), (.iconst 0, 0, 0, 0), (.ireturn, 1, 0, 0)]
/-- StreetCries$Town.criesIn(II)Z -/
def jx_c48 : List (Instr × Nat × Nat × Int) := [(.iload_n 2, 2, 0, 0), (.invokestatic 96, 21, 1, 478), (.ifCond .eq 16, 10, 0, 0), (.aload_n 0, 0, 0, 0), (.getfield 17, 1, 5, 167), (.iload_n 1, 1, 0, 0), (.aaload, 0, 0, 0), (.iload_n 2, 2, 0, 0),
  (.invokevirtual 100, 49, 0, 479), (.ifCond .ne 5, 12, 0, 0), (.iconst 0, 0, 0, 0), (.ireturn, 1, 0, 0), (.aload_n 0, 0, 0, 0), (.getfield 93, 8, 5, 188), (.iconst 1, 0, 0, 1), (.iand, 0, 0, 0),
  (.ifCond .eq 11, 22, 0, 0), (.iload_n 2, 2, 0, 0), (.bipush 60, 0, 0, 60), (.if_icmp .lt 5, 22, 0, 0), (.iconst 0, 0, 0, 0), (.ireturn, 1, 0, 0), (.aload_n 0, 0, 0, 0), (.getfield 93, 8, 5, 188),
  (.iconst 2, 0, 0, 2), (.iand, 0, 0, 0), (.ifCond .eq 22, 38, 0, 0), (.aload_n 0, 0, 0, 0), (.aload_n 0, 0, 0, 0), (.getfield 17, 1, 5, 167), (.iload_n 1, 1, 0, 0), (.aaload, 0, 0, 0),
  (.iload_n 2, 2, 0, 0), (.invokevirtual 103, 43, 0, 483), (.invokevirtual 107, 50, 0, 484), (.ifCond .eq 5, 38, 0, 0), (.iconst 0, 0, 0, 0), (.ireturn, 1, 0, 0), (.aload_n 0, 0, 0, 0), (.getfield 93, 8, 5, 188),
  (.bipush 8, 0, 0, 8), (.iand, 0, 0, 0), (.ifCond .eq 12, 48, 0, 0), (.aload_n 0, 0, 0, 0), (.iload_n 1, 1, 0, 0), (.iload_n 2, 2, 0, 0), (.invokevirtual 110, 51, 0, 489), (.ifCond .ne 7, 50, 0, 0),
  (.iconst 1, 0, 0, 1), (.goto 4, 51, 0, 0), (.iconst 0, 0, 0, 0), (.ireturn, 1, 0, 0)]
/-- StreetCries$Seller.arrivesIn(I)Z -/
def jx_c49 : List (Instr × Nat × Nat × Int) := [(.iload_n 1, 1, 0, 0), (.aload_n 0, 0, 0, 0), (.getfield 28, 6, 2, 92), (.isub, 0, 0, 0), (.istore_n 2, 2, 0, 0), (.iload_n 2, 2, 0, 0), (.ifCond .lt 37, 25, 0, 0), (.aload_n 0, 0, 0, 0),
  (.getfield 25, 7, 2, 96), (.iconst 1, 0, 0, 1), (.if_icmp .lt 29, 25, 0, 0), (.iload_n 2, 2, 0, 0), (.aload_n 0, 0, 0, 0), (.getfield 25, 7, 2, 96), (.irem, 0, 0, 0), (.ifCond .ne 20, 25, 0, 0),
  (.iload_n 2, 2, 0, 0), (.aload_n 0, 0, 0, 0), (.getfield 25, 7, 2, 96), (.idiv, 0, 0, 0), (.aload_n 0, 0, 0, 0), (.getfield 31, 2, 2, 81), (.if_icmp .ge 7, 25, 0, 0), (.iconst 1, 0, 0, 1),
  (.goto 4, 26, 0, 0), (.iconst 0, 0, 0, 0), (.ireturn, 1, 0, 0)]
/-- StreetCries$Town.isStill(I)Z -/
def jx_c50 : List (Instr × Nat × Nat × Int) := [(.iload_n 1, 1, 0, 0), (.invokestatic 114, 11, 1, 488), (.ifCond .eq 16, 10, 0, 0), (.aload_n 0, 0, 0, 0), (.getfield 9, 0, 5, 164), (.iload_n 1, 1, 0, 0), (.iaload, 0, 0, 0), (.ifCond .ne 7, 10, 0, 0),
  (.iconst 1, 0, 0, 1), (.goto 4, 11, 0, 0), (.iconst 0, 0, 0, 0), (.ireturn, 1, 0, 0)]
/-- StreetCries$Town.isCrowded(II)Z -/
def jx_c51 : List (Instr × Nat × Nat × Int) := [(.aload_n 0, 0, 0, 0), (.getfield 17, 1, 5, 167), (.iload_n 1, 1, 0, 0), (.aaload, 0, 0, 0), (.iload_n 2, 2, 0, 0), (.invokevirtual 103, 43, 0, 483), (.istore_n 3, 3, 0, 0), (.iconst 0, 0, 0, 0),
  (.istore 4, 4, 0, 0), (.iload 4, 4, 0, 0), (.iload_n 1, 1, 0, 0), (.if_icmp .ge 61, 41, 0, 0), (.aload_n 0, 0, 0, 0), (.getfield 17, 1, 5, 167), (.iload 4, 4, 0, 0), (.aaload, 0, 0, 0),
  (.iload_n 2, 2, 0, 0), (.invokevirtual 103, 43, 0, 483), (.istore 5, 5, 0, 0), (.aload_n 0, 0, 0, 0), (.getfield 17, 1, 5, 167), (.iload 4, 4, 0, 0), (.aaload, 0, 0, 0), (.getfield 117, 4, 2, 90),
  (.aload_n 0, 0, 0, 0), (.getfield 17, 1, 5, 167), (.iload_n 1, 1, 0, 0), (.aaload, 0, 0, 0), (.getfield 117, 4, 2, 90), (.if_icmp .ne 20, 39, 0, 0), (.iload 5, 5, 0, 0), (.ifCond .lt 15, 39, 0, 0),
  (.iload_n 3, 3, 0, 0), (.iload 5, 5, 0, 0), (.invokestatic 118, 36, 1, 493), (.iconst 2, 0, 0, 2), (.if_icmp .gt 5, 39, 0, 0), (.iconst 1, 0, 0, 1), (.ireturn, 1, 0, 0), (.iinc 4 1, 4, 0, 1),
  (.goto (-61), 9, 0, 0), (.iconst 0, 0, 0, 0), (.ireturn, 1, 0, 0)]
/-- StreetCries$Town.carriesTo(III)Z -/
def jx_c52 : List (Instr × Nat × Nat × Int) := [(.aload_n 0, 0, 0, 0), (.getfield 17, 1, 5, 167), (.iload_n 1, 1, 0, 0), (.aaload, 0, 0, 0), (.iload_n 3, 3, 0, 0), (.invokevirtual 103, 43, 0, 483), (.istore 4, 4, 0, 0), (.iload 4, 4, 0, 0),
  (.ifCond .lt 36, 27, 0, 0), (.iload 4, 4, 0, 0), (.iload_n 2, 2, 0, 0), (.invokestatic 118, 36, 1, 493), (.aload_n 0, 0, 0, 0), (.getfield 17, 1, 5, 167), (.iload_n 1, 1, 0, 0), (.aaload, 0, 0, 0),
  (.aload_n 0, 0, 0, 0), (.getfield 93, 8, 5, 188), (.invokevirtual 122, 45, 0, 498), (.aload_n 0, 0, 0, 0), (.getfield 9, 0, 5, 164), (.iload_n 2, 2, 0, 0), (.iaload, 0, 0, 0), (.isub, 0, 0, 0),
  (.if_icmp .gt 7, 27, 0, 0), (.iconst 1, 0, 0, 1), (.goto 4, 28, 0, 0), (.iconst 0, 0, 0, 0), (.ireturn, 1, 0, 0)]
/-- StreetCries.apart(II)I -/
def jx_c53 : List (Instr × Nat × Nat × Int) := [(.aload_n 0, 0, 0, 0), (.getfield 10, 0, 8, 302), (.iload_n 1, 1, 0, 0), (.invokevirtual 82, 19, 0, 358), (.ifCond .eq 14, 10, 0, 0), (.aload_n 0, 0, 0, 0), (.getfield 10, 0, 8, 302), (.iload_n 2, 2, 0, 0),
  (.invokevirtual 82, 19, 0, 358), (.ifCond .ne 5, 12, 0, 0), (.iconst (-1), 0, 0, -1), (.ireturn, 0, 0, 0), (.aload_n 0, 0, 0, 0), (.getfield 10, 0, 8, 302), (.getfield 72, 1, 5, 170), (.iload_n 2, 2, 0, 0),
  (.aaload, 0, 0, 0), (.astore_n 3, 3, 0, 0), (.aload_n 0, 0, 0, 0), (.getfield 10, 0, 8, 302), (.getfield 72, 1, 5, 170), (.iload_n 1, 1, 0, 0), (.aaload, 0, 0, 0), (.aload_n 3, 3, 0, 0),
  (.getfield 118, 1, 2, 80), (.aload_n 3, 3, 0, 0), (.getfield 124, 3, 2, 87), (.invokevirtual 143, 54, 0, 503), (.ireturn, 0, 0, 0)]
/-- StreetCries$Seller.differsFrom([II)I -/
def jx_c54 : List (Instr × Nat × Nat × Int) := [(.iload_n 2, 2, 0, 0), (.aload_n 1, 1, 0, 0), (.arraylength, 0, 0, 0), (.invokestatic 65, 0, 4, 436), (.aload_n 0, 0, 0, 0), (.getfield 34, 3, 2, 85), (.invokestatic 65, 0, 4, 436), (.istore_n 3, 3, 0, 0),
  (.iconst 4, 0, 0, 4), (.iload_n 2, 2, 0, 0), (.aload_n 0, 0, 0, 0), (.getfield 34, 3, 2, 85), (.isub, 0, 0, 0), (.invokestatic 71, 0, 5, 507), (.imul, 0, 0, 0), (.istore 4, 4, 0, 0),
  (.iconst 0, 0, 0, 0), (.istore 5, 5, 0, 0), (.iload 5, 5, 0, 0), (.iload_n 3, 3, 0, 0), (.if_icmp .ge 29, 35, 0, 0), (.iload 4, 4, 0, 0), (.aload_n 1, 1, 0, 0), (.iload 5, 5, 0, 0),
  (.iaload, 0, 0, 0), (.aload_n 0, 0, 0, 0), (.getfield 15, 1, 2, 78), (.iload 5, 5, 0, 0), (.iaload, 0, 0, 0), (.isub, 0, 0, 0), (.invokestatic 71, 0, 5, 507), (.iadd, 0, 0, 0),
  (.istore 4, 4, 0, 0), (.iinc 5 1, 5, 0, 1), (.goto (-29), 18, 0, 0), (.iload 4, 4, 0, 0), (.ireturn, 0, 0, 0)]
/-- StreetCries.likeness(I)I -/
def jx_c55 : List (Instr × Nat × Nat × Int) := [(.iload_n 1, 1, 0, 0), (.iconst 0, 0, 0, 0), (.bipush 20, 0, 0, 20), (.invokestatic 55, 12, 0, 334), (.ifCond .ne 5, 7, 0, 0), (.iconst (-1), 0, 0, -1), (.ireturn, 0, 0, 0), (.aload_n 0, 0, 0, 0),
  (.getfield 10, 0, 8, 302), (.getfield 147, 7, 5, 187), (.istore_n 2, 2, 0, 0), (.aload_n 0, 0, 0, 0), (.getfield 10, 0, 8, 302), (.iload_n 1, 1, 0, 0), (.putfield 147, 7, 5, 187), (.iload_n 2, 2, 0, 0),
  (.ireturn, 0, 0, 0)]
/-- StreetCries.bylaw(IZ)I -/
def jx_c56 : List (Instr × Nat × Nat × Int) := [(.iload_n 1, 1, 0, 0), (.invokestatic 150, 57, 0, 516), (.ifCond .ne 5, 5, 0, 0), (.iconst (-1), 0, 0, -1), (.ireturn, 0, 0, 0), (.iconst 1, 0, 0, 1), (.iload_n 1, 1, 0, 0), (.ishl, 0, 0, 0),
  (.istore_n 3, 3, 0, 0), (.aload_n 0, 0, 0, 0), (.getfield 10, 0, 8, 302), (.getfield 134, 8, 5, 190), (.iload_n 3, 3, 0, 0), (.iand, 0, 0, 0), (.ifCond .eq 7, 17, 0, 0), (.iconst 1, 0, 0, 1),
  (.goto 4, 18, 0, 0), (.iconst 0, 0, 0, 0), (.istore 4, 4, 0, 0), (.aload_n 0, 0, 0, 0), (.getfield 10, 0, 8, 302), (.iload_n 2, 2, 0, 0), (.ifCond .eq 15, 29, 0, 0), (.aload_n 0, 0, 0, 0),
  (.getfield 10, 0, 8, 302), (.getfield 134, 8, 5, 190), (.iload_n 3, 3, 0, 0), (.ior, 0, 0, 0), (.goto 14, 36, 0, 0), (.aload_n 0, 0, 0, 0), (.getfield 10, 0, 8, 302), (.getfield 134, 8, 5, 190),
  (.iload_n 3, 3, 0, 0), (.iconst (-1), 0, 0, -1), (.ixor, 0, 0, 0), (.iand, 0, 0, 0), (.putfield 134, 8, 5, 190), (.iload 4, 4, 0, 0), (.ireturn, 0, 0, 0)]
/-- StreetCries.isBylaw(I)Z -/
def jx_c57 : List (Instr × Nat × Nat × Int) := [(.iload_n 0, 0, 0, 0), (.ifCond .lt 12, 7, 0, 0), (.iload_n 0, 0, 0, 0), (.iconst 4, 0, 0, 4), (.if_icmp .ge 7, 7, 0, 0), (.iconst 1, 0, 0, 1), (.goto 4, 8, 0, 0), (.iconst 0, 0, 0, 0),
  (.ireturn, 1, 0, 0)]
/-- StreetCries.count(I)I -/
def jx_c58 : List (Instr × Nat × Nat × Int) := [(.iload_n 1, 1, 0, 0), (.tableswitch 66 0 3 #[31, 39, 47, 55], 0, 19, 0), (.aload_n 0, 0, 0, 0), (.getfield 10, 0, 8, 302), (.getfield 68, 4, 5, 178), (.ireturn, 0, 0, 0), (.aload_n 0, 0, 0, 0), (.getfield 10, 0, 8, 302),
  (.getfield 153, 5, 5, 182), (.ireturn, 0, 0, 0), (.aload_n 0, 0, 0, 0), (.getfield 10, 0, 8, 302), (.getfield 156, 6, 5, 184), (.ireturn, 0, 0, 0), (.aload_n 0, 0, 0, 0), (.getfield 10, 0, 8, 302),
  (.getfield 134, 8, 5, 190), (.invokestatic 159, 59, 0, 523), (.ireturn, 0, 0, 0), (.iconst (-1), 0, 0, -1), (.ireturn, 0, 0, 0)]
/-- java/lang/Integer.bitCount(I)I -/
def jx_c59 : List (Instr × Nat × Nat × Int) := [(.iload_n 0, 0, 0, 0), (.iload_n 0, 0, 0, 0), (.iconst 1, 0, 0, 1), (.iushr, 0, 0, 0), (.ldc_w 265, 0, 526, 1431655765), (.iand, 0, 0, 0), (.isub, 0, 0, 0), (.istore_n 0, 0, 0, 0),
  (.iload_n 0, 0, 0, 0), (.ldc_w 266, 0, 527, 858993459), (.iand, 0, 0, 0), (.iload_n 0, 0, 0, 0), (.iconst 2, 0, 0, 2), (.iushr, 0, 0, 0), (.ldc_w 266, 0, 527, 858993459), (.iand, 0, 0, 0),
  (.iadd, 0, 0, 0), (.istore_n 0, 0, 0, 0), (.iload_n 0, 0, 0, 0), (.iload_n 0, 0, 0, 0), (.iconst 4, 0, 0, 4), (.iushr, 0, 0, 0), (.iadd, 0, 0, 0), (.ldc_w 267, 0, 528, 252645135),
  (.iand, 0, 0, 0), (.istore_n 0, 0, 0, 0), (.iload_n 0, 0, 0, 0), (.iload_n 0, 0, 0, 0), (.bipush 8, 0, 0, 8), (.iushr, 0, 0, 0), (.iadd, 0, 0, 0), (.istore_n 0, 0, 0, 0),
  (.iload_n 0, 0, 0, 0), (.iload_n 0, 0, 0, 0), (.bipush 16, 0, 0, 16), (.iushr, 0, 0, 0), (.iadd, 0, 0, 0), (.istore_n 0, 0, 0, 0), (.iload_n 0, 0, 0, 0), (.bipush 63, 0, 0, 63),
  (.iand, 0, 0, 0), (.ireturn, 0, 0, 0)]
/-- StreetCries.buyer(IIII)I -/
def jx_c60 : List (Instr × Nat × Nat × Int) := [(.iload_n 1, 1, 0, 0), (.invokestatic 51, 11, 0, 331), (.ifCond .eq 30, 16, 0, 0), (.iload_n 2, 2, 0, 0), (.invokestatic 62, 14, 0, 341), (.ifCond .eq 23, 16, 0, 0), (.iload_n 3, 3, 0, 0), (.iconst 0, 0, 0, 0),
  (.iconst 5, 0, 0, 5), (.invokestatic 55, 12, 0, 334), (.ifCond .eq 14, 16, 0, 0), (.iload 4, 4, 0, 0), (.iconst 0, 0, 0, 0), (.bipush 20, 0, 0, 20), (.invokestatic 55, 12, 0, 334), (.ifCond .ne 5, 18, 0, 0),
  (.iconst (-1), 0, 0, -1), (.ireturn, 0, 0, 0), (.aload_n 0, 0, 0, 0), (.getfield 10, 0, 8, 302), (.getfield 153, 5, 5, 182), (.bipush 12, 0, 0, 12), (.if_icmp .lt 6, 25, 0, 0), (.bipush (-3), 0, 0, -3),
  (.ireturn, 0, 0, 0), (.aload_n 0, 0, 0, 0), (.getfield 10, 0, 8, 302), (.getfield 153, 5, 5, 182), (.istore 5, 5, 0, 0), (.aload_n 0, 0, 0, 0), (.getfield 10, 0, 8, 302), (.getfield 164, 2, 5, 173),
  (.iload 5, 5, 0, 0), (.aaload, 0, 0, 0), (.iload_n 1, 1, 0, 0), (.iload_n 2, 2, 0, 0), (.iload_n 3, 3, 0, 0), (.iload 4, 4, 0, 0), (.invokevirtual 168, 61, 0, 533), (.aload_n 0, 0, 0, 0),
  (.getfield 10, 0, 8, 302), (.iload 5, 5, 0, 0), (.iconst 1, 0, 0, 1), (.iadd, 0, 0, 0), (.putfield 153, 5, 5, 182), (.iload 5, 5, 0, 0), (.ireturn, 0, 0, 0)]
/-- StreetCries$Buyer.comeAs(IIII)V -/
def jx_c61 : List (Instr × Nat × Nat × Int) := [(.aload_n 0, 0, 0, 0), (.iload_n 1, 1, 0, 0), (.putfield 7, 0, 0, 125), (.aload_n 0, 0, 0, 0), (.iload_n 2, 2, 0, 0), (.putfield 13, 1, 0, 128), (.aload_n 0, 0, 0, 0), (.iload_n 3, 3, 0, 0),
  (.putfield 16, 2, 0, 131), (.aload_n 0, 0, 0, 0), (.iload 4, 4, 0, 0), (.putfield 19, 3, 0, 134), (.return_, 0, 0, 0)]
/-- StreetCries.fate(II)I -/
def jx_c62 : List (Instr × Nat × Nat × Int) := [(.iload_n 1, 1, 0, 0), (.iconst 0, 0, 0, 0), (.aload_n 0, 0, 0, 0), (.getfield 10, 0, 8, 302), (.getfield 153, 5, 5, 182), (.iconst 1, 0, 0, 1), (.isub, 0, 0, 0), (.invokestatic 55, 12, 0, 334),
  (.ifCond .eq 12, 14, 0, 0), (.iload_n 2, 2, 0, 0), (.iconst 0, 0, 0, 0), (.iconst 2, 0, 0, 2), (.invokestatic 55, 12, 0, 334), (.ifCond .ne 5, 16, 0, 0), (.iconst (-1), 0, 0, -1), (.ireturn, 0, 0, 0),
  (.aload_n 0, 0, 0, 0), (.getfield 29, 3, 8, 305), (.aload_n 0, 0, 0, 0), (.getfield 10, 0, 8, 302), (.invokevirtual 173, 63, 0, 541), (.iload_n 2, 2, 0, 0), (.iconst 2, 0, 0, 2), (.if_icmp .ne 13, 30, 0, 0),
  (.aload_n 0, 0, 0, 0), (.getfield 29, 3, 8, 305), (.getfield 177, 2, 1, 229), (.iload_n 1, 1, 0, 0), (.iaload, 0, 0, 0), (.ireturn, 0, 0, 0), (.iload_n 2, 2, 0, 0), (.ifCond .ne 15, 38, 0, 0),
  (.aload_n 0, 0, 0, 0), (.getfield 29, 3, 8, 305), (.getfield 180, 0, 1, 225), (.iload_n 1, 1, 0, 0), (.iaload, 0, 0, 0), (.goto 12, 43, 0, 0), (.aload_n 0, 0, 0, 0), (.getfield 29, 3, 8, 305),
  (.getfield 183, 1, 1, 227), (.iload_n 1, 1, 0, 0), (.iaload, 0, 0, 0), (.ireturn, 0, 0, 0)]
/-- StreetCries$Day.spend(LStreetCries$Town;)V -/
def jx_c63 : List (Instr × Nat × Nat × Int) := [(.aload_n 0, 0, 0, 0), (.aload_n 1, 1, 0, 0), (.invokevirtual 27, 64, 0, 545), (.aload_n 0, 0, 0, 0), (.aload_n 1, 1, 0, 0), (.invokevirtual 31, 65, 0, 552), (.aload_n 0, 0, 0, 0), (.aload_n 1, 1, 0, 0),
  (.getfield 34, 5, 5, 180), (.putfield 40, 4, 1, 232), (.iconst 0, 0, 0, 0), (.istore_n 2, 2, 0, 0), (.iload_n 2, 2, 0, 0), (.aload_n 0, 0, 0, 0), (.getfield 40, 4, 1, 232), (.if_icmp .ge 21, 26, 0, 0),
  (.aload_n 0, 0, 0, 0), (.aload_n 1, 1, 0, 0), (.aload_n 1, 1, 0, 0), (.getfield 41, 2, 5, 172), (.iload_n 2, 2, 0, 0), (.aaload, 0, 0, 0), (.iload_n 2, 2, 0, 0), (.invokevirtual 45, 66, 0, 558),
  (.iinc 2 1, 2, 0, 1), (.goto (-23), 12, 0, 0), (.return_, 0, 0, 0)]
/-- StreetCries$Day.gatherCries(LStreetCries$Town;)V -/
def jx_c64 : List (Instr × Nat × Nat × Int) := [(.aload_n 0, 0, 0, 0), (.getfield 21, 5, 1, 233), (.iconst 0, 0, 0, 0), (.invokestatic 49, 2, 0, 549), (.aload_n 0, 0, 0, 0), (.iconst 0, 0, 0, 0), (.putfield 55, 3, 1, 230), (.iconst 0, 0, 0, 0),
  (.istore_n 2, 2, 0, 0), (.iload_n 2, 2, 0, 0), (.aload_n 1, 1, 0, 0), (.getfield 58, 4, 5, 177), (.if_icmp .ge 89, 60, 0, 0), (.aload_n 1, 1, 0, 0), (.getfield 61, 1, 5, 169), (.iload_n 2, 2, 0, 0),
  (.aaload, 0, 0, 0), (.astore_n 3, 3, 0, 0), (.iconst 0, 0, 0, 0), (.istore 4, 4, 0, 0), (.iload 4, 4, 0, 0), (.aload_n 3, 3, 0, 0), (.getfield 65, 2, 2, 82), (.if_icmp .ge 64, 58, 0, 0),
  (.aload_n 3, 3, 0, 0), (.getfield 70, 6, 2, 94), (.iload 4, 4, 0, 0), (.aload_n 3, 3, 0, 0), (.getfield 73, 7, 2, 97), (.imul, 0, 0, 0), (.iadd, 0, 0, 0), (.istore 5, 5, 0, 0),
  (.iload 5, 5, 0, 0), (.invokestatic 76, 21, 1, 550), (.ifCond .eq 36, 56, 0, 0), (.aload_n 1, 1, 0, 0), (.iload_n 2, 2, 0, 0), (.iload 5, 5, 0, 0), (.invokevirtual 80, 48, 0, 551), (.ifCond .eq 26, 56, 0, 0),
  (.aload_n 0, 0, 0, 0), (.getfield 21, 5, 1, 233), (.iload 5, 5, 0, 0), (.dup2, 0, 0, 0), (.iaload, 0, 0, 0), (.iconst 1, 0, 0, 1), (.iload_n 2, 2, 0, 0), (.ishl, 0, 0, 0),
  (.ior, 0, 0, 0), (.iastore, 0, 0, 0), (.aload_n 0, 0, 0, 0), (.dup, 0, 0, 0), (.getfield 55, 3, 1, 230), (.iconst 1, 0, 0, 1), (.iadd, 0, 0, 0), (.putfield 55, 3, 1, 230),
  (.iinc 4 1, 4, 0, 1), (.goto (-67), 20, 0, 0), (.iinc 2 1, 2, 0, 1), (.goto (-91), 9, 0, 0), (.return_, 0, 0, 0)]
/-- StreetCries$Day.gatherLuring(LStreetCries$Town;)V -/
def jx_c65 : List (Instr × Nat × Nat × Int) := [(.aload_n 0, 0, 0, 0), (.getfield 24, 6, 1, 234), (.iconst 0, 0, 0, 0), (.invokestatic 49, 2, 0, 549), (.iconst 0, 0, 0, 0), (.istore_n 2, 2, 0, 0), (.iload_n 2, 2, 0, 0), (.aload_n 1, 1, 0, 0),
  (.getfield 58, 4, 5, 177), (.if_icmp .ge 85, 52, 0, 0), (.aload_n 1, 1, 0, 0), (.getfield 61, 1, 5, 169), (.iload_n 2, 2, 0, 0), (.aaload, 0, 0, 0), (.astore_n 3, 3, 0, 0), (.iconst 0, 0, 0, 0),
  (.istore 4, 4, 0, 0), (.iload 4, 4, 0, 0), (.aload_n 1, 1, 0, 0), (.getfield 58, 4, 5, 177), (.if_icmp .ge 60, 50, 0, 0), (.aload_n 3, 3, 0, 0), (.getfield 84, 4, 2, 89), (.invokestatic 87, 14, 1, 556),
  (.ifCond .eq 44, 48, 0, 0), (.aload_n 1, 1, 0, 0), (.getfield 61, 1, 5, 169), (.iload 4, 4, 0, 0), (.aaload, 0, 0, 0), (.aload_n 3, 3, 0, 0), (.getfield 90, 1, 2, 79), (.aload_n 3, 3, 0, 0),
  (.getfield 93, 3, 2, 86), (.invokevirtual 96, 54, 0, 557), (.aload_n 1, 1, 0, 0), (.getfield 100, 7, 5, 186), (.if_icmp .gt 19, 48, 0, 0), (.aload_n 0, 0, 0, 0), (.getfield 24, 6, 1, 234), (.aload_n 3, 3, 0, 0),
  (.getfield 84, 4, 2, 89), (.dup2, 0, 0, 0), (.iaload, 0, 0, 0), (.iconst 1, 0, 0, 1), (.iload 4, 4, 0, 0), (.ishl, 0, 0, 0), (.ior, 0, 0, 0), (.iastore, 0, 0, 0),
  (.iinc 4 1, 4, 0, 1), (.goto (-63), 17, 0, 0), (.iinc 2 1, 2, 0, 1), (.goto (-87), 6, 0, 0), (.return_, 0, 0, 0)]
/-- StreetCries$Day.live(LStreetCries$Town;LStreetCries$Buyer;I)V -/
def jx_c66 : List (Instr × Nat × Nat × Int) := [(.aload_n 0, 0, 0, 0), (.getfield 9, 0, 1, 224), (.iload_n 3, 3, 0, 0), (.bipush (-4), 0, 0, -4), (.iastore, 0, 0, 0), (.aload_n 0, 0, 0, 0), (.getfield 15, 1, 1, 226), (.iload_n 3, 3, 0, 0),
  (.bipush (-4), 0, 0, -4), (.iastore, 0, 0, 0), (.aload_n 0, 0, 0, 0), (.getfield 18, 2, 1, 228), (.iload_n 3, 3, 0, 0), (.iconst 0, 0, 0, 0), (.iastore, 0, 0, 0), (.aload_n 2, 2, 0, 0),
  (.getfield 103, 1, 0, 130), (.invokestatic 87, 14, 1, 556), (.ifCond .eq 15, 25, 0, 0), (.aload_n 0, 0, 0, 0), (.getfield 24, 6, 1, 234), (.aload_n 2, 2, 0, 0), (.getfield 103, 1, 0, 130), (.iaload, 0, 0, 0),
  (.goto 4, 26, 0, 0), (.iconst 0, 0, 0, 0), (.istore 4, 4, 0, 0), (.iconst (-1), 0, 0, -1), (.istore 5, 5, 0, 0), (.iconst 0, 0, 0, 0), (.istore 6, 6, 0, 0), (.iload 6, 6, 0, 0),
  (.bipush 120, 0, 0, 120), (.if_icmp .ge 122, 99, 0, 0), (.iload 5, 5, 0, 0), (.iconst (-1), 0, 0, -1), (.if_icmp .ne 40, 57, 0, 0), (.aload_n 1, 1, 0, 0), (.aload_n 0, 0, 0, 0), (.getfield 21, 5, 1, 233),
  (.iload 6, 6, 0, 0), (.iaload, 0, 0, 0), (.iload 4, 4, 0, 0), (.iand, 0, 0, 0), (.aload_n 2, 2, 0, 0), (.getfield 106, 0, 0, 127), (.iload 6, 6, 0, 0), (.invokestatic 109, 67, 0, 562),
  (.ifCond .eq 87, 97, 0, 0), (.iload 6, 6, 0, 0), (.aload_n 2, 2, 0, 0), (.getfield 113, 2, 0, 133), (.iadd, 0, 0, 0), (.iconst 1, 0, 0, 1), (.iadd, 0, 0, 0), (.istore 5, 5, 0, 0),
  (.goto 73, 97, 0, 0), (.iload 6, 6, 0, 0), (.iload 5, 5, 0, 0), (.if_icmp .lt 66, 97, 0, 0), (.aload_n 1, 1, 0, 0), (.aload_n 2, 2, 0, 0), (.getfield 106, 0, 0, 127), (.aload_n 2, 2, 0, 0),
  (.getfield 103, 1, 0, 130), (.iload 6, 6, 0, 0), (.invokevirtual 116, 68, 0, 566), (.istore 7, 7, 0, 0), (.iload 7, 7, 0, 0), (.ifCond .lt 20, 81, 0, 0), (.aload_n 0, 0, 0, 0), (.getfield 9, 0, 1, 224),
  (.iload_n 3, 3, 0, 0), (.iload 7, 7, 0, 0), (.iastore, 0, 0, 0), (.aload_n 0, 0, 0, 0), (.getfield 15, 1, 1, 226), (.iload_n 3, 3, 0, 0), (.iload 6, 6, 0, 0), (.iastore, 0, 0, 0),
  (.return_, 0, 0, 0), (.iload 6, 6, 0, 0), (.iload 5, 5, 0, 0), (.isub, 0, 0, 0), (.aload_n 2, 2, 0, 0), (.getfield 120, 3, 0, 136), (.if_icmp .lt 16, 97, 0, 0), (.aload_n 0, 0, 0, 0),
  (.getfield 18, 2, 1, 228), (.iload_n 3, 3, 0, 0), (.dup2, 0, 0, 0), (.iaload, 0, 0, 0), (.iconst 1, 0, 0, 1), (.iadd, 0, 0, 0), (.iastore, 0, 0, 0), (.iconst (-1), 0, 0, -1),
  (.istore 5, 5, 0, 0), (.iinc 6 1, 6, 0, 1), (.goto (-123), 31, 0, 0), (.return_, 0, 0, 0)]
/-- StreetCries$Day.hearsOneOf(LStreetCries$Town;III)Z -/
def jx_c67 : List (Instr × Nat × Nat × Int) := [(.iload_n 1, 1, 0, 0), (.ifCond .ne 5, 4, 0, 0), (.iconst 0, 0, 0, 0), (.ireturn, 1, 0, 0), (.iconst 0, 0, 0, 0), (.istore 4, 4, 0, 0), (.iload 4, 4, 0, 0), (.aload_n 0, 0, 0, 0),
  (.getfield 58, 4, 5, 177), (.if_icmp .ge 31, 26, 0, 0), (.iload_n 1, 1, 0, 0), (.iconst 1, 0, 0, 1), (.iload 4, 4, 0, 0), (.ishl, 0, 0, 0), (.iand, 0, 0, 0), (.ifCond .eq 16, 24, 0, 0),
  (.aload_n 0, 0, 0, 0), (.iload 4, 4, 0, 0), (.iload_n 2, 2, 0, 0), (.iload_n 3, 3, 0, 0), (.invokevirtual 123, 52, 0, 565), (.ifCond .eq 5, 24, 0, 0), (.iconst 1, 0, 0, 1), (.ireturn, 1, 0, 0),
  (.iinc 4 1, 4, 0, 1), (.goto (-34), 6, 0, 0), (.iconst 0, 0, 0, 0), (.ireturn, 1, 0, 0)]
/-- StreetCries$Town.sellerAt(III)I -/
def jx_c68 : List (Instr × Nat × Nat × Int) := [(.iconst 0, 0, 0, 0), (.istore 4, 4, 0, 0), (.iload 4, 4, 0, 0), (.aload_n 0, 0, 0, 0), (.getfield 52, 4, 5, 176), (.if_icmp .ge 41, 25, 0, 0), (.aload_n 0, 0, 0, 0), (.getfield 17, 1, 5, 167),
  (.iload 4, 4, 0, 0), (.aaload, 0, 0, 0), (.getfield 117, 4, 2, 90), (.iload_n 2, 2, 0, 0), (.if_icmp .ne 21, 23, 0, 0), (.aload_n 0, 0, 0, 0), (.getfield 17, 1, 5, 167), (.iload 4, 4, 0, 0),
  (.aaload, 0, 0, 0), (.iload_n 3, 3, 0, 0), (.invokevirtual 103, 43, 0, 483), (.iload_n 1, 1, 0, 0), (.if_icmp .ne 6, 23, 0, 0), (.iload 4, 4, 0, 0), (.ireturn, 0, 0, 0), (.iinc 4 1, 4, 0, 1),
  (.goto (-44), 2, 0, 0), (.bipush (-4), 0, 0, -4), (.ireturn, 0, 0, 0)]
/-- StreetCries.brings(I)I -/
def jx_c69 : List (Instr × Nat × Nat × Int) := [(.aload_n 0, 0, 0, 0), (.getfield 10, 0, 8, 302), (.iload_n 1, 1, 0, 0), (.invokevirtual 82, 19, 0, 358), (.ifCond .ne 5, 7, 0, 0), (.iconst (-1), 0, 0, -1), (.ireturn, 0, 0, 0), (.aload_n 0, 0, 0, 0),
  (.getfield 29, 3, 8, 305), (.aload_n 0, 0, 0, 0), (.getfield 10, 0, 8, 302), (.invokevirtual 173, 63, 0, 541), (.aload_n 0, 0, 0, 0), (.getfield 29, 3, 8, 305), (.iload_n 1, 1, 0, 0), (.invokevirtual 186, 70, 0, 574),
  (.ireturn, 0, 0, 0)]
/-- StreetCries$Day.broughtTo(I)I -/
def jx_c70 : List (Instr × Nat × Nat × Int) := [(.iconst 0, 0, 0, 0), (.istore_n 2, 2, 0, 0), (.iconst 0, 0, 0, 0), (.istore_n 3, 3, 0, 0), (.iload_n 3, 3, 0, 0), (.aload_n 0, 0, 0, 0), (.getfield 40, 4, 1, 232), (.if_icmp .ge 22, 17, 0, 0),
  (.aload_n 0, 0, 0, 0), (.getfield 9, 0, 1, 224), (.iload_n 3, 3, 0, 0), (.iaload, 0, 0, 0), (.iload_n 1, 1, 0, 0), (.if_icmp .ne 6, 15, 0, 0), (.iinc 2 1, 2, 0, 1), (.iinc 3 1, 3, 0, 1),
  (.goto (-24), 4, 0, 0), (.iload_n 2, 2, 0, 0), (.ireturn, 0, 0, 0)]
/-- StreetCries.day(I)I -/
def jx_c71 : List (Instr × Nat × Nat × Int) := [(.iload_n 1, 1, 0, 0), (.iconst 0, 0, 0, 0), (.iconst 2, 0, 0, 2), (.invokestatic 55, 12, 0, 334), (.ifCond .ne 5, 7, 0, 0), (.iconst (-1), 0, 0, -1), (.ireturn, 0, 0, 0), (.aload_n 0, 0, 0, 0),
  (.getfield 29, 3, 8, 305), (.aload_n 0, 0, 0, 0), (.getfield 10, 0, 8, 302), (.invokevirtual 173, 63, 0, 541), (.iload_n 1, 1, 0, 0), (.iconst 2, 0, 0, 2), (.if_icmp .ne 11, 19, 0, 0), (.aload_n 0, 0, 0, 0),
  (.getfield 29, 3, 8, 305), (.getfield 189, 3, 1, 231), (.ireturn, 0, 0, 0), (.iload_n 1, 1, 0, 0), (.ifCond .ne 13, 25, 0, 0), (.aload_n 0, 0, 0, 0), (.getfield 29, 3, 8, 305), (.invokevirtual 192, 72, 0, 582),
  (.goto 10, 28, 0, 0), (.aload_n 0, 0, 0, 0), (.getfield 29, 3, 8, 305), (.invokevirtual 196, 73, 0, 586), (.ireturn, 0, 0, 0)]
/-- StreetCries$Day.buyingCount()I -/
def jx_c72 : List (Instr × Nat × Nat × Int) := [(.iconst 0, 0, 0, 0), (.istore_n 1, 1, 0, 0), (.iconst 0, 0, 0, 0), (.istore_n 2, 2, 0, 0), (.iload_n 2, 2, 0, 0), (.aload_n 0, 0, 0, 0), (.getfield 40, 4, 1, 232), (.if_icmp .ge 21, 16, 0, 0),
  (.aload_n 0, 0, 0, 0), (.getfield 9, 0, 1, 224), (.iload_n 2, 2, 0, 0), (.iaload, 0, 0, 0), (.ifCond .lt 6, 14, 0, 0), (.iinc 1 1, 1, 0, 1), (.iinc 2 1, 2, 0, 1), (.goto (-23), 4, 0, 0),
  (.iload_n 1, 1, 0, 0), (.ireturn, 0, 0, 0)]
/-- StreetCries$Day.wastedCount()I -/
def jx_c73 : List (Instr × Nat × Nat × Int) := [(.iconst 0, 0, 0, 0), (.istore_n 1, 1, 0, 0), (.iconst 0, 0, 0, 0), (.istore_n 2, 2, 0, 0), (.iload_n 2, 2, 0, 0), (.aload_n 0, 0, 0, 0), (.getfield 40, 4, 1, 232), (.if_icmp .ge 18, 17, 0, 0),
  (.iload_n 1, 1, 0, 0), (.aload_n 0, 0, 0, 0), (.getfield 18, 2, 1, 228), (.iload_n 2, 2, 0, 0), (.iaload, 0, 0, 0), (.iadd, 0, 0, 0), (.istore_n 1, 1, 0, 0), (.iinc 2 1, 2, 0, 1),
  (.goto (-20), 4, 0, 0), (.iload_n 1, 1, 0, 0), (.ireturn, 0, 0, 0)]
/-- StreetCries.best(II)I -/
def jx_c74 : List (Instr × Nat × Nat × Int) := [(.aload_n 0, 0, 0, 0), (.getfield 10, 0, 8, 302), (.iload_n 1, 1, 0, 0), (.invokevirtual 82, 19, 0, 358), (.ifCond .eq 12, 10, 0, 0), (.iload_n 2, 2, 0, 0), (.iconst 0, 0, 0, 0), (.iconst 2, 0, 0, 2),
  (.invokestatic 55, 12, 0, 334), (.ifCond .ne 5, 12, 0, 0), (.iconst (-1), 0, 0, -1), (.ireturn, 0, 0, 0), (.aload_n 0, 0, 0, 0), (.getfield 22, 2, 8, 304), (.aload_n 0, 0, 0, 0), (.getfield 10, 0, 8, 302),
  (.iload_n 1, 1, 0, 0), (.iload_n 2, 2, 0, 0), (.invokevirtual 199, 75, 0, 594), (.ireturn, 0, 0, 0)]
/-- StreetCries$Trial.bestBeginning(LStreetCries$Town;II)I -/
def jx_c75 : List (Instr × Nat × Nat × Int) := [(.aload_n 0, 0, 0, 0), (.getfield 12, 0, 6, 250), (.aload_n 1, 1, 0, 0), (.invokevirtual 32, 76, 0, 598), (.aload_n 0, 0, 0, 0), (.getfield 12, 0, 6, 250), (.getfield 36, 1, 5, 168), (.iload_n 2, 2, 0, 0),
  (.aaload, 0, 0, 0), (.astore 4, 4, 0, 0), (.iconst 0, 0, 0, 0), (.istore 5, 5, 0, 0), (.iconst 0, 0, 0, 0), (.istore 6, 6, 0, 0), (.iconst (-1), 0, 0, -1), (.istore 7, 7, 0, 0),
  (.iconst 0, 0, 0, 0), (.istore 8, 8, 0, 0), (.iload 8, 8, 0, 0), (.bipush 55, 0, 0, 55), (.if_icmp .gt 76, 54, 0, 0), (.aload 4, 4, 0, 0), (.iload 8, 8, 0, 0), (.putfield 40, 6, 2, 93),
  (.iconst 0, 0, 0, 0), (.istore 9, 9, 0, 0), (.iload 9, 9, 0, 0), (.iconst 1, 0, 0, 1), (.if_icmp .gt 54, 52, 0, 0), (.aload_n 0, 0, 0, 0), (.getfield 21, 1, 6, 251), (.aload_n 0, 0, 0, 0),
  (.getfield 12, 0, 6, 250), (.invokevirtual 46, 63, 0, 616), (.aload_n 0, 0, 0, 0), (.getfield 21, 1, 6, 251), (.iload_n 2, 2, 0, 0), (.invokevirtual 49, 70, 0, 617), (.istore 10, 10, 0, 0), (.iload 10, 10, 0, 0),
  (.iload 7, 7, 0, 0), (.if_icmp .le 15, 48, 0, 0), (.iload 10, 10, 0, 0), (.istore 7, 7, 0, 0), (.iload 8, 8, 0, 0), (.istore 5, 5, 0, 0), (.iload 9, 9, 0, 0), (.istore 6, 6, 0, 0),
  (.aload 4, 4, 0, 0), (.invokevirtual 53, 79, 0, 618), (.iinc 9 1, 9, 0, 1), (.goto (-54), 26, 0, 0), (.iinc 8 5, 8, 0, 5), (.goto (-77), 18, 0, 0), (.iload_n 3, 3, 0, 0), (.iconst 2, 0, 0, 2),
  (.if_icmp .ne 6, 59, 0, 0), (.iload 7, 7, 0, 0), (.ireturn, 0, 0, 0), (.iload_n 3, 3, 0, 0), (.ifCond .ne 8, 63, 0, 0), (.iload 5, 5, 0, 0), (.goto 5, 64, 0, 0), (.iload 6, 6, 0, 0),
  (.ireturn, 0, 0, 0)]
/-- StreetCries$Town.copyFrom(LStreetCries$Town;)V -/
def jx_c76 : List (Instr × Nat × Nat × Int) := [(.aload_n 1, 1, 0, 0), (.getfield 9, 0, 5, 164), (.iconst 0, 0, 0, 0), (.aload_n 0, 0, 0, 0), (.getfield 9, 0, 5, 164), (.iconst 0, 0, 0, 0), (.bipush 25, 0, 0, 25), (.invokestatic 46, 0, 3, 602),
  (.aload_n 0, 0, 0, 0), (.aload_n 1, 1, 0, 0), (.getfield 52, 4, 5, 176), (.putfield 52, 4, 5, 176), (.iconst 0, 0, 0, 0), (.istore_n 2, 2, 0, 0), (.iload_n 2, 2, 0, 0), (.aload_n 0, 0, 0, 0),
  (.getfield 52, 4, 5, 176), (.if_icmp .ge 24, 29, 0, 0), (.aload_n 0, 0, 0, 0), (.getfield 17, 1, 5, 167), (.iload_n 2, 2, 0, 0), (.aaload, 0, 0, 0), (.aload_n 1, 1, 0, 0), (.getfield 17, 1, 5, 167),
  (.iload_n 2, 2, 0, 0), (.aaload, 0, 0, 0), (.invokevirtual 55, 77, 0, 605), (.iinc 2 1, 2, 0, 1), (.goto (-26), 14, 0, 0), (.aload_n 0, 0, 0, 0), (.aload_n 1, 1, 0, 0), (.getfield 59, 5, 5, 181),
  (.putfield 59, 5, 5, 181), (.iconst 0, 0, 0, 0), (.istore_n 2, 2, 0, 0), (.iload_n 2, 2, 0, 0), (.aload_n 0, 0, 0, 0), (.getfield 59, 5, 5, 181), (.if_icmp .ge 41, 59, 0, 0), (.aload_n 1, 1, 0, 0),
  (.getfield 23, 2, 5, 171), (.iload_n 2, 2, 0, 0), (.aaload, 0, 0, 0), (.astore_n 3, 3, 0, 0), (.aload_n 0, 0, 0, 0), (.getfield 23, 2, 5, 171), (.iload_n 2, 2, 0, 0), (.aaload, 0, 0, 0),
  (.aload_n 3, 3, 0, 0), (.getfield 62, 0, 0, 126), (.aload_n 3, 3, 0, 0), (.getfield 65, 1, 0, 129), (.aload_n 3, 3, 0, 0), (.getfield 68, 2, 0, 132), (.aload_n 3, 3, 0, 0), (.getfield 71, 3, 0, 135),
  (.invokevirtual 74, 61, 0, 611), (.iinc 2 1, 2, 0, 1), (.goto (-43), 35, 0, 0), (.aload_n 0, 0, 0, 0), (.aload_n 1, 1, 0, 0), (.getfield 78, 6, 5, 183), (.putfield 78, 6, 5, 183), (.iconst 0, 0, 0, 0),
  (.istore_n 2, 2, 0, 0), (.iload_n 2, 2, 0, 0), (.aload_n 0, 0, 0, 0), (.getfield 78, 6, 5, 183), (.if_icmp .ge 37, 87, 0, 0), (.aload_n 1, 1, 0, 0), (.getfield 29, 3, 5, 174), (.iload_n 2, 2, 0, 0),
  (.aaload, 0, 0, 0), (.astore_n 3, 3, 0, 0), (.aload_n 0, 0, 0, 0), (.getfield 29, 3, 5, 174), (.iload_n 2, 2, 0, 0), (.aaload, 0, 0, 0), (.aload_n 3, 3, 0, 0), (.getfield 81, 0, 7, 152),
  (.aload_n 3, 3, 0, 0), (.getfield 82, 1, 7, 154), (.aload_n 3, 3, 0, 0), (.getfield 85, 2, 7, 156), (.invokevirtual 89, 78, 0, 612), (.iinc 2 1, 2, 0, 1), (.goto (-39), 65, 0, 0), (.aload_n 0, 0, 0, 0),
  (.aload_n 1, 1, 0, 0), (.getfield 33, 7, 5, 185), (.putfield 33, 7, 5, 185), (.aload_n 0, 0, 0, 0), (.aload_n 1, 1, 0, 0), (.getfield 93, 8, 5, 188), (.putfield 93, 8, 5, 188), (.return_, 0, 0, 0)]
/-- StreetCries$Seller.copyFrom(LStreetCries$Seller;)V -/
def jx_c77 : List (Instr × Nat × Nat × Int) := [(.aload_n 0, 0, 0, 0), (.aload_n 1, 1, 0, 0), (.getfield 9, 0, 2, 76), (.aload_n 1, 1, 0, 0), (.getfield 31, 2, 2, 81), (.invokevirtual 44, 38, 0, 609), (.aload_n 0, 0, 0, 0), (.aload_n 1, 1, 0, 0),
  (.getfield 15, 1, 2, 78), (.aload_n 1, 1, 0, 0), (.getfield 34, 3, 2, 85), (.invokevirtual 48, 40, 0, 610), (.aload_n 0, 0, 0, 0), (.aload_n 1, 1, 0, 0), (.getfield 18, 4, 2, 88), (.putfield 18, 4, 2, 88),
  (.aload_n 0, 0, 0, 0), (.aload_n 1, 1, 0, 0), (.getfield 22, 5, 2, 91), (.putfield 22, 5, 2, 91), (.aload_n 0, 0, 0, 0), (.aload_n 1, 1, 0, 0), (.getfield 28, 6, 2, 92), (.putfield 28, 6, 2, 92),
  (.aload_n 0, 0, 0, 0), (.aload_n 1, 1, 0, 0), (.getfield 25, 7, 2, 96), (.putfield 25, 7, 2, 96), (.return_, 0, 0, 0)]
/-- StreetCries$Window.note(IIZ)V -/
def jx_c78 : List (Instr × Nat × Nat × Int) := [(.aload_n 0, 0, 0, 0), (.iload_n 1, 1, 0, 0), (.putfield 7, 0, 7, 151), (.aload_n 0, 0, 0, 0), (.iload_n 2, 2, 0, 0), (.putfield 13, 1, 7, 153), (.aload_n 0, 0, 0, 0), (.iload_n 3, 3, 0, 0),
  (.putfield 16, 2, 7, 155), (.return_, 0, 0, 0)]
/-- StreetCries$Seller.turnRound()V -/
def jx_c79 : List (Instr × Nat × Nat × Int) := [(.iconst 0, 0, 0, 0), (.istore_n 1, 1, 0, 0), (.aload_n 0, 0, 0, 0), (.getfield 31, 2, 2, 81), (.iconst 1, 0, 0, 1), (.isub, 0, 0, 0), (.istore_n 2, 2, 0, 0), (.iload_n 1, 1, 0, 0),
  (.iload_n 2, 2, 0, 0), (.if_icmp .ge 38, 31, 0, 0), (.aload_n 0, 0, 0, 0), (.getfield 9, 0, 2, 76), (.iload_n 1, 1, 0, 0), (.iaload, 0, 0, 0), (.istore_n 3, 3, 0, 0), (.aload_n 0, 0, 0, 0),
  (.getfield 9, 0, 2, 76), (.iload_n 1, 1, 0, 0), (.aload_n 0, 0, 0, 0), (.getfield 9, 0, 2, 76), (.iload_n 2, 2, 0, 0), (.iaload, 0, 0, 0), (.iastore, 0, 0, 0), (.aload_n 0, 0, 0, 0),
  (.getfield 9, 0, 2, 76), (.iload_n 2, 2, 0, 0), (.iload_n 3, 3, 0, 0), (.iastore, 0, 0, 0), (.iinc 1 1, 1, 0, 1), (.iinc 2 (-1), 2, 0, -1), (.goto (-37), 7, 0, 0), (.return_, 0, 0, 0)]
/-- StreetCries.rests(III)I -/
def jx_c80 : List (Instr × Nat × Nat × Int) := [(.aload_n 0, 0, 0, 0), (.getfield 10, 0, 8, 302), (.iload_n 1, 1, 0, 0), (.invokevirtual 82, 19, 0, 358), (.ifCond .eq 28, 18, 0, 0), (.aload_n 0, 0, 0, 0), (.getfield 10, 0, 8, 302), (.iload_n 2, 2, 0, 0),
  (.invokevirtual 82, 19, 0, 358), (.ifCond .eq 17, 18, 0, 0), (.iload_n 1, 1, 0, 0), (.iload_n 2, 2, 0, 0), (.if_icmp .eq 12, 18, 0, 0), (.iload_n 3, 3, 0, 0), (.iconst 0, 0, 0, 0), (.iconst 2, 0, 0, 2),
  (.invokestatic 55, 12, 0, 334), (.ifCond .ne 5, 20, 0, 0), (.iconst (-1), 0, 0, -1), (.ireturn, 0, 0, 0), (.aload_n 0, 0, 0, 0), (.getfield 22, 2, 8, 304), (.aload_n 0, 0, 0, 0), (.getfield 10, 0, 8, 302),
  (.iload_n 1, 1, 0, 0), (.iload_n 2, 2, 0, 0), (.invokevirtual 203, 81, 0, 626), (.aload_n 0, 0, 0, 0), (.getfield 22, 2, 8, 304), (.iload_n 3, 3, 0, 0), (.invokevirtual 207, 82, 0, 630), (.ireturn, 0, 0, 0)]
/-- StreetCries$Trial.tryAllPairs(LStreetCries$Town;II)V -/
def jx_c81 : List (Instr × Nat × Nat × Int) := [(.aload_n 0, 0, 0, 0), (.getfield 12, 0, 6, 250), (.aload_n 1, 1, 0, 0), (.invokevirtual 32, 76, 0, 598), (.iconst 0, 0, 0, 0), (.istore 4, 4, 0, 0), (.iload 4, 4, 0, 0), (.bipush 36, 0, 0, 36),
  (.if_icmp .ge 90, 54, 0, 0), (.aload_n 0, 0, 0, 0), (.getfield 12, 0, 6, 250), (.getfield 36, 1, 5, 168), (.iload_n 2, 2, 0, 0), (.aaload, 0, 0, 0), (.bipush 10, 0, 0, 10), (.iload 4, 4, 0, 0),
  (.bipush 6, 0, 0, 6), (.idiv, 0, 0, 0), (.imul, 0, 0, 0), (.putfield 40, 6, 2, 93), (.aload_n 0, 0, 0, 0), (.getfield 12, 0, 6, 250), (.getfield 36, 1, 5, 168), (.iload_n 3, 3, 0, 0),
  (.aaload, 0, 0, 0), (.bipush 10, 0, 0, 10), (.iload 4, 4, 0, 0), (.bipush 6, 0, 0, 6), (.irem, 0, 0, 0), (.imul, 0, 0, 0), (.putfield 40, 6, 2, 93), (.aload_n 0, 0, 0, 0),
  (.getfield 21, 1, 6, 251), (.aload_n 0, 0, 0, 0), (.getfield 12, 0, 6, 250), (.invokevirtual 46, 63, 0, 616), (.aload_n 0, 0, 0, 0), (.getfield 25, 2, 6, 252), (.iload 4, 4, 0, 0), (.aload_n 0, 0, 0, 0),
  (.getfield 21, 1, 6, 251), (.iload_n 2, 2, 0, 0), (.invokevirtual 49, 70, 0, 617), (.iastore, 0, 0, 0), (.aload_n 0, 0, 0, 0), (.getfield 29, 3, 6, 253), (.iload 4, 4, 0, 0), (.aload_n 0, 0, 0, 0),
  (.getfield 21, 1, 6, 251), (.iload_n 3, 3, 0, 0), (.invokevirtual 49, 70, 0, 617), (.iastore, 0, 0, 0), (.iinc 4 1, 4, 0, 1), (.goto (-91), 6, 0, 0), (.return_, 0, 0, 0)]
/-- StreetCries$Trial.restsTold(I)I -/
def jx_c82 : List (Instr × Nat × Nat × Int) := [(.iconst 0, 0, 0, 0), (.istore_n 2, 2, 0, 0), (.bipush (-4), 0, 0, -4), (.istore_n 3, 3, 0, 0), (.iconst 0, 0, 0, 0), (.istore 4, 4, 0, 0), (.iload 4, 4, 0, 0), (.bipush 36, 0, 0, 36),
  (.if_icmp .ge 28, 20, 0, 0), (.aload_n 0, 0, 0, 0), (.iload 4, 4, 0, 0), (.invokevirtual 56, 83, 0, 634), (.ifCond .eq 13, 18, 0, 0), (.iinc 2 1, 2, 0, 1), (.iload_n 3, 3, 0, 0), (.ifCond .ge 6, 18, 0, 0),
  (.iload 4, 4, 0, 0), (.istore_n 3, 3, 0, 0), (.iinc 4 1, 4, 0, 1), (.goto (-29), 6, 0, 0), (.iload_n 1, 1, 0, 0), (.ifCond .ne 5, 24, 0, 0), (.iload_n 2, 2, 0, 0), (.ireturn, 0, 0, 0),
  (.iload_n 3, 3, 0, 0), (.ifCond .ge 6, 28, 0, 0), (.bipush (-4), 0, 0, -4), (.ireturn, 0, 0, 0), (.bipush 10, 0, 0, 10), (.iload_n 1, 1, 0, 0), (.iconst 1, 0, 0, 1), (.if_icmp .ne 10, 36, 0, 0),
  (.iload_n 3, 3, 0, 0), (.bipush 6, 0, 0, 6), (.idiv, 0, 0, 0), (.goto 7, 39, 0, 0), (.iload_n 3, 3, 0, 0), (.bipush 6, 0, 0, 6), (.irem, 0, 0, 0), (.imul, 0, 0, 0),
  (.ireturn, 0, 0, 0)]
/-- StreetCries$Trial.isRest(I)Z -/
def jx_c83 : List (Instr × Nat × Nat × Int) := [(.iload_n 1, 1, 0, 0), (.bipush 6, 0, 0, 6), (.idiv, 0, 0, 0), (.istore_n 2, 2, 0, 0), (.iload_n 1, 1, 0, 0), (.bipush 6, 0, 0, 6), (.irem, 0, 0, 0), (.istore_n 3, 3, 0, 0),
  (.iconst 0, 0, 0, 0), (.istore 4, 4, 0, 0), (.iload 4, 4, 0, 0), (.bipush 6, 0, 0, 6), (.if_icmp .ge 53, 43, 0, 0), (.aload_n 0, 0, 0, 0), (.getfield 25, 2, 6, 252), (.iload 4, 4, 0, 0),
  (.bipush 6, 0, 0, 6), (.imul, 0, 0, 0), (.iload_n 3, 3, 0, 0), (.iadd, 0, 0, 0), (.iaload, 0, 0, 0), (.aload_n 0, 0, 0, 0), (.getfield 25, 2, 6, 252), (.iload_n 1, 1, 0, 0),
  (.iaload, 0, 0, 0), (.if_icmp .gt 24, 39, 0, 0), (.aload_n 0, 0, 0, 0), (.getfield 29, 3, 6, 253), (.iload_n 2, 2, 0, 0), (.bipush 6, 0, 0, 6), (.imul, 0, 0, 0), (.iload 4, 4, 0, 0),
  (.iadd, 0, 0, 0), (.iaload, 0, 0, 0), (.aload_n 0, 0, 0, 0), (.getfield 29, 3, 6, 253), (.iload_n 1, 1, 0, 0), (.iaload, 0, 0, 0), (.if_icmp .le 5, 41, 0, 0), (.iconst 0, 0, 0, 0),
  (.ireturn, 1, 0, 0), (.iinc 4 1, 4, 0, 1), (.goto (-54), 10, 0, 0), (.iconst 1, 0, 0, 1), (.ireturn, 1, 0, 0)]
/-- StreetCries.fresh(IIII)I -/
def jx_c84 : List (Instr × Nat × Nat × Int) := [(.iload_n 1, 1, 0, 0), (.iconst 1, 0, 0, 1), (.iconst 3, 0, 0, 3), (.invokestatic 55, 12, 0, 334), (.ifCond .eq 32, 20, 0, 0), (.iload_n 2, 2, 0, 0), (.invokestatic 65, 15, 0, 344), (.ifCond .eq 25, 20, 0, 0),
  (.iload_n 3, 3, 0, 0), (.iconst 0, 0, 0, 0), (.bipush 12, 0, 0, 12), (.invokestatic 55, 12, 0, 334), (.ifCond .eq 15, 20, 0, 0), (.iload 4, 4, 0, 0), (.iconst (-1), 0, 0, -1), (.iload_n 1, 1, 0, 0),
  (.iconst 1, 0, 0, 1), (.isub, 0, 0, 0), (.invokestatic 55, 12, 0, 334), (.ifCond .ne 5, 22, 0, 0), (.iconst (-1), 0, 0, -1), (.ireturn, 0, 0, 0), (.iload_n 1, 1, 0, 0), (.invokestatic 210, 85, 0, 642),
  (.istore 5, 5, 0, 0), (.iconst (-1), 0, 0, -1), (.istore 6, 6, 0, 0), (.iconst 0, 0, 0, 0), (.istore 7, 7, 0, 0), (.iconst 0, 0, 0, 0), (.istore 8, 8, 0, 0), (.iload 8, 8, 0, 0),
  (.iload 5, 5, 0, 0), (.if_icmp .ge 59, 62, 0, 0), (.aload_n 0, 0, 0, 0), (.iload 8, 8, 0, 0), (.iload_n 1, 1, 0, 0), (.invokevirtual 213, 86, 0, 645), (.iload_n 2, 2, 0, 0), (.aload_n 0, 0, 0, 0),
  (.getfield 40, 6, 8, 308), (.iload_n 1, 1, 0, 0), (.invokestatic 217, 17, 0, 649), (.iadd, 0, 0, 0), (.iload_n 3, 3, 0, 0), (.if_icmp .ge 6, 47, 0, 0), (.goto 29, 60, 0, 0), (.aload_n 0, 0, 0, 0),
  (.aload_n 0, 0, 0, 0), (.getfield 40, 6, 8, 308), (.iload_n 1, 1, 0, 0), (.invokevirtual 220, 87, 0, 650), (.istore 9, 9, 0, 0), (.iload 9, 9, 0, 0), (.iload 6, 6, 0, 0), (.if_icmp .le 11, 60, 0, 0),
  (.iload 9, 9, 0, 0), (.istore 6, 6, 0, 0), (.iload 8, 8, 0, 0), (.istore 7, 7, 0, 0), (.iinc 8 1, 8, 0, 1), (.goto (-60), 31, 0, 0), (.iload 6, 6, 0, 0), (.ifCond .ge 6, 66, 0, 0),
  (.bipush (-4), 0, 0, -4), (.ireturn, 0, 0, 0), (.aload_n 0, 0, 0, 0), (.iload 7, 7, 0, 0), (.iload_n 1, 1, 0, 0), (.invokevirtual 213, 86, 0, 645), (.iload 4, 4, 0, 0), (.ifCond .ge 8, 74, 0, 0),
  (.iload 6, 6, 0, 0), (.goto 10, 78, 0, 0), (.aload_n 0, 0, 0, 0), (.getfield 40, 6, 8, 308), (.iload 4, 4, 0, 0), (.iaload, 0, 0, 0), (.ireturn, 0, 0, 0)]
/-- StreetCries.rowsOf(I)I -/
def jx_c85 : List (Instr × Nat × Nat × Int) := [(.iconst 1, 0, 0, 1), (.istore_n 1, 1, 0, 0), (.iconst 0, 0, 0, 0), (.istore_n 2, 2, 0, 0), (.iload_n 2, 2, 0, 0), (.iload_n 0, 0, 0, 0), (.if_icmp .ge 14, 13, 0, 0), (.iload_n 1, 1, 0, 0),
  (.bipush 10, 0, 0, 10), (.imul, 0, 0, 0), (.istore_n 1, 1, 0, 0), (.iinc 2 1, 2, 0, 1), (.goto (-13), 4, 0, 0), (.iload_n 1, 1, 0, 0), (.ireturn, 0, 0, 0)]
/-- StreetCries.draftRow(II)V -/
def jx_c86 : List (Instr × Nat × Nat × Int) := [(.iload_n 1, 1, 0, 0), (.istore_n 3, 3, 0, 0), (.iload_n 2, 2, 0, 0), (.iconst 1, 0, 0, 1), (.isub, 0, 0, 0), (.istore 4, 4, 0, 0), (.iload 4, 4, 0, 0), (.ifCond .lt 25, 21, 0, 0),
  (.aload_n 0, 0, 0, 0), (.getfield 40, 6, 8, 308), (.iload 4, 4, 0, 0), (.iload_n 3, 3, 0, 0), (.bipush 10, 0, 0, 10), (.irem, 0, 0, 0), (.iastore, 0, 0, 0), (.iload_n 3, 3, 0, 0),
  (.bipush 10, 0, 0, 10), (.idiv, 0, 0, 0), (.istore_n 3, 3, 0, 0), (.iinc 4 (-1), 4, 0, -1), (.goto (-24), 6, 0, 0), (.return_, 0, 0, 0)]
/-- StreetCries.distanceToNearest([II)I -/
def jx_c87 : List (Instr × Nat × Nat × Int) := [(.aload_n 0, 0, 0, 0), (.aload_n 1, 1, 0, 0), (.iload_n 2, 2, 0, 0), (.invokevirtual 276, 88, 0, 654), (.istore_n 3, 3, 0, 0), (.iload_n 3, 3, 0, 0), (.ifCond .ge 7, 9, 0, 0), (.iconst 0, 0, 0, 0),
  (.goto 17, 17, 0, 0), (.aload_n 0, 0, 0, 0), (.getfield 10, 0, 8, 302), (.getfield 72, 1, 5, 170), (.iload_n 3, 3, 0, 0), (.aaload, 0, 0, 0), (.aload_n 1, 1, 0, 0), (.iload_n 2, 2, 0, 0),
  (.invokevirtual 143, 54, 0, 503), (.ireturn, 0, 0, 0)]
/-- StreetCries.nearestSeller([II)I -/
def jx_c88 : List (Instr × Nat × Nat × Int) := [(.bipush (-4), 0, 0, -4), (.istore_n 3, 3, 0, 0), (.iconst 0, 0, 0, 0), (.istore 4, 4, 0, 0), (.iconst 0, 0, 0, 0), (.istore 5, 5, 0, 0), (.iload 5, 5, 0, 0), (.aload_n 0, 0, 0, 0),
  (.getfield 10, 0, 8, 302), (.getfield 68, 4, 5, 178), (.if_icmp .ge 44, 31, 0, 0), (.aload_n 0, 0, 0, 0), (.getfield 10, 0, 8, 302), (.getfield 72, 1, 5, 170), (.iload 5, 5, 0, 0), (.aaload, 0, 0, 0),
  (.aload_n 1, 1, 0, 0), (.iload_n 2, 2, 0, 0), (.invokevirtual 143, 54, 0, 503), (.istore 6, 6, 0, 0), (.iload_n 3, 3, 0, 0), (.ifCond .lt 10, 25, 0, 0), (.iload 6, 6, 0, 0), (.iload 4, 4, 0, 0),
  (.if_icmp .ge 10, 29, 0, 0), (.iload 5, 5, 0, 0), (.istore_n 3, 3, 0, 0), (.iload 6, 6, 0, 0), (.istore 4, 4, 0, 0), (.iinc 5 1, 5, 0, 1), (.goto (-50), 6, 0, 0), (.iload_n 3, 3, 0, 0),
  (.ireturn, 0, 0, 0)]
/-- StreetCries.loudness(I)I -/
def jx_c89 : List (Instr × Nat × Nat × Int) := [(.iload_n 1, 1, 0, 0), (.invokestatic 51, 11, 0, 331), (.ifCond .eq 14, 8, 0, 0), (.aload_n 0, 0, 0, 0), (.getfield 10, 0, 8, 302), (.iload_n 1, 1, 0, 0), (.invokevirtual 223, 90, 0, 662), (.goto 4, 9, 0, 0),
  (.iconst (-1), 0, 0, -1), (.ireturn, 0, 0, 0)]
/-- StreetCries$Town.loudnessAt(I)I -/
def jx_c90 : List (Instr × Nat × Nat × Int) := [(.iconst 0, 0, 0, 0), (.istore_n 2, 2, 0, 0), (.iconst 0, 0, 0, 0), (.istore_n 3, 3, 0, 0), (.iload_n 3, 3, 0, 0), (.aload_n 0, 0, 0, 0), (.getfield 52, 4, 5, 176), (.if_icmp .ge 18, 17, 0, 0),
  (.iload_n 2, 2, 0, 0), (.aload_n 0, 0, 0, 0), (.iload_n 3, 3, 0, 0), (.iload_n 1, 1, 0, 0), (.invokevirtual 143, 91, 0, 666), (.iadd, 0, 0, 0), (.istore_n 2, 2, 0, 0), (.iinc 3 1, 3, 0, 1),
  (.goto (-20), 4, 0, 0), (.iload_n 2, 2, 0, 0), (.ireturn, 0, 0, 0)]
/-- StreetCries$Town.timesHeard(II)I -/
def jx_c91 : List (Instr × Nat × Nat × Int) := [(.iconst 0, 0, 0, 0), (.istore_n 3, 3, 0, 0), (.iconst 0, 0, 0, 0), (.istore 4, 4, 0, 0), (.iload 4, 4, 0, 0), (.aload_n 0, 0, 0, 0), (.getfield 17, 1, 5, 167), (.iload_n 1, 1, 0, 0),
  (.aaload, 0, 0, 0), (.getfield 132, 2, 2, 83), (.if_icmp .ge 43, 32, 0, 0), (.aload_n 0, 0, 0, 0), (.iload_n 1, 1, 0, 0), (.iload_n 2, 2, 0, 0), (.aload_n 0, 0, 0, 0), (.getfield 17, 1, 5, 167),
  (.iload_n 1, 1, 0, 0), (.aaload, 0, 0, 0), (.getfield 135, 6, 2, 95), (.iload 4, 4, 0, 0), (.aload_n 0, 0, 0, 0), (.getfield 17, 1, 5, 167), (.iload_n 1, 1, 0, 0), (.aaload, 0, 0, 0),
  (.getfield 138, 7, 2, 98), (.imul, 0, 0, 0), (.iadd, 0, 0, 0), (.invokevirtual 141, 47, 0, 670), (.ifCond .eq 6, 30, 0, 0), (.iinc 3 1, 3, 0, 1), (.iinc 4 1, 4, 0, 1), (.goto (-51), 4, 0, 0),
  (.iload_n 3, 3, 0, 0), (.ireturn, 0, 0, 0)]
/-- StreetCries.quiet(II)I -/
def jx_c92 : List (Instr × Nat × Nat × Int) := [(.iload_n 1, 1, 0, 0), (.invokestatic 51, 11, 0, 331), (.ifCond .eq 14, 8, 0, 0), (.iload_n 2, 2, 0, 0), (.iconst 0, 0, 0, 0), (.sipush 999, 0, 0, 999), (.invokestatic 55, 12, 0, 334), (.ifCond .ne 5, 10, 0, 0),
  (.iconst (-1), 0, 0, -1), (.ireturn, 0, 0, 0), (.aload_n 0, 0, 0, 0), (.getfield 22, 2, 8, 304), (.aload_n 0, 0, 0, 0), (.getfield 10, 0, 8, 302), (.iload_n 1, 1, 0, 0), (.iload_n 2, 2, 0, 0),
  (.invokevirtual 226, 93, 0, 675), (.ireturn, 0, 0, 0)]
/-- StreetCries$Trial.fewestBylaws(LStreetCries$Town;II)I -/
def jx_c93 : List (Instr × Nat × Nat × Int) := [(.aload_n 0, 0, 0, 0), (.getfield 12, 0, 6, 250), (.aload_n 1, 1, 0, 0), (.invokevirtual 32, 76, 0, 598), (.iconst 0, 0, 0, 0), (.istore 4, 4, 0, 0), (.iload 4, 4, 0, 0), (.iconst 4, 0, 0, 4),
  (.if_icmp .gt 59, 34, 0, 0), (.iconst 0, 0, 0, 0), (.istore 5, 5, 0, 0), (.iload 5, 5, 0, 0), (.bipush 16, 0, 0, 16), (.if_icmp .ge 43, 32, 0, 0), (.iload 5, 5, 0, 0), (.invokestatic 60, 59, 0, 679),
  (.iload 4, 4, 0, 0), (.if_icmp .ne 27, 30, 0, 0), (.aload_n 0, 0, 0, 0), (.getfield 12, 0, 6, 250), (.iload 5, 5, 0, 0), (.putfield 65, 8, 5, 189), (.aload_n 0, 0, 0, 0), (.getfield 12, 0, 6, 250),
  (.iload_n 2, 2, 0, 0), (.invokevirtual 68, 90, 0, 680), (.iload_n 3, 3, 0, 0), (.if_icmp .gt 6, 30, 0, 0), (.iload 5, 5, 0, 0), (.ireturn, 0, 0, 0), (.iinc 5 1, 5, 0, 1), (.goto (-44), 11, 0, 0),
  (.iinc 4 1, 4, 0, 1), (.goto (-59), 6, 0, 0), (.bipush (-4), 0, 0, -4), (.ireturn, 0, 0, 0)]
/-- StreetCries.costs(II)I -/
def jx_c94 : List (Instr × Nat × Nat × Int) := [(.iload_n 1, 1, 0, 0), (.invokestatic 150, 57, 0, 516), (.ifCond .eq 14, 8, 0, 0), (.aload_n 0, 0, 0, 0), (.getfield 10, 0, 8, 302), (.iload_n 2, 2, 0, 0), (.invokevirtual 82, 19, 0, 358), (.ifCond .ne 6, 10, 0, 0),
  (.ldc 229, 0, 685, -100001), (.ireturn, 0, 0, 0), (.aload_n 0, 0, 0, 0), (.getfield 22, 2, 8, 304), (.aload_n 0, 0, 0, 0), (.getfield 10, 0, 8, 302), (.iload_n 1, 1, 0, 0), (.iload_n 2, 2, 0, 0),
  (.invokevirtual 230, 95, 0, 686), (.ireturn, 0, 0, 0)]
/-- StreetCries$Trial.costOf(LStreetCries$Town;II)I -/
def jx_c95 : List (Instr × Nat × Nat × Int) := [(.aload_n 0, 0, 0, 0), (.getfield 12, 0, 6, 250), (.aload_n 1, 1, 0, 0), (.invokevirtual 32, 76, 0, 598), (.aload_n 0, 0, 0, 0), (.getfield 21, 1, 6, 251), (.aload_n 0, 0, 0, 0), (.getfield 12, 0, 6, 250),
  (.invokevirtual 46, 63, 0, 616), (.aload_n 0, 0, 0, 0), (.getfield 21, 1, 6, 251), (.iload_n 3, 3, 0, 0), (.invokevirtual 49, 70, 0, 617), (.istore 4, 4, 0, 0), (.aload_n 0, 0, 0, 0), (.getfield 12, 0, 6, 250),
  (.dup, 0, 0, 0), (.getfield 65, 8, 5, 189), (.iconst 1, 0, 0, 1), (.iload_n 2, 2, 0, 0), (.ishl, 0, 0, 0), (.ior, 0, 0, 0), (.putfield 65, 8, 5, 189), (.aload_n 0, 0, 0, 0),
  (.getfield 21, 1, 6, 251), (.aload_n 0, 0, 0, 0), (.getfield 12, 0, 6, 250), (.invokevirtual 46, 63, 0, 616), (.iload 4, 4, 0, 0), (.aload_n 0, 0, 0, 0), (.getfield 21, 1, 6, 251), (.iload_n 3, 3, 0, 0),
  (.invokevirtual 49, 70, 0, 617), (.isub, 0, 0, 0), (.ireturn, 0, 0, 0)]
/-- StreetCries.window(IIZ)I -/
def jx_c96 : List (Instr × Nat × Nat × Int) := [(.iload_n 1, 1, 0, 0), (.invokestatic 51, 11, 0, 331), (.ifCond .eq 10, 6, 0, 0), (.iload_n 2, 2, 0, 0), (.invokestatic 127, 21, 0, 453), (.ifCond .ne 5, 8, 0, 0), (.iconst (-1), 0, 0, -1), (.ireturn, 0, 0, 0),
  (.aload_n 0, 0, 0, 0), (.getfield 10, 0, 8, 302), (.getfield 156, 6, 5, 184), (.bipush 12, 0, 0, 12), (.if_icmp .lt 6, 15, 0, 0), (.bipush (-3), 0, 0, -3), (.ireturn, 0, 0, 0), (.aload_n 0, 0, 0, 0),
  (.getfield 10, 0, 8, 302), (.getfield 233, 3, 5, 175), (.aload_n 0, 0, 0, 0), (.getfield 10, 0, 8, 302), (.getfield 156, 6, 5, 184), (.aaload, 0, 0, 0), (.iload_n 1, 1, 0, 0), (.iload_n 2, 2, 0, 0),
  (.iload_n 3, 3, 0, 0), (.invokevirtual 237, 78, 0, 694), (.aload_n 0, 0, 0, 0), (.getfield 10, 0, 8, 302), (.dup, 0, 0, 0), (.getfield 156, 6, 5, 184), (.iconst 1, 0, 0, 1), (.iadd, 0, 0, 0),
  (.putfield 156, 6, 5, 184), (.aload_n 0, 0, 0, 0), (.getfield 10, 0, 8, 302), (.getfield 156, 6, 5, 184), (.ireturn, 0, 0, 0)]
/-- StreetCries.went(II)I -/
def jx_c97 : List (Instr × Nat × Nat × Int) := [(.aload_n 0, 0, 0, 0), (.getfield 10, 0, 8, 302), (.iload_n 1, 1, 0, 0), (.invokevirtual 82, 19, 0, 358), (.ifCond .eq 12, 10, 0, 0), (.iload_n 2, 2, 0, 0), (.iconst 0, 0, 0, 0), (.iconst 2, 0, 0, 2),
  (.invokestatic 55, 12, 0, 334), (.ifCond .ne 5, 12, 0, 0), (.iconst (-1), 0, 0, -1), (.ireturn, 0, 0, 0), (.aload_n 0, 0, 0, 0), (.getfield 22, 2, 8, 304), (.aload_n 0, 0, 0, 0), (.getfield 10, 0, 8, 302),
  (.iload_n 1, 1, 0, 0), (.iload_n 2, 2, 0, 0), (.invokevirtual 243, 98, 0, 699), (.ireturn, 0, 0, 0)]
/-- StreetCries$Trial.agreeingBeginnings(LStreetCries$Town;II)I -/
def jx_c98 : List (Instr × Nat × Nat × Int) := [(.aload_n 0, 0, 0, 0), (.getfield 12, 0, 6, 250), (.aload_n 1, 1, 0, 0), (.invokevirtual 32, 76, 0, 598), (.aload_n 0, 0, 0, 0), (.getfield 12, 0, 6, 250), (.getfield 36, 1, 5, 168), (.iconst 0, 0, 0, 0),
  (.aaload, 0, 0, 0), (.aload_n 1, 1, 0, 0), (.getfield 36, 1, 5, 168), (.iload_n 2, 2, 0, 0), (.aaload, 0, 0, 0), (.invokevirtual 71, 77, 0, 703), (.aload_n 0, 0, 0, 0), (.getfield 12, 0, 6, 250),
  (.iconst 1, 0, 0, 1), (.putfield 74, 4, 5, 179), (.iconst 0, 0, 0, 0), (.istore 4, 4, 0, 0), (.bipush (-4), 0, 0, -4), (.istore 5, 5, 0, 0), (.bipush (-4), 0, 0, -4), (.istore 6, 6, 0, 0),
  (.iconst 0, 0, 0, 0), (.istore 7, 7, 0, 0), (.iload 7, 7, 0, 0), (.bipush 120, 0, 0, 120), (.if_icmp .ge 55, 52, 0, 0), (.aload_n 0, 0, 0, 0), (.getfield 12, 0, 6, 250), (.getfield 36, 1, 5, 168),
  (.iconst 0, 0, 0, 0), (.aaload, 0, 0, 0), (.iload 7, 7, 0, 0), (.putfield 40, 6, 2, 93), (.aload_n 0, 0, 0, 0), (.getfield 12, 0, 6, 250), (.iconst 0, 0, 0, 0), (.invokevirtual 77, 99, 0, 704),
  (.ifCond .eq 24, 50, 0, 0), (.iinc 4 1, 4, 0, 1), (.iload 5, 5, 0, 0), (.ifCond .ge 8, 46, 0, 0), (.iload 7, 7, 0, 0), (.goto 5, 47, 0, 0), (.iload 5, 5, 0, 0), (.istore 5, 5, 0, 0),
  (.iload 7, 7, 0, 0), (.istore 6, 6, 0, 0), (.iinc 7 1, 7, 0, 1), (.goto (-56), 26, 0, 0), (.iload_n 3, 3, 0, 0), (.ifCond .ne 6, 56, 0, 0), (.iload 4, 4, 0, 0), (.ireturn, 0, 0, 0),
  (.iload_n 3, 3, 0, 0), (.iconst 1, 0, 0, 1), (.if_icmp .ne 8, 61, 0, 0), (.iload 5, 5, 0, 0), (.goto 5, 62, 0, 0), (.iload 6, 6, 0, 0), (.ireturn, 0, 0, 0)]
/-- StreetCries$Town.agreesWithWindows(I)Z -/
def jx_c99 : List (Instr × Nat × Nat × Int) := [(.iconst 0, 0, 0, 0), (.istore_n 2, 2, 0, 0), (.iload_n 2, 2, 0, 0), (.aload_n 0, 0, 0, 0), (.getfield 78, 6, 5, 183), (.if_icmp .ge 38, 25, 0, 0), (.aload_n 0, 0, 0, 0), (.getfield 29, 3, 5, 174),
  (.iload_n 2, 2, 0, 0), (.aaload, 0, 0, 0), (.astore_n 3, 3, 0, 0), (.aload_n 0, 0, 0, 0), (.iload_n 1, 1, 0, 0), (.aload_n 3, 3, 0, 0), (.getfield 81, 0, 7, 152), (.aload_n 3, 3, 0, 0),
  (.getfield 82, 1, 7, 154), (.invokevirtual 141, 47, 0, 670), (.aload_n 3, 3, 0, 0), (.getfield 85, 2, 7, 156), (.if_icmp .eq 5, 23, 0, 0), (.iconst 0, 0, 0, 0), (.ireturn, 1, 0, 0), (.iinc 2 1, 2, 0, 1),
  (.goto (-40), 2, 0, 0), (.iconst 1, 0, 0, 1), (.ireturn, 1, 0, 0)]
/-- StreetCries.shut()I -/
def jx_c100 : List (Instr × Nat × Nat × Int) := [(.aload_n 0, 0, 0, 0), (.getfield 10, 0, 8, 302), (.getfield 156, 6, 5, 184), (.istore_n 1, 1, 0, 0), (.aload_n 0, 0, 0, 0), (.getfield 10, 0, 8, 302), (.iconst 0, 0, 0, 0), (.putfield 156, 6, 5, 184),
  (.iload_n 1, 1, 0, 0), (.ireturn, 0, 0, 0)]
/-- StreetCries.dies(II)I -/
def jx_c101 : List (Instr × Nat × Nat × Int) := [(.aload_n 0, 0, 0, 0), (.getfield 10, 0, 8, 302), (.iload_n 1, 1, 0, 0), (.invokevirtual 82, 19, 0, 358), (.ifCond .eq 10, 8, 0, 0), (.iload_n 2, 2, 0, 0), (.invokestatic 51, 11, 0, 331), (.ifCond .ne 5, 10, 0, 0),
  (.iconst (-1), 0, 0, -1), (.ireturn, 0, 0, 0), (.aload_n 0, 0, 0, 0), (.getfield 22, 2, 8, 304), (.aload_n 0, 0, 0, 0), (.getfield 10, 0, 8, 302), (.iload_n 1, 1, 0, 0), (.iload_n 2, 2, 0, 0),
  (.invokevirtual 246, 102, 0, 716), (.ireturn, 0, 0, 0)]
/-- StreetCries$Trial.deadlyNoise(LStreetCries$Town;II)I -/
def jx_c102 : List (Instr × Nat × Nat × Int) := [(.aload_n 0, 0, 0, 0), (.getfield 12, 0, 6, 250), (.aload_n 1, 1, 0, 0), (.invokevirtual 32, 76, 0, 598), (.iconst 0, 0, 0, 0), (.istore 4, 4, 0, 0), (.iload 4, 4, 0, 0), (.bipush 9, 0, 0, 9),
  (.if_icmp .gt 35, 25, 0, 0), (.aload_n 0, 0, 0, 0), (.getfield 12, 0, 6, 250), (.getfield 80, 0, 5, 166), (.iload_n 3, 3, 0, 0), (.iload 4, 4, 0, 0), (.iastore, 0, 0, 0), (.aload_n 0, 0, 0, 0),
  (.getfield 12, 0, 6, 250), (.iload_n 2, 2, 0, 0), (.iload_n 3, 3, 0, 0), (.invokevirtual 83, 91, 0, 720), (.ifCond .ne 6, 23, 0, 0), (.iload 4, 4, 0, 0), (.ireturn, 0, 0, 0), (.iinc 4 1, 4, 0, 1),
  (.goto (-36), 6, 0, 0), (.bipush (-4), 0, 0, -4), (.ireturn, 0, 0, 0)]
/-- StreetCries.clock(II)I -/
def jx_c103 : List (Instr × Nat × Nat × Int) := [(.aload_n 0, 0, 0, 0), (.getfield 10, 0, 8, 302), (.iload_n 1, 1, 0, 0), (.invokevirtual 82, 19, 0, 358), (.ifCond .eq 10, 8, 0, 0), (.iload_n 2, 2, 0, 0), (.invokestatic 51, 11, 0, 331), (.ifCond .ne 5, 10, 0, 0),
  (.iconst (-1), 0, 0, -1), (.ireturn, 0, 0, 0), (.aload_n 0, 0, 0, 0), (.getfield 10, 0, 8, 302), (.iload_n 1, 1, 0, 0), (.iload_n 2, 2, 0, 0), (.invokevirtual 249, 91, 0, 725), (.ireturn, 0, 0, 0)]
/-- StreetCries.image()I -/
def jx_c104 : List (Instr × Nat × Nat × Int) := [(.aload_n 0, 0, 0, 0), (.getfield 16, 1, 8, 303), (.aload_n 0, 0, 0, 0), (.getfield 10, 0, 8, 302), (.invokevirtual 252, 76, 0, 730), (.aload_n 0, 0, 0, 0), (.iconst 1, 0, 0, 1), (.putfield 255, 7, 8, 309),
  (.iconst 1, 0, 0, 1), (.ireturn, 0, 0, 0)]
/-- StreetCries.restore()I -/
def jx_c105 : List (Instr × Nat × Nat × Int) := [(.aload_n 0, 0, 0, 0), (.getfield 255, 7, 8, 309), (.ifCond .ne 6, 5, 0, 0), (.bipush (-4), 0, 0, -4), (.ireturn, 0, 0, 0), (.aload_n 0, 0, 0, 0), (.getfield 10, 0, 8, 302), (.aload_n 0, 0, 0, 0),
  (.getfield 16, 1, 8, 303), (.invokevirtual 252, 76, 0, 730), (.iconst 1, 0, 0, 1), (.ireturn, 0, 0, 0)]
/-- StreetCries.hands(IIIIII)I -/
def jx_c106 : List (Instr × Nat × Nat × Int) := [(.iload_n 1, 1, 0, 0), (.invokestatic 259, 107, 0, 739), (.ifCond .eq 45, 23, 0, 0), (.iload_n 2, 2, 0, 0), (.invokestatic 262, 108, 0, 742), (.ifCond .eq 38, 23, 0, 0), (.iload 4, 4, 0, 0), (.iconst 1, 0, 0, 1),
  (.bipush 6, 0, 0, 6), (.invokestatic 55, 12, 0, 334), (.ifCond .eq 27, 23, 0, 0), (.iload 5, 5, 0, 0), (.iconst 1, 0, 0, 1), (.bipush 6, 0, 0, 6), (.invokestatic 55, 12, 0, 334), (.ifCond .eq 16, 23, 0, 0),
  (.iload 6, 6, 0, 0), (.iconst (-1), 0, 0, -1), (.iload 5, 5, 0, 0), (.iconst 1, 0, 0, 1), (.isub, 0, 0, 0), (.invokestatic 55, 12, 0, 334), (.ifCond .ne 5, 25, 0, 0), (.iconst (-1), 0, 0, -1),
  (.ireturn, 0, 0, 0), (.aload_n 0, 0, 0, 0), (.getfield 46, 5, 8, 307), (.iload_n 1, 1, 0, 0), (.aaload, 0, 0, 0), (.astore 7, 7, 0, 0), (.aload 7, 7, 0, 0), (.iload_n 2, 2, 0, 0),
  (.iload_n 3, 3, 0, 0), (.iload 4, 4, 0, 0), (.iload 5, 5, 0, 0), (.imul, 0, 0, 0), (.invokevirtual 265, 109, 0, 745), (.istore 8, 8, 0, 0), (.iload 8, 8, 0, 0), (.ifCond .eq 6, 42, 0, 0),
  (.iload 8, 8, 0, 0), (.ireturn, 0, 0, 0), (.aload 7, 7, 0, 0), (.iload_n 3, 3, 0, 0), (.iload 4, 4, 0, 0), (.iload 5, 5, 0, 0), (.iconst 0, 0, 0, 0), (.invokevirtual 269, 111, 0, 753),
  (.ifCond .ne 6, 51, 0, 0), (.bipush (-2), 0, 0, -2), (.ireturn, 0, 0, 0), (.iconst 0, 0, 0, 0), (.istore 9, 9, 0, 0), (.iload 9, 9, 0, 0), (.iload 5, 5, 0, 0), (.if_icmp .ge 29, 69, 0, 0),
  (.aload_n 0, 0, 0, 0), (.getfield 40, 6, 8, 308), (.iload 9, 9, 0, 0), (.aload 7, 7, 0, 0), (.iload_n 3, 3, 0, 0), (.iload 9, 9, 0, 0), (.iadd, 0, 0, 0), (.iload 4, 4, 0, 0),
  (.iload 5, 5, 0, 0), (.invokevirtual 273, 112, 0, 758), (.iastore, 0, 0, 0), (.iinc 9 1, 9, 0, 1), (.goto (-30), 53, 0, 0), (.iload 6, 6, 0, 0), (.ifCond .ge 16, 77, 0, 0), (.aload_n 0, 0, 0, 0),
  (.aload_n 0, 0, 0, 0), (.getfield 40, 6, 8, 308), (.iload 5, 5, 0, 0), (.invokevirtual 276, 88, 0, 654), (.goto 10, 81, 0, 0), (.aload_n 0, 0, 0, 0), (.getfield 40, 6, 8, 308), (.iload 6, 6, 0, 0),
  (.iaload, 0, 0, 0), (.ireturn, 0, 0, 0)]
/-- StreetCries.isSheet(I)Z -/
def jx_c107 : List (Instr × Nat × Nat × Int) := [(.iload_n 0, 0, 0, 0), (.ifCond .lt 12, 7, 0, 0), (.iload_n 0, 0, 0, 0), (.iconst 4, 0, 0, 4), (.if_icmp .ge 7, 7, 0, 0), (.iconst 1, 0, 0, 1), (.goto 4, 8, 0, 0), (.iconst 0, 0, 0, 0),
  (.ireturn, 1, 0, 0)]
/-- StreetCries.isLane(I)Z -/
def jx_c108 : List (Instr × Nat × Nat × Int) := [(.iload_n 0, 0, 0, 0), (.ifCond .lt 12, 7, 0, 0), (.iload_n 0, 0, 0, 0), (.iconst 3, 0, 0, 3), (.if_icmp .ge 7, 7, 0, 0), (.iconst 1, 0, 0, 1), (.goto 4, 8, 0, 0), (.iconst 0, 0, 0, 0),
  (.ireturn, 1, 0, 0)]
/-- StreetCries$Sheet.refusal(III)I -/
def jx_c109 : List (Instr × Nat × Nat × Int) := [(.aload_n 0, 0, 0, 0), (.getfield 21, 1, 3, 287), (.ifCond .ne 6, 5, 0, 0), (.bipush (-11), 0, 0, -11), (.ireturn, 0, 0, 0), (.aload_n 0, 0, 0, 0), (.getfield 25, 2, 3, 289), (.iload_n 1, 1, 0, 0),
  (.if_icmp .eq 6, 11, 0, 0), (.bipush (-12), 0, 0, -12), (.ireturn, 0, 0, 0), (.aload_n 0, 0, 0, 0), (.iload_n 2, 2, 0, 0), (.iload_n 3, 3, 0, 0), (.invokevirtual 32, 110, 0, 749), (.ifCond .eq 7, 18, 0, 0),
  (.iconst 0, 0, 0, 0), (.goto 5, 19, 0, 0), (.bipush (-13), 0, 0, -13), (.ireturn, 0, 0, 0)]
/-- StreetCries$Sheet.hasItems(II)Z -/
def jx_c110 : List (Instr × Nat × Nat × Int) := [(.iload_n 1, 1, 0, 0), (.ifCond .lt 29, 16, 0, 0), (.iload_n 2, 2, 0, 0), (.ifCond .lt 25, 16, 0, 0), (.iload_n 1, 1, 0, 0), (.aload_n 0, 0, 0, 0), (.getfield 29, 3, 3, 291), (.if_icmp .gt 17, 16, 0, 0),
  (.iload_n 2, 2, 0, 0), (.aload_n 0, 0, 0, 0), (.getfield 29, 3, 3, 291), (.iload_n 1, 1, 0, 0), (.isub, 0, 0, 0), (.if_icmp .gt 7, 16, 0, 0), (.iconst 1, 0, 0, 1), (.goto 4, 17, 0, 0),
  (.iconst 0, 0, 0, 0), (.ireturn, 1, 0, 0)]
/-- StreetCries$Sheet.holdsNotes(IIII)Z -/
def jx_c111 : List (Instr × Nat × Nat × Int) := [(.iconst 0, 0, 0, 0), (.istore 5, 5, 0, 0), (.iload 5, 5, 0, 0), (.iload_n 2, 2, 0, 0), (.if_icmp .ge 59, 36, 0, 0), (.iload_n 1, 1, 0, 0), (.iload 5, 5, 0, 0), (.iload 4, 4, 0, 0),
  (.iload_n 3, 3, 0, 0), (.iadd, 0, 0, 0), (.imul, 0, 0, 0), (.iadd, 0, 0, 0), (.iload 4, 4, 0, 0), (.iadd, 0, 0, 0), (.istore 6, 6, 0, 0), (.iconst 0, 0, 0, 0),
  (.istore 7, 7, 0, 0), (.iload 7, 7, 0, 0), (.iload_n 3, 3, 0, 0), (.if_icmp .ge 30, 34, 0, 0), (.aload_n 0, 0, 0, 0), (.getfield 9, 0, 3, 285), (.iload 6, 6, 0, 0), (.iload 7, 7, 0, 0),
  (.iadd, 0, 0, 0), (.iaload, 0, 0, 0), (.iconst 0, 0, 0, 0), (.bipush 9, 0, 0, 9), (.invokestatic 36, 12, 1, 757), (.ifCond .ne 5, 32, 0, 0), (.iconst 0, 0, 0, 0), (.ireturn, 1, 0, 0),
  (.iinc 7 1, 7, 0, 1), (.goto (-30), 17, 0, 0), (.iinc 5 1, 5, 0, 1), (.goto (-59), 2, 0, 0), (.iconst 1, 0, 0, 1), (.ireturn, 1, 0, 0)]
/-- StreetCries$Sheet.mostCommon(III)I -/
def jx_c112 : List (Instr × Nat × Nat × Int) := [(.iconst 0, 0, 0, 0), (.istore 4, 4, 0, 0), (.iconst 0, 0, 0, 0), (.istore 5, 5, 0, 0), (.iconst 0, 0, 0, 0), (.istore 6, 6, 0, 0), (.iload 6, 6, 0, 0), (.bipush 9, 0, 0, 9),
  (.if_icmp .gt 61, 38, 0, 0), (.iconst 0, 0, 0, 0), (.istore 7, 7, 0, 0), (.iconst 0, 0, 0, 0), (.istore 8, 8, 0, 0), (.iload 8, 8, 0, 0), (.iload_n 2, 2, 0, 0), (.if_icmp .ge 28, 29, 0, 0),
  (.aload_n 0, 0, 0, 0), (.getfield 9, 0, 3, 285), (.iload_n 1, 1, 0, 0), (.iload 8, 8, 0, 0), (.iload_n 3, 3, 0, 0), (.imul, 0, 0, 0), (.iadd, 0, 0, 0), (.iaload, 0, 0, 0),
  (.iload 6, 6, 0, 0), (.if_icmp .ne 6, 27, 0, 0), (.iinc 7 1, 7, 0, 1), (.iinc 8 1, 8, 0, 1), (.goto (-28), 13, 0, 0), (.iload 7, 7, 0, 0), (.iload 5, 5, 0, 0), (.if_icmp .le 11, 36, 0, 0),
  (.iload 7, 7, 0, 0), (.istore 5, 5, 0, 0), (.iload 6, 6, 0, 0), (.istore 4, 4, 0, 0), (.iinc 6 1, 6, 0, 1), (.goto (-62), 6, 0, 0), (.iload 4, 4, 0, 0), (.ireturn, 0, 0, 0)]
/-- StreetCries.came(IIIIII)I -/
def jx_c113 : List (Instr × Nat × Nat × Int) := [(.iload_n 1, 1, 0, 0), (.invokestatic 259, 107, 0, 739), (.ifCond .eq 44, 23, 0, 0), (.iload_n 2, 2, 0, 0), (.invokestatic 262, 108, 0, 742), (.ifCond .eq 37, 23, 0, 0), (.iload 4, 4, 0, 0), (.iconst 1, 0, 0, 1),
  (.iconst 5, 0, 0, 5), (.invokestatic 55, 12, 0, 334), (.ifCond .eq 27, 23, 0, 0), (.iload 5, 5, 0, 0), (.iconst 1, 0, 0, 1), (.bipush 6, 0, 0, 6), (.invokestatic 55, 12, 0, 334), (.ifCond .eq 16, 23, 0, 0),
  (.iload 6, 6, 0, 0), (.iconst 0, 0, 0, 0), (.iload 4, 4, 0, 0), (.iconst 1, 0, 0, 1), (.isub, 0, 0, 0), (.invokestatic 55, 12, 0, 334), (.ifCond .ne 5, 25, 0, 0), (.iconst (-1), 0, 0, -1),
  (.ireturn, 0, 0, 0), (.aload_n 0, 0, 0, 0), (.getfield 46, 5, 8, 307), (.iload_n 1, 1, 0, 0), (.aaload, 0, 0, 0), (.astore 7, 7, 0, 0), (.aload 7, 7, 0, 0), (.iload_n 2, 2, 0, 0),
  (.iload_n 3, 3, 0, 0), (.iload 4, 4, 0, 0), (.iload 5, 5, 0, 0), (.iconst 1, 0, 0, 1), (.iadd, 0, 0, 0), (.imul, 0, 0, 0), (.invokevirtual 265, 109, 0, 745), (.istore 8, 8, 0, 0),
  (.iload 8, 8, 0, 0), (.ifCond .eq 6, 44, 0, 0), (.iload 8, 8, 0, 0), (.ireturn, 0, 0, 0), (.aload 7, 7, 0, 0), (.iload_n 3, 3, 0, 0), (.iload 4, 4, 0, 0), (.iload 5, 5, 0, 0),
  (.iconst 1, 0, 0, 1), (.invokevirtual 269, 111, 0, 753), (.ifCond .ne 6, 53, 0, 0), (.bipush (-2), 0, 0, -2), (.ireturn, 0, 0, 0), (.aload 7, 7, 0, 0), (.iload_n 3, 3, 0, 0), (.iload 4, 4, 0, 0),
  (.iload 5, 5, 0, 0), (.iload 6, 6, 0, 0), (.invokevirtual 279, 114, 0, 766), (.ireturn, 0, 0, 0)]
/-- StreetCries$Sheet.nearestEarlier(IIII)I -/
def jx_c114 : List (Instr × Nat × Nat × Int) := [(.iload_n 1, 1, 0, 0), (.iload 4, 4, 0, 0), (.iload_n 3, 3, 0, 0), (.iconst 1, 0, 0, 1), (.iadd, 0, 0, 0), (.imul, 0, 0, 0), (.iadd, 0, 0, 0), (.istore 5, 5, 0, 0),
  (.bipush (-4), 0, 0, -4), (.istore 6, 6, 0, 0), (.iconst 0, 0, 0, 0), (.istore 7, 7, 0, 0), (.iconst 0, 0, 0, 0), (.istore 8, 8, 0, 0), (.iload 8, 8, 0, 0), (.iload_n 2, 2, 0, 0),
  (.if_icmp .ge 74, 56, 0, 0), (.iload_n 1, 1, 0, 0), (.iload 8, 8, 0, 0), (.iload_n 3, 3, 0, 0), (.iconst 1, 0, 0, 1), (.iadd, 0, 0, 0), (.imul, 0, 0, 0), (.iadd, 0, 0, 0),
  (.istore 9, 9, 0, 0), (.aload_n 0, 0, 0, 0), (.getfield 9, 0, 3, 285), (.iload 9, 9, 0, 0), (.iaload, 0, 0, 0), (.aload_n 0, 0, 0, 0), (.getfield 9, 0, 3, 285), (.iload 5, 5, 0, 0),
  (.iaload, 0, 0, 0), (.if_icmp .lt 6, 35, 0, 0), (.goto 38, 54, 0, 0), (.aload_n 0, 0, 0, 0), (.iload 5, 5, 0, 0), (.iconst 1, 0, 0, 1), (.iadd, 0, 0, 0), (.iload 9, 9, 0, 0),
  (.iconst 1, 0, 0, 1), (.iadd, 0, 0, 0), (.iload_n 3, 3, 0, 0), (.invokevirtual 40, 115, 0, 770), (.istore 10, 10, 0, 0), (.iload 6, 6, 0, 0), (.ifCond .lt 10, 50, 0, 0), (.iload 10, 10, 0, 0),
  (.iload 7, 7, 0, 0), (.if_icmp .ge 11, 54, 0, 0), (.iload 8, 8, 0, 0), (.istore 6, 6, 0, 0), (.iload 10, 10, 0, 0), (.istore 7, 7, 0, 0), (.iinc 8 1, 8, 0, 1), (.goto (-74), 14, 0, 0),
  (.iload 6, 6, 0, 0), (.ireturn, 0, 0, 0)]
/-- StreetCries$Sheet.differenceOf(III)I -/
def jx_c115 : List (Instr × Nat × Nat × Int) := [(.iconst 0, 0, 0, 0), (.istore 4, 4, 0, 0), (.iconst 0, 0, 0, 0), (.istore 5, 5, 0, 0), (.iload 5, 5, 0, 0), (.iload_n 3, 3, 0, 0), (.if_icmp .ge 36, 26, 0, 0), (.iload 4, 4, 0, 0),
  (.aload_n 0, 0, 0, 0), (.getfield 9, 0, 3, 285), (.iload_n 1, 1, 0, 0), (.iload 5, 5, 0, 0), (.iadd, 0, 0, 0), (.iaload, 0, 0, 0), (.aload_n 0, 0, 0, 0), (.getfield 9, 0, 3, 285),
  (.iload_n 2, 2, 0, 0), (.iload 5, 5, 0, 0), (.iadd, 0, 0, 0), (.iaload, 0, 0, 0), (.isub, 0, 0, 0), (.invokestatic 44, 0, 5, 774), (.iadd, 0, 0, 0), (.istore 4, 4, 0, 0),
  (.iinc 5 1, 5, 0, 1), (.goto (-36), 4, 0, 0), (.iload 4, 4, 0, 0), (.ireturn, 0, 0, 0)]
/-- StreetCries.sheet(III)I -/
def jx_c116 : List (Instr × Nat × Nat × Int) := [(.iload_n 1, 1, 0, 0), (.invokestatic 259, 107, 0, 739), (.ifCond .eq 16, 9, 0, 0), (.iload_n 2, 2, 0, 0), (.invokestatic 262, 108, 0, 742), (.ifCond .eq 9, 9, 0, 0), (.iload_n 3, 3, 0, 0), (.bipush 24, 0, 0, 24),
  (.if_icmp .le 5, 11, 0, 0), (.iconst (-1), 0, 0, -1), (.ireturn, 0, 0, 0), (.iload_n 3, 3, 0, 0), (.ifCond .ge 6, 15, 0, 0), (.bipush (-14), 0, 0, -14), (.ireturn, 0, 0, 0), (.aload_n 0, 0, 0, 0),
  (.getfield 46, 5, 8, 307), (.iload_n 1, 1, 0, 0), (.aaload, 0, 0, 0), (.iload_n 2, 2, 0, 0), (.iload_n 3, 3, 0, 0), (.invokevirtual 283, 117, 0, 779), (.iload_n 3, 3, 0, 0), (.ireturn, 0, 0, 0)]
/-- StreetCries$Sheet.begin(II)V -/
def jx_c117 : List (Instr × Nat × Nat × Int) := [(.aload_n 0, 0, 0, 0), (.getfield 9, 0, 3, 285), (.iconst 0, 0, 0, 0), (.invokestatic 15, 2, 0, 783), (.aload_n 0, 0, 0, 0), (.iconst 1, 0, 0, 1), (.putfield 21, 1, 3, 287), (.aload_n 0, 0, 0, 0),
  (.iload_n 1, 1, 0, 0), (.putfield 25, 2, 3, 289), (.aload_n 0, 0, 0, 0), (.iload_n 2, 2, 0, 0), (.putfield 29, 3, 3, 291), (.return_, 0, 0, 0)]
/-- StreetCries.drop(I)I -/
def jx_c118 : List (Instr × Nat × Nat × Int) := [(.iload_n 1, 1, 0, 0), (.invokestatic 259, 107, 0, 739), (.ifCond .ne 5, 5, 0, 0), (.iconst (-1), 0, 0, -1), (.ireturn, 0, 0, 0), (.aload_n 0, 0, 0, 0), (.getfield 46, 5, 8, 307), (.iload_n 1, 1, 0, 0),
  (.aaload, 0, 0, 0), (.astore_n 2, 2, 0, 0), (.aload_n 2, 2, 0, 0), (.getfield 286, 1, 3, 288), (.ifCond .ne 6, 15, 0, 0), (.bipush (-11), 0, 0, -11), (.ireturn, 0, 0, 0), (.aload_n 2, 2, 0, 0),
  (.iconst 0, 0, 0, 0), (.putfield 286, 1, 3, 288), (.aload_n 2, 2, 0, 0), (.getfield 289, 3, 3, 292), (.ireturn, 0, 0, 0)]
/-- StreetCries.item(IIII)I -/
def jx_c119 : List (Instr × Nat × Nat × Int) := [(.iload_n 1, 1, 0, 0), (.invokestatic 259, 107, 0, 739), (.ifCond .eq 10, 6, 0, 0), (.iload_n 2, 2, 0, 0), (.invokestatic 262, 108, 0, 742), (.ifCond .ne 5, 8, 0, 0), (.iconst (-1), 0, 0, -1), (.ireturn, 0, 0, 0),
  (.aload_n 0, 0, 0, 0), (.getfield 46, 5, 8, 307), (.iload_n 1, 1, 0, 0), (.aaload, 0, 0, 0), (.astore 5, 5, 0, 0), (.aload 5, 5, 0, 0), (.iload_n 2, 2, 0, 0), (.iload_n 3, 3, 0, 0),
  (.iconst 1, 0, 0, 1), (.invokevirtual 265, 109, 0, 745), (.istore 6, 6, 0, 0), (.iload 6, 6, 0, 0), (.ifCond .eq 6, 23, 0, 0), (.iload 6, 6, 0, 0), (.ireturn, 0, 0, 0), (.aload 5, 5, 0, 0),
  (.iload_n 3, 3, 0, 0), (.iload 4, 4, 0, 0), (.invokevirtual 292, 120, 0, 792), (.iconst 1, 0, 0, 1), (.ireturn, 0, 0, 0)]
/-- StreetCries$Sheet.put(II)V -/
def jx_c120 : List (Instr × Nat × Nat × Int) := [(.aload_n 0, 0, 0, 0), (.getfield 25, 2, 3, 289), (.ifCond .ne 14, 10, 0, 0), (.aload_n 0, 0, 0, 0), (.getfield 9, 0, 3, 285), (.iload_n 1, 1, 0, 0), (.iload_n 2, 2, 0, 0), (.i2b, 0, 0, 0),
  (.iastore, 0, 0, 0), (.goto 29, 26, 0, 0), (.aload_n 0, 0, 0, 0), (.getfield 25, 2, 3, 289), (.iconst 1, 0, 0, 1), (.if_icmp .ne 14, 21, 0, 0), (.aload_n 0, 0, 0, 0), (.getfield 9, 0, 3, 285),
  (.iload_n 1, 1, 0, 0), (.iload_n 2, 2, 0, 0), (.i2s, 0, 0, 0), (.iastore, 0, 0, 0), (.goto 10, 26, 0, 0), (.aload_n 0, 0, 0, 0), (.getfield 9, 0, 3, 285), (.iload_n 1, 1, 0, 0),
  (.iload_n 2, 2, 0, 0), (.iastore, 0, 0, 0), (.return_, 0, 0, 0)]
/-- StreetCries.copy(IIIII)I -/
def jx_c121 : List (Instr × Nat × Nat × Int) := [(.iload_n 1, 1, 0, 0), (.invokestatic 259, 107, 0, 739), (.ifCond .eq 10, 6, 0, 0), (.iload_n 3, 3, 0, 0), (.invokestatic 259, 107, 0, 739), (.ifCond .ne 5, 8, 0, 0), (.iconst (-1), 0, 0, -1), (.ireturn, 0, 0, 0),
  (.aload_n 0, 0, 0, 0), (.getfield 46, 5, 8, 307), (.iload_n 1, 1, 0, 0), (.aaload, 0, 0, 0), (.astore 6, 6, 0, 0), (.aload_n 0, 0, 0, 0), (.getfield 46, 5, 8, 307), (.iload_n 3, 3, 0, 0),
  (.aaload, 0, 0, 0), (.astore 7, 7, 0, 0), (.aload 6, 6, 0, 0), (.getfield 286, 1, 3, 288), (.ifCond .eq 11, 24, 0, 0), (.aload 7, 7, 0, 0), (.getfield 286, 1, 3, 288), (.ifCond .ne 6, 26, 0, 0),
  (.bipush (-11), 0, 0, -11), (.ireturn, 0, 0, 0), (.aload 6, 6, 0, 0), (.getfield 295, 2, 3, 290), (.aload 7, 7, 0, 0), (.getfield 295, 2, 3, 290), (.if_icmp .eq 6, 33, 0, 0), (.bipush (-12), 0, 0, -12),
  (.ireturn, 0, 0, 0), (.aload 6, 6, 0, 0), (.iload_n 2, 2, 0, 0), (.iload 5, 5, 0, 0), (.invokevirtual 298, 110, 0, 800), (.ifCond .eq 15, 43, 0, 0), (.aload 7, 7, 0, 0), (.iload 4, 4, 0, 0),
  (.iload 5, 5, 0, 0), (.invokevirtual 298, 110, 0, 800), (.ifCond .ne 6, 45, 0, 0), (.bipush (-13), 0, 0, -13), (.ireturn, 0, 0, 0), (.aload 6, 6, 0, 0), (.getfield 302, 0, 3, 286), (.iload_n 2, 2, 0, 0),
  (.aload 7, 7, 0, 0), (.getfield 302, 0, 3, 286), (.iload 4, 4, 0, 0), (.iload 5, 5, 0, 0), (.invokestatic 305, 0, 3, 801), (.iload 5, 5, 0, 0), (.ireturn, 0, 0, 0)]
/-- StreetCriesModel.<init>()V -/
def jx_c122 : List (Instr × Nat × Nat × Int) := [(.aload_n 0, 0, 0, 0), (.invokespecial 1, 0, 2, 807), (.aload_n 0, 0, 0, 0), (.bipush 25, 0, 0, 25), (.newarray .int, 0, 0, 0), (.putfield 7, 0, 9, 808), (.aload_n 0, 0, 0, 0), (.bipush 24, 0, 0, 24),
  (.newarray .int, 0, 0, 0), (.putfield 13, 2, 9, 810), (.aload_n 0, 0, 0, 0), (.bipush 78, 0, 0, 78), (.newarray .int, 0, 0, 0), (.putfield 16, 3, 9, 811), (.aload_n 0, 0, 0, 0), (.bipush 42, 0, 0, 42),
  (.newarray .int, 0, 0, 0), (.putfield 19, 4, 9, 812), (.aload_n 0, 0, 0, 0), (.bipush 48, 0, 0, 48), (.newarray .int, 0, 0, 0), (.putfield 22, 8, 9, 816), (.aload_n 0, 0, 0, 0), (.bipush 36, 0, 0, 36),
  (.newarray .int, 0, 0, 0), (.putfield 25, 10, 9, 818), (.aload_n 0, 0, 0, 0), (.bipush 60, 0, 0, 60), (.newarray .int, 0, 0, 0), (.putfield 28, 11, 9, 819), (.aload_n 0, 0, 0, 0), (.bipush 25, 0, 0, 25),
  (.newarray .int, 0, 0, 0), (.putfield 31, 15, 9, 823), (.aload_n 0, 0, 0, 0), (.bipush (-4), 0, 0, -4), (.putfield 34, 16, 9, 824), (.aload_n 0, 0, 0, 0), (.bipush (-4), 0, 0, -4), (.putfield 38, 17, 9, 825),
  (.aload_n 0, 0, 0, 0), (.bipush 12, 0, 0, 12), (.newarray .int, 0, 0, 0), (.putfield 41, 18, 9, 826), (.aload_n 0, 0, 0, 0), (.bipush 12, 0, 0, 12), (.newarray .int, 0, 0, 0), (.putfield 44, 19, 9, 827),
  (.aload_n 0, 0, 0, 0), (.bipush 12, 0, 0, 12), (.newarray .int, 0, 0, 0), (.putfield 47, 20, 9, 828), (.aload_n 0, 0, 0, 0), (.bipush 12, 0, 0, 12), (.newarray .int, 0, 0, 0), (.putfield 50, 21, 9, 829),
  (.aload_n 0, 0, 0, 0), (.bipush 36, 0, 0, 36), (.newarray .int, 0, 0, 0), (.putfield 53, 22, 9, 830), (.aload_n 0, 0, 0, 0), (.bipush 36, 0, 0, 36), (.newarray .int, 0, 0, 0), (.putfield 56, 23, 9, 831),
  (.aload_n 0, 0, 0, 0), (.bipush 6, 0, 0, 6), (.newarray .int, 0, 0, 0), (.putfield 59, 24, 9, 832), (.aload_n 0, 0, 0, 0), (.sipush 300, 0, 0, 300), (.newarray .int, 0, 0, 0), (.putfield 62, 26, 9, 834),
  (.aload_n 0, 0, 0, 0), (.iconst 4, 0, 0, 4), (.newarray .int, 0, 0, 0), (.putfield 65, 28, 9, 836), (.aload_n 0, 0, 0, 0), (.iconst 4, 0, 0, 4), (.newarray .int, 0, 0, 0), (.putfield 68, 29, 9, 837),
  (.aload_n 0, 0, 0, 0), (.bipush 96, 0, 0, 96), (.newarray .int, 0, 0, 0), (.putfield 71, 30, 9, 838), (.aload_n 0, 0, 0, 0), (.bipush 24, 0, 0, 24), (.newarray .int, 0, 0, 0), (.putfield 74, 31, 9, 839),
  (.iconst 0, 0, 0, 0), (.istore_n 1, 1, 0, 0), (.iload_n 1, 1, 0, 0), (.iconst 4, 0, 0, 4), (.if_icmp .ge 16, 100, 0, 0), (.aload_n 0, 0, 0, 0), (.getfield 65, 28, 9, 836), (.iload_n 1, 1, 0, 0),
  (.iconst (-1), 0, 0, -1), (.iastore, 0, 0, 0), (.iinc 1 1, 1, 0, 1), (.goto (-15), 90, 0, 0), (.iconst 0, 0, 0, 0), (.istore_n 1, 1, 0, 0), (.iload_n 1, 1, 0, 0), (.bipush 25, 0, 0, 25),
  (.if_icmp .ge 16, 112, 0, 0), (.aload_n 0, 0, 0, 0), (.getfield 7, 0, 9, 808), (.iload_n 1, 1, 0, 0), (.iconst 1, 0, 0, 1), (.iastore, 0, 0, 0), (.iinc 1 1, 1, 0, 1), (.goto (-16), 102, 0, 0),
  (.aload_n 0, 0, 0, 0), (.iconst 3, 0, 0, 3), (.putfield 77, 5, 9, 813), (.return_, 0, 0, 0)]
/-- StreetCriesModel.noise(II)I -/
def jx_c123 : List (Instr × Nat × Nat × Int) := [(.iload_n 1, 1, 0, 0), (.invokestatic 91, 124, 0, 909), (.ifCond .eq 15, 9, 0, 0), (.iload_n 2, 2, 0, 0), (.i2l, 0, 0, 0), (.lconst 0, 0, 0, 0), (.ldc2_w 95, 0, 916, 9), (.invokestatic 82, 125, 0, 913),
  (.ifCond .ne 5, 11, 0, 0), (.iconst (-1), 0, 0, -1), (.ireturn, 0, 0, 0), (.aload_n 0, 0, 0, 0), (.getfield 7, 0, 9, 808), (.iload_n 1, 1, 0, 0), (.iaload, 0, 0, 0), (.istore_n 3, 3, 0, 0),
  (.aload_n 0, 0, 0, 0), (.getfield 7, 0, 9, 808), (.iload_n 1, 1, 0, 0), (.iload_n 2, 2, 0, 0), (.iastore, 0, 0, 0), (.iload_n 3, 3, 0, 0), (.ireturn, 0, 0, 0)]
/-- StreetCriesModel.isCorner(I)Z -/
def jx_c124 : List (Instr × Nat × Nat × Int) := [(.iload_n 0, 0, 0, 0), (.i2l, 0, 0, 0), (.lconst 0, 0, 0, 0), (.ldc2_w 80, 0, 912, 24), (.invokestatic 82, 125, 0, 913), (.ireturn, 1, 0, 0)]
/-- StreetCriesModel.in(JJJ)Z -/
def jx_c125 : List (Instr × Nat × Nat × Int) := [(.lload_n 0, 0, 0, 0), (.lload_n 2, 2, 0, 0), (.lcmp, 0, 0, 0), (.ifCond .lt 14, 10, 0, 0), (.lload_n 0, 0, 0, 0), (.lload 4, 4, 0, 0), (.lcmp, 0, 0, 0), (.ifCond .gt 7, 10, 0, 0),
  (.iconst 1, 0, 0, 1), (.goto 4, 11, 0, 0), (.iconst 0, 0, 0, 0), (.ireturn, 1, 0, 0)]
/-- StreetCriesModel.seller(III)I -/
def jx_c126 : List (Instr × Nat × Nat × Int) := [(.iconst 0, 0, 0, 0), (.iload_n 1, 1, 0, 0), (.invokestatic 104, 127, 0, 921), (.ifCond .eq 19, 12, 0, 0), (.iconst 1, 0, 0, 1), (.iload_n 2, 2, 0, 0), (.invokestatic 104, 127, 0, 921), (.ifCond .eq 11, 12, 0, 0),
  (.iconst 3, 0, 0, 3), (.iload_n 3, 3, 0, 0), (.invokestatic 104, 127, 0, 921), (.ifCond .ne 5, 14, 0, 0), (.iconst (-1), 0, 0, -1), (.ireturn, 0, 0, 0), (.aload_n 0, 0, 0, 0), (.getfield 88, 1, 9, 809),
  (.bipush 6, 0, 0, 6), (.if_icmp .ne 6, 20, 0, 0), (.bipush (-3), 0, 0, -3), (.ireturn, 0, 0, 0), (.aload_n 0, 0, 0, 0), (.getfield 88, 1, 9, 809), (.istore 4, 4, 0, 0), (.aload_n 0, 0, 0, 0),
  (.getfield 13, 2, 9, 810), (.iconst 4, 0, 0, 4), (.iload 4, 4, 0, 0), (.imul, 0, 0, 0), (.iload_n 1, 1, 0, 0), (.iastore, 0, 0, 0), (.aload_n 0, 0, 0, 0), (.getfield 13, 2, 9, 810),
  (.iconst 4, 0, 0, 4), (.iload 4, 4, 0, 0), (.imul, 0, 0, 0), (.iconst 1, 0, 0, 1), (.iadd, 0, 0, 0), (.iload_n 2, 2, 0, 0), (.iastore, 0, 0, 0), (.aload_n 0, 0, 0, 0),
  (.getfield 13, 2, 9, 810), (.iconst 4, 0, 0, 4), (.iload 4, 4, 0, 0), (.imul, 0, 0, 0), (.iconst 2, 0, 0, 2), (.iadd, 0, 0, 0), (.iconst 0, 0, 0, 0), (.iastore, 0, 0, 0),
  (.aload_n 0, 0, 0, 0), (.getfield 13, 2, 9, 810), (.iconst 4, 0, 0, 4), (.iload 4, 4, 0, 0), (.imul, 0, 0, 0), (.iconst 3, 0, 0, 3), (.iadd, 0, 0, 0), (.iload_n 3, 3, 0, 0),
  (.iastore, 0, 0, 0), (.aload_n 0, 0, 0, 0), (.getfield 16, 3, 9, 811), (.bipush 13, 0, 0, 13), (.iload 4, 4, 0, 0), (.imul, 0, 0, 0), (.iconst 1, 0, 0, 1), (.iastore, 0, 0, 0),
  (.aload_n 0, 0, 0, 0), (.getfield 16, 3, 9, 811), (.bipush 13, 0, 0, 13), (.iload 4, 4, 0, 0), (.imul, 0, 0, 0), (.iconst 1, 0, 0, 1), (.iadd, 0, 0, 0), (.iconst 0, 0, 0, 0),
  (.iastore, 0, 0, 0), (.aload_n 0, 0, 0, 0), (.getfield 19, 4, 9, 812), (.bipush 7, 0, 0, 7), (.iload 4, 4, 0, 0), (.imul, 0, 0, 0), (.iconst 1, 0, 0, 1), (.iastore, 0, 0, 0),
  (.aload_n 0, 0, 0, 0), (.getfield 19, 4, 9, 812), (.bipush 7, 0, 0, 7), (.iload 4, 4, 0, 0), (.imul, 0, 0, 0), (.iconst 1, 0, 0, 1), (.iadd, 0, 0, 0), (.iconst 5, 0, 0, 5),
  (.iastore, 0, 0, 0), (.aload_n 0, 0, 0, 0), (.dup, 0, 0, 0), (.getfield 88, 1, 9, 809), (.iconst 1, 0, 0, 1), (.iadd, 0, 0, 0), (.putfield 88, 1, 9, 809), (.iload 4, 4, 0, 0),
  (.ireturn, 0, 0, 0)]
/-- StreetCriesModel.isPart(II)Z -/
def jx_c127 : List (Instr × Nat × Nat × Int) := [(.iload_n 0, 0, 0, 0), (.ifCond .ne 15, 8, 0, 0), (.iload_n 1, 1, 0, 0), (.i2l, 0, 0, 0), (.lconst 0, 0, 0, 0), (.ldc2_w 97, 0, 924, 3), (.invokestatic 82, 125, 0, 913), (.goto 41, 28, 0, 0),
  (.iload_n 0, 0, 0, 0), (.iconst 1, 0, 0, 1), (.if_icmp .ne 15, 17, 0, 0), (.iload_n 1, 1, 0, 0), (.i2l, 0, 0, 0), (.lconst 1, 0, 0, 1), (.ldc2_w 95, 0, 916, 9), (.invokestatic 82, 125, 0, 913),
  (.goto 24, 28, 0, 0), (.iload_n 0, 0, 0, 0), (.iconst 2, 0, 0, 2), (.if_icmp .ne 10, 23, 0, 0), (.iload_n 1, 1, 0, 0), (.invokestatic 99, 128, 0, 925), (.goto 12, 28, 0, 0), (.iload_n 1, 1, 0, 0),
  (.i2l, 0, 0, 0), (.lconst 1, 0, 0, 1), (.ldc2_w 102, 0, 929, 5), (.invokestatic 82, 125, 0, 913), (.ireturn, 1, 0, 0)]
/-- StreetCriesModel.isMinute(I)Z -/
def jx_c128 : List (Instr × Nat × Nat × Int) := [(.iload_n 0, 0, 0, 0), (.i2l, 0, 0, 0), (.lconst 0, 0, 0, 0), (.ldc2_w 86, 0, 928, 119), (.invokestatic 82, 125, 0, 913), (.ireturn, 1, 0, 0)]
/-- StreetCriesModel.of(III)I -/
def jx_c129 : List (Instr × Nat × Nat × Int) := [(.aload_n 0, 0, 0, 0), (.iload_n 1, 1, 0, 0), (.invokevirtual 108, 130, 0, 934), (.ifCond .eq 23, 14, 0, 0), (.iload_n 2, 2, 0, 0), (.i2l, 0, 0, 0), (.lconst 0, 0, 0, 0), (.ldc2_w 97, 0, 924, 3),
  (.invokestatic 82, 125, 0, 913), (.ifCond .eq 11, 14, 0, 0), (.iload_n 2, 2, 0, 0), (.iload_n 3, 3, 0, 0), (.invokestatic 104, 127, 0, 921), (.ifCond .ne 5, 16, 0, 0), (.iconst (-1), 0, 0, -1), (.ireturn, 0, 0, 0),
  (.aload_n 0, 0, 0, 0), (.getfield 13, 2, 9, 810), (.iconst 4, 0, 0, 4), (.iload_n 1, 1, 0, 0), (.imul, 0, 0, 0), (.iload_n 2, 2, 0, 0), (.iadd, 0, 0, 0), (.iaload, 0, 0, 0),
  (.istore 4, 4, 0, 0), (.aload_n 0, 0, 0, 0), (.getfield 13, 2, 9, 810), (.iconst 4, 0, 0, 4), (.iload_n 1, 1, 0, 0), (.imul, 0, 0, 0), (.iload_n 2, 2, 0, 0), (.iadd, 0, 0, 0),
  (.iload_n 3, 3, 0, 0), (.iastore, 0, 0, 0), (.iload 4, 4, 0, 0), (.ireturn, 0, 0, 0)]
/-- StreetCriesModel.isSeller(I)Z -/
def jx_c130 : List (Instr × Nat × Nat × Int) := [(.iload_n 1, 1, 0, 0), (.i2l, 0, 0, 0), (.lconst 0, 0, 0, 0), (.aload_n 0, 0, 0, 0), (.getfield 88, 1, 9, 809), (.iconst 1, 0, 0, 1), (.isub, 0, 0, 0), (.i2l, 0, 0, 0),
  (.invokestatic 82, 125, 0, 913), (.ireturn, 1, 0, 0)]
/-- StreetCriesModel.type(JI)I -/
def jx_c131 : List (Instr × Nat × Nat × Int) := [(.iload_n 3, 3, 0, 0), (.i2l, 0, 0, 0), (.lconst 1, 0, 0, 1), (.ldc2_w 111, 0, 942, 8), (.invokestatic 82, 125, 0, 913), (.ifCond .ne 5, 8, 0, 0), (.iconst (-1), 0, 0, -1), (.ireturn, 0, 0, 0),
  (.iconst 0, 0, 0, 0), (.istore 4, 4, 0, 0), (.iload 4, 4, 0, 0), (.iload_n 3, 3, 0, 0), (.if_icmp .ge 34, 28, 0, 0), (.lload_n 1, 1, 0, 0), (.bipush 8, 0, 0, 8), (.iload 4, 4, 0, 0),
  (.imul, 0, 0, 0), (.lshr, 0, 0, 0), (.ldc2_w 113, 0, 943, 255), (.land, 0, 0, 0), (.ldc2_w 115, 0, 944, 32), (.ldc2_w 117, 0, 945, 126), (.invokestatic 82, 125, 0, 913), (.ifCond .ne 5, 26, 0, 0),
  (.iconst (-1), 0, 0, -1), (.ireturn, 0, 0, 0), (.iinc 4 1, 4, 0, 1), (.goto (-34), 10, 0, 0), (.aload_n 0, 0, 0, 0), (.getfield 119, 12, 9, 820), (.iload_n 3, 3, 0, 0), (.iadd, 0, 0, 0),
  (.bipush 60, 0, 0, 60), (.if_icmp .le 6, 36, 0, 0), (.bipush (-3), 0, 0, -3), (.ireturn, 0, 0, 0), (.iload_n 3, 3, 0, 0), (.iconst 1, 0, 0, 1), (.isub, 0, 0, 0), (.istore 4, 4, 0, 0),
  (.iload 4, 4, 0, 0), (.ifCond .lt 40, 63, 0, 0), (.aload_n 0, 0, 0, 0), (.getfield 28, 11, 9, 819), (.aload_n 0, 0, 0, 0), (.getfield 119, 12, 9, 820), (.lload_n 1, 1, 0, 0), (.bipush 8, 0, 0, 8),
  (.iload 4, 4, 0, 0), (.imul, 0, 0, 0), (.lshr, 0, 0, 0), (.ldc2_w 113, 0, 943, 255), (.land, 0, 0, 0), (.l2i, 0, 0, 0), (.iastore, 0, 0, 0), (.aload_n 0, 0, 0, 0),
  (.dup, 0, 0, 0), (.getfield 119, 12, 9, 820), (.iconst 1, 0, 0, 1), (.iadd, 0, 0, 0), (.putfield 119, 12, 9, 820), (.iinc 4 (-1), 4, 0, -1), (.goto (-39), 40, 0, 0), (.aload_n 0, 0, 0, 0),
  (.getfield 119, 12, 9, 820), (.ireturn, 0, 0, 0)]
/-- StreetCriesModel.town()I -/
def jx_c132 : List (Instr × Nat × Nat × Int) := [(.aload_n 0, 0, 0, 0), (.bipush 25, 0, 0, 25), (.bipush 25, 0, 0, 25), (.invokevirtual 141, 133, 0, 950), (.istore_n 1, 1, 0, 0), (.iconst 0, 0, 0, 0), (.istore_n 2, 2, 0, 0), (.iconst 0, 0, 0, 0),
  (.istore_n 3, 3, 0, 0), (.iload_n 3, 3, 0, 0), (.iload_n 1, 1, 0, 0), (.if_icmp .ge 30, 29, 0, 0), (.aload_n 0, 0, 0, 0), (.getfield 7, 0, 9, 808), (.iload_n 3, 3, 0, 0), (.aload_n 0, 0, 0, 0),
  (.getfield 31, 15, 9, 823), (.iload_n 3, 3, 0, 0), (.iaload, 0, 0, 0), (.iastore, 0, 0, 0), (.iload_n 2, 2, 0, 0), (.aload_n 0, 0, 0, 0), (.getfield 31, 15, 9, 823), (.iload_n 3, 3, 0, 0),
  (.iaload, 0, 0, 0), (.iadd, 0, 0, 0), (.istore_n 2, 2, 0, 0), (.iinc 3 1, 3, 0, 1), (.goto (-29), 9, 0, 0), (.iload_n 1, 1, 0, 0), (.ifCond .ge 7, 33, 0, 0), (.iload_n 1, 1, 0, 0),
  (.goto 4, 34, 0, 0), (.iload_n 2, 2, 0, 0), (.ireturn, 0, 0, 0)]
/-- StreetCriesModel.digits(II)I -/
def jx_c133 : List (Instr × Nat × Nat × Int) := [(.aload_n 0, 0, 0, 0), (.iconst 0, 0, 0, 0), (.putfield 122, 13, 9, 821), (.iconst 0, 0, 0, 0), (.istore_n 3, 3, 0, 0), (.iload_n 3, 3, 0, 0), (.iload_n 2, 2, 0, 0), (.if_icmp .ge 39, 27, 0, 0),
  (.aload_n 0, 0, 0, 0), (.invokevirtual 133, 134, 0, 954), (.ifCond .eq 32, 27, 0, 0), (.aload_n 0, 0, 0, 0), (.getfield 31, 15, 9, 823), (.iload_n 3, 3, 0, 0), (.aload_n 0, 0, 0, 0), (.invokevirtual 125, 135, 0, 958),
  (.bipush 48, 0, 0, 48), (.isub, 0, 0, 0), (.iastore, 0, 0, 0), (.aload_n 0, 0, 0, 0), (.dup, 0, 0, 0), (.getfield 122, 13, 9, 821), (.iconst 1, 0, 0, 1), (.iadd, 0, 0, 0),
  (.putfield 122, 13, 9, 821), (.iinc 3 1, 3, 0, 1), (.goto (-38), 5, 0, 0), (.aload_n 0, 0, 0, 0), (.iload_n 3, 3, 0, 0), (.iload_n 1, 1, 0, 0), (.if_icmp .lt 10, 34, 0, 0), (.aload_n 0, 0, 0, 0),
  (.invokevirtual 125, 135, 0, 958), (.ifCond .eq 7, 36, 0, 0), (.iconst 1, 0, 0, 1), (.goto 4, 37, 0, 0), (.iconst 0, 0, 0, 0), (.putfield 137, 14, 9, 822), (.aload_n 0, 0, 0, 0), (.iconst 0, 0, 0, 0),
  (.putfield 119, 12, 9, 820), (.aload_n 0, 0, 0, 0), (.getfield 137, 14, 9, 822), (.ifCond .eq 13, 49, 0, 0), (.bipush (-20), 0, 0, -20), (.aload_n 0, 0, 0, 0), (.getfield 122, 13, 9, 821), (.isub, 0, 0, 0),
  (.goto 4, 50, 0, 0), (.iload_n 3, 3, 0, 0), (.ireturn, 0, 0, 0)]
/-- StreetCriesModel.isDigit()Z -/
def jx_c134 : List (Instr × Nat × Nat × Int) := [(.aload_n 0, 0, 0, 0), (.invokevirtual 125, 135, 0, 958), (.i2l, 0, 0, 0), (.ldc2_w 129, 0, 962, 48), (.ldc2_w 131, 0, 963, 57), (.invokestatic 82, 125, 0, 913), (.ireturn, 1, 0, 0)]
/-- StreetCriesModel.here()I -/
def jx_c135 : List (Instr × Nat × Nat × Int) := [(.aload_n 0, 0, 0, 0), (.getfield 122, 13, 9, 821), (.aload_n 0, 0, 0, 0), (.getfield 119, 12, 9, 820), (.if_icmp .ge 30, 19, 0, 0), (.aload_n 0, 0, 0, 0), (.getfield 28, 11, 9, 819), (.aload_n 0, 0, 0, 0),
  (.getfield 122, 13, 9, 821), (.iaload, 0, 0, 0), (.bipush 32, 0, 0, 32), (.if_icmp .ne 16, 19, 0, 0), (.aload_n 0, 0, 0, 0), (.dup, 0, 0, 0), (.getfield 122, 13, 9, 821), (.iconst 1, 0, 0, 1),
  (.iadd, 0, 0, 0), (.putfield 122, 13, 9, 821), (.goto (-35), 0, 0, 0), (.aload_n 0, 0, 0, 0), (.getfield 122, 13, 9, 821), (.aload_n 0, 0, 0, 0), (.getfield 119, 12, 9, 820), (.if_icmp .ge 15, 30, 0, 0),
  (.aload_n 0, 0, 0, 0), (.getfield 28, 11, 9, 819), (.aload_n 0, 0, 0, 0), (.getfield 122, 13, 9, 821), (.iaload, 0, 0, 0), (.goto 4, 31, 0, 0), (.iconst 0, 0, 0, 0), (.ireturn, 0, 0, 0)]
/-- StreetCriesModel.round(I)I -/
def jx_c136 : List (Instr × Nat × Nat × Int) := [(.aload_n 0, 0, 0, 0), (.iload_n 1, 1, 0, 0), (.invokevirtual 108, 130, 0, 934), (.ifCond .ne 5, 6, 0, 0), (.iconst (-1), 0, 0, -1), (.ireturn, 0, 0, 0), (.aload_n 0, 0, 0, 0), (.iconst 0, 0, 0, 0),
  (.putfield 122, 13, 9, 821), (.aload_n 0, 0, 0, 0), (.iconst 0, 0, 0, 0), (.putfield 137, 14, 9, 822), (.iconst 0, 0, 0, 0), (.istore_n 2, 2, 0, 0), (.iconst 1, 0, 0, 1), (.istore_n 3, 3, 0, 0),
  (.iload_n 3, 3, 0, 0), (.ifCond .eq 60, 47, 0, 0), (.aload_n 0, 0, 0, 0), (.iload_n 2, 2, 0, 0), (.invokevirtual 148, 137, 0, 968), (.iinc 2 1, 2, 0, 1), (.aload_n 0, 0, 0, 0), (.getfield 137, 14, 9, 822),
  (.ifCond .ne 22, 34, 0, 0), (.iload_n 2, 2, 0, 0), (.bipush 12, 0, 0, 12), (.if_icmp .ge 16, 34, 0, 0), (.aload_n 0, 0, 0, 0), (.invokevirtual 125, 135, 0, 958), (.bipush 44, 0, 0, 44), (.if_icmp .ne 7, 34, 0, 0),
  (.iconst 1, 0, 0, 1), (.goto 4, 35, 0, 0), (.iconst 0, 0, 0, 0), (.istore_n 3, 3, 0, 0), (.aload_n 0, 0, 0, 0), (.dup, 0, 0, 0), (.getfield 122, 13, 9, 821), (.iload_n 3, 3, 0, 0),
  (.ifCond .eq 7, 43, 0, 0), (.iconst 1, 0, 0, 1), (.goto 4, 44, 0, 0), (.iconst 0, 0, 0, 0), (.iadd, 0, 0, 0), (.putfield 122, 13, 9, 821), (.goto (-58), 16, 0, 0), (.aload_n 0, 0, 0, 0),
  (.aload_n 0, 0, 0, 0), (.getfield 137, 14, 9, 822), (.ifCond .ne 10, 54, 0, 0), (.aload_n 0, 0, 0, 0), (.invokevirtual 125, 135, 0, 958), (.ifCond .eq 7, 56, 0, 0), (.iconst 1, 0, 0, 1), (.goto 4, 57, 0, 0),
  (.iconst 0, 0, 0, 0), (.putfield 137, 14, 9, 822), (.aload_n 0, 0, 0, 0), (.iconst 0, 0, 0, 0), (.putfield 119, 12, 9, 820), (.aload_n 0, 0, 0, 0), (.getfield 137, 14, 9, 822), (.ifCond .eq 11, 69, 0, 0),
  (.bipush (-20), 0, 0, -20), (.aload_n 0, 0, 0, 0), (.getfield 122, 13, 9, 821), (.isub, 0, 0, 0), (.ireturn, 0, 0, 0), (.aload_n 0, 0, 0, 0), (.getfield 16, 3, 9, 811), (.bipush 13, 0, 0, 13),
  (.iload_n 1, 1, 0, 0), (.imul, 0, 0, 0), (.iload_n 2, 2, 0, 0), (.iastore, 0, 0, 0), (.iconst 0, 0, 0, 0), (.istore 4, 4, 0, 0), (.iload 4, 4, 0, 0), (.iload_n 2, 2, 0, 0),
  (.if_icmp .ge 30, 97, 0, 0), (.aload_n 0, 0, 0, 0), (.getfield 16, 3, 9, 811), (.bipush 13, 0, 0, 13), (.iload_n 1, 1, 0, 0), (.imul, 0, 0, 0), (.iconst 1, 0, 0, 1), (.iadd, 0, 0, 0),
  (.iload 4, 4, 0, 0), (.iadd, 0, 0, 0), (.aload_n 0, 0, 0, 0), (.getfield 31, 15, 9, 823), (.iload 4, 4, 0, 0), (.iaload, 0, 0, 0), (.iastore, 0, 0, 0), (.iinc 4 1, 4, 0, 1),
  (.goto (-30), 78, 0, 0), (.iload_n 2, 2, 0, 0), (.ireturn, 0, 0, 0)]
/-- StreetCriesModel.corner(I)V -/
def jx_c137 : List (Instr × Nat × Nat × Int) := [(.aload_n 0, 0, 0, 0), (.invokevirtual 133, 134, 0, 954), (.ifCond .ne 9, 7, 0, 0), (.aload_n 0, 0, 0, 0), (.iconst 1, 0, 0, 1), (.putfield 137, 14, 9, 822), (.return_, 0, 0, 0), (.aload_n 0, 0, 0, 0),
  (.getfield 122, 13, 9, 821), (.istore_n 2, 2, 0, 0), (.iconst 0, 0, 0, 0), (.istore_n 3, 3, 0, 0), (.aload_n 0, 0, 0, 0), (.getfield 122, 13, 9, 821), (.aload_n 0, 0, 0, 0), (.getfield 119, 12, 9, 820),
  (.if_icmp .ge 67, 51, 0, 0), (.aload_n 0, 0, 0, 0), (.getfield 28, 11, 9, 819), (.aload_n 0, 0, 0, 0), (.getfield 122, 13, 9, 821), (.iaload, 0, 0, 0), (.i2l, 0, 0, 0), (.ldc2_w 129, 0, 962, 48),
  (.ldc2_w 131, 0, 963, 57), (.invokestatic 82, 125, 0, 913), (.ifCond .eq 45, 51, 0, 0), (.iload_n 3, 3, 0, 0), (.sipush 999, 0, 0, 999), (.if_icmp .le 7, 32, 0, 0), (.iload_n 3, 3, 0, 0), (.goto 20, 43, 0, 0),
  (.bipush 10, 0, 0, 10), (.iload_n 3, 3, 0, 0), (.imul, 0, 0, 0), (.aload_n 0, 0, 0, 0), (.getfield 28, 11, 9, 819), (.aload_n 0, 0, 0, 0), (.getfield 122, 13, 9, 821), (.iaload, 0, 0, 0),
  (.iadd, 0, 0, 0), (.bipush 48, 0, 0, 48), (.isub, 0, 0, 0), (.istore_n 3, 3, 0, 0), (.aload_n 0, 0, 0, 0), (.dup, 0, 0, 0), (.getfield 122, 13, 9, 821), (.iconst 1, 0, 0, 1),
  (.iadd, 0, 0, 0), (.putfield 122, 13, 9, 821), (.goto (-72), 12, 0, 0), (.aload_n 0, 0, 0, 0), (.iload_n 3, 3, 0, 0), (.bipush 24, 0, 0, 24), (.if_icmp .gt 31, 71, 0, 0), (.iload_n 1, 1, 0, 0),
  (.ifCond .le 31, 73, 0, 0), (.iload_n 3, 3, 0, 0), (.aload_n 0, 0, 0, 0), (.getfield 31, 15, 9, 823), (.iload_n 1, 1, 0, 0), (.ifCond .le 9, 66, 0, 0), (.iload_n 1, 1, 0, 0), (.iconst 1, 0, 0, 1),
  (.isub, 0, 0, 0), (.goto 4, 67, 0, 0), (.iconst 0, 0, 0, 0), (.iaload, 0, 0, 0), (.invokestatic 145, 138, 0, 972), (.iconst 1, 0, 0, 1), (.if_icmp .le 7, 73, 0, 0), (.iconst 1, 0, 0, 1),
  (.goto 4, 74, 0, 0), (.iconst 0, 0, 0, 0), (.putfield 137, 14, 9, 822), (.aload_n 0, 0, 0, 0), (.getfield 31, 15, 9, 823), (.iload_n 1, 1, 0, 0), (.iload_n 3, 3, 0, 0), (.iastore, 0, 0, 0),
  (.aload_n 0, 0, 0, 0), (.aload_n 0, 0, 0, 0), (.getfield 137, 14, 9, 822), (.ifCond .eq 7, 86, 0, 0), (.iload_n 2, 2, 0, 0), (.goto 7, 88, 0, 0), (.aload_n 0, 0, 0, 0), (.getfield 122, 13, 9, 821),
  (.putfield 122, 13, 9, 821), (.return_, 0, 0, 0)]
/-- StreetCriesModel.between(II)I -/
def jx_c138 : List (Instr × Nat × Nat × Int) := [(.iload_n 0, 0, 0, 0), (.iconst 5, 0, 0, 5), (.idiv, 0, 0, 0), (.iload_n 1, 1, 0, 0), (.iconst 5, 0, 0, 5), (.idiv, 0, 0, 0), (.isub, 0, 0, 0), (.istore_n 2, 2, 0, 0),
  (.iload_n 0, 0, 0, 0), (.iconst 5, 0, 0, 5), (.irem, 0, 0, 0), (.iload_n 1, 1, 0, 0), (.iconst 5, 0, 0, 5), (.irem, 0, 0, 0), (.isub, 0, 0, 0), (.istore_n 3, 3, 0, 0),
  (.iload_n 2, 2, 0, 0), (.ifCond .ge 8, 21, 0, 0), (.iload_n 2, 2, 0, 0), (.ineg, 0, 0, 0), (.goto 4, 22, 0, 0), (.iload_n 2, 2, 0, 0), (.iload_n 3, 3, 0, 0), (.ifCond .ge 8, 27, 0, 0),
  (.iload_n 3, 3, 0, 0), (.ineg, 0, 0, 0), (.goto 4, 28, 0, 0), (.iload_n 3, 3, 0, 0), (.iadd, 0, 0, 0), (.ireturn, 0, 0, 0)]
/-- StreetCriesModel.tune(I)I -/
def jx_c139 : List (Instr × Nat × Nat × Int) := [(.aload_n 0, 0, 0, 0), (.iload_n 1, 1, 0, 0), (.invokevirtual 108, 130, 0, 934), (.ifCond .ne 5, 6, 0, 0), (.iconst (-1), 0, 0, -1), (.ireturn, 0, 0, 0), (.aload_n 0, 0, 0, 0), (.iconst 1, 0, 0, 1),
  (.bipush 6, 0, 0, 6), (.invokevirtual 141, 133, 0, 950), (.istore_n 2, 2, 0, 0), (.iload_n 2, 2, 0, 0), (.ifCond .le 45, 41, 0, 0), (.aload_n 0, 0, 0, 0), (.getfield 19, 4, 9, 812), (.bipush 7, 0, 0, 7),
  (.iload_n 1, 1, 0, 0), (.imul, 0, 0, 0), (.iload_n 2, 2, 0, 0), (.iastore, 0, 0, 0), (.iconst 0, 0, 0, 0), (.istore_n 3, 3, 0, 0), (.iload_n 3, 3, 0, 0), (.iload_n 2, 2, 0, 0),
  (.if_icmp .ge 28, 41, 0, 0), (.aload_n 0, 0, 0, 0), (.getfield 19, 4, 9, 812), (.bipush 7, 0, 0, 7), (.iload_n 1, 1, 0, 0), (.imul, 0, 0, 0), (.iconst 1, 0, 0, 1), (.iadd, 0, 0, 0),
  (.iload_n 3, 3, 0, 0), (.iadd, 0, 0, 0), (.aload_n 0, 0, 0, 0), (.getfield 31, 15, 9, 823), (.iload_n 3, 3, 0, 0), (.iaload, 0, 0, 0), (.iastore, 0, 0, 0), (.iinc 3 1, 3, 0, 1),
  (.goto (-27), 22, 0, 0), (.iload_n 2, 2, 0, 0), (.ireturn, 0, 0, 0)]
/-- StreetCriesModel.told(III)I -/
def jx_c140 : List (Instr × Nat × Nat × Int) := [(.aload_n 0, 0, 0, 0), (.iload_n 1, 1, 0, 0), (.invokevirtual 108, 130, 0, 934), (.ifCond .eq 18, 13, 0, 0), (.iload_n 2, 2, 0, 0), (.i2l, 0, 0, 0), (.lconst 0, 0, 0, 0), (.lconst 1, 0, 0, 1),
  (.invokestatic 82, 125, 0, 913), (.ifCond .eq 8, 13, 0, 0), (.iload_n 3, 3, 0, 0), (.iconst (-1), 0, 0, -1), (.if_icmp .ge 5, 15, 0, 0), (.iconst (-1), 0, 0, -1), (.ireturn, 0, 0, 0), (.iload_n 2, 2, 0, 0),
  (.ifCond .ne 15, 24, 0, 0), (.aload_n 0, 0, 0, 0), (.getfield 16, 3, 9, 811), (.bipush 13, 0, 0, 13), (.iload_n 1, 1, 0, 0), (.imul, 0, 0, 0), (.iaload, 0, 0, 0), (.goto 12, 30, 0, 0),
  (.aload_n 0, 0, 0, 0), (.getfield 19, 4, 9, 812), (.bipush 7, 0, 0, 7), (.iload_n 1, 1, 0, 0), (.imul, 0, 0, 0), (.iaload, 0, 0, 0), (.istore 4, 4, 0, 0), (.iload_n 3, 3, 0, 0),
  (.ifCond .ge 6, 35, 0, 0), (.iload 4, 4, 0, 0), (.ireturn, 0, 0, 0), (.iload_n 3, 3, 0, 0), (.iload 4, 4, 0, 0), (.if_icmp .lt 8, 40, 0, 0), (.bipush (-4), 0, 0, -4), (.goto 36, 63, 0, 0),
  (.iload_n 2, 2, 0, 0), (.ifCond .ne 19, 53, 0, 0), (.aload_n 0, 0, 0, 0), (.getfield 16, 3, 9, 811), (.bipush 13, 0, 0, 13), (.iload_n 1, 1, 0, 0), (.imul, 0, 0, 0), (.iconst 1, 0, 0, 1),
  (.iadd, 0, 0, 0), (.iload_n 3, 3, 0, 0), (.iadd, 0, 0, 0), (.iaload, 0, 0, 0), (.goto 16, 63, 0, 0), (.aload_n 0, 0, 0, 0), (.getfield 19, 4, 9, 812), (.bipush 7, 0, 0, 7),
  (.iload_n 1, 1, 0, 0), (.imul, 0, 0, 0), (.iconst 1, 0, 0, 1), (.iadd, 0, 0, 0), (.iload_n 3, 3, 0, 0), (.iadd, 0, 0, 0), (.iaload, 0, 0, 0), (.ireturn, 0, 0, 0)]
/-- StreetCriesModel.where(II)I -/
def jx_c141 : List (Instr × Nat × Nat × Int) := [(.aload_n 0, 0, 0, 0), (.iload_n 1, 1, 0, 0), (.invokevirtual 108, 130, 0, 934), (.ifCond .eq 19, 12, 0, 0), (.iload_n 2, 2, 0, 0), (.invokestatic 99, 128, 0, 925), (.ifCond .eq 12, 12, 0, 0), (.aload_n 0, 0, 0, 0),
  (.iload_n 1, 1, 0, 0), (.iload_n 2, 2, 0, 0), (.invokevirtual 155, 142, 0, 987), (.goto 4, 13, 0, 0), (.iconst (-1), 0, 0, -1), (.ireturn, 0, 0, 0)]
/-- StreetCriesModel.placeOf(II)I -/
def jx_c142 : List (Instr × Nat × Nat × Int) := [(.iload_n 2, 2, 0, 0), (.aload_n 0, 0, 0, 0), (.getfield 13, 2, 9, 810), (.iconst 4, 0, 0, 4), (.iload_n 1, 1, 0, 0), (.imul, 0, 0, 0), (.iconst 2, 0, 0, 2), (.iadd, 0, 0, 0),
  (.iaload, 0, 0, 0), (.isub, 0, 0, 0), (.istore_n 3, 3, 0, 0), (.aload_n 0, 0, 0, 0), (.getfield 16, 3, 9, 811), (.bipush 13, 0, 0, 13), (.iload_n 1, 1, 0, 0), (.imul, 0, 0, 0),
  (.iaload, 0, 0, 0), (.istore 4, 4, 0, 0), (.iload_n 3, 3, 0, 0), (.ifCond .ge 7, 22, 0, 0), (.iconst (-1), 0, 0, -1), (.goto 15, 32, 0, 0), (.iload_n 3, 3, 0, 0), (.aload_n 0, 0, 0, 0),
  (.getfield 13, 2, 9, 810), (.iconst 4, 0, 0, 4), (.iload_n 1, 1, 0, 0), (.imul, 0, 0, 0), (.iconst 3, 0, 0, 3), (.iadd, 0, 0, 0), (.iaload, 0, 0, 0), (.idiv, 0, 0, 0),
  (.istore 5, 5, 0, 0), (.iload 5, 5, 0, 0), (.ifCond .lt 25, 45, 0, 0), (.iload 5, 5, 0, 0), (.iload 4, 4, 0, 0), (.if_icmp .ge 18, 45, 0, 0), (.aload_n 0, 0, 0, 0), (.getfield 38, 17, 9, 825),
  (.ifCond .lt 14, 47, 0, 0), (.aload_n 0, 0, 0, 0), (.getfield 38, 17, 9, 825), (.iload_n 1, 1, 0, 0), (.if_icmp .eq 6, 47, 0, 0), (.bipush (-4), 0, 0, -4), (.ireturn, 0, 0, 0), (.aload_n 0, 0, 0, 0),
  (.getfield 16, 3, 9, 811), (.bipush 13, 0, 0, 13), (.iload_n 1, 1, 0, 0), (.imul, 0, 0, 0), (.iconst 1, 0, 0, 1), (.iadd, 0, 0, 0), (.aload_n 0, 0, 0, 0), (.getfield 34, 16, 9, 824),
  (.iload_n 1, 1, 0, 0), (.if_icmp .ne 13, 64, 0, 0), (.iload 4, 4, 0, 0), (.iconst 1, 0, 0, 1), (.isub, 0, 0, 0), (.iload 5, 5, 0, 0), (.isub, 0, 0, 0), (.goto 5, 65, 0, 0),
  (.iload 5, 5, 0, 0), (.iadd, 0, 0, 0), (.iaload, 0, 0, 0), (.ireturn, 0, 0, 0)]
/-- StreetCriesModel.carries(I)I -/
def jx_c143 : List (Instr × Nat × Nat × Int) := [(.aload_n 0, 0, 0, 0), (.iload_n 1, 1, 0, 0), (.invokevirtual 108, 130, 0, 934), (.ifCond .eq 11, 8, 0, 0), (.aload_n 0, 0, 0, 0), (.iload_n 1, 1, 0, 0), (.invokevirtual 161, 144, 0, 995), (.goto 4, 9, 0, 0),
  (.iconst (-1), 0, 0, -1), (.ireturn, 0, 0, 0)]
/-- StreetCriesModel.carry(I)I -/
def jx_c144 : List (Instr × Nat × Nat × Int) := [(.iconst 0, 0, 0, 0), (.istore_n 2, 2, 0, 0), (.iconst 1, 0, 0, 1), (.istore_n 3, 3, 0, 0), (.iload_n 3, 3, 0, 0), (.aload_n 0, 0, 0, 0), (.getfield 19, 4, 9, 812), (.bipush 7, 0, 0, 7),
  (.iload_n 1, 1, 0, 0), (.imul, 0, 0, 0), (.iaload, 0, 0, 0), (.if_icmp .gt 23, 25, 0, 0), (.iload_n 2, 2, 0, 0), (.aload_n 0, 0, 0, 0), (.getfield 19, 4, 9, 812), (.bipush 7, 0, 0, 7),
  (.iload_n 1, 1, 0, 0), (.imul, 0, 0, 0), (.iload_n 3, 3, 0, 0), (.iadd, 0, 0, 0), (.iaload, 0, 0, 0), (.iadd, 0, 0, 0), (.istore_n 2, 2, 0, 0), (.iinc 3 1, 3, 0, 1),
  (.goto (-30), 4, 0, 0), (.aload_n 0, 0, 0, 0), (.getfield 13, 2, 9, 810), (.iconst 4, 0, 0, 4), (.iload_n 1, 1, 0, 0), (.imul, 0, 0, 0), (.iconst 1, 0, 0, 1), (.iadd, 0, 0, 0),
  (.iaload, 0, 0, 0), (.iload_n 2, 2, 0, 0), (.aload_n 0, 0, 0, 0), (.getfield 19, 4, 9, 812), (.bipush 7, 0, 0, 7), (.iload_n 1, 1, 0, 0), (.imul, 0, 0, 0), (.iaload, 0, 0, 0),
  (.idiv, 0, 0, 0), (.iconst 3, 0, 0, 3), (.idiv, 0, 0, 0), (.iadd, 0, 0, 0), (.istore_n 3, 3, 0, 0), (.aload_n 0, 0, 0, 0), (.getfield 152, 6, 9, 814), (.iconst 4, 0, 0, 4),
  (.iand, 0, 0, 0), (.ifCond .le 12, 55, 0, 0), (.iload_n 3, 3, 0, 0), (.iconst 4, 0, 0, 4), (.if_icmp .le 7, 55, 0, 0), (.iconst 4, 0, 0, 4), (.goto 4, 56, 0, 0), (.iload_n 3, 3, 0, 0),
  (.ireturn, 0, 0, 0)]
/-- StreetCriesModel.heard(II)I -/
def jx_c145 : List (Instr × Nat × Nat × Int) := [(.iload_n 1, 1, 0, 0), (.invokestatic 91, 124, 0, 909), (.ifCond .eq 10, 6, 0, 0), (.iload_n 2, 2, 0, 0), (.invokestatic 99, 128, 0, 925), (.ifCond .ne 5, 8, 0, 0), (.iconst (-1), 0, 0, -1), (.ireturn, 0, 0, 0),
  (.iconst 0, 0, 0, 0), (.istore_n 3, 3, 0, 0), (.iconst 0, 0, 0, 0), (.istore 4, 4, 0, 0), (.iload 4, 4, 0, 0), (.aload_n 0, 0, 0, 0), (.getfield 88, 1, 9, 809), (.if_icmp .ge 31, 32, 0, 0),
  (.iload_n 3, 3, 0, 0), (.aload_n 0, 0, 0, 0), (.iload_n 1, 1, 0, 0), (.iload 4, 4, 0, 0), (.iload_n 2, 2, 0, 0), (.invokevirtual 165, 146, 0, 1003), (.ifCond .eq 10, 27, 0, 0), (.iconst 1, 0, 0, 1),
  (.iload 4, 4, 0, 0), (.ishl, 0, 0, 0), (.goto 4, 28, 0, 0), (.iconst 0, 0, 0, 0), (.ior, 0, 0, 0), (.istore_n 3, 3, 0, 0), (.iinc 4 1, 4, 0, 1), (.goto (-34), 12, 0, 0),
  (.iload_n 3, 3, 0, 0), (.ireturn, 0, 0, 0)]
/-- StreetCriesModel.hears(III)Z -/
def jx_c146 : List (Instr × Nat × Nat × Int) := [(.aload_n 0, 0, 0, 0), (.iload_n 2, 2, 0, 0), (.iload_n 3, 3, 0, 0), (.invokevirtual 158, 147, 0, 1007), (.ifCond .eq 32, 22, 0, 0), (.aload_n 0, 0, 0, 0), (.iload_n 2, 2, 0, 0), (.iload_n 3, 3, 0, 0),
  (.invokevirtual 155, 142, 0, 987), (.iload_n 1, 1, 0, 0), (.invokestatic 145, 138, 0, 972), (.aload_n 0, 0, 0, 0), (.iload_n 2, 2, 0, 0), (.invokevirtual 161, 144, 0, 995), (.aload_n 0, 0, 0, 0), (.getfield 7, 0, 9, 808),
  (.iload_n 1, 1, 0, 0), (.iaload, 0, 0, 0), (.isub, 0, 0, 0), (.if_icmp .gt 7, 22, 0, 0), (.iconst 1, 0, 0, 1), (.goto 4, 23, 0, 0), (.iconst 0, 0, 0, 0), (.ireturn, 1, 0, 0)]
/-- StreetCriesModel.cries(II)Z -/
def jx_c147 : List (Instr × Nat × Nat × Int) := [(.aload_n 0, 0, 0, 0), (.iload_n 1, 1, 0, 0), (.iload_n 2, 2, 0, 0), (.invokevirtual 155, 142, 0, 987), (.istore_n 3, 3, 0, 0), (.iload_n 3, 3, 0, 0), (.ifCond .lt 29, 27, 0, 0), (.iload_n 2, 2, 0, 0),
  (.aload_n 0, 0, 0, 0), (.getfield 13, 2, 9, 810), (.iconst 4, 0, 0, 4), (.iload_n 1, 1, 0, 0), (.imul, 0, 0, 0), (.iconst 2, 0, 0, 2), (.iadd, 0, 0, 0), (.iaload, 0, 0, 0),
  (.isub, 0, 0, 0), (.aload_n 0, 0, 0, 0), (.getfield 13, 2, 9, 810), (.iconst 4, 0, 0, 4), (.iload_n 1, 1, 0, 0), (.imul, 0, 0, 0), (.iconst 3, 0, 0, 3), (.iadd, 0, 0, 0),
  (.iaload, 0, 0, 0), (.irem, 0, 0, 0), (.ifCond .le 5, 29, 0, 0), (.iconst 0, 0, 0, 0), (.ireturn, 1, 0, 0), (.aload_n 0, 0, 0, 0), (.getfield 152, 6, 9, 814), (.iconst 1, 0, 0, 1),
  (.iand, 0, 0, 0), (.ifCond .eq 9, 37, 0, 0), (.iload_n 2, 2, 0, 0), (.bipush 60, 0, 0, 60), (.if_icmp .ge 25, 49, 0, 0), (.aload_n 0, 0, 0, 0), (.getfield 152, 6, 9, 814), (.iconst 2, 0, 0, 2),
  (.iand, 0, 0, 0), (.ifCond .eq 12, 47, 0, 0), (.aload_n 0, 0, 0, 0), (.getfield 7, 0, 9, 808), (.iload_n 3, 3, 0, 0), (.iaload, 0, 0, 0), (.ifCond .le 7, 49, 0, 0), (.iconst 1, 0, 0, 1),
  (.goto 4, 50, 0, 0), (.iconst 0, 0, 0, 0), (.istore 4, 4, 0, 0), (.iconst 0, 0, 0, 0), (.istore 5, 5, 0, 0), (.iload 5, 5, 0, 0), (.iload_n 1, 1, 0, 0), (.if_icmp .ge 75, 94, 0, 0),
  (.aload_n 0, 0, 0, 0), (.getfield 152, 6, 9, 814), (.bipush 8, 0, 0, 8), (.iand, 0, 0, 0), (.ifCond .le 65, 94, 0, 0), (.aload_n 0, 0, 0, 0), (.iload 5, 5, 0, 0), (.iload_n 2, 2, 0, 0),
  (.invokevirtual 155, 142, 0, 987), (.istore 6, 6, 0, 0), (.iload 4, 4, 0, 0), (.ifCond .eq 42, 90, 0, 0), (.aload_n 0, 0, 0, 0), (.getfield 13, 2, 9, 810), (.iconst 4, 0, 0, 4), (.iload 5, 5, 0, 0),
  (.imul, 0, 0, 0), (.iaload, 0, 0, 0), (.aload_n 0, 0, 0, 0), (.getfield 13, 2, 9, 810), (.iconst 4, 0, 0, 4), (.iload_n 1, 1, 0, 0), (.imul, 0, 0, 0), (.iaload, 0, 0, 0),
  (.if_icmp .ne 18, 88, 0, 0), (.iload 6, 6, 0, 0), (.ifCond .lt 13, 88, 0, 0), (.iload 6, 6, 0, 0), (.iload_n 3, 3, 0, 0), (.invokestatic 145, 138, 0, 972), (.iconst 3, 0, 0, 3), (.if_icmp .lt 7, 90, 0, 0),
  (.iconst 1, 0, 0, 1), (.goto 4, 91, 0, 0), (.iconst 0, 0, 0, 0), (.istore 4, 4, 0, 0), (.iinc 5 1, 5, 0, 1), (.goto (-75), 53, 0, 0), (.iload 4, 4, 0, 0), (.ireturn, 1, 0, 0)]
/-- StreetCriesModel.apart(II)I -/
def jx_c148 : List (Instr × Nat × Nat × Int) := [(.aload_n 0, 0, 0, 0), (.iload_n 1, 1, 0, 0), (.invokevirtual 108, 130, 0, 934), (.ifCond .eq 20, 13, 0, 0), (.aload_n 0, 0, 0, 0), (.iload_n 2, 2, 0, 0), (.invokevirtual 108, 130, 0, 934), (.ifCond .eq 12, 13, 0, 0),
  (.aload_n 0, 0, 0, 0), (.iload_n 1, 1, 0, 0), (.iload_n 2, 2, 0, 0), (.invokevirtual 173, 149, 0, 1015), (.goto 4, 14, 0, 0), (.iconst (-1), 0, 0, -1), (.ireturn, 0, 0, 0)]
/-- StreetCriesModel.apartOf(II)I -/
def jx_c149 : List (Instr × Nat × Nat × Int) := [(.aload_n 0, 0, 0, 0), (.getfield 19, 4, 9, 812), (.bipush 7, 0, 0, 7), (.iload_n 1, 1, 0, 0), (.imul, 0, 0, 0), (.iconst 1, 0, 0, 1), (.iadd, 0, 0, 0), (.aload_n 0, 0, 0, 0),
  (.getfield 19, 4, 9, 812), (.bipush 7, 0, 0, 7), (.iload_n 1, 1, 0, 0), (.imul, 0, 0, 0), (.iaload, 0, 0, 0), (.aload_n 0, 0, 0, 0), (.getfield 19, 4, 9, 812), (.bipush 7, 0, 0, 7),
  (.iload_n 2, 2, 0, 0), (.imul, 0, 0, 0), (.iconst 1, 0, 0, 1), (.iadd, 0, 0, 0), (.aload_n 0, 0, 0, 0), (.getfield 19, 4, 9, 812), (.bipush 7, 0, 0, 7), (.iload_n 2, 2, 0, 0),
  (.imul, 0, 0, 0), (.iaload, 0, 0, 0), (.invokestatic 169, 150, 0, 1019), (.ireturn, 0, 0, 0)]
/-- StreetCriesModel.off([III[III)I -/
def jx_c150 : List (Instr × Nat × Nat × Int) := [(.iconst 0, 0, 0, 0), (.istore 6, 6, 0, 0), (.iconst 0, 0, 0, 0), (.istore 7, 7, 0, 0), (.iload 7, 7, 0, 0), (.iload_n 2, 2, 0, 0), (.if_icmp .lt 10, 10, 0, 0), (.iload 7, 7, 0, 0),
  (.iload 5, 5, 0, 0), (.if_icmp .ge 60, 41, 0, 0), (.iload 7, 7, 0, 0), (.iload_n 2, 2, 0, 0), (.if_icmp .ge 27, 28, 0, 0), (.iload 7, 7, 0, 0), (.iload 5, 5, 0, 0), (.if_icmp .ge 20, 28, 0, 0),
  (.aload_n 0, 0, 0, 0), (.iload_n 1, 1, 0, 0), (.iload 7, 7, 0, 0), (.iadd, 0, 0, 0), (.iaload, 0, 0, 0), (.aload_n 3, 3, 0, 0), (.iload 4, 4, 0, 0), (.iload 7, 7, 0, 0),
  (.iadd, 0, 0, 0), (.iaload, 0, 0, 0), (.isub, 0, 0, 0), (.goto 4, 29, 0, 0), (.iconst 4, 0, 0, 4), (.istore 8, 8, 0, 0), (.iload 6, 6, 0, 0), (.iload 8, 8, 0, 0),
  (.ifCond .ge 9, 36, 0, 0), (.iload 8, 8, 0, 0), (.ineg, 0, 0, 0), (.goto 5, 37, 0, 0), (.iload 8, 8, 0, 0), (.iadd, 0, 0, 0), (.istore 6, 6, 0, 0), (.iinc 7 1, 7, 0, 1),
  (.goto (-67), 4, 0, 0), (.iload 6, 6, 0, 0), (.ireturn, 0, 0, 0)]
/-- StreetCriesModel.likeness(I)I -/
def jx_c151 : List (Instr × Nat × Nat × Int) := [(.iload_n 1, 1, 0, 0), (.i2l, 0, 0, 0), (.lconst 0, 0, 0, 0), (.ldc2_w 176, 0, 1026, 20), (.invokestatic 82, 125, 0, 913), (.ifCond .ne 5, 8, 0, 0), (.iconst (-1), 0, 0, -1), (.ireturn, 0, 0, 0),
  (.aload_n 0, 0, 0, 0), (.getfield 77, 5, 9, 813), (.istore_n 2, 2, 0, 0), (.aload_n 0, 0, 0, 0), (.iload_n 1, 1, 0, 0), (.putfield 77, 5, 9, 813), (.iload_n 2, 2, 0, 0), (.ireturn, 0, 0, 0)]
/-- StreetCriesModel.bylaw(IZ)I -/
def jx_c152 : List (Instr × Nat × Nat × Int) := [(.iload_n 1, 1, 0, 0), (.i2l, 0, 0, 0), (.lconst 0, 0, 0, 0), (.ldc2_w 97, 0, 924, 3), (.invokestatic 82, 125, 0, 913), (.ifCond .ne 5, 8, 0, 0), (.iconst (-1), 0, 0, -1), (.ireturn, 0, 0, 0),
  (.aload_n 0, 0, 0, 0), (.getfield 152, 6, 9, 814), (.iload_n 1, 1, 0, 0), (.ishr, 0, 0, 0), (.iconst 1, 0, 0, 1), (.iand, 0, 0, 0), (.istore_n 3, 3, 0, 0), (.aload_n 0, 0, 0, 0),
  (.iload_n 2, 2, 0, 0), (.ifCond .eq 14, 25, 0, 0), (.aload_n 0, 0, 0, 0), (.getfield 152, 6, 9, 814), (.iconst 1, 0, 0, 1), (.iload_n 1, 1, 0, 0), (.ishl, 0, 0, 0), (.ior, 0, 0, 0),
  (.goto 13, 33, 0, 0), (.aload_n 0, 0, 0, 0), (.getfield 152, 6, 9, 814), (.iconst 1, 0, 0, 1), (.iload_n 1, 1, 0, 0), (.ishl, 0, 0, 0), (.iconst (-1), 0, 0, -1), (.ixor, 0, 0, 0),
  (.iand, 0, 0, 0), (.putfield 152, 6, 9, 814), (.iload_n 3, 3, 0, 0), (.ireturn, 0, 0, 0)]
/-- StreetCriesModel.count(I)I -/
def jx_c153 : List (Instr × Nat × Nat × Int) := [(.iload_n 1, 1, 0, 0), (.ifCond .ne 10, 5, 0, 0), (.aload_n 0, 0, 0, 0), (.getfield 88, 1, 9, 809), (.goto 43, 25, 0, 0), (.iload_n 1, 1, 0, 0), (.iconst 1, 0, 0, 1), (.if_icmp .ne 10, 11, 0, 0),
  (.aload_n 0, 0, 0, 0), (.getfield 178, 7, 9, 815), (.goto 31, 25, 0, 0), (.iload_n 1, 1, 0, 0), (.iconst 2, 0, 0, 2), (.if_icmp .ne 10, 17, 0, 0), (.aload_n 0, 0, 0, 0), (.getfield 181, 9, 9, 817),
  (.goto 19, 25, 0, 0), (.iload_n 1, 1, 0, 0), (.iconst 3, 0, 0, 3), (.if_icmp .ne 13, 24, 0, 0), (.aload_n 0, 0, 0, 0), (.getfield 152, 6, 9, 814), (.invokestatic 184, 154, 0, 1035), (.goto 4, 25, 0, 0),
  (.iconst (-1), 0, 0, -1), (.ireturn, 0, 0, 0)]
/-- StreetCriesModel.size(I)I -/
def jx_c154 : List (Instr × Nat × Nat × Int) := [(.iconst 0, 0, 0, 0), (.istore_n 1, 1, 0, 0), (.iload_n 0, 0, 0, 0), (.istore_n 2, 2, 0, 0), (.iload_n 2, 2, 0, 0), (.ifCond .eq 15, 14, 0, 0), (.iinc 1 1, 1, 0, 1), (.iload_n 2, 2, 0, 0),
  (.iload_n 2, 2, 0, 0), (.iconst 1, 0, 0, 1), (.isub, 0, 0, 0), (.iand, 0, 0, 0), (.istore_n 2, 2, 0, 0), (.goto (-13), 4, 0, 0), (.iload_n 1, 1, 0, 0), (.ireturn, 0, 0, 0)]
/-- StreetCriesModel.buyer(IIII)I -/
def jx_c155 : List (Instr × Nat × Nat × Int) := [(.iload_n 1, 1, 0, 0), (.invokestatic 91, 124, 0, 909), (.ifCond .eq 40, 21, 0, 0), (.iload_n 2, 2, 0, 0), (.i2l, 0, 0, 0), (.lconst 0, 0, 0, 0), (.ldc2_w 97, 0, 924, 3), (.invokestatic 82, 125, 0, 913),
  (.ifCond .eq 28, 21, 0, 0), (.iload_n 3, 3, 0, 0), (.i2l, 0, 0, 0), (.lconst 0, 0, 0, 0), (.ldc2_w 102, 0, 929, 5), (.invokestatic 82, 125, 0, 913), (.ifCond .eq 16, 21, 0, 0), (.iload 4, 4, 0, 0),
  (.i2l, 0, 0, 0), (.lconst 0, 0, 0, 0), (.ldc2_w 176, 0, 1026, 20), (.invokestatic 82, 125, 0, 913), (.ifCond .ne 5, 23, 0, 0), (.iconst (-1), 0, 0, -1), (.ireturn, 0, 0, 0), (.aload_n 0, 0, 0, 0),
  (.getfield 178, 7, 9, 815), (.bipush 12, 0, 0, 12), (.if_icmp .ne 6, 29, 0, 0), (.bipush (-3), 0, 0, -3), (.ireturn, 0, 0, 0), (.aload_n 0, 0, 0, 0), (.getfield 22, 8, 9, 816), (.iconst 4, 0, 0, 4),
  (.aload_n 0, 0, 0, 0), (.getfield 178, 7, 9, 815), (.imul, 0, 0, 0), (.iload_n 1, 1, 0, 0), (.iastore, 0, 0, 0), (.aload_n 0, 0, 0, 0), (.getfield 22, 8, 9, 816), (.iconst 4, 0, 0, 4),
  (.aload_n 0, 0, 0, 0), (.getfield 178, 7, 9, 815), (.imul, 0, 0, 0), (.iconst 1, 0, 0, 1), (.iadd, 0, 0, 0), (.iload_n 2, 2, 0, 0), (.iastore, 0, 0, 0), (.aload_n 0, 0, 0, 0),
  (.getfield 22, 8, 9, 816), (.iconst 4, 0, 0, 4), (.aload_n 0, 0, 0, 0), (.getfield 178, 7, 9, 815), (.imul, 0, 0, 0), (.iconst 2, 0, 0, 2), (.iadd, 0, 0, 0), (.iload_n 3, 3, 0, 0),
  (.iastore, 0, 0, 0), (.aload_n 0, 0, 0, 0), (.getfield 22, 8, 9, 816), (.iconst 4, 0, 0, 4), (.aload_n 0, 0, 0, 0), (.getfield 178, 7, 9, 815), (.imul, 0, 0, 0), (.iconst 3, 0, 0, 3),
  (.iadd, 0, 0, 0), (.iload 4, 4, 0, 0), (.iastore, 0, 0, 0), (.aload_n 0, 0, 0, 0), (.dup, 0, 0, 0), (.getfield 178, 7, 9, 815), (.iconst 1, 0, 0, 1), (.iadd, 0, 0, 0),
  (.putfield 178, 7, 9, 815), (.aload_n 0, 0, 0, 0), (.getfield 178, 7, 9, 815), (.iconst 1, 0, 0, 1), (.isub, 0, 0, 0), (.ireturn, 0, 0, 0)]
/-- StreetCriesModel.fate(II)I -/
def jx_c156 : List (Instr × Nat × Nat × Int) := [(.iload_n 1, 1, 0, 0), (.i2l, 0, 0, 0), (.lconst 0, 0, 0, 0), (.aload_n 0, 0, 0, 0), (.getfield 178, 7, 9, 815), (.iconst 1, 0, 0, 1), (.isub, 0, 0, 0), (.i2l, 0, 0, 0),
  (.invokestatic 82, 125, 0, 913), (.ifCond .eq 15, 16, 0, 0), (.iload_n 2, 2, 0, 0), (.i2l, 0, 0, 0), (.lconst 0, 0, 0, 0), (.ldc2_w 194, 0, 1046, 2), (.invokestatic 82, 125, 0, 913), (.ifCond .ne 5, 18, 0, 0),
  (.iconst (-1), 0, 0, -1), (.ireturn, 0, 0, 0), (.aload_n 0, 0, 0, 0), (.invokevirtual 196, 157, 0, 1047), (.iload_n 2, 2, 0, 0), (.ifCond .ne 12, 27, 0, 0), (.aload_n 0, 0, 0, 0), (.getfield 44, 19, 9, 827),
  (.iload_n 1, 1, 0, 0), (.iaload, 0, 0, 0), (.goto 23, 39, 0, 0), (.iload_n 2, 2, 0, 0), (.iconst 1, 0, 0, 1), (.if_icmp .ne 12, 35, 0, 0), (.aload_n 0, 0, 0, 0), (.getfield 47, 20, 9, 828),
  (.iload_n 1, 1, 0, 0), (.iaload, 0, 0, 0), (.goto 9, 39, 0, 0), (.aload_n 0, 0, 0, 0), (.getfield 50, 21, 9, 829), (.iload_n 1, 1, 0, 0), (.iaload, 0, 0, 0), (.ireturn, 0, 0, 0)]
/-- StreetCriesModel.minutes()V -/
def jx_c157 : List (Instr × Nat × Nat × Int) := [(.iconst 0, 0, 0, 0), (.istore_n 1, 1, 0, 0), (.iload_n 1, 1, 0, 0), (.aload_n 0, 0, 0, 0), (.getfield 178, 7, 9, 815), (.if_icmp .ge 40, 28, 0, 0), (.aload_n 0, 0, 0, 0), (.getfield 41, 18, 9, 826),
  (.iload_n 1, 1, 0, 0), (.bipush (-4), 0, 0, -4), (.iastore, 0, 0, 0), (.aload_n 0, 0, 0, 0), (.getfield 44, 19, 9, 827), (.iload_n 1, 1, 0, 0), (.bipush (-4), 0, 0, -4), (.iastore, 0, 0, 0),
  (.aload_n 0, 0, 0, 0), (.getfield 47, 20, 9, 828), (.iload_n 1, 1, 0, 0), (.bipush (-4), 0, 0, -4), (.iastore, 0, 0, 0), (.aload_n 0, 0, 0, 0), (.getfield 50, 21, 9, 829), (.iload_n 1, 1, 0, 0),
  (.iconst 0, 0, 0, 0), (.iastore, 0, 0, 0), (.iinc 1 1, 1, 0, 1), (.goto (-42), 2, 0, 0), (.iconst 0, 0, 0, 0), (.istore_n 1, 1, 0, 0), (.iload_n 1, 1, 0, 0), (.bipush 120, 0, 0, 120),
  (.if_icmp .ge 220, 165, 0, 0), (.iconst 0, 0, 0, 0), (.istore_n 2, 2, 0, 0), (.iload_n 2, 2, 0, 0), (.aload_n 0, 0, 0, 0), (.getfield 178, 7, 9, 815), (.if_icmp .ge 204, 163, 0, 0), (.aload_n 0, 0, 0, 0),
  (.getfield 41, 18, 9, 826), (.iload_n 2, 2, 0, 0), (.iaload, 0, 0, 0), (.ifCond .ge 7, 46, 0, 0), (.iconst 1, 0, 0, 1), (.goto 4, 47, 0, 0), (.iconst 0, 0, 0, 0), (.istore_n 3, 3, 0, 0),
  (.aload_n 0, 0, 0, 0), (.getfield 44, 19, 9, 827), (.iload_n 2, 2, 0, 0), (.iaload, 0, 0, 0), (.ifCond .ge 141, 138, 0, 0), (.iload_n 3, 3, 0, 0), (.ifCond .ne 137, 138, 0, 0), (.iload_n 1, 1, 0, 0),
  (.aload_n 0, 0, 0, 0), (.getfield 41, 18, 9, 826), (.iload_n 2, 2, 0, 0), (.iaload, 0, 0, 0), (.if_icmp .lt 127, 138, 0, 0), (.aload_n 0, 0, 0, 0), (.aload_n 0, 0, 0, 0), (.getfield 22, 8, 9, 816),
  (.iconst 4, 0, 0, 4), (.iload_n 2, 2, 0, 0), (.imul, 0, 0, 0), (.iconst 1, 0, 0, 1), (.iadd, 0, 0, 0), (.iaload, 0, 0, 0), (.aload_n 0, 0, 0, 0), (.getfield 22, 8, 9, 816),
  (.iconst 4, 0, 0, 4), (.iload_n 2, 2, 0, 0), (.imul, 0, 0, 0), (.iaload, 0, 0, 0), (.iload_n 1, 1, 0, 0), (.invokevirtual 187, 158, 0, 1051), (.istore 4, 4, 0, 0), (.aload_n 0, 0, 0, 0),
  (.getfield 44, 19, 9, 827), (.iload_n 2, 2, 0, 0), (.iload 4, 4, 0, 0), (.iastore, 0, 0, 0), (.aload_n 0, 0, 0, 0), (.getfield 47, 20, 9, 828), (.iload_n 2, 2, 0, 0), (.iload 4, 4, 0, 0),
  (.ifCond .ge 8, 91, 0, 0), (.bipush (-4), 0, 0, -4), (.goto 4, 92, 0, 0), (.iload_n 1, 1, 0, 0), (.iastore, 0, 0, 0), (.iload 4, 4, 0, 0), (.ifCond .ge 28, 112, 0, 0), (.iload_n 1, 1, 0, 0),
  (.aload_n 0, 0, 0, 0), (.getfield 41, 18, 9, 826), (.iload_n 2, 2, 0, 0), (.iaload, 0, 0, 0), (.isub, 0, 0, 0), (.aload_n 0, 0, 0, 0), (.getfield 22, 8, 9, 816), (.iconst 4, 0, 0, 4),
  (.iload_n 2, 2, 0, 0), (.imul, 0, 0, 0), (.iconst 3, 0, 0, 3), (.iadd, 0, 0, 0), (.iaload, 0, 0, 0), (.if_icmp .lt 7, 112, 0, 0), (.iconst 1, 0, 0, 1), (.goto 4, 113, 0, 0),
  (.iconst 0, 0, 0, 0), (.istore 5, 5, 0, 0), (.aload_n 0, 0, 0, 0), (.getfield 50, 21, 9, 829), (.iload_n 2, 2, 0, 0), (.dup2, 0, 0, 0), (.iaload, 0, 0, 0), (.iload 5, 5, 0, 0),
  (.ifCond .eq 7, 123, 0, 0), (.iconst 1, 0, 0, 1), (.goto 4, 124, 0, 0), (.iconst 0, 0, 0, 0), (.iadd, 0, 0, 0), (.iastore, 0, 0, 0), (.aload_n 0, 0, 0, 0), (.getfield 41, 18, 9, 826),
  (.iload_n 2, 2, 0, 0), (.iload 5, 5, 0, 0), (.ifCond .eq 8, 133, 0, 0), (.bipush (-4), 0, 0, -4), (.goto 9, 137, 0, 0), (.aload_n 0, 0, 0, 0), (.getfield 41, 18, 9, 826), (.iload_n 2, 2, 0, 0),
  (.iaload, 0, 0, 0), (.iastore, 0, 0, 0), (.iload_n 3, 3, 0, 0), (.ifCond .eq 32, 161, 0, 0), (.aload_n 0, 0, 0, 0), (.iload_n 2, 2, 0, 0), (.iload_n 1, 1, 0, 0), (.invokevirtual 191, 159, 0, 1055),
  (.ifCond .eq 23, 161, 0, 0), (.aload_n 0, 0, 0, 0), (.getfield 41, 18, 9, 826), (.iload_n 2, 2, 0, 0), (.iload_n 1, 1, 0, 0), (.aload_n 0, 0, 0, 0), (.getfield 22, 8, 9, 816), (.iconst 4, 0, 0, 4),
  (.iload_n 2, 2, 0, 0), (.imul, 0, 0, 0), (.iconst 2, 0, 0, 2), (.iadd, 0, 0, 0), (.iaload, 0, 0, 0), (.iadd, 0, 0, 0), (.iconst 1, 0, 0, 1), (.iadd, 0, 0, 0),
  (.iastore, 0, 0, 0), (.iinc 2 1, 2, 0, 1), (.goto (-206), 35, 0, 0), (.iinc 1 1, 1, 0, 1), (.goto (-220), 30, 0, 0), (.return_, 0, 0, 0)]
/-- StreetCriesModel.standing(III)I -/
def jx_c158 : List (Instr × Nat × Nat × Int) := [(.bipush (-4), 0, 0, -4), (.istore 4, 4, 0, 0), (.aload_n 0, 0, 0, 0), (.getfield 88, 1, 9, 809), (.iconst 1, 0, 0, 1), (.isub, 0, 0, 0), (.istore 5, 5, 0, 0), (.iload 5, 5, 0, 0),
  (.ifCond .lt 42, 29, 0, 0), (.aload_n 0, 0, 0, 0), (.getfield 13, 2, 9, 810), (.iconst 4, 0, 0, 4), (.iload 5, 5, 0, 0), (.imul, 0, 0, 0), (.iaload, 0, 0, 0), (.iload_n 1, 1, 0, 0),
  (.if_icmp .ne 19, 25, 0, 0), (.aload_n 0, 0, 0, 0), (.iload 5, 5, 0, 0), (.iload_n 3, 3, 0, 0), (.invokevirtual 155, 142, 0, 987), (.iload_n 2, 2, 0, 0), (.if_icmp .ne 8, 25, 0, 0), (.iload 5, 5, 0, 0),
  (.goto 5, 26, 0, 0), (.iload 4, 4, 0, 0), (.istore 4, 4, 0, 0), (.iinc 5 (-1), 5, 0, -1), (.goto (-41), 7, 0, 0), (.iload 4, 4, 0, 0), (.ireturn, 0, 0, 0)]
/-- StreetCriesModel.isCalled(II)Z -/
def jx_c159 : List (Instr × Nat × Nat × Int) := [(.iconst 0, 0, 0, 0), (.istore_n 3, 3, 0, 0), (.iconst 0, 0, 0, 0), (.istore 4, 4, 0, 0), (.iload 4, 4, 0, 0), (.aload_n 0, 0, 0, 0), (.getfield 88, 1, 9, 809), (.if_icmp .ge 96, 59, 0, 0),
  (.iload_n 3, 3, 0, 0), (.ifCond .ne 92, 59, 0, 0), (.aload_n 0, 0, 0, 0), (.aload_n 0, 0, 0, 0), (.getfield 22, 8, 9, 816), (.iconst 4, 0, 0, 4), (.iload_n 1, 1, 0, 0), (.imul, 0, 0, 0),
  (.iaload, 0, 0, 0), (.iload 4, 4, 0, 0), (.iload_n 2, 2, 0, 0), (.invokevirtual 165, 146, 0, 1003), (.ifCond .eq 68, 57, 0, 0), (.iconst 0, 0, 0, 0), (.istore 5, 5, 0, 0), (.iload 5, 5, 0, 0),
  (.aload_n 0, 0, 0, 0), (.getfield 88, 1, 9, 809), (.if_icmp .ge 56, 57, 0, 0), (.iload_n 3, 3, 0, 0), (.ifCond .ne 40, 51, 0, 0), (.aload_n 0, 0, 0, 0), (.getfield 13, 2, 9, 810), (.iconst 4, 0, 0, 4),
  (.iload 5, 5, 0, 0), (.imul, 0, 0, 0), (.iaload, 0, 0, 0), (.aload_n 0, 0, 0, 0), (.getfield 22, 8, 9, 816), (.iconst 4, 0, 0, 4), (.iload_n 1, 1, 0, 0), (.imul, 0, 0, 0),
  (.iconst 1, 0, 0, 1), (.iadd, 0, 0, 0), (.iaload, 0, 0, 0), (.if_icmp .ne 22, 53, 0, 0), (.aload_n 0, 0, 0, 0), (.iload 4, 4, 0, 0), (.iload 5, 5, 0, 0), (.invokevirtual 173, 149, 0, 1015),
  (.aload_n 0, 0, 0, 0), (.getfield 77, 5, 9, 813), (.if_icmp .gt 7, 53, 0, 0), (.iconst 1, 0, 0, 1), (.goto 4, 54, 0, 0), (.iconst 0, 0, 0, 0), (.istore_n 3, 3, 0, 0), (.iinc 5 1, 5, 0, 1),
  (.goto (-59), 23, 0, 0), (.iinc 4 1, 4, 0, 1), (.goto (-99), 4, 0, 0), (.iload_n 3, 3, 0, 0), (.ireturn, 1, 0, 0)]
/-- StreetCriesModel.brings(I)I -/
def jx_c160 : List (Instr × Nat × Nat × Int) := [(.aload_n 0, 0, 0, 0), (.iload_n 1, 1, 0, 0), (.invokevirtual 108, 130, 0, 934), (.ifCond .eq 11, 8, 0, 0), (.aload_n 0, 0, 0, 0), (.iload_n 1, 1, 0, 0), (.invokevirtual 199, 161, 0, 1063), (.goto 4, 9, 0, 0),
  (.iconst (-1), 0, 0, -1), (.ireturn, 0, 0, 0)]
/-- StreetCriesModel.bringsOf(I)I -/
def jx_c161 : List (Instr × Nat × Nat × Int) := [(.aload_n 0, 0, 0, 0), (.invokevirtual 196, 157, 0, 1047), (.iconst 0, 0, 0, 0), (.istore_n 2, 2, 0, 0), (.iconst 0, 0, 0, 0), (.istore_n 3, 3, 0, 0), (.iload_n 3, 3, 0, 0), (.aload_n 0, 0, 0, 0),
  (.getfield 178, 7, 9, 815), (.if_icmp .ge 27, 24, 0, 0), (.iload_n 2, 2, 0, 0), (.aload_n 0, 0, 0, 0), (.getfield 44, 19, 9, 827), (.iload_n 3, 3, 0, 0), (.iaload, 0, 0, 0), (.iload_n 1, 1, 0, 0),
  (.if_icmp .ne 7, 19, 0, 0), (.iconst 1, 0, 0, 1), (.goto 4, 20, 0, 0), (.iconst 0, 0, 0, 0), (.iadd, 0, 0, 0), (.istore_n 2, 2, 0, 0), (.iinc 3 1, 3, 0, 1), (.goto (-29), 6, 0, 0),
  (.iload_n 2, 2, 0, 0), (.ireturn, 0, 0, 0)]
/-- StreetCriesModel.day(I)I -/
def jx_c162 : List (Instr × Nat × Nat × Int) := [(.iload_n 1, 1, 0, 0), (.i2l, 0, 0, 0), (.lconst 0, 0, 0, 0), (.ldc2_w 194, 0, 1046, 2), (.invokestatic 82, 125, 0, 913), (.ifCond .ne 5, 8, 0, 0), (.iconst (-1), 0, 0, -1), (.ireturn, 0, 0, 0),
  (.aload_n 0, 0, 0, 0), (.invokevirtual 196, 157, 0, 1047), (.iconst 0, 0, 0, 0), (.istore_n 2, 2, 0, 0), (.iconst 0, 0, 0, 0), (.istore_n 3, 3, 0, 0), (.iconst 0, 0, 0, 0), (.istore 4, 4, 0, 0),
  (.iload 4, 4, 0, 0), (.aload_n 0, 0, 0, 0), (.getfield 178, 7, 9, 815), (.if_icmp .ge 37, 40, 0, 0), (.iload_n 2, 2, 0, 0), (.aload_n 0, 0, 0, 0), (.getfield 44, 19, 9, 827), (.iload 4, 4, 0, 0),
  (.iaload, 0, 0, 0), (.ifCond .lt 7, 28, 0, 0), (.iconst 1, 0, 0, 1), (.goto 4, 29, 0, 0), (.iconst 0, 0, 0, 0), (.iadd, 0, 0, 0), (.istore_n 2, 2, 0, 0), (.iload_n 3, 3, 0, 0),
  (.aload_n 0, 0, 0, 0), (.getfield 50, 21, 9, 829), (.iload 4, 4, 0, 0), (.iaload, 0, 0, 0), (.iadd, 0, 0, 0), (.istore_n 3, 3, 0, 0), (.iinc 4 1, 4, 0, 1), (.goto (-40), 16, 0, 0),
  (.iconst 0, 0, 0, 0), (.istore 4, 4, 0, 0), (.iconst 0, 0, 0, 0), (.istore 5, 5, 0, 0), (.iload 5, 5, 0, 0), (.bipush 120, 0, 0, 120), (.if_icmp .ge 48, 68, 0, 0), (.iconst 0, 0, 0, 0),
  (.istore 6, 6, 0, 0), (.iload 6, 6, 0, 0), (.aload_n 0, 0, 0, 0), (.getfield 88, 1, 9, 809), (.if_icmp .ge 30, 66, 0, 0), (.iload 4, 4, 0, 0), (.aload_n 0, 0, 0, 0), (.iload 6, 6, 0, 0),
  (.iload 5, 5, 0, 0), (.invokevirtual 158, 147, 0, 1007), (.ifCond .eq 7, 61, 0, 0), (.iconst 1, 0, 0, 1), (.goto 4, 62, 0, 0), (.iconst 0, 0, 0, 0), (.iadd, 0, 0, 0), (.istore 4, 4, 0, 0),
  (.iinc 6 1, 6, 0, 1), (.goto (-33), 49, 0, 0), (.iinc 5 1, 5, 0, 1), (.goto (-49), 44, 0, 0), (.iload_n 1, 1, 0, 0), (.ifCond .ne 7, 72, 0, 0), (.iload_n 2, 2, 0, 0), (.goto 14, 78, 0, 0),
  (.iload_n 1, 1, 0, 0), (.iconst 1, 0, 0, 1), (.if_icmp .ne 7, 77, 0, 0), (.iload_n 3, 3, 0, 0), (.goto 5, 78, 0, 0), (.iload 4, 4, 0, 0), (.ireturn, 0, 0, 0)]
/-- StreetCriesModel.best(II)I -/
def jx_c163 : List (Instr × Nat × Nat × Int) := [(.aload_n 0, 0, 0, 0), (.iload_n 1, 1, 0, 0), (.invokevirtual 108, 130, 0, 934), (.ifCond .eq 15, 10, 0, 0), (.iload_n 2, 2, 0, 0), (.i2l, 0, 0, 0), (.lconst 0, 0, 0, 0), (.ldc2_w 194, 0, 1046, 2),
  (.invokestatic 82, 125, 0, 913), (.ifCond .ne 5, 12, 0, 0), (.iconst (-1), 0, 0, -1), (.ireturn, 0, 0, 0), (.aload_n 0, 0, 0, 0), (.getfield 13, 2, 9, 810), (.iconst 4, 0, 0, 4), (.iload_n 1, 1, 0, 0),
  (.imul, 0, 0, 0), (.iconst 2, 0, 0, 2), (.iadd, 0, 0, 0), (.iaload, 0, 0, 0), (.istore_n 3, 3, 0, 0), (.iconst 0, 0, 0, 0), (.istore 4, 4, 0, 0), (.iconst (-1), 0, 0, -1),
  (.istore 5, 5, 0, 0), (.iconst 0, 0, 0, 0), (.istore 6, 6, 0, 0), (.iload 6, 6, 0, 0), (.bipush 24, 0, 0, 24), (.if_icmp .ge 82, 73, 0, 0), (.aload_n 0, 0, 0, 0), (.getfield 13, 2, 9, 810),
  (.iconst 4, 0, 0, 4), (.iload_n 1, 1, 0, 0), (.imul, 0, 0, 0), (.iconst 2, 0, 0, 2), (.iadd, 0, 0, 0), (.iconst 5, 0, 0, 5), (.iload 6, 6, 0, 0), (.iconst 2, 0, 0, 2),
  (.idiv, 0, 0, 0), (.imul, 0, 0, 0), (.iastore, 0, 0, 0), (.aload_n 0, 0, 0, 0), (.iload 6, 6, 0, 0), (.iconst 2, 0, 0, 2), (.irem, 0, 0, 0), (.iconst 1, 0, 0, 1),
  (.if_icmp .ne 7, 51, 0, 0), (.iload_n 1, 1, 0, 0), (.goto 5, 52, 0, 0), (.bipush (-4), 0, 0, -4), (.putfield 34, 16, 9, 824), (.aload_n 0, 0, 0, 0), (.iload_n 1, 1, 0, 0), (.invokevirtual 199, 161, 0, 1063),
  (.istore 7, 7, 0, 0), (.iload 7, 7, 0, 0), (.iload 5, 5, 0, 0), (.if_icmp .le 8, 62, 0, 0), (.iload 6, 6, 0, 0), (.goto 5, 63, 0, 0), (.iload 4, 4, 0, 0), (.istore 4, 4, 0, 0),
  (.iload 7, 7, 0, 0), (.iload 5, 5, 0, 0), (.if_icmp .le 8, 69, 0, 0), (.iload 7, 7, 0, 0), (.goto 5, 70, 0, 0), (.iload 5, 5, 0, 0), (.istore 5, 5, 0, 0), (.iinc 6 1, 6, 0, 1),
  (.goto (-83), 27, 0, 0), (.aload_n 0, 0, 0, 0), (.bipush (-4), 0, 0, -4), (.putfield 34, 16, 9, 824), (.aload_n 0, 0, 0, 0), (.getfield 13, 2, 9, 810), (.iconst 4, 0, 0, 4), (.iload_n 1, 1, 0, 0),
  (.imul, 0, 0, 0), (.iconst 2, 0, 0, 2), (.iadd, 0, 0, 0), (.iload_n 3, 3, 0, 0), (.iastore, 0, 0, 0), (.iload_n 2, 2, 0, 0), (.ifCond .ne 12, 93, 0, 0), (.iconst 5, 0, 0, 5),
  (.iload 4, 4, 0, 0), (.iconst 2, 0, 0, 2), (.idiv, 0, 0, 0), (.imul, 0, 0, 0), (.goto 17, 101, 0, 0), (.iload_n 2, 2, 0, 0), (.iconst 1, 0, 0, 1), (.if_icmp .ne 10, 100, 0, 0),
  (.iload 4, 4, 0, 0), (.iconst 2, 0, 0, 2), (.irem, 0, 0, 0), (.goto 5, 101, 0, 0), (.iload 5, 5, 0, 0), (.ireturn, 0, 0, 0)]
/-- StreetCriesModel.rests(III)I -/
def jx_c164 : List (Instr × Nat × Nat × Int) := [(.aload_n 0, 0, 0, 0), (.iload_n 1, 1, 0, 0), (.invokevirtual 108, 130, 0, 934), (.ifCond .eq 28, 17, 0, 0), (.aload_n 0, 0, 0, 0), (.iload_n 2, 2, 0, 0), (.invokevirtual 108, 130, 0, 934), (.ifCond .eq 20, 17, 0, 0),
  (.iload_n 1, 1, 0, 0), (.iload_n 2, 2, 0, 0), (.if_icmp .eq 15, 17, 0, 0), (.iload_n 3, 3, 0, 0), (.i2l, 0, 0, 0), (.lconst 0, 0, 0, 0), (.ldc2_w 194, 0, 1046, 2), (.invokestatic 82, 125, 0, 913),
  (.ifCond .ne 5, 19, 0, 0), (.iconst (-1), 0, 0, -1), (.ireturn, 0, 0, 0), (.aload_n 0, 0, 0, 0), (.getfield 13, 2, 9, 810), (.iconst 4, 0, 0, 4), (.iload_n 1, 1, 0, 0), (.imul, 0, 0, 0),
  (.iconst 2, 0, 0, 2), (.iadd, 0, 0, 0), (.iaload, 0, 0, 0), (.istore 4, 4, 0, 0), (.aload_n 0, 0, 0, 0), (.getfield 13, 2, 9, 810), (.iconst 4, 0, 0, 4), (.iload_n 2, 2, 0, 0),
  (.imul, 0, 0, 0), (.iconst 2, 0, 0, 2), (.iadd, 0, 0, 0), (.iaload, 0, 0, 0), (.istore 5, 5, 0, 0), (.iconst 0, 0, 0, 0), (.istore 6, 6, 0, 0), (.iload 6, 6, 0, 0),
  (.bipush 36, 0, 0, 36), (.if_icmp .ge 109, 106, 0, 0), (.aload_n 0, 0, 0, 0), (.getfield 13, 2, 9, 810), (.iconst 4, 0, 0, 4), (.iload_n 1, 1, 0, 0), (.imul, 0, 0, 0), (.iconst 2, 0, 0, 2),
  (.iadd, 0, 0, 0), (.bipush 10, 0, 0, 10), (.iload 6, 6, 0, 0), (.bipush 6, 0, 0, 6), (.idiv, 0, 0, 0), (.imul, 0, 0, 0), (.iastore, 0, 0, 0), (.aload_n 0, 0, 0, 0),
  (.getfield 13, 2, 9, 810), (.iconst 4, 0, 0, 4), (.iload_n 2, 2, 0, 0), (.imul, 0, 0, 0), (.iconst 2, 0, 0, 2), (.iadd, 0, 0, 0), (.bipush 10, 0, 0, 10), (.iload 6, 6, 0, 0),
  (.bipush 6, 0, 0, 6), (.irem, 0, 0, 0), (.imul, 0, 0, 0), (.iastore, 0, 0, 0), (.aload_n 0, 0, 0, 0), (.getfield 53, 22, 9, 830), (.iload 6, 6, 0, 0), (.aload_n 0, 0, 0, 0),
  (.iload_n 1, 1, 0, 0), (.invokevirtual 199, 161, 0, 1063), (.iastore, 0, 0, 0), (.aload_n 0, 0, 0, 0), (.getfield 56, 23, 9, 831), (.iload 6, 6, 0, 0), (.iconst 0, 0, 0, 0), (.iastore, 0, 0, 0),
  (.iconst 0, 0, 0, 0), (.istore 7, 7, 0, 0), (.iload 7, 7, 0, 0), (.aload_n 0, 0, 0, 0), (.getfield 178, 7, 9, 815), (.if_icmp .ge 35, 104, 0, 0), (.aload_n 0, 0, 0, 0), (.getfield 56, 23, 9, 831),
  (.iload 6, 6, 0, 0), (.dup2, 0, 0, 0), (.iaload, 0, 0, 0), (.aload_n 0, 0, 0, 0), (.getfield 44, 19, 9, 827), (.iload 7, 7, 0, 0), (.iaload, 0, 0, 0), (.iload_n 2, 2, 0, 0),
  (.if_icmp .ne 7, 99, 0, 0), (.iconst 1, 0, 0, 1), (.goto 4, 100, 0, 0), (.iconst 0, 0, 0, 0), (.iadd, 0, 0, 0), (.iastore, 0, 0, 0), (.iinc 7 1, 7, 0, 1), (.goto (-38), 82, 0, 0),
  (.iinc 6 1, 6, 0, 1), (.goto (-110), 39, 0, 0), (.aload_n 0, 0, 0, 0), (.getfield 13, 2, 9, 810), (.iconst 4, 0, 0, 4), (.iload_n 1, 1, 0, 0), (.imul, 0, 0, 0), (.iconst 2, 0, 0, 2),
  (.iadd, 0, 0, 0), (.iload 4, 4, 0, 0), (.iastore, 0, 0, 0), (.aload_n 0, 0, 0, 0), (.getfield 13, 2, 9, 810), (.iconst 4, 0, 0, 4), (.iload_n 2, 2, 0, 0), (.imul, 0, 0, 0),
  (.iconst 2, 0, 0, 2), (.iadd, 0, 0, 0), (.iload 5, 5, 0, 0), (.iastore, 0, 0, 0), (.iconst 0, 0, 0, 0), (.istore 6, 6, 0, 0), (.bipush (-4), 0, 0, -4), (.istore 7, 7, 0, 0),
  (.bipush 35, 0, 0, 35), (.istore 8, 8, 0, 0), (.iload 8, 8, 0, 0), (.ifCond .lt 121, 193, 0, 0), (.iconst 1, 0, 0, 1), (.istore 9, 9, 0, 0), (.iconst 0, 0, 0, 0), (.istore 10, 10, 0, 0),
  (.iload 10, 10, 0, 0), (.bipush 6, 0, 0, 6), (.if_icmp .ge 73, 177, 0, 0), (.iload 9, 9, 0, 0), (.ifCond .eq 59, 173, 0, 0), (.aload_n 0, 0, 0, 0), (.getfield 53, 22, 9, 830), (.bipush 6, 0, 0, 6),
  (.iload 10, 10, 0, 0), (.imul, 0, 0, 0), (.iload 8, 8, 0, 0), (.bipush 6, 0, 0, 6), (.irem, 0, 0, 0), (.iadd, 0, 0, 0), (.iaload, 0, 0, 0), (.aload_n 0, 0, 0, 0),
  (.getfield 53, 22, 9, 830), (.iload 8, 8, 0, 0), (.iaload, 0, 0, 0), (.if_icmp .gt 33, 173, 0, 0), (.aload_n 0, 0, 0, 0), (.getfield 56, 23, 9, 831), (.iload 8, 8, 0, 0), (.bipush 6, 0, 0, 6),
  (.idiv, 0, 0, 0), (.bipush 6, 0, 0, 6), (.imul, 0, 0, 0), (.iload 10, 10, 0, 0), (.iadd, 0, 0, 0), (.iaload, 0, 0, 0), (.aload_n 0, 0, 0, 0), (.getfield 56, 23, 9, 831),
  (.iload 8, 8, 0, 0), (.iaload, 0, 0, 0), (.if_icmp .gt 7, 173, 0, 0), (.iconst 1, 0, 0, 1), (.goto 4, 174, 0, 0), (.iconst 0, 0, 0, 0), (.istore 9, 9, 0, 0), (.iinc 10 1, 10, 0, 1),
  (.goto (-74), 136, 0, 0), (.iload 6, 6, 0, 0), (.iload 9, 9, 0, 0), (.ifCond .eq 7, 182, 0, 0), (.iconst 1, 0, 0, 1), (.goto 4, 183, 0, 0), (.iconst 0, 0, 0, 0), (.iadd, 0, 0, 0),
  (.istore 6, 6, 0, 0), (.iload 9, 9, 0, 0), (.ifCond .eq 8, 189, 0, 0), (.iload 8, 8, 0, 0), (.goto 5, 190, 0, 0), (.iload 7, 7, 0, 0), (.istore 7, 7, 0, 0), (.iinc 8 (-1), 8, 0, -1),
  (.goto (-120), 130, 0, 0), (.iload_n 3, 3, 0, 0), (.ifCond .ne 8, 197, 0, 0), (.iload 6, 6, 0, 0), (.goto 34, 213, 0, 0), (.iload 7, 7, 0, 0), (.ifCond .ge 8, 201, 0, 0), (.bipush (-4), 0, 0, -4),
  (.goto 24, 213, 0, 0), (.bipush 10, 0, 0, 10), (.iload_n 3, 3, 0, 0), (.iconst 1, 0, 0, 1), (.if_icmp .ne 11, 209, 0, 0), (.iload 7, 7, 0, 0), (.bipush 6, 0, 0, 6), (.idiv, 0, 0, 0),
  (.goto 8, 212, 0, 0), (.iload 7, 7, 0, 0), (.bipush 6, 0, 0, 6), (.irem, 0, 0, 0), (.imul, 0, 0, 0), (.ireturn, 0, 0, 0)]
/-- StreetCriesModel.fresh(IIII)I -/
def jx_c165 : List (Instr × Nat × Nat × Int) := [(.iload_n 1, 1, 0, 0), (.i2l, 0, 0, 0), (.lconst 1, 0, 0, 1), (.ldc2_w 97, 0, 924, 3), (.invokestatic 82, 125, 0, 913), (.ifCond .eq 43, 27, 0, 0), (.iload_n 2, 2, 0, 0), (.i2l, 0, 0, 0),
  (.lconst 1, 0, 0, 1), (.ldc2_w 95, 0, 916, 9), (.invokestatic 82, 125, 0, 913), (.ifCond .eq 31, 27, 0, 0), (.iload_n 3, 3, 0, 0), (.i2l, 0, 0, 0), (.lconst 0, 0, 0, 0), (.ldc2_w 205, 0, 1083, 12),
  (.invokestatic 82, 125, 0, 913), (.ifCond .eq 19, 27, 0, 0), (.iload 4, 4, 0, 0), (.i2l, 0, 0, 0), (.ldc2_w 207, 0, 1084, -1), (.iload_n 1, 1, 0, 0), (.iconst 1, 0, 0, 1), (.isub, 0, 0, 0),
  (.i2l, 0, 0, 0), (.invokestatic 82, 125, 0, 913), (.ifCond .ne 5, 29, 0, 0), (.iconst (-1), 0, 0, -1), (.ireturn, 0, 0, 0), (.bipush (-4), 0, 0, -4), (.istore 5, 5, 0, 0), (.iconst (-1), 0, 0, -1),
  (.istore 6, 6, 0, 0), (.iload_n 1, 1, 0, 0), (.iconst 1, 0, 0, 1), (.if_icmp .ne 8, 38, 0, 0), (.bipush 10, 0, 0, 10), (.goto 16, 44, 0, 0), (.iload_n 1, 1, 0, 0), (.iconst 2, 0, 0, 2),
  (.if_icmp .ne 8, 43, 0, 0), (.bipush 100, 0, 0, 100), (.goto 6, 44, 0, 0), (.sipush 1000, 0, 0, 1000), (.istore 7, 7, 0, 0), (.iconst 0, 0, 0, 0), (.istore 8, 8, 0, 0), (.iload 8, 8, 0, 0),
  (.iload 7, 7, 0, 0), (.if_icmp .ge 117, 113, 0, 0), (.aload_n 0, 0, 0, 0), (.iload 8, 8, 0, 0), (.iload_n 1, 1, 0, 0), (.invokevirtual 209, 166, 0, 1085), (.aload_n 0, 0, 0, 0), (.getfield 59, 24, 9, 832),
  (.iconst 0, 0, 0, 0), (.iaload, 0, 0, 0), (.iload_n 1, 1, 0, 0), (.iconst 1, 0, 0, 1), (.if_icmp .le 12, 66, 0, 0), (.aload_n 0, 0, 0, 0), (.getfield 59, 24, 9, 832), (.iconst 1, 0, 0, 1),
  (.iaload, 0, 0, 0), (.goto 4, 67, 0, 0), (.iconst 0, 0, 0, 0), (.iadd, 0, 0, 0), (.iload_n 1, 1, 0, 0), (.iconst 2, 0, 0, 2), (.if_icmp .le 12, 76, 0, 0), (.aload_n 0, 0, 0, 0),
  (.getfield 59, 24, 9, 832), (.iconst 2, 0, 0, 2), (.iaload, 0, 0, 0), (.goto 4, 77, 0, 0), (.iconst 0, 0, 0, 0), (.iadd, 0, 0, 0), (.istore 9, 9, 0, 0), (.aload_n 0, 0, 0, 0),
  (.iload_n 1, 1, 0, 0), (.invokevirtual 213, 167, 0, 1089), (.istore 10, 10, 0, 0), (.iload_n 2, 2, 0, 0), (.iload 9, 9, 0, 0), (.iload_n 1, 1, 0, 0), (.idiv, 0, 0, 0), (.iconst 3, 0, 0, 3),
  (.idiv, 0, 0, 0), (.iadd, 0, 0, 0), (.iload_n 3, 3, 0, 0), (.if_icmp .lt 14, 97, 0, 0), (.iload 10, 10, 0, 0), (.iload 6, 6, 0, 0), (.if_icmp .le 7, 97, 0, 0), (.iconst 1, 0, 0, 1),
  (.goto 4, 98, 0, 0), (.iconst 0, 0, 0, 0), (.istore 11, 11, 0, 0), (.iload 11, 11, 0, 0), (.ifCond .eq 8, 103, 0, 0), (.iload 8, 8, 0, 0), (.goto 5, 104, 0, 0), (.iload 5, 5, 0, 0),
  (.istore 5, 5, 0, 0), (.iload 11, 11, 0, 0), (.ifCond .eq 8, 109, 0, 0), (.iload 10, 10, 0, 0), (.goto 5, 110, 0, 0), (.iload 6, 6, 0, 0), (.istore 6, 6, 0, 0), (.iinc 8 1, 8, 0, 1),
  (.goto (-118), 47, 0, 0), (.iload 5, 5, 0, 0), (.ifCond .ge 6, 117, 0, 0), (.bipush (-4), 0, 0, -4), (.ireturn, 0, 0, 0), (.aload_n 0, 0, 0, 0), (.iload 5, 5, 0, 0), (.iload_n 1, 1, 0, 0),
  (.invokevirtual 209, 166, 0, 1085), (.iload 4, 4, 0, 0), (.ifCond .ge 8, 125, 0, 0), (.iload 6, 6, 0, 0), (.goto 10, 129, 0, 0), (.aload_n 0, 0, 0, 0), (.getfield 59, 24, 9, 832), (.iload 4, 4, 0, 0),
  (.iaload, 0, 0, 0), (.ireturn, 0, 0, 0)]
/-- StreetCriesModel.lays(II)V -/
def jx_c166 : List (Instr × Nat × Nat × Int) := [(.iload_n 1, 1, 0, 0), (.istore_n 3, 3, 0, 0), (.iload_n 2, 2, 0, 0), (.iconst 1, 0, 0, 1), (.isub, 0, 0, 0), (.istore 4, 4, 0, 0), (.iload 4, 4, 0, 0), (.ifCond .lt 25, 21, 0, 0),
  (.aload_n 0, 0, 0, 0), (.getfield 59, 24, 9, 832), (.iload 4, 4, 0, 0), (.iload_n 3, 3, 0, 0), (.bipush 10, 0, 0, 10), (.irem, 0, 0, 0), (.iastore, 0, 0, 0), (.iload_n 3, 3, 0, 0),
  (.bipush 10, 0, 0, 10), (.idiv, 0, 0, 0), (.istore_n 3, 3, 0, 0), (.iinc 4 (-1), 4, 0, -1), (.goto (-24), 6, 0, 0), (.return_, 0, 0, 0)]
/-- StreetCriesModel.nearestOff(I)I -/
def jx_c167 : List (Instr × Nat × Nat × Int) := [(.iconst 0, 0, 0, 0), (.istore_n 2, 2, 0, 0), (.aload_n 0, 0, 0, 0), (.bipush (-4), 0, 0, -4), (.putfield 202, 25, 9, 833), (.iconst 0, 0, 0, 0), (.istore_n 3, 3, 0, 0), (.iload_n 3, 3, 0, 0),
  (.aload_n 0, 0, 0, 0), (.getfield 88, 1, 9, 809), (.if_icmp .ge 88, 56, 0, 0), (.aload_n 0, 0, 0, 0), (.getfield 59, 24, 9, 832), (.iconst 0, 0, 0, 0), (.iload_n 1, 1, 0, 0), (.aload_n 0, 0, 0, 0),
  (.getfield 19, 4, 9, 812), (.bipush 7, 0, 0, 7), (.iload_n 3, 3, 0, 0), (.imul, 0, 0, 0), (.iconst 1, 0, 0, 1), (.iadd, 0, 0, 0), (.aload_n 0, 0, 0, 0), (.getfield 19, 4, 9, 812),
  (.bipush 7, 0, 0, 7), (.iload_n 3, 3, 0, 0), (.imul, 0, 0, 0), (.iaload, 0, 0, 0), (.invokestatic 169, 150, 0, 1019), (.istore 4, 4, 0, 0), (.aload_n 0, 0, 0, 0), (.getfield 202, 25, 9, 833),
  (.ifCond .lt 9, 36, 0, 0), (.iload 4, 4, 0, 0), (.iload_n 2, 2, 0, 0), (.if_icmp .ge 7, 38, 0, 0), (.iconst 1, 0, 0, 1), (.goto 4, 39, 0, 0), (.iconst 0, 0, 0, 0), (.istore 5, 5, 0, 0),
  (.aload_n 0, 0, 0, 0), (.iload 5, 5, 0, 0), (.ifCond .eq 7, 45, 0, 0), (.iload_n 3, 3, 0, 0), (.goto 7, 47, 0, 0), (.aload_n 0, 0, 0, 0), (.getfield 202, 25, 9, 833), (.putfield 202, 25, 9, 833),
  (.iload 5, 5, 0, 0), (.ifCond .eq 8, 52, 0, 0), (.iload 4, 4, 0, 0), (.goto 4, 53, 0, 0), (.iload_n 2, 2, 0, 0), (.istore_n 2, 2, 0, 0), (.iinc 3 1, 3, 0, 1), (.goto (-90), 7, 0, 0),
  (.iload_n 2, 2, 0, 0), (.ireturn, 0, 0, 0)]
/-- StreetCriesModel.loudness(I)I -/
def jx_c168 : List (Instr × Nat × Nat × Int) := [(.iload_n 1, 1, 0, 0), (.invokestatic 91, 124, 0, 909), (.ifCond .eq 11, 7, 0, 0), (.aload_n 0, 0, 0, 0), (.iload_n 1, 1, 0, 0), (.invokevirtual 216, 169, 0, 1097), (.goto 4, 8, 0, 0), (.iconst (-1), 0, 0, -1),
  (.ireturn, 0, 0, 0)]
/-- StreetCriesModel.loudnessOf(I)I -/
def jx_c169 : List (Instr × Nat × Nat × Int) := [(.iconst 0, 0, 0, 0), (.istore_n 2, 2, 0, 0), (.iconst 0, 0, 0, 0), (.istore_n 3, 3, 0, 0), (.iload_n 3, 3, 0, 0), (.bipush 120, 0, 0, 120), (.if_icmp .ge 46, 29, 0, 0), (.iconst 0, 0, 0, 0),
  (.istore 4, 4, 0, 0), (.iload 4, 4, 0, 0), (.aload_n 0, 0, 0, 0), (.getfield 88, 1, 9, 809), (.if_icmp .ge 28, 27, 0, 0), (.iload_n 2, 2, 0, 0), (.aload_n 0, 0, 0, 0), (.iload_n 1, 1, 0, 0),
  (.iload 4, 4, 0, 0), (.iload_n 3, 3, 0, 0), (.invokevirtual 165, 146, 0, 1003), (.ifCond .eq 7, 22, 0, 0), (.iconst 1, 0, 0, 1), (.goto 4, 23, 0, 0), (.iconst 0, 0, 0, 0), (.iadd, 0, 0, 0),
  (.istore_n 2, 2, 0, 0), (.iinc 4 1, 4, 0, 1), (.goto (-31), 9, 0, 0), (.iinc 3 1, 3, 0, 1), (.goto (-46), 4, 0, 0), (.iload_n 2, 2, 0, 0), (.ireturn, 0, 0, 0)]
/-- StreetCriesModel.quiet(II)I -/
def jx_c170 : List (Instr × Nat × Nat × Int) := [(.iload_n 1, 1, 0, 0), (.invokestatic 91, 124, 0, 909), (.ifCond .eq 15, 9, 0, 0), (.iload_n 2, 2, 0, 0), (.i2l, 0, 0, 0), (.lconst 0, 0, 0, 0), (.ldc2_w 219, 0, 1105, 999), (.invokestatic 82, 125, 0, 913),
  (.ifCond .ne 5, 11, 0, 0), (.iconst (-1), 0, 0, -1), (.ireturn, 0, 0, 0), (.aload_n 0, 0, 0, 0), (.getfield 152, 6, 9, 814), (.istore_n 3, 3, 0, 0), (.bipush (-4), 0, 0, -4), (.istore 4, 4, 0, 0),
  (.iconst 0, 0, 0, 0), (.istore 5, 5, 0, 0), (.iload 5, 5, 0, 0), (.bipush 16, 0, 0, 16), (.if_icmp .ge 63, 48, 0, 0), (.aload_n 0, 0, 0, 0), (.iload 5, 5, 0, 0), (.putfield 152, 6, 9, 814),
  (.iload 4, 4, 0, 0), (.ifCond .lt 16, 31, 0, 0), (.iload 5, 5, 0, 0), (.invokestatic 184, 154, 0, 1035), (.iload 4, 4, 0, 0), (.invokestatic 184, 154, 0, 1035), (.if_icmp .ge 7, 33, 0, 0), (.iconst 1, 0, 0, 1),
  (.goto 4, 34, 0, 0), (.iconst 0, 0, 0, 0), (.istore 6, 6, 0, 0), (.iload 6, 6, 0, 0), (.ifCond .eq 17, 44, 0, 0), (.aload_n 0, 0, 0, 0), (.iload_n 1, 1, 0, 0), (.invokevirtual 216, 169, 0, 1097),
  (.iload_n 2, 2, 0, 0), (.if_icmp .gt 8, 44, 0, 0), (.iload 5, 5, 0, 0), (.goto 5, 45, 0, 0), (.iload 4, 4, 0, 0), (.istore 4, 4, 0, 0), (.iinc 5 1, 5, 0, 1), (.goto (-64), 18, 0, 0),
  (.aload_n 0, 0, 0, 0), (.iload_n 3, 3, 0, 0), (.putfield 152, 6, 9, 814), (.iload 4, 4, 0, 0), (.ireturn, 0, 0, 0)]
/-- StreetCriesModel.costs(II)I -/
def jx_c171 : List (Instr × Nat × Nat × Int) := [(.iload_n 1, 1, 0, 0), (.i2l, 0, 0, 0), (.lconst 0, 0, 0, 0), (.ldc2_w 97, 0, 924, 3), (.invokestatic 82, 125, 0, 913), (.ifCond .eq 11, 10, 0, 0), (.aload_n 0, 0, 0, 0), (.iload_n 2, 2, 0, 0),
  (.invokevirtual 108, 130, 0, 934), (.ifCond .ne 6, 12, 0, 0), (.ldc 221, 0, 1110, -100001), (.ireturn, 0, 0, 0), (.aload_n 0, 0, 0, 0), (.getfield 152, 6, 9, 814), (.istore_n 3, 3, 0, 0), (.aload_n 0, 0, 0, 0),
  (.iload_n 2, 2, 0, 0), (.invokevirtual 199, 161, 0, 1063), (.istore 4, 4, 0, 0), (.aload_n 0, 0, 0, 0), (.dup, 0, 0, 0), (.getfield 152, 6, 9, 814), (.iconst 1, 0, 0, 1), (.iload_n 1, 1, 0, 0),
  (.ishl, 0, 0, 0), (.ior, 0, 0, 0), (.putfield 152, 6, 9, 814), (.aload_n 0, 0, 0, 0), (.iload_n 2, 2, 0, 0), (.invokevirtual 199, 161, 0, 1063), (.istore 5, 5, 0, 0), (.aload_n 0, 0, 0, 0),
  (.iload_n 3, 3, 0, 0), (.putfield 152, 6, 9, 814), (.iload 4, 4, 0, 0), (.iload 5, 5, 0, 0), (.isub, 0, 0, 0), (.ireturn, 0, 0, 0)]
/-- StreetCriesModel.window(IIZ)I -/
def jx_c172 : List (Instr × Nat × Nat × Int) := [(.iload_n 1, 1, 0, 0), (.invokestatic 91, 124, 0, 909), (.ifCond .eq 10, 6, 0, 0), (.iload_n 2, 2, 0, 0), (.invokestatic 99, 128, 0, 925), (.ifCond .ne 5, 8, 0, 0), (.iconst (-1), 0, 0, -1), (.ireturn, 0, 0, 0),
  (.aload_n 0, 0, 0, 0), (.getfield 181, 9, 9, 817), (.bipush 12, 0, 0, 12), (.if_icmp .ne 6, 14, 0, 0), (.bipush (-3), 0, 0, -3), (.ireturn, 0, 0, 0), (.aload_n 0, 0, 0, 0), (.getfield 25, 10, 9, 818),
  (.iconst 3, 0, 0, 3), (.aload_n 0, 0, 0, 0), (.getfield 181, 9, 9, 817), (.imul, 0, 0, 0), (.iload_n 1, 1, 0, 0), (.iastore, 0, 0, 0), (.aload_n 0, 0, 0, 0), (.getfield 25, 10, 9, 818),
  (.iconst 3, 0, 0, 3), (.aload_n 0, 0, 0, 0), (.getfield 181, 9, 9, 817), (.imul, 0, 0, 0), (.iconst 1, 0, 0, 1), (.iadd, 0, 0, 0), (.iload_n 2, 2, 0, 0), (.iastore, 0, 0, 0),
  (.aload_n 0, 0, 0, 0), (.getfield 25, 10, 9, 818), (.iconst 3, 0, 0, 3), (.aload_n 0, 0, 0, 0), (.getfield 181, 9, 9, 817), (.imul, 0, 0, 0), (.iconst 2, 0, 0, 2), (.iadd, 0, 0, 0),
  (.iload_n 3, 3, 0, 0), (.ifCond .eq 7, 44, 0, 0), (.iconst 1, 0, 0, 1), (.goto 4, 45, 0, 0), (.iconst 0, 0, 0, 0), (.iastore, 0, 0, 0), (.aload_n 0, 0, 0, 0), (.dup, 0, 0, 0),
  (.getfield 181, 9, 9, 817), (.iconst 1, 0, 0, 1), (.iadd, 0, 0, 0), (.putfield 181, 9, 9, 817), (.aload_n 0, 0, 0, 0), (.getfield 181, 9, 9, 817), (.ireturn, 0, 0, 0)]
/-- StreetCriesModel.went(II)I -/
def jx_c173 : List (Instr × Nat × Nat × Int) := [(.aload_n 0, 0, 0, 0), (.iload_n 1, 1, 0, 0), (.invokevirtual 108, 130, 0, 934), (.ifCond .eq 15, 10, 0, 0), (.iload_n 2, 2, 0, 0), (.i2l, 0, 0, 0), (.lconst 0, 0, 0, 0), (.ldc2_w 194, 0, 1046, 2),
  (.invokestatic 82, 125, 0, 913), (.ifCond .ne 5, 12, 0, 0), (.iconst (-1), 0, 0, -1), (.ireturn, 0, 0, 0), (.aload_n 0, 0, 0, 0), (.getfield 13, 2, 9, 810), (.iconst 4, 0, 0, 4), (.iload_n 1, 1, 0, 0),
  (.imul, 0, 0, 0), (.iconst 2, 0, 0, 2), (.iadd, 0, 0, 0), (.iaload, 0, 0, 0), (.istore_n 3, 3, 0, 0), (.iconst 0, 0, 0, 0), (.istore 4, 4, 0, 0), (.bipush (-4), 0, 0, -4),
  (.istore 5, 5, 0, 0), (.bipush (-4), 0, 0, -4), (.istore 6, 6, 0, 0), (.aload_n 0, 0, 0, 0), (.iload_n 1, 1, 0, 0), (.putfield 38, 17, 9, 825), (.iconst 0, 0, 0, 0), (.istore 7, 7, 0, 0),
  (.iload 7, 7, 0, 0), (.bipush 120, 0, 0, 120), (.if_icmp .ge 150, 115, 0, 0), (.aload_n 0, 0, 0, 0), (.getfield 13, 2, 9, 810), (.iconst 4, 0, 0, 4), (.iload_n 1, 1, 0, 0), (.imul, 0, 0, 0),
  (.iconst 2, 0, 0, 2), (.iadd, 0, 0, 0), (.iload 7, 7, 0, 0), (.iastore, 0, 0, 0), (.iconst 1, 0, 0, 1), (.istore 8, 8, 0, 0), (.iconst 0, 0, 0, 0), (.istore 9, 9, 0, 0),
  (.iload 9, 9, 0, 0), (.aload_n 0, 0, 0, 0), (.getfield 181, 9, 9, 817), (.if_icmp .ge 69, 91, 0, 0), (.iload 8, 8, 0, 0), (.ifCond .eq 55, 87, 0, 0), (.aload_n 0, 0, 0, 0), (.aload_n 0, 0, 0, 0),
  (.getfield 25, 10, 9, 818), (.iconst 3, 0, 0, 3), (.iload 9, 9, 0, 0), (.imul, 0, 0, 0), (.iaload, 0, 0, 0), (.iload_n 1, 1, 0, 0), (.aload_n 0, 0, 0, 0), (.getfield 25, 10, 9, 818),
  (.iconst 3, 0, 0, 3), (.iload 9, 9, 0, 0), (.imul, 0, 0, 0), (.iconst 1, 0, 0, 1), (.iadd, 0, 0, 0), (.iaload, 0, 0, 0), (.invokevirtual 165, 146, 0, 1003), (.aload_n 0, 0, 0, 0),
  (.getfield 25, 10, 9, 818), (.iconst 3, 0, 0, 3), (.iload 9, 9, 0, 0), (.imul, 0, 0, 0), (.iconst 2, 0, 0, 2), (.iadd, 0, 0, 0), (.iaload, 0, 0, 0), (.iconst 1, 0, 0, 1),
  (.if_icmp .ne 7, 83, 0, 0), (.iconst 1, 0, 0, 1), (.goto 4, 84, 0, 0), (.iconst 0, 0, 0, 0), (.if_icmp .ne 7, 87, 0, 0), (.iconst 1, 0, 0, 1), (.goto 4, 88, 0, 0), (.iconst 0, 0, 0, 0),
  (.istore 8, 8, 0, 0), (.iinc 9 1, 9, 0, 1), (.goto (-72), 48, 0, 0), (.iload 4, 4, 0, 0), (.iload 8, 8, 0, 0), (.ifCond .eq 7, 96, 0, 0), (.iconst 1, 0, 0, 1), (.goto 4, 97, 0, 0),
  (.iconst 0, 0, 0, 0), (.iadd, 0, 0, 0), (.istore 4, 4, 0, 0), (.iload 8, 8, 0, 0), (.ifCond .eq 13, 105, 0, 0), (.iload 5, 5, 0, 0), (.ifCond .ge 8, 105, 0, 0), (.iload 7, 7, 0, 0),
  (.goto 5, 106, 0, 0), (.iload 5, 5, 0, 0), (.istore 5, 5, 0, 0), (.iload 8, 8, 0, 0), (.ifCond .eq 8, 111, 0, 0), (.iload 7, 7, 0, 0), (.goto 5, 112, 0, 0), (.iload 6, 6, 0, 0),
  (.istore 6, 6, 0, 0), (.iinc 7 1, 7, 0, 1), (.goto (-151), 32, 0, 0), (.aload_n 0, 0, 0, 0), (.bipush (-4), 0, 0, -4), (.putfield 38, 17, 9, 825), (.aload_n 0, 0, 0, 0), (.getfield 13, 2, 9, 810),
  (.iconst 4, 0, 0, 4), (.iload_n 1, 1, 0, 0), (.imul, 0, 0, 0), (.iconst 2, 0, 0, 2), (.iadd, 0, 0, 0), (.iload_n 3, 3, 0, 0), (.iastore, 0, 0, 0), (.iload_n 2, 2, 0, 0),
  (.ifCond .ne 8, 131, 0, 0), (.iload 4, 4, 0, 0), (.goto 15, 137, 0, 0), (.iload_n 2, 2, 0, 0), (.iconst 1, 0, 0, 1), (.if_icmp .ne 8, 136, 0, 0), (.iload 5, 5, 0, 0), (.goto 5, 137, 0, 0),
  (.iload 6, 6, 0, 0), (.ireturn, 0, 0, 0)]
/-- StreetCriesModel.shut()I -/
def jx_c174 : List (Instr × Nat × Nat × Int) := [(.aload_n 0, 0, 0, 0), (.getfield 181, 9, 9, 817), (.istore_n 1, 1, 0, 0), (.aload_n 0, 0, 0, 0), (.iconst 0, 0, 0, 0), (.putfield 181, 9, 9, 817), (.iload_n 1, 1, 0, 0), (.ireturn, 0, 0, 0)]
/-- StreetCriesModel.dies(II)I -/
def jx_c175 : List (Instr × Nat × Nat × Int) := [(.aload_n 0, 0, 0, 0), (.iload_n 1, 1, 0, 0), (.invokevirtual 108, 130, 0, 934), (.ifCond .eq 10, 7, 0, 0), (.iload_n 2, 2, 0, 0), (.invokestatic 91, 124, 0, 909), (.ifCond .ne 5, 9, 0, 0), (.iconst (-1), 0, 0, -1),
  (.ireturn, 0, 0, 0), (.aload_n 0, 0, 0, 0), (.getfield 7, 0, 9, 808), (.iload_n 2, 2, 0, 0), (.iaload, 0, 0, 0), (.istore_n 3, 3, 0, 0), (.bipush (-4), 0, 0, -4), (.istore 4, 4, 0, 0),
  (.bipush 9, 0, 0, 9), (.istore 5, 5, 0, 0), (.iload 5, 5, 0, 0), (.ifCond .lt 35, 36, 0, 0), (.aload_n 0, 0, 0, 0), (.getfield 7, 0, 9, 808), (.iload_n 2, 2, 0, 0), (.iload 5, 5, 0, 0),
  (.iastore, 0, 0, 0), (.aload_n 0, 0, 0, 0), (.iload_n 1, 1, 0, 0), (.iload_n 2, 2, 0, 0), (.invokevirtual 222, 176, 0, 1127), (.ifCond .ne 8, 32, 0, 0), (.iload 5, 5, 0, 0), (.goto 5, 33, 0, 0),
  (.iload 4, 4, 0, 0), (.istore 4, 4, 0, 0), (.iinc 5 (-1), 5, 0, -1), (.goto (-34), 18, 0, 0), (.aload_n 0, 0, 0, 0), (.getfield 7, 0, 9, 808), (.iload_n 2, 2, 0, 0), (.iload_n 3, 3, 0, 0),
  (.iastore, 0, 0, 0), (.iload 4, 4, 0, 0), (.ireturn, 0, 0, 0)]
/-- StreetCriesModel.heardMinutes(II)I -/
def jx_c176 : List (Instr × Nat × Nat × Int) := [(.iconst 0, 0, 0, 0), (.istore_n 3, 3, 0, 0), (.iconst 0, 0, 0, 0), (.istore 4, 4, 0, 0), (.iload 4, 4, 0, 0), (.bipush 120, 0, 0, 120), (.if_icmp .ge 28, 21, 0, 0), (.iload_n 3, 3, 0, 0),
  (.aload_n 0, 0, 0, 0), (.iload_n 2, 2, 0, 0), (.iload_n 1, 1, 0, 0), (.iload 4, 4, 0, 0), (.invokevirtual 165, 146, 0, 1003), (.ifCond .eq 7, 16, 0, 0), (.iconst 1, 0, 0, 1), (.goto 4, 17, 0, 0),
  (.iconst 0, 0, 0, 0), (.iadd, 0, 0, 0), (.istore_n 3, 3, 0, 0), (.iinc 4 1, 4, 0, 1), (.goto (-29), 4, 0, 0), (.iload_n 3, 3, 0, 0), (.ireturn, 0, 0, 0)]
/-- StreetCriesModel.clock(II)I -/
def jx_c177 : List (Instr × Nat × Nat × Int) := [(.aload_n 0, 0, 0, 0), (.iload_n 1, 1, 0, 0), (.invokevirtual 108, 130, 0, 934), (.ifCond .eq 19, 12, 0, 0), (.iload_n 2, 2, 0, 0), (.invokestatic 91, 124, 0, 909), (.ifCond .eq 12, 12, 0, 0), (.aload_n 0, 0, 0, 0),
  (.iload_n 1, 1, 0, 0), (.iload_n 2, 2, 0, 0), (.invokevirtual 222, 176, 0, 1127), (.goto 4, 13, 0, 0), (.iconst (-1), 0, 0, -1), (.ireturn, 0, 0, 0)]
/-- StreetCriesModel.image()I -/
def jx_c178 : List (Instr × Nat × Nat × Int) := [(.aload_n 0, 0, 0, 0), (.getfield 7, 0, 9, 808), (.aload_n 0, 0, 0, 0), (.getfield 62, 26, 9, 834), (.iconst 0, 0, 0, 0), (.invokestatic 225, 179, 0, 1139), (.istore_n 1, 1, 0, 0), (.aload_n 0, 0, 0, 0),
  (.getfield 13, 2, 9, 810), (.aload_n 0, 0, 0, 0), (.getfield 62, 26, 9, 834), (.iload_n 1, 1, 0, 0), (.invokestatic 225, 179, 0, 1139), (.istore_n 1, 1, 0, 0), (.aload_n 0, 0, 0, 0), (.getfield 16, 3, 9, 811),
  (.aload_n 0, 0, 0, 0), (.getfield 62, 26, 9, 834), (.iload_n 1, 1, 0, 0), (.invokestatic 225, 179, 0, 1139), (.istore_n 1, 1, 0, 0), (.aload_n 0, 0, 0, 0), (.getfield 19, 4, 9, 812), (.aload_n 0, 0, 0, 0),
  (.getfield 62, 26, 9, 834), (.iload_n 1, 1, 0, 0), (.invokestatic 225, 179, 0, 1139), (.istore_n 1, 1, 0, 0), (.aload_n 0, 0, 0, 0), (.getfield 22, 8, 9, 816), (.aload_n 0, 0, 0, 0), (.getfield 62, 26, 9, 834),
  (.iload_n 1, 1, 0, 0), (.invokestatic 225, 179, 0, 1139), (.istore_n 1, 1, 0, 0), (.aload_n 0, 0, 0, 0), (.getfield 25, 10, 9, 818), (.aload_n 0, 0, 0, 0), (.getfield 62, 26, 9, 834), (.iload_n 1, 1, 0, 0),
  (.invokestatic 225, 179, 0, 1139), (.istore_n 1, 1, 0, 0), (.aload_n 0, 0, 0, 0), (.getfield 62, 26, 9, 834), (.iload_n 1, 1, 0, 0), (.aload_n 0, 0, 0, 0), (.getfield 88, 1, 9, 809), (.iastore, 0, 0, 0),
  (.aload_n 0, 0, 0, 0), (.getfield 62, 26, 9, 834), (.iload_n 1, 1, 0, 0), (.iconst 1, 0, 0, 1), (.iadd, 0, 0, 0), (.aload_n 0, 0, 0, 0), (.getfield 77, 5, 9, 813), (.iastore, 0, 0, 0),
  (.aload_n 0, 0, 0, 0), (.getfield 62, 26, 9, 834), (.iload_n 1, 1, 0, 0), (.iconst 2, 0, 0, 2), (.iadd, 0, 0, 0), (.aload_n 0, 0, 0, 0), (.getfield 152, 6, 9, 814), (.iastore, 0, 0, 0),
  (.aload_n 0, 0, 0, 0), (.getfield 62, 26, 9, 834), (.iload_n 1, 1, 0, 0), (.iconst 3, 0, 0, 3), (.iadd, 0, 0, 0), (.aload_n 0, 0, 0, 0), (.getfield 178, 7, 9, 815), (.iastore, 0, 0, 0),
  (.aload_n 0, 0, 0, 0), (.getfield 62, 26, 9, 834), (.iload_n 1, 1, 0, 0), (.iconst 4, 0, 0, 4), (.iadd, 0, 0, 0), (.aload_n 0, 0, 0, 0), (.getfield 181, 9, 9, 817), (.iastore, 0, 0, 0),
  (.aload_n 0, 0, 0, 0), (.iconst 1, 0, 0, 1), (.putfield 229, 27, 9, 835), (.iconst 1, 0, 0, 1), (.ireturn, 0, 0, 0)]
/-- StreetCriesModel.saves([I[II)I -/
def jx_c179 : List (Instr × Nat × Nat × Int) := [(.iconst 0, 0, 0, 0), (.istore_n 3, 3, 0, 0), (.iload_n 3, 3, 0, 0), (.aload_n 0, 0, 0, 0), (.arraylength, 0, 0, 0), (.if_icmp .ge 17, 16, 0, 0), (.aload_n 1, 1, 0, 0), (.iload_n 2, 2, 0, 0),
  (.iload_n 3, 3, 0, 0), (.iadd, 0, 0, 0), (.aload_n 0, 0, 0, 0), (.iload_n 3, 3, 0, 0), (.iaload, 0, 0, 0), (.iastore, 0, 0, 0), (.iinc 3 1, 3, 0, 1), (.goto (-17), 2, 0, 0),
  (.iload_n 2, 2, 0, 0), (.aload_n 0, 0, 0, 0), (.arraylength, 0, 0, 0), (.iadd, 0, 0, 0), (.ireturn, 0, 0, 0)]
/-- StreetCriesModel.restore()I -/
def jx_c180 : List (Instr × Nat × Nat × Int) := [(.aload_n 0, 0, 0, 0), (.getfield 229, 27, 9, 835), (.ifCond .ne 6, 5, 0, 0), (.bipush (-4), 0, 0, -4), (.ireturn, 0, 0, 0), (.aload_n 0, 0, 0, 0), (.getfield 62, 26, 9, 834), (.iconst 0, 0, 0, 0),
  (.aload_n 0, 0, 0, 0), (.getfield 7, 0, 9, 808), (.invokestatic 232, 181, 0, 1146), (.istore_n 1, 1, 0, 0), (.aload_n 0, 0, 0, 0), (.getfield 62, 26, 9, 834), (.iload_n 1, 1, 0, 0), (.aload_n 0, 0, 0, 0),
  (.getfield 13, 2, 9, 810), (.invokestatic 232, 181, 0, 1146), (.istore_n 1, 1, 0, 0), (.aload_n 0, 0, 0, 0), (.getfield 62, 26, 9, 834), (.iload_n 1, 1, 0, 0), (.aload_n 0, 0, 0, 0), (.getfield 16, 3, 9, 811),
  (.invokestatic 232, 181, 0, 1146), (.istore_n 1, 1, 0, 0), (.aload_n 0, 0, 0, 0), (.getfield 62, 26, 9, 834), (.iload_n 1, 1, 0, 0), (.aload_n 0, 0, 0, 0), (.getfield 19, 4, 9, 812), (.invokestatic 232, 181, 0, 1146),
  (.istore_n 1, 1, 0, 0), (.aload_n 0, 0, 0, 0), (.getfield 62, 26, 9, 834), (.iload_n 1, 1, 0, 0), (.aload_n 0, 0, 0, 0), (.getfield 22, 8, 9, 816), (.invokestatic 232, 181, 0, 1146), (.istore_n 1, 1, 0, 0),
  (.aload_n 0, 0, 0, 0), (.getfield 62, 26, 9, 834), (.iload_n 1, 1, 0, 0), (.aload_n 0, 0, 0, 0), (.getfield 25, 10, 9, 818), (.invokestatic 232, 181, 0, 1146), (.istore_n 1, 1, 0, 0), (.aload_n 0, 0, 0, 0),
  (.aload_n 0, 0, 0, 0), (.getfield 62, 26, 9, 834), (.iload_n 1, 1, 0, 0), (.iaload, 0, 0, 0), (.putfield 88, 1, 9, 809), (.aload_n 0, 0, 0, 0), (.aload_n 0, 0, 0, 0), (.getfield 62, 26, 9, 834),
  (.iload_n 1, 1, 0, 0), (.iconst 1, 0, 0, 1), (.iadd, 0, 0, 0), (.iaload, 0, 0, 0), (.putfield 77, 5, 9, 813), (.aload_n 0, 0, 0, 0), (.aload_n 0, 0, 0, 0), (.getfield 62, 26, 9, 834),
  (.iload_n 1, 1, 0, 0), (.iconst 2, 0, 0, 2), (.iadd, 0, 0, 0), (.iaload, 0, 0, 0), (.putfield 152, 6, 9, 814), (.aload_n 0, 0, 0, 0), (.aload_n 0, 0, 0, 0), (.getfield 62, 26, 9, 834),
  (.iload_n 1, 1, 0, 0), (.iconst 3, 0, 0, 3), (.iadd, 0, 0, 0), (.iaload, 0, 0, 0), (.putfield 178, 7, 9, 815), (.aload_n 0, 0, 0, 0), (.aload_n 0, 0, 0, 0), (.getfield 62, 26, 9, 834),
  (.iload_n 1, 1, 0, 0), (.iconst 4, 0, 0, 4), (.iadd, 0, 0, 0), (.iaload, 0, 0, 0), (.putfield 181, 9, 9, 817), (.iconst 1, 0, 0, 1), (.ireturn, 0, 0, 0)]
/-- StreetCriesModel.gives([II[I)I -/
def jx_c181 : List (Instr × Nat × Nat × Int) := [(.iconst 0, 0, 0, 0), (.istore_n 3, 3, 0, 0), (.iload_n 3, 3, 0, 0), (.aload_n 2, 2, 0, 0), (.arraylength, 0, 0, 0), (.if_icmp .ge 17, 16, 0, 0), (.aload_n 2, 2, 0, 0), (.iload_n 3, 3, 0, 0),
  (.aload_n 0, 0, 0, 0), (.iload_n 1, 1, 0, 0), (.iload_n 3, 3, 0, 0), (.iadd, 0, 0, 0), (.iaload, 0, 0, 0), (.iastore, 0, 0, 0), (.iinc 3 1, 3, 0, 1), (.goto (-17), 2, 0, 0),
  (.iload_n 1, 1, 0, 0), (.aload_n 2, 2, 0, 0), (.arraylength, 0, 0, 0), (.iadd, 0, 0, 0), (.ireturn, 0, 0, 0)]
/-- StreetCriesModel.hands(IIIIII)I -/
def jx_c182 : List (Instr × Nat × Nat × Int) := [(.iload_n 1, 1, 0, 0), (.invokestatic 236, 183, 0, 1153), (.ifCond .eq 53, 27, 0, 0), (.iload_n 2, 2, 0, 0), (.invokestatic 239, 184, 0, 1156), (.ifCond .eq 46, 27, 0, 0), (.iload 4, 4, 0, 0), (.i2l, 0, 0, 0),
  (.lconst 1, 0, 0, 1), (.ldc2_w 242, 0, 1159, 6), (.invokestatic 82, 125, 0, 913), (.ifCond .eq 33, 27, 0, 0), (.iload 5, 5, 0, 0), (.i2l, 0, 0, 0), (.lconst 1, 0, 0, 1), (.ldc2_w 242, 0, 1159, 6),
  (.invokestatic 82, 125, 0, 913), (.ifCond .eq 20, 27, 0, 0), (.iload 6, 6, 0, 0), (.i2l, 0, 0, 0), (.ldc2_w 207, 0, 1084, -1), (.iload 5, 5, 0, 0), (.iconst 1, 0, 0, 1), (.isub, 0, 0, 0),
  (.i2l, 0, 0, 0), (.invokestatic 82, 125, 0, 913), (.ifCond .ne 5, 29, 0, 0), (.iconst (-1), 0, 0, -1), (.ireturn, 0, 0, 0), (.aload_n 0, 0, 0, 0), (.iload_n 1, 1, 0, 0), (.iload_n 2, 2, 0, 0),
  (.iload_n 3, 3, 0, 0), (.iload 4, 4, 0, 0), (.iload 5, 5, 0, 0), (.imul, 0, 0, 0), (.invokevirtual 244, 185, 0, 1160), (.istore 7, 7, 0, 0), (.iload 7, 7, 0, 0), (.ifCond .ge 6, 42, 0, 0),
  (.iload 7, 7, 0, 0), (.ireturn, 0, 0, 0), (.bipush 24, 0, 0, 24), (.iload_n 1, 1, 0, 0), (.imul, 0, 0, 0), (.iload_n 3, 3, 0, 0), (.iadd, 0, 0, 0), (.istore 8, 8, 0, 0),
  (.iconst 0, 0, 0, 0), (.istore 9, 9, 0, 0), (.iload 9, 9, 0, 0), (.iload 4, 4, 0, 0), (.iload 5, 5, 0, 0), (.imul, 0, 0, 0), (.if_icmp .ge 33, 70, 0, 0), (.aload_n 0, 0, 0, 0),
  (.getfield 71, 30, 9, 838), (.iload 8, 8, 0, 0), (.iload 9, 9, 0, 0), (.iadd, 0, 0, 0), (.iaload, 0, 0, 0), (.i2l, 0, 0, 0), (.lconst 0, 0, 0, 0), (.ldc2_w 95, 0, 916, 9),
  (.invokestatic 82, 125, 0, 913), (.ifCond .ne 6, 68, 0, 0), (.bipush (-2), 0, 0, -2), (.ireturn, 0, 0, 0), (.iinc 9 1, 9, 0, 1), (.goto (-37), 50, 0, 0), (.iconst 0, 0, 0, 0), (.istore 9, 9, 0, 0),
  (.iload 9, 9, 0, 0), (.iload 5, 5, 0, 0), (.if_icmp .ge 120, 133, 0, 0), (.iconst 0, 0, 0, 0), (.istore 10, 10, 0, 0), (.iconst 0, 0, 0, 0), (.istore 11, 11, 0, 0), (.iload 11, 11, 0, 0),
  (.bipush 10, 0, 0, 10), (.if_icmp .ge 101, 131, 0, 0), (.iconst 0, 0, 0, 0), (.istore 12, 12, 0, 0), (.iconst 0, 0, 0, 0), (.istore 13, 13, 0, 0), (.iload 13, 13, 0, 0), (.iload 4, 4, 0, 0),
  (.if_icmp .ge 40, 109, 0, 0), (.iload 12, 12, 0, 0), (.aload_n 0, 0, 0, 0), (.getfield 71, 30, 9, 838), (.iload 8, 8, 0, 0), (.iload 5, 5, 0, 0), (.iload 13, 13, 0, 0), (.imul, 0, 0, 0),
  (.iadd, 0, 0, 0), (.iload 9, 9, 0, 0), (.iadd, 0, 0, 0), (.iaload, 0, 0, 0), (.iload 11, 11, 0, 0), (.if_icmp .ne 7, 104, 0, 0), (.iconst 1, 0, 0, 1), (.goto 4, 105, 0, 0),
  (.iconst 0, 0, 0, 0), (.iadd, 0, 0, 0), (.istore 12, 12, 0, 0), (.iinc 13 1, 13, 0, 1), (.goto (-41), 86, 0, 0), (.aload_n 0, 0, 0, 0), (.getfield 59, 24, 9, 832), (.iload 9, 9, 0, 0),
  (.iload 12, 12, 0, 0), (.iload 10, 10, 0, 0), (.if_icmp .le 8, 117, 0, 0), (.iload 11, 11, 0, 0), (.goto 10, 121, 0, 0), (.aload_n 0, 0, 0, 0), (.getfield 59, 24, 9, 832), (.iload 9, 9, 0, 0),
  (.iaload, 0, 0, 0), (.iastore, 0, 0, 0), (.iload 12, 12, 0, 0), (.iload 10, 10, 0, 0), (.if_icmp .le 8, 127, 0, 0), (.iload 12, 12, 0, 0), (.goto 5, 128, 0, 0), (.iload 10, 10, 0, 0),
  (.istore 10, 10, 0, 0), (.iinc 11 1, 11, 0, 1), (.goto (-102), 79, 0, 0), (.iinc 9 1, 9, 0, 1), (.goto (-121), 72, 0, 0), (.iload 6, 6, 0, 0), (.ifCond .lt 11, 140, 0, 0), (.aload_n 0, 0, 0, 0),
  (.getfield 59, 24, 9, 832), (.iload 6, 6, 0, 0), (.iaload, 0, 0, 0), (.ireturn, 0, 0, 0), (.aload_n 0, 0, 0, 0), (.iload 5, 5, 0, 0), (.invokevirtual 213, 167, 0, 1089), (.pop, 0, 0, 0),
  (.aload_n 0, 0, 0, 0), (.getfield 202, 25, 9, 833), (.ireturn, 0, 0, 0)]
/-- StreetCriesModel.isSheet(I)Z -/
def jx_c183 : List (Instr × Nat × Nat × Int) := [(.iload_n 0, 0, 0, 0), (.i2l, 0, 0, 0), (.lconst 0, 0, 0, 0), (.ldc2_w 97, 0, 924, 3), (.invokestatic 82, 125, 0, 913), (.ireturn, 1, 0, 0)]
/-- StreetCriesModel.isLane(I)Z -/
def jx_c184 : List (Instr × Nat × Nat × Int) := [(.iload_n 0, 0, 0, 0), (.i2l, 0, 0, 0), (.lconst 0, 0, 0, 0), (.ldc2_w 194, 0, 1046, 2), (.invokestatic 82, 125, 0, 913), (.ireturn, 1, 0, 0)]
/-- StreetCriesModel.finds(IIII)I -/
def jx_c185 : List (Instr × Nat × Nat × Int) := [(.aload_n 0, 0, 0, 0), (.getfield 65, 28, 9, 836), (.iload_n 1, 1, 0, 0), (.iaload, 0, 0, 0), (.ifCond .ge 6, 7, 0, 0), (.bipush (-11), 0, 0, -11), (.ireturn, 0, 0, 0), (.aload_n 0, 0, 0, 0),
  (.getfield 65, 28, 9, 836), (.iload_n 1, 1, 0, 0), (.iaload, 0, 0, 0), (.iload_n 2, 2, 0, 0), (.if_icmp .eq 6, 15, 0, 0), (.bipush (-12), 0, 0, -12), (.ireturn, 0, 0, 0), (.iload_n 3, 3, 0, 0),
  (.ifCond .lt 20, 29, 0, 0), (.iload_n 3, 3, 0, 0), (.i2l, 0, 0, 0), (.iload 4, 4, 0, 0), (.i2l, 0, 0, 0), (.ladd, 0, 0, 0), (.aload_n 0, 0, 0, 0), (.getfield 68, 29, 9, 837),
  (.iload_n 1, 1, 0, 0), (.iaload, 0, 0, 0), (.i2l, 0, 0, 0), (.lcmp, 0, 0, 0), (.ifCond .le 8, 31, 0, 0), (.bipush (-13), 0, 0, -13), (.goto 4, 32, 0, 0), (.iconst 0, 0, 0, 0),
  (.ireturn, 0, 0, 0)]
/-- StreetCriesModel.came(IIIIII)I -/
def jx_c186 : List (Instr × Nat × Nat × Int) := [(.iload_n 1, 1, 0, 0), (.invokestatic 236, 183, 0, 1153), (.ifCond .eq 51, 27, 0, 0), (.iload_n 2, 2, 0, 0), (.invokestatic 239, 184, 0, 1156), (.ifCond .eq 44, 27, 0, 0), (.iload 4, 4, 0, 0), (.i2l, 0, 0, 0),
  (.lconst 1, 0, 0, 1), (.ldc2_w 102, 0, 929, 5), (.invokestatic 82, 125, 0, 913), (.ifCond .eq 31, 27, 0, 0), (.iload 5, 5, 0, 0), (.i2l, 0, 0, 0), (.lconst 1, 0, 0, 1), (.ldc2_w 242, 0, 1159, 6),
  (.invokestatic 82, 125, 0, 913), (.ifCond .eq 18, 27, 0, 0), (.iload 6, 6, 0, 0), (.i2l, 0, 0, 0), (.lconst 0, 0, 0, 0), (.iload 4, 4, 0, 0), (.iconst 1, 0, 0, 1), (.isub, 0, 0, 0),
  (.i2l, 0, 0, 0), (.invokestatic 82, 125, 0, 913), (.ifCond .ne 5, 29, 0, 0), (.iconst (-1), 0, 0, -1), (.ireturn, 0, 0, 0), (.aload_n 0, 0, 0, 0), (.iload_n 1, 1, 0, 0), (.iload_n 2, 2, 0, 0),
  (.iload_n 3, 3, 0, 0), (.iload 4, 4, 0, 0), (.iload 5, 5, 0, 0), (.iconst 1, 0, 0, 1), (.iadd, 0, 0, 0), (.imul, 0, 0, 0), (.invokevirtual 244, 185, 0, 1160), (.istore 7, 7, 0, 0),
  (.iload 7, 7, 0, 0), (.ifCond .ge 6, 44, 0, 0), (.iload 7, 7, 0, 0), (.ireturn, 0, 0, 0), (.bipush 24, 0, 0, 24), (.iload_n 1, 1, 0, 0), (.imul, 0, 0, 0), (.iload_n 3, 3, 0, 0),
  (.iadd, 0, 0, 0), (.istore 8, 8, 0, 0), (.iconst 0, 0, 0, 0), (.istore 9, 9, 0, 0), (.iload 9, 9, 0, 0), (.iload 4, 4, 0, 0), (.iload 5, 5, 0, 0), (.iconst 1, 0, 0, 1),
  (.iadd, 0, 0, 0), (.imul, 0, 0, 0), (.if_icmp .ge 43, 80, 0, 0), (.iload 9, 9, 0, 0), (.iload 5, 5, 0, 0), (.iconst 1, 0, 0, 1), (.iadd, 0, 0, 0), (.irem, 0, 0, 0),
  (.ifCond .le 27, 78, 0, 0), (.aload_n 0, 0, 0, 0), (.getfield 71, 30, 9, 838), (.iload 8, 8, 0, 0), (.iload 9, 9, 0, 0), (.iadd, 0, 0, 0), (.iaload, 0, 0, 0), (.i2l, 0, 0, 0),
  (.lconst 0, 0, 0, 0), (.ldc2_w 95, 0, 916, 9), (.invokestatic 82, 125, 0, 913), (.ifCond .ne 6, 78, 0, 0), (.bipush (-2), 0, 0, -2), (.ireturn, 0, 0, 0), (.iinc 9 1, 9, 0, 1), (.goto (-49), 52, 0, 0),
  (.iload 8, 8, 0, 0), (.iload 5, 5, 0, 0), (.iconst 1, 0, 0, 1), (.iadd, 0, 0, 0), (.iload 6, 6, 0, 0), (.imul, 0, 0, 0), (.iadd, 0, 0, 0), (.istore 9, 9, 0, 0),
  (.bipush (-4), 0, 0, -4), (.istore 10, 10, 0, 0), (.iconst 0, 0, 0, 0), (.istore 11, 11, 0, 0), (.iconst 0, 0, 0, 0), (.istore 12, 12, 0, 0), (.iload 12, 12, 0, 0), (.iload 4, 4, 0, 0),
  (.if_icmp .ge 110, 151, 0, 0), (.iload 8, 8, 0, 0), (.iload 5, 5, 0, 0), (.iconst 1, 0, 0, 1), (.iadd, 0, 0, 0), (.iload 12, 12, 0, 0), (.imul, 0, 0, 0), (.iadd, 0, 0, 0),
  (.istore 13, 13, 0, 0), (.aload_n 0, 0, 0, 0), (.getfield 71, 30, 9, 838), (.iload 9, 9, 0, 0), (.iconst 1, 0, 0, 1), (.iadd, 0, 0, 0), (.iload 5, 5, 0, 0), (.aload_n 0, 0, 0, 0),
  (.getfield 71, 30, 9, 838), (.iload 13, 13, 0, 0), (.iconst 1, 0, 0, 1), (.iadd, 0, 0, 0), (.iload 5, 5, 0, 0), (.invokestatic 169, 150, 0, 1019), (.istore 14, 14, 0, 0), (.aload_n 0, 0, 0, 0),
  (.getfield 71, 30, 9, 838), (.iload 13, 13, 0, 0), (.iaload, 0, 0, 0), (.aload_n 0, 0, 0, 0), (.getfield 71, 30, 9, 838), (.iload 9, 9, 0, 0), (.iaload, 0, 0, 0), (.if_icmp .ge 19, 135, 0, 0),
  (.iload 10, 10, 0, 0), (.ifCond .lt 10, 133, 0, 0), (.iload 14, 14, 0, 0), (.iload 11, 11, 0, 0), (.if_icmp .ge 7, 135, 0, 0), (.iconst 1, 0, 0, 1), (.goto 4, 136, 0, 0), (.iconst 0, 0, 0, 0),
  (.istore 15, 15, 0, 0), (.iload 15, 15, 0, 0), (.ifCond .eq 8, 141, 0, 0), (.iload 12, 12, 0, 0), (.goto 5, 142, 0, 0), (.iload 10, 10, 0, 0), (.istore 10, 10, 0, 0), (.iload 15, 15, 0, 0),
  (.ifCond .eq 8, 147, 0, 0), (.iload 14, 14, 0, 0), (.goto 5, 148, 0, 0), (.iload 11, 11, 0, 0), (.istore 11, 11, 0, 0), (.iinc 12 1, 12, 0, 1), (.goto (-111), 94, 0, 0), (.iload 10, 10, 0, 0),
  (.ireturn, 0, 0, 0)]
/-- StreetCriesModel.sheet(III)I -/
def jx_c187 : List (Instr × Nat × Nat × Int) := [(.iload_n 1, 1, 0, 0), (.invokestatic 236, 183, 0, 1153), (.ifCond .eq 16, 9, 0, 0), (.iload_n 2, 2, 0, 0), (.invokestatic 239, 184, 0, 1156), (.ifCond .eq 9, 9, 0, 0), (.iload_n 3, 3, 0, 0), (.bipush 24, 0, 0, 24),
  (.if_icmp .le 5, 11, 0, 0), (.iconst (-1), 0, 0, -1), (.ireturn, 0, 0, 0), (.iload_n 3, 3, 0, 0), (.ifCond .ge 6, 15, 0, 0), (.bipush (-14), 0, 0, -14), (.ireturn, 0, 0, 0), (.aload_n 0, 0, 0, 0),
  (.getfield 65, 28, 9, 836), (.iload_n 1, 1, 0, 0), (.iload_n 2, 2, 0, 0), (.iastore, 0, 0, 0), (.aload_n 0, 0, 0, 0), (.getfield 68, 29, 9, 837), (.iload_n 1, 1, 0, 0), (.iload_n 3, 3, 0, 0),
  (.iastore, 0, 0, 0), (.iconst 0, 0, 0, 0), (.istore 4, 4, 0, 0), (.iload 4, 4, 0, 0), (.bipush 24, 0, 0, 24), (.if_icmp .ge 22, 41, 0, 0), (.aload_n 0, 0, 0, 0), (.getfield 71, 30, 9, 838),
  (.bipush 24, 0, 0, 24), (.iload_n 1, 1, 0, 0), (.imul, 0, 0, 0), (.iload 4, 4, 0, 0), (.iadd, 0, 0, 0), (.iconst 0, 0, 0, 0), (.iastore, 0, 0, 0), (.iinc 4 1, 4, 0, 1),
  (.goto (-23), 27, 0, 0), (.iload_n 3, 3, 0, 0), (.ireturn, 0, 0, 0)]
/-- StreetCriesModel.drop(I)I -/
def jx_c188 : List (Instr × Nat × Nat × Int) := [(.iload_n 1, 1, 0, 0), (.invokestatic 236, 183, 0, 1153), (.ifCond .ne 5, 5, 0, 0), (.iconst (-1), 0, 0, -1), (.ireturn, 0, 0, 0), (.aload_n 0, 0, 0, 0), (.getfield 65, 28, 9, 836), (.iload_n 1, 1, 0, 0),
  (.iaload, 0, 0, 0), (.ifCond .ge 6, 12, 0, 0), (.bipush (-11), 0, 0, -11), (.ireturn, 0, 0, 0), (.aload_n 0, 0, 0, 0), (.getfield 65, 28, 9, 836), (.iload_n 1, 1, 0, 0), (.iconst (-1), 0, 0, -1),
  (.iastore, 0, 0, 0), (.aload_n 0, 0, 0, 0), (.getfield 68, 29, 9, 837), (.iload_n 1, 1, 0, 0), (.iaload, 0, 0, 0), (.ireturn, 0, 0, 0)]
/-- StreetCriesModel.item(IIII)I -/
def jx_c189 : List (Instr × Nat × Nat × Int) := [(.iload_n 1, 1, 0, 0), (.invokestatic 236, 183, 0, 1153), (.ifCond .eq 10, 6, 0, 0), (.iload_n 2, 2, 0, 0), (.invokestatic 239, 184, 0, 1156), (.ifCond .ne 5, 8, 0, 0), (.iconst (-1), 0, 0, -1), (.ireturn, 0, 0, 0),
  (.aload_n 0, 0, 0, 0), (.iload_n 1, 1, 0, 0), (.iload_n 2, 2, 0, 0), (.iload_n 3, 3, 0, 0), (.iconst 1, 0, 0, 1), (.invokevirtual 244, 185, 0, 1160), (.istore 5, 5, 0, 0), (.iload 5, 5, 0, 0),
  (.ifCond .ge 6, 19, 0, 0), (.iload 5, 5, 0, 0), (.ireturn, 0, 0, 0), (.aload_n 0, 0, 0, 0), (.getfield 71, 30, 9, 838), (.bipush 24, 0, 0, 24), (.iload_n 1, 1, 0, 0), (.imul, 0, 0, 0),
  (.iload_n 3, 3, 0, 0), (.iadd, 0, 0, 0), (.iload_n 2, 2, 0, 0), (.ifCond .ne 9, 31, 0, 0), (.iload 4, 4, 0, 0), (.i2b, 0, 0, 0), (.goto 16, 38, 0, 0), (.iload_n 2, 2, 0, 0),
  (.iconst 1, 0, 0, 1), (.if_icmp .ne 9, 37, 0, 0), (.iload 4, 4, 0, 0), (.i2s, 0, 0, 0), (.goto 5, 38, 0, 0), (.iload 4, 4, 0, 0), (.iastore, 0, 0, 0), (.iconst 1, 0, 0, 1),
  (.ireturn, 0, 0, 0)]
/-- StreetCriesModel.copy(IIIII)I -/
def jx_c190 : List (Instr × Nat × Nat × Int) := [(.iload_n 1, 1, 0, 0), (.invokestatic 236, 183, 0, 1153), (.ifCond .eq 10, 6, 0, 0), (.iload_n 3, 3, 0, 0), (.invokestatic 236, 183, 0, 1153), (.ifCond .ne 5, 8, 0, 0), (.iconst (-1), 0, 0, -1), (.ireturn, 0, 0, 0),
  (.aload_n 0, 0, 0, 0), (.getfield 65, 28, 9, 836), (.iload_n 1, 1, 0, 0), (.iaload, 0, 0, 0), (.ifCond .lt 12, 18, 0, 0), (.aload_n 0, 0, 0, 0), (.getfield 65, 28, 9, 836), (.iload_n 3, 3, 0, 0),
  (.iaload, 0, 0, 0), (.ifCond .ge 6, 20, 0, 0), (.bipush (-11), 0, 0, -11), (.ireturn, 0, 0, 0), (.aload_n 0, 0, 0, 0), (.getfield 65, 28, 9, 836), (.iload_n 1, 1, 0, 0), (.iaload, 0, 0, 0),
  (.aload_n 0, 0, 0, 0), (.getfield 65, 28, 9, 836), (.iload_n 3, 3, 0, 0), (.iaload, 0, 0, 0), (.if_icmp .eq 6, 31, 0, 0), (.bipush (-12), 0, 0, -12), (.ireturn, 0, 0, 0), (.iload 5, 5, 0, 0),
  (.ifCond .lt 38, 53, 0, 0), (.aload_n 0, 0, 0, 0), (.iload_n 1, 1, 0, 0), (.aload_n 0, 0, 0, 0), (.getfield 65, 28, 9, 836), (.iload_n 1, 1, 0, 0), (.iaload, 0, 0, 0), (.iload_n 2, 2, 0, 0),
  (.iload 5, 5, 0, 0), (.invokevirtual 244, 185, 0, 1160), (.ifCond .lt 21, 53, 0, 0), (.aload_n 0, 0, 0, 0), (.iload_n 3, 3, 0, 0), (.aload_n 0, 0, 0, 0), (.getfield 65, 28, 9, 836), (.iload_n 3, 3, 0, 0),
  (.iaload, 0, 0, 0), (.iload 4, 4, 0, 0), (.iload 5, 5, 0, 0), (.invokevirtual 244, 185, 0, 1160), (.ifCond .ge 6, 55, 0, 0), (.bipush (-13), 0, 0, -13), (.ireturn, 0, 0, 0), (.iconst 0, 0, 0, 0),
  (.istore 6, 6, 0, 0), (.iload 6, 6, 0, 0), (.iload 5, 5, 0, 0), (.if_icmp .ge 30, 76, 0, 0), (.aload_n 0, 0, 0, 0), (.getfield 74, 31, 9, 839), (.iload 6, 6, 0, 0), (.aload_n 0, 0, 0, 0),
  (.getfield 71, 30, 9, 838), (.bipush 24, 0, 0, 24), (.iload_n 1, 1, 0, 0), (.imul, 0, 0, 0), (.iload_n 2, 2, 0, 0), (.iadd, 0, 0, 0), (.iload 6, 6, 0, 0), (.iadd, 0, 0, 0),
  (.iaload, 0, 0, 0), (.iastore, 0, 0, 0), (.iinc 6 1, 6, 0, 1), (.goto (-31), 57, 0, 0), (.iconst 0, 0, 0, 0), (.istore 6, 6, 0, 0), (.iload 6, 6, 0, 0), (.iload 5, 5, 0, 0),
  (.if_icmp .ge 31, 97, 0, 0), (.aload_n 0, 0, 0, 0), (.getfield 71, 30, 9, 838), (.bipush 24, 0, 0, 24), (.iload_n 3, 3, 0, 0), (.imul, 0, 0, 0), (.iload 4, 4, 0, 0), (.iadd, 0, 0, 0),
  (.iload 6, 6, 0, 0), (.iadd, 0, 0, 0), (.aload_n 0, 0, 0, 0), (.getfield 74, 31, 9, 839), (.iload 6, 6, 0, 0), (.iaload, 0, 0, 0), (.iastore, 0, 0, 0), (.iinc 6 1, 6, 0, 1),
  (.goto (-32), 78, 0, 0), (.iload 5, 5, 0, 0), (.ireturn, 0, 0, 0)]
/-- StreetCriesLaw.law([I)Z -/
def jx_c191 : List (Instr × Nat × Nat × Int) := [(.new 7, 8, 0, 48), (.dup, 0, 0, 0), (.invokespecial 9, 0, 0, 50), (.astore_n 1, 1, 0, 0), (.new 10, 9, 0, 802), (.dup, 0, 0, 0), (.invokespecial 12, 122, 0, 804), (.astore_n 2, 2, 0, 0),
  (.iconst 0, 0, 0, 0), (.istore_n 3, 3, 0, 0), (.iload_n 3, 3, 0, 0), (.aload_n 0, 0, 0, 0), (.arraylength, 0, 0, 0), (.bipush 7, 0, 0, 7), (.isub, 0, 0, 0), (.if_icmp .gt 1562, 1150, 0, 0),
  (.aload_n 0, 0, 0, 0), (.iload_n 3, 3, 0, 0), (.iaload, 0, 0, 0), (.bipush 63, 0, 0, 63), (.iand, 0, 0, 0), (.tableswitch 1547 0 37 #[167, 200, 243, 286, 349, 362, 385, 408, 451, 484, 507, 540, 573, 596, 645, 668, 721, 754, 777, 800, 833, 876, 929, 952, 985, 1018, 1077, 1110, 1123, 1156, 1189, 1202, 1215, 1290, 1365, 1408, 1431, 1484], 1, 1148, 0), (.aload_n 1, 1, 0, 0), (.aload_n 0, 0, 0, 0),
  (.iload_n 3, 3, 0, 0), (.iconst 1, 0, 0, 1), (.iadd, 0, 0, 0), (.iaload, 0, 0, 0), (.aload_n 0, 0, 0, 0), (.iload_n 3, 3, 0, 0), (.iconst 2, 0, 0, 2), (.iadd, 0, 0, 0),
  (.iaload, 0, 0, 0), (.invokevirtual 13, 10, 0, 327), (.aload_n 2, 2, 0, 0), (.aload_n 0, 0, 0, 0), (.iload_n 3, 3, 0, 0), (.iconst 1, 0, 0, 1), (.iadd, 0, 0, 0), (.iaload, 0, 0, 0),
  (.aload_n 0, 0, 0, 0), (.iload_n 3, 3, 0, 0), (.iconst 2, 0, 0, 2), (.iadd, 0, 0, 0), (.iaload, 0, 0, 0), (.invokevirtual 17, 123, 0, 905), (.if_icmp .eq 1352, 1148, 0, 0), (.iconst 0, 0, 0, 0),
  (.ireturn, 1, 0, 0), (.aload_n 1, 1, 0, 0), (.aload_n 0, 0, 0, 0), (.iload_n 3, 3, 0, 0), (.iconst 1, 0, 0, 1), (.iadd, 0, 0, 0), (.iaload, 0, 0, 0), (.aload_n 0, 0, 0, 0),
  (.iload_n 3, 3, 0, 0), (.iconst 2, 0, 0, 2), (.iadd, 0, 0, 0), (.iaload, 0, 0, 0), (.aload_n 0, 0, 0, 0), (.iload_n 3, 3, 0, 0), (.iconst 3, 0, 0, 3), (.iadd, 0, 0, 0),
  (.iaload, 0, 0, 0), (.invokevirtual 18, 13, 0, 337), (.aload_n 2, 2, 0, 0), (.aload_n 0, 0, 0, 0), (.iload_n 3, 3, 0, 0), (.iconst 1, 0, 0, 1), (.iadd, 0, 0, 0), (.iaload, 0, 0, 0),
  (.aload_n 0, 0, 0, 0), (.iload_n 3, 3, 0, 0), (.iconst 2, 0, 0, 2), (.iadd, 0, 0, 0), (.iaload, 0, 0, 0), (.aload_n 0, 0, 0, 0), (.iload_n 3, 3, 0, 0), (.iconst 3, 0, 0, 3),
  (.iadd, 0, 0, 0), (.iaload, 0, 0, 0), (.invokevirtual 22, 126, 0, 917), (.if_icmp .eq 1309, 1148, 0, 0), (.iconst 0, 0, 0, 0), (.ireturn, 1, 0, 0), (.aload_n 1, 1, 0, 0), (.aload_n 0, 0, 0, 0),
  (.iload_n 3, 3, 0, 0), (.iconst 1, 0, 0, 1), (.iadd, 0, 0, 0), (.iaload, 0, 0, 0), (.aload_n 0, 0, 0, 0), (.iload_n 3, 3, 0, 0), (.iconst 2, 0, 0, 2), (.iadd, 0, 0, 0),
  (.iaload, 0, 0, 0), (.aload_n 0, 0, 0, 0), (.iload_n 3, 3, 0, 0), (.iconst 3, 0, 0, 3), (.iadd, 0, 0, 0), (.iaload, 0, 0, 0), (.invokevirtual 23, 18, 0, 354), (.aload_n 2, 2, 0, 0),
  (.aload_n 0, 0, 0, 0), (.iload_n 3, 3, 0, 0), (.iconst 1, 0, 0, 1), (.iadd, 0, 0, 0), (.iaload, 0, 0, 0), (.aload_n 0, 0, 0, 0), (.iload_n 3, 3, 0, 0), (.iconst 2, 0, 0, 2),
  (.iadd, 0, 0, 0), (.iaload, 0, 0, 0), (.aload_n 0, 0, 0, 0), (.iload_n 3, 3, 0, 0), (.iconst 3, 0, 0, 3), (.iadd, 0, 0, 0), (.iaload, 0, 0, 0), (.invokevirtual 26, 129, 0, 930),
  (.if_icmp .eq 1266, 1148, 0, 0), (.iconst 0, 0, 0, 0), (.ireturn, 1, 0, 0), (.aload_n 1, 1, 0, 0), (.aload_n 0, 0, 0, 0), (.iload_n 3, 3, 0, 0), (.iconst 1, 0, 0, 1), (.iadd, 0, 0, 0),
  (.iaload, 0, 0, 0), (.i2l, 0, 0, 0), (.bipush 32, 0, 0, 32), (.lshl, 0, 0, 0), (.aload_n 0, 0, 0, 0), (.iload_n 3, 3, 0, 0), (.iconst 2, 0, 0, 2), (.iadd, 0, 0, 0),
  (.iaload, 0, 0, 0), (.i2l, 0, 0, 0), (.ldc2_w 27, 0, 1184, 4294967295), (.land, 0, 0, 0), (.lor, 0, 0, 0), (.aload_n 0, 0, 0, 0), (.iload_n 3, 3, 0, 0), (.iconst 3, 0, 0, 3),
  (.iadd, 0, 0, 0), (.iaload, 0, 0, 0), (.invokevirtual 29, 22, 0, 372), (.aload_n 2, 2, 0, 0), (.aload_n 0, 0, 0, 0), (.iload_n 3, 3, 0, 0), (.iconst 1, 0, 0, 1), (.iadd, 0, 0, 0),
  (.iaload, 0, 0, 0), (.i2l, 0, 0, 0), (.bipush 32, 0, 0, 32), (.lshl, 0, 0, 0), (.aload_n 0, 0, 0, 0), (.iload_n 3, 3, 0, 0), (.iconst 2, 0, 0, 2), (.iadd, 0, 0, 0),
  (.iaload, 0, 0, 0), (.i2l, 0, 0, 0), (.ldc2_w 27, 0, 1184, 4294967295), (.land, 0, 0, 0), (.lor, 0, 0, 0), (.aload_n 0, 0, 0, 0), (.iload_n 3, 3, 0, 0), (.iconst 3, 0, 0, 3),
  (.iadd, 0, 0, 0), (.iaload, 0, 0, 0), (.invokevirtual 33, 131, 0, 938), (.if_icmp .eq 1203, 1148, 0, 0), (.iconst 0, 0, 0, 0), (.ireturn, 1, 0, 0), (.aload_n 1, 1, 0, 0), (.invokevirtual 34, 26, 0, 386),
  (.aload_n 2, 2, 0, 0), (.invokevirtual 38, 132, 0, 946), (.if_icmp .eq 1190, 1148, 0, 0), (.iconst 0, 0, 0, 0), (.ireturn, 1, 0, 0), (.aload_n 1, 1, 0, 0), (.aload_n 0, 0, 0, 0), (.iload_n 3, 3, 0, 0),
  (.iconst 1, 0, 0, 1), (.iadd, 0, 0, 0), (.iaload, 0, 0, 0), (.invokevirtual 39, 30, 0, 402), (.aload_n 2, 2, 0, 0), (.aload_n 0, 0, 0, 0), (.iload_n 3, 3, 0, 0), (.iconst 1, 0, 0, 1),
  (.iadd, 0, 0, 0), (.iaload, 0, 0, 0), (.invokevirtual 43, 136, 0, 964), (.if_icmp .eq 1167, 1148, 0, 0), (.iconst 0, 0, 0, 0), (.ireturn, 1, 0, 0), (.aload_n 1, 1, 0, 0), (.aload_n 0, 0, 0, 0),
  (.iload_n 3, 3, 0, 0), (.iconst 1, 0, 0, 1), (.iadd, 0, 0, 0), (.iaload, 0, 0, 0), (.invokevirtual 44, 39, 0, 437), (.aload_n 2, 2, 0, 0), (.aload_n 0, 0, 0, 0), (.iload_n 3, 3, 0, 0),
  (.iconst 1, 0, 0, 1), (.iadd, 0, 0, 0), (.iaload, 0, 0, 0), (.invokevirtual 47, 139, 0, 975), (.if_icmp .eq 1144, 1148, 0, 0), (.iconst 0, 0, 0, 0), (.ireturn, 1, 0, 0), (.aload_n 1, 1, 0, 0),
  (.aload_n 0, 0, 0, 0), (.iload_n 3, 3, 0, 0), (.iconst 1, 0, 0, 1), (.iadd, 0, 0, 0), (.iaload, 0, 0, 0), (.aload_n 0, 0, 0, 0), (.iload_n 3, 3, 0, 0), (.iconst 2, 0, 0, 2),
  (.iadd, 0, 0, 0), (.iaload, 0, 0, 0), (.aload_n 0, 0, 0, 0), (.iload_n 3, 3, 0, 0), (.iconst 3, 0, 0, 3), (.iadd, 0, 0, 0), (.iaload, 0, 0, 0), (.invokevirtual 48, 41, 0, 445),
  (.aload_n 2, 2, 0, 0), (.aload_n 0, 0, 0, 0), (.iload_n 3, 3, 0, 0), (.iconst 1, 0, 0, 1), (.iadd, 0, 0, 0), (.iaload, 0, 0, 0), (.aload_n 0, 0, 0, 0), (.iload_n 3, 3, 0, 0),
  (.iconst 2, 0, 0, 2), (.iadd, 0, 0, 0), (.iaload, 0, 0, 0), (.aload_n 0, 0, 0, 0), (.iload_n 3, 3, 0, 0), (.iconst 3, 0, 0, 3), (.iadd, 0, 0, 0), (.iaload, 0, 0, 0),
  (.invokevirtual 51, 140, 0, 979), (.if_icmp .eq 1101, 1148, 0, 0), (.iconst 0, 0, 0, 0), (.ireturn, 1, 0, 0), (.aload_n 1, 1, 0, 0), (.aload_n 0, 0, 0, 0), (.iload_n 3, 3, 0, 0), (.iconst 1, 0, 0, 1),
  (.iadd, 0, 0, 0), (.iaload, 0, 0, 0), (.aload_n 0, 0, 0, 0), (.iload_n 3, 3, 0, 0), (.iconst 2, 0, 0, 2), (.iadd, 0, 0, 0), (.iaload, 0, 0, 0), (.invokevirtual 52, 42, 0, 449),
  (.aload_n 2, 2, 0, 0), (.aload_n 0, 0, 0, 0), (.iload_n 3, 3, 0, 0), (.iconst 1, 0, 0, 1), (.iadd, 0, 0, 0), (.iaload, 0, 0, 0), (.aload_n 0, 0, 0, 0), (.iload_n 3, 3, 0, 0),
  (.iconst 2, 0, 0, 2), (.iadd, 0, 0, 0), (.iaload, 0, 0, 0), (.invokevirtual 55, 141, 0, 983), (.if_icmp .eq 1068, 1148, 0, 0), (.iconst 0, 0, 0, 0), (.ireturn, 1, 0, 0), (.aload_n 1, 1, 0, 0),
  (.aload_n 0, 0, 0, 0), (.iload_n 3, 3, 0, 0), (.iconst 1, 0, 0, 1), (.iadd, 0, 0, 0), (.iaload, 0, 0, 0), (.invokevirtual 56, 44, 0, 458), (.aload_n 2, 2, 0, 0), (.aload_n 0, 0, 0, 0),
  (.iload_n 3, 3, 0, 0), (.iconst 1, 0, 0, 1), (.iadd, 0, 0, 0), (.iaload, 0, 0, 0), (.invokevirtual 59, 143, 0, 991), (.if_icmp .eq 1045, 1148, 0, 0), (.iconst 0, 0, 0, 0), (.ireturn, 1, 0, 0),
  (.aload_n 1, 1, 0, 0), (.aload_n 0, 0, 0, 0), (.iload_n 3, 3, 0, 0), (.iconst 1, 0, 0, 1), (.iadd, 0, 0, 0), (.iaload, 0, 0, 0), (.aload_n 0, 0, 0, 0), (.iload_n 3, 3, 0, 0),
  (.iconst 2, 0, 0, 2), (.iadd, 0, 0, 0), (.iaload, 0, 0, 0), (.invokevirtual 60, 46, 0, 466), (.aload_n 2, 2, 0, 0), (.aload_n 0, 0, 0, 0), (.iload_n 3, 3, 0, 0), (.iconst 1, 0, 0, 1),
  (.iadd, 0, 0, 0), (.iaload, 0, 0, 0), (.aload_n 0, 0, 0, 0), (.iload_n 3, 3, 0, 0), (.iconst 2, 0, 0, 2), (.iadd, 0, 0, 0), (.iaload, 0, 0, 0), (.invokevirtual 63, 145, 0, 999),
  (.if_icmp .eq 1012, 1148, 0, 0), (.iconst 0, 0, 0, 0), (.ireturn, 1, 0, 0), (.aload_n 1, 1, 0, 0), (.aload_n 0, 0, 0, 0), (.iload_n 3, 3, 0, 0), (.iconst 1, 0, 0, 1), (.iadd, 0, 0, 0),
  (.iaload, 0, 0, 0), (.aload_n 0, 0, 0, 0), (.iload_n 3, 3, 0, 0), (.iconst 2, 0, 0, 2), (.iadd, 0, 0, 0), (.iaload, 0, 0, 0), (.invokevirtual 64, 53, 0, 499), (.aload_n 2, 2, 0, 0),
  (.aload_n 0, 0, 0, 0), (.iload_n 3, 3, 0, 0), (.iconst 1, 0, 0, 1), (.iadd, 0, 0, 0), (.iaload, 0, 0, 0), (.aload_n 0, 0, 0, 0), (.iload_n 3, 3, 0, 0), (.iconst 2, 0, 0, 2),
  (.iadd, 0, 0, 0), (.iaload, 0, 0, 0), (.invokevirtual 67, 148, 0, 1011), (.if_icmp .eq 979, 1148, 0, 0), (.iconst 0, 0, 0, 0), (.ireturn, 1, 0, 0), (.aload_n 1, 1, 0, 0), (.aload_n 0, 0, 0, 0),
  (.iload_n 3, 3, 0, 0), (.iconst 1, 0, 0, 1), (.iadd, 0, 0, 0), (.iaload, 0, 0, 0), (.invokevirtual 68, 55, 0, 508), (.aload_n 2, 2, 0, 0), (.aload_n 0, 0, 0, 0), (.iload_n 3, 3, 0, 0),
  (.iconst 1, 0, 0, 1), (.iadd, 0, 0, 0), (.iaload, 0, 0, 0), (.invokevirtual 71, 151, 0, 1022), (.if_icmp .eq 956, 1148, 0, 0), (.iconst 0, 0, 0, 0), (.ireturn, 1, 0, 0), (.aload_n 1, 1, 0, 0),
  (.aload_n 0, 0, 0, 0), (.iload_n 3, 3, 0, 0), (.iconst 1, 0, 0, 1), (.iadd, 0, 0, 0), (.iaload, 0, 0, 0), (.aload_n 0, 0, 0, 0), (.iload_n 3, 3, 0, 0), (.iconst 2, 0, 0, 2),
  (.iadd, 0, 0, 0), (.iaload, 0, 0, 0), (.ifCond .eq 7, 381, 0, 0), (.iconst 1, 0, 0, 1), (.goto 4, 382, 0, 0), (.iconst 0, 0, 0, 0), (.invokevirtual 72, 56, 0, 512), (.aload_n 2, 2, 0, 0),
  (.aload_n 0, 0, 0, 0), (.iload_n 3, 3, 0, 0), (.iconst 1, 0, 0, 1), (.iadd, 0, 0, 0), (.iaload, 0, 0, 0), (.aload_n 0, 0, 0, 0), (.iload_n 3, 3, 0, 0), (.iconst 2, 0, 0, 2),
  (.iadd, 0, 0, 0), (.iaload, 0, 0, 0), (.ifCond .eq 7, 397, 0, 0), (.iconst 1, 0, 0, 1), (.goto 4, 398, 0, 0), (.iconst 0, 0, 0, 0), (.invokevirtual 76, 152, 0, 1027), (.if_icmp .eq 907, 1148, 0, 0),
  (.iconst 0, 0, 0, 0), (.ireturn, 1, 0, 0), (.aload_n 1, 1, 0, 0), (.aload_n 0, 0, 0, 0), (.iload_n 3, 3, 0, 0), (.iconst 1, 0, 0, 1), (.iadd, 0, 0, 0), (.iaload, 0, 0, 0),
  (.invokevirtual 77, 58, 0, 519), (.aload_n 2, 2, 0, 0), (.aload_n 0, 0, 0, 0), (.iload_n 3, 3, 0, 0), (.iconst 1, 0, 0, 1), (.iadd, 0, 0, 0), (.iaload, 0, 0, 0), (.invokevirtual 80, 153, 0, 1031),
  (.if_icmp .eq 884, 1148, 0, 0), (.iconst 0, 0, 0, 0), (.ireturn, 1, 0, 0), (.aload_n 1, 1, 0, 0), (.aload_n 0, 0, 0, 0), (.iload_n 3, 3, 0, 0), (.iconst 1, 0, 0, 1), (.iadd, 0, 0, 0),
  (.iaload, 0, 0, 0), (.aload_n 0, 0, 0, 0), (.iload_n 3, 3, 0, 0), (.iconst 2, 0, 0, 2), (.iadd, 0, 0, 0), (.iaload, 0, 0, 0), (.aload_n 0, 0, 0, 0), (.iload_n 3, 3, 0, 0),
  (.iconst 3, 0, 0, 3), (.iadd, 0, 0, 0), (.iaload, 0, 0, 0), (.aload_n 0, 0, 0, 0), (.iload_n 3, 3, 0, 0), (.iconst 4, 0, 0, 4), (.iadd, 0, 0, 0), (.iaload, 0, 0, 0),
  (.invokevirtual 81, 60, 0, 529), (.aload_n 2, 2, 0, 0), (.aload_n 0, 0, 0, 0), (.iload_n 3, 3, 0, 0), (.iconst 1, 0, 0, 1), (.iadd, 0, 0, 0), (.iaload, 0, 0, 0), (.aload_n 0, 0, 0, 0),
  (.iload_n 3, 3, 0, 0), (.iconst 2, 0, 0, 2), (.iadd, 0, 0, 0), (.iaload, 0, 0, 0), (.aload_n 0, 0, 0, 0), (.iload_n 3, 3, 0, 0), (.iconst 3, 0, 0, 3), (.iadd, 0, 0, 0),
  (.iaload, 0, 0, 0), (.aload_n 0, 0, 0, 0), (.iload_n 3, 3, 0, 0), (.iconst 4, 0, 0, 4), (.iadd, 0, 0, 0), (.iaload, 0, 0, 0), (.invokevirtual 85, 155, 0, 1038), (.if_icmp .eq 831, 1148, 0, 0),
  (.iconst 0, 0, 0, 0), (.ireturn, 1, 0, 0), (.aload_n 1, 1, 0, 0), (.aload_n 0, 0, 0, 0), (.iload_n 3, 3, 0, 0), (.iconst 1, 0, 0, 1), (.iadd, 0, 0, 0), (.iaload, 0, 0, 0),
  (.aload_n 0, 0, 0, 0), (.iload_n 3, 3, 0, 0), (.iconst 2, 0, 0, 2), (.iadd, 0, 0, 0), (.iaload, 0, 0, 0), (.invokevirtual 86, 62, 0, 537), (.aload_n 2, 2, 0, 0), (.aload_n 0, 0, 0, 0),
  (.iload_n 3, 3, 0, 0), (.iconst 1, 0, 0, 1), (.iadd, 0, 0, 0), (.iaload, 0, 0, 0), (.aload_n 0, 0, 0, 0), (.iload_n 3, 3, 0, 0), (.iconst 2, 0, 0, 2), (.iadd, 0, 0, 0),
  (.iaload, 0, 0, 0), (.invokevirtual 89, 156, 0, 1042), (.if_icmp .eq 798, 1148, 0, 0), (.iconst 0, 0, 0, 0), (.ireturn, 1, 0, 0), (.aload_n 1, 1, 0, 0), (.aload_n 0, 0, 0, 0), (.iload_n 3, 3, 0, 0),
  (.iconst 1, 0, 0, 1), (.iadd, 0, 0, 0), (.iaload, 0, 0, 0), (.invokevirtual 90, 69, 0, 570), (.aload_n 2, 2, 0, 0), (.aload_n 0, 0, 0, 0), (.iload_n 3, 3, 0, 0), (.iconst 1, 0, 0, 1),
  (.iadd, 0, 0, 0), (.iaload, 0, 0, 0), (.invokevirtual 93, 160, 0, 1059), (.if_icmp .eq 775, 1148, 0, 0), (.iconst 0, 0, 0, 0), (.ireturn, 1, 0, 0), (.aload_n 1, 1, 0, 0), (.aload_n 0, 0, 0, 0),
  (.iload_n 3, 3, 0, 0), (.iconst 1, 0, 0, 1), (.iadd, 0, 0, 0), (.iaload, 0, 0, 0), (.invokevirtual 94, 71, 0, 578), (.aload_n 2, 2, 0, 0), (.aload_n 0, 0, 0, 0), (.iload_n 3, 3, 0, 0),
  (.iconst 1, 0, 0, 1), (.iadd, 0, 0, 0), (.iaload, 0, 0, 0), (.invokevirtual 97, 162, 0, 1067), (.if_icmp .eq 752, 1148, 0, 0), (.iconst 0, 0, 0, 0), (.ireturn, 1, 0, 0), (.aload_n 1, 1, 0, 0),
  (.aload_n 0, 0, 0, 0), (.iload_n 3, 3, 0, 0), (.iconst 1, 0, 0, 1), (.iadd, 0, 0, 0), (.iaload, 0, 0, 0), (.aload_n 0, 0, 0, 0), (.iload_n 3, 3, 0, 0), (.iconst 2, 0, 0, 2),
  (.iadd, 0, 0, 0), (.iaload, 0, 0, 0), (.invokevirtual 98, 74, 0, 590), (.aload_n 2, 2, 0, 0), (.aload_n 0, 0, 0, 0), (.iload_n 3, 3, 0, 0), (.iconst 1, 0, 0, 1), (.iadd, 0, 0, 0),
  (.iaload, 0, 0, 0), (.aload_n 0, 0, 0, 0), (.iload_n 3, 3, 0, 0), (.iconst 2, 0, 0, 2), (.iadd, 0, 0, 0), (.iaload, 0, 0, 0), (.invokevirtual 101, 163, 0, 1071), (.if_icmp .eq 719, 1148, 0, 0),
  (.iconst 0, 0, 0, 0), (.ireturn, 1, 0, 0), (.aload_n 1, 1, 0, 0), (.aload_n 0, 0, 0, 0), (.iload_n 3, 3, 0, 0), (.iconst 1, 0, 0, 1), (.iadd, 0, 0, 0), (.iaload, 0, 0, 0),
  (.aload_n 0, 0, 0, 0), (.iload_n 3, 3, 0, 0), (.iconst 2, 0, 0, 2), (.iadd, 0, 0, 0), (.iaload, 0, 0, 0), (.aload_n 0, 0, 0, 0), (.iload_n 3, 3, 0, 0), (.iconst 3, 0, 0, 3),
  (.iadd, 0, 0, 0), (.iaload, 0, 0, 0), (.invokevirtual 102, 80, 0, 622), (.aload_n 2, 2, 0, 0), (.aload_n 0, 0, 0, 0), (.iload_n 3, 3, 0, 0), (.iconst 1, 0, 0, 1), (.iadd, 0, 0, 0),
  (.iaload, 0, 0, 0), (.aload_n 0, 0, 0, 0), (.iload_n 3, 3, 0, 0), (.iconst 2, 0, 0, 2), (.iadd, 0, 0, 0), (.iaload, 0, 0, 0), (.aload_n 0, 0, 0, 0), (.iload_n 3, 3, 0, 0),
  (.iconst 3, 0, 0, 3), (.iadd, 0, 0, 0), (.iaload, 0, 0, 0), (.invokevirtual 105, 164, 0, 1075), (.if_icmp .eq 676, 1148, 0, 0), (.iconst 0, 0, 0, 0), (.ireturn, 1, 0, 0), (.aload_n 1, 1, 0, 0),
  (.aload_n 0, 0, 0, 0), (.iload_n 3, 3, 0, 0), (.iconst 1, 0, 0, 1), (.iadd, 0, 0, 0), (.iaload, 0, 0, 0), (.aload_n 0, 0, 0, 0), (.iload_n 3, 3, 0, 0), (.iconst 2, 0, 0, 2),
  (.iadd, 0, 0, 0), (.iaload, 0, 0, 0), (.aload_n 0, 0, 0, 0), (.iload_n 3, 3, 0, 0), (.iconst 3, 0, 0, 3), (.iadd, 0, 0, 0), (.iaload, 0, 0, 0), (.aload_n 0, 0, 0, 0),
  (.iload_n 3, 3, 0, 0), (.iconst 4, 0, 0, 4), (.iadd, 0, 0, 0), (.iaload, 0, 0, 0), (.invokevirtual 106, 84, 0, 638), (.aload_n 2, 2, 0, 0), (.aload_n 0, 0, 0, 0), (.iload_n 3, 3, 0, 0),
  (.iconst 1, 0, 0, 1), (.iadd, 0, 0, 0), (.iaload, 0, 0, 0), (.aload_n 0, 0, 0, 0), (.iload_n 3, 3, 0, 0), (.iconst 2, 0, 0, 2), (.iadd, 0, 0, 0), (.iaload, 0, 0, 0),
  (.aload_n 0, 0, 0, 0), (.iload_n 3, 3, 0, 0), (.iconst 3, 0, 0, 3), (.iadd, 0, 0, 0), (.iaload, 0, 0, 0), (.aload_n 0, 0, 0, 0), (.iload_n 3, 3, 0, 0), (.iconst 4, 0, 0, 4),
  (.iadd, 0, 0, 0), (.iaload, 0, 0, 0), (.invokevirtual 109, 165, 0, 1079), (.if_icmp .eq 623, 1148, 0, 0), (.iconst 0, 0, 0, 0), (.ireturn, 1, 0, 0), (.aload_n 1, 1, 0, 0), (.aload_n 0, 0, 0, 0),
  (.iload_n 3, 3, 0, 0), (.iconst 1, 0, 0, 1), (.iadd, 0, 0, 0), (.iaload, 0, 0, 0), (.invokevirtual 110, 89, 0, 658), (.aload_n 2, 2, 0, 0), (.aload_n 0, 0, 0, 0), (.iload_n 3, 3, 0, 0),
  (.iconst 1, 0, 0, 1), (.iadd, 0, 0, 0), (.iaload, 0, 0, 0), (.invokevirtual 113, 168, 0, 1093), (.if_icmp .eq 600, 1148, 0, 0), (.iconst 0, 0, 0, 0), (.ireturn, 1, 0, 0), (.aload_n 1, 1, 0, 0),
  (.aload_n 0, 0, 0, 0), (.iload_n 3, 3, 0, 0), (.iconst 1, 0, 0, 1), (.iadd, 0, 0, 0), (.iaload, 0, 0, 0), (.aload_n 0, 0, 0, 0), (.iload_n 3, 3, 0, 0), (.iconst 2, 0, 0, 2),
  (.iadd, 0, 0, 0), (.iaload, 0, 0, 0), (.invokevirtual 114, 92, 0, 671), (.aload_n 2, 2, 0, 0), (.aload_n 0, 0, 0, 0), (.iload_n 3, 3, 0, 0), (.iconst 1, 0, 0, 1), (.iadd, 0, 0, 0),
  (.iaload, 0, 0, 0), (.aload_n 0, 0, 0, 0), (.iload_n 3, 3, 0, 0), (.iconst 2, 0, 0, 2), (.iadd, 0, 0, 0), (.iaload, 0, 0, 0), (.invokevirtual 117, 170, 0, 1101), (.if_icmp .eq 567, 1148, 0, 0),
  (.iconst 0, 0, 0, 0), (.ireturn, 1, 0, 0), (.aload_n 1, 1, 0, 0), (.aload_n 0, 0, 0, 0), (.iload_n 3, 3, 0, 0), (.iconst 1, 0, 0, 1), (.iadd, 0, 0, 0), (.iaload, 0, 0, 0),
  (.aload_n 0, 0, 0, 0), (.iload_n 3, 3, 0, 0), (.iconst 2, 0, 0, 2), (.iadd, 0, 0, 0), (.iaload, 0, 0, 0), (.invokevirtual 118, 94, 0, 681), (.aload_n 2, 2, 0, 0), (.aload_n 0, 0, 0, 0),
  (.iload_n 3, 3, 0, 0), (.iconst 1, 0, 0, 1), (.iadd, 0, 0, 0), (.iaload, 0, 0, 0), (.aload_n 0, 0, 0, 0), (.iload_n 3, 3, 0, 0), (.iconst 2, 0, 0, 2), (.iadd, 0, 0, 0),
  (.iaload, 0, 0, 0), (.invokevirtual 121, 171, 0, 1106), (.if_icmp .eq 534, 1148, 0, 0), (.iconst 0, 0, 0, 0), (.ireturn, 1, 0, 0), (.aload_n 1, 1, 0, 0), (.aload_n 0, 0, 0, 0), (.iload_n 3, 3, 0, 0),
  (.iconst 1, 0, 0, 1), (.iadd, 0, 0, 0), (.iaload, 0, 0, 0), (.aload_n 0, 0, 0, 0), (.iload_n 3, 3, 0, 0), (.iconst 2, 0, 0, 2), (.iadd, 0, 0, 0), (.iaload, 0, 0, 0),
  (.aload_n 0, 0, 0, 0), (.iload_n 3, 3, 0, 0), (.iconst 3, 0, 0, 3), (.iadd, 0, 0, 0), (.iaload, 0, 0, 0), (.ifCond .eq 7, 728, 0, 0), (.iconst 1, 0, 0, 1), (.goto 4, 729, 0, 0),
  (.iconst 0, 0, 0, 0), (.invokevirtual 122, 96, 0, 690), (.aload_n 2, 2, 0, 0), (.aload_n 0, 0, 0, 0), (.iload_n 3, 3, 0, 0), (.iconst 1, 0, 0, 1), (.iadd, 0, 0, 0), (.iaload, 0, 0, 0),
  (.aload_n 0, 0, 0, 0), (.iload_n 3, 3, 0, 0), (.iconst 2, 0, 0, 2), (.iadd, 0, 0, 0), (.iaload, 0, 0, 0), (.aload_n 0, 0, 0, 0), (.iload_n 3, 3, 0, 0), (.iconst 3, 0, 0, 3),
  (.iadd, 0, 0, 0), (.iaload, 0, 0, 0), (.ifCond .eq 7, 749, 0, 0), (.iconst 1, 0, 0, 1), (.goto 4, 750, 0, 0), (.iconst 0, 0, 0, 0), (.invokevirtual 126, 172, 0, 1111), (.if_icmp .eq 475, 1148, 0, 0),
  (.iconst 0, 0, 0, 0), (.ireturn, 1, 0, 0), (.aload_n 1, 1, 0, 0), (.aload_n 0, 0, 0, 0), (.iload_n 3, 3, 0, 0), (.iconst 1, 0, 0, 1), (.iadd, 0, 0, 0), (.iaload, 0, 0, 0),
  (.aload_n 0, 0, 0, 0), (.iload_n 3, 3, 0, 0), (.iconst 2, 0, 0, 2), (.iadd, 0, 0, 0), (.iaload, 0, 0, 0), (.invokevirtual 127, 97, 0, 695), (.aload_n 2, 2, 0, 0), (.aload_n 0, 0, 0, 0),
  (.iload_n 3, 3, 0, 0), (.iconst 1, 0, 0, 1), (.iadd, 0, 0, 0), (.iaload, 0, 0, 0), (.aload_n 0, 0, 0, 0), (.iload_n 3, 3, 0, 0), (.iconst 2, 0, 0, 2), (.iadd, 0, 0, 0),
  (.iaload, 0, 0, 0), (.invokevirtual 130, 173, 0, 1115), (.if_icmp .eq 442, 1148, 0, 0), (.iconst 0, 0, 0, 0), (.ireturn, 1, 0, 0), (.aload_n 1, 1, 0, 0), (.invokevirtual 131, 100, 0, 708), (.aload_n 2, 2, 0, 0),
  (.invokevirtual 134, 174, 0, 1119), (.if_icmp .eq 429, 1148, 0, 0), (.iconst 0, 0, 0, 0), (.ireturn, 1, 0, 0), (.aload_n 1, 1, 0, 0), (.aload_n 0, 0, 0, 0), (.iload_n 3, 3, 0, 0), (.iconst 1, 0, 0, 1),
  (.iadd, 0, 0, 0), (.iaload, 0, 0, 0), (.aload_n 0, 0, 0, 0), (.iload_n 3, 3, 0, 0), (.iconst 2, 0, 0, 2), (.iadd, 0, 0, 0), (.iaload, 0, 0, 0), (.invokevirtual 135, 101, 0, 712),
  (.aload_n 2, 2, 0, 0), (.aload_n 0, 0, 0, 0), (.iload_n 3, 3, 0, 0), (.iconst 1, 0, 0, 1), (.iadd, 0, 0, 0), (.iaload, 0, 0, 0), (.aload_n 0, 0, 0, 0), (.iload_n 3, 3, 0, 0),
  (.iconst 2, 0, 0, 2), (.iadd, 0, 0, 0), (.iaload, 0, 0, 0), (.invokevirtual 138, 175, 0, 1123), (.if_icmp .eq 396, 1148, 0, 0), (.iconst 0, 0, 0, 0), (.ireturn, 1, 0, 0), (.aload_n 1, 1, 0, 0),
  (.aload_n 0, 0, 0, 0), (.iload_n 3, 3, 0, 0), (.iconst 1, 0, 0, 1), (.iadd, 0, 0, 0), (.iaload, 0, 0, 0), (.aload_n 0, 0, 0, 0), (.iload_n 3, 3, 0, 0), (.iconst 2, 0, 0, 2),
  (.iadd, 0, 0, 0), (.iaload, 0, 0, 0), (.invokevirtual 139, 103, 0, 721), (.aload_n 2, 2, 0, 0), (.aload_n 0, 0, 0, 0), (.iload_n 3, 3, 0, 0), (.iconst 1, 0, 0, 1), (.iadd, 0, 0, 0),
  (.iaload, 0, 0, 0), (.aload_n 0, 0, 0, 0), (.iload_n 3, 3, 0, 0), (.iconst 2, 0, 0, 2), (.iadd, 0, 0, 0), (.iaload, 0, 0, 0), (.invokevirtual 142, 177, 0, 1131), (.if_icmp .eq 363, 1148, 0, 0),
  (.iconst 0, 0, 0, 0), (.ireturn, 1, 0, 0), (.aload_n 1, 1, 0, 0), (.invokevirtual 143, 104, 0, 726), (.aload_n 2, 2, 0, 0), (.invokevirtual 146, 178, 0, 1135), (.if_icmp .eq 350, 1148, 0, 0), (.iconst 0, 0, 0, 0),
  (.ireturn, 1, 0, 0), (.aload_n 1, 1, 0, 0), (.invokevirtual 147, 105, 0, 731), (.aload_n 2, 2, 0, 0), (.invokevirtual 150, 180, 0, 1142), (.if_icmp .eq 337, 1148, 0, 0), (.iconst 0, 0, 0, 0), (.ireturn, 1, 0, 0),
  (.aload_n 1, 1, 0, 0), (.aload_n 0, 0, 0, 0), (.iload_n 3, 3, 0, 0), (.iconst 1, 0, 0, 1), (.iadd, 0, 0, 0), (.iaload, 0, 0, 0), (.aload_n 0, 0, 0, 0), (.iload_n 3, 3, 0, 0),
  (.iconst 2, 0, 0, 2), (.iadd, 0, 0, 0), (.iaload, 0, 0, 0), (.aload_n 0, 0, 0, 0), (.iload_n 3, 3, 0, 0), (.iconst 3, 0, 0, 3), (.iadd, 0, 0, 0), (.iaload, 0, 0, 0),
  (.aload_n 0, 0, 0, 0), (.iload_n 3, 3, 0, 0), (.iconst 4, 0, 0, 4), (.iadd, 0, 0, 0), (.iaload, 0, 0, 0), (.aload_n 0, 0, 0, 0), (.iload_n 3, 3, 0, 0), (.iconst 5, 0, 0, 5),
  (.iadd, 0, 0, 0), (.iaload, 0, 0, 0), (.aload_n 0, 0, 0, 0), (.iload_n 3, 3, 0, 0), (.bipush 6, 0, 0, 6), (.iadd, 0, 0, 0), (.iaload, 0, 0, 0), (.invokevirtual 151, 106, 0, 735),
  (.aload_n 2, 2, 0, 0), (.aload_n 0, 0, 0, 0), (.iload_n 3, 3, 0, 0), (.iconst 1, 0, 0, 1), (.iadd, 0, 0, 0), (.iaload, 0, 0, 0), (.aload_n 0, 0, 0, 0), (.iload_n 3, 3, 0, 0),
  (.iconst 2, 0, 0, 2), (.iadd, 0, 0, 0), (.iaload, 0, 0, 0), (.aload_n 0, 0, 0, 0), (.iload_n 3, 3, 0, 0), (.iconst 3, 0, 0, 3), (.iadd, 0, 0, 0), (.iaload, 0, 0, 0),
  (.aload_n 0, 0, 0, 0), (.iload_n 3, 3, 0, 0), (.iconst 4, 0, 0, 4), (.iadd, 0, 0, 0), (.iaload, 0, 0, 0), (.aload_n 0, 0, 0, 0), (.iload_n 3, 3, 0, 0), (.iconst 5, 0, 0, 5),
  (.iadd, 0, 0, 0), (.iaload, 0, 0, 0), (.aload_n 0, 0, 0, 0), (.iload_n 3, 3, 0, 0), (.bipush 6, 0, 0, 6), (.iadd, 0, 0, 0), (.iaload, 0, 0, 0), (.invokevirtual 155, 182, 0, 1149),
  (.if_icmp .eq 262, 1148, 0, 0), (.iconst 0, 0, 0, 0), (.ireturn, 1, 0, 0), (.aload_n 1, 1, 0, 0), (.aload_n 0, 0, 0, 0), (.iload_n 3, 3, 0, 0), (.iconst 1, 0, 0, 1), (.iadd, 0, 0, 0),
  (.iaload, 0, 0, 0), (.aload_n 0, 0, 0, 0), (.iload_n 3, 3, 0, 0), (.iconst 2, 0, 0, 2), (.iadd, 0, 0, 0), (.iaload, 0, 0, 0), (.aload_n 0, 0, 0, 0), (.iload_n 3, 3, 0, 0),
  (.iconst 3, 0, 0, 3), (.iadd, 0, 0, 0), (.iaload, 0, 0, 0), (.aload_n 0, 0, 0, 0), (.iload_n 3, 3, 0, 0), (.iconst 4, 0, 0, 4), (.iadd, 0, 0, 0), (.iaload, 0, 0, 0),
  (.aload_n 0, 0, 0, 0), (.iload_n 3, 3, 0, 0), (.iconst 5, 0, 0, 5), (.iadd, 0, 0, 0), (.iaload, 0, 0, 0), (.aload_n 0, 0, 0, 0), (.iload_n 3, 3, 0, 0), (.bipush 6, 0, 0, 6),
  (.iadd, 0, 0, 0), (.iaload, 0, 0, 0), (.invokevirtual 156, 113, 0, 762), (.aload_n 2, 2, 0, 0), (.aload_n 0, 0, 0, 0), (.iload_n 3, 3, 0, 0), (.iconst 1, 0, 0, 1), (.iadd, 0, 0, 0),
  (.iaload, 0, 0, 0), (.aload_n 0, 0, 0, 0), (.iload_n 3, 3, 0, 0), (.iconst 2, 0, 0, 2), (.iadd, 0, 0, 0), (.iaload, 0, 0, 0), (.aload_n 0, 0, 0, 0), (.iload_n 3, 3, 0, 0),
  (.iconst 3, 0, 0, 3), (.iadd, 0, 0, 0), (.iaload, 0, 0, 0), (.aload_n 0, 0, 0, 0), (.iload_n 3, 3, 0, 0), (.iconst 4, 0, 0, 4), (.iadd, 0, 0, 0), (.iaload, 0, 0, 0),
  (.aload_n 0, 0, 0, 0), (.iload_n 3, 3, 0, 0), (.iconst 5, 0, 0, 5), (.iadd, 0, 0, 0), (.iaload, 0, 0, 0), (.aload_n 0, 0, 0, 0), (.iload_n 3, 3, 0, 0), (.bipush 6, 0, 0, 6),
  (.iadd, 0, 0, 0), (.iaload, 0, 0, 0), (.invokevirtual 159, 186, 0, 1164), (.if_icmp .eq 187, 1148, 0, 0), (.iconst 0, 0, 0, 0), (.ireturn, 1, 0, 0), (.aload_n 1, 1, 0, 0), (.aload_n 0, 0, 0, 0),
  (.iload_n 3, 3, 0, 0), (.iconst 1, 0, 0, 1), (.iadd, 0, 0, 0), (.iaload, 0, 0, 0), (.aload_n 0, 0, 0, 0), (.iload_n 3, 3, 0, 0), (.iconst 2, 0, 0, 2), (.iadd, 0, 0, 0),
  (.iaload, 0, 0, 0), (.aload_n 0, 0, 0, 0), (.iload_n 3, 3, 0, 0), (.iconst 3, 0, 0, 3), (.iadd, 0, 0, 0), (.iaload, 0, 0, 0), (.invokevirtual 160, 116, 0, 775), (.aload_n 2, 2, 0, 0),
  (.aload_n 0, 0, 0, 0), (.iload_n 3, 3, 0, 0), (.iconst 1, 0, 0, 1), (.iadd, 0, 0, 0), (.iaload, 0, 0, 0), (.aload_n 0, 0, 0, 0), (.iload_n 3, 3, 0, 0), (.iconst 2, 0, 0, 2),
  (.iadd, 0, 0, 0), (.iaload, 0, 0, 0), (.aload_n 0, 0, 0, 0), (.iload_n 3, 3, 0, 0), (.iconst 3, 0, 0, 3), (.iadd, 0, 0, 0), (.iaload, 0, 0, 0), (.invokevirtual 163, 187, 0, 1168),
  (.if_icmp .eq 144, 1148, 0, 0), (.iconst 0, 0, 0, 0), (.ireturn, 1, 0, 0), (.aload_n 1, 1, 0, 0), (.aload_n 0, 0, 0, 0), (.iload_n 3, 3, 0, 0), (.iconst 1, 0, 0, 1), (.iadd, 0, 0, 0),
  (.iaload, 0, 0, 0), (.invokevirtual 164, 118, 0, 784), (.aload_n 2, 2, 0, 0), (.aload_n 0, 0, 0, 0), (.iload_n 3, 3, 0, 0), (.iconst 1, 0, 0, 1), (.iadd, 0, 0, 0), (.iaload, 0, 0, 0),
  (.invokevirtual 167, 188, 0, 1172), (.if_icmp .eq 121, 1148, 0, 0), (.iconst 0, 0, 0, 0), (.ireturn, 1, 0, 0), (.aload_n 1, 1, 0, 0), (.aload_n 0, 0, 0, 0), (.iload_n 3, 3, 0, 0), (.iconst 1, 0, 0, 1),
  (.iadd, 0, 0, 0), (.iaload, 0, 0, 0), (.aload_n 0, 0, 0, 0), (.iload_n 3, 3, 0, 0), (.iconst 2, 0, 0, 2), (.iadd, 0, 0, 0), (.iaload, 0, 0, 0), (.aload_n 0, 0, 0, 0),
  (.iload_n 3, 3, 0, 0), (.iconst 3, 0, 0, 3), (.iadd, 0, 0, 0), (.iaload, 0, 0, 0), (.aload_n 0, 0, 0, 0), (.iload_n 3, 3, 0, 0), (.iconst 4, 0, 0, 4), (.iadd, 0, 0, 0),
  (.iaload, 0, 0, 0), (.invokevirtual 168, 119, 0, 788), (.aload_n 2, 2, 0, 0), (.aload_n 0, 0, 0, 0), (.iload_n 3, 3, 0, 0), (.iconst 1, 0, 0, 1), (.iadd, 0, 0, 0), (.iaload, 0, 0, 0),
  (.aload_n 0, 0, 0, 0), (.iload_n 3, 3, 0, 0), (.iconst 2, 0, 0, 2), (.iadd, 0, 0, 0), (.iaload, 0, 0, 0), (.aload_n 0, 0, 0, 0), (.iload_n 3, 3, 0, 0), (.iconst 3, 0, 0, 3),
  (.iadd, 0, 0, 0), (.iaload, 0, 0, 0), (.aload_n 0, 0, 0, 0), (.iload_n 3, 3, 0, 0), (.iconst 4, 0, 0, 4), (.iadd, 0, 0, 0), (.iaload, 0, 0, 0), (.invokevirtual 171, 189, 0, 1176),
  (.if_icmp .eq 68, 1148, 0, 0), (.iconst 0, 0, 0, 0), (.ireturn, 1, 0, 0), (.aload_n 1, 1, 0, 0), (.aload_n 0, 0, 0, 0), (.iload_n 3, 3, 0, 0), (.iconst 1, 0, 0, 1), (.iadd, 0, 0, 0),
  (.iaload, 0, 0, 0), (.aload_n 0, 0, 0, 0), (.iload_n 3, 3, 0, 0), (.iconst 2, 0, 0, 2), (.iadd, 0, 0, 0), (.iaload, 0, 0, 0), (.aload_n 0, 0, 0, 0), (.iload_n 3, 3, 0, 0),
  (.iconst 3, 0, 0, 3), (.iadd, 0, 0, 0), (.iaload, 0, 0, 0), (.aload_n 0, 0, 0, 0), (.iload_n 3, 3, 0, 0), (.iconst 4, 0, 0, 4), (.iadd, 0, 0, 0), (.iaload, 0, 0, 0),
  (.aload_n 0, 0, 0, 0), (.iload_n 3, 3, 0, 0), (.iconst 5, 0, 0, 5), (.iadd, 0, 0, 0), (.iaload, 0, 0, 0), (.invokevirtual 172, 121, 0, 796), (.aload_n 2, 2, 0, 0), (.aload_n 0, 0, 0, 0),
  (.iload_n 3, 3, 0, 0), (.iconst 1, 0, 0, 1), (.iadd, 0, 0, 0), (.iaload, 0, 0, 0), (.aload_n 0, 0, 0, 0), (.iload_n 3, 3, 0, 0), (.iconst 2, 0, 0, 2), (.iadd, 0, 0, 0),
  (.iaload, 0, 0, 0), (.aload_n 0, 0, 0, 0), (.iload_n 3, 3, 0, 0), (.iconst 3, 0, 0, 3), (.iadd, 0, 0, 0), (.iaload, 0, 0, 0), (.aload_n 0, 0, 0, 0), (.iload_n 3, 3, 0, 0),
  (.iconst 4, 0, 0, 4), (.iadd, 0, 0, 0), (.iaload, 0, 0, 0), (.aload_n 0, 0, 0, 0), (.iload_n 3, 3, 0, 0), (.iconst 5, 0, 0, 5), (.iadd, 0, 0, 0), (.iaload, 0, 0, 0),
  (.invokevirtual 176, 190, 0, 1180), (.if_icmp .eq 5, 1148, 0, 0), (.iconst 0, 0, 0, 0), (.ireturn, 1, 0, 0), (.iinc 3 7, 3, 0, 7), (.goto (-1565), 10, 0, 0), (.iconst 1, 0, 0, 1), (.ireturn, 1, 0, 0)]
def jx_cd : List (List (Instr × Nat × Nat × Int)) := [jx_c0, jx_c1, jx_c2, jx_c3, jx_c4, jx_c5, jx_c6, jx_c7, jx_c8, jx_c9, jx_c10, jx_c11,
  jx_c12, jx_c13, jx_c14, jx_c15, jx_c16, jx_c17, jx_c18, jx_c19, jx_c20, jx_c21, jx_c22, jx_c23,
  jx_c24, jx_c25, jx_c26, jx_c27, jx_c28, jx_c29, jx_c30, jx_c31, jx_c32, jx_c33, jx_c34, jx_c35,
  jx_c36, jx_c37, jx_c38, jx_c39, jx_c40, jx_c41, jx_c42, jx_c43, jx_c44, jx_c45, jx_c46, jx_c47,
  jx_c48, jx_c49, jx_c50, jx_c51, jx_c52, jx_c53, jx_c54, jx_c55, jx_c56, jx_c57, jx_c58, jx_c59,
  jx_c60, jx_c61, jx_c62, jx_c63, jx_c64, jx_c65, jx_c66, jx_c67, jx_c68, jx_c69, jx_c70, jx_c71,
  jx_c72, jx_c73, jx_c74, jx_c75, jx_c76, jx_c77, jx_c78, jx_c79, jx_c80, jx_c81, jx_c82, jx_c83,
  jx_c84, jx_c85, jx_c86, jx_c87, jx_c88, jx_c89, jx_c90, jx_c91, jx_c92, jx_c93, jx_c94, jx_c95,
  jx_c96, jx_c97, jx_c98, jx_c99, jx_c100, jx_c101, jx_c102, jx_c103, jx_c104, jx_c105, jx_c106, jx_c107,
  jx_c108, jx_c109, jx_c110, jx_c111, jx_c112, jx_c113, jx_c114, jx_c115, jx_c116, jx_c117, jx_c118, jx_c119,
  jx_c120, jx_c121, jx_c122, jx_c123, jx_c124, jx_c125, jx_c126, jx_c127, jx_c128, jx_c129, jx_c130, jx_c131,
  jx_c132, jx_c133, jx_c134, jx_c135, jx_c136, jx_c137, jx_c138, jx_c139, jx_c140, jx_c141, jx_c142, jx_c143,
  jx_c144, jx_c145, jx_c146, jx_c147, jx_c148, jx_c149, jx_c150, jx_c151, jx_c152, jx_c153, jx_c154, jx_c155,
  jx_c156, jx_c157, jx_c158, jx_c159, jx_c160, jx_c161, jx_c162, jx_c163, jx_c164, jx_c165, jx_c166, jx_c167,
  jx_c168, jx_c169, jx_c170, jx_c171, jx_c172, jx_c173, jx_c174, jx_c175, jx_c176, jx_c177, jx_c178, jx_c179,
  jx_c180, jx_c181, jx_c182, jx_c183, jx_c184, jx_c185, jx_c186, jx_c187, jx_c188, jx_c189, jx_c190, jx_c191]
def jx_p0 : List Nat := [0, 1, 4, 5, 8, 9, 12, 15, 16, 19, 20, 23, 26, 27, 30, 31, 34, 37, 38, 41, 42, 45, 48, 49, 52, 53, 56, 59, 60, 62, 64, 67, 68, 69, 72, 75, 76, 77, 78, 79,
  82, 83, 86, 87, 90, 91, 94, 95, 98, 101]
def jx_p1 : List Nat := [0, 1, 4, 5, 7, 9, 12, 13, 15, 18, 21, 22, 24, 27, 30, 31, 33, 36, 39, 40, 41, 44, 45, 48, 49, 52, 53, 54, 55, 57, 60, 61, 64, 65, 68, 69, 72, 73, 76, 79,
  80, 81, 82, 84, 87, 88, 91, 92, 95, 96, 99, 100, 103, 106, 107, 108, 109, 111, 114, 115, 118, 119, 122, 123, 126, 127, 130, 133]
def jx_p2 : List Nat := [0, 1, 2, 3, 4, 5, 6, 7, 10, 11, 12, 13, 14, 17, 20]
def jx_p3 : List Nat := [0, 1, 4, 5, 7, 9, 12, 13, 15, 17, 20]
def jx_p4 : List Nat := [0, 1, 4]
def jx_p5 : List Nat := [0, 1, 4]
def jx_p6 : List Nat := [0, 1, 4, 5, 8, 9, 12, 15, 16, 19, 20, 23, 26, 27, 29, 31, 34, 35, 37, 39, 42]
def jx_p7 : List Nat := [0, 1, 4, 5, 7, 9, 12, 13, 15, 17, 20, 21, 23, 25, 28, 29, 31, 33, 36, 37, 38, 40, 43]
def jx_p8 : List Nat := [0, 1, 4, 5, 7, 9, 12]
def jx_p9 : List Nat := [0, 1, 4, 5, 7, 9, 12]
def jx_p10 : List Nat := [0, 1, 4, 7, 8, 9, 11, 14, 17, 18, 19, 20, 23, 26, 27, 28, 29, 30, 33, 36, 37, 38, 39, 40]
def jx_p11 : List Nat := [0, 1, 4, 5, 7, 10, 11, 14, 15]
def jx_p12 : List Nat := [0, 1, 2, 5, 6, 7, 10, 11, 14, 15]
def jx_p13 : List Nat := [0, 1, 4, 7, 8, 11, 14, 15, 16, 17, 20, 23, 24, 25, 26, 29, 32, 34, 37, 39, 40, 41, 44, 47, 49, 50, 53, 56, 58, 59, 60, 61, 62, 65, 66, 69, 71, 72, 73, 76,
  78]
def jx_p14 : List Nat := [0, 1, 4, 5, 6, 9, 10, 13, 14]
def jx_p15 : List Nat := [0, 1, 2, 5, 6, 8, 11, 12, 15, 16]
def jx_p16 : List Nat := [0, 1, 2, 5, 6, 7, 10, 11, 12, 15, 16, 17, 20, 21, 24, 25, 26, 27, 28, 29, 32, 33, 36, 37, 38, 39, 40, 41, 44, 45, 46, 49, 50, 53, 56, 59]
def jx_p17 : List Nat := [0, 1, 2, 5, 6, 7, 8, 11, 12, 13, 14, 15, 16, 17, 18, 19, 22, 23, 24, 25, 26, 27, 28, 31, 34, 35, 36, 37, 38, 39]
def jx_p18 : List Nat := [0, 1, 4, 5, 8, 11, 12, 15, 18, 19, 20, 21, 22, 25, 28, 29]
def jx_p19 : List Nat := [0, 1, 4, 5, 6, 9, 12, 13, 16, 17]
def jx_p20 : List Nat := [0, 1, 4, 5, 8, 11, 12, 15, 16, 17, 18, 21, 24, 25, 26, 29, 30, 33, 36, 37, 40, 41, 42, 43, 46, 49, 50, 51, 54, 55, 58, 61, 62, 65, 66, 67, 68, 71, 74, 75,
  76, 79, 80, 81, 82, 85, 88, 89, 92, 93, 94, 95, 98, 101, 102, 103, 104]
def jx_p21 : List Nat := [0, 1, 4, 5, 7, 10, 11, 14, 15]
def jx_p22 : List Nat := [0, 1, 2, 4, 7, 10, 11, 12, 15, 18, 19, 20, 21, 24, 25, 26, 29]
def jx_p23 : List Nat := [0, 1, 2, 3, 4, 7, 8, 9, 12, 14, 16, 18, 21, 23, 25, 28, 29, 30, 33, 36, 37]
def jx_p24 : List Nat := [0, 1, 3, 4, 5, 6, 7, 10, 11]
def jx_p25 : List Nat := [0, 1, 3, 4, 7, 8, 11, 13, 14, 15, 16, 17, 19, 21, 24, 25, 28, 29, 32, 33, 35, 38, 39, 40, 41, 44, 45, 46, 49, 52, 55, 56, 59]
def jx_p26 : List Nat := [0, 1, 4, 5, 8, 10, 12, 15, 16, 17, 20, 23, 24, 27, 28, 29, 30, 31, 32, 33, 34, 36, 39, 40, 43, 46, 47, 48, 51, 52, 53, 54, 55, 56, 59, 60, 61, 62, 63, 66,
  69, 70]
def jx_p27 : List Nat := [0, 1, 3, 4, 6, 8, 9, 12, 15, 16, 19, 21, 22, 24, 27, 30, 32, 33, 36, 38, 39, 40, 43, 44, 46, 49, 52, 54, 56, 57, 58, 59, 61, 62, 65, 67, 68, 70, 71, 72,
  75, 78, 81, 83, 84, 87, 89, 90, 93, 94, 97, 99]
def jx_p28 : List Nat := [0, 1, 2, 5, 8, 9, 12, 13, 14, 16, 19, 20, 23, 24, 25, 27, 30, 31, 34, 35]
def jx_p29 : List Nat := [0, 1, 2, 5]
def jx_p30 : List Nat := [0, 1, 4, 5, 8, 11, 12, 13, 14, 17, 18, 21, 24, 25, 26, 29, 32, 33, 36, 37, 40, 43, 44, 45, 46, 49, 50, 53, 54]
def jx_p31 : List Nat := [0, 2, 3, 4, 7, 8, 9, 10, 13, 14, 15, 17, 19, 20, 23, 24, 25, 28, 31, 33, 34, 35, 36, 37, 38, 41, 43, 44, 45, 47, 50, 52, 54, 57, 60, 62, 65, 66, 68, 69,
  70, 71, 73, 76, 77, 80, 82, 83, 84, 85, 86, 88, 90, 91, 92, 94, 97, 98, 99, 100, 103, 106, 108, 109, 110, 111, 112, 115, 116, 117, 119, 122, 124, 125, 126, 127, 130, 132, 133, 134,
  135, 136, 137, 138, 139, 142, 143, 146, 149, 151, 152, 153]
def jx_p32 : List Nat := [0, 1, 2, 5, 6, 9, 10]
def jx_p33 : List Nat := [0, 1, 2, 3, 4, 7, 10, 11, 14, 15, 16, 18, 21, 22, 23, 26, 29, 30, 33]
def jx_p34 : List Nat := [0, 1, 2, 3, 4, 7, 10, 11, 12, 15, 18, 19, 20, 23, 26, 27, 30]
def jx_p35 : List Nat := [0, 1, 2, 3, 5, 7, 8, 11, 13, 15, 16, 17, 18, 21, 23, 24, 25, 27, 28, 31, 32, 35, 38, 39]
def jx_p36 : List Nat := [0, 1, 2, 3, 4, 5, 6, 7, 10, 11, 12, 13, 14, 15, 16, 17, 20, 21]
def jx_p37 : List Nat := [0, 1, 4, 5, 6, 9, 10]
def jx_p38 : List Nat := [0, 1, 2, 3, 4, 6, 9, 12, 15, 16, 17, 18, 19, 22, 25, 26, 29, 30, 31, 32, 33, 34, 37, 40]
def jx_p39 : List Nat := [0, 1, 4, 5, 8, 11, 12, 13, 14, 17, 18, 21, 22, 24, 27, 28, 29, 32, 35, 36, 39, 40, 43, 46, 47, 48, 49, 52, 53, 56, 57]
def jx_p40 : List Nat := [0, 1, 2, 3, 4, 6, 9, 12, 15, 16, 17, 18, 19, 22, 25, 26, 29, 30, 31, 32, 33, 34, 37, 40, 41, 42, 45, 46, 49, 52, 55]
def jx_p41 : List Nat := [0, 1, 4, 5, 8, 11, 12, 13, 14, 17, 20, 21, 22, 25, 26, 27, 28, 31, 34, 35, 36, 38, 39, 42, 44, 47, 50, 52, 55, 57, 58, 61, 63, 66, 69, 71, 74, 76, 77, 80,
  82, 83, 84, 86, 89, 90, 92, 93, 96, 98, 99, 100, 103, 105]
def jx_p42 : List Nat := [0, 1, 4, 5, 8, 11, 12, 15, 18, 19, 20, 21, 24, 27, 28, 29, 30, 33]
def jx_p43 : List Nat := [0, 1, 2, 5, 6, 7, 8, 11, 12, 15, 16, 19, 21, 22, 23, 24, 27, 28, 29, 30, 31, 34, 37, 38, 41, 42, 43, 46, 48]
def jx_p44 : List Nat := [0, 1, 4, 5, 8, 11, 12, 15, 18, 19, 20, 21, 24, 27, 30, 33, 34]
def jx_p45 : List Nat := [0, 1, 4, 5, 8, 9, 10, 11, 12, 13, 16, 17, 18, 21, 22, 25, 26]
def jx_p46 : List Nat := [0, 1, 4, 7, 8, 11, 14, 15, 16, 17, 18, 19, 21, 23, 24, 27, 30, 33, 34, 37, 39, 40, 41, 44, 47, 48, 49, 51, 52, 53, 54, 57, 60, 61]
def jx_p47 : List Nat := [0, 1, 2, 3, 6, 9, 10, 11, 12, 13, 16, 19, 20, 23, 24]
def jx_p48 : List Nat := [0, 1, 4, 7, 8, 11, 12, 13, 14, 17, 20, 21, 22, 23, 26, 27, 28, 31, 32, 34, 37, 38, 39, 40, 43, 44, 45, 48, 49, 50, 53, 54, 55, 56, 59, 62, 65, 66, 67, 68,
  71, 73, 74, 77, 78, 79, 80, 83, 86, 87, 90, 91]
def jx_p49 : List Nat := [0, 1, 2, 5, 6, 7, 8, 11, 12, 15, 16, 19, 20, 21, 24, 25, 28, 29, 30, 33, 34, 35, 38, 41, 42, 45, 46]
def jx_p50 : List Nat := [0, 1, 4, 7, 8, 11, 12, 13, 16, 17, 20, 21]
def jx_p51 : List Nat := [0, 1, 4, 5, 6, 7, 10, 11, 12, 14, 16, 17, 20, 21, 24, 26, 27, 28, 31, 33, 34, 37, 39, 40, 43, 44, 47, 48, 49, 52, 55, 57, 60, 61, 63, 66, 67, 70, 71, 72,
  75, 78, 79]
def jx_p52 : List Nat := [0, 1, 4, 5, 6, 7, 10, 12, 14, 17, 19, 20, 23, 24, 27, 28, 29, 30, 33, 36, 37, 40, 41, 42, 43, 46, 47, 50, 51]
def jx_p53 : List Nat := [0, 1, 4, 5, 8, 11, 12, 15, 16, 19, 22, 23, 24, 25, 28, 31, 32, 33, 34, 35, 38, 41, 42, 43, 44, 47, 48, 51, 54]
def jx_p54 : List Nat := [0, 1, 2, 3, 6, 7, 10, 13, 14, 15, 16, 17, 20, 21, 24, 25, 27, 28, 30, 32, 33, 36, 38, 39, 41, 42, 43, 46, 48, 49, 50, 53, 54, 56, 59, 62, 64]
def jx_p55 : List Nat := [0, 1, 2, 4, 7, 10, 11, 12, 13, 16, 19, 20, 21, 24, 25, 28, 29]
def jx_p56 : List Nat := [0, 1, 4, 7, 8, 9, 10, 11, 12, 13, 14, 17, 20, 21, 22, 25, 26, 29, 30, 32, 33, 36, 37, 40, 41, 44, 47, 48, 49, 52, 53, 56, 59, 60, 61, 62, 63, 66, 68]
def jx_p57 : List Nat := [0, 1, 4, 5, 6, 9, 10, 13, 14]
def jx_p58 : List Nat := [0, 1, 32, 33, 36, 39, 40, 41, 44, 47, 48, 49, 52, 55, 56, 57, 60, 63, 66, 67, 68]
def jx_p59 : List Nat := [0, 1, 2, 3, 4, 7, 8, 9, 10, 11, 14, 15, 16, 17, 18, 21, 22, 23, 24, 25, 26, 27, 28, 29, 32, 33, 34, 35, 36, 38, 39, 40, 41, 42, 43, 45, 46, 47, 48, 49,
  51, 52]
def jx_p60 : List Nat := [0, 1, 4, 7, 8, 11, 14, 15, 16, 17, 20, 23, 25, 26, 28, 31, 34, 35, 36, 37, 40, 43, 45, 48, 50, 51, 52, 55, 58, 60, 61, 64, 67, 69, 70, 71, 72, 73, 75, 78,
  79, 82, 84, 85, 86, 89, 91]
def jx_p61 : List Nat := [0, 1, 2, 5, 6, 7, 10, 11, 12, 15, 16, 18, 21]
def jx_p62 : List Nat := [0, 1, 2, 3, 6, 9, 10, 11, 14, 17, 18, 19, 20, 23, 26, 27, 28, 29, 32, 33, 36, 39, 40, 41, 44, 45, 48, 51, 52, 53, 54, 55, 58, 59, 62, 65, 66, 67, 70, 71,
  74, 77, 78, 79]
def jx_p63 : List Nat := [0, 1, 2, 5, 6, 7, 10, 11, 12, 15, 18, 19, 20, 21, 22, 25, 28, 29, 30, 31, 34, 35, 36, 37, 40, 43, 46]
def jx_p64 : List Nat := [0, 1, 4, 5, 8, 9, 10, 13, 14, 15, 16, 17, 20, 23, 24, 27, 28, 29, 30, 31, 33, 35, 36, 39, 42, 43, 46, 48, 49, 52, 53, 54, 56, 58, 61, 64, 65, 66, 68, 71,
  74, 75, 78, 80, 81, 82, 83, 84, 85, 86, 87, 88, 89, 92, 93, 94, 97, 100, 103, 106, 109]
def jx_p65 : List Nat := [0, 1, 4, 5, 8, 9, 10, 11, 12, 15, 18, 19, 22, 23, 24, 25, 26, 28, 30, 31, 34, 37, 38, 41, 44, 47, 48, 51, 53, 54, 55, 58, 59, 62, 65, 66, 69, 72, 73, 76,
  77, 80, 81, 82, 83, 85, 86, 87, 88, 91, 94, 97, 100]
def jx_p66 : List Nat := [0, 1, 4, 5, 7, 8, 9, 12, 13, 15, 16, 17, 20, 21, 22, 23, 24, 27, 30, 33, 34, 37, 38, 41, 42, 45, 46, 48, 49, 51, 52, 54, 56, 58, 61, 63, 64, 67, 68, 69,
  72, 74, 75, 77, 78, 79, 82, 84, 87, 90, 92, 93, 96, 97, 98, 99, 101, 104, 106, 108, 111, 112, 113, 116, 117, 120, 122, 125, 127, 129, 132, 133, 136, 137, 139, 140, 141, 144, 145, 147,
  148, 149, 151, 153, 154, 155, 158, 161, 162, 165, 166, 167, 168, 169, 170, 171, 172, 174, 177, 180]
def jx_p67 : List Nat := [0, 1, 4, 5, 6, 7, 9, 11, 12, 15, 18, 19, 20, 22, 23, 24, 27, 28, 30, 31, 32, 35, 38, 39, 40, 43, 46, 47]
def jx_p68 : List Nat := [0, 1, 3, 5, 6, 9, 12, 13, 16, 18, 19, 22, 23, 26, 27, 30, 32, 33, 34, 37, 38, 41, 43, 44, 47, 50, 52]
def jx_p69 : List Nat := [0, 1, 4, 5, 8, 11, 12, 13, 14, 17, 18, 21, 24, 25, 28, 29, 32]
def jx_p70 : List Nat := [0, 1, 2, 3, 4, 5, 6, 9, 12, 13, 16, 17, 18, 19, 22, 25, 28, 31, 32]
def jx_p71 : List Nat := [0, 1, 2, 3, 6, 9, 10, 11, 12, 15, 16, 19, 22, 23, 24, 27, 28, 31, 34, 35, 36, 39, 40, 43, 46, 49, 50, 53, 56]
def jx_p72 : List Nat := [0, 1, 2, 3, 4, 5, 6, 9, 12, 13, 16, 17, 18, 21, 24, 27, 30, 31]
def jx_p73 : List Nat := [0, 1, 2, 3, 4, 5, 6, 9, 12, 13, 14, 17, 18, 19, 20, 21, 24, 27, 28]
def jx_p74 : List Nat := [0, 1, 4, 5, 8, 11, 12, 13, 14, 17, 20, 21, 22, 23, 26, 27, 30, 31, 32, 35]
def jx_p75 : List Nat := [0, 1, 4, 5, 8, 9, 12, 15, 16, 17, 19, 20, 22, 23, 25, 26, 28, 29, 31, 33, 35, 38, 40, 42, 45, 46, 48, 50, 51, 54, 55, 58, 59, 62, 65, 66, 69, 70, 73, 75,
  77, 79, 82, 84, 86, 88, 90, 92, 94, 96, 99, 102, 105, 108, 111, 112, 113, 116, 118, 119, 120, 123, 125, 128, 130]
def jx_p76 : List Nat := [0, 1, 4, 5, 6, 9, 10, 12, 15, 16, 17, 20, 23, 24, 25, 26, 27, 30, 33, 34, 37, 38, 39, 40, 43, 44, 45, 48, 51, 54, 55, 56, 59, 62, 63, 64, 65, 66, 69, 72,
  73, 76, 77, 78, 79, 80, 83, 84, 85, 86, 89, 90, 93, 94, 97, 98, 101, 104, 107, 110, 111, 112, 115, 118, 119, 120, 121, 122, 125, 128, 129, 132, 133, 134, 135, 136, 139, 140, 141, 142,
  145, 146, 149, 150, 153, 156, 159, 162, 163, 164, 167, 170, 171, 172, 175, 178]
def jx_p77 : List Nat := [0, 1, 2, 5, 6, 9, 12, 13, 14, 17, 18, 21, 24, 25, 26, 29, 32, 33, 34, 37, 40, 41, 42, 45, 48, 49, 50, 53, 56]
def jx_p78 : List Nat := [0, 1, 2, 5, 6, 7, 10, 11, 12, 15]
def jx_p79 : List Nat := [0, 1, 2, 3, 6, 7, 8, 9, 10, 11, 14, 15, 18, 19, 20, 21, 22, 25, 26, 27, 30, 31, 32, 33, 34, 37, 38, 39, 40, 43, 46, 49]
def jx_p80 : List Nat := [0, 1, 4, 5, 8, 11, 12, 15, 16, 19, 22, 23, 24, 27, 28, 29, 30, 33, 36, 37, 38, 39, 42, 43, 46, 47, 48, 51, 52, 55, 56, 59]
def jx_p81 : List Nat := [0, 1, 4, 5, 8, 9, 11, 13, 15, 18, 19, 22, 25, 26, 27, 29, 31, 33, 34, 35, 38, 39, 42, 45, 46, 47, 49, 51, 53, 54, 55, 58, 59, 62, 63, 66, 69, 70, 73, 75,
  76, 79, 80, 83, 84, 85, 88, 90, 91, 94, 95, 98, 99, 102, 105]
def jx_p82 : List Nat := [0, 1, 2, 4, 5, 6, 8, 10, 12, 15, 16, 18, 21, 24, 27, 28, 31, 33, 34, 37, 40, 41, 44, 45, 46, 47, 50, 52, 53, 55, 56, 57, 60, 61, 63, 64, 67, 68, 70, 71,
  72]
def jx_p83 : List Nat := [0, 1, 3, 4, 5, 6, 8, 9, 10, 11, 13, 15, 17, 20, 21, 24, 26, 28, 29, 30, 31, 32, 33, 36, 37, 38, 41, 42, 45, 46, 48, 49, 51, 52, 53, 54, 57, 58, 59, 62,
  63, 64, 67, 70, 71]
def jx_p84 : List Nat := [0, 1, 2, 3, 6, 9, 10, 13, 16, 17, 18, 20, 23, 26, 28, 29, 30, 31, 32, 35, 38, 39, 40, 41, 44, 46, 47, 49, 50, 52, 53, 55, 57, 59, 62, 63, 65, 66, 69, 70,
  71, 74, 75, 78, 79, 80, 83, 86, 87, 88, 91, 92, 95, 97, 99, 101, 104, 106, 108, 110, 112, 115, 118, 120, 123, 125, 126, 127, 129, 130, 133, 135, 138, 140, 143, 144, 147, 149, 150]
def jx_p85 : List Nat := [0, 1, 2, 3, 4, 5, 6, 9, 10, 12, 13, 14, 17, 20, 21]
def jx_p86 : List Nat := [0, 1, 2, 3, 4, 5, 7, 9, 12, 13, 16, 18, 19, 21, 22, 23, 24, 26, 27, 28, 31, 34]
def jx_p87 : List Nat := [0, 1, 2, 3, 6, 7, 8, 11, 12, 15, 16, 19, 22, 23, 24, 25, 26, 29]
def jx_p88 : List Nat := [0, 2, 3, 4, 6, 7, 9, 11, 12, 15, 18, 21, 22, 25, 28, 30, 31, 32, 33, 36, 38, 39, 42, 44, 46, 49, 51, 52, 54, 56, 59, 62, 63]
def jx_p89 : List Nat := [0, 1, 4, 7, 8, 11, 12, 15, 18, 19]
def jx_p90 : List Nat := [0, 1, 2, 3, 4, 5, 6, 9, 12, 13, 14, 15, 16, 19, 20, 21, 24, 27, 28]
def jx_p91 : List Nat := [0, 1, 2, 3, 5, 7, 8, 11, 12, 13, 16, 19, 20, 21, 22, 23, 26, 27, 28, 31, 33, 34, 37, 38, 39, 42, 43, 44, 47, 50, 53, 56, 59, 60]
def jx_p92 : List Nat := [0, 1, 4, 7, 8, 9, 12, 15, 18, 19, 20, 21, 24, 25, 28, 29, 30, 33]
def jx_p93 : List Nat := [0, 1, 4, 5, 8, 9, 11, 13, 14, 17, 18, 20, 22, 24, 27, 29, 32, 34, 37, 38, 41, 43, 46, 47, 50, 51, 54, 55, 58, 60, 61, 64, 67, 70, 73, 75]
def jx_p94 : List Nat := [0, 1, 4, 7, 8, 11, 12, 15, 18, 20, 21, 22, 25, 26, 29, 30, 31, 34]
def jx_p95 : List Nat := [0, 1, 4, 5, 8, 9, 12, 13, 16, 19, 20, 23, 24, 27, 29, 30, 33, 34, 37, 38, 39, 40, 41, 44, 45, 48, 49, 52, 55, 57, 58, 61, 62, 65, 66]
def jx_p96 : List Nat := [0, 1, 4, 7, 8, 11, 14, 15, 16, 17, 20, 23, 25, 28, 30, 31, 32, 35, 38, 39, 42, 45, 46, 47, 48, 49, 52, 53, 56, 57, 60, 61, 62, 65, 66, 69, 72]
def jx_p97 : List Nat := [0, 1, 4, 5, 8, 11, 12, 13, 14, 17, 20, 21, 22, 23, 26, 27, 30, 31, 32, 35]
def jx_p98 : List Nat := [0, 1, 4, 5, 8, 9, 12, 15, 16, 17, 18, 21, 22, 23, 26, 27, 30, 31, 34, 35, 37, 39, 41, 43, 45, 46, 48, 50, 52, 55, 56, 59, 62, 63, 64, 66, 69, 70, 73, 74,
  77, 80, 83, 85, 88, 90, 93, 95, 97, 99, 101, 104, 107, 108, 111, 113, 114, 115, 116, 119, 121, 124, 126]
def jx_p99 : List Nat := [0, 1, 2, 3, 4, 7, 10, 11, 14, 15, 16, 17, 18, 19, 20, 23, 24, 27, 30, 31, 34, 37, 38, 39, 42, 45, 46]
def jx_p100 : List Nat := [0, 1, 4, 7, 8, 9, 12, 13, 16, 17]
def jx_p101 : List Nat := [0, 1, 4, 5, 8, 11, 12, 15, 18, 19, 20, 21, 24, 25, 28, 29, 30, 33]
def jx_p102 : List Nat := [0, 1, 4, 5, 8, 9, 11, 13, 15, 18, 19, 22, 25, 26, 28, 29, 30, 33, 34, 35, 38, 41, 43, 44, 47, 50, 52]
def jx_p103 : List Nat := [0, 1, 4, 5, 8, 11, 12, 15, 18, 19, 20, 21, 24, 25, 26, 29]
def jx_p104 : List Nat := [0, 1, 4, 5, 8, 11, 12, 13, 16, 17]
def jx_p105 : List Nat := [0, 1, 4, 7, 9, 10, 11, 14, 15, 18, 21, 22]
def jx_p106 : List Nat := [0, 1, 4, 7, 8, 11, 14, 16, 17, 19, 22, 25, 27, 28, 30, 33, 36, 38, 39, 41, 42, 43, 46, 49, 50, 51, 52, 55, 56, 57, 59, 61, 62, 63, 65, 67, 68, 71, 73, 75,
  78, 80, 81, 83, 84, 86, 88, 89, 92, 95, 97, 98, 99, 101, 103, 105, 108, 109, 112, 114, 116, 117, 119, 120, 122, 124, 127, 128, 131, 134, 136, 139, 140, 141, 144, 146, 149, 152, 153, 156,
  158, 159]
def jx_p107 : List Nat := [0, 1, 4, 5, 6, 9, 10, 13, 14]
def jx_p108 : List Nat := [0, 1, 4, 5, 6, 9, 10, 13, 14]
def jx_p109 : List Nat := [0, 1, 4, 7, 9, 10, 11, 14, 15, 18, 20, 21, 22, 23, 24, 27, 30, 31, 34, 36]
def jx_p110 : List Nat := [0, 1, 4, 5, 8, 9, 10, 13, 16, 17, 18, 21, 22, 23, 26, 27, 30, 31]
def jx_p111 : List Nat := [0, 1, 3, 5, 6, 9, 10, 12, 14, 15, 16, 17, 18, 20, 21, 23, 24, 26, 28, 29, 32, 33, 36, 38, 40, 41, 42, 43, 45, 48, 51, 52, 53, 56, 59, 62, 65, 66]
def jx_p112 : List Nat := [0, 1, 3, 4, 6, 7, 9, 11, 13, 16, 17, 19, 20, 22, 24, 25, 28, 29, 32, 33, 35, 36, 37, 38, 39, 41, 44, 47, 50, 53, 55, 57, 60, 62, 64, 66, 68, 71, 74, 76]
def jx_p113 : List Nat := [0, 1, 4, 7, 8, 11, 14, 16, 17, 18, 21, 24, 26, 27, 29, 32, 35, 37, 38, 40, 41, 42, 45, 48, 49, 50, 51, 54, 55, 56, 58, 60, 61, 62, 64, 66, 67, 68, 69, 72,
  74, 76, 79, 81, 82, 84, 85, 87, 89, 90, 93, 96, 98, 99, 101, 102, 104, 106, 108, 111]
def jx_p114 : List Nat := [0, 1, 3, 4, 5, 6, 7, 8, 10, 12, 14, 15, 17, 18, 20, 22, 23, 26, 27, 29, 30, 31, 32, 33, 34, 36, 37, 40, 42, 43, 44, 47, 49, 50, 53, 56, 57, 59, 60, 61,
  63, 64, 65, 66, 69, 71, 73, 76, 78, 80, 83, 85, 87, 89, 91, 94, 97, 99]
def jx_p115 : List Nat := [0, 1, 3, 4, 6, 8, 9, 12, 14, 15, 18, 19, 21, 22, 23, 24, 27, 28, 30, 31, 32, 33, 36, 37, 39, 42, 45, 47]
def jx_p116 : List Nat := [0, 1, 4, 7, 8, 11, 14, 15, 17, 20, 21, 22, 23, 26, 28, 29, 30, 33, 34, 35, 36, 37, 40, 41]
def jx_p117 : List Nat := [0, 1, 4, 5, 8, 9, 10, 13, 14, 15, 18, 19, 20, 23]
def jx_p118 : List Nat := [0, 1, 4, 7, 8, 9, 10, 13, 14, 15, 16, 17, 20, 23, 25, 26, 27, 28, 31, 32, 35]
def jx_p119 : List Nat := [0, 1, 4, 7, 8, 11, 14, 15, 16, 17, 20, 21, 22, 24, 26, 27, 28, 29, 32, 34, 36, 39, 41, 42, 44, 45, 47, 50, 51]
def jx_p120 : List Nat := [0, 1, 4, 7, 8, 11, 12, 13, 14, 15, 18, 19, 22, 23, 26, 27, 30, 31, 32, 33, 34, 37, 38, 41, 42, 43, 44]
def jx_p121 : List Nat := [0, 1, 4, 7, 8, 11, 14, 15, 16, 17, 20, 21, 22, 24, 25, 28, 29, 30, 32, 34, 37, 40, 42, 45, 48, 50, 51, 53, 56, 58, 61, 64, 66, 67, 69, 70, 72, 75, 78, 80,
  82, 84, 87, 90, 92, 93, 95, 98, 99, 101, 104, 106, 108, 111, 113]
def jx_p122 : List Nat := [0, 1, 4, 5, 7, 9, 12, 13, 15, 17, 20, 21, 23, 25, 28, 29, 31, 33, 36, 37, 39, 41, 44, 45, 47, 49, 52, 53, 55, 57, 60, 61, 63, 65, 68, 69, 71, 74, 75, 77,
  80, 81, 83, 85, 88, 89, 91, 93, 96, 97, 99, 101, 104, 105, 107, 109, 112, 113, 115, 117, 120, 121, 123, 125, 128, 129, 131, 133, 136, 137, 140, 142, 145, 146, 147, 149, 152, 153, 154, 156,
  159, 160, 162, 164, 167, 168, 170, 172, 175, 176, 177, 178, 179, 182, 183, 186, 187, 188, 189, 192, 195, 196, 197, 198, 200, 203, 204, 207, 208, 209, 210, 213, 216, 217, 218, 221]
def jx_p123 : List Nat := [0, 1, 4, 7, 8, 9, 10, 13, 16, 19, 20, 21, 22, 25, 26, 27, 28, 29, 32, 33, 34, 35, 36]
def jx_p124 : List Nat := [0, 1, 2, 3, 6, 9]
def jx_p125 : List Nat := [0, 1, 2, 3, 6, 7, 9, 10, 13, 14, 17, 18]
def jx_p126 : List Nat := [0, 1, 2, 5, 8, 9, 10, 13, 16, 17, 18, 21, 24, 25, 26, 27, 30, 32, 35, 37, 38, 39, 42, 44, 45, 48, 49, 51, 52, 53, 54, 55, 58, 59, 61, 62, 63, 64, 65, 66,
  67, 70, 71, 73, 74, 75, 76, 77, 78, 79, 82, 83, 85, 86, 87, 88, 89, 90, 91, 94, 96, 98, 99, 100, 101, 102, 105, 107, 109, 110, 111, 112, 113, 114, 115, 118, 120, 122, 123, 124,
  125, 126, 129, 131, 133, 134, 135, 136, 137, 138, 139, 140, 143, 144, 145, 148, 150]
def jx_p127 : List Nat := [0, 1, 4, 5, 6, 7, 10, 13, 16, 17, 18, 21, 22, 23, 24, 27, 30, 33, 34, 35, 38, 39, 42, 45, 46, 47, 48, 51, 54]
def jx_p128 : List Nat := [0, 1, 2, 3, 6, 9]
def jx_p129 : List Nat := [0, 1, 2, 5, 8, 9, 10, 11, 14, 17, 20, 21, 22, 25, 28, 29, 30, 31, 34, 35, 36, 37, 38, 39, 40, 42, 43, 46, 47, 48, 49, 50, 51, 52, 53, 55]
def jx_p130 : List Nat := [0, 1, 2, 3, 4, 7, 8, 9, 10, 13]
def jx_p131 : List Nat := [0, 1, 2, 3, 6, 9, 12, 13, 14, 15, 17, 19, 20, 23, 24, 26, 28, 29, 30, 33, 34, 37, 40, 43, 46, 47, 48, 51, 54, 55, 58, 59, 60, 62, 65, 67, 68, 69, 70, 71,
  73, 75, 78, 79, 82, 83, 86, 87, 89, 91, 92, 93, 96, 97, 98, 99, 100, 101, 104, 105, 106, 109, 112, 115, 116, 119]
def jx_p132 : List Nat := [0, 1, 3, 5, 8, 9, 10, 11, 12, 13, 14, 15, 18, 19, 22, 23, 24, 27, 28, 29, 30, 31, 32, 35, 36, 37, 38, 39, 42, 45, 46, 49, 50, 53, 54]
def jx_p133 : List Nat := [0, 1, 2, 5, 6, 7, 8, 9, 12, 13, 16, 19, 20, 23, 24, 25, 28, 30, 31, 32, 33, 34, 37, 38, 39, 42, 45, 48, 49, 50, 51, 54, 55, 58, 61, 62, 65, 66, 69, 70,
  71, 74, 75, 78, 81, 83, 84, 87, 88, 91, 92]
def jx_p134 : List Nat := [0, 1, 4, 5, 8, 11, 14]
def jx_p135 : List Nat := [0, 1, 4, 5, 8, 11, 12, 15, 16, 19, 20, 22, 25, 26, 27, 30, 31, 32, 35, 38, 39, 42, 43, 46, 49, 50, 53, 54, 57, 58, 61, 62]
def jx_p136 : List Nat := [0, 1, 2, 5, 8, 9, 10, 11, 12, 15, 16, 17, 20, 21, 22, 23, 24, 25, 28, 29, 30, 33, 36, 37, 40, 43, 44, 46, 49, 50, 53, 55, 58, 59, 62, 63, 64, 65, 66, 69,
  70, 73, 74, 77, 78, 79, 82, 85, 86, 87, 90, 93, 94, 97, 100, 101, 104, 105, 108, 109, 110, 113, 114, 117, 120, 122, 123, 126, 127, 128, 129, 132, 134, 135, 136, 137, 138, 139, 141, 143,
  144, 147, 148, 151, 153, 154, 155, 156, 157, 159, 160, 161, 164, 166, 167, 168, 171, 174, 175]
def jx_p137 : List Nat := [0, 1, 4, 7, 8, 9, 12, 13, 14, 17, 18, 19, 20, 21, 24, 25, 28, 31, 32, 35, 36, 39, 40, 41, 44, 47, 50, 53, 54, 57, 60, 61, 64, 66, 67, 68, 69, 72, 73, 76,
  77, 78, 80, 81, 82, 83, 84, 87, 88, 89, 92, 95, 96, 97, 99, 102, 103, 106, 107, 108, 111, 112, 115, 116, 117, 118, 121, 122, 123, 126, 127, 130, 131, 134, 135, 138, 139, 142, 143, 144,
  145, 146, 147, 150, 153, 154, 157, 158, 161, 164]
def jx_p138 : List Nat := [0, 1, 2, 3, 4, 5, 6, 7, 8, 9, 10, 11, 12, 13, 14, 15, 16, 17, 20, 21, 22, 25, 26, 27, 30, 31, 32, 35, 36, 37]
def jx_p139 : List Nat := [0, 1, 2, 5, 8, 9, 10, 11, 12, 14, 17, 18, 19, 22, 23, 26, 28, 29, 30, 31, 32, 33, 34, 35, 36, 39, 40, 43, 45, 46, 47, 48, 49, 50, 51, 52, 55, 56, 57, 58,
  61, 64, 65]
def jx_p140 : List Nat := [0, 1, 2, 5, 8, 9, 10, 11, 12, 15, 18, 19, 20, 23, 24, 25, 26, 29, 30, 33, 35, 36, 37, 38, 41, 42, 45, 47, 48, 49, 50, 52, 53, 56, 58, 59, 60, 62, 65, 67,
  70, 71, 74, 75, 78, 80, 81, 82, 83, 84, 85, 86, 87, 90, 91, 94, 96, 97, 98, 99, 100, 101, 102, 103]
def jx_p141 : List Nat := [0, 1, 2, 5, 8, 9, 12, 15, 16, 17, 18, 21, 24, 25]
def jx_p142 : List Nat := [0, 1, 2, 5, 6, 7, 8, 9, 10, 11, 12, 13, 14, 17, 19, 20, 21, 22, 24, 25, 28, 29, 32, 33, 34, 37, 38, 39, 40, 41, 42, 43, 44, 46, 48, 51, 53, 55, 58, 59,
  62, 65, 66, 69, 70, 73, 75, 76, 77, 80, 82, 83, 84, 85, 86, 87, 90, 91, 94, 96, 97, 98, 100, 101, 104, 106, 107, 108]
def jx_p143 : List Nat := [0, 1, 2, 5, 8, 9, 10, 13, 16, 17]
def jx_p144 : List Nat := [0, 1, 2, 3, 4, 5, 6, 9, 11, 12, 13, 14, 17, 18, 19, 22, 24, 25, 26, 27, 28, 29, 30, 31, 34, 37, 38, 41, 42, 43, 44, 45, 46, 47, 48, 49, 52, 54, 55, 56,
  57, 58, 59, 60, 61, 62, 63, 66, 67, 68, 71, 72, 73, 76, 77, 80, 81]
def jx_p145 : List Nat := [0, 1, 4, 7, 8, 11, 14, 15, 16, 17, 18, 19, 21, 23, 24, 27, 30, 31, 32, 33, 35, 36, 39, 42, 43, 45, 46, 49, 50, 51, 52, 55, 58, 59]
def jx_p146 : List Nat := [0, 1, 2, 3, 6, 9, 10, 11, 12, 15, 16, 19, 20, 21, 24, 25, 28, 29, 30, 31, 34, 35, 38, 39]
def jx_p147 : List Nat := [0, 1, 2, 3, 6, 7, 8, 11, 12, 13, 16, 17, 18, 19, 20, 21, 22, 23, 24, 27, 28, 29, 30, 31, 32, 33, 34, 37, 38, 39, 40, 43, 44, 45, 48, 49, 51, 54, 55, 58,
  59, 60, 63, 64, 67, 68, 69, 72, 73, 76, 77, 79, 80, 82, 84, 85, 88, 89, 92, 94, 95, 98, 99, 101, 102, 105, 107, 109, 112, 113, 116, 117, 119, 120, 121, 122, 125, 126, 127, 128,
  129, 132, 134, 137, 139, 140, 143, 144, 147, 148, 151, 152, 154, 157, 160, 162]
def jx_p148 : List Nat := [0, 1, 2, 5, 8, 9, 10, 13, 16, 17, 18, 19, 22, 25, 26]
def jx_p149 : List Nat := [0, 1, 4, 6, 7, 8, 9, 10, 11, 14, 16, 17, 18, 19, 20, 23, 25, 26, 27, 28, 29, 30, 33, 35, 36, 37, 38, 41]
def jx_p150 : List Nat := [0, 1, 3, 4, 6, 8, 9, 12, 14, 16, 19, 21, 22, 25, 27, 29, 32, 33, 34, 36, 37, 38, 39, 41, 43, 44, 45, 46, 49, 50, 52, 54, 56, 59, 61, 62, 65, 67, 68, 70,
  73, 76, 78]
def jx_p151 : List Nat := [0, 1, 2, 3, 6, 9, 12, 13, 14, 15, 18, 19, 20, 21, 24, 25]
def jx_p152 : List Nat := [0, 1, 2, 3, 6, 9, 12, 13, 14, 15, 18, 19, 20, 21, 22, 23, 24, 25, 28, 29, 32, 33, 34, 35, 36, 39, 40, 43, 44, 45, 46, 47, 48, 49, 52, 53]
def jx_p153 : List Nat := [0, 1, 4, 5, 8, 11, 12, 13, 16, 17, 20, 23, 24, 25, 28, 29, 32, 35, 36, 37, 40, 41, 44, 47, 50, 51]
def jx_p154 : List Nat := [0, 1, 2, 3, 4, 5, 8, 11, 12, 13, 14, 15, 16, 17, 20, 21]
def jx_p155 : List Nat := [0, 1, 4, 7, 8, 9, 10, 13, 16, 19, 20, 21, 22, 25, 28, 31, 33, 34, 35, 38, 41, 44, 45, 46, 47, 50, 52, 55, 57, 58, 59, 62, 63, 64, 67, 68, 69, 70, 71, 74,
  75, 76, 79, 80, 81, 82, 83, 84, 85, 88, 89, 90, 93, 94, 95, 96, 97, 98, 99, 102, 103, 104, 107, 108, 109, 110, 112, 113, 114, 115, 118, 119, 120, 123, 124, 127, 128, 129]
def jx_p156 : List Nat := [0, 1, 2, 3, 4, 7, 8, 9, 10, 13, 16, 17, 18, 19, 22, 25, 28, 29, 30, 31, 34, 35, 38, 39, 42, 43, 44, 47, 48, 49, 52, 53, 56, 57, 58, 61, 62, 65, 66, 67]
def jx_p157 : List Nat := [0, 1, 2, 3, 4, 7, 10, 11, 14, 15, 17, 18, 19, 22, 23, 25, 26, 27, 30, 31, 33, 34, 35, 38, 39, 40, 41, 44, 47, 48, 49, 50, 52, 55, 56, 57, 58, 59, 62, 65,
  66, 69, 70, 71, 74, 75, 78, 79, 80, 81, 84, 85, 86, 89, 90, 93, 94, 95, 98, 99, 100, 103, 104, 105, 108, 109, 110, 111, 112, 113, 114, 115, 118, 119, 120, 121, 122, 123, 126, 128,
  129, 132, 133, 135, 136, 137, 140, 141, 143, 146, 148, 151, 152, 153, 155, 158, 159, 160, 163, 164, 165, 166, 167, 170, 171, 172, 173, 174, 175, 176, 179, 180, 183, 184, 186, 187, 190, 191, 192, 193,
  195, 198, 199, 202, 203, 204, 205, 206, 209, 210, 212, 215, 217, 220, 221, 224, 225, 226, 227, 228, 231, 232, 233, 234, 237, 240, 241, 244, 245, 246, 247, 250, 251, 252, 253, 254, 255, 256, 257, 258,
  259, 260, 263, 266, 269, 272]
def jx_p158 : List Nat := [0, 2, 4, 5, 8, 9, 10, 12, 14, 17, 18, 21, 22, 24, 25, 26, 27, 30, 31, 33, 34, 37, 38, 41, 43, 46, 48, 50, 53, 56, 58]
def jx_p159 : List Nat := [0, 1, 2, 3, 5, 7, 8, 11, 14, 15, 18, 19, 20, 23, 24, 25, 26, 27, 29, 30, 33, 36, 37, 39, 41, 42, 45, 48, 49, 52, 53, 56, 57, 59, 60, 61, 62, 65, 66, 67,
  68, 69, 70, 71, 74, 75, 77, 79, 82, 83, 86, 89, 90, 93, 94, 95, 98, 101, 104, 107, 108]
def jx_p160 : List Nat := [0, 1, 2, 5, 8, 9, 10, 13, 16, 17]
def jx_p161 : List Nat := [0, 1, 4, 5, 6, 7, 8, 9, 10, 13, 16, 17, 18, 21, 22, 23, 24, 27, 28, 31, 32, 33, 34, 37, 40, 41]
def jx_p162 : List Nat := [0, 1, 2, 3, 6, 9, 12, 13, 14, 15, 18, 19, 20, 21, 22, 23, 25, 27, 28, 31, 34, 35, 36, 39, 41, 42, 45, 46, 49, 50, 51, 52, 53, 54, 57, 59, 60, 61, 62, 65,
  68, 69, 71, 72, 74, 76, 78, 81, 82, 84, 86, 87, 90, 93, 95, 96, 98, 100, 103, 106, 107, 110, 111, 112, 114, 117, 120, 123, 126, 127, 130, 131, 134, 135, 136, 139, 140, 143, 145]
def jx_p163 : List Nat := [0, 1, 2, 5, 8, 9, 10, 11, 14, 17, 20, 21, 22, 23, 26, 27, 28, 29, 30, 31, 32, 33, 34, 36, 37, 39, 40, 42, 44, 46, 49, 50, 53, 54, 55, 56, 57, 58, 59, 61,
  62, 63, 64, 65, 66, 68, 69, 70, 71, 74, 75, 78, 80, 83, 84, 85, 88, 90, 92, 94, 97, 99, 102, 104, 106, 108, 110, 113, 115, 118, 120, 122, 125, 128, 129, 131, 134, 135, 138, 139,
  140, 141, 142, 143, 144, 145, 146, 149, 150, 152, 153, 154, 155, 158, 159, 160, 163, 165, 166, 167, 170, 172]
def jx_p164 : List Nat := [0, 1, 2, 5, 8, 9, 10, 13, 16, 17, 18, 21, 22, 23, 24, 27, 30, 33, 34, 35, 36, 39, 40, 41, 42, 43, 44, 45, 47, 48, 51, 52, 53, 54, 55, 56, 57, 59, 60, 62,
  64, 66, 69, 70, 73, 74, 75, 76, 77, 78, 80, 82, 84, 85, 86, 87, 88, 91, 92, 93, 94, 95, 96, 98, 100, 102, 103, 104, 105, 106, 109, 111, 112, 113, 116, 117, 118, 121, 123, 124,
  125, 126, 128, 130, 131, 134, 137, 138, 141, 143, 144, 145, 146, 149, 151, 152, 153, 156, 157, 160, 161, 162, 163, 166, 169, 172, 175, 176, 179, 180, 181, 182, 183, 184, 186, 187, 188, 191, 192, 193,
  194, 195, 196, 198, 199, 200, 202, 204, 206, 208, 210, 212, 215, 216, 218, 219, 221, 223, 225, 228, 230, 233, 234, 237, 239, 241, 242, 244, 246, 247, 248, 249, 250, 253, 255, 256, 259, 260, 263, 265,
  267, 268, 270, 271, 273, 274, 275, 276, 279, 281, 282, 285, 286, 289, 290, 292, 295, 298, 300, 302, 305, 306, 309, 310, 311, 313, 315, 318, 320, 323, 325, 327, 330, 333, 334, 337, 339, 342, 344, 347,
  349, 352, 354, 355, 356, 359, 361, 363, 364, 367, 369, 371, 372, 373]
def jx_p165 : List Nat := [0, 1, 2, 3, 6, 9, 12, 13, 14, 15, 18, 21, 24, 25, 26, 27, 30, 33, 36, 38, 39, 42, 43, 44, 45, 46, 49, 52, 53, 54, 56, 58, 59, 61, 62, 63, 66, 68, 71, 72,
  73, 76, 78, 81, 84, 86, 87, 89, 91, 93, 96, 97, 99, 100, 103, 104, 107, 108, 109, 110, 111, 114, 115, 118, 119, 120, 123, 124, 125, 126, 127, 130, 131, 134, 135, 136, 139, 140, 141, 143,
  144, 145, 148, 150, 151, 153, 154, 155, 156, 157, 158, 159, 162, 164, 166, 169, 170, 173, 174, 176, 178, 181, 183, 186, 188, 190, 192, 195, 197, 200, 202, 204, 207, 210, 212, 215, 217, 218, 219, 221,
  222, 225, 227, 230, 232, 235, 236, 239, 241, 242]
def jx_p166 : List Nat := [0, 1, 2, 3, 4, 5, 7, 9, 12, 13, 16, 18, 19, 21, 22, 23, 24, 26, 27, 28, 31, 34]
def jx_p167 : List Nat := [0, 1, 2, 3, 5, 8, 9, 10, 11, 12, 15, 18, 19, 22, 23, 24, 25, 28, 30, 31, 32, 33, 34, 35, 38, 40, 41, 42, 43, 46, 48, 49, 52, 55, 57, 58, 61, 62, 65, 66,
  68, 69, 71, 74, 75, 78, 79, 82, 85, 87, 90, 92, 95, 96, 97, 100, 103, 104]
def jx_p168 : List Nat := [0, 1, 4, 7, 8, 9, 12, 15, 16]
def jx_p169 : List Nat := [0, 1, 2, 3, 4, 5, 7, 10, 11, 13, 15, 16, 19, 22, 23, 24, 25, 27, 28, 31, 34, 35, 38, 39, 40, 41, 44, 47, 50, 53, 54]
def jx_p170 : List Nat := [0, 1, 4, 7, 8, 9, 10, 13, 16, 19, 20, 21, 22, 25, 26, 28, 30, 31, 33, 35, 37, 40, 41, 43, 46, 48, 51, 53, 56, 58, 61, 64, 65, 68, 69, 71, 73, 76, 77, 78,
  81, 82, 85, 87, 90, 92, 94, 97, 100, 101, 102, 105, 107]
def jx_p171 : List Nat := [0, 1, 2, 3, 6, 9, 12, 13, 14, 17, 20, 22, 23, 24, 27, 28, 29, 30, 33, 35, 36, 37, 40, 41, 42, 43, 44, 47, 48, 49, 52, 54, 55, 56, 59, 61, 63, 64]
def jx_p172 : List Nat := [0, 1, 4, 7, 8, 11, 14, 15, 16, 17, 20, 22, 25, 27, 28, 29, 32, 33, 34, 37, 38, 39, 40, 41, 44, 45, 46, 49, 50, 51, 52, 53, 54, 55, 58, 59, 60, 63, 64, 65,
  66, 67, 70, 71, 74, 75, 76, 77, 78, 81, 82, 83, 86, 87, 90]
def jx_p173 : List Nat := [0, 1, 2, 5, 8, 9, 10, 11, 14, 17, 20, 21, 22, 23, 26, 27, 28, 29, 30, 31, 32, 33, 34, 36, 38, 40, 42, 44, 45, 46, 49, 50, 52, 54, 56, 59, 60, 63, 64, 65,
  66, 67, 68, 70, 71, 72, 74, 75, 77, 79, 80, 83, 86, 88, 91, 92, 93, 96, 97, 99, 100, 101, 102, 103, 106, 107, 109, 110, 111, 112, 113, 116, 117, 120, 121, 123, 124, 125, 126, 127,
  128, 131, 132, 135, 136, 139, 140, 143, 144, 146, 149, 152, 154, 156, 159, 160, 163, 164, 165, 167, 169, 172, 174, 177, 179, 182, 184, 186, 188, 191, 193, 196, 198, 200, 203, 206, 207, 209, 212, 213,
  216, 217, 218, 219, 220, 221, 222, 223, 224, 227, 229, 232, 233, 234, 237, 239, 242, 244]
def jx_p174 : List Nat := [0, 1, 4, 5, 6, 7, 10, 11]
def jx_p175 : List Nat := [0, 1, 2, 5, 8, 9, 12, 15, 16, 17, 18, 21, 22, 23, 24, 26, 28, 30, 32, 34, 37, 38, 41, 42, 44, 45, 46, 47, 48, 51, 54, 56, 59, 61, 63, 66, 69, 70, 73, 74,
  75, 76, 78]
def jx_p176 : List Nat := [0, 1, 2, 3, 5, 7, 9, 12, 13, 14, 15, 16, 18, 21, 24, 25, 28, 29, 30, 31, 34, 37, 38]
def jx_p177 : List Nat := [0, 1, 2, 5, 8, 9, 12, 15, 16, 17, 18, 21, 24, 25]
def jx_p178 : List Nat := [0, 1, 4, 5, 8, 9, 12, 13, 14, 17, 18, 21, 22, 25, 26, 27, 30, 31, 34, 35, 38, 39, 40, 43, 44, 47, 48, 51, 52, 53, 56, 57, 60, 61, 64, 65, 66, 69, 70, 73,
  74, 77, 78, 79, 82, 83, 84, 87, 88, 89, 92, 93, 94, 95, 96, 99, 100, 101, 104, 105, 106, 107, 108, 111, 112, 113, 116, 117, 118, 119, 120, 123, 124, 125, 128, 129, 130, 131, 132, 135,
  136, 137, 138, 141, 142]
def jx_p179 : List Nat := [0, 1, 2, 3, 4, 5, 8, 9, 10, 11, 12, 13, 14, 15, 16, 19, 22, 23, 24, 25, 26]
def jx_p180 : List Nat := [0, 1, 4, 7, 9, 10, 11, 14, 15, 16, 19, 22, 23, 24, 27, 28, 29, 32, 35, 36, 37, 40, 41, 42, 45, 48, 49, 50, 53, 54, 55, 58, 61, 62, 63, 66, 67, 68, 71, 74,
  75, 76, 79, 80, 81, 84, 87, 88, 89, 90, 93, 94, 95, 98, 99, 100, 103, 104, 105, 106, 107, 110, 111, 112, 115, 116, 117, 118, 119, 122, 123, 124, 127, 128, 129, 130, 131, 134, 135, 136,
  139, 140, 141, 142, 143, 146, 147]
def jx_p181 : List Nat := [0, 1, 2, 3, 4, 5, 8, 9, 10, 11, 12, 13, 14, 15, 16, 19, 22, 23, 24, 25, 26]
def jx_p182 : List Nat := [0, 1, 4, 7, 8, 11, 14, 16, 17, 18, 21, 24, 27, 29, 30, 31, 34, 37, 40, 42, 43, 46, 48, 49, 50, 51, 54, 57, 58, 59, 60, 61, 62, 63, 65, 67, 68, 71, 73, 75,
  78, 80, 81, 83, 84, 85, 86, 87, 89, 90, 92, 94, 96, 98, 99, 102, 103, 106, 108, 110, 111, 112, 113, 114, 117, 120, 123, 125, 126, 129, 132, 133, 135, 137, 139, 142, 143, 145, 146, 148,
  150, 152, 155, 156, 158, 159, 161, 163, 165, 168, 170, 171, 174, 176, 178, 180, 181, 182, 184, 185, 186, 188, 191, 192, 195, 196, 197, 199, 202, 205, 206, 209, 211, 213, 215, 218, 220, 223, 224, 227,
  229, 230, 231, 233, 235, 238, 240, 243, 245, 247, 250, 253, 256, 259, 261, 264, 265, 268, 270, 271, 272, 273, 275, 278, 279, 280, 283]
def jx_p183 : List Nat := [0, 1, 2, 3, 6, 9]
def jx_p184 : List Nat := [0, 1, 2, 3, 6, 9]
def jx_p185 : List Nat := [0, 1, 4, 5, 6, 9, 11, 12, 13, 16, 17, 18, 19, 22, 24, 25, 26, 29, 30, 31, 33, 34, 35, 36, 39, 40, 41, 42, 43, 46, 48, 51, 52]
def jx_p186 : List Nat := [0, 1, 4, 7, 8, 11, 14, 16, 17, 18, 21, 24, 27, 29, 30, 31, 34, 37, 40, 42, 43, 44, 46, 47, 48, 49, 52, 55, 56, 57, 58, 59, 60, 61, 63, 65, 66, 67, 68, 71,
  73, 75, 78, 80, 81, 83, 84, 85, 86, 87, 89, 90, 92, 94, 96, 98, 99, 100, 101, 104, 106, 108, 109, 110, 111, 114, 115, 118, 120, 122, 123, 124, 125, 126, 129, 132, 135, 137, 138, 141,
  144, 146, 148, 149, 150, 152, 153, 154, 156, 158, 160, 161, 163, 164, 166, 168, 170, 173, 175, 177, 178, 179, 181, 182, 183, 185, 186, 189, 191, 192, 193, 195, 196, 199, 201, 202, 203, 205, 208, 210,
  211, 214, 216, 217, 218, 221, 223, 224, 227, 229, 232, 234, 236, 239, 240, 243, 244, 246, 248, 251, 253, 256, 258, 260, 262, 265, 267, 270, 272, 274, 277, 280, 282]
def jx_p187 : List Nat := [0, 1, 4, 7, 8, 11, 14, 15, 17, 20, 21, 22, 23, 26, 28, 29, 30, 33, 34, 35, 36, 37, 40, 41, 42, 43, 44, 46, 48, 50, 53, 54, 57, 59, 60, 61, 63, 64, 65, 66,
  69, 72, 73]
def jx_p188 : List Nat := [0, 1, 4, 7, 8, 9, 10, 13, 14, 15, 18, 20, 21, 22, 25, 26, 27, 28, 29, 32, 33, 34]
def jx_p189 : List Nat := [0, 1, 4, 7, 8, 11, 14, 15, 16, 17, 18, 19, 20, 21, 24, 26, 28, 31, 33, 34, 35, 38, 40, 41, 42, 43, 44, 45, 48, 50, 51, 54, 55, 56, 59, 61, 62, 65, 67, 68,
  69]
def jx_p190 : List Nat := [0, 1, 4, 7, 8, 11, 14, 15, 16, 17, 20, 21, 22, 25, 26, 29, 30, 31, 34, 36, 37, 38, 41, 42, 43, 44, 47, 48, 49, 52, 54, 55, 57, 60, 61, 62, 63, 66, 67, 68,
  69, 71, 74, 77, 78, 79, 80, 83, 84, 85, 87, 89, 92, 95, 97, 98, 99, 101, 103, 105, 108, 109, 112, 114, 115, 118, 120, 121, 122, 123, 124, 126, 127, 128, 129, 132, 135, 136, 138, 140,
  142, 145, 146, 149, 151, 152, 153, 155, 156, 158, 159, 160, 163, 165, 166, 167, 170, 173, 175]
def jx_p191 : List Nat := [0, 3, 4, 7, 8, 11, 12, 15, 16, 17, 18, 19, 20, 21, 23, 24, 27, 28, 29, 30, 32, 33, 200, 201, 202, 203, 204, 205, 206, 207, 208, 209, 210, 211, 214, 215, 216, 217, 218, 219,
  220, 221, 222, 223, 224, 225, 228, 231, 232, 233, 234, 235, 236, 237, 238, 239, 240, 241, 242, 243, 244, 245, 246, 247, 248, 249, 252, 253, 254, 255, 256, 257, 258, 259, 260, 261, 262, 263, 264, 265,
  266, 267, 268, 271, 274, 275, 276, 277, 278, 279, 280, 281, 282, 283, 284, 285, 286, 287, 288, 289, 290, 291, 292, 295, 296, 297, 298, 299, 300, 301, 302, 303, 304, 305, 306, 307, 308, 309, 310, 311,
  314, 317, 318, 319, 320, 321, 322, 323, 324, 325, 326, 328, 329, 330, 331, 332, 333, 334, 335, 338, 339, 340, 341, 342, 343, 344, 345, 348, 349, 350, 351, 352, 353, 354, 355, 357, 358, 359, 360, 361,
  362, 363, 364, 367, 368, 369, 370, 371, 372, 373, 374, 377, 380, 381, 382, 383, 386, 387, 390, 393, 394, 395, 396, 397, 398, 399, 400, 401, 404, 405, 406, 407, 408, 409, 410, 413, 416, 417, 418, 419,
  420, 421, 422, 423, 424, 427, 428, 429, 430, 431, 432, 433, 436, 439, 440, 441, 442, 443, 444, 445, 446, 447, 448, 449, 450, 451, 452, 453, 454, 455, 456, 457, 460, 461, 462, 463, 464, 465, 466, 467,
  468, 469, 470, 471, 472, 473, 474, 475, 476, 479, 482, 483, 484, 485, 486, 487, 488, 489, 490, 491, 492, 493, 494, 495, 498, 499, 500, 501, 502, 503, 504, 505, 506, 507, 508, 509, 512, 515, 516, 517,
  518, 519, 520, 521, 522, 523, 526, 527, 528, 529, 530, 531, 532, 535, 538, 539, 540, 541, 542, 543, 544, 545, 546, 547, 548, 549, 550, 551, 554, 555, 556, 557, 558, 559, 560, 561, 562, 563, 564, 565,
  568, 571, 572, 573, 574, 575, 576, 577, 578, 579, 580, 581, 582, 583, 584, 587, 588, 589, 590, 591, 592, 593, 594, 595, 596, 597, 598, 601, 604, 605, 606, 607, 608, 609, 610, 611, 612, 615, 616, 617,
  618, 619, 620, 621, 624, 627, 628, 629, 630, 631, 632, 633, 634, 635, 636, 637, 638, 639, 640, 643, 644, 647, 648, 651, 652, 653, 654, 655, 656, 657, 658, 659, 660, 661, 662, 665, 666, 669, 670, 673,
  676, 677, 678, 679, 680, 681, 682, 683, 684, 687, 688, 689, 690, 691, 692, 693, 696, 699, 700, 701, 702, 703, 704, 705, 706, 707, 708, 709, 710, 711, 712, 713, 714, 715, 716, 717, 718, 719, 720, 721,
  722, 725, 726, 727, 728, 729, 730, 731, 732, 733, 734, 735, 736, 737, 738, 739, 740, 741, 742, 743, 744, 745, 746, 749, 752, 753, 754, 755, 756, 757, 758, 759, 760, 761, 762, 763, 764, 765, 768, 769,
  770, 771, 772, 773, 774, 775, 776, 777, 778, 779, 782, 785, 786, 787, 788, 789, 790, 791, 792, 793, 796, 797, 798, 799, 800, 801, 802, 805, 808, 809, 810, 811, 812, 813, 814, 815, 816, 819, 820, 821,
  822, 823, 824, 825, 828, 831, 832, 833, 834, 835, 836, 837, 838, 839, 840, 841, 842, 843, 844, 847, 848, 849, 850, 851, 852, 853, 854, 855, 856, 857, 858, 861, 864, 865, 866, 867, 868, 869, 870, 871,
  872, 873, 874, 875, 876, 877, 878, 879, 880, 881, 882, 885, 886, 887, 888, 889, 890, 891, 892, 893, 894, 895, 896, 897, 898, 899, 900, 901, 904, 907, 908, 909, 910, 911, 912, 913, 914, 915, 916, 917,
  918, 919, 920, 921, 922, 923, 924, 925, 926, 927, 928, 929, 930, 933, 934, 935, 936, 937, 938, 939, 940, 941, 942, 943, 944, 945, 946, 947, 948, 949, 950, 951, 952, 953, 954, 957, 960, 961, 962, 963,
  964, 965, 966, 967, 968, 971, 972, 973, 974, 975, 976, 977, 980, 983, 984, 985, 986, 987, 988, 989, 990, 991, 992, 993, 994, 995, 996, 999, 1000, 1001, 1002, 1003, 1004, 1005, 1006, 1007, 1008, 1009, 1010, 1013,
  1016, 1017, 1018, 1019, 1020, 1021, 1022, 1023, 1024, 1025, 1026, 1027, 1028, 1029, 1032, 1033, 1034, 1035, 1036, 1037, 1038, 1039, 1040, 1041, 1042, 1043, 1046, 1049, 1050, 1051, 1052, 1053, 1054, 1055, 1056, 1057, 1058, 1059, 1060, 1061,
  1062, 1063, 1064, 1065, 1066, 1067, 1070, 1071, 1074, 1075, 1078, 1079, 1080, 1081, 1082, 1083, 1084, 1085, 1086, 1087, 1088, 1089, 1090, 1091, 1092, 1093, 1094, 1097, 1098, 1101, 1102, 1105, 1108, 1109, 1110, 1111, 1112, 1113, 1114, 1115,
  1116, 1117, 1118, 1119, 1120, 1121, 1124, 1125, 1126, 1127, 1128, 1129, 1130, 1131, 1132, 1133, 1134, 1135, 1138, 1141, 1142, 1143, 1144, 1147, 1148, 1151, 1154, 1155, 1156, 1157, 1158, 1159, 1160, 1161, 1162, 1163, 1164, 1165, 1166, 1167,
  1170, 1171, 1172, 1173, 1174, 1175, 1176, 1177, 1178, 1179, 1180, 1181, 1184, 1187, 1188, 1189, 1190, 1191, 1192, 1193, 1194, 1195, 1196, 1197, 1198, 1199, 1200, 1203, 1204, 1205, 1206, 1207, 1208, 1209, 1210, 1211, 1212, 1213, 1214, 1217,
  1220, 1221, 1222, 1223, 1226, 1227, 1230, 1233, 1234, 1235, 1236, 1239, 1240, 1243, 1246, 1247, 1248, 1249, 1250, 1251, 1252, 1253, 1254, 1255, 1256, 1257, 1258, 1259, 1260, 1261, 1262, 1263, 1264, 1265, 1266, 1267, 1268, 1269, 1270, 1271,
  1272, 1273, 1274, 1275, 1276, 1278, 1279, 1280, 1283, 1284, 1285, 1286, 1287, 1288, 1289, 1290, 1291, 1292, 1293, 1294, 1295, 1296, 1297, 1298, 1299, 1300, 1301, 1302, 1303, 1304, 1305, 1306, 1307, 1308, 1309, 1310, 1311, 1313, 1314, 1315,
  1318, 1321, 1322, 1323, 1324, 1325, 1326, 1327, 1328, 1329, 1330, 1331, 1332, 1333, 1334, 1335, 1336, 1337, 1338, 1339, 1340, 1341, 1342, 1343, 1344, 1345, 1346, 1347, 1348, 1349, 1350, 1351, 1353, 1354, 1355, 1358, 1359, 1360, 1361, 1362,
  1363, 1364, 1365, 1366, 1367, 1368, 1369, 1370, 1371, 1372, 1373, 1374, 1375, 1376, 1377, 1378, 1379, 1380, 1381, 1382, 1383, 1384, 1385, 1386, 1388, 1389, 1390, 1393, 1396, 1397, 1398, 1399, 1400, 1401, 1402, 1403, 1404, 1405, 1406, 1407,
  1408, 1409, 1410, 1411, 1412, 1413, 1414, 1417, 1418, 1419, 1420, 1421, 1422, 1423, 1424, 1425, 1426, 1427, 1428, 1429, 1430, 1431, 1432, 1433, 1436, 1439, 1440, 1441, 1442, 1443, 1444, 1445, 1446, 1447, 1450, 1451, 1452, 1453, 1454, 1455,
  1456, 1459, 1462, 1463, 1464, 1465, 1466, 1467, 1468, 1469, 1470, 1471, 1472, 1473, 1474, 1475, 1476, 1477, 1478, 1479, 1480, 1481, 1482, 1483, 1484, 1485, 1488, 1489, 1490, 1491, 1492, 1493, 1494, 1495, 1496, 1497, 1498, 1499, 1500, 1501,
  1502, 1503, 1504, 1505, 1506, 1507, 1508, 1509, 1512, 1515, 1516, 1517, 1518, 1519, 1520, 1521, 1522, 1523, 1524, 1525, 1526, 1527, 1528, 1529, 1530, 1531, 1532, 1533, 1534, 1535, 1536, 1537, 1538, 1539, 1540, 1541, 1542, 1543, 1546, 1547,
  1548, 1549, 1550, 1551, 1552, 1553, 1554, 1555, 1556, 1557, 1558, 1559, 1560, 1561, 1562, 1563, 1564, 1565, 1566, 1567, 1568, 1569, 1570, 1571, 1572, 1575, 1578, 1579, 1580, 1583, 1586, 1587]
def jx_pcs : List (List Nat) := [jx_p0, jx_p1, jx_p2, jx_p3, jx_p4, jx_p5, jx_p6, jx_p7, jx_p8, jx_p9, jx_p10, jx_p11,
  jx_p12, jx_p13, jx_p14, jx_p15, jx_p16, jx_p17, jx_p18, jx_p19, jx_p20, jx_p21, jx_p22, jx_p23,
  jx_p24, jx_p25, jx_p26, jx_p27, jx_p28, jx_p29, jx_p30, jx_p31, jx_p32, jx_p33, jx_p34, jx_p35,
  jx_p36, jx_p37, jx_p38, jx_p39, jx_p40, jx_p41, jx_p42, jx_p43, jx_p44, jx_p45, jx_p46, jx_p47,
  jx_p48, jx_p49, jx_p50, jx_p51, jx_p52, jx_p53, jx_p54, jx_p55, jx_p56, jx_p57, jx_p58, jx_p59,
  jx_p60, jx_p61, jx_p62, jx_p63, jx_p64, jx_p65, jx_p66, jx_p67, jx_p68, jx_p69, jx_p70, jx_p71,
  jx_p72, jx_p73, jx_p74, jx_p75, jx_p76, jx_p77, jx_p78, jx_p79, jx_p80, jx_p81, jx_p82, jx_p83,
  jx_p84, jx_p85, jx_p86, jx_p87, jx_p88, jx_p89, jx_p90, jx_p91, jx_p92, jx_p93, jx_p94, jx_p95,
  jx_p96, jx_p97, jx_p98, jx_p99, jx_p100, jx_p101, jx_p102, jx_p103, jx_p104, jx_p105, jx_p106, jx_p107,
  jx_p108, jx_p109, jx_p110, jx_p111, jx_p112, jx_p113, jx_p114, jx_p115, jx_p116, jx_p117, jx_p118, jx_p119,
  jx_p120, jx_p121, jx_p122, jx_p123, jx_p124, jx_p125, jx_p126, jx_p127, jx_p128, jx_p129, jx_p130, jx_p131,
  jx_p132, jx_p133, jx_p134, jx_p135, jx_p136, jx_p137, jx_p138, jx_p139, jx_p140, jx_p141, jx_p142, jx_p143,
  jx_p144, jx_p145, jx_p146, jx_p147, jx_p148, jx_p149, jx_p150, jx_p151, jx_p152, jx_p153, jx_p154, jx_p155,
  jx_p156, jx_p157, jx_p158, jx_p159, jx_p160, jx_p161, jx_p162, jx_p163, jx_p164, jx_p165, jx_p166, jx_p167,
  jx_p168, jx_p169, jx_p170, jx_p171, jx_p172, jx_p173, jx_p174, jx_p175, jx_p176, jx_p177, jx_p178, jx_p179,
  jx_p180, jx_p181, jx_p182, jx_p183, jx_p184, jx_p185, jx_p186, jx_p187, jx_p188, jx_p189, jx_p190, jx_p191]
end
section
/-! A small machine over whole numbers: values are an int, a long (both as mathematical integers) or a reference (a sort of cell, its number); memory is what each place of each cell holds. -/
abbrev jx_V : Type := Int ⊕ Int ⊕ (Nat × Nat)
abbrev jx_M : Type := Nat → Nat → Nat → Int
abbrev jx_L : Type := List (Option jx_V)
abbrev jx_R : Type := Instr × Nat × Nat × Int
abbrev xI (z : Int) : jx_V := .inl z
abbrev xL (z : Int) : jx_V := .inr (.inl z)
abbrev xA (s i : Nat) : jx_V := .inr (.inr (s, i))
abbrev jx_in (z : Int) : Prop := -2147483648 ≤ z ∧ z ≤ 2147483647
abbrev jx_inL (z : Int) : Prop := -9223372036854775808 ≤ z ∧ z ≤ 9223372036854775807
def jx_nth {β : Type} : List β → Nat → β → β
  | [], _, d => d
  | x :: _, 0, _ => x
  | _ :: l, k + 1, d => jx_nth l k d
-- the layout: sorts, fields, order of making
def jx_sK (s : Nat) : Nat := (jx_nth jx_srt s (9, 0, 0, 0, 0)).1
def jx_sP (s : Nat) : Nat := (jx_nth jx_srt s (9, 0, 0, 0, 0)).2.1
def jx_sC (s : Nat) : Nat := (jx_nth jx_srt s (9, 0, 0, 0, 0)).2.2.1
def jx_sE (s : Nat) : Nat := (jx_nth jx_srt s (9, 0, 0, 0, 0)).2.2.2.1
def jx_sT (s : Nat) : Nat := (jx_nth jx_srt s (9, 0, 0, 0, 0)).2.2.2.2
def jx_fT (s k : Nat) : Nat × Nat × Nat × Nat := jx_nth (jx_nth jx_fld (jx_sP s) []) k (9, 0, 0, 0)
def jx_posA : List (Nat × Nat) → Nat → Nat → Nat
  | [], _, _ => 0
  | q :: l, s, i => bif Nat.beq q.1 s && Nat.beq q.2 i then 0 else jx_posA l s i + 1
def jx_pos (s i : Nat) : Nat := jx_posA jx_lay s i
def jx_ix (mode b j : Nat) : Nat := match mode with
  | 0 => b
  | _ + 1 => j
def jx_el (s j : Nat) (z : Int) : Nat := match jx_sT s with
  | 0 => z.toNat
  | k + 1 => (k + 1) * j + z.toNat
def jx_mA (y : Nat) : Nat := (jx_nth jx_mt y (0, false, 0, 0, 0, 0)).1
def jx_mV (y : Nat) : Bool := (jx_nth jx_mt y (0, false, 0, 0, 0, 0)).2.1
def jx_mL (y : Nat) : Nat := (jx_nth jx_mt y (0, false, 0, 0, 0, 0)).2.2.1
def jx_mC (y : Nat) : Nat := (jx_nth jx_mt y (0, false, 0, 0, 0, 0)).2.2.2.1
def jx_mF (y : Nat) : Nat := (jx_nth jx_mt y (0, false, 0, 0, 0, 0)).2.2.2.2.1
def jx_mO (y : Nat) : Nat := (jx_nth jx_mt y (0, false, 0, 0, 0, 0)).2.2.2.2.2
def jx_row (x i : Nat) : jx_R := jx_nth (jx_nth jx_cd x []) i (.nop, 0, 0, 0)
end
section
def jx_gw : List Jvm.Cond := lw_tbl.filter goodWord
def jx_mns : List MethodName := [⟨"StreetCries", "<init>", "()V"⟩, ⟨"StreetCries$Town", "<init>", "()V"⟩, ⟨"java/util/Arrays", "fill", "([II)V"⟩, ⟨"StreetCries$Seller", "<init>", "()V"⟩,
  ⟨"StreetCries$Buyer", "<init>", "()V"⟩, ⟨"StreetCries$Window", "<init>", "()V"⟩, ⟨"StreetCries$Trial", "<init>", "()V"⟩, ⟨"StreetCries$Day", "<init>", "()V"⟩,
  ⟨"StreetCries$Tape", "<init>", "()V"⟩, ⟨"StreetCries$Sheet", "<init>", "()V"⟩, ⟨"StreetCries", "noise", "(II)I"⟩, ⟨"StreetCries", "isCorner", "(I)Z"⟩,
  ⟨"StreetCries", "isWithin", "(III)Z"⟩, ⟨"StreetCries", "seller", "(III)I"⟩, ⟨"StreetCries", "isKind", "(I)Z"⟩, ⟨"StreetCries", "isLoud", "(I)Z"⟩,
  ⟨"StreetCries$Seller", "comeAs", "(III)V"⟩, ⟨"StreetCries", "liftOf", "([II)I"⟩, ⟨"StreetCries", "of", "(III)I"⟩, ⟨"StreetCries$Town", "hasSeller", "(I)Z"⟩,
  ⟨"StreetCries$Seller", "change", "(II)I"⟩, ⟨"StreetCries", "isMinute", "(I)Z"⟩, ⟨"StreetCries", "type", "(JI)I"⟩, ⟨"StreetCries$Tape", "isTypable", "(JI)Z"⟩,
  ⟨"StreetCries$Tape", "byteOf", "(JI)I"⟩, ⟨"StreetCries$Tape", "append", "(JI)I"⟩, ⟨"StreetCries", "town", "()I"⟩, ⟨"StreetCries$Tape", "readDigits", "([III)I"⟩,
  ⟨"StreetCries$Tape", "isDigit", "(I)Z"⟩, ⟨"StreetCries$Tape", "clear", "()V"⟩, ⟨"StreetCries", "round", "(I)I"⟩, ⟨"StreetCries$Tape", "readRound", "([I)I"⟩,
  ⟨"java/lang/Math", "min", "(II)I"⟩, ⟨"StreetCries$Tape", "behindBlanks", "(I)I"⟩, ⟨"StreetCries$Tape", "behindDigits", "(I)I"⟩, ⟨"StreetCries$Tape", "numberIn", "(II)I"⟩,
  ⟨"StreetCries", "far", "(II)I"⟩, ⟨"java/lang/Math", "abs", "(I)I"⟩, ⟨"StreetCries$Seller", "takeRound", "([II)V"⟩, ⟨"StreetCries", "tune", "(I)I"⟩,
  ⟨"StreetCries$Seller", "takeTune", "([II)V"⟩, ⟨"StreetCries", "told", "(III)I"⟩, ⟨"StreetCries", "where", "(II)I"⟩, ⟨"StreetCries$Seller", "placeIn", "(I)I"⟩,
  ⟨"StreetCries", "carries", "(I)I"⟩, ⟨"StreetCries$Seller", "reach", "(I)I"⟩, ⟨"StreetCries", "heard", "(II)I"⟩, ⟨"StreetCries$Town", "isHeard", "(III)Z"⟩,
  ⟨"StreetCries$Town", "criesIn", "(II)Z"⟩, ⟨"StreetCries$Seller", "arrivesIn", "(I)Z"⟩, ⟨"StreetCries$Town", "isStill", "(I)Z"⟩, ⟨"StreetCries$Town", "isCrowded", "(II)Z"⟩,
  ⟨"StreetCries$Town", "carriesTo", "(III)Z"⟩, ⟨"StreetCries", "apart", "(II)I"⟩, ⟨"StreetCries$Seller", "differsFrom", "([II)I"⟩, ⟨"StreetCries", "likeness", "(I)I"⟩,
  ⟨"StreetCries", "bylaw", "(IZ)I"⟩, ⟨"StreetCries", "isBylaw", "(I)Z"⟩, ⟨"StreetCries", "count", "(I)I"⟩, ⟨"java/lang/Integer", "bitCount", "(I)I"⟩,
  ⟨"StreetCries", "buyer", "(IIII)I"⟩, ⟨"StreetCries$Buyer", "comeAs", "(IIII)V"⟩, ⟨"StreetCries", "fate", "(II)I"⟩, ⟨"StreetCries$Day", "spend", "(LStreetCries$Town;)V"⟩,
  ⟨"StreetCries$Day", "gatherCries", "(LStreetCries$Town;)V"⟩, ⟨"StreetCries$Day", "gatherLuring", "(LStreetCries$Town;)V"⟩, ⟨"StreetCries$Day", "live", "(LStreetCries$Town;LStreetCries$Buyer;I)V"⟩, ⟨"StreetCries$Day", "hearsOneOf", "(LStreetCries$Town;III)Z"⟩,
  ⟨"StreetCries$Town", "sellerAt", "(III)I"⟩, ⟨"StreetCries", "brings", "(I)I"⟩, ⟨"StreetCries$Day", "broughtTo", "(I)I"⟩, ⟨"StreetCries", "day", "(I)I"⟩,
  ⟨"StreetCries$Day", "buyingCount", "()I"⟩, ⟨"StreetCries$Day", "wastedCount", "()I"⟩, ⟨"StreetCries", "best", "(II)I"⟩, ⟨"StreetCries$Trial", "bestBeginning", "(LStreetCries$Town;II)I"⟩,
  ⟨"StreetCries$Town", "copyFrom", "(LStreetCries$Town;)V"⟩, ⟨"StreetCries$Seller", "copyFrom", "(LStreetCries$Seller;)V"⟩, ⟨"StreetCries$Window", "note", "(IIZ)V"⟩, ⟨"StreetCries$Seller", "turnRound", "()V"⟩,
  ⟨"StreetCries", "rests", "(III)I"⟩, ⟨"StreetCries$Trial", "tryAllPairs", "(LStreetCries$Town;II)V"⟩, ⟨"StreetCries$Trial", "restsTold", "(I)I"⟩, ⟨"StreetCries$Trial", "isRest", "(I)Z"⟩,
  ⟨"StreetCries", "fresh", "(IIII)I"⟩, ⟨"StreetCries", "rowsOf", "(I)I"⟩, ⟨"StreetCries", "draftRow", "(II)V"⟩, ⟨"StreetCries", "distanceToNearest", "([II)I"⟩,
  ⟨"StreetCries", "nearestSeller", "([II)I"⟩, ⟨"StreetCries", "loudness", "(I)I"⟩, ⟨"StreetCries$Town", "loudnessAt", "(I)I"⟩, ⟨"StreetCries$Town", "timesHeard", "(II)I"⟩,
  ⟨"StreetCries", "quiet", "(II)I"⟩, ⟨"StreetCries$Trial", "fewestBylaws", "(LStreetCries$Town;II)I"⟩, ⟨"StreetCries", "costs", "(II)I"⟩, ⟨"StreetCries$Trial", "costOf", "(LStreetCries$Town;II)I"⟩,
  ⟨"StreetCries", "window", "(IIZ)I"⟩, ⟨"StreetCries", "went", "(II)I"⟩, ⟨"StreetCries$Trial", "agreeingBeginnings", "(LStreetCries$Town;II)I"⟩, ⟨"StreetCries$Town", "agreesWithWindows", "(I)Z"⟩,
  ⟨"StreetCries", "shut", "()I"⟩, ⟨"StreetCries", "dies", "(II)I"⟩, ⟨"StreetCries$Trial", "deadlyNoise", "(LStreetCries$Town;II)I"⟩, ⟨"StreetCries", "clock", "(II)I"⟩,
  ⟨"StreetCries", "image", "()I"⟩, ⟨"StreetCries", "restore", "()I"⟩, ⟨"StreetCries", "hands", "(IIIIII)I"⟩, ⟨"StreetCries", "isSheet", "(I)Z"⟩,
  ⟨"StreetCries", "isLane", "(I)Z"⟩, ⟨"StreetCries$Sheet", "refusal", "(III)I"⟩, ⟨"StreetCries$Sheet", "hasItems", "(II)Z"⟩, ⟨"StreetCries$Sheet", "holdsNotes", "(IIII)Z"⟩,
  ⟨"StreetCries$Sheet", "mostCommon", "(III)I"⟩, ⟨"StreetCries", "came", "(IIIIII)I"⟩, ⟨"StreetCries$Sheet", "nearestEarlier", "(IIII)I"⟩, ⟨"StreetCries$Sheet", "differenceOf", "(III)I"⟩,
  ⟨"StreetCries", "sheet", "(III)I"⟩, ⟨"StreetCries$Sheet", "begin", "(II)V"⟩, ⟨"StreetCries", "drop", "(I)I"⟩, ⟨"StreetCries", "item", "(IIII)I"⟩,
  ⟨"StreetCries$Sheet", "put", "(II)V"⟩, ⟨"StreetCries", "copy", "(IIIII)I"⟩, ⟨"StreetCriesModel", "<init>", "()V"⟩, ⟨"StreetCriesModel", "noise", "(II)I"⟩,
  ⟨"StreetCriesModel", "isCorner", "(I)Z"⟩, ⟨"StreetCriesModel", "in", "(JJJ)Z"⟩, ⟨"StreetCriesModel", "seller", "(III)I"⟩, ⟨"StreetCriesModel", "isPart", "(II)Z"⟩,
  ⟨"StreetCriesModel", "isMinute", "(I)Z"⟩, ⟨"StreetCriesModel", "of", "(III)I"⟩, ⟨"StreetCriesModel", "isSeller", "(I)Z"⟩, ⟨"StreetCriesModel", "type", "(JI)I"⟩,
  ⟨"StreetCriesModel", "town", "()I"⟩, ⟨"StreetCriesModel", "digits", "(II)I"⟩, ⟨"StreetCriesModel", "isDigit", "()Z"⟩, ⟨"StreetCriesModel", "here", "()I"⟩,
  ⟨"StreetCriesModel", "round", "(I)I"⟩, ⟨"StreetCriesModel", "corner", "(I)V"⟩, ⟨"StreetCriesModel", "between", "(II)I"⟩, ⟨"StreetCriesModel", "tune", "(I)I"⟩,
  ⟨"StreetCriesModel", "told", "(III)I"⟩, ⟨"StreetCriesModel", "where", "(II)I"⟩, ⟨"StreetCriesModel", "placeOf", "(II)I"⟩, ⟨"StreetCriesModel", "carries", "(I)I"⟩,
  ⟨"StreetCriesModel", "carry", "(I)I"⟩, ⟨"StreetCriesModel", "heard", "(II)I"⟩, ⟨"StreetCriesModel", "hears", "(III)Z"⟩, ⟨"StreetCriesModel", "cries", "(II)Z"⟩,
  ⟨"StreetCriesModel", "apart", "(II)I"⟩, ⟨"StreetCriesModel", "apartOf", "(II)I"⟩, ⟨"StreetCriesModel", "off", "([III[III)I"⟩, ⟨"StreetCriesModel", "likeness", "(I)I"⟩,
  ⟨"StreetCriesModel", "bylaw", "(IZ)I"⟩, ⟨"StreetCriesModel", "count", "(I)I"⟩, ⟨"StreetCriesModel", "size", "(I)I"⟩, ⟨"StreetCriesModel", "buyer", "(IIII)I"⟩,
  ⟨"StreetCriesModel", "fate", "(II)I"⟩, ⟨"StreetCriesModel", "minutes", "()V"⟩, ⟨"StreetCriesModel", "standing", "(III)I"⟩, ⟨"StreetCriesModel", "isCalled", "(II)Z"⟩,
  ⟨"StreetCriesModel", "brings", "(I)I"⟩, ⟨"StreetCriesModel", "bringsOf", "(I)I"⟩, ⟨"StreetCriesModel", "day", "(I)I"⟩, ⟨"StreetCriesModel", "best", "(II)I"⟩,
  ⟨"StreetCriesModel", "rests", "(III)I"⟩, ⟨"StreetCriesModel", "fresh", "(IIII)I"⟩, ⟨"StreetCriesModel", "lays", "(II)V"⟩, ⟨"StreetCriesModel", "nearestOff", "(I)I"⟩,
  ⟨"StreetCriesModel", "loudness", "(I)I"⟩, ⟨"StreetCriesModel", "loudnessOf", "(I)I"⟩, ⟨"StreetCriesModel", "quiet", "(II)I"⟩, ⟨"StreetCriesModel", "costs", "(II)I"⟩,
  ⟨"StreetCriesModel", "window", "(IIZ)I"⟩, ⟨"StreetCriesModel", "went", "(II)I"⟩, ⟨"StreetCriesModel", "shut", "()I"⟩, ⟨"StreetCriesModel", "dies", "(II)I"⟩,
  ⟨"StreetCriesModel", "heardMinutes", "(II)I"⟩, ⟨"StreetCriesModel", "clock", "(II)I"⟩, ⟨"StreetCriesModel", "image", "()I"⟩, ⟨"StreetCriesModel", "saves", "([I[II)I"⟩,
  ⟨"StreetCriesModel", "restore", "()I"⟩, ⟨"StreetCriesModel", "gives", "([II[I)I"⟩, ⟨"StreetCriesModel", "hands", "(IIIIII)I"⟩, ⟨"StreetCriesModel", "isSheet", "(I)Z"⟩,
  ⟨"StreetCriesModel", "isLane", "(I)Z"⟩, ⟨"StreetCriesModel", "finds", "(IIII)I"⟩, ⟨"StreetCriesModel", "came", "(IIIIII)I"⟩, ⟨"StreetCriesModel", "sheet", "(III)I"⟩,
  ⟨"StreetCriesModel", "drop", "(I)I"⟩, ⟨"StreetCriesModel", "item", "(IIII)I"⟩, ⟨"StreetCriesModel", "copy", "(IIIII)I"⟩, ⟨"StreetCriesLaw", "law", "([I)Z"⟩]
def jx_mbs : List ByteArray := [prog_1_method_1_code, prog_7_method_1_code, prog_15_method_103_code, prog_4_method_1_code, prog_2_method_1_code, prog_9_method_1_code, prog_8_method_1_code, prog_3_method_1_code,
  prog_6_method_1_code, prog_5_method_1_code, prog_1_method_2_code, prog_1_method_45_code, prog_1_method_44_code, prog_1_method_3_code, prog_1_method_47_code, prog_1_method_48_code,
  prog_4_method_2_code, prog_1_method_53_code, prog_1_method_4_code, prog_7_method_3_code, prog_4_method_4_code, prog_1_method_46_code, prog_1_method_5_code, prog_6_method_2_code,
  prog_6_method_3_code, prog_6_method_4_code, prog_1_method_6_code, prog_6_method_6_code, prog_6_method_8_code, prog_6_method_5_code, prog_1_method_7_code, prog_6_method_7_code,
  prog_13_method_69_code, prog_6_method_9_code, prog_6_method_10_code, prog_6_method_11_code, prog_1_method_52_code, prog_13_method_59_code, prog_4_method_5_code, prog_1_method_8_code,
  prog_4_method_6_code, prog_1_method_9_code, prog_1_method_10_code, prog_4_method_8_code, prog_1_method_11_code, prog_4_method_10_code, prog_1_method_12_code, prog_7_method_8_code,
  prog_7_method_4_code, prog_4_method_9_code, prog_7_method_5_code, prog_7_method_6_code, prog_7_method_7_code, prog_1_method_13_code, prog_4_method_11_code, prog_1_method_14_code,
  prog_1_method_15_code, prog_1_method_49_code, prog_1_method_16_code, prog_12_method_49_code, prog_1_method_17_code, prog_2_method_2_code, prog_1_method_18_code, prog_3_method_2_code,
  prog_3_method_3_code, prog_3_method_4_code, prog_3_method_5_code, prog_3_method_6_code, prog_7_method_11_code, prog_1_method_19_code, prog_3_method_7_code, prog_1_method_20_code,
  prog_3_method_8_code, prog_3_method_9_code, prog_1_method_21_code, prog_8_method_2_code, prog_7_method_2_code, prog_4_method_3_code, prog_9_method_2_code, prog_4_method_7_code,
  prog_1_method_22_code, prog_8_method_3_code, prog_8_method_4_code, prog_8_method_5_code, prog_1_method_23_code, prog_1_method_40_code, prog_1_method_41_code, prog_1_method_42_code,
  prog_1_method_43_code, prog_1_method_24_code, prog_7_method_10_code, prog_7_method_9_code, prog_1_method_25_code, prog_8_method_6_code, prog_1_method_26_code, prog_8_method_7_code,
  prog_1_method_27_code, prog_1_method_28_code, prog_8_method_8_code, prog_7_method_12_code, prog_1_method_29_code, prog_1_method_30_code, prog_8_method_9_code, prog_1_method_31_code,
  prog_1_method_32_code, prog_1_method_33_code, prog_1_method_34_code, prog_1_method_50_code, prog_1_method_51_code, prog_5_method_4_code, prog_5_method_3_code, prog_5_method_6_code,
  prog_5_method_7_code, prog_1_method_35_code, prog_5_method_8_code, prog_5_method_9_code, prog_1_method_36_code, prog_5_method_2_code, prog_1_method_37_code, prog_1_method_38_code,
  prog_5_method_5_code, prog_1_method_39_code, prog_11_method_3_code, prog_11_method_8_code, prog_11_method_4_code, prog_11_method_2_code, prog_11_method_10_code, prog_11_method_9_code,
  prog_11_method_5_code, prog_11_method_11_code, prog_11_method_6_code, prog_11_method_12_code, prog_11_method_16_code, prog_11_method_15_code, prog_11_method_14_code, prog_11_method_13_code,
  prog_11_method_18_code, prog_11_method_17_code, prog_11_method_7_code, prog_11_method_19_code, prog_11_method_20_code, prog_11_method_25_code, prog_11_method_21_code, prog_11_method_26_code,
  prog_11_method_22_code, prog_11_method_27_code, prog_11_method_24_code, prog_11_method_23_code, prog_11_method_30_code, prog_11_method_29_code, prog_11_method_28_code, prog_11_method_31_code,
  prog_11_method_32_code, prog_11_method_34_code, prog_11_method_33_code, prog_11_method_35_code, prog_11_method_39_code, prog_11_method_38_code, prog_11_method_36_code, prog_11_method_37_code,
  prog_11_method_41_code, prog_11_method_40_code, prog_11_method_42_code, prog_11_method_43_code, prog_11_method_44_code, prog_11_method_47_code, prog_11_method_45_code, prog_11_method_46_code,
  prog_11_method_49_code, prog_11_method_48_code, prog_11_method_50_code, prog_11_method_51_code, prog_11_method_52_code, prog_11_method_53_code, prog_11_method_54_code, prog_11_method_56_code,
  prog_11_method_55_code, prog_11_method_57_code, prog_11_method_60_code, prog_11_method_58_code, prog_11_method_61_code, prog_11_method_59_code, prog_11_method_65_code, prog_11_method_62_code,
  prog_11_method_63_code, prog_11_method_64_code, prog_11_method_66_code, prog_11_method_67_code, prog_11_method_68_code, prog_11_method_69_code, prog_11_method_70_code, code]
def jx_mrs : List (Option FieldType) := [none, none, none, none, none, none, none, none, none, none, some .int, some .boolean, some .boolean, some .int, some .boolean, some .boolean,
  none, some .int, some .int, some .boolean, some .int, some .boolean, some .int, some .boolean, some .int, some .int, some .int, some .int, some .boolean, none, some .int, some .int,
  some .int, some .int, some .int, some .int, some .int, some .int, none, some .int, none, some .int, some .int, some .int, some .int, some .int, some .int, some .boolean,
  some .boolean, some .boolean, some .boolean, some .boolean, some .boolean, some .int, some .int, some .int, some .int, some .boolean, some .int, some .int, some .int, none, some .int, none,
  none, none, none, some .boolean, some .int, some .int, some .int, some .int, some .int, some .int, some .int, some .int, none, none, none, none,
  some .int, none, some .int, some .boolean, some .int, some .int, none, some .int, some .int, some .int, some .int, some .int, some .int, some .int, some .int, some .int,
  some .int, some .int, some .int, some .boolean, some .int, some .int, some .int, some .int, some .int, some .int, some .int, some .boolean, some .boolean, some .int, some .boolean, some .boolean,
  some .int, some .int, some .int, some .int, some .int, none, some .int, some .int, none, some .int, none, some .int, some .boolean, some .boolean, some .int, some .boolean,
  some .boolean, some .int, some .boolean, some .int, some .int, some .int, some .boolean, some .int, some .int, none, some .int, some .int, some .int, some .int, some .int, some .int,
  some .int, some .int, some .boolean, some .boolean, some .int, some .int, some .int, some .int, some .int, some .int, some .int, some .int, some .int, none, some .int, some .boolean,
  some .int, some .int, some .int, some .int, some .int, some .int, none, some .int, some .int, some .int, some .int, some .int, some .int, some .int, some .int, some .int,
  some .int, some .int, some .int, some .int, some .int, some .int, some .int, some .boolean, some .boolean, some .int, some .int, some .int, some .int, some .int, some .int, some .boolean]
/-- of each method, places in lw_tbl: its code, its class initialised, kind (0 virtual, 1 static, 3 made), static or instance, selects -/
def jx_mps : List (Nat × Nat × Nat × Nat × Nat) := [(52, 34, 3, 51, 0), (60, 35, 3, 59, 0), (70, 36, 1, 69, 0), (74, 37, 3, 73, 0), (123, 38, 3, 122, 0), (149, 39, 3, 148, 0), (214, 40, 3, 213, 0), (222, 41, 3, 221, 0),
  (269, 42, 3, 268, 0), (283, 43, 3, 282, 0), (330, 34, 0, 328, 329), (333, 34, 1, 332, 0), (336, 34, 1, 335, 0), (340, 34, 0, 338, 339), (343, 34, 1, 342, 0), (346, 34, 1, 345, 0),
  (350, 37, 0, 348, 349), (353, 34, 1, 352, 0), (357, 34, 0, 355, 356), (361, 35, 0, 359, 360), (365, 37, 0, 363, 364), (370, 34, 1, 369, 0), (375, 34, 0, 373, 374), (378, 42, 1, 377, 0),
  (381, 42, 1, 380, 0), (385, 42, 0, 383, 384), (389, 34, 0, 387, 388), (393, 42, 0, 391, 392), (397, 42, 0, 396, 0), (401, 42, 0, 399, 400), (405, 34, 0, 403, 404), (409, 42, 0, 407, 408),
  (412, 45, 1, 411, 0), (416, 42, 0, 415, 1), (420, 42, 0, 419, 2), (424, 42, 0, 423, 3), (428, 34, 1, 427, 0), (431, 45, 1, 430, 0), (435, 37, 0, 433, 434), (440, 34, 0, 438, 439),
  (444, 37, 0, 442, 443), (448, 34, 0, 446, 447), (452, 34, 0, 450, 451), (457, 37, 0, 455, 456), (461, 34, 0, 459, 460), (465, 37, 0, 463, 464), (469, 34, 0, 467, 468), (473, 35, 0, 471, 472),
  (477, 35, 0, 475, 476), (482, 37, 0, 480, 481), (487, 35, 0, 486, 4), (492, 35, 0, 491, 5), (497, 35, 0, 495, 496), (502, 34, 0, 500, 501), (506, 37, 0, 504, 505), (511, 34, 0, 509, 510),
  (515, 34, 0, 513, 514), (518, 34, 1, 517, 0), (522, 34, 0, 520, 521), (525, 46, 1, 524, 0), (532, 34, 0, 530, 531), (536, 38, 0, 534, 535), (540, 34, 0, 538, 539), (544, 41, 0, 542, 543),
  (548, 41, 0, 547, 6), (555, 41, 0, 554, 7), (561, 41, 0, 560, 8), (564, 41, 1, 563, 0), (569, 35, 0, 567, 568), (573, 34, 0, 571, 572), (577, 41, 0, 575, 576), (581, 34, 0, 579, 580),
  (585, 41, 0, 583, 584), (589, 41, 0, 587, 588), (593, 34, 0, 591, 592), (597, 40, 0, 595, 596), (601, 35, 0, 599, 600), (608, 37, 0, 606, 607), (615, 39, 0, 613, 614), (621, 37, 0, 619, 620),
  (625, 34, 0, 623, 624), (629, 40, 0, 627, 628), (633, 40, 0, 631, 632), (637, 40, 0, 636, 9), (641, 34, 0, 639, 640), (644, 34, 1, 643, 0), (648, 34, 0, 647, 10), (653, 34, 0, 652, 11),
  (657, 34, 0, 656, 12), (661, 34, 0, 659, 660), (665, 35, 0, 663, 664), (669, 35, 0, 667, 668), (674, 34, 0, 672, 673), (678, 40, 0, 676, 677), (684, 34, 0, 682, 683), (689, 40, 0, 687, 688),
  (693, 34, 0, 691, 692), (698, 34, 0, 696, 697), (702, 40, 0, 700, 701), (707, 35, 0, 705, 706), (711, 34, 0, 709, 710), (715, 34, 0, 713, 714), (719, 40, 0, 717, 718), (724, 34, 0, 722, 723),
  (729, 34, 0, 727, 728), (734, 34, 0, 732, 733), (738, 34, 0, 736, 737), (741, 34, 1, 740, 0), (744, 34, 1, 743, 0), (748, 43, 0, 746, 747), (752, 43, 0, 750, 751), (756, 43, 0, 754, 755),
  (761, 43, 0, 759, 760), (765, 34, 0, 763, 764), (769, 43, 0, 767, 768), (773, 43, 0, 772, 13), (778, 34, 0, 776, 777), (782, 43, 0, 780, 781), (787, 34, 0, 785, 786), (791, 34, 0, 789, 790),
  (795, 43, 0, 793, 794), (799, 34, 0, 797, 798), (806, 44, 3, 805, 0), (908, 44, 0, 906, 907), (911, 44, 1, 910, 0), (915, 44, 1, 914, 0), (920, 44, 0, 918, 919), (923, 44, 1, 922, 0),
  (927, 44, 1, 926, 0), (933, 44, 0, 931, 932), (937, 44, 0, 936, 14), (941, 44, 0, 939, 940), (949, 44, 0, 947, 948), (953, 44, 0, 952, 15), (957, 44, 0, 956, 16), (961, 44, 0, 960, 17),
  (967, 44, 0, 965, 966), (971, 44, 0, 970, 18), (974, 44, 1, 973, 0), (978, 44, 0, 976, 977), (982, 44, 0, 980, 981), (986, 44, 0, 984, 985), (990, 44, 0, 989, 19), (994, 44, 0, 992, 993),
  (998, 44, 0, 997, 20), (1002, 44, 0, 1000, 1001), (1006, 44, 0, 1005, 21), (1010, 44, 0, 1009, 22), (1014, 44, 0, 1012, 1013), (1018, 44, 0, 1017, 23), (1021, 44, 1, 1020, 0), (1025, 44, 0, 1023, 1024),
  (1030, 44, 0, 1028, 1029), (1034, 44, 0, 1032, 1033), (1037, 44, 1, 1036, 0), (1041, 44, 0, 1039, 1040), (1045, 44, 0, 1043, 1044), (1050, 44, 0, 1049, 24), (1054, 44, 0, 1053, 25), (1058, 44, 0, 1057, 26),
  (1062, 44, 0, 1060, 1061), (1066, 44, 0, 1065, 27), (1070, 44, 0, 1068, 1069), (1074, 44, 0, 1072, 1073), (1078, 44, 0, 1076, 1077), (1082, 44, 0, 1080, 1081), (1088, 44, 0, 1087, 28), (1092, 44, 0, 1091, 29),
  (1096, 44, 0, 1094, 1095), (1100, 44, 0, 1099, 30), (1104, 44, 0, 1102, 1103), (1109, 44, 0, 1107, 1108), (1114, 44, 0, 1112, 1113), (1118, 44, 0, 1116, 1117), (1122, 44, 0, 1120, 1121), (1126, 44, 0, 1124, 1125),
  (1130, 44, 0, 1129, 31), (1134, 44, 0, 1132, 1133), (1138, 44, 0, 1136, 1137), (1141, 44, 1, 1140, 0), (1145, 44, 0, 1143, 1144), (1148, 44, 1, 1147, 0), (1152, 44, 0, 1150, 1151), (1155, 44, 1, 1154, 0),
  (1158, 44, 1, 1157, 0), (1163, 44, 0, 1162, 32), (1167, 44, 0, 1165, 1166), (1171, 44, 0, 1169, 1170), (1175, 44, 0, 1173, 1174), (1179, 44, 0, 1177, 1178), (1183, 44, 0, 1181, 1182), (0, 0, 2, 0, 0)]
def jx_mN (x : Nat) : MethodName := jx_nth jx_mns x ⟨"", "", ""⟩
def jx_mB (x : Nat) : ByteArray := jx_nth jx_mbs x ⟨#[]⟩
def jx_mR (x : Nat) : Option FieldType := jx_nth jx_mrs x none
def jx_mP (x : Nat) : Nat × Nat × Nat × Nat × Nat := jx_nth jx_mps x (0, 0, 2, 0, 0)
def jx_pc (x i : Nat) : Nat := jx_nth (jx_nth jx_pcs x []) i 0
abbrev jx_cl5 : List vw_C := [(RX0, TX0, 4), (RX1, TX1, 7), (RX2, TX2, 9), (RX3, TX3, 4), (RX4, TX4, 2)]
abbrev jx_classes : List vw_C := [(RX0, TX0, 4), (RX1, TX1, 7), (RX2, TX2, 9), (RX3, TX3, 4), (RX4, TX4, 2), (RX5, TX5, 9), (RX6, TX6, 4), (RX7, TX7, 3), (RX8, TX8, 8), (RX9, TX9, 32)]
/-- a word of the tables at its place, and one that keeps -/
def jx_at (p : Nat) (w : Jvm.Cond) : Bool := decide (lw_tbl[p]? = some w) && goodWord w
theorem jx_mathW : jx_at 412 (.code Lib.Math.min.name Lib.Math.min.code 2 (some .int)) = true ∧ jx_at 431 (.code Lib.Math.abs.name Lib.Math.abs.code 1 (some .int)) = true ∧ jx_at 411 (.static Lib.Math.min.name) = true ∧ jx_at 430 (.static Lib.Math.abs.name) = true ∧ jx_at 45 (.initialized "java/lang/Math") = true := by decide +kernel
theorem jx_copyW : jx_at 604 (.native arraycopyName) = true ∧ jx_at 603 (.static arraycopyName) = true ∧ jx_at 47 (.initialized "java/lang/System") = true ∧ jx_at 54 (.instanceMethod objectInit) = true ∧ jx_at 55 (.code objectInit ⟨#[0xb1]⟩ 1 none) = true ∧ jx_at 119 (.arrayClass .int) = true := by decide +kernel
theorem jx_at_mem {p : Nat} {w : Jvm.Cond} (h : jx_at p w = true) : w ∈ jx_gw := by
  unfold jx_at at h
  rw [Bool.and_eq_true] at h
  exact List.mem_filter.mpr ⟨List.mem_of_getElem? (of_decide_eq_true h.1), h.2⟩
def jx_okM (x : Nat) : Bool :=
  jx_at (jx_mP x).1 (.code (jx_mN x) (jx_mB x) (jx_mL x) (jx_mR x)) && (jx_at (jx_mP x).2.1 (.initialized (jx_mN x).cls) &&
  (decide ((jx_mN x).cls ≠ "java/lang/invoke/MethodHandle" ∧ (jx_mN x).cls ≠ "java/lang/invoke/VarHandle") && (plainName (jx_mN x).cls &&
  (match (jx_mP x).2.2.1 with
    | 1 => jx_at (jx_mP x).2.2.2.1 (.static (jx_mN x)) && decide ((parseMethodDescriptor (jx_mN x).desc).map (fun d => d.parameters.length) = some (jx_mA x))
    | 0 => jx_at (jx_mP x).2.2.2.1 (.instanceMethod (jx_mN x)) && (jx_at (jx_mP x).2.2.2.2 (.selects (jx_mN x).cls (jx_mN x) (jx_mN x)) && (decide ((parseMethodDescriptor (jx_mN x).desc).map (fun d => d.parameters.length + 1) = some (jx_mA x)) && decide ((jx_classes.map (·.1))[jx_mC x]? = some (jx_mN x).cls)))
    | 3 => jx_at (jx_mP x).2.2.2.1 (.instanceMethod (jx_mN x)) && (decide ((jx_mN x).name = "<init>") && (decide ((parseMethodDescriptor (jx_mN x).desc).map (fun d => d.parameters.length + 1) = some (jx_mA x)) && (decide (jx_mR x = none) && jx_mV x)))
    | _ => false))))
def jx_ln (o : Instr) : Nat := match o with
  | .bipush _ => 2 | .sipush _ => 3 | .ldc _ => 2 | .ldc_w _ => 3 | .ldc2_w _ => 3 | .iload _ => 2 | .lload _ => 2 | .aload _ => 2 | .istore _ => 2 | .astore _ => 2 | .iinc _ _ => 3
  | .ifCond _ _ => 3 | .if_icmp _ _ => 3 | .goto _ => 3 | .getfield _ => 3 | .putfield _ => 3 | .new _ => 3 | .newarray _ => 2 | .anewarray _ => 3 | .invokevirtual _ => 3 | .invokestatic _ => 3 | .invokespecial _ => 3
  | .tableswitch _ _ _ os => 0
  | _ => 1
/-- what a row says beside its instruction -/
def jx_okA (x i : Nat) (r : jx_R) : Bool :=
  let nx := Nat.beq (jx_pc x (i + 1)) (jx_pc x i + jx_ln r.1)
  let ow := (jx_mN x).cls
  let z := r.2.2.2.toNat
  match r.1 with
  | .iconst k => decide (r.2.2.2 = k ∧ jx_in k) && nx
  | .bipush k => decide (r.2.2.2 = k ∧ (Int8.ofInt k).toInt32 = Int32.ofInt k ∧ jx_in k) && nx
  | .sipush k => decide (r.2.2.2 = k ∧ (Int16.ofInt k).toInt32 = Int32.ofInt k ∧ jx_in k) && nx
  | .ldc k => jx_at r.2.2.1 (.constant ow k (Int32.ofInt r.2.2.2)) && (decide (jx_in r.2.2.2) && nx)
  | .ldc_w k => jx_at r.2.2.1 (.constant ow k (Int32.ofInt r.2.2.2)) && (decide (jx_in r.2.2.2) && nx)
  | .lconst k => decide (Int64.ofNat k.val = Int64.ofInt r.2.2.2 ∧ jx_inL r.2.2.2) && nx
  | .ldc2_w k => jx_at r.2.2.1 (.constantLong ow k (Int64.ofInt r.2.2.2)) && (decide (jx_inL r.2.2.2) && nx)
  | .iload_n k => Nat.beq k.val r.2.1 && nx
  | .lload_n k => Nat.beq k.val r.2.1 && nx
  | .aload_n k => Nat.beq k.val r.2.1 && nx
  | .iload k => Nat.beq k r.2.1 && nx
  | .lload k => Nat.beq k r.2.1 && nx
  | .aload k => Nat.beq k r.2.1 && nx
  | .istore_n k => Nat.beq k.val r.2.1 && (Nat.blt r.2.1 (jx_mL x) && nx)
  | .astore_n k => Nat.beq k.val r.2.1 && (Nat.blt r.2.1 (jx_mL x) && nx)
  | .istore k => Nat.beq k r.2.1 && (Nat.blt r.2.1 (jx_mL x) && nx)
  | .astore k => Nat.beq k r.2.1 && (Nat.blt r.2.1 (jx_mL x) && nx)
  | .iinc k c => Nat.beq k r.2.1 && (Nat.blt r.2.1 (jx_mL x) && (decide (c = r.2.2.2) && nx))
  | .ifCond _ off => decide ((jx_pc x i : Int) + off = (jx_pc x r.2.1 : Int)) && nx
  | .if_icmp _ off => decide ((jx_pc x i : Int) + off = (jx_pc x r.2.1 : Int)) && nx
  | .goto off => decide ((jx_pc x i : Int) + off = (jx_pc x r.2.1 : Int))
  | .tableswitch df lo hi os => decide ((jx_pc x i : Int) + df = (jx_pc x r.2.2.1 : Int) ∧ r.2.2.2 = lo ∧ hi + 1 = lo + (jx_nth jx_tsws r.2.1 []).length ∧ os.toList.map (fun o => (jx_pc x i : Int) + o) = (jx_nth jx_tsws r.2.1 []).map (fun t => (jx_pc x t : Int)))
  | .getfield k => (match jx_classes[r.2.2.1]? with
      | some (C, T, n) => Nat.blt r.2.1 n && (jx_at z (.fieldLink ow k (T r.2.1).1 (T r.2.1).2.1 (T r.2.1).2.2.1))
      | none => false) && nx
  | .putfield k => (match jx_classes[r.2.2.1]? with
      | some (C, T, n) => Nat.blt r.2.1 n && (jx_at z (.fieldLink ow k (T r.2.1).1 (T r.2.1).2.1 (T r.2.1).2.2.1) && (match (T r.2.1).2.2.2 with
          | true => decide ((jx_mN x).name = "<init>" ∧ (T r.2.1).1 = ow)
          | false => true))
      | none => false) && nx
  | .new k => (match jx_classes[r.2.1]? with
      | some (C, T, n) => jx_at z (.classLink ow k C) && (jx_gw.elem (.instantiable C n) && jx_gw.elem (.initialized C))
      | none => false) && nx
  | .newarray t => decide (t = .int) && nx
  | .anewarray k => (match jx_classes[r.2.1]? with
      | some (C, T, n) => jx_at z (.classLink ow k C)
      | none => false) && nx
  | .invokevirtual k => jx_okM r.2.1 && (Nat.beq (jx_mP r.2.1).2.2.1 0 && (Nat.ble (jx_mF r.2.1 + 1) (jx_mF x) && (Nat.ble (8 + (jx_mL r.2.1 + 11) + jx_mO r.2.1) (jx_mO x) && (jx_at z (.methodLink ow k (jx_mN r.2.1)) && nx))))
  | .invokestatic k => (match r.2.2.1 with
      | 3 => jx_at z (.methodLink ow k arraycopyName) && (Nat.ble 1 (jx_mF x) && (Nat.ble (8 + (nativeFrameWords "java/lang/System" "arraycopy" 5 + 11)) (jx_mO x) && nx))
      | 4 => jx_at z (.methodLink ow k Lib.Math.min.name) && (Nat.ble 1 (jx_mF x) && (Nat.ble 21 (jx_mO x) && nx))
      | 5 => jx_at z (.methodLink ow k Lib.Math.abs.name) && (Nat.ble 1 (jx_mF x) && (Nat.ble 21 (jx_mO x) && nx))
      | 1 => jx_okM r.2.1 && (Nat.beq (jx_mP r.2.1).2.2.1 1 && (Nat.ble (jx_mF r.2.1 + 1) (jx_mF x) && (Nat.ble (8 + (jx_mL r.2.1 + 11) + jx_mO r.2.1) (jx_mO x) && (decide (lw_tbl[z]? = some (.methodLinkNest ow k (jx_mN r.2.1) "StreetCries")) && nx))))
      | _ => jx_okM r.2.1 && (Nat.beq (jx_mP r.2.1).2.2.1 1 && (Nat.ble (jx_mF r.2.1 + 1) (jx_mF x) && (Nat.ble (8 + (jx_mL r.2.1 + 11) + jx_mO r.2.1) (jx_mO x) && (jx_at z (.methodLink ow k (jx_mN r.2.1)) && nx)))))
  | .invokespecial k => (match r.2.2.1 with
      | 2 => jx_at z (.methodLink ow k objectInit) && (Nat.ble 1 (jx_mF x) && (Nat.ble 20 (jx_mO x) && nx))
      | 1 => jx_okM r.2.1 && (Nat.beq (jx_mP r.2.1).2.2.1 3 && (Nat.ble (jx_mF r.2.1 + 1) (jx_mF x) && (Nat.ble (8 + (jx_mL r.2.1 + 11) + jx_mO r.2.1) (jx_mO x) && (decide (lw_tbl[z]? = some (.methodLinkNest ow k (jx_mN r.2.1) "StreetCries")) && nx))))
      | _ => jx_okM r.2.1 && (Nat.beq (jx_mP r.2.1).2.2.1 3 && (Nat.ble (jx_mF r.2.1 + 1) (jx_mF x) && (Nat.ble (8 + (jx_mL r.2.1 + 11) + jx_mO r.2.1) (jx_mO x) && (jx_at z (.methodLink ow k (jx_mN r.2.1)) && nx)))))
  | .ireturn => (match jx_mR x with
      | some .int => Nat.beq r.2.1 0
      | some .boolean => Nat.beq r.2.1 1
      | _ => false)
  | .return_ => decide (jx_mR x = none)
  | _ => nx
def jx_isT (o : Instr) : Bool := match o with
  | .tableswitch _ _ _ _ => true
  | _ => false
def jx_okD (x i : Nat) : Bool := match decode (jx_mB x) (jx_pc x i) with
  | .ok (o, n) => decide (o = (jx_row x i).1) && (jx_isT o || Nat.beq n (jx_ln o))
  | .error _ => false
def jx_okR (x i : Nat) : Bool := jx_okD x i && jx_okA x i (jx_row x i)
def jx_okX (x : Nat) : Bool := (List.range (jx_nth jx_cd x []).length).all (jx_okR x)
end
section
theorem jx_ck0 : (List.range (jx_nth jx_cd 0 []).length).all (jx_okR 0) = true := by decide +kernel
theorem jx_ck1 : (List.range (jx_nth jx_cd 1 []).length).all (jx_okR 1) = true := by decide +kernel
theorem jx_ck2 : (List.range (jx_nth jx_cd 2 []).length).all (jx_okR 2) = true := by decide +kernel
theorem jx_ck3 : (List.range (jx_nth jx_cd 3 []).length).all (jx_okR 3) = true := by decide +kernel
theorem jx_ck4 : (List.range (jx_nth jx_cd 4 []).length).all (jx_okR 4) = true := by decide +kernel
theorem jx_ck5 : (List.range (jx_nth jx_cd 5 []).length).all (jx_okR 5) = true := by decide +kernel
theorem jx_ck6 : (List.range (jx_nth jx_cd 6 []).length).all (jx_okR 6) = true := by decide +kernel
theorem jx_ck7 : (List.range (jx_nth jx_cd 7 []).length).all (jx_okR 7) = true := by decide +kernel
theorem jx_ck8 : (List.range (jx_nth jx_cd 8 []).length).all (jx_okR 8) = true := by decide +kernel
theorem jx_ck9 : (List.range (jx_nth jx_cd 9 []).length).all (jx_okR 9) = true := by decide +kernel
theorem jx_ck10 : (List.range (jx_nth jx_cd 10 []).length).all (jx_okR 10) = true := by decide +kernel
theorem jx_ck11 : (List.range (jx_nth jx_cd 11 []).length).all (jx_okR 11) = true := by decide +kernel
theorem jx_ck12 : (List.range (jx_nth jx_cd 12 []).length).all (jx_okR 12) = true := by decide +kernel
theorem jx_ck13 : (List.range (jx_nth jx_cd 13 []).length).all (jx_okR 13) = true := by decide +kernel
theorem jx_ck14 : (List.range (jx_nth jx_cd 14 []).length).all (jx_okR 14) = true := by decide +kernel
theorem jx_ck15 : (List.range (jx_nth jx_cd 15 []).length).all (jx_okR 15) = true := by decide +kernel
theorem jx_ck16 : (List.range (jx_nth jx_cd 16 []).length).all (jx_okR 16) = true := by decide +kernel
theorem jx_ck17 : (List.range (jx_nth jx_cd 17 []).length).all (jx_okR 17) = true := by decide +kernel
theorem jx_ck18 : (List.range (jx_nth jx_cd 18 []).length).all (jx_okR 18) = true := by decide +kernel
theorem jx_ck19 : (List.range (jx_nth jx_cd 19 []).length).all (jx_okR 19) = true := by decide +kernel
theorem jx_ck20 : (List.range (jx_nth jx_cd 20 []).length).all (jx_okR 20) = true := by decide +kernel
theorem jx_ck21 : (List.range (jx_nth jx_cd 21 []).length).all (jx_okR 21) = true := by decide +kernel
theorem jx_ck22 : (List.range (jx_nth jx_cd 22 []).length).all (jx_okR 22) = true := by decide +kernel
theorem jx_ck23 : (List.range (jx_nth jx_cd 23 []).length).all (jx_okR 23) = true := by decide +kernel
theorem jx_ck24 : (List.range (jx_nth jx_cd 24 []).length).all (jx_okR 24) = true := by decide +kernel
theorem jx_ck25 : (List.range (jx_nth jx_cd 25 []).length).all (jx_okR 25) = true := by decide +kernel
theorem jx_ck26 : (List.range (jx_nth jx_cd 26 []).length).all (jx_okR 26) = true := by decide +kernel
theorem jx_ck27 : (List.range (jx_nth jx_cd 27 []).length).all (jx_okR 27) = true := by decide +kernel
theorem jx_ck28 : (List.range (jx_nth jx_cd 28 []).length).all (jx_okR 28) = true := by decide +kernel
theorem jx_ck29 : (List.range (jx_nth jx_cd 29 []).length).all (jx_okR 29) = true := by decide +kernel
theorem jx_ck30 : (List.range (jx_nth jx_cd 30 []).length).all (jx_okR 30) = true := by decide +kernel
theorem jx_ck31_0 : (List.range' 0 48).all (jx_okR 31) = true := by decide +kernel
theorem jx_ck31_48 : (List.range' 48 44).all (jx_okR 31) = true := by decide +kernel
theorem jx_ck31 : (List.range (jx_nth jx_cd 31 []).length).all (jx_okR 31) = true := by
  refine List.all_eq_true.mpr (fun i hi => ?_)
  have hi : i < 92 := List.mem_range.mp hi
  rcases Nat.lt_or_ge i 48 with h | h
  · exact List.all_eq_true.mp jx_ck31_0 i (List.mem_range'_1.mpr ⟨by omega, by omega⟩)
  exact List.all_eq_true.mp jx_ck31_48 i (List.mem_range'_1.mpr ⟨by omega, by omega⟩)
theorem jx_ck32 : (List.range (jx_nth jx_cd 32 []).length).all (jx_okR 32) = true := by decide +kernel
theorem jx_ck33 : (List.range (jx_nth jx_cd 33 []).length).all (jx_okR 33) = true := by decide +kernel
theorem jx_ck34 : (List.range (jx_nth jx_cd 34 []).length).all (jx_okR 34) = true := by decide +kernel
theorem jx_ck35 : (List.range (jx_nth jx_cd 35 []).length).all (jx_okR 35) = true := by decide +kernel
theorem jx_ck36 : (List.range (jx_nth jx_cd 36 []).length).all (jx_okR 36) = true := by decide +kernel
theorem jx_ck37 : (List.range (jx_nth jx_cd 37 []).length).all (jx_okR 37) = true := by decide +kernel
theorem jx_ck38 : (List.range (jx_nth jx_cd 38 []).length).all (jx_okR 38) = true := by decide +kernel
theorem jx_ck39 : (List.range (jx_nth jx_cd 39 []).length).all (jx_okR 39) = true := by decide +kernel
theorem jx_ck40 : (List.range (jx_nth jx_cd 40 []).length).all (jx_okR 40) = true := by decide +kernel
theorem jx_ck41 : (List.range (jx_nth jx_cd 41 []).length).all (jx_okR 41) = true := by decide +kernel
theorem jx_ck42 : (List.range (jx_nth jx_cd 42 []).length).all (jx_okR 42) = true := by decide +kernel
theorem jx_ck43 : (List.range (jx_nth jx_cd 43 []).length).all (jx_okR 43) = true := by decide +kernel
theorem jx_ck44 : (List.range (jx_nth jx_cd 44 []).length).all (jx_okR 44) = true := by decide +kernel
theorem jx_ck45 : (List.range (jx_nth jx_cd 45 []).length).all (jx_okR 45) = true := by decide +kernel
theorem jx_ck46 : (List.range (jx_nth jx_cd 46 []).length).all (jx_okR 46) = true := by decide +kernel
theorem jx_ck47 : (List.range (jx_nth jx_cd 47 []).length).all (jx_okR 47) = true := by decide +kernel
theorem jx_ck48 : (List.range (jx_nth jx_cd 48 []).length).all (jx_okR 48) = true := by decide +kernel
theorem jx_ck49 : (List.range (jx_nth jx_cd 49 []).length).all (jx_okR 49) = true := by decide +kernel
theorem jx_ck50 : (List.range (jx_nth jx_cd 50 []).length).all (jx_okR 50) = true := by decide +kernel
theorem jx_ck51 : (List.range (jx_nth jx_cd 51 []).length).all (jx_okR 51) = true := by decide +kernel
theorem jx_ck52 : (List.range (jx_nth jx_cd 52 []).length).all (jx_okR 52) = true := by decide +kernel
end
section
theorem jx_ck53 : (List.range (jx_nth jx_cd 53 []).length).all (jx_okR 53) = true := by decide +kernel
theorem jx_ck54 : (List.range (jx_nth jx_cd 54 []).length).all (jx_okR 54) = true := by decide +kernel
theorem jx_ck55 : (List.range (jx_nth jx_cd 55 []).length).all (jx_okR 55) = true := by decide +kernel
theorem jx_ck56 : (List.range (jx_nth jx_cd 56 []).length).all (jx_okR 56) = true := by decide +kernel
theorem jx_ck57 : (List.range (jx_nth jx_cd 57 []).length).all (jx_okR 57) = true := by decide +kernel
theorem jx_ck58 : (List.range (jx_nth jx_cd 58 []).length).all (jx_okR 58) = true := by decide +kernel
theorem jx_ck59 : (List.range (jx_nth jx_cd 59 []).length).all (jx_okR 59) = true := by decide +kernel
theorem jx_ck60 : (List.range (jx_nth jx_cd 60 []).length).all (jx_okR 60) = true := by decide +kernel
theorem jx_ck61 : (List.range (jx_nth jx_cd 61 []).length).all (jx_okR 61) = true := by decide +kernel
theorem jx_ck62 : (List.range (jx_nth jx_cd 62 []).length).all (jx_okR 62) = true := by decide +kernel
theorem jx_ck63 : (List.range (jx_nth jx_cd 63 []).length).all (jx_okR 63) = true := by decide +kernel
theorem jx_ck64 : (List.range (jx_nth jx_cd 64 []).length).all (jx_okR 64) = true := by decide +kernel
theorem jx_ck65 : (List.range (jx_nth jx_cd 65 []).length).all (jx_okR 65) = true := by decide +kernel
theorem jx_ck66_0 : (List.range' 0 48).all (jx_okR 66) = true := by decide +kernel
theorem jx_ck66_48 : (List.range' 48 48).all (jx_okR 66) = true := by decide +kernel
theorem jx_ck66_96 : (List.range' 96 4).all (jx_okR 66) = true := by decide +kernel
theorem jx_ck66 : (List.range (jx_nth jx_cd 66 []).length).all (jx_okR 66) = true := by
  refine List.all_eq_true.mpr (fun i hi => ?_)
  have hi : i < 100 := List.mem_range.mp hi
  rcases Nat.lt_or_ge i 48 with h | h
  · exact List.all_eq_true.mp jx_ck66_0 i (List.mem_range'_1.mpr ⟨by omega, by omega⟩)
  rcases Nat.lt_or_ge i 96 with h | h
  · exact List.all_eq_true.mp jx_ck66_48 i (List.mem_range'_1.mpr ⟨by omega, by omega⟩)
  exact List.all_eq_true.mp jx_ck66_96 i (List.mem_range'_1.mpr ⟨by omega, by omega⟩)
theorem jx_ck67 : (List.range (jx_nth jx_cd 67 []).length).all (jx_okR 67) = true := by decide +kernel
theorem jx_ck68 : (List.range (jx_nth jx_cd 68 []).length).all (jx_okR 68) = true := by decide +kernel
theorem jx_ck69 : (List.range (jx_nth jx_cd 69 []).length).all (jx_okR 69) = true := by decide +kernel
theorem jx_ck70 : (List.range (jx_nth jx_cd 70 []).length).all (jx_okR 70) = true := by decide +kernel
theorem jx_ck71 : (List.range (jx_nth jx_cd 71 []).length).all (jx_okR 71) = true := by decide +kernel
theorem jx_ck72 : (List.range (jx_nth jx_cd 72 []).length).all (jx_okR 72) = true := by decide +kernel
theorem jx_ck73 : (List.range (jx_nth jx_cd 73 []).length).all (jx_okR 73) = true := by decide +kernel
theorem jx_ck74 : (List.range (jx_nth jx_cd 74 []).length).all (jx_okR 74) = true := by decide +kernel
theorem jx_ck75 : (List.range (jx_nth jx_cd 75 []).length).all (jx_okR 75) = true := by decide +kernel
theorem jx_ck76_0 : (List.range' 0 48).all (jx_okR 76) = true := by decide +kernel
theorem jx_ck76_48 : (List.range' 48 48).all (jx_okR 76) = true := by decide +kernel
theorem jx_ck76 : (List.range (jx_nth jx_cd 76 []).length).all (jx_okR 76) = true := by
  refine List.all_eq_true.mpr (fun i hi => ?_)
  have hi : i < 96 := List.mem_range.mp hi
  rcases Nat.lt_or_ge i 48 with h | h
  · exact List.all_eq_true.mp jx_ck76_0 i (List.mem_range'_1.mpr ⟨by omega, by omega⟩)
  exact List.all_eq_true.mp jx_ck76_48 i (List.mem_range'_1.mpr ⟨by omega, by omega⟩)
theorem jx_ck77 : (List.range (jx_nth jx_cd 77 []).length).all (jx_okR 77) = true := by decide +kernel
theorem jx_ck78 : (List.range (jx_nth jx_cd 78 []).length).all (jx_okR 78) = true := by decide +kernel
theorem jx_ck79 : (List.range (jx_nth jx_cd 79 []).length).all (jx_okR 79) = true := by decide +kernel
theorem jx_ck80 : (List.range (jx_nth jx_cd 80 []).length).all (jx_okR 80) = true := by decide +kernel
theorem jx_ck81 : (List.range (jx_nth jx_cd 81 []).length).all (jx_okR 81) = true := by decide +kernel
theorem jx_ck82 : (List.range (jx_nth jx_cd 82 []).length).all (jx_okR 82) = true := by decide +kernel
theorem jx_ck83 : (List.range (jx_nth jx_cd 83 []).length).all (jx_okR 83) = true := by decide +kernel
theorem jx_ck84_0 : (List.range' 0 48).all (jx_okR 84) = true := by decide +kernel
theorem jx_ck84_48 : (List.range' 48 31).all (jx_okR 84) = true := by decide +kernel
theorem jx_ck84 : (List.range (jx_nth jx_cd 84 []).length).all (jx_okR 84) = true := by
  refine List.all_eq_true.mpr (fun i hi => ?_)
  have hi : i < 79 := List.mem_range.mp hi
  rcases Nat.lt_or_ge i 48 with h | h
  · exact List.all_eq_true.mp jx_ck84_0 i (List.mem_range'_1.mpr ⟨by omega, by omega⟩)
  exact List.all_eq_true.mp jx_ck84_48 i (List.mem_range'_1.mpr ⟨by omega, by omega⟩)
theorem jx_ck85 : (List.range (jx_nth jx_cd 85 []).length).all (jx_okR 85) = true := by decide +kernel
theorem jx_ck86 : (List.range (jx_nth jx_cd 86 []).length).all (jx_okR 86) = true := by decide +kernel
theorem jx_ck87 : (List.range (jx_nth jx_cd 87 []).length).all (jx_okR 87) = true := by decide +kernel
theorem jx_ck88 : (List.range (jx_nth jx_cd 88 []).length).all (jx_okR 88) = true := by decide +kernel
end
section
theorem jx_ck89 : (List.range (jx_nth jx_cd 89 []).length).all (jx_okR 89) = true := by decide +kernel
theorem jx_ck90 : (List.range (jx_nth jx_cd 90 []).length).all (jx_okR 90) = true := by decide +kernel
theorem jx_ck91 : (List.range (jx_nth jx_cd 91 []).length).all (jx_okR 91) = true := by decide +kernel
theorem jx_ck92 : (List.range (jx_nth jx_cd 92 []).length).all (jx_okR 92) = true := by decide +kernel
theorem jx_ck93 : (List.range (jx_nth jx_cd 93 []).length).all (jx_okR 93) = true := by decide +kernel
theorem jx_ck94 : (List.range (jx_nth jx_cd 94 []).length).all (jx_okR 94) = true := by decide +kernel
theorem jx_ck95 : (List.range (jx_nth jx_cd 95 []).length).all (jx_okR 95) = true := by decide +kernel
theorem jx_ck96 : (List.range (jx_nth jx_cd 96 []).length).all (jx_okR 96) = true := by decide +kernel
theorem jx_ck97 : (List.range (jx_nth jx_cd 97 []).length).all (jx_okR 97) = true := by decide +kernel
theorem jx_ck98 : (List.range (jx_nth jx_cd 98 []).length).all (jx_okR 98) = true := by decide +kernel
theorem jx_ck99 : (List.range (jx_nth jx_cd 99 []).length).all (jx_okR 99) = true := by decide +kernel
theorem jx_ck100 : (List.range (jx_nth jx_cd 100 []).length).all (jx_okR 100) = true := by decide +kernel
theorem jx_ck101 : (List.range (jx_nth jx_cd 101 []).length).all (jx_okR 101) = true := by decide +kernel
theorem jx_ck102 : (List.range (jx_nth jx_cd 102 []).length).all (jx_okR 102) = true := by decide +kernel
theorem jx_ck103 : (List.range (jx_nth jx_cd 103 []).length).all (jx_okR 103) = true := by decide +kernel
theorem jx_ck104 : (List.range (jx_nth jx_cd 104 []).length).all (jx_okR 104) = true := by decide +kernel
theorem jx_ck105 : (List.range (jx_nth jx_cd 105 []).length).all (jx_okR 105) = true := by decide +kernel
theorem jx_ck106_0 : (List.range' 0 48).all (jx_okR 106) = true := by decide +kernel
theorem jx_ck106_48 : (List.range' 48 34).all (jx_okR 106) = true := by decide +kernel
theorem jx_ck106 : (List.range (jx_nth jx_cd 106 []).length).all (jx_okR 106) = true := by
  refine List.all_eq_true.mpr (fun i hi => ?_)
  have hi : i < 82 := List.mem_range.mp hi
  rcases Nat.lt_or_ge i 48 with h | h
  · exact List.all_eq_true.mp jx_ck106_0 i (List.mem_range'_1.mpr ⟨by omega, by omega⟩)
  exact List.all_eq_true.mp jx_ck106_48 i (List.mem_range'_1.mpr ⟨by omega, by omega⟩)
theorem jx_ck107 : (List.range (jx_nth jx_cd 107 []).length).all (jx_okR 107) = true := by decide +kernel
theorem jx_ck108 : (List.range (jx_nth jx_cd 108 []).length).all (jx_okR 108) = true := by decide +kernel
theorem jx_ck109 : (List.range (jx_nth jx_cd 109 []).length).all (jx_okR 109) = true := by decide +kernel
theorem jx_ck110 : (List.range (jx_nth jx_cd 110 []).length).all (jx_okR 110) = true := by decide +kernel
theorem jx_ck111 : (List.range (jx_nth jx_cd 111 []).length).all (jx_okR 111) = true := by decide +kernel
theorem jx_ck112 : (List.range (jx_nth jx_cd 112 []).length).all (jx_okR 112) = true := by decide +kernel
theorem jx_ck113 : (List.range (jx_nth jx_cd 113 []).length).all (jx_okR 113) = true := by decide +kernel
theorem jx_ck114 : (List.range (jx_nth jx_cd 114 []).length).all (jx_okR 114) = true := by decide +kernel
theorem jx_ck115 : (List.range (jx_nth jx_cd 115 []).length).all (jx_okR 115) = true := by decide +kernel
theorem jx_ck116 : (List.range (jx_nth jx_cd 116 []).length).all (jx_okR 116) = true := by decide +kernel
theorem jx_ck117 : (List.range (jx_nth jx_cd 117 []).length).all (jx_okR 117) = true := by decide +kernel
theorem jx_ck118 : (List.range (jx_nth jx_cd 118 []).length).all (jx_okR 118) = true := by decide +kernel
theorem jx_ck119 : (List.range (jx_nth jx_cd 119 []).length).all (jx_okR 119) = true := by decide +kernel
theorem jx_ck120 : (List.range (jx_nth jx_cd 120 []).length).all (jx_okR 120) = true := by decide +kernel
theorem jx_ck121 : (List.range (jx_nth jx_cd 121 []).length).all (jx_okR 121) = true := by decide +kernel
theorem jx_ck122_0 : (List.range' 0 48).all (jx_okR 122) = true := by decide +kernel
theorem jx_ck122_48 : (List.range' 48 48).all (jx_okR 122) = true := by decide +kernel
theorem jx_ck122_96 : (List.range' 96 20).all (jx_okR 122) = true := by decide +kernel
theorem jx_ck122 : (List.range (jx_nth jx_cd 122 []).length).all (jx_okR 122) = true := by
  refine List.all_eq_true.mpr (fun i hi => ?_)
  have hi : i < 116 := List.mem_range.mp hi
  rcases Nat.lt_or_ge i 48 with h | h
  · exact List.all_eq_true.mp jx_ck122_0 i (List.mem_range'_1.mpr ⟨by omega, by omega⟩)
  rcases Nat.lt_or_ge i 96 with h | h
  · exact List.all_eq_true.mp jx_ck122_48 i (List.mem_range'_1.mpr ⟨by omega, by omega⟩)
  exact List.all_eq_true.mp jx_ck122_96 i (List.mem_range'_1.mpr ⟨by omega, by omega⟩)
theorem jx_ck123 : (List.range (jx_nth jx_cd 123 []).length).all (jx_okR 123) = true := by decide +kernel
theorem jx_ck124 : (List.range (jx_nth jx_cd 124 []).length).all (jx_okR 124) = true := by decide +kernel
theorem jx_ck125 : (List.range (jx_nth jx_cd 125 []).length).all (jx_okR 125) = true := by decide +kernel
theorem jx_ck126_0 : (List.range' 0 48).all (jx_okR 126) = true := by decide +kernel
theorem jx_ck126_48 : (List.range' 48 48).all (jx_okR 126) = true := by decide +kernel
theorem jx_ck126_96 : (List.range' 96 1).all (jx_okR 126) = true := by decide +kernel
theorem jx_ck126 : (List.range (jx_nth jx_cd 126 []).length).all (jx_okR 126) = true := by
  refine List.all_eq_true.mpr (fun i hi => ?_)
  have hi : i < 97 := List.mem_range.mp hi
  rcases Nat.lt_or_ge i 48 with h | h
  · exact List.all_eq_true.mp jx_ck126_0 i (List.mem_range'_1.mpr ⟨by omega, by omega⟩)
  rcases Nat.lt_or_ge i 96 with h | h
  · exact List.all_eq_true.mp jx_ck126_48 i (List.mem_range'_1.mpr ⟨by omega, by omega⟩)
  exact List.all_eq_true.mp jx_ck126_96 i (List.mem_range'_1.mpr ⟨by omega, by omega⟩)
theorem jx_ck127 : (List.range (jx_nth jx_cd 127 []).length).all (jx_okR 127) = true := by decide +kernel
theorem jx_ck128 : (List.range (jx_nth jx_cd 128 []).length).all (jx_okR 128) = true := by decide +kernel
theorem jx_ck129 : (List.range (jx_nth jx_cd 129 []).length).all (jx_okR 129) = true := by decide +kernel
theorem jx_ck130 : (List.range (jx_nth jx_cd 130 []).length).all (jx_okR 130) = true := by decide +kernel
theorem jx_ck131 : (List.range (jx_nth jx_cd 131 []).length).all (jx_okR 131) = true := by decide +kernel
end
section
theorem jx_ck132 : (List.range (jx_nth jx_cd 132 []).length).all (jx_okR 132) = true := by decide +kernel
theorem jx_ck133 : (List.range (jx_nth jx_cd 133 []).length).all (jx_okR 133) = true := by decide +kernel
theorem jx_ck134 : (List.range (jx_nth jx_cd 134 []).length).all (jx_okR 134) = true := by decide +kernel
theorem jx_ck135 : (List.range (jx_nth jx_cd 135 []).length).all (jx_okR 135) = true := by decide +kernel
theorem jx_ck136_0 : (List.range' 0 48).all (jx_okR 136) = true := by decide +kernel
theorem jx_ck136_48 : (List.range' 48 48).all (jx_okR 136) = true := by decide +kernel
theorem jx_ck136_96 : (List.range' 96 3).all (jx_okR 136) = true := by decide +kernel
theorem jx_ck136 : (List.range (jx_nth jx_cd 136 []).length).all (jx_okR 136) = true := by
  refine List.all_eq_true.mpr (fun i hi => ?_)
  have hi : i < 99 := List.mem_range.mp hi
  rcases Nat.lt_or_ge i 48 with h | h
  · exact List.all_eq_true.mp jx_ck136_0 i (List.mem_range'_1.mpr ⟨by omega, by omega⟩)
  rcases Nat.lt_or_ge i 96 with h | h
  · exact List.all_eq_true.mp jx_ck136_48 i (List.mem_range'_1.mpr ⟨by omega, by omega⟩)
  exact List.all_eq_true.mp jx_ck136_96 i (List.mem_range'_1.mpr ⟨by omega, by omega⟩)
theorem jx_ck137_0 : (List.range' 0 48).all (jx_okR 137) = true := by decide +kernel
theorem jx_ck137_48 : (List.range' 48 42).all (jx_okR 137) = true := by decide +kernel
theorem jx_ck137 : (List.range (jx_nth jx_cd 137 []).length).all (jx_okR 137) = true := by
  refine List.all_eq_true.mpr (fun i hi => ?_)
  have hi : i < 90 := List.mem_range.mp hi
  rcases Nat.lt_or_ge i 48 with h | h
  · exact List.all_eq_true.mp jx_ck137_0 i (List.mem_range'_1.mpr ⟨by omega, by omega⟩)
  exact List.all_eq_true.mp jx_ck137_48 i (List.mem_range'_1.mpr ⟨by omega, by omega⟩)
theorem jx_ck138 : (List.range (jx_nth jx_cd 138 []).length).all (jx_okR 138) = true := by decide +kernel
theorem jx_ck139 : (List.range (jx_nth jx_cd 139 []).length).all (jx_okR 139) = true := by decide +kernel
theorem jx_ck140 : (List.range (jx_nth jx_cd 140 []).length).all (jx_okR 140) = true := by decide +kernel
theorem jx_ck141 : (List.range (jx_nth jx_cd 141 []).length).all (jx_okR 141) = true := by decide +kernel
theorem jx_ck142 : (List.range (jx_nth jx_cd 142 []).length).all (jx_okR 142) = true := by decide +kernel
theorem jx_ck143 : (List.range (jx_nth jx_cd 143 []).length).all (jx_okR 143) = true := by decide +kernel
theorem jx_ck144 : (List.range (jx_nth jx_cd 144 []).length).all (jx_okR 144) = true := by decide +kernel
theorem jx_ck145 : (List.range (jx_nth jx_cd 145 []).length).all (jx_okR 145) = true := by decide +kernel
theorem jx_ck146 : (List.range (jx_nth jx_cd 146 []).length).all (jx_okR 146) = true := by decide +kernel
theorem jx_ck147_0 : (List.range' 0 48).all (jx_okR 147) = true := by decide +kernel
theorem jx_ck147_48 : (List.range' 48 48).all (jx_okR 147) = true := by decide +kernel
theorem jx_ck147 : (List.range (jx_nth jx_cd 147 []).length).all (jx_okR 147) = true := by
  refine List.all_eq_true.mpr (fun i hi => ?_)
  have hi : i < 96 := List.mem_range.mp hi
  rcases Nat.lt_or_ge i 48 with h | h
  · exact List.all_eq_true.mp jx_ck147_0 i (List.mem_range'_1.mpr ⟨by omega, by omega⟩)
  exact List.all_eq_true.mp jx_ck147_48 i (List.mem_range'_1.mpr ⟨by omega, by omega⟩)
theorem jx_ck148 : (List.range (jx_nth jx_cd 148 []).length).all (jx_okR 148) = true := by decide +kernel
theorem jx_ck149 : (List.range (jx_nth jx_cd 149 []).length).all (jx_okR 149) = true := by decide +kernel
theorem jx_ck150 : (List.range (jx_nth jx_cd 150 []).length).all (jx_okR 150) = true := by decide +kernel
theorem jx_ck151 : (List.range (jx_nth jx_cd 151 []).length).all (jx_okR 151) = true := by decide +kernel
theorem jx_ck152 : (List.range (jx_nth jx_cd 152 []).length).all (jx_okR 152) = true := by decide +kernel
theorem jx_ck153 : (List.range (jx_nth jx_cd 153 []).length).all (jx_okR 153) = true := by decide +kernel
theorem jx_ck154 : (List.range (jx_nth jx_cd 154 []).length).all (jx_okR 154) = true := by decide +kernel
theorem jx_ck155_0 : (List.range' 0 48).all (jx_okR 155) = true := by decide +kernel
theorem jx_ck155_48 : (List.range' 48 30).all (jx_okR 155) = true := by decide +kernel
theorem jx_ck155 : (List.range (jx_nth jx_cd 155 []).length).all (jx_okR 155) = true := by
  refine List.all_eq_true.mpr (fun i hi => ?_)
  have hi : i < 78 := List.mem_range.mp hi
  rcases Nat.lt_or_ge i 48 with h | h
  · exact List.all_eq_true.mp jx_ck155_0 i (List.mem_range'_1.mpr ⟨by omega, by omega⟩)
  exact List.all_eq_true.mp jx_ck155_48 i (List.mem_range'_1.mpr ⟨by omega, by omega⟩)
theorem jx_ck156 : (List.range (jx_nth jx_cd 156 []).length).all (jx_okR 156) = true := by decide +kernel
theorem jx_ck157_0 : (List.range' 0 48).all (jx_okR 157) = true := by decide +kernel
theorem jx_ck157_48 : (List.range' 48 48).all (jx_okR 157) = true := by decide +kernel
theorem jx_ck157_96 : (List.range' 96 48).all (jx_okR 157) = true := by decide +kernel
theorem jx_ck157_144 : (List.range' 144 22).all (jx_okR 157) = true := by decide +kernel
theorem jx_ck157 : (List.range (jx_nth jx_cd 157 []).length).all (jx_okR 157) = true := by
  refine List.all_eq_true.mpr (fun i hi => ?_)
  have hi : i < 166 := List.mem_range.mp hi
  rcases Nat.lt_or_ge i 48 with h | h
  · exact List.all_eq_true.mp jx_ck157_0 i (List.mem_range'_1.mpr ⟨by omega, by omega⟩)
  rcases Nat.lt_or_ge i 96 with h | h
  · exact List.all_eq_true.mp jx_ck157_48 i (List.mem_range'_1.mpr ⟨by omega, by omega⟩)
  rcases Nat.lt_or_ge i 144 with h | h
  · exact List.all_eq_true.mp jx_ck157_96 i (List.mem_range'_1.mpr ⟨by omega, by omega⟩)
  exact List.all_eq_true.mp jx_ck157_144 i (List.mem_range'_1.mpr ⟨by omega, by omega⟩)
theorem jx_ck158 : (List.range (jx_nth jx_cd 158 []).length).all (jx_okR 158) = true := by decide +kernel
theorem jx_ck159 : (List.range (jx_nth jx_cd 159 []).length).all (jx_okR 159) = true := by decide +kernel
end
section
theorem jx_ck160 : (List.range (jx_nth jx_cd 160 []).length).all (jx_okR 160) = true := by decide +kernel
theorem jx_ck161 : (List.range (jx_nth jx_cd 161 []).length).all (jx_okR 161) = true := by decide +kernel
theorem jx_ck162_0 : (List.range' 0 48).all (jx_okR 162) = true := by decide +kernel
theorem jx_ck162_48 : (List.range' 48 31).all (jx_okR 162) = true := by decide +kernel
theorem jx_ck162 : (List.range (jx_nth jx_cd 162 []).length).all (jx_okR 162) = true := by
  refine List.all_eq_true.mpr (fun i hi => ?_)
  have hi : i < 79 := List.mem_range.mp hi
  rcases Nat.lt_or_ge i 48 with h | h
  · exact List.all_eq_true.mp jx_ck162_0 i (List.mem_range'_1.mpr ⟨by omega, by omega⟩)
  exact List.all_eq_true.mp jx_ck162_48 i (List.mem_range'_1.mpr ⟨by omega, by omega⟩)
theorem jx_ck163_0 : (List.range' 0 48).all (jx_okR 163) = true := by decide +kernel
theorem jx_ck163_48 : (List.range' 48 48).all (jx_okR 163) = true := by decide +kernel
theorem jx_ck163_96 : (List.range' 96 6).all (jx_okR 163) = true := by decide +kernel
theorem jx_ck163 : (List.range (jx_nth jx_cd 163 []).length).all (jx_okR 163) = true := by
  refine List.all_eq_true.mpr (fun i hi => ?_)
  have hi : i < 102 := List.mem_range.mp hi
  rcases Nat.lt_or_ge i 48 with h | h
  · exact List.all_eq_true.mp jx_ck163_0 i (List.mem_range'_1.mpr ⟨by omega, by omega⟩)
  rcases Nat.lt_or_ge i 96 with h | h
  · exact List.all_eq_true.mp jx_ck163_48 i (List.mem_range'_1.mpr ⟨by omega, by omega⟩)
  exact List.all_eq_true.mp jx_ck163_96 i (List.mem_range'_1.mpr ⟨by omega, by omega⟩)
theorem jx_ck164_0 : (List.range' 0 48).all (jx_okR 164) = true := by decide +kernel
theorem jx_ck164_48 : (List.range' 48 48).all (jx_okR 164) = true := by decide +kernel
theorem jx_ck164_96 : (List.range' 96 48).all (jx_okR 164) = true := by decide +kernel
theorem jx_ck164_144 : (List.range' 144 48).all (jx_okR 164) = true := by decide +kernel
theorem jx_ck164_192 : (List.range' 192 22).all (jx_okR 164) = true := by decide +kernel
theorem jx_ck164 : (List.range (jx_nth jx_cd 164 []).length).all (jx_okR 164) = true := by
  refine List.all_eq_true.mpr (fun i hi => ?_)
  have hi : i < 214 := List.mem_range.mp hi
  rcases Nat.lt_or_ge i 48 with h | h
  · exact List.all_eq_true.mp jx_ck164_0 i (List.mem_range'_1.mpr ⟨by omega, by omega⟩)
  rcases Nat.lt_or_ge i 96 with h | h
  · exact List.all_eq_true.mp jx_ck164_48 i (List.mem_range'_1.mpr ⟨by omega, by omega⟩)
  rcases Nat.lt_or_ge i 144 with h | h
  · exact List.all_eq_true.mp jx_ck164_96 i (List.mem_range'_1.mpr ⟨by omega, by omega⟩)
  rcases Nat.lt_or_ge i 192 with h | h
  · exact List.all_eq_true.mp jx_ck164_144 i (List.mem_range'_1.mpr ⟨by omega, by omega⟩)
  exact List.all_eq_true.mp jx_ck164_192 i (List.mem_range'_1.mpr ⟨by omega, by omega⟩)
theorem jx_ck165_0 : (List.range' 0 48).all (jx_okR 165) = true := by decide +kernel
theorem jx_ck165_48 : (List.range' 48 48).all (jx_okR 165) = true := by decide +kernel
theorem jx_ck165_96 : (List.range' 96 34).all (jx_okR 165) = true := by decide +kernel
theorem jx_ck165 : (List.range (jx_nth jx_cd 165 []).length).all (jx_okR 165) = true := by
  refine List.all_eq_true.mpr (fun i hi => ?_)
  have hi : i < 130 := List.mem_range.mp hi
  rcases Nat.lt_or_ge i 48 with h | h
  · exact List.all_eq_true.mp jx_ck165_0 i (List.mem_range'_1.mpr ⟨by omega, by omega⟩)
  rcases Nat.lt_or_ge i 96 with h | h
  · exact List.all_eq_true.mp jx_ck165_48 i (List.mem_range'_1.mpr ⟨by omega, by omega⟩)
  exact List.all_eq_true.mp jx_ck165_96 i (List.mem_range'_1.mpr ⟨by omega, by omega⟩)
theorem jx_ck166 : (List.range (jx_nth jx_cd 166 []).length).all (jx_okR 166) = true := by decide +kernel
theorem jx_ck167 : (List.range (jx_nth jx_cd 167 []).length).all (jx_okR 167) = true := by decide +kernel
theorem jx_ck168 : (List.range (jx_nth jx_cd 168 []).length).all (jx_okR 168) = true := by decide +kernel
theorem jx_ck169 : (List.range (jx_nth jx_cd 169 []).length).all (jx_okR 169) = true := by decide +kernel
theorem jx_ck170 : (List.range (jx_nth jx_cd 170 []).length).all (jx_okR 170) = true := by decide +kernel
theorem jx_ck171 : (List.range (jx_nth jx_cd 171 []).length).all (jx_okR 171) = true := by decide +kernel
theorem jx_ck172 : (List.range (jx_nth jx_cd 172 []).length).all (jx_okR 172) = true := by decide +kernel
theorem jx_ck173_0 : (List.range' 0 48).all (jx_okR 173) = true := by decide +kernel
theorem jx_ck173_48 : (List.range' 48 48).all (jx_okR 173) = true := by decide +kernel
theorem jx_ck173_96 : (List.range' 96 42).all (jx_okR 173) = true := by decide +kernel
theorem jx_ck173 : (List.range (jx_nth jx_cd 173 []).length).all (jx_okR 173) = true := by
  refine List.all_eq_true.mpr (fun i hi => ?_)
  have hi : i < 138 := List.mem_range.mp hi
  rcases Nat.lt_or_ge i 48 with h | h
  · exact List.all_eq_true.mp jx_ck173_0 i (List.mem_range'_1.mpr ⟨by omega, by omega⟩)
  rcases Nat.lt_or_ge i 96 with h | h
  · exact List.all_eq_true.mp jx_ck173_48 i (List.mem_range'_1.mpr ⟨by omega, by omega⟩)
  exact List.all_eq_true.mp jx_ck173_96 i (List.mem_range'_1.mpr ⟨by omega, by omega⟩)
theorem jx_ck174 : (List.range (jx_nth jx_cd 174 []).length).all (jx_okR 174) = true := by decide +kernel
theorem jx_ck175 : (List.range (jx_nth jx_cd 175 []).length).all (jx_okR 175) = true := by decide +kernel
theorem jx_ck176 : (List.range (jx_nth jx_cd 176 []).length).all (jx_okR 176) = true := by decide +kernel
theorem jx_ck177 : (List.range (jx_nth jx_cd 177 []).length).all (jx_okR 177) = true := by decide +kernel
theorem jx_ck178_0 : (List.range' 0 48).all (jx_okR 178) = true := by decide +kernel
theorem jx_ck178_48 : (List.range' 48 37).all (jx_okR 178) = true := by decide +kernel
theorem jx_ck178 : (List.range (jx_nth jx_cd 178 []).length).all (jx_okR 178) = true := by
  refine List.all_eq_true.mpr (fun i hi => ?_)
  have hi : i < 85 := List.mem_range.mp hi
  rcases Nat.lt_or_ge i 48 with h | h
  · exact List.all_eq_true.mp jx_ck178_0 i (List.mem_range'_1.mpr ⟨by omega, by omega⟩)
  exact List.all_eq_true.mp jx_ck178_48 i (List.mem_range'_1.mpr ⟨by omega, by omega⟩)
theorem jx_ck179 : (List.range (jx_nth jx_cd 179 []).length).all (jx_okR 179) = true := by decide +kernel
theorem jx_ck180_0 : (List.range' 0 48).all (jx_okR 180) = true := by decide +kernel
theorem jx_ck180_48 : (List.range' 48 39).all (jx_okR 180) = true := by decide +kernel
theorem jx_ck180 : (List.range (jx_nth jx_cd 180 []).length).all (jx_okR 180) = true := by
  refine List.all_eq_true.mpr (fun i hi => ?_)
  have hi : i < 87 := List.mem_range.mp hi
  rcases Nat.lt_or_ge i 48 with h | h
  · exact List.all_eq_true.mp jx_ck180_0 i (List.mem_range'_1.mpr ⟨by omega, by omega⟩)
  exact List.all_eq_true.mp jx_ck180_48 i (List.mem_range'_1.mpr ⟨by omega, by omega⟩)
theorem jx_ck181 : (List.range (jx_nth jx_cd 181 []).length).all (jx_okR 181) = true := by decide +kernel
end
section
theorem jx_ck182_0 : (List.range' 0 48).all (jx_okR 182) = true := by decide +kernel
theorem jx_ck182_48 : (List.range' 48 48).all (jx_okR 182) = true := by decide +kernel
theorem jx_ck182_96 : (List.range' 96 48).all (jx_okR 182) = true := by decide +kernel
theorem jx_ck182_144 : (List.range' 144 3).all (jx_okR 182) = true := by decide +kernel
theorem jx_ck182 : (List.range (jx_nth jx_cd 182 []).length).all (jx_okR 182) = true := by
  refine List.all_eq_true.mpr (fun i hi => ?_)
  have hi : i < 147 := List.mem_range.mp hi
  rcases Nat.lt_or_ge i 48 with h | h
  · exact List.all_eq_true.mp jx_ck182_0 i (List.mem_range'_1.mpr ⟨by omega, by omega⟩)
  rcases Nat.lt_or_ge i 96 with h | h
  · exact List.all_eq_true.mp jx_ck182_48 i (List.mem_range'_1.mpr ⟨by omega, by omega⟩)
  rcases Nat.lt_or_ge i 144 with h | h
  · exact List.all_eq_true.mp jx_ck182_96 i (List.mem_range'_1.mpr ⟨by omega, by omega⟩)
  exact List.all_eq_true.mp jx_ck182_144 i (List.mem_range'_1.mpr ⟨by omega, by omega⟩)
theorem jx_ck183 : (List.range (jx_nth jx_cd 183 []).length).all (jx_okR 183) = true := by decide +kernel
theorem jx_ck184 : (List.range (jx_nth jx_cd 184 []).length).all (jx_okR 184) = true := by decide +kernel
theorem jx_ck185 : (List.range (jx_nth jx_cd 185 []).length).all (jx_okR 185) = true := by decide +kernel
theorem jx_ck186_0 : (List.range' 0 48).all (jx_okR 186) = true := by decide +kernel
theorem jx_ck186_48 : (List.range' 48 48).all (jx_okR 186) = true := by decide +kernel
theorem jx_ck186_96 : (List.range' 96 48).all (jx_okR 186) = true := by decide +kernel
theorem jx_ck186_144 : (List.range' 144 9).all (jx_okR 186) = true := by decide +kernel
theorem jx_ck186 : (List.range (jx_nth jx_cd 186 []).length).all (jx_okR 186) = true := by
  refine List.all_eq_true.mpr (fun i hi => ?_)
  have hi : i < 153 := List.mem_range.mp hi
  rcases Nat.lt_or_ge i 48 with h | h
  · exact List.all_eq_true.mp jx_ck186_0 i (List.mem_range'_1.mpr ⟨by omega, by omega⟩)
  rcases Nat.lt_or_ge i 96 with h | h
  · exact List.all_eq_true.mp jx_ck186_48 i (List.mem_range'_1.mpr ⟨by omega, by omega⟩)
  rcases Nat.lt_or_ge i 144 with h | h
  · exact List.all_eq_true.mp jx_ck186_96 i (List.mem_range'_1.mpr ⟨by omega, by omega⟩)
  exact List.all_eq_true.mp jx_ck186_144 i (List.mem_range'_1.mpr ⟨by omega, by omega⟩)
theorem jx_ck187 : (List.range (jx_nth jx_cd 187 []).length).all (jx_okR 187) = true := by decide +kernel
theorem jx_ck188 : (List.range (jx_nth jx_cd 188 []).length).all (jx_okR 188) = true := by decide +kernel
theorem jx_ck189 : (List.range (jx_nth jx_cd 189 []).length).all (jx_okR 189) = true := by decide +kernel
theorem jx_ck190_0 : (List.range' 0 48).all (jx_okR 190) = true := by decide +kernel
theorem jx_ck190_48 : (List.range' 48 48).all (jx_okR 190) = true := by decide +kernel
theorem jx_ck190_96 : (List.range' 96 3).all (jx_okR 190) = true := by decide +kernel
theorem jx_ck190 : (List.range (jx_nth jx_cd 190 []).length).all (jx_okR 190) = true := by
  refine List.all_eq_true.mpr (fun i hi => ?_)
  have hi : i < 99 := List.mem_range.mp hi
  rcases Nat.lt_or_ge i 48 with h | h
  · exact List.all_eq_true.mp jx_ck190_0 i (List.mem_range'_1.mpr ⟨by omega, by omega⟩)
  rcases Nat.lt_or_ge i 96 with h | h
  · exact List.all_eq_true.mp jx_ck190_48 i (List.mem_range'_1.mpr ⟨by omega, by omega⟩)
  exact List.all_eq_true.mp jx_ck190_96 i (List.mem_range'_1.mpr ⟨by omega, by omega⟩)
theorem jx_ck191_0 : (List.range' 0 48).all (jx_okR 191) = true := by decide +kernel
theorem jx_ck191_48 : (List.range' 48 48).all (jx_okR 191) = true := by decide +kernel
theorem jx_ck191_96 : (List.range' 96 48).all (jx_okR 191) = true := by decide +kernel
theorem jx_ck191_144 : (List.range' 144 48).all (jx_okR 191) = true := by decide +kernel
theorem jx_ck191_192 : (List.range' 192 48).all (jx_okR 191) = true := by decide +kernel
theorem jx_ck191_240 : (List.range' 240 48).all (jx_okR 191) = true := by decide +kernel
theorem jx_ck191_288 : (List.range' 288 48).all (jx_okR 191) = true := by decide +kernel
theorem jx_ck191_336 : (List.range' 336 48).all (jx_okR 191) = true := by decide +kernel
theorem jx_ck191_384 : (List.range' 384 48).all (jx_okR 191) = true := by decide +kernel
theorem jx_ck191_432 : (List.range' 432 48).all (jx_okR 191) = true := by decide +kernel
theorem jx_ck191_480 : (List.range' 480 48).all (jx_okR 191) = true := by decide +kernel
theorem jx_ck191_528 : (List.range' 528 48).all (jx_okR 191) = true := by decide +kernel
theorem jx_ck191_576 : (List.range' 576 48).all (jx_okR 191) = true := by decide +kernel
theorem jx_ck191_624 : (List.range' 624 48).all (jx_okR 191) = true := by decide +kernel
theorem jx_ck191_672 : (List.range' 672 48).all (jx_okR 191) = true := by decide +kernel
theorem jx_ck191_720 : (List.range' 720 48).all (jx_okR 191) = true := by decide +kernel
end
section
theorem jx_ck191_768 : (List.range' 768 48).all (jx_okR 191) = true := by decide +kernel
theorem jx_ck191_816 : (List.range' 816 48).all (jx_okR 191) = true := by decide +kernel
theorem jx_ck191_864 : (List.range' 864 48).all (jx_okR 191) = true := by decide +kernel
theorem jx_ck191_912 : (List.range' 912 48).all (jx_okR 191) = true := by decide +kernel
theorem jx_ck191_960 : (List.range' 960 48).all (jx_okR 191) = true := by decide +kernel
theorem jx_ck191_1008 : (List.range' 1008 48).all (jx_okR 191) = true := by decide +kernel
theorem jx_ck191_1056 : (List.range' 1056 48).all (jx_okR 191) = true := by decide +kernel
theorem jx_ck191_1104 : (List.range' 1104 48).all (jx_okR 191) = true := by decide +kernel
end
section
theorem jx_len191 : (jx_nth jx_cd 191 []).length = 1152 := by decide +kernel
theorem jx_ck191 : (List.range (jx_nth jx_cd 191 []).length).all (jx_okR 191) = true := by
  refine List.all_eq_true.mpr (fun i hi => ?_)
  have hi := List.mem_range.mp hi
  rw [jx_len191] at hi
  rcases Nat.lt_or_ge i 48 with h | h
  · exact List.all_eq_true.mp jx_ck191_0 i (List.mem_range'_1.mpr ⟨by omega, by omega⟩)
  rcases Nat.lt_or_ge i 96 with h | h
  · exact List.all_eq_true.mp jx_ck191_48 i (List.mem_range'_1.mpr ⟨by omega, by omega⟩)
  rcases Nat.lt_or_ge i 144 with h | h
  · exact List.all_eq_true.mp jx_ck191_96 i (List.mem_range'_1.mpr ⟨by omega, by omega⟩)
  rcases Nat.lt_or_ge i 192 with h | h
  · exact List.all_eq_true.mp jx_ck191_144 i (List.mem_range'_1.mpr ⟨by omega, by omega⟩)
  rcases Nat.lt_or_ge i 240 with h | h
  · exact List.all_eq_true.mp jx_ck191_192 i (List.mem_range'_1.mpr ⟨by omega, by omega⟩)
  rcases Nat.lt_or_ge i 288 with h | h
  · exact List.all_eq_true.mp jx_ck191_240 i (List.mem_range'_1.mpr ⟨by omega, by omega⟩)
  rcases Nat.lt_or_ge i 336 with h | h
  · exact List.all_eq_true.mp jx_ck191_288 i (List.mem_range'_1.mpr ⟨by omega, by omega⟩)
  rcases Nat.lt_or_ge i 384 with h | h
  · exact List.all_eq_true.mp jx_ck191_336 i (List.mem_range'_1.mpr ⟨by omega, by omega⟩)
  rcases Nat.lt_or_ge i 432 with h | h
  · exact List.all_eq_true.mp jx_ck191_384 i (List.mem_range'_1.mpr ⟨by omega, by omega⟩)
  rcases Nat.lt_or_ge i 480 with h | h
  · exact List.all_eq_true.mp jx_ck191_432 i (List.mem_range'_1.mpr ⟨by omega, by omega⟩)
  rcases Nat.lt_or_ge i 528 with h | h
  · exact List.all_eq_true.mp jx_ck191_480 i (List.mem_range'_1.mpr ⟨by omega, by omega⟩)
  rcases Nat.lt_or_ge i 576 with h | h
  · exact List.all_eq_true.mp jx_ck191_528 i (List.mem_range'_1.mpr ⟨by omega, by omega⟩)
  rcases Nat.lt_or_ge i 624 with h | h
  · exact List.all_eq_true.mp jx_ck191_576 i (List.mem_range'_1.mpr ⟨by omega, by omega⟩)
  rcases Nat.lt_or_ge i 672 with h | h
  · exact List.all_eq_true.mp jx_ck191_624 i (List.mem_range'_1.mpr ⟨by omega, by omega⟩)
  rcases Nat.lt_or_ge i 720 with h | h
  · exact List.all_eq_true.mp jx_ck191_672 i (List.mem_range'_1.mpr ⟨by omega, by omega⟩)
  rcases Nat.lt_or_ge i 768 with h | h
  · exact List.all_eq_true.mp jx_ck191_720 i (List.mem_range'_1.mpr ⟨by omega, by omega⟩)
  rcases Nat.lt_or_ge i 816 with h | h
  · exact List.all_eq_true.mp jx_ck191_768 i (List.mem_range'_1.mpr ⟨by omega, by omega⟩)
  rcases Nat.lt_or_ge i 864 with h | h
  · exact List.all_eq_true.mp jx_ck191_816 i (List.mem_range'_1.mpr ⟨by omega, by omega⟩)
  rcases Nat.lt_or_ge i 912 with h | h
  · exact List.all_eq_true.mp jx_ck191_864 i (List.mem_range'_1.mpr ⟨by omega, by omega⟩)
  rcases Nat.lt_or_ge i 960 with h | h
  · exact List.all_eq_true.mp jx_ck191_912 i (List.mem_range'_1.mpr ⟨by omega, by omega⟩)
  rcases Nat.lt_or_ge i 1008 with h | h
  · exact List.all_eq_true.mp jx_ck191_960 i (List.mem_range'_1.mpr ⟨by omega, by omega⟩)
  rcases Nat.lt_or_ge i 1056 with h | h
  · exact List.all_eq_true.mp jx_ck191_1008 i (List.mem_range'_1.mpr ⟨by omega, by omega⟩)
  rcases Nat.lt_or_ge i 1104 with h | h
  · exact List.all_eq_true.mp jx_ck191_1056 i (List.mem_range'_1.mpr ⟨by omega, by omega⟩)
  exact List.all_eq_true.mp jx_ck191_1104 i (List.mem_range'_1.mpr ⟨by omega, by omega⟩)
theorem jx_ck (x : Nat) (hx : x < 192) (i : Nat) (hi : i < (jx_nth jx_cd x []).length) : jx_okR x i = true := by
  · rcases Nat.lt_or_ge x 96 with h96 | h96
    · rcases Nat.lt_or_ge x 48 with h48 | h48
      · rcases Nat.lt_or_ge x 24 with h24 | h24
        · rcases Nat.lt_or_ge x 12 with h12 | h12
          · rcases Nat.lt_or_ge x 6 with h6 | h6
            · rcases Nat.lt_or_ge x 3 with h3 | h3
              · rcases Nat.lt_or_ge x 1 with h1 | h1
                · obtain rfl : x = 0 := by omega
                  exact List.all_eq_true.mp jx_ck0 i (List.mem_range.mpr hi)
                · rcases Nat.lt_or_ge x 2 with h2 | h2
                  · obtain rfl : x = 1 := by omega
                    exact List.all_eq_true.mp jx_ck1 i (List.mem_range.mpr hi)
                  · obtain rfl : x = 2 := by omega
                    exact List.all_eq_true.mp jx_ck2 i (List.mem_range.mpr hi)
              · rcases Nat.lt_or_ge x 4 with h4 | h4
                · obtain rfl : x = 3 := by omega
                  exact List.all_eq_true.mp jx_ck3 i (List.mem_range.mpr hi)
                · rcases Nat.lt_or_ge x 5 with h5 | h5
                  · obtain rfl : x = 4 := by omega
                    exact List.all_eq_true.mp jx_ck4 i (List.mem_range.mpr hi)
                  · obtain rfl : x = 5 := by omega
                    exact List.all_eq_true.mp jx_ck5 i (List.mem_range.mpr hi)
            · rcases Nat.lt_or_ge x 9 with h9 | h9
              · rcases Nat.lt_or_ge x 7 with h7 | h7
                · obtain rfl : x = 6 := by omega
                  exact List.all_eq_true.mp jx_ck6 i (List.mem_range.mpr hi)
                · rcases Nat.lt_or_ge x 8 with h8 | h8
                  · obtain rfl : x = 7 := by omega
                    exact List.all_eq_true.mp jx_ck7 i (List.mem_range.mpr hi)
                  · obtain rfl : x = 8 := by omega
                    exact List.all_eq_true.mp jx_ck8 i (List.mem_range.mpr hi)
              · rcases Nat.lt_or_ge x 10 with h10 | h10
                · obtain rfl : x = 9 := by omega
                  exact List.all_eq_true.mp jx_ck9 i (List.mem_range.mpr hi)
                · rcases Nat.lt_or_ge x 11 with h11 | h11
                  · obtain rfl : x = 10 := by omega
                    exact List.all_eq_true.mp jx_ck10 i (List.mem_range.mpr hi)
                  · obtain rfl : x = 11 := by omega
                    exact List.all_eq_true.mp jx_ck11 i (List.mem_range.mpr hi)
          · rcases Nat.lt_or_ge x 18 with h18 | h18
            · rcases Nat.lt_or_ge x 15 with h15 | h15
              · rcases Nat.lt_or_ge x 13 with h13 | h13
                · obtain rfl : x = 12 := by omega
                  exact List.all_eq_true.mp jx_ck12 i (List.mem_range.mpr hi)
                · rcases Nat.lt_or_ge x 14 with h14 | h14
                  · obtain rfl : x = 13 := by omega
                    exact List.all_eq_true.mp jx_ck13 i (List.mem_range.mpr hi)
                  · obtain rfl : x = 14 := by omega
                    exact List.all_eq_true.mp jx_ck14 i (List.mem_range.mpr hi)
              · rcases Nat.lt_or_ge x 16 with h16 | h16
                · obtain rfl : x = 15 := by omega
                  exact List.all_eq_true.mp jx_ck15 i (List.mem_range.mpr hi)
                · rcases Nat.lt_or_ge x 17 with h17 | h17
                  · obtain rfl : x = 16 := by omega
                    exact List.all_eq_true.mp jx_ck16 i (List.mem_range.mpr hi)
                  · obtain rfl : x = 17 := by omega
                    exact List.all_eq_true.mp jx_ck17 i (List.mem_range.mpr hi)
            · rcases Nat.lt_or_ge x 21 with h21 | h21
              · rcases Nat.lt_or_ge x 19 with h19 | h19
                · obtain rfl : x = 18 := by omega
                  exact List.all_eq_true.mp jx_ck18 i (List.mem_range.mpr hi)
                · rcases Nat.lt_or_ge x 20 with h20 | h20
                  · obtain rfl : x = 19 := by omega
                    exact List.all_eq_true.mp jx_ck19 i (List.mem_range.mpr hi)
                  · obtain rfl : x = 20 := by omega
                    exact List.all_eq_true.mp jx_ck20 i (List.mem_range.mpr hi)
              · rcases Nat.lt_or_ge x 22 with h22 | h22
                · obtain rfl : x = 21 := by omega
                  exact List.all_eq_true.mp jx_ck21 i (List.mem_range.mpr hi)
                · rcases Nat.lt_or_ge x 23 with h23 | h23
                  · obtain rfl : x = 22 := by omega
                    exact List.all_eq_true.mp jx_ck22 i (List.mem_range.mpr hi)
                  · obtain rfl : x = 23 := by omega
                    exact List.all_eq_true.mp jx_ck23 i (List.mem_range.mpr hi)
        · rcases Nat.lt_or_ge x 36 with h36 | h36
          · rcases Nat.lt_or_ge x 30 with h30 | h30
            · rcases Nat.lt_or_ge x 27 with h27 | h27
              · rcases Nat.lt_or_ge x 25 with h25 | h25
                · obtain rfl : x = 24 := by omega
                  exact List.all_eq_true.mp jx_ck24 i (List.mem_range.mpr hi)
                · rcases Nat.lt_or_ge x 26 with h26 | h26
                  · obtain rfl : x = 25 := by omega
                    exact List.all_eq_true.mp jx_ck25 i (List.mem_range.mpr hi)
                  · obtain rfl : x = 26 := by omega
                    exact List.all_eq_true.mp jx_ck26 i (List.mem_range.mpr hi)
              · rcases Nat.lt_or_ge x 28 with h28 | h28
                · obtain rfl : x = 27 := by omega
                  exact List.all_eq_true.mp jx_ck27 i (List.mem_range.mpr hi)
                · rcases Nat.lt_or_ge x 29 with h29 | h29
                  · obtain rfl : x = 28 := by omega
                    exact List.all_eq_true.mp jx_ck28 i (List.mem_range.mpr hi)
                  · obtain rfl : x = 29 := by omega
                    exact List.all_eq_true.mp jx_ck29 i (List.mem_range.mpr hi)
            · rcases Nat.lt_or_ge x 33 with h33 | h33
              · rcases Nat.lt_or_ge x 31 with h31 | h31
                · obtain rfl : x = 30 := by omega
                  exact List.all_eq_true.mp jx_ck30 i (List.mem_range.mpr hi)
                · rcases Nat.lt_or_ge x 32 with h32 | h32
                  · obtain rfl : x = 31 := by omega
                    exact List.all_eq_true.mp jx_ck31 i (List.mem_range.mpr hi)
                  · obtain rfl : x = 32 := by omega
                    exact List.all_eq_true.mp jx_ck32 i (List.mem_range.mpr hi)
              · rcases Nat.lt_or_ge x 34 with h34 | h34
                · obtain rfl : x = 33 := by omega
                  exact List.all_eq_true.mp jx_ck33 i (List.mem_range.mpr hi)
                · rcases Nat.lt_or_ge x 35 with h35 | h35
                  · obtain rfl : x = 34 := by omega
                    exact List.all_eq_true.mp jx_ck34 i (List.mem_range.mpr hi)
                  · obtain rfl : x = 35 := by omega
                    exact List.all_eq_true.mp jx_ck35 i (List.mem_range.mpr hi)
          · rcases Nat.lt_or_ge x 42 with h42 | h42
            · rcases Nat.lt_or_ge x 39 with h39 | h39
              · rcases Nat.lt_or_ge x 37 with h37 | h37
                · obtain rfl : x = 36 := by omega
                  exact List.all_eq_true.mp jx_ck36 i (List.mem_range.mpr hi)
                · rcases Nat.lt_or_ge x 38 with h38 | h38
                  · obtain rfl : x = 37 := by omega
                    exact List.all_eq_true.mp jx_ck37 i (List.mem_range.mpr hi)
                  · obtain rfl : x = 38 := by omega
                    exact List.all_eq_true.mp jx_ck38 i (List.mem_range.mpr hi)
              · rcases Nat.lt_or_ge x 40 with h40 | h40
                · obtain rfl : x = 39 := by omega
                  exact List.all_eq_true.mp jx_ck39 i (List.mem_range.mpr hi)
                · rcases Nat.lt_or_ge x 41 with h41 | h41
                  · obtain rfl : x = 40 := by omega
                    exact List.all_eq_true.mp jx_ck40 i (List.mem_range.mpr hi)
                  · obtain rfl : x = 41 := by omega
                    exact List.all_eq_true.mp jx_ck41 i (List.mem_range.mpr hi)
            · rcases Nat.lt_or_ge x 45 with h45 | h45
              · rcases Nat.lt_or_ge x 43 with h43 | h43
                · obtain rfl : x = 42 := by omega
                  exact List.all_eq_true.mp jx_ck42 i (List.mem_range.mpr hi)
                · rcases Nat.lt_or_ge x 44 with h44 | h44
                  · obtain rfl : x = 43 := by omega
                    exact List.all_eq_true.mp jx_ck43 i (List.mem_range.mpr hi)
                  · obtain rfl : x = 44 := by omega
                    exact List.all_eq_true.mp jx_ck44 i (List.mem_range.mpr hi)
              · rcases Nat.lt_or_ge x 46 with h46 | h46
                · obtain rfl : x = 45 := by omega
                  exact List.all_eq_true.mp jx_ck45 i (List.mem_range.mpr hi)
                · rcases Nat.lt_or_ge x 47 with h47 | h47
                  · obtain rfl : x = 46 := by omega
                    exact List.all_eq_true.mp jx_ck46 i (List.mem_range.mpr hi)
                  · obtain rfl : x = 47 := by omega
                    exact List.all_eq_true.mp jx_ck47 i (List.mem_range.mpr hi)
      · rcases Nat.lt_or_ge x 72 with h72 | h72
        · rcases Nat.lt_or_ge x 60 with h60 | h60
          · rcases Nat.lt_or_ge x 54 with h54 | h54
            · rcases Nat.lt_or_ge x 51 with h51 | h51
              · rcases Nat.lt_or_ge x 49 with h49 | h49
                · obtain rfl : x = 48 := by omega
                  exact List.all_eq_true.mp jx_ck48 i (List.mem_range.mpr hi)
                · rcases Nat.lt_or_ge x 50 with h50 | h50
                  · obtain rfl : x = 49 := by omega
                    exact List.all_eq_true.mp jx_ck49 i (List.mem_range.mpr hi)
                  · obtain rfl : x = 50 := by omega
                    exact List.all_eq_true.mp jx_ck50 i (List.mem_range.mpr hi)
              · rcases Nat.lt_or_ge x 52 with h52 | h52
                · obtain rfl : x = 51 := by omega
                  exact List.all_eq_true.mp jx_ck51 i (List.mem_range.mpr hi)
                · rcases Nat.lt_or_ge x 53 with h53 | h53
                  · obtain rfl : x = 52 := by omega
                    exact List.all_eq_true.mp jx_ck52 i (List.mem_range.mpr hi)
                  · obtain rfl : x = 53 := by omega
                    exact List.all_eq_true.mp jx_ck53 i (List.mem_range.mpr hi)
            · rcases Nat.lt_or_ge x 57 with h57 | h57
              · rcases Nat.lt_or_ge x 55 with h55 | h55
                · obtain rfl : x = 54 := by omega
                  exact List.all_eq_true.mp jx_ck54 i (List.mem_range.mpr hi)
                · rcases Nat.lt_or_ge x 56 with h56 | h56
                  · obtain rfl : x = 55 := by omega
                    exact List.all_eq_true.mp jx_ck55 i (List.mem_range.mpr hi)
                  · obtain rfl : x = 56 := by omega
                    exact List.all_eq_true.mp jx_ck56 i (List.mem_range.mpr hi)
              · rcases Nat.lt_or_ge x 58 with h58 | h58
                · obtain rfl : x = 57 := by omega
                  exact List.all_eq_true.mp jx_ck57 i (List.mem_range.mpr hi)
                · rcases Nat.lt_or_ge x 59 with h59 | h59
                  · obtain rfl : x = 58 := by omega
                    exact List.all_eq_true.mp jx_ck58 i (List.mem_range.mpr hi)
                  · obtain rfl : x = 59 := by omega
                    exact List.all_eq_true.mp jx_ck59 i (List.mem_range.mpr hi)
          · rcases Nat.lt_or_ge x 66 with h66 | h66
            · rcases Nat.lt_or_ge x 63 with h63 | h63
              · rcases Nat.lt_or_ge x 61 with h61 | h61
                · obtain rfl : x = 60 := by omega
                  exact List.all_eq_true.mp jx_ck60 i (List.mem_range.mpr hi)
                · rcases Nat.lt_or_ge x 62 with h62 | h62
                  · obtain rfl : x = 61 := by omega
                    exact List.all_eq_true.mp jx_ck61 i (List.mem_range.mpr hi)
                  · obtain rfl : x = 62 := by omega
                    exact List.all_eq_true.mp jx_ck62 i (List.mem_range.mpr hi)
              · rcases Nat.lt_or_ge x 64 with h64 | h64
                · obtain rfl : x = 63 := by omega
                  exact List.all_eq_true.mp jx_ck63 i (List.mem_range.mpr hi)
                · rcases Nat.lt_or_ge x 65 with h65 | h65
                  · obtain rfl : x = 64 := by omega
                    exact List.all_eq_true.mp jx_ck64 i (List.mem_range.mpr hi)
                  · obtain rfl : x = 65 := by omega
                    exact List.all_eq_true.mp jx_ck65 i (List.mem_range.mpr hi)
            · rcases Nat.lt_or_ge x 69 with h69 | h69
              · rcases Nat.lt_or_ge x 67 with h67 | h67
                · obtain rfl : x = 66 := by omega
                  exact List.all_eq_true.mp jx_ck66 i (List.mem_range.mpr hi)
                · rcases Nat.lt_or_ge x 68 with h68 | h68
                  · obtain rfl : x = 67 := by omega
                    exact List.all_eq_true.mp jx_ck67 i (List.mem_range.mpr hi)
                  · obtain rfl : x = 68 := by omega
                    exact List.all_eq_true.mp jx_ck68 i (List.mem_range.mpr hi)
              · rcases Nat.lt_or_ge x 70 with h70 | h70
                · obtain rfl : x = 69 := by omega
                  exact List.all_eq_true.mp jx_ck69 i (List.mem_range.mpr hi)
                · rcases Nat.lt_or_ge x 71 with h71 | h71
                  · obtain rfl : x = 70 := by omega
                    exact List.all_eq_true.mp jx_ck70 i (List.mem_range.mpr hi)
                  · obtain rfl : x = 71 := by omega
                    exact List.all_eq_true.mp jx_ck71 i (List.mem_range.mpr hi)
        · rcases Nat.lt_or_ge x 84 with h84 | h84
          · rcases Nat.lt_or_ge x 78 with h78 | h78
            · rcases Nat.lt_or_ge x 75 with h75 | h75
              · rcases Nat.lt_or_ge x 73 with h73 | h73
                · obtain rfl : x = 72 := by omega
                  exact List.all_eq_true.mp jx_ck72 i (List.mem_range.mpr hi)
                · rcases Nat.lt_or_ge x 74 with h74 | h74
                  · obtain rfl : x = 73 := by omega
                    exact List.all_eq_true.mp jx_ck73 i (List.mem_range.mpr hi)
                  · obtain rfl : x = 74 := by omega
                    exact List.all_eq_true.mp jx_ck74 i (List.mem_range.mpr hi)
              · rcases Nat.lt_or_ge x 76 with h76 | h76
                · obtain rfl : x = 75 := by omega
                  exact List.all_eq_true.mp jx_ck75 i (List.mem_range.mpr hi)
                · rcases Nat.lt_or_ge x 77 with h77 | h77
                  · obtain rfl : x = 76 := by omega
                    exact List.all_eq_true.mp jx_ck76 i (List.mem_range.mpr hi)
                  · obtain rfl : x = 77 := by omega
                    exact List.all_eq_true.mp jx_ck77 i (List.mem_range.mpr hi)
            · rcases Nat.lt_or_ge x 81 with h81 | h81
              · rcases Nat.lt_or_ge x 79 with h79 | h79
                · obtain rfl : x = 78 := by omega
                  exact List.all_eq_true.mp jx_ck78 i (List.mem_range.mpr hi)
                · rcases Nat.lt_or_ge x 80 with h80 | h80
                  · obtain rfl : x = 79 := by omega
                    exact List.all_eq_true.mp jx_ck79 i (List.mem_range.mpr hi)
                  · obtain rfl : x = 80 := by omega
                    exact List.all_eq_true.mp jx_ck80 i (List.mem_range.mpr hi)
              · rcases Nat.lt_or_ge x 82 with h82 | h82
                · obtain rfl : x = 81 := by omega
                  exact List.all_eq_true.mp jx_ck81 i (List.mem_range.mpr hi)
                · rcases Nat.lt_or_ge x 83 with h83 | h83
                  · obtain rfl : x = 82 := by omega
                    exact List.all_eq_true.mp jx_ck82 i (List.mem_range.mpr hi)
                  · obtain rfl : x = 83 := by omega
                    exact List.all_eq_true.mp jx_ck83 i (List.mem_range.mpr hi)
          · rcases Nat.lt_or_ge x 90 with h90 | h90
            · rcases Nat.lt_or_ge x 87 with h87 | h87
              · rcases Nat.lt_or_ge x 85 with h85 | h85
                · obtain rfl : x = 84 := by omega
                  exact List.all_eq_true.mp jx_ck84 i (List.mem_range.mpr hi)
                · rcases Nat.lt_or_ge x 86 with h86 | h86
                  · obtain rfl : x = 85 := by omega
                    exact List.all_eq_true.mp jx_ck85 i (List.mem_range.mpr hi)
                  · obtain rfl : x = 86 := by omega
                    exact List.all_eq_true.mp jx_ck86 i (List.mem_range.mpr hi)
              · rcases Nat.lt_or_ge x 88 with h88 | h88
                · obtain rfl : x = 87 := by omega
                  exact List.all_eq_true.mp jx_ck87 i (List.mem_range.mpr hi)
                · rcases Nat.lt_or_ge x 89 with h89 | h89
                  · obtain rfl : x = 88 := by omega
                    exact List.all_eq_true.mp jx_ck88 i (List.mem_range.mpr hi)
                  · obtain rfl : x = 89 := by omega
                    exact List.all_eq_true.mp jx_ck89 i (List.mem_range.mpr hi)
            · rcases Nat.lt_or_ge x 93 with h93 | h93
              · rcases Nat.lt_or_ge x 91 with h91 | h91
                · obtain rfl : x = 90 := by omega
                  exact List.all_eq_true.mp jx_ck90 i (List.mem_range.mpr hi)
                · rcases Nat.lt_or_ge x 92 with h92 | h92
                  · obtain rfl : x = 91 := by omega
                    exact List.all_eq_true.mp jx_ck91 i (List.mem_range.mpr hi)
                  · obtain rfl : x = 92 := by omega
                    exact List.all_eq_true.mp jx_ck92 i (List.mem_range.mpr hi)
              · rcases Nat.lt_or_ge x 94 with h94 | h94
                · obtain rfl : x = 93 := by omega
                  exact List.all_eq_true.mp jx_ck93 i (List.mem_range.mpr hi)
                · rcases Nat.lt_or_ge x 95 with h95 | h95
                  · obtain rfl : x = 94 := by omega
                    exact List.all_eq_true.mp jx_ck94 i (List.mem_range.mpr hi)
                  · obtain rfl : x = 95 := by omega
                    exact List.all_eq_true.mp jx_ck95 i (List.mem_range.mpr hi)
    · rcases Nat.lt_or_ge x 144 with h144 | h144
      · rcases Nat.lt_or_ge x 120 with h120 | h120
        · rcases Nat.lt_or_ge x 108 with h108 | h108
          · rcases Nat.lt_or_ge x 102 with h102 | h102
            · rcases Nat.lt_or_ge x 99 with h99 | h99
              · rcases Nat.lt_or_ge x 97 with h97 | h97
                · obtain rfl : x = 96 := by omega
                  exact List.all_eq_true.mp jx_ck96 i (List.mem_range.mpr hi)
                · rcases Nat.lt_or_ge x 98 with h98 | h98
                  · obtain rfl : x = 97 := by omega
                    exact List.all_eq_true.mp jx_ck97 i (List.mem_range.mpr hi)
                  · obtain rfl : x = 98 := by omega
                    exact List.all_eq_true.mp jx_ck98 i (List.mem_range.mpr hi)
              · rcases Nat.lt_or_ge x 100 with h100 | h100
                · obtain rfl : x = 99 := by omega
                  exact List.all_eq_true.mp jx_ck99 i (List.mem_range.mpr hi)
                · rcases Nat.lt_or_ge x 101 with h101 | h101
                  · obtain rfl : x = 100 := by omega
                    exact List.all_eq_true.mp jx_ck100 i (List.mem_range.mpr hi)
                  · obtain rfl : x = 101 := by omega
                    exact List.all_eq_true.mp jx_ck101 i (List.mem_range.mpr hi)
            · rcases Nat.lt_or_ge x 105 with h105 | h105
              · rcases Nat.lt_or_ge x 103 with h103 | h103
                · obtain rfl : x = 102 := by omega
                  exact List.all_eq_true.mp jx_ck102 i (List.mem_range.mpr hi)
                · rcases Nat.lt_or_ge x 104 with h104 | h104
                  · obtain rfl : x = 103 := by omega
                    exact List.all_eq_true.mp jx_ck103 i (List.mem_range.mpr hi)
                  · obtain rfl : x = 104 := by omega
                    exact List.all_eq_true.mp jx_ck104 i (List.mem_range.mpr hi)
              · rcases Nat.lt_or_ge x 106 with h106 | h106
                · obtain rfl : x = 105 := by omega
                  exact List.all_eq_true.mp jx_ck105 i (List.mem_range.mpr hi)
                · rcases Nat.lt_or_ge x 107 with h107 | h107
                  · obtain rfl : x = 106 := by omega
                    exact List.all_eq_true.mp jx_ck106 i (List.mem_range.mpr hi)
                  · obtain rfl : x = 107 := by omega
                    exact List.all_eq_true.mp jx_ck107 i (List.mem_range.mpr hi)
          · rcases Nat.lt_or_ge x 114 with h114 | h114
            · rcases Nat.lt_or_ge x 111 with h111 | h111
              · rcases Nat.lt_or_ge x 109 with h109 | h109
                · obtain rfl : x = 108 := by omega
                  exact List.all_eq_true.mp jx_ck108 i (List.mem_range.mpr hi)
                · rcases Nat.lt_or_ge x 110 with h110 | h110
                  · obtain rfl : x = 109 := by omega
                    exact List.all_eq_true.mp jx_ck109 i (List.mem_range.mpr hi)
                  · obtain rfl : x = 110 := by omega
                    exact List.all_eq_true.mp jx_ck110 i (List.mem_range.mpr hi)
              · rcases Nat.lt_or_ge x 112 with h112 | h112
                · obtain rfl : x = 111 := by omega
                  exact List.all_eq_true.mp jx_ck111 i (List.mem_range.mpr hi)
                · rcases Nat.lt_or_ge x 113 with h113 | h113
                  · obtain rfl : x = 112 := by omega
                    exact List.all_eq_true.mp jx_ck112 i (List.mem_range.mpr hi)
                  · obtain rfl : x = 113 := by omega
                    exact List.all_eq_true.mp jx_ck113 i (List.mem_range.mpr hi)
            · rcases Nat.lt_or_ge x 117 with h117 | h117
              · rcases Nat.lt_or_ge x 115 with h115 | h115
                · obtain rfl : x = 114 := by omega
                  exact List.all_eq_true.mp jx_ck114 i (List.mem_range.mpr hi)
                · rcases Nat.lt_or_ge x 116 with h116 | h116
                  · obtain rfl : x = 115 := by omega
                    exact List.all_eq_true.mp jx_ck115 i (List.mem_range.mpr hi)
                  · obtain rfl : x = 116 := by omega
                    exact List.all_eq_true.mp jx_ck116 i (List.mem_range.mpr hi)
              · rcases Nat.lt_or_ge x 118 with h118 | h118
                · obtain rfl : x = 117 := by omega
                  exact List.all_eq_true.mp jx_ck117 i (List.mem_range.mpr hi)
                · rcases Nat.lt_or_ge x 119 with h119 | h119
                  · obtain rfl : x = 118 := by omega
                    exact List.all_eq_true.mp jx_ck118 i (List.mem_range.mpr hi)
                  · obtain rfl : x = 119 := by omega
                    exact List.all_eq_true.mp jx_ck119 i (List.mem_range.mpr hi)
        · rcases Nat.lt_or_ge x 132 with h132 | h132
          · rcases Nat.lt_or_ge x 126 with h126 | h126
            · rcases Nat.lt_or_ge x 123 with h123 | h123
              · rcases Nat.lt_or_ge x 121 with h121 | h121
                · obtain rfl : x = 120 := by omega
                  exact List.all_eq_true.mp jx_ck120 i (List.mem_range.mpr hi)
                · rcases Nat.lt_or_ge x 122 with h122 | h122
                  · obtain rfl : x = 121 := by omega
                    exact List.all_eq_true.mp jx_ck121 i (List.mem_range.mpr hi)
                  · obtain rfl : x = 122 := by omega
                    exact List.all_eq_true.mp jx_ck122 i (List.mem_range.mpr hi)
              · rcases Nat.lt_or_ge x 124 with h124 | h124
                · obtain rfl : x = 123 := by omega
                  exact List.all_eq_true.mp jx_ck123 i (List.mem_range.mpr hi)
                · rcases Nat.lt_or_ge x 125 with h125 | h125
                  · obtain rfl : x = 124 := by omega
                    exact List.all_eq_true.mp jx_ck124 i (List.mem_range.mpr hi)
                  · obtain rfl : x = 125 := by omega
                    exact List.all_eq_true.mp jx_ck125 i (List.mem_range.mpr hi)
            · rcases Nat.lt_or_ge x 129 with h129 | h129
              · rcases Nat.lt_or_ge x 127 with h127 | h127
                · obtain rfl : x = 126 := by omega
                  exact List.all_eq_true.mp jx_ck126 i (List.mem_range.mpr hi)
                · rcases Nat.lt_or_ge x 128 with h128 | h128
                  · obtain rfl : x = 127 := by omega
                    exact List.all_eq_true.mp jx_ck127 i (List.mem_range.mpr hi)
                  · obtain rfl : x = 128 := by omega
                    exact List.all_eq_true.mp jx_ck128 i (List.mem_range.mpr hi)
              · rcases Nat.lt_or_ge x 130 with h130 | h130
                · obtain rfl : x = 129 := by omega
                  exact List.all_eq_true.mp jx_ck129 i (List.mem_range.mpr hi)
                · rcases Nat.lt_or_ge x 131 with h131 | h131
                  · obtain rfl : x = 130 := by omega
                    exact List.all_eq_true.mp jx_ck130 i (List.mem_range.mpr hi)
                  · obtain rfl : x = 131 := by omega
                    exact List.all_eq_true.mp jx_ck131 i (List.mem_range.mpr hi)
          · rcases Nat.lt_or_ge x 138 with h138 | h138
            · rcases Nat.lt_or_ge x 135 with h135 | h135
              · rcases Nat.lt_or_ge x 133 with h133 | h133
                · obtain rfl : x = 132 := by omega
                  exact List.all_eq_true.mp jx_ck132 i (List.mem_range.mpr hi)
                · rcases Nat.lt_or_ge x 134 with h134 | h134
                  · obtain rfl : x = 133 := by omega
                    exact List.all_eq_true.mp jx_ck133 i (List.mem_range.mpr hi)
                  · obtain rfl : x = 134 := by omega
                    exact List.all_eq_true.mp jx_ck134 i (List.mem_range.mpr hi)
              · rcases Nat.lt_or_ge x 136 with h136 | h136
                · obtain rfl : x = 135 := by omega
                  exact List.all_eq_true.mp jx_ck135 i (List.mem_range.mpr hi)
                · rcases Nat.lt_or_ge x 137 with h137 | h137
                  · obtain rfl : x = 136 := by omega
                    exact List.all_eq_true.mp jx_ck136 i (List.mem_range.mpr hi)
                  · obtain rfl : x = 137 := by omega
                    exact List.all_eq_true.mp jx_ck137 i (List.mem_range.mpr hi)
            · rcases Nat.lt_or_ge x 141 with h141 | h141
              · rcases Nat.lt_or_ge x 139 with h139 | h139
                · obtain rfl : x = 138 := by omega
                  exact List.all_eq_true.mp jx_ck138 i (List.mem_range.mpr hi)
                · rcases Nat.lt_or_ge x 140 with h140 | h140
                  · obtain rfl : x = 139 := by omega
                    exact List.all_eq_true.mp jx_ck139 i (List.mem_range.mpr hi)
                  · obtain rfl : x = 140 := by omega
                    exact List.all_eq_true.mp jx_ck140 i (List.mem_range.mpr hi)
              · rcases Nat.lt_or_ge x 142 with h142 | h142
                · obtain rfl : x = 141 := by omega
                  exact List.all_eq_true.mp jx_ck141 i (List.mem_range.mpr hi)
                · rcases Nat.lt_or_ge x 143 with h143 | h143
                  · obtain rfl : x = 142 := by omega
                    exact List.all_eq_true.mp jx_ck142 i (List.mem_range.mpr hi)
                  · obtain rfl : x = 143 := by omega
                    exact List.all_eq_true.mp jx_ck143 i (List.mem_range.mpr hi)
      · rcases Nat.lt_or_ge x 168 with h168 | h168
        · rcases Nat.lt_or_ge x 156 with h156 | h156
          · rcases Nat.lt_or_ge x 150 with h150 | h150
            · rcases Nat.lt_or_ge x 147 with h147 | h147
              · rcases Nat.lt_or_ge x 145 with h145 | h145
                · obtain rfl : x = 144 := by omega
                  exact List.all_eq_true.mp jx_ck144 i (List.mem_range.mpr hi)
                · rcases Nat.lt_or_ge x 146 with h146 | h146
                  · obtain rfl : x = 145 := by omega
                    exact List.all_eq_true.mp jx_ck145 i (List.mem_range.mpr hi)
                  · obtain rfl : x = 146 := by omega
                    exact List.all_eq_true.mp jx_ck146 i (List.mem_range.mpr hi)
              · rcases Nat.lt_or_ge x 148 with h148 | h148
                · obtain rfl : x = 147 := by omega
                  exact List.all_eq_true.mp jx_ck147 i (List.mem_range.mpr hi)
                · rcases Nat.lt_or_ge x 149 with h149 | h149
                  · obtain rfl : x = 148 := by omega
                    exact List.all_eq_true.mp jx_ck148 i (List.mem_range.mpr hi)
                  · obtain rfl : x = 149 := by omega
                    exact List.all_eq_true.mp jx_ck149 i (List.mem_range.mpr hi)
            · rcases Nat.lt_or_ge x 153 with h153 | h153
              · rcases Nat.lt_or_ge x 151 with h151 | h151
                · obtain rfl : x = 150 := by omega
                  exact List.all_eq_true.mp jx_ck150 i (List.mem_range.mpr hi)
                · rcases Nat.lt_or_ge x 152 with h152 | h152
                  · obtain rfl : x = 151 := by omega
                    exact List.all_eq_true.mp jx_ck151 i (List.mem_range.mpr hi)
                  · obtain rfl : x = 152 := by omega
                    exact List.all_eq_true.mp jx_ck152 i (List.mem_range.mpr hi)
              · rcases Nat.lt_or_ge x 154 with h154 | h154
                · obtain rfl : x = 153 := by omega
                  exact List.all_eq_true.mp jx_ck153 i (List.mem_range.mpr hi)
                · rcases Nat.lt_or_ge x 155 with h155 | h155
                  · obtain rfl : x = 154 := by omega
                    exact List.all_eq_true.mp jx_ck154 i (List.mem_range.mpr hi)
                  · obtain rfl : x = 155 := by omega
                    exact List.all_eq_true.mp jx_ck155 i (List.mem_range.mpr hi)
          · rcases Nat.lt_or_ge x 162 with h162 | h162
            · rcases Nat.lt_or_ge x 159 with h159 | h159
              · rcases Nat.lt_or_ge x 157 with h157 | h157
                · obtain rfl : x = 156 := by omega
                  exact List.all_eq_true.mp jx_ck156 i (List.mem_range.mpr hi)
                · rcases Nat.lt_or_ge x 158 with h158 | h158
                  · obtain rfl : x = 157 := by omega
                    exact List.all_eq_true.mp jx_ck157 i (List.mem_range.mpr hi)
                  · obtain rfl : x = 158 := by omega
                    exact List.all_eq_true.mp jx_ck158 i (List.mem_range.mpr hi)
              · rcases Nat.lt_or_ge x 160 with h160 | h160
                · obtain rfl : x = 159 := by omega
                  exact List.all_eq_true.mp jx_ck159 i (List.mem_range.mpr hi)
                · rcases Nat.lt_or_ge x 161 with h161 | h161
                  · obtain rfl : x = 160 := by omega
                    exact List.all_eq_true.mp jx_ck160 i (List.mem_range.mpr hi)
                  · obtain rfl : x = 161 := by omega
                    exact List.all_eq_true.mp jx_ck161 i (List.mem_range.mpr hi)
            · rcases Nat.lt_or_ge x 165 with h165 | h165
              · rcases Nat.lt_or_ge x 163 with h163 | h163
                · obtain rfl : x = 162 := by omega
                  exact List.all_eq_true.mp jx_ck162 i (List.mem_range.mpr hi)
                · rcases Nat.lt_or_ge x 164 with h164 | h164
                  · obtain rfl : x = 163 := by omega
                    exact List.all_eq_true.mp jx_ck163 i (List.mem_range.mpr hi)
                  · obtain rfl : x = 164 := by omega
                    exact List.all_eq_true.mp jx_ck164 i (List.mem_range.mpr hi)
              · rcases Nat.lt_or_ge x 166 with h166 | h166
                · obtain rfl : x = 165 := by omega
                  exact List.all_eq_true.mp jx_ck165 i (List.mem_range.mpr hi)
                · rcases Nat.lt_or_ge x 167 with h167 | h167
                  · obtain rfl : x = 166 := by omega
                    exact List.all_eq_true.mp jx_ck166 i (List.mem_range.mpr hi)
                  · obtain rfl : x = 167 := by omega
                    exact List.all_eq_true.mp jx_ck167 i (List.mem_range.mpr hi)
        · rcases Nat.lt_or_ge x 180 with h180 | h180
          · rcases Nat.lt_or_ge x 174 with h174 | h174
            · rcases Nat.lt_or_ge x 171 with h171 | h171
              · rcases Nat.lt_or_ge x 169 with h169 | h169
                · obtain rfl : x = 168 := by omega
                  exact List.all_eq_true.mp jx_ck168 i (List.mem_range.mpr hi)
                · rcases Nat.lt_or_ge x 170 with h170 | h170
                  · obtain rfl : x = 169 := by omega
                    exact List.all_eq_true.mp jx_ck169 i (List.mem_range.mpr hi)
                  · obtain rfl : x = 170 := by omega
                    exact List.all_eq_true.mp jx_ck170 i (List.mem_range.mpr hi)
              · rcases Nat.lt_or_ge x 172 with h172 | h172
                · obtain rfl : x = 171 := by omega
                  exact List.all_eq_true.mp jx_ck171 i (List.mem_range.mpr hi)
                · rcases Nat.lt_or_ge x 173 with h173 | h173
                  · obtain rfl : x = 172 := by omega
                    exact List.all_eq_true.mp jx_ck172 i (List.mem_range.mpr hi)
                  · obtain rfl : x = 173 := by omega
                    exact List.all_eq_true.mp jx_ck173 i (List.mem_range.mpr hi)
            · rcases Nat.lt_or_ge x 177 with h177 | h177
              · rcases Nat.lt_or_ge x 175 with h175 | h175
                · obtain rfl : x = 174 := by omega
                  exact List.all_eq_true.mp jx_ck174 i (List.mem_range.mpr hi)
                · rcases Nat.lt_or_ge x 176 with h176 | h176
                  · obtain rfl : x = 175 := by omega
                    exact List.all_eq_true.mp jx_ck175 i (List.mem_range.mpr hi)
                  · obtain rfl : x = 176 := by omega
                    exact List.all_eq_true.mp jx_ck176 i (List.mem_range.mpr hi)
              · rcases Nat.lt_or_ge x 178 with h178 | h178
                · obtain rfl : x = 177 := by omega
                  exact List.all_eq_true.mp jx_ck177 i (List.mem_range.mpr hi)
                · rcases Nat.lt_or_ge x 179 with h179 | h179
                  · obtain rfl : x = 178 := by omega
                    exact List.all_eq_true.mp jx_ck178 i (List.mem_range.mpr hi)
                  · obtain rfl : x = 179 := by omega
                    exact List.all_eq_true.mp jx_ck179 i (List.mem_range.mpr hi)
          · rcases Nat.lt_or_ge x 186 with h186 | h186
            · rcases Nat.lt_or_ge x 183 with h183 | h183
              · rcases Nat.lt_or_ge x 181 with h181 | h181
                · obtain rfl : x = 180 := by omega
                  exact List.all_eq_true.mp jx_ck180 i (List.mem_range.mpr hi)
                · rcases Nat.lt_or_ge x 182 with h182 | h182
                  · obtain rfl : x = 181 := by omega
                    exact List.all_eq_true.mp jx_ck181 i (List.mem_range.mpr hi)
                  · obtain rfl : x = 182 := by omega
                    exact List.all_eq_true.mp jx_ck182 i (List.mem_range.mpr hi)
              · rcases Nat.lt_or_ge x 184 with h184 | h184
                · obtain rfl : x = 183 := by omega
                  exact List.all_eq_true.mp jx_ck183 i (List.mem_range.mpr hi)
                · rcases Nat.lt_or_ge x 185 with h185 | h185
                  · obtain rfl : x = 184 := by omega
                    exact List.all_eq_true.mp jx_ck184 i (List.mem_range.mpr hi)
                  · obtain rfl : x = 185 := by omega
                    exact List.all_eq_true.mp jx_ck185 i (List.mem_range.mpr hi)
            · rcases Nat.lt_or_ge x 189 with h189 | h189
              · rcases Nat.lt_or_ge x 187 with h187 | h187
                · obtain rfl : x = 186 := by omega
                  exact List.all_eq_true.mp jx_ck186 i (List.mem_range.mpr hi)
                · rcases Nat.lt_or_ge x 188 with h188 | h188
                  · obtain rfl : x = 187 := by omega
                    exact List.all_eq_true.mp jx_ck187 i (List.mem_range.mpr hi)
                  · obtain rfl : x = 188 := by omega
                    exact List.all_eq_true.mp jx_ck188 i (List.mem_range.mpr hi)
              · rcases Nat.lt_or_ge x 190 with h190 | h190
                · obtain rfl : x = 189 := by omega
                  exact List.all_eq_true.mp jx_ck189 i (List.mem_range.mpr hi)
                · rcases Nat.lt_or_ge x 191 with h191 | h191
                  · obtain rfl : x = 190 := by omega
                    exact List.all_eq_true.mp jx_ck190 i (List.mem_range.mpr hi)
                  · obtain rfl : x = 191 := by omega
                    exact List.all_eq_true.mp jx_ck191 i (List.mem_range.mpr hi)
end
section
def jx_up (m : jx_M) (s i j : Nat) (v : Int) : jx_M := fun s' i' j' => if s' = s ∧ i' = i ∧ j' = j then v else m s' i' j'
def jx_zero (m : jx_M) (s i : Nat) : jx_M := fun s' i' j' => if s' = s ∧ i' = i then 0 else m s' i' j'
def jx_cpy (m : jx_M) (s i sp t k dp n : Nat) : jx_M := fun s' i' j' => if s' = t ∧ i' = k ∧ dp ≤ j' ∧ j' < dp + n then m s i (sp + (j' - dp)) else m s' i' j'
def jx_lcmp (x y : Int) : Int := if x < y then -1 else if y < x then 1 else 0
def jx_iand (x y : Int) : Int := (Int32.ofInt x &&& Int32.ofInt y).toInt
def jx_ior (x y : Int) : Int := (Int32.ofInt x ||| Int32.ofInt y).toInt
def jx_ixor (x y : Int) : Int := (Int32.ofInt x ^^^ Int32.ofInt y).toInt
def jx_ishl (x y : Int) : Int := (Int32.ofInt x <<< (Int32.ofInt y &&& 31)).toInt
def jx_ishr (x y : Int) : Int := (Int32.ofInt x >>> (Int32.ofInt y &&& 31)).toInt
def jx_iushr (x y : Int) : Int := ((Int32.ofInt x).toUInt32 >>> ((Int32.ofInt y).toUInt32 &&& Int32.toUInt32 31)).toInt32.toInt
def jx_land (x y : Int) : Int := (Int64.ofInt x &&& Int64.ofInt y).toInt
def jx_lor (x y : Int) : Int := (Int64.ofInt x ||| Int64.ofInt y).toInt
def jx_lshl (x y : Int) : Int := (Int64.ofInt x <<< ((Int32.ofInt y).toInt64 &&& 63)).toInt
def jx_lshr (x y : Int) : Int := (Int64.ofInt x >>> ((Int32.ofInt y).toInt64 &&& 63)).toInt
def jx_lushr (x y : Int) : Int := ((Int64.ofInt x).toUInt64 >>> ((Int32.ofInt y).toInt64.toUInt64 &&& Int64.toUInt64 63)).toInt64.toInt
def jx_l2i (x : Int) : Int := (Int64.ofInt x).toInt32.toInt
def jx_i2b (x : Int) : Int := (Int32.ofInt x).toInt8.toInt32.toInt
def jx_i2s (x : Int) : Int := (Int32.ofInt x).toInt16.toInt32.toInt
-- taking values off the stack and out of the locals
def jx_pI {α : Type} (d : α) (st : List jx_V) (k : Int → List jx_V → α) : α := match st with
  | .inl x :: r => k x r
  | _ => d
def jx_pL {α : Type} (d : α) (st : List jx_V) (k : Int → List jx_V → α) : α := match st with
  | .inr (.inl x) :: r => k x r
  | _ => d
def jx_pA {α : Type} (d : α) (st : List jx_V) (k : Nat → Nat → List jx_V → α) : α := match st with
  | .inr (.inr q) :: r => k q.1 q.2 r
  | _ => d
def jx_lI {α : Type} (d : α) (ls : jx_L) (a : Nat) (k : Int → α) : α := match jx_nth ls a none with
  | some (.inl x) => k x
  | _ => d
def jx_lL {α : Type} (d : α) (ls : jx_L) (a : Nat) (k : Int → α) : α := match jx_nth ls a none with
  | some (.inr (.inl x)) => k x
  | _ => d
def jx_lA {α : Type} (d : α) (ls : jx_L) (a : Nat) (k : Nat → Nat → α) : α := match jx_nth ls a none with
  | some (.inr (.inr q)) => k q.1 q.2
  | _ => d
/-- a local may be written over if no long stands just ahead of it -/
def jx_cl {α : Type} (d : α) (ls : jx_L) (a : Nat) (k : α) : α := match a with
  | 0 => k
  | b + 1 => match jx_nth ls b none with
    | some (.inr (.inl _)) => d
    | _ => k
def jx_gA {α : Type} (gd : (c : Prop) → Decidable c → α → α) (ph : Bool) (n s i : Nat) (a : α) : α := match ph with
  | true => gd (i < jx_sC s) inferInstance a
  | false => gd (i < jx_sC s ∧ jx_pos s i < n) inferInstance a
def jx_gF {α : Type} (gd : (c : Prop) → Decidable c → α → α) (ph : Bool) (f : Int) (a : α) : α := match ph with
  | true => a
  | false => gd (f = 1) inferInstance a
def jx_cat (v : jx_V) : Nat := match v with
  | .inr (.inl _) => 2
  | _ => 1
def jx_cats : List jx_V → Nat
  | [] => 0
  | v :: l => jx_cat v + jx_cats l
def jx_tsw {α : Type} (br : (c : Prop) → Decidable c → α → α → α) (x : Int) (k : Nat → α) : Int → List Nat → Nat → α
  | _, [], b => k b
  | z, t :: ts, b => br (x = z) inferInstance (k t) (jx_tsw br x k (z + 1) ts b)
def jx_cond {α : Type} (br : (c : Prop) → Decidable c → α → α → α) (c : ClassFile.Cond) (x y : Int) (t f : α) : α := match c with
  | .eq => br (x = y) inferInstance t f
  | .ne => br (x = y) inferInstance f t
  | .lt => br (x < y) inferInstance t f
  | .ge => br (x < y) inferInstance f t
  | .gt => br (y < x) inferInstance t f
  | .le => br (y < x) inferInstance f t
def jx_call {α : Type} (d : α) (gd : (c : Prop) → Decidable c → α → α) (kc : Nat → List jx_V → List jx_V → α) (ph vir : Bool) (y : Nat) (st : List jx_V) (n : Nat) : α :=
  bif Nat.ble (jx_mA y) st.length && Nat.ble (jx_cats (st.drop (jx_mA y))) 8 then
    (match vir with
    | false => kc y (st.take (jx_mA y)).reverse (st.drop (jx_mA y))
    | true => jx_pA d (st.take (jx_mA y)).reverse (fun s j _ => bif Nat.beq (jx_sK s) 0 && Nat.beq (jx_sP s) (jx_mC y) then jx_gA gd ph n s j (kc y (st.take (jx_mA y)).reverse (st.drop (jx_mA y))) else d))
  else d
/-- one instruction, whatever its answer is wanted as -/
def jx_sem {α : Type} (d : α) (gd : (c : Prop) → Decidable c → α → α) (br : (c : Prop) → Decidable c → α → α → α)
    (kn : Nat → jx_L → List jx_V → Nat → jx_M → α) (kc : Nat → List jx_V → List jx_V → α)
    (ph : Bool) (r : jx_R) (i : Nat) (ls : jx_L) (st : List jx_V) (n : Nat) (m : jx_M) : α :=
  match r.1 with
  | .iconst _ => kn (i + 1) ls (xI r.2.2.2 :: st) n m
  | .bipush _ => kn (i + 1) ls (xI r.2.2.2 :: st) n m
  | .sipush _ => kn (i + 1) ls (xI r.2.2.2 :: st) n m
  | .ldc _ => kn (i + 1) ls (xI r.2.2.2 :: st) n m
  | .ldc_w _ => kn (i + 1) ls (xI r.2.2.2 :: st) n m
  | .lconst _ => kn (i + 1) ls (xL r.2.2.2 :: st) n m
  | .ldc2_w _ => kn (i + 1) ls (xL r.2.2.2 :: st) n m
  | .iload_n _ => jx_lI d ls r.2.1 (fun x => kn (i + 1) ls (xI x :: st) n m)
  | .iload _ => jx_lI d ls r.2.1 (fun x => kn (i + 1) ls (xI x :: st) n m)
  | .lload_n _ => jx_lL d ls r.2.1 (fun x => kn (i + 1) ls (xL x :: st) n m)
  | .lload _ => jx_lL d ls r.2.1 (fun x => kn (i + 1) ls (xL x :: st) n m)
  | .aload_n _ => jx_lA d ls r.2.1 (fun s j => kn (i + 1) ls (xA s j :: st) n m)
  | .aload _ => jx_lA d ls r.2.1 (fun s j => kn (i + 1) ls (xA s j :: st) n m)
  | .istore_n _ => jx_pI d st (fun x st => jx_cl d ls r.2.1 (kn (i + 1) (ls.set r.2.1 (some (xI x))) st n m))
  | .istore _ => jx_pI d st (fun x st => jx_cl d ls r.2.1 (kn (i + 1) (ls.set r.2.1 (some (xI x))) st n m))
  | .astore_n _ => jx_pA d st (fun s j st => jx_cl d ls r.2.1 (kn (i + 1) (ls.set r.2.1 (some (xA s j))) st n m))
  | .astore _ => jx_pA d st (fun s j st => jx_cl d ls r.2.1 (kn (i + 1) (ls.set r.2.1 (some (xA s j))) st n m))
  | .iinc _ _ => jx_lI d ls r.2.1 (fun x => jx_cl d ls r.2.1 (gd (jx_in (x + r.2.2.2)) inferInstance (kn (i + 1) (ls.set r.2.1 (some (xI (x + r.2.2.2)))) st n m)))
  | .iadd => jx_pI d st (fun y st => jx_pI d st (fun x st => gd (jx_in (x + y)) inferInstance (kn (i + 1) ls (xI (x + y) :: st) n m)))
  | .isub => jx_pI d st (fun y st => jx_pI d st (fun x st => gd (jx_in (x - y)) inferInstance (kn (i + 1) ls (xI (x - y) :: st) n m)))
  | .imul => jx_pI d st (fun y st => jx_pI d st (fun x st => gd (jx_in (x * y)) inferInstance (kn (i + 1) ls (xI (x * y) :: st) n m)))
  | .idiv => jx_pI d st (fun y st => jx_pI d st (fun x st => gd (0 ≤ x ∧ 0 < y) inferInstance (kn (i + 1) ls (xI (x / y) :: st) n m)))
  | .irem => jx_pI d st (fun y st => jx_pI d st (fun x st => gd (0 ≤ x ∧ 0 < y) inferInstance (kn (i + 1) ls (xI (x % y) :: st) n m)))
  | .ineg => jx_pI d st (fun x st => gd (jx_in (-x)) inferInstance (kn (i + 1) ls (xI (-x) :: st) n m))
  | .iand => jx_pI d st (fun y st => jx_pI d st (fun x st => kn (i + 1) ls (xI (jx_iand x y) :: st) n m))
  | .ior => jx_pI d st (fun y st => jx_pI d st (fun x st => kn (i + 1) ls (xI (jx_ior x y) :: st) n m))
  | .ixor => jx_pI d st (fun y st => jx_pI d st (fun x st => kn (i + 1) ls (xI (jx_ixor x y) :: st) n m))
  | .ishl => jx_pI d st (fun y st => jx_pI d st (fun x st => kn (i + 1) ls (xI (jx_ishl x y) :: st) n m))
  | .ishr => jx_pI d st (fun y st => jx_pI d st (fun x st => kn (i + 1) ls (xI (jx_ishr x y) :: st) n m))
  | .iushr => jx_pI d st (fun y st => jx_pI d st (fun x st => kn (i + 1) ls (xI (jx_iushr x y) :: st) n m))
  | .ladd => jx_pL d st (fun y st => jx_pL d st (fun x st => gd (jx_inL (x + y)) inferInstance (kn (i + 1) ls (xL (x + y) :: st) n m)))
  | .land => jx_pL d st (fun y st => jx_pL d st (fun x st => kn (i + 1) ls (xL (jx_land x y) :: st) n m))
  | .lor => jx_pL d st (fun y st => jx_pL d st (fun x st => kn (i + 1) ls (xL (jx_lor x y) :: st) n m))
  | .lshl => jx_pI d st (fun y st => jx_pL d st (fun x st => kn (i + 1) ls (xL (jx_lshl x y) :: st) n m))
  | .lshr => jx_pI d st (fun y st => jx_pL d st (fun x st => kn (i + 1) ls (xL (jx_lshr x y) :: st) n m))
  | .lushr => jx_pI d st (fun y st => jx_pL d st (fun x st => kn (i + 1) ls (xL (jx_lushr x y) :: st) n m))
  | .lcmp => jx_pL d st (fun y st => jx_pL d st (fun x st => kn (i + 1) ls (xI (jx_lcmp x y) :: st) n m))
  | .i2l => jx_pI d st (fun x st => kn (i + 1) ls (xL x :: st) n m)
  | .l2i => jx_pL d st (fun x st => kn (i + 1) ls (xI (jx_l2i x) :: st) n m)
  | .i2b => jx_pI d st (fun x st => kn (i + 1) ls (xI (jx_i2b x) :: st) n m)
  | .i2s => jx_pI d st (fun x st => kn (i + 1) ls (xI (jx_i2s x) :: st) n m)
  | .dup => jx_pA d st (fun s j st => kn (i + 1) ls (xA s j :: xA s j :: st) n m)
  | .pop => jx_pI d st (fun _ st => kn (i + 1) ls st n m)
  | .dup2 => jx_pI d st (fun x st => jx_pA d st (fun s j st => kn (i + 1) ls (xI x :: xA s j :: xI x :: xA s j :: st) n m))
  | .ifCond c _ => jx_pI d st (fun x st => jx_cond br c x 0 (kn r.2.1 ls st n m) (kn (i + 1) ls st n m))
  | .if_icmp c _ => jx_pI d st (fun y st => jx_pI d st (fun x st => jx_cond br c x y (kn r.2.1 ls st n m) (kn (i + 1) ls st n m)))
  | .goto _ => kn r.2.1 ls st n m
  | .tableswitch _ _ _ _ => jx_pI d st (fun x st => jx_tsw br x (fun t => kn t ls st n m) r.2.2.2 (jx_nth jx_tsws r.2.1 []) r.2.2.1)
  | .getfield _ => jx_pA d st (fun s j st => bif Nat.beq (jx_sK s) 0 && Nat.beq (jx_sP s) r.2.2.1 then
      jx_gA gd ph n s j (match jx_fT s r.2.1 with
        | (0, _, _, _) => kn (i + 1) ls (xI (m s j r.2.1) :: st) n m
        | (1, _, _, _) => kn (i + 1) ls (xI (m s j r.2.1) :: st) n m
        | (2, s', mode, b) => jx_gF gd ph (m s j r.2.1) (kn (i + 1) ls (xA s' (jx_ix mode b j) :: st) n m)
        | _ => d) else d)
  | .putfield _ => (match st with
      | .inl v :: st => jx_pA d st (fun s j st => bif Nat.beq (jx_sK s) 0 && Nat.beq (jx_sP s) r.2.2.1 then
          jx_gA gd ph n s j (match jx_fT s r.2.1 with
            | (0, _, _, _) => kn (i + 1) ls st n (jx_up m s j r.2.1 v)
            | (1, _, _, _) => gd (v = 0 ∨ v = 1) inferInstance (kn (i + 1) ls st n (jx_up m s j r.2.1 v))
            | _ => d) else d)
      | .inr (.inr q) :: st => jx_pA d st (fun s j st => bif Nat.beq (jx_sK s) 0 && Nat.beq (jx_sP s) r.2.2.1 then
          jx_gA gd ph n s j (match jx_fT s r.2.1, ph with
            | (2, s', mode, b), false => bif Nat.beq q.1 s' && Nat.beq q.2 (jx_ix mode b j) then kn (i + 1) ls st n (jx_up m s j r.2.1 1) else d
            | _, _ => d) else d)
      | _ => d)
  | .iaload => jx_pI d st (fun z st => jx_pA d st (fun s j st => bif ph && Nat.beq s 60 then gd (0 ≤ z ∧ z < m 61 0 0) inferInstance (kn (i + 1) ls (xI (m 60 0 z.toNat) :: st) n m)
      else gd (jx_sK s = 1 ∧ 0 ≤ z ∧ z < jx_sP s) inferInstance (jx_gA gd ph n s j (kn (i + 1) ls (xI (m s j z.toNat) :: st) n m))))
  | .iastore => jx_pI d st (fun v st => jx_pI d st (fun z st => jx_pA d st (fun s j st => gd (jx_sK s = 1 ∧ 0 ≤ z ∧ z < jx_sP s) inferInstance (jx_gA gd ph n s j (kn (i + 1) ls st n (jx_up m s j z.toNat v))))))
  | .aaload => jx_pI d st (fun z st => jx_pA d st (fun s j st => bif Nat.beq (jx_sK s) 2 then gd (0 ≤ z ∧ z < jx_sP s) inferInstance (jx_gA gd ph n s j (jx_gF gd ph (m s j z.toNat) (kn (i + 1) ls (xA (jx_sE s) (jx_el s j z) :: st) n m))) else d))
  | .aastore => jx_pA d st (fun s2 j2 st => jx_pI d st (fun z st => jx_pA d st (fun s j st => bif !ph && (Nat.beq (jx_sK s) 2 && (Nat.beq s2 (jx_sE s) && Nat.beq j2 (jx_el s j z))) then
      gd (0 ≤ z ∧ z < jx_sP s) inferInstance (jx_gA gd ph n s j (jx_gA gd ph n s2 j2 (kn (i + 1) ls st n (jx_up m s j z.toNat 1)))) else d)))
  | .arraylength => jx_pA d st (fun s j st => bif ph && Nat.beq s 60 then kn (i + 1) ls (xI (m 61 0 0) :: st) n m
      else gd (jx_sK s = 1) inferInstance (jx_gA gd ph n s j (kn (i + 1) ls (xI (jx_sP s) :: st) n m)))
  | .new _ => bif !ph && (Nat.blt n jx_lay.length && (Nat.beq (jx_sK (jx_nth jx_lay n (0, 0)).1) 0 && Nat.beq (jx_sP (jx_nth jx_lay n (0, 0)).1) r.2.1)) then
      kn (i + 1) ls (xA (jx_nth jx_lay n (0, 0)).1 (jx_nth jx_lay n (0, 0)).2 :: st) (n + 1) (jx_zero m (jx_nth jx_lay n (0, 0)).1 (jx_nth jx_lay n (0, 0)).2) else d
  | .newarray _ => jx_pI d st (fun z st => bif !ph && (Nat.blt n jx_lay.length && Nat.beq (jx_sK (jx_nth jx_lay n (0, 0)).1) 1) then
      gd (z = jx_sP (jx_nth jx_lay n (0, 0)).1) inferInstance (kn (i + 1) ls (xA (jx_nth jx_lay n (0, 0)).1 (jx_nth jx_lay n (0, 0)).2 :: st) (n + 1) (jx_zero m (jx_nth jx_lay n (0, 0)).1 (jx_nth jx_lay n (0, 0)).2)) else d)
  | .anewarray _ => jx_pI d st (fun z st => bif !ph && (Nat.blt n jx_lay.length && (Nat.beq (jx_sK (jx_nth jx_lay n (0, 0)).1) 2 && Nat.beq (jx_sP (jx_sE (jx_nth jx_lay n (0, 0)).1)) r.2.1)) then
      gd (z = jx_sP (jx_nth jx_lay n (0, 0)).1) inferInstance (kn (i + 1) ls (xA (jx_nth jx_lay n (0, 0)).1 (jx_nth jx_lay n (0, 0)).2 :: st) (n + 1) (jx_zero m (jx_nth jx_lay n (0, 0)).1 (jx_nth jx_lay n (0, 0)).2)) else d)
  | .invokevirtual _ => jx_call d gd kc ph true r.2.1 st n
  | .invokestatic _ => (match r.2.2.1 with
      | 3 => jx_pI d st (fun k st => jx_pI d st (fun dp st => jx_pA d st (fun t j2 st => jx_pI d st (fun sp st => jx_pA d st (fun s j st => bif Nat.ble (jx_cats st) 8 then
          gd ((jx_sK s = 1 ∧ jx_sK t = 1) ∧ (0 ≤ sp ∧ 0 ≤ dp ∧ 0 ≤ k) ∧ sp + k ≤ jx_sP s ∧ dp + k ≤ jx_sP t) inferInstance (jx_gA gd ph n s j (jx_gA gd ph n t j2 (kn (i + 1) ls st n (jx_cpy m s j sp.toNat t j2 dp.toNat k.toNat)))) else d)))))
      | 4 => jx_pI d st (fun y st => jx_pI d st (fun x st => bif Nat.ble (jx_cats st) 8 then kn (i + 1) ls (xI (min x y) :: st) n m else d))
      | 5 => jx_pI d st (fun x st => bif Nat.ble (jx_cats st) 8 then gd (jx_in (-x)) inferInstance (kn (i + 1) ls (xI (x.natAbs : Int) :: st) n m) else d)
      | _ => jx_call d gd kc ph false r.2.1 st n)
  | .invokespecial _ => (match r.2.2.1 with
      | 2 => jx_pA d st (fun _ _ st => bif Nat.ble (jx_cats st) 8 then kn (i + 1) ls st n m else d)
      | _ => jx_call d gd kc ph true r.2.1 st n)
  | _ => d
-- running
abbrev jx_S : Type := Nat × jx_L × List jx_V × Nat × jx_M
abbrev jx_Q : Type := jx_S ⊕ (Nat × List jx_V × List jx_V)
def jx_step (ph : Bool) (r : jx_R) (s : jx_S) : Option jx_Q :=
  jx_sem none (fun c h a => @ite _ c h a none) (fun c h a b => @ite _ c h a b) (fun i ls st n m => some (.inl (i, ls, st, n, m))) (fun y as rest => some (.inr (y, as, rest))) ph r s.1 s.2.1 s.2.2.1 s.2.2.2.1 s.2.2.2.2
def jx_isR (r : jx_R) : Bool := match r.1 with
  | .ireturn => true
  | .return_ => true
  | _ => false
def jx_isC (r : jx_R) : Bool := match r.1 with
  | .invokevirtual _ => true
  | .invokestatic _ => true
  | .invokespecial _ => true
  | _ => false
def jx_exp : List jx_V → jx_L
  | [] => []
  | v :: l => match v with
    | .inr (.inl z) => some (xL z) :: none :: jx_exp l
    | .inl z => some (xI z) :: jx_exp l
    | .inr (.inr q) => some (xA q.1 q.2) :: jx_exp l
def jx_pad : jx_L → Nat → jx_L
  | l, 0 => l
  | [], k + 1 => none :: jx_pad [] k
  | v :: l, k + 1 => v :: jx_pad l k
def jx_ent (y : Nat) (as : List jx_V) : jx_L := jx_pad (jx_exp as) (jx_mL y)
def jx_psh (y : Nat) (z : Int) (st : List jx_V) : List jx_V := match jx_mV y with
  | true => st
  | false => xI z :: st
/-- the answer at a return: void counts as 0; of a boolean method (code 1) the answer is 0 or 1 -/
def jx_rv (x : Nat) (r : jx_R) (st : List jx_V) : Option Int := match r.1, st with
  | .ireturn, [.inl v] => bif jx_mV x then none else bif r.2.1 == 1 then (if v = 0 ∨ v = 1 then some v else none) else some v
  | .return_, [] => bif jx_mV x then some 0 else none
  | _, _ => none
def jx_go (ph : Bool) : Nat → Nat → Nat → jx_S → Option jx_S
  | 0, _, _, _ => none
  | k + 1, x, stop, s => bif Nat.beq s.1 stop || jx_isR (jx_row x s.1) then some s else
    match jx_step ph (jx_row x s.1) s with
    | none => none
    | some (.inl s') => jx_go ph k x stop s'
    | some (.inr (y, as, rest)) => bif jx_isC (jx_row x s.1) && Nat.ble (jx_exp as).length (jx_mL y) then (match jx_go ph k y 100000 (0, jx_ent y as, [], s.2.2.2.1, s.2.2.2.2) with
      | none => none
      | some t => match jx_rv y (jx_row y t.1) t.2.2.1 with
        | none => none
        | some z => jx_go ph k x stop (s.1 + 1, s.2.1, jx_psh y z rest, t.2.2.2.1, t.2.2.2.2)) else none
end
section
/-! numbers of the small machine and of the machine itself -/
theorem jn_ti {z : Int} (h : jx_in z) : (Int32.ofInt z).toInt = z := Int32.toInt_ofInt_of_le (by omega) (by omega)
theorem jn_tiL {z : Int} (h : jx_inL z) : (Int64.ofInt z).toInt = z := Int64.toInt_ofInt_of_le (by omega) (by omega)
theorem jn_rng (x : Int32) : jx_in x.toInt := by
  have h1 := Int32.le_toInt x
  have h2 := Int32.toInt_lt x
  exact ⟨by omega, by omega⟩
theorem jn_rngL (x : Int64) : jx_inL x.toInt := by
  have h1 := Int64.le_toInt x
  have h2 := Int64.toInt_lt x
  exact ⟨by omega, by omega⟩
theorem jn_lt {x y : Int} (hx : jx_in x) (hy : jx_in y) : Int32.ofInt x < Int32.ofInt y ↔ x < y := by rw [Int32.lt_iff_toInt_lt, jn_ti hx, jn_ti hy]
theorem jn_le {x y : Int} (hx : jx_in x) (hy : jx_in y) : Int32.ofInt x ≤ Int32.ofInt y ↔ x ≤ y := by rw [Int32.le_iff_toInt_le, jn_ti hx, jn_ti hy]
theorem jn_eq {x y : Int} (hx : jx_in x) (hy : jx_in y) : Int32.ofInt x = Int32.ofInt y ↔ x = y := by rw [← Int32.toInt_inj, jn_ti hx, jn_ti hy]
theorem jn_0 : (0 : Int32) = Int32.ofInt 0 := rfl
theorem jn_in0 : jx_in 0 := by omega
theorem jn_lt0 {x : Int} (hx : jx_in x) : Int32.ofInt x < 0 ↔ x < 0 := jn_lt hx jn_in0
theorem jn_0lt {x : Int} (hx : jx_in x) : 0 < Int32.ofInt x ↔ 0 < x := jn_lt jn_in0 hx
theorem jn_0le {x : Int} (hx : jx_in x) : 0 ≤ Int32.ofInt x ↔ 0 ≤ x := jn_le jn_in0 hx
theorem jn_le0 {x : Int} (hx : jx_in x) : Int32.ofInt x ≤ 0 ↔ x ≤ 0 := jn_le hx jn_in0
theorem jn_eq0 {x : Int} (hx : jx_in x) : Int32.ofInt x = 0 ↔ x = 0 := jn_eq hx jn_in0
theorem jn_nat {x : Int} (h : 0 ≤ x) : Int32.ofInt x = nI x.toNat := by
  have e : x = (x.toNat : Int) := by omega
  conv => lhs; rw [e, Int32.ofInt_eq_ofNat]
  rfl
theorem jn_cl {x : Int} (hx : jx_in x) : (Int32.ofInt x).toNatClampNeg = x.toNat := by
  show (Int32.ofInt x).toInt.toNat = x.toNat
  rw [jn_ti hx]
theorem jn_vin {x : Int} {n : Nat} (hx : jx_in x) (h0 : 0 ≤ x) (h : x < n) : vp_in (Int32.ofInt x) n := by
  unfold vp_in
  rw [jn_lt0 hx, jn_cl hx]
  omega
theorem jn_add (x y : Int) : Int32.ofInt (x + y) = Int32.ofInt x + Int32.ofInt y := by
  apply Int32.toInt_inj.mp
  simp [Int32.toInt_add]
theorem jn_sub (x y : Int) : Int32.ofInt (x - y) = Int32.ofInt x - Int32.ofInt y := by
  apply Int32.toInt_inj.mp
  simp [Int32.toInt_sub]
theorem jn_mul (x y : Int) : Int32.ofInt (x * y) = Int32.ofInt x * Int32.ofInt y := by
  apply Int32.toInt_inj.mp
  simp [Int32.toInt_mul]
theorem jn_neg (x : Int) : Int32.ofInt (-x) = -Int32.ofInt x := by
  apply Int32.toInt_inj.mp
  simp [Int32.toInt_neg]
theorem jn_div {x y : Int} (hx : jx_in x) (hy : jx_in y) (h0 : 0 ≤ x) (h1 : 0 < y) : Int32.ofInt (x / y) = Int32.ofInt x / Int32.ofInt y := by
  have e1 : x / y = ((x.toNat / y.toNat : Nat) : Int) := by
    have a : x = (x.toNat : Int) := by omega
    have b : y = (y.toNat : Int) := by omega
    conv => lhs; rw [a, b]
    exact (Int.natCast_ediv x.toNat y.toNat).symm
  rw [jn_nat h0, jn_nat (by omega : 0 ≤ y), pk_div (by omega) (by omega) (by omega), e1, Int32.ofInt_eq_ofNat]
  rfl
theorem jn_rem {x y : Int} (hx : jx_in x) (hy : jx_in y) (h0 : 0 ≤ x) (h1 : 0 < y) : Int32.ofInt (x % y) = Int32.ofInt x - Int32.ofInt x / Int32.ofInt y * Int32.ofInt y := by
  rw [← jn_div hx hy h0 h1, ← jn_mul, ← jn_sub]
  congr 1
  have := Int.emod_add_mul_ediv x y
  rw [Int.mul_comm] at this
  omega
theorem jn_div_in {x y : Int} (hx : jx_in x) (h0 : 0 ≤ x) (h1 : 0 < y) : jx_in (x / y) := by
  have a := Int.ediv_nonneg h0 (Int.le_of_lt h1)
  have b := Int.ediv_le_self (a := x) y h0
  omega
theorem jn_rem_in {x y : Int} (hy : jx_in y) (h1 : 0 < y) : jx_in (x % y) := by
  have a := Int.emod_nonneg x (by omega : y ≠ 0)
  have b := Int.emod_lt_of_pos x h1
  omega
theorem jn_addL (x y : Int) : Int64.ofInt (x + y) = Int64.ofInt x + Int64.ofInt y := by
  apply Int64.toInt_inj.mp
  simp [Int64.toInt_add]
theorem jn_i2l {x : Int} (hx : jx_in x) : (Int32.ofInt x).toInt64 = Int64.ofInt x := by
  apply Int64.toInt_inj.mp
  rw [Int32.toInt_toInt64, jn_ti hx, jn_tiL (by omega)]
theorem jn_lcmp {x y : Int} (hx : jx_inL x) (hy : jx_inL y) : lg_cmp (Int64.ofInt x) (Int64.ofInt y) = Int32.ofInt (jx_lcmp x y) := by
  unfold lg_cmp jx_lcmp
  simp only [gt_iff_lt, Int64.lt_iff_toInt_lt, ← Int64.toInt_inj, jn_tiL hx, jn_tiL hy]
  by_cases h1 : y < x
  · rw [if_pos h1, if_neg (by omega), if_pos h1]; rfl
  · by_cases h2 : x = y
    · rw [if_neg h1, if_pos h2, if_neg (by omega), if_neg (by omega)]; rfl
    · rw [if_neg h1, if_neg h2, if_pos (by omega)]; rfl
theorem jn_lcmp_in (x y : Int) : jx_in (jx_lcmp x y) := by
  unfold jx_lcmp
  split
  · omega
  · split <;> omega
theorem jn_abs {x : Int} (hx : jx_in x) : Int32.ofInt (x.natAbs : Int) = if 0 ≤ Int32.ofInt x then Int32.ofInt x else 0 - Int32.ofInt x := by
  rw [jn_0, ← jn_sub]
  by_cases h : 0 ≤ x
  · rw [if_pos ((jn_le jn_in0 hx).mpr h)]
    congr 1
    omega
  · rw [if_neg (fun q => h ((jn_le jn_in0 hx).mp q))]
    congr 1
    omega
theorem jn_min {x y : Int} (hx : jx_in x) (hy : jx_in y) : Int32.ofInt (min x y) = if Int32.ofInt y < Int32.ofInt x then Int32.ofInt y else Int32.ofInt x := by
  by_cases h : y < x
  · rw [if_pos ((jn_lt hy hx).mpr h)]
    congr 1
    omega
  · rw [if_neg (fun q => h ((jn_lt hy hx).mp q))]
    congr 1
    omega
-- taking apart what the small machine answered
theorem ji_pI {α : Type} {st : List jx_V} {k : Int → List jx_V → Option α} {q : α} (h : jx_pI none st k = some q) : ∃ x r, st = xI x :: r ∧ k x r = some q := by
  unfold jx_pI at h
  split at h
  · exact ⟨_, _, rfl, h⟩
  · cases h
theorem ji_pL {α : Type} {st : List jx_V} {k : Int → List jx_V → Option α} {q : α} (h : jx_pL none st k = some q) : ∃ x r, st = xL x :: r ∧ k x r = some q := by
  unfold jx_pL at h
  split at h
  · exact ⟨_, _, rfl, h⟩
  · cases h
theorem ji_pA {α : Type} {st : List jx_V} {k : Nat → Nat → List jx_V → Option α} {q : α} (h : jx_pA none st k = some q) : ∃ s j r, st = xA s j :: r ∧ k s j r = some q := by
  unfold jx_pA at h
  split at h
  · exact ⟨_, _, _, rfl, h⟩
  · cases h
theorem ji_lI {α : Type} {ls : jx_L} {a : Nat} {k : Int → Option α} {q : α} (h : jx_lI none ls a k = some q) : ∃ x, jx_nth ls a none = some (xI x) ∧ k x = some q := by
  unfold jx_lI at h
  split at h
  · rename_i e; exact ⟨_, e, h⟩
  · cases h
theorem ji_lL {α : Type} {ls : jx_L} {a : Nat} {k : Int → Option α} {q : α} (h : jx_lL none ls a k = some q) : ∃ x, jx_nth ls a none = some (xL x) ∧ k x = some q := by
  unfold jx_lL at h
  split at h
  · rename_i e; exact ⟨_, e, h⟩
  · cases h
theorem ji_lA {α : Type} {ls : jx_L} {a : Nat} {k : Nat → Nat → Option α} {q : α} (h : jx_lA none ls a k = some q) : ∃ s j, jx_nth ls a none = some (xA s j) ∧ k s j = some q := by
  unfold jx_lA at h
  split at h
  · rename_i e; exact ⟨_, _, e, h⟩
  · cases h
theorem ji_cl {α : Type} {ls : jx_L} {a : Nat} {k : Option α} {q : α} (h : jx_cl none ls a k = some q) : (∀ b z, b + 1 = a → jx_nth ls b none ≠ some (xL z)) ∧ k = some q := by
  unfold jx_cl at h
  split at h
  · exact ⟨fun b z e => by omega, h⟩
  · rename_i a b
    split at h
    · cases h
    · rename_i h1
      exact ⟨fun b' z e => by obtain rfl : b' = b := by omega
                              exact h1 z, h⟩
theorem ji_if {α : Type} {c : Prop} {hd : Decidable c} {a : Option α} {q : α} (h : @ite _ c hd a none = some q) : c ∧ a = some q := by
  by_cases hc : c
  · rw [if_pos hc] at h; exact ⟨hc, h⟩
  · rw [if_neg hc] at h; cases h
theorem ji_bif {α : Type} {c : Bool} {a : Option α} {q : α} (h : (bif c then a else none) = some q) : c = true ∧ a = some q := by
  cases c
  · cases h
  · exact ⟨rfl, h⟩
theorem ji_gA {α : Type} {ph : Bool} {n s i : Nat} {a : Option α} {q : α} (h : jx_gA (fun c hd a => @ite _ c hd a none) ph n s i a = some q) : i < jx_sC s ∧ (ph = false → jx_pos s i < n) ∧ a = some q := by
  cases ph
  · obtain ⟨⟨h1, h2⟩, h3⟩ := ji_if h
    exact ⟨h1, fun _ => h2, h3⟩
  · obtain ⟨h1, h3⟩ := ji_if h
    exact ⟨h1, fun e => (by cases e), h3⟩
theorem ji_gF {α : Type} {ph : Bool} {f : Int} {a : Option α} {q : α} (h : jx_gF (fun c hd a => @ite _ c hd a none) ph f a = some q) : (ph = true ∨ f = 1) ∧ a = some q := by
  cases ph
  · obtain ⟨h1, h3⟩ := ji_if h
    exact ⟨Or.inr h1, h3⟩
  · exact ⟨Or.inl rfl, h⟩
theorem ji_and {a b : Bool} (h : (a && b) = true) : a = true ∧ b = true := by
  cases a
  · cases h
  · exact ⟨rfl, h⟩
theorem ji_beq {a b : Nat} (h : Nat.beq a b = true) : a = b := Nat.eq_of_beq_eq_true h
-- lists by places
theorem jl_nth_set {β : Type} (d v : β) : ∀ (l : List β) (a k : Nat), a < l.length → jx_nth (l.set a v) k d = if k = a then v else jx_nth l k d
  | [], a, k, h => by simp at h
  | x :: l, 0, 0, h => by simp [jx_nth]
  | x :: l, 0, k + 1, h => by simp [jx_nth]
  | x :: l, a + 1, 0, h => by simp [jx_nth]
  | x :: l, a + 1, k + 1, h => by
    have := jl_nth_set d v l a k (by simpa using h)
    simp [jx_nth, this]
theorem jl_nth_get {β : Type} (d : β) : ∀ (l : List β) (k : Nat), k < l.length → l[k]? = some (jx_nth l k d)
  | [], k, h => by simp at h
  | x :: l, 0, h => by simp [jx_nth]
  | x :: l, k + 1, h => by simpa [jx_nth] using jl_nth_get d l k (by simpa using h)
theorem jl_nth_out {β : Type} (d : β) : ∀ (l : List β) (k : Nat), l.length ≤ k → jx_nth l k d = d
  | [], k, h => by cases k <;> rfl
  | x :: l, 0, h => by simp at h
  | x :: l, k + 1, h => by simpa [jx_nth] using jl_nth_out d l k (by simpa using h)
end
section
/-! the small machine's memory in the heap -/
abbrev jx_E : Type := Nat × Nat × va_G × ClassId × (Nat → ClassId)
def jx_ad (E : jx_E) (s i : Nat) : Nat := bif Nat.beq s 60 then E.2.1 else E.1 + jx_pos s i
def jx_con (E : jx_E) (v : jx_V) : Value := match v with
  | .inl z => .int (Int32.ofInt z)
  | .inr (.inl z) => .long (Int64.ofInt z)
  | .inr (.inr q) => .ref (jx_ad E q.1 q.2)
def jx_fv (E : jx_E) (ph : Bool) (m : jx_M) (s j k : Nat) : Value := match jx_fT s k with
  | (0, _, _, _) => .int (Int32.ofInt (m s j k))
  | (1, _, _, _) => .int (Int32.ofInt (m s j k))
  | (2, s', mode, b) => if ph = true ∨ m s j k = 1 then .ref (E.1 + jx_pos s' (jx_ix mode b j)) else .null
  | _ => .null
def jx_nf (s : Nat) : Nat := (jx_nth jx_fld (jx_sP s) []).length
def jx_ce (E : jx_E) (ph : Bool) (m : jx_M) (s j : Nat) : va_E := match jx_sK s with
  | 0 => .inr (jx_sP s, (List.range (jx_nf s)).map (jx_fv E ph m s j))
  | 1 => .inl (E.2.2.2.1, jx_sP s, .inl (fun k => Int32.ofInt (m s j k)))
  | _ => .inl (E.2.2.2.2 s, jx_sP s, .inr (.inr (.inr (.inr (fun k => if ph = true ∨ m s j k = 1 then some (E.1 + jx_pos (jx_sE s) (jx_el s j k)) else none)))))
def jx_la (k : Nat) : Nat × Nat := jx_nth jx_lay k (0, 0)
def jx_Wd (E : jx_E) (ph : Bool) (n : Nat) (m : jx_M) (H : Heap) : Prop := H.size = E.1 + n ∧ n ≤ 190 ∧ ∀ k, k < n → va_at E.2.2.1 jx_classes (E.1 + k, jx_ce E ph m (jx_la k).1 (jx_la k).2) H
def jx_sl (s : Nat) : Nat := match jx_sK s with
  | 0 => jx_nf s
  | _ => jx_sP s
def jx_SL : Nat → Nat
  | 0 => 0
  | n + 1 => jx_SL n + jx_sl (jx_la n).1
def jx_tys (E : jx_E) : List (ClassId × FieldType) := [(E.2.2.2.1, .int), (E.2.2.2.2 3, .object RX2), (E.2.2.2.2 4, .object RX0), (E.2.2.2.2 5, .object RX7), (E.2.2.2.2 22, .object RX3)]
def jx_G (E : jx_E) (U : State) : Prop := va_K E.2.2.1 jx_classes (jx_tys E) U ∧ (∀ (a : String) (i : Nat) (x : MethodName) (h : String), Jvm.Cond.methodLinkNest a i x h ∈ lw_tbl → va_Nw (.methodLinkNest a i x h) U) ∧ (∀ C : String, Jvm.Cond.arrayOver (.object C) ∈ lw_tbl → va_AO C U)
def jx_F (E : jx_E) (s : State) (H : Heap) (locs : List Loc) : Prop := E.1 ≤ s.heap.size ∧ (∀ q : Nat, q < E.1 → H[q]? = s.heap[q]?) ∧ ∀ l ∈ locs, E.1 ≤ l.base
def jx_X (E : jx_E) (xs : Nat → Int) (L : Int) (U : State) (H : Heap) : Prop := va_X E.2.1 L.toNat (fun k => Int32.ofInt (xs k)) U H ∧ E.2.1 < E.1 ∧ 0 ≤ L ∧ L ≤ 2147483647
def jx_lv (E : jx_E) : Nat → jx_L → List (Nat × Value)
  | _, [] => []
  | k, some v :: l => (k, jx_con E v) :: jx_lv E (k + 1) l
  | k, none :: l => jx_lv E (k + 1) l
def jx_wV (v : jx_V) : Prop := match v with
  | .inl z => jx_in z
  | .inr (.inl z) => jx_inL z
  | .inr (.inr _) => True
def jx_wM (xs : Nat → Int) (L : Int) (m : jx_M) : Prop := (∀ s i k, jx_in (m s i k)) ∧ (∀ k, m 60 0 k = xs k) ∧ m 61 0 0 = L
def jx_wf (ph : Bool) (xs : Nat → Int) (L : Int) (x : Nat) (t : jx_S) : Prop := (∀ k v, jx_nth t.2.1 k none = some v → jx_wV v) ∧ t.2.1.length = jx_mL x ∧ (∀ v ∈ t.2.2.1, jx_wV v) ∧ jx_wM xs L t.2.2.2.2 ∧ (ph = true → t.2.2.2.1 = 190) ∧ t.2.2.2.1 ≤ 190
-- the layout's own facts
theorem jy_pos0 : ((List.range 47).all (fun s => (List.range (jx_sC s)).all (fun j => Nat.blt (jx_pos s j) 190 && (Nat.beq (jx_la (jx_pos s j)).1 s && Nat.beq (jx_la (jx_pos s j)).2 j)))) = true := by decide +kernel
theorem jy_lay0 : ((List.range 190).all (fun k => Nat.beq (jx_pos (jx_la k).1 (jx_la k).2) k && (Nat.blt (jx_la k).2 (jx_sC (jx_la k).1) && Nat.ble (jx_sK (jx_la k).1) 2))) = true := by decide +kernel
theorem jy_len : jx_srt.length = 47 ∧ jx_lay.length = 190 := by decide +kernel
theorem jy_srt {s j : Nat} (h : j < jx_sC s) : s < 47 := by
  rcases Nat.lt_or_ge s 47 with q | q
  · exact q
  · have : jx_sC s = 0 := by
      unfold jx_sC
      rw [jl_nth_out _ _ _ (by rw [jy_len.1]; exact q)]
    omega
theorem jy_pos {s j : Nat} (h : j < jx_sC s) : jx_pos s j < 190 ∧ jx_la (jx_pos s j) = (s, j) := by
  have h1 := List.all_eq_true.mp (List.all_eq_true.mp jy_pos0 s (List.mem_range.mpr (jy_srt h))) j (List.mem_range.mpr h)
  obtain ⟨a, b⟩ := ji_and h1
  obtain ⟨b, c⟩ := ji_and b
  exact ⟨Nat.le_of_ble_eq_true a, Prod.ext (ji_beq b) (ji_beq c)⟩
theorem jy_lay {k : Nat} (h : k < 190) : jx_pos (jx_la k).1 (jx_la k).2 = k ∧ (jx_la k).2 < jx_sC (jx_la k).1 ∧ jx_sK (jx_la k).1 ≤ 2 := by
  have h1 := List.all_eq_true.mp jy_lay0 k (List.mem_range.mpr h)
  obtain ⟨a, b⟩ := ji_and h1
  obtain ⟨b, c⟩ := ji_and b
  exact ⟨ji_beq a, Nat.le_of_ble_eq_true b, Nat.le_of_ble_eq_true c⟩
theorem jy_ne60 {s j : Nat} (h : j < jx_sC s) : Nat.beq s 60 = false ∧ s ≠ 60 ∧ s ≠ 61 := by
  have := jy_srt h
  refine ⟨?_, by omega, by omega⟩
  cases e : Nat.beq s 60
  · rfl
  · have := ji_beq e; omega
theorem jy_ad {E : jx_E} {s j : Nat} (h : j < jx_sC s) : jx_ad E s j = E.1 + jx_pos s j := by
  unfold jx_ad
  rw [(jy_ne60 h).1]
  rfl
-- the classes' own facts
theorem jy_in0 : ∀ w ∈ u_ws RX0 TX0 4, w ∈ jx_gw := by decide +kernel
theorem jy_in1 : ∀ w ∈ u_ws RX1 TX1 7, w ∈ jx_gw := by decide +kernel
theorem jy_in2 : ∀ w ∈ u_ws RX2 TX2 9, w ∈ jx_gw := by decide +kernel
theorem jy_in3 : ∀ w ∈ u_ws RX3 TX3 4, w ∈ jx_gw := by decide +kernel
theorem jy_in4 : ∀ w ∈ u_ws RX4 TX4 2, w ∈ jx_gw := by decide +kernel
theorem jy_in5 : ∀ w ∈ u_ws RX5 TX5 9, w ∈ jx_gw := by decide +kernel
theorem jy_in6 : ∀ w ∈ u_ws RX6 TX6 4, w ∈ jx_gw := by decide +kernel
theorem jy_in7 : ∀ w ∈ u_ws RX7 TX7 3, w ∈ jx_gw := by decide +kernel
theorem jy_in8 : ∀ w ∈ u_ws RX8 TX8 8, w ∈ jx_gw := by decide +kernel
theorem jy_in9 : ∀ w ∈ u_ws RX9 TX9 32, w ∈ jx_gw := by decide +kernel
/-- of a class: its fields' words, types, names; the field table fits -/
def jy_ty (c : Nat) : Nat → FieldType := match c with
  | 0 => tyX0 | 1 => tyX1 | 2 => tyX2 | 3 => tyX3 | 4 => tyX4 | 5 => tyX5 | 6 => tyX6 | 7 => tyX7 | 8 => tyX8 | _ => tyX9
theorem jy_cls {c : Nat} {q : vw_C} (h : jx_classes[c]? = some q) : (∀ w ∈ u_ws q.1 q.2.1 q.2.2, w ∈ jx_gw) ∧ (∀ k, k < q.2.2 → parseFieldDescriptor (q.2.1 k).2.2.1 = some (jy_ty c k)) ∧ (∀ a, a < q.2.2 → ∀ b, b < q.2.2 → a ≠ b → (q.2.1 a).2.1 ≠ (q.2.1 b).2.1) ∧ c < 10 := by
  match c, h with
  | 0, h => cases h; exact ⟨jy_in0, tyX0_ok, nmX0, by omega⟩
  | 1, h => cases h; exact ⟨jy_in1, tyX1_ok, nmX1, by omega⟩
  | 2, h => cases h; exact ⟨jy_in2, tyX2_ok, nmX2, by omega⟩
  | 3, h => cases h; exact ⟨jy_in3, tyX3_ok, nmX3, by omega⟩
  | 4, h => cases h; exact ⟨jy_in4, tyX4_ok, nmX4, by omega⟩
  | 5, h => cases h; exact ⟨jy_in5, tyX5_ok, nmX5, by omega⟩
  | 6, h => cases h; exact ⟨jy_in6, tyX6_ok, nmX6, by omega⟩
  | 7, h => cases h; exact ⟨jy_in7, tyX7_ok, nmX7, by omega⟩
  | 8, h => cases h; exact ⟨jy_in8, tyX8_ok, nmX8, by omega⟩
  | 9, h => cases h; exact ⟨jy_in9, tyX9_ok, nmX9, by omega⟩
  | c + 10, h => simp [jx_classes] at h
/-- the field table and the classes' own: an int, a boolean, or a final reference -/
def jy_fok (c k : Nat) : Bool := match jx_classes[c]? with
  | some (_, T, _) => (match jx_nth (jx_nth jx_fld c []) k (9, 0, 0, 0) with
    | (0, _, _, _) => decide (jy_ty c k = .int ∧ (T k).2.2.2 = false)
    | (1, _, _, _) => decide (jy_ty c k = .boolean ∧ (T k).2.2.2 = false)
    | (2, s, md, b) => decide ((T k).2.2.2 = true) && ((match jy_ty c k with
        | .object _ => true
        | .array _ => true
        | _ => false) && (Nat.blt s 47 && (Nat.beq md 1 || (Nat.beq md 0 && Nat.blt b (jx_sC s)))))
    | _ => false)
  | none => false
theorem jy_fok0 : ((List.range 10).all (fun c => (List.range (jx_nth jx_fld c []).length).all (jy_fok c))) = true := by decide +kernel
theorem jy_nf0 : ((List.range 10).all (fun c => match jx_classes[c]? with | some (_, _, n) => Nat.beq (jx_nth jx_fld c []).length n | none => false)) = true := by decide +kernel
theorem jy_nf {c : Nat} {q : vw_C} (h : jx_classes[c]? = some q) : (jx_nth jx_fld c []).length = q.2.2 := by
  have h1 := List.all_eq_true.mp jy_nf0 c (List.mem_range.mpr (jy_cls h).2.2.2)
  simp only [h] at h1
  exact ji_beq h1
/-- objects' sorts have a class; a field that is a reference leads to cells that there are -/
theorem jy_srt0 : ((List.range 47).all (fun s => (match jx_sK s with
    | 0 => Nat.blt (jx_sP s) 10 && ((List.range (jx_nf s)).all (fun k => match jx_fT s k with
      | (2, s', md, b) => (List.range (jx_sC s)).all (fun j => Nat.blt (jx_ix md b j) (jx_sC s'))
      | _ => true))
    | 1 => Nat.blt (jx_sP s) 1000
    | 2 => Nat.blt (jx_sP s) 1000 && ((Nat.beq (jx_sK (jx_sE s)) 0) && (List.range (jx_sC s)).all (fun j => (List.range (jx_sP s)).all (fun k => Nat.blt (jx_el s j k) (jx_sC (jx_sE s)))))
    | _ => true))) = true := by decide +kernel
theorem jy_obj {s j : Nat} (h : j < jx_sC s) (hk : jx_sK s = 0) : jx_sP s < 10 ∧ ∀ k, k < jx_nf s → ∀ s' md b, jx_fT s k = (2, s', md, b) → jx_ix md b j < jx_sC s' := by
  have h1 := List.all_eq_true.mp jy_srt0 s (List.mem_range.mpr (jy_srt h))
  rw [hk] at h1
  obtain ⟨a, b⟩ := ji_and h1
  refine ⟨Nat.le_of_ble_eq_true a, fun k hkn s' md b' e => ?_⟩
  have h2 := List.all_eq_true.mp b k (List.mem_range.mpr hkn)
  rw [e] at h2
  exact Nat.le_of_ble_eq_true (List.all_eq_true.mp h2 j (List.mem_range.mpr h))
theorem jy_arr {s j : Nat} (h : j < jx_sC s) (hk : jx_sK s = 2) : jx_sP s < 1000 ∧ jx_sK (jx_sE s) = 0 ∧ ∀ z : Int, 0 ≤ z → z < jx_sP s → jx_el s j z < jx_sC (jx_sE s) := by
  have h1 := List.all_eq_true.mp jy_srt0 s (List.mem_range.mpr (jy_srt h))
  rw [hk] at h1
  obtain ⟨a, b⟩ := ji_and h1
  obtain ⟨b, c⟩ := ji_and b
  refine ⟨Nat.le_of_ble_eq_true a, ji_beq b, fun z z0 z1 => ?_⟩
  have h2 := List.all_eq_true.mp (List.all_eq_true.mp c j (List.mem_range.mpr h)) z.toNat (List.mem_range.mpr (by omega))
  have e : ((z.toNat : Nat) : Int) = z := by omega
  rw [e] at h2
  exact Nat.le_of_ble_eq_true h2
theorem jy_ints {s j : Nat} (h : j < jx_sC s) (hk : jx_sK s = 1) : jx_sP s < 1000 := by
  have h1 := List.all_eq_true.mp jy_srt0 s (List.mem_range.mpr (jy_srt h))
  rw [hk] at h1
  exact Nat.le_of_ble_eq_true h1
/-- of what type an array of references is -/
def jy_rt (s : Nat) : Nat := match s with
  | 3 => 1 | 4 => 2 | 5 => 3 | 22 => 4 | _ => 9
theorem jy_rt0 : ((List.range 47).all (fun s => match jx_sK s with
    | 2 => (match (jx_classes.map (·.1))[jx_sP (jx_sE s)]? with
      | some C => decide (([(0, FieldType.int), (3, .object RX2), (4, .object RX0), (5, .object RX7), (22, .object RX3)] : List (Nat × FieldType))[jy_rt s]? = some (s, .object C)) && lw_tbl.elem (.arrayOver (.object C))
      | none => false)
    | _ => true)) = true := by decide +kernel
theorem jy_tys {E : jx_E} {s j : Nat} (h : j < jx_sC s) (hk : jx_sK s = 2) : ∃ q : vw_C, jx_classes[jx_sP (jx_sE s)]? = some q ∧ (jx_tys E)[jy_rt s]? = some (E.2.2.2.2 s, .object q.1) ∧ Jvm.Cond.arrayOver (.object q.1) ∈ lw_tbl := by
  have h1 := List.all_eq_true.mp jy_rt0 s (List.mem_range.mpr (jy_srt h))
  rw [hk] at h1
  cases hq : jx_classes[jx_sP (jx_sE s)]? with
  | none => rw [List.getElem?_map, hq] at h1; cases h1
  | some q =>
    rw [List.getElem?_map, hq] at h1
    obtain ⟨a, b⟩ := ji_and h1
    refine ⟨q, rfl, ?_, List.elem_iff.mp b⟩
    have a := of_decide_eq_true a
    have hr : jy_rt s < 5 := (List.getElem?_eq_some_iff.mp a).1
    match jy_rt s, hr, a with
    | 0, _, a => simp at a
    | 1, _, a => simp at a; obtain ⟨rfl, e⟩ := a; simp [jx_tys, ← e]
    | 2, _, a => simp at a; obtain ⟨rfl, e⟩ := a; simp [jx_tys, ← e]
    | 3, _, a => simp at a; obtain ⟨rfl, e⟩ := a; simp [jx_tys, ← e]
    | 4, _, a => simp at a; obtain ⟨rfl, e⟩ := a; simp [jx_tys, ← e]
    | n + 5, hr, _ => omega
-- the world's cells
theorem jw_at {E : jx_E} {ph : Bool} {n : Nat} {m : jx_M} {H : Heap} (h : jx_Wd E ph n m H) {s j : Nat} (hj : j < jx_sC s) (hn : jx_pos s j < n) : va_at E.2.2.1 jx_classes (E.1 + jx_pos s j, jx_ce E ph m s j) H := by
  have h1 := h.2.2 _ hn
  rw [(jy_pos hj).2] at h1
  exact h1
theorem jw_ce_up {E : jx_E} {ph : Bool} {m m' : jx_M} {s j s' j' : Nat} (h : ∀ k, m' s' j' k = m s' j' k) : jx_ce E ph m' s' j' = jx_ce E ph m s' j' := by
  unfold jx_ce
  have e : jx_fv E ph m' s' j' = jx_fv E ph m s' j' := by
    funext k
    unfold jx_fv
    simp only [h]
  split
  · rw [e]
  · simp only [h]
  · simp only [h]
/-- one cell is written: the others stay -/
theorem jw_set {E : jx_E} {ph : Bool} {n : Nat} {m m' : jx_M} {H H1 : Heap} (h : jx_Wd E ph n m H) {s j : Nat} (hj : j < jx_sC s) (hn : jx_pos s j < n) (hm : ∀ s' j' k, ¬ (s' = s ∧ j' = j) → m' s' j' k = m s' j' k)
    (he : va_at E.2.2.1 jx_classes (E.1 + jx_pos s j, jx_ce E ph m' s j) H1) (z : H1.size = H.size) (oq : ∀ q : Nat, q ≠ E.1 + jx_pos s j → H1[q]? = H[q]?) : jx_Wd E ph n m' H1 := by
  refine ⟨z.trans h.1, h.2.1, fun k hk => ?_⟩
  by_cases e : k = jx_pos s j
  · subst e
    rw [(jy_pos hj).2]
    exact he
  · rw [jw_ce_up (m := m) (s := s) (j := j) (fun i => hm _ _ i (fun q => e ?_))]
    · exact (h.2.2 k hk).kept (oq _ (by show E.1 + k ≠ _; omega))
    · have hk' := (jy_lay (Nat.lt_of_lt_of_le hk h.2.1)).1
      rw [q.1, q.2] at hk'
      exact hk'.symm
/-- a cell is made -/
theorem jw_push {E : jx_E} {ph : Bool} {n : Nat} {m m' : jx_M} {H H1 : Heap} (h : jx_Wd E ph n m H) (hn : n < 190) (hm : ∀ s' j' k, ¬ (s' = (jx_la n).1 ∧ j' = (jx_la n).2) → m' s' j' k = m s' j' k)
    (he : va_at E.2.2.1 jx_classes (E.1 + n, jx_ce E ph m' (jx_la n).1 (jx_la n).2) H1) (z : H1.size = E.1 + n + 1) (oq : ∀ q : Nat, q < E.1 + n → H1[q]? = H[q]?) : jx_Wd E ph (n + 1) m' H1 := by
  refine ⟨by omega, by omega, fun k hk => ?_⟩
  by_cases e : k = n
  · subst e
    exact he
  · rw [jw_ce_up (m := m) (s := (jx_la n).1) (j := (jx_la n).2) (fun i => hm _ _ i (fun q => e ?_))]
    · exact (h.2.2 k (by omega)).kept (oq _ (by show E.1 + k < _; omega))
    · have h1 := (jy_lay (show k < 190 by omega)).1
      have h2 := (jy_lay hn).1
      rw [q.1, q.2, h2] at h1
      exact h1.symm
theorem jw_F_put {E : jx_E} {s : State} {H H1 : Heap} {locs : List Loc} {a k : Nat} (h : jx_F E s H locs) (ha : E.1 ≤ a) (oq : ∀ q : Nat, q ≠ a → H1[q]? = H[q]?) : jx_F E s H1 (locs ++ [⟨a, k⟩]) := by
  refine ⟨h.1, fun q hq => (oq q (by omega)).trans (h.2.1 q hq), fun l hl => ?_⟩
  rcases List.mem_append.mp hl with h1 | h1
  · exact h.2.2 l h1
  · rw [List.mem_singleton.mp h1]; exact ha
-- locals
theorem jv_mem {E : jx_E} : ∀ (ls : jx_L) (o : Nat) (q : Nat × Value), q ∈ jx_lv E o ls ↔ ∃ k v, q = (o + k, jx_con E v) ∧ jx_nth ls k none = some v
  | [], o, q => by
    constructor
    · intro h; cases h
    · rintro ⟨k, v, -, h⟩
      cases k <;> cases h
  | some w :: ls, o, q => by
    have ih := jv_mem (E := E) ls (o + 1) q
    show q ∈ (o, jx_con E w) :: jx_lv E (o + 1) ls ↔ _
    rw [List.mem_cons, ih]
    constructor
    · rintro (h | ⟨k, v, h1, h2⟩)
      · exact ⟨0, w, h, rfl⟩
      · exact ⟨k + 1, v, by rw [h1]; congr 1; omega, h2⟩
    · rintro ⟨k, v, h1, h2⟩
      cases k with
      | zero => left; cases h2; exact h1
      | succ k => right; exact ⟨k, v, by rw [h1]; congr 1; omega, h2⟩
  | none :: ls, o, q => by
    have ih := jv_mem (E := E) ls (o + 1) q
    show q ∈ jx_lv E (o + 1) ls ↔ _
    rw [ih]
    constructor
    · rintro ⟨k, v, h1, h2⟩
      exact ⟨k + 1, v, by rw [h1]; congr 1; omega, h2⟩
    · rintro ⟨k, v, h1, h2⟩
      cases k with
      | zero => cases h2
      | succ k => exact ⟨k, v, by rw [h1]; congr 1; omega, h2⟩
theorem jv_at {E : jx_E} {lsr : Array Slot} {nL : Nat} {ls : jx_L} (h : lv_has lsr nL (jx_lv E 0 ls)) {a : Nat} {v : jx_V} (hv : jx_nth ls a none = some v) : lsr[a]? = some (.val (jx_con E v)) :=
  h.2.2 (a, jx_con E v) ((jv_mem ls 0 _).mpr ⟨a, v, by rw [Nat.zero_add], hv⟩)
theorem jv_sub {lsr : Array Slot} {nL : Nat} {l l' : List (Nat × Value)} (h : lv_has lsr nL l) (hs : ∀ q ∈ l', q ∈ l) : lv_has lsr nL l' := ⟨h.1, h.2.1, fun q hq => h.2.2 q (hs q hq)⟩
theorem jv_cat (E : jx_E) (v : jx_V) : (jx_con E v).category = jx_cat v := by
  rcases v with z | z | z <;> rfl
theorem jv_set {E : jx_E} {lsr : Array Slot} {nL : Nat} {ls : jx_L} {a : Nat} {v : jx_V} (ha : a < ls.length) (hcl : ∀ b z, b + 1 = a → jx_nth ls b none ≠ some (xL z))
    (h : lv_has lsr nL ((a, jx_con E v) :: (jx_lv E 0 ls).filter (fun q => !(q.1 == a) && !(q.1 + 1 == a && q.2.category == 2)))) : lv_has lsr nL (jx_lv E 0 (ls.set a (some v))) := by
  refine jv_sub h (fun q hq => ?_)
  obtain ⟨k, w, rfl, h2⟩ := (jv_mem _ 0 q).mp hq
  rw [jl_nth_set none (some v) ls a k ha] at h2
  rw [Nat.zero_add]
  by_cases e : k = a
  · rw [if_pos e] at h2
    cases h2
    subst e
    exact List.mem_cons_self
  · rw [if_neg e] at h2
    refine List.mem_cons_of_mem _ (List.mem_filter.mpr ⟨(jv_mem ls 0 _).mpr ⟨k, w, by rw [Nat.zero_add], h2⟩, ?_⟩)
    simp only [jv_cat]
    have h3 : ¬ (k + 1 = a ∧ jx_cat w = 2) := fun ⟨q1, q2⟩ => by
      rcases w with z | z | z
      · cases q2
      · exact hcl k z q1 h2
      · cases q2
    simp only [Bool.and_eq_true, Bool.not_eq_true', beq_eq_false_iff_ne, ne_eq, Bool.and_eq_false_iff]
    refine ⟨e, ?_⟩
    by_cases h4 : k + 1 = a
    · right; exact fun q => h3 ⟨h4, q⟩
    · left; exact h4
theorem jv_cats (E : jx_E) : ∀ st : List jx_V, ((st.map (jx_con E)).map fun v => v.category).sum = jx_cats st
  | [] => rfl
  | v :: st => by
    simp only [List.map_cons, List.sum_cons, jv_cat, jx_cats]
    rw [jv_cats E st]
end
section
/-! one instruction of the small machine is one of the machine -/
section
variable {E : jx_E} {ph : Bool} {xs : Nat → Int} {L : Int} {p : Program} {l : Launch} {e : Env} {R : Room} {s : State} {mm : MethodId} {args : Array Value} {below : List Frame} {meth : Method} {c : Code} {Q : State → Prop} {n0 x : Nat}
/-- what stays while a method's body runs -/
def jx_C (E : jx_E) (ph : Bool) (xs : Nat → Int) (L : Int) (p : Program) (R : Room) (s : State) (mm : MethodId) (args : Array Value) (meth : Method) (c : Code) (x : Nat) : Prop :=
  p.tables.exec = Jvm.exec ∧ c.code = jx_mB x ∧ c.maxLocals = jx_mL x ∧ s.vm.findClass (jx_mN x).cls = some mm.cls ∧ (∀ w ∈ jx_gw, w.before args s = true) ∧ ((jx_mN x).name = "<init>" → meth.name = "<init>") ∧ jx_G E s ∧ jx_mF x ≤ R.frames ∧ jx_mO x ≤ R.locals ∧ x < 192 ∧ (ph = true → jx_X E xs L s s.heap)
def jx_W (E : jx_E) (ph : Bool) (p : Program) (l : Launch) (e : Env) (R : Room) (s : State) (mm : MethodId) (args : Array Value) (below : List Frame) (meth : Method) (c : Code) (Q : State → Prop) (n0 x : Nat) (t : jx_S) : Prop :=
  ∀ (H : Heap) (locs : List Loc) (lsr : Array Slot), jx_Wd E ph t.2.2.2.1 t.2.2.2.2 H → jx_F E s H locs → lv_has lsr (jx_mL x) (jx_lv E 0 t.2.1) → W p l e R s mm args below meth c H locs (t.2.2.2.1 - n0) (jx_SL t.2.2.2.1 - jx_SL n0) Q (F0 mm (jx_pc x t.1) lsr (t.2.2.1.map (jx_con E)))
def jx_K (E : jx_E) (ph : Bool) (xs : Nat → Int) (L : Int) (p : Program) (l : Launch) (e : Env) (R : Room) (s : State) (mm : MethodId) (args : Array Value) (below : List Frame) (meth : Method) (c : Code) (Q : State → Prop) (n0 x : Nat) (t t' : jx_S) : Prop :=
  jx_wf ph xs L x t' ∧ t.2.2.2.1 ≤ t'.2.2.2.1 ∧ (jx_C E ph xs L p R s mm args meth c x → n0 ≤ t.2.2.2.1 → t'.2.2.2.1 - n0 ≤ R.cells → jx_SL t'.2.2.2.1 - jx_SL n0 ≤ R.slots → jx_W E ph p l e R s mm args below meth c Q n0 x t' → jx_W E ph p l e R s mm args below meth c Q n0 x t)
theorem jk_dec {i : Nat} (h : jx_okR x i = true) {o : Instr} (ho : (jx_row x i).1 = o) (ht : jx_isT o = false) : decode (jx_mB x) (jx_pc x i) = .ok (o, jx_ln o) := by
  have h := (ji_and h).1
  unfold jx_okD at h
  split at h
  · rename_i o' n' hd
    obtain ⟨a, b⟩ := ji_and h
    have a := of_decide_eq_true a
    rw [ho] at a
    subst a
    rw [ht, Bool.false_or] at b
    rw [hd, ji_beq b]
  · cases h
theorem jk_decT {i : Nat} (h : jx_okR x i = true) {o : Instr} (ho : (jx_row x i).1 = o) : ∃ n, decode (jx_mB x) (jx_pc x i) = .ok (o, n) := by
  have h := (ji_and h).1
  unfold jx_okD at h
  split at h
  · rename_i o' n' hd
    obtain ⟨a, b⟩ := ji_and h
    have a := of_decide_eq_true a
    rw [ho] at a
    subst a
    exact ⟨n', hd⟩
  · cases h
theorem jk_ok {i i' : Nat} {ls : jx_L} {st st' : List jx_V} {n : Nat} {m : jx_M} (hwf : jx_wf ph xs L x (i, ls, st, n, m)) (hst : ∀ v ∈ st', jx_wV v) {pc' : Nat} (hpc : jx_pc x i' = pc')
    (hw : jx_C E ph xs L p R s mm args meth c x → ∀ (H : Heap) (locs : List Loc) (lsr : Array Slot), n - n0 ≤ R.cells → jx_SL n - jx_SL n0 ≤ R.slots → jx_Wd E ph n m H → jx_F E s H locs → lv_has lsr (jx_mL x) (jx_lv E 0 ls) → W p l e R s mm args below meth c H locs (n - n0) (jx_SL n - jx_SL n0) Q (F0 mm pc' lsr (st'.map (jx_con E))) → W p l e R s mm args below meth c H locs (n - n0) (jx_SL n - jx_SL n0) Q (F0 mm (jx_pc x i) lsr (st.map (jx_con E)))) :
    jx_K E ph xs L p l e R s mm args below meth c Q n0 x (i, ls, st, n, m) (i', ls, st', n, m) :=
  ⟨⟨hwf.1, hwf.2.1, hst, hwf.2.2.2⟩, Nat.le_refl _, fun C _ hc hs k H locs lsr h1 h2 h3 => hw C H locs lsr hc hs h1 h2 h3 (by have q := k H locs lsr h1 h2 h3; rw [← hpc]; exact q)⟩
theorem jk_st {i : Nat} {ls : jx_L} {st st' : List jx_V} {n a : Nat} {m : jx_M} {v : jx_V} (hwf : jx_wf ph xs L x (i, ls, st, n, m)) (hst : ∀ v ∈ st', jx_wV v) (hv : jx_wV v) (ha : a < jx_mL x) (hcl : ∀ b z, b + 1 = a → jx_nth ls b none ≠ some (xL z)) {pc' : Nat} (hpc : jx_pc x (i + 1) = pc')
    (hw : jx_C E ph xs L p R s mm args meth c x → ∀ (H : Heap) (locs : List Loc) (lsr : Array Slot), lv_has lsr (jx_mL x) (jx_lv E 0 ls) → (∀ lsr', lv_has lsr' (jx_mL x) ((a, jx_con E v) :: (jx_lv E 0 ls).filter (fun q => !(q.1 == a) && !(q.1 + 1 == a && q.2.category == 2))) → W p l e R s mm args below meth c H locs (n - n0) (jx_SL n - jx_SL n0) Q (F0 mm pc' lsr' (st'.map (jx_con E)))) → W p l e R s mm args below meth c H locs (n - n0) (jx_SL n - jx_SL n0) Q (F0 mm (jx_pc x i) lsr (st.map (jx_con E)))) :
    jx_K E ph xs L p l e R s mm args below meth c Q n0 x (i, ls, st, n, m) (i + 1, ls.set a (some v), st', n, m) := by
  have hl : a < ls.length := by rw [show ls.length = jx_mL x from hwf.2.1]; exact ha
  refine ⟨⟨fun k w hk => ?_, ?_, hst, hwf.2.2.2⟩, Nat.le_refl _, fun C _ hc hs k H locs lsr h1 h2 h3 => hw C H locs lsr h3 (fun lsr' h' => ?_)⟩
  · have hk : jx_nth (ls.set a (some v)) k none = some w := hk
    rw [jl_nth_set none (some v) ls a k hl] at hk
    by_cases e : k = a
    · rw [if_pos e] at hk; cases hk; exact hv
    · rw [if_neg e] at hk; exact hwf.1 k w hk
  · show (ls.set a (some v)).length = _
    rw [List.length_set]; exact hwf.2.1
  · have q := k H locs lsr' h1 h2 (jv_set hl hcl h')
    rw [← hpc]; exact q
theorem jw_cons {v : jx_V} {st : List jx_V} (h : ∀ w ∈ v :: st, jx_wV w) : jx_wV v ∧ ∀ w ∈ st, jx_wV w := List.forall_mem_cons.mp h
theorem jw_mk {v : jx_V} {st : List jx_V} (h1 : jx_wV v) (h2 : ∀ w ∈ st, jx_wV w) : ∀ w ∈ v :: st, jx_wV w := List.forall_mem_cons.mpr ⟨h1, h2⟩
set_option maxHeartbeats 1000000 in
theorem jo_iadd {i : Nat} {ls : jx_L} {st : List jx_V} {n : Nat} {m : jx_M} (hok : jx_okR x i = true) (hwf : jx_wf ph xs L x (i, ls, st, n, m)) {t' : jx_S} (ho : (jx_row x i).1 = .iadd) (h : jx_step ph (jx_row x i) (i, ls, st, n, m) = some (.inl t')) : jx_K E ph xs L p l e R s mm args below meth c Q n0 x (i, ls, st, n, m) t' := by
  have hS := hwf.2.2.1
  have hA := (ji_and hok).2
  have hd := jk_dec hok ho rfl
  unfold jx_okA at hA
  unfold jx_step jx_sem at h
  simp only [ho] at hA h
  obtain ⟨y, st1, e9, h9⟩ := ji_pI h
  clear h
  subst e9
  have h := h9
  clear h9
  obtain ⟨x0, st2, e9, h9⟩ := ji_pI h
  clear h
  subst e9
  have h := h9
  clear h9
  obtain ⟨hg, h9⟩ := ji_if h
  clear h
  have h := h9
  clear h9
  cases h
  obtain ⟨hy, hS⟩ := jw_cons hS
  obtain ⟨hx0, hS⟩ := jw_cons hS
  exact jk_ok hwf (jw_mk (hg) hS) (ji_beq hA) (fun ⟨hx, hb, hml, hown, hts, hnm, hG, hfr, hlo, hx9, hX⟩ H locs lsr _ _ _ _ _ k => lv_iadd hx hb hd (by rw [← jn_add]; exact k))
set_option maxHeartbeats 1000000 in
theorem jo_isub {i : Nat} {ls : jx_L} {st : List jx_V} {n : Nat} {m : jx_M} (hok : jx_okR x i = true) (hwf : jx_wf ph xs L x (i, ls, st, n, m)) {t' : jx_S} (ho : (jx_row x i).1 = .isub) (h : jx_step ph (jx_row x i) (i, ls, st, n, m) = some (.inl t')) : jx_K E ph xs L p l e R s mm args below meth c Q n0 x (i, ls, st, n, m) t' := by
  have hS := hwf.2.2.1
  have hA := (ji_and hok).2
  have hd := jk_dec hok ho rfl
  unfold jx_okA at hA
  unfold jx_step jx_sem at h
  simp only [ho] at hA h
  obtain ⟨y, st1, e9, h9⟩ := ji_pI h
  clear h
  subst e9
  have h := h9
  clear h9
  obtain ⟨x0, st2, e9, h9⟩ := ji_pI h
  clear h
  subst e9
  have h := h9
  clear h9
  obtain ⟨hg, h9⟩ := ji_if h
  clear h
  have h := h9
  clear h9
  cases h
  obtain ⟨hy, hS⟩ := jw_cons hS
  obtain ⟨hx0, hS⟩ := jw_cons hS
  exact jk_ok hwf (jw_mk (hg) hS) (ji_beq hA) (fun ⟨hx, hb, hml, hown, hts, hnm, hG, hfr, hlo, hx9, hX⟩ H locs lsr _ _ _ _ _ k => lv_isub hx hb hd (by rw [← jn_sub]; exact k))
set_option maxHeartbeats 1000000 in
theorem jo_imul {i : Nat} {ls : jx_L} {st : List jx_V} {n : Nat} {m : jx_M} (hok : jx_okR x i = true) (hwf : jx_wf ph xs L x (i, ls, st, n, m)) {t' : jx_S} (ho : (jx_row x i).1 = .imul) (h : jx_step ph (jx_row x i) (i, ls, st, n, m) = some (.inl t')) : jx_K E ph xs L p l e R s mm args below meth c Q n0 x (i, ls, st, n, m) t' := by
  have hS := hwf.2.2.1
  have hA := (ji_and hok).2
  have hd := jk_dec hok ho rfl
  unfold jx_okA at hA
  unfold jx_step jx_sem at h
  simp only [ho] at hA h
  obtain ⟨y, st1, e9, h9⟩ := ji_pI h
  clear h
  subst e9
  have h := h9
  clear h9
  obtain ⟨x0, st2, e9, h9⟩ := ji_pI h
  clear h
  subst e9
  have h := h9
  clear h9
  obtain ⟨hg, h9⟩ := ji_if h
  clear h
  have h := h9
  clear h9
  cases h
  obtain ⟨hy, hS⟩ := jw_cons hS
  obtain ⟨hx0, hS⟩ := jw_cons hS
  exact jk_ok hwf (jw_mk (hg) hS) (ji_beq hA) (fun ⟨hx, hb, hml, hown, hts, hnm, hG, hfr, hlo, hx9, hX⟩ H locs lsr _ _ _ _ _ k => lv_imul hx hb hd (by rw [← jn_mul]; exact k))
set_option maxHeartbeats 1000000 in
theorem jo_idiv {i : Nat} {ls : jx_L} {st : List jx_V} {n : Nat} {m : jx_M} (hok : jx_okR x i = true) (hwf : jx_wf ph xs L x (i, ls, st, n, m)) {t' : jx_S} (ho : (jx_row x i).1 = .idiv) (h : jx_step ph (jx_row x i) (i, ls, st, n, m) = some (.inl t')) : jx_K E ph xs L p l e R s mm args below meth c Q n0 x (i, ls, st, n, m) t' := by
  have hS := hwf.2.2.1
  have hA := (ji_and hok).2
  have hd := jk_dec hok ho rfl
  unfold jx_okA at hA
  unfold jx_step jx_sem at h
  simp only [ho] at hA h
  obtain ⟨y, st1, e9, h9⟩ := ji_pI h
  clear h
  subst e9
  have h := h9
  clear h9
  obtain ⟨x0, st2, e9, h9⟩ := ji_pI h
  clear h
  subst e9
  have h := h9
  clear h9
  obtain ⟨hg, h9⟩ := ji_if h
  clear h
  have h := h9
  clear h9
  cases h
  obtain ⟨hy, hS⟩ := jw_cons hS
  obtain ⟨hx0, hS⟩ := jw_cons hS
  exact jk_ok hwf (jw_mk (jn_div_in hx0 hg.1 hg.2) hS) (ji_beq hA) (fun ⟨hx, hb, hml, hown, hts, hnm, hG, hfr, hlo, hx9, hX⟩ H locs lsr _ _ _ _ _ k => lv_idiv hx hb hd (fun q => by have := (jn_eq0 hy).mp q; omega) (by rw [← jn_div hx0 hy hg.1 hg.2]; exact k))
set_option maxHeartbeats 1000000 in
theorem jo_irem {i : Nat} {ls : jx_L} {st : List jx_V} {n : Nat} {m : jx_M} (hok : jx_okR x i = true) (hwf : jx_wf ph xs L x (i, ls, st, n, m)) {t' : jx_S} (ho : (jx_row x i).1 = .irem) (h : jx_step ph (jx_row x i) (i, ls, st, n, m) = some (.inl t')) : jx_K E ph xs L p l e R s mm args below meth c Q n0 x (i, ls, st, n, m) t' := by
  have hS := hwf.2.2.1
  have hA := (ji_and hok).2
  have hd := jk_dec hok ho rfl
  unfold jx_okA at hA
  unfold jx_step jx_sem at h
  simp only [ho] at hA h
  obtain ⟨y, st1, e9, h9⟩ := ji_pI h
  clear h
  subst e9
  have h := h9
  clear h9
  obtain ⟨x0, st2, e9, h9⟩ := ji_pI h
  clear h
  subst e9
  have h := h9
  clear h9
  obtain ⟨hg, h9⟩ := ji_if h
  clear h
  have h := h9
  clear h9
  cases h
  obtain ⟨hy, hS⟩ := jw_cons hS
  obtain ⟨hx0, hS⟩ := jw_cons hS
  exact jk_ok hwf (jw_mk (jn_rem_in hy hg.2) hS) (ji_beq hA) (fun ⟨hx, hb, hml, hown, hts, hnm, hG, hfr, hlo, hx9, hX⟩ H locs lsr _ _ _ _ _ k => lv_irem hx hb hd (fun q => by have := (jn_eq0 hy).mp q; omega) (by rw [← jn_rem hx0 hy hg.1 hg.2]; exact k))
set_option maxHeartbeats 1000000 in
theorem jo_iand {i : Nat} {ls : jx_L} {st : List jx_V} {n : Nat} {m : jx_M} (hok : jx_okR x i = true) (hwf : jx_wf ph xs L x (i, ls, st, n, m)) {t' : jx_S} (ho : (jx_row x i).1 = .iand) (h : jx_step ph (jx_row x i) (i, ls, st, n, m) = some (.inl t')) : jx_K E ph xs L p l e R s mm args below meth c Q n0 x (i, ls, st, n, m) t' := by
  have hS := hwf.2.2.1
  have hA := (ji_and hok).2
  have hd := jk_dec hok ho rfl
  unfold jx_okA at hA
  unfold jx_step jx_sem at h
  simp only [ho] at hA h
  obtain ⟨y, st1, e9, h9⟩ := ji_pI h
  clear h
  subst e9
  have h := h9
  clear h9
  obtain ⟨x0, st2, e9, h9⟩ := ji_pI h
  clear h
  subst e9
  have h := h9
  clear h9
  cases h
  obtain ⟨hy, hS⟩ := jw_cons hS
  obtain ⟨hx0, hS⟩ := jw_cons hS
  exact jk_ok hwf (jw_mk (jn_rng _) hS) (ji_beq hA) (fun ⟨hx, hb, hml, hown, hts, hnm, hG, hfr, hlo, hx9, hX⟩ H locs lsr _ _ _ _ _ k => lv_iand hx hb hd (by have k := k; simp only [List.map_cons, jx_con, jx_iand, Int32.ofInt_toInt] at k; exact k))
set_option maxHeartbeats 1000000 in
theorem jo_ior {i : Nat} {ls : jx_L} {st : List jx_V} {n : Nat} {m : jx_M} (hok : jx_okR x i = true) (hwf : jx_wf ph xs L x (i, ls, st, n, m)) {t' : jx_S} (ho : (jx_row x i).1 = .ior) (h : jx_step ph (jx_row x i) (i, ls, st, n, m) = some (.inl t')) : jx_K E ph xs L p l e R s mm args below meth c Q n0 x (i, ls, st, n, m) t' := by
  have hS := hwf.2.2.1
  have hA := (ji_and hok).2
  have hd := jk_dec hok ho rfl
  unfold jx_okA at hA
  unfold jx_step jx_sem at h
  simp only [ho] at hA h
  obtain ⟨y, st1, e9, h9⟩ := ji_pI h
  clear h
  subst e9
  have h := h9
  clear h9
  obtain ⟨x0, st2, e9, h9⟩ := ji_pI h
  clear h
  subst e9
  have h := h9
  clear h9
  cases h
  obtain ⟨hy, hS⟩ := jw_cons hS
  obtain ⟨hx0, hS⟩ := jw_cons hS
  exact jk_ok hwf (jw_mk (jn_rng _) hS) (ji_beq hA) (fun ⟨hx, hb, hml, hown, hts, hnm, hG, hfr, hlo, hx9, hX⟩ H locs lsr _ _ _ _ _ k => lv_ior hx hb hd (by have k := k; simp only [List.map_cons, jx_con, jx_ior, Int32.ofInt_toInt] at k; exact k))
set_option maxHeartbeats 1000000 in
theorem jo_ixor {i : Nat} {ls : jx_L} {st : List jx_V} {n : Nat} {m : jx_M} (hok : jx_okR x i = true) (hwf : jx_wf ph xs L x (i, ls, st, n, m)) {t' : jx_S} (ho : (jx_row x i).1 = .ixor) (h : jx_step ph (jx_row x i) (i, ls, st, n, m) = some (.inl t')) : jx_K E ph xs L p l e R s mm args below meth c Q n0 x (i, ls, st, n, m) t' := by
  have hS := hwf.2.2.1
  have hA := (ji_and hok).2
  have hd := jk_dec hok ho rfl
  unfold jx_okA at hA
  unfold jx_step jx_sem at h
  simp only [ho] at hA h
  obtain ⟨y, st1, e9, h9⟩ := ji_pI h
  clear h
  subst e9
  have h := h9
  clear h9
  obtain ⟨x0, st2, e9, h9⟩ := ji_pI h
  clear h
  subst e9
  have h := h9
  clear h9
  cases h
  obtain ⟨hy, hS⟩ := jw_cons hS
  obtain ⟨hx0, hS⟩ := jw_cons hS
  exact jk_ok hwf (jw_mk (jn_rng _) hS) (ji_beq hA) (fun ⟨hx, hb, hml, hown, hts, hnm, hG, hfr, hlo, hx9, hX⟩ H locs lsr _ _ _ _ _ k => lv_ixor hx hb hd (by have k := k; simp only [List.map_cons, jx_con, jx_ixor, Int32.ofInt_toInt] at k; exact k))
set_option maxHeartbeats 1000000 in
theorem jo_ishl {i : Nat} {ls : jx_L} {st : List jx_V} {n : Nat} {m : jx_M} (hok : jx_okR x i = true) (hwf : jx_wf ph xs L x (i, ls, st, n, m)) {t' : jx_S} (ho : (jx_row x i).1 = .ishl) (h : jx_step ph (jx_row x i) (i, ls, st, n, m) = some (.inl t')) : jx_K E ph xs L p l e R s mm args below meth c Q n0 x (i, ls, st, n, m) t' := by
  have hS := hwf.2.2.1
  have hA := (ji_and hok).2
  have hd := jk_dec hok ho rfl
  unfold jx_okA at hA
  unfold jx_step jx_sem at h
  simp only [ho] at hA h
  obtain ⟨y, st1, e9, h9⟩ := ji_pI h
  clear h
  subst e9
  have h := h9
  clear h9
  obtain ⟨x0, st2, e9, h9⟩ := ji_pI h
  clear h
  subst e9
  have h := h9
  clear h9
  cases h
  obtain ⟨hy, hS⟩ := jw_cons hS
  obtain ⟨hx0, hS⟩ := jw_cons hS
  exact jk_ok hwf (jw_mk (jn_rng _) hS) (ji_beq hA) (fun ⟨hx, hb, hml, hown, hts, hnm, hG, hfr, hlo, hx9, hX⟩ H locs lsr _ _ _ _ _ k => lv_ishl hx hb hd (by have k := k; simp only [List.map_cons, jx_con, jx_ishl, Int32.ofInt_toInt] at k; exact k))
set_option maxHeartbeats 1000000 in
theorem jo_ishr {i : Nat} {ls : jx_L} {st : List jx_V} {n : Nat} {m : jx_M} (hok : jx_okR x i = true) (hwf : jx_wf ph xs L x (i, ls, st, n, m)) {t' : jx_S} (ho : (jx_row x i).1 = .ishr) (h : jx_step ph (jx_row x i) (i, ls, st, n, m) = some (.inl t')) : jx_K E ph xs L p l e R s mm args below meth c Q n0 x (i, ls, st, n, m) t' := by
  have hS := hwf.2.2.1
  have hA := (ji_and hok).2
  have hd := jk_dec hok ho rfl
  unfold jx_okA at hA
  unfold jx_step jx_sem at h
  simp only [ho] at hA h
  obtain ⟨y, st1, e9, h9⟩ := ji_pI h
  clear h
  subst e9
  have h := h9
  clear h9
  obtain ⟨x0, st2, e9, h9⟩ := ji_pI h
  clear h
  subst e9
  have h := h9
  clear h9
  cases h
  obtain ⟨hy, hS⟩ := jw_cons hS
  obtain ⟨hx0, hS⟩ := jw_cons hS
  exact jk_ok hwf (jw_mk (jn_rng _) hS) (ji_beq hA) (fun ⟨hx, hb, hml, hown, hts, hnm, hG, hfr, hlo, hx9, hX⟩ H locs lsr _ _ _ _ _ k => lv_ishr hx hb hd (by have k := k; simp only [List.map_cons, jx_con, jx_ishr, Int32.ofInt_toInt] at k; exact k))
set_option maxHeartbeats 1000000 in
theorem jo_iushr {i : Nat} {ls : jx_L} {st : List jx_V} {n : Nat} {m : jx_M} (hok : jx_okR x i = true) (hwf : jx_wf ph xs L x (i, ls, st, n, m)) {t' : jx_S} (ho : (jx_row x i).1 = .iushr) (h : jx_step ph (jx_row x i) (i, ls, st, n, m) = some (.inl t')) : jx_K E ph xs L p l e R s mm args below meth c Q n0 x (i, ls, st, n, m) t' := by
  have hS := hwf.2.2.1
  have hA := (ji_and hok).2
  have hd := jk_dec hok ho rfl
  unfold jx_okA at hA
  unfold jx_step jx_sem at h
  simp only [ho] at hA h
  obtain ⟨y, st1, e9, h9⟩ := ji_pI h
  clear h
  subst e9
  have h := h9
  clear h9
  obtain ⟨x0, st2, e9, h9⟩ := ji_pI h
  clear h
  subst e9
  have h := h9
  clear h9
  cases h
  obtain ⟨hy, hS⟩ := jw_cons hS
  obtain ⟨hx0, hS⟩ := jw_cons hS
  exact jk_ok hwf (jw_mk (jn_rng _) hS) (ji_beq hA) (fun ⟨hx, hb, hml, hown, hts, hnm, hG, hfr, hlo, hx9, hX⟩ H locs lsr _ _ _ _ _ k => lv_iushr hx hb hd rfl (by have k := k; simp only [List.map_cons, jx_con, jx_iushr, Int32.ofInt_toInt] at k; exact k))
set_option maxHeartbeats 1000000 in
theorem jo_ladd {i : Nat} {ls : jx_L} {st : List jx_V} {n : Nat} {m : jx_M} (hok : jx_okR x i = true) (hwf : jx_wf ph xs L x (i, ls, st, n, m)) {t' : jx_S} (ho : (jx_row x i).1 = .ladd) (h : jx_step ph (jx_row x i) (i, ls, st, n, m) = some (.inl t')) : jx_K E ph xs L p l e R s mm args below meth c Q n0 x (i, ls, st, n, m) t' := by
  have hS := hwf.2.2.1
  have hA := (ji_and hok).2
  have hd := jk_dec hok ho rfl
  unfold jx_okA at hA
  unfold jx_step jx_sem at h
  simp only [ho] at hA h
  obtain ⟨y, st1, e9, h9⟩ := ji_pL h
  clear h
  subst e9
  have h := h9
  clear h9
  obtain ⟨x0, st2, e9, h9⟩ := ji_pL h
  clear h
  subst e9
  have h := h9
  clear h9
  obtain ⟨hg, h9⟩ := ji_if h
  clear h
  have h := h9
  clear h9
  cases h
  obtain ⟨hy, hS⟩ := jw_cons hS
  obtain ⟨hx0, hS⟩ := jw_cons hS
  exact jk_ok hwf (jw_mk (hg) hS) (ji_beq hA) (fun ⟨hx, hb, hml, hown, hts, hnm, hG, hfr, hlo, hx9, hX⟩ H locs lsr _ _ _ _ _ k => lv_ladd hx hb hd (by rw [← jn_addL]; exact k))
set_option maxHeartbeats 1000000 in
theorem jo_land {i : Nat} {ls : jx_L} {st : List jx_V} {n : Nat} {m : jx_M} (hok : jx_okR x i = true) (hwf : jx_wf ph xs L x (i, ls, st, n, m)) {t' : jx_S} (ho : (jx_row x i).1 = .land) (h : jx_step ph (jx_row x i) (i, ls, st, n, m) = some (.inl t')) : jx_K E ph xs L p l e R s mm args below meth c Q n0 x (i, ls, st, n, m) t' := by
  have hS := hwf.2.2.1
  have hA := (ji_and hok).2
  have hd := jk_dec hok ho rfl
  unfold jx_okA at hA
  unfold jx_step jx_sem at h
  simp only [ho] at hA h
  obtain ⟨y, st1, e9, h9⟩ := ji_pL h
  clear h
  subst e9
  have h := h9
  clear h9
  obtain ⟨x0, st2, e9, h9⟩ := ji_pL h
  clear h
  subst e9
  have h := h9
  clear h9
  cases h
  obtain ⟨hy, hS⟩ := jw_cons hS
  obtain ⟨hx0, hS⟩ := jw_cons hS
  exact jk_ok hwf (jw_mk (jn_rngL _) hS) (ji_beq hA) (fun ⟨hx, hb, hml, hown, hts, hnm, hG, hfr, hlo, hx9, hX⟩ H locs lsr _ _ _ _ _ k => lv_land hx hb hd (by have k := k; simp only [List.map_cons, jx_con, jx_land, Int64.ofInt_toInt] at k; exact k))
set_option maxHeartbeats 1000000 in
theorem jo_lor {i : Nat} {ls : jx_L} {st : List jx_V} {n : Nat} {m : jx_M} (hok : jx_okR x i = true) (hwf : jx_wf ph xs L x (i, ls, st, n, m)) {t' : jx_S} (ho : (jx_row x i).1 = .lor) (h : jx_step ph (jx_row x i) (i, ls, st, n, m) = some (.inl t')) : jx_K E ph xs L p l e R s mm args below meth c Q n0 x (i, ls, st, n, m) t' := by
  have hS := hwf.2.2.1
  have hA := (ji_and hok).2
  have hd := jk_dec hok ho rfl
  unfold jx_okA at hA
  unfold jx_step jx_sem at h
  simp only [ho] at hA h
  obtain ⟨y, st1, e9, h9⟩ := ji_pL h
  clear h
  subst e9
  have h := h9
  clear h9
  obtain ⟨x0, st2, e9, h9⟩ := ji_pL h
  clear h
  subst e9
  have h := h9
  clear h9
  cases h
  obtain ⟨hy, hS⟩ := jw_cons hS
  obtain ⟨hx0, hS⟩ := jw_cons hS
  exact jk_ok hwf (jw_mk (jn_rngL _) hS) (ji_beq hA) (fun ⟨hx, hb, hml, hown, hts, hnm, hG, hfr, hlo, hx9, hX⟩ H locs lsr _ _ _ _ _ k => lv_lor hx hb hd (by have k := k; simp only [List.map_cons, jx_con, jx_lor, Int64.ofInt_toInt] at k; exact k))
set_option maxHeartbeats 1000000 in
theorem jo_lshl {i : Nat} {ls : jx_L} {st : List jx_V} {n : Nat} {m : jx_M} (hok : jx_okR x i = true) (hwf : jx_wf ph xs L x (i, ls, st, n, m)) {t' : jx_S} (ho : (jx_row x i).1 = .lshl) (h : jx_step ph (jx_row x i) (i, ls, st, n, m) = some (.inl t')) : jx_K E ph xs L p l e R s mm args below meth c Q n0 x (i, ls, st, n, m) t' := by
  have hS := hwf.2.2.1
  have hA := (ji_and hok).2
  have hd := jk_dec hok ho rfl
  unfold jx_okA at hA
  unfold jx_step jx_sem at h
  simp only [ho] at hA h
  obtain ⟨y, st1, e9, h9⟩ := ji_pI h
  clear h
  subst e9
  have h := h9
  clear h9
  obtain ⟨x0, st2, e9, h9⟩ := ji_pL h
  clear h
  subst e9
  have h := h9
  clear h9
  cases h
  obtain ⟨hy, hS⟩ := jw_cons hS
  obtain ⟨hx0, hS⟩ := jw_cons hS
  exact jk_ok hwf (jw_mk (jn_rngL _) hS) (ji_beq hA) (fun ⟨hx, hb, hml, hown, hts, hnm, hG, hfr, hlo, hx9, hX⟩ H locs lsr _ _ _ _ _ k => lv_lshl hx hb hd rfl (by have k := k; simp only [List.map_cons, jx_con, jx_lshl, Int64.ofInt_toInt] at k; exact k))
set_option maxHeartbeats 1000000 in
theorem jo_lshr {i : Nat} {ls : jx_L} {st : List jx_V} {n : Nat} {m : jx_M} (hok : jx_okR x i = true) (hwf : jx_wf ph xs L x (i, ls, st, n, m)) {t' : jx_S} (ho : (jx_row x i).1 = .lshr) (h : jx_step ph (jx_row x i) (i, ls, st, n, m) = some (.inl t')) : jx_K E ph xs L p l e R s mm args below meth c Q n0 x (i, ls, st, n, m) t' := by
  have hS := hwf.2.2.1
  have hA := (ji_and hok).2
  have hd := jk_dec hok ho rfl
  unfold jx_okA at hA
  unfold jx_step jx_sem at h
  simp only [ho] at hA h
  obtain ⟨y, st1, e9, h9⟩ := ji_pI h
  clear h
  subst e9
  have h := h9
  clear h9
  obtain ⟨x0, st2, e9, h9⟩ := ji_pL h
  clear h
  subst e9
  have h := h9
  clear h9
  cases h
  obtain ⟨hy, hS⟩ := jw_cons hS
  obtain ⟨hx0, hS⟩ := jw_cons hS
  exact jk_ok hwf (jw_mk (jn_rngL _) hS) (ji_beq hA) (fun ⟨hx, hb, hml, hown, hts, hnm, hG, hfr, hlo, hx9, hX⟩ H locs lsr _ _ _ _ _ k => lv_lshr hx hb hd rfl (by have k := k; simp only [List.map_cons, jx_con, jx_lshr, Int64.ofInt_toInt] at k; exact k))
set_option maxHeartbeats 1000000 in
theorem jo_lushr {i : Nat} {ls : jx_L} {st : List jx_V} {n : Nat} {m : jx_M} (hok : jx_okR x i = true) (hwf : jx_wf ph xs L x (i, ls, st, n, m)) {t' : jx_S} (ho : (jx_row x i).1 = .lushr) (h : jx_step ph (jx_row x i) (i, ls, st, n, m) = some (.inl t')) : jx_K E ph xs L p l e R s mm args below meth c Q n0 x (i, ls, st, n, m) t' := by
  have hS := hwf.2.2.1
  have hA := (ji_and hok).2
  have hd := jk_dec hok ho rfl
  unfold jx_okA at hA
  unfold jx_step jx_sem at h
  simp only [ho] at hA h
  obtain ⟨y, st1, e9, h9⟩ := ji_pI h
  clear h
  subst e9
  have h := h9
  clear h9
  obtain ⟨x0, st2, e9, h9⟩ := ji_pL h
  clear h
  subst e9
  have h := h9
  clear h9
  cases h
  obtain ⟨hy, hS⟩ := jw_cons hS
  obtain ⟨hx0, hS⟩ := jw_cons hS
  exact jk_ok hwf (jw_mk (jn_rngL _) hS) (ji_beq hA) (fun ⟨hx, hb, hml, hown, hts, hnm, hG, hfr, hlo, hx9, hX⟩ H locs lsr _ _ _ _ _ k => lv_lushr hx hb hd rfl (by have k := k; simp only [List.map_cons, jx_con, jx_lushr, Int64.ofInt_toInt] at k; exact k))
set_option maxHeartbeats 1000000 in
theorem jo_lcmp {i : Nat} {ls : jx_L} {st : List jx_V} {n : Nat} {m : jx_M} (hok : jx_okR x i = true) (hwf : jx_wf ph xs L x (i, ls, st, n, m)) {t' : jx_S} (ho : (jx_row x i).1 = .lcmp) (h : jx_step ph (jx_row x i) (i, ls, st, n, m) = some (.inl t')) : jx_K E ph xs L p l e R s mm args below meth c Q n0 x (i, ls, st, n, m) t' := by
  have hS := hwf.2.2.1
  have hA := (ji_and hok).2
  have hd := jk_dec hok ho rfl
  unfold jx_okA at hA
  unfold jx_step jx_sem at h
  simp only [ho] at hA h
  obtain ⟨y, st1, e9, h9⟩ := ji_pL h
  clear h
  subst e9
  have h := h9
  clear h9
  obtain ⟨x0, st2, e9, h9⟩ := ji_pL h
  clear h
  subst e9
  have h := h9
  clear h9
  cases h
  obtain ⟨hy, hS⟩ := jw_cons hS
  obtain ⟨hx0, hS⟩ := jw_cons hS
  exact jk_ok hwf (jw_mk (jn_lcmp_in _ _) hS) (ji_beq hA) (fun ⟨hx, hb, hml, hown, hts, hnm, hG, hfr, hlo, hx9, hX⟩ H locs lsr _ _ _ _ _ k => W.lcmp hx hb hd (by rw [jn_lcmp hx0 hy]; exact k))
set_option maxHeartbeats 1000000 in
theorem jo_ineg {i : Nat} {ls : jx_L} {st : List jx_V} {n : Nat} {m : jx_M} (hok : jx_okR x i = true) (hwf : jx_wf ph xs L x (i, ls, st, n, m)) {t' : jx_S} (ho : (jx_row x i).1 = .ineg) (h : jx_step ph (jx_row x i) (i, ls, st, n, m) = some (.inl t')) : jx_K E ph xs L p l e R s mm args below meth c Q n0 x (i, ls, st, n, m) t' := by
  have hS := hwf.2.2.1
  have hA := (ji_and hok).2
  have hd := jk_dec hok ho rfl
  unfold jx_okA at hA
  unfold jx_step jx_sem at h
  simp only [ho] at hA h
  obtain ⟨x0, st1, e9, h9⟩ := ji_pI h
  clear h
  subst e9
  have h := h9
  clear h9
  obtain ⟨hg, h9⟩ := ji_if h
  clear h
  have h := h9
  clear h9
  cases h
  obtain ⟨hx0, hS⟩ := jw_cons hS
  exact jk_ok hwf (jw_mk (hg) hS) (ji_beq hA) (fun ⟨hx, hb, hml, hown, hts, hnm, hG, hfr, hlo, hx9, hX⟩ H locs lsr _ _ _ _ _ k => lv_ineg hx hb hd (by have k := k; simp only [List.map_cons, jx_con, jn_neg] at k; first | exact k | (rw [show (0 : Int32) - Int32.ofInt x0 = -Int32.ofInt x0 by simp]; exact k)))
set_option maxHeartbeats 1000000 in
theorem jo_i2l {i : Nat} {ls : jx_L} {st : List jx_V} {n : Nat} {m : jx_M} (hok : jx_okR x i = true) (hwf : jx_wf ph xs L x (i, ls, st, n, m)) {t' : jx_S} (ho : (jx_row x i).1 = .i2l) (h : jx_step ph (jx_row x i) (i, ls, st, n, m) = some (.inl t')) : jx_K E ph xs L p l e R s mm args below meth c Q n0 x (i, ls, st, n, m) t' := by
  have hS := hwf.2.2.1
  have hA := (ji_and hok).2
  have hd := jk_dec hok ho rfl
  unfold jx_okA at hA
  unfold jx_step jx_sem at h
  simp only [ho] at hA h
  obtain ⟨x0, st1, e9, h9⟩ := ji_pI h
  clear h
  subst e9
  have h := h9
  clear h9
  cases h
  obtain ⟨hx0, hS⟩ := jw_cons hS
  exact jk_ok hwf (jw_mk ((by have q : jx_in x0 := hx0; show jx_inL x0; omega)) hS) (ji_beq hA) (fun ⟨hx, hb, hml, hown, hts, hnm, hG, hfr, hlo, hx9, hX⟩ H locs lsr _ _ _ _ _ k => lv_i2l hx hb hd (jn_i2l hx0) k)
set_option maxHeartbeats 1000000 in
theorem jo_l2i {i : Nat} {ls : jx_L} {st : List jx_V} {n : Nat} {m : jx_M} (hok : jx_okR x i = true) (hwf : jx_wf ph xs L x (i, ls, st, n, m)) {t' : jx_S} (ho : (jx_row x i).1 = .l2i) (h : jx_step ph (jx_row x i) (i, ls, st, n, m) = some (.inl t')) : jx_K E ph xs L p l e R s mm args below meth c Q n0 x (i, ls, st, n, m) t' := by
  have hS := hwf.2.2.1
  have hA := (ji_and hok).2
  have hd := jk_dec hok ho rfl
  unfold jx_okA at hA
  unfold jx_step jx_sem at h
  simp only [ho] at hA h
  obtain ⟨x0, st1, e9, h9⟩ := ji_pL h
  clear h
  subst e9
  have h := h9
  clear h9
  cases h
  obtain ⟨hx0, hS⟩ := jw_cons hS
  exact jk_ok hwf (jw_mk (jn_rng _) hS) (ji_beq hA) (fun ⟨hx, hb, hml, hown, hts, hnm, hG, hfr, hlo, hx9, hX⟩ H locs lsr _ _ _ _ _ k => lv_l2i hx hb hd rfl (by have k := k; simp only [List.map_cons, jx_con, jx_l2i, Int32.ofInt_toInt] at k; exact k))
set_option maxHeartbeats 1000000 in
theorem jo_i2b {i : Nat} {ls : jx_L} {st : List jx_V} {n : Nat} {m : jx_M} (hok : jx_okR x i = true) (hwf : jx_wf ph xs L x (i, ls, st, n, m)) {t' : jx_S} (ho : (jx_row x i).1 = .i2b) (h : jx_step ph (jx_row x i) (i, ls, st, n, m) = some (.inl t')) : jx_K E ph xs L p l e R s mm args below meth c Q n0 x (i, ls, st, n, m) t' := by
  have hS := hwf.2.2.1
  have hA := (ji_and hok).2
  have hd := jk_dec hok ho rfl
  unfold jx_okA at hA
  unfold jx_step jx_sem at h
  simp only [ho] at hA h
  obtain ⟨x0, st1, e9, h9⟩ := ji_pI h
  clear h
  subst e9
  have h := h9
  clear h9
  cases h
  obtain ⟨hx0, hS⟩ := jw_cons hS
  exact jk_ok hwf (jw_mk (jn_rng _) hS) (ji_beq hA) (fun ⟨hx, hb, hml, hown, hts, hnm, hG, hfr, hlo, hx9, hX⟩ H locs lsr _ _ _ _ _ k => lv_i2b hx hb hd rfl (by have k := k; simp only [List.map_cons, jx_con, jx_i2b, Int32.ofInt_toInt] at k; exact k))
set_option maxHeartbeats 1000000 in
theorem jo_i2s {i : Nat} {ls : jx_L} {st : List jx_V} {n : Nat} {m : jx_M} (hok : jx_okR x i = true) (hwf : jx_wf ph xs L x (i, ls, st, n, m)) {t' : jx_S} (ho : (jx_row x i).1 = .i2s) (h : jx_step ph (jx_row x i) (i, ls, st, n, m) = some (.inl t')) : jx_K E ph xs L p l e R s mm args below meth c Q n0 x (i, ls, st, n, m) t' := by
  have hS := hwf.2.2.1
  have hA := (ji_and hok).2
  have hd := jk_dec hok ho rfl
  unfold jx_okA at hA
  unfold jx_step jx_sem at h
  simp only [ho] at hA h
  obtain ⟨x0, st1, e9, h9⟩ := ji_pI h
  clear h
  subst e9
  have h := h9
  clear h9
  cases h
  obtain ⟨hx0, hS⟩ := jw_cons hS
  exact jk_ok hwf (jw_mk (jn_rng _) hS) (ji_beq hA) (fun ⟨hx, hb, hml, hown, hts, hnm, hG, hfr, hlo, hx9, hX⟩ H locs lsr _ _ _ _ _ k => lv_i2s hx hb hd rfl (by have k := k; simp only [List.map_cons, jx_con, jx_i2s, Int32.ofInt_toInt] at k; exact k))
set_option maxHeartbeats 1000000 in
theorem jo_iconst {i : Nat} {ls : jx_L} {st : List jx_V} {n : Nat} {m : jx_M} (hok : jx_okR x i = true) (hwf : jx_wf ph xs L x (i, ls, st, n, m)) {t' : jx_S} {k0 : Int} (ho : (jx_row x i).1 = .iconst k0) (h : jx_step ph (jx_row x i) (i, ls, st, n, m) = some (.inl t')) : jx_K E ph xs L p l e R s mm args below meth c Q n0 x (i, ls, st, n, m) t' := by
  have hS := hwf.2.2.1
  have hA := (ji_and hok).2
  have hd := jk_dec hok ho rfl
  unfold jx_okA at hA
  unfold jx_step jx_sem at h
  simp only [ho] at hA h
  obtain ⟨hA, hpc⟩ := ji_and hA
  have hpc := ji_beq hpc
  have hA := of_decide_eq_true hA
  cases h
  exact jk_ok hwf (jw_mk ((by rw [hA.1]; exact hA.2)) hS) hpc (fun ⟨hx, hb, hml, hown, hts, hnm, hG, hfr, hlo, hx9, hX⟩ H locs lsr _ _ _ _ _ k => lv_iconst hx hb hd (by rw [← hA.1]) k)
set_option maxHeartbeats 1000000 in
theorem jo_bipush {i : Nat} {ls : jx_L} {st : List jx_V} {n : Nat} {m : jx_M} (hok : jx_okR x i = true) (hwf : jx_wf ph xs L x (i, ls, st, n, m)) {t' : jx_S} {k0 : Int} (ho : (jx_row x i).1 = .bipush k0) (h : jx_step ph (jx_row x i) (i, ls, st, n, m) = some (.inl t')) : jx_K E ph xs L p l e R s mm args below meth c Q n0 x (i, ls, st, n, m) t' := by
  have hS := hwf.2.2.1
  have hA := (ji_and hok).2
  have hd := jk_dec hok ho rfl
  unfold jx_okA at hA
  unfold jx_step jx_sem at h
  simp only [ho] at hA h
  obtain ⟨hA, hpc⟩ := ji_and hA
  have hpc := ji_beq hpc
  have hA := of_decide_eq_true hA
  cases h
  exact jk_ok hwf (jw_mk ((by rw [hA.1]; exact hA.2.2)) hS) hpc (fun ⟨hx, hb, hml, hown, hts, hnm, hG, hfr, hlo, hx9, hX⟩ H locs lsr _ _ _ _ _ k => lv_bipush hx hb hd (by rw [hA.2.1, ← hA.1]) k)
set_option maxHeartbeats 1000000 in
theorem jo_sipush {i : Nat} {ls : jx_L} {st : List jx_V} {n : Nat} {m : jx_M} (hok : jx_okR x i = true) (hwf : jx_wf ph xs L x (i, ls, st, n, m)) {t' : jx_S} {k0 : Int} (ho : (jx_row x i).1 = .sipush k0) (h : jx_step ph (jx_row x i) (i, ls, st, n, m) = some (.inl t')) : jx_K E ph xs L p l e R s mm args below meth c Q n0 x (i, ls, st, n, m) t' := by
  have hS := hwf.2.2.1
  have hA := (ji_and hok).2
  have hd := jk_dec hok ho rfl
  unfold jx_okA at hA
  unfold jx_step jx_sem at h
  simp only [ho] at hA h
  obtain ⟨hA, hpc⟩ := ji_and hA
  have hpc := ji_beq hpc
  have hA := of_decide_eq_true hA
  cases h
  exact jk_ok hwf (jw_mk ((by rw [hA.1]; exact hA.2.2)) hS) hpc (fun ⟨hx, hb, hml, hown, hts, hnm, hG, hfr, hlo, hx9, hX⟩ H locs lsr _ _ _ _ _ k => lv_sipush hx hb hd (by rw [hA.2.1, ← hA.1]) k)
set_option maxHeartbeats 1000000 in
theorem jo_lconst {i : Nat} {ls : jx_L} {st : List jx_V} {n : Nat} {m : jx_M} (hok : jx_okR x i = true) (hwf : jx_wf ph xs L x (i, ls, st, n, m)) {t' : jx_S} {k0 : Fin 2} (ho : (jx_row x i).1 = .lconst k0) (h : jx_step ph (jx_row x i) (i, ls, st, n, m) = some (.inl t')) : jx_K E ph xs L p l e R s mm args below meth c Q n0 x (i, ls, st, n, m) t' := by
  have hS := hwf.2.2.1
  have hA := (ji_and hok).2
  have hd := jk_dec hok ho rfl
  unfold jx_okA at hA
  unfold jx_step jx_sem at h
  simp only [ho] at hA h
  obtain ⟨hA, hpc⟩ := ji_and hA
  have hpc := ji_beq hpc
  have hA := of_decide_eq_true hA
  cases h
  exact jk_ok hwf (jw_mk (hA.2) hS) hpc (fun ⟨hx, hb, hml, hown, hts, hnm, hG, hfr, hlo, hx9, hX⟩ H locs lsr _ _ _ _ _ k => lv_lconst hx hb hd hA.1 k)
set_option maxHeartbeats 1000000 in
theorem jo_ldc {i : Nat} {ls : jx_L} {st : List jx_V} {n : Nat} {m : jx_M} (hok : jx_okR x i = true) (hwf : jx_wf ph xs L x (i, ls, st, n, m)) {t' : jx_S} {k0 : Nat} (ho : (jx_row x i).1 = .ldc k0) (h : jx_step ph (jx_row x i) (i, ls, st, n, m) = some (.inl t')) : jx_K E ph xs L p l e R s mm args below meth c Q n0 x (i, ls, st, n, m) t' := by
  have hS := hwf.2.2.1
  have hA := (ji_and hok).2
  have hd := jk_dec hok ho rfl
  unfold jx_okA at hA
  unfold jx_step jx_sem at h
  simp only [ho] at hA h
  obtain ⟨hA, hpc⟩ := ji_and hA
  obtain ⟨hB, hpc⟩ := ji_and hpc
  have hpc := ji_beq hpc
  have hB := of_decide_eq_true hB
  cases h
  exact jk_ok hwf (jw_mk (hB) hS) hpc (fun ⟨hx, hb, hml, hown, hts, hnm, hG, hfr, hlo, hx9, hX⟩ H locs lsr _ _ _ _ _ k => lv_ldc hx hb hown (hts _ (jx_at_mem hA)) hd k)
set_option maxHeartbeats 1000000 in
theorem jo_ldcw {i : Nat} {ls : jx_L} {st : List jx_V} {n : Nat} {m : jx_M} (hok : jx_okR x i = true) (hwf : jx_wf ph xs L x (i, ls, st, n, m)) {t' : jx_S} {k0 : Nat} (ho : (jx_row x i).1 = .ldc_w k0) (h : jx_step ph (jx_row x i) (i, ls, st, n, m) = some (.inl t')) : jx_K E ph xs L p l e R s mm args below meth c Q n0 x (i, ls, st, n, m) t' := by
  have hS := hwf.2.2.1
  have hA := (ji_and hok).2
  have hd := jk_dec hok ho rfl
  unfold jx_okA at hA
  unfold jx_step jx_sem at h
  simp only [ho] at hA h
  obtain ⟨hA, hpc⟩ := ji_and hA
  obtain ⟨hB, hpc⟩ := ji_and hpc
  have hpc := ji_beq hpc
  have hB := of_decide_eq_true hB
  cases h
  exact jk_ok hwf (jw_mk (hB) hS) hpc (fun ⟨hx, hb, hml, hown, hts, hnm, hG, hfr, hlo, hx9, hX⟩ H locs lsr _ _ _ _ _ k => lv_ldcw hx hb hown (hts _ (jx_at_mem hA)) hd k)
set_option maxHeartbeats 1000000 in
theorem jo_ldc2 {i : Nat} {ls : jx_L} {st : List jx_V} {n : Nat} {m : jx_M} (hok : jx_okR x i = true) (hwf : jx_wf ph xs L x (i, ls, st, n, m)) {t' : jx_S} {k0 : Nat} (ho : (jx_row x i).1 = .ldc2_w k0) (h : jx_step ph (jx_row x i) (i, ls, st, n, m) = some (.inl t')) : jx_K E ph xs L p l e R s mm args below meth c Q n0 x (i, ls, st, n, m) t' := by
  have hS := hwf.2.2.1
  have hA := (ji_and hok).2
  have hd := jk_dec hok ho rfl
  unfold jx_okA at hA
  unfold jx_step jx_sem at h
  simp only [ho] at hA h
  obtain ⟨hA, hpc⟩ := ji_and hA
  obtain ⟨hB, hpc⟩ := ji_and hpc
  have hpc := ji_beq hpc
  have hB := of_decide_eq_true hB
  cases h
  exact jk_ok hwf (jw_mk (hB) hS) hpc (fun ⟨hx, hb, hml, hown, hts, hnm, hG, hfr, hlo, hx9, hX⟩ H locs lsr _ _ _ _ _ k => lv_ldc2 hx hb hown (hts _ (jx_at_mem hA)) hd k)
set_option maxHeartbeats 1000000 in
theorem jo_iload_n {i : Nat} {ls : jx_L} {st : List jx_V} {n : Nat} {m : jx_M} (hok : jx_okR x i = true) (hwf : jx_wf ph xs L x (i, ls, st, n, m)) {t' : jx_S} {k0 : Fin 4} (ho : (jx_row x i).1 = .iload_n k0) (h : jx_step ph (jx_row x i) (i, ls, st, n, m) = some (.inl t')) : jx_K E ph xs L p l e R s mm args below meth c Q n0 x (i, ls, st, n, m) t' := by
  have hS := hwf.2.2.1
  have hA := (ji_and hok).2
  have hd := jk_dec hok ho rfl
  unfold jx_okA at hA
  unfold jx_step jx_sem at h
  simp only [ho] at hA h
  obtain ⟨hA, hpc⟩ := ji_and hA
  have hpc := ji_beq hpc
  have hA := ji_beq hA
  obtain ⟨x0, hv, h9⟩ := ji_lI h
  clear h
  have h := h9
  clear h9
  cases h
  have hw := hwf.1 _ _ hv
  exact jk_ok hwf (jw_mk hw hS) hpc (fun ⟨hx, hb, hml, hown, hts, hnm, hG, hfr, hlo, hx9, hX⟩ H locs lsr _ _ _ _ h3 k => lv_iload_n hx hb hd hA (jv_at h3 hv) k)
set_option maxHeartbeats 1000000 in
theorem jo_iload {i : Nat} {ls : jx_L} {st : List jx_V} {n : Nat} {m : jx_M} (hok : jx_okR x i = true) (hwf : jx_wf ph xs L x (i, ls, st, n, m)) {t' : jx_S} {k0 : Nat} (ho : (jx_row x i).1 = .iload k0) (h : jx_step ph (jx_row x i) (i, ls, st, n, m) = some (.inl t')) : jx_K E ph xs L p l e R s mm args below meth c Q n0 x (i, ls, st, n, m) t' := by
  have hS := hwf.2.2.1
  have hA := (ji_and hok).2
  have hd := jk_dec hok ho rfl
  unfold jx_okA at hA
  unfold jx_step jx_sem at h
  simp only [ho] at hA h
  obtain ⟨hA, hpc⟩ := ji_and hA
  have hpc := ji_beq hpc
  have hA := ji_beq hA
  obtain ⟨x0, hv, h9⟩ := ji_lI h
  clear h
  have h := h9
  clear h9
  cases h
  have hw := hwf.1 _ _ hv
  exact jk_ok hwf (jw_mk hw hS) hpc (fun ⟨hx, hb, hml, hown, hts, hnm, hG, hfr, hlo, hx9, hX⟩ H locs lsr _ _ _ _ h3 k => lv_iload hx hb hd (by rw [hA]; exact jv_at h3 hv) k)
set_option maxHeartbeats 1000000 in
theorem jo_lload_n {i : Nat} {ls : jx_L} {st : List jx_V} {n : Nat} {m : jx_M} (hok : jx_okR x i = true) (hwf : jx_wf ph xs L x (i, ls, st, n, m)) {t' : jx_S} {k0 : Fin 4} (ho : (jx_row x i).1 = .lload_n k0) (h : jx_step ph (jx_row x i) (i, ls, st, n, m) = some (.inl t')) : jx_K E ph xs L p l e R s mm args below meth c Q n0 x (i, ls, st, n, m) t' := by
  have hS := hwf.2.2.1
  have hA := (ji_and hok).2
  have hd := jk_dec hok ho rfl
  unfold jx_okA at hA
  unfold jx_step jx_sem at h
  simp only [ho] at hA h
  obtain ⟨hA, hpc⟩ := ji_and hA
  have hpc := ji_beq hpc
  have hA := ji_beq hA
  obtain ⟨x0, hv, h9⟩ := ji_lL h
  clear h
  have h := h9
  clear h9
  cases h
  have hw := hwf.1 _ _ hv
  exact jk_ok hwf (jw_mk hw hS) hpc (fun ⟨hx, hb, hml, hown, hts, hnm, hG, hfr, hlo, hx9, hX⟩ H locs lsr _ _ _ _ h3 k => lv_lload_n hx hb hd hA (jv_at h3 hv) k)
set_option maxHeartbeats 1000000 in
theorem jo_lload {i : Nat} {ls : jx_L} {st : List jx_V} {n : Nat} {m : jx_M} (hok : jx_okR x i = true) (hwf : jx_wf ph xs L x (i, ls, st, n, m)) {t' : jx_S} {k0 : Nat} (ho : (jx_row x i).1 = .lload k0) (h : jx_step ph (jx_row x i) (i, ls, st, n, m) = some (.inl t')) : jx_K E ph xs L p l e R s mm args below meth c Q n0 x (i, ls, st, n, m) t' := by
  have hS := hwf.2.2.1
  have hA := (ji_and hok).2
  have hd := jk_dec hok ho rfl
  unfold jx_okA at hA
  unfold jx_step jx_sem at h
  simp only [ho] at hA h
  obtain ⟨hA, hpc⟩ := ji_and hA
  have hpc := ji_beq hpc
  have hA := ji_beq hA
  obtain ⟨x0, hv, h9⟩ := ji_lL h
  clear h
  have h := h9
  clear h9
  cases h
  have hw := hwf.1 _ _ hv
  exact jk_ok hwf (jw_mk hw hS) hpc (fun ⟨hx, hb, hml, hown, hts, hnm, hG, hfr, hlo, hx9, hX⟩ H locs lsr _ _ _ _ h3 k => lv_lload hx hb hd (by rw [hA]; exact jv_at h3 hv) k)
set_option maxHeartbeats 1000000 in
theorem jo_aload_n {i : Nat} {ls : jx_L} {st : List jx_V} {n : Nat} {m : jx_M} (hok : jx_okR x i = true) (hwf : jx_wf ph xs L x (i, ls, st, n, m)) {t' : jx_S} {k0 : Fin 4} (ho : (jx_row x i).1 = .aload_n k0) (h : jx_step ph (jx_row x i) (i, ls, st, n, m) = some (.inl t')) : jx_K E ph xs L p l e R s mm args below meth c Q n0 x (i, ls, st, n, m) t' := by
  have hS := hwf.2.2.1
  have hA := (ji_and hok).2
  have hd := jk_dec hok ho rfl
  unfold jx_okA at hA
  unfold jx_step jx_sem at h
  simp only [ho] at hA h
  obtain ⟨hA, hpc⟩ := ji_and hA
  have hpc := ji_beq hpc
  have hA := ji_beq hA
  obtain ⟨s0, j0, hv, h9⟩ := ji_lA h
  clear h
  have h := h9
  clear h9
  cases h
  have hw := hwf.1 _ _ hv
  exact jk_ok hwf (jw_mk hw hS) hpc (fun ⟨hx, hb, hml, hown, hts, hnm, hG, hfr, hlo, hx9, hX⟩ H locs lsr _ _ _ _ h3 k => lv_aload_n hx hb hd hA (jv_at h3 hv) k)
set_option maxHeartbeats 1000000 in
theorem jo_aload {i : Nat} {ls : jx_L} {st : List jx_V} {n : Nat} {m : jx_M} (hok : jx_okR x i = true) (hwf : jx_wf ph xs L x (i, ls, st, n, m)) {t' : jx_S} {k0 : Nat} (ho : (jx_row x i).1 = .aload k0) (h : jx_step ph (jx_row x i) (i, ls, st, n, m) = some (.inl t')) : jx_K E ph xs L p l e R s mm args below meth c Q n0 x (i, ls, st, n, m) t' := by
  have hS := hwf.2.2.1
  have hA := (ji_and hok).2
  have hd := jk_dec hok ho rfl
  unfold jx_okA at hA
  unfold jx_step jx_sem at h
  simp only [ho] at hA h
  obtain ⟨hA, hpc⟩ := ji_and hA
  have hpc := ji_beq hpc
  have hA := ji_beq hA
  obtain ⟨s0, j0, hv, h9⟩ := ji_lA h
  clear h
  have h := h9
  clear h9
  cases h
  have hw := hwf.1 _ _ hv
  exact jk_ok hwf (jw_mk hw hS) hpc (fun ⟨hx, hb, hml, hown, hts, hnm, hG, hfr, hlo, hx9, hX⟩ H locs lsr _ _ _ _ h3 k => lv_aload hx hb hd (by rw [hA]; exact jv_at h3 hv) k)
set_option maxHeartbeats 1000000 in
theorem jo_istore_n {i : Nat} {ls : jx_L} {st : List jx_V} {n : Nat} {m : jx_M} (hok : jx_okR x i = true) (hwf : jx_wf ph xs L x (i, ls, st, n, m)) {t' : jx_S} {k0 : Fin 4} (ho : (jx_row x i).1 = .istore_n k0) (h : jx_step ph (jx_row x i) (i, ls, st, n, m) = some (.inl t')) : jx_K E ph xs L p l e R s mm args below meth c Q n0 x (i, ls, st, n, m) t' := by
  have hS := hwf.2.2.1
  have hA := (ji_and hok).2
  have hd := jk_dec hok ho rfl
  unfold jx_okA at hA
  unfold jx_step jx_sem at h
  simp only [ho] at hA h
  obtain ⟨hA, hpc⟩ := ji_and hA
  obtain ⟨hB, hpc⟩ := ji_and hpc
  have hpc := ji_beq hpc
  have hA := ji_beq hA
  have hB := Nat.le_of_ble_eq_true hB
  obtain ⟨x0, st1, e9, h9⟩ := ji_pI h
  clear h
  subst e9
  have h := h9
  clear h9
  obtain ⟨hcl, h9⟩ := ji_cl h
  clear h
  have h := h9
  clear h9
  cases h
  obtain ⟨hw, hS⟩ := jw_cons hS
  exact jk_st hwf hS hw hB hcl hpc (fun ⟨hx, hb, hml, hown, hts, hnm, hG, hfr, hlo, hx9, hX⟩ H locs lsr h3 k => lv_istore_n hx hb hd hA h3 hB rfl k)
set_option maxHeartbeats 1000000 in
theorem jo_istore {i : Nat} {ls : jx_L} {st : List jx_V} {n : Nat} {m : jx_M} (hok : jx_okR x i = true) (hwf : jx_wf ph xs L x (i, ls, st, n, m)) {t' : jx_S} {k0 : Nat} (ho : (jx_row x i).1 = .istore k0) (h : jx_step ph (jx_row x i) (i, ls, st, n, m) = some (.inl t')) : jx_K E ph xs L p l e R s mm args below meth c Q n0 x (i, ls, st, n, m) t' := by
  have hS := hwf.2.2.1
  have hA := (ji_and hok).2
  have hd := jk_dec hok ho rfl
  unfold jx_okA at hA
  unfold jx_step jx_sem at h
  simp only [ho] at hA h
  obtain ⟨hA, hpc⟩ := ji_and hA
  obtain ⟨hB, hpc⟩ := ji_and hpc
  have hpc := ji_beq hpc
  have hA := ji_beq hA
  have hB := Nat.le_of_ble_eq_true hB
  obtain ⟨x0, st1, e9, h9⟩ := ji_pI h
  clear h
  subst e9
  have h := h9
  clear h9
  obtain ⟨hcl, h9⟩ := ji_cl h
  clear h
  have h := h9
  clear h9
  cases h
  obtain ⟨hw, hS⟩ := jw_cons hS
  exact jk_st hwf hS hw hB hcl hpc (fun ⟨hx, hb, hml, hown, hts, hnm, hG, hfr, hlo, hx9, hX⟩ H locs lsr h3 k => lv_istore (i := (jx_row x i).2.1) hx hb (by rw [← hA]; exact hd) h3 hB rfl k)
set_option maxHeartbeats 1000000 in
theorem jo_astore_n {i : Nat} {ls : jx_L} {st : List jx_V} {n : Nat} {m : jx_M} (hok : jx_okR x i = true) (hwf : jx_wf ph xs L x (i, ls, st, n, m)) {t' : jx_S} {k0 : Fin 4} (ho : (jx_row x i).1 = .astore_n k0) (h : jx_step ph (jx_row x i) (i, ls, st, n, m) = some (.inl t')) : jx_K E ph xs L p l e R s mm args below meth c Q n0 x (i, ls, st, n, m) t' := by
  have hS := hwf.2.2.1
  have hA := (ji_and hok).2
  have hd := jk_dec hok ho rfl
  unfold jx_okA at hA
  unfold jx_step jx_sem at h
  simp only [ho] at hA h
  obtain ⟨hA, hpc⟩ := ji_and hA
  obtain ⟨hB, hpc⟩ := ji_and hpc
  have hpc := ji_beq hpc
  have hA := ji_beq hA
  have hB := Nat.le_of_ble_eq_true hB
  obtain ⟨s0, j0, st1, e9, h9⟩ := ji_pA h
  clear h
  subst e9
  have h := h9
  clear h9
  obtain ⟨hcl, h9⟩ := ji_cl h
  clear h
  have h := h9
  clear h9
  cases h
  obtain ⟨hw, hS⟩ := jw_cons hS
  exact jk_st hwf hS hw hB hcl hpc (fun ⟨hx, hb, hml, hown, hts, hnm, hG, hfr, hlo, hx9, hX⟩ H locs lsr h3 k => lv_astore_n hx hb hd hA h3 hB rfl k)
set_option maxHeartbeats 1000000 in
theorem jo_astore {i : Nat} {ls : jx_L} {st : List jx_V} {n : Nat} {m : jx_M} (hok : jx_okR x i = true) (hwf : jx_wf ph xs L x (i, ls, st, n, m)) {t' : jx_S} {k0 : Nat} (ho : (jx_row x i).1 = .astore k0) (h : jx_step ph (jx_row x i) (i, ls, st, n, m) = some (.inl t')) : jx_K E ph xs L p l e R s mm args below meth c Q n0 x (i, ls, st, n, m) t' := by
  have hS := hwf.2.2.1
  have hA := (ji_and hok).2
  have hd := jk_dec hok ho rfl
  unfold jx_okA at hA
  unfold jx_step jx_sem at h
  simp only [ho] at hA h
  obtain ⟨hA, hpc⟩ := ji_and hA
  obtain ⟨hB, hpc⟩ := ji_and hpc
  have hpc := ji_beq hpc
  have hA := ji_beq hA
  have hB := Nat.le_of_ble_eq_true hB
  obtain ⟨s0, j0, st1, e9, h9⟩ := ji_pA h
  clear h
  subst e9
  have h := h9
  clear h9
  obtain ⟨hcl, h9⟩ := ji_cl h
  clear h
  have h := h9
  clear h9
  cases h
  obtain ⟨hw, hS⟩ := jw_cons hS
  exact jk_st hwf hS hw hB hcl hpc (fun ⟨hx, hb, hml, hown, hts, hnm, hG, hfr, hlo, hx9, hX⟩ H locs lsr h3 k => lv_astore (i := (jx_row x i).2.1) hx hb (by rw [← hA]; exact hd) h3 hB rfl k)
set_option maxHeartbeats 1000000 in
theorem jo_iinc {i : Nat} {ls : jx_L} {st : List jx_V} {n : Nat} {m : jx_M} (hok : jx_okR x i = true) (hwf : jx_wf ph xs L x (i, ls, st, n, m)) {t' : jx_S} {k0 : Nat} {c0 : Int} (ho : (jx_row x i).1 = .iinc k0 c0) (h : jx_step ph (jx_row x i) (i, ls, st, n, m) = some (.inl t')) : jx_K E ph xs L p l e R s mm args below meth c Q n0 x (i, ls, st, n, m) t' := by
  have hS := hwf.2.2.1
  have hA := (ji_and hok).2
  have hd := jk_dec hok ho rfl
  unfold jx_okA at hA
  unfold jx_step jx_sem at h
  simp only [ho] at hA h
  obtain ⟨hA, hpc⟩ := ji_and hA
  obtain ⟨hB, hpc⟩ := ji_and hpc
  obtain ⟨hz, hpc⟩ := ji_and hpc
  have hpc := ji_beq hpc
  have hA := ji_beq hA
  have hB := Nat.le_of_ble_eq_true hB
  have hz := of_decide_eq_true hz
  obtain ⟨x0, hv, h9⟩ := ji_lI h
  clear h
  have h := h9
  clear h9
  obtain ⟨hcl, h9⟩ := ji_cl h
  clear h
  have h := h9
  clear h9
  obtain ⟨hg, h9⟩ := ji_if h
  clear h
  have h := h9
  clear h9
  cases h
  refine jk_st hwf hS (v := xI (x0 + (jx_row x i).2.2.2)) hg hB hcl hpc (fun ⟨hx, hb, hml, hown, hts, hnm, hG, hfr, hlo, hx9, hX⟩ H locs lsr h3 k => ?_)
  obtain ⟨k9, hk9⟩ := List.getElem?_of_mem ((jv_mem (E := E) ls 0 ((jx_row x i).2.1, jx_con E (xI x0))).mpr ⟨(jx_row x i).2.1, xI x0, by rw [Nat.zero_add], hv⟩)
  exact lv_iinc (i := (jx_row x i).2.1) (k := k9) (x := Int32.ofInt x0) (v := Int32.ofInt (x0 + (jx_row x i).2.2.2)) hx hb (by rw [← hA]; exact hd) h3 hk9 (by rw [hz, jn_add]) hB rfl k
set_option maxHeartbeats 1000000 in
theorem jo_dup {i : Nat} {ls : jx_L} {st : List jx_V} {n : Nat} {m : jx_M} (hok : jx_okR x i = true) (hwf : jx_wf ph xs L x (i, ls, st, n, m)) {t' : jx_S} (ho : (jx_row x i).1 = .dup) (h : jx_step ph (jx_row x i) (i, ls, st, n, m) = some (.inl t')) : jx_K E ph xs L p l e R s mm args below meth c Q n0 x (i, ls, st, n, m) t' := by
  have hS := hwf.2.2.1
  have hA := (ji_and hok).2
  have hd := jk_dec hok ho rfl
  unfold jx_okA at hA
  unfold jx_step jx_sem at h
  simp only [ho] at hA h
  obtain ⟨s0, j0, st1, e9, h9⟩ := ji_pA h
  clear h
  subst e9
  have h := h9
  clear h9
  cases h
  obtain ⟨hw, hS⟩ := jw_cons hS
  exact jk_ok hwf (jw_mk hw (jw_mk hw hS)) (ji_beq hA) (fun ⟨hx, hb, hml, hown, hts, hnm, hG, hfr, hlo, hx9, hX⟩ H locs lsr _ _ _ _ _ k => lv_dup hx hb hd rfl k)
set_option maxHeartbeats 1000000 in
theorem jo_pop {i : Nat} {ls : jx_L} {st : List jx_V} {n : Nat} {m : jx_M} (hok : jx_okR x i = true) (hwf : jx_wf ph xs L x (i, ls, st, n, m)) {t' : jx_S} (ho : (jx_row x i).1 = .pop) (h : jx_step ph (jx_row x i) (i, ls, st, n, m) = some (.inl t')) : jx_K E ph xs L p l e R s mm args below meth c Q n0 x (i, ls, st, n, m) t' := by
  have hS := hwf.2.2.1
  have hA := (ji_and hok).2
  have hd := jk_dec hok ho rfl
  unfold jx_okA at hA
  unfold jx_step jx_sem at h
  simp only [ho] at hA h
  obtain ⟨x0, st1, e9, h9⟩ := ji_pI h
  clear h
  subst e9
  have h := h9
  clear h9
  cases h
  obtain ⟨hw, hS⟩ := jw_cons hS
  exact jk_ok hwf hS (ji_beq hA) (fun ⟨hx, hb, hml, hown, hts, hnm, hG, hfr, hlo, hx9, hX⟩ H locs lsr _ _ _ _ _ k => lv_pop hx hb hd rfl k)
set_option maxHeartbeats 1000000 in
theorem jo_dup2 {i : Nat} {ls : jx_L} {st : List jx_V} {n : Nat} {m : jx_M} (hok : jx_okR x i = true) (hwf : jx_wf ph xs L x (i, ls, st, n, m)) {t' : jx_S} (ho : (jx_row x i).1 = .dup2) (h : jx_step ph (jx_row x i) (i, ls, st, n, m) = some (.inl t')) : jx_K E ph xs L p l e R s mm args below meth c Q n0 x (i, ls, st, n, m) t' := by
  have hS := hwf.2.2.1
  have hA := (ji_and hok).2
  have hd := jk_dec hok ho rfl
  unfold jx_okA at hA
  unfold jx_step jx_sem at h
  simp only [ho] at hA h
  obtain ⟨x0, st1, e9, h9⟩ := ji_pI h
  clear h
  subst e9
  have h := h9
  clear h9
  obtain ⟨s0, j0, st2, e9, h9⟩ := ji_pA h
  clear h
  subst e9
  have h := h9
  clear h9
  cases h
  obtain ⟨hw, hS⟩ := jw_cons hS
  obtain ⟨hw2, hS⟩ := jw_cons hS
  exact jk_ok hwf (jw_mk hw (jw_mk hw2 (jw_mk hw (jw_mk hw2 hS)))) (ji_beq hA) (fun ⟨hx, hb, hml, hown, hts, hnm, hG, hfr, hlo, hx9, hX⟩ H locs lsr _ _ _ _ _ k => lv_dup2_11 hx hb hd rfl rfl k)
set_option maxHeartbeats 1000000 in
theorem jo_if_eq {i : Nat} {ls : jx_L} {st : List jx_V} {n : Nat} {m : jx_M} (hok : jx_okR x i = true) (hwf : jx_wf ph xs L x (i, ls, st, n, m)) {t' : jx_S} {o0 : Int} (ho : (jx_row x i).1 = .ifCond .eq o0) (h : jx_step ph (jx_row x i) (i, ls, st, n, m) = some (.inl t')) : jx_K E ph xs L p l e R s mm args below meth c Q n0 x (i, ls, st, n, m) t' := by
  have hS := hwf.2.2.1
  have hA := (ji_and hok).2
  have hd := jk_dec hok ho rfl
  unfold jx_okA at hA
  unfold jx_step jx_sem at h
  simp only [ho] at hA h
  obtain ⟨hA, hpc⟩ := ji_and hA
  have hpc := ji_beq hpc
  have hA := of_decide_eq_true hA
  obtain ⟨x0, st2, e9, h9⟩ := ji_pI h
  clear h
  subst e9
  have h := h9
  clear h9
  obtain ⟨hx0, hS⟩ := jw_cons hS
  unfold jx_cond at h
  by_cases hc : x0 = 0
  · simp only [if_pos hc] at h
    cases h
    exact jk_ok hwf hS rfl (fun ⟨hx, hb, hml, hown, hts, hnm, hG, hfr, hlo, hx9, hX⟩ H locs lsr _ _ _ _ _ k => lv_if_eq (tgt := jx_pc x (jx_row x i).2.1) hx hb hd hA (fun q => k) (fun q => absurd ((jn_eq hx0 jn_in0).mpr hc) q))
  · simp only [if_neg hc] at h
    cases h
    exact jk_ok hwf hS hpc (fun ⟨hx, hb, hml, hown, hts, hnm, hG, hfr, hlo, hx9, hX⟩ H locs lsr _ _ _ _ _ k => lv_if_eq (tgt := jx_pc x (jx_row x i).2.1) hx hb hd hA (fun q => absurd ((jn_eq hx0 jn_in0).mp q) hc) (fun q => k))
set_option maxHeartbeats 1000000 in
theorem jo_icmp_eq {i : Nat} {ls : jx_L} {st : List jx_V} {n : Nat} {m : jx_M} (hok : jx_okR x i = true) (hwf : jx_wf ph xs L x (i, ls, st, n, m)) {t' : jx_S} {o0 : Int} (ho : (jx_row x i).1 = .if_icmp .eq o0) (h : jx_step ph (jx_row x i) (i, ls, st, n, m) = some (.inl t')) : jx_K E ph xs L p l e R s mm args below meth c Q n0 x (i, ls, st, n, m) t' := by
  have hS := hwf.2.2.1
  have hA := (ji_and hok).2
  have hd := jk_dec hok ho rfl
  unfold jx_okA at hA
  unfold jx_step jx_sem at h
  simp only [ho] at hA h
  obtain ⟨hA, hpc⟩ := ji_and hA
  have hpc := ji_beq hpc
  have hA := of_decide_eq_true hA
  obtain ⟨y, st1, e9, h9⟩ := ji_pI h
  clear h
  subst e9
  have h := h9
  clear h9
  obtain ⟨x0, st2, e9, h9⟩ := ji_pI h
  clear h
  subst e9
  have h := h9
  clear h9
  obtain ⟨hy, hS⟩ := jw_cons hS
  obtain ⟨hx0, hS⟩ := jw_cons hS
  unfold jx_cond at h
  by_cases hc : x0 = y
  · simp only [if_pos hc] at h
    cases h
    exact jk_ok hwf hS rfl (fun ⟨hx, hb, hml, hown, hts, hnm, hG, hfr, hlo, hx9, hX⟩ H locs lsr _ _ _ _ _ k => lv_icmp_eq (tgt := jx_pc x (jx_row x i).2.1) hx hb hd hA (fun q => k) (fun q => absurd ((jn_eq hx0 hy).mpr hc) q))
  · simp only [if_neg hc] at h
    cases h
    exact jk_ok hwf hS hpc (fun ⟨hx, hb, hml, hown, hts, hnm, hG, hfr, hlo, hx9, hX⟩ H locs lsr _ _ _ _ _ k => lv_icmp_eq (tgt := jx_pc x (jx_row x i).2.1) hx hb hd hA (fun q => absurd ((jn_eq hx0 hy).mp q) hc) (fun q => k))
set_option maxHeartbeats 1000000 in
theorem jo_if_ne {i : Nat} {ls : jx_L} {st : List jx_V} {n : Nat} {m : jx_M} (hok : jx_okR x i = true) (hwf : jx_wf ph xs L x (i, ls, st, n, m)) {t' : jx_S} {o0 : Int} (ho : (jx_row x i).1 = .ifCond .ne o0) (h : jx_step ph (jx_row x i) (i, ls, st, n, m) = some (.inl t')) : jx_K E ph xs L p l e R s mm args below meth c Q n0 x (i, ls, st, n, m) t' := by
  have hS := hwf.2.2.1
  have hA := (ji_and hok).2
  have hd := jk_dec hok ho rfl
  unfold jx_okA at hA
  unfold jx_step jx_sem at h
  simp only [ho] at hA h
  obtain ⟨hA, hpc⟩ := ji_and hA
  have hpc := ji_beq hpc
  have hA := of_decide_eq_true hA
  obtain ⟨x0, st2, e9, h9⟩ := ji_pI h
  clear h
  subst e9
  have h := h9
  clear h9
  obtain ⟨hx0, hS⟩ := jw_cons hS
  unfold jx_cond at h
  by_cases hc : x0 = 0
  · simp only [if_pos hc] at h
    cases h
    exact jk_ok hwf hS hpc (fun ⟨hx, hb, hml, hown, hts, hnm, hG, hfr, hlo, hx9, hX⟩ H locs lsr _ _ _ _ _ k => lv_if_ne (tgt := jx_pc x (jx_row x i).2.1) hx hb hd hA (fun q => absurd ((jn_eq hx0 jn_in0).mpr hc) q) (fun q => k))
  · simp only [if_neg hc] at h
    cases h
    exact jk_ok hwf hS rfl (fun ⟨hx, hb, hml, hown, hts, hnm, hG, hfr, hlo, hx9, hX⟩ H locs lsr _ _ _ _ _ k => lv_if_ne (tgt := jx_pc x (jx_row x i).2.1) hx hb hd hA (fun q => k) (fun q => absurd ((jn_eq hx0 jn_in0).mp q) hc))
set_option maxHeartbeats 1000000 in
theorem jo_icmp_ne {i : Nat} {ls : jx_L} {st : List jx_V} {n : Nat} {m : jx_M} (hok : jx_okR x i = true) (hwf : jx_wf ph xs L x (i, ls, st, n, m)) {t' : jx_S} {o0 : Int} (ho : (jx_row x i).1 = .if_icmp .ne o0) (h : jx_step ph (jx_row x i) (i, ls, st, n, m) = some (.inl t')) : jx_K E ph xs L p l e R s mm args below meth c Q n0 x (i, ls, st, n, m) t' := by
  have hS := hwf.2.2.1
  have hA := (ji_and hok).2
  have hd := jk_dec hok ho rfl
  unfold jx_okA at hA
  unfold jx_step jx_sem at h
  simp only [ho] at hA h
  obtain ⟨hA, hpc⟩ := ji_and hA
  have hpc := ji_beq hpc
  have hA := of_decide_eq_true hA
  obtain ⟨y, st1, e9, h9⟩ := ji_pI h
  clear h
  subst e9
  have h := h9
  clear h9
  obtain ⟨x0, st2, e9, h9⟩ := ji_pI h
  clear h
  subst e9
  have h := h9
  clear h9
  obtain ⟨hy, hS⟩ := jw_cons hS
  obtain ⟨hx0, hS⟩ := jw_cons hS
  unfold jx_cond at h
  by_cases hc : x0 = y
  · simp only [if_pos hc] at h
    cases h
    exact jk_ok hwf hS hpc (fun ⟨hx, hb, hml, hown, hts, hnm, hG, hfr, hlo, hx9, hX⟩ H locs lsr _ _ _ _ _ k => lv_icmp_ne (tgt := jx_pc x (jx_row x i).2.1) hx hb hd hA (fun q => absurd ((jn_eq hx0 hy).mpr hc) q) (fun q => k))
  · simp only [if_neg hc] at h
    cases h
    exact jk_ok hwf hS rfl (fun ⟨hx, hb, hml, hown, hts, hnm, hG, hfr, hlo, hx9, hX⟩ H locs lsr _ _ _ _ _ k => lv_icmp_ne (tgt := jx_pc x (jx_row x i).2.1) hx hb hd hA (fun q => k) (fun q => absurd ((jn_eq hx0 hy).mp q) hc))
set_option maxHeartbeats 1000000 in
theorem jo_if_lt {i : Nat} {ls : jx_L} {st : List jx_V} {n : Nat} {m : jx_M} (hok : jx_okR x i = true) (hwf : jx_wf ph xs L x (i, ls, st, n, m)) {t' : jx_S} {o0 : Int} (ho : (jx_row x i).1 = .ifCond .lt o0) (h : jx_step ph (jx_row x i) (i, ls, st, n, m) = some (.inl t')) : jx_K E ph xs L p l e R s mm args below meth c Q n0 x (i, ls, st, n, m) t' := by
  have hS := hwf.2.2.1
  have hA := (ji_and hok).2
  have hd := jk_dec hok ho rfl
  unfold jx_okA at hA
  unfold jx_step jx_sem at h
  simp only [ho] at hA h
  obtain ⟨hA, hpc⟩ := ji_and hA
  have hpc := ji_beq hpc
  have hA := of_decide_eq_true hA
  obtain ⟨x0, st2, e9, h9⟩ := ji_pI h
  clear h
  subst e9
  have h := h9
  clear h9
  obtain ⟨hx0, hS⟩ := jw_cons hS
  unfold jx_cond at h
  by_cases hc : x0 < 0
  · simp only [if_pos hc] at h
    cases h
    exact jk_ok hwf hS rfl (fun ⟨hx, hb, hml, hown, hts, hnm, hG, hfr, hlo, hx9, hX⟩ H locs lsr _ _ _ _ _ k => lv_if_lt (tgt := jx_pc x (jx_row x i).2.1) hx hb hd hA (fun q => k) (fun q => absurd ((jn_lt hx0 jn_in0).mpr hc) q))
  · simp only [if_neg hc] at h
    cases h
    exact jk_ok hwf hS hpc (fun ⟨hx, hb, hml, hown, hts, hnm, hG, hfr, hlo, hx9, hX⟩ H locs lsr _ _ _ _ _ k => lv_if_lt (tgt := jx_pc x (jx_row x i).2.1) hx hb hd hA (fun q => absurd ((jn_lt hx0 jn_in0).mp q) hc) (fun q => k))
set_option maxHeartbeats 1000000 in
theorem jo_icmp_lt {i : Nat} {ls : jx_L} {st : List jx_V} {n : Nat} {m : jx_M} (hok : jx_okR x i = true) (hwf : jx_wf ph xs L x (i, ls, st, n, m)) {t' : jx_S} {o0 : Int} (ho : (jx_row x i).1 = .if_icmp .lt o0) (h : jx_step ph (jx_row x i) (i, ls, st, n, m) = some (.inl t')) : jx_K E ph xs L p l e R s mm args below meth c Q n0 x (i, ls, st, n, m) t' := by
  have hS := hwf.2.2.1
  have hA := (ji_and hok).2
  have hd := jk_dec hok ho rfl
  unfold jx_okA at hA
  unfold jx_step jx_sem at h
  simp only [ho] at hA h
  obtain ⟨hA, hpc⟩ := ji_and hA
  have hpc := ji_beq hpc
  have hA := of_decide_eq_true hA
  obtain ⟨y, st1, e9, h9⟩ := ji_pI h
  clear h
  subst e9
  have h := h9
  clear h9
  obtain ⟨x0, st2, e9, h9⟩ := ji_pI h
  clear h
  subst e9
  have h := h9
  clear h9
  obtain ⟨hy, hS⟩ := jw_cons hS
  obtain ⟨hx0, hS⟩ := jw_cons hS
  unfold jx_cond at h
  by_cases hc : x0 < y
  · simp only [if_pos hc] at h
    cases h
    exact jk_ok hwf hS rfl (fun ⟨hx, hb, hml, hown, hts, hnm, hG, hfr, hlo, hx9, hX⟩ H locs lsr _ _ _ _ _ k => lv_icmp_lt (tgt := jx_pc x (jx_row x i).2.1) hx hb hd hA (fun q => k) (fun q => absurd ((jn_lt hx0 hy).mpr hc) q))
  · simp only [if_neg hc] at h
    cases h
    exact jk_ok hwf hS hpc (fun ⟨hx, hb, hml, hown, hts, hnm, hG, hfr, hlo, hx9, hX⟩ H locs lsr _ _ _ _ _ k => lv_icmp_lt (tgt := jx_pc x (jx_row x i).2.1) hx hb hd hA (fun q => absurd ((jn_lt hx0 hy).mp q) hc) (fun q => k))
set_option maxHeartbeats 1000000 in
theorem jo_if_ge {i : Nat} {ls : jx_L} {st : List jx_V} {n : Nat} {m : jx_M} (hok : jx_okR x i = true) (hwf : jx_wf ph xs L x (i, ls, st, n, m)) {t' : jx_S} {o0 : Int} (ho : (jx_row x i).1 = .ifCond .ge o0) (h : jx_step ph (jx_row x i) (i, ls, st, n, m) = some (.inl t')) : jx_K E ph xs L p l e R s mm args below meth c Q n0 x (i, ls, st, n, m) t' := by
  have hS := hwf.2.2.1
  have hA := (ji_and hok).2
  have hd := jk_dec hok ho rfl
  unfold jx_okA at hA
  unfold jx_step jx_sem at h
  simp only [ho] at hA h
  obtain ⟨hA, hpc⟩ := ji_and hA
  have hpc := ji_beq hpc
  have hA := of_decide_eq_true hA
  obtain ⟨x0, st2, e9, h9⟩ := ji_pI h
  clear h
  subst e9
  have h := h9
  clear h9
  obtain ⟨hx0, hS⟩ := jw_cons hS
  unfold jx_cond at h
  by_cases hc : x0 < 0
  · simp only [if_pos hc] at h
    cases h
    exact jk_ok hwf hS hpc (fun ⟨hx, hb, hml, hown, hts, hnm, hG, hfr, hlo, hx9, hX⟩ H locs lsr _ _ _ _ _ k => lv_if_ge (tgt := jx_pc x (jx_row x i).2.1) hx hb hd hA (fun q => absurd ((jn_le jn_in0 hx0).mp q) (by omega)) (fun q => k))
  · simp only [if_neg hc] at h
    cases h
    exact jk_ok hwf hS rfl (fun ⟨hx, hb, hml, hown, hts, hnm, hG, hfr, hlo, hx9, hX⟩ H locs lsr _ _ _ _ _ k => lv_if_ge (tgt := jx_pc x (jx_row x i).2.1) hx hb hd hA (fun q => k) (fun q => absurd ((jn_le jn_in0 hx0).mpr (by omega)) q))
set_option maxHeartbeats 1000000 in
theorem jo_icmp_ge {i : Nat} {ls : jx_L} {st : List jx_V} {n : Nat} {m : jx_M} (hok : jx_okR x i = true) (hwf : jx_wf ph xs L x (i, ls, st, n, m)) {t' : jx_S} {o0 : Int} (ho : (jx_row x i).1 = .if_icmp .ge o0) (h : jx_step ph (jx_row x i) (i, ls, st, n, m) = some (.inl t')) : jx_K E ph xs L p l e R s mm args below meth c Q n0 x (i, ls, st, n, m) t' := by
  have hS := hwf.2.2.1
  have hA := (ji_and hok).2
  have hd := jk_dec hok ho rfl
  unfold jx_okA at hA
  unfold jx_step jx_sem at h
  simp only [ho] at hA h
  obtain ⟨hA, hpc⟩ := ji_and hA
  have hpc := ji_beq hpc
  have hA := of_decide_eq_true hA
  obtain ⟨y, st1, e9, h9⟩ := ji_pI h
  clear h
  subst e9
  have h := h9
  clear h9
  obtain ⟨x0, st2, e9, h9⟩ := ji_pI h
  clear h
  subst e9
  have h := h9
  clear h9
  obtain ⟨hy, hS⟩ := jw_cons hS
  obtain ⟨hx0, hS⟩ := jw_cons hS
  unfold jx_cond at h
  by_cases hc : x0 < y
  · simp only [if_pos hc] at h
    cases h
    exact jk_ok hwf hS hpc (fun ⟨hx, hb, hml, hown, hts, hnm, hG, hfr, hlo, hx9, hX⟩ H locs lsr _ _ _ _ _ k => lv_icmp_ge (tgt := jx_pc x (jx_row x i).2.1) hx hb hd hA (fun q => absurd ((jn_le hy hx0).mp q) (by omega)) (fun q => k))
  · simp only [if_neg hc] at h
    cases h
    exact jk_ok hwf hS rfl (fun ⟨hx, hb, hml, hown, hts, hnm, hG, hfr, hlo, hx9, hX⟩ H locs lsr _ _ _ _ _ k => lv_icmp_ge (tgt := jx_pc x (jx_row x i).2.1) hx hb hd hA (fun q => k) (fun q => absurd ((jn_le hy hx0).mpr (by omega)) q))
set_option maxHeartbeats 1000000 in
theorem jo_if_gt {i : Nat} {ls : jx_L} {st : List jx_V} {n : Nat} {m : jx_M} (hok : jx_okR x i = true) (hwf : jx_wf ph xs L x (i, ls, st, n, m)) {t' : jx_S} {o0 : Int} (ho : (jx_row x i).1 = .ifCond .gt o0) (h : jx_step ph (jx_row x i) (i, ls, st, n, m) = some (.inl t')) : jx_K E ph xs L p l e R s mm args below meth c Q n0 x (i, ls, st, n, m) t' := by
  have hS := hwf.2.2.1
  have hA := (ji_and hok).2
  have hd := jk_dec hok ho rfl
  unfold jx_okA at hA
  unfold jx_step jx_sem at h
  simp only [ho] at hA h
  obtain ⟨hA, hpc⟩ := ji_and hA
  have hpc := ji_beq hpc
  have hA := of_decide_eq_true hA
  obtain ⟨x0, st2, e9, h9⟩ := ji_pI h
  clear h
  subst e9
  have h := h9
  clear h9
  obtain ⟨hx0, hS⟩ := jw_cons hS
  unfold jx_cond at h
  by_cases hc : 0 < x0
  · simp only [if_pos hc] at h
    cases h
    exact jk_ok hwf hS rfl (fun ⟨hx, hb, hml, hown, hts, hnm, hG, hfr, hlo, hx9, hX⟩ H locs lsr _ _ _ _ _ k => lv_if_gt (tgt := jx_pc x (jx_row x i).2.1) hx hb hd hA (fun q => k) (fun q => absurd ((jn_lt jn_in0 hx0).mpr hc) q))
  · simp only [if_neg hc] at h
    cases h
    exact jk_ok hwf hS hpc (fun ⟨hx, hb, hml, hown, hts, hnm, hG, hfr, hlo, hx9, hX⟩ H locs lsr _ _ _ _ _ k => lv_if_gt (tgt := jx_pc x (jx_row x i).2.1) hx hb hd hA (fun q => absurd ((jn_lt jn_in0 hx0).mp q) hc) (fun q => k))
set_option maxHeartbeats 1000000 in
theorem jo_icmp_gt {i : Nat} {ls : jx_L} {st : List jx_V} {n : Nat} {m : jx_M} (hok : jx_okR x i = true) (hwf : jx_wf ph xs L x (i, ls, st, n, m)) {t' : jx_S} {o0 : Int} (ho : (jx_row x i).1 = .if_icmp .gt o0) (h : jx_step ph (jx_row x i) (i, ls, st, n, m) = some (.inl t')) : jx_K E ph xs L p l e R s mm args below meth c Q n0 x (i, ls, st, n, m) t' := by
  have hS := hwf.2.2.1
  have hA := (ji_and hok).2
  have hd := jk_dec hok ho rfl
  unfold jx_okA at hA
  unfold jx_step jx_sem at h
  simp only [ho] at hA h
  obtain ⟨hA, hpc⟩ := ji_and hA
  have hpc := ji_beq hpc
  have hA := of_decide_eq_true hA
  obtain ⟨y, st1, e9, h9⟩ := ji_pI h
  clear h
  subst e9
  have h := h9
  clear h9
  obtain ⟨x0, st2, e9, h9⟩ := ji_pI h
  clear h
  subst e9
  have h := h9
  clear h9
  obtain ⟨hy, hS⟩ := jw_cons hS
  obtain ⟨hx0, hS⟩ := jw_cons hS
  unfold jx_cond at h
  by_cases hc : y < x0
  · simp only [if_pos hc] at h
    cases h
    exact jk_ok hwf hS rfl (fun ⟨hx, hb, hml, hown, hts, hnm, hG, hfr, hlo, hx9, hX⟩ H locs lsr _ _ _ _ _ k => lv_icmp_gt (tgt := jx_pc x (jx_row x i).2.1) hx hb hd hA (fun q => k) (fun q => absurd ((jn_lt hy hx0).mpr hc) q))
  · simp only [if_neg hc] at h
    cases h
    exact jk_ok hwf hS hpc (fun ⟨hx, hb, hml, hown, hts, hnm, hG, hfr, hlo, hx9, hX⟩ H locs lsr _ _ _ _ _ k => lv_icmp_gt (tgt := jx_pc x (jx_row x i).2.1) hx hb hd hA (fun q => absurd ((jn_lt hy hx0).mp q) hc) (fun q => k))
set_option maxHeartbeats 1000000 in
theorem jo_if_le {i : Nat} {ls : jx_L} {st : List jx_V} {n : Nat} {m : jx_M} (hok : jx_okR x i = true) (hwf : jx_wf ph xs L x (i, ls, st, n, m)) {t' : jx_S} {o0 : Int} (ho : (jx_row x i).1 = .ifCond .le o0) (h : jx_step ph (jx_row x i) (i, ls, st, n, m) = some (.inl t')) : jx_K E ph xs L p l e R s mm args below meth c Q n0 x (i, ls, st, n, m) t' := by
  have hS := hwf.2.2.1
  have hA := (ji_and hok).2
  have hd := jk_dec hok ho rfl
  unfold jx_okA at hA
  unfold jx_step jx_sem at h
  simp only [ho] at hA h
  obtain ⟨hA, hpc⟩ := ji_and hA
  have hpc := ji_beq hpc
  have hA := of_decide_eq_true hA
  obtain ⟨x0, st2, e9, h9⟩ := ji_pI h
  clear h
  subst e9
  have h := h9
  clear h9
  obtain ⟨hx0, hS⟩ := jw_cons hS
  unfold jx_cond at h
  by_cases hc : 0 < x0
  · simp only [if_pos hc] at h
    cases h
    exact jk_ok hwf hS hpc (fun ⟨hx, hb, hml, hown, hts, hnm, hG, hfr, hlo, hx9, hX⟩ H locs lsr _ _ _ _ _ k => lv_if_le (tgt := jx_pc x (jx_row x i).2.1) hx hb hd hA (fun q => absurd ((jn_le hx0 jn_in0).mp q) (by omega)) (fun q => k))
  · simp only [if_neg hc] at h
    cases h
    exact jk_ok hwf hS rfl (fun ⟨hx, hb, hml, hown, hts, hnm, hG, hfr, hlo, hx9, hX⟩ H locs lsr _ _ _ _ _ k => lv_if_le (tgt := jx_pc x (jx_row x i).2.1) hx hb hd hA (fun q => k) (fun q => absurd ((jn_le hx0 jn_in0).mpr (by omega)) q))
set_option maxHeartbeats 1000000 in
theorem jo_icmp_le {i : Nat} {ls : jx_L} {st : List jx_V} {n : Nat} {m : jx_M} (hok : jx_okR x i = true) (hwf : jx_wf ph xs L x (i, ls, st, n, m)) {t' : jx_S} {o0 : Int} (ho : (jx_row x i).1 = .if_icmp .le o0) (h : jx_step ph (jx_row x i) (i, ls, st, n, m) = some (.inl t')) : jx_K E ph xs L p l e R s mm args below meth c Q n0 x (i, ls, st, n, m) t' := by
  have hS := hwf.2.2.1
  have hA := (ji_and hok).2
  have hd := jk_dec hok ho rfl
  unfold jx_okA at hA
  unfold jx_step jx_sem at h
  simp only [ho] at hA h
  obtain ⟨hA, hpc⟩ := ji_and hA
  have hpc := ji_beq hpc
  have hA := of_decide_eq_true hA
  obtain ⟨y, st1, e9, h9⟩ := ji_pI h
  clear h
  subst e9
  have h := h9
  clear h9
  obtain ⟨x0, st2, e9, h9⟩ := ji_pI h
  clear h
  subst e9
  have h := h9
  clear h9
  obtain ⟨hy, hS⟩ := jw_cons hS
  obtain ⟨hx0, hS⟩ := jw_cons hS
  unfold jx_cond at h
  by_cases hc : y < x0
  · simp only [if_pos hc] at h
    cases h
    exact jk_ok hwf hS hpc (fun ⟨hx, hb, hml, hown, hts, hnm, hG, hfr, hlo, hx9, hX⟩ H locs lsr _ _ _ _ _ k => lv_icmp_le (tgt := jx_pc x (jx_row x i).2.1) hx hb hd hA (fun q => absurd ((jn_le hx0 hy).mp q) (by omega)) (fun q => k))
  · simp only [if_neg hc] at h
    cases h
    exact jk_ok hwf hS rfl (fun ⟨hx, hb, hml, hown, hts, hnm, hG, hfr, hlo, hx9, hX⟩ H locs lsr _ _ _ _ _ k => lv_icmp_le (tgt := jx_pc x (jx_row x i).2.1) hx hb hd hA (fun q => k) (fun q => absurd ((jn_le hx0 hy).mpr (by omega)) q))
set_option maxHeartbeats 1000000 in
theorem jo_goto {i : Nat} {ls : jx_L} {st : List jx_V} {n : Nat} {m : jx_M} (hok : jx_okR x i = true) (hwf : jx_wf ph xs L x (i, ls, st, n, m)) {t' : jx_S} {o0 : Int} (ho : (jx_row x i).1 = .goto o0) (h : jx_step ph (jx_row x i) (i, ls, st, n, m) = some (.inl t')) : jx_K E ph xs L p l e R s mm args below meth c Q n0 x (i, ls, st, n, m) t' := by
  have hS := hwf.2.2.1
  have hA := (ji_and hok).2
  have hd := jk_dec hok ho rfl
  unfold jx_okA at hA
  unfold jx_step jx_sem at h
  simp only [ho] at hA h
  have hA := of_decide_eq_true hA
  cases h
  exact jk_ok hwf hS rfl (fun ⟨hx, hb, hml, hown, hts, hnm, hG, hfr, hlo, hx9, hX⟩ H locs lsr _ _ _ _ _ k => lv_goto (tgt := jx_pc x (jx_row x i).2.1) hx hb hd hA k)
end
end
section
/-! instructions that touch the heap -/
section
variable {E : jx_E} {ph : Bool} {xs : Nat → Int} {L : Int} {p : Program} {l : Launch} {e : Env} {R : Room} {s : State} {mm : MethodId} {args : Array Value} {below : List Frame} {meth : Method} {c : Code} {Q : State → Prop} {n0 x : Nat}
variable {H : Heap} {locs : List Loc} {cells slots pc : Nat} {lsr : Array Slot} {rest : List Value} {cc : ByteArray}
/-- a field is written; what else is in the heap is told -/
theorem jp_put (hexec : p.tables.exec = Jvm.exec) (hb : c.code = cc) (hts : ∀ w ∈ jx_gw, w.before args s = true) {own : String} (hown : s.vm.findClass own = some mm.cls) (hG : jx_G E s) {ci a k index : Nat} {q : vw_C} {fs : List Value} (hat : va_at E.2.2.1 jx_classes (a, .inr (ci, fs)) H) (hc : jx_classes[ci]? = some q) (hk : k < q.2.2) (hlink : (Jvm.Cond.fieldLink own index (q.2.1 k).1 (q.2.1 k).2.1 (q.2.1 k).2.2.1).before args s = true) (hfin : (q.2.1 k).2.2.2 = false) {v : Value} (hn : narrow (jy_ty ci k) v = v) (hfit : fits (jy_ty ci k) v = true) (hl : k < fs.length)
    (hdg : decode cc pc = .ok (.putfield index, 3)) (kk : ∀ (H1 : Heap) (i : Nat), va_at E.2.2.1 jx_classes (a, .inr (ci, fs.set k v)) H1 → H1.size = H.size → (∀ y : Nat, y ≠ a → H1[y]? = H[y]?) → W p l e R s mm args below meth c H1 (locs ++ [⟨a, i⟩]) cells slots Q (F0 mm (pc + 3) lsr rest)) : W p l e R s mm args below meth c H locs cells slots Q (F0 mm pc lsr (v :: .ref a :: rest)) := by
  obtain ⟨hin, hty, hnm, -⟩ := jy_cls hc
  obtain ⟨C0, T0, N0⟩ := q
  have hap := va_apart (own := own) hts hin (jy_ty ci) hty hnm hG.1 hc
  obtain ⟨r, h1, cell, q1, q2, q3, q4⟩ := hat
  have hr : r = (C0, T0, N0) := Option.some.inj (h1.symm.trans hc)
  subst hr
  obtain ⟨hS, hfc, kC, hkC, hkind⟩ := hG.1.1 ci _ hc
  obtain ⟨cf, kf, fi, f, hi, hsl⟩ := hS k hk
  have hlay := hts _ (hin _ (u_in_lay hk))
  unfold u_lay at hlay
  rw [if_neg (by rw [hfin]; decide)] at hlay
  have hst := (u_facts hfc hkC (u_lays hts hin hk) hi).1
  have h6 := u_store hfc hkC hkind hlay hi (hty k hk) hn hfit
  refine W.putK hexec hb (f := f) ⟨hown, hlink, ⟨_, _, _, hi⟩, hst⟩ (by rw [q2]; exact h6) q1 q3 (by rw [hsl]; exact k2_hasslot (q4 k hk)) rfl rfl hdg fun H' e1 e2 e3 => ?_
  rw [hsl] at e1
  exact kk H' _ ⟨_, hc, t_OB.to (V := updV (vp_V fs) k v) ⟨_, e1, q2, q3, t_set q4 hap hk v⟩ (fun j _ => vp_updV_set hl v j)⟩ e2 e3
theorem jp_putF (hexec : p.tables.exec = Jvm.exec) (hb : c.code = cc) (hts : ∀ w ∈ jx_gw, w.before args s = true) {own : String} (hown : s.vm.findClass own = some mm.cls) (hG : jx_G E s) {ci a k index : Nat} {q : vw_C} {fs : List Value} (hat : va_at E.2.2.1 jx_classes (a, .inr (ci, fs)) H) (hc : jx_classes[ci]? = some q) (hk : k < q.2.2) (hlink : (Jvm.Cond.fieldLink own index (q.2.1 k).1 (q.2.1 k).2.1 (q.2.1 k).2.2.1).before args s = true) (hfin : (q.2.1 k).2.2.2 = true) (hin2 : meth.name = "<init>") (hdecl : (q.2.1 k).1 = own) {v : Value} (hn : narrow (jy_ty ci k) v = v) (hfit : fits (jy_ty ci k) v = true) (hl : k < fs.length)
    (hdg : decode cc pc = .ok (.putfield index, 3)) (kk : ∀ (H1 : Heap) (i : Nat), va_at E.2.2.1 jx_classes (a, .inr (ci, fs.set k v)) H1 → H1.size = H.size → (∀ y : Nat, y ≠ a → H1[y]? = H[y]?) → W p l e R s mm args below meth c H1 (locs ++ [⟨a, i⟩]) cells slots Q (F0 mm (pc + 3) lsr rest)) : W p l e R s mm args below meth c H locs cells slots Q (F0 mm pc lsr (v :: .ref a :: rest)) := by
  obtain ⟨hin, hty, hnm, -⟩ := jy_cls hc
  obtain ⟨C0, T0, N0⟩ := q
  have hap := va_apart (own := own) hts hin (jy_ty ci) hty hnm hG.1 hc
  obtain ⟨r, h1, cell, q1, q2, q3, q4⟩ := hat
  have hr : r = (C0, T0, N0) := Option.some.inj (h1.symm.trans hc)
  subst hr
  obtain ⟨hS, hfc, kC, hkC, hkind⟩ := hG.1.1 ci _ hc
  obtain ⟨cf, kf, fi, f, hi, hsl⟩ := hS k hk
  have hlay := hts _ (hin _ (u_in_lay hk))
  unfold u_lay at hlay
  rw [if_pos hfin] at hlay
  have hst := (u_facts hfc hkC (u_lays hts hin hk) hi).1
  have hcf : mm.cls = cf := by
    obtain ⟨_, _, c', _, _, _, -, -, hf', -, -, -, hown2, -⟩ := Cond.laysFinal_spec hlay
    have e1 : c' = cf := by have := hi.symm.trans hf'; simp at this; exact this.1.symm
    have hdecl : (T0 k).1 = own := hdecl
    rw [hdecl] at hown2
    rw [← e1]; exact Option.some.inj (hown.symm.trans hown2)
  have h6 := u_fits hfc hkC hkind (Or.inr hlay) hi (hty k hk) hn hfit
  refine W.putFinK hexec hb hown hlink hi hst hcf hin2 (by rw [q2]; exact h6) q1 q3 (by rw [hsl]; exact k2_hasslot (q4 k hk)) rfl rfl hdg fun H' e1 e2 e3 => ?_
  rw [hsl] at e1
  exact kk H' _ ⟨_, hc, t_OB.to (V := updV (vp_V fs) k v) ⟨_, e1, q2, q3, t_set q4 hap hk v⟩ (fun j _ => vp_updV_set hl v j)⟩ e2 e3
/-- an int is written into an array -/
theorem jp_ias (hexec : p.tables.exec = Jvm.exec) (hb : c.code = cc) (hG : jx_G E s) {a n : Nat} {f : Nat → Int32} (hat : va_at E.2.2.1 jx_classes (a, .inl (E.2.2.2.1, n, .inl f)) H) {i v : Int32} (hin : vp_in i n) (hdg : decode cc pc = .ok (.iastore, 1))
    (kk : ∀ (H1 : Heap) (y : Nat), va_at E.2.2.1 jx_classes (a, .inl (E.2.2.2.1, n, .inl (upd f i.toNatClampNeg v))) H1 → H1.size = H.size → (∀ y : Nat, y ≠ a → H1[y]? = H[y]?) → W p l e R s mm args below meth c H1 (locs ++ [⟨a, y⟩]) cells slots Q (F0 mm (pc + 1) lsr rest)) : W p l e R s mm args below meth c H locs cells slots Q (F0 mm pc lsr (.int v :: .int i :: .ref a :: rest)) := by
  have hat : H[a]? = some (vp_cell E.2.2.2.1 (n, .inl f)) := hat
  refine W.iast hexec hb hat ((hG.1.2 0 _ rfl).1 n (fun j => .int (f j))) (fun q => by cases q) (by show ¬ (i < 0 ∨ (arrV _ _ _).slots.size ≤ _); rw [arrV_size]; exact hin) rfl rfl hdg fun H1 e1 z oq => ?_
  refine kk H1 _ ?_ z oq
  show H1[a]? = some (vp_cell _ _)
  rw [e1]
  rw [vp_cell_i, vp_cell_i, arrV_store]
  congr 2
  funext q
  by_cases hq : q = i.toNatClampNeg
  · subst hq
    simp [updV, upd]
  · simp [updV, upd, hq]
theorem jp_aas (hexec : p.tables.exec = Jvm.exec) (hb : c.code = cc) (hG : jx_G E s) {a v n ci t0 : Nat} {cA : ClassId} {q : vw_C} {vs : List Value} {f : Nat → Option Nat} (hat : va_at E.2.2.1 jx_classes (a, .inl (cA, n, .inr (.inr (.inr (.inr f))))) H) (ht : (jx_tys E)[t0]? = some (cA, .object q.1)) (hv : va_at E.2.2.1 jx_classes (v, .inr (ci, vs)) H) (hc : jx_classes[ci]? = some q) {i : Int32} (hin : vp_in i n) (hdg : decode cc pc = .ok (.aastore, 1))
    (kk : ∀ (H1 : Heap) (y : Nat), va_at E.2.2.1 jx_classes (a, .inl (cA, n, .inr (.inr (.inr (.inr (va_up f i.toNatClampNeg (some v))))))) H1 → H1.size = H.size → (∀ y : Nat, y ≠ a → H1[y]? = H[y]?) → W p l e R s mm args below meth c H1 (locs ++ [⟨a, y⟩]) cells slots Q (F0 mm (pc + 1) lsr rest)) : W p l e R s mm args below meth c H locs cells slots Q (F0 mm pc lsr (.ref v :: .int i :: .ref a :: rest)) := by
  have hat : H[a]? = some (vp_cell cA (n, .inr (.inr (.inr (.inr f))))) := hat
  have hlt : i.toNatClampNeg < n := Nat.not_le.mp fun q => hin (Or.inr q)
  have h0 : ¬ i < 0 := fun q => hin (Or.inl q)
  obtain ⟨r', hr', cellV, g1, g2, g3, -⟩ := hv
  have hcls := (hG.1.1 ci q hc).2
  obtain ⟨kA, comp, k1, k2, k3, -⟩ := (hG.1.2 t0 _ ht).2
  have hcomp : comp = E.2.2.1.1 ci := Option.some.inj (k3.symm.trans hcls.1)
  subst hcomp
  obtain ⟨kC, hkC, -⟩ := hcls.2
  refine W.aast hexec hb hat (fun q h => by cases h) (fun h => by cases h) k1 k2 rfl hkC ⟨h0, by show _ < (arrV _ _ _).slots.size; rw [arrV_size]; exact hlt⟩ g1 (fun q h => by rw [g3] at h; cases h) (by rw [g2]; exact hkC) (by rw [g2]; exact va_assign hcls) rfl rfl hdg fun H1 e1 z oq => ?_
  refine kk H1 _ ?_ z oq
  show H1[a]? = some (vp_cell _ _)
  rw [e1]
  rw [vp_cell_q, vp_cell_q, arrV_store]
  congr 2
  funext q
  by_cases hq : q = i.toNatClampNeg
  · subst hq
    simp [updV, va_up, va_rf]
  · simp [updV, va_up, hq]
theorem jp_one {a : Nat} {w : va_E} (h : va_at E.2.2.1 jx_classes (a, w) H) : va_P E.2.2.1 jx_classes [(a, w)] H := by
  intro k q hk
  cases k with
  | zero => cases hk; exact h
  | succ k => simp at hk
/-- System.arraycopy of ints -/
theorem jp_copy (hexec : p.tables.exec = Jvm.exec) (hb : c.code = cc) (hml : c.maxLocals = lsr.size) {own : String} {index : Nat} (hown : s.vm.findClass own = some mm.cls) (hlink : (Jvm.Cond.methodLink own index arraycopyName).before args s = true) (hnat : (Jvm.Cond.native arraycopyName).before args s = true) (hstat : (Jvm.Cond.static arraycopyName).before args s = true) (hini : (Jvm.Cond.initialized "java/lang/System").before args s = true)
    (hG : jx_G E s) {a0 a n0 n1 : Nat} {f g : Nat → Int32} (h0 : va_at E.2.2.1 jx_classes (a0, .inl (E.2.2.2.1, n0, .inl f)) H) (ha : va_at E.2.2.1 jx_classes (a, .inl (E.2.2.2.1, n1, .inl g)) H) {sp dp n : Int32} (h1 : ¬ sp < 0) (h2 : ¬ dp < 0) (h3 : ¬ n < 0) (h4 : sp.toNatClampNeg + n.toNatClampNeg ≤ n0) (h5 : dp.toNatClampNeg + n.toNatClampNeg ≤ n1)
    (hframes : 1 ≤ R.frames) (hlocals : (rest.map fun v => v.category).sum + (nativeFrameWords "java/lang/System" "arraycopy" 5 + 11) ≤ R.locals) (hdg : decode cc pc = .ok (.invokestatic index, 3))
    (kk : ∀ (H1 : Heap) (ls1 : List Loc), va_at E.2.2.1 jx_classes (a, .inl (E.2.2.2.1, n1, .inl (va_cpy f g sp.toNatClampNeg dp.toNatClampNeg n.toNatClampNeg))) H1 → H1.size = H.size → (∀ y : Nat, y ≠ a → H1[y]? = H[y]?) → (∀ q ∈ ls1, q ∈ locs ∨ q.base = a) → W p l e R s mm args below meth c H1 ls1 cells slots Q (F0 mm (pc + 3) lsr rest)) : W p l e R s mm args below meth c H locs cells slots Q (F0 mm pc lsr (.int n :: .int dp :: .ref a :: .int sp :: .ref a0 :: rest)) := by
  have nn : ∀ z : Int32, ¬ z < 0 → z.toInt = (z.toNatClampNeg : Int) := by
    intro z hz
    have hz0 : (0 : Int) ≤ z.toInt := by
      have := Int32.not_lt.mp hz
      simpa using Int32.le_iff_toInt_le.mp this
    show z.toInt = ((z.toInt.toNat : Nat) : Int)
    omega
  intro T hT X
  have hc0 : H[a0]? = some (vp_cell E.2.2.2.1 (n0, .inl f)) := h0
  have hc1 : H[a]? = some (vp_cell E.2.2.2.1 (n1, .inl g)) := ha
  obtain ⟨-, k0, hk0, cm0, hkk0⟩ := (hG.1.2 0 _ rfl).1 n0 (fun j => .int (f j))
  obtain ⟨-, k1, hk1, cm1, hkk1⟩ := (hG.1.2 0 _ rfl).1 n1 (fun j => .int (g j))
  obtain ⟨vm', X', step⟩ := X.arraycopy hexec hown hlink hnat hstat hini (src := a0) (dst := a) (cs := vp_cell E.2.2.2.1 (n0, .inl f)) (cd := vp_cell E.2.2.2.1 (n1, .inl g)) (srcPos := sp) (destPos := dp) (n := n) (by rw [hT]; exact hc0) (by rw [hT]; exact hc1)
    (fun _ h => by cases h) (fun _ h => by cases h) (fun h => by cases h) (fun h => by cases h) hk0 hk1 hkk0 hkk1 (by simp) h1 h2 h3
    (by rw [nn sp h1, nn n h3]; show ¬ _ > ((arrV E.2.2.2.1 n0 (fun j => .int (f j))).slots.size : Int); rw [arrV_size]; omega)
    (by rw [nn dp h2, nn n h3]; show ¬ _ > ((arrV E.2.2.2.1 n1 (fun j => .int (g j))).slots.size : Int); rw [arrV_size]; omega)
    (fun vm₁ _ i hi => by
      have e0 : (vp_cell E.2.2.2.1 (n0, .inl f)).slots.getD (sp.toNatClampNeg + i) .null = .int (f (sp.toNatClampNeg + i)) := by
        show (arrV E.2.2.2.1 n0 (fun j => .int (f j))).slots.getD _ _ = _
        rw [Array.getD_eq_getD_getElem?, arrV_read _ _ (by omega)]
        rfl
      refine ⟨?_, ?_⟩
      · rw [e0]
        rfl
      · rw [e0]
        exact trivial)
    (g := F0 mm pc lsr (.int n :: .int dp :: .ref a :: .int sp :: .ref a0 :: rest)) rfl (by rw [hml]) (rest := rest) rfl (by rw [hb]; exact hdg) hframes (by show 2 * 0 + _ + _ ≤ _; omega)
  have e1 : copied (vp_cell E.2.2.2.1 (n0, .inl f)) (vp_cell E.2.2.2.1 (n1, .inl g)) sp dp n = vp_cell E.2.2.2.1 (n1, .inl (va_cpy f g sp.toNatClampNeg dp.toNatClampNeg n.toNatClampNeg)) := va_copied (fun z => .int z) E.2.2.2.1 E.2.2.2.1 f g h4
  rw [e1] at X' step
  have hl : a < H.size := (Array.getElem?_eq_some_iff.mp hc1).1
  have hheap : ((T.setVm vm').setCell a (vp_cell E.2.2.2.1 (n1, .inl (va_cpy f g sp.toNatClampNeg dp.toNatClampNeg n.toNatClampNeg)))).heap = H.setIfInBounds a (vp_cell E.2.2.2.1 (n1, .inl (va_cpy f g sp.toNatClampNeg dp.toNatClampNeg n.toNatClampNeg))) := by rw [← hT]; rfl
  obtain ⟨t, a1, b1⟩ := kk _ _ (show (H.setIfInBounds a _)[a]? = some _ by simp [Array.getElem?_setIfInBounds, hl]) (by simp) (fun q hq => by simp [Array.getElem?_setIfInBounds, Ne.symm hq]) (fun q hq => by
      rcases List.mem_append.mp hq with h | h
      · exact Or.inl h
      · obtain ⟨z, -, hz⟩ := List.mem_map.mp h
        exact Or.inr (by rw [← hz])) _ hheap X'
  exact ⟨t, step t a1, b1⟩
end
section
variable {E : jx_E} {ph : Bool} {xs : Nat → Int} {L : Int} {p : Program} {l : Launch} {e : Env} {R : Room} {s : State} {mm : MethodId} {args : Array Value} {below : List Frame} {meth : Method} {c : Code} {Q : State → Prop} {n0 x : Nat}
theorem jw_alive {i : Nat} {ls : jx_L} {st : List jx_V} {n : Nat} {m : jx_M} (hwf : jx_wf ph xs L x (i, ls, st, n, m)) {s0 j0 : Nat} (hj : j0 < jx_sC s0) (hn : ph = false → jx_pos s0 j0 < n) : jx_pos s0 j0 < n := by
  cases ph
  · exact hn rfl
  · have e : n = 190 := hwf.2.2.2.2.1 rfl
    rw [e]
    exact (jy_pos hj).1
theorem jw_fv {m m' : jx_M} {s0 j0 k : Nat} (h : m' s0 j0 k = m s0 j0 k) : jx_fv E ph m' s0 j0 k = jx_fv E ph m s0 j0 k := by
  unfold jx_fv
  simp only [h]
theorem jw_fset {m m' : jx_M} {s0 j0 k N : Nat} {v : Value} (h : ∀ i, i ≠ k → m' s0 j0 i = m s0 j0 i) (hv : jx_fv E ph m' s0 j0 k = v) : (List.range N).map (jx_fv E ph m' s0 j0) = ((List.range N).map (jx_fv E ph m s0 j0)).set k v := by
  apply List.ext_getElem?
  intro i
  rw [List.getElem?_set]
  by_cases e1 : k = i
  · subst e1
    rw [if_pos rfl]
    by_cases hl : k < N
    · simp [hl, hv]
    · simp [hl]
  · rw [if_neg e1, List.getElem?_map, List.getElem?_map]
    cases hr : (List.range N)[i]? with
    | none => rfl
    | some q =>
      obtain ⟨hl, hq⟩ := List.getElem?_eq_some_iff.mp hr
      rw [List.getElem_range] at hq
      subst hq
      show some _ = some _
      rw [jw_fv (h i (fun z => e1 z.symm))]
theorem jw_ce0 {m : jx_M} {s0 j0 : Nat} (h : jx_sK s0 = 0) : jx_ce E ph m s0 j0 = .inr (jx_sP s0, (List.range (jx_nf s0)).map (jx_fv E ph m s0 j0)) := by
  unfold jx_ce
  rw [h]
  rfl
theorem jw_ce1 {m : jx_M} {s0 j0 : Nat} (h : jx_sK s0 = 1) : jx_ce E ph m s0 j0 = .inl (E.2.2.2.1, jx_sP s0, .inl (fun k => Int32.ofInt (m s0 j0 k))) := by
  unfold jx_ce
  rw [h]
  rfl
theorem jw_ce2 {m : jx_M} {s0 j0 : Nat} (h : jx_sK s0 = 2) : jx_ce E ph m s0 j0 = .inl (E.2.2.2.2 s0, jx_sP s0, .inr (.inr (.inr (.inr (fun k => if ph = true ∨ m s0 j0 k = 1 then some (E.1 + jx_pos (jx_sE s0) (jx_el s0 j0 k)) else none))))) := by
  unfold jx_ce
  rw [h]
  rfl
/-- memory is written: what the script is stays, numbers stay small -/
theorem jw_M {m m' : jx_M} (h : jx_wM xs L m) {s0 j0 : Nat} (hj : j0 < jx_sC s0) (hm : ∀ s' j' k, ¬ (s' = s0 ∧ j' = j0) → m' s' j' k = m s' j' k) (hr : ∀ k, jx_in (m' s0 j0 k)) : jx_wM xs L m' := by
  have hne := jy_ne60 hj
  refine ⟨fun a b k => ?_, fun k => ?_, ?_⟩
  · by_cases e1 : a = s0 ∧ b = j0
    · rw [e1.1, e1.2]; exact hr k
    · rw [hm a b k e1]; exact h.1 a b k
  · rw [hm 60 0 k (fun q => hne.2.1 q.1.symm)]; exact h.2.1 k
  · rw [hm 61 0 0 (fun q => hne.2.2 q.1.symm)]; exact h.2.2
theorem jw_up_ne {m : jx_M} {s0 j0 k : Nat} {v : Int} : ∀ s' j' i, ¬ (s' = s0 ∧ j' = j0) → jx_up m s0 j0 k v s' j' i = m s' j' i := by
  intro s' j' i h
  unfold jx_up
  rw [if_neg (fun q => h ⟨q.1, q.2.1⟩)]
theorem jw_up_self {m : jx_M} {s0 j0 k : Nat} {v : Int} : jx_up m s0 j0 k v s0 j0 k = v := by
  unfold jx_up
  rw [if_pos ⟨rfl, rfl, rfl⟩]
theorem jw_up_oth {m : jx_M} {s0 j0 k i : Nat} {v : Int} (h : i ≠ k) : jx_up m s0 j0 k v s0 j0 i = m s0 j0 i := by
  unfold jx_up
  rw [if_neg (fun q => h q.2.2)]
theorem jw_up_in {m : jx_M} {s0 j0 k : Nat} {v : Int} (h : ∀ a b k, jx_in (m a b k)) (hv : jx_in v) (i : Nat) : jx_in (jx_up m s0 j0 k v s0 j0 i) := by
  by_cases e1 : i = k
  · rw [e1, jw_up_self]; exact hv
  · rw [jw_up_oth e1]; exact h _ _ _
/-- a step that writes one cell -/
theorem jk_mem {i : Nat} {ls : jx_L} {st st' : List jx_V} {n : Nat} {m m' : jx_M} (hwf : jx_wf ph xs L x (i, ls, st, n, m)) (hst : ∀ v ∈ st', jx_wV v) {s0 j0 : Nat} (hj : j0 < jx_sC s0) (hn : jx_pos s0 j0 < n) (hm : ∀ s' j' k, ¬ (s' = s0 ∧ j' = j0) → m' s' j' k = m s' j' k) (hr : ∀ k, jx_in (m' s0 j0 k)) {pc' : Nat} (hpc : jx_pc x (i + 1) = pc')
    (hw : jx_C E ph xs L p R s mm args meth c x → ∀ (H : Heap) (locs : List Loc) (lsr : Array Slot), jx_Wd E ph n m H → jx_F E s H locs → lv_has lsr (jx_mL x) (jx_lv E 0 ls) → (∀ (H1 : Heap) (ls1 : List Loc), va_at E.2.2.1 jx_classes (E.1 + jx_pos s0 j0, jx_ce E ph m' s0 j0) H1 → H1.size = H.size → (∀ q : Nat, q ≠ E.1 + jx_pos s0 j0 → H1[q]? = H[q]?) → (∀ q ∈ ls1, q ∈ locs ∨ q.base = E.1 + jx_pos s0 j0) → W p l e R s mm args below meth c H1 ls1 (n - n0) (jx_SL n - jx_SL n0) Q (F0 mm pc' lsr (st'.map (jx_con E)))) → W p l e R s mm args below meth c H locs (n - n0) (jx_SL n - jx_SL n0) Q (F0 mm (jx_pc x i) lsr (st.map (jx_con E)))) :
    jx_K E ph xs L p l e R s mm args below meth c Q n0 x (i, ls, st, n, m) (i + 1, ls, st', n, m') := by
  refine ⟨⟨hwf.1, hwf.2.1, hst, jw_M hwf.2.2.2.1 hj hm hr, hwf.2.2.2.2⟩, Nat.le_refl _, fun C _ hc hs k H locs lsr h1 h2 h3 => hw C H locs lsr h1 h2 h3 (fun H1 ls1 a1 a2 a3 a4 => ?_)⟩
  have q := k H1 ls1 lsr (jw_set h1 hj hn hm a1 a2 a3) ⟨h2.1, fun y hy => (a3 y (by omega)).trans (h2.2.1 y hy), fun y hy => by
    rcases a4 y hy with z | z
    · exact h2.2.2 y z
    · rw [z]; omega⟩ h3
  rw [← hpc]; exact q
theorem jl_loc {locs : List Loc} {a k : Nat} : ∀ q ∈ locs ++ [(⟨a, k⟩ : Loc)], q ∈ locs ∨ q.base = a := by
  intro q hq
  rcases List.mem_append.mp hq with h | h
  · exact Or.inl h
  · right; rw [List.mem_singleton.mp h]
theorem jy_fok1 {s0 j0 k : Nat} {q : vw_C} (hj : j0 < jx_sC s0) (hk : jx_sK s0 = 0) (hc : jx_classes[jx_sP s0]? = some q) (hs : k < q.2.2) : jy_fok (jx_sP s0) k = true ∧ k < jx_nf s0 := by
  have h0 : k < jx_nf s0 := by unfold jx_nf; rw [jy_nf hc]; exact hs
  exact ⟨List.all_eq_true.mp (List.all_eq_true.mp jy_fok0 (jx_sP s0) (List.mem_range.mpr (jy_obj hj hk).1)) k (List.mem_range.mpr h0), h0⟩
theorem jy_clsA {b a z k : Nat} {ow : String} {X : u_T → Bool} (h : (match jx_classes[b]? with
      | some (C, T, n) => Nat.blt a n && (jx_at z (.fieldLink ow k (T a).1 (T a).2.1 (T a).2.2.1) && X T)
      | none => false) = true) : ∃ q : vw_C, jx_classes[b]? = some q ∧ a < q.2.2 ∧ jx_at z (.fieldLink ow k (q.2.1 a).1 (q.2.1 a).2.1 (q.2.1 a).2.2.1) = true ∧ X q.2.1 = true := by
  cases hc : jx_classes[b]? with
  | none => rw [hc] at h; cases h
  | some q =>
    rw [hc] at h
    obtain ⟨C0, T0, N0⟩ := q
    obtain ⟨h1, h2⟩ := ji_and h
    obtain ⟨h2, h3⟩ := ji_and h2
    exact ⟨_, rfl, Nat.le_of_ble_eq_true h1, h2, h3⟩
theorem jy_clsB {b a z k : Nat} {ow : String} (h : (match jx_classes[b]? with
      | some (C, T, n) => Nat.blt a n && (jx_at z (.fieldLink ow k (T a).1 (T a).2.1 (T a).2.2.1))
      | none => false) = true) : ∃ q : vw_C, jx_classes[b]? = some q ∧ a < q.2.2 ∧ jx_at z (.fieldLink ow k (q.2.1 a).1 (q.2.1 a).2.1 (q.2.1 a).2.2.1) = true := by
  cases hc : jx_classes[b]? with
  | none => rw [hc] at h; cases h
  | some q =>
    rw [hc] at h
    obtain ⟨C0, T0, N0⟩ := q
    obtain ⟨h1, h2⟩ := ji_and h
    exact ⟨_, rfl, Nat.le_of_ble_eq_true h1, h2⟩
theorem jy_fget {m : jx_M} {s0 j0 k : Nat} (h : k < jx_nf s0) : ((List.range (jx_nf s0)).map (jx_fv E ph m s0 j0))[k]? = some (jx_fv E ph m s0 j0 k) := by
  rw [List.getElem?_map, List.getElem?_range h]
  rfl
set_option maxHeartbeats 1000000 in
theorem jo_getfield {i : Nat} {ls : jx_L} {st : List jx_V} {n : Nat} {m : jx_M} (hok : jx_okR x i = true) (hwf : jx_wf ph xs L x (i, ls, st, n, m)) {t' : jx_S} {k0 : Nat} (ho : (jx_row x i).1 = .getfield k0) (h : jx_step ph (jx_row x i) (i, ls, st, n, m) = some (.inl t')) : jx_K E ph xs L p l e R s mm args below meth c Q n0 x (i, ls, st, n, m) t' := by
  have hS := hwf.2.2.1
  have hA := (ji_and hok).2
  have hd := jk_dec hok ho rfl
  unfold jx_okA at hA
  unfold jx_step jx_sem at h
  simp only [ho] at hA h
  obtain ⟨hA, hpc⟩ := ji_and hA
  have hpc := ji_beq hpc
  obtain ⟨s0, j0, st1, e9, h9⟩ := ji_pA h
  clear h
  subst e9
  have h := h9
  clear h9
  obtain ⟨hk, h9⟩ := ji_bif h
  clear h
  have h := h9
  clear h9
  obtain ⟨hk, hk2⟩ := ji_and hk
  have hk := ji_beq hk
  have hk2 := ji_beq hk2
  obtain ⟨hj, hn, h9⟩ := ji_gA h
  clear h
  have h := h9
  clear h9
  have hn2 := jw_alive hwf hj hn
  clear hn
  have hn := hn2
  clear hn2
  obtain ⟨q, hc, hsl, hlk⟩ := jy_clsB hA
  rw [← hk2] at hc
  obtain ⟨hf, hfn⟩ := jy_fok1 hj hk hc hsl
  obtain ⟨hw, hS⟩ := jw_cons hS
  split at h
  · rename_i hft
    cases h
    refine jk_ok hwf (jw_mk (hwf.2.2.2.1.1 _ _ _) hS) hpc (fun ⟨hx, hb, hml, hown, hts, hnm, hG, hfr, hlo, hx9, hX⟩ H locs lsr _ _ h1 h2 h3 k => ?_)
    have hat := jw_at h1 hj hn
    rw [jw_ce0 hk] at hat
    show W p l e R s mm args below meth c H locs _ _ Q (F0 mm (jx_pc x i) lsr (.ref (jx_ad E s0 j0) :: st1.map (jx_con E)))
    rw [jy_ad hj]
    obtain ⟨C0, T0, N0⟩ := q
    refine va_get (D := E.2.2.1) (cl := jx_classes) (tys := jx_tys E) hx hb hts (jy_cls hc).1 hown hG.1 (jp_one hat) 0 rfl hc (jx_row x i).2.1 hsl (hts _ (jx_at_mem hlk)) (fun _ h9 => h9) (jy_fget hfn) hd ?_
    have ev : jx_fv E ph m s0 j0 (jx_row x i).2.1 = jx_con E (xI (m s0 j0 (jx_row x i).2.1)) := by
      unfold jx_fv; rw [hft]; rfl
    rw [ev]
    exact k
  · rename_i hft
    cases h
    refine jk_ok hwf (jw_mk (hwf.2.2.2.1.1 _ _ _) hS) hpc (fun ⟨hx, hb, hml, hown, hts, hnm, hG, hfr, hlo, hx9, hX⟩ H locs lsr _ _ h1 h2 h3 k => ?_)
    have hat := jw_at h1 hj hn
    rw [jw_ce0 hk] at hat
    show W p l e R s mm args below meth c H locs _ _ Q (F0 mm (jx_pc x i) lsr (.ref (jx_ad E s0 j0) :: st1.map (jx_con E)))
    rw [jy_ad hj]
    obtain ⟨C0, T0, N0⟩ := q
    refine va_get (D := E.2.2.1) (cl := jx_classes) (tys := jx_tys E) hx hb hts (jy_cls hc).1 hown hG.1 (jp_one hat) 0 rfl hc (jx_row x i).2.1 hsl (hts _ (jx_at_mem hlk)) (fun _ h9 => h9) (jy_fget hfn) hd ?_
    have ev : jx_fv E ph m s0 j0 (jx_row x i).2.1 = jx_con E (xI (m s0 j0 (jx_row x i).2.1)) := by
      unfold jx_fv; rw [hft]; rfl
    rw [ev]
    exact k
  · rename_i s' md b' hft
    obtain ⟨hfl, h9⟩ := ji_gF h
    clear h
    have h := h9
    clear h9
    have hix := (jy_obj hj hk).2 _ hfn _ _ _ hft
    cases h
    refine jk_ok hwf (jw_mk (trivial) hS) hpc (fun ⟨hx, hb, hml, hown, hts, hnm, hG, hfr, hlo, hx9, hX⟩ H locs lsr _ _ h1 h2 h3 k => ?_)
    have hat := jw_at h1 hj hn
    rw [jw_ce0 hk] at hat
    show W p l e R s mm args below meth c H locs _ _ Q (F0 mm (jx_pc x i) lsr (.ref (jx_ad E s0 j0) :: st1.map (jx_con E)))
    rw [jy_ad hj]
    obtain ⟨C0, T0, N0⟩ := q
    refine va_get (D := E.2.2.1) (cl := jx_classes) (tys := jx_tys E) hx hb hts (jy_cls hc).1 hown hG.1 (jp_one hat) 0 rfl hc (jx_row x i).2.1 hsl (hts _ (jx_at_mem hlk)) (fun _ h9 => h9) (jy_fget hfn) hd ?_
    have ev : jx_fv E ph m s0 j0 (jx_row x i).2.1 = jx_con E (xA s' (jx_ix md b' j0)) := by
      unfold jx_fv; rw [hft]
      show (if ph = true ∨ m s0 j0 _ = 1 then Value.ref (E.1 + jx_pos s' (jx_ix md b' j0)) else Value.null) = Value.ref (jx_ad E s' (jx_ix md b' j0))
      rw [if_pos hfl, jy_ad hix]
    rw [ev]
    exact k
  · cases h
set_option maxHeartbeats 1000000 in
theorem jo_putfield {i : Nat} {ls : jx_L} {st : List jx_V} {n : Nat} {m : jx_M} (hok : jx_okR x i = true) (hwf : jx_wf ph xs L x (i, ls, st, n, m)) {t' : jx_S} {k0 : Nat} (ho : (jx_row x i).1 = .putfield k0) (h : jx_step ph (jx_row x i) (i, ls, st, n, m) = some (.inl t')) : jx_K E ph xs L p l e R s mm args below meth c Q n0 x (i, ls, st, n, m) t' := by
  have hS := hwf.2.2.1
  have hA := (ji_and hok).2
  have hd := jk_dec hok ho rfl
  unfold jx_okA at hA
  unfold jx_step jx_sem at h
  simp only [ho] at hA h
  obtain ⟨hA, hpc⟩ := ji_and hA
  have hpc := ji_beq hpc
  obtain ⟨q, hc, hsl, hlk, hfi⟩ := jy_clsA (X := fun T => (match (T (jx_row x i).2.1).2.2.2 with
          | true => decide ((jx_mN x).name = "<init>" ∧ (T (jx_row x i).2.1).1 = (jx_mN x).cls)
          | false => true)) hA
  split at h
  · rename_i v st'
    obtain ⟨s0, j0, st1, e9, h9⟩ := ji_pA h
    clear h
    subst e9
    have h := h9
    clear h9
    obtain ⟨hk, h9⟩ := ji_bif h
    clear h
    have h := h9
    clear h9
    obtain ⟨hk, hk2⟩ := ji_and hk
    have hk := ji_beq hk
    have hk2 := ji_beq hk2
    obtain ⟨hj, hn, h9⟩ := ji_gA h
    clear h
    have h := h9
    clear h9
    have hn2 := jw_alive hwf hj hn
    clear hn
    have hn := hn2
    clear hn2
    rw [← hk2] at hc
    obtain ⟨hf, hfn⟩ := jy_fok1 hj hk hc hsl
    obtain ⟨hv, hS⟩ := jw_cons hS
    obtain ⟨hw, hS⟩ := jw_cons hS
    split at h
    · rename_i hft
      cases h
      have ht : jy_ty (jx_sP s0) (jx_row x i).2.1 = .int ∧ (q.2.1 (jx_row x i).2.1).2.2.2 = false := by
        unfold jy_fok at hf
        rw [hc] at hf
        have hft' : jx_nth (jx_nth jx_fld (jx_sP s0) []) (jx_row x i).2.1 (9, 0, 0, 0) = _ := hft
        rw [hft'] at hf
        exact of_decide_eq_true hf
      refine jk_mem hwf hS hj hn jw_up_ne (jw_up_in hwf.2.2.2.1.1 hv) hpc (fun ⟨hx, hb, hml, hown, hts, hnm, hG, hfr, hlo, hx9, hX⟩ H locs lsr h1 h2 h3 k => ?_)
      have hat := jw_at h1 hj hn
      rw [jw_ce0 hk] at hat
      show W p l e R s mm args below meth c H locs _ _ Q (F0 mm (jx_pc x i) lsr (.int (Int32.ofInt v) :: .ref (jx_ad E s0 j0) :: st1.map (jx_con E)))
      rw [jy_ad hj]
      refine jp_put hx hb hts hown hG hat hc hsl (hts _ (jx_at_mem hlk)) ht.2 (by rw [ht.1]; exact vp_nar_int _) (by rw [ht.1]; rfl) (by rw [List.length_map, List.length_range]; exact hfn) hd (fun H1 y a1 a2 a3 => k H1 _ ?_ a2 a3 jl_loc)
      rw [jw_ce0 hk, jw_fset (m := m) (k := (jx_row x i).2.1) (v := .int (Int32.ofInt v)) (fun y hy => jw_up_oth hy) (by unfold jx_fv; rw [hft]; show Value.int (Int32.ofInt (jx_up m s0 j0 _ v s0 j0 _)) = _; rw [jw_up_self])]
      exact a1
    · rename_i hft
      obtain ⟨hg, h9⟩ := ji_if h
      clear h
      have h := h9
      clear h9
      cases h
      have ht : jy_ty (jx_sP s0) (jx_row x i).2.1 = .boolean ∧ (q.2.1 (jx_row x i).2.1).2.2.2 = false := by
        unfold jy_fok at hf
        rw [hc] at hf
        have hft' : jx_nth (jx_nth jx_fld (jx_sP s0) []) (jx_row x i).2.1 (9, 0, 0, 0) = _ := hft
        rw [hft'] at hf
        exact of_decide_eq_true hf
      refine jk_mem hwf hS hj hn jw_up_ne (jw_up_in hwf.2.2.2.1.1 hv) hpc (fun ⟨hx, hb, hml, hown, hts, hnm, hG, hfr, hlo, hx9, hX⟩ H locs lsr h1 h2 h3 k => ?_)
      have hat := jw_at h1 hj hn
      rw [jw_ce0 hk] at hat
      show W p l e R s mm args below meth c H locs _ _ Q (F0 mm (jx_pc x i) lsr (.int (Int32.ofInt v) :: .ref (jx_ad E s0 j0) :: st1.map (jx_con E)))
      rw [jy_ad hj]
      refine jp_put hx hb hts hown hG hat hc hsl (hts _ (jx_at_mem hlk)) ht.2 (by rw [ht.1]; (rcases hg with rfl | rfl <;> decide +kernel)) (by rw [ht.1]; (rcases hg with rfl | rfl <;> rfl)) (by rw [List.length_map, List.length_range]; exact hfn) hd (fun H1 y a1 a2 a3 => k H1 _ ?_ a2 a3 jl_loc)
      rw [jw_ce0 hk, jw_fset (m := m) (k := (jx_row x i).2.1) (v := .int (Int32.ofInt v)) (fun y hy => jw_up_oth hy) (by unfold jx_fv; rw [hft]; show Value.int (Int32.ofInt (jx_up m s0 j0 _ v s0 j0 _)) = _; rw [jw_up_self])]
      exact a1
    · cases h
  · rename_i q2 st'
    obtain ⟨s0, j0, st1, e9, h9⟩ := ji_pA h
    clear h
    subst e9
    have h := h9
    clear h9
    obtain ⟨hk, h9⟩ := ji_bif h
    clear h
    have h := h9
    clear h9
    obtain ⟨hk, hk2⟩ := ji_and hk
    have hk := ji_beq hk
    have hk2 := ji_beq hk2
    obtain ⟨hj, hn, h9⟩ := ji_gA h
    clear h
    have h := h9
    clear h9
    have hn2 := jw_alive hwf hj hn
    clear hn
    have hn := hn2
    clear hn2
    rw [← hk2] at hc
    obtain ⟨hf, hfn⟩ := jy_fok1 hj hk hc hsl
    obtain ⟨hv, hS⟩ := jw_cons hS
    obtain ⟨hw, hS⟩ := jw_cons hS
    split at h
    · rename_i s' md b' hft
      obtain ⟨hq, h9⟩ := ji_bif h
      clear h
      have h := h9
      clear h9
      obtain ⟨hq1, hq2⟩ := ji_and hq
      have hq1 := ji_beq hq1
      have hq2 := ji_beq hq2
      cases h
      have hix := (jy_obj hj hk).2 _ hfn _ _ _ hft
      have ht : (q.2.1 (jx_row x i).2.1).2.2.2 = true ∧ ((∃ C, jy_ty (jx_sP s0) (jx_row x i).2.1 = .object C) ∨ ∃ t, jy_ty (jx_sP s0) (jx_row x i).2.1 = .array t) := by
        unfold jy_fok at hf
        rw [hc] at hf
        have hft' : jx_nth (jx_nth jx_fld (jx_sP s0) []) (jx_row x i).2.1 (9, 0, 0, 0) = _ := hft
        rw [hft'] at hf
        obtain ⟨f1, f2⟩ := ji_and hf
        obtain ⟨f2, -⟩ := ji_and f2
        refine ⟨of_decide_eq_true f1, ?_⟩
        split at f2
        · rename_i C hC; exact Or.inl ⟨C, hC⟩
        · rename_i C hC; exact Or.inr ⟨C, hC⟩
        · cases f2
      rw [ht.1] at hfi
      have hfi := of_decide_eq_true hfi
      refine jk_mem hwf hS hj hn jw_up_ne (jw_up_in hwf.2.2.2.1.1 (by omega)) hpc (fun ⟨hx, hb, hml, hown, hts, hnm, hG, hfr, hlo, hx9, hX⟩ H locs lsr h1 h2 h3 k => ?_)
      have hat := jw_at h1 hj hn
      rw [jw_ce0 hk] at hat
      show W p l e R s mm args below meth c H locs _ _ Q (F0 mm (jx_pc x i) lsr (.ref (jx_ad E q2.1 q2.2) :: .ref (jx_ad E s0 j0) :: st1.map (jx_con E)))
      rw [jy_ad hj, hq1, hq2, jy_ad hix]
      refine jp_putF hx hb hts hown hG hat hc hsl (hts _ (jx_at_mem hlk)) ht.1 (hnm hfi.1) hfi.2 (by rcases ht.2 with ⟨C, hC⟩ | ⟨C, hC⟩ <;> rw [hC] <;> rfl) (by rcases ht.2 with ⟨C, hC⟩ | ⟨C, hC⟩ <;> rw [hC] <;> rfl) (by rw [List.length_map, List.length_range]; exact hfn) hd (fun H1 y a1 a2 a3 => k H1 _ ?_ a2 a3 jl_loc)
      rw [jw_ce0 hk, jw_fset (m := m) (k := (jx_row x i).2.1) (v := .ref (E.1 + jx_pos s' (jx_ix md b' j0))) (fun y hy => jw_up_oth hy) (by unfold jx_fv; rw [hft]; show (if _ ∨ jx_up m s0 j0 _ 1 s0 j0 _ = 1 then Value.ref _ else Value.null) = _; rw [if_pos (Or.inr jw_up_self)])]
      exact a1
    · cases h
  · cases h
end
end
section
/-! arrays, making, copying, library members as one step; switches -/
section
variable {E : jx_E} {ph : Bool} {xs : Nat → Int} {L : Int} {p : Program} {l : Launch} {e : Env} {R : Room} {s : State} {mm : MethodId} {args : Array Value} {below : List Frame} {meth : Method} {c : Code} {Q : State → Prop} {n0 x : Nat}
theorem ji_br {α : Type} {c : Bool} {a b : Option α} {q : α} (h : (bif c then a else b) = some q) : (c = true ∧ a = some q) ∨ (c = false ∧ b = some q) := by
  cases c
  · exact Or.inr ⟨rfl, h⟩
  · exact Or.inl ⟨rfl, h⟩
theorem jw_X {H : Heap} {locs : List Loc} (hX : jx_X E xs L s s.heap) (hF : jx_F E s H locs) : va_X E.2.1 L.toNat (fun k => Int32.ofInt (xs k)) s H := hX.1.kept (hF.2.1 _ hX.2.1)
theorem jw_sld {H : Heap} {locs : List Loc} {cells slots pc : Nat} {lsr : Array Slot} {rest : List Value} {cc : ByteArray} (hexec : p.tables.exec = Jvm.exec) (hb : c.code = cc) {b N : Nat} {f : Nat → Int32} (hX : va_X b N f s H) {i : Int32} (hin : vp_in i N) (hdg : decode cc pc = .ok (.iaload, 1))
    (kk : W p l e R s mm args below meth c H locs cells slots Q (F0 mm (pc + 1) lsr (.int (f i.toNatClampNeg) :: rest))) : W p l e R s mm args below meth c H locs cells slots Q (F0 mm pc lsr (.int i :: .ref b :: rest)) := by
  obtain ⟨scr, h1, h2, h3, h4, h5⟩ := hX
  have hlt : i.toNatClampNeg < N := Nat.not_le.mp fun q => hin (Or.inr q)
  exact W.iald (v := .int (f i.toNatClampNeg)) hexec hb h1 h2 h3 (by rw [h4]; exact hin) (h5 _ hlt) rfl rfl hdg kk
theorem jw_slen {H : Heap} {locs : List Loc} {cells slots pc : Nat} {lsr : Array Slot} {rest : List Value} {cc : ByteArray} (hexec : p.tables.exec = Jvm.exec) (hb : c.code = cc) {b N : Nat} {f : Nat → Int32} (hX : va_X b N f s H) (hdg : decode cc pc = .ok (.arraylength, 1))
    (kk : W p l e R s mm args below meth c H locs cells slots Q (F0 mm (pc + 1) lsr (.int (Int32.ofNat N) :: rest))) : W p l e R s mm args below meth c H locs cells slots Q (F0 mm pc lsr (.ref b :: rest)) := by
  obtain ⟨scr, h1, h2, h3, h4, h5⟩ := hX
  exact W.alen (n := Int32.ofNat N) hexec hb h1 h2 (by rw [h4] <;> rfl) rfl rfl hdg kk
theorem jw_ad60 {j : Nat} : jx_ad E 60 j = E.2.1 := rfl
set_option maxHeartbeats 1000000 in
theorem jo_iaload {i : Nat} {ls : jx_L} {st : List jx_V} {n : Nat} {m : jx_M} (hok : jx_okR x i = true) (hwf : jx_wf ph xs L x (i, ls, st, n, m)) {t' : jx_S} (ho : (jx_row x i).1 = .iaload) (h : jx_step ph (jx_row x i) (i, ls, st, n, m) = some (.inl t')) : jx_K E ph xs L p l e R s mm args below meth c Q n0 x (i, ls, st, n, m) t' := by
  have hS := hwf.2.2.1
  have hA := (ji_and hok).2
  have hd := jk_dec hok ho rfl
  unfold jx_okA at hA
  unfold jx_step jx_sem at h
  simp only [ho] at hA h
  obtain ⟨z, st1, e9, h9⟩ := ji_pI h
  clear h
  subst e9
  have h := h9
  clear h9
  obtain ⟨s0, j0, st2, e9, h9⟩ := ji_pA h
  clear h
  subst e9
  have h := h9
  clear h9
  obtain ⟨hz, hS8⟩ := jw_cons hS
  obtain ⟨hw, hS9⟩ := jw_cons hS8
  have hz : jx_in z := hz
  clear hS hS8
  have hS := hS9
  clear hS9
  rcases ji_br h with ⟨hs, h9⟩ | ⟨hs, h9⟩
  · clear h
    obtain ⟨hg, h⟩ := ji_if h9
    cases h
    obtain ⟨hph, hs⟩ := ji_and hs
    obtain rfl := ji_beq hs
    have hM := hwf.2.2.2.1
    refine jk_ok hwf (jw_mk (hM.1 _ _ _) hS) (ji_beq hA) (fun ⟨hx, hb, hml, hown, hts, hnm, hG, hfr, hlo, hx9, hX⟩ H locs lsr _ _ h1 h2 h3 k => ?_)
    have hL : m 61 0 0 = L := hM.2.2
    show W p l e R s mm args below meth c H locs _ _ Q (F0 mm (jx_pc x i) lsr (.int (Int32.ofInt z) :: .ref E.2.1 :: st2.map (jx_con E)))
    refine jw_sld hx hb (jw_X (hX hph) h2) (jn_vin hz hg.1 (by rw [hL] at hg; omega)) hd ?_
    rw [jn_cl hz, ← hM.2.1]
    exact k
  · clear h
    obtain ⟨hg, h⟩ := ji_if h9
    obtain ⟨hj, hn, h9⟩ := ji_gA h
    clear h
    have h := h9
    clear h9
    cases h
    have hn := jw_alive hwf hj hn
    refine jk_ok hwf (jw_mk (hwf.2.2.2.1.1 _ _ _) hS) (ji_beq hA) (fun ⟨hx, hb, hml, hown, hts, hnm, hG, hfr, hlo, hx9, hX⟩ H locs lsr _ _ h1 h2 h3 k => ?_)
    have hat := jw_at h1 hj hn
    rw [jw_ce1 hg.1] at hat
    show W p l e R s mm args below meth c H locs _ _ Q (F0 mm (jx_pc x i) lsr (.int (Int32.ofInt z) :: .ref (jx_ad E s0 j0) :: st2.map (jx_con E)))
    rw [jy_ad hj]
    refine va_iald (D := E.2.2.1) (cl := jx_classes) (tys := jx_tys E) hx hb hG.1 (jp_one hat) 0 0 rfl rfl (jn_vin hz hg.2.1 hg.2.2) hd ?_
    rw [jn_cl hz]
    exact k
set_option maxHeartbeats 1000000 in
theorem jo_iastore {i : Nat} {ls : jx_L} {st : List jx_V} {n : Nat} {m : jx_M} (hok : jx_okR x i = true) (hwf : jx_wf ph xs L x (i, ls, st, n, m)) {t' : jx_S} (ho : (jx_row x i).1 = .iastore) (h : jx_step ph (jx_row x i) (i, ls, st, n, m) = some (.inl t')) : jx_K E ph xs L p l e R s mm args below meth c Q n0 x (i, ls, st, n, m) t' := by
  have hS := hwf.2.2.1
  have hA := (ji_and hok).2
  have hd := jk_dec hok ho rfl
  unfold jx_okA at hA
  unfold jx_step jx_sem at h
  simp only [ho] at hA h
  obtain ⟨v, st0, e9, h9⟩ := ji_pI h
  clear h
  subst e9
  have h := h9
  clear h9
  obtain ⟨z, st1, e9, h9⟩ := ji_pI h
  clear h
  subst e9
  have h := h9
  clear h9
  obtain ⟨s0, j0, st2, e9, h9⟩ := ji_pA h
  clear h
  subst e9
  have h := h9
  clear h9
  obtain ⟨hg, h9⟩ := ji_if h
  clear h
  have h := h9
  clear h9
  obtain ⟨hj, hn, h9⟩ := ji_gA h
  clear h
  have h := h9
  clear h9
  cases h
  have hn := jw_alive hwf hj hn
  obtain ⟨hv, hS⟩ := jw_cons hS
  obtain ⟨hz, hS⟩ := jw_cons hS
  obtain ⟨hw, hS⟩ := jw_cons hS
  have hz : jx_in z := hz
  refine jk_mem hwf hS hj hn jw_up_ne (jw_up_in hwf.2.2.2.1.1 hv) (ji_beq hA) (fun ⟨hx, hb, hml, hown, hts, hnm, hG, hfr, hlo, hx9, hX⟩ H locs lsr h1 h2 h3 k => ?_)
  have hat := jw_at h1 hj hn
  rw [jw_ce1 hg.1] at hat
  show W p l e R s mm args below meth c H locs _ _ Q (F0 mm (jx_pc x i) lsr (.int (Int32.ofInt v) :: .int (Int32.ofInt z) :: .ref (jx_ad E s0 j0) :: st2.map (jx_con E)))
  rw [jy_ad hj]
  refine jp_ias hx hb hG hat (jn_vin hz hg.2.1 hg.2.2) hd (fun H1 y a1 a2 a3 => k H1 _ ?_ a2 a3 jl_loc)
  rw [jw_ce1 hg.1]
  rw [jn_cl hz] at a1
  have ef : (fun k => Int32.ofInt (jx_up m s0 j0 z.toNat v s0 j0 k)) = upd (fun k => Int32.ofInt (m s0 j0 k)) z.toNat (Int32.ofInt v) := by
    funext q
    unfold upd
    by_cases e1 : q = z.toNat
    · rw [if_pos e1, e1, jw_up_self]
    · rw [if_neg e1, jw_up_oth e1]
  rw [ef]
  exact a1
set_option maxHeartbeats 1000000 in
theorem jo_aaload {i : Nat} {ls : jx_L} {st : List jx_V} {n : Nat} {m : jx_M} (hok : jx_okR x i = true) (hwf : jx_wf ph xs L x (i, ls, st, n, m)) {t' : jx_S} (ho : (jx_row x i).1 = .aaload) (h : jx_step ph (jx_row x i) (i, ls, st, n, m) = some (.inl t')) : jx_K E ph xs L p l e R s mm args below meth c Q n0 x (i, ls, st, n, m) t' := by
  have hS := hwf.2.2.1
  have hA := (ji_and hok).2
  have hd := jk_dec hok ho rfl
  unfold jx_okA at hA
  unfold jx_step jx_sem at h
  simp only [ho] at hA h
  obtain ⟨z, st1, e9, h9⟩ := ji_pI h
  clear h
  subst e9
  have h := h9
  clear h9
  obtain ⟨s0, j0, st2, e9, h9⟩ := ji_pA h
  clear h
  subst e9
  have h := h9
  clear h9
  obtain ⟨hk, h9⟩ := ji_bif h
  clear h
  have h := h9
  clear h9
  have hk := ji_beq hk
  obtain ⟨hg, h9⟩ := ji_if h
  clear h
  have h := h9
  clear h9
  obtain ⟨hj, hn, h9⟩ := ji_gA h
  clear h
  have h := h9
  clear h9
  obtain ⟨hfl, h9⟩ := ji_gF h
  clear h
  have h := h9
  clear h9
  cases h
  have hn := jw_alive hwf hj hn
  obtain ⟨hz, hS⟩ := jw_cons hS
  obtain ⟨hw, hS⟩ := jw_cons hS
  have hz : jx_in z := hz
  obtain ⟨-, -, hel⟩ := jy_arr hj hk
  have hel := hel z hg.1 hg.2
  refine jk_ok hwf (jw_mk trivial hS) (ji_beq hA) (fun ⟨hx, hb, hml, hown, hts, hnm, hG, hfr, hlo, hx9, hX⟩ H locs lsr _ _ h1 h2 h3 k => ?_)
  have hat := jw_at h1 hj hn
  rw [jw_ce2 hk] at hat
  obtain ⟨q, hq, hty, -⟩ := jy_tys (E := E) hj hk
  show W p l e R s mm args below meth c H locs _ _ Q (F0 mm (jx_pc x i) lsr (.int (Int32.ofInt z) :: .ref (jx_ad E s0 j0) :: st2.map (jx_con E)))
  rw [jy_ad hj]
  refine va_aldq (D := E.2.2.1) (cl := jx_classes) (tys := jx_tys E) hx hb hG.1 (jp_one hat) 0 (jy_rt s0) rfl hty (jn_vin hz hg.1 hg.2) hd ?_
  rw [jn_cl hz, if_pos hfl]
  have ez : ((z.toNat : Nat) : Int) = z := by omega
  rw [ez]
  have k : W p l e R s mm args below meth c H locs _ _ Q (F0 mm (jx_pc x i + 1) lsr (.ref (jx_ad E (jx_sE s0) (jx_el s0 j0 z)) :: st2.map (jx_con E))) := k
  rw [jy_ad hel] at k
  exact k
set_option maxHeartbeats 1000000 in
theorem jo_aastore {i : Nat} {ls : jx_L} {st : List jx_V} {n : Nat} {m : jx_M} (hok : jx_okR x i = true) (hwf : jx_wf ph xs L x (i, ls, st, n, m)) {t' : jx_S} (ho : (jx_row x i).1 = .aastore) (h : jx_step ph (jx_row x i) (i, ls, st, n, m) = some (.inl t')) : jx_K E ph xs L p l e R s mm args below meth c Q n0 x (i, ls, st, n, m) t' := by
  have hS := hwf.2.2.1
  have hA := (ji_and hok).2
  have hd := jk_dec hok ho rfl
  unfold jx_okA at hA
  unfold jx_step jx_sem at h
  simp only [ho] at hA h
  obtain ⟨s2, j2, st0, e9, h9⟩ := ji_pA h
  clear h
  subst e9
  have h := h9
  clear h9
  obtain ⟨z, st1, e9, h9⟩ := ji_pI h
  clear h
  subst e9
  have h := h9
  clear h9
  obtain ⟨s0, j0, st2, e9, h9⟩ := ji_pA h
  clear h
  subst e9
  have h := h9
  clear h9
  obtain ⟨hk, h9⟩ := ji_bif h
  clear h
  have h := h9
  clear h9
  obtain ⟨hph, hk⟩ := ji_and hk
  obtain ⟨hk, hk2⟩ := ji_and hk
  obtain ⟨hk2, hk3⟩ := ji_and hk2
  have hk := ji_beq hk
  have hk2 := ji_beq hk2
  have hk3 := ji_beq hk3
  obtain ⟨hg, h9⟩ := ji_if h
  clear h
  have h := h9
  clear h9
  obtain ⟨hj, hn, h9⟩ := ji_gA h
  clear h
  have h := h9
  clear h9
  obtain ⟨hj2, hn2, h9⟩ := ji_gA h
  clear h
  have h := h9
  clear h9
  cases h
  have hn := jw_alive hwf hj hn
  have hn2 := jw_alive hwf hj2 hn2
  obtain ⟨hv, hS⟩ := jw_cons hS
  obtain ⟨hz, hS⟩ := jw_cons hS
  obtain ⟨hw, hS⟩ := jw_cons hS
  have hz : jx_in z := hz
  obtain ⟨-, hke, -⟩ := jy_arr hj hk
  refine jk_mem hwf hS hj hn jw_up_ne (jw_up_in hwf.2.2.2.1.1 (by omega)) (ji_beq hA) (fun ⟨hx, hb, hml, hown, hts, hnm, hG, hfr, hlo, hx9, hX⟩ H locs lsr h1 h2 h3 k => ?_)
  have hat := jw_at h1 hj hn
  rw [jw_ce2 hk] at hat
  have hat2 := jw_at h1 hj2 hn2
  rw [hk2] at hat2
  rw [jw_ce0 hke] at hat2
  obtain ⟨q, hq, hty, -⟩ := jy_tys (E := E) hj hk
  show W p l e R s mm args below meth c H locs _ _ Q (F0 mm (jx_pc x i) lsr (.ref (jx_ad E s2 j2) :: .int (Int32.ofInt z) :: .ref (jx_ad E s0 j0) :: st2.map (jx_con E)))
  rw [jy_ad hj, jy_ad hj2, hk2]
  refine jp_aas hx hb hG hat hty hat2 hq (jn_vin hz hg.1 hg.2) hd (fun H1 y a1 a2 a3 => k H1 _ ?_ a2 a3 jl_loc)
  rw [jw_ce2 hk]
  rw [jn_cl hz] at a1
  have ef : (fun k : Nat => if ph = true ∨ jx_up m s0 j0 z.toNat 1 s0 j0 k = 1 then some (E.1 + jx_pos (jx_sE s0) (jx_el s0 j0 k)) else none) = va_up (fun k : Nat => if ph = true ∨ m s0 j0 k = 1 then some (E.1 + jx_pos (jx_sE s0) (jx_el s0 j0 k)) else none) z.toNat (some (E.1 + jx_pos (jx_sE s0) j2)) := by
    funext q
    unfold va_up
    by_cases e1 : q = z.toNat
    · rw [if_pos e1, e1, jw_up_self, if_pos (Or.inr rfl), hk3]
      have ez : ((z.toNat : Nat) : Int) = z := by omega
      rw [ez]
    · rw [if_neg e1, jw_up_oth e1]
  rw [ef]
  exact a1
set_option maxHeartbeats 1000000 in
theorem jo_arraylength {i : Nat} {ls : jx_L} {st : List jx_V} {n : Nat} {m : jx_M} (hok : jx_okR x i = true) (hwf : jx_wf ph xs L x (i, ls, st, n, m)) {t' : jx_S} (ho : (jx_row x i).1 = .arraylength) (h : jx_step ph (jx_row x i) (i, ls, st, n, m) = some (.inl t')) : jx_K E ph xs L p l e R s mm args below meth c Q n0 x (i, ls, st, n, m) t' := by
  have hS := hwf.2.2.1
  have hA := (ji_and hok).2
  have hd := jk_dec hok ho rfl
  unfold jx_okA at hA
  unfold jx_step jx_sem at h
  simp only [ho] at hA h
  obtain ⟨s0, j0, st1, e9, h9⟩ := ji_pA h
  clear h
  subst e9
  have h := h9
  clear h9
  obtain ⟨hw, hS9⟩ := jw_cons hS
  clear hS
  have hS := hS9
  clear hS9
  rcases ji_br h with ⟨hs, h9⟩ | ⟨hs, h9⟩
  · clear h
    cases h9
    obtain ⟨hph, hs⟩ := ji_and hs
    obtain rfl := ji_beq hs
    have hM := hwf.2.2.2.1
    refine jk_ok hwf (jw_mk (hM.1 _ _ _) hS) (ji_beq hA) (fun ⟨hx, hb, hml, hown, hts, hnm, hG, hfr, hlo, hx9, hX⟩ H locs lsr _ _ h1 h2 h3 k => ?_)
    have hL : m 61 0 0 = L := hM.2.2
    show W p l e R s mm args below meth c H locs _ _ Q (F0 mm (jx_pc x i) lsr (.ref E.2.1 :: st1.map (jx_con E)))
    refine jw_slen hx hb (jw_X (hX hph) h2) hd ?_
    have k : W p l e R s mm args below meth c H locs _ _ Q (F0 mm (jx_pc x i + 1) lsr (.int (Int32.ofInt (m 61 0 0)) :: st1.map (jx_con E))) := k
    rw [hL, jn_nat (hX hph).2.2.1] at k
    exact k
  · clear h
    obtain ⟨hg, h⟩ := ji_if h9
    obtain ⟨hj, hn, h9⟩ := ji_gA h
    clear h
    have h := h9
    clear h9
    cases h
    have hn := jw_alive hwf hj hn
    have hP := jy_ints hj hg
    refine jk_ok hwf (jw_mk (show jx_in (jx_sP s0 : Int) by omega) hS) (ji_beq hA) (fun ⟨hx, hb, hml, hown, hts, hnm, hG, hfr, hlo, hx9, hX⟩ H locs lsr _ _ h1 h2 h3 k => ?_)
    have hat := jw_at h1 hj hn
    rw [jw_ce1 hg] at hat
    show W p l e R s mm args below meth c H locs _ _ Q (F0 mm (jx_pc x i) lsr (.ref (jx_ad E s0 j0) :: st1.map (jx_con E)))
    rw [jy_ad hj]
    exact va_alen (D := E.2.2.1) (cl := jx_classes) (tys := jx_tys E) hx hb hG.1 (jp_one hat) 0 0 rfl rfl (by rw [← Int32.ofInt_eq_ofNat]) hd k
theorem ji_tsw {α : Type} {x0 : Int} {k : Nat → Option α} {q : α} {b : Nat} : ∀ (ts : List Nat) (z : Int), jx_tsw (fun c hd a b => @ite _ c hd a b) x0 k z ts b = some q → (∃ (y t : Nat), ts[y]? = some t ∧ x0 = z + (y : Int) ∧ k t = some q) ∨ ((x0 < z ∨ z + (ts.length : Int) ≤ x0) ∧ k b = some q)
  | [], z, h => by
    right
    refine ⟨?_, h⟩
    simp only [List.length_nil]
    omega
  | t :: ts, z, h => by
    unfold jx_tsw at h
    by_cases e1 : x0 = z
    · simp only [if_pos e1] at h
      exact Or.inl ⟨0, t, rfl, by omega, h⟩
    · simp only [if_neg e1] at h
      rcases ji_tsw ts (z + 1) h with ⟨y, t', h1, h2, h3⟩ | ⟨h1, h2⟩
      · exact Or.inl ⟨y + 1, t', by rw [List.getElem?_cons_succ]; exact h1, by omega, h3⟩
      · right
        refine ⟨?_, h2⟩
        simp only [List.length_cons]
        omega
set_option maxHeartbeats 1000000 in
theorem jo_tableswitch {i : Nat} {ls : jx_L} {st : List jx_V} {n : Nat} {m : jx_M} (hok : jx_okR x i = true) (hwf : jx_wf ph xs L x (i, ls, st, n, m)) {t' : jx_S} {df lo hi : Int} {os : Array Int} (ho : (jx_row x i).1 = .tableswitch df lo hi os) (h : jx_step ph (jx_row x i) (i, ls, st, n, m) = some (.inl t')) : jx_K E ph xs L p l e R s mm args below meth c Q n0 x (i, ls, st, n, m) t' := by
  have hS := hwf.2.2.1
  have hA := (ji_and hok).2
  unfold jx_okA at hA
  unfold jx_step jx_sem at h
  simp only [ho] at hA h
  obtain ⟨nn, hd⟩ := jk_decT hok ho
  have hA := of_decide_eq_true hA
  obtain ⟨hA1, hA2, hA3, hA4⟩ := hA
  obtain ⟨x0, st1, e9, h9⟩ := ji_pI h
  clear h
  subst e9
  have h := h9
  clear h9
  obtain ⟨hx0, hS⟩ := jw_cons hS
  have hx0 : jx_in x0 := hx0
  rcases ji_tsw _ _ h with ⟨y, t, h1, h2, h3⟩ | ⟨h1, h2⟩
  · cases h3
    have hy : y < (jx_nth jx_tsws (jx_row x i).2.1 []).length := (List.getElem?_eq_some_iff.mp h1).1
    have ho2 : (os.toList.map (fun o => (jx_pc x i : Int) + o))[y]? = some ((jx_pc x t : Int)) := by rw [hA4, List.getElem?_map, h1]; rfl
    rw [List.getElem?_map] at ho2
    obtain ⟨o2, ho2, ho3⟩ := Option.map_eq_some_iff.mp ho2
    refine jk_ok hwf hS rfl (fun ⟨hx, hb, hml, hown, hts, hnm, hG, hfr, hlo, hx9, hX⟩ H locs lsr _ _ _ _ _ k => lv_tableIn (tgt := jx_pc x t) (off := o2) hx hb hd ?_ ?_ ?_ ho3 k)
    · rw [jn_ti hx0]; omega
    · rw [jn_ti hx0]; omega
    · rw [jn_ti hx0, ← Array.getElem?_toList, show (x0 - lo).toNat = y by omega]
      exact ho2
  · cases h2
    refine jk_ok hwf hS rfl (fun ⟨hx, hb, hml, hown, hts, hnm, hG, hfr, hlo, hx9, hX⟩ H locs lsr _ _ _ _ _ k => lv_tableOut (tgt := jx_pc x (jx_row x i).2.2.1) hx hb hd ?_ hA1 k)
    rw [jn_ti hx0]
    omega
theorem jw_SL {a : Nat} : ∀ {b : Nat}, a ≤ b → jx_SL a ≤ jx_SL b
  | 0, h => by obtain rfl : a = 0 := by omega
               exact Nat.le_refl _
  | b + 1, h => by
    rcases Nat.lt_or_ge b a with q | q
    · obtain rfl : a = b + 1 := by omega
      exact Nat.le_refl _
    · exact Nat.le_trans (jw_SL q) (Nat.le_add_right _ _)
theorem jw_zero_ne {m : jx_M} {s0 j0 : Nat} : ∀ s' j' k, ¬ (s' = s0 ∧ j' = j0) → jx_zero m s0 j0 s' j' k = m s' j' k := by
  intro s' j' k h
  unfold jx_zero
  rw [if_neg h]
theorem jw_zero_self {m : jx_M} {s0 j0 : Nat} (k : Nat) : jx_zero m s0 j0 s0 j0 k = 0 := by
  unfold jx_zero
  rw [if_pos ⟨rfl, rfl⟩]
/-- a step that makes a cell -/
theorem jk_new {i : Nat} {ls : jx_L} {st st' : List jx_V} {n : Nat} {m : jx_M} (hph : ph = false) (hwf : jx_wf ph xs L x (i, ls, st, n, m)) (hst : ∀ v ∈ st', jx_wV v) (hn : n < 190) {pc' : Nat} (hpc : jx_pc x (i + 1) = pc')
    (hw : jx_C E ph xs L p R s mm args meth c x → ∀ (H : Heap) (locs : List Loc) (lsr : Array Slot), n - n0 + 1 ≤ R.cells → jx_SL n - jx_SL n0 + jx_sl (jx_la n).1 ≤ R.slots → jx_Wd E ph n m H → jx_F E s H locs → lv_has lsr (jx_mL x) (jx_lv E 0 ls) → (∀ (H1 : Heap), va_at E.2.2.1 jx_classes (E.1 + n, jx_ce E ph (jx_zero m (jx_la n).1 (jx_la n).2) (jx_la n).1 (jx_la n).2) H1 → H1.size = E.1 + n + 1 → (∀ q : Nat, q < E.1 + n → H1[q]? = H[q]?) → W p l e R s mm args below meth c H1 locs (n - n0 + 1) (jx_SL n - jx_SL n0 + jx_sl (jx_la n).1) Q (F0 mm pc' lsr (.ref (E.1 + n) :: st'.map (jx_con E)))) → W p l e R s mm args below meth c H locs (n - n0) (jx_SL n - jx_SL n0) Q (F0 mm (jx_pc x i) lsr (st.map (jx_con E)))) :
    jx_K E ph xs L p l e R s mm args below meth c Q n0 x (i, ls, st, n, m) (i + 1, ls, xA (jx_la n).1 (jx_la n).2 :: st', n + 1, jx_zero m (jx_la n).1 (jx_la n).2) := by
  obtain ⟨l1, l2, l3⟩ := jy_lay hn
  refine ⟨⟨hwf.1, hwf.2.1, jw_mk trivial hst, jw_M hwf.2.2.2.1 l2 jw_zero_ne (fun k => by show jx_in (jx_zero m (jx_la n).1 (jx_la n).2 (jx_la n).1 (jx_la n).2 k); rw [jw_zero_self]; omega), (fun q => by rw [hph] at q; cases q), by show n + 1 ≤ 190; omega⟩, Nat.le_succ n, fun C hn0 hc hs k H locs lsr h1 h2 h3 => ?_⟩
  have hn0 : n0 ≤ n := hn0
  have hmono : jx_SL n0 ≤ jx_SL n := jw_SL hn0
  have e1 : n + 1 - n0 = n - n0 + 1 := by omega
  have e2 : jx_SL (n + 1) - jx_SL n0 = jx_SL n - jx_SL n0 + jx_sl (jx_la n).1 := by
    show jx_SL n + jx_sl (jx_la n).1 - jx_SL n0 = _
    omega
  have hc : n + 1 - n0 ≤ R.cells := hc
  have hs : jx_SL (n + 1) - jx_SL n0 ≤ R.slots := hs
  rw [e1] at hc
  rw [e2] at hs
  refine hw C H locs lsr hc hs h1 h2 h3 (fun H1 a1 a2 a3 => ?_)
  have q := k H1 locs lsr (jw_push h1 hn jw_zero_ne a1 a2 a3) ⟨h2.1, fun y hy => (a3 y (by omega)).trans (h2.2.1 y hy), h2.2.2⟩ h3
  have q : W p l e R s mm args below meth c H1 locs (n + 1 - n0) (jx_SL (n + 1) - jx_SL n0) Q (F0 mm (jx_pc x (i + 1)) lsr (.ref (jx_ad E (jx_la n).1 (jx_la n).2) :: st'.map (jx_con E))) := q
  rw [e1, e2, hpc, jy_ad l2, l1] at q
  exact q
set_option maxHeartbeats 1000000 in
theorem jo_new {i : Nat} {ls : jx_L} {st : List jx_V} {n : Nat} {m : jx_M} (hok : jx_okR x i = true) (hwf : jx_wf ph xs L x (i, ls, st, n, m)) {t' : jx_S} {k0 : Nat} (ho : (jx_row x i).1 = .new k0) (h : jx_step ph (jx_row x i) (i, ls, st, n, m) = some (.inl t')) : jx_K E ph xs L p l e R s mm args below meth c Q n0 x (i, ls, st, n, m) t' := by
  have hS := hwf.2.2.1
  have hA := (ji_and hok).2
  have hd := jk_dec hok ho rfl
  unfold jx_okA at hA
  unfold jx_step jx_sem at h
  simp only [ho] at hA h
  obtain ⟨hA, hpc⟩ := ji_and hA
  have hpc := ji_beq hpc
  obtain ⟨hk, h9⟩ := ji_bif h
  clear h
  have h := h9
  clear h9
  obtain ⟨hph, hk⟩ := ji_and hk
  obtain ⟨hn, hk⟩ := ji_and hk
  have hn := Nat.le_of_ble_eq_true hn
  rw [jy_len.2] at hn
  have hph : ph = false := by cases ph
                              · rfl
                              · cases hph
  obtain ⟨hk, hk2⟩ := ji_and hk
  have hk : jx_sK (jx_la n).1 = 0 := ji_beq hk
  have hk2 : jx_sP (jx_la n).1 = (jx_row x i).2.1 := ji_beq hk2
  cases h
  obtain ⟨l1, l2, l3⟩ := jy_lay hn
  refine jk_new hph hwf hS hn hpc (fun ⟨hx, hb, hml, hown, hts, hnm, hG, hfr, hlo, hx9, hX⟩ H locs lsr hc hs h1 h2 h3 k => ?_)
  cases hq : jx_classes[(jx_row x i).2.1]? with
  | none => rw [hq] at hA; cases hA
  | some q =>
    rw [hq] at hA
    obtain ⟨C0, T0, N0⟩ := q
    obtain ⟨w1, w2⟩ := ji_and hA
    obtain ⟨w2, w3⟩ := ji_and w2
    have w2 := List.elem_iff.mp w2
    have w3 := List.elem_iff.mp w3
    have hN : jx_nf (jx_la n).1 = N0 := by unfold jx_nf; rw [hk2]; exact jy_nf hq
    have hsl : jx_sl (jx_la n).1 = N0 := by unfold jx_sl; rw [hk]; exact hN
    have hKn := hG.1.1 _ _ hq
    rw [hsl] at hs k
    refine W.newcK hx hb hown (hts _ (jx_at_mem w1)) (hts _ w2) (hts _ w3) rfl hd hc hs hKn.2.1 h1.1 fun H1 kC hkC e1 z1 o1 => ?_
    refine k H1 ?_ z1 o1
    rw [jw_ce0 hk, hk2]
    refine ⟨_, hq, (u_born (jy_ty (jx_row x i).2.1) hts (jy_cls hq).1 hKn hkC e1 (jy_cls hq).2.1).to (fun y hy => ?_)⟩
    have hy' : y < jx_nf (jx_la n).1 := by rw [hN]; exact hy
    show defaultValue (jy_ty (jx_row x i).2.1 y) = vp_V ((List.range (jx_nf (jx_la n).1)).map (jx_fv E ph _ (jx_la n).1 (jx_la n).2)) y
    unfold vp_V
    rw [List.getD_eq_getElem?_getD, jy_fget hy']
    show defaultValue (jy_ty (jx_row x i).2.1 y) = jx_fv E ph _ (jx_la n).1 (jx_la n).2 y
    rw [← hk2] at hq ⊢
    obtain ⟨hf, -⟩ := jy_fok1 l2 hk hq hy
    unfold jy_fok at hf
    rw [hq] at hf
    unfold jx_fv
    rw [jw_zero_self]
    have ef : jx_fT (jx_la n).1 y = jx_nth (jx_nth jx_fld (jx_sP (jx_la n).1) []) y (9, 0, 0, 0) := rfl
    rw [ef]
    revert hf
    rcases jx_nth (jx_nth jx_fld (jx_sP (jx_la n).1) []) y (9, 0, 0, 0) with ⟨t1, t2, t3, t4⟩
    intro hf
    match t1, hf with
    | 0, hf => rw [(of_decide_eq_true hf).1]; rfl
    | 1, hf => rw [(of_decide_eq_true hf).1]; rfl
    | 2, hf =>
      obtain ⟨-, hf⟩ := ji_and hf
      obtain ⟨hf, -⟩ := ji_and hf
      show _ = (if ph = true ∨ (0 : Int) = 1 then Value.ref _ else Value.null)
      rw [if_neg (by rw [hph]; rintro (q | q) <;> cases q)]
      split at hf
      · rename_i C hC; rw [hC]; rfl
      · rename_i C hC; rw [hC]; rfl
      · cases hf
    | t + 3, hf => cases hf
set_option maxHeartbeats 1000000 in
theorem jo_newarray {i : Nat} {ls : jx_L} {st : List jx_V} {n : Nat} {m : jx_M} (hok : jx_okR x i = true) (hwf : jx_wf ph xs L x (i, ls, st, n, m)) {t' : jx_S} {t0 : ArrayType} (ho : (jx_row x i).1 = .newarray t0) (h : jx_step ph (jx_row x i) (i, ls, st, n, m) = some (.inl t')) : jx_K E ph xs L p l e R s mm args below meth c Q n0 x (i, ls, st, n, m) t' := by
  have hS := hwf.2.2.1
  have hA := (ji_and hok).2
  have hd := jk_dec hok ho rfl
  unfold jx_okA at hA
  unfold jx_step jx_sem at h
  simp only [ho] at hA h
  obtain ⟨hA, hpc⟩ := ji_and hA
  have hpc := ji_beq hpc
  have hA := of_decide_eq_true hA
  subst hA
  obtain ⟨z, st1, e9, h9⟩ := ji_pI h
  clear h
  subst e9
  have h := h9
  clear h9
  obtain ⟨hk, h9⟩ := ji_bif h
  clear h
  have h := h9
  clear h9
  obtain ⟨hph, hk⟩ := ji_and hk
  obtain ⟨hn, hk⟩ := ji_and hk
  have hn := Nat.le_of_ble_eq_true hn
  rw [jy_len.2] at hn
  have hph : ph = false := by cases ph
                              · rfl
                              · cases hph
  have hk : jx_sK (jx_la n).1 = 1 := ji_beq hk
  obtain ⟨hg, h9⟩ := ji_if h
  clear h
  have h := h9
  clear h9
  cases h
  have hg : z = (jx_sP (jx_la n).1 : Int) := hg
  obtain ⟨hz, hS⟩ := jw_cons hS
  obtain ⟨l1, l2, l3⟩ := jy_lay hn
  have hP := jy_ints l2 hk
  refine jk_new hph hwf hS hn hpc (fun ⟨hx, hb, hml, hown, hts, hnm, hG, hfr, hlo, hx9, hX⟩ H locs lsr hc hs h1 h2 h3 k => ?_)
  have hsl : jx_sl (jx_la n).1 = jx_sP (jx_la n).1 := by unfold jx_sl; rw [hk]; rfl
  rw [hsl] at hs k
  have hz : jx_in z := hz
  refine va_newaK (atype := .int) hx hb (hts _ (jx_at_mem jx_copyW.2.2.2.2.2)) rfl hd (N := jx_sP (jx_la n).1) rfl (fun q => by have := (jn_lt0 hz).mp q; omega) (by rw [jn_cl hz]; omega) (by show jx_sP (jx_la n).1 * 4 ≤ _; omega) hc hs h1.1 fun H1 cA e1 z1 o1 hAr hNm => ?_
  refine k H1 ?_ z1 o1
  have hcA : cA = E.2.2.2.1 := Option.some.inj (hNm.symm.trans (hG.1.2 0 _ rfl).2)
  rw [jw_ce1 hk]
  show H1[E.1 + n]? = some (vp_cell _ _)
  rw [vp_cell_i, e1, hcA]
  refine congrArg (fun f => some (arrV _ _ f)) (funext (fun q => ?_))
  show defaultValue .int = Value.int (Int32.ofInt (jx_zero m _ _ _ _ q))
  rw [jw_zero_self]
  rfl
set_option maxHeartbeats 1000000 in
theorem jo_anewarray {i : Nat} {ls : jx_L} {st : List jx_V} {n : Nat} {m : jx_M} (hok : jx_okR x i = true) (hwf : jx_wf ph xs L x (i, ls, st, n, m)) {t' : jx_S} {k0 : Nat} (ho : (jx_row x i).1 = .anewarray k0) (h : jx_step ph (jx_row x i) (i, ls, st, n, m) = some (.inl t')) : jx_K E ph xs L p l e R s mm args below meth c Q n0 x (i, ls, st, n, m) t' := by
  have hS := hwf.2.2.1
  have hA := (ji_and hok).2
  have hd := jk_dec hok ho rfl
  unfold jx_okA at hA
  unfold jx_step jx_sem at h
  simp only [ho] at hA h
  obtain ⟨hA, hpc⟩ := ji_and hA
  have hpc := ji_beq hpc
  obtain ⟨z, st1, e9, h9⟩ := ji_pI h
  clear h
  subst e9
  have h := h9
  clear h9
  obtain ⟨hk, h9⟩ := ji_bif h
  clear h
  have h := h9
  clear h9
  obtain ⟨hph, hk⟩ := ji_and hk
  obtain ⟨hn, hk⟩ := ji_and hk
  have hn := Nat.le_of_ble_eq_true hn
  rw [jy_len.2] at hn
  have hph : ph = false := by cases ph
                              · rfl
                              · cases hph
  obtain ⟨hk, hk2⟩ := ji_and hk
  have hk : jx_sK (jx_la n).1 = 2 := ji_beq hk
  have hk2 : jx_sP (jx_sE (jx_la n).1) = (jx_row x i).2.1 := ji_beq hk2
  obtain ⟨hg, h9⟩ := ji_if h
  clear h
  have h := h9
  clear h9
  cases h
  have hg : z = (jx_sP (jx_la n).1 : Int) := hg
  obtain ⟨hz, hS⟩ := jw_cons hS
  obtain ⟨l1, l2, l3⟩ := jy_lay hn
  obtain ⟨hP, hke, -⟩ := jy_arr l2 hk
  obtain ⟨q, hq, hty, hov⟩ := jy_tys (E := E) l2 hk
  rw [hk2] at hq
  rw [hq] at hA
  obtain ⟨C0, T0, N0⟩ := q
  refine jk_new hph hwf hS hn hpc (fun ⟨hx, hb, hml, hown, hts, hnm, hG, hfr, hlo, hx9, hX⟩ H locs lsr hc hs h1 h2 h3 k => ?_)
  have hsl : jx_sl (jx_la n).1 = jx_sP (jx_la n).1 := by unfold jx_sl; rw [hk]; rfl
  rw [hsl] at hs k
  have hz : jx_in z := hz
  have ecl : (Int32.ofInt z).toNatClampNeg = jx_sP (jx_la n).1 := by rw [jn_cl hz]; omega
  refine W.anew hx hb hown (hts _ (jx_at_mem hA)) (va_AO.use (hG.2.2 _ hov)) rfl hd rfl (fun q => by have := (jn_lt0 hz).mp q; omega) (by rw [ecl]; omega) hc (by rw [ecl]; exact hs) fun cA kA comp f1 f2 f3 f4 => ?_
  rw [ecl]
  have hcA : cA = E.2.2.2.2 (jx_la n).1 := by
    obtain ⟨kA', comp', g1, g2, g3, g4⟩ := (hG.1.2 _ _ hty).2
    exact Option.some.inj (f1.symm.trans g4)
  have hsz : H.size = E.1 + n := h1.1
  have k9 := k (H.push ({ cls := cA, slots := Array.replicate (jx_sP (jx_la n).1) .null, vm := .none } : Cell)) (by
    rw [jw_ce2 hk]
    show (H.push _)[E.1 + n]? = some (vp_cell _ _)
    rw [← hsz, Array.getElem?_push_size, vp_cell_q, ← hcA, arrV_new]
    refine congrArg (fun f => some (arrV _ _ f)) (funext (fun q => ?_))
    rw [jw_zero_self, if_neg (by rw [hph]; rintro (z | z) <;> cases z)]
    rfl) (by rw [Array.size_push, hsz]) (fun q hq => by rw [Array.getElem?_push, if_neg (by omega)])
  rw [← hsz] at k9
  exact k9
set_option maxHeartbeats 1000000 in
theorem jo_objinit {i : Nat} {ls : jx_L} {st : List jx_V} {n : Nat} {m : jx_M} (hok : jx_okR x i = true) (hwf : jx_wf ph xs L x (i, ls, st, n, m)) {t' : jx_S} {k0 : Nat} (hb2 : (jx_row x i).2.2.1 = 2) (ho : (jx_row x i).1 = .invokespecial k0) (h : jx_step ph (jx_row x i) (i, ls, st, n, m) = some (.inl t')) : jx_K E ph xs L p l e R s mm args below meth c Q n0 x (i, ls, st, n, m) t' := by
  have hS := hwf.2.2.1
  have hA := (ji_and hok).2
  have hd := jk_dec hok ho rfl
  unfold jx_okA at hA
  unfold jx_step jx_sem at h
  simp only [ho] at hA h
  rw [hb2] at h hA
  obtain ⟨hA, hpc⟩ := ji_and hA
  obtain ⟨hf, hpc⟩ := ji_and hpc
  obtain ⟨ho2, hpc⟩ := ji_and hpc
  have hpc := ji_beq hpc
  have hf := Nat.le_of_ble_eq_true hf
  have ho2 := Nat.le_of_ble_eq_true ho2
  obtain ⟨s0, j0, st1, e9, h9⟩ := ji_pA h
  clear h
  subst e9
  have h := h9
  clear h9
  obtain ⟨hcat, h9⟩ := ji_bif h
  clear h
  have h := h9
  clear h9
  have hcat := Nat.le_of_ble_eq_true hcat
  cases h
  obtain ⟨hw, hS⟩ := jw_cons hS
  refine jk_ok hwf hS hpc (fun ⟨hx, hb, hml, hown, hts, hnm, hG, hfr, hlo, hx9, hX⟩ H locs lsr _ _ h1 h2 h3 k => ?_)
  exact W.objInit hx hb hown (hts _ (jx_at_mem hA)) (hts _ (jx_at_mem jx_copyW.2.2.2.1)) (hts _ (jx_at_mem jx_copyW.2.2.2.2.1)) rfl (by rw [hml]; exact h3.1) rfl hd (by omega) (by rw [jv_cats]; show 2 * 0 + _ + 12 ≤ _; omega) k
set_option maxHeartbeats 1000000 in
theorem jo_mmin {i : Nat} {ls : jx_L} {st : List jx_V} {n : Nat} {m : jx_M} (hok : jx_okR x i = true) (hwf : jx_wf ph xs L x (i, ls, st, n, m)) {t' : jx_S} {k0 : Nat} (hb2 : (jx_row x i).2.2.1 = 4) (ho : (jx_row x i).1 = .invokestatic k0) (h : jx_step ph (jx_row x i) (i, ls, st, n, m) = some (.inl t')) : jx_K E ph xs L p l e R s mm args below meth c Q n0 x (i, ls, st, n, m) t' := by
  have hS := hwf.2.2.1
  have hA := (ji_and hok).2
  have hd := jk_dec hok ho rfl
  unfold jx_okA at hA
  unfold jx_step jx_sem at h
  simp only [ho] at hA h
  rw [hb2] at h hA
  obtain ⟨hA, hpc⟩ := ji_and hA
  obtain ⟨hf, hpc⟩ := ji_and hpc
  obtain ⟨ho2, hpc⟩ := ji_and hpc
  have hpc := ji_beq hpc
  have hf := Nat.le_of_ble_eq_true hf
  have ho2 := Nat.le_of_ble_eq_true ho2
  obtain ⟨y, st1, e9, h9⟩ := ji_pI h
  clear h
  subst e9
  have h := h9
  clear h9
  obtain ⟨x0, st2, e9, h9⟩ := ji_pI h
  clear h
  subst e9
  have h := h9
  clear h9
  obtain ⟨hcat, h9⟩ := ji_bif h
  clear h
  have h := h9
  clear h9
  have hcat := Nat.le_of_ble_eq_true hcat
  cases h
  obtain ⟨hy, hS⟩ := jw_cons hS
  obtain ⟨hx0, hS⟩ := jw_cons hS
  have hy : jx_in y := hy
  have hx0 : jx_in x0 := hx0
  refine jk_ok hwf (jw_mk (show jx_in (min x0 y) by omega) hS) hpc (fun ⟨hx, hb, hml, hown, hts, hnm, hG, hfr, hlo, hx9, hX⟩ H locs lsr hc hs h1 h2 h3 k => ?_)
  refine va_mmin hx hb (by rw [hml]; exact h3.1.symm) hown (hts _ (jx_at_mem hA)) (hts _ (jx_at_mem jx_mathW.2.2.1)) (hts _ (jx_at_mem jx_mathW.2.2.2.2)) (hts _ (jx_at_mem jx_mathW.1)) (by omega) (by rw [jv_cats]; omega) hc hs hd ?_
  rw [← jn_min hx0 hy]
  exact k
set_option maxHeartbeats 1000000 in
theorem jo_mabs {i : Nat} {ls : jx_L} {st : List jx_V} {n : Nat} {m : jx_M} (hok : jx_okR x i = true) (hwf : jx_wf ph xs L x (i, ls, st, n, m)) {t' : jx_S} {k0 : Nat} (hb2 : (jx_row x i).2.2.1 = 5) (ho : (jx_row x i).1 = .invokestatic k0) (h : jx_step ph (jx_row x i) (i, ls, st, n, m) = some (.inl t')) : jx_K E ph xs L p l e R s mm args below meth c Q n0 x (i, ls, st, n, m) t' := by
  have hS := hwf.2.2.1
  have hA := (ji_and hok).2
  have hd := jk_dec hok ho rfl
  unfold jx_okA at hA
  unfold jx_step jx_sem at h
  simp only [ho] at hA h
  rw [hb2] at h hA
  obtain ⟨hA, hpc⟩ := ji_and hA
  obtain ⟨hf, hpc⟩ := ji_and hpc
  obtain ⟨ho2, hpc⟩ := ji_and hpc
  have hpc := ji_beq hpc
  have hf := Nat.le_of_ble_eq_true hf
  have ho2 := Nat.le_of_ble_eq_true ho2
  obtain ⟨x0, st2, e9, h9⟩ := ji_pI h
  clear h
  subst e9
  have h := h9
  clear h9
  obtain ⟨hcat, h9⟩ := ji_bif h
  clear h
  have h := h9
  clear h9
  have hcat := Nat.le_of_ble_eq_true hcat
  obtain ⟨hg, h9⟩ := ji_if h
  clear h
  have h := h9
  clear h9
  cases h
  obtain ⟨hx0, hS⟩ := jw_cons hS
  have hx0 : jx_in x0 := hx0
  refine jk_ok hwf (jw_mk (show jx_in (x0.natAbs : Int) by omega) hS) hpc (fun ⟨hx, hb, hml, hown, hts, hnm, hG, hfr, hlo, hx9, hX⟩ H locs lsr hc hs h1 h2 h3 k => ?_)
  refine va_mabs hx hb (by rw [hml]; exact h3.1.symm) hown (hts _ (jx_at_mem hA)) (hts _ (jx_at_mem jx_mathW.2.2.2.1)) (hts _ (jx_at_mem jx_mathW.2.2.2.2)) (hts _ (jx_at_mem jx_mathW.2.1)) (by omega) (by rw [jv_cats]; omega) hc hs hd ?_
  rw [← jn_abs hx0]
  exact k
set_option maxHeartbeats 1000000 in
theorem jo_copy {i : Nat} {ls : jx_L} {st : List jx_V} {n : Nat} {m : jx_M} (hok : jx_okR x i = true) (hwf : jx_wf ph xs L x (i, ls, st, n, m)) {t' : jx_S} {k0 : Nat} (hb2 : (jx_row x i).2.2.1 = 3) (ho : (jx_row x i).1 = .invokestatic k0) (h : jx_step ph (jx_row x i) (i, ls, st, n, m) = some (.inl t')) : jx_K E ph xs L p l e R s mm args below meth c Q n0 x (i, ls, st, n, m) t' := by
  have hS := hwf.2.2.1
  have hA := (ji_and hok).2
  have hd := jk_dec hok ho rfl
  unfold jx_okA at hA
  unfold jx_step jx_sem at h
  simp only [ho] at hA h
  rw [hb2] at h hA
  obtain ⟨hA, hpc⟩ := ji_and hA
  obtain ⟨hf, hpc⟩ := ji_and hpc
  obtain ⟨ho2, hpc⟩ := ji_and hpc
  have hpc := ji_beq hpc
  have hf := Nat.le_of_ble_eq_true hf
  have ho2 := Nat.le_of_ble_eq_true ho2
  obtain ⟨kk, st1, e9, h9⟩ := ji_pI h
  clear h
  subst e9
  have h := h9
  clear h9
  obtain ⟨dp, st2, e9, h9⟩ := ji_pI h
  clear h
  subst e9
  have h := h9
  clear h9
  obtain ⟨t0, j2, st3, e9, h9⟩ := ji_pA h
  clear h
  subst e9
  have h := h9
  clear h9
  obtain ⟨sp, st4, e9, h9⟩ := ji_pI h
  clear h
  subst e9
  have h := h9
  clear h9
  obtain ⟨s0, j0, st5, e9, h9⟩ := ji_pA h
  clear h
  subst e9
  have h := h9
  clear h9
  obtain ⟨hcat, h9⟩ := ji_bif h
  clear h
  have h := h9
  clear h9
  have hcat := Nat.le_of_ble_eq_true hcat
  obtain ⟨hg, h9⟩ := ji_if h
  clear h
  have h := h9
  clear h9
  obtain ⟨hj, hn, h9⟩ := ji_gA h
  clear h
  have h := h9
  clear h9
  obtain ⟨hj2, hn2, h9⟩ := ji_gA h
  clear h
  have h := h9
  clear h9
  cases h
  have hn := jw_alive hwf hj hn
  have hn2 := jw_alive hwf hj2 hn2
  obtain ⟨hkk, hS⟩ := jw_cons hS
  obtain ⟨hdp, hS⟩ := jw_cons hS
  obtain ⟨-, hS⟩ := jw_cons hS
  obtain ⟨hsp, hS⟩ := jw_cons hS
  obtain ⟨-, hS⟩ := jw_cons hS
  have hkk : jx_in kk := hkk
  have hdp : jx_in dp := hdp
  have hsp : jx_in sp := hsp
  refine jk_mem hwf hS hj2 hn2 (fun s' j' k hne => by unfold jx_cpy; rw [if_neg (fun q => hne ⟨q.1, q.2.1⟩)]) (fun k => by unfold jx_cpy; split <;> exact hwf.2.2.2.1.1 _ _ _) hpc (fun ⟨hx, hb, hml, hown, hts, hnm, hG, hfr, hlo, hx9, hX⟩ H locs lsr h1 h2 h3 k => ?_)
  have hat := jw_at h1 hj hn
  rw [jw_ce1 hg.1.1] at hat
  have hat2 := jw_at h1 hj2 hn2
  rw [jw_ce1 hg.1.2] at hat2
  show W p l e R s mm args below meth c H locs _ _ Q (F0 mm (jx_pc x i) lsr (.int (Int32.ofInt kk) :: .int (Int32.ofInt dp) :: .ref (jx_ad E t0 j2) :: .int (Int32.ofInt sp) :: .ref (jx_ad E s0 j0) :: st5.map (jx_con E)))
  rw [jy_ad hj, jy_ad hj2]
  refine jp_copy hx hb (by rw [hml]; exact h3.1.symm) hown (hts _ (jx_at_mem hA)) (hts _ (jx_at_mem jx_copyW.1)) (hts _ (jx_at_mem jx_copyW.2.1)) (hts _ (jx_at_mem jx_copyW.2.2.1)) hG hat hat2 (by rw [jn_lt0 hsp]; omega) (by rw [jn_lt0 hdp]; omega) (by rw [jn_lt0 hkk]; omega) (by rw [jn_cl hsp, jn_cl hkk]; omega) (by rw [jn_cl hdp, jn_cl hkk]; omega) (by omega) (by rw [jv_cats]; omega) hd (fun H1 ls1 a1 a2 a3 a4 => k H1 ls1 ?_ a2 a3 a4)
  rw [jw_ce1 hg.1.2]
  rw [jn_cl hsp, jn_cl hdp, jn_cl hkk] at a1
  have ef : (fun k => Int32.ofInt (jx_cpy m s0 j0 sp.toNat t0 j2 dp.toNat kk.toNat t0 j2 k)) = va_cpy (fun k => Int32.ofInt (m s0 j0 k)) (fun k => Int32.ofInt (m t0 j2 k)) sp.toNat dp.toNat kk.toNat := by
    funext q
    unfold va_cpy jx_cpy
    by_cases e1 : dp.toNat ≤ q ∧ q < dp.toNat + kk.toNat
    · rw [if_pos e1, if_pos ⟨rfl, rfl, e1⟩]
    · rw [if_neg e1, if_neg (fun z => e1 z.2.2)]
  rw [ef]
  exact a1
end
end
section
/-! the small machine's run is the machine's -/
section
variable {E : jx_E} {ph : Bool} {xs : Nat → Int} {L : Int} {p : Program} {l : Launch} {e : Env} {R : Room} {s : State} {mm : MethodId} {args : Array Value} {below : List Frame} {meth : Method} {c : Code} {Q : State → Prop} {n0 x : Nat}
theorem ji_call {y : Nat} {vir : Bool} {st : List jx_V} {n : Nat} {q : jx_Q} (h : jx_call none (fun c hd a => @ite _ c hd a none) (fun y as rest => some (.inr (y, as, rest))) ph vir y st n = some q) :
    ∃ as rest, q = .inr (y, as, rest) ∧ st = as.reverse ++ rest ∧ as.length = jx_mA y ∧ jx_cats rest ≤ 8 ∧ (vir = true → ∃ s0 j0 tl, as = xA s0 j0 :: tl ∧ jx_sK s0 = 0 ∧ jx_sP s0 = jx_mC y ∧ j0 < jx_sC s0 ∧ (ph = false → jx_pos s0 j0 < n)) := by
  unfold jx_call at h
  obtain ⟨hc, h9⟩ := ji_bif h
  clear h
  obtain ⟨h1, h2⟩ := ji_and hc
  have h1 := Nat.le_of_ble_eq_true h1
  have h2 := Nat.le_of_ble_eq_true h2
  have e1 : st = (st.take (jx_mA y)).reverse.reverse ++ st.drop (jx_mA y) := by rw [List.reverse_reverse, List.take_append_drop]
  have e2 : (st.take (jx_mA y)).reverse.length = jx_mA y := by rw [List.length_reverse, List.length_take]; omega
  cases vir
  · cases h9
    exact ⟨_, _, rfl, e1, e2, h2, fun z => by cases z⟩
  · obtain ⟨s0, j0, tl, ea, h⟩ := ji_pA h9
    obtain ⟨hk, h8⟩ := ji_bif h
    obtain ⟨hk, hk2⟩ := ji_and hk
    obtain ⟨hj, hn, h7⟩ := ji_gA h8
    cases h7
    exact ⟨_, _, rfl, e1, e2, h2, fun _ => ⟨s0, j0, tl, ea, ji_beq hk, ji_beq hk2, hj, hn⟩⟩
set_option maxHeartbeats 4000000 in
theorem jk_step {i : Nat} {ls : jx_L} {st : List jx_V} {n : Nat} {m : jx_M} {t' : jx_S} (hok : jx_okR x i = true) (hwf : jx_wf ph xs L x (i, ls, st, n, m)) (h : jx_step ph (jx_row x i) (i, ls, st, n, m) = some (.inl t')) : jx_K E ph xs L p l e R s mm args below meth c Q n0 x (i, ls, st, n, m) t' := by
  cases ho : (jx_row x i).1
  case iconst k0 => exact jo_iconst hok hwf ho h
  case bipush k0 => exact jo_bipush hok hwf ho h
  case sipush k0 => exact jo_sipush hok hwf ho h
  case ldc k0 => exact jo_ldc hok hwf ho h
  case lconst k0 => exact jo_lconst hok hwf ho h
  case iload_n k0 => exact jo_iload_n hok hwf ho h
  case iload k0 => exact jo_iload hok hwf ho h
  case lload_n k0 => exact jo_lload_n hok hwf ho h
  case lload k0 => exact jo_lload hok hwf ho h
  case aload_n k0 => exact jo_aload_n hok hwf ho h
  case aload k0 => exact jo_aload hok hwf ho h
  case istore_n k0 => exact jo_istore_n hok hwf ho h
  case istore k0 => exact jo_istore hok hwf ho h
  case astore_n k0 => exact jo_astore_n hok hwf ho h
  case astore k0 => exact jo_astore hok hwf ho h
  case iadd => exact jo_iadd hok hwf ho h
  case isub => exact jo_isub hok hwf ho h
  case imul => exact jo_imul hok hwf ho h
  case idiv => exact jo_idiv hok hwf ho h
  case irem => exact jo_irem hok hwf ho h
  case ineg => exact jo_ineg hok hwf ho h
  case iand => exact jo_iand hok hwf ho h
  case ior => exact jo_ior hok hwf ho h
  case ixor => exact jo_ixor hok hwf ho h
  case ishl => exact jo_ishl hok hwf ho h
  case ishr => exact jo_ishr hok hwf ho h
  case iushr => exact jo_iushr hok hwf ho h
  case ladd => exact jo_ladd hok hwf ho h
  case land => exact jo_land hok hwf ho h
  case lor => exact jo_lor hok hwf ho h
  case lshl => exact jo_lshl hok hwf ho h
  case lshr => exact jo_lshr hok hwf ho h
  case lushr => exact jo_lushr hok hwf ho h
  case lcmp => exact jo_lcmp hok hwf ho h
  case i2l => exact jo_i2l hok hwf ho h
  case l2i => exact jo_l2i hok hwf ho h
  case i2b => exact jo_i2b hok hwf ho h
  case i2s => exact jo_i2s hok hwf ho h
  case dup => exact jo_dup hok hwf ho h
  case pop => exact jo_pop hok hwf ho h
  case dup2 => exact jo_dup2 hok hwf ho h
  case goto k0 => exact jo_goto hok hwf ho h
  case getfield k0 => exact jo_getfield hok hwf ho h
  case putfield k0 => exact jo_putfield hok hwf ho h
  case iaload => exact jo_iaload hok hwf ho h
  case iastore => exact jo_iastore hok hwf ho h
  case aaload => exact jo_aaload hok hwf ho h
  case aastore => exact jo_aastore hok hwf ho h
  case arraylength => exact jo_arraylength hok hwf ho h
  case new k0 => exact jo_new hok hwf ho h
  case newarray k0 => exact jo_newarray hok hwf ho h
  case anewarray k0 => exact jo_anewarray hok hwf ho h
  case ldc_w k0 => exact jo_ldcw hok hwf ho h
  case ldc2_w k0 => exact jo_ldc2 hok hwf ho h
  case iinc k0 k1 => exact jo_iinc hok hwf ho h
  case tableswitch a b c0 d => exact jo_tableswitch hok hwf ho h
  case ifCond k0 k1 =>
    cases k0
    · exact jo_if_eq hok hwf ho h
    · exact jo_if_ne hok hwf ho h
    · exact jo_if_lt hok hwf ho h
    · exact jo_if_ge hok hwf ho h
    · exact jo_if_gt hok hwf ho h
    · exact jo_if_le hok hwf ho h
  case if_icmp k0 k1 =>
    cases k0
    · exact jo_icmp_eq hok hwf ho h
    · exact jo_icmp_ne hok hwf ho h
    · exact jo_icmp_lt hok hwf ho h
    · exact jo_icmp_ge hok hwf ho h
    · exact jo_icmp_gt hok hwf ho h
    · exact jo_icmp_le hok hwf ho h
  case invokevirtual k0 =>
    unfold jx_step jx_sem at h
    simp only [ho] at h
    obtain ⟨as, rest, hq, -⟩ := ji_call h
    cases hq
  case invokestatic k0 =>
    by_cases h3 : (jx_row x i).2.2.1 = 3
    · exact jo_copy hok hwf h3 ho h
    by_cases h4 : (jx_row x i).2.2.1 = 4
    · exact jo_mmin hok hwf h4 ho h
    by_cases h5 : (jx_row x i).2.2.1 = 5
    · exact jo_mabs hok hwf h5 ho h
    unfold jx_step jx_sem at h
    simp only [ho] at h
    obtain ⟨as, rest, hq, -⟩ := ji_call h
    cases hq
  case invokespecial k0 =>
    by_cases h3 : (jx_row x i).2.2.1 = 2
    · exact jo_objinit hok hwf h3 ho h
    unfold jx_step jx_sem at h
    simp only [ho] at h
    obtain ⟨as, rest, hq, -⟩ := ji_call h
    cases hq
  all_goals (exfalso; unfold jx_step jx_sem at h; simp only [ho] at h; cases h)
end
end
section
/-! calls, and the run of a whole method -/
section
variable {E : jx_E} {ph : Bool} {xs : Nat → Int} {L : Int} {p : Program} {l : Launch} {e : Env} {R : Room} {s : State} {mm : MethodId} {args : Array Value} {below : List Frame} {meth : Method} {c : Code} {Q : State → Prop} {n0 x : Nat}
abbrev jx_ws (y : Nat) : List Jvm.Cond := Jvm.Cond.code (jx_mN y) (jx_mB y) (jx_mL y) (jx_mR y) :: jx_gw
def jx_Pc (E : jx_E) (ph : Bool) (xs : Nat → Int) (L : Int) (as : List jx_V) (n : Nat) (m : jx_M) : Array Value → State → Prop := fun v U => v = (as.map (jx_con E)).toArray ∧ jx_Wd E ph n m U.heap ∧ jx_G E U ∧ (ph = true → jx_X E xs L U U.heap)
def jx_ret (y : Nat) (z : Int) : Option Value := match jx_mV y with
  | true => none
  | false => some (.int (Int32.ofInt z))
def jx_Qc (E : jx_E) (ph : Bool) (xs : Nat → Int) (L : Int) (y : Nat) (z : Int) (n n' : Nat) (m' : jx_M) : Array Value → State → Outcome → State → Prop := fun _ st o t =>
  o = .returned (jx_ret y z) ∧ jx_Wd E ph n' m' t.heap ∧ (∀ q : Nat, q < E.1 → t.heap[q]? = st.heap[q]?) ∧ jx_wM xs L m' ∧ jx_in z ∧ n ≤ n' ∧ n' ≤ 190 ∧ (ph = true → n' = 190)
abbrev jx_rm (y mc ms : Nat) : Room := { frames := jx_mF y, cells := mc, slots := ms, locals := jx_mO y }
theorem jg_warm {U : State} (hW : s.WarmedH U.vm) (h : jx_G E s) : jx_G E U := ⟨va_K.moved hW.alike h.1, fun a i x q hm => va_Nw.warmM hW (h.2.1 a i x q hm), fun C hm => va_AO.moved hW.alike (h.2.2 C hm)⟩
theorem jg_same {u U : State} (hv : u.vm = U.vm) (h : jx_G E u) : jx_G E U := ⟨va_K.moved (by rw [hv]; exact Vm.Alike.refl _) h.1, fun a i x q hm => va_Nw.same rfl hv (h.2.1 a i x q hm), fun C hm => va_AO.moved (by rw [hv]; exact Vm.Alike.refl _) (h.2.2 C hm)⟩
theorem jg_blind {as : List jx_V} {n : Nat} {m : jx_M} : FrameBlind (jx_Pc E ph xs L as n m) := by
  intro a U g mk h
  obtain ⟨h1, h2, h3, h4⟩ := h
  exact ⟨h1, h2, jg_same (u := U) rfl h3, fun hp => ⟨(h4 hp).1.moved (u := U) (Vm.Alike.refl U.vm), (h4 hp).2⟩⟩
theorem jg_good {ws : List Jvm.Cond} (h : ∀ w ∈ ws, w ∈ jx_gw) : GoodIn jx_gw ws := fun w hw => ⟨h w hw, good_of_word (List.mem_filter.mp (h w hw)).2⟩
theorem jg_pre {as : List jx_V} {n : Nat} {m : jx_M} {H : Heap} {locs : List Loc} (hG : jx_G E s) (hX : ph = true → jx_X E xs L s s.heap) (hW : jx_Wd E ph n m H) (hF : jx_F E s H locs) : PreS s H (jx_Pc E ph xs L as n m) (as.map (jx_con E)) :=
  ⟨jg_blind, fun U hU hw => ⟨rfl, by rw [hU]; exact hW, jg_warm hw hG, fun hp => ⟨by rw [hU]; exact (jw_X (hX hp) hF).moved hw.alike, (hX hp).2⟩⟩⟩
theorem jg_psh {y : Nat} {z : Int} {rest : List jx_V} : (jx_psh y z rest).map (jx_con E) = (jx_ret y z).toList ++ rest.map (jx_con E) := by
  unfold jx_psh jx_ret
  cases jx_mV y <;> rfl
/-- behind a call -/
theorem jr_after {H : Heap} {locs : List Loc} {cells slots mc ms pc : Nat} {lsr : Array Slot} {st0 rest : List Value} {y : Nat} {z : Int} {n n' : Nat} {m' : jx_M} {a : Array Value} (hr : va_Run p l e R s mm args below meth c H locs cells slots mc ms (F0 mm pc lsr st0) rest (jx_Qc E ph xs L y z n n' m' a) (fun q => E.1 ≤ q)) (hF : jx_F E s H locs)
    (kk : ∀ (H1 : Heap) (locs1 : List Loc), jx_Wd E ph n' m' H1 → jx_F E s H1 locs1 → (jx_wM xs L m' ∧ jx_in z ∧ n ≤ n' ∧ n' ≤ 190 ∧ (ph = true → n' = 190)) → W p l e R s mm args below meth c H1 locs1 (cells + mc) (slots + ms) Q (F0 mm (pc + 3) lsr ((jx_ret y z).toList ++ rest))) : W p l e R s mm args below meth c H locs cells slots Q (F0 mm pc lsr st0) := by
  intro T hT X
  obtain ⟨v, st₀, t, T', L', h0, X', hL, e1, e2, ⟨hv, hWd, hk, hp⟩, st⟩ := hr T hT X
  cases hv
  rw [h0] at hk
  obtain ⟨t2, a1, b1⟩ := kk T'.heap (locs ++ L') (by rw [e1]; exact hWd) ⟨hF.1, fun q hq => by rw [e1, hk q hq]; exact hF.2.1 q hq, fun q hq => by
      rcases List.mem_append.mp hq with h | h
      · exact hF.2.2 q h
      · exact hL q h⟩ hp T' rfl X'
  exact ⟨t2, st t2 a1, b1⟩
/-- what jx_okM says of a method -/
theorem jk_okM {y : Nat} (h : jx_okM y = true) : (Jvm.Cond.code (jx_mN y) (jx_mB y) (jx_mL y) (jx_mR y)) ∈ jx_gw ∧ (Jvm.Cond.initialized (jx_mN y).cls) ∈ jx_gw ∧ ((jx_mN y).cls ≠ "java/lang/invoke/MethodHandle" ∧ (jx_mN y).cls ≠ "java/lang/invoke/VarHandle") ∧ plainName (jx_mN y).cls = true ∧
    ((jx_mP y).2.2.1 = 1 → Jvm.Cond.static (jx_mN y) ∈ jx_gw ∧ (parseMethodDescriptor (jx_mN y).desc).map (fun d => d.parameters.length) = some (jx_mA y)) ∧
    ((jx_mP y).2.2.1 = 0 → Jvm.Cond.instanceMethod (jx_mN y) ∈ jx_gw ∧ Jvm.Cond.selects (jx_mN y).cls (jx_mN y) (jx_mN y) ∈ jx_gw ∧ (parseMethodDescriptor (jx_mN y).desc).map (fun d => d.parameters.length + 1) = some (jx_mA y) ∧ (jx_classes.map (·.1))[jx_mC y]? = some (jx_mN y).cls) ∧
    ((jx_mP y).2.2.1 = 3 → Jvm.Cond.instanceMethod (jx_mN y) ∈ jx_gw ∧ (jx_mN y).name = "<init>" ∧ (parseMethodDescriptor (jx_mN y).desc).map (fun d => d.parameters.length + 1) = some (jx_mA y) ∧ jx_mR y = none ∧ jx_mV y = true) := by
  unfold jx_okM at h
  obtain ⟨h1, h⟩ := ji_and h
  obtain ⟨h2, h⟩ := ji_and h
  obtain ⟨h3, h⟩ := ji_and h
  obtain ⟨h4, h⟩ := ji_and h
  refine ⟨jx_at_mem h1, jx_at_mem h2, of_decide_eq_true h3, h4, fun q => ?_, fun q => ?_, fun q => ?_⟩
  · rw [q] at h
    obtain ⟨a, b⟩ := ji_and h
    exact ⟨jx_at_mem a, of_decide_eq_true b⟩
  · rw [q] at h
    obtain ⟨a, b⟩ := ji_and h
    obtain ⟨b, d⟩ := ji_and b
    obtain ⟨d, f⟩ := ji_and d
    exact ⟨jx_at_mem a, jx_at_mem b, of_decide_eq_true d, of_decide_eq_true f⟩
  · rw [q] at h
    obtain ⟨a, b⟩ := ji_and h
    obtain ⟨b, d⟩ := ji_and b
    obtain ⟨d, f⟩ := ji_and d
    obtain ⟨f, g⟩ := ji_and f
    exact ⟨jx_at_mem a, of_decide_eq_true b, of_decide_eq_true d, of_decide_eq_true f, g⟩
theorem jk_par {d : String} {k : Nat} (h : (parseMethodDescriptor d).map (fun d => d.parameters.length + 1) = some k) {j : Nat} (hj : j + 1 = k) : (parseMethodDescriptor d).map (fun d => d.parameters.length) = some j := by
  cases hp : parseMethodDescriptor d with
  | none => rw [hp] at h; cases h
  | some q =>
    rw [hp] at h
    have h : some (q.parameters.length + 1) = some k := h
    have := Option.some.inj h
    show some q.parameters.length = some j
    congr 1
    omega
theorem jk_cons {w : Jvm.Cond} {ws : List Jvm.Cond} (h1 : w ∈ jx_gw) (h2 : ∀ v ∈ ws, v ∈ jx_gw) : ∀ v ∈ w :: ws, v ∈ jx_gw := List.forall_mem_cons.mpr ⟨h1, h2⟩
theorem jk_self : ∀ v ∈ jx_gw, v ∈ jx_gw := fun _ h => h
theorem jk_map {as : List jx_V} {s0 j0 : Nat} {tl rest : List jx_V} (h : as = xA s0 j0 :: tl) : (as.reverse ++ rest).map (jx_con E) = (tl.map (jx_con E)).reverse ++ Value.ref (jx_ad E s0 j0) :: rest.map (jx_con E) := by
  subst h
  simp only [List.reverse_cons, List.append_assoc, List.map_append, List.map_reverse]
  rfl
set_option maxHeartbeats 4000000 in
theorem jk_call (C : jx_C E ph xs L p R s mm args meth c x) {i : Nat} {ls : jx_L} {st : List jx_V} {n : Nat} {m : jx_M} (hok : jx_okR x i = true) (hisC : jx_isC (jx_row x i) = true) (hwf : jx_wf ph xs L x (i, ls, st, n, m)) {y : Nat} {as rest : List jx_V} (h : jx_step ph (jx_row x i) (i, ls, st, n, m) = some (.inr (y, as, rest)))
    {z : Int} {n' mc ms : Nat} {m' : jx_M} (hM : jx_okM y = true → Met l (jx_mN y) (jx_ws y) (jx_rm y mc ms) (jx_Pc E ph xs L as n m) (jx_Qc E ph xs L y z n n' m') mc ms (fun q => E.1 ≤ q)) (hfit : n - n0 + mc ≤ R.cells ∧ jx_SL n - jx_SL n0 + ms ≤ R.slots)
    (kk : ∀ (H1 : Heap) (locs1 : List Loc) (lsr : Array Slot), jx_Wd E ph n' m' H1 → jx_F E s H1 locs1 → lv_has lsr (jx_mL x) (jx_lv E 0 ls) → (jx_wM xs L m' ∧ jx_in z ∧ n ≤ n' ∧ n' ≤ 190 ∧ (ph = true → n' = 190)) → W p l e R s mm args below meth c H1 locs1 (n - n0 + mc) (jx_SL n - jx_SL n0 + ms) Q (F0 mm (jx_pc x (i + 1)) lsr ((jx_psh y z rest).map (jx_con E)))) :
    jx_W E ph p l e R s mm args below meth c Q n0 x (i, ls, st, n, m) ∧ (∀ v ∈ as, jx_wV v) ∧ (∀ v ∈ rest, jx_wV v) := by
  obtain ⟨hx, hb, hml, hown, hts, hnm, hG, hfr, hlo, hx9, hX⟩ := C
  have hS := hwf.2.2.1
  have hA := (ji_and hok).2
  have main : ∀ (as' rest' : List jx_V), as' = as → rest' = rest → st = as'.reverse ++ rest' → (∀ v ∈ as, jx_wV v) ∧ (∀ v ∈ rest, jx_wV v) := by
    intro as' rest' e1 e2 e3
    subst e1; subst e2
    have hS : ∀ v ∈ st, jx_wV v := hS
    rw [e3] at hS
    exact ⟨fun v hv => hS v (List.mem_append_left _ (List.mem_reverse.mpr hv)), fun v hv => hS v (List.mem_append_right _ hv)⟩
  cases ho : (jx_row x i).1
  case invokevirtual k0 =>
    have hd := jk_dec hok ho rfl
    unfold jx_okA at hA
    unfold jx_step jx_sem at h
    simp only [ho] at hA h
    obtain ⟨as', rest', hq, hst, hlen, hcat, hvir⟩ := ji_call h
    have hq : (y, as, rest) = ((jx_row x i).2.1, as', rest') := by cases hq; rfl
    obtain ⟨rfl, rfl, rfl⟩ : y = (jx_row x i).2.1 ∧ as = as' ∧ rest = rest' := by cases hq; exact ⟨rfl, rfl, rfl⟩
    obtain ⟨s0, j0, tl, ea, hk, hk2, hj, hn⟩ := hvir rfl
    have hn := jw_alive hwf hj hn
    obtain ⟨a1, hA⟩ := ji_and hA
    obtain ⟨a2, hA⟩ := ji_and hA
    obtain ⟨a3, hA⟩ := ji_and hA
    obtain ⟨a4, hA⟩ := ji_and hA
    obtain ⟨a5, hpc⟩ := ji_and hA
    have hpc := ji_beq hpc
    have a3 := Nat.le_of_ble_eq_true a3
    have a4 := Nat.le_of_ble_eq_true a4
    obtain ⟨w1, w2, w3, w4, -, w5, -⟩ := jk_okM a1
    obtain ⟨w5, w6, w7, w8⟩ := w5 (ji_beq a2)
    refine ⟨fun H locs lsr h1 h2 h3 => ?_, main _ _ rfl rfl hst⟩
    have hat := jw_at h1 hj hn
    rw [jw_ce0 hk, hk2] at hat
    rw [List.getElem?_map] at w8
    obtain ⟨q, hq1, hq2⟩ := Option.map_eq_some_iff.mp w8
    have hlen2 : tl.length + 1 = jx_mA (jx_row x i).2.1 := by rw [← hlen, ea]; rfl
    have hPS := jg_pre (as := as) hG hX h1 h2
    show W p l e R s mm args below meth c H locs _ _ Q (F0 mm (jx_pc x i) lsr (st.map (jx_con E)))
    rw [hst, jk_map ea]
    have hav : as.map (jx_con E) = Value.ref (jx_ad E s0 j0) :: tl.map (jx_con E) := by rw [ea]; rfl
    refine jr_after (y := (jx_row x i).2.1) (va_runV (own := (jx_mN x).cls) (C := (jx_mN (jx_row x i).2.1).cls) (As := tl.map (jx_con E)) (rest := rest.map (jx_con E)) (b := jx_ad E s0 j0) (Ts := jx_gw) ⟨hx, hb, hml, hown, hts⟩ (hM a1) (cwV tl.length hts (jg_good (jk_cons (jx_at_mem a5) (jk_cons w5 (jk_cons w6 (jk_cons w2 (jk_cons w1 jk_self)))))) rfl rfl rfl ⟨rfl, w3.1, w3.2, jk_par w7 hlen2⟩ ⟨by show jx_mF _ + 1 ≤ _; omega, by show 8 + (_ + 11) + jx_mO _ ≤ _; omega⟩) ⟨hPS.1, ?_, fun U hU hW => by rw [← hav]; exact hPS.2 U hU hW⟩ rfl (by rw [List.length_map]) h3.1 rfl (lv_room (by rw [jv_cats]; exact hcat)) hd hfit) h2 (fun H1 locs1 b1 b2 b3 => ?_)
    · have hr := va_recv hG.1 (jp_one hat) hq1 rfl (a := E.1 + jx_pos s0 j0) (q0 := 0)
      rw [jy_ad hj, ← hq2]
      exact hr
    · have q9 := kk H1 locs1 lsr b1 b2 h3 b3
      rw [hpc, jg_psh] at q9
      exact q9
  case invokestatic k0 =>
    have hd := jk_dec hok ho rfl
    have hne : (jx_row x i).2.2.1 ≠ 3 ∧ (jx_row x i).2.2.1 ≠ 4 ∧ (jx_row x i).2.2.1 ≠ 5 := by
      refine ⟨fun q => ?_, fun q => ?_, fun q => ?_⟩
      · unfold jx_step jx_sem at h
        simp only [ho, q] at h
        obtain ⟨_, _, _, h⟩ := ji_pI h
        obtain ⟨_, _, _, h⟩ := ji_pI h
        obtain ⟨_, _, _, _, h⟩ := ji_pA h
        obtain ⟨_, _, _, h⟩ := ji_pI h
        obtain ⟨_, _, _, _, h⟩ := ji_pA h
        obtain ⟨_, h⟩ := ji_bif h
        obtain ⟨_, h⟩ := ji_if h
        obtain ⟨_, _, h⟩ := ji_gA h
        obtain ⟨_, _, h⟩ := ji_gA h
        cases h
      · unfold jx_step jx_sem at h
        simp only [ho, q] at h
        obtain ⟨_, _, _, h⟩ := ji_pI h
        obtain ⟨_, _, _, h⟩ := ji_pI h
        obtain ⟨_, h⟩ := ji_bif h
        cases h
      · unfold jx_step jx_sem at h
        simp only [ho, q] at h
        obtain ⟨_, _, _, h⟩ := ji_pI h
        obtain ⟨_, h⟩ := ji_bif h
        obtain ⟨_, h⟩ := ji_if h
        cases h
    obtain ⟨n3, n4, n5⟩ := hne
    unfold jx_okA at hA
    unfold jx_step jx_sem at h
    simp only [ho] at hA h
    obtain ⟨as', rest', hq, hst, hlen, hcat, hvir⟩ := ji_call h
    have hq : (y, as, rest) = ((jx_row x i).2.1, as', rest') := by cases hq; rfl
    obtain ⟨rfl, rfl, rfl⟩ : y = (jx_row x i).2.1 ∧ as = as' ∧ rest = rest' := by cases hq; exact ⟨rfl, rfl, rfl⟩
    refine ⟨fun H locs lsr h1 h2 h3 => ?_, main _ _ rfl rfl hst⟩
    have hPS := jg_pre (as := as) hG hX h1 h2
    show W p l e R s mm args below meth c H locs _ _ Q (F0 mm (jx_pc x i) lsr (st.map (jx_con E)))
    rw [hst, List.map_append, List.map_reverse]
    by_cases n1 : (jx_row x i).2.2.1 = 1
    · simp only [n1] at hA
      obtain ⟨a1, hA⟩ := ji_and hA
      obtain ⟨a2, hA⟩ := ji_and hA
      obtain ⟨a3, hA⟩ := ji_and hA
      obtain ⟨a4, hA⟩ := ji_and hA
      obtain ⟨a5, hpc⟩ := ji_and hA
      have hpc := ji_beq hpc
      have a3 := Nat.le_of_ble_eq_true a3
      have a4 := Nat.le_of_ble_eq_true a4
      have a5 := List.mem_of_getElem? (of_decide_eq_true a5)
      obtain ⟨w1, w2, w3, w4, w5, -, -⟩ := jk_okM a1
      obtain ⟨w5, w6⟩ := w5 (ji_beq a2)
      refine jr_after (y := (jx_row x i).2.1) (va_runSN (own := (jx_mN x).cls) (host := "StreetCries") (As := as.map (jx_con E)) (rest := rest.map (jx_con E)) (Ts := jx_gw) ⟨hx, hb, hml, hown, hts⟩ (hM a1) ⟨va_cnB (jx_mA (jx_row x i).2.1) hts (jg_good (jk_cons w1 jk_self)) rfl rfl rfl (hG.2.1 _ _ _ _ a5) (hts _ w2) ⟨w3.1, w3.2, w6⟩ ⟨by show jx_mF _ + 1 ≤ _; omega, by show 8 + (_ + 11) + jx_mO _ ≤ _; omega⟩, hts _ w5, trivial⟩ hPS rfl (by rw [List.length_map]; exact hlen) h3.1 rfl (lv_room (by rw [jv_cats]; exact hcat)) hd hfit) h2 (fun H1 locs1 b1 b2 b3 => ?_)
      have q9 := kk H1 locs1 lsr b1 b2 h3 b3
      rw [hpc, jg_psh] at q9
      exact q9
    · have hA2 : (jx_okM (jx_row x i).2.1 && (Nat.beq (jx_mP (jx_row x i).2.1).2.2.1 1 && (Nat.ble (jx_mF (jx_row x i).2.1 + 1) (jx_mF x) && (Nat.ble (8 + (jx_mL (jx_row x i).2.1 + 11) + jx_mO (jx_row x i).2.1) (jx_mO x) && (jx_at (jx_row x i).2.2.2.toNat (.methodLink (jx_mN x).cls k0 (jx_mN (jx_row x i).2.1)) && Nat.beq (jx_pc x (i + 1)) (jx_pc x i + jx_ln (.invokestatic k0))))))) = true := by
        split at hA
        · rename_i q; exact absurd q n3
        · rename_i q; exact absurd q n4
        · rename_i q; exact absurd q n5
        · rename_i q; exact absurd q n1
        · exact hA
      obtain ⟨a1, hA⟩ := ji_and hA2
      obtain ⟨a2, hA⟩ := ji_and hA
      obtain ⟨a3, hA⟩ := ji_and hA
      obtain ⟨a4, hA⟩ := ji_and hA
      obtain ⟨a5, hpc⟩ := ji_and hA
      have hpc := ji_beq hpc
      have a3 := Nat.le_of_ble_eq_true a3
      have a4 := Nat.le_of_ble_eq_true a4
      obtain ⟨w1, w2, w3, w4, w5, -, -⟩ := jk_okM a1
      obtain ⟨w5, w6⟩ := w5 (ji_beq a2)
      refine jr_after (y := (jx_row x i).2.1) (va_runS (own := (jx_mN x).cls) (As := as.map (jx_con E)) (rest := rest.map (jx_con E)) (Ts := jx_gw) ⟨hx, hb, hml, hown, hts⟩ (hM a1) (va_cwS (jx_mA (jx_row x i).2.1) hts (jg_good (jk_cons (jx_at_mem a5) (jk_cons w5 (jk_cons w2 (jk_cons w1 jk_self))))) rfl rfl rfl ⟨w3.1, w3.2, w6⟩ ⟨by show jx_mF _ + 1 ≤ _; omega, by show 8 + (_ + 11) + jx_mO _ ≤ _; omega⟩) hPS rfl (by rw [List.length_map]; exact hlen) h3.1 rfl (lv_room (by rw [jv_cats]; exact hcat)) hd hfit) h2 (fun H1 locs1 b1 b2 b3 => ?_)
      have q9 := kk H1 locs1 lsr b1 b2 h3 b3
      rw [hpc, jg_psh] at q9
      exact q9
  case invokespecial k0 =>
    have hd := jk_dec hok ho rfl
    have n2 : (jx_row x i).2.2.1 ≠ 2 := by
      intro q
      unfold jx_step jx_sem at h
      simp only [ho, q] at h
      obtain ⟨_, _, _, _, h⟩ := ji_pA h
      obtain ⟨_, h⟩ := ji_bif h
      cases h
    unfold jx_okA at hA
    unfold jx_step jx_sem at h
    simp only [ho] at hA h
    obtain ⟨as', rest', hq, hst, hlen, hcat, hvir⟩ := ji_call h
    have hq : (y, as, rest) = ((jx_row x i).2.1, as', rest') := by cases hq; rfl
    obtain ⟨rfl, rfl, rfl⟩ : y = (jx_row x i).2.1 ∧ as = as' ∧ rest = rest' := by cases hq; exact ⟨rfl, rfl, rfl⟩
    obtain ⟨s0, j0, tl, ea, -, -, -, -⟩ := hvir rfl
    refine ⟨fun H locs lsr h1 h2 h3 => ?_, main _ _ rfl rfl hst⟩
    have hlen2 : tl.length + 1 = jx_mA (jx_row x i).2.1 := by rw [← hlen, ea]; rfl
    have hPS := jg_pre (as := as) hG hX h1 h2
    have hav : as.map (jx_con E) = Value.ref (jx_ad E s0 j0) :: tl.map (jx_con E) := by rw [ea]; rfl
    rw [hav] at hPS
    show W p l e R s mm args below meth c H locs _ _ Q (F0 mm (jx_pc x i) lsr (st.map (jx_con E)))
    rw [hst, jk_map ea]
    by_cases n1 : (jx_row x i).2.2.1 = 1
    · simp only [n1] at hA
      obtain ⟨a1, hA⟩ := ji_and hA
      obtain ⟨a2, hA⟩ := ji_and hA
      obtain ⟨a3, hA⟩ := ji_and hA
      obtain ⟨a4, hA⟩ := ji_and hA
      obtain ⟨a5, hpc⟩ := ji_and hA
      have hpc := ji_beq hpc
      have a3 := Nat.le_of_ble_eq_true a3
      have a4 := Nat.le_of_ble_eq_true a4
      have a5 := List.mem_of_getElem? (of_decide_eq_true a5)
      obtain ⟨w1, w2, w3, w4, -, -, w5⟩ := jk_okM a1
      obtain ⟨w5, w6, w7, w8, w9⟩ := w5 (ji_beq a2)
      have hws : jx_ws (jx_row x i).2.1 = Jvm.Cond.code (jx_mN (jx_row x i).2.1) (jx_mB (jx_row x i).2.1) (jx_mL (jx_row x i).2.1) none :: jx_gw := by show Jvm.Cond.code _ _ _ _ :: jx_gw = _; rw [w8]
      refine jr_after (y := (jx_row x i).2.1) (va_runIN (own := (jx_mN x).cls) (host := "StreetCries") (As := tl.map (jx_con E)) (rest := rest.map (jx_con E)) (b := jx_ad E s0 j0) (Ts := jx_gw) ⟨hx, hb, hml, hown, hts⟩ (hM a1) ⟨va_cnB tl.length hts (jg_good (jk_cons w1 jk_self)) hws rfl rfl (hG.2.1 _ _ _ _ a5) (hts _ w2) ⟨w3.1, w3.2, jk_par w7 hlen2⟩ ⟨by show jx_mF _ + 1 ≤ _; omega, by show 8 + (_ + 11) + jx_mO _ ≤ _; omega⟩, w6, hts _ w5⟩ hPS rfl (by rw [List.length_map]) h3.1 rfl (lv_room (by rw [jv_cats]; exact hcat)) hd hfit) h2 (fun H1 locs1 b1 b2 b3 => ?_)
      have q9 := kk H1 locs1 lsr b1 b2 h3 b3
      rw [hpc, jg_psh] at q9
      exact q9
    · have hA2 : (jx_okM (jx_row x i).2.1 && (Nat.beq (jx_mP (jx_row x i).2.1).2.2.1 3 && (Nat.ble (jx_mF (jx_row x i).2.1 + 1) (jx_mF x) && (Nat.ble (8 + (jx_mL (jx_row x i).2.1 + 11) + jx_mO (jx_row x i).2.1) (jx_mO x) && (jx_at (jx_row x i).2.2.2.toNat (.methodLink (jx_mN x).cls k0 (jx_mN (jx_row x i).2.1)) && Nat.beq (jx_pc x (i + 1)) (jx_pc x i + jx_ln (.invokespecial k0))))))) = true := by
        split at hA
        · rename_i q; exact absurd q n2
        · rename_i q; exact absurd q n1
        · exact hA
      obtain ⟨a1, hA⟩ := ji_and hA2
      obtain ⟨a2, hA⟩ := ji_and hA
      obtain ⟨a3, hA⟩ := ji_and hA
      obtain ⟨a4, hA⟩ := ji_and hA
      obtain ⟨a5, hpc⟩ := ji_and hA
      have hpc := ji_beq hpc
      have a3 := Nat.le_of_ble_eq_true a3
      have a4 := Nat.le_of_ble_eq_true a4
      obtain ⟨w1, w2, w3, w4, -, -, w5⟩ := jk_okM a1
      obtain ⟨w5, w6, w7, w8, w9⟩ := w5 (ji_beq a2)
      have hws : jx_ws (jx_row x i).2.1 = Jvm.Cond.code (jx_mN (jx_row x i).2.1) (jx_mB (jx_row x i).2.1) (jx_mL (jx_row x i).2.1) none :: jx_gw := by show Jvm.Cond.code _ _ _ _ :: jx_gw = _; rw [w8]
      refine jr_after (y := (jx_row x i).2.1) (va_runI (own := (jx_mN x).cls) (As := tl.map (jx_con E)) (rest := rest.map (jx_con E)) (b := jx_ad E s0 j0) (Ts := jx_gw) ⟨hx, hb, hml, hown, hts⟩ (hM a1) (cwI tl.length hts (jg_good (jk_cons w1 jk_self)) hws rfl rfl (hts _ w2) (hts _ (jx_at_mem a5)) (hts _ w5) w6 ⟨w3.1, w3.2, jk_par w7 hlen2⟩ ⟨by show jx_mF _ + 1 ≤ _; omega, by show 8 + (_ + 11) + jx_mO _ ≤ _; omega⟩) hPS rfl (by rw [List.length_map]) h3.1 rfl (lv_room (by rw [jv_cats]; exact hcat)) hd hfit) h2 (fun H1 locs1 b1 b2 b3 => ?_)
      have q9 := kk H1 locs1 lsr b1 b2 h3 b3
      rw [hpc, jg_psh] at q9
      exact q9
  all_goals (exfalso; unfold jx_isC at hisC; rw [ho] at hisC; cases hisC)
end
end
section
/-! the run of a method, whole -/
section
variable {E : jx_E} {ph : Bool} {xs : Nat → Int} {L : Int} {p : Program} {l : Launch} {e : Env} {R : Room} {s : State} {mm : MethodId} {args : Array Value} {below : List Frame} {meth : Method} {c : Code} {Q : State → Prop} {n0 x : Nat}
theorem jg_nop {x i : Nat} (h : (jx_row x i).1 ≠ .nop) : i < (jx_nth jx_cd x []).length ∧ x < 192 := by
  have h1 : i < (jx_nth jx_cd x []).length := by
    rcases Nat.lt_or_ge i (jx_nth jx_cd x []).length with q | q
    · exact q
    · exact absurd (by unfold jx_row; rw [jl_nth_out _ _ _ q]) h
  refine ⟨h1, ?_⟩
  rcases Nat.lt_or_ge x 192 with q | q
  · exact q
  · rw [jl_nth_out _ _ _ (show jx_cd.length ≤ x from q)] at h1
    cases h1
theorem jg_stepRow {x i : Nat} {t : jx_S} {q : jx_Q} (h : jx_step ph (jx_row x i) t = some q) : i < (jx_nth jx_cd x []).length ∧ x < 192 := by
  refine jg_nop (fun e1 => ?_)
  unfold jx_step jx_sem at h
  simp only [e1] at h
  cases h
theorem jg_retRow {x i : Nat} {st : List jx_V} {z : Int} (h : jx_rv x (jx_row x i) st = some z) : i < (jx_nth jx_cd x []).length ∧ x < 192 := by
  refine jg_nop (fun e1 => ?_)
  unfold jx_rv at h
  simp only [e1] at h
  cases h
theorem jg_pcs : ((List.range 192).all (fun x => Nat.beq (jx_pc x 0) 0)) = true := by decide +kernel
theorem jg_pc0 {x : Nat} (h : x < 192) : jx_pc x 0 = 0 := ji_beq (List.all_eq_true.mp jg_pcs x (List.mem_range.mpr h))
-- a method's locals at its start
theorem jt_exp : ∀ (as : List jx_V) (o : Nat), jx_lv E o (jx_exp as) = lv_args o (as.map (jx_con E))
  | [], o => rfl
  | .inl z :: as, o => by
    show (o, jx_con E (.inl z)) :: jx_lv E (o + 1) (jx_exp as) = _
    rw [jt_exp as (o + 1)]
    rfl
  | .inr (.inl z) :: as, o => by
    show (o, jx_con E (.inr (.inl z))) :: jx_lv E (o + 2) (jx_exp as) = _
    rw [jt_exp as (o + 2)]
    rfl
  | .inr (.inr q) :: as, o => by
    show (o, jx_con E (.inr (.inr q))) :: jx_lv E (o + 1) (jx_exp as) = _
    rw [jt_exp as (o + 1)]
    rfl
theorem jt_pad0 : ∀ (k o : Nat), jx_lv E o (jx_pad [] k) = []
  | 0, o => rfl
  | k + 1, o => jt_pad0 k (o + 1)
theorem jt_pad : ∀ (ls : jx_L) (k o : Nat), jx_lv E o (jx_pad ls k) = jx_lv E o ls
  | ls, 0, o => by cases ls <;> rfl
  | [], k + 1, o => jt_pad0 (k + 1) o
  | some v :: ls, k + 1, o => by
    show (o, jx_con E v) :: jx_lv E (o + 1) (jx_pad ls k) = (o, jx_con E v) :: jx_lv E (o + 1) ls
    rw [jt_pad ls k (o + 1)]
  | none :: ls, k + 1, o => jt_pad ls k (o + 1)
theorem jt_len : ∀ (ls : jx_L) (k : Nat), ls.length ≤ k → (jx_pad ls k).length = k
  | [], 0, _ => rfl
  | v :: ls, 0, h => by simp at h
  | [], k + 1, _ => by
    show (jx_pad [] k).length + 1 = k + 1
    rw [jt_len [] k (Nat.zero_le _)]
  | v :: ls, k + 1, h => by
    show (jx_pad ls k).length + 1 = k + 1
    rw [jt_len ls k (by simpa using h)]
theorem jt_nth : ∀ (ls : jx_L) (k i : Nat), jx_nth (jx_pad ls k) i none = jx_nth ls i none
  | ls, 0, i => by cases ls <;> rfl
  | [], k + 1, 0 => rfl
  | [], k + 1, i + 1 => by
    show jx_nth (jx_pad [] k) i none = none
    rw [jt_nth [] k i]
    cases i <;> rfl
  | v :: ls, k + 1, 0 => rfl
  | v :: ls, k + 1, i + 1 => jt_nth ls k i
theorem jt_wf : ∀ (as : List jx_V), (∀ v ∈ as, jx_wV v) → ∀ i v, jx_nth (jx_exp as) i none = some v → jx_wV v
  | [], _, i, v, h => by cases i <;> cases h
  | .inl z :: as, hw, 0, v, h => by cases h; exact hw _ List.mem_cons_self
  | .inl z :: as, hw, i + 1, v, h => jt_wf as (fun v hv => hw v (List.mem_cons_of_mem _ hv)) i v h
  | .inr (.inr q) :: as, hw, 0, v, h => by cases h; exact trivial
  | .inr (.inr q) :: as, hw, i + 1, v, h => jt_wf as (fun v hv => hw v (List.mem_cons_of_mem _ hv)) i v h
  | .inr (.inl z) :: as, hw, 0, v, h => by cases h; exact hw _ List.mem_cons_self
  | .inr (.inl z) :: as, hw, 1, v, h => by cases h
  | .inr (.inl z) :: as, hw, i + 2, v, h => jt_wf as (fun v hv => hw v (List.mem_cons_of_mem _ hv)) i v h
theorem jt_sl : ∀ (as : List jx_V), (lg_sl (as.map (jx_con E))).length = (jx_exp as).length
  | [] => rfl
  | .inl z :: as => by
    have ih := jt_sl as
    unfold lg_sl at ih ⊢
    rw [List.map_cons, List.flatMap_cons, List.length_append, ih]
    show 1 + _ = (jx_exp as).length + 1
    omega
  | .inr (.inr q) :: as => by
    have ih := jt_sl as
    unfold lg_sl at ih ⊢
    rw [List.map_cons, List.flatMap_cons, List.length_append, ih]
    show 1 + _ = (jx_exp as).length + 1
    omega
  | .inr (.inl z) :: as => by
    have ih := jt_sl as
    unfold lg_sl at ih ⊢
    rw [List.map_cons, List.flatMap_cons, List.length_append, ih]
    show 2 + _ = (jx_exp as).length + 1 + 1
    omega
theorem jt_ent {y : Nat} {as : List jx_V} {n : Nat} {m : jx_M} (has : ∀ v ∈ as, jx_wV v) (hl : (jx_exp as).length ≤ jx_mL y) (hM : jx_wM xs L m ∧ (ph = true → n = 190) ∧ n ≤ 190) : jx_wf ph xs L y (0, jx_ent y as, [], n, m) :=
  ⟨fun k v h => jt_wf as has k v (by have h : jx_nth (jx_pad (jx_exp as) (jx_mL y)) k none = some v := h; rw [jt_nth] at h; exact h), jt_len _ _ hl, (fun v h => by cases h), hM⟩
theorem jt_rv {y : Nat} {t : jx_S} {z : Int} (hwf : jx_wf ph xs L y t) (h : jx_rv y (jx_row y t.1) t.2.2.1 = some z) : jx_in z := by
  unfold jx_rv at h
  split at h
  · rename_i v e1 e2
    have hv : jx_in v := hwf.2.2.1 (.inl v) (by rw [e2]; exact List.mem_cons_self)
    cases h1 : jx_mV y
    · simp only [h1, cond_false] at h
      cases hb : ((jx_row y t.1).2.1 == 1)
      · simp only [hb, cond_false] at h; cases h; exact hv
      · simp only [hb, cond_true] at h
        obtain ⟨-, h⟩ := ji_if h; cases h; exact hv
    · simp only [h1, cond_true] at h
      cases h
  · cases h1 : jx_mV y
    · simp only [h1, cond_false] at h; cases h
    · simp only [h1, cond_true] at h; cases h; omega
  · cases h
/-- arguments and what stays behind on the stack at a call -/
theorem jt_inr {i : Nat} {ls : jx_L} {st : List jx_V} {n : Nat} {m : jx_M} {y : Nat} {as rest : List jx_V} (hisC : jx_isC (jx_row x i) = true) (hwf : jx_wf ph xs L x (i, ls, st, n, m)) (h : jx_step ph (jx_row x i) (i, ls, st, n, m) = some (.inr (y, as, rest))) : (∀ v ∈ as, jx_wV v) ∧ ∀ v ∈ rest, jx_wV v := by
  have hS := hwf.2.2.1
  have main : st = as.reverse ++ rest → (∀ v ∈ as, jx_wV v) ∧ (∀ v ∈ rest, jx_wV v) := by
    intro e3
    have hS : ∀ v ∈ st, jx_wV v := hS
    rw [e3] at hS
    exact ⟨fun v hv => hS v (List.mem_append_left _ (List.mem_reverse.mpr hv)), fun v hv => hS v (List.mem_append_right _ hv)⟩
  have fin : ∀ {vir : Bool}, jx_call none (fun c hd a => @ite _ c hd a none) (fun y as rest => some (.inr (y, as, rest))) ph vir (jx_row x i).2.1 st n = some (Sum.inr (y, as, rest) : jx_Q) → (∀ v ∈ as, jx_wV v) ∧ (∀ v ∈ rest, jx_wV v) := by
    intro vir h
    obtain ⟨as', rest', hq, hst, -⟩ := ji_call h
    cases hq
    exact main hst
  cases ho : (jx_row x i).1
  case invokevirtual k0 =>
    unfold jx_step jx_sem at h
    simp only [ho] at h
    exact fin h
  case invokestatic k0 =>
    unfold jx_step jx_sem at h
    simp only [ho] at h
    split at h
    · obtain ⟨_, _, _, h⟩ := ji_pI h
      obtain ⟨_, _, _, h⟩ := ji_pI h
      obtain ⟨_, _, _, _, h⟩ := ji_pA h
      obtain ⟨_, _, _, h⟩ := ji_pI h
      obtain ⟨_, _, _, _, h⟩ := ji_pA h
      obtain ⟨_, h⟩ := ji_bif h
      obtain ⟨_, h⟩ := ji_if h
      obtain ⟨_, _, h⟩ := ji_gA h
      obtain ⟨_, _, h⟩ := ji_gA h
      cases h
    · obtain ⟨_, _, _, h⟩ := ji_pI h
      obtain ⟨_, _, _, h⟩ := ji_pI h
      obtain ⟨_, h⟩ := ji_bif h
      cases h
    · obtain ⟨_, _, _, h⟩ := ji_pI h
      obtain ⟨_, h⟩ := ji_bif h
      obtain ⟨_, h⟩ := ji_if h
      cases h
    · exact fin h
  case invokespecial k0 =>
    unfold jx_step jx_sem at h
    simp only [ho] at h
    split at h
    · obtain ⟨_, _, _, _, h⟩ := ji_pA h
      obtain ⟨_, h⟩ := ji_bif h
      cases h
    · exact fin h
  all_goals (exfalso; unfold jx_isC at hisC; rw [ho] at hisC; cases hisC)
/-- what one turn of the run is -/
theorem jt_go {k x stop : Nat} {t0 t : jx_S} (h : jx_go ph (k + 1) x stop t0 = some t) : t = t0 ∨ (∃ t1, jx_step ph (jx_row x t0.1) t0 = some (.inl t1) ∧ jx_go ph k x stop t1 = some t) ∨
    (∃ y as rest u z, jx_step ph (jx_row x t0.1) t0 = some (.inr (y, as, rest)) ∧ jx_isC (jx_row x t0.1) = true ∧ (jx_exp as).length ≤ jx_mL y ∧ jx_go ph k y 100000 (0, jx_ent y as, [], t0.2.2.2.1, t0.2.2.2.2) = some u ∧ jx_rv y (jx_row y u.1) u.2.2.1 = some z ∧ jx_go ph k x stop (t0.1 + 1, t0.2.1, jx_psh y z rest, u.2.2.2.1, u.2.2.2.2) = some t) := by
  unfold jx_go at h
  rcases ji_br h with ⟨-, h1⟩ | ⟨-, h1⟩
  · left; cases h1; rfl
  · clear h
    split at h1
    · cases h1
    · rename_i t1 e1
      exact Or.inr (Or.inl ⟨t1, e1, h1⟩)
    · rename_i y as rest e1
      obtain ⟨hc, h2⟩ := ji_bif h1
      obtain ⟨hc, hl⟩ := ji_and hc
      split at h2
      · cases h2
      · rename_i u e2
        split at h2
        · cases h2
        · rename_i z e3
          exact Or.inr (Or.inr ⟨y, as, rest, u, z, e1, hc, Nat.le_of_ble_eq_true hl, e2, e3, h2⟩)
theorem jg_pure (E : jx_E) (p : Program) (l : Launch) (e : Env) (R : Room) (s : State) (mm : MethodId) (args : Array Value) (below : List Frame) (meth : Method) (c : Code) (Q : State → Prop) : ∀ (k x stop : Nat) (t0 t : jx_S), jx_go ph k x stop t0 = some t → jx_wf ph xs L x t0 → jx_wf ph xs L x t ∧ t0.2.2.2.1 ≤ t.2.2.2.1
  | 0, x, stop, t0, t, h, _ => by cases h
  | k + 1, x, stop, t0, t, h, hwf => by
    rcases jt_go h with rfl | ⟨t1, h1, h2⟩ | ⟨y, as, rest, u, z, h1, hc, hl, h2, h3, h4⟩
    · exact ⟨hwf, Nat.le_refl _⟩
    · obtain ⟨i, ls, st, n, m⟩ := t0
      obtain ⟨hi, hx⟩ := jg_stepRow h1
      have K := jk_step (E := E) (p := p) (l := l) (e := e) (R := R) (s := s) (mm := mm) (args := args) (below := below) (meth := meth) (c := c) (Q := Q) (n0 := 0) (jx_ck x hx i hi) hwf h1
      have r := jg_pure E p l e R s mm args below meth c Q k x stop t1 t h2 K.1
      exact ⟨r.1, Nat.le_trans K.2.1 r.2⟩
    · obtain ⟨i, ls, st, n, m⟩ := t0
      obtain ⟨ha, hr⟩ := jt_inr hc hwf h1
      have ru := jg_pure E p l e R s mm args below meth c Q k y 100000 _ u h2 (jt_ent ha hl ⟨hwf.2.2.2.1, hwf.2.2.2.2⟩)
      have hz := jt_rv ru.1 h3
      have r := jg_pure E p l e R s mm args below meth c Q k x stop _ t h4 ⟨hwf.1, hwf.2.1, by
        unfold jx_psh
        show ∀ v ∈ (match jx_mV y with | true => rest | false => xI z :: rest), jx_wV v
        cases jx_mV y
        · exact jw_mk hz hr
        · exact hr, ru.1.2.2.2⟩
      exact ⟨r.1, Nat.le_trans ru.2 r.2⟩
/-- a method's contract out of its run -/
theorem jg_met {k y : Nat} {as : List jx_V} {n : Nat} {m : jx_M} {u : jx_S} {z : Int}
    (IH : ∀ {E : jx_E} {p : Program} {l : Launch} {e : Env} {R : Room} {s : State} {mm : MethodId} {args : Array Value} {below : List Frame} {meth : Method} {c : Code} {Q : State → Prop} {n0 x stop : Nat} {t0 t : jx_S}, jx_C E ph xs L p R s mm args meth c x → jx_go ph k x stop t0 = some t → jx_wf ph xs L x t0 → n0 ≤ t0.2.2.2.1 → t.2.2.2.1 - n0 ≤ R.cells → jx_SL t.2.2.2.1 - jx_SL n0 ≤ R.slots → jx_W E ph p l e R s mm args below meth c Q n0 x t → jx_W E ph p l e R s mm args below meth c Q n0 x t0)
    (hok : jx_okM y = true) (hg : jx_go ph k y 100000 (0, jx_ent y as, [], n, m) = some u) (hz : jx_rv y (jx_row y u.1) u.2.2.1 = some z) (hwf : jx_wf ph xs L y (0, jx_ent y as, [], n, m)) (hl : (jx_exp as).length ≤ jx_mL y) :
    Met l (jx_mN y) (jx_ws y) (jx_rm y (u.2.2.2.1 - n) (jx_SL u.2.2.2.1 - jx_SL n)) (jx_Pc E ph xs L as n m) (jx_Qc E ph xs L y z n u.2.2.2.1 u.2.2.2.2) (u.2.2.2.1 - n) (jx_SL u.2.2.2.1 - jx_SL n) (fun q => E.1 ≤ q) := by
  obtain ⟨w1, w2, w3, w4, -, -, -⟩ := jk_okM hok
  refine Met.ofW (cc := jx_mB y) (maxL := jx_mL y) (ret := jx_mR y) w4 rfl ?_
  intro p e s mm args below meth c s₁ B hml hv
  obtain ⟨hargs, hWd, hG, hX⟩ := hv
  obtain ⟨hi, hy⟩ := jg_retRow hz
  have hrow := jx_ck y hy u.1 hi
  have pu := jg_pure (xs := xs) (L := L) (ph := ph) E p l e (jx_rm y 0 0) s mm args below meth c (fun _ => True) k y 100000 _ u hg hwf
  have hts : ∀ w ∈ jx_gw, w.before args s = true := fun w hw => atoms_spec (ws := jx_ws y) B.pre w (List.mem_cons_of_mem _ hw)
  have C : jx_C E ph xs L p (headSpec (jx_ws y) (jx_rm y (u.2.2.2.1 - n) (jx_SL u.2.2.2.1 - jx_SL n))).room s mm args meth c y :=
    ⟨B.exec, B.bytes, hml, findClass_of_methodNamed B.named, hts, (fun q => by rw [(name_of_methodNamed B.named B.method).1]; exact q), hG, Nat.le_refl _, Nat.le_refl _, hy, hX⟩
  have key : jx_W E ph p l e (headSpec (jx_ws y) (jx_rm y (u.2.2.2.1 - n) (jx_SL u.2.2.2.1 - jx_SL n))).room s mm args below meth c (MQ below (jx_Qc E ph xs L y z n u.2.2.2.1 u.2.2.2.2) args s (u.2.2.2.1 - n) (jx_SL u.2.2.2.1 - jx_SL n) (fun q => E.1 ≤ q)) n y (0, jx_ent y as, [], n, m) := by
    refine IH C hg hwf (Nat.le_refl n) (Nat.le_refl _) (Nat.le_refl _) (fun H locs lsr h1 h2 h3 => ?_)
    have hq : ∀ (v : Option Value), v = jx_ret y z → ∀ t : State, t.heap = H → s.WarmedH t.vm → jx_Qc E ph xs L y z n u.2.2.2.1 u.2.2.2.2 args s (.returned v) t := fun v hv t ht _ => ⟨by rw [hv], by rw [ht]; exact h1, fun q hq => by rw [ht]; exact h2.2.1 q hq, pu.1.2.2.2.1, jt_rv pu.1 hz, pu.2, pu.1.2.2.2.2.2, pu.1.2.2.2.2.1⟩
    have hlocks := B.notSynchronized
    have hr := B.returns
    have hA := (ji_and hrow).2
    unfold jx_rv at hz
    split at hz
    · rename_i v e1 e2
      have hd := jk_dec hrow e1 rfl
      unfold jx_okA at hA
      simp only [e1] at hA
      rw [e2]
      cases h9 : jx_mV y
      · simp only [h9, cond_false] at hz
        have hret : jx_ret y z = some (.int (Int32.ofInt z)) := by unfold jx_ret; rw [h9]
        split at hA
        · rename_i e3
          have hzv : v = z := by
            rw [ji_beq hA] at hz
            cases hz; rfl
          subst hzv
          exact W.iret B.exec B.bytes (by rw [hr, e3]) (hq _ hret.symm) h2.2.2 hd
        · rename_i e3
          rw [ji_beq hA] at hz
          obtain ⟨hb, hz⟩ := ji_if (show (if v = 0 ∨ v = 1 then some v else none) = some z from hz)
          have hzv : v = z := by cases hz; rfl
          subst hzv
          exact W.zret B.exec B.bytes (by rw [hr, e3]) (by rcases hb with rfl | rfl <;> decide +kernel) (hq _ hret.symm) h2.2.2 hd
        · cases hA
      · simp only [h9, cond_true] at hz
        cases hz
    · rename_i e1 e2
      have hd := jk_dec hrow e1 rfl
      unfold jx_okA at hA
      simp only [e1] at hA
      have hA := of_decide_eq_true hA
      rw [e2]
      cases h9 : jx_mV y
      · simp only [h9, cond_false] at hz
        cases hz
      · have hret : jx_ret y z = none := by unfold jx_ret; rw [h9]
        exact W.vret B.exec B.bytes (by rw [hr, hA]) (hq _ hret.symm) h2.2.2 hd
    · cases hz
  have hent := lv_entry (as.map (jx_con E)) (n := jx_mL y) (by
    rw [jt_sl]; exact hl)
  rw [← jt_exp as 0, ← jt_pad (jx_exp as) (jx_mL y) 0] at hent
  have hfin := key s.heap [] _ hWd ⟨by rw [hWd.1]; omega, fun _ _ => rfl, fun _ h => by cases h⟩ hent
  rw [hargs, lg_entry_eq]
  have e0 : n - n = 0 := Nat.sub_self n
  have e1 : jx_SL n - jx_SL n = 0 := Nat.sub_self _
  simp only [e0, e1, jg_pc0 hy, List.map_nil] at hfin
  rw [hargs] at hfin
  exact hfin
/-- THE RUN IS THE MACHINE'S -/
theorem jg_sound : ∀ (k : Nat) {E : jx_E} {p : Program} {l : Launch} {e : Env} {R : Room} {s : State} {mm : MethodId} {args : Array Value} {below : List Frame} {meth : Method} {c : Code} {Q : State → Prop} {n0 x stop : Nat} {t0 t : jx_S}, jx_C E ph xs L p R s mm args meth c x → jx_go ph k x stop t0 = some t → jx_wf ph xs L x t0 → n0 ≤ t0.2.2.2.1 → t.2.2.2.1 - n0 ≤ R.cells → jx_SL t.2.2.2.1 - jx_SL n0 ≤ R.slots → jx_W E ph p l e R s mm args below meth c Q n0 x t → jx_W E ph p l e R s mm args below meth c Q n0 x t0
  | 0, E, p, l, e, R, s, mm, args, below, meth, c, Q, n0, x, stop, t0, t => fun _ h => by cases h
  | k + 1, E, p, l, e, R, s, mm, args, below, meth, c, Q, n0, x, stop, t0, t => by
    intro C h hwf hn hc hs hW
    rcases jt_go h with rfl | ⟨t1, h1, h2⟩ | ⟨y, as, rest, u, z, h1, hisC, hl, h2, h3, h4⟩
    · exact hW
    · obtain ⟨i, ls, st, n, m⟩ := t0
      obtain ⟨hi, hx⟩ := jg_stepRow h1
      have K := jk_step (E := E) (p := p) (l := l) (e := e) (R := R) (s := s) (mm := mm) (args := args) (below := below) (meth := meth) (c := c) (Q := Q) (n0 := n0) (jx_ck x hx i hi) hwf h1
      have r := jg_pure E p l e R s mm args below meth c Q k x stop t1 t h2 K.1
      have hn : n0 ≤ n := hn
      have hm : n ≤ t1.2.2.2.1 := K.2.1
      have hsl := jw_SL r.2
      exact K.2.2 C hn (by have := r.2; omega) (by omega) (jg_sound k C h2 K.1 (by omega) hc hs hW)
    · obtain ⟨i, ls, st, n, m⟩ := t0
      obtain ⟨hi, hx⟩ := jg_stepRow h1
      obtain ⟨ha, hr⟩ := jt_inr hisC hwf h1
      have hwe := jt_ent (y := y) ha hl (xs := xs) (L := L) (ph := ph) ⟨hwf.2.2.2.1, hwf.2.2.2.2⟩
      have ru := jg_pure E p l e R s mm args below meth c Q k y 100000 _ u h2 hwe
      have hz := jt_rv ru.1 h3
      have hw1 : jx_wf ph xs L x (i + 1, ls, jx_psh y z rest, u.2.2.2.1, u.2.2.2.2) := ⟨hwf.1, hwf.2.1, by
        unfold jx_psh
        show ∀ v ∈ (match jx_mV y with | true => rest | false => xI z :: rest), jx_wV v
        cases jx_mV y
        · exact jw_mk hz hr
        · exact hr, ru.1.2.2.2⟩
      have r := jg_pure E p l e R s mm args below meth c Q k x stop _ t h4 hw1
      have hn : n0 ≤ n := hn
      have h8 : n ≤ u.2.2.2.1 := ru.2
      have h9 : u.2.2.2.1 ≤ t.2.2.2.1 := r.2
      have s8 := jw_SL h8
      have s9 := jw_SL h9
      have s7 := jw_SL hn
      have ea : n - n0 + (u.2.2.2.1 - n) = u.2.2.2.1 - n0 := by omega
      have eb : jx_SL n - jx_SL n0 + (jx_SL u.2.2.2.1 - jx_SL n) = jx_SL u.2.2.2.1 - jx_SL n0 := by omega
      refine (jk_call C (jx_ck x hx i hi) hisC hwf h1 (z := z) (n' := u.2.2.2.1) (m' := u.2.2.2.2) (mc := u.2.2.2.1 - n) (ms := jx_SL u.2.2.2.1 - jx_SL n) (fun hok => jg_met (jg_sound k) hok h2 h3 hwe hl) ⟨by omega, by omega⟩ (fun H1 locs1 lsr b1 b2 b3 b4 => ?_)).1
      rw [ea, eb]
      exact jg_sound k C h4 hw1 (by show n0 ≤ u.2.2.2.1; omega) hc hs hW H1 locs1 lsr b1 b2 b3
end
end
section
/-! goals first: what must hold so that a method of the small machine (all cells made) comes to its end -/
def jx_AW (x i : Nat) (ls : jx_L) (st : List jx_V) (m : jx_M) (Q : Int → jx_M → Prop) : Prop := ∃ (k : Nat) (t : jx_S) (z : Int), jx_go true k x 100000 (i, ls, st, 190, m) = some t ∧ t.2.2.2.1 = 190 ∧ jx_rv x (jx_row x t.1) t.2.2.1 = some z ∧ Q z t.2.2.2.2
/-- a call of a method -/
abbrev jx_Cl (y : Nat) (as : List jx_V) (m : jx_M) (Q : Int → jx_M → Prop) : Prop := jx_AW y 0 (jx_ent y as) [] m Q
abbrev jx_gP : (c : Prop) → Decidable c → Prop → Prop := fun c _ a => c ∧ a
abbrev jx_bP : (c : Prop) → Decidable c → Prop → Prop → Prop := fun c _ a b => (c → a) ∧ (¬ c → b)
def jx_seg (x : Nat) (cd : List jx_R) (stops : List Nat) (Q : Int → jx_M → Prop) : Nat → Nat → jx_L → List jx_V → jx_M → Prop
  | 0, i, ls, st, m => jx_AW x i ls st m Q
  | k + 1, i, ls, st, m => match (jx_nth cd i (.nop, 0, 0, 0)).1 with
    | .ireturn => (match st with
      | [.inl v] => bif jx_mV x then False else bif (jx_nth cd i (.nop, 0, 0, 0)).2.1 == 1 then (v = 0 ∨ v = 1) ∧ Q v m else Q v m
      | _ => False)
    | .return_ => (match st with
      | [] => bif jx_mV x then Q 0 m else False
      | _ => False)
    | _ => jx_sem False jx_gP jx_bP (fun i' ls' st' n' m' => bif Nat.beq n' 190 then (bif stops.elem i' then jx_AW x i' ls' st' m' Q else jx_seg x cd stops Q k i' ls' st' m') else False)
        (fun y as rest => bif Nat.ble (jx_exp as).length (jx_mL y) then jx_Cl y as m (fun z m' => jx_seg x cd stops Q k (i + 1) ls (jx_psh y z rest) m') else False) true (jx_nth cd i (.nop, 0, 0, 0)) i ls st 190 m
theorem jj_pI {st : List jx_V} {k : Int → List jx_V → Prop} (h : jx_pI False st k) : ∃ x r, st = xI x :: r ∧ k x r := by
  unfold jx_pI at h
  split at h
  · exact ⟨_, _, rfl, h⟩
  · cases h
theorem jj_pL {st : List jx_V} {k : Int → List jx_V → Prop} (h : jx_pL False st k) : ∃ x r, st = xL x :: r ∧ k x r := by
  unfold jx_pL at h
  split at h
  · exact ⟨_, _, rfl, h⟩
  · cases h
theorem jj_pA {st : List jx_V} {k : Nat → Nat → List jx_V → Prop} (h : jx_pA False st k) : ∃ s j r, st = xA s j :: r ∧ k s j r := by
  unfold jx_pA at h
  split at h
  · exact ⟨_, _, _, rfl, h⟩
  · cases h
theorem jj_lI {ls : jx_L} {a : Nat} {k : Int → Prop} (h : jx_lI False ls a k) : ∃ x, (∀ {α : Type} (d : α) (k' : Int → α), jx_lI d ls a k' = k' x) ∧ k x := by
  unfold jx_lI at h
  split at h
  · rename_i x e; exact ⟨x, fun d k' => by unfold jx_lI; rw [e], h⟩
  · cases h
theorem jj_lL {ls : jx_L} {a : Nat} {k : Int → Prop} (h : jx_lL False ls a k) : ∃ x, (∀ {α : Type} (d : α) (k' : Int → α), jx_lL d ls a k' = k' x) ∧ k x := by
  unfold jx_lL at h
  split at h
  · rename_i x e; exact ⟨x, fun d k' => by unfold jx_lL; rw [e], h⟩
  · cases h
theorem jj_lA {ls : jx_L} {a : Nat} {k : Nat → Nat → Prop} (h : jx_lA False ls a k) : ∃ s j, (∀ {α : Type} (d : α) (k' : Nat → Nat → α), jx_lA d ls a k' = k' s j) ∧ k s j := by
  unfold jx_lA at h
  split at h
  · rename_i q e; exact ⟨q.1, q.2, fun d k' => by unfold jx_lA; rw [e], h⟩
  · cases h
theorem jj_cl {ls : jx_L} {a : Nat} {k : Prop} (h : jx_cl False ls a k) : (∀ {α : Type} (d k' : α), jx_cl d ls a k' = k') ∧ k := by
  unfold jx_cl at h
  split at h
  · exact ⟨fun d k' => rfl, h⟩
  · rename_i b
    split at h
    · cases h
    · rename_i hne
      refine ⟨fun d k' => ?_, h⟩
      unfold jx_cl
      simp only
theorem jj_bif {c : Bool} {a : Prop} (h : (bif c then a else False)) : c = true ∧ a := by
  cases c
  · cases h
  · exact ⟨rfl, h⟩
theorem jj_if {c : Prop} {hd : Decidable c} {α : Type} {a : Option α} (h : c) : @ite _ c hd a none = a := if_pos h
theorem jj_gA {α : Type} {n s i : Nat} {a : Option α} {b : Prop} (h : jx_gA jx_gP true n s i b) : jx_gA (fun c hd a => @ite _ c hd a none) true n s i a = a ∧ b := ⟨if_pos h.1, h.2⟩
def jx_re (C : Prop) (kn : Nat → jx_L → List jx_V → Nat → jx_M → Prop) (kc : Nat → List jx_V → List jx_V → Prop) (q : jx_Q) : Prop := match q with
  | .inl t => kn t.1 t.2.1 t.2.2.1 t.2.2.2.1 t.2.2.2.2
  | .inr w => C ∧ kc w.1 w.2.1 w.2.2
theorem jj_call {kn : Nat → jx_L → List jx_V → Nat → jx_M → Prop} {kc : Nat → List jx_V → List jx_V → Prop} {vir : Bool} {y : Nat} {st : List jx_V} {n : Nat} {C : Prop} (hC : C) (h : jx_call False jx_gP kc true vir y st n) : ∃ q, jx_call none (fun c hd a => @ite _ c hd a none) (fun y as rest => some (.inr (y, as, rest))) true vir y st n = some q ∧ jx_re C kn kc q := by
  unfold jx_call at h ⊢
  obtain ⟨h1, h2⟩ := jj_bif h
  rw [h1]
  cases vir
  · exact ⟨_, rfl, hC, h2⟩
  · obtain ⟨s0, j0, tl, e1, h3⟩ := jj_pA h2
    obtain ⟨h4, h5⟩ := jj_bif h3
    simp only [cond_true]
    rw [e1] at h5 ⊢
    refine ⟨.inr (y, xA s0 j0 :: tl, st.drop (jx_mA y)), ?_, hC, h5.2⟩
    show (bif _ then _ else _) = _
    rw [h4]
    exact if_pos h5.1
theorem jj_tsw {kn : Nat → Prop} {F : Nat → jx_Q} {x0 : Int} {b : Nat} : ∀ (ts : List Nat) (z : Int), jx_tsw jx_bP x0 kn z ts b → ∃ t, jx_tsw (fun c hd a b => @ite (Option jx_Q) c hd a b) x0 (fun t => some (F t)) z ts b = some (F t) ∧ kn t
  | [], z, h => ⟨b, rfl, h⟩
  | t :: ts, z, h => by
    by_cases e1 : x0 = z
    · exact ⟨t, if_pos e1, h.1 e1⟩
    · obtain ⟨t', h1, h2⟩ := jj_tsw ts (z + 1) (h.2 e1)
      exact ⟨t', (if_neg e1).trans h1, h2⟩
set_option maxHeartbeats 4000000 in
theorem jj_sem {kn : Nat → jx_L → List jx_V → Nat → jx_M → Prop} {kc : Nat → List jx_V → List jx_V → Prop} {r : jx_R} {i : Nat} {ls : jx_L} {st : List jx_V} {n : Nat} {m : jx_M} (h : jx_sem False jx_gP jx_bP kn kc true r i ls st n m) : ∃ q, jx_step true r (i, ls, st, n, m) = some q ∧ jx_re (jx_isC r = true) kn kc q := by
  cases ho : r.1
  case iconst k0 =>
    unfold jx_sem at h
    unfold jx_step jx_sem
    simp only [ho] at h ⊢
    exact ⟨_, rfl, h⟩
  case bipush k0 =>
    unfold jx_sem at h
    unfold jx_step jx_sem
    simp only [ho] at h ⊢
    exact ⟨_, rfl, h⟩
  case sipush k0 =>
    unfold jx_sem at h
    unfold jx_step jx_sem
    simp only [ho] at h ⊢
    exact ⟨_, rfl, h⟩
  case ldc k0 =>
    unfold jx_sem at h
    unfold jx_step jx_sem
    simp only [ho] at h ⊢
    exact ⟨_, rfl, h⟩
  case ldc_w k0 =>
    unfold jx_sem at h
    unfold jx_step jx_sem
    simp only [ho] at h ⊢
    exact ⟨_, rfl, h⟩
  case lconst k0 =>
    unfold jx_sem at h
    unfold jx_step jx_sem
    simp only [ho] at h ⊢
    exact ⟨_, rfl, h⟩
  case ldc2_w k0 =>
    unfold jx_sem at h
    unfold jx_step jx_sem
    simp only [ho] at h ⊢
    exact ⟨_, rfl, h⟩
  case goto k0 =>
    unfold jx_sem at h
    unfold jx_step jx_sem
    simp only [ho] at h ⊢
    exact ⟨_, rfl, h⟩
  case iload_n k0 =>
    unfold jx_sem at h
    unfold jx_step jx_sem
    simp only [ho] at h ⊢
    obtain ⟨v, e1, h⟩ := jj_lI h
    exact ⟨_, e1 _ _, h⟩
  case iload k0 =>
    unfold jx_sem at h
    unfold jx_step jx_sem
    simp only [ho] at h ⊢
    obtain ⟨v, e1, h⟩ := jj_lI h
    exact ⟨_, e1 _ _, h⟩
  case lload_n k0 =>
    unfold jx_sem at h
    unfold jx_step jx_sem
    simp only [ho] at h ⊢
    obtain ⟨v, e1, h⟩ := jj_lL h
    exact ⟨_, e1 _ _, h⟩
  case lload k0 =>
    unfold jx_sem at h
    unfold jx_step jx_sem
    simp only [ho] at h ⊢
    obtain ⟨v, e1, h⟩ := jj_lL h
    exact ⟨_, e1 _ _, h⟩
  case aload_n k0 =>
    unfold jx_sem at h
    unfold jx_step jx_sem
    simp only [ho] at h ⊢
    obtain ⟨v, w, e1, h⟩ := jj_lA h
    exact ⟨_, e1 _ _, h⟩
  case aload k0 =>
    unfold jx_sem at h
    unfold jx_step jx_sem
    simp only [ho] at h ⊢
    obtain ⟨v, w, e1, h⟩ := jj_lA h
    exact ⟨_, e1 _ _, h⟩
  case istore_n k0 =>
    unfold jx_sem at h
    unfold jx_step jx_sem
    simp only [ho] at h ⊢
    obtain ⟨v, s1, e9, h9⟩ := jj_pI h
    clear h
    subst e9
    obtain ⟨e1, h⟩ := jj_cl h9
    exact ⟨_, e1 _ _, h⟩
  case istore k0 =>
    unfold jx_sem at h
    unfold jx_step jx_sem
    simp only [ho] at h ⊢
    obtain ⟨v, s1, e9, h9⟩ := jj_pI h
    clear h
    subst e9
    obtain ⟨e1, h⟩ := jj_cl h9
    exact ⟨_, e1 _ _, h⟩
  case astore_n k0 =>
    unfold jx_sem at h
    unfold jx_step jx_sem
    simp only [ho] at h ⊢
    obtain ⟨v, w, s1, e9, h9⟩ := jj_pA h
    clear h
    subst e9
    obtain ⟨e1, h⟩ := jj_cl h9
    exact ⟨_, e1 _ _, h⟩
  case astore k0 =>
    unfold jx_sem at h
    unfold jx_step jx_sem
    simp only [ho] at h ⊢
    obtain ⟨v, w, s1, e9, h9⟩ := jj_pA h
    clear h
    subst e9
    obtain ⟨e1, h⟩ := jj_cl h9
    exact ⟨_, e1 _ _, h⟩
  case iinc k0 k1 =>
    unfold jx_sem at h
    unfold jx_step jx_sem
    simp only [ho] at h ⊢
    obtain ⟨v, e1, h⟩ := jj_lI h
    obtain ⟨e2, h⟩ := jj_cl h
    exact ⟨_, (e1 _ _).trans ((e2 _ _).trans (if_pos h.1)), h.2⟩
  case iadd =>
    unfold jx_sem at h
    unfold jx_step jx_sem
    simp only [ho] at h ⊢
    obtain ⟨v1, s1, e9, h9⟩ := jj_pI h
    clear h
    subst e9
    have h := h9
    clear h9
    obtain ⟨v2, s2, e9, h9⟩ := jj_pI h
    clear h
    subst e9
    have h := h9
    clear h9
    exact ⟨_, if_pos h.1, h.2⟩
  case isub =>
    unfold jx_sem at h
    unfold jx_step jx_sem
    simp only [ho] at h ⊢
    obtain ⟨v1, s1, e9, h9⟩ := jj_pI h
    clear h
    subst e9
    have h := h9
    clear h9
    obtain ⟨v2, s2, e9, h9⟩ := jj_pI h
    clear h
    subst e9
    have h := h9
    clear h9
    exact ⟨_, if_pos h.1, h.2⟩
  case imul =>
    unfold jx_sem at h
    unfold jx_step jx_sem
    simp only [ho] at h ⊢
    obtain ⟨v1, s1, e9, h9⟩ := jj_pI h
    clear h
    subst e9
    have h := h9
    clear h9
    obtain ⟨v2, s2, e9, h9⟩ := jj_pI h
    clear h
    subst e9
    have h := h9
    clear h9
    exact ⟨_, if_pos h.1, h.2⟩
  case idiv =>
    unfold jx_sem at h
    unfold jx_step jx_sem
    simp only [ho] at h ⊢
    obtain ⟨v1, s1, e9, h9⟩ := jj_pI h
    clear h
    subst e9
    have h := h9
    clear h9
    obtain ⟨v2, s2, e9, h9⟩ := jj_pI h
    clear h
    subst e9
    have h := h9
    clear h9
    exact ⟨_, if_pos h.1, h.2⟩
  case irem =>
    unfold jx_sem at h
    unfold jx_step jx_sem
    simp only [ho] at h ⊢
    obtain ⟨v1, s1, e9, h9⟩ := jj_pI h
    clear h
    subst e9
    have h := h9
    clear h9
    obtain ⟨v2, s2, e9, h9⟩ := jj_pI h
    clear h
    subst e9
    have h := h9
    clear h9
    exact ⟨_, if_pos h.1, h.2⟩
  case ineg =>
    unfold jx_sem at h
    unfold jx_step jx_sem
    simp only [ho] at h ⊢
    obtain ⟨v1, s1, e9, h9⟩ := jj_pI h
    clear h
    subst e9
    have h := h9
    clear h9
    exact ⟨_, if_pos h.1, h.2⟩
  case iand =>
    unfold jx_sem at h
    unfold jx_step jx_sem
    simp only [ho] at h ⊢
    obtain ⟨v1, s1, e9, h9⟩ := jj_pI h
    clear h
    subst e9
    have h := h9
    clear h9
    obtain ⟨v2, s2, e9, h9⟩ := jj_pI h
    clear h
    subst e9
    have h := h9
    clear h9
    exact ⟨_, rfl, h⟩
  case ior =>
    unfold jx_sem at h
    unfold jx_step jx_sem
    simp only [ho] at h ⊢
    obtain ⟨v1, s1, e9, h9⟩ := jj_pI h
    clear h
    subst e9
    have h := h9
    clear h9
    obtain ⟨v2, s2, e9, h9⟩ := jj_pI h
    clear h
    subst e9
    have h := h9
    clear h9
    exact ⟨_, rfl, h⟩
  case ixor =>
    unfold jx_sem at h
    unfold jx_step jx_sem
    simp only [ho] at h ⊢
    obtain ⟨v1, s1, e9, h9⟩ := jj_pI h
    clear h
    subst e9
    have h := h9
    clear h9
    obtain ⟨v2, s2, e9, h9⟩ := jj_pI h
    clear h
    subst e9
    have h := h9
    clear h9
    exact ⟨_, rfl, h⟩
  case ishl =>
    unfold jx_sem at h
    unfold jx_step jx_sem
    simp only [ho] at h ⊢
    obtain ⟨v1, s1, e9, h9⟩ := jj_pI h
    clear h
    subst e9
    have h := h9
    clear h9
    obtain ⟨v2, s2, e9, h9⟩ := jj_pI h
    clear h
    subst e9
    have h := h9
    clear h9
    exact ⟨_, rfl, h⟩
  case ishr =>
    unfold jx_sem at h
    unfold jx_step jx_sem
    simp only [ho] at h ⊢
    obtain ⟨v1, s1, e9, h9⟩ := jj_pI h
    clear h
    subst e9
    have h := h9
    clear h9
    obtain ⟨v2, s2, e9, h9⟩ := jj_pI h
    clear h
    subst e9
    have h := h9
    clear h9
    exact ⟨_, rfl, h⟩
  case iushr =>
    unfold jx_sem at h
    unfold jx_step jx_sem
    simp only [ho] at h ⊢
    obtain ⟨v1, s1, e9, h9⟩ := jj_pI h
    clear h
    subst e9
    have h := h9
    clear h9
    obtain ⟨v2, s2, e9, h9⟩ := jj_pI h
    clear h
    subst e9
    have h := h9
    clear h9
    exact ⟨_, rfl, h⟩
  case ladd =>
    unfold jx_sem at h
    unfold jx_step jx_sem
    simp only [ho] at h ⊢
    obtain ⟨v1, s1, e9, h9⟩ := jj_pL h
    clear h
    subst e9
    have h := h9
    clear h9
    obtain ⟨v2, s2, e9, h9⟩ := jj_pL h
    clear h
    subst e9
    have h := h9
    clear h9
    exact ⟨_, if_pos h.1, h.2⟩
  case land =>
    unfold jx_sem at h
    unfold jx_step jx_sem
    simp only [ho] at h ⊢
    obtain ⟨v1, s1, e9, h9⟩ := jj_pL h
    clear h
    subst e9
    have h := h9
    clear h9
    obtain ⟨v2, s2, e9, h9⟩ := jj_pL h
    clear h
    subst e9
    have h := h9
    clear h9
    exact ⟨_, rfl, h⟩
  case lor =>
    unfold jx_sem at h
    unfold jx_step jx_sem
    simp only [ho] at h ⊢
    obtain ⟨v1, s1, e9, h9⟩ := jj_pL h
    clear h
    subst e9
    have h := h9
    clear h9
    obtain ⟨v2, s2, e9, h9⟩ := jj_pL h
    clear h
    subst e9
    have h := h9
    clear h9
    exact ⟨_, rfl, h⟩
  case lcmp =>
    unfold jx_sem at h
    unfold jx_step jx_sem
    simp only [ho] at h ⊢
    obtain ⟨v1, s1, e9, h9⟩ := jj_pL h
    clear h
    subst e9
    have h := h9
    clear h9
    obtain ⟨v2, s2, e9, h9⟩ := jj_pL h
    clear h
    subst e9
    have h := h9
    clear h9
    exact ⟨_, rfl, h⟩
  case lshl =>
    unfold jx_sem at h
    unfold jx_step jx_sem
    simp only [ho] at h ⊢
    obtain ⟨v1, s1, e9, h9⟩ := jj_pI h
    clear h
    subst e9
    have h := h9
    clear h9
    obtain ⟨v2, s2, e9, h9⟩ := jj_pL h
    clear h
    subst e9
    have h := h9
    clear h9
    exact ⟨_, rfl, h⟩
  case lshr =>
    unfold jx_sem at h
    unfold jx_step jx_sem
    simp only [ho] at h ⊢
    obtain ⟨v1, s1, e9, h9⟩ := jj_pI h
    clear h
    subst e9
    have h := h9
    clear h9
    obtain ⟨v2, s2, e9, h9⟩ := jj_pL h
    clear h
    subst e9
    have h := h9
    clear h9
    exact ⟨_, rfl, h⟩
  case lushr =>
    unfold jx_sem at h
    unfold jx_step jx_sem
    simp only [ho] at h ⊢
    obtain ⟨v1, s1, e9, h9⟩ := jj_pI h
    clear h
    subst e9
    have h := h9
    clear h9
    obtain ⟨v2, s2, e9, h9⟩ := jj_pL h
    clear h
    subst e9
    have h := h9
    clear h9
    exact ⟨_, rfl, h⟩
  case i2l =>
    unfold jx_sem at h
    unfold jx_step jx_sem
    simp only [ho] at h ⊢
    obtain ⟨v1, s1, e9, h9⟩ := jj_pI h
    clear h
    subst e9
    have h := h9
    clear h9
    exact ⟨_, rfl, h⟩
  case i2b =>
    unfold jx_sem at h
    unfold jx_step jx_sem
    simp only [ho] at h ⊢
    obtain ⟨v1, s1, e9, h9⟩ := jj_pI h
    clear h
    subst e9
    have h := h9
    clear h9
    exact ⟨_, rfl, h⟩
  case i2s =>
    unfold jx_sem at h
    unfold jx_step jx_sem
    simp only [ho] at h ⊢
    obtain ⟨v1, s1, e9, h9⟩ := jj_pI h
    clear h
    subst e9
    have h := h9
    clear h9
    exact ⟨_, rfl, h⟩
  case pop =>
    unfold jx_sem at h
    unfold jx_step jx_sem
    simp only [ho] at h ⊢
    obtain ⟨v1, s1, e9, h9⟩ := jj_pI h
    clear h
    subst e9
    have h := h9
    clear h9
    exact ⟨_, rfl, h⟩
  case l2i =>
    unfold jx_sem at h
    unfold jx_step jx_sem
    simp only [ho] at h ⊢
    obtain ⟨v1, s1, e9, h9⟩ := jj_pL h
    clear h
    subst e9
    have h := h9
    clear h9
    exact ⟨_, rfl, h⟩
  case dup =>
    unfold jx_sem at h
    unfold jx_step jx_sem
    simp only [ho] at h ⊢
    obtain ⟨a1, b1, s1, e9, h9⟩ := jj_pA h
    clear h
    subst e9
    have h := h9
    clear h9
    exact ⟨_, rfl, h⟩
  case dup2 =>
    unfold jx_sem at h
    unfold jx_step jx_sem
    simp only [ho] at h ⊢
    obtain ⟨v1, s1, e9, h9⟩ := jj_pI h
    clear h
    subst e9
    have h := h9
    clear h9
    obtain ⟨a2, b2, s2, e9, h9⟩ := jj_pA h
    clear h
    subst e9
    have h := h9
    clear h9
    exact ⟨_, rfl, h⟩
  case ifCond k0 k1 =>
    unfold jx_sem at h
    unfold jx_step jx_sem
    simp only [ho] at h ⊢
    obtain ⟨v1, s1, e9, h9⟩ := jj_pI h
    clear h
    subst e9
    have h := h9
    clear h9
    unfold jx_cond at h ⊢
    cases k0
    · by_cases hc : v1 = 0
      · exact ⟨_, if_pos hc, h.1 hc⟩
      · exact ⟨_, if_neg hc, h.2 hc⟩
    · by_cases hc : v1 = 0
      · exact ⟨_, if_pos hc, h.1 hc⟩
      · exact ⟨_, if_neg hc, h.2 hc⟩
    · by_cases hc : v1 < 0
      · exact ⟨_, if_pos hc, h.1 hc⟩
      · exact ⟨_, if_neg hc, h.2 hc⟩
    · by_cases hc : v1 < 0
      · exact ⟨_, if_pos hc, h.1 hc⟩
      · exact ⟨_, if_neg hc, h.2 hc⟩
    · by_cases hc : 0 < v1
      · exact ⟨_, if_pos hc, h.1 hc⟩
      · exact ⟨_, if_neg hc, h.2 hc⟩
    · by_cases hc : 0 < v1
      · exact ⟨_, if_pos hc, h.1 hc⟩
      · exact ⟨_, if_neg hc, h.2 hc⟩
  case if_icmp k0 k1 =>
    unfold jx_sem at h
    unfold jx_step jx_sem
    simp only [ho] at h ⊢
    obtain ⟨v1, s1, e9, h9⟩ := jj_pI h
    clear h
    subst e9
    have h := h9
    clear h9
    obtain ⟨v2, s2, e9, h9⟩ := jj_pI h
    clear h
    subst e9
    have h := h9
    clear h9
    unfold jx_cond at h ⊢
    cases k0
    · by_cases hc : v2 = v1
      · exact ⟨_, if_pos hc, h.1 hc⟩
      · exact ⟨_, if_neg hc, h.2 hc⟩
    · by_cases hc : v2 = v1
      · exact ⟨_, if_pos hc, h.1 hc⟩
      · exact ⟨_, if_neg hc, h.2 hc⟩
    · by_cases hc : v2 < v1
      · exact ⟨_, if_pos hc, h.1 hc⟩
      · exact ⟨_, if_neg hc, h.2 hc⟩
    · by_cases hc : v2 < v1
      · exact ⟨_, if_pos hc, h.1 hc⟩
      · exact ⟨_, if_neg hc, h.2 hc⟩
    · by_cases hc : v1 < v2
      · exact ⟨_, if_pos hc, h.1 hc⟩
      · exact ⟨_, if_neg hc, h.2 hc⟩
    · by_cases hc : v1 < v2
      · exact ⟨_, if_pos hc, h.1 hc⟩
      · exact ⟨_, if_neg hc, h.2 hc⟩
  case tableswitch a b c0 d =>
    unfold jx_sem at h
    unfold jx_step jx_sem
    simp only [ho] at h ⊢
    obtain ⟨v1, s1, e9, h9⟩ := jj_pI h
    clear h
    subst e9
    have h := h9
    clear h9
    obtain ⟨t, h1, h2⟩ := jj_tsw (F := fun t => (Sum.inl (t, ls, s1, n, m) : jx_Q)) _ _ h
    exact ⟨_, h1, h2⟩
  case getfield k0 =>
    unfold jx_sem at h
    unfold jx_step jx_sem
    simp only [ho] at h ⊢
    obtain ⟨a1, b1, s1, e9, h9⟩ := jj_pA h
    clear h
    subst e9
    have h := h9
    clear h9
    simp only [jx_pI, jx_pA, jx_pL]
    obtain ⟨h1, h⟩ := jj_bif h
    rw [h1]
    simp only [cond_true]
    obtain ⟨h2, h⟩ := h
    generalize jx_fT a1 r.2.1 = ft at h ⊢
    rcases ft with ⟨t1, t2, t3, t4⟩
    match t1, h with
    | 0, h => exact ⟨.inl (i + 1, ls, xI (m a1 b1 r.2.1) :: s1, n, m), if_pos h2, h⟩
    | 1, h => exact ⟨.inl (i + 1, ls, xI (m a1 b1 r.2.1) :: s1, n, m), if_pos h2, h⟩
    | 2, h => exact ⟨.inl (i + 1, ls, xA t2 (jx_ix t3 t4 b1) :: s1, n, m), if_pos h2, h⟩
    | t + 3, h => exact False.elim h
  case putfield k0 =>
    unfold jx_sem at h
    unfold jx_step jx_sem
    simp only [ho] at h ⊢
    split at h
    · rename_i v st9
      obtain ⟨a1, b1, s1, e9, h9⟩ := jj_pA h
      clear h
      subst e9
      simp only [jx_pI, jx_pA, jx_pL]
      obtain ⟨h1, h⟩ := jj_bif h9
      rw [h1]
      simp only [cond_true]
      obtain ⟨h2, h⟩ := h
      clear h9
      generalize jx_fT a1 r.2.1 = ft at h ⊢
      rcases ft with ⟨t1, t2, t3, t4⟩
      match t1, h with
      | 0, h => exact ⟨.inl (i + 1, ls, s1, n, jx_up m a1 b1 r.2.1 v), if_pos h2, h⟩
      | 1, h => exact ⟨.inl (i + 1, ls, s1, n, jx_up m a1 b1 r.2.1 v), (if_pos h2).trans (if_pos h.1), h.2⟩
      | t + 2, h => exact False.elim h
    · obtain ⟨a1, b1, s1, e9, h9⟩ := jj_pA h
      obtain ⟨h1, h⟩ := jj_bif h9
      obtain ⟨h2, h⟩ := h
      split at h
      · rename_i e2; cases e2
      · exact False.elim h
    · exact False.elim h
  case iaload =>
    unfold jx_sem at h
    unfold jx_step jx_sem
    simp only [ho] at h ⊢
    obtain ⟨v1, s1, e9, h9⟩ := jj_pI h
    clear h
    subst e9
    have h := h9
    clear h9
    obtain ⟨a2, b2, s2, e9, h9⟩ := jj_pA h
    clear h
    subst e9
    have h := h9
    clear h9
    simp only [jx_pI, jx_pA, jx_pL]
    cases hb : (true && Nat.beq a2 60)
    · rw [hb] at h; simp only [cond_false] at h ⊢; exact ⟨.inl (i + 1, ls, xI (m a2 b2 v1.toNat) :: s2, n, m), (if_pos h.1).trans (if_pos h.2.1), h.2.2⟩
    · rw [hb] at h; simp only [cond_true] at h ⊢; exact ⟨.inl (i + 1, ls, xI (m 60 0 v1.toNat) :: s2, n, m), if_pos h.1, h.2⟩
  case iastore =>
    unfold jx_sem at h
    unfold jx_step jx_sem
    simp only [ho] at h ⊢
    obtain ⟨v1, s1, e9, h9⟩ := jj_pI h
    clear h
    subst e9
    have h := h9
    clear h9
    obtain ⟨v2, s2, e9, h9⟩ := jj_pI h
    clear h
    subst e9
    have h := h9
    clear h9
    obtain ⟨a3, b3, s3, e9, h9⟩ := jj_pA h
    clear h
    subst e9
    have h := h9
    clear h9
    simp only [jx_pI, jx_pA, jx_pL]
    exact ⟨.inl (i + 1, ls, s3, n, jx_up m a3 b3 v2.toNat v1), (if_pos h.1).trans (if_pos h.2.1), h.2.2⟩
  case aaload =>
    unfold jx_sem at h
    unfold jx_step jx_sem
    simp only [ho] at h ⊢
    obtain ⟨v1, s1, e9, h9⟩ := jj_pI h
    clear h
    subst e9
    have h := h9
    clear h9
    obtain ⟨a2, b2, s2, e9, h9⟩ := jj_pA h
    clear h
    subst e9
    have h := h9
    clear h9
    simp only [jx_pI, jx_pA, jx_pL]
    obtain ⟨h1, h⟩ := jj_bif h
    rw [h1]
    simp only [cond_true]
    exact ⟨.inl (i + 1, ls, xA (jx_sE a2) (jx_el a2 b2 v1) :: s2, n, m), (if_pos h.1).trans (if_pos h.2.1), h.2.2⟩
  case aastore =>
    unfold jx_sem at h
    unfold jx_step jx_sem
    simp only [ho] at h ⊢
    obtain ⟨a1, b1, s1, e9, h9⟩ := jj_pA h
    clear h
    subst e9
    have h := h9
    clear h9
    obtain ⟨v2, s2, e9, h9⟩ := jj_pI h
    clear h
    subst e9
    have h := h9
    clear h9
    obtain ⟨a3, b3, s3, e9, h9⟩ := jj_pA h
    clear h
    subst e9
    have h := h9
    clear h9
    obtain ⟨h1, h⟩ := jj_bif h
    cases h1
  case arraylength =>
    unfold jx_sem at h
    unfold jx_step jx_sem
    simp only [ho] at h ⊢
    obtain ⟨a1, b1, s1, e9, h9⟩ := jj_pA h
    clear h
    subst e9
    have h := h9
    clear h9
    simp only [jx_pI, jx_pA, jx_pL]
    cases hb : (true && Nat.beq a1 60)
    · rw [hb] at h; simp only [cond_false] at h ⊢; exact ⟨.inl (i + 1, ls, xI (jx_sP a1) :: s1, n, m), (if_pos h.1).trans (if_pos h.2.1), h.2.2⟩
    · rw [hb] at h; simp only [cond_true] at h ⊢; exact ⟨.inl (i + 1, ls, xI (m 61 0 0) :: s1, n, m), rfl, h⟩
  case new k0 =>
    unfold jx_sem at h
    unfold jx_step jx_sem
    simp only [ho] at h ⊢
    obtain ⟨h1, h⟩ := jj_bif h
    cases h1
  case newarray k0 =>
    unfold jx_sem at h
    unfold jx_step jx_sem
    simp only [ho] at h ⊢
    obtain ⟨v1, s1, e9, h9⟩ := jj_pI h
    clear h
    subst e9
    have h := h9
    clear h9
    obtain ⟨h1, h⟩ := jj_bif h
    cases h1
  case anewarray k0 =>
    unfold jx_sem at h
    unfold jx_step jx_sem
    simp only [ho] at h ⊢
    obtain ⟨v1, s1, e9, h9⟩ := jj_pI h
    clear h
    subst e9
    have h := h9
    clear h9
    obtain ⟨h1, h⟩ := jj_bif h
    cases h1
  case invokevirtual k0 =>
    unfold jx_sem at h
    unfold jx_step jx_sem
    simp only [ho] at h ⊢
    exact jj_call (by unfold jx_isC; rw [ho]) h
  case invokestatic k0 =>
    unfold jx_sem at h
    unfold jx_step jx_sem
    simp only [ho] at h ⊢
    split at h
    · rename_i e1
      obtain ⟨v1, s1, e9, h9⟩ := jj_pI h
      clear h
      subst e9
      have h := h9
      clear h9
      obtain ⟨v2, s2, e9, h9⟩ := jj_pI h
      clear h
      subst e9
      have h := h9
      clear h9
      obtain ⟨a3, b3, s3, e9, h9⟩ := jj_pA h
      clear h
      subst e9
      have h := h9
      clear h9
      obtain ⟨v4, s4, e9, h9⟩ := jj_pI h
      clear h
      subst e9
      have h := h9
      clear h9
      obtain ⟨a5, b5, s5, e9, h9⟩ := jj_pA h
      clear h
      subst e9
      have h := h9
      clear h9
      try simp only [e1]
      simp only [jx_pI, jx_pA, jx_pL]
      obtain ⟨h1, h⟩ := jj_bif h
      rw [h1]
      simp only [cond_true]
      exact ⟨.inl (i + 1, ls, s5, n, jx_cpy m a5 b5 v4.toNat a3 b3 v2.toNat v1.toNat), (if_pos h.1).trans ((if_pos h.2.1).trans (if_pos h.2.2.1)), h.2.2.2⟩
    · rename_i e1
      obtain ⟨v1, s1, e9, h9⟩ := jj_pI h
      clear h
      subst e9
      have h := h9
      clear h9
      obtain ⟨v2, s2, e9, h9⟩ := jj_pI h
      clear h
      subst e9
      have h := h9
      clear h9
      try simp only [e1]
      simp only [jx_pI, jx_pA, jx_pL]
      obtain ⟨h1, h⟩ := jj_bif h
      rw [h1]
      exact ⟨.inl (i + 1, ls, xI (min v2 v1) :: s2, n, m), rfl, h⟩
    · rename_i e1
      obtain ⟨v1, s1, e9, h9⟩ := jj_pI h
      clear h
      subst e9
      have h := h9
      clear h9
      try simp only [e1]
      simp only [jx_pI, jx_pA, jx_pL]
      obtain ⟨h1, h⟩ := jj_bif h
      rw [h1]
      exact ⟨.inl (i + 1, ls, xI (v1.natAbs : Int) :: s1, n, m), if_pos h.1, h.2⟩
    · exact jj_call (by unfold jx_isC; rw [ho]) h
  case invokespecial k0 =>
    unfold jx_sem at h
    unfold jx_step jx_sem
    simp only [ho] at h ⊢
    split at h
    · rename_i e1
      obtain ⟨a1, b1, s1, e9, h9⟩ := jj_pA h
      clear h
      subst e9
      have h := h9
      clear h9
      try simp only [e1]
      simp only [jx_pI, jx_pA, jx_pL]
      obtain ⟨h1, h⟩ := jj_bif h
      rw [h1]
      exact ⟨.inl (i + 1, ls, s1, n, m), rfl, h⟩
    · exact jj_call (by unfold jx_isC; rw [ho]) h
  all_goals (exfalso; unfold jx_sem at h; simp only [ho] at h)
theorem jx_mono {ph : Bool} : ∀ (k : Nat) {x stop : Nat} {t0 t : jx_S}, jx_go ph k x stop t0 = some t → ∀ {k' : Nat}, k ≤ k' → jx_go ph k' x stop t0 = some t
  | 0, _, _, _, _, h, _, _ => by cases h
  | k + 1, x, stop, t0, t, h, 0, hk => by omega
  | k + 1, x, stop, t0, t, h, k' + 1, hk => by
    have hk : k ≤ k' := by omega
    unfold jx_go at h ⊢
    cases hb : (Nat.beq t0.1 stop || jx_isR (jx_row x t0.1))
    · rw [hb] at h
      simp only [cond_false] at h ⊢
      split at h
      · cases h
      · rename_i t1 e1
        try simp only [e1]
        exact jx_mono k h hk
      · rename_i y as rest e1
        try simp only [e1]
        obtain ⟨hc, h2⟩ := ji_bif h
        rw [hc]
        simp only [cond_true]
        split at h2
        · cases h2
        · rename_i u e2
          rw [jx_mono k e2 hk]
          simp only
          split at h2
          · cases h2
          · rename_i z e3
            try simp only [e3]
            exact jx_mono k h2 hk
    · rw [hb] at h
      exact h
theorem jx_isR_of {r : jx_R} (h1 : r.1 ≠ .ireturn) (h2 : r.1 ≠ .return_) : jx_isR r = false := by
  unfold jx_isR
  split
  · rename_i e; exact absurd e h1
  · rename_i e; exact absurd e h2
  · rfl
theorem jx_lens : jx_cd.all (fun l => Nat.blt l.length 99999) = true := by decide +kernel
theorem jx_ilt {x i : Nat} (h : (jx_row x i).1 ≠ .nop) : Nat.beq i 100000 = false := by
  obtain ⟨h1, h2⟩ := jg_nop h
  have h3 : (jx_nth jx_cd x []).length < 99999 := Nat.le_of_ble_eq_true (List.all_eq_true.mp jx_lens _ (List.mem_of_getElem? (jl_nth_get [] jx_cd x (show x < jx_cd.length from h2))))
  cases hb : Nat.beq i 100000
  · rfl
  · have := ji_beq hb; omega
theorem jx_stepNop {r : jx_R} {t : jx_S} {q : jx_Q} (h : jx_step true r t = some q) : r.1 ≠ .nop := by
  intro e1
  unfold jx_step jx_sem at h
  try simp only [e1] at h
  cases h
/-- one step on -/
theorem jx_AW_step {x i : Nat} {ls : jx_L} {st : List jx_V} {m : jx_M} {Q : Int → jx_M → Prop} {t : jx_S} (h1 : jx_step true (jx_row x i) (i, ls, st, 190, m) = some (.inl t)) (hr : jx_isR (jx_row x i) = false) (hn : t.2.2.2.1 = 190) (h : jx_AW x t.1 t.2.1 t.2.2.1 t.2.2.2.2 Q) : jx_AW x i ls st m Q := by
  obtain ⟨k, u, z, a, b, c, d⟩ := h
  refine ⟨k + 1, u, z, ?_, b, c, d⟩
  unfold jx_go
  rw [show (Nat.beq (i, ls, st, 190, m).1 100000 || jx_isR (jx_row x (i, ls, st, 190, m).1)) = false by rw [show Nat.beq (i, ls, st, 190, m).1 100000 = false from jx_ilt (jx_stepNop h1)]; exact hr]
  simp only [cond_false, h1]
  rw [← hn] at a
  exact a
theorem jx_AW_call {x i y : Nat} {ls : jx_L} {st as rest : List jx_V} {m : jx_M} {Q : Int → jx_M → Prop} (h1 : jx_step true (jx_row x i) (i, ls, st, 190, m) = some (.inr (y, as, rest))) (hr : jx_isR (jx_row x i) = false) (hc : jx_isC (jx_row x i) = true) (hl : Nat.ble (jx_exp as).length (jx_mL y) = true) (h : jx_Cl y as m (fun z m' => jx_AW x (i + 1) ls (jx_psh y z rest) m' Q)) : jx_AW x i ls st m Q := by
  obtain ⟨k, u, z, a, b, c, k2, u2, z2, a2, b2, c2, d2⟩ := h
  refine ⟨k + k2 + 1, u2, z2, ?_, b2, c2, d2⟩
  unfold jx_go
  rw [show (Nat.beq (i, ls, st, 190, m).1 100000 || jx_isR (jx_row x (i, ls, st, 190, m).1)) = false by rw [show Nat.beq (i, ls, st, 190, m).1 100000 = false from jx_ilt (jx_stepNop h1)]; exact hr]
  simp only [cond_false, h1, hc, hl, Bool.and_true, cond_true]
  rw [jx_mono k a (by omega)]
  simp only [c]
  rw [b]
  exact jx_mono k2 a2 (by omega)
theorem jx_AW_ret {x i : Nat} {ls : jx_L} {st : List jx_V} {m : jx_M} {Q : Int → jx_M → Prop} {z : Int} (hr : jx_isR (jx_row x i) = true) (hv : jx_rv x (jx_row x i) st = some z) (h : Q z m) : jx_AW x i ls st m Q := by
  refine ⟨1, (i, ls, st, 190, m), z, ?_, rfl, hv, h⟩
  unfold jx_go
  rw [show jx_isR (jx_row x (i, ls, st, 190, m).1) = true from hr, Bool.or_true]
  rfl
theorem jx_segOk {x : Nat} {cd : List jx_R} (hcd : jx_nth jx_cd x [] = cd) {stops : List Nat} {Q : Int → jx_M → Prop} : ∀ (k : Nat) {i : Nat} {ls : jx_L} {st : List jx_V} {m : jx_M}, jx_seg x cd stops Q k i ls st m → jx_AW x i ls st m Q
  | 0, _, _, _, _, h => h
  | k + 1, i, ls, st, m, h => by
    have hrow : jx_nth cd i (.nop, 0, 0, 0) = jx_row x i := by unfold jx_row; rw [hcd]
    unfold jx_seg at h
    rw [hrow] at h
    split at h
    · rename_i e1
      split at h
      · rename_i v
        have hr : jx_isR (jx_row x i) = true := by unfold jx_isR; rw [e1]
        cases hv : jx_mV x
        · rw [hv] at h
          simp only [cond_false] at h
          cases hb : ((jx_row x i).2.1 == 1)
          · rw [hb] at h
            exact jx_AW_ret hr (by unfold jx_rv; rw [e1]; simp only [hv, hb, cond_false]) h
          · rw [hb] at h
            exact jx_AW_ret hr (by unfold jx_rv; rw [e1]; simp only [hv, hb, cond_false, cond_true]; exact if_pos h.1) h.2
        · rw [hv] at h
          cases h
      · cases h
    · rename_i e1
      split at h
      · have hr : jx_isR (jx_row x i) = true := by unfold jx_isR; rw [e1]
        cases hv : jx_mV x
        · rw [hv] at h; cases h
        · rw [hv] at h
          exact jx_AW_ret hr (by unfold jx_rv; rw [e1]; simp only [hv, cond_true]) h
      · cases h
    · rename_i e1 e2
      have hr := jx_isR_of e1 e2
      obtain ⟨q, hq, hre⟩ := jj_sem h
      rcases q with t | ⟨y, as, rest⟩
      · obtain ⟨hn, hre⟩ := jj_bif hre
        refine jx_AW_step hq hr (ji_beq hn) ?_
        cases hs : stops.elem t.1
        · rw [hs] at hre; exact jx_segOk hcd k hre
        · rw [hs] at hre; exact hre
      · obtain ⟨hc, hre⟩ := hre
        obtain ⟨hl, hre⟩ := jj_bif hre
        refine jx_AW_call hq hr hc hl ?_
        obtain ⟨k1, u, z, a, b, c, d⟩ := hre
        exact ⟨k1, u, z, a, b, c, jx_segOk hcd k d⟩
/-- a call that answers just so -/
abbrev jx_An (y : Nat) (as : List jx_V) (m : jx_M) (z : Int) (m' : jx_M) : Prop := jx_Cl y as m (fun z' m'' => z' = z ∧ m'' = m')
theorem jx_use {y : Nat} {as : List jx_V} {m m' : jx_M} {z : Int} {Q : Int → jx_M → Prop} (h : jx_An y as m z m') (hq : Q z m') : jx_Cl y as m Q := by
  obtain ⟨k, u, z2, a, b, c, rfl, rfl⟩ := h
  exact ⟨k, u, z2, a, b, c, hq⟩
theorem jx_AW_imp {x i : Nat} {ls : jx_L} {st : List jx_V} {m : jx_M} {P Q : Int → jx_M → Prop} (h : jx_AW x i ls st m P) (hpq : ∀ z m', P z m' → Q z m') : jx_AW x i ls st m Q := by
  obtain ⟨k, u, z2, a, b, c, d⟩ := h
  exact ⟨k, u, z2, a, b, c, hpq _ _ d⟩
end
section
/-! the two objects are made; then the law's loop -/
def jm_i0 : jx_S := (0, [some (xA 60 0), none, none, none], [], 0, fun _ _ _ => 0)
/-- what the objects hold once they are made -/
def jm_e (s _ k : Nat) : Int := match s with
  | 1 => if k = 7 then 3 else 0
  | 2 => 1
  | 26 => if k = 5 then 3 else if k = 16 then -4 else if k = 17 then -4 else 0
  | 27 => 1
  | 43 => -1
  | _ => 0
def jm_okc (m : jx_M) (q : Nat × Nat) : Bool := match jx_sK q.1 with
  | 0 => (List.range (jx_nf q.1)).all (fun k => match jx_fT q.1 k with
    | (2, _, _, _) => decide (m q.1 q.2 k = 1)
    | _ => decide (m q.1 q.2 k = jm_e q.1 q.2 k))
  | 1 => (List.range (jx_sP q.1)).all (fun k => decide (m q.1 q.2 k = jm_e q.1 q.2 k))
  | _ => (List.range (jx_sP q.1)).all (fun k => decide (m q.1 q.2 k = 1))
def jm_l : jx_L := [some (xA 60 0), some (xA 0 0), some (xA 26 0), some (xI 0)]
theorem jm_ok : (match jx_go false 1000 191 10 jm_i0 with
    | some t => Nat.beq t.1 10 && (decide (t.2.1 = jm_l) && (decide (t.2.2.1 = []) && (Nat.beq t.2.2.2.1 190 && jx_lay.all (jm_okc t.2.2.2.2))))
    | none => false) = true := by decide +kernel
theorem jm_SL : jx_SL 190 ≤ 7302249 := by decide +kernel
end
section
/-! the claim's start: from the law's entry to its loop -/
def jm_1 (xs : Nat → Int) (L : Int) : jx_M := fun s i k => if s = 60 then (if i = 0 then xs k else 0) else if s = 61 then (if i = 0 ∧ k = 0 then L else 0) else jm_e s i k
theorem jm_run : ∃ m : jx_M, jx_go false 1000 191 10 jm_i0 = some (10, jm_l, [], 190, m) ∧ ∀ q ∈ jx_lay, jm_okc m q = true := by
  have h := jm_ok
  split at h
  · rename_i t e1
    obtain ⟨i, ls, st, n, m⟩ := t
    obtain ⟨h1, h⟩ := ji_and h
    obtain ⟨h2, h⟩ := ji_and h
    obtain ⟨h3, h⟩ := ji_and h
    obtain ⟨h4, h⟩ := ji_and h
    have g1 : i = 10 := ji_beq h1
    have g2 : ls = jm_l := of_decide_eq_true h2
    have g3 : st = [] := of_decide_eq_true h3
    have g4 : n = 190 := ji_beq h4
    refine ⟨m, ?_, List.all_eq_true.mp h⟩
    rw [e1, g1, g2, g3, g4]
  · cases h
theorem jm_arr {c : ClassId} {n : Nat} {f g : Nat → Value} (h : ∀ k, k < n → f k = g k) : arrV c n f = arrV c n g := by
  unfold arrV
  congr 1
  apply Array.ext
  · simp
  · intro i h1 h2
    simp at h1
    simp [h i h1]
theorem jm_ne {s i : Nat} (h : i < jx_sC s) (xs : Nat → Int) (L : Int) (k : Nat) : jm_1 xs L s i k = jm_e s i k := by
  have := jy_ne60 h
  unfold jm_1
  rw [if_neg this.2.1, if_neg this.2.2]
/-- the made cells, read as those that stay -/
theorem jm_wd {E : jx_E} {m : jx_M} {H : Heap} (hm : ∀ q ∈ jx_lay, jm_okc m q = true) (xs : Nat → Int) (L : Int) (h : jx_Wd E false 190 m H) : jx_Wd E true 190 (jm_1 xs L) H := by
  refine ⟨h.1, h.2.1, fun k hk => ?_⟩
  have h1 := h.2.2 k hk
  obtain ⟨l1, l2, l3⟩ := jy_lay hk
  have hq : jm_okc m (jx_la k) = true := hm _ (List.mem_of_getElem? (jl_nth_get (0, 0) jx_lay k (by rw [jy_len.2]; exact hk)))
  generalize jx_la k = q at h1 hq l2 l3
  obtain ⟨s, j⟩ := q
  have l2 : j < jx_sC s := l2
  have l3 : jx_sK s ≤ 2 := l3
  show va_at E.2.2.1 jx_classes (E.1 + k, jx_ce E true (jm_1 xs L) s j) H
  have h1 : va_at E.2.2.1 jx_classes (E.1 + k, jx_ce E false m s j) H := h1
  have hne := jm_ne l2 xs L
  rcases (show jx_sK s = 0 ∨ jx_sK s = 1 ∨ jx_sK s = 2 by omega) with e1 | e1 | e1
  · have hq : ((List.range (jx_nf s)).all (fun k => match jx_fT s k with
      | (2, _, _, _) => decide (m s j k = 1)
      | _ => decide (m s j k = jm_e s j k))) = true := by
      unfold jm_okc at hq
      simp only [e1] at hq
      exact hq
    rw [jw_ce0 e1] at h1 ⊢
    have e2 : (List.range (jx_nf s)).map (jx_fv E true (jm_1 xs L) s j) = (List.range (jx_nf s)).map (jx_fv E false m s j) := by
      apply List.map_congr_left
      intro y hy
      have h2 := List.all_eq_true.mp hq y hy
      unfold jx_fv
      rw [hne y]
      revert h2
      rcases jx_fT s y with ⟨t1, t2, t3, t4⟩
      intro h2
      match t1, h2 with
      | 0, h2 =>
        show Value.int (Int32.ofInt (jm_e s j y)) = Value.int (Int32.ofInt (m s j y))
        rw [of_decide_eq_true (p := m s j y = jm_e s j y) h2]
      | 1, h2 =>
        show Value.int (Int32.ofInt (jm_e s j y)) = Value.int (Int32.ofInt (m s j y))
        rw [of_decide_eq_true (p := m s j y = jm_e s j y) h2]
      | 2, h2 =>
        show (if true = true ∨ jm_e s j y = 1 then Value.ref _ else Value.null) = (if false = true ∨ m s j y = 1 then Value.ref _ else Value.null)
        rw [if_pos (Or.inl rfl), if_pos (Or.inr (of_decide_eq_true (p := m s j y = 1) h2))]
      | t + 3, h2 => rfl
    rw [e2]
    exact h1
  · have hq : ((List.range (jx_sP s)).all (fun k => decide (m s j k = jm_e s j k))) = true := by
      unfold jm_okc at hq
      simp only [e1] at hq
      exact hq
    rw [jw_ce1 e1] at h1 ⊢
    have h1 : H[E.1 + k]? = some (arrV E.2.2.2.1 (jx_sP s) (fun y => .int (Int32.ofInt (m s j y)))) := h1
    show H[E.1 + k]? = some (arrV E.2.2.2.1 (jx_sP s) (fun y => .int (Int32.ofInt (jm_1 xs L s j y))))
    rw [h1]
    refine congrArg some (jm_arr (fun y hy => ?_))
    have h2 := of_decide_eq_true (p := m s j y = jm_e s j y) (List.all_eq_true.mp hq y (List.mem_range.mpr hy))
    show Value.int (Int32.ofInt (m s j y)) = Value.int (Int32.ofInt (jm_1 xs L s j y))
    rw [h2, hne y]
  · have hq : ((List.range (jx_sP s)).all (fun k => decide (m s j k = 1))) = true := by
      unfold jm_okc at hq
      simp only [e1] at hq
      exact hq
    rw [jw_ce2 e1] at h1 ⊢
    have h1 : H[E.1 + k]? = some (arrV (E.2.2.2.2 s) (jx_sP s) (fun y => va_rf (if false = true ∨ m s j y = 1 then some (E.1 + jx_pos (jx_sE s) (jx_el s j y)) else none))) := h1
    show H[E.1 + k]? = some (arrV (E.2.2.2.2 s) (jx_sP s) (fun y => va_rf (if true = true ∨ jm_1 xs L s j y = 1 then some (E.1 + jx_pos (jx_sE s) (jx_el s j y)) else none)))
    rw [h1]
    refine congrArg some (jm_arr (fun y hy => ?_))
    have h2 := of_decide_eq_true (p := m s j y = 1) (List.all_eq_true.mp hq y (List.mem_range.mpr hy))
    show va_rf (if false = true ∨ m s j y = 1 then some _ else none) = va_rf (if true = true ∨ jm_1 xs L s j y = 1 then some _ else none)
    rw [if_pos (Or.inr h2), if_pos (Or.inl rfl)]
theorem jm_wf0 : jx_wf false (fun _ => 0) 0 191 jm_i0 := by
  refine ⟨fun k v h => ?_, rfl, fun v h => (by cases h), ⟨fun _ _ _ => ?_, fun _ => rfl, rfl⟩, (fun h => by cases h), Nat.zero_le _⟩
  · have h : jx_nth [some (xA 60 0), none, none, none] k none = some v := h
    match k, h with
    | 0, h => cases h; exact trivial
    | 1, h => cases h
    | 2, h => cases h
    | 3, h => cases h
    | k + 4, h => cases k <;> cases h
  · show jx_in 0
    omega
theorem jm_e_in (s i k : Nat) : jx_in (jm_e s i k) := by
  unfold jm_e
  split
  · split <;> omega
  · omega
  · split
    · omega
    · split
      · omega
      · split <;> omega
  · omega
  · omega
  · omega
theorem jm_wf1 {xs : Nat → Int} {L : Int} (hxs : ∀ k, jx_in (xs k)) (hL : jx_in L) : jx_wf true xs L 191 (10, jm_l, [], 190, jm_1 xs L) := by
  refine ⟨fun k v h => ?_, rfl, fun v h => (by cases h), ⟨fun s i k => ?_, fun _ => rfl, rfl⟩, fun _ => rfl, Nat.le_refl _⟩
  · have h : jx_nth [some (xA 60 0), some (xA 0 0), some (xA 26 0), some (xI 0)] k none = some v := h
    match k, h with
    | 0, h => cases h; exact trivial
    | 1, h => cases h; exact trivial
    | 2, h => cases h; exact trivial
    | 3, h => cases h; show jx_in 0; omega
    | k + 4, h => cases k <;> cases h
  · show jx_in (jm_1 xs L s i k)
    unfold jm_1
    split
    · split
      · exact hxs k
      · omega
    · split
      · split
        · exact hL
        · omega
      · exact jm_e_in s i k
/-- the classes' numbers, and the arrays' -/
theorem jm_G {s : State} {args : Array Value} (B b : Nat) (hts : ∀ w ∈ lw_tbl, w.before args s = true) : ∃ (D : va_G) (cI : ClassId) (cR : Nat → ClassId), jx_G (B, b, D, cI, cR) s := by
  have hgw : ∀ w ∈ jx_gw, w.before args s = true := fun w hw => hts w (List.mem_filter.mp hw).1
  have ex : ∀ k : Nat, ∃ (cC : ClassId) (iS : Nat → Nat), ∀ q : vw_C, jx_classes[k]? = some q → u_Kn s q.1 q.2.1 q.2.2 cC iS := by
    intro k
    cases hq : jx_classes[k]? with
    | none => exact ⟨0, fun _ => 0, fun q h => by cases h⟩
    | some q =>
      have hin := (jy_cls hq).1
      have hinst : ∃ n, (Jvm.Cond.instantiable q.1 n).before args s = true := by
        match k, hq with
        | 0, hq => cases hq; exact ⟨_, hts (.instantiable RX0 4) (by decide +kernel)⟩
        | 1, hq => cases hq; exact ⟨_, hts (.instantiable RX1 7) (by decide +kernel)⟩
        | 2, hq => cases hq; exact ⟨_, hts (.instantiable RX2 9) (by decide +kernel)⟩
        | 3, hq => cases hq; exact ⟨_, hts (.instantiable RX3 4) (by decide +kernel)⟩
        | 4, hq => cases hq; exact ⟨_, hts (.instantiable RX4 2) (by decide +kernel)⟩
        | 5, hq => cases hq; exact ⟨_, hts (.instantiable RX5 9) (by decide +kernel)⟩
        | 6, hq => cases hq; exact ⟨_, hts (.instantiable RX6 4) (by decide +kernel)⟩
        | 7, hq => cases hq; exact ⟨_, hts (.instantiable RX7 3) (by decide +kernel)⟩
        | 8, hq => cases hq; exact ⟨_, hts (.instantiable RX8 8) (by decide +kernel)⟩
        | 9, hq => cases hq; exact ⟨_, hts (.instantiable RX9 32) (by decide +kernel)⟩
        | k + 10, hq => simp [jx_classes] at hq
      obtain ⟨n, hinst⟩ := hinst
      obtain ⟨cC, iS, hK⟩ := u_known (C := q.1) (T := q.2.1) (N := q.2.2) (n := n) hgw hin hinst
      exact ⟨cC, iS, fun q' h => by cases h; exact hK⟩
  obtain ⟨cI, kA, comp, hcI, hkA, hkind⟩ := Cond.arrayClass_spec (hts (.arrayClass .int) (by decide +kernel))
  have exR : ∀ C : String, (Jvm.Cond.arrayOver (.object C)).before args s = true → ∃ cA : ClassId, ArrOfT s cA (.object C) ∧ va_RA s cA (.object C) := by
    intro C hC
    obtain ⟨comp, c, k, h1, h2, h3, h4, h5⟩ := Cond.arrayOver_spec hC
    exact ⟨c, fun N z => ⟨(fun k h => by cases h), k, h3, comp, h4⟩, k, comp, h3, h4, h1, h5⟩
  obtain ⟨c3, a3, b3⟩ := exR RX2 (hts _ (by decide +kernel))
  obtain ⟨c4, a4, b4⟩ := exR RX0 (hts _ (by decide +kernel))
  obtain ⟨c5, a5, b5⟩ := exR RX7 (hts _ (by decide +kernel))
  obtain ⟨c6, a6, b6⟩ := exR RX3 (hts _ (by decide +kernel))
  refine ⟨(fun k => Classical.choose (ex k), fun k => Classical.choose (Classical.choose_spec (ex k))), cI, fun s => if s = 3 then c3 else if s = 4 then c4 else if s = 5 then c5 else c6, ⟨fun k q hq => Classical.choose_spec (Classical.choose_spec (ex k)) q hq, fun k q hq => ?_⟩, fun a i x h hm => va_Nw.of rfl (hts _ hm), fun C hm => va_AO.of (hts _ hm)⟩
  match k, hq with
  | 0, hq => cases hq; exact ⟨fun N z => ⟨(fun k h => by cases h), kA, hkA, comp, hkind⟩, hcI⟩
  | 1, hq => cases hq; exact ⟨a3, b3⟩
  | 2, hq => cases hq; exact ⟨a4, b4⟩
  | 3, hq => cases hq; exact ⟨a5, b5⟩
  | 4, hq => cases hq; exact ⟨a6, b6⟩
  | k + 5, hq => simp [jx_tys] at hq
end
section
set_option maxRecDepth 100000 in
theorem sg_10 (a1 : Int) (a2 : Int) (m : jx_M) (Q : Int → jx_M → Prop) (hv :
    jx_Cl 11 [xI a1] m (fun z1 m1 =>
      ((z1 = 0 →
        Q (-1) m1) ∧
        (¬ (z1 = 0) →
        jx_Cl 12 [xI a2, xI 0, xI 9] m1 (fun z2 m2 =>
          ((z2 = 0 →
            Q (-1) m2) ∧
            (¬ (z2 = 0) →
            ((0 < 1) ∧
  ((0 < 3) ∧
  ((1 = 1 ∧ 0 ≤ a1 ∧ a1 < 25) ∧
  ((0 < 3) ∧
  ((0 < 1) ∧
  ((0 < 3) ∧
  ((1 = 1 ∧ 0 ≤ a1 ∧ a1 < 25) ∧
  ((0 < 3) ∧
  Q (m2 2 0 (a1.toNat)) (jx_up m2 2 0 (a1.toNat) a2)))))))))))))))) :
    jx_Cl 10 [xA 0 0, xI a1, xI a2] m Q :=
  jx_segOk (x := 10) (cd := jx_c10) rfl (stops := []) 23 hv
set_option maxRecDepth 100000 in
theorem sg_11 (a1 : Int) (m : jx_M) (Q : Int → jx_M → Prop) (hv :
    ((a1 < 0 →
      (((0 : Int) = 0 ∨ (0 : Int) = 1) ∧
  Q 0 m)) ∧
      (¬ (a1 < 0) →
      ((a1 < 25 →
        (((1 : Int) = 0 ∨ (1 : Int) = 1) ∧
  Q 1 m)) ∧
        (¬ (a1 < 25) →
        (((0 : Int) = 0 ∨ (0 : Int) = 1) ∧
  Q 0 m)))))) :
    jx_Cl 11 [xI a1] m Q :=
  jx_segOk (x := 11) (cd := jx_c11) rfl (stops := []) 9 hv
set_option maxRecDepth 100000 in
theorem sg_12 (a1 : Int) (a2 : Int) (a3 : Int) (m : jx_M) (Q : Int → jx_M → Prop) (hv :
    ((a1 < a2 →
      (((0 : Int) = 0 ∨ (0 : Int) = 1) ∧
  Q 0 m)) ∧
      (¬ (a1 < a2) →
      ((a3 < a1 →
        (((0 : Int) = 0 ∨ (0 : Int) = 1) ∧
  Q 0 m)) ∧
        (¬ (a3 < a1) →
        (((1 : Int) = 0 ∨ (1 : Int) = 1) ∧
  Q 1 m)))))) :
    jx_Cl 12 [xI a1, xI a2, xI a3] m Q :=
  jx_segOk (x := 12) (cd := jx_c12) rfl (stops := []) 10 hv
set_option maxRecDepth 100000 in
theorem sg_13 (a1 : Int) (a2 : Int) (a3 : Int) (m : jx_M) (Q : Int → jx_M → Prop) (hv :
    jx_Cl 14 [xI a1] m (fun z1 m1 =>
      ((z1 = 0 →
        Q (-1) m1) ∧
        (¬ (z1 = 0) →
        jx_Cl 15 [xI a2] m1 (fun z2 m2 =>
          ((z2 = 0 →
            Q (-1) m2) ∧
            (¬ (z2 = 0) →
            jx_Cl 12 [xI a3, xI 1, xI 5] m2 (fun z3 m3 =>
              ((z3 = 0 →
                Q (-1) m3) ∧
                (¬ (z3 = 0) →
                ((0 < 1) ∧
  ((0 < 3) ∧
  (((m3 1 0 4) < 6 →
                  ((0 < 1) ∧
  ((0 < 3) ∧
  ((0 < 1) ∧
  ((0 < 3) ∧
  ((0 ≤ (m3 1 0 4) ∧ (m3 1 0 4) < 6) ∧
  ((0 < 3) ∧
  (((6 * 0 + (m3 1 0 4).toNat) < 18) ∧
  jx_Cl 16 [xA 6 (6 * 0 + (m3 1 0 4).toNat), xI a1, xI a2, xI a3] m3 (fun _ m4 =>
                    ((0 < 1) ∧
  ((jx_in ((m3 1 0 4) + 1)) ∧
  ((0 < 3) ∧
  Q (m3 1 0 4) (jx_up m4 1 0 4 ((m3 1 0 4) + 1)))))))))))))) ∧
                  (¬ ((m3 1 0 4) < 6) →
                  Q (-3) m3)))))))))))))) :
    jx_Cl 13 [xA 0 0, xI a1, xI a2, xI a3] m Q :=
  jx_segOk (x := 13) (cd := jx_c13) rfl (stops := []) 38 hv
set_option maxRecDepth 100000 in
theorem sg_14 (a1 : Int) (m : jx_M) (Q : Int → jx_M → Prop) (hv :
    ((a1 < 0 →
      (((0 : Int) = 0 ∨ (0 : Int) = 1) ∧
  Q 0 m)) ∧
      (¬ (a1 < 0) →
      ((a1 < 4 →
        (((1 : Int) = 0 ∨ (1 : Int) = 1) ∧
  Q 1 m)) ∧
        (¬ (a1 < 4) →
        (((0 : Int) = 0 ∨ (0 : Int) = 1) ∧
  Q 0 m)))))) :
    jx_Cl 14 [xI a1] m Q :=
  jx_segOk (x := 14) (cd := jx_c14) rfl (stops := []) 9 hv
set_option maxRecDepth 100000 in
theorem sg_15 (a1 : Int) (m : jx_M) (Q : Int → jx_M → Prop) (hv :
    ((a1 < 1 →
      (((0 : Int) = 0 ∨ (0 : Int) = 1) ∧
  Q 0 m)) ∧
      (¬ (a1 < 1) →
      (((9 : Int) < a1 →
        (((0 : Int) = 0 ∨ (0 : Int) = 1) ∧
  Q 0 m)) ∧
        (¬ ((9 : Int) < a1) →
        (((1 : Int) = 0 ∨ (1 : Int) = 1) ∧
  Q 1 m)))))) :
    jx_Cl 15 [xI a1] m Q :=
  jx_segOk (x := 15) (cd := jx_c15) rfl (stops := []) 10 hv
set_option maxRecDepth 100000 in
theorem sg_16 (t0 : Nat) (a1 : Int) (a2 : Int) (a3 : Int) (m : jx_M) (Q : Int → jx_M → Prop) (hv :
    ((t0 < 18) ∧
  ((t0 < 18) ∧
  ((t0 < 18) ∧
  ((t0 < 18) ∧
  ((t0 < 18) ∧
  ((1 = 1 ∧ 0 ≤ (0 : Int) ∧ (0 : Int) < 12) ∧
  ((t0 < 18) ∧
  ((t0 < 18) ∧
  ((t0 < 18) ∧
  ((1 = 1 ∧ 0 ≤ (0 : Int) ∧ (0 : Int) < 6) ∧
  ((t0 < 18) ∧
  ((t0 < 18) ∧
  ((t0 < 18) ∧
  ((t0 < 18) ∧
  jx_Cl 17 [xA 8 t0, xI ((jx_up (jx_up (jx_up (jx_up (jx_up (jx_up (jx_up (jx_up m 6 t0 4 a1) 6 t0 5 a2) 6 t0 7 a3) 6 t0 6 0) 7 t0 ((0 : Int).toNat) 0) 6 t0 2 1) 8 t0 ((0 : Int).toNat) 5) 6 t0 3 1) 6 t0 3)] (jx_up (jx_up (jx_up (jx_up (jx_up (jx_up (jx_up (jx_up m 6 t0 4 a1) 6 t0 5 a2) 6 t0 7 a3) 6 t0 6 0) 7 t0 ((0 : Int).toNat) 0) 6 t0 2 1) 8 t0 ((0 : Int).toNat) 5) 6 t0 3 1) (fun z1 m1 =>
      ((t0 < 18) ∧
  Q 0 (jx_up m1 6 t0 8 z1)))))))))))))))))) :
    jx_Cl 16 [xA 6 t0, xI a1, xI a2, xI a3] m Q :=
  jx_segOk (x := 16) (cd := jx_c16) rfl (stops := []) 37 hv
set_option maxRecDepth 100000 in
theorem sg_18 (a1 : Int) (a2 : Int) (a3 : Int) (m : jx_M) (Q : Int → jx_M → Prop) (hv :
    ((0 < 1) ∧
  ((0 < 3) ∧
  jx_Cl 19 [xA 1 0, xI a1] m (fun z1 m1 =>
      ((z1 = 0 →
        Q (-1) m1) ∧
        (¬ (z1 = 0) →
        ((0 < 1) ∧
  ((0 < 3) ∧
  ((0 ≤ a1 ∧ a1 < 6) ∧
  ((0 < 3) ∧
  (((6 * 0 + a1.toNat) < 18) ∧
  jx_Cl 20 [xA 6 (6 * 0 + a1.toNat), xI a2, xI a3] m1 (fun z2 m2 =>
          Q z2 m2)))))))))))) :
    jx_Cl 18 [xA 0 0, xI a1, xI a2, xI a3] m Q :=
  jx_segOk (x := 18) (cd := jx_c18) rfl (stops := []) 16 hv
set_option maxRecDepth 100000 in
theorem sg_19 (t0 : Nat) (a1 : Int) (m : jx_M) (Q : Int → jx_M → Prop) (hv :
    ((a1 < 0 →
      (((0 : Int) = 0 ∨ (0 : Int) = 1) ∧
  Q 0 m)) ∧
      (¬ (a1 < 0) →
      ((t0 < 3) ∧
  ((a1 < (m 1 t0 4) →
        (((1 : Int) = 0 ∨ (1 : Int) = 1) ∧
  Q 1 m)) ∧
        (¬ (a1 < (m 1 t0 4)) →
        (((0 : Int) = 0 ∨ (0 : Int) = 1) ∧
  Q 0 m))))))) :
    jx_Cl 19 [xA 1 t0, xI a1] m Q :=
  jx_segOk (x := 19) (cd := jx_c19) rfl (stops := []) 10 hv
set_option maxRecDepth 100000 in
theorem sg_20 (t0 : Nat) (a1 : Int) (a2 : Int) (m : jx_M) (Q : Int → jx_M → Prop) (hv :
    ((a1 = 0 →
      jx_Cl 14 [xI a2] m (fun z1 m1 =>
        ((z1 = 0 →
          ((a1 = 1 →
            jx_Cl 15 [xI a2] m1 (fun z2 m2 =>
              ((z2 = 0 →
                ((a1 = 2 →
                  jx_Cl 21 [xI a2] m2 (fun z3 m3 =>
                    ((z3 = 0 →
                      ((a1 = 3 →
                        jx_Cl 12 [xI a2, xI 1, xI 5] m3 (fun z4 m4 =>
                          ((z4 = 0 →
                            Q (-1) m4) ∧
                            (¬ (z4 = 0) →
                            ((t0 < 18) ∧
  ((t0 < 18) ∧
  Q (m4 6 t0 7) (jx_up m4 6 t0 7 a2))))))) ∧
                        (¬ (a1 = 3) →
                        Q (-1) m3))) ∧
                      (¬ (z3 = 0) →
                      ((t0 < 18) ∧
  ((t0 < 18) ∧
  Q (m3 6 t0 6) (jx_up m3 6 t0 6 a2))))))) ∧
                  (¬ (a1 = 2) →
                  ((a1 = 3 →
                    jx_Cl 12 [xI a2, xI 1, xI 5] m2 (fun z5 m5 =>
                      ((z5 = 0 →
                        Q (-1) m5) ∧
                        (¬ (z5 = 0) →
                        ((t0 < 18) ∧
  ((t0 < 18) ∧
  Q (m5 6 t0 7) (jx_up m5 6 t0 7 a2))))))) ∧
                    (¬ (a1 = 3) →
                    Q (-1) m2))))) ∧
                (¬ (z2 = 0) →
                ((t0 < 18) ∧
  ((t0 < 18) ∧
  Q (m2 6 t0 5) (jx_up m2 6 t0 5 a2))))))) ∧
            (¬ (a1 = 1) →
            ((a1 = 2 →
              jx_Cl 21 [xI a2] m1 (fun z6 m6 =>
                ((z6 = 0 →
                  ((a1 = 3 →
                    jx_Cl 12 [xI a2, xI 1, xI 5] m6 (fun z7 m7 =>
                      ((z7 = 0 →
                        Q (-1) m7) ∧
                        (¬ (z7 = 0) →
                        ((t0 < 18) ∧
  ((t0 < 18) ∧
  Q (m7 6 t0 7) (jx_up m7 6 t0 7 a2))))))) ∧
                    (¬ (a1 = 3) →
                    Q (-1) m6))) ∧
                  (¬ (z6 = 0) →
                  ((t0 < 18) ∧
  ((t0 < 18) ∧
  Q (m6 6 t0 6) (jx_up m6 6 t0 6 a2))))))) ∧
              (¬ (a1 = 2) →
              ((a1 = 3 →
                jx_Cl 12 [xI a2, xI 1, xI 5] m1 (fun z8 m8 =>
                  ((z8 = 0 →
                    Q (-1) m8) ∧
                    (¬ (z8 = 0) →
                    ((t0 < 18) ∧
  ((t0 < 18) ∧
  Q (m8 6 t0 7) (jx_up m8 6 t0 7 a2))))))) ∧
                (¬ (a1 = 3) →
                Q (-1) m1))))))) ∧
          (¬ (z1 = 0) →
          ((t0 < 18) ∧
  ((t0 < 18) ∧
  Q (m1 6 t0 4) (jx_up m1 6 t0 4 a2))))))) ∧
      (¬ (a1 = 0) →
      ((a1 = 1 →
        jx_Cl 15 [xI a2] m (fun z9 m9 =>
          ((z9 = 0 →
            ((a1 = 2 →
              jx_Cl 21 [xI a2] m9 (fun z10 m10 =>
                ((z10 = 0 →
                  ((a1 = 3 →
                    jx_Cl 12 [xI a2, xI 1, xI 5] m10 (fun z11 m11 =>
                      ((z11 = 0 →
                        Q (-1) m11) ∧
                        (¬ (z11 = 0) →
                        ((t0 < 18) ∧
  ((t0 < 18) ∧
  Q (m11 6 t0 7) (jx_up m11 6 t0 7 a2))))))) ∧
                    (¬ (a1 = 3) →
                    Q (-1) m10))) ∧
                  (¬ (z10 = 0) →
                  ((t0 < 18) ∧
  ((t0 < 18) ∧
  Q (m10 6 t0 6) (jx_up m10 6 t0 6 a2))))))) ∧
              (¬ (a1 = 2) →
              ((a1 = 3 →
                jx_Cl 12 [xI a2, xI 1, xI 5] m9 (fun z12 m12 =>
                  ((z12 = 0 →
                    Q (-1) m12) ∧
                    (¬ (z12 = 0) →
                    ((t0 < 18) ∧
  ((t0 < 18) ∧
  Q (m12 6 t0 7) (jx_up m12 6 t0 7 a2))))))) ∧
                (¬ (a1 = 3) →
                Q (-1) m9))))) ∧
            (¬ (z9 = 0) →
            ((t0 < 18) ∧
  ((t0 < 18) ∧
  Q (m9 6 t0 5) (jx_up m9 6 t0 5 a2))))))) ∧
        (¬ (a1 = 1) →
        ((a1 = 2 →
          jx_Cl 21 [xI a2] m (fun z13 m13 =>
            ((z13 = 0 →
              ((a1 = 3 →
                jx_Cl 12 [xI a2, xI 1, xI 5] m13 (fun z14 m14 =>
                  ((z14 = 0 →
                    Q (-1) m14) ∧
                    (¬ (z14 = 0) →
                    ((t0 < 18) ∧
  ((t0 < 18) ∧
  Q (m14 6 t0 7) (jx_up m14 6 t0 7 a2))))))) ∧
                (¬ (a1 = 3) →
                Q (-1) m13))) ∧
              (¬ (z13 = 0) →
              ((t0 < 18) ∧
  ((t0 < 18) ∧
  Q (m13 6 t0 6) (jx_up m13 6 t0 6 a2))))))) ∧
          (¬ (a1 = 2) →
          ((a1 = 3 →
            jx_Cl 12 [xI a2, xI 1, xI 5] m (fun z15 m15 =>
              ((z15 = 0 →
                Q (-1) m15) ∧
                (¬ (z15 = 0) →
                ((t0 < 18) ∧
  ((t0 < 18) ∧
  Q (m15 6 t0 7) (jx_up m15 6 t0 7 a2))))))) ∧
            (¬ (a1 = 3) →
            Q (-1) m))))))))) :
    jx_Cl 20 [xA 6 t0, xI a1, xI a2] m Q :=
  jx_segOk (x := 20) (cd := jx_c20) rfl (stops := []) 35 hv
set_option maxRecDepth 100000 in
theorem sg_21 (a1 : Int) (m : jx_M) (Q : Int → jx_M → Prop) (hv :
    ((a1 < 0 →
      (((0 : Int) = 0 ∨ (0 : Int) = 1) ∧
  Q 0 m)) ∧
      (¬ (a1 < 0) →
      ((a1 < 120 →
        (((1 : Int) = 0 ∨ (1 : Int) = 1) ∧
  Q 1 m)) ∧
        (¬ (a1 < 120) →
        (((0 : Int) = 0 ∨ (0 : Int) = 1) ∧
  Q 0 m)))))) :
    jx_Cl 21 [xI a1] m Q :=
  jx_segOk (x := 21) (cd := jx_c21) rfl (stops := []) 9 hv
set_option maxRecDepth 100000 in
theorem sg_22 (a1 : Int) (a2 : Int) (m : jx_M) (Q : Int → jx_M → Prop) (hv :
    jx_Cl 12 [xI a2, xI 1, xI 8] m (fun z1 m1 =>
      ((z1 = 0 →
        Q (-1) m1) ∧
        (¬ (z1 = 0) →
        jx_Cl 23 [xL a1, xI a2] m1 (fun z2 m2 =>
          ((z2 = 0 →
            Q (-1) m2) ∧
            (¬ (z2 = 0) →
            ((0 < 1) ∧
  ((0 < 1) ∧
  jx_Cl 25 [xA 20 0, xL a1, xI a2] m2 (fun z3 m3 =>
              Q z3 m3)))))))))) :
    jx_Cl 22 [xA 0 0, xL a1, xI a2] m Q :=
  jx_segOk (x := 22) (cd := jx_c22) rfl (stops := []) 16 hv
set_option maxRecDepth 100000 in
theorem sg_23 (a1 : Int) (a2 : Int) (m : jx_M) (Q : Int → jx_M → Prop) (hv :
    jx_AW 23 2 [some (xL a1), none, some (xI a2), some (xI 0), none] [] m Q) :
    jx_Cl 23 [xL a1, xI a2] m Q :=
  jx_segOk (x := 23) (cd := jx_c23) rfl (stops := [2]) 3 hv
set_option maxRecDepth 100000 in
theorem sg_24 (a1 : Int) (a2 : Int) (m : jx_M) (Q : Int → jx_M → Prop) (hv :
    ((jx_in (8 * a2)) ∧
  Q (jx_iand (jx_l2i (jx_lushr a1 (8 * a2))) 255) m)) :
    jx_Cl 24 [xL a1, xI a2] m Q :=
  jx_segOk (x := 24) (cd := jx_c24) rfl (stops := []) 10 hv
set_option maxRecDepth 100000 in
theorem sg_25 (a1 : Int) (a2 : Int) (m : jx_M) (Q : Int → jx_M → Prop) (hv :
    ((0 < 1) ∧
  ((jx_in (60 - (m 20 0 1))) ∧
  (((60 - (m 20 0 1)) < a2 →
      Q (-3) m) ∧
      (¬ ((60 - (m 20 0 1)) < a2) →
      ((jx_in (a2 - 1)) ∧
  jx_AW 25 12 [some (xA 20 0), some (xL a1), none, some (xI a2), some (xI (a2 - 1))] [] m Q)))))) :
    jx_Cl 25 [xA 20 0, xL a1, xI a2] m Q :=
  jx_segOk (x := 25) (cd := jx_c25) rfl (stops := [12]) 11 hv
set_option maxRecDepth 100000 in
theorem sg_26  (m : jx_M) (Q : Int → jx_M → Prop) (hv :
    ((0 < 1) ∧
  ((0 < 1) ∧
  ((0 < 1) ∧
  jx_Cl 27 [xA 20 0, xA 25 0, xI 25, xI 25] m (fun z1 m1 =>
      ((0 < 1) ∧
  ((0 < 1) ∧
  jx_Cl 29 [xA 20 0] m1 (fun _ m2 =>
        ((z1 < 0 →
          Q z1 m2) ∧
          (¬ (z1 < 0) →
          jx_AW 26 19 [some (xA 0 0), some (xI z1), some (xI 0), some (xI 0)] [] m2 Q)))))))))) :
    jx_Cl 26 [xA 0 0] m Q :=
  jx_segOk (x := 26) (cd := jx_c26) rfl (stops := [19]) 18 hv
set_option maxRecDepth 100000 in
theorem sg_28 (a1 : Int) (m : jx_M) (Q : Int → jx_M → Prop) (hv :
    ((0 < 1) ∧
  ((a1 < (m 20 0 1) →
      ((0 < 1) ∧
  ((1 = 1 ∧ 0 ≤ a1 ∧ a1 < 60) ∧
  ((0 < 1) ∧
  (((m 21 0 (a1.toNat)) < 48 →
        (((0 : Int) = 0 ∨ (0 : Int) = 1) ∧
  Q 0 m)) ∧
        (¬ ((m 21 0 (a1.toNat)) < 48) →
        ((0 < 1) ∧
  ((1 = 1 ∧ 0 ≤ a1 ∧ a1 < 60) ∧
  ((0 < 1) ∧
  (((57 : Int) < (m 21 0 (a1.toNat)) →
          (((0 : Int) = 0 ∨ (0 : Int) = 1) ∧
  Q 0 m)) ∧
          (¬ ((57 : Int) < (m 21 0 (a1.toNat))) →
          (((1 : Int) = 0 ∨ (1 : Int) = 1) ∧
  Q 1 m)))))))))))) ∧
      (¬ (a1 < (m 20 0 1)) →
      (((0 : Int) = 0 ∨ (0 : Int) = 1) ∧
  Q 0 m))))) :
    jx_Cl 28 [xA 20 0, xI a1] m Q :=
  jx_segOk (x := 28) (cd := jx_c28) rfl (stops := []) 20 hv
set_option maxRecDepth 100000 in
theorem sg_29  (m : jx_M) (Q : Int → jx_M → Prop) (hv :
    ((0 < 1) ∧
  Q 0 (jx_up m 20 0 1 0))) :
    jx_Cl 29 [xA 20 0] m Q :=
  jx_segOk (x := 29) (cd := jx_c29) rfl (stops := []) 5 hv
set_option maxRecDepth 100000 in
theorem sg_30 (a1 : Int) (m : jx_M) (Q : Int → jx_M → Prop) (hv :
    ((0 < 1) ∧
  ((0 < 3) ∧
  jx_Cl 19 [xA 1 0, xI a1] m (fun z1 m1 =>
      ((z1 = 0 →
        Q (-1) m1) ∧
        (¬ (z1 = 0) →
        ((0 < 1) ∧
  ((0 < 1) ∧
  ((0 < 1) ∧
  jx_Cl 31 [xA 20 0, xA 25 0] m1 (fun z2 m2 =>
          ((0 < 1) ∧
  ((0 < 1) ∧
  jx_Cl 29 [xA 20 0] m2 (fun _ m3 =>
            (((0 : Int) < z2 →
              ((0 < 1) ∧
  ((0 < 3) ∧
  ((0 ≤ a1 ∧ a1 < 6) ∧
  ((0 < 3) ∧
  ((0 < 1) ∧
  (((6 * 0 + a1.toNat) < 18) ∧
  jx_Cl 38 [xA 6 (6 * 0 + a1.toNat), xA 25 0, xI z2] m3 (fun _ m4 =>
                Q z2 m4)))))))) ∧
              (¬ ((0 : Int) < z2) →
              Q z2 m3))))))))))))))) :
    jx_Cl 30 [xA 0 0, xI a1] m Q :=
  jx_segOk (x := 30) (cd := jx_c30) rfl (stops := []) 28 hv
set_option maxRecDepth 100000 in
theorem sg_32 (a1 : Int) (a2 : Int) (m : jx_M) (Q : Int → jx_M → Prop) (hv :
    ((a2 < a1 →
      Q a2 m) ∧
      (¬ (a2 < a1) →
      Q a1 m))) :
    jx_Cl 32 [xI a1, xI a2] m Q :=
  jx_segOk (x := 32) (cd := jx_c32) rfl (stops := []) 7 hv
set_option maxRecDepth 100000 in
theorem sg_33 (a1 : Int) (m : jx_M) (Q : Int → jx_M → Prop) (hv :
    jx_AW 33 2 [some (xA 20 0), some (xI a1), some (xI a1)] [] m Q) :
    jx_Cl 33 [xA 20 0, xI a1] m Q :=
  jx_segOk (x := 33) (cd := jx_c33) rfl (stops := [2]) 3 hv
set_option maxRecDepth 100000 in
theorem sg_34 (a1 : Int) (m : jx_M) (Q : Int → jx_M → Prop) (hv :
    jx_AW 34 2 [some (xA 20 0), some (xI a1), some (xI a1)] [] m Q) :
    jx_Cl 34 [xA 20 0, xI a1] m Q :=
  jx_segOk (x := 34) (cd := jx_c34) rfl (stops := [2]) 3 hv
set_option maxRecDepth 100000 in
theorem sg_35 (a1 : Int) (a2 : Int) (m : jx_M) (Q : Int → jx_M → Prop) (hv :
    jx_AW 35 4 [some (xA 20 0), some (xI a1), some (xI a2), some (xI 0), some (xI a1)] [] m Q) :
    jx_Cl 35 [xA 20 0, xI a1, xI a2] m Q :=
  jx_segOk (x := 35) (cd := jx_c35) rfl (stops := [4]) 5 hv
set_option maxRecDepth 100000 in
theorem sg_36 (a1 : Int) (a2 : Int) (m : jx_M) (Q : Int → jx_M → Prop) (hv :
    ((0 ≤ a1 ∧ 0 < (5 : Int)) ∧
  ((0 ≤ a2 ∧ 0 < (5 : Int)) ∧
  ((jx_in ((a1 / 5) - (a2 / 5))) ∧
  ((jx_in (-((a1 / 5) - (a2 / 5)))) ∧
  ((0 ≤ a1 ∧ 0 < (5 : Int)) ∧
  ((0 ≤ a2 ∧ 0 < (5 : Int)) ∧
  ((jx_in ((a1 % 5) - (a2 % 5))) ∧
  ((jx_in (-((a1 % 5) - (a2 % 5)))) ∧
  ((jx_in ((((a1 / 5) - (a2 / 5)).natAbs : Int) + (((a1 % 5) - (a2 % 5)).natAbs : Int))) ∧
  Q ((((a1 / 5) - (a2 / 5)).natAbs : Int) + (((a1 % 5) - (a2 % 5)).natAbs : Int)) m)))))))))) :
    jx_Cl 36 [xI a1, xI a2] m Q :=
  jx_segOk (x := 36) (cd := jx_c36) rfl (stops := []) 19 hv
set_option maxRecDepth 100000 in
theorem sg_37 (a1 : Int) (m : jx_M) (Q : Int → jx_M → Prop) (hv :
    ((a1 < 0 →
      ((jx_in (-a1)) ∧
  Q (-a1) m)) ∧
      (¬ (a1 < 0) →
      Q a1 m))) :
    jx_Cl 37 [xI a1] m Q :=
  jx_segOk (x := 37) (cd := jx_c37) rfl (stops := []) 7 hv
set_option maxRecDepth 100000 in
theorem sg_39 (a1 : Int) (m : jx_M) (Q : Int → jx_M → Prop) (hv :
    ((0 < 1) ∧
  ((0 < 3) ∧
  jx_Cl 19 [xA 1 0, xI a1] m (fun z1 m1 =>
      ((z1 = 0 →
        Q (-1) m1) ∧
        (¬ (z1 = 0) →
        ((0 < 1) ∧
  ((0 < 1) ∧
  ((0 < 1) ∧
  jx_Cl 27 [xA 20 0, xA 25 0, xI 1, xI 6] m1 (fun z2 m2 =>
          ((0 < 1) ∧
  ((0 < 1) ∧
  jx_Cl 29 [xA 20 0] m2 (fun _ m3 =>
            (((0 : Int) < z2 →
              ((0 < 1) ∧
  ((0 < 3) ∧
  ((0 ≤ a1 ∧ a1 < 6) ∧
  ((0 < 3) ∧
  ((0 < 1) ∧
  (((6 * 0 + a1.toNat) < 18) ∧
  jx_Cl 40 [xA 6 (6 * 0 + a1.toNat), xA 25 0, xI z2] m3 (fun _ m4 =>
                Q z2 m4)))))))) ∧
              (¬ ((0 : Int) < z2) →
              Q z2 m3))))))))))))))) :
    jx_Cl 39 [xA 0 0, xI a1] m Q :=
  jx_segOk (x := 39) (cd := jx_c39) rfl (stops := []) 30 hv
set_option maxRecDepth 100000 in
theorem sg_41 (a1 : Int) (a2 : Int) (a3 : Int) (m : jx_M) (Q : Int → jx_M → Prop) (hv :
    ((0 < 1) ∧
  ((0 < 3) ∧
  jx_Cl 19 [xA 1 0, xI a1] m (fun z1 m1 =>
      ((z1 = 0 →
        Q (-1) m1) ∧
        (¬ (z1 = 0) →
        jx_Cl 12 [xI a2, xI 0, xI 1] m1 (fun z2 m2 =>
          ((z2 = 0 →
            Q (-1) m2) ∧
            (¬ (z2 = 0) →
            ((a3 < (-1) →
              Q (-1) m2) ∧
              (¬ (a3 < (-1)) →
              ((0 < 1) ∧
  ((0 < 3) ∧
  ((0 ≤ a1 ∧ a1 < 6) ∧
  ((0 < 3) ∧
  ((a2 = 0 →
                (((6 * 0 + a1.toNat) < 18) ∧
  ((a2 = 0 →
                  (((6 * 0 + a1.toNat) < 18) ∧
  ((a3 < 0 →
                    Q (m2 6 (6 * 0 + a1.toNat) 2) m2) ∧
                    (¬ (a3 < 0) →
                    ((a3 < (m2 6 (6 * 0 + a1.toNat) 2) →
                      ((1 = 1) ∧
  (((6 * 0 + a1.toNat) < 18) ∧
  ((a3 < 12 →
                        ((1 = 1 ∧ 0 ≤ a3 ∧ a3 < 12) ∧
  (((6 * 0 + a1.toNat) < 18) ∧
  Q (m2 7 (6 * 0 + a1.toNat) (a3.toNat)) m2))) ∧
                        (¬ (a3 < 12) →
                        Q (-4) m2))))) ∧
                      (¬ (a3 < (m2 6 (6 * 0 + a1.toNat) 2)) →
                      Q (-4) m2)))))) ∧
                  (¬ (a2 = 0) →
                  (((6 * 0 + a1.toNat) < 18) ∧
  ((a3 < 0 →
                    Q (m2 6 (6 * 0 + a1.toNat) 3) m2) ∧
                    (¬ (a3 < 0) →
                    ((a3 < (m2 6 (6 * 0 + a1.toNat) 3) →
                      ((1 = 1) ∧
  (((6 * 0 + a1.toNat) < 18) ∧
  ((a3 < 12 →
                        ((1 = 1 ∧ 0 ≤ a3 ∧ a3 < 12) ∧
  (((6 * 0 + a1.toNat) < 18) ∧
  Q (m2 7 (6 * 0 + a1.toNat) (a3.toNat)) m2))) ∧
                        (¬ (a3 < 12) →
                        Q (-4) m2))))) ∧
                      (¬ (a3 < (m2 6 (6 * 0 + a1.toNat) 3)) →
                      Q (-4) m2))))))))) ∧
                (¬ (a2 = 0) →
                (((6 * 0 + a1.toNat) < 18) ∧
  ((a2 = 0 →
                  (((6 * 0 + a1.toNat) < 18) ∧
  ((a3 < 0 →
                    Q (m2 6 (6 * 0 + a1.toNat) 2) m2) ∧
                    (¬ (a3 < 0) →
                    ((a3 < (m2 6 (6 * 0 + a1.toNat) 2) →
                      ((1 = 1) ∧
  (((6 * 0 + a1.toNat) < 18) ∧
  ((a3 < 6 →
                        ((1 = 1 ∧ 0 ≤ a3 ∧ a3 < 6) ∧
  (((6 * 0 + a1.toNat) < 18) ∧
  Q (m2 8 (6 * 0 + a1.toNat) (a3.toNat)) m2))) ∧
                        (¬ (a3 < 6) →
                        Q (-4) m2))))) ∧
                      (¬ (a3 < (m2 6 (6 * 0 + a1.toNat) 2)) →
                      Q (-4) m2)))))) ∧
                  (¬ (a2 = 0) →
                  (((6 * 0 + a1.toNat) < 18) ∧
  ((a3 < 0 →
                    Q (m2 6 (6 * 0 + a1.toNat) 3) m2) ∧
                    (¬ (a3 < 0) →
                    ((a3 < (m2 6 (6 * 0 + a1.toNat) 3) →
                      ((1 = 1) ∧
  (((6 * 0 + a1.toNat) < 18) ∧
  ((a3 < 6 →
                        ((1 = 1 ∧ 0 ≤ a3 ∧ a3 < 6) ∧
  (((6 * 0 + a1.toNat) < 18) ∧
  Q (m2 8 (6 * 0 + a1.toNat) (a3.toNat)) m2))) ∧
                        (¬ (a3 < 6) →
                        Q (-4) m2))))) ∧
                      (¬ (a3 < (m2 6 (6 * 0 + a1.toNat) 3)) →
                      Q (-4) m2))))))))))))))))))))))))) :
    jx_Cl 41 [xA 0 0, xI a1, xI a2, xI a3] m Q :=
  jx_segOk (x := 41) (cd := jx_c41) rfl (stops := []) 46 hv
set_option maxRecDepth 100000 in
theorem sg_42 (a1 : Int) (a2 : Int) (m : jx_M) (Q : Int → jx_M → Prop) (hv :
    ((0 < 1) ∧
  ((0 < 3) ∧
  jx_Cl 19 [xA 1 0, xI a1] m (fun z1 m1 =>
      ((z1 = 0 →
        Q (-1) m1) ∧
        (¬ (z1 = 0) →
        jx_Cl 21 [xI a2] m1 (fun z2 m2 =>
          ((z2 = 0 →
            Q (-1) m2) ∧
            (¬ (z2 = 0) →
            ((0 < 1) ∧
  ((0 < 3) ∧
  ((0 ≤ a1 ∧ a1 < 6) ∧
  ((0 < 3) ∧
  (((6 * 0 + a1.toNat) < 18) ∧
  jx_Cl 43 [xA 6 (6 * 0 + a1.toNat), xI a2] m2 (fun z3 m3 =>
              Q z3 m3))))))))))))))) :
    jx_Cl 42 [xA 0 0, xI a1, xI a2] m Q :=
  jx_segOk (x := 42) (cd := jx_c42) rfl (stops := []) 17 hv
set_option maxRecDepth 100000 in
theorem sg_43 (t0 : Nat) (a1 : Int) (m : jx_M) (Q : Int → jx_M → Prop) (hv :
    ((t0 < 18) ∧
  ((jx_in (a1 - (m 6 t0 6))) ∧
  (((a1 - (m 6 t0 6)) < 0 →
      Q (-4) m) ∧
      (¬ ((a1 - (m 6 t0 6)) < 0) →
      ((t0 < 18) ∧
  (((m 6 t0 7) < 1 →
        Q (-4) m) ∧
        (¬ ((m 6 t0 7) < 1) →
        ((t0 < 18) ∧
  ((0 ≤ (a1 - (m 6 t0 6)) ∧ 0 < (m 6 t0 7)) ∧
  ((t0 < 18) ∧
  ((((a1 - (m 6 t0 6)) / (m 6 t0 7)) < (m 6 t0 2) →
          ((t0 < 18) ∧
  ((1 = 1 ∧ 0 ≤ ((a1 - (m 6 t0 6)) / (m 6 t0 7)) ∧ ((a1 - (m 6 t0 6)) / (m 6 t0 7)) < 12) ∧
  ((t0 < 18) ∧
  Q (m 7 t0 (((a1 - (m 6 t0 6)) / (m 6 t0 7)).toNat)) m)))) ∧
          (¬ (((a1 - (m 6 t0 6)) / (m 6 t0 7)) < (m 6 t0 2)) →
          Q (-4) m))))))))))))) :
    jx_Cl 43 [xA 6 t0, xI a1] m Q :=
  jx_segOk (x := 43) (cd := jx_c43) rfl (stops := []) 27 hv
set_option maxRecDepth 100000 in
theorem sg_44 (a1 : Int) (m : jx_M) (Q : Int → jx_M → Prop) (hv :
    ((0 < 1) ∧
  ((0 < 3) ∧
  jx_Cl 19 [xA 1 0, xI a1] m (fun z1 m1 =>
      ((z1 = 0 →
        Q (-1) m1) ∧
        (¬ (z1 = 0) →
        ((0 < 1) ∧
  ((0 < 3) ∧
  ((0 ≤ a1 ∧ a1 < 6) ∧
  ((0 < 3) ∧
  ((0 < 1) ∧
  ((0 < 3) ∧
  (((6 * 0 + a1.toNat) < 18) ∧
  jx_Cl 45 [xA 6 (6 * 0 + a1.toNat), xI (m1 1 0 8)] m1 (fun z2 m2 =>
          Q z2 m2)))))))))))))) :
    jx_Cl 44 [xA 0 0, xI a1] m Q :=
  jx_segOk (x := 44) (cd := jx_c44) rfl (stops := []) 17 hv
set_option maxRecDepth 100000 in
theorem sg_45 (t0 : Nat) (a1 : Int) (m : jx_M) (Q : Int → jx_M → Prop) (hv :
    ((t0 < 18) ∧
  ((t0 < 18) ∧
  ((jx_in ((m 6 t0 5) + (m 6 t0 8))) ∧
  (((jx_iand a1 4) = 0 →
      Q ((m 6 t0 5) + (m 6 t0 8)) m) ∧
      (¬ ((jx_iand a1 4) = 0) →
      (((4 : Int) < ((m 6 t0 5) + (m 6 t0 8)) →
        Q 4 m) ∧
        (¬ ((4 : Int) < ((m 6 t0 5) + (m 6 t0 8))) →
        Q ((m 6 t0 5) + (m 6 t0 8)) m)))))))) :
    jx_Cl 45 [xA 6 t0, xI a1] m Q :=
  jx_segOk (x := 45) (cd := jx_c45) rfl (stops := []) 17 hv
set_option maxRecDepth 100000 in
theorem sg_46 (a1 : Int) (a2 : Int) (m : jx_M) (Q : Int → jx_M → Prop) (hv :
    jx_Cl 11 [xI a1] m (fun z1 m1 =>
      ((z1 = 0 →
        Q (-1) m1) ∧
        (¬ (z1 = 0) →
        jx_Cl 21 [xI a2] m1 (fun z2 m2 =>
          ((z2 = 0 →
            Q (-1) m2) ∧
            (¬ (z2 = 0) →
            jx_AW 46 12 [some (xA 0 0), some (xI a1), some (xI a2), some (xI 0), some (xI 0)] [] m2 Q))))))) :
    jx_Cl 46 [xA 0 0, xI a1, xI a2] m Q :=
  jx_segOk (x := 46) (cd := jx_c46) rfl (stops := [12]) 11 hv
set_option maxRecDepth 100000 in
theorem sg_47 (t0 : Nat) (a1 : Int) (a2 : Int) (a3 : Int) (m : jx_M) (Q : Int → jx_M → Prop) (hv :
    ((t0 < 3) ∧
  jx_Cl 48 [xA 1 t0, xI a1, xI a3] m (fun z1 m1 =>
      ((z1 = 0 →
        (((0 : Int) = 0 ∨ (0 : Int) = 1) ∧
  Q 0 m1)) ∧
        (¬ (z1 = 0) →
        ((t0 < 3) ∧
  jx_Cl 52 [xA 1 t0, xI a1, xI a2, xI a3] m1 (fun z2 m2 =>
          ((z2 = 0 →
            (((0 : Int) = 0 ∨ (0 : Int) = 1) ∧
  Q 0 m2)) ∧
            (¬ (z2 = 0) →
            (((1 : Int) = 0 ∨ (1 : Int) = 1) ∧
  Q 1 m2)))))))))) :
    jx_Cl 47 [xA 1 t0, xI a1, xI a2, xI a3] m Q :=
  jx_segOk (x := 47) (cd := jx_c47) rfl (stops := []) 15 hv
set_option maxRecDepth 100000 in
theorem sg_48 (t0 : Nat) (a1 : Int) (a2 : Int) (m : jx_M) (Q : Int → jx_M → Prop) (hv :
    jx_Cl 21 [xI a2] m (fun z1 m1 =>
      ((z1 = 0 →
        (((0 : Int) = 0 ∨ (0 : Int) = 1) ∧
  Q 0 m1)) ∧
        (¬ (z1 = 0) →
        ((t0 < 3) ∧
  ((0 ≤ a1 ∧ a1 < 6) ∧
  ((t0 < 3) ∧
  (((6 * t0 + a1.toNat) < 18) ∧
  jx_Cl 49 [xA 6 (6 * t0 + a1.toNat), xI a2] m1 (fun z2 m2 =>
          ((z2 = 0 →
            (((0 : Int) = 0 ∨ (0 : Int) = 1) ∧
  Q 0 m2)) ∧
            (¬ (z2 = 0) →
            ((t0 < 3) ∧
  (((jx_iand (m2 1 t0 8) 1) = 0 →
              ((t0 < 3) ∧
  (((jx_iand (m2 1 t0 8) 2) = 0 →
                ((t0 < 3) ∧
  (((jx_iand (m2 1 t0 8) 8) = 0 →
                  (((1 : Int) = 0 ∨ (1 : Int) = 1) ∧
  Q 1 m2)) ∧
                  (¬ ((jx_iand (m2 1 t0 8) 8) = 0) →
                  ((t0 < 3) ∧
  jx_Cl 51 [xA 1 t0, xI a1, xI a2] m2 (fun z3 m3 =>
                    ((z3 = 0 →
                      (((1 : Int) = 0 ∨ (1 : Int) = 1) ∧
  Q 1 m3)) ∧
                      (¬ (z3 = 0) →
                      (((0 : Int) = 0 ∨ (0 : Int) = 1) ∧
  Q 0 m3))))))))) ∧
                (¬ ((jx_iand (m2 1 t0 8) 2) = 0) →
                ((t0 < 3) ∧
  ((0 ≤ a1 ∧ a1 < 6) ∧
  ((t0 < 3) ∧
  (((6 * t0 + a1.toNat) < 18) ∧
  jx_Cl 43 [xA 6 (6 * t0 + a1.toNat), xI a2] m2 (fun z4 m4 =>
                  ((t0 < 3) ∧
  jx_Cl 50 [xA 1 t0, xI z4] m4 (fun z5 m5 =>
                    ((z5 = 0 →
                      ((t0 < 3) ∧
  (((jx_iand (m5 1 t0 8) 8) = 0 →
                        (((1 : Int) = 0 ∨ (1 : Int) = 1) ∧
  Q 1 m5)) ∧
                        (¬ ((jx_iand (m5 1 t0 8) 8) = 0) →
                        ((t0 < 3) ∧
  jx_Cl 51 [xA 1 t0, xI a1, xI a2] m5 (fun z6 m6 =>
                          ((z6 = 0 →
                            (((1 : Int) = 0 ∨ (1 : Int) = 1) ∧
  Q 1 m6)) ∧
                            (¬ (z6 = 0) →
                            (((0 : Int) = 0 ∨ (0 : Int) = 1) ∧
  Q 0 m6))))))))) ∧
                      (¬ (z5 = 0) →
                      (((0 : Int) = 0 ∨ (0 : Int) = 1) ∧
  Q 0 m5)))))))))))))) ∧
              (¬ ((jx_iand (m2 1 t0 8) 1) = 0) →
              ((a2 < 60 →
                ((t0 < 3) ∧
  (((jx_iand (m2 1 t0 8) 2) = 0 →
                  ((t0 < 3) ∧
  (((jx_iand (m2 1 t0 8) 8) = 0 →
                    (((1 : Int) = 0 ∨ (1 : Int) = 1) ∧
  Q 1 m2)) ∧
                    (¬ ((jx_iand (m2 1 t0 8) 8) = 0) →
                    ((t0 < 3) ∧
  jx_Cl 51 [xA 1 t0, xI a1, xI a2] m2 (fun z7 m7 =>
                      ((z7 = 0 →
                        (((1 : Int) = 0 ∨ (1 : Int) = 1) ∧
  Q 1 m7)) ∧
                        (¬ (z7 = 0) →
                        (((0 : Int) = 0 ∨ (0 : Int) = 1) ∧
  Q 0 m7))))))))) ∧
                  (¬ ((jx_iand (m2 1 t0 8) 2) = 0) →
                  ((t0 < 3) ∧
  ((0 ≤ a1 ∧ a1 < 6) ∧
  ((t0 < 3) ∧
  (((6 * t0 + a1.toNat) < 18) ∧
  jx_Cl 43 [xA 6 (6 * t0 + a1.toNat), xI a2] m2 (fun z8 m8 =>
                    ((t0 < 3) ∧
  jx_Cl 50 [xA 1 t0, xI z8] m8 (fun z9 m9 =>
                      ((z9 = 0 →
                        ((t0 < 3) ∧
  (((jx_iand (m9 1 t0 8) 8) = 0 →
                          (((1 : Int) = 0 ∨ (1 : Int) = 1) ∧
  Q 1 m9)) ∧
                          (¬ ((jx_iand (m9 1 t0 8) 8) = 0) →
                          ((t0 < 3) ∧
  jx_Cl 51 [xA 1 t0, xI a1, xI a2] m9 (fun z10 m10 =>
                            ((z10 = 0 →
                              (((1 : Int) = 0 ∨ (1 : Int) = 1) ∧
  Q 1 m10)) ∧
                              (¬ (z10 = 0) →
                              (((0 : Int) = 0 ∨ (0 : Int) = 1) ∧
  Q 0 m10))))))))) ∧
                        (¬ (z9 = 0) →
                        (((0 : Int) = 0 ∨ (0 : Int) = 1) ∧
  Q 0 m9)))))))))))))) ∧
                (¬ (a2 < 60) →
                (((0 : Int) = 0 ∨ (0 : Int) = 1) ∧
  Q 0 m2))))))))))))))))) :
    jx_Cl 48 [xA 1 t0, xI a1, xI a2] m Q :=
  jx_segOk (x := 48) (cd := jx_c48) rfl (stops := []) 46 hv
set_option maxRecDepth 100000 in
theorem sg_49 (t0 : Nat) (a1 : Int) (m : jx_M) (Q : Int → jx_M → Prop) (hv :
    ((t0 < 18) ∧
  ((jx_in (a1 - (m 6 t0 6))) ∧
  (((a1 - (m 6 t0 6)) < 0 →
      (((0 : Int) = 0 ∨ (0 : Int) = 1) ∧
  Q 0 m)) ∧
      (¬ ((a1 - (m 6 t0 6)) < 0) →
      ((t0 < 18) ∧
  (((m 6 t0 7) < 1 →
        (((0 : Int) = 0 ∨ (0 : Int) = 1) ∧
  Q 0 m)) ∧
        (¬ ((m 6 t0 7) < 1) →
        ((t0 < 18) ∧
  ((0 ≤ (a1 - (m 6 t0 6)) ∧ 0 < (m 6 t0 7)) ∧
  ((((a1 - (m 6 t0 6)) % (m 6 t0 7)) = 0 →
          ((t0 < 18) ∧
  ((0 ≤ (a1 - (m 6 t0 6)) ∧ 0 < (m 6 t0 7)) ∧
  ((t0 < 18) ∧
  ((((a1 - (m 6 t0 6)) / (m 6 t0 7)) < (m 6 t0 2) →
            (((1 : Int) = 0 ∨ (1 : Int) = 1) ∧
  Q 1 m)) ∧
            (¬ (((a1 - (m 6 t0 6)) / (m 6 t0 7)) < (m 6 t0 2)) →
            (((0 : Int) = 0 ∨ (0 : Int) = 1) ∧
  Q 0 m))))))) ∧
          (¬ (((a1 - (m 6 t0 6)) % (m 6 t0 7)) = 0) →
          (((0 : Int) = 0 ∨ (0 : Int) = 1) ∧
  Q 0 m))))))))))))) :
    jx_Cl 49 [xA 6 t0, xI a1] m Q :=
  jx_segOk (x := 49) (cd := jx_c49) rfl (stops := []) 27 hv
set_option maxRecDepth 100000 in
theorem sg_50 (t0 : Nat) (a1 : Int) (m : jx_M) (Q : Int → jx_M → Prop) (hv :
    jx_Cl 11 [xI a1] m (fun z1 m1 =>
      ((z1 = 0 →
        (((0 : Int) = 0 ∨ (0 : Int) = 1) ∧
  Q 0 m1)) ∧
        (¬ (z1 = 0) →
        ((t0 < 3) ∧
  ((1 = 1 ∧ 0 ≤ a1 ∧ a1 < 25) ∧
  ((t0 < 3) ∧
  (((m1 2 t0 (a1.toNat)) = 0 →
          (((1 : Int) = 0 ∨ (1 : Int) = 1) ∧
  Q 1 m1)) ∧
          (¬ ((m1 2 t0 (a1.toNat)) = 0) →
          (((0 : Int) = 0 ∨ (0 : Int) = 1) ∧
  Q 0 m1)))))))))) :
    jx_Cl 50 [xA 1 t0, xI a1] m Q :=
  jx_segOk (x := 50) (cd := jx_c50) rfl (stops := []) 12 hv
set_option maxRecDepth 100000 in
theorem sg_51 (t0 : Nat) (a1 : Int) (a2 : Int) (m : jx_M) (Q : Int → jx_M → Prop) (hv :
    ((t0 < 3) ∧
  ((0 ≤ a1 ∧ a1 < 6) ∧
  ((t0 < 3) ∧
  (((6 * t0 + a1.toNat) < 18) ∧
  jx_Cl 43 [xA 6 (6 * t0 + a1.toNat), xI a2] m (fun z1 m1 =>
      jx_AW 51 9 [some (xA 1 t0), some (xI a1), some (xI a2), some (xI z1), some (xI 0), none] [] m1 Q)))))) :
    jx_Cl 51 [xA 1 t0, xI a1, xI a2] m Q :=
  jx_segOk (x := 51) (cd := jx_c51) rfl (stops := [9]) 10 hv
set_option maxRecDepth 100000 in
theorem sg_52 (t0 : Nat) (a1 : Int) (a2 : Int) (a3 : Int) (m : jx_M) (Q : Int → jx_M → Prop) (hv :
    ((t0 < 3) ∧
  ((0 ≤ a1 ∧ a1 < 6) ∧
  ((t0 < 3) ∧
  (((6 * t0 + a1.toNat) < 18) ∧
  jx_Cl 43 [xA 6 (6 * t0 + a1.toNat), xI a3] m (fun z1 m1 =>
      ((z1 < 0 →
        (((0 : Int) = 0 ∨ (0 : Int) = 1) ∧
  Q 0 m1)) ∧
        (¬ (z1 < 0) →
        jx_Cl 36 [xI z1, xI a2] m1 (fun z2 m2 =>
          ((t0 < 3) ∧
  ((0 ≤ a1 ∧ a1 < 6) ∧
  ((t0 < 3) ∧
  ((t0 < 3) ∧
  (((6 * t0 + a1.toNat) < 18) ∧
  jx_Cl 45 [xA 6 (6 * t0 + a1.toNat), xI (m2 1 t0 8)] m2 (fun z3 m3 =>
            ((t0 < 3) ∧
  ((1 = 1 ∧ 0 ≤ a2 ∧ a2 < 25) ∧
  ((t0 < 3) ∧
  ((jx_in (z3 - (m3 2 t0 (a2.toNat)))) ∧
  (((z3 - (m3 2 t0 (a2.toNat))) < z2 →
              (((0 : Int) = 0 ∨ (0 : Int) = 1) ∧
  Q 0 m3)) ∧
              (¬ ((z3 - (m3 2 t0 (a2.toNat))) < z2) →
              (((1 : Int) = 0 ∨ (1 : Int) = 1) ∧
  Q 1 m3)))))))))))))))))))))) :
    jx_Cl 52 [xA 1 t0, xI a1, xI a2, xI a3] m Q :=
  jx_segOk (x := 52) (cd := jx_c52) rfl (stops := []) 29 hv
set_option maxRecDepth 100000 in
theorem sg_53 (a1 : Int) (a2 : Int) (m : jx_M) (Q : Int → jx_M → Prop) (hv :
    ((0 < 1) ∧
  ((0 < 3) ∧
  jx_Cl 19 [xA 1 0, xI a1] m (fun z1 m1 =>
      ((z1 = 0 →
        Q (-1) m1) ∧
        (¬ (z1 = 0) →
        ((0 < 1) ∧
  ((0 < 3) ∧
  jx_Cl 19 [xA 1 0, xI a2] m1 (fun z2 m2 =>
          ((z2 = 0 →
            Q (-1) m2) ∧
            (¬ (z2 = 0) →
            ((0 < 1) ∧
  ((0 < 3) ∧
  ((0 ≤ a2 ∧ a2 < 6) ∧
  ((0 < 3) ∧
  ((0 < 1) ∧
  ((0 < 3) ∧
  ((0 ≤ a1 ∧ a1 < 6) ∧
  ((0 < 3) ∧
  (((6 * 0 + a2.toNat) < 18) ∧
  (((6 * 0 + a2.toNat) < 18) ∧
  (((6 * 0 + a1.toNat) < 18) ∧
  jx_Cl 54 [xA 6 (6 * 0 + a1.toNat), xA 8 (6 * 0 + a2.toNat), xI (m2 6 (6 * 0 + a2.toNat) 3)] m2 (fun z3 m3 =>
              Q z3 m3))))))))))))))))))))))) :
    jx_Cl 53 [xA 0 0, xI a1, xI a2] m Q :=
  jx_segOk (x := 53) (cd := jx_c53) rfl (stops := []) 28 hv
set_option maxRecDepth 100000 in
theorem sg_55 (a1 : Int) (m : jx_M) (Q : Int → jx_M → Prop) (hv :
    jx_Cl 12 [xI a1, xI 0, xI 20] m (fun z1 m1 =>
      ((z1 = 0 →
        Q (-1) m1) ∧
        (¬ (z1 = 0) →
        ((0 < 1) ∧
  ((0 < 3) ∧
  ((0 < 1) ∧
  ((0 < 3) ∧
  Q (m1 1 0 7) (jx_up m1 1 0 7 a1))))))))) :
    jx_Cl 55 [xA 0 0, xI a1] m Q :=
  jx_segOk (x := 55) (cd := jx_c55) rfl (stops := []) 16 hv
set_option maxRecDepth 100000 in
theorem sg_56 (a1 : Int) (a2 : Int) (m : jx_M) (Q : Int → jx_M → Prop) (hv :
    jx_Cl 57 [xI a1] m (fun z1 m1 =>
      ((z1 = 0 →
        Q (-1) m1) ∧
        (¬ (z1 = 0) →
        ((0 < 1) ∧
  ((0 < 3) ∧
  (((jx_iand (m1 1 0 8) (jx_ishl 1 a1)) = 0 →
          ((0 < 1) ∧
  ((a2 = 0 →
            ((0 < 1) ∧
  ((0 < 3) ∧
  ((0 < 3) ∧
  Q 0 (jx_up m1 1 0 8 (jx_iand (m1 1 0 8) (jx_ixor (jx_ishl 1 a1) (-1)))))))) ∧
            (¬ (a2 = 0) →
            ((0 < 1) ∧
  ((0 < 3) ∧
  ((0 < 3) ∧
  Q 0 (jx_up m1 1 0 8 (jx_ior (m1 1 0 8) (jx_ishl 1 a1)))))))))) ∧
          (¬ ((jx_iand (m1 1 0 8) (jx_ishl 1 a1)) = 0) →
          ((0 < 1) ∧
  ((a2 = 0 →
            ((0 < 1) ∧
  ((0 < 3) ∧
  ((0 < 3) ∧
  Q 1 (jx_up m1 1 0 8 (jx_iand (m1 1 0 8) (jx_ixor (jx_ishl 1 a1) (-1)))))))) ∧
            (¬ (a2 = 0) →
            ((0 < 1) ∧
  ((0 < 3) ∧
  ((0 < 3) ∧
  Q 1 (jx_up m1 1 0 8 (jx_ior (m1 1 0 8) (jx_ishl 1 a1))))))))))))))))) :
    jx_Cl 56 [xA 0 0, xI a1, xI a2] m Q :=
  jx_segOk (x := 56) (cd := jx_c56) rfl (stops := []) 31 hv
set_option maxRecDepth 100000 in
theorem sg_57 (a1 : Int) (m : jx_M) (Q : Int → jx_M → Prop) (hv :
    ((a1 < 0 →
      (((0 : Int) = 0 ∨ (0 : Int) = 1) ∧
  Q 0 m)) ∧
      (¬ (a1 < 0) →
      ((a1 < 4 →
        (((1 : Int) = 0 ∨ (1 : Int) = 1) ∧
  Q 1 m)) ∧
        (¬ (a1 < 4) →
        (((0 : Int) = 0 ∨ (0 : Int) = 1) ∧
  Q 0 m)))))) :
    jx_Cl 57 [xI a1] m Q :=
  jx_segOk (x := 57) (cd := jx_c57) rfl (stops := []) 9 hv
set_option maxRecDepth 100000 in
theorem sg_58 (a1 : Int) (m : jx_M) (Q : Int → jx_M → Prop) (hv :
    ((a1 = 0 →
      ((0 < 1) ∧
  ((0 < 3) ∧
  Q (m 1 0 4) m))) ∧
      (¬ (a1 = 0) →
      ((a1 = 1 →
      ((0 < 1) ∧
  ((0 < 3) ∧
  Q (m 1 0 5) m))) ∧
      (¬ (a1 = 1) →
      ((a1 = 2 →
      ((0 < 1) ∧
  ((0 < 3) ∧
  Q (m 1 0 6) m))) ∧
      (¬ (a1 = 2) →
      ((a1 = 3 →
      ((0 < 1) ∧
  ((0 < 3) ∧
  jx_Cl 59 [xI (m 1 0 8)] m (fun z1 m1 =>
        Q z1 m1)))) ∧
      (¬ (a1 = 3) →
      Q (-1) m))))))))) :
    jx_Cl 58 [xA 0 0, xI a1] m Q :=
  jx_segOk (x := 58) (cd := jx_c58) rfl (stops := []) 8 hv
set_option maxRecDepth 100000 in
theorem sg_59 (a1 : Int) (m : jx_M) (Q : Int → jx_M → Prop) (hv :
    ((jx_in (a1 - (jx_iand (jx_iushr a1 1) 1431655765))) ∧
  ((jx_in ((jx_iand (a1 - (jx_iand (jx_iushr a1 1) 1431655765)) 858993459) + (jx_iand (jx_iushr (a1 - (jx_iand (jx_iushr a1 1) 1431655765)) 2) 858993459))) ∧
  ((jx_in (((jx_iand (a1 - (jx_iand (jx_iushr a1 1) 1431655765)) 858993459) + (jx_iand (jx_iushr (a1 - (jx_iand (jx_iushr a1 1) 1431655765)) 2) 858993459)) + (jx_iushr ((jx_iand (a1 - (jx_iand (jx_iushr a1 1) 1431655765)) 858993459) + (jx_iand (jx_iushr (a1 - (jx_iand (jx_iushr a1 1) 1431655765)) 2) 858993459)) 4))) ∧
  ((jx_in ((jx_iand (((jx_iand (a1 - (jx_iand (jx_iushr a1 1) 1431655765)) 858993459) + (jx_iand (jx_iushr (a1 - (jx_iand (jx_iushr a1 1) 1431655765)) 2) 858993459)) + (jx_iushr ((jx_iand (a1 - (jx_iand (jx_iushr a1 1) 1431655765)) 858993459) + (jx_iand (jx_iushr (a1 - (jx_iand (jx_iushr a1 1) 1431655765)) 2) 858993459)) 4)) 252645135) + (jx_iushr (jx_iand (((jx_iand (a1 - (jx_iand (jx_iushr a1 1) 1431655765)) 858993459) + (jx_iand (jx_iushr (a1 - (jx_iand (jx_iushr a1 1) 1431655765)) 2) 858993459)) + (jx_iushr ((jx_iand (a1 - (jx_iand (jx_iushr a1 1) 1431655765)) 858993459) + (jx_iand (jx_iushr (a1 - (jx_iand (jx_iushr a1 1) 1431655765)) 2) 858993459)) 4)) 252645135) 8))) ∧
  ((jx_in (((jx_iand (((jx_iand (a1 - (jx_iand (jx_iushr a1 1) 1431655765)) 858993459) + (jx_iand (jx_iushr (a1 - (jx_iand (jx_iushr a1 1) 1431655765)) 2) 858993459)) + (jx_iushr ((jx_iand (a1 - (jx_iand (jx_iushr a1 1) 1431655765)) 858993459) + (jx_iand (jx_iushr (a1 - (jx_iand (jx_iushr a1 1) 1431655765)) 2) 858993459)) 4)) 252645135) + (jx_iushr (jx_iand (((jx_iand (a1 - (jx_iand (jx_iushr a1 1) 1431655765)) 858993459) + (jx_iand (jx_iushr (a1 - (jx_iand (jx_iushr a1 1) 1431655765)) 2) 858993459)) + (jx_iushr ((jx_iand (a1 - (jx_iand (jx_iushr a1 1) 1431655765)) 858993459) + (jx_iand (jx_iushr (a1 - (jx_iand (jx_iushr a1 1) 1431655765)) 2) 858993459)) 4)) 252645135) 8)) + (jx_iushr ((jx_iand (((jx_iand (a1 - (jx_iand (jx_iushr a1 1) 1431655765)) 858993459) + (jx_iand (jx_iushr (a1 - (jx_iand (jx_iushr a1 1) 1431655765)) 2) 858993459)) + (jx_iushr ((jx_iand (a1 - (jx_iand (jx_iushr a1 1) 1431655765)) 858993459) + (jx_iand (jx_iushr (a1 - (jx_iand (jx_iushr a1 1) 1431655765)) 2) 858993459)) 4)) 252645135) + (jx_iushr (jx_iand (((jx_iand (a1 - (jx_iand (jx_iushr a1 1) 1431655765)) 858993459) + (jx_iand (jx_iushr (a1 - (jx_iand (jx_iushr a1 1) 1431655765)) 2) 858993459)) + (jx_iushr ((jx_iand (a1 - (jx_iand (jx_iushr a1 1) 1431655765)) 858993459) + (jx_iand (jx_iushr (a1 - (jx_iand (jx_iushr a1 1) 1431655765)) 2) 858993459)) 4)) 252645135) 8)) 16))) ∧
  Q (jx_iand (((jx_iand (((jx_iand (a1 - (jx_iand (jx_iushr a1 1) 1431655765)) 858993459) + (jx_iand (jx_iushr (a1 - (jx_iand (jx_iushr a1 1) 1431655765)) 2) 858993459)) + (jx_iushr ((jx_iand (a1 - (jx_iand (jx_iushr a1 1) 1431655765)) 858993459) + (jx_iand (jx_iushr (a1 - (jx_iand (jx_iushr a1 1) 1431655765)) 2) 858993459)) 4)) 252645135) + (jx_iushr (jx_iand (((jx_iand (a1 - (jx_iand (jx_iushr a1 1) 1431655765)) 858993459) + (jx_iand (jx_iushr (a1 - (jx_iand (jx_iushr a1 1) 1431655765)) 2) 858993459)) + (jx_iushr ((jx_iand (a1 - (jx_iand (jx_iushr a1 1) 1431655765)) 858993459) + (jx_iand (jx_iushr (a1 - (jx_iand (jx_iushr a1 1) 1431655765)) 2) 858993459)) 4)) 252645135) 8)) + (jx_iushr ((jx_iand (((jx_iand (a1 - (jx_iand (jx_iushr a1 1) 1431655765)) 858993459) + (jx_iand (jx_iushr (a1 - (jx_iand (jx_iushr a1 1) 1431655765)) 2) 858993459)) + (jx_iushr ((jx_iand (a1 - (jx_iand (jx_iushr a1 1) 1431655765)) 858993459) + (jx_iand (jx_iushr (a1 - (jx_iand (jx_iushr a1 1) 1431655765)) 2) 858993459)) 4)) 252645135) + (jx_iushr (jx_iand (((jx_iand (a1 - (jx_iand (jx_iushr a1 1) 1431655765)) 858993459) + (jx_iand (jx_iushr (a1 - (jx_iand (jx_iushr a1 1) 1431655765)) 2) 858993459)) + (jx_iushr ((jx_iand (a1 - (jx_iand (jx_iushr a1 1) 1431655765)) 858993459) + (jx_iand (jx_iushr (a1 - (jx_iand (jx_iushr a1 1) 1431655765)) 2) 858993459)) 4)) 252645135) 8)) 16)) 63) m)))))) :
    jx_Cl 59 [xI a1] m Q :=
  jx_segOk (x := 59) (cd := jx_c59) rfl (stops := []) 43 hv
set_option maxRecDepth 100000 in
theorem sg_60 (a1 : Int) (a2 : Int) (a3 : Int) (a4 : Int) (m : jx_M) (Q : Int → jx_M → Prop) (hv :
    jx_Cl 11 [xI a1] m (fun z1 m1 =>
      ((z1 = 0 →
        Q (-1) m1) ∧
        (¬ (z1 = 0) →
        jx_Cl 14 [xI a2] m1 (fun z2 m2 =>
          ((z2 = 0 →
            Q (-1) m2) ∧
            (¬ (z2 = 0) →
            jx_Cl 12 [xI a3, xI 0, xI 5] m2 (fun z3 m3 =>
              ((z3 = 0 →
                Q (-1) m3) ∧
                (¬ (z3 = 0) →
                jx_Cl 12 [xI a4, xI 0, xI 20] m3 (fun z4 m4 =>
                  ((z4 = 0 →
                    Q (-1) m4) ∧
                    (¬ (z4 = 0) →
                    ((0 < 1) ∧
  ((0 < 3) ∧
  (((m4 1 0 5) < 12 →
                      ((0 < 1) ∧
  ((0 < 3) ∧
  ((0 < 1) ∧
  ((0 < 3) ∧
  ((0 ≤ (m4 1 0 5) ∧ (m4 1 0 5) < 12) ∧
  ((0 < 3) ∧
  (((12 * 0 + (m4 1 0 5).toNat) < 36) ∧
  jx_Cl 61 [xA 9 (12 * 0 + (m4 1 0 5).toNat), xI a1, xI a2, xI a3, xI a4] m4 (fun _ m5 =>
                        ((0 < 1) ∧
  ((jx_in ((m4 1 0 5) + 1)) ∧
  ((0 < 3) ∧
  Q (m4 1 0 5) (jx_up m5 1 0 5 ((m4 1 0 5) + 1)))))))))))))) ∧
                      (¬ ((m4 1 0 5) < 12) →
                      Q (-3) m4))))))))))))))))) :
    jx_Cl 60 [xA 0 0, xI a1, xI a2, xI a3, xI a4] m Q :=
  jx_segOk (x := 60) (cd := jx_c60) rfl (stops := []) 44 hv
set_option maxRecDepth 100000 in
theorem sg_61 (t0 : Nat) (a1 : Int) (a2 : Int) (a3 : Int) (a4 : Int) (m : jx_M) (Q : Int → jx_M → Prop) (hv :
    ((t0 < 36) ∧
  ((t0 < 36) ∧
  ((t0 < 36) ∧
  ((t0 < 36) ∧
  Q 0 (jx_up (jx_up (jx_up (jx_up m 9 t0 0 a1) 9 t0 1 a2) 9 t0 2 a3) 9 t0 3 a4)))))) :
    jx_Cl 61 [xA 9 t0, xI a1, xI a2, xI a3, xI a4] m Q :=
  jx_segOk (x := 61) (cd := jx_c61) rfl (stops := []) 14 hv
set_option maxRecDepth 100000 in
theorem sg_62 (a1 : Int) (a2 : Int) (m : jx_M) (Q : Int → jx_M → Prop) (hv :
    ((0 < 1) ∧
  ((0 < 3) ∧
  ((jx_in ((m 1 0 5) - 1)) ∧
  jx_Cl 12 [xI a1, xI 0, xI ((m 1 0 5) - 1)] m (fun z1 m1 =>
      ((z1 = 0 →
        Q (-1) m1) ∧
        (¬ (z1 = 0) →
        jx_Cl 12 [xI a2, xI 0, xI 2] m1 (fun z2 m2 =>
          ((z2 = 0 →
            Q (-1) m2) ∧
            (¬ (z2 = 0) →
            ((0 < 1) ∧
  ((0 < 1) ∧
  ((0 < 2) ∧
  jx_Cl 63 [xA 14 0, xA 1 0] m2 (fun _ m3 =>
              ((a2 = 2 →
                ((0 < 1) ∧
  ((0 < 2) ∧
  ((1 = 1 ∧ 0 ≤ a1 ∧ a1 < 12) ∧
  ((0 < 2) ∧
  Q (m3 17 0 (a1.toNat)) m3))))) ∧
                (¬ (a2 = 2) →
                ((a2 = 0 →
                  ((0 < 1) ∧
  ((0 < 2) ∧
  ((1 = 1 ∧ 0 ≤ a1 ∧ a1 < 12) ∧
  ((0 < 2) ∧
  Q (m3 15 0 (a1.toNat)) m3))))) ∧
                  (¬ (a2 = 0) →
                  ((0 < 1) ∧
  ((0 < 2) ∧
  ((1 = 1 ∧ 0 ≤ a1 ∧ a1 < 12) ∧
  ((0 < 2) ∧
  Q (m3 16 0 (a1.toNat)) m3)))))))))))))))))))))) :
    jx_Cl 62 [xA 0 0, xI a1, xI a2] m Q :=
  jx_segOk (x := 62) (cd := jx_c62) rfl (stops := []) 32 hv
set_option maxRecDepth 100000 in
theorem sg_63 (t0 : Nat) (t1 : Nat) (m : jx_M) (Q : Int → jx_M → Prop) (hv :
    ((t0 < 2) ∧
  jx_Cl 64 [xA 14 t0, xA 1 t1] m (fun _ m1 =>
      ((t0 < 2) ∧
  jx_Cl 65 [xA 14 t0, xA 1 t1] m1 (fun _ m2 =>
        ((t1 < 3) ∧
  ((t0 < 2) ∧
  jx_AW 63 12 [some (xA 14 t0), some (xA 1 t1), some (xI 0)] [] (jx_up m2 14 t0 4 (m2 1 t1 5)) Q))))))) :
    jx_Cl 63 [xA 14 t0, xA 1 t1] m Q :=
  jx_segOk (x := 63) (cd := jx_c63) rfl (stops := [12]) 13 hv
set_option maxRecDepth 100000 in
theorem sg_64 (t0 : Nat) (t1 : Nat) (m : jx_M) (Q : Int → jx_M → Prop) (hv :
    ((t0 < 2) ∧
  jx_Cl 2 [xA 18 t0, xI 0] m (fun _ m1 =>
      ((t0 < 2) ∧
  jx_AW 64 9 [some (xA 14 t0), some (xA 1 t1), some (xI 0), none, none, none] [] (jx_up m1 14 t0 3 0) Q)))) :
    jx_Cl 64 [xA 14 t0, xA 1 t1] m Q :=
  jx_segOk (x := 64) (cd := jx_c64) rfl (stops := [9, 20]) 10 hv
set_option maxRecDepth 100000 in
theorem sg_65 (t0 : Nat) (t1 : Nat) (m : jx_M) (Q : Int → jx_M → Prop) (hv :
    ((t0 < 2) ∧
  jx_Cl 2 [xA 19 t0, xI 0] m (fun _ m1 =>
      jx_AW 65 6 [some (xA 14 t0), some (xA 1 t1), some (xI 0), none, none] [] m1 Q))) :
    jx_Cl 65 [xA 14 t0, xA 1 t1] m Q :=
  jx_segOk (x := 65) (cd := jx_c65) rfl (stops := [6, 17]) 7 hv
set_option maxRecDepth 100000 in
theorem sg_66 (t0 : Nat) (t1 : Nat) (t2 : Nat) (a3 : Int) (m : jx_M) (Q : Int → jx_M → Prop) (hv :
    ((t0 < 2) ∧
  ((1 = 1 ∧ 0 ≤ a3 ∧ a3 < 12) ∧
  ((t0 < 2) ∧
  ((t0 < 2) ∧
  ((1 = 1 ∧ 0 ≤ a3 ∧ a3 < 12) ∧
  ((t0 < 2) ∧
  ((t0 < 2) ∧
  ((1 = 1 ∧ 0 ≤ a3 ∧ a3 < 12) ∧
  ((t0 < 2) ∧
  ((t2 < 36) ∧
  jx_Cl 14 [xI ((jx_up (jx_up (jx_up m 15 t0 (a3.toNat) (-4)) 16 t0 (a3.toNat) (-4)) 17 t0 (a3.toNat) 0) 9 t2 1)] (jx_up (jx_up (jx_up m 15 t0 (a3.toNat) (-4)) 16 t0 (a3.toNat) (-4)) 17 t0 (a3.toNat) 0) (fun z1 m1 =>
      ((z1 = 0 →
        jx_AW 66 31 [some (xA 14 t0), some (xA 1 t1), some (xA 9 t2), some (xI a3), some (xI 0), some (xI (-1)), some (xI 0), none] [] m1 Q) ∧
        (¬ (z1 = 0) →
        ((t0 < 2) ∧
  ((t2 < 36) ∧
  ((1 = 1 ∧ 0 ≤ (m1 9 t2 1) ∧ (m1 9 t2 1) < 4) ∧
  ((t0 < 2) ∧
  jx_AW 66 31 [some (xA 14 t0), some (xA 1 t1), some (xA 9 t2), some (xI a3), some (xI (m1 19 t0 ((m1 9 t2 1).toNat))), some (xI (-1)), some (xI 0), none] [] m1 Q)))))))))))))))))) :
    jx_Cl 66 [xA 14 t0, xA 1 t1, xA 9 t2, xI a3] m Q :=
  jx_segOk (x := 66) (cd := jx_c66) rfl (stops := [31]) 31 hv
set_option maxRecDepth 100000 in
theorem sg_67 (t1 : Nat) (a2 : Int) (a3 : Int) (a4 : Int) (m : jx_M) (Q : Int → jx_M → Prop) (hv :
    ((a2 = 0 →
      (((0 : Int) = 0 ∨ (0 : Int) = 1) ∧
  Q 0 m)) ∧
      (¬ (a2 = 0) →
      jx_AW 67 6 [some (xA 1 t1), some (xI a2), some (xI a3), some (xI a4), some (xI 0)] [] m Q))) :
    jx_Cl 67 [xA 1 t1, xI a2, xI a3, xI a4] m Q :=
  jx_segOk (x := 67) (cd := jx_c67) rfl (stops := [6]) 5 hv
set_option maxRecDepth 100000 in
theorem sg_68 (t0 : Nat) (a1 : Int) (a2 : Int) (a3 : Int) (m : jx_M) (Q : Int → jx_M → Prop) (hv :
    jx_AW 68 2 [some (xA 1 t0), some (xI a1), some (xI a2), some (xI a3), some (xI 0)] [] m Q) :
    jx_Cl 68 [xA 1 t0, xI a1, xI a2, xI a3] m Q :=
  jx_segOk (x := 68) (cd := jx_c68) rfl (stops := [2]) 3 hv
set_option maxRecDepth 100000 in
theorem sg_69 (a1 : Int) (m : jx_M) (Q : Int → jx_M → Prop) (hv :
    ((0 < 1) ∧
  ((0 < 3) ∧
  jx_Cl 19 [xA 1 0, xI a1] m (fun z1 m1 =>
      ((z1 = 0 →
        Q (-1) m1) ∧
        (¬ (z1 = 0) →
        ((0 < 1) ∧
  ((0 < 1) ∧
  ((0 < 2) ∧
  jx_Cl 63 [xA 14 0, xA 1 0] m1 (fun _ m2 =>
          ((0 < 1) ∧
  ((0 < 2) ∧
  jx_Cl 70 [xA 14 0, xI a1] m2 (fun z3 m3 =>
            Q z3 m3))))))))))))) :
    jx_Cl 69 [xA 0 0, xI a1] m Q :=
  jx_segOk (x := 69) (cd := jx_c69) rfl (stops := []) 16 hv
set_option maxRecDepth 100000 in
theorem sg_70 (t0 : Nat) (a1 : Int) (m : jx_M) (Q : Int → jx_M → Prop) (hv :
    jx_AW 70 4 [some (xA 14 t0), some (xI a1), some (xI 0), some (xI 0)] [] m Q) :
    jx_Cl 70 [xA 14 t0, xI a1] m Q :=
  jx_segOk (x := 70) (cd := jx_c70) rfl (stops := [4]) 5 hv
set_option maxRecDepth 100000 in
theorem sg_71 (a1 : Int) (m : jx_M) (Q : Int → jx_M → Prop) (hv :
    jx_Cl 12 [xI a1, xI 0, xI 2] m (fun z1 m1 =>
      ((z1 = 0 →
        Q (-1) m1) ∧
        (¬ (z1 = 0) →
        ((0 < 1) ∧
  ((0 < 1) ∧
  ((0 < 2) ∧
  jx_Cl 63 [xA 14 0, xA 1 0] m1 (fun _ m2 =>
          ((a1 = 2 →
            ((0 < 1) ∧
  ((0 < 2) ∧
  Q (m2 14 0 3) m2))) ∧
            (¬ (a1 = 2) →
            ((a1 = 0 →
              ((0 < 1) ∧
  ((0 < 2) ∧
  jx_Cl 72 [xA 14 0] m2 (fun z3 m3 =>
                Q z3 m3)))) ∧
              (¬ (a1 = 0) →
              ((0 < 1) ∧
  ((0 < 2) ∧
  jx_Cl 73 [xA 14 0] m2 (fun z4 m4 =>
                Q z4 m4))))))))))))))) :
    jx_Cl 71 [xA 0 0, xI a1] m Q :=
  jx_segOk (x := 71) (cd := jx_c71) rfl (stops := []) 21 hv
set_option maxRecDepth 100000 in
theorem sg_72 (t0 : Nat) (m : jx_M) (Q : Int → jx_M → Prop) (hv :
    jx_AW 72 4 [some (xA 14 t0), some (xI 0), some (xI 0)] [] m Q) :
    jx_Cl 72 [xA 14 t0] m Q :=
  jx_segOk (x := 72) (cd := jx_c72) rfl (stops := [4]) 5 hv
set_option maxRecDepth 100000 in
theorem sg_73 (t0 : Nat) (m : jx_M) (Q : Int → jx_M → Prop) (hv :
    jx_AW 73 4 [some (xA 14 t0), some (xI 0), some (xI 0)] [] m Q) :
    jx_Cl 73 [xA 14 t0] m Q :=
  jx_segOk (x := 73) (cd := jx_c73) rfl (stops := [4]) 5 hv
set_option maxRecDepth 100000 in
theorem sg_74 (a1 : Int) (a2 : Int) (m : jx_M) (Q : Int → jx_M → Prop) (hv :
    ((0 < 1) ∧
  ((0 < 3) ∧
  jx_Cl 19 [xA 1 0, xI a1] m (fun z1 m1 =>
      ((z1 = 0 →
        Q (-1) m1) ∧
        (¬ (z1 = 0) →
        jx_Cl 12 [xI a2, xI 0, xI 2] m1 (fun z2 m2 =>
          ((z2 = 0 →
            Q (-1) m2) ∧
            (¬ (z2 = 0) →
            ((0 < 1) ∧
  ((0 < 1) ∧
  ((0 < 1) ∧
  jx_Cl 75 [xA 11 0, xA 1 0, xI a1, xI a2] m2 (fun z3 m3 =>
              Q z3 m3))))))))))))) :
    jx_Cl 74 [xA 0 0, xI a1, xI a2] m Q :=
  jx_segOk (x := 74) (cd := jx_c74) rfl (stops := []) 19 hv
set_option maxRecDepth 100000 in
theorem sg_75 (t1 : Nat) (a2 : Int) (a3 : Int) (m : jx_M) (Q : Int → jx_M → Prop) (hv :
    ((0 < 1) ∧
  ((2 < 3) ∧
  jx_Cl 76 [xA 1 2, xA 1 t1] m (fun _ m1 =>
      ((0 < 1) ∧
  ((2 < 3) ∧
  ((0 ≤ a2 ∧ a2 < 6) ∧
  ((2 < 3) ∧
  jx_AW 75 18 [some (xA 11 0), some (xA 1 t1), some (xI a2), some (xI a3), some (xA 6 (6 * 2 + a2.toNat)), some (xI 0), some (xI 0), some (xI (-1)), some (xI 0), none, none] [] m1 Q)))))))) :
    jx_Cl 75 [xA 11 0, xA 1 t1, xI a2, xI a3] m Q :=
  jx_segOk (x := 75) (cd := jx_c75) rfl (stops := [18, 26]) 19 hv
set_option maxRecDepth 100000 in
theorem sg_76 (t0 : Nat) (t1 : Nat) (m : jx_M) (Q : Int → jx_M → Prop) (hv :
    ((t1 < 3) ∧
  ((t0 < 3) ∧
  (((1 = 1 ∧ 1 = 1) ∧ (0 ≤ (0 : Int) ∧ 0 ≤ (0 : Int) ∧ 0 ≤ (25 : Int)) ∧ (0 : Int) + 25 ≤ 25 ∧ (0 : Int) + 25 ≤ 25) ∧
  ((t1 < 3) ∧
  ((t0 < 3) ∧
  ((t1 < 3) ∧
  ((t0 < 3) ∧
  jx_AW 76 14 [some (xA 1 t0), some (xA 1 t1), some (xI 0), none] [] (jx_up (jx_cpy m 2 t1 ((0 : Int).toNat) 2 t0 ((0 : Int).toNat) ((25 : Int).toNat)) 1 t0 4 ((jx_cpy m 2 t1 ((0 : Int).toNat) 2 t0 ((0 : Int).toNat) ((25 : Int).toNat)) 1 t1 4)) Q)))))))) :
    jx_Cl 76 [xA 1 t0, xA 1 t1] m Q :=
  jx_segOk (x := 76) (cd := jx_c76) rfl (stops := [14, 35, 65]) 15 hv
set_option maxRecDepth 100000 in
theorem sg_77 (t0 : Nat) (t1 : Nat) (m : jx_M) (Q : Int → jx_M → Prop) (hv :
    ((t1 < 18) ∧
  ((t1 < 18) ∧
  ((t0 < 18) ∧
  jx_Cl 38 [xA 6 t0, xA 7 t1, xI (m 6 t1 2)] m (fun _ m1 =>
      ((t1 < 18) ∧
  ((t1 < 18) ∧
  ((t0 < 18) ∧
  jx_Cl 40 [xA 6 t0, xA 8 t1, xI (m1 6 t1 3)] m1 (fun _ m2 =>
        ((t1 < 18) ∧
  ((t0 < 18) ∧
  ((t1 < 18) ∧
  ((t0 < 18) ∧
  ((t1 < 18) ∧
  ((t0 < 18) ∧
  ((t1 < 18) ∧
  ((t0 < 18) ∧
  Q 0 (jx_up (jx_up (jx_up (jx_up m2 6 t0 4 (m2 6 t1 4)) 6 t0 5 ((jx_up m2 6 t0 4 (m2 6 t1 4)) 6 t1 5)) 6 t0 6 ((jx_up (jx_up m2 6 t0 4 (m2 6 t1 4)) 6 t0 5 ((jx_up m2 6 t0 4 (m2 6 t1 4)) 6 t1 5)) 6 t1 6)) 6 t0 7 ((jx_up (jx_up (jx_up m2 6 t0 4 (m2 6 t1 4)) 6 t0 5 ((jx_up m2 6 t0 4 (m2 6 t1 4)) 6 t1 5)) 6 t0 6 ((jx_up (jx_up m2 6 t0 4 (m2 6 t1 4)) 6 t0 5 ((jx_up m2 6 t0 4 (m2 6 t1 4)) 6 t1 5)) 6 t1 6)) 6 t1 7))))))))))))))))))) :
    jx_Cl 77 [xA 6 t0, xA 6 t1] m Q :=
  jx_segOk (x := 77) (cd := jx_c77) rfl (stops := []) 30 hv
set_option maxRecDepth 100000 in
theorem sg_78 (t0 : Nat) (a1 : Int) (a2 : Int) (a3 : Int) (m : jx_M) (Q : Int → jx_M → Prop) (hv :
    ((t0 < 36) ∧
  ((t0 < 36) ∧
  ((t0 < 36) ∧
  ((a3 = 0 ∨ a3 = 1) ∧
  Q 0 (jx_up (jx_up (jx_up m 10 t0 0 a1) 10 t0 1 a2) 10 t0 2 a3)))))) :
    jx_Cl 78 [xA 10 t0, xI a1, xI a2, xI a3] m Q :=
  jx_segOk (x := 78) (cd := jx_c78) rfl (stops := []) 11 hv
set_option maxRecDepth 100000 in
theorem sg_79 (t0 : Nat) (m : jx_M) (Q : Int → jx_M → Prop) (hv :
    ((t0 < 18) ∧
  ((jx_in ((m 6 t0 2) - 1)) ∧
  jx_AW 79 7 [some (xA 6 t0), some (xI 0), some (xI ((m 6 t0 2) - 1)), none] [] m Q))) :
    jx_Cl 79 [xA 6 t0] m Q :=
  jx_segOk (x := 79) (cd := jx_c79) rfl (stops := [7]) 8 hv
set_option maxRecDepth 100000 in
theorem sg_80 (a1 : Int) (a2 : Int) (a3 : Int) (m : jx_M) (Q : Int → jx_M → Prop) (hv :
    ((0 < 1) ∧
  ((0 < 3) ∧
  jx_Cl 19 [xA 1 0, xI a1] m (fun z1 m1 =>
      ((z1 = 0 →
        Q (-1) m1) ∧
        (¬ (z1 = 0) →
        ((0 < 1) ∧
  ((0 < 3) ∧
  jx_Cl 19 [xA 1 0, xI a2] m1 (fun z2 m2 =>
          ((z2 = 0 →
            Q (-1) m2) ∧
            (¬ (z2 = 0) →
            ((a1 = a2 →
              Q (-1) m2) ∧
              (¬ (a1 = a2) →
              jx_Cl 12 [xI a3, xI 0, xI 2] m2 (fun z3 m3 =>
                ((z3 = 0 →
                  Q (-1) m3) ∧
                  (¬ (z3 = 0) →
                  ((0 < 1) ∧
  ((0 < 1) ∧
  ((0 < 1) ∧
  jx_Cl 81 [xA 11 0, xA 1 0, xI a1, xI a2] m3 (fun _ m4 =>
                    ((0 < 1) ∧
  ((0 < 1) ∧
  jx_Cl 82 [xA 11 0, xI a3] m4 (fun z5 m5 =>
                      Q z5 m5))))))))))))))))))))))) :
    jx_Cl 80 [xA 0 0, xI a1, xI a2, xI a3] m Q :=
  jx_segOk (x := 80) (cd := jx_c80) rfl (stops := []) 31 hv
set_option maxRecDepth 100000 in
theorem sg_81 (t1 : Nat) (a2 : Int) (a3 : Int) (m : jx_M) (Q : Int → jx_M → Prop) (hv :
    ((0 < 1) ∧
  ((2 < 3) ∧
  jx_Cl 76 [xA 1 2, xA 1 t1] m (fun _ m1 =>
      jx_AW 81 6 [some (xA 11 0), some (xA 1 t1), some (xI a2), some (xI a3), some (xI 0)] [] m1 Q)))) :
    jx_Cl 81 [xA 11 0, xA 1 t1, xI a2, xI a3] m Q :=
  jx_segOk (x := 81) (cd := jx_c81) rfl (stops := [6]) 7 hv
set_option maxRecDepth 100000 in
theorem sg_82 (a1 : Int) (m : jx_M) (Q : Int → jx_M → Prop) (hv :
    jx_AW 82 6 [some (xA 11 0), some (xI a1), some (xI 0), some (xI (-4)), some (xI 0)] [] m Q) :
    jx_Cl 82 [xA 11 0, xI a1] m Q :=
  jx_segOk (x := 82) (cd := jx_c82) rfl (stops := [6]) 7 hv
set_option maxRecDepth 100000 in
theorem sg_83 (a1 : Int) (m : jx_M) (Q : Int → jx_M → Prop) (hv :
    ((0 ≤ a1 ∧ 0 < (6 : Int)) ∧
  ((0 ≤ a1 ∧ 0 < (6 : Int)) ∧
  jx_AW 83 10 [some (xA 11 0), some (xI a1), some (xI (a1 / 6)), some (xI (a1 % 6)), some (xI 0)] [] m Q))) :
    jx_Cl 83 [xA 11 0, xI a1] m Q :=
  jx_segOk (x := 83) (cd := jx_c83) rfl (stops := [10]) 11 hv
set_option maxRecDepth 100000 in
theorem sg_84 (a1 : Int) (a2 : Int) (a3 : Int) (a4 : Int) (m : jx_M) (Q : Int → jx_M → Prop) (hv :
    jx_Cl 12 [xI a1, xI 1, xI 3] m (fun z1 m1 =>
      ((z1 = 0 →
        Q (-1) m1) ∧
        (¬ (z1 = 0) →
        jx_Cl 15 [xI a2] m1 (fun z2 m2 =>
          ((z2 = 0 →
            Q (-1) m2) ∧
            (¬ (z2 = 0) →
            jx_Cl 12 [xI a3, xI 0, xI 12] m2 (fun z3 m3 =>
              ((z3 = 0 →
                Q (-1) m3) ∧
                (¬ (z3 = 0) →
                ((jx_in (a1 - 1)) ∧
  jx_Cl 12 [xI a4, xI (-1), xI (a1 - 1)] m3 (fun z4 m4 =>
                  ((z4 = 0 →
                    Q (-1) m4) ∧
                    (¬ (z4 = 0) →
                    jx_Cl 85 [xI a1] m4 (fun z5 m5 =>
                      jx_AW 84 31 [some (xA 0 0), some (xI a1), some (xI a2), some (xI a3), some (xI a4), some (xI z5), some (xI (-1)), some (xI 0), some (xI 0), none] [] m5 Q))))))))))))))) :
    jx_Cl 84 [xA 0 0, xI a1, xI a2, xI a3, xI a4] m Q :=
  jx_segOk (x := 84) (cd := jx_c84) rfl (stops := [31]) 30 hv
set_option maxRecDepth 100000 in
theorem sg_85 (a1 : Int) (m : jx_M) (Q : Int → jx_M → Prop) (hv :
    jx_AW 85 4 [some (xI a1), some (xI 1), some (xI 0)] [] m Q) :
    jx_Cl 85 [xI a1] m Q :=
  jx_segOk (x := 85) (cd := jx_c85) rfl (stops := [4]) 5 hv
set_option maxRecDepth 100000 in
theorem sg_86 (a1 : Int) (a2 : Int) (m : jx_M) (Q : Int → jx_M → Prop) (hv :
    ((jx_in (a2 - 1)) ∧
  jx_AW 86 6 [some (xA 0 0), some (xI a1), some (xI a2), some (xI a1), some (xI (a2 - 1))] [] m Q)) :
    jx_Cl 86 [xA 0 0, xI a1, xI a2] m Q :=
  jx_segOk (x := 86) (cd := jx_c86) rfl (stops := [6]) 7 hv
set_option maxRecDepth 100000 in
theorem sg_89 (a1 : Int) (m : jx_M) (Q : Int → jx_M → Prop) (hv :
    jx_Cl 11 [xI a1] m (fun z1 m1 =>
      ((z1 = 0 →
        Q (-1) m1) ∧
        (¬ (z1 = 0) →
        ((0 < 1) ∧
  ((0 < 3) ∧
  jx_Cl 90 [xA 1 0, xI a1] m1 (fun z2 m2 =>
          Q z2 m2))))))) :
    jx_Cl 89 [xA 0 0, xI a1] m Q :=
  jx_segOk (x := 89) (cd := jx_c89) rfl (stops := []) 10 hv
set_option maxRecDepth 100000 in
theorem sg_90 (t0 : Nat) (a1 : Int) (m : jx_M) (Q : Int → jx_M → Prop) (hv :
    jx_AW 90 4 [some (xA 1 t0), some (xI a1), some (xI 0), some (xI 0)] [] m Q) :
    jx_Cl 90 [xA 1 t0, xI a1] m Q :=
  jx_segOk (x := 90) (cd := jx_c90) rfl (stops := [4]) 5 hv
set_option maxRecDepth 100000 in
theorem sg_91 (t0 : Nat) (a1 : Int) (a2 : Int) (m : jx_M) (Q : Int → jx_M → Prop) (hv :
    jx_AW 91 4 [some (xA 1 t0), some (xI a1), some (xI a2), some (xI 0), some (xI 0)] [] m Q) :
    jx_Cl 91 [xA 1 t0, xI a1, xI a2] m Q :=
  jx_segOk (x := 91) (cd := jx_c91) rfl (stops := [4]) 5 hv
set_option maxRecDepth 100000 in
theorem sg_92 (a1 : Int) (a2 : Int) (m : jx_M) (Q : Int → jx_M → Prop) (hv :
    jx_Cl 11 [xI a1] m (fun z1 m1 =>
      ((z1 = 0 →
        Q (-1) m1) ∧
        (¬ (z1 = 0) →
        jx_Cl 12 [xI a2, xI 0, xI 999] m1 (fun z2 m2 =>
          ((z2 = 0 →
            Q (-1) m2) ∧
            (¬ (z2 = 0) →
            ((0 < 1) ∧
  ((0 < 1) ∧
  ((0 < 1) ∧
  jx_Cl 93 [xA 11 0, xA 1 0, xI a1, xI a2] m2 (fun z3 m3 =>
              Q z3 m3))))))))))) :
    jx_Cl 92 [xA 0 0, xI a1, xI a2] m Q :=
  jx_segOk (x := 92) (cd := jx_c92) rfl (stops := []) 17 hv
set_option maxRecDepth 100000 in
theorem sg_93 (t1 : Nat) (a2 : Int) (a3 : Int) (m : jx_M) (Q : Int → jx_M → Prop) (hv :
    ((0 < 1) ∧
  ((2 < 3) ∧
  jx_Cl 76 [xA 1 2, xA 1 t1] m (fun _ m1 =>
      jx_AW 93 6 [some (xA 11 0), some (xA 1 t1), some (xI a2), some (xI a3), some (xI 0), none] [] m1 Q)))) :
    jx_Cl 93 [xA 11 0, xA 1 t1, xI a2, xI a3] m Q :=
  jx_segOk (x := 93) (cd := jx_c93) rfl (stops := [6, 11]) 7 hv
set_option maxRecDepth 100000 in
theorem sg_94 (a1 : Int) (a2 : Int) (m : jx_M) (Q : Int → jx_M → Prop) (hv :
    jx_Cl 57 [xI a1] m (fun z1 m1 =>
      ((z1 = 0 →
        Q (-100001) m1) ∧
        (¬ (z1 = 0) →
        ((0 < 1) ∧
  ((0 < 3) ∧
  jx_Cl 19 [xA 1 0, xI a2] m1 (fun z2 m2 =>
          ((z2 = 0 →
            Q (-100001) m2) ∧
            (¬ (z2 = 0) →
            ((0 < 1) ∧
  ((0 < 1) ∧
  ((0 < 1) ∧
  jx_Cl 95 [xA 11 0, xA 1 0, xI a1, xI a2] m2 (fun z3 m3 =>
              Q z3 m3))))))))))))) :
    jx_Cl 94 [xA 0 0, xI a1, xI a2] m Q :=
  jx_segOk (x := 94) (cd := jx_c94) rfl (stops := []) 17 hv
set_option maxRecDepth 100000 in
theorem sg_95 (t1 : Nat) (a2 : Int) (a3 : Int) (m : jx_M) (Q : Int → jx_M → Prop) (hv :
    ((0 < 1) ∧
  ((2 < 3) ∧
  jx_Cl 76 [xA 1 2, xA 1 t1] m (fun _ m1 =>
      ((0 < 1) ∧
  ((0 < 1) ∧
  ((1 < 2) ∧
  jx_Cl 63 [xA 14 1, xA 1 2] m1 (fun _ m2 =>
        ((0 < 1) ∧
  ((1 < 2) ∧
  jx_Cl 70 [xA 14 1, xI a3] m2 (fun z3 m3 =>
          ((0 < 1) ∧
  ((2 < 3) ∧
  ((2 < 3) ∧
  ((0 < 1) ∧
  ((0 < 1) ∧
  ((1 < 2) ∧
  jx_Cl 63 [xA 14 1, xA 1 2] (jx_up m3 1 2 8 (jx_ior (m3 1 2 8) (jx_ishl 1 a2))) (fun _ m4 =>
            ((0 < 1) ∧
  ((1 < 2) ∧
  jx_Cl 70 [xA 14 1, xI a3] m4 (fun z5 m5 =>
              ((jx_in (z3 - z5)) ∧
  Q (z3 - z5) m5)))))))))))))))))))))) :
    jx_Cl 95 [xA 11 0, xA 1 t1, xI a2, xI a3] m Q :=
  jx_segOk (x := 95) (cd := jx_c95) rfl (stops := []) 36 hv
set_option maxRecDepth 100000 in
theorem sg_96 (a1 : Int) (a2 : Int) (a3 : Int) (m : jx_M) (Q : Int → jx_M → Prop) (hv :
    jx_Cl 11 [xI a1] m (fun z1 m1 =>
      ((z1 = 0 →
        Q (-1) m1) ∧
        (¬ (z1 = 0) →
        jx_Cl 21 [xI a2] m1 (fun z2 m2 =>
          ((z2 = 0 →
            Q (-1) m2) ∧
            (¬ (z2 = 0) →
            ((0 < 1) ∧
  ((0 < 3) ∧
  (((m2 1 0 6) < 12 →
              ((0 < 1) ∧
  ((0 < 3) ∧
  ((0 < 1) ∧
  ((0 < 3) ∧
  ((0 ≤ (m2 1 0 6) ∧ (m2 1 0 6) < 12) ∧
  ((0 < 3) ∧
  (((12 * 0 + (m2 1 0 6).toNat) < 36) ∧
  jx_Cl 78 [xA 10 (12 * 0 + (m2 1 0 6).toNat), xI a1, xI a2, xI a3] m2 (fun _ m3 =>
                ((0 < 1) ∧
  ((0 < 3) ∧
  ((jx_in ((m3 1 0 6) + 1)) ∧
  ((0 < 3) ∧
  ((0 < 1) ∧
  ((0 < 3) ∧
  Q ((jx_up m3 1 0 6 ((m3 1 0 6) + 1)) 1 0 6) (jx_up m3 1 0 6 ((m3 1 0 6) + 1))))))))))))))))) ∧
              (¬ ((m2 1 0 6) < 12) →
              Q (-3) m2))))))))))) :
    jx_Cl 96 [xA 0 0, xI a1, xI a2, xI a3] m Q :=
  jx_segOk (x := 96) (cd := jx_c96) rfl (stops := []) 34 hv
set_option maxRecDepth 100000 in
theorem sg_97 (a1 : Int) (a2 : Int) (m : jx_M) (Q : Int → jx_M → Prop) (hv :
    ((0 < 1) ∧
  ((0 < 3) ∧
  jx_Cl 19 [xA 1 0, xI a1] m (fun z1 m1 =>
      ((z1 = 0 →
        Q (-1) m1) ∧
        (¬ (z1 = 0) →
        jx_Cl 12 [xI a2, xI 0, xI 2] m1 (fun z2 m2 =>
          ((z2 = 0 →
            Q (-1) m2) ∧
            (¬ (z2 = 0) →
            ((0 < 1) ∧
  ((0 < 1) ∧
  ((0 < 1) ∧
  jx_Cl 98 [xA 11 0, xA 1 0, xI a1, xI a2] m2 (fun z3 m3 =>
              Q z3 m3))))))))))))) :
    jx_Cl 97 [xA 0 0, xI a1, xI a2] m Q :=
  jx_segOk (x := 97) (cd := jx_c97) rfl (stops := []) 19 hv
set_option maxRecDepth 100000 in
theorem sg_98 (t1 : Nat) (a2 : Int) (a3 : Int) (m : jx_M) (Q : Int → jx_M → Prop) (hv :
    ((0 < 1) ∧
  ((2 < 3) ∧
  jx_Cl 76 [xA 1 2, xA 1 t1] m (fun _ m1 =>
      ((0 < 1) ∧
  ((2 < 3) ∧
  ((0 ≤ (0 : Int) ∧ (0 : Int) < 6) ∧
  ((2 < 3) ∧
  ((t1 < 3) ∧
  ((0 ≤ a2 ∧ a2 < 6) ∧
  ((t1 < 3) ∧
  (((6 * 2 + (0 : Int).toNat) < 18) ∧
  jx_Cl 77 [xA 6 (6 * 2 + (0 : Int).toNat), xA 6 (6 * t1 + a2.toNat)] m1 (fun _ m2 =>
        ((0 < 1) ∧
  ((2 < 3) ∧
  jx_AW 98 26 [some (xA 11 0), some (xA 1 t1), some (xI a2), some (xI a3), some (xI 0), some (xI (-4)), some (xI (-4)), some (xI 0)] [] (jx_up m2 1 2 4 1) Q))))))))))))))) :
    jx_Cl 98 [xA 11 0, xA 1 t1, xI a2, xI a3] m Q :=
  jx_segOk (x := 98) (cd := jx_c98) rfl (stops := [26]) 27 hv
set_option maxRecDepth 100000 in
theorem sg_99 (t0 : Nat) (a1 : Int) (m : jx_M) (Q : Int → jx_M → Prop) (hv :
    jx_AW 99 2 [some (xA 1 t0), some (xI a1), some (xI 0), none] [] m Q) :
    jx_Cl 99 [xA 1 t0, xI a1] m Q :=
  jx_segOk (x := 99) (cd := jx_c99) rfl (stops := [2]) 3 hv
set_option maxRecDepth 100000 in
theorem sg_100  (m : jx_M) (Q : Int → jx_M → Prop) (hv :
    ((0 < 1) ∧
  ((0 < 3) ∧
  ((0 < 1) ∧
  ((0 < 3) ∧
  Q (m 1 0 6) (jx_up m 1 0 6 0)))))) :
    jx_Cl 100 [xA 0 0] m Q :=
  jx_segOk (x := 100) (cd := jx_c100) rfl (stops := []) 11 hv
set_option maxRecDepth 100000 in
theorem sg_101 (a1 : Int) (a2 : Int) (m : jx_M) (Q : Int → jx_M → Prop) (hv :
    ((0 < 1) ∧
  ((0 < 3) ∧
  jx_Cl 19 [xA 1 0, xI a1] m (fun z1 m1 =>
      ((z1 = 0 →
        Q (-1) m1) ∧
        (¬ (z1 = 0) →
        jx_Cl 11 [xI a2] m1 (fun z2 m2 =>
          ((z2 = 0 →
            Q (-1) m2) ∧
            (¬ (z2 = 0) →
            ((0 < 1) ∧
  ((0 < 1) ∧
  ((0 < 1) ∧
  jx_Cl 102 [xA 11 0, xA 1 0, xI a1, xI a2] m2 (fun z3 m3 =>
              Q z3 m3))))))))))))) :
    jx_Cl 101 [xA 0 0, xI a1, xI a2] m Q :=
  jx_segOk (x := 101) (cd := jx_c101) rfl (stops := []) 17 hv
set_option maxRecDepth 100000 in
theorem sg_102 (t1 : Nat) (a2 : Int) (a3 : Int) (m : jx_M) (Q : Int → jx_M → Prop) (hv :
    ((0 < 1) ∧
  ((2 < 3) ∧
  jx_Cl 76 [xA 1 2, xA 1 t1] m (fun _ m1 =>
      jx_AW 102 6 [some (xA 11 0), some (xA 1 t1), some (xI a2), some (xI a3), some (xI 0)] [] m1 Q)))) :
    jx_Cl 102 [xA 11 0, xA 1 t1, xI a2, xI a3] m Q :=
  jx_segOk (x := 102) (cd := jx_c102) rfl (stops := [6]) 7 hv
set_option maxRecDepth 100000 in
theorem sg_103 (a1 : Int) (a2 : Int) (m : jx_M) (Q : Int → jx_M → Prop) (hv :
    ((0 < 1) ∧
  ((0 < 3) ∧
  jx_Cl 19 [xA 1 0, xI a1] m (fun z1 m1 =>
      ((z1 = 0 →
        Q (-1) m1) ∧
        (¬ (z1 = 0) →
        jx_Cl 11 [xI a2] m1 (fun z2 m2 =>
          ((z2 = 0 →
            Q (-1) m2) ∧
            (¬ (z2 = 0) →
            ((0 < 1) ∧
  ((0 < 3) ∧
  jx_Cl 91 [xA 1 0, xI a1, xI a2] m2 (fun z3 m3 =>
              Q z3 m3)))))))))))) :
    jx_Cl 103 [xA 0 0, xI a1, xI a2] m Q :=
  jx_segOk (x := 103) (cd := jx_c103) rfl (stops := []) 15 hv
set_option maxRecDepth 100000 in
theorem sg_104  (m : jx_M) (Q : Int → jx_M → Prop) (hv :
    ((0 < 1) ∧
  ((0 < 1) ∧
  ((1 < 3) ∧
  jx_Cl 76 [xA 1 1, xA 1 0] m (fun _ m1 =>
      ((0 < 1) ∧
  (((1 : Int) = 0 ∨ (1 : Int) = 1) ∧
  Q 1 (jx_up m1 0 0 7 1)))))))) :
    jx_Cl 104 [xA 0 0] m Q :=
  jx_segOk (x := 104) (cd := jx_c104) rfl (stops := []) 11 hv
set_option maxRecDepth 100000 in
theorem sg_105  (m : jx_M) (Q : Int → jx_M → Prop) (hv :
    ((0 < 1) ∧
  (((m 0 0 7) = 0 →
      Q (-4) m) ∧
      (¬ ((m 0 0 7) = 0) →
      ((0 < 1) ∧
  ((0 < 1) ∧
  ((0 < 3) ∧
  jx_Cl 76 [xA 1 0, xA 1 1] m (fun _ m1 =>
        Q 1 m1)))))))) :
    jx_Cl 105 [xA 0 0] m Q :=
  jx_segOk (x := 105) (cd := jx_c105) rfl (stops := []) 11 hv
set_option maxRecDepth 100000 in
theorem sg_106 (a1 : Int) (a2 : Int) (a3 : Int) (a4 : Int) (a5 : Int) (a6 : Int) (m : jx_M) (Q : Int → jx_M → Prop) (hv :
    jx_Cl 107 [xI a1] m (fun z1 m1 =>
      ((z1 = 0 →
        Q (-1) m1) ∧
        (¬ (z1 = 0) →
        jx_Cl 108 [xI a2] m1 (fun z2 m2 =>
          ((z2 = 0 →
            Q (-1) m2) ∧
            (¬ (z2 = 0) →
            jx_Cl 12 [xI a4, xI 1, xI 6] m2 (fun z3 m3 =>
              ((z3 = 0 →
                Q (-1) m3) ∧
                (¬ (z3 = 0) →
                jx_Cl 12 [xI a5, xI 1, xI 6] m3 (fun z4 m4 =>
                  ((z4 = 0 →
                    Q (-1) m4) ∧
                    (¬ (z4 = 0) →
                    ((jx_in (a5 - 1)) ∧
  jx_Cl 12 [xI a6, xI (-1), xI (a5 - 1)] m4 (fun z5 m5 =>
                      ((z5 = 0 →
                        Q (-1) m5) ∧
                        (¬ (z5 = 0) →
                        ((0 < 1) ∧
  ((0 ≤ a1 ∧ a1 < 4) ∧
  ((0 < 1) ∧
  ((jx_in (a4 * a5)) ∧
  ((a1.toNat < 4) ∧
  jx_Cl 109 [xA 23 a1.toNat, xI a2, xI a3, xI (a4 * a5)] m5 (fun z6 m6 =>
                          ((z6 = 0 →
                            ((a1.toNat < 4) ∧
  jx_Cl 111 [xA 23 a1.toNat, xI a3, xI a4, xI a5, xI 0] m6 (fun z7 m7 =>
                              ((z7 = 0 →
                                Q (-2) m7) ∧
                                (¬ (z7 = 0) →
                                jx_AW 106 53 [some (xA 0 0), some (xI a1), some (xI a2), some (xI a3), some (xI a4), some (xI a5), some (xI a6), some (xA 23 a1.toNat), some (xI z6), some (xI 0)] [] m7 Q))))) ∧
                            (¬ (z6 = 0) →
                            Q z6 m6))))))))))))))))))))))))) :
    jx_Cl 106 [xA 0 0, xI a1, xI a2, xI a3, xI a4, xI a5, xI a6] m Q :=
  jx_segOk (x := 106) (cd := jx_c106) rfl (stops := [53]) 48 hv
set_option maxRecDepth 100000 in
theorem sg_107 (a1 : Int) (m : jx_M) (Q : Int → jx_M → Prop) (hv :
    ((a1 < 0 →
      (((0 : Int) = 0 ∨ (0 : Int) = 1) ∧
  Q 0 m)) ∧
      (¬ (a1 < 0) →
      ((a1 < 4 →
        (((1 : Int) = 0 ∨ (1 : Int) = 1) ∧
  Q 1 m)) ∧
        (¬ (a1 < 4) →
        (((0 : Int) = 0 ∨ (0 : Int) = 1) ∧
  Q 0 m)))))) :
    jx_Cl 107 [xI a1] m Q :=
  jx_segOk (x := 107) (cd := jx_c107) rfl (stops := []) 9 hv
set_option maxRecDepth 100000 in
theorem sg_108 (a1 : Int) (m : jx_M) (Q : Int → jx_M → Prop) (hv :
    ((a1 < 0 →
      (((0 : Int) = 0 ∨ (0 : Int) = 1) ∧
  Q 0 m)) ∧
      (¬ (a1 < 0) →
      ((a1 < 3 →
        (((1 : Int) = 0 ∨ (1 : Int) = 1) ∧
  Q 1 m)) ∧
        (¬ (a1 < 3) →
        (((0 : Int) = 0 ∨ (0 : Int) = 1) ∧
  Q 0 m)))))) :
    jx_Cl 108 [xI a1] m Q :=
  jx_segOk (x := 108) (cd := jx_c108) rfl (stops := []) 9 hv
set_option maxRecDepth 100000 in
theorem sg_109 (t0 : Nat) (a1 : Int) (a2 : Int) (a3 : Int) (m : jx_M) (Q : Int → jx_M → Prop) (hv :
    ((t0 < 4) ∧
  (((m 23 t0 1) = 0 →
      Q (-11) m) ∧
      (¬ ((m 23 t0 1) = 0) →
      ((t0 < 4) ∧
  (((m 23 t0 2) = a1 →
        ((t0 < 4) ∧
  jx_Cl 110 [xA 23 t0, xI a2, xI a3] m (fun z1 m1 =>
          ((z1 = 0 →
            Q (-13) m1) ∧
            (¬ (z1 = 0) →
            Q 0 m1))))) ∧
        (¬ ((m 23 t0 2) = a1) →
        Q (-12) m))))))) :
    jx_Cl 109 [xA 23 t0, xI a1, xI a2, xI a3] m Q :=
  jx_segOk (x := 109) (cd := jx_c109) rfl (stops := []) 16 hv
set_option maxRecDepth 100000 in
theorem sg_110 (t0 : Nat) (a1 : Int) (a2 : Int) (m : jx_M) (Q : Int → jx_M → Prop) (hv :
    ((a1 < 0 →
      (((0 : Int) = 0 ∨ (0 : Int) = 1) ∧
  Q 0 m)) ∧
      (¬ (a1 < 0) →
      ((a2 < 0 →
        (((0 : Int) = 0 ∨ (0 : Int) = 1) ∧
  Q 0 m)) ∧
        (¬ (a2 < 0) →
        ((t0 < 4) ∧
  (((m 23 t0 3) < a1 →
          (((0 : Int) = 0 ∨ (0 : Int) = 1) ∧
  Q 0 m)) ∧
          (¬ ((m 23 t0 3) < a1) →
          ((t0 < 4) ∧
  ((jx_in ((m 23 t0 3) - a1)) ∧
  ((((m 23 t0 3) - a1) < a2 →
            (((0 : Int) = 0 ∨ (0 : Int) = 1) ∧
  Q 0 m)) ∧
            (¬ (((m 23 t0 3) - a1) < a2) →
            (((1 : Int) = 0 ∨ (1 : Int) = 1) ∧
  Q 1 m))))))))))))) :
    jx_Cl 110 [xA 23 t0, xI a1, xI a2] m Q :=
  jx_segOk (x := 110) (cd := jx_c110) rfl (stops := []) 18 hv
set_option maxRecDepth 100000 in
theorem sg_111 (t0 : Nat) (a1 : Int) (a2 : Int) (a3 : Int) (a4 : Int) (m : jx_M) (Q : Int → jx_M → Prop) (hv :
    jx_AW 111 2 [some (xA 23 t0), some (xI a1), some (xI a2), some (xI a3), some (xI a4), some (xI 0), none, none] [] m Q) :
    jx_Cl 111 [xA 23 t0, xI a1, xI a2, xI a3, xI a4] m Q :=
  jx_segOk (x := 111) (cd := jx_c111) rfl (stops := [2, 17]) 3 hv
set_option maxRecDepth 100000 in
theorem sg_112 (t0 : Nat) (a1 : Int) (a2 : Int) (a3 : Int) (m : jx_M) (Q : Int → jx_M → Prop) (hv :
    jx_AW 112 6 [some (xA 23 t0), some (xI a1), some (xI a2), some (xI a3), some (xI 0), some (xI 0), some (xI 0), none, none] [] m Q) :
    jx_Cl 112 [xA 23 t0, xI a1, xI a2, xI a3] m Q :=
  jx_segOk (x := 112) (cd := jx_c112) rfl (stops := [6, 13]) 7 hv
set_option maxRecDepth 100000 in
theorem sg_113 (a1 : Int) (a2 : Int) (a3 : Int) (a4 : Int) (a5 : Int) (a6 : Int) (m : jx_M) (Q : Int → jx_M → Prop) (hv :
    jx_Cl 107 [xI a1] m (fun z1 m1 =>
      ((z1 = 0 →
        Q (-1) m1) ∧
        (¬ (z1 = 0) →
        jx_Cl 108 [xI a2] m1 (fun z2 m2 =>
          ((z2 = 0 →
            Q (-1) m2) ∧
            (¬ (z2 = 0) →
            jx_Cl 12 [xI a4, xI 1, xI 5] m2 (fun z3 m3 =>
              ((z3 = 0 →
                Q (-1) m3) ∧
                (¬ (z3 = 0) →
                jx_Cl 12 [xI a5, xI 1, xI 6] m3 (fun z4 m4 =>
                  ((z4 = 0 →
                    Q (-1) m4) ∧
                    (¬ (z4 = 0) →
                    ((jx_in (a4 - 1)) ∧
  jx_Cl 12 [xI a6, xI 0, xI (a4 - 1)] m4 (fun z5 m5 =>
                      ((z5 = 0 →
                        Q (-1) m5) ∧
                        (¬ (z5 = 0) →
                        ((0 < 1) ∧
  ((0 ≤ a1 ∧ a1 < 4) ∧
  ((0 < 1) ∧
  ((jx_in (a5 + 1)) ∧
  ((jx_in (a4 * (a5 + 1))) ∧
  ((a1.toNat < 4) ∧
  jx_Cl 109 [xA 23 a1.toNat, xI a2, xI a3, xI (a4 * (a5 + 1))] m5 (fun z6 m6 =>
                          ((z6 = 0 →
                            ((a1.toNat < 4) ∧
  jx_Cl 111 [xA 23 a1.toNat, xI a3, xI a4, xI a5, xI 1] m6 (fun z7 m7 =>
                              ((z7 = 0 →
                                Q (-2) m7) ∧
                                (¬ (z7 = 0) →
                                ((a1.toNat < 4) ∧
  jx_Cl 114 [xA 23 a1.toNat, xI a3, xI a4, xI a5, xI a6] m7 (fun z8 m8 =>
                                  Q z8 m8))))))) ∧
                            (¬ (z6 = 0) →
                            Q z6 m6)))))))))))))))))))))))))) :
    jx_Cl 113 [xA 0 0, xI a1, xI a2, xI a3, xI a4, xI a5, xI a6] m Q :=
  jx_segOk (x := 113) (cd := jx_c113) rfl (stops := []) 55 hv
set_option maxRecDepth 100000 in
theorem sg_114 (t0 : Nat) (a1 : Int) (a2 : Int) (a3 : Int) (a4 : Int) (m : jx_M) (Q : Int → jx_M → Prop) (hv :
    ((jx_in (a3 + 1)) ∧
  ((jx_in (a4 * (a3 + 1))) ∧
  ((jx_in (a1 + (a4 * (a3 + 1)))) ∧
  jx_AW 114 14 [some (xA 23 t0), some (xI a1), some (xI a2), some (xI a3), some (xI a4), some (xI (a1 + (a4 * (a3 + 1)))), some (xI (-4)), some (xI 0), some (xI 0), none, none] [] m Q)))) :
    jx_Cl 114 [xA 23 t0, xI a1, xI a2, xI a3, xI a4] m Q :=
  jx_segOk (x := 114) (cd := jx_c114) rfl (stops := [14]) 15 hv
set_option maxRecDepth 100000 in
theorem sg_115 (t0 : Nat) (a1 : Int) (a2 : Int) (a3 : Int) (m : jx_M) (Q : Int → jx_M → Prop) (hv :
    jx_AW 115 4 [some (xA 23 t0), some (xI a1), some (xI a2), some (xI a3), some (xI 0), some (xI 0)] [] m Q) :
    jx_Cl 115 [xA 23 t0, xI a1, xI a2, xI a3] m Q :=
  jx_segOk (x := 115) (cd := jx_c115) rfl (stops := [4]) 5 hv
set_option maxRecDepth 100000 in
theorem sg_116 (a1 : Int) (a2 : Int) (a3 : Int) (m : jx_M) (Q : Int → jx_M → Prop) (hv :
    jx_Cl 107 [xI a1] m (fun z1 m1 =>
      ((z1 = 0 →
        Q (-1) m1) ∧
        (¬ (z1 = 0) →
        jx_Cl 108 [xI a2] m1 (fun z2 m2 =>
          ((z2 = 0 →
            Q (-1) m2) ∧
            (¬ (z2 = 0) →
            (((24 : Int) < a3 →
              Q (-1) m2) ∧
              (¬ ((24 : Int) < a3) →
              ((a3 < 0 →
                Q (-14) m2) ∧
                (¬ (a3 < 0) →
                ((0 < 1) ∧
  ((0 ≤ a1 ∧ a1 < 4) ∧
  ((0 < 1) ∧
  ((a1.toNat < 4) ∧
  jx_Cl 117 [xA 23 a1.toNat, xI a2, xI a3] m2 (fun _ m3 =>
                  Q a3 m3)))))))))))))))) :
    jx_Cl 116 [xA 0 0, xI a1, xI a2, xI a3] m Q :=
  jx_segOk (x := 116) (cd := jx_c116) rfl (stops := []) 21 hv
set_option maxRecDepth 100000 in
theorem sg_117 (t0 : Nat) (a1 : Int) (a2 : Int) (m : jx_M) (Q : Int → jx_M → Prop) (hv :
    ((t0 < 4) ∧
  jx_Cl 2 [xA 24 t0, xI 0] m (fun _ m1 =>
      ((t0 < 4) ∧
  (((1 : Int) = 0 ∨ (1 : Int) = 1) ∧
  ((t0 < 4) ∧
  ((t0 < 4) ∧
  Q 0 (jx_up (jx_up (jx_up m1 23 t0 1 1) 23 t0 2 a1) 23 t0 3 a2)))))))) :
    jx_Cl 117 [xA 23 t0, xI a1, xI a2] m Q :=
  jx_segOk (x := 117) (cd := jx_c117) rfl (stops := []) 15 hv
set_option maxRecDepth 100000 in
theorem sg_118 (a1 : Int) (m : jx_M) (Q : Int → jx_M → Prop) (hv :
    jx_Cl 107 [xI a1] m (fun z1 m1 =>
      ((z1 = 0 →
        Q (-1) m1) ∧
        (¬ (z1 = 0) →
        ((0 < 1) ∧
  ((0 ≤ a1 ∧ a1 < 4) ∧
  ((0 < 1) ∧
  ((a1.toNat < 4) ∧
  (((m1 23 a1.toNat 1) = 0 →
          Q (-11) m1) ∧
          (¬ ((m1 23 a1.toNat 1) = 0) →
          ((a1.toNat < 4) ∧
  (((0 : Int) = 0 ∨ (0 : Int) = 1) ∧
  ((a1.toNat < 4) ∧
  Q ((jx_up m1 23 a1.toNat 1 0) 23 a1.toNat 3) (jx_up m1 23 a1.toNat 1 0)))))))))))))) :
    jx_Cl 118 [xA 0 0, xI a1] m Q :=
  jx_segOk (x := 118) (cd := jx_c118) rfl (stops := []) 18 hv
set_option maxRecDepth 100000 in
theorem sg_119 (a1 : Int) (a2 : Int) (a3 : Int) (a4 : Int) (m : jx_M) (Q : Int → jx_M → Prop) (hv :
    jx_Cl 107 [xI a1] m (fun z1 m1 =>
      ((z1 = 0 →
        Q (-1) m1) ∧
        (¬ (z1 = 0) →
        jx_Cl 108 [xI a2] m1 (fun z2 m2 =>
          ((z2 = 0 →
            Q (-1) m2) ∧
            (¬ (z2 = 0) →
            ((0 < 1) ∧
  ((0 ≤ a1 ∧ a1 < 4) ∧
  ((0 < 1) ∧
  ((a1.toNat < 4) ∧
  jx_Cl 109 [xA 23 a1.toNat, xI a2, xI a3, xI 1] m2 (fun z3 m3 =>
              ((z3 = 0 →
                ((a1.toNat < 4) ∧
  jx_Cl 120 [xA 23 a1.toNat, xI a3, xI a4] m3 (fun _ m4 =>
                  Q 1 m4))) ∧
                (¬ (z3 = 0) →
                Q z3 m3)))))))))))))) :
    jx_Cl 119 [xA 0 0, xI a1, xI a2, xI a3, xI a4] m Q :=
  jx_segOk (x := 119) (cd := jx_c119) rfl (stops := []) 26 hv
set_option maxRecDepth 100000 in
theorem sg_120 (t0 : Nat) (a1 : Int) (a2 : Int) (m : jx_M) (Q : Int → jx_M → Prop) (hv :
    ((t0 < 4) ∧
  (((m 23 t0 2) = 0 →
      ((t0 < 4) ∧
  ((1 = 1 ∧ 0 ≤ a1 ∧ a1 < 24) ∧
  ((t0 < 4) ∧
  Q 0 (jx_up m 24 t0 (a1.toNat) (jx_i2b a2)))))) ∧
      (¬ ((m 23 t0 2) = 0) →
      ((t0 < 4) ∧
  (((m 23 t0 2) = 1 →
        ((t0 < 4) ∧
  ((1 = 1 ∧ 0 ≤ a1 ∧ a1 < 24) ∧
  ((t0 < 4) ∧
  Q 0 (jx_up m 24 t0 (a1.toNat) (jx_i2s a2)))))) ∧
        (¬ ((m 23 t0 2) = 1) →
        ((t0 < 4) ∧
  ((1 = 1 ∧ 0 ≤ a1 ∧ a1 < 24) ∧
  ((t0 < 4) ∧
  Q 0 (jx_up m 24 t0 (a1.toNat) a2))))))))))) :
    jx_Cl 120 [xA 23 t0, xI a1, xI a2] m Q :=
  jx_segOk (x := 120) (cd := jx_c120) rfl (stops := []) 16 hv
set_option maxRecDepth 100000 in
theorem sg_121 (a1 : Int) (a2 : Int) (a3 : Int) (a4 : Int) (a5 : Int) (m : jx_M) (Q : Int → jx_M → Prop) (hv :
    jx_Cl 107 [xI a1] m (fun z1 m1 =>
      ((z1 = 0 →
        Q (-1) m1) ∧
        (¬ (z1 = 0) →
        jx_Cl 107 [xI a3] m1 (fun z2 m2 =>
          ((z2 = 0 →
            Q (-1) m2) ∧
            (¬ (z2 = 0) →
            ((0 < 1) ∧
  ((0 ≤ a1 ∧ a1 < 4) ∧
  ((0 < 1) ∧
  ((0 < 1) ∧
  ((0 ≤ a3 ∧ a3 < 4) ∧
  ((0 < 1) ∧
  ((a1.toNat < 4) ∧
  (((m2 23 a1.toNat 1) = 0 →
              Q (-11) m2) ∧
              (¬ ((m2 23 a1.toNat 1) = 0) →
              ((a3.toNat < 4) ∧
  (((m2 23 a3.toNat 1) = 0 →
                Q (-11) m2) ∧
                (¬ ((m2 23 a3.toNat 1) = 0) →
                ((a1.toNat < 4) ∧
  ((a3.toNat < 4) ∧
  (((m2 23 a1.toNat 2) = (m2 23 a3.toNat 2) →
                  ((a1.toNat < 4) ∧
  jx_Cl 110 [xA 23 a1.toNat, xI a2, xI a5] m2 (fun z3 m3 =>
                    ((z3 = 0 →
                      Q (-13) m3) ∧
                      (¬ (z3 = 0) →
                      ((a3.toNat < 4) ∧
  jx_Cl 110 [xA 23 a3.toNat, xI a4, xI a5] m3 (fun z4 m4 =>
                        ((z4 = 0 →
                          Q (-13) m4) ∧
                          (¬ (z4 = 0) →
                          ((a1.toNat < 4) ∧
  ((a3.toNat < 4) ∧
  (((1 = 1 ∧ 1 = 1) ∧ (0 ≤ a2 ∧ 0 ≤ a4 ∧ 0 ≤ a5) ∧ a2 + a5 ≤ 24 ∧ a4 + a5 ≤ 24) ∧
  ((a1.toNat < 4) ∧
  ((a3.toNat < 4) ∧
  Q a5 (jx_cpy m4 24 a1.toNat (a2.toNat) 24 a3.toNat (a4.toNat) (a5.toNat)))))))))))))))) ∧
                  (¬ ((m2 23 a1.toNat 2) = (m2 23 a3.toNat 2)) →
                  Q (-12) m2))))))))))))))))))))))) :
    jx_Cl 121 [xA 0 0, xI a1, xI a2, xI a3, xI a4, xI a5] m Q :=
  jx_segOk (x := 121) (cd := jx_c121) rfl (stops := []) 48 hv
set_option maxRecDepth 100000 in
theorem sg_123 (a1 : Int) (a2 : Int) (m : jx_M) (Q : Int → jx_M → Prop) (hv :
    jx_Cl 124 [xI a1] m (fun z1 m1 =>
      ((z1 = 0 →
        Q (-1) m1) ∧
        (¬ (z1 = 0) →
        jx_Cl 125 [xL a2, xL 0, xL 9] m1 (fun z2 m2 =>
          ((z2 = 0 →
            Q (-1) m2) ∧
            (¬ (z2 = 0) →
            ((0 < 1) ∧
  ((1 = 1 ∧ 0 ≤ a1 ∧ a1 < 25) ∧
  ((0 < 1) ∧
  ((0 < 1) ∧
  ((1 = 1 ∧ 0 ≤ a1 ∧ a1 < 25) ∧
  ((0 < 1) ∧
  Q (m2 27 0 (a1.toNat)) (jx_up m2 27 0 (a1.toNat) a2)))))))))))))) :
    jx_Cl 123 [xA 26 0, xI a1, xI a2] m Q :=
  jx_segOk (x := 123) (cd := jx_c123) rfl (stops := []) 22 hv
set_option maxRecDepth 100000 in
theorem sg_124 (a1 : Int) (m : jx_M) (Q : Int → jx_M → Prop) (hv :
    jx_Cl 125 [xL a1, xL 0, xL 24] m (fun z1 m1 =>
      ((z1 = 0 ∨ z1 = 1) ∧
  Q z1 m1))) :
    jx_Cl 124 [xI a1] m Q :=
  jx_segOk (x := 124) (cd := jx_c124) rfl (stops := []) 7 hv
set_option maxRecDepth 100000 in
theorem sg_125 (a1 : Int) (a2 : Int) (a3 : Int) (m : jx_M) (Q : Int → jx_M → Prop) (hv :
    (((jx_lcmp a1 a2) < 0 →
      (((0 : Int) = 0 ∨ (0 : Int) = 1) ∧
  Q 0 m)) ∧
      (¬ ((jx_lcmp a1 a2) < 0) →
      (((0 : Int) < (jx_lcmp a1 a3) →
        (((0 : Int) = 0 ∨ (0 : Int) = 1) ∧
  Q 0 m)) ∧
        (¬ ((0 : Int) < (jx_lcmp a1 a3)) →
        (((1 : Int) = 0 ∨ (1 : Int) = 1) ∧
  Q 1 m)))))) :
    jx_Cl 125 [xL a1, xL a2, xL a3] m Q :=
  jx_segOk (x := 125) (cd := jx_c125) rfl (stops := []) 12 hv
set_option maxRecDepth 100000 in
theorem sg_126 (a1 : Int) (a2 : Int) (a3 : Int) (m : jx_M) (Q : Int → jx_M → Prop) (hv :
    jx_Cl 127 [xI 0, xI a1] m (fun z1 m1 =>
      ((z1 = 0 →
        Q (-1) m1) ∧
        (¬ (z1 = 0) →
        jx_Cl 127 [xI 1, xI a2] m1 (fun z2 m2 =>
          ((z2 = 0 →
            Q (-1) m2) ∧
            (¬ (z2 = 0) →
            jx_Cl 127 [xI 3, xI a3] m2 (fun z3 m3 =>
              ((z3 = 0 →
                Q (-1) m3) ∧
                (¬ (z3 = 0) →
                ((0 < 1) ∧
  (((m3 26 0 1) = 6 →
                  Q (-3) m3) ∧
                  (¬ ((m3 26 0 1) = 6) →
                  ((0 < 1) ∧
  ((0 < 1) ∧
  ((jx_in (4 * (m3 26 0 1))) ∧
  ((1 = 1 ∧ 0 ≤ (4 * (m3 26 0 1)) ∧ (4 * (m3 26 0 1)) < 24) ∧
  ((0 < 1) ∧
  ((0 < 1) ∧
  ((jx_in (4 * (m3 26 0 1))) ∧
  ((jx_in ((4 * (m3 26 0 1)) + 1)) ∧
  ((1 = 1 ∧ 0 ≤ ((4 * (m3 26 0 1)) + 1) ∧ ((4 * (m3 26 0 1)) + 1) < 24) ∧
  ((0 < 1) ∧
  ((0 < 1) ∧
  ((jx_in (4 * (m3 26 0 1))) ∧
  ((jx_in ((4 * (m3 26 0 1)) + 2)) ∧
  ((1 = 1 ∧ 0 ≤ ((4 * (m3 26 0 1)) + 2) ∧ ((4 * (m3 26 0 1)) + 2) < 24) ∧
  ((0 < 1) ∧
  ((0 < 1) ∧
  ((jx_in (4 * (m3 26 0 1))) ∧
  ((jx_in ((4 * (m3 26 0 1)) + 3)) ∧
  ((1 = 1 ∧ 0 ≤ ((4 * (m3 26 0 1)) + 3) ∧ ((4 * (m3 26 0 1)) + 3) < 24) ∧
  ((0 < 1) ∧
  ((0 < 1) ∧
  ((jx_in (13 * (m3 26 0 1))) ∧
  ((1 = 1 ∧ 0 ≤ (13 * (m3 26 0 1)) ∧ (13 * (m3 26 0 1)) < 78) ∧
  ((0 < 1) ∧
  ((0 < 1) ∧
  ((jx_in (13 * (m3 26 0 1))) ∧
  ((jx_in ((13 * (m3 26 0 1)) + 1)) ∧
  ((1 = 1 ∧ 0 ≤ ((13 * (m3 26 0 1)) + 1) ∧ ((13 * (m3 26 0 1)) + 1) < 78) ∧
  ((0 < 1) ∧
  ((0 < 1) ∧
  ((jx_in (7 * (m3 26 0 1))) ∧
  ((1 = 1 ∧ 0 ≤ (7 * (m3 26 0 1)) ∧ (7 * (m3 26 0 1)) < 42) ∧
  ((0 < 1) ∧
  ((0 < 1) ∧
  ((jx_in (7 * (m3 26 0 1))) ∧
  ((jx_in ((7 * (m3 26 0 1)) + 1)) ∧
  ((1 = 1 ∧ 0 ≤ ((7 * (m3 26 0 1)) + 1) ∧ ((7 * (m3 26 0 1)) + 1) < 42) ∧
  ((0 < 1) ∧
  ((0 < 1) ∧
  ((jx_in (((jx_up (jx_up (jx_up (jx_up (jx_up (jx_up (jx_up (jx_up m3 28 0 ((4 * (m3 26 0 1)).toNat) a1) 28 0 (((4 * (m3 26 0 1)) + 1).toNat) a2) 28 0 (((4 * (m3 26 0 1)) + 2).toNat) 0) 28 0 (((4 * (m3 26 0 1)) + 3).toNat) a3) 29 0 ((13 * (m3 26 0 1)).toNat) 1) 29 0 (((13 * (m3 26 0 1)) + 1).toNat) 0) 30 0 ((7 * (m3 26 0 1)).toNat) 1) 30 0 (((7 * (m3 26 0 1)) + 1).toNat) 5) 26 0 1) + 1)) ∧
  ((0 < 1) ∧
  Q (m3 26 0 1) (jx_up (jx_up (jx_up (jx_up (jx_up (jx_up (jx_up (jx_up (jx_up m3 28 0 ((4 * (m3 26 0 1)).toNat) a1) 28 0 (((4 * (m3 26 0 1)) + 1).toNat) a2) 28 0 (((4 * (m3 26 0 1)) + 2).toNat) 0) 28 0 (((4 * (m3 26 0 1)) + 3).toNat) a3) 29 0 ((13 * (m3 26 0 1)).toNat) 1) 29 0 (((13 * (m3 26 0 1)) + 1).toNat) 0) 30 0 ((7 * (m3 26 0 1)).toNat) 1) 30 0 (((7 * (m3 26 0 1)) + 1).toNat) 5) 26 0 1 (((jx_up (jx_up (jx_up (jx_up (jx_up (jx_up (jx_up (jx_up m3 28 0 ((4 * (m3 26 0 1)).toNat) a1) 28 0 (((4 * (m3 26 0 1)) + 1).toNat) a2) 28 0 (((4 * (m3 26 0 1)) + 2).toNat) 0) 28 0 (((4 * (m3 26 0 1)) + 3).toNat) a3) 29 0 ((13 * (m3 26 0 1)).toNat) 1) 29 0 (((13 * (m3 26 0 1)) + 1).toNat) 0) 30 0 ((7 * (m3 26 0 1)).toNat) 1) 30 0 (((7 * (m3 26 0 1)) + 1).toNat) 5) 26 0 1) + 1)))))))))))))))))))))))))))))))))))))))))))))))))))))))) :
    jx_Cl 126 [xA 26 0, xI a1, xI a2, xI a3] m Q :=
  jx_segOk (x := 126) (cd := jx_c126) rfl (stops := []) 94 hv
set_option maxRecDepth 100000 in
theorem sg_127 (a1 : Int) (a2 : Int) (m : jx_M) (Q : Int → jx_M → Prop) (hv :
    ((a1 = 0 →
      jx_Cl 125 [xL a2, xL 0, xL 3] m (fun z1 m1 =>
        ((z1 = 0 ∨ z1 = 1) ∧
  Q z1 m1))) ∧
      (¬ (a1 = 0) →
      ((a1 = 1 →
        jx_Cl 125 [xL a2, xL 1, xL 9] m (fun z2 m2 =>
          ((z2 = 0 ∨ z2 = 1) ∧
  Q z2 m2))) ∧
        (¬ (a1 = 1) →
        ((a1 = 2 →
          jx_Cl 128 [xI a2] m (fun z3 m3 =>
            ((z3 = 0 ∨ z3 = 1) ∧
  Q z3 m3))) ∧
          (¬ (a1 = 2) →
          jx_Cl 125 [xL a2, xL 1, xL 5] m (fun z4 m4 =>
            ((z4 = 0 ∨ z4 = 1) ∧
  Q z4 m4))))))))) :
    jx_Cl 127 [xI a1, xI a2] m Q :=
  jx_segOk (x := 127) (cd := jx_c127) rfl (stops := []) 15 hv
set_option maxRecDepth 100000 in
theorem sg_128 (a1 : Int) (m : jx_M) (Q : Int → jx_M → Prop) (hv :
    jx_Cl 125 [xL a1, xL 0, xL 119] m (fun z1 m1 =>
      ((z1 = 0 ∨ z1 = 1) ∧
  Q z1 m1))) :
    jx_Cl 128 [xI a1] m Q :=
  jx_segOk (x := 128) (cd := jx_c128) rfl (stops := []) 7 hv
set_option maxRecDepth 100000 in
theorem sg_129 (a1 : Int) (a2 : Int) (a3 : Int) (m : jx_M) (Q : Int → jx_M → Prop) (hv :
    ((0 < 1) ∧
  jx_Cl 130 [xA 26 0, xI a1] m (fun z1 m1 =>
      ((z1 = 0 →
        Q (-1) m1) ∧
        (¬ (z1 = 0) →
        jx_Cl 125 [xL a2, xL 0, xL 3] m1 (fun z2 m2 =>
          ((z2 = 0 →
            Q (-1) m2) ∧
            (¬ (z2 = 0) →
            jx_Cl 127 [xI a2, xI a3] m2 (fun z3 m3 =>
              ((z3 = 0 →
                Q (-1) m3) ∧
                (¬ (z3 = 0) →
                ((0 < 1) ∧
  ((jx_in (4 * a1)) ∧
  ((jx_in ((4 * a1) + a2)) ∧
  ((1 = 1 ∧ 0 ≤ ((4 * a1) + a2) ∧ ((4 * a1) + a2) < 24) ∧
  ((0 < 1) ∧
  ((0 < 1) ∧
  ((jx_in (4 * a1)) ∧
  ((jx_in ((4 * a1) + a2)) ∧
  ((1 = 1 ∧ 0 ≤ ((4 * a1) + a2) ∧ ((4 * a1) + a2) < 24) ∧
  ((0 < 1) ∧
  Q (m3 28 0 (((4 * a1) + a2).toNat)) (jx_up m3 28 0 (((4 * a1) + a2).toNat) a3)))))))))))))))))))))) :
    jx_Cl 129 [xA 26 0, xI a1, xI a2, xI a3] m Q :=
  jx_segOk (x := 129) (cd := jx_c129) rfl (stops := []) 35 hv
set_option maxRecDepth 100000 in
theorem sg_130 (a1 : Int) (m : jx_M) (Q : Int → jx_M → Prop) (hv :
    ((0 < 1) ∧
  ((jx_in ((m 26 0 1) - 1)) ∧
  jx_Cl 125 [xL a1, xL 0, xL ((m 26 0 1) - 1)] m (fun z1 m1 =>
      ((z1 = 0 ∨ z1 = 1) ∧
  Q z1 m1))))) :
    jx_Cl 130 [xA 26 0, xI a1] m Q :=
  jx_segOk (x := 130) (cd := jx_c130) rfl (stops := []) 11 hv
set_option maxRecDepth 100000 in
theorem sg_131 (a1 : Int) (a2 : Int) (m : jx_M) (Q : Int → jx_M → Prop) (hv :
    jx_Cl 125 [xL a2, xL 1, xL 8] m (fun z1 m1 =>
      ((z1 = 0 →
        Q (-1) m1) ∧
        (¬ (z1 = 0) →
        jx_AW 131 10 [some (xA 26 0), some (xL a1), none, some (xI a2), some (xI 0)] [] m1 Q)))) :
    jx_Cl 131 [xA 26 0, xL a1, xI a2] m Q :=
  jx_segOk (x := 131) (cd := jx_c131) rfl (stops := [10, 40]) 9 hv
set_option maxRecDepth 100000 in
theorem sg_132  (m : jx_M) (Q : Int → jx_M → Prop) (hv :
    ((0 < 1) ∧
  jx_Cl 133 [xA 26 0, xI 25, xI 25] m (fun z1 m1 =>
      jx_AW 132 9 [some (xA 26 0), some (xI z1), some (xI 0), some (xI 0)] [] m1 Q))) :
    jx_Cl 132 [xA 26 0] m Q :=
  jx_segOk (x := 132) (cd := jx_c132) rfl (stops := [9]) 10 hv
set_option maxRecDepth 100000 in
theorem sg_133 (a1 : Int) (a2 : Int) (m : jx_M) (Q : Int → jx_M → Prop) (hv :
    ((0 < 1) ∧
  jx_AW 133 5 [some (xA 26 0), some (xI a1), some (xI a2), some (xI 0)] [] (jx_up m 26 0 13 0) Q)) :
    jx_Cl 133 [xA 26 0, xI a1, xI a2] m Q :=
  jx_segOk (x := 133) (cd := jx_c133) rfl (stops := [5]) 6 hv
set_option maxRecDepth 100000 in
theorem sg_134  (m : jx_M) (Q : Int → jx_M → Prop) (hv :
    ((0 < 1) ∧
  jx_Cl 135 [xA 26 0] m (fun z1 m1 =>
      jx_Cl 125 [xL z1, xL 48, xL 57] m1 (fun z2 m2 =>
        ((z2 = 0 ∨ z2 = 1) ∧
  Q z2 m2))))) :
    jx_Cl 134 [xA 26 0] m Q :=
  jx_segOk (x := 134) (cd := jx_c134) rfl (stops := []) 8 hv
set_option maxRecDepth 100000 in
theorem sg_135  (m : jx_M) (Q : Int → jx_M → Prop) (hv :
    ((0 < 1) ∧
  ((0 < 1) ∧
  (((m 26 0 13) < (m 26 0 12) →
      ((0 < 1) ∧
  ((0 < 1) ∧
  ((1 = 1 ∧ 0 ≤ (m 26 0 13) ∧ (m 26 0 13) < 60) ∧
  ((0 < 1) ∧
  (((m 33 0 ((m 26 0 13).toNat)) = 32 →
        ((0 < 1) ∧
  ((jx_in ((m 26 0 13) + 1)) ∧
  ((0 < 1) ∧
  jx_AW 135 0 [some (xA 26 0)] [] (jx_up m 26 0 13 ((m 26 0 13) + 1)) Q)))) ∧
        (¬ ((m 33 0 ((m 26 0 13).toNat)) = 32) →
        ((0 < 1) ∧
  ((0 < 1) ∧
  (((m 26 0 13) < (m 26 0 12) →
          ((0 < 1) ∧
  ((0 < 1) ∧
  ((1 = 1 ∧ 0 ≤ (m 26 0 13) ∧ (m 26 0 13) < 60) ∧
  ((0 < 1) ∧
  Q (m 33 0 ((m 26 0 13).toNat)) m))))) ∧
          (¬ ((m 26 0 13) < (m 26 0 12)) →
          Q 0 m))))))))))) ∧
      (¬ ((m 26 0 13) < (m 26 0 12)) →
      ((0 < 1) ∧
  ((0 < 1) ∧
  (((m 26 0 13) < (m 26 0 12) →
        ((0 < 1) ∧
  ((0 < 1) ∧
  ((1 = 1 ∧ 0 ≤ (m 26 0 13) ∧ (m 26 0 13) < 60) ∧
  ((0 < 1) ∧
  Q (m 33 0 ((m 26 0 13).toNat)) m))))) ∧
        (¬ ((m 26 0 13) < (m 26 0 12)) →
        Q 0 m))))))))) :
    jx_Cl 135 [xA 26 0] m Q :=
  jx_segOk (x := 135) (cd := jx_c135) rfl (stops := [0]) 25 hv
set_option maxRecDepth 100000 in
theorem sg_136 (a1 : Int) (m : jx_M) (Q : Int → jx_M → Prop) (hv :
    ((0 < 1) ∧
  jx_Cl 130 [xA 26 0, xI a1] m (fun z1 m1 =>
      ((z1 = 0 →
        Q (-1) m1) ∧
        (¬ (z1 = 0) →
        ((0 < 1) ∧
  ((0 < 1) ∧
  (((0 : Int) = 0 ∨ (0 : Int) = 1) ∧
  jx_AW 136 16 [some (xA 26 0), some (xI a1), some (xI 0), some (xI 1), none] [] (jx_up (jx_up m1 26 0 13 0) 26 0 14 0) Q)))))))) :
    jx_Cl 136 [xA 26 0, xI a1] m Q :=
  jx_segOk (x := 136) (cd := jx_c136) rfl (stops := [16, 78]) 15 hv
set_option maxRecDepth 100000 in
theorem sg_137 (a1 : Int) (m : jx_M) (Q : Int → jx_M → Prop) (hv :
    ((0 < 1) ∧
  jx_Cl 134 [xA 26 0] m (fun z1 m1 =>
      ((z1 = 0 →
        ((0 < 1) ∧
  (((1 : Int) = 0 ∨ (1 : Int) = 1) ∧
  Q 0 (jx_up m1 26 0 14 1)))) ∧
        (¬ (z1 = 0) →
        ((0 < 1) ∧
  jx_AW 137 12 [some (xA 26 0), some (xI a1), some (xI (m1 26 0 13)), some (xI 0)] [] m1 Q)))))) :
    jx_Cl 137 [xA 26 0, xI a1] m Q :=
  jx_segOk (x := 137) (cd := jx_c137) rfl (stops := [12]) 9 hv
set_option maxRecDepth 100000 in
theorem sg_138 (a1 : Int) (a2 : Int) (m : jx_M) (Q : Int → jx_M → Prop) (hv :
    ((0 ≤ a1 ∧ 0 < (5 : Int)) ∧
  ((0 ≤ a2 ∧ 0 < (5 : Int)) ∧
  ((jx_in ((a1 / 5) - (a2 / 5))) ∧
  ((0 ≤ a1 ∧ 0 < (5 : Int)) ∧
  ((0 ≤ a2 ∧ 0 < (5 : Int)) ∧
  ((jx_in ((a1 % 5) - (a2 % 5))) ∧
  ((((a1 / 5) - (a2 / 5)) < 0 →
      ((jx_in (-((a1 / 5) - (a2 / 5)))) ∧
  ((((a1 % 5) - (a2 % 5)) < 0 →
        ((jx_in (-((a1 % 5) - (a2 % 5)))) ∧
  ((jx_in ((-((a1 / 5) - (a2 / 5))) + (-((a1 % 5) - (a2 % 5))))) ∧
  Q ((-((a1 / 5) - (a2 / 5))) + (-((a1 % 5) - (a2 % 5)))) m))) ∧
        (¬ (((a1 % 5) - (a2 % 5)) < 0) →
        ((jx_in ((-((a1 / 5) - (a2 / 5))) + ((a1 % 5) - (a2 % 5)))) ∧
  Q ((-((a1 / 5) - (a2 / 5))) + ((a1 % 5) - (a2 % 5))) m))))) ∧
      (¬ (((a1 / 5) - (a2 / 5)) < 0) →
      ((((a1 % 5) - (a2 % 5)) < 0 →
        ((jx_in (-((a1 % 5) - (a2 % 5)))) ∧
  ((jx_in (((a1 / 5) - (a2 / 5)) + (-((a1 % 5) - (a2 % 5))))) ∧
  Q (((a1 / 5) - (a2 / 5)) + (-((a1 % 5) - (a2 % 5)))) m))) ∧
        (¬ (((a1 % 5) - (a2 % 5)) < 0) →
        ((jx_in (((a1 / 5) - (a2 / 5)) + ((a1 % 5) - (a2 % 5)))) ∧
  Q (((a1 / 5) - (a2 / 5)) + ((a1 % 5) - (a2 % 5))) m)))))))))))) :
    jx_Cl 138 [xI a1, xI a2] m Q :=
  jx_segOk (x := 138) (cd := jx_c138) rfl (stops := []) 29 hv
set_option maxRecDepth 100000 in
theorem sg_139 (a1 : Int) (m : jx_M) (Q : Int → jx_M → Prop) (hv :
    ((0 < 1) ∧
  jx_Cl 130 [xA 26 0, xI a1] m (fun z1 m1 =>
      ((z1 = 0 →
        Q (-1) m1) ∧
        (¬ (z1 = 0) →
        ((0 < 1) ∧
  jx_Cl 133 [xA 26 0, xI 1, xI 6] m1 (fun z2 m2 =>
          (((0 : Int) < z2 →
            ((0 < 1) ∧
  ((jx_in (7 * a1)) ∧
  ((1 = 1 ∧ 0 ≤ (7 * a1) ∧ (7 * a1) < 42) ∧
  ((0 < 1) ∧
  jx_AW 139 22 [some (xA 26 0), some (xI a1), some (xI z2), some (xI 0)] [] (jx_up m2 30 0 ((7 * a1).toNat) z2) Q))))) ∧
            (¬ ((0 : Int) < z2) →
            Q z2 m2))))))))) :
    jx_Cl 139 [xA 26 0, xI a1] m Q :=
  jx_segOk (x := 139) (cd := jx_c139) rfl (stops := [22]) 21 hv
set_option maxRecDepth 100000 in
theorem sg_140 (a1 : Int) (a2 : Int) (a3 : Int) (m : jx_M) (Q : Int → jx_M → Prop) (hv :
    ((0 < 1) ∧
  jx_Cl 130 [xA 26 0, xI a1] m (fun z1 m1 =>
      ((z1 = 0 →
        Q (-1) m1) ∧
        (¬ (z1 = 0) →
        jx_Cl 125 [xL a2, xL 0, xL 1] m1 (fun z2 m2 =>
          ((z2 = 0 →
            Q (-1) m2) ∧
            (¬ (z2 = 0) →
            ((a3 < (-1) →
              Q (-1) m2) ∧
              (¬ (a3 < (-1)) →
              ((a2 = 0 →
                ((0 < 1) ∧
  ((jx_in (13 * a1)) ∧
  ((1 = 1 ∧ 0 ≤ (13 * a1) ∧ (13 * a1) < 78) ∧
  ((0 < 1) ∧
  ((a3 < 0 →
                  Q (m2 29 0 ((13 * a1).toNat)) m2) ∧
                  (¬ (a3 < 0) →
                  ((a3 < (m2 29 0 ((13 * a1).toNat)) →
                    ((a2 = 0 →
                      ((0 < 1) ∧
  ((jx_in (13 * a1)) ∧
  ((jx_in ((13 * a1) + 1)) ∧
  ((jx_in (((13 * a1) + 1) + a3)) ∧
  ((1 = 1 ∧ 0 ≤ (((13 * a1) + 1) + a3) ∧ (((13 * a1) + 1) + a3) < 78) ∧
  ((0 < 1) ∧
  Q (m2 29 0 ((((13 * a1) + 1) + a3).toNat)) m2))))))) ∧
                      (¬ (a2 = 0) →
                      ((0 < 1) ∧
  ((jx_in (7 * a1)) ∧
  ((jx_in ((7 * a1) + 1)) ∧
  ((jx_in (((7 * a1) + 1) + a3)) ∧
  ((1 = 1 ∧ 0 ≤ (((7 * a1) + 1) + a3) ∧ (((7 * a1) + 1) + a3) < 42) ∧
  ((0 < 1) ∧
  Q (m2 30 0 ((((7 * a1) + 1) + a3).toNat)) m2))))))))) ∧
                    (¬ (a3 < (m2 29 0 ((13 * a1).toNat))) →
                    Q (-4) m2))))))))) ∧
                (¬ (a2 = 0) →
                ((0 < 1) ∧
  ((jx_in (7 * a1)) ∧
  ((1 = 1 ∧ 0 ≤ (7 * a1) ∧ (7 * a1) < 42) ∧
  ((0 < 1) ∧
  ((a3 < 0 →
                  Q (m2 30 0 ((7 * a1).toNat)) m2) ∧
                  (¬ (a3 < 0) →
                  ((a3 < (m2 30 0 ((7 * a1).toNat)) →
                    ((a2 = 0 →
                      ((0 < 1) ∧
  ((jx_in (13 * a1)) ∧
  ((jx_in ((13 * a1) + 1)) ∧
  ((jx_in (((13 * a1) + 1) + a3)) ∧
  ((1 = 1 ∧ 0 ≤ (((13 * a1) + 1) + a3) ∧ (((13 * a1) + 1) + a3) < 78) ∧
  ((0 < 1) ∧
  Q (m2 29 0 ((((13 * a1) + 1) + a3).toNat)) m2))))))) ∧
                      (¬ (a2 = 0) →
                      ((0 < 1) ∧
  ((jx_in (7 * a1)) ∧
  ((jx_in ((7 * a1) + 1)) ∧
  ((jx_in (((7 * a1) + 1) + a3)) ∧
  ((1 = 1 ∧ 0 ≤ (((7 * a1) + 1) + a3) ∧ (((7 * a1) + 1) + a3) < 42) ∧
  ((0 < 1) ∧
  Q (m2 30 0 ((((7 * a1) + 1) + a3).toNat)) m2))))))))) ∧
                    (¬ (a3 < (m2 30 0 ((7 * a1).toNat))) →
                    Q (-4) m2)))))))))))))))))))) :
    jx_Cl 140 [xA 26 0, xI a1, xI a2, xI a3] m Q :=
  jx_segOk (x := 140) (cd := jx_c140) rfl (stops := []) 43 hv
set_option maxRecDepth 100000 in
theorem sg_141 (a1 : Int) (a2 : Int) (m : jx_M) (Q : Int → jx_M → Prop) (hv :
    ((0 < 1) ∧
  jx_Cl 130 [xA 26 0, xI a1] m (fun z1 m1 =>
      ((z1 = 0 →
        Q (-1) m1) ∧
        (¬ (z1 = 0) →
        jx_Cl 128 [xI a2] m1 (fun z2 m2 =>
          ((z2 = 0 →
            Q (-1) m2) ∧
            (¬ (z2 = 0) →
            ((0 < 1) ∧
  jx_Cl 142 [xA 26 0, xI a1, xI a2] m2 (fun z3 m3 =>
              Q z3 m3)))))))))) :
    jx_Cl 141 [xA 26 0, xI a1, xI a2] m Q :=
  jx_segOk (x := 141) (cd := jx_c141) rfl (stops := []) 14 hv
set_option maxRecDepth 100000 in
theorem sg_142 (a1 : Int) (a2 : Int) (m : jx_M) (Q : Int → jx_M → Prop) (hv :
    ((0 < 1) ∧
  ((jx_in (4 * a1)) ∧
  ((jx_in ((4 * a1) + 2)) ∧
  ((1 = 1 ∧ 0 ≤ ((4 * a1) + 2) ∧ ((4 * a1) + 2) < 24) ∧
  ((0 < 1) ∧
  ((jx_in (a2 - (m 28 0 (((4 * a1) + 2).toNat)))) ∧
  ((0 < 1) ∧
  ((jx_in (13 * a1)) ∧
  ((1 = 1 ∧ 0 ≤ (13 * a1) ∧ (13 * a1) < 78) ∧
  ((0 < 1) ∧
  (((a2 - (m 28 0 (((4 * a1) + 2).toNat))) < 0 →
      ((((-1) : Int) < 0 →
        Q (-4) m) ∧
        (¬ (((-1) : Int) < 0) →
        ((((-1) : Int) < (m 29 0 ((13 * a1).toNat)) →
          ((0 < 1) ∧
  (((m 26 0 17) < 0 →
            ((0 < 1) ∧
  ((jx_in (13 * a1)) ∧
  ((jx_in ((13 * a1) + 1)) ∧
  ((0 < 1) ∧
  (((m 26 0 16) = a1 →
              ((jx_in ((m 29 0 ((13 * a1).toNat)) - 1)) ∧
  ((jx_in (((m 29 0 ((13 * a1).toNat)) - 1) - (-1))) ∧
  ((jx_in (((13 * a1) + 1) + (((m 29 0 ((13 * a1).toNat)) - 1) - (-1)))) ∧
  ((1 = 1 ∧ 0 ≤ (((13 * a1) + 1) + (((m 29 0 ((13 * a1).toNat)) - 1) - (-1))) ∧ (((13 * a1) + 1) + (((m 29 0 ((13 * a1).toNat)) - 1) - (-1))) < 78) ∧
  ((0 < 1) ∧
  Q (m 29 0 ((((13 * a1) + 1) + (((m 29 0 ((13 * a1).toNat)) - 1) - (-1))).toNat)) m)))))) ∧
              (¬ ((m 26 0 16) = a1) →
              ((jx_in (((13 * a1) + 1) + (-1))) ∧
  ((1 = 1 ∧ 0 ≤ (((13 * a1) + 1) + (-1)) ∧ (((13 * a1) + 1) + (-1)) < 78) ∧
  ((0 < 1) ∧
  Q (m 29 0 ((((13 * a1) + 1) + (-1)).toNat)) m)))))))))) ∧
            (¬ ((m 26 0 17) < 0) →
            ((0 < 1) ∧
  (((m 26 0 17) = a1 →
              ((0 < 1) ∧
  ((jx_in (13 * a1)) ∧
  ((jx_in ((13 * a1) + 1)) ∧
  ((0 < 1) ∧
  (((m 26 0 16) = a1 →
                ((jx_in ((m 29 0 ((13 * a1).toNat)) - 1)) ∧
  ((jx_in (((m 29 0 ((13 * a1).toNat)) - 1) - (-1))) ∧
  ((jx_in (((13 * a1) + 1) + (((m 29 0 ((13 * a1).toNat)) - 1) - (-1)))) ∧
  ((1 = 1 ∧ 0 ≤ (((13 * a1) + 1) + (((m 29 0 ((13 * a1).toNat)) - 1) - (-1))) ∧ (((13 * a1) + 1) + (((m 29 0 ((13 * a1).toNat)) - 1) - (-1))) < 78) ∧
  ((0 < 1) ∧
  Q (m 29 0 ((((13 * a1) + 1) + (((m 29 0 ((13 * a1).toNat)) - 1) - (-1))).toNat)) m)))))) ∧
                (¬ ((m 26 0 16) = a1) →
                ((jx_in (((13 * a1) + 1) + (-1))) ∧
  ((1 = 1 ∧ 0 ≤ (((13 * a1) + 1) + (-1)) ∧ (((13 * a1) + 1) + (-1)) < 78) ∧
  ((0 < 1) ∧
  Q (m 29 0 ((((13 * a1) + 1) + (-1)).toNat)) m)))))))))) ∧
              (¬ ((m 26 0 17) = a1) →
              Q (-4) m))))))) ∧
          (¬ (((-1) : Int) < (m 29 0 ((13 * a1).toNat))) →
          Q (-4) m))))) ∧
      (¬ ((a2 - (m 28 0 (((4 * a1) + 2).toNat))) < 0) →
      ((0 < 1) ∧
  ((jx_in (4 * a1)) ∧
  ((jx_in ((4 * a1) + 3)) ∧
  ((1 = 1 ∧ 0 ≤ ((4 * a1) + 3) ∧ ((4 * a1) + 3) < 24) ∧
  ((0 < 1) ∧
  ((0 ≤ (a2 - (m 28 0 (((4 * a1) + 2).toNat))) ∧ 0 < (m 28 0 (((4 * a1) + 3).toNat))) ∧
  ((((a2 - (m 28 0 (((4 * a1) + 2).toNat))) / (m 28 0 (((4 * a1) + 3).toNat))) < 0 →
        Q (-4) m) ∧
        (¬ (((a2 - (m 28 0 (((4 * a1) + 2).toNat))) / (m 28 0 (((4 * a1) + 3).toNat))) < 0) →
        ((((a2 - (m 28 0 (((4 * a1) + 2).toNat))) / (m 28 0 (((4 * a1) + 3).toNat))) < (m 29 0 ((13 * a1).toNat)) →
          ((0 < 1) ∧
  (((m 26 0 17) < 0 →
            ((0 < 1) ∧
  ((jx_in (13 * a1)) ∧
  ((jx_in ((13 * a1) + 1)) ∧
  ((0 < 1) ∧
  (((m 26 0 16) = a1 →
              ((jx_in ((m 29 0 ((13 * a1).toNat)) - 1)) ∧
  ((jx_in (((m 29 0 ((13 * a1).toNat)) - 1) - ((a2 - (m 28 0 (((4 * a1) + 2).toNat))) / (m 28 0 (((4 * a1) + 3).toNat))))) ∧
  ((jx_in (((13 * a1) + 1) + (((m 29 0 ((13 * a1).toNat)) - 1) - ((a2 - (m 28 0 (((4 * a1) + 2).toNat))) / (m 28 0 (((4 * a1) + 3).toNat)))))) ∧
  ((1 = 1 ∧ 0 ≤ (((13 * a1) + 1) + (((m 29 0 ((13 * a1).toNat)) - 1) - ((a2 - (m 28 0 (((4 * a1) + 2).toNat))) / (m 28 0 (((4 * a1) + 3).toNat))))) ∧ (((13 * a1) + 1) + (((m 29 0 ((13 * a1).toNat)) - 1) - ((a2 - (m 28 0 (((4 * a1) + 2).toNat))) / (m 28 0 (((4 * a1) + 3).toNat))))) < 78) ∧
  ((0 < 1) ∧
  Q (m 29 0 ((((13 * a1) + 1) + (((m 29 0 ((13 * a1).toNat)) - 1) - ((a2 - (m 28 0 (((4 * a1) + 2).toNat))) / (m 28 0 (((4 * a1) + 3).toNat))))).toNat)) m)))))) ∧
              (¬ ((m 26 0 16) = a1) →
              ((jx_in (((13 * a1) + 1) + ((a2 - (m 28 0 (((4 * a1) + 2).toNat))) / (m 28 0 (((4 * a1) + 3).toNat))))) ∧
  ((1 = 1 ∧ 0 ≤ (((13 * a1) + 1) + ((a2 - (m 28 0 (((4 * a1) + 2).toNat))) / (m 28 0 (((4 * a1) + 3).toNat)))) ∧ (((13 * a1) + 1) + ((a2 - (m 28 0 (((4 * a1) + 2).toNat))) / (m 28 0 (((4 * a1) + 3).toNat)))) < 78) ∧
  ((0 < 1) ∧
  Q (m 29 0 ((((13 * a1) + 1) + ((a2 - (m 28 0 (((4 * a1) + 2).toNat))) / (m 28 0 (((4 * a1) + 3).toNat)))).toNat)) m)))))))))) ∧
            (¬ ((m 26 0 17) < 0) →
            ((0 < 1) ∧
  (((m 26 0 17) = a1 →
              ((0 < 1) ∧
  ((jx_in (13 * a1)) ∧
  ((jx_in ((13 * a1) + 1)) ∧
  ((0 < 1) ∧
  (((m 26 0 16) = a1 →
                ((jx_in ((m 29 0 ((13 * a1).toNat)) - 1)) ∧
  ((jx_in (((m 29 0 ((13 * a1).toNat)) - 1) - ((a2 - (m 28 0 (((4 * a1) + 2).toNat))) / (m 28 0 (((4 * a1) + 3).toNat))))) ∧
  ((jx_in (((13 * a1) + 1) + (((m 29 0 ((13 * a1).toNat)) - 1) - ((a2 - (m 28 0 (((4 * a1) + 2).toNat))) / (m 28 0 (((4 * a1) + 3).toNat)))))) ∧
  ((1 = 1 ∧ 0 ≤ (((13 * a1) + 1) + (((m 29 0 ((13 * a1).toNat)) - 1) - ((a2 - (m 28 0 (((4 * a1) + 2).toNat))) / (m 28 0 (((4 * a1) + 3).toNat))))) ∧ (((13 * a1) + 1) + (((m 29 0 ((13 * a1).toNat)) - 1) - ((a2 - (m 28 0 (((4 * a1) + 2).toNat))) / (m 28 0 (((4 * a1) + 3).toNat))))) < 78) ∧
  ((0 < 1) ∧
  Q (m 29 0 ((((13 * a1) + 1) + (((m 29 0 ((13 * a1).toNat)) - 1) - ((a2 - (m 28 0 (((4 * a1) + 2).toNat))) / (m 28 0 (((4 * a1) + 3).toNat))))).toNat)) m)))))) ∧
                (¬ ((m 26 0 16) = a1) →
                ((jx_in (((13 * a1) + 1) + ((a2 - (m 28 0 (((4 * a1) + 2).toNat))) / (m 28 0 (((4 * a1) + 3).toNat))))) ∧
  ((1 = 1 ∧ 0 ≤ (((13 * a1) + 1) + ((a2 - (m 28 0 (((4 * a1) + 2).toNat))) / (m 28 0 (((4 * a1) + 3).toNat)))) ∧ (((13 * a1) + 1) + ((a2 - (m 28 0 (((4 * a1) + 2).toNat))) / (m 28 0 (((4 * a1) + 3).toNat)))) < 78) ∧
  ((0 < 1) ∧
  Q (m 29 0 ((((13 * a1) + 1) + ((a2 - (m 28 0 (((4 * a1) + 2).toNat))) / (m 28 0 (((4 * a1) + 3).toNat)))).toNat)) m)))))))))) ∧
              (¬ ((m 26 0 17) = a1) →
              Q (-4) m))))))) ∧
          (¬ (((a2 - (m 28 0 (((4 * a1) + 2).toNat))) / (m 28 0 (((4 * a1) + 3).toNat))) < (m 29 0 ((13 * a1).toNat))) →
          Q (-4) m))))))))))))))))))))))) :
    jx_Cl 142 [xA 26 0, xI a1, xI a2] m Q :=
  jx_segOk (x := 142) (cd := jx_c142) rfl (stops := []) 64 hv
set_option maxRecDepth 100000 in
theorem sg_143 (a1 : Int) (m : jx_M) (Q : Int → jx_M → Prop) (hv :
    ((0 < 1) ∧
  jx_Cl 130 [xA 26 0, xI a1] m (fun z1 m1 =>
      ((z1 = 0 →
        Q (-1) m1) ∧
        (¬ (z1 = 0) →
        ((0 < 1) ∧
  jx_Cl 144 [xA 26 0, xI a1] m1 (fun z2 m2 =>
          Q z2 m2))))))) :
    jx_Cl 143 [xA 26 0, xI a1] m Q :=
  jx_segOk (x := 143) (cd := jx_c143) rfl (stops := []) 10 hv
set_option maxRecDepth 100000 in
theorem sg_144 (a1 : Int) (m : jx_M) (Q : Int → jx_M → Prop) (hv :
    jx_AW 144 4 [some (xA 26 0), some (xI a1), some (xI 0), some (xI 1)] [] m Q) :
    jx_Cl 144 [xA 26 0, xI a1] m Q :=
  jx_segOk (x := 144) (cd := jx_c144) rfl (stops := [4]) 5 hv
set_option maxRecDepth 100000 in
theorem sg_145 (a1 : Int) (a2 : Int) (m : jx_M) (Q : Int → jx_M → Prop) (hv :
    jx_Cl 124 [xI a1] m (fun z1 m1 =>
      ((z1 = 0 →
        Q (-1) m1) ∧
        (¬ (z1 = 0) →
        jx_Cl 128 [xI a2] m1 (fun z2 m2 =>
          ((z2 = 0 →
            Q (-1) m2) ∧
            (¬ (z2 = 0) →
            jx_AW 145 12 [some (xA 26 0), some (xI a1), some (xI a2), some (xI 0), some (xI 0)] [] m2 Q))))))) :
    jx_Cl 145 [xA 26 0, xI a1, xI a2] m Q :=
  jx_segOk (x := 145) (cd := jx_c145) rfl (stops := [12]) 11 hv
set_option maxRecDepth 100000 in
theorem sg_146 (a1 : Int) (a2 : Int) (a3 : Int) (m : jx_M) (Q : Int → jx_M → Prop) (hv :
    ((0 < 1) ∧
  jx_Cl 147 [xA 26 0, xI a2, xI a3] m (fun z1 m1 =>
      ((z1 = 0 →
        (((0 : Int) = 0 ∨ (0 : Int) = 1) ∧
  Q 0 m1)) ∧
        (¬ (z1 = 0) →
        ((0 < 1) ∧
  jx_Cl 142 [xA 26 0, xI a2, xI a3] m1 (fun z2 m2 =>
          jx_Cl 138 [xI z2, xI a1] m2 (fun z3 m3 =>
            ((0 < 1) ∧
  jx_Cl 144 [xA 26 0, xI a2] m3 (fun z4 m4 =>
              ((0 < 1) ∧
  ((1 = 1 ∧ 0 ≤ a1 ∧ a1 < 25) ∧
  ((0 < 1) ∧
  ((jx_in (z4 - (m4 27 0 (a1.toNat)))) ∧
  (((z4 - (m4 27 0 (a1.toNat))) < z3 →
                (((0 : Int) = 0 ∨ (0 : Int) = 1) ∧
  Q 0 m4)) ∧
                (¬ ((z4 - (m4 27 0 (a1.toNat))) < z3) →
                (((1 : Int) = 0 ∨ (1 : Int) = 1) ∧
  Q 1 m4))))))))))))))))) :
    jx_Cl 146 [xA 26 0, xI a1, xI a2, xI a3] m Q :=
  jx_segOk (x := 146) (cd := jx_c146) rfl (stops := []) 24 hv
set_option maxRecDepth 100000 in
theorem sg_147 (a1 : Int) (a2 : Int) (m : jx_M) (Q : Int → jx_M → Prop) (hv :
    ((0 < 1) ∧
  jx_Cl 142 [xA 26 0, xI a1, xI a2] m (fun z1 m1 =>
      ((z1 < 0 →
        (((0 : Int) = 0 ∨ (0 : Int) = 1) ∧
  Q 0 m1)) ∧
        (¬ (z1 < 0) →
        ((0 < 1) ∧
  ((jx_in (4 * a1)) ∧
  ((jx_in ((4 * a1) + 2)) ∧
  ((1 = 1 ∧ 0 ≤ ((4 * a1) + 2) ∧ ((4 * a1) + 2) < 24) ∧
  ((0 < 1) ∧
  ((jx_in (a2 - (m1 28 0 (((4 * a1) + 2).toNat)))) ∧
  ((0 < 1) ∧
  ((jx_in (4 * a1)) ∧
  ((jx_in ((4 * a1) + 3)) ∧
  ((1 = 1 ∧ 0 ≤ ((4 * a1) + 3) ∧ ((4 * a1) + 3) < 24) ∧
  ((0 < 1) ∧
  ((0 ≤ (a2 - (m1 28 0 (((4 * a1) + 2).toNat))) ∧ 0 < (m1 28 0 (((4 * a1) + 3).toNat))) ∧
  (((0 : Int) < ((a2 - (m1 28 0 (((4 * a1) + 2).toNat))) % (m1 28 0 (((4 * a1) + 3).toNat))) →
          (((0 : Int) = 0 ∨ (0 : Int) = 1) ∧
  Q 0 m1)) ∧
          (¬ ((0 : Int) < ((a2 - (m1 28 0 (((4 * a1) + 2).toNat))) % (m1 28 0 (((4 * a1) + 3).toNat)))) →
          ((0 < 1) ∧
  (((jx_iand (m1 26 0 6) 1) = 0 →
            ((0 < 1) ∧
  (((jx_iand (m1 26 0 6) 2) = 0 →
              jx_AW 147 53 [some (xA 26 0), some (xI a1), some (xI a2), some (xI z1), some (xI 1), some (xI 0), none] [] m1 Q) ∧
              (¬ ((jx_iand (m1 26 0 6) 2) = 0) →
              ((0 < 1) ∧
  ((1 = 1 ∧ 0 ≤ z1 ∧ z1 < 25) ∧
  ((0 < 1) ∧
  (((0 : Int) < (m1 27 0 (z1.toNat)) →
                jx_AW 147 53 [some (xA 26 0), some (xI a1), some (xI a2), some (xI z1), some (xI 1), some (xI 0), none] [] m1 Q) ∧
                (¬ ((0 : Int) < (m1 27 0 (z1.toNat))) →
                jx_AW 147 53 [some (xA 26 0), some (xI a1), some (xI a2), some (xI z1), some (xI 0), some (xI 0), none] [] m1 Q))))))))) ∧
            (¬ ((jx_iand (m1 26 0 6) 1) = 0) →
            ((a2 < 60 →
              ((0 < 1) ∧
  (((jx_iand (m1 26 0 6) 2) = 0 →
                jx_AW 147 53 [some (xA 26 0), some (xI a1), some (xI a2), some (xI z1), some (xI 1), some (xI 0), none] [] m1 Q) ∧
                (¬ ((jx_iand (m1 26 0 6) 2) = 0) →
                ((0 < 1) ∧
  ((1 = 1 ∧ 0 ≤ z1 ∧ z1 < 25) ∧
  ((0 < 1) ∧
  (((0 : Int) < (m1 27 0 (z1.toNat)) →
                  jx_AW 147 53 [some (xA 26 0), some (xI a1), some (xI a2), some (xI z1), some (xI 1), some (xI 0), none] [] m1 Q) ∧
                  (¬ ((0 : Int) < (m1 27 0 (z1.toNat))) →
                  jx_AW 147 53 [some (xA 26 0), some (xI a1), some (xI a2), some (xI z1), some (xI 0), some (xI 0), none] [] m1 Q))))))))) ∧
              (¬ (a2 < 60) →
              jx_AW 147 53 [some (xA 26 0), some (xI a1), some (xI a2), some (xI z1), some (xI 0), some (xI 0), none] [] m1 Q)))))))))))))))))))))))) :
    jx_Cl 147 [xA 26 0, xI a1, xI a2] m Q :=
  jx_segOk (x := 147) (cd := jx_c147) rfl (stops := [53]) 51 hv
set_option maxRecDepth 100000 in
theorem sg_148 (a1 : Int) (a2 : Int) (m : jx_M) (Q : Int → jx_M → Prop) (hv :
    ((0 < 1) ∧
  jx_Cl 130 [xA 26 0, xI a1] m (fun z1 m1 =>
      ((z1 = 0 →
        Q (-1) m1) ∧
        (¬ (z1 = 0) →
        ((0 < 1) ∧
  jx_Cl 130 [xA 26 0, xI a2] m1 (fun z2 m2 =>
          ((z2 = 0 →
            Q (-1) m2) ∧
            (¬ (z2 = 0) →
            ((0 < 1) ∧
  jx_Cl 149 [xA 26 0, xI a1, xI a2] m2 (fun z3 m3 =>
              Q z3 m3))))))))))) :
    jx_Cl 148 [xA 26 0, xI a1, xI a2] m Q :=
  jx_segOk (x := 148) (cd := jx_c148) rfl (stops := []) 15 hv
set_option maxRecDepth 100000 in
theorem sg_149 (a1 : Int) (a2 : Int) (m : jx_M) (Q : Int → jx_M → Prop) (hv :
    ((0 < 1) ∧
  ((jx_in (7 * a1)) ∧
  ((jx_in ((7 * a1) + 1)) ∧
  ((0 < 1) ∧
  ((jx_in (7 * a1)) ∧
  ((1 = 1 ∧ 0 ≤ (7 * a1) ∧ (7 * a1) < 42) ∧
  ((0 < 1) ∧
  ((0 < 1) ∧
  ((jx_in (7 * a2)) ∧
  ((jx_in ((7 * a2) + 1)) ∧
  ((0 < 1) ∧
  ((jx_in (7 * a2)) ∧
  ((1 = 1 ∧ 0 ≤ (7 * a2) ∧ (7 * a2) < 42) ∧
  ((0 < 1) ∧
  jx_Cl 150 [xA 30 0, xI ((7 * a1) + 1), xI (m 30 0 ((7 * a1).toNat)), xA 30 0, xI ((7 * a2) + 1), xI (m 30 0 ((7 * a2).toNat))] m (fun z1 m1 =>
      Q z1 m1)))))))))))))))) :
    jx_Cl 149 [xA 26 0, xI a1, xI a2] m Q :=
  jx_segOk (x := 149) (cd := jx_c149) rfl (stops := []) 29 hv
set_option maxRecDepth 100000 in
theorem sg_151 (a1 : Int) (m : jx_M) (Q : Int → jx_M → Prop) (hv :
    jx_Cl 125 [xL a1, xL 0, xL 20] m (fun z1 m1 =>
      ((z1 = 0 →
        Q (-1) m1) ∧
        (¬ (z1 = 0) →
        ((0 < 1) ∧
  ((0 < 1) ∧
  Q (m1 26 0 5) (jx_up m1 26 0 5 a1))))))) :
    jx_Cl 151 [xA 26 0, xI a1] m Q :=
  jx_segOk (x := 151) (cd := jx_c151) rfl (stops := []) 15 hv
set_option maxRecDepth 100000 in
theorem sg_152 (a1 : Int) (a2 : Int) (m : jx_M) (Q : Int → jx_M → Prop) (hv :
    jx_Cl 125 [xL a1, xL 0, xL 3] m (fun z1 m1 =>
      ((z1 = 0 →
        Q (-1) m1) ∧
        (¬ (z1 = 0) →
        ((0 < 1) ∧
  ((a2 = 0 →
          ((0 < 1) ∧
  ((0 < 1) ∧
  Q (jx_iand (jx_ishr (m1 26 0 6) a1) 1) (jx_up m1 26 0 6 (jx_iand (m1 26 0 6) (jx_ixor (jx_ishl 1 a1) (-1))))))) ∧
          (¬ (a2 = 0) →
          ((0 < 1) ∧
  ((0 < 1) ∧
  Q (jx_iand (jx_ishr (m1 26 0 6) a1) 1) (jx_up m1 26 0 6 (jx_ior (m1 26 0 6) (jx_ishl 1 a1)))))))))))) :
    jx_Cl 152 [xA 26 0, xI a1, xI a2] m Q :=
  jx_segOk (x := 152) (cd := jx_c152) rfl (stops := []) 28 hv
set_option maxRecDepth 100000 in
theorem sg_153 (a1 : Int) (m : jx_M) (Q : Int → jx_M → Prop) (hv :
    ((a1 = 0 →
      ((0 < 1) ∧
  Q (m 26 0 1) m)) ∧
      (¬ (a1 = 0) →
      ((a1 = 1 →
        ((0 < 1) ∧
  Q (m 26 0 7) m)) ∧
        (¬ (a1 = 1) →
        ((a1 = 2 →
          ((0 < 1) ∧
  Q (m 26 0 9) m)) ∧
          (¬ (a1 = 2) →
          ((a1 = 3 →
            ((0 < 1) ∧
  jx_Cl 154 [xI (m 26 0 6)] m (fun z1 m1 =>
              Q z1 m1))) ∧
            (¬ (a1 = 3) →
            Q (-1) m))))))))) :
    jx_Cl 153 [xA 26 0, xI a1] m Q :=
  jx_segOk (x := 153) (cd := jx_c153) rfl (stops := []) 17 hv
set_option maxRecDepth 100000 in
theorem sg_154 (a1 : Int) (m : jx_M) (Q : Int → jx_M → Prop) (hv :
    jx_AW 154 4 [some (xI a1), some (xI 0), some (xI a1)] [] m Q) :
    jx_Cl 154 [xI a1] m Q :=
  jx_segOk (x := 154) (cd := jx_c154) rfl (stops := [4]) 5 hv
set_option maxRecDepth 100000 in
theorem sg_155 (a1 : Int) (a2 : Int) (a3 : Int) (a4 : Int) (m : jx_M) (Q : Int → jx_M → Prop) (hv :
    jx_Cl 124 [xI a1] m (fun z1 m1 =>
      ((z1 = 0 →
        Q (-1) m1) ∧
        (¬ (z1 = 0) →
        jx_Cl 125 [xL a2, xL 0, xL 3] m1 (fun z2 m2 =>
          ((z2 = 0 →
            Q (-1) m2) ∧
            (¬ (z2 = 0) →
            jx_Cl 125 [xL a3, xL 0, xL 5] m2 (fun z3 m3 =>
              ((z3 = 0 →
                Q (-1) m3) ∧
                (¬ (z3 = 0) →
                jx_Cl 125 [xL a4, xL 0, xL 20] m3 (fun z4 m4 =>
                  ((z4 = 0 →
                    Q (-1) m4) ∧
                    (¬ (z4 = 0) →
                    ((0 < 1) ∧
  (((m4 26 0 7) = 12 →
                      Q (-3) m4) ∧
                      (¬ ((m4 26 0 7) = 12) →
                      ((0 < 1) ∧
  ((0 < 1) ∧
  ((jx_in (4 * (m4 26 0 7))) ∧
  ((1 = 1 ∧ 0 ≤ (4 * (m4 26 0 7)) ∧ (4 * (m4 26 0 7)) < 48) ∧
  ((0 < 1) ∧
  ((0 < 1) ∧
  ((0 < 1) ∧
  ((jx_in (4 * ((jx_up m4 31 0 ((4 * (m4 26 0 7)).toNat) a1) 26 0 7))) ∧
  ((jx_in ((4 * ((jx_up m4 31 0 ((4 * (m4 26 0 7)).toNat) a1) 26 0 7)) + 1)) ∧
  ((1 = 1 ∧ 0 ≤ ((4 * ((jx_up m4 31 0 ((4 * (m4 26 0 7)).toNat) a1) 26 0 7)) + 1) ∧ ((4 * ((jx_up m4 31 0 ((4 * (m4 26 0 7)).toNat) a1) 26 0 7)) + 1) < 48) ∧
  ((0 < 1) ∧
  ((0 < 1) ∧
  ((0 < 1) ∧
  ((jx_in (4 * ((jx_up (jx_up m4 31 0 ((4 * (m4 26 0 7)).toNat) a1) 31 0 (((4 * ((jx_up m4 31 0 ((4 * (m4 26 0 7)).toNat) a1) 26 0 7)) + 1).toNat) a2) 26 0 7))) ∧
  ((jx_in ((4 * ((jx_up (jx_up m4 31 0 ((4 * (m4 26 0 7)).toNat) a1) 31 0 (((4 * ((jx_up m4 31 0 ((4 * (m4 26 0 7)).toNat) a1) 26 0 7)) + 1).toNat) a2) 26 0 7)) + 2)) ∧
  ((1 = 1 ∧ 0 ≤ ((4 * ((jx_up (jx_up m4 31 0 ((4 * (m4 26 0 7)).toNat) a1) 31 0 (((4 * ((jx_up m4 31 0 ((4 * (m4 26 0 7)).toNat) a1) 26 0 7)) + 1).toNat) a2) 26 0 7)) + 2) ∧ ((4 * ((jx_up (jx_up m4 31 0 ((4 * (m4 26 0 7)).toNat) a1) 31 0 (((4 * ((jx_up m4 31 0 ((4 * (m4 26 0 7)).toNat) a1) 26 0 7)) + 1).toNat) a2) 26 0 7)) + 2) < 48) ∧
  ((0 < 1) ∧
  ((0 < 1) ∧
  ((0 < 1) ∧
  ((jx_in (4 * ((jx_up (jx_up (jx_up m4 31 0 ((4 * (m4 26 0 7)).toNat) a1) 31 0 (((4 * ((jx_up m4 31 0 ((4 * (m4 26 0 7)).toNat) a1) 26 0 7)) + 1).toNat) a2) 31 0 (((4 * ((jx_up (jx_up m4 31 0 ((4 * (m4 26 0 7)).toNat) a1) 31 0 (((4 * ((jx_up m4 31 0 ((4 * (m4 26 0 7)).toNat) a1) 26 0 7)) + 1).toNat) a2) 26 0 7)) + 2).toNat) a3) 26 0 7))) ∧
  ((jx_in ((4 * ((jx_up (jx_up (jx_up m4 31 0 ((4 * (m4 26 0 7)).toNat) a1) 31 0 (((4 * ((jx_up m4 31 0 ((4 * (m4 26 0 7)).toNat) a1) 26 0 7)) + 1).toNat) a2) 31 0 (((4 * ((jx_up (jx_up m4 31 0 ((4 * (m4 26 0 7)).toNat) a1) 31 0 (((4 * ((jx_up m4 31 0 ((4 * (m4 26 0 7)).toNat) a1) 26 0 7)) + 1).toNat) a2) 26 0 7)) + 2).toNat) a3) 26 0 7)) + 3)) ∧
  ((1 = 1 ∧ 0 ≤ ((4 * ((jx_up (jx_up (jx_up m4 31 0 ((4 * (m4 26 0 7)).toNat) a1) 31 0 (((4 * ((jx_up m4 31 0 ((4 * (m4 26 0 7)).toNat) a1) 26 0 7)) + 1).toNat) a2) 31 0 (((4 * ((jx_up (jx_up m4 31 0 ((4 * (m4 26 0 7)).toNat) a1) 31 0 (((4 * ((jx_up m4 31 0 ((4 * (m4 26 0 7)).toNat) a1) 26 0 7)) + 1).toNat) a2) 26 0 7)) + 2).toNat) a3) 26 0 7)) + 3) ∧ ((4 * ((jx_up (jx_up (jx_up m4 31 0 ((4 * (m4 26 0 7)).toNat) a1) 31 0 (((4 * ((jx_up m4 31 0 ((4 * (m4 26 0 7)).toNat) a1) 26 0 7)) + 1).toNat) a2) 31 0 (((4 * ((jx_up (jx_up m4 31 0 ((4 * (m4 26 0 7)).toNat) a1) 31 0 (((4 * ((jx_up m4 31 0 ((4 * (m4 26 0 7)).toNat) a1) 26 0 7)) + 1).toNat) a2) 26 0 7)) + 2).toNat) a3) 26 0 7)) + 3) < 48) ∧
  ((0 < 1) ∧
  ((0 < 1) ∧
  ((jx_in (((jx_up (jx_up (jx_up (jx_up m4 31 0 ((4 * (m4 26 0 7)).toNat) a1) 31 0 (((4 * ((jx_up m4 31 0 ((4 * (m4 26 0 7)).toNat) a1) 26 0 7)) + 1).toNat) a2) 31 0 (((4 * ((jx_up (jx_up m4 31 0 ((4 * (m4 26 0 7)).toNat) a1) 31 0 (((4 * ((jx_up m4 31 0 ((4 * (m4 26 0 7)).toNat) a1) 26 0 7)) + 1).toNat) a2) 26 0 7)) + 2).toNat) a3) 31 0 (((4 * ((jx_up (jx_up (jx_up m4 31 0 ((4 * (m4 26 0 7)).toNat) a1) 31 0 (((4 * ((jx_up m4 31 0 ((4 * (m4 26 0 7)).toNat) a1) 26 0 7)) + 1).toNat) a2) 31 0 (((4 * ((jx_up (jx_up m4 31 0 ((4 * (m4 26 0 7)).toNat) a1) 31 0 (((4 * ((jx_up m4 31 0 ((4 * (m4 26 0 7)).toNat) a1) 26 0 7)) + 1).toNat) a2) 26 0 7)) + 2).toNat) a3) 26 0 7)) + 3).toNat) a4) 26 0 7) + 1)) ∧
  ((0 < 1) ∧
  ((0 < 1) ∧
  ((jx_in (((jx_up (jx_up (jx_up (jx_up (jx_up m4 31 0 ((4 * (m4 26 0 7)).toNat) a1) 31 0 (((4 * ((jx_up m4 31 0 ((4 * (m4 26 0 7)).toNat) a1) 26 0 7)) + 1).toNat) a2) 31 0 (((4 * ((jx_up (jx_up m4 31 0 ((4 * (m4 26 0 7)).toNat) a1) 31 0 (((4 * ((jx_up m4 31 0 ((4 * (m4 26 0 7)).toNat) a1) 26 0 7)) + 1).toNat) a2) 26 0 7)) + 2).toNat) a3) 31 0 (((4 * ((jx_up (jx_up (jx_up m4 31 0 ((4 * (m4 26 0 7)).toNat) a1) 31 0 (((4 * ((jx_up m4 31 0 ((4 * (m4 26 0 7)).toNat) a1) 26 0 7)) + 1).toNat) a2) 31 0 (((4 * ((jx_up (jx_up m4 31 0 ((4 * (m4 26 0 7)).toNat) a1) 31 0 (((4 * ((jx_up m4 31 0 ((4 * (m4 26 0 7)).toNat) a1) 26 0 7)) + 1).toNat) a2) 26 0 7)) + 2).toNat) a3) 26 0 7)) + 3).toNat) a4) 26 0 7 (((jx_up (jx_up (jx_up (jx_up m4 31 0 ((4 * (m4 26 0 7)).toNat) a1) 31 0 (((4 * ((jx_up m4 31 0 ((4 * (m4 26 0 7)).toNat) a1) 26 0 7)) + 1).toNat) a2) 31 0 (((4 * ((jx_up (jx_up m4 31 0 ((4 * (m4 26 0 7)).toNat) a1) 31 0 (((4 * ((jx_up m4 31 0 ((4 * (m4 26 0 7)).toNat) a1) 26 0 7)) + 1).toNat) a2) 26 0 7)) + 2).toNat) a3) 31 0 (((4 * ((jx_up (jx_up (jx_up m4 31 0 ((4 * (m4 26 0 7)).toNat) a1) 31 0 (((4 * ((jx_up m4 31 0 ((4 * (m4 26 0 7)).toNat) a1) 26 0 7)) + 1).toNat) a2) 31 0 (((4 * ((jx_up (jx_up m4 31 0 ((4 * (m4 26 0 7)).toNat) a1) 31 0 (((4 * ((jx_up m4 31 0 ((4 * (m4 26 0 7)).toNat) a1) 26 0 7)) + 1).toNat) a2) 26 0 7)) + 2).toNat) a3) 26 0 7)) + 3).toNat) a4) 26 0 7) + 1)) 26 0 7) - 1)) ∧
  Q (((jx_up (jx_up (jx_up (jx_up (jx_up m4 31 0 ((4 * (m4 26 0 7)).toNat) a1) 31 0 (((4 * ((jx_up m4 31 0 ((4 * (m4 26 0 7)).toNat) a1) 26 0 7)) + 1).toNat) a2) 31 0 (((4 * ((jx_up (jx_up m4 31 0 ((4 * (m4 26 0 7)).toNat) a1) 31 0 (((4 * ((jx_up m4 31 0 ((4 * (m4 26 0 7)).toNat) a1) 26 0 7)) + 1).toNat) a2) 26 0 7)) + 2).toNat) a3) 31 0 (((4 * ((jx_up (jx_up (jx_up m4 31 0 ((4 * (m4 26 0 7)).toNat) a1) 31 0 (((4 * ((jx_up m4 31 0 ((4 * (m4 26 0 7)).toNat) a1) 26 0 7)) + 1).toNat) a2) 31 0 (((4 * ((jx_up (jx_up m4 31 0 ((4 * (m4 26 0 7)).toNat) a1) 31 0 (((4 * ((jx_up m4 31 0 ((4 * (m4 26 0 7)).toNat) a1) 26 0 7)) + 1).toNat) a2) 26 0 7)) + 2).toNat) a3) 26 0 7)) + 3).toNat) a4) 26 0 7 (((jx_up (jx_up (jx_up (jx_up m4 31 0 ((4 * (m4 26 0 7)).toNat) a1) 31 0 (((4 * ((jx_up m4 31 0 ((4 * (m4 26 0 7)).toNat) a1) 26 0 7)) + 1).toNat) a2) 31 0 (((4 * ((jx_up (jx_up m4 31 0 ((4 * (m4 26 0 7)).toNat) a1) 31 0 (((4 * ((jx_up m4 31 0 ((4 * (m4 26 0 7)).toNat) a1) 26 0 7)) + 1).toNat) a2) 26 0 7)) + 2).toNat) a3) 31 0 (((4 * ((jx_up (jx_up (jx_up m4 31 0 ((4 * (m4 26 0 7)).toNat) a1) 31 0 (((4 * ((jx_up m4 31 0 ((4 * (m4 26 0 7)).toNat) a1) 26 0 7)) + 1).toNat) a2) 31 0 (((4 * ((jx_up (jx_up m4 31 0 ((4 * (m4 26 0 7)).toNat) a1) 31 0 (((4 * ((jx_up m4 31 0 ((4 * (m4 26 0 7)).toNat) a1) 26 0 7)) + 1).toNat) a2) 26 0 7)) + 2).toNat) a3) 26 0 7)) + 3).toNat) a4) 26 0 7) + 1)) 26 0 7) - 1) (jx_up (jx_up (jx_up (jx_up (jx_up m4 31 0 ((4 * (m4 26 0 7)).toNat) a1) 31 0 (((4 * ((jx_up m4 31 0 ((4 * (m4 26 0 7)).toNat) a1) 26 0 7)) + 1).toNat) a2) 31 0 (((4 * ((jx_up (jx_up m4 31 0 ((4 * (m4 26 0 7)).toNat) a1) 31 0 (((4 * ((jx_up m4 31 0 ((4 * (m4 26 0 7)).toNat) a1) 26 0 7)) + 1).toNat) a2) 26 0 7)) + 2).toNat) a3) 31 0 (((4 * ((jx_up (jx_up (jx_up m4 31 0 ((4 * (m4 26 0 7)).toNat) a1) 31 0 (((4 * ((jx_up m4 31 0 ((4 * (m4 26 0 7)).toNat) a1) 26 0 7)) + 1).toNat) a2) 31 0 (((4 * ((jx_up (jx_up m4 31 0 ((4 * (m4 26 0 7)).toNat) a1) 31 0 (((4 * ((jx_up m4 31 0 ((4 * (m4 26 0 7)).toNat) a1) 26 0 7)) + 1).toNat) a2) 26 0 7)) + 2).toNat) a3) 26 0 7)) + 3).toNat) a4) 26 0 7 (((jx_up (jx_up (jx_up (jx_up m4 31 0 ((4 * (m4 26 0 7)).toNat) a1) 31 0 (((4 * ((jx_up m4 31 0 ((4 * (m4 26 0 7)).toNat) a1) 26 0 7)) + 1).toNat) a2) 31 0 (((4 * ((jx_up (jx_up m4 31 0 ((4 * (m4 26 0 7)).toNat) a1) 31 0 (((4 * ((jx_up m4 31 0 ((4 * (m4 26 0 7)).toNat) a1) 26 0 7)) + 1).toNat) a2) 26 0 7)) + 2).toNat) a3) 31 0 (((4 * ((jx_up (jx_up (jx_up m4 31 0 ((4 * (m4 26 0 7)).toNat) a1) 31 0 (((4 * ((jx_up m4 31 0 ((4 * (m4 26 0 7)).toNat) a1) 26 0 7)) + 1).toNat) a2) 31 0 (((4 * ((jx_up (jx_up m4 31 0 ((4 * (m4 26 0 7)).toNat) a1) 31 0 (((4 * ((jx_up m4 31 0 ((4 * (m4 26 0 7)).toNat) a1) 26 0 7)) + 1).toNat) a2) 26 0 7)) + 2).toNat) a3) 26 0 7)) + 3).toNat) a4) 26 0 7) + 1)))))))))))))))))))))))))))))))))))))))))))))) :
    jx_Cl 155 [xA 26 0, xI a1, xI a2, xI a3, xI a4] m Q :=
  jx_segOk (x := 155) (cd := jx_c155) rfl (stops := []) 75 hv
set_option maxRecDepth 100000 in
theorem sg_156 (a1 : Int) (a2 : Int) (m : jx_M) (Q : Int → jx_M → Prop) (hv :
    ((0 < 1) ∧
  ((jx_in ((m 26 0 7) - 1)) ∧
  jx_Cl 125 [xL a1, xL 0, xL ((m 26 0 7) - 1)] m (fun z1 m1 =>
      ((z1 = 0 →
        Q (-1) m1) ∧
        (¬ (z1 = 0) →
        jx_Cl 125 [xL a2, xL 0, xL 2] m1 (fun z2 m2 =>
          ((z2 = 0 →
            Q (-1) m2) ∧
            (¬ (z2 = 0) →
            ((0 < 1) ∧
  jx_Cl 157 [xA 26 0] m2 (fun _ m3 =>
              ((a2 = 0 →
                ((0 < 1) ∧
  ((1 = 1 ∧ 0 ≤ a1 ∧ a1 < 12) ∧
  ((0 < 1) ∧
  Q (m3 36 0 (a1.toNat)) m3)))) ∧
                (¬ (a2 = 0) →
                ((a2 = 1 →
                  ((0 < 1) ∧
  ((1 = 1 ∧ 0 ≤ a1 ∧ a1 < 12) ∧
  ((0 < 1) ∧
  Q (m3 37 0 (a1.toNat)) m3)))) ∧
                  (¬ (a2 = 1) →
                  ((0 < 1) ∧
  ((1 = 1 ∧ 0 ≤ a1 ∧ a1 < 12) ∧
  ((0 < 1) ∧
  Q (m3 38 0 (a1.toNat)) m3)))))))))))))))))) :
    jx_Cl 156 [xA 26 0, xI a1, xI a2] m Q :=
  jx_segOk (x := 156) (cd := jx_c156) rfl (stops := []) 30 hv
set_option maxRecDepth 100000 in
theorem sg_157  (m : jx_M) (Q : Int → jx_M → Prop) (hv :
    jx_AW 157 2 [some (xA 26 0), some (xI 0), none, none, none, none] [] m Q) :
    jx_Cl 157 [xA 26 0] m Q :=
  jx_segOk (x := 157) (cd := jx_c157) rfl (stops := [2, 30, 35]) 3 hv
set_option maxRecDepth 100000 in
theorem sg_158 (a1 : Int) (a2 : Int) (a3 : Int) (m : jx_M) (Q : Int → jx_M → Prop) (hv :
    ((0 < 1) ∧
  ((jx_in ((m 26 0 1) - 1)) ∧
  jx_AW 158 7 [some (xA 26 0), some (xI a1), some (xI a2), some (xI a3), some (xI (-4)), some (xI ((m 26 0 1) - 1))] [] m Q))) :
    jx_Cl 158 [xA 26 0, xI a1, xI a2, xI a3] m Q :=
  jx_segOk (x := 158) (cd := jx_c158) rfl (stops := [7]) 8 hv
set_option maxRecDepth 100000 in
theorem sg_159 (a1 : Int) (a2 : Int) (m : jx_M) (Q : Int → jx_M → Prop) (hv :
    jx_AW 159 4 [some (xA 26 0), some (xI a1), some (xI a2), some (xI 0), some (xI 0), none] [] m Q) :
    jx_Cl 159 [xA 26 0, xI a1, xI a2] m Q :=
  jx_segOk (x := 159) (cd := jx_c159) rfl (stops := [4, 23]) 5 hv
set_option maxRecDepth 100000 in
theorem sg_160 (a1 : Int) (m : jx_M) (Q : Int → jx_M → Prop) (hv :
    ((0 < 1) ∧
  jx_Cl 130 [xA 26 0, xI a1] m (fun z1 m1 =>
      ((z1 = 0 →
        Q (-1) m1) ∧
        (¬ (z1 = 0) →
        ((0 < 1) ∧
  jx_Cl 161 [xA 26 0, xI a1] m1 (fun z2 m2 =>
          Q z2 m2))))))) :
    jx_Cl 160 [xA 26 0, xI a1] m Q :=
  jx_segOk (x := 160) (cd := jx_c160) rfl (stops := []) 10 hv
set_option maxRecDepth 100000 in
theorem sg_161 (a1 : Int) (m : jx_M) (Q : Int → jx_M → Prop) (hv :
    ((0 < 1) ∧
  jx_Cl 157 [xA 26 0] m (fun _ m1 =>
      jx_AW 161 6 [some (xA 26 0), some (xI a1), some (xI 0), some (xI 0)] [] m1 Q))) :
    jx_Cl 161 [xA 26 0, xI a1] m Q :=
  jx_segOk (x := 161) (cd := jx_c161) rfl (stops := [6]) 7 hv
set_option maxRecDepth 100000 in
theorem sg_162 (a1 : Int) (m : jx_M) (Q : Int → jx_M → Prop) (hv :
    jx_Cl 125 [xL a1, xL 0, xL 2] m (fun z1 m1 =>
      ((z1 = 0 →
        Q (-1) m1) ∧
        (¬ (z1 = 0) →
        ((0 < 1) ∧
  jx_Cl 157 [xA 26 0] m1 (fun _ m2 =>
          jx_AW 162 16 [some (xA 26 0), some (xI a1), some (xI 0), some (xI 0), some (xI 0), none, none] [] m2 Q)))))) :
    jx_Cl 162 [xA 26 0, xI a1] m Q :=
  jx_segOk (x := 162) (cd := jx_c162) rfl (stops := [16, 44, 49]) 15 hv
set_option maxRecDepth 100000 in
theorem sg_163 (a1 : Int) (a2 : Int) (m : jx_M) (Q : Int → jx_M → Prop) (hv :
    ((0 < 1) ∧
  jx_Cl 130 [xA 26 0, xI a1] m (fun z1 m1 =>
      ((z1 = 0 →
        Q (-1) m1) ∧
        (¬ (z1 = 0) →
        jx_Cl 125 [xL a2, xL 0, xL 2] m1 (fun z2 m2 =>
          ((z2 = 0 →
            Q (-1) m2) ∧
            (¬ (z2 = 0) →
            ((0 < 1) ∧
  ((jx_in (4 * a1)) ∧
  ((jx_in ((4 * a1) + 2)) ∧
  ((1 = 1 ∧ 0 ≤ ((4 * a1) + 2) ∧ ((4 * a1) + 2) < 24) ∧
  ((0 < 1) ∧
  jx_AW 163 27 [some (xA 26 0), some (xI a1), some (xI a2), some (xI (m2 28 0 (((4 * a1) + 2).toNat))), some (xI 0), some (xI (-1)), some (xI 0), none] [] m2 Q))))))))))))) :
    jx_Cl 163 [xA 26 0, xI a1, xI a2] m Q :=
  jx_segOk (x := 163) (cd := jx_c163) rfl (stops := [27]) 26 hv
set_option maxRecDepth 100000 in
theorem sg_164 (a1 : Int) (a2 : Int) (a3 : Int) (m : jx_M) (Q : Int → jx_M → Prop) (hv :
    ((0 < 1) ∧
  jx_Cl 130 [xA 26 0, xI a1] m (fun z1 m1 =>
      ((z1 = 0 →
        Q (-1) m1) ∧
        (¬ (z1 = 0) →
        ((0 < 1) ∧
  jx_Cl 130 [xA 26 0, xI a2] m1 (fun z2 m2 =>
          ((z2 = 0 →
            Q (-1) m2) ∧
            (¬ (z2 = 0) →
            ((a1 = a2 →
              Q (-1) m2) ∧
              (¬ (a1 = a2) →
              jx_Cl 125 [xL a3, xL 0, xL 2] m2 (fun z3 m3 =>
                ((z3 = 0 →
                  Q (-1) m3) ∧
                  (¬ (z3 = 0) →
                  ((0 < 1) ∧
  ((jx_in (4 * a1)) ∧
  ((jx_in ((4 * a1) + 2)) ∧
  ((1 = 1 ∧ 0 ≤ ((4 * a1) + 2) ∧ ((4 * a1) + 2) < 24) ∧
  ((0 < 1) ∧
  ((0 < 1) ∧
  ((jx_in (4 * a2)) ∧
  ((jx_in ((4 * a2) + 2)) ∧
  ((1 = 1 ∧ 0 ≤ ((4 * a2) + 2) ∧ ((4 * a2) + 2) < 24) ∧
  ((0 < 1) ∧
  jx_AW 164 39 [some (xA 26 0), some (xI a1), some (xI a2), some (xI a3), some (xI (m3 28 0 (((4 * a1) + 2).toNat))), some (xI (m3 28 0 (((4 * a2) + 2).toNat))), some (xI 0), none, none, none, none] [] m3 Q)))))))))))))))))))))))) :
    jx_Cl 164 [xA 26 0, xI a1, xI a2, xI a3] m Q :=
  jx_segOk (x := 164) (cd := jx_c164) rfl (stops := [39, 82, 130, 136]) 38 hv
set_option maxRecDepth 100000 in
theorem sg_165 (a1 : Int) (a2 : Int) (a3 : Int) (a4 : Int) (m : jx_M) (Q : Int → jx_M → Prop) (hv :
    jx_Cl 125 [xL a1, xL 1, xL 3] m (fun z1 m1 =>
      ((z1 = 0 →
        Q (-1) m1) ∧
        (¬ (z1 = 0) →
        jx_Cl 125 [xL a2, xL 1, xL 9] m1 (fun z2 m2 =>
          ((z2 = 0 →
            Q (-1) m2) ∧
            (¬ (z2 = 0) →
            jx_Cl 125 [xL a3, xL 0, xL 12] m2 (fun z3 m3 =>
              ((z3 = 0 →
                Q (-1) m3) ∧
                (¬ (z3 = 0) →
                ((jx_in (a1 - 1)) ∧
  jx_Cl 125 [xL a4, xL (-1), xL (a1 - 1)] m3 (fun z4 m4 =>
                  ((z4 = 0 →
                    Q (-1) m4) ∧
                    (¬ (z4 = 0) →
                    ((a1 = 1 →
                      jx_AW 165 47 [some (xA 26 0), some (xI a1), some (xI a2), some (xI a3), some (xI a4), some (xI (-4)), some (xI (-1)), some (xI 10), some (xI 0), none, none, none] [] m4 Q) ∧
                      (¬ (a1 = 1) →
                      ((a1 = 2 →
                        jx_AW 165 47 [some (xA 26 0), some (xI a1), some (xI a2), some (xI a3), some (xI a4), some (xI (-4)), some (xI (-1)), some (xI 100), some (xI 0), none, none, none] [] m4 Q) ∧
                        (¬ (a1 = 2) →
                        jx_AW 165 47 [some (xA 26 0), some (xI a1), some (xI a2), some (xI a3), some (xI a4), some (xI (-4)), some (xI (-1)), some (xI 1000), some (xI 0), none, none, none] [] m4 Q)))))))))))))))))) :
    jx_Cl 165 [xA 26 0, xI a1, xI a2, xI a3, xI a4] m Q :=
  jx_segOk (x := 165) (cd := jx_c165) rfl (stops := [47]) 43 hv
set_option maxRecDepth 100000 in
theorem sg_166 (a1 : Int) (a2 : Int) (m : jx_M) (Q : Int → jx_M → Prop) (hv :
    ((jx_in (a2 - 1)) ∧
  jx_AW 166 6 [some (xA 26 0), some (xI a1), some (xI a2), some (xI a1), some (xI (a2 - 1))] [] m Q)) :
    jx_Cl 166 [xA 26 0, xI a1, xI a2] m Q :=
  jx_segOk (x := 166) (cd := jx_c166) rfl (stops := [6]) 7 hv
set_option maxRecDepth 100000 in
theorem sg_167 (a1 : Int) (m : jx_M) (Q : Int → jx_M → Prop) (hv :
    ((0 < 1) ∧
  jx_AW 167 7 [some (xA 26 0), some (xI a1), some (xI 0), some (xI 0), none, none] [] (jx_up m 26 0 25 (-4)) Q)) :
    jx_Cl 167 [xA 26 0, xI a1] m Q :=
  jx_segOk (x := 167) (cd := jx_c167) rfl (stops := [7]) 8 hv
set_option maxRecDepth 100000 in
theorem sg_168 (a1 : Int) (m : jx_M) (Q : Int → jx_M → Prop) (hv :
    jx_Cl 124 [xI a1] m (fun z1 m1 =>
      ((z1 = 0 →
        Q (-1) m1) ∧
        (¬ (z1 = 0) →
        ((0 < 1) ∧
  jx_Cl 169 [xA 26 0, xI a1] m1 (fun z2 m2 =>
          Q z2 m2)))))) :
    jx_Cl 168 [xA 26 0, xI a1] m Q :=
  jx_segOk (x := 168) (cd := jx_c168) rfl (stops := []) 9 hv
set_option maxRecDepth 100000 in
theorem sg_169 (a1 : Int) (m : jx_M) (Q : Int → jx_M → Prop) (hv :
    jx_AW 169 4 [some (xA 26 0), some (xI a1), some (xI 0), some (xI 0), none] [] m Q) :
    jx_Cl 169 [xA 26 0, xI a1] m Q :=
  jx_segOk (x := 169) (cd := jx_c169) rfl (stops := [4, 9]) 5 hv
set_option maxRecDepth 100000 in
theorem sg_170 (a1 : Int) (a2 : Int) (m : jx_M) (Q : Int → jx_M → Prop) (hv :
    jx_Cl 124 [xI a1] m (fun z1 m1 =>
      ((z1 = 0 →
        Q (-1) m1) ∧
        (¬ (z1 = 0) →
        jx_Cl 125 [xL a2, xL 0, xL 999] m1 (fun z2 m2 =>
          ((z2 = 0 →
            Q (-1) m2) ∧
            (¬ (z2 = 0) →
            ((0 < 1) ∧
  jx_AW 170 18 [some (xA 26 0), some (xI a1), some (xI a2), some (xI (m2 26 0 6)), some (xI (-4)), some (xI 0), none] [] m2 Q)))))))) :
    jx_Cl 170 [xA 26 0, xI a1, xI a2] m Q :=
  jx_segOk (x := 170) (cd := jx_c170) rfl (stops := [18]) 17 hv
set_option maxRecDepth 100000 in
theorem sg_171 (a1 : Int) (a2 : Int) (m : jx_M) (Q : Int → jx_M → Prop) (hv :
    jx_Cl 125 [xL a1, xL 0, xL 3] m (fun z1 m1 =>
      ((z1 = 0 →
        Q (-100001) m1) ∧
        (¬ (z1 = 0) →
        ((0 < 1) ∧
  jx_Cl 130 [xA 26 0, xI a2] m1 (fun z2 m2 =>
          ((z2 = 0 →
            Q (-100001) m2) ∧
            (¬ (z2 = 0) →
            ((0 < 1) ∧
  ((0 < 1) ∧
  jx_Cl 161 [xA 26 0, xI a2] m2 (fun z3 m3 =>
              ((0 < 1) ∧
  ((0 < 1) ∧
  ((0 < 1) ∧
  jx_Cl 161 [xA 26 0, xI a2] (jx_up m3 26 0 6 (jx_ior (m3 26 0 6) (jx_ishl 1 a1))) (fun z4 m4 =>
                ((0 < 1) ∧
  ((jx_in (z3 - z4)) ∧
  Q (z3 - z4) (jx_up m4 26 0 6 (m2 26 0 6))))))))))))))))))) :
    jx_Cl 171 [xA 26 0, xI a1, xI a2] m Q :=
  jx_segOk (x := 171) (cd := jx_c171) rfl (stops := []) 37 hv
set_option maxRecDepth 100000 in
theorem sg_172 (a1 : Int) (a2 : Int) (a3 : Int) (m : jx_M) (Q : Int → jx_M → Prop) (hv :
    jx_Cl 124 [xI a1] m (fun z1 m1 =>
      ((z1 = 0 →
        Q (-1) m1) ∧
        (¬ (z1 = 0) →
        jx_Cl 128 [xI a2] m1 (fun z2 m2 =>
          ((z2 = 0 →
            Q (-1) m2) ∧
            (¬ (z2 = 0) →
            ((0 < 1) ∧
  (((m2 26 0 9) = 12 →
              Q (-3) m2) ∧
              (¬ ((m2 26 0 9) = 12) →
              ((0 < 1) ∧
  ((0 < 1) ∧
  ((jx_in (3 * (m2 26 0 9))) ∧
  ((1 = 1 ∧ 0 ≤ (3 * (m2 26 0 9)) ∧ (3 * (m2 26 0 9)) < 36) ∧
  ((0 < 1) ∧
  ((0 < 1) ∧
  ((0 < 1) ∧
  ((jx_in (3 * ((jx_up m2 32 0 ((3 * (m2 26 0 9)).toNat) a1) 26 0 9))) ∧
  ((jx_in ((3 * ((jx_up m2 32 0 ((3 * (m2 26 0 9)).toNat) a1) 26 0 9)) + 1)) ∧
  ((1 = 1 ∧ 0 ≤ ((3 * ((jx_up m2 32 0 ((3 * (m2 26 0 9)).toNat) a1) 26 0 9)) + 1) ∧ ((3 * ((jx_up m2 32 0 ((3 * (m2 26 0 9)).toNat) a1) 26 0 9)) + 1) < 36) ∧
  ((0 < 1) ∧
  ((0 < 1) ∧
  ((0 < 1) ∧
  ((jx_in (3 * ((jx_up (jx_up m2 32 0 ((3 * (m2 26 0 9)).toNat) a1) 32 0 (((3 * ((jx_up m2 32 0 ((3 * (m2 26 0 9)).toNat) a1) 26 0 9)) + 1).toNat) a2) 26 0 9))) ∧
  ((jx_in ((3 * ((jx_up (jx_up m2 32 0 ((3 * (m2 26 0 9)).toNat) a1) 32 0 (((3 * ((jx_up m2 32 0 ((3 * (m2 26 0 9)).toNat) a1) 26 0 9)) + 1).toNat) a2) 26 0 9)) + 2)) ∧
  ((a3 = 0 →
                ((1 = 1 ∧ 0 ≤ ((3 * ((jx_up (jx_up m2 32 0 ((3 * (m2 26 0 9)).toNat) a1) 32 0 (((3 * ((jx_up m2 32 0 ((3 * (m2 26 0 9)).toNat) a1) 26 0 9)) + 1).toNat) a2) 26 0 9)) + 2) ∧ ((3 * ((jx_up (jx_up m2 32 0 ((3 * (m2 26 0 9)).toNat) a1) 32 0 (((3 * ((jx_up m2 32 0 ((3 * (m2 26 0 9)).toNat) a1) 26 0 9)) + 1).toNat) a2) 26 0 9)) + 2) < 36) ∧
  ((0 < 1) ∧
  ((0 < 1) ∧
  ((jx_in (((jx_up (jx_up (jx_up m2 32 0 ((3 * (m2 26 0 9)).toNat) a1) 32 0 (((3 * ((jx_up m2 32 0 ((3 * (m2 26 0 9)).toNat) a1) 26 0 9)) + 1).toNat) a2) 32 0 (((3 * ((jx_up (jx_up m2 32 0 ((3 * (m2 26 0 9)).toNat) a1) 32 0 (((3 * ((jx_up m2 32 0 ((3 * (m2 26 0 9)).toNat) a1) 26 0 9)) + 1).toNat) a2) 26 0 9)) + 2).toNat) 0) 26 0 9) + 1)) ∧
  ((0 < 1) ∧
  ((0 < 1) ∧
  Q ((jx_up (jx_up (jx_up (jx_up m2 32 0 ((3 * (m2 26 0 9)).toNat) a1) 32 0 (((3 * ((jx_up m2 32 0 ((3 * (m2 26 0 9)).toNat) a1) 26 0 9)) + 1).toNat) a2) 32 0 (((3 * ((jx_up (jx_up m2 32 0 ((3 * (m2 26 0 9)).toNat) a1) 32 0 (((3 * ((jx_up m2 32 0 ((3 * (m2 26 0 9)).toNat) a1) 26 0 9)) + 1).toNat) a2) 26 0 9)) + 2).toNat) 0) 26 0 9 (((jx_up (jx_up (jx_up m2 32 0 ((3 * (m2 26 0 9)).toNat) a1) 32 0 (((3 * ((jx_up m2 32 0 ((3 * (m2 26 0 9)).toNat) a1) 26 0 9)) + 1).toNat) a2) 32 0 (((3 * ((jx_up (jx_up m2 32 0 ((3 * (m2 26 0 9)).toNat) a1) 32 0 (((3 * ((jx_up m2 32 0 ((3 * (m2 26 0 9)).toNat) a1) 26 0 9)) + 1).toNat) a2) 26 0 9)) + 2).toNat) 0) 26 0 9) + 1)) 26 0 9) (jx_up (jx_up (jx_up (jx_up m2 32 0 ((3 * (m2 26 0 9)).toNat) a1) 32 0 (((3 * ((jx_up m2 32 0 ((3 * (m2 26 0 9)).toNat) a1) 26 0 9)) + 1).toNat) a2) 32 0 (((3 * ((jx_up (jx_up m2 32 0 ((3 * (m2 26 0 9)).toNat) a1) 32 0 (((3 * ((jx_up m2 32 0 ((3 * (m2 26 0 9)).toNat) a1) 26 0 9)) + 1).toNat) a2) 26 0 9)) + 2).toNat) 0) 26 0 9 (((jx_up (jx_up (jx_up m2 32 0 ((3 * (m2 26 0 9)).toNat) a1) 32 0 (((3 * ((jx_up m2 32 0 ((3 * (m2 26 0 9)).toNat) a1) 26 0 9)) + 1).toNat) a2) 32 0 (((3 * ((jx_up (jx_up m2 32 0 ((3 * (m2 26 0 9)).toNat) a1) 32 0 (((3 * ((jx_up m2 32 0 ((3 * (m2 26 0 9)).toNat) a1) 26 0 9)) + 1).toNat) a2) 26 0 9)) + 2).toNat) 0) 26 0 9) + 1))))))))) ∧
                (¬ (a3 = 0) →
                ((1 = 1 ∧ 0 ≤ ((3 * ((jx_up (jx_up m2 32 0 ((3 * (m2 26 0 9)).toNat) a1) 32 0 (((3 * ((jx_up m2 32 0 ((3 * (m2 26 0 9)).toNat) a1) 26 0 9)) + 1).toNat) a2) 26 0 9)) + 2) ∧ ((3 * ((jx_up (jx_up m2 32 0 ((3 * (m2 26 0 9)).toNat) a1) 32 0 (((3 * ((jx_up m2 32 0 ((3 * (m2 26 0 9)).toNat) a1) 26 0 9)) + 1).toNat) a2) 26 0 9)) + 2) < 36) ∧
  ((0 < 1) ∧
  ((0 < 1) ∧
  ((jx_in (((jx_up (jx_up (jx_up m2 32 0 ((3 * (m2 26 0 9)).toNat) a1) 32 0 (((3 * ((jx_up m2 32 0 ((3 * (m2 26 0 9)).toNat) a1) 26 0 9)) + 1).toNat) a2) 32 0 (((3 * ((jx_up (jx_up m2 32 0 ((3 * (m2 26 0 9)).toNat) a1) 32 0 (((3 * ((jx_up m2 32 0 ((3 * (m2 26 0 9)).toNat) a1) 26 0 9)) + 1).toNat) a2) 26 0 9)) + 2).toNat) 1) 26 0 9) + 1)) ∧
  ((0 < 1) ∧
  ((0 < 1) ∧
  Q ((jx_up (jx_up (jx_up (jx_up m2 32 0 ((3 * (m2 26 0 9)).toNat) a1) 32 0 (((3 * ((jx_up m2 32 0 ((3 * (m2 26 0 9)).toNat) a1) 26 0 9)) + 1).toNat) a2) 32 0 (((3 * ((jx_up (jx_up m2 32 0 ((3 * (m2 26 0 9)).toNat) a1) 32 0 (((3 * ((jx_up m2 32 0 ((3 * (m2 26 0 9)).toNat) a1) 26 0 9)) + 1).toNat) a2) 26 0 9)) + 2).toNat) 1) 26 0 9 (((jx_up (jx_up (jx_up m2 32 0 ((3 * (m2 26 0 9)).toNat) a1) 32 0 (((3 * ((jx_up m2 32 0 ((3 * (m2 26 0 9)).toNat) a1) 26 0 9)) + 1).toNat) a2) 32 0 (((3 * ((jx_up (jx_up m2 32 0 ((3 * (m2 26 0 9)).toNat) a1) 32 0 (((3 * ((jx_up m2 32 0 ((3 * (m2 26 0 9)).toNat) a1) 26 0 9)) + 1).toNat) a2) 26 0 9)) + 2).toNat) 1) 26 0 9) + 1)) 26 0 9) (jx_up (jx_up (jx_up (jx_up m2 32 0 ((3 * (m2 26 0 9)).toNat) a1) 32 0 (((3 * ((jx_up m2 32 0 ((3 * (m2 26 0 9)).toNat) a1) 26 0 9)) + 1).toNat) a2) 32 0 (((3 * ((jx_up (jx_up m2 32 0 ((3 * (m2 26 0 9)).toNat) a1) 32 0 (((3 * ((jx_up m2 32 0 ((3 * (m2 26 0 9)).toNat) a1) 26 0 9)) + 1).toNat) a2) 26 0 9)) + 2).toNat) 1) 26 0 9 (((jx_up (jx_up (jx_up m2 32 0 ((3 * (m2 26 0 9)).toNat) a1) 32 0 (((3 * ((jx_up m2 32 0 ((3 * (m2 26 0 9)).toNat) a1) 26 0 9)) + 1).toNat) a2) 32 0 (((3 * ((jx_up (jx_up m2 32 0 ((3 * (m2 26 0 9)).toNat) a1) 32 0 (((3 * ((jx_up m2 32 0 ((3 * (m2 26 0 9)).toNat) a1) 26 0 9)) + 1).toNat) a2) 26 0 9)) + 2).toNat) 1) 26 0 9) + 1))))))))))))))))))))))))))))))))))) :
    jx_Cl 172 [xA 26 0, xI a1, xI a2, xI a3] m Q :=
  jx_segOk (x := 172) (cd := jx_c172) rfl (stops := []) 51 hv
set_option maxRecDepth 100000 in
theorem sg_173 (a1 : Int) (a2 : Int) (m : jx_M) (Q : Int → jx_M → Prop) (hv :
    ((0 < 1) ∧
  jx_Cl 130 [xA 26 0, xI a1] m (fun z1 m1 =>
      ((z1 = 0 →
        Q (-1) m1) ∧
        (¬ (z1 = 0) →
        jx_Cl 125 [xL a2, xL 0, xL 2] m1 (fun z2 m2 =>
          ((z2 = 0 →
            Q (-1) m2) ∧
            (¬ (z2 = 0) →
            ((0 < 1) ∧
  ((jx_in (4 * a1)) ∧
  ((jx_in ((4 * a1) + 2)) ∧
  ((1 = 1 ∧ 0 ≤ ((4 * a1) + 2) ∧ ((4 * a1) + 2) < 24) ∧
  ((0 < 1) ∧
  ((0 < 1) ∧
  jx_AW 173 32 [some (xA 26 0), some (xI a1), some (xI a2), some (xI (m2 28 0 (((4 * a1) + 2).toNat))), some (xI 0), some (xI (-4)), some (xI (-4)), some (xI 0), none, none] [] (jx_up m2 26 0 17 a1) Q)))))))))))))) :
    jx_Cl 173 [xA 26 0, xI a1, xI a2] m Q :=
  jx_segOk (x := 173) (cd := jx_c173) rfl (stops := [32, 48]) 31 hv
set_option maxRecDepth 100000 in
theorem sg_174  (m : jx_M) (Q : Int → jx_M → Prop) (hv :
    ((0 < 1) ∧
  ((0 < 1) ∧
  Q (m 26 0 9) (jx_up m 26 0 9 0)))) :
    jx_Cl 174 [xA 26 0] m Q :=
  jx_segOk (x := 174) (cd := jx_c174) rfl (stops := []) 9 hv
set_option maxRecDepth 100000 in
theorem sg_175 (a1 : Int) (a2 : Int) (m : jx_M) (Q : Int → jx_M → Prop) (hv :
    ((0 < 1) ∧
  jx_Cl 130 [xA 26 0, xI a1] m (fun z1 m1 =>
      ((z1 = 0 →
        Q (-1) m1) ∧
        (¬ (z1 = 0) →
        jx_Cl 124 [xI a2] m1 (fun z2 m2 =>
          ((z2 = 0 →
            Q (-1) m2) ∧
            (¬ (z2 = 0) →
            ((0 < 1) ∧
  ((1 = 1 ∧ 0 ≤ a2 ∧ a2 < 25) ∧
  ((0 < 1) ∧
  jx_AW 175 18 [some (xA 26 0), some (xI a1), some (xI a2), some (xI (m2 27 0 (a2.toNat))), some (xI (-4)), some (xI 9)] [] m2 Q))))))))))) :
    jx_Cl 175 [xA 26 0, xI a1, xI a2] m Q :=
  jx_segOk (x := 175) (cd := jx_c175) rfl (stops := [18]) 17 hv
set_option maxRecDepth 100000 in
theorem sg_176 (a1 : Int) (a2 : Int) (m : jx_M) (Q : Int → jx_M → Prop) (hv :
    jx_AW 176 4 [some (xA 26 0), some (xI a1), some (xI a2), some (xI 0), some (xI 0)] [] m Q) :
    jx_Cl 176 [xA 26 0, xI a1, xI a2] m Q :=
  jx_segOk (x := 176) (cd := jx_c176) rfl (stops := [4]) 5 hv
set_option maxRecDepth 100000 in
theorem sg_177 (a1 : Int) (a2 : Int) (m : jx_M) (Q : Int → jx_M → Prop) (hv :
    ((0 < 1) ∧
  jx_Cl 130 [xA 26 0, xI a1] m (fun z1 m1 =>
      ((z1 = 0 →
        Q (-1) m1) ∧
        (¬ (z1 = 0) →
        jx_Cl 124 [xI a2] m1 (fun z2 m2 =>
          ((z2 = 0 →
            Q (-1) m2) ∧
            (¬ (z2 = 0) →
            ((0 < 1) ∧
  jx_Cl 176 [xA 26 0, xI a1, xI a2] m2 (fun z3 m3 =>
              Q z3 m3)))))))))) :
    jx_Cl 177 [xA 26 0, xI a1, xI a2] m Q :=
  jx_segOk (x := 177) (cd := jx_c177) rfl (stops := []) 14 hv
set_option maxRecDepth 100000 in
theorem sg_178  (m : jx_M) (Q : Int → jx_M → Prop) (hv :
    ((0 < 1) ∧
  ((0 < 1) ∧
  jx_Cl 179 [xA 27 0, xA 42 0, xI 0] m (fun z1 m1 =>
      ((0 < 1) ∧
  ((0 < 1) ∧
  jx_Cl 179 [xA 28 0, xA 42 0, xI z1] m1 (fun z2 m2 =>
        ((0 < 1) ∧
  ((0 < 1) ∧
  jx_Cl 179 [xA 29 0, xA 42 0, xI z2] m2 (fun z3 m3 =>
          ((0 < 1) ∧
  ((0 < 1) ∧
  jx_Cl 179 [xA 30 0, xA 42 0, xI z3] m3 (fun z4 m4 =>
            ((0 < 1) ∧
  ((0 < 1) ∧
  jx_Cl 179 [xA 31 0, xA 42 0, xI z4] m4 (fun z5 m5 =>
              ((0 < 1) ∧
  ((0 < 1) ∧
  jx_Cl 179 [xA 32 0, xA 42 0, xI z5] m5 (fun z6 m6 =>
                ((0 < 1) ∧
  ((0 < 1) ∧
  ((1 = 1 ∧ 0 ≤ z6 ∧ z6 < 300) ∧
  ((0 < 1) ∧
  ((0 < 1) ∧
  ((jx_in (z6 + 1)) ∧
  ((0 < 1) ∧
  ((1 = 1 ∧ 0 ≤ (z6 + 1) ∧ (z6 + 1) < 300) ∧
  ((0 < 1) ∧
  ((0 < 1) ∧
  ((jx_in (z6 + 2)) ∧
  ((0 < 1) ∧
  ((1 = 1 ∧ 0 ≤ (z6 + 2) ∧ (z6 + 2) < 300) ∧
  ((0 < 1) ∧
  ((0 < 1) ∧
  ((jx_in (z6 + 3)) ∧
  ((0 < 1) ∧
  ((1 = 1 ∧ 0 ≤ (z6 + 3) ∧ (z6 + 3) < 300) ∧
  ((0 < 1) ∧
  ((0 < 1) ∧
  ((jx_in (z6 + 4)) ∧
  ((0 < 1) ∧
  ((1 = 1 ∧ 0 ≤ (z6 + 4) ∧ (z6 + 4) < 300) ∧
  ((0 < 1) ∧
  ((0 < 1) ∧
  (((1 : Int) = 0 ∨ (1 : Int) = 1) ∧
  Q 1 (jx_up (jx_up (jx_up (jx_up (jx_up (jx_up m6 42 0 (z6.toNat) (m6 26 0 1)) 42 0 ((z6 + 1).toNat) ((jx_up m6 42 0 (z6.toNat) (m6 26 0 1)) 26 0 5)) 42 0 ((z6 + 2).toNat) ((jx_up (jx_up m6 42 0 (z6.toNat) (m6 26 0 1)) 42 0 ((z6 + 1).toNat) ((jx_up m6 42 0 (z6.toNat) (m6 26 0 1)) 26 0 5)) 26 0 6)) 42 0 ((z6 + 3).toNat) ((jx_up (jx_up (jx_up m6 42 0 (z6.toNat) (m6 26 0 1)) 42 0 ((z6 + 1).toNat) ((jx_up m6 42 0 (z6.toNat) (m6 26 0 1)) 26 0 5)) 42 0 ((z6 + 2).toNat) ((jx_up (jx_up m6 42 0 (z6.toNat) (m6 26 0 1)) 42 0 ((z6 + 1).toNat) ((jx_up m6 42 0 (z6.toNat) (m6 26 0 1)) 26 0 5)) 26 0 6)) 26 0 7)) 42 0 ((z6 + 4).toNat) ((jx_up (jx_up (jx_up (jx_up m6 42 0 (z6.toNat) (m6 26 0 1)) 42 0 ((z6 + 1).toNat) ((jx_up m6 42 0 (z6.toNat) (m6 26 0 1)) 26 0 5)) 42 0 ((z6 + 2).toNat) ((jx_up (jx_up m6 42 0 (z6.toNat) (m6 26 0 1)) 42 0 ((z6 + 1).toNat) ((jx_up m6 42 0 (z6.toNat) (m6 26 0 1)) 26 0 5)) 26 0 6)) 42 0 ((z6 + 3).toNat) ((jx_up (jx_up (jx_up m6 42 0 (z6.toNat) (m6 26 0 1)) 42 0 ((z6 + 1).toNat) ((jx_up m6 42 0 (z6.toNat) (m6 26 0 1)) 26 0 5)) 42 0 ((z6 + 2).toNat) ((jx_up (jx_up m6 42 0 (z6.toNat) (m6 26 0 1)) 42 0 ((z6 + 1).toNat) ((jx_up m6 42 0 (z6.toNat) (m6 26 0 1)) 26 0 5)) 26 0 6)) 26 0 7)) 26 0 9)) 26 0 27 1)))))))))))))))))))))))))))))))))))))))))))))) :
    jx_Cl 178 [xA 26 0] m Q :=
  jx_segOk (x := 178) (cd := jx_c178) rfl (stops := []) 86 hv
set_option maxRecDepth 100000 in
theorem sg_180  (m : jx_M) (Q : Int → jx_M → Prop) (hv :
    ((0 < 1) ∧
  (((m 26 0 27) = 0 →
      Q (-4) m) ∧
      (¬ ((m 26 0 27) = 0) →
      ((0 < 1) ∧
  ((0 < 1) ∧
  jx_Cl 181 [xA 42 0, xI 0, xA 27 0] m (fun z1 m1 =>
        ((0 < 1) ∧
  ((0 < 1) ∧
  jx_Cl 181 [xA 42 0, xI z1, xA 28 0] m1 (fun z2 m2 =>
          ((0 < 1) ∧
  ((0 < 1) ∧
  jx_Cl 181 [xA 42 0, xI z2, xA 29 0] m2 (fun z3 m3 =>
            ((0 < 1) ∧
  ((0 < 1) ∧
  jx_Cl 181 [xA 42 0, xI z3, xA 30 0] m3 (fun z4 m4 =>
              ((0 < 1) ∧
  ((0 < 1) ∧
  jx_Cl 181 [xA 42 0, xI z4, xA 31 0] m4 (fun z5 m5 =>
                ((0 < 1) ∧
  ((0 < 1) ∧
  jx_Cl 181 [xA 42 0, xI z5, xA 32 0] m5 (fun z6 m6 =>
                  ((0 < 1) ∧
  ((1 = 1 ∧ 0 ≤ z6 ∧ z6 < 300) ∧
  ((0 < 1) ∧
  ((0 < 1) ∧
  ((0 < 1) ∧
  ((jx_in (z6 + 1)) ∧
  ((1 = 1 ∧ 0 ≤ (z6 + 1) ∧ (z6 + 1) < 300) ∧
  ((0 < 1) ∧
  ((0 < 1) ∧
  ((0 < 1) ∧
  ((jx_in (z6 + 2)) ∧
  ((1 = 1 ∧ 0 ≤ (z6 + 2) ∧ (z6 + 2) < 300) ∧
  ((0 < 1) ∧
  ((0 < 1) ∧
  ((0 < 1) ∧
  ((jx_in (z6 + 3)) ∧
  ((1 = 1 ∧ 0 ≤ (z6 + 3) ∧ (z6 + 3) < 300) ∧
  ((0 < 1) ∧
  ((0 < 1) ∧
  ((0 < 1) ∧
  ((jx_in (z6 + 4)) ∧
  ((1 = 1 ∧ 0 ≤ (z6 + 4) ∧ (z6 + 4) < 300) ∧
  ((0 < 1) ∧
  ((0 < 1) ∧
  Q 1 (jx_up (jx_up (jx_up (jx_up (jx_up m6 26 0 1 (m6 42 0 (z6.toNat))) 26 0 5 ((jx_up m6 26 0 1 (m6 42 0 (z6.toNat))) 42 0 ((z6 + 1).toNat))) 26 0 6 ((jx_up (jx_up m6 26 0 1 (m6 42 0 (z6.toNat))) 26 0 5 ((jx_up m6 26 0 1 (m6 42 0 (z6.toNat))) 42 0 ((z6 + 1).toNat))) 42 0 ((z6 + 2).toNat))) 26 0 7 ((jx_up (jx_up (jx_up m6 26 0 1 (m6 42 0 (z6.toNat))) 26 0 5 ((jx_up m6 26 0 1 (m6 42 0 (z6.toNat))) 42 0 ((z6 + 1).toNat))) 26 0 6 ((jx_up (jx_up m6 26 0 1 (m6 42 0 (z6.toNat))) 26 0 5 ((jx_up m6 26 0 1 (m6 42 0 (z6.toNat))) 42 0 ((z6 + 1).toNat))) 42 0 ((z6 + 2).toNat))) 42 0 ((z6 + 3).toNat))) 26 0 9 ((jx_up (jx_up (jx_up (jx_up m6 26 0 1 (m6 42 0 (z6.toNat))) 26 0 5 ((jx_up m6 26 0 1 (m6 42 0 (z6.toNat))) 42 0 ((z6 + 1).toNat))) 26 0 6 ((jx_up (jx_up m6 26 0 1 (m6 42 0 (z6.toNat))) 26 0 5 ((jx_up m6 26 0 1 (m6 42 0 (z6.toNat))) 42 0 ((z6 + 1).toNat))) 42 0 ((z6 + 2).toNat))) 26 0 7 ((jx_up (jx_up (jx_up m6 26 0 1 (m6 42 0 (z6.toNat))) 26 0 5 ((jx_up m6 26 0 1 (m6 42 0 (z6.toNat))) 42 0 ((z6 + 1).toNat))) 26 0 6 ((jx_up (jx_up m6 26 0 1 (m6 42 0 (z6.toNat))) 26 0 5 ((jx_up m6 26 0 1 (m6 42 0 (z6.toNat))) 42 0 ((z6 + 1).toNat))) 42 0 ((z6 + 2).toNat))) 42 0 ((z6 + 3).toNat))) 42 0 ((z6 + 4).toNat))))))))))))))))))))))))))))))))))))))))))))))))) :
    jx_Cl 180 [xA 26 0] m Q :=
  jx_segOk (x := 180) (cd := jx_c180) rfl (stops := []) 86 hv
set_option maxRecDepth 100000 in
theorem sg_182 (a1 : Int) (a2 : Int) (a3 : Int) (a4 : Int) (a5 : Int) (a6 : Int) (m : jx_M) (Q : Int → jx_M → Prop) (hv :
    jx_Cl 183 [xI a1] m (fun z1 m1 =>
      ((z1 = 0 →
        Q (-1) m1) ∧
        (¬ (z1 = 0) →
        jx_Cl 184 [xI a2] m1 (fun z2 m2 =>
          ((z2 = 0 →
            Q (-1) m2) ∧
            (¬ (z2 = 0) →
            jx_Cl 125 [xL a4, xL 1, xL 6] m2 (fun z3 m3 =>
              ((z3 = 0 →
                Q (-1) m3) ∧
                (¬ (z3 = 0) →
                jx_Cl 125 [xL a5, xL 1, xL 6] m3 (fun z4 m4 =>
                  ((z4 = 0 →
                    Q (-1) m4) ∧
                    (¬ (z4 = 0) →
                    ((jx_in (a5 - 1)) ∧
  jx_Cl 125 [xL a6, xL (-1), xL (a5 - 1)] m4 (fun z5 m5 =>
                      ((z5 = 0 →
                        Q (-1) m5) ∧
                        (¬ (z5 = 0) →
                        ((jx_in (a4 * a5)) ∧
  ((0 < 1) ∧
  jx_Cl 185 [xA 26 0, xI a1, xI a2, xI a3, xI (a4 * a5)] m5 (fun z6 m6 =>
                          ((z6 < 0 →
                            Q z6 m6) ∧
                            (¬ (z6 < 0) →
                            ((jx_in (24 * a1)) ∧
  ((jx_in ((24 * a1) + a3)) ∧
  jx_AW 182 50 [some (xA 26 0), some (xI a1), some (xI a2), some (xI a3), some (xI a4), some (xI a5), some (xI a6), some (xI z6), some (xI ((24 * a1) + a3)), some (xI 0), none, none, none, none] [] m6 Q)))))))))))))))))))))))) :
    jx_Cl 182 [xA 26 0, xI a1, xI a2, xI a3, xI a4, xI a5, xI a6] m Q :=
  jx_segOk (x := 182) (cd := jx_c182) rfl (stops := [50, 72, 79, 86]) 47 hv
set_option maxRecDepth 100000 in
theorem sg_183 (a1 : Int) (m : jx_M) (Q : Int → jx_M → Prop) (hv :
    jx_Cl 125 [xL a1, xL 0, xL 3] m (fun z1 m1 =>
      ((z1 = 0 ∨ z1 = 1) ∧
  Q z1 m1))) :
    jx_Cl 183 [xI a1] m Q :=
  jx_segOk (x := 183) (cd := jx_c183) rfl (stops := []) 7 hv
set_option maxRecDepth 100000 in
theorem sg_184 (a1 : Int) (m : jx_M) (Q : Int → jx_M → Prop) (hv :
    jx_Cl 125 [xL a1, xL 0, xL 2] m (fun z1 m1 =>
      ((z1 = 0 ∨ z1 = 1) ∧
  Q z1 m1))) :
    jx_Cl 184 [xI a1] m Q :=
  jx_segOk (x := 184) (cd := jx_c184) rfl (stops := []) 7 hv
set_option maxRecDepth 100000 in
theorem sg_185 (a1 : Int) (a2 : Int) (a3 : Int) (a4 : Int) (m : jx_M) (Q : Int → jx_M → Prop) (hv :
    ((0 < 1) ∧
  ((1 = 1 ∧ 0 ≤ a1 ∧ a1 < 4) ∧
  ((0 < 1) ∧
  (((m 43 0 (a1.toNat)) < 0 →
      Q (-11) m) ∧
      (¬ ((m 43 0 (a1.toNat)) < 0) →
      ((0 < 1) ∧
  ((1 = 1 ∧ 0 ≤ a1 ∧ a1 < 4) ∧
  ((0 < 1) ∧
  (((m 43 0 (a1.toNat)) = a2 →
        ((a3 < 0 →
          Q (-13) m) ∧
          (¬ (a3 < 0) →
          ((jx_inL (a3 + a4)) ∧
  ((0 < 1) ∧
  ((1 = 1 ∧ 0 ≤ a1 ∧ a1 < 4) ∧
  ((0 < 1) ∧
  (((0 : Int) < (jx_lcmp (a3 + a4) (m 44 0 (a1.toNat))) →
            Q (-13) m) ∧
            (¬ ((0 : Int) < (jx_lcmp (a3 + a4) (m 44 0 (a1.toNat)))) →
            Q 0 m))))))))) ∧
        (¬ ((m 43 0 (a1.toNat)) = a2) →
        Q (-12) m))))))))))) :
    jx_Cl 185 [xA 26 0, xI a1, xI a2, xI a3, xI a4] m Q :=
  jx_segOk (x := 185) (cd := jx_c185) rfl (stops := []) 29 hv
set_option maxRecDepth 100000 in
theorem sg_186 (a1 : Int) (a2 : Int) (a3 : Int) (a4 : Int) (a5 : Int) (a6 : Int) (m : jx_M) (Q : Int → jx_M → Prop) (hv :
    jx_Cl 183 [xI a1] m (fun z1 m1 =>
      ((z1 = 0 →
        Q (-1) m1) ∧
        (¬ (z1 = 0) →
        jx_Cl 184 [xI a2] m1 (fun z2 m2 =>
          ((z2 = 0 →
            Q (-1) m2) ∧
            (¬ (z2 = 0) →
            jx_Cl 125 [xL a4, xL 1, xL 5] m2 (fun z3 m3 =>
              ((z3 = 0 →
                Q (-1) m3) ∧
                (¬ (z3 = 0) →
                jx_Cl 125 [xL a5, xL 1, xL 6] m3 (fun z4 m4 =>
                  ((z4 = 0 →
                    Q (-1) m4) ∧
                    (¬ (z4 = 0) →
                    ((jx_in (a4 - 1)) ∧
  jx_Cl 125 [xL a6, xL 0, xL (a4 - 1)] m4 (fun z5 m5 =>
                      ((z5 = 0 →
                        Q (-1) m5) ∧
                        (¬ (z5 = 0) →
                        ((jx_in (a5 + 1)) ∧
  ((jx_in (a4 * (a5 + 1))) ∧
  ((0 < 1) ∧
  jx_Cl 185 [xA 26 0, xI a1, xI a2, xI a3, xI (a4 * (a5 + 1))] m5 (fun z6 m6 =>
                          ((z6 < 0 →
                            Q z6 m6) ∧
                            (¬ (z6 < 0) →
                            ((jx_in (24 * a1)) ∧
  ((jx_in ((24 * a1) + a3)) ∧
  jx_AW 186 52 [some (xA 26 0), some (xI a1), some (xI a2), some (xI a3), some (xI a4), some (xI a5), some (xI a6), some (xI z6), some (xI ((24 * a1) + a3)), some (xI 0), none, none, none, none, none, none] [] m6 Q))))))))))))))))))))))))) :
    jx_Cl 186 [xA 26 0, xI a1, xI a2, xI a3, xI a4, xI a5, xI a6] m Q :=
  jx_segOk (x := 186) (cd := jx_c186) rfl (stops := [52, 94]) 49 hv
set_option maxRecDepth 100000 in
theorem sg_187 (a1 : Int) (a2 : Int) (a3 : Int) (m : jx_M) (Q : Int → jx_M → Prop) (hv :
    jx_Cl 183 [xI a1] m (fun z1 m1 =>
      ((z1 = 0 →
        Q (-1) m1) ∧
        (¬ (z1 = 0) →
        jx_Cl 184 [xI a2] m1 (fun z2 m2 =>
          ((z2 = 0 →
            Q (-1) m2) ∧
            (¬ (z2 = 0) →
            (((24 : Int) < a3 →
              Q (-1) m2) ∧
              (¬ ((24 : Int) < a3) →
              ((a3 < 0 →
                Q (-14) m2) ∧
                (¬ (a3 < 0) →
                ((0 < 1) ∧
  ((1 = 1 ∧ 0 ≤ a1 ∧ a1 < 4) ∧
  ((0 < 1) ∧
  ((0 < 1) ∧
  ((1 = 1 ∧ 0 ≤ a1 ∧ a1 < 4) ∧
  ((0 < 1) ∧
  jx_AW 187 27 [some (xA 26 0), some (xI a1), some (xI a2), some (xI a3), some (xI 0)] [] (jx_up (jx_up m2 43 0 (a1.toNat) a2) 44 0 (a1.toNat) a3) Q))))))))))))))))) :
    jx_Cl 187 [xA 26 0, xI a1, xI a2, xI a3] m Q :=
  jx_segOk (x := 187) (cd := jx_c187) rfl (stops := [27]) 24 hv
set_option maxRecDepth 100000 in
theorem sg_188 (a1 : Int) (m : jx_M) (Q : Int → jx_M → Prop) (hv :
    jx_Cl 183 [xI a1] m (fun z1 m1 =>
      ((z1 = 0 →
        Q (-1) m1) ∧
        (¬ (z1 = 0) →
        ((0 < 1) ∧
  ((1 = 1 ∧ 0 ≤ a1 ∧ a1 < 4) ∧
  ((0 < 1) ∧
  (((m1 43 0 (a1.toNat)) < 0 →
          Q (-11) m1) ∧
          (¬ ((m1 43 0 (a1.toNat)) < 0) →
          ((0 < 1) ∧
  ((1 = 1 ∧ 0 ≤ a1 ∧ a1 < 4) ∧
  ((0 < 1) ∧
  ((0 < 1) ∧
  ((1 = 1 ∧ 0 ≤ a1 ∧ a1 < 4) ∧
  ((0 < 1) ∧
  Q ((jx_up m1 43 0 (a1.toNat) (-1)) 44 0 (a1.toNat)) (jx_up m1 43 0 (a1.toNat) (-1))))))))))))))))) :
    jx_Cl 188 [xA 26 0, xI a1] m Q :=
  jx_segOk (x := 188) (cd := jx_c188) rfl (stops := []) 19 hv
set_option maxRecDepth 100000 in
theorem sg_189 (a1 : Int) (a2 : Int) (a3 : Int) (a4 : Int) (m : jx_M) (Q : Int → jx_M → Prop) (hv :
    jx_Cl 183 [xI a1] m (fun z1 m1 =>
      ((z1 = 0 →
        Q (-1) m1) ∧
        (¬ (z1 = 0) →
        jx_Cl 184 [xI a2] m1 (fun z2 m2 =>
          ((z2 = 0 →
            Q (-1) m2) ∧
            (¬ (z2 = 0) →
            ((0 < 1) ∧
  jx_Cl 185 [xA 26 0, xI a1, xI a2, xI a3, xI 1] m2 (fun z3 m3 =>
              ((z3 < 0 →
                Q z3 m3) ∧
                (¬ (z3 < 0) →
                ((0 < 1) ∧
  ((jx_in (24 * a1)) ∧
  ((jx_in ((24 * a1) + a3)) ∧
  ((a2 = 0 →
                  ((1 = 1 ∧ 0 ≤ ((24 * a1) + a3) ∧ ((24 * a1) + a3) < 96) ∧
  ((0 < 1) ∧
  Q 1 (jx_up m3 45 0 (((24 * a1) + a3).toNat) (jx_i2b a4))))) ∧
                  (¬ (a2 = 0) →
                  ((a2 = 1 →
                    ((1 = 1 ∧ 0 ≤ ((24 * a1) + a3) ∧ ((24 * a1) + a3) < 96) ∧
  ((0 < 1) ∧
  Q 1 (jx_up m3 45 0 (((24 * a1) + a3).toNat) (jx_i2s a4))))) ∧
                    (¬ (a2 = 1) →
                    ((1 = 1 ∧ 0 ≤ ((24 * a1) + a3) ∧ ((24 * a1) + a3) < 96) ∧
  ((0 < 1) ∧
  Q 1 (jx_up m3 45 0 (((24 * a1) + a3).toNat) a4))))))))))))))))))))) :
    jx_Cl 189 [xA 26 0, xI a1, xI a2, xI a3, xI a4] m Q :=
  jx_segOk (x := 189) (cd := jx_c189) rfl (stops := []) 34 hv
set_option maxRecDepth 100000 in
theorem sg_190 (a1 : Int) (a2 : Int) (a3 : Int) (a4 : Int) (a5 : Int) (m : jx_M) (Q : Int → jx_M → Prop) (hv :
    jx_Cl 183 [xI a1] m (fun z1 m1 =>
      ((z1 = 0 →
        Q (-1) m1) ∧
        (¬ (z1 = 0) →
        jx_Cl 183 [xI a3] m1 (fun z2 m2 =>
          ((z2 = 0 →
            Q (-1) m2) ∧
            (¬ (z2 = 0) →
            ((0 < 1) ∧
  ((1 = 1 ∧ 0 ≤ a1 ∧ a1 < 4) ∧
  ((0 < 1) ∧
  (((m2 43 0 (a1.toNat)) < 0 →
              Q (-11) m2) ∧
              (¬ ((m2 43 0 (a1.toNat)) < 0) →
              ((0 < 1) ∧
  ((1 = 1 ∧ 0 ≤ a3 ∧ a3 < 4) ∧
  ((0 < 1) ∧
  (((m2 43 0 (a3.toNat)) < 0 →
                Q (-11) m2) ∧
                (¬ ((m2 43 0 (a3.toNat)) < 0) →
                ((0 < 1) ∧
  ((1 = 1 ∧ 0 ≤ a1 ∧ a1 < 4) ∧
  ((0 < 1) ∧
  ((0 < 1) ∧
  ((1 = 1 ∧ 0 ≤ a3 ∧ a3 < 4) ∧
  ((0 < 1) ∧
  (((m2 43 0 (a1.toNat)) = (m2 43 0 (a3.toNat)) →
                  ((a5 < 0 →
                    Q (-13) m2) ∧
                    (¬ (a5 < 0) →
                    ((0 < 1) ∧
  ((1 = 1 ∧ 0 ≤ a1 ∧ a1 < 4) ∧
  ((0 < 1) ∧
  ((0 < 1) ∧
  jx_Cl 185 [xA 26 0, xI a1, xI (m2 43 0 (a1.toNat)), xI a2, xI a5] m2 (fun z3 m3 =>
                      ((z3 < 0 →
                        Q (-13) m3) ∧
                        (¬ (z3 < 0) →
                        ((0 < 1) ∧
  ((1 = 1 ∧ 0 ≤ a3 ∧ a3 < 4) ∧
  ((0 < 1) ∧
  ((0 < 1) ∧
  jx_Cl 185 [xA 26 0, xI a3, xI (m3 43 0 (a3.toNat)), xI a4, xI a5] m3 (fun z4 m4 =>
                          ((z4 < 0 →
                            Q (-13) m4) ∧
                            (¬ (z4 < 0) →
                            jx_AW 190 57 [some (xA 26 0), some (xI a1), some (xI a2), some (xI a3), some (xI a4), some (xI a5), some (xI 0)] [] m4 Q))))))))))))))))) ∧
                  (¬ ((m2 43 0 (a1.toNat)) = (m2 43 0 (a3.toNat))) →
                  Q (-12) m2))))))))))))))))))))))))) :
    jx_Cl 190 [xA 26 0, xI a1, xI a2, xI a3, xI a4, xI a5] m Q :=
  jx_segOk (x := 190) (cd := jx_c190) rfl (stops := [57, 78]) 50 hv
end
