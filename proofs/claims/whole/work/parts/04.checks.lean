def jx_gw : List Jvm.Cond := lw_tbl.filter goodWord
def jx_mns : List MethodName := [⟨"StreetCries", "<init>", "()V"⟩, ⟨"StreetCries$Town", "<init>", "()V"⟩, ⟨"java/util/Arrays", "fill", "([II)V"⟩, ⟨"StreetCries$Seller", "<init>", "()V"⟩,
  ⟨"StreetCries$Buyer", "<init>", "()V"⟩, ⟨"StreetCries$Window", "<init>", "()V"⟩, ⟨"StreetCries$Trial", "<init>", "()V"⟩, ⟨"StreetCries$Day", "<init>", "()V"⟩,
  ⟨"StreetCries$Tape", "<init>", "()V"⟩, ⟨"StreetCries$Sheet", "<init>", "()V"⟩, ⟨"StreetCries", "noise", "(II)I"⟩, ⟨"StreetCries", "isCorner", "(I)Z"⟩,
  ⟨"StreetCries", "isWithin", "(III)Z"⟩, ⟨"StreetCries", "seller", "(III)I"⟩, ⟨"StreetCries", "isKind", "(I)Z"⟩, ⟨"StreetCries", "isLoud", "(I)Z"⟩,
  ⟨"StreetCries$Seller", "comeAs", "(III)V"⟩, ⟨"StreetCries", "liftOf", "([II)I"⟩, ⟨"StreetCries", "of", "(III)I"⟩, ⟨"StreetCries$Town", "hasSeller", "(I)Z"⟩,
  ⟨"StreetCries$Seller", "change", "(II)I"⟩, ⟨"StreetCries", "isMinute", "(I)Z"⟩, ⟨"StreetCries", "type", "(JI)I"⟩, ⟨"StreetCries$Tape", "isTypable", "(JI)Z"⟩,
  ⟨"StreetCries$Tape", "byteOf", "(JI)I"⟩, ⟨"StreetCries$Tape", "append", "(JI)I"⟩, ⟨"StreetCries", "town", "()I"⟩, ⟨"StreetCries$Tape", "readDigits", "([III)I"⟩,
  ⟨"StreetCries$Tape", "isDigit", "(I)Z"⟩, ⟨"StreetCries$Tape", "clear", "()V"⟩, ⟨"StreetCries", "round", "(I)I"⟩, ⟨"StreetCries$Tape", "readRound", "([I)I"⟩,
  ⟨"java/lang/Math", "min", "(II)I"⟩, ⟨"StreetCries$Tape", "behindBlanks", "(I)I"⟩, ⟨"StreetCries$Tape", "behindDigits", "(I)I"⟩, ⟨"StreetCries$Tape", "numberIn", "(II)I"⟩,
  ⟨"StreetCries", "far", "(II)I"⟩, ⟨"java/lang/Math", "abs", "(I)I"⟩, ⟨"StreetCries$Seller", "takeRound", "([II)V"⟩, ⟨"StreetCries", "tune", "(I)I"⟩,
  ⟨"StreetCries$Seller", "takeTune", "([II)V"⟩, ⟨"StreetCries", "told", "(III)I"⟩, ⟨"StreetCries", "where", "(II)I"⟩, ⟨"StreetCries$Seller", "placeIn", "(I)I"⟩,
  ⟨"StreetCries", "carries", "(I)I"⟩, ⟨"StreetCries$Seller", "reach", "(I)I"⟩, ⟨"StreetCries", "heard", "(II)I"⟩, ⟨"StreetCries$Town", "isHeard", "(III)Z"⟩,
  ⟨"StreetCries$Town", "criesIn", "(II)Z"⟩, ⟨"StreetCries$Seller", "arrivesIn", "(I)Z"⟩, ⟨"StreetCries$Town", "isStill", "(I)Z"⟩, ⟨"StreetCries$Town", "isCrowded", "(II)Z"⟩,
  ⟨"StreetCries$Town", "carriesTo", "(III)Z"⟩, ⟨"StreetCries", "apart", "(II)I"⟩, ⟨"StreetCries$Seller", "differsFrom", "([II)I"⟩, ⟨"StreetCries", "likeness", "(I)I"⟩,
  ⟨"StreetCries", "bylaw", "(IZ)I"⟩, ⟨"StreetCries", "isBylaw", "(I)Z"⟩, ⟨"StreetCries", "count", "(I)I"⟩, ⟨"java/lang/Integer", "bitCount", "(I)I"⟩,
  ⟨"StreetCries", "buyer", "(IIII)I"⟩, ⟨"StreetCries$Buyer", "comeAs", "(IIII)V"⟩, ⟨"StreetCries", "fate", "(II)I"⟩, ⟨"StreetCries$Day", "spend", "(LStreetCries$Town;)V"⟩,
  ⟨"StreetCries$Day", "gatherCries", "(LStreetCries$Town;)V"⟩, ⟨"StreetCries$Day", "gatherLuring", "(LStreetCries$Town;)V"⟩, ⟨"StreetCries$Day", "live", "(LStreetCries$Town;LStreetCries$Buyer;I)V"⟩, ⟨"StreetCries$Day", "hearsOneOf", "(LStreetCries$Town;III)Z"⟩,
  ⟨"StreetCries$Town", "sellerAt", "(III)I"⟩, ⟨"StreetCries", "brings", "(I)I"⟩, ⟨"StreetCries$Day", "broughtTo", "(I)I"⟩, ⟨"StreetCries", "day", "(I)I"⟩,
  ⟨"StreetCries$Day", "buyingCount", "()I"⟩, ⟨"StreetCries$Day", "wastedCount", "()I"⟩, ⟨"StreetCries", "best", "(II)I"⟩, ⟨"StreetCries$Trial", "bestBeginning", "(LStreetCries$Town;II)I"⟩,
  ⟨"StreetCries$Town", "copyFrom", "(LStreetCries$Town;)V"⟩, ⟨"StreetCries$Seller", "copyFrom", "(LStreetCries$Seller;)V"⟩, ⟨"StreetCries$Window", "note", "(IIZ)V"⟩, ⟨"StreetCries$Seller", "turnRound", "()V"⟩,
  ⟨"StreetCries", "rests", "(III)I"⟩, ⟨"StreetCries$Trial", "tryAllPairs", "(LStreetCries$Town;II)V"⟩, ⟨"StreetCries$Trial", "restsTold", "(I)I"⟩, ⟨"StreetCries$Trial", "isRest", "(I)Z"⟩,
  ⟨"StreetCries", "fresh", "(IIII)I"⟩, ⟨"StreetCries", "rowsOf", "(I)I"⟩, ⟨"StreetCries", "draftRow", "(II)V"⟩, ⟨"StreetCries", "distanceToNearest", "([II)I"⟩,
  ⟨"StreetCries", "nearestSeller", "([II)I"⟩, ⟨"StreetCries", "loudness", "(I)I"⟩, ⟨"StreetCries$Town", "loudnessAt", "(I)I"⟩, ⟨"StreetCries$Town", "timesHeard", "(II)I"⟩,
  ⟨"StreetCries", "quiet", "(II)I"⟩, ⟨"StreetCries$Trial", "fewestBylaws", "(LStreetCries$Town;II)I"⟩, ⟨"StreetCries", "costs", "(II)I"⟩, ⟨"StreetCries$Trial", "costOf", "(LStreetCries$Town;II)I"⟩,
  ⟨"StreetCries", "window", "(IIZ)I"⟩, ⟨"StreetCries", "went", "(II)I"⟩, ⟨"StreetCries$Trial", "agreeingBeginnings", "(LStreetCries$Town;II)I"⟩, ⟨"StreetCries$Town", "agreesWithWindows", "(I)Z"⟩,
  ⟨"StreetCries", "shut", "()I"⟩, ⟨"StreetCries", "dies", "(II)I"⟩, ⟨"StreetCries$Trial", "deadlyNoise", "(LStreetCries$Town;II)I"⟩, ⟨"StreetCries", "clock", "(II)I"⟩,
  ⟨"StreetCries", "image", "()I"⟩, ⟨"StreetCries", "restore", "()I"⟩, ⟨"StreetCries", "hands", "(IIIIII)I"⟩, ⟨"StreetCries", "isSheet", "(I)Z"⟩,
  ⟨"StreetCries", "isLane", "(I)Z"⟩, ⟨"StreetCries$Sheet", "refusal", "(III)I"⟩, ⟨"StreetCries$Sheet", "hasItems", "(II)Z"⟩, ⟨"StreetCries$Sheet", "holdsNotes", "(IIII)Z"⟩,
  ⟨"StreetCries$Sheet", "mostCommon", "(III)I"⟩, ⟨"StreetCries", "came", "(IIIIII)I"⟩, ⟨"StreetCries$Sheet", "nearestEarlier", "(IIII)I"⟩, ⟨"StreetCries$Sheet", "differenceOf", "(III)I"⟩,
  ⟨"StreetCries", "sheet", "(III)I"⟩, ⟨"StreetCries$Sheet", "begin", "(II)V"⟩, ⟨"StreetCries", "drop", "(I)I"⟩, ⟨"StreetCries", "item", "(IIII)I"⟩,
  ⟨"StreetCries$Sheet", "put", "(II)V"⟩, ⟨"StreetCries", "copy", "(IIIII)I"⟩, ⟨"StreetCriesModel", "<init>", "()V"⟩, ⟨"StreetCriesModel", "noise", "(II)I"⟩,
  ⟨"StreetCriesModel", "isCorner", "(I)Z"⟩, ⟨"StreetCriesModel", "in", "(JJJ)Z"⟩, ⟨"StreetCriesModel", "seller", "(III)I"⟩, ⟨"StreetCriesModel", "isPart", "(II)Z"⟩,
  ⟨"StreetCriesModel", "isMinute", "(I)Z"⟩, ⟨"StreetCriesModel", "of", "(III)I"⟩, ⟨"StreetCriesModel", "isSeller", "(I)Z"⟩, ⟨"StreetCriesModel", "type", "(JI)I"⟩,
  ⟨"StreetCriesModel", "town", "()I"⟩, ⟨"StreetCriesModel", "digits", "(II)I"⟩, ⟨"StreetCriesModel", "isDigit", "()Z"⟩, ⟨"StreetCriesModel", "here", "()I"⟩,
  ⟨"StreetCriesModel", "round", "(I)I"⟩, ⟨"StreetCriesModel", "corner", "(I)V"⟩, ⟨"StreetCriesModel", "between", "(II)I"⟩, ⟨"StreetCriesModel", "tune", "(I)I"⟩,
  ⟨"StreetCriesModel", "told", "(III)I"⟩, ⟨"StreetCriesModel", "where", "(II)I"⟩, ⟨"StreetCriesModel", "placeOf", "(II)I"⟩, ⟨"StreetCriesModel", "carries", "(I)I"⟩,
  ⟨"StreetCriesModel", "carry", "(I)I"⟩, ⟨"StreetCriesModel", "heard", "(II)I"⟩, ⟨"StreetCriesModel", "hears", "(III)Z"⟩, ⟨"StreetCriesModel", "cries", "(II)Z"⟩,
  ⟨"StreetCriesModel", "apart", "(II)I"⟩, ⟨"StreetCriesModel", "apartOf", "(II)I"⟩, ⟨"StreetCriesModel", "off", "([III[III)I"⟩, ⟨"StreetCriesModel", "likeness", "(I)I"⟩,
  ⟨"StreetCriesModel", "bylaw", "(IZ)I"⟩, ⟨"StreetCriesModel", "count", "(I)I"⟩, ⟨"StreetCriesModel", "size", "(I)I"⟩, ⟨"StreetCriesModel", "buyer", "(IIII)I"⟩,
  ⟨"StreetCriesModel", "fate", "(II)I"⟩, ⟨"StreetCriesModel", "minutes", "()V"⟩, ⟨"StreetCriesModel", "standing", "(III)I"⟩, ⟨"StreetCriesModel", "isCalled", "(II)Z"⟩,
  ⟨"StreetCriesModel", "brings", "(I)I"⟩, ⟨"StreetCriesModel", "bringsOf", "(I)I"⟩, ⟨"StreetCriesModel", "day", "(I)I"⟩, ⟨"StreetCriesModel", "best", "(II)I"⟩,
  ⟨"StreetCriesModel", "rests", "(III)I"⟩, ⟨"StreetCriesModel", "fresh", "(IIII)I"⟩, ⟨"StreetCriesModel", "lays", "(II)V"⟩, ⟨"StreetCriesModel", "nearestOff", "(I)I"⟩,
  ⟨"StreetCriesModel", "loudness", "(I)I"⟩, ⟨"StreetCriesModel", "loudnessOf", "(I)I"⟩, ⟨"StreetCriesModel", "quiet", "(II)I"⟩, ⟨"StreetCriesModel", "costs", "(II)I"⟩,
  ⟨"StreetCriesModel", "window", "(IIZ)I"⟩, ⟨"StreetCriesModel", "went", "(II)I"⟩, ⟨"StreetCriesModel", "shut", "()I"⟩, ⟨"StreetCriesModel", "dies", "(II)I"⟩,
  ⟨"StreetCriesModel", "heardMinutes", "(II)I"⟩, ⟨"StreetCriesModel", "clock", "(II)I"⟩, ⟨"StreetCriesModel", "image", "()I"⟩, ⟨"StreetCriesModel", "saves", "([I[II)I"⟩,
  ⟨"StreetCriesModel", "restore", "()I"⟩, ⟨"StreetCriesModel", "gives", "([II[I)I"⟩, ⟨"StreetCriesModel", "hands", "(IIIIII)I"⟩, ⟨"StreetCriesModel", "isSheet", "(I)Z"⟩,
  ⟨"StreetCriesModel", "isLane", "(I)Z"⟩, ⟨"StreetCriesModel", "finds", "(IIII)I"⟩, ⟨"StreetCriesModel", "came", "(IIIIII)I"⟩, ⟨"StreetCriesModel", "sheet", "(III)I"⟩,
  ⟨"StreetCriesModel", "drop", "(I)I"⟩, ⟨"StreetCriesModel", "item", "(IIII)I"⟩, ⟨"StreetCriesModel", "copy", "(IIIII)I"⟩, ⟨"StreetCriesLaw", "law", "([I)Z"⟩]
def jx_mbs : List ByteArray := [prog_1_method_1_code, prog_7_method_1_code, prog_15_method_103_code, prog_4_method_1_code, prog_2_method_1_code, prog_9_method_1_code, prog_8_method_1_code, prog_3_method_1_code,
  prog_6_method_1_code, prog_5_method_1_code, prog_1_method_2_code, prog_1_method_45_code, prog_1_method_44_code, prog_1_method_3_code, prog_1_method_47_code, prog_1_method_48_code,
  prog_4_method_2_code, prog_1_method_53_code, prog_1_method_4_code, prog_7_method_3_code, prog_4_method_4_code, prog_1_method_46_code, prog_1_method_5_code, prog_6_method_2_code,
  prog_6_method_3_code, prog_6_method_4_code, prog_1_method_6_code, prog_6_method_6_code, prog_6_method_8_code, prog_6_method_5_code, prog_1_method_7_code, prog_6_method_7_code,
  prog_13_method_69_code, prog_6_method_9_code, prog_6_method_10_code, prog_6_method_11_code, prog_1_method_52_code, prog_13_method_59_code, prog_4_method_5_code, prog_1_method_8_code,
  prog_4_method_6_code, prog_1_method_9_code, prog_1_method_10_code, prog_4_method_8_code, prog_1_method_11_code, prog_4_method_10_code, prog_1_method_12_code, prog_7_method_8_code,
  prog_7_method_4_code, prog_4_method_9_code, prog_7_method_5_code, prog_7_method_6_code, prog_7_method_7_code, prog_1_method_13_code, prog_4_method_11_code, prog_1_method_14_code,
  prog_1_method_15_code, prog_1_method_49_code, prog_1_method_16_code, prog_12_method_49_code, prog_1_method_17_code, prog_2_method_2_code, prog_1_method_18_code, prog_3_method_2_code,
  prog_3_method_3_code, prog_3_method_4_code, prog_3_method_5_code, prog_3_method_6_code, prog_7_method_11_code, prog_1_method_19_code, prog_3_method_7_code, prog_1_method_20_code,
  prog_3_method_8_code, prog_3_method_9_code, prog_1_method_21_code, prog_8_method_2_code, prog_7_method_2_code, prog_4_method_3_code, prog_9_method_2_code, prog_4_method_7_code,
  prog_1_method_22_code, prog_8_method_3_code, prog_8_method_4_code, prog_8_method_5_code, prog_1_method_23_code, prog_1_method_40_code, prog_1_method_41_code, prog_1_method_42_code,
  prog_1_method_43_code, prog_1_method_24_code, prog_7_method_10_code, prog_7_method_9_code, prog_1_method_25_code, prog_8_method_6_code, prog_1_method_26_code, prog_8_method_7_code,
  prog_1_method_27_code, prog_1_method_28_code, prog_8_method_8_code, prog_7_method_12_code, prog_1_method_29_code, prog_1_method_30_code, prog_8_method_9_code, prog_1_method_31_code,
  prog_1_method_32_code, prog_1_method_33_code, prog_1_method_34_code, prog_1_method_50_code, prog_1_method_51_code, prog_5_method_4_code, prog_5_method_3_code, prog_5_method_6_code,
  prog_5_method_7_code, prog_1_method_35_code, prog_5_method_8_code, prog_5_method_9_code, prog_1_method_36_code, prog_5_method_2_code, prog_1_method_37_code, prog_1_method_38_code,
  prog_5_method_5_code, prog_1_method_39_code, prog_11_method_3_code, prog_11_method_8_code, prog_11_method_4_code, prog_11_method_2_code, prog_11_method_10_code, prog_11_method_9_code,
  prog_11_method_5_code, prog_11_method_11_code, prog_11_method_6_code, prog_11_method_12_code, prog_11_method_16_code, prog_11_method_15_code, prog_11_method_14_code, prog_11_method_13_code,
  prog_11_method_18_code, prog_11_method_17_code, prog_11_method_7_code, prog_11_method_19_code, prog_11_method_20_code, prog_11_method_25_code, prog_11_method_21_code, prog_11_method_26_code,
  prog_11_method_22_code, prog_11_method_27_code, prog_11_method_24_code, prog_11_method_23_code, prog_11_method_30_code, prog_11_method_29_code, prog_11_method_28_code, prog_11_method_31_code,
  prog_11_method_32_code, prog_11_method_34_code, prog_11_method_33_code, prog_11_method_35_code, prog_11_method_39_code, prog_11_method_38_code, prog_11_method_36_code, prog_11_method_37_code,
  prog_11_method_41_code, prog_11_method_40_code, prog_11_method_42_code, prog_11_method_43_code, prog_11_method_44_code, prog_11_method_47_code, prog_11_method_45_code, prog_11_method_46_code,
  prog_11_method_49_code, prog_11_method_48_code, prog_11_method_50_code, prog_11_method_51_code, prog_11_method_52_code, prog_11_method_53_code, prog_11_method_54_code, prog_11_method_56_code,
  prog_11_method_55_code, prog_11_method_57_code, prog_11_method_60_code, prog_11_method_58_code, prog_11_method_61_code, prog_11_method_59_code, prog_11_method_65_code, prog_11_method_62_code,
  prog_11_method_63_code, prog_11_method_64_code, prog_11_method_66_code, prog_11_method_67_code, prog_11_method_68_code, prog_11_method_69_code, prog_11_method_70_code, code]
def jx_mrs : List (Option FieldType) := [none, none, none, none, none, none, none, none, none, none, some .int, some .boolean, some .boolean, some .int, some .boolean, some .boolean,
  none, some .int, some .int, some .boolean, some .int, some .boolean, some .int, some .boolean, some .int, some .int, some .int, some .int, some .boolean, none, some .int, some .int,
  some .int, some .int, some .int, some .int, some .int, some .int, none, some .int, none, some .int, some .int, some .int, some .int, some .int, some .int, some .boolean,
  some .boolean, some .boolean, some .boolean, some .boolean, some .boolean, some .int, some .int, some .int, some .int, some .boolean, some .int, some .int, some .int, none, some .int, none,
  none, none, none, some .boolean, some .int, some .int, some .int, some .int, some .int, some .int, some .int, some .int, none, none, none, none,
  some .int, none, some .int, some .boolean, some .int, some .int, none, some .int, some .int, some .int, some .int, some .int, some .int, some .int, some .int, some .int,
  some .int, some .int, some .int, some .boolean, some .int, some .int, some .int, some .int, some .int, some .int, some .int, some .boolean, some .boolean, some .int, some .boolean, some .boolean,
  some .int, some .int, some .int, some .int, some .int, none, some .int, some .int, none, some .int, none, some .int, some .boolean, some .boolean, some .int, some .boolean,
  some .boolean, some .int, some .boolean, some .int, some .int, some .int, some .boolean, some .int, some .int, none, some .int, some .int, some .int, some .int, some .int, some .int,
  some .int, some .int, some .boolean, some .boolean, some .int, some .int, some .int, some .int, some .int, some .int, some .int, some .int, some .int, none, some .int, some .boolean,
  some .int, some .int, some .int, some .int, some .int, some .int, none, some .int, some .int, some .int, some .int, some .int, some .int, some .int, some .int, some .int,
  some .int, some .int, some .int, some .int, some .int, some .int, some .int, some .boolean, some .boolean, some .int, some .int, some .int, some .int, some .int, some .int, some .boolean]
/-- of each method, places in lw_tbl: its code, its class initialised, kind (0 virtual, 1 static, 3 made), static or instance, selects -/
def jx_mps : List (Nat × Nat × Nat × Nat × Nat) := [(52, 34, 3, 51, 0), (60, 35, 3, 59, 0), (70, 36, 1, 69, 0), (74, 37, 3, 73, 0), (123, 38, 3, 122, 0), (149, 39, 3, 148, 0), (214, 40, 3, 213, 0), (222, 41, 3, 221, 0),
  (269, 42, 3, 268, 0), (283, 43, 3, 282, 0), (330, 34, 0, 328, 329), (333, 34, 1, 332, 0), (336, 34, 1, 335, 0), (340, 34, 0, 338, 339), (343, 34, 1, 342, 0), (346, 34, 1, 345, 0),
  (350, 37, 0, 348, 349), (353, 34, 1, 352, 0), (357, 34, 0, 355, 356), (361, 35, 0, 359, 360), (365, 37, 0, 363, 364), (370, 34, 1, 369, 0), (375, 34, 0, 373, 374), (378, 42, 1, 377, 0),
  (381, 42, 1, 380, 0), (385, 42, 0, 383, 384), (389, 34, 0, 387, 388), (393, 42, 0, 391, 392), (397, 42, 0, 396, 0), (401, 42, 0, 399, 400), (405, 34, 0, 403, 404), (409, 42, 0, 407, 408),
  (412, 45, 1, 411, 0), (416, 42, 0, 415, 1), (420, 42, 0, 419, 2), (424, 42, 0, 423, 3), (428, 34, 1, 427, 0), (431, 45, 1, 430, 0), (435, 37, 0, 433, 434), (440, 34, 0, 438, 439),
  (444, 37, 0, 442, 443), (448, 34, 0, 446, 447), (452, 34, 0, 450, 451), (457, 37, 0, 455, 456), (461, 34, 0, 459, 460), (465, 37, 0, 463, 464), (469, 34, 0, 467, 468), (473, 35, 0, 471, 472),
  (477, 35, 0, 475, 476), (482, 37, 0, 480, 481), (487, 35, 0, 486, 4), (492, 35, 0, 491, 5), (497, 35, 0, 495, 496), (502, 34, 0, 500, 501), (506, 37, 0, 504, 505), (511, 34, 0, 509, 510),
  (515, 34, 0, 513, 514), (518, 34, 1, 517, 0), (522, 34, 0, 520, 521), (525, 46, 1, 524, 0), (532, 34, 0, 530, 531), (536, 38, 0, 534, 535), (540, 34, 0, 538, 539), (544, 41, 0, 542, 543),
  (548, 41, 0, 547, 6), (555, 41, 0, 554, 7), (561, 41, 0, 560, 8), (564, 41, 1, 563, 0), (569, 35, 0, 567, 568), (573, 34, 0, 571, 572), (577, 41, 0, 575, 576), (581, 34, 0, 579, 580),
  (585, 41, 0, 583, 584), (589, 41, 0, 587, 588), (593, 34, 0, 591, 592), (597, 40, 0, 595, 596), (601, 35, 0, 599, 600), (608, 37, 0, 606, 607), (615, 39, 0, 613, 614), (621, 37, 0, 619, 620),
  (625, 34, 0, 623, 624), (629, 40, 0, 627, 628), (633, 40, 0, 631, 632), (637, 40, 0, 636, 9), (641, 34, 0, 639, 640), (644, 34, 1, 643, 0), (648, 34, 0, 647, 10), (653, 34, 0, 652, 11),
  (657, 34, 0, 656, 12), (661, 34, 0, 659, 660), (665, 35, 0, 663, 664), (669, 35, 0, 667, 668), (674, 34, 0, 672, 673), (678, 40, 0, 676, 677), (684, 34, 0, 682, 683), (689, 40, 0, 687, 688),
  (693, 34, 0, 691, 692), (698, 34, 0, 696, 697), (702, 40, 0, 700, 701), (707, 35, 0, 705, 706), (711, 34, 0, 709, 710), (715, 34, 0, 713, 714), (719, 40, 0, 717, 718), (724, 34, 0, 722, 723),
  (729, 34, 0, 727, 728), (734, 34, 0, 732, 733), (738, 34, 0, 736, 737), (741, 34, 1, 740, 0), (744, 34, 1, 743, 0), (748, 43, 0, 746, 747), (752, 43, 0, 750, 751), (756, 43, 0, 754, 755),
  (761, 43, 0, 759, 760), (765, 34, 0, 763, 764), (769, 43, 0, 767, 768), (773, 43, 0, 772, 13), (778, 34, 0, 776, 777), (782, 43, 0, 780, 781), (787, 34, 0, 785, 786), (791, 34, 0, 789, 790),
  (795, 43, 0, 793, 794), (799, 34, 0, 797, 798), (806, 44, 3, 805, 0), (908, 44, 0, 906, 907), (911, 44, 1, 910, 0), (915, 44, 1, 914, 0), (920, 44, 0, 918, 919), (923, 44, 1, 922, 0),
  (927, 44, 1, 926, 0), (933, 44, 0, 931, 932), (937, 44, 0, 936, 14), (941, 44, 0, 939, 940), (949, 44, 0, 947, 948), (953, 44, 0, 952, 15), (957, 44, 0, 956, 16), (961, 44, 0, 960, 17),
  (967, 44, 0, 965, 966), (971, 44, 0, 970, 18), (974, 44, 1, 973, 0), (978, 44, 0, 976, 977), (982, 44, 0, 980, 981), (986, 44, 0, 984, 985), (990, 44, 0, 989, 19), (994, 44, 0, 992, 993),
  (998, 44, 0, 997, 20), (1002, 44, 0, 1000, 1001), (1006, 44, 0, 1005, 21), (1010, 44, 0, 1009, 22), (1014, 44, 0, 1012, 1013), (1018, 44, 0, 1017, 23), (1021, 44, 1, 1020, 0), (1025, 44, 0, 1023, 1024),
  (1030, 44, 0, 1028, 1029), (1034, 44, 0, 1032, 1033), (1037, 44, 1, 1036, 0), (1041, 44, 0, 1039, 1040), (1045, 44, 0, 1043, 1044), (1050, 44, 0, 1049, 24), (1054, 44, 0, 1053, 25), (1058, 44, 0, 1057, 26),
  (1062, 44, 0, 1060, 1061), (1066, 44, 0, 1065, 27), (1070, 44, 0, 1068, 1069), (1074, 44, 0, 1072, 1073), (1078, 44, 0, 1076, 1077), (1082, 44, 0, 1080, 1081), (1088, 44, 0, 1087, 28), (1092, 44, 0, 1091, 29),
  (1096, 44, 0, 1094, 1095), (1100, 44, 0, 1099, 30), (1104, 44, 0, 1102, 1103), (1109, 44, 0, 1107, 1108), (1114, 44, 0, 1112, 1113), (1118, 44, 0, 1116, 1117), (1122, 44, 0, 1120, 1121), (1126, 44, 0, 1124, 1125),
  (1130, 44, 0, 1129, 31), (1134, 44, 0, 1132, 1133), (1138, 44, 0, 1136, 1137), (1141, 44, 1, 1140, 0), (1145, 44, 0, 1143, 1144), (1148, 44, 1, 1147, 0), (1152, 44, 0, 1150, 1151), (1155, 44, 1, 1154, 0),
  (1158, 44, 1, 1157, 0), (1163, 44, 0, 1162, 32), (1167, 44, 0, 1165, 1166), (1171, 44, 0, 1169, 1170), (1175, 44, 0, 1173, 1174), (1179, 44, 0, 1177, 1178), (1183, 44, 0, 1181, 1182), (0, 0, 2, 0, 0)]
def jx_mN (x : Nat) : MethodName := jx_nth jx_mns x ⟨"", "", ""⟩
def jx_mB (x : Nat) : ByteArray := jx_nth jx_mbs x ⟨#[]⟩
def jx_mR (x : Nat) : Option FieldType := jx_nth jx_mrs x none
def jx_mP (x : Nat) : Nat × Nat × Nat × Nat × Nat := jx_nth jx_mps x (0, 0, 2, 0, 0)
def jx_pc (x i : Nat) : Nat := jx_nth (jx_nth jx_pcs x []) i 0
abbrev jx_cl5 : List vw_C := [(RX0, TX0, 4), (RX1, TX1, 7), (RX2, TX2, 9), (RX3, TX3, 4), (RX4, TX4, 2)]
abbrev jx_classes : List vw_C := [(RX0, TX0, 4), (RX1, TX1, 7), (RX2, TX2, 9), (RX3, TX3, 4), (RX4, TX4, 2), (RX5, TX5, 9), (RX6, TX6, 4), (RX7, TX7, 3), (RX8, TX8, 8), (RX9, TX9, 32)]
/-- a word of the tables at its place, and one that keeps -/
def jx_at (p : Nat) (w : Jvm.Cond) : Bool := decide (lw_tbl[p]? = some w) && goodWord w
theorem jx_mathW : jx_at 412 (.code Lib.Math.min.name Lib.Math.min.code 2 (some .int)) = true ∧ jx_at 431 (.code Lib.Math.abs.name Lib.Math.abs.code 1 (some .int)) = true ∧ jx_at 411 (.static Lib.Math.min.name) = true ∧ jx_at 430 (.static Lib.Math.abs.name) = true ∧ jx_at 45 (.initialized "java/lang/Math") = true := by decide +kernel
theorem jx_copyW : jx_at 604 (.native arraycopyName) = true ∧ jx_at 603 (.static arraycopyName) = true ∧ jx_at 47 (.initialized "java/lang/System") = true ∧ jx_at 54 (.instanceMethod objectInit) = true ∧ jx_at 55 (.code objectInit ⟨#[0xb1]⟩ 1 none) = true ∧ jx_at 119 (.arrayClass .int) = true := by decide +kernel
theorem jx_at_mem {p : Nat} {w : Jvm.Cond} (h : jx_at p w = true) : w ∈ jx_gw := by
  unfold jx_at at h
  rw [Bool.and_eq_true] at h
  exact List.mem_filter.mpr ⟨List.mem_of_getElem? (of_decide_eq_true h.1), h.2⟩
def jx_okM (x : Nat) : Bool :=
  jx_at (jx_mP x).1 (.code (jx_mN x) (jx_mB x) (jx_mL x) (jx_mR x)) && (jx_at (jx_mP x).2.1 (.initialized (jx_mN x).cls) &&
  (decide ((jx_mN x).cls ≠ "java/lang/invoke/MethodHandle" ∧ (jx_mN x).cls ≠ "java/lang/invoke/VarHandle") && (plainName (jx_mN x).cls &&
  (match (jx_mP x).2.2.1 with
    | 1 => jx_at (jx_mP x).2.2.2.1 (.static (jx_mN x)) && decide ((parseMethodDescriptor (jx_mN x).desc).map (fun d => d.parameters.length) = some (jx_mA x))
    | 0 => jx_at (jx_mP x).2.2.2.1 (.instanceMethod (jx_mN x)) && (jx_at (jx_mP x).2.2.2.2 (.selects (jx_mN x).cls (jx_mN x) (jx_mN x)) && (decide ((parseMethodDescriptor (jx_mN x).desc).map (fun d => d.parameters.length + 1) = some (jx_mA x)) && decide ((jx_classes.map (·.1))[jx_mC x]? = some (jx_mN x).cls)))
    | 3 => jx_at (jx_mP x).2.2.2.1 (.instanceMethod (jx_mN x)) && (decide ((jx_mN x).name = "<init>") && (decide ((parseMethodDescriptor (jx_mN x).desc).map (fun d => d.parameters.length + 1) = some (jx_mA x)) && (decide (jx_mR x = none) && jx_mV x)))
    | _ => false))))
def jx_ln (o : Instr) : Nat := match o with
  | .bipush _ => 2 | .sipush _ => 3 | .ldc _ => 2 | .ldc_w _ => 3 | .ldc2_w _ => 3 | .iload _ => 2 | .lload _ => 2 | .aload _ => 2 | .istore _ => 2 | .astore _ => 2 | .iinc _ _ => 3
  | .ifCond _ _ => 3 | .if_icmp _ _ => 3 | .goto _ => 3 | .getfield _ => 3 | .putfield _ => 3 | .new _ => 3 | .newarray _ => 2 | .anewarray _ => 3 | .invokevirtual _ => 3 | .invokestatic _ => 3 | .invokespecial _ => 3
  | .tableswitch _ _ _ os => 0
  | _ => 1
/-- what a row says beside its instruction -/
def jx_okA (x i : Nat) (r : jx_R) : Bool :=
  let nx := Nat.beq (jx_pc x (i + 1)) (jx_pc x i + jx_ln r.1)
  let ow := (jx_mN x).cls
  let z := r.2.2.2.toNat
  match r.1 with
  | .iconst k => decide (r.2.2.2 = k ∧ jx_in k) && nx
  | .bipush k => decide (r.2.2.2 = k ∧ (Int8.ofInt k).toInt32 = Int32.ofInt k ∧ jx_in k) && nx
  | .sipush k => decide (r.2.2.2 = k ∧ (Int16.ofInt k).toInt32 = Int32.ofInt k ∧ jx_in k) && nx
  | .ldc k => jx_at r.2.2.1 (.constant ow k (Int32.ofInt r.2.2.2)) && (decide (jx_in r.2.2.2) && nx)
  | .ldc_w k => jx_at r.2.2.1 (.constant ow k (Int32.ofInt r.2.2.2)) && (decide (jx_in r.2.2.2) && nx)
  | .lconst k => decide (Int64.ofNat k.val = Int64.ofInt r.2.2.2 ∧ jx_inL r.2.2.2) && nx
  | .ldc2_w k => jx_at r.2.2.1 (.constantLong ow k (Int64.ofInt r.2.2.2)) && (decide (jx_inL r.2.2.2) && nx)
  | .iload_n k => Nat.beq k.val r.2.1 && nx
  | .lload_n k => Nat.beq k.val r.2.1 && nx
  | .aload_n k => Nat.beq k.val r.2.1 && nx
  | .iload k => Nat.beq k r.2.1 && nx
  | .lload k => Nat.beq k r.2.1 && nx
  | .aload k => Nat.beq k r.2.1 && nx
  | .istore_n k => Nat.beq k.val r.2.1 && (Nat.blt r.2.1 (jx_mL x) && nx)
  | .astore_n k => Nat.beq k.val r.2.1 && (Nat.blt r.2.1 (jx_mL x) && nx)
  | .istore k => Nat.beq k r.2.1 && (Nat.blt r.2.1 (jx_mL x) && nx)
  | .astore k => Nat.beq k r.2.1 && (Nat.blt r.2.1 (jx_mL x) && nx)
  | .iinc k c => Nat.beq k r.2.1 && (Nat.blt r.2.1 (jx_mL x) && (decide (c = r.2.2.2) && nx))
  | .ifCond _ off => decide ((jx_pc x i : Int) + off = (jx_pc x r.2.1 : Int)) && nx
  | .if_icmp _ off => decide ((jx_pc x i : Int) + off = (jx_pc x r.2.1 : Int)) && nx
  | .goto off => decide ((jx_pc x i : Int) + off = (jx_pc x r.2.1 : Int))
  | .tableswitch df lo hi os => decide ((jx_pc x i : Int) + df = (jx_pc x r.2.2.1 : Int) ∧ r.2.2.2 = lo ∧ hi + 1 = lo + (jx_nth jx_tsws r.2.1 []).length ∧ os.toList.map (fun o => (jx_pc x i : Int) + o) = (jx_nth jx_tsws r.2.1 []).map (fun t => (jx_pc x t : Int)))
  | .getfield k => (match jx_classes[r.2.2.1]? with
      | some (C, T, n) => Nat.blt r.2.1 n && (jx_at z (.fieldLink ow k (T r.2.1).1 (T r.2.1).2.1 (T r.2.1).2.2.1))
      | none => false) && nx
  | .putfield k => (match jx_classes[r.2.2.1]? with
      | some (C, T, n) => Nat.blt r.2.1 n && (jx_at z (.fieldLink ow k (T r.2.1).1 (T r.2.1).2.1 (T r.2.1).2.2.1) && (match (T r.2.1).2.2.2 with
          | true => decide ((jx_mN x).name = "<init>" ∧ (T r.2.1).1 = ow)
          | false => true))
      | none => false) && nx
  | .new k => (match jx_classes[r.2.1]? with
      | some (C, T, n) => jx_at z (.classLink ow k C) && (jx_gw.elem (.instantiable C n) && jx_gw.elem (.initialized C))
      | none => false) && nx
  | .newarray t => decide (t = .int) && nx
  | .anewarray k => (match jx_classes[r.2.1]? with
      | some (C, T, n) => jx_at z (.classLink ow k C)
      | none => false) && nx
  | .invokevirtual k => jx_okM r.2.1 && (Nat.beq (jx_mP r.2.1).2.2.1 0 && (Nat.ble (jx_mF r.2.1 + 1) (jx_mF x) && (Nat.ble (8 + (jx_mL r.2.1 + 11) + jx_mO r.2.1) (jx_mO x) && (jx_at z (.methodLink ow k (jx_mN r.2.1)) && nx))))
  | .invokestatic k => (match r.2.2.1 with
      | 3 => jx_at z (.methodLink ow k arraycopyName) && (Nat.ble 1 (jx_mF x) && (Nat.ble (8 + (nativeFrameWords "java/lang/System" "arraycopy" 5 + 11)) (jx_mO x) && nx))
      | 4 => jx_at z (.methodLink ow k Lib.Math.min.name) && (Nat.ble 1 (jx_mF x) && (Nat.ble 21 (jx_mO x) && nx))
      | 5 => jx_at z (.methodLink ow k Lib.Math.abs.name) && (Nat.ble 1 (jx_mF x) && (Nat.ble 21 (jx_mO x) && nx))
      | 1 => jx_okM r.2.1 && (Nat.beq (jx_mP r.2.1).2.2.1 1 && (Nat.ble (jx_mF r.2.1 + 1) (jx_mF x) && (Nat.ble (8 + (jx_mL r.2.1 + 11) + jx_mO r.2.1) (jx_mO x) && (decide (lw_tbl[z]? = some (.methodLinkNest ow k (jx_mN r.2.1) "StreetCries")) && nx))))
      | _ => jx_okM r.2.1 && (Nat.beq (jx_mP r.2.1).2.2.1 1 && (Nat.ble (jx_mF r.2.1 + 1) (jx_mF x) && (Nat.ble (8 + (jx_mL r.2.1 + 11) + jx_mO r.2.1) (jx_mO x) && (jx_at z (.methodLink ow k (jx_mN r.2.1)) && nx)))))
  | .invokespecial k => (match r.2.2.1 with
      | 2 => jx_at z (.methodLink ow k objectInit) && (Nat.ble 1 (jx_mF x) && (Nat.ble 20 (jx_mO x) && nx))
      | 1 => jx_okM r.2.1 && (Nat.beq (jx_mP r.2.1).2.2.1 3 && (Nat.ble (jx_mF r.2.1 + 1) (jx_mF x) && (Nat.ble (8 + (jx_mL r.2.1 + 11) + jx_mO r.2.1) (jx_mO x) && (decide (lw_tbl[z]? = some (.methodLinkNest ow k (jx_mN r.2.1) "StreetCries")) && nx))))
      | _ => jx_okM r.2.1 && (Nat.beq (jx_mP r.2.1).2.2.1 3 && (Nat.ble (jx_mF r.2.1 + 1) (jx_mF x) && (Nat.ble (8 + (jx_mL r.2.1 + 11) + jx_mO r.2.1) (jx_mO x) && (jx_at z (.methodLink ow k (jx_mN r.2.1)) && nx)))))
  | .ireturn => (match jx_mR x with
      | some .int => Nat.beq r.2.1 0
      | some .boolean => Nat.beq r.2.1 1
      | _ => false)
  | .return_ => decide (jx_mR x = none)
  | _ => nx
def jx_isT (o : Instr) : Bool := match o with
  | .tableswitch _ _ _ _ => true
  | _ => false
def jx_okD (x i : Nat) : Bool := match decode (jx_mB x) (jx_pc x i) with
  | .ok (o, n) => decide (o = (jx_row x i).1) && (jx_isT o || Nat.beq n (jx_ln o))
  | .error _ => false
def jx_okR (x i : Nat) : Bool := jx_okD x i && jx_okA x i (jx_row x i)
def jx_okX (x : Nat) : Bool := (List.range (jx_nth jx_cd x []).length).all (jx_okR x)
