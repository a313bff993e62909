def mtab : List (MethodName × ByteArray × Nat × Option FieldType × Nat × Nat × Nat × Nat) := [
  (⟨"TrueInk", "<init>", "()V"⟩, prog_1_method_1_code, 1, none, 8, 1, 7, 141),
  (⟨"TrueInk$Reader", "<init>", "()V"⟩, prog_6_method_1_code, 4, none, 4, 1, 6, 118),
  (⟨"TrueInk$Reader", "withLetter", "(JI)J"⟩, prog_6_method_32_code, 3, Option.some .long, 4, 2, 1, 1),
  (⟨"TrueInk$Script", "<init>", "()V"⟩, prog_7_method_1_code, 1, none, 5, 1, 3, 48),
  (⟨"TrueInk$Press", "<init>", "(LTrueInk$Script;)V"⟩, prog_5_method_1_code, 2, none, 3, 2, 3, 48),
  (⟨"TrueInk$Past", "<init>", "()V"⟩, prog_4_method_1_code, 1, none, 2, 1, 3, 48),
  (⟨"TrueInk$Worlds", "<init>", "(LTrueInk$Press;)V"⟩, prog_9_method_1_code, 2, none, 7, 2, 3, 48),
  (⟨"TrueInk$Stands", "<init>", "(LTrueInk$Press;)V"⟩, prog_8_method_1_code, 2, none, 6, 2, 3, 48),
  (⟨"TrueInk$Ahead", "<init>", "(LTrueInk$Press;)V"⟩, prog_2_method_1_code, 2, none, 0, 2, 3, 48),
  (⟨"TrueInk$Begun", "<init>", "(LTrueInk$Press;)V"⟩, prog_3_method_1_code, 2, none, 1, 2, 3, 48),
  (⟨"TrueInk", "feed", "(IIIII)I"⟩, prog_1_method_2_code, 6, Option.some .int, 8, 6, 2, 23),
  (⟨"TrueInk", "putBytes", "(I)V"⟩, prog_1_method_39_code, 3, none, 8, 2, 1, 1),
  (⟨"TrueInk", "back", "(I)I"⟩, prog_1_method_3_code, 2, Option.some .int, 8, 2, 1, 1),
  (⟨"TrueInk", "read", "()I"⟩, prog_1_method_4_code, 2, Option.some .int, 8, 1, 9, 199),
  (⟨"TrueInk$Reader", "cut", "([BI)V"⟩, prog_6_method_4_code, 6, none, 4, 3, 8, 174),
  (⟨"TrueInk$Reader", "isBlank", "(I)Z"⟩, prog_6_method_33_code, 1, Option.some .boolean, 4, 1, 1, 1),
  (⟨"TrueInk$Reader", "cutOne", "([BII)I"⟩, prog_6_method_5_code, 7, Option.some .int, 4, 4, 7, 148),
  (⟨"TrueInk$Reader", "isLetter", "(I)Z"⟩, prog_6_method_34_code, 1, Option.some .boolean, 4, 1, 1, 1),
  (⟨"TrueInk$Reader", "kindOfName", "(J)I"⟩, prog_6_method_6_code, 4, Option.some .int, 4, 2, 1, 1),
  (⟨"TrueInk$Reader", "isDigit", "(I)Z"⟩, prog_6_method_35_code, 1, Option.some .boolean, 4, 1, 1, 1),
  (⟨"TrueInk$Reader", "isSign", "(I)Z"⟩, prog_6_method_36_code, 1, Option.some .boolean, 4, 1, 6, 128),
  (⟨"java/lang/Math", "max", "(II)I"⟩, prog_15_method_65_code, 2, Option.some .int, 14, 2, 1, 1),
  (⟨"java/lang/Math", "min", "(II)I"⟩, prog_15_method_69_code, 2, Option.some .int, 14, 2, 1, 1),
  (⟨"TrueInk$Reader", "tellAll", "(LTrueInk$Script;)V"⟩, prog_6_method_2_code, 3, none, 4, 2, 6, 114),
  (⟨"TrueInk$Script", "clear", "()V"⟩, prog_7_method_2_code, 1, none, 5, 1, 2, 24),
  (⟨"java/util/Arrays", "fill", "([II)V"⟩, prog_20_method_103_code, 4, none, 13, 2, 1, 1),
  (⟨"TrueInk$Reader", "tellFact", "()V"⟩, prog_6_method_7_code, 6, none, 4, 1, 4, 69),
  (⟨"TrueInk$Reader", "blame", "(I)V"⟩, prog_6_method_27_code, 2, none, 4, 2, 1, 1),
  (⟨"TrueInk$Reader", "take", "(I)Z"⟩, prog_6_method_25_code, 2, Option.some .boolean, 4, 2, 2, 22),
  (⟨"TrueInk$Reader", "judgeFact", "(III)V"⟩, prog_6_method_8_code, 4, none, 4, 4, 3, 46),
  (⟨"TrueInk$Reader", "isTold", "(J)Z"⟩, prog_6_method_29_code, 3, Option.some .boolean, 4, 2, 2, 24),
  (⟨"TrueInk$Reader", "factNamed", "(J)I"⟩, prog_6_method_30_code, 4, Option.some .int, 4, 2, 1, 1),
  (⟨"TrueInk$Reader", "pageNamed", "(J)I"⟩, prog_6_method_31_code, 4, Option.some .int, 4, 2, 1, 1),
  (⟨"TrueInk$Reader", "blameSoftly", "(II)V"⟩, prog_6_method_28_code, 3, none, 4, 3, 1, 1),
  (⟨"java/lang/Math", "min", "(JJ)J"⟩, prog_15_method_70_code, 4, Option.some .long, 14, 2, 1, 1),
  (⟨"java/lang/Math", "max", "(JJ)J"⟩, prog_15_method_66_code, 4, Option.some .long, 14, 2, 1, 1),
  (⟨"TrueInk$Reader", "tellGoes", "()V"⟩, prog_6_method_9_code, 3, none, 4, 1, 5, 92),
  (⟨"TrueInk$Reader", "tellLaw", "()V"⟩, prog_6_method_10_code, 3, none, 4, 1, 4, 70),
  (⟨"TrueInk$Reader", "expression", "(Z)V"⟩, prog_6_method_16_code, 6, none, 4, 2, 3, 45),
  (⟨"TrueInk$Reader", "letWait", "(I)V"⟩, prog_6_method_18_code, 2, none, 4, 2, 1, 1),
  (⟨"TrueInk$Reader", "unit", "(IZ)V"⟩, prog_6_method_17_code, 3, none, 4, 3, 2, 23),
  (⟨"TrueInk$Reader", "put", "(II)V"⟩, prog_6_method_26_code, 3, none, 4, 3, 1, 1),
  (⟨"TrueInk$Reader", "closeness", "(I)I"⟩, prog_6_method_20_code, 1, Option.some .int, 4, 1, 1, 1),
  (⟨"TrueInk$Reader", "putWaiting", "(I)V"⟩, prog_6_method_19_code, 3, none, 4, 2, 2, 23),
  (⟨"TrueInk$Reader", "tellPage", "()V"⟩, prog_6_method_11_code, 3, none, 4, 1, 5, 91),
  (⟨"TrueInk$Reader", "tellShading", "()V"⟩, prog_6_method_12_code, 2, none, 4, 1, 3, 43),
  (⟨"TrueInk$Reader", "tellClaim", "()V"⟩, prog_6_method_13_code, 2, none, 4, 1, 4, 70),
  (⟨"TrueInk$Reader", "tellSlips", "()V"⟩, prog_6_method_14_code, 2, none, 4, 1, 3, 43),
  (⟨"TrueInk$Reader", "tellSeed", "()V"⟩, prog_6_method_15_code, 2, none, 4, 1, 3, 43),
  (⟨"TrueInk$Reader", "judge", "()I"⟩, prog_6_method_3_code, 1, Option.some .int, 4, 1, 3, 48),
  (⟨"TrueInk$Reader", "resolve", "()V"⟩, prog_6_method_21_code, 5, none, 4, 1, 2, 24),
  (⟨"TrueInk$Reader", "findLoose", "()V"⟩, prog_6_method_22_code, 3, none, 4, 1, 2, 24),
  (⟨"TrueInk$Reader", "looksAtShades", "(I)Z"⟩, prog_6_method_23_code, 4, Option.some .boolean, 4, 2, 1, 1),
  (⟨"TrueInk$Reader", "looksAtDay", "()Z"⟩, prog_6_method_24_code, 2, Option.some .boolean, 4, 1, 1, 1),
  (⟨"TrueInk", "beginAnew", "()V"⟩, prog_1_method_40_code, 2, none, 8, 1, 5, 102),
  (⟨"TrueInk$Script", "worldTold", "()I"⟩, prog_7_method_4_code, 1, Option.some .int, 5, 1, 2, 24),
  (⟨"TrueInk$Script", "worldOf", "([I)I"⟩, prog_7_method_3_code, 4, Option.some .int, 5, 2, 1, 1),
  (⟨"TrueInk$Press", "begin", "([II)V"⟩, prog_5_method_2_code, 3, none, 3, 3, 4, 80),
  (⟨"TrueInk$Script", "putFacts", "([II)V"⟩, prog_7_method_6_code, 6, none, 5, 3, 1, 1),
  (⟨"TrueInk$Press", "settle", "([I)V"⟩, prog_5_method_4_code, 5, none, 3, 2, 3, 56),
  (⟨"TrueInk$Press", "findFirm", "([I)V"⟩, prog_5_method_5_code, 5, none, 3, 2, 2, 31),
  (⟨"TrueInk$Press", "run", "(I[I)Z"⟩, prog_5_method_16_code, 11, Option.some .boolean, 3, 3, 1, 1),
  (⟨"TrueInk", "shadesOf", "([I)I"⟩, prog_1_method_49_code, 3, Option.some .int, 8, 1, 1, 1),
  (⟨"TrueInk$Press", "shadeAnew", "(I[I)I"⟩, prog_5_method_6_code, 6, Option.some .int, 3, 3, 2, 31),
  (⟨"TrueInk$Press", "shadeBy", "(II)I"⟩, prog_5_method_11_code, 4, Option.some .int, 3, 3, 1, 1),
  (⟨"TrueInk$Press", "end", "([IIIII)V"⟩, prog_5_method_13_code, 5, none, 3, 5, 1, 1),
  (⟨"TrueInk", "putShades", "([II)V"⟩, prog_1_method_50_code, 4, none, 8, 2, 1, 1),
  (⟨"TrueInk$Press", "unlikePages", "(II)I"⟩, prog_5_method_12_code, 6, Option.some .int, 3, 3, 2, 22),
  (⟨"TrueInk", "shadeIn", "(II)I"⟩, prog_1_method_48_code, 2, Option.some .int, 8, 2, 1, 1),
  (⟨"TrueInk$Past", "clear", "()V"⟩, prog_4_method_4_code, 1, none, 2, 1, 1, 1),
  (⟨"TrueInk$Begun", "clear", "()V"⟩, prog_3_method_2_code, 1, none, 1, 1, 1, 1),
  (⟨"TrueInk", "forgetGuesses", "()V"⟩, prog_1_method_41_code, 1, none, 8, 1, 1, 1),
  (⟨"TrueInk", "place", "()I"⟩, prog_1_method_5_code, 1, Option.some .int, 8, 1, 1, 1),
  (⟨"TrueInk", "fact", "(I)I"⟩, prog_1_method_6_code, 2, Option.some .int, 8, 2, 2, 22),
  (⟨"TrueInk", "isFact", "(I)Z"⟩, prog_1_method_43_code, 2, Option.some .boolean, 8, 2, 1, 1),
  (⟨"TrueInk", "page", "(II)I"⟩, prog_1_method_7_code, 3, Option.some .int, 8, 3, 4, 78),
  (⟨"TrueInk", "isPage", "(I)Z"⟩, prog_1_method_44_code, 2, Option.some .boolean, 8, 2, 1, 1),
  (⟨"TrueInk$Press", "trueClaims", "(I[I)I"⟩, prog_5_method_8_code, 5, Option.some .int, 3, 3, 3, 54),
  (⟨"TrueInk$Press", "holds", "(II[I)Z"⟩, prog_5_method_10_code, 4, Option.some .boolean, 3, 4, 2, 31),
  (⟨"TrueInk$Press", "firstClaim", "(I[IZ)I"⟩, prog_5_method_9_code, 6, Option.some .int, 3, 4, 2, 31),
  (⟨"TrueInk", "settled", "(I)I"⟩, prog_1_method_8_code, 2, Option.some .int, 8, 2, 1, 1),
  (⟨"TrueInk", "days", "(I)I"⟩, prog_1_method_9_code, 3, Option.some .int, 8, 2, 5, 104),
  (⟨"TrueInk$Past", "keep", "([I)V"⟩, prog_4_method_2_code, 2, none, 2, 2, 2, 48),
  (⟨"TrueInk$Press", "oneDay", "([II)V"⟩, prog_5_method_3_code, 5, none, 3, 3, 4, 80),
  (⟨"TrueInk$Press", "lot", "(II)I"⟩, prog_5_method_14_code, 3, Option.some .int, 3, 2, 2, 23),
  (⟨"TrueInk$Press", "mixed", "(II)I"⟩, prog_5_method_15_code, 3, Option.some .int, 3, 2, 1, 1),
  (⟨"TrueInk", "set", "(II)Z"⟩, prog_1_method_10_code, 3, Option.some .boolean, 8, 3, 4, 80),
  (⟨"TrueInk", "wipe", "(IZ)Z"⟩, prog_1_method_11_code, 3, Option.some .boolean, 8, 3, 4, 80),
  (⟨"TrueInk", "undo", "()Z"⟩, prog_1_method_12_code, 1, Option.some .boolean, 8, 1, 3, 69),
  (⟨"TrueInk$Past", "takeBack", "([I)Z"⟩, prog_4_method_3_code, 2, Option.some .boolean, 2, 2, 2, 48),
  (⟨"TrueInk", "world", "(I)I"⟩, prog_1_method_13_code, 2, Option.some .int, 8, 2, 2, 24),
  (⟨"TrueInk", "stands", "(I)I"⟩, prog_1_method_14_code, 2, Option.some .int, 8, 2, 5, 103),
  (⟨"TrueInk$Stands", "fill", "([I)V"⟩, prog_8_method_2_code, 6, none, 6, 2, 4, 78),
  (⟨"java/util/Arrays", "fill", "([JJ)V"⟩, prog_20_method_101_code, 5, none, 13, 2, 1, 1),
  (⟨"TrueInk$Press", "shadesThatCanBe", "(I[I)I"⟩, prog_5_method_7_code, 7, Option.some .int, 3, 3, 2, 24),
  (⟨"java/lang/Integer", "bitCount", "(I)I"⟩, prog_13_method_49_code, 1, Option.some .int, 11, 1, 1, 1),
  (⟨"TrueInk$Stands", "couldStand", "(II)Z"⟩, prog_8_method_4_code, 6, Option.some .boolean, 6, 3, 1, 1),
  (⟨"TrueInk$Stands", "doesStand", "(I)Z"⟩, prog_8_method_5_code, 3, Option.some .boolean, 6, 2, 3, 56),
  (⟨"TrueInk$Stands", "numberOf", "(I)I"⟩, prog_8_method_3_code, 5, Option.some .int, 6, 2, 2, 25),
  (⟨"java/lang/Long", "bitCount", "(J)I"⟩, prog_14_method_50_code, 2, Option.some .int, 12, 1, 1, 1),
  (⟨"TrueInk$Stands", "placeOf", "(JI)I"⟩, prog_8_method_6_code, 5, Option.some .int, 6, 2, 1, 1),
  (⟨"TrueInk", "least", "(II)I"⟩, prog_1_method_15_code, 4, Option.some .int, 8, 3, 6, 130),
  (⟨"TrueInk", "isOneOfTwo", "(I)Z"⟩, prog_1_method_47_code, 1, Option.some .boolean, 8, 1, 1, 1),
  (⟨"TrueInk$Worlds", "leastFor", "(I[I)I"⟩, prog_9_method_2_code, 8, Option.some .int, 7, 3, 5, 103),
  (⟨"TrueInk$Worlds", "fill", "([I)V"⟩, prog_9_method_12_code, 4, none, 7, 2, 4, 80),
  (⟨"TrueInk", "roomFor", "([II)[I"⟩, prog_1_method_52_code, 4, Option.some (.array .int), 8, 2, 1, 1),
  (⟨"TrueInk$Script", "unlikeFacts", "(I[I)I"⟩, prog_7_method_7_code, 7, Option.some .int, 5, 3, 1, 1),
  (⟨"TrueInk", "when", "(I)I"⟩, prog_1_method_16_code, 3, Option.some .int, 8, 2, 6, 128),
  (⟨"TrueInk$Ahead", "shadesAt", "(I[I)I"⟩, prog_2_method_2_code, 5, Option.some .int, 0, 3, 5, 104),
  (⟨"TrueInk", "stays", "(I)I"⟩, prog_1_method_17_code, 3, Option.some .int, 8, 2, 6, 128),
  (⟨"TrueInk", "longest", "(II)I"⟩, prog_1_method_18_code, 7, Option.some .int, 8, 3, 6, 128),
  (⟨"TrueInk", "isAhead", "(I)Z"⟩, prog_1_method_45_code, 1, Option.some .boolean, 8, 1, 1, 1),
  (⟨"TrueInk", "changed", "(I)I"⟩, prog_1_method_19_code, 5, Option.some .int, 8, 2, 6, 128),
  (⟨"TrueInk", "shade", "(II)I"⟩, prog_1_method_20_code, 3, Option.some .int, 8, 3, 6, 128),
  (⟨"TrueInk", "blackIn", "(I)I"⟩, prog_1_method_21_code, 2, Option.some .int, 8, 2, 6, 127),
  (⟨"TrueInk$Worlds", "blackFor", "(I[I)I"⟩, prog_9_method_3_code, 5, Option.some .int, 7, 3, 5, 103),
  (⟨"TrueInk", "grey", "(IZ)I"⟩, prog_1_method_22_code, 6, Option.some .int, 8, 3, 6, 127),
  (⟨"TrueInk$Worlds", "shadeSum", "(I[I)I"⟩, prog_9_method_4_code, 5, Option.some .int, 7, 3, 5, 103),
  (⟨"TrueInk", "commonDivisor", "(II)I"⟩, prog_1_method_51_code, 6, Option.some .int, 8, 2, 1, 1),
  (⟨"TrueInk", "weight", "(II)I"⟩, prog_1_method_23_code, 3, Option.some .int, 8, 3, 6, 132),
  (⟨"TrueInk$Worlds", "weightFor", "(II[I)I"⟩, prog_9_method_5_code, 10, Option.some .int, 7, 4, 5, 103),
  (⟨"TrueInk$Script", "factIn", "(II)I"⟩, prog_7_method_5_code, 4, Option.some .int, 5, 3, 1, 1),
  (⟨"TrueInk", "weakest", "(II)I"⟩, prog_1_method_24_code, 3, Option.some .int, 8, 3, 6, 130),
  (⟨"TrueInk$Worlds", "weakestOf", "(II[I)I"⟩, prog_9_method_6_code, 8, Option.some .int, 7, 4, 5, 103),
  (⟨"TrueInk", "bestWorld", "(I)I"⟩, prog_1_method_25_code, 3, Option.some .int, 8, 2, 6, 131),
  (⟨"TrueInk$Worlds", "bestOf", "([I)I"⟩, prog_9_method_7_code, 9, Option.some .int, 7, 2, 5, 103),
  (⟨"TrueInk$Worlds", "blackPages", "(I)I"⟩, prog_9_method_8_code, 5, Option.some .int, 7, 2, 1, 1),
  (⟨"TrueInk", "again", "(I)I"⟩, prog_1_method_26_code, 4, Option.some .int, 8, 2, 6, 128),
  (⟨"TrueInk$Ahead", "firstAs", "(I)I"⟩, prog_2_method_3_code, 3, Option.some .int, 0, 2, 1, 1),
  (⟨"TrueInk", "twins", "(II)I"⟩, prog_1_method_27_code, 3, Option.some .int, 8, 3, 7, 153),
  (⟨"TrueInk", "isBegun", "(I)Z"⟩, prog_1_method_46_code, 1, Option.some .boolean, 8, 1, 1, 1),
  (⟨"TrueInk$Begun", "reach", "(I)V"⟩, prog_3_method_15_code, 7, none, 1, 2, 6, 127),
  (⟨"TrueInk$Begun", "forgetDays", "()V"⟩, prog_3_method_16_code, 1, none, 1, 1, 2, 24),
  (⟨"TrueInk$Begun", "dayFrom", "(II)I"⟩, prog_3_method_17_code, 4, Option.some .int, 1, 3, 5, 104),
  (⟨"TrueInk$Begun", "twinOf", "(II)I"⟩, prog_3_method_9_code, 6, Option.some .int, 1, 3, 2, 24),
  (⟨"TrueInk", "rests", "(III)I"⟩, prog_1_method_28_code, 4, Option.some .int, 8, 4, 6, 132),
  (⟨"TrueInk$Worlds", "restOf", "(III[I)I"⟩, prog_9_method_9_code, 10, Option.some .int, 7, 5, 5, 103),
  (⟨"TrueInk$Worlds", "findWhitest", "(II)V"⟩, prog_9_method_10_code, 7, none, 7, 3, 3, 49),
  (⟨"TrueInk$Worlds", "partOf", "(II)I"⟩, prog_9_method_11_code, 6, Option.some .int, 7, 3, 2, 24),
  (⟨"TrueInk", "hopes", "(III)I"⟩, prog_1_method_29_code, 4, Option.some .int, 8, 4, 7, 155),
  (⟨"TrueInk$Ahead", "hopesFor", "(III[I)I"⟩, prog_2_method_4_code, 8, Option.some .int, 0, 5, 6, 128),
  (⟨"TrueInk", "see", "(III)I"⟩, prog_1_method_30_code, 4, Option.some .int, 8, 4, 2, 24),
  (⟨"TrueInk$Begun", "note", "(III)I"⟩, prog_3_method_3_code, 4, Option.some .int, 1, 4, 1, 1),
  (⟨"TrueInk", "forget", "()I"⟩, prog_1_method_31_code, 2, Option.some .int, 8, 1, 1, 1),
  (⟨"TrueInk", "fits", "(II)I"⟩, prog_1_method_32_code, 3, Option.some .int, 8, 3, 7, 153),
  (⟨"TrueInk$Begun", "isKnown", "(I)Z"⟩, prog_3_method_4_code, 2, Option.some .boolean, 1, 2, 1, 1),
  (⟨"TrueInk$Begun", "lastKnown", "(I)I"⟩, prog_3_method_5_code, 4, Option.some .int, 1, 2, 2, 22),
  (⟨"TrueInk$Begun", "fitOf", "(II)I"⟩, prog_3_method_6_code, 5, Option.some .int, 1, 3, 3, 46),
  (⟨"TrueInk$Begun", "isFit", "(II)Z"⟩, prog_3_method_14_code, 5, Option.some .boolean, 1, 3, 2, 22),
  (⟨"TrueInk", "sure", "(I)I"⟩, prog_1_method_33_code, 2, Option.some .int, 8, 2, 7, 153),
  (⟨"TrueInk$Begun", "sureFacts", "(I)I"⟩, prog_3_method_7_code, 6, Option.some .int, 1, 2, 3, 49),
  (⟨"TrueInk$Begun", "unlikeBits", "(II)I"⟩, prog_3_method_13_code, 6, Option.some .int, 1, 3, 2, 24),
  (⟨"TrueInk", "next", "(III)I"⟩, prog_1_method_34_code, 4, Option.some .int, 8, 4, 7, 153),
  (⟨"TrueInk$Begun", "tellsMost", "(III)I"⟩, prog_3_method_8_code, 8, Option.some .int, 1, 4, 4, 72),
  (⟨"TrueInk$Begun", "mostAlike", "(III)I"⟩, prog_3_method_12_code, 7, Option.some .int, 1, 4, 3, 46),
  (⟨"TrueInk", "fewest", "(II)I"⟩, prog_1_method_35_code, 4, Option.some .int, 8, 3, 7, 153),
  (⟨"TrueInk$Begun", "fewestPages", "(I)I"⟩, prog_3_method_10_code, 5, Option.some .int, 1, 2, 2, 28),
  (⟨"TrueInk$Begun", "partsAll", "(II)Z"⟩, prog_3_method_11_code, 8, Option.some .boolean, 1, 3, 1, 1),
  (⟨"TrueInk", "hold", "(I)Z"⟩, prog_1_method_36_code, 2, Option.some .boolean, 8, 2, 2, 48),
  (⟨"TrueInk", "restore", "(I)Z"⟩, prog_1_method_37_code, 2, Option.some .boolean, 8, 2, 2, 48),
  (⟨"TrueInk", "count", "(I)I"⟩, prog_1_method_38_code, 2, Option.some .int, 8, 2, 2, 23),
  (⟨"TrueInk", "blackBits", "()I"⟩, prog_1_method_42_code, 3, Option.some .int, 8, 1, 1, 1),
  (⟨"TrueInkModel", "<init>", "()V"⟩, prog_11_method_2_code, 1, none, 9, 1, 9, 187),
  (⟨"TrueInkModel", "word", "(IIIIIII)J"⟩, prog_11_method_10_code, 7, Option.some .long, 9, 7, 2, 23),
  (⟨"TrueInkModel", "appends", "(JI)J"⟩, prog_11_method_9_code, 3, Option.some .long, 9, 2, 1, 1),
  (⟨"TrueInkModel", "begins", "()V"⟩, prog_11_method_40_code, 1, none, 9, 1, 8, 167),
  (⟨"TrueInkModel", "beginsIn", "(I)V"⟩, prog_11_method_39_code, 3, none, 9, 2, 7, 145),
  (⟨"TrueInkModel", "setsWorld", "(I)V"⟩, prog_11_method_44_code, 5, none, 9, 2, 1, 1),
  (⟨"TrueInkModel", "settles", "()V"⟩, prog_11_method_53_code, 3, none, 9, 1, 6, 123),
  (⟨"TrueInkModel", "shadesNow", "()I"⟩, prog_11_method_46_code, 3, Option.some .int, 9, 1, 1, 1),
  (⟨"TrueInkModel", "steps", "()Z"⟩, prog_11_method_52_code, 3, Option.some .boolean, 9, 1, 5, 101),
  (⟨"TrueInkModel", "setsVariables", "()V"⟩, prog_11_method_48_code, 2, none, 9, 1, 1, 1),
  (⟨"TrueInkModel", "shadeNext", "(I)I"⟩, prog_11_method_51_code, 5, Option.some .int, 9, 2, 4, 77),
  (⟨"TrueInkModel", "trueOf", "(I)I"⟩, prog_11_method_50_code, 5, Option.some .int, 9, 2, 3, 53),
  (⟨"TrueInkModel", "claimIs", "(II)I"⟩, prog_11_method_49_code, 6, Option.some .int, 9, 3, 2, 28),
  (⟨"TrueInkModel", "termOf", "(II)I"⟩, prog_11_method_35_code, 8, Option.some .int, 9, 3, 1, 1),
  (⟨"TrueInkModel", "blinks", "(I)V"⟩, prog_11_method_54_code, 4, none, 9, 2, 2, 24),
  (⟨"TrueInkModel", "shadeIn", "(II)I"⟩, prog_11_method_47_code, 4, Option.some .int, 9, 2, 1, 1),
  (⟨"TrueInkModel", "keepsRow", "()V"⟩, prog_11_method_41_code, 2, none, 9, 1, 1, 1),
  (⟨"TrueInkModel", "feed", "(IIIII)I"⟩, prog_11_method_3_code, 6, Option.some .int, 9, 6, 2, 23),
  (⟨"TrueInkModel", "put", "(I)V"⟩, prog_11_method_4_code, 3, none, 9, 2, 1, 1),
  (⟨"TrueInkModel", "back", "(I)I"⟩, prog_11_method_5_code, 2, Option.some .int, 9, 2, 1, 1),
  (⟨"TrueInkModel", "read", "()I"⟩, prog_11_method_19_code, 2, Option.some .int, 9, 1, 9, 187),
  (⟨"TrueInkModel", "cut", "()V"⟩, prog_11_method_12_code, 8, none, 9, 1, 3, 50),
  (⟨"TrueInkModel", "byteAt", "(I)I"⟩, prog_11_method_6_code, 2, Option.some .int, 9, 2, 1, 1),
  (⟨"TrueInkModel", "token", "(IIIJ)V"⟩, prog_11_method_11_code, 6, none, 9, 5, 1, 1),
  (⟨"TrueInkModel", "isLetter", "(I)Z"⟩, prog_11_method_8_code, 1, Option.some .boolean, 9, 1, 1, 1),
  (⟨"TrueInkModel", "isDigit", "(I)Z"⟩, prog_11_method_7_code, 1, Option.some .boolean, 9, 1, 1, 1),
  (⟨"TrueInkModel", "sign", "(III)I"⟩, prog_11_method_13_code, 5, Option.some .int, 9, 4, 2, 26),
  (⟨"TrueInkModel", "is", "(I)Z"⟩, prog_11_method_14_code, 2, Option.some .boolean, 9, 2, 1, 1),
  (⟨"TrueInkModel", "tell", "()V"⟩, prog_11_method_22_code, 4, none, 9, 1, 7, 127),
  (⟨"TrueInkModel", "fail", "(I)V"⟩, prog_11_method_15_code, 2, none, 9, 2, 1, 1),
  (⟨"TrueInkModel", "tellFact", "()V"⟩, prog_11_method_26_code, 6, none, 9, 1, 5, 85),
  (⟨"TrueInkModel", "named", "()I"⟩, prog_11_method_24_code, 3, Option.some .int, 9, 1, 4, 63),
  (⟨"TrueInkModel", "goesOn", "()V"⟩, prog_11_method_17_code, 1, none, 9, 1, 2, 22),
  (⟨"TrueInkModel", "must", "(I)V"⟩, prog_11_method_18_code, 2, none, 9, 2, 3, 42),
  (⟨"TrueInkModel", "wrong", "(II)V"⟩, prog_11_method_16_code, 4, none, 9, 3, 1, 1),
  (⟨"TrueInkModel", "bounded", "(II)I"⟩, prog_11_method_23_code, 4, Option.some .int, 9, 3, 3, 42),
  (⟨"TrueInkModel", "notes", "(II)V"⟩, prog_11_method_25_code, 3, none, 9, 3, 1, 1),
  (⟨"TrueInkModel", "tellLaw", "(I)V"⟩, prog_11_method_29_code, 4, none, 9, 2, 6, 104),
  (⟨"TrueInkModel", "expression", "()V"⟩, prog_11_method_33_code, 3, none, 9, 1, 4, 62),
  (⟨"TrueInkModel", "unit", "()V"⟩, prog_11_method_34_code, 1, none, 9, 1, 3, 42),
  (⟨"TrueInkModel", "emit", "(II)V"⟩, prog_11_method_31_code, 3, none, 9, 3, 1, 1),
  (⟨"TrueInkModel", "comesOut", "(Z)V"⟩, prog_11_method_32_code, 3, none, 9, 2, 2, 23),
  (⟨"TrueInkModel", "term", "()V"⟩, prog_11_method_30_code, 1, none, 9, 1, 5, 84),
  (⟨"TrueInkModel", "tellPage", "()V"⟩, prog_11_method_27_code, 3, none, 9, 1, 6, 104),
  (⟨"TrueInkModel", "tellClaim", "()V"⟩, prog_11_method_28_code, 1, none, 9, 1, 5, 84),
  (⟨"TrueInkModel", "findsNames", "()V"⟩, prog_11_method_20_code, 4, none, 9, 1, 2, 24),
  (⟨"TrueInkModel", "place", "()I"⟩, prog_11_method_21_code, 1, Option.some .int, 9, 1, 1, 1),
  (⟨"TrueInkModel", "fact", "(I)I"⟩, prog_11_method_60_code, 2, Option.some .int, 9, 2, 3, 44),
  (⟨"TrueInkModel", "isFact", "(I)Z"⟩, prog_11_method_37_code, 2, Option.some .boolean, 9, 2, 2, 23),
  (⟨"TrueInkModel", "in", "(III)Z"⟩, prog_11_method_36_code, 3, Option.some .boolean, 9, 3, 1, 1),
  (⟨"TrueInkModel", "page", "(II)I"⟩, prog_11_method_61_code, 5, Option.some .int, 9, 3, 4, 77),
  (⟨"TrueInkModel", "isPage", "(I)Z"⟩, prog_11_method_38_code, 2, Option.some .boolean, 9, 2, 2, 23),
  (⟨"TrueInkModel", "copies", "()V"⟩, prog_11_method_42_code, 2, none, 9, 1, 1, 1),
  (⟨"TrueInkModel", "settled", "(I)I"⟩, prog_11_method_62_code, 2, Option.some .int, 9, 2, 2, 23),
  (⟨"TrueInkModel", "days", "(I)I"⟩, prog_11_method_64_code, 2, Option.some .int, 9, 2, 9, 188),
  (⟨"TrueInkModel", "goes", "(I)V"⟩, prog_11_method_59_code, 3, none, 9, 2, 8, 166),
  (⟨"TrueInkModel", "dayGoes", "()V"⟩, prog_11_method_58_code, 2, none, 9, 1, 7, 145),
  (⟨"TrueInkModel", "goesTo", "(I)I"⟩, prog_11_method_57_code, 6, Option.some .int, 9, 2, 2, 28),
  (⟨"TrueInkModel", "lotOf", "(I)I"⟩, prog_11_method_56_code, 2, Option.some .int, 9, 2, 2, 23),
  (⟨"TrueInkModel", "mixed", "(II)I"⟩, prog_11_method_55_code, 3, Option.some .int, 9, 2, 1, 1),
  (⟨"TrueInkModel", "keeps", "()V"⟩, prog_11_method_63_code, 2, none, 9, 1, 2, 22),
  (⟨"TrueInkModel", "set", "(II)Z"⟩, prog_11_method_65_code, 3, Option.some .boolean, 9, 3, 7, 145),
  (⟨"TrueInkModel", "wipe", "(IZ)Z"⟩, prog_11_method_66_code, 3, Option.some .boolean, 9, 3, 7, 145),
  (⟨"TrueInkModel", "undo", "()Z"⟩, prog_11_method_67_code, 2, Option.some .boolean, 9, 1, 1, 1),
  (⟨"TrueInkModel", "world", "(I)I"⟩, prog_11_method_68_code, 2, Option.some .int, 9, 2, 2, 23),
  (⟨"TrueInkModel", "worldNow", "()I"⟩, prog_11_method_45_code, 3, Option.some .int, 9, 1, 1, 1),
  (⟨"TrueInkModel", "stands", "(I)I"⟩, prog_11_method_69_code, 6, Option.some .int, 9, 2, 6, 123),
  (⟨"TrueInkModel", "when", "(I)I"⟩, prog_11_method_71_code, 3, Option.some .int, 9, 2, 8, 166),
  (⟨"TrueInkModel", "isBlack", "(I)Z"⟩, prog_11_method_70_code, 2, Option.some .boolean, 9, 2, 1, 1),
  (⟨"TrueInkModel", "stays", "(I)I"⟩, prog_11_method_72_code, 3, Option.some .int, 9, 2, 8, 166),
  (⟨"TrueInkModel", "longest", "(II)I"⟩, prog_11_method_74_code, 6, Option.some .int, 9, 3, 8, 166),
  (⟨"TrueInkModel", "isLong", "(I)Z"⟩, prog_11_method_73_code, 1, Option.some .boolean, 9, 1, 2, 23),
  (⟨"TrueInkModel", "changed", "(I)I"⟩, prog_11_method_75_code, 4, Option.some .int, 9, 2, 9, 188),
  (⟨"TrueInkModel", "shade", "(II)I"⟩, prog_11_method_76_code, 3, Option.some .int, 9, 3, 9, 188),
  (⟨"TrueInkModel", "again", "(I)I"⟩, prog_11_method_77_code, 4, Option.some .int, 9, 2, 8, 166),
  (⟨"TrueInkModel", "hopes", "(III)I"⟩, prog_11_method_78_code, 6, Option.some .int, 9, 4, 9, 188),
  (⟨"TrueInkModel", "least", "(II)I"⟩, prog_11_method_82_code, 8, Option.some .int, 9, 3, 8, 166),
  (⟨"TrueInkModel", "unlikeNow", "(I)I"⟩, prog_11_method_81_code, 4, Option.some .int, 9, 2, 2, 25),
  (⟨"TrueInkModel", "factIn", "(II)I"⟩, prog_11_method_43_code, 5, Option.some .int, 9, 3, 1, 1),
  (⟨"TrueInkModel", "tries", "(I)V"⟩, prog_11_method_79_code, 2, none, 9, 2, 7, 145),
  (⟨"TrueInkModel", "blackIn", "(I)I"⟩, prog_11_method_83_code, 4, Option.some .int, 9, 2, 9, 187),
  (⟨"TrueInkModel", "fillsWorlds", "()V"⟩, prog_11_method_80_code, 2, none, 9, 1, 8, 166),
  (⟨"TrueInkModel", "grey", "(IZ)I"⟩, prog_11_method_85_code, 6, Option.some .int, 9, 3, 9, 187),
  (⟨"TrueInkModel", "common", "(II)I"⟩, prog_11_method_84_code, 5, Option.some .int, 9, 2, 1, 1),
  (⟨"TrueInkModel", "weight", "(II)I"⟩, prog_11_method_87_code, 7, Option.some .int, 9, 3, 9, 187),
  (⟨"TrueInkModel", "counts", "(I)I"⟩, prog_11_method_86_code, 4, Option.some .int, 9, 2, 1, 1),
  (⟨"TrueInkModel", "weakest", "(II)I"⟩, prog_11_method_88_code, 7, Option.some .int, 9, 3, 8, 166),
  (⟨"TrueInkModel", "bestWorld", "(I)I"⟩, prog_11_method_90_code, 5, Option.some .int, 9, 2, 9, 187),
  (⟨"TrueInkModel", "blackPages", "(I)I"⟩, prog_11_method_89_code, 4, Option.some .int, 9, 2, 2, 24),
  (⟨"TrueInkModel", "rests", "(III)I"⟩, prog_11_method_93_code, 6, Option.some .int, 9, 4, 9, 187),
  (⟨"TrueInkModel", "isResting", "(III)Z"⟩, prog_11_method_92_code, 5, Option.some .boolean, 9, 4, 3, 49),
  (⟨"TrueInkModel", "isAlikeBut", "(III)Z"⟩, prog_11_method_91_code, 5, Option.some .boolean, 9, 4, 2, 25),
  (⟨"TrueInkModel", "twins", "(II)I"⟩, prog_11_method_97_code, 5, Option.some .int, 9, 3, 10, 210),
  (⟨"TrueInkModel", "isMonth", "(I)Z"⟩, prog_11_method_96_code, 1, Option.some .boolean, 9, 1, 2, 23),
  (⟨"TrueInkModel", "fillsBehind", "(I)V"⟩, prog_11_method_94_code, 3, none, 9, 2, 9, 188),
  (⟨"TrueInkModel", "clears", "()V"⟩, prog_11_method_95_code, 2, none, 9, 1, 1, 1),
  (⟨"TrueInkModel", "fewest", "(II)I"⟩, prog_11_method_100_code, 5, Option.some .int, 9, 3, 10, 210),
  (⟨"TrueInkModel", "bits", "(I)I"⟩, prog_11_method_98_code, 3, Option.some .int, 9, 1, 1, 1),
  (⟨"TrueInkModel", "tellsAll", "(I)Z"⟩, prog_11_method_99_code, 5, Option.some .boolean, 9, 2, 2, 24),
  (⟨"TrueInkModel", "see", "(III)I"⟩, prog_11_method_101_code, 4, Option.some .int, 9, 4, 3, 44),
  (⟨"TrueInkModel", "forget", "()I"⟩, prog_11_method_102_code, 2, Option.some .int, 9, 1, 1, 1),
  (⟨"TrueInkModel", "fits", "(II)I"⟩, prog_11_method_105_code, 5, Option.some .int, 9, 3, 9, 192),
  (⟨"TrueInkModel", "isKnown", "(I)Z"⟩, prog_11_method_104_code, 2, Option.some .boolean, 9, 2, 2, 23),
  (⟨"TrueInkModel", "isFit", "(II)Z"⟩, prog_11_method_103_code, 6, Option.some .boolean, 9, 3, 8, 167),
  (⟨"TrueInkModel", "sure", "(I)I"⟩, prog_11_method_106_code, 6, Option.some .int, 9, 2, 9, 192),
  (⟨"TrueInkModel", "next", "(III)I"⟩, prog_11_method_107_code, 10, Option.some .int, 9, 4, 9, 192),
  (⟨"TrueInkModel", "hold", "(I)Z"⟩, prog_11_method_108_code, 3, Option.some .boolean, 9, 2, 2, 23),
  (⟨"TrueInkModel", "restore", "(I)Z"⟩, prog_11_method_109_code, 3, Option.some .boolean, 9, 2, 2, 23),
  (⟨"TrueInkModel", "count", "(I)I"⟩, prog_11_method_110_code, 4, Option.some .int, 9, 2, 1, 1),
  (⟨"TrueInkLaw", "law", "([I)Z"⟩, code, 4, Option.some .boolean, 10, 1, 11, 234)]
def m_at (mi : Nat) : MethodName × ByteArray × Nat × Option FieldType × Nat × Nat × Nat × Nat := mtab.getD mi (⟨"", "", ""⟩, code, 0, none, 0, 0, 0, 0)
def m_y (mi : Nat) : MethodName := (m_at mi).1
def m_b (mi : Nat) : ByteArray := (m_at mi).2.1
def m_l (mi : Nat) : Nat := (m_at mi).2.2.1
def m_r (mi : Nat) : Option FieldType := (m_at mi).2.2.2.1
def m_o (mi : Nat) : Nat := (m_at mi).2.2.2.2.1
def m_n (mi : Nat) : Nat := (m_at mi).2.2.2.2.2.1
def m_fr (mi : Nat) : Nat := (m_at mi).2.2.2.2.2.2.1
def m_lo (mi : Nat) : Nat := (m_at mi).2.2.2.2.2.2.2
def x_own : List String := ["TrueInk$Ahead", "TrueInk$Begun", "TrueInk$Past", "TrueInk$Press", "TrueInk$Reader", "TrueInk$Script", "TrueInk$Stands", "TrueInk$Worlds", "TrueInk", "TrueInkModel", "TrueInkLaw", "java/lang/Integer", "java/lang/Long", "java/util/Arrays", "java/lang/Math"]
def cp_M : List (Nat × Nat × Nat × Nat) := [(3, 1101, 3, 0), (38, 1100, 3, 0), (44, 62, 1, 1), (48, 56, 0, 0), (56, 83, 0, 0), (63, 108, 0, 0), (67, 68, 1, 1), (4099, 1101, 3, 0), (4149, 21, 1, 0), (4166, 148, 0, 0), (4173, 151, 0, 0), (4179, 154, 0, 0), (4183, 105, 1, 1), (4187, 25, 1, 0), (4193, 95, 1, 0), (4202, 157, 0, 0), (4205, 68, 1, 1), (4208, 121, 0, 0), (4215, 132, 0, 0), (4218, 57, 0, 0), (4221, 62, 1, 1), (4225, 133, 0, 0), (4228, 58, 0, 0), (4231, 66, 1, 1), (4237, 83, 0, 0), (4240, 56, 0, 0), (8195, 1101, 3, 0), (8211, 1100, 3, 0), (8220, 22, 1, 0), (12291, 1101, 3, 0), (12316, 25, 1, 0), (12322, 58, 0, 0), (12327, 59, 0, 0), (12338, 61, 0, 0), (12348, 22, 1, 0), (12354, 21, 1, 0), (12360, 84, 1, 0), (12363, 60, 0, 0), (12366, 62, 1, 1), (12373, 63, 0, 0), (12377, 65, 1, 0), (12381, 66, 1, 1), (12384, 67, 0, 0), (12396, 64, 0, 0), (12399, 95, 1, 0), (12405, 78, 0, 0), (12412, 68, 1, 1), (12415, 85, 1, 0), (16387, 1101, 3, 0), (16420, 1102, 3, 0), (16426, 1103, 3, 0), (16430, 2, 1, 0), (16438, 24, 0, 0), (16459, 26, 0, 0), (16462, 36, 0, 0), (16465, 44, 0, 0), (16468, 47, 0, 0), (16471, 48, 0, 0), (16474, 27, 0, 0), (16478, 50, 0, 0), (16481, 51, 0, 0), (16487, 53, 0, 0), (16498, 15, 1, 0), (16502, 16, 0, 0), (16506, 17, 1, 0), (16509, 18, 0, 0), (16513, 19, 1, 0), (16520, 20, 1, 0), (16526, 28, 0, 0), (16529, 29, 0, 0), (16538, 34, 1, 0), (16544, 35, 1, 0), (16556, 22, 1, 0), (16565, 30, 0, 0), (16569, 33, 0, 0), (16575, 31, 0, 0), (16583, 37, 0, 0), (16586, 38, 0, 0), (16590, 41, 0, 0), (16602, 45, 0, 0), (16605, 46, 0, 0), (16623, 39, 0, 0), (16626, 40, 0, 0), (16630, 42, 1, 0), (16634, 43, 0, 0), (16637, 21, 1, 0), (16639, 32, 0, 0), (16642, 52, 0, 0), (16650, 1104, 3, 0), (20483, 1101, 3, 0), (20548, 25, 1, 0), (20554, 56, 0, 0), (24579, 1101, 3, 0), (24621, 93, 1, 0), (24627, 1100, 3, 0), (24633, 60, 0, 0), (24637, 94, 0, 0), (24644, 96, 0, 0), (24648, 97, 0, 0), (24652, 99, 1, 0), (24658, 100, 1, 0), (24662, 63, 0, 0), (28675, 1101, 3, 0), (28709, 56, 0, 0), (28715, 104, 0, 0), (28723, 68, 1, 1), (28727, 106, 0, 0), (28737, 121, 0, 0), (28743, 25, 1, 0), (28748, 1100, 3, 0), (28754, 58, 0, 0), (28757, 66, 1, 1), (28760, 78, 0, 0), (28764, 126, 0, 0), (28768, 137, 0, 0), (28778, 138, 0, 0), (28781, 105, 1, 1), (28785, 22, 1, 0), (28797, 59, 0, 0), (28800, 62, 1, 1), (32769, 1101, 3, 0), (32790, 1, 2, 0), (32797, 3, 2, 1), (32807, 4, 2, 0), (32820, 5, 2, 1), (32833, 6, 2, 0), (32842, 7, 2, 0), (32849, 8, 2, 0), (32856, 9, 2, 0), (32861, 11, 0, 0), (32865, 14, 0, 0), (32869, 23, 0, 0), (32872, 49, 0, 0), (32877, 54, 0, 0), (32880, 74, 0, 0), (32884, 76, 0, 0), (32887, 77, 0, 0), (32894, 79, 0, 0), (32898, 82, 0, 0), (32905, 83, 0, 0), (32909, 71, 0, 0), (32915, 59, 0, 0), (32918, 89, 0, 0), (32922, 56, 0, 0), (32929, 92, 0, 0), (32935, 98, 0, 0), (32939, 102, 1, 0), (32942, 103, 0, 0), (32945, 106, 0, 0), (32948, 108, 0, 0), (32951, 68, 1, 0), (32955, 111, 1, 0), (32958, 21, 1, 0), (32966, 115, 0, 0), (32969, 117, 0, 0), (32972, 118, 1, 0), (32975, 120, 0, 0), (32979, 123, 0, 0), (32982, 125, 0, 0), (32985, 126, 0, 0), (32988, 128, 0, 0), (32991, 130, 1, 0), (32994, 131, 0, 0), (32997, 134, 0, 0), (33000, 136, 0, 0), (33004, 140, 0, 0), (33007, 142, 0, 0), (33014, 145, 0, 0), (33017, 146, 0, 0), (33020, 147, 0, 0), (33023, 150, 0, 0), (33026, 153, 0, 0), (33029, 156, 0, 0), (33032, 95, 1, 0), (33037, 1100, 3, 0), (33043, 69, 0, 0), (33052, 161, 0, 0), (33065, 55, 0, 0), (33068, 57, 0, 0), (33071, 70, 0, 0), (36871, 1101, 3, 0), (37046, 163, 1, 0), (37050, 165, 0, 0), (37053, 178, 0, 0), (37059, 180, 0, 0), (37068, 164, 1, 0), (37075, 184, 0, 0), (37079, 185, 0, 0), (37083, 186, 1, 0), (37087, 187, 1, 0), (37090, 188, 0, 0), (37109, 191, 0, 0), (37112, 189, 0, 0), (37115, 194, 0, 0), (37118, 183, 0, 0), (37145, 190, 0, 0), (37148, 207, 0, 0), (37157, 196, 0, 0), (37165, 192, 0, 0), (37168, 195, 0, 0), (37171, 199, 0, 0), (37174, 205, 0, 0), (37177, 197, 0, 0), (37181, 193, 0, 0), (37185, 198, 0, 0), (37188, 206, 0, 0), (37191, 200, 0, 0), (37194, 204, 0, 0), (37200, 202, 0, 0), (37203, 201, 0, 0), (37206, 203, 0, 0), (37213, 211, 1, 0), (37217, 167, 0, 0), (37223, 168, 0, 0), (37226, 166, 0, 0), (37229, 175, 0, 0), (37232, 174, 0, 0), (37235, 173, 0, 0), (37238, 171, 0, 0), (37241, 172, 0, 0), (37244, 169, 0, 0), (37247, 170, 0, 0), (37251, 176, 0, 0), (37254, 177, 1, 0), (37258, 221, 1, 0), (37261, 219, 0, 0), (37264, 220, 0, 0), (37267, 218, 0, 0), (37270, 210, 0, 0), (37273, 213, 0, 0), (37276, 214, 0, 0), (37279, 217, 0, 0), (37282, 222, 0, 0), (37285, 227, 0, 0), (37288, 230, 0, 0), (37291, 233, 1, 0), (37294, 241, 0, 0), (37297, 240, 0, 0), (37300, 239, 0, 0), (37303, 243, 0, 0), (37306, 245, 1, 0), (37309, 247, 0, 0), (37312, 250, 0, 0), (37315, 253, 0, 0), (37318, 252, 0, 0), (37321, 255, 1, 0), (37324, 256, 0, 0), (37327, 257, 0, 0), (37330, 259, 1, 0), (37333, 260, 0, 0), (37336, 264, 0, 0), (37339, 265, 0, 0), (40969, 0, 2, 0), (40972, 162, 2, 0), (40973, 10, 0, 0), (40977, 179, 0, 0), (40978, 12, 0, 0), (40982, 181, 0, 0), (40983, 13, 0, 0), (40987, 182, 0, 0), (40988, 72, 0, 0), (40991, 208, 0, 0), (40992, 73, 0, 0), (40995, 209, 0, 0), (40996, 75, 0, 0), (41000, 212, 0, 0), (41001, 80, 0, 0), (41004, 215, 0, 0), (41005, 81, 0, 0), (41008, 216, 0, 0), (41009, 86, 0, 0), (41013, 223, 0, 0), (41014, 87, 0, 0), (41018, 224, 0, 0), (41019, 88, 0, 0), (41023, 225, 0, 0), (41024, 90, 0, 0), (41027, 226, 0, 0), (41028, 91, 0, 0), (41031, 228, 0, 0), (41032, 101, 0, 0), (41035, 238, 0, 0), (41036, 107, 0, 0), (41039, 229, 0, 0), (41040, 109, 0, 0), (41043, 231, 0, 0), (41044, 110, 0, 0), (41047, 232, 0, 0), (41048, 112, 0, 0), (41051, 234, 0, 0), (41052, 113, 0, 0), (41055, 235, 0, 0), (41056, 114, 0, 0), (41059, 242, 0, 0), (41060, 116, 0, 0), (41064, 244, 0, 0), (41065, 119, 0, 0), (41068, 246, 0, 0), (41069, 122, 0, 0), (41072, 248, 0, 0), (41073, 124, 0, 0), (41076, 249, 0, 0), (41077, 127, 0, 0), (41080, 236, 0, 0), (41081, 129, 0, 0), (41084, 254, 0, 0), (41085, 135, 0, 0), (41089, 251, 0, 0), (41090, 139, 0, 0), (41093, 237, 0, 0), (41094, 141, 0, 0), (41097, 261, 0, 0), (41098, 143, 0, 0), (41101, 262, 0, 0), (41102, 144, 0, 0), (41105, 263, 0, 0), (41106, 149, 0, 0), (41109, 266, 0, 0), (41110, 152, 0, 0), (41113, 267, 0, 0), (41114, 155, 0, 0), (41117, 258, 0, 0), (41118, 158, 0, 0), (41122, 268, 0, 0), (41123, 159, 0, 0), (41126, 269, 0, 0), (41127, 160, 0, 0), (41130, 270, 0, 0)]
def cp_F : List (Nat × Nat × Nat × Nat) := [(9, 0, 0, 0), (15, 0, 2, 2), (19, 0, 3, 2), (22, 0, 4, 2), (25, 0, 5, 2), (28, 0, 1, 2), (32, 3, 0, 2), (53, 5, 3, 0), (60, 5, 2, 0), (4105, 1, 2, 2), (4111, 1, 3, 2), (4114, 1, 4, 2), (4117, 1, 5, 2), (4120, 1, 6, 2), (4123, 1, 7, 0), (4127, 1, 8, 2), (4130, 1, 9, 2), (4133, 1, 10, 2), (4136, 1, 11, 2), (4139, 1, 12, 2), (4142, 1, 1, 2), (4146, 1, 0, 0), (4155, 3, 0, 2), (4161, 5, 6, 0), (4170, 5, 0, 0), (4176, 5, 1, 0), (4211, 5, 8, 1), (4234, 5, 3, 0), (8201, 2, 2, 2), (8207, 2, 1, 0), (8217, 2, 0, 0), (12297, 3, 1, 2), (12303, 3, 2, 2), (12306, 3, 3, 2), (12309, 3, 4, 2), (12312, 3, 0, 2), (12331, 5, 0, 0), (12335, 5, 12, 2), (12342, 5, 9, 2), (12345, 3, 5, 0), (12357, 5, 2, 0), (12370, 5, 1, 0), (12387, 5, 14, 2), (12390, 5, 15, 2), (12393, 5, 16, 2), (12409, 5, 13, 2), (12419, 5, 17, 2), (12422, 5, 7, 0), (16393, 4, 9, 2), (16399, 4, 10, 2), (16403, 4, 11, 2), (16406, 4, 12, 2), (16409, 4, 13, 2), (16412, 4, 14, 2), (16415, 4, 15, 2), (16434, 4, 8, 2), (16443, 4, 1, 0), (16447, 4, 0, 0), (16450, 4, 2, 0), (16453, 4, 3, 0), (16456, 4, 5, 0), (16484, 5, 2, 0), (16491, 5, 8, 1), (16495, 4, 4, 0), (16523, 5, 0, 0), (16533, 5, 9, 2), (16547, 5, 10, 2), (16550, 5, 11, 2), (16553, 5, 6, 0), (16559, 5, 4, 0), (16562, 5, 5, 0), (16578, 5, 12, 2), (16581, 5, 7, 0), (16593, 5, 17, 2), (16596, 5, 1, 0), (16599, 4, 6, 0), (16608, 5, 14, 2), (16611, 5, 13, 2), (16614, 5, 16, 2), (16617, 5, 3, 0), (16620, 4, 7, 0), (16645, 5, 15, 2), (20489, 5, 6, 0), (20495, 5, 8, 1), (20499, 5, 9, 2), (20503, 5, 10, 2), (20506, 5, 11, 2), (20509, 5, 12, 2), (20512, 5, 13, 2), (20515, 5, 14, 2), (20518, 5, 15, 2), (20521, 5, 16, 2), (20524, 5, 17, 2), (20527, 5, 0, 0), (20530, 5, 1, 0), (20533, 5, 2, 0), (20536, 5, 3, 0), (20539, 5, 4, 0), (20542, 5, 5, 0), (20545, 5, 7, 0), (24585, 6, 3, 2), (24591, 6, 4, 2), (24594, 6, 5, 2), (24598, 6, 2, 2), (24602, 6, 0, 1), (24606, 3, 0, 2), (24612, 5, 1, 0), (24641, 6, 1, 0), (28681, 7, 2, 2), (28687, 7, 3, 2), (28690, 7, 4, 2), (28693, 7, 5, 2), (28696, 7, 6, 2), (28699, 7, 1, 2), (28703, 3, 0, 2), (28719, 5, 6, 0), (28731, 5, 9, 2), (28734, 5, 11, 2), (28740, 5, 14, 2), (28772, 5, 4, 0), (28775, 5, 5, 0), (28790, 5, 0, 0), (28793, 7, 0, 1), (32777, 8, 0, 2), (32781, 8, 1, 0), (32785, 8, 2, 0), (32791, 8, 3, 2), (32798, 8, 4, 2), (32802, 8, 5, 2), (32810, 8, 6, 2), (32814, 8, 7, 2), (32821, 8, 8, 2), (32825, 8, 9, 2), (32828, 8, 10, 0), (32836, 8, 11, 2), (32843, 8, 12, 2), (32850, 8, 13, 2), (32857, 8, 14, 2), (32876, 4, 0, 0), (32891, 5, 14, 2), (32902, 5, 3, 0), (32912, 5, 9, 2), (32926, 5, 6, 0), (32932, 6, 1, 0), (32963, 5, 1, 0), (33011, 1, 0, 0), (33046, 5, 0, 0), (33049, 5, 2, 0), (33055, 2, 0, 0), (33058, 5, 4, 0), (33061, 5, 5, 0), (33064, 3, 0, 2), (33072, 7, 0, 1), (33076, 6, 0, 1), (33077, 0, 0, 0), (36877, 9, 1, 2), (36881, 9, 3, 2), (36884, 9, 5, 2), (36888, 9, 6, 2), (36891, 9, 7, 2), (36894, 9, 8, 2), (36898, 9, 9, 2), (36901, 9, 17, 0), (36904, 9, 21, 2), (36907, 9, 22, 2), (36910, 9, 23, 2), (36913, 9, 24, 2), (36916, 9, 25, 2), (36919, 9, 26, 2), (36922, 9, 27, 2), (36925, 9, 28, 2), (36928, 9, 29, 2), (36931, 9, 30, 2), (36934, 9, 31, 2), (36937, 9, 33, 2), (36940, 9, 34, 2), (36943, 9, 35, 2), (36946, 9, 36, 2), (36949, 9, 37, 2), (36952, 9, 38, 2), (36955, 9, 40, 2), (36958, 9, 41, 2), (36961, 9, 43, 2), (36964, 9, 44, 2), (36967, 9, 46, 2), (36971, 9, 47, 2), (36974, 9, 48, 2), (36977, 9, 49, 2), (36980, 9, 50, 2), (36983, 9, 52, 2), (36986, 9, 53, 2), (36989, 9, 54, 2), (36992, 9, 56, 2), (36995, 9, 57, 2), (36998, 9, 59, 2), (37001, 9, 60, 2), (37004, 9, 62, 2), (37007, 9, 63, 2), (37010, 9, 64, 2), (37013, 9, 66, 2), (37016, 9, 67, 2), (37019, 9, 68, 2), (37022, 9, 69, 2), (37025, 9, 70, 2), (37028, 9, 72, 2), (37031, 9, 73, 2), (37034, 9, 74, 2), (37037, 9, 75, 2), (37040, 9, 76, 2), (37043, 9, 77, 2), (37056, 9, 2, 0), (37063, 9, 4, 0), (37072, 9, 10, 0), (37094, 9, 13, 0), (37097, 9, 11, 0), (37100, 9, 14, 0), (37103, 9, 15, 0), (37106, 9, 16, 0), (37121, 9, 12, 0), (37124, 9, 18, 0), (37127, 9, 19, 0), (37130, 9, 20, 0), (37133, 9, 39, 0), (37136, 9, 32, 0), (37139, 9, 45, 0), (37142, 9, 51, 0), (37151, 9, 65, 0), (37154, 9, 71, 0), (37161, 9, 42, 1), (37197, 9, 55, 0), (37210, 9, 58, 1), (37220, 9, 61, 0)]
def cp_S : List (Nat × Nat × Nat) := [(4199, 1, 1), (24618, 1, 1), (33080, 1, 0)]
def cp_T : List (Nat × Nat) := [(16418, 2), (16648, 3)]
def cp_I : List (Nat × Int) := [(12418, 1103515245), (37257, 1103515245), (45321, 1431655765), (45322, 858993459), (45323, 252645135)]
def cp_L : List (Nat × Int) := [(16516, 10), (16518, 48), (16536, 3), (16573, 2000), (37066, 27), (49466, 6148914691236517205), (49468, 3689348814741910323), (49470, 1085102592571150095)]
def cp_N : List (Nat × Nat) := [(32788, 4), (32795, 5), (32805, 3), (32818, 2), (32831, 7), (32840, 6), (32847, 0), (32854, 1), (40967, 8), (40970, 9)]
def x_lk {α : Type} (k : Nat) (l : List (Nat × α)) : Option α := match l with
  | [] => none
  | q :: r => if q.1 = k then some q.2 else x_lk k r
def x_pc (pc : Nat) (off : Int) : Nat := ((pc : Int) + off).toNat
/-- code, number, x, y, next, switch; only where the length is the one that the machine's row wants -/
def x_op (ok : Bool) (o : XO) : Option XO := if ok = true then some o else none
def x_jmp (ok : Bool) (pc : Nat) (off : Int) (o : Nat → XO) : Option XO := if ok = true ∧ 0 ≤ (pc : Int) + off then some (o (x_pc pc off)) else none
def x_tsw (pc : Nat) (lo : Int) (offs : List Int) : List (Int × Nat) := match offs with
  | [] => []
  | o :: r => (lo, x_pc pc o) :: x_tsw pc (lo + 1) r
def x_fget (q : Option (Nat × Nat × Nat)) (nx : Nat) : Option XO := match q with
  | some (ci, j, 2) => some (27, 0, ci, j, nx, [])
  | some (ci, j, _) => some (26, 0, ci, j, nx, [])
  | none => none
def x_fput (q : Option (Nat × Nat × Nat)) (nx : Nat) : Option XO := match q with
  | some (ci, j, 0) => some (28, 0, ci, j, nx, [])
  | some (ci, j, 1) => some (29, 0, ci, j, nx, [])
  | some (ci, j, _) => some (30, 0, ci, j, nx, [])
  | none => none
/-- kind 0 virtual, 1 static, 2 constructor, 3 of the machine's own -/
def x_call (k : Nat) (q : Option (Nat × Nat × Nat)) (nx : Nat) : Option XO := match q with
  | some (t, kd, _) => if kd = 3 then (match t with
      | 1100 => if k = 1 then some (42, 0, 0, 0, nx, []) else none
      | 1101 => if k = 2 then some (45, 0, 0, 0, nx, []) else none
      | _ => if k = 0 then some (51, 0, t, 0, nx, []) else none)
    else if kd = k then some (50, (kd : Int), t, m_n t, nx, []) else none
  | none => none
def x_tr (oc : Nat) (rt : Option FieldType) (pc : Nat) (i : Instr) (len : Nat) : Option XO := match i with
  | .iconst n => x_op (len = 1) (0, n, 0, 0, pc + 1, [])
  | .bipush n => x_op (len = 2) (0, (Int8.ofInt n).toInt32.toInt, 0, 0, pc + 2, [])
  | .sipush n => x_op (len = 3) (0, (Int16.ofInt n).toInt32.toInt, 0, 0, pc + 3, [])
  | .iload_n k => x_op (len = 1) (1, 0, (k : Nat), 0, pc + 1, [])
  | .iload k => x_op (len = 2) (1, 0, k, 0, pc + 2, [])
  | .aload_n k => x_op (len = 1) (2, 0, (k : Nat), 0, pc + 1, [])
  | .aload k => x_op (len = 2) (2, 0, k, 0, pc + 2, [])
  | .lload_n k => x_op (len = 1) (3, 0, (k : Nat), 0, pc + 1, [])
  | .lload k => x_op (len = 2) (3, 0, k, 0, pc + 2, [])
  | .istore_n k => x_op (len = 1) (4, 0, (k : Nat), 0, pc + 1, [])
  | .istore k => x_op (len = 2) (4, 0, k, 0, pc + 2, [])
  | .astore_n k => x_op (len = 1) (5, 0, (k : Nat), 0, pc + 1, [])
  | .astore k => x_op (len = 2) (5, 0, k, 0, pc + 2, [])
  | .lstore_n k => x_op (len = 1) (6, 0, (k : Nat), 0, pc + 1, [])
  | .lstore k => x_op (len = 2) (6, 0, k, 0, pc + 2, [])
  | .iinc k n => x_op (len = 3) (7, n, k, 0, pc + 3, [])
  | .iadd => x_op (len = 1) (8, 0, 0, 0, pc + 1, [])
  | .isub => x_op (len = 1) (8, 0, 1, 0, pc + 1, [])
  | .imul => x_op (len = 1) (8, 0, 2, 0, pc + 1, [])
  | .iand => x_op (len = 1) (8, 0, 3, 0, pc + 1, [])
  | .ior => x_op (len = 1) (8, 0, 4, 0, pc + 1, [])
  | .ixor => x_op (len = 1) (8, 0, 5, 0, pc + 1, [])
  | .ishl => x_op (len = 1) (8, 0, 6, 0, pc + 1, [])
  | .ishr => x_op (len = 1) (8, 0, 7, 0, pc + 1, [])
  | .iushr => x_op (len = 1) (8, 0, 8, 0, pc + 1, [])
  | .idiv => x_op (len = 1) (9, 0, 0, 0, pc + 1, [])
  | .irem => x_op (len = 1) (10, 0, 0, 0, pc + 1, [])
  | .ladd => x_op (len = 1) (11, 0, 0, 0, pc + 1, [])
  | .lsub => x_op (len = 1) (11, 0, 1, 0, pc + 1, [])
  | .lmul => x_op (len = 1) (11, 0, 2, 0, pc + 1, [])
  | .land => x_op (len = 1) (11, 0, 3, 0, pc + 1, [])
  | .lor => x_op (len = 1) (11, 0, 4, 0, pc + 1, [])
  | .lshl => x_op (len = 1) (12, 0, 0, 0, pc + 1, [])
  | .lushr => x_op (len = 1) (13, 0, 0, 0, pc + 1, [])
  | .i2l => x_op (len = 1) (14, 0, 0, 0, pc + 1, [])
  | .l2i => x_op (len = 1) (15, 0, 0, 0, pc + 1, [])
  | .i2b => x_op (len = 1) (16, 0, 0, 0, pc + 1, [])
  | .i2c => x_op (len = 1) (17, 0, 0, 0, pc + 1, [])
  | .lcmp => x_op (len = 1) (18, 0, 0, 0, pc + 1, [])
  | .lconst k => x_op (len = 1) (19, ((k : Nat) : Int), 0, 0, pc + 1, [])
  | .ldc2_w k => match x_lk (oc * 4096 + k) cp_L with
    | some v => x_op (len = 3) (19, v, 0, 0, pc + 3, [])
    | none => none
  | .ldc k => match x_lk (oc * 4096 + k) cp_I with
    | some v => x_op (len = 2) (0, v, 0, 0, pc + 2, [])
    | none => match x_lk (oc * 4096 + k) cp_T with
      | some r => x_op (len = 2) (40, 0, r, 0, pc + 2, [])
      | none => none
  | .ldc_w k => match x_lk (oc * 4096 + k) cp_I with
    | some v => x_op (len = 3) (0, v, 0, 0, pc + 3, [])
    | none => match x_lk (oc * 4096 + k) cp_T with
      | some r => x_op (len = 3) (40, 0, r, 0, pc + 3, [])
      | none => none
  | .goto off => x_jmp (len = 3) pc off (fun t => (20, 0, t, 0, pc + 3, []))
  | .if_icmp c off => x_jmp (len = 3) pc off (fun t => (21, 0, t, (match c with
      | .eq => 0
      | .ne => 1
      | .lt => 2
      | .ge => 3
      | .gt => 4
      | .le => 5), pc + 3, []))
  | .ifCond c off => x_jmp (len = 3) pc off (fun t => (22, 0, t, (match c with
      | .eq => 0
      | .ne => 1
      | .lt => 2
      | .ge => 3
      | .gt => 4
      | .le => 5), pc + 3, []))
  | .dup => x_op (len = 1) (23, 0, 0, 0, pc + 1, [])
  | .dup2 => x_op (len = 1) (24, 0, 0, 0, pc + 1, [])
  | .pop => x_op (len = 1) (25, 0, 0, 0, pc + 1, [])
  | .getfield k => if len = 3 then x_fget (x_lk (oc * 4096 + k) cp_F) (pc + 3) else none
  | .putfield k => if len = 3 then x_fput (x_lk (oc * 4096 + k) cp_F) (pc + 3) else none
  | .iaload => x_op (len = 1) (31, 0, 0, 0, pc + 1, [])
  | .iastore => x_op (len = 1) (32, 0, 0, 0, pc + 1, [])
  | .laload => x_op (len = 1) (33, 0, 0, 0, pc + 1, [])
  | .lastore => x_op (len = 1) (34, 0, 0, 0, pc + 1, [])
  | .baload => x_op (len = 1) (35, 0, 0, 0, pc + 1, [])
  | .bastore => x_op (len = 1) (36, 0, 0, 0, pc + 1, [])
  | .arraylength => x_op (len = 1) (37, 0, 0, 0, pc + 1, [])
  | .newarray t => match t with
    | .int => x_op (len = 2) (38, 0, 1, 0, pc + 2, [])
    | .byte => x_op (len = 2) (38, 0, 2, 0, pc + 2, [])
    | .boolean => x_op (len = 2) (38, 0, 3, 0, pc + 2, [])
    | .long => x_op (len = 2) (38, 0, 4, 0, pc + 2, [])
    | _ => none
  | .new k => match x_lk (oc * 4096 + k) cp_N with
    | some ci => x_op (len = 3) (39, 0, ci, 0, pc + 3, [])
    | none => none
  | .getstatic k => match x_lk (oc * 4096 + k) cp_S with
    | some (r, _) => x_op (len = 3) (40, 0, r, 0, pc + 3, [])
    | none => none
  | .tableswitch d lo _ offs => x_jmp (offs.all fun o => decide (0 ≤ (pc : Int) + o)) pc d (fun t => (41, 0, t, 0, 0, x_tsw pc lo offs.toList))
  | .lookupswitch d ps => x_jmp ((ps.toList.zip (ps.toList.drop 1)).all (fun (a, next) => a.1 < next.1) && ps.all fun o => decide (0 ≤ (pc : Int) + o.2)) pc d (fun t => (41, 0, t, 0, 0, ps.toList.map fun q => (q.1, x_pc pc q.2)))
  | .invokevirtual k => if len = 3 then x_call 0 (x_lk (oc * 4096 + k) cp_M) (pc + 3) else none
  | .invokestatic k => if len = 3 then x_call 1 (x_lk (oc * 4096 + k) cp_M) (pc + 3) else none
  | .invokespecial k => if len = 3 then x_call 2 (x_lk (oc * 4096 + k) cp_M) (pc + 3) else none
  | .ireturn => x_op (len = 1) (60, 0, (if rt = some .int then 1 else 2), 0, 0, [])
  | .lreturn => x_op (len = 1) (60, 0, 3, 0, 0, [])
  | .areturn => x_op (len = 1) (60, 0, 4, 0, 0, [])
  | .return_ => x_op (len = 1) (60, 0, 0, 0, 0, [])
  | _ => none
def x_ops (mi pc : Nat) : Option XO := match decode (m_b mi) pc with
  | .ok q => x_tr (m_o mi) (m_r mi) pc q.1 q.2
  | .error _ => none
def x_ret (x : Nat) (st : List Value) (h : XH) : Option (Value × XH) := match x, st with
  | 0, [] => some (.null, h)
  | 1, [.int v] => some (.int v, h)
  | 2, [.int v] => if v = 0 ∨ v = 1 then some (.int v, h) else none
  | 3, [.long v] => some (.long v, h)
  | 4, [.ref v] => some (.ref v, h)
  | _, _ => none
def x_fl (as : List Value) : List Value := as.flatMap fun v => if v.category = 2 then [v, .null] else [v]
def x_ini (mi : Nat) (as : List Value) : List Value := x_fl as ++ List.replicate (m_l mi - (x_fl as).length) .null
def x_push (r : Value) (st : List Value) : List Value := match r with
  | .null => st
  | v => v :: st
/-- what the two texts hold -/
def x_txt (r : Nat) : List Nat := if r = 2 then [102,97,99,116,32,109,105,110,101,32,121,111,117,114,115,32,103,111,101,115,32,112,97,103,101,32,97,108,108,32,115,111,109,101,32,112,97,114,116,32,97,110,100,32,115,108,105,112,115,32,115,101,101,100,32,105,102,32,116,104,101,110,32,101,108,115,101,32,116,104,105,115,32,100,97,121,32] else [59,61,43,45,42,47,60,62,40,41]
def x_idx (l : List Nat) (c : Int) (i : Nat) : Int32 := match l with
  | [] => -1
  | q :: r => if (q : Int) = c then Int32.ofNat i else x_idx r c (i + 1)
def x_prim (t : Nat) (st : List Value) (h : XH) : Option (List Value) := match t, st with
  | 1102, .ref a :: st => if (a = 2 ∨ a = 3) ∧ (st.map fun v => v.category).sum ≤ 8 then some (.int (Int32.ofNat (x_txt a).length) :: st) else none
  | 1103, .int i :: .ref a :: st => if (a = 2 ∨ a = 3) ∧ ¬ (i < 0 ∨ (x_txt a).length ≤ i.toNatClampNeg) ∧ (st.map fun v => v.category).sum ≤ 8 then some (.int (Int32.ofNat ((x_txt a).getD i.toNatClampNeg 0)) :: st) else none
  | 1104, .int c :: .ref a :: st => if (a = 2 ∨ a = 3) ∧ (st.map fun v => v.category).sum ≤ 8 then some (.int (x_idx (x_txt a) c.toInt 0) :: st) else none
  | _, _ => none
/-- the receiver's class, of a call of kind 0 -/
def x_rcv (imm : Int) (x : Nat) (as : List Value) (h : XH) : Prop := imm = 0 → ∃ a, as.head? = some (.ref a) ∧ xK h a = 10 + m_o x
def x_rcvb (imm : Int) (x : Nat) (as : List Value) (h : XH) : Bool := if imm = 0 then (match as with
  | .ref a :: _ => decide (xK h a = 10 + m_o x)
  | _ => false) else if imm = 2 then (match as with
  | .ref _ :: _ => true
  | _ => false) else true
def x_run : Nat → Nat → Nat → List Value → List Value → XH → Option (Value × XH)
  | 0, _, _, _, _, _ => none
  | n + 1, mi, pc, ls, st, h =>
    match x_ops mi pc with
    | none => none
    | some (code, imm, x, y, nx, sw) =>
      if code = 60 then x_ret x st h
      else if code = 50 then
        if y ≤ st.length ∧ ((st.drop y).map fun v => v.category).sum ≤ 8 ∧ m_fr x + 1 ≤ m_fr mi ∧ 8 + (m_l x + 11) + m_lo x ≤ m_lo mi ∧ (x_fl (st.take y).reverse).length ≤ m_l x ∧ x_rcvb imm x (st.take y).reverse h = true then
          match x_run n x 0 (x_ini x (st.take y).reverse) [] h with
          | some (r, h1) => x_run n mi nx ls (x_push r (st.drop y)) h1
          | none => none
        else none
      else if code = 51 then
        match x_prim x st h with
        | some st' => x_run n mi nx ls st' h
        | none => none
      else
        match x_step code imm x y nx sw x_nf ls st h with
        | some (pc', ls', st', h') => x_run n mi pc' ls' st' h'
        | none => none
def x_eqs (a b : List (Int × Nat)) : Bool := match a, b with
  | [], [] => true
  | p :: a, q :: b => decide (p.1 = q.1) && (decide (p.2 = q.2) && x_eqs a b)
  | _, _ => false
theorem x_eqs_eq : ∀ {a b : List (Int × Nat)}, x_eqs a b = true → a = b := by
  intro a
  induction a with
  | nil => intro b h; cases b with
    | nil => rfl
    | cons q b => simp [x_eqs] at h
  | cons p a ih => intro b h; cases b with
    | nil => simp [x_eqs] at h
    | cons q b =>
      simp only [x_eqs, Bool.and_eq_true, decide_eq_true_eq] at h
      obtain ⟨h1, h2, h3⟩ := h
      rw [ih h3, show p = q from Prod.ext h1 h2]
def x_is (q : Option XO) (o : XO) : Bool := match q with
  | some p => decide (p.1 = o.1) && (decide (p.2.1 = o.2.1) && (decide (p.2.2.1 = o.2.2.1) && (decide (p.2.2.2.1 = o.2.2.2.1) && (decide (p.2.2.2.2.1 = o.2.2.2.2.1) && x_eqs p.2.2.2.2.2 o.2.2.2.2.2))))
  | none => false
theorem x_is_eq {q : Option XO} {o : XO} (h : x_is q o = true) : q = some o := by
  cases q with
  | none => simp [x_is] at h
  | some p =>
    simp only [x_is, Bool.and_eq_true, decide_eq_true_eq] at h
    obtain ⟨h1, h2, h3, h4, h5, h6x⟩ := h
    have h6 := x_eqs_eq h6x
    clear h6x
    obtain ⟨p1, p2, p3, p4, p5, p6⟩ := p
    obtain ⟨o1, o2, o3, o4, o5, o6⟩ := o
    dsimp only at h1 h2 h3 h4 h5 h6
    subst h1; subst h2; subst h3; subst h4; subst h5; subst h6
    rfl

