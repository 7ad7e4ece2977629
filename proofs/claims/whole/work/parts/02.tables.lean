/-! the methods that the clean machine runs: name, number of the own class, bytes, locals, what it returns -/
def cm_own : List String := ["ClogHouse$Books", "ClogHouse$Cell", "ClogHouse$Changes", "ClogHouse$Filter", "ClogHouse$Grains", "ClogHouse$Layers", "ClogHouse$Reader", "ClogHouse$Readings", "ClogHouse$Stream", "ClogHouse$Text", "ClogHouse", "ClogHouseModel", "ClogHouseLaw", "java/lang/Math", "java/util/Arrays"]
abbrev cmM : Type := MethodName × Nat × ByteArray × Nat × Option FieldType
def cm_ms_0 : List cmM := [(⟨"ClogHouse", "<init>", "()V"⟩, 10, prog_1_method_1_code, 1, (Option.none : Option FieldType)),
  (⟨"ClogHouse$Grains", "<init>", "()V"⟩, 4, prog_6_method_1_code, 1, (Option.none : Option FieldType)),
  (⟨"java/util/Arrays", "fill", "([II)V"⟩, 14, prog_23_method_103_code, 4, (Option.none : Option FieldType)),
  (⟨"ClogHouse$Text", "<init>", "(I)V"⟩, 9, prog_11_method_1_code, 2, (Option.none : Option FieldType)),
  (⟨"ClogHouse$Reader", "<init>", "()V"⟩, 6, prog_8_method_1_code, 1, (Option.none : Option FieldType)),
  (⟨"ClogHouse$Stream", "<init>", "()V"⟩, 8, prog_10_method_1_code, 1, (Option.none : Option FieldType)),
  (⟨"ClogHouse$Books", "<init>", "()V"⟩, 0, prog_2_method_1_code, 1, (Option.none : Option FieldType)),
  (⟨"ClogHouse$Layers", "<init>", "()V"⟩, 5, prog_7_method_1_code, 1, (Option.none : Option FieldType)),
  (⟨"ClogHouse$Filter", "<init>", "()V"⟩, 3, prog_5_method_1_code, 1, (Option.none : Option FieldType)),
  (⟨"ClogHouse$Changes", "<init>", "()V"⟩, 2, prog_4_method_1_code, 1, (Option.none : Option FieldType)),
  (⟨"ClogHouse$Readings", "<init>", "()V"⟩, 7, prog_9_method_1_code, 1, (Option.none : Option FieldType)),
  (⟨"ClogHouse", "grain", "(III)Z"⟩, 10, prog_1_method_2_code, 5, (Option.some FieldType.boolean)),
  (⟨"ClogHouse", "isSize", "(I)Z"⟩, 10, prog_1_method_48_code, 1, (Option.some FieldType.boolean)),
  (⟨"ClogHouse", "isWithin", "(III)Z"⟩, 10, prog_1_method_47_code, 3, (Option.some FieldType.boolean)),
  (⟨"ClogHouse$Layers", "forgetOrder", "()V"⟩, 5, prog_7_method_3_code, 1, (Option.none : Option FieldType)),
  (⟨"ClogHouse", "filter", "()I"⟩, 10, prog_1_method_3_code, 1, (Option.some FieldType.int)),
  (⟨"ClogHouse", "cell", "(III)I"⟩, 10, prog_1_method_4_code, 5, (Option.some FieldType.int)),
  (⟨"ClogHouse", "filterAt", "(I)LClogHouse$Filter;"⟩, 10, prog_1_method_41_code, 2, (Option.some (FieldType.object "ClogHouse$Filter"))),
  (⟨"ClogHouse$Filter", "addCell", "(II)Z"⟩, 3, prog_5_method_2_code, 3, (Option.some FieldType.boolean)),
  (⟨"ClogHouse$Cell", "<init>", "(II)V"⟩, 1, prog_3_method_1_code, 3, (Option.none : Option FieldType)),
  (⟨"ClogHouse", "set", "(III)Z"⟩, 10, prog_1_method_5_code, 5, (Option.some FieldType.boolean)),
  (⟨"ClogHouse", "celled", "(III)I"⟩, 10, prog_1_method_6_code, 5, (Option.some FieldType.int)),
  (⟨"ClogHouse", "cellAt", "(II)LClogHouse$Cell;"⟩, 10, prog_1_method_42_code, 4, (Option.some (FieldType.object "ClogHouse$Cell"))),
  (⟨"ClogHouse$Filter", "cellNumber", "(I)LClogHouse$Cell;"⟩, 3, prog_5_method_3_code, 2, (Option.some (FieldType.object "ClogHouse$Cell"))),
  (⟨"ClogHouse$Cell", "width", "()I"⟩, 1, prog_3_method_2_code, 2, (Option.some FieldType.int)),
  (⟨"ClogHouse$Cell", "resistance", "()I"⟩, 1, prog_3_method_3_code, 1, (Option.some FieldType.int)),
  (⟨"ClogHouse", "resistOf", "(I)I"⟩, 10, prog_1_method_51_code, 2, (Option.some FieldType.int)),
  (⟨"ClogHouse", "held", "(IIII)I"⟩, 10, prog_1_method_7_code, 6, (Option.some FieldType.int)),
  (⟨"ClogHouse", "told", "(II)I"⟩, 10, prog_1_method_8_code, 4, (Option.some FieldType.int)),
  (⟨"ClogHouse$Filter", "cakeInAll", "()I"⟩, 3, prog_5_method_4_code, 3, (Option.some FieldType.int)),
  (⟨"ClogHouse$Filter", "bed", "()I"⟩, 3, prog_5_method_7_code, 5, (Option.some FieldType.int)),
  (⟨"ClogHouse", "push", "(II)I"⟩, 10, prog_1_method_9_code, 4, (Option.some FieldType.int)),
  (⟨"ClogHouse$Filter", "pushWith", "(I)I"⟩, 3, prog_5_method_9_code, 10, (Option.some FieldType.int)),
  (⟨"ClogHouse", "cut", "(JJ)J"⟩, 10, prog_1_method_50_code, 4, (Option.some FieldType.long)),
  (⟨"ClogHouse", "feed", "(IIIII)I"⟩, 10, prog_1_method_10_code, 7, (Option.some FieldType.int)),
  (⟨"ClogHouse", "bytesIn", "(I)I"⟩, 10, prog_1_method_54_code, 3, (Option.some FieldType.int)),
  (⟨"ClogHouse$Text", "addBytes", "(I)V"⟩, 9, prog_11_method_2_code, 4, (Option.none : Option FieldType)),
  (⟨"ClogHouse", "end", "(I)Z"⟩, 10, prog_1_method_11_code, 2, (Option.some FieldType.boolean)),
  (⟨"ClogHouse", "fault", "()I"⟩, 10, prog_1_method_12_code, 1, (Option.some FieldType.int)),
  (⟨"ClogHouse$Reader", "faultIn", "(LClogHouse$Text;)I"⟩, 6, prog_8_method_3_code, 4, (Option.some FieldType.int))]
def cm_ms_1 : List cmM := [(⟨"ClogHouse$Reader", "begin", "(LClogHouse$Text;)V"⟩, 6, prog_8_method_5_code, 2, (Option.none : Option FieldType)),
  (⟨"ClogHouse$Reader", "readClause", "()V"⟩, 6, prog_8_method_10_code, 2, (Option.none : Option FieldType)),
  (⟨"ClogHouse$Reader", "sign", "()C"⟩, 6, prog_8_method_6_code, 1, (Option.some FieldType.char)),
  (⟨"ClogHouse$Reader", "fail", "()V"⟩, 6, prog_8_method_7_code, 1, (Option.none : Option FieldType)),
  (⟨"ClogHouse$Reader", "expect", "(C)V"⟩, 6, prog_8_method_8_code, 2, (Option.none : Option FieldType)),
  (⟨"ClogHouse$Reader", "unit", "(I)Z"⟩, 6, prog_8_method_13_code, 4, (Option.some FieldType.boolean)),
  (⟨"ClogHouse$Reader", "sum", "(I)J"⟩, 6, prog_8_method_15_code, 8, (Option.some FieldType.long)),
  (⟨"ClogHouse$Reader", "term", "(I)J"⟩, 6, prog_8_method_16_code, 8, (Option.some FieldType.long)),
  (⟨"ClogHouse$Reader", "atom", "(I)J"⟩, 6, prog_8_method_17_code, 6, (Option.some FieldType.long)),
  (⟨"ClogHouse$Reader", "number", "()J"⟩, 6, prog_8_method_18_code, 5, (Option.some FieldType.long)),
  (⟨"ClogHouse$Reader", "bounded", "(J)J"⟩, 6, prog_8_method_19_code, 2, (Option.some FieldType.long)),
  (⟨"ClogHouse$Reader", "compared", "(JI)Z"⟩, 6, prog_8_method_14_code, 7, (Option.some FieldType.boolean)),
  (⟨"ClogHouse$Reader", "condition", "(ZI)Z"⟩, 6, prog_8_method_11_code, 6, (Option.some FieldType.boolean)),
  (⟨"ClogHouse$Reader", "part", "(ZI)Z"⟩, 6, prog_8_method_12_code, 6, (Option.some FieldType.boolean)),
  (⟨"ClogHouse$Reader", "goesOn", "()Z"⟩, 6, prog_8_method_9_code, 2, (Option.some FieldType.boolean)),
  (⟨"ClogHouse", "rules", "()I"⟩, 10, prog_1_method_13_code, 2, (Option.some FieldType.int)),
  (⟨"ClogHouse$Text", "copyFrom", "(LClogHouse$Text;)V"⟩, 9, prog_11_method_3_code, 3, (Option.none : Option FieldType)),
  (⟨"ClogHouse", "rule", "(II)Z"⟩, 10, prog_1_method_14_code, 4, (Option.some FieldType.boolean)),
  (⟨"ClogHouse", "stream", "(I)Z"⟩, 10, prog_1_method_16_code, 2, (Option.some FieldType.boolean)),
  (⟨"ClogHouse", "come", "(II)Z"⟩, 10, prog_1_method_17_code, 3, (Option.some FieldType.boolean)),
  (⟨"ClogHouse", "hours", "(I)I"⟩, 10, prog_1_method_18_code, 4, (Option.some FieldType.int)),
  (⟨"ClogHouse", "decide", "(I)V"⟩, 10, prog_1_method_35_code, 4, (Option.none : Option FieldType)),
  (⟨"ClogHouse", "rulesAt", "(I)LClogHouse$Text;"⟩, 10, prog_1_method_43_code, 2, (Option.some (FieldType.object "ClogHouse$Text"))),
  (⟨"ClogHouse$Filter", "tellLettersTo", "(LClogHouse$Reader;I)V"⟩, 3, prog_5_method_15_code, 3, (Option.none : Option FieldType)),
  (⟨"ClogHouse$Reader", "tellLetters", "(IIIIII)V"⟩, 6, prog_8_method_2_code, 7, (Option.none : Option FieldType)),
  (⟨"ClogHouse$Reader", "worthOf", "(CLClogHouse$Text;)I"⟩, 6, prog_8_method_4_code, 5, (Option.some FieldType.int)),
  (⟨"ClogHouse$Filter", "change", "(LClogHouse$Books;)V"⟩, 3, prog_5_method_13_code, 3, (Option.none : Option FieldType)),
  (⟨"ClogHouse$Filter", "heldOfSize", "(I)I"⟩, 3, prog_5_method_6_code, 5, (Option.some FieldType.int)),
  (⟨"ClogHouse$Books", "noteCarried", "(II)V"⟩, 0, prog_2_method_9_code, 3, (Option.none : Option FieldType)),
  (⟨"ClogHouse$Filter", "makeClean", "()V"⟩, 3, prog_5_method_14_code, 3, (Option.none : Option FieldType)),
  (⟨"ClogHouse$Cell", "empty", "()V"⟩, 1, prog_3_method_4_code, 1, (Option.none : Option FieldType)),
  (⟨"ClogHouse", "wash", "(I)V"⟩, 10, prog_1_method_36_code, 5, (Option.none : Option FieldType)),
  (⟨"ClogHouse$Filter", "washOut", "(ILClogHouse$Grains;LClogHouse$Books;)V"⟩, 3, prog_5_method_12_code, 6, (Option.none : Option FieldType)),
  (⟨"ClogHouse$Cell", "washOut", "(ILClogHouse$Grains;LClogHouse$Books;)V"⟩, 1, prog_3_method_6_code, 11, (Option.none : Option FieldType)),
  (⟨"ClogHouse$Books", "noteWashed", "(II)V"⟩, 0, prog_2_method_8_code, 3, (Option.none : Option FieldType)),
  (⟨"ClogHouse", "shareStream", "()V"⟩, 10, prog_1_method_37_code, 6, (Option.none : Option FieldType)),
  (⟨"ClogHouse$Filter", "weightNow", "()J"⟩, 3, prog_5_method_8_code, 2, (Option.some FieldType.long)),
  (⟨"ClogHouse", "shareGrains", "()V"⟩, 10, prog_1_method_38_code, 6, (Option.none : Option FieldType)),
  (⟨"ClogHouse$Stream", "comingOf", "(I)I"⟩, 8, prog_10_method_2_code, 2, (Option.some FieldType.int)),
  (⟨"ClogHouse$Books", "noteCame", "(III)V"⟩, 0, prog_2_method_5_code, 4, (Option.none : Option FieldType))]
def cm_ms_2 : List cmM := [(⟨"ClogHouse$Books", "note", "(IIII)V"⟩, 0, prog_2_method_4_code, 6, (Option.none : Option FieldType)),
  (⟨"ClogHouse$Books", "place", "(III)I"⟩, 0, prog_2_method_2_code, 3, (Option.some FieldType.int)),
  (⟨"ClogHouse$Books", "noteRound", "(III)V"⟩, 0, prog_2_method_7_code, 4, (Option.none : Option FieldType)),
  (⟨"ClogHouse", "run", "(I)V"⟩, 10, prog_1_method_39_code, 6, (Option.none : Option FieldType)),
  (⟨"ClogHouse$Filter", "loadInAll", "()I"⟩, 3, prog_5_method_5_code, 3, (Option.some FieldType.int)),
  (⟨"ClogHouse$Filter", "pass", "(ILClogHouse$Grains;)Z"⟩, 3, prog_5_method_10_code, 8, (Option.some FieldType.boolean)),
  (⟨"ClogHouse$Cell", "holdFrom", "([ILClogHouse$Grains;)V"⟩, 1, prog_3_method_5_code, 9, (Option.none : Option FieldType)),
  (⟨"ClogHouse$Books", "noteOut", "(III)V"⟩, 0, prog_2_method_6_code, 4, (Option.none : Option FieldType)),
  (⟨"ClogHouse$Filter", "rememberBest", "(II)V"⟩, 3, prog_5_method_11_code, 3, (Option.none : Option FieldType)),
  (⟨"ClogHouse", "closeHour", "(I)V"⟩, 10, prog_1_method_40_code, 3, (Option.none : Option FieldType)),
  (⟨"ClogHouse", "hand", "(II)Z"⟩, 10, prog_1_method_19_code, 5, (Option.some FieldType.boolean)),
  (⟨"ClogHouse", "history", "(III)I"⟩, 10, prog_1_method_20_code, 4, (Option.some FieldType.int)),
  (⟨"ClogHouse$Books", "noted", "(III)I"⟩, 0, prog_2_method_3_code, 5, (Option.some FieldType.int)),
  (⟨"ClogHouse", "breaks", "(II)I"⟩, 10, prog_1_method_21_code, 4, (Option.some FieldType.int)),
  (⟨"ClogHouse$Books", "lostFrom", "(II)I"⟩, 0, prog_2_method_10_code, 5, (Option.some FieldType.int)),
  (⟨"ClogHouse", "ripe", "(I)I"⟩, 10, prog_1_method_22_code, 3, (Option.some FieldType.int)),
  (⟨"ClogHouse", "share", "(IIII)J"⟩, 10, prog_1_method_23_code, 9, (Option.some FieldType.long)),
  (⟨"ClogHouse", "isDrawn", "(III)Z"⟩, 10, prog_1_method_49_code, 3, (Option.some FieldType.boolean)),
  (⟨"ClogHouse", "waysToDraw", "(II)J"⟩, 10, prog_1_method_52_code, 5, (Option.some FieldType.long)),
  (⟨"ClogHouse", "commonPart", "(JJ)J"⟩, 10, prog_1_method_53_code, 11, (Option.some FieldType.long)),
  (⟨"ClogHouse", "drops", "(III)I"⟩, 10, prog_1_method_24_code, 5, (Option.some FieldType.int)),
  (⟨"ClogHouse", "layer", "(II)I"⟩, 10, prog_1_method_25_code, 3, (Option.some FieldType.int)),
  (⟨"ClogHouse$Layers", "addLayer", "(II)I"⟩, 5, prog_7_method_2_code, 3, (Option.some FieldType.int)),
  (⟨"ClogHouse", "order", "(II)I"⟩, 10, prog_1_method_26_code, 3, (Option.some FieldType.int)),
  (⟨"ClogHouse$Layers", "findOrder", "(ILClogHouse$Stream;LClogHouse$Grains;)V"⟩, 5, prog_7_method_4_code, 7, (Option.none : Option FieldType)),
  (⟨"ClogHouse$Layers", "hoursOfTried", "(ILClogHouse$Stream;LClogHouse$Grains;)I"⟩, 5, prog_7_method_5_code, 7, (Option.some FieldType.int)),
  (⟨"ClogHouse$Stream", "comingInAll", "()I"⟩, 8, prog_10_method_3_code, 3, (Option.some FieldType.int)),
  (⟨"ClogHouse$Layers", "layOut", "()V"⟩, 5, prog_7_method_6_code, 4, (Option.none : Option FieldType)),
  (⟨"ClogHouse$Layers", "toNextOrder", "()Z"⟩, 5, prog_7_method_7_code, 5, (Option.some FieldType.boolean)),
  (⟨"ClogHouse$Layers", "swap", "(II)V"⟩, 5, prog_7_method_8_code, 4, (Option.none : Option FieldType)),
  (⟨"ClogHouse", "cost", "(II)Z"⟩, 10, prog_1_method_27_code, 3, (Option.some FieldType.boolean)),
  (⟨"ClogHouse", "cheapest", "(III)I"⟩, 10, prog_1_method_28_code, 4, (Option.some FieldType.int)),
  (⟨"ClogHouse$Changes", "weigh", "(II)V"⟩, 2, prog_4_method_2_code, 4, (Option.none : Option FieldType)),
  (⟨"ClogHouse$Changes", "costOf", "(I)I"⟩, 2, prog_4_method_4_code, 2, (Option.some FieldType.int)),
  (⟨"ClogHouse$Changes", "findNext", "(IIII)V"⟩, 2, prog_4_method_3_code, 8, (Option.none : Option FieldType)),
  (⟨"ClogHouse", "gauge", "(IIII)I"⟩, 10, prog_1_method_29_code, 5, (Option.some FieldType.int)),
  (⟨"ClogHouse$Readings", "addReading", "(IIII)I"⟩, 7, prog_9_method_2_code, 5, (Option.some FieldType.int)),
  (⟨"ClogHouse", "back", "(IIII)I"⟩, 10, prog_1_method_30_code, 6, (Option.some FieldType.int)),
  (⟨"ClogHouse$Readings", "narrowAll", "(II)V"⟩, 7, prog_9_method_5_code, 4, (Option.none : Option FieldType)),
  (⟨"ClogHouse$Readings", "openRange", "()V"⟩, 7, prog_9_method_3_code, 1, (Option.none : Option FieldType))]
def cm_ms_3 : List cmM := [(⟨"ClogHouse$Readings", "narrow", "(III)Z"⟩, 7, prog_9_method_4_code, 4, (Option.some FieldType.boolean)),
  (⟨"ClogHouse$Readings", "leastHeld", "(LClogHouse$Cell;)I"⟩, 7, prog_9_method_8_code, 3, (Option.some FieldType.int)),
  (⟨"ClogHouse$Readings", "fits", "(I)Z"⟩, 7, prog_9_method_7_code, 2, (Option.some FieldType.boolean)),
  (⟨"ClogHouse$Readings", "greatestHeld", "(LClogHouse$Cell;)I"⟩, 7, prog_9_method_9_code, 3, (Option.some FieldType.int)),
  (⟨"ClogHouse", "barred", "(III)I"⟩, 10, prog_1_method_31_code, 5, (Option.some FieldType.int)),
  (⟨"ClogHouse$Readings", "firstBarring", "(IILClogHouse$Cell;)I"⟩, 7, prog_9_method_6_code, 5, (Option.some FieldType.int)),
  (⟨"ClogHouse", "led", "(II)I"⟩, 10, prog_1_method_32_code, 3, (Option.some FieldType.int)),
  (⟨"ClogHouse", "heldOfSize", "(I)I"⟩, 10, prog_1_method_46_code, 5, (Option.some FieldType.int)),
  (⟨"ClogHouse", "digest", "()I"⟩, 10, prog_1_method_33_code, 4, (Option.some FieldType.int)),
  (⟨"ClogHouse$Filter", "digestOnto", "(I)I"⟩, 3, prog_5_method_16_code, 6, (Option.some FieldType.int)),
  (⟨"ClogHouse", "count", "(I)I"⟩, 10, prog_1_method_34_code, 2, (Option.some FieldType.int)),
  (⟨"ClogHouse", "filtersThatRan", "()I"⟩, 10, prog_1_method_45_code, 4, (Option.some FieldType.int)),
  (⟨"ClogHouse", "filtersThatAre", "(I)I"⟩, 10, prog_1_method_44_code, 5, (Option.some FieldType.int)),
  (⟨"ClogHouse", "worth", "(IIIIIIII)I"⟩, 10, prog_1_method_15_code, 10, (Option.some FieldType.int)),
  (⟨"ClogHouseModel", "<init>", "()V"⟩, 11, prog_13_method_2_code, 2, (Option.none : Option FieldType)),
  (⟨"ClogHouseModel", "thrown", "()I"⟩, 11, prog_13_method_3_code, 1, (Option.some FieldType.int)),
  (⟨"ClogHouseModel", "grain", "(III)Z"⟩, 11, prog_13_method_4_code, 4, (Option.some FieldType.boolean)),
  (⟨"ClogHouseModel", "in", "(III)Z"⟩, 11, prog_13_method_1_code, 3, (Option.some FieldType.boolean)),
  (⟨"ClogHouseModel", "filter", "()I"⟩, 11, prog_13_method_6_code, 1, (Option.some FieldType.int)),
  (⟨"ClogHouseModel", "cell", "(III)I"⟩, 11, prog_13_method_7_code, 4, (Option.some FieldType.int)),
  (⟨"ClogHouseModel", "isFilter", "(I)Z"⟩, 11, prog_13_method_5_code, 2, (Option.some FieldType.boolean)),
  (⟨"ClogHouseModel", "set", "(III)Z"⟩, 11, prog_13_method_8_code, 4, (Option.some FieldType.boolean)),
  (⟨"ClogHouseModel", "push", "(II)I"⟩, 11, prog_13_method_17_code, 3, (Option.some FieldType.int)),
  (⟨"ClogHouseModel", "pushFor", "(II)I"⟩, 11, prog_13_method_16_code, 11, (Option.some FieldType.int)),
  (⟨"ClogHouseModel", "bed", "(I)I"⟩, 11, prog_13_method_14_code, 5, (Option.some FieldType.int)),
  (⟨"ClogHouseModel", "width", "(II)I"⟩, 11, prog_13_method_12_code, 3, (Option.some FieldType.int)),
  (⟨"ClogHouseModel", "heldIn", "(II)I"⟩, 11, prog_13_method_10_code, 5, (Option.some FieldType.int)),
  (⟨"ClogHouseModel", "widthOf", "(III)I"⟩, 11, prog_13_method_11_code, 3, (Option.some FieldType.int)),
  (⟨"ClogHouseModel", "resistOf", "(I)I"⟩, 11, prog_13_method_13_code, 1, (Option.some FieldType.int)),
  (⟨"ClogHouseModel", "cakeOf", "(I)I"⟩, 11, prog_13_method_15_code, 4, (Option.some FieldType.int)),
  (⟨"ClogHouseModel", "celled", "(III)I"⟩, 11, prog_13_method_18_code, 4, (Option.some FieldType.int)),
  (⟨"ClogHouseModel", "isCell", "(II)Z"⟩, 11, prog_13_method_9_code, 3, (Option.some FieldType.boolean)),
  (⟨"ClogHouseModel", "held", "(IIII)I"⟩, 11, prog_13_method_19_code, 6, (Option.some FieldType.int)),
  (⟨"ClogHouseModel", "told", "(II)I"⟩, 11, prog_13_method_20_code, 3, (Option.some FieldType.int)),
  (⟨"ClogHouseModel", "feed", "(IIIII)I"⟩, 11, prog_13_method_22_code, 9, (Option.some FieldType.int)),
  (⟨"ClogHouseModel", "byteOf", "(IIIIII)I"⟩, 11, prog_13_method_21_code, 7, (Option.some FieldType.int)),
  (⟨"ClogHouseModel", "end", "(I)Z"⟩, 11, prog_13_method_23_code, 2, (Option.some FieldType.boolean)),
  (⟨"ClogHouseModel", "fault", "()I"⟩, 11, prog_13_method_42_code, 1, (Option.some FieldType.int)),
  (⟨"ClogHouseModel", "clause", "()V"⟩, 11, prog_13_method_41_code, 6, (Option.none : Option FieldType)),
  (⟨"ClogHouseModel", "look", "()I"⟩, 11, prog_13_method_24_code, 1, (Option.some FieldType.int))]
def cm_ms_4 : List cmM := [(⟨"ClogHouseModel", "isLabel", "(I)Z"⟩, 11, prog_13_method_28_code, 1, (Option.some FieldType.boolean)),
  (⟨"ClogHouseModel", "bad", "()V"⟩, 11, prog_13_method_25_code, 1, (Option.none : Option FieldType)),
  (⟨"ClogHouseModel", "say", "(I)V"⟩, 11, prog_13_method_26_code, 2, (Option.none : Option FieldType)),
  (⟨"ClogHouseModel", "sum", "()V"⟩, 11, prog_13_method_35_code, 2, (Option.none : Option FieldType)),
  (⟨"ClogHouseModel", "term", "()V"⟩, 11, prog_13_method_34_code, 2, (Option.none : Option FieldType)),
  (⟨"ClogHouseModel", "atom", "()V"⟩, 11, prog_13_method_33_code, 2, (Option.none : Option FieldType)),
  (⟨"ClogHouseModel", "opens", "()Z"⟩, 11, prog_13_method_30_code, 1, (Option.some FieldType.boolean)),
  (⟨"ClogHouseModel", "closes", "(I)V"⟩, 11, prog_13_method_31_code, 2, (Option.none : Option FieldType)),
  (⟨"ClogHouseModel", "isLetter", "(I)Z"⟩, 11, prog_13_method_29_code, 1, (Option.some FieldType.boolean)),
  (⟨"ClogHouseModel", "number", "()V"⟩, 11, prog_13_method_32_code, 3, (Option.none : Option FieldType)),
  (⟨"ClogHouseModel", "isDigit", "(I)Z"⟩, 11, prog_13_method_27_code, 1, (Option.some FieldType.boolean)),
  (⟨"ClogHouseModel", "isSign", "(I)Z"⟩, 11, prog_13_method_36_code, 1, (Option.some FieldType.boolean)),
  (⟨"ClogHouseModel", "condition", "(Z)V"⟩, 11, prog_13_method_40_code, 2, (Option.none : Option FieldType)),
  (⟨"ClogHouseModel", "part", "(Z)V"⟩, 11, prog_13_method_39_code, 2, (Option.none : Option FieldType)),
  (⟨"ClogHouseModel", "compare", "()V"⟩, 11, prog_13_method_37_code, 2, (Option.none : Option FieldType)),
  (⟨"ClogHouseModel", "unit", "()V"⟩, 11, prog_13_method_38_code, 2, (Option.none : Option FieldType)),
  (⟨"ClogHouseModel", "rules", "()I"⟩, 11, prog_13_method_43_code, 2, (Option.some FieldType.int)),
  (⟨"ClogHouseModel", "rule", "(II)Z"⟩, 11, prog_13_method_44_code, 3, (Option.some FieldType.boolean)),
  (⟨"ClogHouseModel", "worth", "(IIIIIIII)I"⟩, 11, prog_13_method_49_code, 9, (Option.some FieldType.int)),
  (⟨"ClogHouseModel", "worthBy", "(II)I"⟩, 11, prog_13_method_48_code, 6, (Option.some FieldType.int)),
  (⟨"ClogHouseModel", "work", "()I"⟩, 11, prog_13_method_47_code, 3, (Option.some FieldType.int)),
  (⟨"ClogHouseModel", "both", "(III)I"⟩, 11, prog_13_method_46_code, 3, (Option.some FieldType.int)),
  (⟨"ClogHouseModel", "bounded", "(J)I"⟩, 11, prog_13_method_45_code, 2, (Option.some FieldType.int)),
  (⟨"ClogHouseModel", "stream", "(I)Z"⟩, 11, prog_13_method_50_code, 2, (Option.some FieldType.boolean)),
  (⟨"ClogHouseModel", "come", "(II)Z"⟩, 11, prog_13_method_51_code, 3, (Option.some FieldType.boolean)),
  (⟨"ClogHouseModel", "hours", "(I)I"⟩, 11, prog_13_method_63_code, 3, (Option.some FieldType.int)),
  (⟨"ClogHouseModel", "hour", "()V"⟩, 11, prog_13_method_62_code, 2, (Option.none : Option FieldType)),
  (⟨"ClogHouseModel", "decide", "(I)V"⟩, 11, prog_13_method_53_code, 2, (Option.none : Option FieldType)),
  (⟨"ClogHouseModel", "change", "(I)V"⟩, 11, prog_13_method_52_code, 6, (Option.none : Option FieldType)),
  (⟨"ClogHouseModel", "washOne", "(I)V"⟩, 11, prog_13_method_54_code, 10, (Option.none : Option FieldType)),
  (⟨"ClogHouseModel", "flow", "()V"⟩, 11, prog_13_method_57_code, 6, (Option.none : Option FieldType)),
  (⟨"ClogHouseModel", "weightOf", "(I)I"⟩, 11, prog_13_method_55_code, 3, (Option.some FieldType.int)),
  (⟨"ClogHouseModel", "look", "(I)V"⟩, 11, prog_13_method_59_code, 3, (Option.none : Option FieldType)),
  (⟨"ClogHouseModel", "tell", "(III)V"⟩, 11, prog_13_method_56_code, 4, (Option.none : Option FieldType)),
  (⟨"ClogHouseModel", "runOne", "(I)V"⟩, 11, prog_13_method_60_code, 6, (Option.none : Option FieldType)),
  (⟨"ClogHouseModel", "partOf", "(II)I"⟩, 11, prog_13_method_58_code, 7, (Option.some FieldType.int)),
  (⟨"ClogHouseModel", "lead", "(III)I"⟩, 11, prog_13_method_61_code, 8, (Option.some FieldType.int)),
  (⟨"ClogHouseModel", "hand", "(II)Z"⟩, 11, prog_13_method_64_code, 3, (Option.some FieldType.boolean)),
  (⟨"ClogHouseModel", "history", "(III)I"⟩, 11, prog_13_method_65_code, 4, (Option.some FieldType.int)),
  (⟨"ClogHouseModel", "breaks", "(II)I"⟩, 11, prog_13_method_66_code, 6, (Option.some FieldType.int))]
def cm_ms_5 : List cmM := [(⟨"ClogHouseModel", "ripe", "(I)I"⟩, 11, prog_13_method_67_code, 2, (Option.some FieldType.int)),
  (⟨"ClogHouseModel", "led", "(II)I"⟩, 11, prog_13_method_68_code, 6, (Option.some FieldType.int)),
  (⟨"ClogHouseModel", "digest", "()I"⟩, 11, prog_13_method_69_code, 6, (Option.some FieldType.int)),
  (⟨"ClogHouseModel", "share", "(IIII)J"⟩, 11, prog_13_method_72_code, 11, (Option.some FieldType.long)),
  (⟨"ClogHouseModel", "ways", "(II)J"⟩, 11, prog_13_method_73_code, 2, (Option.some FieldType.long)),
  (⟨"ClogHouseModel", "choose", "(II)J"⟩, 11, prog_13_method_70_code, 5, (Option.some FieldType.long)),
  (⟨"ClogHouseModel", "divisor", "(JJ)J"⟩, 11, prog_13_method_71_code, 4, (Option.some FieldType.long)),
  (⟨"ClogHouseModel", "drops", "(III)I"⟩, 11, prog_13_method_74_code, 7, (Option.some FieldType.int)),
  (⟨"ClogHouseModel", "layer", "(II)I"⟩, 11, prog_13_method_75_code, 3, (Option.some FieldType.int)),
  (⟨"ClogHouseModel", "order", "(II)I"⟩, 11, prog_13_method_78_code, 3, (Option.some FieldType.int)),
  (⟨"ClogHouseModel", "arrange", "(III)V"⟩, 11, prog_13_method_76_code, 6, (Option.none : Option FieldType)),
  (⟨"ClogHouseModel", "lasts", "(I)I"⟩, 11, prog_13_method_77_code, 7, (Option.some FieldType.int)),
  (⟨"ClogHouseModel", "cost", "(II)Z"⟩, 11, prog_13_method_79_code, 3, (Option.some FieldType.boolean)),
  (⟨"ClogHouseModel", "cheapest", "(III)I"⟩, 11, prog_13_method_81_code, 6, (Option.some FieldType.int)),
  (⟨"ClogHouseModel", "from", "(II)J"⟩, 11, prog_13_method_80_code, 3, (Option.some FieldType.long)),
  (⟨"ClogHouseModel", "gauge", "(IIII)I"⟩, 11, prog_13_method_82_code, 5, (Option.some FieldType.int)),
  (⟨"ClogHouseModel", "back", "(IIII)I"⟩, 11, prog_13_method_86_code, 5, (Option.some FieldType.int)),
  (⟨"ClogHouseModel", "isAsked", "(III)Z"⟩, 11, prog_13_method_85_code, 4, (Option.some FieldType.boolean)),
  (⟨"ClogHouseModel", "readBack", "(IIII)I"⟩, 11, prog_13_method_84_code, 7, (Option.some FieldType.int)),
  (⟨"ClogHouseModel", "agrees", "(IIII)Z"⟩, 11, prog_13_method_83_code, 7, (Option.some FieldType.boolean)),
  (⟨"ClogHouseModel", "barred", "(III)I"⟩, 11, prog_13_method_87_code, 5, (Option.some FieldType.int)),
  (⟨"ClogHouseModel", "count", "(I)I"⟩, 11, prog_13_method_88_code, 6, (Option.some FieldType.int))]
def cm_msL : List cmM := [(x, 12, code, 7, ret), (⟨"ClogHouseLaw", "worth", "(LClogHouse;IIIIIIII[J)I"⟩, 12, method_3_code, 11, some .int)]
def cm_ms0 : List cmM := cm_ms_0 ++ (cm_ms_1 ++ (cm_ms_2 ++ (cm_ms_3 ++ (cm_ms_4 ++ (cm_ms_5)))))
def cm_ms : List cmM := cm_ms0 ++ cm_msL
theorem cm_nil {P : cmM → Prop} : ∀ m ∈ ([] : List cmM), P m := fun _ h => absurd h List.not_mem_nil

def cm_M (M : Nat) : cmM := cm_ms.getD M (⟨"", "", ""⟩, 99, ⟨#[]⟩, 0, none)
def cm_nm : Nat := 222
def cm_mp : List (Nat × Nat) := [(149, 0), (157, 0), (161, 0), (185, 0), (206, 0), (237, 0), (253, 0), (284, 0), (290, 0), (400, 0), (426, 0), (494, 0), (497, 0), (500, 0), (504, 0), (508, 0), (513, 0), (517, 0), (521, 0), (525, 0), (561, 0), (565, 0), (569, 0), (573, 0), (578, 0), (582, 0), (586, 0), (590, 0), (594, 0), (598, 0), (602, 0), (608, 0), (612, 0), (620, 0), (624, 0), (627, 0), (631, 0), (635, 0), (639, 0), (643, 0), (647, 0), (654, 0), (658, 0), (745, 0), (749, 0), (753, 0), (757, 0), (761, 0), (765, 0), (769, 0), (775, 0), (787, 0), (791, 0), (795, 0), (799, 0), (804, 0), (808, 0), (813, 0), (817, 0), (821, 0), (825, 0), (829, 0), (833, 0), (837, 0), (841, 0), (845, 0), (849, 0), (853, 0), (858, 0), (862, 0), (867, 0), (872, 0), (878, 0), (882, 0), (887, 0), (893, 0), (897, 0), (904, 0), (908, 0), (913, 0), (917, 0), (920, 0), (924, 0), (928, 0), (932, 0), (936, 0), (942, 0), (946, 0), (950, 0), (954, 0), (958, 0), (962, 0), (966, 0), (970, 0), (974, 0), (979, 0), (983, 0), (986, 0), (990, 0), (993, 0), (997, 0), (1002, 0), (1006, 0), (1012, 0), (1016, 0), (1020, 0), (1024, 0), (1029, 0), (1043, 0), (1048, 0), (1052, 0), (1056, 0), (1060, 0), (1065, 0), (1070, 0), (1074, 0), (1078, 0), (1082, 0), (1086, 0), (1090, 0), (1094, 0), (1101, 0), (1105, 0), (1110, 0), (1114, 0), (1118, 0), (1123, 0), (1127, 0), (1132, 0), (1136, 0), (1140, 0), (1144, 0), (1148, 0), (1156, 0), (1225, 0), (1423, 0), (1427, 0), (1430, 0), (1434, 0), (1438, 0), (1442, 0), (1446, 0), (1450, 0), (1454, 0), (1458, 0), (1462, 0), (1466, 0), (1469, 0), (1473, 0), (1477, 0), (1485, 0), (1489, 0), (1493, 0), (1497, 0), (1501, 0), (1504, 0), (1508, 0), (1512, 0), (1516, 0), (1520, 0), (1523, 0), (1527, 0), (1531, 0), (1535, 0), (1539, 0), (1543, 0), (1547, 0), (1551, 0), (1554, 0), (1558, 0), (1561, 0), (1564, 0), (1568, 0), (1572, 0), (1576, 0), (1580, 0), (1584, 0), (1589, 0), (1593, 0), (1597, 0), (1601, 0), (1604, 0), (1607, 0), (1614, 0), (1618, 0), (1622, 0), (1626, 0), (1630, 0), (1634, 0), (1639, 0), (1644, 0), (1648, 0), (1653, 0), (1657, 0), (1661, 0), (1665, 0), (1669, 0), (1673, 0), (1677, 0), (1681, 0), (1685, 0), (1689, 0), (1693, 0), (1697, 0), (1701, 0), (1704, 0), (1707, 0), (1711, 0), (1715, 0), (1719, 0), (1723, 0), (1727, 0), (1731, 0), (1735, 0), (1739, 0), (1743, 0), (1747, 0), (1751, 0), (1755, 0), (1759, 0), (1763, 0), (1767, 0)]
/-! the pool: (own class, entry, class, slot, nest mate?, place of the word) -/
def cm_fl_0 : List (Nat × Nat × Nat × Nat × Bool × Nat) := [(4, 9, 4, 0, false, 162), (10, 85, 4, 0, true, 163), (1, 47, 4, 0, true, 164), (4, 15, 4, 1, false, 165), (10, 89, 4, 1, true, 166), (1, 55, 4, 1, true, 167), (4, 18, 4, 2, false, 168), (10, 92, 4, 2, true, 169), (1, 52, 4, 2, true, 170), (9, 13, 9, 0, false, 190), (6, 46, 9, 0, true, 191), (9, 19, 9, 1, false, 192), (6, 49, 9, 1, true, 193), (10, 186, 9, 1, true, 194), (6, 9, 6, 0, false, 208), (6, 15, 6, 1, false, 209), (6, 58, 6, 2, false, 210), (6, 59, 6, 3, false, 211), (6, 30, 6, 4, false, 212), (6, 34, 6, 5, false, 213), (6, 38, 6, 6, false, 214), (6, 42, 6, 7, false, 215), (8, 9, 8, 0, false, 239), (10, 231, 8, 0, true, 240), (8, 15, 8, 1, false, 241), (5, 82, 8, 1, true, 242), (10, 228, 8, 1, true, 243), (0, 9, 0, 0, false, 256), (10, 337, 0, 0, true, 257), (0, 15, 0, 1, false, 258), (10, 343, 0, 1, true, 259), (0, 18, 0, 2, false, 260), (10, 346, 0, 2, true, 261), (0, 21, 0, 3, false, 262), (10, 349, 0, 3, true, 263), (0, 24, 0, 4, false, 264), (10, 352, 0, 4, true, 265), (0, 28, 0, 5, false, 266), (3, 11, 3, 0, false, 294), (3, 17, 3, 1, false, 295), (3, 21, 3, 2, false, 296), (5, 71, 3, 2, true, 297), (10, 404, 3, 2, true, 298), (3, 43, 3, 3, false, 299), (10, 115, 3, 3, true, 300), (3, 24, 3, 4, false, 301), (10, 118, 3, 4, true, 302), (3, 28, 3, 5, false, 303), (10, 121, 3, 5, true, 304), (3, 31, 3, 6, false, 305), (10, 124, 3, 6, true, 306), (3, 34, 3, 7, false, 307), (10, 203, 3, 7, true, 308), (3, 37, 3, 8, false, 309), (10, 155, 3, 8, true, 310), (10, 158, 3, 9, true, 311), (3, 126, 3, 9, false, 312), (10, 161, 3, 10, true, 313), (3, 129, 3, 10, false, 314), (10, 170, 3, 11, true, 315)]
def cm_fl_1 : List (Nat × Nat × Nat × Nat × Bool × Nat) := [(10, 173, 3, 12, true, 316), (3, 95, 3, 12, false, 317), (10, 176, 3, 13, true, 318), (3, 105, 3, 13, false, 319), (3, 40, 3, 14, false, 320), (10, 267, 3, 14, true, 321), (3, 108, 3, 15, false, 322), (10, 390, 3, 16, true, 323), (10, 107, 3, 17, true, 324), (10, 383, 3, 18, true, 325), (10, 394, 3, 19, true, 326), (5, 9, 5, 0, false, 368), (5, 15, 5, 1, false, 369), (5, 18, 5, 2, false, 370), (5, 21, 5, 3, false, 371), (10, 300, 5, 3, true, 372), (5, 27, 5, 4, false, 373), (5, 35, 5, 5, false, 374), (10, 290, 5, 5, true, 375), (5, 45, 5, 6, false, 376), (10, 297, 5, 6, true, 377), (5, 31, 5, 7, false, 378), (2, 9, 2, 0, false, 402), (10, 306, 2, 0, true, 403), (2, 15, 2, 1, false, 404), (2, 30, 2, 2, false, 405), (10, 303, 2, 2, true, 406), (2, 34, 2, 3, false, 407), (10, 313, 2, 3, true, 408), (2, 37, 2, 4, false, 409), (10, 316, 2, 4, true, 410), (7, 9, 7, 0, false, 428), (7, 15, 7, 1, false, 429), (7, 18, 7, 2, false, 430), (7, 21, 7, 3, false, 431), (7, 24, 7, 4, false, 432), (10, 364, 7, 4, true, 433), (7, 28, 7, 5, false, 434), (7, 31, 7, 6, false, 435), (10, 10, 10, 0, false, 451), (10, 18, 10, 1, false, 452), (10, 27, 10, 2, false, 453), (10, 31, 10, 3, false, 454), (10, 38, 10, 4, false, 455), (10, 45, 10, 5, false, 456), (10, 52, 10, 6, false, 457), (10, 59, 10, 7, false, 458), (10, 66, 10, 8, false, 459), (10, 73, 10, 9, false, 460), (10, 98, 10, 10, false, 461), (10, 196, 10, 11, false, 462), (10, 234, 10, 12, false, 463), (1, 9, 1, 0, false, 527), (3, 61, 1, 0, true, 528), (10, 149, 1, 0, true, 529), (1, 15, 1, 1, false, 530), (10, 152, 1, 1, true, 531), (3, 156, 1, 1, true, 532), (1, 28, 1, 2, false, 533), (10, 146, 1, 2, true, 534)]
def cm_fl_2 : List (Nat × Nat × Nat × Nat × Bool × Nat) := [(1, 18, 1, 3, false, 535), (5, 100, 1, 3, true, 536), (1, 22, 1, 4, false, 537), (10, 131, 1, 4, true, 538), (7, 61, 1, 4, true, 539), (3, 115, 1, 4, true, 540), (1, 25, 1, 5, false, 541), (10, 136, 1, 5, true, 542), (5, 105, 1, 5, true, 543), (7, 70, 1, 5, true, 544), (11, 330, 11, 0, false, 1228), (11, 157, 11, 1, false, 1229), (11, 9, 11, 2, false, 1230), (11, 13, 11, 3, false, 1231), (11, 16, 11, 4, false, 1232), (11, 19, 11, 5, false, 1233), (11, 22, 11, 6, false, 1234), (11, 25, 11, 7, false, 1235), (11, 28, 11, 8, false, 1236), (11, 31, 11, 9, false, 1237), (11, 34, 11, 10, false, 1238), (11, 37, 11, 11, false, 1239), (11, 40, 11, 12, false, 1240), (11, 43, 11, 13, false, 1241), (11, 46, 11, 14, false, 1242), (11, 49, 11, 15, false, 1243), (11, 52, 11, 16, false, 1244), (11, 55, 11, 17, false, 1245), (11, 58, 11, 18, false, 1246), (11, 61, 11, 19, false, 1247), (11, 64, 11, 20, false, 1248), (11, 67, 11, 21, false, 1249), (11, 70, 11, 22, false, 1250), (11, 74, 11, 23, false, 1251), (11, 165, 11, 24, false, 1252), (11, 77, 11, 25, false, 1253), (11, 80, 11, 26, false, 1254), (11, 83, 11, 27, false, 1255), (11, 86, 11, 28, false, 1256), (11, 217, 11, 29, false, 1257), (11, 220, 11, 30, false, 1258), (11, 223, 11, 31, false, 1259), (11, 229, 11, 32, false, 1260), (11, 226, 11, 33, false, 1261), (11, 290, 11, 34, false, 1262), (11, 89, 11, 35, false, 1263), (11, 92, 11, 36, false, 1264), (11, 307, 11, 37, false, 1265), (11, 95, 11, 38, false, 1266), (11, 99, 11, 39, false, 1267), (11, 102, 11, 40, false, 1268), (11, 105, 11, 41, false, 1269), (11, 108, 11, 42, false, 1270), (11, 111, 11, 43, false, 1271), (11, 114, 11, 44, false, 1272), (11, 117, 11, 45, false, 1273), (11, 120, 11, 46, false, 1274), (11, 123, 11, 47, false, 1275), (11, 319, 11, 48, false, 1276), (11, 126, 11, 49, false, 1277)]
def cm_fl_3 : List (Nat × Nat × Nat × Nat × Bool × Nat) := [(11, 129, 11, 50, false, 1278), (11, 132, 11, 51, false, 1279), (11, 135, 11, 52, false, 1280), (11, 375, 11, 53, false, 1281), (11, 381, 11, 54, false, 1282), (11, 138, 11, 55, false, 1283), (11, 141, 11, 56, false, 1284), (11, 387, 11, 57, false, 1285), (11, 145, 11, 58, false, 1286), (11, 148, 11, 59, false, 1287), (11, 151, 11, 60, false, 1288), (11, 154, 11, 61, false, 1289), (11, 393, 11, 62, false, 1290)]
def cm_fl : List (Nat × Nat × Nat × Nat × Bool × Nat) := cm_fl_0 ++ (cm_fl_1 ++ (cm_fl_2 ++ (cm_fl_3)))
def cm_ct_0 : List (Nat × Nat × Int32 × Nat) := [(0, 27, 48000, 255), (3, 86, 100000, 615), (10, 286, 1000000, 998), (11, 98, 48024, 1227), (11, 198, 100000, 1478), (11, 329, 1000000, 1649)]
def cm_ct : List (Nat × Nat × Int32 × Nat) := cm_ct_0
def cm_cj_0 : List (Nat × Nat × Int64 × Nat) := [(3, 87, 100000, 616), (3, 89, 100, 617), (6, 120, 10, 770), (6, 122, -1000000, 776), (6, 124, 1000000, 777), (1, 45, 1000, 883), (3, 71, 1000000, 898), (10, 273, -1, 987), (11, 199, 100, 1479), (11, 204, 100000, 1481), (11, 296, -1000000, 1608), (11, 298, 1000000, 1609), (11, 327, 1000, 1640), (11, 366, -1, 1698)]
def cm_cj : List (Nat × Nat × Int64 × Nat) := cm_cj_0
def cm_nw_0 : List (Nat × Nat × Nat × Nat) := [(12, 8, 10, 145), (10, 7, 4, 153), (10, 16, 3, 179), (10, 22, 9, 181), (10, 35, 6, 202), (10, 42, 8, 233), (10, 49, 0, 249), (10, 56, 5, 280), (5, 24, 3, 286), (3, 9, 1, 292), (10, 63, 2, 396), (10, 70, 7, 422), (12, 16, 11, 1221)]
def cm_nw : List (Nat × Nat × Nat × Nat) := cm_nw_0
/-! the pool: methods: (own class, entry, method, kind, place of the link, place of the instance or static word, place of the selects word, parameters) -/
def cm_mt_0 : List (Nat × Nat × Nat × Nat × Nat × Nat × Nat × Nat) := [(12, 15, 0, 4, 147, 148, 0, 0), (10, 1, 0, 6, 150, 0, 0, 0), (10, 9, 1, 5, 155, 156, 0, 0), (4, 3, 0, 6, 158, 0, 0, 0), (4, 21, 2, 2, 159, 160, 0, 2), (10, 24, 3, 5, 183, 184, 0, 1), (9, 1, 0, 6, 186, 0, 0, 0), (9, 7, 0, 7, 187, 0, 0, 0), (10, 37, 4, 5, 204, 205, 0, 0), (6, 3, 0, 6, 207, 0, 0, 0), (10, 44, 5, 5, 235, 236, 0, 0), (8, 3, 0, 6, 238, 0, 0, 0), (10, 51, 6, 5, 251, 252, 0, 0), (0, 3, 0, 6, 254, 0, 0, 0), (10, 58, 7, 5, 282, 283, 0, 0), (5, 3, 0, 6, 285, 0, 0, 0), (5, 26, 8, 5, 288, 289, 0, 0), (3, 3, 0, 6, 291, 0, 0, 0), (10, 65, 9, 5, 398, 399, 0, 0), (2, 3, 0, 6, 401, 0, 0, 0), (10, 72, 10, 5, 424, 425, 0, 0), (7, 3, 0, 6, 427, 0, 0, 0), (12, 19, 11, 0, 491, 492, 493, 3), (10, 77, 12, 2, 495, 496, 0, 1), (10, 81, 13, 2, 498, 499, 0, 3), (10, 95, 14, 1, 501, 503, 0, 0), (12, 24, 15, 0, 505, 506, 507, 0), (10, 102, 8, 5, 509, 289, 0, 0), (12, 29, 16, 0, 510, 511, 512, 3), (10, 103, 17, 0, 514, 516, 1, 1), (10, 111, 18, 1, 518, 520, 2, 2), (3, 46, 19, 5, 523, 524, 0, 2), (1, 3, 0, 6, 526, 0, 0, 0), (12, 34, 20, 0, 558, 559, 560, 3), (12, 38, 21, 0, 562, 563, 564, 3), (10, 127, 22, 0, 566, 568, 3, 2), (10, 423, 23, 1, 570, 572, 4, 1), (3, 49, 13, 3, 574, 499, 0, 3), (10, 139, 24, 1, 575, 577, 5, 0), (10, 143, 25, 1, 579, 581, 6, 0), (1, 31, 24, 0, 583, 577, 5, 0), (1, 35, 26, 3, 584, 585, 0, 1), (12, 42, 27, 0, 587, 588, 589, 4), (12, 47, 28, 0, 591, 592, 593, 2), (10, 164, 29, 1, 595, 597, 7, 0), (10, 167, 30, 1, 599, 601, 8, 0), (3, 57, 23, 0, 603, 572, 4, 1), (3, 64, 25, 1, 604, 581, 6, 0), (12, 52, 31, 0, 605, 606, 607, 2), (10, 179, 32, 1, 609, 611, 9, 1), (3, 68, 30, 0, 613, 601, 8, 0), (3, 73, 29, 0, 614, 597, 7, 0), (3, 82, 33, 3, 618, 619, 0, 2), (12, 56, 34, 0, 621, 622, 623, 5), (10, 183, 35, 2, 625, 626, 0, 1), (10, 189, 36, 1, 628, 630, 10, 1), (12, 61, 37, 0, 632, 633, 634, 1), (12, 66, 38, 0, 636, 637, 638, 0), (10, 192, 39, 1, 640, 642, 11, 1), (6, 19, 40, 0, 644, 646, 12, 1)]
def cm_mt_1 : List (Nat × Nat × Nat × Nat × Nat × Nat × Nat × Nat) := [(6, 52, 0, 8, 648, 0, 0, 0), (6, 23, 41, 0, 651, 653, 13, 0), (6, 62, 42, 0, 655, 657, 14, 0), (6, 71, 0, 12, 660, 0, 0, 0), (6, 66, 43, 0, 742, 744, 15, 0), (6, 77, 44, 0, 746, 748, 16, 1), (6, 81, 45, 0, 750, 752, 17, 1), (6, 89, 46, 0, 754, 756, 18, 1), (6, 100, 47, 0, 758, 760, 19, 1), (6, 107, 48, 0, 762, 764, 20, 1), (6, 114, 49, 0, 766, 768, 21, 0), (6, 110, 33, 3, 772, 619, 0, 2), (6, 103, 50, 2, 773, 774, 0, 1), (6, 126, 0, 10, 778, 0, 0, 0), (6, 128, 0, 9, 781, 0, 0, 0), (6, 93, 51, 0, 784, 786, 22, 2), (6, 85, 52, 0, 788, 790, 23, 2), (6, 97, 53, 0, 792, 794, 24, 2), (6, 26, 54, 0, 796, 798, 25, 0), (12, 70, 55, 0, 801, 802, 803, 0), (10, 199, 56, 1, 805, 807, 26, 1), (9, 23, 0, 8, 809, 0, 0, 0), (12, 74, 57, 0, 810, 811, 812, 2), (12, 88, 58, 0, 814, 815, 816, 1), (12, 92, 59, 0, 818, 819, 820, 2), (12, 96, 60, 0, 822, 823, 824, 1), (10, 237, 61, 0, 826, 828, 27, 1), (10, 206, 62, 0, 830, 832, 28, 1), (10, 367, 63, 1, 834, 836, 29, 2), (3, 150, 64, 1, 838, 840, 30, 6), (10, 224, 65, 1, 842, 844, 31, 2), (10, 255, 66, 1, 846, 848, 32, 1), (3, 132, 67, 0, 850, 852, 33, 1), (3, 53, 12, 3, 854, 496, 0, 1), (3, 135, 68, 1, 855, 857, 34, 2), (3, 138, 69, 0, 859, 861, 35, 0), (3, 141, 2, 2, 863, 160, 0, 2), (3, 147, 70, 1, 864, 866, 36, 0), (1, 39, 2, 2, 868, 160, 0, 2), (10, 240, 71, 0, 869, 871, 37, 1), (10, 371, 0, 8, 873, 0, 0, 0), (10, 376, 0, 7, 874, 0, 0, 0), (10, 379, 72, 1, 875, 877, 38, 3), (3, 111, 73, 1, 879, 881, 39, 3), (1, 58, 74, 1, 884, 886, 40, 2), (3, 118, 0, 8, 888, 0, 0, 0), (3, 121, 74, 1, 889, 886, 40, 2), (10, 243, 75, 0, 890, 892, 41, 0), (10, 386, 76, 1, 894, 896, 42, 0), (3, 76, 0, 7, 899, 0, 0, 0), (10, 283, 33, 2, 900, 619, 0, 2), (10, 246, 77, 0, 901, 903, 43, 0), (10, 397, 78, 1, 905, 907, 44, 1), (8, 19, 12, 3, 909, 496, 0, 1), (10, 400, 79, 1, 910, 912, 45, 3), (0, 35, 80, 0, 914, 916, 46, 4), (0, 31, 81, 2, 918, 919, 0, 3), (10, 407, 82, 1, 921, 923, 47, 3), (10, 249, 83, 0, 925, 927, 48, 1), (10, 410, 84, 1, 929, 931, 49, 0)]
def cm_mt_2 : List (Nat × Nat × Nat × Nat × Nat × Nat × Nat × Nat) := [(10, 413, 85, 1, 933, 935, 50, 2), (3, 91, 32, 0, 937, 611, 9, 1), (3, 98, 24, 1, 938, 577, 5, 0), (3, 101, 86, 1, 939, 941, 51, 2), (10, 417, 87, 1, 943, 945, 52, 3), (10, 420, 88, 1, 947, 949, 53, 2), (10, 252, 89, 0, 951, 953, 54, 1), (12, 101, 90, 0, 955, 956, 957, 2), (12, 105, 91, 0, 959, 960, 961, 3), (10, 259, 92, 1, 963, 965, 55, 3), (12, 109, 93, 0, 967, 968, 969, 2), (10, 263, 94, 1, 971, 973, 56, 2), (0, 39, 92, 0, 975, 965, 55, 3), (12, 113, 95, 0, 976, 977, 978, 1), (12, 117, 96, 0, 980, 981, 982, 4), (10, 270, 97, 2, 984, 985, 0, 3), (10, 275, 98, 2, 988, 989, 0, 2), (10, 279, 99, 2, 991, 992, 0, 2), (12, 122, 100, 0, 994, 995, 996, 3), (12, 126, 101, 0, 999, 1000, 1001, 2), (10, 287, 102, 1, 1003, 1005, 57, 2), (5, 38, 18, 1, 1007, 520, 2, 2), (5, 42, 14, 0, 1008, 503, 0, 0), (12, 130, 103, 0, 1009, 1010, 1011, 2), (10, 293, 104, 1, 1013, 1015, 58, 3), (5, 48, 105, 0, 1017, 1019, 59, 3), (5, 62, 106, 1, 1021, 1023, 60, 0), (8, 23, 78, 0, 1025, 907, 44, 1), (5, 68, 107, 0, 1026, 1028, 61, 0), (5, 92, 23, 1, 1030, 572, 4, 1), (5, 96, 13, 3, 1031, 499, 0, 3), (5, 108, 69, 1, 1032, 861, 35, 0), (5, 74, 78, 1, 1033, 907, 44, 1), (5, 78, 76, 1, 1034, 896, 42, 0), (5, 85, 85, 1, 1035, 935, 50, 2), (5, 89, 84, 1, 1036, 931, 49, 0), (5, 52, 0, 11, 1037, 0, 0, 0), (5, 58, 108, 0, 1040, 1042, 62, 0), (5, 111, 0, 8, 1044, 0, 0, 0), (5, 117, 109, 0, 1045, 1047, 63, 2), (12, 134, 110, 0, 1049, 1050, 1051, 2), (12, 138, 111, 0, 1053, 1054, 1055, 3), (10, 309, 112, 1, 1057, 1059, 64, 2), (2, 18, 13, 3, 1061, 499, 0, 3), (2, 22, 113, 0, 1062, 1064, 65, 1), (2, 40, 0, 8, 1066, 0, 0, 0), (2, 26, 114, 0, 1067, 1069, 66, 4), (12, 142, 115, 0, 1071, 1072, 1073, 4), (10, 319, 116, 1, 1075, 1077, 67, 4), (12, 146, 117, 0, 1079, 1080, 1081, 4), (10, 323, 118, 1, 1083, 1085, 68, 2), (7, 47, 119, 0, 1087, 1089, 69, 0), (7, 50, 120, 0, 1091, 1093, 70, 3), (7, 34, 13, 3, 1095, 499, 0, 3), (7, 38, 0, 7, 1096, 0, 0, 0), (7, 44, 0, 8, 1097, 0, 0, 0), (10, 326, 121, 1, 1098, 1100, 71, 1), (7, 66, 122, 0, 1102, 1104, 72, 1), (7, 57, 26, 3, 1106, 585, 0, 1), (10, 330, 123, 1, 1107, 1109, 73, 1)]
def cm_mt_3 : List (Nat × Nat × Nat × Nat × Nat × Nat × Nat × Nat) := [(12, 150, 124, 0, 1111, 1112, 1113, 3), (10, 333, 125, 1, 1115, 1117, 74, 3), (7, 53, 121, 0, 1119, 1100, 71, 1), (12, 154, 126, 0, 1120, 1121, 1122, 2), (10, 340, 127, 0, 1124, 1126, 75, 1), (10, 427, 67, 1, 1128, 852, 33, 1), (12, 158, 128, 0, 1129, 1130, 1131, 0), (10, 355, 129, 1, 1133, 1135, 76, 1), (12, 162, 130, 0, 1137, 1138, 1139, 1), (10, 358, 131, 0, 1141, 1143, 77, 0), (10, 361, 132, 0, 1145, 1147, 78, 1), (12, 79, 133, 13, 1149, 0, 0, 0), (12, 7, 133, 0, 1153, 1154, 1155, 8), (10, 212, 0, 12, 1158, 0, 0, 0), (10, 220, 64, 1, 1220, 840, 30, 6), (12, 18, 134, 4, 1223, 1224, 0, 0), (11, 1, 0, 6, 1226, 0, 0, 0), (12, 85, 135, 0, 1420, 1421, 1422, 0), (12, 23, 136, 0, 1424, 1425, 1426, 3), (11, 161, 137, 2, 1428, 1429, 0, 3), (12, 28, 138, 0, 1431, 1432, 1433, 0), (12, 33, 139, 0, 1435, 1436, 1437, 3), (11, 168, 140, 0, 1439, 1441, 80, 1), (12, 37, 141, 0, 1443, 1444, 1445, 3), (12, 55, 142, 0, 1447, 1448, 1449, 2), (11, 206, 143, 0, 1451, 1453, 81, 2), (11, 192, 144, 0, 1455, 1457, 82, 1), (11, 185, 145, 0, 1459, 1461, 83, 2), (11, 178, 146, 0, 1463, 1465, 84, 2), (11, 181, 147, 2, 1467, 1468, 0, 3), (11, 172, 0, 7, 1470, 0, 0, 0), (11, 188, 148, 2, 1471, 1472, 0, 1), (11, 195, 149, 0, 1474, 1476, 85, 1), (11, 201, 0, 9, 1480, 0, 0, 0), (12, 41, 150, 0, 1482, 1483, 1484, 3), (11, 209, 151, 0, 1486, 1488, 86, 2), (12, 46, 152, 0, 1490, 1491, 1492, 4), (12, 51, 153, 0, 1494, 1495, 1496, 2), (12, 60, 154, 0, 1498, 1499, 1500, 5), (11, 213, 155, 2, 1502, 1503, 0, 6), (12, 65, 156, 0, 1505, 1506, 1507, 1), (12, 69, 157, 0, 1509, 1510, 1511, 0), (11, 287, 158, 0, 1513, 1515, 87, 0), (11, 235, 159, 0, 1517, 1519, 88, 0), (11, 284, 160, 2, 1521, 1522, 0, 1), (11, 232, 161, 0, 1524, 1526, 89, 0), (11, 242, 162, 0, 1528, 1530, 90, 1), (11, 250, 163, 0, 1532, 1534, 91, 0), (11, 265, 164, 0, 1536, 1538, 92, 0), (11, 262, 165, 0, 1540, 1542, 93, 0), (11, 246, 166, 0, 1544, 1546, 94, 0), (11, 253, 167, 0, 1548, 1550, 95, 1), (11, 256, 168, 2, 1552, 1553, 0, 1), (11, 259, 169, 0, 1555, 1557, 96, 0), (11, 239, 170, 2, 1559, 1560, 0, 1), (11, 268, 171, 2, 1562, 1563, 0, 1), (11, 274, 172, 0, 1565, 1567, 97, 1), (11, 281, 173, 0, 1569, 1571, 98, 1), (11, 278, 174, 0, 1573, 1575, 99, 0), (11, 271, 175, 0, 1577, 1579, 100, 0)]
def cm_mt_4 : List (Nat × Nat × Nat × Nat × Nat × Nat × Nat × Nat) := [(12, 73, 176, 0, 1581, 1582, 1583, 0), (11, 293, 157, 0, 1585, 1510, 1511, 0), (12, 78, 177, 0, 1586, 1587, 1588, 2), (12, 84, 178, 0, 1590, 1591, 1592, 8), (11, 316, 179, 0, 1594, 1596, 101, 2), (11, 313, 180, 0, 1598, 1600, 102, 0), (11, 310, 181, 2, 1602, 1603, 0, 3), (11, 303, 182, 2, 1605, 1606, 0, 1), (11, 300, 0, 10, 1610, 0, 0, 0), (12, 91, 183, 0, 1611, 1612, 1613, 1), (12, 95, 184, 0, 1615, 1616, 1617, 2), (12, 100, 185, 0, 1619, 1620, 1621, 1), (11, 360, 186, 0, 1623, 1625, 103, 0), (11, 351, 187, 0, 1627, 1629, 104, 1), (11, 322, 188, 0, 1631, 1633, 105, 1), (11, 325, 0, 8, 1635, 0, 0, 0), (11, 354, 189, 0, 1636, 1638, 106, 1), (11, 357, 190, 0, 1641, 1643, 107, 0), (11, 333, 191, 0, 1645, 1647, 108, 1), (11, 336, 192, 0, 1650, 1652, 109, 1), (11, 338, 193, 0, 1654, 1656, 110, 3), (11, 342, 194, 0, 1658, 1660, 111, 1), (11, 345, 195, 0, 1662, 1664, 112, 2), (11, 348, 196, 0, 1666, 1668, 113, 3), (12, 104, 197, 0, 1670, 1671, 1672, 2), (12, 108, 198, 0, 1674, 1675, 1676, 3), (12, 112, 199, 0, 1678, 1679, 1680, 2), (12, 116, 200, 0, 1682, 1683, 1684, 1), (12, 157, 201, 0, 1686, 1687, 1688, 2), (12, 161, 202, 0, 1690, 1691, 1692, 0), (12, 121, 203, 0, 1694, 1695, 1696, 4), (11, 368, 204, 2, 1699, 1700, 0, 2), (11, 372, 205, 2, 1702, 1703, 0, 2), (11, 363, 206, 2, 1705, 1706, 0, 2), (12, 125, 207, 0, 1708, 1709, 1710, 3), (12, 129, 208, 0, 1712, 1713, 1714, 2), (12, 133, 209, 0, 1716, 1717, 1718, 2), (11, 384, 210, 0, 1720, 1722, 114, 3), (11, 378, 211, 0, 1724, 1726, 115, 1), (12, 137, 212, 0, 1728, 1729, 1730, 2), (12, 141, 213, 0, 1732, 1733, 1734, 3), (11, 390, 214, 0, 1736, 1738, 116, 2), (12, 145, 215, 0, 1740, 1741, 1742, 4), (12, 149, 216, 0, 1744, 1745, 1746, 4), (11, 400, 217, 0, 1748, 1750, 117, 3), (11, 403, 218, 0, 1752, 1754, 118, 4), (11, 396, 219, 0, 1756, 1758, 119, 4), (12, 153, 220, 0, 1760, 1761, 1762, 3), (12, 165, 221, 0, 1764, 1765, 1766, 1)]
def cm_mt : List (Nat × Nat × Nat × Nat × Nat × Nat × Nat × Nat) := cm_mt_0 ++ (cm_mt_1 ++ (cm_mt_2 ++ (cm_mt_3 ++ (cm_mt_4))))
def cm_ip : List Nat := [128, 134, 131, 130, 122, 129, 126, 132, 127, 124, 121, 133, 120, 125, 123]
def cm_ownN (oc : Nat) : String := cm_own.getD oc ""
def cm_T (ci : Nat) : u_T := match cm_cl[ci]? with
  | some r => r.2.1
  | none => TX0
def cm_chM1 (M : Nat) : Bool := decide ((cm_M M).1.cls = cm_ownN (cm_M M).2.1) && plainName (cm_M M).1.cls && decide ((cm_M M).2.2.2.1 ≤ 11) && decide ((cm_M M).1.cls ≠ "java/lang/invoke/MethodHandle") && decide ((cm_M M).1.cls ≠ "java/lang/invoke/VarHandle")
def cm_chF (e : Nat × Nat × Nat × Nat × Bool × Nat) : Bool :=
  decide (e.2.2.1 < 12) && decide (e.2.2.2.1 < cm_N e.2.2.1) &&
  (if e.2.2.2.2.1 then decide (lw_tbl[e.2.2.2.2.2]? = some (Cond.fieldLinkNest (cm_ownN e.1) e.2.1 (cm_T e.2.2.1 e.2.2.2.1).1 (cm_T e.2.2.1 e.2.2.2.1).2.1 (cm_T e.2.2.1 e.2.2.2.1).2.2.1 "ClogHouse"))
   else decide (lw_tbl[e.2.2.2.2.2]? = some (Cond.fieldLink (cm_ownN e.1) e.2.1 (cm_T e.2.2.1 e.2.2.2.1).1 (cm_T e.2.2.1 e.2.2.2.1).2.1 (cm_T e.2.2.1 e.2.2.2.1).2.2.1)))
def cm_chC (e : Nat × Nat × Int32 × Nat) : Bool := decide (lw_tbl[e.2.2.2]? = some (Cond.constant (cm_ownN e.1) e.2.1 e.2.2.1))
def cm_chJ (e : Nat × Nat × Int64 × Nat) : Bool := decide (lw_tbl[e.2.2.2]? = some (Cond.constantLong (cm_ownN e.1) e.2.1 e.2.2.1))
def cm_chW (e : Nat × Nat × Nat × Nat) : Bool := decide (e.2.2.1 < 12) && decide (lw_tbl[e.2.2.2]? = some (Cond.classLink (cm_ownN e.1) e.2.1 (cm_ownN e.2.2.1))) && decide (Cond.instantiable (cm_ownN e.2.2.1) (cm_N e.2.2.1) ∈ lw_tbl) && decide (lw_tbl[cm_ip.getD e.2.2.1 0]? = some (Cond.initialized (cm_ownN e.2.2.1)))
def cm_lwN : MethodName := ⟨"ClogHouseLaw", "worth", "(LClogHouse;IIIIIIII[J)I"⟩
def cm_chE (e : Nat × Nat × Nat × Nat × Nat × Nat × Nat × Nat) : Bool :=
  let y := (cm_M e.2.2.1).1
  decide (e.2.2.1 < cm_nm) && decide ((parseMethodDescriptor y.desc).map (fun d => d.parameters.length) = some e.2.2.2.2.2.2.2 ∨ 6 ≤ e.2.2.2.1) &&
  (match e.2.2.2.1 with
   | 0 => decide (lw_tbl[e.2.2.2.2.1]? = some (Cond.methodLink (cm_ownN e.1) e.2.1 y)) && decide (lw_tbl[e.2.2.2.2.2.1]? = some (Cond.instanceMethod y)) && decide (lw_tbl[e.2.2.2.2.2.2.1]? = some (Cond.selects y.cls y y))
   | 1 => decide (lw_tbl[e.2.2.2.2.1]? = some (Cond.methodLinkNest (cm_ownN e.1) e.2.1 y "ClogHouse")) && decide (lw_tbl[e.2.2.2.2.2.1]? = some (Cond.instanceMethod y)) && decide (lw_tbl[e.2.2.2.2.2.2.1]? = some (Cond.selects y.cls y y))
   | 2 => decide (lw_tbl[e.2.2.2.2.1]? = some (Cond.methodLink (cm_ownN e.1) e.2.1 y)) && decide (lw_tbl[e.2.2.2.2.2.1]? = some (Cond.static y))
   | 3 => decide (lw_tbl[e.2.2.2.2.1]? = some (Cond.methodLinkNest (cm_ownN e.1) e.2.1 y "ClogHouse")) && decide (lw_tbl[e.2.2.2.2.2.1]? = some (Cond.static y))
   | 4 => decide (lw_tbl[e.2.2.2.2.1]? = some (Cond.methodLink (cm_ownN e.1) e.2.1 y)) && decide (lw_tbl[e.2.2.2.2.2.1]? = some (Cond.instanceMethod y)) && decide (y.name = "<init>")
   | 5 => decide (lw_tbl[e.2.2.2.2.1]? = some (Cond.methodLinkNest (cm_ownN e.1) e.2.1 y "ClogHouse")) && decide (lw_tbl[e.2.2.2.2.2.1]? = some (Cond.instanceMethod y)) && decide (y.name = "<init>")
   | 6 => decide (lw_tbl[e.2.2.2.2.1]? = some (Cond.methodLink (cm_ownN e.1) e.2.1 objectInit))
   | 7 => decide (lw_tbl[e.2.2.2.2.1]? = some (Cond.methodLink (cm_ownN e.1) e.2.1 Lib.Math.max.name))
   | 8 => decide (lw_tbl[e.2.2.2.2.1]? = some (Cond.methodLink (cm_ownN e.1) e.2.1 Lib.Math.min.name))
   | 9 => decide (lw_tbl[e.2.2.2.2.1]? = some (Cond.methodLink (cm_ownN e.1) e.2.1 Lib.MathLoose.max_long.x))
   | 10 => decide (lw_tbl[e.2.2.2.2.1]? = some (Cond.methodLink (cm_ownN e.1) e.2.1 Lib.MathLoose.min_long.x))
   | 11 => decide (lw_tbl[e.2.2.2.2.1]? = some (Cond.methodLink (cm_ownN e.1) e.2.1 arraycopyName))
   | 13 => decide (lw_tbl[e.2.2.2.2.1]? = some (Cond.methodLink (cm_ownN e.1) e.2.1 cm_lwN)) && decide (e.2.2.1 = 133)
   | _ => true)

theorem cm_okM1 : (List.range cm_nm).all (fun M => cm_chM1 M) = true := by decide +kernel
set_option maxRecDepth 100000 in
theorem cm_okM2_0 : ∀ m ∈ cm_ms_0, Cond.code m.1 m.2.2.1 m.2.2.2.1 m.2.2.2.2 ∈ lw_tbl := List.forall_mem_cons.mpr ⟨List.mem_of_getElem? (i := 149) rfl, List.forall_mem_cons.mpr ⟨List.mem_of_getElem? (i := 157) rfl, List.forall_mem_cons.mpr ⟨List.mem_of_getElem? (i := 161) rfl, List.forall_mem_cons.mpr ⟨List.mem_of_getElem? (i := 185) rfl, List.forall_mem_cons.mpr ⟨List.mem_of_getElem? (i := 206) rfl, List.forall_mem_cons.mpr ⟨List.mem_of_getElem? (i := 237) rfl, List.forall_mem_cons.mpr ⟨List.mem_of_getElem? (i := 253) rfl, List.forall_mem_cons.mpr ⟨List.mem_of_getElem? (i := 284) rfl, List.forall_mem_cons.mpr ⟨List.mem_of_getElem? (i := 290) rfl, List.forall_mem_cons.mpr ⟨List.mem_of_getElem? (i := 400) rfl, List.forall_mem_cons.mpr ⟨List.mem_of_getElem? (i := 426) rfl, List.forall_mem_cons.mpr ⟨List.mem_of_getElem? (i := 494) rfl, List.forall_mem_cons.mpr ⟨List.mem_of_getElem? (i := 497) rfl, List.forall_mem_cons.mpr ⟨List.mem_of_getElem? (i := 500) rfl, List.forall_mem_cons.mpr ⟨List.mem_of_getElem? (i := 504) rfl, List.forall_mem_cons.mpr ⟨List.mem_of_getElem? (i := 508) rfl, List.forall_mem_cons.mpr ⟨List.mem_of_getElem? (i := 513) rfl, List.forall_mem_cons.mpr ⟨List.mem_of_getElem? (i := 517) rfl, List.forall_mem_cons.mpr ⟨List.mem_of_getElem? (i := 521) rfl, List.forall_mem_cons.mpr ⟨List.mem_of_getElem? (i := 525) rfl, List.forall_mem_cons.mpr ⟨List.mem_of_getElem? (i := 561) rfl, List.forall_mem_cons.mpr ⟨List.mem_of_getElem? (i := 565) rfl, List.forall_mem_cons.mpr ⟨List.mem_of_getElem? (i := 569) rfl, List.forall_mem_cons.mpr ⟨List.mem_of_getElem? (i := 573) rfl, List.forall_mem_cons.mpr ⟨List.mem_of_getElem? (i := 578) rfl, List.forall_mem_cons.mpr ⟨List.mem_of_getElem? (i := 582) rfl, List.forall_mem_cons.mpr ⟨List.mem_of_getElem? (i := 586) rfl, List.forall_mem_cons.mpr ⟨List.mem_of_getElem? (i := 590) rfl, List.forall_mem_cons.mpr ⟨List.mem_of_getElem? (i := 594) rfl, List.forall_mem_cons.mpr ⟨List.mem_of_getElem? (i := 598) rfl, List.forall_mem_cons.mpr ⟨List.mem_of_getElem? (i := 602) rfl, List.forall_mem_cons.mpr ⟨List.mem_of_getElem? (i := 608) rfl, List.forall_mem_cons.mpr ⟨List.mem_of_getElem? (i := 612) rfl, List.forall_mem_cons.mpr ⟨List.mem_of_getElem? (i := 620) rfl, List.forall_mem_cons.mpr ⟨List.mem_of_getElem? (i := 624) rfl, List.forall_mem_cons.mpr ⟨List.mem_of_getElem? (i := 627) rfl, List.forall_mem_cons.mpr ⟨List.mem_of_getElem? (i := 631) rfl, List.forall_mem_cons.mpr ⟨List.mem_of_getElem? (i := 635) rfl, List.forall_mem_cons.mpr ⟨List.mem_of_getElem? (i := 639) rfl, List.forall_mem_cons.mpr ⟨List.mem_of_getElem? (i := 643) rfl, cm_nil⟩⟩⟩⟩⟩⟩⟩⟩⟩⟩⟩⟩⟩⟩⟩⟩⟩⟩⟩⟩⟩⟩⟩⟩⟩⟩⟩⟩⟩⟩⟩⟩⟩⟩⟩⟩⟩⟩⟩⟩
set_option maxRecDepth 100000 in
theorem cm_okM2_1 : ∀ m ∈ cm_ms_1, Cond.code m.1 m.2.2.1 m.2.2.2.1 m.2.2.2.2 ∈ lw_tbl := List.forall_mem_cons.mpr ⟨List.mem_of_getElem? (i := 647) rfl, List.forall_mem_cons.mpr ⟨List.mem_of_getElem? (i := 654) rfl, List.forall_mem_cons.mpr ⟨List.mem_of_getElem? (i := 658) rfl, List.forall_mem_cons.mpr ⟨List.mem_of_getElem? (i := 745) rfl, List.forall_mem_cons.mpr ⟨List.mem_of_getElem? (i := 749) rfl, List.forall_mem_cons.mpr ⟨List.mem_of_getElem? (i := 753) rfl, List.forall_mem_cons.mpr ⟨List.mem_of_getElem? (i := 757) rfl, List.forall_mem_cons.mpr ⟨List.mem_of_getElem? (i := 761) rfl, List.forall_mem_cons.mpr ⟨List.mem_of_getElem? (i := 765) rfl, List.forall_mem_cons.mpr ⟨List.mem_of_getElem? (i := 769) rfl, List.forall_mem_cons.mpr ⟨List.mem_of_getElem? (i := 775) rfl, List.forall_mem_cons.mpr ⟨List.mem_of_getElem? (i := 787) rfl, List.forall_mem_cons.mpr ⟨List.mem_of_getElem? (i := 791) rfl, List.forall_mem_cons.mpr ⟨List.mem_of_getElem? (i := 795) rfl, List.forall_mem_cons.mpr ⟨List.mem_of_getElem? (i := 799) rfl, List.forall_mem_cons.mpr ⟨List.mem_of_getElem? (i := 804) rfl, List.forall_mem_cons.mpr ⟨List.mem_of_getElem? (i := 808) rfl, List.forall_mem_cons.mpr ⟨List.mem_of_getElem? (i := 813) rfl, List.forall_mem_cons.mpr ⟨List.mem_of_getElem? (i := 817) rfl, List.forall_mem_cons.mpr ⟨List.mem_of_getElem? (i := 821) rfl, List.forall_mem_cons.mpr ⟨List.mem_of_getElem? (i := 825) rfl, List.forall_mem_cons.mpr ⟨List.mem_of_getElem? (i := 829) rfl, List.forall_mem_cons.mpr ⟨List.mem_of_getElem? (i := 833) rfl, List.forall_mem_cons.mpr ⟨List.mem_of_getElem? (i := 837) rfl, List.forall_mem_cons.mpr ⟨List.mem_of_getElem? (i := 841) rfl, List.forall_mem_cons.mpr ⟨List.mem_of_getElem? (i := 845) rfl, List.forall_mem_cons.mpr ⟨List.mem_of_getElem? (i := 849) rfl, List.forall_mem_cons.mpr ⟨List.mem_of_getElem? (i := 853) rfl, List.forall_mem_cons.mpr ⟨List.mem_of_getElem? (i := 858) rfl, List.forall_mem_cons.mpr ⟨List.mem_of_getElem? (i := 862) rfl, List.forall_mem_cons.mpr ⟨List.mem_of_getElem? (i := 867) rfl, List.forall_mem_cons.mpr ⟨List.mem_of_getElem? (i := 872) rfl, List.forall_mem_cons.mpr ⟨List.mem_of_getElem? (i := 878) rfl, List.forall_mem_cons.mpr ⟨List.mem_of_getElem? (i := 882) rfl, List.forall_mem_cons.mpr ⟨List.mem_of_getElem? (i := 887) rfl, List.forall_mem_cons.mpr ⟨List.mem_of_getElem? (i := 893) rfl, List.forall_mem_cons.mpr ⟨List.mem_of_getElem? (i := 897) rfl, List.forall_mem_cons.mpr ⟨List.mem_of_getElem? (i := 904) rfl, List.forall_mem_cons.mpr ⟨List.mem_of_getElem? (i := 908) rfl, List.forall_mem_cons.mpr ⟨List.mem_of_getElem? (i := 913) rfl, cm_nil⟩⟩⟩⟩⟩⟩⟩⟩⟩⟩⟩⟩⟩⟩⟩⟩⟩⟩⟩⟩⟩⟩⟩⟩⟩⟩⟩⟩⟩⟩⟩⟩⟩⟩⟩⟩⟩⟩⟩⟩
set_option maxRecDepth 100000 in
theorem cm_okM2_2 : ∀ m ∈ cm_ms_2, Cond.code m.1 m.2.2.1 m.2.2.2.1 m.2.2.2.2 ∈ lw_tbl := List.forall_mem_cons.mpr ⟨List.mem_of_getElem? (i := 917) rfl, List.forall_mem_cons.mpr ⟨List.mem_of_getElem? (i := 920) rfl, List.forall_mem_cons.mpr ⟨List.mem_of_getElem? (i := 924) rfl, List.forall_mem_cons.mpr ⟨List.mem_of_getElem? (i := 928) rfl, List.forall_mem_cons.mpr ⟨List.mem_of_getElem? (i := 932) rfl, List.forall_mem_cons.mpr ⟨List.mem_of_getElem? (i := 936) rfl, List.forall_mem_cons.mpr ⟨List.mem_of_getElem? (i := 942) rfl, List.forall_mem_cons.mpr ⟨List.mem_of_getElem? (i := 946) rfl, List.forall_mem_cons.mpr ⟨List.mem_of_getElem? (i := 950) rfl, List.forall_mem_cons.mpr ⟨List.mem_of_getElem? (i := 954) rfl, List.forall_mem_cons.mpr ⟨List.mem_of_getElem? (i := 958) rfl, List.forall_mem_cons.mpr ⟨List.mem_of_getElem? (i := 962) rfl, List.forall_mem_cons.mpr ⟨List.mem_of_getElem? (i := 966) rfl, List.forall_mem_cons.mpr ⟨List.mem_of_getElem? (i := 970) rfl, List.forall_mem_cons.mpr ⟨List.mem_of_getElem? (i := 974) rfl, List.forall_mem_cons.mpr ⟨List.mem_of_getElem? (i := 979) rfl, List.forall_mem_cons.mpr ⟨List.mem_of_getElem? (i := 983) rfl, List.forall_mem_cons.mpr ⟨List.mem_of_getElem? (i := 986) rfl, List.forall_mem_cons.mpr ⟨List.mem_of_getElem? (i := 990) rfl, List.forall_mem_cons.mpr ⟨List.mem_of_getElem? (i := 993) rfl, List.forall_mem_cons.mpr ⟨List.mem_of_getElem? (i := 997) rfl, List.forall_mem_cons.mpr ⟨List.mem_of_getElem? (i := 1002) rfl, List.forall_mem_cons.mpr ⟨List.mem_of_getElem? (i := 1006) rfl, List.forall_mem_cons.mpr ⟨List.mem_of_getElem? (i := 1012) rfl, List.forall_mem_cons.mpr ⟨List.mem_of_getElem? (i := 1016) rfl, List.forall_mem_cons.mpr ⟨List.mem_of_getElem? (i := 1020) rfl, List.forall_mem_cons.mpr ⟨List.mem_of_getElem? (i := 1024) rfl, List.forall_mem_cons.mpr ⟨List.mem_of_getElem? (i := 1029) rfl, List.forall_mem_cons.mpr ⟨List.mem_of_getElem? (i := 1043) rfl, List.forall_mem_cons.mpr ⟨List.mem_of_getElem? (i := 1048) rfl, List.forall_mem_cons.mpr ⟨List.mem_of_getElem? (i := 1052) rfl, List.forall_mem_cons.mpr ⟨List.mem_of_getElem? (i := 1056) rfl, List.forall_mem_cons.mpr ⟨List.mem_of_getElem? (i := 1060) rfl, List.forall_mem_cons.mpr ⟨List.mem_of_getElem? (i := 1065) rfl, List.forall_mem_cons.mpr ⟨List.mem_of_getElem? (i := 1070) rfl, List.forall_mem_cons.mpr ⟨List.mem_of_getElem? (i := 1074) rfl, List.forall_mem_cons.mpr ⟨List.mem_of_getElem? (i := 1078) rfl, List.forall_mem_cons.mpr ⟨List.mem_of_getElem? (i := 1082) rfl, List.forall_mem_cons.mpr ⟨List.mem_of_getElem? (i := 1086) rfl, List.forall_mem_cons.mpr ⟨List.mem_of_getElem? (i := 1090) rfl, cm_nil⟩⟩⟩⟩⟩⟩⟩⟩⟩⟩⟩⟩⟩⟩⟩⟩⟩⟩⟩⟩⟩⟩⟩⟩⟩⟩⟩⟩⟩⟩⟩⟩⟩⟩⟩⟩⟩⟩⟩⟩
set_option maxRecDepth 100000 in
theorem cm_okM2_3 : ∀ m ∈ cm_ms_3, Cond.code m.1 m.2.2.1 m.2.2.2.1 m.2.2.2.2 ∈ lw_tbl := List.forall_mem_cons.mpr ⟨List.mem_of_getElem? (i := 1094) rfl, List.forall_mem_cons.mpr ⟨List.mem_of_getElem? (i := 1101) rfl, List.forall_mem_cons.mpr ⟨List.mem_of_getElem? (i := 1105) rfl, List.forall_mem_cons.mpr ⟨List.mem_of_getElem? (i := 1110) rfl, List.forall_mem_cons.mpr ⟨List.mem_of_getElem? (i := 1114) rfl, List.forall_mem_cons.mpr ⟨List.mem_of_getElem? (i := 1118) rfl, List.forall_mem_cons.mpr ⟨List.mem_of_getElem? (i := 1123) rfl, List.forall_mem_cons.mpr ⟨List.mem_of_getElem? (i := 1127) rfl, List.forall_mem_cons.mpr ⟨List.mem_of_getElem? (i := 1132) rfl, List.forall_mem_cons.mpr ⟨List.mem_of_getElem? (i := 1136) rfl, List.forall_mem_cons.mpr ⟨List.mem_of_getElem? (i := 1140) rfl, List.forall_mem_cons.mpr ⟨List.mem_of_getElem? (i := 1144) rfl, List.forall_mem_cons.mpr ⟨List.mem_of_getElem? (i := 1148) rfl, List.forall_mem_cons.mpr ⟨List.mem_of_getElem? (i := 1156) rfl, List.forall_mem_cons.mpr ⟨List.mem_of_getElem? (i := 1225) rfl, List.forall_mem_cons.mpr ⟨List.mem_of_getElem? (i := 1423) rfl, List.forall_mem_cons.mpr ⟨List.mem_of_getElem? (i := 1427) rfl, List.forall_mem_cons.mpr ⟨List.mem_of_getElem? (i := 1430) rfl, List.forall_mem_cons.mpr ⟨List.mem_of_getElem? (i := 1434) rfl, List.forall_mem_cons.mpr ⟨List.mem_of_getElem? (i := 1438) rfl, List.forall_mem_cons.mpr ⟨List.mem_of_getElem? (i := 1442) rfl, List.forall_mem_cons.mpr ⟨List.mem_of_getElem? (i := 1446) rfl, List.forall_mem_cons.mpr ⟨List.mem_of_getElem? (i := 1450) rfl, List.forall_mem_cons.mpr ⟨List.mem_of_getElem? (i := 1454) rfl, List.forall_mem_cons.mpr ⟨List.mem_of_getElem? (i := 1458) rfl, List.forall_mem_cons.mpr ⟨List.mem_of_getElem? (i := 1462) rfl, List.forall_mem_cons.mpr ⟨List.mem_of_getElem? (i := 1466) rfl, List.forall_mem_cons.mpr ⟨List.mem_of_getElem? (i := 1469) rfl, List.forall_mem_cons.mpr ⟨List.mem_of_getElem? (i := 1473) rfl, List.forall_mem_cons.mpr ⟨List.mem_of_getElem? (i := 1477) rfl, List.forall_mem_cons.mpr ⟨List.mem_of_getElem? (i := 1485) rfl, List.forall_mem_cons.mpr ⟨List.mem_of_getElem? (i := 1489) rfl, List.forall_mem_cons.mpr ⟨List.mem_of_getElem? (i := 1493) rfl, List.forall_mem_cons.mpr ⟨List.mem_of_getElem? (i := 1497) rfl, List.forall_mem_cons.mpr ⟨List.mem_of_getElem? (i := 1501) rfl, List.forall_mem_cons.mpr ⟨List.mem_of_getElem? (i := 1504) rfl, List.forall_mem_cons.mpr ⟨List.mem_of_getElem? (i := 1508) rfl, List.forall_mem_cons.mpr ⟨List.mem_of_getElem? (i := 1512) rfl, List.forall_mem_cons.mpr ⟨List.mem_of_getElem? (i := 1516) rfl, List.forall_mem_cons.mpr ⟨List.mem_of_getElem? (i := 1520) rfl, cm_nil⟩⟩⟩⟩⟩⟩⟩⟩⟩⟩⟩⟩⟩⟩⟩⟩⟩⟩⟩⟩⟩⟩⟩⟩⟩⟩⟩⟩⟩⟩⟩⟩⟩⟩⟩⟩⟩⟩⟩⟩
set_option maxRecDepth 100000 in
theorem cm_okM2_4 : ∀ m ∈ cm_ms_4, Cond.code m.1 m.2.2.1 m.2.2.2.1 m.2.2.2.2 ∈ lw_tbl := List.forall_mem_cons.mpr ⟨List.mem_of_getElem? (i := 1523) rfl, List.forall_mem_cons.mpr ⟨List.mem_of_getElem? (i := 1527) rfl, List.forall_mem_cons.mpr ⟨List.mem_of_getElem? (i := 1531) rfl, List.forall_mem_cons.mpr ⟨List.mem_of_getElem? (i := 1535) rfl, List.forall_mem_cons.mpr ⟨List.mem_of_getElem? (i := 1539) rfl, List.forall_mem_cons.mpr ⟨List.mem_of_getElem? (i := 1543) rfl, List.forall_mem_cons.mpr ⟨List.mem_of_getElem? (i := 1547) rfl, List.forall_mem_cons.mpr ⟨List.mem_of_getElem? (i := 1551) rfl, List.forall_mem_cons.mpr ⟨List.mem_of_getElem? (i := 1554) rfl, List.forall_mem_cons.mpr ⟨List.mem_of_getElem? (i := 1558) rfl, List.forall_mem_cons.mpr ⟨List.mem_of_getElem? (i := 1561) rfl, List.forall_mem_cons.mpr ⟨List.mem_of_getElem? (i := 1564) rfl, List.forall_mem_cons.mpr ⟨List.mem_of_getElem? (i := 1568) rfl, List.forall_mem_cons.mpr ⟨List.mem_of_getElem? (i := 1572) rfl, List.forall_mem_cons.mpr ⟨List.mem_of_getElem? (i := 1576) rfl, List.forall_mem_cons.mpr ⟨List.mem_of_getElem? (i := 1580) rfl, List.forall_mem_cons.mpr ⟨List.mem_of_getElem? (i := 1584) rfl, List.forall_mem_cons.mpr ⟨List.mem_of_getElem? (i := 1589) rfl, List.forall_mem_cons.mpr ⟨List.mem_of_getElem? (i := 1593) rfl, List.forall_mem_cons.mpr ⟨List.mem_of_getElem? (i := 1597) rfl, List.forall_mem_cons.mpr ⟨List.mem_of_getElem? (i := 1601) rfl, List.forall_mem_cons.mpr ⟨List.mem_of_getElem? (i := 1604) rfl, List.forall_mem_cons.mpr ⟨List.mem_of_getElem? (i := 1607) rfl, List.forall_mem_cons.mpr ⟨List.mem_of_getElem? (i := 1614) rfl, List.forall_mem_cons.mpr ⟨List.mem_of_getElem? (i := 1618) rfl, List.forall_mem_cons.mpr ⟨List.mem_of_getElem? (i := 1622) rfl, List.forall_mem_cons.mpr ⟨List.mem_of_getElem? (i := 1626) rfl, List.forall_mem_cons.mpr ⟨List.mem_of_getElem? (i := 1630) rfl, List.forall_mem_cons.mpr ⟨List.mem_of_getElem? (i := 1634) rfl, List.forall_mem_cons.mpr ⟨List.mem_of_getElem? (i := 1639) rfl, List.forall_mem_cons.mpr ⟨List.mem_of_getElem? (i := 1644) rfl, List.forall_mem_cons.mpr ⟨List.mem_of_getElem? (i := 1648) rfl, List.forall_mem_cons.mpr ⟨List.mem_of_getElem? (i := 1653) rfl, List.forall_mem_cons.mpr ⟨List.mem_of_getElem? (i := 1657) rfl, List.forall_mem_cons.mpr ⟨List.mem_of_getElem? (i := 1661) rfl, List.forall_mem_cons.mpr ⟨List.mem_of_getElem? (i := 1665) rfl, List.forall_mem_cons.mpr ⟨List.mem_of_getElem? (i := 1669) rfl, List.forall_mem_cons.mpr ⟨List.mem_of_getElem? (i := 1673) rfl, List.forall_mem_cons.mpr ⟨List.mem_of_getElem? (i := 1677) rfl, List.forall_mem_cons.mpr ⟨List.mem_of_getElem? (i := 1681) rfl, cm_nil⟩⟩⟩⟩⟩⟩⟩⟩⟩⟩⟩⟩⟩⟩⟩⟩⟩⟩⟩⟩⟩⟩⟩⟩⟩⟩⟩⟩⟩⟩⟩⟩⟩⟩⟩⟩⟩⟩⟩⟩
set_option maxRecDepth 100000 in
theorem cm_okM2_5 : ∀ m ∈ cm_ms_5, Cond.code m.1 m.2.2.1 m.2.2.2.1 m.2.2.2.2 ∈ lw_tbl := List.forall_mem_cons.mpr ⟨List.mem_of_getElem? (i := 1685) rfl, List.forall_mem_cons.mpr ⟨List.mem_of_getElem? (i := 1689) rfl, List.forall_mem_cons.mpr ⟨List.mem_of_getElem? (i := 1693) rfl, List.forall_mem_cons.mpr ⟨List.mem_of_getElem? (i := 1697) rfl, List.forall_mem_cons.mpr ⟨List.mem_of_getElem? (i := 1701) rfl, List.forall_mem_cons.mpr ⟨List.mem_of_getElem? (i := 1704) rfl, List.forall_mem_cons.mpr ⟨List.mem_of_getElem? (i := 1707) rfl, List.forall_mem_cons.mpr ⟨List.mem_of_getElem? (i := 1711) rfl, List.forall_mem_cons.mpr ⟨List.mem_of_getElem? (i := 1715) rfl, List.forall_mem_cons.mpr ⟨List.mem_of_getElem? (i := 1719) rfl, List.forall_mem_cons.mpr ⟨List.mem_of_getElem? (i := 1723) rfl, List.forall_mem_cons.mpr ⟨List.mem_of_getElem? (i := 1727) rfl, List.forall_mem_cons.mpr ⟨List.mem_of_getElem? (i := 1731) rfl, List.forall_mem_cons.mpr ⟨List.mem_of_getElem? (i := 1735) rfl, List.forall_mem_cons.mpr ⟨List.mem_of_getElem? (i := 1739) rfl, List.forall_mem_cons.mpr ⟨List.mem_of_getElem? (i := 1743) rfl, List.forall_mem_cons.mpr ⟨List.mem_of_getElem? (i := 1747) rfl, List.forall_mem_cons.mpr ⟨List.mem_of_getElem? (i := 1751) rfl, List.forall_mem_cons.mpr ⟨List.mem_of_getElem? (i := 1755) rfl, List.forall_mem_cons.mpr ⟨List.mem_of_getElem? (i := 1759) rfl, List.forall_mem_cons.mpr ⟨List.mem_of_getElem? (i := 1763) rfl, List.forall_mem_cons.mpr ⟨List.mem_of_getElem? (i := 1767) rfl, cm_nil⟩⟩⟩⟩⟩⟩⟩⟩⟩⟩⟩⟩⟩⟩⟩⟩⟩⟩⟩⟩⟩⟩
theorem cm_okI : (List.range 15).all (fun oc => decide (lw_tbl[cm_ip.getD oc 0]? = some (Cond.initialized (cm_ownN oc)))) = true := by decide +kernel
theorem cm_okE_0a : (cm_mt_0.take 30).all cm_chE = true := by decide +kernel
theorem cm_okE_0b : (cm_mt_0.drop 30).all cm_chE = true := by decide +kernel
theorem cm_okE_1a : (cm_mt_1.take 30).all cm_chE = true := by decide +kernel
theorem cm_okE_1b : (cm_mt_1.drop 30).all cm_chE = true := by decide +kernel
theorem cm_okE_2a : (cm_mt_2.take 30).all cm_chE = true := by decide +kernel
theorem cm_okE_2b : (cm_mt_2.drop 30).all cm_chE = true := by decide +kernel
theorem cm_okE_3a : (cm_mt_3.take 30).all cm_chE = true := by decide +kernel
theorem cm_okE_3b : (cm_mt_3.drop 30).all cm_chE = true := by decide +kernel
theorem cm_okE_4a : (cm_mt_4.take 30).all cm_chE = true := by decide +kernel
theorem cm_okE_4b : (cm_mt_4.drop 30).all cm_chE = true := by decide +kernel
theorem cm_okF_0 : cm_fl_0.all cm_chF = true := by decide +kernel
theorem cm_okF_1 : cm_fl_1.all cm_chF = true := by decide +kernel
theorem cm_okF_2 : cm_fl_2.all cm_chF = true := by decide +kernel
theorem cm_okF_3 : cm_fl_3.all cm_chF = true := by decide +kernel
theorem cm_okC : cm_ct.all cm_chC = true := by decide +kernel
theorem cm_okJ : cm_cj.all cm_chJ = true := by decide +kernel
theorem cm_okW : cm_nw.all cm_chW = true := by decide +kernel
theorem cm_okF : ∀ e ∈ cm_fl, cm_chF e = true := fun e h => by
  simp only [cm_fl, List.mem_append] at h
  rcases h with h | h | h | h
  · exact List.all_eq_true.mp cm_okF_0 e h
  · exact List.all_eq_true.mp cm_okF_1 e h
  · exact List.all_eq_true.mp cm_okF_2 e h
  · exact List.all_eq_true.mp cm_okF_3 e h
theorem cm_td {α : Type} {l : List α} {p : α → Bool} (n : Nat) (h1 : (l.take n).all p = true) (h2 : (l.drop n).all p = true) : ∀ e ∈ l, p e = true := fun e h => by
  rw [← List.take_append_drop n l] at h
  rcases List.mem_append.mp h with h | h
  · exact List.all_eq_true.mp h1 e h
  · exact List.all_eq_true.mp h2 e h
theorem cm_okE : ∀ e ∈ cm_mt, cm_chE e = true := fun e h => by
  simp only [cm_mt, List.mem_append] at h
  rcases h with h | h | h | h | h
  · exact cm_td 30 cm_okE_0a cm_okE_0b e h
  · exact cm_td 30 cm_okE_1a cm_okE_1b e h
  · exact cm_td 30 cm_okE_2a cm_okE_2b e h
  · exact cm_td 30 cm_okE_3a cm_okE_3b e h
  · exact cm_td 30 cm_okE_4a cm_okE_4b e h
theorem cm_okM2 (M : Nat) (h : M < cm_nm) : Cond.code (cm_M M).1 (cm_M M).2.2.1 (cm_M M).2.2.2.1 (cm_M M).2.2.2.2 ∈ lw_tbl := by
  have hm : cm_M M ∈ cm_ms0 := by
    have hl : M < cm_ms0.length := h
    unfold cm_M cm_ms
    rw [List.getD_eq_getElem?_getD, List.getElem?_append_left hl, List.getElem?_eq_getElem hl]
    exact List.getElem_mem hl
  simp only [cm_ms0, List.mem_append] at hm
  rcases hm with h | h | h | h | h | h
  · exact cm_okM2_0 _ h
  · exact cm_okM2_1 _ h
  · exact cm_okM2_2 _ h
  · exact cm_okM2_3 _ h
  · exact cm_okM2_4 _ h
  · exact cm_okM2_5 _ h
