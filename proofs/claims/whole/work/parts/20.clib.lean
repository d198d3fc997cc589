/-! the class: its words, its world (a pool), a row an instruction that touches it -/
def wCl : List Cond := [Cond.classLink RX0 47 "SkiHill$Cell",
  Cond.fieldLink RX0 52 "SkiHill$Cell" "want" "I",
  Cond.methodLink RX0 56 Lib.Math.max.name,
  Cond.static Lib.Math.max.name,
  Cond.initialized "java/lang/Math",
  Cond.code Lib.Math.max.name Lib.Math.max.code 2 (some .int),
  Cond.fieldLink RX0 62 "SkiHill$Cell" "spare" "I",
  Cond.fieldLink RX0 65 "SkiHill$Cell" "missing" "I",
  Cond.classLink RX0 68 "SkiHill$Link",
  Cond.fieldLink RX0 70 "SkiHill$Link" "carried" "I",
  Cond.methodLink RX0 29 yJx4a65c_size_8abf5,
  Cond.instanceMethod yJx4a65c_size_8abf5,
  Cond.selects RJx4a65c yJx4a65c_size_8abf5 yJx4a65c_size_8abf5,
  Cond.initialized RJx4a65c,
  Cond.code yJx4a65c_size_8abf5 cJx4a65c_size_8abf5 1 (some .int),
  Cond.fieldLink RJx4a65c 48 "java/util/ArrayList" "size" "I",
  Cond.methodLink RX0 43 yJx4a65c_get_915e3,
  Cond.instanceMethod yJx4a65c_get_915e3,
  Cond.selects RJx4a65c yJx4a65c_get_915e3 yJx4a65c_get_915e3,
  Cond.code yJx4a65c_get_915e3 cJx4a65c_get_915e3 2 (some (.object "java/lang/Object")),
  Cond.methodLink RJx4a65c 118 yJ15_checkIndex_7cf53,
  Cond.static yJ15_checkIndex_7cf53,
  Cond.initialized RJ15,
  Cond.code yJ15_checkIndex_7cf53 cJ15_checkIndex_7cf53 2 (some .int),
  Cond.methodLink RJ15 105 yJ3_checkIndex_8e157,
  Cond.static yJ3_checkIndex_8e157,
  Cond.initialized RJ3,
  Cond.code yJ3_checkIndex_8e157 cJ3_checkIndex_8e157 3 (some .int),
  Cond.methodLink RJx4a65c 123 yJx4a65c_elementData_915e3,
  Cond.instanceMethod yJx4a65c_elementData_915e3,
  Cond.selects RJx4a65c yJx4a65c_elementData_915e3 yJx4a65c_elementData_915e3,
  Cond.code yJx4a65c_elementData_915e3 cJx4a65c_elementData_915e3 2 (some (.object "java/lang/Object")),
  Cond.fieldLink RJx4a65c 9 "java/util/ArrayList" "elementData" "[Ljava/lang/Object;",
  Cond.methodLink RX0 49 yX1_depth,
  Cond.instanceMethod yX1_depth,
  Cond.selects RX1 yX1_depth yX1_depth,
  Cond.initialized RX1,
  Cond.code yX1_depth cX1_depth 1 (some .int),
  Cond.fieldLink RX1 9 "SkiHill$Cell" "snow" "[I",
  Cond.code yX0_prepare cX0_prepare 5 none,
  Cond.code yX0_anyMissing cX0_anyMissing 2 (some .boolean),
  Cond.fieldLink RX0 74 "SkiHill$Cell" "far" "I",
  Cond.constant RX0 73 (1073741824),
  Cond.fieldLink RX0 100 "SkiHill$Link" "length" "I",
  Cond.fieldLink RX0 77 "SkiHill$Cell" "via" "LSkiHill$Link;",
  Cond.methodLink RX0 92 yX4_other,
  Cond.instanceMethod yX4_other,
  Cond.selects RX4 yX4_other yX4_other,
  Cond.initialized RX4,
  Cond.code yX4_other cX4_other 2 (some (.object "SkiHill$Cell")),
  Cond.fieldLink RX4 7 "SkiHill$Link" "a" "LSkiHill$Cell;",
  Cond.fieldLink RX4 13 "SkiHill$Link" "b" "LSkiHill$Cell;",
  Cond.methodLink RX0 96 yX4_carriedFrom,
  Cond.instanceMethod yX4_carriedFrom,
  Cond.selects RX4 yX4_carriedFrom yX4_carriedFrom,
  Cond.code yX4_carriedFrom cX4_carriedFrom 2 (some .int),
  Cond.fieldLink RX4 31 "SkiHill$Link" "carried" "I",
  Cond.code yX0_brings cX0_brings 5 (some .boolean),
  Cond.fieldLink RX0 81 "SkiHill$Link" "a" "LSkiHill$Cell;",
  Cond.fieldLink RX0 89 "SkiHill$Link" "b" "LSkiHill$Cell;",
  Cond.methodLink RX0 85 yX0_brings,
  Cond.static yX0_brings,
  Cond.initialized RX0,
  Cond.code yX0_measure cX0_measure 6 none,
  Cond.code yX0_nearestMissing cX0_nearestMissing 5 (some (.object "SkiHill$Cell")),
  Cond.methodLink RX0 103 Lib.Math.min.name,
  Cond.static Lib.Math.min.name,
  Cond.code Lib.Math.min.name Lib.Math.min.code 2 (some .int),
  Cond.methodLink RX0 106 yX4_carryFrom,
  Cond.instanceMethod yX4_carryFrom,
  Cond.selects RX4 yX4_carryFrom yX4_carryFrom,
  Cond.code yX4_carryFrom cX4_carryFrom 3 none,
  Cond.code yX0_carryTo cX0_carryTo 7 none,
  Cond.methodLink RX0 109 Lib.Math.abs.name,
  Cond.static Lib.Math.abs.name,
  Cond.code Lib.Math.abs.name Lib.Math.abs.code 1 (some .int),
  Cond.code yX0_sumCarried cX0_sumCarried 5 (some .long),
  Cond.constant RX0 15 (1000000),
  Cond.constantLong RX0 27 (-1),
  Cond.methodLink RX0 9 yX0_prepare,
  Cond.static yX0_prepare,
  Cond.methodLink RX0 16 yX0_anyMissing,
  Cond.static yX0_anyMissing,
  Cond.methodLink RX0 20 yX0_measure,
  Cond.static yX0_measure,
  Cond.methodLink RX0 23 yX0_nearestMissing,
  Cond.static yX0_nearestMissing,
  Cond.methodLink RX0 35 yX0_carryTo,
  Cond.static yX0_carryTo,
  Cond.methodLink RX0 39 yX0_sumCarried,
  Cond.static yX0_sumCarried,
  Cond.code yX0_leastSum cX0_leastSum 4 (some .long),
  Cond.methodLink RX1 3 objectInit,
  Cond.instanceMethod objectInit,
  Cond.code objectInit ⟨#[0xb1]⟩ 1 none,
  Cond.arrayClass .int,
  Cond.fieldLink RX1 15 "SkiHill$Cell" "slope" "I",
  Cond.code yX1_init cX1_init 2 none,
  Cond.methodLink RX1 27 Lib.Math.min.name,
  Cond.code yX1_take cX1_take 4 (some .int),
  Cond.methodLink RX1 19 yX1_take,
  Cond.instanceMethod yX1_take,
  Cond.selects RX1 yX1_take yX1_take,
  Cond.code yX1_lose cX1_lose 4 (some .int),
  Cond.code yX1_becomeWorn cX1_becomeWorn 4 (some .int),
  Cond.methodLink RX1 23 yX1_depth,
  Cond.code yX1_becomePushed cX1_becomePushed 3 (some .int),
  Cond.fieldLink RX1 32 "SkiHill$Cell" "want" "I",
  Cond.fieldLink RX1 35 "SkiHill$Cell" "price" "I",
  Cond.code yX1_priceTells cX1_priceTells 3 (some .long),
  Cond.methodLink RX2 3 objectInit,
  Cond.fieldLink RX2 9 "SkiHill$Group" "state" "I",
  Cond.fieldLink RX2 15 "SkiHill$Group" "number" "I",
  Cond.fieldLink RX2 18 "SkiHill$Group" "size" "I",
  Cond.fieldLink RX2 21 "SkiHill$Group" "skill" "I",
  Cond.fieldLink RX2 24 "SkiHill$Group" "where" "I",
  Cond.code yX2_init cX2_init 5 none,
  Cond.fieldLink RX2 27 "SkiHill$Group" "toGo" "I",
  Cond.fieldLink RX2 30 "SkiHill$Group" "endPlace" "I",
  Cond.code yX2_goOn cX2_goOn 1 none,
  Cond.fieldLink RX2 33 "SkiHill$Slope" "number" "I",
  Cond.fieldLink RX2 36 "SkiHill$Slope" "to" "I",
  Cond.fieldLink RX2 39 "SkiHill$Slope" "minutes" "I",
  Cond.fieldLink RX2 42 "SkiHill$Group" "descents" "I",
  Cond.code yX2_goDown cX2_goDown 2 none,
  Cond.fieldLink RX2 45 "SkiHill$Lift" "number" "I",
  Cond.code yX2_waitAt cX2_waitAt 2 none,
  Cond.fieldLink RX2 48 "SkiHill$Lift" "to" "I",
  Cond.fieldLink RX2 49 "SkiHill$Lift" "minutes" "I",
  Cond.fieldLink RX2 50 "SkiHill$Group" "rides" "I",
  Cond.code yX2_rideOn cX2_rideOn 2 none,
  Cond.methodLink RX3 3 objectInit,
  Cond.classLink RX3 9 RJx4a65c,
  Cond.instantiable RJx4a65c 3,
  Cond.fieldLink RX3 12 "SkiHill$Lift" "row" "Ljava/util/ArrayList;",
  Cond.fieldLink RX3 18 "SkiHill$Lift" "number" "I",
  Cond.fieldLink RX3 22 "SkiHill$Lift" "from" "I",
  Cond.fieldLink RX3 25 "SkiHill$Lift" "to" "I",
  Cond.fieldLink RX3 28 "SkiHill$Lift" "seats" "I",
  Cond.fieldLink RX3 31 "SkiHill$Lift" "minutes" "I",
  Cond.fieldLink RX3 34 "SkiHill$Lift" "mostWind" "I",
  Cond.methodLink RX3 11 yJx4a65c_init_da8c8,
  Cond.instanceMethod yJx4a65c_init_da8c8,
  Cond.code yJx4a65c_init_da8c8 cJx4a65c_init_da8c8 1 none,
  Cond.fieldLink RJx4a65c 39 "java/util/ArrayList" "DEFAULTCAPACITY_EMPTY_ELEMENTDATA" "[Ljava/lang/Object;",
  Cond.methodLink RJx4a65c 1 yJxc12de_init_da8c8,
  Cond.instanceMethod yJxc12de_init_da8c8,
  Cond.initialized RJxc12de,
  Cond.code yJxc12de_init_da8c8 cJxc12de_init_da8c8 1 none,
  Cond.fieldLink RJxc12de 7 "java/util/AbstractList" "modCount" "I",
  Cond.methodLink RJxc12de 1 yJxa1e45_init_da8c8,
  Cond.instanceMethod yJxa1e45_init_da8c8,
  Cond.initialized RJxa1e45,
  Cond.code yJxa1e45_init_da8c8 cJxa1e45_init_da8c8 1 none,
  Cond.methodLink RJxa1e45 1 objectInit,
  Cond.code yX3_init cX3_init 7 none,
  Cond.fieldLink RX3 41 "SkiHill$Lift" "waiting" "I",
  Cond.fieldLink RX3 44 "SkiHill$Group" "size" "I",
  Cond.methodLink RX3 37 yJx4a65c_add_9ea2d,
  Cond.instanceMethod yJx4a65c_add_9ea2d,
  Cond.selects RJx4a65c yJx4a65c_add_9ea2d yJx4a65c_add_9ea2d,
  Cond.code yJx4a65c_add_9ea2d cJx4a65c_add_9ea2d 2 (some .boolean),
  Cond.fieldLink RJx4a65c 63 "java/util/ArrayList" "modCount" "I",
  Cond.sameField "java/util/ArrayList" "java/util/AbstractList" "modCount" "I",
  Cond.methodLink RJx4a65c 131 yJx4a65c_add_72be8,
  Cond.instanceMethod yJx4a65c_add_72be8,
  Cond.selects RJx4a65c yJx4a65c_add_72be8 yJx4a65c_add_72be8,
  Cond.code yJx4a65c_add_72be8 cJx4a65c_add_72be8 4 none,
  Cond.methodLink RJx4a65c 129 yJx4a65c_grow_d5877,
  Cond.instanceMethod yJx4a65c_grow_d5877,
  Cond.selects RJx4a65c yJx4a65c_grow_d5877 yJx4a65c_grow_d5877,
  Cond.code yJx4a65c_grow_d5877 cJx4a65c_grow_d5877 1 (some (.array (.object "java/lang/Object"))),
  Cond.methodLink RJx4a65c 69 yJx4a65c_grow_92f84,
  Cond.instanceMethod yJx4a65c_grow_92f84,
  Cond.selects RJx4a65c yJx4a65c_grow_92f84 yJx4a65c_grow_92f84,
  Cond.code yJx4a65c_grow_92f84 cJx4a65c_grow_92f84 4 (some (.array (.object "java/lang/Object"))),
  Cond.methodLink RJx4a65c 79 Lib.Math.max.name,
  Cond.classLink RJx4a65c 7 "java/lang/Object",
  Cond.methodLink RJx4a65c 73 yJ8_newLength_cabcc,
  Cond.static yJ8_newLength_cabcc,
  Cond.initialized RJ8,
  Cond.code yJ8_newLength_cabcc cJ8_newLength_cabcc 4 (some .int),
  Cond.methodLink RJ8 194 Lib.Math.max.name,
  Cond.constant RJ8 200 (2147483639),
  Cond.methodLink RJ8 201 yJ8_hugeLength_7cf53,
  Cond.static yJ8_hugeLength_7cf53,
  Cond.code yJ8_hugeLength_7cf53 cJ8_hugeLength_7cf53 3 (some .int),
  Cond.methodLink RJx4a65c 66 yJ7_copyOf_1904c,
  Cond.static yJ7_copyOf_1904c,
  Cond.initialized RJ7,
  Cond.code yJ7_copyOf_1904c cJ7_copyOf_1904c 2 (some (.array (.object "java/lang/Object"))),
  Cond.methodLink RJ7 86 ⟨"java/lang/Object", "getClass", "()Ljava/lang/Class;"⟩,
  Cond.selects "[Ljava/lang/Object;" ⟨"java/lang/Object", "getClass", "()Ljava/lang/Class;"⟩ ⟨"java/lang/Object", "getClass", "()Ljava/lang/Class;"⟩,
  Cond.instanceMethod ⟨"java/lang/Object", "getClass", "()Ljava/lang/Class;"⟩,
  Cond.native ⟨"java/lang/Object", "getClass", "()Ljava/lang/Class;"⟩,
  Cond.methodLink RJ7 300 yJ7_copyOf_6403c,
  Cond.static yJ7_copyOf_6403c,
  Cond.code yJ7_copyOf_6403c cJ7_copyOf_6403c 4 (some (.array (.object "java/lang/Object"))),
  Cond.classLink RJ7 110 "[Ljava/lang/Object;",
  Cond.classLink RJ7 2 "java/lang/Object",
  Cond.methodLink RJ7 304 Lib.Math.min.name,
  Cond.methodLink RJ7 150 arraycopyName,
  Cond.native arraycopyName,
  Cond.static arraycopyName,
  Cond.initialized "java/lang/System",
  Cond.code yX3_takeLast cX3_takeLast 2 none,
  Cond.classLink RX3 45 "SkiHill$Group",
  Cond.methodLink RX3 49 yJx4a65c_isEmpty_aae02,
  Cond.instanceMethod yJx4a65c_isEmpty_aae02,
  Cond.selects RJx4a65c yJx4a65c_isEmpty_aae02 yJx4a65c_isEmpty_aae02,
  Cond.code yJx4a65c_isEmpty_aae02 cJx4a65c_isEmpty_aae02 1 (some .boolean),
  Cond.methodLink RX3 53 yJx4a65c_get_915e3,
  Cond.methodLink RX3 57 yJx4a65c_remove_915e3,
  Cond.instanceMethod yJx4a65c_remove_915e3,
  Cond.selects RJx4a65c yJx4a65c_remove_915e3 yJx4a65c_remove_915e3,
  Cond.code yJx4a65c_remove_915e3 cJx4a65c_remove_915e3 4 (some (.object "java/lang/Object")),
  Cond.methodLink RJx4a65c 144 yJx4a65c_fastRemove_b59b0,
  Cond.instanceMethod yJx4a65c_fastRemove_b59b0,
  Cond.selects RJx4a65c yJx4a65c_fastRemove_b59b0 yJx4a65c_fastRemove_b59b0,
  Cond.code yJx4a65c_fastRemove_b59b0 cJx4a65c_fastRemove_b59b0 4 none,
  Cond.methodLink RJx4a65c 112 arraycopyName,
  Cond.methodLink RX3 60 yX2_rideOn,
  Cond.instanceMethod yX2_rideOn,
  Cond.selects RX2 yX2_rideOn yX2_rideOn,
  Cond.initialized RX2,
  Cond.code yX3_fill cX3_fill 4 none,
  Cond.methodLink RX4 1 objectInit,
  Cond.fieldLink RX4 16 "SkiHill$Link" "length" "I",
  Cond.code yX4_init cX4_init 4 none,
  Cond.fieldLink RX4 20 "SkiHill$Cell" "price" "I",
  Cond.methodLink RX4 25 Lib.Math.abs.name,
  Cond.code yX4_takesPrices cX4_takesPrices 1 (some .boolean),
  Cond.methodLink RX5 3 objectInit,
  Cond.fieldLink RX5 9 "SkiHill$RuleReader" "code" "[I",
  Cond.arrayClass .byte,
  Cond.fieldLink RX5 15 "SkiHill$RuleReader" "text" "[B",
  Cond.code yX5_init cX5_init 1 none,
  Cond.code yX5_byteAt cX5_byteAt 2 (some .int),
  Cond.code yX5_isLetter cX5_isLetter 1 (some .boolean),
  Cond.fieldLink RX5 35 "SkiHill$RuleReader" "at" "I",
  Cond.fieldLink RX5 67 "SkiHill$RuleReader" "start" "I",
  Cond.methodLink RX5 134 yJ0_length_8abf5,
  Cond.instanceMethod yJ0_length_8abf5,
  Cond.selects RJ0 yJ0_length_8abf5 yJ0_length_8abf5,
  Cond.initialized RJ0,
  Cond.code yJ0_length_8abf5 cJ0_length_8abf5 1 (some .int),
  Cond.fieldLink RJ0 9 "java/lang/String" "value" "[B",
  Cond.methodLink RJ0 335 yJ0_coder_7d493,
  Cond.instanceMethod yJ0_coder_7d493,
  Cond.selects RJ0 yJ0_coder_7d493 yJ0_coder_7d493,
  Cond.code yJ0_coder_7d493 cJ0_coder_7d493 1 (some .byte),
  Cond.fieldLink RJ0 38 "java/lang/String" "COMPACT_STRINGS" "Z",
  Cond.fieldLink RJ0 15 "java/lang/String" "coder" "B",
  Cond.methodLink RX5 92 yX5_byteAt,
  Cond.instanceMethod yX5_byteAt,
  Cond.selects RX5 yX5_byteAt yX5_byteAt,
  Cond.initialized RX5,
  Cond.methodLink RX5 138 yJ0_charAt_5068e,
  Cond.instanceMethod yJ0_charAt_5068e,
  Cond.selects RJ0 yJ0_charAt_5068e yJ0_charAt_5068e,
  Cond.code yJ0_charAt_5068e cJ0_charAt_5068e 2 (some .char),
  Cond.methodLink RJ0 492 yJ0_isLatin1_aae02,
  Cond.instanceMethod yJ0_isLatin1_aae02,
  Cond.selects RJ0 yJ0_isLatin1_aae02 yJ0_isLatin1_aae02,
  Cond.code yJ0_isLatin1_aae02 cJ0_isLatin1_aae02 1 (some .boolean),
  Cond.methodLink RJ0 495 yJ1_charAt_3b067,
  Cond.static yJ1_charAt_3b067,
  Cond.initialized RJ1,
  Cond.code yJ1_charAt_3b067 cJ1_charAt_3b067 2 (some .char),
  Cond.methodLink RJ1 9 yJ0_checkIndex_df160,
  Cond.static yJ0_checkIndex_df160,
  Cond.code yJ0_checkIndex_df160 cJ0_checkIndex_df160 2 none,
  Cond.fieldLink RJ0 1053 "jdk/internal/util/Preconditions" "SIOOBE_FORMATTER" "Ljava/util/function/BiFunction;",
  Cond.methodLink RJ0 1059 yJ3_checkIndex_8e157,
  Cond.methodLink RJ0 498 yJ2_charAt_3b067,
  Cond.static yJ2_charAt_3b067,
  Cond.initialized RJ2,
  Cond.code yJ2_charAt_3b067 cJ2_charAt_3b067 2 (some .char),
  Cond.methodLink RJ2 67 yJ2_checkIndex_2214a,
  Cond.static yJ2_checkIndex_2214a,
  Cond.code yJ2_checkIndex_2214a cJ2_checkIndex_2214a 2 none,
  Cond.methodLink RJ2 48 yJ2_length_9d52b,
  Cond.static yJ2_length_9d52b,
  Cond.code yJ2_length_9d52b cJ2_length_9d52b 1 (some .int),
  Cond.methodLink RJ2 414 yJ0_checkIndex_df160,
  Cond.methodLink RJ2 71 yJ2_getChar_3b067,
  Cond.static yJ2_getChar_3b067,
  Cond.code yJ2_getChar_3b067 cJ2_getChar_3b067 2 (some .char),
  Cond.fieldLink RJ2 44 "java/lang/StringUTF16" "$assertionsDisabled" "Z",
  Cond.fieldLink RJ2 59 "java/lang/StringUTF16" "HI_BYTE_SHIFT" "I",
  Cond.fieldLink RJ2 63 "java/lang/StringUTF16" "LO_BYTE_SHIFT" "I",
  Cond.code yX5_spells cX5_spells 3 (some .boolean),
  Cond.methodLink RX5 114 yX5_spells,
  Cond.instanceMethod yX5_spells,
  Cond.selects RX5 yX5_spells yX5_spells,
  Cond.code yX5_kindOfWord cX5_kindOfWord 1 (some .int),
  Cond.code yX5_isDigit cX5_isDigit 1 (some .boolean),
  Cond.fieldLink RX5 89 "SkiHill$RuleReader" "number" "I",
  Cond.fieldLink RX5 25 "SkiHill$RuleReader" "length" "I",
  Cond.fieldLink RX5 54 "SkiHill$RuleReader" "kind" "I",
  Cond.methodLink RX5 103 yX5_isDigit,
  Cond.static yX5_isDigit,
  Cond.code yX5_advanceNumber cX5_advanceNumber 1 none,
  Cond.code yX5_kindOfSign cX5_kindOfSign 1 (some .int),
  Cond.methodLink RX5 96 yX5_isLetter,
  Cond.static yX5_isLetter,
  Cond.methodLink RX5 99 yX5_kindOfWord,
  Cond.instanceMethod yX5_kindOfWord,
  Cond.selects RX5 yX5_kindOfWord yX5_kindOfWord,
  Cond.methodLink RX5 106 yX5_advanceNumber,
  Cond.instanceMethod yX5_advanceNumber,
  Cond.selects RX5 yX5_advanceNumber yX5_advanceNumber,
  Cond.methodLink RX5 109 yX5_kindOfSign,
  Cond.static yX5_kindOfSign,
  Cond.code yX5_advance cX5_advance 1 none,
  Cond.fieldLink RX5 41 "SkiHill$RuleReader" "codeLength" "I",
  Cond.code yX5_write cX5_write 4 none,
  Cond.fieldLink RX5 44 "SkiHill$RuleReader" "wrongByte" "I",
  Cond.code yX5_fails cX5_fails 1 (some .boolean),
  Cond.fieldLink RX5 29 "SkiHill$RuleReader" "slopes" "I",
  Cond.fieldLink RX5 32 "SkiHill$RuleReader" "lifts" "I",
  Cond.fieldLink RX5 38 "SkiHill$RuleReader" "named" "I",
  Cond.methodLink RX5 47 yX5_advance,
  Cond.instanceMethod yX5_advance,
  Cond.selects RX5 yX5_advance yX5_advance,
  Cond.methodLink RX5 57 yX5_fails,
  Cond.instanceMethod yX5_fails,
  Cond.selects RX5 yX5_fails yX5_fails,
  Cond.methodLink RX5 73 yX5_write,
  Cond.instanceMethod yX5_write]
def wCm : List Cond := [Cond.selects RX5 yX5_write yX5_write,
  Cond.code yX5_readNaming cX5_readNaming 3 (some .boolean),
  Cond.code yX5_readComparing cX5_readComparing 3 (some .boolean),
  Cond.methodLink RX5 77 yX5_readPart,
  Cond.instanceMethod yX5_readPart,
  Cond.selects RX5 yX5_readPart yX5_readPart,
  Cond.code yX5_readEither cX5_readEither 4 (some .boolean),
  Cond.methodLink RX5 70 yX5_readBoth,
  Cond.instanceMethod yX5_readBoth,
  Cond.selects RX5 yX5_readBoth yX5_readBoth,
  Cond.code yX5_readNested cX5_readNested 4 (some .boolean),
  Cond.methodLink RX5 50 yX5_readEither,
  Cond.instanceMethod yX5_readEither,
  Cond.selects RX5 yX5_readEither yX5_readEither,
  Cond.code yX5_readPart cX5_readPart 3 (some .boolean),
  Cond.methodLink RX5 80 yX5_readNested,
  Cond.instanceMethod yX5_readNested,
  Cond.selects RX5 yX5_readNested yX5_readNested,
  Cond.methodLink RX5 83 yX5_readNaming,
  Cond.instanceMethod yX5_readNaming,
  Cond.selects RX5 yX5_readNaming yX5_readNaming,
  Cond.methodLink RX5 86 yX5_readComparing,
  Cond.instanceMethod yX5_readComparing,
  Cond.selects RX5 yX5_readComparing yX5_readComparing,
  Cond.code yX5_readBoth cX5_readBoth 4 (some .boolean),
  Cond.methodLink RX5 19 Lib.Math.min.name,
  Cond.code yX5_takes cX5_takes 5 (some .boolean),
  Cond.methodLink RX5 61 yJ7_copyOf_59c91,
  Cond.static yJ7_copyOf_59c91,
  Cond.code yJ7_copyOf_59c91 cJ7_copyOf_59c91 3 (some (.array .int)),
  Cond.methodLink RJ7 316 ⟨"[I", "clone", "()Ljava/lang/Object;"⟩,
  Cond.sameMethod "[I" "java/lang/Object" "clone" "()Ljava/lang/Object;",
  Cond.native ⟨"java/lang/Object", "clone", "()Ljava/lang/Object;"⟩,
  Cond.instanceMethod ⟨"java/lang/Object", "clone", "()Ljava/lang/Object;"⟩,
  Cond.selects "[I" ⟨"[I", "clone", "()Ljava/lang/Object;"⟩ ⟨"java/lang/Object", "clone", "()Ljava/lang/Object;"⟩,
  Cond.classLink RJ7 317 "[I",
  Cond.code yX5_codeCopy cX5_codeCopy 1 (some (.array .int)),
  Cond.methodLink RX6 3 objectInit,
  Cond.classLink RX6 9 RJx4a65c,
  Cond.fieldLink RX6 12 "SkiHill$Slope" "cells" "Ljava/util/ArrayList;",
  Cond.fieldLink RX6 18 "SkiHill$Slope" "code" "[I",
  Cond.fieldLink RX6 22 "SkiHill$Slope" "number" "I",
  Cond.fieldLink RX6 26 "SkiHill$Slope" "from" "I",
  Cond.fieldLink RX6 29 "SkiHill$Slope" "to" "I",
  Cond.fieldLink RX6 32 "SkiHill$Slope" "minutes" "I",
  Cond.fieldLink RX6 35 "SkiHill$Slope" "steep" "I",
  Cond.methodLink RX6 11 yJx4a65c_init_da8c8,
  Cond.code yX6_init cX6_init 6 none,
  Cond.classLink RX6 46 "SkiHill$Cell",
  Cond.methodLink RX6 55 Lib.Math.min.name,
  Cond.methodLink RX6 38 yJx4a65c_isEmpty_aae02,
  Cond.methodLink RX6 42 yJx4a65c_get_915e3,
  Cond.methodLink RX6 48 yX1_depth,
  Cond.methodLink RX6 52 yJx4a65c_size_8abf5,
  Cond.code yX6_leastDepth cX6_leastDepth 3 (some .int),
  Cond.fieldLink RX6 61 "SkiHill$Cell" "snow" "[I",
  Cond.methodLink RX6 64 Lib.Math.max.name,
  Cond.code yX6_mostWorn cX6_mostWorn 3 (some .int),
  Cond.methodLink RX6 67 yX1_becomeWorn,
  Cond.instanceMethod yX1_becomeWorn,
  Cond.selects RX1 yX1_becomeWorn yX1_becomeWorn,
  Cond.code yX6_wear cX6_wear 4 (some .int),
  Cond.methodLink RX7 3 objectInit,
  Cond.classLink RX7 9 RJx4a65c,
  Cond.fieldLink RX7 12 "SkiHill" "lifts" "Ljava/util/ArrayList;",
  Cond.fieldLink RX7 16 "SkiHill" "slopes" "Ljava/util/ArrayList;",
  Cond.fieldLink RX7 19 "SkiHill" "cells" "Ljava/util/ArrayList;",
  Cond.fieldLink RX7 22 "SkiHill" "groups" "Ljava/util/ArrayList;",
  Cond.fieldLink RX7 25 "SkiHill" "links" "Ljava/util/ArrayList;",
  Cond.classLink RX7 28 RX5,
  Cond.instantiable RX5 12,
  Cond.fieldLink RX7 31 "SkiHill" "reader" "LSkiHill$RuleReader;",
  Cond.fieldLink RX7 35 "SkiHill" "tape" "[B",
  Cond.fieldLink RX7 39 "SkiHill" "faultByte" "I",
  Cond.methodLink RX7 11 yJx4a65c_init_da8c8,
  Cond.instanceMethod yX5_init,
  Cond.code yX7_init cX7_init 1 none,
  Cond.fieldLink RX7 43 "SkiHill" "tapeLength" "I",
  Cond.code yX7_putNumber cX7_putNumber 3 none,
  Cond.methodLink RX7 46 yX7_putNumber,
  Cond.instanceMethod yX7_putNumber,
  Cond.selects RX7 yX7_putNumber yX7_putNumber,
  Cond.initialized RX7,
  Cond.code yX7_feed cX7_feed 6 (some .int),
  Cond.code yX7_end cX7_end 2 (some .boolean),
  Cond.classLink RX7 258 "java/lang/IndexOutOfBoundsException",
  Cond.initialized "java/lang/IndexOutOfBoundsException",
  Cond.code yX7_checkPlace cX7_checkPlace 1 none,
  Cond.classLink RX7 123 "java/lang/IllegalArgumentException",
  Cond.initialized "java/lang/IllegalArgumentException",
  Cond.code yX7_checkNumber cX7_checkNumber 3 none,
  Cond.classLink RX7 337 "java/lang/UnsupportedOperationException",
  Cond.initialized "java/lang/UnsupportedOperationException",
  Cond.code yX7_checkRoom cX7_checkRoom 2 none,
  Cond.classLink RX7 65 RX3,
  Cond.instantiable RX3 9,
  Cond.initialized RX3,
  Cond.methodLink RX7 50 yX7_checkPlace,
  Cond.static yX7_checkPlace,
  Cond.methodLink RX7 53 yX7_checkNumber,
  Cond.static yX7_checkNumber,
  Cond.methodLink RX7 57 yJx4a65c_size_8abf5,
  Cond.methodLink RX7 61 yX7_checkRoom,
  Cond.static yX7_checkRoom,
  Cond.methodLink RX7 67 yX3_init,
  Cond.instanceMethod yX3_init,
  Cond.methodLink RX7 70 yJx4a65c_add_9ea2d,
  Cond.code yX7_lift cX7_lift 7 (some .int),
  Cond.classLink RX7 83 RX1,
  Cond.instantiable RX1 8,
  Cond.fieldLink RX7 85 "SkiHill$Slope" "number" "I",
  Cond.fieldLink RX7 90 "SkiHill$Slope" "cells" "Ljava/util/ArrayList;",
  Cond.methodLink RX7 88 yX1_init,
  Cond.instanceMethod yX1_init,
  Cond.code yX7_addCell cX7_addCell 3 none,
  Cond.classLink RX7 74 RX6,
  Cond.instantiable RX6 10,
  Cond.initialized RX6,
  Cond.methodLink RX7 76 yX6_init,
  Cond.instanceMethod yX6_init,
  Cond.methodLink RX7 79 yX7_addCell,
  Cond.instanceMethod yX7_addCell,
  Cond.selects RX7 yX7_addCell yX7_addCell,
  Cond.code yX7_slope cX7_slope 9 (some .int),
  Cond.classLink RX7 65 "SkiHill$Lift",
  Cond.methodLink RX7 154 yJx4a65c_get_915e3,
  Cond.code yX7_liftAt cX7_liftAt 2 (some (.object "SkiHill$Lift")),
  Cond.fieldLink RX7 99 "SkiHill$Lift" "stopped" "Z",
  Cond.fieldLink RX7 103 "SkiHill" "windNow" "I",
  Cond.fieldLink RX7 106 "SkiHill$Lift" "mostWind" "I",
  Cond.code yX7_isRunning cX7_isRunning 2 (some .boolean),
  Cond.methodLink RX7 91 yX7_liftAt,
  Cond.instanceMethod yX7_liftAt,
  Cond.selects RX7 yX7_liftAt yX7_liftAt,
  Cond.methodLink RX7 95 yX7_isRunning,
  Cond.instanceMethod yX7_isRunning,
  Cond.selects RX7 yX7_isRunning yX7_isRunning,
  Cond.code yX7_runs cX7_runs 2 (some .boolean),
  Cond.code yX7_wind cX7_wind 2 none,
  Cond.code yX7_stop cX7_stop 5 (some .boolean),
  Cond.classLink RX7 74 "SkiHill$Slope",
  Cond.code yX7_slopeAt cX7_slopeAt 2 (some (.object "SkiHill$Slope")),
  Cond.code yX7_hasBit cX7_hasBit 2 (some .boolean),
  Cond.fieldLink RX7 139 "SkiHill$Slope" "named" "I",
  Cond.fieldLink RX7 158 "SkiHill$Slope" "leans" "I",
  Cond.methodLink RX7 161 yX7_hasBit,
  Cond.static yX7_hasBit,
  Cond.code yX7_circleWith cX7_circleWith 6 (some .int),
  Cond.classLink RX7 133 "java/lang/IllegalStateException",
  Cond.initialized "java/lang/IllegalStateException",
  Cond.fieldLink RX7 117 "SkiHill$RuleReader" "wrongByte" "I",
  Cond.fieldLink RX7 120 "SkiHill" "faultSlopes" "I",
  Cond.fieldLink RX7 126 "SkiHill$RuleReader" "named" "I",
  Cond.fieldLink RX7 136 "SkiHill$Slope" "ruled" "Z",
  Cond.fieldLink RX7 144 "SkiHill$Slope" "code" "[I",
  Cond.methodLink RX7 109 yX7_slopeAt,
  Cond.instanceMethod yX7_slopeAt,
  Cond.selects RX7 yX7_slopeAt yX7_slopeAt,
  Cond.methodLink RX7 113 yX5_takes,
  Cond.instanceMethod yX5_takes,
  Cond.selects RX5 yX5_takes yX5_takes,
  Cond.methodLink RX7 129 yX7_circleWith,
  Cond.instanceMethod yX7_circleWith,
  Cond.selects RX7 yX7_circleWith yX7_circleWith,
  Cond.methodLink RX7 140 yX5_codeCopy,
  Cond.instanceMethod yX5_codeCopy,
  Cond.selects RX5 yX5_codeCopy yX5_codeCopy,
  Cond.methodLink RX7 148 yJ6_bitCount_0f7a4,
  Cond.static yJ6_bitCount_0f7a4,
  Cond.initialized RJ6,
  Cond.code yJ6_bitCount_0f7a4 cJ6_bitCount_0f7a4 1 (some .int),
  Cond.constant RJ6 265 (1431655765),
  Cond.constant RJ6 266 (858993459),
  Cond.constant RJ6 267 (252645135),
  Cond.code yX7_rule cX7_rule 5 (some .int),
  Cond.code yX7_unrule cX7_unrule 4 (some .boolean),
  Cond.code yX7_fault cX7_fault 2 (some .int),
  Cond.code yX7_compares cX7_compares 4 (some .boolean),
  Cond.constant RX7 176 (1048575),
  Cond.fieldLink RX7 187 "SkiHill" "minuteNow" "I",
  Cond.methodLink RX7 177 yX6_leastDepth,
  Cond.instanceMethod yX6_leastDepth,
  Cond.selects RX6 yX6_leastDepth yX6_leastDepth,
  Cond.methodLink RX7 180 yX7_compares,
  Cond.static yX7_compares,
  Cond.methodLink RX7 184 yX6_mostWorn,
  Cond.instanceMethod yX6_mostWorn,
  Cond.selects RX6 yX6_mostWorn yX6_mostWorn,
  Cond.code yX7_passes cX7_passes 5 (some .boolean),
  Cond.methodLink RX7 172 yX7_passes,
  Cond.instanceMethod yX7_passes,
  Cond.selects RX7 yX7_passes yX7_passes,
  Cond.code yX7_holds cX7_holds 11 (some .boolean),
  Cond.methodLink RX7 168 yX7_holds,
  Cond.instanceMethod yX7_holds,
  Cond.selects RX7 yX7_holds yX7_holds,
  Cond.code yX7_openSlopes cX7_openSlopes 7 (some .int),
  Cond.methodLink RX7 165 yX7_openSlopes,
  Cond.instanceMethod yX7_openSlopes,
  Cond.selects RX7 yX7_openSlopes yX7_openSlopes,
  Cond.code yX7_open cX7_open 3 (some .boolean),
  Cond.classLink RX7 190 RX2,
  Cond.instantiable RX2 9,
  Cond.methodLink RX7 192 yX2_init,
  Cond.instanceMethod yX2_init,
  Cond.code yX7_group cX7_group 5 (some .int),
  Cond.fieldLink RX7 242 "SkiHill$Slope" "from" "I",
  Cond.fieldLink RX7 245 "SkiHill$Group" "where" "I",
  Cond.fieldLink RX7 248 "SkiHill$Slope" "steep" "I",
  Cond.fieldLink RX7 251 "SkiHill$Group" "skill" "I",
  Cond.code yX7_slopeFor cX7_slopeFor 7 (some (.object "SkiHill$Slope")),
  Cond.fieldLink RX7 254 "SkiHill$Lift" "from" "I",
  Cond.fieldLink RX7 255 "SkiHill$Lift" "waiting" "I",
  Cond.code yX7_liftFor cX7_liftFor 6 (some (.object "SkiHill$Lift")),
  Cond.fieldLink RX7 221 "SkiHill" "snowWorn" "J",
  Cond.fieldLink RX7 225 "SkiHill$Group" "size" "I",
  Cond.methodLink RX7 214 yX7_slopeFor,
  Cond.instanceMethod yX7_slopeFor,
  Cond.selects RX7 yX7_slopeFor yX7_slopeFor,
  Cond.methodLink RX7 218 yX2_goDown,
  Cond.instanceMethod yX2_goDown,
  Cond.selects RX2 yX2_goDown yX2_goDown,
  Cond.methodLink RX7 227 yX6_wear,
  Cond.instanceMethod yX6_wear,
  Cond.selects RX6 yX6_wear yX6_wear,
  Cond.methodLink RX7 230 yX7_liftFor,
  Cond.instanceMethod yX7_liftFor,
  Cond.selects RX7 yX7_liftFor yX7_liftFor,
  Cond.methodLink RX7 234 yX2_waitAt,
  Cond.instanceMethod yX2_waitAt,
  Cond.selects RX2 yX2_waitAt yX2_waitAt,
  Cond.methodLink RX7 238 yX3_takeLast,
  Cond.instanceMethod yX3_takeLast,
  Cond.selects RX3 yX3_takeLast yX3_takeLast,
  Cond.code yX7_send cX7_send 5 none,
  Cond.classLink RX7 190 "SkiHill$Group",
  Cond.fieldLink RX7 201 "SkiHill$Group" "state" "I",
  Cond.methodLink RX7 210 yX7_send,
  Cond.instanceMethod yX7_send,
  Cond.selects RX7 yX7_send yX7_send,
  Cond.code yX7_sendFree cX7_sendFree 3 none,
  Cond.methodLink RX7 198 yX2_goOn,
  Cond.instanceMethod yX2_goOn,
  Cond.selects RX2 yX2_goOn yX2_goOn,
  Cond.methodLink RX7 204 yX7_sendFree,
  Cond.instanceMethod yX7_sendFree,
  Cond.selects RX7 yX7_sendFree yX7_sendFree,
  Cond.methodLink RX7 207 yX3_fill,
  Cond.instanceMethod yX3_fill,
  Cond.selects RX3 yX3_fill yX3_fill,
  Cond.code yX7_passMinute cX7_passMinute 4 none,
  Cond.methodLink RX7 195 yX7_passMinute,
  Cond.instanceMethod yX7_passMinute,
  Cond.selects RX7 yX7_passMinute yX7_passMinute,
  Cond.code yX7_step cX7_step 3 (some .int),
  Cond.classLink RX7 270 "java/util/NoSuchElementException",
  Cond.initialized "java/util/NoSuchElementException",
  Cond.fieldLink RX7 261 "SkiHill$Group" "toGo" "I",
  Cond.fieldLink RX7 264 "SkiHill$Group" "rides" "I",
  Cond.fieldLink RX7 267 "SkiHill$Group" "descents" "I",
  Cond.code yX7_look cX7_look 4 (some .int),
  Cond.fieldLink RX7 273 "SkiHill$Lift" "row" "Ljava/util/ArrayList;",
  Cond.fieldLink RX7 276 "SkiHill$Group" "number" "I",
  Cond.code yX7_row cX7_row 4 (some .int),
  Cond.code yX7_people cX7_people 4 (some .int),
  Cond.classLink RX7 83 "SkiHill$Cell",
  Cond.code yX7_cellAt cX7_cellAt 2 (some (.object "SkiHill$Cell")),
  Cond.constant RX7 281 (100000),
  Cond.fieldLink RX7 282 "SkiHill" "snowMade" "J",
  Cond.fieldLink RX7 285 "SkiHill$Cell" "snow" "[I",
  Cond.fieldLink RX7 288 "SkiHill" "snowFallen" "J",
  Cond.methodLink RX7 277 yX7_cellAt,
  Cond.instanceMethod yX7_cellAt,
  Cond.selects RX7 yX7_cellAt yX7_cellAt,
  Cond.methodLink RX7 291 yX1_depth,
  Cond.code yX7_snow cX7_snow 5 (some .int),
  Cond.constant RX7 294 (1000000),
  Cond.fieldLink RX7 298 "SkiHill" "snowMelted" "J",
  Cond.methodLink RX7 295 yX1_lose,
  Cond.instanceMethod yX1_lose,
  Cond.selects RX1 yX1_lose yX1_lose,
  Cond.code yX7_melt cX7_melt 5 (some .int),
  Cond.methodLink RX7 301 yX1_becomePushed,
  Cond.instanceMethod yX1_becomePushed,
  Cond.selects RX1 yX1_becomePushed yX1_becomePushed,
  Cond.code yX7_push cX7_push 2 (some .int),
  Cond.fieldLink RX7 304 "SkiHill$Cell" "slope" "I",
  Cond.fieldLink RX7 307 "SkiHill$Cell" "want" "I",
  Cond.fieldLink RX7 310 "SkiHill$Cell" "price" "I",
  Cond.code yX7_cell cX7_cell 4 (some .int),
  Cond.classLink RX7 313 RX4,
  Cond.instantiable RX4 4,
  Cond.methodLink RX7 315 yX4_init,
  Cond.instanceMethod yX4_init,
  Cond.code yX7_link cX7_link 6 (some .int),
  Cond.code yX7_want cX7_want 4 none,
  Cond.methodLink RX7 318 yX0_leastSum,
  Cond.static yX0_leastSum,
  Cond.code yX7_least cX7_least 1 (some .long),
  Cond.code yX7_price cX7_price 4 none,
  Cond.classLink RX7 313 "SkiHill$Link",
  Cond.methodLink RX7 324 yX4_takesPrices,
  Cond.instanceMethod yX4_takesPrices,
  Cond.selects RX4 yX4_takesPrices yX4_takesPrices,
  Cond.methodLink RX7 328 yX1_priceTells,
  Cond.instanceMethod yX1_priceTells,
  Cond.selects RX1 yX1_priceTells yX1_priceTells,
  Cond.code yX7_judge cX7_judge 4 (some .long),
  Cond.code yX7_snowThere cX7_snowThere 4 (some .long),
  Cond.constantLong RX7 335 (-1),
  Cond.methodLink RX7 332 yX7_snowThere,
  Cond.instanceMethod yX7_snowThere,
  Cond.selects RX7 yX7_snowThere yX7_snowThere,
  Cond.code yX7_count cX7_count 2 (some .long)]
def cX0 (X : String) (ic : Nat) : List Cond := vx_at0 RX7 ic X ["java/lang/RuntimeException", "java/lang/Exception"]
def wC : List Cond := wSl ++ (wCl ++ (wCm ++ (wsJx4a65c0 ++ (wsX10 ++ (wsX20 ++ (wsX30 ++ (wsX40 ++ (wsX50 ++ (wsX60 ++ (wsX70 ++ ((cX0 "java/lang/IndexOutOfBoundsException" 260).filter goodWord ++ ((cX0 "java/lang/IllegalArgumentException" 125).filter goodWord ++ ((cX0 "java/lang/UnsupportedOperationException" 339).filter goodWord ++ ((cX0 "java/lang/IllegalStateException" 135).filter goodWord ++ ((cX0 "java/util/NoSuchElementException" 272).filter goodWord)))))))))))))))
theorem kC_0 : Cond.classLink RX0 47 "SkiHill$Cell" ∈ wC := List.mem_append_right _ (List.mem_append_left _ (List.mem_of_getElem? (i := 0) rfl))
theorem kC_1 : Cond.fieldLink RX0 52 "SkiHill$Cell" "want" "I" ∈ wC := List.mem_append_right _ (List.mem_append_left _ (List.mem_of_getElem? (i := 1) rfl))
theorem kC_2 : Cond.methodLink RX0 56 Lib.Math.max.name ∈ wC := List.mem_append_right _ (List.mem_append_left _ (List.mem_of_getElem? (i := 2) rfl))
theorem kC_3 : Cond.static Lib.Math.max.name ∈ wC := List.mem_append_right _ (List.mem_append_left _ (List.mem_of_getElem? (i := 3) rfl))
theorem kC_4 : Cond.initialized "java/lang/Math" ∈ wC := List.mem_append_right _ (List.mem_append_left _ (List.mem_of_getElem? (i := 4) rfl))
theorem kC_5 : Cond.code Lib.Math.max.name Lib.Math.max.code 2 (some .int) ∈ wC := List.mem_append_right _ (List.mem_append_left _ (List.mem_of_getElem? (i := 5) rfl))
theorem kC_6 : Cond.fieldLink RX0 62 "SkiHill$Cell" "spare" "I" ∈ wC := List.mem_append_right _ (List.mem_append_left _ (List.mem_of_getElem? (i := 6) rfl))
theorem kC_7 : Cond.fieldLink RX0 65 "SkiHill$Cell" "missing" "I" ∈ wC := List.mem_append_right _ (List.mem_append_left _ (List.mem_of_getElem? (i := 7) rfl))
theorem kC_8 : Cond.classLink RX0 68 "SkiHill$Link" ∈ wC := List.mem_append_right _ (List.mem_append_left _ (List.mem_of_getElem? (i := 8) rfl))
theorem kC_9 : Cond.fieldLink RX0 70 "SkiHill$Link" "carried" "I" ∈ wC := List.mem_append_right _ (List.mem_append_left _ (List.mem_of_getElem? (i := 9) rfl))
theorem kC_10 : Cond.methodLink RX0 29 yJx4a65c_size_8abf5 ∈ wC := List.mem_append_right _ (List.mem_append_left _ (List.mem_of_getElem? (i := 10) rfl))
theorem kC_11 : Cond.instanceMethod yJx4a65c_size_8abf5 ∈ wC := List.mem_append_right _ (List.mem_append_left _ (List.mem_of_getElem? (i := 11) rfl))
theorem kC_12 : Cond.selects RJx4a65c yJx4a65c_size_8abf5 yJx4a65c_size_8abf5 ∈ wC := List.mem_append_right _ (List.mem_append_left _ (List.mem_of_getElem? (i := 12) rfl))
theorem kC_13 : Cond.initialized RJx4a65c ∈ wC := List.mem_append_right _ (List.mem_append_left _ (List.mem_of_getElem? (i := 13) rfl))
theorem kC_14 : Cond.code yJx4a65c_size_8abf5 cJx4a65c_size_8abf5 1 (some .int) ∈ wC := List.mem_append_right _ (List.mem_append_left _ (List.mem_of_getElem? (i := 14) rfl))
theorem kC_15 : Cond.fieldLink RJx4a65c 48 "java/util/ArrayList" "size" "I" ∈ wC := List.mem_append_right _ (List.mem_append_left _ (List.mem_of_getElem? (i := 15) rfl))
theorem kC_16 : Cond.methodLink RX0 43 yJx4a65c_get_915e3 ∈ wC := List.mem_append_right _ (List.mem_append_left _ (List.mem_of_getElem? (i := 16) rfl))
theorem kC_17 : Cond.instanceMethod yJx4a65c_get_915e3 ∈ wC := List.mem_append_right _ (List.mem_append_left _ (List.mem_of_getElem? (i := 17) rfl))
theorem kC_18 : Cond.selects RJx4a65c yJx4a65c_get_915e3 yJx4a65c_get_915e3 ∈ wC := List.mem_append_right _ (List.mem_append_left _ (List.mem_of_getElem? (i := 18) rfl))
theorem kC_19 : Cond.code yJx4a65c_get_915e3 cJx4a65c_get_915e3 2 (some (.object "java/lang/Object")) ∈ wC := List.mem_append_right _ (List.mem_append_left _ (List.mem_of_getElem? (i := 19) rfl))
theorem kC_20 : Cond.methodLink RJx4a65c 118 yJ15_checkIndex_7cf53 ∈ wC := List.mem_append_right _ (List.mem_append_left _ (List.mem_of_getElem? (i := 20) rfl))
theorem kC_21 : Cond.static yJ15_checkIndex_7cf53 ∈ wC := List.mem_append_right _ (List.mem_append_left _ (List.mem_of_getElem? (i := 21) rfl))
theorem kC_22 : Cond.initialized RJ15 ∈ wC := List.mem_append_right _ (List.mem_append_left _ (List.mem_of_getElem? (i := 22) rfl))
theorem kC_23 : Cond.code yJ15_checkIndex_7cf53 cJ15_checkIndex_7cf53 2 (some .int) ∈ wC := List.mem_append_right _ (List.mem_append_left _ (List.mem_of_getElem? (i := 23) rfl))
theorem kC_24 : Cond.methodLink RJ15 105 yJ3_checkIndex_8e157 ∈ wC := List.mem_append_right _ (List.mem_append_left _ (List.mem_of_getElem? (i := 24) rfl))
theorem kC_25 : Cond.static yJ3_checkIndex_8e157 ∈ wC := List.mem_append_right _ (List.mem_append_left _ (List.mem_of_getElem? (i := 25) rfl))
theorem kC_26 : Cond.initialized RJ3 ∈ wC := List.mem_append_right _ (List.mem_append_left _ (List.mem_of_getElem? (i := 26) rfl))
theorem kC_27 : Cond.code yJ3_checkIndex_8e157 cJ3_checkIndex_8e157 3 (some .int) ∈ wC := List.mem_append_right _ (List.mem_append_left _ (List.mem_of_getElem? (i := 27) rfl))
theorem kC_28 : Cond.methodLink RJx4a65c 123 yJx4a65c_elementData_915e3 ∈ wC := List.mem_append_right _ (List.mem_append_left _ (List.mem_of_getElem? (i := 28) rfl))
theorem kC_29 : Cond.instanceMethod yJx4a65c_elementData_915e3 ∈ wC := List.mem_append_right _ (List.mem_append_left _ (List.mem_of_getElem? (i := 29) rfl))
theorem kC_30 : Cond.selects RJx4a65c yJx4a65c_elementData_915e3 yJx4a65c_elementData_915e3 ∈ wC := List.mem_append_right _ (List.mem_append_left _ (List.mem_of_getElem? (i := 30) rfl))
theorem kC_31 : Cond.code yJx4a65c_elementData_915e3 cJx4a65c_elementData_915e3 2 (some (.object "java/lang/Object")) ∈ wC := List.mem_append_right _ (List.mem_append_left _ (List.mem_of_getElem? (i := 31) rfl))
theorem kC_32 : Cond.fieldLink RJx4a65c 9 "java/util/ArrayList" "elementData" "[Ljava/lang/Object;" ∈ wC := List.mem_append_right _ (List.mem_append_left _ (List.mem_of_getElem? (i := 32) rfl))
theorem kC_33 : Cond.methodLink RX0 49 yX1_depth ∈ wC := List.mem_append_right _ (List.mem_append_left _ (List.mem_of_getElem? (i := 33) rfl))
theorem kC_34 : Cond.instanceMethod yX1_depth ∈ wC := List.mem_append_right _ (List.mem_append_left _ (List.mem_of_getElem? (i := 34) rfl))
theorem kC_35 : Cond.selects RX1 yX1_depth yX1_depth ∈ wC := List.mem_append_right _ (List.mem_append_left _ (List.mem_of_getElem? (i := 35) rfl))
theorem kC_36 : Cond.initialized RX1 ∈ wC := List.mem_append_right _ (List.mem_append_left _ (List.mem_of_getElem? (i := 36) rfl))
theorem kC_37 : Cond.code yX1_depth cX1_depth 1 (some .int) ∈ wC := List.mem_append_right _ (List.mem_append_left _ (List.mem_of_getElem? (i := 37) rfl))
theorem kC_38 : Cond.fieldLink RX1 9 "SkiHill$Cell" "snow" "[I" ∈ wC := List.mem_append_right _ (List.mem_append_left _ (List.mem_of_getElem? (i := 38) rfl))
theorem kC_39 : Cond.code yX0_prepare cX0_prepare 5 none ∈ wC := List.mem_append_right _ (List.mem_append_left _ (List.mem_of_getElem? (i := 39) rfl))
theorem kC_40 : Cond.code yX0_anyMissing cX0_anyMissing 2 (some .boolean) ∈ wC := List.mem_append_right _ (List.mem_append_left _ (List.mem_of_getElem? (i := 40) rfl))
theorem kC_41 : Cond.fieldLink RX0 74 "SkiHill$Cell" "far" "I" ∈ wC := List.mem_append_right _ (List.mem_append_left _ (List.mem_of_getElem? (i := 41) rfl))
theorem kC_42 : Cond.constant RX0 73 (1073741824) ∈ wC := List.mem_append_right _ (List.mem_append_left _ (List.mem_of_getElem? (i := 42) rfl))
theorem kC_43 : Cond.fieldLink RX0 100 "SkiHill$Link" "length" "I" ∈ wC := List.mem_append_right _ (List.mem_append_left _ (List.mem_of_getElem? (i := 43) rfl))
theorem kC_44 : Cond.fieldLink RX0 77 "SkiHill$Cell" "via" "LSkiHill$Link;" ∈ wC := List.mem_append_right _ (List.mem_append_left _ (List.mem_of_getElem? (i := 44) rfl))
theorem kC_45 : Cond.methodLink RX0 92 yX4_other ∈ wC := List.mem_append_right _ (List.mem_append_left _ (List.mem_of_getElem? (i := 45) rfl))
theorem kC_46 : Cond.instanceMethod yX4_other ∈ wC := List.mem_append_right _ (List.mem_append_left _ (List.mem_of_getElem? (i := 46) rfl))
theorem kC_47 : Cond.selects RX4 yX4_other yX4_other ∈ wC := List.mem_append_right _ (List.mem_append_left _ (List.mem_of_getElem? (i := 47) rfl))
theorem kC_48 : Cond.initialized RX4 ∈ wC := List.mem_append_right _ (List.mem_append_left _ (List.mem_of_getElem? (i := 48) rfl))
theorem kC_49 : Cond.code yX4_other cX4_other 2 (some (.object "SkiHill$Cell")) ∈ wC := List.mem_append_right _ (List.mem_append_left _ (List.mem_of_getElem? (i := 49) rfl))
theorem kC_50 : Cond.fieldLink RX4 7 "SkiHill$Link" "a" "LSkiHill$Cell;" ∈ wC := List.mem_append_right _ (List.mem_append_left _ (List.mem_of_getElem? (i := 50) rfl))
theorem kC_51 : Cond.fieldLink RX4 13 "SkiHill$Link" "b" "LSkiHill$Cell;" ∈ wC := List.mem_append_right _ (List.mem_append_left _ (List.mem_of_getElem? (i := 51) rfl))
theorem kC_52 : Cond.methodLink RX0 96 yX4_carriedFrom ∈ wC := List.mem_append_right _ (List.mem_append_left _ (List.mem_of_getElem? (i := 52) rfl))
theorem kC_53 : Cond.instanceMethod yX4_carriedFrom ∈ wC := List.mem_append_right _ (List.mem_append_left _ (List.mem_of_getElem? (i := 53) rfl))
theorem kC_54 : Cond.selects RX4 yX4_carriedFrom yX4_carriedFrom ∈ wC := List.mem_append_right _ (List.mem_append_left _ (List.mem_of_getElem? (i := 54) rfl))
theorem kC_55 : Cond.code yX4_carriedFrom cX4_carriedFrom 2 (some .int) ∈ wC := List.mem_append_right _ (List.mem_append_left _ (List.mem_of_getElem? (i := 55) rfl))
theorem kC_56 : Cond.fieldLink RX4 31 "SkiHill$Link" "carried" "I" ∈ wC := List.mem_append_right _ (List.mem_append_left _ (List.mem_of_getElem? (i := 56) rfl))
theorem kC_57 : Cond.code yX0_brings cX0_brings 5 (some .boolean) ∈ wC := List.mem_append_right _ (List.mem_append_left _ (List.mem_of_getElem? (i := 57) rfl))
theorem kC_58 : Cond.fieldLink RX0 81 "SkiHill$Link" "a" "LSkiHill$Cell;" ∈ wC := List.mem_append_right _ (List.mem_append_left _ (List.mem_of_getElem? (i := 58) rfl))
theorem kC_59 : Cond.fieldLink RX0 89 "SkiHill$Link" "b" "LSkiHill$Cell;" ∈ wC := List.mem_append_right _ (List.mem_append_left _ (List.mem_of_getElem? (i := 59) rfl))
theorem kC_60 : Cond.methodLink RX0 85 yX0_brings ∈ wC := List.mem_append_right _ (List.mem_append_left _ (List.mem_of_getElem? (i := 60) rfl))
theorem kC_61 : Cond.static yX0_brings ∈ wC := List.mem_append_right _ (List.mem_append_left _ (List.mem_of_getElem? (i := 61) rfl))
theorem kC_62 : Cond.initialized RX0 ∈ wC := List.mem_append_right _ (List.mem_append_left _ (List.mem_of_getElem? (i := 62) rfl))
theorem kC_63 : Cond.code yX0_measure cX0_measure 6 none ∈ wC := List.mem_append_right _ (List.mem_append_left _ (List.mem_of_getElem? (i := 63) rfl))
theorem kC_64 : Cond.code yX0_nearestMissing cX0_nearestMissing 5 (some (.object "SkiHill$Cell")) ∈ wC := List.mem_append_right _ (List.mem_append_left _ (List.mem_of_getElem? (i := 64) rfl))
theorem kC_65 : Cond.methodLink RX0 103 Lib.Math.min.name ∈ wC := List.mem_append_right _ (List.mem_append_left _ (List.mem_of_getElem? (i := 65) rfl))
theorem kC_66 : Cond.static Lib.Math.min.name ∈ wC := List.mem_append_right _ (List.mem_append_left _ (List.mem_of_getElem? (i := 66) rfl))
theorem kC_67 : Cond.code Lib.Math.min.name Lib.Math.min.code 2 (some .int) ∈ wC := List.mem_append_right _ (List.mem_append_left _ (List.mem_of_getElem? (i := 67) rfl))
theorem kC_68 : Cond.methodLink RX0 106 yX4_carryFrom ∈ wC := List.mem_append_right _ (List.mem_append_left _ (List.mem_of_getElem? (i := 68) rfl))
theorem kC_69 : Cond.instanceMethod yX4_carryFrom ∈ wC := List.mem_append_right _ (List.mem_append_left _ (List.mem_of_getElem? (i := 69) rfl))
theorem kC_70 : Cond.selects RX4 yX4_carryFrom yX4_carryFrom ∈ wC := List.mem_append_right _ (List.mem_append_left _ (List.mem_of_getElem? (i := 70) rfl))
theorem kC_71 : Cond.code yX4_carryFrom cX4_carryFrom 3 none ∈ wC := List.mem_append_right _ (List.mem_append_left _ (List.mem_of_getElem? (i := 71) rfl))
theorem kC_72 : Cond.code yX0_carryTo cX0_carryTo 7 none ∈ wC := List.mem_append_right _ (List.mem_append_left _ (List.mem_of_getElem? (i := 72) rfl))
theorem kC_73 : Cond.methodLink RX0 109 Lib.Math.abs.name ∈ wC := List.mem_append_right _ (List.mem_append_left _ (List.mem_of_getElem? (i := 73) rfl))
theorem kC_74 : Cond.static Lib.Math.abs.name ∈ wC := List.mem_append_right _ (List.mem_append_left _ (List.mem_of_getElem? (i := 74) rfl))
theorem kC_75 : Cond.code Lib.Math.abs.name Lib.Math.abs.code 1 (some .int) ∈ wC := List.mem_append_right _ (List.mem_append_left _ (List.mem_of_getElem? (i := 75) rfl))
theorem kC_76 : Cond.code yX0_sumCarried cX0_sumCarried 5 (some .long) ∈ wC := List.mem_append_right _ (List.mem_append_left _ (List.mem_of_getElem? (i := 76) rfl))
theorem kC_77 : Cond.constant RX0 15 (1000000) ∈ wC := List.mem_append_right _ (List.mem_append_left _ (List.mem_of_getElem? (i := 77) rfl))
theorem kC_78 : Cond.constantLong RX0 27 (-1) ∈ wC := List.mem_append_right _ (List.mem_append_left _ (List.mem_of_getElem? (i := 78) rfl))
theorem kC_79 : Cond.methodLink RX0 9 yX0_prepare ∈ wC := List.mem_append_right _ (List.mem_append_left _ (List.mem_of_getElem? (i := 79) rfl))
theorem kC_80 : Cond.static yX0_prepare ∈ wC := List.mem_append_right _ (List.mem_append_left _ (List.mem_of_getElem? (i := 80) rfl))
theorem kC_81 : Cond.methodLink RX0 16 yX0_anyMissing ∈ wC := List.mem_append_right _ (List.mem_append_left _ (List.mem_of_getElem? (i := 81) rfl))
theorem kC_82 : Cond.static yX0_anyMissing ∈ wC := List.mem_append_right _ (List.mem_append_left _ (List.mem_of_getElem? (i := 82) rfl))
theorem kC_83 : Cond.methodLink RX0 20 yX0_measure ∈ wC := List.mem_append_right _ (List.mem_append_left _ (List.mem_of_getElem? (i := 83) rfl))
theorem kC_84 : Cond.static yX0_measure ∈ wC := List.mem_append_right _ (List.mem_append_left _ (List.mem_of_getElem? (i := 84) rfl))
theorem kC_85 : Cond.methodLink RX0 23 yX0_nearestMissing ∈ wC := List.mem_append_right _ (List.mem_append_left _ (List.mem_of_getElem? (i := 85) rfl))
theorem kC_86 : Cond.static yX0_nearestMissing ∈ wC := List.mem_append_right _ (List.mem_append_left _ (List.mem_of_getElem? (i := 86) rfl))
theorem kC_87 : Cond.methodLink RX0 35 yX0_carryTo ∈ wC := List.mem_append_right _ (List.mem_append_left _ (List.mem_of_getElem? (i := 87) rfl))
theorem kC_88 : Cond.static yX0_carryTo ∈ wC := List.mem_append_right _ (List.mem_append_left _ (List.mem_of_getElem? (i := 88) rfl))
theorem kC_89 : Cond.methodLink RX0 39 yX0_sumCarried ∈ wC := List.mem_append_right _ (List.mem_append_left _ (List.mem_of_getElem? (i := 89) rfl))
theorem kC_90 : Cond.static yX0_sumCarried ∈ wC := List.mem_append_right _ (List.mem_append_left _ (List.mem_of_getElem? (i := 90) rfl))
theorem kC_91 : Cond.code yX0_leastSum cX0_leastSum 4 (some .long) ∈ wC := List.mem_append_right _ (List.mem_append_left _ (List.mem_of_getElem? (i := 91) rfl))
theorem kC_92 : Cond.methodLink RX1 3 objectInit ∈ wC := List.mem_append_right _ (List.mem_append_left _ (List.mem_of_getElem? (i := 92) rfl))
theorem kC_93 : Cond.instanceMethod objectInit ∈ wC := List.mem_append_right _ (List.mem_append_left _ (List.mem_of_getElem? (i := 93) rfl))
theorem kC_94 : Cond.code objectInit ⟨#[0xb1]⟩ 1 none ∈ wC := List.mem_append_right _ (List.mem_append_left _ (List.mem_of_getElem? (i := 94) rfl))
theorem kC_95 : Cond.arrayClass .int ∈ wC := List.mem_append_right _ (List.mem_append_left _ (List.mem_of_getElem? (i := 95) rfl))
theorem kC_96 : Cond.fieldLink RX1 15 "SkiHill$Cell" "slope" "I" ∈ wC := List.mem_append_right _ (List.mem_append_left _ (List.mem_of_getElem? (i := 96) rfl))
theorem kC_97 : Cond.code yX1_init cX1_init 2 none ∈ wC := List.mem_append_right _ (List.mem_append_left _ (List.mem_of_getElem? (i := 97) rfl))
theorem kC_98 : Cond.methodLink RX1 27 Lib.Math.min.name ∈ wC := List.mem_append_right _ (List.mem_append_left _ (List.mem_of_getElem? (i := 98) rfl))
theorem kC_99 : Cond.code yX1_take cX1_take 4 (some .int) ∈ wC := List.mem_append_right _ (List.mem_append_left _ (List.mem_of_getElem? (i := 99) rfl))
theorem kC_100 : Cond.methodLink RX1 19 yX1_take ∈ wC := List.mem_append_right _ (List.mem_append_left _ (List.mem_of_getElem? (i := 100) rfl))
theorem kC_101 : Cond.instanceMethod yX1_take ∈ wC := List.mem_append_right _ (List.mem_append_left _ (List.mem_of_getElem? (i := 101) rfl))
theorem kC_102 : Cond.selects RX1 yX1_take yX1_take ∈ wC := List.mem_append_right _ (List.mem_append_left _ (List.mem_of_getElem? (i := 102) rfl))
theorem kC_103 : Cond.code yX1_lose cX1_lose 4 (some .int) ∈ wC := List.mem_append_right _ (List.mem_append_left _ (List.mem_of_getElem? (i := 103) rfl))
theorem kC_104 : Cond.code yX1_becomeWorn cX1_becomeWorn 4 (some .int) ∈ wC := List.mem_append_right _ (List.mem_append_left _ (List.mem_of_getElem? (i := 104) rfl))
theorem kC_105 : Cond.methodLink RX1 23 yX1_depth ∈ wC := List.mem_append_right _ (List.mem_append_left _ (List.mem_of_getElem? (i := 105) rfl))
theorem kC_106 : Cond.code yX1_becomePushed cX1_becomePushed 3 (some .int) ∈ wC := List.mem_append_right _ (List.mem_append_left _ (List.mem_of_getElem? (i := 106) rfl))
theorem kC_107 : Cond.fieldLink RX1 32 "SkiHill$Cell" "want" "I" ∈ wC := List.mem_append_right _ (List.mem_append_left _ (List.mem_of_getElem? (i := 107) rfl))
theorem kC_108 : Cond.fieldLink RX1 35 "SkiHill$Cell" "price" "I" ∈ wC := List.mem_append_right _ (List.mem_append_left _ (List.mem_of_getElem? (i := 108) rfl))
theorem kC_109 : Cond.code yX1_priceTells cX1_priceTells 3 (some .long) ∈ wC := List.mem_append_right _ (List.mem_append_left _ (List.mem_of_getElem? (i := 109) rfl))
theorem kC_110 : Cond.methodLink RX2 3 objectInit ∈ wC := List.mem_append_right _ (List.mem_append_left _ (List.mem_of_getElem? (i := 110) rfl))
theorem kC_111 : Cond.fieldLink RX2 9 "SkiHill$Group" "state" "I" ∈ wC := List.mem_append_right _ (List.mem_append_left _ (List.mem_of_getElem? (i := 111) rfl))
theorem kC_112 : Cond.fieldLink RX2 15 "SkiHill$Group" "number" "I" ∈ wC := List.mem_append_right _ (List.mem_append_left _ (List.mem_of_getElem? (i := 112) rfl))
theorem kC_113 : Cond.fieldLink RX2 18 "SkiHill$Group" "size" "I" ∈ wC := List.mem_append_right _ (List.mem_append_left _ (List.mem_of_getElem? (i := 113) rfl))
theorem kC_114 : Cond.fieldLink RX2 21 "SkiHill$Group" "skill" "I" ∈ wC := List.mem_append_right _ (List.mem_append_left _ (List.mem_of_getElem? (i := 114) rfl))
theorem kC_115 : Cond.fieldLink RX2 24 "SkiHill$Group" "where" "I" ∈ wC := List.mem_append_right _ (List.mem_append_left _ (List.mem_of_getElem? (i := 115) rfl))
theorem kC_116 : Cond.code yX2_init cX2_init 5 none ∈ wC := List.mem_append_right _ (List.mem_append_left _ (List.mem_of_getElem? (i := 116) rfl))
theorem kC_117 : Cond.fieldLink RX2 27 "SkiHill$Group" "toGo" "I" ∈ wC := List.mem_append_right _ (List.mem_append_left _ (List.mem_of_getElem? (i := 117) rfl))
theorem kC_118 : Cond.fieldLink RX2 30 "SkiHill$Group" "endPlace" "I" ∈ wC := List.mem_append_right _ (List.mem_append_left _ (List.mem_of_getElem? (i := 118) rfl))
theorem kC_119 : Cond.code yX2_goOn cX2_goOn 1 none ∈ wC := List.mem_append_right _ (List.mem_append_left _ (List.mem_of_getElem? (i := 119) rfl))
theorem kC_120 : Cond.fieldLink RX2 33 "SkiHill$Slope" "number" "I" ∈ wC := List.mem_append_right _ (List.mem_append_left _ (List.mem_of_getElem? (i := 120) rfl))
theorem kC_121 : Cond.fieldLink RX2 36 "SkiHill$Slope" "to" "I" ∈ wC := List.mem_append_right _ (List.mem_append_left _ (List.mem_of_getElem? (i := 121) rfl))
theorem kC_122 : Cond.fieldLink RX2 39 "SkiHill$Slope" "minutes" "I" ∈ wC := List.mem_append_right _ (List.mem_append_left _ (List.mem_of_getElem? (i := 122) rfl))
theorem kC_123 : Cond.fieldLink RX2 42 "SkiHill$Group" "descents" "I" ∈ wC := List.mem_append_right _ (List.mem_append_left _ (List.mem_of_getElem? (i := 123) rfl))
theorem kC_124 : Cond.code yX2_goDown cX2_goDown 2 none ∈ wC := List.mem_append_right _ (List.mem_append_left _ (List.mem_of_getElem? (i := 124) rfl))
theorem kC_125 : Cond.fieldLink RX2 45 "SkiHill$Lift" "number" "I" ∈ wC := List.mem_append_right _ (List.mem_append_left _ (List.mem_of_getElem? (i := 125) rfl))
theorem kC_126 : Cond.code yX2_waitAt cX2_waitAt 2 none ∈ wC := List.mem_append_right _ (List.mem_append_left _ (List.mem_of_getElem? (i := 126) rfl))
theorem kC_127 : Cond.fieldLink RX2 48 "SkiHill$Lift" "to" "I" ∈ wC := List.mem_append_right _ (List.mem_append_left _ (List.mem_of_getElem? (i := 127) rfl))
theorem kC_128 : Cond.fieldLink RX2 49 "SkiHill$Lift" "minutes" "I" ∈ wC := List.mem_append_right _ (List.mem_append_left _ (List.mem_of_getElem? (i := 128) rfl))
theorem kC_129 : Cond.fieldLink RX2 50 "SkiHill$Group" "rides" "I" ∈ wC := List.mem_append_right _ (List.mem_append_left _ (List.mem_of_getElem? (i := 129) rfl))
theorem kC_130 : Cond.code yX2_rideOn cX2_rideOn 2 none ∈ wC := List.mem_append_right _ (List.mem_append_left _ (List.mem_of_getElem? (i := 130) rfl))
theorem kC_131 : Cond.methodLink RX3 3 objectInit ∈ wC := List.mem_append_right _ (List.mem_append_left _ (List.mem_of_getElem? (i := 131) rfl))
theorem kC_132 : Cond.classLink RX3 9 RJx4a65c ∈ wC := List.mem_append_right _ (List.mem_append_left _ (List.mem_of_getElem? (i := 132) rfl))
theorem kC_133 : Cond.instantiable RJx4a65c 3 ∈ wC := List.mem_append_right _ (List.mem_append_left _ (List.mem_of_getElem? (i := 133) rfl))
theorem kC_134 : Cond.fieldLink RX3 12 "SkiHill$Lift" "row" "Ljava/util/ArrayList;" ∈ wC := List.mem_append_right _ (List.mem_append_left _ (List.mem_of_getElem? (i := 134) rfl))
theorem kC_135 : Cond.fieldLink RX3 18 "SkiHill$Lift" "number" "I" ∈ wC := List.mem_append_right _ (List.mem_append_left _ (List.mem_of_getElem? (i := 135) rfl))
theorem kC_136 : Cond.fieldLink RX3 22 "SkiHill$Lift" "from" "I" ∈ wC := List.mem_append_right _ (List.mem_append_left _ (List.mem_of_getElem? (i := 136) rfl))
theorem kC_137 : Cond.fieldLink RX3 25 "SkiHill$Lift" "to" "I" ∈ wC := List.mem_append_right _ (List.mem_append_left _ (List.mem_of_getElem? (i := 137) rfl))
theorem kC_138 : Cond.fieldLink RX3 28 "SkiHill$Lift" "seats" "I" ∈ wC := List.mem_append_right _ (List.mem_append_left _ (List.mem_of_getElem? (i := 138) rfl))
theorem kC_139 : Cond.fieldLink RX3 31 "SkiHill$Lift" "minutes" "I" ∈ wC := List.mem_append_right _ (List.mem_append_left _ (List.mem_of_getElem? (i := 139) rfl))
theorem kC_140 : Cond.fieldLink RX3 34 "SkiHill$Lift" "mostWind" "I" ∈ wC := List.mem_append_right _ (List.mem_append_left _ (List.mem_of_getElem? (i := 140) rfl))
theorem kC_141 : Cond.methodLink RX3 11 yJx4a65c_init_da8c8 ∈ wC := List.mem_append_right _ (List.mem_append_left _ (List.mem_of_getElem? (i := 141) rfl))
theorem kC_142 : Cond.instanceMethod yJx4a65c_init_da8c8 ∈ wC := List.mem_append_right _ (List.mem_append_left _ (List.mem_of_getElem? (i := 142) rfl))
theorem kC_143 : Cond.code yJx4a65c_init_da8c8 cJx4a65c_init_da8c8 1 none ∈ wC := List.mem_append_right _ (List.mem_append_left _ (List.mem_of_getElem? (i := 143) rfl))
theorem kC_144 : Cond.fieldLink RJx4a65c 39 "java/util/ArrayList" "DEFAULTCAPACITY_EMPTY_ELEMENTDATA" "[Ljava/lang/Object;" ∈ wC := List.mem_append_right _ (List.mem_append_left _ (List.mem_of_getElem? (i := 144) rfl))
theorem kC_145 : Cond.methodLink RJx4a65c 1 yJxc12de_init_da8c8 ∈ wC := List.mem_append_right _ (List.mem_append_left _ (List.mem_of_getElem? (i := 145) rfl))
theorem kC_146 : Cond.instanceMethod yJxc12de_init_da8c8 ∈ wC := List.mem_append_right _ (List.mem_append_left _ (List.mem_of_getElem? (i := 146) rfl))
theorem kC_147 : Cond.initialized RJxc12de ∈ wC := List.mem_append_right _ (List.mem_append_left _ (List.mem_of_getElem? (i := 147) rfl))
theorem kC_148 : Cond.code yJxc12de_init_da8c8 cJxc12de_init_da8c8 1 none ∈ wC := List.mem_append_right _ (List.mem_append_left _ (List.mem_of_getElem? (i := 148) rfl))
theorem kC_149 : Cond.fieldLink RJxc12de 7 "java/util/AbstractList" "modCount" "I" ∈ wC := List.mem_append_right _ (List.mem_append_left _ (List.mem_of_getElem? (i := 149) rfl))
theorem kC_150 : Cond.methodLink RJxc12de 1 yJxa1e45_init_da8c8 ∈ wC := List.mem_append_right _ (List.mem_append_left _ (List.mem_of_getElem? (i := 150) rfl))
theorem kC_151 : Cond.instanceMethod yJxa1e45_init_da8c8 ∈ wC := List.mem_append_right _ (List.mem_append_left _ (List.mem_of_getElem? (i := 151) rfl))
theorem kC_152 : Cond.initialized RJxa1e45 ∈ wC := List.mem_append_right _ (List.mem_append_left _ (List.mem_of_getElem? (i := 152) rfl))
theorem kC_153 : Cond.code yJxa1e45_init_da8c8 cJxa1e45_init_da8c8 1 none ∈ wC := List.mem_append_right _ (List.mem_append_left _ (List.mem_of_getElem? (i := 153) rfl))
theorem kC_154 : Cond.methodLink RJxa1e45 1 objectInit ∈ wC := List.mem_append_right _ (List.mem_append_left _ (List.mem_of_getElem? (i := 154) rfl))
theorem kC_155 : Cond.code yX3_init cX3_init 7 none ∈ wC := List.mem_append_right _ (List.mem_append_left _ (List.mem_of_getElem? (i := 155) rfl))
theorem kC_156 : Cond.fieldLink RX3 41 "SkiHill$Lift" "waiting" "I" ∈ wC := List.mem_append_right _ (List.mem_append_left _ (List.mem_of_getElem? (i := 156) rfl))
theorem kC_157 : Cond.fieldLink RX3 44 "SkiHill$Group" "size" "I" ∈ wC := List.mem_append_right _ (List.mem_append_left _ (List.mem_of_getElem? (i := 157) rfl))
theorem kC_158 : Cond.methodLink RX3 37 yJx4a65c_add_9ea2d ∈ wC := List.mem_append_right _ (List.mem_append_left _ (List.mem_of_getElem? (i := 158) rfl))
theorem kC_159 : Cond.instanceMethod yJx4a65c_add_9ea2d ∈ wC := List.mem_append_right _ (List.mem_append_left _ (List.mem_of_getElem? (i := 159) rfl))
theorem kC_160 : Cond.selects RJx4a65c yJx4a65c_add_9ea2d yJx4a65c_add_9ea2d ∈ wC := List.mem_append_right _ (List.mem_append_left _ (List.mem_of_getElem? (i := 160) rfl))
theorem kC_161 : Cond.code yJx4a65c_add_9ea2d cJx4a65c_add_9ea2d 2 (some .boolean) ∈ wC := List.mem_append_right _ (List.mem_append_left _ (List.mem_of_getElem? (i := 161) rfl))
theorem kC_162 : Cond.fieldLink RJx4a65c 63 "java/util/ArrayList" "modCount" "I" ∈ wC := List.mem_append_right _ (List.mem_append_left _ (List.mem_of_getElem? (i := 162) rfl))
theorem kC_163 : Cond.sameField "java/util/ArrayList" "java/util/AbstractList" "modCount" "I" ∈ wC := List.mem_append_right _ (List.mem_append_left _ (List.mem_of_getElem? (i := 163) rfl))
theorem kC_164 : Cond.methodLink RJx4a65c 131 yJx4a65c_add_72be8 ∈ wC := List.mem_append_right _ (List.mem_append_left _ (List.mem_of_getElem? (i := 164) rfl))
theorem kC_165 : Cond.instanceMethod yJx4a65c_add_72be8 ∈ wC := List.mem_append_right _ (List.mem_append_left _ (List.mem_of_getElem? (i := 165) rfl))
theorem kC_166 : Cond.selects RJx4a65c yJx4a65c_add_72be8 yJx4a65c_add_72be8 ∈ wC := List.mem_append_right _ (List.mem_append_left _ (List.mem_of_getElem? (i := 166) rfl))
theorem kC_167 : Cond.code yJx4a65c_add_72be8 cJx4a65c_add_72be8 4 none ∈ wC := List.mem_append_right _ (List.mem_append_left _ (List.mem_of_getElem? (i := 167) rfl))
theorem kC_168 : Cond.methodLink RJx4a65c 129 yJx4a65c_grow_d5877 ∈ wC := List.mem_append_right _ (List.mem_append_left _ (List.mem_of_getElem? (i := 168) rfl))
theorem kC_169 : Cond.instanceMethod yJx4a65c_grow_d5877 ∈ wC := List.mem_append_right _ (List.mem_append_left _ (List.mem_of_getElem? (i := 169) rfl))
theorem kC_170 : Cond.selects RJx4a65c yJx4a65c_grow_d5877 yJx4a65c_grow_d5877 ∈ wC := List.mem_append_right _ (List.mem_append_left _ (List.mem_of_getElem? (i := 170) rfl))
theorem kC_171 : Cond.code yJx4a65c_grow_d5877 cJx4a65c_grow_d5877 1 (some (.array (.object "java/lang/Object"))) ∈ wC := List.mem_append_right _ (List.mem_append_left _ (List.mem_of_getElem? (i := 171) rfl))
theorem kC_172 : Cond.methodLink RJx4a65c 69 yJx4a65c_grow_92f84 ∈ wC := List.mem_append_right _ (List.mem_append_left _ (List.mem_of_getElem? (i := 172) rfl))
theorem kC_173 : Cond.instanceMethod yJx4a65c_grow_92f84 ∈ wC := List.mem_append_right _ (List.mem_append_left _ (List.mem_of_getElem? (i := 173) rfl))
theorem kC_174 : Cond.selects RJx4a65c yJx4a65c_grow_92f84 yJx4a65c_grow_92f84 ∈ wC := List.mem_append_right _ (List.mem_append_left _ (List.mem_of_getElem? (i := 174) rfl))
theorem kC_175 : Cond.code yJx4a65c_grow_92f84 cJx4a65c_grow_92f84 4 (some (.array (.object "java/lang/Object"))) ∈ wC := List.mem_append_right _ (List.mem_append_left _ (List.mem_of_getElem? (i := 175) rfl))
theorem kC_176 : Cond.methodLink RJx4a65c 79 Lib.Math.max.name ∈ wC := List.mem_append_right _ (List.mem_append_left _ (List.mem_of_getElem? (i := 176) rfl))
theorem kC_177 : Cond.classLink RJx4a65c 7 "java/lang/Object" ∈ wC := List.mem_append_right _ (List.mem_append_left _ (List.mem_of_getElem? (i := 177) rfl))
theorem kC_178 : Cond.methodLink RJx4a65c 73 yJ8_newLength_cabcc ∈ wC := List.mem_append_right _ (List.mem_append_left _ (List.mem_of_getElem? (i := 178) rfl))
theorem kC_179 : Cond.static yJ8_newLength_cabcc ∈ wC := List.mem_append_right _ (List.mem_append_left _ (List.mem_of_getElem? (i := 179) rfl))
theorem kC_180 : Cond.initialized RJ8 ∈ wC := List.mem_append_right _ (List.mem_append_left _ (List.mem_of_getElem? (i := 180) rfl))
theorem kC_181 : Cond.code yJ8_newLength_cabcc cJ8_newLength_cabcc 4 (some .int) ∈ wC := List.mem_append_right _ (List.mem_append_left _ (List.mem_of_getElem? (i := 181) rfl))
theorem kC_182 : Cond.methodLink RJ8 194 Lib.Math.max.name ∈ wC := List.mem_append_right _ (List.mem_append_left _ (List.mem_of_getElem? (i := 182) rfl))
theorem kC_183 : Cond.constant RJ8 200 (2147483639) ∈ wC := List.mem_append_right _ (List.mem_append_left _ (List.mem_of_getElem? (i := 183) rfl))
theorem kC_184 : Cond.methodLink RJ8 201 yJ8_hugeLength_7cf53 ∈ wC := List.mem_append_right _ (List.mem_append_left _ (List.mem_of_getElem? (i := 184) rfl))
theorem kC_185 : Cond.static yJ8_hugeLength_7cf53 ∈ wC := List.mem_append_right _ (List.mem_append_left _ (List.mem_of_getElem? (i := 185) rfl))
theorem kC_186 : Cond.code yJ8_hugeLength_7cf53 cJ8_hugeLength_7cf53 3 (some .int) ∈ wC := List.mem_append_right _ (List.mem_append_left _ (List.mem_of_getElem? (i := 186) rfl))
theorem kC_187 : Cond.methodLink RJx4a65c 66 yJ7_copyOf_1904c ∈ wC := List.mem_append_right _ (List.mem_append_left _ (List.mem_of_getElem? (i := 187) rfl))
theorem kC_188 : Cond.static yJ7_copyOf_1904c ∈ wC := List.mem_append_right _ (List.mem_append_left _ (List.mem_of_getElem? (i := 188) rfl))
theorem kC_189 : Cond.initialized RJ7 ∈ wC := List.mem_append_right _ (List.mem_append_left _ (List.mem_of_getElem? (i := 189) rfl))
theorem kC_190 : Cond.code yJ7_copyOf_1904c cJ7_copyOf_1904c 2 (some (.array (.object "java/lang/Object"))) ∈ wC := List.mem_append_right _ (List.mem_append_left _ (List.mem_of_getElem? (i := 190) rfl))
theorem kC_191 : Cond.methodLink RJ7 86 ⟨"java/lang/Object", "getClass", "()Ljava/lang/Class;"⟩ ∈ wC := List.mem_append_right _ (List.mem_append_left _ (List.mem_of_getElem? (i := 191) rfl))
theorem kC_192 : Cond.selects "[Ljava/lang/Object;" ⟨"java/lang/Object", "getClass", "()Ljava/lang/Class;"⟩ ⟨"java/lang/Object", "getClass", "()Ljava/lang/Class;"⟩ ∈ wC := List.mem_append_right _ (List.mem_append_left _ (List.mem_of_getElem? (i := 192) rfl))
theorem kC_193 : Cond.instanceMethod ⟨"java/lang/Object", "getClass", "()Ljava/lang/Class;"⟩ ∈ wC := List.mem_append_right _ (List.mem_append_left _ (List.mem_of_getElem? (i := 193) rfl))
theorem kC_194 : Cond.native ⟨"java/lang/Object", "getClass", "()Ljava/lang/Class;"⟩ ∈ wC := List.mem_append_right _ (List.mem_append_left _ (List.mem_of_getElem? (i := 194) rfl))
theorem kC_195 : Cond.methodLink RJ7 300 yJ7_copyOf_6403c ∈ wC := List.mem_append_right _ (List.mem_append_left _ (List.mem_of_getElem? (i := 195) rfl))
theorem kC_196 : Cond.static yJ7_copyOf_6403c ∈ wC := List.mem_append_right _ (List.mem_append_left _ (List.mem_of_getElem? (i := 196) rfl))
theorem kC_197 : Cond.code yJ7_copyOf_6403c cJ7_copyOf_6403c 4 (some (.array (.object "java/lang/Object"))) ∈ wC := List.mem_append_right _ (List.mem_append_left _ (List.mem_of_getElem? (i := 197) rfl))
theorem kC_198 : Cond.classLink RJ7 110 "[Ljava/lang/Object;" ∈ wC := List.mem_append_right _ (List.mem_append_left _ (List.mem_of_getElem? (i := 198) rfl))
theorem kC_199 : Cond.classLink RJ7 2 "java/lang/Object" ∈ wC := List.mem_append_right _ (List.mem_append_left _ (List.mem_of_getElem? (i := 199) rfl))
theorem kC_200 : Cond.methodLink RJ7 304 Lib.Math.min.name ∈ wC := List.mem_append_right _ (List.mem_append_left _ (List.mem_of_getElem? (i := 200) rfl))
theorem kC_201 : Cond.methodLink RJ7 150 arraycopyName ∈ wC := List.mem_append_right _ (List.mem_append_left _ (List.mem_of_getElem? (i := 201) rfl))
theorem kC_202 : Cond.native arraycopyName ∈ wC := List.mem_append_right _ (List.mem_append_left _ (List.mem_of_getElem? (i := 202) rfl))
theorem kC_203 : Cond.static arraycopyName ∈ wC := List.mem_append_right _ (List.mem_append_left _ (List.mem_of_getElem? (i := 203) rfl))
theorem kC_204 : Cond.initialized "java/lang/System" ∈ wC := List.mem_append_right _ (List.mem_append_left _ (List.mem_of_getElem? (i := 204) rfl))
theorem kC_205 : Cond.code yX3_takeLast cX3_takeLast 2 none ∈ wC := List.mem_append_right _ (List.mem_append_left _ (List.mem_of_getElem? (i := 205) rfl))
theorem kC_206 : Cond.classLink RX3 45 "SkiHill$Group" ∈ wC := List.mem_append_right _ (List.mem_append_left _ (List.mem_of_getElem? (i := 206) rfl))
theorem kC_207 : Cond.methodLink RX3 49 yJx4a65c_isEmpty_aae02 ∈ wC := List.mem_append_right _ (List.mem_append_left _ (List.mem_of_getElem? (i := 207) rfl))
theorem kC_208 : Cond.instanceMethod yJx4a65c_isEmpty_aae02 ∈ wC := List.mem_append_right _ (List.mem_append_left _ (List.mem_of_getElem? (i := 208) rfl))
theorem kC_209 : Cond.selects RJx4a65c yJx4a65c_isEmpty_aae02 yJx4a65c_isEmpty_aae02 ∈ wC := List.mem_append_right _ (List.mem_append_left _ (List.mem_of_getElem? (i := 209) rfl))
theorem kC_210 : Cond.code yJx4a65c_isEmpty_aae02 cJx4a65c_isEmpty_aae02 1 (some .boolean) ∈ wC := List.mem_append_right _ (List.mem_append_left _ (List.mem_of_getElem? (i := 210) rfl))
theorem kC_211 : Cond.methodLink RX3 53 yJx4a65c_get_915e3 ∈ wC := List.mem_append_right _ (List.mem_append_left _ (List.mem_of_getElem? (i := 211) rfl))
theorem kC_212 : Cond.methodLink RX3 57 yJx4a65c_remove_915e3 ∈ wC := List.mem_append_right _ (List.mem_append_left _ (List.mem_of_getElem? (i := 212) rfl))
theorem kC_213 : Cond.instanceMethod yJx4a65c_remove_915e3 ∈ wC := List.mem_append_right _ (List.mem_append_left _ (List.mem_of_getElem? (i := 213) rfl))
theorem kC_214 : Cond.selects RJx4a65c yJx4a65c_remove_915e3 yJx4a65c_remove_915e3 ∈ wC := List.mem_append_right _ (List.mem_append_left _ (List.mem_of_getElem? (i := 214) rfl))
theorem kC_215 : Cond.code yJx4a65c_remove_915e3 cJx4a65c_remove_915e3 4 (some (.object "java/lang/Object")) ∈ wC := List.mem_append_right _ (List.mem_append_left _ (List.mem_of_getElem? (i := 215) rfl))
theorem kC_216 : Cond.methodLink RJx4a65c 144 yJx4a65c_fastRemove_b59b0 ∈ wC := List.mem_append_right _ (List.mem_append_left _ (List.mem_of_getElem? (i := 216) rfl))
theorem kC_217 : Cond.instanceMethod yJx4a65c_fastRemove_b59b0 ∈ wC := List.mem_append_right _ (List.mem_append_left _ (List.mem_of_getElem? (i := 217) rfl))
theorem kC_218 : Cond.selects RJx4a65c yJx4a65c_fastRemove_b59b0 yJx4a65c_fastRemove_b59b0 ∈ wC := List.mem_append_right _ (List.mem_append_left _ (List.mem_of_getElem? (i := 218) rfl))
theorem kC_219 : Cond.code yJx4a65c_fastRemove_b59b0 cJx4a65c_fastRemove_b59b0 4 none ∈ wC := List.mem_append_right _ (List.mem_append_left _ (List.mem_of_getElem? (i := 219) rfl))
theorem kC_220 : Cond.methodLink RJx4a65c 112 arraycopyName ∈ wC := List.mem_append_right _ (List.mem_append_left _ (List.mem_of_getElem? (i := 220) rfl))
theorem kC_221 : Cond.methodLink RX3 60 yX2_rideOn ∈ wC := List.mem_append_right _ (List.mem_append_left _ (List.mem_of_getElem? (i := 221) rfl))
theorem kC_222 : Cond.instanceMethod yX2_rideOn ∈ wC := List.mem_append_right _ (List.mem_append_left _ (List.mem_of_getElem? (i := 222) rfl))
theorem kC_223 : Cond.selects RX2 yX2_rideOn yX2_rideOn ∈ wC := List.mem_append_right _ (List.mem_append_left _ (List.mem_of_getElem? (i := 223) rfl))
theorem kC_224 : Cond.initialized RX2 ∈ wC := List.mem_append_right _ (List.mem_append_left _ (List.mem_of_getElem? (i := 224) rfl))
theorem kC_225 : Cond.code yX3_fill cX3_fill 4 none ∈ wC := List.mem_append_right _ (List.mem_append_left _ (List.mem_of_getElem? (i := 225) rfl))
theorem kC_226 : Cond.methodLink RX4 1 objectInit ∈ wC := List.mem_append_right _ (List.mem_append_left _ (List.mem_of_getElem? (i := 226) rfl))
theorem kC_227 : Cond.fieldLink RX4 16 "SkiHill$Link" "length" "I" ∈ wC := List.mem_append_right _ (List.mem_append_left _ (List.mem_of_getElem? (i := 227) rfl))
theorem kC_228 : Cond.code yX4_init cX4_init 4 none ∈ wC := List.mem_append_right _ (List.mem_append_left _ (List.mem_of_getElem? (i := 228) rfl))
theorem kC_229 : Cond.fieldLink RX4 20 "SkiHill$Cell" "price" "I" ∈ wC := List.mem_append_right _ (List.mem_append_left _ (List.mem_of_getElem? (i := 229) rfl))
theorem kC_230 : Cond.methodLink RX4 25 Lib.Math.abs.name ∈ wC := List.mem_append_right _ (List.mem_append_left _ (List.mem_of_getElem? (i := 230) rfl))
theorem kC_231 : Cond.code yX4_takesPrices cX4_takesPrices 1 (some .boolean) ∈ wC := List.mem_append_right _ (List.mem_append_left _ (List.mem_of_getElem? (i := 231) rfl))
theorem kC_232 : Cond.methodLink RX5 3 objectInit ∈ wC := List.mem_append_right _ (List.mem_append_left _ (List.mem_of_getElem? (i := 232) rfl))
theorem kC_233 : Cond.fieldLink RX5 9 "SkiHill$RuleReader" "code" "[I" ∈ wC := List.mem_append_right _ (List.mem_append_left _ (List.mem_of_getElem? (i := 233) rfl))
theorem kC_234 : Cond.arrayClass .byte ∈ wC := List.mem_append_right _ (List.mem_append_left _ (List.mem_of_getElem? (i := 234) rfl))
theorem kC_235 : Cond.fieldLink RX5 15 "SkiHill$RuleReader" "text" "[B" ∈ wC := List.mem_append_right _ (List.mem_append_left _ (List.mem_of_getElem? (i := 235) rfl))
theorem kC_236 : Cond.code yX5_init cX5_init 1 none ∈ wC := List.mem_append_right _ (List.mem_append_left _ (List.mem_of_getElem? (i := 236) rfl))
theorem kC_237 : Cond.code yX5_byteAt cX5_byteAt 2 (some .int) ∈ wC := List.mem_append_right _ (List.mem_append_left _ (List.mem_of_getElem? (i := 237) rfl))
theorem kC_238 : Cond.code yX5_isLetter cX5_isLetter 1 (some .boolean) ∈ wC := List.mem_append_right _ (List.mem_append_left _ (List.mem_of_getElem? (i := 238) rfl))
theorem kC_239 : Cond.fieldLink RX5 35 "SkiHill$RuleReader" "at" "I" ∈ wC := List.mem_append_right _ (List.mem_append_left _ (List.mem_of_getElem? (i := 239) rfl))
theorem kC_240 : Cond.fieldLink RX5 67 "SkiHill$RuleReader" "start" "I" ∈ wC := List.mem_append_right _ (List.mem_append_left _ (List.mem_of_getElem? (i := 240) rfl))
theorem kC_241 : Cond.methodLink RX5 134 yJ0_length_8abf5 ∈ wC := List.mem_append_right _ (List.mem_append_left _ (List.mem_of_getElem? (i := 241) rfl))
theorem kC_242 : Cond.instanceMethod yJ0_length_8abf5 ∈ wC := List.mem_append_right _ (List.mem_append_left _ (List.mem_of_getElem? (i := 242) rfl))
theorem kC_243 : Cond.selects RJ0 yJ0_length_8abf5 yJ0_length_8abf5 ∈ wC := List.mem_append_right _ (List.mem_append_left _ (List.mem_of_getElem? (i := 243) rfl))
theorem kC_244 : Cond.initialized RJ0 ∈ wC := List.mem_append_right _ (List.mem_append_left _ (List.mem_of_getElem? (i := 244) rfl))
theorem kC_245 : Cond.code yJ0_length_8abf5 cJ0_length_8abf5 1 (some .int) ∈ wC := List.mem_append_right _ (List.mem_append_left _ (List.mem_of_getElem? (i := 245) rfl))
theorem kC_246 : Cond.fieldLink RJ0 9 "java/lang/String" "value" "[B" ∈ wC := List.mem_append_right _ (List.mem_append_left _ (List.mem_of_getElem? (i := 246) rfl))
theorem kC_247 : Cond.methodLink RJ0 335 yJ0_coder_7d493 ∈ wC := List.mem_append_right _ (List.mem_append_left _ (List.mem_of_getElem? (i := 247) rfl))
theorem kC_248 : Cond.instanceMethod yJ0_coder_7d493 ∈ wC := List.mem_append_right _ (List.mem_append_left _ (List.mem_of_getElem? (i := 248) rfl))
theorem kC_249 : Cond.selects RJ0 yJ0_coder_7d493 yJ0_coder_7d493 ∈ wC := List.mem_append_right _ (List.mem_append_left _ (List.mem_of_getElem? (i := 249) rfl))
theorem kC_250 : Cond.code yJ0_coder_7d493 cJ0_coder_7d493 1 (some .byte) ∈ wC := List.mem_append_right _ (List.mem_append_left _ (List.mem_of_getElem? (i := 250) rfl))
theorem kC_251 : Cond.fieldLink RJ0 38 "java/lang/String" "COMPACT_STRINGS" "Z" ∈ wC := List.mem_append_right _ (List.mem_append_left _ (List.mem_of_getElem? (i := 251) rfl))
theorem kC_252 : Cond.fieldLink RJ0 15 "java/lang/String" "coder" "B" ∈ wC := List.mem_append_right _ (List.mem_append_left _ (List.mem_of_getElem? (i := 252) rfl))
theorem kC_253 : Cond.methodLink RX5 92 yX5_byteAt ∈ wC := List.mem_append_right _ (List.mem_append_left _ (List.mem_of_getElem? (i := 253) rfl))
theorem kC_254 : Cond.instanceMethod yX5_byteAt ∈ wC := List.mem_append_right _ (List.mem_append_left _ (List.mem_of_getElem? (i := 254) rfl))
theorem kC_255 : Cond.selects RX5 yX5_byteAt yX5_byteAt ∈ wC := List.mem_append_right _ (List.mem_append_left _ (List.mem_of_getElem? (i := 255) rfl))
theorem kC_256 : Cond.initialized RX5 ∈ wC := List.mem_append_right _ (List.mem_append_left _ (List.mem_of_getElem? (i := 256) rfl))
theorem kC_257 : Cond.methodLink RX5 138 yJ0_charAt_5068e ∈ wC := List.mem_append_right _ (List.mem_append_left _ (List.mem_of_getElem? (i := 257) rfl))
theorem kC_258 : Cond.instanceMethod yJ0_charAt_5068e ∈ wC := List.mem_append_right _ (List.mem_append_left _ (List.mem_of_getElem? (i := 258) rfl))
theorem kC_259 : Cond.selects RJ0 yJ0_charAt_5068e yJ0_charAt_5068e ∈ wC := List.mem_append_right _ (List.mem_append_left _ (List.mem_of_getElem? (i := 259) rfl))
theorem kC_260 : Cond.code yJ0_charAt_5068e cJ0_charAt_5068e 2 (some .char) ∈ wC := List.mem_append_right _ (List.mem_append_left _ (List.mem_of_getElem? (i := 260) rfl))
theorem kC_261 : Cond.methodLink RJ0 492 yJ0_isLatin1_aae02 ∈ wC := List.mem_append_right _ (List.mem_append_left _ (List.mem_of_getElem? (i := 261) rfl))
theorem kC_262 : Cond.instanceMethod yJ0_isLatin1_aae02 ∈ wC := List.mem_append_right _ (List.mem_append_left _ (List.mem_of_getElem? (i := 262) rfl))
theorem kC_263 : Cond.selects RJ0 yJ0_isLatin1_aae02 yJ0_isLatin1_aae02 ∈ wC := List.mem_append_right _ (List.mem_append_left _ (List.mem_of_getElem? (i := 263) rfl))
theorem kC_264 : Cond.code yJ0_isLatin1_aae02 cJ0_isLatin1_aae02 1 (some .boolean) ∈ wC := List.mem_append_right _ (List.mem_append_left _ (List.mem_of_getElem? (i := 264) rfl))
theorem kC_265 : Cond.methodLink RJ0 495 yJ1_charAt_3b067 ∈ wC := List.mem_append_right _ (List.mem_append_left _ (List.mem_of_getElem? (i := 265) rfl))
theorem kC_266 : Cond.static yJ1_charAt_3b067 ∈ wC := List.mem_append_right _ (List.mem_append_left _ (List.mem_of_getElem? (i := 266) rfl))
theorem kC_267 : Cond.initialized RJ1 ∈ wC := List.mem_append_right _ (List.mem_append_left _ (List.mem_of_getElem? (i := 267) rfl))
theorem kC_268 : Cond.code yJ1_charAt_3b067 cJ1_charAt_3b067 2 (some .char) ∈ wC := List.mem_append_right _ (List.mem_append_left _ (List.mem_of_getElem? (i := 268) rfl))
theorem kC_269 : Cond.methodLink RJ1 9 yJ0_checkIndex_df160 ∈ wC := List.mem_append_right _ (List.mem_append_left _ (List.mem_of_getElem? (i := 269) rfl))
theorem kC_270 : Cond.static yJ0_checkIndex_df160 ∈ wC := List.mem_append_right _ (List.mem_append_left _ (List.mem_of_getElem? (i := 270) rfl))
theorem kC_271 : Cond.code yJ0_checkIndex_df160 cJ0_checkIndex_df160 2 none ∈ wC := List.mem_append_right _ (List.mem_append_left _ (List.mem_of_getElem? (i := 271) rfl))
theorem kC_272 : Cond.fieldLink RJ0 1053 "jdk/internal/util/Preconditions" "SIOOBE_FORMATTER" "Ljava/util/function/BiFunction;" ∈ wC := List.mem_append_right _ (List.mem_append_left _ (List.mem_of_getElem? (i := 272) rfl))
theorem kC_273 : Cond.methodLink RJ0 1059 yJ3_checkIndex_8e157 ∈ wC := List.mem_append_right _ (List.mem_append_left _ (List.mem_of_getElem? (i := 273) rfl))
theorem kC_274 : Cond.methodLink RJ0 498 yJ2_charAt_3b067 ∈ wC := List.mem_append_right _ (List.mem_append_left _ (List.mem_of_getElem? (i := 274) rfl))
theorem kC_275 : Cond.static yJ2_charAt_3b067 ∈ wC := List.mem_append_right _ (List.mem_append_left _ (List.mem_of_getElem? (i := 275) rfl))
theorem kC_276 : Cond.initialized RJ2 ∈ wC := List.mem_append_right _ (List.mem_append_left _ (List.mem_of_getElem? (i := 276) rfl))
theorem kC_277 : Cond.code yJ2_charAt_3b067 cJ2_charAt_3b067 2 (some .char) ∈ wC := List.mem_append_right _ (List.mem_append_left _ (List.mem_of_getElem? (i := 277) rfl))
theorem kC_278 : Cond.methodLink RJ2 67 yJ2_checkIndex_2214a ∈ wC := List.mem_append_right _ (List.mem_append_left _ (List.mem_of_getElem? (i := 278) rfl))
theorem kC_279 : Cond.static yJ2_checkIndex_2214a ∈ wC := List.mem_append_right _ (List.mem_append_left _ (List.mem_of_getElem? (i := 279) rfl))
theorem kC_280 : Cond.code yJ2_checkIndex_2214a cJ2_checkIndex_2214a 2 none ∈ wC := List.mem_append_right _ (List.mem_append_left _ (List.mem_of_getElem? (i := 280) rfl))
theorem kC_281 : Cond.methodLink RJ2 48 yJ2_length_9d52b ∈ wC := List.mem_append_right _ (List.mem_append_left _ (List.mem_of_getElem? (i := 281) rfl))
theorem kC_282 : Cond.static yJ2_length_9d52b ∈ wC := List.mem_append_right _ (List.mem_append_left _ (List.mem_of_getElem? (i := 282) rfl))
theorem kC_283 : Cond.code yJ2_length_9d52b cJ2_length_9d52b 1 (some .int) ∈ wC := List.mem_append_right _ (List.mem_append_left _ (List.mem_of_getElem? (i := 283) rfl))
theorem kC_284 : Cond.methodLink RJ2 414 yJ0_checkIndex_df160 ∈ wC := List.mem_append_right _ (List.mem_append_left _ (List.mem_of_getElem? (i := 284) rfl))
theorem kC_285 : Cond.methodLink RJ2 71 yJ2_getChar_3b067 ∈ wC := List.mem_append_right _ (List.mem_append_left _ (List.mem_of_getElem? (i := 285) rfl))
theorem kC_286 : Cond.static yJ2_getChar_3b067 ∈ wC := List.mem_append_right _ (List.mem_append_left _ (List.mem_of_getElem? (i := 286) rfl))
theorem kC_287 : Cond.code yJ2_getChar_3b067 cJ2_getChar_3b067 2 (some .char) ∈ wC := List.mem_append_right _ (List.mem_append_left _ (List.mem_of_getElem? (i := 287) rfl))
theorem kC_288 : Cond.fieldLink RJ2 44 "java/lang/StringUTF16" "$assertionsDisabled" "Z" ∈ wC := List.mem_append_right _ (List.mem_append_left _ (List.mem_of_getElem? (i := 288) rfl))
theorem kC_289 : Cond.fieldLink RJ2 59 "java/lang/StringUTF16" "HI_BYTE_SHIFT" "I" ∈ wC := List.mem_append_right _ (List.mem_append_left _ (List.mem_of_getElem? (i := 289) rfl))
theorem kC_290 : Cond.fieldLink RJ2 63 "java/lang/StringUTF16" "LO_BYTE_SHIFT" "I" ∈ wC := List.mem_append_right _ (List.mem_append_left _ (List.mem_of_getElem? (i := 290) rfl))
theorem kC_291 : Cond.code yX5_spells cX5_spells 3 (some .boolean) ∈ wC := List.mem_append_right _ (List.mem_append_left _ (List.mem_of_getElem? (i := 291) rfl))
theorem kC_292 : Cond.methodLink RX5 114 yX5_spells ∈ wC := List.mem_append_right _ (List.mem_append_left _ (List.mem_of_getElem? (i := 292) rfl))
theorem kC_293 : Cond.instanceMethod yX5_spells ∈ wC := List.mem_append_right _ (List.mem_append_left _ (List.mem_of_getElem? (i := 293) rfl))
theorem kC_294 : Cond.selects RX5 yX5_spells yX5_spells ∈ wC := List.mem_append_right _ (List.mem_append_left _ (List.mem_of_getElem? (i := 294) rfl))
theorem kC_295 : Cond.code yX5_kindOfWord cX5_kindOfWord 1 (some .int) ∈ wC := List.mem_append_right _ (List.mem_append_left _ (List.mem_of_getElem? (i := 295) rfl))
theorem kC_296 : Cond.code yX5_isDigit cX5_isDigit 1 (some .boolean) ∈ wC := List.mem_append_right _ (List.mem_append_left _ (List.mem_of_getElem? (i := 296) rfl))
theorem kC_297 : Cond.fieldLink RX5 89 "SkiHill$RuleReader" "number" "I" ∈ wC := List.mem_append_right _ (List.mem_append_left _ (List.mem_of_getElem? (i := 297) rfl))
theorem kC_298 : Cond.fieldLink RX5 25 "SkiHill$RuleReader" "length" "I" ∈ wC := List.mem_append_right _ (List.mem_append_left _ (List.mem_of_getElem? (i := 298) rfl))
theorem kC_299 : Cond.fieldLink RX5 54 "SkiHill$RuleReader" "kind" "I" ∈ wC := List.mem_append_right _ (List.mem_append_left _ (List.mem_of_getElem? (i := 299) rfl))
theorem kC_300 : Cond.methodLink RX5 103 yX5_isDigit ∈ wC := List.mem_append_right _ (List.mem_append_left _ (List.mem_of_getElem? (i := 300) rfl))
theorem kC_301 : Cond.static yX5_isDigit ∈ wC := List.mem_append_right _ (List.mem_append_left _ (List.mem_of_getElem? (i := 301) rfl))
theorem kC_302 : Cond.code yX5_advanceNumber cX5_advanceNumber 1 none ∈ wC := List.mem_append_right _ (List.mem_append_left _ (List.mem_of_getElem? (i := 302) rfl))
theorem kC_303 : Cond.code yX5_kindOfSign cX5_kindOfSign 1 (some .int) ∈ wC := List.mem_append_right _ (List.mem_append_left _ (List.mem_of_getElem? (i := 303) rfl))
theorem kC_304 : Cond.methodLink RX5 96 yX5_isLetter ∈ wC := List.mem_append_right _ (List.mem_append_left _ (List.mem_of_getElem? (i := 304) rfl))
theorem kC_305 : Cond.static yX5_isLetter ∈ wC := List.mem_append_right _ (List.mem_append_left _ (List.mem_of_getElem? (i := 305) rfl))
theorem kC_306 : Cond.methodLink RX5 99 yX5_kindOfWord ∈ wC := List.mem_append_right _ (List.mem_append_left _ (List.mem_of_getElem? (i := 306) rfl))
theorem kC_307 : Cond.instanceMethod yX5_kindOfWord ∈ wC := List.mem_append_right _ (List.mem_append_left _ (List.mem_of_getElem? (i := 307) rfl))
theorem kC_308 : Cond.selects RX5 yX5_kindOfWord yX5_kindOfWord ∈ wC := List.mem_append_right _ (List.mem_append_left _ (List.mem_of_getElem? (i := 308) rfl))
theorem kC_309 : Cond.methodLink RX5 106 yX5_advanceNumber ∈ wC := List.mem_append_right _ (List.mem_append_left _ (List.mem_of_getElem? (i := 309) rfl))
theorem kC_310 : Cond.instanceMethod yX5_advanceNumber ∈ wC := List.mem_append_right _ (List.mem_append_left _ (List.mem_of_getElem? (i := 310) rfl))
theorem kC_311 : Cond.selects RX5 yX5_advanceNumber yX5_advanceNumber ∈ wC := List.mem_append_right _ (List.mem_append_left _ (List.mem_of_getElem? (i := 311) rfl))
theorem kC_312 : Cond.methodLink RX5 109 yX5_kindOfSign ∈ wC := List.mem_append_right _ (List.mem_append_left _ (List.mem_of_getElem? (i := 312) rfl))
theorem kC_313 : Cond.static yX5_kindOfSign ∈ wC := List.mem_append_right _ (List.mem_append_left _ (List.mem_of_getElem? (i := 313) rfl))
theorem kC_314 : Cond.code yX5_advance cX5_advance 1 none ∈ wC := List.mem_append_right _ (List.mem_append_left _ (List.mem_of_getElem? (i := 314) rfl))
theorem kC_315 : Cond.fieldLink RX5 41 "SkiHill$RuleReader" "codeLength" "I" ∈ wC := List.mem_append_right _ (List.mem_append_left _ (List.mem_of_getElem? (i := 315) rfl))
theorem kC_316 : Cond.code yX5_write cX5_write 4 none ∈ wC := List.mem_append_right _ (List.mem_append_left _ (List.mem_of_getElem? (i := 316) rfl))
theorem kC_317 : Cond.fieldLink RX5 44 "SkiHill$RuleReader" "wrongByte" "I" ∈ wC := List.mem_append_right _ (List.mem_append_left _ (List.mem_of_getElem? (i := 317) rfl))
theorem kC_318 : Cond.code yX5_fails cX5_fails 1 (some .boolean) ∈ wC := List.mem_append_right _ (List.mem_append_left _ (List.mem_of_getElem? (i := 318) rfl))
theorem kC_319 : Cond.fieldLink RX5 29 "SkiHill$RuleReader" "slopes" "I" ∈ wC := List.mem_append_right _ (List.mem_append_left _ (List.mem_of_getElem? (i := 319) rfl))
theorem kC_320 : Cond.fieldLink RX5 32 "SkiHill$RuleReader" "lifts" "I" ∈ wC := List.mem_append_right _ (List.mem_append_left _ (List.mem_of_getElem? (i := 320) rfl))
theorem kC_321 : Cond.fieldLink RX5 38 "SkiHill$RuleReader" "named" "I" ∈ wC := List.mem_append_right _ (List.mem_append_left _ (List.mem_of_getElem? (i := 321) rfl))
theorem kC_322 : Cond.methodLink RX5 47 yX5_advance ∈ wC := List.mem_append_right _ (List.mem_append_left _ (List.mem_of_getElem? (i := 322) rfl))
theorem kC_323 : Cond.instanceMethod yX5_advance ∈ wC := List.mem_append_right _ (List.mem_append_left _ (List.mem_of_getElem? (i := 323) rfl))
theorem kC_324 : Cond.selects RX5 yX5_advance yX5_advance ∈ wC := List.mem_append_right _ (List.mem_append_left _ (List.mem_of_getElem? (i := 324) rfl))
theorem kC_325 : Cond.methodLink RX5 57 yX5_fails ∈ wC := List.mem_append_right _ (List.mem_append_left _ (List.mem_of_getElem? (i := 325) rfl))
theorem kC_326 : Cond.instanceMethod yX5_fails ∈ wC := List.mem_append_right _ (List.mem_append_left _ (List.mem_of_getElem? (i := 326) rfl))
theorem kC_327 : Cond.selects RX5 yX5_fails yX5_fails ∈ wC := List.mem_append_right _ (List.mem_append_left _ (List.mem_of_getElem? (i := 327) rfl))
theorem kC_328 : Cond.methodLink RX5 73 yX5_write ∈ wC := List.mem_append_right _ (List.mem_append_left _ (List.mem_of_getElem? (i := 328) rfl))
theorem kC_329 : Cond.instanceMethod yX5_write ∈ wC := List.mem_append_right _ (List.mem_append_left _ (List.mem_of_getElem? (i := 329) rfl))
theorem kC_330 : Cond.selects RX5 yX5_write yX5_write ∈ wC := List.mem_append_right _ (List.mem_append_right _ (List.mem_append_left _ (List.mem_of_getElem? (i := 0) rfl)))
theorem kC_331 : Cond.code yX5_readNaming cX5_readNaming 3 (some .boolean) ∈ wC := List.mem_append_right _ (List.mem_append_right _ (List.mem_append_left _ (List.mem_of_getElem? (i := 1) rfl)))
theorem kC_332 : Cond.code yX5_readComparing cX5_readComparing 3 (some .boolean) ∈ wC := List.mem_append_right _ (List.mem_append_right _ (List.mem_append_left _ (List.mem_of_getElem? (i := 2) rfl)))
theorem kC_333 : Cond.methodLink RX5 77 yX5_readPart ∈ wC := List.mem_append_right _ (List.mem_append_right _ (List.mem_append_left _ (List.mem_of_getElem? (i := 3) rfl)))
theorem kC_334 : Cond.instanceMethod yX5_readPart ∈ wC := List.mem_append_right _ (List.mem_append_right _ (List.mem_append_left _ (List.mem_of_getElem? (i := 4) rfl)))
theorem kC_335 : Cond.selects RX5 yX5_readPart yX5_readPart ∈ wC := List.mem_append_right _ (List.mem_append_right _ (List.mem_append_left _ (List.mem_of_getElem? (i := 5) rfl)))
theorem kC_336 : Cond.code yX5_readEither cX5_readEither 4 (some .boolean) ∈ wC := List.mem_append_right _ (List.mem_append_right _ (List.mem_append_left _ (List.mem_of_getElem? (i := 6) rfl)))
theorem kC_337 : Cond.methodLink RX5 70 yX5_readBoth ∈ wC := List.mem_append_right _ (List.mem_append_right _ (List.mem_append_left _ (List.mem_of_getElem? (i := 7) rfl)))
theorem kC_338 : Cond.instanceMethod yX5_readBoth ∈ wC := List.mem_append_right _ (List.mem_append_right _ (List.mem_append_left _ (List.mem_of_getElem? (i := 8) rfl)))
theorem kC_339 : Cond.selects RX5 yX5_readBoth yX5_readBoth ∈ wC := List.mem_append_right _ (List.mem_append_right _ (List.mem_append_left _ (List.mem_of_getElem? (i := 9) rfl)))
theorem kC_340 : Cond.code yX5_readNested cX5_readNested 4 (some .boolean) ∈ wC := List.mem_append_right _ (List.mem_append_right _ (List.mem_append_left _ (List.mem_of_getElem? (i := 10) rfl)))
theorem kC_341 : Cond.methodLink RX5 50 yX5_readEither ∈ wC := List.mem_append_right _ (List.mem_append_right _ (List.mem_append_left _ (List.mem_of_getElem? (i := 11) rfl)))
theorem kC_342 : Cond.instanceMethod yX5_readEither ∈ wC := List.mem_append_right _ (List.mem_append_right _ (List.mem_append_left _ (List.mem_of_getElem? (i := 12) rfl)))
theorem kC_343 : Cond.selects RX5 yX5_readEither yX5_readEither ∈ wC := List.mem_append_right _ (List.mem_append_right _ (List.mem_append_left _ (List.mem_of_getElem? (i := 13) rfl)))
theorem kC_344 : Cond.code yX5_readPart cX5_readPart 3 (some .boolean) ∈ wC := List.mem_append_right _ (List.mem_append_right _ (List.mem_append_left _ (List.mem_of_getElem? (i := 14) rfl)))
theorem kC_345 : Cond.methodLink RX5 80 yX5_readNested ∈ wC := List.mem_append_right _ (List.mem_append_right _ (List.mem_append_left _ (List.mem_of_getElem? (i := 15) rfl)))
theorem kC_346 : Cond.instanceMethod yX5_readNested ∈ wC := List.mem_append_right _ (List.mem_append_right _ (List.mem_append_left _ (List.mem_of_getElem? (i := 16) rfl)))
theorem kC_347 : Cond.selects RX5 yX5_readNested yX5_readNested ∈ wC := List.mem_append_right _ (List.mem_append_right _ (List.mem_append_left _ (List.mem_of_getElem? (i := 17) rfl)))
theorem kC_348 : Cond.methodLink RX5 83 yX5_readNaming ∈ wC := List.mem_append_right _ (List.mem_append_right _ (List.mem_append_left _ (List.mem_of_getElem? (i := 18) rfl)))
theorem kC_349 : Cond.instanceMethod yX5_readNaming ∈ wC := List.mem_append_right _ (List.mem_append_right _ (List.mem_append_left _ (List.mem_of_getElem? (i := 19) rfl)))
theorem kC_350 : Cond.selects RX5 yX5_readNaming yX5_readNaming ∈ wC := List.mem_append_right _ (List.mem_append_right _ (List.mem_append_left _ (List.mem_of_getElem? (i := 20) rfl)))
theorem kC_351 : Cond.methodLink RX5 86 yX5_readComparing ∈ wC := List.mem_append_right _ (List.mem_append_right _ (List.mem_append_left _ (List.mem_of_getElem? (i := 21) rfl)))
theorem kC_352 : Cond.instanceMethod yX5_readComparing ∈ wC := List.mem_append_right _ (List.mem_append_right _ (List.mem_append_left _ (List.mem_of_getElem? (i := 22) rfl)))
theorem kC_353 : Cond.selects RX5 yX5_readComparing yX5_readComparing ∈ wC := List.mem_append_right _ (List.mem_append_right _ (List.mem_append_left _ (List.mem_of_getElem? (i := 23) rfl)))
theorem kC_354 : Cond.code yX5_readBoth cX5_readBoth 4 (some .boolean) ∈ wC := List.mem_append_right _ (List.mem_append_right _ (List.mem_append_left _ (List.mem_of_getElem? (i := 24) rfl)))
theorem kC_355 : Cond.methodLink RX5 19 Lib.Math.min.name ∈ wC := List.mem_append_right _ (List.mem_append_right _ (List.mem_append_left _ (List.mem_of_getElem? (i := 25) rfl)))
theorem kC_356 : Cond.code yX5_takes cX5_takes 5 (some .boolean) ∈ wC := List.mem_append_right _ (List.mem_append_right _ (List.mem_append_left _ (List.mem_of_getElem? (i := 26) rfl)))
theorem kC_357 : Cond.methodLink RX5 61 yJ7_copyOf_59c91 ∈ wC := List.mem_append_right _ (List.mem_append_right _ (List.mem_append_left _ (List.mem_of_getElem? (i := 27) rfl)))
theorem kC_358 : Cond.static yJ7_copyOf_59c91 ∈ wC := List.mem_append_right _ (List.mem_append_right _ (List.mem_append_left _ (List.mem_of_getElem? (i := 28) rfl)))
theorem kC_359 : Cond.code yJ7_copyOf_59c91 cJ7_copyOf_59c91 3 (some (.array .int)) ∈ wC := List.mem_append_right _ (List.mem_append_right _ (List.mem_append_left _ (List.mem_of_getElem? (i := 29) rfl)))
theorem kC_360 : Cond.methodLink RJ7 316 ⟨"[I", "clone", "()Ljava/lang/Object;"⟩ ∈ wC := List.mem_append_right _ (List.mem_append_right _ (List.mem_append_left _ (List.mem_of_getElem? (i := 30) rfl)))
theorem kC_361 : Cond.sameMethod "[I" "java/lang/Object" "clone" "()Ljava/lang/Object;" ∈ wC := List.mem_append_right _ (List.mem_append_right _ (List.mem_append_left _ (List.mem_of_getElem? (i := 31) rfl)))
theorem kC_362 : Cond.native ⟨"java/lang/Object", "clone", "()Ljava/lang/Object;"⟩ ∈ wC := List.mem_append_right _ (List.mem_append_right _ (List.mem_append_left _ (List.mem_of_getElem? (i := 32) rfl)))
theorem kC_363 : Cond.instanceMethod ⟨"java/lang/Object", "clone", "()Ljava/lang/Object;"⟩ ∈ wC := List.mem_append_right _ (List.mem_append_right _ (List.mem_append_left _ (List.mem_of_getElem? (i := 33) rfl)))
theorem kC_364 : Cond.selects "[I" ⟨"[I", "clone", "()Ljava/lang/Object;"⟩ ⟨"java/lang/Object", "clone", "()Ljava/lang/Object;"⟩ ∈ wC := List.mem_append_right _ (List.mem_append_right _ (List.mem_append_left _ (List.mem_of_getElem? (i := 34) rfl)))
theorem kC_365 : Cond.classLink RJ7 317 "[I" ∈ wC := List.mem_append_right _ (List.mem_append_right _ (List.mem_append_left _ (List.mem_of_getElem? (i := 35) rfl)))
theorem kC_366 : Cond.code yX5_codeCopy cX5_codeCopy 1 (some (.array .int)) ∈ wC := List.mem_append_right _ (List.mem_append_right _ (List.mem_append_left _ (List.mem_of_getElem? (i := 36) rfl)))
theorem kC_367 : Cond.methodLink RX6 3 objectInit ∈ wC := List.mem_append_right _ (List.mem_append_right _ (List.mem_append_left _ (List.mem_of_getElem? (i := 37) rfl)))
theorem kC_368 : Cond.classLink RX6 9 RJx4a65c ∈ wC := List.mem_append_right _ (List.mem_append_right _ (List.mem_append_left _ (List.mem_of_getElem? (i := 38) rfl)))
theorem kC_369 : Cond.fieldLink RX6 12 "SkiHill$Slope" "cells" "Ljava/util/ArrayList;" ∈ wC := List.mem_append_right _ (List.mem_append_right _ (List.mem_append_left _ (List.mem_of_getElem? (i := 39) rfl)))
theorem kC_370 : Cond.fieldLink RX6 18 "SkiHill$Slope" "code" "[I" ∈ wC := List.mem_append_right _ (List.mem_append_right _ (List.mem_append_left _ (List.mem_of_getElem? (i := 40) rfl)))
theorem kC_371 : Cond.fieldLink RX6 22 "SkiHill$Slope" "number" "I" ∈ wC := List.mem_append_right _ (List.mem_append_right _ (List.mem_append_left _ (List.mem_of_getElem? (i := 41) rfl)))
theorem kC_372 : Cond.fieldLink RX6 26 "SkiHill$Slope" "from" "I" ∈ wC := List.mem_append_right _ (List.mem_append_right _ (List.mem_append_left _ (List.mem_of_getElem? (i := 42) rfl)))
theorem kC_373 : Cond.fieldLink RX6 29 "SkiHill$Slope" "to" "I" ∈ wC := List.mem_append_right _ (List.mem_append_right _ (List.mem_append_left _ (List.mem_of_getElem? (i := 43) rfl)))
theorem kC_374 : Cond.fieldLink RX6 32 "SkiHill$Slope" "minutes" "I" ∈ wC := List.mem_append_right _ (List.mem_append_right _ (List.mem_append_left _ (List.mem_of_getElem? (i := 44) rfl)))
theorem kC_375 : Cond.fieldLink RX6 35 "SkiHill$Slope" "steep" "I" ∈ wC := List.mem_append_right _ (List.mem_append_right _ (List.mem_append_left _ (List.mem_of_getElem? (i := 45) rfl)))
theorem kC_376 : Cond.methodLink RX6 11 yJx4a65c_init_da8c8 ∈ wC := List.mem_append_right _ (List.mem_append_right _ (List.mem_append_left _ (List.mem_of_getElem? (i := 46) rfl)))
theorem kC_377 : Cond.code yX6_init cX6_init 6 none ∈ wC := List.mem_append_right _ (List.mem_append_right _ (List.mem_append_left _ (List.mem_of_getElem? (i := 47) rfl)))
theorem kC_378 : Cond.classLink RX6 46 "SkiHill$Cell" ∈ wC := List.mem_append_right _ (List.mem_append_right _ (List.mem_append_left _ (List.mem_of_getElem? (i := 48) rfl)))
theorem kC_379 : Cond.methodLink RX6 55 Lib.Math.min.name ∈ wC := List.mem_append_right _ (List.mem_append_right _ (List.mem_append_left _ (List.mem_of_getElem? (i := 49) rfl)))
theorem kC_380 : Cond.methodLink RX6 38 yJx4a65c_isEmpty_aae02 ∈ wC := List.mem_append_right _ (List.mem_append_right _ (List.mem_append_left _ (List.mem_of_getElem? (i := 50) rfl)))
theorem kC_381 : Cond.methodLink RX6 42 yJx4a65c_get_915e3 ∈ wC := List.mem_append_right _ (List.mem_append_right _ (List.mem_append_left _ (List.mem_of_getElem? (i := 51) rfl)))
theorem kC_382 : Cond.methodLink RX6 48 yX1_depth ∈ wC := List.mem_append_right _ (List.mem_append_right _ (List.mem_append_left _ (List.mem_of_getElem? (i := 52) rfl)))
theorem kC_383 : Cond.methodLink RX6 52 yJx4a65c_size_8abf5 ∈ wC := List.mem_append_right _ (List.mem_append_right _ (List.mem_append_left _ (List.mem_of_getElem? (i := 53) rfl)))
theorem kC_384 : Cond.code yX6_leastDepth cX6_leastDepth 3 (some .int) ∈ wC := List.mem_append_right _ (List.mem_append_right _ (List.mem_append_left _ (List.mem_of_getElem? (i := 54) rfl)))
theorem kC_385 : Cond.fieldLink RX6 61 "SkiHill$Cell" "snow" "[I" ∈ wC := List.mem_append_right _ (List.mem_append_right _ (List.mem_append_left _ (List.mem_of_getElem? (i := 55) rfl)))
theorem kC_386 : Cond.methodLink RX6 64 Lib.Math.max.name ∈ wC := List.mem_append_right _ (List.mem_append_right _ (List.mem_append_left _ (List.mem_of_getElem? (i := 56) rfl)))
theorem kC_387 : Cond.code yX6_mostWorn cX6_mostWorn 3 (some .int) ∈ wC := List.mem_append_right _ (List.mem_append_right _ (List.mem_append_left _ (List.mem_of_getElem? (i := 57) rfl)))
theorem kC_388 : Cond.methodLink RX6 67 yX1_becomeWorn ∈ wC := List.mem_append_right _ (List.mem_append_right _ (List.mem_append_left _ (List.mem_of_getElem? (i := 58) rfl)))
theorem kC_389 : Cond.instanceMethod yX1_becomeWorn ∈ wC := List.mem_append_right _ (List.mem_append_right _ (List.mem_append_left _ (List.mem_of_getElem? (i := 59) rfl)))
theorem kC_390 : Cond.selects RX1 yX1_becomeWorn yX1_becomeWorn ∈ wC := List.mem_append_right _ (List.mem_append_right _ (List.mem_append_left _ (List.mem_of_getElem? (i := 60) rfl)))
theorem kC_391 : Cond.code yX6_wear cX6_wear 4 (some .int) ∈ wC := List.mem_append_right _ (List.mem_append_right _ (List.mem_append_left _ (List.mem_of_getElem? (i := 61) rfl)))
theorem kC_392 : Cond.methodLink RX7 3 objectInit ∈ wC := List.mem_append_right _ (List.mem_append_right _ (List.mem_append_left _ (List.mem_of_getElem? (i := 62) rfl)))
theorem kC_393 : Cond.classLink RX7 9 RJx4a65c ∈ wC := List.mem_append_right _ (List.mem_append_right _ (List.mem_append_left _ (List.mem_of_getElem? (i := 63) rfl)))
theorem kC_394 : Cond.fieldLink RX7 12 "SkiHill" "lifts" "Ljava/util/ArrayList;" ∈ wC := List.mem_append_right _ (List.mem_append_right _ (List.mem_append_left _ (List.mem_of_getElem? (i := 64) rfl)))
theorem kC_395 : Cond.fieldLink RX7 16 "SkiHill" "slopes" "Ljava/util/ArrayList;" ∈ wC := List.mem_append_right _ (List.mem_append_right _ (List.mem_append_left _ (List.mem_of_getElem? (i := 65) rfl)))
theorem kC_396 : Cond.fieldLink RX7 19 "SkiHill" "cells" "Ljava/util/ArrayList;" ∈ wC := List.mem_append_right _ (List.mem_append_right _ (List.mem_append_left _ (List.mem_of_getElem? (i := 66) rfl)))
theorem kC_397 : Cond.fieldLink RX7 22 "SkiHill" "groups" "Ljava/util/ArrayList;" ∈ wC := List.mem_append_right _ (List.mem_append_right _ (List.mem_append_left _ (List.mem_of_getElem? (i := 67) rfl)))
theorem kC_398 : Cond.fieldLink RX7 25 "SkiHill" "links" "Ljava/util/ArrayList;" ∈ wC := List.mem_append_right _ (List.mem_append_right _ (List.mem_append_left _ (List.mem_of_getElem? (i := 68) rfl)))
theorem kC_399 : Cond.classLink RX7 28 RX5 ∈ wC := List.mem_append_right _ (List.mem_append_right _ (List.mem_append_left _ (List.mem_of_getElem? (i := 69) rfl)))
theorem kC_400 : Cond.instantiable RX5 12 ∈ wC := List.mem_append_right _ (List.mem_append_right _ (List.mem_append_left _ (List.mem_of_getElem? (i := 70) rfl)))
theorem kC_401 : Cond.fieldLink RX7 31 "SkiHill" "reader" "LSkiHill$RuleReader;" ∈ wC := List.mem_append_right _ (List.mem_append_right _ (List.mem_append_left _ (List.mem_of_getElem? (i := 71) rfl)))
theorem kC_402 : Cond.fieldLink RX7 35 "SkiHill" "tape" "[B" ∈ wC := List.mem_append_right _ (List.mem_append_right _ (List.mem_append_left _ (List.mem_of_getElem? (i := 72) rfl)))
theorem kC_403 : Cond.fieldLink RX7 39 "SkiHill" "faultByte" "I" ∈ wC := List.mem_append_right _ (List.mem_append_right _ (List.mem_append_left _ (List.mem_of_getElem? (i := 73) rfl)))
theorem kC_404 : Cond.methodLink RX7 11 yJx4a65c_init_da8c8 ∈ wC := List.mem_append_right _ (List.mem_append_right _ (List.mem_append_left _ (List.mem_of_getElem? (i := 74) rfl)))
theorem kC_405 : Cond.instanceMethod yX5_init ∈ wC := List.mem_append_right _ (List.mem_append_right _ (List.mem_append_left _ (List.mem_of_getElem? (i := 75) rfl)))
theorem kC_406 : Cond.code yX7_init cX7_init 1 none ∈ wC := List.mem_append_right _ (List.mem_append_right _ (List.mem_append_left _ (List.mem_of_getElem? (i := 76) rfl)))
theorem kC_407 : Cond.fieldLink RX7 43 "SkiHill" "tapeLength" "I" ∈ wC := List.mem_append_right _ (List.mem_append_right _ (List.mem_append_left _ (List.mem_of_getElem? (i := 77) rfl)))
theorem kC_408 : Cond.code yX7_putNumber cX7_putNumber 3 none ∈ wC := List.mem_append_right _ (List.mem_append_right _ (List.mem_append_left _ (List.mem_of_getElem? (i := 78) rfl)))
theorem kC_409 : Cond.methodLink RX7 46 yX7_putNumber ∈ wC := List.mem_append_right _ (List.mem_append_right _ (List.mem_append_left _ (List.mem_of_getElem? (i := 79) rfl)))
theorem kC_410 : Cond.instanceMethod yX7_putNumber ∈ wC := List.mem_append_right _ (List.mem_append_right _ (List.mem_append_left _ (List.mem_of_getElem? (i := 80) rfl)))
theorem kC_411 : Cond.selects RX7 yX7_putNumber yX7_putNumber ∈ wC := List.mem_append_right _ (List.mem_append_right _ (List.mem_append_left _ (List.mem_of_getElem? (i := 81) rfl)))
theorem kC_412 : Cond.initialized RX7 ∈ wC := List.mem_append_right _ (List.mem_append_right _ (List.mem_append_left _ (List.mem_of_getElem? (i := 82) rfl)))
theorem kC_413 : Cond.code yX7_feed cX7_feed 6 (some .int) ∈ wC := List.mem_append_right _ (List.mem_append_right _ (List.mem_append_left _ (List.mem_of_getElem? (i := 83) rfl)))
theorem kC_414 : Cond.code yX7_end cX7_end 2 (some .boolean) ∈ wC := List.mem_append_right _ (List.mem_append_right _ (List.mem_append_left _ (List.mem_of_getElem? (i := 84) rfl)))
theorem kC_415 : Cond.classLink RX7 258 "java/lang/IndexOutOfBoundsException" ∈ wC := List.mem_append_right _ (List.mem_append_right _ (List.mem_append_left _ (List.mem_of_getElem? (i := 85) rfl)))
theorem kC_416 : Cond.initialized "java/lang/IndexOutOfBoundsException" ∈ wC := List.mem_append_right _ (List.mem_append_right _ (List.mem_append_left _ (List.mem_of_getElem? (i := 86) rfl)))
theorem kC_417 : Cond.code yX7_checkPlace cX7_checkPlace 1 none ∈ wC := List.mem_append_right _ (List.mem_append_right _ (List.mem_append_left _ (List.mem_of_getElem? (i := 87) rfl)))
theorem kC_418 : Cond.classLink RX7 123 "java/lang/IllegalArgumentException" ∈ wC := List.mem_append_right _ (List.mem_append_right _ (List.mem_append_left _ (List.mem_of_getElem? (i := 88) rfl)))
theorem kC_419 : Cond.initialized "java/lang/IllegalArgumentException" ∈ wC := List.mem_append_right _ (List.mem_append_right _ (List.mem_append_left _ (List.mem_of_getElem? (i := 89) rfl)))
theorem kC_420 : Cond.code yX7_checkNumber cX7_checkNumber 3 none ∈ wC := List.mem_append_right _ (List.mem_append_right _ (List.mem_append_left _ (List.mem_of_getElem? (i := 90) rfl)))
theorem kC_421 : Cond.classLink RX7 337 "java/lang/UnsupportedOperationException" ∈ wC := List.mem_append_right _ (List.mem_append_right _ (List.mem_append_left _ (List.mem_of_getElem? (i := 91) rfl)))
theorem kC_422 : Cond.initialized "java/lang/UnsupportedOperationException" ∈ wC := List.mem_append_right _ (List.mem_append_right _ (List.mem_append_left _ (List.mem_of_getElem? (i := 92) rfl)))
theorem kC_423 : Cond.code yX7_checkRoom cX7_checkRoom 2 none ∈ wC := List.mem_append_right _ (List.mem_append_right _ (List.mem_append_left _ (List.mem_of_getElem? (i := 93) rfl)))
theorem kC_424 : Cond.classLink RX7 65 RX3 ∈ wC := List.mem_append_right _ (List.mem_append_right _ (List.mem_append_left _ (List.mem_of_getElem? (i := 94) rfl)))
theorem kC_425 : Cond.instantiable RX3 9 ∈ wC := List.mem_append_right _ (List.mem_append_right _ (List.mem_append_left _ (List.mem_of_getElem? (i := 95) rfl)))
theorem kC_426 : Cond.initialized RX3 ∈ wC := List.mem_append_right _ (List.mem_append_right _ (List.mem_append_left _ (List.mem_of_getElem? (i := 96) rfl)))
theorem kC_427 : Cond.methodLink RX7 50 yX7_checkPlace ∈ wC := List.mem_append_right _ (List.mem_append_right _ (List.mem_append_left _ (List.mem_of_getElem? (i := 97) rfl)))
theorem kC_428 : Cond.static yX7_checkPlace ∈ wC := List.mem_append_right _ (List.mem_append_right _ (List.mem_append_left _ (List.mem_of_getElem? (i := 98) rfl)))
theorem kC_429 : Cond.methodLink RX7 53 yX7_checkNumber ∈ wC := List.mem_append_right _ (List.mem_append_right _ (List.mem_append_left _ (List.mem_of_getElem? (i := 99) rfl)))
theorem kC_430 : Cond.static yX7_checkNumber ∈ wC := List.mem_append_right _ (List.mem_append_right _ (List.mem_append_left _ (List.mem_of_getElem? (i := 100) rfl)))
theorem kC_431 : Cond.methodLink RX7 57 yJx4a65c_size_8abf5 ∈ wC := List.mem_append_right _ (List.mem_append_right _ (List.mem_append_left _ (List.mem_of_getElem? (i := 101) rfl)))
theorem kC_432 : Cond.methodLink RX7 61 yX7_checkRoom ∈ wC := List.mem_append_right _ (List.mem_append_right _ (List.mem_append_left _ (List.mem_of_getElem? (i := 102) rfl)))
theorem kC_433 : Cond.static yX7_checkRoom ∈ wC := List.mem_append_right _ (List.mem_append_right _ (List.mem_append_left _ (List.mem_of_getElem? (i := 103) rfl)))
theorem kC_434 : Cond.methodLink RX7 67 yX3_init ∈ wC := List.mem_append_right _ (List.mem_append_right _ (List.mem_append_left _ (List.mem_of_getElem? (i := 104) rfl)))
theorem kC_435 : Cond.instanceMethod yX3_init ∈ wC := List.mem_append_right _ (List.mem_append_right _ (List.mem_append_left _ (List.mem_of_getElem? (i := 105) rfl)))
theorem kC_436 : Cond.methodLink RX7 70 yJx4a65c_add_9ea2d ∈ wC := List.mem_append_right _ (List.mem_append_right _ (List.mem_append_left _ (List.mem_of_getElem? (i := 106) rfl)))
theorem kC_437 : Cond.code yX7_lift cX7_lift 7 (some .int) ∈ wC := List.mem_append_right _ (List.mem_append_right _ (List.mem_append_left _ (List.mem_of_getElem? (i := 107) rfl)))
theorem kC_438 : Cond.classLink RX7 83 RX1 ∈ wC := List.mem_append_right _ (List.mem_append_right _ (List.mem_append_left _ (List.mem_of_getElem? (i := 108) rfl)))
theorem kC_439 : Cond.instantiable RX1 8 ∈ wC := List.mem_append_right _ (List.mem_append_right _ (List.mem_append_left _ (List.mem_of_getElem? (i := 109) rfl)))
theorem kC_440 : Cond.fieldLink RX7 85 "SkiHill$Slope" "number" "I" ∈ wC := List.mem_append_right _ (List.mem_append_right _ (List.mem_append_left _ (List.mem_of_getElem? (i := 110) rfl)))
theorem kC_441 : Cond.fieldLink RX7 90 "SkiHill$Slope" "cells" "Ljava/util/ArrayList;" ∈ wC := List.mem_append_right _ (List.mem_append_right _ (List.mem_append_left _ (List.mem_of_getElem? (i := 111) rfl)))
theorem kC_442 : Cond.methodLink RX7 88 yX1_init ∈ wC := List.mem_append_right _ (List.mem_append_right _ (List.mem_append_left _ (List.mem_of_getElem? (i := 112) rfl)))
theorem kC_443 : Cond.instanceMethod yX1_init ∈ wC := List.mem_append_right _ (List.mem_append_right _ (List.mem_append_left _ (List.mem_of_getElem? (i := 113) rfl)))
theorem kC_444 : Cond.code yX7_addCell cX7_addCell 3 none ∈ wC := List.mem_append_right _ (List.mem_append_right _ (List.mem_append_left _ (List.mem_of_getElem? (i := 114) rfl)))
theorem kC_445 : Cond.classLink RX7 74 RX6 ∈ wC := List.mem_append_right _ (List.mem_append_right _ (List.mem_append_left _ (List.mem_of_getElem? (i := 115) rfl)))
theorem kC_446 : Cond.instantiable RX6 10 ∈ wC := List.mem_append_right _ (List.mem_append_right _ (List.mem_append_left _ (List.mem_of_getElem? (i := 116) rfl)))
theorem kC_447 : Cond.initialized RX6 ∈ wC := List.mem_append_right _ (List.mem_append_right _ (List.mem_append_left _ (List.mem_of_getElem? (i := 117) rfl)))
theorem kC_448 : Cond.methodLink RX7 76 yX6_init ∈ wC := List.mem_append_right _ (List.mem_append_right _ (List.mem_append_left _ (List.mem_of_getElem? (i := 118) rfl)))
theorem kC_449 : Cond.instanceMethod yX6_init ∈ wC := List.mem_append_right _ (List.mem_append_right _ (List.mem_append_left _ (List.mem_of_getElem? (i := 119) rfl)))
theorem kC_450 : Cond.methodLink RX7 79 yX7_addCell ∈ wC := List.mem_append_right _ (List.mem_append_right _ (List.mem_append_left _ (List.mem_of_getElem? (i := 120) rfl)))
theorem kC_451 : Cond.instanceMethod yX7_addCell ∈ wC := List.mem_append_right _ (List.mem_append_right _ (List.mem_append_left _ (List.mem_of_getElem? (i := 121) rfl)))
theorem kC_452 : Cond.selects RX7 yX7_addCell yX7_addCell ∈ wC := List.mem_append_right _ (List.mem_append_right _ (List.mem_append_left _ (List.mem_of_getElem? (i := 122) rfl)))
theorem kC_453 : Cond.code yX7_slope cX7_slope 9 (some .int) ∈ wC := List.mem_append_right _ (List.mem_append_right _ (List.mem_append_left _ (List.mem_of_getElem? (i := 123) rfl)))
theorem kC_454 : Cond.classLink RX7 65 "SkiHill$Lift" ∈ wC := List.mem_append_right _ (List.mem_append_right _ (List.mem_append_left _ (List.mem_of_getElem? (i := 124) rfl)))
theorem kC_455 : Cond.methodLink RX7 154 yJx4a65c_get_915e3 ∈ wC := List.mem_append_right _ (List.mem_append_right _ (List.mem_append_left _ (List.mem_of_getElem? (i := 125) rfl)))
theorem kC_456 : Cond.code yX7_liftAt cX7_liftAt 2 (some (.object "SkiHill$Lift")) ∈ wC := List.mem_append_right _ (List.mem_append_right _ (List.mem_append_left _ (List.mem_of_getElem? (i := 126) rfl)))
theorem kC_457 : Cond.fieldLink RX7 99 "SkiHill$Lift" "stopped" "Z" ∈ wC := List.mem_append_right _ (List.mem_append_right _ (List.mem_append_left _ (List.mem_of_getElem? (i := 127) rfl)))
theorem kC_458 : Cond.fieldLink RX7 103 "SkiHill" "windNow" "I" ∈ wC := List.mem_append_right _ (List.mem_append_right _ (List.mem_append_left _ (List.mem_of_getElem? (i := 128) rfl)))
theorem kC_459 : Cond.fieldLink RX7 106 "SkiHill$Lift" "mostWind" "I" ∈ wC := List.mem_append_right _ (List.mem_append_right _ (List.mem_append_left _ (List.mem_of_getElem? (i := 129) rfl)))
theorem kC_460 : Cond.code yX7_isRunning cX7_isRunning 2 (some .boolean) ∈ wC := List.mem_append_right _ (List.mem_append_right _ (List.mem_append_left _ (List.mem_of_getElem? (i := 130) rfl)))
theorem kC_461 : Cond.methodLink RX7 91 yX7_liftAt ∈ wC := List.mem_append_right _ (List.mem_append_right _ (List.mem_append_left _ (List.mem_of_getElem? (i := 131) rfl)))
theorem kC_462 : Cond.instanceMethod yX7_liftAt ∈ wC := List.mem_append_right _ (List.mem_append_right _ (List.mem_append_left _ (List.mem_of_getElem? (i := 132) rfl)))
theorem kC_463 : Cond.selects RX7 yX7_liftAt yX7_liftAt ∈ wC := List.mem_append_right _ (List.mem_append_right _ (List.mem_append_left _ (List.mem_of_getElem? (i := 133) rfl)))
theorem kC_464 : Cond.methodLink RX7 95 yX7_isRunning ∈ wC := List.mem_append_right _ (List.mem_append_right _ (List.mem_append_left _ (List.mem_of_getElem? (i := 134) rfl)))
theorem kC_465 : Cond.instanceMethod yX7_isRunning ∈ wC := List.mem_append_right _ (List.mem_append_right _ (List.mem_append_left _ (List.mem_of_getElem? (i := 135) rfl)))
theorem kC_466 : Cond.selects RX7 yX7_isRunning yX7_isRunning ∈ wC := List.mem_append_right _ (List.mem_append_right _ (List.mem_append_left _ (List.mem_of_getElem? (i := 136) rfl)))
theorem kC_467 : Cond.code yX7_runs cX7_runs 2 (some .boolean) ∈ wC := List.mem_append_right _ (List.mem_append_right _ (List.mem_append_left _ (List.mem_of_getElem? (i := 137) rfl)))
theorem kC_468 : Cond.code yX7_wind cX7_wind 2 none ∈ wC := List.mem_append_right _ (List.mem_append_right _ (List.mem_append_left _ (List.mem_of_getElem? (i := 138) rfl)))
theorem kC_469 : Cond.code yX7_stop cX7_stop 5 (some .boolean) ∈ wC := List.mem_append_right _ (List.mem_append_right _ (List.mem_append_left _ (List.mem_of_getElem? (i := 139) rfl)))
theorem kC_470 : Cond.classLink RX7 74 "SkiHill$Slope" ∈ wC := List.mem_append_right _ (List.mem_append_right _ (List.mem_append_left _ (List.mem_of_getElem? (i := 140) rfl)))
theorem kC_471 : Cond.code yX7_slopeAt cX7_slopeAt 2 (some (.object "SkiHill$Slope")) ∈ wC := List.mem_append_right _ (List.mem_append_right _ (List.mem_append_left _ (List.mem_of_getElem? (i := 141) rfl)))
theorem kC_472 : Cond.code yX7_hasBit cX7_hasBit 2 (some .boolean) ∈ wC := List.mem_append_right _ (List.mem_append_right _ (List.mem_append_left _ (List.mem_of_getElem? (i := 142) rfl)))
theorem kC_473 : Cond.fieldLink RX7 139 "SkiHill$Slope" "named" "I" ∈ wC := List.mem_append_right _ (List.mem_append_right _ (List.mem_append_left _ (List.mem_of_getElem? (i := 143) rfl)))
theorem kC_474 : Cond.fieldLink RX7 158 "SkiHill$Slope" "leans" "I" ∈ wC := List.mem_append_right _ (List.mem_append_right _ (List.mem_append_left _ (List.mem_of_getElem? (i := 144) rfl)))
theorem kC_475 : Cond.methodLink RX7 161 yX7_hasBit ∈ wC := List.mem_append_right _ (List.mem_append_right _ (List.mem_append_left _ (List.mem_of_getElem? (i := 145) rfl)))
theorem kC_476 : Cond.static yX7_hasBit ∈ wC := List.mem_append_right _ (List.mem_append_right _ (List.mem_append_left _ (List.mem_of_getElem? (i := 146) rfl)))
theorem kC_477 : Cond.code yX7_circleWith cX7_circleWith 6 (some .int) ∈ wC := List.mem_append_right _ (List.mem_append_right _ (List.mem_append_left _ (List.mem_of_getElem? (i := 147) rfl)))
theorem kC_478 : Cond.classLink RX7 133 "java/lang/IllegalStateException" ∈ wC := List.mem_append_right _ (List.mem_append_right _ (List.mem_append_left _ (List.mem_of_getElem? (i := 148) rfl)))
theorem kC_479 : Cond.initialized "java/lang/IllegalStateException" ∈ wC := List.mem_append_right _ (List.mem_append_right _ (List.mem_append_left _ (List.mem_of_getElem? (i := 149) rfl)))
theorem kC_480 : Cond.fieldLink RX7 117 "SkiHill$RuleReader" "wrongByte" "I" ∈ wC := List.mem_append_right _ (List.mem_append_right _ (List.mem_append_left _ (List.mem_of_getElem? (i := 150) rfl)))
theorem kC_481 : Cond.fieldLink RX7 120 "SkiHill" "faultSlopes" "I" ∈ wC := List.mem_append_right _ (List.mem_append_right _ (List.mem_append_left _ (List.mem_of_getElem? (i := 151) rfl)))
theorem kC_482 : Cond.fieldLink RX7 126 "SkiHill$RuleReader" "named" "I" ∈ wC := List.mem_append_right _ (List.mem_append_right _ (List.mem_append_left _ (List.mem_of_getElem? (i := 152) rfl)))
theorem kC_483 : Cond.fieldLink RX7 136 "SkiHill$Slope" "ruled" "Z" ∈ wC := List.mem_append_right _ (List.mem_append_right _ (List.mem_append_left _ (List.mem_of_getElem? (i := 153) rfl)))
theorem kC_484 : Cond.fieldLink RX7 144 "SkiHill$Slope" "code" "[I" ∈ wC := List.mem_append_right _ (List.mem_append_right _ (List.mem_append_left _ (List.mem_of_getElem? (i := 154) rfl)))
theorem kC_485 : Cond.methodLink RX7 109 yX7_slopeAt ∈ wC := List.mem_append_right _ (List.mem_append_right _ (List.mem_append_left _ (List.mem_of_getElem? (i := 155) rfl)))
theorem kC_486 : Cond.instanceMethod yX7_slopeAt ∈ wC := List.mem_append_right _ (List.mem_append_right _ (List.mem_append_left _ (List.mem_of_getElem? (i := 156) rfl)))
theorem kC_487 : Cond.selects RX7 yX7_slopeAt yX7_slopeAt ∈ wC := List.mem_append_right _ (List.mem_append_right _ (List.mem_append_left _ (List.mem_of_getElem? (i := 157) rfl)))
theorem kC_488 : Cond.methodLink RX7 113 yX5_takes ∈ wC := List.mem_append_right _ (List.mem_append_right _ (List.mem_append_left _ (List.mem_of_getElem? (i := 158) rfl)))
theorem kC_489 : Cond.instanceMethod yX5_takes ∈ wC := List.mem_append_right _ (List.mem_append_right _ (List.mem_append_left _ (List.mem_of_getElem? (i := 159) rfl)))
theorem kC_490 : Cond.selects RX5 yX5_takes yX5_takes ∈ wC := List.mem_append_right _ (List.mem_append_right _ (List.mem_append_left _ (List.mem_of_getElem? (i := 160) rfl)))
theorem kC_491 : Cond.methodLink RX7 129 yX7_circleWith ∈ wC := List.mem_append_right _ (List.mem_append_right _ (List.mem_append_left _ (List.mem_of_getElem? (i := 161) rfl)))
theorem kC_492 : Cond.instanceMethod yX7_circleWith ∈ wC := List.mem_append_right _ (List.mem_append_right _ (List.mem_append_left _ (List.mem_of_getElem? (i := 162) rfl)))
theorem kC_493 : Cond.selects RX7 yX7_circleWith yX7_circleWith ∈ wC := List.mem_append_right _ (List.mem_append_right _ (List.mem_append_left _ (List.mem_of_getElem? (i := 163) rfl)))
theorem kC_494 : Cond.methodLink RX7 140 yX5_codeCopy ∈ wC := List.mem_append_right _ (List.mem_append_right _ (List.mem_append_left _ (List.mem_of_getElem? (i := 164) rfl)))
theorem kC_495 : Cond.instanceMethod yX5_codeCopy ∈ wC := List.mem_append_right _ (List.mem_append_right _ (List.mem_append_left _ (List.mem_of_getElem? (i := 165) rfl)))
theorem kC_496 : Cond.selects RX5 yX5_codeCopy yX5_codeCopy ∈ wC := List.mem_append_right _ (List.mem_append_right _ (List.mem_append_left _ (List.mem_of_getElem? (i := 166) rfl)))
theorem kC_497 : Cond.methodLink RX7 148 yJ6_bitCount_0f7a4 ∈ wC := List.mem_append_right _ (List.mem_append_right _ (List.mem_append_left _ (List.mem_of_getElem? (i := 167) rfl)))
theorem kC_498 : Cond.static yJ6_bitCount_0f7a4 ∈ wC := List.mem_append_right _ (List.mem_append_right _ (List.mem_append_left _ (List.mem_of_getElem? (i := 168) rfl)))
theorem kC_499 : Cond.initialized RJ6 ∈ wC := List.mem_append_right _ (List.mem_append_right _ (List.mem_append_left _ (List.mem_of_getElem? (i := 169) rfl)))
theorem kC_500 : Cond.code yJ6_bitCount_0f7a4 cJ6_bitCount_0f7a4 1 (some .int) ∈ wC := List.mem_append_right _ (List.mem_append_right _ (List.mem_append_left _ (List.mem_of_getElem? (i := 170) rfl)))
theorem kC_501 : Cond.constant RJ6 265 (1431655765) ∈ wC := List.mem_append_right _ (List.mem_append_right _ (List.mem_append_left _ (List.mem_of_getElem? (i := 171) rfl)))
theorem kC_502 : Cond.constant RJ6 266 (858993459) ∈ wC := List.mem_append_right _ (List.mem_append_right _ (List.mem_append_left _ (List.mem_of_getElem? (i := 172) rfl)))
theorem kC_503 : Cond.constant RJ6 267 (252645135) ∈ wC := List.mem_append_right _ (List.mem_append_right _ (List.mem_append_left _ (List.mem_of_getElem? (i := 173) rfl)))
theorem kC_504 : Cond.code yX7_rule cX7_rule 5 (some .int) ∈ wC := List.mem_append_right _ (List.mem_append_right _ (List.mem_append_left _ (List.mem_of_getElem? (i := 174) rfl)))
theorem kC_505 : Cond.code yX7_unrule cX7_unrule 4 (some .boolean) ∈ wC := List.mem_append_right _ (List.mem_append_right _ (List.mem_append_left _ (List.mem_of_getElem? (i := 175) rfl)))
theorem kC_506 : Cond.code yX7_fault cX7_fault 2 (some .int) ∈ wC := List.mem_append_right _ (List.mem_append_right _ (List.mem_append_left _ (List.mem_of_getElem? (i := 176) rfl)))
theorem kC_507 : Cond.code yX7_compares cX7_compares 4 (some .boolean) ∈ wC := List.mem_append_right _ (List.mem_append_right _ (List.mem_append_left _ (List.mem_of_getElem? (i := 177) rfl)))
theorem kC_508 : Cond.constant RX7 176 (1048575) ∈ wC := List.mem_append_right _ (List.mem_append_right _ (List.mem_append_left _ (List.mem_of_getElem? (i := 178) rfl)))
theorem kC_509 : Cond.fieldLink RX7 187 "SkiHill" "minuteNow" "I" ∈ wC := List.mem_append_right _ (List.mem_append_right _ (List.mem_append_left _ (List.mem_of_getElem? (i := 179) rfl)))
theorem kC_510 : Cond.methodLink RX7 177 yX6_leastDepth ∈ wC := List.mem_append_right _ (List.mem_append_right _ (List.mem_append_left _ (List.mem_of_getElem? (i := 180) rfl)))
theorem kC_511 : Cond.instanceMethod yX6_leastDepth ∈ wC := List.mem_append_right _ (List.mem_append_right _ (List.mem_append_left _ (List.mem_of_getElem? (i := 181) rfl)))
theorem kC_512 : Cond.selects RX6 yX6_leastDepth yX6_leastDepth ∈ wC := List.mem_append_right _ (List.mem_append_right _ (List.mem_append_left _ (List.mem_of_getElem? (i := 182) rfl)))
theorem kC_513 : Cond.methodLink RX7 180 yX7_compares ∈ wC := List.mem_append_right _ (List.mem_append_right _ (List.mem_append_left _ (List.mem_of_getElem? (i := 183) rfl)))
theorem kC_514 : Cond.static yX7_compares ∈ wC := List.mem_append_right _ (List.mem_append_right _ (List.mem_append_left _ (List.mem_of_getElem? (i := 184) rfl)))
theorem kC_515 : Cond.methodLink RX7 184 yX6_mostWorn ∈ wC := List.mem_append_right _ (List.mem_append_right _ (List.mem_append_left _ (List.mem_of_getElem? (i := 185) rfl)))
theorem kC_516 : Cond.instanceMethod yX6_mostWorn ∈ wC := List.mem_append_right _ (List.mem_append_right _ (List.mem_append_left _ (List.mem_of_getElem? (i := 186) rfl)))
theorem kC_517 : Cond.selects RX6 yX6_mostWorn yX6_mostWorn ∈ wC := List.mem_append_right _ (List.mem_append_right _ (List.mem_append_left _ (List.mem_of_getElem? (i := 187) rfl)))
theorem kC_518 : Cond.code yX7_passes cX7_passes 5 (some .boolean) ∈ wC := List.mem_append_right _ (List.mem_append_right _ (List.mem_append_left _ (List.mem_of_getElem? (i := 188) rfl)))
theorem kC_519 : Cond.methodLink RX7 172 yX7_passes ∈ wC := List.mem_append_right _ (List.mem_append_right _ (List.mem_append_left _ (List.mem_of_getElem? (i := 189) rfl)))
theorem kC_520 : Cond.instanceMethod yX7_passes ∈ wC := List.mem_append_right _ (List.mem_append_right _ (List.mem_append_left _ (List.mem_of_getElem? (i := 190) rfl)))
theorem kC_521 : Cond.selects RX7 yX7_passes yX7_passes ∈ wC := List.mem_append_right _ (List.mem_append_right _ (List.mem_append_left _ (List.mem_of_getElem? (i := 191) rfl)))
theorem kC_522 : Cond.code yX7_holds cX7_holds 11 (some .boolean) ∈ wC := List.mem_append_right _ (List.mem_append_right _ (List.mem_append_left _ (List.mem_of_getElem? (i := 192) rfl)))
theorem kC_523 : Cond.methodLink RX7 168 yX7_holds ∈ wC := List.mem_append_right _ (List.mem_append_right _ (List.mem_append_left _ (List.mem_of_getElem? (i := 193) rfl)))
theorem kC_524 : Cond.instanceMethod yX7_holds ∈ wC := List.mem_append_right _ (List.mem_append_right _ (List.mem_append_left _ (List.mem_of_getElem? (i := 194) rfl)))
theorem kC_525 : Cond.selects RX7 yX7_holds yX7_holds ∈ wC := List.mem_append_right _ (List.mem_append_right _ (List.mem_append_left _ (List.mem_of_getElem? (i := 195) rfl)))
theorem kC_526 : Cond.code yX7_openSlopes cX7_openSlopes 7 (some .int) ∈ wC := List.mem_append_right _ (List.mem_append_right _ (List.mem_append_left _ (List.mem_of_getElem? (i := 196) rfl)))
theorem kC_527 : Cond.methodLink RX7 165 yX7_openSlopes ∈ wC := List.mem_append_right _ (List.mem_append_right _ (List.mem_append_left _ (List.mem_of_getElem? (i := 197) rfl)))
theorem kC_528 : Cond.instanceMethod yX7_openSlopes ∈ wC := List.mem_append_right _ (List.mem_append_right _ (List.mem_append_left _ (List.mem_of_getElem? (i := 198) rfl)))
theorem kC_529 : Cond.selects RX7 yX7_openSlopes yX7_openSlopes ∈ wC := List.mem_append_right _ (List.mem_append_right _ (List.mem_append_left _ (List.mem_of_getElem? (i := 199) rfl)))
theorem kC_530 : Cond.code yX7_open cX7_open 3 (some .boolean) ∈ wC := List.mem_append_right _ (List.mem_append_right _ (List.mem_append_left _ (List.mem_of_getElem? (i := 200) rfl)))
theorem kC_531 : Cond.classLink RX7 190 RX2 ∈ wC := List.mem_append_right _ (List.mem_append_right _ (List.mem_append_left _ (List.mem_of_getElem? (i := 201) rfl)))
theorem kC_532 : Cond.instantiable RX2 9 ∈ wC := List.mem_append_right _ (List.mem_append_right _ (List.mem_append_left _ (List.mem_of_getElem? (i := 202) rfl)))
theorem kC_533 : Cond.methodLink RX7 192 yX2_init ∈ wC := List.mem_append_right _ (List.mem_append_right _ (List.mem_append_left _ (List.mem_of_getElem? (i := 203) rfl)))
theorem kC_534 : Cond.instanceMethod yX2_init ∈ wC := List.mem_append_right _ (List.mem_append_right _ (List.mem_append_left _ (List.mem_of_getElem? (i := 204) rfl)))
theorem kC_535 : Cond.code yX7_group cX7_group 5 (some .int) ∈ wC := List.mem_append_right _ (List.mem_append_right _ (List.mem_append_left _ (List.mem_of_getElem? (i := 205) rfl)))
theorem kC_536 : Cond.fieldLink RX7 242 "SkiHill$Slope" "from" "I" ∈ wC := List.mem_append_right _ (List.mem_append_right _ (List.mem_append_left _ (List.mem_of_getElem? (i := 206) rfl)))
theorem kC_537 : Cond.fieldLink RX7 245 "SkiHill$Group" "where" "I" ∈ wC := List.mem_append_right _ (List.mem_append_right _ (List.mem_append_left _ (List.mem_of_getElem? (i := 207) rfl)))
theorem kC_538 : Cond.fieldLink RX7 248 "SkiHill$Slope" "steep" "I" ∈ wC := List.mem_append_right _ (List.mem_append_right _ (List.mem_append_left _ (List.mem_of_getElem? (i := 208) rfl)))
theorem kC_539 : Cond.fieldLink RX7 251 "SkiHill$Group" "skill" "I" ∈ wC := List.mem_append_right _ (List.mem_append_right _ (List.mem_append_left _ (List.mem_of_getElem? (i := 209) rfl)))
theorem kC_540 : Cond.code yX7_slopeFor cX7_slopeFor 7 (some (.object "SkiHill$Slope")) ∈ wC := List.mem_append_right _ (List.mem_append_right _ (List.mem_append_left _ (List.mem_of_getElem? (i := 210) rfl)))
theorem kC_541 : Cond.fieldLink RX7 254 "SkiHill$Lift" "from" "I" ∈ wC := List.mem_append_right _ (List.mem_append_right _ (List.mem_append_left _ (List.mem_of_getElem? (i := 211) rfl)))
theorem kC_542 : Cond.fieldLink RX7 255 "SkiHill$Lift" "waiting" "I" ∈ wC := List.mem_append_right _ (List.mem_append_right _ (List.mem_append_left _ (List.mem_of_getElem? (i := 212) rfl)))
theorem kC_543 : Cond.code yX7_liftFor cX7_liftFor 6 (some (.object "SkiHill$Lift")) ∈ wC := List.mem_append_right _ (List.mem_append_right _ (List.mem_append_left _ (List.mem_of_getElem? (i := 213) rfl)))
theorem kC_544 : Cond.fieldLink RX7 221 "SkiHill" "snowWorn" "J" ∈ wC := List.mem_append_right _ (List.mem_append_right _ (List.mem_append_left _ (List.mem_of_getElem? (i := 214) rfl)))
theorem kC_545 : Cond.fieldLink RX7 225 "SkiHill$Group" "size" "I" ∈ wC := List.mem_append_right _ (List.mem_append_right _ (List.mem_append_left _ (List.mem_of_getElem? (i := 215) rfl)))
theorem kC_546 : Cond.methodLink RX7 214 yX7_slopeFor ∈ wC := List.mem_append_right _ (List.mem_append_right _ (List.mem_append_left _ (List.mem_of_getElem? (i := 216) rfl)))
theorem kC_547 : Cond.instanceMethod yX7_slopeFor ∈ wC := List.mem_append_right _ (List.mem_append_right _ (List.mem_append_left _ (List.mem_of_getElem? (i := 217) rfl)))
theorem kC_548 : Cond.selects RX7 yX7_slopeFor yX7_slopeFor ∈ wC := List.mem_append_right _ (List.mem_append_right _ (List.mem_append_left _ (List.mem_of_getElem? (i := 218) rfl)))
theorem kC_549 : Cond.methodLink RX7 218 yX2_goDown ∈ wC := List.mem_append_right _ (List.mem_append_right _ (List.mem_append_left _ (List.mem_of_getElem? (i := 219) rfl)))
theorem kC_550 : Cond.instanceMethod yX2_goDown ∈ wC := List.mem_append_right _ (List.mem_append_right _ (List.mem_append_left _ (List.mem_of_getElem? (i := 220) rfl)))
theorem kC_551 : Cond.selects RX2 yX2_goDown yX2_goDown ∈ wC := List.mem_append_right _ (List.mem_append_right _ (List.mem_append_left _ (List.mem_of_getElem? (i := 221) rfl)))
theorem kC_552 : Cond.methodLink RX7 227 yX6_wear ∈ wC := List.mem_append_right _ (List.mem_append_right _ (List.mem_append_left _ (List.mem_of_getElem? (i := 222) rfl)))
theorem kC_553 : Cond.instanceMethod yX6_wear ∈ wC := List.mem_append_right _ (List.mem_append_right _ (List.mem_append_left _ (List.mem_of_getElem? (i := 223) rfl)))
theorem kC_554 : Cond.selects RX6 yX6_wear yX6_wear ∈ wC := List.mem_append_right _ (List.mem_append_right _ (List.mem_append_left _ (List.mem_of_getElem? (i := 224) rfl)))
theorem kC_555 : Cond.methodLink RX7 230 yX7_liftFor ∈ wC := List.mem_append_right _ (List.mem_append_right _ (List.mem_append_left _ (List.mem_of_getElem? (i := 225) rfl)))
theorem kC_556 : Cond.instanceMethod yX7_liftFor ∈ wC := List.mem_append_right _ (List.mem_append_right _ (List.mem_append_left _ (List.mem_of_getElem? (i := 226) rfl)))
theorem kC_557 : Cond.selects RX7 yX7_liftFor yX7_liftFor ∈ wC := List.mem_append_right _ (List.mem_append_right _ (List.mem_append_left _ (List.mem_of_getElem? (i := 227) rfl)))
theorem kC_558 : Cond.methodLink RX7 234 yX2_waitAt ∈ wC := List.mem_append_right _ (List.mem_append_right _ (List.mem_append_left _ (List.mem_of_getElem? (i := 228) rfl)))
theorem kC_559 : Cond.instanceMethod yX2_waitAt ∈ wC := List.mem_append_right _ (List.mem_append_right _ (List.mem_append_left _ (List.mem_of_getElem? (i := 229) rfl)))
theorem kC_560 : Cond.selects RX2 yX2_waitAt yX2_waitAt ∈ wC := List.mem_append_right _ (List.mem_append_right _ (List.mem_append_left _ (List.mem_of_getElem? (i := 230) rfl)))
theorem kC_561 : Cond.methodLink RX7 238 yX3_takeLast ∈ wC := List.mem_append_right _ (List.mem_append_right _ (List.mem_append_left _ (List.mem_of_getElem? (i := 231) rfl)))
theorem kC_562 : Cond.instanceMethod yX3_takeLast ∈ wC := List.mem_append_right _ (List.mem_append_right _ (List.mem_append_left _ (List.mem_of_getElem? (i := 232) rfl)))
theorem kC_563 : Cond.selects RX3 yX3_takeLast yX3_takeLast ∈ wC := List.mem_append_right _ (List.mem_append_right _ (List.mem_append_left _ (List.mem_of_getElem? (i := 233) rfl)))
theorem kC_564 : Cond.code yX7_send cX7_send 5 none ∈ wC := List.mem_append_right _ (List.mem_append_right _ (List.mem_append_left _ (List.mem_of_getElem? (i := 234) rfl)))
theorem kC_565 : Cond.classLink RX7 190 "SkiHill$Group" ∈ wC := List.mem_append_right _ (List.mem_append_right _ (List.mem_append_left _ (List.mem_of_getElem? (i := 235) rfl)))
theorem kC_566 : Cond.fieldLink RX7 201 "SkiHill$Group" "state" "I" ∈ wC := List.mem_append_right _ (List.mem_append_right _ (List.mem_append_left _ (List.mem_of_getElem? (i := 236) rfl)))
theorem kC_567 : Cond.methodLink RX7 210 yX7_send ∈ wC := List.mem_append_right _ (List.mem_append_right _ (List.mem_append_left _ (List.mem_of_getElem? (i := 237) rfl)))
theorem kC_568 : Cond.instanceMethod yX7_send ∈ wC := List.mem_append_right _ (List.mem_append_right _ (List.mem_append_left _ (List.mem_of_getElem? (i := 238) rfl)))
theorem kC_569 : Cond.selects RX7 yX7_send yX7_send ∈ wC := List.mem_append_right _ (List.mem_append_right _ (List.mem_append_left _ (List.mem_of_getElem? (i := 239) rfl)))
theorem kC_570 : Cond.code yX7_sendFree cX7_sendFree 3 none ∈ wC := List.mem_append_right _ (List.mem_append_right _ (List.mem_append_left _ (List.mem_of_getElem? (i := 240) rfl)))
theorem kC_571 : Cond.methodLink RX7 198 yX2_goOn ∈ wC := List.mem_append_right _ (List.mem_append_right _ (List.mem_append_left _ (List.mem_of_getElem? (i := 241) rfl)))
theorem kC_572 : Cond.instanceMethod yX2_goOn ∈ wC := List.mem_append_right _ (List.mem_append_right _ (List.mem_append_left _ (List.mem_of_getElem? (i := 242) rfl)))
theorem kC_573 : Cond.selects RX2 yX2_goOn yX2_goOn ∈ wC := List.mem_append_right _ (List.mem_append_right _ (List.mem_append_left _ (List.mem_of_getElem? (i := 243) rfl)))
theorem kC_574 : Cond.methodLink RX7 204 yX7_sendFree ∈ wC := List.mem_append_right _ (List.mem_append_right _ (List.mem_append_left _ (List.mem_of_getElem? (i := 244) rfl)))
theorem kC_575 : Cond.instanceMethod yX7_sendFree ∈ wC := List.mem_append_right _ (List.mem_append_right _ (List.mem_append_left _ (List.mem_of_getElem? (i := 245) rfl)))
theorem kC_576 : Cond.selects RX7 yX7_sendFree yX7_sendFree ∈ wC := List.mem_append_right _ (List.mem_append_right _ (List.mem_append_left _ (List.mem_of_getElem? (i := 246) rfl)))
theorem kC_577 : Cond.methodLink RX7 207 yX3_fill ∈ wC := List.mem_append_right _ (List.mem_append_right _ (List.mem_append_left _ (List.mem_of_getElem? (i := 247) rfl)))
theorem kC_578 : Cond.instanceMethod yX3_fill ∈ wC := List.mem_append_right _ (List.mem_append_right _ (List.mem_append_left _ (List.mem_of_getElem? (i := 248) rfl)))
theorem kC_579 : Cond.selects RX3 yX3_fill yX3_fill ∈ wC := List.mem_append_right _ (List.mem_append_right _ (List.mem_append_left _ (List.mem_of_getElem? (i := 249) rfl)))
theorem kC_580 : Cond.code yX7_passMinute cX7_passMinute 4 none ∈ wC := List.mem_append_right _ (List.mem_append_right _ (List.mem_append_left _ (List.mem_of_getElem? (i := 250) rfl)))
theorem kC_581 : Cond.methodLink RX7 195 yX7_passMinute ∈ wC := List.mem_append_right _ (List.mem_append_right _ (List.mem_append_left _ (List.mem_of_getElem? (i := 251) rfl)))
theorem kC_582 : Cond.instanceMethod yX7_passMinute ∈ wC := List.mem_append_right _ (List.mem_append_right _ (List.mem_append_left _ (List.mem_of_getElem? (i := 252) rfl)))
theorem kC_583 : Cond.selects RX7 yX7_passMinute yX7_passMinute ∈ wC := List.mem_append_right _ (List.mem_append_right _ (List.mem_append_left _ (List.mem_of_getElem? (i := 253) rfl)))
theorem kC_584 : Cond.code yX7_step cX7_step 3 (some .int) ∈ wC := List.mem_append_right _ (List.mem_append_right _ (List.mem_append_left _ (List.mem_of_getElem? (i := 254) rfl)))
theorem kC_585 : Cond.classLink RX7 270 "java/util/NoSuchElementException" ∈ wC := List.mem_append_right _ (List.mem_append_right _ (List.mem_append_left _ (List.mem_of_getElem? (i := 255) rfl)))
theorem kC_586 : Cond.initialized "java/util/NoSuchElementException" ∈ wC := List.mem_append_right _ (List.mem_append_right _ (List.mem_append_left _ (List.mem_of_getElem? (i := 256) rfl)))
theorem kC_587 : Cond.fieldLink RX7 261 "SkiHill$Group" "toGo" "I" ∈ wC := List.mem_append_right _ (List.mem_append_right _ (List.mem_append_left _ (List.mem_of_getElem? (i := 257) rfl)))
theorem kC_588 : Cond.fieldLink RX7 264 "SkiHill$Group" "rides" "I" ∈ wC := List.mem_append_right _ (List.mem_append_right _ (List.mem_append_left _ (List.mem_of_getElem? (i := 258) rfl)))
theorem kC_589 : Cond.fieldLink RX7 267 "SkiHill$Group" "descents" "I" ∈ wC := List.mem_append_right _ (List.mem_append_right _ (List.mem_append_left _ (List.mem_of_getElem? (i := 259) rfl)))
theorem kC_590 : Cond.code yX7_look cX7_look 4 (some .int) ∈ wC := List.mem_append_right _ (List.mem_append_right _ (List.mem_append_left _ (List.mem_of_getElem? (i := 260) rfl)))
theorem kC_591 : Cond.fieldLink RX7 273 "SkiHill$Lift" "row" "Ljava/util/ArrayList;" ∈ wC := List.mem_append_right _ (List.mem_append_right _ (List.mem_append_left _ (List.mem_of_getElem? (i := 261) rfl)))
theorem kC_592 : Cond.fieldLink RX7 276 "SkiHill$Group" "number" "I" ∈ wC := List.mem_append_right _ (List.mem_append_right _ (List.mem_append_left _ (List.mem_of_getElem? (i := 262) rfl)))
theorem kC_593 : Cond.code yX7_row cX7_row 4 (some .int) ∈ wC := List.mem_append_right _ (List.mem_append_right _ (List.mem_append_left _ (List.mem_of_getElem? (i := 263) rfl)))
theorem kC_594 : Cond.code yX7_people cX7_people 4 (some .int) ∈ wC := List.mem_append_right _ (List.mem_append_right _ (List.mem_append_left _ (List.mem_of_getElem? (i := 264) rfl)))
theorem kC_595 : Cond.classLink RX7 83 "SkiHill$Cell" ∈ wC := List.mem_append_right _ (List.mem_append_right _ (List.mem_append_left _ (List.mem_of_getElem? (i := 265) rfl)))
theorem kC_596 : Cond.code yX7_cellAt cX7_cellAt 2 (some (.object "SkiHill$Cell")) ∈ wC := List.mem_append_right _ (List.mem_append_right _ (List.mem_append_left _ (List.mem_of_getElem? (i := 266) rfl)))
theorem kC_597 : Cond.constant RX7 281 (100000) ∈ wC := List.mem_append_right _ (List.mem_append_right _ (List.mem_append_left _ (List.mem_of_getElem? (i := 267) rfl)))
theorem kC_598 : Cond.fieldLink RX7 282 "SkiHill" "snowMade" "J" ∈ wC := List.mem_append_right _ (List.mem_append_right _ (List.mem_append_left _ (List.mem_of_getElem? (i := 268) rfl)))
theorem kC_599 : Cond.fieldLink RX7 285 "SkiHill$Cell" "snow" "[I" ∈ wC := List.mem_append_right _ (List.mem_append_right _ (List.mem_append_left _ (List.mem_of_getElem? (i := 269) rfl)))
theorem kC_600 : Cond.fieldLink RX7 288 "SkiHill" "snowFallen" "J" ∈ wC := List.mem_append_right _ (List.mem_append_right _ (List.mem_append_left _ (List.mem_of_getElem? (i := 270) rfl)))
theorem kC_601 : Cond.methodLink RX7 277 yX7_cellAt ∈ wC := List.mem_append_right _ (List.mem_append_right _ (List.mem_append_left _ (List.mem_of_getElem? (i := 271) rfl)))
theorem kC_602 : Cond.instanceMethod yX7_cellAt ∈ wC := List.mem_append_right _ (List.mem_append_right _ (List.mem_append_left _ (List.mem_of_getElem? (i := 272) rfl)))
theorem kC_603 : Cond.selects RX7 yX7_cellAt yX7_cellAt ∈ wC := List.mem_append_right _ (List.mem_append_right _ (List.mem_append_left _ (List.mem_of_getElem? (i := 273) rfl)))
theorem kC_604 : Cond.methodLink RX7 291 yX1_depth ∈ wC := List.mem_append_right _ (List.mem_append_right _ (List.mem_append_left _ (List.mem_of_getElem? (i := 274) rfl)))
theorem kC_605 : Cond.code yX7_snow cX7_snow 5 (some .int) ∈ wC := List.mem_append_right _ (List.mem_append_right _ (List.mem_append_left _ (List.mem_of_getElem? (i := 275) rfl)))
theorem kC_606 : Cond.constant RX7 294 (1000000) ∈ wC := List.mem_append_right _ (List.mem_append_right _ (List.mem_append_left _ (List.mem_of_getElem? (i := 276) rfl)))
theorem kC_607 : Cond.fieldLink RX7 298 "SkiHill" "snowMelted" "J" ∈ wC := List.mem_append_right _ (List.mem_append_right _ (List.mem_append_left _ (List.mem_of_getElem? (i := 277) rfl)))
theorem kC_608 : Cond.methodLink RX7 295 yX1_lose ∈ wC := List.mem_append_right _ (List.mem_append_right _ (List.mem_append_left _ (List.mem_of_getElem? (i := 278) rfl)))
theorem kC_609 : Cond.instanceMethod yX1_lose ∈ wC := List.mem_append_right _ (List.mem_append_right _ (List.mem_append_left _ (List.mem_of_getElem? (i := 279) rfl)))
theorem kC_610 : Cond.selects RX1 yX1_lose yX1_lose ∈ wC := List.mem_append_right _ (List.mem_append_right _ (List.mem_append_left _ (List.mem_of_getElem? (i := 280) rfl)))
theorem kC_611 : Cond.code yX7_melt cX7_melt 5 (some .int) ∈ wC := List.mem_append_right _ (List.mem_append_right _ (List.mem_append_left _ (List.mem_of_getElem? (i := 281) rfl)))
theorem kC_612 : Cond.methodLink RX7 301 yX1_becomePushed ∈ wC := List.mem_append_right _ (List.mem_append_right _ (List.mem_append_left _ (List.mem_of_getElem? (i := 282) rfl)))
theorem kC_613 : Cond.instanceMethod yX1_becomePushed ∈ wC := List.mem_append_right _ (List.mem_append_right _ (List.mem_append_left _ (List.mem_of_getElem? (i := 283) rfl)))
theorem kC_614 : Cond.selects RX1 yX1_becomePushed yX1_becomePushed ∈ wC := List.mem_append_right _ (List.mem_append_right _ (List.mem_append_left _ (List.mem_of_getElem? (i := 284) rfl)))
theorem kC_615 : Cond.code yX7_push cX7_push 2 (some .int) ∈ wC := List.mem_append_right _ (List.mem_append_right _ (List.mem_append_left _ (List.mem_of_getElem? (i := 285) rfl)))
theorem kC_616 : Cond.fieldLink RX7 304 "SkiHill$Cell" "slope" "I" ∈ wC := List.mem_append_right _ (List.mem_append_right _ (List.mem_append_left _ (List.mem_of_getElem? (i := 286) rfl)))
theorem kC_617 : Cond.fieldLink RX7 307 "SkiHill$Cell" "want" "I" ∈ wC := List.mem_append_right _ (List.mem_append_right _ (List.mem_append_left _ (List.mem_of_getElem? (i := 287) rfl)))
theorem kC_618 : Cond.fieldLink RX7 310 "SkiHill$Cell" "price" "I" ∈ wC := List.mem_append_right _ (List.mem_append_right _ (List.mem_append_left _ (List.mem_of_getElem? (i := 288) rfl)))
theorem kC_619 : Cond.code yX7_cell cX7_cell 4 (some .int) ∈ wC := List.mem_append_right _ (List.mem_append_right _ (List.mem_append_left _ (List.mem_of_getElem? (i := 289) rfl)))
theorem kC_620 : Cond.classLink RX7 313 RX4 ∈ wC := List.mem_append_right _ (List.mem_append_right _ (List.mem_append_left _ (List.mem_of_getElem? (i := 290) rfl)))
theorem kC_621 : Cond.instantiable RX4 4 ∈ wC := List.mem_append_right _ (List.mem_append_right _ (List.mem_append_left _ (List.mem_of_getElem? (i := 291) rfl)))
theorem kC_622 : Cond.methodLink RX7 315 yX4_init ∈ wC := List.mem_append_right _ (List.mem_append_right _ (List.mem_append_left _ (List.mem_of_getElem? (i := 292) rfl)))
theorem kC_623 : Cond.instanceMethod yX4_init ∈ wC := List.mem_append_right _ (List.mem_append_right _ (List.mem_append_left _ (List.mem_of_getElem? (i := 293) rfl)))
theorem kC_624 : Cond.code yX7_link cX7_link 6 (some .int) ∈ wC := List.mem_append_right _ (List.mem_append_right _ (List.mem_append_left _ (List.mem_of_getElem? (i := 294) rfl)))
theorem kC_625 : Cond.code yX7_want cX7_want 4 none ∈ wC := List.mem_append_right _ (List.mem_append_right _ (List.mem_append_left _ (List.mem_of_getElem? (i := 295) rfl)))
theorem kC_626 : Cond.methodLink RX7 318 yX0_leastSum ∈ wC := List.mem_append_right _ (List.mem_append_right _ (List.mem_append_left _ (List.mem_of_getElem? (i := 296) rfl)))
theorem kC_627 : Cond.static yX0_leastSum ∈ wC := List.mem_append_right _ (List.mem_append_right _ (List.mem_append_left _ (List.mem_of_getElem? (i := 297) rfl)))
theorem kC_628 : Cond.code yX7_least cX7_least 1 (some .long) ∈ wC := List.mem_append_right _ (List.mem_append_right _ (List.mem_append_left _ (List.mem_of_getElem? (i := 298) rfl)))
theorem kC_629 : Cond.code yX7_price cX7_price 4 none ∈ wC := List.mem_append_right _ (List.mem_append_right _ (List.mem_append_left _ (List.mem_of_getElem? (i := 299) rfl)))
theorem kC_630 : Cond.classLink RX7 313 "SkiHill$Link" ∈ wC := List.mem_append_right _ (List.mem_append_right _ (List.mem_append_left _ (List.mem_of_getElem? (i := 300) rfl)))
theorem kC_631 : Cond.methodLink RX7 324 yX4_takesPrices ∈ wC := List.mem_append_right _ (List.mem_append_right _ (List.mem_append_left _ (List.mem_of_getElem? (i := 301) rfl)))
theorem kC_632 : Cond.instanceMethod yX4_takesPrices ∈ wC := List.mem_append_right _ (List.mem_append_right _ (List.mem_append_left _ (List.mem_of_getElem? (i := 302) rfl)))
theorem kC_633 : Cond.selects RX4 yX4_takesPrices yX4_takesPrices ∈ wC := List.mem_append_right _ (List.mem_append_right _ (List.mem_append_left _ (List.mem_of_getElem? (i := 303) rfl)))
theorem kC_634 : Cond.methodLink RX7 328 yX1_priceTells ∈ wC := List.mem_append_right _ (List.mem_append_right _ (List.mem_append_left _ (List.mem_of_getElem? (i := 304) rfl)))
theorem kC_635 : Cond.instanceMethod yX1_priceTells ∈ wC := List.mem_append_right _ (List.mem_append_right _ (List.mem_append_left _ (List.mem_of_getElem? (i := 305) rfl)))
theorem kC_636 : Cond.selects RX1 yX1_priceTells yX1_priceTells ∈ wC := List.mem_append_right _ (List.mem_append_right _ (List.mem_append_left _ (List.mem_of_getElem? (i := 306) rfl)))
theorem kC_637 : Cond.code yX7_judge cX7_judge 4 (some .long) ∈ wC := List.mem_append_right _ (List.mem_append_right _ (List.mem_append_left _ (List.mem_of_getElem? (i := 307) rfl)))
theorem kC_638 : Cond.code yX7_snowThere cX7_snowThere 4 (some .long) ∈ wC := List.mem_append_right _ (List.mem_append_right _ (List.mem_append_left _ (List.mem_of_getElem? (i := 308) rfl)))
theorem kC_639 : Cond.constantLong RX7 335 (-1) ∈ wC := List.mem_append_right _ (List.mem_append_right _ (List.mem_append_left _ (List.mem_of_getElem? (i := 309) rfl)))
theorem kC_640 : Cond.methodLink RX7 332 yX7_snowThere ∈ wC := List.mem_append_right _ (List.mem_append_right _ (List.mem_append_left _ (List.mem_of_getElem? (i := 310) rfl)))
theorem kC_641 : Cond.instanceMethod yX7_snowThere ∈ wC := List.mem_append_right _ (List.mem_append_right _ (List.mem_append_left _ (List.mem_of_getElem? (i := 311) rfl)))
theorem kC_642 : Cond.selects RX7 yX7_snowThere yX7_snowThere ∈ wC := List.mem_append_right _ (List.mem_append_right _ (List.mem_append_left _ (List.mem_of_getElem? (i := 312) rfl)))
theorem kC_643 : Cond.code yX7_count cX7_count 2 (some .long) ∈ wC := List.mem_append_right _ (List.mem_append_right _ (List.mem_append_left _ (List.mem_of_getElem? (i := 313) rfl)))
theorem kC_S : ∀ w ∈ wSl, w ∈ wC := fun w h => List.mem_append_left _ h
theorem kC_X0 : ∀ w ∈ wsJx4a65c0, w ∈ wC := fun w h => List.mem_append_right _ (List.mem_append_right _ (List.mem_append_right _ (List.mem_append_left _ h)))
theorem kC_X1 : ∀ w ∈ wsX10, w ∈ wC := fun w h => List.mem_append_right _ (List.mem_append_right _ (List.mem_append_right _ (List.mem_append_right _ (List.mem_append_left _ h))))
theorem kC_X2 : ∀ w ∈ wsX20, w ∈ wC := fun w h => List.mem_append_right _ (List.mem_append_right _ (List.mem_append_right _ (List.mem_append_right _ (List.mem_append_right _ (List.mem_append_left _ h)))))
theorem kC_X3 : ∀ w ∈ wsX30, w ∈ wC := fun w h => List.mem_append_right _ (List.mem_append_right _ (List.mem_append_right _ (List.mem_append_right _ (List.mem_append_right _ (List.mem_append_right _ (List.mem_append_left _ h))))))
theorem kC_X4 : ∀ w ∈ wsX40, w ∈ wC := fun w h => List.mem_append_right _ (List.mem_append_right _ (List.mem_append_right _ (List.mem_append_right _ (List.mem_append_right _ (List.mem_append_right _ (List.mem_append_right _ (List.mem_append_left _ h)))))))
theorem kC_X5 : ∀ w ∈ wsX50, w ∈ wC := fun w h => List.mem_append_right _ (List.mem_append_right _ (List.mem_append_right _ (List.mem_append_right _ (List.mem_append_right _ (List.mem_append_right _ (List.mem_append_right _ (List.mem_append_right _ (List.mem_append_left _ h))))))))
theorem kC_X6 : ∀ w ∈ wsX60, w ∈ wC := fun w h => List.mem_append_right _ (List.mem_append_right _ (List.mem_append_right _ (List.mem_append_right _ (List.mem_append_right _ (List.mem_append_right _ (List.mem_append_right _ (List.mem_append_right _ (List.mem_append_right _ (List.mem_append_left _ h)))))))))
theorem kC_X7 : ∀ w ∈ wsX70, w ∈ wC := fun w h => List.mem_append_right _ (List.mem_append_right _ (List.mem_append_right _ (List.mem_append_right _ (List.mem_append_right _ (List.mem_append_right _ (List.mem_append_right _ (List.mem_append_right _ (List.mem_append_right _ (List.mem_append_right _ (List.mem_append_left _ h))))))))))
theorem kC_E0 : ∀ w ∈ (cX0 "java/lang/IndexOutOfBoundsException" 260).filter goodWord, w ∈ wC := fun w h => List.mem_append_right _ (List.mem_append_right _ (List.mem_append_right _ (List.mem_append_right _ (List.mem_append_right _ (List.mem_append_right _ (List.mem_append_right _ (List.mem_append_right _ (List.mem_append_right _ (List.mem_append_right _ (List.mem_append_right _ (List.mem_append_left _ h)))))))))))
theorem kC_E1 : ∀ w ∈ (cX0 "java/lang/IllegalArgumentException" 125).filter goodWord, w ∈ wC := fun w h => List.mem_append_right _ (List.mem_append_right _ (List.mem_append_right _ (List.mem_append_right _ (List.mem_append_right _ (List.mem_append_right _ (List.mem_append_right _ (List.mem_append_right _ (List.mem_append_right _ (List.mem_append_right _ (List.mem_append_right _ (List.mem_append_right _ (List.mem_append_left _ h))))))))))))
theorem kC_E2 : ∀ w ∈ (cX0 "java/lang/UnsupportedOperationException" 339).filter goodWord, w ∈ wC := fun w h => List.mem_append_right _ (List.mem_append_right _ (List.mem_append_right _ (List.mem_append_right _ (List.mem_append_right _ (List.mem_append_right _ (List.mem_append_right _ (List.mem_append_right _ (List.mem_append_right _ (List.mem_append_right _ (List.mem_append_right _ (List.mem_append_right _ (List.mem_append_right _ (List.mem_append_left _ h)))))))))))))
theorem kC_E3 : ∀ w ∈ (cX0 "java/lang/IllegalStateException" 135).filter goodWord, w ∈ wC := fun w h => List.mem_append_right _ (List.mem_append_right _ (List.mem_append_right _ (List.mem_append_right _ (List.mem_append_right _ (List.mem_append_right _ (List.mem_append_right _ (List.mem_append_right _ (List.mem_append_right _ (List.mem_append_right _ (List.mem_append_right _ (List.mem_append_right _ (List.mem_append_right _ (List.mem_append_right _ (List.mem_append_left _ h))))))))))))))
theorem kC_E4 : ∀ w ∈ (cX0 "java/util/NoSuchElementException" 272).filter goodWord, w ∈ wC := fun w h => List.mem_append_right _ (List.mem_append_right _ (List.mem_append_right _ (List.mem_append_right _ (List.mem_append_right _ (List.mem_append_right _ (List.mem_append_right _ (List.mem_append_right _ (List.mem_append_right _ (List.mem_append_right _ (List.mem_append_right _ (List.mem_append_right _ (List.mem_append_right _ (List.mem_append_right _ (List.mem_append_right _ h))))))))))))))
set_option maxRecDepth 20000 in
theorem kC_good : GoodIn wC wC := goodIn_sub (fun _ h => h) (by decide +kernel)
def cNg : List Cond := (cX0 "java/lang/IndexOutOfBoundsException" 260).filter (fun w => !goodWord w) ++ (cX0 "java/lang/IllegalArgumentException" 125).filter (fun w => !goodWord w) ++ (cX0 "java/lang/UnsupportedOperationException" 339).filter (fun w => !goodWord w) ++ (cX0 "java/lang/IllegalStateException" 135).filter (fun w => !goodWord w) ++ (cX0 "java/util/NoSuchElementException" 272).filter (fun w => !goodWord w) ++ [.castable "SkiHill$Cell" "SkiHill$Cell", .castable "SkiHill$Group" "SkiHill$Group", .castable "SkiHill$Lift" "SkiHill$Lift", .castable "SkiHill$Link" "SkiHill$Link", .castable "SkiHill$Slope" "SkiHill$Slope", .castable "SkiHill$Cell" "java/lang/Object", .castable "SkiHill$Group" "java/lang/Object", .castable "SkiHill$Lift" "java/lang/Object", .castable "SkiHill$Link" "java/lang/Object", .castable "SkiHill$Slope" "java/lang/Object", .declares ⟨"java/lang/Object", "getClass", "()Ljava/lang/Class;"⟩, .methodLinkNest RX7 30 yX5_init RX7]
def cCd : Cond → Bool
  | .castable _ _ => true
  | .declares _ => true
  | .methodLinkNest _ _ _ _ => true
  | _ => false
theorem cNg_cd : ∀ w ∈ cNg, cCd w = true := by
  have h : cNg.all cCd = true := by decide +kernel
  exact fun w hw => List.all_eq_true.mp h w hw
theorem cCd_warm {w : Cond} (hc : cCd w = true) {s U : State} (hW : s.WarmedH U.vm) (h : va_Nw w s) : va_Nw w U := by
  cases w <;> first | exact va_Nw.warmC hW h | exact va_Nw.warmD hW h | exact va_Nw.warmM hW h | (exact absurd (show false = true from hc) Bool.false_ne_true)
theorem cCd_same {w : Cond} (hc : cCd w = true) {s U : State} (hv : s.vm = U.vm) (h : va_Nw w s) : va_Nw w U := by
  cases w <;> first | exact va_Nw.same rfl hv h | (exact absurd (show false = true from hc) Bool.false_ne_true)
abbrev CSt : Type := (List Nat) × (Nat → Nat) × (Nat → Nat → Int32) × (Nat → Nat → Option Nat) × (Nat → Nat → Int64) × (Nat → Nat) × (Nat → Nat → Int32) × (Nat → Nat → Option Nat) × (Nat × Nat)
def cL (σ : CSt) : List Nat := σ.1
def cK (σ : CSt) : Nat → Nat := σ.2.1
def cI (σ : CSt) : Nat → Nat → Int32 := σ.2.2.1
def cR (σ : CSt) : Nat → Nat → Option Nat := σ.2.2.2.1
def cJ (σ : CSt) : Nat → Nat → Int64 := σ.2.2.2.2.1
def cN (σ : CSt) : Nat → Nat := σ.2.2.2.2.2.1
def cV (σ : CSt) : Nat → Nat → Int32 := σ.2.2.2.2.2.2.1
def cE (σ : CSt) : Nat → Nat → Option Nat := σ.2.2.2.2.2.2.2.1
def cZ (σ : CSt) : Nat × Nat := σ.2.2.2.2.2.2.2.2
def cmk (L : List Nat) (K : Nat → Nat) (I : Nat → Nat → Int32) (R : Nat → Nat → Option Nat) (J : Nat → Nat → Int64) (N : Nat → Nat) (V : Nat → Nat → Int32) (E : Nat → Nat → Option Nat) (Z : Nat × Nat) : CSt := (L, K, I, R, J, N, V, E, Z)
def cu2 {α : Type} (f : Nat → Nat → α) (k a : Nat) (v : α) : Nat → Nat → α := fun k' a' => if k' = k then (if a' = a then v else f k' a') else f k' a'
def csI (σ : CSt) (k a : Nat) (v : Int32) : CSt := cmk (cL σ) (cK σ) (cu2 (cI σ) k a v) (cR σ) (cJ σ) (cN σ) (cV σ) (cE σ) (cZ σ)
def csR (σ : CSt) (k a : Nat) (v : Option Nat) : CSt := cmk (cL σ) (cK σ) (cI σ) (cu2 (cR σ) k a v) (cJ σ) (cN σ) (cV σ) (cE σ) (cZ σ)
def csJ (σ : CSt) (k a : Nat) (v : Int64) : CSt := cmk (cL σ) (cK σ) (cI σ) (cR σ) (cu2 (cJ σ) k a v) (cN σ) (cV σ) (cE σ) (cZ σ)
/-- the whole row at a -/
def csV (σ : CSt) (a : Nat) (f : Nat → Int32) : CSt := cmk (cL σ) (cK σ) (cI σ) (cR σ) (cJ σ) (cN σ) (va_up (cV σ) a f) (cE σ) (cZ σ)
def csE (σ : CSt) (a : Nat) (f : Nat → Option Nat) : CSt := cmk (cL σ) (cK σ) (cI σ) (cR σ) (cJ σ) (cN σ) (cV σ) (va_up (cE σ) a f) (cZ σ)
/-- a new object of kind kd at q -/
def csO (σ : CSt) (q kd : Nat) : CSt := cmk (cL σ ++ [q]) (va_up (cK σ) q kd) (fun k a => if a = q then 0 else cI σ k a) (fun k a => if a = q then none else cR σ k a) (fun k a => if a = q then 0 else cJ σ k a) (cN σ) (cV σ) (cE σ) (cZ σ)
/-- a new array of kind kd at q, of n places -/
def csA (σ : CSt) (q kd n : Nat) : CSt := cmk (cL σ ++ [q]) (va_up (cK σ) q kd) (cI σ) (cR σ) (cJ σ) (va_up (cN σ) q n) (va_up (cV σ) q (fun _ => 0)) (va_up (cE σ) q (fun _ => none)) (cZ σ)
def cAt (σ : CSt) (kd a : Nat) : Prop := a ∈ cL σ ∧ cK σ a = kd
abbrev cG : Type := va_G × (ClassId × ClassId × ClassId) × (Nat → Nat) × (Nat → Nat) × (Nat × Nat)
def cf0 (σ : CSt) (a : Nat) : List Value := [.int (cI σ 0 a), va_rf (cR σ 1 a), .int (cI σ 2 a)]
def cf1 (σ : CSt) (a : Nat) : List Value := [.int (cI σ 16 a), va_rf (cR σ 17 a), .int (cI σ 18 a), .int (cI σ 19 a), .int (cI σ 20 a), .int (cI σ 21 a), .int (cI σ 22 a), va_rf (cR σ 23 a)]
def cf2 (σ : CSt) (a : Nat) : List Value := [.int (cI σ 32 a), .int (cI σ 33 a), .int (cI σ 34 a), .int (cI σ 35 a), .int (cI σ 36 a), .int (cI σ 37 a), .int (cI σ 38 a), .int (cI σ 39 a), .int (cI σ 40 a)]
def cf3 (σ : CSt) (a : Nat) : List Value := [.int (cI σ 48 a), .int (cI σ 49 a), .int (cI σ 50 a), .int (cI σ 51 a), .int (cI σ 52 a), .int (cI σ 53 a), va_rf (cR σ 54 a), .int (cI σ 55 a), .int (cI σ 56 a)]
def cf4 (σ : CSt) (a : Nat) : List Value := [va_rf (cR σ 64 a), va_rf (cR σ 65 a), .int (cI σ 66 a), .int (cI σ 67 a)]
def cf5 (σ : CSt) (a : Nat) : List Value := [.int (cI σ 80 a), .int (cI σ 81 a), va_rf (cR σ 82 a), .int (cI σ 83 a), va_rf (cR σ 84 a), .int (cI σ 85 a), .int (cI σ 86 a), .int (cI σ 87 a), .int (cI σ 88 a), .int (cI σ 89 a), .int (cI σ 90 a), .int (cI σ 91 a)]
def cf6 (σ : CSt) (a : Nat) : List Value := [.int (cI σ 96 a), .int (cI σ 97 a), .int (cI σ 98 a), .int (cI σ 99 a), .int (cI σ 100 a), va_rf (cR σ 101 a), .int (cI σ 102 a), .int (cI σ 103 a), va_rf (cR σ 104 a), .int (cI σ 105 a)]
def cf7 (σ : CSt) (a : Nat) : List Value := [va_rf (cR σ 112 a), va_rf (cR σ 113 a), va_rf (cR σ 114 a), va_rf (cR σ 115 a), va_rf (cR σ 116 a), va_rf (cR σ 117 a), va_rf (cR σ 118 a), .int (cI σ 119 a), .int (cI σ 120 a), .int (cI σ 121 a), .int (cI σ 122 a), .int (cI σ 123 a), .long (cJ σ 124 a), .long (cJ σ 125 a), .long (cJ σ 126 a), .long (cJ σ 127 a)]
def cEl (G : cG) (σ : CSt) (a : Nat) : va_E := match cK σ a with
  | 0 => .inr (0, cf0 σ a)
  | 1 => .inr (1, cf1 σ a)
  | 2 => .inr (2, cf2 σ a)
  | 3 => .inr (3, cf3 σ a)
  | 4 => .inr (4, cf4 σ a)
  | 5 => .inr (5, cf5 σ a)
  | 6 => .inr (6, cf6 σ a)
  | 7 => .inr (7, cf7 σ a)
  | 8 => .inl (G.2.1.1, cN σ a, .inl (cV σ a))
  | 9 => .inl (G.2.1.2.1, cN σ a, .inl (cV σ a))
  | 10 => .inl (G.2.1.2.2, cN σ a, .inr (.inr (.inr (.inr (cE σ a)))))
  | _ => .inl (G.2.1.1, 0, .inl (fun _ => 0))
abbrev cWs (G : cG) (σ : CSt) : va_W := va_pl (cL σ) (cEl G σ)
theorem cEl_0 {G : cG} {σ : CSt} {a : Nat} (h : cK σ a = 0) : cEl G σ a = .inr (0, cf0 σ a) := by unfold cEl; rw [h]; rfl
theorem cEl_1 {G : cG} {σ : CSt} {a : Nat} (h : cK σ a = 1) : cEl G σ a = .inr (1, cf1 σ a) := by unfold cEl; rw [h]; rfl
theorem cEl_2 {G : cG} {σ : CSt} {a : Nat} (h : cK σ a = 2) : cEl G σ a = .inr (2, cf2 σ a) := by unfold cEl; rw [h]; rfl
theorem cEl_3 {G : cG} {σ : CSt} {a : Nat} (h : cK σ a = 3) : cEl G σ a = .inr (3, cf3 σ a) := by unfold cEl; rw [h]; rfl
theorem cEl_4 {G : cG} {σ : CSt} {a : Nat} (h : cK σ a = 4) : cEl G σ a = .inr (4, cf4 σ a) := by unfold cEl; rw [h]; rfl
theorem cEl_5 {G : cG} {σ : CSt} {a : Nat} (h : cK σ a = 5) : cEl G σ a = .inr (5, cf5 σ a) := by unfold cEl; rw [h]; rfl
theorem cEl_6 {G : cG} {σ : CSt} {a : Nat} (h : cK σ a = 6) : cEl G σ a = .inr (6, cf6 σ a) := by unfold cEl; rw [h]; rfl
theorem cEl_7 {G : cG} {σ : CSt} {a : Nat} (h : cK σ a = 7) : cEl G σ a = .inr (7, cf7 σ a) := by unfold cEl; rw [h]; rfl
theorem cEl_8 {G : cG} {σ : CSt} {a : Nat} (h : cK σ a = 8) : cEl G σ a = .inl (G.2.1.1, cN σ a, .inl (cV σ a)) := by unfold cEl; rw [h]; rfl
theorem cEl_9 {G : cG} {σ : CSt} {a : Nat} (h : cK σ a = 9) : cEl G σ a = .inl (G.2.1.2.1, cN σ a, .inl (cV σ a)) := by unfold cEl; rw [h]; rfl
theorem cEl_10 {G : cG} {σ : CSt} {a : Nat} (h : cK σ a = 10) : cEl G σ a = .inl (G.2.1.2.2, cN σ a, .inr (.inr (.inr (.inr (cE σ a))))) := by unfold cEl; rw [h]; rfl
theorem cEl_eq {G : cG} {σ τ : CSt} {b : Nat} (hK : cK τ b = cK σ b) (hI : ∀ k, cI τ k b = cI σ k b) (hR : ∀ k, cR τ k b = cR σ k b) (hJ : ∀ k, cJ τ k b = cJ σ k b) (hN : cN τ b = cN σ b) (hV : cV τ b = cV σ b) (hE : cE τ b = cE σ b) : cEl G τ b = cEl G σ b := by
  unfold cEl cf0 cf1 cf2 cf3 cf4 cf5 cf6 cf7
  simp only [hK, hI, hR, hJ, hN, hV, hE]
theorem cu2_ne {α : Type} {f : Nat → Nat → α} {k a k' a' : Nat} {v : α} (h : a' ≠ a) : cu2 f k a v k' a' = f k' a' := by
  unfold cu2
  by_cases hk : k' = k
  · rw [if_pos hk, if_neg h]
  · rw [if_neg hk]
theorem cu2_nk {α : Type} {f : Nat → Nat → α} {k a k' a' : Nat} {v : α} (h : k' ≠ k) : cu2 f k a v k' a' = f k' a' := by
  unfold cu2
  rw [if_neg h]
theorem cu2_eq {α : Type} {f : Nat → Nat → α} {k a : Nat} {v : α} : cu2 f k a v k a = v := by
  unfold cu2
  rw [if_pos rfl, if_pos rfl]
theorem csI_o {G : cG} {σ : CSt} {k a b : Nat} {v : Int32} (h : b ≠ a) : cEl G (csI σ k a v) b = cEl G σ b := cEl_eq rfl (fun _ => cu2_ne h) (fun _ => rfl) (fun _ => rfl) rfl rfl rfl
theorem csR_o {G : cG} {σ : CSt} {k a b : Nat} {v : Option Nat} (h : b ≠ a) : cEl G (csR σ k a v) b = cEl G σ b := cEl_eq rfl (fun _ => rfl) (fun _ => cu2_ne h) (fun _ => rfl) rfl rfl rfl
theorem csJ_o {G : cG} {σ : CSt} {k a b : Nat} {v : Int64} (h : b ≠ a) : cEl G (csJ σ k a v) b = cEl G σ b := cEl_eq rfl (fun _ => rfl) (fun _ => rfl) (fun _ => cu2_ne h) rfl rfl rfl
theorem csV_o {G : cG} {σ : CSt} {a b : Nat} {f : Nat → Int32} (h : b ≠ a) : cEl G (csV σ a f) b = cEl G σ b := cEl_eq rfl (fun _ => rfl) (fun _ => rfl) (fun _ => rfl) rfl (va_up_ne _ _ h) rfl
theorem csE_o {G : cG} {σ : CSt} {a b : Nat} {f : Nat → Option Nat} (h : b ≠ a) : cEl G (csE σ a f) b = cEl G σ b := cEl_eq rfl (fun _ => rfl) (fun _ => rfl) (fun _ => rfl) rfl rfl (va_up_ne _ _ h)
theorem csO_o {G : cG} {σ : CSt} {q kd b : Nat} (h : b ≠ q) : cEl G (csO σ q kd) b = cEl G σ b := cEl_eq (va_up_ne _ _ h) (fun _ => if_neg h) (fun _ => if_neg h) (fun _ => if_neg h) rfl rfl rfl
theorem csA_o {G : cG} {σ : CSt} {q kd n b : Nat} (h : b ≠ q) : cEl G (csA σ q kd n) b = cEl G σ b := cEl_eq (va_up_ne _ _ h) (fun _ => rfl) (fun _ => rfl) (fun _ => rfl) (va_up_ne _ _ h) (va_up_ne _ _ h) (va_up_ne _ _ h)
theorem c_pl {G : cG} {σ : CSt} {a : Nat} (h : a ∈ cL σ) : ∃ p : Nat, (cWs G σ)[p]? = some (a, cEl G σ a) := va_pl_get (X := []) h
theorem c_set {G : cG} {σ τ : CSt} {A : Nat → Prop} {a p : Nat} {e : va_E} (hD : va_D A (cWs G σ)) (hL : a ∈ cL σ) (hp : (cWs G σ)[p]? = some (a, cEl G σ a)) (hL' : cL τ = cL σ) (ha : cEl G τ a = e) (hb : ∀ b, b ≠ a → cEl G τ b = cEl G σ b) : (cWs G σ).set p (a, e) = cWs G τ := by
  have h1 : (cWs G σ).set p (a, e) = va_pl (cL σ) (va_up (cEl G σ) a e) := va_pl_set (X := []) hD hL hp
  rw [h1]
  unfold cWs
  rw [hL']
  refine va_pl_congr (fun b => ?_)
  by_cases h : b = a
  · rw [h, va_up_self, ha]
  · rw [va_up_ne _ _ h, hb b h]
theorem c_push {G : cG} {σ τ : CSt} {q : Nat} {e : va_E} (hq : q ∉ cL σ) (hL : cL τ = cL σ ++ [q]) (he : cEl G τ q = e) (hb : ∀ b, b ≠ q → cEl G τ b = cEl G σ b) : cWs G σ ++ [(q, e)] = cWs G τ := by
  rw [show cWs G σ ++ [(q, e)] = va_pl (cL σ ++ [q]) (va_up (cEl G σ) q e) from va_pl_push hq]
  unfold cWs
  rw [hL]
  refine va_pl_congr (fun b => ?_)
  by_cases h : b = q
  · rw [h, va_up_self, he]
  · rw [va_up_ne _ _ h, hb b h]
def cKt (G : cG) : List (ClassId × FieldType) := [(G.2.1.1, .byte), (G.2.1.2.1, .int), (G.2.1.2.2, .object "java/lang/Object")]
def cA (σ : CSt) (sz : Nat) : Nat → Prop := fun q => q ∈ cL σ ∨ sz ≤ q
/-- the class's words as String constants -/
def ctx (i : Nat) : String := ["snow", "wind", "hour", "worn", "open", "lift", "not", "and", "or"].getD i ""
def ctb : List (List Int32) := [[115, 110, 111, 119], [119, 105, 110, 100], [104, 111, 117, 114], [119, 111, 114, 110], [111, 112, 101, 110], [108, 105, 102, 116], [110, 111, 116], [97, 110, 100], [111, 114]]
def cti (i : Nat) : Nat := [112, 118, 120, 122, 124, 126, 128, 130, 132].getD i 0
/-- what stays as it is at the start, outside of the pool: texts, ArrayList's empty row, two statics of Throwable, words of the tables -/
def cFx (G : cG) (A : Nat → Prop) (U : State) (H : Heap) : Prop :=
  (∀ i : Nat, i < 9 → jS (G.2.2.1 i) (G.2.2.2.1 i) (ctb.getD i []) A U H) ∧ (∀ i : Nat, i < 9 → vk_R RX5 (cti i) (ctx i) (G.2.2.1 i) U) ∧
  (va_Z "java/util/ArrayList" "DEFAULTCAPACITY_EMPTY_ELEMENTDATA" "[Ljava/lang/Object;" (.ref G.2.2.2.2.1) A U H ∧ va_T (.object "java/lang/Object") G.2.2.2.2.1 0 (fun _ => .null) A U H) ∧
  (vx_Zq Bundle.tN "UNASSIGNED_STACK" Bundle.steD A U H ∧ vx_Zq Bundle.tN "SUPPRESSED_SENTINEL" Bundle.listD A U H) ∧
  (∀ w ∈ cNg, va_Nw w U) ∧ va_AO "java/lang/Object" U ∧ va_Mi "[Ljava/lang/Object;" G.2.2.2.2.2 U
theorem cFx.calling {G : cG} {A : Nat → Prop} {U : State} {g : JFrame} {mk : MethodId} {a : Array Value} {H : Heap} (h : cFx G A U H) : cFx G A (U.calling g mk a) H := by
  have hvm : U.vm.Alike (U.calling g mk a).vm := Vm.Alike.refl U.vm
  exact ⟨fun i hi => (h.1 i hi).moved hvm, fun i hi => vk_R.same (u := U) (U := U.calling g mk a) rfl (h.2.1 i hi), ⟨h.2.2.1.1.moved hvm, h.2.2.1.2.moved hvm⟩, ⟨h.2.2.2.1.1.moved hvm, h.2.2.2.1.2.moved hvm⟩, fun w hw => cCd_same (cNg_cd w hw) (s := U) (U := U.calling g mk a) rfl (h.2.2.2.2.1 w hw), va_AO.moved (u := U) (U := U.calling g mk a) hvm h.2.2.2.2.2.1, h.2.2.2.2.2.2.moved hvm⟩
theorem cFx.go {G : cG} {A B : Nat → Prop} {s U : State} {H : Heap} {locs : List Loc} (h : cFx G A s s.heap) (hS : va_S A s.heap H locs) (hU : U.heap = H) (hW : s.WarmedH U.vm) (hAB : ∀ q, B q → A q) : cFx G B U U.heap := by
  rw [hU]
  have hq := hS.2.1
  have hvm := hW.alike
  exact ⟨fun i hi => (((h.1 i hi).kept hq).moved hvm).narrow hAB, fun i hi => (h.2.1 i hi).warm hW, ⟨((h.2.2.1.1.kept hq).moved hvm).narrow hAB, ((h.2.2.1.2.kept hq).moved hvm).narrow hAB⟩, ⟨((h.2.2.2.1.1.kept hq).moved hvm).narrow hAB, ((h.2.2.2.1.2.kept hq).moved hvm).narrow hAB⟩, fun w hw => cCd_warm (cNg_cd w hw) hW (h.2.2.2.2.1 w hw), h.2.2.2.2.2.1.moved hvm, h.2.2.2.2.2.2.moved hvm⟩
def cWd (G : cG) (A : Nat → Prop) (H0 : Heap) (σ : CSt) (H : Heap) (locs : List Loc) : Prop := va_P G.1 vwCl (cWs G σ) H ∧ va_D A (cWs G σ) ∧ va_S A H0 H locs ∧ cZ σ = G.2.2.2.2
def cC (X : gT) (cc : ByteArray) (nL : Nat) (own : String) (G : cG) (A : Nat → Prop) : Prop := gC X cc nL ∧ (g_s X).vm.findClass own = some (g_m X).cls ∧ (∀ w ∈ wC, w.before (g_a X) (g_s X) = true) ∧ va_K G.1 vwCl (cKt G) (g_s X) ∧ (∀ q : Nat, (g_s X).heap.size ≤ q → A q) ∧ cFx G A (g_s X) (g_s X).heap
section CLIB
variable {X : gT} {Q : State → Prop} {k n : Nat} {σ : CSt} {lv : List (Nat × Value)} {pc : Nat} {rest : List Value} {cc : ByteArray} {nL : Nat} {own : String} {G : cG} {A : Nat → Prop} {H0 : Heap} {a : Nat}
theorem c_get0 (C : cC X cc nL own G A) (hA : cAt σ 0 a) (j : Nat) (hj : j < 3) {idx : Nat} {ref : String} (hl : Cond.fieldLink own idx ref (TJx4a65c j).2.1 (TJx4a65c j).2.2.1 ∈ wC) (hsame : ∀ x, (g_s X).fieldFound? (TJx4a65c j).1 (TJx4a65c j).2.1 (TJx4a65c j).2.2.1 = some x → (g_s X).fieldFound? ref (TJx4a65c j).2.1 (TJx4a65c j).2.2.1 = some x) {v : Value} (hv : (cf0 σ a)[j]? = some v) (hdg : decode cc pc = .ok (.getfield idx, 3)) (kk : gJ X (cWd G A H0) Q k n σ lv (pc + 3) (v :: rest)) : gJ X (cWd G A H0) Q k n σ lv (pc) (.ref a :: rest) := by
  intro H locs ls hW hl'
  obtain ⟨p, hp⟩ := c_pl (G := G) hA.1
  rw [cEl_0 hA.2] at hp
  exact va_get (D := G.1) (cl := vwCl) (ws := cWs G σ) (ci := 0) (C := RJx4a65c) (T := TJx4a65c) (N := 3) (own := own) (ref := ref) (fs := cf0 σ a) C.1.1 C.1.2.1 C.2.2.1 kC_X0 C.2.1 C.2.2.2.1 hW.1 p hp rfl j hj (C.2.2.1 _ hl) hsame hv hdg (kk H locs ls hW hl')
theorem c_put0 (C : cC X cc nL own G A) {τ : CSt} (hA : cAt σ 0 a) (j : Nat) (hj : j < 3) {idx : Nat} {ref : String} (hl : Cond.fieldLink own idx ref (TJx4a65c j).2.1 (TJx4a65c j).2.2.1 ∈ wC) (hsame : ∀ x, (g_s X).fieldFound? (TJx4a65c j).1 (TJx4a65c j).2.1 (TJx4a65c j).2.2.1 = some x → (g_s X).fieldFound? ref (TJx4a65c j).2.1 (TJx4a65c j).2.2.1 = some x) (hfin : (TJx4a65c j).2.2.2 = false) {ty : FieldType} {v : Value} (hd : parseFieldDescriptor (TJx4a65c j).2.2.1 = some ty) (hn : narrow ty v = v) (hfit : fits ty v = true) (hL : cL τ = cL σ) (hK : cK τ a = 0) (hZ : cZ τ = cZ σ) (hx : cf0 τ a = (cf0 σ a).set j v) (ho : ∀ b, b ≠ a → cEl G τ b = cEl G σ b) (hdg : decode cc pc = .ok (.putfield idx, 3)) (kk : gJ X (cWd G A H0) Q k n τ lv (pc + 3) (rest)) : gJ X (cWd G A H0) Q k n σ lv (pc) (v :: .ref a :: rest) := by
  intro H locs ls hW hl'
  obtain ⟨p, hp⟩ := c_pl (G := G) hA.1
  have e := c_set (τ := τ) hW.2.1 hA.1 hp hL ((cEl_0 hK).trans (by rw [hx])) ho
  rw [cEl_0 hA.2] at hp
  exact va_put (D := G.1) (cl := vwCl) (ws := cWs G σ) (ci := 0) (C := RJx4a65c) (T := TJx4a65c) (N := 3) (own := own) (ref := ref) (fs := cf0 σ a) (ty := ty) (v := v) C.1.1 C.1.2.1 C.2.2.1 kC_X0 tyJx4a65c tyJx4a65c_ok nmJx4a65c C.2.1 C.2.2.2.1 hW.1 hW.2.1 hW.2.2.1 p hp rfl j hj (C.2.2.1 _ hl) hsame hfin hd hn hfit hj hdg (fun H1 locs1 hP hD hS => kk H1 locs1 ls ⟨e ▸ hP, e ▸ hD, hS, hZ.trans hW.2.2.2⟩ hl')
theorem c_putF0 (C : cC X cc nL own G A) {τ : CSt} (hA : cAt σ 0 a) (j : Nat) (hj : j < 3) {idx : Nat} {ref : String} (hl : Cond.fieldLink own idx ref (TJx4a65c j).2.1 (TJx4a65c j).2.2.1 ∈ wC) (hsame : ∀ x, (g_s X).fieldFound? (TJx4a65c j).1 (TJx4a65c j).2.1 (TJx4a65c j).2.2.1 = some x → (g_s X).fieldFound? ref (TJx4a65c j).2.1 (TJx4a65c j).2.2.1 = some x) (hfin : (TJx4a65c j).2.2.2 = true) (hin : (g_me X).name = "<init>") (hdecl : (TJx4a65c j).1 = own) {ty : FieldType} {v : Value} (hd : parseFieldDescriptor (TJx4a65c j).2.2.1 = some ty) (hn : narrow ty v = v) (hfit : fits ty v = true) (hL : cL τ = cL σ) (hK : cK τ a = 0) (hZ : cZ τ = cZ σ) (hx : cf0 τ a = (cf0 σ a).set j v) (ho : ∀ b, b ≠ a → cEl G τ b = cEl G σ b) (hdg : decode cc pc = .ok (.putfield idx, 3)) (kk : gJ X (cWd G A H0) Q k n τ lv (pc + 3) (rest)) : gJ X (cWd G A H0) Q k n σ lv (pc) (v :: .ref a :: rest) := by
  intro H locs ls hW hl'
  obtain ⟨p, hp⟩ := c_pl (G := G) hA.1
  have e := c_set (τ := τ) hW.2.1 hA.1 hp hL ((cEl_0 hK).trans (by rw [hx])) ho
  rw [cEl_0 hA.2] at hp
  exact va_putF (D := G.1) (cl := vwCl) (ws := cWs G σ) (ci := 0) (C := RJx4a65c) (T := TJx4a65c) (N := 3) (own := own) (ref := ref) (fs := cf0 σ a) (ty := ty) (v := v) C.1.1 C.1.2.1 C.2.2.1 kC_X0 tyJx4a65c tyJx4a65c_ok nmJx4a65c C.2.1 C.2.2.2.1 hW.1 hW.2.1 hW.2.2.1 p hp rfl j hj (C.2.2.1 _ hl) hsame hfin hin hdecl hd hn hfit hj hdg (fun H1 locs1 hP hD hS => kk H1 locs1 ls ⟨e ▸ hP, e ▸ hD, hS, hZ.trans hW.2.2.2⟩ hl')
theorem c_get1 (C : cC X cc nL own G A) (hA : cAt σ 1 a) (j : Nat) (hj : j < 8) {idx : Nat} {ref : String} (hl : Cond.fieldLink own idx ref (TX1 j).2.1 (TX1 j).2.2.1 ∈ wC) (hsame : ∀ x, (g_s X).fieldFound? (TX1 j).1 (TX1 j).2.1 (TX1 j).2.2.1 = some x → (g_s X).fieldFound? ref (TX1 j).2.1 (TX1 j).2.2.1 = some x) {v : Value} (hv : (cf1 σ a)[j]? = some v) (hdg : decode cc pc = .ok (.getfield idx, 3)) (kk : gJ X (cWd G A H0) Q k n σ lv (pc + 3) (v :: rest)) : gJ X (cWd G A H0) Q k n σ lv (pc) (.ref a :: rest) := by
  intro H locs ls hW hl'
  obtain ⟨p, hp⟩ := c_pl (G := G) hA.1
  rw [cEl_1 hA.2] at hp
  exact va_get (D := G.1) (cl := vwCl) (ws := cWs G σ) (ci := 1) (C := RX1) (T := TX1) (N := 8) (own := own) (ref := ref) (fs := cf1 σ a) C.1.1 C.1.2.1 C.2.2.1 kC_X1 C.2.1 C.2.2.2.1 hW.1 p hp rfl j hj (C.2.2.1 _ hl) hsame hv hdg (kk H locs ls hW hl')
theorem c_put1 (C : cC X cc nL own G A) {τ : CSt} (hA : cAt σ 1 a) (j : Nat) (hj : j < 8) {idx : Nat} {ref : String} (hl : Cond.fieldLink own idx ref (TX1 j).2.1 (TX1 j).2.2.1 ∈ wC) (hsame : ∀ x, (g_s X).fieldFound? (TX1 j).1 (TX1 j).2.1 (TX1 j).2.2.1 = some x → (g_s X).fieldFound? ref (TX1 j).2.1 (TX1 j).2.2.1 = some x) (hfin : (TX1 j).2.2.2 = false) {ty : FieldType} {v : Value} (hd : parseFieldDescriptor (TX1 j).2.2.1 = some ty) (hn : narrow ty v = v) (hfit : fits ty v = true) (hL : cL τ = cL σ) (hK : cK τ a = 1) (hZ : cZ τ = cZ σ) (hx : cf1 τ a = (cf1 σ a).set j v) (ho : ∀ b, b ≠ a → cEl G τ b = cEl G σ b) (hdg : decode cc pc = .ok (.putfield idx, 3)) (kk : gJ X (cWd G A H0) Q k n τ lv (pc + 3) (rest)) : gJ X (cWd G A H0) Q k n σ lv (pc) (v :: .ref a :: rest) := by
  intro H locs ls hW hl'
  obtain ⟨p, hp⟩ := c_pl (G := G) hA.1
  have e := c_set (τ := τ) hW.2.1 hA.1 hp hL ((cEl_1 hK).trans (by rw [hx])) ho
  rw [cEl_1 hA.2] at hp
  exact va_put (D := G.1) (cl := vwCl) (ws := cWs G σ) (ci := 1) (C := RX1) (T := TX1) (N := 8) (own := own) (ref := ref) (fs := cf1 σ a) (ty := ty) (v := v) C.1.1 C.1.2.1 C.2.2.1 kC_X1 tyX1 tyX1_ok nmX1 C.2.1 C.2.2.2.1 hW.1 hW.2.1 hW.2.2.1 p hp rfl j hj (C.2.2.1 _ hl) hsame hfin hd hn hfit hj hdg (fun H1 locs1 hP hD hS => kk H1 locs1 ls ⟨e ▸ hP, e ▸ hD, hS, hZ.trans hW.2.2.2⟩ hl')
theorem c_putF1 (C : cC X cc nL own G A) {τ : CSt} (hA : cAt σ 1 a) (j : Nat) (hj : j < 8) {idx : Nat} {ref : String} (hl : Cond.fieldLink own idx ref (TX1 j).2.1 (TX1 j).2.2.1 ∈ wC) (hsame : ∀ x, (g_s X).fieldFound? (TX1 j).1 (TX1 j).2.1 (TX1 j).2.2.1 = some x → (g_s X).fieldFound? ref (TX1 j).2.1 (TX1 j).2.2.1 = some x) (hfin : (TX1 j).2.2.2 = true) (hin : (g_me X).name = "<init>") (hdecl : (TX1 j).1 = own) {ty : FieldType} {v : Value} (hd : parseFieldDescriptor (TX1 j).2.2.1 = some ty) (hn : narrow ty v = v) (hfit : fits ty v = true) (hL : cL τ = cL σ) (hK : cK τ a = 1) (hZ : cZ τ = cZ σ) (hx : cf1 τ a = (cf1 σ a).set j v) (ho : ∀ b, b ≠ a → cEl G τ b = cEl G σ b) (hdg : decode cc pc = .ok (.putfield idx, 3)) (kk : gJ X (cWd G A H0) Q k n τ lv (pc + 3) (rest)) : gJ X (cWd G A H0) Q k n σ lv (pc) (v :: .ref a :: rest) := by
  intro H locs ls hW hl'
  obtain ⟨p, hp⟩ := c_pl (G := G) hA.1
  have e := c_set (τ := τ) hW.2.1 hA.1 hp hL ((cEl_1 hK).trans (by rw [hx])) ho
  rw [cEl_1 hA.2] at hp
  exact va_putF (D := G.1) (cl := vwCl) (ws := cWs G σ) (ci := 1) (C := RX1) (T := TX1) (N := 8) (own := own) (ref := ref) (fs := cf1 σ a) (ty := ty) (v := v) C.1.1 C.1.2.1 C.2.2.1 kC_X1 tyX1 tyX1_ok nmX1 C.2.1 C.2.2.2.1 hW.1 hW.2.1 hW.2.2.1 p hp rfl j hj (C.2.2.1 _ hl) hsame hfin hin hdecl hd hn hfit hj hdg (fun H1 locs1 hP hD hS => kk H1 locs1 ls ⟨e ▸ hP, e ▸ hD, hS, hZ.trans hW.2.2.2⟩ hl')
theorem c_get2 (C : cC X cc nL own G A) (hA : cAt σ 2 a) (j : Nat) (hj : j < 9) {idx : Nat} {ref : String} (hl : Cond.fieldLink own idx ref (TX2 j).2.1 (TX2 j).2.2.1 ∈ wC) (hsame : ∀ x, (g_s X).fieldFound? (TX2 j).1 (TX2 j).2.1 (TX2 j).2.2.1 = some x → (g_s X).fieldFound? ref (TX2 j).2.1 (TX2 j).2.2.1 = some x) {v : Value} (hv : (cf2 σ a)[j]? = some v) (hdg : decode cc pc = .ok (.getfield idx, 3)) (kk : gJ X (cWd G A H0) Q k n σ lv (pc + 3) (v :: rest)) : gJ X (cWd G A H0) Q k n σ lv (pc) (.ref a :: rest) := by
  intro H locs ls hW hl'
  obtain ⟨p, hp⟩ := c_pl (G := G) hA.1
  rw [cEl_2 hA.2] at hp
  exact va_get (D := G.1) (cl := vwCl) (ws := cWs G σ) (ci := 2) (C := RX2) (T := TX2) (N := 9) (own := own) (ref := ref) (fs := cf2 σ a) C.1.1 C.1.2.1 C.2.2.1 kC_X2 C.2.1 C.2.2.2.1 hW.1 p hp rfl j hj (C.2.2.1 _ hl) hsame hv hdg (kk H locs ls hW hl')
theorem c_put2 (C : cC X cc nL own G A) {τ : CSt} (hA : cAt σ 2 a) (j : Nat) (hj : j < 9) {idx : Nat} {ref : String} (hl : Cond.fieldLink own idx ref (TX2 j).2.1 (TX2 j).2.2.1 ∈ wC) (hsame : ∀ x, (g_s X).fieldFound? (TX2 j).1 (TX2 j).2.1 (TX2 j).2.2.1 = some x → (g_s X).fieldFound? ref (TX2 j).2.1 (TX2 j).2.2.1 = some x) (hfin : (TX2 j).2.2.2 = false) {ty : FieldType} {v : Value} (hd : parseFieldDescriptor (TX2 j).2.2.1 = some ty) (hn : narrow ty v = v) (hfit : fits ty v = true) (hL : cL τ = cL σ) (hK : cK τ a = 2) (hZ : cZ τ = cZ σ) (hx : cf2 τ a = (cf2 σ a).set j v) (ho : ∀ b, b ≠ a → cEl G τ b = cEl G σ b) (hdg : decode cc pc = .ok (.putfield idx, 3)) (kk : gJ X (cWd G A H0) Q k n τ lv (pc + 3) (rest)) : gJ X (cWd G A H0) Q k n σ lv (pc) (v :: .ref a :: rest) := by
  intro H locs ls hW hl'
  obtain ⟨p, hp⟩ := c_pl (G := G) hA.1
  have e := c_set (τ := τ) hW.2.1 hA.1 hp hL ((cEl_2 hK).trans (by rw [hx])) ho
  rw [cEl_2 hA.2] at hp
  exact va_put (D := G.1) (cl := vwCl) (ws := cWs G σ) (ci := 2) (C := RX2) (T := TX2) (N := 9) (own := own) (ref := ref) (fs := cf2 σ a) (ty := ty) (v := v) C.1.1 C.1.2.1 C.2.2.1 kC_X2 tyX2 tyX2_ok nmX2 C.2.1 C.2.2.2.1 hW.1 hW.2.1 hW.2.2.1 p hp rfl j hj (C.2.2.1 _ hl) hsame hfin hd hn hfit hj hdg (fun H1 locs1 hP hD hS => kk H1 locs1 ls ⟨e ▸ hP, e ▸ hD, hS, hZ.trans hW.2.2.2⟩ hl')
theorem c_putF2 (C : cC X cc nL own G A) {τ : CSt} (hA : cAt σ 2 a) (j : Nat) (hj : j < 9) {idx : Nat} {ref : String} (hl : Cond.fieldLink own idx ref (TX2 j).2.1 (TX2 j).2.2.1 ∈ wC) (hsame : ∀ x, (g_s X).fieldFound? (TX2 j).1 (TX2 j).2.1 (TX2 j).2.2.1 = some x → (g_s X).fieldFound? ref (TX2 j).2.1 (TX2 j).2.2.1 = some x) (hfin : (TX2 j).2.2.2 = true) (hin : (g_me X).name = "<init>") (hdecl : (TX2 j).1 = own) {ty : FieldType} {v : Value} (hd : parseFieldDescriptor (TX2 j).2.2.1 = some ty) (hn : narrow ty v = v) (hfit : fits ty v = true) (hL : cL τ = cL σ) (hK : cK τ a = 2) (hZ : cZ τ = cZ σ) (hx : cf2 τ a = (cf2 σ a).set j v) (ho : ∀ b, b ≠ a → cEl G τ b = cEl G σ b) (hdg : decode cc pc = .ok (.putfield idx, 3)) (kk : gJ X (cWd G A H0) Q k n τ lv (pc + 3) (rest)) : gJ X (cWd G A H0) Q k n σ lv (pc) (v :: .ref a :: rest) := by
  intro H locs ls hW hl'
  obtain ⟨p, hp⟩ := c_pl (G := G) hA.1
  have e := c_set (τ := τ) hW.2.1 hA.1 hp hL ((cEl_2 hK).trans (by rw [hx])) ho
  rw [cEl_2 hA.2] at hp
  exact va_putF (D := G.1) (cl := vwCl) (ws := cWs G σ) (ci := 2) (C := RX2) (T := TX2) (N := 9) (own := own) (ref := ref) (fs := cf2 σ a) (ty := ty) (v := v) C.1.1 C.1.2.1 C.2.2.1 kC_X2 tyX2 tyX2_ok nmX2 C.2.1 C.2.2.2.1 hW.1 hW.2.1 hW.2.2.1 p hp rfl j hj (C.2.2.1 _ hl) hsame hfin hin hdecl hd hn hfit hj hdg (fun H1 locs1 hP hD hS => kk H1 locs1 ls ⟨e ▸ hP, e ▸ hD, hS, hZ.trans hW.2.2.2⟩ hl')
theorem c_get3 (C : cC X cc nL own G A) (hA : cAt σ 3 a) (j : Nat) (hj : j < 9) {idx : Nat} {ref : String} (hl : Cond.fieldLink own idx ref (TX3 j).2.1 (TX3 j).2.2.1 ∈ wC) (hsame : ∀ x, (g_s X).fieldFound? (TX3 j).1 (TX3 j).2.1 (TX3 j).2.2.1 = some x → (g_s X).fieldFound? ref (TX3 j).2.1 (TX3 j).2.2.1 = some x) {v : Value} (hv : (cf3 σ a)[j]? = some v) (hdg : decode cc pc = .ok (.getfield idx, 3)) (kk : gJ X (cWd G A H0) Q k n σ lv (pc + 3) (v :: rest)) : gJ X (cWd G A H0) Q k n σ lv (pc) (.ref a :: rest) := by
  intro H locs ls hW hl'
  obtain ⟨p, hp⟩ := c_pl (G := G) hA.1
  rw [cEl_3 hA.2] at hp
  exact va_get (D := G.1) (cl := vwCl) (ws := cWs G σ) (ci := 3) (C := RX3) (T := TX3) (N := 9) (own := own) (ref := ref) (fs := cf3 σ a) C.1.1 C.1.2.1 C.2.2.1 kC_X3 C.2.1 C.2.2.2.1 hW.1 p hp rfl j hj (C.2.2.1 _ hl) hsame hv hdg (kk H locs ls hW hl')
theorem c_put3 (C : cC X cc nL own G A) {τ : CSt} (hA : cAt σ 3 a) (j : Nat) (hj : j < 9) {idx : Nat} {ref : String} (hl : Cond.fieldLink own idx ref (TX3 j).2.1 (TX3 j).2.2.1 ∈ wC) (hsame : ∀ x, (g_s X).fieldFound? (TX3 j).1 (TX3 j).2.1 (TX3 j).2.2.1 = some x → (g_s X).fieldFound? ref (TX3 j).2.1 (TX3 j).2.2.1 = some x) (hfin : (TX3 j).2.2.2 = false) {ty : FieldType} {v : Value} (hd : parseFieldDescriptor (TX3 j).2.2.1 = some ty) (hn : narrow ty v = v) (hfit : fits ty v = true) (hL : cL τ = cL σ) (hK : cK τ a = 3) (hZ : cZ τ = cZ σ) (hx : cf3 τ a = (cf3 σ a).set j v) (ho : ∀ b, b ≠ a → cEl G τ b = cEl G σ b) (hdg : decode cc pc = .ok (.putfield idx, 3)) (kk : gJ X (cWd G A H0) Q k n τ lv (pc + 3) (rest)) : gJ X (cWd G A H0) Q k n σ lv (pc) (v :: .ref a :: rest) := by
  intro H locs ls hW hl'
  obtain ⟨p, hp⟩ := c_pl (G := G) hA.1
  have e := c_set (τ := τ) hW.2.1 hA.1 hp hL ((cEl_3 hK).trans (by rw [hx])) ho
  rw [cEl_3 hA.2] at hp
  exact va_put (D := G.1) (cl := vwCl) (ws := cWs G σ) (ci := 3) (C := RX3) (T := TX3) (N := 9) (own := own) (ref := ref) (fs := cf3 σ a) (ty := ty) (v := v) C.1.1 C.1.2.1 C.2.2.1 kC_X3 tyX3 tyX3_ok nmX3 C.2.1 C.2.2.2.1 hW.1 hW.2.1 hW.2.2.1 p hp rfl j hj (C.2.2.1 _ hl) hsame hfin hd hn hfit hj hdg (fun H1 locs1 hP hD hS => kk H1 locs1 ls ⟨e ▸ hP, e ▸ hD, hS, hZ.trans hW.2.2.2⟩ hl')
theorem c_putF3 (C : cC X cc nL own G A) {τ : CSt} (hA : cAt σ 3 a) (j : Nat) (hj : j < 9) {idx : Nat} {ref : String} (hl : Cond.fieldLink own idx ref (TX3 j).2.1 (TX3 j).2.2.1 ∈ wC) (hsame : ∀ x, (g_s X).fieldFound? (TX3 j).1 (TX3 j).2.1 (TX3 j).2.2.1 = some x → (g_s X).fieldFound? ref (TX3 j).2.1 (TX3 j).2.2.1 = some x) (hfin : (TX3 j).2.2.2 = true) (hin : (g_me X).name = "<init>") (hdecl : (TX3 j).1 = own) {ty : FieldType} {v : Value} (hd : parseFieldDescriptor (TX3 j).2.2.1 = some ty) (hn : narrow ty v = v) (hfit : fits ty v = true) (hL : cL τ = cL σ) (hK : cK τ a = 3) (hZ : cZ τ = cZ σ) (hx : cf3 τ a = (cf3 σ a).set j v) (ho : ∀ b, b ≠ a → cEl G τ b = cEl G σ b) (hdg : decode cc pc = .ok (.putfield idx, 3)) (kk : gJ X (cWd G A H0) Q k n τ lv (pc + 3) (rest)) : gJ X (cWd G A H0) Q k n σ lv (pc) (v :: .ref a :: rest) := by
  intro H locs ls hW hl'
  obtain ⟨p, hp⟩ := c_pl (G := G) hA.1
  have e := c_set (τ := τ) hW.2.1 hA.1 hp hL ((cEl_3 hK).trans (by rw [hx])) ho
  rw [cEl_3 hA.2] at hp
  exact va_putF (D := G.1) (cl := vwCl) (ws := cWs G σ) (ci := 3) (C := RX3) (T := TX3) (N := 9) (own := own) (ref := ref) (fs := cf3 σ a) (ty := ty) (v := v) C.1.1 C.1.2.1 C.2.2.1 kC_X3 tyX3 tyX3_ok nmX3 C.2.1 C.2.2.2.1 hW.1 hW.2.1 hW.2.2.1 p hp rfl j hj (C.2.2.1 _ hl) hsame hfin hin hdecl hd hn hfit hj hdg (fun H1 locs1 hP hD hS => kk H1 locs1 ls ⟨e ▸ hP, e ▸ hD, hS, hZ.trans hW.2.2.2⟩ hl')
theorem c_get4 (C : cC X cc nL own G A) (hA : cAt σ 4 a) (j : Nat) (hj : j < 4) {idx : Nat} {ref : String} (hl : Cond.fieldLink own idx ref (TX4 j).2.1 (TX4 j).2.2.1 ∈ wC) (hsame : ∀ x, (g_s X).fieldFound? (TX4 j).1 (TX4 j).2.1 (TX4 j).2.2.1 = some x → (g_s X).fieldFound? ref (TX4 j).2.1 (TX4 j).2.2.1 = some x) {v : Value} (hv : (cf4 σ a)[j]? = some v) (hdg : decode cc pc = .ok (.getfield idx, 3)) (kk : gJ X (cWd G A H0) Q k n σ lv (pc + 3) (v :: rest)) : gJ X (cWd G A H0) Q k n σ lv (pc) (.ref a :: rest) := by
  intro H locs ls hW hl'
  obtain ⟨p, hp⟩ := c_pl (G := G) hA.1
  rw [cEl_4 hA.2] at hp
  exact va_get (D := G.1) (cl := vwCl) (ws := cWs G σ) (ci := 4) (C := RX4) (T := TX4) (N := 4) (own := own) (ref := ref) (fs := cf4 σ a) C.1.1 C.1.2.1 C.2.2.1 kC_X4 C.2.1 C.2.2.2.1 hW.1 p hp rfl j hj (C.2.2.1 _ hl) hsame hv hdg (kk H locs ls hW hl')
theorem c_put4 (C : cC X cc nL own G A) {τ : CSt} (hA : cAt σ 4 a) (j : Nat) (hj : j < 4) {idx : Nat} {ref : String} (hl : Cond.fieldLink own idx ref (TX4 j).2.1 (TX4 j).2.2.1 ∈ wC) (hsame : ∀ x, (g_s X).fieldFound? (TX4 j).1 (TX4 j).2.1 (TX4 j).2.2.1 = some x → (g_s X).fieldFound? ref (TX4 j).2.1 (TX4 j).2.2.1 = some x) (hfin : (TX4 j).2.2.2 = false) {ty : FieldType} {v : Value} (hd : parseFieldDescriptor (TX4 j).2.2.1 = some ty) (hn : narrow ty v = v) (hfit : fits ty v = true) (hL : cL τ = cL σ) (hK : cK τ a = 4) (hZ : cZ τ = cZ σ) (hx : cf4 τ a = (cf4 σ a).set j v) (ho : ∀ b, b ≠ a → cEl G τ b = cEl G σ b) (hdg : decode cc pc = .ok (.putfield idx, 3)) (kk : gJ X (cWd G A H0) Q k n τ lv (pc + 3) (rest)) : gJ X (cWd G A H0) Q k n σ lv (pc) (v :: .ref a :: rest) := by
  intro H locs ls hW hl'
  obtain ⟨p, hp⟩ := c_pl (G := G) hA.1
  have e := c_set (τ := τ) hW.2.1 hA.1 hp hL ((cEl_4 hK).trans (by rw [hx])) ho
  rw [cEl_4 hA.2] at hp
  exact va_put (D := G.1) (cl := vwCl) (ws := cWs G σ) (ci := 4) (C := RX4) (T := TX4) (N := 4) (own := own) (ref := ref) (fs := cf4 σ a) (ty := ty) (v := v) C.1.1 C.1.2.1 C.2.2.1 kC_X4 tyX4 tyX4_ok nmX4 C.2.1 C.2.2.2.1 hW.1 hW.2.1 hW.2.2.1 p hp rfl j hj (C.2.2.1 _ hl) hsame hfin hd hn hfit hj hdg (fun H1 locs1 hP hD hS => kk H1 locs1 ls ⟨e ▸ hP, e ▸ hD, hS, hZ.trans hW.2.2.2⟩ hl')
theorem c_putF4 (C : cC X cc nL own G A) {τ : CSt} (hA : cAt σ 4 a) (j : Nat) (hj : j < 4) {idx : Nat} {ref : String} (hl : Cond.fieldLink own idx ref (TX4 j).2.1 (TX4 j).2.2.1 ∈ wC) (hsame : ∀ x, (g_s X).fieldFound? (TX4 j).1 (TX4 j).2.1 (TX4 j).2.2.1 = some x → (g_s X).fieldFound? ref (TX4 j).2.1 (TX4 j).2.2.1 = some x) (hfin : (TX4 j).2.2.2 = true) (hin : (g_me X).name = "<init>") (hdecl : (TX4 j).1 = own) {ty : FieldType} {v : Value} (hd : parseFieldDescriptor (TX4 j).2.2.1 = some ty) (hn : narrow ty v = v) (hfit : fits ty v = true) (hL : cL τ = cL σ) (hK : cK τ a = 4) (hZ : cZ τ = cZ σ) (hx : cf4 τ a = (cf4 σ a).set j v) (ho : ∀ b, b ≠ a → cEl G τ b = cEl G σ b) (hdg : decode cc pc = .ok (.putfield idx, 3)) (kk : gJ X (cWd G A H0) Q k n τ lv (pc + 3) (rest)) : gJ X (cWd G A H0) Q k n σ lv (pc) (v :: .ref a :: rest) := by
  intro H locs ls hW hl'
  obtain ⟨p, hp⟩ := c_pl (G := G) hA.1
  have e := c_set (τ := τ) hW.2.1 hA.1 hp hL ((cEl_4 hK).trans (by rw [hx])) ho
  rw [cEl_4 hA.2] at hp
  exact va_putF (D := G.1) (cl := vwCl) (ws := cWs G σ) (ci := 4) (C := RX4) (T := TX4) (N := 4) (own := own) (ref := ref) (fs := cf4 σ a) (ty := ty) (v := v) C.1.1 C.1.2.1 C.2.2.1 kC_X4 tyX4 tyX4_ok nmX4 C.2.1 C.2.2.2.1 hW.1 hW.2.1 hW.2.2.1 p hp rfl j hj (C.2.2.1 _ hl) hsame hfin hin hdecl hd hn hfit hj hdg (fun H1 locs1 hP hD hS => kk H1 locs1 ls ⟨e ▸ hP, e ▸ hD, hS, hZ.trans hW.2.2.2⟩ hl')
theorem c_get5 (C : cC X cc nL own G A) (hA : cAt σ 5 a) (j : Nat) (hj : j < 12) {idx : Nat} {ref : String} (hl : Cond.fieldLink own idx ref (TX5 j).2.1 (TX5 j).2.2.1 ∈ wC) (hsame : ∀ x, (g_s X).fieldFound? (TX5 j).1 (TX5 j).2.1 (TX5 j).2.2.1 = some x → (g_s X).fieldFound? ref (TX5 j).2.1 (TX5 j).2.2.1 = some x) {v : Value} (hv : (cf5 σ a)[j]? = some v) (hdg : decode cc pc = .ok (.getfield idx, 3)) (kk : gJ X (cWd G A H0) Q k n σ lv (pc + 3) (v :: rest)) : gJ X (cWd G A H0) Q k n σ lv (pc) (.ref a :: rest) := by
  intro H locs ls hW hl'
  obtain ⟨p, hp⟩ := c_pl (G := G) hA.1
  rw [cEl_5 hA.2] at hp
  exact va_get (D := G.1) (cl := vwCl) (ws := cWs G σ) (ci := 5) (C := RX5) (T := TX5) (N := 12) (own := own) (ref := ref) (fs := cf5 σ a) C.1.1 C.1.2.1 C.2.2.1 kC_X5 C.2.1 C.2.2.2.1 hW.1 p hp rfl j hj (C.2.2.1 _ hl) hsame hv hdg (kk H locs ls hW hl')
theorem c_put5 (C : cC X cc nL own G A) {τ : CSt} (hA : cAt σ 5 a) (j : Nat) (hj : j < 12) {idx : Nat} {ref : String} (hl : Cond.fieldLink own idx ref (TX5 j).2.1 (TX5 j).2.2.1 ∈ wC) (hsame : ∀ x, (g_s X).fieldFound? (TX5 j).1 (TX5 j).2.1 (TX5 j).2.2.1 = some x → (g_s X).fieldFound? ref (TX5 j).2.1 (TX5 j).2.2.1 = some x) (hfin : (TX5 j).2.2.2 = false) {ty : FieldType} {v : Value} (hd : parseFieldDescriptor (TX5 j).2.2.1 = some ty) (hn : narrow ty v = v) (hfit : fits ty v = true) (hL : cL τ = cL σ) (hK : cK τ a = 5) (hZ : cZ τ = cZ σ) (hx : cf5 τ a = (cf5 σ a).set j v) (ho : ∀ b, b ≠ a → cEl G τ b = cEl G σ b) (hdg : decode cc pc = .ok (.putfield idx, 3)) (kk : gJ X (cWd G A H0) Q k n τ lv (pc + 3) (rest)) : gJ X (cWd G A H0) Q k n σ lv (pc) (v :: .ref a :: rest) := by
  intro H locs ls hW hl'
  obtain ⟨p, hp⟩ := c_pl (G := G) hA.1
  have e := c_set (τ := τ) hW.2.1 hA.1 hp hL ((cEl_5 hK).trans (by rw [hx])) ho
  rw [cEl_5 hA.2] at hp
  exact va_put (D := G.1) (cl := vwCl) (ws := cWs G σ) (ci := 5) (C := RX5) (T := TX5) (N := 12) (own := own) (ref := ref) (fs := cf5 σ a) (ty := ty) (v := v) C.1.1 C.1.2.1 C.2.2.1 kC_X5 tyX5 tyX5_ok nmX5 C.2.1 C.2.2.2.1 hW.1 hW.2.1 hW.2.2.1 p hp rfl j hj (C.2.2.1 _ hl) hsame hfin hd hn hfit hj hdg (fun H1 locs1 hP hD hS => kk H1 locs1 ls ⟨e ▸ hP, e ▸ hD, hS, hZ.trans hW.2.2.2⟩ hl')
theorem c_putF5 (C : cC X cc nL own G A) {τ : CSt} (hA : cAt σ 5 a) (j : Nat) (hj : j < 12) {idx : Nat} {ref : String} (hl : Cond.fieldLink own idx ref (TX5 j).2.1 (TX5 j).2.2.1 ∈ wC) (hsame : ∀ x, (g_s X).fieldFound? (TX5 j).1 (TX5 j).2.1 (TX5 j).2.2.1 = some x → (g_s X).fieldFound? ref (TX5 j).2.1 (TX5 j).2.2.1 = some x) (hfin : (TX5 j).2.2.2 = true) (hin : (g_me X).name = "<init>") (hdecl : (TX5 j).1 = own) {ty : FieldType} {v : Value} (hd : parseFieldDescriptor (TX5 j).2.2.1 = some ty) (hn : narrow ty v = v) (hfit : fits ty v = true) (hL : cL τ = cL σ) (hK : cK τ a = 5) (hZ : cZ τ = cZ σ) (hx : cf5 τ a = (cf5 σ a).set j v) (ho : ∀ b, b ≠ a → cEl G τ b = cEl G σ b) (hdg : decode cc pc = .ok (.putfield idx, 3)) (kk : gJ X (cWd G A H0) Q k n τ lv (pc + 3) (rest)) : gJ X (cWd G A H0) Q k n σ lv (pc) (v :: .ref a :: rest) := by
  intro H locs ls hW hl'
  obtain ⟨p, hp⟩ := c_pl (G := G) hA.1
  have e := c_set (τ := τ) hW.2.1 hA.1 hp hL ((cEl_5 hK).trans (by rw [hx])) ho
  rw [cEl_5 hA.2] at hp
  exact va_putF (D := G.1) (cl := vwCl) (ws := cWs G σ) (ci := 5) (C := RX5) (T := TX5) (N := 12) (own := own) (ref := ref) (fs := cf5 σ a) (ty := ty) (v := v) C.1.1 C.1.2.1 C.2.2.1 kC_X5 tyX5 tyX5_ok nmX5 C.2.1 C.2.2.2.1 hW.1 hW.2.1 hW.2.2.1 p hp rfl j hj (C.2.2.1 _ hl) hsame hfin hin hdecl hd hn hfit hj hdg (fun H1 locs1 hP hD hS => kk H1 locs1 ls ⟨e ▸ hP, e ▸ hD, hS, hZ.trans hW.2.2.2⟩ hl')
theorem c_get6 (C : cC X cc nL own G A) (hA : cAt σ 6 a) (j : Nat) (hj : j < 10) {idx : Nat} {ref : String} (hl : Cond.fieldLink own idx ref (TX6 j).2.1 (TX6 j).2.2.1 ∈ wC) (hsame : ∀ x, (g_s X).fieldFound? (TX6 j).1 (TX6 j).2.1 (TX6 j).2.2.1 = some x → (g_s X).fieldFound? ref (TX6 j).2.1 (TX6 j).2.2.1 = some x) {v : Value} (hv : (cf6 σ a)[j]? = some v) (hdg : decode cc pc = .ok (.getfield idx, 3)) (kk : gJ X (cWd G A H0) Q k n σ lv (pc + 3) (v :: rest)) : gJ X (cWd G A H0) Q k n σ lv (pc) (.ref a :: rest) := by
  intro H locs ls hW hl'
  obtain ⟨p, hp⟩ := c_pl (G := G) hA.1
  rw [cEl_6 hA.2] at hp
  exact va_get (D := G.1) (cl := vwCl) (ws := cWs G σ) (ci := 6) (C := RX6) (T := TX6) (N := 10) (own := own) (ref := ref) (fs := cf6 σ a) C.1.1 C.1.2.1 C.2.2.1 kC_X6 C.2.1 C.2.2.2.1 hW.1 p hp rfl j hj (C.2.2.1 _ hl) hsame hv hdg (kk H locs ls hW hl')
theorem c_put6 (C : cC X cc nL own G A) {τ : CSt} (hA : cAt σ 6 a) (j : Nat) (hj : j < 10) {idx : Nat} {ref : String} (hl : Cond.fieldLink own idx ref (TX6 j).2.1 (TX6 j).2.2.1 ∈ wC) (hsame : ∀ x, (g_s X).fieldFound? (TX6 j).1 (TX6 j).2.1 (TX6 j).2.2.1 = some x → (g_s X).fieldFound? ref (TX6 j).2.1 (TX6 j).2.2.1 = some x) (hfin : (TX6 j).2.2.2 = false) {ty : FieldType} {v : Value} (hd : parseFieldDescriptor (TX6 j).2.2.1 = some ty) (hn : narrow ty v = v) (hfit : fits ty v = true) (hL : cL τ = cL σ) (hK : cK τ a = 6) (hZ : cZ τ = cZ σ) (hx : cf6 τ a = (cf6 σ a).set j v) (ho : ∀ b, b ≠ a → cEl G τ b = cEl G σ b) (hdg : decode cc pc = .ok (.putfield idx, 3)) (kk : gJ X (cWd G A H0) Q k n τ lv (pc + 3) (rest)) : gJ X (cWd G A H0) Q k n σ lv (pc) (v :: .ref a :: rest) := by
  intro H locs ls hW hl'
  obtain ⟨p, hp⟩ := c_pl (G := G) hA.1
  have e := c_set (τ := τ) hW.2.1 hA.1 hp hL ((cEl_6 hK).trans (by rw [hx])) ho
  rw [cEl_6 hA.2] at hp
  exact va_put (D := G.1) (cl := vwCl) (ws := cWs G σ) (ci := 6) (C := RX6) (T := TX6) (N := 10) (own := own) (ref := ref) (fs := cf6 σ a) (ty := ty) (v := v) C.1.1 C.1.2.1 C.2.2.1 kC_X6 tyX6 tyX6_ok nmX6 C.2.1 C.2.2.2.1 hW.1 hW.2.1 hW.2.2.1 p hp rfl j hj (C.2.2.1 _ hl) hsame hfin hd hn hfit hj hdg (fun H1 locs1 hP hD hS => kk H1 locs1 ls ⟨e ▸ hP, e ▸ hD, hS, hZ.trans hW.2.2.2⟩ hl')
theorem c_putF6 (C : cC X cc nL own G A) {τ : CSt} (hA : cAt σ 6 a) (j : Nat) (hj : j < 10) {idx : Nat} {ref : String} (hl : Cond.fieldLink own idx ref (TX6 j).2.1 (TX6 j).2.2.1 ∈ wC) (hsame : ∀ x, (g_s X).fieldFound? (TX6 j).1 (TX6 j).2.1 (TX6 j).2.2.1 = some x → (g_s X).fieldFound? ref (TX6 j).2.1 (TX6 j).2.2.1 = some x) (hfin : (TX6 j).2.2.2 = true) (hin : (g_me X).name = "<init>") (hdecl : (TX6 j).1 = own) {ty : FieldType} {v : Value} (hd : parseFieldDescriptor (TX6 j).2.2.1 = some ty) (hn : narrow ty v = v) (hfit : fits ty v = true) (hL : cL τ = cL σ) (hK : cK τ a = 6) (hZ : cZ τ = cZ σ) (hx : cf6 τ a = (cf6 σ a).set j v) (ho : ∀ b, b ≠ a → cEl G τ b = cEl G σ b) (hdg : decode cc pc = .ok (.putfield idx, 3)) (kk : gJ X (cWd G A H0) Q k n τ lv (pc + 3) (rest)) : gJ X (cWd G A H0) Q k n σ lv (pc) (v :: .ref a :: rest) := by
  intro H locs ls hW hl'
  obtain ⟨p, hp⟩ := c_pl (G := G) hA.1
  have e := c_set (τ := τ) hW.2.1 hA.1 hp hL ((cEl_6 hK).trans (by rw [hx])) ho
  rw [cEl_6 hA.2] at hp
  exact va_putF (D := G.1) (cl := vwCl) (ws := cWs G σ) (ci := 6) (C := RX6) (T := TX6) (N := 10) (own := own) (ref := ref) (fs := cf6 σ a) (ty := ty) (v := v) C.1.1 C.1.2.1 C.2.2.1 kC_X6 tyX6 tyX6_ok nmX6 C.2.1 C.2.2.2.1 hW.1 hW.2.1 hW.2.2.1 p hp rfl j hj (C.2.2.1 _ hl) hsame hfin hin hdecl hd hn hfit hj hdg (fun H1 locs1 hP hD hS => kk H1 locs1 ls ⟨e ▸ hP, e ▸ hD, hS, hZ.trans hW.2.2.2⟩ hl')
theorem c_get7 (C : cC X cc nL own G A) (hA : cAt σ 7 a) (j : Nat) (hj : j < 16) {idx : Nat} {ref : String} (hl : Cond.fieldLink own idx ref (TX7 j).2.1 (TX7 j).2.2.1 ∈ wC) (hsame : ∀ x, (g_s X).fieldFound? (TX7 j).1 (TX7 j).2.1 (TX7 j).2.2.1 = some x → (g_s X).fieldFound? ref (TX7 j).2.1 (TX7 j).2.2.1 = some x) {v : Value} (hv : (cf7 σ a)[j]? = some v) (hdg : decode cc pc = .ok (.getfield idx, 3)) (kk : gJ X (cWd G A H0) Q k n σ lv (pc + 3) (v :: rest)) : gJ X (cWd G A H0) Q k n σ lv (pc) (.ref a :: rest) := by
  intro H locs ls hW hl'
  obtain ⟨p, hp⟩ := c_pl (G := G) hA.1
  rw [cEl_7 hA.2] at hp
  exact va_get (D := G.1) (cl := vwCl) (ws := cWs G σ) (ci := 7) (C := RX7) (T := TX7) (N := 16) (own := own) (ref := ref) (fs := cf7 σ a) C.1.1 C.1.2.1 C.2.2.1 kC_X7 C.2.1 C.2.2.2.1 hW.1 p hp rfl j hj (C.2.2.1 _ hl) hsame hv hdg (kk H locs ls hW hl')
theorem c_put7 (C : cC X cc nL own G A) {τ : CSt} (hA : cAt σ 7 a) (j : Nat) (hj : j < 16) {idx : Nat} {ref : String} (hl : Cond.fieldLink own idx ref (TX7 j).2.1 (TX7 j).2.2.1 ∈ wC) (hsame : ∀ x, (g_s X).fieldFound? (TX7 j).1 (TX7 j).2.1 (TX7 j).2.2.1 = some x → (g_s X).fieldFound? ref (TX7 j).2.1 (TX7 j).2.2.1 = some x) (hfin : (TX7 j).2.2.2 = false) {ty : FieldType} {v : Value} (hd : parseFieldDescriptor (TX7 j).2.2.1 = some ty) (hn : narrow ty v = v) (hfit : fits ty v = true) (hL : cL τ = cL σ) (hK : cK τ a = 7) (hZ : cZ τ = cZ σ) (hx : cf7 τ a = (cf7 σ a).set j v) (ho : ∀ b, b ≠ a → cEl G τ b = cEl G σ b) (hdg : decode cc pc = .ok (.putfield idx, 3)) (kk : gJ X (cWd G A H0) Q k n τ lv (pc + 3) (rest)) : gJ X (cWd G A H0) Q k n σ lv (pc) (v :: .ref a :: rest) := by
  intro H locs ls hW hl'
  obtain ⟨p, hp⟩ := c_pl (G := G) hA.1
  have e := c_set (τ := τ) hW.2.1 hA.1 hp hL ((cEl_7 hK).trans (by rw [hx])) ho
  rw [cEl_7 hA.2] at hp
  exact va_put (D := G.1) (cl := vwCl) (ws := cWs G σ) (ci := 7) (C := RX7) (T := TX7) (N := 16) (own := own) (ref := ref) (fs := cf7 σ a) (ty := ty) (v := v) C.1.1 C.1.2.1 C.2.2.1 kC_X7 tyX7 tyX7_ok nmX7 C.2.1 C.2.2.2.1 hW.1 hW.2.1 hW.2.2.1 p hp rfl j hj (C.2.2.1 _ hl) hsame hfin hd hn hfit hj hdg (fun H1 locs1 hP hD hS => kk H1 locs1 ls ⟨e ▸ hP, e ▸ hD, hS, hZ.trans hW.2.2.2⟩ hl')
theorem c_putF7 (C : cC X cc nL own G A) {τ : CSt} (hA : cAt σ 7 a) (j : Nat) (hj : j < 16) {idx : Nat} {ref : String} (hl : Cond.fieldLink own idx ref (TX7 j).2.1 (TX7 j).2.2.1 ∈ wC) (hsame : ∀ x, (g_s X).fieldFound? (TX7 j).1 (TX7 j).2.1 (TX7 j).2.2.1 = some x → (g_s X).fieldFound? ref (TX7 j).2.1 (TX7 j).2.2.1 = some x) (hfin : (TX7 j).2.2.2 = true) (hin : (g_me X).name = "<init>") (hdecl : (TX7 j).1 = own) {ty : FieldType} {v : Value} (hd : parseFieldDescriptor (TX7 j).2.2.1 = some ty) (hn : narrow ty v = v) (hfit : fits ty v = true) (hL : cL τ = cL σ) (hK : cK τ a = 7) (hZ : cZ τ = cZ σ) (hx : cf7 τ a = (cf7 σ a).set j v) (ho : ∀ b, b ≠ a → cEl G τ b = cEl G σ b) (hdg : decode cc pc = .ok (.putfield idx, 3)) (kk : gJ X (cWd G A H0) Q k n τ lv (pc + 3) (rest)) : gJ X (cWd G A H0) Q k n σ lv (pc) (v :: .ref a :: rest) := by
  intro H locs ls hW hl'
  obtain ⟨p, hp⟩ := c_pl (G := G) hA.1
  have e := c_set (τ := τ) hW.2.1 hA.1 hp hL ((cEl_7 hK).trans (by rw [hx])) ho
  rw [cEl_7 hA.2] at hp
  exact va_putF (D := G.1) (cl := vwCl) (ws := cWs G σ) (ci := 7) (C := RX7) (T := TX7) (N := 16) (own := own) (ref := ref) (fs := cf7 σ a) (ty := ty) (v := v) C.1.1 C.1.2.1 C.2.2.1 kC_X7 tyX7 tyX7_ok nmX7 C.2.1 C.2.2.2.1 hW.1 hW.2.1 hW.2.2.1 p hp rfl j hj (C.2.2.1 _ hl) hsame hfin hin hdecl hd hn hfit hj hdg (fun H1 locs1 hP hD hS => kk H1 locs1 ls ⟨e ▸ hP, e ▸ hD, hS, hZ.trans hW.2.2.2⟩ hl')
theorem cx_0_0 (σ : CSt) (a : Nat) (v : Int32) : cf0 (csI σ 0 a v) a = (cf0 σ a).set 0 (.int v) := by simp [cf0, csI, cmk, cI, cR, cJ, cu2]
theorem cx_0_1 (σ : CSt) (a : Nat) (v : Option Nat) : cf0 (csR σ 1 a v) a = (cf0 σ a).set 1 (va_rf v) := by simp [cf0, csR, cmk, cI, cR, cJ, cu2]
theorem cx_0_2 (σ : CSt) (a : Nat) (v : Int32) : cf0 (csI σ 2 a v) a = (cf0 σ a).set 2 (.int v) := by simp [cf0, csI, cmk, cI, cR, cJ, cu2]
theorem cx_1_0 (σ : CSt) (a : Nat) (v : Int32) : cf1 (csI σ 16 a v) a = (cf1 σ a).set 0 (.int v) := by simp [cf1, csI, cmk, cI, cR, cJ, cu2]
theorem cx_1_1 (σ : CSt) (a : Nat) (v : Option Nat) : cf1 (csR σ 17 a v) a = (cf1 σ a).set 1 (va_rf v) := by simp [cf1, csR, cmk, cI, cR, cJ, cu2]
theorem cx_1_2 (σ : CSt) (a : Nat) (v : Int32) : cf1 (csI σ 18 a v) a = (cf1 σ a).set 2 (.int v) := by simp [cf1, csI, cmk, cI, cR, cJ, cu2]
theorem cx_1_3 (σ : CSt) (a : Nat) (v : Int32) : cf1 (csI σ 19 a v) a = (cf1 σ a).set 3 (.int v) := by simp [cf1, csI, cmk, cI, cR, cJ, cu2]
theorem cx_1_4 (σ : CSt) (a : Nat) (v : Int32) : cf1 (csI σ 20 a v) a = (cf1 σ a).set 4 (.int v) := by simp [cf1, csI, cmk, cI, cR, cJ, cu2]
theorem cx_1_5 (σ : CSt) (a : Nat) (v : Int32) : cf1 (csI σ 21 a v) a = (cf1 σ a).set 5 (.int v) := by simp [cf1, csI, cmk, cI, cR, cJ, cu2]
theorem cx_1_6 (σ : CSt) (a : Nat) (v : Int32) : cf1 (csI σ 22 a v) a = (cf1 σ a).set 6 (.int v) := by simp [cf1, csI, cmk, cI, cR, cJ, cu2]
theorem cx_1_7 (σ : CSt) (a : Nat) (v : Option Nat) : cf1 (csR σ 23 a v) a = (cf1 σ a).set 7 (va_rf v) := by simp [cf1, csR, cmk, cI, cR, cJ, cu2]
theorem cx_2_0 (σ : CSt) (a : Nat) (v : Int32) : cf2 (csI σ 32 a v) a = (cf2 σ a).set 0 (.int v) := by simp [cf2, csI, cmk, cI, cR, cJ, cu2]
theorem cx_2_1 (σ : CSt) (a : Nat) (v : Int32) : cf2 (csI σ 33 a v) a = (cf2 σ a).set 1 (.int v) := by simp [cf2, csI, cmk, cI, cR, cJ, cu2]
theorem cx_2_2 (σ : CSt) (a : Nat) (v : Int32) : cf2 (csI σ 34 a v) a = (cf2 σ a).set 2 (.int v) := by simp [cf2, csI, cmk, cI, cR, cJ, cu2]
theorem cx_2_3 (σ : CSt) (a : Nat) (v : Int32) : cf2 (csI σ 35 a v) a = (cf2 σ a).set 3 (.int v) := by simp [cf2, csI, cmk, cI, cR, cJ, cu2]
theorem cx_2_4 (σ : CSt) (a : Nat) (v : Int32) : cf2 (csI σ 36 a v) a = (cf2 σ a).set 4 (.int v) := by simp [cf2, csI, cmk, cI, cR, cJ, cu2]
theorem cx_2_5 (σ : CSt) (a : Nat) (v : Int32) : cf2 (csI σ 37 a v) a = (cf2 σ a).set 5 (.int v) := by simp [cf2, csI, cmk, cI, cR, cJ, cu2]
theorem cx_2_6 (σ : CSt) (a : Nat) (v : Int32) : cf2 (csI σ 38 a v) a = (cf2 σ a).set 6 (.int v) := by simp [cf2, csI, cmk, cI, cR, cJ, cu2]
theorem cx_2_7 (σ : CSt) (a : Nat) (v : Int32) : cf2 (csI σ 39 a v) a = (cf2 σ a).set 7 (.int v) := by simp [cf2, csI, cmk, cI, cR, cJ, cu2]
theorem cx_2_8 (σ : CSt) (a : Nat) (v : Int32) : cf2 (csI σ 40 a v) a = (cf2 σ a).set 8 (.int v) := by simp [cf2, csI, cmk, cI, cR, cJ, cu2]
theorem cx_3_0 (σ : CSt) (a : Nat) (v : Int32) : cf3 (csI σ 48 a v) a = (cf3 σ a).set 0 (.int v) := by simp [cf3, csI, cmk, cI, cR, cJ, cu2]
theorem cx_3_1 (σ : CSt) (a : Nat) (v : Int32) : cf3 (csI σ 49 a v) a = (cf3 σ a).set 1 (.int v) := by simp [cf3, csI, cmk, cI, cR, cJ, cu2]
theorem cx_3_2 (σ : CSt) (a : Nat) (v : Int32) : cf3 (csI σ 50 a v) a = (cf3 σ a).set 2 (.int v) := by simp [cf3, csI, cmk, cI, cR, cJ, cu2]
theorem cx_3_3 (σ : CSt) (a : Nat) (v : Int32) : cf3 (csI σ 51 a v) a = (cf3 σ a).set 3 (.int v) := by simp [cf3, csI, cmk, cI, cR, cJ, cu2]
theorem cx_3_4 (σ : CSt) (a : Nat) (v : Int32) : cf3 (csI σ 52 a v) a = (cf3 σ a).set 4 (.int v) := by simp [cf3, csI, cmk, cI, cR, cJ, cu2]
theorem cx_3_5 (σ : CSt) (a : Nat) (v : Int32) : cf3 (csI σ 53 a v) a = (cf3 σ a).set 5 (.int v) := by simp [cf3, csI, cmk, cI, cR, cJ, cu2]
theorem cx_3_6 (σ : CSt) (a : Nat) (v : Option Nat) : cf3 (csR σ 54 a v) a = (cf3 σ a).set 6 (va_rf v) := by simp [cf3, csR, cmk, cI, cR, cJ, cu2]
theorem cx_3_7 (σ : CSt) (a : Nat) (v : Int32) : cf3 (csI σ 55 a v) a = (cf3 σ a).set 7 (.int v) := by simp [cf3, csI, cmk, cI, cR, cJ, cu2]
theorem cx_3_8 (σ : CSt) (a : Nat) (v : Int32) : cf3 (csI σ 56 a v) a = (cf3 σ a).set 8 (.int v) := by simp [cf3, csI, cmk, cI, cR, cJ, cu2]
theorem cx_4_0 (σ : CSt) (a : Nat) (v : Option Nat) : cf4 (csR σ 64 a v) a = (cf4 σ a).set 0 (va_rf v) := by simp [cf4, csR, cmk, cI, cR, cJ, cu2]
theorem cx_4_1 (σ : CSt) (a : Nat) (v : Option Nat) : cf4 (csR σ 65 a v) a = (cf4 σ a).set 1 (va_rf v) := by simp [cf4, csR, cmk, cI, cR, cJ, cu2]
theorem cx_4_2 (σ : CSt) (a : Nat) (v : Int32) : cf4 (csI σ 66 a v) a = (cf4 σ a).set 2 (.int v) := by simp [cf4, csI, cmk, cI, cR, cJ, cu2]
theorem cx_4_3 (σ : CSt) (a : Nat) (v : Int32) : cf4 (csI σ 67 a v) a = (cf4 σ a).set 3 (.int v) := by simp [cf4, csI, cmk, cI, cR, cJ, cu2]
theorem cx_5_0 (σ : CSt) (a : Nat) (v : Int32) : cf5 (csI σ 80 a v) a = (cf5 σ a).set 0 (.int v) := by simp [cf5, csI, cmk, cI, cR, cJ, cu2]
theorem cx_5_1 (σ : CSt) (a : Nat) (v : Int32) : cf5 (csI σ 81 a v) a = (cf5 σ a).set 1 (.int v) := by simp [cf5, csI, cmk, cI, cR, cJ, cu2]
theorem cx_5_2 (σ : CSt) (a : Nat) (v : Option Nat) : cf5 (csR σ 82 a v) a = (cf5 σ a).set 2 (va_rf v) := by simp [cf5, csR, cmk, cI, cR, cJ, cu2]
theorem cx_5_3 (σ : CSt) (a : Nat) (v : Int32) : cf5 (csI σ 83 a v) a = (cf5 σ a).set 3 (.int v) := by simp [cf5, csI, cmk, cI, cR, cJ, cu2]
theorem cx_5_4 (σ : CSt) (a : Nat) (v : Option Nat) : cf5 (csR σ 84 a v) a = (cf5 σ a).set 4 (va_rf v) := by simp [cf5, csR, cmk, cI, cR, cJ, cu2]
theorem cx_5_5 (σ : CSt) (a : Nat) (v : Int32) : cf5 (csI σ 85 a v) a = (cf5 σ a).set 5 (.int v) := by simp [cf5, csI, cmk, cI, cR, cJ, cu2]
theorem cx_5_6 (σ : CSt) (a : Nat) (v : Int32) : cf5 (csI σ 86 a v) a = (cf5 σ a).set 6 (.int v) := by simp [cf5, csI, cmk, cI, cR, cJ, cu2]
theorem cx_5_7 (σ : CSt) (a : Nat) (v : Int32) : cf5 (csI σ 87 a v) a = (cf5 σ a).set 7 (.int v) := by simp [cf5, csI, cmk, cI, cR, cJ, cu2]
theorem cx_5_8 (σ : CSt) (a : Nat) (v : Int32) : cf5 (csI σ 88 a v) a = (cf5 σ a).set 8 (.int v) := by simp [cf5, csI, cmk, cI, cR, cJ, cu2]
theorem cx_5_9 (σ : CSt) (a : Nat) (v : Int32) : cf5 (csI σ 89 a v) a = (cf5 σ a).set 9 (.int v) := by simp [cf5, csI, cmk, cI, cR, cJ, cu2]
theorem cx_5_10 (σ : CSt) (a : Nat) (v : Int32) : cf5 (csI σ 90 a v) a = (cf5 σ a).set 10 (.int v) := by simp [cf5, csI, cmk, cI, cR, cJ, cu2]
theorem cx_5_11 (σ : CSt) (a : Nat) (v : Int32) : cf5 (csI σ 91 a v) a = (cf5 σ a).set 11 (.int v) := by simp [cf5, csI, cmk, cI, cR, cJ, cu2]
theorem cx_6_0 (σ : CSt) (a : Nat) (v : Int32) : cf6 (csI σ 96 a v) a = (cf6 σ a).set 0 (.int v) := by simp [cf6, csI, cmk, cI, cR, cJ, cu2]
theorem cx_6_1 (σ : CSt) (a : Nat) (v : Int32) : cf6 (csI σ 97 a v) a = (cf6 σ a).set 1 (.int v) := by simp [cf6, csI, cmk, cI, cR, cJ, cu2]
theorem cx_6_2 (σ : CSt) (a : Nat) (v : Int32) : cf6 (csI σ 98 a v) a = (cf6 σ a).set 2 (.int v) := by simp [cf6, csI, cmk, cI, cR, cJ, cu2]
theorem cx_6_3 (σ : CSt) (a : Nat) (v : Int32) : cf6 (csI σ 99 a v) a = (cf6 σ a).set 3 (.int v) := by simp [cf6, csI, cmk, cI, cR, cJ, cu2]
theorem cx_6_4 (σ : CSt) (a : Nat) (v : Int32) : cf6 (csI σ 100 a v) a = (cf6 σ a).set 4 (.int v) := by simp [cf6, csI, cmk, cI, cR, cJ, cu2]
theorem cx_6_5 (σ : CSt) (a : Nat) (v : Option Nat) : cf6 (csR σ 101 a v) a = (cf6 σ a).set 5 (va_rf v) := by simp [cf6, csR, cmk, cI, cR, cJ, cu2]
theorem cx_6_6 (σ : CSt) (a : Nat) (v : Int32) : cf6 (csI σ 102 a v) a = (cf6 σ a).set 6 (.int v) := by simp [cf6, csI, cmk, cI, cR, cJ, cu2]
theorem cx_6_7 (σ : CSt) (a : Nat) (v : Int32) : cf6 (csI σ 103 a v) a = (cf6 σ a).set 7 (.int v) := by simp [cf6, csI, cmk, cI, cR, cJ, cu2]
theorem cx_6_8 (σ : CSt) (a : Nat) (v : Option Nat) : cf6 (csR σ 104 a v) a = (cf6 σ a).set 8 (va_rf v) := by simp [cf6, csR, cmk, cI, cR, cJ, cu2]
theorem cx_6_9 (σ : CSt) (a : Nat) (v : Int32) : cf6 (csI σ 105 a v) a = (cf6 σ a).set 9 (.int v) := by simp [cf6, csI, cmk, cI, cR, cJ, cu2]
theorem cx_7_0 (σ : CSt) (a : Nat) (v : Option Nat) : cf7 (csR σ 112 a v) a = (cf7 σ a).set 0 (va_rf v) := by simp [cf7, csR, cmk, cI, cR, cJ, cu2]
theorem cx_7_1 (σ : CSt) (a : Nat) (v : Option Nat) : cf7 (csR σ 113 a v) a = (cf7 σ a).set 1 (va_rf v) := by simp [cf7, csR, cmk, cI, cR, cJ, cu2]
theorem cx_7_2 (σ : CSt) (a : Nat) (v : Option Nat) : cf7 (csR σ 114 a v) a = (cf7 σ a).set 2 (va_rf v) := by simp [cf7, csR, cmk, cI, cR, cJ, cu2]
theorem cx_7_3 (σ : CSt) (a : Nat) (v : Option Nat) : cf7 (csR σ 115 a v) a = (cf7 σ a).set 3 (va_rf v) := by simp [cf7, csR, cmk, cI, cR, cJ, cu2]
theorem cx_7_4 (σ : CSt) (a : Nat) (v : Option Nat) : cf7 (csR σ 116 a v) a = (cf7 σ a).set 4 (va_rf v) := by simp [cf7, csR, cmk, cI, cR, cJ, cu2]
theorem cx_7_5 (σ : CSt) (a : Nat) (v : Option Nat) : cf7 (csR σ 117 a v) a = (cf7 σ a).set 5 (va_rf v) := by simp [cf7, csR, cmk, cI, cR, cJ, cu2]
theorem cx_7_6 (σ : CSt) (a : Nat) (v : Option Nat) : cf7 (csR σ 118 a v) a = (cf7 σ a).set 6 (va_rf v) := by simp [cf7, csR, cmk, cI, cR, cJ, cu2]
theorem cx_7_7 (σ : CSt) (a : Nat) (v : Int32) : cf7 (csI σ 119 a v) a = (cf7 σ a).set 7 (.int v) := by simp [cf7, csI, cmk, cI, cR, cJ, cu2]
theorem cx_7_8 (σ : CSt) (a : Nat) (v : Int32) : cf7 (csI σ 120 a v) a = (cf7 σ a).set 8 (.int v) := by simp [cf7, csI, cmk, cI, cR, cJ, cu2]
theorem cx_7_9 (σ : CSt) (a : Nat) (v : Int32) : cf7 (csI σ 121 a v) a = (cf7 σ a).set 9 (.int v) := by simp [cf7, csI, cmk, cI, cR, cJ, cu2]
theorem cx_7_10 (σ : CSt) (a : Nat) (v : Int32) : cf7 (csI σ 122 a v) a = (cf7 σ a).set 10 (.int v) := by simp [cf7, csI, cmk, cI, cR, cJ, cu2]
theorem cx_7_11 (σ : CSt) (a : Nat) (v : Int32) : cf7 (csI σ 123 a v) a = (cf7 σ a).set 11 (.int v) := by simp [cf7, csI, cmk, cI, cR, cJ, cu2]
theorem cx_7_12 (σ : CSt) (a : Nat) (v : Int64) : cf7 (csJ σ 124 a v) a = (cf7 σ a).set 12 (.long v) := by simp [cf7, csJ, cmk, cI, cR, cJ, cu2]
theorem cx_7_13 (σ : CSt) (a : Nat) (v : Int64) : cf7 (csJ σ 125 a v) a = (cf7 σ a).set 13 (.long v) := by simp [cf7, csJ, cmk, cI, cR, cJ, cu2]
theorem cx_7_14 (σ : CSt) (a : Nat) (v : Int64) : cf7 (csJ σ 126 a v) a = (cf7 σ a).set 14 (.long v) := by simp [cf7, csJ, cmk, cI, cR, cJ, cu2]
theorem cx_7_15 (σ : CSt) (a : Nat) (v : Int64) : cf7 (csJ σ 127 a v) a = (cf7 σ a).set 15 (.long v) := by simp [cf7, csJ, cmk, cI, cR, cJ, cu2]
end CLIB
theorem csV_8 {G : cG} {σ : CSt} {a : Nat} {f : Nat → Int32} (h : cK σ a = 8) : cEl G (csV σ a f) a = .inl (G.2.1.1, cN σ a, .inl f) := (cEl_8 (σ := csV σ a f) h).trans (by rw [show cV (csV σ a f) a = f from va_up_self _ _ _]; rfl)
theorem csV_9 {G : cG} {σ : CSt} {a : Nat} {f : Nat → Int32} (h : cK σ a = 9) : cEl G (csV σ a f) a = .inl (G.2.1.2.1, cN σ a, .inl f) := (cEl_9 (σ := csV σ a f) h).trans (by rw [show cV (csV σ a f) a = f from va_up_self _ _ _]; rfl)
theorem csE_10 {G : cG} {σ : CSt} {a : Nat} {f : Nat → Option Nat} (h : cK σ a = 10) : cEl G (csE σ a f) a = .inl (G.2.1.2.2, cN σ a, .inr (.inr (.inr (.inr f)))) := (cEl_10 (σ := csE σ a f) h).trans (by rw [show cE (csE σ a f) a = f from va_up_self _ _ _]; rfl)
theorem csA_8 {G : cG} {σ : CSt} {q m : Nat} : cEl G (csA σ q 8 m) q = .inl (G.2.1.1, m, .inl (fun _ => 0)) := (cEl_8 (σ := csA σ q 8 m) (va_up_self _ _ _)).trans (by rw [show cV (csA σ q 8 m) q = (fun _ => 0) from va_up_self _ _ _, show cN (csA σ q 8 m) q = m from va_up_self _ _ _])
theorem csA_9 {G : cG} {σ : CSt} {q m : Nat} : cEl G (csA σ q 9 m) q = .inl (G.2.1.2.1, m, .inl (fun _ => 0)) := (cEl_9 (σ := csA σ q 9 m) (va_up_self _ _ _)).trans (by rw [show cV (csA σ q 9 m) q = (fun _ => 0) from va_up_self _ _ _, show cN (csA σ q 9 m) q = m from va_up_self _ _ _])
theorem csA_10 {G : cG} {σ : CSt} {q m : Nat} : cEl G (csA σ q 10 m) q = .inl (G.2.1.2.2, m, .inr (.inr (.inr (.inr (fun _ => none))))) := (cEl_10 (σ := csA σ q 10 m) (va_up_self _ _ _)).trans (by rw [show cE (csA σ q 10 m) q = (fun _ => none) from va_up_self _ _ _, show cN (csA σ q 10 m) q = m from va_up_self _ _ _])
section CARR
variable {X : gT} {Q : State → Prop} {k n : Nat} {σ : CSt} {lv : List (Nat × Value)} {pc : Nat} {rest : List Value} {cc : ByteArray} {nL : Nat} {own : String} {G : cG} {A : Nat → Prop} {H0 : Heap} {a : Nat}
theorem c_bald (C : cC X cc nL own G A) (hA : cAt σ 8 a) {i : Int32} (hin : vp_in i (cN σ a)) (hdg : decode cc pc = .ok (.baload, 1)) (kk : gJ X (cWd G A H0) Q k n σ lv (pc + 1) (.int (cV σ a i.toNatClampNeg) :: rest)) : gJ X (cWd G A H0) Q k n σ lv (pc) (.int i :: .ref a :: rest) := by
  intro H locs ls hW hl'
  obtain ⟨p, hp⟩ := c_pl (G := G) hA.1
  rw [cEl_8 hA.2] at hp
  exact va_bald (D := G.1) (cl := vwCl) (ws := cWs G σ) (tys := cKt G) C.1.1 C.1.2.1 C.2.2.2.1 hW.1 p 0 hp rfl hin hdg (kk H locs ls hW hl')
theorem c_iald (C : cC X cc nL own G A) (hA : cAt σ 9 a) {i : Int32} (hin : vp_in i (cN σ a)) (hdg : decode cc pc = .ok (.iaload, 1)) (kk : gJ X (cWd G A H0) Q k n σ lv (pc + 1) (.int (cV σ a i.toNatClampNeg) :: rest)) : gJ X (cWd G A H0) Q k n σ lv (pc) (.int i :: .ref a :: rest) := by
  intro H locs ls hW hl'
  obtain ⟨p, hp⟩ := c_pl (G := G) hA.1
  rw [cEl_9 hA.2] at hp
  exact va_iald (D := G.1) (cl := vwCl) (ws := cWs G σ) (tys := cKt G) C.1.1 C.1.2.1 C.2.2.2.1 hW.1 p 1 hp rfl hin hdg (kk H locs ls hW hl')
theorem c_aald (C : cC X cc nL own G A) (hA : cAt σ 10 a) {i : Int32} (hin : vp_in i (cN σ a)) (hdg : decode cc pc = .ok (.aaload, 1)) (kk : gJ X (cWd G A H0) Q k n σ lv (pc + 1) (va_rf (cE σ a i.toNatClampNeg) :: rest)) : gJ X (cWd G A H0) Q k n σ lv (pc) (.int i :: .ref a :: rest) := by
  intro H locs ls hW hl'
  obtain ⟨p, hp⟩ := c_pl (G := G) hA.1
  rw [cEl_10 hA.2] at hp
  exact va_aldq (D := G.1) (cl := vwCl) (ws := cWs G σ) (tys := cKt G) C.1.1 C.1.2.1 C.2.2.2.1 hW.1 p 2 hp rfl hin hdg (kk H locs ls hW hl')
theorem c_bast (C : cC X cc nL own G A) (hA : cAt σ 8 a) {i x : Int32} (hin : vp_in i (cN σ a)) (hdg : decode cc pc = .ok (.bastore, 1)) (kk : gJ X (cWd G A H0) Q k n (csV σ a (upd (cV σ a) i.toNatClampNeg (vp_nar .byte x))) lv (pc + 1) (rest)) : gJ X (cWd G A H0) Q k n σ lv (pc) (.int x :: .int i :: .ref a :: rest) := by
  intro H locs ls hW hl'
  obtain ⟨p, hp⟩ := c_pl (G := G) hA.1
  have e := c_set (τ := csV σ a (upd (cV σ a) i.toNatClampNeg (vp_nar .byte x))) hW.2.1 hA.1 hp rfl (csV_8 hA.2) (fun b hb => csV_o hb)
  rw [cEl_8 hA.2] at hp
  exact va_bast (D := G.1) (cl := vwCl) (ws := cWs G σ) (tys := cKt G) C.1.1 C.1.2.1 C.2.2.2.1 hW.1 hW.2.1 hW.2.2.1 p 0 hp rfl hin hdg (fun H1 locs1 hP hD hS => kk H1 locs1 ls ⟨e ▸ hP, e ▸ hD, hS, hW.2.2.2⟩ hl')
theorem c_iast (C : cC X cc nL own G A) (hA : cAt σ 9 a) {i x : Int32} (hin : vp_in i (cN σ a)) (hdg : decode cc pc = .ok (.iastore, 1)) (kk : gJ X (cWd G A H0) Q k n (csV σ a (upd (cV σ a) i.toNatClampNeg (x))) lv (pc + 1) (rest)) : gJ X (cWd G A H0) Q k n σ lv (pc) (.int x :: .int i :: .ref a :: rest) := by
  intro H locs ls hW hl'
  obtain ⟨p, hp⟩ := c_pl (G := G) hA.1
  have e := c_set (τ := csV σ a (upd (cV σ a) i.toNatClampNeg (x))) hW.2.1 hA.1 hp rfl (csV_9 hA.2) (fun b hb => csV_o hb)
  rw [cEl_9 hA.2] at hp
  exact va_iast (D := G.1) (cl := vwCl) (ws := cWs G σ) (tys := cKt G) C.1.1 C.1.2.1 C.2.2.2.1 hW.1 hW.2.1 hW.2.2.1 p 1 hp rfl hin hdg (fun H1 locs1 hP hD hS => kk H1 locs1 ls ⟨e ▸ hP, e ▸ hD, hS, hW.2.2.2⟩ hl')
/-- an element of a list: an object of a kind that lists hold -/
def cElm (σ : CSt) (v : Nat) : Prop := ∃ kd : Nat, (kd = 1 ∨ kd = 2 ∨ kd = 3 ∨ kd = 4 ∨ kd = 6) ∧ cAt σ kd v
theorem cNg_o1 : Cond.castable "SkiHill$Cell" "java/lang/Object" ∈ cNg := List.mem_append_right _ (by decide +kernel)
theorem cNg_s1 : Cond.castable "SkiHill$Cell" "SkiHill$Cell" ∈ cNg := List.mem_append_right _ (by decide +kernel)
theorem cNg_o2 : Cond.castable "SkiHill$Group" "java/lang/Object" ∈ cNg := List.mem_append_right _ (by decide +kernel)
theorem cNg_s2 : Cond.castable "SkiHill$Group" "SkiHill$Group" ∈ cNg := List.mem_append_right _ (by decide +kernel)
theorem cNg_o3 : Cond.castable "SkiHill$Lift" "java/lang/Object" ∈ cNg := List.mem_append_right _ (by decide +kernel)
theorem cNg_s3 : Cond.castable "SkiHill$Lift" "SkiHill$Lift" ∈ cNg := List.mem_append_right _ (by decide +kernel)
theorem cNg_o4 : Cond.castable "SkiHill$Link" "java/lang/Object" ∈ cNg := List.mem_append_right _ (by decide +kernel)
theorem cNg_s4 : Cond.castable "SkiHill$Link" "SkiHill$Link" ∈ cNg := List.mem_append_right _ (by decide +kernel)
theorem cNg_o6 : Cond.castable "SkiHill$Slope" "java/lang/Object" ∈ cNg := List.mem_append_right _ (by decide +kernel)
theorem cNg_s6 : Cond.castable "SkiHill$Slope" "SkiHill$Slope" ∈ cNg := List.mem_append_right _ (by decide +kernel)
theorem cNg_n : Cond.methodLinkNest RX7 30 yX5_init RX7 ∈ cNg := List.mem_append_right _ (by decide +kernel)
theorem cNg_d : Cond.declares ⟨"java/lang/Object", "getClass", "()Ljava/lang/Class;"⟩ ∈ cNg := List.mem_append_right _ (by decide +kernel)
theorem c_aast (C : cC X cc nL own G A) (hA : cAt σ 10 a) {i : Int32} {v : Nat} (hv : cElm σ v) (hin : vp_in i (cN σ a)) (hdg : decode cc pc = .ok (.aastore, 1)) (kk : gJ X (cWd G A H0) Q k n (csE σ a (va_up (cE σ a) i.toNatClampNeg (some v))) lv (pc + 1) (rest)) : gJ X (cWd G A H0) Q k n σ lv (pc) (.ref v :: .int i :: .ref a :: rest) := by
  intro H locs ls hW hl'
  obtain ⟨p, hp⟩ := c_pl (G := G) hA.1
  have e := c_set (τ := csE σ a (va_up (cE σ a) i.toNatClampNeg (some v))) hW.2.1 hA.1 hp rfl (csE_10 hA.2) (fun b hb => csE_o hb)
  rw [cEl_10 hA.2] at hp
  obtain ⟨kd, hkd, hvA⟩ := hv
  obtain ⟨pv, hpv⟩ := c_pl (G := G) hvA.1
  rcases hkd with rfl | rfl | rfl | rfl | rfl
  · rw [cEl_1 hvA.2] at hpv
    exact va_astqO (D := G.1) (cl := vwCl) (ws := cWs G σ) (tys := cKt G) (E := "java/lang/Object") C.1.1 C.1.2.1 C.2.2.2.1 hW.1 hW.2.1 hW.2.2.1 p 2 pv 1 hp rfl (C.2.2.2.2.2.2.2.2.2.1 _ cNg_o1) hpv rfl hin hdg (fun H1 locs1 hP hD hS => kk H1 locs1 ls ⟨e ▸ hP, e ▸ hD, hS, hW.2.2.2⟩ hl')
  · rw [cEl_2 hvA.2] at hpv
    exact va_astqO (D := G.1) (cl := vwCl) (ws := cWs G σ) (tys := cKt G) (E := "java/lang/Object") C.1.1 C.1.2.1 C.2.2.2.1 hW.1 hW.2.1 hW.2.2.1 p 2 pv 2 hp rfl (C.2.2.2.2.2.2.2.2.2.1 _ cNg_o2) hpv rfl hin hdg (fun H1 locs1 hP hD hS => kk H1 locs1 ls ⟨e ▸ hP, e ▸ hD, hS, hW.2.2.2⟩ hl')
  · rw [cEl_3 hvA.2] at hpv
    exact va_astqO (D := G.1) (cl := vwCl) (ws := cWs G σ) (tys := cKt G) (E := "java/lang/Object") C.1.1 C.1.2.1 C.2.2.2.1 hW.1 hW.2.1 hW.2.2.1 p 2 pv 3 hp rfl (C.2.2.2.2.2.2.2.2.2.1 _ cNg_o3) hpv rfl hin hdg (fun H1 locs1 hP hD hS => kk H1 locs1 ls ⟨e ▸ hP, e ▸ hD, hS, hW.2.2.2⟩ hl')
  · rw [cEl_4 hvA.2] at hpv
    exact va_astqO (D := G.1) (cl := vwCl) (ws := cWs G σ) (tys := cKt G) (E := "java/lang/Object") C.1.1 C.1.2.1 C.2.2.2.1 hW.1 hW.2.1 hW.2.2.1 p 2 pv 4 hp rfl (C.2.2.2.2.2.2.2.2.2.1 _ cNg_o4) hpv rfl hin hdg (fun H1 locs1 hP hD hS => kk H1 locs1 ls ⟨e ▸ hP, e ▸ hD, hS, hW.2.2.2⟩ hl')
  · rw [cEl_6 hvA.2] at hpv
    exact va_astqO (D := G.1) (cl := vwCl) (ws := cWs G σ) (tys := cKt G) (E := "java/lang/Object") C.1.1 C.1.2.1 C.2.2.2.1 hW.1 hW.2.1 hW.2.2.1 p 2 pv 6 hp rfl (C.2.2.2.2.2.2.2.2.2.1 _ cNg_o6) hpv rfl hin hdg (fun H1 locs1 hP hD hS => kk H1 locs1 ls ⟨e ▸ hP, e ▸ hD, hS, hW.2.2.2⟩ hl')
theorem c_aastN (C : cC X cc nL own G A) (hA : cAt σ 10 a) {i : Int32}  (hin : vp_in i (cN σ a)) (hdg : decode cc pc = .ok (.aastore, 1)) (kk : gJ X (cWd G A H0) Q k n (csE σ a (va_up (cE σ a) i.toNatClampNeg none)) lv (pc + 1) (rest)) : gJ X (cWd G A H0) Q k n σ lv (pc) (.null :: .int i :: .ref a :: rest) := by
  intro H locs ls hW hl'
  obtain ⟨p, hp⟩ := c_pl (G := G) hA.1
  have e := c_set (τ := csE σ a (va_up (cE σ a) i.toNatClampNeg none)) hW.2.1 hA.1 hp rfl (csE_10 hA.2) (fun b hb => csE_o hb)
  rw [cEl_10 hA.2] at hp
  exact va_astqN (D := G.1) (cl := vwCl) (ws := cWs G σ) (tys := cKt G) C.1.1 C.1.2.1 C.2.2.2.1 hW.1 hW.2.1 hW.2.2.1 p 2 hp rfl hin hdg (fun H1 locs1 hP hD hS => kk H1 locs1 ls ⟨e ▸ hP, e ▸ hD, hS, hW.2.2.2⟩ hl')
theorem c_aastQ (C : cC X cc nL own G A) (hA : cAt σ 10 a) {i : Int32} {v : Option Nat} (hv : ∀ y : Nat, v = some y → cElm σ y) (hin : vp_in i (cN σ a)) (hdg : decode cc pc = .ok (.aastore, 1)) (kk : gJ X (cWd G A H0) Q k n (csE σ a (va_up (cE σ a) i.toNatClampNeg v)) lv (pc + 1) (rest)) : gJ X (cWd G A H0) Q k n σ lv (pc) (va_rf v :: .int i :: .ref a :: rest) := by
  cases v with
  | none => exact c_aastN C hA hin hdg kk
  | some y => exact c_aast C hA (hv y rfl) hin hdg kk
theorem c_blen (C : cC X cc nL own G A) (hA : cAt σ 8 a) (hdg : decode cc pc = .ok (.arraylength, 1)) (kk : gJ X (cWd G A H0) Q k n σ lv (pc + 1) (.int (nI (cN σ a)) :: rest)) : gJ X (cWd G A H0) Q k n σ lv (pc) (.ref a :: rest) := by
  intro H locs ls hW hl'
  obtain ⟨p, hp⟩ := c_pl (G := G) hA.1
  rw [cEl_8 hA.2] at hp
  exact va_alen (D := G.1) (cl := vwCl) (ws := cWs G σ) (tys := cKt G) C.1.1 C.1.2.1 C.2.2.2.1 hW.1 p 0 hp rfl rfl hdg (kk H locs ls hW hl')
theorem c_ilen (C : cC X cc nL own G A) (hA : cAt σ 9 a) (hdg : decode cc pc = .ok (.arraylength, 1)) (kk : gJ X (cWd G A H0) Q k n σ lv (pc + 1) (.int (nI (cN σ a)) :: rest)) : gJ X (cWd G A H0) Q k n σ lv (pc) (.ref a :: rest) := by
  intro H locs ls hW hl'
  obtain ⟨p, hp⟩ := c_pl (G := G) hA.1
  rw [cEl_9 hA.2] at hp
  exact va_alen (D := G.1) (cl := vwCl) (ws := cWs G σ) (tys := cKt G) C.1.1 C.1.2.1 C.2.2.2.1 hW.1 p 1 hp rfl rfl hdg (kk H locs ls hW hl')
theorem c_alen (C : cC X cc nL own G A) (hA : cAt σ 10 a) (hdg : decode cc pc = .ok (.arraylength, 1)) (kk : gJ X (cWd G A H0) Q k n σ lv (pc + 1) (.int (nI (cN σ a)) :: rest)) : gJ X (cWd G A H0) Q k n σ lv (pc) (.ref a :: rest) := by
  intro H locs ls hW hl'
  obtain ⟨p, hp⟩ := c_pl (G := G) hA.1
  rw [cEl_10 hA.2] at hp
  exact va_alen (D := G.1) (cl := vwCl) (ws := cWs G σ) (tys := cKt G) C.1.1 C.1.2.1 C.2.2.2.1 hW.1 p 2 hp rfl rfl hdg (kk H locs ls hW hl')
/-- the length of a list's row, that may be the empty one that all new lists share -/
def cNq (σ : CSt) (a : Nat) : Nat := if a = (cZ σ).1 then 0 else cN σ a
theorem c_elen (C : cC X cc nL own G A) (hsz : H0 = (g_s X).heap) (hA : a = (cZ σ).1 ∨ (a ≠ (cZ σ).1 ∧ cAt σ 10 a)) (hdg : decode cc pc = .ok (.arraylength, 1)) (kk : gJ X (cWd G A H0) Q k n σ lv (pc + 1) (.int (nI (cNq σ a)) :: rest)) : gJ X (cWd G A H0) Q k n σ lv (pc) (.ref a :: rest) := by
  rcases hA with h | ⟨h, hA⟩
  · unfold cNq at kk
    rw [if_pos h] at kk
    intro H locs ls hW hl'
    subst hsz
    have hz : a = G.2.2.2.2.1 := by rw [h, hW.2.2.2]
    rw [hz]
    exact va_tlen C.1.1 C.1.2.1 C.2.2.2.2.2.2.2.1.2 hW.2.2.1 rfl hdg (kk H locs ls hW hl')
  · unfold cNq at kk
    rw [if_neg h] at kk
    exact c_alen C hA hdg kk
theorem c_empty {idx : Nat} (C : cC X cc nL own G A) (hsz : H0 = (g_s X).heap) (hl : Cond.fieldLink own idx "java/util/ArrayList" "DEFAULTCAPACITY_EMPTY_ELEMENTDATA" "[Ljava/lang/Object;" ∈ wC) (hdg : decode cc pc = .ok (.getstatic idx, 3)) (kk : gJ X (cWd G A H0) Q k n σ lv (pc + 3) (.ref (cZ σ).1 :: rest)) : gJ X (cWd G A H0) Q k n σ lv (pc) (rest) := by
  intro H locs ls hW hl'
  have h := kk H locs ls hW hl'
  rw [hW.2.2.2] at h
  subst hsz
  exact va_gets C.1.1 C.1.2.1 C.2.2.2.2.2.2.2.1.1 hW.2.2.1 C.2.1 (C.2.2.1 _ hl) (fun _ h => h) hdg h
theorem c_ldcM {idx : Nat} (C : cC X cc nL own G A) (hl : Cond.classLink own idx "[Ljava/lang/Object;" ∈ wC) (hdg : decode cc pc = .ok (.ldc idx, 2)) (kk : gJ X (cWd G A H0) Q k n σ lv (pc + 2) (.ref (cZ σ).2 :: rest)) : gJ X (cWd G A H0) Q k n σ lv (pc) (rest) := by
  intro H locs ls hW hl'
  have h := kk H locs ls hW hl'
  rw [hW.2.2.2] at h
  exact va_ldcM C.1.1 C.1.2.1 C.2.1 (C.2.2.1 _ hl) C.2.2.2.2.2.2.2.2.2.2.2 hdg h
theorem c_getC {idx : Nat} (C : cC X cc nL own G A) (hA : cAt σ 10 a) (hl : Cond.methodLink own idx ⟨"java/lang/Object", "getClass", "()Ljava/lang/Class;"⟩ ∈ wC) (hsel : Cond.selects "[Ljava/lang/Object;" ⟨"java/lang/Object", "getClass", "()Ljava/lang/Class;"⟩ ⟨"java/lang/Object", "getClass", "()Ljava/lang/Class;"⟩ ∈ wC) (hinst : Cond.instanceMethod ⟨"java/lang/Object", "getClass", "()Ljava/lang/Class;"⟩ ∈ wC) (hnat : Cond.native ⟨"java/lang/Object", "getClass", "()Ljava/lang/Class;"⟩ ∈ wC) (hframes : 1 ≤ (g_R X).frames) (hlocals : (rest.map fun v => v.category).sum + 14 ≤ (g_R X).locals) (hdg : decode cc pc = .ok (.invokevirtual idx, 3)) (kk : gJ X (cWd G A H0) Q k n σ lv (pc + 3) (.ref (cZ σ).2 :: rest)) : gJ X (cWd G A H0) Q k n σ lv (pc) (.ref a :: rest) := by
  intro H locs ls hW hl'
  obtain ⟨p, hp⟩ := c_pl (G := G) hA.1
  rw [cEl_10 hA.2] at hp
  have h := kk H locs ls hW hl'
  rw [hW.2.2.2] at h
  refine va_getC C.1.1 C.1.2.1 (C.1.2.2.2.trans (C.1.2.2.1.symm.trans hl'.1.symm)) C.2.1 (C.2.2.1 _ hl) (va_Nw.use (by rfl) (C.2.2.2.2.2.2.2.2.2.1 _ cNg_d)) (C.2.2.1 _ hsel) (C.2.2.1 _ hinst) (C.2.2.1 _ hnat) C.2.2.2.2.2.2.2.2.2.2.2 ?_ hframes hlocals hdg h
  have hcell := hW.1 p _ hp
  refine ⟨_, hcell, rfl, ?_⟩
  exact va_nmO (C.2.2.2.1.2 2 _ rfl).2 rfl
theorem c_castA {idx : Nat} {nm : String} (C : cC X cc nL own G A) (hA : cAt σ 10 a) (hl : Cond.classLink own idx nm ∈ wC) (hnm : "[" ++ (FieldType.object "java/lang/Object").toString = nm) (hdg : decode cc pc = .ok (.checkcast idx, 3)) (kk : gJ X (cWd G A H0) Q k n σ lv (pc + 3) (.ref a :: rest)) : gJ X (cWd G A H0) Q k n σ lv (pc) (.ref a :: rest) := by
  intro H locs ls hW hl'
  obtain ⟨p, hp⟩ := c_pl (G := G) hA.1
  rw [cEl_10 hA.2] at hp
  exact va_castA C.1.1 C.1.2.1 C.2.1 (C.2.2.1 _ hl) hW.1 p hp (va_nmO (C.2.2.2.1.2 2 _ rfl).2 hnm) hdg (kk H locs ls hW hl')
theorem c_cast1 {idx : Nat} (C : cC X cc nL own G A) (hA : cAt σ 1 a) (hl : Cond.classLink own idx "SkiHill$Cell" ∈ wC) (hdg : decode cc pc = .ok (.checkcast idx, 3)) (kk : gJ X (cWd G A H0) Q k n σ lv (pc + 3) (.ref a :: rest)) : gJ X (cWd G A H0) Q k n σ lv (pc) (.ref a :: rest) := by
  intro H locs ls hW hl'
  obtain ⟨p, hp⟩ := c_pl (G := G) hA.1
  rw [cEl_1 hA.2] at hp
  exact va_castY C.1.1 C.1.2.1 C.2.1 (C.2.2.1 _ hl) (C.2.2.2.2.2.2.2.2.2.1 _ cNg_s1) (va_recv C.2.2.2.1 hW.1 (ci := 1) rfl hp) hdg (kk H locs ls hW hl')
theorem cAny_1 (C : cC X cc nL own G A) {H : Heap} {locs : List Loc} (hW : cWd G A H0 σ H locs) (hA : cAt σ 1 a) : va_Any "java/lang/Object" (g_s X) H a := by
  obtain ⟨p, hp⟩ := c_pl (G := G) hA.1
  rw [cEl_1 hA.2] at hp
  exact va_rAny C.2.2.2.1 hW.1 hp (show vwCl[1]? = some (RX1, TX1, 8) from rfl) (fun comp c0 h1 h2 => vb_asgC (C.2.2.2.2.2.2.2.2.2.1 _ cNg_o1) comp c0 h1 h2)
theorem c_cast2 {idx : Nat} (C : cC X cc nL own G A) (hA : cAt σ 2 a) (hl : Cond.classLink own idx "SkiHill$Group" ∈ wC) (hdg : decode cc pc = .ok (.checkcast idx, 3)) (kk : gJ X (cWd G A H0) Q k n σ lv (pc + 3) (.ref a :: rest)) : gJ X (cWd G A H0) Q k n σ lv (pc) (.ref a :: rest) := by
  intro H locs ls hW hl'
  obtain ⟨p, hp⟩ := c_pl (G := G) hA.1
  rw [cEl_2 hA.2] at hp
  exact va_castY C.1.1 C.1.2.1 C.2.1 (C.2.2.1 _ hl) (C.2.2.2.2.2.2.2.2.2.1 _ cNg_s2) (va_recv C.2.2.2.1 hW.1 (ci := 2) rfl hp) hdg (kk H locs ls hW hl')
theorem cAny_2 (C : cC X cc nL own G A) {H : Heap} {locs : List Loc} (hW : cWd G A H0 σ H locs) (hA : cAt σ 2 a) : va_Any "java/lang/Object" (g_s X) H a := by
  obtain ⟨p, hp⟩ := c_pl (G := G) hA.1
  rw [cEl_2 hA.2] at hp
  exact va_rAny C.2.2.2.1 hW.1 hp (show vwCl[2]? = some (RX2, TX2, 9) from rfl) (fun comp c0 h1 h2 => vb_asgC (C.2.2.2.2.2.2.2.2.2.1 _ cNg_o2) comp c0 h1 h2)
theorem c_cast3 {idx : Nat} (C : cC X cc nL own G A) (hA : cAt σ 3 a) (hl : Cond.classLink own idx "SkiHill$Lift" ∈ wC) (hdg : decode cc pc = .ok (.checkcast idx, 3)) (kk : gJ X (cWd G A H0) Q k n σ lv (pc + 3) (.ref a :: rest)) : gJ X (cWd G A H0) Q k n σ lv (pc) (.ref a :: rest) := by
  intro H locs ls hW hl'
  obtain ⟨p, hp⟩ := c_pl (G := G) hA.1
  rw [cEl_3 hA.2] at hp
  exact va_castY C.1.1 C.1.2.1 C.2.1 (C.2.2.1 _ hl) (C.2.2.2.2.2.2.2.2.2.1 _ cNg_s3) (va_recv C.2.2.2.1 hW.1 (ci := 3) rfl hp) hdg (kk H locs ls hW hl')
theorem cAny_3 (C : cC X cc nL own G A) {H : Heap} {locs : List Loc} (hW : cWd G A H0 σ H locs) (hA : cAt σ 3 a) : va_Any "java/lang/Object" (g_s X) H a := by
  obtain ⟨p, hp⟩ := c_pl (G := G) hA.1
  rw [cEl_3 hA.2] at hp
  exact va_rAny C.2.2.2.1 hW.1 hp (show vwCl[3]? = some (RX3, TX3, 9) from rfl) (fun comp c0 h1 h2 => vb_asgC (C.2.2.2.2.2.2.2.2.2.1 _ cNg_o3) comp c0 h1 h2)
theorem c_cast4 {idx : Nat} (C : cC X cc nL own G A) (hA : cAt σ 4 a) (hl : Cond.classLink own idx "SkiHill$Link" ∈ wC) (hdg : decode cc pc = .ok (.checkcast idx, 3)) (kk : gJ X (cWd G A H0) Q k n σ lv (pc + 3) (.ref a :: rest)) : gJ X (cWd G A H0) Q k n σ lv (pc) (.ref a :: rest) := by
  intro H locs ls hW hl'
  obtain ⟨p, hp⟩ := c_pl (G := G) hA.1
  rw [cEl_4 hA.2] at hp
  exact va_castY C.1.1 C.1.2.1 C.2.1 (C.2.2.1 _ hl) (C.2.2.2.2.2.2.2.2.2.1 _ cNg_s4) (va_recv C.2.2.2.1 hW.1 (ci := 4) rfl hp) hdg (kk H locs ls hW hl')
theorem cAny_4 (C : cC X cc nL own G A) {H : Heap} {locs : List Loc} (hW : cWd G A H0 σ H locs) (hA : cAt σ 4 a) : va_Any "java/lang/Object" (g_s X) H a := by
  obtain ⟨p, hp⟩ := c_pl (G := G) hA.1
  rw [cEl_4 hA.2] at hp
  exact va_rAny C.2.2.2.1 hW.1 hp (show vwCl[4]? = some (RX4, TX4, 4) from rfl) (fun comp c0 h1 h2 => vb_asgC (C.2.2.2.2.2.2.2.2.2.1 _ cNg_o4) comp c0 h1 h2)
theorem c_cast6 {idx : Nat} (C : cC X cc nL own G A) (hA : cAt σ 6 a) (hl : Cond.classLink own idx "SkiHill$Slope" ∈ wC) (hdg : decode cc pc = .ok (.checkcast idx, 3)) (kk : gJ X (cWd G A H0) Q k n σ lv (pc + 3) (.ref a :: rest)) : gJ X (cWd G A H0) Q k n σ lv (pc) (.ref a :: rest) := by
  intro H locs ls hW hl'
  obtain ⟨p, hp⟩ := c_pl (G := G) hA.1
  rw [cEl_6 hA.2] at hp
  exact va_castY C.1.1 C.1.2.1 C.2.1 (C.2.2.1 _ hl) (C.2.2.2.2.2.2.2.2.2.1 _ cNg_s6) (va_recv C.2.2.2.1 hW.1 (ci := 6) rfl hp) hdg (kk H locs ls hW hl')
theorem cAny_6 (C : cC X cc nL own G A) {H : Heap} {locs : List Loc} (hW : cWd G A H0 σ H locs) (hA : cAt σ 6 a) : va_Any "java/lang/Object" (g_s X) H a := by
  obtain ⟨p, hp⟩ := c_pl (G := G) hA.1
  rw [cEl_6 hA.2] at hp
  exact va_rAny C.2.2.2.1 hW.1 hp (show vwCl[6]? = some (RX6, TX6, 10) from rfl) (fun comp c0 h1 h2 => vb_asgC (C.2.2.2.2.2.2.2.2.2.1 _ cNg_o6) comp c0 h1 h2)
theorem cAny (C : cC X cc nL own G A) {H : Heap} {locs : List Loc} (hW : cWd G A H0 σ H locs) (hA : cElm σ a) : va_Any "java/lang/Object" (g_s X) H a := by
  obtain ⟨kd, hkd, hA⟩ := hA
  rcases hkd with rfl | rfl | rfl | rfl | rfl
  · exact cAny_1 C hW hA
  · exact cAny_2 C hW hA
  · exact cAny_3 C hW hA
  · exact cAny_4 C hW hA
  · exact cAny_6 C hW hA
theorem c_copyA {idx a0 : Nat} (C : cC X cc nL own G A) (hA0 : cAt σ 10 a0) (hA : cAt σ 10 a) (hl : Cond.methodLink own idx arraycopyName ∈ wC) {sp dp m : Int32} (h1 : ¬ sp < 0) (h2 : ¬ dp < 0) (h3 : ¬ m < 0) (h4 : sp.toNatClampNeg + m.toNatClampNeg ≤ cN σ a0) (h5 : dp.toNatClampNeg + m.toNatClampNeg ≤ cN σ a) (hel : ∀ i : Nat, i < m.toNatClampNeg → ∀ y : Nat, cE σ a0 (sp.toNatClampNeg + i) = some y → cElm σ y) (hframes : 1 ≤ (g_R X).frames) (hlocals : (rest.map fun v => v.category).sum + (nativeFrameWords "java/lang/System" "arraycopy" 5 + 11) ≤ (g_R X).locals) (hdg : decode cc pc = .ok (.invokestatic idx, 3))
    (kk : gJ X (cWd G A H0) Q k n (csE σ a (va_cpy (cE σ a0) (cE σ a) sp.toNatClampNeg dp.toNatClampNeg m.toNatClampNeg)) lv (pc + 3) (rest)) : gJ X (cWd G A H0) Q k n σ lv (pc) (.int m :: .int dp :: .ref a :: .int sp :: .ref a0 :: rest) := by
  intro H locs ls hW hl'
  obtain ⟨p, hp⟩ := c_pl (G := G) hA.1
  obtain ⟨p0, hp0⟩ := c_pl (G := G) hA0.1
  have e := c_set (τ := csE σ a (va_cpy (cE σ a0) (cE σ a) sp.toNatClampNeg dp.toNatClampNeg m.toNatClampNeg)) hW.2.1 hA.1 hp rfl (csE_10 hA.2) (fun b hb => csE_o hb)
  rw [cEl_10 hA.2] at hp
  rw [cEl_10 hA0.2] at hp0
  exact va_copyM (D := G.1) (cl := vwCl) (ws := cWs G σ) (tys := cKt G) C.1.1 C.1.2.1 (C.1.2.2.2.trans (C.1.2.2.1.symm.trans hl'.1.symm)) C.2.1 (C.2.2.1 _ hl) (C.2.2.1 _ kC_202) (C.2.2.1 _ kC_203) (C.2.2.1 _ kC_204) C.2.2.2.1 hW.1 hW.2.1 hW.2.2.1 p0 p 2 2 hp0 hp rfl rfl h1 h2 h3 h4 h5 (fun i hi y hy => cAny C hW (hel i hi y hy)) hframes hlocals hdg (fun H1 locs1 hP hD hS => kk H1 locs1 ls ⟨e ▸ hP, e ▸ hD, hS, hW.2.2.2⟩ hl')
theorem c_copyI {idx a0 : Nat} (C : cC X cc nL own G A) (hA0 : cAt σ 9 a0) (hA : cAt σ 9 a) (hl : Cond.methodLink own idx arraycopyName ∈ wC) {sp dp m : Int32} (h1 : ¬ sp < 0) (h2 : ¬ dp < 0) (h3 : ¬ m < 0) (h4 : sp.toNatClampNeg + m.toNatClampNeg ≤ cN σ a0) (h5 : dp.toNatClampNeg + m.toNatClampNeg ≤ cN σ a) (hframes : 1 ≤ (g_R X).frames) (hlocals : (rest.map fun v => v.category).sum + (nativeFrameWords "java/lang/System" "arraycopy" 5 + 11) ≤ (g_R X).locals) (hdg : decode cc pc = .ok (.invokestatic idx, 3))
    (kk : gJ X (cWd G A H0) Q k n (csV σ a (va_cpy (cV σ a0) (cV σ a) sp.toNatClampNeg dp.toNatClampNeg m.toNatClampNeg)) lv (pc + 3) (rest)) : gJ X (cWd G A H0) Q k n σ lv (pc) (.int m :: .int dp :: .ref a :: .int sp :: .ref a0 :: rest) := by
  intro H locs ls hW hl'
  obtain ⟨p, hp⟩ := c_pl (G := G) hA.1
  obtain ⟨p0, hp0⟩ := c_pl (G := G) hA0.1
  have e := c_set (τ := csV σ a (va_cpy (cV σ a0) (cV σ a) sp.toNatClampNeg dp.toNatClampNeg m.toNatClampNeg)) hW.2.1 hA.1 hp rfl (csV_9 hA.2) (fun b hb => csV_o hb)
  rw [cEl_9 hA.2] at hp
  rw [cEl_9 hA0.2] at hp0
  exact va_copyi (D := G.1) (cl := vwCl) (ws := cWs G σ) (tys := cKt G) (ty := .int) C.1.1 C.1.2.1 (C.1.2.2.2.trans (C.1.2.2.1.symm.trans hl'.1.symm)) C.2.1 (C.2.2.1 _ hl) (C.2.2.1 _ kC_202) (C.2.2.1 _ kC_203) (C.2.2.1 _ kC_204) C.2.2.2.1 hW.1 hW.2.1 hW.2.2.1 p0 p 1 1 hp0 hp rfl rfl rfl h1 h2 h3 h4 h5 (fun _ _ => rfl) hframes hlocals hdg (fun H1 locs1 hP hD hS => kk H1 locs1 ls ⟨e ▸ hP, e ▸ hD, hS, hW.2.2.2⟩ hl')
theorem c_new0 {idx : Nat} (C : cC X cc nL own G A) (hsz : H0 = (g_s X).heap) (hl : Cond.classLink own idx RJx4a65c ∈ wC) (hins : Cond.instantiable RJx4a65c 3 ∈ wC) (hini : Cond.initialized RJx4a65c ∈ wC) (hcells : k + 1 ≤ (g_R X).cells) (hslots : n + 3 ≤ (g_R X).slots) (hdg : decode cc pc = .ok (.new idx, 3)) (kk : ∀ q : Nat, q ∉ cL σ → gJ X (cWd G A H0) Q (k + 1) (n + 3) (csO σ q 0) lv (pc + 3) (.ref q :: rest)) : gJ X (cWd G A H0) Q k n σ lv (pc) (rest) := by
  intro H locs ls hW hl'
  refine va_new (D := G.1) (cl := vwCl) (ws := cWs G σ) (tys := cKt G) (ci := 0) (fs := [.int 0, .null, .int 0]) (C := RJx4a65c) (T := TJx4a65c) (N := 3) C.1.1 C.1.2.1 C.2.2.1 kC_X0 tyJx4a65c tyJx4a65c_ok C.2.1 (C.2.2.1 _ hl) (C.2.2.1 _ hins) (C.2.2.1 _ hini) C.2.2.2.1 hW.1 hW.2.1 hW.2.2.1 (fun q hq => C.2.2.2.2.1 q (hsz ▸ hq)) rfl (fun j hj => by rcases (show j = 0 ∨ j = 1 ∨ j = 2 by omega) with rfl | rfl | rfl <;> rfl) hcells hslots hdg (fun q H1 hP hD hS => ?_)
  have hq : q ∉ cL σ := va_pl_fresh2 (X := []) hD
  have e := c_push (G := G) (τ := csO σ q 0) (e := .inr (0, [.int 0, .null, .int 0])) hq rfl ((cEl_0 (σ := csO σ q 0) (va_up_self _ _ _)).trans (by simp [cf0, csO, cmk, cI, cR, cJ, va_rf])) (fun b hb => csO_o hb)
  exact kk q hq H1 locs ls ⟨e ▸ hP, e ▸ hD, hS, hW.2.2.2⟩ hl'
theorem c_new1 {idx : Nat} (C : cC X cc nL own G A) (hsz : H0 = (g_s X).heap) (hl : Cond.classLink own idx RX1 ∈ wC) (hins : Cond.instantiable RX1 8 ∈ wC) (hini : Cond.initialized RX1 ∈ wC) (hcells : k + 1 ≤ (g_R X).cells) (hslots : n + 8 ≤ (g_R X).slots) (hdg : decode cc pc = .ok (.new idx, 3)) (kk : ∀ q : Nat, q ∉ cL σ → gJ X (cWd G A H0) Q (k + 1) (n + 8) (csO σ q 1) lv (pc + 3) (.ref q :: rest)) : gJ X (cWd G A H0) Q k n σ lv (pc) (rest) := by
  intro H locs ls hW hl'
  refine va_new (D := G.1) (cl := vwCl) (ws := cWs G σ) (tys := cKt G) (ci := 1) (fs := [.int 0, .null, .int 0, .int 0, .int 0, .int 0, .int 0, .null]) (C := RX1) (T := TX1) (N := 8) C.1.1 C.1.2.1 C.2.2.1 kC_X1 tyX1 tyX1_ok C.2.1 (C.2.2.1 _ hl) (C.2.2.1 _ hins) (C.2.2.1 _ hini) C.2.2.2.1 hW.1 hW.2.1 hW.2.2.1 (fun q hq => C.2.2.2.2.1 q (hsz ▸ hq)) rfl (fun j hj => by rcases (show j = 0 ∨ j = 1 ∨ j = 2 ∨ j = 3 ∨ j = 4 ∨ j = 5 ∨ j = 6 ∨ j = 7 by omega) with rfl | rfl | rfl | rfl | rfl | rfl | rfl | rfl <;> rfl) hcells hslots hdg (fun q H1 hP hD hS => ?_)
  have hq : q ∉ cL σ := va_pl_fresh2 (X := []) hD
  have e := c_push (G := G) (τ := csO σ q 1) (e := .inr (1, [.int 0, .null, .int 0, .int 0, .int 0, .int 0, .int 0, .null])) hq rfl ((cEl_1 (σ := csO σ q 1) (va_up_self _ _ _)).trans (by simp [cf1, csO, cmk, cI, cR, cJ, va_rf])) (fun b hb => csO_o hb)
  exact kk q hq H1 locs ls ⟨e ▸ hP, e ▸ hD, hS, hW.2.2.2⟩ hl'
theorem c_new2 {idx : Nat} (C : cC X cc nL own G A) (hsz : H0 = (g_s X).heap) (hl : Cond.classLink own idx RX2 ∈ wC) (hins : Cond.instantiable RX2 9 ∈ wC) (hini : Cond.initialized RX2 ∈ wC) (hcells : k + 1 ≤ (g_R X).cells) (hslots : n + 9 ≤ (g_R X).slots) (hdg : decode cc pc = .ok (.new idx, 3)) (kk : ∀ q : Nat, q ∉ cL σ → gJ X (cWd G A H0) Q (k + 1) (n + 9) (csO σ q 2) lv (pc + 3) (.ref q :: rest)) : gJ X (cWd G A H0) Q k n σ lv (pc) (rest) := by
  intro H locs ls hW hl'
  refine va_new (D := G.1) (cl := vwCl) (ws := cWs G σ) (tys := cKt G) (ci := 2) (fs := [.int 0, .int 0, .int 0, .int 0, .int 0, .int 0, .int 0, .int 0, .int 0]) (C := RX2) (T := TX2) (N := 9) C.1.1 C.1.2.1 C.2.2.1 kC_X2 tyX2 tyX2_ok C.2.1 (C.2.2.1 _ hl) (C.2.2.1 _ hins) (C.2.2.1 _ hini) C.2.2.2.1 hW.1 hW.2.1 hW.2.2.1 (fun q hq => C.2.2.2.2.1 q (hsz ▸ hq)) rfl (fun j hj => by rcases (show j = 0 ∨ j = 1 ∨ j = 2 ∨ j = 3 ∨ j = 4 ∨ j = 5 ∨ j = 6 ∨ j = 7 ∨ j = 8 by omega) with rfl | rfl | rfl | rfl | rfl | rfl | rfl | rfl | rfl <;> rfl) hcells hslots hdg (fun q H1 hP hD hS => ?_)
  have hq : q ∉ cL σ := va_pl_fresh2 (X := []) hD
  have e := c_push (G := G) (τ := csO σ q 2) (e := .inr (2, [.int 0, .int 0, .int 0, .int 0, .int 0, .int 0, .int 0, .int 0, .int 0])) hq rfl ((cEl_2 (σ := csO σ q 2) (va_up_self _ _ _)).trans (by simp [cf2, csO, cmk, cI, cR, cJ, va_rf])) (fun b hb => csO_o hb)
  exact kk q hq H1 locs ls ⟨e ▸ hP, e ▸ hD, hS, hW.2.2.2⟩ hl'
theorem c_new3 {idx : Nat} (C : cC X cc nL own G A) (hsz : H0 = (g_s X).heap) (hl : Cond.classLink own idx RX3 ∈ wC) (hins : Cond.instantiable RX3 9 ∈ wC) (hini : Cond.initialized RX3 ∈ wC) (hcells : k + 1 ≤ (g_R X).cells) (hslots : n + 9 ≤ (g_R X).slots) (hdg : decode cc pc = .ok (.new idx, 3)) (kk : ∀ q : Nat, q ∉ cL σ → gJ X (cWd G A H0) Q (k + 1) (n + 9) (csO σ q 3) lv (pc + 3) (.ref q :: rest)) : gJ X (cWd G A H0) Q k n σ lv (pc) (rest) := by
  intro H locs ls hW hl'
  refine va_new (D := G.1) (cl := vwCl) (ws := cWs G σ) (tys := cKt G) (ci := 3) (fs := [.int 0, .int 0, .int 0, .int 0, .int 0, .int 0, .null, .int 0, .int 0]) (C := RX3) (T := TX3) (N := 9) C.1.1 C.1.2.1 C.2.2.1 kC_X3 tyX3 tyX3_ok C.2.1 (C.2.2.1 _ hl) (C.2.2.1 _ hins) (C.2.2.1 _ hini) C.2.2.2.1 hW.1 hW.2.1 hW.2.2.1 (fun q hq => C.2.2.2.2.1 q (hsz ▸ hq)) rfl (fun j hj => by rcases (show j = 0 ∨ j = 1 ∨ j = 2 ∨ j = 3 ∨ j = 4 ∨ j = 5 ∨ j = 6 ∨ j = 7 ∨ j = 8 by omega) with rfl | rfl | rfl | rfl | rfl | rfl | rfl | rfl | rfl <;> rfl) hcells hslots hdg (fun q H1 hP hD hS => ?_)
  have hq : q ∉ cL σ := va_pl_fresh2 (X := []) hD
  have e := c_push (G := G) (τ := csO σ q 3) (e := .inr (3, [.int 0, .int 0, .int 0, .int 0, .int 0, .int 0, .null, .int 0, .int 0])) hq rfl ((cEl_3 (σ := csO σ q 3) (va_up_self _ _ _)).trans (by simp [cf3, csO, cmk, cI, cR, cJ, va_rf])) (fun b hb => csO_o hb)
  exact kk q hq H1 locs ls ⟨e ▸ hP, e ▸ hD, hS, hW.2.2.2⟩ hl'
theorem c_new4 {idx : Nat} (C : cC X cc nL own G A) (hsz : H0 = (g_s X).heap) (hl : Cond.classLink own idx RX4 ∈ wC) (hins : Cond.instantiable RX4 4 ∈ wC) (hini : Cond.initialized RX4 ∈ wC) (hcells : k + 1 ≤ (g_R X).cells) (hslots : n + 4 ≤ (g_R X).slots) (hdg : decode cc pc = .ok (.new idx, 3)) (kk : ∀ q : Nat, q ∉ cL σ → gJ X (cWd G A H0) Q (k + 1) (n + 4) (csO σ q 4) lv (pc + 3) (.ref q :: rest)) : gJ X (cWd G A H0) Q k n σ lv (pc) (rest) := by
  intro H locs ls hW hl'
  refine va_new (D := G.1) (cl := vwCl) (ws := cWs G σ) (tys := cKt G) (ci := 4) (fs := [.null, .null, .int 0, .int 0]) (C := RX4) (T := TX4) (N := 4) C.1.1 C.1.2.1 C.2.2.1 kC_X4 tyX4 tyX4_ok C.2.1 (C.2.2.1 _ hl) (C.2.2.1 _ hins) (C.2.2.1 _ hini) C.2.2.2.1 hW.1 hW.2.1 hW.2.2.1 (fun q hq => C.2.2.2.2.1 q (hsz ▸ hq)) rfl (fun j hj => by rcases (show j = 0 ∨ j = 1 ∨ j = 2 ∨ j = 3 by omega) with rfl | rfl | rfl | rfl <;> rfl) hcells hslots hdg (fun q H1 hP hD hS => ?_)
  have hq : q ∉ cL σ := va_pl_fresh2 (X := []) hD
  have e := c_push (G := G) (τ := csO σ q 4) (e := .inr (4, [.null, .null, .int 0, .int 0])) hq rfl ((cEl_4 (σ := csO σ q 4) (va_up_self _ _ _)).trans (by simp [cf4, csO, cmk, cI, cR, cJ, va_rf])) (fun b hb => csO_o hb)
  exact kk q hq H1 locs ls ⟨e ▸ hP, e ▸ hD, hS, hW.2.2.2⟩ hl'
theorem c_new5 {idx : Nat} (C : cC X cc nL own G A) (hsz : H0 = (g_s X).heap) (hl : Cond.classLink own idx RX5 ∈ wC) (hins : Cond.instantiable RX5 12 ∈ wC) (hini : Cond.initialized RX5 ∈ wC) (hcells : k + 1 ≤ (g_R X).cells) (hslots : n + 12 ≤ (g_R X).slots) (hdg : decode cc pc = .ok (.new idx, 3)) (kk : ∀ q : Nat, q ∉ cL σ → gJ X (cWd G A H0) Q (k + 1) (n + 12) (csO σ q 5) lv (pc + 3) (.ref q :: rest)) : gJ X (cWd G A H0) Q k n σ lv (pc) (rest) := by
  intro H locs ls hW hl'
  refine va_new (D := G.1) (cl := vwCl) (ws := cWs G σ) (tys := cKt G) (ci := 5) (fs := [.int 0, .int 0, .null, .int 0, .null, .int 0, .int 0, .int 0, .int 0, .int 0, .int 0, .int 0]) (C := RX5) (T := TX5) (N := 12) C.1.1 C.1.2.1 C.2.2.1 kC_X5 tyX5 tyX5_ok C.2.1 (C.2.2.1 _ hl) (C.2.2.1 _ hins) (C.2.2.1 _ hini) C.2.2.2.1 hW.1 hW.2.1 hW.2.2.1 (fun q hq => C.2.2.2.2.1 q (hsz ▸ hq)) rfl (fun j hj => by rcases (show j = 0 ∨ j = 1 ∨ j = 2 ∨ j = 3 ∨ j = 4 ∨ j = 5 ∨ j = 6 ∨ j = 7 ∨ j = 8 ∨ j = 9 ∨ j = 10 ∨ j = 11 by omega) with rfl | rfl | rfl | rfl | rfl | rfl | rfl | rfl | rfl | rfl | rfl | rfl <;> rfl) hcells hslots hdg (fun q H1 hP hD hS => ?_)
  have hq : q ∉ cL σ := va_pl_fresh2 (X := []) hD
  have e := c_push (G := G) (τ := csO σ q 5) (e := .inr (5, [.int 0, .int 0, .null, .int 0, .null, .int 0, .int 0, .int 0, .int 0, .int 0, .int 0, .int 0])) hq rfl ((cEl_5 (σ := csO σ q 5) (va_up_self _ _ _)).trans (by simp [cf5, csO, cmk, cI, cR, cJ, va_rf])) (fun b hb => csO_o hb)
  exact kk q hq H1 locs ls ⟨e ▸ hP, e ▸ hD, hS, hW.2.2.2⟩ hl'
theorem c_new6 {idx : Nat} (C : cC X cc nL own G A) (hsz : H0 = (g_s X).heap) (hl : Cond.classLink own idx RX6 ∈ wC) (hins : Cond.instantiable RX6 10 ∈ wC) (hini : Cond.initialized RX6 ∈ wC) (hcells : k + 1 ≤ (g_R X).cells) (hslots : n + 10 ≤ (g_R X).slots) (hdg : decode cc pc = .ok (.new idx, 3)) (kk : ∀ q : Nat, q ∉ cL σ → gJ X (cWd G A H0) Q (k + 1) (n + 10) (csO σ q 6) lv (pc + 3) (.ref q :: rest)) : gJ X (cWd G A H0) Q k n σ lv (pc) (rest) := by
  intro H locs ls hW hl'
  refine va_new (D := G.1) (cl := vwCl) (ws := cWs G σ) (tys := cKt G) (ci := 6) (fs := [.int 0, .int 0, .int 0, .int 0, .int 0, .null, .int 0, .int 0, .null, .int 0]) (C := RX6) (T := TX6) (N := 10) C.1.1 C.1.2.1 C.2.2.1 kC_X6 tyX6 tyX6_ok C.2.1 (C.2.2.1 _ hl) (C.2.2.1 _ hins) (C.2.2.1 _ hini) C.2.2.2.1 hW.1 hW.2.1 hW.2.2.1 (fun q hq => C.2.2.2.2.1 q (hsz ▸ hq)) rfl (fun j hj => by rcases (show j = 0 ∨ j = 1 ∨ j = 2 ∨ j = 3 ∨ j = 4 ∨ j = 5 ∨ j = 6 ∨ j = 7 ∨ j = 8 ∨ j = 9 by omega) with rfl | rfl | rfl | rfl | rfl | rfl | rfl | rfl | rfl | rfl <;> rfl) hcells hslots hdg (fun q H1 hP hD hS => ?_)
  have hq : q ∉ cL σ := va_pl_fresh2 (X := []) hD
  have e := c_push (G := G) (τ := csO σ q 6) (e := .inr (6, [.int 0, .int 0, .int 0, .int 0, .int 0, .null, .int 0, .int 0, .null, .int 0])) hq rfl ((cEl_6 (σ := csO σ q 6) (va_up_self _ _ _)).trans (by simp [cf6, csO, cmk, cI, cR, cJ, va_rf])) (fun b hb => csO_o hb)
  exact kk q hq H1 locs ls ⟨e ▸ hP, e ▸ hD, hS, hW.2.2.2⟩ hl'
theorem c_new7 {idx : Nat} (C : cC X cc nL own G A) (hsz : H0 = (g_s X).heap) (hl : Cond.classLink own idx RX7 ∈ wC) (hins : Cond.instantiable RX7 16 ∈ wC) (hini : Cond.initialized RX7 ∈ wC) (hcells : k + 1 ≤ (g_R X).cells) (hslots : n + 16 ≤ (g_R X).slots) (hdg : decode cc pc = .ok (.new idx, 3)) (kk : ∀ q : Nat, q ∉ cL σ → gJ X (cWd G A H0) Q (k + 1) (n + 16) (csO σ q 7) lv (pc + 3) (.ref q :: rest)) : gJ X (cWd G A H0) Q k n σ lv (pc) (rest) := by
  intro H locs ls hW hl'
  refine va_new (D := G.1) (cl := vwCl) (ws := cWs G σ) (tys := cKt G) (ci := 7) (fs := [.null, .null, .null, .null, .null, .null, .null, .int 0, .int 0, .int 0, .int 0, .int 0, .long 0, .long 0, .long 0, .long 0]) (C := RX7) (T := TX7) (N := 16) C.1.1 C.1.2.1 C.2.2.1 kC_X7 tyX7 tyX7_ok C.2.1 (C.2.2.1 _ hl) (C.2.2.1 _ hins) (C.2.2.1 _ hini) C.2.2.2.1 hW.1 hW.2.1 hW.2.2.1 (fun q hq => C.2.2.2.2.1 q (hsz ▸ hq)) rfl (fun j hj => by rcases (show j = 0 ∨ j = 1 ∨ j = 2 ∨ j = 3 ∨ j = 4 ∨ j = 5 ∨ j = 6 ∨ j = 7 ∨ j = 8 ∨ j = 9 ∨ j = 10 ∨ j = 11 ∨ j = 12 ∨ j = 13 ∨ j = 14 ∨ j = 15 by omega) with rfl | rfl | rfl | rfl | rfl | rfl | rfl | rfl | rfl | rfl | rfl | rfl | rfl | rfl | rfl | rfl <;> rfl) hcells hslots hdg (fun q H1 hP hD hS => ?_)
  have hq : q ∉ cL σ := va_pl_fresh2 (X := []) hD
  have e := c_push (G := G) (τ := csO σ q 7) (e := .inr (7, [.null, .null, .null, .null, .null, .null, .null, .int 0, .int 0, .int 0, .int 0, .int 0, .long 0, .long 0, .long 0, .long 0])) hq rfl ((cEl_7 (σ := csO σ q 7) (va_up_self _ _ _)).trans (by simp [cf7, csO, cmk, cI, cR, cJ, va_rf])) (fun b hb => csO_o hb)
  exact kk q hq H1 locs ls ⟨e ▸ hP, e ▸ hD, hS, hW.2.2.2⟩ hl'
theorem c_newI {v : Int32} {B : Nat} (C : cC X cc nL own G A) (hsz : H0 = (g_s X).heap) (hn : ¬ v < 0) (hB : v.toNatClampNeg ≤ B) (hB2 : B ≤ 100000) (hcells : k + 1 ≤ (g_R X).cells) (hslots : n + B ≤ (g_R X).slots) (hdg : decode cc pc = .ok (.newarray .int, 2)) (kk : ∀ q : Nat, q ∉ cL σ → gJ X (cWd G A H0) Q (k + 1) (n + B) (csA σ q 9 v.toNatClampNeg) lv (pc + 2) (.ref q :: rest)) : gJ X (cWd G A H0) Q k n σ lv (pc) (.int v :: rest) := by
  intro H locs ls hW hl'
  refine va_newa (D := G.1) (cl := vwCl) (ws := cWs G σ) (tys := cKt G) (atype := .int) (ty := .int) (N' := v.toNatClampNeg) (a0 := (v.toNatClampNeg, .inl (fun _ => 0))) C.1.1 C.1.2.1 (C.2.2.1 _ kC_95) rfl C.2.2.2.1 hW.1 hW.2.1 hW.2.2.1 (fun q hq => C.2.2.2.2.1 q (hsz ▸ hq)) (fun _ => rfl) hn rfl (Nat.le_trans (Nat.mul_le_mul_right _ (Nat.le_trans hB hB2)) (Nat.le_of_ble_eq_true rfl)) hcells (Nat.le_trans (Nat.add_le_add_left hB n) hslots) hdg (fun q cA H1 hK hP hD hS => ?_)
  have h1 := (hK.2 (cKt G).length (cA, .int) (by rw [List.getElem?_append_right (Nat.le_refl _), Nat.sub_self]; rfl)).2
  have h2 := (C.2.2.2.1.2 1 _ rfl).2
  have hcA : cA = G.2.1.2.1 := Option.some.inj (h1.symm.trans h2)
  subst hcA
  have hq : q ∉ cL σ := va_pl_fresh2 (X := []) hD
  have e := c_push (G := G) (τ := csA σ q 9 v.toNatClampNeg) (e := .inl (G.2.1.2.1, v.toNatClampNeg, .inl (fun _ => 0))) hq rfl csA_9 (fun b hb => csA_o hb)
  exact W.widen (Nat.le_refl _) (Nat.add_le_add_left hB n) (kk q hq H1 locs ls ⟨e ▸ hP, e ▸ hD, hS, hW.2.2.2⟩ hl')
theorem c_newB {v : Int32} {B : Nat} (C : cC X cc nL own G A) (hsz : H0 = (g_s X).heap) (hn : ¬ v < 0) (hB : v.toNatClampNeg ≤ B) (hB2 : B ≤ 100000) (hcells : k + 1 ≤ (g_R X).cells) (hslots : n + B ≤ (g_R X).slots) (hdg : decode cc pc = .ok (.newarray .byte, 2)) (kk : ∀ q : Nat, q ∉ cL σ → gJ X (cWd G A H0) Q (k + 1) (n + B) (csA σ q 8 v.toNatClampNeg) lv (pc + 2) (.ref q :: rest)) : gJ X (cWd G A H0) Q k n σ lv (pc) (.int v :: rest) := by
  intro H locs ls hW hl'
  refine va_newa (D := G.1) (cl := vwCl) (ws := cWs G σ) (tys := cKt G) (atype := .byte) (ty := .byte) (N' := v.toNatClampNeg) (a0 := (v.toNatClampNeg, .inl (fun _ => 0))) C.1.1 C.1.2.1 (C.2.2.1 _ kC_234) rfl C.2.2.2.1 hW.1 hW.2.1 hW.2.2.1 (fun q hq => C.2.2.2.2.1 q (hsz ▸ hq)) (fun _ => rfl) hn rfl (Nat.le_trans (Nat.mul_le_mul_right _ (Nat.le_trans hB hB2)) (Nat.le_of_ble_eq_true rfl)) hcells (Nat.le_trans (Nat.add_le_add_left hB n) hslots) hdg (fun q cA H1 hK hP hD hS => ?_)
  have h1 := (hK.2 (cKt G).length (cA, .byte) (by rw [List.getElem?_append_right (Nat.le_refl _), Nat.sub_self]; rfl)).2
  have h2 := (C.2.2.2.1.2 0 _ rfl).2
  have hcA : cA = G.2.1.1 := Option.some.inj (h1.symm.trans h2)
  subst hcA
  have hq : q ∉ cL σ := va_pl_fresh2 (X := []) hD
  have e := c_push (G := G) (τ := csA σ q 8 v.toNatClampNeg) (e := .inl (G.2.1.1, v.toNatClampNeg, .inl (fun _ => 0))) hq rfl csA_8 (fun b hb => csA_o hb)
  exact W.widen (Nat.le_refl _) (Nat.add_le_add_left hB n) (kk q hq H1 locs ls ⟨e ▸ hP, e ▸ hD, hS, hW.2.2.2⟩ hl')
theorem c_newQ {v : Int32} {B idx : Nat} (C : cC X cc nL own G A) (hsz : H0 = (g_s X).heap) (hl : Cond.classLink own idx "java/lang/Object" ∈ wC) (hn : ¬ v < 0) (hB : v.toNatClampNeg ≤ B) (hB2 : B ≤ 100000) (hcells : k + 1 ≤ (g_R X).cells) (hslots : n + B ≤ (g_R X).slots) (hdg : decode cc pc = .ok (.anewarray idx, 3)) (kk : ∀ q : Nat, q ∉ cL σ → q ≠ (cZ σ).1 → gJ X (cWd G A H0) Q (k + 1) (n + B) (csA σ q 10 v.toNatClampNeg) lv (pc + 3) (.ref q :: rest)) : gJ X (cWd G A H0) Q k n σ lv (pc) (.int v :: rest) := by
  intro H locs ls hW hl'
  refine va_newq (D := G.1) (cl := vwCl) (ws := cWs G σ) (tys := cKt G) (N' := v.toNatClampNeg) C.1.1 C.1.2.1 C.2.1 (C.2.2.1 _ hl) C.2.2.2.2.2.2.2.2.2.2.1 C.2.2.2.1 hW.1 hW.2.1 hW.2.2.1 (fun q hq => C.2.2.2.2.1 q (hsz ▸ hq)) hn rfl (Nat.le_trans (Nat.mul_le_mul_right _ (Nat.le_trans hB hB2)) (Nat.le_of_ble_eq_true rfl)) hcells (Nat.le_trans (Nat.add_le_add_left hB n) hslots) hdg (fun q cA H1 hK hP hD hS => ?_)
  have h1 := (hK.2 (cKt G).length (cA, .object "java/lang/Object") (by rw [List.getElem?_append_right (Nat.le_refl _), Nat.sub_self]; rfl)).2
  have h2 := (C.2.2.2.1.2 2 _ rfl).2
  have hcA : cA = G.2.1.2.2 := Option.some.inj ((va_nmO h1 rfl).symm.trans (va_nmO h2 rfl))
  subst hcA
  have hq : q ∉ cL σ := va_pl_fresh2 (X := []) hD
  have hqz : q ≠ (cZ σ).1 := fun e0 => by
    obtain ⟨cell, -, -, -, -, -, -, hnA⟩ := C.2.2.2.2.2.2.2.1.2
    exact hnA (by rw [← hW.2.2.2, ← e0]; exact hD.2 (cWs G σ).length _ (by rw [List.getElem?_append_right (Nat.le_refl _), Nat.sub_self]; rfl))
  have e := c_push (G := G) (τ := csA σ q 10 v.toNatClampNeg) (e := .inl (G.2.1.2.2, v.toNatClampNeg, .inr (.inr (.inr (.inr (fun _ => none)))))) hq rfl csA_10 (fun b hb => csA_o hb)
  exact W.widen (Nat.le_refl _) (Nat.add_le_add_left hB n) (kk q hq hqz H1 locs ls ⟨e ▸ hP, e ▸ hD, hS, hW.2.2.2⟩ hl')
end CARR
