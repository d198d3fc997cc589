/-! the reference: its words, its world, a row an instruction that touches it -/
def wRl : List Cond := [Cond.methodLink RX8 3 objectInit,
  Cond.instanceMethod objectInit,
  Cond.code objectInit ⟨#[0xb1]⟩ 1 none,
  Cond.arrayClass .byte,
  Cond.fieldLink RX8 9 "SkiHillModel" "tape" "[B",
  Cond.arrayClass .int,
  Cond.fieldLink RX8 13 "SkiHillModel" "lift" "[I",
  Cond.arrayClass .boolean,
  Cond.fieldLink RX8 17 "SkiHillModel" "isStopped" "[Z",
  Cond.fieldLink RX8 21 "SkiHillModel" "queue" "[I",
  Cond.fieldLink RX8 24 "SkiHillModel" "queueMany" "[I",
  Cond.fieldLink RX8 27 "SkiHillModel" "slope" "[I",
  Cond.fieldLink RX8 30 "SkiHillModel" "snow" "[I",
  Cond.fieldLink RX8 33 "SkiHillModel" "slopeOf" "[I",
  Cond.fieldLink RX8 36 "SkiHillModel" "want" "[I",
  Cond.fieldLink RX8 39 "SkiHillModel" "price" "[I",
  Cond.fieldLink RX8 42 "SkiHillModel" "code" "[I",
  Cond.fieldLink RX8 45 "SkiHillModel" "number" "[I",
  Cond.fieldLink RX8 48 "SkiHillModel" "steps" "[I",
  Cond.fieldLink RX8 51 "SkiHillModel" "hasRule" "[Z",
  Cond.fieldLink RX8 54 "SkiHillModel" "faultPlace" "I",
  Cond.fieldLink RX8 58 "SkiHillModel" "group" "[I",
  Cond.fieldLink RX8 61 "SkiHillModel" "linkA" "[I",
  Cond.fieldLink RX8 64 "SkiHillModel" "linkB" "[I",
  Cond.fieldLink RX8 67 "SkiHillModel" "linkLength" "[I",
  Cond.arrayClass .long,
  Cond.fieldLink RX8 70 "SkiHillModel" "sums" "[J",
  Cond.fieldLink RX8 74 "SkiHillModel" "five" "[I",
  Cond.fieldLink RX8 77 "SkiHillModel" "leans" "[I",
  Cond.fieldLink RX8 80 "SkiHillModel" "isKnown" "[Z",
  Cond.fieldLink RX8 83 "SkiHillModel" "isOpen" "[Z",
  Cond.fieldLink RX8 86 "SkiHillModel" "pile" "[Z",
  Cond.fieldLink RX8 89 "SkiHillModel" "way" "[J",
  Cond.fieldLink RX8 92 "SkiHillModel" "carried" "[J",
  Cond.fieldLink RX8 95 "SkiHillModel" "has" "[J",
  Cond.fieldLink RX8 98 "SkiHillModel" "cost" "[J",
  Cond.fieldLink RX8 101 "SkiHillModel" "before" "[I",
  Cond.fieldLink RX8 104 "SkiHillModel" "gives" "[Z",
  Cond.fieldLink RX8 107 "SkiHillModel" "gets" "[Z",
  Cond.code yX8_init cX8_init 1 none,
  Cond.fieldLink RX8 110 "SkiHillModel" "thrown" "I",
  Cond.code yX8_thrown cX8_thrown 1 (some .int),
  Cond.code yX8_throwsIf cX8_throwsIf 3 (some .boolean),
  Cond.code yX8_in cX8_in 6 (some .boolean),
  Cond.fieldLink RX8 113 "SkiHillModel" "lifts" "I",
  Cond.methodLink RX8 116 yX8_in,
  Cond.static yX8_in,
  Cond.initialized RX8,
  Cond.code yX8_noLift cX8_noLift 2 (some .boolean),
  Cond.fieldLink RX8 120 "SkiHillModel" "slopes" "I",
  Cond.code yX8_noSlope cX8_noSlope 2 (some .boolean),
  Cond.fieldLink RX8 123 "SkiHillModel" "cells" "I",
  Cond.code yX8_noCell cX8_noCell 2 (some .boolean),
  Cond.fieldLink RX8 126 "SkiHillModel" "groups" "I",
  Cond.code yX8_noGroup cX8_noGroup 2 (some .boolean),
  Cond.constantLong RX8 129 (9),
  Cond.code yX8_noPlace cX8_noPlace 1 (some .boolean),
  Cond.fieldLink RX8 131 "SkiHillModel" "taped" "I",
  Cond.code yX8_feed cX8_feed 7 (some .int),
  Cond.code yX8_end cX8_end 2 (some .boolean),
  Cond.constantLong RX8 142 (20),
  Cond.constantLong RX8 144 (30),
  Cond.constantLong RX8 146 (200),
  Cond.methodLink RX8 134 yX8_noPlace,
  Cond.static yX8_noPlace,
  Cond.methodLink RX8 138 yX8_throwsIf,
  Cond.instanceMethod yX8_throwsIf,
  Cond.selects RX8 yX8_throwsIf yX8_throwsIf,
  Cond.code yX8_lift cX8_lift 7 (some .int),
  Cond.constantLong RX8 148 (4),
  Cond.code yX8_slope cX8_slope 8 (some .int),
  Cond.fieldLink RX8 150 "SkiHillModel" "wind" "I",
  Cond.code yX8_isRunning cX8_isRunning 2 (some .boolean),
  Cond.code yX8_word cX8_word 1 (some (.object "java/lang/String")),
  Cond.fieldLink RX8 168 "SkiHillModel" "wrong" "I",
  Cond.code yX8_fail cX8_fail 2 none,
  Cond.fieldLink RX8 171 "SkiHillModel" "at" "I",
  Cond.fieldLink RX8 174 "SkiHillModel" "from" "I",
  Cond.methodLink RX8 177 yJ0_length_8abf5,
  Cond.instanceMethod yJ0_length_8abf5,
  Cond.selects RJ0 yJ0_length_8abf5 yJ0_length_8abf5,
  Cond.initialized RJ0,
  Cond.code yJ0_length_8abf5 cJ0_length_8abf5 1 (some .int),
  Cond.fieldLink RJ0 9 "java/lang/String" "value" "[B",
  Cond.methodLink RJ0 335 yJ0_coder_7d493,
  Cond.instanceMethod yJ0_coder_7d493,
  Cond.selects RJ0 yJ0_coder_7d493 yJ0_coder_7d493,
  Cond.code yJ0_coder_7d493 cJ0_coder_7d493 1 (some .byte),
  Cond.fieldLink RJ0 38 "java/lang/String" "COMPACT_STRINGS" "Z",
  Cond.fieldLink RJ0 15 "java/lang/String" "coder" "B",
  Cond.methodLink RX8 183 yJ0_charAt_5068e,
  Cond.instanceMethod yJ0_charAt_5068e,
  Cond.selects RJ0 yJ0_charAt_5068e yJ0_charAt_5068e,
  Cond.code yJ0_charAt_5068e cJ0_charAt_5068e 2 (some .char),
  Cond.methodLink RJ0 492 yJ0_isLatin1_aae02,
  Cond.instanceMethod yJ0_isLatin1_aae02,
  Cond.selects RJ0 yJ0_isLatin1_aae02 yJ0_isLatin1_aae02,
  Cond.code yJ0_isLatin1_aae02 cJ0_isLatin1_aae02 1 (some .boolean),
  Cond.methodLink RJ0 495 yJ1_charAt_3b067,
  Cond.static yJ1_charAt_3b067,
  Cond.initialized RJ1,
  Cond.code yJ1_charAt_3b067 cJ1_charAt_3b067 2 (some .char),
  Cond.methodLink RJ1 9 yJ0_checkIndex_df160,
  Cond.static yJ0_checkIndex_df160,
  Cond.code yJ0_checkIndex_df160 cJ0_checkIndex_df160 2 none,
  Cond.fieldLink RJ0 1053 "jdk/internal/util/Preconditions" "SIOOBE_FORMATTER" "Ljava/util/function/BiFunction;",
  Cond.methodLink RJ0 1059 yJ3_checkIndex_8e157,
  Cond.static yJ3_checkIndex_8e157,
  Cond.initialized RJ3,
  Cond.code yJ3_checkIndex_8e157 cJ3_checkIndex_8e157 3 (some .int),
  Cond.methodLink RJ0 498 yJ2_charAt_3b067,
  Cond.static yJ2_charAt_3b067,
  Cond.initialized RJ2,
  Cond.code yJ2_charAt_3b067 cJ2_charAt_3b067 2 (some .char),
  Cond.methodLink RJ2 67 yJ2_checkIndex_2214a,
  Cond.static yJ2_checkIndex_2214a,
  Cond.code yJ2_checkIndex_2214a cJ2_checkIndex_2214a 2 none,
  Cond.methodLink RJ2 48 yJ2_length_9d52b,
  Cond.static yJ2_length_9d52b,
  Cond.code yJ2_length_9d52b cJ2_length_9d52b 1 (some .int),
  Cond.methodLink RJ2 414 yJ0_checkIndex_df160,
  Cond.methodLink RJ2 71 yJ2_getChar_3b067,
  Cond.static yJ2_getChar_3b067,
  Cond.code yJ2_getChar_3b067 cJ2_getChar_3b067 2 (some .char),
  Cond.fieldLink RJ2 44 "java/lang/StringUTF16" "$assertionsDisabled" "Z",
  Cond.fieldLink RJ2 59 "java/lang/StringUTF16" "HI_BYTE_SHIFT" "I",
  Cond.fieldLink RJ2 63 "java/lang/StringUTF16" "LO_BYTE_SHIFT" "I",
  Cond.code yX8_isWord cX8_isWord 4 (some .boolean),
  Cond.fieldLink RX8 187 "SkiHillModel" "end" "I",
  Cond.fieldLink RX8 190 "SkiHillModel" "value" "I",
  Cond.fieldLink RX8 193 "SkiHillModel" "sort" "I",
  Cond.methodLink RX8 196 yX8_word,
  Cond.static yX8_word,
  Cond.methodLink RX8 200 yX8_isWord,
  Cond.instanceMethod yX8_isWord,
  Cond.selects RX8 yX8_isWord yX8_isWord,
  Cond.methodLink RX8 204 yX8_fail,
  Cond.instanceMethod yX8_fail,
  Cond.selects RX8 yX8_fail yX8_fail,
  Cond.code yX8_next cX8_next 3 none,
  Cond.code yX8_emit cX8_emit 4 none,
  Cond.code yX8_is cX8_is 3 (some .boolean),
  Cond.methodLink RX8 215 yX8_next,
  Cond.instanceMethod yX8_next,
  Cond.selects RX8 yX8_next yX8_next,
  Cond.methodLink RX8 234 yX8_noSlope,
  Cond.instanceMethod yX8_noSlope,
  Cond.selects RX8 yX8_noSlope yX8_noSlope,
  Cond.methodLink RX8 237 yX8_noLift,
  Cond.instanceMethod yX8_noLift,
  Cond.selects RX8 yX8_noLift yX8_noLift,
  Cond.methodLink RX8 218 yX8_emit,
  Cond.instanceMethod yX8_emit,
  Cond.selects RX8 yX8_emit yX8_emit,
  Cond.code yX8_test cX8_test 3 none,
  Cond.methodLink RX8 222 yX8_part,
  Cond.instanceMethod yX8_part,
  Cond.selects RX8 yX8_part yX8_part,
  Cond.methodLink RX8 211 yX8_is,
  Cond.instanceMethod yX8_is,
  Cond.selects RX8 yX8_is yX8_is,
  Cond.code yX8_either cX8_either 1 none,
  Cond.methodLink RX8 208 yX8_both,
  Cond.instanceMethod yX8_both,
  Cond.selects RX8 yX8_both yX8_both,
  Cond.code yX8_part cX8_part 2 none,
  Cond.fieldLink RX8 225 "SkiHillModel" "opened" "I",
  Cond.methodLink RX8 228 yX8_either,
  Cond.instanceMethod yX8_either,
  Cond.selects RX8 yX8_either yX8_either,
  Cond.methodLink RX8 231 yX8_test,
  Cond.instanceMethod yX8_test,
  Cond.selects RX8 yX8_test yX8_test,
  Cond.code yX8_both cX8_both 1 none,
  Cond.code yX8_names cX8_names 4 (some .int),
  Cond.methodLink RX8 240 yX8_names,
  Cond.instanceMethod yX8_names,
  Cond.selects RX8 yX8_names yX8_names,
  Cond.code yX8_ring cX8_ring 5 (some .int),
  Cond.fieldLink RX8 244 "SkiHillModel" "faultRing" "I",
  Cond.methodLink RX8 247 yX8_ring,
  Cond.instanceMethod yX8_ring,
  Cond.selects RX8 yX8_ring yX8_ring,
  Cond.methodLink RX8 250 yJ6_bitCount_0f7a4,
  Cond.static yJ6_bitCount_0f7a4,
  Cond.initialized RJ6,
  Cond.code yJ6_bitCount_0f7a4 cJ6_bitCount_0f7a4 1 (some .int),
  Cond.constant RJ6 265 (1431655765),
  Cond.constant RJ6 266 (858993459),
  Cond.constant RJ6 267 (252645135),
  Cond.code yX8_rule cX8_rule 3 (some .int),
  Cond.code yX8_unrule cX8_unrule 3 (some .boolean),
  Cond.code yX8_fault cX8_fault 2 (some .int),
  Cond.code yX8_depth cX8_depth 2 (some .int),
  Cond.fieldLink RX8 255 "SkiHillModel" "minute" "I",
  Cond.methodLink RX8 258 yX8_depth,
  Cond.instanceMethod yX8_depth,
  Cond.selects RX8 yX8_depth yX8_depth,
  Cond.code yX8_measure cX8_measure 7 (some .int),
  Cond.code yX8_compares cX8_compares 3 (some .boolean),
  Cond.methodLink RX8 261 yX8_isRunning,
  Cond.instanceMethod yX8_isRunning,
  Cond.selects RX8 yX8_isRunning yX8_isRunning,
  Cond.methodLink RX8 264 yX8_measure,
  Cond.instanceMethod yX8_measure,
  Cond.selects RX8 yX8_measure yX8_measure,
  Cond.methodLink RX8 268 yX8_compares,
  Cond.static yX8_compares,
  Cond.code yX8_holds cX8_holds 5 (some .boolean),
  Cond.code yX8_areKnown cX8_areKnown 4 (some .boolean),
  Cond.methodLink RX8 272 yX8_areKnown,
  Cond.instanceMethod yX8_areKnown,
  Cond.selects RX8 yX8_areKnown yX8_areKnown,
  Cond.methodLink RX8 275 yX8_holds,
  Cond.instanceMethod yX8_holds,
  Cond.selects RX8 yX8_holds yX8_holds,
  Cond.code yX8_opens cX8_opens 3 none,
  Cond.methodLink RX8 278 yX8_opens,
  Cond.instanceMethod yX8_opens,
  Cond.selects RX8 yX8_opens yX8_opens,
  Cond.code yX8_open cX8_open 2 (some .boolean),
  Cond.code yX8_runs cX8_runs 2 (some .boolean),
  Cond.constantLong RX8 281 (300),
  Cond.code yX8_wind cX8_wind 2 none,
  Cond.code yX8_stop cX8_stop 4 (some .boolean),
  Cond.code yX8_group cX8_group 5 (some .int),
  Cond.code yX8_wears cX8_wears 7 none,
  Cond.code yX8_waiting cX8_waiting 4 (some .int),
  Cond.methodLink RX8 283 yX8_wears,
  Cond.instanceMethod yX8_wears,
  Cond.selects RX8 yX8_wears yX8_wears,
  Cond.methodLink RX8 286 yX8_waiting,
  Cond.instanceMethod yX8_waiting,
  Cond.selects RX8 yX8_waiting yX8_waiting,
  Cond.code yX8_chooses cX8_chooses 5 none,
  Cond.code yX8_boards cX8_boards 5 none,
  Cond.methodLink RX8 289 yX8_chooses,
  Cond.instanceMethod yX8_chooses,
  Cond.selects RX8 yX8_chooses yX8_chooses,
  Cond.methodLink RX8 292 yX8_boards,
  Cond.instanceMethod yX8_boards,
  Cond.selects RX8 yX8_boards yX8_boards,
  Cond.code yX8_passes cX8_passes 3 none,
  Cond.constantLong RX8 295 (600),
  Cond.methodLink RX8 297 yX8_passes,
  Cond.instanceMethod yX8_passes,
  Cond.selects RX8 yX8_passes yX8_passes,
  Cond.code yX8_step cX8_step 3 (some .int),
  Cond.methodLink RX8 300 yX8_noGroup,
  Cond.instanceMethod yX8_noGroup,
  Cond.selects RX8 yX8_noGroup yX8_noGroup,
  Cond.code yX8_look cX8_look 3 (some .int),
  Cond.code yX8_row cX8_row 3 (some .int),
  Cond.code yX8_people cX8_people 4 (some .int),
  Cond.constantLong RX8 306 (100000),
  Cond.methodLink RX8 303 yX8_noCell,
  Cond.instanceMethod yX8_noCell,
  Cond.selects RX8 yX8_noCell yX8_noCell,
  Cond.code yX8_snow cX8_snow 4 (some .int),
  Cond.constantLong RX8 308 (1000000),
  Cond.code yX8_melt cX8_melt 6 (some .int),
  Cond.code yX8_push cX8_push 5 (some .int),
  Cond.code yX8_cell cX8_cell 3 (some .int),
  Cond.constantLong RX8 310 (100),
  Cond.fieldLink RX8 312 "SkiHillModel" "links" "I",
  Cond.code yX8_link cX8_link 4 (some .int),
  Cond.code yX8_want cX8_want 3 none,
  Cond.constantLong RX8 315 (1000000000000),
  Cond.code yX8_ways cX8_ways 6 none,
  Cond.code yX8_seeks cX8_seeks 5 (some .int),
  Cond.methodLink RX8 317 Lib.MathLoose.min_long.x,
  Cond.static Lib.MathLoose.min_long.x,
  Cond.initialized "java/lang/Math",
  Cond.code Lib.MathLoose.min_long.x Lib.MathLoose.min_long.code 4 (some .long),
  Cond.code yX8_carries cX8_carries 8 (some .long),
  Cond.constantLong RX8 333 (-1),
  Cond.methodLink RX8 323 yX8_ways,
  Cond.instanceMethod yX8_ways,
  Cond.selects RX8 yX8_ways yX8_ways,
  Cond.methodLink RX8 326 yX8_seeks,
  Cond.instanceMethod yX8_seeks,
  Cond.selects RX8 yX8_seeks yX8_seeks,
  Cond.methodLink RX8 329 yX8_carries,
  Cond.instanceMethod yX8_carries,
  Cond.selects RX8 yX8_carries yX8_carries,
  Cond.code yX8_least cX8_least 6 (some .long),
  Cond.constantLong RX8 335 (-10000),
  Cond.constantLong RX8 337 (10000),
  Cond.code yX8_price cX8_price 3 none,
  Cond.methodLink RX8 339 Lib.Math.abs.name,
  Cond.static Lib.Math.abs.name,
  Cond.code Lib.Math.abs.name Lib.Math.abs.code 1 (some .int),
  Cond.code yX8_judge cX8_judge 7 (some .long),
  Cond.code yX8_count cX8_count 5 (some .long)]
def wR : List Cond := wSl ++ (wRl ++ wsX80)
theorem kR_0 : Cond.methodLink RX8 3 objectInit ∈ wR := List.mem_append_right _ (List.mem_append_left _ (List.mem_of_getElem? (i := 0) rfl))
theorem kR_1 : Cond.instanceMethod objectInit ∈ wR := List.mem_append_right _ (List.mem_append_left _ (List.mem_of_getElem? (i := 1) rfl))
theorem kR_2 : Cond.code objectInit ⟨#[0xb1]⟩ 1 none ∈ wR := List.mem_append_right _ (List.mem_append_left _ (List.mem_of_getElem? (i := 2) rfl))
theorem kR_3 : Cond.arrayClass .byte ∈ wR := List.mem_append_right _ (List.mem_append_left _ (List.mem_of_getElem? (i := 3) rfl))
theorem kR_4 : Cond.fieldLink RX8 9 "SkiHillModel" "tape" "[B" ∈ wR := List.mem_append_right _ (List.mem_append_left _ (List.mem_of_getElem? (i := 4) rfl))
theorem kR_5 : Cond.arrayClass .int ∈ wR := List.mem_append_right _ (List.mem_append_left _ (List.mem_of_getElem? (i := 5) rfl))
theorem kR_6 : Cond.fieldLink RX8 13 "SkiHillModel" "lift" "[I" ∈ wR := List.mem_append_right _ (List.mem_append_left _ (List.mem_of_getElem? (i := 6) rfl))
theorem kR_7 : Cond.arrayClass .boolean ∈ wR := List.mem_append_right _ (List.mem_append_left _ (List.mem_of_getElem? (i := 7) rfl))
theorem kR_8 : Cond.fieldLink RX8 17 "SkiHillModel" "isStopped" "[Z" ∈ wR := List.mem_append_right _ (List.mem_append_left _ (List.mem_of_getElem? (i := 8) rfl))
theorem kR_9 : Cond.fieldLink RX8 21 "SkiHillModel" "queue" "[I" ∈ wR := List.mem_append_right _ (List.mem_append_left _ (List.mem_of_getElem? (i := 9) rfl))
theorem kR_10 : Cond.fieldLink RX8 24 "SkiHillModel" "queueMany" "[I" ∈ wR := List.mem_append_right _ (List.mem_append_left _ (List.mem_of_getElem? (i := 10) rfl))
theorem kR_11 : Cond.fieldLink RX8 27 "SkiHillModel" "slope" "[I" ∈ wR := List.mem_append_right _ (List.mem_append_left _ (List.mem_of_getElem? (i := 11) rfl))
theorem kR_12 : Cond.fieldLink RX8 30 "SkiHillModel" "snow" "[I" ∈ wR := List.mem_append_right _ (List.mem_append_left _ (List.mem_of_getElem? (i := 12) rfl))
theorem kR_13 : Cond.fieldLink RX8 33 "SkiHillModel" "slopeOf" "[I" ∈ wR := List.mem_append_right _ (List.mem_append_left _ (List.mem_of_getElem? (i := 13) rfl))
theorem kR_14 : Cond.fieldLink RX8 36 "SkiHillModel" "want" "[I" ∈ wR := List.mem_append_right _ (List.mem_append_left _ (List.mem_of_getElem? (i := 14) rfl))
theorem kR_15 : Cond.fieldLink RX8 39 "SkiHillModel" "price" "[I" ∈ wR := List.mem_append_right _ (List.mem_append_left _ (List.mem_of_getElem? (i := 15) rfl))
theorem kR_16 : Cond.fieldLink RX8 42 "SkiHillModel" "code" "[I" ∈ wR := List.mem_append_right _ (List.mem_append_left _ (List.mem_of_getElem? (i := 16) rfl))
theorem kR_17 : Cond.fieldLink RX8 45 "SkiHillModel" "number" "[I" ∈ wR := List.mem_append_right _ (List.mem_append_left _ (List.mem_of_getElem? (i := 17) rfl))
theorem kR_18 : Cond.fieldLink RX8 48 "SkiHillModel" "steps" "[I" ∈ wR := List.mem_append_right _ (List.mem_append_left _ (List.mem_of_getElem? (i := 18) rfl))
theorem kR_19 : Cond.fieldLink RX8 51 "SkiHillModel" "hasRule" "[Z" ∈ wR := List.mem_append_right _ (List.mem_append_left _ (List.mem_of_getElem? (i := 19) rfl))
theorem kR_20 : Cond.fieldLink RX8 54 "SkiHillModel" "faultPlace" "I" ∈ wR := List.mem_append_right _ (List.mem_append_left _ (List.mem_of_getElem? (i := 20) rfl))
theorem kR_21 : Cond.fieldLink RX8 58 "SkiHillModel" "group" "[I" ∈ wR := List.mem_append_right _ (List.mem_append_left _ (List.mem_of_getElem? (i := 21) rfl))
theorem kR_22 : Cond.fieldLink RX8 61 "SkiHillModel" "linkA" "[I" ∈ wR := List.mem_append_right _ (List.mem_append_left _ (List.mem_of_getElem? (i := 22) rfl))
theorem kR_23 : Cond.fieldLink RX8 64 "SkiHillModel" "linkB" "[I" ∈ wR := List.mem_append_right _ (List.mem_append_left _ (List.mem_of_getElem? (i := 23) rfl))
theorem kR_24 : Cond.fieldLink RX8 67 "SkiHillModel" "linkLength" "[I" ∈ wR := List.mem_append_right _ (List.mem_append_left _ (List.mem_of_getElem? (i := 24) rfl))
theorem kR_25 : Cond.arrayClass .long ∈ wR := List.mem_append_right _ (List.mem_append_left _ (List.mem_of_getElem? (i := 25) rfl))
theorem kR_26 : Cond.fieldLink RX8 70 "SkiHillModel" "sums" "[J" ∈ wR := List.mem_append_right _ (List.mem_append_left _ (List.mem_of_getElem? (i := 26) rfl))
theorem kR_27 : Cond.fieldLink RX8 74 "SkiHillModel" "five" "[I" ∈ wR := List.mem_append_right _ (List.mem_append_left _ (List.mem_of_getElem? (i := 27) rfl))
theorem kR_28 : Cond.fieldLink RX8 77 "SkiHillModel" "leans" "[I" ∈ wR := List.mem_append_right _ (List.mem_append_left _ (List.mem_of_getElem? (i := 28) rfl))
theorem kR_29 : Cond.fieldLink RX8 80 "SkiHillModel" "isKnown" "[Z" ∈ wR := List.mem_append_right _ (List.mem_append_left _ (List.mem_of_getElem? (i := 29) rfl))
theorem kR_30 : Cond.fieldLink RX8 83 "SkiHillModel" "isOpen" "[Z" ∈ wR := List.mem_append_right _ (List.mem_append_left _ (List.mem_of_getElem? (i := 30) rfl))
theorem kR_31 : Cond.fieldLink RX8 86 "SkiHillModel" "pile" "[Z" ∈ wR := List.mem_append_right _ (List.mem_append_left _ (List.mem_of_getElem? (i := 31) rfl))
theorem kR_32 : Cond.fieldLink RX8 89 "SkiHillModel" "way" "[J" ∈ wR := List.mem_append_right _ (List.mem_append_left _ (List.mem_of_getElem? (i := 32) rfl))
theorem kR_33 : Cond.fieldLink RX8 92 "SkiHillModel" "carried" "[J" ∈ wR := List.mem_append_right _ (List.mem_append_left _ (List.mem_of_getElem? (i := 33) rfl))
theorem kR_34 : Cond.fieldLink RX8 95 "SkiHillModel" "has" "[J" ∈ wR := List.mem_append_right _ (List.mem_append_left _ (List.mem_of_getElem? (i := 34) rfl))
theorem kR_35 : Cond.fieldLink RX8 98 "SkiHillModel" "cost" "[J" ∈ wR := List.mem_append_right _ (List.mem_append_left _ (List.mem_of_getElem? (i := 35) rfl))
theorem kR_36 : Cond.fieldLink RX8 101 "SkiHillModel" "before" "[I" ∈ wR := List.mem_append_right _ (List.mem_append_left _ (List.mem_of_getElem? (i := 36) rfl))
theorem kR_37 : Cond.fieldLink RX8 104 "SkiHillModel" "gives" "[Z" ∈ wR := List.mem_append_right _ (List.mem_append_left _ (List.mem_of_getElem? (i := 37) rfl))
theorem kR_38 : Cond.fieldLink RX8 107 "SkiHillModel" "gets" "[Z" ∈ wR := List.mem_append_right _ (List.mem_append_left _ (List.mem_of_getElem? (i := 38) rfl))
theorem kR_39 : Cond.code yX8_init cX8_init 1 none ∈ wR := List.mem_append_right _ (List.mem_append_left _ (List.mem_of_getElem? (i := 39) rfl))
theorem kR_40 : Cond.fieldLink RX8 110 "SkiHillModel" "thrown" "I" ∈ wR := List.mem_append_right _ (List.mem_append_left _ (List.mem_of_getElem? (i := 40) rfl))
theorem kR_41 : Cond.code yX8_thrown cX8_thrown 1 (some .int) ∈ wR := List.mem_append_right _ (List.mem_append_left _ (List.mem_of_getElem? (i := 41) rfl))
theorem kR_42 : Cond.code yX8_throwsIf cX8_throwsIf 3 (some .boolean) ∈ wR := List.mem_append_right _ (List.mem_append_left _ (List.mem_of_getElem? (i := 42) rfl))
theorem kR_43 : Cond.code yX8_in cX8_in 6 (some .boolean) ∈ wR := List.mem_append_right _ (List.mem_append_left _ (List.mem_of_getElem? (i := 43) rfl))
theorem kR_44 : Cond.fieldLink RX8 113 "SkiHillModel" "lifts" "I" ∈ wR := List.mem_append_right _ (List.mem_append_left _ (List.mem_of_getElem? (i := 44) rfl))
theorem kR_45 : Cond.methodLink RX8 116 yX8_in ∈ wR := List.mem_append_right _ (List.mem_append_left _ (List.mem_of_getElem? (i := 45) rfl))
theorem kR_46 : Cond.static yX8_in ∈ wR := List.mem_append_right _ (List.mem_append_left _ (List.mem_of_getElem? (i := 46) rfl))
theorem kR_47 : Cond.initialized RX8 ∈ wR := List.mem_append_right _ (List.mem_append_left _ (List.mem_of_getElem? (i := 47) rfl))
theorem kR_48 : Cond.code yX8_noLift cX8_noLift 2 (some .boolean) ∈ wR := List.mem_append_right _ (List.mem_append_left _ (List.mem_of_getElem? (i := 48) rfl))
theorem kR_49 : Cond.fieldLink RX8 120 "SkiHillModel" "slopes" "I" ∈ wR := List.mem_append_right _ (List.mem_append_left _ (List.mem_of_getElem? (i := 49) rfl))
theorem kR_50 : Cond.code yX8_noSlope cX8_noSlope 2 (some .boolean) ∈ wR := List.mem_append_right _ (List.mem_append_left _ (List.mem_of_getElem? (i := 50) rfl))
theorem kR_51 : Cond.fieldLink RX8 123 "SkiHillModel" "cells" "I" ∈ wR := List.mem_append_right _ (List.mem_append_left _ (List.mem_of_getElem? (i := 51) rfl))
theorem kR_52 : Cond.code yX8_noCell cX8_noCell 2 (some .boolean) ∈ wR := List.mem_append_right _ (List.mem_append_left _ (List.mem_of_getElem? (i := 52) rfl))
theorem kR_53 : Cond.fieldLink RX8 126 "SkiHillModel" "groups" "I" ∈ wR := List.mem_append_right _ (List.mem_append_left _ (List.mem_of_getElem? (i := 53) rfl))
theorem kR_54 : Cond.code yX8_noGroup cX8_noGroup 2 (some .boolean) ∈ wR := List.mem_append_right _ (List.mem_append_left _ (List.mem_of_getElem? (i := 54) rfl))
theorem kR_55 : Cond.constantLong RX8 129 (9) ∈ wR := List.mem_append_right _ (List.mem_append_left _ (List.mem_of_getElem? (i := 55) rfl))
theorem kR_56 : Cond.code yX8_noPlace cX8_noPlace 1 (some .boolean) ∈ wR := List.mem_append_right _ (List.mem_append_left _ (List.mem_of_getElem? (i := 56) rfl))
theorem kR_57 : Cond.fieldLink RX8 131 "SkiHillModel" "taped" "I" ∈ wR := List.mem_append_right _ (List.mem_append_left _ (List.mem_of_getElem? (i := 57) rfl))
theorem kR_58 : Cond.code yX8_feed cX8_feed 7 (some .int) ∈ wR := List.mem_append_right _ (List.mem_append_left _ (List.mem_of_getElem? (i := 58) rfl))
theorem kR_59 : Cond.code yX8_end cX8_end 2 (some .boolean) ∈ wR := List.mem_append_right _ (List.mem_append_left _ (List.mem_of_getElem? (i := 59) rfl))
theorem kR_60 : Cond.constantLong RX8 142 (20) ∈ wR := List.mem_append_right _ (List.mem_append_left _ (List.mem_of_getElem? (i := 60) rfl))
theorem kR_61 : Cond.constantLong RX8 144 (30) ∈ wR := List.mem_append_right _ (List.mem_append_left _ (List.mem_of_getElem? (i := 61) rfl))
theorem kR_62 : Cond.constantLong RX8 146 (200) ∈ wR := List.mem_append_right _ (List.mem_append_left _ (List.mem_of_getElem? (i := 62) rfl))
theorem kR_63 : Cond.methodLink RX8 134 yX8_noPlace ∈ wR := List.mem_append_right _ (List.mem_append_left _ (List.mem_of_getElem? (i := 63) rfl))
theorem kR_64 : Cond.static yX8_noPlace ∈ wR := List.mem_append_right _ (List.mem_append_left _ (List.mem_of_getElem? (i := 64) rfl))
theorem kR_65 : Cond.methodLink RX8 138 yX8_throwsIf ∈ wR := List.mem_append_right _ (List.mem_append_left _ (List.mem_of_getElem? (i := 65) rfl))
theorem kR_66 : Cond.instanceMethod yX8_throwsIf ∈ wR := List.mem_append_right _ (List.mem_append_left _ (List.mem_of_getElem? (i := 66) rfl))
theorem kR_67 : Cond.selects RX8 yX8_throwsIf yX8_throwsIf ∈ wR := List.mem_append_right _ (List.mem_append_left _ (List.mem_of_getElem? (i := 67) rfl))
theorem kR_68 : Cond.code yX8_lift cX8_lift 7 (some .int) ∈ wR := List.mem_append_right _ (List.mem_append_left _ (List.mem_of_getElem? (i := 68) rfl))
theorem kR_69 : Cond.constantLong RX8 148 (4) ∈ wR := List.mem_append_right _ (List.mem_append_left _ (List.mem_of_getElem? (i := 69) rfl))
theorem kR_70 : Cond.code yX8_slope cX8_slope 8 (some .int) ∈ wR := List.mem_append_right _ (List.mem_append_left _ (List.mem_of_getElem? (i := 70) rfl))
theorem kR_71 : Cond.fieldLink RX8 150 "SkiHillModel" "wind" "I" ∈ wR := List.mem_append_right _ (List.mem_append_left _ (List.mem_of_getElem? (i := 71) rfl))
theorem kR_72 : Cond.code yX8_isRunning cX8_isRunning 2 (some .boolean) ∈ wR := List.mem_append_right _ (List.mem_append_left _ (List.mem_of_getElem? (i := 72) rfl))
theorem kR_73 : Cond.code yX8_word cX8_word 1 (some (.object "java/lang/String")) ∈ wR := List.mem_append_right _ (List.mem_append_left _ (List.mem_of_getElem? (i := 73) rfl))
theorem kR_74 : Cond.fieldLink RX8 168 "SkiHillModel" "wrong" "I" ∈ wR := List.mem_append_right _ (List.mem_append_left _ (List.mem_of_getElem? (i := 74) rfl))
theorem kR_75 : Cond.code yX8_fail cX8_fail 2 none ∈ wR := List.mem_append_right _ (List.mem_append_left _ (List.mem_of_getElem? (i := 75) rfl))
theorem kR_76 : Cond.fieldLink RX8 171 "SkiHillModel" "at" "I" ∈ wR := List.mem_append_right _ (List.mem_append_left _ (List.mem_of_getElem? (i := 76) rfl))
theorem kR_77 : Cond.fieldLink RX8 174 "SkiHillModel" "from" "I" ∈ wR := List.mem_append_right _ (List.mem_append_left _ (List.mem_of_getElem? (i := 77) rfl))
theorem kR_78 : Cond.methodLink RX8 177 yJ0_length_8abf5 ∈ wR := List.mem_append_right _ (List.mem_append_left _ (List.mem_of_getElem? (i := 78) rfl))
theorem kR_79 : Cond.instanceMethod yJ0_length_8abf5 ∈ wR := List.mem_append_right _ (List.mem_append_left _ (List.mem_of_getElem? (i := 79) rfl))
theorem kR_80 : Cond.selects RJ0 yJ0_length_8abf5 yJ0_length_8abf5 ∈ wR := List.mem_append_right _ (List.mem_append_left _ (List.mem_of_getElem? (i := 80) rfl))
theorem kR_81 : Cond.initialized RJ0 ∈ wR := List.mem_append_right _ (List.mem_append_left _ (List.mem_of_getElem? (i := 81) rfl))
theorem kR_82 : Cond.code yJ0_length_8abf5 cJ0_length_8abf5 1 (some .int) ∈ wR := List.mem_append_right _ (List.mem_append_left _ (List.mem_of_getElem? (i := 82) rfl))
theorem kR_83 : Cond.fieldLink RJ0 9 "java/lang/String" "value" "[B" ∈ wR := List.mem_append_right _ (List.mem_append_left _ (List.mem_of_getElem? (i := 83) rfl))
theorem kR_84 : Cond.methodLink RJ0 335 yJ0_coder_7d493 ∈ wR := List.mem_append_right _ (List.mem_append_left _ (List.mem_of_getElem? (i := 84) rfl))
theorem kR_85 : Cond.instanceMethod yJ0_coder_7d493 ∈ wR := List.mem_append_right _ (List.mem_append_left _ (List.mem_of_getElem? (i := 85) rfl))
theorem kR_86 : Cond.selects RJ0 yJ0_coder_7d493 yJ0_coder_7d493 ∈ wR := List.mem_append_right _ (List.mem_append_left _ (List.mem_of_getElem? (i := 86) rfl))
theorem kR_87 : Cond.code yJ0_coder_7d493 cJ0_coder_7d493 1 (some .byte) ∈ wR := List.mem_append_right _ (List.mem_append_left _ (List.mem_of_getElem? (i := 87) rfl))
theorem kR_88 : Cond.fieldLink RJ0 38 "java/lang/String" "COMPACT_STRINGS" "Z" ∈ wR := List.mem_append_right _ (List.mem_append_left _ (List.mem_of_getElem? (i := 88) rfl))
theorem kR_89 : Cond.fieldLink RJ0 15 "java/lang/String" "coder" "B" ∈ wR := List.mem_append_right _ (List.mem_append_left _ (List.mem_of_getElem? (i := 89) rfl))
theorem kR_90 : Cond.methodLink RX8 183 yJ0_charAt_5068e ∈ wR := List.mem_append_right _ (List.mem_append_left _ (List.mem_of_getElem? (i := 90) rfl))
theorem kR_91 : Cond.instanceMethod yJ0_charAt_5068e ∈ wR := List.mem_append_right _ (List.mem_append_left _ (List.mem_of_getElem? (i := 91) rfl))
theorem kR_92 : Cond.selects RJ0 yJ0_charAt_5068e yJ0_charAt_5068e ∈ wR := List.mem_append_right _ (List.mem_append_left _ (List.mem_of_getElem? (i := 92) rfl))
theorem kR_93 : Cond.code yJ0_charAt_5068e cJ0_charAt_5068e 2 (some .char) ∈ wR := List.mem_append_right _ (List.mem_append_left _ (List.mem_of_getElem? (i := 93) rfl))
theorem kR_94 : Cond.methodLink RJ0 492 yJ0_isLatin1_aae02 ∈ wR := List.mem_append_right _ (List.mem_append_left _ (List.mem_of_getElem? (i := 94) rfl))
theorem kR_95 : Cond.instanceMethod yJ0_isLatin1_aae02 ∈ wR := List.mem_append_right _ (List.mem_append_left _ (List.mem_of_getElem? (i := 95) rfl))
theorem kR_96 : Cond.selects RJ0 yJ0_isLatin1_aae02 yJ0_isLatin1_aae02 ∈ wR := List.mem_append_right _ (List.mem_append_left _ (List.mem_of_getElem? (i := 96) rfl))
theorem kR_97 : Cond.code yJ0_isLatin1_aae02 cJ0_isLatin1_aae02 1 (some .boolean) ∈ wR := List.mem_append_right _ (List.mem_append_left _ (List.mem_of_getElem? (i := 97) rfl))
theorem kR_98 : Cond.methodLink RJ0 495 yJ1_charAt_3b067 ∈ wR := List.mem_append_right _ (List.mem_append_left _ (List.mem_of_getElem? (i := 98) rfl))
theorem kR_99 : Cond.static yJ1_charAt_3b067 ∈ wR := List.mem_append_right _ (List.mem_append_left _ (List.mem_of_getElem? (i := 99) rfl))
theorem kR_100 : Cond.initialized RJ1 ∈ wR := List.mem_append_right _ (List.mem_append_left _ (List.mem_of_getElem? (i := 100) rfl))
theorem kR_101 : Cond.code yJ1_charAt_3b067 cJ1_charAt_3b067 2 (some .char) ∈ wR := List.mem_append_right _ (List.mem_append_left _ (List.mem_of_getElem? (i := 101) rfl))
theorem kR_102 : Cond.methodLink RJ1 9 yJ0_checkIndex_df160 ∈ wR := List.mem_append_right _ (List.mem_append_left _ (List.mem_of_getElem? (i := 102) rfl))
theorem kR_103 : Cond.static yJ0_checkIndex_df160 ∈ wR := List.mem_append_right _ (List.mem_append_left _ (List.mem_of_getElem? (i := 103) rfl))
theorem kR_104 : Cond.code yJ0_checkIndex_df160 cJ0_checkIndex_df160 2 none ∈ wR := List.mem_append_right _ (List.mem_append_left _ (List.mem_of_getElem? (i := 104) rfl))
theorem kR_105 : Cond.fieldLink RJ0 1053 "jdk/internal/util/Preconditions" "SIOOBE_FORMATTER" "Ljava/util/function/BiFunction;" ∈ wR := List.mem_append_right _ (List.mem_append_left _ (List.mem_of_getElem? (i := 105) rfl))
theorem kR_106 : Cond.methodLink RJ0 1059 yJ3_checkIndex_8e157 ∈ wR := List.mem_append_right _ (List.mem_append_left _ (List.mem_of_getElem? (i := 106) rfl))
theorem kR_107 : Cond.static yJ3_checkIndex_8e157 ∈ wR := List.mem_append_right _ (List.mem_append_left _ (List.mem_of_getElem? (i := 107) rfl))
theorem kR_108 : Cond.initialized RJ3 ∈ wR := List.mem_append_right _ (List.mem_append_left _ (List.mem_of_getElem? (i := 108) rfl))
theorem kR_109 : Cond.code yJ3_checkIndex_8e157 cJ3_checkIndex_8e157 3 (some .int) ∈ wR := List.mem_append_right _ (List.mem_append_left _ (List.mem_of_getElem? (i := 109) rfl))
theorem kR_110 : Cond.methodLink RJ0 498 yJ2_charAt_3b067 ∈ wR := List.mem_append_right _ (List.mem_append_left _ (List.mem_of_getElem? (i := 110) rfl))
theorem kR_111 : Cond.static yJ2_charAt_3b067 ∈ wR := List.mem_append_right _ (List.mem_append_left _ (List.mem_of_getElem? (i := 111) rfl))
theorem kR_112 : Cond.initialized RJ2 ∈ wR := List.mem_append_right _ (List.mem_append_left _ (List.mem_of_getElem? (i := 112) rfl))
theorem kR_113 : Cond.code yJ2_charAt_3b067 cJ2_charAt_3b067 2 (some .char) ∈ wR := List.mem_append_right _ (List.mem_append_left _ (List.mem_of_getElem? (i := 113) rfl))
theorem kR_114 : Cond.methodLink RJ2 67 yJ2_checkIndex_2214a ∈ wR := List.mem_append_right _ (List.mem_append_left _ (List.mem_of_getElem? (i := 114) rfl))
theorem kR_115 : Cond.static yJ2_checkIndex_2214a ∈ wR := List.mem_append_right _ (List.mem_append_left _ (List.mem_of_getElem? (i := 115) rfl))
theorem kR_116 : Cond.code yJ2_checkIndex_2214a cJ2_checkIndex_2214a 2 none ∈ wR := List.mem_append_right _ (List.mem_append_left _ (List.mem_of_getElem? (i := 116) rfl))
theorem kR_117 : Cond.methodLink RJ2 48 yJ2_length_9d52b ∈ wR := List.mem_append_right _ (List.mem_append_left _ (List.mem_of_getElem? (i := 117) rfl))
theorem kR_118 : Cond.static yJ2_length_9d52b ∈ wR := List.mem_append_right _ (List.mem_append_left _ (List.mem_of_getElem? (i := 118) rfl))
theorem kR_119 : Cond.code yJ2_length_9d52b cJ2_length_9d52b 1 (some .int) ∈ wR := List.mem_append_right _ (List.mem_append_left _ (List.mem_of_getElem? (i := 119) rfl))
theorem kR_120 : Cond.methodLink RJ2 414 yJ0_checkIndex_df160 ∈ wR := List.mem_append_right _ (List.mem_append_left _ (List.mem_of_getElem? (i := 120) rfl))
theorem kR_121 : Cond.methodLink RJ2 71 yJ2_getChar_3b067 ∈ wR := List.mem_append_right _ (List.mem_append_left _ (List.mem_of_getElem? (i := 121) rfl))
theorem kR_122 : Cond.static yJ2_getChar_3b067 ∈ wR := List.mem_append_right _ (List.mem_append_left _ (List.mem_of_getElem? (i := 122) rfl))
theorem kR_123 : Cond.code yJ2_getChar_3b067 cJ2_getChar_3b067 2 (some .char) ∈ wR := List.mem_append_right _ (List.mem_append_left _ (List.mem_of_getElem? (i := 123) rfl))
theorem kR_124 : Cond.fieldLink RJ2 44 "java/lang/StringUTF16" "$assertionsDisabled" "Z" ∈ wR := List.mem_append_right _ (List.mem_append_left _ (List.mem_of_getElem? (i := 124) rfl))
theorem kR_125 : Cond.fieldLink RJ2 59 "java/lang/StringUTF16" "HI_BYTE_SHIFT" "I" ∈ wR := List.mem_append_right _ (List.mem_append_left _ (List.mem_of_getElem? (i := 125) rfl))
theorem kR_126 : Cond.fieldLink RJ2 63 "java/lang/StringUTF16" "LO_BYTE_SHIFT" "I" ∈ wR := List.mem_append_right _ (List.mem_append_left _ (List.mem_of_getElem? (i := 126) rfl))
theorem kR_127 : Cond.code yX8_isWord cX8_isWord 4 (some .boolean) ∈ wR := List.mem_append_right _ (List.mem_append_left _ (List.mem_of_getElem? (i := 127) rfl))
theorem kR_128 : Cond.fieldLink RX8 187 "SkiHillModel" "end" "I" ∈ wR := List.mem_append_right _ (List.mem_append_left _ (List.mem_of_getElem? (i := 128) rfl))
theorem kR_129 : Cond.fieldLink RX8 190 "SkiHillModel" "value" "I" ∈ wR := List.mem_append_right _ (List.mem_append_left _ (List.mem_of_getElem? (i := 129) rfl))
theorem kR_130 : Cond.fieldLink RX8 193 "SkiHillModel" "sort" "I" ∈ wR := List.mem_append_right _ (List.mem_append_left _ (List.mem_of_getElem? (i := 130) rfl))
theorem kR_131 : Cond.methodLink RX8 196 yX8_word ∈ wR := List.mem_append_right _ (List.mem_append_left _ (List.mem_of_getElem? (i := 131) rfl))
theorem kR_132 : Cond.static yX8_word ∈ wR := List.mem_append_right _ (List.mem_append_left _ (List.mem_of_getElem? (i := 132) rfl))
theorem kR_133 : Cond.methodLink RX8 200 yX8_isWord ∈ wR := List.mem_append_right _ (List.mem_append_left _ (List.mem_of_getElem? (i := 133) rfl))
theorem kR_134 : Cond.instanceMethod yX8_isWord ∈ wR := List.mem_append_right _ (List.mem_append_left _ (List.mem_of_getElem? (i := 134) rfl))
theorem kR_135 : Cond.selects RX8 yX8_isWord yX8_isWord ∈ wR := List.mem_append_right _ (List.mem_append_left _ (List.mem_of_getElem? (i := 135) rfl))
theorem kR_136 : Cond.methodLink RX8 204 yX8_fail ∈ wR := List.mem_append_right _ (List.mem_append_left _ (List.mem_of_getElem? (i := 136) rfl))
theorem kR_137 : Cond.instanceMethod yX8_fail ∈ wR := List.mem_append_right _ (List.mem_append_left _ (List.mem_of_getElem? (i := 137) rfl))
theorem kR_138 : Cond.selects RX8 yX8_fail yX8_fail ∈ wR := List.mem_append_right _ (List.mem_append_left _ (List.mem_of_getElem? (i := 138) rfl))
theorem kR_139 : Cond.code yX8_next cX8_next 3 none ∈ wR := List.mem_append_right _ (List.mem_append_left _ (List.mem_of_getElem? (i := 139) rfl))
theorem kR_140 : Cond.code yX8_emit cX8_emit 4 none ∈ wR := List.mem_append_right _ (List.mem_append_left _ (List.mem_of_getElem? (i := 140) rfl))
theorem kR_141 : Cond.code yX8_is cX8_is 3 (some .boolean) ∈ wR := List.mem_append_right _ (List.mem_append_left _ (List.mem_of_getElem? (i := 141) rfl))
theorem kR_142 : Cond.methodLink RX8 215 yX8_next ∈ wR := List.mem_append_right _ (List.mem_append_left _ (List.mem_of_getElem? (i := 142) rfl))
theorem kR_143 : Cond.instanceMethod yX8_next ∈ wR := List.mem_append_right _ (List.mem_append_left _ (List.mem_of_getElem? (i := 143) rfl))
theorem kR_144 : Cond.selects RX8 yX8_next yX8_next ∈ wR := List.mem_append_right _ (List.mem_append_left _ (List.mem_of_getElem? (i := 144) rfl))
theorem kR_145 : Cond.methodLink RX8 234 yX8_noSlope ∈ wR := List.mem_append_right _ (List.mem_append_left _ (List.mem_of_getElem? (i := 145) rfl))
theorem kR_146 : Cond.instanceMethod yX8_noSlope ∈ wR := List.mem_append_right _ (List.mem_append_left _ (List.mem_of_getElem? (i := 146) rfl))
theorem kR_147 : Cond.selects RX8 yX8_noSlope yX8_noSlope ∈ wR := List.mem_append_right _ (List.mem_append_left _ (List.mem_of_getElem? (i := 147) rfl))
theorem kR_148 : Cond.methodLink RX8 237 yX8_noLift ∈ wR := List.mem_append_right _ (List.mem_append_left _ (List.mem_of_getElem? (i := 148) rfl))
theorem kR_149 : Cond.instanceMethod yX8_noLift ∈ wR := List.mem_append_right _ (List.mem_append_left _ (List.mem_of_getElem? (i := 149) rfl))
theorem kR_150 : Cond.selects RX8 yX8_noLift yX8_noLift ∈ wR := List.mem_append_right _ (List.mem_append_left _ (List.mem_of_getElem? (i := 150) rfl))
theorem kR_151 : Cond.methodLink RX8 218 yX8_emit ∈ wR := List.mem_append_right _ (List.mem_append_left _ (List.mem_of_getElem? (i := 151) rfl))
theorem kR_152 : Cond.instanceMethod yX8_emit ∈ wR := List.mem_append_right _ (List.mem_append_left _ (List.mem_of_getElem? (i := 152) rfl))
theorem kR_153 : Cond.selects RX8 yX8_emit yX8_emit ∈ wR := List.mem_append_right _ (List.mem_append_left _ (List.mem_of_getElem? (i := 153) rfl))
theorem kR_154 : Cond.code yX8_test cX8_test 3 none ∈ wR := List.mem_append_right _ (List.mem_append_left _ (List.mem_of_getElem? (i := 154) rfl))
theorem kR_155 : Cond.methodLink RX8 222 yX8_part ∈ wR := List.mem_append_right _ (List.mem_append_left _ (List.mem_of_getElem? (i := 155) rfl))
theorem kR_156 : Cond.instanceMethod yX8_part ∈ wR := List.mem_append_right _ (List.mem_append_left _ (List.mem_of_getElem? (i := 156) rfl))
theorem kR_157 : Cond.selects RX8 yX8_part yX8_part ∈ wR := List.mem_append_right _ (List.mem_append_left _ (List.mem_of_getElem? (i := 157) rfl))
theorem kR_158 : Cond.methodLink RX8 211 yX8_is ∈ wR := List.mem_append_right _ (List.mem_append_left _ (List.mem_of_getElem? (i := 158) rfl))
theorem kR_159 : Cond.instanceMethod yX8_is ∈ wR := List.mem_append_right _ (List.mem_append_left _ (List.mem_of_getElem? (i := 159) rfl))
theorem kR_160 : Cond.selects RX8 yX8_is yX8_is ∈ wR := List.mem_append_right _ (List.mem_append_left _ (List.mem_of_getElem? (i := 160) rfl))
theorem kR_161 : Cond.code yX8_either cX8_either 1 none ∈ wR := List.mem_append_right _ (List.mem_append_left _ (List.mem_of_getElem? (i := 161) rfl))
theorem kR_162 : Cond.methodLink RX8 208 yX8_both ∈ wR := List.mem_append_right _ (List.mem_append_left _ (List.mem_of_getElem? (i := 162) rfl))
theorem kR_163 : Cond.instanceMethod yX8_both ∈ wR := List.mem_append_right _ (List.mem_append_left _ (List.mem_of_getElem? (i := 163) rfl))
theorem kR_164 : Cond.selects RX8 yX8_both yX8_both ∈ wR := List.mem_append_right _ (List.mem_append_left _ (List.mem_of_getElem? (i := 164) rfl))
theorem kR_165 : Cond.code yX8_part cX8_part 2 none ∈ wR := List.mem_append_right _ (List.mem_append_left _ (List.mem_of_getElem? (i := 165) rfl))
theorem kR_166 : Cond.fieldLink RX8 225 "SkiHillModel" "opened" "I" ∈ wR := List.mem_append_right _ (List.mem_append_left _ (List.mem_of_getElem? (i := 166) rfl))
theorem kR_167 : Cond.methodLink RX8 228 yX8_either ∈ wR := List.mem_append_right _ (List.mem_append_left _ (List.mem_of_getElem? (i := 167) rfl))
theorem kR_168 : Cond.instanceMethod yX8_either ∈ wR := List.mem_append_right _ (List.mem_append_left _ (List.mem_of_getElem? (i := 168) rfl))
theorem kR_169 : Cond.selects RX8 yX8_either yX8_either ∈ wR := List.mem_append_right _ (List.mem_append_left _ (List.mem_of_getElem? (i := 169) rfl))
theorem kR_170 : Cond.methodLink RX8 231 yX8_test ∈ wR := List.mem_append_right _ (List.mem_append_left _ (List.mem_of_getElem? (i := 170) rfl))
theorem kR_171 : Cond.instanceMethod yX8_test ∈ wR := List.mem_append_right _ (List.mem_append_left _ (List.mem_of_getElem? (i := 171) rfl))
theorem kR_172 : Cond.selects RX8 yX8_test yX8_test ∈ wR := List.mem_append_right _ (List.mem_append_left _ (List.mem_of_getElem? (i := 172) rfl))
theorem kR_173 : Cond.code yX8_both cX8_both 1 none ∈ wR := List.mem_append_right _ (List.mem_append_left _ (List.mem_of_getElem? (i := 173) rfl))
theorem kR_174 : Cond.code yX8_names cX8_names 4 (some .int) ∈ wR := List.mem_append_right _ (List.mem_append_left _ (List.mem_of_getElem? (i := 174) rfl))
theorem kR_175 : Cond.methodLink RX8 240 yX8_names ∈ wR := List.mem_append_right _ (List.mem_append_left _ (List.mem_of_getElem? (i := 175) rfl))
theorem kR_176 : Cond.instanceMethod yX8_names ∈ wR := List.mem_append_right _ (List.mem_append_left _ (List.mem_of_getElem? (i := 176) rfl))
theorem kR_177 : Cond.selects RX8 yX8_names yX8_names ∈ wR := List.mem_append_right _ (List.mem_append_left _ (List.mem_of_getElem? (i := 177) rfl))
theorem kR_178 : Cond.code yX8_ring cX8_ring 5 (some .int) ∈ wR := List.mem_append_right _ (List.mem_append_left _ (List.mem_of_getElem? (i := 178) rfl))
theorem kR_179 : Cond.fieldLink RX8 244 "SkiHillModel" "faultRing" "I" ∈ wR := List.mem_append_right _ (List.mem_append_left _ (List.mem_of_getElem? (i := 179) rfl))
theorem kR_180 : Cond.methodLink RX8 247 yX8_ring ∈ wR := List.mem_append_right _ (List.mem_append_left _ (List.mem_of_getElem? (i := 180) rfl))
theorem kR_181 : Cond.instanceMethod yX8_ring ∈ wR := List.mem_append_right _ (List.mem_append_left _ (List.mem_of_getElem? (i := 181) rfl))
theorem kR_182 : Cond.selects RX8 yX8_ring yX8_ring ∈ wR := List.mem_append_right _ (List.mem_append_left _ (List.mem_of_getElem? (i := 182) rfl))
theorem kR_183 : Cond.methodLink RX8 250 yJ6_bitCount_0f7a4 ∈ wR := List.mem_append_right _ (List.mem_append_left _ (List.mem_of_getElem? (i := 183) rfl))
theorem kR_184 : Cond.static yJ6_bitCount_0f7a4 ∈ wR := List.mem_append_right _ (List.mem_append_left _ (List.mem_of_getElem? (i := 184) rfl))
theorem kR_185 : Cond.initialized RJ6 ∈ wR := List.mem_append_right _ (List.mem_append_left _ (List.mem_of_getElem? (i := 185) rfl))
theorem kR_186 : Cond.code yJ6_bitCount_0f7a4 cJ6_bitCount_0f7a4 1 (some .int) ∈ wR := List.mem_append_right _ (List.mem_append_left _ (List.mem_of_getElem? (i := 186) rfl))
theorem kR_187 : Cond.constant RJ6 265 (1431655765) ∈ wR := List.mem_append_right _ (List.mem_append_left _ (List.mem_of_getElem? (i := 187) rfl))
theorem kR_188 : Cond.constant RJ6 266 (858993459) ∈ wR := List.mem_append_right _ (List.mem_append_left _ (List.mem_of_getElem? (i := 188) rfl))
theorem kR_189 : Cond.constant RJ6 267 (252645135) ∈ wR := List.mem_append_right _ (List.mem_append_left _ (List.mem_of_getElem? (i := 189) rfl))
theorem kR_190 : Cond.code yX8_rule cX8_rule 3 (some .int) ∈ wR := List.mem_append_right _ (List.mem_append_left _ (List.mem_of_getElem? (i := 190) rfl))
theorem kR_191 : Cond.code yX8_unrule cX8_unrule 3 (some .boolean) ∈ wR := List.mem_append_right _ (List.mem_append_left _ (List.mem_of_getElem? (i := 191) rfl))
theorem kR_192 : Cond.code yX8_fault cX8_fault 2 (some .int) ∈ wR := List.mem_append_right _ (List.mem_append_left _ (List.mem_of_getElem? (i := 192) rfl))
theorem kR_193 : Cond.code yX8_depth cX8_depth 2 (some .int) ∈ wR := List.mem_append_right _ (List.mem_append_left _ (List.mem_of_getElem? (i := 193) rfl))
theorem kR_194 : Cond.fieldLink RX8 255 "SkiHillModel" "minute" "I" ∈ wR := List.mem_append_right _ (List.mem_append_left _ (List.mem_of_getElem? (i := 194) rfl))
theorem kR_195 : Cond.methodLink RX8 258 yX8_depth ∈ wR := List.mem_append_right _ (List.mem_append_left _ (List.mem_of_getElem? (i := 195) rfl))
theorem kR_196 : Cond.instanceMethod yX8_depth ∈ wR := List.mem_append_right _ (List.mem_append_left _ (List.mem_of_getElem? (i := 196) rfl))
theorem kR_197 : Cond.selects RX8 yX8_depth yX8_depth ∈ wR := List.mem_append_right _ (List.mem_append_left _ (List.mem_of_getElem? (i := 197) rfl))
theorem kR_198 : Cond.code yX8_measure cX8_measure 7 (some .int) ∈ wR := List.mem_append_right _ (List.mem_append_left _ (List.mem_of_getElem? (i := 198) rfl))
theorem kR_199 : Cond.code yX8_compares cX8_compares 3 (some .boolean) ∈ wR := List.mem_append_right _ (List.mem_append_left _ (List.mem_of_getElem? (i := 199) rfl))
theorem kR_200 : Cond.methodLink RX8 261 yX8_isRunning ∈ wR := List.mem_append_right _ (List.mem_append_left _ (List.mem_of_getElem? (i := 200) rfl))
theorem kR_201 : Cond.instanceMethod yX8_isRunning ∈ wR := List.mem_append_right _ (List.mem_append_left _ (List.mem_of_getElem? (i := 201) rfl))
theorem kR_202 : Cond.selects RX8 yX8_isRunning yX8_isRunning ∈ wR := List.mem_append_right _ (List.mem_append_left _ (List.mem_of_getElem? (i := 202) rfl))
theorem kR_203 : Cond.methodLink RX8 264 yX8_measure ∈ wR := List.mem_append_right _ (List.mem_append_left _ (List.mem_of_getElem? (i := 203) rfl))
theorem kR_204 : Cond.instanceMethod yX8_measure ∈ wR := List.mem_append_right _ (List.mem_append_left _ (List.mem_of_getElem? (i := 204) rfl))
theorem kR_205 : Cond.selects RX8 yX8_measure yX8_measure ∈ wR := List.mem_append_right _ (List.mem_append_left _ (List.mem_of_getElem? (i := 205) rfl))
theorem kR_206 : Cond.methodLink RX8 268 yX8_compares ∈ wR := List.mem_append_right _ (List.mem_append_left _ (List.mem_of_getElem? (i := 206) rfl))
theorem kR_207 : Cond.static yX8_compares ∈ wR := List.mem_append_right _ (List.mem_append_left _ (List.mem_of_getElem? (i := 207) rfl))
theorem kR_208 : Cond.code yX8_holds cX8_holds 5 (some .boolean) ∈ wR := List.mem_append_right _ (List.mem_append_left _ (List.mem_of_getElem? (i := 208) rfl))
theorem kR_209 : Cond.code yX8_areKnown cX8_areKnown 4 (some .boolean) ∈ wR := List.mem_append_right _ (List.mem_append_left _ (List.mem_of_getElem? (i := 209) rfl))
theorem kR_210 : Cond.methodLink RX8 272 yX8_areKnown ∈ wR := List.mem_append_right _ (List.mem_append_left _ (List.mem_of_getElem? (i := 210) rfl))
theorem kR_211 : Cond.instanceMethod yX8_areKnown ∈ wR := List.mem_append_right _ (List.mem_append_left _ (List.mem_of_getElem? (i := 211) rfl))
theorem kR_212 : Cond.selects RX8 yX8_areKnown yX8_areKnown ∈ wR := List.mem_append_right _ (List.mem_append_left _ (List.mem_of_getElem? (i := 212) rfl))
theorem kR_213 : Cond.methodLink RX8 275 yX8_holds ∈ wR := List.mem_append_right _ (List.mem_append_left _ (List.mem_of_getElem? (i := 213) rfl))
theorem kR_214 : Cond.instanceMethod yX8_holds ∈ wR := List.mem_append_right _ (List.mem_append_left _ (List.mem_of_getElem? (i := 214) rfl))
theorem kR_215 : Cond.selects RX8 yX8_holds yX8_holds ∈ wR := List.mem_append_right _ (List.mem_append_left _ (List.mem_of_getElem? (i := 215) rfl))
theorem kR_216 : Cond.code yX8_opens cX8_opens 3 none ∈ wR := List.mem_append_right _ (List.mem_append_left _ (List.mem_of_getElem? (i := 216) rfl))
theorem kR_217 : Cond.methodLink RX8 278 yX8_opens ∈ wR := List.mem_append_right _ (List.mem_append_left _ (List.mem_of_getElem? (i := 217) rfl))
theorem kR_218 : Cond.instanceMethod yX8_opens ∈ wR := List.mem_append_right _ (List.mem_append_left _ (List.mem_of_getElem? (i := 218) rfl))
theorem kR_219 : Cond.selects RX8 yX8_opens yX8_opens ∈ wR := List.mem_append_right _ (List.mem_append_left _ (List.mem_of_getElem? (i := 219) rfl))
theorem kR_220 : Cond.code yX8_open cX8_open 2 (some .boolean) ∈ wR := List.mem_append_right _ (List.mem_append_left _ (List.mem_of_getElem? (i := 220) rfl))
theorem kR_221 : Cond.code yX8_runs cX8_runs 2 (some .boolean) ∈ wR := List.mem_append_right _ (List.mem_append_left _ (List.mem_of_getElem? (i := 221) rfl))
theorem kR_222 : Cond.constantLong RX8 281 (300) ∈ wR := List.mem_append_right _ (List.mem_append_left _ (List.mem_of_getElem? (i := 222) rfl))
theorem kR_223 : Cond.code yX8_wind cX8_wind 2 none ∈ wR := List.mem_append_right _ (List.mem_append_left _ (List.mem_of_getElem? (i := 223) rfl))
theorem kR_224 : Cond.code yX8_stop cX8_stop 4 (some .boolean) ∈ wR := List.mem_append_right _ (List.mem_append_left _ (List.mem_of_getElem? (i := 224) rfl))
theorem kR_225 : Cond.code yX8_group cX8_group 5 (some .int) ∈ wR := List.mem_append_right _ (List.mem_append_left _ (List.mem_of_getElem? (i := 225) rfl))
theorem kR_226 : Cond.code yX8_wears cX8_wears 7 none ∈ wR := List.mem_append_right _ (List.mem_append_left _ (List.mem_of_getElem? (i := 226) rfl))
theorem kR_227 : Cond.code yX8_waiting cX8_waiting 4 (some .int) ∈ wR := List.mem_append_right _ (List.mem_append_left _ (List.mem_of_getElem? (i := 227) rfl))
theorem kR_228 : Cond.methodLink RX8 283 yX8_wears ∈ wR := List.mem_append_right _ (List.mem_append_left _ (List.mem_of_getElem? (i := 228) rfl))
theorem kR_229 : Cond.instanceMethod yX8_wears ∈ wR := List.mem_append_right _ (List.mem_append_left _ (List.mem_of_getElem? (i := 229) rfl))
theorem kR_230 : Cond.selects RX8 yX8_wears yX8_wears ∈ wR := List.mem_append_right _ (List.mem_append_left _ (List.mem_of_getElem? (i := 230) rfl))
theorem kR_231 : Cond.methodLink RX8 286 yX8_waiting ∈ wR := List.mem_append_right _ (List.mem_append_left _ (List.mem_of_getElem? (i := 231) rfl))
theorem kR_232 : Cond.instanceMethod yX8_waiting ∈ wR := List.mem_append_right _ (List.mem_append_left _ (List.mem_of_getElem? (i := 232) rfl))
theorem kR_233 : Cond.selects RX8 yX8_waiting yX8_waiting ∈ wR := List.mem_append_right _ (List.mem_append_left _ (List.mem_of_getElem? (i := 233) rfl))
theorem kR_234 : Cond.code yX8_chooses cX8_chooses 5 none ∈ wR := List.mem_append_right _ (List.mem_append_left _ (List.mem_of_getElem? (i := 234) rfl))
theorem kR_235 : Cond.code yX8_boards cX8_boards 5 none ∈ wR := List.mem_append_right _ (List.mem_append_left _ (List.mem_of_getElem? (i := 235) rfl))
theorem kR_236 : Cond.methodLink RX8 289 yX8_chooses ∈ wR := List.mem_append_right _ (List.mem_append_left _ (List.mem_of_getElem? (i := 236) rfl))
theorem kR_237 : Cond.instanceMethod yX8_chooses ∈ wR := List.mem_append_right _ (List.mem_append_left _ (List.mem_of_getElem? (i := 237) rfl))
theorem kR_238 : Cond.selects RX8 yX8_chooses yX8_chooses ∈ wR := List.mem_append_right _ (List.mem_append_left _ (List.mem_of_getElem? (i := 238) rfl))
theorem kR_239 : Cond.methodLink RX8 292 yX8_boards ∈ wR := List.mem_append_right _ (List.mem_append_left _ (List.mem_of_getElem? (i := 239) rfl))
theorem kR_240 : Cond.instanceMethod yX8_boards ∈ wR := List.mem_append_right _ (List.mem_append_left _ (List.mem_of_getElem? (i := 240) rfl))
theorem kR_241 : Cond.selects RX8 yX8_boards yX8_boards ∈ wR := List.mem_append_right _ (List.mem_append_left _ (List.mem_of_getElem? (i := 241) rfl))
theorem kR_242 : Cond.code yX8_passes cX8_passes 3 none ∈ wR := List.mem_append_right _ (List.mem_append_left _ (List.mem_of_getElem? (i := 242) rfl))
theorem kR_243 : Cond.constantLong RX8 295 (600) ∈ wR := List.mem_append_right _ (List.mem_append_left _ (List.mem_of_getElem? (i := 243) rfl))
theorem kR_244 : Cond.methodLink RX8 297 yX8_passes ∈ wR := List.mem_append_right _ (List.mem_append_left _ (List.mem_of_getElem? (i := 244) rfl))
theorem kR_245 : Cond.instanceMethod yX8_passes ∈ wR := List.mem_append_right _ (List.mem_append_left _ (List.mem_of_getElem? (i := 245) rfl))
theorem kR_246 : Cond.selects RX8 yX8_passes yX8_passes ∈ wR := List.mem_append_right _ (List.mem_append_left _ (List.mem_of_getElem? (i := 246) rfl))
theorem kR_247 : Cond.code yX8_step cX8_step 3 (some .int) ∈ wR := List.mem_append_right _ (List.mem_append_left _ (List.mem_of_getElem? (i := 247) rfl))
theorem kR_248 : Cond.methodLink RX8 300 yX8_noGroup ∈ wR := List.mem_append_right _ (List.mem_append_left _ (List.mem_of_getElem? (i := 248) rfl))
theorem kR_249 : Cond.instanceMethod yX8_noGroup ∈ wR := List.mem_append_right _ (List.mem_append_left _ (List.mem_of_getElem? (i := 249) rfl))
theorem kR_250 : Cond.selects RX8 yX8_noGroup yX8_noGroup ∈ wR := List.mem_append_right _ (List.mem_append_left _ (List.mem_of_getElem? (i := 250) rfl))
theorem kR_251 : Cond.code yX8_look cX8_look 3 (some .int) ∈ wR := List.mem_append_right _ (List.mem_append_left _ (List.mem_of_getElem? (i := 251) rfl))
theorem kR_252 : Cond.code yX8_row cX8_row 3 (some .int) ∈ wR := List.mem_append_right _ (List.mem_append_left _ (List.mem_of_getElem? (i := 252) rfl))
theorem kR_253 : Cond.code yX8_people cX8_people 4 (some .int) ∈ wR := List.mem_append_right _ (List.mem_append_left _ (List.mem_of_getElem? (i := 253) rfl))
theorem kR_254 : Cond.constantLong RX8 306 (100000) ∈ wR := List.mem_append_right _ (List.mem_append_left _ (List.mem_of_getElem? (i := 254) rfl))
theorem kR_255 : Cond.methodLink RX8 303 yX8_noCell ∈ wR := List.mem_append_right _ (List.mem_append_left _ (List.mem_of_getElem? (i := 255) rfl))
theorem kR_256 : Cond.instanceMethod yX8_noCell ∈ wR := List.mem_append_right _ (List.mem_append_left _ (List.mem_of_getElem? (i := 256) rfl))
theorem kR_257 : Cond.selects RX8 yX8_noCell yX8_noCell ∈ wR := List.mem_append_right _ (List.mem_append_left _ (List.mem_of_getElem? (i := 257) rfl))
theorem kR_258 : Cond.code yX8_snow cX8_snow 4 (some .int) ∈ wR := List.mem_append_right _ (List.mem_append_left _ (List.mem_of_getElem? (i := 258) rfl))
theorem kR_259 : Cond.constantLong RX8 308 (1000000) ∈ wR := List.mem_append_right _ (List.mem_append_left _ (List.mem_of_getElem? (i := 259) rfl))
theorem kR_260 : Cond.code yX8_melt cX8_melt 6 (some .int) ∈ wR := List.mem_append_right _ (List.mem_append_left _ (List.mem_of_getElem? (i := 260) rfl))
theorem kR_261 : Cond.code yX8_push cX8_push 5 (some .int) ∈ wR := List.mem_append_right _ (List.mem_append_left _ (List.mem_of_getElem? (i := 261) rfl))
theorem kR_262 : Cond.code yX8_cell cX8_cell 3 (some .int) ∈ wR := List.mem_append_right _ (List.mem_append_left _ (List.mem_of_getElem? (i := 262) rfl))
theorem kR_263 : Cond.constantLong RX8 310 (100) ∈ wR := List.mem_append_right _ (List.mem_append_left _ (List.mem_of_getElem? (i := 263) rfl))
theorem kR_264 : Cond.fieldLink RX8 312 "SkiHillModel" "links" "I" ∈ wR := List.mem_append_right _ (List.mem_append_left _ (List.mem_of_getElem? (i := 264) rfl))
theorem kR_265 : Cond.code yX8_link cX8_link 4 (some .int) ∈ wR := List.mem_append_right _ (List.mem_append_left _ (List.mem_of_getElem? (i := 265) rfl))
theorem kR_266 : Cond.code yX8_want cX8_want 3 none ∈ wR := List.mem_append_right _ (List.mem_append_left _ (List.mem_of_getElem? (i := 266) rfl))
theorem kR_267 : Cond.constantLong RX8 315 (1000000000000) ∈ wR := List.mem_append_right _ (List.mem_append_left _ (List.mem_of_getElem? (i := 267) rfl))
theorem kR_268 : Cond.code yX8_ways cX8_ways 6 none ∈ wR := List.mem_append_right _ (List.mem_append_left _ (List.mem_of_getElem? (i := 268) rfl))
theorem kR_269 : Cond.code yX8_seeks cX8_seeks 5 (some .int) ∈ wR := List.mem_append_right _ (List.mem_append_left _ (List.mem_of_getElem? (i := 269) rfl))
theorem kR_270 : Cond.methodLink RX8 317 Lib.MathLoose.min_long.x ∈ wR := List.mem_append_right _ (List.mem_append_left _ (List.mem_of_getElem? (i := 270) rfl))
theorem kR_271 : Cond.static Lib.MathLoose.min_long.x ∈ wR := List.mem_append_right _ (List.mem_append_left _ (List.mem_of_getElem? (i := 271) rfl))
theorem kR_272 : Cond.initialized "java/lang/Math" ∈ wR := List.mem_append_right _ (List.mem_append_left _ (List.mem_of_getElem? (i := 272) rfl))
theorem kR_273 : Cond.code Lib.MathLoose.min_long.x Lib.MathLoose.min_long.code 4 (some .long) ∈ wR := List.mem_append_right _ (List.mem_append_left _ (List.mem_of_getElem? (i := 273) rfl))
theorem kR_274 : Cond.code yX8_carries cX8_carries 8 (some .long) ∈ wR := List.mem_append_right _ (List.mem_append_left _ (List.mem_of_getElem? (i := 274) rfl))
theorem kR_275 : Cond.constantLong RX8 333 (-1) ∈ wR := List.mem_append_right _ (List.mem_append_left _ (List.mem_of_getElem? (i := 275) rfl))
theorem kR_276 : Cond.methodLink RX8 323 yX8_ways ∈ wR := List.mem_append_right _ (List.mem_append_left _ (List.mem_of_getElem? (i := 276) rfl))
theorem kR_277 : Cond.instanceMethod yX8_ways ∈ wR := List.mem_append_right _ (List.mem_append_left _ (List.mem_of_getElem? (i := 277) rfl))
theorem kR_278 : Cond.selects RX8 yX8_ways yX8_ways ∈ wR := List.mem_append_right _ (List.mem_append_left _ (List.mem_of_getElem? (i := 278) rfl))
theorem kR_279 : Cond.methodLink RX8 326 yX8_seeks ∈ wR := List.mem_append_right _ (List.mem_append_left _ (List.mem_of_getElem? (i := 279) rfl))
theorem kR_280 : Cond.instanceMethod yX8_seeks ∈ wR := List.mem_append_right _ (List.mem_append_left _ (List.mem_of_getElem? (i := 280) rfl))
theorem kR_281 : Cond.selects RX8 yX8_seeks yX8_seeks ∈ wR := List.mem_append_right _ (List.mem_append_left _ (List.mem_of_getElem? (i := 281) rfl))
theorem kR_282 : Cond.methodLink RX8 329 yX8_carries ∈ wR := List.mem_append_right _ (List.mem_append_left _ (List.mem_of_getElem? (i := 282) rfl))
theorem kR_283 : Cond.instanceMethod yX8_carries ∈ wR := List.mem_append_right _ (List.mem_append_left _ (List.mem_of_getElem? (i := 283) rfl))
theorem kR_284 : Cond.selects RX8 yX8_carries yX8_carries ∈ wR := List.mem_append_right _ (List.mem_append_left _ (List.mem_of_getElem? (i := 284) rfl))
theorem kR_285 : Cond.code yX8_least cX8_least 6 (some .long) ∈ wR := List.mem_append_right _ (List.mem_append_left _ (List.mem_of_getElem? (i := 285) rfl))
theorem kR_286 : Cond.constantLong RX8 335 (-10000) ∈ wR := List.mem_append_right _ (List.mem_append_left _ (List.mem_of_getElem? (i := 286) rfl))
theorem kR_287 : Cond.constantLong RX8 337 (10000) ∈ wR := List.mem_append_right _ (List.mem_append_left _ (List.mem_of_getElem? (i := 287) rfl))
theorem kR_288 : Cond.code yX8_price cX8_price 3 none ∈ wR := List.mem_append_right _ (List.mem_append_left _ (List.mem_of_getElem? (i := 288) rfl))
theorem kR_289 : Cond.methodLink RX8 339 Lib.Math.abs.name ∈ wR := List.mem_append_right _ (List.mem_append_left _ (List.mem_of_getElem? (i := 289) rfl))
theorem kR_290 : Cond.static Lib.Math.abs.name ∈ wR := List.mem_append_right _ (List.mem_append_left _ (List.mem_of_getElem? (i := 290) rfl))
theorem kR_291 : Cond.code Lib.Math.abs.name Lib.Math.abs.code 1 (some .int) ∈ wR := List.mem_append_right _ (List.mem_append_left _ (List.mem_of_getElem? (i := 291) rfl))
theorem kR_292 : Cond.code yX8_judge cX8_judge 7 (some .long) ∈ wR := List.mem_append_right _ (List.mem_append_left _ (List.mem_of_getElem? (i := 292) rfl))
theorem kR_293 : Cond.code yX8_count cX8_count 5 (some .long) ∈ wR := List.mem_append_right _ (List.mem_append_left _ (List.mem_of_getElem? (i := 293) rfl))
theorem kR_X : ∀ w ∈ wsX80, w ∈ wR := fun w h => List.mem_append_right _ (List.mem_append_right _ h)
theorem kR_S : ∀ w ∈ wSl, w ∈ wR := fun w h => List.mem_append_left _ h
theorem kR_good : GoodIn wR wR := goodIn_sub (fun _ h => h) (by decide +kernel)
abbrev rG : Type := va_G × (ClassId × ClassId × ClassId × ClassId) × (Nat → Nat) × (Nat → Nat) × (Nat → Nat)
abbrev RSt : Type := (Nat → Int32) × (Nat → Nat → Int32) × (Nat → Nat → Int64)
def rsI (σ : RSt) (k : Nat) (v : Int32) : RSt := (upd σ.1 k v, σ.2)
def rsA (σ : RSt) (k i : Nat) (v : Int32) : RSt := (σ.1, (fun j => if j = k then upd (σ.2.1 k) i v else σ.2.1 j), σ.2.2)
def rsJ (σ : RSt) (k i : Nat) (v : Int64) : RSt := (σ.1, σ.2.1, fun j => if j = k then vp_updL (σ.2.2 k) i v else σ.2.2 j)
def rfs (G : rG) (σ : RSt) : List Value := [.int (σ.1 0), .ref (G.2.2.1 1), .int (σ.1 2), .ref (G.2.2.1 3), .ref (G.2.2.1 4), .ref (G.2.2.1 5), .ref (G.2.2.1 6), .int (σ.1 7), .ref (G.2.2.1 8), .int (σ.1 9), .ref (G.2.2.1 10), .ref (G.2.2.1 11), .ref (G.2.2.1 12), .ref (G.2.2.1 13), .int (σ.1 14), .ref (G.2.2.1 15), .ref (G.2.2.1 16), .ref (G.2.2.1 17), .ref (G.2.2.1 18), .int (σ.1 19), .int (σ.1 20), .ref (G.2.2.1 21), .int (σ.1 22), .ref (G.2.2.1 23), .ref (G.2.2.1 24), .ref (G.2.2.1 25), .int (σ.1 26), .int (σ.1 27), .int (σ.1 28), .ref (G.2.2.1 29), .ref (G.2.2.1 30), .int (σ.1 31), .int (σ.1 32), .int (σ.1 33), .int (σ.1 34), .int (σ.1 35), .int (σ.1 36), .int (σ.1 37), .ref (G.2.2.1 38), .ref (G.2.2.1 39), .ref (G.2.2.1 40), .ref (G.2.2.1 41), .ref (G.2.2.1 42), .ref (G.2.2.1 43), .ref (G.2.2.1 44), .ref (G.2.2.1 45), .ref (G.2.2.1 46), .ref (G.2.2.1 47), .ref (G.2.2.1 48)]
def rws (G : rG) (σ : RSt) : va_W := [(G.2.2.1 0, .inr (8, rfs G σ)), (G.2.2.1 1, .inl (G.2.1.1, 400, .inl (σ.2.1 1))), (G.2.2.1 3, .inl (G.2.1.2.1, 40, .inl (σ.2.1 3))), (G.2.2.1 4, .inl (G.2.1.2.2.2, 8, .inl (σ.2.1 4))), (G.2.2.1 5, .inl (G.2.1.2.1, 480, .inl (σ.2.1 5))), (G.2.2.1 6, .inl (G.2.1.2.1, 8, .inl (σ.2.1 6))), (G.2.2.1 8, .inl (G.2.1.2.1, 60, .inl (σ.2.1 8))), (G.2.2.1 10, .inl (G.2.1.2.1, 160, .inl (σ.2.1 10))), (G.2.2.1 11, .inl (G.2.1.2.1, 40, .inl (σ.2.1 11))), (G.2.2.1 12, .inl (G.2.1.2.1, 40, .inl (σ.2.1 12))), (G.2.2.1 13, .inl (G.2.1.2.1, 40, .inl (σ.2.1 13))), (G.2.2.1 15, .inl (G.2.1.2.1, 4400, .inl (σ.2.1 15))), (G.2.2.1 16, .inl (G.2.1.2.1, 4400, .inl (σ.2.1 16))), (G.2.2.1 17, .inl (G.2.1.2.1, 11, .inl (σ.2.1 17))), (G.2.2.1 18, .inl (G.2.1.2.2.2, 10, .inl (σ.2.1 18))), (G.2.2.1 21, .inl (G.2.1.2.1, 420, .inl (σ.2.1 21))), (G.2.2.1 23, .inl (G.2.1.2.1, 80, .inl (σ.2.1 23))), (G.2.2.1 24, .inl (G.2.1.2.1, 80, .inl (σ.2.1 24))), (G.2.2.1 25, .inl (G.2.1.2.1, 80, .inl (σ.2.1 25))), (G.2.2.1 29, .inl (G.2.1.2.2.1, 5, .inr (.inl (σ.2.2 29)))), (G.2.2.1 30, .inl (G.2.1.2.1, 5, .inl (σ.2.1 30))), (G.2.2.1 38, .inl (G.2.1.2.1, 10, .inl (σ.2.1 38))), (G.2.2.1 39, .inl (G.2.1.2.2.2, 10, .inl (σ.2.1 39))), (G.2.2.1 40, .inl (G.2.1.2.2.2, 10, .inl (σ.2.1 40))), (G.2.2.1 41, .inl (G.2.1.2.2.2, 400, .inl (σ.2.1 41))), (G.2.2.1 42, .inl (G.2.1.2.2.1, 1600, .inr (.inl (σ.2.2 42)))), (G.2.2.1 43, .inl (G.2.1.2.2.1, 1600, .inr (.inl (σ.2.2 43)))), (G.2.2.1 44, .inl (G.2.1.2.2.1, 40, .inr (.inl (σ.2.2 44)))), (G.2.2.1 45, .inl (G.2.1.2.2.1, 80, .inr (.inl (σ.2.2 45)))), (G.2.2.1 46, .inl (G.2.1.2.1, 80, .inl (σ.2.1 46))), (G.2.2.1 47, .inl (G.2.1.2.2.2, 40, .inl (σ.2.1 47))), (G.2.2.1 48, .inl (G.2.1.2.2.2, 40, .inl (σ.2.1 48)))]
def r_0 : RSt := (fun _ => 0, fun _ _ => 0, fun _ _ => 0)
theorem rws_fst (G : rG) (σ τ : RSt) : (rws G σ).map Prod.fst = (rws G τ).map Prod.fst := rfl
theorem va_D.fst {A : Nat → Prop} {ws ws' : va_W} (h : va_D A ws) (e : ws.map Prod.fst = ws'.map Prod.fst) : va_D A ws' := by
  have key : ∀ (i : Nat) (q : Nat × va_E), ws'[i]? = some q → ∃ q' : Nat × va_E, ws[i]? = some q' ∧ q'.1 = q.1 := by
    intro i q hq
    have h1 : (ws'.map Prod.fst)[i]? = some q.1 := by rw [List.getElem?_map, hq]; rfl
    rw [← e, List.getElem?_map] at h1
    cases hw : ws[i]? with
    | none => rw [hw] at h1; cases h1
    | some q' => rw [hw] at h1; exact ⟨q', rfl, Option.some.inj h1⟩
  refine ⟨fun i j p q hp hq hpq => ?_, fun i q hq => ?_⟩
  · obtain ⟨p', h1, e1⟩ := key i p hp
    obtain ⟨q', h2, e2⟩ := key j q hq
    exact h.1 i j p' q' h1 h2 (by rw [e1, e2, hpq])
  · obtain ⟨q', h2, e2⟩ := key i q hq
    rw [← e2]; exact h.2 i q' h2
def rA (G : rG) (sz : Nat) : Nat → Prop := va_A (rws G r_0) sz
def rKt (G : rG) : List (ClassId × FieldType) := [(G.2.1.1, .byte), (G.2.1.2.1, .int), (G.2.1.2.2.1, .long), (G.2.1.2.2.2, .boolean)]
def rWd (G : rG) (A : Nat → Prop) (H0 : Heap) (σ : RSt) (H : Heap) (locs : List Loc) : Prop := va_P G.1 vwCl (rws G σ) H ∧ va_D A (rws G σ) ∧ va_S A H0 H locs
/-- the nine words of the reference's language, as the String constants that they are; and that String's texts are compact -/
def rtx (i : Nat) : String := ["or", "and", "not", "snow", "wind", "hour", "worn", "open", "lift"].getD i ""
def rti (i : Nat) : Nat := [153, 155, 157, 159, 160, 161, 163, 165, 167].getD i 0
def rtb : List (List Int32) := [[111, 114], [97, 110, 100], [110, 111, 116], [115, 110, 111, 119], [119, 105, 110, 100], [104, 111, 117, 114], [119, 111, 114, 110], [111, 112, 101, 110], [108, 105, 102, 116]]
def rTx (G : rG) (A : Nat → Prop) (U : State) (H : Heap) : Prop := (∀ i : Nat, i < 9 → jS (G.2.2.2.1 i) (G.2.2.2.2 i) (rtb.getD i []) A U H) ∧ ∀ i : Nat, i < 9 → vk_R RX8 (rti i) (rtx i) (G.2.2.2.1 i) U
def rPc (G : rG) (σ : RSt) (sz : Nat) (vs : List Value) : Array Value → State → Prop := va_Pc (.ref (G.2.2.1 0) :: vs) (fun U => U.heap.size = sz ∧ va_P G.1 vwCl (rws G σ) U.heap ∧ (va_K G.1 vwCl (rKt G) U ∧ rTx G (rA G sz) U U.heap) ∧ va_D (fun _ => True) (rws G σ))
def rB (G : rG) (sz : Nat) (τ : RSt) (t : State) : Prop := va_P G.1 vwCl (rws G τ) t.heap ∧ va_K G.1 vwCl (rKt G) t ∧ va_D (rA G sz) (rws G τ)
def rC (X : gT) (cc : ByteArray) (nL : Nat) (G : rG) (A : Nat → Prop) : Prop := gC X cc nL ∧ (g_s X).vm.findClass RX8 = some (g_m X).cls ∧ (∀ w ∈ wR, w.before (g_a X) (g_s X) = true) ∧ va_K G.1 vwCl (rKt G) (g_s X) ∧ (∀ q : Nat, (g_s X).heap.size ≤ q → A q) ∧ rTx G A (g_s X) (g_s X).heap
abbrev rWs (y : MethodName) (b : ByteArray) (mL : Nat) (ret : Option FieldType) : List Cond := .code y b mL ret :: wR
theorem rWs_good {y : MethodName} {b : ByteArray} {mL : Nat} {ret : Option FieldType} (h : Cond.code y b mL ret ∈ wR) : GoodIn wR (rWs y b mL ret) := fun w hw => (List.mem_cons.mp hw).elim (fun e => by rw [e]; exact kR_good _ h) (fun h => kR_good w h)
section RLIB
variable {X : gT} {Q : State → Prop} {k n : Nat} {σ : RSt} {lv : List (Nat × Value)} {pc : Nat} {rest : List Value} {cc : ByteArray} {nL : Nat} {G : rG} {A : Nat → Prop} {H0 : Heap}
theorem r_g0 (C : rC X cc nL G A) (hdg : decode cc pc = .ok (.getfield 110, 3)) (kk : gJ X (rWd G A H0) Q k n σ lv (pc + 3) (.int (σ.1 0) :: rest)) : gJ X (rWd G A H0) Q k n σ lv (pc) (.ref (G.2.2.1 0) :: rest) := fun H locs ls hW hl => va_get (D := G.1) (cl := vwCl) (ws := rws G σ) (ci := 8) (C := RX8) (T := TX8) (N := 49) (own := RX8) (ref := RX8) (fs := rfs G σ) C.1.1 C.1.2.1 C.2.2.1 kR_X C.2.1 C.2.2.2.1 hW.1 0 rfl rfl 0 (by decide) (C.2.2.1 _ kR_40) (fun _ h => h) rfl hdg (kk H locs ls hW hl)
theorem rset0 (G : rG) (σ : RSt) (v : Int32) : (rws G σ).set 0 (G.2.2.1 0, .inr (8, (rfs G σ).set 0 (.int v))) = rws G (rsI σ 0 v) := rfl
theorem r_p0 (C : rC X cc nL G A) {v : Int32} (hdg : decode cc pc = .ok (.putfield 110, 3)) (kk : gJ X (rWd G A H0) Q k n (rsI σ 0 v) lv (pc + 3) (rest)) : gJ X (rWd G A H0) Q k n σ lv (pc) (.int v :: .ref (G.2.2.1 0) :: rest) := fun H locs ls hW hl => va_put (D := G.1) (cl := vwCl) (ws := rws G σ) (ci := 8) (C := RX8) (T := TX8) (N := 49) (own := RX8) (ref := RX8) (fs := rfs G σ) (ty := .int) (v := .int v) C.1.1 C.1.2.1 C.2.2.1 kR_X tyX8 tyX8_ok nmX8 C.2.1 C.2.2.2.1 hW.1 hW.2.1 hW.2.2 0 rfl rfl 0 (by decide) (C.2.2.1 _ kR_40) (fun _ h => h) rfl (by decide +kernel) rfl rfl (Nat.le_of_ble_eq_true rfl) hdg (fun H1 locs1 hP hD hS => kk H1 locs1 ls ⟨rset0 G σ v ▸ hP, rset0 G σ v ▸ hD, hS⟩ hl)
theorem r_g1 (C : rC X cc nL G A) (hdg : decode cc pc = .ok (.getfield 9, 3)) (kk : gJ X (rWd G A H0) Q k n σ lv (pc + 3) (.ref (G.2.2.1 1) :: rest)) : gJ X (rWd G A H0) Q k n σ lv (pc) (.ref (G.2.2.1 0) :: rest) := fun H locs ls hW hl => va_get (D := G.1) (cl := vwCl) (ws := rws G σ) (ci := 8) (C := RX8) (T := TX8) (N := 49) (own := RX8) (ref := RX8) (fs := rfs G σ) C.1.1 C.1.2.1 C.2.2.1 kR_X C.2.1 C.2.2.2.1 hW.1 0 rfl rfl 1 (by decide) (C.2.2.1 _ kR_4) (fun _ h => h) rfl hdg (kk H locs ls hW hl)
theorem r_g2 (C : rC X cc nL G A) (hdg : decode cc pc = .ok (.getfield 131, 3)) (kk : gJ X (rWd G A H0) Q k n σ lv (pc + 3) (.int (σ.1 2) :: rest)) : gJ X (rWd G A H0) Q k n σ lv (pc) (.ref (G.2.2.1 0) :: rest) := fun H locs ls hW hl => va_get (D := G.1) (cl := vwCl) (ws := rws G σ) (ci := 8) (C := RX8) (T := TX8) (N := 49) (own := RX8) (ref := RX8) (fs := rfs G σ) C.1.1 C.1.2.1 C.2.2.1 kR_X C.2.1 C.2.2.2.1 hW.1 0 rfl rfl 2 (by decide) (C.2.2.1 _ kR_57) (fun _ h => h) rfl hdg (kk H locs ls hW hl)
theorem rset2 (G : rG) (σ : RSt) (v : Int32) : (rws G σ).set 0 (G.2.2.1 0, .inr (8, (rfs G σ).set 2 (.int v))) = rws G (rsI σ 2 v) := rfl
theorem r_p2 (C : rC X cc nL G A) {v : Int32} (hdg : decode cc pc = .ok (.putfield 131, 3)) (kk : gJ X (rWd G A H0) Q k n (rsI σ 2 v) lv (pc + 3) (rest)) : gJ X (rWd G A H0) Q k n σ lv (pc) (.int v :: .ref (G.2.2.1 0) :: rest) := fun H locs ls hW hl => va_put (D := G.1) (cl := vwCl) (ws := rws G σ) (ci := 8) (C := RX8) (T := TX8) (N := 49) (own := RX8) (ref := RX8) (fs := rfs G σ) (ty := .int) (v := .int v) C.1.1 C.1.2.1 C.2.2.1 kR_X tyX8 tyX8_ok nmX8 C.2.1 C.2.2.2.1 hW.1 hW.2.1 hW.2.2 0 rfl rfl 2 (by decide) (C.2.2.1 _ kR_57) (fun _ h => h) rfl (by decide +kernel) rfl rfl (Nat.le_of_ble_eq_true rfl) hdg (fun H1 locs1 hP hD hS => kk H1 locs1 ls ⟨rset2 G σ v ▸ hP, rset2 G σ v ▸ hD, hS⟩ hl)
theorem r_g3 (C : rC X cc nL G A) (hdg : decode cc pc = .ok (.getfield 13, 3)) (kk : gJ X (rWd G A H0) Q k n σ lv (pc + 3) (.ref (G.2.2.1 3) :: rest)) : gJ X (rWd G A H0) Q k n σ lv (pc) (.ref (G.2.2.1 0) :: rest) := fun H locs ls hW hl => va_get (D := G.1) (cl := vwCl) (ws := rws G σ) (ci := 8) (C := RX8) (T := TX8) (N := 49) (own := RX8) (ref := RX8) (fs := rfs G σ) C.1.1 C.1.2.1 C.2.2.1 kR_X C.2.1 C.2.2.2.1 hW.1 0 rfl rfl 3 (by decide) (C.2.2.1 _ kR_6) (fun _ h => h) rfl hdg (kk H locs ls hW hl)
theorem r_g4 (C : rC X cc nL G A) (hdg : decode cc pc = .ok (.getfield 17, 3)) (kk : gJ X (rWd G A H0) Q k n σ lv (pc + 3) (.ref (G.2.2.1 4) :: rest)) : gJ X (rWd G A H0) Q k n σ lv (pc) (.ref (G.2.2.1 0) :: rest) := fun H locs ls hW hl => va_get (D := G.1) (cl := vwCl) (ws := rws G σ) (ci := 8) (C := RX8) (T := TX8) (N := 49) (own := RX8) (ref := RX8) (fs := rfs G σ) C.1.1 C.1.2.1 C.2.2.1 kR_X C.2.1 C.2.2.2.1 hW.1 0 rfl rfl 4 (by decide) (C.2.2.1 _ kR_8) (fun _ h => h) rfl hdg (kk H locs ls hW hl)
theorem r_g5 (C : rC X cc nL G A) (hdg : decode cc pc = .ok (.getfield 21, 3)) (kk : gJ X (rWd G A H0) Q k n σ lv (pc + 3) (.ref (G.2.2.1 5) :: rest)) : gJ X (rWd G A H0) Q k n σ lv (pc) (.ref (G.2.2.1 0) :: rest) := fun H locs ls hW hl => va_get (D := G.1) (cl := vwCl) (ws := rws G σ) (ci := 8) (C := RX8) (T := TX8) (N := 49) (own := RX8) (ref := RX8) (fs := rfs G σ) C.1.1 C.1.2.1 C.2.2.1 kR_X C.2.1 C.2.2.2.1 hW.1 0 rfl rfl 5 (by decide) (C.2.2.1 _ kR_9) (fun _ h => h) rfl hdg (kk H locs ls hW hl)
theorem r_g6 (C : rC X cc nL G A) (hdg : decode cc pc = .ok (.getfield 24, 3)) (kk : gJ X (rWd G A H0) Q k n σ lv (pc + 3) (.ref (G.2.2.1 6) :: rest)) : gJ X (rWd G A H0) Q k n σ lv (pc) (.ref (G.2.2.1 0) :: rest) := fun H locs ls hW hl => va_get (D := G.1) (cl := vwCl) (ws := rws G σ) (ci := 8) (C := RX8) (T := TX8) (N := 49) (own := RX8) (ref := RX8) (fs := rfs G σ) C.1.1 C.1.2.1 C.2.2.1 kR_X C.2.1 C.2.2.2.1 hW.1 0 rfl rfl 6 (by decide) (C.2.2.1 _ kR_10) (fun _ h => h) rfl hdg (kk H locs ls hW hl)
theorem r_g7 (C : rC X cc nL G A) (hdg : decode cc pc = .ok (.getfield 113, 3)) (kk : gJ X (rWd G A H0) Q k n σ lv (pc + 3) (.int (σ.1 7) :: rest)) : gJ X (rWd G A H0) Q k n σ lv (pc) (.ref (G.2.2.1 0) :: rest) := fun H locs ls hW hl => va_get (D := G.1) (cl := vwCl) (ws := rws G σ) (ci := 8) (C := RX8) (T := TX8) (N := 49) (own := RX8) (ref := RX8) (fs := rfs G σ) C.1.1 C.1.2.1 C.2.2.1 kR_X C.2.1 C.2.2.2.1 hW.1 0 rfl rfl 7 (by decide) (C.2.2.1 _ kR_44) (fun _ h => h) rfl hdg (kk H locs ls hW hl)
theorem rset7 (G : rG) (σ : RSt) (v : Int32) : (rws G σ).set 0 (G.2.2.1 0, .inr (8, (rfs G σ).set 7 (.int v))) = rws G (rsI σ 7 v) := rfl
theorem r_p7 (C : rC X cc nL G A) {v : Int32} (hdg : decode cc pc = .ok (.putfield 113, 3)) (kk : gJ X (rWd G A H0) Q k n (rsI σ 7 v) lv (pc + 3) (rest)) : gJ X (rWd G A H0) Q k n σ lv (pc) (.int v :: .ref (G.2.2.1 0) :: rest) := fun H locs ls hW hl => va_put (D := G.1) (cl := vwCl) (ws := rws G σ) (ci := 8) (C := RX8) (T := TX8) (N := 49) (own := RX8) (ref := RX8) (fs := rfs G σ) (ty := .int) (v := .int v) C.1.1 C.1.2.1 C.2.2.1 kR_X tyX8 tyX8_ok nmX8 C.2.1 C.2.2.2.1 hW.1 hW.2.1 hW.2.2 0 rfl rfl 7 (by decide) (C.2.2.1 _ kR_44) (fun _ h => h) rfl (by decide +kernel) rfl rfl (Nat.le_of_ble_eq_true rfl) hdg (fun H1 locs1 hP hD hS => kk H1 locs1 ls ⟨rset7 G σ v ▸ hP, rset7 G σ v ▸ hD, hS⟩ hl)
theorem r_g8 (C : rC X cc nL G A) (hdg : decode cc pc = .ok (.getfield 27, 3)) (kk : gJ X (rWd G A H0) Q k n σ lv (pc + 3) (.ref (G.2.2.1 8) :: rest)) : gJ X (rWd G A H0) Q k n σ lv (pc) (.ref (G.2.2.1 0) :: rest) := fun H locs ls hW hl => va_get (D := G.1) (cl := vwCl) (ws := rws G σ) (ci := 8) (C := RX8) (T := TX8) (N := 49) (own := RX8) (ref := RX8) (fs := rfs G σ) C.1.1 C.1.2.1 C.2.2.1 kR_X C.2.1 C.2.2.2.1 hW.1 0 rfl rfl 8 (by decide) (C.2.2.1 _ kR_11) (fun _ h => h) rfl hdg (kk H locs ls hW hl)
theorem r_g9 (C : rC X cc nL G A) (hdg : decode cc pc = .ok (.getfield 120, 3)) (kk : gJ X (rWd G A H0) Q k n σ lv (pc + 3) (.int (σ.1 9) :: rest)) : gJ X (rWd G A H0) Q k n σ lv (pc) (.ref (G.2.2.1 0) :: rest) := fun H locs ls hW hl => va_get (D := G.1) (cl := vwCl) (ws := rws G σ) (ci := 8) (C := RX8) (T := TX8) (N := 49) (own := RX8) (ref := RX8) (fs := rfs G σ) C.1.1 C.1.2.1 C.2.2.1 kR_X C.2.1 C.2.2.2.1 hW.1 0 rfl rfl 9 (by decide) (C.2.2.1 _ kR_49) (fun _ h => h) rfl hdg (kk H locs ls hW hl)
theorem rset9 (G : rG) (σ : RSt) (v : Int32) : (rws G σ).set 0 (G.2.2.1 0, .inr (8, (rfs G σ).set 9 (.int v))) = rws G (rsI σ 9 v) := rfl
theorem r_p9 (C : rC X cc nL G A) {v : Int32} (hdg : decode cc pc = .ok (.putfield 120, 3)) (kk : gJ X (rWd G A H0) Q k n (rsI σ 9 v) lv (pc + 3) (rest)) : gJ X (rWd G A H0) Q k n σ lv (pc) (.int v :: .ref (G.2.2.1 0) :: rest) := fun H locs ls hW hl => va_put (D := G.1) (cl := vwCl) (ws := rws G σ) (ci := 8) (C := RX8) (T := TX8) (N := 49) (own := RX8) (ref := RX8) (fs := rfs G σ) (ty := .int) (v := .int v) C.1.1 C.1.2.1 C.2.2.1 kR_X tyX8 tyX8_ok nmX8 C.2.1 C.2.2.2.1 hW.1 hW.2.1 hW.2.2 0 rfl rfl 9 (by decide) (C.2.2.1 _ kR_49) (fun _ h => h) rfl (by decide +kernel) rfl rfl (Nat.le_of_ble_eq_true rfl) hdg (fun H1 locs1 hP hD hS => kk H1 locs1 ls ⟨rset9 G σ v ▸ hP, rset9 G σ v ▸ hD, hS⟩ hl)
theorem r_g10 (C : rC X cc nL G A) (hdg : decode cc pc = .ok (.getfield 30, 3)) (kk : gJ X (rWd G A H0) Q k n σ lv (pc + 3) (.ref (G.2.2.1 10) :: rest)) : gJ X (rWd G A H0) Q k n σ lv (pc) (.ref (G.2.2.1 0) :: rest) := fun H locs ls hW hl => va_get (D := G.1) (cl := vwCl) (ws := rws G σ) (ci := 8) (C := RX8) (T := TX8) (N := 49) (own := RX8) (ref := RX8) (fs := rfs G σ) C.1.1 C.1.2.1 C.2.2.1 kR_X C.2.1 C.2.2.2.1 hW.1 0 rfl rfl 10 (by decide) (C.2.2.1 _ kR_12) (fun _ h => h) rfl hdg (kk H locs ls hW hl)
theorem r_g11 (C : rC X cc nL G A) (hdg : decode cc pc = .ok (.getfield 33, 3)) (kk : gJ X (rWd G A H0) Q k n σ lv (pc + 3) (.ref (G.2.2.1 11) :: rest)) : gJ X (rWd G A H0) Q k n σ lv (pc) (.ref (G.2.2.1 0) :: rest) := fun H locs ls hW hl => va_get (D := G.1) (cl := vwCl) (ws := rws G σ) (ci := 8) (C := RX8) (T := TX8) (N := 49) (own := RX8) (ref := RX8) (fs := rfs G σ) C.1.1 C.1.2.1 C.2.2.1 kR_X C.2.1 C.2.2.2.1 hW.1 0 rfl rfl 11 (by decide) (C.2.2.1 _ kR_13) (fun _ h => h) rfl hdg (kk H locs ls hW hl)
theorem r_g12 (C : rC X cc nL G A) (hdg : decode cc pc = .ok (.getfield 36, 3)) (kk : gJ X (rWd G A H0) Q k n σ lv (pc + 3) (.ref (G.2.2.1 12) :: rest)) : gJ X (rWd G A H0) Q k n σ lv (pc) (.ref (G.2.2.1 0) :: rest) := fun H locs ls hW hl => va_get (D := G.1) (cl := vwCl) (ws := rws G σ) (ci := 8) (C := RX8) (T := TX8) (N := 49) (own := RX8) (ref := RX8) (fs := rfs G σ) C.1.1 C.1.2.1 C.2.2.1 kR_X C.2.1 C.2.2.2.1 hW.1 0 rfl rfl 12 (by decide) (C.2.2.1 _ kR_14) (fun _ h => h) rfl hdg (kk H locs ls hW hl)
theorem r_g13 (C : rC X cc nL G A) (hdg : decode cc pc = .ok (.getfield 39, 3)) (kk : gJ X (rWd G A H0) Q k n σ lv (pc + 3) (.ref (G.2.2.1 13) :: rest)) : gJ X (rWd G A H0) Q k n σ lv (pc) (.ref (G.2.2.1 0) :: rest) := fun H locs ls hW hl => va_get (D := G.1) (cl := vwCl) (ws := rws G σ) (ci := 8) (C := RX8) (T := TX8) (N := 49) (own := RX8) (ref := RX8) (fs := rfs G σ) C.1.1 C.1.2.1 C.2.2.1 kR_X C.2.1 C.2.2.2.1 hW.1 0 rfl rfl 13 (by decide) (C.2.2.1 _ kR_15) (fun _ h => h) rfl hdg (kk H locs ls hW hl)
theorem r_g14 (C : rC X cc nL G A) (hdg : decode cc pc = .ok (.getfield 123, 3)) (kk : gJ X (rWd G A H0) Q k n σ lv (pc + 3) (.int (σ.1 14) :: rest)) : gJ X (rWd G A H0) Q k n σ lv (pc) (.ref (G.2.2.1 0) :: rest) := fun H locs ls hW hl => va_get (D := G.1) (cl := vwCl) (ws := rws G σ) (ci := 8) (C := RX8) (T := TX8) (N := 49) (own := RX8) (ref := RX8) (fs := rfs G σ) C.1.1 C.1.2.1 C.2.2.1 kR_X C.2.1 C.2.2.2.1 hW.1 0 rfl rfl 14 (by decide) (C.2.2.1 _ kR_51) (fun _ h => h) rfl hdg (kk H locs ls hW hl)
theorem rset14 (G : rG) (σ : RSt) (v : Int32) : (rws G σ).set 0 (G.2.2.1 0, .inr (8, (rfs G σ).set 14 (.int v))) = rws G (rsI σ 14 v) := rfl
theorem r_p14 (C : rC X cc nL G A) {v : Int32} (hdg : decode cc pc = .ok (.putfield 123, 3)) (kk : gJ X (rWd G A H0) Q k n (rsI σ 14 v) lv (pc + 3) (rest)) : gJ X (rWd G A H0) Q k n σ lv (pc) (.int v :: .ref (G.2.2.1 0) :: rest) := fun H locs ls hW hl => va_put (D := G.1) (cl := vwCl) (ws := rws G σ) (ci := 8) (C := RX8) (T := TX8) (N := 49) (own := RX8) (ref := RX8) (fs := rfs G σ) (ty := .int) (v := .int v) C.1.1 C.1.2.1 C.2.2.1 kR_X tyX8 tyX8_ok nmX8 C.2.1 C.2.2.2.1 hW.1 hW.2.1 hW.2.2 0 rfl rfl 14 (by decide) (C.2.2.1 _ kR_51) (fun _ h => h) rfl (by decide +kernel) rfl rfl (Nat.le_of_ble_eq_true rfl) hdg (fun H1 locs1 hP hD hS => kk H1 locs1 ls ⟨rset14 G σ v ▸ hP, rset14 G σ v ▸ hD, hS⟩ hl)
theorem r_g15 (C : rC X cc nL G A) (hdg : decode cc pc = .ok (.getfield 42, 3)) (kk : gJ X (rWd G A H0) Q k n σ lv (pc + 3) (.ref (G.2.2.1 15) :: rest)) : gJ X (rWd G A H0) Q k n σ lv (pc) (.ref (G.2.2.1 0) :: rest) := fun H locs ls hW hl => va_get (D := G.1) (cl := vwCl) (ws := rws G σ) (ci := 8) (C := RX8) (T := TX8) (N := 49) (own := RX8) (ref := RX8) (fs := rfs G σ) C.1.1 C.1.2.1 C.2.2.1 kR_X C.2.1 C.2.2.2.1 hW.1 0 rfl rfl 15 (by decide) (C.2.2.1 _ kR_16) (fun _ h => h) rfl hdg (kk H locs ls hW hl)
theorem r_g16 (C : rC X cc nL G A) (hdg : decode cc pc = .ok (.getfield 45, 3)) (kk : gJ X (rWd G A H0) Q k n σ lv (pc + 3) (.ref (G.2.2.1 16) :: rest)) : gJ X (rWd G A H0) Q k n σ lv (pc) (.ref (G.2.2.1 0) :: rest) := fun H locs ls hW hl => va_get (D := G.1) (cl := vwCl) (ws := rws G σ) (ci := 8) (C := RX8) (T := TX8) (N := 49) (own := RX8) (ref := RX8) (fs := rfs G σ) C.1.1 C.1.2.1 C.2.2.1 kR_X C.2.1 C.2.2.2.1 hW.1 0 rfl rfl 16 (by decide) (C.2.2.1 _ kR_17) (fun _ h => h) rfl hdg (kk H locs ls hW hl)
theorem r_g17 (C : rC X cc nL G A) (hdg : decode cc pc = .ok (.getfield 48, 3)) (kk : gJ X (rWd G A H0) Q k n σ lv (pc + 3) (.ref (G.2.2.1 17) :: rest)) : gJ X (rWd G A H0) Q k n σ lv (pc) (.ref (G.2.2.1 0) :: rest) := fun H locs ls hW hl => va_get (D := G.1) (cl := vwCl) (ws := rws G σ) (ci := 8) (C := RX8) (T := TX8) (N := 49) (own := RX8) (ref := RX8) (fs := rfs G σ) C.1.1 C.1.2.1 C.2.2.1 kR_X C.2.1 C.2.2.2.1 hW.1 0 rfl rfl 17 (by decide) (C.2.2.1 _ kR_18) (fun _ h => h) rfl hdg (kk H locs ls hW hl)
theorem r_g18 (C : rC X cc nL G A) (hdg : decode cc pc = .ok (.getfield 51, 3)) (kk : gJ X (rWd G A H0) Q k n σ lv (pc + 3) (.ref (G.2.2.1 18) :: rest)) : gJ X (rWd G A H0) Q k n σ lv (pc) (.ref (G.2.2.1 0) :: rest) := fun H locs ls hW hl => va_get (D := G.1) (cl := vwCl) (ws := rws G σ) (ci := 8) (C := RX8) (T := TX8) (N := 49) (own := RX8) (ref := RX8) (fs := rfs G σ) C.1.1 C.1.2.1 C.2.2.1 kR_X C.2.1 C.2.2.2.1 hW.1 0 rfl rfl 18 (by decide) (C.2.2.1 _ kR_19) (fun _ h => h) rfl hdg (kk H locs ls hW hl)
theorem r_g19 (C : rC X cc nL G A) (hdg : decode cc pc = .ok (.getfield 54, 3)) (kk : gJ X (rWd G A H0) Q k n σ lv (pc + 3) (.int (σ.1 19) :: rest)) : gJ X (rWd G A H0) Q k n σ lv (pc) (.ref (G.2.2.1 0) :: rest) := fun H locs ls hW hl => va_get (D := G.1) (cl := vwCl) (ws := rws G σ) (ci := 8) (C := RX8) (T := TX8) (N := 49) (own := RX8) (ref := RX8) (fs := rfs G σ) C.1.1 C.1.2.1 C.2.2.1 kR_X C.2.1 C.2.2.2.1 hW.1 0 rfl rfl 19 (by decide) (C.2.2.1 _ kR_20) (fun _ h => h) rfl hdg (kk H locs ls hW hl)
theorem rset19 (G : rG) (σ : RSt) (v : Int32) : (rws G σ).set 0 (G.2.2.1 0, .inr (8, (rfs G σ).set 19 (.int v))) = rws G (rsI σ 19 v) := rfl
theorem r_p19 (C : rC X cc nL G A) {v : Int32} (hdg : decode cc pc = .ok (.putfield 54, 3)) (kk : gJ X (rWd G A H0) Q k n (rsI σ 19 v) lv (pc + 3) (rest)) : gJ X (rWd G A H0) Q k n σ lv (pc) (.int v :: .ref (G.2.2.1 0) :: rest) := fun H locs ls hW hl => va_put (D := G.1) (cl := vwCl) (ws := rws G σ) (ci := 8) (C := RX8) (T := TX8) (N := 49) (own := RX8) (ref := RX8) (fs := rfs G σ) (ty := .int) (v := .int v) C.1.1 C.1.2.1 C.2.2.1 kR_X tyX8 tyX8_ok nmX8 C.2.1 C.2.2.2.1 hW.1 hW.2.1 hW.2.2 0 rfl rfl 19 (by decide) (C.2.2.1 _ kR_20) (fun _ h => h) rfl (by decide +kernel) rfl rfl (Nat.le_of_ble_eq_true rfl) hdg (fun H1 locs1 hP hD hS => kk H1 locs1 ls ⟨rset19 G σ v ▸ hP, rset19 G σ v ▸ hD, hS⟩ hl)
theorem r_g20 (C : rC X cc nL G A) (hdg : decode cc pc = .ok (.getfield 244, 3)) (kk : gJ X (rWd G A H0) Q k n σ lv (pc + 3) (.int (σ.1 20) :: rest)) : gJ X (rWd G A H0) Q k n σ lv (pc) (.ref (G.2.2.1 0) :: rest) := fun H locs ls hW hl => va_get (D := G.1) (cl := vwCl) (ws := rws G σ) (ci := 8) (C := RX8) (T := TX8) (N := 49) (own := RX8) (ref := RX8) (fs := rfs G σ) C.1.1 C.1.2.1 C.2.2.1 kR_X C.2.1 C.2.2.2.1 hW.1 0 rfl rfl 20 (by decide) (C.2.2.1 _ kR_179) (fun _ h => h) rfl hdg (kk H locs ls hW hl)
theorem rset20 (G : rG) (σ : RSt) (v : Int32) : (rws G σ).set 0 (G.2.2.1 0, .inr (8, (rfs G σ).set 20 (.int v))) = rws G (rsI σ 20 v) := rfl
theorem r_p20 (C : rC X cc nL G A) {v : Int32} (hdg : decode cc pc = .ok (.putfield 244, 3)) (kk : gJ X (rWd G A H0) Q k n (rsI σ 20 v) lv (pc + 3) (rest)) : gJ X (rWd G A H0) Q k n σ lv (pc) (.int v :: .ref (G.2.2.1 0) :: rest) := fun H locs ls hW hl => va_put (D := G.1) (cl := vwCl) (ws := rws G σ) (ci := 8) (C := RX8) (T := TX8) (N := 49) (own := RX8) (ref := RX8) (fs := rfs G σ) (ty := .int) (v := .int v) C.1.1 C.1.2.1 C.2.2.1 kR_X tyX8 tyX8_ok nmX8 C.2.1 C.2.2.2.1 hW.1 hW.2.1 hW.2.2 0 rfl rfl 20 (by decide) (C.2.2.1 _ kR_179) (fun _ h => h) rfl (by decide +kernel) rfl rfl (Nat.le_of_ble_eq_true rfl) hdg (fun H1 locs1 hP hD hS => kk H1 locs1 ls ⟨rset20 G σ v ▸ hP, rset20 G σ v ▸ hD, hS⟩ hl)
theorem r_g21 (C : rC X cc nL G A) (hdg : decode cc pc = .ok (.getfield 58, 3)) (kk : gJ X (rWd G A H0) Q k n σ lv (pc + 3) (.ref (G.2.2.1 21) :: rest)) : gJ X (rWd G A H0) Q k n σ lv (pc) (.ref (G.2.2.1 0) :: rest) := fun H locs ls hW hl => va_get (D := G.1) (cl := vwCl) (ws := rws G σ) (ci := 8) (C := RX8) (T := TX8) (N := 49) (own := RX8) (ref := RX8) (fs := rfs G σ) C.1.1 C.1.2.1 C.2.2.1 kR_X C.2.1 C.2.2.2.1 hW.1 0 rfl rfl 21 (by decide) (C.2.2.1 _ kR_21) (fun _ h => h) rfl hdg (kk H locs ls hW hl)
theorem r_g22 (C : rC X cc nL G A) (hdg : decode cc pc = .ok (.getfield 126, 3)) (kk : gJ X (rWd G A H0) Q k n σ lv (pc + 3) (.int (σ.1 22) :: rest)) : gJ X (rWd G A H0) Q k n σ lv (pc) (.ref (G.2.2.1 0) :: rest) := fun H locs ls hW hl => va_get (D := G.1) (cl := vwCl) (ws := rws G σ) (ci := 8) (C := RX8) (T := TX8) (N := 49) (own := RX8) (ref := RX8) (fs := rfs G σ) C.1.1 C.1.2.1 C.2.2.1 kR_X C.2.1 C.2.2.2.1 hW.1 0 rfl rfl 22 (by decide) (C.2.2.1 _ kR_53) (fun _ h => h) rfl hdg (kk H locs ls hW hl)
theorem rset22 (G : rG) (σ : RSt) (v : Int32) : (rws G σ).set 0 (G.2.2.1 0, .inr (8, (rfs G σ).set 22 (.int v))) = rws G (rsI σ 22 v) := rfl
theorem r_p22 (C : rC X cc nL G A) {v : Int32} (hdg : decode cc pc = .ok (.putfield 126, 3)) (kk : gJ X (rWd G A H0) Q k n (rsI σ 22 v) lv (pc + 3) (rest)) : gJ X (rWd G A H0) Q k n σ lv (pc) (.int v :: .ref (G.2.2.1 0) :: rest) := fun H locs ls hW hl => va_put (D := G.1) (cl := vwCl) (ws := rws G σ) (ci := 8) (C := RX8) (T := TX8) (N := 49) (own := RX8) (ref := RX8) (fs := rfs G σ) (ty := .int) (v := .int v) C.1.1 C.1.2.1 C.2.2.1 kR_X tyX8 tyX8_ok nmX8 C.2.1 C.2.2.2.1 hW.1 hW.2.1 hW.2.2 0 rfl rfl 22 (by decide) (C.2.2.1 _ kR_53) (fun _ h => h) rfl (by decide +kernel) rfl rfl (Nat.le_of_ble_eq_true rfl) hdg (fun H1 locs1 hP hD hS => kk H1 locs1 ls ⟨rset22 G σ v ▸ hP, rset22 G σ v ▸ hD, hS⟩ hl)
theorem r_g23 (C : rC X cc nL G A) (hdg : decode cc pc = .ok (.getfield 61, 3)) (kk : gJ X (rWd G A H0) Q k n σ lv (pc + 3) (.ref (G.2.2.1 23) :: rest)) : gJ X (rWd G A H0) Q k n σ lv (pc) (.ref (G.2.2.1 0) :: rest) := fun H locs ls hW hl => va_get (D := G.1) (cl := vwCl) (ws := rws G σ) (ci := 8) (C := RX8) (T := TX8) (N := 49) (own := RX8) (ref := RX8) (fs := rfs G σ) C.1.1 C.1.2.1 C.2.2.1 kR_X C.2.1 C.2.2.2.1 hW.1 0 rfl rfl 23 (by decide) (C.2.2.1 _ kR_22) (fun _ h => h) rfl hdg (kk H locs ls hW hl)
theorem r_g24 (C : rC X cc nL G A) (hdg : decode cc pc = .ok (.getfield 64, 3)) (kk : gJ X (rWd G A H0) Q k n σ lv (pc + 3) (.ref (G.2.2.1 24) :: rest)) : gJ X (rWd G A H0) Q k n σ lv (pc) (.ref (G.2.2.1 0) :: rest) := fun H locs ls hW hl => va_get (D := G.1) (cl := vwCl) (ws := rws G σ) (ci := 8) (C := RX8) (T := TX8) (N := 49) (own := RX8) (ref := RX8) (fs := rfs G σ) C.1.1 C.1.2.1 C.2.2.1 kR_X C.2.1 C.2.2.2.1 hW.1 0 rfl rfl 24 (by decide) (C.2.2.1 _ kR_23) (fun _ h => h) rfl hdg (kk H locs ls hW hl)
theorem r_g25 (C : rC X cc nL G A) (hdg : decode cc pc = .ok (.getfield 67, 3)) (kk : gJ X (rWd G A H0) Q k n σ lv (pc + 3) (.ref (G.2.2.1 25) :: rest)) : gJ X (rWd G A H0) Q k n σ lv (pc) (.ref (G.2.2.1 0) :: rest) := fun H locs ls hW hl => va_get (D := G.1) (cl := vwCl) (ws := rws G σ) (ci := 8) (C := RX8) (T := TX8) (N := 49) (own := RX8) (ref := RX8) (fs := rfs G σ) C.1.1 C.1.2.1 C.2.2.1 kR_X C.2.1 C.2.2.2.1 hW.1 0 rfl rfl 25 (by decide) (C.2.2.1 _ kR_24) (fun _ h => h) rfl hdg (kk H locs ls hW hl)
theorem r_g26 (C : rC X cc nL G A) (hdg : decode cc pc = .ok (.getfield 312, 3)) (kk : gJ X (rWd G A H0) Q k n σ lv (pc + 3) (.int (σ.1 26) :: rest)) : gJ X (rWd G A H0) Q k n σ lv (pc) (.ref (G.2.2.1 0) :: rest) := fun H locs ls hW hl => va_get (D := G.1) (cl := vwCl) (ws := rws G σ) (ci := 8) (C := RX8) (T := TX8) (N := 49) (own := RX8) (ref := RX8) (fs := rfs G σ) C.1.1 C.1.2.1 C.2.2.1 kR_X C.2.1 C.2.2.2.1 hW.1 0 rfl rfl 26 (by decide) (C.2.2.1 _ kR_264) (fun _ h => h) rfl hdg (kk H locs ls hW hl)
theorem rset26 (G : rG) (σ : RSt) (v : Int32) : (rws G σ).set 0 (G.2.2.1 0, .inr (8, (rfs G σ).set 26 (.int v))) = rws G (rsI σ 26 v) := rfl
theorem r_p26 (C : rC X cc nL G A) {v : Int32} (hdg : decode cc pc = .ok (.putfield 312, 3)) (kk : gJ X (rWd G A H0) Q k n (rsI σ 26 v) lv (pc + 3) (rest)) : gJ X (rWd G A H0) Q k n σ lv (pc) (.int v :: .ref (G.2.2.1 0) :: rest) := fun H locs ls hW hl => va_put (D := G.1) (cl := vwCl) (ws := rws G σ) (ci := 8) (C := RX8) (T := TX8) (N := 49) (own := RX8) (ref := RX8) (fs := rfs G σ) (ty := .int) (v := .int v) C.1.1 C.1.2.1 C.2.2.1 kR_X tyX8 tyX8_ok nmX8 C.2.1 C.2.2.2.1 hW.1 hW.2.1 hW.2.2 0 rfl rfl 26 (by decide) (C.2.2.1 _ kR_264) (fun _ h => h) rfl (by decide +kernel) rfl rfl (Nat.le_of_ble_eq_true rfl) hdg (fun H1 locs1 hP hD hS => kk H1 locs1 ls ⟨rset26 G σ v ▸ hP, rset26 G σ v ▸ hD, hS⟩ hl)
theorem r_g27 (C : rC X cc nL G A) (hdg : decode cc pc = .ok (.getfield 150, 3)) (kk : gJ X (rWd G A H0) Q k n σ lv (pc + 3) (.int (σ.1 27) :: rest)) : gJ X (rWd G A H0) Q k n σ lv (pc) (.ref (G.2.2.1 0) :: rest) := fun H locs ls hW hl => va_get (D := G.1) (cl := vwCl) (ws := rws G σ) (ci := 8) (C := RX8) (T := TX8) (N := 49) (own := RX8) (ref := RX8) (fs := rfs G σ) C.1.1 C.1.2.1 C.2.2.1 kR_X C.2.1 C.2.2.2.1 hW.1 0 rfl rfl 27 (by decide) (C.2.2.1 _ kR_71) (fun _ h => h) rfl hdg (kk H locs ls hW hl)
theorem rset27 (G : rG) (σ : RSt) (v : Int32) : (rws G σ).set 0 (G.2.2.1 0, .inr (8, (rfs G σ).set 27 (.int v))) = rws G (rsI σ 27 v) := rfl
theorem r_p27 (C : rC X cc nL G A) {v : Int32} (hdg : decode cc pc = .ok (.putfield 150, 3)) (kk : gJ X (rWd G A H0) Q k n (rsI σ 27 v) lv (pc + 3) (rest)) : gJ X (rWd G A H0) Q k n σ lv (pc) (.int v :: .ref (G.2.2.1 0) :: rest) := fun H locs ls hW hl => va_put (D := G.1) (cl := vwCl) (ws := rws G σ) (ci := 8) (C := RX8) (T := TX8) (N := 49) (own := RX8) (ref := RX8) (fs := rfs G σ) (ty := .int) (v := .int v) C.1.1 C.1.2.1 C.2.2.1 kR_X tyX8 tyX8_ok nmX8 C.2.1 C.2.2.2.1 hW.1 hW.2.1 hW.2.2 0 rfl rfl 27 (by decide) (C.2.2.1 _ kR_71) (fun _ h => h) rfl (by decide +kernel) rfl rfl (Nat.le_of_ble_eq_true rfl) hdg (fun H1 locs1 hP hD hS => kk H1 locs1 ls ⟨rset27 G σ v ▸ hP, rset27 G σ v ▸ hD, hS⟩ hl)
theorem r_g28 (C : rC X cc nL G A) (hdg : decode cc pc = .ok (.getfield 255, 3)) (kk : gJ X (rWd G A H0) Q k n σ lv (pc + 3) (.int (σ.1 28) :: rest)) : gJ X (rWd G A H0) Q k n σ lv (pc) (.ref (G.2.2.1 0) :: rest) := fun H locs ls hW hl => va_get (D := G.1) (cl := vwCl) (ws := rws G σ) (ci := 8) (C := RX8) (T := TX8) (N := 49) (own := RX8) (ref := RX8) (fs := rfs G σ) C.1.1 C.1.2.1 C.2.2.1 kR_X C.2.1 C.2.2.2.1 hW.1 0 rfl rfl 28 (by decide) (C.2.2.1 _ kR_194) (fun _ h => h) rfl hdg (kk H locs ls hW hl)
theorem rset28 (G : rG) (σ : RSt) (v : Int32) : (rws G σ).set 0 (G.2.2.1 0, .inr (8, (rfs G σ).set 28 (.int v))) = rws G (rsI σ 28 v) := rfl
theorem r_p28 (C : rC X cc nL G A) {v : Int32} (hdg : decode cc pc = .ok (.putfield 255, 3)) (kk : gJ X (rWd G A H0) Q k n (rsI σ 28 v) lv (pc + 3) (rest)) : gJ X (rWd G A H0) Q k n σ lv (pc) (.int v :: .ref (G.2.2.1 0) :: rest) := fun H locs ls hW hl => va_put (D := G.1) (cl := vwCl) (ws := rws G σ) (ci := 8) (C := RX8) (T := TX8) (N := 49) (own := RX8) (ref := RX8) (fs := rfs G σ) (ty := .int) (v := .int v) C.1.1 C.1.2.1 C.2.2.1 kR_X tyX8 tyX8_ok nmX8 C.2.1 C.2.2.2.1 hW.1 hW.2.1 hW.2.2 0 rfl rfl 28 (by decide) (C.2.2.1 _ kR_194) (fun _ h => h) rfl (by decide +kernel) rfl rfl (Nat.le_of_ble_eq_true rfl) hdg (fun H1 locs1 hP hD hS => kk H1 locs1 ls ⟨rset28 G σ v ▸ hP, rset28 G σ v ▸ hD, hS⟩ hl)
theorem r_g29 (C : rC X cc nL G A) (hdg : decode cc pc = .ok (.getfield 70, 3)) (kk : gJ X (rWd G A H0) Q k n σ lv (pc + 3) (.ref (G.2.2.1 29) :: rest)) : gJ X (rWd G A H0) Q k n σ lv (pc) (.ref (G.2.2.1 0) :: rest) := fun H locs ls hW hl => va_get (D := G.1) (cl := vwCl) (ws := rws G σ) (ci := 8) (C := RX8) (T := TX8) (N := 49) (own := RX8) (ref := RX8) (fs := rfs G σ) C.1.1 C.1.2.1 C.2.2.1 kR_X C.2.1 C.2.2.2.1 hW.1 0 rfl rfl 29 (by decide) (C.2.2.1 _ kR_26) (fun _ h => h) rfl hdg (kk H locs ls hW hl)
theorem r_g30 (C : rC X cc nL G A) (hdg : decode cc pc = .ok (.getfield 74, 3)) (kk : gJ X (rWd G A H0) Q k n σ lv (pc + 3) (.ref (G.2.2.1 30) :: rest)) : gJ X (rWd G A H0) Q k n σ lv (pc) (.ref (G.2.2.1 0) :: rest) := fun H locs ls hW hl => va_get (D := G.1) (cl := vwCl) (ws := rws G σ) (ci := 8) (C := RX8) (T := TX8) (N := 49) (own := RX8) (ref := RX8) (fs := rfs G σ) C.1.1 C.1.2.1 C.2.2.1 kR_X C.2.1 C.2.2.2.1 hW.1 0 rfl rfl 30 (by decide) (C.2.2.1 _ kR_27) (fun _ h => h) rfl hdg (kk H locs ls hW hl)
theorem r_g31 (C : rC X cc nL G A) (hdg : decode cc pc = .ok (.getfield 171, 3)) (kk : gJ X (rWd G A H0) Q k n σ lv (pc + 3) (.int (σ.1 31) :: rest)) : gJ X (rWd G A H0) Q k n σ lv (pc) (.ref (G.2.2.1 0) :: rest) := fun H locs ls hW hl => va_get (D := G.1) (cl := vwCl) (ws := rws G σ) (ci := 8) (C := RX8) (T := TX8) (N := 49) (own := RX8) (ref := RX8) (fs := rfs G σ) C.1.1 C.1.2.1 C.2.2.1 kR_X C.2.1 C.2.2.2.1 hW.1 0 rfl rfl 31 (by decide) (C.2.2.1 _ kR_76) (fun _ h => h) rfl hdg (kk H locs ls hW hl)
theorem rset31 (G : rG) (σ : RSt) (v : Int32) : (rws G σ).set 0 (G.2.2.1 0, .inr (8, (rfs G σ).set 31 (.int v))) = rws G (rsI σ 31 v) := rfl
theorem r_p31 (C : rC X cc nL G A) {v : Int32} (hdg : decode cc pc = .ok (.putfield 171, 3)) (kk : gJ X (rWd G A H0) Q k n (rsI σ 31 v) lv (pc + 3) (rest)) : gJ X (rWd G A H0) Q k n σ lv (pc) (.int v :: .ref (G.2.2.1 0) :: rest) := fun H locs ls hW hl => va_put (D := G.1) (cl := vwCl) (ws := rws G σ) (ci := 8) (C := RX8) (T := TX8) (N := 49) (own := RX8) (ref := RX8) (fs := rfs G σ) (ty := .int) (v := .int v) C.1.1 C.1.2.1 C.2.2.1 kR_X tyX8 tyX8_ok nmX8 C.2.1 C.2.2.2.1 hW.1 hW.2.1 hW.2.2 0 rfl rfl 31 (by decide) (C.2.2.1 _ kR_76) (fun _ h => h) rfl (by decide +kernel) rfl rfl (Nat.le_of_ble_eq_true rfl) hdg (fun H1 locs1 hP hD hS => kk H1 locs1 ls ⟨rset31 G σ v ▸ hP, rset31 G σ v ▸ hD, hS⟩ hl)
theorem r_g32 (C : rC X cc nL G A) (hdg : decode cc pc = .ok (.getfield 187, 3)) (kk : gJ X (rWd G A H0) Q k n σ lv (pc + 3) (.int (σ.1 32) :: rest)) : gJ X (rWd G A H0) Q k n σ lv (pc) (.ref (G.2.2.1 0) :: rest) := fun H locs ls hW hl => va_get (D := G.1) (cl := vwCl) (ws := rws G σ) (ci := 8) (C := RX8) (T := TX8) (N := 49) (own := RX8) (ref := RX8) (fs := rfs G σ) C.1.1 C.1.2.1 C.2.2.1 kR_X C.2.1 C.2.2.2.1 hW.1 0 rfl rfl 32 (by decide) (C.2.2.1 _ kR_128) (fun _ h => h) rfl hdg (kk H locs ls hW hl)
theorem rset32 (G : rG) (σ : RSt) (v : Int32) : (rws G σ).set 0 (G.2.2.1 0, .inr (8, (rfs G σ).set 32 (.int v))) = rws G (rsI σ 32 v) := rfl
theorem r_p32 (C : rC X cc nL G A) {v : Int32} (hdg : decode cc pc = .ok (.putfield 187, 3)) (kk : gJ X (rWd G A H0) Q k n (rsI σ 32 v) lv (pc + 3) (rest)) : gJ X (rWd G A H0) Q k n σ lv (pc) (.int v :: .ref (G.2.2.1 0) :: rest) := fun H locs ls hW hl => va_put (D := G.1) (cl := vwCl) (ws := rws G σ) (ci := 8) (C := RX8) (T := TX8) (N := 49) (own := RX8) (ref := RX8) (fs := rfs G σ) (ty := .int) (v := .int v) C.1.1 C.1.2.1 C.2.2.1 kR_X tyX8 tyX8_ok nmX8 C.2.1 C.2.2.2.1 hW.1 hW.2.1 hW.2.2 0 rfl rfl 32 (by decide) (C.2.2.1 _ kR_128) (fun _ h => h) rfl (by decide +kernel) rfl rfl (Nat.le_of_ble_eq_true rfl) hdg (fun H1 locs1 hP hD hS => kk H1 locs1 ls ⟨rset32 G σ v ▸ hP, rset32 G σ v ▸ hD, hS⟩ hl)
theorem r_g33 (C : rC X cc nL G A) (hdg : decode cc pc = .ok (.getfield 193, 3)) (kk : gJ X (rWd G A H0) Q k n σ lv (pc + 3) (.int (σ.1 33) :: rest)) : gJ X (rWd G A H0) Q k n σ lv (pc) (.ref (G.2.2.1 0) :: rest) := fun H locs ls hW hl => va_get (D := G.1) (cl := vwCl) (ws := rws G σ) (ci := 8) (C := RX8) (T := TX8) (N := 49) (own := RX8) (ref := RX8) (fs := rfs G σ) C.1.1 C.1.2.1 C.2.2.1 kR_X C.2.1 C.2.2.2.1 hW.1 0 rfl rfl 33 (by decide) (C.2.2.1 _ kR_130) (fun _ h => h) rfl hdg (kk H locs ls hW hl)
theorem rset33 (G : rG) (σ : RSt) (v : Int32) : (rws G σ).set 0 (G.2.2.1 0, .inr (8, (rfs G σ).set 33 (.int v))) = rws G (rsI σ 33 v) := rfl
theorem r_p33 (C : rC X cc nL G A) {v : Int32} (hdg : decode cc pc = .ok (.putfield 193, 3)) (kk : gJ X (rWd G A H0) Q k n (rsI σ 33 v) lv (pc + 3) (rest)) : gJ X (rWd G A H0) Q k n σ lv (pc) (.int v :: .ref (G.2.2.1 0) :: rest) := fun H locs ls hW hl => va_put (D := G.1) (cl := vwCl) (ws := rws G σ) (ci := 8) (C := RX8) (T := TX8) (N := 49) (own := RX8) (ref := RX8) (fs := rfs G σ) (ty := .int) (v := .int v) C.1.1 C.1.2.1 C.2.2.1 kR_X tyX8 tyX8_ok nmX8 C.2.1 C.2.2.2.1 hW.1 hW.2.1 hW.2.2 0 rfl rfl 33 (by decide) (C.2.2.1 _ kR_130) (fun _ h => h) rfl (by decide +kernel) rfl rfl (Nat.le_of_ble_eq_true rfl) hdg (fun H1 locs1 hP hD hS => kk H1 locs1 ls ⟨rset33 G σ v ▸ hP, rset33 G σ v ▸ hD, hS⟩ hl)
theorem r_g34 (C : rC X cc nL G A) (hdg : decode cc pc = .ok (.getfield 174, 3)) (kk : gJ X (rWd G A H0) Q k n σ lv (pc + 3) (.int (σ.1 34) :: rest)) : gJ X (rWd G A H0) Q k n σ lv (pc) (.ref (G.2.2.1 0) :: rest) := fun H locs ls hW hl => va_get (D := G.1) (cl := vwCl) (ws := rws G σ) (ci := 8) (C := RX8) (T := TX8) (N := 49) (own := RX8) (ref := RX8) (fs := rfs G σ) C.1.1 C.1.2.1 C.2.2.1 kR_X C.2.1 C.2.2.2.1 hW.1 0 rfl rfl 34 (by decide) (C.2.2.1 _ kR_77) (fun _ h => h) rfl hdg (kk H locs ls hW hl)
theorem rset34 (G : rG) (σ : RSt) (v : Int32) : (rws G σ).set 0 (G.2.2.1 0, .inr (8, (rfs G σ).set 34 (.int v))) = rws G (rsI σ 34 v) := rfl
theorem r_p34 (C : rC X cc nL G A) {v : Int32} (hdg : decode cc pc = .ok (.putfield 174, 3)) (kk : gJ X (rWd G A H0) Q k n (rsI σ 34 v) lv (pc + 3) (rest)) : gJ X (rWd G A H0) Q k n σ lv (pc) (.int v :: .ref (G.2.2.1 0) :: rest) := fun H locs ls hW hl => va_put (D := G.1) (cl := vwCl) (ws := rws G σ) (ci := 8) (C := RX8) (T := TX8) (N := 49) (own := RX8) (ref := RX8) (fs := rfs G σ) (ty := .int) (v := .int v) C.1.1 C.1.2.1 C.2.2.1 kR_X tyX8 tyX8_ok nmX8 C.2.1 C.2.2.2.1 hW.1 hW.2.1 hW.2.2 0 rfl rfl 34 (by decide) (C.2.2.1 _ kR_77) (fun _ h => h) rfl (by decide +kernel) rfl rfl (Nat.le_of_ble_eq_true rfl) hdg (fun H1 locs1 hP hD hS => kk H1 locs1 ls ⟨rset34 G σ v ▸ hP, rset34 G σ v ▸ hD, hS⟩ hl)
theorem r_g35 (C : rC X cc nL G A) (hdg : decode cc pc = .ok (.getfield 190, 3)) (kk : gJ X (rWd G A H0) Q k n σ lv (pc + 3) (.int (σ.1 35) :: rest)) : gJ X (rWd G A H0) Q k n σ lv (pc) (.ref (G.2.2.1 0) :: rest) := fun H locs ls hW hl => va_get (D := G.1) (cl := vwCl) (ws := rws G σ) (ci := 8) (C := RX8) (T := TX8) (N := 49) (own := RX8) (ref := RX8) (fs := rfs G σ) C.1.1 C.1.2.1 C.2.2.1 kR_X C.2.1 C.2.2.2.1 hW.1 0 rfl rfl 35 (by decide) (C.2.2.1 _ kR_129) (fun _ h => h) rfl hdg (kk H locs ls hW hl)
theorem rset35 (G : rG) (σ : RSt) (v : Int32) : (rws G σ).set 0 (G.2.2.1 0, .inr (8, (rfs G σ).set 35 (.int v))) = rws G (rsI σ 35 v) := rfl
theorem r_p35 (C : rC X cc nL G A) {v : Int32} (hdg : decode cc pc = .ok (.putfield 190, 3)) (kk : gJ X (rWd G A H0) Q k n (rsI σ 35 v) lv (pc + 3) (rest)) : gJ X (rWd G A H0) Q k n σ lv (pc) (.int v :: .ref (G.2.2.1 0) :: rest) := fun H locs ls hW hl => va_put (D := G.1) (cl := vwCl) (ws := rws G σ) (ci := 8) (C := RX8) (T := TX8) (N := 49) (own := RX8) (ref := RX8) (fs := rfs G σ) (ty := .int) (v := .int v) C.1.1 C.1.2.1 C.2.2.1 kR_X tyX8 tyX8_ok nmX8 C.2.1 C.2.2.2.1 hW.1 hW.2.1 hW.2.2 0 rfl rfl 35 (by decide) (C.2.2.1 _ kR_129) (fun _ h => h) rfl (by decide +kernel) rfl rfl (Nat.le_of_ble_eq_true rfl) hdg (fun H1 locs1 hP hD hS => kk H1 locs1 ls ⟨rset35 G σ v ▸ hP, rset35 G σ v ▸ hD, hS⟩ hl)
theorem r_g36 (C : rC X cc nL G A) (hdg : decode cc pc = .ok (.getfield 225, 3)) (kk : gJ X (rWd G A H0) Q k n σ lv (pc + 3) (.int (σ.1 36) :: rest)) : gJ X (rWd G A H0) Q k n σ lv (pc) (.ref (G.2.2.1 0) :: rest) := fun H locs ls hW hl => va_get (D := G.1) (cl := vwCl) (ws := rws G σ) (ci := 8) (C := RX8) (T := TX8) (N := 49) (own := RX8) (ref := RX8) (fs := rfs G σ) C.1.1 C.1.2.1 C.2.2.1 kR_X C.2.1 C.2.2.2.1 hW.1 0 rfl rfl 36 (by decide) (C.2.2.1 _ kR_166) (fun _ h => h) rfl hdg (kk H locs ls hW hl)
theorem rset36 (G : rG) (σ : RSt) (v : Int32) : (rws G σ).set 0 (G.2.2.1 0, .inr (8, (rfs G σ).set 36 (.int v))) = rws G (rsI σ 36 v) := rfl
theorem r_p36 (C : rC X cc nL G A) {v : Int32} (hdg : decode cc pc = .ok (.putfield 225, 3)) (kk : gJ X (rWd G A H0) Q k n (rsI σ 36 v) lv (pc + 3) (rest)) : gJ X (rWd G A H0) Q k n σ lv (pc) (.int v :: .ref (G.2.2.1 0) :: rest) := fun H locs ls hW hl => va_put (D := G.1) (cl := vwCl) (ws := rws G σ) (ci := 8) (C := RX8) (T := TX8) (N := 49) (own := RX8) (ref := RX8) (fs := rfs G σ) (ty := .int) (v := .int v) C.1.1 C.1.2.1 C.2.2.1 kR_X tyX8 tyX8_ok nmX8 C.2.1 C.2.2.2.1 hW.1 hW.2.1 hW.2.2 0 rfl rfl 36 (by decide) (C.2.2.1 _ kR_166) (fun _ h => h) rfl (by decide +kernel) rfl rfl (Nat.le_of_ble_eq_true rfl) hdg (fun H1 locs1 hP hD hS => kk H1 locs1 ls ⟨rset36 G σ v ▸ hP, rset36 G σ v ▸ hD, hS⟩ hl)
theorem r_g37 (C : rC X cc nL G A) (hdg : decode cc pc = .ok (.getfield 168, 3)) (kk : gJ X (rWd G A H0) Q k n σ lv (pc + 3) (.int (σ.1 37) :: rest)) : gJ X (rWd G A H0) Q k n σ lv (pc) (.ref (G.2.2.1 0) :: rest) := fun H locs ls hW hl => va_get (D := G.1) (cl := vwCl) (ws := rws G σ) (ci := 8) (C := RX8) (T := TX8) (N := 49) (own := RX8) (ref := RX8) (fs := rfs G σ) C.1.1 C.1.2.1 C.2.2.1 kR_X C.2.1 C.2.2.2.1 hW.1 0 rfl rfl 37 (by decide) (C.2.2.1 _ kR_74) (fun _ h => h) rfl hdg (kk H locs ls hW hl)
theorem rset37 (G : rG) (σ : RSt) (v : Int32) : (rws G σ).set 0 (G.2.2.1 0, .inr (8, (rfs G σ).set 37 (.int v))) = rws G (rsI σ 37 v) := rfl
theorem r_p37 (C : rC X cc nL G A) {v : Int32} (hdg : decode cc pc = .ok (.putfield 168, 3)) (kk : gJ X (rWd G A H0) Q k n (rsI σ 37 v) lv (pc + 3) (rest)) : gJ X (rWd G A H0) Q k n σ lv (pc) (.int v :: .ref (G.2.2.1 0) :: rest) := fun H locs ls hW hl => va_put (D := G.1) (cl := vwCl) (ws := rws G σ) (ci := 8) (C := RX8) (T := TX8) (N := 49) (own := RX8) (ref := RX8) (fs := rfs G σ) (ty := .int) (v := .int v) C.1.1 C.1.2.1 C.2.2.1 kR_X tyX8 tyX8_ok nmX8 C.2.1 C.2.2.2.1 hW.1 hW.2.1 hW.2.2 0 rfl rfl 37 (by decide) (C.2.2.1 _ kR_74) (fun _ h => h) rfl (by decide +kernel) rfl rfl (Nat.le_of_ble_eq_true rfl) hdg (fun H1 locs1 hP hD hS => kk H1 locs1 ls ⟨rset37 G σ v ▸ hP, rset37 G σ v ▸ hD, hS⟩ hl)
theorem r_g38 (C : rC X cc nL G A) (hdg : decode cc pc = .ok (.getfield 77, 3)) (kk : gJ X (rWd G A H0) Q k n σ lv (pc + 3) (.ref (G.2.2.1 38) :: rest)) : gJ X (rWd G A H0) Q k n σ lv (pc) (.ref (G.2.2.1 0) :: rest) := fun H locs ls hW hl => va_get (D := G.1) (cl := vwCl) (ws := rws G σ) (ci := 8) (C := RX8) (T := TX8) (N := 49) (own := RX8) (ref := RX8) (fs := rfs G σ) C.1.1 C.1.2.1 C.2.2.1 kR_X C.2.1 C.2.2.2.1 hW.1 0 rfl rfl 38 (by decide) (C.2.2.1 _ kR_28) (fun _ h => h) rfl hdg (kk H locs ls hW hl)
theorem r_g39 (C : rC X cc nL G A) (hdg : decode cc pc = .ok (.getfield 80, 3)) (kk : gJ X (rWd G A H0) Q k n σ lv (pc + 3) (.ref (G.2.2.1 39) :: rest)) : gJ X (rWd G A H0) Q k n σ lv (pc) (.ref (G.2.2.1 0) :: rest) := fun H locs ls hW hl => va_get (D := G.1) (cl := vwCl) (ws := rws G σ) (ci := 8) (C := RX8) (T := TX8) (N := 49) (own := RX8) (ref := RX8) (fs := rfs G σ) C.1.1 C.1.2.1 C.2.2.1 kR_X C.2.1 C.2.2.2.1 hW.1 0 rfl rfl 39 (by decide) (C.2.2.1 _ kR_29) (fun _ h => h) rfl hdg (kk H locs ls hW hl)
theorem r_g40 (C : rC X cc nL G A) (hdg : decode cc pc = .ok (.getfield 83, 3)) (kk : gJ X (rWd G A H0) Q k n σ lv (pc + 3) (.ref (G.2.2.1 40) :: rest)) : gJ X (rWd G A H0) Q k n σ lv (pc) (.ref (G.2.2.1 0) :: rest) := fun H locs ls hW hl => va_get (D := G.1) (cl := vwCl) (ws := rws G σ) (ci := 8) (C := RX8) (T := TX8) (N := 49) (own := RX8) (ref := RX8) (fs := rfs G σ) C.1.1 C.1.2.1 C.2.2.1 kR_X C.2.1 C.2.2.2.1 hW.1 0 rfl rfl 40 (by decide) (C.2.2.1 _ kR_30) (fun _ h => h) rfl hdg (kk H locs ls hW hl)
theorem r_g41 (C : rC X cc nL G A) (hdg : decode cc pc = .ok (.getfield 86, 3)) (kk : gJ X (rWd G A H0) Q k n σ lv (pc + 3) (.ref (G.2.2.1 41) :: rest)) : gJ X (rWd G A H0) Q k n σ lv (pc) (.ref (G.2.2.1 0) :: rest) := fun H locs ls hW hl => va_get (D := G.1) (cl := vwCl) (ws := rws G σ) (ci := 8) (C := RX8) (T := TX8) (N := 49) (own := RX8) (ref := RX8) (fs := rfs G σ) C.1.1 C.1.2.1 C.2.2.1 kR_X C.2.1 C.2.2.2.1 hW.1 0 rfl rfl 41 (by decide) (C.2.2.1 _ kR_31) (fun _ h => h) rfl hdg (kk H locs ls hW hl)
theorem r_g42 (C : rC X cc nL G A) (hdg : decode cc pc = .ok (.getfield 89, 3)) (kk : gJ X (rWd G A H0) Q k n σ lv (pc + 3) (.ref (G.2.2.1 42) :: rest)) : gJ X (rWd G A H0) Q k n σ lv (pc) (.ref (G.2.2.1 0) :: rest) := fun H locs ls hW hl => va_get (D := G.1) (cl := vwCl) (ws := rws G σ) (ci := 8) (C := RX8) (T := TX8) (N := 49) (own := RX8) (ref := RX8) (fs := rfs G σ) C.1.1 C.1.2.1 C.2.2.1 kR_X C.2.1 C.2.2.2.1 hW.1 0 rfl rfl 42 (by decide) (C.2.2.1 _ kR_32) (fun _ h => h) rfl hdg (kk H locs ls hW hl)
theorem r_g43 (C : rC X cc nL G A) (hdg : decode cc pc = .ok (.getfield 92, 3)) (kk : gJ X (rWd G A H0) Q k n σ lv (pc + 3) (.ref (G.2.2.1 43) :: rest)) : gJ X (rWd G A H0) Q k n σ lv (pc) (.ref (G.2.2.1 0) :: rest) := fun H locs ls hW hl => va_get (D := G.1) (cl := vwCl) (ws := rws G σ) (ci := 8) (C := RX8) (T := TX8) (N := 49) (own := RX8) (ref := RX8) (fs := rfs G σ) C.1.1 C.1.2.1 C.2.2.1 kR_X C.2.1 C.2.2.2.1 hW.1 0 rfl rfl 43 (by decide) (C.2.2.1 _ kR_33) (fun _ h => h) rfl hdg (kk H locs ls hW hl)
theorem r_g44 (C : rC X cc nL G A) (hdg : decode cc pc = .ok (.getfield 95, 3)) (kk : gJ X (rWd G A H0) Q k n σ lv (pc + 3) (.ref (G.2.2.1 44) :: rest)) : gJ X (rWd G A H0) Q k n σ lv (pc) (.ref (G.2.2.1 0) :: rest) := fun H locs ls hW hl => va_get (D := G.1) (cl := vwCl) (ws := rws G σ) (ci := 8) (C := RX8) (T := TX8) (N := 49) (own := RX8) (ref := RX8) (fs := rfs G σ) C.1.1 C.1.2.1 C.2.2.1 kR_X C.2.1 C.2.2.2.1 hW.1 0 rfl rfl 44 (by decide) (C.2.2.1 _ kR_34) (fun _ h => h) rfl hdg (kk H locs ls hW hl)
theorem r_g45 (C : rC X cc nL G A) (hdg : decode cc pc = .ok (.getfield 98, 3)) (kk : gJ X (rWd G A H0) Q k n σ lv (pc + 3) (.ref (G.2.2.1 45) :: rest)) : gJ X (rWd G A H0) Q k n σ lv (pc) (.ref (G.2.2.1 0) :: rest) := fun H locs ls hW hl => va_get (D := G.1) (cl := vwCl) (ws := rws G σ) (ci := 8) (C := RX8) (T := TX8) (N := 49) (own := RX8) (ref := RX8) (fs := rfs G σ) C.1.1 C.1.2.1 C.2.2.1 kR_X C.2.1 C.2.2.2.1 hW.1 0 rfl rfl 45 (by decide) (C.2.2.1 _ kR_35) (fun _ h => h) rfl hdg (kk H locs ls hW hl)
theorem r_g46 (C : rC X cc nL G A) (hdg : decode cc pc = .ok (.getfield 101, 3)) (kk : gJ X (rWd G A H0) Q k n σ lv (pc + 3) (.ref (G.2.2.1 46) :: rest)) : gJ X (rWd G A H0) Q k n σ lv (pc) (.ref (G.2.2.1 0) :: rest) := fun H locs ls hW hl => va_get (D := G.1) (cl := vwCl) (ws := rws G σ) (ci := 8) (C := RX8) (T := TX8) (N := 49) (own := RX8) (ref := RX8) (fs := rfs G σ) C.1.1 C.1.2.1 C.2.2.1 kR_X C.2.1 C.2.2.2.1 hW.1 0 rfl rfl 46 (by decide) (C.2.2.1 _ kR_36) (fun _ h => h) rfl hdg (kk H locs ls hW hl)
theorem r_g47 (C : rC X cc nL G A) (hdg : decode cc pc = .ok (.getfield 104, 3)) (kk : gJ X (rWd G A H0) Q k n σ lv (pc + 3) (.ref (G.2.2.1 47) :: rest)) : gJ X (rWd G A H0) Q k n σ lv (pc) (.ref (G.2.2.1 0) :: rest) := fun H locs ls hW hl => va_get (D := G.1) (cl := vwCl) (ws := rws G σ) (ci := 8) (C := RX8) (T := TX8) (N := 49) (own := RX8) (ref := RX8) (fs := rfs G σ) C.1.1 C.1.2.1 C.2.2.1 kR_X C.2.1 C.2.2.2.1 hW.1 0 rfl rfl 47 (by decide) (C.2.2.1 _ kR_37) (fun _ h => h) rfl hdg (kk H locs ls hW hl)
theorem r_g48 (C : rC X cc nL G A) (hdg : decode cc pc = .ok (.getfield 107, 3)) (kk : gJ X (rWd G A H0) Q k n σ lv (pc + 3) (.ref (G.2.2.1 48) :: rest)) : gJ X (rWd G A H0) Q k n σ lv (pc) (.ref (G.2.2.1 0) :: rest) := fun H locs ls hW hl => va_get (D := G.1) (cl := vwCl) (ws := rws G σ) (ci := 8) (C := RX8) (T := TX8) (N := 49) (own := RX8) (ref := RX8) (fs := rfs G σ) C.1.1 C.1.2.1 C.2.2.1 kR_X C.2.1 C.2.2.2.1 hW.1 0 rfl rfl 48 (by decide) (C.2.2.1 _ kR_38) (fun _ h => h) rfl hdg (kk H locs ls hW hl)
theorem r_ld1 (C : rC X cc nL G A) {i : Int32} (hin : vp_in i 400) (hdg : decode cc pc = .ok (.baload, 1)) (kk : gJ X (rWd G A H0) Q k n σ lv (pc + 1) (.int (σ.2.1 1 i.toNatClampNeg) :: rest)) : gJ X (rWd G A H0) Q k n σ lv (pc) (.int i :: .ref (G.2.2.1 1) :: rest) := fun H locs ls hW hl => va_bald (D := G.1) (cl := vwCl) (ws := rws G σ) (tys := rKt G) (cA := G.2.1.1) (n := 400) (f := σ.2.1 1) C.1.1 C.1.2.1 C.2.2.2.1 hW.1 1 0 rfl rfl hin hdg (kk H locs ls hW hl)
theorem rwr1 (G : rG) (σ : RSt) (i : Nat) (v : Int32) : (rws G σ).set 1 (G.2.2.1 1, .inl (G.2.1.1, 400, .inl (upd (σ.2.1 1) i v))) = rws G (rsA σ 1 i v) := rfl
theorem r_st1 (C : rC X cc nL G A) {i : Int32} {x : Int32} (hin : vp_in i 400) (hdg : decode cc pc = .ok (.bastore, 1)) (kk : gJ X (rWd G A H0) Q k n (rsA σ 1 i.toNatClampNeg (vp_nar .byte x)) lv (pc + 1) (rest)) : gJ X (rWd G A H0) Q k n σ lv (pc) (.int x :: .int i :: .ref (G.2.2.1 1) :: rest) := fun H locs ls hW hl => va_bast (D := G.1) (cl := vwCl) (ws := rws G σ) (tys := rKt G) (cA := G.2.1.1) (n := 400) (f := σ.2.1 1) C.1.1 C.1.2.1 C.2.2.2.1 hW.1 hW.2.1 hW.2.2 1 0 rfl rfl hin hdg (fun H1 locs1 hP hD hS => kk H1 locs1 ls ⟨rwr1 G σ _ _ ▸ hP, rwr1 G σ _ _ ▸ hD, hS⟩ hl)
theorem r_ld3 (C : rC X cc nL G A) {i : Int32} (hin : vp_in i 40) (hdg : decode cc pc = .ok (.iaload, 1)) (kk : gJ X (rWd G A H0) Q k n σ lv (pc + 1) (.int (σ.2.1 3 i.toNatClampNeg) :: rest)) : gJ X (rWd G A H0) Q k n σ lv (pc) (.int i :: .ref (G.2.2.1 3) :: rest) := fun H locs ls hW hl => va_iald (D := G.1) (cl := vwCl) (ws := rws G σ) (tys := rKt G) (cA := G.2.1.2.1) (n := 40) (f := σ.2.1 3) C.1.1 C.1.2.1 C.2.2.2.1 hW.1 2 1 rfl rfl hin hdg (kk H locs ls hW hl)
theorem rwr3 (G : rG) (σ : RSt) (i : Nat) (v : Int32) : (rws G σ).set 2 (G.2.2.1 3, .inl (G.2.1.2.1, 40, .inl (upd (σ.2.1 3) i v))) = rws G (rsA σ 3 i v) := rfl
theorem r_st3 (C : rC X cc nL G A) {i : Int32} {x : Int32} (hin : vp_in i 40) (hdg : decode cc pc = .ok (.iastore, 1)) (kk : gJ X (rWd G A H0) Q k n (rsA σ 3 i.toNatClampNeg (x)) lv (pc + 1) (rest)) : gJ X (rWd G A H0) Q k n σ lv (pc) (.int x :: .int i :: .ref (G.2.2.1 3) :: rest) := fun H locs ls hW hl => va_iast (D := G.1) (cl := vwCl) (ws := rws G σ) (tys := rKt G) (cA := G.2.1.2.1) (n := 40) (f := σ.2.1 3) C.1.1 C.1.2.1 C.2.2.2.1 hW.1 hW.2.1 hW.2.2 2 1 rfl rfl hin hdg (fun H1 locs1 hP hD hS => kk H1 locs1 ls ⟨rwr3 G σ _ _ ▸ hP, rwr3 G σ _ _ ▸ hD, hS⟩ hl)
theorem r_ld4 (C : rC X cc nL G A) {i : Int32} (hin : vp_in i 8) (hdg : decode cc pc = .ok (.baload, 1)) (kk : gJ X (rWd G A H0) Q k n σ lv (pc + 1) (.int (σ.2.1 4 i.toNatClampNeg) :: rest)) : gJ X (rWd G A H0) Q k n σ lv (pc) (.int i :: .ref (G.2.2.1 4) :: rest) := fun H locs ls hW hl => va_zald (D := G.1) (cl := vwCl) (ws := rws G σ) (tys := rKt G) (cA := G.2.1.2.2.2) (n := 8) (f := σ.2.1 4) C.1.1 C.1.2.1 C.2.2.2.1 hW.1 3 3 rfl rfl hin hdg (kk H locs ls hW hl)
theorem rwr4 (G : rG) (σ : RSt) (i : Nat) (v : Int32) : (rws G σ).set 3 (G.2.2.1 4, .inl (G.2.1.2.2.2, 8, .inl (upd (σ.2.1 4) i v))) = rws G (rsA σ 4 i v) := rfl
theorem r_st4 (C : rC X cc nL G A) {i : Int32} {x : Int32} (hin : vp_in i 8) (hdg : decode cc pc = .ok (.bastore, 1)) (kk : gJ X (rWd G A H0) Q k n (rsA σ 4 i.toNatClampNeg (vp_nar .boolean x)) lv (pc + 1) (rest)) : gJ X (rWd G A H0) Q k n σ lv (pc) (.int x :: .int i :: .ref (G.2.2.1 4) :: rest) := fun H locs ls hW hl => va_zast (D := G.1) (cl := vwCl) (ws := rws G σ) (tys := rKt G) (cA := G.2.1.2.2.2) (n := 8) (f := σ.2.1 4) C.1.1 C.1.2.1 C.2.2.2.1 hW.1 hW.2.1 hW.2.2 3 3 rfl rfl hin hdg (fun H1 locs1 hP hD hS => kk H1 locs1 ls ⟨rwr4 G σ _ _ ▸ hP, rwr4 G σ _ _ ▸ hD, hS⟩ hl)
theorem r_ld5 (C : rC X cc nL G A) {i : Int32} (hin : vp_in i 480) (hdg : decode cc pc = .ok (.iaload, 1)) (kk : gJ X (rWd G A H0) Q k n σ lv (pc + 1) (.int (σ.2.1 5 i.toNatClampNeg) :: rest)) : gJ X (rWd G A H0) Q k n σ lv (pc) (.int i :: .ref (G.2.2.1 5) :: rest) := fun H locs ls hW hl => va_iald (D := G.1) (cl := vwCl) (ws := rws G σ) (tys := rKt G) (cA := G.2.1.2.1) (n := 480) (f := σ.2.1 5) C.1.1 C.1.2.1 C.2.2.2.1 hW.1 4 1 rfl rfl hin hdg (kk H locs ls hW hl)
theorem rwr5 (G : rG) (σ : RSt) (i : Nat) (v : Int32) : (rws G σ).set 4 (G.2.2.1 5, .inl (G.2.1.2.1, 480, .inl (upd (σ.2.1 5) i v))) = rws G (rsA σ 5 i v) := rfl
theorem r_st5 (C : rC X cc nL G A) {i : Int32} {x : Int32} (hin : vp_in i 480) (hdg : decode cc pc = .ok (.iastore, 1)) (kk : gJ X (rWd G A H0) Q k n (rsA σ 5 i.toNatClampNeg (x)) lv (pc + 1) (rest)) : gJ X (rWd G A H0) Q k n σ lv (pc) (.int x :: .int i :: .ref (G.2.2.1 5) :: rest) := fun H locs ls hW hl => va_iast (D := G.1) (cl := vwCl) (ws := rws G σ) (tys := rKt G) (cA := G.2.1.2.1) (n := 480) (f := σ.2.1 5) C.1.1 C.1.2.1 C.2.2.2.1 hW.1 hW.2.1 hW.2.2 4 1 rfl rfl hin hdg (fun H1 locs1 hP hD hS => kk H1 locs1 ls ⟨rwr5 G σ _ _ ▸ hP, rwr5 G σ _ _ ▸ hD, hS⟩ hl)
theorem r_ld6 (C : rC X cc nL G A) {i : Int32} (hin : vp_in i 8) (hdg : decode cc pc = .ok (.iaload, 1)) (kk : gJ X (rWd G A H0) Q k n σ lv (pc + 1) (.int (σ.2.1 6 i.toNatClampNeg) :: rest)) : gJ X (rWd G A H0) Q k n σ lv (pc) (.int i :: .ref (G.2.2.1 6) :: rest) := fun H locs ls hW hl => va_iald (D := G.1) (cl := vwCl) (ws := rws G σ) (tys := rKt G) (cA := G.2.1.2.1) (n := 8) (f := σ.2.1 6) C.1.1 C.1.2.1 C.2.2.2.1 hW.1 5 1 rfl rfl hin hdg (kk H locs ls hW hl)
theorem rwr6 (G : rG) (σ : RSt) (i : Nat) (v : Int32) : (rws G σ).set 5 (G.2.2.1 6, .inl (G.2.1.2.1, 8, .inl (upd (σ.2.1 6) i v))) = rws G (rsA σ 6 i v) := rfl
theorem r_st6 (C : rC X cc nL G A) {i : Int32} {x : Int32} (hin : vp_in i 8) (hdg : decode cc pc = .ok (.iastore, 1)) (kk : gJ X (rWd G A H0) Q k n (rsA σ 6 i.toNatClampNeg (x)) lv (pc + 1) (rest)) : gJ X (rWd G A H0) Q k n σ lv (pc) (.int x :: .int i :: .ref (G.2.2.1 6) :: rest) := fun H locs ls hW hl => va_iast (D := G.1) (cl := vwCl) (ws := rws G σ) (tys := rKt G) (cA := G.2.1.2.1) (n := 8) (f := σ.2.1 6) C.1.1 C.1.2.1 C.2.2.2.1 hW.1 hW.2.1 hW.2.2 5 1 rfl rfl hin hdg (fun H1 locs1 hP hD hS => kk H1 locs1 ls ⟨rwr6 G σ _ _ ▸ hP, rwr6 G σ _ _ ▸ hD, hS⟩ hl)
theorem r_ld8 (C : rC X cc nL G A) {i : Int32} (hin : vp_in i 60) (hdg : decode cc pc = .ok (.iaload, 1)) (kk : gJ X (rWd G A H0) Q k n σ lv (pc + 1) (.int (σ.2.1 8 i.toNatClampNeg) :: rest)) : gJ X (rWd G A H0) Q k n σ lv (pc) (.int i :: .ref (G.2.2.1 8) :: rest) := fun H locs ls hW hl => va_iald (D := G.1) (cl := vwCl) (ws := rws G σ) (tys := rKt G) (cA := G.2.1.2.1) (n := 60) (f := σ.2.1 8) C.1.1 C.1.2.1 C.2.2.2.1 hW.1 6 1 rfl rfl hin hdg (kk H locs ls hW hl)
theorem rwr8 (G : rG) (σ : RSt) (i : Nat) (v : Int32) : (rws G σ).set 6 (G.2.2.1 8, .inl (G.2.1.2.1, 60, .inl (upd (σ.2.1 8) i v))) = rws G (rsA σ 8 i v) := rfl
theorem r_st8 (C : rC X cc nL G A) {i : Int32} {x : Int32} (hin : vp_in i 60) (hdg : decode cc pc = .ok (.iastore, 1)) (kk : gJ X (rWd G A H0) Q k n (rsA σ 8 i.toNatClampNeg (x)) lv (pc + 1) (rest)) : gJ X (rWd G A H0) Q k n σ lv (pc) (.int x :: .int i :: .ref (G.2.2.1 8) :: rest) := fun H locs ls hW hl => va_iast (D := G.1) (cl := vwCl) (ws := rws G σ) (tys := rKt G) (cA := G.2.1.2.1) (n := 60) (f := σ.2.1 8) C.1.1 C.1.2.1 C.2.2.2.1 hW.1 hW.2.1 hW.2.2 6 1 rfl rfl hin hdg (fun H1 locs1 hP hD hS => kk H1 locs1 ls ⟨rwr8 G σ _ _ ▸ hP, rwr8 G σ _ _ ▸ hD, hS⟩ hl)
theorem r_ld10 (C : rC X cc nL G A) {i : Int32} (hin : vp_in i 160) (hdg : decode cc pc = .ok (.iaload, 1)) (kk : gJ X (rWd G A H0) Q k n σ lv (pc + 1) (.int (σ.2.1 10 i.toNatClampNeg) :: rest)) : gJ X (rWd G A H0) Q k n σ lv (pc) (.int i :: .ref (G.2.2.1 10) :: rest) := fun H locs ls hW hl => va_iald (D := G.1) (cl := vwCl) (ws := rws G σ) (tys := rKt G) (cA := G.2.1.2.1) (n := 160) (f := σ.2.1 10) C.1.1 C.1.2.1 C.2.2.2.1 hW.1 7 1 rfl rfl hin hdg (kk H locs ls hW hl)
theorem rwr10 (G : rG) (σ : RSt) (i : Nat) (v : Int32) : (rws G σ).set 7 (G.2.2.1 10, .inl (G.2.1.2.1, 160, .inl (upd (σ.2.1 10) i v))) = rws G (rsA σ 10 i v) := rfl
theorem r_st10 (C : rC X cc nL G A) {i : Int32} {x : Int32} (hin : vp_in i 160) (hdg : decode cc pc = .ok (.iastore, 1)) (kk : gJ X (rWd G A H0) Q k n (rsA σ 10 i.toNatClampNeg (x)) lv (pc + 1) (rest)) : gJ X (rWd G A H0) Q k n σ lv (pc) (.int x :: .int i :: .ref (G.2.2.1 10) :: rest) := fun H locs ls hW hl => va_iast (D := G.1) (cl := vwCl) (ws := rws G σ) (tys := rKt G) (cA := G.2.1.2.1) (n := 160) (f := σ.2.1 10) C.1.1 C.1.2.1 C.2.2.2.1 hW.1 hW.2.1 hW.2.2 7 1 rfl rfl hin hdg (fun H1 locs1 hP hD hS => kk H1 locs1 ls ⟨rwr10 G σ _ _ ▸ hP, rwr10 G σ _ _ ▸ hD, hS⟩ hl)
theorem r_ld11 (C : rC X cc nL G A) {i : Int32} (hin : vp_in i 40) (hdg : decode cc pc = .ok (.iaload, 1)) (kk : gJ X (rWd G A H0) Q k n σ lv (pc + 1) (.int (σ.2.1 11 i.toNatClampNeg) :: rest)) : gJ X (rWd G A H0) Q k n σ lv (pc) (.int i :: .ref (G.2.2.1 11) :: rest) := fun H locs ls hW hl => va_iald (D := G.1) (cl := vwCl) (ws := rws G σ) (tys := rKt G) (cA := G.2.1.2.1) (n := 40) (f := σ.2.1 11) C.1.1 C.1.2.1 C.2.2.2.1 hW.1 8 1 rfl rfl hin hdg (kk H locs ls hW hl)
theorem rwr11 (G : rG) (σ : RSt) (i : Nat) (v : Int32) : (rws G σ).set 8 (G.2.2.1 11, .inl (G.2.1.2.1, 40, .inl (upd (σ.2.1 11) i v))) = rws G (rsA σ 11 i v) := rfl
theorem r_st11 (C : rC X cc nL G A) {i : Int32} {x : Int32} (hin : vp_in i 40) (hdg : decode cc pc = .ok (.iastore, 1)) (kk : gJ X (rWd G A H0) Q k n (rsA σ 11 i.toNatClampNeg (x)) lv (pc + 1) (rest)) : gJ X (rWd G A H0) Q k n σ lv (pc) (.int x :: .int i :: .ref (G.2.2.1 11) :: rest) := fun H locs ls hW hl => va_iast (D := G.1) (cl := vwCl) (ws := rws G σ) (tys := rKt G) (cA := G.2.1.2.1) (n := 40) (f := σ.2.1 11) C.1.1 C.1.2.1 C.2.2.2.1 hW.1 hW.2.1 hW.2.2 8 1 rfl rfl hin hdg (fun H1 locs1 hP hD hS => kk H1 locs1 ls ⟨rwr11 G σ _ _ ▸ hP, rwr11 G σ _ _ ▸ hD, hS⟩ hl)
theorem r_ld12 (C : rC X cc nL G A) {i : Int32} (hin : vp_in i 40) (hdg : decode cc pc = .ok (.iaload, 1)) (kk : gJ X (rWd G A H0) Q k n σ lv (pc + 1) (.int (σ.2.1 12 i.toNatClampNeg) :: rest)) : gJ X (rWd G A H0) Q k n σ lv (pc) (.int i :: .ref (G.2.2.1 12) :: rest) := fun H locs ls hW hl => va_iald (D := G.1) (cl := vwCl) (ws := rws G σ) (tys := rKt G) (cA := G.2.1.2.1) (n := 40) (f := σ.2.1 12) C.1.1 C.1.2.1 C.2.2.2.1 hW.1 9 1 rfl rfl hin hdg (kk H locs ls hW hl)
theorem rwr12 (G : rG) (σ : RSt) (i : Nat) (v : Int32) : (rws G σ).set 9 (G.2.2.1 12, .inl (G.2.1.2.1, 40, .inl (upd (σ.2.1 12) i v))) = rws G (rsA σ 12 i v) := rfl
theorem r_st12 (C : rC X cc nL G A) {i : Int32} {x : Int32} (hin : vp_in i 40) (hdg : decode cc pc = .ok (.iastore, 1)) (kk : gJ X (rWd G A H0) Q k n (rsA σ 12 i.toNatClampNeg (x)) lv (pc + 1) (rest)) : gJ X (rWd G A H0) Q k n σ lv (pc) (.int x :: .int i :: .ref (G.2.2.1 12) :: rest) := fun H locs ls hW hl => va_iast (D := G.1) (cl := vwCl) (ws := rws G σ) (tys := rKt G) (cA := G.2.1.2.1) (n := 40) (f := σ.2.1 12) C.1.1 C.1.2.1 C.2.2.2.1 hW.1 hW.2.1 hW.2.2 9 1 rfl rfl hin hdg (fun H1 locs1 hP hD hS => kk H1 locs1 ls ⟨rwr12 G σ _ _ ▸ hP, rwr12 G σ _ _ ▸ hD, hS⟩ hl)
theorem r_ld13 (C : rC X cc nL G A) {i : Int32} (hin : vp_in i 40) (hdg : decode cc pc = .ok (.iaload, 1)) (kk : gJ X (rWd G A H0) Q k n σ lv (pc + 1) (.int (σ.2.1 13 i.toNatClampNeg) :: rest)) : gJ X (rWd G A H0) Q k n σ lv (pc) (.int i :: .ref (G.2.2.1 13) :: rest) := fun H locs ls hW hl => va_iald (D := G.1) (cl := vwCl) (ws := rws G σ) (tys := rKt G) (cA := G.2.1.2.1) (n := 40) (f := σ.2.1 13) C.1.1 C.1.2.1 C.2.2.2.1 hW.1 10 1 rfl rfl hin hdg (kk H locs ls hW hl)
theorem rwr13 (G : rG) (σ : RSt) (i : Nat) (v : Int32) : (rws G σ).set 10 (G.2.2.1 13, .inl (G.2.1.2.1, 40, .inl (upd (σ.2.1 13) i v))) = rws G (rsA σ 13 i v) := rfl
theorem r_st13 (C : rC X cc nL G A) {i : Int32} {x : Int32} (hin : vp_in i 40) (hdg : decode cc pc = .ok (.iastore, 1)) (kk : gJ X (rWd G A H0) Q k n (rsA σ 13 i.toNatClampNeg (x)) lv (pc + 1) (rest)) : gJ X (rWd G A H0) Q k n σ lv (pc) (.int x :: .int i :: .ref (G.2.2.1 13) :: rest) := fun H locs ls hW hl => va_iast (D := G.1) (cl := vwCl) (ws := rws G σ) (tys := rKt G) (cA := G.2.1.2.1) (n := 40) (f := σ.2.1 13) C.1.1 C.1.2.1 C.2.2.2.1 hW.1 hW.2.1 hW.2.2 10 1 rfl rfl hin hdg (fun H1 locs1 hP hD hS => kk H1 locs1 ls ⟨rwr13 G σ _ _ ▸ hP, rwr13 G σ _ _ ▸ hD, hS⟩ hl)
theorem r_ld15 (C : rC X cc nL G A) {i : Int32} (hin : vp_in i 4400) (hdg : decode cc pc = .ok (.iaload, 1)) (kk : gJ X (rWd G A H0) Q k n σ lv (pc + 1) (.int (σ.2.1 15 i.toNatClampNeg) :: rest)) : gJ X (rWd G A H0) Q k n σ lv (pc) (.int i :: .ref (G.2.2.1 15) :: rest) := fun H locs ls hW hl => va_iald (D := G.1) (cl := vwCl) (ws := rws G σ) (tys := rKt G) (cA := G.2.1.2.1) (n := 4400) (f := σ.2.1 15) C.1.1 C.1.2.1 C.2.2.2.1 hW.1 11 1 rfl rfl hin hdg (kk H locs ls hW hl)
theorem rwr15 (G : rG) (σ : RSt) (i : Nat) (v : Int32) : (rws G σ).set 11 (G.2.2.1 15, .inl (G.2.1.2.1, 4400, .inl (upd (σ.2.1 15) i v))) = rws G (rsA σ 15 i v) := rfl
theorem r_st15 (C : rC X cc nL G A) {i : Int32} {x : Int32} (hin : vp_in i 4400) (hdg : decode cc pc = .ok (.iastore, 1)) (kk : gJ X (rWd G A H0) Q k n (rsA σ 15 i.toNatClampNeg (x)) lv (pc + 1) (rest)) : gJ X (rWd G A H0) Q k n σ lv (pc) (.int x :: .int i :: .ref (G.2.2.1 15) :: rest) := fun H locs ls hW hl => va_iast (D := G.1) (cl := vwCl) (ws := rws G σ) (tys := rKt G) (cA := G.2.1.2.1) (n := 4400) (f := σ.2.1 15) C.1.1 C.1.2.1 C.2.2.2.1 hW.1 hW.2.1 hW.2.2 11 1 rfl rfl hin hdg (fun H1 locs1 hP hD hS => kk H1 locs1 ls ⟨rwr15 G σ _ _ ▸ hP, rwr15 G σ _ _ ▸ hD, hS⟩ hl)
theorem r_ld16 (C : rC X cc nL G A) {i : Int32} (hin : vp_in i 4400) (hdg : decode cc pc = .ok (.iaload, 1)) (kk : gJ X (rWd G A H0) Q k n σ lv (pc + 1) (.int (σ.2.1 16 i.toNatClampNeg) :: rest)) : gJ X (rWd G A H0) Q k n σ lv (pc) (.int i :: .ref (G.2.2.1 16) :: rest) := fun H locs ls hW hl => va_iald (D := G.1) (cl := vwCl) (ws := rws G σ) (tys := rKt G) (cA := G.2.1.2.1) (n := 4400) (f := σ.2.1 16) C.1.1 C.1.2.1 C.2.2.2.1 hW.1 12 1 rfl rfl hin hdg (kk H locs ls hW hl)
theorem rwr16 (G : rG) (σ : RSt) (i : Nat) (v : Int32) : (rws G σ).set 12 (G.2.2.1 16, .inl (G.2.1.2.1, 4400, .inl (upd (σ.2.1 16) i v))) = rws G (rsA σ 16 i v) := rfl
theorem r_st16 (C : rC X cc nL G A) {i : Int32} {x : Int32} (hin : vp_in i 4400) (hdg : decode cc pc = .ok (.iastore, 1)) (kk : gJ X (rWd G A H0) Q k n (rsA σ 16 i.toNatClampNeg (x)) lv (pc + 1) (rest)) : gJ X (rWd G A H0) Q k n σ lv (pc) (.int x :: .int i :: .ref (G.2.2.1 16) :: rest) := fun H locs ls hW hl => va_iast (D := G.1) (cl := vwCl) (ws := rws G σ) (tys := rKt G) (cA := G.2.1.2.1) (n := 4400) (f := σ.2.1 16) C.1.1 C.1.2.1 C.2.2.2.1 hW.1 hW.2.1 hW.2.2 12 1 rfl rfl hin hdg (fun H1 locs1 hP hD hS => kk H1 locs1 ls ⟨rwr16 G σ _ _ ▸ hP, rwr16 G σ _ _ ▸ hD, hS⟩ hl)
theorem r_ld17 (C : rC X cc nL G A) {i : Int32} (hin : vp_in i 11) (hdg : decode cc pc = .ok (.iaload, 1)) (kk : gJ X (rWd G A H0) Q k n σ lv (pc + 1) (.int (σ.2.1 17 i.toNatClampNeg) :: rest)) : gJ X (rWd G A H0) Q k n σ lv (pc) (.int i :: .ref (G.2.2.1 17) :: rest) := fun H locs ls hW hl => va_iald (D := G.1) (cl := vwCl) (ws := rws G σ) (tys := rKt G) (cA := G.2.1.2.1) (n := 11) (f := σ.2.1 17) C.1.1 C.1.2.1 C.2.2.2.1 hW.1 13 1 rfl rfl hin hdg (kk H locs ls hW hl)
theorem rwr17 (G : rG) (σ : RSt) (i : Nat) (v : Int32) : (rws G σ).set 13 (G.2.2.1 17, .inl (G.2.1.2.1, 11, .inl (upd (σ.2.1 17) i v))) = rws G (rsA σ 17 i v) := rfl
theorem r_st17 (C : rC X cc nL G A) {i : Int32} {x : Int32} (hin : vp_in i 11) (hdg : decode cc pc = .ok (.iastore, 1)) (kk : gJ X (rWd G A H0) Q k n (rsA σ 17 i.toNatClampNeg (x)) lv (pc + 1) (rest)) : gJ X (rWd G A H0) Q k n σ lv (pc) (.int x :: .int i :: .ref (G.2.2.1 17) :: rest) := fun H locs ls hW hl => va_iast (D := G.1) (cl := vwCl) (ws := rws G σ) (tys := rKt G) (cA := G.2.1.2.1) (n := 11) (f := σ.2.1 17) C.1.1 C.1.2.1 C.2.2.2.1 hW.1 hW.2.1 hW.2.2 13 1 rfl rfl hin hdg (fun H1 locs1 hP hD hS => kk H1 locs1 ls ⟨rwr17 G σ _ _ ▸ hP, rwr17 G σ _ _ ▸ hD, hS⟩ hl)
theorem r_ld18 (C : rC X cc nL G A) {i : Int32} (hin : vp_in i 10) (hdg : decode cc pc = .ok (.baload, 1)) (kk : gJ X (rWd G A H0) Q k n σ lv (pc + 1) (.int (σ.2.1 18 i.toNatClampNeg) :: rest)) : gJ X (rWd G A H0) Q k n σ lv (pc) (.int i :: .ref (G.2.2.1 18) :: rest) := fun H locs ls hW hl => va_zald (D := G.1) (cl := vwCl) (ws := rws G σ) (tys := rKt G) (cA := G.2.1.2.2.2) (n := 10) (f := σ.2.1 18) C.1.1 C.1.2.1 C.2.2.2.1 hW.1 14 3 rfl rfl hin hdg (kk H locs ls hW hl)
theorem rwr18 (G : rG) (σ : RSt) (i : Nat) (v : Int32) : (rws G σ).set 14 (G.2.2.1 18, .inl (G.2.1.2.2.2, 10, .inl (upd (σ.2.1 18) i v))) = rws G (rsA σ 18 i v) := rfl
theorem r_st18 (C : rC X cc nL G A) {i : Int32} {x : Int32} (hin : vp_in i 10) (hdg : decode cc pc = .ok (.bastore, 1)) (kk : gJ X (rWd G A H0) Q k n (rsA σ 18 i.toNatClampNeg (vp_nar .boolean x)) lv (pc + 1) (rest)) : gJ X (rWd G A H0) Q k n σ lv (pc) (.int x :: .int i :: .ref (G.2.2.1 18) :: rest) := fun H locs ls hW hl => va_zast (D := G.1) (cl := vwCl) (ws := rws G σ) (tys := rKt G) (cA := G.2.1.2.2.2) (n := 10) (f := σ.2.1 18) C.1.1 C.1.2.1 C.2.2.2.1 hW.1 hW.2.1 hW.2.2 14 3 rfl rfl hin hdg (fun H1 locs1 hP hD hS => kk H1 locs1 ls ⟨rwr18 G σ _ _ ▸ hP, rwr18 G σ _ _ ▸ hD, hS⟩ hl)
theorem r_ld21 (C : rC X cc nL G A) {i : Int32} (hin : vp_in i 420) (hdg : decode cc pc = .ok (.iaload, 1)) (kk : gJ X (rWd G A H0) Q k n σ lv (pc + 1) (.int (σ.2.1 21 i.toNatClampNeg) :: rest)) : gJ X (rWd G A H0) Q k n σ lv (pc) (.int i :: .ref (G.2.2.1 21) :: rest) := fun H locs ls hW hl => va_iald (D := G.1) (cl := vwCl) (ws := rws G σ) (tys := rKt G) (cA := G.2.1.2.1) (n := 420) (f := σ.2.1 21) C.1.1 C.1.2.1 C.2.2.2.1 hW.1 15 1 rfl rfl hin hdg (kk H locs ls hW hl)
theorem rwr21 (G : rG) (σ : RSt) (i : Nat) (v : Int32) : (rws G σ).set 15 (G.2.2.1 21, .inl (G.2.1.2.1, 420, .inl (upd (σ.2.1 21) i v))) = rws G (rsA σ 21 i v) := rfl
theorem r_st21 (C : rC X cc nL G A) {i : Int32} {x : Int32} (hin : vp_in i 420) (hdg : decode cc pc = .ok (.iastore, 1)) (kk : gJ X (rWd G A H0) Q k n (rsA σ 21 i.toNatClampNeg (x)) lv (pc + 1) (rest)) : gJ X (rWd G A H0) Q k n σ lv (pc) (.int x :: .int i :: .ref (G.2.2.1 21) :: rest) := fun H locs ls hW hl => va_iast (D := G.1) (cl := vwCl) (ws := rws G σ) (tys := rKt G) (cA := G.2.1.2.1) (n := 420) (f := σ.2.1 21) C.1.1 C.1.2.1 C.2.2.2.1 hW.1 hW.2.1 hW.2.2 15 1 rfl rfl hin hdg (fun H1 locs1 hP hD hS => kk H1 locs1 ls ⟨rwr21 G σ _ _ ▸ hP, rwr21 G σ _ _ ▸ hD, hS⟩ hl)
theorem r_ld23 (C : rC X cc nL G A) {i : Int32} (hin : vp_in i 80) (hdg : decode cc pc = .ok (.iaload, 1)) (kk : gJ X (rWd G A H0) Q k n σ lv (pc + 1) (.int (σ.2.1 23 i.toNatClampNeg) :: rest)) : gJ X (rWd G A H0) Q k n σ lv (pc) (.int i :: .ref (G.2.2.1 23) :: rest) := fun H locs ls hW hl => va_iald (D := G.1) (cl := vwCl) (ws := rws G σ) (tys := rKt G) (cA := G.2.1.2.1) (n := 80) (f := σ.2.1 23) C.1.1 C.1.2.1 C.2.2.2.1 hW.1 16 1 rfl rfl hin hdg (kk H locs ls hW hl)
theorem rwr23 (G : rG) (σ : RSt) (i : Nat) (v : Int32) : (rws G σ).set 16 (G.2.2.1 23, .inl (G.2.1.2.1, 80, .inl (upd (σ.2.1 23) i v))) = rws G (rsA σ 23 i v) := rfl
theorem r_st23 (C : rC X cc nL G A) {i : Int32} {x : Int32} (hin : vp_in i 80) (hdg : decode cc pc = .ok (.iastore, 1)) (kk : gJ X (rWd G A H0) Q k n (rsA σ 23 i.toNatClampNeg (x)) lv (pc + 1) (rest)) : gJ X (rWd G A H0) Q k n σ lv (pc) (.int x :: .int i :: .ref (G.2.2.1 23) :: rest) := fun H locs ls hW hl => va_iast (D := G.1) (cl := vwCl) (ws := rws G σ) (tys := rKt G) (cA := G.2.1.2.1) (n := 80) (f := σ.2.1 23) C.1.1 C.1.2.1 C.2.2.2.1 hW.1 hW.2.1 hW.2.2 16 1 rfl rfl hin hdg (fun H1 locs1 hP hD hS => kk H1 locs1 ls ⟨rwr23 G σ _ _ ▸ hP, rwr23 G σ _ _ ▸ hD, hS⟩ hl)
theorem r_ld24 (C : rC X cc nL G A) {i : Int32} (hin : vp_in i 80) (hdg : decode cc pc = .ok (.iaload, 1)) (kk : gJ X (rWd G A H0) Q k n σ lv (pc + 1) (.int (σ.2.1 24 i.toNatClampNeg) :: rest)) : gJ X (rWd G A H0) Q k n σ lv (pc) (.int i :: .ref (G.2.2.1 24) :: rest) := fun H locs ls hW hl => va_iald (D := G.1) (cl := vwCl) (ws := rws G σ) (tys := rKt G) (cA := G.2.1.2.1) (n := 80) (f := σ.2.1 24) C.1.1 C.1.2.1 C.2.2.2.1 hW.1 17 1 rfl rfl hin hdg (kk H locs ls hW hl)
theorem rwr24 (G : rG) (σ : RSt) (i : Nat) (v : Int32) : (rws G σ).set 17 (G.2.2.1 24, .inl (G.2.1.2.1, 80, .inl (upd (σ.2.1 24) i v))) = rws G (rsA σ 24 i v) := rfl
theorem r_st24 (C : rC X cc nL G A) {i : Int32} {x : Int32} (hin : vp_in i 80) (hdg : decode cc pc = .ok (.iastore, 1)) (kk : gJ X (rWd G A H0) Q k n (rsA σ 24 i.toNatClampNeg (x)) lv (pc + 1) (rest)) : gJ X (rWd G A H0) Q k n σ lv (pc) (.int x :: .int i :: .ref (G.2.2.1 24) :: rest) := fun H locs ls hW hl => va_iast (D := G.1) (cl := vwCl) (ws := rws G σ) (tys := rKt G) (cA := G.2.1.2.1) (n := 80) (f := σ.2.1 24) C.1.1 C.1.2.1 C.2.2.2.1 hW.1 hW.2.1 hW.2.2 17 1 rfl rfl hin hdg (fun H1 locs1 hP hD hS => kk H1 locs1 ls ⟨rwr24 G σ _ _ ▸ hP, rwr24 G σ _ _ ▸ hD, hS⟩ hl)
theorem r_ld25 (C : rC X cc nL G A) {i : Int32} (hin : vp_in i 80) (hdg : decode cc pc = .ok (.iaload, 1)) (kk : gJ X (rWd G A H0) Q k n σ lv (pc + 1) (.int (σ.2.1 25 i.toNatClampNeg) :: rest)) : gJ X (rWd G A H0) Q k n σ lv (pc) (.int i :: .ref (G.2.2.1 25) :: rest) := fun H locs ls hW hl => va_iald (D := G.1) (cl := vwCl) (ws := rws G σ) (tys := rKt G) (cA := G.2.1.2.1) (n := 80) (f := σ.2.1 25) C.1.1 C.1.2.1 C.2.2.2.1 hW.1 18 1 rfl rfl hin hdg (kk H locs ls hW hl)
theorem rwr25 (G : rG) (σ : RSt) (i : Nat) (v : Int32) : (rws G σ).set 18 (G.2.2.1 25, .inl (G.2.1.2.1, 80, .inl (upd (σ.2.1 25) i v))) = rws G (rsA σ 25 i v) := rfl
theorem r_st25 (C : rC X cc nL G A) {i : Int32} {x : Int32} (hin : vp_in i 80) (hdg : decode cc pc = .ok (.iastore, 1)) (kk : gJ X (rWd G A H0) Q k n (rsA σ 25 i.toNatClampNeg (x)) lv (pc + 1) (rest)) : gJ X (rWd G A H0) Q k n σ lv (pc) (.int x :: .int i :: .ref (G.2.2.1 25) :: rest) := fun H locs ls hW hl => va_iast (D := G.1) (cl := vwCl) (ws := rws G σ) (tys := rKt G) (cA := G.2.1.2.1) (n := 80) (f := σ.2.1 25) C.1.1 C.1.2.1 C.2.2.2.1 hW.1 hW.2.1 hW.2.2 18 1 rfl rfl hin hdg (fun H1 locs1 hP hD hS => kk H1 locs1 ls ⟨rwr25 G σ _ _ ▸ hP, rwr25 G σ _ _ ▸ hD, hS⟩ hl)
theorem r_ld29 (C : rC X cc nL G A) {i : Int32} (hin : vp_in i 5) (hdg : decode cc pc = .ok (.laload, 1)) (kk : gJ X (rWd G A H0) Q k n σ lv (pc + 1) (.long (σ.2.2 29 i.toNatClampNeg) :: rest)) : gJ X (rWd G A H0) Q k n σ lv (pc) (.int i :: .ref (G.2.2.1 29) :: rest) := fun H locs ls hW hl => va_lald (D := G.1) (cl := vwCl) (ws := rws G σ) (tys := rKt G) (cA := G.2.1.2.2.1) (n := 5) (f := σ.2.2 29) C.1.1 C.1.2.1 C.2.2.2.1 hW.1 19 2 rfl rfl hin hdg (kk H locs ls hW hl)
theorem rwr29 (G : rG) (σ : RSt) (i : Nat) (v : Int64) : (rws G σ).set 19 (G.2.2.1 29, .inl (G.2.1.2.2.1, 5, .inr (.inl (vp_updL (σ.2.2 29) i v)))) = rws G (rsJ σ 29 i v) := rfl
theorem r_st29 (C : rC X cc nL G A) {i : Int32} {x : Int64} (hin : vp_in i 5) (hdg : decode cc pc = .ok (.lastore, 1)) (kk : gJ X (rWd G A H0) Q k n (rsJ σ 29 i.toNatClampNeg (x)) lv (pc + 1) (rest)) : gJ X (rWd G A H0) Q k n σ lv (pc) (.long x :: .int i :: .ref (G.2.2.1 29) :: rest) := fun H locs ls hW hl => va_last (D := G.1) (cl := vwCl) (ws := rws G σ) (tys := rKt G) (cA := G.2.1.2.2.1) (n := 5) (f := σ.2.2 29) C.1.1 C.1.2.1 C.2.2.2.1 hW.1 hW.2.1 hW.2.2 19 2 rfl rfl hin hdg (fun H1 locs1 hP hD hS => kk H1 locs1 ls ⟨rwr29 G σ _ _ ▸ hP, rwr29 G σ _ _ ▸ hD, hS⟩ hl)
theorem r_ld30 (C : rC X cc nL G A) {i : Int32} (hin : vp_in i 5) (hdg : decode cc pc = .ok (.iaload, 1)) (kk : gJ X (rWd G A H0) Q k n σ lv (pc + 1) (.int (σ.2.1 30 i.toNatClampNeg) :: rest)) : gJ X (rWd G A H0) Q k n σ lv (pc) (.int i :: .ref (G.2.2.1 30) :: rest) := fun H locs ls hW hl => va_iald (D := G.1) (cl := vwCl) (ws := rws G σ) (tys := rKt G) (cA := G.2.1.2.1) (n := 5) (f := σ.2.1 30) C.1.1 C.1.2.1 C.2.2.2.1 hW.1 20 1 rfl rfl hin hdg (kk H locs ls hW hl)
theorem rwr30 (G : rG) (σ : RSt) (i : Nat) (v : Int32) : (rws G σ).set 20 (G.2.2.1 30, .inl (G.2.1.2.1, 5, .inl (upd (σ.2.1 30) i v))) = rws G (rsA σ 30 i v) := rfl
theorem r_st30 (C : rC X cc nL G A) {i : Int32} {x : Int32} (hin : vp_in i 5) (hdg : decode cc pc = .ok (.iastore, 1)) (kk : gJ X (rWd G A H0) Q k n (rsA σ 30 i.toNatClampNeg (x)) lv (pc + 1) (rest)) : gJ X (rWd G A H0) Q k n σ lv (pc) (.int x :: .int i :: .ref (G.2.2.1 30) :: rest) := fun H locs ls hW hl => va_iast (D := G.1) (cl := vwCl) (ws := rws G σ) (tys := rKt G) (cA := G.2.1.2.1) (n := 5) (f := σ.2.1 30) C.1.1 C.1.2.1 C.2.2.2.1 hW.1 hW.2.1 hW.2.2 20 1 rfl rfl hin hdg (fun H1 locs1 hP hD hS => kk H1 locs1 ls ⟨rwr30 G σ _ _ ▸ hP, rwr30 G σ _ _ ▸ hD, hS⟩ hl)
theorem r_ld38 (C : rC X cc nL G A) {i : Int32} (hin : vp_in i 10) (hdg : decode cc pc = .ok (.iaload, 1)) (kk : gJ X (rWd G A H0) Q k n σ lv (pc + 1) (.int (σ.2.1 38 i.toNatClampNeg) :: rest)) : gJ X (rWd G A H0) Q k n σ lv (pc) (.int i :: .ref (G.2.2.1 38) :: rest) := fun H locs ls hW hl => va_iald (D := G.1) (cl := vwCl) (ws := rws G σ) (tys := rKt G) (cA := G.2.1.2.1) (n := 10) (f := σ.2.1 38) C.1.1 C.1.2.1 C.2.2.2.1 hW.1 21 1 rfl rfl hin hdg (kk H locs ls hW hl)
theorem rwr38 (G : rG) (σ : RSt) (i : Nat) (v : Int32) : (rws G σ).set 21 (G.2.2.1 38, .inl (G.2.1.2.1, 10, .inl (upd (σ.2.1 38) i v))) = rws G (rsA σ 38 i v) := rfl
theorem r_st38 (C : rC X cc nL G A) {i : Int32} {x : Int32} (hin : vp_in i 10) (hdg : decode cc pc = .ok (.iastore, 1)) (kk : gJ X (rWd G A H0) Q k n (rsA σ 38 i.toNatClampNeg (x)) lv (pc + 1) (rest)) : gJ X (rWd G A H0) Q k n σ lv (pc) (.int x :: .int i :: .ref (G.2.2.1 38) :: rest) := fun H locs ls hW hl => va_iast (D := G.1) (cl := vwCl) (ws := rws G σ) (tys := rKt G) (cA := G.2.1.2.1) (n := 10) (f := σ.2.1 38) C.1.1 C.1.2.1 C.2.2.2.1 hW.1 hW.2.1 hW.2.2 21 1 rfl rfl hin hdg (fun H1 locs1 hP hD hS => kk H1 locs1 ls ⟨rwr38 G σ _ _ ▸ hP, rwr38 G σ _ _ ▸ hD, hS⟩ hl)
theorem r_ld39 (C : rC X cc nL G A) {i : Int32} (hin : vp_in i 10) (hdg : decode cc pc = .ok (.baload, 1)) (kk : gJ X (rWd G A H0) Q k n σ lv (pc + 1) (.int (σ.2.1 39 i.toNatClampNeg) :: rest)) : gJ X (rWd G A H0) Q k n σ lv (pc) (.int i :: .ref (G.2.2.1 39) :: rest) := fun H locs ls hW hl => va_zald (D := G.1) (cl := vwCl) (ws := rws G σ) (tys := rKt G) (cA := G.2.1.2.2.2) (n := 10) (f := σ.2.1 39) C.1.1 C.1.2.1 C.2.2.2.1 hW.1 22 3 rfl rfl hin hdg (kk H locs ls hW hl)
theorem rwr39 (G : rG) (σ : RSt) (i : Nat) (v : Int32) : (rws G σ).set 22 (G.2.2.1 39, .inl (G.2.1.2.2.2, 10, .inl (upd (σ.2.1 39) i v))) = rws G (rsA σ 39 i v) := rfl
theorem r_st39 (C : rC X cc nL G A) {i : Int32} {x : Int32} (hin : vp_in i 10) (hdg : decode cc pc = .ok (.bastore, 1)) (kk : gJ X (rWd G A H0) Q k n (rsA σ 39 i.toNatClampNeg (vp_nar .boolean x)) lv (pc + 1) (rest)) : gJ X (rWd G A H0) Q k n σ lv (pc) (.int x :: .int i :: .ref (G.2.2.1 39) :: rest) := fun H locs ls hW hl => va_zast (D := G.1) (cl := vwCl) (ws := rws G σ) (tys := rKt G) (cA := G.2.1.2.2.2) (n := 10) (f := σ.2.1 39) C.1.1 C.1.2.1 C.2.2.2.1 hW.1 hW.2.1 hW.2.2 22 3 rfl rfl hin hdg (fun H1 locs1 hP hD hS => kk H1 locs1 ls ⟨rwr39 G σ _ _ ▸ hP, rwr39 G σ _ _ ▸ hD, hS⟩ hl)
theorem r_ld40 (C : rC X cc nL G A) {i : Int32} (hin : vp_in i 10) (hdg : decode cc pc = .ok (.baload, 1)) (kk : gJ X (rWd G A H0) Q k n σ lv (pc + 1) (.int (σ.2.1 40 i.toNatClampNeg) :: rest)) : gJ X (rWd G A H0) Q k n σ lv (pc) (.int i :: .ref (G.2.2.1 40) :: rest) := fun H locs ls hW hl => va_zald (D := G.1) (cl := vwCl) (ws := rws G σ) (tys := rKt G) (cA := G.2.1.2.2.2) (n := 10) (f := σ.2.1 40) C.1.1 C.1.2.1 C.2.2.2.1 hW.1 23 3 rfl rfl hin hdg (kk H locs ls hW hl)
theorem rwr40 (G : rG) (σ : RSt) (i : Nat) (v : Int32) : (rws G σ).set 23 (G.2.2.1 40, .inl (G.2.1.2.2.2, 10, .inl (upd (σ.2.1 40) i v))) = rws G (rsA σ 40 i v) := rfl
theorem r_st40 (C : rC X cc nL G A) {i : Int32} {x : Int32} (hin : vp_in i 10) (hdg : decode cc pc = .ok (.bastore, 1)) (kk : gJ X (rWd G A H0) Q k n (rsA σ 40 i.toNatClampNeg (vp_nar .boolean x)) lv (pc + 1) (rest)) : gJ X (rWd G A H0) Q k n σ lv (pc) (.int x :: .int i :: .ref (G.2.2.1 40) :: rest) := fun H locs ls hW hl => va_zast (D := G.1) (cl := vwCl) (ws := rws G σ) (tys := rKt G) (cA := G.2.1.2.2.2) (n := 10) (f := σ.2.1 40) C.1.1 C.1.2.1 C.2.2.2.1 hW.1 hW.2.1 hW.2.2 23 3 rfl rfl hin hdg (fun H1 locs1 hP hD hS => kk H1 locs1 ls ⟨rwr40 G σ _ _ ▸ hP, rwr40 G σ _ _ ▸ hD, hS⟩ hl)
theorem r_ld41 (C : rC X cc nL G A) {i : Int32} (hin : vp_in i 400) (hdg : decode cc pc = .ok (.baload, 1)) (kk : gJ X (rWd G A H0) Q k n σ lv (pc + 1) (.int (σ.2.1 41 i.toNatClampNeg) :: rest)) : gJ X (rWd G A H0) Q k n σ lv (pc) (.int i :: .ref (G.2.2.1 41) :: rest) := fun H locs ls hW hl => va_zald (D := G.1) (cl := vwCl) (ws := rws G σ) (tys := rKt G) (cA := G.2.1.2.2.2) (n := 400) (f := σ.2.1 41) C.1.1 C.1.2.1 C.2.2.2.1 hW.1 24 3 rfl rfl hin hdg (kk H locs ls hW hl)
theorem rwr41 (G : rG) (σ : RSt) (i : Nat) (v : Int32) : (rws G σ).set 24 (G.2.2.1 41, .inl (G.2.1.2.2.2, 400, .inl (upd (σ.2.1 41) i v))) = rws G (rsA σ 41 i v) := rfl
theorem r_st41 (C : rC X cc nL G A) {i : Int32} {x : Int32} (hin : vp_in i 400) (hdg : decode cc pc = .ok (.bastore, 1)) (kk : gJ X (rWd G A H0) Q k n (rsA σ 41 i.toNatClampNeg (vp_nar .boolean x)) lv (pc + 1) (rest)) : gJ X (rWd G A H0) Q k n σ lv (pc) (.int x :: .int i :: .ref (G.2.2.1 41) :: rest) := fun H locs ls hW hl => va_zast (D := G.1) (cl := vwCl) (ws := rws G σ) (tys := rKt G) (cA := G.2.1.2.2.2) (n := 400) (f := σ.2.1 41) C.1.1 C.1.2.1 C.2.2.2.1 hW.1 hW.2.1 hW.2.2 24 3 rfl rfl hin hdg (fun H1 locs1 hP hD hS => kk H1 locs1 ls ⟨rwr41 G σ _ _ ▸ hP, rwr41 G σ _ _ ▸ hD, hS⟩ hl)
theorem r_ld42 (C : rC X cc nL G A) {i : Int32} (hin : vp_in i 1600) (hdg : decode cc pc = .ok (.laload, 1)) (kk : gJ X (rWd G A H0) Q k n σ lv (pc + 1) (.long (σ.2.2 42 i.toNatClampNeg) :: rest)) : gJ X (rWd G A H0) Q k n σ lv (pc) (.int i :: .ref (G.2.2.1 42) :: rest) := fun H locs ls hW hl => va_lald (D := G.1) (cl := vwCl) (ws := rws G σ) (tys := rKt G) (cA := G.2.1.2.2.1) (n := 1600) (f := σ.2.2 42) C.1.1 C.1.2.1 C.2.2.2.1 hW.1 25 2 rfl rfl hin hdg (kk H locs ls hW hl)
theorem rwr42 (G : rG) (σ : RSt) (i : Nat) (v : Int64) : (rws G σ).set 25 (G.2.2.1 42, .inl (G.2.1.2.2.1, 1600, .inr (.inl (vp_updL (σ.2.2 42) i v)))) = rws G (rsJ σ 42 i v) := rfl
theorem r_st42 (C : rC X cc nL G A) {i : Int32} {x : Int64} (hin : vp_in i 1600) (hdg : decode cc pc = .ok (.lastore, 1)) (kk : gJ X (rWd G A H0) Q k n (rsJ σ 42 i.toNatClampNeg (x)) lv (pc + 1) (rest)) : gJ X (rWd G A H0) Q k n σ lv (pc) (.long x :: .int i :: .ref (G.2.2.1 42) :: rest) := fun H locs ls hW hl => va_last (D := G.1) (cl := vwCl) (ws := rws G σ) (tys := rKt G) (cA := G.2.1.2.2.1) (n := 1600) (f := σ.2.2 42) C.1.1 C.1.2.1 C.2.2.2.1 hW.1 hW.2.1 hW.2.2 25 2 rfl rfl hin hdg (fun H1 locs1 hP hD hS => kk H1 locs1 ls ⟨rwr42 G σ _ _ ▸ hP, rwr42 G σ _ _ ▸ hD, hS⟩ hl)
theorem r_ld43 (C : rC X cc nL G A) {i : Int32} (hin : vp_in i 1600) (hdg : decode cc pc = .ok (.laload, 1)) (kk : gJ X (rWd G A H0) Q k n σ lv (pc + 1) (.long (σ.2.2 43 i.toNatClampNeg) :: rest)) : gJ X (rWd G A H0) Q k n σ lv (pc) (.int i :: .ref (G.2.2.1 43) :: rest) := fun H locs ls hW hl => va_lald (D := G.1) (cl := vwCl) (ws := rws G σ) (tys := rKt G) (cA := G.2.1.2.2.1) (n := 1600) (f := σ.2.2 43) C.1.1 C.1.2.1 C.2.2.2.1 hW.1 26 2 rfl rfl hin hdg (kk H locs ls hW hl)
theorem rwr43 (G : rG) (σ : RSt) (i : Nat) (v : Int64) : (rws G σ).set 26 (G.2.2.1 43, .inl (G.2.1.2.2.1, 1600, .inr (.inl (vp_updL (σ.2.2 43) i v)))) = rws G (rsJ σ 43 i v) := rfl
theorem r_st43 (C : rC X cc nL G A) {i : Int32} {x : Int64} (hin : vp_in i 1600) (hdg : decode cc pc = .ok (.lastore, 1)) (kk : gJ X (rWd G A H0) Q k n (rsJ σ 43 i.toNatClampNeg (x)) lv (pc + 1) (rest)) : gJ X (rWd G A H0) Q k n σ lv (pc) (.long x :: .int i :: .ref (G.2.2.1 43) :: rest) := fun H locs ls hW hl => va_last (D := G.1) (cl := vwCl) (ws := rws G σ) (tys := rKt G) (cA := G.2.1.2.2.1) (n := 1600) (f := σ.2.2 43) C.1.1 C.1.2.1 C.2.2.2.1 hW.1 hW.2.1 hW.2.2 26 2 rfl rfl hin hdg (fun H1 locs1 hP hD hS => kk H1 locs1 ls ⟨rwr43 G σ _ _ ▸ hP, rwr43 G σ _ _ ▸ hD, hS⟩ hl)
theorem r_ld44 (C : rC X cc nL G A) {i : Int32} (hin : vp_in i 40) (hdg : decode cc pc = .ok (.laload, 1)) (kk : gJ X (rWd G A H0) Q k n σ lv (pc + 1) (.long (σ.2.2 44 i.toNatClampNeg) :: rest)) : gJ X (rWd G A H0) Q k n σ lv (pc) (.int i :: .ref (G.2.2.1 44) :: rest) := fun H locs ls hW hl => va_lald (D := G.1) (cl := vwCl) (ws := rws G σ) (tys := rKt G) (cA := G.2.1.2.2.1) (n := 40) (f := σ.2.2 44) C.1.1 C.1.2.1 C.2.2.2.1 hW.1 27 2 rfl rfl hin hdg (kk H locs ls hW hl)
theorem rwr44 (G : rG) (σ : RSt) (i : Nat) (v : Int64) : (rws G σ).set 27 (G.2.2.1 44, .inl (G.2.1.2.2.1, 40, .inr (.inl (vp_updL (σ.2.2 44) i v)))) = rws G (rsJ σ 44 i v) := rfl
theorem r_st44 (C : rC X cc nL G A) {i : Int32} {x : Int64} (hin : vp_in i 40) (hdg : decode cc pc = .ok (.lastore, 1)) (kk : gJ X (rWd G A H0) Q k n (rsJ σ 44 i.toNatClampNeg (x)) lv (pc + 1) (rest)) : gJ X (rWd G A H0) Q k n σ lv (pc) (.long x :: .int i :: .ref (G.2.2.1 44) :: rest) := fun H locs ls hW hl => va_last (D := G.1) (cl := vwCl) (ws := rws G σ) (tys := rKt G) (cA := G.2.1.2.2.1) (n := 40) (f := σ.2.2 44) C.1.1 C.1.2.1 C.2.2.2.1 hW.1 hW.2.1 hW.2.2 27 2 rfl rfl hin hdg (fun H1 locs1 hP hD hS => kk H1 locs1 ls ⟨rwr44 G σ _ _ ▸ hP, rwr44 G σ _ _ ▸ hD, hS⟩ hl)
theorem r_ld45 (C : rC X cc nL G A) {i : Int32} (hin : vp_in i 80) (hdg : decode cc pc = .ok (.laload, 1)) (kk : gJ X (rWd G A H0) Q k n σ lv (pc + 1) (.long (σ.2.2 45 i.toNatClampNeg) :: rest)) : gJ X (rWd G A H0) Q k n σ lv (pc) (.int i :: .ref (G.2.2.1 45) :: rest) := fun H locs ls hW hl => va_lald (D := G.1) (cl := vwCl) (ws := rws G σ) (tys := rKt G) (cA := G.2.1.2.2.1) (n := 80) (f := σ.2.2 45) C.1.1 C.1.2.1 C.2.2.2.1 hW.1 28 2 rfl rfl hin hdg (kk H locs ls hW hl)
theorem rwr45 (G : rG) (σ : RSt) (i : Nat) (v : Int64) : (rws G σ).set 28 (G.2.2.1 45, .inl (G.2.1.2.2.1, 80, .inr (.inl (vp_updL (σ.2.2 45) i v)))) = rws G (rsJ σ 45 i v) := rfl
theorem r_st45 (C : rC X cc nL G A) {i : Int32} {x : Int64} (hin : vp_in i 80) (hdg : decode cc pc = .ok (.lastore, 1)) (kk : gJ X (rWd G A H0) Q k n (rsJ σ 45 i.toNatClampNeg (x)) lv (pc + 1) (rest)) : gJ X (rWd G A H0) Q k n σ lv (pc) (.long x :: .int i :: .ref (G.2.2.1 45) :: rest) := fun H locs ls hW hl => va_last (D := G.1) (cl := vwCl) (ws := rws G σ) (tys := rKt G) (cA := G.2.1.2.2.1) (n := 80) (f := σ.2.2 45) C.1.1 C.1.2.1 C.2.2.2.1 hW.1 hW.2.1 hW.2.2 28 2 rfl rfl hin hdg (fun H1 locs1 hP hD hS => kk H1 locs1 ls ⟨rwr45 G σ _ _ ▸ hP, rwr45 G σ _ _ ▸ hD, hS⟩ hl)
theorem r_ld46 (C : rC X cc nL G A) {i : Int32} (hin : vp_in i 80) (hdg : decode cc pc = .ok (.iaload, 1)) (kk : gJ X (rWd G A H0) Q k n σ lv (pc + 1) (.int (σ.2.1 46 i.toNatClampNeg) :: rest)) : gJ X (rWd G A H0) Q k n σ lv (pc) (.int i :: .ref (G.2.2.1 46) :: rest) := fun H locs ls hW hl => va_iald (D := G.1) (cl := vwCl) (ws := rws G σ) (tys := rKt G) (cA := G.2.1.2.1) (n := 80) (f := σ.2.1 46) C.1.1 C.1.2.1 C.2.2.2.1 hW.1 29 1 rfl rfl hin hdg (kk H locs ls hW hl)
theorem rwr46 (G : rG) (σ : RSt) (i : Nat) (v : Int32) : (rws G σ).set 29 (G.2.2.1 46, .inl (G.2.1.2.1, 80, .inl (upd (σ.2.1 46) i v))) = rws G (rsA σ 46 i v) := rfl
theorem r_st46 (C : rC X cc nL G A) {i : Int32} {x : Int32} (hin : vp_in i 80) (hdg : decode cc pc = .ok (.iastore, 1)) (kk : gJ X (rWd G A H0) Q k n (rsA σ 46 i.toNatClampNeg (x)) lv (pc + 1) (rest)) : gJ X (rWd G A H0) Q k n σ lv (pc) (.int x :: .int i :: .ref (G.2.2.1 46) :: rest) := fun H locs ls hW hl => va_iast (D := G.1) (cl := vwCl) (ws := rws G σ) (tys := rKt G) (cA := G.2.1.2.1) (n := 80) (f := σ.2.1 46) C.1.1 C.1.2.1 C.2.2.2.1 hW.1 hW.2.1 hW.2.2 29 1 rfl rfl hin hdg (fun H1 locs1 hP hD hS => kk H1 locs1 ls ⟨rwr46 G σ _ _ ▸ hP, rwr46 G σ _ _ ▸ hD, hS⟩ hl)
theorem r_ld47 (C : rC X cc nL G A) {i : Int32} (hin : vp_in i 40) (hdg : decode cc pc = .ok (.baload, 1)) (kk : gJ X (rWd G A H0) Q k n σ lv (pc + 1) (.int (σ.2.1 47 i.toNatClampNeg) :: rest)) : gJ X (rWd G A H0) Q k n σ lv (pc) (.int i :: .ref (G.2.2.1 47) :: rest) := fun H locs ls hW hl => va_zald (D := G.1) (cl := vwCl) (ws := rws G σ) (tys := rKt G) (cA := G.2.1.2.2.2) (n := 40) (f := σ.2.1 47) C.1.1 C.1.2.1 C.2.2.2.1 hW.1 30 3 rfl rfl hin hdg (kk H locs ls hW hl)
theorem rwr47 (G : rG) (σ : RSt) (i : Nat) (v : Int32) : (rws G σ).set 30 (G.2.2.1 47, .inl (G.2.1.2.2.2, 40, .inl (upd (σ.2.1 47) i v))) = rws G (rsA σ 47 i v) := rfl
theorem r_st47 (C : rC X cc nL G A) {i : Int32} {x : Int32} (hin : vp_in i 40) (hdg : decode cc pc = .ok (.bastore, 1)) (kk : gJ X (rWd G A H0) Q k n (rsA σ 47 i.toNatClampNeg (vp_nar .boolean x)) lv (pc + 1) (rest)) : gJ X (rWd G A H0) Q k n σ lv (pc) (.int x :: .int i :: .ref (G.2.2.1 47) :: rest) := fun H locs ls hW hl => va_zast (D := G.1) (cl := vwCl) (ws := rws G σ) (tys := rKt G) (cA := G.2.1.2.2.2) (n := 40) (f := σ.2.1 47) C.1.1 C.1.2.1 C.2.2.2.1 hW.1 hW.2.1 hW.2.2 30 3 rfl rfl hin hdg (fun H1 locs1 hP hD hS => kk H1 locs1 ls ⟨rwr47 G σ _ _ ▸ hP, rwr47 G σ _ _ ▸ hD, hS⟩ hl)
theorem r_ld48 (C : rC X cc nL G A) {i : Int32} (hin : vp_in i 40) (hdg : decode cc pc = .ok (.baload, 1)) (kk : gJ X (rWd G A H0) Q k n σ lv (pc + 1) (.int (σ.2.1 48 i.toNatClampNeg) :: rest)) : gJ X (rWd G A H0) Q k n σ lv (pc) (.int i :: .ref (G.2.2.1 48) :: rest) := fun H locs ls hW hl => va_zald (D := G.1) (cl := vwCl) (ws := rws G σ) (tys := rKt G) (cA := G.2.1.2.2.2) (n := 40) (f := σ.2.1 48) C.1.1 C.1.2.1 C.2.2.2.1 hW.1 31 3 rfl rfl hin hdg (kk H locs ls hW hl)
theorem rwr48 (G : rG) (σ : RSt) (i : Nat) (v : Int32) : (rws G σ).set 31 (G.2.2.1 48, .inl (G.2.1.2.2.2, 40, .inl (upd (σ.2.1 48) i v))) = rws G (rsA σ 48 i v) := rfl
theorem r_st48 (C : rC X cc nL G A) {i : Int32} {x : Int32} (hin : vp_in i 40) (hdg : decode cc pc = .ok (.bastore, 1)) (kk : gJ X (rWd G A H0) Q k n (rsA σ 48 i.toNatClampNeg (vp_nar .boolean x)) lv (pc + 1) (rest)) : gJ X (rWd G A H0) Q k n σ lv (pc) (.int x :: .int i :: .ref (G.2.2.1 48) :: rest) := fun H locs ls hW hl => va_zast (D := G.1) (cl := vwCl) (ws := rws G σ) (tys := rKt G) (cA := G.2.1.2.2.2) (n := 40) (f := σ.2.1 48) C.1.1 C.1.2.1 C.2.2.2.1 hW.1 hW.2.1 hW.2.2 31 3 rfl rfl hin hdg (fun H1 locs1 hP hD hS => kk H1 locs1 ls ⟨rwr48 G σ _ _ ▸ hP, rwr48 G σ _ _ ▸ hD, hS⟩ hl)
end RLIB
theorem rTx.calling {G : rG} {A : Nat → Prop} {U : State} {g : JFrame} {mk : MethodId} {a : Array Value} {H : Heap} (h : rTx G A U H) : rTx G A (U.calling g mk a) H :=
  ⟨fun i hi => jS.moved (u := U) (U := U.calling g mk a) (Vm.Alike.refl U.vm) (h.1 i hi), fun i hi => vk_R.same (u := U) (U := U.calling g mk a) rfl (h.2 i hi)⟩
/-- the texts, seen at a call: the heap has changed within A alone -/
theorem rTx.go {G : rG} {A B : Nat → Prop} {s U : State} {H : Heap} {locs : List Loc} (h : rTx G A s s.heap) (hS : va_S A s.heap H locs) (hU : U.heap = H) (hW : s.WarmedH U.vm) (hAB : ∀ q, B q → A q) : rTx G B U U.heap := by
  rw [hU]
  exact ⟨fun i hi => (((h.1 i hi).kept hS.2.1).moved hW.alike).narrow hAB, fun i hi => (h.2 i hi).warm hW⟩
theorem r_blind {G : rG} {σ : RSt} {sz : Nat} {vs : List Value} : FrameBlind (rPc G σ sz vs) := fun a U g mk q => by
  obtain ⟨q0, q1, qP, qK, qD⟩ := q
  exact ⟨q0, q1, qP, ⟨va_K.moved (u := U) (U := U.calling g mk a) (Vm.Alike.refl U.vm) qK.1, rTx.calling qK.2⟩, qD⟩
/-- a method of the reference that returns an int or a boolean: from σ, with vs, it answers r and leaves τ with post r τ -/
def rMi (l : Launch) (y : MethodName) (b : ByteArray) (mL : Nat) (rt : FieldType) (f c : Nat) (G : rG) (σ : RSt) (vs : List Value) (post : Int32 → RSt → Prop) : Prop :=
  ∀ sz : Nat, Met l y (rWs y b mL (some rt)) (rRm f c) (rPc G σ sz vs) (va_Qi post (rB G sz) (rA G sz)) 0 0 (rA G sz)
def rMl (l : Launch) (y : MethodName) (b : ByteArray) (mL : Nat) (f c : Nat) (G : rG) (σ : RSt) (vs : List Value) (post : Int64 → RSt → Prop) : Prop :=
  ∀ sz : Nat, Met l y (rWs y b mL (some .long)) (rRm f c) (rPc G σ sz vs) (va_Ql post (rB G sz) (rA G sz)) 0 0 (rA G sz)
def rMv (l : Launch) (y : MethodName) (b : ByteArray) (mL : Nat) (f c : Nat) (G : rG) (σ : RSt) (vs : List Value) (post : RSt → Prop) : Prop :=
  ∀ sz : Nat, Met l y (rWs y b mL none) (rRm f c) (rPc G σ sz vs) (va_Qv post (rB G sz) (rA G sz)) 0 0 (rA G sz)
theorem r_DA {G : rG} {σ : RSt} {sz : Nat} (h : va_D (fun _ => True) (rws G σ)) : va_D (rA G sz) (rws G σ) := va_D.fst (va_D.self (va_D.fst h (rws_fst G σ r_0))) (rws_fst G r_0 σ)
theorem rMi_of {l : Launch} {y : MethodName} {b : ByteArray} {mL : Nat} {rt : FieldType} {f c : Nat} {G : rG} {σ : RSt} {vs : List Value} {post : Int32 → RSt → Prop} (hy : plainName y.cls = true) (hyc : y.cls = RX8) (hn : (lg_sl (.ref (G.2.2.1 0) :: vs)).length ≤ mL)
    (body : ∀ (X : gT) (A : Nat → Prop) (H0 : Heap) (Q : State → Prop), g_l X = l → (f ≤ (g_R X).frames ∧ c ≤ (g_R X).locals) → H0 = (g_s X).heap → rC X b mL G A →
      (∀ (r : Int32) (τ : RSt) (lv : List (Nat × Value)) (pc : Nat), post r τ → narrow rt (.int r) = .int r → decode b pc = .ok (.ireturn, 1) → gJ X (rWd G A H0) Q 0 0 τ lv pc [.int r]) →
      gJ X (rWd G A H0) Q 0 0 σ (lv_args 0 (.ref (G.2.2.1 0) :: vs)) 0 []) : rMi l y b mL rt f c G σ vs post := by
  intro sz
  refine Met.ofW (cc := b) (maxL := mL) (ret := some rt) hy rfl ?_
  intro p e s m args below meth cd s₁ B hml hv
  obtain ⟨rfl, hsz, hP, ⟨hK, hTx⟩, hD0⟩ := hv
  have hts := atoms_spec (ws := rWs y b mL (some rt)) B.pre
  have hown : s.vm.findClass RX8 = some m.cls := by have h := findClass_of_methodNamed B.named; rwa [hyc] at h
  subst hsz
  have hl := lv_entry (.ref (G.2.2.1 0) :: vs) (n := mL) hn
  rw [lg_entry_eq]
  refine body (p, l, e, rRm f c, s, m, _, below, meth, cd, mL) (rA G s.heap.size) s.heap _ rfl ⟨Nat.le_refl _, Nat.le_refl _⟩ rfl ⟨⟨B.exec, B.bytes, rfl, hml⟩, hown, fun w hw => hts w (List.mem_cons_of_mem _ hw), hK, fun q hq => Or.inr hq, hTx⟩ ?_ s.heap [] _ ⟨hP, r_DA hD0, va_S.rf⟩ hl
  intro r τ lv pc hpost hnar hdg H locs ls hW hl
  exact W.zret (v := r) B.exec B.bytes B.returns hnar (fun t ht hW' => ⟨⟨r, τ, rfl, hpost, by rw [ht]; exact hW.1, va_K.moved hW'.alike hK, hW.2.1⟩, hW.2.2.F ht⟩) hW.2.2.2.2 hdg
theorem rMl_of {l : Launch} {y : MethodName} {b : ByteArray} {mL : Nat} {f c : Nat} {G : rG} {σ : RSt} {vs : List Value} {post : Int64 → RSt → Prop} (hy : plainName y.cls = true) (hyc : y.cls = RX8) (hn : (lg_sl (.ref (G.2.2.1 0) :: vs)).length ≤ mL)
    (body : ∀ (X : gT) (A : Nat → Prop) (H0 : Heap) (Q : State → Prop), g_l X = l → (f ≤ (g_R X).frames ∧ c ≤ (g_R X).locals) → H0 = (g_s X).heap → rC X b mL G A →
      (∀ (r : Int64) (τ : RSt) (lv : List (Nat × Value)) (pc : Nat), post r τ → decode b pc = .ok (.lreturn, 1) → gJ X (rWd G A H0) Q 0 0 τ lv pc [.long r]) →
      gJ X (rWd G A H0) Q 0 0 σ (lv_args 0 (.ref (G.2.2.1 0) :: vs)) 0 []) : rMl l y b mL f c G σ vs post := by
  intro sz
  refine Met.ofW (cc := b) (maxL := mL) (ret := some .long) hy rfl ?_
  intro p e s m args below meth cd s₁ B hml hv
  obtain ⟨rfl, hsz, hP, ⟨hK, hTx⟩, hD0⟩ := hv
  have hts := atoms_spec (ws := rWs y b mL (some .long)) B.pre
  have hown : s.vm.findClass RX8 = some m.cls := by have h := findClass_of_methodNamed B.named; rwa [hyc] at h
  subst hsz
  have hl := lv_entry (.ref (G.2.2.1 0) :: vs) (n := mL) hn
  rw [lg_entry_eq]
  refine body (p, l, e, rRm f c, s, m, _, below, meth, cd, mL) (rA G s.heap.size) s.heap _ rfl ⟨Nat.le_refl _, Nat.le_refl _⟩ rfl ⟨⟨B.exec, B.bytes, rfl, hml⟩, hown, fun w hw => hts w (List.mem_cons_of_mem _ hw), hK, fun q hq => Or.inr hq, hTx⟩ ?_ s.heap [] _ ⟨hP, r_DA hD0, va_S.rf⟩ hl
  intro r τ lv pc hpost hdg H locs ls hW hl
  exact W.lret (v := r) B.exec B.bytes B.returns (fun t ht hW' => ⟨⟨r, τ, rfl, hpost, by rw [ht]; exact hW.1, va_K.moved hW'.alike hK, hW.2.1⟩, hW.2.2.F ht⟩) hW.2.2.2.2 hdg
theorem rMv_of {l : Launch} {y : MethodName} {b : ByteArray} {mL : Nat} {f c : Nat} {G : rG} {σ : RSt} {vs : List Value} {post : RSt → Prop} (hy : plainName y.cls = true) (hyc : y.cls = RX8) (hn : (lg_sl (.ref (G.2.2.1 0) :: vs)).length ≤ mL)
    (body : ∀ (X : gT) (A : Nat → Prop) (H0 : Heap) (Q : State → Prop), g_l X = l → (f ≤ (g_R X).frames ∧ c ≤ (g_R X).locals) → H0 = (g_s X).heap → rC X b mL G A →
      (∀ (τ : RSt) (lv : List (Nat × Value)) (pc : Nat), post τ → decode b pc = .ok (.return_, 1) → gJ X (rWd G A H0) Q 0 0 τ lv pc []) →
      gJ X (rWd G A H0) Q 0 0 σ (lv_args 0 (.ref (G.2.2.1 0) :: vs)) 0 []) : rMv l y b mL f c G σ vs post := by
  intro sz
  refine Met.ofW (cc := b) (maxL := mL) (ret := none) hy rfl ?_
  intro p e s m args below meth cd s₁ B hml hv
  obtain ⟨rfl, hsz, hP, ⟨hK, hTx⟩, hD0⟩ := hv
  have hts := atoms_spec (ws := rWs y b mL none) B.pre
  have hown : s.vm.findClass RX8 = some m.cls := by have h := findClass_of_methodNamed B.named; rwa [hyc] at h
  subst hsz
  have hl := lv_entry (.ref (G.2.2.1 0) :: vs) (n := mL) hn
  rw [lg_entry_eq]
  refine body (p, l, e, rRm f c, s, m, _, below, meth, cd, mL) (rA G s.heap.size) s.heap _ rfl ⟨Nat.le_refl _, Nat.le_refl _⟩ rfl ⟨⟨B.exec, B.bytes, rfl, hml⟩, hown, fun w hw => hts w (List.mem_cons_of_mem _ hw), hK, fun q hq => Or.inr hq, hTx⟩ ?_ s.heap [] _ ⟨hP, r_DA hD0, va_S.rf⟩ hl
  intro τ lv pc hpost hdg H locs ls hW hl
  exact W.vret B.exec B.bytes B.returns (fun t ht hW' => ⟨⟨τ, rfl, hpost, by rw [ht]; exact hW.1, va_K.moved hW'.alike hK, hW.2.1⟩, hW.2.2.F ht⟩) hW.2.2.2.2 hdg
section RCALL
variable {X : gT} {Q : State → Prop} {σ : RSt} {lv : List (Nat × Value)} {pc : Nat} {rest st0 : List Value} {cc : ByteArray} {nL : Nat} {G : rG} {A : Nat → Prop} {H0 : Heap} {y : MethodName} {b : ByteArray} {mL f c idx : Nat} {rt : FieldType} {vs : List Value}
theorem r_wsV {ret : Option FieldType} (k1 : Cond.methodLink RX8 idx y ∈ wR) (k2 : Cond.instanceMethod y ∈ wR) (k3 : Cond.selects RX8 y y ∈ wR) (k4 : Cond.code y b mL ret ∈ wR) : GoodIn wR (wsV RX8 idx RX8 y (rWs y b mL ret)) := by
  refine goodIn_app (fun w hw => ?_) (rWs_good k4)
  simp only [List.mem_cons, List.not_mem_nil, or_false] at hw
  rcases hw with rfl | rfl | rfl | rfl
  · exact kR_good _ k1
  · exact kR_good _ k2
  · exact kR_good _ k3
  · exact kR_good _ kR_47
theorem r_Ain {H : Heap} {locs : List Loc} (C : rC X cc nL G A) (hsz : H0 = (g_s X).heap) (hW : rWd G A H0 σ H locs) : ∀ q, rA G H.size q → A q := by
  intro q h
  rcases h with ⟨j, e, h⟩ | h
  · exact (va_D.fst hW.2.1 (rws_fst G σ r_0)).2 j (q, e) h
  · exact C.2.2.2.2.1 q (Nat.le_trans (by rw [← hsz]; exact hW.2.2.1) h)
theorem r_back {H H1 : Heap} {locs1 : List Loc} {τ : RSt} {t : State} (hD : va_D A (rws G σ)) (ht : t.heap = H1) (hB : rB G H.size τ t) (hS : va_S A H0 H1 locs1) : rWd G A H0 τ H1 locs1 :=
  ⟨by rw [← ht]; exact hB.1, va_D.fst hD (rws_fst G σ τ), hS⟩
theorem r_calli {post : Int32 → RSt → Prop} (C : rC X cc nL G A) (hsz : H0 = (g_s X).heap) (hM : rMi (g_l X) y b mL rt f c G σ vs post) (k1 : Cond.methodLink RX8 idx y ∈ wR) (k2 : Cond.instanceMethod y ∈ wR) (k3 : Cond.selects RX8 y y ∈ wR) (k4 : Cond.code y b mL (some rt) ∈ wR)
    (hd : y.cls = RX8 ∧ y.cls ≠ "java/lang/invoke/MethodHandle" ∧ y.cls ≠ "java/lang/invoke/VarHandle" ∧ (parseMethodDescriptor y.desc).map (fun d => d.parameters.length) = some vs.length) (hR : f + 1 ≤ (g_R X).frames ∧ 8 + (mL + 11) + c ≤ (g_R X).locals) (hdg : decode cc pc = .ok (.invokevirtual idx, 3)) (hst0 : st0 = vs.reverse ++ .ref (G.2.2.1 0) :: rest) (hst : (rest.map fun v => v.category).sum ≤ 8)
    (kk : ∀ (r : Int32) (τ : RSt), post r τ → gJ X (rWd G A H0) Q 0 0 τ lv (pc + 3) (.int r :: rest)) : gJ X (rWd G A H0) Q 0 0 σ lv pc st0 := by
  intro H locs ls hW hl
  refine va_calli (va_runV (As := vs) (rest := rest) ⟨C.1.1, C.1.2.1, C.1.2.2.2, C.2.1, C.2.2.1⟩ (hM H.size) (cwV vs.length C.2.2.1 (r_wsV k1 k2 k3 k4) rfl rfl rfl hd hR) ⟨r_blind, va_recv C.2.2.2.1 hW.1 (ci := 8) (q0 := 0) rfl rfl, fun U hU hW' => ⟨rfl, by rw [hU], by rw [hU]; exact hW.1, ⟨va_K.moved hW'.alike C.2.2.2.1, C.2.2.2.2.2.go (hsz ▸ hW.2.2) hU hW' (r_Ain C hsz hW)⟩, hW.2.1.weaken (fun _ _ _ _ => trivial)⟩⟩ rfl rfl (hl.1.trans C.1.2.2.1) hst0 (lv_room hst) hdg ⟨Nat.zero_le _, Nat.zero_le _⟩) hW.2.2 (fun q _ h => r_Ain C hsz hW q h) (r_Ain C hsz hW) (fun r u t H1 locs1 ht hvm hw hB hz1 hk1 hS => ?_)
  exact kk r u hw H1 locs1 ls (r_back hW.2.1 ht hB hS) hl
theorem r_calll {post : Int64 → RSt → Prop} (C : rC X cc nL G A) (hsz : H0 = (g_s X).heap) (hM : rMl (g_l X) y b mL f c G σ vs post) (k1 : Cond.methodLink RX8 idx y ∈ wR) (k2 : Cond.instanceMethod y ∈ wR) (k3 : Cond.selects RX8 y y ∈ wR) (k4 : Cond.code y b mL (some .long) ∈ wR)
    (hd : y.cls = RX8 ∧ y.cls ≠ "java/lang/invoke/MethodHandle" ∧ y.cls ≠ "java/lang/invoke/VarHandle" ∧ (parseMethodDescriptor y.desc).map (fun d => d.parameters.length) = some vs.length) (hR : f + 1 ≤ (g_R X).frames ∧ 8 + (mL + 11) + c ≤ (g_R X).locals) (hdg : decode cc pc = .ok (.invokevirtual idx, 3)) (hst0 : st0 = vs.reverse ++ .ref (G.2.2.1 0) :: rest) (hst : (rest.map fun v => v.category).sum ≤ 8)
    (kk : ∀ (r : Int64) (τ : RSt), post r τ → gJ X (rWd G A H0) Q 0 0 τ lv (pc + 3) (.long r :: rest)) : gJ X (rWd G A H0) Q 0 0 σ lv pc st0 := by
  intro H locs ls hW hl
  refine va_calll (va_runV (As := vs) (rest := rest) ⟨C.1.1, C.1.2.1, C.1.2.2.2, C.2.1, C.2.2.1⟩ (hM H.size) (cwV vs.length C.2.2.1 (r_wsV k1 k2 k3 k4) rfl rfl rfl hd hR) ⟨r_blind, va_recv C.2.2.2.1 hW.1 (ci := 8) (q0 := 0) rfl rfl, fun U hU hW' => ⟨rfl, by rw [hU], by rw [hU]; exact hW.1, ⟨va_K.moved hW'.alike C.2.2.2.1, C.2.2.2.2.2.go (hsz ▸ hW.2.2) hU hW' (r_Ain C hsz hW)⟩, hW.2.1.weaken (fun _ _ _ _ => trivial)⟩⟩ rfl rfl (hl.1.trans C.1.2.2.1) hst0 (lv_room hst) hdg ⟨Nat.zero_le _, Nat.zero_le _⟩) hW.2.2 (fun q _ h => r_Ain C hsz hW q h) (r_Ain C hsz hW) (fun r u t H1 locs1 ht hvm hw hB hz1 hk1 hS => ?_)
  exact kk r u hw H1 locs1 ls (r_back hW.2.1 ht hB hS) hl
theorem r_callv {post : RSt → Prop} (C : rC X cc nL G A) (hsz : H0 = (g_s X).heap) (hM : rMv (g_l X) y b mL f c G σ vs post) (k1 : Cond.methodLink RX8 idx y ∈ wR) (k2 : Cond.instanceMethod y ∈ wR) (k3 : Cond.selects RX8 y y ∈ wR) (k4 : Cond.code y b mL none ∈ wR)
    (hd : y.cls = RX8 ∧ y.cls ≠ "java/lang/invoke/MethodHandle" ∧ y.cls ≠ "java/lang/invoke/VarHandle" ∧ (parseMethodDescriptor y.desc).map (fun d => d.parameters.length) = some vs.length) (hR : f + 1 ≤ (g_R X).frames ∧ 8 + (mL + 11) + c ≤ (g_R X).locals) (hdg : decode cc pc = .ok (.invokevirtual idx, 3)) (hst0 : st0 = vs.reverse ++ .ref (G.2.2.1 0) :: rest) (hst : (rest.map fun v => v.category).sum ≤ 8)
    (kk : ∀ (τ : RSt), post τ → gJ X (rWd G A H0) Q 0 0 τ lv (pc + 3) rest) : gJ X (rWd G A H0) Q 0 0 σ lv pc st0 := by
  intro H locs ls hW hl
  refine va_callv (va_runV (As := vs) (rest := rest) ⟨C.1.1, C.1.2.1, C.1.2.2.2, C.2.1, C.2.2.1⟩ (hM H.size) (cwV vs.length C.2.2.1 (r_wsV k1 k2 k3 k4) rfl rfl rfl hd hR) ⟨r_blind, va_recv C.2.2.2.1 hW.1 (ci := 8) (q0 := 0) rfl rfl, fun U hU hW' => ⟨rfl, by rw [hU], by rw [hU]; exact hW.1, ⟨va_K.moved hW'.alike C.2.2.2.1, C.2.2.2.2.2.go (hsz ▸ hW.2.2) hU hW' (r_Ain C hsz hW)⟩, hW.2.1.weaken (fun _ _ _ _ => trivial)⟩⟩ rfl rfl (hl.1.trans C.1.2.2.1) hst0 (lv_room hst) hdg ⟨Nat.zero_le _, Nat.zero_le _⟩) hW.2.2 (fun q _ h => r_Ain C hsz hW q h) (r_Ain C hsz hW) (fun u t H1 locs1 ht hvm hw hB hz1 hk1 hS => ?_)
  exact kk u hw H1 locs1 ls (r_back hW.2.1 ht hB hS) hl
end RCALL
/-! static methods: no world of their own -/
def sC (X : gT) (cc : ByteArray) (nL : Nat) (own : String) : Prop := gC X cc nL ∧ (g_s X).vm.findClass own = some (g_m X).cls ∧ (∀ w ∈ wR, w.before (g_a X) (g_s X) = true) ∧ True
theorem rC.s {X : gT} {cc : ByteArray} {nL : Nat} {G : rG} {A : Nat → Prop} (C : rC X cc nL G A) : sC X cc nL RX8 := ⟨C.1, C.2.1, C.2.2.1, trivial⟩
def rSi (l : Launch) (y : MethodName) (b : ByteArray) (mL : Nat) (rt : FieldType) (f c : Nat) (vs : List Value) (post : Int32 → Prop) : Prop :=
  Met l y (rWs y b mL (some rt)) (rRm f c) (va_Pc vs (fun _ => True)) (vp_Si post) 0 0 (fun _ => False)
theorem rSi_of {l : Launch} {y : MethodName} {b : ByteArray} {mL : Nat} {rt : FieldType} {f c : Nat} {vs : List Value} {post : Int32 → Prop} {own : String} (hy : plainName y.cls = true) (hyc : y.cls = own) (hn : (lg_sl vs).length ≤ mL)
    (body : ∀ (X : gT) (H0 : Heap) (Q : State → Prop), (f ≤ (g_R X).frames ∧ c ≤ (g_R X).locals) → sC X b mL own →
      (∀ (r : Int32) (lv : List (Nat × Value)) (pc : Nat), post r → narrow rt (.int r) = .int r → decode b pc = .ok (.ireturn, 1) → gJ X (gU H0) Q 0 0 () lv pc [.int r]) →
      gJ X (gU H0) Q 0 0 () (lv_args 0 vs) 0 []) : rSi l y b mL rt f c vs post := by
  refine Met.ofW (cc := b) (maxL := mL) (ret := some rt) hy rfl ?_
  intro p e s m args below meth cd s₁ B hml hv
  obtain ⟨rfl, -⟩ := hv
  have hts := atoms_spec (ws := rWs y b mL (some rt)) B.pre
  have hown : s.vm.findClass own = some m.cls := by have h := findClass_of_methodNamed B.named; rwa [hyc] at h
  have hl := lv_entry vs (n := mL) hn
  rw [lg_entry_eq]
  refine body (p, l, e, rRm f c, s, m, _, below, meth, cd, mL) s.heap _ ⟨Nat.le_refl _, Nat.le_refl _⟩ ⟨⟨B.exec, B.bytes, rfl, hml⟩, hown, fun w hw => hts w (List.mem_cons_of_mem _ hw), trivial⟩ ?_ s.heap [] _ ⟨rfl, rfl⟩ hl
  intro r lv pc hpost hnar hdg H locs ls hW hl
  obtain ⟨rfl, rfl⟩ := hW
  exact W.zret (v := r) B.exec B.bytes B.returns hnar (fun t ht hW' => ⟨r, rfl, hpost, ht⟩) (fun _ h => by cases h) hdg
theorem s_wsS {own : String} {idx : Nat} {y : MethodName} {b : ByteArray} {mL : Nat} {ret : Option FieldType} (k0 : Cond.initialized y.cls ∈ wR) (k1 : Cond.methodLink own idx y ∈ wR) (k2 : Cond.static y ∈ wR) (k4 : Cond.code y b mL ret ∈ wR) : GoodIn wR (va_wsS own idx y (rWs y b mL ret)) := by
  refine goodIn_app (fun w hw => ?_) (rWs_good k4)
  simp only [List.mem_cons, List.not_mem_nil, or_false] at hw
  rcases hw with rfl | rfl | rfl
  · exact kR_good _ k1
  · exact kR_good _ k2
  · exact kR_good _ k0
theorem r_ini {y : MethodName} (h : y.cls = RX8 ∨ y.cls = RJ6) : Cond.initialized y.cls ∈ wR := by
  rcases h with h | h <;> rw [h]
  · exact kR_47
  · exact kR_185
theorem g_callSi {X : gT} {S : Type} {Wd : S → Heap → List Loc → Prop} {Q : State → Prop} {k n : Nat} {σ : S} {lv : List (Nat × Value)} {pc : Nat} {rest st0 : List Value} {cc : ByteArray} {nL : Nat} {own : String} {y : MethodName} {b : ByteArray} {mL f c idx : Nat} {rt : FieldType} {vs : List Value} {cls : String} {post : Int32 → Prop} (C : sC X cc nL own) (hM : rSi (g_l X) y b mL rt f c vs post)
    (k1 : Cond.methodLink own idx y ∈ wR) (k2 : Cond.static y ∈ wR) (k4 : Cond.code y b mL (some rt) ∈ wR) (hd : y.cls = cls ∧ y.cls ≠ "java/lang/invoke/MethodHandle" ∧ y.cls ≠ "java/lang/invoke/VarHandle" ∧ (parseMethodDescriptor y.desc).map (fun d => d.parameters.length) = some vs.length) (hR : f + 1 ≤ (g_R X).frames ∧ 8 + (mL + 11) + c ≤ (g_R X).locals) (hdg : decode cc pc = .ok (.invokestatic idx, 3)) (hst0 : st0 = vs.reverse ++ rest) (hst : (rest.map fun v => v.category).sum ≤ 8)
    (kk : ∀ r : Int32, post r → gJ X Wd Q k n σ lv (pc + 3) (.int r :: rest)) (hkn : k ≤ (g_R X).cells ∧ n ≤ (g_R X).slots := by exact ⟨Nat.zero_le _, Nat.zero_le _⟩) (hc : cls = RX8 ∨ cls = RJ6 := by first | exact Or.inl rfl | exact Or.inr rfl) : gJ X Wd Q k n σ lv pc st0 := by
  intro H locs ls hW hl
  have hcl : y.cls = RX8 ∨ y.cls = RJ6 := by rw [hd.1]; exact hc
  exact vp_callSi (W.runS (As := vs) (rest := rest) ⟨C.1.1, C.1.2.1, C.1.2.2.2, C.2.1, C.2.2.1⟩ hM (va_cwS vs.length C.2.2.1 (s_wsS (r_ini hcl) k1 k2 k4) rfl rfl rfl hd.2 hR) ⟨fun a U g mk q => ⟨q.1, trivial⟩, fun U hU hW' => ⟨rfl, trivial⟩⟩ rfl rfl (hl.1.trans C.1.2.2.1) hst0 (lv_room hst) hdg hkn) (fun r hr => kk r hr H locs ls hW hl)
section GMATH
variable {X : gT} {S : Type} {Wd : S → Heap → List Loc → Prop} {Q : State → Prop} {k n : Nat} {σ : S} {lv : List (Nat × Value)} {pc : Nat} {rest : List Value} {cc : ByteArray} {nL : Nat} {own : String} {index : Nat}
theorem g_mabs (C : gC X cc nL) (hown : (g_s X).vm.findClass own = some (g_m X).cls) (hlink : (Cond.methodLink own index Lib.Math.abs.name).before (g_a X) (g_s X) = true) (hstat : (Cond.static Lib.Math.abs.name).before (g_a X) (g_s X) = true) (hini : (Cond.initialized "java/lang/Math").before (g_a X) (g_s X) = true) (hcode : (Cond.code Lib.Math.abs.name Lib.Math.abs.code 1 (some .int)).before (g_a X) (g_s X) = true)
    (hframes : 1 ≤ (g_R X).frames) (hlocals : (rest.map fun v => v.category).sum + 13 ≤ (g_R X).locals) (hc : k ≤ (g_R X).cells) (hs : n ≤ (g_R X).slots) {x : Int32} (hdg : decode cc pc = .ok (.invokestatic index, 3))
    (kk : gJ X Wd Q k n σ lv (pc + 3) (.int (if 0 ≤ x then x else 0 - x) :: rest)) : gJ X Wd Q k n σ lv pc (.int x :: rest) := fun H locs ls hW hl => va_mabs C.1 C.2.1 (C.2.2.2.trans (C.2.2.1.symm.trans hl.1.symm)) hown hlink hstat hini hcode hframes hlocals hc hs hdg (kk H locs ls hW hl)
theorem g_mmin (C : gC X cc nL) (hown : (g_s X).vm.findClass own = some (g_m X).cls) (hlink : (Cond.methodLink own index Lib.Math.min.name).before (g_a X) (g_s X) = true) (hstat : (Cond.static Lib.Math.min.name).before (g_a X) (g_s X) = true) (hini : (Cond.initialized "java/lang/Math").before (g_a X) (g_s X) = true) (hcode : (Cond.code Lib.Math.min.name Lib.Math.min.code 2 (some .int)).before (g_a X) (g_s X) = true)
    (hframes : 1 ≤ (g_R X).frames) (hlocals : (rest.map fun v => v.category).sum + 13 ≤ (g_R X).locals) (hc : k ≤ (g_R X).cells) (hs : n ≤ (g_R X).slots) {x y : Int32} (hdg : decode cc pc = .ok (.invokestatic index, 3))
    (kk : gJ X Wd Q k n σ lv (pc + 3) (.int (if y < x then y else x) :: rest)) : gJ X Wd Q k n σ lv pc (.int y :: .int x :: rest) := fun H locs ls hW hl => va_mmin C.1 C.2.1 (C.2.2.2.trans (C.2.2.1.symm.trans hl.1.symm)) hown hlink hstat hini hcode hframes hlocals hc hs hdg (kk H locs ls hW hl)
theorem g_mmax (C : gC X cc nL) (hown : (g_s X).vm.findClass own = some (g_m X).cls) (hlink : (Cond.methodLink own index Lib.Math.max.name).before (g_a X) (g_s X) = true) (hstat : (Cond.static Lib.Math.max.name).before (g_a X) (g_s X) = true) (hini : (Cond.initialized "java/lang/Math").before (g_a X) (g_s X) = true) (hcode : (Cond.code Lib.Math.max.name Lib.Math.max.code 2 (some .int)).before (g_a X) (g_s X) = true)
    (hframes : 1 ≤ (g_R X).frames) (hlocals : (rest.map fun v => v.category).sum + 13 ≤ (g_R X).locals) (hc : k ≤ (g_R X).cells) (hs : n ≤ (g_R X).slots) {x y : Int32} (hdg : decode cc pc = .ok (.invokestatic index, 3))
    (kk : gJ X Wd Q k n σ lv (pc + 3) (.int (if x < y then y else x) :: rest)) : gJ X Wd Q k n σ lv pc (.int y :: .int x :: rest) := fun H locs ls hW hl => va_mmax C.1 C.2.1 (C.2.2.2.trans (C.2.2.1.symm.trans hl.1.symm)) hown hlink hstat hini hcode hframes hlocals hc hs hdg (kk H locs ls hW hl)
theorem g_mmin_long (C : gC X cc nL) (hown : (g_s X).vm.findClass own = some (g_m X).cls) (hlink : (Cond.methodLink own index Lib.MathLoose.min_long.x).before (g_a X) (g_s X) = true) (hstat : (Cond.static Lib.MathLoose.min_long.x).before (g_a X) (g_s X) = true) (hini : (Cond.initialized "java/lang/Math").before (g_a X) (g_s X) = true) (hcode : (Cond.code Lib.MathLoose.min_long.x Lib.MathLoose.min_long.code 4 (some .long)).before (g_a X) (g_s X) = true)
    (hframes : 1 ≤ (g_R X).frames) (hlocals : (rest.map fun v => v.category).sum + 15 ≤ (g_R X).locals) (hc : k ≤ (g_R X).cells) (hs : n ≤ (g_R X).slots) {x y : Int64} (hdg : decode cc pc = .ok (.invokestatic index, 3))
    (kk : gJ X Wd Q k n σ lv (pc + 3) (.long (if y < x then y else x) :: rest)) : gJ X Wd Q k n σ lv pc (.long y :: .long x :: rest) := fun H locs ls hW hl => va_mmin_long C.1 C.2.1 (C.2.2.2.trans (C.2.2.1.symm.trans hl.1.symm)) hown hlink hstat hini hcode hframes hlocals hc hs hdg (kk H locs ls hW hl)
end GMATH
/-! the texts of the reference's words: which one word(k) gives, its length, its signs -/
def rSs (l : Launch) (y : MethodName) (b : ByteArray) (mL : Nat) (f c : Nat) (G : rG) (vs : List Value) (post : Nat → Prop) : Prop :=
  Met l y (rWs y b mL (some (.object "java/lang/String"))) (rRm f c) (va_Pc vs (fun U => ∀ i : Nat, i < 9 → vk_R RX8 (rti i) (rtx i) (G.2.2.2.1 i) U)) (va_Sr post (fun j => .ref (G.2.2.2.1 j))) 0 0 (fun _ => False)
theorem rSs_of {l : Launch} {y : MethodName} {b : ByteArray} {mL : Nat} {f c : Nat} {G : rG} {vs : List Value} {post : Nat → Prop} (hy : plainName y.cls = true) (hyc : y.cls = RX8) (hn : (lg_sl vs).length ≤ mL)
    (body : ∀ (X : gT) (H0 : Heap) (Q : State → Prop), (f ≤ (g_R X).frames ∧ c ≤ (g_R X).locals) → sC X b mL RX8 → (∀ i : Nat, i < 9 → vk_R RX8 (rti i) (rtx i) (G.2.2.2.1 i) (g_s X)) →
      (∀ (j : Nat) (lv : List (Nat × Value)) (pc : Nat), post j → decode b pc = .ok (.areturn, 1) → gJ X (gU H0) Q 0 0 () lv pc [.ref (G.2.2.2.1 j)]) →
      gJ X (gU H0) Q 0 0 () (lv_args 0 vs) 0 []) : rSs l y b mL f c G vs post := by
  refine Met.ofW (cc := b) (maxL := mL) (ret := some (.object "java/lang/String")) hy rfl ?_
  intro p e s m args below meth cd s₁ B hml hv
  obtain ⟨rfl, hT⟩ := hv
  have hts := atoms_spec (ws := rWs y b mL (some (.object "java/lang/String"))) B.pre
  have hown : s.vm.findClass RX8 = some m.cls := by have h := findClass_of_methodNamed B.named; rwa [hyc] at h
  have hl := lv_entry vs (n := mL) hn
  rw [lg_entry_eq]
  refine body (p, l, e, rRm f c, s, m, _, below, meth, cd, mL) s.heap _ ⟨Nat.le_refl _, Nat.le_refl _⟩ ⟨⟨B.exec, B.bytes, rfl, hml⟩, hown, fun w hw => hts w (List.mem_cons_of_mem _ hw), trivial⟩ hT ?_ s.heap [] _ ⟨rfl, rfl⟩ hl
  intro j lv pc hpost hdg H locs ls hW hl
  obtain ⟨rfl, rfl⟩ := hW
  exact W.aret B.exec B.bytes B.returns (Or.inl ⟨_, rfl⟩) (Or.inr ⟨_, rfl⟩) (fun t ht hW' => ⟨j, rfl, hpost, ht⟩) (fun _ h => by cases h) hdg
theorem g_ldcS {X : gT} {S : Type} {Wd : S → Heap → List Loc → Prop} {Q : State → Prop} {k n : Nat} {σ : S} {lv : List (Nat × Value)} {pc : Nat} {rest : List Value} {cc : ByteArray} {nL : Nat} {own tx : String} {index q : Nat} (C : gC X cc nL) (hown : (g_s X).vm.findClass own = some (g_m X).cls) (hZ : vk_R own index tx q (g_s X)) (hdg : decode cc pc = .ok (.ldc index, 2))
    (kk : gJ X Wd Q k n σ lv (pc + 2) (.ref q :: rest)) : gJ X Wd Q k n σ lv pc rest := fun H locs ls hW hl => va_ldcS C.1 C.2.1 hown hZ hdg (kk H locs ls hW hl)
section RTEXT
variable {X : gT} {Q : State → Prop} {σ : RSt} {lv : List (Nat × Value)} {pc : Nat} {rest st0 : List Value} {cc : ByteArray} {nL : Nat} {G : rG} {A : Nat → Prop} {H0 : Heap} {y : MethodName} {b : ByteArray} {mL f c idx : Nat} {vs : List Value}
theorem r_callS0 {post : Nat → Prop} (C : rC X cc nL G A) (hM : rSs (g_l X) y b mL f c G vs post) (k1 : Cond.methodLink RX8 idx y ∈ wR) (k2 : Cond.static y ∈ wR) (k4 : Cond.code y b mL (some (.object "java/lang/String")) ∈ wR)
    (hd : y.cls = RX8 ∧ y.cls ≠ "java/lang/invoke/MethodHandle" ∧ y.cls ≠ "java/lang/invoke/VarHandle" ∧ (parseMethodDescriptor y.desc).map (fun d => d.parameters.length) = some vs.length) (hR : f + 1 ≤ (g_R X).frames ∧ 8 + (mL + 11) + c ≤ (g_R X).locals) (hdg : decode cc pc = .ok (.invokestatic idx, 3)) (hst0 : st0 = vs.reverse ++ rest) (hst : (rest.map fun v => v.category).sum ≤ 8)
    (kk : ∀ j : Nat, post j → gJ X (rWd G A H0) Q 0 0 σ lv (pc + 3) (.ref (G.2.2.2.1 j) :: rest)) : gJ X (rWd G A H0) Q 0 0 σ lv pc st0 := by
  intro H locs ls hW hl
  exact va_csr (W.runS (As := vs) (rest := rest) ⟨C.1.1, C.1.2.1, C.1.2.2.2, C.2.1, C.2.2.1⟩ hM (va_cwS vs.length C.2.2.1 (s_wsS (r_ini (Or.inl hd.1)) k1 k2 k4) rfl rfl rfl hd.2 hR) ⟨fun a U g mk q => ⟨q.1, fun i hi => vk_R.same (u := U) (U := U.calling g mk a) rfl (q.2 i hi)⟩, fun U hU hW' => ⟨rfl, fun i hi => (C.2.2.2.2.2.2 i hi).warm hW'⟩⟩ rfl rfl (hl.1.trans C.1.2.2.1) hst0 (lv_room hst) hdg ⟨Nat.zero_le _, Nat.zero_le _⟩) (fun j hj => kk j hj H locs ls hW hl)
theorem r_fact (C : rC X cc nL G A) (hsz : H0 = (g_s X).heap) {i : Nat} (hi : i < 9) {H : Heap} {locs : List Loc} (hW : rWd G A H0 σ H locs) : (∃ cellB : Cell, H[G.2.2.2.1 i]? = some cellB ∧ cellB.vm.isStatics = false ∧ (g_s X).vm.findClass RJ0 = some cellB.cls) ∧ ∀ U : State, U.heap = H → (g_s X).WarmedH U.vm → jF (G.2.2.2.1 i) (G.2.2.2.2 i) (rtb.getD i []) A U := by
  have h0 := (C.2.2.2.2.2.1 i hi).kept (hsz ▸ hW.2.2).2.1
  refine ⟨?_, fun U hU hW' => ?_⟩
  · obtain ⟨cell, h1, h2, h3, -⟩ := h0.1
    exact ⟨cell, h1, h2, h3⟩
  · show jS _ _ _ _ U U.heap
    rw [hU]
    exact h0.moved hW'.alike
theorem r_wsJ {y : MethodName} {b : ByteArray} {mL : Nat} {rt : FieldType} (k1 : Cond.methodLink RX8 idx y ∈ wR) (k2 : Cond.instanceMethod y ∈ wSl) (k3 : Cond.selects RJ0 y y ∈ wSl) (k4 : Cond.code y b mL (some rt) ∈ wSl) : GoodIn wR (wsV RX8 idx RJ0 y (.code y b mL (some rt) :: wSl)) := by
  refine f_ws (fun w hw => ?_) (fun w hw => ?_) kR_good
  · rcases List.mem_cons.mp hw with rfl | hw
    · exact kR_good _ (kR_S _ k4)
    · exact kR_good _ (kR_S _ hw)
  · simp only [List.mem_cons, List.not_mem_nil, or_false] at hw
    rcases hw with rfl | rfl | rfl | rfl
    · exact k1
    · exact kR_S _ k2
    · exact kR_S _ k3
    · exact kR_S _ (wSl_at 0 rfl)
theorem r_sC (C : rC X cc nL G A) : fC X cc nL RX8 wR := ⟨C.1, C.2.1, C.2.2.1, trivial⟩
theorem r_slen {i : Nat} (C : rC X cc nL G A) (hsz : H0 = (g_s X).heap) (hi : i < 9) (k1 : Cond.methodLink RX8 177 yJ0_length_8abf5 ∈ wR) (hR : 2 ≤ (g_R X).frames ∧ 40 ≤ (g_R X).locals) (hdg : decode cc pc = .ok (.invokevirtual 177, 3)) (hst : (rest.map fun v => v.category).sum ≤ 8)
    (kk : gJ X (rWd G A H0) Q 0 0 σ lv (pc + 3) (.int (nI (rtb.getD i []).length) :: rest)) : gJ X (rWd G A H0) Q 0 0 σ lv pc (.ref (G.2.2.2.1 i) :: rest) :=
  g_callFV (vs := []) (cls := RJ0) (r_sC C) (cJ_length (g_l X) _ (G.2.2.2.2 i) (rtb.getD i []) A (fun r => r = nI (rtb.getD i []).length) rfl) (r_wsJ k1 (wSl_at 26 rfl) (wSl_at 27 rfl) (wSl_at 1 rfl)) (by decide +kernel) ⟨hR.1, hR.2⟩ ⟨Nat.zero_le _, Nat.zero_le _⟩ jS.blind (fun H locs hW => r_fact C hsz hi hW) hdg rfl hst (fun r hr => hr ▸ kk)
theorem hdJ_charAt : yJ0_charAt_5068e.cls = RJ0 ∧ yJ0_charAt_5068e.cls ≠ "java/lang/invoke/MethodHandle" ∧ yJ0_charAt_5068e.cls ≠ "java/lang/invoke/VarHandle" ∧ (parseMethodDescriptor yJ0_charAt_5068e.desc).map (fun d => d.parameters.length) = some 1 := by decide +kernel
theorem rtb_small : ∀ i : Nat, i < 9 → (rtb.getD i []).length < 2 ^ 31 := by decide
theorem r_sat {i : Nat} {x : Int32} (C : rC X cc nL G A) (hsz : H0 = (g_s X).heap) (hi : i < 9) (h0 : ¬ x < 0) (h1 : x < nI (rtb.getD i []).length) (k1 : Cond.methodLink RX8 183 yJ0_charAt_5068e ∈ wR) (hR : 4 ≤ (g_R X).frames ∧ 85 ≤ (g_R X).locals) (hdg : decode cc pc = .ok (.invokevirtual 183, 3)) (hst : (rest.map fun v => v.category).sum ≤ 8)
    (kk : gJ X (rWd G A H0) Q 0 0 σ lv (pc + 3) (.int (jAt (rtb.getD i []) x) :: rest)) : gJ X (rWd G A H0) Q 0 0 σ lv pc (.int x :: .ref (G.2.2.2.1 i) :: rest) :=
  g_callFV (vs := [.int x]) (cls := RJ0) (r_sC C) (cJ_charAt (g_l X) _ (G.2.2.2.2 i) (rtb.getD i []) A x (rtb_small i hi) h0 h1 (fun r => r = jAt (rtb.getD i []) x) rfl) (r_wsJ k1 (wSl_at 28 rfl) (wSl_at 29 rfl) (wSl_at 9 rfl)) hdJ_charAt ⟨hR.1, hR.2⟩ ⟨Nat.zero_le _, Nat.zero_le _⟩ jS.blind (fun H locs hW => r_fact C hsz hi hW) hdg rfl hst (fun r hr => hr ▸ kk)
end RTEXT

