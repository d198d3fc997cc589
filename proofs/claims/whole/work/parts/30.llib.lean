/-! the law: its words, its world, its calls -/
def wLl : List Cond := [Cond.classLink RL 13 "java/lang/IndexOutOfBoundsException",
  Cond.classLink RL 15 "java/lang/IllegalArgumentException",
  Cond.classLink RL 17 "java/lang/UnsupportedOperationException",
  Cond.methodLink RL 7 yX7_lift,
  Cond.instanceMethod yX7_lift,
  Cond.selects RX7 yX7_lift yX7_lift,
  Cond.codeWith yL_lift cL_lift 8 (some .int) [(0, 16, 19, 13), (0, 16, 23, 15), (0, 16, 27, 17)],
  Cond.methodLink RL 19 yX7_slope,
  Cond.instanceMethod yX7_slope,
  Cond.selects RX7 yX7_slope yX7_slope,
  Cond.codeWith yL_slope cL_slope 8 (some .int) [(0, 16, 19, 13), (0, 16, 23, 15), (0, 16, 27, 17)],
  Cond.classLink RL 26 "java/lang/IllegalStateException",
  Cond.methodLink RL 22 yX7_rule,
  Cond.instanceMethod yX7_rule,
  Cond.selects RX7 yX7_rule yX7_rule,
  Cond.codeWith yL_rule cL_rule 4 (some .int) [(0, 9, 12, 13), (0, 9, 15, 15), (0, 9, 18, 26)],
  Cond.methodLink RL 28 yX7_unrule,
  Cond.instanceMethod yX7_unrule,
  Cond.selects RX7 yX7_unrule yX7_unrule,
  Cond.codeWith yL_unrule cL_unrule 4 (some .int) [(0, 16, 19, 13)],
  Cond.methodLink RL 32 yX7_open,
  Cond.instanceMethod yX7_open,
  Cond.selects RX7 yX7_open yX7_open,
  Cond.codeWith yL_open cL_open 4 (some .int) [(0, 16, 19, 13)],
  Cond.methodLink RL 35 yX7_runs,
  Cond.instanceMethod yX7_runs,
  Cond.selects RX7 yX7_runs yX7_runs,
  Cond.codeWith yL_runs cL_runs 4 (some .int) [(0, 16, 19, 13)],
  Cond.methodLink RL 38 yX7_wind,
  Cond.instanceMethod yX7_wind,
  Cond.selects RX7 yX7_wind yX7_wind,
  Cond.codeWith yL_wind cL_wind 3 (some .int) [(0, 5, 8, 15)],
  Cond.methodLink RL 42 yX7_stop,
  Cond.instanceMethod yX7_stop,
  Cond.selects RX7 yX7_stop yX7_stop,
  Cond.codeWith yL_stop cL_stop 5 (some .int) [(0, 17, 20, 13)],
  Cond.methodLink RL 46 yX7_group,
  Cond.instanceMethod yX7_group,
  Cond.selects RX7 yX7_group yX7_group,
  Cond.codeWith yL_group cL_group 6 (some .int) [(0, 12, 15, 13), (0, 12, 19, 15), (0, 12, 23, 17)],
  Cond.methodLink RL 50 yX7_step,
  Cond.instanceMethod yX7_step,
  Cond.selects RX7 yX7_step yX7_step,
  Cond.codeWith yL_step cL_step 4 (some .int) [(0, 9, 12, 15)],
  Cond.classLink RL 57 "java/util/NoSuchElementException",
  Cond.methodLink RL 53 yX7_look,
  Cond.instanceMethod yX7_look,
  Cond.selects RX7 yX7_look yX7_look,
  Cond.codeWith yL_look cL_look 5 (some .int) [(0, 10, 13, 13), (0, 10, 17, 57)],
  Cond.methodLink RL 59 yX7_row,
  Cond.instanceMethod yX7_row,
  Cond.selects RX7 yX7_row yX7_row,
  Cond.codeWith yL_row cL_row 5 (some .int) [(0, 10, 13, 13)],
  Cond.methodLink RL 62 yX7_snow,
  Cond.instanceMethod yX7_snow,
  Cond.selects RX7 yX7_snow yX7_snow,
  Cond.codeWith yL_snow cL_snow 6 (some .int) [(0, 12, 15, 13), (0, 12, 19, 15)],
  Cond.methodLink RL 66 yX7_melt,
  Cond.instanceMethod yX7_melt,
  Cond.selects RX7 yX7_melt yX7_melt,
  Cond.codeWith yL_melt cL_melt 5 (some .int) [(0, 10, 13, 13), (0, 10, 17, 15)],
  Cond.methodLink RL 69 yX7_push,
  Cond.instanceMethod yX7_push,
  Cond.selects RX7 yX7_push yX7_push,
  Cond.codeWith yL_push cL_push 4 (some .int) [(0, 9, 12, 13)],
  Cond.methodLink RL 72 yX7_cell,
  Cond.instanceMethod yX7_cell,
  Cond.selects RX7 yX7_cell yX7_cell,
  Cond.codeWith yL_cell cL_cell 5 (some .int) [(0, 10, 13, 13), (0, 10, 17, 57)],
  Cond.methodLink RL 75 yX7_link,
  Cond.instanceMethod yX7_link,
  Cond.selects RX7 yX7_link yX7_link,
  Cond.codeWith yL_link cL_link 6 (some .int) [(0, 12, 15, 13), (0, 12, 19, 15), (0, 12, 23, 17)],
  Cond.methodLink RL 78 yX7_want,
  Cond.instanceMethod yX7_want,
  Cond.selects RX7 yX7_want yX7_want,
  Cond.codeWith yL_want cL_want 4 (some .int) [(0, 6, 9, 13), (0, 6, 12, 15)],
  Cond.methodLink RL 82 yX7_price,
  Cond.instanceMethod yX7_price,
  Cond.selects RX7 yX7_price yX7_price,
  Cond.codeWith yL_price cL_price 4 (some .int) [(0, 6, 9, 13), (0, 6, 12, 15)],
  Cond.methodLink RL 85 yX7_judge,
  Cond.instanceMethod yX7_judge,
  Cond.selects RX7 yX7_judge yX7_judge,
  Cond.codeWith yL_judge cL_judge 3 (some .int) [(0, 7, 10, 26)],
  Cond.classLink RL 8 RX7,
  Cond.instantiable RX7 16,
  Cond.classLink RL 90 RX8,
  Cond.instantiable RX8 49,
  Cond.methodLink RL 89 yX7_init,
  Cond.instanceMethod yX7_init,
  Cond.methodLink RL 92 yX8_init,
  Cond.instanceMethod yX8_init,
  Cond.methodLink RL 93 yX7_feed,
  Cond.instanceMethod yX7_feed,
  Cond.selects RX7 yX7_feed yX7_feed,
  Cond.methodLink RL 96 yX8_feed,
  Cond.instanceMethod yX8_feed,
  Cond.selects RX8 yX8_feed yX8_feed,
  Cond.methodLink RL 97 yX7_end,
  Cond.instanceMethod yX7_end,
  Cond.selects RX7 yX7_end yX7_end,
  Cond.methodLink RL 100 yX8_end,
  Cond.instanceMethod yX8_end,
  Cond.selects RX8 yX8_end yX8_end,
  Cond.methodLink RL 101 yL_lift,
  Cond.static yL_lift,
  Cond.initialized RL,
  Cond.methodLink RL 106 yX8_lift,
  Cond.instanceMethod yX8_lift,
  Cond.selects RX8 yX8_lift yX8_lift,
  Cond.methodLink RL 107 yX8_thrown,
  Cond.instanceMethod yX8_thrown,
  Cond.selects RX8 yX8_thrown yX8_thrown,
  Cond.methodLink RL 111 yL_slope,
  Cond.static yL_slope,
  Cond.methodLink RL 113 yX8_slope,
  Cond.instanceMethod yX8_slope,
  Cond.selects RX8 yX8_slope yX8_slope,
  Cond.methodLink RL 114 yL_rule,
  Cond.static yL_rule,
  Cond.methodLink RL 117 yX8_rule,
  Cond.instanceMethod yX8_rule,
  Cond.selects RX8 yX8_rule yX8_rule,
  Cond.methodLink RL 118 yL_unrule,
  Cond.static yL_unrule,
  Cond.methodLink RL 120 yX8_unrule,
  Cond.instanceMethod yX8_unrule,
  Cond.selects RX8 yX8_unrule yX8_unrule,
  Cond.methodLink RL 121 yX7_fault,
  Cond.instanceMethod yX7_fault,
  Cond.selects RX7 yX7_fault yX7_fault,
  Cond.methodLink RL 124 yX8_fault,
  Cond.instanceMethod yX8_fault,
  Cond.selects RX8 yX8_fault yX8_fault,
  Cond.methodLink RL 125 yL_open,
  Cond.static yL_open,
  Cond.methodLink RL 127 yX8_open,
  Cond.instanceMethod yX8_open,
  Cond.selects RX8 yX8_open yX8_open,
  Cond.methodLink RL 128 yL_runs,
  Cond.static yL_runs,
  Cond.methodLink RL 130 yX8_runs,
  Cond.instanceMethod yX8_runs,
  Cond.selects RX8 yX8_runs yX8_runs,
  Cond.methodLink RL 131 yL_wind,
  Cond.static yL_wind,
  Cond.methodLink RL 134 yX8_wind,
  Cond.instanceMethod yX8_wind,
  Cond.selects RX8 yX8_wind yX8_wind,
  Cond.methodLink RL 135 yL_stop,
  Cond.static yL_stop,
  Cond.methodLink RL 138 yX8_stop,
  Cond.instanceMethod yX8_stop,
  Cond.selects RX8 yX8_stop yX8_stop,
  Cond.methodLink RL 139 yL_group,
  Cond.static yL_group,
  Cond.methodLink RL 142 yX8_group,
  Cond.instanceMethod yX8_group,
  Cond.selects RX8 yX8_group yX8_group,
  Cond.methodLink RL 143 yL_step,
  Cond.static yL_step,
  Cond.methodLink RL 145 yX8_step,
  Cond.instanceMethod yX8_step,
  Cond.selects RX8 yX8_step yX8_step,
  Cond.methodLink RL 146 yL_look,
  Cond.static yL_look,
  Cond.methodLink RL 149 yX8_look,
  Cond.instanceMethod yX8_look,
  Cond.selects RX8 yX8_look yX8_look,
  Cond.methodLink RL 150 yL_row,
  Cond.static yL_row,
  Cond.methodLink RL 152 yX8_row,
  Cond.instanceMethod yX8_row,
  Cond.selects RX8 yX8_row yX8_row,
  Cond.methodLink RL 153 yX7_people,
  Cond.instanceMethod yX7_people,
  Cond.selects RX7 yX7_people yX7_people,
  Cond.methodLink RL 156 yX8_people,
  Cond.instanceMethod yX8_people,
  Cond.selects RX8 yX8_people yX8_people,
  Cond.methodLink RL 157 yL_snow,
  Cond.static yL_snow,
  Cond.methodLink RL 160 yX8_snow,
  Cond.instanceMethod yX8_snow,
  Cond.selects RX8 yX8_snow yX8_snow,
  Cond.methodLink RL 161 yL_melt,
  Cond.static yL_melt,
  Cond.methodLink RL 163 yX8_melt,
  Cond.instanceMethod yX8_melt,
  Cond.selects RX8 yX8_melt yX8_melt,
  Cond.methodLink RL 164 yL_push,
  Cond.static yL_push,
  Cond.methodLink RL 166 yX8_push,
  Cond.instanceMethod yX8_push,
  Cond.selects RX8 yX8_push yX8_push,
  Cond.methodLink RL 167 yL_cell,
  Cond.static yL_cell,
  Cond.methodLink RL 169 yX8_cell,
  Cond.instanceMethod yX8_cell,
  Cond.selects RX8 yX8_cell yX8_cell,
  Cond.methodLink RL 170 yL_link,
  Cond.static yL_link,
  Cond.methodLink RL 172 yX8_link,
  Cond.instanceMethod yX8_link,
  Cond.selects RX8 yX8_link yX8_link,
  Cond.methodLink RL 173 yL_want,
  Cond.static yL_want,
  Cond.methodLink RL 176 yX8_want,
  Cond.instanceMethod yX8_want,
  Cond.selects RX8 yX8_want yX8_want,
  Cond.methodLink RL 177 yX7_least,
  Cond.instanceMethod yX7_least,
  Cond.selects RX7 yX7_least yX7_least,
  Cond.methodLink RL 180 yX8_least,
  Cond.instanceMethod yX8_least,
  Cond.selects RX8 yX8_least yX8_least,
  Cond.methodLink RL 181 yL_price,
  Cond.static yL_price,
  Cond.methodLink RL 183 yX8_price,
  Cond.instanceMethod yX8_price,
  Cond.selects RX8 yX8_price yX8_price,
  Cond.methodLink RL 184 yL_judge,
  Cond.static yL_judge,
  Cond.methodLink RL 187 yX8_judge,
  Cond.instanceMethod yX8_judge,
  Cond.selects RX8 yX8_judge yX8_judge,
  Cond.methodLink RL 188 yX7_count,
  Cond.instanceMethod yX7_count,
  Cond.selects RX7 yX7_count yX7_count,
  Cond.methodLink RL 192 yX8_count,
  Cond.instanceMethod yX8_count,
  Cond.selects RX8 yX8_count yX8_count]
def wL : List Cond := wLl ++ (wC ++ wR)
theorem kL_0 : Cond.classLink RL 13 "java/lang/IndexOutOfBoundsException" ∈ wL := List.mem_append_left _ (List.mem_of_getElem? (i := 0) rfl)
theorem kL_1 : Cond.classLink RL 15 "java/lang/IllegalArgumentException" ∈ wL := List.mem_append_left _ (List.mem_of_getElem? (i := 1) rfl)
theorem kL_2 : Cond.classLink RL 17 "java/lang/UnsupportedOperationException" ∈ wL := List.mem_append_left _ (List.mem_of_getElem? (i := 2) rfl)
theorem kL_3 : Cond.methodLink RL 7 yX7_lift ∈ wL := List.mem_append_left _ (List.mem_of_getElem? (i := 3) rfl)
theorem kL_4 : Cond.instanceMethod yX7_lift ∈ wL := List.mem_append_left _ (List.mem_of_getElem? (i := 4) rfl)
theorem kL_5 : Cond.selects RX7 yX7_lift yX7_lift ∈ wL := List.mem_append_left _ (List.mem_of_getElem? (i := 5) rfl)
theorem kL_6 : Cond.codeWith yL_lift cL_lift 8 (some .int) [(0, 16, 19, 13), (0, 16, 23, 15), (0, 16, 27, 17)] ∈ wL := List.mem_append_left _ (List.mem_of_getElem? (i := 6) rfl)
theorem kL_7 : Cond.methodLink RL 19 yX7_slope ∈ wL := List.mem_append_left _ (List.mem_of_getElem? (i := 7) rfl)
theorem kL_8 : Cond.instanceMethod yX7_slope ∈ wL := List.mem_append_left _ (List.mem_of_getElem? (i := 8) rfl)
theorem kL_9 : Cond.selects RX7 yX7_slope yX7_slope ∈ wL := List.mem_append_left _ (List.mem_of_getElem? (i := 9) rfl)
theorem kL_10 : Cond.codeWith yL_slope cL_slope 8 (some .int) [(0, 16, 19, 13), (0, 16, 23, 15), (0, 16, 27, 17)] ∈ wL := List.mem_append_left _ (List.mem_of_getElem? (i := 10) rfl)
theorem kL_11 : Cond.classLink RL 26 "java/lang/IllegalStateException" ∈ wL := List.mem_append_left _ (List.mem_of_getElem? (i := 11) rfl)
theorem kL_12 : Cond.methodLink RL 22 yX7_rule ∈ wL := List.mem_append_left _ (List.mem_of_getElem? (i := 12) rfl)
theorem kL_13 : Cond.instanceMethod yX7_rule ∈ wL := List.mem_append_left _ (List.mem_of_getElem? (i := 13) rfl)
theorem kL_14 : Cond.selects RX7 yX7_rule yX7_rule ∈ wL := List.mem_append_left _ (List.mem_of_getElem? (i := 14) rfl)
theorem kL_15 : Cond.codeWith yL_rule cL_rule 4 (some .int) [(0, 9, 12, 13), (0, 9, 15, 15), (0, 9, 18, 26)] ∈ wL := List.mem_append_left _ (List.mem_of_getElem? (i := 15) rfl)
theorem kL_16 : Cond.methodLink RL 28 yX7_unrule ∈ wL := List.mem_append_left _ (List.mem_of_getElem? (i := 16) rfl)
theorem kL_17 : Cond.instanceMethod yX7_unrule ∈ wL := List.mem_append_left _ (List.mem_of_getElem? (i := 17) rfl)
theorem kL_18 : Cond.selects RX7 yX7_unrule yX7_unrule ∈ wL := List.mem_append_left _ (List.mem_of_getElem? (i := 18) rfl)
theorem kL_19 : Cond.codeWith yL_unrule cL_unrule 4 (some .int) [(0, 16, 19, 13)] ∈ wL := List.mem_append_left _ (List.mem_of_getElem? (i := 19) rfl)
theorem kL_20 : Cond.methodLink RL 32 yX7_open ∈ wL := List.mem_append_left _ (List.mem_of_getElem? (i := 20) rfl)
theorem kL_21 : Cond.instanceMethod yX7_open ∈ wL := List.mem_append_left _ (List.mem_of_getElem? (i := 21) rfl)
theorem kL_22 : Cond.selects RX7 yX7_open yX7_open ∈ wL := List.mem_append_left _ (List.mem_of_getElem? (i := 22) rfl)
theorem kL_23 : Cond.codeWith yL_open cL_open 4 (some .int) [(0, 16, 19, 13)] ∈ wL := List.mem_append_left _ (List.mem_of_getElem? (i := 23) rfl)
theorem kL_24 : Cond.methodLink RL 35 yX7_runs ∈ wL := List.mem_append_left _ (List.mem_of_getElem? (i := 24) rfl)
theorem kL_25 : Cond.instanceMethod yX7_runs ∈ wL := List.mem_append_left _ (List.mem_of_getElem? (i := 25) rfl)
theorem kL_26 : Cond.selects RX7 yX7_runs yX7_runs ∈ wL := List.mem_append_left _ (List.mem_of_getElem? (i := 26) rfl)
theorem kL_27 : Cond.codeWith yL_runs cL_runs 4 (some .int) [(0, 16, 19, 13)] ∈ wL := List.mem_append_left _ (List.mem_of_getElem? (i := 27) rfl)
theorem kL_28 : Cond.methodLink RL 38 yX7_wind ∈ wL := List.mem_append_left _ (List.mem_of_getElem? (i := 28) rfl)
theorem kL_29 : Cond.instanceMethod yX7_wind ∈ wL := List.mem_append_left _ (List.mem_of_getElem? (i := 29) rfl)
theorem kL_30 : Cond.selects RX7 yX7_wind yX7_wind ∈ wL := List.mem_append_left _ (List.mem_of_getElem? (i := 30) rfl)
theorem kL_31 : Cond.codeWith yL_wind cL_wind 3 (some .int) [(0, 5, 8, 15)] ∈ wL := List.mem_append_left _ (List.mem_of_getElem? (i := 31) rfl)
theorem kL_32 : Cond.methodLink RL 42 yX7_stop ∈ wL := List.mem_append_left _ (List.mem_of_getElem? (i := 32) rfl)
theorem kL_33 : Cond.instanceMethod yX7_stop ∈ wL := List.mem_append_left _ (List.mem_of_getElem? (i := 33) rfl)
theorem kL_34 : Cond.selects RX7 yX7_stop yX7_stop ∈ wL := List.mem_append_left _ (List.mem_of_getElem? (i := 34) rfl)
theorem kL_35 : Cond.codeWith yL_stop cL_stop 5 (some .int) [(0, 17, 20, 13)] ∈ wL := List.mem_append_left _ (List.mem_of_getElem? (i := 35) rfl)
theorem kL_36 : Cond.methodLink RL 46 yX7_group ∈ wL := List.mem_append_left _ (List.mem_of_getElem? (i := 36) rfl)
theorem kL_37 : Cond.instanceMethod yX7_group ∈ wL := List.mem_append_left _ (List.mem_of_getElem? (i := 37) rfl)
theorem kL_38 : Cond.selects RX7 yX7_group yX7_group ∈ wL := List.mem_append_left _ (List.mem_of_getElem? (i := 38) rfl)
theorem kL_39 : Cond.codeWith yL_group cL_group 6 (some .int) [(0, 12, 15, 13), (0, 12, 19, 15), (0, 12, 23, 17)] ∈ wL := List.mem_append_left _ (List.mem_of_getElem? (i := 39) rfl)
theorem kL_40 : Cond.methodLink RL 50 yX7_step ∈ wL := List.mem_append_left _ (List.mem_of_getElem? (i := 40) rfl)
theorem kL_41 : Cond.instanceMethod yX7_step ∈ wL := List.mem_append_left _ (List.mem_of_getElem? (i := 41) rfl)
theorem kL_42 : Cond.selects RX7 yX7_step yX7_step ∈ wL := List.mem_append_left _ (List.mem_of_getElem? (i := 42) rfl)
theorem kL_43 : Cond.codeWith yL_step cL_step 4 (some .int) [(0, 9, 12, 15)] ∈ wL := List.mem_append_left _ (List.mem_of_getElem? (i := 43) rfl)
theorem kL_44 : Cond.classLink RL 57 "java/util/NoSuchElementException" ∈ wL := List.mem_append_left _ (List.mem_of_getElem? (i := 44) rfl)
theorem kL_45 : Cond.methodLink RL 53 yX7_look ∈ wL := List.mem_append_left _ (List.mem_of_getElem? (i := 45) rfl)
theorem kL_46 : Cond.instanceMethod yX7_look ∈ wL := List.mem_append_left _ (List.mem_of_getElem? (i := 46) rfl)
theorem kL_47 : Cond.selects RX7 yX7_look yX7_look ∈ wL := List.mem_append_left _ (List.mem_of_getElem? (i := 47) rfl)
theorem kL_48 : Cond.codeWith yL_look cL_look 5 (some .int) [(0, 10, 13, 13), (0, 10, 17, 57)] ∈ wL := List.mem_append_left _ (List.mem_of_getElem? (i := 48) rfl)
theorem kL_49 : Cond.methodLink RL 59 yX7_row ∈ wL := List.mem_append_left _ (List.mem_of_getElem? (i := 49) rfl)
theorem kL_50 : Cond.instanceMethod yX7_row ∈ wL := List.mem_append_left _ (List.mem_of_getElem? (i := 50) rfl)
theorem kL_51 : Cond.selects RX7 yX7_row yX7_row ∈ wL := List.mem_append_left _ (List.mem_of_getElem? (i := 51) rfl)
theorem kL_52 : Cond.codeWith yL_row cL_row 5 (some .int) [(0, 10, 13, 13)] ∈ wL := List.mem_append_left _ (List.mem_of_getElem? (i := 52) rfl)
theorem kL_53 : Cond.methodLink RL 62 yX7_snow ∈ wL := List.mem_append_left _ (List.mem_of_getElem? (i := 53) rfl)
theorem kL_54 : Cond.instanceMethod yX7_snow ∈ wL := List.mem_append_left _ (List.mem_of_getElem? (i := 54) rfl)
theorem kL_55 : Cond.selects RX7 yX7_snow yX7_snow ∈ wL := List.mem_append_left _ (List.mem_of_getElem? (i := 55) rfl)
theorem kL_56 : Cond.codeWith yL_snow cL_snow 6 (some .int) [(0, 12, 15, 13), (0, 12, 19, 15)] ∈ wL := List.mem_append_left _ (List.mem_of_getElem? (i := 56) rfl)
theorem kL_57 : Cond.methodLink RL 66 yX7_melt ∈ wL := List.mem_append_left _ (List.mem_of_getElem? (i := 57) rfl)
theorem kL_58 : Cond.instanceMethod yX7_melt ∈ wL := List.mem_append_left _ (List.mem_of_getElem? (i := 58) rfl)
theorem kL_59 : Cond.selects RX7 yX7_melt yX7_melt ∈ wL := List.mem_append_left _ (List.mem_of_getElem? (i := 59) rfl)
theorem kL_60 : Cond.codeWith yL_melt cL_melt 5 (some .int) [(0, 10, 13, 13), (0, 10, 17, 15)] ∈ wL := List.mem_append_left _ (List.mem_of_getElem? (i := 60) rfl)
theorem kL_61 : Cond.methodLink RL 69 yX7_push ∈ wL := List.mem_append_left _ (List.mem_of_getElem? (i := 61) rfl)
theorem kL_62 : Cond.instanceMethod yX7_push ∈ wL := List.mem_append_left _ (List.mem_of_getElem? (i := 62) rfl)
theorem kL_63 : Cond.selects RX7 yX7_push yX7_push ∈ wL := List.mem_append_left _ (List.mem_of_getElem? (i := 63) rfl)
theorem kL_64 : Cond.codeWith yL_push cL_push 4 (some .int) [(0, 9, 12, 13)] ∈ wL := List.mem_append_left _ (List.mem_of_getElem? (i := 64) rfl)
theorem kL_65 : Cond.methodLink RL 72 yX7_cell ∈ wL := List.mem_append_left _ (List.mem_of_getElem? (i := 65) rfl)
theorem kL_66 : Cond.instanceMethod yX7_cell ∈ wL := List.mem_append_left _ (List.mem_of_getElem? (i := 66) rfl)
theorem kL_67 : Cond.selects RX7 yX7_cell yX7_cell ∈ wL := List.mem_append_left _ (List.mem_of_getElem? (i := 67) rfl)
theorem kL_68 : Cond.codeWith yL_cell cL_cell 5 (some .int) [(0, 10, 13, 13), (0, 10, 17, 57)] ∈ wL := List.mem_append_left _ (List.mem_of_getElem? (i := 68) rfl)
theorem kL_69 : Cond.methodLink RL 75 yX7_link ∈ wL := List.mem_append_left _ (List.mem_of_getElem? (i := 69) rfl)
theorem kL_70 : Cond.instanceMethod yX7_link ∈ wL := List.mem_append_left _ (List.mem_of_getElem? (i := 70) rfl)
theorem kL_71 : Cond.selects RX7 yX7_link yX7_link ∈ wL := List.mem_append_left _ (List.mem_of_getElem? (i := 71) rfl)
theorem kL_72 : Cond.codeWith yL_link cL_link 6 (some .int) [(0, 12, 15, 13), (0, 12, 19, 15), (0, 12, 23, 17)] ∈ wL := List.mem_append_left _ (List.mem_of_getElem? (i := 72) rfl)
theorem kL_73 : Cond.methodLink RL 78 yX7_want ∈ wL := List.mem_append_left _ (List.mem_of_getElem? (i := 73) rfl)
theorem kL_74 : Cond.instanceMethod yX7_want ∈ wL := List.mem_append_left _ (List.mem_of_getElem? (i := 74) rfl)
theorem kL_75 : Cond.selects RX7 yX7_want yX7_want ∈ wL := List.mem_append_left _ (List.mem_of_getElem? (i := 75) rfl)
theorem kL_76 : Cond.codeWith yL_want cL_want 4 (some .int) [(0, 6, 9, 13), (0, 6, 12, 15)] ∈ wL := List.mem_append_left _ (List.mem_of_getElem? (i := 76) rfl)
theorem kL_77 : Cond.methodLink RL 82 yX7_price ∈ wL := List.mem_append_left _ (List.mem_of_getElem? (i := 77) rfl)
theorem kL_78 : Cond.instanceMethod yX7_price ∈ wL := List.mem_append_left _ (List.mem_of_getElem? (i := 78) rfl)
theorem kL_79 : Cond.selects RX7 yX7_price yX7_price ∈ wL := List.mem_append_left _ (List.mem_of_getElem? (i := 79) rfl)
theorem kL_80 : Cond.codeWith yL_price cL_price 4 (some .int) [(0, 6, 9, 13), (0, 6, 12, 15)] ∈ wL := List.mem_append_left _ (List.mem_of_getElem? (i := 80) rfl)
theorem kL_81 : Cond.methodLink RL 85 yX7_judge ∈ wL := List.mem_append_left _ (List.mem_of_getElem? (i := 81) rfl)
theorem kL_82 : Cond.instanceMethod yX7_judge ∈ wL := List.mem_append_left _ (List.mem_of_getElem? (i := 82) rfl)
theorem kL_83 : Cond.selects RX7 yX7_judge yX7_judge ∈ wL := List.mem_append_left _ (List.mem_of_getElem? (i := 83) rfl)
theorem kL_84 : Cond.codeWith yL_judge cL_judge 3 (some .int) [(0, 7, 10, 26)] ∈ wL := List.mem_append_left _ (List.mem_of_getElem? (i := 84) rfl)
theorem kL_85 : Cond.classLink RL 8 RX7 ∈ wL := List.mem_append_left _ (List.mem_of_getElem? (i := 85) rfl)
theorem kL_86 : Cond.instantiable RX7 16 ∈ wL := List.mem_append_left _ (List.mem_of_getElem? (i := 86) rfl)
theorem kL_87 : Cond.classLink RL 90 RX8 ∈ wL := List.mem_append_left _ (List.mem_of_getElem? (i := 87) rfl)
theorem kL_88 : Cond.instantiable RX8 49 ∈ wL := List.mem_append_left _ (List.mem_of_getElem? (i := 88) rfl)
theorem kL_89 : Cond.methodLink RL 89 yX7_init ∈ wL := List.mem_append_left _ (List.mem_of_getElem? (i := 89) rfl)
theorem kL_90 : Cond.instanceMethod yX7_init ∈ wL := List.mem_append_left _ (List.mem_of_getElem? (i := 90) rfl)
theorem kL_91 : Cond.methodLink RL 92 yX8_init ∈ wL := List.mem_append_left _ (List.mem_of_getElem? (i := 91) rfl)
theorem kL_92 : Cond.instanceMethod yX8_init ∈ wL := List.mem_append_left _ (List.mem_of_getElem? (i := 92) rfl)
theorem kL_93 : Cond.methodLink RL 93 yX7_feed ∈ wL := List.mem_append_left _ (List.mem_of_getElem? (i := 93) rfl)
theorem kL_94 : Cond.instanceMethod yX7_feed ∈ wL := List.mem_append_left _ (List.mem_of_getElem? (i := 94) rfl)
theorem kL_95 : Cond.selects RX7 yX7_feed yX7_feed ∈ wL := List.mem_append_left _ (List.mem_of_getElem? (i := 95) rfl)
theorem kL_96 : Cond.methodLink RL 96 yX8_feed ∈ wL := List.mem_append_left _ (List.mem_of_getElem? (i := 96) rfl)
theorem kL_97 : Cond.instanceMethod yX8_feed ∈ wL := List.mem_append_left _ (List.mem_of_getElem? (i := 97) rfl)
theorem kL_98 : Cond.selects RX8 yX8_feed yX8_feed ∈ wL := List.mem_append_left _ (List.mem_of_getElem? (i := 98) rfl)
theorem kL_99 : Cond.methodLink RL 97 yX7_end ∈ wL := List.mem_append_left _ (List.mem_of_getElem? (i := 99) rfl)
theorem kL_100 : Cond.instanceMethod yX7_end ∈ wL := List.mem_append_left _ (List.mem_of_getElem? (i := 100) rfl)
theorem kL_101 : Cond.selects RX7 yX7_end yX7_end ∈ wL := List.mem_append_left _ (List.mem_of_getElem? (i := 101) rfl)
theorem kL_102 : Cond.methodLink RL 100 yX8_end ∈ wL := List.mem_append_left _ (List.mem_of_getElem? (i := 102) rfl)
theorem kL_103 : Cond.instanceMethod yX8_end ∈ wL := List.mem_append_left _ (List.mem_of_getElem? (i := 103) rfl)
theorem kL_104 : Cond.selects RX8 yX8_end yX8_end ∈ wL := List.mem_append_left _ (List.mem_of_getElem? (i := 104) rfl)
theorem kL_105 : Cond.methodLink RL 101 yL_lift ∈ wL := List.mem_append_left _ (List.mem_of_getElem? (i := 105) rfl)
theorem kL_106 : Cond.static yL_lift ∈ wL := List.mem_append_left _ (List.mem_of_getElem? (i := 106) rfl)
theorem kL_107 : Cond.initialized RL ∈ wL := List.mem_append_left _ (List.mem_of_getElem? (i := 107) rfl)
theorem kL_108 : Cond.methodLink RL 106 yX8_lift ∈ wL := List.mem_append_left _ (List.mem_of_getElem? (i := 108) rfl)
theorem kL_109 : Cond.instanceMethod yX8_lift ∈ wL := List.mem_append_left _ (List.mem_of_getElem? (i := 109) rfl)
theorem kL_110 : Cond.selects RX8 yX8_lift yX8_lift ∈ wL := List.mem_append_left _ (List.mem_of_getElem? (i := 110) rfl)
theorem kL_111 : Cond.methodLink RL 107 yX8_thrown ∈ wL := List.mem_append_left _ (List.mem_of_getElem? (i := 111) rfl)
theorem kL_112 : Cond.instanceMethod yX8_thrown ∈ wL := List.mem_append_left _ (List.mem_of_getElem? (i := 112) rfl)
theorem kL_113 : Cond.selects RX8 yX8_thrown yX8_thrown ∈ wL := List.mem_append_left _ (List.mem_of_getElem? (i := 113) rfl)
theorem kL_114 : Cond.methodLink RL 111 yL_slope ∈ wL := List.mem_append_left _ (List.mem_of_getElem? (i := 114) rfl)
theorem kL_115 : Cond.static yL_slope ∈ wL := List.mem_append_left _ (List.mem_of_getElem? (i := 115) rfl)
theorem kL_116 : Cond.methodLink RL 113 yX8_slope ∈ wL := List.mem_append_left _ (List.mem_of_getElem? (i := 116) rfl)
theorem kL_117 : Cond.instanceMethod yX8_slope ∈ wL := List.mem_append_left _ (List.mem_of_getElem? (i := 117) rfl)
theorem kL_118 : Cond.selects RX8 yX8_slope yX8_slope ∈ wL := List.mem_append_left _ (List.mem_of_getElem? (i := 118) rfl)
theorem kL_119 : Cond.methodLink RL 114 yL_rule ∈ wL := List.mem_append_left _ (List.mem_of_getElem? (i := 119) rfl)
theorem kL_120 : Cond.static yL_rule ∈ wL := List.mem_append_left _ (List.mem_of_getElem? (i := 120) rfl)
theorem kL_121 : Cond.methodLink RL 117 yX8_rule ∈ wL := List.mem_append_left _ (List.mem_of_getElem? (i := 121) rfl)
theorem kL_122 : Cond.instanceMethod yX8_rule ∈ wL := List.mem_append_left _ (List.mem_of_getElem? (i := 122) rfl)
theorem kL_123 : Cond.selects RX8 yX8_rule yX8_rule ∈ wL := List.mem_append_left _ (List.mem_of_getElem? (i := 123) rfl)
theorem kL_124 : Cond.methodLink RL 118 yL_unrule ∈ wL := List.mem_append_left _ (List.mem_of_getElem? (i := 124) rfl)
theorem kL_125 : Cond.static yL_unrule ∈ wL := List.mem_append_left _ (List.mem_of_getElem? (i := 125) rfl)
theorem kL_126 : Cond.methodLink RL 120 yX8_unrule ∈ wL := List.mem_append_left _ (List.mem_of_getElem? (i := 126) rfl)
theorem kL_127 : Cond.instanceMethod yX8_unrule ∈ wL := List.mem_append_left _ (List.mem_of_getElem? (i := 127) rfl)
theorem kL_128 : Cond.selects RX8 yX8_unrule yX8_unrule ∈ wL := List.mem_append_left _ (List.mem_of_getElem? (i := 128) rfl)
theorem kL_129 : Cond.methodLink RL 121 yX7_fault ∈ wL := List.mem_append_left _ (List.mem_of_getElem? (i := 129) rfl)
theorem kL_130 : Cond.instanceMethod yX7_fault ∈ wL := List.mem_append_left _ (List.mem_of_getElem? (i := 130) rfl)
theorem kL_131 : Cond.selects RX7 yX7_fault yX7_fault ∈ wL := List.mem_append_left _ (List.mem_of_getElem? (i := 131) rfl)
theorem kL_132 : Cond.methodLink RL 124 yX8_fault ∈ wL := List.mem_append_left _ (List.mem_of_getElem? (i := 132) rfl)
theorem kL_133 : Cond.instanceMethod yX8_fault ∈ wL := List.mem_append_left _ (List.mem_of_getElem? (i := 133) rfl)
theorem kL_134 : Cond.selects RX8 yX8_fault yX8_fault ∈ wL := List.mem_append_left _ (List.mem_of_getElem? (i := 134) rfl)
theorem kL_135 : Cond.methodLink RL 125 yL_open ∈ wL := List.mem_append_left _ (List.mem_of_getElem? (i := 135) rfl)
theorem kL_136 : Cond.static yL_open ∈ wL := List.mem_append_left _ (List.mem_of_getElem? (i := 136) rfl)
theorem kL_137 : Cond.methodLink RL 127 yX8_open ∈ wL := List.mem_append_left _ (List.mem_of_getElem? (i := 137) rfl)
theorem kL_138 : Cond.instanceMethod yX8_open ∈ wL := List.mem_append_left _ (List.mem_of_getElem? (i := 138) rfl)
theorem kL_139 : Cond.selects RX8 yX8_open yX8_open ∈ wL := List.mem_append_left _ (List.mem_of_getElem? (i := 139) rfl)
theorem kL_140 : Cond.methodLink RL 128 yL_runs ∈ wL := List.mem_append_left _ (List.mem_of_getElem? (i := 140) rfl)
theorem kL_141 : Cond.static yL_runs ∈ wL := List.mem_append_left _ (List.mem_of_getElem? (i := 141) rfl)
theorem kL_142 : Cond.methodLink RL 130 yX8_runs ∈ wL := List.mem_append_left _ (List.mem_of_getElem? (i := 142) rfl)
theorem kL_143 : Cond.instanceMethod yX8_runs ∈ wL := List.mem_append_left _ (List.mem_of_getElem? (i := 143) rfl)
theorem kL_144 : Cond.selects RX8 yX8_runs yX8_runs ∈ wL := List.mem_append_left _ (List.mem_of_getElem? (i := 144) rfl)
theorem kL_145 : Cond.methodLink RL 131 yL_wind ∈ wL := List.mem_append_left _ (List.mem_of_getElem? (i := 145) rfl)
theorem kL_146 : Cond.static yL_wind ∈ wL := List.mem_append_left _ (List.mem_of_getElem? (i := 146) rfl)
theorem kL_147 : Cond.methodLink RL 134 yX8_wind ∈ wL := List.mem_append_left _ (List.mem_of_getElem? (i := 147) rfl)
theorem kL_148 : Cond.instanceMethod yX8_wind ∈ wL := List.mem_append_left _ (List.mem_of_getElem? (i := 148) rfl)
theorem kL_149 : Cond.selects RX8 yX8_wind yX8_wind ∈ wL := List.mem_append_left _ (List.mem_of_getElem? (i := 149) rfl)
theorem kL_150 : Cond.methodLink RL 135 yL_stop ∈ wL := List.mem_append_left _ (List.mem_of_getElem? (i := 150) rfl)
theorem kL_151 : Cond.static yL_stop ∈ wL := List.mem_append_left _ (List.mem_of_getElem? (i := 151) rfl)
theorem kL_152 : Cond.methodLink RL 138 yX8_stop ∈ wL := List.mem_append_left _ (List.mem_of_getElem? (i := 152) rfl)
theorem kL_153 : Cond.instanceMethod yX8_stop ∈ wL := List.mem_append_left _ (List.mem_of_getElem? (i := 153) rfl)
theorem kL_154 : Cond.selects RX8 yX8_stop yX8_stop ∈ wL := List.mem_append_left _ (List.mem_of_getElem? (i := 154) rfl)
theorem kL_155 : Cond.methodLink RL 139 yL_group ∈ wL := List.mem_append_left _ (List.mem_of_getElem? (i := 155) rfl)
theorem kL_156 : Cond.static yL_group ∈ wL := List.mem_append_left _ (List.mem_of_getElem? (i := 156) rfl)
theorem kL_157 : Cond.methodLink RL 142 yX8_group ∈ wL := List.mem_append_left _ (List.mem_of_getElem? (i := 157) rfl)
theorem kL_158 : Cond.instanceMethod yX8_group ∈ wL := List.mem_append_left _ (List.mem_of_getElem? (i := 158) rfl)
theorem kL_159 : Cond.selects RX8 yX8_group yX8_group ∈ wL := List.mem_append_left _ (List.mem_of_getElem? (i := 159) rfl)
theorem kL_160 : Cond.methodLink RL 143 yL_step ∈ wL := List.mem_append_left _ (List.mem_of_getElem? (i := 160) rfl)
theorem kL_161 : Cond.static yL_step ∈ wL := List.mem_append_left _ (List.mem_of_getElem? (i := 161) rfl)
theorem kL_162 : Cond.methodLink RL 145 yX8_step ∈ wL := List.mem_append_left _ (List.mem_of_getElem? (i := 162) rfl)
theorem kL_163 : Cond.instanceMethod yX8_step ∈ wL := List.mem_append_left _ (List.mem_of_getElem? (i := 163) rfl)
theorem kL_164 : Cond.selects RX8 yX8_step yX8_step ∈ wL := List.mem_append_left _ (List.mem_of_getElem? (i := 164) rfl)
theorem kL_165 : Cond.methodLink RL 146 yL_look ∈ wL := List.mem_append_left _ (List.mem_of_getElem? (i := 165) rfl)
theorem kL_166 : Cond.static yL_look ∈ wL := List.mem_append_left _ (List.mem_of_getElem? (i := 166) rfl)
theorem kL_167 : Cond.methodLink RL 149 yX8_look ∈ wL := List.mem_append_left _ (List.mem_of_getElem? (i := 167) rfl)
theorem kL_168 : Cond.instanceMethod yX8_look ∈ wL := List.mem_append_left _ (List.mem_of_getElem? (i := 168) rfl)
theorem kL_169 : Cond.selects RX8 yX8_look yX8_look ∈ wL := List.mem_append_left _ (List.mem_of_getElem? (i := 169) rfl)
theorem kL_170 : Cond.methodLink RL 150 yL_row ∈ wL := List.mem_append_left _ (List.mem_of_getElem? (i := 170) rfl)
theorem kL_171 : Cond.static yL_row ∈ wL := List.mem_append_left _ (List.mem_of_getElem? (i := 171) rfl)
theorem kL_172 : Cond.methodLink RL 152 yX8_row ∈ wL := List.mem_append_left _ (List.mem_of_getElem? (i := 172) rfl)
theorem kL_173 : Cond.instanceMethod yX8_row ∈ wL := List.mem_append_left _ (List.mem_of_getElem? (i := 173) rfl)
theorem kL_174 : Cond.selects RX8 yX8_row yX8_row ∈ wL := List.mem_append_left _ (List.mem_of_getElem? (i := 174) rfl)
theorem kL_175 : Cond.methodLink RL 153 yX7_people ∈ wL := List.mem_append_left _ (List.mem_of_getElem? (i := 175) rfl)
theorem kL_176 : Cond.instanceMethod yX7_people ∈ wL := List.mem_append_left _ (List.mem_of_getElem? (i := 176) rfl)
theorem kL_177 : Cond.selects RX7 yX7_people yX7_people ∈ wL := List.mem_append_left _ (List.mem_of_getElem? (i := 177) rfl)
theorem kL_178 : Cond.methodLink RL 156 yX8_people ∈ wL := List.mem_append_left _ (List.mem_of_getElem? (i := 178) rfl)
theorem kL_179 : Cond.instanceMethod yX8_people ∈ wL := List.mem_append_left _ (List.mem_of_getElem? (i := 179) rfl)
theorem kL_180 : Cond.selects RX8 yX8_people yX8_people ∈ wL := List.mem_append_left _ (List.mem_of_getElem? (i := 180) rfl)
theorem kL_181 : Cond.methodLink RL 157 yL_snow ∈ wL := List.mem_append_left _ (List.mem_of_getElem? (i := 181) rfl)
theorem kL_182 : Cond.static yL_snow ∈ wL := List.mem_append_left _ (List.mem_of_getElem? (i := 182) rfl)
theorem kL_183 : Cond.methodLink RL 160 yX8_snow ∈ wL := List.mem_append_left _ (List.mem_of_getElem? (i := 183) rfl)
theorem kL_184 : Cond.instanceMethod yX8_snow ∈ wL := List.mem_append_left _ (List.mem_of_getElem? (i := 184) rfl)
theorem kL_185 : Cond.selects RX8 yX8_snow yX8_snow ∈ wL := List.mem_append_left _ (List.mem_of_getElem? (i := 185) rfl)
theorem kL_186 : Cond.methodLink RL 161 yL_melt ∈ wL := List.mem_append_left _ (List.mem_of_getElem? (i := 186) rfl)
theorem kL_187 : Cond.static yL_melt ∈ wL := List.mem_append_left _ (List.mem_of_getElem? (i := 187) rfl)
theorem kL_188 : Cond.methodLink RL 163 yX8_melt ∈ wL := List.mem_append_left _ (List.mem_of_getElem? (i := 188) rfl)
theorem kL_189 : Cond.instanceMethod yX8_melt ∈ wL := List.mem_append_left _ (List.mem_of_getElem? (i := 189) rfl)
theorem kL_190 : Cond.selects RX8 yX8_melt yX8_melt ∈ wL := List.mem_append_left _ (List.mem_of_getElem? (i := 190) rfl)
theorem kL_191 : Cond.methodLink RL 164 yL_push ∈ wL := List.mem_append_left _ (List.mem_of_getElem? (i := 191) rfl)
theorem kL_192 : Cond.static yL_push ∈ wL := List.mem_append_left _ (List.mem_of_getElem? (i := 192) rfl)
theorem kL_193 : Cond.methodLink RL 166 yX8_push ∈ wL := List.mem_append_left _ (List.mem_of_getElem? (i := 193) rfl)
theorem kL_194 : Cond.instanceMethod yX8_push ∈ wL := List.mem_append_left _ (List.mem_of_getElem? (i := 194) rfl)
theorem kL_195 : Cond.selects RX8 yX8_push yX8_push ∈ wL := List.mem_append_left _ (List.mem_of_getElem? (i := 195) rfl)
theorem kL_196 : Cond.methodLink RL 167 yL_cell ∈ wL := List.mem_append_left _ (List.mem_of_getElem? (i := 196) rfl)
theorem kL_197 : Cond.static yL_cell ∈ wL := List.mem_append_left _ (List.mem_of_getElem? (i := 197) rfl)
theorem kL_198 : Cond.methodLink RL 169 yX8_cell ∈ wL := List.mem_append_left _ (List.mem_of_getElem? (i := 198) rfl)
theorem kL_199 : Cond.instanceMethod yX8_cell ∈ wL := List.mem_append_left _ (List.mem_of_getElem? (i := 199) rfl)
theorem kL_200 : Cond.selects RX8 yX8_cell yX8_cell ∈ wL := List.mem_append_left _ (List.mem_of_getElem? (i := 200) rfl)
theorem kL_201 : Cond.methodLink RL 170 yL_link ∈ wL := List.mem_append_left _ (List.mem_of_getElem? (i := 201) rfl)
theorem kL_202 : Cond.static yL_link ∈ wL := List.mem_append_left _ (List.mem_of_getElem? (i := 202) rfl)
theorem kL_203 : Cond.methodLink RL 172 yX8_link ∈ wL := List.mem_append_left _ (List.mem_of_getElem? (i := 203) rfl)
theorem kL_204 : Cond.instanceMethod yX8_link ∈ wL := List.mem_append_left _ (List.mem_of_getElem? (i := 204) rfl)
theorem kL_205 : Cond.selects RX8 yX8_link yX8_link ∈ wL := List.mem_append_left _ (List.mem_of_getElem? (i := 205) rfl)
theorem kL_206 : Cond.methodLink RL 173 yL_want ∈ wL := List.mem_append_left _ (List.mem_of_getElem? (i := 206) rfl)
theorem kL_207 : Cond.static yL_want ∈ wL := List.mem_append_left _ (List.mem_of_getElem? (i := 207) rfl)
theorem kL_208 : Cond.methodLink RL 176 yX8_want ∈ wL := List.mem_append_left _ (List.mem_of_getElem? (i := 208) rfl)
theorem kL_209 : Cond.instanceMethod yX8_want ∈ wL := List.mem_append_left _ (List.mem_of_getElem? (i := 209) rfl)
theorem kL_210 : Cond.selects RX8 yX8_want yX8_want ∈ wL := List.mem_append_left _ (List.mem_of_getElem? (i := 210) rfl)
theorem kL_211 : Cond.methodLink RL 177 yX7_least ∈ wL := List.mem_append_left _ (List.mem_of_getElem? (i := 211) rfl)
theorem kL_212 : Cond.instanceMethod yX7_least ∈ wL := List.mem_append_left _ (List.mem_of_getElem? (i := 212) rfl)
theorem kL_213 : Cond.selects RX7 yX7_least yX7_least ∈ wL := List.mem_append_left _ (List.mem_of_getElem? (i := 213) rfl)
theorem kL_214 : Cond.methodLink RL 180 yX8_least ∈ wL := List.mem_append_left _ (List.mem_of_getElem? (i := 214) rfl)
theorem kL_215 : Cond.instanceMethod yX8_least ∈ wL := List.mem_append_left _ (List.mem_of_getElem? (i := 215) rfl)
theorem kL_216 : Cond.selects RX8 yX8_least yX8_least ∈ wL := List.mem_append_left _ (List.mem_of_getElem? (i := 216) rfl)
theorem kL_217 : Cond.methodLink RL 181 yL_price ∈ wL := List.mem_append_left _ (List.mem_of_getElem? (i := 217) rfl)
theorem kL_218 : Cond.static yL_price ∈ wL := List.mem_append_left _ (List.mem_of_getElem? (i := 218) rfl)
theorem kL_219 : Cond.methodLink RL 183 yX8_price ∈ wL := List.mem_append_left _ (List.mem_of_getElem? (i := 219) rfl)
theorem kL_220 : Cond.instanceMethod yX8_price ∈ wL := List.mem_append_left _ (List.mem_of_getElem? (i := 220) rfl)
theorem kL_221 : Cond.selects RX8 yX8_price yX8_price ∈ wL := List.mem_append_left _ (List.mem_of_getElem? (i := 221) rfl)
theorem kL_222 : Cond.methodLink RL 184 yL_judge ∈ wL := List.mem_append_left _ (List.mem_of_getElem? (i := 222) rfl)
theorem kL_223 : Cond.static yL_judge ∈ wL := List.mem_append_left _ (List.mem_of_getElem? (i := 223) rfl)
theorem kL_224 : Cond.methodLink RL 187 yX8_judge ∈ wL := List.mem_append_left _ (List.mem_of_getElem? (i := 224) rfl)
theorem kL_225 : Cond.instanceMethod yX8_judge ∈ wL := List.mem_append_left _ (List.mem_of_getElem? (i := 225) rfl)
theorem kL_226 : Cond.selects RX8 yX8_judge yX8_judge ∈ wL := List.mem_append_left _ (List.mem_of_getElem? (i := 226) rfl)
theorem kL_227 : Cond.methodLink RL 188 yX7_count ∈ wL := List.mem_append_left _ (List.mem_of_getElem? (i := 227) rfl)
theorem kL_228 : Cond.instanceMethod yX7_count ∈ wL := List.mem_append_left _ (List.mem_of_getElem? (i := 228) rfl)
theorem kL_229 : Cond.selects RX7 yX7_count yX7_count ∈ wL := List.mem_append_left _ (List.mem_of_getElem? (i := 229) rfl)
theorem kL_230 : Cond.methodLink RL 192 yX8_count ∈ wL := List.mem_append_left _ (List.mem_of_getElem? (i := 230) rfl)
theorem kL_231 : Cond.instanceMethod yX8_count ∈ wL := List.mem_append_left _ (List.mem_of_getElem? (i := 231) rfl)
theorem kL_232 : Cond.selects RX8 yX8_count yX8_count ∈ wL := List.mem_append_left _ (List.mem_of_getElem? (i := 232) rfl)
theorem kL_C : ∀ w ∈ wC, w ∈ wL := fun _ h => List.mem_append_right _ (List.mem_append_left _ h)
theorem kL_R : ∀ w ∈ wR, w ∈ wL := fun _ h => List.mem_append_right _ (List.mem_append_right _ h)
theorem kL_good : GoodIn wL wL := by
  have h1 : GoodIn wL wLl := goodIn_sub (fun w h => List.mem_append_left _ h) (by decide +kernel)
  intro w hw
  rcases List.mem_append.mp hw with h | h
  · exact h1 w h
  · rcases List.mem_append.mp h with h | h
    · exact ⟨hw, (kC_good w h).2⟩
    · exact ⟨hw, (kR_good w h).2⟩
def lFx (U : State) : Prop := (∀ j : Nat, j < 5 → va_Nw (.castable (cNm j) (cNm j)) U) ∧ ∀ i j : Nat, i < 5 → j < 5 → i ≠ j → va_Nc (cNm i) (cNm j) U
theorem lFx.warm {s U : State} (hW : s.WarmedH U.vm) (h : lFx s) : lFx U := ⟨fun j hj => va_Nw.warmC hW (h.1 j hj), fun i j hi hj hij => (h.2 i j hi hj hij).moved hW.alike⟩
theorem lFx.calling {U : State} {g : JFrame} {mk : MethodId} {a : Array Value} (h : lFx U) : lFx (U.calling g mk a) := ⟨fun j hj => va_Nw.same (u := U) (U := U.calling g mk a) rfl rfl (h.1 j hj), fun i j hi hj hij => (h.2 i j hi hj hij).moved (Vm.Alike.refl U.vm)⟩
theorem va_P.lefl {D : va_G} {cl : List vw_C} {a b : va_W} {H : Heap} (h : va_P D cl (a ++ b) H) : va_P D cl a H := fun k q hk => h k q (by
  rw [List.getElem?_append_left (List.getElem?_eq_some_iff.mp hk).1]; exact hk)
theorem va_P.rigl {D : va_G} {cl : List vw_C} {a b : va_W} {H : Heap} (h : va_P D cl (a ++ b) H) : va_P D cl b H := fun k q hk => h (a.length + k) q (by
  rw [List.getElem?_append_right (Nat.le_add_right _ _), Nat.add_sub_cancel_left]; exact hk)
theorem va_D.lefl {A : Nat → Prop} {a b : va_W} (h : va_D A (a ++ b)) : va_D A a := by
  have e : ∀ (k : Nat) (q : Nat × va_E), a[k]? = some q → (a ++ b)[k]? = some q := fun k q hk => by
    rw [List.getElem?_append_left (List.getElem?_eq_some_iff.mp hk).1]; exact hk
  exact ⟨fun i j p q hp hq => h.1 i j p q (e i p hp) (e j q hq), fun k q hk => h.2 k q (e k q hk)⟩
theorem va_D.rigl {A : Nat → Prop} {a b : va_W} (h : va_D A (a ++ b)) : va_D A b := by
  have e : ∀ (k : Nat) (q : Nat × va_E), b[k]? = some q → (a ++ b)[a.length + k]? = some q := fun k q hk => by
    rw [List.getElem?_append_right (Nat.le_add_right _ _), Nat.add_sub_cancel_left]; exact hk
  exact ⟨fun i j p q hp hq hpq => by have := h.1 _ _ p q (e i p hp) (e j q hq) hpq; omega, fun k q hk => h.2 _ q (e k q hk)⟩
theorem va_D.apart {A : Nat → Prop} {a b : va_W} (h : va_D A (a ++ b)) {i j : Nat} {p q : Nat × va_E} (hp : a[i]? = some p) (hq : b[j]? = some q) : p.1 ≠ q.1 := by
  intro e
  have hi := (List.getElem?_eq_some_iff.mp hp).1
  have h1 : (a ++ b)[i]? = some p := by rw [List.getElem?_append_left hi]; exact hp
  have h2 : (a ++ b)[a.length + j]? = some q := by rw [List.getElem?_append_right (Nat.le_add_right _ _), Nat.add_sub_cancel_left]; exact hq
  have := h.1 _ _ p q h1 h2 e
  omega
/-- the block b of the world has become b' -/
theorem e_mid {D : va_G} {cl : List vw_C} {A A' : Nat → Prop} {a b c b' : va_W} {H H1 : Heap} (hP : va_P D cl (a ++ (b ++ c)) H) (hD : va_D A (a ++ (b ++ c))) (hP' : va_P D cl b' H1) (hD' : va_D A' b') (hA' : ∀ q, A' q → (∃ (k : Nat) (e : Nat × va_E), b[k]? = some e ∧ e.1 = q) ∨ H.size ≤ q) (hk : ∀ q : Nat, q < H.size → ¬ A' q → H1[q]? = H[q]?) (hAn : ∀ q, H.size ≤ q → A q) : va_P D cl (a ++ (b' ++ c)) H1 ∧ va_D A (a ++ (b' ++ c)) := by
  have na : ∀ (i : Nat) (p : Nat × va_E), a[i]? = some p → ¬ A' p.1 := by
    intro i p hp hA
    rcases hA' _ hA with ⟨k, e, h1, h2⟩ | h
    · have hb : (b ++ c)[k]? = some e := by rw [List.getElem?_append_left (List.getElem?_eq_some_iff.mp h1).1]; exact h1
      exact hD.apart hp hb h2.symm
    · exact absurd (vx_lt hP.lefl hp) (Nat.not_lt.mpr h)
  have nc : ∀ (i : Nat) (p : Nat × va_E), c[i]? = some p → ¬ A' p.1 := by
    intro i p hp hA
    rcases hA' _ hA with ⟨k, e, h1, h2⟩ | h
    · exact hD.rigl.apart h1 hp h2
    · exact absurd (vx_lt hP.rigl.rigl hp) (Nat.not_lt.mpr h)
  have hAb : ∀ q, A' q → A q := by
    intro q hA
    rcases hA' _ hA with ⟨k, e, h1, rfl⟩ | h
    · exact hD.rigl.lefl.2 k e h1
    · exact hAn q h
  refine ⟨(hP.lefl.kept (fun i p hp => hk _ (vx_lt hP.lefl hp) (na i p hp))).app (hP'.app (hP.rigl.rigl.kept (fun i p hp => hk _ (vx_lt hP.rigl.rigl hp) (nc i p hp)))), ?_⟩
  refine hD.lefl.app ((hD'.weaken (fun _ q _ h => hAb _ h)).app hD.rigl.rigl ?_) ?_
  · intro i j p q hp hq e
    exact nc j q hq (e ▸ hD'.2 i p hp)
  · intro i j p q hp hq e
    rcases Nat.lt_or_ge j b'.length with hj | hj
    · rw [List.getElem?_append_left hj] at hq
      exact na i p hp (e ▸ hD'.2 j q hq)
    · rw [List.getElem?_append_right hj] at hq
      have hq2 : (b ++ c)[b.length + (j - b'.length)]? = some q := by rw [List.getElem?_append_right (Nat.le_add_right _ _), Nat.add_sub_cancel_left]; exact hq
      exact hD.apart hp hq2 e
def eWd {S2 : Type} (G : cG) (ex : S2 → va_W) (A : Nat → Prop) (H0 : Heap) (s : CSt × S2) (H : Heap) (locs : List Loc) : Prop := va_P G.1 vwCl (cWs G s.1 ++ ex s.2) H ∧ va_D A (cWs G s.1 ++ ex s.2) ∧ va_S A H0 H locs ∧ cZ s.1 = G.2.2.2.2
def eC (X : gT) (cc : ByteArray) (nL : Nat) (G : cG) (tys : List (ClassId × FieldType)) (A : Nat → Prop) : Prop := gC X cc nL ∧ (g_s X).vm.findClass RL = some (g_m X).cls ∧ (∀ w ∈ wL, w.before (g_a X) (g_s X) = true) ∧ va_K G.1 vwCl (cKt G) (g_s X) ∧ (∀ q : Nat, (g_s X).heap.size ≤ q → A q) ∧ cFx G A (g_s X) (g_s X).heap ∧ va_K G.1 vwCl tys (g_s X) ∧ lFx (g_s X)
section ELIB
variable {S2 : Type} {ex : S2 → va_W} {tys : List (ClassId × FieldType)} {X : gT} {Q : State → Prop} {k n : Nat} {s2 : S2} {σ : CSt} {lv : List (Nat × Value)} {pc : Nat} {rest st0 : List Value} {cc : ByteArray} {nL : Nat} {G : cG} {A : Nat → Prop} {H0 : Heap} {idx : Nat} {y : MethodName} {b : ByteArray} {mL f c mc ms a : Nat} {rt : FieldType} {vs : List Value}
theorem e_Ain {H : Heap} {locs : List Loc} (C : eC X cc nL G tys A) (hsz : H0 = (g_s X).heap) (hW : eWd G ex A H0 (σ, s2) H locs) : ∀ q, cA σ H.size q → A q := by
  intro q h
  rcases h with h | h
  · obtain ⟨p, hp⟩ := c_pl (G := G) h
    exact hW.2.1.lefl.2 p _ hp
  · exact C.2.2.2.2.1 q (Nat.le_trans (by rw [← hsz]; exact hW.2.2.1.1) h)
theorem e_pre {H : Heap} {locs : List Loc} (C : eC X cc nL G tys A) (hsz : H0 = (g_s X).heap) (hW : eWd G ex A H0 (σ, s2) H locs) (vs : List Value) : ∀ U : State, U.heap = H → (g_s X).WarmedH U.vm → cPc G σ H.size vs vs.toArray U := by
  intro U hU hW'
  exact ⟨rfl, by rw [hU], by rw [hU]; exact hW.1.lefl, ⟨va_K.moved hW'.alike C.2.2.2.1, C.2.2.2.2.2.1.go (hsz ▸ hW.2.2.1) hU hW' (e_Ain C hsz hW)⟩, hW.2.1.lefl.weaken (fun _ _ _ _ => trivial), hW.2.2.2⟩
theorem e_back {H H1 : Heap} {locs locs1 : List Loc} {τ : CSt} {t : State} (C : eC X cc nL G tys A) (hsz : H0 = (g_s X).heap) (hW : eWd G ex A H0 (σ, s2) H locs) (ht : t.heap = H1) (hB : cB G (cA σ H.size) τ t) (hk1 : ∀ q : Nat, q < H.size → ¬ cA σ H.size q → H1[q]? = H[q]?) (hS : va_S A H0 H1 locs1) : eWd G ex A H0 (τ, s2) H1 locs1 := by
  have h := e_mid (a := []) (b := cWs G σ) (c := ex s2) (b' := cWs G τ) (A' := cA σ H.size) hW.1 hW.2.1 (ht ▸ hB.1) hB.2.2.1 (fun q hq => hq.elim (fun h1 => by obtain ⟨p, hp⟩ := c_pl (G := G) h1; exact Or.inl ⟨p, _, hp, rfl⟩) Or.inr) hk1 (fun q hq => C.2.2.2.2.1 q (Nat.le_trans (by rw [← hsz]; exact hW.2.2.1.1) hq))
  exact ⟨h.1, h.2, hS, hB.2.2.2⟩
theorem e_recv7 (C : eC X cc nL G tys A) (hA : cAt σ 7 a) : ∀ (H : Heap) (locs : List Loc), eWd G ex A H0 (σ, s2) H locs → ∃ cell : Cell, H[a]? = some cell ∧ cell.vm.isStatics = false ∧ (g_s X).vm.findClass RX7 = some cell.cls := by
  intro H locs hW
  obtain ⟨p, hp⟩ := c_pl (G := G) hA.1
  rw [cEl_7 hA.2] at hp
  exact va_recv C.2.2.2.1 hW.1.lefl (ci := 7) rfl hp
theorem e_wsC {ret : Option FieldType} (k1 : Cond.methodLink RL idx y ∈ wL) (k2 : Cond.instanceMethod y ∈ wL) (k3 : Cond.selects RX7 y y ∈ wL) (k4 : Cond.code y b mL ret ∈ wL) (k5 : Cond.initialized RX7 ∈ wL) : GoodIn wL (wsV RL idx RX7 y (cYs y b mL ret)) := by
  refine f_ws (fun w hw => (List.mem_cons.mp hw).elim (fun e => by rw [e]; exact kL_good _ k4) (fun h => kL_good w (kL_C w h))) (fun w hw => ?_) kL_good
  simp only [List.mem_cons, List.not_mem_nil, or_false] at hw
  rcases hw with rfl | rfl | rfl | rfl <;> assumption
theorem e_catch {S : Type} {Wd : S → Heap → List Loc → Prop} {σ : S} {hh pre suf : List (Nat × Nat × Nat × Nat)} {x : Nat × Nat × Nat × Nat} {E : String} (C : eC X cc nL G tys A) (htab : (g_c X).exceptionTable.toList = tableOf hh) (hs : hh = pre ++ x :: suf) (hc : x.1 ≤ pc ∧ pc < x.2.1) (h0 : x.2.2.2 ≠ 0) (hl : Cond.classLink RL x.2.2.2 E ∈ wL) (hcast : va_Nw (.castable E E) (g_s X))
    (hp : ∀ z ∈ pre, z.2.2.2 ≠ 0 ∧ ∃ nm : String, Cond.classLink RL z.2.2.2 nm ∈ wL ∧ va_Nc E nm (g_s X)) (kk : ∀ q : Nat, gJ X Wd Q k n σ lv x.2.2.1 [.ref q]) : gX X Wd Q k n σ lv pc rest E := by
  intro H locs ls q ce hW hl' hcell hv hcl
  refine vx_catch (name := E) (E := E) C.2.1 (tableOf pre) ⟨x.1, x.2.1, x.2.2.1, x.2.2.2⟩ (tableOf suf) (by rw [htab, hs]; simp [tableOf]) ?_ (by simp only [covers, Bool.and_eq_true, decide_eq_true_eq]; exact hc) h0 (C.2.2.1 _ hl) (va_Nw.use (by rfl) hcast) hcell hv hcl (kk q H locs ls hW hl')
  intro z hz
  obtain ⟨w, hw, rfl⟩ := List.mem_map.mp hz
  obtain ⟨h1, nm, h2, h3⟩ := hp w hw
  exact Or.inr ⟨h1, nm, C.2.2.1 _ h2, h3⟩
theorem e_callVi {post : Int32 → CSt → Prop} (C : eC X cc nL G tys A) (hsz : H0 = (g_s X).heap) (hM : cMi (g_l X) y b mL rt f c mc ms G σ (.ref a :: vs) post) (k1 : Cond.methodLink RL idx y ∈ wL) (k2 : Cond.instanceMethod y ∈ wL) (k3 : Cond.selects RX7 y y ∈ wL) (k4 : Cond.code y b mL (some rt) ∈ wL) (hd : y.cls = RX7 ∧ y.cls ≠ "java/lang/invoke/MethodHandle" ∧ y.cls ≠ "java/lang/invoke/VarHandle" ∧ (parseMethodDescriptor y.desc).map (fun d => d.parameters.length) = some vs.length) (hA : cAt σ 7 a) (hR : f + 1 ≤ (g_R X).frames ∧ 8 + (mL + 11) + c ≤ (g_R X).locals) (hkn : k + mc ≤ (g_R X).cells ∧ n + ms ≤ (g_R X).slots) (hdg : decode cc pc = .ok (.invokevirtual idx, 3)) (hst0 : st0 = vs.reverse ++ .ref a :: rest) (hst : (rest.map fun v => v.category).sum ≤ 8)
    (kk : ∀ (r : Int32) (τ : CSt), post r τ → gJ X (eWd G ex A H0) Q (k + mc) (n + ms) (τ, s2) lv (pc + 3) (.int r :: rest)) : gJ X (eWd G ex A H0) Q k n (σ, s2) lv pc st0 := by
  intro H locs ls hW hl
  exact va_calli (va_runV (As := vs) (rest := rest) ⟨C.1.1, C.1.2.1, C.1.2.2.2, C.2.1, C.2.2.1⟩ (hM H.size) (cwV vs.length C.2.2.1 (e_wsC k1 k2 k3 k4 (kL_C _ kC_412)) rfl rfl rfl hd hR) ⟨c_blind, e_recv7 C hA H locs hW, e_pre C hsz hW (.ref a :: vs)⟩ rfl rfl (hl.1.trans C.1.2.2.1) hst0 (lv_room hst) hdg hkn) hW.2.2.1 (fun q _ h => e_Ain C hsz hW q h) (e_Ain C hsz hW) (fun r u t H1 locs1 ht hvm hw hB hz1 hk1 hS => kk r u hw H1 locs1 ls (e_back C hsz hW ht hB hk1 hS) hl)
theorem e_throwVi {post : Int32 → CSt → Prop} {pX : String → CSt → Prop} (C : eC X cc nL G tys A) (hsz : H0 = (g_s X).heap) (hM : cTi (g_l X) y b mL rt f c mc ms G σ (.ref a :: vs) post pX) (k1 : Cond.methodLink RL idx y ∈ wL) (k2 : Cond.instanceMethod y ∈ wL) (k3 : Cond.selects RX7 y y ∈ wL) (k4 : Cond.code y b mL (some rt) ∈ wL) (hd : y.cls = RX7 ∧ y.cls ≠ "java/lang/invoke/MethodHandle" ∧ y.cls ≠ "java/lang/invoke/VarHandle" ∧ (parseMethodDescriptor y.desc).map (fun d => d.parameters.length) = some vs.length) (hA : cAt σ 7 a) (hR : f + 1 ≤ (g_R X).frames ∧ 8 + (mL + 11) + c ≤ (g_R X).locals) (hkn : k + mc ≤ (g_R X).cells ∧ n + ms ≤ (g_R X).slots) (hdg : decode cc pc = .ok (.invokevirtual idx, 3)) (hst0 : st0 = vs.reverse ++ .ref a :: rest) (hst : (rest.map fun v => v.category).sum ≤ 8)
    (kx : ∀ (E : String) (τ : CSt), pX E τ → gX X (eWd G ex A H0) Q (k + mc) (n + ms) (τ, s2) lv pc rest E)
    (kk : ∀ (r : Int32) (τ : CSt), post r τ → gJ X (eWd G ex A H0) Q (k + mc) (n + ms) (τ, s2) lv (pc + 3) (.int r :: rest)) : gJ X (eWd G ex A H0) Q k n (σ, s2) lv pc st0 := by
  intro H locs ls hW hl
  exact vx_calli (vx_runV (As := vs) (rest := rest) ⟨C.1.1, C.1.2.1, C.1.2.2.2, C.2.1, C.2.2.1⟩ (hM H.size) (cwV vs.length C.2.2.1 (e_wsC k1 k2 k3 k4 (kL_C _ kC_412)) rfl rfl rfl hd hR) ⟨c_blind, e_recv7 C hA H locs hW, e_pre C hsz hW (.ref a :: vs)⟩ rfl rfl (hl.1.trans C.1.2.2.1) hst0 (lv_room hst) hdg hkn) hW.2.2.1 (fun q _ h => e_Ain C hsz hW q h) (e_Ain C hsz hW) (fun q _ h => e_Ain C hsz hW q h) (fun E ce q9 u t H1 locs1 ht hvm _ hBX hz1 hk1 hS h1 h2 h3 => kx E u hBX.1 H1 locs1 ls q9 ce (e_back C hsz hW ht hBX.2 hk1 hS) hl h1 h2 h3) (fun r u t H1 locs1 ht hvm hw hB hz1 hk1 hS => kk r u hw H1 locs1 ls (e_back C hsz hW ht hB hk1 hS) hl)
theorem e_callVl {post : Int64 → CSt → Prop} (C : eC X cc nL G tys A) (hsz : H0 = (g_s X).heap) (hM : cMl (g_l X) y b mL f c mc ms G σ (.ref a :: vs) post) (k1 : Cond.methodLink RL idx y ∈ wL) (k2 : Cond.instanceMethod y ∈ wL) (k3 : Cond.selects RX7 y y ∈ wL) (k4 : Cond.code y b mL (some .long) ∈ wL) (hd : y.cls = RX7 ∧ y.cls ≠ "java/lang/invoke/MethodHandle" ∧ y.cls ≠ "java/lang/invoke/VarHandle" ∧ (parseMethodDescriptor y.desc).map (fun d => d.parameters.length) = some vs.length) (hA : cAt σ 7 a) (hR : f + 1 ≤ (g_R X).frames ∧ 8 + (mL + 11) + c ≤ (g_R X).locals) (hkn : k + mc ≤ (g_R X).cells ∧ n + ms ≤ (g_R X).slots) (hdg : decode cc pc = .ok (.invokevirtual idx, 3)) (hst0 : st0 = vs.reverse ++ .ref a :: rest) (hst : (rest.map fun v => v.category).sum ≤ 8)
    (kk : ∀ (r : Int64) (τ : CSt), post r τ → gJ X (eWd G ex A H0) Q (k + mc) (n + ms) (τ, s2) lv (pc + 3) (.long r :: rest)) : gJ X (eWd G ex A H0) Q k n (σ, s2) lv pc st0 := by
  intro H locs ls hW hl
  exact va_calll (va_runV (As := vs) (rest := rest) ⟨C.1.1, C.1.2.1, C.1.2.2.2, C.2.1, C.2.2.1⟩ (hM H.size) (cwV vs.length C.2.2.1 (e_wsC k1 k2 k3 k4 (kL_C _ kC_412)) rfl rfl rfl hd hR) ⟨c_blind, e_recv7 C hA H locs hW, e_pre C hsz hW (.ref a :: vs)⟩ rfl rfl (hl.1.trans C.1.2.2.1) hst0 (lv_room hst) hdg hkn) hW.2.2.1 (fun q _ h => e_Ain C hsz hW q h) (e_Ain C hsz hW) (fun r u t H1 locs1 ht hvm hw hB hz1 hk1 hS => kk r u hw H1 locs1 ls (e_back C hsz hW ht hB hk1 hS) hl)
theorem e_throwVl {post : Int64 → CSt → Prop} {pX : String → CSt → Prop} (C : eC X cc nL G tys A) (hsz : H0 = (g_s X).heap) (hM : cTl (g_l X) y b mL f c mc ms G σ (.ref a :: vs) post pX) (k1 : Cond.methodLink RL idx y ∈ wL) (k2 : Cond.instanceMethod y ∈ wL) (k3 : Cond.selects RX7 y y ∈ wL) (k4 : Cond.code y b mL (some .long) ∈ wL) (hd : y.cls = RX7 ∧ y.cls ≠ "java/lang/invoke/MethodHandle" ∧ y.cls ≠ "java/lang/invoke/VarHandle" ∧ (parseMethodDescriptor y.desc).map (fun d => d.parameters.length) = some vs.length) (hA : cAt σ 7 a) (hR : f + 1 ≤ (g_R X).frames ∧ 8 + (mL + 11) + c ≤ (g_R X).locals) (hkn : k + mc ≤ (g_R X).cells ∧ n + ms ≤ (g_R X).slots) (hdg : decode cc pc = .ok (.invokevirtual idx, 3)) (hst0 : st0 = vs.reverse ++ .ref a :: rest) (hst : (rest.map fun v => v.category).sum ≤ 8)
    (kx : ∀ (E : String) (τ : CSt), pX E τ → gX X (eWd G ex A H0) Q (k + mc) (n + ms) (τ, s2) lv pc rest E)
    (kk : ∀ (r : Int64) (τ : CSt), post r τ → gJ X (eWd G ex A H0) Q (k + mc) (n + ms) (τ, s2) lv (pc + 3) (.long r :: rest)) : gJ X (eWd G ex A H0) Q k n (σ, s2) lv pc st0 := by
  intro H locs ls hW hl
  exact vx_calll (vx_runV (As := vs) (rest := rest) ⟨C.1.1, C.1.2.1, C.1.2.2.2, C.2.1, C.2.2.1⟩ (hM H.size) (cwV vs.length C.2.2.1 (e_wsC k1 k2 k3 k4 (kL_C _ kC_412)) rfl rfl rfl hd hR) ⟨c_blind, e_recv7 C hA H locs hW, e_pre C hsz hW (.ref a :: vs)⟩ rfl rfl (hl.1.trans C.1.2.2.1) hst0 (lv_room hst) hdg hkn) hW.2.2.1 (fun q _ h => e_Ain C hsz hW q h) (e_Ain C hsz hW) (fun q _ h => e_Ain C hsz hW q h) (fun E ce q9 u t H1 locs1 ht hvm _ hBX hz1 hk1 hS h1 h2 h3 => kx E u hBX.1 H1 locs1 ls q9 ce (e_back C hsz hW ht hBX.2 hk1 hS) hl h1 h2 h3) (fun r u t H1 locs1 ht hvm hw hB hz1 hk1 hS => kk r u hw H1 locs1 ls (e_back C hsz hW ht hB hk1 hS) hl)
theorem e_callVv {post : CSt → Prop} (C : eC X cc nL G tys A) (hsz : H0 = (g_s X).heap) (hM : cMv (g_l X) y b mL f c mc ms G σ (.ref a :: vs) post) (k1 : Cond.methodLink RL idx y ∈ wL) (k2 : Cond.instanceMethod y ∈ wL) (k3 : Cond.selects RX7 y y ∈ wL) (k4 : Cond.code y b mL none ∈ wL) (hd : y.cls = RX7 ∧ y.cls ≠ "java/lang/invoke/MethodHandle" ∧ y.cls ≠ "java/lang/invoke/VarHandle" ∧ (parseMethodDescriptor y.desc).map (fun d => d.parameters.length) = some vs.length) (hA : cAt σ 7 a) (hR : f + 1 ≤ (g_R X).frames ∧ 8 + (mL + 11) + c ≤ (g_R X).locals) (hkn : k + mc ≤ (g_R X).cells ∧ n + ms ≤ (g_R X).slots) (hdg : decode cc pc = .ok (.invokevirtual idx, 3)) (hst0 : st0 = vs.reverse ++ .ref a :: rest) (hst : (rest.map fun v => v.category).sum ≤ 8)
    (kk : ∀ (τ : CSt), post τ → gJ X (eWd G ex A H0) Q (k + mc) (n + ms) (τ, s2) lv (pc + 3) (rest)) : gJ X (eWd G ex A H0) Q k n (σ, s2) lv pc st0 := by
  intro H locs ls hW hl
  exact va_callv (va_runV (As := vs) (rest := rest) ⟨C.1.1, C.1.2.1, C.1.2.2.2, C.2.1, C.2.2.1⟩ (hM H.size) (cwV vs.length C.2.2.1 (e_wsC k1 k2 k3 k4 (kL_C _ kC_412)) rfl rfl rfl hd hR) ⟨c_blind, e_recv7 C hA H locs hW, e_pre C hsz hW (.ref a :: vs)⟩ rfl rfl (hl.1.trans C.1.2.2.1) hst0 (lv_room hst) hdg hkn) hW.2.2.1 (fun q _ h => e_Ain C hsz hW q h) (e_Ain C hsz hW) (fun u t H1 locs1 ht hvm hw hB hz1 hk1 hS => kk u hw H1 locs1 ls (e_back C hsz hW ht hB hk1 hS) hl)
theorem e_throwVv {post : CSt → Prop} {pX : String → CSt → Prop} (C : eC X cc nL G tys A) (hsz : H0 = (g_s X).heap) (hM : cTv (g_l X) y b mL f c mc ms G σ (.ref a :: vs) post pX) (k1 : Cond.methodLink RL idx y ∈ wL) (k2 : Cond.instanceMethod y ∈ wL) (k3 : Cond.selects RX7 y y ∈ wL) (k4 : Cond.code y b mL none ∈ wL) (hd : y.cls = RX7 ∧ y.cls ≠ "java/lang/invoke/MethodHandle" ∧ y.cls ≠ "java/lang/invoke/VarHandle" ∧ (parseMethodDescriptor y.desc).map (fun d => d.parameters.length) = some vs.length) (hA : cAt σ 7 a) (hR : f + 1 ≤ (g_R X).frames ∧ 8 + (mL + 11) + c ≤ (g_R X).locals) (hkn : k + mc ≤ (g_R X).cells ∧ n + ms ≤ (g_R X).slots) (hdg : decode cc pc = .ok (.invokevirtual idx, 3)) (hst0 : st0 = vs.reverse ++ .ref a :: rest) (hst : (rest.map fun v => v.category).sum ≤ 8)
    (kx : ∀ (E : String) (τ : CSt), pX E τ → gX X (eWd G ex A H0) Q (k + mc) (n + ms) (τ, s2) lv pc rest E)
    (kk : ∀ (τ : CSt), post τ → gJ X (eWd G ex A H0) Q (k + mc) (n + ms) (τ, s2) lv (pc + 3) (rest)) : gJ X (eWd G ex A H0) Q k n (σ, s2) lv pc st0 := by
  intro H locs ls hW hl
  exact vx_callv (vx_runV (As := vs) (rest := rest) ⟨C.1.1, C.1.2.1, C.1.2.2.2, C.2.1, C.2.2.1⟩ (hM H.size) (cwV vs.length C.2.2.1 (e_wsC k1 k2 k3 k4 (kL_C _ kC_412)) rfl rfl rfl hd hR) ⟨c_blind, e_recv7 C hA H locs hW, e_pre C hsz hW (.ref a :: vs)⟩ rfl rfl (hl.1.trans C.1.2.2.1) hst0 (lv_room hst) hdg hkn) hW.2.2.1 (fun q _ h => e_Ain C hsz hW q h) (e_Ain C hsz hW) (fun q _ h => e_Ain C hsz hW q h) (fun E ce q9 u t H1 locs1 ht hvm _ hBX hz1 hk1 hS h1 h2 h3 => kx E u hBX.1 H1 locs1 ls q9 ce (e_back C hsz hW ht hBX.2 hk1 hS) hl h1 h2 h3) (fun u t H1 locs1 ht hvm hw hB hz1 hk1 hS => kk u hw H1 locs1 ls (e_back C hsz hW ht hB hk1 hS) hl)
theorem e_callIv {post : CSt → Prop} (C : eC X cc nL G tys A) (hsz : H0 = (g_s X).heap) (hM : cMv (g_l X) y b mL f c mc ms G σ (.ref a :: vs) post) (k0 : Cond.initialized y.cls ∈ wL) (k1 : Cond.methodLink RL idx y ∈ wL) (k2 : Cond.instanceMethod y ∈ wL) (k4 : Cond.code y b mL none ∈ wL) (hin : y.name = "<init>") (hd : y.cls = RX7 ∧ y.cls ≠ "java/lang/invoke/MethodHandle" ∧ y.cls ≠ "java/lang/invoke/VarHandle" ∧ (parseMethodDescriptor y.desc).map (fun d => d.parameters.length) = some vs.length) (hR : f + 1 ≤ (g_R X).frames ∧ 8 + (mL + 11) + c ≤ (g_R X).locals) (hkn : k + mc ≤ (g_R X).cells ∧ n + ms ≤ (g_R X).slots) (hdg : decode cc pc = .ok (.invokespecial idx, 3)) (hst0 : st0 = vs.reverse ++ .ref a :: rest) (hst : (rest.map fun v => v.category).sum ≤ 8)
    (kk : ∀ (τ : CSt), post τ → gJ X (eWd G ex A H0) Q (k + mc) (n + ms) (τ, s2) lv (pc + 3) (rest)) : gJ X (eWd G ex A H0) Q k n (σ, s2) lv pc st0 := by
  intro H locs ls hW hl
  exact va_callv (va_runI (As := vs) (rest := rest) ⟨C.1.1, C.1.2.1, C.1.2.2.2, C.2.1, C.2.2.1⟩ (hM H.size) (cwI vs.length C.2.2.1 (fun w hw => (List.mem_cons.mp hw).elim (fun e => by rw [e]; exact kL_good _ k4) (fun h => kL_good w (kL_C w h))) rfl rfl rfl (C.2.2.1 _ k0) (C.2.2.1 _ k1) (C.2.2.1 _ k2) hin hd.2 hR) ⟨c_blind, e_pre C hsz hW (.ref a :: vs)⟩ rfl rfl (hl.1.trans C.1.2.2.1) hst0 (lv_room hst) hdg hkn) hW.2.2.1 (fun q _ h => e_Ain C hsz hW q h) (e_Ain C hsz hW) (fun u t H1 locs1 ht hvm hw hB hz1 hk1 hS => kk u hw H1 locs1 ls (e_back C hsz hW ht hB hk1 hS) hl)
end ELIB
/-! the helpers: the class's world and the row that takes an answer -/
def oC (lc : ClassId) (oa : Nat) (o : Nat → Int64) : va_W := [(oa, .inl (lc, 1, .inr (.inl o)))]
abbrev hSt : Type := CSt × (Nat → Int64)
def hKt (lc : ClassId) : List (ClassId × FieldType) := [(lc, .long)]
def hA (oa : Nat) (σ : CSt) (sz : Nat) : Nat → Prop := fun q => q ∈ cL σ ∨ q = oa ∨ sz ≤ q
abbrev hYs (y : MethodName) (b : ByteArray) (mL : Nat) (hh : List (Nat × Nat × Nat × Nat)) : List Cond := .codeWith y b mL (some .int) hh :: wL
def hPc (G : cG) (lc : ClassId) (oa : Nat) (s : hSt) (sz : Nat) (vs : List Value) : Array Value → State → Prop := va_Pc vs (fun U => U.heap.size = sz ∧ va_P G.1 vwCl (cWs G s.1 ++ oC lc oa s.2) U.heap ∧ (va_K G.1 vwCl (cKt G) U ∧ cFx G (hA oa s.1 sz) U U.heap ∧ va_K G.1 vwCl (hKt lc) U ∧ lFx U) ∧ va_D (fun _ => True) (cWs G s.1 ++ oC lc oa s.2) ∧ cZ s.1 = G.2.2.2.2)
def hB (G : cG) (lc : ClassId) (oa : Nat) (A : Nat → Prop) (s : hSt) (t : State) : Prop := va_P G.1 vwCl (cWs G s.1 ++ oC lc oa s.2) t.heap ∧ va_D A (cWs G s.1 ++ oC lc oa s.2) ∧ cZ s.1 = G.2.2.2.2
def hM (l : Launch) (y : MethodName) (b : ByteArray) (mL : Nat) (hh : List (Nat × Nat × Nat × Nat)) (f c mc ms : Nat) (G : cG) (lc : ClassId) (oa : Nat) (s : hSt) (vs : List Value) (post : Int32 → hSt → Prop) : Prop := ∀ sz : Nat, vx_Met l y (hYs y b mL hh) (cRm f c mc ms) (hPc G lc oa s sz vs) (va_Qi post (hB G lc oa (hA oa s.1 sz)) (hA oa s.1 sz)) (vx_X (fun _ : Unit => False) (fun _ _ _ => False) (hA oa s.1 sz)) mc ms (hA oa s.1 sz)
theorem h_blind {G : cG} {lc : ClassId} {oa : Nat} {s : hSt} {sz : Nat} {vs : List Value} : FrameBlind (hPc G lc oa s sz vs) := fun a U g mk q => by
  obtain ⟨q0, q1, qP, qK, qD, qz⟩ := q
  exact ⟨q0, q1, qP, ⟨va_K.moved (u := U) (U := U.calling g mk a) (Vm.Alike.refl U.vm) qK.1, cFx.calling qK.2.1, va_K.moved (u := U) (U := U.calling g mk a) (Vm.Alike.refl U.vm) qK.2.2.1, lFx.calling qK.2.2.2⟩, qD, qz⟩
theorem h_DA {G : cG} {lc : ClassId} {oa : Nat} {s : hSt} {sz : Nat} {B : Nat → Prop} (h : va_D B (cWs G s.1 ++ oC lc oa s.2)) : va_D (hA oa s.1 sz) (cWs G s.1 ++ oC lc oa s.2) := h.weaken (fun k q hk _ => by
  rcases List.mem_append.mp (List.mem_of_getElem? hk) with h1 | h1
  · obtain ⟨a, ha, rfl⟩ := List.mem_map.mp h1
    exact Or.inl ha
  · rw [oC, List.mem_singleton] at h1
    exact Or.inr (Or.inl (by rw [h1])))
abbrev hWd (G : cG) (lc : ClassId) (oa : Nat) (A : Nat → Prop) (H0 : Heap) : hSt → Heap → List Loc → Prop := eWd G (oC lc oa) A H0
abbrev hC (X : gT) (cc : ByteArray) (nL : Nat) (hh : List (Nat × Nat × Nat × Nat)) (G : cG) (lc : ClassId) (A : Nat → Prop) : Prop := eC X cc nL G (hKt lc) A ∧ (g_c X).exceptionTable.toList = tableOf hh
section HLIB
variable {X : gT} {Q : State → Prop} {k n : Nat} {σ : CSt} {o : Nat → Int64} {lv : List (Nat × Value)} {pc : Nat} {rest : List Value} {cc : ByteArray} {nL : Nat} {G : cG} {lc : ClassId} {oa : Nat} {A : Nat → Prop} {H0 : Heap} {hh : List (Nat × Nat × Nat × Nat)}
theorem h_out {ws : va_W} : (ws ++ oC lc oa o)[ws.length]? = some (oa, .inl (lc, 1, .inr (.inl o))) := by
  rw [List.getElem?_append_right (Nat.le_refl _), Nat.sub_self]; rfl
theorem h_set {ws : va_W} {o' : Nat → Int64} : (ws ++ oC lc oa o).set ws.length (oa, .inl (lc, 1, .inr (.inl o'))) = ws ++ oC lc oa o' := by
  rw [List.set_append_right _ _ (Nat.le_refl _), Nat.sub_self]; rfl
theorem h_put (C : eC X cc nL G (hKt lc) A) {i : Int32} {v : Int64} (hin : vp_in i 1) (hdg : decode cc pc = .ok (.lastore, 1)) (kk : gJ X (hWd G lc oa A H0) Q k n (σ, vp_updL o i.toNatClampNeg v) lv (pc + 1) rest) : gJ X (hWd G lc oa A H0) Q k n (σ, o) lv pc (.long v :: .int i :: .ref oa :: rest) := by
  intro H locs ls hW hl
  exact va_last (D := G.1) (cl := vwCl) (ws := cWs G σ ++ oC lc oa o) (tys := hKt lc) (cA := lc) (n := 1) (f := o) C.1.1 C.1.2.1 C.2.2.2.2.2.2.1 hW.1 hW.2.1 hW.2.2.1 (cWs G σ).length 0 h_out rfl hin hdg (fun H1 locs1 hP hD hS => kk H1 locs1 ls ⟨h_set (o := o) ▸ hP, h_set (o := o) ▸ hD, hS, hW.2.2.2⟩ hl)
theorem h_in0 : vp_in 0 1 := by unfold vp_in; decide
end HLIB
theorem hM_of {l : Launch} {y : MethodName} {b : ByteArray} {mL : Nat} {hh : List (Nat × Nat × Nat × Nat)} {f c mc ms : Nat} {G : cG} {lc : ClassId} {oa : Nat} {s : hSt} {vs : List Value} {post : Int32 → hSt → Prop} (hy : plainName y.cls = true) (hyc : y.cls = RL) (hn : (lg_sl vs).length ≤ mL)
    (body : ∀ (X : gT) (A : Nat → Prop) (H0 : Heap) (Q : State → Prop), g_l X = l → (f ≤ (g_R X).frames ∧ c ≤ (g_R X).locals ∧ mc ≤ (g_R X).cells ∧ ms ≤ (g_R X).slots) → H0 = (g_s X).heap → hC X b mL hh G lc A → (∀ (r : Int32) (τ : hSt) (lv : List (Nat × Value)) (pc : Nat), post r τ → narrow .int (.int r) = .int r → decode b pc = .ok (.ireturn, 1) → gJ X (hWd G lc oa A H0) Q mc ms τ lv pc [.int r]) → gJ X (hWd G lc oa A H0) Q 0 0 s (lv_args 0 vs) 0 []) : hM l y b mL hh f c mc ms G lc oa s vs post := by
  intro sz
  refine vx_ofWH (cc := b) (maxL := mL) (ret := some .int) (hh := hh) hy rfl ?_
  intro p e st m args below meth cd s₁ B hml hv
  obtain ⟨rfl, hsz, hP, ⟨hK, hF, hKl, hL⟩, hD0, hz⟩ := hv
  have hts := atoms_spec (ws := hYs y b mL hh) B.pre
  have hown : st.vm.findClass RL = some m.cls := by have h := findClass_of_methodNamed B.named; rwa [hyc] at h
  have htab := vx_table (x := y) B (hts _ List.mem_cons_self)
  subst hsz
  have hl := lv_entry vs (n := mL) hn
  rw [lg_entry_eq]
  refine body (p, l, e, cRm f c mc ms, st, m, _, below, meth, cd, mL) (hA oa s.1 st.heap.size) st.heap _ rfl ⟨Nat.le_refl _, Nat.le_refl _, Nat.le_refl _, Nat.le_refl _⟩ rfl ⟨⟨⟨B.exec, B.bytes, rfl, hml⟩, hown, fun w hw => hts w (List.mem_cons_of_mem _ hw), hK, fun q hq => Or.inr (Or.inr hq), hF, hKl, hL⟩, htab⟩ ?_ st.heap [] _ ⟨hP, h_DA hD0, va_S.rf, hz⟩ hl
  intro r τ lv pc hpost hnar hdg H locs ls hW hl
  exact vx_ret (W.zret (v := r) B.exec B.bytes B.returns hnar (fun t ht hW' => ⟨⟨r, τ, rfl, hpost, by rw [ht]; exact hW.1, hW.2.1, hW.2.2.2⟩, hW.2.2.1.F ht⟩) hW.2.2.1.2.2 hdg)
/-! the law: both worlds, the row that takes an answer, the script -/
abbrev gG : Type := (ClassId × ClassId × ClassId × ClassId) × (Nat → Nat) × (Nat → Nat) × (Nat → Nat)
abbrev lSt : Type := CSt × (RSt × (Nat → Int64))
def lEx (Gr : rG) (oa : Nat) : RSt × (Nat → Int64) → va_W := fun p => rws Gr p.1 ++ oC Gr.2.1.2.2.1 oa p.2
abbrev lWd (G : cG) (gr : gG) (oa : Nat) (A : Nat → Prop) (H0 : Heap) : lSt → Heap → List Loc → Prop := eWd G (lEx (G.1, gr) oa) A H0
def lSc (X : gT) (b L : Nat) (xs : Nat → Int32) (A : Nat → Prop) : Prop := va_X b L xs (g_s X) (g_s X).heap ∧ b < (g_s X).heap.size ∧ ¬ A b
def lC (X : gT) (cc : ByteArray) (nL : Nat) (G : cG) (gr : gG) (A : Nat → Prop) (b L : Nat) (xs : Nat → Int32) : Prop := eC X cc nL G (rKt (G.1, gr)) A ∧ rTx (G.1, gr) A (g_s X) (g_s X).heap ∧ lSc X b L xs A
section LLIB
variable {X : gT} {Q : State → Prop} {k n : Nat} {σ : CSt} {ρ : RSt} {o : Nat → Int64} {lv : List (Nat × Value)} {pc : Nat} {rest st0 : List Value} {cc : ByteArray} {nL : Nat} {G : cG} {gr : gG} {oa : Nat} {A : Nat → Prop} {H0 : Heap} {sb L : Nat} {xs : Nat → Int32} {idx : Nat} {y : MethodName} {b : ByteArray} {mL f c mc ms a : Nat} {rt : FieldType} {vs : List Value}
theorem l_wsR {ret : Option FieldType} (k1 : Cond.methodLink RL idx y ∈ wL) (k2 : Cond.instanceMethod y ∈ wL) (k3 : Cond.selects RX8 y y ∈ wL) (k4 : Cond.code y b mL ret ∈ wL) (k5 : Cond.initialized RX8 ∈ wL) : GoodIn wL (wsV RL idx RX8 y (rWs y b mL ret)) := by
  refine f_ws (fun w hw => (List.mem_cons.mp hw).elim (fun e => by rw [e]; exact kL_good _ k4) (fun h => kL_good w (kL_R w h))) (fun w hw => ?_) kL_good
  simp only [List.mem_cons, List.not_mem_nil, or_false] at hw
  rcases hw with rfl | rfl | rfl | rfl <;> assumption
theorem l_rA {H : Heap} {locs : List Loc} (C : lC X cc nL G gr A sb L xs) (hsz : H0 = (g_s X).heap) (hW : lWd G gr oa A H0 (σ, (ρ, o)) H locs) : ∀ q, rA (G.1, gr) H.size q → A q := by
  intro q h
  rcases h with ⟨j, e, h⟩ | h
  · exact (va_D.fst hW.2.1.rigl.lefl (rws_fst (G.1, gr) ρ r_0)).2 j (q, e) h
  · exact C.1.2.2.2.2.1 q (Nat.le_trans (by rw [← hsz]; exact hW.2.2.1.1) h)
theorem l_rpre {H : Heap} {locs : List Loc} (C : lC X cc nL G gr A sb L xs) (hsz : H0 = (g_s X).heap) (hW : lWd G gr oa A H0 (σ, (ρ, o)) H locs) (vs : List Value) : ∀ U : State, U.heap = H → (g_s X).WarmedH U.vm → rPc (G.1, gr) ρ H.size vs (Value.ref (gr.2.1 0) :: vs).toArray U := by
  intro U hU hW'
  exact ⟨rfl, by rw [hU], by rw [hU]; exact hW.1.rigl.lefl, ⟨va_K.moved hW'.alike C.1.2.2.2.2.2.2.1, C.2.1.go (hsz ▸ hW.2.2.1) hU hW' (l_rA C hsz hW)⟩, hW.2.1.rigl.lefl.weaken (fun _ _ _ _ => trivial)⟩
theorem l_rback {H H1 : Heap} {locs locs1 : List Loc} {τ : RSt} {t : State} (C : lC X cc nL G gr A sb L xs) (hsz : H0 = (g_s X).heap) (hW : lWd G gr oa A H0 (σ, (ρ, o)) H locs) (ht : t.heap = H1) (hB : rB (G.1, gr) H.size τ t) (hk1 : ∀ q : Nat, q < H.size → ¬ rA (G.1, gr) H.size q → H1[q]? = H[q]?) (hS : va_S A H0 H1 locs1) : lWd G gr oa A H0 (σ, (τ, o)) H1 locs1 := by
  have h := e_mid (a := cWs G σ) (b := rws (G.1, gr) ρ) (c := oC gr.1.2.2.1 oa o) (b' := rws (G.1, gr) τ) (A' := rA (G.1, gr) H.size) hW.1 hW.2.1 (ht ▸ hB.1) hB.2.2 (fun q hq => hq.elim (fun ⟨j, e, h1⟩ => by
    have h2 : ((rws (G.1, gr) r_0).map Prod.fst)[j]? = some q := by rw [List.getElem?_map, h1]; rfl
    rw [← rws_fst (G.1, gr) ρ r_0, List.getElem?_map] at h2
    cases hw : (rws (G.1, gr) ρ)[j]? with
    | none => rw [hw] at h2; cases h2
    | some q' => rw [hw] at h2; exact Or.inl ⟨j, q', hw, Option.some.inj h2⟩) Or.inr) hk1 (fun q hq => C.1.2.2.2.2.1 q (Nat.le_trans (by rw [← hsz]; exact hW.2.2.1.1) hq))
  exact ⟨h.1, h.2, hS, hW.2.2.2⟩
theorem l_rrecv {H : Heap} {locs : List Loc} (C : lC X cc nL G gr A sb L xs) (hW : lWd G gr oa A H0 (σ, (ρ, o)) H locs) : ∃ cell : Cell, H[gr.2.1 0]? = some cell ∧ cell.vm.isStatics = false ∧ (g_s X).vm.findClass RX8 = some cell.cls :=
  va_recv C.1.2.2.2.1 hW.1.rigl.lefl (ci := 8) (q0 := 0) rfl rfl
theorem l_hA {H : Heap} {locs : List Loc} (C : lC X cc nL G gr A sb L xs) (hsz : H0 = (g_s X).heap) (hW : lWd G gr oa A H0 (σ, (ρ, o)) H locs) : ∀ q, hA oa σ H.size q → A q := by
  intro q h
  rcases h with h | rfl | h
  · obtain ⟨p, hp⟩ := c_pl (G := G) h
    exact hW.2.1.lefl.2 p _ hp
  · exact hW.2.1.rigl.rigl.2 0 _ rfl
  · exact C.1.2.2.2.2.1 q (Nat.le_trans (by rw [← hsz]; exact hW.2.2.1.1) h)
theorem va_D.mid {A : Nat → Prop} {a b c : va_W} (h : va_D A (a ++ (b ++ c))) : va_D A (a ++ c) := by
  refine h.lefl.app h.rigl.rigl (fun i j p q hp hq e => ?_)
  have hq2 : (b ++ c)[b.length + j]? = some q := by rw [List.getElem?_append_right (Nat.le_add_right _ _), Nat.add_sub_cancel_left]; exact hq
  exact h.apart hp hq2 e
theorem l_hpre {H : Heap} {locs : List Loc} (C : lC X cc nL G gr A sb L xs) (hsz : H0 = (g_s X).heap) (hW : lWd G gr oa A H0 (σ, (ρ, o)) H locs) (vs : List Value) : ∀ U : State, U.heap = H → (g_s X).WarmedH U.vm → hPc G gr.1.2.2.1 oa (σ, o) H.size vs vs.toArray U := by
  intro U hU hW'
  refine ⟨rfl, by rw [hU], by rw [hU]; exact hW.1.lefl.app hW.1.rigl.rigl, ⟨va_K.moved hW'.alike C.1.2.2.2.1, C.1.2.2.2.2.2.1.go (hsz ▸ hW.2.2.1) hU hW' (l_hA C hsz hW), ?_, C.1.2.2.2.2.2.2.2.warm hW'⟩, hW.2.1.mid.weaken (fun _ _ _ _ => trivial), hW.2.2.2⟩
  have h := va_K.moved (U := U) hW'.alike C.1.2.2.2.2.2.2.1
  refine ⟨h.1, fun j q hq => ?_⟩
  cases j with
  | zero => cases hq; exact h.2 2 _ rfl
  | succ j => cases hq
/-- the first and the last block have become others; the middle one stays -/
theorem e_two {D : va_G} {cl : List vw_C} {A A' : Nat → Prop} {a b c a' c' : va_W} {H H1 : Heap} (hP : va_P D cl (a ++ (b ++ c)) H) (hD : va_D A (a ++ (b ++ c))) (hP' : va_P D cl (a' ++ c') H1) (hD' : va_D A' (a' ++ c')) (hA' : ∀ q, A' q → (∃ (k : Nat) (e : Nat × va_E), (a ++ c)[k]? = some e ∧ e.1 = q) ∨ H.size ≤ q) (hk : ∀ q : Nat, q < H.size → ¬ A' q → H1[q]? = H[q]?) (hAn : ∀ q, H.size ≤ q → A q) : va_P D cl (a' ++ (b ++ c')) H1 ∧ va_D A (a' ++ (b ++ c')) := by
  have nb : ∀ (i : Nat) (p : Nat × va_E), b[i]? = some p → ¬ A' p.1 := by
    intro i p hp hA
    rcases hA' _ hA with ⟨k, e, h1, h2⟩ | h
    · have hb : (b ++ c)[i]? = some p := by rw [List.getElem?_append_left (List.getElem?_eq_some_iff.mp hp).1]; exact hp
      rcases Nat.lt_or_ge k a.length with hj | hj
      · rw [List.getElem?_append_left hj] at h1
        exact hD.apart h1 hb h2
      · rw [List.getElem?_append_right hj] at h1
        exact hD.rigl.apart hp h1 h2.symm
    · exact absurd (vx_lt hP.rigl.lefl hp) (Nat.not_lt.mpr h)
  have hAb : ∀ q, A' q → A q := by
    intro q hA
    rcases hA' _ hA with ⟨k, e, h1, rfl⟩ | h
    · exact hD.mid.2 k e h1
    · exact hAn q h
  have hDw : va_D A (a' ++ c') := hD'.weaken (fun _ q _ h => hAb _ h)
  refine ⟨hP'.lefl.app ((hP.rigl.lefl.kept (fun i p hp => hk _ (vx_lt hP.rigl.lefl hp) (nb i p hp))).app hP'.rigl), hDw.lefl.app (hD.rigl.lefl.app hDw.rigl ?_) ?_⟩
  · intro i j p q hp hq e
    exact nb i p hp (e ▸ hD'.rigl.2 j q hq)
  · intro i j p q hp hq e
    rcases Nat.lt_or_ge j b.length with hj | hj
    · rw [List.getElem?_append_left hj] at hq
      exact nb j q hq (e ▸ hD'.lefl.2 i p hp)
    · rw [List.getElem?_append_right hj] at hq
      exact hD'.apart hp hq e
theorem l_hback {H H1 : Heap} {locs locs1 : List Loc} {τ : hSt} {t : State} (C : lC X cc nL G gr A sb L xs) (hsz : H0 = (g_s X).heap) (hW : lWd G gr oa A H0 (σ, (ρ, o)) H locs) (ht : t.heap = H1) (hB' : hB G gr.1.2.2.1 oa (hA oa σ H.size) τ t) (hk1 : ∀ q : Nat, q < H.size → ¬ hA oa σ H.size q → H1[q]? = H[q]?) (hS : va_S A H0 H1 locs1) : lWd G gr oa A H0 (τ.1, (ρ, τ.2)) H1 locs1 := by
  have h := e_two (a := cWs G σ) (b := rws (G.1, gr) ρ) (c := oC gr.1.2.2.1 oa o) (a' := cWs G τ.1) (c' := oC gr.1.2.2.1 oa τ.2) (A' := hA oa σ H.size) hW.1 hW.2.1 (ht ▸ hB'.1) hB'.2.1 (fun q hq => by
    rcases hq with h | rfl | h
    · obtain ⟨p, hp⟩ := c_pl (G := G) h
      exact Or.inl ⟨p, _, by rw [List.getElem?_append_left (List.getElem?_eq_some_iff.mp hp).1]; exact hp, rfl⟩
    · exact Or.inl ⟨(cWs G σ).length, _, h_out, rfl⟩
    · exact Or.inr h) hk1 (fun q hq => C.1.2.2.2.2.1 q (Nat.le_trans (by rw [← hsz]; exact hW.2.2.1.1) hq))
  exact ⟨h.1, h.2, hS, hB'.2.2⟩
theorem l_help {s : hSt} {post : Int32 → hSt → Prop} {hh : List (Nat × Nat × Nat × Nat)} (C : lC X cc nL G gr A sb L xs) (hsz : H0 = (g_s X).heap) (hs : s = (σ, o)) (hM' : hM (g_l X) y b mL hh f c mc ms G gr.1.2.2.1 oa s vs post) (k1 : Cond.methodLink RL idx y ∈ wL) (k2 : Cond.static y ∈ wL) (k4 : Cond.codeWith y b mL (some .int) hh ∈ wL) (k5 : Cond.initialized y.cls ∈ wL)
    (hd : y.cls ≠ "java/lang/invoke/MethodHandle" ∧ y.cls ≠ "java/lang/invoke/VarHandle" ∧ (parseMethodDescriptor y.desc).map (fun d => d.parameters.length) = some vs.length) (hR : f + 1 ≤ (g_R X).frames ∧ 8 + (mL + 11) + c ≤ (g_R X).locals) (hkn : k + mc ≤ (g_R X).cells ∧ n + ms ≤ (g_R X).slots) (hdg : decode cc pc = .ok (.invokestatic idx, 3)) (hst0 : st0 = vs.reverse ++ rest) (hst : (rest.map fun v => v.category).sum ≤ 8)
    (kk : ∀ (r : Int32) (τ : hSt), post r τ → gJ X (lWd G gr oa A H0) Q (k + mc) (n + ms) (τ.1, (ρ, τ.2)) lv (pc + 3) (.int r :: rest)) : gJ X (lWd G gr oa A H0) Q k n (σ, (ρ, o)) lv pc st0 := by
  subst hs
  intro H locs ls hW hl
  have hws : GoodIn wL (va_wsS RL idx y (hYs y b mL hh)) := by
    refine f_ws (fun w hw => (List.mem_cons.mp hw).elim (fun e => by rw [e]; exact kL_good _ k4) (fun h => kL_good w h)) (fun w hw => ?_) kL_good
    simp only [List.mem_cons, List.not_mem_nil, or_false] at hw
    rcases hw with rfl | rfl | rfl <;> assumption
  exact vx_calli (vx_runSX (As := vs) (rest := rest) ⟨C.1.1.1, C.1.1.2.1, C.1.1.2.2.2, C.1.2.1, C.1.2.2.1⟩ (hM' H.size) (vx_cwSW vs.length C.1.2.2.1 hws rfl rfl rfl hd hR) ⟨h_blind, l_hpre C hsz hW vs⟩ rfl rfl (hl.1.trans C.1.1.2.2.1) hst0 (lv_room hst) hdg hkn) hW.2.2.1 (fun q _ h => l_hA C hsz hW q h) (l_hA C hsz hW) (fun q _ h => l_hA C hsz hW q h) (fun E ce q9 u t H1 locs1 ht hvm hpx hBX hz1 hk1 hS h1 h2 h3 => hpx.elim) (fun r u t H1 locs1 ht hvm hw hB' hz1 hk1 hS => kk r u hw H1 locs1 ls (l_hback C hsz hW ht hB' hk1 hS) hl)
theorem l_lld (C : lC X cc nL G gr A sb L xs) {i : Int32} (hin : vp_in i 1) (hdg : decode cc pc = .ok (.laload, 1)) (kk : gJ X (lWd G gr oa A H0) Q k n (σ, (ρ, o)) lv (pc + 1) (.long (o i.toNatClampNeg) :: rest)) : gJ X (lWd G gr oa A H0) Q k n (σ, (ρ, o)) lv pc (.int i :: .ref oa :: rest) := by
  intro H locs ls hW hl
  refine va_lald (D := G.1) (cl := vwCl) (ws := cWs G σ ++ (rws (G.1, gr) ρ ++ oC gr.1.2.2.1 oa o)) (tys := rKt (G.1, gr)) (cA := gr.1.2.2.1) (n := 1) (f := o) C.1.1.1 C.1.1.2.1 C.1.2.2.2.2.2.2.1 hW.1 ((cWs G σ).length + (rws (G.1, gr) ρ).length) 2 ?_ rfl hin hdg (kk H locs ls hW hl)
  rw [List.getElem?_append_right (Nat.le_add_right _ _), Nat.add_sub_cancel_left]
  exact h_out
theorem l_sld (C : lC X cc nL G gr A sb L xs) (hsz : H0 = (g_s X).heap) {i : Int32} (hin : vp_in i L) (hdg : decode cc pc = .ok (.iaload, 1)) (kk : gJ X (lWd G gr oa A H0) Q k n (σ, (ρ, o)) lv (pc + 1) (.int (xs i.toNatClampNeg) :: rest)) : gJ X (lWd G gr oa A H0) Q k n (σ, (ρ, o)) lv pc (.int i :: .ref sb :: rest) := by
  intro H locs ls hW hl
  exact va_sld C.1.1.1 C.1.1.2.1 (hsz ▸ C.2.2.1) (hsz ▸ C.2.2.2.1) C.2.2.2.2 hW.2.2.1 hin hdg (kk H locs ls hW hl)
theorem l_slen (C : lC X cc nL G gr A sb L xs) (hsz : H0 = (g_s X).heap) (hdg : decode cc pc = .ok (.arraylength, 1)) (kk : gJ X (lWd G gr oa A H0) Q k n (σ, (ρ, o)) lv (pc + 1) (.int (nI L) :: rest)) : gJ X (lWd G gr oa A H0) Q k n (σ, (ρ, o)) lv pc (.ref sb :: rest) := by
  intro H locs ls hW hl
  exact va_slen C.1.1.1 C.1.1.2.1 (hsz ▸ C.2.2.1) (hsz ▸ C.2.2.2.1) C.2.2.2.2 hW.2.2.1 hdg (kk H locs ls hW hl)
theorem l_refi {post : Int32 → RSt → Prop} (C : lC X cc nL G gr A sb L xs) (hsz : H0 = (g_s X).heap) (hM' : rMi (g_l X) y b mL rt f c (G.1, gr) ρ vs post) (k1 : Cond.methodLink RL idx y ∈ wL) (k2 : Cond.instanceMethod y ∈ wL) (k3 : Cond.selects RX8 y y ∈ wL) (k4 : Cond.code y b mL (some rt) ∈ wL)
    (hd : y.cls = RX8 ∧ y.cls ≠ "java/lang/invoke/MethodHandle" ∧ y.cls ≠ "java/lang/invoke/VarHandle" ∧ (parseMethodDescriptor y.desc).map (fun d => d.parameters.length) = some vs.length) (hR : f + 1 ≤ (g_R X).frames ∧ 8 + (mL + 11) + c ≤ (g_R X).locals) (hkn : k ≤ (g_R X).cells ∧ n ≤ (g_R X).slots) (hdg : decode cc pc = .ok (.invokevirtual idx, 3)) (hst0 : st0 = vs.reverse ++ .ref (gr.2.1 0) :: rest) (hst : (rest.map fun v => v.category).sum ≤ 8)
    (kk : ∀ (r : Int32) (τ : RSt), post r τ → gJ X (lWd G gr oa A H0) Q k n (σ, (τ, o)) lv (pc + 3) (.int r :: rest)) : gJ X (lWd G gr oa A H0) Q k n (σ, (ρ, o)) lv pc st0 := by
  intro H locs ls hW hl
  exact va_calli (va_runV (As := vs) (rest := rest) ⟨C.1.1.1, C.1.1.2.1, C.1.1.2.2.2, C.1.2.1, C.1.2.2.1⟩ (hM' H.size) (cwV vs.length C.1.2.2.1 (l_wsR k1 k2 k3 k4 (kL_R _ kR_47)) rfl rfl rfl hd hR) ⟨r_blind, l_rrecv C hW, l_rpre C hsz hW vs⟩ rfl rfl (hl.1.trans C.1.1.2.2.1) hst0 (lv_room hst) hdg hkn) hW.2.2.1 (fun q _ h => l_rA C hsz hW q h) (l_rA C hsz hW) (fun r u t H1 locs1 ht hvm hw hB hz1 hk1 hS => kk r u hw H1 locs1 ls (l_rback C hsz hW ht hB hk1 hS) hl)
theorem l_refl {post : Int64 → RSt → Prop} (C : lC X cc nL G gr A sb L xs) (hsz : H0 = (g_s X).heap) (hM' : rMl (g_l X) y b mL f c (G.1, gr) ρ vs post) (k1 : Cond.methodLink RL idx y ∈ wL) (k2 : Cond.instanceMethod y ∈ wL) (k3 : Cond.selects RX8 y y ∈ wL) (k4 : Cond.code y b mL (some .long) ∈ wL)
    (hd : y.cls = RX8 ∧ y.cls ≠ "java/lang/invoke/MethodHandle" ∧ y.cls ≠ "java/lang/invoke/VarHandle" ∧ (parseMethodDescriptor y.desc).map (fun d => d.parameters.length) = some vs.length) (hR : f + 1 ≤ (g_R X).frames ∧ 8 + (mL + 11) + c ≤ (g_R X).locals) (hkn : k ≤ (g_R X).cells ∧ n ≤ (g_R X).slots) (hdg : decode cc pc = .ok (.invokevirtual idx, 3)) (hst0 : st0 = vs.reverse ++ .ref (gr.2.1 0) :: rest) (hst : (rest.map fun v => v.category).sum ≤ 8)
    (kk : ∀ (r : Int64) (τ : RSt), post r τ → gJ X (lWd G gr oa A H0) Q k n (σ, (τ, o)) lv (pc + 3) (.long r :: rest)) : gJ X (lWd G gr oa A H0) Q k n (σ, (ρ, o)) lv pc st0 := by
  intro H locs ls hW hl
  exact va_calll (va_runV (As := vs) (rest := rest) ⟨C.1.1.1, C.1.1.2.1, C.1.1.2.2.2, C.1.2.1, C.1.2.2.1⟩ (hM' H.size) (cwV vs.length C.1.2.2.1 (l_wsR k1 k2 k3 k4 (kL_R _ kR_47)) rfl rfl rfl hd hR) ⟨r_blind, l_rrecv C hW, l_rpre C hsz hW vs⟩ rfl rfl (hl.1.trans C.1.1.2.2.1) hst0 (lv_room hst) hdg hkn) hW.2.2.1 (fun q _ h => l_rA C hsz hW q h) (l_rA C hsz hW) (fun r u t H1 locs1 ht hvm hw hB hz1 hk1 hS => kk r u hw H1 locs1 ls (l_rback C hsz hW ht hB hk1 hS) hl)
theorem l_refv {post : RSt → Prop} (C : lC X cc nL G gr A sb L xs) (hsz : H0 = (g_s X).heap) (hM' : rMv (g_l X) y b mL f c (G.1, gr) ρ vs post) (k1 : Cond.methodLink RL idx y ∈ wL) (k2 : Cond.instanceMethod y ∈ wL) (k3 : Cond.selects RX8 y y ∈ wL) (k4 : Cond.code y b mL none ∈ wL)
    (hd : y.cls = RX8 ∧ y.cls ≠ "java/lang/invoke/MethodHandle" ∧ y.cls ≠ "java/lang/invoke/VarHandle" ∧ (parseMethodDescriptor y.desc).map (fun d => d.parameters.length) = some vs.length) (hR : f + 1 ≤ (g_R X).frames ∧ 8 + (mL + 11) + c ≤ (g_R X).locals) (hkn : k ≤ (g_R X).cells ∧ n ≤ (g_R X).slots) (hdg : decode cc pc = .ok (.invokevirtual idx, 3)) (hst0 : st0 = vs.reverse ++ .ref (gr.2.1 0) :: rest) (hst : (rest.map fun v => v.category).sum ≤ 8)
    (kk : ∀ (τ : RSt), post τ → gJ X (lWd G gr oa A H0) Q k n (σ, (τ, o)) lv (pc + 3) (rest)) : gJ X (lWd G gr oa A H0) Q k n (σ, (ρ, o)) lv pc st0 := by
  intro H locs ls hW hl
  exact va_callv (va_runV (As := vs) (rest := rest) ⟨C.1.1.1, C.1.1.2.1, C.1.1.2.2.2, C.1.2.1, C.1.2.2.1⟩ (hM' H.size) (cwV vs.length C.1.2.2.1 (l_wsR k1 k2 k3 k4 (kL_R _ kR_47)) rfl rfl rfl hd hR) ⟨r_blind, l_rrecv C hW, l_rpre C hsz hW vs⟩ rfl rfl (hl.1.trans C.1.1.2.2.1) hst0 (lv_room hst) hdg hkn) hW.2.2.1 (fun q _ h => l_rA C hsz hW q h) (l_rA C hsz hW) (fun u t H1 locs1 ht hvm hw hB hz1 hk1 hS => kk u hw H1 locs1 ls (l_rback C hsz hW ht hB hk1 hS) hl)
end LLIB
