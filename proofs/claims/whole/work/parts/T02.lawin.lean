set_option maxRecDepth 20000 in
theorem wsL_r1_in : ∀ w ∈ wsL_law_r1, w ∈ lw_tbl := fun w h => (goodIn_p wsL_law_r1 [80, 83] rfl (by decide +kernel) w h).1
set_option maxRecDepth 20000 in
theorem wsL_r2_in : ∀ w ∈ wsL_law_r2, w ∈ lw_tbl := fun w h => (goodIn_p wsL_law_r2 [88] rfl (by decide +kernel) w h).1
set_option maxRecDepth 20000 in
theorem wsL_r3_in : ∀ w ∈ wsL_law_r3, w ∈ lw_tbl := fun w h => (goodIn_p wsL_law_r3 [115, 131] rfl (by decide +kernel) w h).1
set_option maxRecDepth 20000 in
theorem wsL_r4_in : ∀ w ∈ wsL_law_r4, w ∈ lw_tbl := fun w h => (goodIn_p wsL_law_r4 [139, 194, 207] rfl (by decide +kernel) w h).1
set_option maxRecDepth 20000 in
theorem wsL_r5_in : ∀ w ∈ wsL_law_r5, w ∈ lw_tbl := fun w h => (goodIn_p wsL_law_r5 [757] rfl (by decide +kernel) w h).1
set_option maxRecDepth 20000 in
theorem wsL_r6_in : ∀ w ∈ wsL_law_r6, w ∈ lw_tbl := fun w h => (goodIn_p wsL_law_r6 [762, 312, 316] rfl (by decide +kernel) w h).1
set_option maxRecDepth 20000 in
theorem wsL_r7_in : ∀ w ∈ wsL_law_r7, w ∈ lw_tbl := fun w h => (goodIn_p wsL_law_r7 [896, 900, 320, 905, 324] rfl (by decide +kernel) w h).1
set_option maxRecDepth 20000 in
theorem wsL_r8_in : ∀ w ∈ wsL_law_r8, w ∈ lw_tbl := fun w h => (goodIn_p wsL_law_r8 [328, 332, 336, 339, 343, 346] rfl (by decide +kernel) w h).1
set_option maxRecDepth 20000 in
theorem wsL_r9_in : ∀ w ∈ wsL_law_r9, w ∈ lw_tbl := fun w h => (goodIn_p wsL_law_r9 [350, 355, 359, 363, 369] rfl (by decide +kernel) w h).1
set_option maxRecDepth 20000 in
theorem wsL_r10_in : ∀ w ∈ wsL_law_r10, w ∈ lw_tbl := fun w h => (goodIn_p wsL_law_r10 [373, 376, 379, 384, 387, 390, 393] rfl (by decide +kernel) w h).1
set_option maxRecDepth 20000 in
theorem wsL_r11_in : ∀ w ∈ wsL_law_r11, w ∈ lw_tbl := fun w h => (goodIn_p wsL_law_r11 [397, 411, 417, 421, 425] rfl (by decide +kernel) w h).1
set_option maxRecDepth 20000 in
theorem wsL_r12_in : ∀ w ∈ wsL_law_r12, w ∈ lw_tbl := fun w h => (goodIn_p wsL_law_r12 [429, 433, 437, 440, 444] rfl (by decide +kernel) w h).1
set_option maxRecDepth 20000 in
theorem wsL_r13_in : ∀ w ∈ wsL_law_r13, w ∈ lw_tbl := fun w h => (goodIn_p wsL_law_r13 [448, 451, 455, 909, 913] rfl (by decide +kernel) w h).1
set_option maxRecDepth 20000 in
theorem wsL_r14_in : ∀ w ∈ wsL_law_r14, w ∈ lw_tbl := fun w h => (goodIn_p wsL_law_r14 [917, 923, 926, 930] rfl (by decide +kernel) w h).1
set_option maxRecDepth 20000 in
theorem wsL_r15_in : ∀ w ∈ wsL_law_r15, w ∈ lw_tbl := fun w h => (goodIn_p wsL_law_r15 [938, 942, 948, 952, 459] rfl (by decide +kernel) w h).1
set_option maxRecDepth 20000 in
theorem wsL_r16_in : ∀ w ∈ wsL_law_r16, w ∈ lw_tbl := fun w h => (goodIn_p wsL_law_r16 [463, 466, 957, 961, 470] rfl (by decide +kernel) w h).1
set_option maxRecDepth 20000 in
theorem wsL_r17_in : ∀ w ∈ wsL_law_r17, w ∈ lw_tbl := fun w h => (goodIn_p wsL_law_r17 [474, 966, 970, 478, 974] rfl (by decide +kernel) w h).1
set_option maxRecDepth 20000 in
theorem wsL_r18_in : ∀ w ∈ wsL_law_r18, w ∈ lw_tbl := fun w h => (goodIn_p wsL_law_r18 [482, 978, 486, 983, 490] rfl (by decide +kernel) w h).1
set_option maxRecDepth 20000 in
theorem wsL_r19_in : ∀ w ∈ wsL_law_r19, w ∈ lw_tbl := fun w h => (goodIn_p wsL_law_r19 [493, 498, 502, 506, 510] rfl (by decide +kernel) w h).1
set_option maxRecDepth 20000 in
theorem wsL_r20_in : ∀ w ∈ wsL_law_r20, w ∈ lw_tbl := fun w h => (goodIn_p wsL_law_r20 [565, 514, 518, 523, 527] rfl (by decide +kernel) w h).1
set_option maxRecDepth 20000 in
theorem wsL_r21_in : ∀ w ∈ wsL_law_r21, w ∈ lw_tbl := fun w h => (goodIn_p wsL_law_r21 [531, 535, 538, 542, 546] rfl (by decide +kernel) w h).1
set_option maxRecDepth 20000 in
theorem wsL_r22_in : ∀ w ∈ wsL_law_r22, w ∈ lw_tbl := fun w h => (goodIn_p wsL_law_r22 [549, 553, 557, 562, 569] rfl (by decide +kernel) w h).1
set_option maxRecDepth 20000 in
theorem wsL_r23_in : ∀ w ∈ wsL_law_r23, w ∈ lw_tbl := fun w h => (goodIn_p wsL_law_r23 [575, 578, 581, 584, 987, 991] rfl (by decide +kernel) w h).1
set_option maxRecDepth 20000 in
theorem wsL_r24_in : ∀ w ∈ wsL_law_r24, w ∈ lw_tbl := fun w h => (goodIn_p wsL_law_r24 [995, 999, 1003, 1007, 1011] rfl (by decide +kernel) w h).1
set_option maxRecDepth 20000 in
theorem wsL_r25_in : ∀ w ∈ wsL_law_r25, w ∈ lw_tbl := fun w h => (goodIn_p wsL_law_r25 [1015, 1019, 1022, 588, 1026, 592, 595] rfl (by decide +kernel) w h).1
set_option maxRecDepth 20000 in
theorem wsL_r26_in : ∀ w ∈ wsL_law_r26, w ∈ lw_tbl := fun w h => (goodIn_p wsL_law_r26 [1030, 599, 1034, 603, 607, 610] rfl (by decide +kernel) w h).1
set_option maxRecDepth 20000 in
theorem wsL_r27_in : ∀ w ∈ wsL_law_r27, w ∈ lw_tbl := fun w h => (goodIn_p wsL_law_r27 [617, 1038, 1041, 621, 624] rfl (by decide +kernel) w h).1
set_option maxRecDepth 20000 in
theorem wsL_r28_in : ∀ w ∈ wsL_law_r28, w ∈ lw_tbl := fun w h => (goodIn_p wsL_law_r28 [627, 1045, 631, 635, 640] rfl (by decide +kernel) w h).1
set_option maxRecDepth 20000 in
theorem wsL_r29_in : ∀ w ∈ wsL_law_r29, w ∈ lw_tbl := fun w h => (goodIn_p wsL_law_r29 [645, 649, 653, 1052] rfl (by decide +kernel) w h).1
set_option maxRecDepth 20000 in
theorem wsL_r30_in : ∀ w ∈ wsL_law_r30, w ∈ lw_tbl := fun w h => (goodIn_p wsL_law_r30 [1056, 1060, 1065, 1069, 1073] rfl (by decide +kernel) w h).1
set_option maxRecDepth 20000 in
theorem wsL_r31_in : ∀ w ∈ wsL_law_r31, w ∈ lw_tbl := fun w h => (goodIn_p wsL_law_r31 [658, 662, 1077, 666, 670, 1081] rfl (by decide +kernel) w h).1
set_option maxRecDepth 20000 in
theorem wsL_r32_in : ∀ w ∈ wsL_law_r32, w ∈ lw_tbl := fun w h => (goodIn_p wsL_law_r32 [674, 678, 683, 687, 691, 1085] rfl (by decide +kernel) w h).1
set_option maxRecDepth 20000 in
theorem wsL_r33_in : ∀ w ∈ wsL_law_r33, w ∈ lw_tbl := fun w h => (goodIn_p wsL_law_r33 [695, 1089, 699, 703, 707, 712] rfl (by decide +kernel) w h).1
set_option maxRecDepth 20000 in
theorem wsL_r34_in : ∀ w ∈ wsL_law_r34, w ∈ lw_tbl := fun w h => (goodIn_p wsL_law_r34 [717, 721, 726, 730, 735] rfl (by decide +kernel) w h).1
set_option maxRecDepth 20000 in
theorem wsL_r35_in : ∀ w ∈ wsL_law_r35, w ∈ lw_tbl := fun w h => (goodIn_p wsL_law_r35 [740, 744, 1093, 1102, 1106] rfl (by decide +kernel) w h).1
set_option maxRecDepth 20000 in
theorem wsL_r36_in : ∀ w ∈ wsL_law_r36, w ∈ lw_tbl := fun w h => (goodIn_p wsL_law_r36 [748, 1110, 752, 1114] rfl (by decide +kernel) w h).1
set_option maxRecDepth 20000 in
theorem inX0 : ∀ w ∈ wsX00, w ∈ lw_tbl := by decide +kernel
set_option maxRecDepth 20000 in
theorem inX1 : ∀ w ∈ wsX10, w ∈ lw_tbl := by decide +kernel
set_option maxRecDepth 20000 in
theorem inX2 : ∀ w ∈ wsX20, w ∈ lw_tbl := by decide +kernel
set_option maxRecDepth 20000 in
theorem inX3 : ∀ w ∈ wsX30, w ∈ lw_tbl := by decide +kernel
set_option maxRecDepth 20000 in
theorem inX4 : ∀ w ∈ wsX40, w ∈ lw_tbl := by decide +kernel
set_option maxRecDepth 20000 in
theorem inX5 : ∀ w ∈ wsX50, w ∈ lw_tbl := by decide +kernel
set_option maxRecDepth 20000 in
theorem inX6 : ∀ w ∈ wsX60, w ∈ lw_tbl := by decide +kernel
set_option maxRecDepth 20000 in
theorem inX7 : ∀ w ∈ wsX70, w ∈ lw_tbl := by decide +kernel
set_option maxRecDepth 20000 in
theorem wsL_law_in : ∀ w ∈ wsL_law, w ∈ lw_tbl := by
  intro w h
  unfold wsL_law at h
  rcases List.mem_append.mp h with h | h
  · rcases List.mem_append.mp h with h | h
    · rcases List.mem_append.mp h with h | h
      · rcases List.mem_append.mp h with h | h
        · rcases List.mem_append.mp h with h | h
          · rcases List.mem_append.mp h with h | h
            · rcases List.mem_append.mp h with h | h
              · rcases List.mem_append.mp h with h | h
                · rcases List.mem_append.mp h with h | h
                  · rcases List.mem_append.mp h with h | h
                    · exact wsL_r1_in w h
                    rcases List.mem_append.mp h with h | h
                    · exact wsL_r2_in w h
                    rcases List.mem_append.mp h with h | h
                    · exact wsL_r3_in w h
                    rcases List.mem_append.mp h with h | h
                    · exact wsL_r4_in w h
                    rcases List.mem_append.mp h with h | h
                    · exact wsL_r5_in w h
                    rcases List.mem_append.mp h with h | h
                    · exact wsL_r6_in w h
                    rcases List.mem_append.mp h with h | h
                    · exact wsL_r7_in w h
                    rcases List.mem_append.mp h with h | h
                    · exact wsL_r8_in w h
                    rcases List.mem_append.mp h with h | h
                    · exact wsL_r9_in w h
                    rcases List.mem_append.mp h with h | h
                    · exact wsL_r10_in w h
                    rcases List.mem_append.mp h with h | h
                    · exact wsL_r11_in w h
                    rcases List.mem_append.mp h with h | h
                    · exact wsL_r12_in w h
                    rcases List.mem_append.mp h with h | h
                    · exact wsL_r13_in w h
                    rcases List.mem_append.mp h with h | h
                    · exact wsL_r14_in w h
                    rcases List.mem_append.mp h with h | h
                    · exact wsL_r15_in w h
                    rcases List.mem_append.mp h with h | h
                    · exact wsL_r16_in w h
                    rcases List.mem_append.mp h with h | h
                    · exact wsL_r17_in w h
                    rcases List.mem_append.mp h with h | h
                    · exact wsL_r18_in w h
                    rcases List.mem_append.mp h with h | h
                    · exact wsL_r19_in w h
                    rcases List.mem_append.mp h with h | h
                    · exact wsL_r20_in w h
                    rcases List.mem_append.mp h with h | h
                    · exact wsL_r21_in w h
                    rcases List.mem_append.mp h with h | h
                    · exact wsL_r22_in w h
                    rcases List.mem_append.mp h with h | h
                    · exact wsL_r23_in w h
                    rcases List.mem_append.mp h with h | h
                    · exact wsL_r24_in w h
                    rcases List.mem_append.mp h with h | h
                    · exact wsL_r25_in w h
                    rcases List.mem_append.mp h with h | h
                    · exact wsL_r26_in w h
                    rcases List.mem_append.mp h with h | h
                    · exact wsL_r27_in w h
                    rcases List.mem_append.mp h with h | h
                    · exact wsL_r28_in w h
                    rcases List.mem_append.mp h with h | h
                    · exact wsL_r29_in w h
                    rcases List.mem_append.mp h with h | h
                    · exact wsL_r30_in w h
                    rcases List.mem_append.mp h with h | h
                    · exact wsL_r31_in w h
                    rcases List.mem_append.mp h with h | h
                    · exact wsL_r32_in w h
                    rcases List.mem_append.mp h with h | h
                    · exact wsL_r33_in w h
                    rcases List.mem_append.mp h with h | h
                    · exact wsL_r34_in w h
                    rcases List.mem_append.mp h with h | h
                    · exact wsL_r35_in w h
                    exact wsL_r36_in w h
                  · exact inX6 w h
                · exact inX7 w h
              · exact inX3 w h
            · exact inX5 w h
          · exact inX1 w h
        · exact inX2 w h
      · exact inX0 w h
    · exact inX4 w h
  · exact absurd h List.not_mem_nil
