set_option maxRecDepth 20000 in
theorem in_wsL_law_r1 : ∀ w ∈ wsL_law_r1, w ∈ lw_tbl := fun w h => (goodIn_p wsL_law_r1 [68, 71] (by decide +kernel) (by decide +kernel) w h).1
set_option maxRecDepth 20000 in
theorem in_wsL_law_r2 : ∀ w ∈ wsL_law_r2, w ∈ lw_tbl := fun w h => (goodIn_p wsL_law_r2 [76] (by decide +kernel) (by decide +kernel) w h).1
set_option maxRecDepth 20000 in
theorem in_wsL_law_r3 : ∀ w ∈ wsL_law_r3, w ∈ lw_tbl := fun w h => (goodIn_p wsL_law_r3 [81, 110, 115, 134, 139] (by decide +kernel) (by decide +kernel) w h).1
set_option maxRecDepth 20000 in
theorem in_wsL_law_r4 : ∀ w ∈ wsL_law_r4, w ∈ lw_tbl := fun w h => (goodIn_p wsL_law_r4 [156, 160, 184, 205] (by decide +kernel) (by decide +kernel) w h).1
set_option maxRecDepth 20000 in
theorem in_wsL_law_r5 : ∀ w ∈ wsL_law_r5, w ∈ lw_tbl := fun w h => (goodIn_p wsL_law_r5 [626] (by decide +kernel) (by decide +kernel) w h).1
set_option maxRecDepth 20000 in
theorem in_wsL_law_r6 : ∀ w ∈ wsL_law_r6, w ∈ lw_tbl := fun w h => (goodIn_p wsL_law_r6 [254, 259, 713, 717, 264] (by decide +kernel) (by decide +kernel) w h).1
set_option maxRecDepth 20000 in
theorem in_wsL_law_r7 : ∀ w ∈ wsL_law_r7, w ∈ lw_tbl := fun w h => (goodIn_p wsL_law_r7 [268, 272, 276, 281, 285] (by decide +kernel) (by decide +kernel) w h).1
set_option maxRecDepth 20000 in
theorem in_wsL_law_r8 : ∀ w ∈ wsL_law_r8, w ∈ lw_tbl := fun w h => (goodIn_p wsL_law_r8 [288, 293, 297, 307, 301, 304, 723] (by decide +kernel) (by decide +kernel) w h).1
set_option maxRecDepth 20000 in
theorem in_wsL_law_r9 : ∀ w ∈ wsL_law_r9, w ∈ lw_tbl := fun w h => (goodIn_p wsL_law_r9 [727, 730, 734, 740, 312] (by decide +kernel) (by decide +kernel) w h).1
set_option maxRecDepth 20000 in
theorem in_wsL_law_r10 : ∀ w ∈ wsL_law_r10, w ∈ lw_tbl := fun w h => (goodIn_p wsL_law_r10 [744, 316, 319, 326, 332, 335] (by decide +kernel) (by decide +kernel) w h).1
set_option maxRecDepth 20000 in
theorem in_wsL_law_r11 : ∀ w ∈ wsL_law_r11, w ∈ lw_tbl := fun w h => (goodIn_p wsL_law_r11 [338, 341, 345, 349, 354, 357, 361] (by decide +kernel) (by decide +kernel) w h).1
set_option maxRecDepth 20000 in
theorem in_wsL_law_r12 : ∀ w ∈ wsL_law_r12, w ∈ lw_tbl := fun w h => (goodIn_p wsL_law_r12 [365, 369, 372, 378, 382, 385, 388, 392] (by decide +kernel) (by decide +kernel) w h).1
set_option maxRecDepth 20000 in
theorem in_wsL_law_r13 : ∀ w ∈ wsL_law_r13, w ∈ lw_tbl := fun w h => (goodIn_p wsL_law_r13 [396, 399, 403, 408, 413, 417, 422] (by decide +kernel) (by decide +kernel) w h).1
set_option maxRecDepth 20000 in
theorem in_wsL_law_r14 : ∀ w ∈ wsL_law_r14, w ∈ lw_tbl := fun w h => (goodIn_p wsL_law_r14 [427, 940, 763, 944, 756] (by decide +kernel) (by decide +kernel) w h).1
set_option maxRecDepth 20000 in
theorem in_wsL_law_r15 : ∀ w ∈ wsL_law_r15, w ∈ lw_tbl := fun w h => (goodIn_p wsL_law_r15 [760, 766, 769, 772, 776, 780, 785] (by decide +kernel) (by decide +kernel) w h).1
set_option maxRecDepth 20000 in
theorem in_wsL_law_r16 : ∀ w ∈ wsL_law_r16, w ∈ lw_tbl := fun w h => (goodIn_p wsL_law_r16 [947, 951, 955, 959, 962, 965] (by decide +kernel) (by decide +kernel) w h).1
set_option maxRecDepth 20000 in
theorem in_wsL_law_r17 : ∀ w ∈ wsL_law_r17, w ∈ lw_tbl := fun w h => (goodIn_p wsL_law_r17 [969, 817, 821, 859, 834, 973, 977] (by decide +kernel) (by decide +kernel) w h).1
set_option maxRecDepth 20000 in
theorem in_wsL_law_r18 : ∀ w ∈ wsL_law_r18, w ∈ lw_tbl := fun w h => (goodIn_p wsL_law_r18 [980, 432, 437, 748, 752] (by decide +kernel) (by decide +kernel) w h).1
set_option maxRecDepth 20000 in
theorem in_wsL_law_r19 : ∀ w ∈ wsL_law_r19, w ∈ lw_tbl := fun w h => (goodIn_p wsL_law_r19 [441, 445, 448, 451, 454, 789, 793] (by decide +kernel) (by decide +kernel) w h).1
set_option maxRecDepth 20000 in
theorem in_wsL_law_r20 : ∀ w ∈ wsL_law_r20, w ∈ lw_tbl := fun w h => (goodIn_p wsL_law_r20 [459, 813, 464, 825, 469, 472] (by decide +kernel) (by decide +kernel) w h).1
set_option maxRecDepth 20000 in
theorem in_wsL_law_r21 : ∀ w ∈ wsL_law_r21, w ∈ lw_tbl := fun w h => (goodIn_p wsL_law_r21 [475, 478, 482, 485, 488, 491, 494, 797, 800] (by decide +kernel) (by decide +kernel) w h).1
set_option maxRecDepth 20000 in
theorem in_wsL_law_r22 : ∀ w ∈ wsL_law_r22, w ∈ lw_tbl := fun w h => (goodIn_p wsL_law_r22 [803, 806, 809, 498, 502, 830] (by decide +kernel) (by decide +kernel) w h).1
set_option maxRecDepth 20000 in
theorem in_wsL_law_r23 : ∀ w ∈ wsL_law_r23, w ∈ lw_tbl := fun w h => (goodIn_p wsL_law_r23 [837, 509, 841, 515, 848] (by decide +kernel) (by decide +kernel) w h).1
set_option maxRecDepth 20000 in
theorem in_wsL_law_r24 : ∀ w ∈ wsL_law_r24, w ∈ lw_tbl := fun w h => (goodIn_p wsL_law_r24 [852, 520, 856, 524, 863, 528] (by decide +kernel) (by decide +kernel) w h).1
set_option maxRecDepth 20000 in
theorem in_wsL_law_r25 : ∀ w ∈ wsL_law_r25, w ∈ lw_tbl := fun w h => (goodIn_p wsL_law_r25 [867, 532, 871, 536, 875, 542] (by decide +kernel) (by decide +kernel) w h).1
set_option maxRecDepth 20000 in
theorem in_wsL_law_r26 : ∀ w ∈ wsL_law_r26, w ∈ lw_tbl := fun w h => (goodIn_p wsL_law_r26 [879, 547, 883, 551, 555] (by decide +kernel) (by decide +kernel) w h).1
set_option maxRecDepth 20000 in
theorem in_wsL_law_r27 : ∀ w ∈ wsL_law_r27, w ∈ lw_tbl := fun w h => (goodIn_p wsL_law_r27 [559, 888, 893] (by decide +kernel) (by decide +kernel) w h).1
set_option maxRecDepth 20000 in
theorem in_wsL_law_r28 : ∀ w ∈ wsL_law_r28, w ∈ lw_tbl := fun w h => (goodIn_p wsL_law_r28 [568, 572, 576, 580, 903, 584, 588] (by decide +kernel) (by decide +kernel) w h).1
set_option maxRecDepth 20000 in
theorem in_wsL_law_r29 : ∀ w ∈ wsL_law_r29, w ∈ lw_tbl := fun w h => (goodIn_p wsL_law_r29 [907, 593, 597, 911, 915, 603] (by decide +kernel) (by decide +kernel) w h).1
set_option maxRecDepth 20000 in
theorem in_wsL_law_r30 : ∀ w ∈ wsL_law_r30, w ∈ lw_tbl := fun w h => (goodIn_p wsL_law_r30 [919, 608, 924, 612, 928, 616] (by decide +kernel) (by decide +kernel) w h).1
set_option maxRecDepth 20000 in
theorem in_wsL_law_r31 : ∀ w ∈ wsL_law_r31, w ∈ lw_tbl := fun w h => (goodIn_p wsL_law_r31 [932, 621, 936] (by decide +kernel) (by decide +kernel) w h).1
set_option maxRecDepth 20000 in
theorem in_X9 : ∀ w ∈ wsX90, w ∈ lw_tbl := by decide +kernel
set_option maxRecDepth 20000 in
theorem in_X10 : ∀ w ∈ wsX100, w ∈ lw_tbl := by decide +kernel
set_option maxRecDepth 20000 in
theorem in_X7 : ∀ w ∈ wsX70, w ∈ lw_tbl := by decide +kernel
set_option maxRecDepth 20000 in
theorem in_X5 : ∀ w ∈ wsX50, w ∈ lw_tbl := by decide +kernel
set_option maxRecDepth 20000 in
theorem in_X1 : ∀ w ∈ wsX10, w ∈ lw_tbl := by decide +kernel
set_option maxRecDepth 20000 in
theorem in_X8 : ∀ w ∈ wsX80, w ∈ lw_tbl := by decide +kernel
set_option maxRecDepth 20000 in
theorem in_X3 : ∀ w ∈ wsX30, w ∈ lw_tbl := by decide +kernel
set_option maxRecDepth 20000 in
theorem in_X2 : ∀ w ∈ wsX20, w ∈ lw_tbl := by decide +kernel
theorem wsL_law_in : ∀ w ∈ wsL_law, w ∈ lw_tbl := by
  show ∀ w ∈ (wsL_law_r1 ++ (wsL_law_r2 ++ (wsL_law_r3 ++ (wsL_law_r4 ++ (wsL_law_r5 ++ (wsL_law_r6 ++ (wsL_law_r7 ++ (wsL_law_r8 ++ (wsL_law_r9 ++ (wsL_law_r10 ++ (wsL_law_r11 ++ (wsL_law_r12 ++ (wsL_law_r13 ++ (wsL_law_r14 ++ (wsL_law_r15 ++ (wsL_law_r16 ++ (wsL_law_r17 ++ (wsL_law_r18 ++ (wsL_law_r19 ++ (wsL_law_r20 ++ (wsL_law_r21 ++ (wsL_law_r22 ++ (wsL_law_r23 ++ (wsL_law_r24 ++ (wsL_law_r25 ++ (wsL_law_r26 ++ (wsL_law_r27 ++ (wsL_law_r28 ++ (wsL_law_r29 ++ (wsL_law_r30 ++ wsL_law_r31)))))))))))))))))))))))))))))) ++ wsX90 ++ wsX100 ++ wsX70 ++ wsX50 ++ wsX10 ++ wsX80 ++ wsX30 ++ wsX20 ++ ([] : List Cond), w ∈ lw_tbl
  exact List.forall_mem_append.mpr ⟨List.forall_mem_append.mpr ⟨List.forall_mem_append.mpr ⟨List.forall_mem_append.mpr ⟨List.forall_mem_append.mpr ⟨List.forall_mem_append.mpr ⟨List.forall_mem_append.mpr ⟨List.forall_mem_append.mpr ⟨List.forall_mem_append.mpr ⟨List.forall_mem_append.mpr ⟨in_wsL_law_r1, List.forall_mem_append.mpr ⟨in_wsL_law_r2, List.forall_mem_append.mpr ⟨in_wsL_law_r3, List.forall_mem_append.mpr ⟨in_wsL_law_r4, List.forall_mem_append.mpr ⟨in_wsL_law_r5, List.forall_mem_append.mpr ⟨in_wsL_law_r6, List.forall_mem_append.mpr ⟨in_wsL_law_r7, List.forall_mem_append.mpr ⟨in_wsL_law_r8, List.forall_mem_append.mpr ⟨in_wsL_law_r9, List.forall_mem_append.mpr ⟨in_wsL_law_r10, List.forall_mem_append.mpr ⟨in_wsL_law_r11, List.forall_mem_append.mpr ⟨in_wsL_law_r12, List.forall_mem_append.mpr ⟨in_wsL_law_r13, List.forall_mem_append.mpr ⟨in_wsL_law_r14, List.forall_mem_append.mpr ⟨in_wsL_law_r15, List.forall_mem_append.mpr ⟨in_wsL_law_r16, List.forall_mem_append.mpr ⟨in_wsL_law_r17, List.forall_mem_append.mpr ⟨in_wsL_law_r18, List.forall_mem_append.mpr ⟨in_wsL_law_r19, List.forall_mem_append.mpr ⟨in_wsL_law_r20, List.forall_mem_append.mpr ⟨in_wsL_law_r21, List.forall_mem_append.mpr ⟨in_wsL_law_r22, List.forall_mem_append.mpr ⟨in_wsL_law_r23, List.forall_mem_append.mpr ⟨in_wsL_law_r24, List.forall_mem_append.mpr ⟨in_wsL_law_r25, List.forall_mem_append.mpr ⟨in_wsL_law_r26, List.forall_mem_append.mpr ⟨in_wsL_law_r27, List.forall_mem_append.mpr ⟨in_wsL_law_r28, List.forall_mem_append.mpr ⟨in_wsL_law_r29, List.forall_mem_append.mpr ⟨in_wsL_law_r30, in_wsL_law_r31⟩⟩⟩⟩⟩⟩⟩⟩⟩⟩⟩⟩⟩⟩⟩⟩⟩⟩⟩⟩⟩⟩⟩⟩⟩⟩⟩⟩⟩⟩, in_X9⟩, in_X10⟩, in_X7⟩, in_X5⟩, in_X1⟩, in_X8⟩, in_X3⟩, in_X2⟩, fun _ h => absurd h List.not_mem_nil⟩
