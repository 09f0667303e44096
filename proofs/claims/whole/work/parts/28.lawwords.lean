theorem wLr1_in : ∀ w ∈ wsL_law_r1, w ∈ lw_tbl := fun w h => (goodIn_p wsL_law_r1 [70, 73] (by decide +kernel) (by decide +kernel) w h).1
theorem wLr2_in : ∀ w ∈ wsL_law_r2, w ∈ lw_tbl := fun w h => (goodIn_p wsL_law_r2 [78] (by decide +kernel) (by decide +kernel) w h).1
theorem wLr3_in : ∀ w ∈ wsL_law_r3, w ∈ lw_tbl := fun w h => (goodIn_p wsL_law_r3 [84, 120] (by decide +kernel) (by decide +kernel) w h).1
theorem wLr4_in : ∀ w ∈ wsL_law_r4, w ∈ lw_tbl := fun w h => (goodIn_p wsL_law_r4 [160, 216, 233, 248] (by decide +kernel) (by decide +kernel) w h).1
theorem wLr5_in : ∀ w ∈ wsL_law_r5, w ∈ lw_tbl := fun w h => (goodIn_p wsL_law_r5 [252, 256, 259, 263, 267] (by decide +kernel) (by decide +kernel) w h).1
theorem wLr6_in : ∀ w ∈ wsL_law_r6, w ∈ lw_tbl := fun w h => (goodIn_p wsL_law_r6 [271, 275, 279, 283, 287] (by decide +kernel) (by decide +kernel) w h).1
theorem wLr7_in : ∀ w ∈ wsL_law_r7, w ∈ lw_tbl := fun w h => (goodIn_p wsL_law_r7 [291, 295, 693] (by decide +kernel) (by decide +kernel) w h).1
theorem wLr8_in : ∀ w ∈ wsL_law_r8, w ∈ lw_tbl := fun w h => (goodIn_p wsL_law_r8 [321, 324, 327, 333, 337] (by decide +kernel) (by decide +kernel) w h).1
theorem wLr9_in : ∀ w ∈ wsL_law_r9, w ∈ lw_tbl := fun w h => (goodIn_p wsL_law_r9 [341, 345, 349, 353, 360, 357] (by decide +kernel) (by decide +kernel) w h).1
theorem wLr10_in : ∀ w ∈ wsL_law_r10, w ∈ lw_tbl := fun w h => (goodIn_p wsL_law_r10 [364, 368, 750, 753, 756, 760, 764] (by decide +kernel) (by decide +kernel) w h).1
theorem wLr11_in : ∀ w ∈ wsL_law_r11, w ∈ lw_tbl := fun w h => (goodIn_p wsL_law_r11 [768, 772, 776, 372, 377] (by decide +kernel) (by decide +kernel) w h).1
theorem wLr12_in : ∀ w ∈ wsL_law_r12, w ∈ lw_tbl := fun w h => (goodIn_p wsL_law_r12 [380, 388, 780, 392] (by decide +kernel) (by decide +kernel) w h).1
theorem wLr13_in : ∀ w ∈ wsL_law_r13, w ∈ lw_tbl := fun w h => (goodIn_p wsL_law_r13 [789, 793, 396, 797, 404] (by decide +kernel) (by decide +kernel) w h).1
theorem wLr14_in : ∀ w ∈ wsL_law_r14, w ∈ lw_tbl := fun w h => (goodIn_p wsL_law_r14 [408, 412, 417, 421, 425] (by decide +kernel) (by decide +kernel) w h).1
theorem wLr15_in : ∀ w ∈ wsL_law_r15, w ∈ lw_tbl := fun w h => (goodIn_p wsL_law_r15 [429, 801, 805, 809, 813, 817] (by decide +kernel) (by decide +kernel) w h).1
theorem wLr16_in : ∀ w ∈ wsL_law_r16, w ∈ lw_tbl := fun w h => (goodIn_p wsL_law_r16 [821, 825, 829, 833, 837, 841] (by decide +kernel) (by decide +kernel) w h).1
theorem wLr17_in : ∀ w ∈ wsL_law_r17, w ∈ lw_tbl := fun w h => (goodIn_p wsL_law_r17 [845, 433, 849, 437, 441, 445] (by decide +kernel) (by decide +kernel) w h).1
theorem wLr18_in : ∀ w ∈ wsL_law_r18, w ∈ lw_tbl := fun w h => (goodIn_p wsL_law_r18 [449, 453, 457, 853, 857, 461] (by decide +kernel) (by decide +kernel) w h).1
theorem wLr19_in : ∀ w ∈ wsL_law_r19, w ∈ lw_tbl := fun w h => (goodIn_p wsL_law_r19 [465, 469, 861, 473, 477, 481] (by decide +kernel) (by decide +kernel) w h).1
theorem wLr20_in : ∀ w ∈ wsL_law_r20, w ∈ lw_tbl := fun w h => (goodIn_p wsL_law_r20 [865, 869, 485, 489, 494] (by decide +kernel) (by decide +kernel) w h).1
theorem wLr21_in : ∀ w ∈ wsL_law_r21, w ∈ lw_tbl := fun w h => (goodIn_p wsL_law_r21 [873, 498, 877, 502, 506, 881] (by decide +kernel) (by decide +kernel) w h).1
theorem wLr22_in : ∀ w ∈ wsL_law_r22, w ∈ lw_tbl := fun w h => (goodIn_p wsL_law_r22 [510, 514, 518, 522, 528] (by decide +kernel) (by decide +kernel) w h).1
theorem wLr23_in : ∀ w ∈ wsL_law_r23, w ∈ lw_tbl := fun w h => (goodIn_p wsL_law_r23 [885, 889, 533, 893, 537, 541] (by decide +kernel) (by decide +kernel) w h).1
theorem wLr24_in : ∀ w ∈ wsL_law_r24, w ∈ lw_tbl := fun w h => (goodIn_p wsL_law_r24 [547, 551, 555, 559, 563] (by decide +kernel) (by decide +kernel) w h).1
theorem wLr25_in : ∀ w ∈ wsL_law_r25, w ∈ lw_tbl := fun w h => (goodIn_p wsL_law_r25 [567, 572, 897, 901, 905, 909] (by decide +kernel) (by decide +kernel) w h).1
theorem wLr26_in : ∀ w ∈ wsL_law_r26, w ∈ lw_tbl := fun w h => (goodIn_p wsL_law_r26 [913, 917, 576, 580, 921, 925] (by decide +kernel) (by decide +kernel) w h).1
theorem wLr27_in : ∀ w ∈ wsL_law_r27, w ∈ lw_tbl := fun w h => (goodIn_p wsL_law_r27 [586, 590, 595, 599, 929] (by decide +kernel) (by decide +kernel) w h).1
theorem wLr28_in : ∀ w ∈ wsL_law_r28, w ∈ lw_tbl := fun w h => (goodIn_p wsL_law_r28 [933, 937, 605, 609] (by decide +kernel) (by decide +kernel) w h).1
theorem wLr29_in : ∀ w ∈ wsL_law_r29, w ∈ lw_tbl := fun w h => (goodIn_p wsL_law_r29 [616, 621, 941, 945, 626, 630] (by decide +kernel) (by decide +kernel) w h).1
theorem wLr30_in : ∀ w ∈ wsL_law_r30, w ∈ lw_tbl := fun w h => (goodIn_p wsL_law_r30 [634, 949, 638, 642, 646] (by decide +kernel) (by decide +kernel) w h).1
theorem wLr31_in : ∀ w ∈ wsL_law_r31, w ∈ lw_tbl := fun w h => (goodIn_p wsL_law_r31 [953, 650, 654, 957, 658] (by decide +kernel) (by decide +kernel) w h).1
theorem wLr32_in : ∀ w ∈ wsL_law_r32, w ∈ lw_tbl := fun w h => (goodIn_p wsL_law_r32 [961, 662, 666, 669, 673, 676] (by decide +kernel) (by decide +kernel) w h).1
theorem wLr33_in : ∀ w ∈ wsL_law_r33, w ∈ lw_tbl := fun w h => (goodIn_p wsL_law_r33 [965, 969, 973, 977, 981, 681] (by decide +kernel) (by decide +kernel) w h).1
theorem wLr34_in : ∀ w ∈ wsL_law_r34, w ∈ lw_tbl := fun w h => (goodIn_p wsL_law_r34 [985, 989, 685, 993] (by decide +kernel) (by decide +kernel) w h).1
theorem wwsX60_in : ∀ w ∈ wsX60, w ∈ lw_tbl := by decide +kernel
theorem wwsX70_in : ∀ w ∈ wsX70, w ∈ lw_tbl := by decide +kernel
theorem wwsX10_in : ∀ w ∈ wsX10, w ∈ lw_tbl := by decide +kernel
theorem wwsX20_in : ∀ w ∈ wsX20, w ∈ lw_tbl := by decide +kernel
theorem wwsX40_in : ∀ w ∈ wsX40, w ∈ lw_tbl := by decide +kernel
theorem wwsX00_in : ∀ w ∈ wsX00, w ∈ lw_tbl := by decide +kernel
theorem wwsX50_in : ∀ w ∈ wsX50, w ∈ lw_tbl := by decide +kernel
theorem wwsX30_in : ∀ w ∈ wsX30, w ∈ lw_tbl := by decide +kernel
theorem mA {a b T : List Cond} (ha : ∀ w ∈ a, w ∈ T) (hb : ∀ w ∈ b, w ∈ T) : ∀ w ∈ a ++ b, w ∈ T := fun w h => (List.mem_append.mp h).elim (ha w) (hb w)
theorem wsL_law_in : ∀ w ∈ wsL_law, w ∈ lw_tbl := (mA (mA (mA (mA (mA (mA (mA (mA (mA (mA wLr1_in (mA wLr2_in (mA wLr3_in (mA wLr4_in (mA wLr5_in (mA wLr6_in (mA wLr7_in (mA wLr8_in (mA wLr9_in (mA wLr10_in (mA wLr11_in (mA wLr12_in (mA wLr13_in (mA wLr14_in (mA wLr15_in (mA wLr16_in (mA wLr17_in (mA wLr18_in (mA wLr19_in (mA wLr20_in (mA wLr21_in (mA wLr22_in (mA wLr23_in (mA wLr24_in (mA wLr25_in (mA wLr26_in (mA wLr27_in (mA wLr28_in (mA wLr29_in (mA wLr30_in (mA wLr31_in (mA wLr32_in (mA wLr33_in wLr34_in))))))))))))))))))))))))))))))))) wwsX60_in) wwsX70_in) wwsX10_in) wwsX20_in) wwsX40_in) wwsX00_in) wwsX50_in) wwsX30_in) (fun _ h => absurd h List.not_mem_nil))
