theorem wLr1_in : ∀ w ∈ wsL_law_r1, w ∈ lw_tbl := fun w h => (goodIn_p wsL_law_r1 [71, 74] (by decide +kernel) (by decide +kernel) w h).1
theorem wLr2_in : ∀ w ∈ wsL_law_r2, w ∈ lw_tbl := fun w h => (goodIn_p wsL_law_r2 [79] (by decide +kernel) (by decide +kernel) w h).1
theorem wLr3_in : ∀ w ∈ wsL_law_r3, w ∈ lw_tbl := fun w h => (goodIn_p wsL_law_r3 [85, 121] (by decide +kernel) (by decide +kernel) w h).1
theorem wLr4_in : ∀ w ∈ wsL_law_r4, w ∈ lw_tbl := fun w h => (goodIn_p wsL_law_r4 [161, 217, 234, 249] (by decide +kernel) (by decide +kernel) w h).1
theorem wLr5_in : ∀ w ∈ wsL_law_r5, w ∈ lw_tbl := fun w h => (goodIn_p wsL_law_r5 [253, 257, 260, 264, 268] (by decide +kernel) (by decide +kernel) w h).1
theorem wLr6_in : ∀ w ∈ wsL_law_r6, w ∈ lw_tbl := fun w h => (goodIn_p wsL_law_r6 [272, 276, 280, 284, 288] (by decide +kernel) (by decide +kernel) w h).1
theorem wLr7_in : ∀ w ∈ wsL_law_r7, w ∈ lw_tbl := fun w h => (goodIn_p wsL_law_r7 [292, 296, 692] (by decide +kernel) (by decide +kernel) w h).1
theorem wLr8_in : ∀ w ∈ wsL_law_r8, w ∈ lw_tbl := fun w h => (goodIn_p wsL_law_r8 [322, 325, 328, 334, 338] (by decide +kernel) (by decide +kernel) w h).1
theorem wLr9_in : ∀ w ∈ wsL_law_r9, w ∈ lw_tbl := fun w h => (goodIn_p wsL_law_r9 [342, 346, 350, 354, 361, 358] (by decide +kernel) (by decide +kernel) w h).1
theorem wLr10_in : ∀ w ∈ wsL_law_r10, w ∈ lw_tbl := fun w h => (goodIn_p wsL_law_r10 [365, 369, 749, 752, 755, 759, 763] (by decide +kernel) (by decide +kernel) w h).1
theorem wLr11_in : ∀ w ∈ wsL_law_r11, w ∈ lw_tbl := fun w h => (goodIn_p wsL_law_r11 [767, 771, 775, 373, 378] (by decide +kernel) (by decide +kernel) w h).1
theorem wLr12_in : ∀ w ∈ wsL_law_r12, w ∈ lw_tbl := fun w h => (goodIn_p wsL_law_r12 [381, 389, 779, 393] (by decide +kernel) (by decide +kernel) w h).1
theorem wLr13_in : ∀ w ∈ wsL_law_r13, w ∈ lw_tbl := fun w h => (goodIn_p wsL_law_r13 [788, 792, 397, 796, 405] (by decide +kernel) (by decide +kernel) w h).1
theorem wLr14_in : ∀ w ∈ wsL_law_r14, w ∈ lw_tbl := fun w h => (goodIn_p wsL_law_r14 [409, 413, 418, 422, 426] (by decide +kernel) (by decide +kernel) w h).1
theorem wLr15_in : ∀ w ∈ wsL_law_r15, w ∈ lw_tbl := fun w h => (goodIn_p wsL_law_r15 [430, 800, 804, 808, 812, 816] (by decide +kernel) (by decide +kernel) w h).1
theorem wLr16_in : ∀ w ∈ wsL_law_r16, w ∈ lw_tbl := fun w h => (goodIn_p wsL_law_r16 [820, 824, 828, 832, 836, 840] (by decide +kernel) (by decide +kernel) w h).1
theorem wLr17_in : ∀ w ∈ wsL_law_r17, w ∈ lw_tbl := fun w h => (goodIn_p wsL_law_r17 [844, 434, 848, 438, 442, 446] (by decide +kernel) (by decide +kernel) w h).1
theorem wLr18_in : ∀ w ∈ wsL_law_r18, w ∈ lw_tbl := fun w h => (goodIn_p wsL_law_r18 [450, 454, 458, 852, 856, 462] (by decide +kernel) (by decide +kernel) w h).1
theorem wLr19_in : ∀ w ∈ wsL_law_r19, w ∈ lw_tbl := fun w h => (goodIn_p wsL_law_r19 [466, 470, 860, 474, 478, 482] (by decide +kernel) (by decide +kernel) w h).1
theorem wLr20_in : ∀ w ∈ wsL_law_r20, w ∈ lw_tbl := fun w h => (goodIn_p wsL_law_r20 [864, 868, 486, 490, 495] (by decide +kernel) (by decide +kernel) w h).1
theorem wLr21_in : ∀ w ∈ wsL_law_r21, w ∈ lw_tbl := fun w h => (goodIn_p wsL_law_r21 [872, 499, 876, 503, 507, 880] (by decide +kernel) (by decide +kernel) w h).1
theorem wLr22_in : ∀ w ∈ wsL_law_r22, w ∈ lw_tbl := fun w h => (goodIn_p wsL_law_r22 [511, 515, 519, 523, 529] (by decide +kernel) (by decide +kernel) w h).1
theorem wLr23_in : ∀ w ∈ wsL_law_r23, w ∈ lw_tbl := fun w h => (goodIn_p wsL_law_r23 [884, 888, 534, 892, 538, 542] (by decide +kernel) (by decide +kernel) w h).1
theorem wLr24_in : ∀ w ∈ wsL_law_r24, w ∈ lw_tbl := fun w h => (goodIn_p wsL_law_r24 [548, 552, 556, 560, 564] (by decide +kernel) (by decide +kernel) w h).1
theorem wLr25_in : ∀ w ∈ wsL_law_r25, w ∈ lw_tbl := fun w h => (goodIn_p wsL_law_r25 [568, 573, 896, 900, 904, 908] (by decide +kernel) (by decide +kernel) w h).1
theorem wLr26_in : ∀ w ∈ wsL_law_r26, w ∈ lw_tbl := fun w h => (goodIn_p wsL_law_r26 [912, 916, 577, 581, 920, 924] (by decide +kernel) (by decide +kernel) w h).1
theorem wLr27_in : ∀ w ∈ wsL_law_r27, w ∈ lw_tbl := fun w h => (goodIn_p wsL_law_r27 [587, 591, 596, 600, 928] (by decide +kernel) (by decide +kernel) w h).1
theorem wLr28_in : ∀ w ∈ wsL_law_r28, w ∈ lw_tbl := fun w h => (goodIn_p wsL_law_r28 [932, 936, 606, 610] (by decide +kernel) (by decide +kernel) w h).1
theorem wLr29_in : ∀ w ∈ wsL_law_r29, w ∈ lw_tbl := fun w h => (goodIn_p wsL_law_r29 [620, 940, 944, 625, 629] (by decide +kernel) (by decide +kernel) w h).1
theorem wLr30_in : ∀ w ∈ wsL_law_r30, w ∈ lw_tbl := fun w h => (goodIn_p wsL_law_r30 [633, 948, 637, 641, 645] (by decide +kernel) (by decide +kernel) w h).1
theorem wLr31_in : ∀ w ∈ wsL_law_r31, w ∈ lw_tbl := fun w h => (goodIn_p wsL_law_r31 [952, 649, 653, 956, 657, 960] (by decide +kernel) (by decide +kernel) w h).1
theorem wLr32_in : ∀ w ∈ wsL_law_r32, w ∈ lw_tbl := fun w h => (goodIn_p wsL_law_r32 [661, 665, 668, 672, 675, 964] (by decide +kernel) (by decide +kernel) w h).1
theorem wLr33_in : ∀ w ∈ wsL_law_r33, w ∈ lw_tbl := fun w h => (goodIn_p wsL_law_r33 [968, 972, 976, 980, 680, 984] (by decide +kernel) (by decide +kernel) w h).1
theorem wLr34_in : ∀ w ∈ wsL_law_r34, w ∈ lw_tbl := fun w h => (goodIn_p wsL_law_r34 [988, 684, 992] (by decide +kernel) (by decide +kernel) w h).1
theorem wwsX60_in : ∀ w ∈ wsX60, w ∈ lw_tbl := by decide +kernel
theorem wwsX70_in : ∀ w ∈ wsX70, w ∈ lw_tbl := by decide +kernel
theorem wwsX10_in : ∀ w ∈ wsX10, w ∈ lw_tbl := by decide +kernel
theorem wwsX20_in : ∀ w ∈ wsX20, w ∈ lw_tbl := by decide +kernel
theorem wwsX40_in : ∀ w ∈ wsX40, w ∈ lw_tbl := by decide +kernel
theorem wwsX00_in : ∀ w ∈ wsX00, w ∈ lw_tbl := by decide +kernel
theorem wwsX50_in : ∀ w ∈ wsX50, w ∈ lw_tbl := by decide +kernel
theorem wwsX30_in : ∀ w ∈ wsX30, w ∈ lw_tbl := by decide +kernel
theorem mA {a b T : List Cond} (ha : ∀ w ∈ a, w ∈ T) (hb : ∀ w ∈ b, w ∈ T) : ∀ w ∈ a ++ b, w ∈ T := fun w h => (List.mem_append.mp h).elim (ha w) (hb w)
theorem wsL_law_in : ∀ w ∈ wsL_law, w ∈ lw_tbl := (mA (mA (mA (mA (mA (mA (mA (mA (mA (mA wLr1_in (mA wLr2_in (mA wLr3_in (mA wLr4_in (mA wLr5_in (mA wLr6_in (mA wLr7_in (mA wLr8_in (mA wLr9_in (mA wLr10_in (mA wLr11_in (mA wLr12_in (mA wLr13_in (mA wLr14_in (mA wLr15_in (mA wLr16_in (mA wLr17_in (mA wLr18_in (mA wLr19_in (mA wLr20_in (mA wLr21_in (mA wLr22_in (mA wLr23_in (mA wLr24_in (mA wLr25_in (mA wLr26_in (mA wLr27_in (mA wLr28_in (mA wLr29_in (mA wLr30_in (mA wLr31_in (mA wLr32_in (mA wLr33_in wLr34_in))))))))))))))))))))))))))))))))) wwsX60_in) wwsX70_in) wwsX10_in) wwsX20_in) wwsX40_in) wwsX00_in) wwsX50_in) wwsX30_in) (fun _ h => absurd h List.not_mem_nil))
