section
-- ===== PART A: goes FIRST, ahead of the names: the tables' words, and 'selects' of the private methods out of them =====
/-- a private method of a class that the tables say can be made, by its rows of tables_1 -/
def lw_okq (q : MethodName × Nat) : Prop := (q.1.cls ≠ "java/lang/invoke/MethodHandle" ∧ q.1.cls ≠ "java/lang/invoke/VarHandle") ∧ Cond.instantiable q.1.cls q.2 ∈ tables_1 ∧ Cond.privateMethod q.1 ∈ tables_1 ∧ Cond.instanceMethod q.1 ∈ tables_1
theorem lw_p0 : lw_okq (⟨"FillCells", "useSettings", "()V"⟩, 7) := ⟨⟨by decide +kernel, by decide +kernel⟩, List.mem_of_getElem? (i := 13) (by decide +kernel), List.mem_of_getElem? (i := 192) (by decide +kernel), List.mem_of_getElem? (i := 193) (by decide +kernel)⟩
theorem lw_p1 : lw_okq (⟨"FillCells$Windows", "addUp", "(LFillCells$Field;I)V"⟩, 8) := ⟨⟨by decide +kernel, by decide +kernel⟩, List.mem_of_getElem? (i := 63) (by decide +kernel), List.mem_of_getElem? (i := 211) (by decide +kernel), List.mem_of_getElem? (i := 212) (by decide +kernel)⟩
theorem lw_p2 : lw_okq (⟨"FillCells$Windows", "spread", "([III)V"⟩, 8) := ⟨⟨by decide +kernel, by decide +kernel⟩, List.mem_of_getElem? (i := 63) (by decide +kernel), List.mem_of_getElem? (i := 223) (by decide +kernel), List.mem_of_getElem? (i := 224) (by decide +kernel)⟩
theorem lw_p3 : lw_okq (⟨"FillCells$Windows", "isFull", "(I)Z"⟩, 8) := ⟨⟨by decide +kernel, by decide +kernel⟩, List.mem_of_getElem? (i := 63) (by decide +kernel), List.mem_of_getElem? (i := 227) (by decide +kernel), List.mem_of_getElem? (i := 228) (by decide +kernel)⟩
theorem lw_p4 : lw_okq (⟨"FillCells", "refuse", "(I)I"⟩, 7) := ⟨⟨by decide +kernel, by decide +kernel⟩, List.mem_of_getElem? (i := 13) (by decide +kernel), List.mem_of_getElem? (i := 277) (by decide +kernel), List.mem_of_getElem? (i := 278) (by decide +kernel)⟩
theorem lw_p5 : lw_okq (⟨"FillCells$History", "start", "(I)I"⟩, 3) := ⟨⟨by decide +kernel, by decide +kernel⟩, List.mem_of_getElem? (i := 159) (by decide +kernel), List.mem_of_getElem? (i := 285) (by decide +kernel), List.mem_of_getElem? (i := 286) (by decide +kernel)⟩
theorem lw_p6 : lw_okq (⟨"FillCells$Field", "makeAlike", "(I)V"⟩, 5) := ⟨⟨by decide +kernel, by decide +kernel⟩, List.mem_of_getElem? (i := 27) (by decide +kernel), List.mem_of_getElem? (i := 308) (by decide +kernel), List.mem_of_getElem? (i := 309) (by decide +kernel)⟩
theorem lw_p7 : lw_okq (⟨"FillCells$Filling", "loneMay", "(I)Z"⟩, 9) := ⟨⟨by decide +kernel, by decide +kernel⟩, List.mem_of_getElem? (i := 21) (by decide +kernel), List.mem_of_getElem? (i := 356) (by decide +kernel), List.mem_of_getElem? (i := 357) (by decide +kernel)⟩
theorem lw_p8 : lw_okq (⟨"FillCells$Nets", "gain", "(III)I"⟩, 4) := ⟨⟨by decide +kernel, by decide +kernel⟩, List.mem_of_getElem? (i := 103) (by decide +kernel), List.mem_of_getElem? (i := 365) (by decide +kernel), List.mem_of_getElem? (i := 366) (by decide +kernel)⟩
theorem lw_p9 : lw_okq (⟨"FillCells$Filling", "twinsMay", "(II)Z"⟩, 9) := ⟨⟨by decide +kernel, by decide +kernel⟩, List.mem_of_getElem? (i := 21) (by decide +kernel), List.mem_of_getElem? (i := 369) (by decide +kernel), List.mem_of_getElem? (i := 370) (by decide +kernel)⟩
theorem lw_p10 : lw_okq (⟨"FillCells$Windows", "sumAbove", "(I)I"⟩, 8) := ⟨⟨by decide +kernel, by decide +kernel⟩, List.mem_of_getElem? (i := 63) (by decide +kernel), List.mem_of_getElem? (i := 401) (by decide +kernel), List.mem_of_getElem? (i := 402) (by decide +kernel)⟩
theorem lw_p11 : lw_okq (⟨"FillCells$Windows", "likeOne", "(II)I"⟩, 8) := ⟨⟨by decide +kernel, by decide +kernel⟩, List.mem_of_getElem? (i := 63) (by decide +kernel), List.mem_of_getElem? (i := 438) (by decide +kernel), List.mem_of_getElem? (i := 439) (by decide +kernel)⟩
theorem lw_p12 : lw_okq (⟨"FillCells", "changeFamily", "(II)I"⟩, 7) := ⟨⟨by decide +kernel, by decide +kernel⟩, List.mem_of_getElem? (i := 13) (by decide +kernel), List.mem_of_getElem? (i := 458) (by decide +kernel), List.mem_of_getElem? (i := 459) (by decide +kernel)⟩
theorem lw_p13 : lw_okq (⟨"FillCells$Windows", "shiftOne", "(II)V"⟩, 8) := ⟨⟨by decide +kernel, by decide +kernel⟩, List.mem_of_getElem? (i := 63) (by decide +kernel), List.mem_of_getElem? (i := 472) (by decide +kernel), List.mem_of_getElem? (i := 473) (by decide +kernel)⟩
theorem lw_p14 : lw_okq (⟨"FillCells$Filling", "chooseTwins", "(I)V"⟩, 9) := ⟨⟨by decide +kernel, by decide +kernel⟩, List.mem_of_getElem? (i := 21) (by decide +kernel), List.mem_of_getElem? (i := 491) (by decide +kernel), List.mem_of_getElem? (i := 492) (by decide +kernel)⟩
theorem lw_p15 : lw_okq (⟨"FillCells$Filling", "wantedTwin", "(II)I"⟩, 9) := ⟨⟨by decide +kernel, by decide +kernel⟩, List.mem_of_getElem? (i := 21) (by decide +kernel), List.mem_of_getElem? (i := 495) (by decide +kernel), List.mem_of_getElem? (i := 496) (by decide +kernel)⟩
def lw_privs_1 : List (MethodName × Nat) := [(⟨"FillCells", "useSettings", "()V"⟩, 7), (⟨"FillCells$Windows", "addUp", "(LFillCells$Field;I)V"⟩, 8), (⟨"FillCells$Windows", "spread", "([III)V"⟩, 8), (⟨"FillCells$Windows", "isFull", "(I)Z"⟩, 8), (⟨"FillCells", "refuse", "(I)I"⟩, 7), (⟨"FillCells$History", "start", "(I)I"⟩, 3), (⟨"FillCells$Field", "makeAlike", "(I)V"⟩, 5), (⟨"FillCells$Filling", "loneMay", "(I)Z"⟩, 9), (⟨"FillCells$Nets", "gain", "(III)I"⟩, 4), (⟨"FillCells$Filling", "twinsMay", "(II)Z"⟩, 9), (⟨"FillCells$Windows", "sumAbove", "(I)I"⟩, 8), (⟨"FillCells$Windows", "likeOne", "(II)I"⟩, 8), (⟨"FillCells", "changeFamily", "(II)I"⟩, 7), (⟨"FillCells$Windows", "shiftOne", "(II)V"⟩, 8), (⟨"FillCells$Filling", "chooseTwins", "(I)V"⟩, 9), (⟨"FillCells$Filling", "wantedTwin", "(II)I"⟩, 9)]
theorem lw_r1 : ∀ q ∈ lw_privs_1, lw_okq q := List.forall_mem_cons.mpr ⟨lw_p0, List.forall_mem_cons.mpr ⟨lw_p1, List.forall_mem_cons.mpr ⟨lw_p2, List.forall_mem_cons.mpr ⟨lw_p3, List.forall_mem_cons.mpr ⟨lw_p4, List.forall_mem_cons.mpr ⟨lw_p5, List.forall_mem_cons.mpr ⟨lw_p6, List.forall_mem_cons.mpr ⟨lw_p7, List.forall_mem_cons.mpr ⟨lw_p8, List.forall_mem_cons.mpr ⟨lw_p9, List.forall_mem_cons.mpr ⟨lw_p10, List.forall_mem_cons.mpr ⟨lw_p11, List.forall_mem_cons.mpr ⟨lw_p12, List.forall_mem_cons.mpr ⟨lw_p13, List.forall_mem_cons.mpr ⟨lw_p14, List.forall_mem_cons.mpr ⟨lw_p15, fun _ h => absurd h List.not_mem_nil⟩⟩⟩⟩⟩⟩⟩⟩⟩⟩⟩⟩⟩⟩⟩⟩
theorem lw_p16 : lw_okq (⟨"FillCells$Filling", "isWanted", "(II)Z"⟩, 9) := ⟨⟨by decide +kernel, by decide +kernel⟩, List.mem_of_getElem? (i := 21) (by decide +kernel), List.mem_of_getElem? (i := 499) (by decide +kernel), List.mem_of_getElem? (i := 500) (by decide +kernel)⟩
theorem lw_p17 : lw_okq (⟨"FillCells$Filling", "isChosen", "(II)Z"⟩, 9) := ⟨⟨by decide +kernel, by decide +kernel⟩, List.mem_of_getElem? (i := 21) (by decide +kernel), List.mem_of_getElem? (i := 507) (by decide +kernel), List.mem_of_getElem? (i := 508) (by decide +kernel)⟩
theorem lw_p18 : lw_okq (⟨"FillCells$Filling", "rank", "(II)I"⟩, 9) := ⟨⟨by decide +kernel, by decide +kernel⟩, List.mem_of_getElem? (i := 21) (by decide +kernel), List.mem_of_getElem? (i := 511) (by decide +kernel), List.mem_of_getElem? (i := 512) (by decide +kernel)⟩
theorem lw_p19 : lw_okq (⟨"FillCells$Filling", "rate", "(III)V"⟩, 9) := ⟨⟨by decide +kernel, by decide +kernel⟩, List.mem_of_getElem? (i := 21) (by decide +kernel), List.mem_of_getElem? (i := 563) (by decide +kernel), List.mem_of_getElem? (i := 564) (by decide +kernel)⟩
theorem lw_p20 : lw_okq (⟨"FillCells$Filling", "stretch", "(I)I"⟩, 9) := ⟨⟨by decide +kernel, by decide +kernel⟩, List.mem_of_getElem? (i := 21) (by decide +kernel), List.mem_of_getElem? (i := 576) (by decide +kernel), List.mem_of_getElem? (i := 577) (by decide +kernel)⟩
theorem lw_p21 : lw_okq (⟨"FillCellsModel", "refuses", "(I)I"⟩, 17) := ⟨⟨by decide +kernel, by decide +kernel⟩, List.mem_of_getElem? (i := 634) (by decide +kernel), List.mem_of_getElem? (i := 702) (by decide +kernel), List.mem_of_getElem? (i := 703) (by decide +kernel)⟩
theorem lw_p22 : lw_okq (⟨"FillCellsModel", "aside", "()V"⟩, 17) := ⟨⟨by decide +kernel, by decide +kernel⟩, List.mem_of_getElem? (i := 634) (by decide +kernel), List.mem_of_getElem? (i := 706) (by decide +kernel), List.mem_of_getElem? (i := 707) (by decide +kernel)⟩
theorem lw_p23 : lw_okq (⟨"FillCellsModel", "keeps", "()V"⟩, 17) := ⟨⟨by decide +kernel, by decide +kernel⟩, List.mem_of_getElem? (i := 634) (by decide +kernel), List.mem_of_getElem? (i := 710) (by decide +kernel), List.mem_of_getElem? (i := 711) (by decide +kernel)⟩
theorem lw_p24 : lw_okq (⟨"FillCellsModel", "settles", "()V"⟩, 17) := ⟨⟨by decide +kernel, by decide +kernel⟩, List.mem_of_getElem? (i := 634) (by decide +kernel), List.mem_of_getElem? (i := 714) (by decide +kernel), List.mem_of_getElem? (i := 715) (by decide +kernel)⟩
theorem lw_p25 : lw_okq (⟨"FillCellsModel", "sumOf", "(I)I"⟩, 17) := ⟨⟨by decide +kernel, by decide +kernel⟩, List.mem_of_getElem? (i := 634) (by decide +kernel), List.mem_of_getElem? (i := 718) (by decide +kernel), List.mem_of_getElem? (i := 719) (by decide +kernel)⟩
theorem lw_p26 : lw_okq (⟨"FillCellsModel", "fillOf", "()I"⟩, 17) := ⟨⟨by decide +kernel, by decide +kernel⟩, List.mem_of_getElem? (i := 634) (by decide +kernel), List.mem_of_getElem? (i := 735) (by decide +kernel), List.mem_of_getElem? (i := 736) (by decide +kernel)⟩
theorem lw_p27 : lw_okq (⟨"FillCellsModel", "lays", "()V"⟩, 17) := ⟨⟨by decide +kernel, by decide +kernel⟩, List.mem_of_getElem? (i := 634) (by decide +kernel), List.mem_of_getElem? (i := 747) (by decide +kernel), List.mem_of_getElem? (i := 748) (by decide +kernel)⟩
theorem lw_p28 : lw_okq (⟨"FillCellsModel", "laysSums", "()V"⟩, 17) := ⟨⟨by decide +kernel, by decide +kernel⟩, List.mem_of_getElem? (i := 634) (by decide +kernel), List.mem_of_getElem? (i := 751) (by decide +kernel), List.mem_of_getElem? (i := 752) (by decide +kernel)⟩
theorem lw_p29 : lw_okq (⟨"FillCellsModel", "isWindow", "(I)Z"⟩, 17) := ⟨⟨by decide +kernel, by decide +kernel⟩, List.mem_of_getElem? (i := 634) (by decide +kernel), List.mem_of_getElem? (i := 755) (by decide +kernel), List.mem_of_getElem? (i := 756) (by decide +kernel)⟩
theorem lw_p30 : lw_okq (⟨"FillCellsModel", "laysThin", "()V"⟩, 17) := ⟨⟨by decide +kernel, by decide +kernel⟩, List.mem_of_getElem? (i := 634) (by decide +kernel), List.mem_of_getElem? (i := 759) (by decide +kernel), List.mem_of_getElem? (i := 760) (by decide +kernel)⟩
theorem lw_p31 : lw_okq (⟨"FillCellsModel", "isThin", "(I)Z"⟩, 17) := ⟨⟨by decide +kernel, by decide +kernel⟩, List.mem_of_getElem? (i := 634) (by decide +kernel), List.mem_of_getElem? (i := 763) (by decide +kernel), List.mem_of_getElem? (i := 764) (by decide +kernel)⟩
def lw_privs_2 : List (MethodName × Nat) := [(⟨"FillCells$Filling", "isWanted", "(II)Z"⟩, 9), (⟨"FillCells$Filling", "isChosen", "(II)Z"⟩, 9), (⟨"FillCells$Filling", "rank", "(II)I"⟩, 9), (⟨"FillCells$Filling", "rate", "(III)V"⟩, 9), (⟨"FillCells$Filling", "stretch", "(I)I"⟩, 9), (⟨"FillCellsModel", "refuses", "(I)I"⟩, 17), (⟨"FillCellsModel", "aside", "()V"⟩, 17), (⟨"FillCellsModel", "keeps", "()V"⟩, 17), (⟨"FillCellsModel", "settles", "()V"⟩, 17), (⟨"FillCellsModel", "sumOf", "(I)I"⟩, 17), (⟨"FillCellsModel", "fillOf", "()I"⟩, 17), (⟨"FillCellsModel", "lays", "()V"⟩, 17), (⟨"FillCellsModel", "laysSums", "()V"⟩, 17), (⟨"FillCellsModel", "isWindow", "(I)Z"⟩, 17), (⟨"FillCellsModel", "laysThin", "()V"⟩, 17), (⟨"FillCellsModel", "isThin", "(I)Z"⟩, 17)]
theorem lw_r2 : ∀ q ∈ lw_privs_2, lw_okq q := List.forall_mem_cons.mpr ⟨lw_p16, List.forall_mem_cons.mpr ⟨lw_p17, List.forall_mem_cons.mpr ⟨lw_p18, List.forall_mem_cons.mpr ⟨lw_p19, List.forall_mem_cons.mpr ⟨lw_p20, List.forall_mem_cons.mpr ⟨lw_p21, List.forall_mem_cons.mpr ⟨lw_p22, List.forall_mem_cons.mpr ⟨lw_p23, List.forall_mem_cons.mpr ⟨lw_p24, List.forall_mem_cons.mpr ⟨lw_p25, List.forall_mem_cons.mpr ⟨lw_p26, List.forall_mem_cons.mpr ⟨lw_p27, List.forall_mem_cons.mpr ⟨lw_p28, List.forall_mem_cons.mpr ⟨lw_p29, List.forall_mem_cons.mpr ⟨lw_p30, List.forall_mem_cons.mpr ⟨lw_p31, fun _ h => absurd h List.not_mem_nil⟩⟩⟩⟩⟩⟩⟩⟩⟩⟩⟩⟩⟩⟩⟩⟩
theorem lw_p32 : lw_okq (⟨"FillCellsModel", "laysBurdens", "()V"⟩, 17) := ⟨⟨by decide +kernel, by decide +kernel⟩, List.mem_of_getElem? (i := 634) (by decide +kernel), List.mem_of_getElem? (i := 767) (by decide +kernel), List.mem_of_getElem? (i := 768) (by decide +kernel)⟩
theorem lw_p33 : lw_okq (⟨"FillCellsModel", "isBurden", "(II)Z"⟩, 17) := ⟨⟨by decide +kernel, by decide +kernel⟩, List.mem_of_getElem? (i := 634) (by decide +kernel), List.mem_of_getElem? (i := 771) (by decide +kernel), List.mem_of_getElem? (i := 772) (by decide +kernel)⟩
theorem lw_p34 : lw_okq (⟨"FillCellsModel", "liesBeside", "(II)Z"⟩, 17) := ⟨⟨by decide +kernel, by decide +kernel⟩, List.mem_of_getElem? (i := 634) (by decide +kernel), List.mem_of_getElem? (i := 775) (by decide +kernel), List.mem_of_getElem? (i := 776) (by decide +kernel)⟩
theorem lw_p35 : lw_okq (⟨"FillCellsModel", "may", "(I)Z"⟩, 17) := ⟨⟨by decide +kernel, by decide +kernel⟩, List.mem_of_getElem? (i := 634) (by decide +kernel), List.mem_of_getElem? (i := 779) (by decide +kernel), List.mem_of_getElem? (i := 780) (by decide +kernel)⟩
theorem lw_p36 : lw_okq (⟨"FillCellsModel", "marks", "(I)V"⟩, 17) := ⟨⟨by decide +kernel, by decide +kernel⟩, List.mem_of_getElem? (i := 634) (by decide +kernel), List.mem_of_getElem? (i := 783) (by decide +kernel), List.mem_of_getElem? (i := 784) (by decide +kernel)⟩
theorem lw_p37 : lw_okq (⟨"FillCellsModel", "manyIn", "(I)I"⟩, 17) := ⟨⟨by decide +kernel, by decide +kernel⟩, List.mem_of_getElem? (i := 634) (by decide +kernel), List.mem_of_getElem? (i := 787) (by decide +kernel), List.mem_of_getElem? (i := 788) (by decide +kernel)⟩
theorem lw_p38 : lw_okq (⟨"FillCellsModel", "windowsNow", "(I)I"⟩, 17) := ⟨⟨by decide +kernel, by decide +kernel⟩, List.mem_of_getElem? (i := 634) (by decide +kernel), List.mem_of_getElem? (i := 799) (by decide +kernel), List.mem_of_getElem? (i := 800) (by decide +kernel)⟩
theorem lw_p39 : lw_okq (⟨"FillCellsModel", "lessThan", "(IZ)I"⟩, 17) := ⟨⟨by decide +kernel, by decide +kernel⟩, List.mem_of_getElem? (i := 634) (by decide +kernel), List.mem_of_getElem? (i := 811) (by decide +kernel), List.mem_of_getElem? (i := 812) (by decide +kernel)⟩
theorem lw_p40 : lw_okq (⟨"FillCellsModel", "fills", "(I)V"⟩, 17) := ⟨⟨by decide +kernel, by decide +kernel⟩, List.mem_of_getElem? (i := 634) (by decide +kernel), List.mem_of_getElem? (i := 831) (by decide +kernel), List.mem_of_getElem? (i := 832) (by decide +kernel)⟩
theorem lw_p41 : lw_okq (⟨"FillCellsModel", "nextBy", "(I)I"⟩, 17) := ⟨⟨by decide +kernel, by decide +kernel⟩, List.mem_of_getElem? (i := 634) (by decide +kernel), List.mem_of_getElem? (i := 843) (by decide +kernel), List.mem_of_getElem? (i := 844) (by decide +kernel)⟩
theorem lw_p42 : lw_okq (⟨"FillCellsModel", "thinnest", "()I"⟩, 17) := ⟨⟨by decide +kernel, by decide +kernel⟩, List.mem_of_getElem? (i := 634) (by decide +kernel), List.mem_of_getElem? (i := 847) (by decide +kernel), List.mem_of_getElem? (i := 848) (by decide +kernel)⟩
theorem lw_p43 : lw_okq (⟨"FillCellsModel", "reaches", "(I)Z"⟩, 17) := ⟨⟨by decide +kernel, by decide +kernel⟩, List.mem_of_getElem? (i := 634) (by decide +kernel), List.mem_of_getElem? (i := 851) (by decide +kernel), List.mem_of_getElem? (i := 852) (by decide +kernel)⟩
theorem lw_p44 : lw_okq (⟨"FillCellsModel", "has", "(II)Z"⟩, 17) := ⟨⟨by decide +kernel, by decide +kernel⟩, List.mem_of_getElem? (i := 634) (by decide +kernel), List.mem_of_getElem? (i := 855) (by decide +kernel), List.mem_of_getElem? (i := 856) (by decide +kernel)⟩
theorem lw_p45 : lw_okq (⟨"FillCellsModel", "keyBy", "(II)I"⟩, 17) := ⟨⟨by decide +kernel, by decide +kernel⟩, List.mem_of_getElem? (i := 634) (by decide +kernel), List.mem_of_getElem? (i := 859) (by decide +kernel), List.mem_of_getElem? (i := 860) (by decide +kernel)⟩
theorem lw_p46 : lw_okq (⟨"FillCellsModel", "stepsBy", "(II)I"⟩, 17) := ⟨⟨by decide +kernel, by decide +kernel⟩, List.mem_of_getElem? (i := 634) (by decide +kernel), List.mem_of_getElem? (i := 867) (by decide +kernel), List.mem_of_getElem? (i := 868) (by decide +kernel)⟩
theorem lw_p47 : lw_okq (⟨"FillCellsModel", "loses", "()I"⟩, 17) := ⟨⟨by decide +kernel, by decide +kernel⟩, List.mem_of_getElem? (i := 634) (by decide +kernel), List.mem_of_getElem? (i := 875) (by decide +kernel), List.mem_of_getElem? (i := 876) (by decide +kernel)⟩
def lw_privs_3 : List (MethodName × Nat) := [(⟨"FillCellsModel", "laysBurdens", "()V"⟩, 17), (⟨"FillCellsModel", "isBurden", "(II)Z"⟩, 17), (⟨"FillCellsModel", "liesBeside", "(II)Z"⟩, 17), (⟨"FillCellsModel", "may", "(I)Z"⟩, 17), (⟨"FillCellsModel", "marks", "(I)V"⟩, 17), (⟨"FillCellsModel", "manyIn", "(I)I"⟩, 17), (⟨"FillCellsModel", "windowsNow", "(I)I"⟩, 17), (⟨"FillCellsModel", "lessThan", "(IZ)I"⟩, 17), (⟨"FillCellsModel", "fills", "(I)V"⟩, 17), (⟨"FillCellsModel", "nextBy", "(I)I"⟩, 17), (⟨"FillCellsModel", "thinnest", "()I"⟩, 17), (⟨"FillCellsModel", "reaches", "(I)Z"⟩, 17), (⟨"FillCellsModel", "has", "(II)Z"⟩, 17), (⟨"FillCellsModel", "keyBy", "(II)I"⟩, 17), (⟨"FillCellsModel", "stepsBy", "(II)I"⟩, 17), (⟨"FillCellsModel", "loses", "()I"⟩, 17)]
theorem lw_r3 : ∀ q ∈ lw_privs_3, lw_okq q := List.forall_mem_cons.mpr ⟨lw_p32, List.forall_mem_cons.mpr ⟨lw_p33, List.forall_mem_cons.mpr ⟨lw_p34, List.forall_mem_cons.mpr ⟨lw_p35, List.forall_mem_cons.mpr ⟨lw_p36, List.forall_mem_cons.mpr ⟨lw_p37, List.forall_mem_cons.mpr ⟨lw_p38, List.forall_mem_cons.mpr ⟨lw_p39, List.forall_mem_cons.mpr ⟨lw_p40, List.forall_mem_cons.mpr ⟨lw_p41, List.forall_mem_cons.mpr ⟨lw_p42, List.forall_mem_cons.mpr ⟨lw_p43, List.forall_mem_cons.mpr ⟨lw_p44, List.forall_mem_cons.mpr ⟨lw_p45, List.forall_mem_cons.mpr ⟨lw_p46, List.forall_mem_cons.mpr ⟨lw_p47, fun _ h => absurd h List.not_mem_nil⟩⟩⟩⟩⟩⟩⟩⟩⟩⟩⟩⟩⟩⟩⟩⟩
theorem lw_p48 : lw_okq (⟨"FillCellsModel", "mayLose", "()Z"⟩, 17) := ⟨⟨by decide +kernel, by decide +kernel⟩, List.mem_of_getElem? (i := 634) (by decide +kernel), List.mem_of_getElem? (i := 879) (by decide +kernel), List.mem_of_getElem? (i := 880) (by decide +kernel)⟩
theorem lw_p49 : lw_okq (⟨"FillCellsModel", "back", "()V"⟩, 17) := ⟨⟨by decide +kernel, by decide +kernel⟩, List.mem_of_getElem? (i := 634) (by decide +kernel), List.mem_of_getElem? (i := 887) (by decide +kernel), List.mem_of_getElem? (i := 888) (by decide +kernel)⟩
theorem lw_p50 : lw_okq (⟨"FillCellsModel", "skips", "()V"⟩, 17) := ⟨⟨by decide +kernel, by decide +kernel⟩, List.mem_of_getElem? (i := 634) (by decide +kernel), List.mem_of_getElem? (i := 911) (by decide +kernel), List.mem_of_getElem? (i := 912) (by decide +kernel)⟩
theorem lw_p51 : lw_okq (⟨"FillCellsModel", "byteAt", "(I)I"⟩, 17) := ⟨⟨by decide +kernel, by decide +kernel⟩, List.mem_of_getElem? (i := 634) (by decide +kernel), List.mem_of_getElem? (i := 915) (by decide +kernel), List.mem_of_getElem? (i := 916) (by decide +kernel)⟩
theorem lw_p52 : lw_okq (⟨"FillCellsModel", "isRow", "()Z"⟩, 17) := ⟨⟨by decide +kernel, by decide +kernel⟩, List.mem_of_getElem? (i := 634) (by decide +kernel), List.mem_of_getElem? (i := 919) (by decide +kernel), List.mem_of_getElem? (i := 920) (by decide +kernel)⟩
theorem lw_p53 : lw_okq (⟨"FillCellsModel", "becomes", "(II)V"⟩, 17) := ⟨⟨by decide +kernel, by decide +kernel⟩, List.mem_of_getElem? (i := 634) (by decide +kernel), List.mem_of_getElem? (i := 923) (by decide +kernel), List.mem_of_getElem? (i := 924) (by decide +kernel)⟩
theorem lw_p54 : lw_okq (⟨"FillCellsModel", "toldOf", "(I)I"⟩, 17) := ⟨⟨by decide +kernel, by decide +kernel⟩, List.mem_of_getElem? (i := 634) (by decide +kernel), List.mem_of_getElem? (i := 931) (by decide +kernel), List.mem_of_getElem? (i := 932) (by decide +kernel)⟩
def lw_privs_4 : List (MethodName × Nat) := [(⟨"FillCellsModel", "mayLose", "()Z"⟩, 17), (⟨"FillCellsModel", "back", "()V"⟩, 17), (⟨"FillCellsModel", "skips", "()V"⟩, 17), (⟨"FillCellsModel", "byteAt", "(I)I"⟩, 17), (⟨"FillCellsModel", "isRow", "()Z"⟩, 17), (⟨"FillCellsModel", "becomes", "(II)V"⟩, 17), (⟨"FillCellsModel", "toldOf", "(I)I"⟩, 17)]
theorem lw_r4 : ∀ q ∈ lw_privs_4, lw_okq q := List.forall_mem_cons.mpr ⟨lw_p48, List.forall_mem_cons.mpr ⟨lw_p49, List.forall_mem_cons.mpr ⟨lw_p50, List.forall_mem_cons.mpr ⟨lw_p51, List.forall_mem_cons.mpr ⟨lw_p52, List.forall_mem_cons.mpr ⟨lw_p53, List.forall_mem_cons.mpr ⟨lw_p54, fun _ h => absurd h List.not_mem_nil⟩⟩⟩⟩⟩⟩⟩
def lw_privs : List (MethodName × Nat) := lw_privs_1 ++ (lw_privs_2 ++ (lw_privs_3 ++ (lw_privs_4)))
def lw_tbl : List Cond := k2_sels lw_privs ++ tables_1
theorem lw_privs_ok : ∀ q ∈ lw_privs, lw_okq q := by
  show ∀ q ∈ lw_privs_1 ++ (lw_privs_2 ++ (lw_privs_3 ++ (lw_privs_4))), lw_okq q
  exact List.forall_mem_append.mpr ⟨lw_r1, List.forall_mem_append.mpr ⟨lw_r2, List.forall_mem_append.mpr ⟨lw_r3, lw_r4⟩⟩⟩
-- ===== end of PART A; then your names; then what follows =====
/-! ===== BEGIN words of one list among another's, by their places ===== -/
theorem goodIn_r {big : List Cond} (ws : List Cond) (ps : List Nat) (hp : ws = ps.filterMap (fun i => big[i]?)) (h : ws.all goodWord = true) : GoodIn big ws := by
  intro w hw
  have h1 := List.all_eq_true.mp h w hw
  rw [hp] at hw
  obtain ⟨i, -, hi⟩ := List.mem_filterMap.mp hw
  have hm : w ∈ big := by first | exact List.mem_of_getElem? hi | exact List.getElem?_mem hi
  exact ⟨hm, good_of_word h1⟩
theorem goodIn_app {big a b : List Cond} (ha : GoodIn big a) (hb : GoodIn big b) : GoodIn big (a ++ b) := fun w h => (List.mem_append.mp h).elim (ha w) (hb w)
theorem goodIn_ca {big a b : List Cond} {c : Cond} (ha : GoodIn big (c :: a)) (hb : GoodIn big b) : GoodIn big (c :: (a ++ b)) := fun w h => (List.mem_cons.mp h).elim (fun e => ha w (List.mem_cons.mpr (Or.inl e))) (fun h => (List.mem_append.mp h).elim (fun h => ha w (List.mem_cons.mpr (Or.inr h))) (hb w))
theorem goodIn_sub {big ws : List Cond} (hm : ∀ w ∈ ws, w ∈ big) (h : ws.all goodWord = true) : GoodIn big ws := fun w hw => ⟨hm w hw, good_of_word (List.all_eq_true.mp h w hw)⟩
/-! ===== END ===== -/

/-! ===== BEGIN printed: names, fields, word lists, decode rows ===== -/
def RX0 : String := "FillCells$Field"
def TX0 : u_T := fun k => match k with
  | 0 => ("FillCells$Field", "shapes", "[I", true)
  | 1 => ("FillCells$Field", "shut", "[I", true)
  | 2 => ("FillCells$Field", "net", "[I", true)
  | 3 => ("FillCells$Field", "twins", "[I", true)
  | _ => ("FillCells$Field", "fill", "[I", true)
def tyX0 : Nat → FieldType := fun k => match k with
  | 0 => .array .int
  | 1 => .array .int
  | 2 => .array .int
  | 3 => .array .int
  | _ => .array .int
abbrev wsX00 : List Cond := u_ws RX0 TX0 5
theorem nmX0 : ∀ a, a < 5 → ∀ b, b < 5 → a ≠ b → (TX0 a).2.1 ≠ (TX0 b).2.1 := by decide +kernel
theorem tyX0_ok : ∀ k, k < 5 → parseFieldDescriptor (TX0 k).2.2.1 = some (tyX0 k) := by decide +kernel
abbrev cX0_init : ByteArray := prog_2_method_1_code
def yX0_init : MethodName := ⟨RX0, "<init>", "()V"⟩
abbrev cX0_part : ByteArray := prog_2_method_2_code
def yX0_part : MethodName := ⟨RX0, "part", "(I)[I"⟩
abbrev cX0_sumOf : ByteArray := prog_2_method_3_code
def yX0_sumOf : MethodName := ⟨RX0, "sumOf", "(I)I"⟩
abbrev cX0_room : ByteArray := prog_2_method_4_code
def yX0_room : MethodName := ⟨RX0, "room", "(I)I"⟩
abbrev cX0_countFilled : ByteArray := prog_2_method_5_code
def yX0_countFilled : MethodName := ⟨RX0, "countFilled", "()I"⟩
abbrev cX0_drawShapes : ByteArray := prog_2_method_6_code
def yX0_drawShapes : MethodName := ⟨RX0, "drawShapes", "(II)V"⟩
abbrev cX0_settle : ByteArray := prog_2_method_7_code
def yX0_settle : MethodName := ⟨RX0, "settle", "()V"⟩
abbrev cX0_makeAlike : ByteArray := prog_2_method_8_code
def yX0_makeAlike : MethodName := ⟨RX0, "makeAlike", "(I)V"⟩
abbrev cX0_packed : ByteArray := prog_2_method_9_code
def yX0_packed : MethodName := ⟨RX0, "packed", "(I)I"⟩
abbrev cX0_unpack : ByteArray := prog_2_method_10_code
def yX0_unpack : MethodName := ⟨RX0, "unpack", "(II)V"⟩
def RX1 : String := "FillCells$Filling"
def TX1 : u_T := fun k => match k with
  | 0 => ("FillCells$Filling", "field", "LFillCells$Field;", true)
  | 1 => ("FillCells$Filling", "windows", "LFillCells$Windows;", true)
  | 2 => ("FillCells$Filling", "nets", "LFillCells$Nets;", true)
  | 3 => ("FillCells$Filling", "bestRule", "I", false)
  | 4 => ("FillCells$Filling", "bestThin", "I", false)
  | 5 => ("FillCells$Filling", "bestFill", "I", false)
  | 6 => ("FillCells$Filling", "twinsChosen", "[Z", true)
  | 7 => ("FillCells$Filling", "fillAhead", "[I", true)
  | _ => ("FillCells$Filling", "line", "[I", true)
def tyX1 : Nat → FieldType := fun k => match k with
  | 0 => .object "FillCells$Field"
  | 1 => .object "FillCells$Windows"
  | 2 => .object "FillCells$Nets"
  | 3 => .int
  | 4 => .int
  | 5 => .int
  | 6 => .array .boolean
  | 7 => .array .int
  | _ => .array .int
abbrev wsX10 : List Cond := u_ws RX1 TX1 9
theorem nmX1 : ∀ a, a < 9 → ∀ b, b < 9 → a ≠ b → (TX1 a).2.1 ≠ (TX1 b).2.1 := by decide +kernel
theorem tyX1_ok : ∀ k, k < 9 → parseFieldDescriptor (TX1 k).2.2.1 = some (tyX1 k) := by decide +kernel
abbrev cX1_init : ByteArray := prog_3_method_1_code
def yX1_init : MethodName := ⟨RX1, "<init>", "()V"⟩
abbrev cX1_measure : ByteArray := prog_3_method_2_code
def yX1_measure : MethodName := ⟨RX1, "measure", "()V"⟩
abbrev cX1_may : ByteArray := prog_3_method_3_code
def yX1_may : MethodName := ⟨RX1, "may", "(I)Z"⟩
abbrev cX1_loneMay : ByteArray := prog_3_method_4_code
def yX1_loneMay : MethodName := ⟨RX1, "loneMay", "(I)Z"⟩
abbrev cX1_twinsMay : ByteArray := prog_3_method_5_code
def yX1_twinsMay : MethodName := ⟨RX1, "twinsMay", "(II)Z"⟩
abbrev cX1_choice : ByteArray := prog_3_method_6_code
def yX1_choice : MethodName := ⟨RX1, "choice", "(I)I"⟩
abbrev cX1_chooseTwins : ByteArray := prog_3_method_7_code
def yX1_chooseTwins : MethodName := ⟨RX1, "chooseTwins", "(I)V"⟩
abbrev cX1_wantedTwin : ByteArray := prog_3_method_8_code
def yX1_wantedTwin : MethodName := ⟨RX1, "wantedTwin", "(II)I"⟩
abbrev cX1_isWanted : ByteArray := prog_3_method_9_code
def yX1_isWanted : MethodName := ⟨RX1, "isWanted", "(II)Z"⟩
abbrev cX1_isChosen : ByteArray := prog_3_method_10_code
def yX1_isChosen : MethodName := ⟨RX1, "isChosen", "(II)Z"⟩
abbrev cX1_rank : ByteArray := prog_3_method_11_code
def yX1_rank : MethodName := ⟨RX1, "rank", "(II)I"⟩
abbrev cX1_change : ByteArray := prog_3_method_12_code
def yX1_change : MethodName := ⟨RX1, "change", "(II)V"⟩
abbrev cX1_stepOn : ByteArray := prog_3_method_13_code
def yX1_stepOn : MethodName := ⟨RX1, "stepOn", "(II)I"⟩
abbrev cX1_thinOut : ByteArray := prog_3_method_14_code
def yX1_thinOut : MethodName := ⟨RX1, "thinOut", "()I"⟩
abbrev cX1_tryRules : ByteArray := prog_3_method_15_code
def yX1_tryRules : MethodName := ⟨RX1, "tryRules", "()V"⟩
abbrev cX1_rate : ByteArray := prog_3_method_16_code
def yX1_rate : MethodName := ⟨RX1, "rate", "(III)V"⟩
abbrev cX1_leastInRow : ByteArray := prog_3_method_17_code
def yX1_leastInRow : MethodName := ⟨RX1, "leastInRow", "(II)I"⟩
abbrev cX1_stretch : ByteArray := prog_3_method_18_code
def yX1_stretch : MethodName := ⟨RX1, "stretch", "(I)I"⟩
def RX2 : String := "FillCells$History"
def TX2 : u_T := fun k => match k with
  | 0 => ("FillCells$History", "kept", "I", false)
  | 1 => ("FillCells$History", "oldest", "I", false)
  | _ => ("FillCells$History", "fields", "[I", true)
def tyX2 : Nat → FieldType := fun k => match k with
  | 0 => .int
  | 1 => .int
  | _ => .array .int
abbrev wsX20 : List Cond := u_ws RX2 TX2 3
theorem nmX2 : ∀ a, a < 3 → ∀ b, b < 3 → a ≠ b → (TX2 a).2.1 ≠ (TX2 b).2.1 := by decide +kernel
theorem tyX2_ok : ∀ k, k < 3 → parseFieldDescriptor (TX2 k).2.2.1 = some (tyX2 k) := by decide +kernel
abbrev cX2_init : ByteArray := prog_4_method_1_code
def yX2_init : MethodName := ⟨RX2, "<init>", "()V"⟩
abbrev cX2_note : ByteArray := prog_4_method_2_code
def yX2_note : MethodName := ⟨RX2, "note", "(LFillCells$Field;)V"⟩
abbrev cX2_keep : ByteArray := prog_4_method_3_code
def yX2_keep : MethodName := ⟨RX2, "keep", "()V"⟩
abbrev cX2_takeBack : ByteArray := prog_4_method_4_code
def yX2_takeBack : MethodName := ⟨RX2, "takeBack", "(LFillCells$Field;)V"⟩
abbrev cX2_start : ByteArray := prog_4_method_5_code
def yX2_start : MethodName := ⟨RX2, "start", "(I)I"⟩
def RX3 : String := "FillCells$Nets"
def TX3 : u_T := fun k => match k with
  | 0 => ("FillCells$Nets", "limits", "[I", true)
  | 1 => ("FillCells$Nets", "burdens", "[I", true)
  | 2 => ("FillCells$Nets", "borne", "[I", true)
  | _ => ("FillCells$Nets", "twinsBorne", "[I", true)
def tyX3 : Nat → FieldType := fun k => match k with
  | 0 => .array .int
  | 1 => .array .int
  | 2 => .array .int
  | _ => .array .int
abbrev wsX30 : List Cond := u_ws RX3 TX3 4
theorem nmX3 : ∀ a, a < 4 → ∀ b, b < 4 → a ≠ b → (TX3 a).2.1 ≠ (TX3 b).2.1 := by decide +kernel
theorem tyX3_ok : ∀ k, k < 4 → parseFieldDescriptor (TX3 k).2.2.1 = some (tyX3 k) := by decide +kernel
abbrev cX3_init : ByteArray := prog_5_method_1_code
def yX3_init : MethodName := ⟨RX3, "<init>", "()V"⟩
abbrev cX3_measure : ByteArray := prog_5_method_2_code
def yX3_measure : MethodName := ⟨RX3, "measure", "(LFillCells$Field;)V"⟩
abbrev cX3_netsBeside : ByteArray := prog_5_method_3_code
def yX3_netsBeside : MethodName := ⟨RX3, "netsBeside", "(LFillCells$Field;I)I"⟩
abbrev cX3_shift : ByteArray := prog_5_method_4_code
def yX3_shift : MethodName := ⟨RX3, "shift", "(II)V"⟩
abbrev cX3_gain : ByteArray := prog_5_method_5_code
def yX3_gain : MethodName := ⟨RX3, "gain", "(III)I"⟩
abbrev cX3_gainOfAll : ByteArray := prog_5_method_6_code
def yX3_gainOfAll : MethodName := ⟨RX3, "gainOfAll", "(II)I"⟩
abbrev cX3_bear : ByteArray := prog_5_method_7_code
def yX3_bear : MethodName := ⟨RX3, "bear", "(II)Z"⟩
def RX4 : String := "FillCells$Text"
def TX4 : u_T := fun k => match k with
  | 0 => ("FillCells$Text", "length", "I", false)
  | _ => ("FillCells$Text", "bytes", "[I", true)
def tyX4 : Nat → FieldType := fun k => match k with
  | 0 => .int
  | _ => .array .int
abbrev wsX40 : List Cond := u_ws RX4 TX4 2
theorem nmX4 : ∀ a, a < 2 → ∀ b, b < 2 → a ≠ b → (TX4 a).2.1 ≠ (TX4 b).2.1 := by decide +kernel
theorem tyX4_ok : ∀ k, k < 2 → parseFieldDescriptor (TX4 k).2.2.1 = some (tyX4 k) := by decide +kernel
abbrev cX4_init : ByteArray := prog_6_method_1_code
def yX4_init : MethodName := ⟨RX4, "<init>", "()V"⟩
abbrev cX4_append : ByteArray := prog_6_method_2_code
def yX4_append : MethodName := ⟨RX4, "append", "(I)V"⟩
abbrev cX4_fault : ByteArray := prog_6_method_3_code
def yX4_fault : MethodName := ⟨RX4, "fault", "()I"⟩
abbrev cX4_isSign : ByteArray := prog_6_method_4_code
def yX4_isSign : MethodName := ⟨RX4, "isSign", "(I)Z"⟩
abbrev cX4_tell : ByteArray := prog_6_method_5_code
def yX4_tell : MethodName := ⟨RX4, "tell", "(LFillCells$Field;)I"⟩
abbrev cX4_tellCell : ByteArray := prog_6_method_6_code
def yX4_tellCell : MethodName := ⟨RX4, "tellCell", "(LFillCells$Field;II)V"⟩
def RX5 : String := "FillCells$Windows"
def TX5 : u_T := fun k => match k with
  | 0 => ("FillCells$Windows", "height", "I", false)
  | 1 => ("FillCells$Windows", "width", "I", false)
  | 2 => ("FillCells$Windows", "low", "I", false)
  | 3 => ("FillCells$Windows", "high", "I", false)
  | 4 => ("FillCells$Windows", "sums", "[I", true)
  | 5 => ("FillCells$Windows", "thinOver", "[I", true)
  | 6 => ("FillCells$Windows", "fullOver", "[I", true)
  | _ => ("FillCells$Windows", "shares", "[I", true)
def tyX5 : Nat → FieldType := fun k => match k with
  | 0 => .int
  | 1 => .int
  | 2 => .int
  | 3 => .int
  | 4 => .array .int
  | 5 => .array .int
  | 6 => .array .int
  | _ => .array .int
abbrev wsX50 : List Cond := u_ws RX5 TX5 8
theorem nmX5 : ∀ a, a < 8 → ∀ b, b < 8 → a ≠ b → (TX5 a).2.1 ≠ (TX5 b).2.1 := by decide +kernel
theorem tyX5_ok : ∀ k, k < 8 → parseFieldDescriptor (TX5 k).2.2.1 = some (tyX5 k) := by decide +kernel
abbrev cX5_init : ByteArray := prog_7_method_1_code
def yX5_init : MethodName := ⟨RX5, "<init>", "()V"⟩
abbrev cX5_lies : ByteArray := prog_7_method_2_code
def yX5_lies : MethodName := ⟨RX5, "lies", "(I)Z"⟩
abbrev cX5_has : ByteArray := prog_7_method_3_code
def yX5_has : MethodName := ⟨RX5, "has", "(II)Z"⟩
abbrev cX5_share : ByteArray := prog_7_method_4_code
def yX5_share : MethodName := ⟨RX5, "share", "(III)I"⟩
abbrev cX5_isThin : ByteArray := prog_7_method_5_code
def yX5_isThin : MethodName := ⟨RX5, "isThin", "(I)Z"⟩
abbrev cX5_isFull : ByteArray := prog_7_method_6_code
def yX5_isFull : MethodName := ⟨RX5, "isFull", "(I)Z"⟩
abbrev cX5_measure : ByteArray := prog_7_method_7_code
def yX5_measure : MethodName := ⟨RX5, "measure", "(LFillCells$Field;)V"⟩
abbrev cX5_addUp : ByteArray := prog_7_method_8_code
def yX5_addUp : MethodName := ⟨RX5, "addUp", "(LFillCells$Field;I)V"⟩
abbrev cX5_spread : ByteArray := prog_7_method_9_code
def yX5_spread : MethodName := ⟨RX5, "spread", "([III)V"⟩
abbrev cX5_shift : ByteArray := prog_7_method_10_code
def yX5_shift : MethodName := ⟨RX5, "shift", "(II)V"⟩
abbrev cX5_shiftOne : ByteArray := prog_7_method_11_code
def yX5_shiftOne : MethodName := ⟨RX5, "shiftOne", "(II)V"⟩
abbrev cX5_bearTwins : ByteArray := prog_7_method_12_code
def yX5_bearTwins : MethodName := ⟨RX5, "bearTwins", "(I)Z"⟩
abbrev cX5_slack : ByteArray := prog_7_method_13_code
def yX5_slack : MethodName := ⟨RX5, "slack", "(II)I"⟩
abbrev cX5_count : ByteArray := prog_7_method_14_code
def yX5_count : MethodName := ⟨RX5, "count", "()I"⟩
abbrev cX5_countThin : ByteArray := prog_7_method_15_code
def yX5_countThin : MethodName := ⟨RX5, "countThin", "()I"⟩
abbrev cX5_countThick : ByteArray := prog_7_method_16_code
def yX5_countThick : MethodName := ⟨RX5, "countThick", "()I"⟩
abbrev cX5_countOf : ByteArray := prog_7_method_17_code
def yX5_countOf : MethodName := ⟨RX5, "countOf", "(I)I"⟩
abbrev cX5_sumAbove : ByteArray := prog_7_method_18_code
def yX5_sumAbove : MethodName := ⟨RX5, "sumAbove", "(I)I"⟩
abbrev cX5_countUnlike : ByteArray := prog_7_method_19_code
def yX5_countUnlike : MethodName := ⟨RX5, "countUnlike", "()I"⟩
abbrev cX5_unlikeSum : ByteArray := prog_7_method_20_code
def yX5_unlikeSum : MethodName := ⟨RX5, "unlikeSum", "(I)I"⟩
abbrev cX5_rising : ByteArray := prog_7_method_21_code
def yX5_rising : MethodName := ⟨RX5, "rising", "(I)I"⟩
abbrev cX5_likeOne : ByteArray := prog_7_method_22_code
def yX5_likeOne : MethodName := ⟨RX5, "likeOne", "(II)I"⟩
abbrev cX5_atLeast : ByteArray := prog_7_method_23_code
def yX5_atLeast : MethodName := ⟨RX5, "atLeast", "()I"⟩
abbrev cX5_atGreatest : ByteArray := prog_7_method_24_code
def yX5_atGreatest : MethodName := ⟨RX5, "atGreatest", "()I"⟩
def RX6 : String := "FillCells"
def TX6 : u_T := fun k => match k with
  | 0 => ("FillCells", "filling", "LFillCells$Filling;", true)
  | 1 => ("FillCells", "history", "LFillCells$History;", true)
  | 2 => ("FillCells", "text", "LFillCells$Text;", true)
  | 3 => ("FillCells", "settings", "[I", true)
  | 4 => ("FillCells", "bads", "I", false)
  | 5 => ("FillCells", "noes", "I", false)
  | _ => ("FillCells", "fulls", "I", false)
def tyX6 : Nat → FieldType := fun k => match k with
  | 0 => .object "FillCells$Filling"
  | 1 => .object "FillCells$History"
  | 2 => .object "FillCells$Text"
  | 3 => .array .int
  | 4 => .int
  | 5 => .int
  | _ => .int
abbrev wsX60 : List Cond := u_ws RX6 TX6 7
theorem nmX6 : ∀ a, a < 7 → ∀ b, b < 7 → a ≠ b → (TX6 a).2.1 ≠ (TX6 b).2.1 := by decide +kernel
theorem tyX6_ok : ∀ k, k < 7 → parseFieldDescriptor (TX6 k).2.2.1 = some (tyX6 k) := by decide +kernel
abbrev cX6_init : ByteArray := prog_1_method_1_code
def yX6_init : MethodName := ⟨RX6, "<init>", "()V"⟩
abbrev cX6_sets : ByteArray := prog_1_method_2_code
def yX6_sets : MethodName := ⟨RX6, "sets", "(III)I"⟩
abbrev cX6_draw : ByteArray := prog_1_method_3_code
def yX6_draw : MethodName := ⟨RX6, "draw", "(II)I"⟩
abbrev cX6_empties : ByteArray := prog_1_method_4_code
def yX6_empties : MethodName := ⟨RX6, "empties", "()I"⟩
abbrev cX6_rules : ByteArray := prog_1_method_5_code
def yX6_rules : MethodName := ⟨RX6, "rules", "(II)I"⟩
abbrev cX6_of : ByteArray := prog_1_method_6_code
def yX6_of : MethodName := ⟨RX6, "of", "(II)I"⟩
abbrev cX6_sum : ByteArray := prog_1_method_7_code
def yX6_sum : MethodName := ⟨RX6, "sum", "(I)I"⟩
abbrev cX6_windows : ByteArray := prog_1_method_8_code
def yX6_windows : MethodName := ⟨RX6, "windows", "(I)I"⟩
abbrev cX6_worst : ByteArray := prog_1_method_9_code
def yX6_worst : MethodName := ⟨RX6, "worst", "(I)I"⟩
abbrev cX6_order : ByteArray := prog_1_method_10_code
def yX6_order : MethodName := ⟨RX6, "order", "(II)I"⟩
abbrev cX6_turn : ByteArray := prog_1_method_11_code
def yX6_turn : MethodName := ⟨RX6, "turn", "(I)I"⟩
abbrev cX6_burden : ByteArray := prog_1_method_12_code
def yX6_burden : MethodName := ⟨RX6, "burden", "(I)I"⟩
abbrev cX6_all : ByteArray := prog_1_method_13_code
def yX6_all : MethodName := ⟨RX6, "all", "(I)I"⟩
abbrev cX6_more : ByteArray := prog_1_method_14_code
def yX6_more : MethodName := ⟨RX6, "more", "(I)I"⟩
abbrev cX6_less : ByteArray := prog_1_method_15_code
def yX6_less : MethodName := ⟨RX6, "less", "(I)I"⟩
abbrev cX6_next : ByteArray := prog_1_method_16_code
def yX6_next : MethodName := ⟨RX6, "next", "()I"⟩
abbrev cX6_steps : ByteArray := prog_1_method_17_code
def yX6_steps : MethodName := ⟨RX6, "steps", "(I)I"⟩
abbrev cX6_thins : ByteArray := prog_1_method_18_code
def yX6_thins : MethodName := ⟨RX6, "thins", "()I"⟩
abbrev cX6_best : ByteArray := prog_1_method_19_code
def yX6_best : MethodName := ⟨RX6, "best", "(I)I"⟩
abbrev cX6_row : ByteArray := prog_1_method_20_code
def yX6_row : MethodName := ⟨RX6, "row", "(II)I"⟩
abbrev cX6_undo : ByteArray := prog_1_method_21_code
def yX6_undo : MethodName := ⟨RX6, "undo", "()I"⟩
abbrev cX6_type : ByteArray := prog_1_method_22_code
def yX6_type : MethodName := ⟨RX6, "type", "(I)I"⟩
abbrev cX6_clear : ByteArray := prog_1_method_23_code
def yX6_clear : MethodName := ⟨RX6, "clear", "()I"⟩
abbrev cX6_reads : ByteArray := prog_1_method_24_code
def yX6_reads : MethodName := ⟨RX6, "reads", "()I"⟩
abbrev cX6_told : ByteArray := prog_1_method_25_code
def yX6_told : MethodName := ⟨RX6, "told", "(I)I"⟩
abbrev cX6_digest : ByteArray := prog_1_method_26_code
def yX6_digest : MethodName := ⟨RX6, "digest", "()J"⟩
abbrev cX6_refuse : ByteArray := prog_1_method_27_code
def yX6_refuse : MethodName := ⟨RX6, "refuse", "(I)I"⟩
abbrev cX6_changeFamily : ByteArray := prog_1_method_28_code
def yX6_changeFamily : MethodName := ⟨RX6, "changeFamily", "(II)I"⟩
abbrev cX6_useSettings : ByteArray := prog_1_method_29_code
def yX6_useSettings : MethodName := ⟨RX6, "useSettings", "()V"⟩
abbrev cX6_isIn : ByteArray := prog_1_method_30_code
def yX6_isIn : MethodName := ⟨RX6, "isIn", "(III)Z"⟩
abbrev cX6_isCell : ByteArray := prog_1_method_31_code
def yX6_isCell : MethodName := ⟨RX6, "isCell", "(I)Z"⟩
abbrev cX6_total : ByteArray := prog_1_method_32_code
def yX6_total : MethodName := ⟨RX6, "total", "([I)I"⟩
def RX7 : String := "FillCellsModel"
def TX7 : u_T := fun k => match k with
  | 0 => ("FillCellsModel", "s", "[I", true)
  | 1 => ("FillCellsModel", "past", "[I", true)
  | 2 => ("FillCellsModel", "known", "I", false)
  | 3 => ("FillCellsModel", "kept", "[I", true)
  | 4 => ("FillCellsModel", "rules", "[I", true)
  | 5 => ("FillCellsModel", "refused", "[I", true)
  | 6 => ("FillCellsModel", "text", "[I", true)
  | 7 => ("FillCellsModel", "typed", "I", false)
  | 8 => ("FillCellsModel", "at", "I", false)
  | 9 => ("FillCellsModel", "sums", "[I", true)
  | 10 => ("FillCellsModel", "thin", "[I", true)
  | 11 => ("FillCellsModel", "family", "[I", true)
  | 12 => ("FillCellsModel", "members", "[I", true)
  | 13 => ("FillCellsModel", "size", "I", false)
  | 14 => ("FillCellsModel", "burdens", "[I", true)
  | 15 => ("FillCellsModel", "more", "[I", true)
  | _ => ("FillCellsModel", "results", "[I", true)
def tyX7 : Nat → FieldType := fun k => match k with
  | 0 => .array .int
  | 1 => .array .int
  | 2 => .int
  | 3 => .array .int
  | 4 => .array .int
  | 5 => .array .int
  | 6 => .array .int
  | 7 => .int
  | 8 => .int
  | 9 => .array .int
  | 10 => .array .int
  | 11 => .array .int
  | 12 => .array .int
  | 13 => .int
  | 14 => .array .int
  | 15 => .array .int
  | _ => .array .int
abbrev wsX70 : List Cond := u_ws RX7 TX7 17
theorem nmX7 : ∀ a, a < 17 → ∀ b, b < 17 → a ≠ b → (TX7 a).2.1 ≠ (TX7 b).2.1 := by decide +kernel
theorem tyX7_ok : ∀ k, k < 17 → parseFieldDescriptor (TX7 k).2.2.1 = some (tyX7 k) := by decide +kernel
abbrev cX7_init : ByteArray := prog_9_method_1_code
def yX7_init : MethodName := ⟨RX7, "<init>", "()V"⟩
abbrev cX7_in : ByteArray := prog_9_method_3_code
def yX7_in : MethodName := ⟨RX7, "in", "(III)Z"⟩
abbrev cX7_refuses : ByteArray := prog_9_method_4_code
def yX7_refuses : MethodName := ⟨RX7, "refuses", "(I)I"⟩
abbrev cX7_isCell : ByteArray := prog_9_method_5_code
def yX7_isCell : MethodName := ⟨RX7, "isCell", "(I)Z"⟩
abbrev cX7_sumOf : ByteArray := prog_9_method_6_code
def yX7_sumOf : MethodName := ⟨RX7, "sumOf", "(I)I"⟩
abbrev cX7_keeps : ByteArray := prog_9_method_7_code
def yX7_keeps : MethodName := ⟨RX7, "keeps", "()V"⟩
abbrev cX7_aside : ByteArray := prog_9_method_8_code
def yX7_aside : MethodName := ⟨RX7, "aside", "()V"⟩
abbrev cX7_back : ByteArray := prog_9_method_9_code
def yX7_back : MethodName := ⟨RX7, "back", "()V"⟩
abbrev cX7_settles : ByteArray := prog_9_method_10_code
def yX7_settles : MethodName := ⟨RX7, "settles", "()V"⟩
abbrev cX7_sets : ByteArray := prog_9_method_11_code
def yX7_sets : MethodName := ⟨RX7, "sets", "(III)I"⟩
abbrev cX7_draw : ByteArray := prog_9_method_12_code
def yX7_draw : MethodName := ⟨RX7, "draw", "(II)I"⟩
abbrev cX7_fillOf : ByteArray := prog_9_method_13_code
def yX7_fillOf : MethodName := ⟨RX7, "fillOf", "()I"⟩
abbrev cX7_empties : ByteArray := prog_9_method_14_code
def yX7_empties : MethodName := ⟨RX7, "empties", "()I"⟩
abbrev cX7_rules : ByteArray := prog_9_method_15_code
def yX7_rules : MethodName := ⟨RX7, "rules", "(II)I"⟩
abbrev cX7_has : ByteArray := prog_9_method_16_code
def yX7_has : MethodName := ⟨RX7, "has", "(II)Z"⟩
abbrev cX7_isWindow : ByteArray := prog_9_method_17_code
def yX7_isWindow : MethodName := ⟨RX7, "isWindow", "(I)Z"⟩
abbrev cX7_laysSums : ByteArray := prog_9_method_18_code
def yX7_laysSums : MethodName := ⟨RX7, "laysSums", "()V"⟩
abbrev cX7_isThin : ByteArray := prog_9_method_19_code
def yX7_isThin : MethodName := ⟨RX7, "isThin", "(I)Z"⟩
abbrev cX7_laysThin : ByteArray := prog_9_method_20_code
def yX7_laysThin : MethodName := ⟨RX7, "laysThin", "()V"⟩
abbrev cX7_liesBeside : ByteArray := prog_9_method_21_code
def yX7_liesBeside : MethodName := ⟨RX7, "liesBeside", "(II)Z"⟩
abbrev cX7_isBurden : ByteArray := prog_9_method_22_code
def yX7_isBurden : MethodName := ⟨RX7, "isBurden", "(II)Z"⟩
abbrev cX7_laysBurdens : ByteArray := prog_9_method_23_code
def yX7_laysBurdens : MethodName := ⟨RX7, "laysBurdens", "()V"⟩
abbrev cX7_lays : ByteArray := prog_9_method_24_code
def yX7_lays : MethodName := ⟨RX7, "lays", "()V"⟩
abbrev cX7_marks : ByteArray := prog_9_method_25_code
def yX7_marks : MethodName := ⟨RX7, "marks", "(I)V"⟩
abbrev cX7_manyIn : ByteArray := prog_9_method_26_code
def yX7_manyIn : MethodName := ⟨RX7, "manyIn", "(I)I"⟩
abbrev cX7_may : ByteArray := prog_9_method_27_code
def yX7_may : MethodName := ⟨RX7, "may", "(I)Z"⟩
abbrev cX7_of : ByteArray := prog_9_method_28_code
def yX7_of : MethodName := ⟨RX7, "of", "(II)I"⟩
abbrev cX7_sum : ByteArray := prog_9_method_29_code
def yX7_sum : MethodName := ⟨RX7, "sum", "(I)I"⟩
abbrev cX7_windowsNow : ByteArray := prog_9_method_30_code
def yX7_windowsNow : MethodName := ⟨RX7, "windowsNow", "(I)I"⟩
abbrev cX7_windows : ByteArray := prog_9_method_31_code
def yX7_windows : MethodName := ⟨RX7, "windows", "(I)I"⟩
abbrev cX7_worst : ByteArray := prog_9_method_32_code
def yX7_worst : MethodName := ⟨RX7, "worst", "(I)I"⟩
abbrev cX7_lessThan : ByteArray := prog_9_method_33_code
def yX7_lessThan : MethodName := ⟨RX7, "lessThan", "(IZ)I"⟩
abbrev cX7_order : ByteArray := prog_9_method_34_code
def yX7_order : MethodName := ⟨RX7, "order", "(II)I"⟩
abbrev cX7_turn : ByteArray := prog_9_method_35_code
def yX7_turn : MethodName := ⟨RX7, "turn", "(I)I"⟩
abbrev cX7_burden : ByteArray := prog_9_method_36_code
def yX7_burden : MethodName := ⟨RX7, "burden", "(I)I"⟩
abbrev cX7_all : ByteArray := prog_9_method_37_code
def yX7_all : MethodName := ⟨RX7, "all", "(I)I"⟩
abbrev cX7_fills : ByteArray := prog_9_method_38_code
def yX7_fills : MethodName := ⟨RX7, "fills", "(I)V"⟩
abbrev cX7_more : ByteArray := prog_9_method_39_code
def yX7_more : MethodName := ⟨RX7, "more", "(I)I"⟩
abbrev cX7_less : ByteArray := prog_9_method_40_code
def yX7_less : MethodName := ⟨RX7, "less", "(I)I"⟩
abbrev cX7_reaches : ByteArray := prog_9_method_41_code
def yX7_reaches : MethodName := ⟨RX7, "reaches", "(I)Z"⟩
abbrev cX7_thinnest : ByteArray := prog_9_method_42_code
def yX7_thinnest : MethodName := ⟨RX7, "thinnest", "()I"⟩
abbrev cX7_keyBy : ByteArray := prog_9_method_43_code
def yX7_keyBy : MethodName := ⟨RX7, "keyBy", "(II)I"⟩
abbrev cX7_nextBy : ByteArray := prog_9_method_44_code
def yX7_nextBy : MethodName := ⟨RX7, "nextBy", "(I)I"⟩
abbrev cX7_next : ByteArray := prog_9_method_45_code
def yX7_next : MethodName := ⟨RX7, "next", "()I"⟩
abbrev cX7_stepsBy : ByteArray := prog_9_method_46_code
def yX7_stepsBy : MethodName := ⟨RX7, "stepsBy", "(II)I"⟩
abbrev cX7_steps : ByteArray := prog_9_method_47_code
def yX7_steps : MethodName := ⟨RX7, "steps", "(I)I"⟩
abbrev cX7_mayLose : ByteArray := prog_9_method_48_code
def yX7_mayLose : MethodName := ⟨RX7, "mayLose", "()Z"⟩
abbrev cX7_loses : ByteArray := prog_9_method_49_code
def yX7_loses : MethodName := ⟨RX7, "loses", "()I"⟩
abbrev cX7_thins : ByteArray := prog_9_method_50_code
def yX7_thins : MethodName := ⟨RX7, "thins", "()I"⟩
abbrev cX7_best : ByteArray := prog_9_method_51_code
def yX7_best : MethodName := ⟨RX7, "best", "(I)I"⟩
abbrev cX7_row : ByteArray := prog_9_method_52_code
def yX7_row : MethodName := ⟨RX7, "row", "(II)I"⟩
abbrev cX7_undo : ByteArray := prog_9_method_53_code
def yX7_undo : MethodName := ⟨RX7, "undo", "()I"⟩
abbrev cX7_type : ByteArray := prog_9_method_54_code
def yX7_type : MethodName := ⟨RX7, "type", "(I)I"⟩
abbrev cX7_clear : ByteArray := prog_9_method_55_code
def yX7_clear : MethodName := ⟨RX7, "clear", "()I"⟩
abbrev cX7_byteAt : ByteArray := prog_9_method_56_code
def yX7_byteAt : MethodName := ⟨RX7, "byteAt", "(I)I"⟩
abbrev cX7_skips : ByteArray := prog_9_method_57_code
def yX7_skips : MethodName := ⟨RX7, "skips", "()V"⟩
abbrev cX7_becomes : ByteArray := prog_9_method_58_code
def yX7_becomes : MethodName := ⟨RX7, "becomes", "(II)V"⟩
abbrev cX7_isRow : ByteArray := prog_9_method_59_code
def yX7_isRow : MethodName := ⟨RX7, "isRow", "()Z"⟩
abbrev cX7_reads : ByteArray := prog_9_method_60_code
def yX7_reads : MethodName := ⟨RX7, "reads", "()I"⟩
abbrev cX7_toldOf : ByteArray := prog_9_method_61_code
def yX7_toldOf : MethodName := ⟨RX7, "toldOf", "(I)I"⟩
abbrev cX7_told : ByteArray := prog_9_method_62_code
def yX7_told : MethodName := ⟨RX7, "told", "(I)I"⟩
abbrev cX7_digest : ByteArray := prog_9_method_63_code
def yX7_digest : MethodName := ⟨RX7, "digest", "()J"⟩
def RJ9 : String := "java/lang/Math"
def TJ9 : u_T := fun k => match k with
  | _ => ("", "", "", false)
def tyJ9 : Nat → FieldType := fun k => match k with
  | _ => .int
abbrev wsJ90 : List Cond := u_ws RJ9 TJ9 0
theorem nmJ9 : ∀ a, a < 0 → ∀ b, b < 0 → a ≠ b → (TJ9 a).2.1 ≠ (TJ9 b).2.1 := by decide +kernel
theorem tyJ9_ok : ∀ k, k < 0 → parseFieldDescriptor (TJ9 k).2.2.1 = some (tyJ9 k) := by decide +kernel
abbrev cJ9_max_7cf53 : ByteArray := prog_10_method_65_code
def yJ9_max_7cf53 : MethodName := ⟨RJ9, "max", "(II)I"⟩
abbrev cJ9_min_7cf53 : ByteArray := prog_10_method_69_code
def yJ9_min_7cf53 : MethodName := ⟨RJ9, "min", "(II)I"⟩
def RJ10 : String := "java/lang/System"
def TJ10 : u_T := fun k => match k with
  | _ => ("", "", "", false)
def tyJ10 : Nat → FieldType := fun k => match k with
  | _ => .int
abbrev wsJ100 : List Cond := u_ws RJ10 TJ10 0
theorem nmJ10 : ∀ a, a < 0 → ∀ b, b < 0 → a ≠ b → (TJ10 a).2.1 ≠ (TJ10 b).2.1 := by decide +kernel
theorem tyJ10_ok : ∀ k, k < 0 → parseFieldDescriptor (TJ10 k).2.2.1 = some (tyJ10 k) := by decide +kernel
def RJ7 : String := "java/util/Arrays"
def TJ7 : u_T := fun k => match k with
  | _ => ("", "", "", false)
def tyJ7 : Nat → FieldType := fun k => match k with
  | _ => .int
abbrev wsJ70 : List Cond := u_ws RJ7 TJ7 0
theorem nmJ7 : ∀ a, a < 0 → ∀ b, b < 0 → a ≠ b → (TJ7 a).2.1 ≠ (TJ7 b).2.1 := by decide +kernel
theorem tyJ7_ok : ∀ k, k < 0 → parseFieldDescriptor (TJ7 k).2.2.1 = some (tyJ7 k) := by decide +kernel
abbrev cJ7_fill_53178 : ByteArray := prog_12_method_103_code
def yJ7_fill_53178 : MethodName := ⟨RJ7, "fill", "([II)V"⟩
def RL : String := "FillCellsLaw"
abbrev cL_law : ByteArray := code
def yL_law : MethodName := ⟨RL, "law", "([I)Z"⟩
def wsX0_init : List Cond := .code yX0_init cX0_init 1 none :: ([.methodLink RX0 3 objectInit, .instanceMethod objectInit, .code objectInit ⟨#[0xb1]⟩ 1 none, .arrayClass .int, .fieldLink RX0 9 "FillCells$Field" "shapes" "[I", .fieldLink RX0 15 "FillCells$Field" "shut" "[I", .fieldLink RX0 18 "FillCells$Field" "net" "[I", .fieldLink RX0 21 "FillCells$Field" "twins" "[I", .fieldLink RX0 24 "FillCells$Field" "fill" "[I"] ++ wsX00)
def wsX0_part : List Cond := .code yX0_part cX0_part 2 (some (.array .int)) :: ([.fieldLink RX0 9 "FillCells$Field" "shapes" "[I", .fieldLink RX0 15 "FillCells$Field" "shut" "[I", .fieldLink RX0 18 "FillCells$Field" "net" "[I", .fieldLink RX0 21 "FillCells$Field" "twins" "[I", .fieldLink RX0 24 "FillCells$Field" "fill" "[I"] ++ wsX00)
def wsX0_sumOf : List Cond := .code yX0_sumOf cX0_sumOf 2 (some .int) :: ([.fieldLink RX0 9 "FillCells$Field" "shapes" "[I", .fieldLink RX0 24 "FillCells$Field" "fill" "[I"] ++ wsX00)
def wsX0_room : List Cond := .code yX0_room cX0_room 2 (some .int) :: ([.fieldLink RX0 15 "FillCells$Field" "shut" "[I", .fieldLink RX0 9 "FillCells$Field" "shapes" "[I"] ++ wsX00)
def wsX0_countFilled : List Cond := .code yX0_countFilled cX0_countFilled 3 (some .int) :: ([.fieldLink RX0 24 "FillCells$Field" "fill" "[I"] ++ wsX00)
def wsX0_drawShapes : List Cond := .code yX0_drawShapes cX0_drawShapes 7 none :: ([.methodLink RX0 27 Lib.Math.max.name, .static Lib.Math.max.name, .initialized "java/lang/Math", .code Lib.Math.max.name Lib.Math.max.code 2 (some .int), .constantLong RX0 33 (1103515245), .constantLong RX0 35 (12345), .constantLong RX0 37 (2147483648), .fieldLink RX0 9 "FillCells$Field" "shapes" "[I", .constantLong RX0 39 (65536)] ++ wsX00)
def wsX0_makeAlike : List Cond := .code yX0_makeAlike cX0_makeAlike 4 none :: ([.fieldLink RX0 21 "FillCells$Field" "twins" "[I", .fieldLink RX0 24 "FillCells$Field" "fill" "[I", .methodLink RX0 45 Lib.Math.min.name, .static Lib.Math.min.name, .initialized "java/lang/Math", .code Lib.Math.min.name Lib.Math.min.code 2 (some .int)] ++ wsX00)
def wsX0_settle : List Cond := .code yX0_settle cX0_settle 2 none :: ([.fieldLink RX0 24 "FillCells$Field" "fill" "[I", .methodLink RX0 45 Lib.Math.min.name, .static Lib.Math.min.name, .initialized "java/lang/Math", .code Lib.Math.min.name Lib.Math.min.code 2 (some .int), .methodLink RX0 41 yX0_room, .instanceMethod yX0_room, .selects RX0 yX0_room yX0_room, .initialized RX0, .code yX0_room cX0_room 2 (some .int), .fieldLink RX0 15 "FillCells$Field" "shut" "[I", .fieldLink RX0 9 "FillCells$Field" "shapes" "[I", .methodLink RX0 48 yX0_makeAlike, .instanceMethod yX0_makeAlike, .selects RX0 yX0_makeAlike yX0_makeAlike, .code yX0_makeAlike cX0_makeAlike 4 none, .fieldLink RX0 21 "FillCells$Field" "twins" "[I"] ++ wsX00)
def wsX0_packed : List Cond := .code yX0_packed cX0_packed 2 (some .int) :: ([.fieldLink RX0 9 "FillCells$Field" "shapes" "[I", .fieldLink RX0 24 "FillCells$Field" "fill" "[I", .fieldLink RX0 15 "FillCells$Field" "shut" "[I", .fieldLink RX0 18 "FillCells$Field" "net" "[I", .fieldLink RX0 21 "FillCells$Field" "twins" "[I"] ++ wsX00)
def wsX0_unpack : List Cond := .code yX0_unpack cX0_unpack 3 none :: ([.fieldLink RX0 9 "FillCells$Field" "shapes" "[I", .fieldLink RX0 24 "FillCells$Field" "fill" "[I", .fieldLink RX0 15 "FillCells$Field" "shut" "[I", .fieldLink RX0 18 "FillCells$Field" "net" "[I", .fieldLink RX0 21 "FillCells$Field" "twins" "[I"] ++ wsX00)
def wsX5_init : List Cond := .code yX5_init cX5_init 1 none :: ([.methodLink RX5 3 objectInit, .instanceMethod objectInit, .code objectInit ⟨#[0xb1]⟩ 1 none, .fieldLink RX5 9 "FillCells$Windows" "height" "I", .fieldLink RX5 15 "FillCells$Windows" "width" "I", .fieldLink RX5 18 "FillCells$Windows" "low" "I", .fieldLink RX5 21 "FillCells$Windows" "high" "I", .arrayClass .int, .fieldLink RX5 24 "FillCells$Windows" "sums" "[I", .fieldLink RX5 28 "FillCells$Windows" "thinOver" "[I", .fieldLink RX5 31 "FillCells$Windows" "fullOver" "[I", .fieldLink RX5 34 "FillCells$Windows" "shares" "[I"] ++ wsX50)
def wsX3_init : List Cond := .code yX3_init cX3_init 1 none :: ([.methodLink RX3 3 objectInit, .instanceMethod objectInit, .code objectInit ⟨#[0xb1]⟩ 1 none, .arrayClass .int, .fieldLink RX3 9 "FillCells$Nets" "limits" "[I", .fieldLink RX3 15 "FillCells$Nets" "burdens" "[I", .fieldLink RX3 18 "FillCells$Nets" "borne" "[I", .fieldLink RX3 21 "FillCells$Nets" "twinsBorne" "[I"] ++ wsX30)
def wsX1_init_r1 : List Cond := [Cond.methodLink RX1 3 objectInit, Cond.instanceMethod objectInit, Cond.code objectInit ⟨#[0xb1]⟩ 1 none, Cond.classLink RX1 9 RX0, Cond.instantiable RX0 5, Cond.initialized RX0, Cond.fieldLink RX1 12 "FillCells$Filling" "field" "LFillCells$Field;", Cond.classLink RX1 18 RX5, Cond.instantiable RX5 8, Cond.initialized RX5, Cond.fieldLink RX1 21 "FillCells$Filling" "windows" "LFillCells$Windows;", Cond.classLink RX1 25 RX3, Cond.instantiable RX3 4, Cond.initialized RX3, Cond.fieldLink RX1 28 "FillCells$Filling" "nets" "LFillCells$Nets;", Cond.fieldLink RX1 32 "FillCells$Filling" "bestRule" "I", Cond.fieldLink RX1 36 "FillCells$Filling" "bestThin" "I", Cond.fieldLink RX1 39 "FillCells$Filling" "bestFill" "I", Cond.arrayClass .boolean, Cond.fieldLink RX1 42 "FillCells$Filling" "twinsChosen" "[Z", Cond.arrayClass .int, Cond.fieldLink RX1 46 "FillCells$Filling" "fillAhead" "[I", Cond.fieldLink RX1 50 "FillCells$Filling" "line" "[I", Cond.instanceMethod yX0_init]
def wsX1_init_r2 : List Cond := [Cond.code yX0_init cX0_init 1 none, Cond.methodLink RX0 3 objectInit, Cond.fieldLink RX0 9 "FillCells$Field" "shapes" "[I", Cond.fieldLink RX0 15 "FillCells$Field" "shut" "[I", Cond.fieldLink RX0 18 "FillCells$Field" "net" "[I", Cond.fieldLink RX0 21 "FillCells$Field" "twins" "[I", Cond.fieldLink RX0 24 "FillCells$Field" "fill" "[I", Cond.instanceMethod yX5_init, Cond.code yX5_init cX5_init 1 none, Cond.methodLink RX5 3 objectInit, Cond.fieldLink RX5 9 "FillCells$Windows" "height" "I", Cond.fieldLink RX5 15 "FillCells$Windows" "width" "I", Cond.fieldLink RX5 18 "FillCells$Windows" "low" "I", Cond.fieldLink RX5 21 "FillCells$Windows" "high" "I", Cond.fieldLink RX5 24 "FillCells$Windows" "sums" "[I", Cond.fieldLink RX5 28 "FillCells$Windows" "thinOver" "[I", Cond.fieldLink RX5 31 "FillCells$Windows" "fullOver" "[I", Cond.fieldLink RX5 34 "FillCells$Windows" "shares" "[I", Cond.instanceMethod yX3_init, Cond.code yX3_init cX3_init 1 none, Cond.methodLink RX3 3 objectInit, Cond.fieldLink RX3 9 "FillCells$Nets" "limits" "[I", Cond.fieldLink RX3 15 "FillCells$Nets" "burdens" "[I", Cond.fieldLink RX3 18 "FillCells$Nets" "borne" "[I"]
def wsX1_init_r3 : List Cond := [Cond.fieldLink RX3 21 "FillCells$Nets" "twinsBorne" "[I"]
def wsX1_init : List Cond := .code yX1_init cX1_init 1 none :: ((wsX1_init_r1 ++ (wsX1_init_r2 ++ wsX1_init_r3)) ++ wsX00 ++ wsX10 ++ wsX50 ++ wsX30)
def wsJ7_fill_53178 : List Cond := .code yJ7_fill_53178 cJ7_fill_53178 4 none :: ([])
def wsX5_lies : List Cond := .code yX5_lies cX5_lies 2 (some .boolean) :: ([.fieldLink RX5 9 "FillCells$Windows" "height" "I", .fieldLink RX5 15 "FillCells$Windows" "width" "I"] ++ wsX50)
def wsX5_addUp : List Cond := .code yX5_addUp cX5_addUp 7 none :: ([.fieldLink RX5 9 "FillCells$Windows" "height" "I", .fieldLink RX5 15 "FillCells$Windows" "width" "I", .fieldLink RX5 34 "FillCells$Windows" "shares" "[I", .fieldLink RX5 71 "FillCells$Field" "twins" "[I", .fieldLink RX5 24 "FillCells$Windows" "sums" "[I", .methodLink RX5 65 yX0_sumOf, .instanceMethod yX0_sumOf, .selects RX0 yX0_sumOf yX0_sumOf, .initialized RX0, .code yX0_sumOf cX0_sumOf 2 (some .int), .fieldLink RX0 9 "FillCells$Field" "shapes" "[I", .fieldLink RX0 24 "FillCells$Field" "fill" "[I"] ++ wsX50 ++ wsX00)
def wsX5_isThin : List Cond := .code yX5_isThin cX5_isThin 2 (some .boolean) :: ([.fieldLink RX5 24 "FillCells$Windows" "sums" "[I", .fieldLink RX5 18 "FillCells$Windows" "low" "I"] ++ wsX50)
def wsX5_spread : List Cond := .code yX5_spread cX5_spread 6 none :: ([.fieldLink RX5 9 "FillCells$Windows" "height" "I", .fieldLink RX5 15 "FillCells$Windows" "width" "I"] ++ wsX50)
def wsX5_isFull : List Cond := .code yX5_isFull cX5_isFull 2 (some .boolean) :: ([.fieldLink RX5 24 "FillCells$Windows" "sums" "[I", .fieldLink RX5 21 "FillCells$Windows" "high" "I"] ++ wsX50)
def wsX5_measure_r1 : List Cond := [Cond.fieldLink RX5 28 "FillCells$Windows" "thinOver" "[I", Cond.fieldLink RX5 31 "FillCells$Windows" "fullOver" "[I", Cond.fieldLink RX5 34 "FillCells$Windows" "shares" "[I", Cond.fieldLink RX5 24 "FillCells$Windows" "sums" "[I", Cond.methodLink RX5 41 yJ7_fill_53178, Cond.static yJ7_fill_53178, Cond.initialized RJ7, Cond.code yJ7_fill_53178 cJ7_fill_53178 4 none, Cond.methodLink RX5 47 yX5_lies, Cond.instanceMethod yX5_lies, Cond.selects RX5 yX5_lies yX5_lies, Cond.initialized RX5, Cond.code yX5_lies cX5_lies 2 (some .boolean), Cond.fieldLink RX5 9 "FillCells$Windows" "height" "I", Cond.fieldLink RX5 15 "FillCells$Windows" "width" "I", Cond.methodLink RX5 51 yX5_addUp, Cond.instanceMethod yX5_addUp, Cond.selects RX5 yX5_addUp yX5_addUp, Cond.code yX5_addUp cX5_addUp 7 none, Cond.fieldLink RX5 71 "FillCells$Field" "twins" "[I", Cond.methodLink RX5 65 yX0_sumOf, Cond.instanceMethod yX0_sumOf, Cond.selects RX0 yX0_sumOf yX0_sumOf, Cond.initialized RX0]
def wsX5_measure_r2 : List Cond := [Cond.code yX0_sumOf cX0_sumOf 2 (some .int), Cond.fieldLink RX0 9 "FillCells$Field" "shapes" "[I", Cond.fieldLink RX0 24 "FillCells$Field" "fill" "[I", Cond.methodLink RX5 55 yX5_isThin, Cond.instanceMethod yX5_isThin, Cond.selects RX5 yX5_isThin yX5_isThin, Cond.code yX5_isThin cX5_isThin 2 (some .boolean), Cond.fieldLink RX5 18 "FillCells$Windows" "low" "I", Cond.methodLink RX5 58 yX5_spread, Cond.instanceMethod yX5_spread, Cond.selects RX5 yX5_spread yX5_spread, Cond.code yX5_spread cX5_spread 6 none, Cond.methodLink RX5 62 yX5_isFull, Cond.instanceMethod yX5_isFull, Cond.selects RX5 yX5_isFull yX5_isFull, Cond.code yX5_isFull cX5_isFull 2 (some .boolean), Cond.fieldLink RX5 21 "FillCells$Windows" "high" "I"]
def wsX5_measure : List Cond := .code yX5_measure cX5_measure 3 none :: ((wsX5_measure_r1 ++ wsX5_measure_r2) ++ wsX50 ++ wsX00)
def wsX3_netsBeside : List Cond := .code yX3_netsBeside cX3_netsBeside 4 (some .int) :: ([.fieldLink RX3 30 "FillCells$Field" "net" "[I"] ++ wsX00)
def wsX3_shift : List Cond := .code yX3_shift cX3_shift 4 none :: ([.fieldLink RX3 18 "FillCells$Nets" "borne" "[I", .fieldLink RX3 15 "FillCells$Nets" "burdens" "[I"] ++ wsX30)
def wsX3_measure : List Cond := .code yX3_measure cX3_measure 5 none :: ([.fieldLink RX3 15 "FillCells$Nets" "burdens" "[I", .fieldLink RX3 21 "FillCells$Nets" "twinsBorne" "[I", .fieldLink RX3 30 "FillCells$Field" "net" "[I", .fieldLink RX3 18 "FillCells$Nets" "borne" "[I", .fieldLink RX3 39 "FillCells$Field" "twins" "[I", .fieldLink RX3 42 "FillCells$Field" "fill" "[I", .methodLink RX3 24 yJ7_fill_53178, .static yJ7_fill_53178, .initialized RJ7, .code yJ7_fill_53178 cJ7_fill_53178 4 none, .methodLink RX3 35 yX3_netsBeside, .static yX3_netsBeside, .initialized RX3, .code yX3_netsBeside cX3_netsBeside 4 (some .int), .methodLink RX3 44 yX3_shift, .instanceMethod yX3_shift, .selects RX3 yX3_shift yX3_shift, .code yX3_shift cX3_shift 4 none] ++ wsX30 ++ wsX00)
def wsX1_measure_r1 : List Cond := [Cond.fieldLink RX1 21 "FillCells$Filling" "windows" "LFillCells$Windows;", Cond.fieldLink RX1 12 "FillCells$Filling" "field" "LFillCells$Field;", Cond.fieldLink RX1 28 "FillCells$Filling" "nets" "LFillCells$Nets;", Cond.methodLink RX1 53 yX5_measure, Cond.instanceMethod yX5_measure, Cond.selects RX5 yX5_measure yX5_measure, Cond.initialized RX5, Cond.code yX5_measure cX5_measure 3 none, Cond.fieldLink RX5 28 "FillCells$Windows" "thinOver" "[I", Cond.fieldLink RX5 31 "FillCells$Windows" "fullOver" "[I", Cond.fieldLink RX5 34 "FillCells$Windows" "shares" "[I", Cond.fieldLink RX5 24 "FillCells$Windows" "sums" "[I", Cond.methodLink RX5 41 yJ7_fill_53178, Cond.static yJ7_fill_53178, Cond.initialized RJ7, Cond.code yJ7_fill_53178 cJ7_fill_53178 4 none, Cond.methodLink RX5 47 yX5_lies, Cond.instanceMethod yX5_lies, Cond.selects RX5 yX5_lies yX5_lies, Cond.code yX5_lies cX5_lies 2 (some .boolean), Cond.fieldLink RX5 9 "FillCells$Windows" "height" "I", Cond.fieldLink RX5 15 "FillCells$Windows" "width" "I", Cond.methodLink RX5 51 yX5_addUp, Cond.instanceMethod yX5_addUp]
def wsX1_measure_r2 : List Cond := [Cond.selects RX5 yX5_addUp yX5_addUp, Cond.code yX5_addUp cX5_addUp 7 none, Cond.fieldLink RX5 71 "FillCells$Field" "twins" "[I", Cond.methodLink RX5 65 yX0_sumOf, Cond.instanceMethod yX0_sumOf, Cond.selects RX0 yX0_sumOf yX0_sumOf, Cond.initialized RX0, Cond.code yX0_sumOf cX0_sumOf 2 (some .int), Cond.fieldLink RX0 9 "FillCells$Field" "shapes" "[I", Cond.fieldLink RX0 24 "FillCells$Field" "fill" "[I", Cond.methodLink RX5 55 yX5_isThin, Cond.instanceMethod yX5_isThin, Cond.selects RX5 yX5_isThin yX5_isThin, Cond.code yX5_isThin cX5_isThin 2 (some .boolean), Cond.fieldLink RX5 18 "FillCells$Windows" "low" "I", Cond.methodLink RX5 58 yX5_spread, Cond.instanceMethod yX5_spread, Cond.selects RX5 yX5_spread yX5_spread, Cond.code yX5_spread cX5_spread 6 none, Cond.methodLink RX5 62 yX5_isFull, Cond.instanceMethod yX5_isFull, Cond.selects RX5 yX5_isFull yX5_isFull, Cond.code yX5_isFull cX5_isFull 2 (some .boolean), Cond.fieldLink RX5 21 "FillCells$Windows" "high" "I"]
def wsX1_measure_r3 : List Cond := [Cond.methodLink RX1 57 yX3_measure, Cond.instanceMethod yX3_measure, Cond.selects RX3 yX3_measure yX3_measure, Cond.initialized RX3, Cond.code yX3_measure cX3_measure 5 none, Cond.fieldLink RX3 15 "FillCells$Nets" "burdens" "[I", Cond.fieldLink RX3 21 "FillCells$Nets" "twinsBorne" "[I", Cond.fieldLink RX3 30 "FillCells$Field" "net" "[I", Cond.fieldLink RX3 18 "FillCells$Nets" "borne" "[I", Cond.fieldLink RX3 39 "FillCells$Field" "twins" "[I", Cond.fieldLink RX3 42 "FillCells$Field" "fill" "[I", Cond.methodLink RX3 24 yJ7_fill_53178, Cond.methodLink RX3 35 yX3_netsBeside, Cond.static yX3_netsBeside, Cond.code yX3_netsBeside cX3_netsBeside 4 (some .int), Cond.methodLink RX3 44 yX3_shift, Cond.instanceMethod yX3_shift, Cond.selects RX3 yX3_shift yX3_shift, Cond.code yX3_shift cX3_shift 4 none]
def wsX1_measure : List Cond := .code yX1_measure cX1_measure 1 none :: ((wsX1_measure_r1 ++ (wsX1_measure_r2 ++ wsX1_measure_r3)) ++ wsX10 ++ wsX50 ++ wsX00 ++ wsX30)
def wsX3_gain : List Cond := .code yX3_gain cX3_gain 4 (some .int) :: ([.fieldLink RX3 18 "FillCells$Nets" "borne" "[I", .fieldLink RX3 21 "FillCells$Nets" "twinsBorne" "[I"] ++ wsX30)
def wsX3_bear : List Cond := .code yX3_bear cX3_bear 5 (some .boolean) :: ([.fieldLink RX3 15 "FillCells$Nets" "burdens" "[I", .fieldLink RX3 9 "FillCells$Nets" "limits" "[I", .methodLink RX3 48 yX3_gain, .instanceMethod yX3_gain, .selects RX3 yX3_gain yX3_gain, .initialized RX3, .code yX3_gain cX3_gain 4 (some .int), .fieldLink RX3 18 "FillCells$Nets" "borne" "[I", .fieldLink RX3 21 "FillCells$Nets" "twinsBorne" "[I"] ++ wsX30)
def wsX1_loneMay_r1 : List Cond := [Cond.fieldLink RX1 12 "FillCells$Filling" "field" "LFillCells$Field;", Cond.fieldLink RX1 69 "FillCells$Field" "fill" "[I", Cond.fieldLink RX1 21 "FillCells$Filling" "windows" "LFillCells$Windows;", Cond.fieldLink RX1 76 "FillCells$Windows" "fullOver" "[I", Cond.fieldLink RX1 28 "FillCells$Filling" "nets" "LFillCells$Nets;", Cond.methodLink RX1 72 yX0_room, Cond.instanceMethod yX0_room, Cond.selects RX0 yX0_room yX0_room, Cond.initialized RX0, Cond.code yX0_room cX0_room 2 (some .int), Cond.fieldLink RX0 15 "FillCells$Field" "shut" "[I", Cond.fieldLink RX0 9 "FillCells$Field" "shapes" "[I", Cond.methodLink RX1 79 yX3_bear, Cond.instanceMethod yX3_bear, Cond.selects RX3 yX3_bear yX3_bear, Cond.initialized RX3, Cond.code yX3_bear cX3_bear 5 (some .boolean), Cond.fieldLink RX3 15 "FillCells$Nets" "burdens" "[I", Cond.fieldLink RX3 9 "FillCells$Nets" "limits" "[I", Cond.methodLink RX3 48 yX3_gain, Cond.instanceMethod yX3_gain, Cond.selects RX3 yX3_gain yX3_gain, Cond.code yX3_gain cX3_gain 4 (some .int), Cond.fieldLink RX3 18 "FillCells$Nets" "borne" "[I"]
def wsX1_loneMay_r2 : List Cond := [Cond.fieldLink RX3 21 "FillCells$Nets" "twinsBorne" "[I"]
def wsX1_loneMay : List Cond := .code yX1_loneMay cX1_loneMay 2 (some .boolean) :: ((wsX1_loneMay_r1 ++ wsX1_loneMay_r2) ++ wsX10 ++ wsX00 ++ wsX50 ++ wsX30)
def wsX5_bearTwins : List Cond := .code yX5_bearTwins cX5_bearTwins 4 (some .boolean) :: ([.fieldLink RX5 34 "FillCells$Windows" "shares" "[I", .fieldLink RX5 24 "FillCells$Windows" "sums" "[I", .fieldLink RX5 21 "FillCells$Windows" "high" "I"] ++ wsX50)
def wsX1_twinsMay_r1 : List Cond := [Cond.fieldLink RX1 12 "FillCells$Filling" "field" "LFillCells$Field;", Cond.fieldLink RX1 58 "FillCells$Field" "twins" "[I", Cond.fieldLink RX1 69 "FillCells$Field" "fill" "[I", Cond.fieldLink RX1 21 "FillCells$Filling" "windows" "LFillCells$Windows;", Cond.fieldLink RX1 28 "FillCells$Filling" "nets" "LFillCells$Nets;", Cond.methodLink RX1 72 yX0_room, Cond.instanceMethod yX0_room, Cond.selects RX0 yX0_room yX0_room, Cond.initialized RX0, Cond.code yX0_room cX0_room 2 (some .int), Cond.fieldLink RX0 15 "FillCells$Field" "shut" "[I", Cond.fieldLink RX0 9 "FillCells$Field" "shapes" "[I", Cond.methodLink RX1 82 yX5_bearTwins, Cond.instanceMethod yX5_bearTwins, Cond.selects RX5 yX5_bearTwins yX5_bearTwins, Cond.initialized RX5, Cond.code yX5_bearTwins cX5_bearTwins 4 (some .boolean), Cond.fieldLink RX5 34 "FillCells$Windows" "shares" "[I", Cond.fieldLink RX5 24 "FillCells$Windows" "sums" "[I", Cond.fieldLink RX5 21 "FillCells$Windows" "high" "I", Cond.methodLink RX1 79 yX3_bear, Cond.instanceMethod yX3_bear, Cond.selects RX3 yX3_bear yX3_bear, Cond.initialized RX3]
def wsX1_twinsMay_r2 : List Cond := [Cond.code yX3_bear cX3_bear 5 (some .boolean), Cond.fieldLink RX3 15 "FillCells$Nets" "burdens" "[I", Cond.fieldLink RX3 9 "FillCells$Nets" "limits" "[I", Cond.methodLink RX3 48 yX3_gain, Cond.instanceMethod yX3_gain, Cond.selects RX3 yX3_gain yX3_gain, Cond.code yX3_gain cX3_gain 4 (some .int), Cond.fieldLink RX3 18 "FillCells$Nets" "borne" "[I", Cond.fieldLink RX3 21 "FillCells$Nets" "twinsBorne" "[I"]
def wsX1_twinsMay : List Cond := .code yX1_twinsMay cX1_twinsMay 4 (some .boolean) :: ((wsX1_twinsMay_r1 ++ wsX1_twinsMay_r2) ++ wsX10 ++ wsX00 ++ wsX50 ++ wsX30)
def wsX1_may_r1 : List Cond := [Cond.fieldLink RX1 12 "FillCells$Filling" "field" "LFillCells$Field;", Cond.fieldLink RX1 58 "FillCells$Field" "twins" "[I", Cond.methodLink RX1 61 yX1_loneMay, Cond.instanceMethod yX1_loneMay, Cond.selects RX1 yX1_loneMay yX1_loneMay, Cond.initialized RX1, Cond.code yX1_loneMay cX1_loneMay 2 (some .boolean), Cond.fieldLink RX1 69 "FillCells$Field" "fill" "[I", Cond.fieldLink RX1 21 "FillCells$Filling" "windows" "LFillCells$Windows;", Cond.fieldLink RX1 76 "FillCells$Windows" "fullOver" "[I", Cond.fieldLink RX1 28 "FillCells$Filling" "nets" "LFillCells$Nets;", Cond.methodLink RX1 72 yX0_room, Cond.instanceMethod yX0_room, Cond.selects RX0 yX0_room yX0_room, Cond.initialized RX0, Cond.code yX0_room cX0_room 2 (some .int), Cond.fieldLink RX0 15 "FillCells$Field" "shut" "[I", Cond.fieldLink RX0 9 "FillCells$Field" "shapes" "[I", Cond.methodLink RX1 79 yX3_bear, Cond.instanceMethod yX3_bear, Cond.selects RX3 yX3_bear yX3_bear, Cond.initialized RX3, Cond.code yX3_bear cX3_bear 5 (some .boolean), Cond.fieldLink RX3 15 "FillCells$Nets" "burdens" "[I"]
def wsX1_may_r2 : List Cond := [Cond.fieldLink RX3 9 "FillCells$Nets" "limits" "[I", Cond.methodLink RX3 48 yX3_gain, Cond.instanceMethod yX3_gain, Cond.selects RX3 yX3_gain yX3_gain, Cond.code yX3_gain cX3_gain 4 (some .int), Cond.fieldLink RX3 18 "FillCells$Nets" "borne" "[I", Cond.fieldLink RX3 21 "FillCells$Nets" "twinsBorne" "[I", Cond.methodLink RX1 65 yX1_twinsMay, Cond.instanceMethod yX1_twinsMay, Cond.selects RX1 yX1_twinsMay yX1_twinsMay, Cond.code yX1_twinsMay cX1_twinsMay 4 (some .boolean), Cond.methodLink RX1 82 yX5_bearTwins, Cond.instanceMethod yX5_bearTwins, Cond.selects RX5 yX5_bearTwins yX5_bearTwins, Cond.initialized RX5, Cond.code yX5_bearTwins cX5_bearTwins 4 (some .boolean), Cond.fieldLink RX5 34 "FillCells$Windows" "shares" "[I", Cond.fieldLink RX5 24 "FillCells$Windows" "sums" "[I", Cond.fieldLink RX5 21 "FillCells$Windows" "high" "I"]
def wsX1_may : List Cond := .code yX1_may cX1_may 3 (some .boolean) :: ((wsX1_may_r1 ++ wsX1_may_r2) ++ wsX10 ++ wsX00 ++ wsX50 ++ wsX30)
def wsX5_atLeast : List Cond := .code yX5_atLeast cX5_atLeast 3 (some .int) :: ([.fieldLink RX5 24 "FillCells$Windows" "sums" "[I"] ++ wsX50)
def wsX5_has : List Cond := .code yX5_has cX5_has 5 (some .boolean) :: ([.fieldLink RX5 9 "FillCells$Windows" "height" "I", .fieldLink RX5 15 "FillCells$Windows" "width" "I"] ++ wsX50)
def wsX1_isWanted : List Cond := .code yX1_isWanted cX1_isWanted 3 (some .boolean) :: ([.fieldLink RX1 21 "FillCells$Filling" "windows" "LFillCells$Windows;", .fieldLink RX1 109 "FillCells$Windows" "thinOver" "[I", .methodLink RX1 112 yX5_has, .instanceMethod yX5_has, .selects RX5 yX5_has yX5_has, .initialized RX5, .code yX5_has cX5_has 5 (some .boolean), .fieldLink RX5 9 "FillCells$Windows" "height" "I", .fieldLink RX5 15 "FillCells$Windows" "width" "I"] ++ wsX10 ++ wsX50)
def wsX1_wantedTwin : List Cond := .code yX1_wantedTwin cX1_wantedTwin 4 (some .int) :: ([.fieldLink RX1 12 "FillCells$Filling" "field" "LFillCells$Field;", .fieldLink RX1 58 "FillCells$Field" "twins" "[I", .methodLink RX1 106 yX1_isWanted, .instanceMethod yX1_isWanted, .selects RX1 yX1_isWanted yX1_isWanted, .initialized RX1, .code yX1_isWanted cX1_isWanted 3 (some .boolean), .fieldLink RX1 21 "FillCells$Filling" "windows" "LFillCells$Windows;", .fieldLink RX1 109 "FillCells$Windows" "thinOver" "[I", .methodLink RX1 112 yX5_has, .instanceMethod yX5_has, .selects RX5 yX5_has yX5_has, .initialized RX5, .code yX5_has cX5_has 5 (some .boolean), .fieldLink RX5 9 "FillCells$Windows" "height" "I", .fieldLink RX5 15 "FillCells$Windows" "width" "I"] ++ wsX10 ++ wsX00 ++ wsX50)
def wsX1_chooseTwins_r1 : List Cond := [Cond.fieldLink RX1 42 "FillCells$Filling" "twinsChosen" "[Z", Cond.methodLink RX1 103 yX1_wantedTwin, Cond.instanceMethod yX1_wantedTwin, Cond.selects RX1 yX1_wantedTwin yX1_wantedTwin, Cond.initialized RX1, Cond.code yX1_wantedTwin cX1_wantedTwin 4 (some .int), Cond.fieldLink RX1 12 "FillCells$Filling" "field" "LFillCells$Field;", Cond.fieldLink RX1 58 "FillCells$Field" "twins" "[I", Cond.methodLink RX1 106 yX1_isWanted, Cond.instanceMethod yX1_isWanted, Cond.selects RX1 yX1_isWanted yX1_isWanted, Cond.code yX1_isWanted cX1_isWanted 3 (some .boolean), Cond.fieldLink RX1 21 "FillCells$Filling" "windows" "LFillCells$Windows;", Cond.fieldLink RX1 109 "FillCells$Windows" "thinOver" "[I", Cond.methodLink RX1 112 yX5_has, Cond.instanceMethod yX5_has, Cond.selects RX5 yX5_has yX5_has, Cond.initialized RX5, Cond.code yX5_has cX5_has 5 (some .boolean), Cond.fieldLink RX5 9 "FillCells$Windows" "height" "I", Cond.fieldLink RX5 15 "FillCells$Windows" "width" "I", Cond.methodLink RX1 65 yX1_twinsMay, Cond.instanceMethod yX1_twinsMay, Cond.selects RX1 yX1_twinsMay yX1_twinsMay]
def wsX1_chooseTwins_r2 : List Cond := [Cond.code yX1_twinsMay cX1_twinsMay 4 (some .boolean), Cond.fieldLink RX1 69 "FillCells$Field" "fill" "[I", Cond.fieldLink RX1 28 "FillCells$Filling" "nets" "LFillCells$Nets;", Cond.methodLink RX1 72 yX0_room, Cond.instanceMethod yX0_room, Cond.selects RX0 yX0_room yX0_room, Cond.initialized RX0, Cond.code yX0_room cX0_room 2 (some .int), Cond.fieldLink RX0 15 "FillCells$Field" "shut" "[I", Cond.fieldLink RX0 9 "FillCells$Field" "shapes" "[I", Cond.methodLink RX1 82 yX5_bearTwins, Cond.instanceMethod yX5_bearTwins, Cond.selects RX5 yX5_bearTwins yX5_bearTwins, Cond.code yX5_bearTwins cX5_bearTwins 4 (some .boolean), Cond.fieldLink RX5 34 "FillCells$Windows" "shares" "[I", Cond.fieldLink RX5 24 "FillCells$Windows" "sums" "[I", Cond.fieldLink RX5 21 "FillCells$Windows" "high" "I", Cond.methodLink RX1 79 yX3_bear, Cond.instanceMethod yX3_bear, Cond.selects RX3 yX3_bear yX3_bear, Cond.initialized RX3, Cond.code yX3_bear cX3_bear 5 (some .boolean), Cond.fieldLink RX3 15 "FillCells$Nets" "burdens" "[I", Cond.fieldLink RX3 9 "FillCells$Nets" "limits" "[I"]
def wsX1_chooseTwins_r3 : List Cond := [Cond.methodLink RX3 48 yX3_gain, Cond.instanceMethod yX3_gain, Cond.selects RX3 yX3_gain yX3_gain, Cond.code yX3_gain cX3_gain 4 (some .int), Cond.fieldLink RX3 18 "FillCells$Nets" "borne" "[I", Cond.fieldLink RX3 21 "FillCells$Nets" "twinsBorne" "[I"]
def wsX1_chooseTwins : List Cond := .code yX1_chooseTwins cX1_chooseTwins 4 none :: ((wsX1_chooseTwins_r1 ++ (wsX1_chooseTwins_r2 ++ wsX1_chooseTwins_r3)) ++ wsX10 ++ wsX00 ++ wsX50 ++ wsX30)
def wsX1_isChosen_r1 : List Cond := [Cond.fieldLink RX1 12 "FillCells$Filling" "field" "LFillCells$Field;", Cond.fieldLink RX1 58 "FillCells$Field" "twins" "[I", Cond.fieldLink RX1 42 "FillCells$Filling" "twinsChosen" "[Z", Cond.methodLink RX1 106 yX1_isWanted, Cond.instanceMethod yX1_isWanted, Cond.selects RX1 yX1_isWanted yX1_isWanted, Cond.initialized RX1, Cond.code yX1_isWanted cX1_isWanted 3 (some .boolean), Cond.fieldLink RX1 21 "FillCells$Filling" "windows" "LFillCells$Windows;", Cond.fieldLink RX1 109 "FillCells$Windows" "thinOver" "[I", Cond.methodLink RX1 112 yX5_has, Cond.instanceMethod yX5_has, Cond.selects RX5 yX5_has yX5_has, Cond.initialized RX5, Cond.code yX5_has cX5_has 5 (some .boolean), Cond.fieldLink RX5 9 "FillCells$Windows" "height" "I", Cond.fieldLink RX5 15 "FillCells$Windows" "width" "I", Cond.methodLink RX1 61 yX1_loneMay, Cond.instanceMethod yX1_loneMay, Cond.selects RX1 yX1_loneMay yX1_loneMay, Cond.code yX1_loneMay cX1_loneMay 2 (some .boolean), Cond.fieldLink RX1 69 "FillCells$Field" "fill" "[I", Cond.fieldLink RX1 76 "FillCells$Windows" "fullOver" "[I", Cond.fieldLink RX1 28 "FillCells$Filling" "nets" "LFillCells$Nets;"]
def wsX1_isChosen_r2 : List Cond := [Cond.methodLink RX1 72 yX0_room, Cond.instanceMethod yX0_room, Cond.selects RX0 yX0_room yX0_room, Cond.initialized RX0, Cond.code yX0_room cX0_room 2 (some .int), Cond.fieldLink RX0 15 "FillCells$Field" "shut" "[I", Cond.fieldLink RX0 9 "FillCells$Field" "shapes" "[I", Cond.methodLink RX1 79 yX3_bear, Cond.instanceMethod yX3_bear, Cond.selects RX3 yX3_bear yX3_bear, Cond.initialized RX3, Cond.code yX3_bear cX3_bear 5 (some .boolean), Cond.fieldLink RX3 15 "FillCells$Nets" "burdens" "[I", Cond.fieldLink RX3 9 "FillCells$Nets" "limits" "[I", Cond.methodLink RX3 48 yX3_gain, Cond.instanceMethod yX3_gain, Cond.selects RX3 yX3_gain yX3_gain, Cond.code yX3_gain cX3_gain 4 (some .int), Cond.fieldLink RX3 18 "FillCells$Nets" "borne" "[I", Cond.fieldLink RX3 21 "FillCells$Nets" "twinsBorne" "[I"]
def wsX1_isChosen : List Cond := .code yX1_isChosen cX1_isChosen 4 (some .boolean) :: ((wsX1_isChosen_r1 ++ wsX1_isChosen_r2) ++ wsX10 ++ wsX00 ++ wsX50 ++ wsX30)
def wsX3_gainOfAll : List Cond := .code yX3_gainOfAll cX3_gainOfAll 5 (some .int) :: ([.methodLink RX3 48 yX3_gain, .instanceMethod yX3_gain, .selects RX3 yX3_gain yX3_gain, .initialized RX3, .code yX3_gain cX3_gain 4 (some .int), .fieldLink RX3 18 "FillCells$Nets" "borne" "[I", .fieldLink RX3 21 "FillCells$Nets" "twinsBorne" "[I"] ++ wsX30)
def wsX1_rank : List Cond := .code yX1_rank cX1_rank 3 (some .int) :: ([.fieldLink RX1 12 "FillCells$Filling" "field" "LFillCells$Field;", .fieldLink RX1 21 "FillCells$Filling" "windows" "LFillCells$Windows;", .fieldLink RX1 109 "FillCells$Windows" "thinOver" "[I", .fieldLink RX1 28 "FillCells$Filling" "nets" "LFillCells$Nets;", .fieldLink RX1 58 "FillCells$Field" "twins" "[I", .methodLink RX1 115 yX0_sumOf, .instanceMethod yX0_sumOf, .selects RX0 yX0_sumOf yX0_sumOf, .initialized RX0, .code yX0_sumOf cX0_sumOf 2 (some .int), .fieldLink RX0 9 "FillCells$Field" "shapes" "[I", .fieldLink RX0 24 "FillCells$Field" "fill" "[I", .methodLink RX1 118 yX3_gainOfAll, .instanceMethod yX3_gainOfAll, .selects RX3 yX3_gainOfAll yX3_gainOfAll, .initialized RX3, .code yX3_gainOfAll cX3_gainOfAll 5 (some .int), .methodLink RX3 48 yX3_gain, .instanceMethod yX3_gain, .selects RX3 yX3_gain yX3_gain, .code yX3_gain cX3_gain 4 (some .int), .fieldLink RX3 18 "FillCells$Nets" "borne" "[I", .fieldLink RX3 21 "FillCells$Nets" "twinsBorne" "[I"] ++ wsX10 ++ wsX50 ++ wsX00 ++ wsX30)
def wsX1_choice_r1 : List Cond := [Cond.fieldLink RX1 21 "FillCells$Filling" "windows" "LFillCells$Windows;", Cond.methodLink RX1 85 yX5_atLeast, Cond.instanceMethod yX5_atLeast, Cond.selects RX5 yX5_atLeast yX5_atLeast, Cond.initialized RX5, Cond.code yX5_atLeast cX5_atLeast 3 (some .int), Cond.fieldLink RX5 24 "FillCells$Windows" "sums" "[I", Cond.methodLink RX1 89 yX5_isThin, Cond.instanceMethod yX5_isThin, Cond.selects RX5 yX5_isThin yX5_isThin, Cond.code yX5_isThin cX5_isThin 2 (some .boolean), Cond.fieldLink RX5 18 "FillCells$Windows" "low" "I", Cond.methodLink RX1 92 yX1_chooseTwins, Cond.instanceMethod yX1_chooseTwins, Cond.selects RX1 yX1_chooseTwins yX1_chooseTwins, Cond.initialized RX1, Cond.code yX1_chooseTwins cX1_chooseTwins 4 none, Cond.fieldLink RX1 42 "FillCells$Filling" "twinsChosen" "[Z", Cond.methodLink RX1 103 yX1_wantedTwin, Cond.instanceMethod yX1_wantedTwin, Cond.selects RX1 yX1_wantedTwin yX1_wantedTwin, Cond.code yX1_wantedTwin cX1_wantedTwin 4 (some .int), Cond.fieldLink RX1 12 "FillCells$Filling" "field" "LFillCells$Field;", Cond.fieldLink RX1 58 "FillCells$Field" "twins" "[I"]
def wsX1_choice_r2 : List Cond := [Cond.methodLink RX1 106 yX1_isWanted, Cond.instanceMethod yX1_isWanted, Cond.selects RX1 yX1_isWanted yX1_isWanted, Cond.code yX1_isWanted cX1_isWanted 3 (some .boolean), Cond.fieldLink RX1 109 "FillCells$Windows" "thinOver" "[I", Cond.methodLink RX1 112 yX5_has, Cond.instanceMethod yX5_has, Cond.selects RX5 yX5_has yX5_has, Cond.code yX5_has cX5_has 5 (some .boolean), Cond.fieldLink RX5 9 "FillCells$Windows" "height" "I", Cond.fieldLink RX5 15 "FillCells$Windows" "width" "I", Cond.methodLink RX1 65 yX1_twinsMay, Cond.instanceMethod yX1_twinsMay, Cond.selects RX1 yX1_twinsMay yX1_twinsMay, Cond.code yX1_twinsMay cX1_twinsMay 4 (some .boolean), Cond.fieldLink RX1 69 "FillCells$Field" "fill" "[I", Cond.fieldLink RX1 28 "FillCells$Filling" "nets" "LFillCells$Nets;", Cond.methodLink RX1 72 yX0_room, Cond.instanceMethod yX0_room, Cond.selects RX0 yX0_room yX0_room, Cond.initialized RX0, Cond.code yX0_room cX0_room 2 (some .int), Cond.fieldLink RX0 15 "FillCells$Field" "shut" "[I", Cond.fieldLink RX0 9 "FillCells$Field" "shapes" "[I"]
def wsX1_choice_r3 : List Cond := [Cond.methodLink RX1 82 yX5_bearTwins, Cond.instanceMethod yX5_bearTwins, Cond.selects RX5 yX5_bearTwins yX5_bearTwins, Cond.code yX5_bearTwins cX5_bearTwins 4 (some .boolean), Cond.fieldLink RX5 34 "FillCells$Windows" "shares" "[I", Cond.fieldLink RX5 21 "FillCells$Windows" "high" "I", Cond.methodLink RX1 79 yX3_bear, Cond.instanceMethod yX3_bear, Cond.selects RX3 yX3_bear yX3_bear, Cond.initialized RX3, Cond.code yX3_bear cX3_bear 5 (some .boolean), Cond.fieldLink RX3 15 "FillCells$Nets" "burdens" "[I", Cond.fieldLink RX3 9 "FillCells$Nets" "limits" "[I", Cond.methodLink RX3 48 yX3_gain, Cond.instanceMethod yX3_gain, Cond.selects RX3 yX3_gain yX3_gain, Cond.code yX3_gain cX3_gain 4 (some .int), Cond.fieldLink RX3 18 "FillCells$Nets" "borne" "[I", Cond.fieldLink RX3 21 "FillCells$Nets" "twinsBorne" "[I", Cond.methodLink RX1 96 yX1_isChosen, Cond.instanceMethod yX1_isChosen, Cond.selects RX1 yX1_isChosen yX1_isChosen, Cond.code yX1_isChosen cX1_isChosen 4 (some .boolean), Cond.methodLink RX1 61 yX1_loneMay]
def wsX1_choice_r4 : List Cond := [Cond.instanceMethod yX1_loneMay, Cond.selects RX1 yX1_loneMay yX1_loneMay, Cond.code yX1_loneMay cX1_loneMay 2 (some .boolean), Cond.fieldLink RX1 76 "FillCells$Windows" "fullOver" "[I", Cond.methodLink RX1 99 yX1_rank, Cond.instanceMethod yX1_rank, Cond.selects RX1 yX1_rank yX1_rank, Cond.code yX1_rank cX1_rank 3 (some .int), Cond.methodLink RX1 115 yX0_sumOf, Cond.instanceMethod yX0_sumOf, Cond.selects RX0 yX0_sumOf yX0_sumOf, Cond.code yX0_sumOf cX0_sumOf 2 (some .int), Cond.fieldLink RX0 24 "FillCells$Field" "fill" "[I", Cond.methodLink RX1 118 yX3_gainOfAll, Cond.instanceMethod yX3_gainOfAll, Cond.selects RX3 yX3_gainOfAll yX3_gainOfAll, Cond.code yX3_gainOfAll cX3_gainOfAll 5 (some .int)]
def wsX1_choice : List Cond := .code yX1_choice cX1_choice 7 (some .int) :: ((wsX1_choice_r1 ++ (wsX1_choice_r2 ++ (wsX1_choice_r3 ++ wsX1_choice_r4))) ++ wsX10 ++ wsX50 ++ wsX00 ++ wsX30)
def wsX5_shiftOne : List Cond := .code yX5_shiftOne cX5_shiftOne 5 none :: ([.fieldLink RX5 24 "FillCells$Windows" "sums" "[I", .fieldLink RX5 28 "FillCells$Windows" "thinOver" "[I", .fieldLink RX5 31 "FillCells$Windows" "fullOver" "[I", .methodLink RX5 55 yX5_isThin, .instanceMethod yX5_isThin, .selects RX5 yX5_isThin yX5_isThin, .initialized RX5, .code yX5_isThin cX5_isThin 2 (some .boolean), .fieldLink RX5 18 "FillCells$Windows" "low" "I", .methodLink RX5 62 yX5_isFull, .instanceMethod yX5_isFull, .selects RX5 yX5_isFull yX5_isFull, .code yX5_isFull cX5_isFull 2 (some .boolean), .fieldLink RX5 21 "FillCells$Windows" "high" "I", .methodLink RX5 58 yX5_spread, .instanceMethod yX5_spread, .selects RX5 yX5_spread yX5_spread, .code yX5_spread cX5_spread 6 none, .fieldLink RX5 9 "FillCells$Windows" "height" "I", .fieldLink RX5 15 "FillCells$Windows" "width" "I"] ++ wsX50)
def wsX5_shift_r1 : List Cond := [Cond.fieldLink RX5 9 "FillCells$Windows" "height" "I", Cond.methodLink RX5 74 Lib.Math.min.name, Cond.static Lib.Math.min.name, Cond.initialized "java/lang/Math", Cond.code Lib.Math.min.name Lib.Math.min.code 2 (some .int), Cond.fieldLink RX5 15 "FillCells$Windows" "width" "I", Cond.methodLink RX5 80 Lib.Math.max.name, Cond.static Lib.Math.max.name, Cond.code Lib.Math.max.name Lib.Math.max.code 2 (some .int), Cond.methodLink RX5 83 yX5_shiftOne, Cond.instanceMethod yX5_shiftOne, Cond.selects RX5 yX5_shiftOne yX5_shiftOne, Cond.initialized RX5, Cond.code yX5_shiftOne cX5_shiftOne 5 none, Cond.fieldLink RX5 24 "FillCells$Windows" "sums" "[I", Cond.fieldLink RX5 28 "FillCells$Windows" "thinOver" "[I", Cond.fieldLink RX5 31 "FillCells$Windows" "fullOver" "[I", Cond.methodLink RX5 55 yX5_isThin, Cond.instanceMethod yX5_isThin, Cond.selects RX5 yX5_isThin yX5_isThin, Cond.code yX5_isThin cX5_isThin 2 (some .boolean), Cond.fieldLink RX5 18 "FillCells$Windows" "low" "I", Cond.methodLink RX5 62 yX5_isFull, Cond.instanceMethod yX5_isFull]
def wsX5_shift_r2 : List Cond := [Cond.selects RX5 yX5_isFull yX5_isFull, Cond.code yX5_isFull cX5_isFull 2 (some .boolean), Cond.fieldLink RX5 21 "FillCells$Windows" "high" "I", Cond.methodLink RX5 58 yX5_spread, Cond.instanceMethod yX5_spread, Cond.selects RX5 yX5_spread yX5_spread, Cond.code yX5_spread cX5_spread 6 none]
def wsX5_shift : List Cond := .code yX5_shift cX5_shift 9 none :: ((wsX5_shift_r1 ++ wsX5_shift_r2) ++ wsX50)
def wsX1_change_r1 : List Cond := [Cond.fieldLink RX1 12 "FillCells$Filling" "field" "LFillCells$Field;", Cond.fieldLink RX1 58 "FillCells$Field" "twins" "[I", Cond.fieldLink RX1 69 "FillCells$Field" "fill" "[I", Cond.fieldLink RX1 21 "FillCells$Filling" "windows" "LFillCells$Windows;", Cond.fieldLink RX1 28 "FillCells$Filling" "nets" "LFillCells$Nets;", Cond.methodLink RX1 121 yX5_shift, Cond.instanceMethod yX5_shift, Cond.selects RX5 yX5_shift yX5_shift, Cond.initialized RX5, Cond.code yX5_shift cX5_shift 9 none, Cond.fieldLink RX5 9 "FillCells$Windows" "height" "I", Cond.methodLink RX5 74 Lib.Math.min.name, Cond.static Lib.Math.min.name, Cond.initialized "java/lang/Math", Cond.code Lib.Math.min.name Lib.Math.min.code 2 (some .int), Cond.fieldLink RX5 15 "FillCells$Windows" "width" "I", Cond.methodLink RX5 80 Lib.Math.max.name, Cond.static Lib.Math.max.name, Cond.code Lib.Math.max.name Lib.Math.max.code 2 (some .int), Cond.methodLink RX5 83 yX5_shiftOne, Cond.instanceMethod yX5_shiftOne, Cond.selects RX5 yX5_shiftOne yX5_shiftOne, Cond.code yX5_shiftOne cX5_shiftOne 5 none, Cond.fieldLink RX5 24 "FillCells$Windows" "sums" "[I"]
def wsX1_change_r2 : List Cond := [Cond.fieldLink RX5 28 "FillCells$Windows" "thinOver" "[I", Cond.fieldLink RX5 31 "FillCells$Windows" "fullOver" "[I", Cond.methodLink RX5 55 yX5_isThin, Cond.instanceMethod yX5_isThin, Cond.selects RX5 yX5_isThin yX5_isThin, Cond.code yX5_isThin cX5_isThin 2 (some .boolean), Cond.fieldLink RX5 18 "FillCells$Windows" "low" "I", Cond.methodLink RX5 62 yX5_isFull, Cond.instanceMethod yX5_isFull, Cond.selects RX5 yX5_isFull yX5_isFull, Cond.code yX5_isFull cX5_isFull 2 (some .boolean), Cond.fieldLink RX5 21 "FillCells$Windows" "high" "I", Cond.methodLink RX5 58 yX5_spread, Cond.instanceMethod yX5_spread, Cond.selects RX5 yX5_spread yX5_spread, Cond.code yX5_spread cX5_spread 6 none, Cond.methodLink RX1 125 yX3_shift, Cond.instanceMethod yX3_shift, Cond.selects RX3 yX3_shift yX3_shift, Cond.initialized RX3, Cond.code yX3_shift cX3_shift 4 none, Cond.fieldLink RX3 18 "FillCells$Nets" "borne" "[I", Cond.fieldLink RX3 15 "FillCells$Nets" "burdens" "[I"]
def wsX1_change : List Cond := .code yX1_change cX1_change 5 none :: ((wsX1_change_r1 ++ wsX1_change_r2) ++ wsX10 ++ wsX00 ++ wsX50 ++ wsX30)
def wsX1_stepOn_r1 : List Cond := [Cond.methodLink RX1 126 yX1_choice, Cond.instanceMethod yX1_choice, Cond.selects RX1 yX1_choice yX1_choice, Cond.initialized RX1, Cond.code yX1_choice cX1_choice 7 (some .int), Cond.fieldLink RX1 21 "FillCells$Filling" "windows" "LFillCells$Windows;", Cond.methodLink RX1 85 yX5_atLeast, Cond.instanceMethod yX5_atLeast, Cond.selects RX5 yX5_atLeast yX5_atLeast, Cond.initialized RX5, Cond.code yX5_atLeast cX5_atLeast 3 (some .int), Cond.fieldLink RX5 24 "FillCells$Windows" "sums" "[I", Cond.methodLink RX1 89 yX5_isThin, Cond.instanceMethod yX5_isThin, Cond.selects RX5 yX5_isThin yX5_isThin, Cond.code yX5_isThin cX5_isThin 2 (some .boolean), Cond.fieldLink RX5 18 "FillCells$Windows" "low" "I", Cond.methodLink RX1 92 yX1_chooseTwins, Cond.instanceMethod yX1_chooseTwins, Cond.selects RX1 yX1_chooseTwins yX1_chooseTwins, Cond.code yX1_chooseTwins cX1_chooseTwins 4 none, Cond.fieldLink RX1 42 "FillCells$Filling" "twinsChosen" "[Z", Cond.methodLink RX1 103 yX1_wantedTwin, Cond.instanceMethod yX1_wantedTwin]
def wsX1_stepOn_r2 : List Cond := [Cond.selects RX1 yX1_wantedTwin yX1_wantedTwin, Cond.code yX1_wantedTwin cX1_wantedTwin 4 (some .int), Cond.fieldLink RX1 12 "FillCells$Filling" "field" "LFillCells$Field;", Cond.fieldLink RX1 58 "FillCells$Field" "twins" "[I", Cond.methodLink RX1 106 yX1_isWanted, Cond.instanceMethod yX1_isWanted, Cond.selects RX1 yX1_isWanted yX1_isWanted, Cond.code yX1_isWanted cX1_isWanted 3 (some .boolean), Cond.fieldLink RX1 109 "FillCells$Windows" "thinOver" "[I", Cond.methodLink RX1 112 yX5_has, Cond.instanceMethod yX5_has, Cond.selects RX5 yX5_has yX5_has, Cond.code yX5_has cX5_has 5 (some .boolean), Cond.fieldLink RX5 9 "FillCells$Windows" "height" "I", Cond.fieldLink RX5 15 "FillCells$Windows" "width" "I", Cond.methodLink RX1 65 yX1_twinsMay, Cond.instanceMethod yX1_twinsMay, Cond.selects RX1 yX1_twinsMay yX1_twinsMay, Cond.code yX1_twinsMay cX1_twinsMay 4 (some .boolean), Cond.fieldLink RX1 69 "FillCells$Field" "fill" "[I", Cond.fieldLink RX1 28 "FillCells$Filling" "nets" "LFillCells$Nets;", Cond.methodLink RX1 72 yX0_room, Cond.instanceMethod yX0_room, Cond.selects RX0 yX0_room yX0_room]
def wsX1_stepOn_r3 : List Cond := [Cond.initialized RX0, Cond.code yX0_room cX0_room 2 (some .int), Cond.fieldLink RX0 15 "FillCells$Field" "shut" "[I", Cond.fieldLink RX0 9 "FillCells$Field" "shapes" "[I", Cond.methodLink RX1 82 yX5_bearTwins, Cond.instanceMethod yX5_bearTwins, Cond.selects RX5 yX5_bearTwins yX5_bearTwins, Cond.code yX5_bearTwins cX5_bearTwins 4 (some .boolean), Cond.fieldLink RX5 34 "FillCells$Windows" "shares" "[I", Cond.fieldLink RX5 21 "FillCells$Windows" "high" "I", Cond.methodLink RX1 79 yX3_bear, Cond.instanceMethod yX3_bear, Cond.selects RX3 yX3_bear yX3_bear, Cond.initialized RX3, Cond.code yX3_bear cX3_bear 5 (some .boolean), Cond.fieldLink RX3 15 "FillCells$Nets" "burdens" "[I", Cond.fieldLink RX3 9 "FillCells$Nets" "limits" "[I", Cond.methodLink RX3 48 yX3_gain, Cond.instanceMethod yX3_gain, Cond.selects RX3 yX3_gain yX3_gain, Cond.code yX3_gain cX3_gain 4 (some .int), Cond.fieldLink RX3 18 "FillCells$Nets" "borne" "[I", Cond.fieldLink RX3 21 "FillCells$Nets" "twinsBorne" "[I", Cond.methodLink RX1 96 yX1_isChosen]
def wsX1_stepOn_r4 : List Cond := [Cond.instanceMethod yX1_isChosen, Cond.selects RX1 yX1_isChosen yX1_isChosen, Cond.code yX1_isChosen cX1_isChosen 4 (some .boolean), Cond.methodLink RX1 61 yX1_loneMay, Cond.instanceMethod yX1_loneMay, Cond.selects RX1 yX1_loneMay yX1_loneMay, Cond.code yX1_loneMay cX1_loneMay 2 (some .boolean), Cond.fieldLink RX1 76 "FillCells$Windows" "fullOver" "[I", Cond.methodLink RX1 99 yX1_rank, Cond.instanceMethod yX1_rank, Cond.selects RX1 yX1_rank yX1_rank, Cond.code yX1_rank cX1_rank 3 (some .int), Cond.methodLink RX1 115 yX0_sumOf, Cond.instanceMethod yX0_sumOf, Cond.selects RX0 yX0_sumOf yX0_sumOf, Cond.code yX0_sumOf cX0_sumOf 2 (some .int), Cond.fieldLink RX0 24 "FillCells$Field" "fill" "[I", Cond.methodLink RX1 118 yX3_gainOfAll, Cond.instanceMethod yX3_gainOfAll, Cond.selects RX3 yX3_gainOfAll yX3_gainOfAll, Cond.code yX3_gainOfAll cX3_gainOfAll 5 (some .int), Cond.methodLink RX1 129 yX1_change, Cond.instanceMethod yX1_change, Cond.selects RX1 yX1_change yX1_change]
def wsX1_stepOn_r5 : List Cond := [Cond.code yX1_change cX1_change 5 none, Cond.methodLink RX1 121 yX5_shift, Cond.instanceMethod yX5_shift, Cond.selects RX5 yX5_shift yX5_shift, Cond.code yX5_shift cX5_shift 9 none, Cond.methodLink RX5 74 Lib.Math.min.name, Cond.static Lib.Math.min.name, Cond.initialized "java/lang/Math", Cond.code Lib.Math.min.name Lib.Math.min.code 2 (some .int), Cond.methodLink RX5 80 Lib.Math.max.name, Cond.static Lib.Math.max.name, Cond.code Lib.Math.max.name Lib.Math.max.code 2 (some .int), Cond.methodLink RX5 83 yX5_shiftOne, Cond.instanceMethod yX5_shiftOne, Cond.selects RX5 yX5_shiftOne yX5_shiftOne, Cond.code yX5_shiftOne cX5_shiftOne 5 none, Cond.fieldLink RX5 28 "FillCells$Windows" "thinOver" "[I", Cond.fieldLink RX5 31 "FillCells$Windows" "fullOver" "[I", Cond.methodLink RX5 55 yX5_isThin, Cond.methodLink RX5 62 yX5_isFull, Cond.instanceMethod yX5_isFull, Cond.selects RX5 yX5_isFull yX5_isFull, Cond.code yX5_isFull cX5_isFull 2 (some .boolean), Cond.methodLink RX5 58 yX5_spread]
def wsX1_stepOn_r6 : List Cond := [Cond.instanceMethod yX5_spread, Cond.selects RX5 yX5_spread yX5_spread, Cond.code yX5_spread cX5_spread 6 none, Cond.methodLink RX1 125 yX3_shift, Cond.instanceMethod yX3_shift, Cond.selects RX3 yX3_shift yX3_shift, Cond.code yX3_shift cX3_shift 4 none]
def wsX1_stepOn : List Cond := .code yX1_stepOn cX1_stepOn 5 (some .int) :: ((wsX1_stepOn_r1 ++ (wsX1_stepOn_r2 ++ (wsX1_stepOn_r3 ++ (wsX1_stepOn_r4 ++ (wsX1_stepOn_r5 ++ wsX1_stepOn_r6))))) ++ wsX10 ++ wsX50 ++ wsX00 ++ wsX30)
def wsX6_total : List Cond := .code yX6_total cX6_total 6 (some .int) :: ([])
def wsX5_share : List Cond := .code yX5_share cX5_share 4 (some .int) :: ([.fieldLink RX5 34 "FillCells$Windows" "shares" "[I", .methodLink RX5 37 yX5_has, .instanceMethod yX5_has, .selects RX5 yX5_has yX5_has, .initialized RX5, .code yX5_has cX5_has 5 (some .boolean), .fieldLink RX5 9 "FillCells$Windows" "height" "I", .fieldLink RX5 15 "FillCells$Windows" "width" "I"] ++ wsX50)
def wsX5_slack : List Cond := .code yX5_slack cX5_slack 6 (some .int) :: ([.fieldLink RX5 24 "FillCells$Windows" "sums" "[I", .fieldLink RX5 18 "FillCells$Windows" "low" "I", .methodLink RX5 74 Lib.Math.min.name, .static Lib.Math.min.name, .initialized "java/lang/Math", .code Lib.Math.min.name Lib.Math.min.code 2 (some .int), .methodLink RX5 87 yX5_share, .instanceMethod yX5_share, .selects RX5 yX5_share yX5_share, .initialized RX5, .code yX5_share cX5_share 4 (some .int), .fieldLink RX5 34 "FillCells$Windows" "shares" "[I", .methodLink RX5 37 yX5_has, .instanceMethod yX5_has, .selects RX5 yX5_has yX5_has, .code yX5_has cX5_has 5 (some .boolean), .fieldLink RX5 9 "FillCells$Windows" "height" "I", .fieldLink RX5 15 "FillCells$Windows" "width" "I"] ++ wsX50)
def wsX1_thinOut_r1 : List Cond := [Cond.fieldLink RX1 12 "FillCells$Filling" "field" "LFillCells$Field;", Cond.fieldLink RX1 69 "FillCells$Field" "fill" "[I", Cond.fieldLink RX1 21 "FillCells$Filling" "windows" "LFillCells$Windows;", Cond.fieldLink RX1 58 "FillCells$Field" "twins" "[I", Cond.methodLink RX1 139 Lib.Math.min.name, Cond.static Lib.Math.min.name, Cond.initialized "java/lang/Math", Cond.code Lib.Math.min.name Lib.Math.min.code 2 (some .int), Cond.static yX6_total, Cond.initialized RX6, Cond.code yX6_total cX6_total 6 (some .int), Cond.methodLink RX1 136 yX5_slack, Cond.instanceMethod yX5_slack, Cond.selects RX5 yX5_slack yX5_slack, Cond.initialized RX5, Cond.code yX5_slack cX5_slack 6 (some .int), Cond.fieldLink RX5 24 "FillCells$Windows" "sums" "[I", Cond.fieldLink RX5 18 "FillCells$Windows" "low" "I", Cond.methodLink RX5 74 Lib.Math.min.name, Cond.methodLink RX5 87 yX5_share, Cond.instanceMethod yX5_share, Cond.selects RX5 yX5_share yX5_share, Cond.code yX5_share cX5_share 4 (some .int), Cond.fieldLink RX5 34 "FillCells$Windows" "shares" "[I"]
def wsX1_thinOut_r2 : List Cond := [Cond.methodLink RX5 37 yX5_has, Cond.instanceMethod yX5_has, Cond.selects RX5 yX5_has yX5_has, Cond.code yX5_has cX5_has 5 (some .boolean), Cond.fieldLink RX5 9 "FillCells$Windows" "height" "I", Cond.fieldLink RX5 15 "FillCells$Windows" "width" "I", Cond.methodLink RX1 129 yX1_change, Cond.instanceMethod yX1_change, Cond.selects RX1 yX1_change yX1_change, Cond.initialized RX1, Cond.code yX1_change cX1_change 5 none, Cond.fieldLink RX1 28 "FillCells$Filling" "nets" "LFillCells$Nets;", Cond.methodLink RX1 121 yX5_shift, Cond.instanceMethod yX5_shift, Cond.selects RX5 yX5_shift yX5_shift, Cond.code yX5_shift cX5_shift 9 none, Cond.methodLink RX5 80 Lib.Math.max.name, Cond.static Lib.Math.max.name, Cond.code Lib.Math.max.name Lib.Math.max.code 2 (some .int), Cond.methodLink RX5 83 yX5_shiftOne, Cond.instanceMethod yX5_shiftOne, Cond.selects RX5 yX5_shiftOne yX5_shiftOne, Cond.code yX5_shiftOne cX5_shiftOne 5 none, Cond.fieldLink RX5 28 "FillCells$Windows" "thinOver" "[I"]
def wsX1_thinOut_r3 : List Cond := [Cond.fieldLink RX5 31 "FillCells$Windows" "fullOver" "[I", Cond.methodLink RX5 55 yX5_isThin, Cond.instanceMethod yX5_isThin, Cond.selects RX5 yX5_isThin yX5_isThin, Cond.code yX5_isThin cX5_isThin 2 (some .boolean), Cond.methodLink RX5 62 yX5_isFull, Cond.instanceMethod yX5_isFull, Cond.selects RX5 yX5_isFull yX5_isFull, Cond.code yX5_isFull cX5_isFull 2 (some .boolean), Cond.fieldLink RX5 21 "FillCells$Windows" "high" "I", Cond.methodLink RX5 58 yX5_spread, Cond.instanceMethod yX5_spread, Cond.selects RX5 yX5_spread yX5_spread, Cond.code yX5_spread cX5_spread 6 none, Cond.methodLink RX1 125 yX3_shift, Cond.instanceMethod yX3_shift, Cond.selects RX3 yX3_shift yX3_shift, Cond.initialized RX3, Cond.code yX3_shift cX3_shift 4 none, Cond.fieldLink RX3 18 "FillCells$Nets" "borne" "[I", Cond.fieldLink RX3 15 "FillCells$Nets" "burdens" "[I"]
def wsX1_thinOut : List Cond := .code yX1_thinOut cX1_thinOut 4 (some .int) :: ((wsX1_thinOut_r1 ++ (wsX1_thinOut_r2 ++ wsX1_thinOut_r3)) ++ wsX10 ++ wsX00 ++ wsX50 ++ wsX30)
def wsX5_countThin : List Cond := .code yX5_countThin cX5_countThin 3 (some .int) :: ([.methodLink RX5 55 yX5_isThin, .instanceMethod yX5_isThin, .selects RX5 yX5_isThin yX5_isThin, .initialized RX5, .code yX5_isThin cX5_isThin 2 (some .boolean), .fieldLink RX5 24 "FillCells$Windows" "sums" "[I", .fieldLink RX5 18 "FillCells$Windows" "low" "I"] ++ wsX50)
def wsX1_rate : List Cond := .code yX1_rate cX1_rate 4 none :: ([.fieldLink RX1 36 "FillCells$Filling" "bestThin" "I", .fieldLink RX1 39 "FillCells$Filling" "bestFill" "I", .fieldLink RX1 32 "FillCells$Filling" "bestRule" "I"] ++ wsX10)
def wsX1_tryRules_r1 : List Cond := [Cond.fieldLink RX1 12 "FillCells$Filling" "field" "LFillCells$Field;", Cond.fieldLink RX1 69 "FillCells$Field" "fill" "[I", Cond.fieldLink RX1 46 "FillCells$Filling" "fillAhead" "[I", Cond.methodLink RX1 144 arraycopyName, Cond.native arraycopyName, Cond.static arraycopyName, Cond.initialized "java/lang/System", Cond.fieldLink RX1 21 "FillCells$Filling" "windows" "LFillCells$Windows;", Cond.methodLink RX1 150 yX1_stepOn, Cond.instanceMethod yX1_stepOn, Cond.selects RX1 yX1_stepOn yX1_stepOn, Cond.initialized RX1, Cond.code yX1_stepOn cX1_stepOn 5 (some .int), Cond.methodLink RX1 126 yX1_choice, Cond.instanceMethod yX1_choice, Cond.selects RX1 yX1_choice yX1_choice, Cond.code yX1_choice cX1_choice 7 (some .int), Cond.methodLink RX1 85 yX5_atLeast, Cond.instanceMethod yX5_atLeast, Cond.selects RX5 yX5_atLeast yX5_atLeast, Cond.initialized RX5, Cond.code yX5_atLeast cX5_atLeast 3 (some .int), Cond.fieldLink RX5 24 "FillCells$Windows" "sums" "[I", Cond.methodLink RX1 89 yX5_isThin]
def wsX1_tryRules_r2 : List Cond := [Cond.instanceMethod yX5_isThin, Cond.selects RX5 yX5_isThin yX5_isThin, Cond.code yX5_isThin cX5_isThin 2 (some .boolean), Cond.fieldLink RX5 18 "FillCells$Windows" "low" "I", Cond.methodLink RX1 92 yX1_chooseTwins, Cond.instanceMethod yX1_chooseTwins, Cond.selects RX1 yX1_chooseTwins yX1_chooseTwins, Cond.code yX1_chooseTwins cX1_chooseTwins 4 none, Cond.fieldLink RX1 42 "FillCells$Filling" "twinsChosen" "[Z", Cond.methodLink RX1 103 yX1_wantedTwin, Cond.instanceMethod yX1_wantedTwin, Cond.selects RX1 yX1_wantedTwin yX1_wantedTwin, Cond.code yX1_wantedTwin cX1_wantedTwin 4 (some .int), Cond.fieldLink RX1 58 "FillCells$Field" "twins" "[I", Cond.methodLink RX1 106 yX1_isWanted, Cond.instanceMethod yX1_isWanted, Cond.selects RX1 yX1_isWanted yX1_isWanted, Cond.code yX1_isWanted cX1_isWanted 3 (some .boolean), Cond.fieldLink RX1 109 "FillCells$Windows" "thinOver" "[I", Cond.methodLink RX1 112 yX5_has, Cond.instanceMethod yX5_has, Cond.selects RX5 yX5_has yX5_has, Cond.code yX5_has cX5_has 5 (some .boolean), Cond.fieldLink RX5 9 "FillCells$Windows" "height" "I"]
def wsX1_tryRules_r3 : List Cond := [Cond.fieldLink RX5 15 "FillCells$Windows" "width" "I", Cond.methodLink RX1 65 yX1_twinsMay, Cond.instanceMethod yX1_twinsMay, Cond.selects RX1 yX1_twinsMay yX1_twinsMay, Cond.code yX1_twinsMay cX1_twinsMay 4 (some .boolean), Cond.fieldLink RX1 28 "FillCells$Filling" "nets" "LFillCells$Nets;", Cond.methodLink RX1 72 yX0_room, Cond.instanceMethod yX0_room, Cond.selects RX0 yX0_room yX0_room, Cond.initialized RX0, Cond.code yX0_room cX0_room 2 (some .int), Cond.fieldLink RX0 15 "FillCells$Field" "shut" "[I", Cond.fieldLink RX0 9 "FillCells$Field" "shapes" "[I", Cond.methodLink RX1 82 yX5_bearTwins, Cond.instanceMethod yX5_bearTwins, Cond.selects RX5 yX5_bearTwins yX5_bearTwins, Cond.code yX5_bearTwins cX5_bearTwins 4 (some .boolean), Cond.fieldLink RX5 34 "FillCells$Windows" "shares" "[I", Cond.fieldLink RX5 21 "FillCells$Windows" "high" "I", Cond.methodLink RX1 79 yX3_bear, Cond.instanceMethod yX3_bear, Cond.selects RX3 yX3_bear yX3_bear, Cond.initialized RX3, Cond.code yX3_bear cX3_bear 5 (some .boolean)]
def wsX1_tryRules_r4 : List Cond := [Cond.fieldLink RX3 15 "FillCells$Nets" "burdens" "[I", Cond.fieldLink RX3 9 "FillCells$Nets" "limits" "[I", Cond.methodLink RX3 48 yX3_gain, Cond.instanceMethod yX3_gain, Cond.selects RX3 yX3_gain yX3_gain, Cond.code yX3_gain cX3_gain 4 (some .int), Cond.fieldLink RX3 18 "FillCells$Nets" "borne" "[I", Cond.fieldLink RX3 21 "FillCells$Nets" "twinsBorne" "[I", Cond.methodLink RX1 96 yX1_isChosen, Cond.instanceMethod yX1_isChosen, Cond.selects RX1 yX1_isChosen yX1_isChosen, Cond.code yX1_isChosen cX1_isChosen 4 (some .boolean), Cond.methodLink RX1 61 yX1_loneMay, Cond.instanceMethod yX1_loneMay, Cond.selects RX1 yX1_loneMay yX1_loneMay, Cond.code yX1_loneMay cX1_loneMay 2 (some .boolean), Cond.fieldLink RX1 76 "FillCells$Windows" "fullOver" "[I", Cond.methodLink RX1 99 yX1_rank, Cond.instanceMethod yX1_rank, Cond.selects RX1 yX1_rank yX1_rank, Cond.code yX1_rank cX1_rank 3 (some .int), Cond.methodLink RX1 115 yX0_sumOf, Cond.instanceMethod yX0_sumOf, Cond.selects RX0 yX0_sumOf yX0_sumOf]
def wsX1_tryRules_r5 : List Cond := [Cond.code yX0_sumOf cX0_sumOf 2 (some .int), Cond.fieldLink RX0 24 "FillCells$Field" "fill" "[I", Cond.methodLink RX1 118 yX3_gainOfAll, Cond.instanceMethod yX3_gainOfAll, Cond.selects RX3 yX3_gainOfAll yX3_gainOfAll, Cond.code yX3_gainOfAll cX3_gainOfAll 5 (some .int), Cond.methodLink RX1 129 yX1_change, Cond.instanceMethod yX1_change, Cond.selects RX1 yX1_change yX1_change, Cond.code yX1_change cX1_change 5 none, Cond.methodLink RX1 121 yX5_shift, Cond.instanceMethod yX5_shift, Cond.selects RX5 yX5_shift yX5_shift, Cond.code yX5_shift cX5_shift 9 none, Cond.methodLink RX5 74 Lib.Math.min.name, Cond.static Lib.Math.min.name, Cond.initialized "java/lang/Math", Cond.code Lib.Math.min.name Lib.Math.min.code 2 (some .int), Cond.methodLink RX5 80 Lib.Math.max.name, Cond.static Lib.Math.max.name, Cond.code Lib.Math.max.name Lib.Math.max.code 2 (some .int), Cond.methodLink RX5 83 yX5_shiftOne, Cond.instanceMethod yX5_shiftOne, Cond.selects RX5 yX5_shiftOne yX5_shiftOne]
def wsX1_tryRules_r6 : List Cond := [Cond.code yX5_shiftOne cX5_shiftOne 5 none, Cond.fieldLink RX5 28 "FillCells$Windows" "thinOver" "[I", Cond.fieldLink RX5 31 "FillCells$Windows" "fullOver" "[I", Cond.methodLink RX5 55 yX5_isThin, Cond.methodLink RX5 62 yX5_isFull, Cond.instanceMethod yX5_isFull, Cond.selects RX5 yX5_isFull yX5_isFull, Cond.code yX5_isFull cX5_isFull 2 (some .boolean), Cond.methodLink RX5 58 yX5_spread, Cond.instanceMethod yX5_spread, Cond.selects RX5 yX5_spread yX5_spread, Cond.code yX5_spread cX5_spread 6 none, Cond.methodLink RX1 125 yX3_shift, Cond.instanceMethod yX3_shift, Cond.selects RX3 yX3_shift yX3_shift, Cond.code yX3_shift cX3_shift 4 none, Cond.methodLink RX1 153 yX1_thinOut, Cond.instanceMethod yX1_thinOut, Cond.selects RX1 yX1_thinOut yX1_thinOut, Cond.code yX1_thinOut cX1_thinOut 4 (some .int), Cond.methodLink RX1 139 Lib.Math.min.name, Cond.static yX6_total, Cond.initialized RX6, Cond.code yX6_total cX6_total 6 (some .int)]
def wsX1_tryRules_r7 : List Cond := [Cond.methodLink RX1 136 yX5_slack, Cond.instanceMethod yX5_slack, Cond.selects RX5 yX5_slack yX5_slack, Cond.code yX5_slack cX5_slack 6 (some .int), Cond.methodLink RX5 87 yX5_share, Cond.instanceMethod yX5_share, Cond.selects RX5 yX5_share yX5_share, Cond.code yX5_share cX5_share 4 (some .int), Cond.methodLink RX5 37 yX5_has, Cond.methodLink RX1 156 yX5_countThin, Cond.instanceMethod yX5_countThin, Cond.selects RX5 yX5_countThin yX5_countThin, Cond.code yX5_countThin cX5_countThin 3 (some .int), Cond.methodLink RX1 159 yX1_rate, Cond.instanceMethod yX1_rate, Cond.selects RX1 yX1_rate yX1_rate, Cond.code yX1_rate cX1_rate 4 none, Cond.fieldLink RX1 36 "FillCells$Filling" "bestThin" "I", Cond.fieldLink RX1 39 "FillCells$Filling" "bestFill" "I", Cond.fieldLink RX1 32 "FillCells$Filling" "bestRule" "I", Cond.methodLink RX1 163 yX1_measure, Cond.instanceMethod yX1_measure, Cond.selects RX1 yX1_measure yX1_measure, Cond.code yX1_measure cX1_measure 1 none]
def wsX1_tryRules_r8 : List Cond := [Cond.methodLink RX1 53 yX5_measure, Cond.instanceMethod yX5_measure, Cond.selects RX5 yX5_measure yX5_measure, Cond.code yX5_measure cX5_measure 3 none, Cond.methodLink RX5 41 yJ7_fill_53178, Cond.static yJ7_fill_53178, Cond.initialized RJ7, Cond.code yJ7_fill_53178 cJ7_fill_53178 4 none, Cond.methodLink RX5 47 yX5_lies, Cond.instanceMethod yX5_lies, Cond.selects RX5 yX5_lies yX5_lies, Cond.code yX5_lies cX5_lies 2 (some .boolean), Cond.methodLink RX5 51 yX5_addUp, Cond.instanceMethod yX5_addUp, Cond.selects RX5 yX5_addUp yX5_addUp, Cond.code yX5_addUp cX5_addUp 7 none, Cond.fieldLink RX5 71 "FillCells$Field" "twins" "[I", Cond.methodLink RX5 65 yX0_sumOf, Cond.methodLink RX1 57 yX3_measure, Cond.instanceMethod yX3_measure, Cond.selects RX3 yX3_measure yX3_measure, Cond.code yX3_measure cX3_measure 5 none, Cond.fieldLink RX3 30 "FillCells$Field" "net" "[I", Cond.fieldLink RX3 39 "FillCells$Field" "twins" "[I"]
def wsX1_tryRules_r9 : List Cond := [Cond.fieldLink RX3 42 "FillCells$Field" "fill" "[I", Cond.methodLink RX3 24 yJ7_fill_53178, Cond.methodLink RX3 35 yX3_netsBeside, Cond.static yX3_netsBeside, Cond.code yX3_netsBeside cX3_netsBeside 4 (some .int), Cond.methodLink RX3 44 yX3_shift]
def wsX1_tryRules : List Cond := .code yX1_tryRules cX1_tryRules 2 none :: ((wsX1_tryRules_r1 ++ (wsX1_tryRules_r2 ++ (wsX1_tryRules_r3 ++ (wsX1_tryRules_r4 ++ (wsX1_tryRules_r5 ++ (wsX1_tryRules_r6 ++ (wsX1_tryRules_r7 ++ (wsX1_tryRules_r8 ++ wsX1_tryRules_r9)))))))) ++ wsX10 ++ wsX00 ++ wsX50 ++ wsX30)
def wsX1_stretch : List Cond := .code yX1_stretch cX1_stretch 4 (some .int) :: ([.fieldLink RX1 21 "FillCells$Filling" "windows" "LFillCells$Windows;", .fieldLink RX1 168 "FillCells$Windows" "width" "I", .fieldLink RX1 50 "FillCells$Filling" "line" "[I"] ++ wsX10 ++ wsX50)
def wsX1_leastInRow : List Cond := .code yX1_leastInRow cX1_leastInRow 9 (some .int) :: ([.fieldLink RX1 12 "FillCells$Filling" "field" "LFillCells$Field;", .fieldLink RX1 165 "FillCells$Field" "shapes" "[I", .fieldLink RX1 50 "FillCells$Filling" "line" "[I", .methodLink RX1 144 arraycopyName, .native arraycopyName, .static arraycopyName, .initialized "java/lang/System", .fieldLink RX1 21 "FillCells$Filling" "windows" "LFillCells$Windows;", .fieldLink RX1 168 "FillCells$Windows" "width" "I", .fieldLink RX1 174 "FillCells$Field" "shut" "[I", .methodLink RX1 139 Lib.Math.min.name, .static Lib.Math.min.name, .initialized "java/lang/Math", .code Lib.Math.min.name Lib.Math.min.code 2 (some .int), .methodLink RX1 171 yX1_stretch, .instanceMethod yX1_stretch, .selects RX1 yX1_stretch yX1_stretch, .initialized RX1, .code yX1_stretch cX1_stretch 4 (some .int)] ++ wsX10 ++ wsX00 ++ wsX50)
def wsX2_init : List Cond := .code yX2_init cX2_init 1 none :: ([.methodLink RX2 3 objectInit, .instanceMethod objectInit, .code objectInit ⟨#[0xb1]⟩ 1 none, .fieldLink RX2 9 "FillCells$History" "kept" "I", .fieldLink RX2 15 "FillCells$History" "oldest" "I", .arrayClass .int, .fieldLink RX2 18 "FillCells$History" "fields" "[I"] ++ wsX20)
def wsX2_start : List Cond := .code yX2_start cX2_start 2 (some .int) :: ([.fieldLink RX2 15 "FillCells$History" "oldest" "I"] ++ wsX20)
def wsX2_note : List Cond := .code yX2_note cX2_note 4 none :: ([.fieldLink RX2 9 "FillCells$History" "kept" "I", .fieldLink RX2 18 "FillCells$History" "fields" "[I", .methodLink RX2 22 yX2_start, .instanceMethod yX2_start, .selects RX2 yX2_start yX2_start, .initialized RX2, .code yX2_start cX2_start 2 (some .int), .fieldLink RX2 15 "FillCells$History" "oldest" "I", .methodLink RX2 26 yX0_packed, .instanceMethod yX0_packed, .selects RX0 yX0_packed yX0_packed, .initialized RX0, .code yX0_packed cX0_packed 2 (some .int), .fieldLink RX0 9 "FillCells$Field" "shapes" "[I", .fieldLink RX0 24 "FillCells$Field" "fill" "[I", .fieldLink RX0 15 "FillCells$Field" "shut" "[I", .fieldLink RX0 18 "FillCells$Field" "net" "[I", .fieldLink RX0 21 "FillCells$Field" "twins" "[I"] ++ wsX20 ++ wsX00)
def wsX2_keep : List Cond := .code yX2_keep cX2_keep 1 none :: ([.fieldLink RX2 9 "FillCells$History" "kept" "I", .fieldLink RX2 15 "FillCells$History" "oldest" "I"] ++ wsX20)
def wsX2_takeBack : List Cond := .code yX2_takeBack cX2_takeBack 4 none :: ([.fieldLink RX2 9 "FillCells$History" "kept" "I", .fieldLink RX2 18 "FillCells$History" "fields" "[I", .methodLink RX2 22 yX2_start, .instanceMethod yX2_start, .selects RX2 yX2_start yX2_start, .initialized RX2, .code yX2_start cX2_start 2 (some .int), .fieldLink RX2 15 "FillCells$History" "oldest" "I", .methodLink RX2 31 yX0_unpack, .instanceMethod yX0_unpack, .selects RX0 yX0_unpack yX0_unpack, .initialized RX0, .code yX0_unpack cX0_unpack 3 none, .fieldLink RX0 9 "FillCells$Field" "shapes" "[I", .fieldLink RX0 24 "FillCells$Field" "fill" "[I", .fieldLink RX0 15 "FillCells$Field" "shut" "[I", .fieldLink RX0 18 "FillCells$Field" "net" "[I", .fieldLink RX0 21 "FillCells$Field" "twins" "[I"] ++ wsX20 ++ wsX00)
def wsX4_init : List Cond := .code yX4_init cX4_init 1 none :: ([.methodLink RX4 3 objectInit, .instanceMethod objectInit, .code objectInit ⟨#[0xb1]⟩ 1 none, .fieldLink RX4 9 "FillCells$Text" "length" "I", .arrayClass .int, .fieldLink RX4 15 "FillCells$Text" "bytes" "[I"] ++ wsX40)
def wsX4_append : List Cond := .code yX4_append cX4_append 2 none :: ([.fieldLink RX4 9 "FillCells$Text" "length" "I", .fieldLink RX4 15 "FillCells$Text" "bytes" "[I"] ++ wsX40)
def wsX4_isSign : List Cond := .code yX4_isSign cX4_isSign 1 (some .boolean) :: ([])
def wsX4_fault : List Cond := .code yX4_fault cX4_fault 6 (some .int) :: ([.fieldLink RX4 9 "FillCells$Text" "length" "I", .fieldLink RX4 15 "FillCells$Text" "bytes" "[I", .methodLink RX4 19 yX4_isSign, .static yX4_isSign, .initialized RX4, .code yX4_isSign cX4_isSign 1 (some .boolean)] ++ wsX40)
def wsX6_isIn : List Cond := .code yX6_isIn cX6_isIn 3 (some .boolean) :: ([])
def wsX6_isCell : List Cond := .code yX6_isCell cX6_isCell 1 (some .boolean) :: ([.methodLink RX6 54 yX6_isIn, .static yX6_isIn, .initialized RX6, .code yX6_isIn cX6_isIn 3 (some .boolean)])
def wsX4_tellCell : List Cond := .code yX4_tellCell cX4_tellCell 3 none :: ([.fieldLink RX4 30 "FillCells$Field" "shut" "[I", .fieldLink RX4 35 "FillCells$Field" "shapes" "[I", .static yX6_isCell, .initialized RX6, .code yX6_isCell cX6_isCell 1 (some .boolean), .methodLink RX6 54 yX6_isIn, .static yX6_isIn, .code yX6_isIn cX6_isIn 3 (some .boolean)] ++ wsX00)
def wsX4_tell : List Cond := .code yX4_tell cX4_tell 6 (some .int) :: ([.fieldLink RX4 9 "FillCells$Text" "length" "I", .fieldLink RX4 15 "FillCells$Text" "bytes" "[I", .methodLink RX4 23 yX4_tellCell, .static yX4_tellCell, .initialized RX4, .code yX4_tellCell cX4_tellCell 3 none, .fieldLink RX4 30 "FillCells$Field" "shut" "[I", .fieldLink RX4 35 "FillCells$Field" "shapes" "[I", .static yX6_isCell, .initialized RX6, .code yX6_isCell cX6_isCell 1 (some .boolean), .methodLink RX6 54 yX6_isIn, .static yX6_isIn, .code yX6_isIn cX6_isIn 3 (some .boolean)] ++ wsX40 ++ wsX00)
def wsX5_count : List Cond := .code yX5_count cX5_count 1 (some .int) :: ([.fieldLink RX5 9 "FillCells$Windows" "height" "I", .fieldLink RX5 15 "FillCells$Windows" "width" "I"] ++ wsX50)
def wsX5_countThick : List Cond := .code yX5_countThick cX5_countThick 3 (some .int) :: ([.fieldLink RX5 24 "FillCells$Windows" "sums" "[I", .fieldLink RX5 21 "FillCells$Windows" "high" "I"] ++ wsX50)
def wsX5_countOf : List Cond := .code yX5_countOf cX5_countOf 4 (some .int) :: ([.fieldLink RX5 24 "FillCells$Windows" "sums" "[I"] ++ wsX50)
def wsX5_sumAbove : List Cond := .code yX5_sumAbove cX5_sumAbove 4 (some .int) :: ([.fieldLink RX5 24 "FillCells$Windows" "sums" "[I"] ++ wsX50)
def wsX5_countUnlike : List Cond := .code yX5_countUnlike cX5_countUnlike 3 (some .int) :: ([.methodLink RX5 91 yX5_sumAbove, .instanceMethod yX5_sumAbove, .selects RX5 yX5_sumAbove yX5_sumAbove, .initialized RX5, .code yX5_sumAbove cX5_sumAbove 4 (some .int), .fieldLink RX5 24 "FillCells$Windows" "sums" "[I"] ++ wsX50)
def wsX5_unlikeSum : List Cond := .code yX5_unlikeSum cX5_unlikeSum 4 (some .int) :: ([.methodLink RX5 91 yX5_sumAbove, .instanceMethod yX5_sumAbove, .selects RX5 yX5_sumAbove yX5_sumAbove, .initialized RX5, .code yX5_sumAbove cX5_sumAbove 4 (some .int), .fieldLink RX5 24 "FillCells$Windows" "sums" "[I"] ++ wsX50)
def wsX5_likeOne : List Cond := .code yX5_likeOne cX5_likeOne 5 (some .int) :: ([.fieldLink RX5 24 "FillCells$Windows" "sums" "[I"] ++ wsX50)
def wsX5_rising : List Cond := .code yX5_rising cX5_rising 6 (some .int) :: ([.methodLink RX5 91 yX5_sumAbove, .instanceMethod yX5_sumAbove, .selects RX5 yX5_sumAbove yX5_sumAbove, .initialized RX5, .code yX5_sumAbove cX5_sumAbove 4 (some .int), .fieldLink RX5 24 "FillCells$Windows" "sums" "[I", .methodLink RX5 94 yX5_countOf, .instanceMethod yX5_countOf, .selects RX5 yX5_countOf yX5_countOf, .code yX5_countOf cX5_countOf 4 (some .int), .methodLink RX5 97 yX5_likeOne, .instanceMethod yX5_likeOne, .selects RX5 yX5_likeOne yX5_likeOne, .code yX5_likeOne cX5_likeOne 5 (some .int)] ++ wsX50)
def wsX5_atGreatest : List Cond := .code yX5_atGreatest cX5_atGreatest 3 (some .int) :: ([.fieldLink RX5 24 "FillCells$Windows" "sums" "[I"] ++ wsX50)
def wsX6_useSettings_r1 : List Cond := [Cond.fieldLink RX6 10 "FillCells" "filling" "LFillCells$Filling;", Cond.fieldLink RX6 117 "FillCells$Filling" "windows" "LFillCells$Windows;", Cond.fieldLink RX6 30 "FillCells" "settings" "[I", Cond.fieldLink RX6 233 "FillCells$Windows" "height" "I", Cond.fieldLink RX6 236 "FillCells$Windows" "width" "I", Cond.fieldLink RX6 239 "FillCells$Windows" "low" "I", Cond.fieldLink RX6 242 "FillCells$Windows" "high" "I", Cond.fieldLink RX6 157 "FillCells$Filling" "nets" "LFillCells$Nets;", Cond.fieldLink RX6 227 "FillCells$Nets" "limits" "[I", Cond.methodLink RX6 82 yX1_measure, Cond.instanceMethod yX1_measure, Cond.selects RX1 yX1_measure yX1_measure, Cond.initialized RX1, Cond.code yX1_measure cX1_measure 1 none, Cond.fieldLink RX1 21 "FillCells$Filling" "windows" "LFillCells$Windows;", Cond.fieldLink RX1 12 "FillCells$Filling" "field" "LFillCells$Field;", Cond.fieldLink RX1 28 "FillCells$Filling" "nets" "LFillCells$Nets;", Cond.methodLink RX1 53 yX5_measure, Cond.instanceMethod yX5_measure, Cond.selects RX5 yX5_measure yX5_measure, Cond.initialized RX5, Cond.code yX5_measure cX5_measure 3 none, Cond.fieldLink RX5 28 "FillCells$Windows" "thinOver" "[I", Cond.fieldLink RX5 31 "FillCells$Windows" "fullOver" "[I"]
def wsX6_useSettings_r2 : List Cond := [Cond.fieldLink RX5 34 "FillCells$Windows" "shares" "[I", Cond.fieldLink RX5 24 "FillCells$Windows" "sums" "[I", Cond.methodLink RX5 41 yJ7_fill_53178, Cond.static yJ7_fill_53178, Cond.initialized RJ7, Cond.code yJ7_fill_53178 cJ7_fill_53178 4 none, Cond.methodLink RX5 47 yX5_lies, Cond.instanceMethod yX5_lies, Cond.selects RX5 yX5_lies yX5_lies, Cond.code yX5_lies cX5_lies 2 (some .boolean), Cond.fieldLink RX5 9 "FillCells$Windows" "height" "I", Cond.fieldLink RX5 15 "FillCells$Windows" "width" "I", Cond.methodLink RX5 51 yX5_addUp, Cond.instanceMethod yX5_addUp, Cond.selects RX5 yX5_addUp yX5_addUp, Cond.code yX5_addUp cX5_addUp 7 none, Cond.fieldLink RX5 71 "FillCells$Field" "twins" "[I", Cond.methodLink RX5 65 yX0_sumOf, Cond.instanceMethod yX0_sumOf, Cond.selects RX0 yX0_sumOf yX0_sumOf, Cond.initialized RX0, Cond.code yX0_sumOf cX0_sumOf 2 (some .int), Cond.fieldLink RX0 9 "FillCells$Field" "shapes" "[I", Cond.fieldLink RX0 24 "FillCells$Field" "fill" "[I"]
def wsX6_useSettings_r3 : List Cond := [Cond.methodLink RX5 55 yX5_isThin, Cond.instanceMethod yX5_isThin, Cond.selects RX5 yX5_isThin yX5_isThin, Cond.code yX5_isThin cX5_isThin 2 (some .boolean), Cond.fieldLink RX5 18 "FillCells$Windows" "low" "I", Cond.methodLink RX5 58 yX5_spread, Cond.instanceMethod yX5_spread, Cond.selects RX5 yX5_spread yX5_spread, Cond.code yX5_spread cX5_spread 6 none, Cond.methodLink RX5 62 yX5_isFull, Cond.instanceMethod yX5_isFull, Cond.selects RX5 yX5_isFull yX5_isFull, Cond.code yX5_isFull cX5_isFull 2 (some .boolean), Cond.fieldLink RX5 21 "FillCells$Windows" "high" "I", Cond.methodLink RX1 57 yX3_measure, Cond.instanceMethod yX3_measure, Cond.selects RX3 yX3_measure yX3_measure, Cond.initialized RX3, Cond.code yX3_measure cX3_measure 5 none, Cond.fieldLink RX3 15 "FillCells$Nets" "burdens" "[I", Cond.fieldLink RX3 21 "FillCells$Nets" "twinsBorne" "[I", Cond.fieldLink RX3 30 "FillCells$Field" "net" "[I", Cond.fieldLink RX3 18 "FillCells$Nets" "borne" "[I", Cond.fieldLink RX3 39 "FillCells$Field" "twins" "[I"]
def wsX6_useSettings_r4 : List Cond := [Cond.fieldLink RX3 42 "FillCells$Field" "fill" "[I", Cond.methodLink RX3 24 yJ7_fill_53178, Cond.methodLink RX3 35 yX3_netsBeside, Cond.static yX3_netsBeside, Cond.code yX3_netsBeside cX3_netsBeside 4 (some .int), Cond.methodLink RX3 44 yX3_shift, Cond.instanceMethod yX3_shift, Cond.selects RX3 yX3_shift yX3_shift, Cond.code yX3_shift cX3_shift 4 none]
def wsX6_useSettings : List Cond := .code yX6_useSettings cX6_useSettings 3 none :: ((wsX6_useSettings_r1 ++ (wsX6_useSettings_r2 ++ (wsX6_useSettings_r3 ++ wsX6_useSettings_r4))) ++ wsX60 ++ wsX10 ++ wsX50 ++ wsX30 ++ wsX00)
def wsX6_init_r1 : List Cond := [Cond.methodLink RX6 1 objectInit, Cond.instanceMethod objectInit, Cond.code objectInit ⟨#[0xb1]⟩ 1 none, Cond.classLink RX6 7 RX1, Cond.instantiable RX1 9, Cond.initialized RX1, Cond.fieldLink RX6 10 "FillCells" "filling" "LFillCells$Filling;", Cond.classLink RX6 16 RX2, Cond.instantiable RX2 3, Cond.initialized RX2, Cond.fieldLink RX6 19 "FillCells" "history" "LFillCells$History;", Cond.classLink RX6 23 RX4, Cond.instantiable RX4 2, Cond.initialized RX4, Cond.fieldLink RX6 26 "FillCells" "text" "LFillCells$Text;", Cond.arrayClass .int, Cond.fieldLink RX6 30 "FillCells" "settings" "[I", Cond.fieldLink RX6 34 "FillCells" "bads" "I", Cond.fieldLink RX6 38 "FillCells" "noes" "I", Cond.fieldLink RX6 41 "FillCells" "fulls" "I", Cond.fieldLink RX6 44 "FillCells" "SETTING_FIRST" "[I", Cond.instanceMethod yX1_init, Cond.code yX1_init cX1_init 1 none, Cond.methodLink RX1 3 objectInit]
def wsX6_init_r2 : List Cond := [Cond.classLink RX1 9 RX0, Cond.instantiable RX0 5, Cond.initialized RX0, Cond.fieldLink RX1 12 "FillCells$Filling" "field" "LFillCells$Field;", Cond.classLink RX1 18 RX5, Cond.instantiable RX5 8, Cond.initialized RX5, Cond.fieldLink RX1 21 "FillCells$Filling" "windows" "LFillCells$Windows;", Cond.classLink RX1 25 RX3, Cond.instantiable RX3 4, Cond.initialized RX3, Cond.fieldLink RX1 28 "FillCells$Filling" "nets" "LFillCells$Nets;", Cond.fieldLink RX1 32 "FillCells$Filling" "bestRule" "I", Cond.fieldLink RX1 36 "FillCells$Filling" "bestThin" "I", Cond.fieldLink RX1 39 "FillCells$Filling" "bestFill" "I", Cond.arrayClass .boolean, Cond.fieldLink RX1 42 "FillCells$Filling" "twinsChosen" "[Z", Cond.fieldLink RX1 46 "FillCells$Filling" "fillAhead" "[I", Cond.fieldLink RX1 50 "FillCells$Filling" "line" "[I", Cond.instanceMethod yX0_init, Cond.code yX0_init cX0_init 1 none, Cond.methodLink RX0 3 objectInit, Cond.fieldLink RX0 9 "FillCells$Field" "shapes" "[I", Cond.fieldLink RX0 15 "FillCells$Field" "shut" "[I"]
def wsX6_init_r3 : List Cond := [Cond.fieldLink RX0 18 "FillCells$Field" "net" "[I", Cond.fieldLink RX0 21 "FillCells$Field" "twins" "[I", Cond.fieldLink RX0 24 "FillCells$Field" "fill" "[I", Cond.instanceMethod yX5_init, Cond.code yX5_init cX5_init 1 none, Cond.methodLink RX5 3 objectInit, Cond.fieldLink RX5 9 "FillCells$Windows" "height" "I", Cond.fieldLink RX5 15 "FillCells$Windows" "width" "I", Cond.fieldLink RX5 18 "FillCells$Windows" "low" "I", Cond.fieldLink RX5 21 "FillCells$Windows" "high" "I", Cond.fieldLink RX5 24 "FillCells$Windows" "sums" "[I", Cond.fieldLink RX5 28 "FillCells$Windows" "thinOver" "[I", Cond.fieldLink RX5 31 "FillCells$Windows" "fullOver" "[I", Cond.fieldLink RX5 34 "FillCells$Windows" "shares" "[I", Cond.instanceMethod yX3_init, Cond.code yX3_init cX3_init 1 none, Cond.methodLink RX3 3 objectInit, Cond.fieldLink RX3 9 "FillCells$Nets" "limits" "[I", Cond.fieldLink RX3 15 "FillCells$Nets" "burdens" "[I", Cond.fieldLink RX3 18 "FillCells$Nets" "borne" "[I", Cond.fieldLink RX3 21 "FillCells$Nets" "twinsBorne" "[I", Cond.instanceMethod yX2_init, Cond.code yX2_init cX2_init 1 none, Cond.methodLink RX2 3 objectInit]
def wsX6_init_r4 : List Cond := [Cond.fieldLink RX2 9 "FillCells$History" "kept" "I", Cond.fieldLink RX2 15 "FillCells$History" "oldest" "I", Cond.fieldLink RX2 18 "FillCells$History" "fields" "[I", Cond.instanceMethod yX4_init, Cond.code yX4_init cX4_init 1 none, Cond.methodLink RX4 3 objectInit, Cond.fieldLink RX4 9 "FillCells$Text" "length" "I", Cond.fieldLink RX4 15 "FillCells$Text" "bytes" "[I", Cond.methodLink RX6 47 yX6_useSettings, Cond.instanceMethod yX6_useSettings, Cond.selects RX6 yX6_useSettings yX6_useSettings, Cond.initialized RX6, Cond.code yX6_useSettings cX6_useSettings 3 none, Cond.fieldLink RX6 117 "FillCells$Filling" "windows" "LFillCells$Windows;", Cond.fieldLink RX6 233 "FillCells$Windows" "height" "I", Cond.fieldLink RX6 236 "FillCells$Windows" "width" "I", Cond.fieldLink RX6 239 "FillCells$Windows" "low" "I", Cond.fieldLink RX6 242 "FillCells$Windows" "high" "I", Cond.fieldLink RX6 157 "FillCells$Filling" "nets" "LFillCells$Nets;", Cond.fieldLink RX6 227 "FillCells$Nets" "limits" "[I", Cond.methodLink RX6 82 yX1_measure, Cond.instanceMethod yX1_measure, Cond.selects RX1 yX1_measure yX1_measure, Cond.code yX1_measure cX1_measure 1 none]
def wsX6_init_r5 : List Cond := [Cond.methodLink RX1 53 yX5_measure, Cond.instanceMethod yX5_measure, Cond.selects RX5 yX5_measure yX5_measure, Cond.code yX5_measure cX5_measure 3 none, Cond.methodLink RX5 41 yJ7_fill_53178, Cond.static yJ7_fill_53178, Cond.initialized RJ7, Cond.code yJ7_fill_53178 cJ7_fill_53178 4 none, Cond.methodLink RX5 47 yX5_lies, Cond.instanceMethod yX5_lies, Cond.selects RX5 yX5_lies yX5_lies, Cond.code yX5_lies cX5_lies 2 (some .boolean), Cond.methodLink RX5 51 yX5_addUp, Cond.instanceMethod yX5_addUp, Cond.selects RX5 yX5_addUp yX5_addUp, Cond.code yX5_addUp cX5_addUp 7 none, Cond.fieldLink RX5 71 "FillCells$Field" "twins" "[I", Cond.methodLink RX5 65 yX0_sumOf, Cond.instanceMethod yX0_sumOf, Cond.selects RX0 yX0_sumOf yX0_sumOf, Cond.code yX0_sumOf cX0_sumOf 2 (some .int), Cond.methodLink RX5 55 yX5_isThin, Cond.instanceMethod yX5_isThin, Cond.selects RX5 yX5_isThin yX5_isThin]
def wsX6_init_r6 : List Cond := [Cond.code yX5_isThin cX5_isThin 2 (some .boolean), Cond.methodLink RX5 58 yX5_spread, Cond.instanceMethod yX5_spread, Cond.selects RX5 yX5_spread yX5_spread, Cond.code yX5_spread cX5_spread 6 none, Cond.methodLink RX5 62 yX5_isFull, Cond.instanceMethod yX5_isFull, Cond.selects RX5 yX5_isFull yX5_isFull, Cond.code yX5_isFull cX5_isFull 2 (some .boolean), Cond.methodLink RX1 57 yX3_measure, Cond.instanceMethod yX3_measure, Cond.selects RX3 yX3_measure yX3_measure, Cond.code yX3_measure cX3_measure 5 none, Cond.fieldLink RX3 30 "FillCells$Field" "net" "[I", Cond.fieldLink RX3 39 "FillCells$Field" "twins" "[I", Cond.fieldLink RX3 42 "FillCells$Field" "fill" "[I", Cond.methodLink RX3 24 yJ7_fill_53178, Cond.methodLink RX3 35 yX3_netsBeside, Cond.static yX3_netsBeside, Cond.code yX3_netsBeside cX3_netsBeside 4 (some .int), Cond.methodLink RX3 44 yX3_shift, Cond.instanceMethod yX3_shift, Cond.selects RX3 yX3_shift yX3_shift, Cond.code yX3_shift cX3_shift 4 none]
def wsX6_init : List Cond := .code yX6_init cX6_init 2 none :: ((wsX6_init_r1 ++ (wsX6_init_r2 ++ (wsX6_init_r3 ++ (wsX6_init_r4 ++ (wsX6_init_r5 ++ wsX6_init_r6))))) ++ wsX10 ++ wsX60 ++ wsX20 ++ wsX40 ++ wsX00 ++ wsX50 ++ wsX30)
def wsX6_refuse : List Cond := .code yX6_refuse cX6_refuse 2 (some .int) :: ([.fieldLink RX6 34 "FillCells" "bads" "I", .fieldLink RX6 38 "FillCells" "noes" "I", .fieldLink RX6 41 "FillCells" "fulls" "I"] ++ wsX60)
def wsX6_sets_r1 : List Cond := [Cond.fieldLink RX6 58 "FillCells" "PART_MOST" "[I", Cond.fieldLink RX6 19 "FillCells" "history" "LFillCells$History;", Cond.fieldLink RX6 10 "FillCells" "filling" "LFillCells$Filling;", Cond.fieldLink RX6 65 "FillCells$Filling" "field" "LFillCells$Field;", Cond.methodLink RX6 50 yX6_isCell, Cond.static yX6_isCell, Cond.initialized RX6, Cond.code yX6_isCell cX6_isCell 1 (some .boolean), Cond.methodLink RX6 54 yX6_isIn, Cond.static yX6_isIn, Cond.code yX6_isIn cX6_isIn 3 (some .boolean), Cond.methodLink RX6 61 yX6_refuse, Cond.instanceMethod yX6_refuse, Cond.selects RX6 yX6_refuse yX6_refuse, Cond.code yX6_refuse cX6_refuse 2 (some .int), Cond.fieldLink RX6 34 "FillCells" "bads" "I", Cond.fieldLink RX6 38 "FillCells" "noes" "I", Cond.fieldLink RX6 41 "FillCells" "fulls" "I", Cond.methodLink RX6 69 yX2_note, Cond.instanceMethod yX2_note, Cond.selects RX2 yX2_note yX2_note, Cond.initialized RX2, Cond.code yX2_note cX2_note 4 none, Cond.fieldLink RX2 9 "FillCells$History" "kept" "I"]
def wsX6_sets_r2 : List Cond := [Cond.fieldLink RX2 18 "FillCells$History" "fields" "[I", Cond.methodLink RX2 22 yX2_start, Cond.instanceMethod yX2_start, Cond.selects RX2 yX2_start yX2_start, Cond.code yX2_start cX2_start 2 (some .int), Cond.fieldLink RX2 15 "FillCells$History" "oldest" "I", Cond.methodLink RX2 26 yX0_packed, Cond.instanceMethod yX0_packed, Cond.selects RX0 yX0_packed yX0_packed, Cond.initialized RX0, Cond.code yX0_packed cX0_packed 2 (some .int), Cond.fieldLink RX0 9 "FillCells$Field" "shapes" "[I", Cond.fieldLink RX0 24 "FillCells$Field" "fill" "[I", Cond.fieldLink RX0 15 "FillCells$Field" "shut" "[I", Cond.fieldLink RX0 18 "FillCells$Field" "net" "[I", Cond.fieldLink RX0 21 "FillCells$Field" "twins" "[I", Cond.methodLink RX6 73 yX0_part, Cond.instanceMethod yX0_part, Cond.selects RX0 yX0_part yX0_part, Cond.code yX0_part cX0_part 2 (some (.array .int)), Cond.methodLink RX6 79 yX0_settle, Cond.instanceMethod yX0_settle, Cond.selects RX0 yX0_settle yX0_settle, Cond.code yX0_settle cX0_settle 2 none]
def wsX6_sets_r3 : List Cond := [Cond.methodLink RX0 45 Lib.Math.min.name, Cond.static Lib.Math.min.name, Cond.initialized "java/lang/Math", Cond.code Lib.Math.min.name Lib.Math.min.code 2 (some .int), Cond.methodLink RX0 41 yX0_room, Cond.instanceMethod yX0_room, Cond.selects RX0 yX0_room yX0_room, Cond.code yX0_room cX0_room 2 (some .int), Cond.methodLink RX0 48 yX0_makeAlike, Cond.instanceMethod yX0_makeAlike, Cond.selects RX0 yX0_makeAlike yX0_makeAlike, Cond.code yX0_makeAlike cX0_makeAlike 4 none, Cond.methodLink RX6 82 yX1_measure, Cond.instanceMethod yX1_measure, Cond.selects RX1 yX1_measure yX1_measure, Cond.initialized RX1, Cond.code yX1_measure cX1_measure 1 none, Cond.fieldLink RX1 21 "FillCells$Filling" "windows" "LFillCells$Windows;", Cond.fieldLink RX1 12 "FillCells$Filling" "field" "LFillCells$Field;", Cond.fieldLink RX1 28 "FillCells$Filling" "nets" "LFillCells$Nets;", Cond.methodLink RX1 53 yX5_measure, Cond.instanceMethod yX5_measure, Cond.selects RX5 yX5_measure yX5_measure, Cond.initialized RX5]
def wsX6_sets_r4 : List Cond := [Cond.code yX5_measure cX5_measure 3 none, Cond.fieldLink RX5 28 "FillCells$Windows" "thinOver" "[I", Cond.fieldLink RX5 31 "FillCells$Windows" "fullOver" "[I", Cond.fieldLink RX5 34 "FillCells$Windows" "shares" "[I", Cond.fieldLink RX5 24 "FillCells$Windows" "sums" "[I", Cond.methodLink RX5 41 yJ7_fill_53178, Cond.static yJ7_fill_53178, Cond.initialized RJ7, Cond.code yJ7_fill_53178 cJ7_fill_53178 4 none, Cond.methodLink RX5 47 yX5_lies, Cond.instanceMethod yX5_lies, Cond.selects RX5 yX5_lies yX5_lies, Cond.code yX5_lies cX5_lies 2 (some .boolean), Cond.fieldLink RX5 9 "FillCells$Windows" "height" "I", Cond.fieldLink RX5 15 "FillCells$Windows" "width" "I", Cond.methodLink RX5 51 yX5_addUp, Cond.instanceMethod yX5_addUp, Cond.selects RX5 yX5_addUp yX5_addUp, Cond.code yX5_addUp cX5_addUp 7 none, Cond.fieldLink RX5 71 "FillCells$Field" "twins" "[I", Cond.methodLink RX5 65 yX0_sumOf, Cond.instanceMethod yX0_sumOf, Cond.selects RX0 yX0_sumOf yX0_sumOf, Cond.code yX0_sumOf cX0_sumOf 2 (some .int)]
def wsX6_sets_r5 : List Cond := [Cond.methodLink RX5 55 yX5_isThin, Cond.instanceMethod yX5_isThin, Cond.selects RX5 yX5_isThin yX5_isThin, Cond.code yX5_isThin cX5_isThin 2 (some .boolean), Cond.fieldLink RX5 18 "FillCells$Windows" "low" "I", Cond.methodLink RX5 58 yX5_spread, Cond.instanceMethod yX5_spread, Cond.selects RX5 yX5_spread yX5_spread, Cond.code yX5_spread cX5_spread 6 none, Cond.methodLink RX5 62 yX5_isFull, Cond.instanceMethod yX5_isFull, Cond.selects RX5 yX5_isFull yX5_isFull, Cond.code yX5_isFull cX5_isFull 2 (some .boolean), Cond.fieldLink RX5 21 "FillCells$Windows" "high" "I", Cond.methodLink RX1 57 yX3_measure, Cond.instanceMethod yX3_measure, Cond.selects RX3 yX3_measure yX3_measure, Cond.initialized RX3, Cond.code yX3_measure cX3_measure 5 none, Cond.fieldLink RX3 15 "FillCells$Nets" "burdens" "[I", Cond.fieldLink RX3 21 "FillCells$Nets" "twinsBorne" "[I", Cond.fieldLink RX3 30 "FillCells$Field" "net" "[I", Cond.fieldLink RX3 18 "FillCells$Nets" "borne" "[I", Cond.fieldLink RX3 39 "FillCells$Field" "twins" "[I"]
def wsX6_sets_r6 : List Cond := [Cond.fieldLink RX3 42 "FillCells$Field" "fill" "[I", Cond.methodLink RX3 24 yJ7_fill_53178, Cond.methodLink RX3 35 yX3_netsBeside, Cond.static yX3_netsBeside, Cond.code yX3_netsBeside cX3_netsBeside 4 (some .int), Cond.methodLink RX3 44 yX3_shift, Cond.instanceMethod yX3_shift, Cond.selects RX3 yX3_shift yX3_shift, Cond.code yX3_shift cX3_shift 4 none, Cond.methodLink RX6 85 yX2_keep, Cond.instanceMethod yX2_keep, Cond.selects RX2 yX2_keep yX2_keep, Cond.code yX2_keep cX2_keep 1 none]
def wsX6_sets : List Cond := .code yX6_sets cX6_sets 6 (some .int) :: ((wsX6_sets_r1 ++ (wsX6_sets_r2 ++ (wsX6_sets_r3 ++ (wsX6_sets_r4 ++ (wsX6_sets_r5 ++ wsX6_sets_r6))))) ++ wsX60 ++ wsX10 ++ wsX20 ++ wsX00 ++ wsX50 ++ wsX30)
def wsX6_draw_r1 : List Cond := [Cond.constant RX6 88 (999999), Cond.fieldLink RX6 19 "FillCells" "history" "LFillCells$History;", Cond.fieldLink RX6 10 "FillCells" "filling" "LFillCells$Filling;", Cond.fieldLink RX6 65 "FillCells$Filling" "field" "LFillCells$Field;", Cond.fieldLink RX6 93 "FillCells$Field" "fill" "[I", Cond.fieldLink RX6 101 "FillCells$Field" "shapes" "[I", Cond.methodLink RX6 54 yX6_isIn, Cond.static yX6_isIn, Cond.initialized RX6, Cond.code yX6_isIn cX6_isIn 3 (some .boolean), Cond.methodLink RX6 61 yX6_refuse, Cond.instanceMethod yX6_refuse, Cond.selects RX6 yX6_refuse yX6_refuse, Cond.code yX6_refuse cX6_refuse 2 (some .int), Cond.fieldLink RX6 34 "FillCells" "bads" "I", Cond.fieldLink RX6 38 "FillCells" "noes" "I", Cond.fieldLink RX6 41 "FillCells" "fulls" "I", Cond.methodLink RX6 69 yX2_note, Cond.instanceMethod yX2_note, Cond.selects RX2 yX2_note yX2_note, Cond.initialized RX2, Cond.code yX2_note cX2_note 4 none, Cond.fieldLink RX2 9 "FillCells$History" "kept" "I", Cond.fieldLink RX2 18 "FillCells$History" "fields" "[I"]
def wsX6_draw_r2 : List Cond := [Cond.methodLink RX2 22 yX2_start, Cond.instanceMethod yX2_start, Cond.selects RX2 yX2_start yX2_start, Cond.code yX2_start cX2_start 2 (some .int), Cond.fieldLink RX2 15 "FillCells$History" "oldest" "I", Cond.methodLink RX2 26 yX0_packed, Cond.instanceMethod yX0_packed, Cond.selects RX0 yX0_packed yX0_packed, Cond.initialized RX0, Cond.code yX0_packed cX0_packed 2 (some .int), Cond.fieldLink RX0 9 "FillCells$Field" "shapes" "[I", Cond.fieldLink RX0 24 "FillCells$Field" "fill" "[I", Cond.fieldLink RX0 15 "FillCells$Field" "shut" "[I", Cond.fieldLink RX0 18 "FillCells$Field" "net" "[I", Cond.fieldLink RX0 21 "FillCells$Field" "twins" "[I", Cond.methodLink RX6 89 yX0_drawShapes, Cond.instanceMethod yX0_drawShapes, Cond.selects RX0 yX0_drawShapes yX0_drawShapes, Cond.code yX0_drawShapes cX0_drawShapes 7 none, Cond.methodLink RX0 27 Lib.Math.max.name, Cond.static Lib.Math.max.name, Cond.initialized "java/lang/Math", Cond.code Lib.Math.max.name Lib.Math.max.code 2 (some .int), Cond.constantLong RX0 33 (1103515245)]
def wsX6_draw_r3 : List Cond := [Cond.constantLong RX0 35 (12345), Cond.constantLong RX0 37 (2147483648), Cond.constantLong RX0 39 (65536), Cond.methodLink RX6 96 yJ7_fill_53178, Cond.static yJ7_fill_53178, Cond.initialized RJ7, Cond.code yJ7_fill_53178 cJ7_fill_53178 4 none, Cond.methodLink RX6 82 yX1_measure, Cond.instanceMethod yX1_measure, Cond.selects RX1 yX1_measure yX1_measure, Cond.initialized RX1, Cond.code yX1_measure cX1_measure 1 none, Cond.fieldLink RX1 21 "FillCells$Filling" "windows" "LFillCells$Windows;", Cond.fieldLink RX1 12 "FillCells$Filling" "field" "LFillCells$Field;", Cond.fieldLink RX1 28 "FillCells$Filling" "nets" "LFillCells$Nets;", Cond.methodLink RX1 53 yX5_measure, Cond.instanceMethod yX5_measure, Cond.selects RX5 yX5_measure yX5_measure, Cond.initialized RX5, Cond.code yX5_measure cX5_measure 3 none, Cond.fieldLink RX5 28 "FillCells$Windows" "thinOver" "[I", Cond.fieldLink RX5 31 "FillCells$Windows" "fullOver" "[I", Cond.fieldLink RX5 34 "FillCells$Windows" "shares" "[I", Cond.fieldLink RX5 24 "FillCells$Windows" "sums" "[I"]
def wsX6_draw_r4 : List Cond := [Cond.methodLink RX5 41 yJ7_fill_53178, Cond.methodLink RX5 47 yX5_lies, Cond.instanceMethod yX5_lies, Cond.selects RX5 yX5_lies yX5_lies, Cond.code yX5_lies cX5_lies 2 (some .boolean), Cond.fieldLink RX5 9 "FillCells$Windows" "height" "I", Cond.fieldLink RX5 15 "FillCells$Windows" "width" "I", Cond.methodLink RX5 51 yX5_addUp, Cond.instanceMethod yX5_addUp, Cond.selects RX5 yX5_addUp yX5_addUp, Cond.code yX5_addUp cX5_addUp 7 none, Cond.fieldLink RX5 71 "FillCells$Field" "twins" "[I", Cond.methodLink RX5 65 yX0_sumOf, Cond.instanceMethod yX0_sumOf, Cond.selects RX0 yX0_sumOf yX0_sumOf, Cond.code yX0_sumOf cX0_sumOf 2 (some .int), Cond.methodLink RX5 55 yX5_isThin, Cond.instanceMethod yX5_isThin, Cond.selects RX5 yX5_isThin yX5_isThin, Cond.code yX5_isThin cX5_isThin 2 (some .boolean), Cond.fieldLink RX5 18 "FillCells$Windows" "low" "I", Cond.methodLink RX5 58 yX5_spread, Cond.instanceMethod yX5_spread, Cond.selects RX5 yX5_spread yX5_spread]
def wsX6_draw_r5 : List Cond := [Cond.code yX5_spread cX5_spread 6 none, Cond.methodLink RX5 62 yX5_isFull, Cond.instanceMethod yX5_isFull, Cond.selects RX5 yX5_isFull yX5_isFull, Cond.code yX5_isFull cX5_isFull 2 (some .boolean), Cond.fieldLink RX5 21 "FillCells$Windows" "high" "I", Cond.methodLink RX1 57 yX3_measure, Cond.instanceMethod yX3_measure, Cond.selects RX3 yX3_measure yX3_measure, Cond.initialized RX3, Cond.code yX3_measure cX3_measure 5 none, Cond.fieldLink RX3 15 "FillCells$Nets" "burdens" "[I", Cond.fieldLink RX3 21 "FillCells$Nets" "twinsBorne" "[I", Cond.fieldLink RX3 30 "FillCells$Field" "net" "[I", Cond.fieldLink RX3 18 "FillCells$Nets" "borne" "[I", Cond.fieldLink RX3 39 "FillCells$Field" "twins" "[I", Cond.fieldLink RX3 42 "FillCells$Field" "fill" "[I", Cond.methodLink RX3 24 yJ7_fill_53178, Cond.methodLink RX3 35 yX3_netsBeside, Cond.static yX3_netsBeside, Cond.code yX3_netsBeside cX3_netsBeside 4 (some .int), Cond.methodLink RX3 44 yX3_shift, Cond.instanceMethod yX3_shift, Cond.selects RX3 yX3_shift yX3_shift]
def wsX6_draw_r6 : List Cond := [Cond.code yX3_shift cX3_shift 4 none, Cond.methodLink RX6 85 yX2_keep, Cond.instanceMethod yX2_keep, Cond.selects RX2 yX2_keep yX2_keep, Cond.code yX2_keep cX2_keep 1 none, Cond.methodLink RX6 104 yX6_total, Cond.static yX6_total, Cond.code yX6_total cX6_total 6 (some .int)]
def wsX6_draw : List Cond := .code yX6_draw cX6_draw 3 (some .int) :: ((wsX6_draw_r1 ++ (wsX6_draw_r2 ++ (wsX6_draw_r3 ++ (wsX6_draw_r4 ++ (wsX6_draw_r5 ++ wsX6_draw_r6))))) ++ wsX60 ++ wsX10 ++ wsX00 ++ wsX20 ++ wsX50 ++ wsX30)
def wsX6_empties_r1 : List Cond := [Cond.fieldLink RX6 19 "FillCells" "history" "LFillCells$History;", Cond.fieldLink RX6 10 "FillCells" "filling" "LFillCells$Filling;", Cond.fieldLink RX6 65 "FillCells$Filling" "field" "LFillCells$Field;", Cond.fieldLink RX6 93 "FillCells$Field" "fill" "[I", Cond.methodLink RX6 69 yX2_note, Cond.instanceMethod yX2_note, Cond.selects RX2 yX2_note yX2_note, Cond.initialized RX2, Cond.code yX2_note cX2_note 4 none, Cond.fieldLink RX2 9 "FillCells$History" "kept" "I", Cond.fieldLink RX2 18 "FillCells$History" "fields" "[I", Cond.methodLink RX2 22 yX2_start, Cond.instanceMethod yX2_start, Cond.selects RX2 yX2_start yX2_start, Cond.code yX2_start cX2_start 2 (some .int), Cond.fieldLink RX2 15 "FillCells$History" "oldest" "I", Cond.methodLink RX2 26 yX0_packed, Cond.instanceMethod yX0_packed, Cond.selects RX0 yX0_packed yX0_packed, Cond.initialized RX0, Cond.code yX0_packed cX0_packed 2 (some .int), Cond.fieldLink RX0 9 "FillCells$Field" "shapes" "[I", Cond.fieldLink RX0 24 "FillCells$Field" "fill" "[I", Cond.fieldLink RX0 15 "FillCells$Field" "shut" "[I"]
def wsX6_empties_r2 : List Cond := [Cond.fieldLink RX0 18 "FillCells$Field" "net" "[I", Cond.fieldLink RX0 21 "FillCells$Field" "twins" "[I", Cond.methodLink RX6 104 yX6_total, Cond.static yX6_total, Cond.initialized RX6, Cond.code yX6_total cX6_total 6 (some .int), Cond.methodLink RX6 96 yJ7_fill_53178, Cond.static yJ7_fill_53178, Cond.initialized RJ7, Cond.code yJ7_fill_53178 cJ7_fill_53178 4 none, Cond.methodLink RX6 82 yX1_measure, Cond.instanceMethod yX1_measure, Cond.selects RX1 yX1_measure yX1_measure, Cond.initialized RX1, Cond.code yX1_measure cX1_measure 1 none, Cond.fieldLink RX1 21 "FillCells$Filling" "windows" "LFillCells$Windows;", Cond.fieldLink RX1 12 "FillCells$Filling" "field" "LFillCells$Field;", Cond.fieldLink RX1 28 "FillCells$Filling" "nets" "LFillCells$Nets;", Cond.methodLink RX1 53 yX5_measure, Cond.instanceMethod yX5_measure, Cond.selects RX5 yX5_measure yX5_measure, Cond.initialized RX5, Cond.code yX5_measure cX5_measure 3 none, Cond.fieldLink RX5 28 "FillCells$Windows" "thinOver" "[I"]
def wsX6_empties_r3 : List Cond := [Cond.fieldLink RX5 31 "FillCells$Windows" "fullOver" "[I", Cond.fieldLink RX5 34 "FillCells$Windows" "shares" "[I", Cond.fieldLink RX5 24 "FillCells$Windows" "sums" "[I", Cond.methodLink RX5 41 yJ7_fill_53178, Cond.methodLink RX5 47 yX5_lies, Cond.instanceMethod yX5_lies, Cond.selects RX5 yX5_lies yX5_lies, Cond.code yX5_lies cX5_lies 2 (some .boolean), Cond.fieldLink RX5 9 "FillCells$Windows" "height" "I", Cond.fieldLink RX5 15 "FillCells$Windows" "width" "I", Cond.methodLink RX5 51 yX5_addUp, Cond.instanceMethod yX5_addUp, Cond.selects RX5 yX5_addUp yX5_addUp, Cond.code yX5_addUp cX5_addUp 7 none, Cond.fieldLink RX5 71 "FillCells$Field" "twins" "[I", Cond.methodLink RX5 65 yX0_sumOf, Cond.instanceMethod yX0_sumOf, Cond.selects RX0 yX0_sumOf yX0_sumOf, Cond.code yX0_sumOf cX0_sumOf 2 (some .int), Cond.methodLink RX5 55 yX5_isThin, Cond.instanceMethod yX5_isThin, Cond.selects RX5 yX5_isThin yX5_isThin, Cond.code yX5_isThin cX5_isThin 2 (some .boolean), Cond.fieldLink RX5 18 "FillCells$Windows" "low" "I"]
def wsX6_empties_r4 : List Cond := [Cond.methodLink RX5 58 yX5_spread, Cond.instanceMethod yX5_spread, Cond.selects RX5 yX5_spread yX5_spread, Cond.code yX5_spread cX5_spread 6 none, Cond.methodLink RX5 62 yX5_isFull, Cond.instanceMethod yX5_isFull, Cond.selects RX5 yX5_isFull yX5_isFull, Cond.code yX5_isFull cX5_isFull 2 (some .boolean), Cond.fieldLink RX5 21 "FillCells$Windows" "high" "I", Cond.methodLink RX1 57 yX3_measure, Cond.instanceMethod yX3_measure, Cond.selects RX3 yX3_measure yX3_measure, Cond.initialized RX3, Cond.code yX3_measure cX3_measure 5 none, Cond.fieldLink RX3 15 "FillCells$Nets" "burdens" "[I", Cond.fieldLink RX3 21 "FillCells$Nets" "twinsBorne" "[I", Cond.fieldLink RX3 30 "FillCells$Field" "net" "[I", Cond.fieldLink RX3 18 "FillCells$Nets" "borne" "[I", Cond.fieldLink RX3 39 "FillCells$Field" "twins" "[I", Cond.fieldLink RX3 42 "FillCells$Field" "fill" "[I", Cond.methodLink RX3 24 yJ7_fill_53178, Cond.methodLink RX3 35 yX3_netsBeside, Cond.static yX3_netsBeside, Cond.code yX3_netsBeside cX3_netsBeside 4 (some .int)]
def wsX6_empties_r5 : List Cond := [Cond.methodLink RX3 44 yX3_shift, Cond.instanceMethod yX3_shift, Cond.selects RX3 yX3_shift yX3_shift, Cond.code yX3_shift cX3_shift 4 none, Cond.methodLink RX6 85 yX2_keep, Cond.instanceMethod yX2_keep, Cond.selects RX2 yX2_keep yX2_keep, Cond.code yX2_keep cX2_keep 1 none]
def wsX6_empties : List Cond := .code yX6_empties cX6_empties 2 (some .int) :: ((wsX6_empties_r1 ++ (wsX6_empties_r2 ++ (wsX6_empties_r3 ++ (wsX6_empties_r4 ++ wsX6_empties_r5)))) ++ wsX60 ++ wsX10 ++ wsX00 ++ wsX20 ++ wsX50 ++ wsX30)
def wsX6_rules_r1 : List Cond := [Cond.fieldLink RX6 108 "FillCells" "SETTING_LEAST" "[I", Cond.fieldLink RX6 111 "FillCells" "SETTING_MOST" "[I", Cond.fieldLink RX6 30 "FillCells" "settings" "[I", Cond.methodLink RX6 54 yX6_isIn, Cond.static yX6_isIn, Cond.initialized RX6, Cond.code yX6_isIn cX6_isIn 3 (some .boolean), Cond.methodLink RX6 61 yX6_refuse, Cond.instanceMethod yX6_refuse, Cond.selects RX6 yX6_refuse yX6_refuse, Cond.code yX6_refuse cX6_refuse 2 (some .int), Cond.fieldLink RX6 34 "FillCells" "bads" "I", Cond.fieldLink RX6 38 "FillCells" "noes" "I", Cond.fieldLink RX6 41 "FillCells" "fulls" "I", Cond.methodLink RX6 47 yX6_useSettings, Cond.instanceMethod yX6_useSettings, Cond.selects RX6 yX6_useSettings yX6_useSettings, Cond.code yX6_useSettings cX6_useSettings 3 none, Cond.fieldLink RX6 10 "FillCells" "filling" "LFillCells$Filling;", Cond.fieldLink RX6 117 "FillCells$Filling" "windows" "LFillCells$Windows;", Cond.fieldLink RX6 233 "FillCells$Windows" "height" "I", Cond.fieldLink RX6 236 "FillCells$Windows" "width" "I", Cond.fieldLink RX6 239 "FillCells$Windows" "low" "I", Cond.fieldLink RX6 242 "FillCells$Windows" "high" "I"]
def wsX6_rules_r2 : List Cond := [Cond.fieldLink RX6 157 "FillCells$Filling" "nets" "LFillCells$Nets;", Cond.fieldLink RX6 227 "FillCells$Nets" "limits" "[I", Cond.methodLink RX6 82 yX1_measure, Cond.instanceMethod yX1_measure, Cond.selects RX1 yX1_measure yX1_measure, Cond.initialized RX1, Cond.code yX1_measure cX1_measure 1 none, Cond.fieldLink RX1 21 "FillCells$Filling" "windows" "LFillCells$Windows;", Cond.fieldLink RX1 12 "FillCells$Filling" "field" "LFillCells$Field;", Cond.fieldLink RX1 28 "FillCells$Filling" "nets" "LFillCells$Nets;", Cond.methodLink RX1 53 yX5_measure, Cond.instanceMethod yX5_measure, Cond.selects RX5 yX5_measure yX5_measure, Cond.initialized RX5, Cond.code yX5_measure cX5_measure 3 none, Cond.fieldLink RX5 28 "FillCells$Windows" "thinOver" "[I", Cond.fieldLink RX5 31 "FillCells$Windows" "fullOver" "[I", Cond.fieldLink RX5 34 "FillCells$Windows" "shares" "[I", Cond.fieldLink RX5 24 "FillCells$Windows" "sums" "[I", Cond.methodLink RX5 41 yJ7_fill_53178, Cond.static yJ7_fill_53178, Cond.initialized RJ7, Cond.code yJ7_fill_53178 cJ7_fill_53178 4 none, Cond.methodLink RX5 47 yX5_lies]
def wsX6_rules_r3 : List Cond := [Cond.instanceMethod yX5_lies, Cond.selects RX5 yX5_lies yX5_lies, Cond.code yX5_lies cX5_lies 2 (some .boolean), Cond.fieldLink RX5 9 "FillCells$Windows" "height" "I", Cond.fieldLink RX5 15 "FillCells$Windows" "width" "I", Cond.methodLink RX5 51 yX5_addUp, Cond.instanceMethod yX5_addUp, Cond.selects RX5 yX5_addUp yX5_addUp, Cond.code yX5_addUp cX5_addUp 7 none, Cond.fieldLink RX5 71 "FillCells$Field" "twins" "[I", Cond.methodLink RX5 65 yX0_sumOf, Cond.instanceMethod yX0_sumOf, Cond.selects RX0 yX0_sumOf yX0_sumOf, Cond.initialized RX0, Cond.code yX0_sumOf cX0_sumOf 2 (some .int), Cond.fieldLink RX0 9 "FillCells$Field" "shapes" "[I", Cond.fieldLink RX0 24 "FillCells$Field" "fill" "[I", Cond.methodLink RX5 55 yX5_isThin, Cond.instanceMethod yX5_isThin, Cond.selects RX5 yX5_isThin yX5_isThin, Cond.code yX5_isThin cX5_isThin 2 (some .boolean), Cond.fieldLink RX5 18 "FillCells$Windows" "low" "I", Cond.methodLink RX5 58 yX5_spread, Cond.instanceMethod yX5_spread]
def wsX6_rules_r4 : List Cond := [Cond.selects RX5 yX5_spread yX5_spread, Cond.code yX5_spread cX5_spread 6 none, Cond.methodLink RX5 62 yX5_isFull, Cond.instanceMethod yX5_isFull, Cond.selects RX5 yX5_isFull yX5_isFull, Cond.code yX5_isFull cX5_isFull 2 (some .boolean), Cond.fieldLink RX5 21 "FillCells$Windows" "high" "I", Cond.methodLink RX1 57 yX3_measure, Cond.instanceMethod yX3_measure, Cond.selects RX3 yX3_measure yX3_measure, Cond.initialized RX3, Cond.code yX3_measure cX3_measure 5 none, Cond.fieldLink RX3 15 "FillCells$Nets" "burdens" "[I", Cond.fieldLink RX3 21 "FillCells$Nets" "twinsBorne" "[I", Cond.fieldLink RX3 30 "FillCells$Field" "net" "[I", Cond.fieldLink RX3 18 "FillCells$Nets" "borne" "[I", Cond.fieldLink RX3 39 "FillCells$Field" "twins" "[I", Cond.fieldLink RX3 42 "FillCells$Field" "fill" "[I", Cond.methodLink RX3 24 yJ7_fill_53178, Cond.methodLink RX3 35 yX3_netsBeside, Cond.static yX3_netsBeside, Cond.code yX3_netsBeside cX3_netsBeside 4 (some .int), Cond.methodLink RX3 44 yX3_shift, Cond.instanceMethod yX3_shift]
def wsX6_rules_r5 : List Cond := [Cond.selects RX3 yX3_shift yX3_shift, Cond.code yX3_shift cX3_shift 4 none]
def wsX6_rules : List Cond := .code yX6_rules cX6_rules 4 (some .int) :: ((wsX6_rules_r1 ++ (wsX6_rules_r2 ++ (wsX6_rules_r3 ++ (wsX6_rules_r4 ++ wsX6_rules_r5)))) ++ wsX60 ++ wsX10 ++ wsX50 ++ wsX30 ++ wsX00)
def wsX6_of_r1 : List Cond := [Cond.fieldLink RX6 10 "FillCells" "filling" "LFillCells$Filling;", Cond.fieldLink RX6 117 "FillCells$Filling" "windows" "LFillCells$Windows;", Cond.fieldLink RX6 121 "FillCells$Windows" "thinOver" "[I", Cond.fieldLink RX6 65 "FillCells$Filling" "field" "LFillCells$Field;", Cond.methodLink RX6 50 yX6_isCell, Cond.static yX6_isCell, Cond.initialized RX6, Cond.code yX6_isCell cX6_isCell 1 (some .boolean), Cond.methodLink RX6 54 yX6_isIn, Cond.static yX6_isIn, Cond.code yX6_isIn cX6_isIn 3 (some .boolean), Cond.methodLink RX6 61 yX6_refuse, Cond.instanceMethod yX6_refuse, Cond.selects RX6 yX6_refuse yX6_refuse, Cond.code yX6_refuse cX6_refuse 2 (some .int), Cond.fieldLink RX6 34 "FillCells" "bads" "I", Cond.fieldLink RX6 38 "FillCells" "noes" "I", Cond.fieldLink RX6 41 "FillCells" "fulls" "I", Cond.methodLink RX6 114 yX1_may, Cond.instanceMethod yX1_may, Cond.selects RX1 yX1_may yX1_may, Cond.initialized RX1, Cond.code yX1_may cX1_may 3 (some .boolean), Cond.fieldLink RX1 12 "FillCells$Filling" "field" "LFillCells$Field;"]
def wsX6_of_r2 : List Cond := [Cond.fieldLink RX1 58 "FillCells$Field" "twins" "[I", Cond.methodLink RX1 61 yX1_loneMay, Cond.instanceMethod yX1_loneMay, Cond.selects RX1 yX1_loneMay yX1_loneMay, Cond.code yX1_loneMay cX1_loneMay 2 (some .boolean), Cond.fieldLink RX1 69 "FillCells$Field" "fill" "[I", Cond.fieldLink RX1 21 "FillCells$Filling" "windows" "LFillCells$Windows;", Cond.fieldLink RX1 76 "FillCells$Windows" "fullOver" "[I", Cond.fieldLink RX1 28 "FillCells$Filling" "nets" "LFillCells$Nets;", Cond.methodLink RX1 72 yX0_room, Cond.instanceMethod yX0_room, Cond.selects RX0 yX0_room yX0_room, Cond.initialized RX0, Cond.code yX0_room cX0_room 2 (some .int), Cond.fieldLink RX0 15 "FillCells$Field" "shut" "[I", Cond.fieldLink RX0 9 "FillCells$Field" "shapes" "[I", Cond.methodLink RX1 79 yX3_bear, Cond.instanceMethod yX3_bear, Cond.selects RX3 yX3_bear yX3_bear, Cond.initialized RX3, Cond.code yX3_bear cX3_bear 5 (some .boolean), Cond.fieldLink RX3 15 "FillCells$Nets" "burdens" "[I", Cond.fieldLink RX3 9 "FillCells$Nets" "limits" "[I", Cond.methodLink RX3 48 yX3_gain]
def wsX6_of_r3 : List Cond := [Cond.instanceMethod yX3_gain, Cond.selects RX3 yX3_gain yX3_gain, Cond.code yX3_gain cX3_gain 4 (some .int), Cond.fieldLink RX3 18 "FillCells$Nets" "borne" "[I", Cond.fieldLink RX3 21 "FillCells$Nets" "twinsBorne" "[I", Cond.methodLink RX1 65 yX1_twinsMay, Cond.instanceMethod yX1_twinsMay, Cond.selects RX1 yX1_twinsMay yX1_twinsMay, Cond.code yX1_twinsMay cX1_twinsMay 4 (some .boolean), Cond.methodLink RX1 82 yX5_bearTwins, Cond.instanceMethod yX5_bearTwins, Cond.selects RX5 yX5_bearTwins yX5_bearTwins, Cond.initialized RX5, Cond.code yX5_bearTwins cX5_bearTwins 4 (some .boolean), Cond.fieldLink RX5 34 "FillCells$Windows" "shares" "[I", Cond.fieldLink RX5 24 "FillCells$Windows" "sums" "[I", Cond.fieldLink RX5 21 "FillCells$Windows" "high" "I", Cond.methodLink RX6 73 yX0_part, Cond.instanceMethod yX0_part, Cond.selects RX0 yX0_part yX0_part, Cond.code yX0_part cX0_part 2 (some (.array .int)), Cond.fieldLink RX0 18 "FillCells$Field" "net" "[I", Cond.fieldLink RX0 21 "FillCells$Field" "twins" "[I", Cond.fieldLink RX0 24 "FillCells$Field" "fill" "[I"]
def wsX6_of : List Cond := .code yX6_of cX6_of 3 (some .int) :: ((wsX6_of_r1 ++ (wsX6_of_r2 ++ wsX6_of_r3)) ++ wsX60 ++ wsX10 ++ wsX50 ++ wsX00 ++ wsX30)
def wsX6_sum : List Cond := .code yX6_sum cX6_sum 2 (some .int) :: ([.fieldLink RX6 10 "FillCells" "filling" "LFillCells$Filling;", .fieldLink RX6 117 "FillCells$Filling" "windows" "LFillCells$Windows;", .fieldLink RX6 126 "FillCells$Windows" "sums" "[I", .methodLink RX6 50 yX6_isCell, .static yX6_isCell, .initialized RX6, .code yX6_isCell cX6_isCell 1 (some .boolean), .methodLink RX6 54 yX6_isIn, .static yX6_isIn, .code yX6_isIn cX6_isIn 3 (some .boolean), .methodLink RX6 61 yX6_refuse, .instanceMethod yX6_refuse, .selects RX6 yX6_refuse yX6_refuse, .code yX6_refuse cX6_refuse 2 (some .int), .fieldLink RX6 34 "FillCells" "bads" "I", .fieldLink RX6 38 "FillCells" "noes" "I", .fieldLink RX6 41 "FillCells" "fulls" "I"] ++ wsX60 ++ wsX10 ++ wsX50)
def wsX6_windows_r1 : List Cond := [Cond.fieldLink RX6 10 "FillCells" "filling" "LFillCells$Filling;", Cond.fieldLink RX6 117 "FillCells$Filling" "windows" "LFillCells$Windows;", Cond.methodLink RX6 129 yX5_count, Cond.instanceMethod yX5_count, Cond.selects RX5 yX5_count yX5_count, Cond.initialized RX5, Cond.code yX5_count cX5_count 1 (some .int), Cond.fieldLink RX5 9 "FillCells$Windows" "height" "I", Cond.fieldLink RX5 15 "FillCells$Windows" "width" "I", Cond.methodLink RX6 133 yX5_countThin, Cond.instanceMethod yX5_countThin, Cond.selects RX5 yX5_countThin yX5_countThin, Cond.code yX5_countThin cX5_countThin 3 (some .int), Cond.methodLink RX5 55 yX5_isThin, Cond.instanceMethod yX5_isThin, Cond.selects RX5 yX5_isThin yX5_isThin, Cond.code yX5_isThin cX5_isThin 2 (some .boolean), Cond.fieldLink RX5 24 "FillCells$Windows" "sums" "[I", Cond.fieldLink RX5 18 "FillCells$Windows" "low" "I", Cond.methodLink RX6 136 yX5_countThick, Cond.instanceMethod yX5_countThick, Cond.selects RX5 yX5_countThick yX5_countThick, Cond.code yX5_countThick cX5_countThick 3 (some .int), Cond.fieldLink RX5 21 "FillCells$Windows" "high" "I"]
def wsX6_windows_r2 : List Cond := [Cond.methodLink RX6 139 yX5_countUnlike, Cond.instanceMethod yX5_countUnlike, Cond.selects RX5 yX5_countUnlike yX5_countUnlike, Cond.code yX5_countUnlike cX5_countUnlike 3 (some .int), Cond.methodLink RX5 91 yX5_sumAbove, Cond.instanceMethod yX5_sumAbove, Cond.selects RX5 yX5_sumAbove yX5_sumAbove, Cond.code yX5_sumAbove cX5_sumAbove 4 (some .int), Cond.methodLink RX6 61 yX6_refuse, Cond.instanceMethod yX6_refuse, Cond.selects RX6 yX6_refuse yX6_refuse, Cond.initialized RX6, Cond.code yX6_refuse cX6_refuse 2 (some .int), Cond.fieldLink RX6 34 "FillCells" "bads" "I", Cond.fieldLink RX6 38 "FillCells" "noes" "I", Cond.fieldLink RX6 41 "FillCells" "fulls" "I"]
def wsX6_windows : List Cond := .code yX6_windows cX6_windows 2 (some .int) :: ((wsX6_windows_r1 ++ wsX6_windows_r2) ++ wsX60 ++ wsX10 ++ wsX50)
def wsX6_worst : List Cond := .code yX6_worst cX6_worst 2 (some .int) :: ([.fieldLink RX6 10 "FillCells" "filling" "LFillCells$Filling;", .fieldLink RX6 117 "FillCells$Filling" "windows" "LFillCells$Windows;", .fieldLink RX6 126 "FillCells$Windows" "sums" "[I", .methodLink RX6 142 yX5_atLeast, .instanceMethod yX5_atLeast, .selects RX5 yX5_atLeast yX5_atLeast, .initialized RX5, .code yX5_atLeast cX5_atLeast 3 (some .int), .fieldLink RX5 24 "FillCells$Windows" "sums" "[I", .methodLink RX6 145 yX5_atGreatest, .instanceMethod yX5_atGreatest, .selects RX5 yX5_atGreatest yX5_atGreatest, .code yX5_atGreatest cX5_atGreatest 3 (some .int), .methodLink RX6 61 yX6_refuse, .instanceMethod yX6_refuse, .selects RX6 yX6_refuse yX6_refuse, .initialized RX6, .code yX6_refuse cX6_refuse 2 (some .int), .fieldLink RX6 34 "FillCells" "bads" "I", .fieldLink RX6 38 "FillCells" "noes" "I", .fieldLink RX6 41 "FillCells" "fulls" "I"] ++ wsX60 ++ wsX10 ++ wsX50)
def wsX6_order_r1 : List Cond := [Cond.fieldLink RX6 10 "FillCells" "filling" "LFillCells$Filling;", Cond.fieldLink RX6 117 "FillCells$Filling" "windows" "LFillCells$Windows;", Cond.methodLink RX6 54 yX6_isIn, Cond.static yX6_isIn, Cond.initialized RX6, Cond.code yX6_isIn cX6_isIn 3 (some .boolean), Cond.methodLink RX6 61 yX6_refuse, Cond.instanceMethod yX6_refuse, Cond.selects RX6 yX6_refuse yX6_refuse, Cond.code yX6_refuse cX6_refuse 2 (some .int), Cond.fieldLink RX6 34 "FillCells" "bads" "I", Cond.fieldLink RX6 38 "FillCells" "noes" "I", Cond.fieldLink RX6 41 "FillCells" "fulls" "I", Cond.methodLink RX6 148 yX5_unlikeSum, Cond.instanceMethod yX5_unlikeSum, Cond.selects RX5 yX5_unlikeSum yX5_unlikeSum, Cond.initialized RX5, Cond.code yX5_unlikeSum cX5_unlikeSum 4 (some .int), Cond.methodLink RX5 91 yX5_sumAbove, Cond.instanceMethod yX5_sumAbove, Cond.selects RX5 yX5_sumAbove yX5_sumAbove, Cond.code yX5_sumAbove cX5_sumAbove 4 (some .int), Cond.fieldLink RX5 24 "FillCells$Windows" "sums" "[I", Cond.methodLink RX6 151 yX5_countOf]
def wsX6_order_r2 : List Cond := [Cond.instanceMethod yX5_countOf, Cond.selects RX5 yX5_countOf yX5_countOf, Cond.code yX5_countOf cX5_countOf 4 (some .int)]
def wsX6_order : List Cond := .code yX6_order cX6_order 4 (some .int) :: ((wsX6_order_r1 ++ wsX6_order_r2) ++ wsX60 ++ wsX10 ++ wsX50)
def wsX6_turn_r1 : List Cond := [Cond.fieldLink RX6 10 "FillCells" "filling" "LFillCells$Filling;", Cond.fieldLink RX6 117 "FillCells$Filling" "windows" "LFillCells$Windows;", Cond.methodLink RX6 61 yX6_refuse, Cond.instanceMethod yX6_refuse, Cond.selects RX6 yX6_refuse yX6_refuse, Cond.initialized RX6, Cond.code yX6_refuse cX6_refuse 2 (some .int), Cond.fieldLink RX6 34 "FillCells" "bads" "I", Cond.fieldLink RX6 38 "FillCells" "noes" "I", Cond.fieldLink RX6 41 "FillCells" "fulls" "I", Cond.methodLink RX6 154 yX5_rising, Cond.instanceMethod yX5_rising, Cond.selects RX5 yX5_rising yX5_rising, Cond.initialized RX5, Cond.code yX5_rising cX5_rising 6 (some .int), Cond.methodLink RX5 91 yX5_sumAbove, Cond.instanceMethod yX5_sumAbove, Cond.selects RX5 yX5_sumAbove yX5_sumAbove, Cond.code yX5_sumAbove cX5_sumAbove 4 (some .int), Cond.fieldLink RX5 24 "FillCells$Windows" "sums" "[I", Cond.methodLink RX5 94 yX5_countOf, Cond.instanceMethod yX5_countOf, Cond.selects RX5 yX5_countOf yX5_countOf, Cond.code yX5_countOf cX5_countOf 4 (some .int)]
def wsX6_turn_r2 : List Cond := [Cond.methodLink RX5 97 yX5_likeOne, Cond.instanceMethod yX5_likeOne, Cond.selects RX5 yX5_likeOne yX5_likeOne, Cond.code yX5_likeOne cX5_likeOne 5 (some .int)]
def wsX6_turn : List Cond := .code yX6_turn cX6_turn 2 (some .int) :: ((wsX6_turn_r1 ++ wsX6_turn_r2) ++ wsX60 ++ wsX10 ++ wsX50)
def wsX6_burden : List Cond := .code yX6_burden cX6_burden 2 (some .int) :: ([.fieldLink RX6 10 "FillCells" "filling" "LFillCells$Filling;", .fieldLink RX6 157 "FillCells$Filling" "nets" "LFillCells$Nets;", .fieldLink RX6 161 "FillCells$Nets" "burdens" "[I", .methodLink RX6 54 yX6_isIn, .static yX6_isIn, .initialized RX6, .code yX6_isIn cX6_isIn 3 (some .boolean), .methodLink RX6 61 yX6_refuse, .instanceMethod yX6_refuse, .selects RX6 yX6_refuse yX6_refuse, .code yX6_refuse cX6_refuse 2 (some .int), .fieldLink RX6 34 "FillCells" "bads" "I", .fieldLink RX6 38 "FillCells" "noes" "I", .fieldLink RX6 41 "FillCells" "fulls" "I"] ++ wsX60 ++ wsX10 ++ wsX30)
def wsX6_all : List Cond := .code yX6_all cX6_all 2 (some .int) :: ([.fieldLink RX6 10 "FillCells" "filling" "LFillCells$Filling;", .fieldLink RX6 65 "FillCells$Filling" "field" "LFillCells$Field;", .fieldLink RX6 93 "FillCells$Field" "fill" "[I", .fieldLink RX6 101 "FillCells$Field" "shapes" "[I", .fieldLink RX6 169 "FillCells$Field" "shut" "[I", .methodLink RX6 104 yX6_total, .static yX6_total, .initialized RX6, .code yX6_total cX6_total 6 (some .int), .methodLink RX6 166 yX0_countFilled, .instanceMethod yX0_countFilled, .selects RX0 yX0_countFilled yX0_countFilled, .initialized RX0, .code yX0_countFilled cX0_countFilled 3 (some .int), .fieldLink RX0 24 "FillCells$Field" "fill" "[I", .methodLink RX6 61 yX6_refuse, .instanceMethod yX6_refuse, .selects RX6 yX6_refuse yX6_refuse, .code yX6_refuse cX6_refuse 2 (some .int), .fieldLink RX6 34 "FillCells" "bads" "I", .fieldLink RX6 38 "FillCells" "noes" "I", .fieldLink RX6 41 "FillCells" "fulls" "I"] ++ wsX60 ++ wsX10 ++ wsX00)
def wsX6_changeFamily_r1 : List Cond := [Cond.fieldLink RX6 19 "FillCells" "history" "LFillCells$History;", Cond.fieldLink RX6 10 "FillCells" "filling" "LFillCells$Filling;", Cond.fieldLink RX6 65 "FillCells$Filling" "field" "LFillCells$Field;", Cond.fieldLink RX6 93 "FillCells$Field" "fill" "[I", Cond.methodLink RX6 69 yX2_note, Cond.instanceMethod yX2_note, Cond.selects RX2 yX2_note yX2_note, Cond.initialized RX2, Cond.code yX2_note cX2_note 4 none, Cond.fieldLink RX2 9 "FillCells$History" "kept" "I", Cond.fieldLink RX2 18 "FillCells$History" "fields" "[I", Cond.methodLink RX2 22 yX2_start, Cond.instanceMethod yX2_start, Cond.selects RX2 yX2_start yX2_start, Cond.code yX2_start cX2_start 2 (some .int), Cond.fieldLink RX2 15 "FillCells$History" "oldest" "I", Cond.methodLink RX2 26 yX0_packed, Cond.instanceMethod yX0_packed, Cond.selects RX0 yX0_packed yX0_packed, Cond.initialized RX0, Cond.code yX0_packed cX0_packed 2 (some .int), Cond.fieldLink RX0 9 "FillCells$Field" "shapes" "[I", Cond.fieldLink RX0 24 "FillCells$Field" "fill" "[I", Cond.fieldLink RX0 15 "FillCells$Field" "shut" "[I"]
def wsX6_changeFamily_r2 : List Cond := [Cond.fieldLink RX0 18 "FillCells$Field" "net" "[I", Cond.fieldLink RX0 21 "FillCells$Field" "twins" "[I", Cond.methodLink RX6 230 yX1_change, Cond.instanceMethod yX1_change, Cond.selects RX1 yX1_change yX1_change, Cond.initialized RX1, Cond.code yX1_change cX1_change 5 none, Cond.fieldLink RX1 12 "FillCells$Filling" "field" "LFillCells$Field;", Cond.fieldLink RX1 58 "FillCells$Field" "twins" "[I", Cond.fieldLink RX1 69 "FillCells$Field" "fill" "[I", Cond.fieldLink RX1 21 "FillCells$Filling" "windows" "LFillCells$Windows;", Cond.fieldLink RX1 28 "FillCells$Filling" "nets" "LFillCells$Nets;", Cond.methodLink RX1 121 yX5_shift, Cond.instanceMethod yX5_shift, Cond.selects RX5 yX5_shift yX5_shift, Cond.initialized RX5, Cond.code yX5_shift cX5_shift 9 none, Cond.fieldLink RX5 9 "FillCells$Windows" "height" "I", Cond.methodLink RX5 74 Lib.Math.min.name, Cond.static Lib.Math.min.name, Cond.initialized "java/lang/Math", Cond.code Lib.Math.min.name Lib.Math.min.code 2 (some .int), Cond.fieldLink RX5 15 "FillCells$Windows" "width" "I", Cond.methodLink RX5 80 Lib.Math.max.name]
def wsX6_changeFamily_r3 : List Cond := [Cond.static Lib.Math.max.name, Cond.code Lib.Math.max.name Lib.Math.max.code 2 (some .int), Cond.methodLink RX5 83 yX5_shiftOne, Cond.instanceMethod yX5_shiftOne, Cond.selects RX5 yX5_shiftOne yX5_shiftOne, Cond.code yX5_shiftOne cX5_shiftOne 5 none, Cond.fieldLink RX5 24 "FillCells$Windows" "sums" "[I", Cond.fieldLink RX5 28 "FillCells$Windows" "thinOver" "[I", Cond.fieldLink RX5 31 "FillCells$Windows" "fullOver" "[I", Cond.methodLink RX5 55 yX5_isThin, Cond.instanceMethod yX5_isThin, Cond.selects RX5 yX5_isThin yX5_isThin, Cond.code yX5_isThin cX5_isThin 2 (some .boolean), Cond.fieldLink RX5 18 "FillCells$Windows" "low" "I", Cond.methodLink RX5 62 yX5_isFull, Cond.instanceMethod yX5_isFull, Cond.selects RX5 yX5_isFull yX5_isFull, Cond.code yX5_isFull cX5_isFull 2 (some .boolean), Cond.fieldLink RX5 21 "FillCells$Windows" "high" "I", Cond.methodLink RX5 58 yX5_spread, Cond.instanceMethod yX5_spread, Cond.selects RX5 yX5_spread yX5_spread, Cond.code yX5_spread cX5_spread 6 none, Cond.methodLink RX1 125 yX3_shift]
def wsX6_changeFamily_r4 : List Cond := [Cond.instanceMethod yX3_shift, Cond.selects RX3 yX3_shift yX3_shift, Cond.initialized RX3, Cond.code yX3_shift cX3_shift 4 none, Cond.fieldLink RX3 18 "FillCells$Nets" "borne" "[I", Cond.fieldLink RX3 15 "FillCells$Nets" "burdens" "[I", Cond.methodLink RX6 85 yX2_keep, Cond.instanceMethod yX2_keep, Cond.selects RX2 yX2_keep yX2_keep, Cond.code yX2_keep cX2_keep 1 none]
def wsX6_changeFamily : List Cond := .code yX6_changeFamily cX6_changeFamily 3 (some .int) :: ((wsX6_changeFamily_r1 ++ (wsX6_changeFamily_r2 ++ (wsX6_changeFamily_r3 ++ wsX6_changeFamily_r4))) ++ wsX60 ++ wsX10 ++ wsX00 ++ wsX20 ++ wsX50 ++ wsX30)
def wsX6_more_r1 : List Cond := [Cond.fieldLink RX6 10 "FillCells" "filling" "LFillCells$Filling;", Cond.methodLink RX6 50 yX6_isCell, Cond.static yX6_isCell, Cond.initialized RX6, Cond.code yX6_isCell cX6_isCell 1 (some .boolean), Cond.methodLink RX6 54 yX6_isIn, Cond.static yX6_isIn, Cond.code yX6_isIn cX6_isIn 3 (some .boolean), Cond.methodLink RX6 61 yX6_refuse, Cond.instanceMethod yX6_refuse, Cond.selects RX6 yX6_refuse yX6_refuse, Cond.code yX6_refuse cX6_refuse 2 (some .int), Cond.fieldLink RX6 34 "FillCells" "bads" "I", Cond.fieldLink RX6 38 "FillCells" "noes" "I", Cond.fieldLink RX6 41 "FillCells" "fulls" "I", Cond.methodLink RX6 114 yX1_may, Cond.instanceMethod yX1_may, Cond.selects RX1 yX1_may yX1_may, Cond.initialized RX1, Cond.code yX1_may cX1_may 3 (some .boolean), Cond.fieldLink RX1 12 "FillCells$Filling" "field" "LFillCells$Field;", Cond.fieldLink RX1 58 "FillCells$Field" "twins" "[I", Cond.methodLink RX1 61 yX1_loneMay, Cond.instanceMethod yX1_loneMay]
def wsX6_more_r2 : List Cond := [Cond.selects RX1 yX1_loneMay yX1_loneMay, Cond.code yX1_loneMay cX1_loneMay 2 (some .boolean), Cond.fieldLink RX1 69 "FillCells$Field" "fill" "[I", Cond.fieldLink RX1 21 "FillCells$Filling" "windows" "LFillCells$Windows;", Cond.fieldLink RX1 76 "FillCells$Windows" "fullOver" "[I", Cond.fieldLink RX1 28 "FillCells$Filling" "nets" "LFillCells$Nets;", Cond.methodLink RX1 72 yX0_room, Cond.instanceMethod yX0_room, Cond.selects RX0 yX0_room yX0_room, Cond.initialized RX0, Cond.code yX0_room cX0_room 2 (some .int), Cond.fieldLink RX0 15 "FillCells$Field" "shut" "[I", Cond.fieldLink RX0 9 "FillCells$Field" "shapes" "[I", Cond.methodLink RX1 79 yX3_bear, Cond.instanceMethod yX3_bear, Cond.selects RX3 yX3_bear yX3_bear, Cond.initialized RX3, Cond.code yX3_bear cX3_bear 5 (some .boolean), Cond.fieldLink RX3 15 "FillCells$Nets" "burdens" "[I", Cond.fieldLink RX3 9 "FillCells$Nets" "limits" "[I", Cond.methodLink RX3 48 yX3_gain, Cond.instanceMethod yX3_gain, Cond.selects RX3 yX3_gain yX3_gain, Cond.code yX3_gain cX3_gain 4 (some .int)]
def wsX6_more_r3 : List Cond := [Cond.fieldLink RX3 18 "FillCells$Nets" "borne" "[I", Cond.fieldLink RX3 21 "FillCells$Nets" "twinsBorne" "[I", Cond.methodLink RX1 65 yX1_twinsMay, Cond.instanceMethod yX1_twinsMay, Cond.selects RX1 yX1_twinsMay yX1_twinsMay, Cond.code yX1_twinsMay cX1_twinsMay 4 (some .boolean), Cond.methodLink RX1 82 yX5_bearTwins, Cond.instanceMethod yX5_bearTwins, Cond.selects RX5 yX5_bearTwins yX5_bearTwins, Cond.initialized RX5, Cond.code yX5_bearTwins cX5_bearTwins 4 (some .boolean), Cond.fieldLink RX5 34 "FillCells$Windows" "shares" "[I", Cond.fieldLink RX5 24 "FillCells$Windows" "sums" "[I", Cond.fieldLink RX5 21 "FillCells$Windows" "high" "I", Cond.methodLink RX6 172 yX6_changeFamily, Cond.instanceMethod yX6_changeFamily, Cond.selects RX6 yX6_changeFamily yX6_changeFamily, Cond.code yX6_changeFamily cX6_changeFamily 3 (some .int), Cond.fieldLink RX6 19 "FillCells" "history" "LFillCells$History;", Cond.fieldLink RX6 65 "FillCells$Filling" "field" "LFillCells$Field;", Cond.fieldLink RX6 93 "FillCells$Field" "fill" "[I", Cond.methodLink RX6 69 yX2_note, Cond.instanceMethod yX2_note, Cond.selects RX2 yX2_note yX2_note]
def wsX6_more_r4 : List Cond := [Cond.initialized RX2, Cond.code yX2_note cX2_note 4 none, Cond.fieldLink RX2 9 "FillCells$History" "kept" "I", Cond.fieldLink RX2 18 "FillCells$History" "fields" "[I", Cond.methodLink RX2 22 yX2_start, Cond.instanceMethod yX2_start, Cond.selects RX2 yX2_start yX2_start, Cond.code yX2_start cX2_start 2 (some .int), Cond.fieldLink RX2 15 "FillCells$History" "oldest" "I", Cond.methodLink RX2 26 yX0_packed, Cond.instanceMethod yX0_packed, Cond.selects RX0 yX0_packed yX0_packed, Cond.code yX0_packed cX0_packed 2 (some .int), Cond.fieldLink RX0 24 "FillCells$Field" "fill" "[I", Cond.fieldLink RX0 18 "FillCells$Field" "net" "[I", Cond.fieldLink RX0 21 "FillCells$Field" "twins" "[I", Cond.methodLink RX6 230 yX1_change, Cond.instanceMethod yX1_change, Cond.selects RX1 yX1_change yX1_change, Cond.code yX1_change cX1_change 5 none, Cond.methodLink RX1 121 yX5_shift, Cond.instanceMethod yX5_shift, Cond.selects RX5 yX5_shift yX5_shift, Cond.code yX5_shift cX5_shift 9 none]
def wsX6_more_r5 : List Cond := [Cond.fieldLink RX5 9 "FillCells$Windows" "height" "I", Cond.methodLink RX5 74 Lib.Math.min.name, Cond.static Lib.Math.min.name, Cond.initialized "java/lang/Math", Cond.code Lib.Math.min.name Lib.Math.min.code 2 (some .int), Cond.fieldLink RX5 15 "FillCells$Windows" "width" "I", Cond.methodLink RX5 80 Lib.Math.max.name, Cond.static Lib.Math.max.name, Cond.code Lib.Math.max.name Lib.Math.max.code 2 (some .int), Cond.methodLink RX5 83 yX5_shiftOne, Cond.instanceMethod yX5_shiftOne, Cond.selects RX5 yX5_shiftOne yX5_shiftOne, Cond.code yX5_shiftOne cX5_shiftOne 5 none, Cond.fieldLink RX5 28 "FillCells$Windows" "thinOver" "[I", Cond.fieldLink RX5 31 "FillCells$Windows" "fullOver" "[I", Cond.methodLink RX5 55 yX5_isThin, Cond.instanceMethod yX5_isThin, Cond.selects RX5 yX5_isThin yX5_isThin, Cond.code yX5_isThin cX5_isThin 2 (some .boolean), Cond.fieldLink RX5 18 "FillCells$Windows" "low" "I", Cond.methodLink RX5 62 yX5_isFull, Cond.instanceMethod yX5_isFull, Cond.selects RX5 yX5_isFull yX5_isFull, Cond.code yX5_isFull cX5_isFull 2 (some .boolean)]
def wsX6_more_r6 : List Cond := [Cond.methodLink RX5 58 yX5_spread, Cond.instanceMethod yX5_spread, Cond.selects RX5 yX5_spread yX5_spread, Cond.code yX5_spread cX5_spread 6 none, Cond.methodLink RX1 125 yX3_shift, Cond.instanceMethod yX3_shift, Cond.selects RX3 yX3_shift yX3_shift, Cond.code yX3_shift cX3_shift 4 none, Cond.methodLink RX6 85 yX2_keep, Cond.instanceMethod yX2_keep, Cond.selects RX2 yX2_keep yX2_keep, Cond.code yX2_keep cX2_keep 1 none]
def wsX6_more : List Cond := .code yX6_more cX6_more 2 (some .int) :: ((wsX6_more_r1 ++ (wsX6_more_r2 ++ (wsX6_more_r3 ++ (wsX6_more_r4 ++ (wsX6_more_r5 ++ wsX6_more_r6))))) ++ wsX60 ++ wsX10 ++ wsX00 ++ wsX50 ++ wsX30 ++ wsX20)
def wsX6_less_r1 : List Cond := [Cond.fieldLink RX6 10 "FillCells" "filling" "LFillCells$Filling;", Cond.fieldLink RX6 65 "FillCells$Filling" "field" "LFillCells$Field;", Cond.fieldLink RX6 93 "FillCells$Field" "fill" "[I", Cond.methodLink RX6 50 yX6_isCell, Cond.static yX6_isCell, Cond.initialized RX6, Cond.code yX6_isCell cX6_isCell 1 (some .boolean), Cond.methodLink RX6 54 yX6_isIn, Cond.static yX6_isIn, Cond.code yX6_isIn cX6_isIn 3 (some .boolean), Cond.methodLink RX6 61 yX6_refuse, Cond.instanceMethod yX6_refuse, Cond.selects RX6 yX6_refuse yX6_refuse, Cond.code yX6_refuse cX6_refuse 2 (some .int), Cond.fieldLink RX6 34 "FillCells" "bads" "I", Cond.fieldLink RX6 38 "FillCells" "noes" "I", Cond.fieldLink RX6 41 "FillCells" "fulls" "I", Cond.methodLink RX6 172 yX6_changeFamily, Cond.instanceMethod yX6_changeFamily, Cond.selects RX6 yX6_changeFamily yX6_changeFamily, Cond.code yX6_changeFamily cX6_changeFamily 3 (some .int), Cond.fieldLink RX6 19 "FillCells" "history" "LFillCells$History;", Cond.methodLink RX6 69 yX2_note, Cond.instanceMethod yX2_note]
def wsX6_less_r2 : List Cond := [Cond.selects RX2 yX2_note yX2_note, Cond.initialized RX2, Cond.code yX2_note cX2_note 4 none, Cond.fieldLink RX2 9 "FillCells$History" "kept" "I", Cond.fieldLink RX2 18 "FillCells$History" "fields" "[I", Cond.methodLink RX2 22 yX2_start, Cond.instanceMethod yX2_start, Cond.selects RX2 yX2_start yX2_start, Cond.code yX2_start cX2_start 2 (some .int), Cond.fieldLink RX2 15 "FillCells$History" "oldest" "I", Cond.methodLink RX2 26 yX0_packed, Cond.instanceMethod yX0_packed, Cond.selects RX0 yX0_packed yX0_packed, Cond.initialized RX0, Cond.code yX0_packed cX0_packed 2 (some .int), Cond.fieldLink RX0 9 "FillCells$Field" "shapes" "[I", Cond.fieldLink RX0 24 "FillCells$Field" "fill" "[I", Cond.fieldLink RX0 15 "FillCells$Field" "shut" "[I", Cond.fieldLink RX0 18 "FillCells$Field" "net" "[I", Cond.fieldLink RX0 21 "FillCells$Field" "twins" "[I", Cond.methodLink RX6 230 yX1_change, Cond.instanceMethod yX1_change, Cond.selects RX1 yX1_change yX1_change, Cond.initialized RX1]
def wsX6_less_r3 : List Cond := [Cond.code yX1_change cX1_change 5 none, Cond.fieldLink RX1 12 "FillCells$Filling" "field" "LFillCells$Field;", Cond.fieldLink RX1 58 "FillCells$Field" "twins" "[I", Cond.fieldLink RX1 69 "FillCells$Field" "fill" "[I", Cond.fieldLink RX1 21 "FillCells$Filling" "windows" "LFillCells$Windows;", Cond.fieldLink RX1 28 "FillCells$Filling" "nets" "LFillCells$Nets;", Cond.methodLink RX1 121 yX5_shift, Cond.instanceMethod yX5_shift, Cond.selects RX5 yX5_shift yX5_shift, Cond.initialized RX5, Cond.code yX5_shift cX5_shift 9 none, Cond.fieldLink RX5 9 "FillCells$Windows" "height" "I", Cond.methodLink RX5 74 Lib.Math.min.name, Cond.static Lib.Math.min.name, Cond.initialized "java/lang/Math", Cond.code Lib.Math.min.name Lib.Math.min.code 2 (some .int), Cond.fieldLink RX5 15 "FillCells$Windows" "width" "I", Cond.methodLink RX5 80 Lib.Math.max.name, Cond.static Lib.Math.max.name, Cond.code Lib.Math.max.name Lib.Math.max.code 2 (some .int), Cond.methodLink RX5 83 yX5_shiftOne, Cond.instanceMethod yX5_shiftOne, Cond.selects RX5 yX5_shiftOne yX5_shiftOne, Cond.code yX5_shiftOne cX5_shiftOne 5 none]
def wsX6_less_r4 : List Cond := [Cond.fieldLink RX5 24 "FillCells$Windows" "sums" "[I", Cond.fieldLink RX5 28 "FillCells$Windows" "thinOver" "[I", Cond.fieldLink RX5 31 "FillCells$Windows" "fullOver" "[I", Cond.methodLink RX5 55 yX5_isThin, Cond.instanceMethod yX5_isThin, Cond.selects RX5 yX5_isThin yX5_isThin, Cond.code yX5_isThin cX5_isThin 2 (some .boolean), Cond.fieldLink RX5 18 "FillCells$Windows" "low" "I", Cond.methodLink RX5 62 yX5_isFull, Cond.instanceMethod yX5_isFull, Cond.selects RX5 yX5_isFull yX5_isFull, Cond.code yX5_isFull cX5_isFull 2 (some .boolean), Cond.fieldLink RX5 21 "FillCells$Windows" "high" "I", Cond.methodLink RX5 58 yX5_spread, Cond.instanceMethod yX5_spread, Cond.selects RX5 yX5_spread yX5_spread, Cond.code yX5_spread cX5_spread 6 none, Cond.methodLink RX1 125 yX3_shift, Cond.instanceMethod yX3_shift, Cond.selects RX3 yX3_shift yX3_shift, Cond.initialized RX3, Cond.code yX3_shift cX3_shift 4 none, Cond.fieldLink RX3 18 "FillCells$Nets" "borne" "[I", Cond.fieldLink RX3 15 "FillCells$Nets" "burdens" "[I"]
def wsX6_less_r5 : List Cond := [Cond.methodLink RX6 85 yX2_keep, Cond.instanceMethod yX2_keep, Cond.selects RX2 yX2_keep yX2_keep, Cond.code yX2_keep cX2_keep 1 none]
def wsX6_less : List Cond := .code yX6_less cX6_less 2 (some .int) :: ((wsX6_less_r1 ++ (wsX6_less_r2 ++ (wsX6_less_r3 ++ (wsX6_less_r4 ++ wsX6_less_r5)))) ++ wsX60 ++ wsX10 ++ wsX00 ++ wsX20 ++ wsX50 ++ wsX30)
def wsX6_next_r1 : List Cond := [Cond.fieldLink RX6 10 "FillCells" "filling" "LFillCells$Filling;", Cond.fieldLink RX6 30 "FillCells" "settings" "[I", Cond.methodLink RX6 176 yX1_choice, Cond.instanceMethod yX1_choice, Cond.selects RX1 yX1_choice yX1_choice, Cond.initialized RX1, Cond.code yX1_choice cX1_choice 7 (some .int), Cond.fieldLink RX1 21 "FillCells$Filling" "windows" "LFillCells$Windows;", Cond.methodLink RX1 85 yX5_atLeast, Cond.instanceMethod yX5_atLeast, Cond.selects RX5 yX5_atLeast yX5_atLeast, Cond.initialized RX5, Cond.code yX5_atLeast cX5_atLeast 3 (some .int), Cond.fieldLink RX5 24 "FillCells$Windows" "sums" "[I", Cond.methodLink RX1 89 yX5_isThin, Cond.instanceMethod yX5_isThin, Cond.selects RX5 yX5_isThin yX5_isThin, Cond.code yX5_isThin cX5_isThin 2 (some .boolean), Cond.fieldLink RX5 18 "FillCells$Windows" "low" "I", Cond.methodLink RX1 92 yX1_chooseTwins, Cond.instanceMethod yX1_chooseTwins, Cond.selects RX1 yX1_chooseTwins yX1_chooseTwins, Cond.code yX1_chooseTwins cX1_chooseTwins 4 none, Cond.fieldLink RX1 42 "FillCells$Filling" "twinsChosen" "[Z"]
def wsX6_next_r2 : List Cond := [Cond.methodLink RX1 103 yX1_wantedTwin, Cond.instanceMethod yX1_wantedTwin, Cond.selects RX1 yX1_wantedTwin yX1_wantedTwin, Cond.code yX1_wantedTwin cX1_wantedTwin 4 (some .int), Cond.fieldLink RX1 12 "FillCells$Filling" "field" "LFillCells$Field;", Cond.fieldLink RX1 58 "FillCells$Field" "twins" "[I", Cond.methodLink RX1 106 yX1_isWanted, Cond.instanceMethod yX1_isWanted, Cond.selects RX1 yX1_isWanted yX1_isWanted, Cond.code yX1_isWanted cX1_isWanted 3 (some .boolean), Cond.fieldLink RX1 109 "FillCells$Windows" "thinOver" "[I", Cond.methodLink RX1 112 yX5_has, Cond.instanceMethod yX5_has, Cond.selects RX5 yX5_has yX5_has, Cond.code yX5_has cX5_has 5 (some .boolean), Cond.fieldLink RX5 9 "FillCells$Windows" "height" "I", Cond.fieldLink RX5 15 "FillCells$Windows" "width" "I", Cond.methodLink RX1 65 yX1_twinsMay, Cond.instanceMethod yX1_twinsMay, Cond.selects RX1 yX1_twinsMay yX1_twinsMay, Cond.code yX1_twinsMay cX1_twinsMay 4 (some .boolean), Cond.fieldLink RX1 69 "FillCells$Field" "fill" "[I", Cond.fieldLink RX1 28 "FillCells$Filling" "nets" "LFillCells$Nets;", Cond.methodLink RX1 72 yX0_room]
def wsX6_next_r3 : List Cond := [Cond.instanceMethod yX0_room, Cond.selects RX0 yX0_room yX0_room, Cond.initialized RX0, Cond.code yX0_room cX0_room 2 (some .int), Cond.fieldLink RX0 15 "FillCells$Field" "shut" "[I", Cond.fieldLink RX0 9 "FillCells$Field" "shapes" "[I", Cond.methodLink RX1 82 yX5_bearTwins, Cond.instanceMethod yX5_bearTwins, Cond.selects RX5 yX5_bearTwins yX5_bearTwins, Cond.code yX5_bearTwins cX5_bearTwins 4 (some .boolean), Cond.fieldLink RX5 34 "FillCells$Windows" "shares" "[I", Cond.fieldLink RX5 21 "FillCells$Windows" "high" "I", Cond.methodLink RX1 79 yX3_bear, Cond.instanceMethod yX3_bear, Cond.selects RX3 yX3_bear yX3_bear, Cond.initialized RX3, Cond.code yX3_bear cX3_bear 5 (some .boolean), Cond.fieldLink RX3 15 "FillCells$Nets" "burdens" "[I", Cond.fieldLink RX3 9 "FillCells$Nets" "limits" "[I", Cond.methodLink RX3 48 yX3_gain, Cond.instanceMethod yX3_gain, Cond.selects RX3 yX3_gain yX3_gain, Cond.code yX3_gain cX3_gain 4 (some .int), Cond.fieldLink RX3 18 "FillCells$Nets" "borne" "[I"]
def wsX6_next_r4 : List Cond := [Cond.fieldLink RX3 21 "FillCells$Nets" "twinsBorne" "[I", Cond.methodLink RX1 96 yX1_isChosen, Cond.instanceMethod yX1_isChosen, Cond.selects RX1 yX1_isChosen yX1_isChosen, Cond.code yX1_isChosen cX1_isChosen 4 (some .boolean), Cond.methodLink RX1 61 yX1_loneMay, Cond.instanceMethod yX1_loneMay, Cond.selects RX1 yX1_loneMay yX1_loneMay, Cond.code yX1_loneMay cX1_loneMay 2 (some .boolean), Cond.fieldLink RX1 76 "FillCells$Windows" "fullOver" "[I", Cond.methodLink RX1 99 yX1_rank, Cond.instanceMethod yX1_rank, Cond.selects RX1 yX1_rank yX1_rank, Cond.code yX1_rank cX1_rank 3 (some .int), Cond.methodLink RX1 115 yX0_sumOf, Cond.instanceMethod yX0_sumOf, Cond.selects RX0 yX0_sumOf yX0_sumOf, Cond.code yX0_sumOf cX0_sumOf 2 (some .int), Cond.fieldLink RX0 24 "FillCells$Field" "fill" "[I", Cond.methodLink RX1 118 yX3_gainOfAll, Cond.instanceMethod yX3_gainOfAll, Cond.selects RX3 yX3_gainOfAll yX3_gainOfAll, Cond.code yX3_gainOfAll cX3_gainOfAll 5 (some .int)]
def wsX6_next : List Cond := .code yX6_next cX6_next 1 (some .int) :: ((wsX6_next_r1 ++ (wsX6_next_r2 ++ (wsX6_next_r3 ++ wsX6_next_r4))) ++ wsX60 ++ wsX10 ++ wsX50 ++ wsX00 ++ wsX30)
def wsX6_steps_r1 : List Cond := [Cond.fieldLink RX6 19 "FillCells" "history" "LFillCells$History;", Cond.fieldLink RX6 10 "FillCells" "filling" "LFillCells$Filling;", Cond.fieldLink RX6 65 "FillCells$Filling" "field" "LFillCells$Field;", Cond.fieldLink RX6 30 "FillCells" "settings" "[I", Cond.methodLink RX6 54 yX6_isIn, Cond.static yX6_isIn, Cond.initialized RX6, Cond.code yX6_isIn cX6_isIn 3 (some .boolean), Cond.methodLink RX6 61 yX6_refuse, Cond.instanceMethod yX6_refuse, Cond.selects RX6 yX6_refuse yX6_refuse, Cond.code yX6_refuse cX6_refuse 2 (some .int), Cond.fieldLink RX6 34 "FillCells" "bads" "I", Cond.fieldLink RX6 38 "FillCells" "noes" "I", Cond.fieldLink RX6 41 "FillCells" "fulls" "I", Cond.methodLink RX6 69 yX2_note, Cond.instanceMethod yX2_note, Cond.selects RX2 yX2_note yX2_note, Cond.initialized RX2, Cond.code yX2_note cX2_note 4 none, Cond.fieldLink RX2 9 "FillCells$History" "kept" "I", Cond.fieldLink RX2 18 "FillCells$History" "fields" "[I", Cond.methodLink RX2 22 yX2_start, Cond.instanceMethod yX2_start]
def wsX6_steps_r2 : List Cond := [Cond.selects RX2 yX2_start yX2_start, Cond.code yX2_start cX2_start 2 (some .int), Cond.fieldLink RX2 15 "FillCells$History" "oldest" "I", Cond.methodLink RX2 26 yX0_packed, Cond.instanceMethod yX0_packed, Cond.selects RX0 yX0_packed yX0_packed, Cond.initialized RX0, Cond.code yX0_packed cX0_packed 2 (some .int), Cond.fieldLink RX0 9 "FillCells$Field" "shapes" "[I", Cond.fieldLink RX0 24 "FillCells$Field" "fill" "[I", Cond.fieldLink RX0 15 "FillCells$Field" "shut" "[I", Cond.fieldLink RX0 18 "FillCells$Field" "net" "[I", Cond.fieldLink RX0 21 "FillCells$Field" "twins" "[I", Cond.methodLink RX6 179 yX1_stepOn, Cond.instanceMethod yX1_stepOn, Cond.selects RX1 yX1_stepOn yX1_stepOn, Cond.initialized RX1, Cond.code yX1_stepOn cX1_stepOn 5 (some .int), Cond.methodLink RX1 126 yX1_choice, Cond.instanceMethod yX1_choice, Cond.selects RX1 yX1_choice yX1_choice, Cond.code yX1_choice cX1_choice 7 (some .int), Cond.fieldLink RX1 21 "FillCells$Filling" "windows" "LFillCells$Windows;", Cond.methodLink RX1 85 yX5_atLeast]
def wsX6_steps_r3 : List Cond := [Cond.instanceMethod yX5_atLeast, Cond.selects RX5 yX5_atLeast yX5_atLeast, Cond.initialized RX5, Cond.code yX5_atLeast cX5_atLeast 3 (some .int), Cond.fieldLink RX5 24 "FillCells$Windows" "sums" "[I", Cond.methodLink RX1 89 yX5_isThin, Cond.instanceMethod yX5_isThin, Cond.selects RX5 yX5_isThin yX5_isThin, Cond.code yX5_isThin cX5_isThin 2 (some .boolean), Cond.fieldLink RX5 18 "FillCells$Windows" "low" "I", Cond.methodLink RX1 92 yX1_chooseTwins, Cond.instanceMethod yX1_chooseTwins, Cond.selects RX1 yX1_chooseTwins yX1_chooseTwins, Cond.code yX1_chooseTwins cX1_chooseTwins 4 none, Cond.fieldLink RX1 42 "FillCells$Filling" "twinsChosen" "[Z", Cond.methodLink RX1 103 yX1_wantedTwin, Cond.instanceMethod yX1_wantedTwin, Cond.selects RX1 yX1_wantedTwin yX1_wantedTwin, Cond.code yX1_wantedTwin cX1_wantedTwin 4 (some .int), Cond.fieldLink RX1 12 "FillCells$Filling" "field" "LFillCells$Field;", Cond.fieldLink RX1 58 "FillCells$Field" "twins" "[I", Cond.methodLink RX1 106 yX1_isWanted, Cond.instanceMethod yX1_isWanted, Cond.selects RX1 yX1_isWanted yX1_isWanted]
def wsX6_steps_r4 : List Cond := [Cond.code yX1_isWanted cX1_isWanted 3 (some .boolean), Cond.fieldLink RX1 109 "FillCells$Windows" "thinOver" "[I", Cond.methodLink RX1 112 yX5_has, Cond.instanceMethod yX5_has, Cond.selects RX5 yX5_has yX5_has, Cond.code yX5_has cX5_has 5 (some .boolean), Cond.fieldLink RX5 9 "FillCells$Windows" "height" "I", Cond.fieldLink RX5 15 "FillCells$Windows" "width" "I", Cond.methodLink RX1 65 yX1_twinsMay, Cond.instanceMethod yX1_twinsMay, Cond.selects RX1 yX1_twinsMay yX1_twinsMay, Cond.code yX1_twinsMay cX1_twinsMay 4 (some .boolean), Cond.fieldLink RX1 69 "FillCells$Field" "fill" "[I", Cond.fieldLink RX1 28 "FillCells$Filling" "nets" "LFillCells$Nets;", Cond.methodLink RX1 72 yX0_room, Cond.instanceMethod yX0_room, Cond.selects RX0 yX0_room yX0_room, Cond.code yX0_room cX0_room 2 (some .int), Cond.methodLink RX1 82 yX5_bearTwins, Cond.instanceMethod yX5_bearTwins, Cond.selects RX5 yX5_bearTwins yX5_bearTwins, Cond.code yX5_bearTwins cX5_bearTwins 4 (some .boolean), Cond.fieldLink RX5 34 "FillCells$Windows" "shares" "[I", Cond.fieldLink RX5 21 "FillCells$Windows" "high" "I"]
def wsX6_steps_r5 : List Cond := [Cond.methodLink RX1 79 yX3_bear, Cond.instanceMethod yX3_bear, Cond.selects RX3 yX3_bear yX3_bear, Cond.initialized RX3, Cond.code yX3_bear cX3_bear 5 (some .boolean), Cond.fieldLink RX3 15 "FillCells$Nets" "burdens" "[I", Cond.fieldLink RX3 9 "FillCells$Nets" "limits" "[I", Cond.methodLink RX3 48 yX3_gain, Cond.instanceMethod yX3_gain, Cond.selects RX3 yX3_gain yX3_gain, Cond.code yX3_gain cX3_gain 4 (some .int), Cond.fieldLink RX3 18 "FillCells$Nets" "borne" "[I", Cond.fieldLink RX3 21 "FillCells$Nets" "twinsBorne" "[I", Cond.methodLink RX1 96 yX1_isChosen, Cond.instanceMethod yX1_isChosen, Cond.selects RX1 yX1_isChosen yX1_isChosen, Cond.code yX1_isChosen cX1_isChosen 4 (some .boolean), Cond.methodLink RX1 61 yX1_loneMay, Cond.instanceMethod yX1_loneMay, Cond.selects RX1 yX1_loneMay yX1_loneMay, Cond.code yX1_loneMay cX1_loneMay 2 (some .boolean), Cond.fieldLink RX1 76 "FillCells$Windows" "fullOver" "[I", Cond.methodLink RX1 99 yX1_rank, Cond.instanceMethod yX1_rank]
def wsX6_steps_r6 : List Cond := [Cond.selects RX1 yX1_rank yX1_rank, Cond.code yX1_rank cX1_rank 3 (some .int), Cond.methodLink RX1 115 yX0_sumOf, Cond.instanceMethod yX0_sumOf, Cond.selects RX0 yX0_sumOf yX0_sumOf, Cond.code yX0_sumOf cX0_sumOf 2 (some .int), Cond.methodLink RX1 118 yX3_gainOfAll, Cond.instanceMethod yX3_gainOfAll, Cond.selects RX3 yX3_gainOfAll yX3_gainOfAll, Cond.code yX3_gainOfAll cX3_gainOfAll 5 (some .int), Cond.methodLink RX1 129 yX1_change, Cond.instanceMethod yX1_change, Cond.selects RX1 yX1_change yX1_change, Cond.code yX1_change cX1_change 5 none, Cond.methodLink RX1 121 yX5_shift, Cond.instanceMethod yX5_shift, Cond.selects RX5 yX5_shift yX5_shift, Cond.code yX5_shift cX5_shift 9 none, Cond.methodLink RX5 74 Lib.Math.min.name, Cond.static Lib.Math.min.name, Cond.initialized "java/lang/Math", Cond.code Lib.Math.min.name Lib.Math.min.code 2 (some .int), Cond.methodLink RX5 80 Lib.Math.max.name, Cond.static Lib.Math.max.name]
def wsX6_steps_r7 : List Cond := [Cond.code Lib.Math.max.name Lib.Math.max.code 2 (some .int), Cond.methodLink RX5 83 yX5_shiftOne, Cond.instanceMethod yX5_shiftOne, Cond.selects RX5 yX5_shiftOne yX5_shiftOne, Cond.code yX5_shiftOne cX5_shiftOne 5 none, Cond.fieldLink RX5 28 "FillCells$Windows" "thinOver" "[I", Cond.fieldLink RX5 31 "FillCells$Windows" "fullOver" "[I", Cond.methodLink RX5 55 yX5_isThin, Cond.methodLink RX5 62 yX5_isFull, Cond.instanceMethod yX5_isFull, Cond.selects RX5 yX5_isFull yX5_isFull, Cond.code yX5_isFull cX5_isFull 2 (some .boolean), Cond.methodLink RX5 58 yX5_spread, Cond.instanceMethod yX5_spread, Cond.selects RX5 yX5_spread yX5_spread, Cond.code yX5_spread cX5_spread 6 none, Cond.methodLink RX1 125 yX3_shift, Cond.instanceMethod yX3_shift, Cond.selects RX3 yX3_shift yX3_shift, Cond.code yX3_shift cX3_shift 4 none, Cond.methodLink RX6 85 yX2_keep, Cond.instanceMethod yX2_keep, Cond.selects RX2 yX2_keep yX2_keep, Cond.code yX2_keep cX2_keep 1 none]
def wsX6_steps : List Cond := .code yX6_steps cX6_steps 3 (some .int) :: ((wsX6_steps_r1 ++ (wsX6_steps_r2 ++ (wsX6_steps_r3 ++ (wsX6_steps_r4 ++ (wsX6_steps_r5 ++ (wsX6_steps_r6 ++ wsX6_steps_r7)))))) ++ wsX60 ++ wsX10 ++ wsX20 ++ wsX00 ++ wsX50 ++ wsX30)
def wsX6_thins_r1 : List Cond := [Cond.fieldLink RX6 19 "FillCells" "history" "LFillCells$History;", Cond.fieldLink RX6 10 "FillCells" "filling" "LFillCells$Filling;", Cond.fieldLink RX6 65 "FillCells$Filling" "field" "LFillCells$Field;", Cond.methodLink RX6 69 yX2_note, Cond.instanceMethod yX2_note, Cond.selects RX2 yX2_note yX2_note, Cond.initialized RX2, Cond.code yX2_note cX2_note 4 none, Cond.fieldLink RX2 9 "FillCells$History" "kept" "I", Cond.fieldLink RX2 18 "FillCells$History" "fields" "[I", Cond.methodLink RX2 22 yX2_start, Cond.instanceMethod yX2_start, Cond.selects RX2 yX2_start yX2_start, Cond.code yX2_start cX2_start 2 (some .int), Cond.fieldLink RX2 15 "FillCells$History" "oldest" "I", Cond.methodLink RX2 26 yX0_packed, Cond.instanceMethod yX0_packed, Cond.selects RX0 yX0_packed yX0_packed, Cond.initialized RX0, Cond.code yX0_packed cX0_packed 2 (some .int), Cond.fieldLink RX0 9 "FillCells$Field" "shapes" "[I", Cond.fieldLink RX0 24 "FillCells$Field" "fill" "[I", Cond.fieldLink RX0 15 "FillCells$Field" "shut" "[I", Cond.fieldLink RX0 18 "FillCells$Field" "net" "[I"]
def wsX6_thins_r2 : List Cond := [Cond.fieldLink RX0 21 "FillCells$Field" "twins" "[I", Cond.methodLink RX6 182 yX1_thinOut, Cond.instanceMethod yX1_thinOut, Cond.selects RX1 yX1_thinOut yX1_thinOut, Cond.initialized RX1, Cond.code yX1_thinOut cX1_thinOut 4 (some .int), Cond.fieldLink RX1 12 "FillCells$Filling" "field" "LFillCells$Field;", Cond.fieldLink RX1 69 "FillCells$Field" "fill" "[I", Cond.fieldLink RX1 21 "FillCells$Filling" "windows" "LFillCells$Windows;", Cond.fieldLink RX1 58 "FillCells$Field" "twins" "[I", Cond.methodLink RX1 139 Lib.Math.min.name, Cond.static Lib.Math.min.name, Cond.initialized "java/lang/Math", Cond.code Lib.Math.min.name Lib.Math.min.code 2 (some .int), Cond.static yX6_total, Cond.initialized RX6, Cond.code yX6_total cX6_total 6 (some .int), Cond.methodLink RX1 136 yX5_slack, Cond.instanceMethod yX5_slack, Cond.selects RX5 yX5_slack yX5_slack, Cond.initialized RX5, Cond.code yX5_slack cX5_slack 6 (some .int), Cond.fieldLink RX5 24 "FillCells$Windows" "sums" "[I", Cond.fieldLink RX5 18 "FillCells$Windows" "low" "I"]
def wsX6_thins_r3 : List Cond := [Cond.methodLink RX5 74 Lib.Math.min.name, Cond.methodLink RX5 87 yX5_share, Cond.instanceMethod yX5_share, Cond.selects RX5 yX5_share yX5_share, Cond.code yX5_share cX5_share 4 (some .int), Cond.fieldLink RX5 34 "FillCells$Windows" "shares" "[I", Cond.methodLink RX5 37 yX5_has, Cond.instanceMethod yX5_has, Cond.selects RX5 yX5_has yX5_has, Cond.code yX5_has cX5_has 5 (some .boolean), Cond.fieldLink RX5 9 "FillCells$Windows" "height" "I", Cond.fieldLink RX5 15 "FillCells$Windows" "width" "I", Cond.methodLink RX1 129 yX1_change, Cond.instanceMethod yX1_change, Cond.selects RX1 yX1_change yX1_change, Cond.code yX1_change cX1_change 5 none, Cond.fieldLink RX1 28 "FillCells$Filling" "nets" "LFillCells$Nets;", Cond.methodLink RX1 121 yX5_shift, Cond.instanceMethod yX5_shift, Cond.selects RX5 yX5_shift yX5_shift, Cond.code yX5_shift cX5_shift 9 none, Cond.methodLink RX5 80 Lib.Math.max.name, Cond.static Lib.Math.max.name, Cond.code Lib.Math.max.name Lib.Math.max.code 2 (some .int)]
def wsX6_thins_r4 : List Cond := [Cond.methodLink RX5 83 yX5_shiftOne, Cond.instanceMethod yX5_shiftOne, Cond.selects RX5 yX5_shiftOne yX5_shiftOne, Cond.code yX5_shiftOne cX5_shiftOne 5 none, Cond.fieldLink RX5 28 "FillCells$Windows" "thinOver" "[I", Cond.fieldLink RX5 31 "FillCells$Windows" "fullOver" "[I", Cond.methodLink RX5 55 yX5_isThin, Cond.instanceMethod yX5_isThin, Cond.selects RX5 yX5_isThin yX5_isThin, Cond.code yX5_isThin cX5_isThin 2 (some .boolean), Cond.methodLink RX5 62 yX5_isFull, Cond.instanceMethod yX5_isFull, Cond.selects RX5 yX5_isFull yX5_isFull, Cond.code yX5_isFull cX5_isFull 2 (some .boolean), Cond.fieldLink RX5 21 "FillCells$Windows" "high" "I", Cond.methodLink RX5 58 yX5_spread, Cond.instanceMethod yX5_spread, Cond.selects RX5 yX5_spread yX5_spread, Cond.code yX5_spread cX5_spread 6 none, Cond.methodLink RX1 125 yX3_shift, Cond.instanceMethod yX3_shift, Cond.selects RX3 yX3_shift yX3_shift, Cond.initialized RX3, Cond.code yX3_shift cX3_shift 4 none]
def wsX6_thins_r5 : List Cond := [Cond.fieldLink RX3 18 "FillCells$Nets" "borne" "[I", Cond.fieldLink RX3 15 "FillCells$Nets" "burdens" "[I", Cond.methodLink RX6 85 yX2_keep, Cond.instanceMethod yX2_keep, Cond.selects RX2 yX2_keep yX2_keep, Cond.code yX2_keep cX2_keep 1 none]
def wsX6_thins : List Cond := .code yX6_thins cX6_thins 2 (some .int) :: ((wsX6_thins_r1 ++ (wsX6_thins_r2 ++ (wsX6_thins_r3 ++ (wsX6_thins_r4 ++ wsX6_thins_r5)))) ++ wsX60 ++ wsX10 ++ wsX20 ++ wsX00 ++ wsX50 ++ wsX30)
def wsX6_best_r1 : List Cond := [Cond.fieldLink RX6 10 "FillCells" "filling" "LFillCells$Filling;", Cond.fieldLink RX6 188 "FillCells$Filling" "bestRule" "I", Cond.fieldLink RX6 191 "FillCells$Filling" "bestThin" "I", Cond.fieldLink RX6 194 "FillCells$Filling" "bestFill" "I", Cond.methodLink RX6 54 yX6_isIn, Cond.static yX6_isIn, Cond.initialized RX6, Cond.code yX6_isIn cX6_isIn 3 (some .boolean), Cond.methodLink RX6 61 yX6_refuse, Cond.instanceMethod yX6_refuse, Cond.selects RX6 yX6_refuse yX6_refuse, Cond.code yX6_refuse cX6_refuse 2 (some .int), Cond.fieldLink RX6 34 "FillCells" "bads" "I", Cond.fieldLink RX6 38 "FillCells" "noes" "I", Cond.fieldLink RX6 41 "FillCells" "fulls" "I", Cond.methodLink RX6 185 yX1_tryRules, Cond.instanceMethod yX1_tryRules, Cond.selects RX1 yX1_tryRules yX1_tryRules, Cond.initialized RX1, Cond.code yX1_tryRules cX1_tryRules 2 none, Cond.fieldLink RX1 12 "FillCells$Filling" "field" "LFillCells$Field;", Cond.fieldLink RX1 69 "FillCells$Field" "fill" "[I", Cond.fieldLink RX1 46 "FillCells$Filling" "fillAhead" "[I", Cond.methodLink RX1 144 arraycopyName]
def wsX6_best_r2 : List Cond := [Cond.native arraycopyName, Cond.static arraycopyName, Cond.initialized "java/lang/System", Cond.fieldLink RX1 21 "FillCells$Filling" "windows" "LFillCells$Windows;", Cond.methodLink RX1 150 yX1_stepOn, Cond.instanceMethod yX1_stepOn, Cond.selects RX1 yX1_stepOn yX1_stepOn, Cond.code yX1_stepOn cX1_stepOn 5 (some .int), Cond.methodLink RX1 126 yX1_choice, Cond.instanceMethod yX1_choice, Cond.selects RX1 yX1_choice yX1_choice, Cond.code yX1_choice cX1_choice 7 (some .int), Cond.methodLink RX1 85 yX5_atLeast, Cond.instanceMethod yX5_atLeast, Cond.selects RX5 yX5_atLeast yX5_atLeast, Cond.initialized RX5, Cond.code yX5_atLeast cX5_atLeast 3 (some .int), Cond.fieldLink RX5 24 "FillCells$Windows" "sums" "[I", Cond.methodLink RX1 89 yX5_isThin, Cond.instanceMethod yX5_isThin, Cond.selects RX5 yX5_isThin yX5_isThin, Cond.code yX5_isThin cX5_isThin 2 (some .boolean), Cond.fieldLink RX5 18 "FillCells$Windows" "low" "I", Cond.methodLink RX1 92 yX1_chooseTwins]
def wsX6_best_r3 : List Cond := [Cond.instanceMethod yX1_chooseTwins, Cond.selects RX1 yX1_chooseTwins yX1_chooseTwins, Cond.code yX1_chooseTwins cX1_chooseTwins 4 none, Cond.fieldLink RX1 42 "FillCells$Filling" "twinsChosen" "[Z", Cond.methodLink RX1 103 yX1_wantedTwin, Cond.instanceMethod yX1_wantedTwin, Cond.selects RX1 yX1_wantedTwin yX1_wantedTwin, Cond.code yX1_wantedTwin cX1_wantedTwin 4 (some .int), Cond.fieldLink RX1 58 "FillCells$Field" "twins" "[I", Cond.methodLink RX1 106 yX1_isWanted, Cond.instanceMethod yX1_isWanted, Cond.selects RX1 yX1_isWanted yX1_isWanted, Cond.code yX1_isWanted cX1_isWanted 3 (some .boolean), Cond.fieldLink RX1 109 "FillCells$Windows" "thinOver" "[I", Cond.methodLink RX1 112 yX5_has, Cond.instanceMethod yX5_has, Cond.selects RX5 yX5_has yX5_has, Cond.code yX5_has cX5_has 5 (some .boolean), Cond.fieldLink RX5 9 "FillCells$Windows" "height" "I", Cond.fieldLink RX5 15 "FillCells$Windows" "width" "I", Cond.methodLink RX1 65 yX1_twinsMay, Cond.instanceMethod yX1_twinsMay, Cond.selects RX1 yX1_twinsMay yX1_twinsMay, Cond.code yX1_twinsMay cX1_twinsMay 4 (some .boolean)]
def wsX6_best_r4 : List Cond := [Cond.fieldLink RX1 28 "FillCells$Filling" "nets" "LFillCells$Nets;", Cond.methodLink RX1 72 yX0_room, Cond.instanceMethod yX0_room, Cond.selects RX0 yX0_room yX0_room, Cond.initialized RX0, Cond.code yX0_room cX0_room 2 (some .int), Cond.fieldLink RX0 15 "FillCells$Field" "shut" "[I", Cond.fieldLink RX0 9 "FillCells$Field" "shapes" "[I", Cond.methodLink RX1 82 yX5_bearTwins, Cond.instanceMethod yX5_bearTwins, Cond.selects RX5 yX5_bearTwins yX5_bearTwins, Cond.code yX5_bearTwins cX5_bearTwins 4 (some .boolean), Cond.fieldLink RX5 34 "FillCells$Windows" "shares" "[I", Cond.fieldLink RX5 21 "FillCells$Windows" "high" "I", Cond.methodLink RX1 79 yX3_bear, Cond.instanceMethod yX3_bear, Cond.selects RX3 yX3_bear yX3_bear, Cond.initialized RX3, Cond.code yX3_bear cX3_bear 5 (some .boolean), Cond.fieldLink RX3 15 "FillCells$Nets" "burdens" "[I", Cond.fieldLink RX3 9 "FillCells$Nets" "limits" "[I", Cond.methodLink RX3 48 yX3_gain, Cond.instanceMethod yX3_gain, Cond.selects RX3 yX3_gain yX3_gain]
def wsX6_best_r5 : List Cond := [Cond.code yX3_gain cX3_gain 4 (some .int), Cond.fieldLink RX3 18 "FillCells$Nets" "borne" "[I", Cond.fieldLink RX3 21 "FillCells$Nets" "twinsBorne" "[I", Cond.methodLink RX1 96 yX1_isChosen, Cond.instanceMethod yX1_isChosen, Cond.selects RX1 yX1_isChosen yX1_isChosen, Cond.code yX1_isChosen cX1_isChosen 4 (some .boolean), Cond.methodLink RX1 61 yX1_loneMay, Cond.instanceMethod yX1_loneMay, Cond.selects RX1 yX1_loneMay yX1_loneMay, Cond.code yX1_loneMay cX1_loneMay 2 (some .boolean), Cond.fieldLink RX1 76 "FillCells$Windows" "fullOver" "[I", Cond.methodLink RX1 99 yX1_rank, Cond.instanceMethod yX1_rank, Cond.selects RX1 yX1_rank yX1_rank, Cond.code yX1_rank cX1_rank 3 (some .int), Cond.methodLink RX1 115 yX0_sumOf, Cond.instanceMethod yX0_sumOf, Cond.selects RX0 yX0_sumOf yX0_sumOf, Cond.code yX0_sumOf cX0_sumOf 2 (some .int), Cond.fieldLink RX0 24 "FillCells$Field" "fill" "[I", Cond.methodLink RX1 118 yX3_gainOfAll, Cond.instanceMethod yX3_gainOfAll, Cond.selects RX3 yX3_gainOfAll yX3_gainOfAll]
def wsX6_best_r6 : List Cond := [Cond.code yX3_gainOfAll cX3_gainOfAll 5 (some .int), Cond.methodLink RX1 129 yX1_change, Cond.instanceMethod yX1_change, Cond.selects RX1 yX1_change yX1_change, Cond.code yX1_change cX1_change 5 none, Cond.methodLink RX1 121 yX5_shift, Cond.instanceMethod yX5_shift, Cond.selects RX5 yX5_shift yX5_shift, Cond.code yX5_shift cX5_shift 9 none, Cond.methodLink RX5 74 Lib.Math.min.name, Cond.static Lib.Math.min.name, Cond.initialized "java/lang/Math", Cond.code Lib.Math.min.name Lib.Math.min.code 2 (some .int), Cond.methodLink RX5 80 Lib.Math.max.name, Cond.static Lib.Math.max.name, Cond.code Lib.Math.max.name Lib.Math.max.code 2 (some .int), Cond.methodLink RX5 83 yX5_shiftOne, Cond.instanceMethod yX5_shiftOne, Cond.selects RX5 yX5_shiftOne yX5_shiftOne, Cond.code yX5_shiftOne cX5_shiftOne 5 none, Cond.fieldLink RX5 28 "FillCells$Windows" "thinOver" "[I", Cond.fieldLink RX5 31 "FillCells$Windows" "fullOver" "[I", Cond.methodLink RX5 55 yX5_isThin, Cond.methodLink RX5 62 yX5_isFull]
def wsX6_best_r7 : List Cond := [Cond.instanceMethod yX5_isFull, Cond.selects RX5 yX5_isFull yX5_isFull, Cond.code yX5_isFull cX5_isFull 2 (some .boolean), Cond.methodLink RX5 58 yX5_spread, Cond.instanceMethod yX5_spread, Cond.selects RX5 yX5_spread yX5_spread, Cond.code yX5_spread cX5_spread 6 none, Cond.methodLink RX1 125 yX3_shift, Cond.instanceMethod yX3_shift, Cond.selects RX3 yX3_shift yX3_shift, Cond.code yX3_shift cX3_shift 4 none, Cond.methodLink RX1 153 yX1_thinOut, Cond.instanceMethod yX1_thinOut, Cond.selects RX1 yX1_thinOut yX1_thinOut, Cond.code yX1_thinOut cX1_thinOut 4 (some .int), Cond.methodLink RX1 139 Lib.Math.min.name, Cond.static yX6_total, Cond.code yX6_total cX6_total 6 (some .int), Cond.methodLink RX1 136 yX5_slack, Cond.instanceMethod yX5_slack, Cond.selects RX5 yX5_slack yX5_slack, Cond.code yX5_slack cX5_slack 6 (some .int), Cond.methodLink RX5 87 yX5_share, Cond.instanceMethod yX5_share]
def wsX6_best_r8 : List Cond := [Cond.selects RX5 yX5_share yX5_share, Cond.code yX5_share cX5_share 4 (some .int), Cond.methodLink RX5 37 yX5_has, Cond.methodLink RX1 156 yX5_countThin, Cond.instanceMethod yX5_countThin, Cond.selects RX5 yX5_countThin yX5_countThin, Cond.code yX5_countThin cX5_countThin 3 (some .int), Cond.methodLink RX1 159 yX1_rate, Cond.instanceMethod yX1_rate, Cond.selects RX1 yX1_rate yX1_rate, Cond.code yX1_rate cX1_rate 4 none, Cond.fieldLink RX1 36 "FillCells$Filling" "bestThin" "I", Cond.fieldLink RX1 39 "FillCells$Filling" "bestFill" "I", Cond.fieldLink RX1 32 "FillCells$Filling" "bestRule" "I", Cond.methodLink RX1 163 yX1_measure, Cond.instanceMethod yX1_measure, Cond.selects RX1 yX1_measure yX1_measure, Cond.code yX1_measure cX1_measure 1 none, Cond.methodLink RX1 53 yX5_measure, Cond.instanceMethod yX5_measure, Cond.selects RX5 yX5_measure yX5_measure, Cond.code yX5_measure cX5_measure 3 none, Cond.methodLink RX5 41 yJ7_fill_53178, Cond.static yJ7_fill_53178]
def wsX6_best_r9 : List Cond := [Cond.initialized RJ7, Cond.code yJ7_fill_53178 cJ7_fill_53178 4 none, Cond.methodLink RX5 47 yX5_lies, Cond.instanceMethod yX5_lies, Cond.selects RX5 yX5_lies yX5_lies, Cond.code yX5_lies cX5_lies 2 (some .boolean), Cond.methodLink RX5 51 yX5_addUp, Cond.instanceMethod yX5_addUp, Cond.selects RX5 yX5_addUp yX5_addUp, Cond.code yX5_addUp cX5_addUp 7 none, Cond.fieldLink RX5 71 "FillCells$Field" "twins" "[I", Cond.methodLink RX5 65 yX0_sumOf, Cond.methodLink RX1 57 yX3_measure, Cond.instanceMethod yX3_measure, Cond.selects RX3 yX3_measure yX3_measure, Cond.code yX3_measure cX3_measure 5 none, Cond.fieldLink RX3 30 "FillCells$Field" "net" "[I", Cond.fieldLink RX3 39 "FillCells$Field" "twins" "[I", Cond.fieldLink RX3 42 "FillCells$Field" "fill" "[I", Cond.methodLink RX3 24 yJ7_fill_53178, Cond.methodLink RX3 35 yX3_netsBeside, Cond.static yX3_netsBeside, Cond.code yX3_netsBeside cX3_netsBeside 4 (some .int), Cond.methodLink RX3 44 yX3_shift]
def wsX6_best : List Cond := .code yX6_best cX6_best 2 (some .int) :: ((wsX6_best_r1 ++ (wsX6_best_r2 ++ (wsX6_best_r3 ++ (wsX6_best_r4 ++ (wsX6_best_r5 ++ (wsX6_best_r6 ++ (wsX6_best_r7 ++ (wsX6_best_r8 ++ wsX6_best_r9)))))))) ++ wsX60 ++ wsX10 ++ wsX00 ++ wsX50 ++ wsX30)
def wsX6_row_r1 : List Cond := [Cond.fieldLink RX6 10 "FillCells" "filling" "LFillCells$Filling;", Cond.methodLink RX6 54 yX6_isIn, Cond.static yX6_isIn, Cond.initialized RX6, Cond.code yX6_isIn cX6_isIn 3 (some .boolean), Cond.methodLink RX6 61 yX6_refuse, Cond.instanceMethod yX6_refuse, Cond.selects RX6 yX6_refuse yX6_refuse, Cond.code yX6_refuse cX6_refuse 2 (some .int), Cond.fieldLink RX6 34 "FillCells" "bads" "I", Cond.fieldLink RX6 38 "FillCells" "noes" "I", Cond.fieldLink RX6 41 "FillCells" "fulls" "I", Cond.methodLink RX6 197 yX1_leastInRow, Cond.instanceMethod yX1_leastInRow, Cond.selects RX1 yX1_leastInRow yX1_leastInRow, Cond.initialized RX1, Cond.code yX1_leastInRow cX1_leastInRow 9 (some .int), Cond.fieldLink RX1 12 "FillCells$Filling" "field" "LFillCells$Field;", Cond.fieldLink RX1 165 "FillCells$Field" "shapes" "[I", Cond.fieldLink RX1 50 "FillCells$Filling" "line" "[I", Cond.methodLink RX1 144 arraycopyName, Cond.native arraycopyName, Cond.static arraycopyName, Cond.initialized "java/lang/System"]
def wsX6_row_r2 : List Cond := [Cond.fieldLink RX1 21 "FillCells$Filling" "windows" "LFillCells$Windows;", Cond.fieldLink RX1 168 "FillCells$Windows" "width" "I", Cond.fieldLink RX1 174 "FillCells$Field" "shut" "[I", Cond.methodLink RX1 139 Lib.Math.min.name, Cond.static Lib.Math.min.name, Cond.initialized "java/lang/Math", Cond.code Lib.Math.min.name Lib.Math.min.code 2 (some .int), Cond.methodLink RX1 171 yX1_stretch, Cond.instanceMethod yX1_stretch, Cond.selects RX1 yX1_stretch yX1_stretch, Cond.code yX1_stretch cX1_stretch 4 (some .int)]
def wsX6_row : List Cond := .code yX6_row cX6_row 3 (some .int) :: ((wsX6_row_r1 ++ wsX6_row_r2) ++ wsX60 ++ wsX10 ++ wsX00 ++ wsX50)
def wsX6_undo_r1 : List Cond := [Cond.fieldLink RX6 19 "FillCells" "history" "LFillCells$History;", Cond.fieldLink RX6 200 "FillCells$History" "kept" "I", Cond.fieldLink RX6 10 "FillCells" "filling" "LFillCells$Filling;", Cond.fieldLink RX6 65 "FillCells$Filling" "field" "LFillCells$Field;", Cond.methodLink RX6 61 yX6_refuse, Cond.instanceMethod yX6_refuse, Cond.selects RX6 yX6_refuse yX6_refuse, Cond.initialized RX6, Cond.code yX6_refuse cX6_refuse 2 (some .int), Cond.fieldLink RX6 34 "FillCells" "bads" "I", Cond.fieldLink RX6 38 "FillCells" "noes" "I", Cond.fieldLink RX6 41 "FillCells" "fulls" "I", Cond.methodLink RX6 203 yX2_takeBack, Cond.instanceMethod yX2_takeBack, Cond.selects RX2 yX2_takeBack yX2_takeBack, Cond.initialized RX2, Cond.code yX2_takeBack cX2_takeBack 4 none, Cond.fieldLink RX2 9 "FillCells$History" "kept" "I", Cond.fieldLink RX2 18 "FillCells$History" "fields" "[I", Cond.methodLink RX2 22 yX2_start, Cond.instanceMethod yX2_start, Cond.selects RX2 yX2_start yX2_start, Cond.code yX2_start cX2_start 2 (some .int), Cond.fieldLink RX2 15 "FillCells$History" "oldest" "I"]
def wsX6_undo_r2 : List Cond := [Cond.methodLink RX2 31 yX0_unpack, Cond.instanceMethod yX0_unpack, Cond.selects RX0 yX0_unpack yX0_unpack, Cond.initialized RX0, Cond.code yX0_unpack cX0_unpack 3 none, Cond.fieldLink RX0 9 "FillCells$Field" "shapes" "[I", Cond.fieldLink RX0 24 "FillCells$Field" "fill" "[I", Cond.fieldLink RX0 15 "FillCells$Field" "shut" "[I", Cond.fieldLink RX0 18 "FillCells$Field" "net" "[I", Cond.fieldLink RX0 21 "FillCells$Field" "twins" "[I", Cond.methodLink RX6 82 yX1_measure, Cond.instanceMethod yX1_measure, Cond.selects RX1 yX1_measure yX1_measure, Cond.initialized RX1, Cond.code yX1_measure cX1_measure 1 none, Cond.fieldLink RX1 21 "FillCells$Filling" "windows" "LFillCells$Windows;", Cond.fieldLink RX1 12 "FillCells$Filling" "field" "LFillCells$Field;", Cond.fieldLink RX1 28 "FillCells$Filling" "nets" "LFillCells$Nets;", Cond.methodLink RX1 53 yX5_measure, Cond.instanceMethod yX5_measure, Cond.selects RX5 yX5_measure yX5_measure, Cond.initialized RX5, Cond.code yX5_measure cX5_measure 3 none, Cond.fieldLink RX5 28 "FillCells$Windows" "thinOver" "[I"]
def wsX6_undo_r3 : List Cond := [Cond.fieldLink RX5 31 "FillCells$Windows" "fullOver" "[I", Cond.fieldLink RX5 34 "FillCells$Windows" "shares" "[I", Cond.fieldLink RX5 24 "FillCells$Windows" "sums" "[I", Cond.methodLink RX5 41 yJ7_fill_53178, Cond.static yJ7_fill_53178, Cond.initialized RJ7, Cond.code yJ7_fill_53178 cJ7_fill_53178 4 none, Cond.methodLink RX5 47 yX5_lies, Cond.instanceMethod yX5_lies, Cond.selects RX5 yX5_lies yX5_lies, Cond.code yX5_lies cX5_lies 2 (some .boolean), Cond.fieldLink RX5 9 "FillCells$Windows" "height" "I", Cond.fieldLink RX5 15 "FillCells$Windows" "width" "I", Cond.methodLink RX5 51 yX5_addUp, Cond.instanceMethod yX5_addUp, Cond.selects RX5 yX5_addUp yX5_addUp, Cond.code yX5_addUp cX5_addUp 7 none, Cond.fieldLink RX5 71 "FillCells$Field" "twins" "[I", Cond.methodLink RX5 65 yX0_sumOf, Cond.instanceMethod yX0_sumOf, Cond.selects RX0 yX0_sumOf yX0_sumOf, Cond.code yX0_sumOf cX0_sumOf 2 (some .int), Cond.methodLink RX5 55 yX5_isThin, Cond.instanceMethod yX5_isThin]
def wsX6_undo_r4 : List Cond := [Cond.selects RX5 yX5_isThin yX5_isThin, Cond.code yX5_isThin cX5_isThin 2 (some .boolean), Cond.fieldLink RX5 18 "FillCells$Windows" "low" "I", Cond.methodLink RX5 58 yX5_spread, Cond.instanceMethod yX5_spread, Cond.selects RX5 yX5_spread yX5_spread, Cond.code yX5_spread cX5_spread 6 none, Cond.methodLink RX5 62 yX5_isFull, Cond.instanceMethod yX5_isFull, Cond.selects RX5 yX5_isFull yX5_isFull, Cond.code yX5_isFull cX5_isFull 2 (some .boolean), Cond.fieldLink RX5 21 "FillCells$Windows" "high" "I", Cond.methodLink RX1 57 yX3_measure, Cond.instanceMethod yX3_measure, Cond.selects RX3 yX3_measure yX3_measure, Cond.initialized RX3, Cond.code yX3_measure cX3_measure 5 none, Cond.fieldLink RX3 15 "FillCells$Nets" "burdens" "[I", Cond.fieldLink RX3 21 "FillCells$Nets" "twinsBorne" "[I", Cond.fieldLink RX3 30 "FillCells$Field" "net" "[I", Cond.fieldLink RX3 18 "FillCells$Nets" "borne" "[I", Cond.fieldLink RX3 39 "FillCells$Field" "twins" "[I", Cond.fieldLink RX3 42 "FillCells$Field" "fill" "[I", Cond.methodLink RX3 24 yJ7_fill_53178]
def wsX6_undo_r5 : List Cond := [Cond.methodLink RX3 35 yX3_netsBeside, Cond.static yX3_netsBeside, Cond.code yX3_netsBeside cX3_netsBeside 4 (some .int), Cond.methodLink RX3 44 yX3_shift, Cond.instanceMethod yX3_shift, Cond.selects RX3 yX3_shift yX3_shift, Cond.code yX3_shift cX3_shift 4 none]
def wsX6_undo : List Cond := .code yX6_undo cX6_undo 1 (some .int) :: ((wsX6_undo_r1 ++ (wsX6_undo_r2 ++ (wsX6_undo_r3 ++ (wsX6_undo_r4 ++ wsX6_undo_r5)))) ++ wsX60 ++ wsX20 ++ wsX10 ++ wsX00 ++ wsX50 ++ wsX30)
def wsX6_type : List Cond := .code yX6_type cX6_type 2 (some .int) :: ([.fieldLink RX6 26 "FillCells" "text" "LFillCells$Text;", .fieldLink RX6 206 "FillCells$Text" "length" "I", .methodLink RX6 54 yX6_isIn, .static yX6_isIn, .initialized RX6, .code yX6_isIn cX6_isIn 3 (some .boolean), .methodLink RX6 61 yX6_refuse, .instanceMethod yX6_refuse, .selects RX6 yX6_refuse yX6_refuse, .code yX6_refuse cX6_refuse 2 (some .int), .fieldLink RX6 34 "FillCells" "bads" "I", .fieldLink RX6 38 "FillCells" "noes" "I", .fieldLink RX6 41 "FillCells" "fulls" "I", .methodLink RX6 209 yX4_append, .instanceMethod yX4_append, .selects RX4 yX4_append yX4_append, .initialized RX4, .code yX4_append cX4_append 2 none, .fieldLink RX4 9 "FillCells$Text" "length" "I", .fieldLink RX4 15 "FillCells$Text" "bytes" "[I"] ++ wsX60 ++ wsX40)
def wsX6_clear : List Cond := .code yX6_clear cX6_clear 2 (some .int) :: ([.fieldLink RX6 26 "FillCells" "text" "LFillCells$Text;", .fieldLink RX6 206 "FillCells$Text" "length" "I"] ++ wsX60 ++ wsX40)
def wsX6_reads_r1 : List Cond := [Cond.fieldLink RX6 26 "FillCells" "text" "LFillCells$Text;", Cond.fieldLink RX6 19 "FillCells" "history" "LFillCells$History;", Cond.fieldLink RX6 10 "FillCells" "filling" "LFillCells$Filling;", Cond.fieldLink RX6 65 "FillCells$Filling" "field" "LFillCells$Field;", Cond.methodLink RX6 213 yX4_fault, Cond.instanceMethod yX4_fault, Cond.selects RX4 yX4_fault yX4_fault, Cond.initialized RX4, Cond.code yX4_fault cX4_fault 6 (some .int), Cond.fieldLink RX4 9 "FillCells$Text" "length" "I", Cond.fieldLink RX4 15 "FillCells$Text" "bytes" "[I", Cond.methodLink RX4 19 yX4_isSign, Cond.static yX4_isSign, Cond.code yX4_isSign cX4_isSign 1 (some .boolean), Cond.methodLink RX6 69 yX2_note, Cond.instanceMethod yX2_note, Cond.selects RX2 yX2_note yX2_note, Cond.initialized RX2, Cond.code yX2_note cX2_note 4 none, Cond.fieldLink RX2 9 "FillCells$History" "kept" "I", Cond.fieldLink RX2 18 "FillCells$History" "fields" "[I", Cond.methodLink RX2 22 yX2_start, Cond.instanceMethod yX2_start, Cond.selects RX2 yX2_start yX2_start]
def wsX6_reads_r2 : List Cond := [Cond.code yX2_start cX2_start 2 (some .int), Cond.fieldLink RX2 15 "FillCells$History" "oldest" "I", Cond.methodLink RX2 26 yX0_packed, Cond.instanceMethod yX0_packed, Cond.selects RX0 yX0_packed yX0_packed, Cond.initialized RX0, Cond.code yX0_packed cX0_packed 2 (some .int), Cond.fieldLink RX0 9 "FillCells$Field" "shapes" "[I", Cond.fieldLink RX0 24 "FillCells$Field" "fill" "[I", Cond.fieldLink RX0 15 "FillCells$Field" "shut" "[I", Cond.fieldLink RX0 18 "FillCells$Field" "net" "[I", Cond.fieldLink RX0 21 "FillCells$Field" "twins" "[I", Cond.methodLink RX6 216 yX4_tell, Cond.instanceMethod yX4_tell, Cond.selects RX4 yX4_tell yX4_tell, Cond.code yX4_tell cX4_tell 6 (some .int), Cond.methodLink RX4 23 yX4_tellCell, Cond.static yX4_tellCell, Cond.code yX4_tellCell cX4_tellCell 3 none, Cond.fieldLink RX4 30 "FillCells$Field" "shut" "[I", Cond.fieldLink RX4 35 "FillCells$Field" "shapes" "[I", Cond.static yX6_isCell, Cond.initialized RX6, Cond.code yX6_isCell cX6_isCell 1 (some .boolean)]
def wsX6_reads_r3 : List Cond := [Cond.methodLink RX6 54 yX6_isIn, Cond.static yX6_isIn, Cond.code yX6_isIn cX6_isIn 3 (some .boolean), Cond.methodLink RX6 79 yX0_settle, Cond.instanceMethod yX0_settle, Cond.selects RX0 yX0_settle yX0_settle, Cond.code yX0_settle cX0_settle 2 none, Cond.methodLink RX0 45 Lib.Math.min.name, Cond.static Lib.Math.min.name, Cond.initialized "java/lang/Math", Cond.code Lib.Math.min.name Lib.Math.min.code 2 (some .int), Cond.methodLink RX0 41 yX0_room, Cond.instanceMethod yX0_room, Cond.selects RX0 yX0_room yX0_room, Cond.code yX0_room cX0_room 2 (some .int), Cond.methodLink RX0 48 yX0_makeAlike, Cond.instanceMethod yX0_makeAlike, Cond.selects RX0 yX0_makeAlike yX0_makeAlike, Cond.code yX0_makeAlike cX0_makeAlike 4 none, Cond.methodLink RX6 82 yX1_measure, Cond.instanceMethod yX1_measure, Cond.selects RX1 yX1_measure yX1_measure, Cond.initialized RX1, Cond.code yX1_measure cX1_measure 1 none]
def wsX6_reads_r4 : List Cond := [Cond.fieldLink RX1 21 "FillCells$Filling" "windows" "LFillCells$Windows;", Cond.fieldLink RX1 12 "FillCells$Filling" "field" "LFillCells$Field;", Cond.fieldLink RX1 28 "FillCells$Filling" "nets" "LFillCells$Nets;", Cond.methodLink RX1 53 yX5_measure, Cond.instanceMethod yX5_measure, Cond.selects RX5 yX5_measure yX5_measure, Cond.initialized RX5, Cond.code yX5_measure cX5_measure 3 none, Cond.fieldLink RX5 28 "FillCells$Windows" "thinOver" "[I", Cond.fieldLink RX5 31 "FillCells$Windows" "fullOver" "[I", Cond.fieldLink RX5 34 "FillCells$Windows" "shares" "[I", Cond.fieldLink RX5 24 "FillCells$Windows" "sums" "[I", Cond.methodLink RX5 41 yJ7_fill_53178, Cond.static yJ7_fill_53178, Cond.initialized RJ7, Cond.code yJ7_fill_53178 cJ7_fill_53178 4 none, Cond.methodLink RX5 47 yX5_lies, Cond.instanceMethod yX5_lies, Cond.selects RX5 yX5_lies yX5_lies, Cond.code yX5_lies cX5_lies 2 (some .boolean), Cond.fieldLink RX5 9 "FillCells$Windows" "height" "I", Cond.fieldLink RX5 15 "FillCells$Windows" "width" "I", Cond.methodLink RX5 51 yX5_addUp, Cond.instanceMethod yX5_addUp]
def wsX6_reads_r5 : List Cond := [Cond.selects RX5 yX5_addUp yX5_addUp, Cond.code yX5_addUp cX5_addUp 7 none, Cond.fieldLink RX5 71 "FillCells$Field" "twins" "[I", Cond.methodLink RX5 65 yX0_sumOf, Cond.instanceMethod yX0_sumOf, Cond.selects RX0 yX0_sumOf yX0_sumOf, Cond.code yX0_sumOf cX0_sumOf 2 (some .int), Cond.methodLink RX5 55 yX5_isThin, Cond.instanceMethod yX5_isThin, Cond.selects RX5 yX5_isThin yX5_isThin, Cond.code yX5_isThin cX5_isThin 2 (some .boolean), Cond.fieldLink RX5 18 "FillCells$Windows" "low" "I", Cond.methodLink RX5 58 yX5_spread, Cond.instanceMethod yX5_spread, Cond.selects RX5 yX5_spread yX5_spread, Cond.code yX5_spread cX5_spread 6 none, Cond.methodLink RX5 62 yX5_isFull, Cond.instanceMethod yX5_isFull, Cond.selects RX5 yX5_isFull yX5_isFull, Cond.code yX5_isFull cX5_isFull 2 (some .boolean), Cond.fieldLink RX5 21 "FillCells$Windows" "high" "I", Cond.methodLink RX1 57 yX3_measure, Cond.instanceMethod yX3_measure, Cond.selects RX3 yX3_measure yX3_measure]
def wsX6_reads_r6 : List Cond := [Cond.initialized RX3, Cond.code yX3_measure cX3_measure 5 none, Cond.fieldLink RX3 15 "FillCells$Nets" "burdens" "[I", Cond.fieldLink RX3 21 "FillCells$Nets" "twinsBorne" "[I", Cond.fieldLink RX3 30 "FillCells$Field" "net" "[I", Cond.fieldLink RX3 18 "FillCells$Nets" "borne" "[I", Cond.fieldLink RX3 39 "FillCells$Field" "twins" "[I", Cond.fieldLink RX3 42 "FillCells$Field" "fill" "[I", Cond.methodLink RX3 24 yJ7_fill_53178, Cond.methodLink RX3 35 yX3_netsBeside, Cond.static yX3_netsBeside, Cond.code yX3_netsBeside cX3_netsBeside 4 (some .int), Cond.methodLink RX3 44 yX3_shift, Cond.instanceMethod yX3_shift, Cond.selects RX3 yX3_shift yX3_shift, Cond.code yX3_shift cX3_shift 4 none, Cond.methodLink RX6 85 yX2_keep, Cond.instanceMethod yX2_keep, Cond.selects RX2 yX2_keep yX2_keep, Cond.code yX2_keep cX2_keep 1 none]
def wsX6_reads : List Cond := .code yX6_reads cX6_reads 3 (some .int) :: ((wsX6_reads_r1 ++ (wsX6_reads_r2 ++ (wsX6_reads_r3 ++ (wsX6_reads_r4 ++ (wsX6_reads_r5 ++ wsX6_reads_r6))))) ++ wsX60 ++ wsX10 ++ wsX40 ++ wsX20 ++ wsX00 ++ wsX50 ++ wsX30)
def wsX6_told : List Cond := .code yX6_told cX6_told 2 (some .int) :: ([.fieldLink RX6 34 "FillCells" "bads" "I", .fieldLink RX6 38 "FillCells" "noes" "I", .fieldLink RX6 41 "FillCells" "fulls" "I", .fieldLink RX6 26 "FillCells" "text" "LFillCells$Text;", .fieldLink RX6 206 "FillCells$Text" "length" "I", .fieldLink RX6 30 "FillCells" "settings" "[I", .fieldLink RX6 19 "FillCells" "history" "LFillCells$History;", .fieldLink RX6 200 "FillCells$History" "kept" "I", .methodLink RX6 61 yX6_refuse, .instanceMethod yX6_refuse, .selects RX6 yX6_refuse yX6_refuse, .initialized RX6, .code yX6_refuse cX6_refuse 2 (some .int)] ++ wsX60 ++ wsX40 ++ wsX20)
def wsX6_digest_r1 : List Cond := [Cond.constantLong RX6 220 (2081), Cond.constantLong RX6 222 (31), Cond.fieldLink RX6 10 "FillCells" "filling" "LFillCells$Filling;", Cond.fieldLink RX6 157 "FillCells$Filling" "nets" "LFillCells$Nets;", Cond.fieldLink RX6 227 "FillCells$Nets" "limits" "[I", Cond.fieldLink RX6 65 "FillCells$Filling" "field" "LFillCells$Field;", Cond.fieldLink RX6 117 "FillCells$Filling" "windows" "LFillCells$Windows;", Cond.fieldLink RX6 161 "FillCells$Nets" "burdens" "[I", Cond.methodLink RX6 224 yX6_told, Cond.instanceMethod yX6_told, Cond.selects RX6 yX6_told yX6_told, Cond.initialized RX6, Cond.code yX6_told cX6_told 2 (some .int), Cond.fieldLink RX6 34 "FillCells" "bads" "I", Cond.fieldLink RX6 38 "FillCells" "noes" "I", Cond.fieldLink RX6 41 "FillCells" "fulls" "I", Cond.fieldLink RX6 26 "FillCells" "text" "LFillCells$Text;", Cond.fieldLink RX6 206 "FillCells$Text" "length" "I", Cond.fieldLink RX6 30 "FillCells" "settings" "[I", Cond.fieldLink RX6 19 "FillCells" "history" "LFillCells$History;", Cond.fieldLink RX6 200 "FillCells$History" "kept" "I", Cond.methodLink RX6 61 yX6_refuse, Cond.instanceMethod yX6_refuse, Cond.selects RX6 yX6_refuse yX6_refuse]
def wsX6_digest_r2 : List Cond := [Cond.code yX6_refuse cX6_refuse 2 (some .int), Cond.methodLink RX6 73 yX0_part, Cond.instanceMethod yX0_part, Cond.selects RX0 yX0_part yX0_part, Cond.initialized RX0, Cond.code yX0_part cX0_part 2 (some (.array .int)), Cond.fieldLink RX0 9 "FillCells$Field" "shapes" "[I", Cond.fieldLink RX0 15 "FillCells$Field" "shut" "[I", Cond.fieldLink RX0 18 "FillCells$Field" "net" "[I", Cond.fieldLink RX0 21 "FillCells$Field" "twins" "[I", Cond.fieldLink RX0 24 "FillCells$Field" "fill" "[I", Cond.methodLink RX6 133 yX5_countThin, Cond.instanceMethod yX5_countThin, Cond.selects RX5 yX5_countThin yX5_countThin, Cond.initialized RX5, Cond.code yX5_countThin cX5_countThin 3 (some .int), Cond.methodLink RX5 55 yX5_isThin, Cond.instanceMethod yX5_isThin, Cond.selects RX5 yX5_isThin yX5_isThin, Cond.code yX5_isThin cX5_isThin 2 (some .boolean), Cond.fieldLink RX5 24 "FillCells$Windows" "sums" "[I", Cond.fieldLink RX5 18 "FillCells$Windows" "low" "I", Cond.methodLink RX6 136 yX5_countThick, Cond.instanceMethod yX5_countThick]
def wsX6_digest_r3 : List Cond := [Cond.selects RX5 yX5_countThick yX5_countThick, Cond.code yX5_countThick cX5_countThick 3 (some .int), Cond.fieldLink RX5 21 "FillCells$Windows" "high" "I"]
def wsX6_digest : List Cond := .code yX6_digest cX6_digest 5 (some .long) :: ((wsX6_digest_r1 ++ (wsX6_digest_r2 ++ wsX6_digest_r3)) ++ wsX60 ++ wsX10 ++ wsX30 ++ wsX40 ++ wsX20 ++ wsX00 ++ wsX50)
def wsX7_init : List Cond := .code yX7_init cX7_init 1 none :: ([.methodLink RX7 1 objectInit, .instanceMethod objectInit, .code objectInit ⟨#[0xb1]⟩ 1 none, .arrayClass .int, .fieldLink RX7 7 "FillCellsModel" "s" "[I", .fieldLink RX7 13 "FillCellsModel" "past" "[I", .fieldLink RX7 16 "FillCellsModel" "kept" "[I", .fieldLink RX7 19 "FillCellsModel" "rules" "[I", .fieldLink RX7 22 "FillCellsModel" "refused" "[I", .fieldLink RX7 25 "FillCellsModel" "text" "[I", .fieldLink RX7 28 "FillCellsModel" "sums" "[I", .fieldLink RX7 31 "FillCellsModel" "thin" "[I", .fieldLink RX7 34 "FillCellsModel" "family" "[I", .fieldLink RX7 37 "FillCellsModel" "members" "[I", .fieldLink RX7 40 "FillCellsModel" "burdens" "[I", .fieldLink RX7 43 "FillCellsModel" "more" "[I", .fieldLink RX7 46 "FillCellsModel" "results" "[I"] ++ wsX70)
def wsX7_in : List Cond := .code yX7_in cX7_in 3 (some .boolean) :: ([])
def wsX7_refuses : List Cond := .code yX7_refuses cX7_refuses 2 (some .int) :: ([.fieldLink RX7 22 "FillCellsModel" "refused" "[I"] ++ wsX70)
def wsX7_isCell : List Cond := .code yX7_isCell cX7_isCell 1 (some .boolean) :: ([.methodLink RX7 49 yX7_in, .static yX7_in, .initialized RX7, .code yX7_in cX7_in 3 (some .boolean)])
def wsX7_sumOf : List Cond := .code yX7_sumOf cX7_sumOf 2 (some .int) :: ([.fieldLink RX7 7 "FillCellsModel" "s" "[I"] ++ wsX70)
def wsX7_keeps : List Cond := .code yX7_keeps cX7_keeps 2 none :: ([.fieldLink RX7 53 "FillCellsModel" "known" "I", .fieldLink RX7 13 "FillCellsModel" "past" "[I", .fieldLink RX7 16 "FillCellsModel" "kept" "[I"] ++ wsX70)
def wsX7_aside : List Cond := .code yX7_aside cX7_aside 2 none :: ([.fieldLink RX7 16 "FillCellsModel" "kept" "[I", .fieldLink RX7 7 "FillCellsModel" "s" "[I"] ++ wsX70)
def wsX7_back : List Cond := .code yX7_back cX7_back 2 none :: ([.fieldLink RX7 7 "FillCellsModel" "s" "[I", .fieldLink RX7 16 "FillCellsModel" "kept" "[I"] ++ wsX70)
def wsX7_settles : List Cond := .code yX7_settles cX7_settles 4 none :: ([.fieldLink RX7 7 "FillCellsModel" "s" "[I", .methodLink RX7 57 yX7_sumOf, .instanceMethod yX7_sumOf, .selects RX7 yX7_sumOf yX7_sumOf, .initialized RX7, .code yX7_sumOf cX7_sumOf 2 (some .int)] ++ wsX70)
def wsX7_sets_r1 : List Cond := [Cond.fieldLink RX7 7 "FillCellsModel" "s" "[I", Cond.methodLink RX7 61 yX7_isCell, Cond.static yX7_isCell, Cond.initialized RX7, Cond.code yX7_isCell cX7_isCell 1 (some .boolean), Cond.methodLink RX7 49 yX7_in, Cond.static yX7_in, Cond.code yX7_in cX7_in 3 (some .boolean), Cond.methodLink RX7 65 yX7_refuses, Cond.instanceMethod yX7_refuses, Cond.selects RX7 yX7_refuses yX7_refuses, Cond.code yX7_refuses cX7_refuses 2 (some .int), Cond.fieldLink RX7 22 "FillCellsModel" "refused" "[I", Cond.methodLink RX7 68 yX7_aside, Cond.instanceMethod yX7_aside, Cond.selects RX7 yX7_aside yX7_aside, Cond.code yX7_aside cX7_aside 2 none, Cond.fieldLink RX7 16 "FillCellsModel" "kept" "[I", Cond.methodLink RX7 71 yX7_keeps, Cond.instanceMethod yX7_keeps, Cond.selects RX7 yX7_keeps yX7_keeps, Cond.code yX7_keeps cX7_keeps 2 none, Cond.fieldLink RX7 53 "FillCellsModel" "known" "I", Cond.fieldLink RX7 13 "FillCellsModel" "past" "[I"]
def wsX7_sets_r2 : List Cond := [Cond.methodLink RX7 74 yX7_settles, Cond.instanceMethod yX7_settles, Cond.selects RX7 yX7_settles yX7_settles, Cond.code yX7_settles cX7_settles 4 none, Cond.methodLink RX7 57 yX7_sumOf, Cond.instanceMethod yX7_sumOf, Cond.selects RX7 yX7_sumOf yX7_sumOf, Cond.code yX7_sumOf cX7_sumOf 2 (some .int)]
def wsX7_sets : List Cond := .code yX7_sets cX7_sets 5 (some .int) :: ((wsX7_sets_r1 ++ wsX7_sets_r2) ++ wsX70)
def wsX7_draw_r1 : List Cond := [Cond.constant RX7 77 (999999), Cond.constantLong RX7 78 (1103515245), Cond.constantLong RX7 80 (12345), Cond.constantLong RX7 82 (2147483648), Cond.fieldLink RX7 7 "FillCellsModel" "s" "[I", Cond.constantLong RX7 84 (65536), Cond.methodLink RX7 49 yX7_in, Cond.static yX7_in, Cond.initialized RX7, Cond.code yX7_in cX7_in 3 (some .boolean), Cond.methodLink RX7 65 yX7_refuses, Cond.instanceMethod yX7_refuses, Cond.selects RX7 yX7_refuses yX7_refuses, Cond.code yX7_refuses cX7_refuses 2 (some .int), Cond.fieldLink RX7 22 "FillCellsModel" "refused" "[I", Cond.methodLink RX7 68 yX7_aside, Cond.instanceMethod yX7_aside, Cond.selects RX7 yX7_aside yX7_aside, Cond.code yX7_aside cX7_aside 2 none, Cond.fieldLink RX7 16 "FillCellsModel" "kept" "[I", Cond.methodLink RX7 71 yX7_keeps, Cond.instanceMethod yX7_keeps, Cond.selects RX7 yX7_keeps yX7_keeps, Cond.code yX7_keeps cX7_keeps 2 none]
def wsX7_draw_r2 : List Cond := [Cond.fieldLink RX7 53 "FillCellsModel" "known" "I", Cond.fieldLink RX7 13 "FillCellsModel" "past" "[I"]
def wsX7_draw : List Cond := .code yX7_draw cX7_draw 7 (some .int) :: ((wsX7_draw_r1 ++ wsX7_draw_r2) ++ wsX70)
def wsX7_fillOf : List Cond := .code yX7_fillOf cX7_fillOf 3 (some .int) :: ([.fieldLink RX7 7 "FillCellsModel" "s" "[I"] ++ wsX70)
def wsX7_empties : List Cond := .code yX7_empties cX7_empties 3 (some .int) :: ([.fieldLink RX7 7 "FillCellsModel" "s" "[I", .methodLink RX7 68 yX7_aside, .instanceMethod yX7_aside, .selects RX7 yX7_aside yX7_aside, .initialized RX7, .code yX7_aside cX7_aside 2 none, .fieldLink RX7 16 "FillCellsModel" "kept" "[I", .methodLink RX7 71 yX7_keeps, .instanceMethod yX7_keeps, .selects RX7 yX7_keeps yX7_keeps, .code yX7_keeps cX7_keeps 2 none, .fieldLink RX7 53 "FillCellsModel" "known" "I", .fieldLink RX7 13 "FillCellsModel" "past" "[I", .methodLink RX7 86 yX7_fillOf, .instanceMethod yX7_fillOf, .selects RX7 yX7_fillOf yX7_fillOf, .code yX7_fillOf cX7_fillOf 3 (some .int)] ++ wsX70)
def wsX7_rules : List Cond := .code yX7_rules cX7_rules 5 (some .int) :: ([.fieldLink RX7 19 "FillCellsModel" "rules" "[I", .methodLink RX7 49 yX7_in, .static yX7_in, .initialized RX7, .code yX7_in cX7_in 3 (some .boolean), .methodLink RX7 65 yX7_refuses, .instanceMethod yX7_refuses, .selects RX7 yX7_refuses yX7_refuses, .code yX7_refuses cX7_refuses 2 (some .int), .fieldLink RX7 22 "FillCellsModel" "refused" "[I"] ++ wsX70)
def wsX7_has : List Cond := .code yX7_has cX7_has 3 (some .boolean) :: ([.fieldLink RX7 19 "FillCellsModel" "rules" "[I", .methodLink RX7 49 yX7_in, .static yX7_in, .initialized RX7, .code yX7_in cX7_in 3 (some .boolean)] ++ wsX70)
def wsX7_isWindow : List Cond := .code yX7_isWindow cX7_isWindow 2 (some .boolean) :: ([.fieldLink RX7 19 "FillCellsModel" "rules" "[I"] ++ wsX70)
def wsX7_laysSums : List Cond := .code yX7_laysSums cX7_laysSums 4 none :: ([.fieldLink RX7 28 "FillCellsModel" "sums" "[I", .fieldLink RX7 19 "FillCellsModel" "rules" "[I", .methodLink RX7 90 yX7_isWindow, .instanceMethod yX7_isWindow, .selects RX7 yX7_isWindow yX7_isWindow, .initialized RX7, .code yX7_isWindow cX7_isWindow 2 (some .boolean), .methodLink RX7 57 yX7_sumOf, .instanceMethod yX7_sumOf, .selects RX7 yX7_sumOf yX7_sumOf, .code yX7_sumOf cX7_sumOf 2 (some .int), .fieldLink RX7 7 "FillCellsModel" "s" "[I"] ++ wsX70)
def wsX7_isThin : List Cond := .code yX7_isThin cX7_isThin 2 (some .boolean) :: ([.fieldLink RX7 28 "FillCellsModel" "sums" "[I", .fieldLink RX7 19 "FillCellsModel" "rules" "[I"] ++ wsX70)
def wsX7_laysThin : List Cond := .code yX7_laysThin cX7_laysThin 3 none :: ([.fieldLink RX7 31 "FillCellsModel" "thin" "[I", .fieldLink RX7 19 "FillCellsModel" "rules" "[I", .methodLink RX7 93 yX7_isThin, .instanceMethod yX7_isThin, .selects RX7 yX7_isThin yX7_isThin, .initialized RX7, .code yX7_isThin cX7_isThin 2 (some .boolean), .fieldLink RX7 28 "FillCellsModel" "sums" "[I"] ++ wsX70)
def wsX7_liesBeside : List Cond := .code yX7_liesBeside cX7_liesBeside 4 (some .boolean) :: ([.fieldLink RX7 7 "FillCellsModel" "s" "[I"] ++ wsX70)
def wsX7_isBurden : List Cond := .code yX7_isBurden cX7_isBurden 3 (some .boolean) :: ([.fieldLink RX7 7 "FillCellsModel" "s" "[I", .methodLink RX7 96 yX7_liesBeside, .instanceMethod yX7_liesBeside, .selects RX7 yX7_liesBeside yX7_liesBeside, .initialized RX7, .code yX7_liesBeside cX7_liesBeside 4 (some .boolean)] ++ wsX70)
def wsX7_laysBurdens : List Cond := .code yX7_laysBurdens cX7_laysBurdens 3 none :: ([.fieldLink RX7 40 "FillCellsModel" "burdens" "[I", .fieldLink RX7 7 "FillCellsModel" "s" "[I", .methodLink RX7 100 yX7_isBurden, .instanceMethod yX7_isBurden, .selects RX7 yX7_isBurden yX7_isBurden, .initialized RX7, .code yX7_isBurden cX7_isBurden 3 (some .boolean), .methodLink RX7 96 yX7_liesBeside, .instanceMethod yX7_liesBeside, .selects RX7 yX7_liesBeside yX7_liesBeside, .code yX7_liesBeside cX7_liesBeside 4 (some .boolean)] ++ wsX70)
def wsX7_lays_r1 : List Cond := [Cond.methodLink RX7 103 yX7_laysSums, Cond.instanceMethod yX7_laysSums, Cond.selects RX7 yX7_laysSums yX7_laysSums, Cond.initialized RX7, Cond.code yX7_laysSums cX7_laysSums 4 none, Cond.fieldLink RX7 28 "FillCellsModel" "sums" "[I", Cond.fieldLink RX7 19 "FillCellsModel" "rules" "[I", Cond.methodLink RX7 90 yX7_isWindow, Cond.instanceMethod yX7_isWindow, Cond.selects RX7 yX7_isWindow yX7_isWindow, Cond.code yX7_isWindow cX7_isWindow 2 (some .boolean), Cond.methodLink RX7 57 yX7_sumOf, Cond.instanceMethod yX7_sumOf, Cond.selects RX7 yX7_sumOf yX7_sumOf, Cond.code yX7_sumOf cX7_sumOf 2 (some .int), Cond.fieldLink RX7 7 "FillCellsModel" "s" "[I", Cond.methodLink RX7 106 yX7_laysThin, Cond.instanceMethod yX7_laysThin, Cond.selects RX7 yX7_laysThin yX7_laysThin, Cond.code yX7_laysThin cX7_laysThin 3 none, Cond.fieldLink RX7 31 "FillCellsModel" "thin" "[I", Cond.methodLink RX7 93 yX7_isThin, Cond.instanceMethod yX7_isThin, Cond.selects RX7 yX7_isThin yX7_isThin]
def wsX7_lays_r2 : List Cond := [Cond.code yX7_isThin cX7_isThin 2 (some .boolean), Cond.methodLink RX7 109 yX7_laysBurdens, Cond.instanceMethod yX7_laysBurdens, Cond.selects RX7 yX7_laysBurdens yX7_laysBurdens, Cond.code yX7_laysBurdens cX7_laysBurdens 3 none, Cond.fieldLink RX7 40 "FillCellsModel" "burdens" "[I", Cond.methodLink RX7 100 yX7_isBurden, Cond.instanceMethod yX7_isBurden, Cond.selects RX7 yX7_isBurden yX7_isBurden, Cond.code yX7_isBurden cX7_isBurden 3 (some .boolean), Cond.methodLink RX7 96 yX7_liesBeside, Cond.instanceMethod yX7_liesBeside, Cond.selects RX7 yX7_liesBeside yX7_liesBeside, Cond.code yX7_liesBeside cX7_liesBeside 4 (some .boolean)]
def wsX7_lays : List Cond := .code yX7_lays cX7_lays 1 none :: ((wsX7_lays_r1 ++ wsX7_lays_r2) ++ wsX70)
def wsX7_marks : List Cond := .code yX7_marks cX7_marks 4 none :: ([.fieldLink RX7 7 "FillCellsModel" "s" "[I", .fieldLink RX7 112 "FillCellsModel" "size" "I", .fieldLink RX7 34 "FillCellsModel" "family" "[I", .fieldLink RX7 37 "FillCellsModel" "members" "[I"] ++ wsX70)
def wsX7_manyIn : List Cond := .code yX7_manyIn cX7_manyIn 4 (some .int) :: ([.fieldLink RX7 19 "FillCellsModel" "rules" "[I", .fieldLink RX7 34 "FillCellsModel" "family" "[I"] ++ wsX70)
def wsX7_may_r1 : List Cond := [Cond.fieldLink RX7 43 "FillCellsModel" "more" "[I", Cond.fieldLink RX7 112 "FillCellsModel" "size" "I", Cond.fieldLink RX7 37 "FillCellsModel" "members" "[I", Cond.fieldLink RX7 40 "FillCellsModel" "burdens" "[I", Cond.fieldLink RX7 19 "FillCellsModel" "rules" "[I", Cond.fieldLink RX7 7 "FillCellsModel" "s" "[I", Cond.fieldLink RX7 28 "FillCellsModel" "sums" "[I", Cond.methodLink RX7 115 yX7_marks, Cond.instanceMethod yX7_marks, Cond.selects RX7 yX7_marks yX7_marks, Cond.initialized RX7, Cond.code yX7_marks cX7_marks 4 none, Cond.fieldLink RX7 34 "FillCellsModel" "family" "[I", Cond.methodLink RX7 100 yX7_isBurden, Cond.instanceMethod yX7_isBurden, Cond.selects RX7 yX7_isBurden yX7_isBurden, Cond.code yX7_isBurden cX7_isBurden 3 (some .boolean), Cond.methodLink RX7 96 yX7_liesBeside, Cond.instanceMethod yX7_liesBeside, Cond.selects RX7 yX7_liesBeside yX7_liesBeside, Cond.code yX7_liesBeside cX7_liesBeside 4 (some .boolean), Cond.methodLink RX7 57 yX7_sumOf, Cond.instanceMethod yX7_sumOf, Cond.selects RX7 yX7_sumOf yX7_sumOf]
def wsX7_may_r2 : List Cond := [Cond.code yX7_sumOf cX7_sumOf 2 (some .int), Cond.methodLink RX7 119 yX7_manyIn, Cond.instanceMethod yX7_manyIn, Cond.selects RX7 yX7_manyIn yX7_manyIn, Cond.code yX7_manyIn cX7_manyIn 4 (some .int)]
def wsX7_may : List Cond := .code yX7_may cX7_may 5 (some .boolean) :: ((wsX7_may_r1 ++ wsX7_may_r2) ++ wsX70)
def wsX7_of_r1 : List Cond := [Cond.fieldLink RX7 7 "FillCellsModel" "s" "[I", Cond.fieldLink RX7 31 "FillCellsModel" "thin" "[I", Cond.methodLink RX7 61 yX7_isCell, Cond.static yX7_isCell, Cond.initialized RX7, Cond.code yX7_isCell cX7_isCell 1 (some .boolean), Cond.methodLink RX7 49 yX7_in, Cond.static yX7_in, Cond.code yX7_in cX7_in 3 (some .boolean), Cond.methodLink RX7 65 yX7_refuses, Cond.instanceMethod yX7_refuses, Cond.selects RX7 yX7_refuses yX7_refuses, Cond.code yX7_refuses cX7_refuses 2 (some .int), Cond.fieldLink RX7 22 "FillCellsModel" "refused" "[I", Cond.methodLink RX7 122 yX7_lays, Cond.instanceMethod yX7_lays, Cond.selects RX7 yX7_lays yX7_lays, Cond.code yX7_lays cX7_lays 1 none, Cond.methodLink RX7 103 yX7_laysSums, Cond.instanceMethod yX7_laysSums, Cond.selects RX7 yX7_laysSums yX7_laysSums, Cond.code yX7_laysSums cX7_laysSums 4 none, Cond.fieldLink RX7 28 "FillCellsModel" "sums" "[I", Cond.fieldLink RX7 19 "FillCellsModel" "rules" "[I"]
def wsX7_of_r2 : List Cond := [Cond.methodLink RX7 90 yX7_isWindow, Cond.instanceMethod yX7_isWindow, Cond.selects RX7 yX7_isWindow yX7_isWindow, Cond.code yX7_isWindow cX7_isWindow 2 (some .boolean), Cond.methodLink RX7 57 yX7_sumOf, Cond.instanceMethod yX7_sumOf, Cond.selects RX7 yX7_sumOf yX7_sumOf, Cond.code yX7_sumOf cX7_sumOf 2 (some .int), Cond.methodLink RX7 106 yX7_laysThin, Cond.instanceMethod yX7_laysThin, Cond.selects RX7 yX7_laysThin yX7_laysThin, Cond.code yX7_laysThin cX7_laysThin 3 none, Cond.methodLink RX7 93 yX7_isThin, Cond.instanceMethod yX7_isThin, Cond.selects RX7 yX7_isThin yX7_isThin, Cond.code yX7_isThin cX7_isThin 2 (some .boolean), Cond.methodLink RX7 109 yX7_laysBurdens, Cond.instanceMethod yX7_laysBurdens, Cond.selects RX7 yX7_laysBurdens yX7_laysBurdens, Cond.code yX7_laysBurdens cX7_laysBurdens 3 none, Cond.fieldLink RX7 40 "FillCellsModel" "burdens" "[I", Cond.methodLink RX7 100 yX7_isBurden, Cond.instanceMethod yX7_isBurden, Cond.selects RX7 yX7_isBurden yX7_isBurden]
def wsX7_of_r3 : List Cond := [Cond.code yX7_isBurden cX7_isBurden 3 (some .boolean), Cond.methodLink RX7 96 yX7_liesBeside, Cond.instanceMethod yX7_liesBeside, Cond.selects RX7 yX7_liesBeside yX7_liesBeside, Cond.code yX7_liesBeside cX7_liesBeside 4 (some .boolean), Cond.methodLink RX7 125 yX7_may, Cond.instanceMethod yX7_may, Cond.selects RX7 yX7_may yX7_may, Cond.code yX7_may cX7_may 5 (some .boolean), Cond.fieldLink RX7 43 "FillCellsModel" "more" "[I", Cond.fieldLink RX7 112 "FillCellsModel" "size" "I", Cond.fieldLink RX7 37 "FillCellsModel" "members" "[I", Cond.methodLink RX7 115 yX7_marks, Cond.instanceMethod yX7_marks, Cond.selects RX7 yX7_marks yX7_marks, Cond.code yX7_marks cX7_marks 4 none, Cond.fieldLink RX7 34 "FillCellsModel" "family" "[I", Cond.methodLink RX7 119 yX7_manyIn, Cond.instanceMethod yX7_manyIn, Cond.selects RX7 yX7_manyIn yX7_manyIn, Cond.code yX7_manyIn cX7_manyIn 4 (some .int)]
def wsX7_of : List Cond := .code yX7_of cX7_of 3 (some .int) :: ((wsX7_of_r1 ++ (wsX7_of_r2 ++ wsX7_of_r3)) ++ wsX70)
def wsX7_sum_r1 : List Cond := [Cond.fieldLink RX7 28 "FillCellsModel" "sums" "[I", Cond.methodLink RX7 103 yX7_laysSums, Cond.instanceMethod yX7_laysSums, Cond.selects RX7 yX7_laysSums yX7_laysSums, Cond.initialized RX7, Cond.code yX7_laysSums cX7_laysSums 4 none, Cond.fieldLink RX7 19 "FillCellsModel" "rules" "[I", Cond.methodLink RX7 90 yX7_isWindow, Cond.instanceMethod yX7_isWindow, Cond.selects RX7 yX7_isWindow yX7_isWindow, Cond.code yX7_isWindow cX7_isWindow 2 (some .boolean), Cond.methodLink RX7 57 yX7_sumOf, Cond.instanceMethod yX7_sumOf, Cond.selects RX7 yX7_sumOf yX7_sumOf, Cond.code yX7_sumOf cX7_sumOf 2 (some .int), Cond.fieldLink RX7 7 "FillCellsModel" "s" "[I", Cond.methodLink RX7 61 yX7_isCell, Cond.static yX7_isCell, Cond.code yX7_isCell cX7_isCell 1 (some .boolean), Cond.methodLink RX7 49 yX7_in, Cond.static yX7_in, Cond.code yX7_in cX7_in 3 (some .boolean), Cond.methodLink RX7 65 yX7_refuses, Cond.instanceMethod yX7_refuses]
def wsX7_sum_r2 : List Cond := [Cond.selects RX7 yX7_refuses yX7_refuses, Cond.code yX7_refuses cX7_refuses 2 (some .int), Cond.fieldLink RX7 22 "FillCellsModel" "refused" "[I"]
def wsX7_sum : List Cond := .code yX7_sum cX7_sum 2 (some .int) :: ((wsX7_sum_r1 ++ wsX7_sum_r2) ++ wsX70)
def wsX7_windowsNow : List Cond := .code yX7_windowsNow cX7_windowsNow 6 (some .int) :: ([.fieldLink RX7 28 "FillCellsModel" "sums" "[I", .fieldLink RX7 19 "FillCellsModel" "rules" "[I", .methodLink RX7 93 yX7_isThin, .instanceMethod yX7_isThin, .selects RX7 yX7_isThin yX7_isThin, .initialized RX7, .code yX7_isThin cX7_isThin 2 (some .boolean)] ++ wsX70)
def wsX7_windows_r1 : List Cond := [Cond.methodLink RX7 103 yX7_laysSums, Cond.instanceMethod yX7_laysSums, Cond.selects RX7 yX7_laysSums yX7_laysSums, Cond.initialized RX7, Cond.code yX7_laysSums cX7_laysSums 4 none, Cond.fieldLink RX7 28 "FillCellsModel" "sums" "[I", Cond.fieldLink RX7 19 "FillCellsModel" "rules" "[I", Cond.methodLink RX7 90 yX7_isWindow, Cond.instanceMethod yX7_isWindow, Cond.selects RX7 yX7_isWindow yX7_isWindow, Cond.code yX7_isWindow cX7_isWindow 2 (some .boolean), Cond.methodLink RX7 57 yX7_sumOf, Cond.instanceMethod yX7_sumOf, Cond.selects RX7 yX7_sumOf yX7_sumOf, Cond.code yX7_sumOf cX7_sumOf 2 (some .int), Cond.fieldLink RX7 7 "FillCellsModel" "s" "[I", Cond.methodLink RX7 49 yX7_in, Cond.static yX7_in, Cond.code yX7_in cX7_in 3 (some .boolean), Cond.methodLink RX7 128 yX7_windowsNow, Cond.instanceMethod yX7_windowsNow, Cond.selects RX7 yX7_windowsNow yX7_windowsNow, Cond.code yX7_windowsNow cX7_windowsNow 6 (some .int), Cond.methodLink RX7 93 yX7_isThin]
def wsX7_windows_r2 : List Cond := [Cond.instanceMethod yX7_isThin, Cond.selects RX7 yX7_isThin yX7_isThin, Cond.code yX7_isThin cX7_isThin 2 (some .boolean), Cond.methodLink RX7 65 yX7_refuses, Cond.instanceMethod yX7_refuses, Cond.selects RX7 yX7_refuses yX7_refuses, Cond.code yX7_refuses cX7_refuses 2 (some .int), Cond.fieldLink RX7 22 "FillCellsModel" "refused" "[I"]
def wsX7_windows : List Cond := .code yX7_windows cX7_windows 2 (some .int) :: ((wsX7_windows_r1 ++ wsX7_windows_r2) ++ wsX70)
def wsX7_worst : List Cond := .code yX7_worst cX7_worst 5 (some .int) :: ([.fieldLink RX7 28 "FillCellsModel" "sums" "[I", .methodLink RX7 49 yX7_in, .static yX7_in, .initialized RX7, .code yX7_in cX7_in 3 (some .boolean), .methodLink RX7 65 yX7_refuses, .instanceMethod yX7_refuses, .selects RX7 yX7_refuses yX7_refuses, .code yX7_refuses cX7_refuses 2 (some .int), .fieldLink RX7 22 "FillCellsModel" "refused" "[I", .methodLink RX7 103 yX7_laysSums, .instanceMethod yX7_laysSums, .selects RX7 yX7_laysSums yX7_laysSums, .code yX7_laysSums cX7_laysSums 4 none, .fieldLink RX7 19 "FillCellsModel" "rules" "[I", .methodLink RX7 90 yX7_isWindow, .instanceMethod yX7_isWindow, .selects RX7 yX7_isWindow yX7_isWindow, .code yX7_isWindow cX7_isWindow 2 (some .boolean), .methodLink RX7 57 yX7_sumOf, .instanceMethod yX7_sumOf, .selects RX7 yX7_sumOf yX7_sumOf, .code yX7_sumOf cX7_sumOf 2 (some .int), .fieldLink RX7 7 "FillCellsModel" "s" "[I"] ++ wsX70)
def wsX7_lessThan : List Cond := .code yX7_lessThan cX7_lessThan 7 (some .int) :: ([.fieldLink RX7 28 "FillCellsModel" "sums" "[I"] ++ wsX70)
def wsX7_order_r1 : List Cond := [Cond.fieldLink RX7 28 "FillCellsModel" "sums" "[I", Cond.methodLink RX7 49 yX7_in, Cond.static yX7_in, Cond.initialized RX7, Cond.code yX7_in cX7_in 3 (some .boolean), Cond.methodLink RX7 65 yX7_refuses, Cond.instanceMethod yX7_refuses, Cond.selects RX7 yX7_refuses yX7_refuses, Cond.code yX7_refuses cX7_refuses 2 (some .int), Cond.fieldLink RX7 22 "FillCellsModel" "refused" "[I", Cond.methodLink RX7 103 yX7_laysSums, Cond.instanceMethod yX7_laysSums, Cond.selects RX7 yX7_laysSums yX7_laysSums, Cond.code yX7_laysSums cX7_laysSums 4 none, Cond.fieldLink RX7 19 "FillCellsModel" "rules" "[I", Cond.methodLink RX7 90 yX7_isWindow, Cond.instanceMethod yX7_isWindow, Cond.selects RX7 yX7_isWindow yX7_isWindow, Cond.code yX7_isWindow cX7_isWindow 2 (some .boolean), Cond.methodLink RX7 57 yX7_sumOf, Cond.instanceMethod yX7_sumOf, Cond.selects RX7 yX7_sumOf yX7_sumOf, Cond.code yX7_sumOf cX7_sumOf 2 (some .int), Cond.fieldLink RX7 7 "FillCellsModel" "s" "[I"]
def wsX7_order_r2 : List Cond := [Cond.methodLink RX7 131 yX7_lessThan, Cond.instanceMethod yX7_lessThan, Cond.selects RX7 yX7_lessThan yX7_lessThan, Cond.code yX7_lessThan cX7_lessThan 7 (some .int)]
def wsX7_order : List Cond := .code yX7_order cX7_order 6 (some .int) :: ((wsX7_order_r1 ++ wsX7_order_r2) ++ wsX70)
def wsX7_turn_r1 : List Cond := [Cond.fieldLink RX7 28 "FillCellsModel" "sums" "[I", Cond.methodLink RX7 65 yX7_refuses, Cond.instanceMethod yX7_refuses, Cond.selects RX7 yX7_refuses yX7_refuses, Cond.initialized RX7, Cond.code yX7_refuses cX7_refuses 2 (some .int), Cond.fieldLink RX7 22 "FillCellsModel" "refused" "[I", Cond.methodLink RX7 103 yX7_laysSums, Cond.instanceMethod yX7_laysSums, Cond.selects RX7 yX7_laysSums yX7_laysSums, Cond.code yX7_laysSums cX7_laysSums 4 none, Cond.fieldLink RX7 19 "FillCellsModel" "rules" "[I", Cond.methodLink RX7 90 yX7_isWindow, Cond.instanceMethod yX7_isWindow, Cond.selects RX7 yX7_isWindow yX7_isWindow, Cond.code yX7_isWindow cX7_isWindow 2 (some .boolean), Cond.methodLink RX7 57 yX7_sumOf, Cond.instanceMethod yX7_sumOf, Cond.selects RX7 yX7_sumOf yX7_sumOf, Cond.code yX7_sumOf cX7_sumOf 2 (some .int), Cond.fieldLink RX7 7 "FillCellsModel" "s" "[I", Cond.methodLink RX7 131 yX7_lessThan, Cond.instanceMethod yX7_lessThan, Cond.selects RX7 yX7_lessThan yX7_lessThan]
def wsX7_turn_r2 : List Cond := [Cond.code yX7_lessThan cX7_lessThan 7 (some .int)]
def wsX7_turn : List Cond := .code yX7_turn cX7_turn 6 (some .int) :: ((wsX7_turn_r1 ++ wsX7_turn_r2) ++ wsX70)
def wsX7_burden : List Cond := .code yX7_burden cX7_burden 2 (some .int) :: ([.fieldLink RX7 40 "FillCellsModel" "burdens" "[I", .methodLink RX7 109 yX7_laysBurdens, .instanceMethod yX7_laysBurdens, .selects RX7 yX7_laysBurdens yX7_laysBurdens, .initialized RX7, .code yX7_laysBurdens cX7_laysBurdens 3 none, .fieldLink RX7 7 "FillCellsModel" "s" "[I", .methodLink RX7 100 yX7_isBurden, .instanceMethod yX7_isBurden, .selects RX7 yX7_isBurden yX7_isBurden, .code yX7_isBurden cX7_isBurden 3 (some .boolean), .methodLink RX7 96 yX7_liesBeside, .instanceMethod yX7_liesBeside, .selects RX7 yX7_liesBeside yX7_liesBeside, .code yX7_liesBeside cX7_liesBeside 4 (some .boolean), .methodLink RX7 49 yX7_in, .static yX7_in, .code yX7_in cX7_in 3 (some .boolean), .methodLink RX7 65 yX7_refuses, .instanceMethod yX7_refuses, .selects RX7 yX7_refuses yX7_refuses, .code yX7_refuses cX7_refuses 2 (some .int), .fieldLink RX7 22 "FillCellsModel" "refused" "[I"] ++ wsX70)
def wsX7_all : List Cond := .code yX7_all cX7_all 4 (some .int) :: ([.fieldLink RX7 7 "FillCellsModel" "s" "[I", .methodLink RX7 49 yX7_in, .static yX7_in, .initialized RX7, .code yX7_in cX7_in 3 (some .boolean), .methodLink RX7 65 yX7_refuses, .instanceMethod yX7_refuses, .selects RX7 yX7_refuses yX7_refuses, .code yX7_refuses cX7_refuses 2 (some .int), .fieldLink RX7 22 "FillCellsModel" "refused" "[I"] ++ wsX70)
def wsX7_fills : List Cond := .code yX7_fills cX7_fills 3 none :: ([.fieldLink RX7 7 "FillCellsModel" "s" "[I", .fieldLink RX7 34 "FillCellsModel" "family" "[I"] ++ wsX70)
def wsX7_more_r1 : List Cond := [Cond.fieldLink RX7 7 "FillCellsModel" "s" "[I", Cond.methodLink RX7 61 yX7_isCell, Cond.static yX7_isCell, Cond.initialized RX7, Cond.code yX7_isCell cX7_isCell 1 (some .boolean), Cond.methodLink RX7 49 yX7_in, Cond.static yX7_in, Cond.code yX7_in cX7_in 3 (some .boolean), Cond.methodLink RX7 65 yX7_refuses, Cond.instanceMethod yX7_refuses, Cond.selects RX7 yX7_refuses yX7_refuses, Cond.code yX7_refuses cX7_refuses 2 (some .int), Cond.fieldLink RX7 22 "FillCellsModel" "refused" "[I", Cond.methodLink RX7 122 yX7_lays, Cond.instanceMethod yX7_lays, Cond.selects RX7 yX7_lays yX7_lays, Cond.code yX7_lays cX7_lays 1 none, Cond.methodLink RX7 103 yX7_laysSums, Cond.instanceMethod yX7_laysSums, Cond.selects RX7 yX7_laysSums yX7_laysSums, Cond.code yX7_laysSums cX7_laysSums 4 none, Cond.fieldLink RX7 28 "FillCellsModel" "sums" "[I", Cond.fieldLink RX7 19 "FillCellsModel" "rules" "[I", Cond.methodLink RX7 90 yX7_isWindow]
def wsX7_more_r2 : List Cond := [Cond.instanceMethod yX7_isWindow, Cond.selects RX7 yX7_isWindow yX7_isWindow, Cond.code yX7_isWindow cX7_isWindow 2 (some .boolean), Cond.methodLink RX7 57 yX7_sumOf, Cond.instanceMethod yX7_sumOf, Cond.selects RX7 yX7_sumOf yX7_sumOf, Cond.code yX7_sumOf cX7_sumOf 2 (some .int), Cond.methodLink RX7 106 yX7_laysThin, Cond.instanceMethod yX7_laysThin, Cond.selects RX7 yX7_laysThin yX7_laysThin, Cond.code yX7_laysThin cX7_laysThin 3 none, Cond.fieldLink RX7 31 "FillCellsModel" "thin" "[I", Cond.methodLink RX7 93 yX7_isThin, Cond.instanceMethod yX7_isThin, Cond.selects RX7 yX7_isThin yX7_isThin, Cond.code yX7_isThin cX7_isThin 2 (some .boolean), Cond.methodLink RX7 109 yX7_laysBurdens, Cond.instanceMethod yX7_laysBurdens, Cond.selects RX7 yX7_laysBurdens yX7_laysBurdens, Cond.code yX7_laysBurdens cX7_laysBurdens 3 none, Cond.fieldLink RX7 40 "FillCellsModel" "burdens" "[I", Cond.methodLink RX7 100 yX7_isBurden, Cond.instanceMethod yX7_isBurden, Cond.selects RX7 yX7_isBurden yX7_isBurden]
def wsX7_more_r3 : List Cond := [Cond.code yX7_isBurden cX7_isBurden 3 (some .boolean), Cond.methodLink RX7 96 yX7_liesBeside, Cond.instanceMethod yX7_liesBeside, Cond.selects RX7 yX7_liesBeside yX7_liesBeside, Cond.code yX7_liesBeside cX7_liesBeside 4 (some .boolean), Cond.methodLink RX7 125 yX7_may, Cond.instanceMethod yX7_may, Cond.selects RX7 yX7_may yX7_may, Cond.code yX7_may cX7_may 5 (some .boolean), Cond.fieldLink RX7 43 "FillCellsModel" "more" "[I", Cond.fieldLink RX7 112 "FillCellsModel" "size" "I", Cond.fieldLink RX7 37 "FillCellsModel" "members" "[I", Cond.methodLink RX7 115 yX7_marks, Cond.instanceMethod yX7_marks, Cond.selects RX7 yX7_marks yX7_marks, Cond.code yX7_marks cX7_marks 4 none, Cond.fieldLink RX7 34 "FillCellsModel" "family" "[I", Cond.methodLink RX7 119 yX7_manyIn, Cond.instanceMethod yX7_manyIn, Cond.selects RX7 yX7_manyIn yX7_manyIn, Cond.code yX7_manyIn cX7_manyIn 4 (some .int), Cond.methodLink RX7 68 yX7_aside, Cond.instanceMethod yX7_aside, Cond.selects RX7 yX7_aside yX7_aside]
def wsX7_more_r4 : List Cond := [Cond.code yX7_aside cX7_aside 2 none, Cond.fieldLink RX7 16 "FillCellsModel" "kept" "[I", Cond.methodLink RX7 71 yX7_keeps, Cond.instanceMethod yX7_keeps, Cond.selects RX7 yX7_keeps yX7_keeps, Cond.code yX7_keeps cX7_keeps 2 none, Cond.fieldLink RX7 53 "FillCellsModel" "known" "I", Cond.fieldLink RX7 13 "FillCellsModel" "past" "[I", Cond.methodLink RX7 135 yX7_fills, Cond.instanceMethod yX7_fills, Cond.selects RX7 yX7_fills yX7_fills, Cond.code yX7_fills cX7_fills 3 none]
def wsX7_more : List Cond := .code yX7_more cX7_more 2 (some .int) :: ((wsX7_more_r1 ++ (wsX7_more_r2 ++ (wsX7_more_r3 ++ wsX7_more_r4))) ++ wsX70)
def wsX7_less_r1 : List Cond := [Cond.fieldLink RX7 7 "FillCellsModel" "s" "[I", Cond.methodLink RX7 61 yX7_isCell, Cond.static yX7_isCell, Cond.initialized RX7, Cond.code yX7_isCell cX7_isCell 1 (some .boolean), Cond.methodLink RX7 49 yX7_in, Cond.static yX7_in, Cond.code yX7_in cX7_in 3 (some .boolean), Cond.methodLink RX7 65 yX7_refuses, Cond.instanceMethod yX7_refuses, Cond.selects RX7 yX7_refuses yX7_refuses, Cond.code yX7_refuses cX7_refuses 2 (some .int), Cond.fieldLink RX7 22 "FillCellsModel" "refused" "[I", Cond.methodLink RX7 68 yX7_aside, Cond.instanceMethod yX7_aside, Cond.selects RX7 yX7_aside yX7_aside, Cond.code yX7_aside cX7_aside 2 none, Cond.fieldLink RX7 16 "FillCellsModel" "kept" "[I", Cond.methodLink RX7 71 yX7_keeps, Cond.instanceMethod yX7_keeps, Cond.selects RX7 yX7_keeps yX7_keeps, Cond.code yX7_keeps cX7_keeps 2 none, Cond.fieldLink RX7 53 "FillCellsModel" "known" "I", Cond.fieldLink RX7 13 "FillCellsModel" "past" "[I"]
def wsX7_less_r2 : List Cond := [Cond.methodLink RX7 115 yX7_marks, Cond.instanceMethod yX7_marks, Cond.selects RX7 yX7_marks yX7_marks, Cond.code yX7_marks cX7_marks 4 none, Cond.fieldLink RX7 112 "FillCellsModel" "size" "I", Cond.fieldLink RX7 34 "FillCellsModel" "family" "[I", Cond.fieldLink RX7 37 "FillCellsModel" "members" "[I", Cond.methodLink RX7 135 yX7_fills, Cond.instanceMethod yX7_fills, Cond.selects RX7 yX7_fills yX7_fills, Cond.code yX7_fills cX7_fills 3 none]
def wsX7_less : List Cond := .code yX7_less cX7_less 2 (some .int) :: ((wsX7_less_r1 ++ wsX7_less_r2) ++ wsX70)
def wsX7_reaches : List Cond := .code yX7_reaches cX7_reaches 4 (some .boolean) :: ([.fieldLink RX7 112 "FillCellsModel" "size" "I", .fieldLink RX7 31 "FillCellsModel" "thin" "[I", .fieldLink RX7 37 "FillCellsModel" "members" "[I", .methodLink RX7 138 yX7_has, .instanceMethod yX7_has, .selects RX7 yX7_has yX7_has, .initialized RX7, .code yX7_has cX7_has 3 (some .boolean), .fieldLink RX7 19 "FillCellsModel" "rules" "[I", .methodLink RX7 49 yX7_in, .static yX7_in, .code yX7_in cX7_in 3 (some .boolean)] ++ wsX70)
def wsX7_thinnest : List Cond := .code yX7_thinnest cX7_thinnest 3 (some .int) :: ([.fieldLink RX7 28 "FillCellsModel" "sums" "[I", .methodLink RX7 93 yX7_isThin, .instanceMethod yX7_isThin, .selects RX7 yX7_isThin yX7_isThin, .initialized RX7, .code yX7_isThin cX7_isThin 2 (some .boolean), .fieldLink RX7 19 "FillCellsModel" "rules" "[I"] ++ wsX70)
def wsX7_keyBy : List Cond := .code yX7_keyBy cX7_keyBy 3 (some .int) :: ([.fieldLink RX7 31 "FillCellsModel" "thin" "[I", .fieldLink RX7 43 "FillCellsModel" "more" "[I", .methodLink RX7 57 yX7_sumOf, .instanceMethod yX7_sumOf, .selects RX7 yX7_sumOf yX7_sumOf, .initialized RX7, .code yX7_sumOf cX7_sumOf 2 (some .int), .fieldLink RX7 7 "FillCellsModel" "s" "[I"] ++ wsX70)
def wsX7_nextBy_r1 : List Cond := [Cond.methodLink RX7 122 yX7_lays, Cond.instanceMethod yX7_lays, Cond.selects RX7 yX7_lays yX7_lays, Cond.initialized RX7, Cond.code yX7_lays cX7_lays 1 none, Cond.methodLink RX7 103 yX7_laysSums, Cond.instanceMethod yX7_laysSums, Cond.selects RX7 yX7_laysSums yX7_laysSums, Cond.code yX7_laysSums cX7_laysSums 4 none, Cond.fieldLink RX7 28 "FillCellsModel" "sums" "[I", Cond.fieldLink RX7 19 "FillCellsModel" "rules" "[I", Cond.methodLink RX7 90 yX7_isWindow, Cond.instanceMethod yX7_isWindow, Cond.selects RX7 yX7_isWindow yX7_isWindow, Cond.code yX7_isWindow cX7_isWindow 2 (some .boolean), Cond.methodLink RX7 57 yX7_sumOf, Cond.instanceMethod yX7_sumOf, Cond.selects RX7 yX7_sumOf yX7_sumOf, Cond.code yX7_sumOf cX7_sumOf 2 (some .int), Cond.fieldLink RX7 7 "FillCellsModel" "s" "[I", Cond.methodLink RX7 106 yX7_laysThin, Cond.instanceMethod yX7_laysThin, Cond.selects RX7 yX7_laysThin yX7_laysThin, Cond.code yX7_laysThin cX7_laysThin 3 none]
def wsX7_nextBy_r2 : List Cond := [Cond.fieldLink RX7 31 "FillCellsModel" "thin" "[I", Cond.methodLink RX7 93 yX7_isThin, Cond.instanceMethod yX7_isThin, Cond.selects RX7 yX7_isThin yX7_isThin, Cond.code yX7_isThin cX7_isThin 2 (some .boolean), Cond.methodLink RX7 109 yX7_laysBurdens, Cond.instanceMethod yX7_laysBurdens, Cond.selects RX7 yX7_laysBurdens yX7_laysBurdens, Cond.code yX7_laysBurdens cX7_laysBurdens 3 none, Cond.fieldLink RX7 40 "FillCellsModel" "burdens" "[I", Cond.methodLink RX7 100 yX7_isBurden, Cond.instanceMethod yX7_isBurden, Cond.selects RX7 yX7_isBurden yX7_isBurden, Cond.code yX7_isBurden cX7_isBurden 3 (some .boolean), Cond.methodLink RX7 96 yX7_liesBeside, Cond.instanceMethod yX7_liesBeside, Cond.selects RX7 yX7_liesBeside yX7_liesBeside, Cond.code yX7_liesBeside cX7_liesBeside 4 (some .boolean), Cond.methodLink RX7 141 yX7_thinnest, Cond.instanceMethod yX7_thinnest, Cond.selects RX7 yX7_thinnest yX7_thinnest, Cond.code yX7_thinnest cX7_thinnest 3 (some .int), Cond.methodLink RX7 125 yX7_may, Cond.instanceMethod yX7_may]
def wsX7_nextBy_r3 : List Cond := [Cond.selects RX7 yX7_may yX7_may, Cond.code yX7_may cX7_may 5 (some .boolean), Cond.fieldLink RX7 43 "FillCellsModel" "more" "[I", Cond.fieldLink RX7 112 "FillCellsModel" "size" "I", Cond.fieldLink RX7 37 "FillCellsModel" "members" "[I", Cond.methodLink RX7 115 yX7_marks, Cond.instanceMethod yX7_marks, Cond.selects RX7 yX7_marks yX7_marks, Cond.code yX7_marks cX7_marks 4 none, Cond.fieldLink RX7 34 "FillCellsModel" "family" "[I", Cond.methodLink RX7 119 yX7_manyIn, Cond.instanceMethod yX7_manyIn, Cond.selects RX7 yX7_manyIn yX7_manyIn, Cond.code yX7_manyIn cX7_manyIn 4 (some .int), Cond.methodLink RX7 144 yX7_reaches, Cond.instanceMethod yX7_reaches, Cond.selects RX7 yX7_reaches yX7_reaches, Cond.code yX7_reaches cX7_reaches 4 (some .boolean), Cond.methodLink RX7 138 yX7_has, Cond.instanceMethod yX7_has, Cond.selects RX7 yX7_has yX7_has, Cond.code yX7_has cX7_has 3 (some .boolean), Cond.methodLink RX7 49 yX7_in, Cond.static yX7_in]
def wsX7_nextBy_r4 : List Cond := [Cond.code yX7_in cX7_in 3 (some .boolean), Cond.methodLink RX7 147 yX7_keyBy, Cond.instanceMethod yX7_keyBy, Cond.selects RX7 yX7_keyBy yX7_keyBy, Cond.code yX7_keyBy cX7_keyBy 3 (some .int)]
def wsX7_nextBy : List Cond := .code yX7_nextBy cX7_nextBy 7 (some .int) :: ((wsX7_nextBy_r1 ++ (wsX7_nextBy_r2 ++ (wsX7_nextBy_r3 ++ wsX7_nextBy_r4))) ++ wsX70)
def wsX7_next_r1 : List Cond := [Cond.fieldLink RX7 19 "FillCellsModel" "rules" "[I", Cond.methodLink RX7 151 yX7_nextBy, Cond.instanceMethod yX7_nextBy, Cond.selects RX7 yX7_nextBy yX7_nextBy, Cond.initialized RX7, Cond.code yX7_nextBy cX7_nextBy 7 (some .int), Cond.methodLink RX7 122 yX7_lays, Cond.instanceMethod yX7_lays, Cond.selects RX7 yX7_lays yX7_lays, Cond.code yX7_lays cX7_lays 1 none, Cond.methodLink RX7 103 yX7_laysSums, Cond.instanceMethod yX7_laysSums, Cond.selects RX7 yX7_laysSums yX7_laysSums, Cond.code yX7_laysSums cX7_laysSums 4 none, Cond.fieldLink RX7 28 "FillCellsModel" "sums" "[I", Cond.methodLink RX7 90 yX7_isWindow, Cond.instanceMethod yX7_isWindow, Cond.selects RX7 yX7_isWindow yX7_isWindow, Cond.code yX7_isWindow cX7_isWindow 2 (some .boolean), Cond.methodLink RX7 57 yX7_sumOf, Cond.instanceMethod yX7_sumOf, Cond.selects RX7 yX7_sumOf yX7_sumOf, Cond.code yX7_sumOf cX7_sumOf 2 (some .int), Cond.fieldLink RX7 7 "FillCellsModel" "s" "[I"]
def wsX7_next_r2 : List Cond := [Cond.methodLink RX7 106 yX7_laysThin, Cond.instanceMethod yX7_laysThin, Cond.selects RX7 yX7_laysThin yX7_laysThin, Cond.code yX7_laysThin cX7_laysThin 3 none, Cond.fieldLink RX7 31 "FillCellsModel" "thin" "[I", Cond.methodLink RX7 93 yX7_isThin, Cond.instanceMethod yX7_isThin, Cond.selects RX7 yX7_isThin yX7_isThin, Cond.code yX7_isThin cX7_isThin 2 (some .boolean), Cond.methodLink RX7 109 yX7_laysBurdens, Cond.instanceMethod yX7_laysBurdens, Cond.selects RX7 yX7_laysBurdens yX7_laysBurdens, Cond.code yX7_laysBurdens cX7_laysBurdens 3 none, Cond.fieldLink RX7 40 "FillCellsModel" "burdens" "[I", Cond.methodLink RX7 100 yX7_isBurden, Cond.instanceMethod yX7_isBurden, Cond.selects RX7 yX7_isBurden yX7_isBurden, Cond.code yX7_isBurden cX7_isBurden 3 (some .boolean), Cond.methodLink RX7 96 yX7_liesBeside, Cond.instanceMethod yX7_liesBeside, Cond.selects RX7 yX7_liesBeside yX7_liesBeside, Cond.code yX7_liesBeside cX7_liesBeside 4 (some .boolean), Cond.methodLink RX7 141 yX7_thinnest, Cond.instanceMethod yX7_thinnest]
def wsX7_next_r3 : List Cond := [Cond.selects RX7 yX7_thinnest yX7_thinnest, Cond.code yX7_thinnest cX7_thinnest 3 (some .int), Cond.methodLink RX7 125 yX7_may, Cond.instanceMethod yX7_may, Cond.selects RX7 yX7_may yX7_may, Cond.code yX7_may cX7_may 5 (some .boolean), Cond.fieldLink RX7 43 "FillCellsModel" "more" "[I", Cond.fieldLink RX7 112 "FillCellsModel" "size" "I", Cond.fieldLink RX7 37 "FillCellsModel" "members" "[I", Cond.methodLink RX7 115 yX7_marks, Cond.instanceMethod yX7_marks, Cond.selects RX7 yX7_marks yX7_marks, Cond.code yX7_marks cX7_marks 4 none, Cond.fieldLink RX7 34 "FillCellsModel" "family" "[I", Cond.methodLink RX7 119 yX7_manyIn, Cond.instanceMethod yX7_manyIn, Cond.selects RX7 yX7_manyIn yX7_manyIn, Cond.code yX7_manyIn cX7_manyIn 4 (some .int), Cond.methodLink RX7 144 yX7_reaches, Cond.instanceMethod yX7_reaches, Cond.selects RX7 yX7_reaches yX7_reaches, Cond.code yX7_reaches cX7_reaches 4 (some .boolean), Cond.methodLink RX7 138 yX7_has, Cond.instanceMethod yX7_has]
def wsX7_next_r4 : List Cond := [Cond.selects RX7 yX7_has yX7_has, Cond.code yX7_has cX7_has 3 (some .boolean), Cond.methodLink RX7 49 yX7_in, Cond.static yX7_in, Cond.code yX7_in cX7_in 3 (some .boolean), Cond.methodLink RX7 147 yX7_keyBy, Cond.instanceMethod yX7_keyBy, Cond.selects RX7 yX7_keyBy yX7_keyBy, Cond.code yX7_keyBy cX7_keyBy 3 (some .int)]
def wsX7_next : List Cond := .code yX7_next cX7_next 1 (some .int) :: ((wsX7_next_r1 ++ (wsX7_next_r2 ++ (wsX7_next_r3 ++ wsX7_next_r4))) ++ wsX70)
def wsX7_stepsBy_r1 : List Cond := [Cond.methodLink RX7 151 yX7_nextBy, Cond.instanceMethod yX7_nextBy, Cond.selects RX7 yX7_nextBy yX7_nextBy, Cond.initialized RX7, Cond.code yX7_nextBy cX7_nextBy 7 (some .int), Cond.methodLink RX7 122 yX7_lays, Cond.instanceMethod yX7_lays, Cond.selects RX7 yX7_lays yX7_lays, Cond.code yX7_lays cX7_lays 1 none, Cond.methodLink RX7 103 yX7_laysSums, Cond.instanceMethod yX7_laysSums, Cond.selects RX7 yX7_laysSums yX7_laysSums, Cond.code yX7_laysSums cX7_laysSums 4 none, Cond.fieldLink RX7 28 "FillCellsModel" "sums" "[I", Cond.fieldLink RX7 19 "FillCellsModel" "rules" "[I", Cond.methodLink RX7 90 yX7_isWindow, Cond.instanceMethod yX7_isWindow, Cond.selects RX7 yX7_isWindow yX7_isWindow, Cond.code yX7_isWindow cX7_isWindow 2 (some .boolean), Cond.methodLink RX7 57 yX7_sumOf, Cond.instanceMethod yX7_sumOf, Cond.selects RX7 yX7_sumOf yX7_sumOf, Cond.code yX7_sumOf cX7_sumOf 2 (some .int), Cond.fieldLink RX7 7 "FillCellsModel" "s" "[I"]
def wsX7_stepsBy_r2 : List Cond := [Cond.methodLink RX7 106 yX7_laysThin, Cond.instanceMethod yX7_laysThin, Cond.selects RX7 yX7_laysThin yX7_laysThin, Cond.code yX7_laysThin cX7_laysThin 3 none, Cond.fieldLink RX7 31 "FillCellsModel" "thin" "[I", Cond.methodLink RX7 93 yX7_isThin, Cond.instanceMethod yX7_isThin, Cond.selects RX7 yX7_isThin yX7_isThin, Cond.code yX7_isThin cX7_isThin 2 (some .boolean), Cond.methodLink RX7 109 yX7_laysBurdens, Cond.instanceMethod yX7_laysBurdens, Cond.selects RX7 yX7_laysBurdens yX7_laysBurdens, Cond.code yX7_laysBurdens cX7_laysBurdens 3 none, Cond.fieldLink RX7 40 "FillCellsModel" "burdens" "[I", Cond.methodLink RX7 100 yX7_isBurden, Cond.instanceMethod yX7_isBurden, Cond.selects RX7 yX7_isBurden yX7_isBurden, Cond.code yX7_isBurden cX7_isBurden 3 (some .boolean), Cond.methodLink RX7 96 yX7_liesBeside, Cond.instanceMethod yX7_liesBeside, Cond.selects RX7 yX7_liesBeside yX7_liesBeside, Cond.code yX7_liesBeside cX7_liesBeside 4 (some .boolean), Cond.methodLink RX7 141 yX7_thinnest, Cond.instanceMethod yX7_thinnest]
def wsX7_stepsBy_r3 : List Cond := [Cond.selects RX7 yX7_thinnest yX7_thinnest, Cond.code yX7_thinnest cX7_thinnest 3 (some .int), Cond.methodLink RX7 125 yX7_may, Cond.instanceMethod yX7_may, Cond.selects RX7 yX7_may yX7_may, Cond.code yX7_may cX7_may 5 (some .boolean), Cond.fieldLink RX7 43 "FillCellsModel" "more" "[I", Cond.fieldLink RX7 112 "FillCellsModel" "size" "I", Cond.fieldLink RX7 37 "FillCellsModel" "members" "[I", Cond.methodLink RX7 115 yX7_marks, Cond.instanceMethod yX7_marks, Cond.selects RX7 yX7_marks yX7_marks, Cond.code yX7_marks cX7_marks 4 none, Cond.fieldLink RX7 34 "FillCellsModel" "family" "[I", Cond.methodLink RX7 119 yX7_manyIn, Cond.instanceMethod yX7_manyIn, Cond.selects RX7 yX7_manyIn yX7_manyIn, Cond.code yX7_manyIn cX7_manyIn 4 (some .int), Cond.methodLink RX7 144 yX7_reaches, Cond.instanceMethod yX7_reaches, Cond.selects RX7 yX7_reaches yX7_reaches, Cond.code yX7_reaches cX7_reaches 4 (some .boolean), Cond.methodLink RX7 138 yX7_has, Cond.instanceMethod yX7_has]
def wsX7_stepsBy_r4 : List Cond := [Cond.selects RX7 yX7_has yX7_has, Cond.code yX7_has cX7_has 3 (some .boolean), Cond.methodLink RX7 49 yX7_in, Cond.static yX7_in, Cond.code yX7_in cX7_in 3 (some .boolean), Cond.methodLink RX7 147 yX7_keyBy, Cond.instanceMethod yX7_keyBy, Cond.selects RX7 yX7_keyBy yX7_keyBy, Cond.code yX7_keyBy cX7_keyBy 3 (some .int), Cond.methodLink RX7 135 yX7_fills, Cond.instanceMethod yX7_fills, Cond.selects RX7 yX7_fills yX7_fills, Cond.code yX7_fills cX7_fills 3 none]
def wsX7_stepsBy : List Cond := .code yX7_stepsBy cX7_stepsBy 4 (some .int) :: ((wsX7_stepsBy_r1 ++ (wsX7_stepsBy_r2 ++ (wsX7_stepsBy_r3 ++ wsX7_stepsBy_r4))) ++ wsX70)
def wsX7_steps_r1 : List Cond := [Cond.fieldLink RX7 19 "FillCellsModel" "rules" "[I", Cond.methodLink RX7 49 yX7_in, Cond.static yX7_in, Cond.initialized RX7, Cond.code yX7_in cX7_in 3 (some .boolean), Cond.methodLink RX7 65 yX7_refuses, Cond.instanceMethod yX7_refuses, Cond.selects RX7 yX7_refuses yX7_refuses, Cond.code yX7_refuses cX7_refuses 2 (some .int), Cond.fieldLink RX7 22 "FillCellsModel" "refused" "[I", Cond.methodLink RX7 68 yX7_aside, Cond.instanceMethod yX7_aside, Cond.selects RX7 yX7_aside yX7_aside, Cond.code yX7_aside cX7_aside 2 none, Cond.fieldLink RX7 16 "FillCellsModel" "kept" "[I", Cond.fieldLink RX7 7 "FillCellsModel" "s" "[I", Cond.methodLink RX7 154 yX7_stepsBy, Cond.instanceMethod yX7_stepsBy, Cond.selects RX7 yX7_stepsBy yX7_stepsBy, Cond.code yX7_stepsBy cX7_stepsBy 4 (some .int), Cond.methodLink RX7 151 yX7_nextBy, Cond.instanceMethod yX7_nextBy, Cond.selects RX7 yX7_nextBy yX7_nextBy, Cond.code yX7_nextBy cX7_nextBy 7 (some .int)]
def wsX7_steps_r2 : List Cond := [Cond.methodLink RX7 122 yX7_lays, Cond.instanceMethod yX7_lays, Cond.selects RX7 yX7_lays yX7_lays, Cond.code yX7_lays cX7_lays 1 none, Cond.methodLink RX7 103 yX7_laysSums, Cond.instanceMethod yX7_laysSums, Cond.selects RX7 yX7_laysSums yX7_laysSums, Cond.code yX7_laysSums cX7_laysSums 4 none, Cond.fieldLink RX7 28 "FillCellsModel" "sums" "[I", Cond.methodLink RX7 90 yX7_isWindow, Cond.instanceMethod yX7_isWindow, Cond.selects RX7 yX7_isWindow yX7_isWindow, Cond.code yX7_isWindow cX7_isWindow 2 (some .boolean), Cond.methodLink RX7 57 yX7_sumOf, Cond.instanceMethod yX7_sumOf, Cond.selects RX7 yX7_sumOf yX7_sumOf, Cond.code yX7_sumOf cX7_sumOf 2 (some .int), Cond.methodLink RX7 106 yX7_laysThin, Cond.instanceMethod yX7_laysThin, Cond.selects RX7 yX7_laysThin yX7_laysThin, Cond.code yX7_laysThin cX7_laysThin 3 none, Cond.fieldLink RX7 31 "FillCellsModel" "thin" "[I", Cond.methodLink RX7 93 yX7_isThin, Cond.instanceMethod yX7_isThin]
def wsX7_steps_r3 : List Cond := [Cond.selects RX7 yX7_isThin yX7_isThin, Cond.code yX7_isThin cX7_isThin 2 (some .boolean), Cond.methodLink RX7 109 yX7_laysBurdens, Cond.instanceMethod yX7_laysBurdens, Cond.selects RX7 yX7_laysBurdens yX7_laysBurdens, Cond.code yX7_laysBurdens cX7_laysBurdens 3 none, Cond.fieldLink RX7 40 "FillCellsModel" "burdens" "[I", Cond.methodLink RX7 100 yX7_isBurden, Cond.instanceMethod yX7_isBurden, Cond.selects RX7 yX7_isBurden yX7_isBurden, Cond.code yX7_isBurden cX7_isBurden 3 (some .boolean), Cond.methodLink RX7 96 yX7_liesBeside, Cond.instanceMethod yX7_liesBeside, Cond.selects RX7 yX7_liesBeside yX7_liesBeside, Cond.code yX7_liesBeside cX7_liesBeside 4 (some .boolean), Cond.methodLink RX7 141 yX7_thinnest, Cond.instanceMethod yX7_thinnest, Cond.selects RX7 yX7_thinnest yX7_thinnest, Cond.code yX7_thinnest cX7_thinnest 3 (some .int), Cond.methodLink RX7 125 yX7_may, Cond.instanceMethod yX7_may, Cond.selects RX7 yX7_may yX7_may, Cond.code yX7_may cX7_may 5 (some .boolean), Cond.fieldLink RX7 43 "FillCellsModel" "more" "[I"]
def wsX7_steps_r4 : List Cond := [Cond.fieldLink RX7 112 "FillCellsModel" "size" "I", Cond.fieldLink RX7 37 "FillCellsModel" "members" "[I", Cond.methodLink RX7 115 yX7_marks, Cond.instanceMethod yX7_marks, Cond.selects RX7 yX7_marks yX7_marks, Cond.code yX7_marks cX7_marks 4 none, Cond.fieldLink RX7 34 "FillCellsModel" "family" "[I", Cond.methodLink RX7 119 yX7_manyIn, Cond.instanceMethod yX7_manyIn, Cond.selects RX7 yX7_manyIn yX7_manyIn, Cond.code yX7_manyIn cX7_manyIn 4 (some .int), Cond.methodLink RX7 144 yX7_reaches, Cond.instanceMethod yX7_reaches, Cond.selects RX7 yX7_reaches yX7_reaches, Cond.code yX7_reaches cX7_reaches 4 (some .boolean), Cond.methodLink RX7 138 yX7_has, Cond.instanceMethod yX7_has, Cond.selects RX7 yX7_has yX7_has, Cond.code yX7_has cX7_has 3 (some .boolean), Cond.methodLink RX7 147 yX7_keyBy, Cond.instanceMethod yX7_keyBy, Cond.selects RX7 yX7_keyBy yX7_keyBy, Cond.code yX7_keyBy cX7_keyBy 3 (some .int), Cond.methodLink RX7 135 yX7_fills]
def wsX7_steps_r5 : List Cond := [Cond.instanceMethod yX7_fills, Cond.selects RX7 yX7_fills yX7_fills, Cond.code yX7_fills cX7_fills 3 none, Cond.methodLink RX7 71 yX7_keeps, Cond.instanceMethod yX7_keeps, Cond.selects RX7 yX7_keeps yX7_keeps, Cond.code yX7_keeps cX7_keeps 2 none, Cond.fieldLink RX7 53 "FillCellsModel" "known" "I", Cond.fieldLink RX7 13 "FillCellsModel" "past" "[I"]
def wsX7_steps : List Cond := .code yX7_steps cX7_steps 3 (some .int) :: ((wsX7_steps_r1 ++ (wsX7_steps_r2 ++ (wsX7_steps_r3 ++ (wsX7_steps_r4 ++ wsX7_steps_r5)))) ++ wsX70)
def wsX7_mayLose : List Cond := .code yX7_mayLose cX7_mayLose 3 (some .boolean) :: ([.fieldLink RX7 28 "FillCellsModel" "sums" "[I", .fieldLink RX7 19 "FillCellsModel" "rules" "[I", .methodLink RX7 103 yX7_laysSums, .instanceMethod yX7_laysSums, .selects RX7 yX7_laysSums yX7_laysSums, .initialized RX7, .code yX7_laysSums cX7_laysSums 4 none, .methodLink RX7 90 yX7_isWindow, .instanceMethod yX7_isWindow, .selects RX7 yX7_isWindow yX7_isWindow, .code yX7_isWindow cX7_isWindow 2 (some .boolean), .methodLink RX7 57 yX7_sumOf, .instanceMethod yX7_sumOf, .selects RX7 yX7_sumOf yX7_sumOf, .code yX7_sumOf cX7_sumOf 2 (some .int), .fieldLink RX7 7 "FillCellsModel" "s" "[I", .methodLink RX7 119 yX7_manyIn, .instanceMethod yX7_manyIn, .selects RX7 yX7_manyIn yX7_manyIn, .code yX7_manyIn cX7_manyIn 4 (some .int), .fieldLink RX7 34 "FillCellsModel" "family" "[I"] ++ wsX70)
def wsX7_loses_r1 : List Cond := [Cond.fieldLink RX7 7 "FillCellsModel" "s" "[I", Cond.methodLink RX7 86 yX7_fillOf, Cond.instanceMethod yX7_fillOf, Cond.selects RX7 yX7_fillOf yX7_fillOf, Cond.initialized RX7, Cond.code yX7_fillOf cX7_fillOf 3 (some .int), Cond.methodLink RX7 115 yX7_marks, Cond.instanceMethod yX7_marks, Cond.selects RX7 yX7_marks yX7_marks, Cond.code yX7_marks cX7_marks 4 none, Cond.fieldLink RX7 112 "FillCellsModel" "size" "I", Cond.fieldLink RX7 34 "FillCellsModel" "family" "[I", Cond.fieldLink RX7 37 "FillCellsModel" "members" "[I", Cond.methodLink RX7 157 yX7_mayLose, Cond.instanceMethod yX7_mayLose, Cond.selects RX7 yX7_mayLose yX7_mayLose, Cond.code yX7_mayLose cX7_mayLose 3 (some .boolean), Cond.fieldLink RX7 28 "FillCellsModel" "sums" "[I", Cond.fieldLink RX7 19 "FillCellsModel" "rules" "[I", Cond.methodLink RX7 103 yX7_laysSums, Cond.instanceMethod yX7_laysSums, Cond.selects RX7 yX7_laysSums yX7_laysSums, Cond.code yX7_laysSums cX7_laysSums 4 none, Cond.methodLink RX7 90 yX7_isWindow]
def wsX7_loses_r2 : List Cond := [Cond.instanceMethod yX7_isWindow, Cond.selects RX7 yX7_isWindow yX7_isWindow, Cond.code yX7_isWindow cX7_isWindow 2 (some .boolean), Cond.methodLink RX7 57 yX7_sumOf, Cond.instanceMethod yX7_sumOf, Cond.selects RX7 yX7_sumOf yX7_sumOf, Cond.code yX7_sumOf cX7_sumOf 2 (some .int), Cond.methodLink RX7 119 yX7_manyIn, Cond.instanceMethod yX7_manyIn, Cond.selects RX7 yX7_manyIn yX7_manyIn, Cond.code yX7_manyIn cX7_manyIn 4 (some .int), Cond.methodLink RX7 135 yX7_fills, Cond.instanceMethod yX7_fills, Cond.selects RX7 yX7_fills yX7_fills, Cond.code yX7_fills cX7_fills 3 none]
def wsX7_loses : List Cond := .code yX7_loses cX7_loses 3 (some .int) :: ((wsX7_loses_r1 ++ wsX7_loses_r2) ++ wsX70)
def wsX7_thins_r1 : List Cond := [Cond.methodLink RX7 68 yX7_aside, Cond.instanceMethod yX7_aside, Cond.selects RX7 yX7_aside yX7_aside, Cond.initialized RX7, Cond.code yX7_aside cX7_aside 2 none, Cond.fieldLink RX7 16 "FillCellsModel" "kept" "[I", Cond.fieldLink RX7 7 "FillCellsModel" "s" "[I", Cond.methodLink RX7 161 yX7_loses, Cond.instanceMethod yX7_loses, Cond.selects RX7 yX7_loses yX7_loses, Cond.code yX7_loses cX7_loses 3 (some .int), Cond.methodLink RX7 86 yX7_fillOf, Cond.instanceMethod yX7_fillOf, Cond.selects RX7 yX7_fillOf yX7_fillOf, Cond.code yX7_fillOf cX7_fillOf 3 (some .int), Cond.methodLink RX7 115 yX7_marks, Cond.instanceMethod yX7_marks, Cond.selects RX7 yX7_marks yX7_marks, Cond.code yX7_marks cX7_marks 4 none, Cond.fieldLink RX7 112 "FillCellsModel" "size" "I", Cond.fieldLink RX7 34 "FillCellsModel" "family" "[I", Cond.fieldLink RX7 37 "FillCellsModel" "members" "[I", Cond.methodLink RX7 157 yX7_mayLose, Cond.instanceMethod yX7_mayLose]
def wsX7_thins_r2 : List Cond := [Cond.selects RX7 yX7_mayLose yX7_mayLose, Cond.code yX7_mayLose cX7_mayLose 3 (some .boolean), Cond.fieldLink RX7 28 "FillCellsModel" "sums" "[I", Cond.fieldLink RX7 19 "FillCellsModel" "rules" "[I", Cond.methodLink RX7 103 yX7_laysSums, Cond.instanceMethod yX7_laysSums, Cond.selects RX7 yX7_laysSums yX7_laysSums, Cond.code yX7_laysSums cX7_laysSums 4 none, Cond.methodLink RX7 90 yX7_isWindow, Cond.instanceMethod yX7_isWindow, Cond.selects RX7 yX7_isWindow yX7_isWindow, Cond.code yX7_isWindow cX7_isWindow 2 (some .boolean), Cond.methodLink RX7 57 yX7_sumOf, Cond.instanceMethod yX7_sumOf, Cond.selects RX7 yX7_sumOf yX7_sumOf, Cond.code yX7_sumOf cX7_sumOf 2 (some .int), Cond.methodLink RX7 119 yX7_manyIn, Cond.instanceMethod yX7_manyIn, Cond.selects RX7 yX7_manyIn yX7_manyIn, Cond.code yX7_manyIn cX7_manyIn 4 (some .int), Cond.methodLink RX7 135 yX7_fills, Cond.instanceMethod yX7_fills, Cond.selects RX7 yX7_fills yX7_fills, Cond.code yX7_fills cX7_fills 3 none]
def wsX7_thins_r3 : List Cond := [Cond.methodLink RX7 71 yX7_keeps, Cond.instanceMethod yX7_keeps, Cond.selects RX7 yX7_keeps yX7_keeps, Cond.code yX7_keeps cX7_keeps 2 none, Cond.fieldLink RX7 53 "FillCellsModel" "known" "I", Cond.fieldLink RX7 13 "FillCellsModel" "past" "[I"]
def wsX7_thins : List Cond := .code yX7_thins cX7_thins 2 (some .int) :: ((wsX7_thins_r1 ++ (wsX7_thins_r2 ++ wsX7_thins_r3)) ++ wsX70)
def wsX7_best_r1 : List Cond := [Cond.fieldLink RX7 46 "FillCellsModel" "results" "[I", Cond.methodLink RX7 49 yX7_in, Cond.static yX7_in, Cond.initialized RX7, Cond.code yX7_in cX7_in 3 (some .boolean), Cond.methodLink RX7 65 yX7_refuses, Cond.instanceMethod yX7_refuses, Cond.selects RX7 yX7_refuses yX7_refuses, Cond.code yX7_refuses cX7_refuses 2 (some .int), Cond.fieldLink RX7 22 "FillCellsModel" "refused" "[I", Cond.methodLink RX7 68 yX7_aside, Cond.instanceMethod yX7_aside, Cond.selects RX7 yX7_aside yX7_aside, Cond.code yX7_aside cX7_aside 2 none, Cond.fieldLink RX7 16 "FillCellsModel" "kept" "[I", Cond.fieldLink RX7 7 "FillCellsModel" "s" "[I", Cond.methodLink RX7 154 yX7_stepsBy, Cond.instanceMethod yX7_stepsBy, Cond.selects RX7 yX7_stepsBy yX7_stepsBy, Cond.code yX7_stepsBy cX7_stepsBy 4 (some .int), Cond.methodLink RX7 151 yX7_nextBy, Cond.instanceMethod yX7_nextBy, Cond.selects RX7 yX7_nextBy yX7_nextBy, Cond.code yX7_nextBy cX7_nextBy 7 (some .int)]
def wsX7_best_r2 : List Cond := [Cond.methodLink RX7 122 yX7_lays, Cond.instanceMethod yX7_lays, Cond.selects RX7 yX7_lays yX7_lays, Cond.code yX7_lays cX7_lays 1 none, Cond.methodLink RX7 103 yX7_laysSums, Cond.instanceMethod yX7_laysSums, Cond.selects RX7 yX7_laysSums yX7_laysSums, Cond.code yX7_laysSums cX7_laysSums 4 none, Cond.fieldLink RX7 28 "FillCellsModel" "sums" "[I", Cond.fieldLink RX7 19 "FillCellsModel" "rules" "[I", Cond.methodLink RX7 90 yX7_isWindow, Cond.instanceMethod yX7_isWindow, Cond.selects RX7 yX7_isWindow yX7_isWindow, Cond.code yX7_isWindow cX7_isWindow 2 (some .boolean), Cond.methodLink RX7 57 yX7_sumOf, Cond.instanceMethod yX7_sumOf, Cond.selects RX7 yX7_sumOf yX7_sumOf, Cond.code yX7_sumOf cX7_sumOf 2 (some .int), Cond.methodLink RX7 106 yX7_laysThin, Cond.instanceMethod yX7_laysThin, Cond.selects RX7 yX7_laysThin yX7_laysThin, Cond.code yX7_laysThin cX7_laysThin 3 none, Cond.fieldLink RX7 31 "FillCellsModel" "thin" "[I", Cond.methodLink RX7 93 yX7_isThin]
def wsX7_best_r3 : List Cond := [Cond.instanceMethod yX7_isThin, Cond.selects RX7 yX7_isThin yX7_isThin, Cond.code yX7_isThin cX7_isThin 2 (some .boolean), Cond.methodLink RX7 109 yX7_laysBurdens, Cond.instanceMethod yX7_laysBurdens, Cond.selects RX7 yX7_laysBurdens yX7_laysBurdens, Cond.code yX7_laysBurdens cX7_laysBurdens 3 none, Cond.fieldLink RX7 40 "FillCellsModel" "burdens" "[I", Cond.methodLink RX7 100 yX7_isBurden, Cond.instanceMethod yX7_isBurden, Cond.selects RX7 yX7_isBurden yX7_isBurden, Cond.code yX7_isBurden cX7_isBurden 3 (some .boolean), Cond.methodLink RX7 96 yX7_liesBeside, Cond.instanceMethod yX7_liesBeside, Cond.selects RX7 yX7_liesBeside yX7_liesBeside, Cond.code yX7_liesBeside cX7_liesBeside 4 (some .boolean), Cond.methodLink RX7 141 yX7_thinnest, Cond.instanceMethod yX7_thinnest, Cond.selects RX7 yX7_thinnest yX7_thinnest, Cond.code yX7_thinnest cX7_thinnest 3 (some .int), Cond.methodLink RX7 125 yX7_may, Cond.instanceMethod yX7_may, Cond.selects RX7 yX7_may yX7_may, Cond.code yX7_may cX7_may 5 (some .boolean)]
def wsX7_best_r4 : List Cond := [Cond.fieldLink RX7 43 "FillCellsModel" "more" "[I", Cond.fieldLink RX7 112 "FillCellsModel" "size" "I", Cond.fieldLink RX7 37 "FillCellsModel" "members" "[I", Cond.methodLink RX7 115 yX7_marks, Cond.instanceMethod yX7_marks, Cond.selects RX7 yX7_marks yX7_marks, Cond.code yX7_marks cX7_marks 4 none, Cond.fieldLink RX7 34 "FillCellsModel" "family" "[I", Cond.methodLink RX7 119 yX7_manyIn, Cond.instanceMethod yX7_manyIn, Cond.selects RX7 yX7_manyIn yX7_manyIn, Cond.code yX7_manyIn cX7_manyIn 4 (some .int), Cond.methodLink RX7 144 yX7_reaches, Cond.instanceMethod yX7_reaches, Cond.selects RX7 yX7_reaches yX7_reaches, Cond.code yX7_reaches cX7_reaches 4 (some .boolean), Cond.methodLink RX7 138 yX7_has, Cond.instanceMethod yX7_has, Cond.selects RX7 yX7_has yX7_has, Cond.code yX7_has cX7_has 3 (some .boolean), Cond.methodLink RX7 147 yX7_keyBy, Cond.instanceMethod yX7_keyBy, Cond.selects RX7 yX7_keyBy yX7_keyBy, Cond.code yX7_keyBy cX7_keyBy 3 (some .int)]
def wsX7_best_r5 : List Cond := [Cond.methodLink RX7 135 yX7_fills, Cond.instanceMethod yX7_fills, Cond.selects RX7 yX7_fills yX7_fills, Cond.code yX7_fills cX7_fills 3 none, Cond.methodLink RX7 161 yX7_loses, Cond.instanceMethod yX7_loses, Cond.selects RX7 yX7_loses yX7_loses, Cond.code yX7_loses cX7_loses 3 (some .int), Cond.methodLink RX7 86 yX7_fillOf, Cond.instanceMethod yX7_fillOf, Cond.selects RX7 yX7_fillOf yX7_fillOf, Cond.code yX7_fillOf cX7_fillOf 3 (some .int), Cond.methodLink RX7 157 yX7_mayLose, Cond.instanceMethod yX7_mayLose, Cond.selects RX7 yX7_mayLose yX7_mayLose, Cond.code yX7_mayLose cX7_mayLose 3 (some .boolean), Cond.methodLink RX7 128 yX7_windowsNow, Cond.instanceMethod yX7_windowsNow, Cond.selects RX7 yX7_windowsNow yX7_windowsNow, Cond.code yX7_windowsNow cX7_windowsNow 6 (some .int), Cond.methodLink RX7 164 yX7_back, Cond.instanceMethod yX7_back, Cond.selects RX7 yX7_back yX7_back, Cond.code yX7_back cX7_back 2 none]
def wsX7_best : List Cond := .code yX7_best cX7_best 5 (some .int) :: ((wsX7_best_r1 ++ (wsX7_best_r2 ++ (wsX7_best_r3 ++ (wsX7_best_r4 ++ wsX7_best_r5)))) ++ wsX70)
def wsX7_row : List Cond := .code yX7_row cX7_row 9 (some .int) :: ([.fieldLink RX7 46 "FillCellsModel" "results" "[I", .fieldLink RX7 19 "FillCellsModel" "rules" "[I", .fieldLink RX7 7 "FillCellsModel" "s" "[I", .methodLink RX7 49 yX7_in, .static yX7_in, .initialized RX7, .code yX7_in cX7_in 3 (some .boolean), .methodLink RX7 65 yX7_refuses, .instanceMethod yX7_refuses, .selects RX7 yX7_refuses yX7_refuses, .code yX7_refuses cX7_refuses 2 (some .int), .fieldLink RX7 22 "FillCellsModel" "refused" "[I"] ++ wsX70)
def wsX7_undo : List Cond := .code yX7_undo cX7_undo 2 (some .int) :: ([.fieldLink RX7 53 "FillCellsModel" "known" "I", .fieldLink RX7 7 "FillCellsModel" "s" "[I", .fieldLink RX7 13 "FillCellsModel" "past" "[I", .methodLink RX7 65 yX7_refuses, .instanceMethod yX7_refuses, .selects RX7 yX7_refuses yX7_refuses, .initialized RX7, .code yX7_refuses cX7_refuses 2 (some .int), .fieldLink RX7 22 "FillCellsModel" "refused" "[I"] ++ wsX70)
def wsX7_type : List Cond := .code yX7_type cX7_type 2 (some .int) :: ([.fieldLink RX7 167 "FillCellsModel" "typed" "I", .fieldLink RX7 25 "FillCellsModel" "text" "[I", .methodLink RX7 49 yX7_in, .static yX7_in, .initialized RX7, .code yX7_in cX7_in 3 (some .boolean), .methodLink RX7 65 yX7_refuses, .instanceMethod yX7_refuses, .selects RX7 yX7_refuses yX7_refuses, .code yX7_refuses cX7_refuses 2 (some .int), .fieldLink RX7 22 "FillCellsModel" "refused" "[I"] ++ wsX70)
def wsX7_clear : List Cond := .code yX7_clear cX7_clear 2 (some .int) :: ([.fieldLink RX7 167 "FillCellsModel" "typed" "I"] ++ wsX70)
def wsX7_byteAt : List Cond := .code yX7_byteAt cX7_byteAt 2 (some .int) :: ([.fieldLink RX7 167 "FillCellsModel" "typed" "I", .fieldLink RX7 25 "FillCellsModel" "text" "[I"] ++ wsX70)
def wsX7_skips : List Cond := .code yX7_skips cX7_skips 1 none :: ([.fieldLink RX7 170 "FillCellsModel" "at" "I", .methodLink RX7 173 yX7_byteAt, .instanceMethod yX7_byteAt, .selects RX7 yX7_byteAt yX7_byteAt, .initialized RX7, .code yX7_byteAt cX7_byteAt 2 (some .int), .fieldLink RX7 167 "FillCellsModel" "typed" "I", .fieldLink RX7 25 "FillCellsModel" "text" "[I"] ++ wsX70)
def wsX7_becomes : List Cond := .code yX7_becomes cX7_becomes 3 none :: ([.fieldLink RX7 7 "FillCellsModel" "s" "[I"] ++ wsX70)
def wsX7_isRow : List Cond := .code yX7_isRow cX7_isRow 4 (some .boolean) :: ([.fieldLink RX7 170 "FillCellsModel" "at" "I", .methodLink RX7 173 yX7_byteAt, .instanceMethod yX7_byteAt, .selects RX7 yX7_byteAt yX7_byteAt, .initialized RX7, .code yX7_byteAt cX7_byteAt 2 (some .int), .fieldLink RX7 167 "FillCellsModel" "typed" "I", .fieldLink RX7 25 "FillCellsModel" "text" "[I", .methodLink RX7 49 yX7_in, .static yX7_in, .code yX7_in cX7_in 3 (some .boolean), .methodLink RX7 176 yX7_skips, .instanceMethod yX7_skips, .selects RX7 yX7_skips yX7_skips, .code yX7_skips cX7_skips 1 none, .methodLink RX7 179 yX7_becomes, .instanceMethod yX7_becomes, .selects RX7 yX7_becomes yX7_becomes, .code yX7_becomes cX7_becomes 3 none, .fieldLink RX7 7 "FillCellsModel" "s" "[I"] ++ wsX70)
def wsX7_reads_r1 : List Cond := [Cond.fieldLink RX7 170 "FillCellsModel" "at" "I", Cond.fieldLink RX7 167 "FillCellsModel" "typed" "I", Cond.methodLink RX7 68 yX7_aside, Cond.instanceMethod yX7_aside, Cond.selects RX7 yX7_aside yX7_aside, Cond.initialized RX7, Cond.code yX7_aside cX7_aside 2 none, Cond.fieldLink RX7 16 "FillCellsModel" "kept" "[I", Cond.fieldLink RX7 7 "FillCellsModel" "s" "[I", Cond.methodLink RX7 176 yX7_skips, Cond.instanceMethod yX7_skips, Cond.selects RX7 yX7_skips yX7_skips, Cond.code yX7_skips cX7_skips 1 none, Cond.methodLink RX7 173 yX7_byteAt, Cond.instanceMethod yX7_byteAt, Cond.selects RX7 yX7_byteAt yX7_byteAt, Cond.code yX7_byteAt cX7_byteAt 2 (some .int), Cond.fieldLink RX7 25 "FillCellsModel" "text" "[I", Cond.methodLink RX7 183 yX7_isRow, Cond.instanceMethod yX7_isRow, Cond.selects RX7 yX7_isRow yX7_isRow, Cond.code yX7_isRow cX7_isRow 4 (some .boolean), Cond.methodLink RX7 49 yX7_in, Cond.static yX7_in]
def wsX7_reads_r2 : List Cond := [Cond.code yX7_in cX7_in 3 (some .boolean), Cond.methodLink RX7 179 yX7_becomes, Cond.instanceMethod yX7_becomes, Cond.selects RX7 yX7_becomes yX7_becomes, Cond.code yX7_becomes cX7_becomes 3 none, Cond.methodLink RX7 164 yX7_back, Cond.instanceMethod yX7_back, Cond.selects RX7 yX7_back yX7_back, Cond.code yX7_back cX7_back 2 none, Cond.methodLink RX7 71 yX7_keeps, Cond.instanceMethod yX7_keeps, Cond.selects RX7 yX7_keeps yX7_keeps, Cond.code yX7_keeps cX7_keeps 2 none, Cond.fieldLink RX7 53 "FillCellsModel" "known" "I", Cond.fieldLink RX7 13 "FillCellsModel" "past" "[I", Cond.methodLink RX7 74 yX7_settles, Cond.instanceMethod yX7_settles, Cond.selects RX7 yX7_settles yX7_settles, Cond.code yX7_settles cX7_settles 4 none, Cond.methodLink RX7 57 yX7_sumOf, Cond.instanceMethod yX7_sumOf, Cond.selects RX7 yX7_sumOf yX7_sumOf, Cond.code yX7_sumOf cX7_sumOf 2 (some .int)]
def wsX7_reads : List Cond := .code yX7_reads cX7_reads 3 (some .int) :: ((wsX7_reads_r1 ++ wsX7_reads_r2) ++ wsX70)
def wsX7_toldOf : List Cond := .code yX7_toldOf cX7_toldOf 2 (some .int) :: ([.fieldLink RX7 22 "FillCellsModel" "refused" "[I", .fieldLink RX7 167 "FillCellsModel" "typed" "I", .fieldLink RX7 19 "FillCellsModel" "rules" "[I", .fieldLink RX7 53 "FillCellsModel" "known" "I"] ++ wsX70)
def wsX7_told : List Cond := .code yX7_told cX7_told 2 (some .int) :: ([.methodLink RX7 49 yX7_in, .static yX7_in, .initialized RX7, .code yX7_in cX7_in 3 (some .boolean), .methodLink RX7 186 yX7_toldOf, .instanceMethod yX7_toldOf, .selects RX7 yX7_toldOf yX7_toldOf, .code yX7_toldOf cX7_toldOf 2 (some .int), .fieldLink RX7 22 "FillCellsModel" "refused" "[I", .fieldLink RX7 167 "FillCellsModel" "typed" "I", .fieldLink RX7 19 "FillCellsModel" "rules" "[I", .fieldLink RX7 53 "FillCellsModel" "known" "I", .methodLink RX7 65 yX7_refuses, .instanceMethod yX7_refuses, .selects RX7 yX7_refuses yX7_refuses, .code yX7_refuses cX7_refuses 2 (some .int)] ++ wsX70)
def wsX7_digest_r1 : List Cond := [Cond.constantLong RX7 189 (2081), Cond.constantLong RX7 191 (31), Cond.fieldLink RX7 19 "FillCellsModel" "rules" "[I", Cond.fieldLink RX7 7 "FillCellsModel" "s" "[I", Cond.fieldLink RX7 40 "FillCellsModel" "burdens" "[I", Cond.methodLink RX7 186 yX7_toldOf, Cond.instanceMethod yX7_toldOf, Cond.selects RX7 yX7_toldOf yX7_toldOf, Cond.initialized RX7, Cond.code yX7_toldOf cX7_toldOf 2 (some .int), Cond.fieldLink RX7 22 "FillCellsModel" "refused" "[I", Cond.fieldLink RX7 167 "FillCellsModel" "typed" "I", Cond.fieldLink RX7 53 "FillCellsModel" "known" "I", Cond.methodLink RX7 103 yX7_laysSums, Cond.instanceMethod yX7_laysSums, Cond.selects RX7 yX7_laysSums yX7_laysSums, Cond.code yX7_laysSums cX7_laysSums 4 none, Cond.fieldLink RX7 28 "FillCellsModel" "sums" "[I", Cond.methodLink RX7 90 yX7_isWindow, Cond.instanceMethod yX7_isWindow, Cond.selects RX7 yX7_isWindow yX7_isWindow, Cond.code yX7_isWindow cX7_isWindow 2 (some .boolean), Cond.methodLink RX7 57 yX7_sumOf, Cond.instanceMethod yX7_sumOf]
def wsX7_digest_r2 : List Cond := [Cond.selects RX7 yX7_sumOf yX7_sumOf, Cond.code yX7_sumOf cX7_sumOf 2 (some .int), Cond.methodLink RX7 128 yX7_windowsNow, Cond.instanceMethod yX7_windowsNow, Cond.selects RX7 yX7_windowsNow yX7_windowsNow, Cond.code yX7_windowsNow cX7_windowsNow 6 (some .int), Cond.methodLink RX7 93 yX7_isThin, Cond.instanceMethod yX7_isThin, Cond.selects RX7 yX7_isThin yX7_isThin, Cond.code yX7_isThin cX7_isThin 2 (some .boolean), Cond.methodLink RX7 109 yX7_laysBurdens, Cond.instanceMethod yX7_laysBurdens, Cond.selects RX7 yX7_laysBurdens yX7_laysBurdens, Cond.code yX7_laysBurdens cX7_laysBurdens 3 none, Cond.methodLink RX7 100 yX7_isBurden, Cond.instanceMethod yX7_isBurden, Cond.selects RX7 yX7_isBurden yX7_isBurden, Cond.code yX7_isBurden cX7_isBurden 3 (some .boolean), Cond.methodLink RX7 96 yX7_liesBeside, Cond.instanceMethod yX7_liesBeside, Cond.selects RX7 yX7_liesBeside yX7_liesBeside, Cond.code yX7_liesBeside cX7_liesBeside 4 (some .boolean)]
def wsX7_digest : List Cond := .code yX7_digest cX7_digest 5 (some .long) :: ((wsX7_digest_r1 ++ wsX7_digest_r2) ++ wsX70)
def wsJ9_max_7cf53 : List Cond := .code yJ9_max_7cf53 cJ9_max_7cf53 2 (some .int) :: ([])
def wsJ9_min_7cf53 : List Cond := .code yJ9_min_7cf53 cJ9_min_7cf53 2 (some .int) :: ([])
def wsL_law_r1 : List Cond := [Cond.classLink RL 7 RX6, Cond.instantiable RX6 7, Cond.initialized RX6, Cond.classLink RL 10 RX7, Cond.instantiable RX7 17, Cond.initialized RX7, Cond.methodLink RL 9 yX6_init, Cond.instanceMethod yX6_init, Cond.code yX6_init cX6_init 2 none, Cond.methodLink RX6 1 objectInit, Cond.instanceMethod objectInit, Cond.code objectInit ⟨#[0xb1]⟩ 1 none, Cond.classLink RX6 7 RX1, Cond.instantiable RX1 9, Cond.initialized RX1, Cond.fieldLink RX6 10 "FillCells" "filling" "LFillCells$Filling;", Cond.classLink RX6 16 RX2, Cond.instantiable RX2 3, Cond.initialized RX2, Cond.fieldLink RX6 19 "FillCells" "history" "LFillCells$History;", Cond.classLink RX6 23 RX4, Cond.instantiable RX4 2, Cond.initialized RX4, Cond.fieldLink RX6 26 "FillCells" "text" "LFillCells$Text;"]
def wsL_law_r2 : List Cond := [Cond.arrayClass .int, Cond.fieldLink RX6 30 "FillCells" "settings" "[I", Cond.fieldLink RX6 34 "FillCells" "bads" "I", Cond.fieldLink RX6 38 "FillCells" "noes" "I", Cond.fieldLink RX6 41 "FillCells" "fulls" "I", Cond.fieldLink RX6 44 "FillCells" "SETTING_FIRST" "[I", Cond.instanceMethod yX1_init, Cond.code yX1_init cX1_init 1 none, Cond.methodLink RX1 3 objectInit, Cond.classLink RX1 9 RX0, Cond.instantiable RX0 5, Cond.initialized RX0, Cond.fieldLink RX1 12 "FillCells$Filling" "field" "LFillCells$Field;", Cond.classLink RX1 18 RX5, Cond.instantiable RX5 8, Cond.initialized RX5, Cond.fieldLink RX1 21 "FillCells$Filling" "windows" "LFillCells$Windows;", Cond.classLink RX1 25 RX3, Cond.instantiable RX3 4, Cond.initialized RX3, Cond.fieldLink RX1 28 "FillCells$Filling" "nets" "LFillCells$Nets;", Cond.fieldLink RX1 32 "FillCells$Filling" "bestRule" "I", Cond.fieldLink RX1 36 "FillCells$Filling" "bestThin" "I", Cond.fieldLink RX1 39 "FillCells$Filling" "bestFill" "I"]
def wsL_law_r3 : List Cond := [Cond.arrayClass .boolean, Cond.fieldLink RX1 42 "FillCells$Filling" "twinsChosen" "[Z", Cond.fieldLink RX1 46 "FillCells$Filling" "fillAhead" "[I", Cond.fieldLink RX1 50 "FillCells$Filling" "line" "[I", Cond.instanceMethod yX0_init, Cond.code yX0_init cX0_init 1 none, Cond.methodLink RX0 3 objectInit, Cond.fieldLink RX0 9 "FillCells$Field" "shapes" "[I", Cond.fieldLink RX0 15 "FillCells$Field" "shut" "[I", Cond.fieldLink RX0 18 "FillCells$Field" "net" "[I", Cond.fieldLink RX0 21 "FillCells$Field" "twins" "[I", Cond.fieldLink RX0 24 "FillCells$Field" "fill" "[I", Cond.instanceMethod yX5_init, Cond.code yX5_init cX5_init 1 none, Cond.methodLink RX5 3 objectInit, Cond.fieldLink RX5 9 "FillCells$Windows" "height" "I", Cond.fieldLink RX5 15 "FillCells$Windows" "width" "I", Cond.fieldLink RX5 18 "FillCells$Windows" "low" "I", Cond.fieldLink RX5 21 "FillCells$Windows" "high" "I", Cond.fieldLink RX5 24 "FillCells$Windows" "sums" "[I", Cond.fieldLink RX5 28 "FillCells$Windows" "thinOver" "[I", Cond.fieldLink RX5 31 "FillCells$Windows" "fullOver" "[I", Cond.fieldLink RX5 34 "FillCells$Windows" "shares" "[I", Cond.instanceMethod yX3_init]
def wsL_law_r4 : List Cond := [Cond.code yX3_init cX3_init 1 none, Cond.methodLink RX3 3 objectInit, Cond.fieldLink RX3 9 "FillCells$Nets" "limits" "[I", Cond.fieldLink RX3 15 "FillCells$Nets" "burdens" "[I", Cond.fieldLink RX3 18 "FillCells$Nets" "borne" "[I", Cond.fieldLink RX3 21 "FillCells$Nets" "twinsBorne" "[I", Cond.instanceMethod yX2_init, Cond.code yX2_init cX2_init 1 none, Cond.methodLink RX2 3 objectInit, Cond.fieldLink RX2 9 "FillCells$History" "kept" "I", Cond.fieldLink RX2 15 "FillCells$History" "oldest" "I", Cond.fieldLink RX2 18 "FillCells$History" "fields" "[I", Cond.instanceMethod yX4_init, Cond.code yX4_init cX4_init 1 none, Cond.methodLink RX4 3 objectInit, Cond.fieldLink RX4 9 "FillCells$Text" "length" "I", Cond.fieldLink RX4 15 "FillCells$Text" "bytes" "[I", Cond.methodLink RX6 47 yX6_useSettings, Cond.instanceMethod yX6_useSettings, Cond.selects RX6 yX6_useSettings yX6_useSettings, Cond.code yX6_useSettings cX6_useSettings 3 none, Cond.fieldLink RX6 117 "FillCells$Filling" "windows" "LFillCells$Windows;", Cond.fieldLink RX6 233 "FillCells$Windows" "height" "I", Cond.fieldLink RX6 236 "FillCells$Windows" "width" "I"]
def wsL_law_r5 : List Cond := [Cond.fieldLink RX6 239 "FillCells$Windows" "low" "I", Cond.fieldLink RX6 242 "FillCells$Windows" "high" "I", Cond.fieldLink RX6 157 "FillCells$Filling" "nets" "LFillCells$Nets;", Cond.fieldLink RX6 227 "FillCells$Nets" "limits" "[I", Cond.methodLink RX6 82 yX1_measure, Cond.instanceMethod yX1_measure, Cond.selects RX1 yX1_measure yX1_measure, Cond.code yX1_measure cX1_measure 1 none, Cond.methodLink RX1 53 yX5_measure, Cond.instanceMethod yX5_measure, Cond.selects RX5 yX5_measure yX5_measure, Cond.code yX5_measure cX5_measure 3 none, Cond.methodLink RX5 41 yJ7_fill_53178, Cond.static yJ7_fill_53178, Cond.initialized RJ7, Cond.code yJ7_fill_53178 cJ7_fill_53178 4 none, Cond.methodLink RX5 47 yX5_lies, Cond.instanceMethod yX5_lies, Cond.selects RX5 yX5_lies yX5_lies, Cond.code yX5_lies cX5_lies 2 (some .boolean), Cond.methodLink RX5 51 yX5_addUp, Cond.instanceMethod yX5_addUp, Cond.selects RX5 yX5_addUp yX5_addUp, Cond.code yX5_addUp cX5_addUp 7 none]
def wsL_law_r6 : List Cond := [Cond.fieldLink RX5 71 "FillCells$Field" "twins" "[I", Cond.methodLink RX5 65 yX0_sumOf, Cond.instanceMethod yX0_sumOf, Cond.selects RX0 yX0_sumOf yX0_sumOf, Cond.code yX0_sumOf cX0_sumOf 2 (some .int), Cond.methodLink RX5 55 yX5_isThin, Cond.instanceMethod yX5_isThin, Cond.selects RX5 yX5_isThin yX5_isThin, Cond.code yX5_isThin cX5_isThin 2 (some .boolean), Cond.methodLink RX5 58 yX5_spread, Cond.instanceMethod yX5_spread, Cond.selects RX5 yX5_spread yX5_spread, Cond.code yX5_spread cX5_spread 6 none, Cond.methodLink RX5 62 yX5_isFull, Cond.instanceMethod yX5_isFull, Cond.selects RX5 yX5_isFull yX5_isFull, Cond.code yX5_isFull cX5_isFull 2 (some .boolean), Cond.methodLink RX1 57 yX3_measure, Cond.instanceMethod yX3_measure, Cond.selects RX3 yX3_measure yX3_measure, Cond.code yX3_measure cX3_measure 5 none, Cond.fieldLink RX3 30 "FillCells$Field" "net" "[I", Cond.fieldLink RX3 39 "FillCells$Field" "twins" "[I", Cond.fieldLink RX3 42 "FillCells$Field" "fill" "[I"]
def wsL_law_r7 : List Cond := [Cond.methodLink RX3 24 yJ7_fill_53178, Cond.methodLink RX3 35 yX3_netsBeside, Cond.static yX3_netsBeside, Cond.code yX3_netsBeside cX3_netsBeside 4 (some .int), Cond.methodLink RX3 44 yX3_shift, Cond.instanceMethod yX3_shift, Cond.selects RX3 yX3_shift yX3_shift, Cond.code yX3_shift cX3_shift 4 none, Cond.methodLink RL 12 yX7_init, Cond.instanceMethod yX7_init, Cond.code yX7_init cX7_init 1 none, Cond.methodLink RX7 1 objectInit, Cond.fieldLink RX7 7 "FillCellsModel" "s" "[I", Cond.fieldLink RX7 13 "FillCellsModel" "past" "[I", Cond.fieldLink RX7 16 "FillCellsModel" "kept" "[I", Cond.fieldLink RX7 19 "FillCellsModel" "rules" "[I", Cond.fieldLink RX7 22 "FillCellsModel" "refused" "[I", Cond.fieldLink RX7 25 "FillCellsModel" "text" "[I", Cond.fieldLink RX7 28 "FillCellsModel" "sums" "[I", Cond.fieldLink RX7 31 "FillCellsModel" "thin" "[I", Cond.fieldLink RX7 34 "FillCellsModel" "family" "[I", Cond.fieldLink RX7 37 "FillCellsModel" "members" "[I", Cond.fieldLink RX7 40 "FillCellsModel" "burdens" "[I", Cond.fieldLink RX7 43 "FillCellsModel" "more" "[I"]
def wsL_law_r8 : List Cond := [Cond.fieldLink RX7 46 "FillCellsModel" "results" "[I", Cond.methodLink RL 13 yX6_sets, Cond.instanceMethod yX6_sets, Cond.selects RX6 yX6_sets yX6_sets, Cond.code yX6_sets cX6_sets 6 (some .int), Cond.fieldLink RX6 58 "FillCells" "PART_MOST" "[I", Cond.fieldLink RX6 65 "FillCells$Filling" "field" "LFillCells$Field;", Cond.methodLink RX6 50 yX6_isCell, Cond.static yX6_isCell, Cond.code yX6_isCell cX6_isCell 1 (some .boolean), Cond.methodLink RX6 54 yX6_isIn, Cond.static yX6_isIn, Cond.code yX6_isIn cX6_isIn 3 (some .boolean), Cond.methodLink RX6 61 yX6_refuse, Cond.instanceMethod yX6_refuse, Cond.selects RX6 yX6_refuse yX6_refuse, Cond.code yX6_refuse cX6_refuse 2 (some .int), Cond.methodLink RX6 69 yX2_note, Cond.instanceMethod yX2_note, Cond.selects RX2 yX2_note yX2_note, Cond.code yX2_note cX2_note 4 none, Cond.methodLink RX2 22 yX2_start, Cond.instanceMethod yX2_start, Cond.selects RX2 yX2_start yX2_start]
def wsL_law_r9 : List Cond := [Cond.code yX2_start cX2_start 2 (some .int), Cond.methodLink RX2 26 yX0_packed, Cond.instanceMethod yX0_packed, Cond.selects RX0 yX0_packed yX0_packed, Cond.code yX0_packed cX0_packed 2 (some .int), Cond.methodLink RX6 73 yX0_part, Cond.instanceMethod yX0_part, Cond.selects RX0 yX0_part yX0_part, Cond.code yX0_part cX0_part 2 (some (.array .int)), Cond.methodLink RX6 79 yX0_settle, Cond.instanceMethod yX0_settle, Cond.selects RX0 yX0_settle yX0_settle, Cond.code yX0_settle cX0_settle 2 none, Cond.methodLink RX0 45 Lib.Math.min.name, Cond.static Lib.Math.min.name, Cond.initialized "java/lang/Math", Cond.code Lib.Math.min.name Lib.Math.min.code 2 (some .int), Cond.methodLink RX0 41 yX0_room, Cond.instanceMethod yX0_room, Cond.selects RX0 yX0_room yX0_room, Cond.code yX0_room cX0_room 2 (some .int), Cond.methodLink RX0 48 yX0_makeAlike, Cond.instanceMethod yX0_makeAlike, Cond.selects RX0 yX0_makeAlike yX0_makeAlike]
def wsL_law_r10 : List Cond := [Cond.code yX0_makeAlike cX0_makeAlike 4 none, Cond.methodLink RX6 85 yX2_keep, Cond.instanceMethod yX2_keep, Cond.selects RX2 yX2_keep yX2_keep, Cond.code yX2_keep cX2_keep 1 none, Cond.methodLink RL 17 yX7_sets, Cond.instanceMethod yX7_sets, Cond.selects RX7 yX7_sets yX7_sets, Cond.code yX7_sets cX7_sets 5 (some .int), Cond.methodLink RX7 61 yX7_isCell, Cond.static yX7_isCell, Cond.code yX7_isCell cX7_isCell 1 (some .boolean), Cond.methodLink RX7 49 yX7_in, Cond.static yX7_in, Cond.code yX7_in cX7_in 3 (some .boolean), Cond.methodLink RX7 65 yX7_refuses, Cond.instanceMethod yX7_refuses, Cond.selects RX7 yX7_refuses yX7_refuses, Cond.code yX7_refuses cX7_refuses 2 (some .int), Cond.methodLink RX7 68 yX7_aside, Cond.instanceMethod yX7_aside, Cond.selects RX7 yX7_aside yX7_aside, Cond.code yX7_aside cX7_aside 2 none, Cond.methodLink RX7 71 yX7_keeps]
def wsL_law_r11 : List Cond := [Cond.instanceMethod yX7_keeps, Cond.selects RX7 yX7_keeps yX7_keeps, Cond.code yX7_keeps cX7_keeps 2 none, Cond.fieldLink RX7 53 "FillCellsModel" "known" "I", Cond.methodLink RX7 74 yX7_settles, Cond.instanceMethod yX7_settles, Cond.selects RX7 yX7_settles yX7_settles, Cond.code yX7_settles cX7_settles 4 none, Cond.methodLink RX7 57 yX7_sumOf, Cond.instanceMethod yX7_sumOf, Cond.selects RX7 yX7_sumOf yX7_sumOf, Cond.code yX7_sumOf cX7_sumOf 2 (some .int), Cond.methodLink RL 18 yX6_draw, Cond.instanceMethod yX6_draw, Cond.selects RX6 yX6_draw yX6_draw, Cond.code yX6_draw cX6_draw 3 (some .int), Cond.constant RX6 88 (999999), Cond.fieldLink RX6 93 "FillCells$Field" "fill" "[I", Cond.fieldLink RX6 101 "FillCells$Field" "shapes" "[I", Cond.methodLink RX6 89 yX0_drawShapes, Cond.instanceMethod yX0_drawShapes, Cond.selects RX0 yX0_drawShapes yX0_drawShapes, Cond.code yX0_drawShapes cX0_drawShapes 7 none, Cond.methodLink RX0 27 Lib.Math.max.name]
def wsL_law_r12 : List Cond := [Cond.static Lib.Math.max.name, Cond.code Lib.Math.max.name Lib.Math.max.code 2 (some .int), Cond.constantLong RX0 33 (1103515245), Cond.constantLong RX0 35 (12345), Cond.constantLong RX0 37 (2147483648), Cond.constantLong RX0 39 (65536), Cond.methodLink RX6 96 yJ7_fill_53178, Cond.methodLink RX6 104 yX6_total, Cond.static yX6_total, Cond.code yX6_total cX6_total 6 (some .int), Cond.methodLink RL 22 yX7_draw, Cond.instanceMethod yX7_draw, Cond.selects RX7 yX7_draw yX7_draw, Cond.code yX7_draw cX7_draw 7 (some .int), Cond.constant RX7 77 (999999), Cond.constantLong RX7 78 (1103515245), Cond.constantLong RX7 80 (12345), Cond.constantLong RX7 82 (2147483648), Cond.constantLong RX7 84 (65536), Cond.methodLink RL 23 yX6_empties, Cond.instanceMethod yX6_empties, Cond.selects RX6 yX6_empties yX6_empties, Cond.code yX6_empties cX6_empties 2 (some .int), Cond.methodLink RL 27 yX7_empties]
def wsL_law_r13 : List Cond := [Cond.instanceMethod yX7_empties, Cond.selects RX7 yX7_empties yX7_empties, Cond.code yX7_empties cX7_empties 3 (some .int), Cond.methodLink RX7 86 yX7_fillOf, Cond.instanceMethod yX7_fillOf, Cond.selects RX7 yX7_fillOf yX7_fillOf, Cond.code yX7_fillOf cX7_fillOf 3 (some .int), Cond.methodLink RL 28 yX6_rules, Cond.instanceMethod yX6_rules, Cond.selects RX6 yX6_rules yX6_rules, Cond.code yX6_rules cX6_rules 4 (some .int), Cond.fieldLink RX6 108 "FillCells" "SETTING_LEAST" "[I", Cond.fieldLink RX6 111 "FillCells" "SETTING_MOST" "[I", Cond.methodLink RL 31 yX7_rules, Cond.instanceMethod yX7_rules, Cond.selects RX7 yX7_rules yX7_rules, Cond.code yX7_rules cX7_rules 5 (some .int), Cond.methodLink RL 32 yX6_of, Cond.instanceMethod yX6_of, Cond.selects RX6 yX6_of yX6_of, Cond.code yX6_of cX6_of 3 (some .int), Cond.fieldLink RX6 121 "FillCells$Windows" "thinOver" "[I", Cond.methodLink RX6 114 yX1_may, Cond.instanceMethod yX1_may]
def wsL_law_r14 : List Cond := [Cond.selects RX1 yX1_may yX1_may, Cond.code yX1_may cX1_may 3 (some .boolean), Cond.fieldLink RX1 58 "FillCells$Field" "twins" "[I", Cond.methodLink RX1 61 yX1_loneMay, Cond.instanceMethod yX1_loneMay, Cond.selects RX1 yX1_loneMay yX1_loneMay, Cond.code yX1_loneMay cX1_loneMay 2 (some .boolean), Cond.fieldLink RX1 69 "FillCells$Field" "fill" "[I", Cond.fieldLink RX1 76 "FillCells$Windows" "fullOver" "[I", Cond.methodLink RX1 72 yX0_room, Cond.methodLink RX1 79 yX3_bear, Cond.instanceMethod yX3_bear, Cond.selects RX3 yX3_bear yX3_bear, Cond.code yX3_bear cX3_bear 5 (some .boolean), Cond.methodLink RX3 48 yX3_gain, Cond.instanceMethod yX3_gain, Cond.selects RX3 yX3_gain yX3_gain, Cond.code yX3_gain cX3_gain 4 (some .int), Cond.methodLink RX1 65 yX1_twinsMay, Cond.instanceMethod yX1_twinsMay, Cond.selects RX1 yX1_twinsMay yX1_twinsMay, Cond.code yX1_twinsMay cX1_twinsMay 4 (some .boolean), Cond.methodLink RX1 82 yX5_bearTwins, Cond.instanceMethod yX5_bearTwins]
def wsL_law_r15 : List Cond := [Cond.selects RX5 yX5_bearTwins yX5_bearTwins, Cond.code yX5_bearTwins cX5_bearTwins 4 (some .boolean), Cond.methodLink RL 35 yX7_of, Cond.instanceMethod yX7_of, Cond.selects RX7 yX7_of yX7_of, Cond.code yX7_of cX7_of 3 (some .int), Cond.methodLink RX7 122 yX7_lays, Cond.instanceMethod yX7_lays, Cond.selects RX7 yX7_lays yX7_lays, Cond.code yX7_lays cX7_lays 1 none, Cond.methodLink RX7 103 yX7_laysSums, Cond.instanceMethod yX7_laysSums, Cond.selects RX7 yX7_laysSums yX7_laysSums, Cond.code yX7_laysSums cX7_laysSums 4 none, Cond.methodLink RX7 90 yX7_isWindow, Cond.instanceMethod yX7_isWindow, Cond.selects RX7 yX7_isWindow yX7_isWindow, Cond.code yX7_isWindow cX7_isWindow 2 (some .boolean), Cond.methodLink RX7 106 yX7_laysThin, Cond.instanceMethod yX7_laysThin, Cond.selects RX7 yX7_laysThin yX7_laysThin, Cond.code yX7_laysThin cX7_laysThin 3 none, Cond.methodLink RX7 93 yX7_isThin, Cond.instanceMethod yX7_isThin]
def wsL_law_r16 : List Cond := [Cond.selects RX7 yX7_isThin yX7_isThin, Cond.code yX7_isThin cX7_isThin 2 (some .boolean), Cond.methodLink RX7 109 yX7_laysBurdens, Cond.instanceMethod yX7_laysBurdens, Cond.selects RX7 yX7_laysBurdens yX7_laysBurdens, Cond.code yX7_laysBurdens cX7_laysBurdens 3 none, Cond.methodLink RX7 100 yX7_isBurden, Cond.instanceMethod yX7_isBurden, Cond.selects RX7 yX7_isBurden yX7_isBurden, Cond.code yX7_isBurden cX7_isBurden 3 (some .boolean), Cond.methodLink RX7 96 yX7_liesBeside, Cond.instanceMethod yX7_liesBeside, Cond.selects RX7 yX7_liesBeside yX7_liesBeside, Cond.code yX7_liesBeside cX7_liesBeside 4 (some .boolean), Cond.methodLink RX7 125 yX7_may, Cond.instanceMethod yX7_may, Cond.selects RX7 yX7_may yX7_may, Cond.code yX7_may cX7_may 5 (some .boolean), Cond.fieldLink RX7 112 "FillCellsModel" "size" "I", Cond.methodLink RX7 115 yX7_marks, Cond.instanceMethod yX7_marks, Cond.selects RX7 yX7_marks yX7_marks, Cond.code yX7_marks cX7_marks 4 none, Cond.methodLink RX7 119 yX7_manyIn]
def wsL_law_r17 : List Cond := [Cond.instanceMethod yX7_manyIn, Cond.selects RX7 yX7_manyIn yX7_manyIn, Cond.code yX7_manyIn cX7_manyIn 4 (some .int), Cond.methodLink RL 36 yX6_sum, Cond.instanceMethod yX6_sum, Cond.selects RX6 yX6_sum yX6_sum, Cond.code yX6_sum cX6_sum 2 (some .int), Cond.fieldLink RX6 126 "FillCells$Windows" "sums" "[I", Cond.methodLink RL 40 yX7_sum, Cond.instanceMethod yX7_sum, Cond.selects RX7 yX7_sum yX7_sum, Cond.code yX7_sum cX7_sum 2 (some .int), Cond.methodLink RL 41 yX6_windows, Cond.instanceMethod yX6_windows, Cond.selects RX6 yX6_windows yX6_windows, Cond.code yX6_windows cX6_windows 2 (some .int), Cond.methodLink RX6 129 yX5_count, Cond.instanceMethod yX5_count, Cond.selects RX5 yX5_count yX5_count, Cond.code yX5_count cX5_count 1 (some .int), Cond.methodLink RX6 133 yX5_countThin, Cond.instanceMethod yX5_countThin, Cond.selects RX5 yX5_countThin yX5_countThin, Cond.code yX5_countThin cX5_countThin 3 (some .int)]
def wsL_law_r18 : List Cond := [Cond.methodLink RX6 136 yX5_countThick, Cond.instanceMethod yX5_countThick, Cond.selects RX5 yX5_countThick yX5_countThick, Cond.code yX5_countThick cX5_countThick 3 (some .int), Cond.methodLink RX6 139 yX5_countUnlike, Cond.instanceMethod yX5_countUnlike, Cond.selects RX5 yX5_countUnlike yX5_countUnlike, Cond.code yX5_countUnlike cX5_countUnlike 3 (some .int), Cond.methodLink RX5 91 yX5_sumAbove, Cond.instanceMethod yX5_sumAbove, Cond.selects RX5 yX5_sumAbove yX5_sumAbove, Cond.code yX5_sumAbove cX5_sumAbove 4 (some .int), Cond.methodLink RL 44 yX7_windows, Cond.instanceMethod yX7_windows, Cond.selects RX7 yX7_windows yX7_windows, Cond.code yX7_windows cX7_windows 2 (some .int), Cond.methodLink RX7 128 yX7_windowsNow, Cond.instanceMethod yX7_windowsNow, Cond.selects RX7 yX7_windowsNow yX7_windowsNow, Cond.code yX7_windowsNow cX7_windowsNow 6 (some .int), Cond.methodLink RL 45 yX6_worst, Cond.instanceMethod yX6_worst, Cond.selects RX6 yX6_worst yX6_worst, Cond.code yX6_worst cX6_worst 2 (some .int)]
def wsL_law_r19 : List Cond := [Cond.methodLink RX6 142 yX5_atLeast, Cond.instanceMethod yX5_atLeast, Cond.selects RX5 yX5_atLeast yX5_atLeast, Cond.code yX5_atLeast cX5_atLeast 3 (some .int), Cond.methodLink RX6 145 yX5_atGreatest, Cond.instanceMethod yX5_atGreatest, Cond.selects RX5 yX5_atGreatest yX5_atGreatest, Cond.code yX5_atGreatest cX5_atGreatest 3 (some .int), Cond.methodLink RL 48 yX7_worst, Cond.instanceMethod yX7_worst, Cond.selects RX7 yX7_worst yX7_worst, Cond.code yX7_worst cX7_worst 5 (some .int), Cond.methodLink RL 49 yX6_order, Cond.instanceMethod yX6_order, Cond.selects RX6 yX6_order yX6_order, Cond.code yX6_order cX6_order 4 (some .int), Cond.methodLink RX6 148 yX5_unlikeSum, Cond.instanceMethod yX5_unlikeSum, Cond.selects RX5 yX5_unlikeSum yX5_unlikeSum, Cond.code yX5_unlikeSum cX5_unlikeSum 4 (some .int), Cond.methodLink RX6 151 yX5_countOf, Cond.instanceMethod yX5_countOf, Cond.selects RX5 yX5_countOf yX5_countOf, Cond.code yX5_countOf cX5_countOf 4 (some .int)]
def wsL_law_r20 : List Cond := [Cond.methodLink RL 52 yX7_order, Cond.instanceMethod yX7_order, Cond.selects RX7 yX7_order yX7_order, Cond.code yX7_order cX7_order 6 (some .int), Cond.methodLink RX7 131 yX7_lessThan, Cond.instanceMethod yX7_lessThan, Cond.selects RX7 yX7_lessThan yX7_lessThan, Cond.code yX7_lessThan cX7_lessThan 7 (some .int), Cond.methodLink RL 53 yX6_turn, Cond.instanceMethod yX6_turn, Cond.selects RX6 yX6_turn yX6_turn, Cond.code yX6_turn cX6_turn 2 (some .int), Cond.methodLink RX6 154 yX5_rising, Cond.instanceMethod yX5_rising, Cond.selects RX5 yX5_rising yX5_rising, Cond.code yX5_rising cX5_rising 6 (some .int), Cond.methodLink RX5 94 yX5_countOf, Cond.methodLink RX5 97 yX5_likeOne, Cond.instanceMethod yX5_likeOne, Cond.selects RX5 yX5_likeOne yX5_likeOne, Cond.code yX5_likeOne cX5_likeOne 5 (some .int), Cond.methodLink RL 56 yX7_turn, Cond.instanceMethod yX7_turn, Cond.selects RX7 yX7_turn yX7_turn]
def wsL_law_r21 : List Cond := [Cond.code yX7_turn cX7_turn 6 (some .int), Cond.methodLink RL 57 yX6_burden, Cond.instanceMethod yX6_burden, Cond.selects RX6 yX6_burden yX6_burden, Cond.code yX6_burden cX6_burden 2 (some .int), Cond.fieldLink RX6 161 "FillCells$Nets" "burdens" "[I", Cond.methodLink RL 60 yX7_burden, Cond.instanceMethod yX7_burden, Cond.selects RX7 yX7_burden yX7_burden, Cond.code yX7_burden cX7_burden 2 (some .int), Cond.methodLink RL 61 yX6_all, Cond.instanceMethod yX6_all, Cond.selects RX6 yX6_all yX6_all, Cond.code yX6_all cX6_all 2 (some .int), Cond.fieldLink RX6 169 "FillCells$Field" "shut" "[I", Cond.methodLink RX6 166 yX0_countFilled, Cond.instanceMethod yX0_countFilled, Cond.selects RX0 yX0_countFilled yX0_countFilled, Cond.code yX0_countFilled cX0_countFilled 3 (some .int), Cond.methodLink RL 64 yX7_all, Cond.instanceMethod yX7_all, Cond.selects RX7 yX7_all yX7_all, Cond.code yX7_all cX7_all 4 (some .int), Cond.methodLink RL 65 yX6_more]
def wsL_law_r22 : List Cond := [Cond.instanceMethod yX6_more, Cond.selects RX6 yX6_more yX6_more, Cond.code yX6_more cX6_more 2 (some .int), Cond.methodLink RX6 172 yX6_changeFamily, Cond.instanceMethod yX6_changeFamily, Cond.selects RX6 yX6_changeFamily yX6_changeFamily, Cond.code yX6_changeFamily cX6_changeFamily 3 (some .int), Cond.methodLink RX6 230 yX1_change, Cond.instanceMethod yX1_change, Cond.selects RX1 yX1_change yX1_change, Cond.code yX1_change cX1_change 5 none, Cond.methodLink RX1 121 yX5_shift, Cond.instanceMethod yX5_shift, Cond.selects RX5 yX5_shift yX5_shift, Cond.code yX5_shift cX5_shift 9 none, Cond.methodLink RX5 74 Lib.Math.min.name, Cond.methodLink RX5 80 Lib.Math.max.name, Cond.methodLink RX5 83 yX5_shiftOne, Cond.instanceMethod yX5_shiftOne, Cond.selects RX5 yX5_shiftOne yX5_shiftOne, Cond.code yX5_shiftOne cX5_shiftOne 5 none, Cond.methodLink RX1 125 yX3_shift, Cond.methodLink RL 68 yX7_more, Cond.instanceMethod yX7_more]
def wsL_law_r23 : List Cond := [Cond.selects RX7 yX7_more yX7_more, Cond.code yX7_more cX7_more 2 (some .int), Cond.methodLink RX7 135 yX7_fills, Cond.instanceMethod yX7_fills, Cond.selects RX7 yX7_fills yX7_fills, Cond.code yX7_fills cX7_fills 3 none, Cond.methodLink RL 69 yX6_less, Cond.instanceMethod yX6_less, Cond.selects RX6 yX6_less yX6_less, Cond.code yX6_less cX6_less 2 (some .int), Cond.methodLink RL 72 yX7_less, Cond.instanceMethod yX7_less, Cond.selects RX7 yX7_less yX7_less, Cond.code yX7_less cX7_less 2 (some .int), Cond.methodLink RL 73 yX6_next, Cond.instanceMethod yX6_next, Cond.selects RX6 yX6_next yX6_next, Cond.code yX6_next cX6_next 1 (some .int), Cond.methodLink RX6 176 yX1_choice, Cond.instanceMethod yX1_choice, Cond.selects RX1 yX1_choice yX1_choice, Cond.code yX1_choice cX1_choice 7 (some .int), Cond.methodLink RX1 85 yX5_atLeast, Cond.methodLink RX1 89 yX5_isThin]
def wsL_law_r24 : List Cond := [Cond.methodLink RX1 92 yX1_chooseTwins, Cond.instanceMethod yX1_chooseTwins, Cond.selects RX1 yX1_chooseTwins yX1_chooseTwins, Cond.code yX1_chooseTwins cX1_chooseTwins 4 none, Cond.methodLink RX1 103 yX1_wantedTwin, Cond.instanceMethod yX1_wantedTwin, Cond.selects RX1 yX1_wantedTwin yX1_wantedTwin, Cond.code yX1_wantedTwin cX1_wantedTwin 4 (some .int), Cond.methodLink RX1 106 yX1_isWanted, Cond.instanceMethod yX1_isWanted, Cond.selects RX1 yX1_isWanted yX1_isWanted, Cond.code yX1_isWanted cX1_isWanted 3 (some .boolean), Cond.fieldLink RX1 109 "FillCells$Windows" "thinOver" "[I", Cond.methodLink RX1 112 yX5_has, Cond.instanceMethod yX5_has, Cond.selects RX5 yX5_has yX5_has, Cond.code yX5_has cX5_has 5 (some .boolean), Cond.methodLink RX1 96 yX1_isChosen, Cond.instanceMethod yX1_isChosen, Cond.selects RX1 yX1_isChosen yX1_isChosen, Cond.code yX1_isChosen cX1_isChosen 4 (some .boolean), Cond.methodLink RX1 99 yX1_rank, Cond.instanceMethod yX1_rank, Cond.selects RX1 yX1_rank yX1_rank]
def wsL_law_r25 : List Cond := [Cond.code yX1_rank cX1_rank 3 (some .int), Cond.methodLink RX1 115 yX0_sumOf, Cond.methodLink RX1 118 yX3_gainOfAll, Cond.instanceMethod yX3_gainOfAll, Cond.selects RX3 yX3_gainOfAll yX3_gainOfAll, Cond.code yX3_gainOfAll cX3_gainOfAll 5 (some .int), Cond.methodLink RL 76 yX7_next, Cond.instanceMethod yX7_next, Cond.selects RX7 yX7_next yX7_next, Cond.code yX7_next cX7_next 1 (some .int), Cond.methodLink RX7 151 yX7_nextBy, Cond.instanceMethod yX7_nextBy, Cond.selects RX7 yX7_nextBy yX7_nextBy, Cond.code yX7_nextBy cX7_nextBy 7 (some .int), Cond.methodLink RX7 141 yX7_thinnest, Cond.instanceMethod yX7_thinnest, Cond.selects RX7 yX7_thinnest yX7_thinnest, Cond.code yX7_thinnest cX7_thinnest 3 (some .int), Cond.methodLink RX7 144 yX7_reaches, Cond.instanceMethod yX7_reaches, Cond.selects RX7 yX7_reaches yX7_reaches, Cond.code yX7_reaches cX7_reaches 4 (some .boolean), Cond.methodLink RX7 138 yX7_has, Cond.instanceMethod yX7_has]
def wsL_law_r26 : List Cond := [Cond.selects RX7 yX7_has yX7_has, Cond.code yX7_has cX7_has 3 (some .boolean), Cond.methodLink RX7 147 yX7_keyBy, Cond.instanceMethod yX7_keyBy, Cond.selects RX7 yX7_keyBy yX7_keyBy, Cond.code yX7_keyBy cX7_keyBy 3 (some .int), Cond.methodLink RL 77 yX6_steps, Cond.instanceMethod yX6_steps, Cond.selects RX6 yX6_steps yX6_steps, Cond.code yX6_steps cX6_steps 3 (some .int), Cond.methodLink RX6 179 yX1_stepOn, Cond.instanceMethod yX1_stepOn, Cond.selects RX1 yX1_stepOn yX1_stepOn, Cond.code yX1_stepOn cX1_stepOn 5 (some .int), Cond.methodLink RX1 126 yX1_choice, Cond.methodLink RX1 129 yX1_change, Cond.methodLink RL 80 yX7_steps, Cond.instanceMethod yX7_steps, Cond.selects RX7 yX7_steps yX7_steps, Cond.code yX7_steps cX7_steps 3 (some .int), Cond.methodLink RX7 154 yX7_stepsBy, Cond.instanceMethod yX7_stepsBy, Cond.selects RX7 yX7_stepsBy yX7_stepsBy, Cond.code yX7_stepsBy cX7_stepsBy 4 (some .int)]
def wsL_law_r27 : List Cond := [Cond.methodLink RL 81 yX6_thins, Cond.instanceMethod yX6_thins, Cond.selects RX6 yX6_thins yX6_thins, Cond.code yX6_thins cX6_thins 2 (some .int), Cond.methodLink RX6 182 yX1_thinOut, Cond.instanceMethod yX1_thinOut, Cond.selects RX1 yX1_thinOut yX1_thinOut, Cond.code yX1_thinOut cX1_thinOut 4 (some .int), Cond.methodLink RX1 139 Lib.Math.min.name, Cond.methodLink RX1 136 yX5_slack, Cond.instanceMethod yX5_slack, Cond.selects RX5 yX5_slack yX5_slack, Cond.code yX5_slack cX5_slack 6 (some .int), Cond.methodLink RX5 87 yX5_share, Cond.instanceMethod yX5_share, Cond.selects RX5 yX5_share yX5_share, Cond.code yX5_share cX5_share 4 (some .int), Cond.methodLink RX5 37 yX5_has, Cond.methodLink RL 84 yX7_thins, Cond.instanceMethod yX7_thins, Cond.selects RX7 yX7_thins yX7_thins, Cond.code yX7_thins cX7_thins 2 (some .int), Cond.methodLink RX7 161 yX7_loses, Cond.instanceMethod yX7_loses]
def wsL_law_r28 : List Cond := [Cond.selects RX7 yX7_loses yX7_loses, Cond.code yX7_loses cX7_loses 3 (some .int), Cond.methodLink RX7 157 yX7_mayLose, Cond.instanceMethod yX7_mayLose, Cond.selects RX7 yX7_mayLose yX7_mayLose, Cond.code yX7_mayLose cX7_mayLose 3 (some .boolean), Cond.methodLink RL 85 yX6_best, Cond.instanceMethod yX6_best, Cond.selects RX6 yX6_best yX6_best, Cond.code yX6_best cX6_best 2 (some .int), Cond.fieldLink RX6 188 "FillCells$Filling" "bestRule" "I", Cond.fieldLink RX6 191 "FillCells$Filling" "bestThin" "I", Cond.fieldLink RX6 194 "FillCells$Filling" "bestFill" "I", Cond.methodLink RX6 185 yX1_tryRules, Cond.instanceMethod yX1_tryRules, Cond.selects RX1 yX1_tryRules yX1_tryRules, Cond.code yX1_tryRules cX1_tryRules 2 none, Cond.methodLink RX1 144 arraycopyName, Cond.native arraycopyName, Cond.static arraycopyName, Cond.initialized "java/lang/System", Cond.methodLink RX1 150 yX1_stepOn, Cond.methodLink RX1 153 yX1_thinOut, Cond.methodLink RX1 156 yX5_countThin]
def wsL_law_r29 : List Cond := [Cond.methodLink RX1 159 yX1_rate, Cond.instanceMethod yX1_rate, Cond.selects RX1 yX1_rate yX1_rate, Cond.code yX1_rate cX1_rate 4 none, Cond.methodLink RX1 163 yX1_measure, Cond.methodLink RL 88 yX7_best, Cond.instanceMethod yX7_best, Cond.selects RX7 yX7_best yX7_best, Cond.code yX7_best cX7_best 5 (some .int), Cond.methodLink RX7 164 yX7_back, Cond.instanceMethod yX7_back, Cond.selects RX7 yX7_back yX7_back, Cond.code yX7_back cX7_back 2 none, Cond.methodLink RL 89 yX6_row, Cond.instanceMethod yX6_row, Cond.selects RX6 yX6_row yX6_row, Cond.code yX6_row cX6_row 3 (some .int), Cond.methodLink RX6 197 yX1_leastInRow, Cond.instanceMethod yX1_leastInRow, Cond.selects RX1 yX1_leastInRow yX1_leastInRow, Cond.code yX1_leastInRow cX1_leastInRow 9 (some .int), Cond.fieldLink RX1 165 "FillCells$Field" "shapes" "[I", Cond.fieldLink RX1 168 "FillCells$Windows" "width" "I", Cond.fieldLink RX1 174 "FillCells$Field" "shut" "[I"]
def wsL_law_r30 : List Cond := [Cond.methodLink RX1 171 yX1_stretch, Cond.instanceMethod yX1_stretch, Cond.selects RX1 yX1_stretch yX1_stretch, Cond.code yX1_stretch cX1_stretch 4 (some .int), Cond.methodLink RL 92 yX7_row, Cond.instanceMethod yX7_row, Cond.selects RX7 yX7_row yX7_row, Cond.code yX7_row cX7_row 9 (some .int), Cond.methodLink RL 93 yX6_undo, Cond.instanceMethod yX6_undo, Cond.selects RX6 yX6_undo yX6_undo, Cond.code yX6_undo cX6_undo 1 (some .int), Cond.fieldLink RX6 200 "FillCells$History" "kept" "I", Cond.methodLink RX6 203 yX2_takeBack, Cond.instanceMethod yX2_takeBack, Cond.selects RX2 yX2_takeBack yX2_takeBack, Cond.code yX2_takeBack cX2_takeBack 4 none, Cond.methodLink RX2 31 yX0_unpack, Cond.instanceMethod yX0_unpack, Cond.selects RX0 yX0_unpack yX0_unpack, Cond.code yX0_unpack cX0_unpack 3 none, Cond.methodLink RL 96 yX7_undo, Cond.instanceMethod yX7_undo, Cond.selects RX7 yX7_undo yX7_undo]
def wsL_law_r31 : List Cond := [Cond.code yX7_undo cX7_undo 2 (some .int), Cond.methodLink RL 97 yX6_type, Cond.instanceMethod yX6_type, Cond.selects RX6 yX6_type yX6_type, Cond.code yX6_type cX6_type 2 (some .int), Cond.fieldLink RX6 206 "FillCells$Text" "length" "I", Cond.methodLink RX6 209 yX4_append, Cond.instanceMethod yX4_append, Cond.selects RX4 yX4_append yX4_append, Cond.code yX4_append cX4_append 2 none, Cond.methodLink RL 100 yX7_type, Cond.instanceMethod yX7_type, Cond.selects RX7 yX7_type yX7_type, Cond.code yX7_type cX7_type 2 (some .int), Cond.fieldLink RX7 167 "FillCellsModel" "typed" "I", Cond.methodLink RL 101 yX6_clear, Cond.instanceMethod yX6_clear, Cond.selects RX6 yX6_clear yX6_clear, Cond.code yX6_clear cX6_clear 2 (some .int), Cond.methodLink RL 104 yX7_clear, Cond.instanceMethod yX7_clear, Cond.selects RX7 yX7_clear yX7_clear, Cond.code yX7_clear cX7_clear 2 (some .int), Cond.methodLink RL 105 yX6_reads]
def wsL_law_r32 : List Cond := [Cond.instanceMethod yX6_reads, Cond.selects RX6 yX6_reads yX6_reads, Cond.code yX6_reads cX6_reads 3 (some .int), Cond.methodLink RX6 213 yX4_fault, Cond.instanceMethod yX4_fault, Cond.selects RX4 yX4_fault yX4_fault, Cond.code yX4_fault cX4_fault 6 (some .int), Cond.methodLink RX4 19 yX4_isSign, Cond.static yX4_isSign, Cond.code yX4_isSign cX4_isSign 1 (some .boolean), Cond.methodLink RX6 216 yX4_tell, Cond.instanceMethod yX4_tell, Cond.selects RX4 yX4_tell yX4_tell, Cond.code yX4_tell cX4_tell 6 (some .int), Cond.methodLink RX4 23 yX4_tellCell, Cond.static yX4_tellCell, Cond.code yX4_tellCell cX4_tellCell 3 none, Cond.fieldLink RX4 30 "FillCells$Field" "shut" "[I", Cond.fieldLink RX4 35 "FillCells$Field" "shapes" "[I", Cond.methodLink RL 108 yX7_reads, Cond.instanceMethod yX7_reads, Cond.selects RX7 yX7_reads yX7_reads, Cond.code yX7_reads cX7_reads 3 (some .int), Cond.fieldLink RX7 170 "FillCellsModel" "at" "I"]
def wsL_law_r33 : List Cond := [Cond.methodLink RX7 176 yX7_skips, Cond.instanceMethod yX7_skips, Cond.selects RX7 yX7_skips yX7_skips, Cond.code yX7_skips cX7_skips 1 none, Cond.methodLink RX7 173 yX7_byteAt, Cond.instanceMethod yX7_byteAt, Cond.selects RX7 yX7_byteAt yX7_byteAt, Cond.code yX7_byteAt cX7_byteAt 2 (some .int), Cond.methodLink RX7 183 yX7_isRow, Cond.instanceMethod yX7_isRow, Cond.selects RX7 yX7_isRow yX7_isRow, Cond.code yX7_isRow cX7_isRow 4 (some .boolean), Cond.methodLink RX7 179 yX7_becomes, Cond.instanceMethod yX7_becomes, Cond.selects RX7 yX7_becomes yX7_becomes, Cond.code yX7_becomes cX7_becomes 3 none, Cond.methodLink RL 109 yX6_told, Cond.instanceMethod yX6_told, Cond.selects RX6 yX6_told yX6_told, Cond.code yX6_told cX6_told 2 (some .int), Cond.methodLink RL 112 yX7_told, Cond.instanceMethod yX7_told, Cond.selects RX7 yX7_told yX7_told, Cond.code yX7_told cX7_told 2 (some .int)]
def wsL_law_r34 : List Cond := [Cond.methodLink RX7 186 yX7_toldOf, Cond.instanceMethod yX7_toldOf, Cond.selects RX7 yX7_toldOf yX7_toldOf, Cond.code yX7_toldOf cX7_toldOf 2 (some .int), Cond.methodLink RL 113 yX6_digest, Cond.instanceMethod yX6_digest, Cond.selects RX6 yX6_digest yX6_digest, Cond.code yX6_digest cX6_digest 5 (some .long), Cond.constantLong RX6 220 (2081), Cond.constantLong RX6 222 (31), Cond.methodLink RX6 224 yX6_told, Cond.methodLink RL 117 yX7_digest, Cond.instanceMethod yX7_digest, Cond.selects RX7 yX7_digest yX7_digest, Cond.code yX7_digest cX7_digest 5 (some .long), Cond.constantLong RX7 189 (2081), Cond.constantLong RX7 191 (31)]
def wsL_law : List Cond := (wsL_law_r1 ++ (wsL_law_r2 ++ (wsL_law_r3 ++ (wsL_law_r4 ++ (wsL_law_r5 ++ (wsL_law_r6 ++ (wsL_law_r7 ++ (wsL_law_r8 ++ (wsL_law_r9 ++ (wsL_law_r10 ++ (wsL_law_r11 ++ (wsL_law_r12 ++ (wsL_law_r13 ++ (wsL_law_r14 ++ (wsL_law_r15 ++ (wsL_law_r16 ++ (wsL_law_r17 ++ (wsL_law_r18 ++ (wsL_law_r19 ++ (wsL_law_r20 ++ (wsL_law_r21 ++ (wsL_law_r22 ++ (wsL_law_r23 ++ (wsL_law_r24 ++ (wsL_law_r25 ++ (wsL_law_r26 ++ (wsL_law_r27 ++ (wsL_law_r28 ++ (wsL_law_r29 ++ (wsL_law_r30 ++ (wsL_law_r31 ++ (wsL_law_r32 ++ (wsL_law_r33 ++ wsL_law_r34))))))))))))))))))))))))))))))))) ++ wsX60 ++ wsX70 ++ wsX10 ++ wsX20 ++ wsX40 ++ wsX00 ++ wsX50 ++ wsX30 ++ ([] : List Cond)
abbrev vwCl : List vw_C := [(RX0, TX0, 5), (RX1, TX1, 9), (RX2, TX2, 3), (RX3, TX3, 4), (RX4, TX4, 2), (RX5, TX5, 8), (RX6, TX6, 7), (RX7, TX7, 17)]
end
section
/-! ===== THE BASE: pure words; the worlds of the class and of the reference; contracts that keep a whole world; calls ===== -/
/-- a state: arrays by their numbers, whole-number fields by theirs -/
abbrev St : Type := (Nat → Nat → Int32) × (Nat → Int32)
abbrev rd (σ : St) (k : Nat) (i : Int32) : Int32 := σ.1 k i.toNatClampNeg
abbrev gI (σ : St) (k : Nat) : Int32 := σ.2 k
def sAA (σ : St) (k : Nat) (g : Nat → Int32) : St := (fun j => bif Nat.beq j k then g else σ.1 j, σ.2)
def sA (σ : St) (k : Nat) (i x : Int32) : St := sAA σ k (upd (σ.1 k) i.toNatClampNeg x)
def sI (σ : St) (k : Nat) (x : Int32) : St := (σ.1, fun j => bif Nat.beq j k then x else σ.2 j)
abbrev jrem (x y : Int32) : Int32 := x - x / y * y
abbrev jlrem (x y : Int64) : Int64 := x - x / y * y
def gd {α : Type} (i : Int32) (n : Nat) (e : Option α) : Option α := if i < 0 ∨ n ≤ i.toNatClampNeg then none else e
theorem gd_some {α : Type} {i : Int32} {n : Nat} {e : Option α} {r : α} (h : gd i n e = some r) : vp_in i n ∧ e = some r := by
  unfold gd at h
  split at h
  · cases h
  · rename_i h1
    exact ⟨h1, h⟩
def dz {α : Type} (y : Int32) (e : Option α) : Option α := if y = 0 then none else e
theorem dz_some {α : Type} {y : Int32} {e : Option α} {r : α} (h : dz y e = some r) : (¬ y = 0) ∧ e = some r := by
  unfold dz at h
  split at h
  · cases h
  · rename_i h1
    exact ⟨h1, h⟩
def dzl {α : Type} (y : Int64) (e : Option α) : Option α := if y = 0 then none else e
theorem dzl_some {α : Type} {y : Int64} {e : Option α} {r : α} (h : dzl y e = some r) : (¬ y = 0) ∧ e = some r := by
  unfold dzl at h
  split at h
  · cases h
  · rename_i h1
    exact ⟨h1, h⟩
/-- an answer that is true or false -/
def gb {α : Type} (v : Int32) (e : Option α) : Option α := if v &&& 1 = v then e else none
theorem gb_some {α : Type} {v : Int32} {e : Option α} {r : α} (h : gb v e = some r) : narrow .boolean (.int v) = .int v ∧ e = some r := by
  unfold gb at h
  split at h
  · rename_i h1
    exact ⟨by simp [narrow, h1], h⟩
  · cases h
/-- any other thing that must hold -/
def gq {α : Type} (c : Prop) [Decidable c] (e : Option α) : Option α := if c then e else none
theorem gq_some {α : Type} {c : Prop} [Decidable c] {e : Option α} {r : α} (h : gq c e = some r) : c ∧ e = some r := by
  unfold gq at h
  split at h
  · rename_i h1
    exact ⟨h1, h⟩
  · cases h
def bnd {α β : Type} (o : Option α) (k : α → Option β) : Option β := match o with
  | none => none
  | some x => k x
theorem bnd_some {α β : Type} {o : Option α} {k : α → Option β} {r : β} (h : bnd o k = some r) : ∃ x, o = some x ∧ k x = some r := by
  cases o with
  | none => cases h
  | some x => exact ⟨x, rfl, h⟩
theorem ip {α : Type} {c : Prop} {d : Decidable c} {a b : α} {r : α} (h : c) (hE : @ite α c d a b = r) : a = r := by rw [if_pos h] at hE; exact hE
theorem im {α : Type} {c : Prop} {d : Decidable c} {a b : α} {r : α} (h : ¬ c) (hE : @ite α c d a b = r) : b = r := by rw [if_neg h] at hE; exact hE
def loopN {V Y : Type} (body : V → Option (Y ⊕ V)) : Nat → V → Option Y
  | 0, _ => none
  | n + 1, v => match body v with
    | none => none
    | some (.inl y) => some y
    | some (.inr v') => loopN body n v'
theorem loop_W {V Y : Type} {body : V → Option (Y ⊕ V)} {y : Y} {P : V → Prop} (hs : ∀ v t, body v = some t → (∀ v', t = .inr v' → P v') → (∀ y', t = .inl y' → y' = y) → P v) : ∀ n v, loopN body n v = some y → P v := by
  intro n
  induction n with
  | zero => intro v h; cases h
  | succ n ih =>
    intro v h
    unfold loopN at h
    cases hb : body v with
    | none => rw [hb] at h; cases h
    | some t =>
      rw [hb] at h
      refine hs v t hb ?_ ?_
      · intro v' e
        subst e
        exact ih v' h
      · intro y' e
        subst e
        exact Option.some.inj h
/-- an early answer out of a loop -/
def ear {R X T : Type} (inj : R → T) (y : R ⊕ X) (k : X → Option T) : Option T := match y with
  | .inl r => some (inj r)
  | .inr x => k x
theorem ear_l {R X T : Type} {inj : R → T} {y : R ⊕ X} {k : X → Option T} {r : T} (r' : R) (he : Sum.inl r' = y) (h : ear inj y k = some r) : some (inj r') = some r := by
  subst he; exact h
theorem ear_r {R X T : Type} {inj : R → T} {y : R ⊕ X} {k : X → Option T} {r : T} (x : X) (he : Sum.inr x = y) (h : ear inj y k = some r) : k x = some r := by
  subst he; exact h
abbrev jmin (x y : Int32) : Int32 := if y < x then y else x
abbrev jmax (x y : Int32) : Int32 := if x < y then y else x
/-! ===== the worlds ===== -/
/-- the class tables' numbers, the array classes of int and boolean, the addresses of the cells, of the static rows -/
abbrev EV : Type := va_G × (ClassId × ClassId) × (Nat → Nat) × (Nat → Nat)
abbrev aD (G : EV) (k : Nat) : Nat := G.2.2.1 k
abbrev tD (G : EV) (k : Nat) : Nat := G.2.2.2 k
abbrev tyW (G : EV) : List (ClassId × FieldType) := [(G.2.1.1, .int), (G.2.1.2, .boolean)]
def lnC (k : Nat) : Nat := match k with
  | 8 => 320
  | 9 => 4
  | 10 => 4
  | 12 => 16
  | 14 => 10
  | 15 => 720
  | 16 => 120
  | 17 => 8
  | _ => 80
def lnM (k : Nat) : Nat := match k with
  | 0 => 400
  | 1 => 3200
  | 2 => 400
  | 3 => 8
  | 4 => 3
  | 5 => 120
  | 10 => 4
  | 11 => 4
  | 12 => 15
  | _ => 80
/-- the class's world: 18 rows of ints, a row of booleans, 7 objects -/
abbrev wC (G : EV) (σ : St) : va_W := [
  (aD G 0, .inl (G.2.1.1, 80, .inl (σ.1 0))), (aD G 1, .inl (G.2.1.1, 80, .inl (σ.1 1))), (aD G 2, .inl (G.2.1.1, 80, .inl (σ.1 2))), (aD G 3, .inl (G.2.1.1, 80, .inl (σ.1 3))), (aD G 4, .inl (G.2.1.1, 80, .inl (σ.1 4))),
  (aD G 5, .inl (G.2.1.1, 80, .inl (σ.1 5))), (aD G 6, .inl (G.2.1.1, 80, .inl (σ.1 6))), (aD G 7, .inl (G.2.1.1, 80, .inl (σ.1 7))), (aD G 8, .inl (G.2.1.1, 320, .inl (σ.1 8))),
  (aD G 9, .inl (G.2.1.1, 4, .inl (σ.1 9))), (aD G 10, .inl (G.2.1.1, 4, .inl (σ.1 10))), (aD G 11, .inl (G.2.1.1, 80, .inl (σ.1 11))), (aD G 12, .inl (G.2.1.1, 16, .inl (σ.1 12))),
  (aD G 13, .inl (G.2.1.1, 80, .inl (σ.1 13))), (aD G 14, .inl (G.2.1.1, 10, .inl (σ.1 14))), (aD G 15, .inl (G.2.1.1, 720, .inl (σ.1 15))), (aD G 16, .inl (G.2.1.1, 120, .inl (σ.1 16))), (aD G 17, .inl (G.2.1.1, 8, .inl (σ.1 17))),
  (aD G 18, .inl (G.2.1.2, 4, .inl (σ.1 18))),
  (aD G 19, .inr (0, [.ref (aD G 0), .ref (aD G 1), .ref (aD G 2), .ref (aD G 3), .ref (aD G 4)])),
  (aD G 20, .inr (5, [.int (σ.2 6), .int (σ.2 7), .int (σ.2 8), .int (σ.2 9), .ref (aD G 5), .ref (aD G 6), .ref (aD G 7), .ref (aD G 8)])),
  (aD G 21, .inr (3, [.ref (aD G 9), .ref (aD G 10), .ref (aD G 11), .ref (aD G 12)])),
  (aD G 22, .inr (1, [.ref (aD G 19), .ref (aD G 20), .ref (aD G 21), .int (σ.2 0), .int (σ.2 1), .int (σ.2 2), .ref (aD G 18), .ref (aD G 13), .ref (aD G 14)])),
  (aD G 23, .inr (2, [.int (σ.2 3), .int (σ.2 4), .ref (aD G 15)])),
  (aD G 24, .inr (4, [.int (σ.2 5), .ref (aD G 16)])),
  (aD G 25, .inr (6, [.ref (aD G 22), .ref (aD G 23), .ref (aD G 24), .ref (aD G 17), .int (σ.2 10), .int (σ.2 11), .int (σ.2 12)]))]
/-- the reference's world: 13 rows of ints, one object -/
abbrev wM (G : EV) (σ : St) : va_W := [
  (aD G 30, .inl (G.2.1.1, 400, .inl (σ.1 0))), (aD G 31, .inl (G.2.1.1, 3200, .inl (σ.1 1))), (aD G 32, .inl (G.2.1.1, 400, .inl (σ.1 2))), (aD G 33, .inl (G.2.1.1, 8, .inl (σ.1 3))), (aD G 34, .inl (G.2.1.1, 3, .inl (σ.1 4))),
  (aD G 35, .inl (G.2.1.1, 120, .inl (σ.1 5))), (aD G 36, .inl (G.2.1.1, 80, .inl (σ.1 6))), (aD G 37, .inl (G.2.1.1, 80, .inl (σ.1 7))), (aD G 38, .inl (G.2.1.1, 80, .inl (σ.1 8))), (aD G 39, .inl (G.2.1.1, 80, .inl (σ.1 9))),
  (aD G 40, .inl (G.2.1.1, 4, .inl (σ.1 10))), (aD G 41, .inl (G.2.1.1, 4, .inl (σ.1 11))), (aD G 42, .inl (G.2.1.1, 15, .inl (σ.1 12))),
  (aD G 43, .inr (7, [.ref (aD G 30), .ref (aD G 31), .int (σ.2 0), .ref (aD G 32), .ref (aD G 33), .ref (aD G 34), .ref (aD G 35), .int (σ.2 1), .int (σ.2 2), .ref (aD G 36), .ref (aD G 37), .ref (aD G 38), .ref (aD G 39), .int (σ.2 3), .ref (aD G 40), .ref (aD G 41), .ref (aD G 42)]))]
theorem wC_at (G : EV) (σ : St) : ∀ k, k < 18 → (wC G σ)[k]? = some (aD G k, .inl (G.2.1.1, lnC k, .inl (σ.1 k))) := by
  intro k h
  match k, h with
  | 0, _ => rfl
  | 1, _ => rfl
  | 2, _ => rfl
  | 3, _ => rfl
  | 4, _ => rfl
  | 5, _ => rfl
  | 6, _ => rfl
  | 7, _ => rfl
  | 8, _ => rfl
  | 9, _ => rfl
  | 10, _ => rfl
  | 11, _ => rfl
  | 12, _ => rfl
  | 13, _ => rfl
  | 14, _ => rfl
  | 15, _ => rfl
  | 16, _ => rfl
  | 17, _ => rfl
  | k + 18, h => omega
theorem wC_set (G : EV) (σ : St) (g : Nat → Int32) : ∀ k, k < 18 → (wC G σ).set k (aD G k, .inl (G.2.1.1, lnC k, .inl g)) = wC G (sAA σ k g) := by
  intro k h
  match k, h with
  | 0, _ => rfl
  | 1, _ => rfl
  | 2, _ => rfl
  | 3, _ => rfl
  | 4, _ => rfl
  | 5, _ => rfl
  | 6, _ => rfl
  | 7, _ => rfl
  | 8, _ => rfl
  | 9, _ => rfl
  | 10, _ => rfl
  | 11, _ => rfl
  | 12, _ => rfl
  | 13, _ => rfl
  | 14, _ => rfl
  | 15, _ => rfl
  | 16, _ => rfl
  | 17, _ => rfl
  | k + 18, h => omega
theorem wM_at (G : EV) (σ : St) : ∀ k, k < 13 → (wM G σ)[k]? = some (aD G (30 + k), .inl (G.2.1.1, lnM k, .inl (σ.1 k))) := by
  intro k h
  match k, h with
  | 0, _ => rfl
  | 1, _ => rfl
  | 2, _ => rfl
  | 3, _ => rfl
  | 4, _ => rfl
  | 5, _ => rfl
  | 6, _ => rfl
  | 7, _ => rfl
  | 8, _ => rfl
  | 9, _ => rfl
  | 10, _ => rfl
  | 11, _ => rfl
  | 12, _ => rfl
  | k + 13, h => omega
theorem wM_set (G : EV) (σ : St) (g : Nat → Int32) : ∀ k, k < 13 → (wM G σ).set k (aD G (30 + k), .inl (G.2.1.1, lnM k, .inl g)) = wM G (sAA σ k g) := by
  intro k h
  match k, h with
  | 0, _ => rfl
  | 1, _ => rfl
  | 2, _ => rfl
  | 3, _ => rfl
  | 4, _ => rfl
  | 5, _ => rfl
  | 6, _ => rfl
  | 7, _ => rfl
  | 8, _ => rfl
  | 9, _ => rfl
  | 10, _ => rfl
  | 11, _ => rfl
  | 12, _ => rfl
  | k + 13, h => omega
/-- the static rows of the class, and the words of the private members of nest mates -/
def snm (k : Nat) : String := match k with
  | 0 => "SETTING_FIRST"
  | 1 => "SETTING_LEAST"
  | 2 => "SETTING_MOST"
  | _ => "PART_MOST"
def sln (k : Nat) : Nat := match k with
  | 3 => 4
  | _ => 8
def svl (k j : Nat) : Int32 := match k with
  | 0 => ([2, 3, 0, 720, 99, 99, 99, 0] : List Int32).getD j 0
  | 1 => ([1, 1, 0, 0, 0, 0, 0, 0] : List Int32).getD j 0
  | 2 => ([8, 10, 720, 720, 99, 99, 99, 4] : List Int32).getD j 0
  | _ => ([9, 1, 3, 3] : List Int32).getD j 0
def nestW : List (String × Nat × MethodName × String) := [(RX6, 9, yX1_init, RX6), (RX6, 18, yX2_init, RX6), (RX6, 25, yX4_init, RX6), (RX1, 11, yX0_init, RX6), (RX1, 20, yX5_init, RX6), (RX1, 27, yX3_init, RX6), (RX1, 132, yX6_total, RX6), (RX4, 27, yX6_isCell, RX6)]
def XX (G : EV) (A : Nat → Prop) (U : State) (H : Heap) : Prop := (∀ w ∈ nestW, va_Nw (.methodLinkNest w.1 w.2.1 w.2.2.1 w.2.2.2) U) ∧ ∀ k, k < 4 → va_Z "FillCells" (snm k) "[I" (.ref (tD G k)) A U H ∧ va_T .int (tD G k) (sln k) (fun j => .int (svl k j)) A U H
theorem XX.go {G : EV} {A B : Nat → Prop} {s U : State} {H : Heap} {locs : List Loc} (h : XX G A s s.heap) (hW : s.WarmedH U.vm) (hS : va_S A s.heap H locs) (hAB : ∀ q, B q → A q) : XX G B U H := by
  refine ⟨fun w hw => va_Nw.warmM hW (h.1 w hw), fun k hk => ⟨?_, ?_⟩⟩
  · exact va_Z.moved hW.alike (((h.2 k hk).1.kept (fun a h1 h2 => hS.2.1 a h1 h2)).narrow hAB)
  · exact va_T.moved hW.alike (((h.2 k hk).2.kept (fun a h1 h2 => hS.2.1 a h1 h2)).narrow hAB)
theorem XX.call {G : EV} {A : Nat → Prop} {U : State} {H : Heap} {g : JFrame} {mk : MethodId} {a : Array Value} (h : XX G A U H) : XX G A (U.calling g mk a) H :=
  ⟨fun w hw => va_Nw.same rfl rfl (h.1 w hw), fun k hk => ⟨va_Z.moved (u := U) (U := U.calling g mk a) (Vm.Alike.refl U.vm) (h.2 k hk).1, va_T.moved (u := U) (U := U.calling g mk a) (Vm.Alike.refl U.vm) (h.2 k hk).2⟩⟩
/-! ===== contracts over a whole world ===== -/
def PreW (G : EV) (av : List Value) (sz : Nat) (w : va_W) : Array Value → State → Prop := va_Pc av (fun U => U.heap.size = sz ∧ va_P G.1 vwCl w U.heap ∧ va_K G.1 vwCl (tyW G) U ∧ va_D (fun _ => True) w ∧ XX G (va_A w sz) U U.heap)
def BW (G : EV) (w : va_W) (A : Nat → Prop) (t : State) : Prop := va_P G.1 vwCl w t.heap ∧ va_K G.1 vwCl (tyW G) t ∧ va_D A w
def PI (G : EV) (r : Int32) (w : va_W) (A : Nat → Prop) : Array Value → State → Outcome → State → Prop := va_Qi (fun v (_ : Unit) => v = r) (fun _ t => BW G w A t) A
def PL (G : EV) (r : Int64) (w : va_W) (A : Nat → Prop) : Array Value → State → Outcome → State → Prop := va_Ql (fun v (_ : Unit) => v = r) (fun _ t => BW G w A t) A
def PV (G : EV) (w : va_W) (A : Nat → Prop) : Array Value → State → Outcome → State → Prop := va_Qv (fun (_ : Unit) => True) (fun _ t => BW G w A t) A
def PR (G : EV) (r : Nat) (w : va_W) (A : Nat → Prop) : Array Value → State → Outcome → State → Prop := va_Qr (fun (_ : Unit) => True) (fun _ a t => a = r ∧ BW G w A t) A
def MetI (l : Launch) (G : EV) (y : MethodName) (ws : List Cond) (rm : Room) (av : List Value) (w : va_W) (r : Int32) (w' : va_W) : Prop := ∀ sz, Met l y ws rm (PreW G av sz w) (PI G r w' (va_A w sz)) 0 0 (va_A w sz)
def MetL (l : Launch) (G : EV) (y : MethodName) (ws : List Cond) (rm : Room) (av : List Value) (w : va_W) (r : Int64) (w' : va_W) : Prop := ∀ sz, Met l y ws rm (PreW G av sz w) (PL G r w' (va_A w sz)) 0 0 (va_A w sz)
def MetV (l : Launch) (G : EV) (y : MethodName) (ws : List Cond) (rm : Room) (av : List Value) (w w' : va_W) : Prop := ∀ sz, Met l y ws rm (PreW G av sz w) (PV G w' (va_A w sz)) 0 0 (va_A w sz)
def MetR (l : Launch) (G : EV) (y : MethodName) (ws : List Cond) (rm : Room) (av : List Value) (w : va_W) (r : Nat) (w' : va_W) : Prop := ∀ sz, Met l y ws rm (PreW G av sz w) (PR G r w' (va_A w sz)) 0 0 (va_A w sz)
/-- a method's body, from its entry, with all that its contract's start gives -/
theorem Met.of0 {l : Launch} {G : EV} {y : MethodName} {ws ws' : List Cond} {rm : Room} {av : List Value} {w : va_W} {cc : ByteArray} {maxL : Nat} {ret : Option FieldType} {Qf : (Nat → Prop) → Array Value → State → Outcome → State → Prop}
    (hy : plainName y.cls = true) (hw : ws = Cond.code y cc maxL ret :: ws') (hav : (lg_sl av).length ≤ maxL)
    (body : ∀ (p : Program) (e : Env) (s : State) (m : MethodId) (below : List Frame) (meth : Method) (c : Code) (A : Nat → Prop), p.tables.exec = Jvm.exec → c.code = cc → meth.sig.returnType = ret → (∀ w ∈ ws, w.before av.toArray s = true) → s.vm.findClass y.cls = some m.cls → meth.locks = false → c.maxLocals = maxL → meth.name = y.name →
      (∀ q : Nat, s.heap.size ≤ q → A q) → va_S A s.heap s.heap [] → va_P G.1 vwCl w s.heap → va_K G.1 vwCl (tyW G) s → va_D A w → XX G A s s.heap → ∀ ls : Array Slot, lv_has ls maxL (lv_args 0 av) →
      W p l e rm s m av.toArray below meth c s.heap [] 0 0 (MQ below (Qf A) av.toArray s 0 0 A) (F0 m 0 ls [])) : ∀ sz, Met l y ws rm (PreW G av sz w) (Qf (va_A w sz)) 0 0 (va_A w sz) := by
  intro sz
  refine Met.ofW (cc := cc) (maxL := maxL) (ret := ret) hy hw ?_
  intro p e s m args below meth c s₁ B hml hv
  obtain ⟨rfl, hsz, hP, hK, hD0, hX⟩ := hv
  subst hsz
  have hts := atoms_spec (ws := ws) B.pre
  have hl := lv_entry av (n := maxL) hav
  rw [lg_entry_eq]
  exact body p e s m below meth c (va_A w s.heap.size) B.exec B.bytes B.returns hts (findClass_of_methodNamed B.named) B.notSynchronized hml (name_of_methodNamed B.named B.method).1 (fun q h => Or.inr h) va_S.rf hP hK hD0.self hX _ hl
section RET
variable {p : Program} {l : Launch} {e : Env} {R : Room} {s : State} {m : MethodId} {args : Array Value} {below : List Frame} {meth : Method} {c : Code} {H : Heap} {locs : List Loc} {cells slots : Nat} {cc : ByteArray} {pc : Nat} {ls : Array Slot} {G : EV} {A : Nat → Prop} {w : va_W}
theorem ri (hx : p.tables.exec = Jvm.exec) (hb : c.code = cc) (hr : meth.sig.returnType = some .int) (hlocks : meth.locks = false) (hK : va_K G.1 vwCl (tyW G) s) (hP : va_P G.1 vwCl w H) (hD : va_D A w) (hS : va_S A s.heap H locs) {v : Int32} (hdg : decode cc pc = .ok (.ireturn, 1)) : W p l e R s m args below meth c H locs cells slots (MQ below (PI G v w A) args s cells slots A) (F0 m pc ls [.int v]) :=
  W.iret hx hb hr (fun t ht hW => ⟨⟨v, (), rfl, rfl, by rw [ht]; exact hP, va_K.moved hW.alike hK, hD⟩, hS.F ht⟩) hS.2.2 hdg hlocks
theorem rz (hx : p.tables.exec = Jvm.exec) (hb : c.code = cc) (hr : meth.sig.returnType = some .boolean) (hlocks : meth.locks = false) (hK : va_K G.1 vwCl (tyW G) s) (hP : va_P G.1 vwCl w H) (hD : va_D A w) (hS : va_S A s.heap H locs) {v : Int32} (hn : narrow .boolean (.int v) = .int v) (hdg : decode cc pc = .ok (.ireturn, 1)) : W p l e R s m args below meth c H locs cells slots (MQ below (PI G v w A) args s cells slots A) (F0 m pc ls [.int v]) :=
  W.zret hx hb hr hn (fun t ht hW => ⟨⟨v, (), rfl, rfl, by rw [ht]; exact hP, va_K.moved hW.alike hK, hD⟩, hS.F ht⟩) hS.2.2 hdg hlocks
theorem rl (hx : p.tables.exec = Jvm.exec) (hb : c.code = cc) (hr : meth.sig.returnType = some .long) (hlocks : meth.locks = false) (hK : va_K G.1 vwCl (tyW G) s) (hP : va_P G.1 vwCl w H) (hD : va_D A w) (hS : va_S A s.heap H locs) {v : Int64} (hdg : decode cc pc = .ok (.lreturn, 1)) : W p l e R s m args below meth c H locs cells slots (MQ below (PL G v w A) args s cells slots A) (F0 m pc ls [.long v]) :=
  W.lret hx hb hr (fun t ht hW => ⟨⟨v, (), rfl, rfl, by rw [ht]; exact hP, va_K.moved hW.alike hK, hD⟩, hS.F ht⟩) hS.2.2 hdg hlocks
theorem rv (hx : p.tables.exec = Jvm.exec) (hb : c.code = cc) (hr : meth.sig.returnType = none) (hlocks : meth.locks = false) (hK : va_K G.1 vwCl (tyW G) s) (hP : va_P G.1 vwCl w H) (hD : va_D A w) (hS : va_S A s.heap H locs) (hdg : decode cc pc = .ok (.return_, 1)) : W p l e R s m args below meth c H locs cells slots (MQ below (PV G w A) args s cells slots A) (F0 m pc ls []) :=
  W.vret hx hb hr (fun t ht hW => ⟨⟨(), rfl, trivial, by rw [ht]; exact hP, va_K.moved hW.alike hK, hD⟩, hS.F ht⟩) hS.2.2 hdg hlocks
theorem ra (hx : p.tables.exec = Jvm.exec) (hb : c.code = cc) {t0 : FieldType} (hr : meth.sig.returnType = some (.array t0)) (hlocks : meth.locks = false) (hK : va_K G.1 vwCl (tyW G) s) (hP : va_P G.1 vwCl w H) (hD : va_D A w) (hS : va_S A s.heap H locs) {v : Nat} (hdg : decode cc pc = .ok (.areturn, 1)) : W p l e R s m args below meth c H locs cells slots (MQ below (PR G v w A) args s cells slots A) (F0 m pc ls [.ref v]) :=
  W.aret hx hb hr (Or.inr ⟨_, rfl⟩) (Or.inr ⟨_, rfl⟩) (fun t ht hW => ⟨⟨(), v, rfl, trivial, rfl, by rw [ht]; exact hP, va_K.moved hW.alike hK, hD⟩, hS.F ht⟩) hS.2.2 hdg hlocks
end RET
section CLL
variable {p : Program} {l : Launch} {e : Env} {R : Room} {s : State} {m : MethodId} {args : Array Value} {below : List Frame} {meth : Method} {c : Code} {H : Heap} {locs : List Loc} {cells slots : Nat} {Q : State → Prop} {pc : Nat} {ls : Array Slot} {rest st0 : List Value} {a : Array Value} {G : EV} {A : Nat → Prop} {w w' : va_W}
theorem freeW (hD : va_D A w) (hS : va_S A s.heap H locs) (hA : ∀ q : Nat, s.heap.size ≤ q → A q) : ∀ q, va_A w H.size q → A q := by
  intro q h
  rcases h with ⟨k, e, h⟩ | h
  · exact hD.2 k (q, e) h
  · exact hA q (Nat.le_trans hS.1 h)
theorem blindW {av : List Value} {sz : Nat} : FrameBlind (PreW G av sz w) := fun a U g mk q => by
  obtain ⟨q0, q1, qP, qK, qD, qX⟩ := q
  exact ⟨q0, q1, qP, va_K.moved (u := U) (U := U.calling g mk a) (Vm.Alike.refl U.vm) qK, qD, qX.call⟩
theorem preAt {av : List Value} (hK : va_K G.1 vwCl (tyW G) s) (hP : va_P G.1 vwCl w H) (hD : va_D A w) (hS : va_S A s.heap H locs) (hA : ∀ q : Nat, s.heap.size ≤ q → A q) (hX : XX G A s s.heap) : ∀ U : State, U.heap = H → s.WarmedH U.vm → PreW G av H.size w av.toArray U := fun U hU hW => by
  refine ⟨rfl, by rw [hU], by rw [hU]; exact hP, va_K.moved hW.alike hK, hD.weaken (fun _ _ _ _ => trivial), ?_⟩
  rw [hU]
  exact hX.go hW hS (freeW hD hS hA)
theorem preV {C : String} {b : Addr} {As : List Value} (hK : va_K G.1 vwCl (tyW G) s) (hP : va_P G.1 vwCl w H) (hD : va_D A w) (hS : va_S A s.heap H locs) (hA : ∀ q : Nat, s.heap.size ≤ q → A q) (hX : XX G A s s.heap) (hrv : ∃ cellB : Cell, H[b]? = some cellB ∧ cellB.vm.isStatics = false ∧ s.vm.findClass C = some cellB.cls) : PreV s H C b (PreW G (.ref b :: As) H.size w) As :=
  ⟨blindW, hrv, preAt hK hP hD hS hA hX⟩
theorem preS {As : List Value} (hK : va_K G.1 vwCl (tyW G) s) (hP : va_P G.1 vwCl w H) (hD : va_D A w) (hS : va_S A s.heap H locs) (hA : ∀ q : Nat, s.heap.size ≤ q → A q) (hX : XX G A s s.heap) : PreS s H (PreW G As H.size w) As :=
  ⟨blindW, preAt hK hP hD hS hA hX⟩
theorem ci {r : Int32} (hr : va_Run p l e R s m args below meth c H locs cells slots 0 0 (F0 m pc ls st0) rest (PI G r w' (va_A w H.size) a) (va_A w H.size)) (hD : va_D A w) (hS : va_S A s.heap H locs) (hA : ∀ q : Nat, s.heap.size ≤ q → A q)
    (kk : ∀ (H1 : Heap) (locs1 : List Loc), va_P G.1 vwCl w' H1 → va_D A w' → va_S A s.heap H1 locs1 → W p l e R s m args below meth c H1 locs1 cells slots Q (F0 m (pc + 3) ls (.int r :: rest))) : W p l e R s m args below meth c H locs cells slots Q (F0 m pc ls st0) := by
  have hF := freeW hD hS hA
  refine va_calli hr hS (fun q _ h => hF q h) hF (fun r1 u t H1 locs1 ht hvm hw hB hz1 hk1 hS1 => ?_)
  obtain ⟨hP1, hK1, hD1⟩ := hB
  rw [ht] at hP1
  subst hw
  exact kk H1 locs1 hP1 (hD1.weaken (fun k q _ h => hF q.1 h)) hS1
theorem cl {r : Int64} (hr : va_Run p l e R s m args below meth c H locs cells slots 0 0 (F0 m pc ls st0) rest (PL G r w' (va_A w H.size) a) (va_A w H.size)) (hD : va_D A w) (hS : va_S A s.heap H locs) (hA : ∀ q : Nat, s.heap.size ≤ q → A q)
    (kk : ∀ (H1 : Heap) (locs1 : List Loc), va_P G.1 vwCl w' H1 → va_D A w' → va_S A s.heap H1 locs1 → W p l e R s m args below meth c H1 locs1 cells slots Q (F0 m (pc + 3) ls (.long r :: rest))) : W p l e R s m args below meth c H locs cells slots Q (F0 m pc ls st0) := by
  have hF := freeW hD hS hA
  refine va_calll hr hS (fun q _ h => hF q h) hF (fun r1 u t H1 locs1 ht hvm hw hB hz1 hk1 hS1 => ?_)
  obtain ⟨hP1, hK1, hD1⟩ := hB
  rw [ht] at hP1
  subst hw
  exact kk H1 locs1 hP1 (hD1.weaken (fun k q _ h => hF q.1 h)) hS1
theorem cv (hr : va_Run p l e R s m args below meth c H locs cells slots 0 0 (F0 m pc ls st0) rest (PV G w' (va_A w H.size) a) (va_A w H.size)) (hD : va_D A w) (hS : va_S A s.heap H locs) (hA : ∀ q : Nat, s.heap.size ≤ q → A q)
    (kk : ∀ (H1 : Heap) (locs1 : List Loc), va_P G.1 vwCl w' H1 → va_D A w' → va_S A s.heap H1 locs1 → W p l e R s m args below meth c H1 locs1 cells slots Q (F0 m (pc + 3) ls rest)) : W p l e R s m args below meth c H locs cells slots Q (F0 m pc ls st0) := by
  have hF := freeW hD hS hA
  refine va_callv hr hS (fun q _ h => hF q h) hF (fun u t H1 locs1 ht hvm hw hB hz1 hk1 hS1 => ?_)
  obtain ⟨hP1, hK1, hD1⟩ := hB
  rw [ht] at hP1
  exact kk H1 locs1 hP1 (hD1.weaken (fun k q _ h => hF q.1 h)) hS1
theorem cr {r : Nat} (hr : va_Run p l e R s m args below meth c H locs cells slots 0 0 (F0 m pc ls st0) rest (PR G r w' (va_A w H.size) a) (va_A w H.size)) (hD : va_D A w) (hS : va_S A s.heap H locs) (hA : ∀ q : Nat, s.heap.size ≤ q → A q)
    (kk : ∀ (H1 : Heap) (locs1 : List Loc), va_P G.1 vwCl w' H1 → va_D A w' → va_S A s.heap H1 locs1 → W p l e R s m args below meth c H1 locs1 cells slots Q (F0 m (pc + 3) ls (.ref r :: rest))) : W p l e R s m args below meth c H locs cells slots Q (F0 m pc ls st0) := by
  have hF := freeW hD hS hA
  refine va_callr hr hS (fun q _ h => hF q h) hF (fun u ra t H1 locs1 ht hvm hw hB hz1 hk1 hS1 => ?_)
  obtain ⟨hra, hP1, hK1, hD1⟩ := hB
  rw [ht] at hP1
  subst hra
  exact kk H1 locs1 hP1 (hD1.weaken (fun k q _ h => hF q.1 h)) hS1
end CLL
section ARR
variable {p : Program} {l : Launch} {e : Env} {R : Room} {s : State} {m : MethodId} {args : Array Value} {below : List Frame} {meth : Method} {c : Code} {H : Heap} {locs : List Loc} {cells slots : Nat} {Q : State → Prop} {cc : ByteArray} {pc : Nat} {ls : Array Slot} {rest : List Value} {G : EV} {A : Nat → Prop} {H0 : Heap} {σ : St}
/-- loads and stores of the class's rows of ints, by their numbers; and of the reference's -/
theorem ldC (hx : p.tables.exec = Jvm.exec) (hb : c.code = cc) (hK : va_K G.1 vwCl (tyW G) s) (hP : va_P G.1 vwCl (wC G σ) H) (k : Nat) (hk : k < 18) {i : Int32} (hin : vp_in i (lnC k)) (hdg : decode cc pc = .ok (.iaload, 1))
    (kk : W p l e R s m args below meth c H locs cells slots Q (F0 m (pc + 1) ls (.int (rd σ k i) :: rest))) : W p l e R s m args below meth c H locs cells slots Q (F0 m pc ls (.int i :: .ref (aD G k) :: rest)) :=
  va_iald hx hb hK hP k 0 (wC_at G σ k hk) rfl hin hdg kk
theorem stC (hx : p.tables.exec = Jvm.exec) (hb : c.code = cc) (hK : va_K G.1 vwCl (tyW G) s) (hP : va_P G.1 vwCl (wC G σ) H) (hD : va_D A (wC G σ)) (hS : va_S A H0 H locs) (k : Nat) (hk : k < 18) {i x : Int32} (hin : vp_in i (lnC k)) (hdg : decode cc pc = .ok (.iastore, 1))
    (kk : ∀ (H1 : Heap) (locs1 : List Loc), va_P G.1 vwCl (wC G (sA σ k i x)) H1 → va_D A (wC G (sA σ k i x)) → va_S A H0 H1 locs1 → W p l e R s m args below meth c H1 locs1 cells slots Q (F0 m (pc + 1) ls rest)) : W p l e R s m args below meth c H locs cells slots Q (F0 m pc ls (.int x :: .int i :: .ref (aD G k) :: rest)) := by
  refine va_iast hx hb hK hP hD hS k 0 (wC_at G σ k hk) rfl hin hdg (fun H1 locs1 h1 h2 h3 => ?_)
  rw [wC_set G σ _ k hk] at h1 h2
  exact kk H1 locs1 h1 h2 h3
theorem ldM (hx : p.tables.exec = Jvm.exec) (hb : c.code = cc) (hK : va_K G.1 vwCl (tyW G) s) (hP : va_P G.1 vwCl (wM G σ) H) (k : Nat) (hk : k < 13) {i : Int32} (hin : vp_in i (lnM k)) (hdg : decode cc pc = .ok (.iaload, 1))
    (kk : W p l e R s m args below meth c H locs cells slots Q (F0 m (pc + 1) ls (.int (rd σ k i) :: rest))) : W p l e R s m args below meth c H locs cells slots Q (F0 m pc ls (.int i :: .ref (aD G (30 + k)) :: rest)) :=
  va_iald hx hb hK hP k 0 (wM_at G σ k hk) rfl hin hdg kk
theorem stM (hx : p.tables.exec = Jvm.exec) (hb : c.code = cc) (hK : va_K G.1 vwCl (tyW G) s) (hP : va_P G.1 vwCl (wM G σ) H) (hD : va_D A (wM G σ)) (hS : va_S A H0 H locs) (k : Nat) (hk : k < 13) {i x : Int32} (hin : vp_in i (lnM k)) (hdg : decode cc pc = .ok (.iastore, 1))
    (kk : ∀ (H1 : Heap) (locs1 : List Loc), va_P G.1 vwCl (wM G (sA σ k i x)) H1 → va_D A (wM G (sA σ k i x)) → va_S A H0 H1 locs1 → W p l e R s m args below meth c H1 locs1 cells slots Q (F0 m (pc + 1) ls rest)) : W p l e R s m args below meth c H locs cells slots Q (F0 m pc ls (.int x :: .int i :: .ref (aD G (30 + k)) :: rest)) := by
  refine va_iast hx hb hK hP hD hS k 0 (wM_at G σ k hk) rfl hin hdg (fun H1 locs1 h1 h2 h3 => ?_)
  rw [wM_set G σ _ k hk] at h1 h2
  exact kk H1 locs1 h1 h2 h3
end ARR
end
section
theorem dX0_init_0 : decode cX0_init 0 = .ok (.aload_n 0, 1) := by decide +kernel
theorem dX0_init_1 : decode cX0_init 1 = .ok (.invokespecial 3, 3) := by decide +kernel
theorem dX0_init_4 : decode cX0_init 4 = .ok (.aload_n 0, 1) := by decide +kernel
theorem dX0_init_5 : decode cX0_init 5 = .ok (.bipush 80, 2) := by decide +kernel
theorem dX0_init_7 : decode cX0_init 7 = .ok (.newarray .int, 2) := by decide +kernel
theorem dX0_init_9 : decode cX0_init 9 = .ok (.putfield 9, 3) := by decide +kernel
theorem dX0_init_12 : decode cX0_init 12 = .ok (.aload_n 0, 1) := by decide +kernel
theorem dX0_init_13 : decode cX0_init 13 = .ok (.bipush 80, 2) := by decide +kernel
theorem dX0_init_15 : decode cX0_init 15 = .ok (.newarray .int, 2) := by decide +kernel
theorem dX0_init_17 : decode cX0_init 17 = .ok (.putfield 15, 3) := by decide +kernel
theorem dX0_init_20 : decode cX0_init 20 = .ok (.aload_n 0, 1) := by decide +kernel
theorem dX0_init_21 : decode cX0_init 21 = .ok (.bipush 80, 2) := by decide +kernel
theorem dX0_init_23 : decode cX0_init 23 = .ok (.newarray .int, 2) := by decide +kernel
theorem dX0_init_25 : decode cX0_init 25 = .ok (.putfield 18, 3) := by decide +kernel
theorem dX0_init_28 : decode cX0_init 28 = .ok (.aload_n 0, 1) := by decide +kernel
theorem dX0_init_29 : decode cX0_init 29 = .ok (.bipush 80, 2) := by decide +kernel
theorem dX0_init_31 : decode cX0_init 31 = .ok (.newarray .int, 2) := by decide +kernel
theorem dX0_init_33 : decode cX0_init 33 = .ok (.putfield 21, 3) := by decide +kernel
theorem dX0_init_36 : decode cX0_init 36 = .ok (.aload_n 0, 1) := by decide +kernel
theorem dX0_init_37 : decode cX0_init 37 = .ok (.bipush 80, 2) := by decide +kernel
theorem dX0_init_39 : decode cX0_init 39 = .ok (.newarray .int, 2) := by decide +kernel
theorem dX0_init_41 : decode cX0_init 41 = .ok (.putfield 24, 3) := by decide +kernel
theorem dX0_init_44 : decode cX0_init 44 = .ok (.return_, 1) := by decide +kernel
theorem dX0_part_0 : decode cX0_part 0 = .ok (.iload_n 1, 1) := by decide +kernel
theorem dX0_part_1 : decode cX0_part 1 = .ok (.tableswitch 51 0 3 #[31, 36, 41, 46], 31) := by decide +kernel
theorem dX0_part_32 : decode cX0_part 32 = .ok (.aload_n 0, 1) := by decide +kernel
theorem dX0_part_33 : decode cX0_part 33 = .ok (.getfield 9, 3) := by decide +kernel
theorem dX0_part_36 : decode cX0_part 36 = .ok (.areturn, 1) := by decide +kernel
theorem dX0_part_37 : decode cX0_part 37 = .ok (.aload_n 0, 1) := by decide +kernel
theorem dX0_part_38 : decode cX0_part 38 = .ok (.getfield 15, 3) := by decide +kernel
theorem dX0_part_41 : decode cX0_part 41 = .ok (.areturn, 1) := by decide +kernel
theorem dX0_part_42 : decode cX0_part 42 = .ok (.aload_n 0, 1) := by decide +kernel
theorem dX0_part_43 : decode cX0_part 43 = .ok (.getfield 18, 3) := by decide +kernel
theorem dX0_part_46 : decode cX0_part 46 = .ok (.areturn, 1) := by decide +kernel
theorem dX0_part_47 : decode cX0_part 47 = .ok (.aload_n 0, 1) := by decide +kernel
theorem dX0_part_48 : decode cX0_part 48 = .ok (.getfield 21, 3) := by decide +kernel
theorem dX0_part_51 : decode cX0_part 51 = .ok (.areturn, 1) := by decide +kernel
theorem dX0_part_52 : decode cX0_part 52 = .ok (.aload_n 0, 1) := by decide +kernel
theorem dX0_part_53 : decode cX0_part 53 = .ok (.getfield 24, 3) := by decide +kernel
theorem dX0_part_56 : decode cX0_part 56 = .ok (.areturn, 1) := by decide +kernel
theorem dX0_sumOf_0 : decode cX0_sumOf 0 = .ok (.aload_n 0, 1) := by decide +kernel
theorem dX0_sumOf_1 : decode cX0_sumOf 1 = .ok (.getfield 9, 3) := by decide +kernel
theorem dX0_sumOf_4 : decode cX0_sumOf 4 = .ok (.iload_n 1, 1) := by decide +kernel
theorem dX0_sumOf_5 : decode cX0_sumOf 5 = .ok (.iaload, 1) := by decide +kernel
theorem dX0_sumOf_6 : decode cX0_sumOf 6 = .ok (.aload_n 0, 1) := by decide +kernel
theorem dX0_sumOf_7 : decode cX0_sumOf 7 = .ok (.getfield 24, 3) := by decide +kernel
theorem dX0_sumOf_10 : decode cX0_sumOf 10 = .ok (.iload_n 1, 1) := by decide +kernel
theorem dX0_sumOf_11 : decode cX0_sumOf 11 = .ok (.iaload, 1) := by decide +kernel
theorem dX0_sumOf_12 : decode cX0_sumOf 12 = .ok (.iadd, 1) := by decide +kernel
theorem dX0_sumOf_13 : decode cX0_sumOf 13 = .ok (.ireturn, 1) := by decide +kernel
theorem dX0_room_0 : decode cX0_room 0 = .ok (.aload_n 0, 1) := by decide +kernel
theorem dX0_room_1 : decode cX0_room 1 = .ok (.getfield 15, 3) := by decide +kernel
theorem dX0_room_4 : decode cX0_room 4 = .ok (.iload_n 1, 1) := by decide +kernel
theorem dX0_room_5 : decode cX0_room 5 = .ok (.iaload, 1) := by decide +kernel
theorem dX0_room_6 : decode cX0_room 6 = .ok (.ifCond .eq 7, 3) := by decide +kernel
theorem dX0_room_9 : decode cX0_room 9 = .ok (.iconst 0, 1) := by decide +kernel
theorem dX0_room_10 : decode cX0_room 10 = .ok (.goto 12, 3) := by decide +kernel
theorem dX0_room_13 : decode cX0_room 13 = .ok (.bipush 9, 2) := by decide +kernel
theorem dX0_room_15 : decode cX0_room 15 = .ok (.aload_n 0, 1) := by decide +kernel
theorem dX0_room_16 : decode cX0_room 16 = .ok (.getfield 9, 3) := by decide +kernel
theorem dX0_room_19 : decode cX0_room 19 = .ok (.iload_n 1, 1) := by decide +kernel
theorem dX0_room_20 : decode cX0_room 20 = .ok (.iaload, 1) := by decide +kernel
theorem dX0_room_21 : decode cX0_room 21 = .ok (.isub, 1) := by decide +kernel
theorem dX0_room_22 : decode cX0_room 22 = .ok (.ireturn, 1) := by decide +kernel
theorem dX0_countFilled_0 : decode cX0_countFilled 0 = .ok (.iconst 0, 1) := by decide +kernel
theorem dX0_countFilled_1 : decode cX0_countFilled 1 = .ok (.istore_n 1, 1) := by decide +kernel
theorem dX0_countFilled_2 : decode cX0_countFilled 2 = .ok (.iconst 0, 1) := by decide +kernel
theorem dX0_countFilled_3 : decode cX0_countFilled 3 = .ok (.istore_n 2, 1) := by decide +kernel
theorem dX0_countFilled_4 : decode cX0_countFilled 4 = .ok (.iload_n 2, 1) := by decide +kernel
theorem dX0_countFilled_5 : decode cX0_countFilled 5 = .ok (.bipush 80, 2) := by decide +kernel
theorem dX0_countFilled_7 : decode cX0_countFilled 7 = .ok (.if_icmp .ge 21, 3) := by decide +kernel
theorem dX0_countFilled_10 : decode cX0_countFilled 10 = .ok (.aload_n 0, 1) := by decide +kernel
theorem dX0_countFilled_11 : decode cX0_countFilled 11 = .ok (.getfield 24, 3) := by decide +kernel
theorem dX0_countFilled_14 : decode cX0_countFilled 14 = .ok (.iload_n 2, 1) := by decide +kernel
theorem dX0_countFilled_15 : decode cX0_countFilled 15 = .ok (.iaload, 1) := by decide +kernel
theorem dX0_countFilled_16 : decode cX0_countFilled 16 = .ok (.ifCond .le 6, 3) := by decide +kernel
theorem dX0_countFilled_19 : decode cX0_countFilled 19 = .ok (.iinc 1 1, 3) := by decide +kernel
theorem dX0_countFilled_22 : decode cX0_countFilled 22 = .ok (.iinc 2 1, 3) := by decide +kernel
theorem dX0_countFilled_25 : decode cX0_countFilled 25 = .ok (.goto (-21), 3) := by decide +kernel
theorem dX0_countFilled_28 : decode cX0_countFilled 28 = .ok (.iload_n 1, 1) := by decide +kernel
theorem dX0_countFilled_29 : decode cX0_countFilled 29 = .ok (.ireturn, 1) := by decide +kernel
theorem dX0_drawShapes_0 : decode cX0_drawShapes 0 = .ok (.iload_n 2, 1) := by decide +kernel
theorem dX0_drawShapes_1 : decode cX0_drawShapes 1 = .ok (.iconst 0, 1) := by decide +kernel
theorem dX0_drawShapes_2 : decode cX0_drawShapes 2 = .ok (.invokestatic 27, 3) := by decide +kernel
theorem dX0_drawShapes_5 : decode cX0_drawShapes 5 = .ok (.iconst 1, 1) := by decide +kernel
theorem dX0_drawShapes_6 : decode cX0_drawShapes 6 = .ok (.iadd, 1) := by decide +kernel
theorem dX0_drawShapes_7 : decode cX0_drawShapes 7 = .ok (.istore_n 3, 1) := by decide +kernel
theorem dX0_drawShapes_8 : decode cX0_drawShapes 8 = .ok (.iload_n 1, 1) := by decide +kernel
theorem dX0_drawShapes_9 : decode cX0_drawShapes 9 = .ok (.i2l, 1) := by decide +kernel
theorem dX0_drawShapes_10 : decode cX0_drawShapes 10 = .ok (.lstore 4, 2) := by decide +kernel
theorem dX0_drawShapes_12 : decode cX0_drawShapes 12 = .ok (.iconst 0, 1) := by decide +kernel
theorem dX0_drawShapes_13 : decode cX0_drawShapes 13 = .ok (.istore 6, 2) := by decide +kernel
theorem dX0_drawShapes_15 : decode cX0_drawShapes 15 = .ok (.iload 6, 2) := by decide +kernel
theorem dX0_drawShapes_17 : decode cX0_drawShapes 17 = .ok (.bipush 80, 2) := by decide +kernel
theorem dX0_drawShapes_19 : decode cX0_drawShapes 19 = .ok (.if_icmp .ge 42, 3) := by decide +kernel
theorem dX0_drawShapes_22 : decode cX0_drawShapes 22 = .ok (.lload 4, 2) := by decide +kernel
theorem dX0_drawShapes_24 : decode cX0_drawShapes 24 = .ok (.ldc2_w 33, 3) := by decide +kernel
theorem dX0_drawShapes_27 : decode cX0_drawShapes 27 = .ok (.lmul, 1) := by decide +kernel
theorem dX0_drawShapes_28 : decode cX0_drawShapes 28 = .ok (.ldc2_w 35, 3) := by decide +kernel
theorem dX0_drawShapes_31 : decode cX0_drawShapes 31 = .ok (.ladd, 1) := by decide +kernel
theorem dX0_drawShapes_32 : decode cX0_drawShapes 32 = .ok (.ldc2_w 37, 3) := by decide +kernel
theorem dX0_drawShapes_35 : decode cX0_drawShapes 35 = .ok (.lrem, 1) := by decide +kernel
theorem dX0_drawShapes_36 : decode cX0_drawShapes 36 = .ok (.lstore 4, 2) := by decide +kernel
theorem dX0_drawShapes_38 : decode cX0_drawShapes 38 = .ok (.aload_n 0, 1) := by decide +kernel
theorem dX0_drawShapes_39 : decode cX0_drawShapes 39 = .ok (.getfield 9, 3) := by decide +kernel
theorem dX0_drawShapes_42 : decode cX0_drawShapes 42 = .ok (.iload 6, 2) := by decide +kernel
theorem dX0_drawShapes_44 : decode cX0_drawShapes 44 = .ok (.lload 4, 2) := by decide +kernel
theorem dX0_drawShapes_46 : decode cX0_drawShapes 46 = .ok (.ldc2_w 39, 3) := by decide +kernel
theorem dX0_drawShapes_49 : decode cX0_drawShapes 49 = .ok (.ldiv, 1) := by decide +kernel
theorem dX0_drawShapes_50 : decode cX0_drawShapes 50 = .ok (.iload_n 3, 1) := by decide +kernel
theorem dX0_drawShapes_51 : decode cX0_drawShapes 51 = .ok (.i2l, 1) := by decide +kernel
theorem dX0_drawShapes_52 : decode cX0_drawShapes 52 = .ok (.lrem, 1) := by decide +kernel
theorem dX0_drawShapes_53 : decode cX0_drawShapes 53 = .ok (.l2i, 1) := by decide +kernel
theorem dX0_drawShapes_54 : decode cX0_drawShapes 54 = .ok (.iastore, 1) := by decide +kernel
theorem dX0_drawShapes_55 : decode cX0_drawShapes 55 = .ok (.iinc 6 1, 3) := by decide +kernel
theorem dX0_drawShapes_58 : decode cX0_drawShapes 58 = .ok (.goto (-43), 3) := by decide +kernel
theorem dX0_drawShapes_61 : decode cX0_drawShapes 61 = .ok (.return_, 1) := by decide +kernel
set_option maxRecDepth 20000 in
theorem ggX0_settle_X0_room : GoodIn wsX0_settle wsX0_room := goodIn_r _ [10, 11, 12, 18, 19, 20, 21, 22] (by decide +kernel) (by decide +kernel)
set_option maxRecDepth 20000 in
theorem gX0_settle_X0_room : GoodIn wsX0_settle (wsV RX0 41 RX0 yX0_room wsX0_room) := goodIn_app (goodIn_of _ (by decide +kernel)) ggX0_settle_X0_room
set_option maxRecDepth 20000 in
theorem ggX0_settle_X0_makeAlike : GoodIn wsX0_settle wsX0_makeAlike := goodIn_r _ [16, 17, 1, 2, 3, 4, 5, 18, 19, 20, 21, 22] (by decide +kernel) (by decide +kernel)
set_option maxRecDepth 20000 in
theorem gX0_settle_X0_makeAlike : GoodIn wsX0_settle (wsV RX0 48 RX0 yX0_makeAlike wsX0_makeAlike) := goodIn_app (goodIn_of _ (by decide +kernel)) ggX0_settle_X0_makeAlike
theorem dX0_settle_0 : decode cX0_settle 0 = .ok (.iconst 0, 1) := by decide +kernel
theorem dX0_settle_1 : decode cX0_settle 1 = .ok (.istore_n 1, 1) := by decide +kernel
theorem dX0_settle_2 : decode cX0_settle 2 = .ok (.iload_n 1, 1) := by decide +kernel
theorem dX0_settle_3 : decode cX0_settle 3 = .ok (.bipush 80, 2) := by decide +kernel
theorem dX0_settle_5 : decode cX0_settle 5 = .ok (.if_icmp .ge 29, 3) := by decide +kernel
theorem dX0_settle_8 : decode cX0_settle 8 = .ok (.aload_n 0, 1) := by decide +kernel
theorem dX0_settle_9 : decode cX0_settle 9 = .ok (.getfield 24, 3) := by decide +kernel
theorem dX0_settle_12 : decode cX0_settle 12 = .ok (.iload_n 1, 1) := by decide +kernel
theorem dX0_settle_13 : decode cX0_settle 13 = .ok (.aload_n 0, 1) := by decide +kernel
theorem dX0_settle_14 : decode cX0_settle 14 = .ok (.getfield 24, 3) := by decide +kernel
theorem dX0_settle_17 : decode cX0_settle 17 = .ok (.iload_n 1, 1) := by decide +kernel
theorem dX0_settle_18 : decode cX0_settle 18 = .ok (.iaload, 1) := by decide +kernel
theorem dX0_settle_19 : decode cX0_settle 19 = .ok (.aload_n 0, 1) := by decide +kernel
theorem dX0_settle_20 : decode cX0_settle 20 = .ok (.iload_n 1, 1) := by decide +kernel
theorem dX0_settle_21 : decode cX0_settle 21 = .ok (.invokevirtual 41, 3) := by decide +kernel
theorem dX0_settle_24 : decode cX0_settle 24 = .ok (.invokestatic 45, 3) := by decide +kernel
theorem dX0_settle_27 : decode cX0_settle 27 = .ok (.iastore, 1) := by decide +kernel
theorem dX0_settle_28 : decode cX0_settle 28 = .ok (.iinc 1 1, 3) := by decide +kernel
theorem dX0_settle_31 : decode cX0_settle 31 = .ok (.goto (-29), 3) := by decide +kernel
theorem dX0_settle_34 : decode cX0_settle 34 = .ok (.iconst 1, 1) := by decide +kernel
theorem dX0_settle_35 : decode cX0_settle 35 = .ok (.istore_n 1, 1) := by decide +kernel
theorem dX0_settle_36 : decode cX0_settle 36 = .ok (.iload_n 1, 1) := by decide +kernel
theorem dX0_settle_37 : decode cX0_settle 37 = .ok (.iconst 4, 1) := by decide +kernel
theorem dX0_settle_38 : decode cX0_settle 38 = .ok (.if_icmp .ge 14, 3) := by decide +kernel
theorem dX0_settle_41 : decode cX0_settle 41 = .ok (.aload_n 0, 1) := by decide +kernel
theorem dX0_settle_42 : decode cX0_settle 42 = .ok (.iload_n 1, 1) := by decide +kernel
theorem dX0_settle_43 : decode cX0_settle 43 = .ok (.invokevirtual 48, 3) := by decide +kernel
theorem dX0_settle_46 : decode cX0_settle 46 = .ok (.iinc 1 1, 3) := by decide +kernel
theorem dX0_settle_49 : decode cX0_settle 49 = .ok (.goto (-13), 3) := by decide +kernel
theorem dX0_settle_52 : decode cX0_settle 52 = .ok (.return_, 1) := by decide +kernel
theorem dX0_makeAlike_0 : decode cX0_makeAlike 0 = .ok (.bipush 9, 2) := by decide +kernel
theorem dX0_makeAlike_2 : decode cX0_makeAlike 2 = .ok (.istore_n 2, 1) := by decide +kernel
theorem dX0_makeAlike_3 : decode cX0_makeAlike 3 = .ok (.iconst 0, 1) := by decide +kernel
theorem dX0_makeAlike_4 : decode cX0_makeAlike 4 = .ok (.istore_n 3, 1) := by decide +kernel
theorem dX0_makeAlike_5 : decode cX0_makeAlike 5 = .ok (.iload_n 3, 1) := by decide +kernel
theorem dX0_makeAlike_6 : decode cX0_makeAlike 6 = .ok (.bipush 80, 2) := by decide +kernel
theorem dX0_makeAlike_8 : decode cX0_makeAlike 8 = .ok (.if_icmp .ge 30, 3) := by decide +kernel
theorem dX0_makeAlike_11 : decode cX0_makeAlike 11 = .ok (.aload_n 0, 1) := by decide +kernel
theorem dX0_makeAlike_12 : decode cX0_makeAlike 12 = .ok (.getfield 21, 3) := by decide +kernel
theorem dX0_makeAlike_15 : decode cX0_makeAlike 15 = .ok (.iload_n 3, 1) := by decide +kernel
theorem dX0_makeAlike_16 : decode cX0_makeAlike 16 = .ok (.iaload, 1) := by decide +kernel
theorem dX0_makeAlike_17 : decode cX0_makeAlike 17 = .ok (.iload_n 1, 1) := by decide +kernel
theorem dX0_makeAlike_18 : decode cX0_makeAlike 18 = .ok (.if_icmp .ne 14, 3) := by decide +kernel
theorem dX0_makeAlike_21 : decode cX0_makeAlike 21 = .ok (.iload_n 2, 1) := by decide +kernel
theorem dX0_makeAlike_22 : decode cX0_makeAlike 22 = .ok (.aload_n 0, 1) := by decide +kernel
theorem dX0_makeAlike_23 : decode cX0_makeAlike 23 = .ok (.getfield 24, 3) := by decide +kernel
theorem dX0_makeAlike_26 : decode cX0_makeAlike 26 = .ok (.iload_n 3, 1) := by decide +kernel
theorem dX0_makeAlike_27 : decode cX0_makeAlike 27 = .ok (.iaload, 1) := by decide +kernel
theorem dX0_makeAlike_28 : decode cX0_makeAlike 28 = .ok (.invokestatic 45, 3) := by decide +kernel
theorem dX0_makeAlike_31 : decode cX0_makeAlike 31 = .ok (.istore_n 2, 1) := by decide +kernel
theorem dX0_makeAlike_32 : decode cX0_makeAlike 32 = .ok (.iinc 3 1, 3) := by decide +kernel
theorem dX0_makeAlike_35 : decode cX0_makeAlike 35 = .ok (.goto (-30), 3) := by decide +kernel
theorem dX0_makeAlike_38 : decode cX0_makeAlike 38 = .ok (.iconst 0, 1) := by decide +kernel
theorem dX0_makeAlike_39 : decode cX0_makeAlike 39 = .ok (.istore_n 3, 1) := by decide +kernel
theorem dX0_makeAlike_40 : decode cX0_makeAlike 40 = .ok (.iload_n 3, 1) := by decide +kernel
theorem dX0_makeAlike_41 : decode cX0_makeAlike 41 = .ok (.bipush 80, 2) := by decide +kernel
theorem dX0_makeAlike_43 : decode cX0_makeAlike 43 = .ok (.if_icmp .ge 26, 3) := by decide +kernel
theorem dX0_makeAlike_46 : decode cX0_makeAlike 46 = .ok (.aload_n 0, 1) := by decide +kernel
theorem dX0_makeAlike_47 : decode cX0_makeAlike 47 = .ok (.getfield 21, 3) := by decide +kernel
theorem dX0_makeAlike_50 : decode cX0_makeAlike 50 = .ok (.iload_n 3, 1) := by decide +kernel
theorem dX0_makeAlike_51 : decode cX0_makeAlike 51 = .ok (.iaload, 1) := by decide +kernel
theorem dX0_makeAlike_52 : decode cX0_makeAlike 52 = .ok (.iload_n 1, 1) := by decide +kernel
theorem dX0_makeAlike_53 : decode cX0_makeAlike 53 = .ok (.if_icmp .ne 10, 3) := by decide +kernel
theorem dX0_makeAlike_56 : decode cX0_makeAlike 56 = .ok (.aload_n 0, 1) := by decide +kernel
theorem dX0_makeAlike_57 : decode cX0_makeAlike 57 = .ok (.getfield 24, 3) := by decide +kernel
theorem dX0_makeAlike_60 : decode cX0_makeAlike 60 = .ok (.iload_n 3, 1) := by decide +kernel
theorem dX0_makeAlike_61 : decode cX0_makeAlike 61 = .ok (.iload_n 2, 1) := by decide +kernel
theorem dX0_makeAlike_62 : decode cX0_makeAlike 62 = .ok (.iastore, 1) := by decide +kernel
theorem dX0_makeAlike_63 : decode cX0_makeAlike 63 = .ok (.iinc 3 1, 3) := by decide +kernel
theorem dX0_makeAlike_66 : decode cX0_makeAlike 66 = .ok (.goto (-26), 3) := by decide +kernel
theorem dX0_makeAlike_69 : decode cX0_makeAlike 69 = .ok (.return_, 1) := by decide +kernel
theorem dX0_packed_0 : decode cX0_packed 0 = .ok (.aload_n 0, 1) := by decide +kernel
theorem dX0_packed_1 : decode cX0_packed 1 = .ok (.getfield 9, 3) := by decide +kernel
theorem dX0_packed_4 : decode cX0_packed 4 = .ok (.iload_n 1, 1) := by decide +kernel
theorem dX0_packed_5 : decode cX0_packed 5 = .ok (.iaload, 1) := by decide +kernel
theorem dX0_packed_6 : decode cX0_packed 6 = .ok (.aload_n 0, 1) := by decide +kernel
theorem dX0_packed_7 : decode cX0_packed 7 = .ok (.getfield 24, 3) := by decide +kernel
theorem dX0_packed_10 : decode cX0_packed 10 = .ok (.iload_n 1, 1) := by decide +kernel
theorem dX0_packed_11 : decode cX0_packed 11 = .ok (.iaload, 1) := by decide +kernel
theorem dX0_packed_12 : decode cX0_packed 12 = .ok (.iconst 4, 1) := by decide +kernel
theorem dX0_packed_13 : decode cX0_packed 13 = .ok (.ishl, 1) := by decide +kernel
theorem dX0_packed_14 : decode cX0_packed 14 = .ok (.ior, 1) := by decide +kernel
theorem dX0_packed_15 : decode cX0_packed 15 = .ok (.aload_n 0, 1) := by decide +kernel
theorem dX0_packed_16 : decode cX0_packed 16 = .ok (.getfield 15, 3) := by decide +kernel
theorem dX0_packed_19 : decode cX0_packed 19 = .ok (.iload_n 1, 1) := by decide +kernel
theorem dX0_packed_20 : decode cX0_packed 20 = .ok (.iaload, 1) := by decide +kernel
theorem dX0_packed_21 : decode cX0_packed 21 = .ok (.bipush 8, 2) := by decide +kernel
theorem dX0_packed_23 : decode cX0_packed 23 = .ok (.ishl, 1) := by decide +kernel
theorem dX0_packed_24 : decode cX0_packed 24 = .ok (.ior, 1) := by decide +kernel
theorem dX0_packed_25 : decode cX0_packed 25 = .ok (.aload_n 0, 1) := by decide +kernel
theorem dX0_packed_26 : decode cX0_packed 26 = .ok (.getfield 18, 3) := by decide +kernel
theorem dX0_packed_29 : decode cX0_packed 29 = .ok (.iload_n 1, 1) := by decide +kernel
theorem dX0_packed_30 : decode cX0_packed 30 = .ok (.iaload, 1) := by decide +kernel
theorem dX0_packed_31 : decode cX0_packed 31 = .ok (.bipush 9, 2) := by decide +kernel
theorem dX0_packed_33 : decode cX0_packed 33 = .ok (.ishl, 1) := by decide +kernel
theorem dX0_packed_34 : decode cX0_packed 34 = .ok (.ior, 1) := by decide +kernel
theorem dX0_packed_35 : decode cX0_packed 35 = .ok (.aload_n 0, 1) := by decide +kernel
theorem dX0_packed_36 : decode cX0_packed 36 = .ok (.getfield 21, 3) := by decide +kernel
theorem dX0_packed_39 : decode cX0_packed 39 = .ok (.iload_n 1, 1) := by decide +kernel
theorem dX0_packed_40 : decode cX0_packed 40 = .ok (.iaload, 1) := by decide +kernel
theorem dX0_packed_41 : decode cX0_packed 41 = .ok (.bipush 11, 2) := by decide +kernel
theorem dX0_packed_43 : decode cX0_packed 43 = .ok (.ishl, 1) := by decide +kernel
theorem dX0_packed_44 : decode cX0_packed 44 = .ok (.ior, 1) := by decide +kernel
theorem dX0_packed_45 : decode cX0_packed 45 = .ok (.ireturn, 1) := by decide +kernel
theorem dX0_unpack_0 : decode cX0_unpack 0 = .ok (.aload_n 0, 1) := by decide +kernel
theorem dX0_unpack_1 : decode cX0_unpack 1 = .ok (.getfield 9, 3) := by decide +kernel
theorem dX0_unpack_4 : decode cX0_unpack 4 = .ok (.iload_n 1, 1) := by decide +kernel
theorem dX0_unpack_5 : decode cX0_unpack 5 = .ok (.iload_n 2, 1) := by decide +kernel
theorem dX0_unpack_6 : decode cX0_unpack 6 = .ok (.bipush 15, 2) := by decide +kernel
theorem dX0_unpack_8 : decode cX0_unpack 8 = .ok (.iand, 1) := by decide +kernel
theorem dX0_unpack_9 : decode cX0_unpack 9 = .ok (.iastore, 1) := by decide +kernel
theorem dX0_unpack_10 : decode cX0_unpack 10 = .ok (.aload_n 0, 1) := by decide +kernel
theorem dX0_unpack_11 : decode cX0_unpack 11 = .ok (.getfield 24, 3) := by decide +kernel
theorem dX0_unpack_14 : decode cX0_unpack 14 = .ok (.iload_n 1, 1) := by decide +kernel
theorem dX0_unpack_15 : decode cX0_unpack 15 = .ok (.iload_n 2, 1) := by decide +kernel
theorem dX0_unpack_16 : decode cX0_unpack 16 = .ok (.iconst 4, 1) := by decide +kernel
theorem dX0_unpack_17 : decode cX0_unpack 17 = .ok (.ishr, 1) := by decide +kernel
theorem dX0_unpack_18 : decode cX0_unpack 18 = .ok (.bipush 15, 2) := by decide +kernel
theorem dX0_unpack_20 : decode cX0_unpack 20 = .ok (.iand, 1) := by decide +kernel
theorem dX0_unpack_21 : decode cX0_unpack 21 = .ok (.iastore, 1) := by decide +kernel
theorem dX0_unpack_22 : decode cX0_unpack 22 = .ok (.aload_n 0, 1) := by decide +kernel
theorem dX0_unpack_23 : decode cX0_unpack 23 = .ok (.getfield 15, 3) := by decide +kernel
theorem dX0_unpack_26 : decode cX0_unpack 26 = .ok (.iload_n 1, 1) := by decide +kernel
theorem dX0_unpack_27 : decode cX0_unpack 27 = .ok (.iload_n 2, 1) := by decide +kernel
theorem dX0_unpack_28 : decode cX0_unpack 28 = .ok (.bipush 8, 2) := by decide +kernel
theorem dX0_unpack_30 : decode cX0_unpack 30 = .ok (.ishr, 1) := by decide +kernel
theorem dX0_unpack_31 : decode cX0_unpack 31 = .ok (.iconst 1, 1) := by decide +kernel
theorem dX0_unpack_32 : decode cX0_unpack 32 = .ok (.iand, 1) := by decide +kernel
theorem dX0_unpack_33 : decode cX0_unpack 33 = .ok (.iastore, 1) := by decide +kernel
theorem dX0_unpack_34 : decode cX0_unpack 34 = .ok (.aload_n 0, 1) := by decide +kernel
theorem dX0_unpack_35 : decode cX0_unpack 35 = .ok (.getfield 18, 3) := by decide +kernel
theorem dX0_unpack_38 : decode cX0_unpack 38 = .ok (.iload_n 1, 1) := by decide +kernel
theorem dX0_unpack_39 : decode cX0_unpack 39 = .ok (.iload_n 2, 1) := by decide +kernel
theorem dX0_unpack_40 : decode cX0_unpack 40 = .ok (.bipush 9, 2) := by decide +kernel
theorem dX0_unpack_42 : decode cX0_unpack 42 = .ok (.ishr, 1) := by decide +kernel
theorem dX0_unpack_43 : decode cX0_unpack 43 = .ok (.iconst 3, 1) := by decide +kernel
theorem dX0_unpack_44 : decode cX0_unpack 44 = .ok (.iand, 1) := by decide +kernel
theorem dX0_unpack_45 : decode cX0_unpack 45 = .ok (.iastore, 1) := by decide +kernel
theorem dX0_unpack_46 : decode cX0_unpack 46 = .ok (.aload_n 0, 1) := by decide +kernel
theorem dX0_unpack_47 : decode cX0_unpack 47 = .ok (.getfield 21, 3) := by decide +kernel
theorem dX0_unpack_50 : decode cX0_unpack 50 = .ok (.iload_n 1, 1) := by decide +kernel
theorem dX0_unpack_51 : decode cX0_unpack 51 = .ok (.iload_n 2, 1) := by decide +kernel
theorem dX0_unpack_52 : decode cX0_unpack 52 = .ok (.bipush 11, 2) := by decide +kernel
theorem dX0_unpack_54 : decode cX0_unpack 54 = .ok (.ishr, 1) := by decide +kernel
theorem dX0_unpack_55 : decode cX0_unpack 55 = .ok (.iconst 3, 1) := by decide +kernel
theorem dX0_unpack_56 : decode cX0_unpack 56 = .ok (.iand, 1) := by decide +kernel
theorem dX0_unpack_57 : decode cX0_unpack 57 = .ok (.iastore, 1) := by decide +kernel
theorem dX0_unpack_58 : decode cX0_unpack 58 = .ok (.return_, 1) := by decide +kernel
theorem dX2_init_0 : decode cX2_init 0 = .ok (.aload_n 0, 1) := by decide +kernel
theorem dX2_init_1 : decode cX2_init 1 = .ok (.invokespecial 3, 3) := by decide +kernel
theorem dX2_init_4 : decode cX2_init 4 = .ok (.aload_n 0, 1) := by decide +kernel
theorem dX2_init_5 : decode cX2_init 5 = .ok (.iconst 0, 1) := by decide +kernel
theorem dX2_init_6 : decode cX2_init 6 = .ok (.putfield 9, 3) := by decide +kernel
theorem dX2_init_9 : decode cX2_init 9 = .ok (.aload_n 0, 1) := by decide +kernel
theorem dX2_init_10 : decode cX2_init 10 = .ok (.iconst 0, 1) := by decide +kernel
theorem dX2_init_11 : decode cX2_init 11 = .ok (.putfield 15, 3) := by decide +kernel
theorem dX2_init_14 : decode cX2_init 14 = .ok (.aload_n 0, 1) := by decide +kernel
theorem dX2_init_15 : decode cX2_init 15 = .ok (.sipush 720, 3) := by decide +kernel
theorem dX2_init_18 : decode cX2_init 18 = .ok (.newarray .int, 2) := by decide +kernel
theorem dX2_init_20 : decode cX2_init 20 = .ok (.putfield 18, 3) := by decide +kernel
theorem dX2_init_23 : decode cX2_init 23 = .ok (.return_, 1) := by decide +kernel
set_option maxRecDepth 20000 in
theorem ggX2_note_X2_start : GoodIn wsX2_note wsX2_start := goodIn_r _ [7, 8, 19, 20, 21] (by decide +kernel) (by decide +kernel)
set_option maxRecDepth 20000 in
theorem gX2_note_X2_start : GoodIn wsX2_note (wsV RX2 22 RX2 yX2_start wsX2_start) := goodIn_app (goodIn_of _ (by decide +kernel)) ggX2_note_X2_start
set_option maxRecDepth 20000 in
theorem ggX2_note_X0_packed : GoodIn wsX2_note wsX0_packed := goodIn_r _ [13, 14, 15, 16, 17, 18, 22, 23, 24, 25, 26] (by decide +kernel) (by decide +kernel)
set_option maxRecDepth 20000 in
theorem gX2_note_X0_packed : GoodIn wsX2_note (wsV RX2 26 RX0 yX0_packed wsX0_packed) := goodIn_app (goodIn_of _ (by decide +kernel)) ggX2_note_X0_packed
theorem dX2_note_0 : decode cX2_note 0 = .ok (.aload_n 0, 1) := by decide +kernel
theorem dX2_note_1 : decode cX2_note 1 = .ok (.aload_n 0, 1) := by decide +kernel
theorem dX2_note_2 : decode cX2_note 2 = .ok (.getfield 9, 3) := by decide +kernel
theorem dX2_note_5 : decode cX2_note 5 = .ok (.invokevirtual 22, 3) := by decide +kernel
theorem dX2_note_8 : decode cX2_note 8 = .ok (.istore_n 2, 1) := by decide +kernel
theorem dX2_note_9 : decode cX2_note 9 = .ok (.iconst 0, 1) := by decide +kernel
theorem dX2_note_10 : decode cX2_note 10 = .ok (.istore_n 3, 1) := by decide +kernel
theorem dX2_note_11 : decode cX2_note 11 = .ok (.iload_n 3, 1) := by decide +kernel
theorem dX2_note_12 : decode cX2_note 12 = .ok (.bipush 80, 2) := by decide +kernel
theorem dX2_note_14 : decode cX2_note 14 = .ok (.if_icmp .ge 22, 3) := by decide +kernel
theorem dX2_note_17 : decode cX2_note 17 = .ok (.aload_n 0, 1) := by decide +kernel
theorem dX2_note_18 : decode cX2_note 18 = .ok (.getfield 18, 3) := by decide +kernel
theorem dX2_note_21 : decode cX2_note 21 = .ok (.iload_n 2, 1) := by decide +kernel
theorem dX2_note_22 : decode cX2_note 22 = .ok (.iload_n 3, 1) := by decide +kernel
theorem dX2_note_23 : decode cX2_note 23 = .ok (.iadd, 1) := by decide +kernel
theorem dX2_note_24 : decode cX2_note 24 = .ok (.aload_n 1, 1) := by decide +kernel
theorem dX2_note_25 : decode cX2_note 25 = .ok (.iload_n 3, 1) := by decide +kernel
theorem dX2_note_26 : decode cX2_note 26 = .ok (.invokevirtual 26, 3) := by decide +kernel
theorem dX2_note_29 : decode cX2_note 29 = .ok (.iastore, 1) := by decide +kernel
theorem dX2_note_30 : decode cX2_note 30 = .ok (.iinc 3 1, 3) := by decide +kernel
theorem dX2_note_33 : decode cX2_note 33 = .ok (.goto (-22), 3) := by decide +kernel
theorem dX2_note_36 : decode cX2_note 36 = .ok (.return_, 1) := by decide +kernel
theorem dX2_keep_0 : decode cX2_keep 0 = .ok (.aload_n 0, 1) := by decide +kernel
theorem dX2_keep_1 : decode cX2_keep 1 = .ok (.getfield 9, 3) := by decide +kernel
theorem dX2_keep_4 : decode cX2_keep 4 = .ok (.bipush 8, 2) := by decide +kernel
theorem dX2_keep_6 : decode cX2_keep 6 = .ok (.if_icmp .ge 16, 3) := by decide +kernel
theorem dX2_keep_9 : decode cX2_keep 9 = .ok (.aload_n 0, 1) := by decide +kernel
theorem dX2_keep_10 : decode cX2_keep 10 = .ok (.dup, 1) := by decide +kernel
theorem dX2_keep_11 : decode cX2_keep 11 = .ok (.getfield 9, 3) := by decide +kernel
theorem dX2_keep_14 : decode cX2_keep 14 = .ok (.iconst 1, 1) := by decide +kernel
theorem dX2_keep_15 : decode cX2_keep 15 = .ok (.iadd, 1) := by decide +kernel
theorem dX2_keep_16 : decode cX2_keep 16 = .ok (.putfield 9, 3) := by decide +kernel
theorem dX2_keep_19 : decode cX2_keep 19 = .ok (.goto 16, 3) := by decide +kernel
theorem dX2_keep_22 : decode cX2_keep 22 = .ok (.aload_n 0, 1) := by decide +kernel
theorem dX2_keep_23 : decode cX2_keep 23 = .ok (.aload_n 0, 1) := by decide +kernel
theorem dX2_keep_24 : decode cX2_keep 24 = .ok (.getfield 15, 3) := by decide +kernel
theorem dX2_keep_27 : decode cX2_keep 27 = .ok (.iconst 1, 1) := by decide +kernel
theorem dX2_keep_28 : decode cX2_keep 28 = .ok (.iadd, 1) := by decide +kernel
theorem dX2_keep_29 : decode cX2_keep 29 = .ok (.bipush 9, 2) := by decide +kernel
theorem dX2_keep_31 : decode cX2_keep 31 = .ok (.irem, 1) := by decide +kernel
theorem dX2_keep_32 : decode cX2_keep 32 = .ok (.putfield 15, 3) := by decide +kernel
theorem dX2_keep_35 : decode cX2_keep 35 = .ok (.return_, 1) := by decide +kernel
set_option maxRecDepth 20000 in
theorem ggX2_takeBack_X2_start : GoodIn wsX2_takeBack wsX2_start := goodIn_r _ [7, 8, 19, 20, 21] (by decide +kernel) (by decide +kernel)
set_option maxRecDepth 20000 in
theorem gX2_takeBack_X2_start : GoodIn wsX2_takeBack (wsV RX2 22 RX2 yX2_start wsX2_start) := goodIn_app (goodIn_of _ (by decide +kernel)) ggX2_takeBack_X2_start
set_option maxRecDepth 20000 in
theorem ggX2_takeBack_X0_unpack : GoodIn wsX2_takeBack wsX0_unpack := goodIn_r _ [13, 14, 15, 16, 17, 18, 22, 23, 24, 25, 26] (by decide +kernel) (by decide +kernel)
set_option maxRecDepth 20000 in
theorem gX2_takeBack_X0_unpack : GoodIn wsX2_takeBack (wsV RX2 31 RX0 yX0_unpack wsX0_unpack) := goodIn_app (goodIn_of _ (by decide +kernel)) ggX2_takeBack_X0_unpack
theorem dX2_takeBack_0 : decode cX2_takeBack 0 = .ok (.aload_n 0, 1) := by decide +kernel
theorem dX2_takeBack_1 : decode cX2_takeBack 1 = .ok (.getfield 9, 3) := by decide +kernel
theorem dX2_takeBack_4 : decode cX2_takeBack 4 = .ok (.ifCond .le 49, 3) := by decide +kernel
theorem dX2_takeBack_7 : decode cX2_takeBack 7 = .ok (.aload_n 0, 1) := by decide +kernel
theorem dX2_takeBack_8 : decode cX2_takeBack 8 = .ok (.dup, 1) := by decide +kernel
theorem dX2_takeBack_9 : decode cX2_takeBack 9 = .ok (.getfield 9, 3) := by decide +kernel
theorem dX2_takeBack_12 : decode cX2_takeBack 12 = .ok (.iconst 1, 1) := by decide +kernel
theorem dX2_takeBack_13 : decode cX2_takeBack 13 = .ok (.isub, 1) := by decide +kernel
theorem dX2_takeBack_14 : decode cX2_takeBack 14 = .ok (.putfield 9, 3) := by decide +kernel
theorem dX2_takeBack_17 : decode cX2_takeBack 17 = .ok (.aload_n 0, 1) := by decide +kernel
theorem dX2_takeBack_18 : decode cX2_takeBack 18 = .ok (.aload_n 0, 1) := by decide +kernel
theorem dX2_takeBack_19 : decode cX2_takeBack 19 = .ok (.getfield 9, 3) := by decide +kernel
theorem dX2_takeBack_22 : decode cX2_takeBack 22 = .ok (.invokevirtual 22, 3) := by decide +kernel
theorem dX2_takeBack_25 : decode cX2_takeBack 25 = .ok (.istore_n 2, 1) := by decide +kernel
theorem dX2_takeBack_26 : decode cX2_takeBack 26 = .ok (.iconst 0, 1) := by decide +kernel
theorem dX2_takeBack_27 : decode cX2_takeBack 27 = .ok (.istore_n 3, 1) := by decide +kernel
theorem dX2_takeBack_28 : decode cX2_takeBack 28 = .ok (.iload_n 3, 1) := by decide +kernel
theorem dX2_takeBack_29 : decode cX2_takeBack 29 = .ok (.bipush 80, 2) := by decide +kernel
theorem dX2_takeBack_31 : decode cX2_takeBack 31 = .ok (.if_icmp .ge 22, 3) := by decide +kernel
theorem dX2_takeBack_34 : decode cX2_takeBack 34 = .ok (.aload_n 1, 1) := by decide +kernel
theorem dX2_takeBack_35 : decode cX2_takeBack 35 = .ok (.iload_n 3, 1) := by decide +kernel
theorem dX2_takeBack_36 : decode cX2_takeBack 36 = .ok (.aload_n 0, 1) := by decide +kernel
theorem dX2_takeBack_37 : decode cX2_takeBack 37 = .ok (.getfield 18, 3) := by decide +kernel
theorem dX2_takeBack_40 : decode cX2_takeBack 40 = .ok (.iload_n 2, 1) := by decide +kernel
theorem dX2_takeBack_41 : decode cX2_takeBack 41 = .ok (.iload_n 3, 1) := by decide +kernel
theorem dX2_takeBack_42 : decode cX2_takeBack 42 = .ok (.iadd, 1) := by decide +kernel
theorem dX2_takeBack_43 : decode cX2_takeBack 43 = .ok (.iaload, 1) := by decide +kernel
theorem dX2_takeBack_44 : decode cX2_takeBack 44 = .ok (.invokevirtual 31, 3) := by decide +kernel
theorem dX2_takeBack_47 : decode cX2_takeBack 47 = .ok (.iinc 3 1, 3) := by decide +kernel
theorem dX2_takeBack_50 : decode cX2_takeBack 50 = .ok (.goto (-22), 3) := by decide +kernel
theorem dX2_takeBack_53 : decode cX2_takeBack 53 = .ok (.return_, 1) := by decide +kernel
theorem dX2_start_0 : decode cX2_start 0 = .ok (.aload_n 0, 1) := by decide +kernel
theorem dX2_start_1 : decode cX2_start 1 = .ok (.getfield 15, 3) := by decide +kernel
theorem dX2_start_4 : decode cX2_start 4 = .ok (.iload_n 1, 1) := by decide +kernel
theorem dX2_start_5 : decode cX2_start 5 = .ok (.iadd, 1) := by decide +kernel
theorem dX2_start_6 : decode cX2_start 6 = .ok (.bipush 9, 2) := by decide +kernel
theorem dX2_start_8 : decode cX2_start 8 = .ok (.irem, 1) := by decide +kernel
theorem dX2_start_9 : decode cX2_start 9 = .ok (.bipush 80, 2) := by decide +kernel
theorem dX2_start_11 : decode cX2_start 11 = .ok (.imul, 1) := by decide +kernel
theorem dX2_start_12 : decode cX2_start 12 = .ok (.ireturn, 1) := by decide +kernel
theorem dX3_init_0 : decode cX3_init 0 = .ok (.aload_n 0, 1) := by decide +kernel
theorem dX3_init_1 : decode cX3_init 1 = .ok (.invokespecial 3, 3) := by decide +kernel
theorem dX3_init_4 : decode cX3_init 4 = .ok (.aload_n 0, 1) := by decide +kernel
theorem dX3_init_5 : decode cX3_init 5 = .ok (.iconst 4, 1) := by decide +kernel
theorem dX3_init_6 : decode cX3_init 6 = .ok (.newarray .int, 2) := by decide +kernel
theorem dX3_init_8 : decode cX3_init 8 = .ok (.putfield 9, 3) := by decide +kernel
theorem dX3_init_11 : decode cX3_init 11 = .ok (.aload_n 0, 1) := by decide +kernel
theorem dX3_init_12 : decode cX3_init 12 = .ok (.iconst 4, 1) := by decide +kernel
theorem dX3_init_13 : decode cX3_init 13 = .ok (.newarray .int, 2) := by decide +kernel
theorem dX3_init_15 : decode cX3_init 15 = .ok (.putfield 15, 3) := by decide +kernel
theorem dX3_init_18 : decode cX3_init 18 = .ok (.aload_n 0, 1) := by decide +kernel
theorem dX3_init_19 : decode cX3_init 19 = .ok (.bipush 80, 2) := by decide +kernel
theorem dX3_init_21 : decode cX3_init 21 = .ok (.newarray .int, 2) := by decide +kernel
theorem dX3_init_23 : decode cX3_init 23 = .ok (.putfield 18, 3) := by decide +kernel
theorem dX3_init_26 : decode cX3_init 26 = .ok (.aload_n 0, 1) := by decide +kernel
theorem dX3_init_27 : decode cX3_init 27 = .ok (.bipush 16, 2) := by decide +kernel
theorem dX3_init_29 : decode cX3_init 29 = .ok (.newarray .int, 2) := by decide +kernel
theorem dX3_init_31 : decode cX3_init 31 = .ok (.putfield 21, 3) := by decide +kernel
theorem dX3_init_34 : decode cX3_init 34 = .ok (.return_, 1) := by decide +kernel
set_option maxRecDepth 20000 in
theorem ggX3_measure_J7_fill_53178 : GoodIn wsX3_measure wsJ7_fill_53178 := goodIn_r _ [10] (by decide +kernel) (by decide +kernel)
set_option maxRecDepth 20000 in
theorem gX3_measure_J7_fill_53178 : GoodIn wsX3_measure (va_wsS RX3 24 yJ7_fill_53178 wsJ7_fill_53178) := goodIn_app (goodIn_of _ (by decide +kernel)) ggX3_measure_J7_fill_53178
set_option maxRecDepth 20000 in
theorem ggX3_measure_X3_netsBeside : GoodIn wsX3_measure wsX3_netsBeside := goodIn_r _ [14, 3, 23, 24, 25, 26, 27] (by decide +kernel) (by decide +kernel)
set_option maxRecDepth 20000 in
theorem gX3_measure_X3_netsBeside : GoodIn wsX3_measure (va_wsS RX3 35 yX3_netsBeside wsX3_netsBeside) := goodIn_app (goodIn_of _ (by decide +kernel)) ggX3_measure_X3_netsBeside
set_option maxRecDepth 20000 in
theorem ggX3_measure_X3_shift : GoodIn wsX3_measure wsX3_shift := goodIn_r _ [18, 4, 1, 19, 20, 21, 22] (by decide +kernel) (by decide +kernel)
set_option maxRecDepth 20000 in
theorem gX3_measure_X3_shift : GoodIn wsX3_measure (wsV RX3 44 RX3 yX3_shift wsX3_shift) := goodIn_app (goodIn_of _ (by decide +kernel)) ggX3_measure_X3_shift
theorem dX3_measure_0 : decode cX3_measure 0 = .ok (.aload_n 0, 1) := by decide +kernel
theorem dX3_measure_1 : decode cX3_measure 1 = .ok (.getfield 15, 3) := by decide +kernel
theorem dX3_measure_4 : decode cX3_measure 4 = .ok (.iconst 0, 1) := by decide +kernel
theorem dX3_measure_5 : decode cX3_measure 5 = .ok (.invokestatic 24, 3) := by decide +kernel
theorem dX3_measure_8 : decode cX3_measure 8 = .ok (.aload_n 0, 1) := by decide +kernel
theorem dX3_measure_9 : decode cX3_measure 9 = .ok (.getfield 21, 3) := by decide +kernel
theorem dX3_measure_12 : decode cX3_measure 12 = .ok (.iconst 0, 1) := by decide +kernel
theorem dX3_measure_13 : decode cX3_measure 13 = .ok (.invokestatic 24, 3) := by decide +kernel
theorem dX3_measure_16 : decode cX3_measure 16 = .ok (.iconst 0, 1) := by decide +kernel
theorem dX3_measure_17 : decode cX3_measure 17 = .ok (.istore_n 2, 1) := by decide +kernel
theorem dX3_measure_18 : decode cX3_measure 18 = .ok (.iload_n 2, 1) := by decide +kernel
theorem dX3_measure_19 : decode cX3_measure 19 = .ok (.bipush 80, 2) := by decide +kernel
theorem dX3_measure_21 : decode cX3_measure 21 = .ok (.if_icmp .ge 92, 3) := by decide +kernel
theorem dX3_measure_24 : decode cX3_measure 24 = .ok (.iconst 1, 1) := by decide +kernel
theorem dX3_measure_25 : decode cX3_measure 25 = .ok (.aload_n 1, 1) := by decide +kernel
theorem dX3_measure_26 : decode cX3_measure 26 = .ok (.getfield 30, 3) := by decide +kernel
theorem dX3_measure_29 : decode cX3_measure 29 = .ok (.iload_n 2, 1) := by decide +kernel
theorem dX3_measure_30 : decode cX3_measure 30 = .ok (.iaload, 1) := by decide +kernel
theorem dX3_measure_31 : decode cX3_measure 31 = .ok (.ishl, 1) := by decide +kernel
theorem dX3_measure_32 : decode cX3_measure 32 = .ok (.istore_n 3, 1) := by decide +kernel
theorem dX3_measure_33 : decode cX3_measure 33 = .ok (.aload_n 0, 1) := by decide +kernel
theorem dX3_measure_34 : decode cX3_measure 34 = .ok (.getfield 18, 3) := by decide +kernel
theorem dX3_measure_37 : decode cX3_measure 37 = .ok (.iload_n 2, 1) := by decide +kernel
theorem dX3_measure_38 : decode cX3_measure 38 = .ok (.aload_n 1, 1) := by decide +kernel
theorem dX3_measure_39 : decode cX3_measure 39 = .ok (.iload_n 2, 1) := by decide +kernel
theorem dX3_measure_40 : decode cX3_measure 40 = .ok (.invokestatic 35, 3) := by decide +kernel
theorem dX3_measure_43 : decode cX3_measure 43 = .ok (.iload_n 3, 1) := by decide +kernel
theorem dX3_measure_44 : decode cX3_measure 44 = .ok (.iconst (-1), 1) := by decide +kernel
theorem dX3_measure_45 : decode cX3_measure 45 = .ok (.ixor, 1) := by decide +kernel
theorem dX3_measure_46 : decode cX3_measure 46 = .ok (.iand, 1) := by decide +kernel
theorem dX3_measure_47 : decode cX3_measure 47 = .ok (.bipush (-2), 2) := by decide +kernel
theorem dX3_measure_49 : decode cX3_measure 49 = .ok (.iand, 1) := by decide +kernel
theorem dX3_measure_50 : decode cX3_measure 50 = .ok (.iastore, 1) := by decide +kernel
theorem dX3_measure_51 : decode cX3_measure 51 = .ok (.iconst 1, 1) := by decide +kernel
theorem dX3_measure_52 : decode cX3_measure 52 = .ok (.istore 4, 2) := by decide +kernel
theorem dX3_measure_54 : decode cX3_measure 54 = .ok (.iload 4, 2) := by decide +kernel
theorem dX3_measure_56 : decode cX3_measure 56 = .ok (.iconst 4, 1) := by decide +kernel
theorem dX3_measure_57 : decode cX3_measure 57 = .ok (.if_icmp .ge 39, 3) := by decide +kernel
theorem dX3_measure_60 : decode cX3_measure 60 = .ok (.aload_n 0, 1) := by decide +kernel
theorem dX3_measure_61 : decode cX3_measure 61 = .ok (.getfield 21, 3) := by decide +kernel
theorem dX3_measure_64 : decode cX3_measure 64 = .ok (.iconst 4, 1) := by decide +kernel
theorem dX3_measure_65 : decode cX3_measure 65 = .ok (.aload_n 1, 1) := by decide +kernel
theorem dX3_measure_66 : decode cX3_measure 66 = .ok (.getfield 39, 3) := by decide +kernel
theorem dX3_measure_69 : decode cX3_measure 69 = .ok (.iload_n 2, 1) := by decide +kernel
theorem dX3_measure_70 : decode cX3_measure 70 = .ok (.iaload, 1) := by decide +kernel
theorem dX3_measure_71 : decode cX3_measure 71 = .ok (.imul, 1) := by decide +kernel
theorem dX3_measure_72 : decode cX3_measure 72 = .ok (.iload 4, 2) := by decide +kernel
theorem dX3_measure_74 : decode cX3_measure 74 = .ok (.iadd, 1) := by decide +kernel
theorem dX3_measure_75 : decode cX3_measure 75 = .ok (.dup2, 1) := by decide +kernel
theorem dX3_measure_76 : decode cX3_measure 76 = .ok (.iaload, 1) := by decide +kernel
theorem dX3_measure_77 : decode cX3_measure 77 = .ok (.aload_n 0, 1) := by decide +kernel
theorem dX3_measure_78 : decode cX3_measure 78 = .ok (.getfield 18, 3) := by decide +kernel
theorem dX3_measure_81 : decode cX3_measure 81 = .ok (.iload_n 2, 1) := by decide +kernel
theorem dX3_measure_82 : decode cX3_measure 82 = .ok (.iaload, 1) := by decide +kernel
theorem dX3_measure_83 : decode cX3_measure 83 = .ok (.iload 4, 2) := by decide +kernel
theorem dX3_measure_85 : decode cX3_measure 85 = .ok (.ishr, 1) := by decide +kernel
theorem dX3_measure_86 : decode cX3_measure 86 = .ok (.iconst 1, 1) := by decide +kernel
theorem dX3_measure_87 : decode cX3_measure 87 = .ok (.iand, 1) := by decide +kernel
theorem dX3_measure_88 : decode cX3_measure 88 = .ok (.iadd, 1) := by decide +kernel
theorem dX3_measure_89 : decode cX3_measure 89 = .ok (.iastore, 1) := by decide +kernel
theorem dX3_measure_90 : decode cX3_measure 90 = .ok (.iinc 4 1, 3) := by decide +kernel
theorem dX3_measure_93 : decode cX3_measure 93 = .ok (.goto (-39), 3) := by decide +kernel
theorem dX3_measure_96 : decode cX3_measure 96 = .ok (.aload_n 0, 1) := by decide +kernel
theorem dX3_measure_97 : decode cX3_measure 97 = .ok (.iload_n 2, 1) := by decide +kernel
theorem dX3_measure_98 : decode cX3_measure 98 = .ok (.aload_n 1, 1) := by decide +kernel
theorem dX3_measure_99 : decode cX3_measure 99 = .ok (.getfield 42, 3) := by decide +kernel
theorem dX3_measure_102 : decode cX3_measure 102 = .ok (.iload_n 2, 1) := by decide +kernel
theorem dX3_measure_103 : decode cX3_measure 103 = .ok (.iaload, 1) := by decide +kernel
theorem dX3_measure_104 : decode cX3_measure 104 = .ok (.invokevirtual 44, 3) := by decide +kernel
theorem dX3_measure_107 : decode cX3_measure 107 = .ok (.iinc 2 1, 3) := by decide +kernel
theorem dX3_measure_110 : decode cX3_measure 110 = .ok (.goto (-92), 3) := by decide +kernel
theorem dX3_measure_113 : decode cX3_measure 113 = .ok (.return_, 1) := by decide +kernel
theorem dX3_netsBeside_0 : decode cX3_netsBeside 0 = .ok (.iload_n 1, 1) := by decide +kernel
theorem dX3_netsBeside_1 : decode cX3_netsBeside 1 = .ok (.bipush 10, 2) := by decide +kernel
theorem dX3_netsBeside_3 : decode cX3_netsBeside 3 = .ok (.irem, 1) := by decide +kernel
theorem dX3_netsBeside_4 : decode cX3_netsBeside 4 = .ok (.istore_n 2, 1) := by decide +kernel
theorem dX3_netsBeside_5 : decode cX3_netsBeside 5 = .ok (.iconst 0, 1) := by decide +kernel
theorem dX3_netsBeside_6 : decode cX3_netsBeside 6 = .ok (.istore_n 3, 1) := by decide +kernel
theorem dX3_netsBeside_7 : decode cX3_netsBeside 7 = .ok (.iload_n 1, 1) := by decide +kernel
theorem dX3_netsBeside_8 : decode cX3_netsBeside 8 = .ok (.bipush 10, 2) := by decide +kernel
theorem dX3_netsBeside_10 : decode cX3_netsBeside 10 = .ok (.if_icmp .lt 17, 3) := by decide +kernel
theorem dX3_netsBeside_13 : decode cX3_netsBeside 13 = .ok (.iload_n 3, 1) := by decide +kernel
theorem dX3_netsBeside_14 : decode cX3_netsBeside 14 = .ok (.iconst 1, 1) := by decide +kernel
theorem dX3_netsBeside_15 : decode cX3_netsBeside 15 = .ok (.aload_n 0, 1) := by decide +kernel
theorem dX3_netsBeside_16 : decode cX3_netsBeside 16 = .ok (.getfield 30, 3) := by decide +kernel
theorem dX3_netsBeside_19 : decode cX3_netsBeside 19 = .ok (.iload_n 1, 1) := by decide +kernel
theorem dX3_netsBeside_20 : decode cX3_netsBeside 20 = .ok (.bipush 10, 2) := by decide +kernel
theorem dX3_netsBeside_22 : decode cX3_netsBeside 22 = .ok (.isub, 1) := by decide +kernel
theorem dX3_netsBeside_23 : decode cX3_netsBeside 23 = .ok (.iaload, 1) := by decide +kernel
theorem dX3_netsBeside_24 : decode cX3_netsBeside 24 = .ok (.ishl, 1) := by decide +kernel
theorem dX3_netsBeside_25 : decode cX3_netsBeside 25 = .ok (.ior, 1) := by decide +kernel
theorem dX3_netsBeside_26 : decode cX3_netsBeside 26 = .ok (.istore_n 3, 1) := by decide +kernel
theorem dX3_netsBeside_27 : decode cX3_netsBeside 27 = .ok (.iload_n 1, 1) := by decide +kernel
theorem dX3_netsBeside_28 : decode cX3_netsBeside 28 = .ok (.bipush 10, 2) := by decide +kernel
theorem dX3_netsBeside_30 : decode cX3_netsBeside 30 = .ok (.iadd, 1) := by decide +kernel
theorem dX3_netsBeside_31 : decode cX3_netsBeside 31 = .ok (.bipush 80, 2) := by decide +kernel
theorem dX3_netsBeside_33 : decode cX3_netsBeside 33 = .ok (.if_icmp .ge 17, 3) := by decide +kernel
theorem dX3_netsBeside_36 : decode cX3_netsBeside 36 = .ok (.iload_n 3, 1) := by decide +kernel
theorem dX3_netsBeside_37 : decode cX3_netsBeside 37 = .ok (.iconst 1, 1) := by decide +kernel
theorem dX3_netsBeside_38 : decode cX3_netsBeside 38 = .ok (.aload_n 0, 1) := by decide +kernel
theorem dX3_netsBeside_39 : decode cX3_netsBeside 39 = .ok (.getfield 30, 3) := by decide +kernel
theorem dX3_netsBeside_42 : decode cX3_netsBeside 42 = .ok (.iload_n 1, 1) := by decide +kernel
theorem dX3_netsBeside_43 : decode cX3_netsBeside 43 = .ok (.bipush 10, 2) := by decide +kernel
theorem dX3_netsBeside_45 : decode cX3_netsBeside 45 = .ok (.iadd, 1) := by decide +kernel
theorem dX3_netsBeside_46 : decode cX3_netsBeside 46 = .ok (.iaload, 1) := by decide +kernel
theorem dX3_netsBeside_47 : decode cX3_netsBeside 47 = .ok (.ishl, 1) := by decide +kernel
theorem dX3_netsBeside_48 : decode cX3_netsBeside 48 = .ok (.ior, 1) := by decide +kernel
theorem dX3_netsBeside_49 : decode cX3_netsBeside 49 = .ok (.istore_n 3, 1) := by decide +kernel
theorem dX3_netsBeside_50 : decode cX3_netsBeside 50 = .ok (.iload_n 2, 1) := by decide +kernel
theorem dX3_netsBeside_51 : decode cX3_netsBeside 51 = .ok (.ifCond .le 16, 3) := by decide +kernel
theorem dX3_netsBeside_54 : decode cX3_netsBeside 54 = .ok (.iload_n 3, 1) := by decide +kernel
theorem dX3_netsBeside_55 : decode cX3_netsBeside 55 = .ok (.iconst 1, 1) := by decide +kernel
theorem dX3_netsBeside_56 : decode cX3_netsBeside 56 = .ok (.aload_n 0, 1) := by decide +kernel
theorem dX3_netsBeside_57 : decode cX3_netsBeside 57 = .ok (.getfield 30, 3) := by decide +kernel
theorem dX3_netsBeside_60 : decode cX3_netsBeside 60 = .ok (.iload_n 1, 1) := by decide +kernel
theorem dX3_netsBeside_61 : decode cX3_netsBeside 61 = .ok (.iconst 1, 1) := by decide +kernel
theorem dX3_netsBeside_62 : decode cX3_netsBeside 62 = .ok (.isub, 1) := by decide +kernel
theorem dX3_netsBeside_63 : decode cX3_netsBeside 63 = .ok (.iaload, 1) := by decide +kernel
theorem dX3_netsBeside_64 : decode cX3_netsBeside 64 = .ok (.ishl, 1) := by decide +kernel
theorem dX3_netsBeside_65 : decode cX3_netsBeside 65 = .ok (.ior, 1) := by decide +kernel
theorem dX3_netsBeside_66 : decode cX3_netsBeside 66 = .ok (.istore_n 3, 1) := by decide +kernel
theorem dX3_netsBeside_67 : decode cX3_netsBeside 67 = .ok (.iload_n 2, 1) := by decide +kernel
theorem dX3_netsBeside_68 : decode cX3_netsBeside 68 = .ok (.iconst 1, 1) := by decide +kernel
theorem dX3_netsBeside_69 : decode cX3_netsBeside 69 = .ok (.iadd, 1) := by decide +kernel
theorem dX3_netsBeside_70 : decode cX3_netsBeside 70 = .ok (.bipush 10, 2) := by decide +kernel
theorem dX3_netsBeside_72 : decode cX3_netsBeside 72 = .ok (.if_icmp .ge 16, 3) := by decide +kernel
theorem dX3_netsBeside_75 : decode cX3_netsBeside 75 = .ok (.iload_n 3, 1) := by decide +kernel
theorem dX3_netsBeside_76 : decode cX3_netsBeside 76 = .ok (.iconst 1, 1) := by decide +kernel
theorem dX3_netsBeside_77 : decode cX3_netsBeside 77 = .ok (.aload_n 0, 1) := by decide +kernel
theorem dX3_netsBeside_78 : decode cX3_netsBeside 78 = .ok (.getfield 30, 3) := by decide +kernel
theorem dX3_netsBeside_81 : decode cX3_netsBeside 81 = .ok (.iload_n 1, 1) := by decide +kernel
theorem dX3_netsBeside_82 : decode cX3_netsBeside 82 = .ok (.iconst 1, 1) := by decide +kernel
theorem dX3_netsBeside_83 : decode cX3_netsBeside 83 = .ok (.iadd, 1) := by decide +kernel
theorem dX3_netsBeside_84 : decode cX3_netsBeside 84 = .ok (.iaload, 1) := by decide +kernel
theorem dX3_netsBeside_85 : decode cX3_netsBeside 85 = .ok (.ishl, 1) := by decide +kernel
theorem dX3_netsBeside_86 : decode cX3_netsBeside 86 = .ok (.ior, 1) := by decide +kernel
theorem dX3_netsBeside_87 : decode cX3_netsBeside 87 = .ok (.istore_n 3, 1) := by decide +kernel
theorem dX3_netsBeside_88 : decode cX3_netsBeside 88 = .ok (.iload_n 3, 1) := by decide +kernel
theorem dX3_netsBeside_89 : decode cX3_netsBeside 89 = .ok (.ireturn, 1) := by decide +kernel
theorem dX3_shift_0 : decode cX3_shift 0 = .ok (.aload_n 0, 1) := by decide +kernel
theorem dX3_shift_1 : decode cX3_shift 1 = .ok (.getfield 18, 3) := by decide +kernel
theorem dX3_shift_4 : decode cX3_shift 4 = .ok (.iload_n 1, 1) := by decide +kernel
theorem dX3_shift_5 : decode cX3_shift 5 = .ok (.iaload, 1) := by decide +kernel
theorem dX3_shift_6 : decode cX3_shift 6 = .ok (.ifCond .eq 37, 3) := by decide +kernel
theorem dX3_shift_9 : decode cX3_shift 9 = .ok (.iconst 1, 1) := by decide +kernel
theorem dX3_shift_10 : decode cX3_shift 10 = .ok (.istore_n 3, 1) := by decide +kernel
theorem dX3_shift_11 : decode cX3_shift 11 = .ok (.iload_n 3, 1) := by decide +kernel
theorem dX3_shift_12 : decode cX3_shift 12 = .ok (.iconst 4, 1) := by decide +kernel
theorem dX3_shift_13 : decode cX3_shift 13 = .ok (.if_icmp .ge 30, 3) := by decide +kernel
theorem dX3_shift_16 : decode cX3_shift 16 = .ok (.aload_n 0, 1) := by decide +kernel
theorem dX3_shift_17 : decode cX3_shift 17 = .ok (.getfield 15, 3) := by decide +kernel
theorem dX3_shift_20 : decode cX3_shift 20 = .ok (.iload_n 3, 1) := by decide +kernel
theorem dX3_shift_21 : decode cX3_shift 21 = .ok (.dup2, 1) := by decide +kernel
theorem dX3_shift_22 : decode cX3_shift 22 = .ok (.iaload, 1) := by decide +kernel
theorem dX3_shift_23 : decode cX3_shift 23 = .ok (.iload_n 2, 1) := by decide +kernel
theorem dX3_shift_24 : decode cX3_shift 24 = .ok (.aload_n 0, 1) := by decide +kernel
theorem dX3_shift_25 : decode cX3_shift 25 = .ok (.getfield 18, 3) := by decide +kernel
theorem dX3_shift_28 : decode cX3_shift 28 = .ok (.iload_n 1, 1) := by decide +kernel
theorem dX3_shift_29 : decode cX3_shift 29 = .ok (.iaload, 1) := by decide +kernel
theorem dX3_shift_30 : decode cX3_shift 30 = .ok (.iload_n 3, 1) := by decide +kernel
theorem dX3_shift_31 : decode cX3_shift 31 = .ok (.ishr, 1) := by decide +kernel
theorem dX3_shift_32 : decode cX3_shift 32 = .ok (.iconst 1, 1) := by decide +kernel
theorem dX3_shift_33 : decode cX3_shift 33 = .ok (.iand, 1) := by decide +kernel
theorem dX3_shift_34 : decode cX3_shift 34 = .ok (.imul, 1) := by decide +kernel
theorem dX3_shift_35 : decode cX3_shift 35 = .ok (.iadd, 1) := by decide +kernel
theorem dX3_shift_36 : decode cX3_shift 36 = .ok (.iastore, 1) := by decide +kernel
theorem dX3_shift_37 : decode cX3_shift 37 = .ok (.iinc 3 1, 3) := by decide +kernel
theorem dX3_shift_40 : decode cX3_shift 40 = .ok (.goto (-29), 3) := by decide +kernel
theorem dX3_shift_43 : decode cX3_shift 43 = .ok (.return_, 1) := by decide +kernel
theorem dX3_gain_0 : decode cX3_gain 0 = .ok (.iload_n 2, 1) := by decide +kernel
theorem dX3_gain_1 : decode cX3_gain 1 = .ok (.ifCond .ne 16, 3) := by decide +kernel
theorem dX3_gain_4 : decode cX3_gain 4 = .ok (.aload_n 0, 1) := by decide +kernel
theorem dX3_gain_5 : decode cX3_gain 5 = .ok (.getfield 18, 3) := by decide +kernel
theorem dX3_gain_8 : decode cX3_gain 8 = .ok (.iload_n 1, 1) := by decide +kernel
theorem dX3_gain_9 : decode cX3_gain 9 = .ok (.iaload, 1) := by decide +kernel
theorem dX3_gain_10 : decode cX3_gain 10 = .ok (.iload_n 3, 1) := by decide +kernel
theorem dX3_gain_11 : decode cX3_gain 11 = .ok (.ishr, 1) := by decide +kernel
theorem dX3_gain_12 : decode cX3_gain 12 = .ok (.iconst 1, 1) := by decide +kernel
theorem dX3_gain_13 : decode cX3_gain 13 = .ok (.iand, 1) := by decide +kernel
theorem dX3_gain_14 : decode cX3_gain 14 = .ok (.goto 13, 3) := by decide +kernel
theorem dX3_gain_17 : decode cX3_gain 17 = .ok (.aload_n 0, 1) := by decide +kernel
theorem dX3_gain_18 : decode cX3_gain 18 = .ok (.getfield 21, 3) := by decide +kernel
theorem dX3_gain_21 : decode cX3_gain 21 = .ok (.iconst 4, 1) := by decide +kernel
theorem dX3_gain_22 : decode cX3_gain 22 = .ok (.iload_n 2, 1) := by decide +kernel
theorem dX3_gain_23 : decode cX3_gain 23 = .ok (.imul, 1) := by decide +kernel
theorem dX3_gain_24 : decode cX3_gain 24 = .ok (.iload_n 3, 1) := by decide +kernel
theorem dX3_gain_25 : decode cX3_gain 25 = .ok (.iadd, 1) := by decide +kernel
theorem dX3_gain_26 : decode cX3_gain 26 = .ok (.iaload, 1) := by decide +kernel
theorem dX3_gain_27 : decode cX3_gain 27 = .ok (.ireturn, 1) := by decide +kernel
set_option maxRecDepth 20000 in
theorem ggX3_gainOfAll_X3_gain : GoodIn wsX3_gainOfAll wsX3_gain := goodIn_r _ [5, 6, 7, 8, 9, 10, 11] (by decide +kernel) (by decide +kernel)
set_option maxRecDepth 20000 in
theorem gX3_gainOfAll_X3_gain : GoodIn wsX3_gainOfAll (wsV RX3 48 RX3 yX3_gain wsX3_gain) := goodIn_app (goodIn_of _ (by decide +kernel)) ggX3_gainOfAll_X3_gain
theorem dX3_gainOfAll_0 : decode cX3_gainOfAll 0 = .ok (.iconst 0, 1) := by decide +kernel
theorem dX3_gainOfAll_1 : decode cX3_gainOfAll 1 = .ok (.istore_n 3, 1) := by decide +kernel
theorem dX3_gainOfAll_2 : decode cX3_gainOfAll 2 = .ok (.iconst 1, 1) := by decide +kernel
theorem dX3_gainOfAll_3 : decode cX3_gainOfAll 3 = .ok (.istore 4, 2) := by decide +kernel
theorem dX3_gainOfAll_5 : decode cX3_gainOfAll 5 = .ok (.iload 4, 2) := by decide +kernel
theorem dX3_gainOfAll_7 : decode cX3_gainOfAll 7 = .ok (.iconst 4, 1) := by decide +kernel
theorem dX3_gainOfAll_8 : decode cX3_gainOfAll 8 = .ok (.if_icmp .ge 20, 3) := by decide +kernel
theorem dX3_gainOfAll_11 : decode cX3_gainOfAll 11 = .ok (.iload_n 3, 1) := by decide +kernel
theorem dX3_gainOfAll_12 : decode cX3_gainOfAll 12 = .ok (.aload_n 0, 1) := by decide +kernel
theorem dX3_gainOfAll_13 : decode cX3_gainOfAll 13 = .ok (.iload_n 1, 1) := by decide +kernel
theorem dX3_gainOfAll_14 : decode cX3_gainOfAll 14 = .ok (.iload_n 2, 1) := by decide +kernel
theorem dX3_gainOfAll_15 : decode cX3_gainOfAll 15 = .ok (.iload 4, 2) := by decide +kernel
theorem dX3_gainOfAll_17 : decode cX3_gainOfAll 17 = .ok (.invokevirtual 48, 3) := by decide +kernel
theorem dX3_gainOfAll_20 : decode cX3_gainOfAll 20 = .ok (.iadd, 1) := by decide +kernel
theorem dX3_gainOfAll_21 : decode cX3_gainOfAll 21 = .ok (.istore_n 3, 1) := by decide +kernel
theorem dX3_gainOfAll_22 : decode cX3_gainOfAll 22 = .ok (.iinc 4 1, 3) := by decide +kernel
theorem dX3_gainOfAll_25 : decode cX3_gainOfAll 25 = .ok (.goto (-20), 3) := by decide +kernel
theorem dX3_gainOfAll_28 : decode cX3_gainOfAll 28 = .ok (.iload_n 3, 1) := by decide +kernel
theorem dX3_gainOfAll_29 : decode cX3_gainOfAll 29 = .ok (.ireturn, 1) := by decide +kernel
set_option maxRecDepth 20000 in
theorem ggX3_bear_X3_gain : GoodIn wsX3_bear wsX3_gain := goodIn_r _ [7, 8, 9, 10, 11, 12, 13] (by decide +kernel) (by decide +kernel)
set_option maxRecDepth 20000 in
theorem gX3_bear_X3_gain : GoodIn wsX3_bear (wsV RX3 48 RX3 yX3_gain wsX3_gain) := goodIn_app (goodIn_of _ (by decide +kernel)) ggX3_bear_X3_gain
theorem dX3_bear_0 : decode cX3_bear 0 = .ok (.iconst 1, 1) := by decide +kernel
theorem dX3_bear_1 : decode cX3_bear 1 = .ok (.istore_n 3, 1) := by decide +kernel
theorem dX3_bear_2 : decode cX3_bear 2 = .ok (.iload_n 3, 1) := by decide +kernel
theorem dX3_bear_3 : decode cX3_bear 3 = .ok (.iconst 4, 1) := by decide +kernel
theorem dX3_bear_4 : decode cX3_bear 4 = .ok (.if_icmp .ge 43, 3) := by decide +kernel
theorem dX3_bear_7 : decode cX3_bear 7 = .ok (.aload_n 0, 1) := by decide +kernel
theorem dX3_bear_8 : decode cX3_bear 8 = .ok (.iload_n 1, 1) := by decide +kernel
theorem dX3_bear_9 : decode cX3_bear 9 = .ok (.iload_n 2, 1) := by decide +kernel
theorem dX3_bear_10 : decode cX3_bear 10 = .ok (.iload_n 3, 1) := by decide +kernel
theorem dX3_bear_11 : decode cX3_bear 11 = .ok (.invokevirtual 48, 3) := by decide +kernel
theorem dX3_bear_14 : decode cX3_bear 14 = .ok (.istore 4, 2) := by decide +kernel
theorem dX3_bear_16 : decode cX3_bear 16 = .ok (.iload 4, 2) := by decide +kernel
theorem dX3_bear_18 : decode cX3_bear 18 = .ok (.ifCond .le 23, 3) := by decide +kernel
theorem dX3_bear_21 : decode cX3_bear 21 = .ok (.aload_n 0, 1) := by decide +kernel
theorem dX3_bear_22 : decode cX3_bear 22 = .ok (.getfield 15, 3) := by decide +kernel
theorem dX3_bear_25 : decode cX3_bear 25 = .ok (.iload_n 3, 1) := by decide +kernel
theorem dX3_bear_26 : decode cX3_bear 26 = .ok (.iaload, 1) := by decide +kernel
theorem dX3_bear_27 : decode cX3_bear 27 = .ok (.iload 4, 2) := by decide +kernel
theorem dX3_bear_29 : decode cX3_bear 29 = .ok (.iadd, 1) := by decide +kernel
theorem dX3_bear_30 : decode cX3_bear 30 = .ok (.aload_n 0, 1) := by decide +kernel
theorem dX3_bear_31 : decode cX3_bear 31 = .ok (.getfield 9, 3) := by decide +kernel
theorem dX3_bear_34 : decode cX3_bear 34 = .ok (.iload_n 3, 1) := by decide +kernel
theorem dX3_bear_35 : decode cX3_bear 35 = .ok (.iaload, 1) := by decide +kernel
theorem dX3_bear_36 : decode cX3_bear 36 = .ok (.if_icmp .le 5, 3) := by decide +kernel
theorem dX3_bear_39 : decode cX3_bear 39 = .ok (.iconst 0, 1) := by decide +kernel
theorem dX3_bear_40 : decode cX3_bear 40 = .ok (.ireturn, 1) := by decide +kernel
theorem dX3_bear_41 : decode cX3_bear 41 = .ok (.iinc 3 1, 3) := by decide +kernel
theorem dX3_bear_44 : decode cX3_bear 44 = .ok (.goto (-42), 3) := by decide +kernel
theorem dX3_bear_47 : decode cX3_bear 47 = .ok (.iconst 1, 1) := by decide +kernel
theorem dX3_bear_48 : decode cX3_bear 48 = .ok (.ireturn, 1) := by decide +kernel
theorem dX4_init_0 : decode cX4_init 0 = .ok (.aload_n 0, 1) := by decide +kernel
theorem dX4_init_1 : decode cX4_init 1 = .ok (.invokespecial 3, 3) := by decide +kernel
theorem dX4_init_4 : decode cX4_init 4 = .ok (.aload_n 0, 1) := by decide +kernel
theorem dX4_init_5 : decode cX4_init 5 = .ok (.iconst 0, 1) := by decide +kernel
theorem dX4_init_6 : decode cX4_init 6 = .ok (.putfield 9, 3) := by decide +kernel
theorem dX4_init_9 : decode cX4_init 9 = .ok (.aload_n 0, 1) := by decide +kernel
theorem dX4_init_10 : decode cX4_init 10 = .ok (.bipush 120, 2) := by decide +kernel
theorem dX4_init_12 : decode cX4_init 12 = .ok (.newarray .int, 2) := by decide +kernel
theorem dX4_init_14 : decode cX4_init 14 = .ok (.putfield 15, 3) := by decide +kernel
theorem dX4_init_17 : decode cX4_init 17 = .ok (.return_, 1) := by decide +kernel
theorem dX4_append_0 : decode cX4_append 0 = .ok (.aload_n 0, 1) := by decide +kernel
theorem dX4_append_1 : decode cX4_append 1 = .ok (.getfield 9, 3) := by decide +kernel
theorem dX4_append_4 : decode cX4_append 4 = .ok (.bipush 120, 2) := by decide +kernel
theorem dX4_append_6 : decode cX4_append 6 = .ok (.if_icmp .ge 23, 3) := by decide +kernel
theorem dX4_append_9 : decode cX4_append 9 = .ok (.aload_n 0, 1) := by decide +kernel
theorem dX4_append_10 : decode cX4_append 10 = .ok (.getfield 15, 3) := by decide +kernel
theorem dX4_append_13 : decode cX4_append 13 = .ok (.aload_n 0, 1) := by decide +kernel
theorem dX4_append_14 : decode cX4_append 14 = .ok (.getfield 9, 3) := by decide +kernel
theorem dX4_append_17 : decode cX4_append 17 = .ok (.iload_n 1, 1) := by decide +kernel
theorem dX4_append_18 : decode cX4_append 18 = .ok (.iastore, 1) := by decide +kernel
theorem dX4_append_19 : decode cX4_append 19 = .ok (.aload_n 0, 1) := by decide +kernel
theorem dX4_append_20 : decode cX4_append 20 = .ok (.dup, 1) := by decide +kernel
theorem dX4_append_21 : decode cX4_append 21 = .ok (.getfield 9, 3) := by decide +kernel
theorem dX4_append_24 : decode cX4_append 24 = .ok (.iconst 1, 1) := by decide +kernel
theorem dX4_append_25 : decode cX4_append 25 = .ok (.iadd, 1) := by decide +kernel
theorem dX4_append_26 : decode cX4_append 26 = .ok (.putfield 9, 3) := by decide +kernel
theorem dX4_append_29 : decode cX4_append 29 = .ok (.return_, 1) := by decide +kernel
set_option maxRecDepth 20000 in
theorem ggX4_fault_X4_isSign : GoodIn wsX4_fault wsX4_isSign := goodIn_r _ [6] (by decide +kernel) (by decide +kernel)
set_option maxRecDepth 20000 in
theorem gX4_fault_X4_isSign : GoodIn wsX4_fault (va_wsS RX4 19 yX4_isSign wsX4_isSign) := goodIn_app (goodIn_of _ (by decide +kernel)) ggX4_fault_X4_isSign
theorem dX4_fault_0 : decode cX4_fault 0 = .ok (.iconst 0, 1) := by decide +kernel
theorem dX4_fault_1 : decode cX4_fault 1 = .ok (.istore_n 1, 1) := by decide +kernel
theorem dX4_fault_2 : decode cX4_fault 2 = .ok (.iconst 0, 1) := by decide +kernel
theorem dX4_fault_3 : decode cX4_fault 3 = .ok (.istore_n 2, 1) := by decide +kernel
theorem dX4_fault_4 : decode cX4_fault 4 = .ok (.iconst 0, 1) := by decide +kernel
theorem dX4_fault_5 : decode cX4_fault 5 = .ok (.istore_n 3, 1) := by decide +kernel
theorem dX4_fault_6 : decode cX4_fault 6 = .ok (.iconst 0, 1) := by decide +kernel
theorem dX4_fault_7 : decode cX4_fault 7 = .ok (.istore 4, 2) := by decide +kernel
theorem dX4_fault_9 : decode cX4_fault 9 = .ok (.iload 4, 2) := by decide +kernel
theorem dX4_fault_11 : decode cX4_fault 11 = .ok (.aload_n 0, 1) := by decide +kernel
theorem dX4_fault_12 : decode cX4_fault 12 = .ok (.getfield 9, 3) := by decide +kernel
theorem dX4_fault_15 : decode cX4_fault 15 = .ok (.if_icmp .ge 98, 3) := by decide +kernel
theorem dX4_fault_18 : decode cX4_fault 18 = .ok (.aload_n 0, 1) := by decide +kernel
theorem dX4_fault_19 : decode cX4_fault 19 = .ok (.getfield 15, 3) := by decide +kernel
theorem dX4_fault_22 : decode cX4_fault 22 = .ok (.iload 4, 2) := by decide +kernel
theorem dX4_fault_24 : decode cX4_fault 24 = .ok (.iaload, 1) := by decide +kernel
theorem dX4_fault_25 : decode cX4_fault 25 = .ok (.istore 5, 2) := by decide +kernel
theorem dX4_fault_27 : decode cX4_fault 27 = .ok (.iload 5, 2) := by decide +kernel
theorem dX4_fault_29 : decode cX4_fault 29 = .ok (.bipush 32, 2) := by decide +kernel
theorem dX4_fault_31 : decode cX4_fault 31 = .ok (.if_icmp .ne 6, 3) := by decide +kernel
theorem dX4_fault_34 : decode cX4_fault 34 = .ok (.goto 73, 3) := by decide +kernel
theorem dX4_fault_37 : decode cX4_fault 37 = .ok (.iload_n 1, 1) := by decide +kernel
theorem dX4_fault_38 : decode cX4_fault 38 = .ok (.ifCond .ne 27, 3) := by decide +kernel
theorem dX4_fault_41 : decode cX4_fault 41 = .ok (.iload 5, 2) := by decide +kernel
theorem dX4_fault_43 : decode cX4_fault 43 = .ok (.bipush 48, 2) := by decide +kernel
theorem dX4_fault_45 : decode cX4_fault 45 = .ok (.if_icmp .lt 10, 3) := by decide +kernel
theorem dX4_fault_48 : decode cX4_fault 48 = .ok (.iload 5, 2) := by decide +kernel
theorem dX4_fault_50 : decode cX4_fault 50 = .ok (.bipush 55, 2) := by decide +kernel
theorem dX4_fault_52 : decode cX4_fault 52 = .ok (.if_icmp .le 6, 3) := by decide +kernel
theorem dX4_fault_55 : decode cX4_fault 55 = .ok (.iload 4, 2) := by decide +kernel
theorem dX4_fault_57 : decode cX4_fault 57 = .ok (.ireturn, 1) := by decide +kernel
theorem dX4_fault_58 : decode cX4_fault 58 = .ok (.iconst 1, 1) := by decide +kernel
theorem dX4_fault_59 : decode cX4_fault 59 = .ok (.istore_n 1, 1) := by decide +kernel
theorem dX4_fault_60 : decode cX4_fault 60 = .ok (.iconst 0, 1) := by decide +kernel
theorem dX4_fault_61 : decode cX4_fault 61 = .ok (.istore_n 3, 1) := by decide +kernel
theorem dX4_fault_62 : decode cX4_fault 62 = .ok (.goto 45, 3) := by decide +kernel
theorem dX4_fault_65 : decode cX4_fault 65 = .ok (.iload 5, 2) := by decide +kernel
theorem dX4_fault_67 : decode cX4_fault 67 = .ok (.bipush 59, 2) := by decide +kernel
theorem dX4_fault_69 : decode cX4_fault 69 = .ok (.if_icmp .ne 15, 3) := by decide +kernel
theorem dX4_fault_72 : decode cX4_fault 72 = .ok (.iload_n 3, 1) := by decide +kernel
theorem dX4_fault_73 : decode cX4_fault 73 = .ok (.ifCond .le 11, 3) := by decide +kernel
theorem dX4_fault_76 : decode cX4_fault 76 = .ok (.iconst 0, 1) := by decide +kernel
theorem dX4_fault_77 : decode cX4_fault 77 = .ok (.istore_n 1, 1) := by decide +kernel
theorem dX4_fault_78 : decode cX4_fault 78 = .ok (.iinc 2 1, 3) := by decide +kernel
theorem dX4_fault_81 : decode cX4_fault 81 = .ok (.goto 26, 3) := by decide +kernel
theorem dX4_fault_84 : decode cX4_fault 84 = .ok (.iload 5, 2) := by decide +kernel
theorem dX4_fault_86 : decode cX4_fault 86 = .ok (.invokestatic 19, 3) := by decide +kernel
theorem dX4_fault_89 : decode cX4_fault 89 = .ok (.ifCond .eq 15, 3) := by decide +kernel
theorem dX4_fault_92 : decode cX4_fault 92 = .ok (.iload_n 3, 1) := by decide +kernel
theorem dX4_fault_93 : decode cX4_fault 93 = .ok (.bipush 10, 2) := by decide +kernel
theorem dX4_fault_95 : decode cX4_fault 95 = .ok (.if_icmp .ge 9, 3) := by decide +kernel
theorem dX4_fault_98 : decode cX4_fault 98 = .ok (.iinc 3 1, 3) := by decide +kernel
theorem dX4_fault_101 : decode cX4_fault 101 = .ok (.goto 6, 3) := by decide +kernel
theorem dX4_fault_104 : decode cX4_fault 104 = .ok (.iload 4, 2) := by decide +kernel
theorem dX4_fault_106 : decode cX4_fault 106 = .ok (.ireturn, 1) := by decide +kernel
theorem dX4_fault_107 : decode cX4_fault 107 = .ok (.iinc 4 1, 3) := by decide +kernel
theorem dX4_fault_110 : decode cX4_fault 110 = .ok (.goto (-101), 3) := by decide +kernel
theorem dX4_fault_113 : decode cX4_fault 113 = .ok (.iload_n 1, 1) := by decide +kernel
theorem dX4_fault_114 : decode cX4_fault 114 = .ok (.ifCond .ne 7, 3) := by decide +kernel
theorem dX4_fault_117 : decode cX4_fault 117 = .ok (.iload_n 2, 1) := by decide +kernel
theorem dX4_fault_118 : decode cX4_fault 118 = .ok (.ifCond .ne 10, 3) := by decide +kernel
theorem dX4_fault_121 : decode cX4_fault 121 = .ok (.aload_n 0, 1) := by decide +kernel
theorem dX4_fault_122 : decode cX4_fault 122 = .ok (.getfield 9, 3) := by decide +kernel
theorem dX4_fault_125 : decode cX4_fault 125 = .ok (.goto 4, 3) := by decide +kernel
theorem dX4_fault_128 : decode cX4_fault 128 = .ok (.iconst (-1), 1) := by decide +kernel
theorem dX4_fault_129 : decode cX4_fault 129 = .ok (.ireturn, 1) := by decide +kernel
theorem dX4_isSign_0 : decode cX4_isSign 0 = .ok (.iload_n 0, 1) := by decide +kernel
theorem dX4_isSign_1 : decode cX4_isSign 1 = .ok (.bipush 48, 2) := by decide +kernel
theorem dX4_isSign_3 : decode cX4_isSign 3 = .ok (.if_icmp .lt 9, 3) := by decide +kernel
theorem dX4_isSign_6 : decode cX4_isSign 6 = .ok (.iload_n 0, 1) := by decide +kernel
theorem dX4_isSign_7 : decode cX4_isSign 7 = .ok (.bipush 57, 2) := by decide +kernel
theorem dX4_isSign_9 : decode cX4_isSign 9 = .ok (.if_icmp .le 15, 3) := by decide +kernel
theorem dX4_isSign_12 : decode cX4_isSign 12 = .ok (.iload_n 0, 1) := by decide +kernel
theorem dX4_isSign_13 : decode cX4_isSign 13 = .ok (.bipush 35, 2) := by decide +kernel
theorem dX4_isSign_15 : decode cX4_isSign 15 = .ok (.if_icmp .eq 9, 3) := by decide +kernel
theorem dX4_isSign_18 : decode cX4_isSign 18 = .ok (.iload_n 0, 1) := by decide +kernel
theorem dX4_isSign_19 : decode cX4_isSign 19 = .ok (.bipush 46, 2) := by decide +kernel
theorem dX4_isSign_21 : decode cX4_isSign 21 = .ok (.if_icmp .ne 7, 3) := by decide +kernel
theorem dX4_isSign_24 : decode cX4_isSign 24 = .ok (.iconst 1, 1) := by decide +kernel
theorem dX4_isSign_25 : decode cX4_isSign 25 = .ok (.goto 4, 3) := by decide +kernel
theorem dX4_isSign_28 : decode cX4_isSign 28 = .ok (.iconst 0, 1) := by decide +kernel
theorem dX4_isSign_29 : decode cX4_isSign 29 = .ok (.ireturn, 1) := by decide +kernel
set_option maxRecDepth 20000 in
theorem ggX4_tell_X4_tellCell : GoodIn wsX4_tell wsX4_tellCell := goodIn_r _ [6, 7, 8, 9, 10, 11, 12, 13, 14, 17, 18, 19, 20, 21] (by decide +kernel) (by decide +kernel)
set_option maxRecDepth 20000 in
theorem gX4_tell_X4_tellCell : GoodIn wsX4_tell (va_wsS RX4 23 yX4_tellCell wsX4_tellCell) := goodIn_app (goodIn_of _ (by decide +kernel)) ggX4_tell_X4_tellCell
theorem dX4_tell_0 : decode cX4_tell 0 = .ok (.iconst 0, 1) := by decide +kernel
theorem dX4_tell_1 : decode cX4_tell 1 = .ok (.istore_n 2, 1) := by decide +kernel
theorem dX4_tell_2 : decode cX4_tell 2 = .ok (.iconst (-1), 1) := by decide +kernel
theorem dX4_tell_3 : decode cX4_tell 3 = .ok (.istore_n 3, 1) := by decide +kernel
theorem dX4_tell_4 : decode cX4_tell 4 = .ok (.iconst 0, 1) := by decide +kernel
theorem dX4_tell_5 : decode cX4_tell 5 = .ok (.istore 4, 2) := by decide +kernel
theorem dX4_tell_7 : decode cX4_tell 7 = .ok (.iload 4, 2) := by decide +kernel
theorem dX4_tell_9 : decode cX4_tell 9 = .ok (.aload_n 0, 1) := by decide +kernel
theorem dX4_tell_10 : decode cX4_tell 10 = .ok (.getfield 9, 3) := by decide +kernel
theorem dX4_tell_13 : decode cX4_tell 13 = .ok (.if_icmp .ge 70, 3) := by decide +kernel
theorem dX4_tell_16 : decode cX4_tell 16 = .ok (.aload_n 0, 1) := by decide +kernel
theorem dX4_tell_17 : decode cX4_tell 17 = .ok (.getfield 15, 3) := by decide +kernel
theorem dX4_tell_20 : decode cX4_tell 20 = .ok (.iload 4, 2) := by decide +kernel
theorem dX4_tell_22 : decode cX4_tell 22 = .ok (.iaload, 1) := by decide +kernel
theorem dX4_tell_23 : decode cX4_tell 23 = .ok (.istore 5, 2) := by decide +kernel
theorem dX4_tell_25 : decode cX4_tell 25 = .ok (.iload 5, 2) := by decide +kernel
theorem dX4_tell_27 : decode cX4_tell 27 = .ok (.bipush 32, 2) := by decide +kernel
theorem dX4_tell_29 : decode cX4_tell 29 = .ok (.if_icmp .ne 6, 3) := by decide +kernel
theorem dX4_tell_32 : decode cX4_tell 32 = .ok (.goto 45, 3) := by decide +kernel
theorem dX4_tell_35 : decode cX4_tell 35 = .ok (.iload 5, 2) := by decide +kernel
theorem dX4_tell_37 : decode cX4_tell 37 = .ok (.bipush 59, 2) := by decide +kernel
theorem dX4_tell_39 : decode cX4_tell 39 = .ok (.if_icmp .ne 11, 3) := by decide +kernel
theorem dX4_tell_42 : decode cX4_tell 42 = .ok (.iinc 2 1, 3) := by decide +kernel
theorem dX4_tell_45 : decode cX4_tell 45 = .ok (.iconst (-1), 1) := by decide +kernel
theorem dX4_tell_46 : decode cX4_tell 46 = .ok (.istore_n 3, 1) := by decide +kernel
theorem dX4_tell_47 : decode cX4_tell 47 = .ok (.goto 30, 3) := by decide +kernel
theorem dX4_tell_50 : decode cX4_tell 50 = .ok (.iload_n 3, 1) := by decide +kernel
theorem dX4_tell_51 : decode cX4_tell 51 = .ok (.iconst (-1), 1) := by decide +kernel
theorem dX4_tell_52 : decode cX4_tell 52 = .ok (.if_icmp .ne 15, 3) := by decide +kernel
theorem dX4_tell_55 : decode cX4_tell 55 = .ok (.bipush 10, 2) := by decide +kernel
theorem dX4_tell_57 : decode cX4_tell 57 = .ok (.iload 5, 2) := by decide +kernel
theorem dX4_tell_59 : decode cX4_tell 59 = .ok (.bipush 48, 2) := by decide +kernel
theorem dX4_tell_61 : decode cX4_tell 61 = .ok (.isub, 1) := by decide +kernel
theorem dX4_tell_62 : decode cX4_tell 62 = .ok (.imul, 1) := by decide +kernel
theorem dX4_tell_63 : decode cX4_tell 63 = .ok (.istore_n 3, 1) := by decide +kernel
theorem dX4_tell_64 : decode cX4_tell 64 = .ok (.goto 13, 3) := by decide +kernel
theorem dX4_tell_67 : decode cX4_tell 67 = .ok (.aload_n 1, 1) := by decide +kernel
theorem dX4_tell_68 : decode cX4_tell 68 = .ok (.iload_n 3, 1) := by decide +kernel
theorem dX4_tell_69 : decode cX4_tell 69 = .ok (.iload 5, 2) := by decide +kernel
theorem dX4_tell_71 : decode cX4_tell 71 = .ok (.invokestatic 23, 3) := by decide +kernel
theorem dX4_tell_74 : decode cX4_tell 74 = .ok (.iinc 3 1, 3) := by decide +kernel
theorem dX4_tell_77 : decode cX4_tell 77 = .ok (.iinc 4 1, 3) := by decide +kernel
theorem dX4_tell_80 : decode cX4_tell 80 = .ok (.goto (-73), 3) := by decide +kernel
theorem dX4_tell_83 : decode cX4_tell 83 = .ok (.iload_n 2, 1) := by decide +kernel
theorem dX4_tell_84 : decode cX4_tell 84 = .ok (.ireturn, 1) := by decide +kernel
set_option maxRecDepth 20000 in
theorem ggX4_tellCell_X6_isCell : GoodIn wsX4_tellCell wsX6_isCell := goodIn_r _ [5, 6, 7, 4, 8] (by decide +kernel) (by decide +kernel)
set_option maxRecDepth 20000 in
theorem gX4_tellCell_X6_isCell_n27 : GoodIn wsX4_tellCell (wsX6_isCell) := ggX4_tellCell_X6_isCell
theorem dX4_tellCell_0 : decode cX4_tellCell 0 = .ok (.iload_n 1, 1) := by decide +kernel
theorem dX4_tellCell_1 : decode cX4_tellCell 1 = .ok (.invokestatic 27, 3) := by decide +kernel
theorem dX4_tellCell_4 : decode cX4_tellCell 4 = .ok (.ifCond .eq 9, 3) := by decide +kernel
theorem dX4_tellCell_7 : decode cX4_tellCell 7 = .ok (.iload_n 2, 1) := by decide +kernel
theorem dX4_tellCell_8 : decode cX4_tellCell 8 = .ok (.bipush 46, 2) := by decide +kernel
theorem dX4_tellCell_10 : decode cX4_tellCell 10 = .ok (.if_icmp .ne 4, 3) := by decide +kernel
theorem dX4_tellCell_13 : decode cX4_tellCell 13 = .ok (.return_, 1) := by decide +kernel
theorem dX4_tellCell_14 : decode cX4_tellCell 14 = .ok (.iload_n 2, 1) := by decide +kernel
theorem dX4_tellCell_15 : decode cX4_tellCell 15 = .ok (.bipush 35, 2) := by decide +kernel
theorem dX4_tellCell_17 : decode cX4_tellCell 17 = .ok (.if_icmp .ne 13, 3) := by decide +kernel
theorem dX4_tellCell_20 : decode cX4_tellCell 20 = .ok (.aload_n 0, 1) := by decide +kernel
theorem dX4_tellCell_21 : decode cX4_tellCell 21 = .ok (.getfield 30, 3) := by decide +kernel
theorem dX4_tellCell_24 : decode cX4_tellCell 24 = .ok (.iload_n 1, 1) := by decide +kernel
theorem dX4_tellCell_25 : decode cX4_tellCell 25 = .ok (.iconst 1, 1) := by decide +kernel
theorem dX4_tellCell_26 : decode cX4_tellCell 26 = .ok (.iastore, 1) := by decide +kernel
theorem dX4_tellCell_27 : decode cX4_tellCell 27 = .ok (.goto 20, 3) := by decide +kernel
theorem dX4_tellCell_30 : decode cX4_tellCell 30 = .ok (.aload_n 0, 1) := by decide +kernel
theorem dX4_tellCell_31 : decode cX4_tellCell 31 = .ok (.getfield 30, 3) := by decide +kernel
theorem dX4_tellCell_34 : decode cX4_tellCell 34 = .ok (.iload_n 1, 1) := by decide +kernel
theorem dX4_tellCell_35 : decode cX4_tellCell 35 = .ok (.iconst 0, 1) := by decide +kernel
theorem dX4_tellCell_36 : decode cX4_tellCell 36 = .ok (.iastore, 1) := by decide +kernel
theorem dX4_tellCell_37 : decode cX4_tellCell 37 = .ok (.aload_n 0, 1) := by decide +kernel
theorem dX4_tellCell_38 : decode cX4_tellCell 38 = .ok (.getfield 35, 3) := by decide +kernel
theorem dX4_tellCell_41 : decode cX4_tellCell 41 = .ok (.iload_n 1, 1) := by decide +kernel
theorem dX4_tellCell_42 : decode cX4_tellCell 42 = .ok (.iload_n 2, 1) := by decide +kernel
theorem dX4_tellCell_43 : decode cX4_tellCell 43 = .ok (.bipush 48, 2) := by decide +kernel
theorem dX4_tellCell_45 : decode cX4_tellCell 45 = .ok (.isub, 1) := by decide +kernel
theorem dX4_tellCell_46 : decode cX4_tellCell 46 = .ok (.iastore, 1) := by decide +kernel
theorem dX4_tellCell_47 : decode cX4_tellCell 47 = .ok (.return_, 1) := by decide +kernel
theorem dX5_init_0 : decode cX5_init 0 = .ok (.aload_n 0, 1) := by decide +kernel
theorem dX5_init_1 : decode cX5_init 1 = .ok (.invokespecial 3, 3) := by decide +kernel
theorem dX5_init_4 : decode cX5_init 4 = .ok (.aload_n 0, 1) := by decide +kernel
theorem dX5_init_5 : decode cX5_init 5 = .ok (.iconst 1, 1) := by decide +kernel
theorem dX5_init_6 : decode cX5_init 6 = .ok (.putfield 9, 3) := by decide +kernel
theorem dX5_init_9 : decode cX5_init 9 = .ok (.aload_n 0, 1) := by decide +kernel
theorem dX5_init_10 : decode cX5_init 10 = .ok (.iconst 1, 1) := by decide +kernel
theorem dX5_init_11 : decode cX5_init 11 = .ok (.putfield 15, 3) := by decide +kernel
theorem dX5_init_14 : decode cX5_init 14 = .ok (.aload_n 0, 1) := by decide +kernel
theorem dX5_init_15 : decode cX5_init 15 = .ok (.iconst 0, 1) := by decide +kernel
theorem dX5_init_16 : decode cX5_init 16 = .ok (.putfield 18, 3) := by decide +kernel
theorem dX5_init_19 : decode cX5_init 19 = .ok (.aload_n 0, 1) := by decide +kernel
theorem dX5_init_20 : decode cX5_init 20 = .ok (.iconst 0, 1) := by decide +kernel
theorem dX5_init_21 : decode cX5_init 21 = .ok (.putfield 21, 3) := by decide +kernel
theorem dX5_init_24 : decode cX5_init 24 = .ok (.aload_n 0, 1) := by decide +kernel
theorem dX5_init_25 : decode cX5_init 25 = .ok (.bipush 80, 2) := by decide +kernel
theorem dX5_init_27 : decode cX5_init 27 = .ok (.newarray .int, 2) := by decide +kernel
theorem dX5_init_29 : decode cX5_init 29 = .ok (.putfield 24, 3) := by decide +kernel
theorem dX5_init_32 : decode cX5_init 32 = .ok (.aload_n 0, 1) := by decide +kernel
theorem dX5_init_33 : decode cX5_init 33 = .ok (.bipush 80, 2) := by decide +kernel
theorem dX5_init_35 : decode cX5_init 35 = .ok (.newarray .int, 2) := by decide +kernel
theorem dX5_init_37 : decode cX5_init 37 = .ok (.putfield 28, 3) := by decide +kernel
theorem dX5_init_40 : decode cX5_init 40 = .ok (.aload_n 0, 1) := by decide +kernel
theorem dX5_init_41 : decode cX5_init 41 = .ok (.bipush 80, 2) := by decide +kernel
theorem dX5_init_43 : decode cX5_init 43 = .ok (.newarray .int, 2) := by decide +kernel
theorem dX5_init_45 : decode cX5_init 45 = .ok (.putfield 31, 3) := by decide +kernel
theorem dX5_init_48 : decode cX5_init 48 = .ok (.aload_n 0, 1) := by decide +kernel
theorem dX5_init_49 : decode cX5_init 49 = .ok (.sipush 320, 3) := by decide +kernel
theorem dX5_init_52 : decode cX5_init 52 = .ok (.newarray .int, 2) := by decide +kernel
theorem dX5_init_54 : decode cX5_init 54 = .ok (.putfield 34, 3) := by decide +kernel
theorem dX5_init_57 : decode cX5_init 57 = .ok (.return_, 1) := by decide +kernel
theorem dX5_lies_0 : decode cX5_lies 0 = .ok (.iload_n 1, 1) := by decide +kernel
theorem dX5_lies_1 : decode cX5_lies 1 = .ok (.bipush 10, 2) := by decide +kernel
theorem dX5_lies_3 : decode cX5_lies 3 = .ok (.idiv, 1) := by decide +kernel
theorem dX5_lies_4 : decode cX5_lies 4 = .ok (.aload_n 0, 1) := by decide +kernel
theorem dX5_lies_5 : decode cX5_lies 5 = .ok (.getfield 9, 3) := by decide +kernel
theorem dX5_lies_8 : decode cX5_lies 8 = .ok (.iadd, 1) := by decide +kernel
theorem dX5_lies_9 : decode cX5_lies 9 = .ok (.bipush 8, 2) := by decide +kernel
theorem dX5_lies_11 : decode cX5_lies 11 = .ok (.if_icmp .gt 21, 3) := by decide +kernel
theorem dX5_lies_14 : decode cX5_lies 14 = .ok (.iload_n 1, 1) := by decide +kernel
theorem dX5_lies_15 : decode cX5_lies 15 = .ok (.bipush 10, 2) := by decide +kernel
theorem dX5_lies_17 : decode cX5_lies 17 = .ok (.irem, 1) := by decide +kernel
theorem dX5_lies_18 : decode cX5_lies 18 = .ok (.aload_n 0, 1) := by decide +kernel
theorem dX5_lies_19 : decode cX5_lies 19 = .ok (.getfield 15, 3) := by decide +kernel
theorem dX5_lies_22 : decode cX5_lies 22 = .ok (.iadd, 1) := by decide +kernel
theorem dX5_lies_23 : decode cX5_lies 23 = .ok (.bipush 10, 2) := by decide +kernel
theorem dX5_lies_25 : decode cX5_lies 25 = .ok (.if_icmp .gt 7, 3) := by decide +kernel
theorem dX5_lies_28 : decode cX5_lies 28 = .ok (.iconst 1, 1) := by decide +kernel
theorem dX5_lies_29 : decode cX5_lies 29 = .ok (.goto 4, 3) := by decide +kernel
theorem dX5_lies_32 : decode cX5_lies 32 = .ok (.iconst 0, 1) := by decide +kernel
theorem dX5_lies_33 : decode cX5_lies 33 = .ok (.ireturn, 1) := by decide +kernel
theorem dX5_has_0 : decode cX5_has 0 = .ok (.iload_n 2, 1) := by decide +kernel
theorem dX5_has_1 : decode cX5_has 1 = .ok (.bipush 10, 2) := by decide +kernel
theorem dX5_has_3 : decode cX5_has 3 = .ok (.idiv, 1) := by decide +kernel
theorem dX5_has_4 : decode cX5_has 4 = .ok (.iload_n 1, 1) := by decide +kernel
theorem dX5_has_5 : decode cX5_has 5 = .ok (.bipush 10, 2) := by decide +kernel
theorem dX5_has_7 : decode cX5_has 7 = .ok (.idiv, 1) := by decide +kernel
theorem dX5_has_8 : decode cX5_has 8 = .ok (.isub, 1) := by decide +kernel
theorem dX5_has_9 : decode cX5_has 9 = .ok (.istore_n 3, 1) := by decide +kernel
theorem dX5_has_10 : decode cX5_has 10 = .ok (.iload_n 2, 1) := by decide +kernel
theorem dX5_has_11 : decode cX5_has 11 = .ok (.bipush 10, 2) := by decide +kernel
theorem dX5_has_13 : decode cX5_has 13 = .ok (.irem, 1) := by decide +kernel
theorem dX5_has_14 : decode cX5_has 14 = .ok (.iload_n 1, 1) := by decide +kernel
theorem dX5_has_15 : decode cX5_has 15 = .ok (.bipush 10, 2) := by decide +kernel
theorem dX5_has_17 : decode cX5_has 17 = .ok (.irem, 1) := by decide +kernel
theorem dX5_has_18 : decode cX5_has 18 = .ok (.isub, 1) := by decide +kernel
theorem dX5_has_19 : decode cX5_has 19 = .ok (.istore 4, 2) := by decide +kernel
theorem dX5_has_21 : decode cX5_has 21 = .ok (.iload_n 3, 1) := by decide +kernel
theorem dX5_has_22 : decode cX5_has 22 = .ok (.ifCond .lt 29, 3) := by decide +kernel
theorem dX5_has_25 : decode cX5_has 25 = .ok (.iload_n 3, 1) := by decide +kernel
theorem dX5_has_26 : decode cX5_has 26 = .ok (.aload_n 0, 1) := by decide +kernel
theorem dX5_has_27 : decode cX5_has 27 = .ok (.getfield 9, 3) := by decide +kernel
theorem dX5_has_30 : decode cX5_has 30 = .ok (.if_icmp .ge 21, 3) := by decide +kernel
theorem dX5_has_33 : decode cX5_has 33 = .ok (.iload 4, 2) := by decide +kernel
theorem dX5_has_35 : decode cX5_has 35 = .ok (.ifCond .lt 16, 3) := by decide +kernel
theorem dX5_has_38 : decode cX5_has 38 = .ok (.iload 4, 2) := by decide +kernel
theorem dX5_has_40 : decode cX5_has 40 = .ok (.aload_n 0, 1) := by decide +kernel
theorem dX5_has_41 : decode cX5_has 41 = .ok (.getfield 15, 3) := by decide +kernel
theorem dX5_has_44 : decode cX5_has 44 = .ok (.if_icmp .ge 7, 3) := by decide +kernel
theorem dX5_has_47 : decode cX5_has 47 = .ok (.iconst 1, 1) := by decide +kernel
theorem dX5_has_48 : decode cX5_has 48 = .ok (.goto 4, 3) := by decide +kernel
theorem dX5_has_51 : decode cX5_has 51 = .ok (.iconst 0, 1) := by decide +kernel
theorem dX5_has_52 : decode cX5_has 52 = .ok (.ireturn, 1) := by decide +kernel
set_option maxRecDepth 20000 in
theorem ggX5_share_X5_has : GoodIn wsX5_share wsX5_has := goodIn_r _ [6, 7, 8, 9, 10, 11, 12, 13, 14, 15, 16] (by decide +kernel) (by decide +kernel)
set_option maxRecDepth 20000 in
theorem gX5_share_X5_has : GoodIn wsX5_share (wsV RX5 37 RX5 yX5_has wsX5_has) := goodIn_app (goodIn_of _ (by decide +kernel)) ggX5_share_X5_has
theorem dX5_share_0 : decode cX5_share 0 = .ok (.iload_n 3, 1) := by decide +kernel
theorem dX5_share_1 : decode cX5_share 1 = .ok (.ifCond .ne 18, 3) := by decide +kernel
theorem dX5_share_4 : decode cX5_share 4 = .ok (.aload_n 0, 1) := by decide +kernel
theorem dX5_share_5 : decode cX5_share 5 = .ok (.iload_n 1, 1) := by decide +kernel
theorem dX5_share_6 : decode cX5_share 6 = .ok (.iload_n 2, 1) := by decide +kernel
theorem dX5_share_7 : decode cX5_share 7 = .ok (.invokevirtual 37, 3) := by decide +kernel
theorem dX5_share_10 : decode cX5_share 10 = .ok (.ifCond .eq 7, 3) := by decide +kernel
theorem dX5_share_13 : decode cX5_share 13 = .ok (.iconst 1, 1) := by decide +kernel
theorem dX5_share_14 : decode cX5_share 14 = .ok (.goto 4, 3) := by decide +kernel
theorem dX5_share_17 : decode cX5_share 17 = .ok (.iconst 0, 1) := by decide +kernel
theorem dX5_share_18 : decode cX5_share 18 = .ok (.ireturn, 1) := by decide +kernel
theorem dX5_share_19 : decode cX5_share 19 = .ok (.aload_n 0, 1) := by decide +kernel
theorem dX5_share_20 : decode cX5_share 20 = .ok (.getfield 34, 3) := by decide +kernel
theorem dX5_share_23 : decode cX5_share 23 = .ok (.bipush 80, 2) := by decide +kernel
theorem dX5_share_25 : decode cX5_share 25 = .ok (.iload_n 3, 1) := by decide +kernel
theorem dX5_share_26 : decode cX5_share 26 = .ok (.imul, 1) := by decide +kernel
theorem dX5_share_27 : decode cX5_share 27 = .ok (.iload_n 1, 1) := by decide +kernel
theorem dX5_share_28 : decode cX5_share 28 = .ok (.iadd, 1) := by decide +kernel
theorem dX5_share_29 : decode cX5_share 29 = .ok (.iaload, 1) := by decide +kernel
theorem dX5_share_30 : decode cX5_share 30 = .ok (.ireturn, 1) := by decide +kernel
theorem dX5_isThin_0 : decode cX5_isThin 0 = .ok (.aload_n 0, 1) := by decide +kernel
theorem dX5_isThin_1 : decode cX5_isThin 1 = .ok (.getfield 24, 3) := by decide +kernel
theorem dX5_isThin_4 : decode cX5_isThin 4 = .ok (.iload_n 1, 1) := by decide +kernel
theorem dX5_isThin_5 : decode cX5_isThin 5 = .ok (.iaload, 1) := by decide +kernel
theorem dX5_isThin_6 : decode cX5_isThin 6 = .ok (.iconst (-1), 1) := by decide +kernel
theorem dX5_isThin_7 : decode cX5_isThin 7 = .ok (.if_icmp .eq 20, 3) := by decide +kernel
theorem dX5_isThin_10 : decode cX5_isThin 10 = .ok (.aload_n 0, 1) := by decide +kernel
theorem dX5_isThin_11 : decode cX5_isThin 11 = .ok (.getfield 24, 3) := by decide +kernel
theorem dX5_isThin_14 : decode cX5_isThin 14 = .ok (.iload_n 1, 1) := by decide +kernel
theorem dX5_isThin_15 : decode cX5_isThin 15 = .ok (.iaload, 1) := by decide +kernel
theorem dX5_isThin_16 : decode cX5_isThin 16 = .ok (.aload_n 0, 1) := by decide +kernel
theorem dX5_isThin_17 : decode cX5_isThin 17 = .ok (.getfield 18, 3) := by decide +kernel
theorem dX5_isThin_20 : decode cX5_isThin 20 = .ok (.if_icmp .ge 7, 3) := by decide +kernel
theorem dX5_isThin_23 : decode cX5_isThin 23 = .ok (.iconst 1, 1) := by decide +kernel
theorem dX5_isThin_24 : decode cX5_isThin 24 = .ok (.goto 4, 3) := by decide +kernel
theorem dX5_isThin_27 : decode cX5_isThin 27 = .ok (.iconst 0, 1) := by decide +kernel
theorem dX5_isThin_28 : decode cX5_isThin 28 = .ok (.ireturn, 1) := by decide +kernel
theorem dX5_isFull_0 : decode cX5_isFull 0 = .ok (.aload_n 0, 1) := by decide +kernel
theorem dX5_isFull_1 : decode cX5_isFull 1 = .ok (.getfield 24, 3) := by decide +kernel
theorem dX5_isFull_4 : decode cX5_isFull 4 = .ok (.iload_n 1, 1) := by decide +kernel
theorem dX5_isFull_5 : decode cX5_isFull 5 = .ok (.iaload, 1) := by decide +kernel
theorem dX5_isFull_6 : decode cX5_isFull 6 = .ok (.iconst (-1), 1) := by decide +kernel
theorem dX5_isFull_7 : decode cX5_isFull 7 = .ok (.if_icmp .eq 20, 3) := by decide +kernel
theorem dX5_isFull_10 : decode cX5_isFull 10 = .ok (.aload_n 0, 1) := by decide +kernel
theorem dX5_isFull_11 : decode cX5_isFull 11 = .ok (.getfield 24, 3) := by decide +kernel
theorem dX5_isFull_14 : decode cX5_isFull 14 = .ok (.iload_n 1, 1) := by decide +kernel
theorem dX5_isFull_15 : decode cX5_isFull 15 = .ok (.iaload, 1) := by decide +kernel
theorem dX5_isFull_16 : decode cX5_isFull 16 = .ok (.aload_n 0, 1) := by decide +kernel
theorem dX5_isFull_17 : decode cX5_isFull 17 = .ok (.getfield 21, 3) := by decide +kernel
theorem dX5_isFull_20 : decode cX5_isFull 20 = .ok (.if_icmp .lt 7, 3) := by decide +kernel
theorem dX5_isFull_23 : decode cX5_isFull 23 = .ok (.iconst 1, 1) := by decide +kernel
theorem dX5_isFull_24 : decode cX5_isFull 24 = .ok (.goto 4, 3) := by decide +kernel
theorem dX5_isFull_27 : decode cX5_isFull 27 = .ok (.iconst 0, 1) := by decide +kernel
theorem dX5_isFull_28 : decode cX5_isFull 28 = .ok (.ireturn, 1) := by decide +kernel
set_option maxRecDepth 20000 in
theorem ggX5_measure_J7_fill_53178 : GoodIn wsX5_measure wsJ7_fill_53178 := goodIn_r _ [8] (by decide +kernel) (by decide +kernel)
set_option maxRecDepth 20000 in
theorem gX5_measure_J7_fill_53178 : GoodIn wsX5_measure (va_wsS RX5 41 yJ7_fill_53178 wsJ7_fill_53178) := goodIn_app (goodIn_of _ (by decide +kernel)) ggX5_measure_J7_fill_53178
set_option maxRecDepth 20000 in
theorem ggX5_measure_X5_lies : GoodIn wsX5_measure wsX5_lies := goodIn_r _ [13, 14, 15, 42, 43, 44, 45, 46, 47, 48, 49] (by decide +kernel) (by decide +kernel)
set_option maxRecDepth 20000 in
theorem gX5_measure_X5_lies : GoodIn wsX5_measure (wsV RX5 47 RX5 yX5_lies wsX5_lies) := goodIn_app (goodIn_of _ (by decide +kernel)) ggX5_measure_X5_lies
set_option maxRecDepth 20000 in
theorem ggX5_measure_X5_addUp : GoodIn wsX5_measure wsX5_addUp := goodIn_r _ [19, 14, 15, 3, 20, 4, 21, 22, 23, 24, 25, 26, 27, 42, 43, 44, 45, 46, 47, 48, 49, 50, 51, 52, 53, 54] (by decide +kernel) (by decide +kernel)
set_option maxRecDepth 20000 in
theorem gX5_measure_X5_addUp : GoodIn wsX5_measure (wsV RX5 51 RX5 yX5_addUp wsX5_addUp) := goodIn_app (goodIn_of _ (by decide +kernel)) ggX5_measure_X5_addUp
set_option maxRecDepth 20000 in
theorem ggX5_measure_X5_isThin : GoodIn wsX5_measure wsX5_isThin := goodIn_r _ [31, 4, 32, 42, 43, 44, 45, 46, 47, 48, 49] (by decide +kernel) (by decide +kernel)
set_option maxRecDepth 20000 in
theorem gX5_measure_X5_isThin : GoodIn wsX5_measure (wsV RX5 55 RX5 yX5_isThin wsX5_isThin) := goodIn_app (goodIn_of _ (by decide +kernel)) ggX5_measure_X5_isThin
set_option maxRecDepth 20000 in
theorem ggX5_measure_X5_spread : GoodIn wsX5_measure wsX5_spread := goodIn_r _ [36, 14, 15, 42, 43, 44, 45, 46, 47, 48, 49] (by decide +kernel) (by decide +kernel)
set_option maxRecDepth 20000 in
theorem gX5_measure_X5_spread : GoodIn wsX5_measure (wsV RX5 58 RX5 yX5_spread wsX5_spread) := goodIn_app (goodIn_of _ (by decide +kernel)) ggX5_measure_X5_spread
set_option maxRecDepth 20000 in
theorem ggX5_measure_X5_isFull : GoodIn wsX5_measure wsX5_isFull := goodIn_r _ [40, 4, 41, 42, 43, 44, 45, 46, 47, 48, 49] (by decide +kernel) (by decide +kernel)
set_option maxRecDepth 20000 in
theorem gX5_measure_X5_isFull : GoodIn wsX5_measure (wsV RX5 62 RX5 yX5_isFull wsX5_isFull) := goodIn_app (goodIn_of _ (by decide +kernel)) ggX5_measure_X5_isFull
theorem dX5_measure_0 : decode cX5_measure 0 = .ok (.aload_n 0, 1) := by decide +kernel
theorem dX5_measure_1 : decode cX5_measure 1 = .ok (.getfield 28, 3) := by decide +kernel
theorem dX5_measure_4 : decode cX5_measure 4 = .ok (.iconst 0, 1) := by decide +kernel
theorem dX5_measure_5 : decode cX5_measure 5 = .ok (.invokestatic 41, 3) := by decide +kernel
theorem dX5_measure_8 : decode cX5_measure 8 = .ok (.aload_n 0, 1) := by decide +kernel
theorem dX5_measure_9 : decode cX5_measure 9 = .ok (.getfield 31, 3) := by decide +kernel
theorem dX5_measure_12 : decode cX5_measure 12 = .ok (.iconst 0, 1) := by decide +kernel
theorem dX5_measure_13 : decode cX5_measure 13 = .ok (.invokestatic 41, 3) := by decide +kernel
theorem dX5_measure_16 : decode cX5_measure 16 = .ok (.aload_n 0, 1) := by decide +kernel
theorem dX5_measure_17 : decode cX5_measure 17 = .ok (.getfield 34, 3) := by decide +kernel
theorem dX5_measure_20 : decode cX5_measure 20 = .ok (.iconst 0, 1) := by decide +kernel
theorem dX5_measure_21 : decode cX5_measure 21 = .ok (.invokestatic 41, 3) := by decide +kernel
theorem dX5_measure_24 : decode cX5_measure 24 = .ok (.iconst 0, 1) := by decide +kernel
theorem dX5_measure_25 : decode cX5_measure 25 = .ok (.istore_n 2, 1) := by decide +kernel
theorem dX5_measure_26 : decode cX5_measure 26 = .ok (.iload_n 2, 1) := by decide +kernel
theorem dX5_measure_27 : decode cX5_measure 27 = .ok (.bipush 80, 2) := by decide +kernel
theorem dX5_measure_29 : decode cX5_measure 29 = .ok (.if_icmp .ge 66, 3) := by decide +kernel
theorem dX5_measure_32 : decode cX5_measure 32 = .ok (.aload_n 0, 1) := by decide +kernel
theorem dX5_measure_33 : decode cX5_measure 33 = .ok (.getfield 24, 3) := by decide +kernel
theorem dX5_measure_36 : decode cX5_measure 36 = .ok (.iload_n 2, 1) := by decide +kernel
theorem dX5_measure_37 : decode cX5_measure 37 = .ok (.iconst (-1), 1) := by decide +kernel
theorem dX5_measure_38 : decode cX5_measure 38 = .ok (.iastore, 1) := by decide +kernel
theorem dX5_measure_39 : decode cX5_measure 39 = .ok (.aload_n 0, 1) := by decide +kernel
theorem dX5_measure_40 : decode cX5_measure 40 = .ok (.iload_n 2, 1) := by decide +kernel
theorem dX5_measure_41 : decode cX5_measure 41 = .ok (.invokevirtual 47, 3) := by decide +kernel
theorem dX5_measure_44 : decode cX5_measure 44 = .ok (.ifCond .eq 9, 3) := by decide +kernel
theorem dX5_measure_47 : decode cX5_measure 47 = .ok (.aload_n 0, 1) := by decide +kernel
theorem dX5_measure_48 : decode cX5_measure 48 = .ok (.aload_n 1, 1) := by decide +kernel
theorem dX5_measure_49 : decode cX5_measure 49 = .ok (.iload_n 2, 1) := by decide +kernel
theorem dX5_measure_50 : decode cX5_measure 50 = .ok (.invokevirtual 51, 3) := by decide +kernel
theorem dX5_measure_53 : decode cX5_measure 53 = .ok (.aload_n 0, 1) := by decide +kernel
theorem dX5_measure_54 : decode cX5_measure 54 = .ok (.iload_n 2, 1) := by decide +kernel
theorem dX5_measure_55 : decode cX5_measure 55 = .ok (.invokevirtual 55, 3) := by decide +kernel
theorem dX5_measure_58 : decode cX5_measure 58 = .ok (.ifCond .eq 13, 3) := by decide +kernel
theorem dX5_measure_61 : decode cX5_measure 61 = .ok (.aload_n 0, 1) := by decide +kernel
theorem dX5_measure_62 : decode cX5_measure 62 = .ok (.aload_n 0, 1) := by decide +kernel
theorem dX5_measure_63 : decode cX5_measure 63 = .ok (.getfield 28, 3) := by decide +kernel
theorem dX5_measure_66 : decode cX5_measure 66 = .ok (.iload_n 2, 1) := by decide +kernel
theorem dX5_measure_67 : decode cX5_measure 67 = .ok (.iconst 1, 1) := by decide +kernel
theorem dX5_measure_68 : decode cX5_measure 68 = .ok (.invokevirtual 58, 3) := by decide +kernel
theorem dX5_measure_71 : decode cX5_measure 71 = .ok (.aload_n 0, 1) := by decide +kernel
theorem dX5_measure_72 : decode cX5_measure 72 = .ok (.iload_n 2, 1) := by decide +kernel
theorem dX5_measure_73 : decode cX5_measure 73 = .ok (.invokevirtual 62, 3) := by decide +kernel
theorem dX5_measure_76 : decode cX5_measure 76 = .ok (.ifCond .eq 13, 3) := by decide +kernel
theorem dX5_measure_79 : decode cX5_measure 79 = .ok (.aload_n 0, 1) := by decide +kernel
theorem dX5_measure_80 : decode cX5_measure 80 = .ok (.aload_n 0, 1) := by decide +kernel
theorem dX5_measure_81 : decode cX5_measure 81 = .ok (.getfield 31, 3) := by decide +kernel
theorem dX5_measure_84 : decode cX5_measure 84 = .ok (.iload_n 2, 1) := by decide +kernel
theorem dX5_measure_85 : decode cX5_measure 85 = .ok (.iconst 1, 1) := by decide +kernel
theorem dX5_measure_86 : decode cX5_measure 86 = .ok (.invokevirtual 58, 3) := by decide +kernel
theorem dX5_measure_89 : decode cX5_measure 89 = .ok (.iinc 2 1, 3) := by decide +kernel
theorem dX5_measure_92 : decode cX5_measure 92 = .ok (.goto (-66), 3) := by decide +kernel
theorem dX5_measure_95 : decode cX5_measure 95 = .ok (.return_, 1) := by decide +kernel
set_option maxRecDepth 20000 in
theorem ggX5_addUp_X0_sumOf : GoodIn wsX5_addUp wsX0_sumOf := goodIn_r _ [10, 11, 12, 21, 22, 23, 24, 25] (by decide +kernel) (by decide +kernel)
set_option maxRecDepth 20000 in
theorem gX5_addUp_X0_sumOf : GoodIn wsX5_addUp (wsV RX5 65 RX0 yX0_sumOf wsX0_sumOf) := goodIn_app (goodIn_of _ (by decide +kernel)) ggX5_addUp_X0_sumOf
theorem dX5_addUp_0 : decode cX5_addUp 0 = .ok (.iconst 0, 1) := by decide +kernel
theorem dX5_addUp_1 : decode cX5_addUp 1 = .ok (.istore_n 3, 1) := by decide +kernel
theorem dX5_addUp_2 : decode cX5_addUp 2 = .ok (.iconst 0, 1) := by decide +kernel
theorem dX5_addUp_3 : decode cX5_addUp 3 = .ok (.istore 4, 2) := by decide +kernel
theorem dX5_addUp_5 : decode cX5_addUp 5 = .ok (.iload 4, 2) := by decide +kernel
theorem dX5_addUp_7 : decode cX5_addUp 7 = .ok (.aload_n 0, 1) := by decide +kernel
theorem dX5_addUp_8 : decode cX5_addUp 8 = .ok (.getfield 9, 3) := by decide +kernel
theorem dX5_addUp_11 : decode cX5_addUp 11 = .ok (.if_icmp .ge 69, 3) := by decide +kernel
theorem dX5_addUp_14 : decode cX5_addUp 14 = .ok (.iconst 0, 1) := by decide +kernel
theorem dX5_addUp_15 : decode cX5_addUp 15 = .ok (.istore 5, 2) := by decide +kernel
theorem dX5_addUp_17 : decode cX5_addUp 17 = .ok (.iload 5, 2) := by decide +kernel
theorem dX5_addUp_19 : decode cX5_addUp 19 = .ok (.aload_n 0, 1) := by decide +kernel
theorem dX5_addUp_20 : decode cX5_addUp 20 = .ok (.getfield 15, 3) := by decide +kernel
theorem dX5_addUp_23 : decode cX5_addUp 23 = .ok (.if_icmp .ge 51, 3) := by decide +kernel
theorem dX5_addUp_26 : decode cX5_addUp 26 = .ok (.iload_n 2, 1) := by decide +kernel
theorem dX5_addUp_27 : decode cX5_addUp 27 = .ok (.bipush 10, 2) := by decide +kernel
theorem dX5_addUp_29 : decode cX5_addUp 29 = .ok (.iload 4, 2) := by decide +kernel
theorem dX5_addUp_31 : decode cX5_addUp 31 = .ok (.imul, 1) := by decide +kernel
theorem dX5_addUp_32 : decode cX5_addUp 32 = .ok (.iadd, 1) := by decide +kernel
theorem dX5_addUp_33 : decode cX5_addUp 33 = .ok (.iload 5, 2) := by decide +kernel
theorem dX5_addUp_35 : decode cX5_addUp 35 = .ok (.iadd, 1) := by decide +kernel
theorem dX5_addUp_36 : decode cX5_addUp 36 = .ok (.istore 6, 2) := by decide +kernel
theorem dX5_addUp_38 : decode cX5_addUp 38 = .ok (.iload_n 3, 1) := by decide +kernel
theorem dX5_addUp_39 : decode cX5_addUp 39 = .ok (.aload_n 1, 1) := by decide +kernel
theorem dX5_addUp_40 : decode cX5_addUp 40 = .ok (.iload 6, 2) := by decide +kernel
theorem dX5_addUp_42 : decode cX5_addUp 42 = .ok (.invokevirtual 65, 3) := by decide +kernel
theorem dX5_addUp_45 : decode cX5_addUp 45 = .ok (.iadd, 1) := by decide +kernel
theorem dX5_addUp_46 : decode cX5_addUp 46 = .ok (.istore_n 3, 1) := by decide +kernel
theorem dX5_addUp_47 : decode cX5_addUp 47 = .ok (.aload_n 0, 1) := by decide +kernel
theorem dX5_addUp_48 : decode cX5_addUp 48 = .ok (.getfield 34, 3) := by decide +kernel
theorem dX5_addUp_51 : decode cX5_addUp 51 = .ok (.bipush 80, 2) := by decide +kernel
theorem dX5_addUp_53 : decode cX5_addUp 53 = .ok (.aload_n 1, 1) := by decide +kernel
theorem dX5_addUp_54 : decode cX5_addUp 54 = .ok (.getfield 71, 3) := by decide +kernel
theorem dX5_addUp_57 : decode cX5_addUp 57 = .ok (.iload 6, 2) := by decide +kernel
theorem dX5_addUp_59 : decode cX5_addUp 59 = .ok (.iaload, 1) := by decide +kernel
theorem dX5_addUp_60 : decode cX5_addUp 60 = .ok (.imul, 1) := by decide +kernel
theorem dX5_addUp_61 : decode cX5_addUp 61 = .ok (.iload_n 2, 1) := by decide +kernel
theorem dX5_addUp_62 : decode cX5_addUp 62 = .ok (.iadd, 1) := by decide +kernel
theorem dX5_addUp_63 : decode cX5_addUp 63 = .ok (.dup2, 1) := by decide +kernel
theorem dX5_addUp_64 : decode cX5_addUp 64 = .ok (.iaload, 1) := by decide +kernel
theorem dX5_addUp_65 : decode cX5_addUp 65 = .ok (.iconst 1, 1) := by decide +kernel
theorem dX5_addUp_66 : decode cX5_addUp 66 = .ok (.iadd, 1) := by decide +kernel
theorem dX5_addUp_67 : decode cX5_addUp 67 = .ok (.iastore, 1) := by decide +kernel
theorem dX5_addUp_68 : decode cX5_addUp 68 = .ok (.iinc 5 1, 3) := by decide +kernel
theorem dX5_addUp_71 : decode cX5_addUp 71 = .ok (.goto (-54), 3) := by decide +kernel
theorem dX5_addUp_74 : decode cX5_addUp 74 = .ok (.iinc 4 1, 3) := by decide +kernel
theorem dX5_addUp_77 : decode cX5_addUp 77 = .ok (.goto (-72), 3) := by decide +kernel
theorem dX5_addUp_80 : decode cX5_addUp 80 = .ok (.aload_n 0, 1) := by decide +kernel
theorem dX5_addUp_81 : decode cX5_addUp 81 = .ok (.getfield 24, 3) := by decide +kernel
theorem dX5_addUp_84 : decode cX5_addUp 84 = .ok (.iload_n 2, 1) := by decide +kernel
theorem dX5_addUp_85 : decode cX5_addUp 85 = .ok (.iload_n 3, 1) := by decide +kernel
theorem dX5_addUp_86 : decode cX5_addUp 86 = .ok (.iastore, 1) := by decide +kernel
theorem dX5_addUp_87 : decode cX5_addUp 87 = .ok (.return_, 1) := by decide +kernel
theorem dX5_spread_0 : decode cX5_spread 0 = .ok (.iconst 0, 1) := by decide +kernel
theorem dX5_spread_1 : decode cX5_spread 1 = .ok (.istore 4, 2) := by decide +kernel
theorem dX5_spread_3 : decode cX5_spread 3 = .ok (.iload 4, 2) := by decide +kernel
theorem dX5_spread_5 : decode cX5_spread 5 = .ok (.aload_n 0, 1) := by decide +kernel
theorem dX5_spread_6 : decode cX5_spread 6 = .ok (.getfield 9, 3) := by decide +kernel
theorem dX5_spread_9 : decode cX5_spread 9 = .ok (.if_icmp .ge 43, 3) := by decide +kernel
theorem dX5_spread_12 : decode cX5_spread 12 = .ok (.iconst 0, 1) := by decide +kernel
theorem dX5_spread_13 : decode cX5_spread 13 = .ok (.istore 5, 2) := by decide +kernel
theorem dX5_spread_15 : decode cX5_spread 15 = .ok (.iload 5, 2) := by decide +kernel
theorem dX5_spread_17 : decode cX5_spread 17 = .ok (.aload_n 0, 1) := by decide +kernel
theorem dX5_spread_18 : decode cX5_spread 18 = .ok (.getfield 15, 3) := by decide +kernel
theorem dX5_spread_21 : decode cX5_spread 21 = .ok (.if_icmp .ge 25, 3) := by decide +kernel
theorem dX5_spread_24 : decode cX5_spread 24 = .ok (.aload_n 1, 1) := by decide +kernel
theorem dX5_spread_25 : decode cX5_spread 25 = .ok (.iload_n 2, 1) := by decide +kernel
theorem dX5_spread_26 : decode cX5_spread 26 = .ok (.bipush 10, 2) := by decide +kernel
theorem dX5_spread_28 : decode cX5_spread 28 = .ok (.iload 4, 2) := by decide +kernel
theorem dX5_spread_30 : decode cX5_spread 30 = .ok (.imul, 1) := by decide +kernel
theorem dX5_spread_31 : decode cX5_spread 31 = .ok (.iadd, 1) := by decide +kernel
theorem dX5_spread_32 : decode cX5_spread 32 = .ok (.iload 5, 2) := by decide +kernel
theorem dX5_spread_34 : decode cX5_spread 34 = .ok (.iadd, 1) := by decide +kernel
theorem dX5_spread_35 : decode cX5_spread 35 = .ok (.dup2, 1) := by decide +kernel
theorem dX5_spread_36 : decode cX5_spread 36 = .ok (.iaload, 1) := by decide +kernel
theorem dX5_spread_37 : decode cX5_spread 37 = .ok (.iload_n 3, 1) := by decide +kernel
theorem dX5_spread_38 : decode cX5_spread 38 = .ok (.iadd, 1) := by decide +kernel
theorem dX5_spread_39 : decode cX5_spread 39 = .ok (.iastore, 1) := by decide +kernel
theorem dX5_spread_40 : decode cX5_spread 40 = .ok (.iinc 5 1, 3) := by decide +kernel
theorem dX5_spread_43 : decode cX5_spread 43 = .ok (.goto (-28), 3) := by decide +kernel
theorem dX5_spread_46 : decode cX5_spread 46 = .ok (.iinc 4 1, 3) := by decide +kernel
theorem dX5_spread_49 : decode cX5_spread 49 = .ok (.goto (-46), 3) := by decide +kernel
theorem dX5_spread_52 : decode cX5_spread 52 = .ok (.return_, 1) := by decide +kernel
set_option maxRecDepth 20000 in
theorem ggX5_shift_X5_shiftOne : GoodIn wsX5_shift wsX5_shiftOne := goodIn_r _ [14, 15, 16, 17, 18, 19, 20, 13, 21, 22, 23, 24, 25, 26, 27, 28, 29, 30, 31, 1, 6, 32, 33, 34, 35, 36, 37, 38, 39] (by decide +kernel) (by decide +kernel)
set_option maxRecDepth 20000 in
theorem gX5_shift_X5_shiftOne : GoodIn wsX5_shift (wsV RX5 83 RX5 yX5_shiftOne wsX5_shiftOne) := goodIn_app (goodIn_of _ (by decide +kernel)) ggX5_shift_X5_shiftOne
theorem dX5_shift_0 : decode cX5_shift 0 = .ok (.iload_n 1, 1) := by decide +kernel
theorem dX5_shift_1 : decode cX5_shift 1 = .ok (.bipush 10, 2) := by decide +kernel
theorem dX5_shift_3 : decode cX5_shift 3 = .ok (.idiv, 1) := by decide +kernel
theorem dX5_shift_4 : decode cX5_shift 4 = .ok (.istore_n 3, 1) := by decide +kernel
theorem dX5_shift_5 : decode cX5_shift 5 = .ok (.iload_n 1, 1) := by decide +kernel
theorem dX5_shift_6 : decode cX5_shift 6 = .ok (.bipush 10, 2) := by decide +kernel
theorem dX5_shift_8 : decode cX5_shift 8 = .ok (.irem, 1) := by decide +kernel
theorem dX5_shift_9 : decode cX5_shift 9 = .ok (.istore 4, 2) := by decide +kernel
theorem dX5_shift_11 : decode cX5_shift 11 = .ok (.iload_n 3, 1) := by decide +kernel
theorem dX5_shift_12 : decode cX5_shift 12 = .ok (.bipush 8, 2) := by decide +kernel
theorem dX5_shift_14 : decode cX5_shift 14 = .ok (.aload_n 0, 1) := by decide +kernel
theorem dX5_shift_15 : decode cX5_shift 15 = .ok (.getfield 9, 3) := by decide +kernel
theorem dX5_shift_18 : decode cX5_shift 18 = .ok (.isub, 1) := by decide +kernel
theorem dX5_shift_19 : decode cX5_shift 19 = .ok (.invokestatic 74, 3) := by decide +kernel
theorem dX5_shift_22 : decode cX5_shift 22 = .ok (.istore 5, 2) := by decide +kernel
theorem dX5_shift_24 : decode cX5_shift 24 = .ok (.iload 4, 2) := by decide +kernel
theorem dX5_shift_26 : decode cX5_shift 26 = .ok (.bipush 10, 2) := by decide +kernel
theorem dX5_shift_28 : decode cX5_shift 28 = .ok (.aload_n 0, 1) := by decide +kernel
theorem dX5_shift_29 : decode cX5_shift 29 = .ok (.getfield 15, 3) := by decide +kernel
theorem dX5_shift_32 : decode cX5_shift 32 = .ok (.isub, 1) := by decide +kernel
theorem dX5_shift_33 : decode cX5_shift 33 = .ok (.invokestatic 74, 3) := by decide +kernel
theorem dX5_shift_36 : decode cX5_shift 36 = .ok (.istore 6, 2) := by decide +kernel
theorem dX5_shift_38 : decode cX5_shift 38 = .ok (.iconst 0, 1) := by decide +kernel
theorem dX5_shift_39 : decode cX5_shift 39 = .ok (.iload_n 3, 1) := by decide +kernel
theorem dX5_shift_40 : decode cX5_shift 40 = .ok (.aload_n 0, 1) := by decide +kernel
theorem dX5_shift_41 : decode cX5_shift 41 = .ok (.getfield 9, 3) := by decide +kernel
theorem dX5_shift_44 : decode cX5_shift 44 = .ok (.isub, 1) := by decide +kernel
theorem dX5_shift_45 : decode cX5_shift 45 = .ok (.iconst 1, 1) := by decide +kernel
theorem dX5_shift_46 : decode cX5_shift 46 = .ok (.iadd, 1) := by decide +kernel
theorem dX5_shift_47 : decode cX5_shift 47 = .ok (.invokestatic 80, 3) := by decide +kernel
theorem dX5_shift_50 : decode cX5_shift 50 = .ok (.istore 7, 2) := by decide +kernel
theorem dX5_shift_52 : decode cX5_shift 52 = .ok (.iload 7, 2) := by decide +kernel
theorem dX5_shift_54 : decode cX5_shift 54 = .ok (.iload 5, 2) := by decide +kernel
theorem dX5_shift_56 : decode cX5_shift 56 = .ok (.if_icmp .gt 50, 3) := by decide +kernel
theorem dX5_shift_59 : decode cX5_shift 59 = .ok (.iconst 0, 1) := by decide +kernel
theorem dX5_shift_60 : decode cX5_shift 60 = .ok (.iload 4, 2) := by decide +kernel
theorem dX5_shift_62 : decode cX5_shift 62 = .ok (.aload_n 0, 1) := by decide +kernel
theorem dX5_shift_63 : decode cX5_shift 63 = .ok (.getfield 15, 3) := by decide +kernel
theorem dX5_shift_66 : decode cX5_shift 66 = .ok (.isub, 1) := by decide +kernel
theorem dX5_shift_67 : decode cX5_shift 67 = .ok (.iconst 1, 1) := by decide +kernel
theorem dX5_shift_68 : decode cX5_shift 68 = .ok (.iadd, 1) := by decide +kernel
theorem dX5_shift_69 : decode cX5_shift 69 = .ok (.invokestatic 80, 3) := by decide +kernel
theorem dX5_shift_72 : decode cX5_shift 72 = .ok (.istore 8, 2) := by decide +kernel
theorem dX5_shift_74 : decode cX5_shift 74 = .ok (.iload 8, 2) := by decide +kernel
theorem dX5_shift_76 : decode cX5_shift 76 = .ok (.iload 6, 2) := by decide +kernel
theorem dX5_shift_78 : decode cX5_shift 78 = .ok (.if_icmp .gt 22, 3) := by decide +kernel
theorem dX5_shift_81 : decode cX5_shift 81 = .ok (.aload_n 0, 1) := by decide +kernel
theorem dX5_shift_82 : decode cX5_shift 82 = .ok (.bipush 10, 2) := by decide +kernel
theorem dX5_shift_84 : decode cX5_shift 84 = .ok (.iload 7, 2) := by decide +kernel
theorem dX5_shift_86 : decode cX5_shift 86 = .ok (.imul, 1) := by decide +kernel
theorem dX5_shift_87 : decode cX5_shift 87 = .ok (.iload 8, 2) := by decide +kernel
theorem dX5_shift_89 : decode cX5_shift 89 = .ok (.iadd, 1) := by decide +kernel
theorem dX5_shift_90 : decode cX5_shift 90 = .ok (.iload_n 2, 1) := by decide +kernel
theorem dX5_shift_91 : decode cX5_shift 91 = .ok (.invokevirtual 83, 3) := by decide +kernel
theorem dX5_shift_94 : decode cX5_shift 94 = .ok (.iinc 8 1, 3) := by decide +kernel
theorem dX5_shift_97 : decode cX5_shift 97 = .ok (.goto (-23), 3) := by decide +kernel
theorem dX5_shift_100 : decode cX5_shift 100 = .ok (.iinc 7 1, 3) := by decide +kernel
theorem dX5_shift_103 : decode cX5_shift 103 = .ok (.goto (-51), 3) := by decide +kernel
theorem dX5_shift_106 : decode cX5_shift 106 = .ok (.return_, 1) := by decide +kernel
set_option maxRecDepth 20000 in
theorem ggX5_shiftOne_X5_isThin : GoodIn wsX5_shiftOne wsX5_isThin := goodIn_r _ [8, 1, 9, 21, 22, 23, 24, 25, 26, 27, 28] (by decide +kernel) (by decide +kernel)
set_option maxRecDepth 20000 in
theorem gX5_shiftOne_X5_isThin : GoodIn wsX5_shiftOne (wsV RX5 55 RX5 yX5_isThin wsX5_isThin) := goodIn_app (goodIn_of _ (by decide +kernel)) ggX5_shiftOne_X5_isThin
set_option maxRecDepth 20000 in
theorem ggX5_shiftOne_X5_isFull : GoodIn wsX5_shiftOne wsX5_isFull := goodIn_r _ [13, 1, 14, 21, 22, 23, 24, 25, 26, 27, 28] (by decide +kernel) (by decide +kernel)
set_option maxRecDepth 20000 in
theorem gX5_shiftOne_X5_isFull : GoodIn wsX5_shiftOne (wsV RX5 62 RX5 yX5_isFull wsX5_isFull) := goodIn_app (goodIn_of _ (by decide +kernel)) ggX5_shiftOne_X5_isFull
set_option maxRecDepth 20000 in
theorem ggX5_shiftOne_X5_spread : GoodIn wsX5_shiftOne wsX5_spread := goodIn_r _ [18, 19, 20, 21, 22, 23, 24, 25, 26, 27, 28] (by decide +kernel) (by decide +kernel)
set_option maxRecDepth 20000 in
theorem gX5_shiftOne_X5_spread : GoodIn wsX5_shiftOne (wsV RX5 58 RX5 yX5_spread wsX5_spread) := goodIn_app (goodIn_of _ (by decide +kernel)) ggX5_shiftOne_X5_spread
theorem dX5_shiftOne_0 : decode cX5_shiftOne 0 = .ok (.aload_n 0, 1) := by decide +kernel
theorem dX5_shiftOne_1 : decode cX5_shiftOne 1 = .ok (.iload_n 1, 1) := by decide +kernel
theorem dX5_shiftOne_2 : decode cX5_shiftOne 2 = .ok (.invokevirtual 55, 3) := by decide +kernel
theorem dX5_shiftOne_5 : decode cX5_shiftOne 5 = .ok (.istore_n 3, 1) := by decide +kernel
theorem dX5_shiftOne_6 : decode cX5_shiftOne 6 = .ok (.aload_n 0, 1) := by decide +kernel
theorem dX5_shiftOne_7 : decode cX5_shiftOne 7 = .ok (.iload_n 1, 1) := by decide +kernel
theorem dX5_shiftOne_8 : decode cX5_shiftOne 8 = .ok (.invokevirtual 62, 3) := by decide +kernel
theorem dX5_shiftOne_11 : decode cX5_shiftOne 11 = .ok (.istore 4, 2) := by decide +kernel
theorem dX5_shiftOne_13 : decode cX5_shiftOne 13 = .ok (.aload_n 0, 1) := by decide +kernel
theorem dX5_shiftOne_14 : decode cX5_shiftOne 14 = .ok (.getfield 24, 3) := by decide +kernel
theorem dX5_shiftOne_17 : decode cX5_shiftOne 17 = .ok (.iload_n 1, 1) := by decide +kernel
theorem dX5_shiftOne_18 : decode cX5_shiftOne 18 = .ok (.dup2, 1) := by decide +kernel
theorem dX5_shiftOne_19 : decode cX5_shiftOne 19 = .ok (.iaload, 1) := by decide +kernel
theorem dX5_shiftOne_20 : decode cX5_shiftOne 20 = .ok (.iload_n 2, 1) := by decide +kernel
theorem dX5_shiftOne_21 : decode cX5_shiftOne 21 = .ok (.iadd, 1) := by decide +kernel
theorem dX5_shiftOne_22 : decode cX5_shiftOne 22 = .ok (.iastore, 1) := by decide +kernel
theorem dX5_shiftOne_23 : decode cX5_shiftOne 23 = .ok (.iload_n 3, 1) := by decide +kernel
theorem dX5_shiftOne_24 : decode cX5_shiftOne 24 = .ok (.aload_n 0, 1) := by decide +kernel
theorem dX5_shiftOne_25 : decode cX5_shiftOne 25 = .ok (.iload_n 1, 1) := by decide +kernel
theorem dX5_shiftOne_26 : decode cX5_shiftOne 26 = .ok (.invokevirtual 55, 3) := by decide +kernel
theorem dX5_shiftOne_29 : decode cX5_shiftOne 29 = .ok (.if_icmp .eq 21, 3) := by decide +kernel
theorem dX5_shiftOne_32 : decode cX5_shiftOne 32 = .ok (.aload_n 0, 1) := by decide +kernel
theorem dX5_shiftOne_33 : decode cX5_shiftOne 33 = .ok (.aload_n 0, 1) := by decide +kernel
theorem dX5_shiftOne_34 : decode cX5_shiftOne 34 = .ok (.getfield 28, 3) := by decide +kernel
theorem dX5_shiftOne_37 : decode cX5_shiftOne 37 = .ok (.iload_n 1, 1) := by decide +kernel
theorem dX5_shiftOne_38 : decode cX5_shiftOne 38 = .ok (.iload_n 3, 1) := by decide +kernel
theorem dX5_shiftOne_39 : decode cX5_shiftOne 39 = .ok (.ifCond .eq 7, 3) := by decide +kernel
theorem dX5_shiftOne_42 : decode cX5_shiftOne 42 = .ok (.iconst (-1), 1) := by decide +kernel
theorem dX5_shiftOne_43 : decode cX5_shiftOne 43 = .ok (.goto 4, 3) := by decide +kernel
theorem dX5_shiftOne_46 : decode cX5_shiftOne 46 = .ok (.iconst 1, 1) := by decide +kernel
theorem dX5_shiftOne_47 : decode cX5_shiftOne 47 = .ok (.invokevirtual 58, 3) := by decide +kernel
theorem dX5_shiftOne_50 : decode cX5_shiftOne 50 = .ok (.iload 4, 2) := by decide +kernel
theorem dX5_shiftOne_52 : decode cX5_shiftOne 52 = .ok (.aload_n 0, 1) := by decide +kernel
theorem dX5_shiftOne_53 : decode cX5_shiftOne 53 = .ok (.iload_n 1, 1) := by decide +kernel
theorem dX5_shiftOne_54 : decode cX5_shiftOne 54 = .ok (.invokevirtual 62, 3) := by decide +kernel
theorem dX5_shiftOne_57 : decode cX5_shiftOne 57 = .ok (.if_icmp .eq 22, 3) := by decide +kernel
theorem dX5_shiftOne_60 : decode cX5_shiftOne 60 = .ok (.aload_n 0, 1) := by decide +kernel
theorem dX5_shiftOne_61 : decode cX5_shiftOne 61 = .ok (.aload_n 0, 1) := by decide +kernel
theorem dX5_shiftOne_62 : decode cX5_shiftOne 62 = .ok (.getfield 31, 3) := by decide +kernel
theorem dX5_shiftOne_65 : decode cX5_shiftOne 65 = .ok (.iload_n 1, 1) := by decide +kernel
theorem dX5_shiftOne_66 : decode cX5_shiftOne 66 = .ok (.iload 4, 2) := by decide +kernel
theorem dX5_shiftOne_68 : decode cX5_shiftOne 68 = .ok (.ifCond .eq 7, 3) := by decide +kernel
theorem dX5_shiftOne_71 : decode cX5_shiftOne 71 = .ok (.iconst (-1), 1) := by decide +kernel
theorem dX5_shiftOne_72 : decode cX5_shiftOne 72 = .ok (.goto 4, 3) := by decide +kernel
theorem dX5_shiftOne_75 : decode cX5_shiftOne 75 = .ok (.iconst 1, 1) := by decide +kernel
theorem dX5_shiftOne_76 : decode cX5_shiftOne 76 = .ok (.invokevirtual 58, 3) := by decide +kernel
theorem dX5_shiftOne_79 : decode cX5_shiftOne 79 = .ok (.return_, 1) := by decide +kernel
theorem dX5_bearTwins_0 : decode cX5_bearTwins 0 = .ok (.iconst 0, 1) := by decide +kernel
theorem dX5_bearTwins_1 : decode cX5_bearTwins 1 = .ok (.istore_n 2, 1) := by decide +kernel
theorem dX5_bearTwins_2 : decode cX5_bearTwins 2 = .ok (.iload_n 2, 1) := by decide +kernel
theorem dX5_bearTwins_3 : decode cX5_bearTwins 3 = .ok (.bipush 80, 2) := by decide +kernel
theorem dX5_bearTwins_5 : decode cX5_bearTwins 5 = .ok (.if_icmp .ge 42, 3) := by decide +kernel
theorem dX5_bearTwins_8 : decode cX5_bearTwins 8 = .ok (.aload_n 0, 1) := by decide +kernel
theorem dX5_bearTwins_9 : decode cX5_bearTwins 9 = .ok (.getfield 34, 3) := by decide +kernel
theorem dX5_bearTwins_12 : decode cX5_bearTwins 12 = .ok (.bipush 80, 2) := by decide +kernel
theorem dX5_bearTwins_14 : decode cX5_bearTwins 14 = .ok (.iload_n 1, 1) := by decide +kernel
theorem dX5_bearTwins_15 : decode cX5_bearTwins 15 = .ok (.imul, 1) := by decide +kernel
theorem dX5_bearTwins_16 : decode cX5_bearTwins 16 = .ok (.iload_n 2, 1) := by decide +kernel
theorem dX5_bearTwins_17 : decode cX5_bearTwins 17 = .ok (.iadd, 1) := by decide +kernel
theorem dX5_bearTwins_18 : decode cX5_bearTwins 18 = .ok (.iaload, 1) := by decide +kernel
theorem dX5_bearTwins_19 : decode cX5_bearTwins 19 = .ok (.istore_n 3, 1) := by decide +kernel
theorem dX5_bearTwins_20 : decode cX5_bearTwins 20 = .ok (.iload_n 3, 1) := by decide +kernel
theorem dX5_bearTwins_21 : decode cX5_bearTwins 21 = .ok (.ifCond .le 20, 3) := by decide +kernel
theorem dX5_bearTwins_24 : decode cX5_bearTwins 24 = .ok (.aload_n 0, 1) := by decide +kernel
theorem dX5_bearTwins_25 : decode cX5_bearTwins 25 = .ok (.getfield 24, 3) := by decide +kernel
theorem dX5_bearTwins_28 : decode cX5_bearTwins 28 = .ok (.iload_n 2, 1) := by decide +kernel
theorem dX5_bearTwins_29 : decode cX5_bearTwins 29 = .ok (.iaload, 1) := by decide +kernel
theorem dX5_bearTwins_30 : decode cX5_bearTwins 30 = .ok (.iload_n 3, 1) := by decide +kernel
theorem dX5_bearTwins_31 : decode cX5_bearTwins 31 = .ok (.iadd, 1) := by decide +kernel
theorem dX5_bearTwins_32 : decode cX5_bearTwins 32 = .ok (.aload_n 0, 1) := by decide +kernel
theorem dX5_bearTwins_33 : decode cX5_bearTwins 33 = .ok (.getfield 21, 3) := by decide +kernel
theorem dX5_bearTwins_36 : decode cX5_bearTwins 36 = .ok (.if_icmp .le 5, 3) := by decide +kernel
theorem dX5_bearTwins_39 : decode cX5_bearTwins 39 = .ok (.iconst 0, 1) := by decide +kernel
theorem dX5_bearTwins_40 : decode cX5_bearTwins 40 = .ok (.ireturn, 1) := by decide +kernel
theorem dX5_bearTwins_41 : decode cX5_bearTwins 41 = .ok (.iinc 2 1, 3) := by decide +kernel
theorem dX5_bearTwins_44 : decode cX5_bearTwins 44 = .ok (.goto (-42), 3) := by decide +kernel
theorem dX5_bearTwins_47 : decode cX5_bearTwins 47 = .ok (.iconst 1, 1) := by decide +kernel
theorem dX5_bearTwins_48 : decode cX5_bearTwins 48 = .ok (.ireturn, 1) := by decide +kernel
set_option maxRecDepth 20000 in
theorem ggX5_slack_X5_share : GoodIn wsX5_slack wsX5_share := goodIn_r _ [11, 12, 13, 14, 15, 10, 16, 17, 18, 19, 20, 21, 22, 23, 24, 25, 26] (by decide +kernel) (by decide +kernel)
set_option maxRecDepth 20000 in
theorem gX5_slack_X5_share : GoodIn wsX5_slack (wsV RX5 87 RX5 yX5_share wsX5_share) := goodIn_app (goodIn_of _ (by decide +kernel)) ggX5_slack_X5_share
theorem dX5_slack_0 : decode cX5_slack 0 = .ok (.bipush 9, 2) := by decide +kernel
theorem dX5_slack_2 : decode cX5_slack 2 = .ok (.istore_n 3, 1) := by decide +kernel
theorem dX5_slack_3 : decode cX5_slack 3 = .ok (.iconst 0, 1) := by decide +kernel
theorem dX5_slack_4 : decode cX5_slack 4 = .ok (.istore 4, 2) := by decide +kernel
theorem dX5_slack_6 : decode cX5_slack 6 = .ok (.iload 4, 2) := by decide +kernel
theorem dX5_slack_8 : decode cX5_slack 8 = .ok (.bipush 80, 2) := by decide +kernel
theorem dX5_slack_10 : decode cX5_slack 10 = .ok (.if_icmp .ge 69, 3) := by decide +kernel
theorem dX5_slack_13 : decode cX5_slack 13 = .ok (.aload_n 0, 1) := by decide +kernel
theorem dX5_slack_14 : decode cX5_slack 14 = .ok (.getfield 24, 3) := by decide +kernel
theorem dX5_slack_17 : decode cX5_slack 17 = .ok (.iload 4, 2) := by decide +kernel
theorem dX5_slack_19 : decode cX5_slack 19 = .ok (.iaload, 1) := by decide +kernel
theorem dX5_slack_20 : decode cX5_slack 20 = .ok (.iconst (-1), 1) := by decide +kernel
theorem dX5_slack_21 : decode cX5_slack 21 = .ok (.if_icmp .eq 52, 3) := by decide +kernel
theorem dX5_slack_24 : decode cX5_slack 24 = .ok (.aload_n 0, 1) := by decide +kernel
theorem dX5_slack_25 : decode cX5_slack 25 = .ok (.getfield 24, 3) := by decide +kernel
theorem dX5_slack_28 : decode cX5_slack 28 = .ok (.iload 4, 2) := by decide +kernel
theorem dX5_slack_30 : decode cX5_slack 30 = .ok (.iaload, 1) := by decide +kernel
theorem dX5_slack_31 : decode cX5_slack 31 = .ok (.aload_n 0, 1) := by decide +kernel
theorem dX5_slack_32 : decode cX5_slack 32 = .ok (.getfield 18, 3) := by decide +kernel
theorem dX5_slack_35 : decode cX5_slack 35 = .ok (.if_icmp .lt 38, 3) := by decide +kernel
theorem dX5_slack_38 : decode cX5_slack 38 = .ok (.aload_n 0, 1) := by decide +kernel
theorem dX5_slack_39 : decode cX5_slack 39 = .ok (.iload 4, 2) := by decide +kernel
theorem dX5_slack_41 : decode cX5_slack 41 = .ok (.iload_n 1, 1) := by decide +kernel
theorem dX5_slack_42 : decode cX5_slack 42 = .ok (.iload_n 2, 1) := by decide +kernel
theorem dX5_slack_43 : decode cX5_slack 43 = .ok (.invokevirtual 87, 3) := by decide +kernel
theorem dX5_slack_46 : decode cX5_slack 46 = .ok (.istore 5, 2) := by decide +kernel
theorem dX5_slack_48 : decode cX5_slack 48 = .ok (.iload 5, 2) := by decide +kernel
theorem dX5_slack_50 : decode cX5_slack 50 = .ok (.ifCond .le 23, 3) := by decide +kernel
theorem dX5_slack_53 : decode cX5_slack 53 = .ok (.iload_n 3, 1) := by decide +kernel
theorem dX5_slack_54 : decode cX5_slack 54 = .ok (.aload_n 0, 1) := by decide +kernel
theorem dX5_slack_55 : decode cX5_slack 55 = .ok (.getfield 24, 3) := by decide +kernel
theorem dX5_slack_58 : decode cX5_slack 58 = .ok (.iload 4, 2) := by decide +kernel
theorem dX5_slack_60 : decode cX5_slack 60 = .ok (.iaload, 1) := by decide +kernel
theorem dX5_slack_61 : decode cX5_slack 61 = .ok (.aload_n 0, 1) := by decide +kernel
theorem dX5_slack_62 : decode cX5_slack 62 = .ok (.getfield 18, 3) := by decide +kernel
theorem dX5_slack_65 : decode cX5_slack 65 = .ok (.isub, 1) := by decide +kernel
theorem dX5_slack_66 : decode cX5_slack 66 = .ok (.iload 5, 2) := by decide +kernel
theorem dX5_slack_68 : decode cX5_slack 68 = .ok (.idiv, 1) := by decide +kernel
theorem dX5_slack_69 : decode cX5_slack 69 = .ok (.invokestatic 74, 3) := by decide +kernel
theorem dX5_slack_72 : decode cX5_slack 72 = .ok (.istore_n 3, 1) := by decide +kernel
theorem dX5_slack_73 : decode cX5_slack 73 = .ok (.iinc 4 1, 3) := by decide +kernel
theorem dX5_slack_76 : decode cX5_slack 76 = .ok (.goto (-70), 3) := by decide +kernel
theorem dX5_slack_79 : decode cX5_slack 79 = .ok (.iload_n 3, 1) := by decide +kernel
theorem dX5_slack_80 : decode cX5_slack 80 = .ok (.ireturn, 1) := by decide +kernel
theorem dX5_count_0 : decode cX5_count 0 = .ok (.bipush 8, 2) := by decide +kernel
theorem dX5_count_2 : decode cX5_count 2 = .ok (.aload_n 0, 1) := by decide +kernel
theorem dX5_count_3 : decode cX5_count 3 = .ok (.getfield 9, 3) := by decide +kernel
theorem dX5_count_6 : decode cX5_count 6 = .ok (.isub, 1) := by decide +kernel
theorem dX5_count_7 : decode cX5_count 7 = .ok (.iconst 1, 1) := by decide +kernel
theorem dX5_count_8 : decode cX5_count 8 = .ok (.iadd, 1) := by decide +kernel
theorem dX5_count_9 : decode cX5_count 9 = .ok (.bipush 10, 2) := by decide +kernel
theorem dX5_count_11 : decode cX5_count 11 = .ok (.aload_n 0, 1) := by decide +kernel
theorem dX5_count_12 : decode cX5_count 12 = .ok (.getfield 15, 3) := by decide +kernel
theorem dX5_count_15 : decode cX5_count 15 = .ok (.isub, 1) := by decide +kernel
theorem dX5_count_16 : decode cX5_count 16 = .ok (.iconst 1, 1) := by decide +kernel
theorem dX5_count_17 : decode cX5_count 17 = .ok (.iadd, 1) := by decide +kernel
theorem dX5_count_18 : decode cX5_count 18 = .ok (.imul, 1) := by decide +kernel
theorem dX5_count_19 : decode cX5_count 19 = .ok (.ireturn, 1) := by decide +kernel
set_option maxRecDepth 20000 in
theorem ggX5_countThin_X5_isThin : GoodIn wsX5_countThin wsX5_isThin := goodIn_r _ [5, 6, 7, 8, 9, 10, 11, 12, 13, 14, 15] (by decide +kernel) (by decide +kernel)
set_option maxRecDepth 20000 in
theorem gX5_countThin_X5_isThin : GoodIn wsX5_countThin (wsV RX5 55 RX5 yX5_isThin wsX5_isThin) := goodIn_app (goodIn_of _ (by decide +kernel)) ggX5_countThin_X5_isThin
theorem dX5_countThin_0 : decode cX5_countThin 0 = .ok (.iconst 0, 1) := by decide +kernel
theorem dX5_countThin_1 : decode cX5_countThin 1 = .ok (.istore_n 1, 1) := by decide +kernel
theorem dX5_countThin_2 : decode cX5_countThin 2 = .ok (.iconst 0, 1) := by decide +kernel
theorem dX5_countThin_3 : decode cX5_countThin 3 = .ok (.istore_n 2, 1) := by decide +kernel
theorem dX5_countThin_4 : decode cX5_countThin 4 = .ok (.iload_n 2, 1) := by decide +kernel
theorem dX5_countThin_5 : decode cX5_countThin 5 = .ok (.bipush 80, 2) := by decide +kernel
theorem dX5_countThin_7 : decode cX5_countThin 7 = .ok (.if_icmp .ge 20, 3) := by decide +kernel
theorem dX5_countThin_10 : decode cX5_countThin 10 = .ok (.aload_n 0, 1) := by decide +kernel
theorem dX5_countThin_11 : decode cX5_countThin 11 = .ok (.iload_n 2, 1) := by decide +kernel
theorem dX5_countThin_12 : decode cX5_countThin 12 = .ok (.invokevirtual 55, 3) := by decide +kernel
theorem dX5_countThin_15 : decode cX5_countThin 15 = .ok (.ifCond .eq 6, 3) := by decide +kernel
theorem dX5_countThin_18 : decode cX5_countThin 18 = .ok (.iinc 1 1, 3) := by decide +kernel
theorem dX5_countThin_21 : decode cX5_countThin 21 = .ok (.iinc 2 1, 3) := by decide +kernel
theorem dX5_countThin_24 : decode cX5_countThin 24 = .ok (.goto (-20), 3) := by decide +kernel
theorem dX5_countThin_27 : decode cX5_countThin 27 = .ok (.iload_n 1, 1) := by decide +kernel
theorem dX5_countThin_28 : decode cX5_countThin 28 = .ok (.ireturn, 1) := by decide +kernel
theorem dX5_countThick_0 : decode cX5_countThick 0 = .ok (.iconst 0, 1) := by decide +kernel
theorem dX5_countThick_1 : decode cX5_countThick 1 = .ok (.istore_n 1, 1) := by decide +kernel
theorem dX5_countThick_2 : decode cX5_countThick 2 = .ok (.iconst 0, 1) := by decide +kernel
theorem dX5_countThick_3 : decode cX5_countThick 3 = .ok (.istore_n 2, 1) := by decide +kernel
theorem dX5_countThick_4 : decode cX5_countThick 4 = .ok (.iload_n 2, 1) := by decide +kernel
theorem dX5_countThick_5 : decode cX5_countThick 5 = .ok (.bipush 80, 2) := by decide +kernel
theorem dX5_countThick_7 : decode cX5_countThick 7 = .ok (.if_icmp .ge 25, 3) := by decide +kernel
theorem dX5_countThick_10 : decode cX5_countThick 10 = .ok (.aload_n 0, 1) := by decide +kernel
theorem dX5_countThick_11 : decode cX5_countThick 11 = .ok (.getfield 24, 3) := by decide +kernel
theorem dX5_countThick_14 : decode cX5_countThick 14 = .ok (.iload_n 2, 1) := by decide +kernel
theorem dX5_countThick_15 : decode cX5_countThick 15 = .ok (.iaload, 1) := by decide +kernel
theorem dX5_countThick_16 : decode cX5_countThick 16 = .ok (.aload_n 0, 1) := by decide +kernel
theorem dX5_countThick_17 : decode cX5_countThick 17 = .ok (.getfield 21, 3) := by decide +kernel
theorem dX5_countThick_20 : decode cX5_countThick 20 = .ok (.if_icmp .le 6, 3) := by decide +kernel
theorem dX5_countThick_23 : decode cX5_countThick 23 = .ok (.iinc 1 1, 3) := by decide +kernel
theorem dX5_countThick_26 : decode cX5_countThick 26 = .ok (.iinc 2 1, 3) := by decide +kernel
theorem dX5_countThick_29 : decode cX5_countThick 29 = .ok (.goto (-25), 3) := by decide +kernel
theorem dX5_countThick_32 : decode cX5_countThick 32 = .ok (.iload_n 1, 1) := by decide +kernel
theorem dX5_countThick_33 : decode cX5_countThick 33 = .ok (.ireturn, 1) := by decide +kernel
theorem dX5_countOf_0 : decode cX5_countOf 0 = .ok (.iconst 0, 1) := by decide +kernel
theorem dX5_countOf_1 : decode cX5_countOf 1 = .ok (.istore_n 2, 1) := by decide +kernel
theorem dX5_countOf_2 : decode cX5_countOf 2 = .ok (.iconst 0, 1) := by decide +kernel
theorem dX5_countOf_3 : decode cX5_countOf 3 = .ok (.istore_n 3, 1) := by decide +kernel
theorem dX5_countOf_4 : decode cX5_countOf 4 = .ok (.iload_n 3, 1) := by decide +kernel
theorem dX5_countOf_5 : decode cX5_countOf 5 = .ok (.bipush 80, 2) := by decide +kernel
theorem dX5_countOf_7 : decode cX5_countOf 7 = .ok (.if_icmp .ge 22, 3) := by decide +kernel
theorem dX5_countOf_10 : decode cX5_countOf 10 = .ok (.aload_n 0, 1) := by decide +kernel
theorem dX5_countOf_11 : decode cX5_countOf 11 = .ok (.getfield 24, 3) := by decide +kernel
theorem dX5_countOf_14 : decode cX5_countOf 14 = .ok (.iload_n 3, 1) := by decide +kernel
theorem dX5_countOf_15 : decode cX5_countOf 15 = .ok (.iaload, 1) := by decide +kernel
theorem dX5_countOf_16 : decode cX5_countOf 16 = .ok (.iload_n 1, 1) := by decide +kernel
theorem dX5_countOf_17 : decode cX5_countOf 17 = .ok (.if_icmp .ne 6, 3) := by decide +kernel
theorem dX5_countOf_20 : decode cX5_countOf 20 = .ok (.iinc 2 1, 3) := by decide +kernel
theorem dX5_countOf_23 : decode cX5_countOf 23 = .ok (.iinc 3 1, 3) := by decide +kernel
theorem dX5_countOf_26 : decode cX5_countOf 26 = .ok (.goto (-22), 3) := by decide +kernel
theorem dX5_countOf_29 : decode cX5_countOf 29 = .ok (.iload_n 2, 1) := by decide +kernel
theorem dX5_countOf_30 : decode cX5_countOf 30 = .ok (.ireturn, 1) := by decide +kernel
theorem dX5_sumAbove_0 : decode cX5_sumAbove 0 = .ok (.iconst (-1), 1) := by decide +kernel
theorem dX5_sumAbove_1 : decode cX5_sumAbove 1 = .ok (.istore_n 2, 1) := by decide +kernel
theorem dX5_sumAbove_2 : decode cX5_sumAbove 2 = .ok (.iconst 0, 1) := by decide +kernel
theorem dX5_sumAbove_3 : decode cX5_sumAbove 3 = .ok (.istore_n 3, 1) := by decide +kernel
theorem dX5_sumAbove_4 : decode cX5_sumAbove 4 = .ok (.iload_n 3, 1) := by decide +kernel
theorem dX5_sumAbove_5 : decode cX5_sumAbove 5 = .ok (.bipush 80, 2) := by decide +kernel
theorem dX5_sumAbove_7 : decode cX5_sumAbove 7 = .ok (.if_icmp .ge 41, 3) := by decide +kernel
theorem dX5_sumAbove_10 : decode cX5_sumAbove 10 = .ok (.aload_n 0, 1) := by decide +kernel
theorem dX5_sumAbove_11 : decode cX5_sumAbove 11 = .ok (.getfield 24, 3) := by decide +kernel
theorem dX5_sumAbove_14 : decode cX5_sumAbove 14 = .ok (.iload_n 3, 1) := by decide +kernel
theorem dX5_sumAbove_15 : decode cX5_sumAbove 15 = .ok (.iaload, 1) := by decide +kernel
theorem dX5_sumAbove_16 : decode cX5_sumAbove 16 = .ok (.iload_n 1, 1) := by decide +kernel
theorem dX5_sumAbove_17 : decode cX5_sumAbove 17 = .ok (.if_icmp .le 25, 3) := by decide +kernel
theorem dX5_sumAbove_20 : decode cX5_sumAbove 20 = .ok (.iload_n 2, 1) := by decide +kernel
theorem dX5_sumAbove_21 : decode cX5_sumAbove 21 = .ok (.iconst (-1), 1) := by decide +kernel
theorem dX5_sumAbove_22 : decode cX5_sumAbove 22 = .ok (.if_icmp .eq 13, 3) := by decide +kernel
theorem dX5_sumAbove_25 : decode cX5_sumAbove 25 = .ok (.aload_n 0, 1) := by decide +kernel
theorem dX5_sumAbove_26 : decode cX5_sumAbove 26 = .ok (.getfield 24, 3) := by decide +kernel
theorem dX5_sumAbove_29 : decode cX5_sumAbove 29 = .ok (.iload_n 3, 1) := by decide +kernel
theorem dX5_sumAbove_30 : decode cX5_sumAbove 30 = .ok (.iaload, 1) := by decide +kernel
theorem dX5_sumAbove_31 : decode cX5_sumAbove 31 = .ok (.iload_n 2, 1) := by decide +kernel
theorem dX5_sumAbove_32 : decode cX5_sumAbove 32 = .ok (.if_icmp .ge 10, 3) := by decide +kernel
theorem dX5_sumAbove_35 : decode cX5_sumAbove 35 = .ok (.aload_n 0, 1) := by decide +kernel
theorem dX5_sumAbove_36 : decode cX5_sumAbove 36 = .ok (.getfield 24, 3) := by decide +kernel
theorem dX5_sumAbove_39 : decode cX5_sumAbove 39 = .ok (.iload_n 3, 1) := by decide +kernel
theorem dX5_sumAbove_40 : decode cX5_sumAbove 40 = .ok (.iaload, 1) := by decide +kernel
theorem dX5_sumAbove_41 : decode cX5_sumAbove 41 = .ok (.istore_n 2, 1) := by decide +kernel
theorem dX5_sumAbove_42 : decode cX5_sumAbove 42 = .ok (.iinc 3 1, 3) := by decide +kernel
theorem dX5_sumAbove_45 : decode cX5_sumAbove 45 = .ok (.goto (-41), 3) := by decide +kernel
theorem dX5_sumAbove_48 : decode cX5_sumAbove 48 = .ok (.iload_n 2, 1) := by decide +kernel
theorem dX5_sumAbove_49 : decode cX5_sumAbove 49 = .ok (.ireturn, 1) := by decide +kernel
set_option maxRecDepth 20000 in
theorem ggX5_countUnlike_X5_sumAbove : GoodIn wsX5_countUnlike wsX5_sumAbove := goodIn_r _ [5, 6, 7, 8, 9, 10, 11, 12, 13, 14] (by decide +kernel) (by decide +kernel)
set_option maxRecDepth 20000 in
theorem gX5_countUnlike_X5_sumAbove : GoodIn wsX5_countUnlike (wsV RX5 91 RX5 yX5_sumAbove wsX5_sumAbove) := goodIn_app (goodIn_of _ (by decide +kernel)) ggX5_countUnlike_X5_sumAbove
theorem dX5_countUnlike_0 : decode cX5_countUnlike 0 = .ok (.iconst 0, 1) := by decide +kernel
theorem dX5_countUnlike_1 : decode cX5_countUnlike 1 = .ok (.istore_n 1, 1) := by decide +kernel
theorem dX5_countUnlike_2 : decode cX5_countUnlike 2 = .ok (.aload_n 0, 1) := by decide +kernel
theorem dX5_countUnlike_3 : decode cX5_countUnlike 3 = .ok (.iconst (-1), 1) := by decide +kernel
theorem dX5_countUnlike_4 : decode cX5_countUnlike 4 = .ok (.invokevirtual 91, 3) := by decide +kernel
theorem dX5_countUnlike_7 : decode cX5_countUnlike 7 = .ok (.istore_n 2, 1) := by decide +kernel
theorem dX5_countUnlike_8 : decode cX5_countUnlike 8 = .ok (.iload_n 1, 1) := by decide +kernel
theorem dX5_countUnlike_9 : decode cX5_countUnlike 9 = .ok (.bipush 80, 2) := by decide +kernel
theorem dX5_countUnlike_11 : decode cX5_countUnlike 11 = .ok (.if_icmp .ge 20, 3) := by decide +kernel
theorem dX5_countUnlike_14 : decode cX5_countUnlike 14 = .ok (.iload_n 2, 1) := by decide +kernel
theorem dX5_countUnlike_15 : decode cX5_countUnlike 15 = .ok (.iconst (-1), 1) := by decide +kernel
theorem dX5_countUnlike_16 : decode cX5_countUnlike 16 = .ok (.if_icmp .eq 15, 3) := by decide +kernel
theorem dX5_countUnlike_19 : decode cX5_countUnlike 19 = .ok (.iinc 1 1, 3) := by decide +kernel
theorem dX5_countUnlike_22 : decode cX5_countUnlike 22 = .ok (.aload_n 0, 1) := by decide +kernel
theorem dX5_countUnlike_23 : decode cX5_countUnlike 23 = .ok (.iload_n 2, 1) := by decide +kernel
theorem dX5_countUnlike_24 : decode cX5_countUnlike 24 = .ok (.invokevirtual 91, 3) := by decide +kernel
theorem dX5_countUnlike_27 : decode cX5_countUnlike 27 = .ok (.istore_n 2, 1) := by decide +kernel
theorem dX5_countUnlike_28 : decode cX5_countUnlike 28 = .ok (.goto (-20), 3) := by decide +kernel
theorem dX5_countUnlike_31 : decode cX5_countUnlike 31 = .ok (.iload_n 1, 1) := by decide +kernel
theorem dX5_countUnlike_32 : decode cX5_countUnlike 32 = .ok (.ireturn, 1) := by decide +kernel
set_option maxRecDepth 20000 in
theorem ggX5_unlikeSum_X5_sumAbove : GoodIn wsX5_unlikeSum wsX5_sumAbove := goodIn_r _ [5, 6, 7, 8, 9, 10, 11, 12, 13, 14] (by decide +kernel) (by decide +kernel)
set_option maxRecDepth 20000 in
theorem gX5_unlikeSum_X5_sumAbove : GoodIn wsX5_unlikeSum (wsV RX5 91 RX5 yX5_sumAbove wsX5_sumAbove) := goodIn_app (goodIn_of _ (by decide +kernel)) ggX5_unlikeSum_X5_sumAbove
theorem dX5_unlikeSum_0 : decode cX5_unlikeSum 0 = .ok (.iload_n 1, 1) := by decide +kernel
theorem dX5_unlikeSum_1 : decode cX5_unlikeSum 1 = .ok (.bipush 80, 2) := by decide +kernel
theorem dX5_unlikeSum_3 : decode cX5_unlikeSum 3 = .ok (.if_icmp .lt 5, 3) := by decide +kernel
theorem dX5_unlikeSum_6 : decode cX5_unlikeSum 6 = .ok (.iconst (-1), 1) := by decide +kernel
theorem dX5_unlikeSum_7 : decode cX5_unlikeSum 7 = .ok (.ireturn, 1) := by decide +kernel
theorem dX5_unlikeSum_8 : decode cX5_unlikeSum 8 = .ok (.aload_n 0, 1) := by decide +kernel
theorem dX5_unlikeSum_9 : decode cX5_unlikeSum 9 = .ok (.iconst (-1), 1) := by decide +kernel
theorem dX5_unlikeSum_10 : decode cX5_unlikeSum 10 = .ok (.invokevirtual 91, 3) := by decide +kernel
theorem dX5_unlikeSum_13 : decode cX5_unlikeSum 13 = .ok (.istore_n 2, 1) := by decide +kernel
theorem dX5_unlikeSum_14 : decode cX5_unlikeSum 14 = .ok (.iconst 0, 1) := by decide +kernel
theorem dX5_unlikeSum_15 : decode cX5_unlikeSum 15 = .ok (.istore_n 3, 1) := by decide +kernel
theorem dX5_unlikeSum_16 : decode cX5_unlikeSum 16 = .ok (.iload_n 3, 1) := by decide +kernel
theorem dX5_unlikeSum_17 : decode cX5_unlikeSum 17 = .ok (.iload_n 1, 1) := by decide +kernel
theorem dX5_unlikeSum_18 : decode cX5_unlikeSum 18 = .ok (.if_icmp .ge 20, 3) := by decide +kernel
theorem dX5_unlikeSum_21 : decode cX5_unlikeSum 21 = .ok (.iload_n 2, 1) := by decide +kernel
theorem dX5_unlikeSum_22 : decode cX5_unlikeSum 22 = .ok (.iconst (-1), 1) := by decide +kernel
theorem dX5_unlikeSum_23 : decode cX5_unlikeSum 23 = .ok (.if_icmp .eq 15, 3) := by decide +kernel
theorem dX5_unlikeSum_26 : decode cX5_unlikeSum 26 = .ok (.aload_n 0, 1) := by decide +kernel
theorem dX5_unlikeSum_27 : decode cX5_unlikeSum 27 = .ok (.iload_n 2, 1) := by decide +kernel
theorem dX5_unlikeSum_28 : decode cX5_unlikeSum 28 = .ok (.invokevirtual 91, 3) := by decide +kernel
theorem dX5_unlikeSum_31 : decode cX5_unlikeSum 31 = .ok (.istore_n 2, 1) := by decide +kernel
theorem dX5_unlikeSum_32 : decode cX5_unlikeSum 32 = .ok (.iinc 3 1, 3) := by decide +kernel
theorem dX5_unlikeSum_35 : decode cX5_unlikeSum 35 = .ok (.goto (-19), 3) := by decide +kernel
theorem dX5_unlikeSum_38 : decode cX5_unlikeSum 38 = .ok (.iload_n 2, 1) := by decide +kernel
theorem dX5_unlikeSum_39 : decode cX5_unlikeSum 39 = .ok (.ireturn, 1) := by decide +kernel
set_option maxRecDepth 20000 in
theorem ggX5_rising_X5_sumAbove : GoodIn wsX5_rising wsX5_sumAbove := goodIn_r _ [5, 6, 15, 16, 17, 18, 19, 20, 21, 22] (by decide +kernel) (by decide +kernel)
set_option maxRecDepth 20000 in
theorem gX5_rising_X5_sumAbove : GoodIn wsX5_rising (wsV RX5 91 RX5 yX5_sumAbove wsX5_sumAbove) := goodIn_app (goodIn_of _ (by decide +kernel)) ggX5_rising_X5_sumAbove
set_option maxRecDepth 20000 in
theorem ggX5_rising_X5_countOf : GoodIn wsX5_rising wsX5_countOf := goodIn_r _ [10, 6, 15, 16, 17, 18, 19, 20, 21, 22] (by decide +kernel) (by decide +kernel)
set_option maxRecDepth 20000 in
theorem gX5_rising_X5_countOf : GoodIn wsX5_rising (wsV RX5 94 RX5 yX5_countOf wsX5_countOf) := goodIn_app (goodIn_of _ (by decide +kernel)) ggX5_rising_X5_countOf
set_option maxRecDepth 20000 in
theorem ggX5_rising_X5_likeOne : GoodIn wsX5_rising wsX5_likeOne := goodIn_r _ [14, 6, 15, 16, 17, 18, 19, 20, 21, 22] (by decide +kernel) (by decide +kernel)
set_option maxRecDepth 20000 in
theorem gX5_rising_X5_likeOne : GoodIn wsX5_rising (wsV RX5 97 RX5 yX5_likeOne wsX5_likeOne) := goodIn_app (goodIn_of _ (by decide +kernel)) ggX5_rising_X5_likeOne
theorem dX5_rising_0 : decode cX5_rising 0 = .ok (.iload_n 1, 1) := by decide +kernel
theorem dX5_rising_1 : decode cX5_rising 1 = .ok (.istore_n 2, 1) := by decide +kernel
theorem dX5_rising_2 : decode cX5_rising 2 = .ok (.aload_n 0, 1) := by decide +kernel
theorem dX5_rising_3 : decode cX5_rising 3 = .ok (.iconst (-1), 1) := by decide +kernel
theorem dX5_rising_4 : decode cX5_rising 4 = .ok (.invokevirtual 91, 3) := by decide +kernel
theorem dX5_rising_7 : decode cX5_rising 7 = .ok (.istore_n 3, 1) := by decide +kernel
theorem dX5_rising_8 : decode cX5_rising 8 = .ok (.iconst 0, 1) := by decide +kernel
theorem dX5_rising_9 : decode cX5_rising 9 = .ok (.istore 4, 2) := by decide +kernel
theorem dX5_rising_11 : decode cX5_rising 11 = .ok (.iload 4, 2) := by decide +kernel
theorem dX5_rising_13 : decode cX5_rising 13 = .ok (.bipush 80, 2) := by decide +kernel
theorem dX5_rising_15 : decode cX5_rising 15 = .ok (.if_icmp .ge 45, 3) := by decide +kernel
theorem dX5_rising_18 : decode cX5_rising 18 = .ok (.iload_n 3, 1) := by decide +kernel
theorem dX5_rising_19 : decode cX5_rising 19 = .ok (.iconst (-1), 1) := by decide +kernel
theorem dX5_rising_20 : decode cX5_rising 20 = .ok (.if_icmp .eq 40, 3) := by decide +kernel
theorem dX5_rising_23 : decode cX5_rising 23 = .ok (.aload_n 0, 1) := by decide +kernel
theorem dX5_rising_24 : decode cX5_rising 24 = .ok (.iload_n 3, 1) := by decide +kernel
theorem dX5_rising_25 : decode cX5_rising 25 = .ok (.invokevirtual 94, 3) := by decide +kernel
theorem dX5_rising_28 : decode cX5_rising 28 = .ok (.istore 5, 2) := by decide +kernel
theorem dX5_rising_30 : decode cX5_rising 30 = .ok (.iload_n 2, 1) := by decide +kernel
theorem dX5_rising_31 : decode cX5_rising 31 = .ok (.iload 5, 2) := by decide +kernel
theorem dX5_rising_33 : decode cX5_rising 33 = .ok (.if_icmp .ge 10, 3) := by decide +kernel
theorem dX5_rising_36 : decode cX5_rising 36 = .ok (.aload_n 0, 1) := by decide +kernel
theorem dX5_rising_37 : decode cX5_rising 37 = .ok (.iload_n 3, 1) := by decide +kernel
theorem dX5_rising_38 : decode cX5_rising 38 = .ok (.iload_n 2, 1) := by decide +kernel
theorem dX5_rising_39 : decode cX5_rising 39 = .ok (.invokevirtual 97, 3) := by decide +kernel
theorem dX5_rising_42 : decode cX5_rising 42 = .ok (.ireturn, 1) := by decide +kernel
theorem dX5_rising_43 : decode cX5_rising 43 = .ok (.iload_n 2, 1) := by decide +kernel
theorem dX5_rising_44 : decode cX5_rising 44 = .ok (.iload 5, 2) := by decide +kernel
theorem dX5_rising_46 : decode cX5_rising 46 = .ok (.isub, 1) := by decide +kernel
theorem dX5_rising_47 : decode cX5_rising 47 = .ok (.istore_n 2, 1) := by decide +kernel
theorem dX5_rising_48 : decode cX5_rising 48 = .ok (.aload_n 0, 1) := by decide +kernel
theorem dX5_rising_49 : decode cX5_rising 49 = .ok (.iload_n 3, 1) := by decide +kernel
theorem dX5_rising_50 : decode cX5_rising 50 = .ok (.invokevirtual 91, 3) := by decide +kernel
theorem dX5_rising_53 : decode cX5_rising 53 = .ok (.istore_n 3, 1) := by decide +kernel
theorem dX5_rising_54 : decode cX5_rising 54 = .ok (.iinc 4 1, 3) := by decide +kernel
theorem dX5_rising_57 : decode cX5_rising 57 = .ok (.goto (-46), 3) := by decide +kernel
theorem dX5_rising_60 : decode cX5_rising 60 = .ok (.iconst (-1), 1) := by decide +kernel
theorem dX5_rising_61 : decode cX5_rising 61 = .ok (.ireturn, 1) := by decide +kernel
theorem dX5_likeOne_0 : decode cX5_likeOne 0 = .ok (.iload_n 2, 1) := by decide +kernel
theorem dX5_likeOne_1 : decode cX5_likeOne 1 = .ok (.istore_n 3, 1) := by decide +kernel
theorem dX5_likeOne_2 : decode cX5_likeOne 2 = .ok (.iconst 0, 1) := by decide +kernel
theorem dX5_likeOne_3 : decode cX5_likeOne 3 = .ok (.istore 4, 2) := by decide +kernel
theorem dX5_likeOne_5 : decode cX5_likeOne 5 = .ok (.iload 4, 2) := by decide +kernel
theorem dX5_likeOne_7 : decode cX5_likeOne 7 = .ok (.bipush 80, 2) := by decide +kernel
theorem dX5_likeOne_9 : decode cX5_likeOne 9 = .ok (.if_icmp .ge 30, 3) := by decide +kernel
theorem dX5_likeOne_12 : decode cX5_likeOne 12 = .ok (.aload_n 0, 1) := by decide +kernel
theorem dX5_likeOne_13 : decode cX5_likeOne 13 = .ok (.getfield 24, 3) := by decide +kernel
theorem dX5_likeOne_16 : decode cX5_likeOne 16 = .ok (.iload 4, 2) := by decide +kernel
theorem dX5_likeOne_18 : decode cX5_likeOne 18 = .ok (.iaload, 1) := by decide +kernel
theorem dX5_likeOne_19 : decode cX5_likeOne 19 = .ok (.iload_n 1, 1) := by decide +kernel
theorem dX5_likeOne_20 : decode cX5_likeOne 20 = .ok (.if_icmp .ne 13, 3) := by decide +kernel
theorem dX5_likeOne_23 : decode cX5_likeOne 23 = .ok (.iload_n 3, 1) := by decide +kernel
theorem dX5_likeOne_24 : decode cX5_likeOne 24 = .ok (.ifCond .ne 6, 3) := by decide +kernel
theorem dX5_likeOne_27 : decode cX5_likeOne 27 = .ok (.iload 4, 2) := by decide +kernel
theorem dX5_likeOne_29 : decode cX5_likeOne 29 = .ok (.ireturn, 1) := by decide +kernel
theorem dX5_likeOne_30 : decode cX5_likeOne 30 = .ok (.iinc 3 (-1), 3) := by decide +kernel
theorem dX5_likeOne_33 : decode cX5_likeOne 33 = .ok (.iinc 4 1, 3) := by decide +kernel
theorem dX5_likeOne_36 : decode cX5_likeOne 36 = .ok (.goto (-31), 3) := by decide +kernel
theorem dX5_likeOne_39 : decode cX5_likeOne 39 = .ok (.iconst (-1), 1) := by decide +kernel
theorem dX5_likeOne_40 : decode cX5_likeOne 40 = .ok (.ireturn, 1) := by decide +kernel
theorem dX5_atLeast_0 : decode cX5_atLeast 0 = .ok (.iconst 0, 1) := by decide +kernel
theorem dX5_atLeast_1 : decode cX5_atLeast 1 = .ok (.istore_n 1, 1) := by decide +kernel
theorem dX5_atLeast_2 : decode cX5_atLeast 2 = .ok (.iconst 1, 1) := by decide +kernel
theorem dX5_atLeast_3 : decode cX5_atLeast 3 = .ok (.istore_n 2, 1) := by decide +kernel
theorem dX5_atLeast_4 : decode cX5_atLeast 4 = .ok (.iload_n 2, 1) := by decide +kernel
theorem dX5_atLeast_5 : decode cX5_atLeast 5 = .ok (.bipush 80, 2) := by decide +kernel
theorem dX5_atLeast_7 : decode cX5_atLeast 7 = .ok (.if_icmp .ge 36, 3) := by decide +kernel
theorem dX5_atLeast_10 : decode cX5_atLeast 10 = .ok (.aload_n 0, 1) := by decide +kernel
theorem dX5_atLeast_11 : decode cX5_atLeast 11 = .ok (.getfield 24, 3) := by decide +kernel
theorem dX5_atLeast_14 : decode cX5_atLeast 14 = .ok (.iload_n 2, 1) := by decide +kernel
theorem dX5_atLeast_15 : decode cX5_atLeast 15 = .ok (.iaload, 1) := by decide +kernel
theorem dX5_atLeast_16 : decode cX5_atLeast 16 = .ok (.iconst (-1), 1) := by decide +kernel
theorem dX5_atLeast_17 : decode cX5_atLeast 17 = .ok (.if_icmp .eq 20, 3) := by decide +kernel
theorem dX5_atLeast_20 : decode cX5_atLeast 20 = .ok (.aload_n 0, 1) := by decide +kernel
theorem dX5_atLeast_21 : decode cX5_atLeast 21 = .ok (.getfield 24, 3) := by decide +kernel
theorem dX5_atLeast_24 : decode cX5_atLeast 24 = .ok (.iload_n 2, 1) := by decide +kernel
theorem dX5_atLeast_25 : decode cX5_atLeast 25 = .ok (.iaload, 1) := by decide +kernel
theorem dX5_atLeast_26 : decode cX5_atLeast 26 = .ok (.aload_n 0, 1) := by decide +kernel
theorem dX5_atLeast_27 : decode cX5_atLeast 27 = .ok (.getfield 24, 3) := by decide +kernel
theorem dX5_atLeast_30 : decode cX5_atLeast 30 = .ok (.iload_n 1, 1) := by decide +kernel
theorem dX5_atLeast_31 : decode cX5_atLeast 31 = .ok (.iaload, 1) := by decide +kernel
theorem dX5_atLeast_32 : decode cX5_atLeast 32 = .ok (.if_icmp .ge 5, 3) := by decide +kernel
theorem dX5_atLeast_35 : decode cX5_atLeast 35 = .ok (.iload_n 2, 1) := by decide +kernel
theorem dX5_atLeast_36 : decode cX5_atLeast 36 = .ok (.istore_n 1, 1) := by decide +kernel
theorem dX5_atLeast_37 : decode cX5_atLeast 37 = .ok (.iinc 2 1, 3) := by decide +kernel
theorem dX5_atLeast_40 : decode cX5_atLeast 40 = .ok (.goto (-36), 3) := by decide +kernel
theorem dX5_atLeast_43 : decode cX5_atLeast 43 = .ok (.iload_n 1, 1) := by decide +kernel
theorem dX5_atLeast_44 : decode cX5_atLeast 44 = .ok (.ireturn, 1) := by decide +kernel
theorem dX5_atGreatest_0 : decode cX5_atGreatest 0 = .ok (.iconst 0, 1) := by decide +kernel
theorem dX5_atGreatest_1 : decode cX5_atGreatest 1 = .ok (.istore_n 1, 1) := by decide +kernel
theorem dX5_atGreatest_2 : decode cX5_atGreatest 2 = .ok (.iconst 1, 1) := by decide +kernel
theorem dX5_atGreatest_3 : decode cX5_atGreatest 3 = .ok (.istore_n 2, 1) := by decide +kernel
theorem dX5_atGreatest_4 : decode cX5_atGreatest 4 = .ok (.iload_n 2, 1) := by decide +kernel
theorem dX5_atGreatest_5 : decode cX5_atGreatest 5 = .ok (.bipush 80, 2) := by decide +kernel
theorem dX5_atGreatest_7 : decode cX5_atGreatest 7 = .ok (.if_icmp .ge 26, 3) := by decide +kernel
theorem dX5_atGreatest_10 : decode cX5_atGreatest 10 = .ok (.aload_n 0, 1) := by decide +kernel
theorem dX5_atGreatest_11 : decode cX5_atGreatest 11 = .ok (.getfield 24, 3) := by decide +kernel
theorem dX5_atGreatest_14 : decode cX5_atGreatest 14 = .ok (.iload_n 2, 1) := by decide +kernel
theorem dX5_atGreatest_15 : decode cX5_atGreatest 15 = .ok (.iaload, 1) := by decide +kernel
theorem dX5_atGreatest_16 : decode cX5_atGreatest 16 = .ok (.aload_n 0, 1) := by decide +kernel
theorem dX5_atGreatest_17 : decode cX5_atGreatest 17 = .ok (.getfield 24, 3) := by decide +kernel
theorem dX5_atGreatest_20 : decode cX5_atGreatest 20 = .ok (.iload_n 1, 1) := by decide +kernel
theorem dX5_atGreatest_21 : decode cX5_atGreatest 21 = .ok (.iaload, 1) := by decide +kernel
theorem dX5_atGreatest_22 : decode cX5_atGreatest 22 = .ok (.if_icmp .le 5, 3) := by decide +kernel
theorem dX5_atGreatest_25 : decode cX5_atGreatest 25 = .ok (.iload_n 2, 1) := by decide +kernel
theorem dX5_atGreatest_26 : decode cX5_atGreatest 26 = .ok (.istore_n 1, 1) := by decide +kernel
theorem dX5_atGreatest_27 : decode cX5_atGreatest 27 = .ok (.iinc 2 1, 3) := by decide +kernel
theorem dX5_atGreatest_30 : decode cX5_atGreatest 30 = .ok (.goto (-26), 3) := by decide +kernel
theorem dX5_atGreatest_33 : decode cX5_atGreatest 33 = .ok (.iload_n 1, 1) := by decide +kernel
theorem dX5_atGreatest_34 : decode cX5_atGreatest 34 = .ok (.ireturn, 1) := by decide +kernel
theorem dJ9_max_7cf53_0 : decode cJ9_max_7cf53 0 = .ok (.iload_n 0, 1) := by decide +kernel
theorem dJ9_max_7cf53_1 : decode cJ9_max_7cf53 1 = .ok (.iload_n 1, 1) := by decide +kernel
theorem dJ9_max_7cf53_2 : decode cJ9_max_7cf53 2 = .ok (.if_icmp .lt 7, 3) := by decide +kernel
theorem dJ9_max_7cf53_5 : decode cJ9_max_7cf53 5 = .ok (.iload_n 0, 1) := by decide +kernel
theorem dJ9_max_7cf53_6 : decode cJ9_max_7cf53 6 = .ok (.goto 4, 3) := by decide +kernel
theorem dJ9_max_7cf53_9 : decode cJ9_max_7cf53 9 = .ok (.iload_n 1, 1) := by decide +kernel
theorem dJ9_max_7cf53_10 : decode cJ9_max_7cf53 10 = .ok (.ireturn, 1) := by decide +kernel
theorem dJ9_min_7cf53_0 : decode cJ9_min_7cf53 0 = .ok (.iload_n 0, 1) := by decide +kernel
theorem dJ9_min_7cf53_1 : decode cJ9_min_7cf53 1 = .ok (.iload_n 1, 1) := by decide +kernel
theorem dJ9_min_7cf53_2 : decode cJ9_min_7cf53 2 = .ok (.if_icmp .gt 7, 3) := by decide +kernel
theorem dJ9_min_7cf53_5 : decode cJ9_min_7cf53 5 = .ok (.iload_n 0, 1) := by decide +kernel
theorem dJ9_min_7cf53_6 : decode cJ9_min_7cf53 6 = .ok (.goto 4, 3) := by decide +kernel
theorem dJ9_min_7cf53_9 : decode cJ9_min_7cf53 9 = .ok (.iload_n 1, 1) := by decide +kernel
theorem dJ9_min_7cf53_10 : decode cJ9_min_7cf53 10 = .ok (.ireturn, 1) := by decide +kernel
theorem dJ7_fill_53178_0 : decode cJ7_fill_53178 0 = .ok (.iconst 0, 1) := by decide +kernel
theorem dJ7_fill_53178_1 : decode cJ7_fill_53178 1 = .ok (.istore_n 2, 1) := by decide +kernel
theorem dJ7_fill_53178_2 : decode cJ7_fill_53178 2 = .ok (.aload_n 0, 1) := by decide +kernel
theorem dJ7_fill_53178_3 : decode cJ7_fill_53178 3 = .ok (.arraylength, 1) := by decide +kernel
theorem dJ7_fill_53178_4 : decode cJ7_fill_53178 4 = .ok (.istore_n 3, 1) := by decide +kernel
theorem dJ7_fill_53178_5 : decode cJ7_fill_53178 5 = .ok (.iload_n 2, 1) := by decide +kernel
theorem dJ7_fill_53178_6 : decode cJ7_fill_53178 6 = .ok (.iload_n 3, 1) := by decide +kernel
theorem dJ7_fill_53178_7 : decode cJ7_fill_53178 7 = .ok (.if_icmp .ge 13, 3) := by decide +kernel
theorem dJ7_fill_53178_10 : decode cJ7_fill_53178 10 = .ok (.aload_n 0, 1) := by decide +kernel
theorem dJ7_fill_53178_11 : decode cJ7_fill_53178 11 = .ok (.iload_n 2, 1) := by decide +kernel
theorem dJ7_fill_53178_12 : decode cJ7_fill_53178 12 = .ok (.iload_n 1, 1) := by decide +kernel
theorem dJ7_fill_53178_13 : decode cJ7_fill_53178 13 = .ok (.iastore, 1) := by decide +kernel
theorem dJ7_fill_53178_14 : decode cJ7_fill_53178 14 = .ok (.iinc 2 1, 3) := by decide +kernel
theorem dJ7_fill_53178_17 : decode cJ7_fill_53178 17 = .ok (.goto (-12), 3) := by decide +kernel
theorem dJ7_fill_53178_20 : decode cJ7_fill_53178 20 = .ok (.return_, 1) := by decide +kernel
end
section
set_option maxRecDepth 20000 in
theorem ggX1_init_X0_init : GoodIn wsX1_init wsX0_init := goodIn_r _ [25, 26, 2, 3, 21, 27, 28, 29, 30, 31, 50, 51, 52, 53, 54] (by decide +kernel) (by decide +kernel)
set_option maxRecDepth 20000 in
theorem gX1_init_X0_init_n11 : GoodIn wsX1_init (wsX0_init) := ggX1_init_X0_init
set_option maxRecDepth 20000 in
theorem ggX1_init_X5_init : GoodIn wsX1_init wsX5_init := goodIn_r _ [33, 34, 2, 3, 35, 36, 37, 38, 21, 39, 40, 41, 42, 64, 65, 66, 67, 68, 69, 70, 71] (by decide +kernel) (by decide +kernel)
set_option maxRecDepth 20000 in
theorem gX1_init_X5_init_n20 : GoodIn wsX1_init (wsX5_init) := ggX1_init_X5_init
set_option maxRecDepth 20000 in
theorem ggX1_init_X3_init : GoodIn wsX1_init wsX3_init := goodIn_r _ [44, 45, 2, 3, 21, 46, 47, 48, 49, 72, 73, 74, 75] (by decide +kernel) (by decide +kernel)
set_option maxRecDepth 20000 in
theorem gX1_init_X3_init_n27 : GoodIn wsX1_init (wsX3_init) := ggX1_init_X3_init
theorem dX1_init_0 : decode cX1_init 0 = .ok (.aload_n 0, 1) := by decide +kernel
theorem dX1_init_1 : decode cX1_init 1 = .ok (.invokespecial 3, 3) := by decide +kernel
theorem dX1_init_4 : decode cX1_init 4 = .ok (.aload_n 0, 1) := by decide +kernel
theorem dX1_init_5 : decode cX1_init 5 = .ok (.new 9, 3) := by decide +kernel
theorem dX1_init_8 : decode cX1_init 8 = .ok (.dup, 1) := by decide +kernel
theorem dX1_init_9 : decode cX1_init 9 = .ok (.invokespecial 11, 3) := by decide +kernel
theorem dX1_init_12 : decode cX1_init 12 = .ok (.putfield 12, 3) := by decide +kernel
theorem dX1_init_15 : decode cX1_init 15 = .ok (.aload_n 0, 1) := by decide +kernel
theorem dX1_init_16 : decode cX1_init 16 = .ok (.new 18, 3) := by decide +kernel
theorem dX1_init_19 : decode cX1_init 19 = .ok (.dup, 1) := by decide +kernel
theorem dX1_init_20 : decode cX1_init 20 = .ok (.invokespecial 20, 3) := by decide +kernel
theorem dX1_init_23 : decode cX1_init 23 = .ok (.putfield 21, 3) := by decide +kernel
theorem dX1_init_26 : decode cX1_init 26 = .ok (.aload_n 0, 1) := by decide +kernel
theorem dX1_init_27 : decode cX1_init 27 = .ok (.new 25, 3) := by decide +kernel
theorem dX1_init_30 : decode cX1_init 30 = .ok (.dup, 1) := by decide +kernel
theorem dX1_init_31 : decode cX1_init 31 = .ok (.invokespecial 27, 3) := by decide +kernel
theorem dX1_init_34 : decode cX1_init 34 = .ok (.putfield 28, 3) := by decide +kernel
theorem dX1_init_37 : decode cX1_init 37 = .ok (.aload_n 0, 1) := by decide +kernel
theorem dX1_init_38 : decode cX1_init 38 = .ok (.iconst 0, 1) := by decide +kernel
theorem dX1_init_39 : decode cX1_init 39 = .ok (.putfield 32, 3) := by decide +kernel
theorem dX1_init_42 : decode cX1_init 42 = .ok (.aload_n 0, 1) := by decide +kernel
theorem dX1_init_43 : decode cX1_init 43 = .ok (.iconst 0, 1) := by decide +kernel
theorem dX1_init_44 : decode cX1_init 44 = .ok (.putfield 36, 3) := by decide +kernel
theorem dX1_init_47 : decode cX1_init 47 = .ok (.aload_n 0, 1) := by decide +kernel
theorem dX1_init_48 : decode cX1_init 48 = .ok (.iconst 0, 1) := by decide +kernel
theorem dX1_init_49 : decode cX1_init 49 = .ok (.putfield 39, 3) := by decide +kernel
theorem dX1_init_52 : decode cX1_init 52 = .ok (.aload_n 0, 1) := by decide +kernel
theorem dX1_init_53 : decode cX1_init 53 = .ok (.iconst 4, 1) := by decide +kernel
theorem dX1_init_54 : decode cX1_init 54 = .ok (.newarray .boolean, 2) := by decide +kernel
theorem dX1_init_56 : decode cX1_init 56 = .ok (.putfield 42, 3) := by decide +kernel
theorem dX1_init_59 : decode cX1_init 59 = .ok (.aload_n 0, 1) := by decide +kernel
theorem dX1_init_60 : decode cX1_init 60 = .ok (.bipush 80, 2) := by decide +kernel
theorem dX1_init_62 : decode cX1_init 62 = .ok (.newarray .int, 2) := by decide +kernel
theorem dX1_init_64 : decode cX1_init 64 = .ok (.putfield 46, 3) := by decide +kernel
theorem dX1_init_67 : decode cX1_init 67 = .ok (.aload_n 0, 1) := by decide +kernel
theorem dX1_init_68 : decode cX1_init 68 = .ok (.bipush 10, 2) := by decide +kernel
theorem dX1_init_70 : decode cX1_init 70 = .ok (.newarray .int, 2) := by decide +kernel
theorem dX1_init_72 : decode cX1_init 72 = .ok (.putfield 50, 3) := by decide +kernel
theorem dX1_init_75 : decode cX1_init 75 = .ok (.return_, 1) := by decide +kernel
set_option maxRecDepth 20000 in
theorem ggX1_measure_X5_measure : GoodIn wsX1_measure wsX5_measure := goodIn_r _ [8, 9, 10, 11, 12, 13, 14, 15, 16, 17, 18, 19, 7, 20, 21, 22, 23, 24, 25, 26, 27, 28, 29, 30, 31, 32, 33, 34, 35, 36, 37, 38, 39, 40, 41, 42, 43, 44, 45, 46, 47, 48, 77, 78, 79, 80, 81, 82, 83, 84, 85, 86, 87, 88, 89] (by decide +kernel) (by decide +kernel)
set_option maxRecDepth 20000 in
theorem gX1_measure_X5_measure : GoodIn wsX1_measure (wsV RX1 53 RX5 yX5_measure wsX5_measure) := goodIn_app (goodIn_of _ (by decide +kernel)) ggX1_measure_X5_measure
set_option maxRecDepth 20000 in
theorem ggX1_measure_X3_measure : GoodIn wsX1_measure wsX3_measure := goodIn_r _ [53, 54, 55, 56, 57, 58, 59, 60, 14, 15, 16, 61, 62, 52, 63, 64, 65, 66, 67, 90, 91, 92, 93, 85, 86, 87, 88, 89] (by decide +kernel) (by decide +kernel)
set_option maxRecDepth 20000 in
theorem gX1_measure_X3_measure : GoodIn wsX1_measure (wsV RX1 57 RX3 yX3_measure wsX3_measure) := goodIn_app (goodIn_of _ (by decide +kernel)) ggX1_measure_X3_measure
theorem dX1_measure_0 : decode cX1_measure 0 = .ok (.aload_n 0, 1) := by decide +kernel
theorem dX1_measure_1 : decode cX1_measure 1 = .ok (.getfield 21, 3) := by decide +kernel
theorem dX1_measure_4 : decode cX1_measure 4 = .ok (.aload_n 0, 1) := by decide +kernel
theorem dX1_measure_5 : decode cX1_measure 5 = .ok (.getfield 12, 3) := by decide +kernel
theorem dX1_measure_8 : decode cX1_measure 8 = .ok (.invokevirtual 53, 3) := by decide +kernel
theorem dX1_measure_11 : decode cX1_measure 11 = .ok (.aload_n 0, 1) := by decide +kernel
theorem dX1_measure_12 : decode cX1_measure 12 = .ok (.getfield 28, 3) := by decide +kernel
theorem dX1_measure_15 : decode cX1_measure 15 = .ok (.aload_n 0, 1) := by decide +kernel
theorem dX1_measure_16 : decode cX1_measure 16 = .ok (.getfield 12, 3) := by decide +kernel
theorem dX1_measure_19 : decode cX1_measure 19 = .ok (.invokevirtual 57, 3) := by decide +kernel
theorem dX1_measure_22 : decode cX1_measure 22 = .ok (.return_, 1) := by decide +kernel
set_option maxRecDepth 20000 in
theorem ggX1_may_X1_loneMay : GoodIn wsX1_may wsX1_loneMay := goodIn_r _ [7, 1, 8, 9, 10, 11, 12, 13, 14, 15, 16, 17, 18, 19, 20, 21, 22, 23, 24, 25, 26, 27, 28, 29, 30, 31, 44, 45, 46, 47, 48, 49, 50, 51, 52, 53, 54, 55, 56, 57, 58, 59, 60, 61, 62, 63, 64, 65, 66, 67, 68, 69] (by decide +kernel) (by decide +kernel)
set_option maxRecDepth 20000 in
theorem gX1_may_X1_loneMay : GoodIn wsX1_may (wsV RX1 61 RX1 yX1_loneMay wsX1_loneMay) := goodIn_app (goodIn_of _ (by decide +kernel)) ggX1_may_X1_loneMay
set_option maxRecDepth 20000 in
theorem ggX1_may_X1_twinsMay : GoodIn wsX1_may wsX1_twinsMay := goodIn_r _ [35, 1, 2, 8, 9, 11, 12, 13, 14, 15, 16, 17, 18, 36, 37, 38, 39, 40, 41, 42, 43, 19, 20, 21, 22, 23, 24, 25, 26, 27, 28, 29, 30, 31, 44, 45, 46, 47, 48, 49, 50, 51, 52, 53, 54, 55, 56, 57, 58, 59, 60, 61, 62, 63, 64, 65, 66, 67, 68, 69] (by decide +kernel) (by decide +kernel)
set_option maxRecDepth 20000 in
theorem gX1_may_X1_twinsMay : GoodIn wsX1_may (wsV RX1 65 RX1 yX1_twinsMay wsX1_twinsMay) := goodIn_app (goodIn_of _ (by decide +kernel)) ggX1_may_X1_twinsMay
theorem dX1_may_0 : decode cX1_may 0 = .ok (.aload_n 0, 1) := by decide +kernel
theorem dX1_may_1 : decode cX1_may 1 = .ok (.getfield 12, 3) := by decide +kernel
theorem dX1_may_4 : decode cX1_may 4 = .ok (.getfield 58, 3) := by decide +kernel
theorem dX1_may_7 : decode cX1_may 7 = .ok (.iload_n 1, 1) := by decide +kernel
theorem dX1_may_8 : decode cX1_may 8 = .ok (.iaload, 1) := by decide +kernel
theorem dX1_may_9 : decode cX1_may 9 = .ok (.istore_n 2, 1) := by decide +kernel
theorem dX1_may_10 : decode cX1_may 10 = .ok (.iload_n 2, 1) := by decide +kernel
theorem dX1_may_11 : decode cX1_may 11 = .ok (.ifCond .ne 11, 3) := by decide +kernel
theorem dX1_may_14 : decode cX1_may 14 = .ok (.aload_n 0, 1) := by decide +kernel
theorem dX1_may_15 : decode cX1_may 15 = .ok (.iload_n 1, 1) := by decide +kernel
theorem dX1_may_16 : decode cX1_may 16 = .ok (.invokevirtual 61, 3) := by decide +kernel
theorem dX1_may_19 : decode cX1_may 19 = .ok (.goto 9, 3) := by decide +kernel
theorem dX1_may_22 : decode cX1_may 22 = .ok (.aload_n 0, 1) := by decide +kernel
theorem dX1_may_23 : decode cX1_may 23 = .ok (.iload_n 2, 1) := by decide +kernel
theorem dX1_may_24 : decode cX1_may 24 = .ok (.iload_n 1, 1) := by decide +kernel
theorem dX1_may_25 : decode cX1_may 25 = .ok (.invokevirtual 65, 3) := by decide +kernel
theorem dX1_may_28 : decode cX1_may 28 = .ok (.ireturn, 1) := by decide +kernel
set_option maxRecDepth 20000 in
theorem ggX1_loneMay_X0_room : GoodIn wsX1_loneMay wsX0_room := goodIn_r _ [10, 11, 12, 35, 36, 37, 38, 39] (by decide +kernel) (by decide +kernel)
set_option maxRecDepth 20000 in
theorem gX1_loneMay_X0_room : GoodIn wsX1_loneMay (wsV RX1 72 RX0 yX0_room wsX0_room) := goodIn_app (goodIn_of _ (by decide +kernel)) ggX1_loneMay_X0_room
set_option maxRecDepth 20000 in
theorem ggX1_loneMay_X3_bear : GoodIn wsX1_loneMay wsX3_bear := goodIn_r _ [17, 18, 19, 20, 21, 22, 16, 23, 24, 25, 48, 49, 50, 51] (by decide +kernel) (by decide +kernel)
set_option maxRecDepth 20000 in
theorem gX1_loneMay_X3_bear : GoodIn wsX1_loneMay (wsV RX1 79 RX3 yX3_bear wsX3_bear) := goodIn_app (goodIn_of _ (by decide +kernel)) ggX1_loneMay_X3_bear
theorem dX1_loneMay_0 : decode cX1_loneMay 0 = .ok (.aload_n 0, 1) := by decide +kernel
theorem dX1_loneMay_1 : decode cX1_loneMay 1 = .ok (.getfield 12, 3) := by decide +kernel
theorem dX1_loneMay_4 : decode cX1_loneMay 4 = .ok (.getfield 69, 3) := by decide +kernel
theorem dX1_loneMay_7 : decode cX1_loneMay 7 = .ok (.iload_n 1, 1) := by decide +kernel
theorem dX1_loneMay_8 : decode cX1_loneMay 8 = .ok (.iaload, 1) := by decide +kernel
theorem dX1_loneMay_9 : decode cX1_loneMay 9 = .ok (.aload_n 0, 1) := by decide +kernel
theorem dX1_loneMay_10 : decode cX1_loneMay 10 = .ok (.getfield 12, 3) := by decide +kernel
theorem dX1_loneMay_13 : decode cX1_loneMay 13 = .ok (.iload_n 1, 1) := by decide +kernel
theorem dX1_loneMay_14 : decode cX1_loneMay 14 = .ok (.invokevirtual 72, 3) := by decide +kernel
theorem dX1_loneMay_17 : decode cX1_loneMay 17 = .ok (.if_icmp .ge 31, 3) := by decide +kernel
theorem dX1_loneMay_20 : decode cX1_loneMay 20 = .ok (.aload_n 0, 1) := by decide +kernel
theorem dX1_loneMay_21 : decode cX1_loneMay 21 = .ok (.getfield 21, 3) := by decide +kernel
theorem dX1_loneMay_24 : decode cX1_loneMay 24 = .ok (.getfield 76, 3) := by decide +kernel
theorem dX1_loneMay_27 : decode cX1_loneMay 27 = .ok (.iload_n 1, 1) := by decide +kernel
theorem dX1_loneMay_28 : decode cX1_loneMay 28 = .ok (.iaload, 1) := by decide +kernel
theorem dX1_loneMay_29 : decode cX1_loneMay 29 = .ok (.ifCond .ne 19, 3) := by decide +kernel
theorem dX1_loneMay_32 : decode cX1_loneMay 32 = .ok (.aload_n 0, 1) := by decide +kernel
theorem dX1_loneMay_33 : decode cX1_loneMay 33 = .ok (.getfield 28, 3) := by decide +kernel
theorem dX1_loneMay_36 : decode cX1_loneMay 36 = .ok (.iload_n 1, 1) := by decide +kernel
theorem dX1_loneMay_37 : decode cX1_loneMay 37 = .ok (.iconst 0, 1) := by decide +kernel
theorem dX1_loneMay_38 : decode cX1_loneMay 38 = .ok (.invokevirtual 79, 3) := by decide +kernel
theorem dX1_loneMay_41 : decode cX1_loneMay 41 = .ok (.ifCond .eq 7, 3) := by decide +kernel
theorem dX1_loneMay_44 : decode cX1_loneMay 44 = .ok (.iconst 1, 1) := by decide +kernel
theorem dX1_loneMay_45 : decode cX1_loneMay 45 = .ok (.goto 4, 3) := by decide +kernel
theorem dX1_loneMay_48 : decode cX1_loneMay 48 = .ok (.iconst 0, 1) := by decide +kernel
theorem dX1_loneMay_49 : decode cX1_loneMay 49 = .ok (.ireturn, 1) := by decide +kernel
set_option maxRecDepth 20000 in
theorem ggX1_twinsMay_X0_room : GoodIn wsX1_twinsMay wsX0_room := goodIn_r _ [10, 11, 12, 43, 44, 45, 46, 47] (by decide +kernel) (by decide +kernel)
set_option maxRecDepth 20000 in
theorem gX1_twinsMay_X0_room : GoodIn wsX1_twinsMay (wsV RX1 72 RX0 yX0_room wsX0_room) := goodIn_app (goodIn_of _ (by decide +kernel)) ggX1_twinsMay_X0_room
set_option maxRecDepth 20000 in
theorem ggX1_twinsMay_X5_bearTwins : GoodIn wsX1_twinsMay wsX5_bearTwins := goodIn_r _ [17, 18, 19, 20, 48, 49, 50, 51, 52, 53, 54, 55] (by decide +kernel) (by decide +kernel)
set_option maxRecDepth 20000 in
theorem gX1_twinsMay_X5_bearTwins : GoodIn wsX1_twinsMay (wsV RX1 82 RX5 yX5_bearTwins wsX5_bearTwins) := goodIn_app (goodIn_of _ (by decide +kernel)) ggX1_twinsMay_X5_bearTwins
set_option maxRecDepth 20000 in
theorem ggX1_twinsMay_X3_bear : GoodIn wsX1_twinsMay wsX3_bear := goodIn_r _ [25, 26, 27, 28, 29, 30, 24, 31, 32, 33, 56, 57, 58, 59] (by decide +kernel) (by decide +kernel)
set_option maxRecDepth 20000 in
theorem gX1_twinsMay_X3_bear : GoodIn wsX1_twinsMay (wsV RX1 79 RX3 yX3_bear wsX3_bear) := goodIn_app (goodIn_of _ (by decide +kernel)) ggX1_twinsMay_X3_bear
theorem dX1_twinsMay_0 : decode cX1_twinsMay 0 = .ok (.iconst 0, 1) := by decide +kernel
theorem dX1_twinsMay_1 : decode cX1_twinsMay 1 = .ok (.istore_n 3, 1) := by decide +kernel
theorem dX1_twinsMay_2 : decode cX1_twinsMay 2 = .ok (.iload_n 3, 1) := by decide +kernel
theorem dX1_twinsMay_3 : decode cX1_twinsMay 3 = .ok (.bipush 80, 2) := by decide +kernel
theorem dX1_twinsMay_5 : decode cX1_twinsMay 5 = .ok (.if_icmp .ge 44, 3) := by decide +kernel
theorem dX1_twinsMay_8 : decode cX1_twinsMay 8 = .ok (.aload_n 0, 1) := by decide +kernel
theorem dX1_twinsMay_9 : decode cX1_twinsMay 9 = .ok (.getfield 12, 3) := by decide +kernel
theorem dX1_twinsMay_12 : decode cX1_twinsMay 12 = .ok (.getfield 58, 3) := by decide +kernel
theorem dX1_twinsMay_15 : decode cX1_twinsMay 15 = .ok (.iload_n 3, 1) := by decide +kernel
theorem dX1_twinsMay_16 : decode cX1_twinsMay 16 = .ok (.iaload, 1) := by decide +kernel
theorem dX1_twinsMay_17 : decode cX1_twinsMay 17 = .ok (.iload_n 1, 1) := by decide +kernel
theorem dX1_twinsMay_18 : decode cX1_twinsMay 18 = .ok (.if_icmp .ne 25, 3) := by decide +kernel
theorem dX1_twinsMay_21 : decode cX1_twinsMay 21 = .ok (.aload_n 0, 1) := by decide +kernel
theorem dX1_twinsMay_22 : decode cX1_twinsMay 22 = .ok (.getfield 12, 3) := by decide +kernel
theorem dX1_twinsMay_25 : decode cX1_twinsMay 25 = .ok (.getfield 69, 3) := by decide +kernel
theorem dX1_twinsMay_28 : decode cX1_twinsMay 28 = .ok (.iload_n 3, 1) := by decide +kernel
theorem dX1_twinsMay_29 : decode cX1_twinsMay 29 = .ok (.iaload, 1) := by decide +kernel
theorem dX1_twinsMay_30 : decode cX1_twinsMay 30 = .ok (.aload_n 0, 1) := by decide +kernel
theorem dX1_twinsMay_31 : decode cX1_twinsMay 31 = .ok (.getfield 12, 3) := by decide +kernel
theorem dX1_twinsMay_34 : decode cX1_twinsMay 34 = .ok (.iload_n 3, 1) := by decide +kernel
theorem dX1_twinsMay_35 : decode cX1_twinsMay 35 = .ok (.invokevirtual 72, 3) := by decide +kernel
theorem dX1_twinsMay_38 : decode cX1_twinsMay 38 = .ok (.if_icmp .lt 5, 3) := by decide +kernel
theorem dX1_twinsMay_41 : decode cX1_twinsMay 41 = .ok (.iconst 0, 1) := by decide +kernel
theorem dX1_twinsMay_42 : decode cX1_twinsMay 42 = .ok (.ireturn, 1) := by decide +kernel
theorem dX1_twinsMay_43 : decode cX1_twinsMay 43 = .ok (.iinc 3 1, 3) := by decide +kernel
theorem dX1_twinsMay_46 : decode cX1_twinsMay 46 = .ok (.goto (-44), 3) := by decide +kernel
theorem dX1_twinsMay_49 : decode cX1_twinsMay 49 = .ok (.aload_n 0, 1) := by decide +kernel
theorem dX1_twinsMay_50 : decode cX1_twinsMay 50 = .ok (.getfield 21, 3) := by decide +kernel
theorem dX1_twinsMay_53 : decode cX1_twinsMay 53 = .ok (.iload_n 1, 1) := by decide +kernel
theorem dX1_twinsMay_54 : decode cX1_twinsMay 54 = .ok (.invokevirtual 82, 3) := by decide +kernel
theorem dX1_twinsMay_57 : decode cX1_twinsMay 57 = .ok (.ifCond .eq 19, 3) := by decide +kernel
theorem dX1_twinsMay_60 : decode cX1_twinsMay 60 = .ok (.aload_n 0, 1) := by decide +kernel
theorem dX1_twinsMay_61 : decode cX1_twinsMay 61 = .ok (.getfield 28, 3) := by decide +kernel
theorem dX1_twinsMay_64 : decode cX1_twinsMay 64 = .ok (.iload_n 2, 1) := by decide +kernel
theorem dX1_twinsMay_65 : decode cX1_twinsMay 65 = .ok (.iload_n 1, 1) := by decide +kernel
theorem dX1_twinsMay_66 : decode cX1_twinsMay 66 = .ok (.invokevirtual 79, 3) := by decide +kernel
theorem dX1_twinsMay_69 : decode cX1_twinsMay 69 = .ok (.ifCond .eq 7, 3) := by decide +kernel
theorem dX1_twinsMay_72 : decode cX1_twinsMay 72 = .ok (.iconst 1, 1) := by decide +kernel
theorem dX1_twinsMay_73 : decode cX1_twinsMay 73 = .ok (.goto 4, 3) := by decide +kernel
theorem dX1_twinsMay_76 : decode cX1_twinsMay 76 = .ok (.iconst 0, 1) := by decide +kernel
theorem dX1_twinsMay_77 : decode cX1_twinsMay 77 = .ok (.ireturn, 1) := by decide +kernel
set_option maxRecDepth 20000 in
theorem ggX1_choice_X5_atLeast : GoodIn wsX1_choice wsX5_atLeast := goodIn_r _ [6, 7, 99, 100, 101, 102, 103, 104, 105, 106] (by decide +kernel) (by decide +kernel)
set_option maxRecDepth 20000 in
theorem gX1_choice_X5_atLeast : GoodIn wsX1_choice (wsV RX1 85 RX5 yX5_atLeast wsX5_atLeast) := goodIn_app (goodIn_of _ (by decide +kernel)) ggX1_choice_X5_atLeast
set_option maxRecDepth 20000 in
theorem ggX1_choice_X5_isThin : GoodIn wsX1_choice wsX5_isThin := goodIn_r _ [11, 7, 12, 99, 100, 101, 102, 103, 104, 105, 106] (by decide +kernel) (by decide +kernel)
set_option maxRecDepth 20000 in
theorem gX1_choice_X5_isThin : GoodIn wsX1_choice (wsV RX1 89 RX5 yX5_isThin wsX5_isThin) := goodIn_app (goodIn_of _ (by decide +kernel)) ggX1_choice_X5_isThin
set_option maxRecDepth 20000 in
theorem ggX1_choice_X1_chooseTwins : GoodIn wsX1_choice wsX1_chooseTwins := goodIn_r _ [17, 18, 19, 20, 21, 16, 22, 23, 24, 25, 26, 27, 28, 1, 29, 30, 31, 32, 5, 33, 34, 35, 36, 37, 38, 39, 40, 41, 42, 43, 44, 45, 46, 47, 48, 49, 50, 51, 52, 53, 7, 54, 55, 56, 57, 58, 59, 60, 61, 62, 63, 64, 65, 66, 67, 90, 91, 92, 93, 94, 95, 96, 97, 98, 107, 108, 109, 110, 111, 99, 100, 101, 102, 103, 104, 105, 106, 112, 113, 114, 115] (by decide +kernel) (by decide +kernel)
set_option maxRecDepth 20000 in
theorem gX1_choice_X1_chooseTwins : GoodIn wsX1_choice (wsV RX1 92 RX1 yX1_chooseTwins wsX1_chooseTwins) := goodIn_app (goodIn_of _ (by decide +kernel)) ggX1_choice_X1_chooseTwins
set_option maxRecDepth 20000 in
theorem ggX1_choice_X1_isChosen : GoodIn wsX1_choice wsX1_isChosen := goodIn_r _ [71, 23, 24, 18, 25, 26, 27, 16, 28, 1, 29, 30, 31, 32, 5, 33, 34, 35, 72, 73, 74, 75, 40, 76, 41, 42, 43, 44, 45, 46, 47, 48, 55, 56, 57, 58, 59, 60, 61, 62, 63, 64, 65, 66, 67, 90, 91, 92, 93, 94, 95, 96, 97, 98, 107, 108, 109, 110, 111, 99, 100, 101, 102, 103, 104, 105, 106, 112, 113, 114, 115] (by decide +kernel) (by decide +kernel)
set_option maxRecDepth 20000 in
theorem gX1_choice_X1_isChosen : GoodIn wsX1_choice (wsV RX1 96 RX1 yX1_isChosen wsX1_isChosen) := goodIn_app (goodIn_of _ (by decide +kernel)) ggX1_choice_X1_isChosen
set_option maxRecDepth 20000 in
theorem ggX1_choice_X1_rank : GoodIn wsX1_choice wsX1_rank := goodIn_r _ [80, 23, 1, 29, 41, 24, 81, 82, 83, 45, 84, 48, 85, 86, 87, 88, 58, 89, 62, 63, 64, 65, 66, 67, 90, 91, 92, 93, 94, 95, 96, 97, 98, 99, 100, 101, 102, 103, 104, 105, 106, 107, 108, 109, 110, 111, 112, 113, 114, 115] (by decide +kernel) (by decide +kernel)
set_option maxRecDepth 20000 in
theorem gX1_choice_X1_rank : GoodIn wsX1_choice (wsV RX1 99 RX1 yX1_rank wsX1_rank) := goodIn_app (goodIn_of _ (by decide +kernel)) ggX1_choice_X1_rank
theorem dX1_choice_0 : decode cX1_choice 0 = .ok (.iconst (-1), 1) := by decide +kernel
theorem dX1_choice_1 : decode cX1_choice 1 = .ok (.istore_n 2, 1) := by decide +kernel
theorem dX1_choice_2 : decode cX1_choice 2 = .ok (.iload_n 1, 1) := by decide +kernel
theorem dX1_choice_3 : decode cX1_choice 3 = .ok (.iconst 4, 1) := by decide +kernel
theorem dX1_choice_4 : decode cX1_choice 4 = .ok (.if_icmp .ne 24, 3) := by decide +kernel
theorem dX1_choice_7 : decode cX1_choice 7 = .ok (.aload_n 0, 1) := by decide +kernel
theorem dX1_choice_8 : decode cX1_choice 8 = .ok (.getfield 21, 3) := by decide +kernel
theorem dX1_choice_11 : decode cX1_choice 11 = .ok (.invokevirtual 85, 3) := by decide +kernel
theorem dX1_choice_14 : decode cX1_choice 14 = .ok (.istore_n 2, 1) := by decide +kernel
theorem dX1_choice_15 : decode cX1_choice 15 = .ok (.aload_n 0, 1) := by decide +kernel
theorem dX1_choice_16 : decode cX1_choice 16 = .ok (.getfield 21, 3) := by decide +kernel
theorem dX1_choice_19 : decode cX1_choice 19 = .ok (.iload_n 2, 1) := by decide +kernel
theorem dX1_choice_20 : decode cX1_choice 20 = .ok (.invokevirtual 89, 3) := by decide +kernel
theorem dX1_choice_23 : decode cX1_choice 23 = .ok (.ifCond .ne 5, 3) := by decide +kernel
theorem dX1_choice_26 : decode cX1_choice 26 = .ok (.iconst (-1), 1) := by decide +kernel
theorem dX1_choice_27 : decode cX1_choice 27 = .ok (.ireturn, 1) := by decide +kernel
theorem dX1_choice_28 : decode cX1_choice 28 = .ok (.aload_n 0, 1) := by decide +kernel
theorem dX1_choice_29 : decode cX1_choice 29 = .ok (.iload_n 2, 1) := by decide +kernel
theorem dX1_choice_30 : decode cX1_choice 30 = .ok (.invokevirtual 92, 3) := by decide +kernel
theorem dX1_choice_33 : decode cX1_choice 33 = .ok (.iconst (-1), 1) := by decide +kernel
theorem dX1_choice_34 : decode cX1_choice 34 = .ok (.istore_n 3, 1) := by decide +kernel
theorem dX1_choice_35 : decode cX1_choice 35 = .ok (.iconst 0, 1) := by decide +kernel
theorem dX1_choice_36 : decode cX1_choice 36 = .ok (.istore 4, 2) := by decide +kernel
theorem dX1_choice_38 : decode cX1_choice 38 = .ok (.iconst 0, 1) := by decide +kernel
theorem dX1_choice_39 : decode cX1_choice 39 = .ok (.istore 5, 2) := by decide +kernel
theorem dX1_choice_41 : decode cX1_choice 41 = .ok (.iload 5, 2) := by decide +kernel
theorem dX1_choice_43 : decode cX1_choice 43 = .ok (.bipush 80, 2) := by decide +kernel
theorem dX1_choice_45 : decode cX1_choice 45 = .ok (.if_icmp .ge 47, 3) := by decide +kernel
theorem dX1_choice_48 : decode cX1_choice 48 = .ok (.aload_n 0, 1) := by decide +kernel
theorem dX1_choice_49 : decode cX1_choice 49 = .ok (.iload 5, 2) := by decide +kernel
theorem dX1_choice_51 : decode cX1_choice 51 = .ok (.iload_n 2, 1) := by decide +kernel
theorem dX1_choice_52 : decode cX1_choice 52 = .ok (.invokevirtual 96, 3) := by decide +kernel
theorem dX1_choice_55 : decode cX1_choice 55 = .ok (.ifCond .eq 31, 3) := by decide +kernel
theorem dX1_choice_58 : decode cX1_choice 58 = .ok (.aload_n 0, 1) := by decide +kernel
theorem dX1_choice_59 : decode cX1_choice 59 = .ok (.iload_n 1, 1) := by decide +kernel
theorem dX1_choice_60 : decode cX1_choice 60 = .ok (.iload 5, 2) := by decide +kernel
theorem dX1_choice_62 : decode cX1_choice 62 = .ok (.invokevirtual 99, 3) := by decide +kernel
theorem dX1_choice_65 : decode cX1_choice 65 = .ok (.istore 6, 2) := by decide +kernel
theorem dX1_choice_67 : decode cX1_choice 67 = .ok (.iload_n 3, 1) := by decide +kernel
theorem dX1_choice_68 : decode cX1_choice 68 = .ok (.iconst (-1), 1) := by decide +kernel
theorem dX1_choice_69 : decode cX1_choice 69 = .ok (.if_icmp .eq 10, 3) := by decide +kernel
theorem dX1_choice_72 : decode cX1_choice 72 = .ok (.iload 6, 2) := by decide +kernel
theorem dX1_choice_74 : decode cX1_choice 74 = .ok (.iload 4, 2) := by decide +kernel
theorem dX1_choice_76 : decode cX1_choice 76 = .ok (.if_icmp .ge 10, 3) := by decide +kernel
theorem dX1_choice_79 : decode cX1_choice 79 = .ok (.iload 5, 2) := by decide +kernel
theorem dX1_choice_81 : decode cX1_choice 81 = .ok (.istore_n 3, 1) := by decide +kernel
theorem dX1_choice_82 : decode cX1_choice 82 = .ok (.iload 6, 2) := by decide +kernel
theorem dX1_choice_84 : decode cX1_choice 84 = .ok (.istore 4, 2) := by decide +kernel
theorem dX1_choice_86 : decode cX1_choice 86 = .ok (.iinc 5 1, 3) := by decide +kernel
theorem dX1_choice_89 : decode cX1_choice 89 = .ok (.goto (-48), 3) := by decide +kernel
theorem dX1_choice_92 : decode cX1_choice 92 = .ok (.iload_n 3, 1) := by decide +kernel
theorem dX1_choice_93 : decode cX1_choice 93 = .ok (.ireturn, 1) := by decide +kernel
set_option maxRecDepth 20000 in
theorem ggX1_chooseTwins_X1_wantedTwin : GoodIn wsX1_chooseTwins wsX1_wantedTwin := goodIn_r _ [6, 7, 8, 9, 10, 11, 5, 12, 13, 14, 15, 16, 17, 18, 19, 20, 21, 55, 56, 57, 58, 59, 60, 61, 62, 63, 64, 65, 66, 67, 68, 69, 70, 71, 72, 73, 74, 75, 76] (by decide +kernel) (by decide +kernel)
set_option maxRecDepth 20000 in
theorem gX1_chooseTwins_X1_wantedTwin : GoodIn wsX1_chooseTwins (wsV RX1 103 RX1 yX1_wantedTwin wsX1_wantedTwin) := goodIn_app (goodIn_of _ (by decide +kernel)) ggX1_chooseTwins_X1_wantedTwin
set_option maxRecDepth 20000 in
theorem ggX1_chooseTwins_X1_twinsMay : GoodIn wsX1_chooseTwins wsX1_twinsMay := goodIn_r _ [25, 7, 8, 26, 13, 27, 28, 29, 30, 31, 32, 33, 34, 35, 36, 37, 18, 38, 39, 40, 41, 42, 43, 44, 45, 46, 47, 48, 49, 50, 51, 52, 53, 54, 55, 56, 57, 58, 59, 60, 61, 62, 63, 64, 65, 66, 67, 68, 69, 70, 71, 72, 73, 74, 75, 76, 77, 78, 79, 80] (by decide +kernel) (by decide +kernel)
set_option maxRecDepth 20000 in
theorem gX1_chooseTwins_X1_twinsMay : GoodIn wsX1_chooseTwins (wsV RX1 65 RX1 yX1_twinsMay wsX1_twinsMay) := goodIn_app (goodIn_of _ (by decide +kernel)) ggX1_chooseTwins_X1_twinsMay
theorem dX1_chooseTwins_0 : decode cX1_chooseTwins 0 = .ok (.iconst 1, 1) := by decide +kernel
theorem dX1_chooseTwins_1 : decode cX1_chooseTwins 1 = .ok (.istore_n 2, 1) := by decide +kernel
theorem dX1_chooseTwins_2 : decode cX1_chooseTwins 2 = .ok (.iload_n 2, 1) := by decide +kernel
theorem dX1_chooseTwins_3 : decode cX1_chooseTwins 3 = .ok (.iconst 4, 1) := by decide +kernel
theorem dX1_chooseTwins_4 : decode cX1_chooseTwins 4 = .ok (.if_icmp .ge 41, 3) := by decide +kernel
theorem dX1_chooseTwins_7 : decode cX1_chooseTwins 7 = .ok (.aload_n 0, 1) := by decide +kernel
theorem dX1_chooseTwins_8 : decode cX1_chooseTwins 8 = .ok (.iload_n 2, 1) := by decide +kernel
theorem dX1_chooseTwins_9 : decode cX1_chooseTwins 9 = .ok (.iload_n 1, 1) := by decide +kernel
theorem dX1_chooseTwins_10 : decode cX1_chooseTwins 10 = .ok (.invokevirtual 103, 3) := by decide +kernel
theorem dX1_chooseTwins_13 : decode cX1_chooseTwins 13 = .ok (.istore_n 3, 1) := by decide +kernel
theorem dX1_chooseTwins_14 : decode cX1_chooseTwins 14 = .ok (.aload_n 0, 1) := by decide +kernel
theorem dX1_chooseTwins_15 : decode cX1_chooseTwins 15 = .ok (.getfield 42, 3) := by decide +kernel
theorem dX1_chooseTwins_18 : decode cX1_chooseTwins 18 = .ok (.iload_n 2, 1) := by decide +kernel
theorem dX1_chooseTwins_19 : decode cX1_chooseTwins 19 = .ok (.iload_n 3, 1) := by decide +kernel
theorem dX1_chooseTwins_20 : decode cX1_chooseTwins 20 = .ok (.iconst (-1), 1) := by decide +kernel
theorem dX1_chooseTwins_21 : decode cX1_chooseTwins 21 = .ok (.if_icmp .eq 16, 3) := by decide +kernel
theorem dX1_chooseTwins_24 : decode cX1_chooseTwins 24 = .ok (.aload_n 0, 1) := by decide +kernel
theorem dX1_chooseTwins_25 : decode cX1_chooseTwins 25 = .ok (.iload_n 2, 1) := by decide +kernel
theorem dX1_chooseTwins_26 : decode cX1_chooseTwins 26 = .ok (.iload_n 3, 1) := by decide +kernel
theorem dX1_chooseTwins_27 : decode cX1_chooseTwins 27 = .ok (.invokevirtual 65, 3) := by decide +kernel
theorem dX1_chooseTwins_30 : decode cX1_chooseTwins 30 = .ok (.ifCond .eq 7, 3) := by decide +kernel
theorem dX1_chooseTwins_33 : decode cX1_chooseTwins 33 = .ok (.iconst 1, 1) := by decide +kernel
theorem dX1_chooseTwins_34 : decode cX1_chooseTwins 34 = .ok (.goto 4, 3) := by decide +kernel
theorem dX1_chooseTwins_37 : decode cX1_chooseTwins 37 = .ok (.iconst 0, 1) := by decide +kernel
theorem dX1_chooseTwins_38 : decode cX1_chooseTwins 38 = .ok (.bastore, 1) := by decide +kernel
theorem dX1_chooseTwins_39 : decode cX1_chooseTwins 39 = .ok (.iinc 2 1, 3) := by decide +kernel
theorem dX1_chooseTwins_42 : decode cX1_chooseTwins 42 = .ok (.goto (-40), 3) := by decide +kernel
theorem dX1_chooseTwins_45 : decode cX1_chooseTwins 45 = .ok (.return_, 1) := by decide +kernel
set_option maxRecDepth 20000 in
theorem ggX1_wantedTwin_X1_isWanted : GoodIn wsX1_wantedTwin wsX1_isWanted := goodIn_r _ [7, 8, 9, 10, 11, 12, 13, 14, 15, 16, 17, 18, 19, 20, 21, 22, 23, 24, 25, 31, 32, 33, 34, 35, 36, 37, 38] (by decide +kernel) (by decide +kernel)
set_option maxRecDepth 20000 in
theorem gX1_wantedTwin_X1_isWanted : GoodIn wsX1_wantedTwin (wsV RX1 106 RX1 yX1_isWanted wsX1_isWanted) := goodIn_app (goodIn_of _ (by decide +kernel)) ggX1_wantedTwin_X1_isWanted
theorem dX1_wantedTwin_0 : decode cX1_wantedTwin 0 = .ok (.iconst 0, 1) := by decide +kernel
theorem dX1_wantedTwin_1 : decode cX1_wantedTwin 1 = .ok (.istore_n 3, 1) := by decide +kernel
theorem dX1_wantedTwin_2 : decode cX1_wantedTwin 2 = .ok (.iload_n 3, 1) := by decide +kernel
theorem dX1_wantedTwin_3 : decode cX1_wantedTwin 3 = .ok (.bipush 80, 2) := by decide +kernel
theorem dX1_wantedTwin_5 : decode cX1_wantedTwin 5 = .ok (.if_icmp .ge 33, 3) := by decide +kernel
theorem dX1_wantedTwin_8 : decode cX1_wantedTwin 8 = .ok (.aload_n 0, 1) := by decide +kernel
theorem dX1_wantedTwin_9 : decode cX1_wantedTwin 9 = .ok (.getfield 12, 3) := by decide +kernel
theorem dX1_wantedTwin_12 : decode cX1_wantedTwin 12 = .ok (.getfield 58, 3) := by decide +kernel
theorem dX1_wantedTwin_15 : decode cX1_wantedTwin 15 = .ok (.iload_n 3, 1) := by decide +kernel
theorem dX1_wantedTwin_16 : decode cX1_wantedTwin 16 = .ok (.iaload, 1) := by decide +kernel
theorem dX1_wantedTwin_17 : decode cX1_wantedTwin 17 = .ok (.iload_n 1, 1) := by decide +kernel
theorem dX1_wantedTwin_18 : decode cX1_wantedTwin 18 = .ok (.if_icmp .ne 14, 3) := by decide +kernel
theorem dX1_wantedTwin_21 : decode cX1_wantedTwin 21 = .ok (.aload_n 0, 1) := by decide +kernel
theorem dX1_wantedTwin_22 : decode cX1_wantedTwin 22 = .ok (.iload_n 3, 1) := by decide +kernel
theorem dX1_wantedTwin_23 : decode cX1_wantedTwin 23 = .ok (.iload_n 2, 1) := by decide +kernel
theorem dX1_wantedTwin_24 : decode cX1_wantedTwin 24 = .ok (.invokevirtual 106, 3) := by decide +kernel
theorem dX1_wantedTwin_27 : decode cX1_wantedTwin 27 = .ok (.ifCond .eq 5, 3) := by decide +kernel
theorem dX1_wantedTwin_30 : decode cX1_wantedTwin 30 = .ok (.iload_n 3, 1) := by decide +kernel
theorem dX1_wantedTwin_31 : decode cX1_wantedTwin 31 = .ok (.ireturn, 1) := by decide +kernel
theorem dX1_wantedTwin_32 : decode cX1_wantedTwin 32 = .ok (.iinc 3 1, 3) := by decide +kernel
theorem dX1_wantedTwin_35 : decode cX1_wantedTwin 35 = .ok (.goto (-33), 3) := by decide +kernel
theorem dX1_wantedTwin_38 : decode cX1_wantedTwin 38 = .ok (.iconst (-1), 1) := by decide +kernel
theorem dX1_wantedTwin_39 : decode cX1_wantedTwin 39 = .ok (.ireturn, 1) := by decide +kernel
set_option maxRecDepth 20000 in
theorem ggX1_isWanted_X5_has : GoodIn wsX1_isWanted wsX5_has := goodIn_r _ [7, 8, 9, 19, 20, 21, 22, 23, 24, 25, 26] (by decide +kernel) (by decide +kernel)
set_option maxRecDepth 20000 in
theorem gX1_isWanted_X5_has : GoodIn wsX1_isWanted (wsV RX1 112 RX5 yX5_has wsX5_has) := goodIn_app (goodIn_of _ (by decide +kernel)) ggX1_isWanted_X5_has
theorem dX1_isWanted_0 : decode cX1_isWanted 0 = .ok (.iload_n 2, 1) := by decide +kernel
theorem dX1_isWanted_1 : decode cX1_isWanted 1 = .ok (.iconst (-1), 1) := by decide +kernel
theorem dX1_isWanted_2 : decode cX1_isWanted 2 = .ok (.if_icmp .ne 23, 3) := by decide +kernel
theorem dX1_isWanted_5 : decode cX1_isWanted 5 = .ok (.aload_n 0, 1) := by decide +kernel
theorem dX1_isWanted_6 : decode cX1_isWanted 6 = .ok (.getfield 21, 3) := by decide +kernel
theorem dX1_isWanted_9 : decode cX1_isWanted 9 = .ok (.getfield 109, 3) := by decide +kernel
theorem dX1_isWanted_12 : decode cX1_isWanted 12 = .ok (.iload_n 1, 1) := by decide +kernel
theorem dX1_isWanted_13 : decode cX1_isWanted 13 = .ok (.iaload, 1) := by decide +kernel
theorem dX1_isWanted_14 : decode cX1_isWanted 14 = .ok (.ifCond .le 7, 3) := by decide +kernel
theorem dX1_isWanted_17 : decode cX1_isWanted 17 = .ok (.iconst 1, 1) := by decide +kernel
theorem dX1_isWanted_18 : decode cX1_isWanted 18 = .ok (.goto 16, 3) := by decide +kernel
theorem dX1_isWanted_21 : decode cX1_isWanted 21 = .ok (.iconst 0, 1) := by decide +kernel
theorem dX1_isWanted_22 : decode cX1_isWanted 22 = .ok (.goto 12, 3) := by decide +kernel
theorem dX1_isWanted_25 : decode cX1_isWanted 25 = .ok (.aload_n 0, 1) := by decide +kernel
theorem dX1_isWanted_26 : decode cX1_isWanted 26 = .ok (.getfield 21, 3) := by decide +kernel
theorem dX1_isWanted_29 : decode cX1_isWanted 29 = .ok (.iload_n 2, 1) := by decide +kernel
theorem dX1_isWanted_30 : decode cX1_isWanted 30 = .ok (.iload_n 1, 1) := by decide +kernel
theorem dX1_isWanted_31 : decode cX1_isWanted 31 = .ok (.invokevirtual 112, 3) := by decide +kernel
theorem dX1_isWanted_34 : decode cX1_isWanted 34 = .ok (.ireturn, 1) := by decide +kernel
set_option maxRecDepth 20000 in
theorem ggX1_isChosen_X1_isWanted : GoodIn wsX1_isChosen wsX1_isWanted := goodIn_r _ [8, 9, 10, 11, 12, 13, 14, 15, 16, 17, 45, 46, 47, 48, 49, 50, 51, 52, 53, 59, 60, 61, 62, 63, 64, 65, 66] (by decide +kernel) (by decide +kernel)
set_option maxRecDepth 20000 in
theorem gX1_isChosen_X1_isWanted : GoodIn wsX1_isChosen (wsV RX1 106 RX1 yX1_isWanted wsX1_isWanted) := goodIn_app (goodIn_of _ (by decide +kernel)) ggX1_isChosen_X1_isWanted
set_option maxRecDepth 20000 in
theorem ggX1_isChosen_X1_loneMay : GoodIn wsX1_isChosen wsX1_loneMay := goodIn_r _ [21, 1, 22, 9, 23, 24, 25, 26, 27, 28, 29, 30, 31, 32, 33, 34, 35, 36, 37, 38, 39, 40, 41, 42, 43, 44, 45, 46, 47, 48, 49, 50, 51, 52, 53, 54, 55, 56, 57, 58, 59, 60, 61, 62, 63, 64, 65, 66, 67, 68, 69, 70] (by decide +kernel) (by decide +kernel)
set_option maxRecDepth 20000 in
theorem gX1_isChosen_X1_loneMay : GoodIn wsX1_isChosen (wsV RX1 61 RX1 yX1_loneMay wsX1_loneMay) := goodIn_app (goodIn_of _ (by decide +kernel)) ggX1_isChosen_X1_loneMay
theorem dX1_isChosen_0 : decode cX1_isChosen 0 = .ok (.aload_n 0, 1) := by decide +kernel
theorem dX1_isChosen_1 : decode cX1_isChosen 1 = .ok (.getfield 12, 3) := by decide +kernel
theorem dX1_isChosen_4 : decode cX1_isChosen 4 = .ok (.getfield 58, 3) := by decide +kernel
theorem dX1_isChosen_7 : decode cX1_isChosen 7 = .ok (.iload_n 1, 1) := by decide +kernel
theorem dX1_isChosen_8 : decode cX1_isChosen 8 = .ok (.iaload, 1) := by decide +kernel
theorem dX1_isChosen_9 : decode cX1_isChosen 9 = .ok (.istore_n 3, 1) := by decide +kernel
theorem dX1_isChosen_10 : decode cX1_isChosen 10 = .ok (.iload_n 3, 1) := by decide +kernel
theorem dX1_isChosen_11 : decode cX1_isChosen 11 = .ok (.ifCond .ne 28, 3) := by decide +kernel
theorem dX1_isChosen_14 : decode cX1_isChosen 14 = .ok (.aload_n 0, 1) := by decide +kernel
theorem dX1_isChosen_15 : decode cX1_isChosen 15 = .ok (.iload_n 1, 1) := by decide +kernel
theorem dX1_isChosen_16 : decode cX1_isChosen 16 = .ok (.iload_n 2, 1) := by decide +kernel
theorem dX1_isChosen_17 : decode cX1_isChosen 17 = .ok (.invokevirtual 106, 3) := by decide +kernel
theorem dX1_isChosen_20 : decode cX1_isChosen 20 = .ok (.ifCond .eq 15, 3) := by decide +kernel
theorem dX1_isChosen_23 : decode cX1_isChosen 23 = .ok (.aload_n 0, 1) := by decide +kernel
theorem dX1_isChosen_24 : decode cX1_isChosen 24 = .ok (.iload_n 1, 1) := by decide +kernel
theorem dX1_isChosen_25 : decode cX1_isChosen 25 = .ok (.invokevirtual 61, 3) := by decide +kernel
theorem dX1_isChosen_28 : decode cX1_isChosen 28 = .ok (.ifCond .eq 7, 3) := by decide +kernel
theorem dX1_isChosen_31 : decode cX1_isChosen 31 = .ok (.iconst 1, 1) := by decide +kernel
theorem dX1_isChosen_32 : decode cX1_isChosen 32 = .ok (.goto 13, 3) := by decide +kernel
theorem dX1_isChosen_35 : decode cX1_isChosen 35 = .ok (.iconst 0, 1) := by decide +kernel
theorem dX1_isChosen_36 : decode cX1_isChosen 36 = .ok (.goto 9, 3) := by decide +kernel
theorem dX1_isChosen_39 : decode cX1_isChosen 39 = .ok (.aload_n 0, 1) := by decide +kernel
theorem dX1_isChosen_40 : decode cX1_isChosen 40 = .ok (.getfield 42, 3) := by decide +kernel
theorem dX1_isChosen_43 : decode cX1_isChosen 43 = .ok (.iload_n 3, 1) := by decide +kernel
theorem dX1_isChosen_44 : decode cX1_isChosen 44 = .ok (.baload, 1) := by decide +kernel
theorem dX1_isChosen_45 : decode cX1_isChosen 45 = .ok (.ireturn, 1) := by decide +kernel
set_option maxRecDepth 20000 in
theorem ggX1_rank_X0_sumOf : GoodIn wsX1_rank wsX0_sumOf := goodIn_r _ [10, 11, 12, 41, 42, 43, 44, 45] (by decide +kernel) (by decide +kernel)
set_option maxRecDepth 20000 in
theorem gX1_rank_X0_sumOf : GoodIn wsX1_rank (wsV RX1 115 RX0 yX0_sumOf wsX0_sumOf) := goodIn_app (goodIn_of _ (by decide +kernel)) ggX1_rank_X0_sumOf
set_option maxRecDepth 20000 in
theorem ggX1_rank_X3_gainOfAll : GoodIn wsX1_rank wsX3_gainOfAll := goodIn_r _ [17, 18, 19, 20, 16, 21, 22, 23, 46, 47, 48, 49] (by decide +kernel) (by decide +kernel)
set_option maxRecDepth 20000 in
theorem gX1_rank_X3_gainOfAll : GoodIn wsX1_rank (wsV RX1 118 RX3 yX3_gainOfAll wsX3_gainOfAll) := goodIn_app (goodIn_of _ (by decide +kernel)) ggX1_rank_X3_gainOfAll
theorem dX1_rank_0 : decode cX1_rank 0 = .ok (.iload_n 1, 1) := by decide +kernel
theorem dX1_rank_1 : decode cX1_rank 1 = .ok (.tableswitch 65 1 3 #[27, 36, 47], 27) := by decide +kernel
theorem dX1_rank_28 : decode cX1_rank 28 = .ok (.aload_n 0, 1) := by decide +kernel
theorem dX1_rank_29 : decode cX1_rank 29 = .ok (.getfield 12, 3) := by decide +kernel
theorem dX1_rank_32 : decode cX1_rank 32 = .ok (.iload_n 2, 1) := by decide +kernel
theorem dX1_rank_33 : decode cX1_rank 33 = .ok (.invokevirtual 115, 3) := by decide +kernel
theorem dX1_rank_36 : decode cX1_rank 36 = .ok (.ireturn, 1) := by decide +kernel
theorem dX1_rank_37 : decode cX1_rank 37 = .ok (.aload_n 0, 1) := by decide +kernel
theorem dX1_rank_38 : decode cX1_rank 38 = .ok (.getfield 21, 3) := by decide +kernel
theorem dX1_rank_41 : decode cX1_rank 41 = .ok (.getfield 109, 3) := by decide +kernel
theorem dX1_rank_44 : decode cX1_rank 44 = .ok (.iload_n 2, 1) := by decide +kernel
theorem dX1_rank_45 : decode cX1_rank 45 = .ok (.iaload, 1) := by decide +kernel
theorem dX1_rank_46 : decode cX1_rank 46 = .ok (.ineg, 1) := by decide +kernel
theorem dX1_rank_47 : decode cX1_rank 47 = .ok (.ireturn, 1) := by decide +kernel
theorem dX1_rank_48 : decode cX1_rank 48 = .ok (.aload_n 0, 1) := by decide +kernel
theorem dX1_rank_49 : decode cX1_rank 49 = .ok (.getfield 28, 3) := by decide +kernel
theorem dX1_rank_52 : decode cX1_rank 52 = .ok (.iload_n 2, 1) := by decide +kernel
theorem dX1_rank_53 : decode cX1_rank 53 = .ok (.aload_n 0, 1) := by decide +kernel
theorem dX1_rank_54 : decode cX1_rank 54 = .ok (.getfield 12, 3) := by decide +kernel
theorem dX1_rank_57 : decode cX1_rank 57 = .ok (.getfield 58, 3) := by decide +kernel
theorem dX1_rank_60 : decode cX1_rank 60 = .ok (.iload_n 2, 1) := by decide +kernel
theorem dX1_rank_61 : decode cX1_rank 61 = .ok (.iaload, 1) := by decide +kernel
theorem dX1_rank_62 : decode cX1_rank 62 = .ok (.invokevirtual 118, 3) := by decide +kernel
theorem dX1_rank_65 : decode cX1_rank 65 = .ok (.ireturn, 1) := by decide +kernel
theorem dX1_rank_66 : decode cX1_rank 66 = .ok (.iconst 0, 1) := by decide +kernel
theorem dX1_rank_67 : decode cX1_rank 67 = .ok (.ireturn, 1) := by decide +kernel
set_option maxRecDepth 20000 in
theorem ggX1_change_X5_shift : GoodIn wsX1_change wsX5_shift := goodIn_r _ [10, 11, 12, 13, 14, 15, 16, 17, 18, 19, 20, 21, 22, 9, 23, 24, 25, 26, 27, 28, 29, 30, 31, 32, 33, 34, 35, 36, 37, 38, 39, 40, 62, 63, 64, 65, 66, 67, 68, 69] (by decide +kernel) (by decide +kernel)
set_option maxRecDepth 20000 in
theorem gX1_change_X5_shift : GoodIn wsX1_change (wsV RX1 121 RX5 yX5_shift wsX5_shift) := goodIn_app (goodIn_of _ (by decide +kernel)) ggX1_change_X5_shift
set_option maxRecDepth 20000 in
theorem ggX1_change_X3_shift : GoodIn wsX1_change wsX3_shift := goodIn_r _ [45, 46, 47, 70, 71, 72, 73] (by decide +kernel) (by decide +kernel)
set_option maxRecDepth 20000 in
theorem gX1_change_X3_shift : GoodIn wsX1_change (wsV RX1 125 RX3 yX3_shift wsX3_shift) := goodIn_app (goodIn_of _ (by decide +kernel)) ggX1_change_X3_shift
theorem dX1_change_0 : decode cX1_change 0 = .ok (.aload_n 0, 1) := by decide +kernel
theorem dX1_change_1 : decode cX1_change 1 = .ok (.getfield 12, 3) := by decide +kernel
theorem dX1_change_4 : decode cX1_change 4 = .ok (.getfield 58, 3) := by decide +kernel
theorem dX1_change_7 : decode cX1_change 7 = .ok (.iload_n 1, 1) := by decide +kernel
theorem dX1_change_8 : decode cX1_change 8 = .ok (.iaload, 1) := by decide +kernel
theorem dX1_change_9 : decode cX1_change 9 = .ok (.istore_n 3, 1) := by decide +kernel
theorem dX1_change_10 : decode cX1_change 10 = .ok (.iconst 0, 1) := by decide +kernel
theorem dX1_change_11 : decode cX1_change 11 = .ok (.istore 4, 2) := by decide +kernel
theorem dX1_change_13 : decode cX1_change 13 = .ok (.iload 4, 2) := by decide +kernel
theorem dX1_change_15 : decode cX1_change 15 = .ok (.bipush 80, 2) := by decide +kernel
theorem dX1_change_17 : decode cX1_change 17 = .ok (.if_icmp .ge 67, 3) := by decide +kernel
theorem dX1_change_20 : decode cX1_change 20 = .ok (.iload 4, 2) := by decide +kernel
theorem dX1_change_22 : decode cX1_change 22 = .ok (.iload_n 1, 1) := by decide +kernel
theorem dX1_change_23 : decode cX1_change 23 = .ok (.if_icmp .eq 21, 3) := by decide +kernel
theorem dX1_change_26 : decode cX1_change 26 = .ok (.iload_n 3, 1) := by decide +kernel
theorem dX1_change_27 : decode cX1_change 27 = .ok (.ifCond .eq 51, 3) := by decide +kernel
theorem dX1_change_30 : decode cX1_change 30 = .ok (.aload_n 0, 1) := by decide +kernel
theorem dX1_change_31 : decode cX1_change 31 = .ok (.getfield 12, 3) := by decide +kernel
theorem dX1_change_34 : decode cX1_change 34 = .ok (.getfield 58, 3) := by decide +kernel
theorem dX1_change_37 : decode cX1_change 37 = .ok (.iload 4, 2) := by decide +kernel
theorem dX1_change_39 : decode cX1_change 39 = .ok (.iaload, 1) := by decide +kernel
theorem dX1_change_40 : decode cX1_change 40 = .ok (.iload_n 3, 1) := by decide +kernel
theorem dX1_change_41 : decode cX1_change 41 = .ok (.if_icmp .ne 37, 3) := by decide +kernel
theorem dX1_change_44 : decode cX1_change 44 = .ok (.aload_n 0, 1) := by decide +kernel
theorem dX1_change_45 : decode cX1_change 45 = .ok (.getfield 12, 3) := by decide +kernel
theorem dX1_change_48 : decode cX1_change 48 = .ok (.getfield 69, 3) := by decide +kernel
theorem dX1_change_51 : decode cX1_change 51 = .ok (.iload 4, 2) := by decide +kernel
theorem dX1_change_53 : decode cX1_change 53 = .ok (.dup2, 1) := by decide +kernel
theorem dX1_change_54 : decode cX1_change 54 = .ok (.iaload, 1) := by decide +kernel
theorem dX1_change_55 : decode cX1_change 55 = .ok (.iload_n 2, 1) := by decide +kernel
theorem dX1_change_56 : decode cX1_change 56 = .ok (.iadd, 1) := by decide +kernel
theorem dX1_change_57 : decode cX1_change 57 = .ok (.iastore, 1) := by decide +kernel
theorem dX1_change_58 : decode cX1_change 58 = .ok (.aload_n 0, 1) := by decide +kernel
theorem dX1_change_59 : decode cX1_change 59 = .ok (.getfield 21, 3) := by decide +kernel
theorem dX1_change_62 : decode cX1_change 62 = .ok (.iload 4, 2) := by decide +kernel
theorem dX1_change_64 : decode cX1_change 64 = .ok (.iload_n 2, 1) := by decide +kernel
theorem dX1_change_65 : decode cX1_change 65 = .ok (.invokevirtual 121, 3) := by decide +kernel
theorem dX1_change_68 : decode cX1_change 68 = .ok (.aload_n 0, 1) := by decide +kernel
theorem dX1_change_69 : decode cX1_change 69 = .ok (.getfield 28, 3) := by decide +kernel
theorem dX1_change_72 : decode cX1_change 72 = .ok (.iload 4, 2) := by decide +kernel
theorem dX1_change_74 : decode cX1_change 74 = .ok (.iload_n 2, 1) := by decide +kernel
theorem dX1_change_75 : decode cX1_change 75 = .ok (.invokevirtual 125, 3) := by decide +kernel
theorem dX1_change_78 : decode cX1_change 78 = .ok (.iinc 4 1, 3) := by decide +kernel
theorem dX1_change_81 : decode cX1_change 81 = .ok (.goto (-68), 3) := by decide +kernel
theorem dX1_change_84 : decode cX1_change 84 = .ok (.return_, 1) := by decide +kernel
set_option maxRecDepth 20000 in
theorem ggX1_stepOn_X1_choice : GoodIn wsX1_stepOn wsX1_choice := goodIn_r _ [5, 6, 7, 8, 9, 10, 11, 12, 13, 14, 15, 16, 17, 18, 19, 20, 4, 21, 22, 23, 24, 25, 26, 27, 28, 29, 30, 31, 32, 33, 34, 35, 36, 37, 38, 39, 40, 41, 42, 43, 44, 45, 46, 47, 48, 49, 50, 51, 52, 53, 54, 55, 56, 57, 58, 59, 60, 61, 62, 63, 64, 65, 66, 67, 68, 69, 70, 71, 72, 73, 74, 75, 76, 77, 78, 79, 80, 81, 82, 83, 84, 85, 86, 87, 88, 89, 90, 91, 92, 93, 128, 129, 130, 131, 132, 133, 134, 135, 136, 137, 138, 139, 140, 141, 142, 143, 144, 145, 146, 147, 148, 149, 150, 151, 152, 153] (by decide +kernel) (by decide +kernel)
set_option maxRecDepth 20000 in
theorem gX1_stepOn_X1_choice : GoodIn wsX1_stepOn (wsV RX1 126 RX1 yX1_choice wsX1_choice) := goodIn_app (goodIn_of _ (by decide +kernel)) ggX1_stepOn_X1_choice
set_option maxRecDepth 20000 in
theorem ggX1_stepOn_X1_change : GoodIn wsX1_stepOn wsX1_change := goodIn_r _ [97, 27, 28, 44, 6, 45, 98, 99, 100, 10, 101, 38, 102, 103, 104, 105, 39, 106, 107, 108, 109, 110, 111, 112, 12, 113, 114, 115, 14, 15, 16, 17, 116, 117, 118, 119, 58, 120, 121, 122, 123, 124, 125, 126, 62, 127, 70, 64, 128, 129, 130, 131, 132, 133, 134, 135, 136, 145, 146, 147, 148, 149, 137, 138, 139, 140, 141, 142, 143, 144, 150, 151, 152, 153] (by decide +kernel) (by decide +kernel)
set_option maxRecDepth 20000 in
theorem gX1_stepOn_X1_change : GoodIn wsX1_stepOn (wsV RX1 129 RX1 yX1_change wsX1_change) := goodIn_app (goodIn_of _ (by decide +kernel)) ggX1_stepOn_X1_change
theorem dX1_stepOn_0 : decode cX1_stepOn 0 = .ok (.iconst 0, 1) := by decide +kernel
theorem dX1_stepOn_1 : decode cX1_stepOn 1 = .ok (.istore_n 3, 1) := by decide +kernel
theorem dX1_stepOn_2 : decode cX1_stepOn 2 = .ok (.iload_n 3, 1) := by decide +kernel
theorem dX1_stepOn_3 : decode cX1_stepOn 3 = .ok (.iload_n 2, 1) := by decide +kernel
theorem dX1_stepOn_4 : decode cX1_stepOn 4 = .ok (.if_icmp .ge 31, 3) := by decide +kernel
theorem dX1_stepOn_7 : decode cX1_stepOn 7 = .ok (.aload_n 0, 1) := by decide +kernel
theorem dX1_stepOn_8 : decode cX1_stepOn 8 = .ok (.iload_n 1, 1) := by decide +kernel
theorem dX1_stepOn_9 : decode cX1_stepOn 9 = .ok (.invokevirtual 126, 3) := by decide +kernel
theorem dX1_stepOn_12 : decode cX1_stepOn 12 = .ok (.istore 4, 2) := by decide +kernel
theorem dX1_stepOn_14 : decode cX1_stepOn 14 = .ok (.iload 4, 2) := by decide +kernel
theorem dX1_stepOn_16 : decode cX1_stepOn 16 = .ok (.iconst (-1), 1) := by decide +kernel
theorem dX1_stepOn_17 : decode cX1_stepOn 17 = .ok (.if_icmp .ne 5, 3) := by decide +kernel
theorem dX1_stepOn_20 : decode cX1_stepOn 20 = .ok (.iload_n 3, 1) := by decide +kernel
theorem dX1_stepOn_21 : decode cX1_stepOn 21 = .ok (.ireturn, 1) := by decide +kernel
theorem dX1_stepOn_22 : decode cX1_stepOn 22 = .ok (.aload_n 0, 1) := by decide +kernel
theorem dX1_stepOn_23 : decode cX1_stepOn 23 = .ok (.iload 4, 2) := by decide +kernel
theorem dX1_stepOn_25 : decode cX1_stepOn 25 = .ok (.iconst 1, 1) := by decide +kernel
theorem dX1_stepOn_26 : decode cX1_stepOn 26 = .ok (.invokevirtual 129, 3) := by decide +kernel
theorem dX1_stepOn_29 : decode cX1_stepOn 29 = .ok (.iinc 3 1, 3) := by decide +kernel
theorem dX1_stepOn_32 : decode cX1_stepOn 32 = .ok (.goto (-30), 3) := by decide +kernel
theorem dX1_stepOn_35 : decode cX1_stepOn 35 = .ok (.iload_n 2, 1) := by decide +kernel
theorem dX1_stepOn_36 : decode cX1_stepOn 36 = .ok (.ireturn, 1) := by decide +kernel
set_option maxRecDepth 20000 in
theorem ggX1_thinOut_X6_total : GoodIn wsX1_thinOut wsX6_total := goodIn_r _ [11] (by decide +kernel) (by decide +kernel)
set_option maxRecDepth 20000 in
theorem gX1_thinOut_X6_total_n132 : GoodIn wsX1_thinOut (wsX6_total) := ggX1_thinOut_X6_total
set_option maxRecDepth 20000 in
theorem ggX1_thinOut_X5_slack : GoodIn wsX1_thinOut wsX5_slack := goodIn_r _ [16, 17, 18, 19, 6, 7, 8, 20, 21, 22, 15, 23, 24, 25, 26, 27, 28, 29, 30, 84, 85, 86, 87, 88, 89, 90, 91] (by decide +kernel) (by decide +kernel)
set_option maxRecDepth 20000 in
theorem gX1_thinOut_X5_slack : GoodIn wsX1_thinOut (wsV RX1 136 RX5 yX5_slack wsX5_slack) := goodIn_app (goodIn_of _ (by decide +kernel)) ggX1_thinOut_X5_slack
set_option maxRecDepth 20000 in
theorem ggX1_thinOut_X1_change : GoodIn wsX1_thinOut wsX1_change := goodIn_r _ [35, 1, 4, 2, 3, 36, 37, 38, 39, 15, 40, 29, 19, 6, 7, 8, 30, 41, 42, 43, 44, 45, 46, 47, 17, 48, 49, 50, 51, 52, 53, 18, 54, 55, 56, 57, 58, 59, 60, 61, 62, 63, 64, 65, 66, 67, 68, 69, 70, 71, 72, 73, 74, 75, 76, 77, 78, 79, 80, 81, 82, 83, 84, 85, 86, 87, 88, 89, 90, 91, 92, 93, 94, 95] (by decide +kernel) (by decide +kernel)
set_option maxRecDepth 20000 in
theorem gX1_thinOut_X1_change : GoodIn wsX1_thinOut (wsV RX1 129 RX1 yX1_change wsX1_change) := goodIn_app (goodIn_of _ (by decide +kernel)) ggX1_thinOut_X1_change
theorem dX1_thinOut_0 : decode cX1_thinOut 0 = .ok (.aload_n 0, 1) := by decide +kernel
theorem dX1_thinOut_1 : decode cX1_thinOut 1 = .ok (.getfield 12, 3) := by decide +kernel
theorem dX1_thinOut_4 : decode cX1_thinOut 4 = .ok (.getfield 69, 3) := by decide +kernel
theorem dX1_thinOut_7 : decode cX1_thinOut 7 = .ok (.invokestatic 132, 3) := by decide +kernel
theorem dX1_thinOut_10 : decode cX1_thinOut 10 = .ok (.istore_n 1, 1) := by decide +kernel
theorem dX1_thinOut_11 : decode cX1_thinOut 11 = .ok (.bipush 79, 2) := by decide +kernel
theorem dX1_thinOut_13 : decode cX1_thinOut 13 = .ok (.istore_n 2, 1) := by decide +kernel
theorem dX1_thinOut_14 : decode cX1_thinOut 14 = .ok (.iload_n 2, 1) := by decide +kernel
theorem dX1_thinOut_15 : decode cX1_thinOut 15 = .ok (.ifCond .lt 62, 3) := by decide +kernel
theorem dX1_thinOut_18 : decode cX1_thinOut 18 = .ok (.aload_n 0, 1) := by decide +kernel
theorem dX1_thinOut_19 : decode cX1_thinOut 19 = .ok (.getfield 12, 3) := by decide +kernel
theorem dX1_thinOut_22 : decode cX1_thinOut 22 = .ok (.getfield 69, 3) := by decide +kernel
theorem dX1_thinOut_25 : decode cX1_thinOut 25 = .ok (.iload_n 2, 1) := by decide +kernel
theorem dX1_thinOut_26 : decode cX1_thinOut 26 = .ok (.iaload, 1) := by decide +kernel
theorem dX1_thinOut_27 : decode cX1_thinOut 27 = .ok (.ifCond .le 44, 3) := by decide +kernel
theorem dX1_thinOut_30 : decode cX1_thinOut 30 = .ok (.aload_n 0, 1) := by decide +kernel
theorem dX1_thinOut_31 : decode cX1_thinOut 31 = .ok (.getfield 12, 3) := by decide +kernel
theorem dX1_thinOut_34 : decode cX1_thinOut 34 = .ok (.getfield 69, 3) := by decide +kernel
theorem dX1_thinOut_37 : decode cX1_thinOut 37 = .ok (.iload_n 2, 1) := by decide +kernel
theorem dX1_thinOut_38 : decode cX1_thinOut 38 = .ok (.iaload, 1) := by decide +kernel
theorem dX1_thinOut_39 : decode cX1_thinOut 39 = .ok (.aload_n 0, 1) := by decide +kernel
theorem dX1_thinOut_40 : decode cX1_thinOut 40 = .ok (.getfield 21, 3) := by decide +kernel
theorem dX1_thinOut_43 : decode cX1_thinOut 43 = .ok (.iload_n 2, 1) := by decide +kernel
theorem dX1_thinOut_44 : decode cX1_thinOut 44 = .ok (.aload_n 0, 1) := by decide +kernel
theorem dX1_thinOut_45 : decode cX1_thinOut 45 = .ok (.getfield 12, 3) := by decide +kernel
theorem dX1_thinOut_48 : decode cX1_thinOut 48 = .ok (.getfield 58, 3) := by decide +kernel
theorem dX1_thinOut_51 : decode cX1_thinOut 51 = .ok (.iload_n 2, 1) := by decide +kernel
theorem dX1_thinOut_52 : decode cX1_thinOut 52 = .ok (.iaload, 1) := by decide +kernel
theorem dX1_thinOut_53 : decode cX1_thinOut 53 = .ok (.invokevirtual 136, 3) := by decide +kernel
theorem dX1_thinOut_56 : decode cX1_thinOut 56 = .ok (.invokestatic 139, 3) := by decide +kernel
theorem dX1_thinOut_59 : decode cX1_thinOut 59 = .ok (.istore_n 3, 1) := by decide +kernel
theorem dX1_thinOut_60 : decode cX1_thinOut 60 = .ok (.iload_n 3, 1) := by decide +kernel
theorem dX1_thinOut_61 : decode cX1_thinOut 61 = .ok (.ifCond .le 10, 3) := by decide +kernel
theorem dX1_thinOut_64 : decode cX1_thinOut 64 = .ok (.aload_n 0, 1) := by decide +kernel
theorem dX1_thinOut_65 : decode cX1_thinOut 65 = .ok (.iload_n 2, 1) := by decide +kernel
theorem dX1_thinOut_66 : decode cX1_thinOut 66 = .ok (.iload_n 3, 1) := by decide +kernel
theorem dX1_thinOut_67 : decode cX1_thinOut 67 = .ok (.ineg, 1) := by decide +kernel
theorem dX1_thinOut_68 : decode cX1_thinOut 68 = .ok (.invokevirtual 129, 3) := by decide +kernel
theorem dX1_thinOut_71 : decode cX1_thinOut 71 = .ok (.iinc 2 (-1), 3) := by decide +kernel
theorem dX1_thinOut_74 : decode cX1_thinOut 74 = .ok (.goto (-60), 3) := by decide +kernel
theorem dX1_thinOut_77 : decode cX1_thinOut 77 = .ok (.iload_n 1, 1) := by decide +kernel
theorem dX1_thinOut_78 : decode cX1_thinOut 78 = .ok (.aload_n 0, 1) := by decide +kernel
theorem dX1_thinOut_79 : decode cX1_thinOut 79 = .ok (.getfield 12, 3) := by decide +kernel
theorem dX1_thinOut_82 : decode cX1_thinOut 82 = .ok (.getfield 69, 3) := by decide +kernel
theorem dX1_thinOut_85 : decode cX1_thinOut 85 = .ok (.invokestatic 132, 3) := by decide +kernel
theorem dX1_thinOut_88 : decode cX1_thinOut 88 = .ok (.isub, 1) := by decide +kernel
theorem dX1_thinOut_89 : decode cX1_thinOut 89 = .ok (.ireturn, 1) := by decide +kernel
set_option maxRecDepth 20000 in
theorem ggX1_tryRules_X1_stepOn : GoodIn wsX1_tryRules wsX1_stepOn := goodIn_r _ [13, 14, 15, 16, 12, 17, 8, 18, 19, 20, 21, 22, 23, 24, 25, 26, 27, 28, 29, 30, 31, 32, 33, 34, 35, 36, 37, 1, 38, 39, 40, 41, 42, 43, 44, 45, 46, 47, 48, 49, 50, 51, 52, 53, 2, 54, 55, 56, 57, 58, 59, 60, 61, 62, 63, 64, 65, 66, 67, 68, 69, 70, 71, 72, 73, 74, 75, 76, 77, 78, 79, 80, 81, 82, 83, 84, 85, 86, 87, 88, 89, 90, 91, 92, 93, 94, 95, 96, 97, 98, 99, 100, 101, 102, 103, 104, 105, 106, 107, 108, 109, 110, 111, 112, 113, 114, 115, 116, 117, 118, 119, 120, 121, 122, 123, 124, 125, 126, 127, 128, 129, 130, 131, 132, 133, 134, 135, 136, 199, 200, 201, 202, 203, 204, 205, 206, 207, 213, 214, 215, 216, 217, 218, 219, 220, 208, 209, 210, 211, 212, 221, 222, 223, 224] (by decide +kernel) (by decide +kernel)
set_option maxRecDepth 20000 in
theorem gX1_tryRules_X1_stepOn : GoodIn wsX1_tryRules (wsV RX1 150 RX1 yX1_stepOn wsX1_stepOn) := goodIn_app (goodIn_of _ (by decide +kernel)) ggX1_tryRules_X1_stepOn
set_option maxRecDepth 20000 in
theorem ggX1_tryRules_X1_thinOut : GoodIn wsX1_tryRules wsX1_thinOut := goodIn_r _ [140, 1, 2, 8, 38, 141, 112, 113, 114, 142, 143, 144, 145, 146, 147, 21, 148, 23, 28, 111, 149, 150, 151, 152, 66, 153, 45, 46, 47, 48, 49, 103, 104, 105, 12, 106, 54, 107, 108, 109, 110, 115, 116, 117, 118, 119, 120, 121, 122, 123, 124, 25, 26, 27, 125, 126, 127, 128, 67, 129, 130, 131, 132, 133, 134, 135, 71, 136, 79, 73, 199, 200, 201, 202, 203, 204, 205, 206, 207, 208, 209, 210, 211, 212, 213, 214, 215, 216, 217, 218, 219, 220, 221, 222, 223, 224] (by decide +kernel) (by decide +kernel)
set_option maxRecDepth 20000 in
theorem gX1_tryRules_X1_thinOut : GoodIn wsX1_tryRules (wsV RX1 153 RX1 yX1_thinOut wsX1_thinOut) := goodIn_app (goodIn_of _ (by decide +kernel)) ggX1_tryRules_X1_thinOut
set_option maxRecDepth 20000 in
theorem ggX1_tryRules_X5_countThin : GoodIn wsX1_tryRules wsX5_countThin := goodIn_r _ [157, 124, 25, 26, 21, 27, 23, 28, 213, 214, 215, 216, 217, 218, 219, 220] (by decide +kernel) (by decide +kernel)
set_option maxRecDepth 20000 in
theorem gX1_tryRules_X5_countThin : GoodIn wsX1_tryRules (wsV RX1 156 RX5 yX5_countThin wsX5_countThin) := goodIn_app (goodIn_of _ (by decide +kernel)) ggX1_tryRules_X5_countThin
set_option maxRecDepth 20000 in
theorem ggX1_tryRules_X6_total : GoodIn wsX1_tryRules wsX6_total := goodIn_r _ [144] (by decide +kernel) (by decide +kernel)
set_option maxRecDepth 20000 in
theorem gX1_tryRules_X6_total_n132 : GoodIn wsX1_tryRules (wsX6_total) := ggX1_tryRules_X6_total
set_option maxRecDepth 20000 in
theorem ggX1_tryRules_X1_rate : GoodIn wsX1_tryRules wsX1_rate := goodIn_r _ [161, 162, 163, 164, 199, 200, 201, 202, 203, 204, 205, 206, 207] (by decide +kernel) (by decide +kernel)
set_option maxRecDepth 20000 in
theorem gX1_tryRules_X1_rate : GoodIn wsX1_tryRules (wsV RX1 159 RX1 yX1_rate wsX1_rate) := goodIn_app (goodIn_of _ (by decide +kernel)) ggX1_tryRules_X1_rate
set_option maxRecDepth 20000 in
theorem ggX1_tryRules_X1_measure : GoodIn wsX1_tryRules wsX1_measure := goodIn_r _ [168, 8, 1, 54, 169, 170, 171, 21, 172, 122, 123, 66, 23, 173, 174, 175, 176, 177, 178, 179, 180, 48, 49, 181, 182, 183, 184, 185, 186, 95, 96, 58, 97, 61, 98, 124, 25, 26, 27, 28, 129, 130, 131, 132, 125, 126, 127, 128, 67, 187, 188, 189, 71, 190, 73, 80, 191, 79, 192, 193, 194, 195, 196, 197, 198, 134, 135, 136, 199, 200, 201, 202, 203, 204, 205, 206, 207, 213, 214, 215, 216, 217, 218, 219, 220, 208, 209, 210, 211, 212, 221, 222, 223, 224] (by decide +kernel) (by decide +kernel)
set_option maxRecDepth 20000 in
theorem gX1_tryRules_X1_measure : GoodIn wsX1_tryRules (wsV RX1 163 RX1 yX1_measure wsX1_measure) := goodIn_app (goodIn_of _ (by decide +kernel)) ggX1_tryRules_X1_measure
theorem dX1_tryRules_0 : decode cX1_tryRules 0 = .ok (.aload_n 0, 1) := by decide +kernel
theorem dX1_tryRules_1 : decode cX1_tryRules 1 = .ok (.getfield 12, 3) := by decide +kernel
theorem dX1_tryRules_4 : decode cX1_tryRules 4 = .ok (.getfield 69, 3) := by decide +kernel
theorem dX1_tryRules_7 : decode cX1_tryRules 7 = .ok (.iconst 0, 1) := by decide +kernel
theorem dX1_tryRules_8 : decode cX1_tryRules 8 = .ok (.aload_n 0, 1) := by decide +kernel
theorem dX1_tryRules_9 : decode cX1_tryRules 9 = .ok (.getfield 46, 3) := by decide +kernel
theorem dX1_tryRules_12 : decode cX1_tryRules 12 = .ok (.iconst 0, 1) := by decide +kernel
theorem dX1_tryRules_13 : decode cX1_tryRules 13 = .ok (.bipush 80, 2) := by decide +kernel
theorem dX1_tryRules_15 : decode cX1_tryRules 15 = .ok (.invokestatic 144, 3) := by decide +kernel
theorem dX1_tryRules_18 : decode cX1_tryRules 18 = .ok (.iconst 0, 1) := by decide +kernel
theorem dX1_tryRules_19 : decode cX1_tryRules 19 = .ok (.istore_n 1, 1) := by decide +kernel
theorem dX1_tryRules_20 : decode cX1_tryRules 20 = .ok (.iload_n 1, 1) := by decide +kernel
theorem dX1_tryRules_21 : decode cX1_tryRules 21 = .ok (.iconst 5, 1) := by decide +kernel
theorem dX1_tryRules_22 : decode cX1_tryRules 22 = .ok (.if_icmp .ge 66, 3) := by decide +kernel
theorem dX1_tryRules_25 : decode cX1_tryRules 25 = .ok (.aload_n 0, 1) := by decide +kernel
theorem dX1_tryRules_26 : decode cX1_tryRules 26 = .ok (.iload_n 1, 1) := by decide +kernel
theorem dX1_tryRules_27 : decode cX1_tryRules 27 = .ok (.bipush 40, 2) := by decide +kernel
theorem dX1_tryRules_29 : decode cX1_tryRules 29 = .ok (.invokevirtual 150, 3) := by decide +kernel
theorem dX1_tryRules_32 : decode cX1_tryRules 32 = .ok (.pop, 1) := by decide +kernel
theorem dX1_tryRules_33 : decode cX1_tryRules 33 = .ok (.aload_n 0, 1) := by decide +kernel
theorem dX1_tryRules_34 : decode cX1_tryRules 34 = .ok (.invokevirtual 153, 3) := by decide +kernel
theorem dX1_tryRules_37 : decode cX1_tryRules 37 = .ok (.pop, 1) := by decide +kernel
theorem dX1_tryRules_38 : decode cX1_tryRules 38 = .ok (.aload_n 0, 1) := by decide +kernel
theorem dX1_tryRules_39 : decode cX1_tryRules 39 = .ok (.iload_n 1, 1) := by decide +kernel
theorem dX1_tryRules_40 : decode cX1_tryRules 40 = .ok (.aload_n 0, 1) := by decide +kernel
theorem dX1_tryRules_41 : decode cX1_tryRules 41 = .ok (.getfield 21, 3) := by decide +kernel
theorem dX1_tryRules_44 : decode cX1_tryRules 44 = .ok (.invokevirtual 156, 3) := by decide +kernel
theorem dX1_tryRules_47 : decode cX1_tryRules 47 = .ok (.aload_n 0, 1) := by decide +kernel
theorem dX1_tryRules_48 : decode cX1_tryRules 48 = .ok (.getfield 12, 3) := by decide +kernel
theorem dX1_tryRules_51 : decode cX1_tryRules 51 = .ok (.getfield 69, 3) := by decide +kernel
theorem dX1_tryRules_54 : decode cX1_tryRules 54 = .ok (.invokestatic 132, 3) := by decide +kernel
theorem dX1_tryRules_57 : decode cX1_tryRules 57 = .ok (.invokevirtual 159, 3) := by decide +kernel
theorem dX1_tryRules_60 : decode cX1_tryRules 60 = .ok (.aload_n 0, 1) := by decide +kernel
theorem dX1_tryRules_61 : decode cX1_tryRules 61 = .ok (.getfield 46, 3) := by decide +kernel
theorem dX1_tryRules_64 : decode cX1_tryRules 64 = .ok (.iconst 0, 1) := by decide +kernel
theorem dX1_tryRules_65 : decode cX1_tryRules 65 = .ok (.aload_n 0, 1) := by decide +kernel
theorem dX1_tryRules_66 : decode cX1_tryRules 66 = .ok (.getfield 12, 3) := by decide +kernel
theorem dX1_tryRules_69 : decode cX1_tryRules 69 = .ok (.getfield 69, 3) := by decide +kernel
theorem dX1_tryRules_72 : decode cX1_tryRules 72 = .ok (.iconst 0, 1) := by decide +kernel
theorem dX1_tryRules_73 : decode cX1_tryRules 73 = .ok (.bipush 80, 2) := by decide +kernel
theorem dX1_tryRules_75 : decode cX1_tryRules 75 = .ok (.invokestatic 144, 3) := by decide +kernel
theorem dX1_tryRules_78 : decode cX1_tryRules 78 = .ok (.aload_n 0, 1) := by decide +kernel
theorem dX1_tryRules_79 : decode cX1_tryRules 79 = .ok (.invokevirtual 163, 3) := by decide +kernel
theorem dX1_tryRules_82 : decode cX1_tryRules 82 = .ok (.iinc 1 1, 3) := by decide +kernel
theorem dX1_tryRules_85 : decode cX1_tryRules 85 = .ok (.goto (-65), 3) := by decide +kernel
theorem dX1_tryRules_88 : decode cX1_tryRules 88 = .ok (.return_, 1) := by decide +kernel
theorem dX1_rate_0 : decode cX1_rate 0 = .ok (.iload_n 1, 1) := by decide +kernel
theorem dX1_rate_1 : decode cX1_rate 1 = .ok (.ifCond .eq 27, 3) := by decide +kernel
theorem dX1_rate_4 : decode cX1_rate 4 = .ok (.iload_n 2, 1) := by decide +kernel
theorem dX1_rate_5 : decode cX1_rate 5 = .ok (.aload_n 0, 1) := by decide +kernel
theorem dX1_rate_6 : decode cX1_rate 6 = .ok (.getfield 36, 3) := by decide +kernel
theorem dX1_rate_9 : decode cX1_rate 9 = .ok (.if_icmp .lt 19, 3) := by decide +kernel
theorem dX1_rate_12 : decode cX1_rate 12 = .ok (.iload_n 2, 1) := by decide +kernel
theorem dX1_rate_13 : decode cX1_rate 13 = .ok (.aload_n 0, 1) := by decide +kernel
theorem dX1_rate_14 : decode cX1_rate 14 = .ok (.getfield 36, 3) := by decide +kernel
theorem dX1_rate_17 : decode cX1_rate 17 = .ok (.if_icmp .ne 26, 3) := by decide +kernel
theorem dX1_rate_20 : decode cX1_rate 20 = .ok (.iload_n 3, 1) := by decide +kernel
theorem dX1_rate_21 : decode cX1_rate 21 = .ok (.aload_n 0, 1) := by decide +kernel
theorem dX1_rate_22 : decode cX1_rate 22 = .ok (.getfield 39, 3) := by decide +kernel
theorem dX1_rate_25 : decode cX1_rate 25 = .ok (.if_icmp .ge 18, 3) := by decide +kernel
theorem dX1_rate_28 : decode cX1_rate 28 = .ok (.aload_n 0, 1) := by decide +kernel
theorem dX1_rate_29 : decode cX1_rate 29 = .ok (.iload_n 1, 1) := by decide +kernel
theorem dX1_rate_30 : decode cX1_rate 30 = .ok (.putfield 32, 3) := by decide +kernel
theorem dX1_rate_33 : decode cX1_rate 33 = .ok (.aload_n 0, 1) := by decide +kernel
theorem dX1_rate_34 : decode cX1_rate 34 = .ok (.iload_n 2, 1) := by decide +kernel
theorem dX1_rate_35 : decode cX1_rate 35 = .ok (.putfield 36, 3) := by decide +kernel
theorem dX1_rate_38 : decode cX1_rate 38 = .ok (.aload_n 0, 1) := by decide +kernel
theorem dX1_rate_39 : decode cX1_rate 39 = .ok (.iload_n 3, 1) := by decide +kernel
theorem dX1_rate_40 : decode cX1_rate 40 = .ok (.putfield 39, 3) := by decide +kernel
theorem dX1_rate_43 : decode cX1_rate 43 = .ok (.return_, 1) := by decide +kernel
set_option maxRecDepth 20000 in
theorem ggX1_leastInRow_X1_stretch : GoodIn wsX1_leastInRow wsX1_stretch := goodIn_r _ [19, 8, 9, 3, 20, 21, 22, 23, 24, 25, 26, 27, 28, 34, 35, 36, 37, 38, 39, 40, 41] (by decide +kernel) (by decide +kernel)
set_option maxRecDepth 20000 in
theorem gX1_leastInRow_X1_stretch : GoodIn wsX1_leastInRow (wsV RX1 171 RX1 yX1_stretch wsX1_stretch) := goodIn_app (goodIn_of _ (by decide +kernel)) ggX1_leastInRow_X1_stretch
theorem dX1_leastInRow_0 : decode cX1_leastInRow 0 = .ok (.aload_n 0, 1) := by decide +kernel
theorem dX1_leastInRow_1 : decode cX1_leastInRow 1 = .ok (.getfield 12, 3) := by decide +kernel
theorem dX1_leastInRow_4 : decode cX1_leastInRow 4 = .ok (.getfield 165, 3) := by decide +kernel
theorem dX1_leastInRow_7 : decode cX1_leastInRow 7 = .ok (.bipush 10, 2) := by decide +kernel
theorem dX1_leastInRow_9 : decode cX1_leastInRow 9 = .ok (.iload_n 1, 1) := by decide +kernel
theorem dX1_leastInRow_10 : decode cX1_leastInRow 10 = .ok (.imul, 1) := by decide +kernel
theorem dX1_leastInRow_11 : decode cX1_leastInRow 11 = .ok (.aload_n 0, 1) := by decide +kernel
theorem dX1_leastInRow_12 : decode cX1_leastInRow 12 = .ok (.getfield 50, 3) := by decide +kernel
theorem dX1_leastInRow_15 : decode cX1_leastInRow 15 = .ok (.iconst 0, 1) := by decide +kernel
theorem dX1_leastInRow_16 : decode cX1_leastInRow 16 = .ok (.bipush 10, 2) := by decide +kernel
theorem dX1_leastInRow_18 : decode cX1_leastInRow 18 = .ok (.invokestatic 144, 3) := by decide +kernel
theorem dX1_leastInRow_21 : decode cX1_leastInRow 21 = .ok (.iconst 0, 1) := by decide +kernel
theorem dX1_leastInRow_22 : decode cX1_leastInRow 22 = .ok (.istore_n 3, 1) := by decide +kernel
theorem dX1_leastInRow_23 : decode cX1_leastInRow 23 = .ok (.aload_n 0, 1) := by decide +kernel
theorem dX1_leastInRow_24 : decode cX1_leastInRow 24 = .ok (.getfield 21, 3) := by decide +kernel
theorem dX1_leastInRow_27 : decode cX1_leastInRow 27 = .ok (.getfield 168, 3) := by decide +kernel
theorem dX1_leastInRow_30 : decode cX1_leastInRow 30 = .ok (.iconst 1, 1) := by decide +kernel
theorem dX1_leastInRow_31 : decode cX1_leastInRow 31 = .ok (.isub, 1) := by decide +kernel
theorem dX1_leastInRow_32 : decode cX1_leastInRow 32 = .ok (.istore 4, 2) := by decide +kernel
theorem dX1_leastInRow_34 : decode cX1_leastInRow 34 = .ok (.iload 4, 2) := by decide +kernel
theorem dX1_leastInRow_36 : decode cX1_leastInRow 36 = .ok (.bipush 10, 2) := by decide +kernel
theorem dX1_leastInRow_38 : decode cX1_leastInRow 38 = .ok (.if_icmp .ge 123, 3) := by decide +kernel
theorem dX1_leastInRow_41 : decode cX1_leastInRow 41 = .ok (.iload_n 2, 1) := by decide +kernel
theorem dX1_leastInRow_42 : decode cX1_leastInRow 42 = .ok (.aload_n 0, 1) := by decide +kernel
theorem dX1_leastInRow_43 : decode cX1_leastInRow 43 = .ok (.iload 4, 2) := by decide +kernel
theorem dX1_leastInRow_45 : decode cX1_leastInRow 45 = .ok (.invokevirtual 171, 3) := by decide +kernel
theorem dX1_leastInRow_48 : decode cX1_leastInRow 48 = .ok (.isub, 1) := by decide +kernel
theorem dX1_leastInRow_49 : decode cX1_leastInRow 49 = .ok (.istore 5, 2) := by decide +kernel
theorem dX1_leastInRow_51 : decode cX1_leastInRow 51 = .ok (.iload 4, 2) := by decide +kernel
theorem dX1_leastInRow_53 : decode cX1_leastInRow 53 = .ok (.istore 6, 2) := by decide +kernel
theorem dX1_leastInRow_55 : decode cX1_leastInRow 55 = .ok (.iload 6, 2) := by decide +kernel
theorem dX1_leastInRow_57 : decode cX1_leastInRow 57 = .ok (.iload 4, 2) := by decide +kernel
theorem dX1_leastInRow_59 : decode cX1_leastInRow 59 = .ok (.aload_n 0, 1) := by decide +kernel
theorem dX1_leastInRow_60 : decode cX1_leastInRow 60 = .ok (.getfield 21, 3) := by decide +kernel
theorem dX1_leastInRow_63 : decode cX1_leastInRow 63 = .ok (.getfield 168, 3) := by decide +kernel
theorem dX1_leastInRow_66 : decode cX1_leastInRow 66 = .ok (.isub, 1) := by decide +kernel
theorem dX1_leastInRow_67 : decode cX1_leastInRow 67 = .ok (.if_icmp .le 81, 3) := by decide +kernel
theorem dX1_leastInRow_70 : decode cX1_leastInRow 70 = .ok (.iload 5, 2) := by decide +kernel
theorem dX1_leastInRow_72 : decode cX1_leastInRow 72 = .ok (.ifCond .le 76, 3) := by decide +kernel
theorem dX1_leastInRow_75 : decode cX1_leastInRow 75 = .ok (.aload_n 0, 1) := by decide +kernel
theorem dX1_leastInRow_76 : decode cX1_leastInRow 76 = .ok (.getfield 12, 3) := by decide +kernel
theorem dX1_leastInRow_79 : decode cX1_leastInRow 79 = .ok (.getfield 174, 3) := by decide +kernel
theorem dX1_leastInRow_82 : decode cX1_leastInRow 82 = .ok (.bipush 10, 2) := by decide +kernel
theorem dX1_leastInRow_84 : decode cX1_leastInRow 84 = .ok (.iload_n 1, 1) := by decide +kernel
theorem dX1_leastInRow_85 : decode cX1_leastInRow 85 = .ok (.imul, 1) := by decide +kernel
theorem dX1_leastInRow_86 : decode cX1_leastInRow 86 = .ok (.iload 6, 2) := by decide +kernel
theorem dX1_leastInRow_88 : decode cX1_leastInRow 88 = .ok (.iadd, 1) := by decide +kernel
theorem dX1_leastInRow_89 : decode cX1_leastInRow 89 = .ok (.iaload, 1) := by decide +kernel
theorem dX1_leastInRow_90 : decode cX1_leastInRow 90 = .ok (.ifCond .eq 7, 3) := by decide +kernel
theorem dX1_leastInRow_93 : decode cX1_leastInRow 93 = .ok (.iconst 0, 1) := by decide +kernel
theorem dX1_leastInRow_94 : decode cX1_leastInRow 94 = .ok (.goto 13, 3) := by decide +kernel
theorem dX1_leastInRow_97 : decode cX1_leastInRow 97 = .ok (.bipush 9, 2) := by decide +kernel
theorem dX1_leastInRow_99 : decode cX1_leastInRow 99 = .ok (.aload_n 0, 1) := by decide +kernel
theorem dX1_leastInRow_100 : decode cX1_leastInRow 100 = .ok (.getfield 50, 3) := by decide +kernel
theorem dX1_leastInRow_103 : decode cX1_leastInRow 103 = .ok (.iload 6, 2) := by decide +kernel
theorem dX1_leastInRow_105 : decode cX1_leastInRow 105 = .ok (.iaload, 1) := by decide +kernel
theorem dX1_leastInRow_106 : decode cX1_leastInRow 106 = .ok (.isub, 1) := by decide +kernel
theorem dX1_leastInRow_107 : decode cX1_leastInRow 107 = .ok (.istore 7, 2) := by decide +kernel
theorem dX1_leastInRow_109 : decode cX1_leastInRow 109 = .ok (.iload 7, 2) := by decide +kernel
theorem dX1_leastInRow_111 : decode cX1_leastInRow 111 = .ok (.iload 5, 2) := by decide +kernel
theorem dX1_leastInRow_113 : decode cX1_leastInRow 113 = .ok (.invokestatic 139, 3) := by decide +kernel
theorem dX1_leastInRow_116 : decode cX1_leastInRow 116 = .ok (.istore 8, 2) := by decide +kernel
theorem dX1_leastInRow_118 : decode cX1_leastInRow 118 = .ok (.aload_n 0, 1) := by decide +kernel
theorem dX1_leastInRow_119 : decode cX1_leastInRow 119 = .ok (.getfield 50, 3) := by decide +kernel
theorem dX1_leastInRow_122 : decode cX1_leastInRow 122 = .ok (.iload 6, 2) := by decide +kernel
theorem dX1_leastInRow_124 : decode cX1_leastInRow 124 = .ok (.dup2, 1) := by decide +kernel
theorem dX1_leastInRow_125 : decode cX1_leastInRow 125 = .ok (.iaload, 1) := by decide +kernel
theorem dX1_leastInRow_126 : decode cX1_leastInRow 126 = .ok (.iload 8, 2) := by decide +kernel
theorem dX1_leastInRow_128 : decode cX1_leastInRow 128 = .ok (.iadd, 1) := by decide +kernel
theorem dX1_leastInRow_129 : decode cX1_leastInRow 129 = .ok (.iastore, 1) := by decide +kernel
theorem dX1_leastInRow_130 : decode cX1_leastInRow 130 = .ok (.iload 5, 2) := by decide +kernel
theorem dX1_leastInRow_132 : decode cX1_leastInRow 132 = .ok (.iload 8, 2) := by decide +kernel
theorem dX1_leastInRow_134 : decode cX1_leastInRow 134 = .ok (.isub, 1) := by decide +kernel
theorem dX1_leastInRow_135 : decode cX1_leastInRow 135 = .ok (.istore 5, 2) := by decide +kernel
theorem dX1_leastInRow_137 : decode cX1_leastInRow 137 = .ok (.iload_n 3, 1) := by decide +kernel
theorem dX1_leastInRow_138 : decode cX1_leastInRow 138 = .ok (.iload 8, 2) := by decide +kernel
theorem dX1_leastInRow_140 : decode cX1_leastInRow 140 = .ok (.iadd, 1) := by decide +kernel
theorem dX1_leastInRow_141 : decode cX1_leastInRow 141 = .ok (.istore_n 3, 1) := by decide +kernel
theorem dX1_leastInRow_142 : decode cX1_leastInRow 142 = .ok (.iinc 6 (-1), 3) := by decide +kernel
theorem dX1_leastInRow_145 : decode cX1_leastInRow 145 = .ok (.goto (-90), 3) := by decide +kernel
theorem dX1_leastInRow_148 : decode cX1_leastInRow 148 = .ok (.iload 5, 2) := by decide +kernel
theorem dX1_leastInRow_150 : decode cX1_leastInRow 150 = .ok (.ifCond .le 5, 3) := by decide +kernel
theorem dX1_leastInRow_153 : decode cX1_leastInRow 153 = .ok (.iconst (-1), 1) := by decide +kernel
theorem dX1_leastInRow_154 : decode cX1_leastInRow 154 = .ok (.ireturn, 1) := by decide +kernel
theorem dX1_leastInRow_155 : decode cX1_leastInRow 155 = .ok (.iinc 4 1, 3) := by decide +kernel
theorem dX1_leastInRow_158 : decode cX1_leastInRow 158 = .ok (.goto (-124), 3) := by decide +kernel
theorem dX1_leastInRow_161 : decode cX1_leastInRow 161 = .ok (.iload_n 3, 1) := by decide +kernel
theorem dX1_leastInRow_162 : decode cX1_leastInRow 162 = .ok (.ireturn, 1) := by decide +kernel
theorem dX1_stretch_0 : decode cX1_stretch 0 = .ok (.iconst 0, 1) := by decide +kernel
theorem dX1_stretch_1 : decode cX1_stretch 1 = .ok (.istore_n 2, 1) := by decide +kernel
theorem dX1_stretch_2 : decode cX1_stretch 2 = .ok (.iload_n 1, 1) := by decide +kernel
theorem dX1_stretch_3 : decode cX1_stretch 3 = .ok (.istore_n 3, 1) := by decide +kernel
theorem dX1_stretch_4 : decode cX1_stretch 4 = .ok (.iload_n 3, 1) := by decide +kernel
theorem dX1_stretch_5 : decode cX1_stretch 5 = .ok (.iload_n 1, 1) := by decide +kernel
theorem dX1_stretch_6 : decode cX1_stretch 6 = .ok (.aload_n 0, 1) := by decide +kernel
theorem dX1_stretch_7 : decode cX1_stretch 7 = .ok (.getfield 21, 3) := by decide +kernel
theorem dX1_stretch_10 : decode cX1_stretch 10 = .ok (.getfield 168, 3) := by decide +kernel
theorem dX1_stretch_13 : decode cX1_stretch 13 = .ok (.isub, 1) := by decide +kernel
theorem dX1_stretch_14 : decode cX1_stretch 14 = .ok (.if_icmp .le 18, 3) := by decide +kernel
theorem dX1_stretch_17 : decode cX1_stretch 17 = .ok (.iload_n 2, 1) := by decide +kernel
theorem dX1_stretch_18 : decode cX1_stretch 18 = .ok (.aload_n 0, 1) := by decide +kernel
theorem dX1_stretch_19 : decode cX1_stretch 19 = .ok (.getfield 50, 3) := by decide +kernel
theorem dX1_stretch_22 : decode cX1_stretch 22 = .ok (.iload_n 3, 1) := by decide +kernel
theorem dX1_stretch_23 : decode cX1_stretch 23 = .ok (.iaload, 1) := by decide +kernel
theorem dX1_stretch_24 : decode cX1_stretch 24 = .ok (.iadd, 1) := by decide +kernel
theorem dX1_stretch_25 : decode cX1_stretch 25 = .ok (.istore_n 2, 1) := by decide +kernel
theorem dX1_stretch_26 : decode cX1_stretch 26 = .ok (.iinc 3 (-1), 3) := by decide +kernel
theorem dX1_stretch_29 : decode cX1_stretch 29 = .ok (.goto (-25), 3) := by decide +kernel
theorem dX1_stretch_32 : decode cX1_stretch 32 = .ok (.iload_n 2, 1) := by decide +kernel
theorem dX1_stretch_33 : decode cX1_stretch 33 = .ok (.ireturn, 1) := by decide +kernel
set_option maxRecDepth 20000 in
theorem ggX6_init_X1_init : GoodIn wsX6_init wsX1_init := goodIn_r _ [23, 24, 2, 3, 25, 26, 27, 28, 29, 30, 31, 32, 33, 34, 35, 36, 37, 38, 39, 40, 41, 16, 42, 43, 44, 45, 46, 47, 48, 49, 50, 51, 52, 53, 54, 55, 56, 57, 58, 59, 60, 61, 62, 63, 64, 65, 66, 67, 68, 69, 166, 167, 168, 169, 170, 145, 146, 147, 148, 149, 150, 151, 152, 153, 171, 172, 173, 174, 175, 176, 177, 178, 179, 180, 181, 182] (by decide +kernel) (by decide +kernel)
set_option maxRecDepth 20000 in
theorem gX6_init_X1_init_n9 : GoodIn wsX6_init (wsX1_init) := ggX6_init_X1_init
set_option maxRecDepth 20000 in
theorem ggX6_init_X2_init : GoodIn wsX6_init wsX2_init := goodIn_r _ [71, 72, 2, 3, 73, 74, 16, 75, 161, 162, 163] (by decide +kernel) (by decide +kernel)
set_option maxRecDepth 20000 in
theorem gX6_init_X2_init_n18 : GoodIn wsX6_init (wsX2_init) := ggX6_init_X2_init
set_option maxRecDepth 20000 in
theorem ggX6_init_X4_init : GoodIn wsX6_init wsX4_init := goodIn_r _ [77, 78, 2, 3, 79, 16, 80, 164, 165] (by decide +kernel) (by decide +kernel)
set_option maxRecDepth 20000 in
theorem gX6_init_X4_init_n25 : GoodIn wsX6_init (wsX4_init) := ggX6_init_X4_init
set_option maxRecDepth 20000 in
theorem ggX6_init_X6_useSettings : GoodIn wsX6_init wsX6_useSettings := goodIn_r _ [85, 7, 86, 17, 87, 88, 89, 90, 91, 92, 93, 94, 95, 6, 96, 32, 28, 36, 97, 98, 99, 31, 100, 60, 61, 62, 59, 101, 102, 103, 104, 105, 106, 107, 108, 55, 56, 109, 110, 111, 112, 113, 114, 115, 116, 27, 117, 47, 51, 118, 119, 120, 121, 57, 122, 123, 124, 125, 126, 127, 128, 129, 58, 130, 131, 132, 35, 133, 67, 69, 134, 68, 135, 136, 137, 138, 139, 140, 141, 142, 143, 144, 154, 155, 156, 157, 158, 159, 160, 145, 146, 147, 148, 149, 150, 151, 152, 153, 171, 172, 173, 174, 175, 176, 177, 178, 179, 180, 181, 182, 166, 167, 168, 169, 170] (by decide +kernel) (by decide +kernel)
set_option maxRecDepth 20000 in
theorem gX6_init_X6_useSettings : GoodIn wsX6_init (wsV RX6 47 RX6 yX6_useSettings wsX6_useSettings) := goodIn_app (goodIn_of _ (by decide +kernel)) ggX6_init_X6_useSettings
theorem dX6_init_0 : decode cX6_init 0 = .ok (.aload_n 0, 1) := by decide +kernel
theorem dX6_init_1 : decode cX6_init 1 = .ok (.invokespecial 1, 3) := by decide +kernel
theorem dX6_init_4 : decode cX6_init 4 = .ok (.aload_n 0, 1) := by decide +kernel
theorem dX6_init_5 : decode cX6_init 5 = .ok (.new 7, 3) := by decide +kernel
theorem dX6_init_8 : decode cX6_init 8 = .ok (.dup, 1) := by decide +kernel
theorem dX6_init_9 : decode cX6_init 9 = .ok (.invokespecial 9, 3) := by decide +kernel
theorem dX6_init_12 : decode cX6_init 12 = .ok (.putfield 10, 3) := by decide +kernel
theorem dX6_init_15 : decode cX6_init 15 = .ok (.aload_n 0, 1) := by decide +kernel
theorem dX6_init_16 : decode cX6_init 16 = .ok (.new 16, 3) := by decide +kernel
theorem dX6_init_19 : decode cX6_init 19 = .ok (.dup, 1) := by decide +kernel
theorem dX6_init_20 : decode cX6_init 20 = .ok (.invokespecial 18, 3) := by decide +kernel
theorem dX6_init_23 : decode cX6_init 23 = .ok (.putfield 19, 3) := by decide +kernel
theorem dX6_init_26 : decode cX6_init 26 = .ok (.aload_n 0, 1) := by decide +kernel
theorem dX6_init_27 : decode cX6_init 27 = .ok (.new 23, 3) := by decide +kernel
theorem dX6_init_30 : decode cX6_init 30 = .ok (.dup, 1) := by decide +kernel
theorem dX6_init_31 : decode cX6_init 31 = .ok (.invokespecial 25, 3) := by decide +kernel
theorem dX6_init_34 : decode cX6_init 34 = .ok (.putfield 26, 3) := by decide +kernel
theorem dX6_init_37 : decode cX6_init 37 = .ok (.aload_n 0, 1) := by decide +kernel
theorem dX6_init_38 : decode cX6_init 38 = .ok (.bipush 8, 2) := by decide +kernel
theorem dX6_init_40 : decode cX6_init 40 = .ok (.newarray .int, 2) := by decide +kernel
theorem dX6_init_42 : decode cX6_init 42 = .ok (.putfield 30, 3) := by decide +kernel
theorem dX6_init_45 : decode cX6_init 45 = .ok (.aload_n 0, 1) := by decide +kernel
theorem dX6_init_46 : decode cX6_init 46 = .ok (.iconst 0, 1) := by decide +kernel
theorem dX6_init_47 : decode cX6_init 47 = .ok (.putfield 34, 3) := by decide +kernel
theorem dX6_init_50 : decode cX6_init 50 = .ok (.aload_n 0, 1) := by decide +kernel
theorem dX6_init_51 : decode cX6_init 51 = .ok (.iconst 0, 1) := by decide +kernel
theorem dX6_init_52 : decode cX6_init 52 = .ok (.putfield 38, 3) := by decide +kernel
theorem dX6_init_55 : decode cX6_init 55 = .ok (.aload_n 0, 1) := by decide +kernel
theorem dX6_init_56 : decode cX6_init 56 = .ok (.iconst 0, 1) := by decide +kernel
theorem dX6_init_57 : decode cX6_init 57 = .ok (.putfield 41, 3) := by decide +kernel
theorem dX6_init_60 : decode cX6_init 60 = .ok (.iconst 0, 1) := by decide +kernel
theorem dX6_init_61 : decode cX6_init 61 = .ok (.istore_n 1, 1) := by decide +kernel
theorem dX6_init_62 : decode cX6_init 62 = .ok (.iload_n 1, 1) := by decide +kernel
theorem dX6_init_63 : decode cX6_init 63 = .ok (.bipush 8, 2) := by decide +kernel
theorem dX6_init_65 : decode cX6_init 65 = .ok (.if_icmp .ge 20, 3) := by decide +kernel
theorem dX6_init_68 : decode cX6_init 68 = .ok (.aload_n 0, 1) := by decide +kernel
theorem dX6_init_69 : decode cX6_init 69 = .ok (.getfield 30, 3) := by decide +kernel
theorem dX6_init_72 : decode cX6_init 72 = .ok (.iload_n 1, 1) := by decide +kernel
theorem dX6_init_73 : decode cX6_init 73 = .ok (.getstatic 44, 3) := by decide +kernel
theorem dX6_init_76 : decode cX6_init 76 = .ok (.iload_n 1, 1) := by decide +kernel
theorem dX6_init_77 : decode cX6_init 77 = .ok (.iaload, 1) := by decide +kernel
theorem dX6_init_78 : decode cX6_init 78 = .ok (.iastore, 1) := by decide +kernel
theorem dX6_init_79 : decode cX6_init 79 = .ok (.iinc 1 1, 3) := by decide +kernel
theorem dX6_init_82 : decode cX6_init 82 = .ok (.goto (-20), 3) := by decide +kernel
theorem dX6_init_85 : decode cX6_init 85 = .ok (.aload_n 0, 1) := by decide +kernel
theorem dX6_init_86 : decode cX6_init 86 = .ok (.invokevirtual 47, 3) := by decide +kernel
theorem dX6_init_89 : decode cX6_init 89 = .ok (.return_, 1) := by decide +kernel
set_option maxRecDepth 20000 in
theorem ggX6_sets_X6_isCell : GoodIn wsX6_sets wsX6_isCell := goodIn_r _ [8, 9, 10, 7, 11] (by decide +kernel) (by decide +kernel)
set_option maxRecDepth 20000 in
theorem gX6_sets_X6_isCell : GoodIn wsX6_sets (va_wsS RX6 50 yX6_isCell wsX6_isCell) := goodIn_app (goodIn_of _ (by decide +kernel)) ggX6_sets_X6_isCell
set_option maxRecDepth 20000 in
theorem ggX6_sets_X6_isIn : GoodIn wsX6_sets wsX6_isIn := goodIn_r _ [11] (by decide +kernel) (by decide +kernel)
set_option maxRecDepth 20000 in
theorem gX6_sets_X6_isIn : GoodIn wsX6_sets (va_wsS RX6 54 yX6_isIn wsX6_isIn) := goodIn_app (goodIn_of _ (by decide +kernel)) ggX6_sets_X6_isIn
set_option maxRecDepth 20000 in
theorem ggX6_sets_X6_refuse : GoodIn wsX6_sets wsX6_refuse := goodIn_r _ [15, 16, 17, 18, 134, 135, 136, 137, 138, 139, 140] (by decide +kernel) (by decide +kernel)
set_option maxRecDepth 20000 in
theorem gX6_sets_X6_refuse : GoodIn wsX6_sets (wsV RX6 61 RX6 yX6_refuse wsX6_refuse) := goodIn_app (goodIn_of _ (by decide +kernel)) ggX6_sets_X6_refuse
set_option maxRecDepth 20000 in
theorem ggX6_sets_X2_note : GoodIn wsX6_sets wsX2_note := goodIn_r _ [23, 24, 25, 26, 27, 28, 22, 29, 30, 31, 32, 33, 34, 35, 36, 37, 38, 39, 40, 150, 151, 152, 153, 154, 155, 156, 157] (by decide +kernel) (by decide +kernel)
set_option maxRecDepth 20000 in
theorem gX6_sets_X2_note : GoodIn wsX6_sets (wsV RX6 69 RX2 yX2_note wsX2_note) := goodIn_app (goodIn_of _ (by decide +kernel)) ggX6_sets_X2_note
set_option maxRecDepth 20000 in
theorem ggX6_sets_X0_part : GoodIn wsX6_sets wsX0_part := goodIn_r _ [44, 36, 38, 39, 40, 37, 153, 154, 155, 156, 157] (by decide +kernel) (by decide +kernel)
set_option maxRecDepth 20000 in
theorem gX6_sets_X0_part : GoodIn wsX6_sets (wsV RX6 73 RX0 yX0_part wsX0_part) := goodIn_app (goodIn_of _ (by decide +kernel)) ggX6_sets_X0_part
set_option maxRecDepth 20000 in
theorem ggX6_sets_X0_settle : GoodIn wsX6_sets wsX0_settle := goodIn_r _ [48, 37, 49, 50, 51, 52, 53, 54, 55, 34, 56, 38, 36, 57, 58, 59, 60, 40, 153, 154, 155, 156, 157] (by decide +kernel) (by decide +kernel)
set_option maxRecDepth 20000 in
theorem gX6_sets_X0_settle : GoodIn wsX6_sets (wsV RX6 79 RX0 yX0_settle wsX0_settle) := goodIn_app (goodIn_of _ (by decide +kernel)) ggX6_sets_X0_settle
set_option maxRecDepth 20000 in
theorem ggX6_sets_X1_measure : GoodIn wsX6_sets wsX1_measure := goodIn_r _ [65, 66, 67, 68, 69, 70, 71, 72, 73, 74, 75, 76, 77, 78, 79, 80, 81, 82, 83, 84, 85, 86, 87, 88, 89, 90, 91, 92, 93, 94, 95, 34, 96, 36, 37, 97, 98, 99, 100, 101, 102, 103, 104, 105, 106, 107, 108, 109, 110, 111, 112, 113, 114, 115, 116, 117, 118, 119, 120, 121, 122, 123, 124, 125, 126, 127, 128, 129, 141, 142, 143, 144, 145, 146, 147, 148, 149, 158, 159, 160, 161, 162, 163, 164, 165, 153, 154, 155, 156, 157, 166, 167, 168, 169] (by decide +kernel) (by decide +kernel)
set_option maxRecDepth 20000 in
theorem gX6_sets_X1_measure : GoodIn wsX6_sets (wsV RX6 82 RX1 yX1_measure wsX1_measure) := goodIn_app (goodIn_of _ (by decide +kernel)) ggX6_sets_X1_measure
set_option maxRecDepth 20000 in
theorem ggX6_sets_X2_keep : GoodIn wsX6_sets wsX2_keep := goodIn_r _ [133, 24, 30, 150, 151, 152] (by decide +kernel) (by decide +kernel)
set_option maxRecDepth 20000 in
theorem gX6_sets_X2_keep : GoodIn wsX6_sets (wsV RX6 85 RX2 yX2_keep wsX2_keep) := goodIn_app (goodIn_of _ (by decide +kernel)) ggX6_sets_X2_keep
theorem dX6_sets_0 : decode cX6_sets 0 = .ok (.iload_n 1, 1) := by decide +kernel
theorem dX6_sets_1 : decode cX6_sets 1 = .ok (.invokestatic 50, 3) := by decide +kernel
theorem dX6_sets_4 : decode cX6_sets 4 = .ok (.ifCond .eq 25, 3) := by decide +kernel
theorem dX6_sets_7 : decode cX6_sets 7 = .ok (.iload_n 2, 1) := by decide +kernel
theorem dX6_sets_8 : decode cX6_sets 8 = .ok (.iconst 0, 1) := by decide +kernel
theorem dX6_sets_9 : decode cX6_sets 9 = .ok (.iconst 3, 1) := by decide +kernel
theorem dX6_sets_10 : decode cX6_sets 10 = .ok (.invokestatic 54, 3) := by decide +kernel
theorem dX6_sets_13 : decode cX6_sets 13 = .ok (.ifCond .eq 16, 3) := by decide +kernel
theorem dX6_sets_16 : decode cX6_sets 16 = .ok (.iload_n 3, 1) := by decide +kernel
theorem dX6_sets_17 : decode cX6_sets 17 = .ok (.iconst 0, 1) := by decide +kernel
theorem dX6_sets_18 : decode cX6_sets 18 = .ok (.getstatic 58, 3) := by decide +kernel
theorem dX6_sets_21 : decode cX6_sets 21 = .ok (.iload_n 2, 1) := by decide +kernel
theorem dX6_sets_22 : decode cX6_sets 22 = .ok (.iaload, 1) := by decide +kernel
theorem dX6_sets_23 : decode cX6_sets 23 = .ok (.invokestatic 54, 3) := by decide +kernel
theorem dX6_sets_26 : decode cX6_sets 26 = .ok (.ifCond .ne 10, 3) := by decide +kernel
theorem dX6_sets_29 : decode cX6_sets 29 = .ok (.aload_n 0, 1) := by decide +kernel
theorem dX6_sets_30 : decode cX6_sets 30 = .ok (.bipush (-2), 2) := by decide +kernel
theorem dX6_sets_32 : decode cX6_sets 32 = .ok (.invokevirtual 61, 3) := by decide +kernel
theorem dX6_sets_35 : decode cX6_sets 35 = .ok (.ireturn, 1) := by decide +kernel
theorem dX6_sets_36 : decode cX6_sets 36 = .ok (.aload_n 0, 1) := by decide +kernel
theorem dX6_sets_37 : decode cX6_sets 37 = .ok (.getfield 19, 3) := by decide +kernel
theorem dX6_sets_40 : decode cX6_sets 40 = .ok (.aload_n 0, 1) := by decide +kernel
theorem dX6_sets_41 : decode cX6_sets 41 = .ok (.getfield 10, 3) := by decide +kernel
theorem dX6_sets_44 : decode cX6_sets 44 = .ok (.getfield 65, 3) := by decide +kernel
theorem dX6_sets_47 : decode cX6_sets 47 = .ok (.invokevirtual 69, 3) := by decide +kernel
theorem dX6_sets_50 : decode cX6_sets 50 = .ok (.aload_n 0, 1) := by decide +kernel
theorem dX6_sets_51 : decode cX6_sets 51 = .ok (.getfield 10, 3) := by decide +kernel
theorem dX6_sets_54 : decode cX6_sets 54 = .ok (.getfield 65, 3) := by decide +kernel
theorem dX6_sets_57 : decode cX6_sets 57 = .ok (.iload_n 2, 1) := by decide +kernel
theorem dX6_sets_58 : decode cX6_sets 58 = .ok (.invokevirtual 73, 3) := by decide +kernel
theorem dX6_sets_61 : decode cX6_sets 61 = .ok (.astore 4, 2) := by decide +kernel
theorem dX6_sets_63 : decode cX6_sets 63 = .ok (.aload 4, 2) := by decide +kernel
theorem dX6_sets_65 : decode cX6_sets 65 = .ok (.iload_n 1, 1) := by decide +kernel
theorem dX6_sets_66 : decode cX6_sets 66 = .ok (.iaload, 1) := by decide +kernel
theorem dX6_sets_67 : decode cX6_sets 67 = .ok (.istore 5, 2) := by decide +kernel
theorem dX6_sets_69 : decode cX6_sets 69 = .ok (.aload 4, 2) := by decide +kernel
theorem dX6_sets_71 : decode cX6_sets 71 = .ok (.iload_n 1, 1) := by decide +kernel
theorem dX6_sets_72 : decode cX6_sets 72 = .ok (.iload_n 3, 1) := by decide +kernel
theorem dX6_sets_73 : decode cX6_sets 73 = .ok (.iastore, 1) := by decide +kernel
theorem dX6_sets_74 : decode cX6_sets 74 = .ok (.aload_n 0, 1) := by decide +kernel
theorem dX6_sets_75 : decode cX6_sets 75 = .ok (.getfield 10, 3) := by decide +kernel
theorem dX6_sets_78 : decode cX6_sets 78 = .ok (.getfield 65, 3) := by decide +kernel
theorem dX6_sets_81 : decode cX6_sets 81 = .ok (.invokevirtual 79, 3) := by decide +kernel
theorem dX6_sets_84 : decode cX6_sets 84 = .ok (.aload_n 0, 1) := by decide +kernel
theorem dX6_sets_85 : decode cX6_sets 85 = .ok (.getfield 10, 3) := by decide +kernel
theorem dX6_sets_88 : decode cX6_sets 88 = .ok (.invokevirtual 82, 3) := by decide +kernel
theorem dX6_sets_91 : decode cX6_sets 91 = .ok (.aload_n 0, 1) := by decide +kernel
theorem dX6_sets_92 : decode cX6_sets 92 = .ok (.getfield 19, 3) := by decide +kernel
theorem dX6_sets_95 : decode cX6_sets 95 = .ok (.invokevirtual 85, 3) := by decide +kernel
theorem dX6_sets_98 : decode cX6_sets 98 = .ok (.iload 5, 2) := by decide +kernel
theorem dX6_sets_100 : decode cX6_sets 100 = .ok (.ireturn, 1) := by decide +kernel
set_option maxRecDepth 20000 in
theorem ggX6_draw_X6_isIn : GoodIn wsX6_draw wsX6_isIn := goodIn_r _ [10] (by decide +kernel) (by decide +kernel)
set_option maxRecDepth 20000 in
theorem gX6_draw_X6_isIn : GoodIn wsX6_draw (va_wsS RX6 54 yX6_isIn wsX6_isIn) := goodIn_app (goodIn_of _ (by decide +kernel)) ggX6_draw_X6_isIn
set_option maxRecDepth 20000 in
theorem ggX6_draw_X6_refuse : GoodIn wsX6_draw wsX6_refuse := goodIn_r _ [14, 15, 16, 17, 129, 130, 131, 132, 133, 134, 135] (by decide +kernel) (by decide +kernel)
set_option maxRecDepth 20000 in
theorem gX6_draw_X6_refuse : GoodIn wsX6_draw (wsV RX6 61 RX6 yX6_refuse wsX6_refuse) := goodIn_app (goodIn_of _ (by decide +kernel)) ggX6_draw_X6_refuse
set_option maxRecDepth 20000 in
theorem ggX6_draw_X2_note : GoodIn wsX6_draw wsX2_note := goodIn_r _ [22, 23, 24, 25, 26, 27, 21, 28, 29, 30, 31, 32, 33, 34, 35, 36, 37, 38, 39, 150, 151, 152, 145, 146, 147, 148, 149] (by decide +kernel) (by decide +kernel)
set_option maxRecDepth 20000 in
theorem gX6_draw_X2_note : GoodIn wsX6_draw (wsV RX6 69 RX2 yX2_note wsX2_note) := goodIn_app (goodIn_of _ (by decide +kernel)) ggX6_draw_X2_note
set_option maxRecDepth 20000 in
theorem ggX6_draw_X0_drawShapes : GoodIn wsX6_draw wsX0_drawShapes := goodIn_r _ [43, 44, 45, 46, 47, 48, 49, 50, 35, 51, 145, 146, 147, 148, 149] (by decide +kernel) (by decide +kernel)
set_option maxRecDepth 20000 in
theorem gX6_draw_X0_drawShapes : GoodIn wsX6_draw (wsV RX6 89 RX0 yX0_drawShapes wsX0_drawShapes) := goodIn_app (goodIn_of _ (by decide +kernel)) ggX6_draw_X0_drawShapes
set_option maxRecDepth 20000 in
theorem ggX6_draw_J7_fill_53178 : GoodIn wsX6_draw wsJ7_fill_53178 := goodIn_r _ [55] (by decide +kernel) (by decide +kernel)
set_option maxRecDepth 20000 in
theorem gX6_draw_J7_fill_53178 : GoodIn wsX6_draw (va_wsS RX6 96 yJ7_fill_53178 wsJ7_fill_53178) := goodIn_app (goodIn_of _ (by decide +kernel)) ggX6_draw_J7_fill_53178
set_option maxRecDepth 20000 in
theorem ggX6_draw_X1_measure : GoodIn wsX6_draw wsX1_measure := goodIn_r _ [60, 61, 62, 63, 64, 65, 66, 67, 68, 69, 70, 71, 72, 73, 53, 54, 55, 74, 75, 76, 77, 78, 79, 80, 81, 82, 83, 84, 85, 86, 87, 33, 88, 35, 36, 89, 90, 91, 92, 93, 94, 95, 96, 97, 98, 99, 100, 101, 102, 103, 104, 105, 106, 107, 108, 109, 110, 111, 112, 113, 114, 115, 116, 117, 118, 119, 120, 121, 136, 137, 138, 139, 140, 141, 142, 143, 144, 153, 154, 155, 156, 157, 158, 159, 160, 145, 146, 147, 148, 149, 161, 162, 163, 164] (by decide +kernel) (by decide +kernel)
set_option maxRecDepth 20000 in
theorem gX6_draw_X1_measure : GoodIn wsX6_draw (wsV RX6 82 RX1 yX1_measure wsX1_measure) := goodIn_app (goodIn_of _ (by decide +kernel)) ggX6_draw_X1_measure
set_option maxRecDepth 20000 in
theorem ggX6_draw_X2_keep : GoodIn wsX6_draw wsX2_keep := goodIn_r _ [125, 23, 29, 150, 151, 152] (by decide +kernel) (by decide +kernel)
set_option maxRecDepth 20000 in
theorem gX6_draw_X2_keep : GoodIn wsX6_draw (wsV RX6 85 RX2 yX2_keep wsX2_keep) := goodIn_app (goodIn_of _ (by decide +kernel)) ggX6_draw_X2_keep
set_option maxRecDepth 20000 in
theorem ggX6_draw_X6_total : GoodIn wsX6_draw wsX6_total := goodIn_r _ [128] (by decide +kernel) (by decide +kernel)
set_option maxRecDepth 20000 in
theorem gX6_draw_X6_total : GoodIn wsX6_draw (va_wsS RX6 104 yX6_total wsX6_total) := goodIn_app (goodIn_of _ (by decide +kernel)) ggX6_draw_X6_total
theorem dX6_draw_0 : decode cX6_draw 0 = .ok (.iload_n 1, 1) := by decide +kernel
theorem dX6_draw_1 : decode cX6_draw 1 = .ok (.iconst 0, 1) := by decide +kernel
theorem dX6_draw_2 : decode cX6_draw 2 = .ok (.ldc 88, 2) := by decide +kernel
theorem dX6_draw_4 : decode cX6_draw 4 = .ok (.invokestatic 54, 3) := by decide +kernel
theorem dX6_draw_7 : decode cX6_draw 7 = .ok (.ifCond .eq 13, 3) := by decide +kernel
theorem dX6_draw_10 : decode cX6_draw 10 = .ok (.iload_n 2, 1) := by decide +kernel
theorem dX6_draw_11 : decode cX6_draw 11 = .ok (.iconst 0, 1) := by decide +kernel
theorem dX6_draw_12 : decode cX6_draw 12 = .ok (.bipush 9, 2) := by decide +kernel
theorem dX6_draw_14 : decode cX6_draw 14 = .ok (.invokestatic 54, 3) := by decide +kernel
theorem dX6_draw_17 : decode cX6_draw 17 = .ok (.ifCond .ne 10, 3) := by decide +kernel
theorem dX6_draw_20 : decode cX6_draw 20 = .ok (.aload_n 0, 1) := by decide +kernel
theorem dX6_draw_21 : decode cX6_draw 21 = .ok (.bipush (-2), 2) := by decide +kernel
theorem dX6_draw_23 : decode cX6_draw 23 = .ok (.invokevirtual 61, 3) := by decide +kernel
theorem dX6_draw_26 : decode cX6_draw 26 = .ok (.ireturn, 1) := by decide +kernel
theorem dX6_draw_27 : decode cX6_draw 27 = .ok (.aload_n 0, 1) := by decide +kernel
theorem dX6_draw_28 : decode cX6_draw 28 = .ok (.getfield 19, 3) := by decide +kernel
theorem dX6_draw_31 : decode cX6_draw 31 = .ok (.aload_n 0, 1) := by decide +kernel
theorem dX6_draw_32 : decode cX6_draw 32 = .ok (.getfield 10, 3) := by decide +kernel
theorem dX6_draw_35 : decode cX6_draw 35 = .ok (.getfield 65, 3) := by decide +kernel
theorem dX6_draw_38 : decode cX6_draw 38 = .ok (.invokevirtual 69, 3) := by decide +kernel
theorem dX6_draw_41 : decode cX6_draw 41 = .ok (.aload_n 0, 1) := by decide +kernel
theorem dX6_draw_42 : decode cX6_draw 42 = .ok (.getfield 10, 3) := by decide +kernel
theorem dX6_draw_45 : decode cX6_draw 45 = .ok (.getfield 65, 3) := by decide +kernel
theorem dX6_draw_48 : decode cX6_draw 48 = .ok (.iload_n 1, 1) := by decide +kernel
theorem dX6_draw_49 : decode cX6_draw 49 = .ok (.iload_n 2, 1) := by decide +kernel
theorem dX6_draw_50 : decode cX6_draw 50 = .ok (.invokevirtual 89, 3) := by decide +kernel
theorem dX6_draw_53 : decode cX6_draw 53 = .ok (.aload_n 0, 1) := by decide +kernel
theorem dX6_draw_54 : decode cX6_draw 54 = .ok (.getfield 10, 3) := by decide +kernel
theorem dX6_draw_57 : decode cX6_draw 57 = .ok (.getfield 65, 3) := by decide +kernel
theorem dX6_draw_60 : decode cX6_draw 60 = .ok (.getfield 93, 3) := by decide +kernel
theorem dX6_draw_63 : decode cX6_draw 63 = .ok (.iconst 0, 1) := by decide +kernel
theorem dX6_draw_64 : decode cX6_draw 64 = .ok (.invokestatic 96, 3) := by decide +kernel
theorem dX6_draw_67 : decode cX6_draw 67 = .ok (.aload_n 0, 1) := by decide +kernel
theorem dX6_draw_68 : decode cX6_draw 68 = .ok (.getfield 10, 3) := by decide +kernel
theorem dX6_draw_71 : decode cX6_draw 71 = .ok (.invokevirtual 82, 3) := by decide +kernel
theorem dX6_draw_74 : decode cX6_draw 74 = .ok (.aload_n 0, 1) := by decide +kernel
theorem dX6_draw_75 : decode cX6_draw 75 = .ok (.getfield 19, 3) := by decide +kernel
theorem dX6_draw_78 : decode cX6_draw 78 = .ok (.invokevirtual 85, 3) := by decide +kernel
theorem dX6_draw_81 : decode cX6_draw 81 = .ok (.aload_n 0, 1) := by decide +kernel
theorem dX6_draw_82 : decode cX6_draw 82 = .ok (.getfield 10, 3) := by decide +kernel
theorem dX6_draw_85 : decode cX6_draw 85 = .ok (.getfield 65, 3) := by decide +kernel
theorem dX6_draw_88 : decode cX6_draw 88 = .ok (.getfield 101, 3) := by decide +kernel
theorem dX6_draw_91 : decode cX6_draw 91 = .ok (.invokestatic 104, 3) := by decide +kernel
theorem dX6_draw_94 : decode cX6_draw 94 = .ok (.ireturn, 1) := by decide +kernel
set_option maxRecDepth 20000 in
theorem ggX6_empties_X2_note : GoodIn wsX6_empties wsX2_note := goodIn_r _ [9, 10, 11, 12, 13, 14, 8, 15, 16, 17, 18, 19, 20, 21, 22, 23, 24, 25, 26, 126, 127, 128, 121, 122, 123, 124, 125] (by decide +kernel) (by decide +kernel)
set_option maxRecDepth 20000 in
theorem gX6_empties_X2_note : GoodIn wsX6_empties (wsV RX6 69 RX2 yX2_note wsX2_note) := goodIn_app (goodIn_of _ (by decide +kernel)) ggX6_empties_X2_note
set_option maxRecDepth 20000 in
theorem ggX6_empties_X6_total : GoodIn wsX6_empties wsX6_total := goodIn_r _ [30] (by decide +kernel) (by decide +kernel)
set_option maxRecDepth 20000 in
theorem gX6_empties_X6_total : GoodIn wsX6_empties (va_wsS RX6 104 yX6_total wsX6_total) := goodIn_app (goodIn_of _ (by decide +kernel)) ggX6_empties_X6_total
set_option maxRecDepth 20000 in
theorem ggX6_empties_J7_fill_53178 : GoodIn wsX6_empties wsJ7_fill_53178 := goodIn_r _ [34] (by decide +kernel) (by decide +kernel)
set_option maxRecDepth 20000 in
theorem gX6_empties_J7_fill_53178 : GoodIn wsX6_empties (va_wsS RX6 96 yJ7_fill_53178 wsJ7_fill_53178) := goodIn_app (goodIn_of _ (by decide +kernel)) ggX6_empties_J7_fill_53178
set_option maxRecDepth 20000 in
theorem ggX6_empties_X1_measure : GoodIn wsX6_empties wsX1_measure := goodIn_r _ [39, 40, 41, 42, 43, 44, 45, 46, 47, 48, 49, 50, 51, 52, 32, 33, 34, 53, 54, 55, 56, 57, 58, 59, 60, 61, 62, 63, 64, 65, 66, 20, 67, 22, 23, 68, 69, 70, 71, 72, 73, 74, 75, 76, 77, 78, 79, 80, 81, 82, 83, 84, 85, 86, 87, 88, 89, 90, 91, 92, 93, 94, 95, 96, 97, 98, 99, 100, 112, 113, 114, 115, 116, 117, 118, 119, 120, 129, 130, 131, 132, 133, 134, 135, 136, 121, 122, 123, 124, 125, 137, 138, 139, 140] (by decide +kernel) (by decide +kernel)
set_option maxRecDepth 20000 in
theorem gX6_empties_X1_measure : GoodIn wsX6_empties (wsV RX6 82 RX1 yX1_measure wsX1_measure) := goodIn_app (goodIn_of _ (by decide +kernel)) ggX6_empties_X1_measure
set_option maxRecDepth 20000 in
theorem ggX6_empties_X2_keep : GoodIn wsX6_empties wsX2_keep := goodIn_r _ [104, 10, 16, 126, 127, 128] (by decide +kernel) (by decide +kernel)
set_option maxRecDepth 20000 in
theorem gX6_empties_X2_keep : GoodIn wsX6_empties (wsV RX6 85 RX2 yX2_keep wsX2_keep) := goodIn_app (goodIn_of _ (by decide +kernel)) ggX6_empties_X2_keep
theorem dX6_empties_0 : decode cX6_empties 0 = .ok (.aload_n 0, 1) := by decide +kernel
theorem dX6_empties_1 : decode cX6_empties 1 = .ok (.getfield 19, 3) := by decide +kernel
theorem dX6_empties_4 : decode cX6_empties 4 = .ok (.aload_n 0, 1) := by decide +kernel
theorem dX6_empties_5 : decode cX6_empties 5 = .ok (.getfield 10, 3) := by decide +kernel
theorem dX6_empties_8 : decode cX6_empties 8 = .ok (.getfield 65, 3) := by decide +kernel
theorem dX6_empties_11 : decode cX6_empties 11 = .ok (.invokevirtual 69, 3) := by decide +kernel
theorem dX6_empties_14 : decode cX6_empties 14 = .ok (.aload_n 0, 1) := by decide +kernel
theorem dX6_empties_15 : decode cX6_empties 15 = .ok (.getfield 10, 3) := by decide +kernel
theorem dX6_empties_18 : decode cX6_empties 18 = .ok (.getfield 65, 3) := by decide +kernel
theorem dX6_empties_21 : decode cX6_empties 21 = .ok (.getfield 93, 3) := by decide +kernel
theorem dX6_empties_24 : decode cX6_empties 24 = .ok (.invokestatic 104, 3) := by decide +kernel
theorem dX6_empties_27 : decode cX6_empties 27 = .ok (.istore_n 1, 1) := by decide +kernel
theorem dX6_empties_28 : decode cX6_empties 28 = .ok (.aload_n 0, 1) := by decide +kernel
theorem dX6_empties_29 : decode cX6_empties 29 = .ok (.getfield 10, 3) := by decide +kernel
theorem dX6_empties_32 : decode cX6_empties 32 = .ok (.getfield 65, 3) := by decide +kernel
theorem dX6_empties_35 : decode cX6_empties 35 = .ok (.getfield 93, 3) := by decide +kernel
theorem dX6_empties_38 : decode cX6_empties 38 = .ok (.iconst 0, 1) := by decide +kernel
theorem dX6_empties_39 : decode cX6_empties 39 = .ok (.invokestatic 96, 3) := by decide +kernel
theorem dX6_empties_42 : decode cX6_empties 42 = .ok (.aload_n 0, 1) := by decide +kernel
theorem dX6_empties_43 : decode cX6_empties 43 = .ok (.getfield 10, 3) := by decide +kernel
theorem dX6_empties_46 : decode cX6_empties 46 = .ok (.invokevirtual 82, 3) := by decide +kernel
theorem dX6_empties_49 : decode cX6_empties 49 = .ok (.aload_n 0, 1) := by decide +kernel
theorem dX6_empties_50 : decode cX6_empties 50 = .ok (.getfield 19, 3) := by decide +kernel
theorem dX6_empties_53 : decode cX6_empties 53 = .ok (.invokevirtual 85, 3) := by decide +kernel
theorem dX6_empties_56 : decode cX6_empties 56 = .ok (.iload_n 1, 1) := by decide +kernel
theorem dX6_empties_57 : decode cX6_empties 57 = .ok (.ireturn, 1) := by decide +kernel
set_option maxRecDepth 20000 in
theorem ggX6_rules_X6_isIn : GoodIn wsX6_rules wsX6_isIn := goodIn_r _ [7] (by decide +kernel) (by decide +kernel)
set_option maxRecDepth 20000 in
theorem gX6_rules_X6_isIn : GoodIn wsX6_rules (va_wsS RX6 54 yX6_isIn wsX6_isIn) := goodIn_app (goodIn_of _ (by decide +kernel)) ggX6_rules_X6_isIn
set_option maxRecDepth 20000 in
theorem ggX6_rules_X6_refuse : GoodIn wsX6_rules wsX6_refuse := goodIn_r _ [11, 12, 13, 14, 99, 100, 101, 102, 103, 104, 105] (by decide +kernel) (by decide +kernel)
set_option maxRecDepth 20000 in
theorem gX6_rules_X6_refuse : GoodIn wsX6_rules (wsV RX6 61 RX6 yX6_refuse wsX6_refuse) := goodIn_app (goodIn_of _ (by decide +kernel)) ggX6_rules_X6_refuse
set_option maxRecDepth 20000 in
theorem ggX6_rules_X6_useSettings : GoodIn wsX6_rules wsX6_useSettings := goodIn_r _ [18, 19, 20, 3, 21, 22, 23, 24, 25, 26, 27, 28, 29, 30, 31, 32, 33, 34, 35, 36, 37, 38, 39, 40, 41, 42, 43, 44, 45, 46, 47, 48, 49, 50, 51, 52, 53, 54, 55, 56, 57, 58, 59, 60, 61, 62, 63, 64, 65, 66, 67, 68, 69, 70, 71, 72, 73, 74, 75, 76, 77, 78, 79, 80, 81, 82, 83, 84, 85, 86, 87, 88, 89, 90, 91, 92, 93, 94, 95, 96, 97, 98, 99, 100, 101, 102, 103, 104, 105, 106, 107, 108, 109, 110, 111, 112, 113, 114, 115, 116, 117, 118, 119, 120, 121, 122, 123, 124, 125, 126, 127, 128, 129, 130, 131] (by decide +kernel) (by decide +kernel)
set_option maxRecDepth 20000 in
theorem gX6_rules_X6_useSettings : GoodIn wsX6_rules (wsV RX6 47 RX6 yX6_useSettings wsX6_useSettings) := goodIn_app (goodIn_of _ (by decide +kernel)) ggX6_rules_X6_useSettings
theorem dX6_rules_0 : decode cX6_rules 0 = .ok (.iload_n 1, 1) := by decide +kernel
theorem dX6_rules_1 : decode cX6_rules 1 = .ok (.iconst 0, 1) := by decide +kernel
theorem dX6_rules_2 : decode cX6_rules 2 = .ok (.bipush 7, 2) := by decide +kernel
theorem dX6_rules_4 : decode cX6_rules 4 = .ok (.invokestatic 54, 3) := by decide +kernel
theorem dX6_rules_7 : decode cX6_rules 7 = .ok (.ifCond .eq 20, 3) := by decide +kernel
theorem dX6_rules_10 : decode cX6_rules 10 = .ok (.iload_n 2, 1) := by decide +kernel
theorem dX6_rules_11 : decode cX6_rules 11 = .ok (.getstatic 108, 3) := by decide +kernel
theorem dX6_rules_14 : decode cX6_rules 14 = .ok (.iload_n 1, 1) := by decide +kernel
theorem dX6_rules_15 : decode cX6_rules 15 = .ok (.iaload, 1) := by decide +kernel
theorem dX6_rules_16 : decode cX6_rules 16 = .ok (.getstatic 111, 3) := by decide +kernel
theorem dX6_rules_19 : decode cX6_rules 19 = .ok (.iload_n 1, 1) := by decide +kernel
theorem dX6_rules_20 : decode cX6_rules 20 = .ok (.iaload, 1) := by decide +kernel
theorem dX6_rules_21 : decode cX6_rules 21 = .ok (.invokestatic 54, 3) := by decide +kernel
theorem dX6_rules_24 : decode cX6_rules 24 = .ok (.ifCond .ne 10, 3) := by decide +kernel
theorem dX6_rules_27 : decode cX6_rules 27 = .ok (.aload_n 0, 1) := by decide +kernel
theorem dX6_rules_28 : decode cX6_rules 28 = .ok (.bipush (-2), 2) := by decide +kernel
theorem dX6_rules_30 : decode cX6_rules 30 = .ok (.invokevirtual 61, 3) := by decide +kernel
theorem dX6_rules_33 : decode cX6_rules 33 = .ok (.ireturn, 1) := by decide +kernel
theorem dX6_rules_34 : decode cX6_rules 34 = .ok (.aload_n 0, 1) := by decide +kernel
theorem dX6_rules_35 : decode cX6_rules 35 = .ok (.getfield 30, 3) := by decide +kernel
theorem dX6_rules_38 : decode cX6_rules 38 = .ok (.iload_n 1, 1) := by decide +kernel
theorem dX6_rules_39 : decode cX6_rules 39 = .ok (.iaload, 1) := by decide +kernel
theorem dX6_rules_40 : decode cX6_rules 40 = .ok (.istore_n 3, 1) := by decide +kernel
theorem dX6_rules_41 : decode cX6_rules 41 = .ok (.aload_n 0, 1) := by decide +kernel
theorem dX6_rules_42 : decode cX6_rules 42 = .ok (.getfield 30, 3) := by decide +kernel
theorem dX6_rules_45 : decode cX6_rules 45 = .ok (.iload_n 1, 1) := by decide +kernel
theorem dX6_rules_46 : decode cX6_rules 46 = .ok (.iload_n 2, 1) := by decide +kernel
theorem dX6_rules_47 : decode cX6_rules 47 = .ok (.iastore, 1) := by decide +kernel
theorem dX6_rules_48 : decode cX6_rules 48 = .ok (.aload_n 0, 1) := by decide +kernel
theorem dX6_rules_49 : decode cX6_rules 49 = .ok (.invokevirtual 47, 3) := by decide +kernel
theorem dX6_rules_52 : decode cX6_rules 52 = .ok (.iload_n 3, 1) := by decide +kernel
theorem dX6_rules_53 : decode cX6_rules 53 = .ok (.ireturn, 1) := by decide +kernel
set_option maxRecDepth 20000 in
theorem ggX6_of_X6_isCell : GoodIn wsX6_of wsX6_isCell := goodIn_r _ [8, 9, 10, 7, 11] (by decide +kernel) (by decide +kernel)
set_option maxRecDepth 20000 in
theorem gX6_of_X6_isCell : GoodIn wsX6_of (va_wsS RX6 50 yX6_isCell wsX6_isCell) := goodIn_app (goodIn_of _ (by decide +kernel)) ggX6_of_X6_isCell
set_option maxRecDepth 20000 in
theorem ggX6_of_X6_isIn : GoodIn wsX6_of wsX6_isIn := goodIn_r _ [11] (by decide +kernel) (by decide +kernel)
set_option maxRecDepth 20000 in
theorem gX6_of_X6_isIn : GoodIn wsX6_of (va_wsS RX6 54 yX6_isIn wsX6_isIn) := goodIn_app (goodIn_of _ (by decide +kernel)) ggX6_of_X6_isIn
set_option maxRecDepth 20000 in
theorem ggX6_of_X6_refuse : GoodIn wsX6_of wsX6_refuse := goodIn_r _ [15, 16, 17, 18, 73, 74, 75, 76, 77, 78, 79] (by decide +kernel) (by decide +kernel)
set_option maxRecDepth 20000 in
theorem gX6_of_X6_refuse : GoodIn wsX6_of (wsV RX6 61 RX6 yX6_refuse wsX6_refuse) := goodIn_app (goodIn_of _ (by decide +kernel)) ggX6_of_X6_refuse
set_option maxRecDepth 20000 in
theorem ggX6_of_X1_may : GoodIn wsX6_of wsX1_may := goodIn_r _ [23, 24, 25, 26, 27, 28, 22, 29, 30, 31, 32, 33, 34, 35, 36, 37, 38, 39, 40, 41, 42, 43, 44, 45, 46, 47, 48, 49, 50, 51, 52, 53, 54, 55, 56, 57, 58, 59, 60, 61, 62, 63, 64, 65, 80, 81, 82, 83, 84, 85, 86, 87, 88, 97, 98, 99, 100, 101, 89, 90, 91, 92, 93, 94, 95, 96, 102, 103, 104, 105] (by decide +kernel) (by decide +kernel)
set_option maxRecDepth 20000 in
theorem gX6_of_X1_may : GoodIn wsX6_of (wsV RX6 114 RX1 yX1_may wsX1_may) := goodIn_app (goodIn_of _ (by decide +kernel)) ggX6_of_X1_may
set_option maxRecDepth 20000 in
theorem ggX6_of_X0_part : GoodIn wsX6_of wsX0_part := goodIn_r _ [69, 40, 39, 70, 71, 72, 97, 98, 99, 100, 101] (by decide +kernel) (by decide +kernel)
set_option maxRecDepth 20000 in
theorem gX6_of_X0_part : GoodIn wsX6_of (wsV RX6 73 RX0 yX0_part wsX0_part) := goodIn_app (goodIn_of _ (by decide +kernel)) ggX6_of_X0_part
theorem dX6_of_0 : decode cX6_of 0 = .ok (.iload_n 1, 1) := by decide +kernel
theorem dX6_of_1 : decode cX6_of 1 = .ok (.invokestatic 50, 3) := by decide +kernel
theorem dX6_of_4 : decode cX6_of 4 = .ok (.ifCond .eq 13, 3) := by decide +kernel
theorem dX6_of_7 : decode cX6_of 7 = .ok (.iload_n 2, 1) := by decide +kernel
theorem dX6_of_8 : decode cX6_of 8 = .ok (.iconst 0, 1) := by decide +kernel
theorem dX6_of_9 : decode cX6_of 9 = .ok (.bipush 6, 2) := by decide +kernel
theorem dX6_of_11 : decode cX6_of 11 = .ok (.invokestatic 54, 3) := by decide +kernel
theorem dX6_of_14 : decode cX6_of 14 = .ok (.ifCond .ne 10, 3) := by decide +kernel
theorem dX6_of_17 : decode cX6_of 17 = .ok (.aload_n 0, 1) := by decide +kernel
theorem dX6_of_18 : decode cX6_of 18 = .ok (.bipush (-2), 2) := by decide +kernel
theorem dX6_of_20 : decode cX6_of 20 = .ok (.invokevirtual 61, 3) := by decide +kernel
theorem dX6_of_23 : decode cX6_of 23 = .ok (.ireturn, 1) := by decide +kernel
theorem dX6_of_24 : decode cX6_of 24 = .ok (.iload_n 2, 1) := by decide +kernel
theorem dX6_of_25 : decode cX6_of 25 = .ok (.iconst 5, 1) := by decide +kernel
theorem dX6_of_26 : decode cX6_of 26 = .ok (.if_icmp .ne 20, 3) := by decide +kernel
theorem dX6_of_29 : decode cX6_of 29 = .ok (.aload_n 0, 1) := by decide +kernel
theorem dX6_of_30 : decode cX6_of 30 = .ok (.getfield 10, 3) := by decide +kernel
theorem dX6_of_33 : decode cX6_of 33 = .ok (.iload_n 1, 1) := by decide +kernel
theorem dX6_of_34 : decode cX6_of 34 = .ok (.invokevirtual 114, 3) := by decide +kernel
theorem dX6_of_37 : decode cX6_of 37 = .ok (.ifCond .eq 7, 3) := by decide +kernel
theorem dX6_of_40 : decode cX6_of 40 = .ok (.iconst 1, 1) := by decide +kernel
theorem dX6_of_41 : decode cX6_of 41 = .ok (.goto 4, 3) := by decide +kernel
theorem dX6_of_44 : decode cX6_of 44 = .ok (.iconst 0, 1) := by decide +kernel
theorem dX6_of_45 : decode cX6_of 45 = .ok (.ireturn, 1) := by decide +kernel
theorem dX6_of_46 : decode cX6_of 46 = .ok (.iload_n 2, 1) := by decide +kernel
theorem dX6_of_47 : decode cX6_of 47 = .ok (.bipush 6, 2) := by decide +kernel
theorem dX6_of_49 : decode cX6_of 49 = .ok (.if_icmp .ne 16, 3) := by decide +kernel
theorem dX6_of_52 : decode cX6_of 52 = .ok (.aload_n 0, 1) := by decide +kernel
theorem dX6_of_53 : decode cX6_of 53 = .ok (.getfield 10, 3) := by decide +kernel
theorem dX6_of_56 : decode cX6_of 56 = .ok (.getfield 117, 3) := by decide +kernel
theorem dX6_of_59 : decode cX6_of 59 = .ok (.getfield 121, 3) := by decide +kernel
theorem dX6_of_62 : decode cX6_of 62 = .ok (.iload_n 1, 1) := by decide +kernel
theorem dX6_of_63 : decode cX6_of 63 = .ok (.iaload, 1) := by decide +kernel
theorem dX6_of_64 : decode cX6_of 64 = .ok (.ireturn, 1) := by decide +kernel
theorem dX6_of_65 : decode cX6_of 65 = .ok (.aload_n 0, 1) := by decide +kernel
theorem dX6_of_66 : decode cX6_of 66 = .ok (.getfield 10, 3) := by decide +kernel
theorem dX6_of_69 : decode cX6_of 69 = .ok (.getfield 65, 3) := by decide +kernel
theorem dX6_of_72 : decode cX6_of 72 = .ok (.iload_n 2, 1) := by decide +kernel
theorem dX6_of_73 : decode cX6_of 73 = .ok (.invokevirtual 73, 3) := by decide +kernel
theorem dX6_of_76 : decode cX6_of 76 = .ok (.iload_n 1, 1) := by decide +kernel
theorem dX6_of_77 : decode cX6_of 77 = .ok (.iaload, 1) := by decide +kernel
theorem dX6_of_78 : decode cX6_of 78 = .ok (.ireturn, 1) := by decide +kernel
set_option maxRecDepth 20000 in
theorem ggX6_sum_X6_isCell : GoodIn wsX6_sum wsX6_isCell := goodIn_r _ [7, 8, 9, 6, 10] (by decide +kernel) (by decide +kernel)
set_option maxRecDepth 20000 in
theorem gX6_sum_X6_isCell : GoodIn wsX6_sum (va_wsS RX6 50 yX6_isCell wsX6_isCell) := goodIn_app (goodIn_of _ (by decide +kernel)) ggX6_sum_X6_isCell
set_option maxRecDepth 20000 in
theorem ggX6_sum_X6_refuse : GoodIn wsX6_sum wsX6_refuse := goodIn_r _ [14, 15, 16, 17, 18, 19, 20, 21, 22, 23, 24] (by decide +kernel) (by decide +kernel)
set_option maxRecDepth 20000 in
theorem gX6_sum_X6_refuse : GoodIn wsX6_sum (wsV RX6 61 RX6 yX6_refuse wsX6_refuse) := goodIn_app (goodIn_of _ (by decide +kernel)) ggX6_sum_X6_refuse
theorem dX6_sum_0 : decode cX6_sum 0 = .ok (.iload_n 1, 1) := by decide +kernel
theorem dX6_sum_1 : decode cX6_sum 1 = .ok (.invokestatic 50, 3) := by decide +kernel
theorem dX6_sum_4 : decode cX6_sum 4 = .ok (.ifCond .eq 18, 3) := by decide +kernel
theorem dX6_sum_7 : decode cX6_sum 7 = .ok (.aload_n 0, 1) := by decide +kernel
theorem dX6_sum_8 : decode cX6_sum 8 = .ok (.getfield 10, 3) := by decide +kernel
theorem dX6_sum_11 : decode cX6_sum 11 = .ok (.getfield 117, 3) := by decide +kernel
theorem dX6_sum_14 : decode cX6_sum 14 = .ok (.getfield 126, 3) := by decide +kernel
theorem dX6_sum_17 : decode cX6_sum 17 = .ok (.iload_n 1, 1) := by decide +kernel
theorem dX6_sum_18 : decode cX6_sum 18 = .ok (.iaload, 1) := by decide +kernel
theorem dX6_sum_19 : decode cX6_sum 19 = .ok (.goto 9, 3) := by decide +kernel
theorem dX6_sum_22 : decode cX6_sum 22 = .ok (.aload_n 0, 1) := by decide +kernel
theorem dX6_sum_23 : decode cX6_sum 23 = .ok (.bipush (-2), 2) := by decide +kernel
theorem dX6_sum_25 : decode cX6_sum 25 = .ok (.invokevirtual 61, 3) := by decide +kernel
theorem dX6_sum_28 : decode cX6_sum 28 = .ok (.ireturn, 1) := by decide +kernel
set_option maxRecDepth 20000 in
theorem ggX6_windows_X5_count : GoodIn wsX6_windows wsX5_count := goodIn_r _ [7, 8, 9, 57, 58, 59, 60, 61, 62, 63, 64] (by decide +kernel) (by decide +kernel)
set_option maxRecDepth 20000 in
theorem gX6_windows_X5_count : GoodIn wsX6_windows (wsV RX6 129 RX5 yX5_count wsX5_count) := goodIn_app (goodIn_of _ (by decide +kernel)) ggX6_windows_X5_count
set_option maxRecDepth 20000 in
theorem ggX6_windows_X5_countThin : GoodIn wsX6_windows wsX5_countThin := goodIn_r _ [13, 14, 15, 16, 6, 17, 18, 19, 57, 58, 59, 60, 61, 62, 63, 64] (by decide +kernel) (by decide +kernel)
set_option maxRecDepth 20000 in
theorem gX6_windows_X5_countThin : GoodIn wsX6_windows (wsV RX6 133 RX5 yX5_countThin wsX5_countThin) := goodIn_app (goodIn_of _ (by decide +kernel)) ggX6_windows_X5_countThin
set_option maxRecDepth 20000 in
theorem ggX6_windows_X5_countThick : GoodIn wsX6_windows wsX5_countThick := goodIn_r _ [23, 18, 24, 57, 58, 59, 60, 61, 62, 63, 64] (by decide +kernel) (by decide +kernel)
set_option maxRecDepth 20000 in
theorem gX6_windows_X5_countThick : GoodIn wsX6_windows (wsV RX6 136 RX5 yX5_countThick wsX5_countThick) := goodIn_app (goodIn_of _ (by decide +kernel)) ggX6_windows_X5_countThick
set_option maxRecDepth 20000 in
theorem ggX6_windows_X5_countUnlike : GoodIn wsX6_windows wsX5_countUnlike := goodIn_r _ [28, 29, 30, 31, 6, 32, 18, 57, 58, 59, 60, 61, 62, 63, 64] (by decide +kernel) (by decide +kernel)
set_option maxRecDepth 20000 in
theorem gX6_windows_X5_countUnlike : GoodIn wsX6_windows (wsV RX6 139 RX5 yX5_countUnlike wsX5_countUnlike) := goodIn_app (goodIn_of _ (by decide +kernel)) ggX6_windows_X5_countUnlike
set_option maxRecDepth 20000 in
theorem ggX6_windows_X6_refuse : GoodIn wsX6_windows wsX6_refuse := goodIn_r _ [37, 38, 39, 40, 41, 42, 43, 44, 45, 46, 47] (by decide +kernel) (by decide +kernel)
set_option maxRecDepth 20000 in
theorem gX6_windows_X6_refuse : GoodIn wsX6_windows (wsV RX6 61 RX6 yX6_refuse wsX6_refuse) := goodIn_app (goodIn_of _ (by decide +kernel)) ggX6_windows_X6_refuse
theorem dX6_windows_0 : decode cX6_windows 0 = .ok (.iload_n 1, 1) := by decide +kernel
theorem dX6_windows_1 : decode cX6_windows 1 = .ok (.tableswitch 75 0 3 #[31, 42, 53, 64], 31) := by decide +kernel
theorem dX6_windows_32 : decode cX6_windows 32 = .ok (.aload_n 0, 1) := by decide +kernel
theorem dX6_windows_33 : decode cX6_windows 33 = .ok (.getfield 10, 3) := by decide +kernel
theorem dX6_windows_36 : decode cX6_windows 36 = .ok (.getfield 117, 3) := by decide +kernel
theorem dX6_windows_39 : decode cX6_windows 39 = .ok (.invokevirtual 129, 3) := by decide +kernel
theorem dX6_windows_42 : decode cX6_windows 42 = .ok (.ireturn, 1) := by decide +kernel
theorem dX6_windows_43 : decode cX6_windows 43 = .ok (.aload_n 0, 1) := by decide +kernel
theorem dX6_windows_44 : decode cX6_windows 44 = .ok (.getfield 10, 3) := by decide +kernel
theorem dX6_windows_47 : decode cX6_windows 47 = .ok (.getfield 117, 3) := by decide +kernel
theorem dX6_windows_50 : decode cX6_windows 50 = .ok (.invokevirtual 133, 3) := by decide +kernel
theorem dX6_windows_53 : decode cX6_windows 53 = .ok (.ireturn, 1) := by decide +kernel
theorem dX6_windows_54 : decode cX6_windows 54 = .ok (.aload_n 0, 1) := by decide +kernel
theorem dX6_windows_55 : decode cX6_windows 55 = .ok (.getfield 10, 3) := by decide +kernel
theorem dX6_windows_58 : decode cX6_windows 58 = .ok (.getfield 117, 3) := by decide +kernel
theorem dX6_windows_61 : decode cX6_windows 61 = .ok (.invokevirtual 136, 3) := by decide +kernel
theorem dX6_windows_64 : decode cX6_windows 64 = .ok (.ireturn, 1) := by decide +kernel
theorem dX6_windows_65 : decode cX6_windows 65 = .ok (.aload_n 0, 1) := by decide +kernel
theorem dX6_windows_66 : decode cX6_windows 66 = .ok (.getfield 10, 3) := by decide +kernel
theorem dX6_windows_69 : decode cX6_windows 69 = .ok (.getfield 117, 3) := by decide +kernel
theorem dX6_windows_72 : decode cX6_windows 72 = .ok (.invokevirtual 139, 3) := by decide +kernel
theorem dX6_windows_75 : decode cX6_windows 75 = .ok (.ireturn, 1) := by decide +kernel
theorem dX6_windows_76 : decode cX6_windows 76 = .ok (.aload_n 0, 1) := by decide +kernel
theorem dX6_windows_77 : decode cX6_windows 77 = .ok (.bipush (-2), 2) := by decide +kernel
theorem dX6_windows_79 : decode cX6_windows 79 = .ok (.invokevirtual 61, 3) := by decide +kernel
theorem dX6_windows_82 : decode cX6_windows 82 = .ok (.ireturn, 1) := by decide +kernel
set_option maxRecDepth 20000 in
theorem ggX6_worst_X5_atLeast : GoodIn wsX6_worst wsX5_atLeast := goodIn_r _ [8, 9, 38, 39, 40, 41, 42, 43, 44, 45] (by decide +kernel) (by decide +kernel)
set_option maxRecDepth 20000 in
theorem gX6_worst_X5_atLeast : GoodIn wsX6_worst (wsV RX6 142 RX5 yX5_atLeast wsX5_atLeast) := goodIn_app (goodIn_of _ (by decide +kernel)) ggX6_worst_X5_atLeast
set_option maxRecDepth 20000 in
theorem ggX6_worst_X5_atGreatest : GoodIn wsX6_worst wsX5_atGreatest := goodIn_r _ [13, 9, 38, 39, 40, 41, 42, 43, 44, 45] (by decide +kernel) (by decide +kernel)
set_option maxRecDepth 20000 in
theorem gX6_worst_X5_atGreatest : GoodIn wsX6_worst (wsV RX6 145 RX5 yX5_atGreatest wsX5_atGreatest) := goodIn_app (goodIn_of _ (by decide +kernel)) ggX6_worst_X5_atGreatest
set_option maxRecDepth 20000 in
theorem ggX6_worst_X6_refuse : GoodIn wsX6_worst wsX6_refuse := goodIn_r _ [18, 19, 20, 21, 22, 23, 24, 25, 26, 27, 28] (by decide +kernel) (by decide +kernel)
set_option maxRecDepth 20000 in
theorem gX6_worst_X6_refuse : GoodIn wsX6_worst (wsV RX6 61 RX6 yX6_refuse wsX6_refuse) := goodIn_app (goodIn_of _ (by decide +kernel)) ggX6_worst_X6_refuse
theorem dX6_worst_0 : decode cX6_worst 0 = .ok (.iload_n 1, 1) := by decide +kernel
theorem dX6_worst_1 : decode cX6_worst 1 = .ok (.tableswitch 97 0 3 #[31, 42, 53, 75], 31) := by decide +kernel
theorem dX6_worst_32 : decode cX6_worst 32 = .ok (.aload_n 0, 1) := by decide +kernel
theorem dX6_worst_33 : decode cX6_worst 33 = .ok (.getfield 10, 3) := by decide +kernel
theorem dX6_worst_36 : decode cX6_worst 36 = .ok (.getfield 117, 3) := by decide +kernel
theorem dX6_worst_39 : decode cX6_worst 39 = .ok (.invokevirtual 142, 3) := by decide +kernel
theorem dX6_worst_42 : decode cX6_worst 42 = .ok (.ireturn, 1) := by decide +kernel
theorem dX6_worst_43 : decode cX6_worst 43 = .ok (.aload_n 0, 1) := by decide +kernel
theorem dX6_worst_44 : decode cX6_worst 44 = .ok (.getfield 10, 3) := by decide +kernel
theorem dX6_worst_47 : decode cX6_worst 47 = .ok (.getfield 117, 3) := by decide +kernel
theorem dX6_worst_50 : decode cX6_worst 50 = .ok (.invokevirtual 145, 3) := by decide +kernel
theorem dX6_worst_53 : decode cX6_worst 53 = .ok (.ireturn, 1) := by decide +kernel
theorem dX6_worst_54 : decode cX6_worst 54 = .ok (.aload_n 0, 1) := by decide +kernel
theorem dX6_worst_55 : decode cX6_worst 55 = .ok (.getfield 10, 3) := by decide +kernel
theorem dX6_worst_58 : decode cX6_worst 58 = .ok (.getfield 117, 3) := by decide +kernel
theorem dX6_worst_61 : decode cX6_worst 61 = .ok (.getfield 126, 3) := by decide +kernel
theorem dX6_worst_64 : decode cX6_worst 64 = .ok (.aload_n 0, 1) := by decide +kernel
theorem dX6_worst_65 : decode cX6_worst 65 = .ok (.getfield 10, 3) := by decide +kernel
theorem dX6_worst_68 : decode cX6_worst 68 = .ok (.getfield 117, 3) := by decide +kernel
theorem dX6_worst_71 : decode cX6_worst 71 = .ok (.invokevirtual 142, 3) := by decide +kernel
theorem dX6_worst_74 : decode cX6_worst 74 = .ok (.iaload, 1) := by decide +kernel
theorem dX6_worst_75 : decode cX6_worst 75 = .ok (.ireturn, 1) := by decide +kernel
theorem dX6_worst_76 : decode cX6_worst 76 = .ok (.aload_n 0, 1) := by decide +kernel
theorem dX6_worst_77 : decode cX6_worst 77 = .ok (.getfield 10, 3) := by decide +kernel
theorem dX6_worst_80 : decode cX6_worst 80 = .ok (.getfield 117, 3) := by decide +kernel
theorem dX6_worst_83 : decode cX6_worst 83 = .ok (.getfield 126, 3) := by decide +kernel
theorem dX6_worst_86 : decode cX6_worst 86 = .ok (.aload_n 0, 1) := by decide +kernel
theorem dX6_worst_87 : decode cX6_worst 87 = .ok (.getfield 10, 3) := by decide +kernel
theorem dX6_worst_90 : decode cX6_worst 90 = .ok (.getfield 117, 3) := by decide +kernel
theorem dX6_worst_93 : decode cX6_worst 93 = .ok (.invokevirtual 145, 3) := by decide +kernel
theorem dX6_worst_96 : decode cX6_worst 96 = .ok (.iaload, 1) := by decide +kernel
theorem dX6_worst_97 : decode cX6_worst 97 = .ok (.ireturn, 1) := by decide +kernel
theorem dX6_worst_98 : decode cX6_worst 98 = .ok (.aload_n 0, 1) := by decide +kernel
theorem dX6_worst_99 : decode cX6_worst 99 = .ok (.bipush (-2), 2) := by decide +kernel
theorem dX6_worst_101 : decode cX6_worst 101 = .ok (.invokevirtual 61, 3) := by decide +kernel
theorem dX6_worst_104 : decode cX6_worst 104 = .ok (.ireturn, 1) := by decide +kernel
set_option maxRecDepth 20000 in
theorem ggX6_order_X6_isIn : GoodIn wsX6_order wsX6_isIn := goodIn_r _ [6] (by decide +kernel) (by decide +kernel)
set_option maxRecDepth 20000 in
theorem gX6_order_X6_isIn : GoodIn wsX6_order (va_wsS RX6 54 yX6_isIn wsX6_isIn) := goodIn_app (goodIn_of _ (by decide +kernel)) ggX6_order_X6_isIn
set_option maxRecDepth 20000 in
theorem ggX6_order_X6_refuse : GoodIn wsX6_order wsX6_refuse := goodIn_r _ [10, 11, 12, 13, 28, 29, 30, 31, 32, 33, 34] (by decide +kernel) (by decide +kernel)
set_option maxRecDepth 20000 in
theorem gX6_order_X6_refuse : GoodIn wsX6_order (wsV RX6 61 RX6 yX6_refuse wsX6_refuse) := goodIn_app (goodIn_of _ (by decide +kernel)) ggX6_order_X6_refuse
set_option maxRecDepth 20000 in
theorem ggX6_order_X5_unlikeSum : GoodIn wsX6_order wsX5_unlikeSum := goodIn_r _ [18, 19, 20, 21, 17, 22, 23, 44, 45, 46, 47, 48, 49, 50, 51] (by decide +kernel) (by decide +kernel)
set_option maxRecDepth 20000 in
theorem gX6_order_X5_unlikeSum : GoodIn wsX6_order (wsV RX6 148 RX5 yX5_unlikeSum wsX5_unlikeSum) := goodIn_app (goodIn_of _ (by decide +kernel)) ggX6_order_X5_unlikeSum
set_option maxRecDepth 20000 in
theorem ggX6_order_X5_countOf : GoodIn wsX6_order wsX5_countOf := goodIn_r _ [27, 23, 44, 45, 46, 47, 48, 49, 50, 51] (by decide +kernel) (by decide +kernel)
set_option maxRecDepth 20000 in
theorem gX6_order_X5_countOf : GoodIn wsX6_order (wsV RX6 151 RX5 yX5_countOf wsX5_countOf) := goodIn_app (goodIn_of _ (by decide +kernel)) ggX6_order_X5_countOf
theorem dX6_order_0 : decode cX6_order 0 = .ok (.iload_n 1, 1) := by decide +kernel
theorem dX6_order_1 : decode cX6_order 1 = .ok (.ifCond .lt 12, 3) := by decide +kernel
theorem dX6_order_4 : decode cX6_order 4 = .ok (.iload_n 2, 1) := by decide +kernel
theorem dX6_order_5 : decode cX6_order 5 = .ok (.iconst 0, 1) := by decide +kernel
theorem dX6_order_6 : decode cX6_order 6 = .ok (.iconst 1, 1) := by decide +kernel
theorem dX6_order_7 : decode cX6_order 7 = .ok (.invokestatic 54, 3) := by decide +kernel
theorem dX6_order_10 : decode cX6_order 10 = .ok (.ifCond .ne 10, 3) := by decide +kernel
theorem dX6_order_13 : decode cX6_order 13 = .ok (.aload_n 0, 1) := by decide +kernel
theorem dX6_order_14 : decode cX6_order 14 = .ok (.bipush (-2), 2) := by decide +kernel
theorem dX6_order_16 : decode cX6_order 16 = .ok (.invokevirtual 61, 3) := by decide +kernel
theorem dX6_order_19 : decode cX6_order 19 = .ok (.ireturn, 1) := by decide +kernel
theorem dX6_order_20 : decode cX6_order 20 = .ok (.aload_n 0, 1) := by decide +kernel
theorem dX6_order_21 : decode cX6_order 21 = .ok (.getfield 10, 3) := by decide +kernel
theorem dX6_order_24 : decode cX6_order 24 = .ok (.getfield 117, 3) := by decide +kernel
theorem dX6_order_27 : decode cX6_order 27 = .ok (.iload_n 1, 1) := by decide +kernel
theorem dX6_order_28 : decode cX6_order 28 = .ok (.invokevirtual 148, 3) := by decide +kernel
theorem dX6_order_31 : decode cX6_order 31 = .ok (.istore_n 3, 1) := by decide +kernel
theorem dX6_order_32 : decode cX6_order 32 = .ok (.iload_n 2, 1) := by decide +kernel
theorem dX6_order_33 : decode cX6_order 33 = .ok (.ifCond .eq 8, 3) := by decide +kernel
theorem dX6_order_36 : decode cX6_order 36 = .ok (.iload_n 3, 1) := by decide +kernel
theorem dX6_order_37 : decode cX6_order 37 = .ok (.iconst (-1), 1) := by decide +kernel
theorem dX6_order_38 : decode cX6_order 38 = .ok (.if_icmp .ne 7, 3) := by decide +kernel
theorem dX6_order_41 : decode cX6_order 41 = .ok (.iload_n 3, 1) := by decide +kernel
theorem dX6_order_42 : decode cX6_order 42 = .ok (.goto 14, 3) := by decide +kernel
theorem dX6_order_45 : decode cX6_order 45 = .ok (.aload_n 0, 1) := by decide +kernel
theorem dX6_order_46 : decode cX6_order 46 = .ok (.getfield 10, 3) := by decide +kernel
theorem dX6_order_49 : decode cX6_order 49 = .ok (.getfield 117, 3) := by decide +kernel
theorem dX6_order_52 : decode cX6_order 52 = .ok (.iload_n 3, 1) := by decide +kernel
theorem dX6_order_53 : decode cX6_order 53 = .ok (.invokevirtual 151, 3) := by decide +kernel
theorem dX6_order_56 : decode cX6_order 56 = .ok (.ireturn, 1) := by decide +kernel
set_option maxRecDepth 20000 in
theorem ggX6_turn_X6_refuse : GoodIn wsX6_turn wsX6_refuse := goodIn_r _ [7, 8, 9, 10, 29, 30, 31, 32, 33, 34, 35] (by decide +kernel) (by decide +kernel)
set_option maxRecDepth 20000 in
theorem gX6_turn_X6_refuse : GoodIn wsX6_turn (wsV RX6 61 RX6 yX6_refuse wsX6_refuse) := goodIn_app (goodIn_of _ (by decide +kernel)) ggX6_turn_X6_refuse
set_option maxRecDepth 20000 in
theorem ggX6_turn_X5_rising : GoodIn wsX6_turn wsX5_rising := goodIn_r _ [15, 16, 17, 18, 14, 19, 20, 21, 22, 23, 24, 25, 26, 27, 28, 45, 46, 47, 48, 49, 50, 51, 52] (by decide +kernel) (by decide +kernel)
set_option maxRecDepth 20000 in
theorem gX6_turn_X5_rising : GoodIn wsX6_turn (wsV RX6 154 RX5 yX5_rising wsX5_rising) := goodIn_app (goodIn_of _ (by decide +kernel)) ggX6_turn_X5_rising
theorem dX6_turn_0 : decode cX6_turn 0 = .ok (.iload_n 1, 1) := by decide +kernel
theorem dX6_turn_1 : decode cX6_turn 1 = .ok (.ifCond .ge 12, 3) := by decide +kernel
theorem dX6_turn_4 : decode cX6_turn 4 = .ok (.aload_n 0, 1) := by decide +kernel
theorem dX6_turn_5 : decode cX6_turn 5 = .ok (.bipush (-2), 2) := by decide +kernel
theorem dX6_turn_7 : decode cX6_turn 7 = .ok (.invokevirtual 61, 3) := by decide +kernel
theorem dX6_turn_10 : decode cX6_turn 10 = .ok (.goto 14, 3) := by decide +kernel
theorem dX6_turn_13 : decode cX6_turn 13 = .ok (.aload_n 0, 1) := by decide +kernel
theorem dX6_turn_14 : decode cX6_turn 14 = .ok (.getfield 10, 3) := by decide +kernel
theorem dX6_turn_17 : decode cX6_turn 17 = .ok (.getfield 117, 3) := by decide +kernel
theorem dX6_turn_20 : decode cX6_turn 20 = .ok (.iload_n 1, 1) := by decide +kernel
theorem dX6_turn_21 : decode cX6_turn 21 = .ok (.invokevirtual 154, 3) := by decide +kernel
theorem dX6_turn_24 : decode cX6_turn 24 = .ok (.ireturn, 1) := by decide +kernel
set_option maxRecDepth 20000 in
theorem ggX6_burden_X6_isIn : GoodIn wsX6_burden wsX6_isIn := goodIn_r _ [7] (by decide +kernel) (by decide +kernel)
set_option maxRecDepth 20000 in
theorem gX6_burden_X6_isIn : GoodIn wsX6_burden (va_wsS RX6 54 yX6_isIn wsX6_isIn) := goodIn_app (goodIn_of _ (by decide +kernel)) ggX6_burden_X6_isIn
set_option maxRecDepth 20000 in
theorem ggX6_burden_X6_refuse : GoodIn wsX6_burden wsX6_refuse := goodIn_r _ [11, 12, 13, 14, 15, 16, 17, 18, 19, 20, 21] (by decide +kernel) (by decide +kernel)
set_option maxRecDepth 20000 in
theorem gX6_burden_X6_refuse : GoodIn wsX6_burden (wsV RX6 61 RX6 yX6_refuse wsX6_refuse) := goodIn_app (goodIn_of _ (by decide +kernel)) ggX6_burden_X6_refuse
theorem dX6_burden_0 : decode cX6_burden 0 = .ok (.iload_n 1, 1) := by decide +kernel
theorem dX6_burden_1 : decode cX6_burden 1 = .ok (.iconst 1, 1) := by decide +kernel
theorem dX6_burden_2 : decode cX6_burden 2 = .ok (.iconst 3, 1) := by decide +kernel
theorem dX6_burden_3 : decode cX6_burden 3 = .ok (.invokestatic 54, 3) := by decide +kernel
theorem dX6_burden_6 : decode cX6_burden 6 = .ok (.ifCond .eq 18, 3) := by decide +kernel
theorem dX6_burden_9 : decode cX6_burden 9 = .ok (.aload_n 0, 1) := by decide +kernel
theorem dX6_burden_10 : decode cX6_burden 10 = .ok (.getfield 10, 3) := by decide +kernel
theorem dX6_burden_13 : decode cX6_burden 13 = .ok (.getfield 157, 3) := by decide +kernel
theorem dX6_burden_16 : decode cX6_burden 16 = .ok (.getfield 161, 3) := by decide +kernel
theorem dX6_burden_19 : decode cX6_burden 19 = .ok (.iload_n 1, 1) := by decide +kernel
theorem dX6_burden_20 : decode cX6_burden 20 = .ok (.iaload, 1) := by decide +kernel
theorem dX6_burden_21 : decode cX6_burden 21 = .ok (.goto 9, 3) := by decide +kernel
theorem dX6_burden_24 : decode cX6_burden 24 = .ok (.aload_n 0, 1) := by decide +kernel
theorem dX6_burden_25 : decode cX6_burden 25 = .ok (.bipush (-2), 2) := by decide +kernel
theorem dX6_burden_27 : decode cX6_burden 27 = .ok (.invokevirtual 61, 3) := by decide +kernel
theorem dX6_burden_30 : decode cX6_burden 30 = .ok (.ireturn, 1) := by decide +kernel
set_option maxRecDepth 20000 in
theorem ggX6_all_X6_total : GoodIn wsX6_all wsX6_total := goodIn_r _ [9] (by decide +kernel) (by decide +kernel)
set_option maxRecDepth 20000 in
theorem gX6_all_X6_total : GoodIn wsX6_all (va_wsS RX6 104 yX6_total wsX6_total) := goodIn_app (goodIn_of _ (by decide +kernel)) ggX6_all_X6_total
set_option maxRecDepth 20000 in
theorem ggX6_all_X0_countFilled : GoodIn wsX6_all wsX0_countFilled := goodIn_r _ [14, 15, 39, 40, 41, 42, 43] (by decide +kernel) (by decide +kernel)
set_option maxRecDepth 20000 in
theorem gX6_all_X0_countFilled : GoodIn wsX6_all (wsV RX6 166 RX0 yX0_countFilled wsX0_countFilled) := goodIn_app (goodIn_of _ (by decide +kernel)) ggX6_all_X0_countFilled
set_option maxRecDepth 20000 in
theorem ggX6_all_X6_refuse : GoodIn wsX6_all wsX6_refuse := goodIn_r _ [19, 20, 21, 22, 23, 24, 25, 26, 27, 28, 29] (by decide +kernel) (by decide +kernel)
set_option maxRecDepth 20000 in
theorem gX6_all_X6_refuse : GoodIn wsX6_all (wsV RX6 61 RX6 yX6_refuse wsX6_refuse) := goodIn_app (goodIn_of _ (by decide +kernel)) ggX6_all_X6_refuse
theorem dX6_all_0 : decode cX6_all 0 = .ok (.iload_n 1, 1) := by decide +kernel
theorem dX6_all_1 : decode cX6_all 1 = .ok (.tableswitch 84 0 3 #[31, 45, 59, 70], 31) := by decide +kernel
theorem dX6_all_32 : decode cX6_all 32 = .ok (.aload_n 0, 1) := by decide +kernel
theorem dX6_all_33 : decode cX6_all 33 = .ok (.getfield 10, 3) := by decide +kernel
theorem dX6_all_36 : decode cX6_all 36 = .ok (.getfield 65, 3) := by decide +kernel
theorem dX6_all_39 : decode cX6_all 39 = .ok (.getfield 93, 3) := by decide +kernel
theorem dX6_all_42 : decode cX6_all 42 = .ok (.invokestatic 104, 3) := by decide +kernel
theorem dX6_all_45 : decode cX6_all 45 = .ok (.ireturn, 1) := by decide +kernel
theorem dX6_all_46 : decode cX6_all 46 = .ok (.aload_n 0, 1) := by decide +kernel
theorem dX6_all_47 : decode cX6_all 47 = .ok (.getfield 10, 3) := by decide +kernel
theorem dX6_all_50 : decode cX6_all 50 = .ok (.getfield 65, 3) := by decide +kernel
theorem dX6_all_53 : decode cX6_all 53 = .ok (.getfield 101, 3) := by decide +kernel
theorem dX6_all_56 : decode cX6_all 56 = .ok (.invokestatic 104, 3) := by decide +kernel
theorem dX6_all_59 : decode cX6_all 59 = .ok (.ireturn, 1) := by decide +kernel
theorem dX6_all_60 : decode cX6_all 60 = .ok (.aload_n 0, 1) := by decide +kernel
theorem dX6_all_61 : decode cX6_all 61 = .ok (.getfield 10, 3) := by decide +kernel
theorem dX6_all_64 : decode cX6_all 64 = .ok (.getfield 65, 3) := by decide +kernel
theorem dX6_all_67 : decode cX6_all 67 = .ok (.invokevirtual 166, 3) := by decide +kernel
theorem dX6_all_70 : decode cX6_all 70 = .ok (.ireturn, 1) := by decide +kernel
theorem dX6_all_71 : decode cX6_all 71 = .ok (.aload_n 0, 1) := by decide +kernel
theorem dX6_all_72 : decode cX6_all 72 = .ok (.getfield 10, 3) := by decide +kernel
theorem dX6_all_75 : decode cX6_all 75 = .ok (.getfield 65, 3) := by decide +kernel
theorem dX6_all_78 : decode cX6_all 78 = .ok (.getfield 169, 3) := by decide +kernel
theorem dX6_all_81 : decode cX6_all 81 = .ok (.invokestatic 104, 3) := by decide +kernel
theorem dX6_all_84 : decode cX6_all 84 = .ok (.ireturn, 1) := by decide +kernel
theorem dX6_all_85 : decode cX6_all 85 = .ok (.aload_n 0, 1) := by decide +kernel
theorem dX6_all_86 : decode cX6_all 86 = .ok (.bipush (-2), 2) := by decide +kernel
theorem dX6_all_88 : decode cX6_all 88 = .ok (.invokevirtual 61, 3) := by decide +kernel
theorem dX6_all_91 : decode cX6_all 91 = .ok (.ireturn, 1) := by decide +kernel
set_option maxRecDepth 20000 in
theorem ggX6_more_X6_isCell : GoodIn wsX6_more wsX6_isCell := goodIn_r _ [5, 6, 7, 4, 8] (by decide +kernel) (by decide +kernel)
set_option maxRecDepth 20000 in
theorem gX6_more_X6_isCell : GoodIn wsX6_more (va_wsS RX6 50 yX6_isCell wsX6_isCell) := goodIn_app (goodIn_of _ (by decide +kernel)) ggX6_more_X6_isCell
set_option maxRecDepth 20000 in
theorem ggX6_more_X6_refuse : GoodIn wsX6_more wsX6_refuse := goodIn_r _ [12, 13, 14, 15, 133, 134, 135, 136, 137, 138, 139] (by decide +kernel) (by decide +kernel)
set_option maxRecDepth 20000 in
theorem gX6_more_X6_refuse : GoodIn wsX6_more (wsV RX6 61 RX6 yX6_refuse wsX6_refuse) := goodIn_app (goodIn_of _ (by decide +kernel)) ggX6_more_X6_refuse
set_option maxRecDepth 20000 in
theorem ggX6_more_X1_may : GoodIn wsX6_more wsX1_may := goodIn_r _ [20, 21, 22, 23, 24, 25, 19, 26, 27, 28, 29, 30, 31, 32, 33, 34, 35, 36, 37, 38, 39, 40, 41, 42, 43, 44, 45, 46, 47, 48, 49, 50, 51, 52, 53, 54, 55, 56, 57, 58, 59, 60, 61, 62, 140, 141, 142, 143, 144, 145, 146, 147, 148, 149, 150, 151, 152, 153, 154, 155, 156, 157, 158, 159, 160, 161, 162, 163, 164, 165] (by decide +kernel) (by decide +kernel)
set_option maxRecDepth 20000 in
theorem gX6_more_X1_may : GoodIn wsX6_more (wsV RX6 114 RX1 yX1_may wsX1_may) := goodIn_app (goodIn_of _ (by decide +kernel)) ggX6_more_X1_may
set_option maxRecDepth 20000 in
theorem ggX6_more_X6_changeFamily : GoodIn wsX6_more wsX6_changeFamily := goodIn_r _ [66, 67, 1, 68, 69, 70, 71, 72, 73, 74, 75, 76, 77, 78, 79, 80, 81, 82, 83, 84, 34, 85, 37, 86, 36, 87, 88, 89, 90, 91, 19, 92, 21, 22, 27, 28, 30, 93, 94, 95, 58, 96, 97, 98, 99, 100, 101, 102, 103, 104, 105, 106, 107, 108, 109, 61, 110, 111, 112, 113, 114, 115, 116, 117, 118, 119, 120, 62, 121, 122, 123, 124, 125, 126, 127, 41, 128, 49, 43, 129, 130, 131, 132, 133, 134, 135, 136, 137, 138, 139, 140, 141, 142, 143, 144, 145, 146, 147, 148, 149, 150, 151, 152, 153, 166, 167, 168, 154, 155, 156, 157, 158, 159, 160, 161, 162, 163, 164, 165] (by decide +kernel) (by decide +kernel)
set_option maxRecDepth 20000 in
theorem gX6_more_X6_changeFamily : GoodIn wsX6_more (wsV RX6 172 RX6 yX6_changeFamily wsX6_changeFamily) := goodIn_app (goodIn_of _ (by decide +kernel)) ggX6_more_X6_changeFamily
theorem dX6_more_0 : decode cX6_more 0 = .ok (.iload_n 1, 1) := by decide +kernel
theorem dX6_more_1 : decode cX6_more 1 = .ok (.invokestatic 50, 3) := by decide +kernel
theorem dX6_more_4 : decode cX6_more 4 = .ok (.ifCond .ne 10, 3) := by decide +kernel
theorem dX6_more_7 : decode cX6_more 7 = .ok (.aload_n 0, 1) := by decide +kernel
theorem dX6_more_8 : decode cX6_more 8 = .ok (.bipush (-2), 2) := by decide +kernel
theorem dX6_more_10 : decode cX6_more 10 = .ok (.invokevirtual 61, 3) := by decide +kernel
theorem dX6_more_13 : decode cX6_more 13 = .ok (.ireturn, 1) := by decide +kernel
theorem dX6_more_14 : decode cX6_more 14 = .ok (.aload_n 0, 1) := by decide +kernel
theorem dX6_more_15 : decode cX6_more 15 = .ok (.getfield 10, 3) := by decide +kernel
theorem dX6_more_18 : decode cX6_more 18 = .ok (.iload_n 1, 1) := by decide +kernel
theorem dX6_more_19 : decode cX6_more 19 = .ok (.invokevirtual 114, 3) := by decide +kernel
theorem dX6_more_22 : decode cX6_more 22 = .ok (.ifCond .ne 10, 3) := by decide +kernel
theorem dX6_more_25 : decode cX6_more 25 = .ok (.aload_n 0, 1) := by decide +kernel
theorem dX6_more_26 : decode cX6_more 26 = .ok (.bipush (-3), 2) := by decide +kernel
theorem dX6_more_28 : decode cX6_more 28 = .ok (.invokevirtual 61, 3) := by decide +kernel
theorem dX6_more_31 : decode cX6_more 31 = .ok (.ireturn, 1) := by decide +kernel
theorem dX6_more_32 : decode cX6_more 32 = .ok (.aload_n 0, 1) := by decide +kernel
theorem dX6_more_33 : decode cX6_more 33 = .ok (.iload_n 1, 1) := by decide +kernel
theorem dX6_more_34 : decode cX6_more 34 = .ok (.iconst 1, 1) := by decide +kernel
theorem dX6_more_35 : decode cX6_more 35 = .ok (.invokevirtual 172, 3) := by decide +kernel
theorem dX6_more_38 : decode cX6_more 38 = .ok (.ireturn, 1) := by decide +kernel
set_option maxRecDepth 20000 in
theorem ggX6_less_X6_isCell : GoodIn wsX6_less wsX6_isCell := goodIn_r _ [7, 8, 9, 6, 10] (by decide +kernel) (by decide +kernel)
set_option maxRecDepth 20000 in
theorem gX6_less_X6_isCell : GoodIn wsX6_less (va_wsS RX6 50 yX6_isCell wsX6_isCell) := goodIn_app (goodIn_of _ (by decide +kernel)) ggX6_less_X6_isCell
set_option maxRecDepth 20000 in
theorem ggX6_less_X6_refuse : GoodIn wsX6_less wsX6_refuse := goodIn_r _ [14, 15, 16, 17, 101, 102, 103, 104, 105, 106, 107] (by decide +kernel) (by decide +kernel)
set_option maxRecDepth 20000 in
theorem gX6_less_X6_refuse : GoodIn wsX6_less (wsV RX6 61 RX6 yX6_refuse wsX6_refuse) := goodIn_app (goodIn_of _ (by decide +kernel)) ggX6_less_X6_refuse
set_option maxRecDepth 20000 in
theorem ggX6_less_X6_changeFamily : GoodIn wsX6_less wsX6_changeFamily := goodIn_r _ [21, 22, 1, 2, 3, 23, 24, 25, 26, 27, 28, 29, 30, 31, 32, 33, 34, 35, 36, 37, 38, 39, 40, 41, 42, 43, 44, 45, 46, 47, 48, 49, 50, 51, 52, 53, 54, 55, 56, 57, 58, 59, 60, 61, 62, 63, 64, 65, 66, 67, 68, 69, 70, 71, 72, 73, 74, 75, 76, 77, 78, 79, 80, 81, 82, 83, 84, 85, 86, 87, 88, 89, 90, 91, 92, 93, 94, 95, 96, 97, 98, 99, 100, 101, 102, 103, 104, 105, 106, 107, 108, 109, 110, 111, 112, 113, 114, 115, 116, 117, 118, 119, 120, 121, 122, 123, 124, 125, 126, 127, 128, 129, 130, 131, 132, 133, 134, 135, 136] (by decide +kernel) (by decide +kernel)
set_option maxRecDepth 20000 in
theorem gX6_less_X6_changeFamily : GoodIn wsX6_less (wsV RX6 172 RX6 yX6_changeFamily wsX6_changeFamily) := goodIn_app (goodIn_of _ (by decide +kernel)) ggX6_less_X6_changeFamily
theorem dX6_less_0 : decode cX6_less 0 = .ok (.iload_n 1, 1) := by decide +kernel
theorem dX6_less_1 : decode cX6_less 1 = .ok (.invokestatic 50, 3) := by decide +kernel
theorem dX6_less_4 : decode cX6_less 4 = .ok (.ifCond .ne 10, 3) := by decide +kernel
theorem dX6_less_7 : decode cX6_less 7 = .ok (.aload_n 0, 1) := by decide +kernel
theorem dX6_less_8 : decode cX6_less 8 = .ok (.bipush (-2), 2) := by decide +kernel
theorem dX6_less_10 : decode cX6_less 10 = .ok (.invokevirtual 61, 3) := by decide +kernel
theorem dX6_less_13 : decode cX6_less 13 = .ok (.ireturn, 1) := by decide +kernel
theorem dX6_less_14 : decode cX6_less 14 = .ok (.aload_n 0, 1) := by decide +kernel
theorem dX6_less_15 : decode cX6_less 15 = .ok (.getfield 10, 3) := by decide +kernel
theorem dX6_less_18 : decode cX6_less 18 = .ok (.getfield 65, 3) := by decide +kernel
theorem dX6_less_21 : decode cX6_less 21 = .ok (.getfield 93, 3) := by decide +kernel
theorem dX6_less_24 : decode cX6_less 24 = .ok (.iload_n 1, 1) := by decide +kernel
theorem dX6_less_25 : decode cX6_less 25 = .ok (.iaload, 1) := by decide +kernel
theorem dX6_less_26 : decode cX6_less 26 = .ok (.ifCond .gt 10, 3) := by decide +kernel
theorem dX6_less_29 : decode cX6_less 29 = .ok (.aload_n 0, 1) := by decide +kernel
theorem dX6_less_30 : decode cX6_less 30 = .ok (.bipush (-3), 2) := by decide +kernel
theorem dX6_less_32 : decode cX6_less 32 = .ok (.invokevirtual 61, 3) := by decide +kernel
theorem dX6_less_35 : decode cX6_less 35 = .ok (.ireturn, 1) := by decide +kernel
theorem dX6_less_36 : decode cX6_less 36 = .ok (.aload_n 0, 1) := by decide +kernel
theorem dX6_less_37 : decode cX6_less 37 = .ok (.iload_n 1, 1) := by decide +kernel
theorem dX6_less_38 : decode cX6_less 38 = .ok (.iconst (-1), 1) := by decide +kernel
theorem dX6_less_39 : decode cX6_less 39 = .ok (.invokevirtual 172, 3) := by decide +kernel
theorem dX6_less_42 : decode cX6_less 42 = .ok (.ireturn, 1) := by decide +kernel
set_option maxRecDepth 20000 in
theorem ggX6_next_X1_choice : GoodIn wsX6_next wsX1_choice := goodIn_r _ [7, 8, 9, 10, 11, 12, 13, 14, 15, 16, 17, 18, 19, 20, 21, 22, 6, 23, 24, 25, 26, 27, 28, 29, 30, 31, 32, 33, 34, 35, 36, 37, 38, 39, 40, 41, 42, 43, 44, 45, 46, 47, 48, 49, 50, 51, 52, 53, 54, 55, 56, 57, 58, 59, 60, 61, 62, 63, 64, 65, 66, 67, 68, 69, 70, 71, 72, 73, 74, 75, 76, 77, 78, 79, 80, 81, 82, 83, 84, 85, 86, 87, 88, 89, 90, 91, 92, 93, 94, 95, 103, 104, 105, 106, 107, 108, 109, 110, 111, 112, 113, 114, 115, 116, 117, 118, 119, 120, 121, 122, 123, 124, 125, 126, 127, 128] (by decide +kernel) (by decide +kernel)
set_option maxRecDepth 20000 in
theorem gX6_next_X1_choice : GoodIn wsX6_next (wsV RX6 176 RX1 yX1_choice wsX1_choice) := goodIn_app (goodIn_of _ (by decide +kernel)) ggX6_next_X1_choice
theorem dX6_next_0 : decode cX6_next 0 = .ok (.aload_n 0, 1) := by decide +kernel
theorem dX6_next_1 : decode cX6_next 1 = .ok (.getfield 10, 3) := by decide +kernel
theorem dX6_next_4 : decode cX6_next 4 = .ok (.aload_n 0, 1) := by decide +kernel
theorem dX6_next_5 : decode cX6_next 5 = .ok (.getfield 30, 3) := by decide +kernel
theorem dX6_next_8 : decode cX6_next 8 = .ok (.bipush 7, 2) := by decide +kernel
theorem dX6_next_10 : decode cX6_next 10 = .ok (.iaload, 1) := by decide +kernel
theorem dX6_next_11 : decode cX6_next 11 = .ok (.invokevirtual 176, 3) := by decide +kernel
theorem dX6_next_14 : decode cX6_next 14 = .ok (.ireturn, 1) := by decide +kernel
set_option maxRecDepth 20000 in
theorem ggX6_steps_X6_isIn : GoodIn wsX6_steps wsX6_isIn := goodIn_r _ [8] (by decide +kernel) (by decide +kernel)
set_option maxRecDepth 20000 in
theorem gX6_steps_X6_isIn : GoodIn wsX6_steps (va_wsS RX6 54 yX6_isIn wsX6_isIn) := goodIn_app (goodIn_of _ (by decide +kernel)) ggX6_steps_X6_isIn
set_option maxRecDepth 20000 in
theorem ggX6_steps_X6_refuse : GoodIn wsX6_steps wsX6_refuse := goodIn_r _ [12, 13, 14, 15, 169, 170, 171, 172, 173, 174, 175] (by decide +kernel) (by decide +kernel)
set_option maxRecDepth 20000 in
theorem gX6_steps_X6_refuse : GoodIn wsX6_steps (wsV RX6 61 RX6 yX6_refuse wsX6_refuse) := goodIn_app (goodIn_of _ (by decide +kernel)) ggX6_steps_X6_refuse
set_option maxRecDepth 20000 in
theorem ggX6_steps_X2_note : GoodIn wsX6_steps wsX2_note := goodIn_r _ [20, 21, 22, 23, 24, 25, 19, 26, 27, 28, 29, 30, 31, 32, 33, 34, 35, 36, 37, 185, 186, 187, 188, 189, 190, 191, 192] (by decide +kernel) (by decide +kernel)
set_option maxRecDepth 20000 in
theorem gX6_steps_X2_note : GoodIn wsX6_steps (wsV RX6 69 RX2 yX2_note wsX2_note) := goodIn_app (goodIn_of _ (by decide +kernel)) ggX6_steps_X2_note
set_option maxRecDepth 20000 in
theorem ggX6_steps_X1_stepOn : GoodIn wsX6_steps wsX1_stepOn := goodIn_r _ [42, 43, 44, 45, 41, 46, 47, 48, 49, 50, 51, 52, 53, 54, 55, 56, 57, 58, 59, 60, 61, 62, 63, 64, 65, 66, 67, 68, 69, 70, 71, 72, 73, 74, 75, 76, 77, 78, 79, 80, 81, 82, 83, 84, 85, 86, 87, 88, 89, 31, 90, 35, 33, 91, 92, 93, 94, 95, 96, 97, 98, 99, 100, 101, 102, 103, 104, 105, 106, 107, 108, 109, 110, 111, 112, 113, 114, 115, 116, 117, 118, 119, 120, 121, 122, 123, 124, 125, 126, 34, 127, 128, 129, 130, 131, 132, 133, 134, 135, 136, 137, 138, 139, 140, 141, 142, 143, 144, 145, 146, 147, 148, 149, 150, 151, 152, 153, 154, 155, 156, 157, 158, 159, 160, 161, 162, 163, 164, 176, 177, 178, 179, 180, 181, 182, 183, 184, 193, 194, 195, 196, 197, 198, 199, 200, 188, 189, 190, 191, 192, 201, 202, 203, 204] (by decide +kernel) (by decide +kernel)
set_option maxRecDepth 20000 in
theorem gX6_steps_X1_stepOn : GoodIn wsX6_steps (wsV RX6 179 RX1 yX1_stepOn wsX1_stepOn) := goodIn_app (goodIn_of _ (by decide +kernel)) ggX6_steps_X1_stepOn
set_option maxRecDepth 20000 in
theorem ggX6_steps_X2_keep : GoodIn wsX6_steps wsX2_keep := goodIn_r _ [168, 21, 27, 185, 186, 187] (by decide +kernel) (by decide +kernel)
set_option maxRecDepth 20000 in
theorem gX6_steps_X2_keep : GoodIn wsX6_steps (wsV RX6 85 RX2 yX2_keep wsX2_keep) := goodIn_app (goodIn_of _ (by decide +kernel)) ggX6_steps_X2_keep
theorem dX6_steps_0 : decode cX6_steps 0 = .ok (.iload_n 1, 1) := by decide +kernel
theorem dX6_steps_1 : decode cX6_steps 1 = .ok (.iconst 1, 1) := by decide +kernel
theorem dX6_steps_2 : decode cX6_steps 2 = .ok (.bipush 60, 2) := by decide +kernel
theorem dX6_steps_4 : decode cX6_steps 4 = .ok (.invokestatic 54, 3) := by decide +kernel
theorem dX6_steps_7 : decode cX6_steps 7 = .ok (.ifCond .ne 10, 3) := by decide +kernel
theorem dX6_steps_10 : decode cX6_steps 10 = .ok (.aload_n 0, 1) := by decide +kernel
theorem dX6_steps_11 : decode cX6_steps 11 = .ok (.bipush (-2), 2) := by decide +kernel
theorem dX6_steps_13 : decode cX6_steps 13 = .ok (.invokevirtual 61, 3) := by decide +kernel
theorem dX6_steps_16 : decode cX6_steps 16 = .ok (.ireturn, 1) := by decide +kernel
theorem dX6_steps_17 : decode cX6_steps 17 = .ok (.aload_n 0, 1) := by decide +kernel
theorem dX6_steps_18 : decode cX6_steps 18 = .ok (.getfield 19, 3) := by decide +kernel
theorem dX6_steps_21 : decode cX6_steps 21 = .ok (.aload_n 0, 1) := by decide +kernel
theorem dX6_steps_22 : decode cX6_steps 22 = .ok (.getfield 10, 3) := by decide +kernel
theorem dX6_steps_25 : decode cX6_steps 25 = .ok (.getfield 65, 3) := by decide +kernel
theorem dX6_steps_28 : decode cX6_steps 28 = .ok (.invokevirtual 69, 3) := by decide +kernel
theorem dX6_steps_31 : decode cX6_steps 31 = .ok (.aload_n 0, 1) := by decide +kernel
theorem dX6_steps_32 : decode cX6_steps 32 = .ok (.getfield 10, 3) := by decide +kernel
theorem dX6_steps_35 : decode cX6_steps 35 = .ok (.aload_n 0, 1) := by decide +kernel
theorem dX6_steps_36 : decode cX6_steps 36 = .ok (.getfield 30, 3) := by decide +kernel
theorem dX6_steps_39 : decode cX6_steps 39 = .ok (.bipush 7, 2) := by decide +kernel
theorem dX6_steps_41 : decode cX6_steps 41 = .ok (.iaload, 1) := by decide +kernel
theorem dX6_steps_42 : decode cX6_steps 42 = .ok (.iload_n 1, 1) := by decide +kernel
theorem dX6_steps_43 : decode cX6_steps 43 = .ok (.invokevirtual 179, 3) := by decide +kernel
theorem dX6_steps_46 : decode cX6_steps 46 = .ok (.istore_n 2, 1) := by decide +kernel
theorem dX6_steps_47 : decode cX6_steps 47 = .ok (.iload_n 2, 1) := by decide +kernel
theorem dX6_steps_48 : decode cX6_steps 48 = .ok (.ifCond .le 10, 3) := by decide +kernel
theorem dX6_steps_51 : decode cX6_steps 51 = .ok (.aload_n 0, 1) := by decide +kernel
theorem dX6_steps_52 : decode cX6_steps 52 = .ok (.getfield 19, 3) := by decide +kernel
theorem dX6_steps_55 : decode cX6_steps 55 = .ok (.invokevirtual 85, 3) := by decide +kernel
theorem dX6_steps_58 : decode cX6_steps 58 = .ok (.iload_n 2, 1) := by decide +kernel
theorem dX6_steps_59 : decode cX6_steps 59 = .ok (.ireturn, 1) := by decide +kernel
set_option maxRecDepth 20000 in
theorem ggX6_thins_X2_note : GoodIn wsX6_thins wsX2_note := goodIn_r _ [8, 9, 10, 11, 12, 13, 7, 14, 15, 16, 17, 18, 19, 20, 21, 22, 23, 24, 25, 119, 120, 121, 122, 123, 124, 125, 126] (by decide +kernel) (by decide +kernel)
set_option maxRecDepth 20000 in
theorem gX6_thins_X2_note : GoodIn wsX6_thins (wsV RX6 69 RX2 yX2_note wsX2_note) := goodIn_app (goodIn_of _ (by decide +kernel)) ggX6_thins_X2_note
set_option maxRecDepth 20000 in
theorem ggX6_thins_X1_thinOut : GoodIn wsX6_thins wsX1_thinOut := goodIn_r _ [30, 31, 32, 33, 34, 35, 36, 37, 38, 39, 40, 41, 42, 43, 44, 45, 46, 47, 48, 49, 50, 51, 52, 53, 54, 55, 56, 57, 58, 59, 60, 61, 62, 63, 29, 64, 65, 66, 67, 68, 69, 70, 71, 72, 73, 74, 75, 76, 77, 78, 79, 80, 81, 82, 83, 84, 85, 86, 87, 88, 89, 90, 91, 92, 93, 94, 95, 96, 97, 98, 110, 111, 112, 113, 114, 115, 116, 117, 118, 122, 123, 124, 125, 126, 127, 128, 129, 130, 131, 132, 133, 134, 135, 136, 137, 138] (by decide +kernel) (by decide +kernel)
set_option maxRecDepth 20000 in
theorem gX6_thins_X1_thinOut : GoodIn wsX6_thins (wsV RX6 182 RX1 yX1_thinOut wsX1_thinOut) := goodIn_app (goodIn_of _ (by decide +kernel)) ggX6_thins_X1_thinOut
set_option maxRecDepth 20000 in
theorem ggX6_thins_X2_keep : GoodIn wsX6_thins wsX2_keep := goodIn_r _ [102, 9, 15, 119, 120, 121] (by decide +kernel) (by decide +kernel)
set_option maxRecDepth 20000 in
theorem gX6_thins_X2_keep : GoodIn wsX6_thins (wsV RX6 85 RX2 yX2_keep wsX2_keep) := goodIn_app (goodIn_of _ (by decide +kernel)) ggX6_thins_X2_keep
theorem dX6_thins_0 : decode cX6_thins 0 = .ok (.aload_n 0, 1) := by decide +kernel
theorem dX6_thins_1 : decode cX6_thins 1 = .ok (.getfield 19, 3) := by decide +kernel
theorem dX6_thins_4 : decode cX6_thins 4 = .ok (.aload_n 0, 1) := by decide +kernel
theorem dX6_thins_5 : decode cX6_thins 5 = .ok (.getfield 10, 3) := by decide +kernel
theorem dX6_thins_8 : decode cX6_thins 8 = .ok (.getfield 65, 3) := by decide +kernel
theorem dX6_thins_11 : decode cX6_thins 11 = .ok (.invokevirtual 69, 3) := by decide +kernel
theorem dX6_thins_14 : decode cX6_thins 14 = .ok (.aload_n 0, 1) := by decide +kernel
theorem dX6_thins_15 : decode cX6_thins 15 = .ok (.getfield 10, 3) := by decide +kernel
theorem dX6_thins_18 : decode cX6_thins 18 = .ok (.invokevirtual 182, 3) := by decide +kernel
theorem dX6_thins_21 : decode cX6_thins 21 = .ok (.istore_n 1, 1) := by decide +kernel
theorem dX6_thins_22 : decode cX6_thins 22 = .ok (.iload_n 1, 1) := by decide +kernel
theorem dX6_thins_23 : decode cX6_thins 23 = .ok (.ifCond .le 10, 3) := by decide +kernel
theorem dX6_thins_26 : decode cX6_thins 26 = .ok (.aload_n 0, 1) := by decide +kernel
theorem dX6_thins_27 : decode cX6_thins 27 = .ok (.getfield 19, 3) := by decide +kernel
theorem dX6_thins_30 : decode cX6_thins 30 = .ok (.invokevirtual 85, 3) := by decide +kernel
theorem dX6_thins_33 : decode cX6_thins 33 = .ok (.iload_n 1, 1) := by decide +kernel
theorem dX6_thins_34 : decode cX6_thins 34 = .ok (.ireturn, 1) := by decide +kernel
set_option maxRecDepth 20000 in
theorem ggX6_best_X6_isIn : GoodIn wsX6_best wsX6_isIn := goodIn_r _ [8] (by decide +kernel) (by decide +kernel)
set_option maxRecDepth 20000 in
theorem gX6_best_X6_isIn : GoodIn wsX6_best (va_wsS RX6 54 yX6_isIn wsX6_isIn) := goodIn_app (goodIn_of _ (by decide +kernel)) ggX6_best_X6_isIn
set_option maxRecDepth 20000 in
theorem ggX6_best_X6_refuse : GoodIn wsX6_best wsX6_refuse := goodIn_r _ [12, 13, 14, 15, 217, 218, 219, 220, 221, 222, 223] (by decide +kernel) (by decide +kernel)
set_option maxRecDepth 20000 in
theorem gX6_best_X6_refuse : GoodIn wsX6_best (wsV RX6 61 RX6 yX6_refuse wsX6_refuse) := goodIn_app (goodIn_of _ (by decide +kernel)) ggX6_best_X6_refuse
set_option maxRecDepth 20000 in
theorem ggX6_best_X1_tryRules : GoodIn wsX6_best wsX1_tryRules := goodIn_r _ [20, 21, 22, 23, 24, 25, 26, 27, 28, 29, 30, 31, 19, 32, 33, 34, 35, 36, 37, 38, 39, 40, 41, 42, 43, 44, 45, 46, 47, 48, 49, 50, 51, 52, 53, 54, 55, 56, 57, 58, 59, 60, 61, 62, 63, 64, 65, 66, 67, 68, 69, 70, 71, 72, 73, 74, 75, 76, 77, 78, 79, 80, 81, 82, 83, 84, 85, 86, 87, 88, 89, 90, 91, 92, 93, 94, 95, 96, 97, 98, 99, 100, 101, 102, 103, 104, 105, 106, 107, 108, 109, 110, 111, 112, 113, 114, 115, 116, 117, 118, 119, 120, 121, 122, 123, 124, 125, 126, 127, 128, 129, 130, 131, 132, 133, 134, 135, 136, 137, 138, 139, 140, 141, 142, 143, 144, 145, 146, 147, 148, 149, 150, 151, 152, 153, 154, 155, 156, 157, 158, 159, 160, 161, 7, 162, 163, 164, 165, 166, 167, 168, 169, 170, 171, 172, 173, 174, 175, 176, 177, 178, 179, 180, 181, 182, 183, 184, 185, 186, 187, 188, 189, 190, 191, 192, 193, 194, 195, 196, 197, 198, 199, 200, 201, 202, 203, 204, 205, 206, 207, 208, 209, 210, 211, 212, 213, 214, 215, 216, 224, 225, 226, 227, 228, 229, 230, 231, 232, 233, 234, 235, 236, 237, 238, 239, 240, 241, 242, 243, 244, 245, 246, 247, 248, 249] (by decide +kernel) (by decide +kernel)
set_option maxRecDepth 20000 in
theorem gX6_best_X1_tryRules : GoodIn wsX6_best (wsV RX6 185 RX1 yX1_tryRules wsX1_tryRules) := goodIn_app (goodIn_of _ (by decide +kernel)) ggX6_best_X1_tryRules
theorem dX6_best_0 : decode cX6_best 0 = .ok (.iload_n 1, 1) := by decide +kernel
theorem dX6_best_1 : decode cX6_best 1 = .ok (.iconst 0, 1) := by decide +kernel
theorem dX6_best_2 : decode cX6_best 2 = .ok (.iconst 2, 1) := by decide +kernel
theorem dX6_best_3 : decode cX6_best 3 = .ok (.invokestatic 54, 3) := by decide +kernel
theorem dX6_best_6 : decode cX6_best 6 = .ok (.ifCond .ne 10, 3) := by decide +kernel
theorem dX6_best_9 : decode cX6_best 9 = .ok (.aload_n 0, 1) := by decide +kernel
theorem dX6_best_10 : decode cX6_best 10 = .ok (.bipush (-2), 2) := by decide +kernel
theorem dX6_best_12 : decode cX6_best 12 = .ok (.invokevirtual 61, 3) := by decide +kernel
theorem dX6_best_15 : decode cX6_best 15 = .ok (.ireturn, 1) := by decide +kernel
theorem dX6_best_16 : decode cX6_best 16 = .ok (.aload_n 0, 1) := by decide +kernel
theorem dX6_best_17 : decode cX6_best 17 = .ok (.getfield 10, 3) := by decide +kernel
theorem dX6_best_20 : decode cX6_best 20 = .ok (.invokevirtual 185, 3) := by decide +kernel
theorem dX6_best_23 : decode cX6_best 23 = .ok (.iload_n 1, 1) := by decide +kernel
theorem dX6_best_24 : decode cX6_best 24 = .ok (.lookupswitch 44 #[(0, 28), (1, 36)], 28) := by decide +kernel
theorem dX6_best_52 : decode cX6_best 52 = .ok (.aload_n 0, 1) := by decide +kernel
theorem dX6_best_53 : decode cX6_best 53 = .ok (.getfield 10, 3) := by decide +kernel
theorem dX6_best_56 : decode cX6_best 56 = .ok (.getfield 188, 3) := by decide +kernel
theorem dX6_best_59 : decode cX6_best 59 = .ok (.ireturn, 1) := by decide +kernel
theorem dX6_best_60 : decode cX6_best 60 = .ok (.aload_n 0, 1) := by decide +kernel
theorem dX6_best_61 : decode cX6_best 61 = .ok (.getfield 10, 3) := by decide +kernel
theorem dX6_best_64 : decode cX6_best 64 = .ok (.getfield 191, 3) := by decide +kernel
theorem dX6_best_67 : decode cX6_best 67 = .ok (.ireturn, 1) := by decide +kernel
theorem dX6_best_68 : decode cX6_best 68 = .ok (.aload_n 0, 1) := by decide +kernel
theorem dX6_best_69 : decode cX6_best 69 = .ok (.getfield 10, 3) := by decide +kernel
theorem dX6_best_72 : decode cX6_best 72 = .ok (.getfield 194, 3) := by decide +kernel
theorem dX6_best_75 : decode cX6_best 75 = .ok (.ireturn, 1) := by decide +kernel
set_option maxRecDepth 20000 in
theorem ggX6_row_X6_isIn : GoodIn wsX6_row wsX6_isIn := goodIn_r _ [5] (by decide +kernel) (by decide +kernel)
set_option maxRecDepth 20000 in
theorem gX6_row_X6_isIn : GoodIn wsX6_row (va_wsS RX6 54 yX6_isIn wsX6_isIn) := goodIn_app (goodIn_of _ (by decide +kernel)) ggX6_row_X6_isIn
set_option maxRecDepth 20000 in
theorem ggX6_row_X6_refuse : GoodIn wsX6_row wsX6_refuse := goodIn_r _ [9, 10, 11, 12, 36, 37, 38, 39, 40, 41, 42] (by decide +kernel) (by decide +kernel)
set_option maxRecDepth 20000 in
theorem gX6_row_X6_refuse : GoodIn wsX6_row (wsV RX6 61 RX6 yX6_refuse wsX6_refuse) := goodIn_app (goodIn_of _ (by decide +kernel)) ggX6_row_X6_refuse
set_option maxRecDepth 20000 in
theorem ggX6_row_X1_leastInRow : GoodIn wsX6_row wsX1_leastInRow := goodIn_r _ [17, 18, 19, 20, 21, 22, 23, 24, 25, 26, 27, 28, 29, 30, 31, 32, 33, 34, 16, 35, 43, 44, 45, 46, 47, 48, 49, 50, 51, 52, 53, 54, 55, 56, 57, 58, 59, 60, 61, 62, 63, 64] (by decide +kernel) (by decide +kernel)
set_option maxRecDepth 20000 in
theorem gX6_row_X1_leastInRow : GoodIn wsX6_row (wsV RX6 197 RX1 yX1_leastInRow wsX1_leastInRow) := goodIn_app (goodIn_of _ (by decide +kernel)) ggX6_row_X1_leastInRow
theorem dX6_row_0 : decode cX6_row 0 = .ok (.iload_n 1, 1) := by decide +kernel
theorem dX6_row_1 : decode cX6_row 1 = .ok (.iconst 0, 1) := by decide +kernel
theorem dX6_row_2 : decode cX6_row 2 = .ok (.bipush 7, 2) := by decide +kernel
theorem dX6_row_4 : decode cX6_row 4 = .ok (.invokestatic 54, 3) := by decide +kernel
theorem dX6_row_7 : decode cX6_row 7 = .ok (.ifCond .eq 13, 3) := by decide +kernel
theorem dX6_row_10 : decode cX6_row 10 = .ok (.iload_n 2, 1) := by decide +kernel
theorem dX6_row_11 : decode cX6_row 11 = .ok (.iconst 0, 1) := by decide +kernel
theorem dX6_row_12 : decode cX6_row 12 = .ok (.bipush 90, 2) := by decide +kernel
theorem dX6_row_14 : decode cX6_row 14 = .ok (.invokestatic 54, 3) := by decide +kernel
theorem dX6_row_17 : decode cX6_row 17 = .ok (.ifCond .ne 10, 3) := by decide +kernel
theorem dX6_row_20 : decode cX6_row 20 = .ok (.aload_n 0, 1) := by decide +kernel
theorem dX6_row_21 : decode cX6_row 21 = .ok (.bipush (-2), 2) := by decide +kernel
theorem dX6_row_23 : decode cX6_row 23 = .ok (.invokevirtual 61, 3) := by decide +kernel
theorem dX6_row_26 : decode cX6_row 26 = .ok (.ireturn, 1) := by decide +kernel
theorem dX6_row_27 : decode cX6_row 27 = .ok (.aload_n 0, 1) := by decide +kernel
theorem dX6_row_28 : decode cX6_row 28 = .ok (.getfield 10, 3) := by decide +kernel
theorem dX6_row_31 : decode cX6_row 31 = .ok (.iload_n 1, 1) := by decide +kernel
theorem dX6_row_32 : decode cX6_row 32 = .ok (.iload_n 2, 1) := by decide +kernel
theorem dX6_row_33 : decode cX6_row 33 = .ok (.invokevirtual 197, 3) := by decide +kernel
theorem dX6_row_36 : decode cX6_row 36 = .ok (.ireturn, 1) := by decide +kernel
set_option maxRecDepth 20000 in
theorem ggX6_undo_X6_refuse : GoodIn wsX6_undo wsX6_refuse := goodIn_r _ [9, 10, 11, 12, 104, 105, 106, 107, 108, 109, 110] (by decide +kernel) (by decide +kernel)
set_option maxRecDepth 20000 in
theorem gX6_undo_X6_refuse : GoodIn wsX6_undo (wsV RX6 61 RX6 yX6_refuse wsX6_refuse) := goodIn_app (goodIn_of _ (by decide +kernel)) ggX6_undo_X6_refuse
set_option maxRecDepth 20000 in
theorem ggX6_undo_X2_takeBack : GoodIn wsX6_undo wsX2_takeBack := goodIn_r _ [17, 18, 19, 20, 21, 22, 16, 23, 24, 25, 26, 27, 28, 29, 30, 31, 32, 33, 34, 111, 112, 113, 123, 124, 125, 126, 127] (by decide +kernel) (by decide +kernel)
set_option maxRecDepth 20000 in
theorem gX6_undo_X2_takeBack : GoodIn wsX6_undo (wsV RX6 203 RX2 yX2_takeBack wsX2_takeBack) := goodIn_app (goodIn_of _ (by decide +kernel)) ggX6_undo_X2_takeBack
set_option maxRecDepth 20000 in
theorem ggX6_undo_X1_measure : GoodIn wsX6_undo wsX1_measure := goodIn_r _ [39, 40, 41, 42, 43, 44, 45, 46, 47, 48, 49, 50, 51, 52, 53, 54, 55, 56, 57, 58, 59, 60, 61, 62, 63, 64, 65, 66, 67, 68, 69, 28, 70, 30, 31, 71, 72, 73, 74, 75, 76, 77, 78, 79, 80, 81, 82, 83, 84, 85, 86, 87, 88, 89, 90, 91, 92, 93, 94, 95, 96, 97, 98, 99, 100, 101, 102, 103, 114, 115, 116, 117, 118, 119, 120, 121, 122, 128, 129, 130, 131, 132, 133, 134, 135, 123, 124, 125, 126, 127, 136, 137, 138, 139] (by decide +kernel) (by decide +kernel)
set_option maxRecDepth 20000 in
theorem gX6_undo_X1_measure : GoodIn wsX6_undo (wsV RX6 82 RX1 yX1_measure wsX1_measure) := goodIn_app (goodIn_of _ (by decide +kernel)) ggX6_undo_X1_measure
theorem dX6_undo_0 : decode cX6_undo 0 = .ok (.aload_n 0, 1) := by decide +kernel
theorem dX6_undo_1 : decode cX6_undo 1 = .ok (.getfield 19, 3) := by decide +kernel
theorem dX6_undo_4 : decode cX6_undo 4 = .ok (.getfield 200, 3) := by decide +kernel
theorem dX6_undo_7 : decode cX6_undo 7 = .ok (.ifCond .ne 10, 3) := by decide +kernel
theorem dX6_undo_10 : decode cX6_undo 10 = .ok (.aload_n 0, 1) := by decide +kernel
theorem dX6_undo_11 : decode cX6_undo 11 = .ok (.bipush (-3), 2) := by decide +kernel
theorem dX6_undo_13 : decode cX6_undo 13 = .ok (.invokevirtual 61, 3) := by decide +kernel
theorem dX6_undo_16 : decode cX6_undo 16 = .ok (.ireturn, 1) := by decide +kernel
theorem dX6_undo_17 : decode cX6_undo 17 = .ok (.aload_n 0, 1) := by decide +kernel
theorem dX6_undo_18 : decode cX6_undo 18 = .ok (.getfield 19, 3) := by decide +kernel
theorem dX6_undo_21 : decode cX6_undo 21 = .ok (.aload_n 0, 1) := by decide +kernel
theorem dX6_undo_22 : decode cX6_undo 22 = .ok (.getfield 10, 3) := by decide +kernel
theorem dX6_undo_25 : decode cX6_undo 25 = .ok (.getfield 65, 3) := by decide +kernel
theorem dX6_undo_28 : decode cX6_undo 28 = .ok (.invokevirtual 203, 3) := by decide +kernel
theorem dX6_undo_31 : decode cX6_undo 31 = .ok (.aload_n 0, 1) := by decide +kernel
theorem dX6_undo_32 : decode cX6_undo 32 = .ok (.getfield 10, 3) := by decide +kernel
theorem dX6_undo_35 : decode cX6_undo 35 = .ok (.invokevirtual 82, 3) := by decide +kernel
theorem dX6_undo_38 : decode cX6_undo 38 = .ok (.aload_n 0, 1) := by decide +kernel
theorem dX6_undo_39 : decode cX6_undo 39 = .ok (.getfield 19, 3) := by decide +kernel
theorem dX6_undo_42 : decode cX6_undo 42 = .ok (.getfield 200, 3) := by decide +kernel
theorem dX6_undo_45 : decode cX6_undo 45 = .ok (.ireturn, 1) := by decide +kernel
set_option maxRecDepth 20000 in
theorem ggX6_type_X6_isIn : GoodIn wsX6_type wsX6_isIn := goodIn_r _ [6] (by decide +kernel) (by decide +kernel)
set_option maxRecDepth 20000 in
theorem gX6_type_X6_isIn : GoodIn wsX6_type (va_wsS RX6 54 yX6_isIn wsX6_isIn) := goodIn_app (goodIn_of _ (by decide +kernel)) ggX6_type_X6_isIn
set_option maxRecDepth 20000 in
theorem ggX6_type_X6_refuse : GoodIn wsX6_type wsX6_refuse := goodIn_r _ [10, 11, 12, 13, 21, 22, 23, 24, 25, 26, 27] (by decide +kernel) (by decide +kernel)
set_option maxRecDepth 20000 in
theorem gX6_type_X6_refuse : GoodIn wsX6_type (wsV RX6 61 RX6 yX6_refuse wsX6_refuse) := goodIn_app (goodIn_of _ (by decide +kernel)) ggX6_type_X6_refuse
set_option maxRecDepth 20000 in
theorem ggX6_type_X4_append : GoodIn wsX6_type wsX4_append := goodIn_r _ [18, 19, 20, 28, 29] (by decide +kernel) (by decide +kernel)
set_option maxRecDepth 20000 in
theorem gX6_type_X4_append : GoodIn wsX6_type (wsV RX6 209 RX4 yX4_append wsX4_append) := goodIn_app (goodIn_of _ (by decide +kernel)) ggX6_type_X4_append
theorem dX6_type_0 : decode cX6_type 0 = .ok (.iload_n 1, 1) := by decide +kernel
theorem dX6_type_1 : decode cX6_type 1 = .ok (.iconst 0, 1) := by decide +kernel
theorem dX6_type_2 : decode cX6_type 2 = .ok (.bipush 127, 2) := by decide +kernel
theorem dX6_type_4 : decode cX6_type 4 = .ok (.invokestatic 54, 3) := by decide +kernel
theorem dX6_type_7 : decode cX6_type 7 = .ok (.ifCond .ne 10, 3) := by decide +kernel
theorem dX6_type_10 : decode cX6_type 10 = .ok (.aload_n 0, 1) := by decide +kernel
theorem dX6_type_11 : decode cX6_type 11 = .ok (.bipush (-2), 2) := by decide +kernel
theorem dX6_type_13 : decode cX6_type 13 = .ok (.invokevirtual 61, 3) := by decide +kernel
theorem dX6_type_16 : decode cX6_type 16 = .ok (.ireturn, 1) := by decide +kernel
theorem dX6_type_17 : decode cX6_type 17 = .ok (.aload_n 0, 1) := by decide +kernel
theorem dX6_type_18 : decode cX6_type 18 = .ok (.getfield 26, 3) := by decide +kernel
theorem dX6_type_21 : decode cX6_type 21 = .ok (.getfield 206, 3) := by decide +kernel
theorem dX6_type_24 : decode cX6_type 24 = .ok (.bipush 120, 2) := by decide +kernel
theorem dX6_type_26 : decode cX6_type 26 = .ok (.if_icmp .lt 10, 3) := by decide +kernel
theorem dX6_type_29 : decode cX6_type 29 = .ok (.aload_n 0, 1) := by decide +kernel
theorem dX6_type_30 : decode cX6_type 30 = .ok (.bipush (-4), 2) := by decide +kernel
theorem dX6_type_32 : decode cX6_type 32 = .ok (.invokevirtual 61, 3) := by decide +kernel
theorem dX6_type_35 : decode cX6_type 35 = .ok (.ireturn, 1) := by decide +kernel
theorem dX6_type_36 : decode cX6_type 36 = .ok (.aload_n 0, 1) := by decide +kernel
theorem dX6_type_37 : decode cX6_type 37 = .ok (.getfield 26, 3) := by decide +kernel
theorem dX6_type_40 : decode cX6_type 40 = .ok (.iload_n 1, 1) := by decide +kernel
theorem dX6_type_41 : decode cX6_type 41 = .ok (.invokevirtual 209, 3) := by decide +kernel
theorem dX6_type_44 : decode cX6_type 44 = .ok (.aload_n 0, 1) := by decide +kernel
theorem dX6_type_45 : decode cX6_type 45 = .ok (.getfield 26, 3) := by decide +kernel
theorem dX6_type_48 : decode cX6_type 48 = .ok (.getfield 206, 3) := by decide +kernel
theorem dX6_type_51 : decode cX6_type 51 = .ok (.ireturn, 1) := by decide +kernel
theorem dX6_clear_0 : decode cX6_clear 0 = .ok (.aload_n 0, 1) := by decide +kernel
theorem dX6_clear_1 : decode cX6_clear 1 = .ok (.getfield 26, 3) := by decide +kernel
theorem dX6_clear_4 : decode cX6_clear 4 = .ok (.getfield 206, 3) := by decide +kernel
theorem dX6_clear_7 : decode cX6_clear 7 = .ok (.istore_n 1, 1) := by decide +kernel
theorem dX6_clear_8 : decode cX6_clear 8 = .ok (.aload_n 0, 1) := by decide +kernel
theorem dX6_clear_9 : decode cX6_clear 9 = .ok (.getfield 26, 3) := by decide +kernel
theorem dX6_clear_12 : decode cX6_clear 12 = .ok (.iconst 0, 1) := by decide +kernel
theorem dX6_clear_13 : decode cX6_clear 13 = .ok (.putfield 206, 3) := by decide +kernel
theorem dX6_clear_16 : decode cX6_clear 16 = .ok (.iload_n 1, 1) := by decide +kernel
theorem dX6_clear_17 : decode cX6_clear 17 = .ok (.ireturn, 1) := by decide +kernel
set_option maxRecDepth 20000 in
theorem ggX6_reads_X4_fault : GoodIn wsX6_reads wsX4_fault := goodIn_r _ [9, 10, 11, 12, 13, 8, 14, 157, 158] (by decide +kernel) (by decide +kernel)
set_option maxRecDepth 20000 in
theorem gX6_reads_X4_fault : GoodIn wsX6_reads (wsV RX6 213 RX4 yX4_fault wsX4_fault) := goodIn_app (goodIn_of _ (by decide +kernel)) ggX6_reads_X4_fault
set_option maxRecDepth 20000 in
theorem ggX6_reads_X2_note : GoodIn wsX6_reads wsX2_note := goodIn_r _ [19, 20, 21, 22, 23, 24, 18, 25, 26, 27, 28, 29, 30, 31, 32, 33, 34, 35, 36, 159, 160, 161, 162, 163, 164, 165, 166] (by decide +kernel) (by decide +kernel)
set_option maxRecDepth 20000 in
theorem gX6_reads_X2_note : GoodIn wsX6_reads (wsV RX6 69 RX2 yX2_note wsX2_note) := goodIn_app (goodIn_of _ (by decide +kernel)) ggX6_reads_X2_note
set_option maxRecDepth 20000 in
theorem ggX6_reads_X4_tell : GoodIn wsX6_reads wsX4_tell := goodIn_r _ [40, 10, 11, 41, 42, 8, 43, 44, 45, 46, 47, 48, 49, 50, 51, 157, 158, 162, 163, 164, 165, 166] (by decide +kernel) (by decide +kernel)
set_option maxRecDepth 20000 in
theorem gX6_reads_X4_tell : GoodIn wsX6_reads (wsV RX6 216 RX4 yX4_tell wsX4_tell) := goodIn_app (goodIn_of _ (by decide +kernel)) ggX6_reads_X4_tell
set_option maxRecDepth 20000 in
theorem ggX6_reads_X0_settle : GoodIn wsX6_reads wsX0_settle := goodIn_r _ [55, 33, 56, 57, 58, 59, 60, 61, 62, 30, 63, 34, 32, 64, 65, 66, 67, 36, 162, 163, 164, 165, 166] (by decide +kernel) (by decide +kernel)
set_option maxRecDepth 20000 in
theorem gX6_reads_X0_settle : GoodIn wsX6_reads (wsV RX6 79 RX0 yX0_settle wsX0_settle) := goodIn_app (goodIn_of _ (by decide +kernel)) ggX6_reads_X0_settle
set_option maxRecDepth 20000 in
theorem ggX6_reads_X1_measure : GoodIn wsX6_reads wsX1_measure := goodIn_r _ [72, 73, 74, 75, 76, 77, 78, 79, 80, 81, 82, 83, 84, 85, 86, 87, 88, 89, 90, 91, 92, 93, 94, 95, 96, 97, 98, 99, 100, 101, 102, 30, 103, 32, 33, 104, 105, 106, 107, 108, 109, 110, 111, 112, 113, 114, 115, 116, 117, 118, 119, 120, 121, 122, 123, 124, 125, 126, 127, 128, 129, 130, 131, 132, 133, 134, 135, 136, 148, 149, 150, 151, 152, 153, 154, 155, 156, 167, 168, 169, 170, 171, 172, 173, 174, 162, 163, 164, 165, 166, 175, 176, 177, 178] (by decide +kernel) (by decide +kernel)
set_option maxRecDepth 20000 in
theorem gX6_reads_X1_measure : GoodIn wsX6_reads (wsV RX6 82 RX1 yX1_measure wsX1_measure) := goodIn_app (goodIn_of _ (by decide +kernel)) ggX6_reads_X1_measure
set_option maxRecDepth 20000 in
theorem ggX6_reads_X2_keep : GoodIn wsX6_reads wsX2_keep := goodIn_r _ [140, 20, 26, 159, 160, 161] (by decide +kernel) (by decide +kernel)
set_option maxRecDepth 20000 in
theorem gX6_reads_X2_keep : GoodIn wsX6_reads (wsV RX6 85 RX2 yX2_keep wsX2_keep) := goodIn_app (goodIn_of _ (by decide +kernel)) ggX6_reads_X2_keep
theorem dX6_reads_0 : decode cX6_reads 0 = .ok (.aload_n 0, 1) := by decide +kernel
theorem dX6_reads_1 : decode cX6_reads 1 = .ok (.getfield 26, 3) := by decide +kernel
theorem dX6_reads_4 : decode cX6_reads 4 = .ok (.invokevirtual 213, 3) := by decide +kernel
theorem dX6_reads_7 : decode cX6_reads 7 = .ok (.istore_n 1, 1) := by decide +kernel
theorem dX6_reads_8 : decode cX6_reads 8 = .ok (.iload_n 1, 1) := by decide +kernel
theorem dX6_reads_9 : decode cX6_reads 9 = .ok (.iconst (-1), 1) := by decide +kernel
theorem dX6_reads_10 : decode cX6_reads 10 = .ok (.if_icmp .eq 8, 3) := by decide +kernel
theorem dX6_reads_13 : decode cX6_reads 13 = .ok (.bipush (-10), 2) := by decide +kernel
theorem dX6_reads_15 : decode cX6_reads 15 = .ok (.iload_n 1, 1) := by decide +kernel
theorem dX6_reads_16 : decode cX6_reads 16 = .ok (.isub, 1) := by decide +kernel
theorem dX6_reads_17 : decode cX6_reads 17 = .ok (.ireturn, 1) := by decide +kernel
theorem dX6_reads_18 : decode cX6_reads 18 = .ok (.aload_n 0, 1) := by decide +kernel
theorem dX6_reads_19 : decode cX6_reads 19 = .ok (.getfield 19, 3) := by decide +kernel
theorem dX6_reads_22 : decode cX6_reads 22 = .ok (.aload_n 0, 1) := by decide +kernel
theorem dX6_reads_23 : decode cX6_reads 23 = .ok (.getfield 10, 3) := by decide +kernel
theorem dX6_reads_26 : decode cX6_reads 26 = .ok (.getfield 65, 3) := by decide +kernel
theorem dX6_reads_29 : decode cX6_reads 29 = .ok (.invokevirtual 69, 3) := by decide +kernel
theorem dX6_reads_32 : decode cX6_reads 32 = .ok (.aload_n 0, 1) := by decide +kernel
theorem dX6_reads_33 : decode cX6_reads 33 = .ok (.getfield 26, 3) := by decide +kernel
theorem dX6_reads_36 : decode cX6_reads 36 = .ok (.aload_n 0, 1) := by decide +kernel
theorem dX6_reads_37 : decode cX6_reads 37 = .ok (.getfield 10, 3) := by decide +kernel
theorem dX6_reads_40 : decode cX6_reads 40 = .ok (.getfield 65, 3) := by decide +kernel
theorem dX6_reads_43 : decode cX6_reads 43 = .ok (.invokevirtual 216, 3) := by decide +kernel
theorem dX6_reads_46 : decode cX6_reads 46 = .ok (.istore_n 2, 1) := by decide +kernel
theorem dX6_reads_47 : decode cX6_reads 47 = .ok (.aload_n 0, 1) := by decide +kernel
theorem dX6_reads_48 : decode cX6_reads 48 = .ok (.getfield 10, 3) := by decide +kernel
theorem dX6_reads_51 : decode cX6_reads 51 = .ok (.getfield 65, 3) := by decide +kernel
theorem dX6_reads_54 : decode cX6_reads 54 = .ok (.invokevirtual 79, 3) := by decide +kernel
theorem dX6_reads_57 : decode cX6_reads 57 = .ok (.aload_n 0, 1) := by decide +kernel
theorem dX6_reads_58 : decode cX6_reads 58 = .ok (.getfield 10, 3) := by decide +kernel
theorem dX6_reads_61 : decode cX6_reads 61 = .ok (.invokevirtual 82, 3) := by decide +kernel
theorem dX6_reads_64 : decode cX6_reads 64 = .ok (.aload_n 0, 1) := by decide +kernel
theorem dX6_reads_65 : decode cX6_reads 65 = .ok (.getfield 19, 3) := by decide +kernel
theorem dX6_reads_68 : decode cX6_reads 68 = .ok (.invokevirtual 85, 3) := by decide +kernel
theorem dX6_reads_71 : decode cX6_reads 71 = .ok (.iload_n 2, 1) := by decide +kernel
theorem dX6_reads_72 : decode cX6_reads 72 = .ok (.ireturn, 1) := by decide +kernel
set_option maxRecDepth 20000 in
theorem ggX6_told_X6_refuse : GoodIn wsX6_told wsX6_refuse := goodIn_r _ [13, 1, 2, 3, 14, 15, 16, 17, 18, 19, 20] (by decide +kernel) (by decide +kernel)
set_option maxRecDepth 20000 in
theorem gX6_told_X6_refuse : GoodIn wsX6_told (wsV RX6 61 RX6 yX6_refuse wsX6_refuse) := goodIn_app (goodIn_of _ (by decide +kernel)) ggX6_told_X6_refuse
theorem dX6_told_0 : decode cX6_told 0 = .ok (.iload_n 1, 1) := by decide +kernel
theorem dX6_told_1 : decode cX6_told 1 = .ok (.tableswitch 122 0 9 #[55, 60, 65, 70, 78, 85, 92, 99, 106, 114], 55) := by decide +kernel
theorem dX6_told_56 : decode cX6_told 56 = .ok (.aload_n 0, 1) := by decide +kernel
theorem dX6_told_57 : decode cX6_told 57 = .ok (.getfield 34, 3) := by decide +kernel
theorem dX6_told_60 : decode cX6_told 60 = .ok (.ireturn, 1) := by decide +kernel
theorem dX6_told_61 : decode cX6_told 61 = .ok (.aload_n 0, 1) := by decide +kernel
theorem dX6_told_62 : decode cX6_told 62 = .ok (.getfield 38, 3) := by decide +kernel
theorem dX6_told_65 : decode cX6_told 65 = .ok (.ireturn, 1) := by decide +kernel
theorem dX6_told_66 : decode cX6_told 66 = .ok (.aload_n 0, 1) := by decide +kernel
theorem dX6_told_67 : decode cX6_told 67 = .ok (.getfield 41, 3) := by decide +kernel
theorem dX6_told_70 : decode cX6_told 70 = .ok (.ireturn, 1) := by decide +kernel
theorem dX6_told_71 : decode cX6_told 71 = .ok (.aload_n 0, 1) := by decide +kernel
theorem dX6_told_72 : decode cX6_told 72 = .ok (.getfield 26, 3) := by decide +kernel
theorem dX6_told_75 : decode cX6_told 75 = .ok (.getfield 206, 3) := by decide +kernel
theorem dX6_told_78 : decode cX6_told 78 = .ok (.ireturn, 1) := by decide +kernel
theorem dX6_told_79 : decode cX6_told 79 = .ok (.aload_n 0, 1) := by decide +kernel
theorem dX6_told_80 : decode cX6_told 80 = .ok (.getfield 30, 3) := by decide +kernel
theorem dX6_told_83 : decode cX6_told 83 = .ok (.iconst 0, 1) := by decide +kernel
theorem dX6_told_84 : decode cX6_told 84 = .ok (.iaload, 1) := by decide +kernel
theorem dX6_told_85 : decode cX6_told 85 = .ok (.ireturn, 1) := by decide +kernel
theorem dX6_told_86 : decode cX6_told 86 = .ok (.aload_n 0, 1) := by decide +kernel
theorem dX6_told_87 : decode cX6_told 87 = .ok (.getfield 30, 3) := by decide +kernel
theorem dX6_told_90 : decode cX6_told 90 = .ok (.iconst 1, 1) := by decide +kernel
theorem dX6_told_91 : decode cX6_told 91 = .ok (.iaload, 1) := by decide +kernel
theorem dX6_told_92 : decode cX6_told 92 = .ok (.ireturn, 1) := by decide +kernel
theorem dX6_told_93 : decode cX6_told 93 = .ok (.aload_n 0, 1) := by decide +kernel
theorem dX6_told_94 : decode cX6_told 94 = .ok (.getfield 30, 3) := by decide +kernel
theorem dX6_told_97 : decode cX6_told 97 = .ok (.iconst 2, 1) := by decide +kernel
theorem dX6_told_98 : decode cX6_told 98 = .ok (.iaload, 1) := by decide +kernel
theorem dX6_told_99 : decode cX6_told 99 = .ok (.ireturn, 1) := by decide +kernel
theorem dX6_told_100 : decode cX6_told 100 = .ok (.aload_n 0, 1) := by decide +kernel
theorem dX6_told_101 : decode cX6_told 101 = .ok (.getfield 30, 3) := by decide +kernel
theorem dX6_told_104 : decode cX6_told 104 = .ok (.iconst 3, 1) := by decide +kernel
theorem dX6_told_105 : decode cX6_told 105 = .ok (.iaload, 1) := by decide +kernel
theorem dX6_told_106 : decode cX6_told 106 = .ok (.ireturn, 1) := by decide +kernel
theorem dX6_told_107 : decode cX6_told 107 = .ok (.aload_n 0, 1) := by decide +kernel
theorem dX6_told_108 : decode cX6_told 108 = .ok (.getfield 30, 3) := by decide +kernel
theorem dX6_told_111 : decode cX6_told 111 = .ok (.bipush 7, 2) := by decide +kernel
theorem dX6_told_113 : decode cX6_told 113 = .ok (.iaload, 1) := by decide +kernel
theorem dX6_told_114 : decode cX6_told 114 = .ok (.ireturn, 1) := by decide +kernel
theorem dX6_told_115 : decode cX6_told 115 = .ok (.aload_n 0, 1) := by decide +kernel
theorem dX6_told_116 : decode cX6_told 116 = .ok (.getfield 19, 3) := by decide +kernel
theorem dX6_told_119 : decode cX6_told 119 = .ok (.getfield 200, 3) := by decide +kernel
theorem dX6_told_122 : decode cX6_told 122 = .ok (.ireturn, 1) := by decide +kernel
theorem dX6_told_123 : decode cX6_told 123 = .ok (.aload_n 0, 1) := by decide +kernel
theorem dX6_told_124 : decode cX6_told 124 = .ok (.bipush (-2), 2) := by decide +kernel
theorem dX6_told_126 : decode cX6_told 126 = .ok (.invokevirtual 61, 3) := by decide +kernel
theorem dX6_told_129 : decode cX6_told 129 = .ok (.ireturn, 1) := by decide +kernel
set_option maxRecDepth 20000 in
theorem ggX6_digest_X6_told : GoodIn wsX6_digest wsX6_told := goodIn_r _ [13, 14, 15, 16, 17, 18, 19, 20, 21, 22, 23, 24, 12, 25, 52, 53, 54, 55, 56, 57, 58, 72, 73, 74, 75, 76] (by decide +kernel) (by decide +kernel)
set_option maxRecDepth 20000 in
theorem gX6_digest_X6_told : GoodIn wsX6_digest (wsV RX6 224 RX6 yX6_told wsX6_told) := goodIn_app (goodIn_of _ (by decide +kernel)) ggX6_digest_X6_told
set_option maxRecDepth 20000 in
theorem ggX6_digest_X0_part : GoodIn wsX6_digest wsX0_part := goodIn_r _ [30, 31, 32, 33, 34, 35, 77, 78, 79, 80, 81] (by decide +kernel) (by decide +kernel)
set_option maxRecDepth 20000 in
theorem gX6_digest_X0_part : GoodIn wsX6_digest (wsV RX6 73 RX0 yX0_part wsX0_part) := goodIn_app (goodIn_of _ (by decide +kernel)) ggX6_digest_X0_part
set_option maxRecDepth 20000 in
theorem ggX6_digest_X5_countThin : GoodIn wsX6_digest wsX5_countThin := goodIn_r _ [40, 41, 42, 43, 39, 44, 45, 46, 82, 83, 84, 85, 86, 87, 88, 89] (by decide +kernel) (by decide +kernel)
set_option maxRecDepth 20000 in
theorem gX6_digest_X5_countThin : GoodIn wsX6_digest (wsV RX6 133 RX5 yX5_countThin wsX5_countThin) := goodIn_app (goodIn_of _ (by decide +kernel)) ggX6_digest_X5_countThin
set_option maxRecDepth 20000 in
theorem ggX6_digest_X5_countThick : GoodIn wsX6_digest wsX5_countThick := goodIn_r _ [50, 45, 51, 82, 83, 84, 85, 86, 87, 88, 89] (by decide +kernel) (by decide +kernel)
set_option maxRecDepth 20000 in
theorem gX6_digest_X5_countThick : GoodIn wsX6_digest (wsV RX6 136 RX5 yX5_countThick wsX5_countThick) := goodIn_app (goodIn_of _ (by decide +kernel)) ggX6_digest_X5_countThick
theorem dX6_digest_0 : decode cX6_digest 0 = .ok (.ldc2_w 220, 3) := by decide +kernel
theorem dX6_digest_3 : decode cX6_digest 3 = .ok (.lstore_n 1, 1) := by decide +kernel
theorem dX6_digest_4 : decode cX6_digest 4 = .ok (.iconst 0, 1) := by decide +kernel
theorem dX6_digest_5 : decode cX6_digest 5 = .ok (.istore_n 3, 1) := by decide +kernel
theorem dX6_digest_6 : decode cX6_digest 6 = .ok (.iload_n 3, 1) := by decide +kernel
theorem dX6_digest_7 : decode cX6_digest 7 = .ok (.bipush 9, 2) := by decide +kernel
theorem dX6_digest_9 : decode cX6_digest 9 = .ok (.if_icmp .gt 22, 3) := by decide +kernel
theorem dX6_digest_12 : decode cX6_digest 12 = .ok (.ldc2_w 222, 3) := by decide +kernel
theorem dX6_digest_15 : decode cX6_digest 15 = .ok (.lload_n 1, 1) := by decide +kernel
theorem dX6_digest_16 : decode cX6_digest 16 = .ok (.lmul, 1) := by decide +kernel
theorem dX6_digest_17 : decode cX6_digest 17 = .ok (.aload_n 0, 1) := by decide +kernel
theorem dX6_digest_18 : decode cX6_digest 18 = .ok (.iload_n 3, 1) := by decide +kernel
theorem dX6_digest_19 : decode cX6_digest 19 = .ok (.invokevirtual 224, 3) := by decide +kernel
theorem dX6_digest_22 : decode cX6_digest 22 = .ok (.i2l, 1) := by decide +kernel
theorem dX6_digest_23 : decode cX6_digest 23 = .ok (.ladd, 1) := by decide +kernel
theorem dX6_digest_24 : decode cX6_digest 24 = .ok (.lstore_n 1, 1) := by decide +kernel
theorem dX6_digest_25 : decode cX6_digest 25 = .ok (.iinc 3 1, 3) := by decide +kernel
theorem dX6_digest_28 : decode cX6_digest 28 = .ok (.goto (-22), 3) := by decide +kernel
theorem dX6_digest_31 : decode cX6_digest 31 = .ok (.iconst 1, 1) := by decide +kernel
theorem dX6_digest_32 : decode cX6_digest 32 = .ok (.istore_n 3, 1) := by decide +kernel
theorem dX6_digest_33 : decode cX6_digest 33 = .ok (.iload_n 3, 1) := by decide +kernel
theorem dX6_digest_34 : decode cX6_digest 34 = .ok (.iconst 4, 1) := by decide +kernel
theorem dX6_digest_35 : decode cX6_digest 35 = .ok (.if_icmp .ge 29, 3) := by decide +kernel
theorem dX6_digest_38 : decode cX6_digest 38 = .ok (.ldc2_w 222, 3) := by decide +kernel
theorem dX6_digest_41 : decode cX6_digest 41 = .ok (.lload_n 1, 1) := by decide +kernel
theorem dX6_digest_42 : decode cX6_digest 42 = .ok (.lmul, 1) := by decide +kernel
theorem dX6_digest_43 : decode cX6_digest 43 = .ok (.aload_n 0, 1) := by decide +kernel
theorem dX6_digest_44 : decode cX6_digest 44 = .ok (.getfield 10, 3) := by decide +kernel
theorem dX6_digest_47 : decode cX6_digest 47 = .ok (.getfield 157, 3) := by decide +kernel
theorem dX6_digest_50 : decode cX6_digest 50 = .ok (.getfield 227, 3) := by decide +kernel
theorem dX6_digest_53 : decode cX6_digest 53 = .ok (.iload_n 3, 1) := by decide +kernel
theorem dX6_digest_54 : decode cX6_digest 54 = .ok (.iaload, 1) := by decide +kernel
theorem dX6_digest_55 : decode cX6_digest 55 = .ok (.i2l, 1) := by decide +kernel
theorem dX6_digest_56 : decode cX6_digest 56 = .ok (.ladd, 1) := by decide +kernel
theorem dX6_digest_57 : decode cX6_digest 57 = .ok (.lstore_n 1, 1) := by decide +kernel
theorem dX6_digest_58 : decode cX6_digest 58 = .ok (.iinc 3 1, 3) := by decide +kernel
theorem dX6_digest_61 : decode cX6_digest 61 = .ok (.goto (-28), 3) := by decide +kernel
theorem dX6_digest_64 : decode cX6_digest 64 = .ok (.iconst 0, 1) := by decide +kernel
theorem dX6_digest_65 : decode cX6_digest 65 = .ok (.istore_n 3, 1) := by decide +kernel
theorem dX6_digest_66 : decode cX6_digest 66 = .ok (.iload_n 3, 1) := by decide +kernel
theorem dX6_digest_67 : decode cX6_digest 67 = .ok (.bipush 80, 2) := by decide +kernel
theorem dX6_digest_69 : decode cX6_digest 69 = .ok (.if_icmp .ge 46, 3) := by decide +kernel
theorem dX6_digest_72 : decode cX6_digest 72 = .ok (.iconst 0, 1) := by decide +kernel
theorem dX6_digest_73 : decode cX6_digest 73 = .ok (.istore 4, 2) := by decide +kernel
theorem dX6_digest_75 : decode cX6_digest 75 = .ok (.iload 4, 2) := by decide +kernel
theorem dX6_digest_77 : decode cX6_digest 77 = .ok (.iconst 4, 1) := by decide +kernel
theorem dX6_digest_78 : decode cX6_digest 78 = .ok (.if_icmp .gt 31, 3) := by decide +kernel
theorem dX6_digest_81 : decode cX6_digest 81 = .ok (.ldc2_w 222, 3) := by decide +kernel
theorem dX6_digest_84 : decode cX6_digest 84 = .ok (.lload_n 1, 1) := by decide +kernel
theorem dX6_digest_85 : decode cX6_digest 85 = .ok (.lmul, 1) := by decide +kernel
theorem dX6_digest_86 : decode cX6_digest 86 = .ok (.aload_n 0, 1) := by decide +kernel
theorem dX6_digest_87 : decode cX6_digest 87 = .ok (.getfield 10, 3) := by decide +kernel
theorem dX6_digest_90 : decode cX6_digest 90 = .ok (.getfield 65, 3) := by decide +kernel
theorem dX6_digest_93 : decode cX6_digest 93 = .ok (.iload 4, 2) := by decide +kernel
theorem dX6_digest_95 : decode cX6_digest 95 = .ok (.invokevirtual 73, 3) := by decide +kernel
theorem dX6_digest_98 : decode cX6_digest 98 = .ok (.iload_n 3, 1) := by decide +kernel
theorem dX6_digest_99 : decode cX6_digest 99 = .ok (.iaload, 1) := by decide +kernel
theorem dX6_digest_100 : decode cX6_digest 100 = .ok (.i2l, 1) := by decide +kernel
theorem dX6_digest_101 : decode cX6_digest 101 = .ok (.ladd, 1) := by decide +kernel
theorem dX6_digest_102 : decode cX6_digest 102 = .ok (.lstore_n 1, 1) := by decide +kernel
theorem dX6_digest_103 : decode cX6_digest 103 = .ok (.iinc 4 1, 3) := by decide +kernel
theorem dX6_digest_106 : decode cX6_digest 106 = .ok (.goto (-31), 3) := by decide +kernel
theorem dX6_digest_109 : decode cX6_digest 109 = .ok (.iinc 3 1, 3) := by decide +kernel
theorem dX6_digest_112 : decode cX6_digest 112 = .ok (.goto (-46), 3) := by decide +kernel
theorem dX6_digest_115 : decode cX6_digest 115 = .ok (.ldc2_w 222, 3) := by decide +kernel
theorem dX6_digest_118 : decode cX6_digest 118 = .ok (.lload_n 1, 1) := by decide +kernel
theorem dX6_digest_119 : decode cX6_digest 119 = .ok (.lmul, 1) := by decide +kernel
theorem dX6_digest_120 : decode cX6_digest 120 = .ok (.aload_n 0, 1) := by decide +kernel
theorem dX6_digest_121 : decode cX6_digest 121 = .ok (.getfield 10, 3) := by decide +kernel
theorem dX6_digest_124 : decode cX6_digest 124 = .ok (.getfield 117, 3) := by decide +kernel
theorem dX6_digest_127 : decode cX6_digest 127 = .ok (.invokevirtual 133, 3) := by decide +kernel
theorem dX6_digest_130 : decode cX6_digest 130 = .ok (.i2l, 1) := by decide +kernel
theorem dX6_digest_131 : decode cX6_digest 131 = .ok (.ladd, 1) := by decide +kernel
theorem dX6_digest_132 : decode cX6_digest 132 = .ok (.lstore_n 1, 1) := by decide +kernel
theorem dX6_digest_133 : decode cX6_digest 133 = .ok (.ldc2_w 222, 3) := by decide +kernel
theorem dX6_digest_136 : decode cX6_digest 136 = .ok (.lload_n 1, 1) := by decide +kernel
theorem dX6_digest_137 : decode cX6_digest 137 = .ok (.lmul, 1) := by decide +kernel
theorem dX6_digest_138 : decode cX6_digest 138 = .ok (.aload_n 0, 1) := by decide +kernel
theorem dX6_digest_139 : decode cX6_digest 139 = .ok (.getfield 10, 3) := by decide +kernel
theorem dX6_digest_142 : decode cX6_digest 142 = .ok (.getfield 117, 3) := by decide +kernel
theorem dX6_digest_145 : decode cX6_digest 145 = .ok (.invokevirtual 136, 3) := by decide +kernel
theorem dX6_digest_148 : decode cX6_digest 148 = .ok (.i2l, 1) := by decide +kernel
theorem dX6_digest_149 : decode cX6_digest 149 = .ok (.ladd, 1) := by decide +kernel
theorem dX6_digest_150 : decode cX6_digest 150 = .ok (.lstore_n 1, 1) := by decide +kernel
theorem dX6_digest_151 : decode cX6_digest 151 = .ok (.iconst 1, 1) := by decide +kernel
theorem dX6_digest_152 : decode cX6_digest 152 = .ok (.istore_n 3, 1) := by decide +kernel
theorem dX6_digest_153 : decode cX6_digest 153 = .ok (.iload_n 3, 1) := by decide +kernel
theorem dX6_digest_154 : decode cX6_digest 154 = .ok (.iconst 4, 1) := by decide +kernel
theorem dX6_digest_155 : decode cX6_digest 155 = .ok (.if_icmp .ge 29, 3) := by decide +kernel
theorem dX6_digest_158 : decode cX6_digest 158 = .ok (.ldc2_w 222, 3) := by decide +kernel
theorem dX6_digest_161 : decode cX6_digest 161 = .ok (.lload_n 1, 1) := by decide +kernel
theorem dX6_digest_162 : decode cX6_digest 162 = .ok (.lmul, 1) := by decide +kernel
theorem dX6_digest_163 : decode cX6_digest 163 = .ok (.aload_n 0, 1) := by decide +kernel
theorem dX6_digest_164 : decode cX6_digest 164 = .ok (.getfield 10, 3) := by decide +kernel
theorem dX6_digest_167 : decode cX6_digest 167 = .ok (.getfield 157, 3) := by decide +kernel
theorem dX6_digest_170 : decode cX6_digest 170 = .ok (.getfield 161, 3) := by decide +kernel
theorem dX6_digest_173 : decode cX6_digest 173 = .ok (.iload_n 3, 1) := by decide +kernel
theorem dX6_digest_174 : decode cX6_digest 174 = .ok (.iaload, 1) := by decide +kernel
theorem dX6_digest_175 : decode cX6_digest 175 = .ok (.i2l, 1) := by decide +kernel
theorem dX6_digest_176 : decode cX6_digest 176 = .ok (.ladd, 1) := by decide +kernel
theorem dX6_digest_177 : decode cX6_digest 177 = .ok (.lstore_n 1, 1) := by decide +kernel
theorem dX6_digest_178 : decode cX6_digest 178 = .ok (.iinc 3 1, 3) := by decide +kernel
theorem dX6_digest_181 : decode cX6_digest 181 = .ok (.goto (-28), 3) := by decide +kernel
theorem dX6_digest_184 : decode cX6_digest 184 = .ok (.lload_n 1, 1) := by decide +kernel
theorem dX6_digest_185 : decode cX6_digest 185 = .ok (.lreturn, 1) := by decide +kernel
theorem dX6_refuse_0 : decode cX6_refuse 0 = .ok (.iload_n 1, 1) := by decide +kernel
theorem dX6_refuse_1 : decode cX6_refuse 1 = .ok (.bipush (-2), 2) := by decide +kernel
theorem dX6_refuse_3 : decode cX6_refuse 3 = .ok (.if_icmp .ne 16, 3) := by decide +kernel
theorem dX6_refuse_6 : decode cX6_refuse 6 = .ok (.aload_n 0, 1) := by decide +kernel
theorem dX6_refuse_7 : decode cX6_refuse 7 = .ok (.dup, 1) := by decide +kernel
theorem dX6_refuse_8 : decode cX6_refuse 8 = .ok (.getfield 34, 3) := by decide +kernel
theorem dX6_refuse_11 : decode cX6_refuse 11 = .ok (.iconst 1, 1) := by decide +kernel
theorem dX6_refuse_12 : decode cX6_refuse 12 = .ok (.iadd, 1) := by decide +kernel
theorem dX6_refuse_13 : decode cX6_refuse 13 = .ok (.putfield 34, 3) := by decide +kernel
theorem dX6_refuse_16 : decode cX6_refuse 16 = .ok (.goto 32, 3) := by decide +kernel
theorem dX6_refuse_19 : decode cX6_refuse 19 = .ok (.iload_n 1, 1) := by decide +kernel
theorem dX6_refuse_20 : decode cX6_refuse 20 = .ok (.bipush (-3), 2) := by decide +kernel
theorem dX6_refuse_22 : decode cX6_refuse 22 = .ok (.if_icmp .ne 16, 3) := by decide +kernel
theorem dX6_refuse_25 : decode cX6_refuse 25 = .ok (.aload_n 0, 1) := by decide +kernel
theorem dX6_refuse_26 : decode cX6_refuse 26 = .ok (.dup, 1) := by decide +kernel
theorem dX6_refuse_27 : decode cX6_refuse 27 = .ok (.getfield 38, 3) := by decide +kernel
theorem dX6_refuse_30 : decode cX6_refuse 30 = .ok (.iconst 1, 1) := by decide +kernel
theorem dX6_refuse_31 : decode cX6_refuse 31 = .ok (.iadd, 1) := by decide +kernel
theorem dX6_refuse_32 : decode cX6_refuse 32 = .ok (.putfield 38, 3) := by decide +kernel
theorem dX6_refuse_35 : decode cX6_refuse 35 = .ok (.goto 13, 3) := by decide +kernel
theorem dX6_refuse_38 : decode cX6_refuse 38 = .ok (.aload_n 0, 1) := by decide +kernel
theorem dX6_refuse_39 : decode cX6_refuse 39 = .ok (.dup, 1) := by decide +kernel
theorem dX6_refuse_40 : decode cX6_refuse 40 = .ok (.getfield 41, 3) := by decide +kernel
theorem dX6_refuse_43 : decode cX6_refuse 43 = .ok (.iconst 1, 1) := by decide +kernel
theorem dX6_refuse_44 : decode cX6_refuse 44 = .ok (.iadd, 1) := by decide +kernel
theorem dX6_refuse_45 : decode cX6_refuse 45 = .ok (.putfield 41, 3) := by decide +kernel
theorem dX6_refuse_48 : decode cX6_refuse 48 = .ok (.iload_n 1, 1) := by decide +kernel
theorem dX6_refuse_49 : decode cX6_refuse 49 = .ok (.ireturn, 1) := by decide +kernel
set_option maxRecDepth 20000 in
theorem ggX6_changeFamily_X2_note : GoodIn wsX6_changeFamily wsX2_note := goodIn_r _ [9, 10, 11, 12, 13, 14, 8, 15, 16, 17, 18, 19, 20, 21, 22, 23, 24, 25, 26, 104, 105, 106, 99, 100, 101, 102, 103] (by decide +kernel) (by decide +kernel)
set_option maxRecDepth 20000 in
theorem gX6_changeFamily_X2_note : GoodIn wsX6_changeFamily (wsV RX6 69 RX2 yX2_note wsX2_note) := goodIn_app (goodIn_of _ (by decide +kernel)) ggX6_changeFamily_X2_note
set_option maxRecDepth 20000 in
theorem ggX6_changeFamily_X1_change : GoodIn wsX6_changeFamily wsX1_change := goodIn_r _ [31, 32, 33, 34, 35, 36, 37, 38, 39, 40, 41, 42, 43, 44, 45, 46, 47, 48, 49, 50, 51, 52, 53, 54, 55, 56, 57, 58, 59, 60, 61, 62, 63, 64, 65, 66, 67, 68, 69, 70, 71, 72, 73, 74, 75, 76, 77, 78, 90, 91, 92, 93, 94, 95, 96, 97, 98, 99, 100, 101, 102, 103, 107, 108, 109, 110, 111, 112, 113, 114, 115, 116, 117, 118] (by decide +kernel) (by decide +kernel)
set_option maxRecDepth 20000 in
theorem gX6_changeFamily_X1_change : GoodIn wsX6_changeFamily (wsV RX6 230 RX1 yX1_change wsX1_change) := goodIn_app (goodIn_of _ (by decide +kernel)) ggX6_changeFamily_X1_change
set_option maxRecDepth 20000 in
theorem ggX6_changeFamily_X2_keep : GoodIn wsX6_changeFamily wsX2_keep := goodIn_r _ [82, 10, 16, 104, 105, 106] (by decide +kernel) (by decide +kernel)
set_option maxRecDepth 20000 in
theorem gX6_changeFamily_X2_keep : GoodIn wsX6_changeFamily (wsV RX6 85 RX2 yX2_keep wsX2_keep) := goodIn_app (goodIn_of _ (by decide +kernel)) ggX6_changeFamily_X2_keep
theorem dX6_changeFamily_0 : decode cX6_changeFamily 0 = .ok (.aload_n 0, 1) := by decide +kernel
theorem dX6_changeFamily_1 : decode cX6_changeFamily 1 = .ok (.getfield 19, 3) := by decide +kernel
theorem dX6_changeFamily_4 : decode cX6_changeFamily 4 = .ok (.aload_n 0, 1) := by decide +kernel
theorem dX6_changeFamily_5 : decode cX6_changeFamily 5 = .ok (.getfield 10, 3) := by decide +kernel
theorem dX6_changeFamily_8 : decode cX6_changeFamily 8 = .ok (.getfield 65, 3) := by decide +kernel
theorem dX6_changeFamily_11 : decode cX6_changeFamily 11 = .ok (.invokevirtual 69, 3) := by decide +kernel
theorem dX6_changeFamily_14 : decode cX6_changeFamily 14 = .ok (.aload_n 0, 1) := by decide +kernel
theorem dX6_changeFamily_15 : decode cX6_changeFamily 15 = .ok (.getfield 10, 3) := by decide +kernel
theorem dX6_changeFamily_18 : decode cX6_changeFamily 18 = .ok (.iload_n 1, 1) := by decide +kernel
theorem dX6_changeFamily_19 : decode cX6_changeFamily 19 = .ok (.iload_n 2, 1) := by decide +kernel
theorem dX6_changeFamily_20 : decode cX6_changeFamily 20 = .ok (.invokevirtual 230, 3) := by decide +kernel
theorem dX6_changeFamily_23 : decode cX6_changeFamily 23 = .ok (.aload_n 0, 1) := by decide +kernel
theorem dX6_changeFamily_24 : decode cX6_changeFamily 24 = .ok (.getfield 19, 3) := by decide +kernel
theorem dX6_changeFamily_27 : decode cX6_changeFamily 27 = .ok (.invokevirtual 85, 3) := by decide +kernel
theorem dX6_changeFamily_30 : decode cX6_changeFamily 30 = .ok (.aload_n 0, 1) := by decide +kernel
theorem dX6_changeFamily_31 : decode cX6_changeFamily 31 = .ok (.getfield 10, 3) := by decide +kernel
theorem dX6_changeFamily_34 : decode cX6_changeFamily 34 = .ok (.getfield 65, 3) := by decide +kernel
theorem dX6_changeFamily_37 : decode cX6_changeFamily 37 = .ok (.getfield 93, 3) := by decide +kernel
theorem dX6_changeFamily_40 : decode cX6_changeFamily 40 = .ok (.iload_n 1, 1) := by decide +kernel
theorem dX6_changeFamily_41 : decode cX6_changeFamily 41 = .ok (.iaload, 1) := by decide +kernel
theorem dX6_changeFamily_42 : decode cX6_changeFamily 42 = .ok (.ireturn, 1) := by decide +kernel
set_option maxRecDepth 20000 in
theorem ggX6_useSettings_X1_measure : GoodIn wsX6_useSettings wsX1_measure := goodIn_r _ [14, 15, 16, 17, 18, 19, 20, 21, 22, 23, 24, 25, 26, 27, 28, 29, 30, 31, 32, 33, 34, 35, 36, 37, 38, 39, 40, 41, 42, 43, 44, 45, 46, 47, 48, 49, 50, 51, 52, 53, 54, 55, 56, 57, 58, 59, 60, 61, 62, 63, 64, 65, 66, 67, 68, 69, 70, 71, 72, 73, 74, 75, 76, 77, 78, 79, 80, 81, 89, 90, 91, 92, 93, 94, 95, 96, 97, 98, 99, 100, 101, 102, 103, 104, 105, 110, 111, 112, 113, 114, 106, 107, 108, 109] (by decide +kernel) (by decide +kernel)
set_option maxRecDepth 20000 in
theorem gX6_useSettings_X1_measure : GoodIn wsX6_useSettings (wsV RX6 82 RX1 yX1_measure wsX1_measure) := goodIn_app (goodIn_of _ (by decide +kernel)) ggX6_useSettings_X1_measure
theorem dX6_useSettings_0 : decode cX6_useSettings 0 = .ok (.aload_n 0, 1) := by decide +kernel
theorem dX6_useSettings_1 : decode cX6_useSettings 1 = .ok (.getfield 10, 3) := by decide +kernel
theorem dX6_useSettings_4 : decode cX6_useSettings 4 = .ok (.getfield 117, 3) := by decide +kernel
theorem dX6_useSettings_7 : decode cX6_useSettings 7 = .ok (.astore_n 1, 1) := by decide +kernel
theorem dX6_useSettings_8 : decode cX6_useSettings 8 = .ok (.aload_n 1, 1) := by decide +kernel
theorem dX6_useSettings_9 : decode cX6_useSettings 9 = .ok (.aload_n 0, 1) := by decide +kernel
theorem dX6_useSettings_10 : decode cX6_useSettings 10 = .ok (.getfield 30, 3) := by decide +kernel
theorem dX6_useSettings_13 : decode cX6_useSettings 13 = .ok (.iconst 0, 1) := by decide +kernel
theorem dX6_useSettings_14 : decode cX6_useSettings 14 = .ok (.iaload, 1) := by decide +kernel
theorem dX6_useSettings_15 : decode cX6_useSettings 15 = .ok (.putfield 233, 3) := by decide +kernel
theorem dX6_useSettings_18 : decode cX6_useSettings 18 = .ok (.aload_n 1, 1) := by decide +kernel
theorem dX6_useSettings_19 : decode cX6_useSettings 19 = .ok (.aload_n 0, 1) := by decide +kernel
theorem dX6_useSettings_20 : decode cX6_useSettings 20 = .ok (.getfield 30, 3) := by decide +kernel
theorem dX6_useSettings_23 : decode cX6_useSettings 23 = .ok (.iconst 1, 1) := by decide +kernel
theorem dX6_useSettings_24 : decode cX6_useSettings 24 = .ok (.iaload, 1) := by decide +kernel
theorem dX6_useSettings_25 : decode cX6_useSettings 25 = .ok (.putfield 236, 3) := by decide +kernel
theorem dX6_useSettings_28 : decode cX6_useSettings 28 = .ok (.aload_n 1, 1) := by decide +kernel
theorem dX6_useSettings_29 : decode cX6_useSettings 29 = .ok (.aload_n 0, 1) := by decide +kernel
theorem dX6_useSettings_30 : decode cX6_useSettings 30 = .ok (.getfield 30, 3) := by decide +kernel
theorem dX6_useSettings_33 : decode cX6_useSettings 33 = .ok (.iconst 2, 1) := by decide +kernel
theorem dX6_useSettings_34 : decode cX6_useSettings 34 = .ok (.iaload, 1) := by decide +kernel
theorem dX6_useSettings_35 : decode cX6_useSettings 35 = .ok (.putfield 239, 3) := by decide +kernel
theorem dX6_useSettings_38 : decode cX6_useSettings 38 = .ok (.aload_n 1, 1) := by decide +kernel
theorem dX6_useSettings_39 : decode cX6_useSettings 39 = .ok (.aload_n 0, 1) := by decide +kernel
theorem dX6_useSettings_40 : decode cX6_useSettings 40 = .ok (.getfield 30, 3) := by decide +kernel
theorem dX6_useSettings_43 : decode cX6_useSettings 43 = .ok (.iconst 3, 1) := by decide +kernel
theorem dX6_useSettings_44 : decode cX6_useSettings 44 = .ok (.iaload, 1) := by decide +kernel
theorem dX6_useSettings_45 : decode cX6_useSettings 45 = .ok (.putfield 242, 3) := by decide +kernel
theorem dX6_useSettings_48 : decode cX6_useSettings 48 = .ok (.iconst 1, 1) := by decide +kernel
theorem dX6_useSettings_49 : decode cX6_useSettings 49 = .ok (.istore_n 2, 1) := by decide +kernel
theorem dX6_useSettings_50 : decode cX6_useSettings 50 = .ok (.iload_n 2, 1) := by decide +kernel
theorem dX6_useSettings_51 : decode cX6_useSettings 51 = .ok (.iconst 4, 1) := by decide +kernel
theorem dX6_useSettings_52 : decode cX6_useSettings 52 = .ok (.if_icmp .ge 29, 3) := by decide +kernel
theorem dX6_useSettings_55 : decode cX6_useSettings 55 = .ok (.aload_n 0, 1) := by decide +kernel
theorem dX6_useSettings_56 : decode cX6_useSettings 56 = .ok (.getfield 10, 3) := by decide +kernel
theorem dX6_useSettings_59 : decode cX6_useSettings 59 = .ok (.getfield 157, 3) := by decide +kernel
theorem dX6_useSettings_62 : decode cX6_useSettings 62 = .ok (.getfield 227, 3) := by decide +kernel
theorem dX6_useSettings_65 : decode cX6_useSettings 65 = .ok (.iload_n 2, 1) := by decide +kernel
theorem dX6_useSettings_66 : decode cX6_useSettings 66 = .ok (.aload_n 0, 1) := by decide +kernel
theorem dX6_useSettings_67 : decode cX6_useSettings 67 = .ok (.getfield 30, 3) := by decide +kernel
theorem dX6_useSettings_70 : decode cX6_useSettings 70 = .ok (.iconst 3, 1) := by decide +kernel
theorem dX6_useSettings_71 : decode cX6_useSettings 71 = .ok (.iload_n 2, 1) := by decide +kernel
theorem dX6_useSettings_72 : decode cX6_useSettings 72 = .ok (.iadd, 1) := by decide +kernel
theorem dX6_useSettings_73 : decode cX6_useSettings 73 = .ok (.iaload, 1) := by decide +kernel
theorem dX6_useSettings_74 : decode cX6_useSettings 74 = .ok (.iastore, 1) := by decide +kernel
theorem dX6_useSettings_75 : decode cX6_useSettings 75 = .ok (.iinc 2 1, 3) := by decide +kernel
theorem dX6_useSettings_78 : decode cX6_useSettings 78 = .ok (.goto (-28), 3) := by decide +kernel
theorem dX6_useSettings_81 : decode cX6_useSettings 81 = .ok (.aload_n 0, 1) := by decide +kernel
theorem dX6_useSettings_82 : decode cX6_useSettings 82 = .ok (.getfield 10, 3) := by decide +kernel
theorem dX6_useSettings_85 : decode cX6_useSettings 85 = .ok (.invokevirtual 82, 3) := by decide +kernel
theorem dX6_useSettings_88 : decode cX6_useSettings 88 = .ok (.return_, 1) := by decide +kernel
theorem dX6_isIn_0 : decode cX6_isIn 0 = .ok (.iload_n 0, 1) := by decide +kernel
theorem dX6_isIn_1 : decode cX6_isIn 1 = .ok (.iload_n 1, 1) := by decide +kernel
theorem dX6_isIn_2 : decode cX6_isIn 2 = .ok (.if_icmp .lt 12, 3) := by decide +kernel
theorem dX6_isIn_5 : decode cX6_isIn 5 = .ok (.iload_n 0, 1) := by decide +kernel
theorem dX6_isIn_6 : decode cX6_isIn 6 = .ok (.iload_n 2, 1) := by decide +kernel
theorem dX6_isIn_7 : decode cX6_isIn 7 = .ok (.if_icmp .gt 7, 3) := by decide +kernel
theorem dX6_isIn_10 : decode cX6_isIn 10 = .ok (.iconst 1, 1) := by decide +kernel
theorem dX6_isIn_11 : decode cX6_isIn 11 = .ok (.goto 4, 3) := by decide +kernel
theorem dX6_isIn_14 : decode cX6_isIn 14 = .ok (.iconst 0, 1) := by decide +kernel
theorem dX6_isIn_15 : decode cX6_isIn 15 = .ok (.ireturn, 1) := by decide +kernel
set_option maxRecDepth 20000 in
theorem ggX6_isCell_X6_isIn : GoodIn wsX6_isCell wsX6_isIn := goodIn_r _ [4] (by decide +kernel) (by decide +kernel)
set_option maxRecDepth 20000 in
theorem gX6_isCell_X6_isIn : GoodIn wsX6_isCell (va_wsS RX6 54 yX6_isIn wsX6_isIn) := goodIn_app (goodIn_of _ (by decide +kernel)) ggX6_isCell_X6_isIn
theorem dX6_isCell_0 : decode cX6_isCell 0 = .ok (.iload_n 0, 1) := by decide +kernel
theorem dX6_isCell_1 : decode cX6_isCell 1 = .ok (.iconst 0, 1) := by decide +kernel
theorem dX6_isCell_2 : decode cX6_isCell 2 = .ok (.bipush 79, 2) := by decide +kernel
theorem dX6_isCell_4 : decode cX6_isCell 4 = .ok (.invokestatic 54, 3) := by decide +kernel
theorem dX6_isCell_7 : decode cX6_isCell 7 = .ok (.ireturn, 1) := by decide +kernel
theorem dX6_total_0 : decode cX6_total 0 = .ok (.iconst 0, 1) := by decide +kernel
theorem dX6_total_1 : decode cX6_total 1 = .ok (.istore_n 1, 1) := by decide +kernel
theorem dX6_total_2 : decode cX6_total 2 = .ok (.aload_n 0, 1) := by decide +kernel
theorem dX6_total_3 : decode cX6_total 3 = .ok (.astore_n 2, 1) := by decide +kernel
theorem dX6_total_4 : decode cX6_total 4 = .ok (.aload_n 2, 1) := by decide +kernel
theorem dX6_total_5 : decode cX6_total 5 = .ok (.arraylength, 1) := by decide +kernel
theorem dX6_total_6 : decode cX6_total 6 = .ok (.istore_n 3, 1) := by decide +kernel
theorem dX6_total_7 : decode cX6_total 7 = .ok (.iconst 0, 1) := by decide +kernel
theorem dX6_total_8 : decode cX6_total 8 = .ok (.istore 4, 2) := by decide +kernel
theorem dX6_total_10 : decode cX6_total 10 = .ok (.iload 4, 2) := by decide +kernel
theorem dX6_total_12 : decode cX6_total 12 = .ok (.iload_n 3, 1) := by decide +kernel
theorem dX6_total_13 : decode cX6_total 13 = .ok (.if_icmp .ge 20, 3) := by decide +kernel
theorem dX6_total_16 : decode cX6_total 16 = .ok (.aload_n 2, 1) := by decide +kernel
theorem dX6_total_17 : decode cX6_total 17 = .ok (.iload 4, 2) := by decide +kernel
theorem dX6_total_19 : decode cX6_total 19 = .ok (.iaload, 1) := by decide +kernel
theorem dX6_total_20 : decode cX6_total 20 = .ok (.istore 5, 2) := by decide +kernel
theorem dX6_total_22 : decode cX6_total 22 = .ok (.iload_n 1, 1) := by decide +kernel
theorem dX6_total_23 : decode cX6_total 23 = .ok (.iload 5, 2) := by decide +kernel
theorem dX6_total_25 : decode cX6_total 25 = .ok (.iadd, 1) := by decide +kernel
theorem dX6_total_26 : decode cX6_total 26 = .ok (.istore_n 1, 1) := by decide +kernel
theorem dX6_total_27 : decode cX6_total 27 = .ok (.iinc 4 1, 3) := by decide +kernel
theorem dX6_total_30 : decode cX6_total 30 = .ok (.goto (-20), 3) := by decide +kernel
theorem dX6_total_33 : decode cX6_total 33 = .ok (.iload_n 1, 1) := by decide +kernel
theorem dX6_total_34 : decode cX6_total 34 = .ok (.ireturn, 1) := by decide +kernel
end
section
abbrev rmJ7_fill_53178 : Room := { frames := 0, cells := 0, slots := 0, locals := 0 }
def f_J7_fill_53178_L5 (k0 : Nat) (x1 : Int32) (x3 : Int32) (v5 : Int32 × St) : Option (((St)) ⊕ (Int32 × St)) := if x3 ≤ v5.1 then (some (.inl (v5.2))) else (gd v5.1 (lnC k0) (some (.inr ((v5.1 + (1 : Int32)), (sA v5.2 k0 v5.1 x1)))))
def f_J7_fill_53178_J5 (k0 : Nat) (x1 : Int32) (x2 : Int32) (x3 : Int32) (σ : St) : Option St := bnd (loopN (f_J7_fill_53178_L5 k0 x1 x3) 4096 (x2, σ)) (fun y5 => some y5)
def f_J7_fill_53178 (k0 : Nat) (x1 : Int32) (σ : St) : Option St := f_J7_fill_53178_J5 k0 x1 (0 : Int32) (Int32.ofNat (lnC k0)) σ
set_option maxHeartbeats 4000000 in
set_option maxRecDepth 100000 in
theorem c_J7_fill_53178 (l : Launch) (G : EV) (k0 : Nat) (hk0 : k0 < 18) (x1 : Int32) (σ : St) (r : St) (hE : f_J7_fill_53178 k0 x1 σ = some r) : MetV l G yJ7_fill_53178 wsJ7_fill_53178 rmJ7_fill_53178 [.ref (aD G k0), .int x1] (wC G σ) (wC G r) := by
  refine Met.of0 (Qf := PV G (wC G r)) (cc := cJ7_fill_53178) (maxL := 4) (ret := none) (by decide) rfl (by decide) ?_
  intro p e s m below meth c args A hx hb hr hts hown hlocks hml hin0 hA hS hP hK hD hX ls hl
  have hl : lv_has ls 4 [(0, .ref (aD G k0)), (1, .int x1)] := hl
  generalize hQ : MQ below (PV G (wC G r) A) args s 0 0 A = Q
  unfold f_J7_fill_53178 at hE
  have J_5 : ∀ (x1 : Int32) (x2 : Int32) (x3 : Int32) (σ : St) (H : Heap) (locs : List Loc) (ls : Array Slot), va_P G.1 vwCl (wC G σ) H → va_D A (wC G σ) → va_S A s.heap H locs → lv_has ls 4 [(0, .ref (aD G k0)), (1, .int x1), (2, .int x2), (3, .int x3)] → f_J7_fill_53178_J5 k0 x1 x2 x3 σ = some r → W p l e rmJ7_fill_53178 s m args below meth c H locs 0 0 Q (F0 m 5 ls []) := by
    intro x1 x2 x3 σ H locs ls hP hD hS hl hE
    unfold f_J7_fill_53178_J5 at hE
    obtain ⟨y5, hL, hE5⟩ := bnd_some hE
    refine loop_W (body := f_J7_fill_53178_L5 k0 x1 x3) (y := y5) (P := fun v5 => ∀ (H : Heap) (locs : List Loc) (ls : Array Slot), va_P G.1 vwCl (wC G v5.2) H → va_D A (wC G v5.2) → va_S A s.heap H locs → lv_has ls 4 [(0, .ref (aD G k0)), (1, .int x1), (2, .int v5.1), (3, .int x3)] → W p l e rmJ7_fill_53178 s m args below meth c H locs 0 0 Q (F0 m 5 ls [])) ?_ _ _ hL H locs ls hP hD hS hl
    clear hP hD hS hl hE hL
    intro v5 t5 hE hN5 hY5
    intro H locs ls hP hD hS hl
    unfold f_J7_fill_53178_L5 at hE
    refine lv_iload_n hx hb dJ7_fill_53178_5 rfl (lv_at hl 2 rfl) ?_
    refine lv_iload_n hx hb dJ7_fill_53178_6 rfl (lv_at hl 3 rfl) ?_
    refine lv_icmp_ge (tgt := 20) hx hb dJ7_fill_53178_7 (by decide) (fun c_ => ?_) (fun c_ => ?_)
    · have hE := ip c_ hE
      have e9 := hY5 _ (Option.some.inj hE).symm
      have hE := hE5
      rw [← e9] at hE
      rw [← hQ, ← Option.some.inj hE]
      exact rv hx hb hr hlocks hK hP hD hS dJ7_fill_53178_20
    · have hE := im c_ hE
      refine lv_aload_n hx hb dJ7_fill_53178_10 rfl (lv_at hl 0 rfl) ?_
      refine lv_iload_n hx hb dJ7_fill_53178_11 rfl (lv_at hl 2 rfl) ?_
      refine lv_iload_n hx hb dJ7_fill_53178_12 rfl (lv_at hl 1 rfl) ?_
      obtain ⟨h_i, hE⟩ := gd_some hE
      refine stC hx hb hK hP hD hS k0 hk0 h_i dJ7_fill_53178_13 (fun H locs hP hD hS => ?_)
      refine lv_iinc (v := (v5.1 + (1 : Int32))) (lv' := [(2, .int (v5.1 + (1 : Int32))), (0, .ref (aD G k0)), (1, .int x1), (3, .int x3)]) hx hb dJ7_fill_53178_14 hl (k := 2) rfl rfl (by decide) rfl (fun ls hl => ?_)
      refine lv_goto (tgt := 5) hx hb dJ7_fill_53178_17 (by decide) ?_
      exact hN5 _ (Option.some.inj hE).symm _ _ _ hP hD hS (lv_sub hl [1, 2, 0, 3] rfl)
  refine lv_iconst (v := (0 : Int32)) hx hb dJ7_fill_53178_0 (by decide) ?_
  refine lv_istore_n (lv' := [(2, .int (0 : Int32)), (0, .ref (aD G k0)), (1, .int x1)]) hx hb dJ7_fill_53178_1 rfl hl (by decide) rfl (fun ls hl => ?_)
  refine lv_aload_n hx hb dJ7_fill_53178_2 rfl (lv_at hl 1 rfl) ?_
  refine va_alen (v := (Int32.ofNat (lnC k0))) hx hb hK hP k0 0 (wC_at G _ k0 hk0) rfl rfl dJ7_fill_53178_3 ?_
  refine lv_istore_n (lv' := [(3, .int (Int32.ofNat (lnC k0))), (2, .int (0 : Int32)), (0, .ref (aD G k0)), (1, .int x1)]) hx hb dJ7_fill_53178_4 rfl hl (by decide) rfl (fun ls hl => ?_)
  exact J_5 x1 (0 : Int32) (Int32.ofNat (lnC k0)) σ _ _ _ hP hD hS (lv_sub hl [2, 3, 1, 0] rfl) hE
abbrev rmX6_isIn : Room := { frames := 0, cells := 0, slots := 0, locals := 0 }

def f_X6_isIn (x0 x1 x2 : Int32) : Option Int32 := if x0 < x1 then (some (0 : Int32)) else (if x2 < x0 then (some (0 : Int32)) else (some (1 : Int32)))
set_option maxHeartbeats 4000000 in
set_option maxRecDepth 100000 in
theorem c_X6_isIn (l : Launch) (G : EV)  (x0 x1 x2 : Int32) (σ : St) (r : Int32) (hE : f_X6_isIn x0 x1 x2 = some r) : MetI l G yX6_isIn wsX6_isIn rmX6_isIn [.int x0, .int x1, .int x2] (wC G σ) r (wC G σ) := by
  refine Met.of0 (Qf := PI G r (wC G σ)) (cc := cX6_isIn) (maxL := 3) (ret := (some .boolean)) (by decide) rfl (by decide) ?_
  intro p e s m below meth c args A hx hb hr hts hown hlocks hml hin0 hA hS hP hK hD hX ls hl
  have hl : lv_has ls 3 [(0, .int x0), (1, .int x1), (2, .int x2)] := hl
  generalize hQ : MQ below (PI G r (wC G σ) A) args s 0 0 A = Q
  unfold f_X6_isIn at hE
  refine lv_iload_n hx hb dX6_isIn_0 rfl (lv_at hl 0 rfl) ?_
  refine lv_iload_n hx hb dX6_isIn_1 rfl (lv_at hl 1 rfl) ?_
  refine lv_icmp_lt (tgt := 14) hx hb dX6_isIn_2 (by decide) (fun c_ => ?_) (fun c_ => ?_)
  · have hE := ip c_ hE
    refine lv_iconst (v := (0 : Int32)) hx hb dX6_isIn_14 (by decide) ?_
    rw [← hQ, ← Option.some.inj hE]
    exact rz hx hb hr hlocks hK hP hD hS rfl dX6_isIn_15
  · have hE := im c_ hE
    refine lv_iload_n hx hb dX6_isIn_5 rfl (lv_at hl 0 rfl) ?_
    refine lv_iload_n hx hb dX6_isIn_6 rfl (lv_at hl 2 rfl) ?_
    refine lv_icmp_gt (tgt := 14) hx hb dX6_isIn_7 (by decide) (fun c_ => ?_) (fun c_ => ?_)
    · have hE := ip c_ hE
      refine lv_iconst (v := (0 : Int32)) hx hb dX6_isIn_14 (by decide) ?_
      rw [← hQ, ← Option.some.inj hE]
      exact rz hx hb hr hlocks hK hP hD hS rfl dX6_isIn_15
    · have hE := im c_ hE
      refine lv_iconst (v := (1 : Int32)) hx hb dX6_isIn_10 (by decide) ?_
      refine lv_goto (tgt := 15) hx hb dX6_isIn_11 (by decide) ?_
      rw [← hQ, ← Option.some.inj hE]
      exact rz hx hb hr hlocks hK hP hD hS rfl dX6_isIn_15
abbrev rmX6_isCell : Room := { frames := 1, cells := 0, slots := 0, locals := 22 }

def f_X6_isCell (x0 : Int32) : Option Int32 := bnd (f_X6_isIn x0 (0 : Int32) (79 : Int32)) (fun r1 => gb r1 (some r1))
set_option maxHeartbeats 4000000 in
set_option maxRecDepth 100000 in
theorem c_X6_isCell (l : Launch) (G : EV)  (x0 : Int32) (σ : St) (r : Int32) (hE : f_X6_isCell x0 = some r) : MetI l G yX6_isCell wsX6_isCell rmX6_isCell [.int x0] (wC G σ) r (wC G σ) := by
  refine Met.of0 (Qf := PI G r (wC G σ)) (cc := cX6_isCell) (maxL := 1) (ret := (some .boolean)) (by decide) rfl (by decide) ?_
  intro p e s m below meth c args A hx hb hr hts hown hlocks hml hin0 hA hS hP hK hD hX ls hl
  have hl : lv_has ls 1 [(0, .int x0)] := hl
  generalize hQ : MQ below (PI G r (wC G σ) A) args s 0 0 A = Q
  unfold f_X6_isCell at hE
  refine lv_iload_n hx hb dX6_isCell_0 rfl (lv_at hl 0 rfl) ?_
  refine lv_iconst (v := (0 : Int32)) hx hb dX6_isCell_1 (by decide) ?_
  refine lv_bipush (v := (79 : Int32)) hx hb dX6_isCell_2 (by decide) ?_
  obtain ⟨r1, hC, hE⟩ := bnd_some hE
  refine ci (va_runS (As := [.int x0, .int (0 : Int32), .int (79 : Int32)]) (rest := []) ⟨hx, hb, hml, hown, hts⟩ (c_X6_isIn l G x0 (0 : Int32) (79 : Int32) σ r1 hC _) (va_cwS 3 hts gX6_isCell_X6_isIn rfl rfl rfl (by decide +kernel) ⟨Nat.le_of_ble_eq_true rfl, Nat.le_of_ble_eq_true rfl⟩) (preS hK hP hD hS hA hX) rfl rfl hl.1 rfl (lv_room (Nat.le_of_ble_eq_true rfl)) dX6_isCell_4 ⟨Nat.le_of_ble_eq_true rfl, Nat.le_of_ble_eq_true rfl⟩) hD hS hA (fun H locs hP hD hS => ?_)
  obtain ⟨h_n, hE⟩ := gb_some hE
  rw [← hQ, ← Option.some.inj hE]
  exact rz hx hb hr hlocks hK hP hD hS h_n dX6_isCell_7
abbrev rmX6_total : Room := { frames := 0, cells := 0, slots := 0, locals := 0 }
def f_X6_total_L10 (k0 : Nat) (x3 : Int32) (σ : St) (v10 : Int32 × Int32) : Option (((Int32)) ⊕ (Int32 × Int32)) := if x3 ≤ v10.2 then (some (.inl (v10.1))) else (gd v10.2 (lnC k0) (some (.inr ((v10.1 + (rd σ k0 v10.2)), (v10.2 + (1 : Int32))))))
def f_X6_total_J10 (k0 : Nat) (x1 : Int32) (x3 : Int32) (x4 : Int32) (σ : St) : Option Int32 := bnd (loopN (f_X6_total_L10 k0 x3 σ) 4096 (x1, x4)) (fun y10 => some y10)
def f_X6_total (k0 : Nat) (σ : St) : Option Int32 := f_X6_total_J10 k0 (0 : Int32) (Int32.ofNat (lnC k0)) (0 : Int32) σ
set_option maxHeartbeats 4000000 in
set_option maxRecDepth 100000 in
theorem c_X6_total (l : Launch) (G : EV) (k0 : Nat) (hk0 : k0 < 18)  (σ : St) (r : Int32) (hE : f_X6_total k0 σ = some r) : MetI l G yX6_total wsX6_total rmX6_total [.ref (aD G k0)] (wC G σ) r (wC G σ) := by
  refine Met.of0 (Qf := PI G r (wC G σ)) (cc := cX6_total) (maxL := 6) (ret := (some .int)) (by decide) rfl (by decide) ?_
  intro p e s m below meth c args A hx hb hr hts hown hlocks hml hin0 hA hS hP hK hD hX ls hl
  have hl : lv_has ls 6 [(0, .ref (aD G k0))] := hl
  generalize hQ : MQ below (PI G r (wC G σ) A) args s 0 0 A = Q
  unfold f_X6_total at hE
  have J_10 : ∀ (x1 : Int32) (x3 : Int32) (x4 : Int32) (H : Heap) (locs : List Loc) (ls : Array Slot), va_P G.1 vwCl (wC G σ) H → va_D A (wC G σ) → va_S A s.heap H locs → lv_has ls 6 [(1, .int x1), (2, .ref (aD G k0)), (3, .int x3), (4, .int x4)] → f_X6_total_J10 k0 x1 x3 x4 σ = some r → W p l e rmX6_total s m args below meth c H locs 0 0 Q (F0 m 10 ls []) := by
    intro x1 x3 x4 H locs ls hP hD hS hl hE
    unfold f_X6_total_J10 at hE
    obtain ⟨y10, hL, hE10⟩ := bnd_some hE
    refine loop_W (body := f_X6_total_L10 k0 x3 σ) (y := y10) (P := fun v10 => ∀ (H : Heap) (locs : List Loc) (ls : Array Slot), va_P G.1 vwCl (wC G σ) H → va_D A (wC G σ) → va_S A s.heap H locs → lv_has ls 6 [(1, .int v10.1), (2, .ref (aD G k0)), (3, .int x3), (4, .int v10.2)] → W p l e rmX6_total s m args below meth c H locs 0 0 Q (F0 m 10 ls [])) ?_ _ _ hL H locs ls hP hD hS hl
    clear hP hD hS hl hE hL
    intro v10 t10 hE hN10 hY10
    intro H locs ls hP hD hS hl
    unfold f_X6_total_L10 at hE
    refine lv_iload hx hb dX6_total_10 (lv_at hl 3 rfl) ?_
    refine lv_iload_n hx hb dX6_total_12 rfl (lv_at hl 2 rfl) ?_
    refine lv_icmp_ge (tgt := 33) hx hb dX6_total_13 (by decide) (fun c_ => ?_) (fun c_ => ?_)
    · have hE := ip c_ hE
      have e9 := hY10 _ (Option.some.inj hE).symm
      have hE := hE10
      rw [← e9] at hE
      refine lv_iload_n hx hb dX6_total_33 rfl (lv_at hl 0 rfl) ?_
      rw [← hQ, ← Option.some.inj hE]
      exact ri hx hb hr hlocks hK hP hD hS dX6_total_34
    · have hE := im c_ hE
      refine lv_aload_n hx hb dX6_total_16 rfl (lv_at hl 1 rfl) ?_
      refine lv_iload hx hb dX6_total_17 (lv_at hl 3 rfl) ?_
      obtain ⟨h_i, hE⟩ := gd_some hE
      refine ldC hx hb hK hP k0 hk0 h_i dX6_total_19 ?_
      refine lv_istore (lv' := [(5, .int (rd σ k0 v10.2)), (1, .int v10.1), (2, .ref (aD G k0)), (3, .int x3), (4, .int v10.2)]) hx hb dX6_total_20 hl (by decide) rfl (fun ls hl => ?_)
      refine lv_iload_n hx hb dX6_total_22 rfl (lv_at hl 1 rfl) ?_
      refine lv_iload hx hb dX6_total_23 (lv_at hl 0 rfl) ?_
      refine lv_iadd hx hb dX6_total_25 ?_
      refine lv_istore_n (lv' := [(1, .int (v10.1 + (rd σ k0 v10.2))), (5, .int (rd σ k0 v10.2)), (2, .ref (aD G k0)), (3, .int x3), (4, .int v10.2)]) hx hb dX6_total_26 rfl hl (by decide) rfl (fun ls hl => ?_)
      refine lv_iinc (v := (v10.2 + (1 : Int32))) (lv' := [(4, .int (v10.2 + (1 : Int32))), (1, .int (v10.1 + (rd σ k0 v10.2))), (5, .int (rd σ k0 v10.2)), (2, .ref (aD G k0)), (3, .int x3)]) hx hb dX6_total_27 hl (k := 4) rfl rfl (by decide) rfl (fun ls hl => ?_)
      refine lv_goto (tgt := 10) hx hb dX6_total_30 (by decide) ?_
      exact hN10 _ (Option.some.inj hE).symm _ _ _ hP hD hS (lv_sub hl [1, 3, 4, 0] rfl)
  refine lv_iconst (v := (0 : Int32)) hx hb dX6_total_0 (by decide) ?_
  refine lv_istore_n (lv' := [(1, .int (0 : Int32)), (0, .ref (aD G k0))]) hx hb dX6_total_1 rfl hl (by decide) rfl (fun ls hl => ?_)
  refine lv_aload_n hx hb dX6_total_2 rfl (lv_at hl 1 rfl) ?_
  refine lv_astore_n (lv' := [(2, .ref (aD G k0)), (1, .int (0 : Int32)), (0, .ref (aD G k0))]) hx hb dX6_total_3 rfl hl (by decide) rfl (fun ls hl => ?_)
  refine lv_aload_n hx hb dX6_total_4 rfl (lv_at hl 0 rfl) ?_
  refine va_alen (v := (Int32.ofNat (lnC k0))) hx hb hK hP k0 0 (wC_at G _ k0 hk0) rfl rfl dX6_total_5 ?_
  refine lv_istore_n (lv' := [(3, .int (Int32.ofNat (lnC k0))), (2, .ref (aD G k0)), (1, .int (0 : Int32)), (0, .ref (aD G k0))]) hx hb dX6_total_6 rfl hl (by decide) rfl (fun ls hl => ?_)
  refine lv_iconst (v := (0 : Int32)) hx hb dX6_total_7 (by decide) ?_
  refine lv_istore (lv' := [(4, .int (0 : Int32)), (3, .int (Int32.ofNat (lnC k0))), (2, .ref (aD G k0)), (1, .int (0 : Int32)), (0, .ref (aD G k0))]) hx hb dX6_total_8 hl (by decide) rfl (fun ls hl => ?_)
  exact J_10 (0 : Int32) (Int32.ofNat (lnC k0)) (0 : Int32) _ _ _ hP hD hS (lv_sub hl [3, 2, 1, 0] rfl) hE
abbrev rmX0_part : Room := { frames := 0, cells := 0, slots := 0, locals := 0 }

def f_X0_part (x1 : Int32) (σ : St) : Option Nat := if x1 = (0 : Int32) then (some 0) else (if x1 = (1 : Int32) then (some 1) else (if x1 = (2 : Int32) then (some 2) else (if x1 = (3 : Int32) then (some 3) else (some 4))))
set_option maxHeartbeats 4000000 in
set_option maxRecDepth 100000 in
theorem c_X0_part (l : Launch) (G : EV)  (x1 : Int32) (σ : St) (r : Nat) (hE : f_X0_part x1 σ = some r) : MetR l G yX0_part wsX0_part rmX0_part [.ref (aD G 19), .int x1] (wC G σ) (aD G r) (wC G σ) := by
  refine Met.of0 (Qf := PR G (aD G r) (wC G σ)) (cc := cX0_part) (maxL := 2) (ret := (some (.array .int))) (by decide) rfl (by decide) ?_
  intro p e s m below meth c args A hx hb hr hts hown hlocks hml hin0 hA hS hP hK hD hX ls hl
  have hl : lv_has ls 2 [(0, .ref (aD G 19)), (1, .int x1)] := hl
  generalize hQ : MQ below (PR G (aD G r) (wC G σ) A) args s 0 0 A = Q
  unfold f_X0_part at hE
  refine lv_iload_n hx hb dX0_part_0 rfl (lv_at hl 1 rfl) ?_
  by_cases c_0 : x1 = (0 : Int32)
  · have hE := ip c_0 hE
    refine lv_tableIn (off := 31) (tgt := 32) hx hb dX0_part_1 (by rw [c_0]; decide) (by rw [c_0]; decide) (by rw [c_0]; rfl) (by decide) ?_
    refine lv_aload_n hx hb dX0_part_32 rfl (lv_at hl 0 rfl) ?_
    refine va_get (ci := 0) (v := .ref (aD G 0)) (C := RX0) (T := TX0) (N := 5) hx hb hts (fun _ h => List.mem_cons_of_mem _ (List.mem_append_right _ h)) hown hK hP 19 rfl rfl 0 (by decide) (hts (.fieldLink RX0 9 "FillCells$Field" "shapes" "[I") (List.mem_of_getElem? (i := 1) rfl)) (fun _ h9 => h9) rfl dX0_part_33 ?_
    rw [← hQ, ← Option.some.inj hE]
    exact ra hx hb hr hlocks hK hP hD hS dX0_part_36
  · have hE := im c_0 hE
    by_cases c_1 : x1 = (1 : Int32)
    · have hE := ip c_1 hE
      refine lv_tableIn (off := 36) (tgt := 37) hx hb dX0_part_1 (by rw [c_1]; decide) (by rw [c_1]; decide) (by rw [c_1]; rfl) (by decide) ?_
      refine lv_aload_n hx hb dX0_part_37 rfl (lv_at hl 0 rfl) ?_
      refine va_get (ci := 0) (v := .ref (aD G 1)) (C := RX0) (T := TX0) (N := 5) hx hb hts (fun _ h => List.mem_cons_of_mem _ (List.mem_append_right _ h)) hown hK hP 19 rfl rfl 1 (by decide) (hts (.fieldLink RX0 15 "FillCells$Field" "shut" "[I") (List.mem_of_getElem? (i := 2) rfl)) (fun _ h9 => h9) rfl dX0_part_38 ?_
      rw [← hQ, ← Option.some.inj hE]
      exact ra hx hb hr hlocks hK hP hD hS dX0_part_41
    · have hE := im c_1 hE
      by_cases c_2 : x1 = (2 : Int32)
      · have hE := ip c_2 hE
        refine lv_tableIn (off := 41) (tgt := 42) hx hb dX0_part_1 (by rw [c_2]; decide) (by rw [c_2]; decide) (by rw [c_2]; rfl) (by decide) ?_
        refine lv_aload_n hx hb dX0_part_42 rfl (lv_at hl 0 rfl) ?_
        refine va_get (ci := 0) (v := .ref (aD G 2)) (C := RX0) (T := TX0) (N := 5) hx hb hts (fun _ h => List.mem_cons_of_mem _ (List.mem_append_right _ h)) hown hK hP 19 rfl rfl 2 (by decide) (hts (.fieldLink RX0 18 "FillCells$Field" "net" "[I") (List.mem_of_getElem? (i := 3) rfl)) (fun _ h9 => h9) rfl dX0_part_43 ?_
        rw [← hQ, ← Option.some.inj hE]
        exact ra hx hb hr hlocks hK hP hD hS dX0_part_46
      · have hE := im c_2 hE
        by_cases c_3 : x1 = (3 : Int32)
        · have hE := ip c_3 hE
          refine lv_tableIn (off := 46) (tgt := 47) hx hb dX0_part_1 (by rw [c_3]; decide) (by rw [c_3]; decide) (by rw [c_3]; rfl) (by decide) ?_
          refine lv_aload_n hx hb dX0_part_47 rfl (lv_at hl 0 rfl) ?_
          refine va_get (ci := 0) (v := .ref (aD G 3)) (C := RX0) (T := TX0) (N := 5) hx hb hts (fun _ h => List.mem_cons_of_mem _ (List.mem_append_right _ h)) hown hK hP 19 rfl rfl 3 (by decide) (hts (.fieldLink RX0 21 "FillCells$Field" "twins" "[I") (List.mem_of_getElem? (i := 4) rfl)) (fun _ h9 => h9) rfl dX0_part_48 ?_
          rw [← hQ, ← Option.some.inj hE]
          exact ra hx hb hr hlocks hK hP hD hS dX0_part_51
        · have hE := im c_3 hE
          refine lv_tableOut (tgt := 52) hx hb dX0_part_1 (by have q0 := lv_neT (a := 0) c_0 (by decide); have q1 := lv_neT (a := 1) c_1 (by decide); have q2 := lv_neT (a := 2) c_2 (by decide); have q3 := lv_neT (a := 3) c_3 (by decide); omega) (by decide) ?_
          refine lv_aload_n hx hb dX0_part_52 rfl (lv_at hl 0 rfl) ?_
          refine va_get (ci := 0) (v := .ref (aD G 4)) (C := RX0) (T := TX0) (N := 5) hx hb hts (fun _ h => List.mem_cons_of_mem _ (List.mem_append_right _ h)) hown hK hP 19 rfl rfl 4 (by decide) (hts (.fieldLink RX0 24 "FillCells$Field" "fill" "[I") (List.mem_of_getElem? (i := 5) rfl)) (fun _ h9 => h9) rfl dX0_part_53 ?_
          rw [← hQ, ← Option.some.inj hE]
          exact ra hx hb hr hlocks hK hP hD hS dX0_part_56
abbrev rmX0_sumOf : Room := { frames := 0, cells := 0, slots := 0, locals := 0 }

def f_X0_sumOf (x1 : Int32) (σ : St) : Option Int32 := gd x1 80 (gd x1 80 (some ((rd σ 0 x1) + (rd σ 4 x1))))
set_option maxHeartbeats 4000000 in
set_option maxRecDepth 100000 in
theorem c_X0_sumOf (l : Launch) (G : EV)  (x1 : Int32) (σ : St) (r : Int32) (hE : f_X0_sumOf x1 σ = some r) : MetI l G yX0_sumOf wsX0_sumOf rmX0_sumOf [.ref (aD G 19), .int x1] (wC G σ) r (wC G σ) := by
  refine Met.of0 (Qf := PI G r (wC G σ)) (cc := cX0_sumOf) (maxL := 2) (ret := (some .int)) (by decide) rfl (by decide) ?_
  intro p e s m below meth c args A hx hb hr hts hown hlocks hml hin0 hA hS hP hK hD hX ls hl
  have hl : lv_has ls 2 [(0, .ref (aD G 19)), (1, .int x1)] := hl
  generalize hQ : MQ below (PI G r (wC G σ) A) args s 0 0 A = Q
  unfold f_X0_sumOf at hE
  refine lv_aload_n hx hb dX0_sumOf_0 rfl (lv_at hl 0 rfl) ?_
  refine va_get (ci := 0) (v := .ref (aD G 0)) (C := RX0) (T := TX0) (N := 5) hx hb hts (fun _ h => List.mem_cons_of_mem _ (List.mem_append_right _ h)) hown hK hP 19 rfl rfl 0 (by decide) (hts (.fieldLink RX0 9 "FillCells$Field" "shapes" "[I") (List.mem_of_getElem? (i := 1) rfl)) (fun _ h9 => h9) rfl dX0_sumOf_1 ?_
  refine lv_iload_n hx hb dX0_sumOf_4 rfl (lv_at hl 1 rfl) ?_
  obtain ⟨h_i, hE⟩ := gd_some hE
  refine ldC hx hb hK hP 0 (by decide) h_i dX0_sumOf_5 ?_
  refine lv_aload_n hx hb dX0_sumOf_6 rfl (lv_at hl 0 rfl) ?_
  refine va_get (ci := 0) (v := .ref (aD G 4)) (C := RX0) (T := TX0) (N := 5) hx hb hts (fun _ h => List.mem_cons_of_mem _ (List.mem_append_right _ h)) hown hK hP 19 rfl rfl 4 (by decide) (hts (.fieldLink RX0 24 "FillCells$Field" "fill" "[I") (List.mem_of_getElem? (i := 2) rfl)) (fun _ h9 => h9) rfl dX0_sumOf_7 ?_
  refine lv_iload_n hx hb dX0_sumOf_10 rfl (lv_at hl 1 rfl) ?_
  obtain ⟨h_i, hE⟩ := gd_some hE
  refine ldC hx hb hK hP 4 (by decide) h_i dX0_sumOf_11 ?_
  refine lv_iadd hx hb dX0_sumOf_12 ?_
  rw [← hQ, ← Option.some.inj hE]
  exact ri hx hb hr hlocks hK hP hD hS dX0_sumOf_13
abbrev rmX0_room : Room := { frames := 0, cells := 0, slots := 0, locals := 0 }

def f_X0_room (x1 : Int32) (σ : St) : Option Int32 := gd x1 80 (if (rd σ 1 x1) = 0 then (gd x1 80 (some ((9 : Int32) - (rd σ 0 x1)))) else (some (0 : Int32)))
set_option maxHeartbeats 4000000 in
set_option maxRecDepth 100000 in
theorem c_X0_room (l : Launch) (G : EV)  (x1 : Int32) (σ : St) (r : Int32) (hE : f_X0_room x1 σ = some r) : MetI l G yX0_room wsX0_room rmX0_room [.ref (aD G 19), .int x1] (wC G σ) r (wC G σ) := by
  refine Met.of0 (Qf := PI G r (wC G σ)) (cc := cX0_room) (maxL := 2) (ret := (some .int)) (by decide) rfl (by decide) ?_
  intro p e s m below meth c args A hx hb hr hts hown hlocks hml hin0 hA hS hP hK hD hX ls hl
  have hl : lv_has ls 2 [(0, .ref (aD G 19)), (1, .int x1)] := hl
  generalize hQ : MQ below (PI G r (wC G σ) A) args s 0 0 A = Q
  unfold f_X0_room at hE
  refine lv_aload_n hx hb dX0_room_0 rfl (lv_at hl 0 rfl) ?_
  refine va_get (ci := 0) (v := .ref (aD G 1)) (C := RX0) (T := TX0) (N := 5) hx hb hts (fun _ h => List.mem_cons_of_mem _ (List.mem_append_right _ h)) hown hK hP 19 rfl rfl 1 (by decide) (hts (.fieldLink RX0 15 "FillCells$Field" "shut" "[I") (List.mem_of_getElem? (i := 1) rfl)) (fun _ h9 => h9) rfl dX0_room_1 ?_
  refine lv_iload_n hx hb dX0_room_4 rfl (lv_at hl 1 rfl) ?_
  obtain ⟨h_i, hE⟩ := gd_some hE
  refine ldC hx hb hK hP 1 (by decide) h_i dX0_room_5 ?_
  refine lv_if_eq (tgt := 13) hx hb dX0_room_6 (by decide) (fun c_ => ?_) (fun c_ => ?_)
  · have hE := ip c_ hE
    refine lv_bipush (v := (9 : Int32)) hx hb dX0_room_13 (by decide) ?_
    refine lv_aload_n hx hb dX0_room_15 rfl (lv_at hl 0 rfl) ?_
    refine va_get (ci := 0) (v := .ref (aD G 0)) (C := RX0) (T := TX0) (N := 5) hx hb hts (fun _ h => List.mem_cons_of_mem _ (List.mem_append_right _ h)) hown hK hP 19 rfl rfl 0 (by decide) (hts (.fieldLink RX0 9 "FillCells$Field" "shapes" "[I") (List.mem_of_getElem? (i := 2) rfl)) (fun _ h9 => h9) rfl dX0_room_16 ?_
    refine lv_iload_n hx hb dX0_room_19 rfl (lv_at hl 1 rfl) ?_
    obtain ⟨h_i, hE⟩ := gd_some hE
    refine ldC hx hb hK hP 0 (by decide) h_i dX0_room_20 ?_
    refine lv_isub hx hb dX0_room_21 ?_
    rw [← hQ, ← Option.some.inj hE]
    exact ri hx hb hr hlocks hK hP hD hS dX0_room_22
  · have hE := im c_ hE
    refine lv_iconst (v := (0 : Int32)) hx hb dX0_room_9 (by decide) ?_
    refine lv_goto (tgt := 22) hx hb dX0_room_10 (by decide) ?_
    rw [← hQ, ← Option.some.inj hE]
    exact ri hx hb hr hlocks hK hP hD hS dX0_room_22
abbrev rmX0_countFilled : Room := { frames := 0, cells := 0, slots := 0, locals := 0 }
def f_X0_countFilled_L4 (σ : St) (v4 : Int32 × Int32) : Option (((Int32)) ⊕ (Int32 × Int32)) := if (80 : Int32) ≤ v4.2 then (some (.inl (v4.1))) else (gd v4.2 80 (if (rd σ 4 v4.2) ≤ 0 then (some (.inr (v4.1, (v4.2 + (1 : Int32))))) else (some (.inr ((v4.1 + (1 : Int32)), (v4.2 + (1 : Int32)))))))
def f_X0_countFilled_J4 (x1 : Int32) (x2 : Int32) (σ : St) : Option Int32 := bnd (loopN (f_X0_countFilled_L4 σ) 4096 (x1, x2)) (fun y4 => some y4)
def f_X0_countFilled (σ : St) : Option Int32 := f_X0_countFilled_J4 (0 : Int32) (0 : Int32) σ
set_option maxHeartbeats 4000000 in
set_option maxRecDepth 100000 in
theorem c_X0_countFilled (l : Launch) (G : EV)   (σ : St) (r : Int32) (hE : f_X0_countFilled σ = some r) : MetI l G yX0_countFilled wsX0_countFilled rmX0_countFilled [.ref (aD G 19)] (wC G σ) r (wC G σ) := by
  refine Met.of0 (Qf := PI G r (wC G σ)) (cc := cX0_countFilled) (maxL := 3) (ret := (some .int)) (by decide) rfl (by decide) ?_
  intro p e s m below meth c args A hx hb hr hts hown hlocks hml hin0 hA hS hP hK hD hX ls hl
  have hl : lv_has ls 3 [(0, .ref (aD G 19))] := hl
  generalize hQ : MQ below (PI G r (wC G σ) A) args s 0 0 A = Q
  unfold f_X0_countFilled at hE
  have J_4 : ∀ (x1 : Int32) (x2 : Int32) (H : Heap) (locs : List Loc) (ls : Array Slot), va_P G.1 vwCl (wC G σ) H → va_D A (wC G σ) → va_S A s.heap H locs → lv_has ls 3 [(0, .ref (aD G 19)), (1, .int x1), (2, .int x2)] → f_X0_countFilled_J4 x1 x2 σ = some r → W p l e rmX0_countFilled s m args below meth c H locs 0 0 Q (F0 m 4 ls []) := by
    intro x1 x2 H locs ls hP hD hS hl hE
    unfold f_X0_countFilled_J4 at hE
    obtain ⟨y4, hL, hE4⟩ := bnd_some hE
    refine loop_W (body := f_X0_countFilled_L4 σ) (y := y4) (P := fun v4 => ∀ (H : Heap) (locs : List Loc) (ls : Array Slot), va_P G.1 vwCl (wC G σ) H → va_D A (wC G σ) → va_S A s.heap H locs → lv_has ls 3 [(0, .ref (aD G 19)), (1, .int v4.1), (2, .int v4.2)] → W p l e rmX0_countFilled s m args below meth c H locs 0 0 Q (F0 m 4 ls [])) ?_ _ _ hL H locs ls hP hD hS hl
    clear hP hD hS hl hE hL
    intro v4 t4 hE hN4 hY4
    intro H locs ls hP hD hS hl
    unfold f_X0_countFilled_L4 at hE
    refine lv_iload_n hx hb dX0_countFilled_4 rfl (lv_at hl 2 rfl) ?_
    refine lv_bipush (v := (80 : Int32)) hx hb dX0_countFilled_5 (by decide) ?_
    refine lv_icmp_ge (tgt := 28) hx hb dX0_countFilled_7 (by decide) (fun c_ => ?_) (fun c_ => ?_)
    · have hE := ip c_ hE
      have e9 := hY4 _ (Option.some.inj hE).symm
      have hE := hE4
      rw [← e9] at hE
      refine lv_iload_n hx hb dX0_countFilled_28 rfl (lv_at hl 1 rfl) ?_
      rw [← hQ, ← Option.some.inj hE]
      exact ri hx hb hr hlocks hK hP hD hS dX0_countFilled_29
    · have hE := im c_ hE
      refine lv_aload_n hx hb dX0_countFilled_10 rfl (lv_at hl 0 rfl) ?_
      refine va_get (ci := 0) (v := .ref (aD G 4)) (C := RX0) (T := TX0) (N := 5) hx hb hts (fun _ h => List.mem_cons_of_mem _ (List.mem_append_right _ h)) hown hK hP 19 rfl rfl 4 (by decide) (hts (.fieldLink RX0 24 "FillCells$Field" "fill" "[I") (List.mem_of_getElem? (i := 1) rfl)) (fun _ h9 => h9) rfl dX0_countFilled_11 ?_
      refine lv_iload_n hx hb dX0_countFilled_14 rfl (lv_at hl 2 rfl) ?_
      obtain ⟨h_i, hE⟩ := gd_some hE
      refine ldC hx hb hK hP 4 (by decide) h_i dX0_countFilled_15 ?_
      refine lv_if_le (tgt := 22) hx hb dX0_countFilled_16 (by decide) (fun c_ => ?_) (fun c_ => ?_)
      · have hE := ip c_ hE
        refine lv_iinc (v := (v4.2 + (1 : Int32))) (lv' := [(2, .int (v4.2 + (1 : Int32))), (0, .ref (aD G 19)), (1, .int v4.1)]) hx hb dX0_countFilled_22 hl (k := 2) rfl rfl (by decide) rfl (fun ls hl => ?_)
        refine lv_goto (tgt := 4) hx hb dX0_countFilled_25 (by decide) ?_
        exact hN4 _ (Option.some.inj hE).symm _ _ _ hP hD hS (lv_sub hl [1, 2, 0] rfl)
      · have hE := im c_ hE
        refine lv_iinc (v := (v4.1 + (1 : Int32))) (lv' := [(1, .int (v4.1 + (1 : Int32))), (0, .ref (aD G 19)), (2, .int v4.2)]) hx hb dX0_countFilled_19 hl (k := 1) rfl rfl (by decide) rfl (fun ls hl => ?_)
        refine lv_iinc (v := (v4.2 + (1 : Int32))) (lv' := [(2, .int (v4.2 + (1 : Int32))), (1, .int (v4.1 + (1 : Int32))), (0, .ref (aD G 19))]) hx hb dX0_countFilled_22 hl (k := 2) rfl rfl (by decide) rfl (fun ls hl => ?_)
        refine lv_goto (tgt := 4) hx hb dX0_countFilled_25 (by decide) ?_
        exact hN4 _ (Option.some.inj hE).symm _ _ _ hP hD hS (lv_sub hl [2, 1, 0] rfl)
  refine lv_iconst (v := (0 : Int32)) hx hb dX0_countFilled_0 (by decide) ?_
  refine lv_istore_n (lv' := [(1, .int (0 : Int32)), (0, .ref (aD G 19))]) hx hb dX0_countFilled_1 rfl hl (by decide) rfl (fun ls hl => ?_)
  refine lv_iconst (v := (0 : Int32)) hx hb dX0_countFilled_2 (by decide) ?_
  refine lv_istore_n (lv' := [(2, .int (0 : Int32)), (1, .int (0 : Int32)), (0, .ref (aD G 19))]) hx hb dX0_countFilled_3 rfl hl (by decide) rfl (fun ls hl => ?_)
  exact J_4 (0 : Int32) (0 : Int32) _ _ _ hP hD hS (lv_sub hl [2, 1, 0] rfl) hE
abbrev rmX0_drawShapes : Room := { frames := 1, cells := 0, slots := 0, locals := 21 }
def f_X0_drawShapes_L15 (x3 : Int32) (v15 : Int64 × Int32 × St) : Option (((St)) ⊕ (Int64 × Int32 × St)) := if (80 : Int32) ≤ v15.2.1 then (some (.inl (v15.2.2))) else (dzl ((x3).toInt64) (gd v15.2.1 80 (some (.inr ((jlrem ((v15.1 * (1103515245 : Int64)) + (12345 : Int64)) (2147483648 : Int64)), (v15.2.1 + (1 : Int32)), (sA v15.2.2 0 v15.2.1 ((jlrem ((jlrem ((v15.1 * (1103515245 : Int64)) + (12345 : Int64)) (2147483648 : Int64)) / (65536 : Int64)) ((x3).toInt64)).toInt32)))))))
def f_X0_drawShapes_J15 (x3 : Int32) (x4 : Int64) (x6 : Int32) (σ : St) : Option St := bnd (loopN (f_X0_drawShapes_L15 x3) 4096 (x4, x6, σ)) (fun y15 => some y15)
def f_X0_drawShapes (x1 x2 : Int32) (σ : St) : Option St := f_X0_drawShapes_J15 ((jmax x2 (0 : Int32)) + (1 : Int32)) ((x1).toInt64) (0 : Int32) σ
set_option maxHeartbeats 4000000 in
set_option maxRecDepth 100000 in
theorem c_X0_drawShapes (l : Launch) (G : EV)  (x1 x2 : Int32) (σ : St) (r : St) (hE : f_X0_drawShapes x1 x2 σ = some r) : MetV l G yX0_drawShapes wsX0_drawShapes rmX0_drawShapes [.ref (aD G 19), .int x1, .int x2] (wC G σ) (wC G r) := by
  refine Met.of0 (Qf := PV G (wC G r)) (cc := cX0_drawShapes) (maxL := 7) (ret := none) (by decide) rfl (by decide) ?_
  intro p e s m below meth c args A hx hb hr hts hown hlocks hml hin0 hA hS hP hK hD hX ls hl
  have hl : lv_has ls 7 [(0, .ref (aD G 19)), (1, .int x1), (2, .int x2)] := hl
  generalize hQ : MQ below (PV G (wC G r) A) args s 0 0 A = Q
  unfold f_X0_drawShapes at hE
  have J_15 : ∀ (x3 : Int32) (x4 : Int64) (x6 : Int32) (σ : St) (H : Heap) (locs : List Loc) (ls : Array Slot), va_P G.1 vwCl (wC G σ) H → va_D A (wC G σ) → va_S A s.heap H locs → lv_has ls 7 [(0, .ref (aD G 19)), (3, .int x3), (4, .long x4), (6, .int x6)] → f_X0_drawShapes_J15 x3 x4 x6 σ = some r → W p l e rmX0_drawShapes s m args below meth c H locs 0 0 Q (F0 m 15 ls []) := by
    intro x3 x4 x6 σ H locs ls hP hD hS hl hE
    unfold f_X0_drawShapes_J15 at hE
    obtain ⟨y15, hL, hE15⟩ := bnd_some hE
    refine loop_W (body := f_X0_drawShapes_L15 x3) (y := y15) (P := fun v15 => ∀ (H : Heap) (locs : List Loc) (ls : Array Slot), va_P G.1 vwCl (wC G v15.2.2) H → va_D A (wC G v15.2.2) → va_S A s.heap H locs → lv_has ls 7 [(0, .ref (aD G 19)), (3, .int x3), (4, .long v15.1), (6, .int v15.2.1)] → W p l e rmX0_drawShapes s m args below meth c H locs 0 0 Q (F0 m 15 ls [])) ?_ _ _ hL H locs ls hP hD hS hl
    clear hP hD hS hl hE hL
    intro v15 t15 hE hN15 hY15
    intro H locs ls hP hD hS hl
    unfold f_X0_drawShapes_L15 at hE
    refine lv_iload hx hb dX0_drawShapes_15 (lv_at hl 3 rfl) ?_
    refine lv_bipush (v := (80 : Int32)) hx hb dX0_drawShapes_17 (by decide) ?_
    refine lv_icmp_ge (tgt := 61) hx hb dX0_drawShapes_19 (by decide) (fun c_ => ?_) (fun c_ => ?_)
    · have hE := ip c_ hE
      have e9 := hY15 _ (Option.some.inj hE).symm
      have hE := hE15
      rw [← e9] at hE
      rw [← hQ, ← Option.some.inj hE]
      exact rv hx hb hr hlocks hK hP hD hS dX0_drawShapes_61
    · have hE := im c_ hE
      refine lv_lload hx hb dX0_drawShapes_22 (lv_at hl 2 rfl) ?_
      refine lv_ldc2 (v := (1103515245 : Int64)) hx hb hown (hts (.constantLong RX0 33 (1103515245)) (List.mem_of_getElem? (i := 5) rfl)) dX0_drawShapes_24 ?_
      refine lv_lmul hx hb dX0_drawShapes_27 ?_
      refine lv_ldc2 (v := (12345 : Int64)) hx hb hown (hts (.constantLong RX0 35 (12345)) (List.mem_of_getElem? (i := 6) rfl)) dX0_drawShapes_28 ?_
      refine lv_ladd hx hb dX0_drawShapes_31 ?_
      refine lv_ldc2 (v := (2147483648 : Int64)) hx hb hown (hts (.constantLong RX0 37 (2147483648)) (List.mem_of_getElem? (i := 7) rfl)) dX0_drawShapes_32 ?_
      refine lv_lrem hx hb dX0_drawShapes_35 (by decide) ?_
      refine lv_lstore (lv' := [(4, .long (jlrem ((v15.1 * (1103515245 : Int64)) + (12345 : Int64)) (2147483648 : Int64))), (0, .ref (aD G 19)), (3, .int x3), (6, .int v15.2.1)]) hx hb dX0_drawShapes_36 hl (by decide) rfl (fun ls hl => ?_)
      refine lv_aload_n hx hb dX0_drawShapes_38 rfl (lv_at hl 1 rfl) ?_
      refine va_get (ci := 0) (v := .ref (aD G 0)) (C := RX0) (T := TX0) (N := 5) hx hb hts (fun _ h => List.mem_cons_of_mem _ (List.mem_append_right _ h)) hown hK hP 19 rfl rfl 0 (by decide) (hts (.fieldLink RX0 9 "FillCells$Field" "shapes" "[I") (List.mem_of_getElem? (i := 8) rfl)) (fun _ h9 => h9) rfl dX0_drawShapes_39 ?_
      refine lv_iload hx hb dX0_drawShapes_42 (lv_at hl 3 rfl) ?_
      refine lv_lload hx hb dX0_drawShapes_44 (lv_at hl 0 rfl) ?_
      refine lv_ldc2 (v := (65536 : Int64)) hx hb hown (hts (.constantLong RX0 39 (65536)) (List.mem_of_getElem? (i := 9) rfl)) dX0_drawShapes_46 ?_
      refine lv_ldiv hx hb dX0_drawShapes_49 (by decide) ?_
      refine lv_iload_n hx hb dX0_drawShapes_50 rfl (lv_at hl 2 rfl) ?_
      refine lv_i2l hx hb dX0_drawShapes_51 rfl ?_
      obtain ⟨h_z, hE⟩ := dzl_some hE
      refine lv_lrem hx hb dX0_drawShapes_52 h_z ?_
      refine lv_l2i hx hb dX0_drawShapes_53 rfl ?_
      obtain ⟨h_i, hE⟩ := gd_some hE
      refine stC hx hb hK hP hD hS 0 (by decide) h_i dX0_drawShapes_54 (fun H locs hP hD hS => ?_)
      refine lv_iinc (v := (v15.2.1 + (1 : Int32))) (lv' := [(6, .int (v15.2.1 + (1 : Int32))), (4, .long (jlrem ((v15.1 * (1103515245 : Int64)) + (12345 : Int64)) (2147483648 : Int64))), (0, .ref (aD G 19)), (3, .int x3)]) hx hb dX0_drawShapes_55 hl (k := 3) rfl rfl (by decide) rfl (fun ls hl => ?_)
      refine lv_goto (tgt := 15) hx hb dX0_drawShapes_58 (by decide) ?_
      exact hN15 _ (Option.some.inj hE).symm _ _ _ hP hD hS (lv_sub hl [2, 3, 1, 0] rfl)
  refine lv_iload_n hx hb dX0_drawShapes_0 rfl (lv_at hl 2 rfl) ?_
  refine lv_iconst (v := (0 : Int32)) hx hb dX0_drawShapes_1 (by decide) ?_
  refine va_mmax hx hb (hml.trans hl.1.symm) hown (hts (.methodLink RX0 27 Lib.Math.max.name) (List.mem_of_getElem? (i := 1) rfl)) (hts (.static Lib.Math.max.name) (List.mem_of_getElem? (i := 2) rfl)) (hts (.initialized "java/lang/Math") (List.mem_of_getElem? (i := 3) rfl)) (hts (.code Lib.Math.max.name Lib.Math.max.code 2 (some .int)) (List.mem_of_getElem? (i := 4) rfl)) (Nat.le_of_ble_eq_true rfl) (Nat.le_of_ble_eq_true rfl) (Nat.le_of_ble_eq_true rfl) (Nat.le_of_ble_eq_true rfl) dX0_drawShapes_2 ?_
  refine lv_iconst (v := (1 : Int32)) hx hb dX0_drawShapes_5 (by decide) ?_
  refine lv_iadd hx hb dX0_drawShapes_6 ?_
  refine lv_istore_n (lv' := [(3, .int ((jmax x2 (0 : Int32)) + (1 : Int32))), (0, .ref (aD G 19)), (1, .int x1), (2, .int x2)]) hx hb dX0_drawShapes_7 rfl hl (by decide) rfl (fun ls hl => ?_)
  refine lv_iload_n hx hb dX0_drawShapes_8 rfl (lv_at hl 2 rfl) ?_
  refine lv_i2l hx hb dX0_drawShapes_9 rfl ?_
  refine lv_lstore (lv' := [(4, .long ((x1).toInt64)), (3, .int ((jmax x2 (0 : Int32)) + (1 : Int32))), (0, .ref (aD G 19)), (1, .int x1), (2, .int x2)]) hx hb dX0_drawShapes_10 hl (by decide) rfl (fun ls hl => ?_)
  refine lv_iconst (v := (0 : Int32)) hx hb dX0_drawShapes_12 (by decide) ?_
  refine lv_istore (lv' := [(6, .int (0 : Int32)), (4, .long ((x1).toInt64)), (3, .int ((jmax x2 (0 : Int32)) + (1 : Int32))), (0, .ref (aD G 19)), (1, .int x1), (2, .int x2)]) hx hb dX0_drawShapes_13 hl (by decide) rfl (fun ls hl => ?_)
  exact J_15 ((jmax x2 (0 : Int32)) + (1 : Int32)) ((x1).toInt64) (0 : Int32) σ _ _ _ hP hD hS (lv_sub hl [3, 2, 1, 0] rfl) hE
abbrev rmX0_makeAlike : Room := { frames := 1, cells := 0, slots := 0, locals := 21 }
def f_X0_makeAlike_L40 (x1 : Int32) (x2 : Int32) (v40 : Int32 × St) : Option (((St)) ⊕ (Int32 × St)) := if (80 : Int32) ≤ v40.1 then (some (.inl (v40.2))) else (gd v40.1 80 (if ¬ (rd v40.2 3 v40.1) = x1 then (some (.inr ((v40.1 + (1 : Int32)), v40.2))) else (gd v40.1 80 (some (.inr ((v40.1 + (1 : Int32)), (sA v40.2 4 v40.1 x2)))))))
def f_X0_makeAlike_J40 (x1 : Int32) (x2 : Int32) (x3 : Int32) (σ : St) : Option St := bnd (loopN (f_X0_makeAlike_L40 x1 x2) 4096 (x3, σ)) (fun y40 => some y40)
def f_X0_makeAlike_J38 (x1 : Int32) (x2 : Int32) (σ : St) : Option St := f_X0_makeAlike_J40 x1 x2 (0 : Int32) σ
def f_X0_makeAlike_L5 (x1 : Int32) (σ : St) (v5 : Int32 × Int32) : Option (((Int32)) ⊕ (Int32 × Int32)) := if (80 : Int32) ≤ v5.2 then (some (.inl (v5.1))) else (gd v5.2 80 (if ¬ (rd σ 3 v5.2) = x1 then (some (.inr (v5.1, (v5.2 + (1 : Int32))))) else (gd v5.2 80 (some (.inr ((jmin v5.1 (rd σ 4 v5.2)), (v5.2 + (1 : Int32))))))))
def f_X0_makeAlike_J5 (x1 : Int32) (x2 : Int32) (x3 : Int32) (σ : St) : Option St := bnd (loopN (f_X0_makeAlike_L5 x1 σ) 4096 (x2, x3)) (fun y5 => f_X0_makeAlike_J38 x1 y5 σ)
def f_X0_makeAlike (x1 : Int32) (σ : St) : Option St := f_X0_makeAlike_J5 x1 (9 : Int32) (0 : Int32) σ
set_option maxHeartbeats 4000000 in
set_option maxRecDepth 100000 in
theorem c_X0_makeAlike (l : Launch) (G : EV)  (x1 : Int32) (σ : St) (r : St) (hE : f_X0_makeAlike x1 σ = some r) : MetV l G yX0_makeAlike wsX0_makeAlike rmX0_makeAlike [.ref (aD G 19), .int x1] (wC G σ) (wC G r) := by
  refine Met.of0 (Qf := PV G (wC G r)) (cc := cX0_makeAlike) (maxL := 4) (ret := none) (by decide) rfl (by decide) ?_
  intro p e s m below meth c args A hx hb hr hts hown hlocks hml hin0 hA hS hP hK hD hX ls hl
  have hl : lv_has ls 4 [(0, .ref (aD G 19)), (1, .int x1)] := hl
  generalize hQ : MQ below (PV G (wC G r) A) args s 0 0 A = Q
  unfold f_X0_makeAlike at hE
  have J_40 : ∀ (x1 : Int32) (x2 : Int32) (x3 : Int32) (σ : St) (H : Heap) (locs : List Loc) (ls : Array Slot), va_P G.1 vwCl (wC G σ) H → va_D A (wC G σ) → va_S A s.heap H locs → lv_has ls 4 [(0, .ref (aD G 19)), (1, .int x1), (2, .int x2), (3, .int x3)] → f_X0_makeAlike_J40 x1 x2 x3 σ = some r → W p l e rmX0_makeAlike s m args below meth c H locs 0 0 Q (F0 m 40 ls []) := by
    intro x1 x2 x3 σ H locs ls hP hD hS hl hE
    unfold f_X0_makeAlike_J40 at hE
    obtain ⟨y40, hL, hE40⟩ := bnd_some hE
    refine loop_W (body := f_X0_makeAlike_L40 x1 x2) (y := y40) (P := fun v40 => ∀ (H : Heap) (locs : List Loc) (ls : Array Slot), va_P G.1 vwCl (wC G v40.2) H → va_D A (wC G v40.2) → va_S A s.heap H locs → lv_has ls 4 [(0, .ref (aD G 19)), (1, .int x1), (2, .int x2), (3, .int v40.1)] → W p l e rmX0_makeAlike s m args below meth c H locs 0 0 Q (F0 m 40 ls [])) ?_ _ _ hL H locs ls hP hD hS hl
    clear hP hD hS hl hE hL
    intro v40 t40 hE hN40 hY40
    intro H locs ls hP hD hS hl
    unfold f_X0_makeAlike_L40 at hE
    refine lv_iload_n hx hb dX0_makeAlike_40 rfl (lv_at hl 3 rfl) ?_
    refine lv_bipush (v := (80 : Int32)) hx hb dX0_makeAlike_41 (by decide) ?_
    refine lv_icmp_ge (tgt := 69) hx hb dX0_makeAlike_43 (by decide) (fun c_ => ?_) (fun c_ => ?_)
    · have hE := ip c_ hE
      have e9 := hY40 _ (Option.some.inj hE).symm
      have hE := hE40
      rw [← e9] at hE
      rw [← hQ, ← Option.some.inj hE]
      exact rv hx hb hr hlocks hK hP hD hS dX0_makeAlike_69
    · have hE := im c_ hE
      refine lv_aload_n hx hb dX0_makeAlike_46 rfl (lv_at hl 0 rfl) ?_
      refine va_get (ci := 0) (v := .ref (aD G 3)) (C := RX0) (T := TX0) (N := 5) hx hb hts (fun _ h => List.mem_cons_of_mem _ (List.mem_append_right _ h)) hown hK hP 19 rfl rfl 3 (by decide) (hts (.fieldLink RX0 21 "FillCells$Field" "twins" "[I") (List.mem_of_getElem? (i := 1) rfl)) (fun _ h9 => h9) rfl dX0_makeAlike_47 ?_
      refine lv_iload_n hx hb dX0_makeAlike_50 rfl (lv_at hl 3 rfl) ?_
      obtain ⟨h_i, hE⟩ := gd_some hE
      refine ldC hx hb hK hP 3 (by decide) h_i dX0_makeAlike_51 ?_
      refine lv_iload_n hx hb dX0_makeAlike_52 rfl (lv_at hl 1 rfl) ?_
      refine lv_icmp_ne (tgt := 63) hx hb dX0_makeAlike_53 (by decide) (fun c_ => ?_) (fun c_ => ?_)
      · have hE := ip c_ hE
        refine lv_iinc (v := (v40.1 + (1 : Int32))) (lv' := [(3, .int (v40.1 + (1 : Int32))), (0, .ref (aD G 19)), (1, .int x1), (2, .int x2)]) hx hb dX0_makeAlike_63 hl (k := 3) rfl rfl (by decide) rfl (fun ls hl => ?_)
        refine lv_goto (tgt := 40) hx hb dX0_makeAlike_66 (by decide) ?_
        exact hN40 _ (Option.some.inj hE).symm _ _ _ hP hD hS (lv_sub hl [1, 2, 3, 0] rfl)
      · have hE := im c_ hE
        refine lv_aload_n hx hb dX0_makeAlike_56 rfl (lv_at hl 0 rfl) ?_
        refine va_get (ci := 0) (v := .ref (aD G 4)) (C := RX0) (T := TX0) (N := 5) hx hb hts (fun _ h => List.mem_cons_of_mem _ (List.mem_append_right _ h)) hown hK hP 19 rfl rfl 4 (by decide) (hts (.fieldLink RX0 24 "FillCells$Field" "fill" "[I") (List.mem_of_getElem? (i := 2) rfl)) (fun _ h9 => h9) rfl dX0_makeAlike_57 ?_
        refine lv_iload_n hx hb dX0_makeAlike_60 rfl (lv_at hl 3 rfl) ?_
        refine lv_iload_n hx hb dX0_makeAlike_61 rfl (lv_at hl 2 rfl) ?_
        obtain ⟨h_i, hE⟩ := gd_some hE
        refine stC hx hb hK hP hD hS 4 (by decide) h_i dX0_makeAlike_62 (fun H locs hP hD hS => ?_)
        refine lv_iinc (v := (v40.1 + (1 : Int32))) (lv' := [(3, .int (v40.1 + (1 : Int32))), (0, .ref (aD G 19)), (1, .int x1), (2, .int x2)]) hx hb dX0_makeAlike_63 hl (k := 3) rfl rfl (by decide) rfl (fun ls hl => ?_)
        refine lv_goto (tgt := 40) hx hb dX0_makeAlike_66 (by decide) ?_
        exact hN40 _ (Option.some.inj hE).symm _ _ _ hP hD hS (lv_sub hl [1, 2, 3, 0] rfl)
  have J_38 : ∀ (x1 : Int32) (x2 : Int32) (σ : St) (H : Heap) (locs : List Loc) (ls : Array Slot), va_P G.1 vwCl (wC G σ) H → va_D A (wC G σ) → va_S A s.heap H locs → lv_has ls 4 [(0, .ref (aD G 19)), (1, .int x1), (2, .int x2)] → f_X0_makeAlike_J38 x1 x2 σ = some r → W p l e rmX0_makeAlike s m args below meth c H locs 0 0 Q (F0 m 38 ls []) := by
    intro x1 x2 σ H locs ls hP hD hS hl hE
    unfold f_X0_makeAlike_J38 at hE
    refine lv_iconst (v := (0 : Int32)) hx hb dX0_makeAlike_38 (by decide) ?_
    refine lv_istore_n (lv' := [(3, .int (0 : Int32)), (0, .ref (aD G 19)), (1, .int x1), (2, .int x2)]) hx hb dX0_makeAlike_39 rfl hl (by decide) rfl (fun ls hl => ?_)
    exact J_40 x1 x2 (0 : Int32) σ _ _ _ hP hD hS (lv_sub hl [1, 2, 3, 0] rfl) hE
  have J_5 : ∀ (x1 : Int32) (x2 : Int32) (x3 : Int32) (σ : St) (H : Heap) (locs : List Loc) (ls : Array Slot), va_P G.1 vwCl (wC G σ) H → va_D A (wC G σ) → va_S A s.heap H locs → lv_has ls 4 [(0, .ref (aD G 19)), (1, .int x1), (2, .int x2), (3, .int x3)] → f_X0_makeAlike_J5 x1 x2 x3 σ = some r → W p l e rmX0_makeAlike s m args below meth c H locs 0 0 Q (F0 m 5 ls []) := by
    intro x1 x2 x3 σ H locs ls hP hD hS hl hE
    unfold f_X0_makeAlike_J5 at hE
    obtain ⟨y5, hL, hE5⟩ := bnd_some hE
    refine loop_W (body := f_X0_makeAlike_L5 x1 σ) (y := y5) (P := fun v5 => ∀ (H : Heap) (locs : List Loc) (ls : Array Slot), va_P G.1 vwCl (wC G σ) H → va_D A (wC G σ) → va_S A s.heap H locs → lv_has ls 4 [(0, .ref (aD G 19)), (1, .int x1), (2, .int v5.1), (3, .int v5.2)] → W p l e rmX0_makeAlike s m args below meth c H locs 0 0 Q (F0 m 5 ls [])) ?_ _ _ hL H locs ls hP hD hS hl
    clear hP hD hS hl hE hL
    intro v5 t5 hE hN5 hY5
    intro H locs ls hP hD hS hl
    unfold f_X0_makeAlike_L5 at hE
    refine lv_iload_n hx hb dX0_makeAlike_5 rfl (lv_at hl 3 rfl) ?_
    refine lv_bipush (v := (80 : Int32)) hx hb dX0_makeAlike_6 (by decide) ?_
    refine lv_icmp_ge (tgt := 38) hx hb dX0_makeAlike_8 (by decide) (fun c_ => ?_) (fun c_ => ?_)
    · have hE := ip c_ hE
      have e9 := hY5 _ (Option.some.inj hE).symm
      have hE := hE5
      rw [← e9] at hE
      exact J_38 x1 v5.1 σ _ _ _ hP hD hS (lv_sub hl [0, 1, 2] rfl) hE
    · have hE := im c_ hE
      refine lv_aload_n hx hb dX0_makeAlike_11 rfl (lv_at hl 0 rfl) ?_
      refine va_get (ci := 0) (v := .ref (aD G 3)) (C := RX0) (T := TX0) (N := 5) hx hb hts (fun _ h => List.mem_cons_of_mem _ (List.mem_append_right _ h)) hown hK hP 19 rfl rfl 3 (by decide) (hts (.fieldLink RX0 21 "FillCells$Field" "twins" "[I") (List.mem_of_getElem? (i := 1) rfl)) (fun _ h9 => h9) rfl dX0_makeAlike_12 ?_
      refine lv_iload_n hx hb dX0_makeAlike_15 rfl (lv_at hl 3 rfl) ?_
      obtain ⟨h_i, hE⟩ := gd_some hE
      refine ldC hx hb hK hP 3 (by decide) h_i dX0_makeAlike_16 ?_
      refine lv_iload_n hx hb dX0_makeAlike_17 rfl (lv_at hl 1 rfl) ?_
      refine lv_icmp_ne (tgt := 32) hx hb dX0_makeAlike_18 (by decide) (fun c_ => ?_) (fun c_ => ?_)
      · have hE := ip c_ hE
        refine lv_iinc (v := (v5.2 + (1 : Int32))) (lv' := [(3, .int (v5.2 + (1 : Int32))), (0, .ref (aD G 19)), (1, .int x1), (2, .int v5.1)]) hx hb dX0_makeAlike_32 hl (k := 3) rfl rfl (by decide) rfl (fun ls hl => ?_)
        refine lv_goto (tgt := 5) hx hb dX0_makeAlike_35 (by decide) ?_
        exact hN5 _ (Option.some.inj hE).symm _ _ _ hP hD hS (lv_sub hl [1, 2, 3, 0] rfl)
      · have hE := im c_ hE
        refine lv_iload_n hx hb dX0_makeAlike_21 rfl (lv_at hl 2 rfl) ?_
        refine lv_aload_n hx hb dX0_makeAlike_22 rfl (lv_at hl 0 rfl) ?_
        refine va_get (ci := 0) (v := .ref (aD G 4)) (C := RX0) (T := TX0) (N := 5) hx hb hts (fun _ h => List.mem_cons_of_mem _ (List.mem_append_right _ h)) hown hK hP 19 rfl rfl 4 (by decide) (hts (.fieldLink RX0 24 "FillCells$Field" "fill" "[I") (List.mem_of_getElem? (i := 2) rfl)) (fun _ h9 => h9) rfl dX0_makeAlike_23 ?_
        refine lv_iload_n hx hb dX0_makeAlike_26 rfl (lv_at hl 3 rfl) ?_
        obtain ⟨h_i, hE⟩ := gd_some hE
        refine ldC hx hb hK hP 4 (by decide) h_i dX0_makeAlike_27 ?_
        refine va_mmin hx hb (hml.trans hl.1.symm) hown (hts (.methodLink RX0 45 Lib.Math.min.name) (List.mem_of_getElem? (i := 3) rfl)) (hts (.static Lib.Math.min.name) (List.mem_of_getElem? (i := 4) rfl)) (hts (.initialized "java/lang/Math") (List.mem_of_getElem? (i := 5) rfl)) (hts (.code Lib.Math.min.name Lib.Math.min.code 2 (some .int)) (List.mem_of_getElem? (i := 6) rfl)) (Nat.le_of_ble_eq_true rfl) (Nat.le_of_ble_eq_true rfl) (Nat.le_of_ble_eq_true rfl) (Nat.le_of_ble_eq_true rfl) dX0_makeAlike_28 ?_
        refine lv_istore_n (lv' := [(2, .int (jmin v5.1 (rd σ 4 v5.2))), (0, .ref (aD G 19)), (1, .int x1), (3, .int v5.2)]) hx hb dX0_makeAlike_31 rfl hl (by decide) rfl (fun ls hl => ?_)
        refine lv_iinc (v := (v5.2 + (1 : Int32))) (lv' := [(3, .int (v5.2 + (1 : Int32))), (2, .int (jmin v5.1 (rd σ 4 v5.2))), (0, .ref (aD G 19)), (1, .int x1)]) hx hb dX0_makeAlike_32 hl (k := 3) rfl rfl (by decide) rfl (fun ls hl => ?_)
        refine lv_goto (tgt := 5) hx hb dX0_makeAlike_35 (by decide) ?_
        exact hN5 _ (Option.some.inj hE).symm _ _ _ hP hD hS (lv_sub hl [2, 3, 1, 0] rfl)
  refine lv_bipush (v := (9 : Int32)) hx hb dX0_makeAlike_0 (by decide) ?_
  refine lv_istore_n (lv' := [(2, .int (9 : Int32)), (0, .ref (aD G 19)), (1, .int x1)]) hx hb dX0_makeAlike_2 rfl hl (by decide) rfl (fun ls hl => ?_)
  refine lv_iconst (v := (0 : Int32)) hx hb dX0_makeAlike_3 (by decide) ?_
  refine lv_istore_n (lv' := [(3, .int (0 : Int32)), (2, .int (9 : Int32)), (0, .ref (aD G 19)), (1, .int x1)]) hx hb dX0_makeAlike_4 rfl hl (by decide) rfl (fun ls hl => ?_)
  exact J_5 x1 (9 : Int32) (0 : Int32) σ _ _ _ hP hD hS (lv_sub hl [2, 3, 1, 0] rfl) hE
abbrev rmX0_settle : Room := { frames := 2, cells := 0, slots := 0, locals := 44 }
def f_X0_settle_L36  (v36 : Int32 × St) : Option (((St)) ⊕ (Int32 × St)) := if (4 : Int32) ≤ v36.1 then (some (.inl (v36.2))) else (bnd (f_X0_makeAlike v36.1 v36.2) (fun r1 => some (.inr ((v36.1 + (1 : Int32)), r1))))
def f_X0_settle_J36 (x1 : Int32) (σ : St) : Option St := bnd (loopN (f_X0_settle_L36 ) 4096 (x1, σ)) (fun y36 => some y36)
def f_X0_settle_J34 (σ : St) : Option St := f_X0_settle_J36 (1 : Int32) σ
def f_X0_settle_L2  (v2 : Int32 × St) : Option (((St)) ⊕ (Int32 × St)) := if (80 : Int32) ≤ v2.1 then (some (.inl (v2.2))) else (gd v2.1 80 (bnd (f_X0_room v2.1 v2.2) (fun r2 => gd v2.1 80 (some (.inr ((v2.1 + (1 : Int32)), (sA v2.2 4 v2.1 (jmin (rd v2.2 4 v2.1) r2))))))))
def f_X0_settle_J2 (x1 : Int32) (σ : St) : Option St := bnd (loopN (f_X0_settle_L2 ) 4096 (x1, σ)) (fun y2 => f_X0_settle_J34 y2)
def f_X0_settle (σ : St) : Option St := f_X0_settle_J2 (0 : Int32) σ
set_option maxHeartbeats 4000000 in
set_option maxRecDepth 100000 in
theorem c_X0_settle (l : Launch) (G : EV)   (σ : St) (r : St) (hE : f_X0_settle σ = some r) : MetV l G yX0_settle wsX0_settle rmX0_settle [.ref (aD G 19)] (wC G σ) (wC G r) := by
  refine Met.of0 (Qf := PV G (wC G r)) (cc := cX0_settle) (maxL := 2) (ret := none) (by decide) rfl (by decide) ?_
  intro p e s m below meth c args A hx hb hr hts hown hlocks hml hin0 hA hS hP hK hD hX ls hl
  have hl : lv_has ls 2 [(0, .ref (aD G 19))] := hl
  generalize hQ : MQ below (PV G (wC G r) A) args s 0 0 A = Q
  unfold f_X0_settle at hE
  have J_36 : ∀ (x1 : Int32) (σ : St) (H : Heap) (locs : List Loc) (ls : Array Slot), va_P G.1 vwCl (wC G σ) H → va_D A (wC G σ) → va_S A s.heap H locs → lv_has ls 2 [(0, .ref (aD G 19)), (1, .int x1)] → f_X0_settle_J36 x1 σ = some r → W p l e rmX0_settle s m args below meth c H locs 0 0 Q (F0 m 36 ls []) := by
    intro x1 σ H locs ls hP hD hS hl hE
    unfold f_X0_settle_J36 at hE
    obtain ⟨y36, hL, hE36⟩ := bnd_some hE
    refine loop_W (body := f_X0_settle_L36 ) (y := y36) (P := fun v36 => ∀ (H : Heap) (locs : List Loc) (ls : Array Slot), va_P G.1 vwCl (wC G v36.2) H → va_D A (wC G v36.2) → va_S A s.heap H locs → lv_has ls 2 [(0, .ref (aD G 19)), (1, .int v36.1)] → W p l e rmX0_settle s m args below meth c H locs 0 0 Q (F0 m 36 ls [])) ?_ _ _ hL H locs ls hP hD hS hl
    clear hP hD hS hl hE hL
    intro v36 t36 hE hN36 hY36
    intro H locs ls hP hD hS hl
    unfold f_X0_settle_L36 at hE
    refine lv_iload_n hx hb dX0_settle_36 rfl (lv_at hl 1 rfl) ?_
    refine lv_iconst (v := (4 : Int32)) hx hb dX0_settle_37 (by decide) ?_
    refine lv_icmp_ge (tgt := 52) hx hb dX0_settle_38 (by decide) (fun c_ => ?_) (fun c_ => ?_)
    · have hE := ip c_ hE
      have e9 := hY36 _ (Option.some.inj hE).symm
      have hE := hE36
      rw [← e9] at hE
      rw [← hQ, ← Option.some.inj hE]
      exact rv hx hb hr hlocks hK hP hD hS dX0_settle_52
    · have hE := im c_ hE
      refine lv_aload_n hx hb dX0_settle_41 rfl (lv_at hl 0 rfl) ?_
      refine lv_iload_n hx hb dX0_settle_42 rfl (lv_at hl 1 rfl) ?_
      obtain ⟨r1, hC, hE⟩ := bnd_some hE
      refine cv (va_runV (As := [.int v36.1]) (rest := []) ⟨hx, hb, hml, hown, hts⟩ (c_X0_makeAlike l G v36.1 v36.2 r1 hC _) (cwV 1 hts gX0_settle_X0_makeAlike rfl rfl rfl (by decide +kernel) ⟨Nat.le_of_ble_eq_true rfl, Nat.le_of_ble_eq_true rfl⟩) (preV hK hP hD hS hA hX (va_recv hK hP (ci := 0) (q0 := 19) rfl rfl)) rfl rfl hl.1 rfl (lv_room (Nat.le_of_ble_eq_true rfl)) dX0_settle_43 ⟨Nat.le_of_ble_eq_true rfl, Nat.le_of_ble_eq_true rfl⟩) hD hS hA (fun H locs hP hD hS => ?_)
      refine lv_iinc (v := (v36.1 + (1 : Int32))) (lv' := [(1, .int (v36.1 + (1 : Int32))), (0, .ref (aD G 19))]) hx hb dX0_settle_46 hl (k := 1) rfl rfl (by decide) rfl (fun ls hl => ?_)
      refine lv_goto (tgt := 36) hx hb dX0_settle_49 (by decide) ?_
      exact hN36 _ (Option.some.inj hE).symm _ _ _ hP hD hS (lv_sub hl [1, 0] rfl)
  have J_34 : ∀ (σ : St) (H : Heap) (locs : List Loc) (ls : Array Slot), va_P G.1 vwCl (wC G σ) H → va_D A (wC G σ) → va_S A s.heap H locs → lv_has ls 2 [(0, .ref (aD G 19))] → f_X0_settle_J34 σ = some r → W p l e rmX0_settle s m args below meth c H locs 0 0 Q (F0 m 34 ls []) := by
    intro σ H locs ls hP hD hS hl hE
    unfold f_X0_settle_J34 at hE
    refine lv_iconst (v := (1 : Int32)) hx hb dX0_settle_34 (by decide) ?_
    refine lv_istore_n (lv' := [(1, .int (1 : Int32)), (0, .ref (aD G 19))]) hx hb dX0_settle_35 rfl hl (by decide) rfl (fun ls hl => ?_)
    exact J_36 (1 : Int32) σ _ _ _ hP hD hS (lv_sub hl [1, 0] rfl) hE
  have J_2 : ∀ (x1 : Int32) (σ : St) (H : Heap) (locs : List Loc) (ls : Array Slot), va_P G.1 vwCl (wC G σ) H → va_D A (wC G σ) → va_S A s.heap H locs → lv_has ls 2 [(0, .ref (aD G 19)), (1, .int x1)] → f_X0_settle_J2 x1 σ = some r → W p l e rmX0_settle s m args below meth c H locs 0 0 Q (F0 m 2 ls []) := by
    intro x1 σ H locs ls hP hD hS hl hE
    unfold f_X0_settle_J2 at hE
    obtain ⟨y2, hL, hE2⟩ := bnd_some hE
    refine loop_W (body := f_X0_settle_L2 ) (y := y2) (P := fun v2 => ∀ (H : Heap) (locs : List Loc) (ls : Array Slot), va_P G.1 vwCl (wC G v2.2) H → va_D A (wC G v2.2) → va_S A s.heap H locs → lv_has ls 2 [(0, .ref (aD G 19)), (1, .int v2.1)] → W p l e rmX0_settle s m args below meth c H locs 0 0 Q (F0 m 2 ls [])) ?_ _ _ hL H locs ls hP hD hS hl
    clear hP hD hS hl hE hL
    intro v2 t2 hE hN2 hY2
    intro H locs ls hP hD hS hl
    unfold f_X0_settle_L2 at hE
    refine lv_iload_n hx hb dX0_settle_2 rfl (lv_at hl 1 rfl) ?_
    refine lv_bipush (v := (80 : Int32)) hx hb dX0_settle_3 (by decide) ?_
    refine lv_icmp_ge (tgt := 34) hx hb dX0_settle_5 (by decide) (fun c_ => ?_) (fun c_ => ?_)
    · have hE := ip c_ hE
      have e9 := hY2 _ (Option.some.inj hE).symm
      have hE := hE2
      rw [← e9] at hE
      exact J_34 v2.2 _ _ _ hP hD hS (lv_sub hl [0] rfl) hE
    · have hE := im c_ hE
      refine lv_aload_n hx hb dX0_settle_8 rfl (lv_at hl 0 rfl) ?_
      refine va_get (ci := 0) (v := .ref (aD G 4)) (C := RX0) (T := TX0) (N := 5) hx hb hts (fun _ h => List.mem_cons_of_mem _ (List.mem_append_right _ h)) hown hK hP 19 rfl rfl 4 (by decide) (hts (.fieldLink RX0 24 "FillCells$Field" "fill" "[I") (List.mem_of_getElem? (i := 1) rfl)) (fun _ h9 => h9) rfl dX0_settle_9 ?_
      refine lv_iload_n hx hb dX0_settle_12 rfl (lv_at hl 1 rfl) ?_
      refine lv_aload_n hx hb dX0_settle_13 rfl (lv_at hl 0 rfl) ?_
      refine va_get (ci := 0) (v := .ref (aD G 4)) (C := RX0) (T := TX0) (N := 5) hx hb hts (fun _ h => List.mem_cons_of_mem _ (List.mem_append_right _ h)) hown hK hP 19 rfl rfl 4 (by decide) (hts (.fieldLink RX0 24 "FillCells$Field" "fill" "[I") (List.mem_of_getElem? (i := 1) rfl)) (fun _ h9 => h9) rfl dX0_settle_14 ?_
      refine lv_iload_n hx hb dX0_settle_17 rfl (lv_at hl 1 rfl) ?_
      obtain ⟨h_i, hE⟩ := gd_some hE
      refine ldC hx hb hK hP 4 (by decide) h_i dX0_settle_18 ?_
      refine lv_aload_n hx hb dX0_settle_19 rfl (lv_at hl 0 rfl) ?_
      refine lv_iload_n hx hb dX0_settle_20 rfl (lv_at hl 1 rfl) ?_
      obtain ⟨r2, hC, hE⟩ := bnd_some hE
      refine ci (va_runV (As := [.int v2.1]) (rest := [.int (rd v2.2 4 v2.1), .int v2.1, .ref (aD G 4)]) ⟨hx, hb, hml, hown, hts⟩ (c_X0_room l G v2.1 v2.2 r2 hC _) (cwV 1 hts gX0_settle_X0_room rfl rfl rfl (by decide +kernel) ⟨Nat.le_of_ble_eq_true rfl, Nat.le_of_ble_eq_true rfl⟩) (preV hK hP hD hS hA hX (va_recv hK hP (ci := 0) (q0 := 19) rfl rfl)) rfl rfl hl.1 rfl (lv_room (Nat.le_of_ble_eq_true rfl)) dX0_settle_21 ⟨Nat.le_of_ble_eq_true rfl, Nat.le_of_ble_eq_true rfl⟩) hD hS hA (fun H locs hP hD hS => ?_)
      refine va_mmin hx hb (hml.trans hl.1.symm) hown (hts (.methodLink RX0 45 Lib.Math.min.name) (List.mem_of_getElem? (i := 2) rfl)) (hts (.static Lib.Math.min.name) (List.mem_of_getElem? (i := 3) rfl)) (hts (.initialized "java/lang/Math") (List.mem_of_getElem? (i := 4) rfl)) (hts (.code Lib.Math.min.name Lib.Math.min.code 2 (some .int)) (List.mem_of_getElem? (i := 5) rfl)) (Nat.le_of_ble_eq_true rfl) (Nat.le_of_ble_eq_true rfl) (Nat.le_of_ble_eq_true rfl) (Nat.le_of_ble_eq_true rfl) dX0_settle_24 ?_
      obtain ⟨h_i, hE⟩ := gd_some hE
      refine stC hx hb hK hP hD hS 4 (by decide) h_i dX0_settle_27 (fun H locs hP hD hS => ?_)
      refine lv_iinc (v := (v2.1 + (1 : Int32))) (lv' := [(1, .int (v2.1 + (1 : Int32))), (0, .ref (aD G 19))]) hx hb dX0_settle_28 hl (k := 1) rfl rfl (by decide) rfl (fun ls hl => ?_)
      refine lv_goto (tgt := 2) hx hb dX0_settle_31 (by decide) ?_
      exact hN2 _ (Option.some.inj hE).symm _ _ _ hP hD hS (lv_sub hl [1, 0] rfl)
  refine lv_iconst (v := (0 : Int32)) hx hb dX0_settle_0 (by decide) ?_
  refine lv_istore_n (lv' := [(1, .int (0 : Int32)), (0, .ref (aD G 19))]) hx hb dX0_settle_1 rfl hl (by decide) rfl (fun ls hl => ?_)
  exact J_2 (0 : Int32) σ _ _ _ hP hD hS (lv_sub hl [1, 0] rfl) hE
abbrev rmX0_packed : Room := { frames := 0, cells := 0, slots := 0, locals := 0 }

def f_X0_packed (x1 : Int32) (σ : St) : Option Int32 := gd x1 80 (gd x1 80 (gd x1 80 (gd x1 80 (gd x1 80 (some (((((rd σ 0 x1) ||| ((rd σ 4 x1) <<< ((4 : Int32) &&& 31))) ||| ((rd σ 1 x1) <<< ((8 : Int32) &&& 31))) ||| ((rd σ 2 x1) <<< ((9 : Int32) &&& 31))) ||| ((rd σ 3 x1) <<< ((11 : Int32) &&& 31))))))))
set_option maxHeartbeats 4000000 in
set_option maxRecDepth 100000 in
theorem c_X0_packed (l : Launch) (G : EV)  (x1 : Int32) (σ : St) (r : Int32) (hE : f_X0_packed x1 σ = some r) : MetI l G yX0_packed wsX0_packed rmX0_packed [.ref (aD G 19), .int x1] (wC G σ) r (wC G σ) := by
  refine Met.of0 (Qf := PI G r (wC G σ)) (cc := cX0_packed) (maxL := 2) (ret := (some .int)) (by decide) rfl (by decide) ?_
  intro p e s m below meth c args A hx hb hr hts hown hlocks hml hin0 hA hS hP hK hD hX ls hl
  have hl : lv_has ls 2 [(0, .ref (aD G 19)), (1, .int x1)] := hl
  generalize hQ : MQ below (PI G r (wC G σ) A) args s 0 0 A = Q
  unfold f_X0_packed at hE
  refine lv_aload_n hx hb dX0_packed_0 rfl (lv_at hl 0 rfl) ?_
  refine va_get (ci := 0) (v := .ref (aD G 0)) (C := RX0) (T := TX0) (N := 5) hx hb hts (fun _ h => List.mem_cons_of_mem _ (List.mem_append_right _ h)) hown hK hP 19 rfl rfl 0 (by decide) (hts (.fieldLink RX0 9 "FillCells$Field" "shapes" "[I") (List.mem_of_getElem? (i := 1) rfl)) (fun _ h9 => h9) rfl dX0_packed_1 ?_
  refine lv_iload_n hx hb dX0_packed_4 rfl (lv_at hl 1 rfl) ?_
  obtain ⟨h_i, hE⟩ := gd_some hE
  refine ldC hx hb hK hP 0 (by decide) h_i dX0_packed_5 ?_
  refine lv_aload_n hx hb dX0_packed_6 rfl (lv_at hl 0 rfl) ?_
  refine va_get (ci := 0) (v := .ref (aD G 4)) (C := RX0) (T := TX0) (N := 5) hx hb hts (fun _ h => List.mem_cons_of_mem _ (List.mem_append_right _ h)) hown hK hP 19 rfl rfl 4 (by decide) (hts (.fieldLink RX0 24 "FillCells$Field" "fill" "[I") (List.mem_of_getElem? (i := 2) rfl)) (fun _ h9 => h9) rfl dX0_packed_7 ?_
  refine lv_iload_n hx hb dX0_packed_10 rfl (lv_at hl 1 rfl) ?_
  obtain ⟨h_i, hE⟩ := gd_some hE
  refine ldC hx hb hK hP 4 (by decide) h_i dX0_packed_11 ?_
  refine lv_iconst (v := (4 : Int32)) hx hb dX0_packed_12 (by decide) ?_
  refine lv_ishl hx hb dX0_packed_13 ?_
  refine lv_ior hx hb dX0_packed_14 ?_
  refine lv_aload_n hx hb dX0_packed_15 rfl (lv_at hl 0 rfl) ?_
  refine va_get (ci := 0) (v := .ref (aD G 1)) (C := RX0) (T := TX0) (N := 5) hx hb hts (fun _ h => List.mem_cons_of_mem _ (List.mem_append_right _ h)) hown hK hP 19 rfl rfl 1 (by decide) (hts (.fieldLink RX0 15 "FillCells$Field" "shut" "[I") (List.mem_of_getElem? (i := 3) rfl)) (fun _ h9 => h9) rfl dX0_packed_16 ?_
  refine lv_iload_n hx hb dX0_packed_19 rfl (lv_at hl 1 rfl) ?_
  obtain ⟨h_i, hE⟩ := gd_some hE
  refine ldC hx hb hK hP 1 (by decide) h_i dX0_packed_20 ?_
  refine lv_bipush (v := (8 : Int32)) hx hb dX0_packed_21 (by decide) ?_
  refine lv_ishl hx hb dX0_packed_23 ?_
  refine lv_ior hx hb dX0_packed_24 ?_
  refine lv_aload_n hx hb dX0_packed_25 rfl (lv_at hl 0 rfl) ?_
  refine va_get (ci := 0) (v := .ref (aD G 2)) (C := RX0) (T := TX0) (N := 5) hx hb hts (fun _ h => List.mem_cons_of_mem _ (List.mem_append_right _ h)) hown hK hP 19 rfl rfl 2 (by decide) (hts (.fieldLink RX0 18 "FillCells$Field" "net" "[I") (List.mem_of_getElem? (i := 4) rfl)) (fun _ h9 => h9) rfl dX0_packed_26 ?_
  refine lv_iload_n hx hb dX0_packed_29 rfl (lv_at hl 1 rfl) ?_
  obtain ⟨h_i, hE⟩ := gd_some hE
  refine ldC hx hb hK hP 2 (by decide) h_i dX0_packed_30 ?_
  refine lv_bipush (v := (9 : Int32)) hx hb dX0_packed_31 (by decide) ?_
  refine lv_ishl hx hb dX0_packed_33 ?_
  refine lv_ior hx hb dX0_packed_34 ?_
  refine lv_aload_n hx hb dX0_packed_35 rfl (lv_at hl 0 rfl) ?_
  refine va_get (ci := 0) (v := .ref (aD G 3)) (C := RX0) (T := TX0) (N := 5) hx hb hts (fun _ h => List.mem_cons_of_mem _ (List.mem_append_right _ h)) hown hK hP 19 rfl rfl 3 (by decide) (hts (.fieldLink RX0 21 "FillCells$Field" "twins" "[I") (List.mem_of_getElem? (i := 5) rfl)) (fun _ h9 => h9) rfl dX0_packed_36 ?_
  refine lv_iload_n hx hb dX0_packed_39 rfl (lv_at hl 1 rfl) ?_
  obtain ⟨h_i, hE⟩ := gd_some hE
  refine ldC hx hb hK hP 3 (by decide) h_i dX0_packed_40 ?_
  refine lv_bipush (v := (11 : Int32)) hx hb dX0_packed_41 (by decide) ?_
  refine lv_ishl hx hb dX0_packed_43 ?_
  refine lv_ior hx hb dX0_packed_44 ?_
  rw [← hQ, ← Option.some.inj hE]
  exact ri hx hb hr hlocks hK hP hD hS dX0_packed_45
abbrev rmX0_unpack : Room := { frames := 0, cells := 0, slots := 0, locals := 0 }

def f_X0_unpack (x1 x2 : Int32) (σ : St) : Option St := gd x1 80 (gd x1 80 (gd x1 80 (gd x1 80 (gd x1 80 (some (sA (sA (sA (sA (sA σ 0 x1 (x2 &&& (15 : Int32))) 4 x1 ((x2 >>> ((4 : Int32) &&& 31)) &&& (15 : Int32))) 1 x1 ((x2 >>> ((8 : Int32) &&& 31)) &&& (1 : Int32))) 2 x1 ((x2 >>> ((9 : Int32) &&& 31)) &&& (3 : Int32))) 3 x1 ((x2 >>> ((11 : Int32) &&& 31)) &&& (3 : Int32))))))))
set_option maxHeartbeats 4000000 in
set_option maxRecDepth 100000 in
theorem c_X0_unpack (l : Launch) (G : EV)  (x1 x2 : Int32) (σ : St) (r : St) (hE : f_X0_unpack x1 x2 σ = some r) : MetV l G yX0_unpack wsX0_unpack rmX0_unpack [.ref (aD G 19), .int x1, .int x2] (wC G σ) (wC G r) := by
  refine Met.of0 (Qf := PV G (wC G r)) (cc := cX0_unpack) (maxL := 3) (ret := none) (by decide) rfl (by decide) ?_
  intro p e s m below meth c args A hx hb hr hts hown hlocks hml hin0 hA hS hP hK hD hX ls hl
  have hl : lv_has ls 3 [(0, .ref (aD G 19)), (1, .int x1), (2, .int x2)] := hl
  generalize hQ : MQ below (PV G (wC G r) A) args s 0 0 A = Q
  unfold f_X0_unpack at hE
  refine lv_aload_n hx hb dX0_unpack_0 rfl (lv_at hl 0 rfl) ?_
  refine va_get (ci := 0) (v := .ref (aD G 0)) (C := RX0) (T := TX0) (N := 5) hx hb hts (fun _ h => List.mem_cons_of_mem _ (List.mem_append_right _ h)) hown hK hP 19 rfl rfl 0 (by decide) (hts (.fieldLink RX0 9 "FillCells$Field" "shapes" "[I") (List.mem_of_getElem? (i := 1) rfl)) (fun _ h9 => h9) rfl dX0_unpack_1 ?_
  refine lv_iload_n hx hb dX0_unpack_4 rfl (lv_at hl 1 rfl) ?_
  refine lv_iload_n hx hb dX0_unpack_5 rfl (lv_at hl 2 rfl) ?_
  refine lv_bipush (v := (15 : Int32)) hx hb dX0_unpack_6 (by decide) ?_
  refine lv_iand hx hb dX0_unpack_8 ?_
  obtain ⟨h_i, hE⟩ := gd_some hE
  refine stC hx hb hK hP hD hS 0 (by decide) h_i dX0_unpack_9 (fun H locs hP hD hS => ?_)
  refine lv_aload_n hx hb dX0_unpack_10 rfl (lv_at hl 0 rfl) ?_
  refine va_get (ci := 0) (v := .ref (aD G 4)) (C := RX0) (T := TX0) (N := 5) hx hb hts (fun _ h => List.mem_cons_of_mem _ (List.mem_append_right _ h)) hown hK hP 19 rfl rfl 4 (by decide) (hts (.fieldLink RX0 24 "FillCells$Field" "fill" "[I") (List.mem_of_getElem? (i := 2) rfl)) (fun _ h9 => h9) rfl dX0_unpack_11 ?_
  refine lv_iload_n hx hb dX0_unpack_14 rfl (lv_at hl 1 rfl) ?_
  refine lv_iload_n hx hb dX0_unpack_15 rfl (lv_at hl 2 rfl) ?_
  refine lv_iconst (v := (4 : Int32)) hx hb dX0_unpack_16 (by decide) ?_
  refine lv_ishr hx hb dX0_unpack_17 ?_
  refine lv_bipush (v := (15 : Int32)) hx hb dX0_unpack_18 (by decide) ?_
  refine lv_iand hx hb dX0_unpack_20 ?_
  obtain ⟨h_i, hE⟩ := gd_some hE
  refine stC hx hb hK hP hD hS 4 (by decide) h_i dX0_unpack_21 (fun H locs hP hD hS => ?_)
  refine lv_aload_n hx hb dX0_unpack_22 rfl (lv_at hl 0 rfl) ?_
  refine va_get (ci := 0) (v := .ref (aD G 1)) (C := RX0) (T := TX0) (N := 5) hx hb hts (fun _ h => List.mem_cons_of_mem _ (List.mem_append_right _ h)) hown hK hP 19 rfl rfl 1 (by decide) (hts (.fieldLink RX0 15 "FillCells$Field" "shut" "[I") (List.mem_of_getElem? (i := 3) rfl)) (fun _ h9 => h9) rfl dX0_unpack_23 ?_
  refine lv_iload_n hx hb dX0_unpack_26 rfl (lv_at hl 1 rfl) ?_
  refine lv_iload_n hx hb dX0_unpack_27 rfl (lv_at hl 2 rfl) ?_
  refine lv_bipush (v := (8 : Int32)) hx hb dX0_unpack_28 (by decide) ?_
  refine lv_ishr hx hb dX0_unpack_30 ?_
  refine lv_iconst (v := (1 : Int32)) hx hb dX0_unpack_31 (by decide) ?_
  refine lv_iand hx hb dX0_unpack_32 ?_
  obtain ⟨h_i, hE⟩ := gd_some hE
  refine stC hx hb hK hP hD hS 1 (by decide) h_i dX0_unpack_33 (fun H locs hP hD hS => ?_)
  refine lv_aload_n hx hb dX0_unpack_34 rfl (lv_at hl 0 rfl) ?_
  refine va_get (ci := 0) (v := .ref (aD G 2)) (C := RX0) (T := TX0) (N := 5) hx hb hts (fun _ h => List.mem_cons_of_mem _ (List.mem_append_right _ h)) hown hK hP 19 rfl rfl 2 (by decide) (hts (.fieldLink RX0 18 "FillCells$Field" "net" "[I") (List.mem_of_getElem? (i := 4) rfl)) (fun _ h9 => h9) rfl dX0_unpack_35 ?_
  refine lv_iload_n hx hb dX0_unpack_38 rfl (lv_at hl 1 rfl) ?_
  refine lv_iload_n hx hb dX0_unpack_39 rfl (lv_at hl 2 rfl) ?_
  refine lv_bipush (v := (9 : Int32)) hx hb dX0_unpack_40 (by decide) ?_
  refine lv_ishr hx hb dX0_unpack_42 ?_
  refine lv_iconst (v := (3 : Int32)) hx hb dX0_unpack_43 (by decide) ?_
  refine lv_iand hx hb dX0_unpack_44 ?_
  obtain ⟨h_i, hE⟩ := gd_some hE
  refine stC hx hb hK hP hD hS 2 (by decide) h_i dX0_unpack_45 (fun H locs hP hD hS => ?_)
  refine lv_aload_n hx hb dX0_unpack_46 rfl (lv_at hl 0 rfl) ?_
  refine va_get (ci := 0) (v := .ref (aD G 3)) (C := RX0) (T := TX0) (N := 5) hx hb hts (fun _ h => List.mem_cons_of_mem _ (List.mem_append_right _ h)) hown hK hP 19 rfl rfl 3 (by decide) (hts (.fieldLink RX0 21 "FillCells$Field" "twins" "[I") (List.mem_of_getElem? (i := 5) rfl)) (fun _ h9 => h9) rfl dX0_unpack_47 ?_
  refine lv_iload_n hx hb dX0_unpack_50 rfl (lv_at hl 1 rfl) ?_
  refine lv_iload_n hx hb dX0_unpack_51 rfl (lv_at hl 2 rfl) ?_
  refine lv_bipush (v := (11 : Int32)) hx hb dX0_unpack_52 (by decide) ?_
  refine lv_ishr hx hb dX0_unpack_54 ?_
  refine lv_iconst (v := (3 : Int32)) hx hb dX0_unpack_55 (by decide) ?_
  refine lv_iand hx hb dX0_unpack_56 ?_
  obtain ⟨h_i, hE⟩ := gd_some hE
  refine stC hx hb hK hP hD hS 3 (by decide) h_i dX0_unpack_57 (fun H locs hP hD hS => ?_)
  rw [← hQ, ← Option.some.inj hE]
  exact rv hx hb hr hlocks hK hP hD hS dX0_unpack_58
end
