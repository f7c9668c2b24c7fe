section
-- ===== PART A: goes FIRST, ahead of the names: the tables' words, and 'selects' of the private methods out of them =====
/-- a private method of a class that the tables say can be made, by its rows of tables_1 -/
def lw_okq (q : MethodName × Nat) : Prop := (q.1.cls ≠ "java/lang/invoke/MethodHandle" ∧ q.1.cls ≠ "java/lang/invoke/VarHandle") ∧ Cond.instantiable q.1.cls q.2 ∈ tables_1 ∧ Cond.privateMethod q.1 ∈ tables_1 ∧ Cond.instanceMethod q.1 ∈ tables_1
theorem lw_p0 : lw_okq (⟨"MeterTree$History", "dropOldest", "()V"⟩, 2) := ⟨⟨by decide +kernel, by decide +kernel⟩, List.mem_of_getElem? (i := 84) (by decide +kernel), List.mem_of_getElem? (i := 205) (by decide +kernel), List.mem_of_getElem? (i := 206) (by decide +kernel)⟩
theorem lw_p1 : lw_okq (⟨"MeterTree$Energies", "estimate", "(LMeterTree$State;III)V"⟩, 3) := ⟨⟨by decide +kernel, by decide +kernel⟩, List.mem_of_getElem? (i := 100) (by decide +kernel), List.mem_of_getElem? (i := 330) (by decide +kernel), List.mem_of_getElem? (i := 331) (by decide +kernel)⟩
theorem lw_p2 : lw_okq (⟨"MeterTree$Energies", "isAllMissing", "(II)Z"⟩, 3) := ⟨⟨by decide +kernel, by decide +kernel⟩, List.mem_of_getElem? (i := 100) (by decide +kernel), List.mem_of_getElem? (i := 334) (by decide +kernel), List.mem_of_getElem? (i := 335) (by decide +kernel)⟩
theorem lw_p3 : lw_okq (⟨"MeterTree$Energies", "spread", "(IIII)V"⟩, 3) := ⟨⟨by decide +kernel, by decide +kernel⟩, List.mem_of_getElem? (i := 100) (by decide +kernel), List.mem_of_getElem? (i := 339) (by decide +kernel), List.mem_of_getElem? (i := 340) (by decide +kernel)⟩
theorem lw_p4 : lw_okq (⟨"MeterTree$Energies", "interpolate", "(III)V"⟩, 3) := ⟨⟨by decide +kernel, by decide +kernel⟩, List.mem_of_getElem? (i := 100) (by decide +kernel), List.mem_of_getElem? (i := 343) (by decide +kernel), List.mem_of_getElem? (i := 344) (by decide +kernel)⟩
theorem lw_p5 : lw_okq (⟨"MeterTree$Energies", "level", "(IIIII)V"⟩, 3) := ⟨⟨by decide +kernel, by decide +kernel⟩, List.mem_of_getElem? (i := 100) (by decide +kernel), List.mem_of_getElem? (i := 347) (by decide +kernel), List.mem_of_getElem? (i := 348) (by decide +kernel)⟩
theorem lw_p6 : lw_okq (⟨"MeterTree", "sumOfLosses", "(I)I"⟩, 5) := ⟨⟨by decide +kernel, by decide +kernel⟩, List.mem_of_getElem? (i := 12) (by decide +kernel), List.mem_of_getElem? (i := 362) (by decide +kernel), List.mem_of_getElem? (i := 363) (by decide +kernel)⟩
theorem lw_p7 : lw_okq (⟨"MeterTree$Bills", "allocate", "(LMeterTree$State;LMeterTree$Energies;II)V"⟩, 4) := ⟨⟨by decide +kernel, by decide +kernel⟩, List.mem_of_getElem? (i := 120) (by decide +kernel), List.mem_of_getElem? (i := 382) (by decide +kernel), List.mem_of_getElem? (i := 383) (by decide +kernel)⟩
theorem lw_p8 : lw_okq (⟨"MeterTree$Bills", "claimByEnergy", "(LMeterTree$State;LMeterTree$Energies;II)J"⟩, 4) := ⟨⟨by decide +kernel, by decide +kernel⟩, List.mem_of_getElem? (i := 120) (by decide +kernel), List.mem_of_getElem? (i := 386) (by decide +kernel), List.mem_of_getElem? (i := 387) (by decide +kernel)⟩
theorem lw_p9 : lw_okq (⟨"MeterTree$Bills", "claimByWeight", "(LMeterTree$State;I)J"⟩, 4) := ⟨⟨by decide +kernel, by decide +kernel⟩, List.mem_of_getElem? (i := 120) (by decide +kernel), List.mem_of_getElem? (i := 390) (by decide +kernel), List.mem_of_getElem? (i := 391) (by decide +kernel)⟩
theorem lw_p10 : lw_okq (⟨"MeterTree$Bills", "divide", "(LMeterTree$State;IJJ)V"⟩, 4) := ⟨⟨by decide +kernel, by decide +kernel⟩, List.mem_of_getElem? (i := 120) (by decide +kernel), List.mem_of_getElem? (i := 397) (by decide +kernel), List.mem_of_getElem? (i := 398) (by decide +kernel)⟩
theorem lw_p11 : lw_okq (⟨"MeterTree$Bills", "giveOne", "(LMeterTree$State;I)V"⟩, 4) := ⟨⟨by decide +kernel, by decide +kernel⟩, List.mem_of_getElem? (i := 120) (by decide +kernel), List.mem_of_getElem? (i := 401) (by decide +kernel), List.mem_of_getElem? (i := 402) (by decide +kernel)⟩
theorem lw_p12 : lw_okq (⟨"MeterTree", "countNotValid", "(I)I"⟩, 5) := ⟨⟨by decide +kernel, by decide +kernel⟩, List.mem_of_getElem? (i := 12) (by decide +kernel), List.mem_of_getElem? (i := 407) (by decide +kernel), List.mem_of_getElem? (i := 408) (by decide +kernel)⟩
theorem lw_p13 : lw_okq (⟨"MeterTree", "shareOf", "(I)F"⟩, 5) := ⟨⟨by decide +kernel, by decide +kernel⟩, List.mem_of_getElem? (i := 12) (by decide +kernel), List.mem_of_getElem? (i := 441) (by decide +kernel), List.mem_of_getElem? (i := 442) (by decide +kernel)⟩
theorem lw_p14 : lw_okq (⟨"MeterTree$ReadingText", "parseEntry", "(LMeterTree$State;)Z"⟩, 8) := ⟨⟨by decide +kernel, by decide +kernel⟩, List.mem_of_getElem? (i := 142) (by decide +kernel), List.mem_of_getElem? (i := 541) (by decide +kernel), List.mem_of_getElem? (i := 542) (by decide +kernel)⟩
theorem lw_p15 : lw_okq (⟨"MeterTree$ReadingText", "takeNumber", "(I)I"⟩, 8) := ⟨⟨by decide +kernel, by decide +kernel⟩, List.mem_of_getElem? (i := 142) (by decide +kernel), List.mem_of_getElem? (i := 545) (by decide +kernel), List.mem_of_getElem? (i := 546) (by decide +kernel)⟩
def lw_privs_1 : List (MethodName × Nat) := [(⟨"MeterTree$History", "dropOldest", "()V"⟩, 2), (⟨"MeterTree$Energies", "estimate", "(LMeterTree$State;III)V"⟩, 3), (⟨"MeterTree$Energies", "isAllMissing", "(II)Z"⟩, 3), (⟨"MeterTree$Energies", "spread", "(IIII)V"⟩, 3), (⟨"MeterTree$Energies", "interpolate", "(III)V"⟩, 3), (⟨"MeterTree$Energies", "level", "(IIIII)V"⟩, 3), (⟨"MeterTree", "sumOfLosses", "(I)I"⟩, 5), (⟨"MeterTree$Bills", "allocate", "(LMeterTree$State;LMeterTree$Energies;II)V"⟩, 4), (⟨"MeterTree$Bills", "claimByEnergy", "(LMeterTree$State;LMeterTree$Energies;II)J"⟩, 4), (⟨"MeterTree$Bills", "claimByWeight", "(LMeterTree$State;I)J"⟩, 4), (⟨"MeterTree$Bills", "divide", "(LMeterTree$State;IJJ)V"⟩, 4), (⟨"MeterTree$Bills", "giveOne", "(LMeterTree$State;I)V"⟩, 4), (⟨"MeterTree", "countNotValid", "(I)I"⟩, 5), (⟨"MeterTree", "shareOf", "(I)F"⟩, 5), (⟨"MeterTree$ReadingText", "parseEntry", "(LMeterTree$State;)Z"⟩, 8), (⟨"MeterTree$ReadingText", "takeNumber", "(I)I"⟩, 8)]
theorem lw_r1 : ∀ q ∈ lw_privs_1, lw_okq q := List.forall_mem_cons.mpr ⟨lw_p0, List.forall_mem_cons.mpr ⟨lw_p1, List.forall_mem_cons.mpr ⟨lw_p2, List.forall_mem_cons.mpr ⟨lw_p3, List.forall_mem_cons.mpr ⟨lw_p4, List.forall_mem_cons.mpr ⟨lw_p5, List.forall_mem_cons.mpr ⟨lw_p6, List.forall_mem_cons.mpr ⟨lw_p7, List.forall_mem_cons.mpr ⟨lw_p8, List.forall_mem_cons.mpr ⟨lw_p9, List.forall_mem_cons.mpr ⟨lw_p10, List.forall_mem_cons.mpr ⟨lw_p11, List.forall_mem_cons.mpr ⟨lw_p12, List.forall_mem_cons.mpr ⟨lw_p13, List.forall_mem_cons.mpr ⟨lw_p14, List.forall_mem_cons.mpr ⟨lw_p15, fun _ h => absurd h List.not_mem_nil⟩⟩⟩⟩⟩⟩⟩⟩⟩⟩⟩⟩⟩⟩⟩⟩
theorem lw_p16 : lw_okq (⟨"MeterTree$ReadingText", "skipBlanks", "()V"⟩, 8) := ⟨⟨by decide +kernel, by decide +kernel⟩, List.mem_of_getElem? (i := 142) (by decide +kernel), List.mem_of_getElem? (i := 549) (by decide +kernel), List.mem_of_getElem? (i := 550) (by decide +kernel)⟩
theorem lw_p17 : lw_okq (⟨"MeterTree$ReadingText", "peek", "()I"⟩, 8) := ⟨⟨by decide +kernel, by decide +kernel⟩, List.mem_of_getElem? (i := 142) (by decide +kernel), List.mem_of_getElem? (i := 553) (by decide +kernel), List.mem_of_getElem? (i := 554) (by decide +kernel)⟩
theorem lw_p18 : lw_okq (⟨"MeterTree$ReadingText", "takeSign", "(I)Z"⟩, 8) := ⟨⟨by decide +kernel, by decide +kernel⟩, List.mem_of_getElem? (i := 142) (by decide +kernel), List.mem_of_getElem? (i := 562) (by decide +kernel), List.mem_of_getElem? (i := 563) (by decide +kernel)⟩
theorem lw_p19 : lw_okq (⟨"MeterTree$ReadingText", "keep", "(III)V"⟩, 8) := ⟨⟨by decide +kernel, by decide +kernel⟩, List.mem_of_getElem? (i := 142) (by decide +kernel), List.mem_of_getElem? (i := 567) (by decide +kernel), List.mem_of_getElem? (i := 568) (by decide +kernel)⟩
theorem lw_p20 : lw_okq (⟨"MeterTreeModel", "isMeter", "(I)Z"⟩, 13) := ⟨⟨by decide +kernel, by decide +kernel⟩, List.mem_of_getElem? (i := 589) (by decide +kernel), List.mem_of_getElem? (i := 639) (by decide +kernel), List.mem_of_getElem? (i := 640) (by decide +kernel)⟩
theorem lw_p21 : lw_okq (⟨"MeterTreeModel", "saves", "()V"⟩, 13) := ⟨⟨by decide +kernel, by decide +kernel⟩, List.mem_of_getElem? (i := 589) (by decide +kernel), List.mem_of_getElem? (i := 648) (by decide +kernel), List.mem_of_getElem? (i := 649) (by decide +kernel)⟩
theorem lw_p22 : lw_okq (⟨"MeterTreeModel", "copies", "(II)V"⟩, 13) := ⟨⟨by decide +kernel, by decide +kernel⟩, List.mem_of_getElem? (i := 589) (by decide +kernel), List.mem_of_getElem? (i := 652) (by decide +kernel), List.mem_of_getElem? (i := 653) (by decide +kernel)⟩
theorem lw_p23 : lw_okq (⟨"MeterTreeModel", "sets", "(III)V"⟩, 13) := ⟨⟨by decide +kernel, by decide +kernel⟩, List.mem_of_getElem? (i := 589) (by decide +kernel), List.mem_of_getElem? (i := 657) (by decide +kernel), List.mem_of_getElem? (i := 658) (by decide +kernel)⟩
theorem lw_p24 : lw_okq (⟨"MeterTreeModel", "noReadings", "(I)V"⟩, 13) := ⟨⟨by decide +kernel, by decide +kernel⟩, List.mem_of_getElem? (i := 589) (by decide +kernel), List.mem_of_getElem? (i := 661) (by decide +kernel), List.mem_of_getElem? (i := 662) (by decide +kernel)⟩
theorem lw_p25 : lw_okq (⟨"MeterTreeModel", "of", "(II)I"⟩, 13) := ⟨⟨by decide +kernel, by decide +kernel⟩, List.mem_of_getElem? (i := 589) (by decide +kernel), List.mem_of_getElem? (i := 670) (by decide +kernel), List.mem_of_getElem? (i := 671) (by decide +kernel)⟩
theorem lw_p26 : lw_okq (⟨"MeterTreeModel", "children", "(I)I"⟩, 13) := ⟨⟨by decide +kernel, by decide +kernel⟩, List.mem_of_getElem? (i := 589) (by decide +kernel), List.mem_of_getElem? (i := 691) (by decide +kernel), List.mem_of_getElem? (i := 692) (by decide +kernel)⟩
theorem lw_p27 : lw_okq (⟨"MeterTreeModel", "above", "(I)I"⟩, 13) := ⟨⟨by decide +kernel, by decide +kernel⟩, List.mem_of_getElem? (i := 589) (by decide +kernel), List.mem_of_getElem? (i := 695) (by decide +kernel), List.mem_of_getElem? (i := 696) (by decide +kernel)⟩
theorem lw_p28 : lw_okq (⟨"MeterTreeModel", "childOf", "(II)I"⟩, 13) := ⟨⟨by decide +kernel, by decide +kernel⟩, List.mem_of_getElem? (i := 589) (by decide +kernel), List.mem_of_getElem? (i := 703) (by decide +kernel), List.mem_of_getElem? (i := 704) (by decide +kernel)⟩
theorem lw_p29 : lw_okq (⟨"MeterTreeModel", "isBoundary", "(II)Z"⟩, 13) := ⟨⟨by decide +kernel, by decide +kernel⟩, List.mem_of_getElem? (i := 589) (by decide +kernel), List.mem_of_getElem? (i := 711) (by decide +kernel), List.mem_of_getElem? (i := 712) (by decide +kernel)⟩
theorem lw_p30 : lw_okq (⟨"MeterTreeModel", "isReading", "(II)Z"⟩, 13) := ⟨⟨by decide +kernel, by decide +kernel⟩, List.mem_of_getElem? (i := 589) (by decide +kernel), List.mem_of_getElem? (i := 715) (by decide +kernel), List.mem_of_getElem? (i := 716) (by decide +kernel)⟩
theorem lw_p31 : lw_okq (⟨"MeterTreeModel", "whole", "(I)I"⟩, 13) := ⟨⟨by decide +kernel, by decide +kernel⟩, List.mem_of_getElem? (i := 589) (by decide +kernel), List.mem_of_getElem? (i := 719) (by decide +kernel), List.mem_of_getElem? (i := 720) (by decide +kernel)⟩
def lw_privs_2 : List (MethodName × Nat) := [(⟨"MeterTree$ReadingText", "skipBlanks", "()V"⟩, 8), (⟨"MeterTree$ReadingText", "peek", "()I"⟩, 8), (⟨"MeterTree$ReadingText", "takeSign", "(I)Z"⟩, 8), (⟨"MeterTree$ReadingText", "keep", "(III)V"⟩, 8), (⟨"MeterTreeModel", "isMeter", "(I)Z"⟩, 13), (⟨"MeterTreeModel", "saves", "()V"⟩, 13), (⟨"MeterTreeModel", "copies", "(II)V"⟩, 13), (⟨"MeterTreeModel", "sets", "(III)V"⟩, 13), (⟨"MeterTreeModel", "noReadings", "(I)V"⟩, 13), (⟨"MeterTreeModel", "of", "(II)I"⟩, 13), (⟨"MeterTreeModel", "children", "(I)I"⟩, 13), (⟨"MeterTreeModel", "above", "(I)I"⟩, 13), (⟨"MeterTreeModel", "childOf", "(II)I"⟩, 13), (⟨"MeterTreeModel", "isBoundary", "(II)Z"⟩, 13), (⟨"MeterTreeModel", "isReading", "(II)Z"⟩, 13), (⟨"MeterTreeModel", "whole", "(I)I"⟩, 13)]
theorem lw_r2 : ∀ q ∈ lw_privs_2, lw_okq q := List.forall_mem_cons.mpr ⟨lw_p16, List.forall_mem_cons.mpr ⟨lw_p17, List.forall_mem_cons.mpr ⟨lw_p18, List.forall_mem_cons.mpr ⟨lw_p19, List.forall_mem_cons.mpr ⟨lw_p20, List.forall_mem_cons.mpr ⟨lw_p21, List.forall_mem_cons.mpr ⟨lw_p22, List.forall_mem_cons.mpr ⟨lw_p23, List.forall_mem_cons.mpr ⟨lw_p24, List.forall_mem_cons.mpr ⟨lw_p25, List.forall_mem_cons.mpr ⟨lw_p26, List.forall_mem_cons.mpr ⟨lw_p27, List.forall_mem_cons.mpr ⟨lw_p28, List.forall_mem_cons.mpr ⟨lw_p29, List.forall_mem_cons.mpr ⟨lw_p30, List.forall_mem_cons.mpr ⟨lw_p31, fun _ h => absurd h List.not_mem_nil⟩⟩⟩⟩⟩⟩⟩⟩⟩⟩⟩⟩⟩⟩⟩⟩
theorem lw_p32 : lw_okq (⟨"MeterTreeModel", "becomes", "(III)I"⟩, 13) := ⟨⟨by decide +kernel, by decide +kernel⟩, List.mem_of_getElem? (i := 589) (by decide +kernel), List.mem_of_getElem? (i := 723) (by decide +kernel), List.mem_of_getElem? (i := 724) (by decide +kernel)⟩
theorem lw_p33 : lw_okq (⟨"MeterTreeModel", "isInterval", "(II)Z"⟩, 13) := ⟨⟨by decide +kernel, by decide +kernel⟩, List.mem_of_getElem? (i := 589) (by decide +kernel), List.mem_of_getElem? (i := 743) (by decide +kernel), List.mem_of_getElem? (i := 744) (by decide +kernel)⟩
theorem lw_p34 : lw_okq (⟨"MeterTreeModel", "rawOf", "(II)I"⟩, 13) := ⟨⟨by decide +kernel, by decide +kernel⟩, List.mem_of_getElem? (i := 589) (by decide +kernel), List.mem_of_getElem? (i := 747) (by decide +kernel), List.mem_of_getElem? (i := 748) (by decide +kernel)⟩
theorem lw_p35 : lw_okq (⟨"MeterTreeModel", "advance", "(III)I"⟩, 13) := ⟨⟨by decide +kernel, by decide +kernel⟩, List.mem_of_getElem? (i := 589) (by decide +kernel), List.mem_of_getElem? (i := 751) (by decide +kernel), List.mem_of_getElem? (i := 752) (by decide +kernel)⟩
theorem lw_p36 : lw_okq (⟨"MeterTreeModel", "statusOf", "(II)I"⟩, 13) := ⟨⟨by decide +kernel, by decide +kernel⟩, List.mem_of_getElem? (i := 589) (by decide +kernel), List.mem_of_getElem? (i := 759) (by decide +kernel), List.mem_of_getElem? (i := 760) (by decide +kernel)⟩
theorem lw_p37 : lw_okq (⟨"MeterTreeModel", "isModest", "(II)Z"⟩, 13) := ⟨⟨by decide +kernel, by decide +kernel⟩, List.mem_of_getElem? (i := 589) (by decide +kernel), List.mem_of_getElem? (i := 763) (by decide +kernel), List.mem_of_getElem? (i := 764) (by decide +kernel)⟩
theorem lw_p38 : lw_okq (⟨"MeterTreeModel", "energyOf", "(II)I"⟩, 13) := ⟨⟨by decide +kernel, by decide +kernel⟩, List.mem_of_getElem? (i := 589) (by decide +kernel), List.mem_of_getElem? (i := 771) (by decide +kernel), List.mem_of_getElem? (i := 772) (by decide +kernel)⟩
theorem lw_p39 : lw_okq (⟨"MeterTreeModel", "qualityOf", "(II)I"⟩, 13) := ⟨⟨by decide +kernel, by decide +kernel⟩, List.mem_of_getElem? (i := 589) (by decide +kernel), List.mem_of_getElem? (i := 775) (by decide +kernel), List.mem_of_getElem? (i := 776) (by decide +kernel)⟩
theorem lw_p40 : lw_okq (⟨"MeterTreeModel", "isValid", "(II)Z"⟩, 13) := ⟨⟨by decide +kernel, by decide +kernel⟩, List.mem_of_getElem? (i := 589) (by decide +kernel), List.mem_of_getElem? (i := 779) (by decide +kernel), List.mem_of_getElem? (i := 780) (by decide +kernel)⟩
theorem lw_p41 : lw_okq (⟨"MeterTreeModel", "first", "(II)I"⟩, 13) := ⟨⟨by decide +kernel, by decide +kernel⟩, List.mem_of_getElem? (i := 589) (by decide +kernel), List.mem_of_getElem? (i := 783) (by decide +kernel), List.mem_of_getElem? (i := 784) (by decide +kernel)⟩
theorem lw_p42 : lw_okq (⟨"MeterTreeModel", "last", "(II)I"⟩, 13) := ⟨⟨by decide +kernel, by decide +kernel⟩, List.mem_of_getElem? (i := 589) (by decide +kernel), List.mem_of_getElem? (i := 787) (by decide +kernel), List.mem_of_getElem? (i := 788) (by decide +kernel)⟩
theorem lw_p43 : lw_okq (⟨"MeterTreeModel", "validOf", "(II)I"⟩, 13) := ⟨⟨by decide +kernel, by decide +kernel⟩, List.mem_of_getElem? (i := 589) (by decide +kernel), List.mem_of_getElem? (i := 791) (by decide +kernel), List.mem_of_getElem? (i := 792) (by decide +kernel)⟩
theorem lw_p44 : lw_okq (⟨"MeterTreeModel", "lossOf", "(II)I"⟩, 13) := ⟨⟨by decide +kernel, by decide +kernel⟩, List.mem_of_getElem? (i := 589) (by decide +kernel), List.mem_of_getElem? (i := 803) (by decide +kernel), List.mem_of_getElem? (i := 804) (by decide +kernel)⟩
theorem lw_p45 : lw_okq (⟨"MeterTreeModel", "balanceOf", "(II)I"⟩, 13) := ⟨⟨by decide +kernel, by decide +kernel⟩, List.mem_of_getElem? (i := 589) (by decide +kernel), List.mem_of_getElem? (i := 811) (by decide +kernel), List.mem_of_getElem? (i := 812) (by decide +kernel)⟩
theorem lw_p46 : lw_okq (⟨"MeterTreeModel", "bills", "(I)V"⟩, 13) := ⟨⟨by decide +kernel, by decide +kernel⟩, List.mem_of_getElem? (i := 589) (by decide +kernel), List.mem_of_getElem? (i := 824) (by decide +kernel), List.mem_of_getElem? (i := 825) (by decide +kernel)⟩
theorem lw_p47 : lw_okq (⟨"MeterTreeModel", "allocates", "(I)V"⟩, 13) := ⟨⟨by decide +kernel, by decide +kernel⟩, List.mem_of_getElem? (i := 589) (by decide +kernel), List.mem_of_getElem? (i := 828) (by decide +kernel), List.mem_of_getElem? (i := 829) (by decide +kernel)⟩
def lw_privs_3 : List (MethodName × Nat) := [(⟨"MeterTreeModel", "becomes", "(III)I"⟩, 13), (⟨"MeterTreeModel", "isInterval", "(II)Z"⟩, 13), (⟨"MeterTreeModel", "rawOf", "(II)I"⟩, 13), (⟨"MeterTreeModel", "advance", "(III)I"⟩, 13), (⟨"MeterTreeModel", "statusOf", "(II)I"⟩, 13), (⟨"MeterTreeModel", "isModest", "(II)Z"⟩, 13), (⟨"MeterTreeModel", "energyOf", "(II)I"⟩, 13), (⟨"MeterTreeModel", "qualityOf", "(II)I"⟩, 13), (⟨"MeterTreeModel", "isValid", "(II)Z"⟩, 13), (⟨"MeterTreeModel", "first", "(II)I"⟩, 13), (⟨"MeterTreeModel", "last", "(II)I"⟩, 13), (⟨"MeterTreeModel", "validOf", "(II)I"⟩, 13), (⟨"MeterTreeModel", "lossOf", "(II)I"⟩, 13), (⟨"MeterTreeModel", "balanceOf", "(II)I"⟩, 13), (⟨"MeterTreeModel", "bills", "(I)V"⟩, 13), (⟨"MeterTreeModel", "allocates", "(I)V"⟩, 13)]
theorem lw_r3 : ∀ q ∈ lw_privs_3, lw_okq q := List.forall_mem_cons.mpr ⟨lw_p32, List.forall_mem_cons.mpr ⟨lw_p33, List.forall_mem_cons.mpr ⟨lw_p34, List.forall_mem_cons.mpr ⟨lw_p35, List.forall_mem_cons.mpr ⟨lw_p36, List.forall_mem_cons.mpr ⟨lw_p37, List.forall_mem_cons.mpr ⟨lw_p38, List.forall_mem_cons.mpr ⟨lw_p39, List.forall_mem_cons.mpr ⟨lw_p40, List.forall_mem_cons.mpr ⟨lw_p41, List.forall_mem_cons.mpr ⟨lw_p42, List.forall_mem_cons.mpr ⟨lw_p43, List.forall_mem_cons.mpr ⟨lw_p44, List.forall_mem_cons.mpr ⟨lw_p45, List.forall_mem_cons.mpr ⟨lw_p46, List.forall_mem_cons.mpr ⟨lw_p47, fun _ h => absurd h List.not_mem_nil⟩⟩⟩⟩⟩⟩⟩⟩⟩⟩⟩⟩⟩⟩⟩⟩
theorem lw_p48 : lw_okq (⟨"MeterTreeModel", "billsAll", "()V"⟩, 13) := ⟨⟨by decide +kernel, by decide +kernel⟩, List.mem_of_getElem? (i := 589) (by decide +kernel), List.mem_of_getElem? (i := 840) (by decide +kernel), List.mem_of_getElem? (i := 841) (by decide +kernel)⟩
theorem lw_p49 : lw_okq (⟨"MeterTreeModel", "dayOf", "(II)I"⟩, 13) := ⟨⟨by decide +kernel, by decide +kernel⟩, List.mem_of_getElem? (i := 589) (by decide +kernel), List.mem_of_getElem? (i := 844) (by decide +kernel), List.mem_of_getElem? (i := 845) (by decide +kernel)⟩
theorem lw_p50 : lw_okq (⟨"MeterTreeModel", "shareOf", "(I)F"⟩, 13) := ⟨⟨by decide +kernel, by decide +kernel⟩, List.mem_of_getElem? (i := 589) (by decide +kernel), List.mem_of_getElem? (i := 852) (by decide +kernel), List.mem_of_getElem? (i := 853) (by decide +kernel)⟩
theorem lw_p51 : lw_okq (⟨"MeterTreeModel", "imbalanceOf", "(III)I"⟩, 13) := ⟨⟨by decide +kernel, by decide +kernel⟩, List.mem_of_getElem? (i := 589) (by decide +kernel), List.mem_of_getElem? (i := 875) (by decide +kernel), List.mem_of_getElem? (i := 876) (by decide +kernel)⟩
theorem lw_p52 : lw_okq (⟨"MeterTreeModel", "isRevision", "(I)Z"⟩, 13) := ⟨⟨by decide +kernel, by decide +kernel⟩, List.mem_of_getElem? (i := 589) (by decide +kernel), List.mem_of_getElem? (i := 904) (by decide +kernel), List.mem_of_getElem? (i := 905) (by decide +kernel)⟩
theorem lw_p53 : lw_okq (⟨"MeterTreeModel", "kept", "(II)I"⟩, 13) := ⟨⟨by decide +kernel, by decide +kernel⟩, List.mem_of_getElem? (i := 589) (by decide +kernel), List.mem_of_getElem? (i := 908) (by decide +kernel), List.mem_of_getElem? (i := 909) (by decide +kernel)⟩
theorem lw_p54 : lw_okq (⟨"MeterTreeModel", "readsAll", "(Z)Z"⟩, 13) := ⟨⟨by decide +kernel, by decide +kernel⟩, List.mem_of_getElem? (i := 589) (by decide +kernel), List.mem_of_getElem? (i := 936) (by decide +kernel), List.mem_of_getElem? (i := 937) (by decide +kernel)⟩
theorem lw_p55 : lw_okq (⟨"MeterTreeModel", "readsOne", "(Z)Z"⟩, 13) := ⟨⟨by decide +kernel, by decide +kernel⟩, List.mem_of_getElem? (i := 589) (by decide +kernel), List.mem_of_getElem? (i := 940) (by decide +kernel), List.mem_of_getElem? (i := 941) (by decide +kernel)⟩
theorem lw_p56 : lw_okq (⟨"MeterTreeModel", "readsNumber", "(I)Z"⟩, 13) := ⟨⟨by decide +kernel, by decide +kernel⟩, List.mem_of_getElem? (i := 589) (by decide +kernel), List.mem_of_getElem? (i := 944) (by decide +kernel), List.mem_of_getElem? (i := 945) (by decide +kernel)⟩
theorem lw_p57 : lw_okq (⟨"MeterTreeModel", "here", "()I"⟩, 13) := ⟨⟨by decide +kernel, by decide +kernel⟩, List.mem_of_getElem? (i := 589) (by decide +kernel), List.mem_of_getElem? (i := 948) (by decide +kernel), List.mem_of_getElem? (i := 949) (by decide +kernel)⟩
theorem lw_p58 : lw_okq (⟨"MeterTreeModel", "sign", "(I)Z"⟩, 13) := ⟨⟨by decide +kernel, by decide +kernel⟩, List.mem_of_getElem? (i := 589) (by decide +kernel), List.mem_of_getElem? (i := 952) (by decide +kernel), List.mem_of_getElem? (i := 953) (by decide +kernel)⟩
theorem lw_p59 : lw_okq (⟨"MeterTreeModel", "note", "(I)V"⟩, 13) := ⟨⟨by decide +kernel, by decide +kernel⟩, List.mem_of_getElem? (i := 589) (by decide +kernel), List.mem_of_getElem? (i := 965) (by decide +kernel), List.mem_of_getElem? (i := 966) (by decide +kernel)⟩
def lw_privs_4 : List (MethodName × Nat) := [(⟨"MeterTreeModel", "billsAll", "()V"⟩, 13), (⟨"MeterTreeModel", "dayOf", "(II)I"⟩, 13), (⟨"MeterTreeModel", "shareOf", "(I)F"⟩, 13), (⟨"MeterTreeModel", "imbalanceOf", "(III)I"⟩, 13), (⟨"MeterTreeModel", "isRevision", "(I)Z"⟩, 13), (⟨"MeterTreeModel", "kept", "(II)I"⟩, 13), (⟨"MeterTreeModel", "readsAll", "(Z)Z"⟩, 13), (⟨"MeterTreeModel", "readsOne", "(Z)Z"⟩, 13), (⟨"MeterTreeModel", "readsNumber", "(I)Z"⟩, 13), (⟨"MeterTreeModel", "here", "()I"⟩, 13), (⟨"MeterTreeModel", "sign", "(I)Z"⟩, 13), (⟨"MeterTreeModel", "note", "(I)V"⟩, 13)]
theorem lw_r4 : ∀ q ∈ lw_privs_4, lw_okq q := List.forall_mem_cons.mpr ⟨lw_p48, List.forall_mem_cons.mpr ⟨lw_p49, List.forall_mem_cons.mpr ⟨lw_p50, List.forall_mem_cons.mpr ⟨lw_p51, List.forall_mem_cons.mpr ⟨lw_p52, List.forall_mem_cons.mpr ⟨lw_p53, List.forall_mem_cons.mpr ⟨lw_p54, List.forall_mem_cons.mpr ⟨lw_p55, List.forall_mem_cons.mpr ⟨lw_p56, List.forall_mem_cons.mpr ⟨lw_p57, List.forall_mem_cons.mpr ⟨lw_p58, List.forall_mem_cons.mpr ⟨lw_p59, fun _ h => absurd h List.not_mem_nil⟩⟩⟩⟩⟩⟩⟩⟩⟩⟩⟩⟩
def lw_privs : List (MethodName × Nat) := lw_privs_1 ++ (lw_privs_2 ++ (lw_privs_3 ++ (lw_privs_4)))
def lw_tbl : List Cond := k2_sels lw_privs ++ tables_1
theorem lw_privs_ok : ∀ q ∈ lw_privs, lw_okq q := by
  show ∀ q ∈ lw_privs_1 ++ (lw_privs_2 ++ (lw_privs_3 ++ (lw_privs_4))), lw_okq q
  exact List.forall_mem_append.mpr ⟨lw_r1, List.forall_mem_append.mpr ⟨lw_r2, List.forall_mem_append.mpr ⟨lw_r3, lw_r4⟩⟩⟩
/-- the streams that the claim lets the run draw from -/
abbrev lw_cs : List Choice := [Jvm.Choice.named "NaN.bits"]
theorem lw_bits : nanBits ∈ lw_cs := by first | decide | exact List.mem_cons_self | simp [lw_cs, nanBits]
-- ===== end of PART A; then your names; then what follows =====
end
section
theorem goodIn_r {big : List Cond} (ws : List Cond) (ps : List Nat) (hp : ws = ps.filterMap (fun i => big[i]?)) (h : ws.all goodWord = true) : GoodIn big ws := by
  intro w hw
  have h1 := List.all_eq_true.mp h w hw
  rw [hp] at hw
  obtain ⟨i, -, hi⟩ := List.mem_filterMap.mp hw
  have hm : w ∈ big := by first | exact List.mem_of_getElem? hi | exact List.getElem?_mem hi
  exact ⟨hm, good_of_word h1⟩
theorem goodIn_app {big a b : List Cond} (ha : GoodIn big a) (hb : GoodIn big b) : GoodIn big (a ++ b) := fun w h => (List.mem_append.mp h).elim (ha w) (hb w)
theorem goodIn_ca {big a b : List Cond} {c : Cond} (ha : GoodIn big (c :: a)) (hb : GoodIn big b) : GoodIn big (c :: (a ++ b)) := fun w h => (List.mem_cons.mp h).elim (fun e => ha w (List.mem_cons.mpr (Or.inl e))) (fun h => (List.mem_append.mp h).elim (fun h => ha w (List.mem_cons.mpr (Or.inr h))) (hb w))
theorem goodIn_sub {big ws : List Cond} (hm : ∀ w ∈ ws, w ∈ big) (h : ws.all goodWord = true) : GoodIn big ws := fun w hw => ⟨hm w hw, good_of_word (List.all_eq_true.mp h w hw)⟩
def RX0 : String := "MeterTree$Bills"
def TX0 : u_T := fun k => match k with
  | 0 => ("MeterTree$Bills", "billed", "[[I", true)
  | 1 => ("MeterTree$Bills", "claim", "[J", true)
  | 2 => ("MeterTree$Bills", "part", "[J", true)
  | _ => ("MeterTree$Bills", "remainder", "[J", true)
def tyX0 : Nat → FieldType := fun k => match k with
  | 0 => .array (.array .int)
  | 1 => .array .long
  | 2 => .array .long
  | _ => .array .long
theorem nmX0 : ∀ a, a < 4 → ∀ b, b < 4 → a ≠ b → (TX0 a).2.1 ≠ (TX0 b).2.1 := by decide +kernel
theorem tyX0_ok : ∀ k, k < 4 → parseFieldDescriptor (TX0 k).2.2.1 = some (tyX0 k) := by decide +kernel
abbrev cX0_init : ByteArray := prog_2_method_1_code
def yX0_init : MethodName := ⟨RX0, "<init>", "()V"⟩
abbrev cX0_fill : ByteArray := prog_2_method_2_code
def yX0_fill : MethodName := ⟨RX0, "fill", "(LMeterTree$State;LMeterTree$Energies;)V"⟩
abbrev cX0_allocate : ByteArray := prog_2_method_3_code
def yX0_allocate : MethodName := ⟨RX0, "allocate", "(LMeterTree$State;LMeterTree$Energies;II)V"⟩
abbrev cX0_claimByEnergy : ByteArray := prog_2_method_4_code
def yX0_claimByEnergy : MethodName := ⟨RX0, "claimByEnergy", "(LMeterTree$State;LMeterTree$Energies;II)J"⟩
abbrev cX0_claimByWeight : ByteArray := prog_2_method_5_code
def yX0_claimByWeight : MethodName := ⟨RX0, "claimByWeight", "(LMeterTree$State;I)J"⟩
abbrev cX0_divide : ByteArray := prog_2_method_6_code
def yX0_divide : MethodName := ⟨RX0, "divide", "(LMeterTree$State;IJJ)V"⟩
abbrev cX0_giveOne : ByteArray := prog_2_method_7_code
def yX0_giveOne : MethodName := ⟨RX0, "giveOne", "(LMeterTree$State;I)V"⟩
def RX1 : String := "MeterTree$Energies"
def TX1 : u_T := fun k => match k with
  | 0 => ("MeterTree$Energies", "energy", "[[I", true)
  | 1 => ("MeterTree$Energies", "quality", "[[I", true)
  | _ => ("MeterTree$Energies", "status", "[I", true)
def tyX1 : Nat → FieldType := fun k => match k with
  | 0 => .array (.array .int)
  | 1 => .array (.array .int)
  | _ => .array .int
theorem nmX1 : ∀ a, a < 3 → ∀ b, b < 3 → a ≠ b → (TX1 a).2.1 ≠ (TX1 b).2.1 := by decide +kernel
theorem tyX1_ok : ∀ k, k < 3 → parseFieldDescriptor (TX1 k).2.2.1 = some (tyX1 k) := by decide +kernel
abbrev cX1_init : ByteArray := prog_3_method_1_code
def yX1_init : MethodName := ⟨RX1, "<init>", "()V"⟩
abbrev cX1_measureFamily : ByteArray := prog_3_method_2_code
def yX1_measureFamily : MethodName := ⟨RX1, "measureFamily", "(LMeterTree$State;I)V"⟩
abbrev cX1_measure : ByteArray := prog_3_method_3_code
def yX1_measure : MethodName := ⟨RX1, "measure", "(LMeterTree$State;I)V"⟩
abbrev cX1_estimate : ByteArray := prog_3_method_4_code
def yX1_estimate : MethodName := ⟨RX1, "estimate", "(LMeterTree$State;III)V"⟩
abbrev cX1_isAllMissing : ByteArray := prog_3_method_5_code
def yX1_isAllMissing : MethodName := ⟨RX1, "isAllMissing", "(II)Z"⟩
abbrev cX1_spread : ByteArray := prog_3_method_6_code
def yX1_spread : MethodName := ⟨RX1, "spread", "(IIII)V"⟩
abbrev cX1_interpolate : ByteArray := prog_3_method_7_code
def yX1_interpolate : MethodName := ⟨RX1, "interpolate", "(III)V"⟩
abbrev cX1_level : ByteArray := prog_3_method_8_code
def yX1_level : MethodName := ⟨RX1, "level", "(IIIII)V"⟩
abbrev cX1_lossIn : ByteArray := prog_3_method_9_code
def yX1_lossIn : MethodName := ⟨RX1, "lossIn", "(LMeterTree$State;II)I"⟩
abbrev cX1_balanceIn : ByteArray := prog_3_method_10_code
def yX1_balanceIn : MethodName := ⟨RX1, "balanceIn", "(LMeterTree$State;II)I"⟩
abbrev cX1_sumImbalance : ByteArray := prog_3_method_11_code
def yX1_sumImbalance : MethodName := ⟨RX1, "sumImbalance", "(LMeterTree$State;I)I"⟩
abbrev cX1_sumImbalanceScaled : ByteArray := prog_3_method_12_code
def yX1_sumImbalanceScaled : MethodName := ⟨RX1, "sumImbalanceScaled", "(LMeterTree$State;III)I"⟩
abbrev cX1_findSuspect : ByteArray := prog_3_method_13_code
def yX1_findSuspect : MethodName := ⟨RX1, "findSuspect", "(LMeterTree$State;I)I"⟩
abbrev cX1_scaled : ByteArray := prog_3_method_14_code
def yX1_scaled : MethodName := ⟨RX1, "scaled", "(II)I"⟩
def RX2 : String := "MeterTree$History"
def TX2 : u_T := fun k => match k with
  | 0 => ("MeterTree$History", "states", "[LMeterTree$State;", true)
  | _ => ("MeterTree$History", "size", "I", false)
def tyX2 : Nat → FieldType := fun k => match k with
  | 0 => .array (.object "MeterTree$State")
  | _ => .int
theorem nmX2 : ∀ a, a < 2 → ∀ b, b < 2 → a ≠ b → (TX2 a).2.1 ≠ (TX2 b).2.1 := by decide +kernel
theorem tyX2_ok : ∀ k, k < 2 → parseFieldDescriptor (TX2 k).2.2.1 = some (tyX2 k) := by decide +kernel
abbrev cX2_init : ByteArray := prog_4_method_1_code
def yX2_init : MethodName := ⟨RX2, "<init>", "()V"⟩
abbrev cX2_push : ByteArray := prog_4_method_2_code
def yX2_push : MethodName := ⟨RX2, "push", "(LMeterTree$State;)V"⟩
abbrev cX2_dropOldest : ByteArray := prog_4_method_3_code
def yX2_dropOldest : MethodName := ⟨RX2, "dropOldest", "()V"⟩
abbrev cX2_pop : ByteArray := prog_4_method_4_code
def yX2_pop : MethodName := ⟨RX2, "pop", "(LMeterTree$State;)V"⟩
def RX3 : String := "MeterTree$ReadingText"
def TX3 : u_T := fun k => match k with
  | 0 => ("MeterTree$ReadingText", "bytes", "[I", true)
  | 1 => ("MeterTree$ReadingText", "length", "I", false)
  | 2 => ("MeterTree$ReadingText", "entryMeter", "[I", true)
  | 3 => ("MeterTree$ReadingText", "entryBoundary", "[I", true)
  | 4 => ("MeterTree$ReadingText", "entryValue", "[I", true)
  | 5 => ("MeterTree$ReadingText", "entries", "I", false)
  | 6 => ("MeterTree$ReadingText", "position", "I", false)
  | _ => ("MeterTree$ReadingText", "fault", "I", false)
def tyX3 : Nat → FieldType := fun k => match k with
  | 0 => .array .int
  | 1 => .int
  | 2 => .array .int
  | 3 => .array .int
  | 4 => .array .int
  | 5 => .int
  | 6 => .int
  | _ => .int
theorem nmX3 : ∀ a, a < 8 → ∀ b, b < 8 → a ≠ b → (TX3 a).2.1 ≠ (TX3 b).2.1 := by decide +kernel
theorem tyX3_ok : ∀ k, k < 8 → parseFieldDescriptor (TX3 k).2.2.1 = some (tyX3 k) := by decide +kernel
abbrev cX3_init : ByteArray := prog_5_method_1_code
def yX3_init : MethodName := ⟨RX3, "<init>", "()V"⟩
abbrev cX3_parse : ByteArray := prog_5_method_2_code
def yX3_parse : MethodName := ⟨RX3, "parse", "(LMeterTree$State;)I"⟩
abbrev cX3_parseEntry : ByteArray := prog_5_method_3_code
def yX3_parseEntry : MethodName := ⟨RX3, "parseEntry", "(LMeterTree$State;)Z"⟩
abbrev cX3_keep : ByteArray := prog_5_method_4_code
def yX3_keep : MethodName := ⟨RX3, "keep", "(III)V"⟩
abbrev cX3_peek : ByteArray := prog_5_method_5_code
def yX3_peek : MethodName := ⟨RX3, "peek", "()I"⟩
abbrev cX3_skipBlanks : ByteArray := prog_5_method_6_code
def yX3_skipBlanks : MethodName := ⟨RX3, "skipBlanks", "()V"⟩
abbrev cX3_takeSign : ByteArray := prog_5_method_7_code
def yX3_takeSign : MethodName := ⟨RX3, "takeSign", "(I)Z"⟩
abbrev cX3_takeNumber : ByteArray := prog_5_method_8_code
def yX3_takeNumber : MethodName := ⟨RX3, "takeNumber", "(I)I"⟩
abbrev cX3_isDigit : ByteArray := prog_5_method_9_code
def yX3_isDigit : MethodName := ⟨RX3, "isDigit", "(I)Z"⟩
abbrev cX3_apply : ByteArray := prog_5_method_10_code
def yX3_apply : MethodName := ⟨RX3, "apply", "(LMeterTree$State;)I"⟩
def RX4 : String := "MeterTree$State"
def TX4 : u_T := fun k => match k with
  | 0 => ("MeterTree$State", "count", "I", false)
  | 1 => ("MeterTree$State", "spike", "I", false)
  | 2 => ("MeterTree$State", "tolerance", "I", false)
  | 3 => ("MeterTree$State", "revised", "I", false)
  | 4 => ("MeterTree$State", "parent", "[I", true)
  | 5 => ("MeterTree$State", "multiplier", "[I", true)
  | 6 => ("MeterTree$State", "digits", "[I", true)
  | 7 => ("MeterTree$State", "limit", "[I", true)
  | 8 => ("MeterTree$State", "weight", "[I", true)
  | 9 => ("MeterTree$State", "readings", "[[I", true)
  | _ => ("MeterTree$State", "kept", "[[I", true)
def tyX4 : Nat → FieldType := fun k => match k with
  | 0 => .int
  | 1 => .int
  | 2 => .int
  | 3 => .int
  | 4 => .array .int
  | 5 => .array .int
  | 6 => .array .int
  | 7 => .array .int
  | 8 => .array .int
  | 9 => .array (.array .int)
  | _ => .array (.array .int)
theorem nmX4 : ∀ a, a < 11 → ∀ b, b < 11 → a ≠ b → (TX4 a).2.1 ≠ (TX4 b).2.1 := by decide +kernel
theorem tyX4_ok : ∀ k, k < 11 → parseFieldDescriptor (TX4 k).2.2.1 = some (tyX4 k) := by decide +kernel
abbrev cX4_init : ByteArray := prog_6_method_1_code
def yX4_init : MethodName := ⟨RX4, "<init>", "()V"⟩
abbrev cX4_copyFrom : ByteArray := prog_6_method_2_code
def yX4_copyFrom : MethodName := ⟨RX4, "copyFrom", "(LMeterTree$State;)V"⟩
abbrev cX4_has : ByteArray := prog_6_method_3_code
def yX4_has : MethodName := ⟨RX4, "has", "(I)Z"⟩
abbrev cX4_hasRevision : ByteArray := prog_6_method_4_code
def yX4_hasRevision : MethodName := ⟨RX4, "hasRevision", "(I)Z"⟩
abbrev cX4_append : ByteArray := prog_6_method_5_code
def yX4_append : MethodName := ⟨RX4, "append", "(I)I"⟩
abbrev cX4_forgetReadings : ByteArray := prog_6_method_6_code
def yX4_forgetReadings : MethodName := ⟨RX4, "forgetReadings", "(I)V"⟩
abbrev cX4_countChildren : ByteArray := prog_6_method_7_code
def yX4_countChildren : MethodName := ⟨RX4, "countChildren", "(I)I"⟩
abbrev cX4_findChild : ByteArray := prog_6_method_8_code
def yX4_findChild : MethodName := ⟨RX4, "findChild", "(II)I"⟩
abbrev cX4_countAbove : ByteArray := prog_6_method_9_code
def yX4_countAbove : MethodName := ⟨RX4, "countAbove", "(I)I"⟩
abbrev cX4_span : ByteArray := prog_6_method_10_code
def yX4_span : MethodName := ⟨RX4, "span", "(I)I"⟩
abbrev cX4_advance : ByteArray := prog_6_method_11_code
def yX4_advance : MethodName := ⟨RX4, "advance", "(III)I"⟩
abbrev cX4_judge : ByteArray := prog_6_method_12_code
def yX4_judge : MethodName := ⟨RX4, "judge", "(II)I"⟩
def RX5 : String := "MeterTree"
def TX5 : u_T := fun k => match k with
  | 0 => ("MeterTree", "now", "LMeterTree$State;", true)
  | 1 => ("MeterTree", "history", "LMeterTree$History;", true)
  | 2 => ("MeterTree", "energies", "LMeterTree$Energies;", true)
  | 3 => ("MeterTree", "bills", "LMeterTree$Bills;", true)
  | _ => ("MeterTree", "text", "LMeterTree$ReadingText;", true)
def tyX5 : Nat → FieldType := fun k => match k with
  | 0 => .object "MeterTree$State"
  | 1 => .object "MeterTree$History"
  | 2 => .object "MeterTree$Energies"
  | 3 => .object "MeterTree$Bills"
  | _ => .object "MeterTree$ReadingText"
theorem nmX5 : ∀ a, a < 5 → ∀ b, b < 5 → a ≠ b → (TX5 a).2.1 ≠ (TX5 b).2.1 := by decide +kernel
theorem tyX5_ok : ∀ k, k < 5 → parseFieldDescriptor (TX5 k).2.2.1 = some (tyX5 k) := by decide +kernel
abbrev cX5_init : ByteArray := prog_1_method_1_code
def yX5_init : MethodName := ⟨RX5, "<init>", "()V"⟩
abbrev cX5_addMeter : ByteArray := prog_1_method_2_code
def yX5_addMeter : MethodName := ⟨RX5, "addMeter", "(I)I"⟩
abbrev cX5_setMeter : ByteArray := prog_1_method_3_code
def yX5_setMeter : MethodName := ⟨RX5, "setMeter", "(III)I"⟩
abbrev cX5_setRegister : ByteArray := prog_1_method_4_code
def yX5_setRegister : MethodName := ⟨RX5, "setRegister", "(III)I"⟩
abbrev cX5_setRules : ByteArray := prog_1_method_5_code
def yX5_setRules : MethodName := ⟨RX5, "setRules", "(II)I"⟩
abbrev cX5_meters : ByteArray := prog_1_method_6_code
def yX5_meters : MethodName := ⟨RX5, "meters", "()I"⟩
abbrev cX5_meter : ByteArray := prog_1_method_7_code
def yX5_meter : MethodName := ⟨RX5, "meter", "(II)I"⟩
abbrev cX5_child : ByteArray := prog_1_method_8_code
def yX5_child : MethodName := ⟨RX5, "child", "(II)I"⟩
abbrev cX5_setReading : ByteArray := prog_1_method_9_code
def yX5_setReading : MethodName := ⟨RX5, "setReading", "(III)I"⟩
abbrev cX5_setAll : ByteArray := prog_1_method_10_code
def yX5_setAll : MethodName := ⟨RX5, "setAll", "(III)I"⟩
abbrev cX5_removeReading : ByteArray := prog_1_method_11_code
def yX5_removeReading : MethodName := ⟨RX5, "removeReading", "(II)I"⟩
abbrev cX5_reading : ByteArray := prog_1_method_12_code
def yX5_reading : MethodName := ⟨RX5, "reading", "(II)I"⟩
abbrev cX5_raw : ByteArray := prog_1_method_13_code
def yX5_raw : MethodName := ⟨RX5, "raw", "(II)I"⟩
abbrev cX5_status : ByteArray := prog_1_method_14_code
def yX5_status : MethodName := ⟨RX5, "status", "(II)I"⟩
abbrev cX5_energy : ByteArray := prog_1_method_15_code
def yX5_energy : MethodName := ⟨RX5, "energy", "(II)I"⟩
abbrev cX5_quality : ByteArray := prog_1_method_16_code
def yX5_quality : MethodName := ⟨RX5, "quality", "(II)I"⟩
abbrev cX5_day : ByteArray := prog_1_method_17_code
def yX5_day : MethodName := ⟨RX5, "day", "(II)I"⟩
abbrev cX5_loss : ByteArray := prog_1_method_18_code
def yX5_loss : MethodName := ⟨RX5, "loss", "(II)I"⟩
abbrev cX5_balance : ByteArray := prog_1_method_19_code
def yX5_balance : MethodName := ⟨RX5, "balance", "(II)I"⟩
abbrev cX5_nextFault : ByteArray := prog_1_method_20_code
def yX5_nextFault : MethodName := ⟨RX5, "nextFault", "(II)I"⟩
abbrev cX5_billed : ByteArray := prog_1_method_21_code
def yX5_billed : MethodName := ⟨RX5, "billed", "(II)I"⟩
abbrev cX5_part : ByteArray := prog_1_method_22_code
def yX5_part : MethodName := ⟨RX5, "part", "(II)I"⟩
abbrev cX5_shareBits : ByteArray := prog_1_method_23_code
def yX5_shareBits : MethodName := ⟨RX5, "shareBits", "(I)I"⟩
abbrev cX5_share : ByteArray := prog_1_method_24_code
def yX5_share : MethodName := ⟨RX5, "share", "(I)I"⟩
abbrev cX5_imbalance : ByteArray := prog_1_method_25_code
def yX5_imbalance : MethodName := ⟨RX5, "imbalance", "(I)I"⟩
abbrev cX5_imbalanceWith : ByteArray := prog_1_method_26_code
def yX5_imbalanceWith : MethodName := ⟨RX5, "imbalanceWith", "(III)I"⟩
abbrev cX5_suspect : ByteArray := prog_1_method_27_code
def yX5_suspect : MethodName := ⟨RX5, "suspect", "(I)I"⟩
abbrev cX5_revise : ByteArray := prog_1_method_28_code
def yX5_revise : MethodName := ⟨RX5, "revise", "()I"⟩
abbrev cX5_revisions : ByteArray := prog_1_method_29_code
def yX5_revisions : MethodName := ⟨RX5, "revisions", "()I"⟩
abbrev cX5_billOf : ByteArray := prog_1_method_30_code
def yX5_billOf : MethodName := ⟨RX5, "billOf", "(II)I"⟩
abbrev cX5_changed : ByteArray := prog_1_method_31_code
def yX5_changed : MethodName := ⟨RX5, "changed", "(III)I"⟩
abbrev cX5_clearRevisions : ByteArray := prog_1_method_32_code
def yX5_clearRevisions : MethodName := ⟨RX5, "clearRevisions", "()I"⟩
abbrev cX5_undo : ByteArray := prog_1_method_33_code
def yX5_undo : MethodName := ⟨RX5, "undo", "()I"⟩
abbrev cX5_type : ByteArray := prog_1_method_34_code
def yX5_type : MethodName := ⟨RX5, "type", "(I)I"⟩
abbrev cX5_clearText : ByteArray := prog_1_method_35_code
def yX5_clearText : MethodName := ⟨RX5, "clearText", "()I"⟩
abbrev cX5_textFault : ByteArray := prog_1_method_36_code
def yX5_textFault : MethodName := ⟨RX5, "textFault", "()I"⟩
abbrev cX5_load : ByteArray := prog_1_method_37_code
def yX5_load : MethodName := ⟨RX5, "load", "()I"⟩
abbrev cX5_digest : ByteArray := prog_1_method_38_code
def yX5_digest : MethodName := ⟨RX5, "digest", "()J"⟩
abbrev cX5_mixed : ByteArray := prog_1_method_39_code
def yX5_mixed : MethodName := ⟨RX5, "mixed", "(JI)J"⟩
abbrev cX5_within : ByteArray := prog_1_method_40_code
def yX5_within : MethodName := ⟨RX5, "within", "(III)Z"⟩
abbrev cX5_isInterval : ByteArray := prog_1_method_41_code
def yX5_isInterval : MethodName := ⟨RX5, "isInterval", "(I)Z"⟩
abbrev cX5_isBoundary : ByteArray := prog_1_method_42_code
def yX5_isBoundary : MethodName := ⟨RX5, "isBoundary", "(I)Z"⟩
abbrev cX5_noneAsZero : ByteArray := prog_1_method_43_code
def yX5_noneAsZero : MethodName := ⟨RX5, "noneAsZero", "(I)I"⟩
abbrev cX5_sumOf : ByteArray := prog_1_method_44_code
def yX5_sumOf : MethodName := ⟨RX5, "sumOf", "([I)I"⟩
abbrev cX5_sumOfLosses : ByteArray := prog_1_method_45_code
def yX5_sumOfLosses : MethodName := ⟨RX5, "sumOfLosses", "(I)I"⟩
abbrev cX5_countNotValid : ByteArray := prog_1_method_46_code
def yX5_countNotValid : MethodName := ⟨RX5, "countNotValid", "(I)I"⟩
abbrev cX5_shareOf : ByteArray := prog_1_method_47_code
def yX5_shareOf : MethodName := ⟨RX5, "shareOf", "(I)F"⟩
abbrev cX5_bitsOf : ByteArray := prog_1_method_48_code
def yX5_bitsOf : MethodName := ⟨RX5, "bitsOf", "(F)I"⟩
def RX6 : String := "MeterTreeModel"
def TX6 : u_T := fun k => match k with
  | 0 => ("MeterTreeModel", "row", "[I", true)
  | 1 => ("MeterTreeModel", "saved", "I", false)
  | 2 => ("MeterTreeModel", "bill", "[I", true)
  | 3 => ("MeterTreeModel", "its", "[I", true)
  | 4 => ("MeterTreeModel", "claim", "[J", true)
  | 5 => ("MeterTreeModel", "part", "[I", true)
  | 6 => ("MeterTreeModel", "total", "[I", true)
  | 7 => ("MeterTreeModel", "text", "[I", true)
  | 8 => ("MeterTreeModel", "length", "I", false)
  | 9 => ("MeterTreeModel", "at", "I", false)
  | 10 => ("MeterTreeModel", "number", "I", false)
  | 11 => ("MeterTreeModel", "numbers", "I", false)
  | _ => ("MeterTreeModel", "h", "J", false)
def tyX6 : Nat → FieldType := fun k => match k with
  | 0 => .array .int
  | 1 => .int
  | 2 => .array .int
  | 3 => .array .int
  | 4 => .array .long
  | 5 => .array .int
  | 6 => .array .int
  | 7 => .array .int
  | 8 => .int
  | 9 => .int
  | 10 => .int
  | 11 => .int
  | _ => .long
theorem nmX6 : ∀ a, a < 13 → ∀ b, b < 13 → a ≠ b → (TX6 a).2.1 ≠ (TX6 b).2.1 := by decide +kernel
theorem tyX6_ok : ∀ k, k < 13 → parseFieldDescriptor (TX6 k).2.2.1 = some (tyX6 k) := by decide +kernel
abbrev cX6_init : ByteArray := prog_8_method_1_code
def yX6_init : MethodName := ⟨RX6, "<init>", "()V"⟩
abbrev cX6_in : ByteArray := prog_8_method_2_code
def yX6_in : MethodName := ⟨RX6, "in", "(III)Z"⟩
abbrev cX6_copies : ByteArray := prog_8_method_3_code
def yX6_copies : MethodName := ⟨RX6, "copies", "(II)V"⟩
abbrev cX6_saves : ByteArray := prog_8_method_4_code
def yX6_saves : MethodName := ⟨RX6, "saves", "()V"⟩
abbrev cX6_isMeter : ByteArray := prog_8_method_5_code
def yX6_isMeter : MethodName := ⟨RX6, "isMeter", "(I)Z"⟩
abbrev cX6_of : ByteArray := prog_8_method_6_code
def yX6_of : MethodName := ⟨RX6, "of", "(II)I"⟩
abbrev cX6_sets : ByteArray := prog_8_method_7_code
def yX6_sets : MethodName := ⟨RX6, "sets", "(III)V"⟩
abbrev cX6_whole : ByteArray := prog_8_method_8_code
def yX6_whole : MethodName := ⟨RX6, "whole", "(I)I"⟩
abbrev cX6_children : ByteArray := prog_8_method_9_code
def yX6_children : MethodName := ⟨RX6, "children", "(I)I"⟩
abbrev cX6_noReadings : ByteArray := prog_8_method_10_code
def yX6_noReadings : MethodName := ⟨RX6, "noReadings", "(I)V"⟩
abbrev cX6_addMeter : ByteArray := prog_8_method_11_code
def yX6_addMeter : MethodName := ⟨RX6, "addMeter", "(I)I"⟩
abbrev cX6_setMeter : ByteArray := prog_8_method_12_code
def yX6_setMeter : MethodName := ⟨RX6, "setMeter", "(III)I"⟩
abbrev cX6_setRegister : ByteArray := prog_8_method_13_code
def yX6_setRegister : MethodName := ⟨RX6, "setRegister", "(III)I"⟩
abbrev cX6_setRules : ByteArray := prog_8_method_14_code
def yX6_setRules : MethodName := ⟨RX6, "setRules", "(II)I"⟩
abbrev cX6_meters : ByteArray := prog_8_method_15_code
def yX6_meters : MethodName := ⟨RX6, "meters", "()I"⟩
abbrev cX6_above : ByteArray := prog_8_method_16_code
def yX6_above : MethodName := ⟨RX6, "above", "(I)I"⟩
abbrev cX6_meter : ByteArray := prog_8_method_17_code
def yX6_meter : MethodName := ⟨RX6, "meter", "(II)I"⟩
abbrev cX6_childOf : ByteArray := prog_8_method_18_code
def yX6_childOf : MethodName := ⟨RX6, "childOf", "(II)I"⟩
abbrev cX6_child : ByteArray := prog_8_method_19_code
def yX6_child : MethodName := ⟨RX6, "child", "(II)I"⟩
abbrev cX6_isBoundary : ByteArray := prog_8_method_20_code
def yX6_isBoundary : MethodName := ⟨RX6, "isBoundary", "(II)Z"⟩
abbrev cX6_isReading : ByteArray := prog_8_method_21_code
def yX6_isReading : MethodName := ⟨RX6, "isReading", "(II)Z"⟩
abbrev cX6_becomes : ByteArray := prog_8_method_22_code
def yX6_becomes : MethodName := ⟨RX6, "becomes", "(III)I"⟩
abbrev cX6_setReading : ByteArray := prog_8_method_23_code
def yX6_setReading : MethodName := ⟨RX6, "setReading", "(III)I"⟩
abbrev cX6_setAll : ByteArray := prog_8_method_24_code
def yX6_setAll : MethodName := ⟨RX6, "setAll", "(III)I"⟩
abbrev cX6_removeReading : ByteArray := prog_8_method_25_code
def yX6_removeReading : MethodName := ⟨RX6, "removeReading", "(II)I"⟩
abbrev cX6_reading : ByteArray := prog_8_method_26_code
def yX6_reading : MethodName := ⟨RX6, "reading", "(II)I"⟩
abbrev cX6_advance : ByteArray := prog_8_method_27_code
def yX6_advance : MethodName := ⟨RX6, "advance", "(III)I"⟩
abbrev cX6_rawOf : ByteArray := prog_8_method_28_code
def yX6_rawOf : MethodName := ⟨RX6, "rawOf", "(II)I"⟩
abbrev cX6_isModest : ByteArray := prog_8_method_29_code
def yX6_isModest : MethodName := ⟨RX6, "isModest", "(II)Z"⟩
abbrev cX6_statusOf : ByteArray := prog_8_method_30_code
def yX6_statusOf : MethodName := ⟨RX6, "statusOf", "(II)I"⟩
abbrev cX6_isInterval : ByteArray := prog_8_method_31_code
def yX6_isInterval : MethodName := ⟨RX6, "isInterval", "(II)Z"⟩
abbrev cX6_raw : ByteArray := prog_8_method_32_code
def yX6_raw : MethodName := ⟨RX6, "raw", "(II)I"⟩
abbrev cX6_status : ByteArray := prog_8_method_33_code
def yX6_status : MethodName := ⟨RX6, "status", "(II)I"⟩
abbrev cX6_isValid : ByteArray := prog_8_method_34_code
def yX6_isValid : MethodName := ⟨RX6, "isValid", "(II)Z"⟩
abbrev cX6_validOf : ByteArray := prog_8_method_35_code
def yX6_validOf : MethodName := ⟨RX6, "validOf", "(II)I"⟩
abbrev cX6_first : ByteArray := prog_8_method_36_code
def yX6_first : MethodName := ⟨RX6, "first", "(II)I"⟩
abbrev cX6_last : ByteArray := prog_8_method_37_code
def yX6_last : MethodName := ⟨RX6, "last", "(II)I"⟩
abbrev cX6_qualityOf : ByteArray := prog_8_method_38_code
def yX6_qualityOf : MethodName := ⟨RX6, "qualityOf", "(II)I"⟩
abbrev cX6_energyOf : ByteArray := prog_8_method_39_code
def yX6_energyOf : MethodName := ⟨RX6, "energyOf", "(II)I"⟩
abbrev cX6_energy : ByteArray := prog_8_method_40_code
def yX6_energy : MethodName := ⟨RX6, "energy", "(II)I"⟩
abbrev cX6_quality : ByteArray := prog_8_method_41_code
def yX6_quality : MethodName := ⟨RX6, "quality", "(II)I"⟩
abbrev cX6_lossOf : ByteArray := prog_8_method_42_code
def yX6_lossOf : MethodName := ⟨RX6, "lossOf", "(II)I"⟩
abbrev cX6_balanceOf : ByteArray := prog_8_method_43_code
def yX6_balanceOf : MethodName := ⟨RX6, "balanceOf", "(II)I"⟩
abbrev cX6_loss : ByteArray := prog_8_method_44_code
def yX6_loss : MethodName := ⟨RX6, "loss", "(II)I"⟩
abbrev cX6_balance : ByteArray := prog_8_method_45_code
def yX6_balance : MethodName := ⟨RX6, "balance", "(II)I"⟩
abbrev cX6_nextFault : ByteArray := prog_8_method_46_code
def yX6_nextFault : MethodName := ⟨RX6, "nextFault", "(II)I"⟩
abbrev cX6_allocates : ByteArray := prog_8_method_47_code
def yX6_allocates : MethodName := ⟨RX6, "allocates", "(I)V"⟩
abbrev cX6_bills : ByteArray := prog_8_method_48_code
def yX6_bills : MethodName := ⟨RX6, "bills", "(I)V"⟩
abbrev cX6_billed : ByteArray := prog_8_method_49_code
def yX6_billed : MethodName := ⟨RX6, "billed", "(II)I"⟩
abbrev cX6_part : ByteArray := prog_8_method_50_code
def yX6_part : MethodName := ⟨RX6, "part", "(II)I"⟩
abbrev cX6_billsAll : ByteArray := prog_8_method_51_code
def yX6_billsAll : MethodName := ⟨RX6, "billsAll", "()V"⟩
abbrev cX6_dayOf : ByteArray := prog_8_method_52_code
def yX6_dayOf : MethodName := ⟨RX6, "dayOf", "(II)I"⟩
abbrev cX6_day : ByteArray := prog_8_method_53_code
def yX6_day : MethodName := ⟨RX6, "day", "(II)I"⟩
abbrev cX6_shareOf : ByteArray := prog_8_method_54_code
def yX6_shareOf : MethodName := ⟨RX6, "shareOf", "(I)F"⟩
abbrev cX6_shareBits : ByteArray := prog_8_method_55_code
def yX6_shareBits : MethodName := ⟨RX6, "shareBits", "(I)I"⟩
abbrev cX6_share : ByteArray := prog_8_method_56_code
def yX6_share : MethodName := ⟨RX6, "share", "(I)I"⟩
abbrev cX6_times : ByteArray := prog_8_method_57_code
def yX6_times : MethodName := ⟨RX6, "times", "(II)I"⟩
abbrev cX6_imbalanceOf : ByteArray := prog_8_method_58_code
def yX6_imbalanceOf : MethodName := ⟨RX6, "imbalanceOf", "(III)I"⟩
abbrev cX6_imbalance : ByteArray := prog_8_method_59_code
def yX6_imbalance : MethodName := ⟨RX6, "imbalance", "(I)I"⟩
abbrev cX6_imbalanceWith : ByteArray := prog_8_method_60_code
def yX6_imbalanceWith : MethodName := ⟨RX6, "imbalanceWith", "(III)I"⟩
abbrev cX6_suspect : ByteArray := prog_8_method_61_code
def yX6_suspect : MethodName := ⟨RX6, "suspect", "(I)I"⟩
abbrev cX6_revise : ByteArray := prog_8_method_62_code
def yX6_revise : MethodName := ⟨RX6, "revise", "()I"⟩
abbrev cX6_revisions : ByteArray := prog_8_method_63_code
def yX6_revisions : MethodName := ⟨RX6, "revisions", "()I"⟩
abbrev cX6_isRevision : ByteArray := prog_8_method_64_code
def yX6_isRevision : MethodName := ⟨RX6, "isRevision", "(I)Z"⟩
abbrev cX6_kept : ByteArray := prog_8_method_65_code
def yX6_kept : MethodName := ⟨RX6, "kept", "(II)I"⟩
abbrev cX6_billOf : ByteArray := prog_8_method_66_code
def yX6_billOf : MethodName := ⟨RX6, "billOf", "(II)I"⟩
abbrev cX6_changed : ByteArray := prog_8_method_67_code
def yX6_changed : MethodName := ⟨RX6, "changed", "(III)I"⟩
abbrev cX6_clearRevisions : ByteArray := prog_8_method_68_code
def yX6_clearRevisions : MethodName := ⟨RX6, "clearRevisions", "()I"⟩
abbrev cX6_undo : ByteArray := prog_8_method_69_code
def yX6_undo : MethodName := ⟨RX6, "undo", "()I"⟩
abbrev cX6_type : ByteArray := prog_8_method_70_code
def yX6_type : MethodName := ⟨RX6, "type", "(I)I"⟩
abbrev cX6_clearText : ByteArray := prog_8_method_71_code
def yX6_clearText : MethodName := ⟨RX6, "clearText", "()I"⟩
abbrev cX6_here : ByteArray := prog_8_method_72_code
def yX6_here : MethodName := ⟨RX6, "here", "()I"⟩
abbrev cX6_sign : ByteArray := prog_8_method_73_code
def yX6_sign : MethodName := ⟨RX6, "sign", "(I)Z"⟩
abbrev cX6_readsNumber : ByteArray := prog_8_method_74_code
def yX6_readsNumber : MethodName := ⟨RX6, "readsNumber", "(I)Z"⟩
abbrev cX6_readsOne : ByteArray := prog_8_method_75_code
def yX6_readsOne : MethodName := ⟨RX6, "readsOne", "(Z)Z"⟩
abbrev cX6_readsAll : ByteArray := prog_8_method_76_code
def yX6_readsAll : MethodName := ⟨RX6, "readsAll", "(Z)Z"⟩
abbrev cX6_textFault : ByteArray := prog_8_method_77_code
def yX6_textFault : MethodName := ⟨RX6, "textFault", "()I"⟩
abbrev cX6_load : ByteArray := prog_8_method_78_code
def yX6_load : MethodName := ⟨RX6, "load", "()I"⟩
abbrev cX6_note : ByteArray := prog_8_method_79_code
def yX6_note : MethodName := ⟨RX6, "note", "(I)V"⟩
abbrev cX6_digest : ByteArray := prog_8_method_80_code
def yX6_digest : MethodName := ⟨RX6, "digest", "()J"⟩
def RJxf58ca : String := "java/lang/Float"
abbrev cJxf58ca_isNaN_12338 : ByteArray := prog_9_method_6_code
def yJxf58ca_isNaN_12338 : MethodName := ⟨RJxf58ca, "isNaN", "(F)Z"⟩
abbrev cJxf58ca_floatToIntBits_5c35a : ByteArray := prog_9_method_24_code
def yJxf58ca_floatToIntBits_5c35a : MethodName := ⟨RJxf58ca, "floatToIntBits", "(F)I"⟩
def RJ9 : String := "java/lang/Math"
abbrev cJ9_abs_0f7a4 : ByteArray := prog_10_method_59_code
def yJ9_abs_0f7a4 : MethodName := ⟨RJ9, "abs", "(I)I"⟩
abbrev cJ9_abs_067f4 : ByteArray := prog_10_method_61_code
def yJ9_abs_067f4 : MethodName := ⟨RJ9, "abs", "(J)J"⟩
abbrev cJ9_max_7cf53 : ByteArray := prog_10_method_65_code
def yJ9_max_7cf53 : MethodName := ⟨RJ9, "max", "(II)I"⟩
def RJ10 : String := "java/lang/System"
def RL : String := "MeterTreeLaw"
abbrev cL_law : ByteArray := code
def yL_law : MethodName := ⟨RL, "law", "([I)Z"⟩
abbrev vwCl : List vw_C := [(RX0, TX0, 4), (RX1, TX1, 3), (RX2, TX2, 2), (RX3, TX3, 8), (RX4, TX4, 11), (RX5, TX5, 5), (RX6, TX6, 13)]
end
section
/-- the tables' words that a call may hand on -/
def z_ws : List Cond := lw_tbl.filter goodWord
theorem z_in {w : Cond} (i : Nat) (h : lw_tbl[i]? = some w) (hg : goodWord w = true) : w ∈ z_ws := List.mem_filter.mpr ⟨List.mem_of_getElem? h, hg⟩
theorem z_sub (ws : List Cond) (ps : List Nat) (hp : ws = ps.filterMap (fun i => lw_tbl[i]?)) (hg : ws.all goodWord = true) : ∀ w ∈ ws, w ∈ z_ws := by
  intro w hw
  have h1 := List.all_eq_true.mp hg w hw
  rw [hp] at hw
  obtain ⟨i, -, hi⟩ := List.mem_filterMap.mp hw
  exact z_in i hi h1
theorem z_ws_good {w : Cond} (h : w ∈ z_ws) : goodWord w = true := (List.mem_filter.mp h).2
theorem z_ws_tbl {w : Cond} (h : w ∈ z_ws) : w ∈ lw_tbl := (List.mem_filter.mp h).1
theorem z_inX0 : ∀ w ∈ u_ws RX0 TX0 4, w ∈ z_ws := z_sub _ [191, 193, 195, 197] (by decide +kernel) (by decide +kernel)
theorem z_inX1 : ∀ w ∈ u_ws RX1 TX1 3, w ∈ z_ws := z_sub _ [172, 174, 176] (by decide +kernel) (by decide +kernel)
theorem z_inX2 : ∀ w ∈ u_ws RX2 TX2 2, w ∈ z_ws := z_sub _ [154, 156] (by decide +kernel) (by decide +kernel)
theorem z_inX3 : ∀ w ∈ u_ws RX3 TX3 8, w ∈ z_ws := z_sub _ [217, 219, 221, 223, 225, 227, 229, 231] (by decide +kernel) (by decide +kernel)
theorem z_inX4 : ∀ w ∈ u_ws RX4 TX4 11, w ∈ z_ws := z_sub _ [119, 121, 123, 125, 127, 129, 131, 133, 135, 137, 139] (by decide +kernel) (by decide +kernel)
theorem z_inX5 : ∀ w ∈ u_ws RX5 TX5 5, w ∈ z_ws := z_sub _ [239, 241, 243, 245, 247] (by decide +kernel) (by decide +kernel)
theorem z_inX6 : ∀ w ∈ u_ws RX6 TX6 13, w ∈ z_ws := z_sub _ [667, 669, 671, 673, 675, 677, 679, 681, 683, 685, 687, 689, 691] (by decide +kernel) (by decide +kernel)
theorem kw_0 : Cond.selects RX2 yX2_dropOldest yX2_dropOldest ∈ z_ws := z_in 0 (by decide +kernel) rfl
theorem kw_1 : Cond.selects RX1 yX1_estimate yX1_estimate ∈ z_ws := z_in 1 (by decide +kernel) rfl
theorem kw_2 : Cond.selects RX1 yX1_isAllMissing yX1_isAllMissing ∈ z_ws := z_in 2 (by decide +kernel) rfl
theorem kw_3 : Cond.selects RX1 yX1_spread yX1_spread ∈ z_ws := z_in 3 (by decide +kernel) rfl
theorem kw_4 : Cond.selects RX1 yX1_interpolate yX1_interpolate ∈ z_ws := z_in 4 (by decide +kernel) rfl
theorem kw_5 : Cond.selects RX1 yX1_level yX1_level ∈ z_ws := z_in 5 (by decide +kernel) rfl
theorem kw_6 : Cond.selects RX5 yX5_sumOfLosses yX5_sumOfLosses ∈ z_ws := z_in 6 (by decide +kernel) rfl
theorem kw_7 : Cond.selects RX0 yX0_allocate yX0_allocate ∈ z_ws := z_in 7 (by decide +kernel) rfl
theorem kw_8 : Cond.selects RX0 yX0_claimByEnergy yX0_claimByEnergy ∈ z_ws := z_in 8 (by decide +kernel) rfl
theorem kw_9 : Cond.selects RX0 yX0_claimByWeight yX0_claimByWeight ∈ z_ws := z_in 9 (by decide +kernel) rfl
theorem kw_10 : Cond.selects RX0 yX0_divide yX0_divide ∈ z_ws := z_in 10 (by decide +kernel) rfl
theorem kw_11 : Cond.selects RX0 yX0_giveOne yX0_giveOne ∈ z_ws := z_in 11 (by decide +kernel) rfl
theorem kw_12 : Cond.selects RX5 yX5_countNotValid yX5_countNotValid ∈ z_ws := z_in 12 (by decide +kernel) rfl
theorem kw_13 : Cond.selects RX5 yX5_shareOf yX5_shareOf ∈ z_ws := z_in 13 (by decide +kernel) rfl
theorem kw_14 : Cond.selects RX3 yX3_parseEntry yX3_parseEntry ∈ z_ws := z_in 14 (by decide +kernel) rfl
theorem kw_15 : Cond.selects RX3 yX3_takeNumber yX3_takeNumber ∈ z_ws := z_in 15 (by decide +kernel) rfl
theorem kw_16 : Cond.selects RX3 yX3_skipBlanks yX3_skipBlanks ∈ z_ws := z_in 16 (by decide +kernel) rfl
theorem kw_17 : Cond.selects RX3 yX3_peek yX3_peek ∈ z_ws := z_in 17 (by decide +kernel) rfl
theorem kw_18 : Cond.selects RX3 yX3_takeSign yX3_takeSign ∈ z_ws := z_in 18 (by decide +kernel) rfl
theorem kw_19 : Cond.selects RX3 yX3_keep yX3_keep ∈ z_ws := z_in 19 (by decide +kernel) rfl
theorem kw_20 : Cond.selects RX6 yX6_isMeter yX6_isMeter ∈ z_ws := z_in 20 (by decide +kernel) rfl
theorem kw_21 : Cond.selects RX6 yX6_saves yX6_saves ∈ z_ws := z_in 21 (by decide +kernel) rfl
theorem kw_22 : Cond.selects RX6 yX6_copies yX6_copies ∈ z_ws := z_in 22 (by decide +kernel) rfl
theorem kw_23 : Cond.selects RX6 yX6_sets yX6_sets ∈ z_ws := z_in 23 (by decide +kernel) rfl
theorem kw_24 : Cond.selects RX6 yX6_noReadings yX6_noReadings ∈ z_ws := z_in 24 (by decide +kernel) rfl
theorem kw_25 : Cond.selects RX6 yX6_of yX6_of ∈ z_ws := z_in 25 (by decide +kernel) rfl
theorem kw_26 : Cond.selects RX6 yX6_children yX6_children ∈ z_ws := z_in 26 (by decide +kernel) rfl
theorem kw_27 : Cond.selects RX6 yX6_above yX6_above ∈ z_ws := z_in 27 (by decide +kernel) rfl
theorem kw_28 : Cond.selects RX6 yX6_childOf yX6_childOf ∈ z_ws := z_in 28 (by decide +kernel) rfl
theorem kw_29 : Cond.selects RX6 yX6_isBoundary yX6_isBoundary ∈ z_ws := z_in 29 (by decide +kernel) rfl
theorem kw_30 : Cond.selects RX6 yX6_isReading yX6_isReading ∈ z_ws := z_in 30 (by decide +kernel) rfl
theorem kw_31 : Cond.selects RX6 yX6_whole yX6_whole ∈ z_ws := z_in 31 (by decide +kernel) rfl
theorem kw_32 : Cond.selects RX6 yX6_becomes yX6_becomes ∈ z_ws := z_in 32 (by decide +kernel) rfl
theorem kw_33 : Cond.selects RX6 yX6_isInterval yX6_isInterval ∈ z_ws := z_in 33 (by decide +kernel) rfl
theorem kw_34 : Cond.selects RX6 yX6_rawOf yX6_rawOf ∈ z_ws := z_in 34 (by decide +kernel) rfl
theorem kw_35 : Cond.selects RX6 yX6_advance yX6_advance ∈ z_ws := z_in 35 (by decide +kernel) rfl
theorem kw_36 : Cond.selects RX6 yX6_statusOf yX6_statusOf ∈ z_ws := z_in 36 (by decide +kernel) rfl
theorem kw_37 : Cond.selects RX6 yX6_isModest yX6_isModest ∈ z_ws := z_in 37 (by decide +kernel) rfl
theorem kw_38 : Cond.selects RX6 yX6_energyOf yX6_energyOf ∈ z_ws := z_in 38 (by decide +kernel) rfl
theorem kw_39 : Cond.selects RX6 yX6_qualityOf yX6_qualityOf ∈ z_ws := z_in 39 (by decide +kernel) rfl
theorem kw_40 : Cond.selects RX6 yX6_isValid yX6_isValid ∈ z_ws := z_in 40 (by decide +kernel) rfl
theorem kw_41 : Cond.selects RX6 yX6_first yX6_first ∈ z_ws := z_in 41 (by decide +kernel) rfl
theorem kw_42 : Cond.selects RX6 yX6_last yX6_last ∈ z_ws := z_in 42 (by decide +kernel) rfl
theorem kw_43 : Cond.selects RX6 yX6_validOf yX6_validOf ∈ z_ws := z_in 43 (by decide +kernel) rfl
theorem kw_44 : Cond.selects RX6 yX6_lossOf yX6_lossOf ∈ z_ws := z_in 44 (by decide +kernel) rfl
theorem kw_45 : Cond.selects RX6 yX6_balanceOf yX6_balanceOf ∈ z_ws := z_in 45 (by decide +kernel) rfl
theorem kw_46 : Cond.selects RX6 yX6_bills yX6_bills ∈ z_ws := z_in 46 (by decide +kernel) rfl
theorem kw_47 : Cond.selects RX6 yX6_allocates yX6_allocates ∈ z_ws := z_in 47 (by decide +kernel) rfl
theorem kw_48 : Cond.selects RX6 yX6_billsAll yX6_billsAll ∈ z_ws := z_in 48 (by decide +kernel) rfl
theorem kw_49 : Cond.selects RX6 yX6_dayOf yX6_dayOf ∈ z_ws := z_in 49 (by decide +kernel) rfl
theorem kw_50 : Cond.selects RX6 yX6_shareOf yX6_shareOf ∈ z_ws := z_in 50 (by decide +kernel) rfl
theorem kw_51 : Cond.selects RX6 yX6_imbalanceOf yX6_imbalanceOf ∈ z_ws := z_in 51 (by decide +kernel) rfl
theorem kw_52 : Cond.selects RX6 yX6_isRevision yX6_isRevision ∈ z_ws := z_in 52 (by decide +kernel) rfl
theorem kw_53 : Cond.selects RX6 yX6_kept yX6_kept ∈ z_ws := z_in 53 (by decide +kernel) rfl
theorem kw_54 : Cond.selects RX6 yX6_readsAll yX6_readsAll ∈ z_ws := z_in 54 (by decide +kernel) rfl
theorem kw_55 : Cond.selects RX6 yX6_readsOne yX6_readsOne ∈ z_ws := z_in 55 (by decide +kernel) rfl
theorem kw_56 : Cond.selects RX6 yX6_readsNumber yX6_readsNumber ∈ z_ws := z_in 56 (by decide +kernel) rfl
theorem kw_57 : Cond.selects RX6 yX6_here yX6_here ∈ z_ws := z_in 57 (by decide +kernel) rfl
theorem kw_58 : Cond.selects RX6 yX6_sign yX6_sign ∈ z_ws := z_in 58 (by decide +kernel) rfl
theorem kw_59 : Cond.selects RX6 yX6_note yX6_note ∈ z_ws := z_in 59 (by decide +kernel) rfl
theorem kw_60 : Cond.initialized RL ∈ z_ws := z_in 60 (by decide +kernel) rfl
theorem kw_61 : Cond.initialized RX5 ∈ z_ws := z_in 61 (by decide +kernel) rfl
theorem kw_62 : Cond.initialized RX4 ∈ z_ws := z_in 62 (by decide +kernel) rfl
theorem kw_63 : Cond.initialized RX2 ∈ z_ws := z_in 63 (by decide +kernel) rfl
theorem kw_64 : Cond.initialized RX1 ∈ z_ws := z_in 64 (by decide +kernel) rfl
theorem kw_65 : Cond.initialized RX0 ∈ z_ws := z_in 65 (by decide +kernel) rfl
theorem kw_66 : Cond.initialized RX3 ∈ z_ws := z_in 66 (by decide +kernel) rfl
theorem kw_67 : Cond.initialized RX6 ∈ z_ws := z_in 67 (by decide +kernel) rfl
theorem kw_68 : Cond.initialized RJ10 ∈ z_ws := z_in 68 (by decide +kernel) rfl
theorem kw_69 : Cond.initialized RJ9 ∈ z_ws := z_in 69 (by decide +kernel) rfl
theorem kw_70 : Cond.initialized RJxf58ca ∈ z_ws := z_in 70 (by decide +kernel) rfl
theorem kw_71 : Cond.classLink RL 7 RX5 ∈ z_ws := z_in 71 (by decide +kernel) rfl
theorem kw_72 : Cond.instantiable RX5 5 ∈ z_ws := z_in 72 (by decide +kernel) rfl
theorem kw_73 : Cond.methodLink RL 9 yX5_init ∈ z_ws := z_in 73 (by decide +kernel) rfl
theorem kw_74 : Cond.instanceMethod yX5_init ∈ z_ws := z_in 74 (by decide +kernel) rfl
theorem kw_75 : Cond.code yX5_init cX5_init 1 none ∈ z_ws := z_in 75 (by decide +kernel) rfl
theorem kw_76 : Cond.methodLink RX5 1 ⟨"java/lang/Object", "<init>", "()V"⟩ ∈ z_ws := z_in 76 (by decide +kernel) rfl
theorem kw_77 : Cond.instanceMethod ⟨"java/lang/Object", "<init>", "()V"⟩ ∈ z_ws := z_in 77 (by decide +kernel) rfl
theorem kw_79 : Cond.classLink RX5 7 RX4 ∈ z_ws := z_in 79 (by decide +kernel) rfl
theorem kw_80 : Cond.instantiable RX4 11 ∈ z_ws := z_in 80 (by decide +kernel) rfl
theorem kw_81 : Cond.methodLink RX5 9 yX4_init ∈ z_ws := z_in 81 (by decide +kernel) rfl
theorem kw_82 : Cond.instanceMethod yX4_init ∈ z_ws := z_in 82 (by decide +kernel) rfl
theorem kw_83 : Cond.code yX4_init cX4_init 1 none ∈ z_ws := z_in 83 (by decide +kernel) rfl
theorem kw_84 : Cond.methodLink RX4 3 ⟨"java/lang/Object", "<init>", "()V"⟩ ∈ z_ws := z_in 84 (by decide +kernel) rfl
theorem kw_85 : Cond.classLink RX4 34 "[[I" ∈ z_ws := z_in 85 (by decide +kernel) rfl
theorem kw_87 : Cond.fieldLink RX4 42 "MeterTree$State" "count" "I" ∈ z_ws := z_in 87 (by decide +kernel) rfl
theorem kw_88 : Cond.fieldLink RX5 44 "MeterTree$State" "count" "I" ∈ z_ws := z_in 88 (by decide +kernel) rfl
theorem kw_89 : Cond.fieldLink RX0 26 "MeterTree$State" "count" "I" ∈ z_ws := z_in 89 (by decide +kernel) rfl
theorem kw_90 : Cond.fieldLink RX1 27 "MeterTree$State" "count" "I" ∈ z_ws := z_in 90 (by decide +kernel) rfl
theorem kw_91 : Cond.fieldLink RX3 49 "MeterTree$State" "count" "I" ∈ z_ws := z_in 91 (by decide +kernel) rfl
theorem kw_92 : Cond.fieldLink RX4 9 "MeterTree$State" "spike" "I" ∈ z_ws := z_in 92 (by decide +kernel) rfl
theorem kw_93 : Cond.fieldLink RX5 85 "MeterTree$State" "spike" "I" ∈ z_ws := z_in 93 (by decide +kernel) rfl
theorem kw_94 : Cond.fieldLink RX4 15 "MeterTree$State" "tolerance" "I" ∈ z_ws := z_in 94 (by decide +kernel) rfl
theorem kw_95 : Cond.fieldLink RX5 88 "MeterTree$State" "tolerance" "I" ∈ z_ws := z_in 95 (by decide +kernel) rfl
theorem kw_96 : Cond.fieldLink RX1 77 "MeterTree$State" "tolerance" "I" ∈ z_ws := z_in 96 (by decide +kernel) rfl
theorem kw_97 : Cond.fieldLink RX4 45 "MeterTree$State" "revised" "I" ∈ z_ws := z_in 97 (by decide +kernel) rfl
theorem kw_98 : Cond.fieldLink RX5 183 "MeterTree$State" "revised" "I" ∈ z_ws := z_in 98 (by decide +kernel) rfl
theorem kw_99 : Cond.fieldLink RX4 18 "MeterTree$State" "parent" "[I" ∈ z_ws := z_in 99 (by decide +kernel) rfl
theorem kw_100 : Cond.fieldLink RX1 33 "MeterTree$State" "parent" "[I" ∈ z_ws := z_in 100 (by decide +kernel) rfl
theorem kw_101 : Cond.fieldLink RX0 63 "MeterTree$State" "parent" "[I" ∈ z_ws := z_in 101 (by decide +kernel) rfl
theorem kw_102 : Cond.fieldLink RX5 91 "MeterTree$State" "parent" "[I" ∈ z_ws := z_in 102 (by decide +kernel) rfl
theorem kw_103 : Cond.fieldLink RX4 22 "MeterTree$State" "multiplier" "[I" ∈ z_ws := z_in 103 (by decide +kernel) rfl
theorem kw_104 : Cond.fieldLink RX1 44 "MeterTree$State" "multiplier" "[I" ∈ z_ws := z_in 104 (by decide +kernel) rfl
theorem kw_105 : Cond.fieldLink RX5 67 "MeterTree$State" "multiplier" "[I" ∈ z_ws := z_in 105 (by decide +kernel) rfl
theorem kw_106 : Cond.fieldLink RX4 25 "MeterTree$State" "digits" "[I" ∈ z_ws := z_in 106 (by decide +kernel) rfl
theorem kw_107 : Cond.fieldLink RX5 75 "MeterTree$State" "digits" "[I" ∈ z_ws := z_in 107 (by decide +kernel) rfl
theorem kw_108 : Cond.fieldLink RX4 28 "MeterTree$State" "limit" "[I" ∈ z_ws := z_in 108 (by decide +kernel) rfl
theorem kw_109 : Cond.fieldLink RX1 56 "MeterTree$State" "limit" "[I" ∈ z_ws := z_in 109 (by decide +kernel) rfl
theorem kw_110 : Cond.fieldLink RX5 82 "MeterTree$State" "limit" "[I" ∈ z_ws := z_in 110 (by decide +kernel) rfl
theorem kw_111 : Cond.fieldLink RX4 31 "MeterTree$State" "weight" "[I" ∈ z_ws := z_in 111 (by decide +kernel) rfl
theorem kw_112 : Cond.fieldLink RX5 71 "MeterTree$State" "weight" "[I" ∈ z_ws := z_in 112 (by decide +kernel) rfl
theorem kw_113 : Cond.fieldLink RX0 77 "MeterTree$State" "weight" "[I" ∈ z_ws := z_in 113 (by decide +kernel) rfl
theorem kw_114 : Cond.fieldLink RX4 36 "MeterTree$State" "readings" "[[I" ∈ z_ws := z_in 114 (by decide +kernel) rfl
theorem kw_115 : Cond.fieldLink RX5 111 "MeterTree$State" "readings" "[[I" ∈ z_ws := z_in 115 (by decide +kernel) rfl
theorem kw_116 : Cond.fieldLink RX3 78 "MeterTree$State" "readings" "[[I" ∈ z_ws := z_in 116 (by decide +kernel) rfl
theorem kw_117 : Cond.fieldLink RX4 39 "MeterTree$State" "kept" "[[I" ∈ z_ws := z_in 117 (by decide +kernel) rfl
theorem kw_118 : Cond.fieldLink RX5 186 "MeterTree$State" "kept" "[[I" ∈ z_ws := z_in 118 (by decide +kernel) rfl
theorem kw_142 : Cond.arrayClass .int ∈ z_ws := z_in 142 (by decide +kernel) rfl
theorem kw_143 : Cond.classLink RX5 16 RX2 ∈ z_ws := z_in 143 (by decide +kernel) rfl
theorem kw_144 : Cond.instantiable RX2 2 ∈ z_ws := z_in 144 (by decide +kernel) rfl
theorem kw_145 : Cond.methodLink RX5 18 yX2_init ∈ z_ws := z_in 145 (by decide +kernel) rfl
theorem kw_146 : Cond.instanceMethod yX2_init ∈ z_ws := z_in 146 (by decide +kernel) rfl
theorem kw_147 : Cond.code yX2_init cX2_init 1 none ∈ z_ws := z_in 147 (by decide +kernel) rfl
theorem kw_148 : Cond.methodLink RX2 3 ⟨"java/lang/Object", "<init>", "()V"⟩ ∈ z_ws := z_in 148 (by decide +kernel) rfl
theorem kw_149 : Cond.classLink RX2 9 RX4 ∈ z_ws := z_in 149 (by decide +kernel) rfl
theorem kw_151 : Cond.fieldLink RX2 11 "MeterTree$History" "states" "[LMeterTree$State;" ∈ z_ws := z_in 151 (by decide +kernel) rfl
theorem kw_152 : Cond.fieldLink RX2 17 "MeterTree$History" "size" "I" ∈ z_ws := z_in 152 (by decide +kernel) rfl
theorem kw_153 : Cond.fieldLink RX5 195 "MeterTree$History" "size" "I" ∈ z_ws := z_in 153 (by decide +kernel) rfl
theorem kw_159 : Cond.classLink RX5 23 RX1 ∈ z_ws := z_in 159 (by decide +kernel) rfl
theorem kw_160 : Cond.instantiable RX1 3 ∈ z_ws := z_in 160 (by decide +kernel) rfl
theorem kw_161 : Cond.methodLink RX5 25 yX1_init ∈ z_ws := z_in 161 (by decide +kernel) rfl
theorem kw_162 : Cond.instanceMethod yX1_init ∈ z_ws := z_in 162 (by decide +kernel) rfl
theorem kw_163 : Cond.code yX1_init cX1_init 1 none ∈ z_ws := z_in 163 (by decide +kernel) rfl
theorem kw_164 : Cond.methodLink RX1 3 ⟨"java/lang/Object", "<init>", "()V"⟩ ∈ z_ws := z_in 164 (by decide +kernel) rfl
theorem kw_165 : Cond.classLink RX1 9 "[[I" ∈ z_ws := z_in 165 (by decide +kernel) rfl
theorem kw_166 : Cond.fieldLink RX1 11 "MeterTree$Energies" "energy" "[[I" ∈ z_ws := z_in 166 (by decide +kernel) rfl
theorem kw_167 : Cond.fieldLink RX0 38 "MeterTree$Energies" "energy" "[[I" ∈ z_ws := z_in 167 (by decide +kernel) rfl
theorem kw_168 : Cond.fieldLink RX5 129 "MeterTree$Energies" "energy" "[[I" ∈ z_ws := z_in 168 (by decide +kernel) rfl
theorem kw_169 : Cond.fieldLink RX1 16 "MeterTree$Energies" "quality" "[[I" ∈ z_ws := z_in 169 (by decide +kernel) rfl
theorem kw_170 : Cond.fieldLink RX5 132 "MeterTree$Energies" "quality" "[[I" ∈ z_ws := z_in 170 (by decide +kernel) rfl
theorem kw_171 : Cond.fieldLink RX1 19 "MeterTree$Energies" "status" "[I" ∈ z_ws := z_in 171 (by decide +kernel) rfl
theorem kw_179 : Cond.classLink RX5 30 RX0 ∈ z_ws := z_in 179 (by decide +kernel) rfl
theorem kw_180 : Cond.instantiable RX0 4 ∈ z_ws := z_in 180 (by decide +kernel) rfl
theorem kw_181 : Cond.methodLink RX5 32 yX0_init ∈ z_ws := z_in 181 (by decide +kernel) rfl
theorem kw_182 : Cond.instanceMethod yX0_init ∈ z_ws := z_in 182 (by decide +kernel) rfl
theorem kw_183 : Cond.code yX0_init cX0_init 1 none ∈ z_ws := z_in 183 (by decide +kernel) rfl
theorem kw_184 : Cond.methodLink RX0 3 ⟨"java/lang/Object", "<init>", "()V"⟩ ∈ z_ws := z_in 184 (by decide +kernel) rfl
theorem kw_185 : Cond.classLink RX0 9 "[[I" ∈ z_ws := z_in 185 (by decide +kernel) rfl
theorem kw_186 : Cond.fieldLink RX0 11 "MeterTree$Bills" "billed" "[[I" ∈ z_ws := z_in 186 (by decide +kernel) rfl
theorem kw_187 : Cond.fieldLink RX5 146 "MeterTree$Bills" "billed" "[[I" ∈ z_ws := z_in 187 (by decide +kernel) rfl
theorem kw_188 : Cond.fieldLink RX0 16 "MeterTree$Bills" "claim" "[J" ∈ z_ws := z_in 188 (by decide +kernel) rfl
theorem kw_189 : Cond.fieldLink RX0 20 "MeterTree$Bills" "part" "[J" ∈ z_ws := z_in 189 (by decide +kernel) rfl
theorem kw_190 : Cond.fieldLink RX0 23 "MeterTree$Bills" "remainder" "[J" ∈ z_ws := z_in 190 (by decide +kernel) rfl
theorem kw_200 : Cond.arrayClass .long ∈ z_ws := z_in 200 (by decide +kernel) rfl
theorem kw_201 : Cond.classLink RX5 37 RX3 ∈ z_ws := z_in 201 (by decide +kernel) rfl
theorem kw_202 : Cond.instantiable RX3 8 ∈ z_ws := z_in 202 (by decide +kernel) rfl
theorem kw_203 : Cond.methodLink RX5 39 yX3_init ∈ z_ws := z_in 203 (by decide +kernel) rfl
theorem kw_204 : Cond.instanceMethod yX3_init ∈ z_ws := z_in 204 (by decide +kernel) rfl
theorem kw_205 : Cond.code yX3_init cX3_init 1 none ∈ z_ws := z_in 205 (by decide +kernel) rfl
theorem kw_206 : Cond.methodLink RX3 3 ⟨"java/lang/Object", "<init>", "()V"⟩ ∈ z_ws := z_in 206 (by decide +kernel) rfl
theorem kw_207 : Cond.fieldLink RX3 9 "MeterTree$ReadingText" "bytes" "[I" ∈ z_ws := z_in 207 (by decide +kernel) rfl
theorem kw_208 : Cond.fieldLink RX5 204 "MeterTree$ReadingText" "bytes" "[I" ∈ z_ws := z_in 208 (by decide +kernel) rfl
theorem kw_209 : Cond.fieldLink RX3 41 "MeterTree$ReadingText" "length" "I" ∈ z_ws := z_in 209 (by decide +kernel) rfl
theorem kw_210 : Cond.fieldLink RX5 201 "MeterTree$ReadingText" "length" "I" ∈ z_ws := z_in 210 (by decide +kernel) rfl
theorem kw_211 : Cond.fieldLink RX3 15 "MeterTree$ReadingText" "entryMeter" "[I" ∈ z_ws := z_in 211 (by decide +kernel) rfl
theorem kw_212 : Cond.fieldLink RX3 18 "MeterTree$ReadingText" "entryBoundary" "[I" ∈ z_ws := z_in 212 (by decide +kernel) rfl
theorem kw_213 : Cond.fieldLink RX3 21 "MeterTree$ReadingText" "entryValue" "[I" ∈ z_ws := z_in 213 (by decide +kernel) rfl
theorem kw_214 : Cond.fieldLink RX3 28 "MeterTree$ReadingText" "entries" "I" ∈ z_ws := z_in 214 (by decide +kernel) rfl
theorem kw_215 : Cond.fieldLink RX3 24 "MeterTree$ReadingText" "position" "I" ∈ z_ws := z_in 215 (by decide +kernel) rfl
theorem kw_216 : Cond.fieldLink RX3 35 "MeterTree$ReadingText" "fault" "I" ∈ z_ws := z_in 216 (by decide +kernel) rfl
theorem kw_234 : Cond.fieldLink RX5 10 "MeterTree" "now" "LMeterTree$State;" ∈ z_ws := z_in 234 (by decide +kernel) rfl
theorem kw_235 : Cond.fieldLink RX5 19 "MeterTree" "history" "LMeterTree$History;" ∈ z_ws := z_in 235 (by decide +kernel) rfl
theorem kw_236 : Cond.fieldLink RX5 26 "MeterTree" "energies" "LMeterTree$Energies;" ∈ z_ws := z_in 236 (by decide +kernel) rfl
theorem kw_237 : Cond.fieldLink RX5 33 "MeterTree" "bills" "LMeterTree$Bills;" ∈ z_ws := z_in 237 (by decide +kernel) rfl
theorem kw_238 : Cond.fieldLink RX5 40 "MeterTree" "text" "LMeterTree$ReadingText;" ∈ z_ws := z_in 238 (by decide +kernel) rfl
theorem kw_250 : Cond.methodLink RL 13 yX5_addMeter ∈ z_ws := z_in 250 (by decide +kernel) rfl
theorem kw_251 : Cond.instanceMethod yX5_addMeter ∈ z_ws := z_in 251 (by decide +kernel) rfl
theorem kw_252 : Cond.selects RX5 yX5_addMeter yX5_addMeter ∈ z_ws := z_in 252 (by decide +kernel) rfl
theorem kw_253 : Cond.code yX5_addMeter cX5_addMeter 2 (some .int) ∈ z_ws := z_in 253 (by decide +kernel) rfl
theorem kw_254 : Cond.methodLink RX5 48 yX4_has ∈ z_ws := z_in 254 (by decide +kernel) rfl
theorem kw_255 : Cond.instanceMethod yX4_has ∈ z_ws := z_in 255 (by decide +kernel) rfl
theorem kw_256 : Cond.selects RX4 yX4_has yX4_has ∈ z_ws := z_in 256 (by decide +kernel) rfl
theorem kw_257 : Cond.code yX4_has cX4_has 2 (some .boolean) ∈ z_ws := z_in 257 (by decide +kernel) rfl
theorem kw_258 : Cond.constant RX5 52 (-2000000001) ∈ z_ws := z_in 258 (by decide +kernel) rfl
theorem kw_259 : Cond.constant RX5 53 (-2000000004) ∈ z_ws := z_in 259 (by decide +kernel) rfl
theorem kw_260 : Cond.methodLink RX5 54 yX2_push ∈ z_ws := z_in 260 (by decide +kernel) rfl
theorem kw_261 : Cond.instanceMethod yX2_push ∈ z_ws := z_in 261 (by decide +kernel) rfl
theorem kw_262 : Cond.selects RX2 yX2_push yX2_push ∈ z_ws := z_in 262 (by decide +kernel) rfl
theorem kw_263 : Cond.code yX2_push cX2_push 3 none ∈ z_ws := z_in 263 (by decide +kernel) rfl
theorem kw_264 : Cond.methodLink RX2 21 yX2_dropOldest ∈ z_ws := z_in 264 (by decide +kernel) rfl
theorem kw_266 : Cond.instanceMethod yX2_dropOldest ∈ z_ws := z_in 266 (by decide +kernel) rfl
theorem kw_267 : Cond.code yX2_dropOldest cX2_dropOldest 3 none ∈ z_ws := z_in 267 (by decide +kernel) rfl
theorem kw_268 : Cond.methodLink RX2 24 yX4_init ∈ z_ws := z_in 268 (by decide +kernel) rfl
theorem kw_269 : Cond.methodLink RX2 25 yX4_copyFrom ∈ z_ws := z_in 269 (by decide +kernel) rfl
theorem kw_270 : Cond.instanceMethod yX4_copyFrom ∈ z_ws := z_in 270 (by decide +kernel) rfl
theorem kw_271 : Cond.selects RX4 yX4_copyFrom yX4_copyFrom ∈ z_ws := z_in 271 (by decide +kernel) rfl
theorem kw_272 : Cond.code yX4_copyFrom cX4_copyFrom 3 none ∈ z_ws := z_in 272 (by decide +kernel) rfl
theorem kw_273 : Cond.methodLink RX4 48 ⟨"java/lang/System", "arraycopy", "(Ljava/lang/Object;ILjava/lang/Object;II)V"⟩ ∈ z_ws := z_in 273 (by decide +kernel) rfl
theorem kw_274 : Cond.static ⟨"java/lang/System", "arraycopy", "(Ljava/lang/Object;ILjava/lang/Object;II)V"⟩ ∈ z_ws := z_in 274 (by decide +kernel) rfl
theorem kw_275 : Cond.native ⟨"java/lang/System", "arraycopy", "(Ljava/lang/Object;ILjava/lang/Object;II)V"⟩ ∈ z_ws := z_in 275 (by decide +kernel) rfl
theorem kw_276 : Cond.methodLink RX5 58 yX4_append ∈ z_ws := z_in 276 (by decide +kernel) rfl
theorem kw_277 : Cond.instanceMethod yX4_append ∈ z_ws := z_in 277 (by decide +kernel) rfl
theorem kw_278 : Cond.selects RX4 yX4_append yX4_append ∈ z_ws := z_in 278 (by decide +kernel) rfl
theorem kw_279 : Cond.code yX4_append cX4_append 3 (some .int) ∈ z_ws := z_in 279 (by decide +kernel) rfl
theorem kw_280 : Cond.constant RX4 54 (-2000000004) ∈ z_ws := z_in 280 (by decide +kernel) rfl
theorem kw_281 : Cond.constant RX4 55 (-2000000000) ∈ z_ws := z_in 281 (by decide +kernel) rfl
theorem kw_282 : Cond.methodLink RX4 56 yX4_forgetReadings ∈ z_ws := z_in 282 (by decide +kernel) rfl
theorem kw_283 : Cond.instanceMethod yX4_forgetReadings ∈ z_ws := z_in 283 (by decide +kernel) rfl
theorem kw_284 : Cond.selects RX4 yX4_forgetReadings yX4_forgetReadings ∈ z_ws := z_in 284 (by decide +kernel) rfl
theorem kw_285 : Cond.code yX4_forgetReadings cX4_forgetReadings 3 none ∈ z_ws := z_in 285 (by decide +kernel) rfl
theorem kw_286 : Cond.methodLink RL 18 yX5_setMeter ∈ z_ws := z_in 286 (by decide +kernel) rfl
theorem kw_287 : Cond.instanceMethod yX5_setMeter ∈ z_ws := z_in 287 (by decide +kernel) rfl
theorem kw_288 : Cond.selects RX5 yX5_setMeter yX5_setMeter ∈ z_ws := z_in 288 (by decide +kernel) rfl
theorem kw_289 : Cond.code yX5_setMeter cX5_setMeter 5 (some .int) ∈ z_ws := z_in 289 (by decide +kernel) rfl
theorem kw_290 : Cond.methodLink RX5 62 yX5_within ∈ z_ws := z_in 290 (by decide +kernel) rfl
theorem kw_291 : Cond.static yX5_within ∈ z_ws := z_in 291 (by decide +kernel) rfl
theorem kw_292 : Cond.code yX5_within cX5_within 3 (some .boolean) ∈ z_ws := z_in 292 (by decide +kernel) rfl
theorem kw_293 : Cond.constant RX5 66 (-2000000002) ∈ z_ws := z_in 293 (by decide +kernel) rfl
theorem kw_294 : Cond.methodLink RL 23 yX5_setRegister ∈ z_ws := z_in 294 (by decide +kernel) rfl
theorem kw_295 : Cond.instanceMethod yX5_setRegister ∈ z_ws := z_in 295 (by decide +kernel) rfl
theorem kw_296 : Cond.selects RX5 yX5_setRegister yX5_setRegister ∈ z_ws := z_in 296 (by decide +kernel) rfl
theorem kw_297 : Cond.code yX5_setRegister cX5_setRegister 5 (some .int) ∈ z_ws := z_in 297 (by decide +kernel) rfl
theorem kw_298 : Cond.constant RX5 74 (50000) ∈ z_ws := z_in 298 (by decide +kernel) rfl
theorem kw_299 : Cond.methodLink RX5 78 yX4_forgetReadings ∈ z_ws := z_in 299 (by decide +kernel) rfl
theorem kw_300 : Cond.methodLink RL 27 yX5_setRules ∈ z_ws := z_in 300 (by decide +kernel) rfl
theorem kw_301 : Cond.instanceMethod yX5_setRules ∈ z_ws := z_in 301 (by decide +kernel) rfl
theorem kw_302 : Cond.selects RX5 yX5_setRules yX5_setRules ∈ z_ws := z_in 302 (by decide +kernel) rfl
theorem kw_303 : Cond.code yX5_setRules cX5_setRules 4 (some .int) ∈ z_ws := z_in 303 (by decide +kernel) rfl
theorem kw_304 : Cond.methodLink RL 32 yX5_meters ∈ z_ws := z_in 304 (by decide +kernel) rfl
theorem kw_305 : Cond.instanceMethod yX5_meters ∈ z_ws := z_in 305 (by decide +kernel) rfl
theorem kw_306 : Cond.selects RX5 yX5_meters yX5_meters ∈ z_ws := z_in 306 (by decide +kernel) rfl
theorem kw_307 : Cond.code yX5_meters cX5_meters 1 (some .int) ∈ z_ws := z_in 307 (by decide +kernel) rfl
theorem kw_308 : Cond.methodLink RL 37 yX5_meter ∈ z_ws := z_in 308 (by decide +kernel) rfl
theorem kw_309 : Cond.instanceMethod yX5_meter ∈ z_ws := z_in 309 (by decide +kernel) rfl
theorem kw_310 : Cond.selects RX5 yX5_meter yX5_meter ∈ z_ws := z_in 310 (by decide +kernel) rfl
theorem kw_311 : Cond.code yX5_meter cX5_meter 3 (some .int) ∈ z_ws := z_in 311 (by decide +kernel) rfl
theorem kw_312 : Cond.methodLink RX5 94 yX4_countChildren ∈ z_ws := z_in 312 (by decide +kernel) rfl
theorem kw_313 : Cond.instanceMethod yX4_countChildren ∈ z_ws := z_in 313 (by decide +kernel) rfl
theorem kw_314 : Cond.selects RX4 yX4_countChildren yX4_countChildren ∈ z_ws := z_in 314 (by decide +kernel) rfl
theorem kw_315 : Cond.code yX4_countChildren cX4_countChildren 4 (some .int) ∈ z_ws := z_in 315 (by decide +kernel) rfl
theorem kw_316 : Cond.methodLink RX5 97 yX4_countAbove ∈ z_ws := z_in 316 (by decide +kernel) rfl
theorem kw_317 : Cond.instanceMethod yX4_countAbove ∈ z_ws := z_in 317 (by decide +kernel) rfl
theorem kw_318 : Cond.selects RX4 yX4_countAbove yX4_countAbove ∈ z_ws := z_in 318 (by decide +kernel) rfl
theorem kw_319 : Cond.code yX4_countAbove cX4_countAbove 4 (some .int) ∈ z_ws := z_in 319 (by decide +kernel) rfl
theorem kw_320 : Cond.methodLink RX4 60 yX4_has ∈ z_ws := z_in 320 (by decide +kernel) rfl
theorem kw_321 : Cond.methodLink RL 41 yX5_child ∈ z_ws := z_in 321 (by decide +kernel) rfl
theorem kw_322 : Cond.instanceMethod yX5_child ∈ z_ws := z_in 322 (by decide +kernel) rfl
theorem kw_323 : Cond.selects RX5 yX5_child yX5_child ∈ z_ws := z_in 323 (by decide +kernel) rfl
theorem kw_324 : Cond.code yX5_child cX5_child 4 (some .int) ∈ z_ws := z_in 324 (by decide +kernel) rfl
theorem kw_325 : Cond.methodLink RX5 100 yX4_findChild ∈ z_ws := z_in 325 (by decide +kernel) rfl
theorem kw_326 : Cond.instanceMethod yX4_findChild ∈ z_ws := z_in 326 (by decide +kernel) rfl
theorem kw_327 : Cond.selects RX4 yX4_findChild yX4_findChild ∈ z_ws := z_in 327 (by decide +kernel) rfl
theorem kw_328 : Cond.code yX4_findChild cX4_findChild 5 (some .int) ∈ z_ws := z_in 328 (by decide +kernel) rfl
theorem kw_329 : Cond.constant RX5 104 (-2000000000) ∈ z_ws := z_in 329 (by decide +kernel) rfl
theorem kw_330 : Cond.methodLink RL 45 yX5_setReading ∈ z_ws := z_in 330 (by decide +kernel) rfl
theorem kw_331 : Cond.instanceMethod yX5_setReading ∈ z_ws := z_in 331 (by decide +kernel) rfl
theorem kw_332 : Cond.selects RX5 yX5_setReading yX5_setReading ∈ z_ws := z_in 332 (by decide +kernel) rfl
theorem kw_333 : Cond.code yX5_setReading cX5_setReading 5 (some .int) ∈ z_ws := z_in 333 (by decide +kernel) rfl
theorem kw_334 : Cond.methodLink RX5 105 yX5_isBoundary ∈ z_ws := z_in 334 (by decide +kernel) rfl
theorem kw_335 : Cond.static yX5_isBoundary ∈ z_ws := z_in 335 (by decide +kernel) rfl
theorem kw_336 : Cond.code yX5_isBoundary cX5_isBoundary 1 (some .boolean) ∈ z_ws := z_in 336 (by decide +kernel) rfl
theorem kw_337 : Cond.methodLink RX5 108 yX4_span ∈ z_ws := z_in 337 (by decide +kernel) rfl
theorem kw_338 : Cond.instanceMethod yX4_span ∈ z_ws := z_in 338 (by decide +kernel) rfl
theorem kw_339 : Cond.selects RX4 yX4_span yX4_span ∈ z_ws := z_in 339 (by decide +kernel) rfl
theorem kw_340 : Cond.code yX4_span cX4_span 2 (some .int) ∈ z_ws := z_in 340 (by decide +kernel) rfl
theorem kw_341 : Cond.constant RX4 64 (100000) ∈ z_ws := z_in 341 (by decide +kernel) rfl
theorem kw_342 : Cond.constant RX4 65 (1000000) ∈ z_ws := z_in 342 (by decide +kernel) rfl
theorem kw_343 : Cond.methodLink RL 49 yX5_setAll ∈ z_ws := z_in 343 (by decide +kernel) rfl
theorem kw_344 : Cond.instanceMethod yX5_setAll ∈ z_ws := z_in 344 (by decide +kernel) rfl
theorem kw_345 : Cond.selects RX5 yX5_setAll yX5_setAll ∈ z_ws := z_in 345 (by decide +kernel) rfl
theorem kw_346 : Cond.code yX5_setAll cX5_setAll 7 (some .int) ∈ z_ws := z_in 346 (by decide +kernel) rfl
theorem kw_347 : Cond.methodLink RL 53 yX5_removeReading ∈ z_ws := z_in 347 (by decide +kernel) rfl
theorem kw_348 : Cond.instanceMethod yX5_removeReading ∈ z_ws := z_in 348 (by decide +kernel) rfl
theorem kw_349 : Cond.selects RX5 yX5_removeReading yX5_removeReading ∈ z_ws := z_in 349 (by decide +kernel) rfl
theorem kw_350 : Cond.code yX5_removeReading cX5_removeReading 4 (some .int) ∈ z_ws := z_in 350 (by decide +kernel) rfl
theorem kw_351 : Cond.methodLink RL 57 yX5_reading ∈ z_ws := z_in 351 (by decide +kernel) rfl
theorem kw_352 : Cond.instanceMethod yX5_reading ∈ z_ws := z_in 352 (by decide +kernel) rfl
theorem kw_353 : Cond.selects RX5 yX5_reading yX5_reading ∈ z_ws := z_in 353 (by decide +kernel) rfl
theorem kw_354 : Cond.code yX5_reading cX5_reading 3 (some .int) ∈ z_ws := z_in 354 (by decide +kernel) rfl
theorem kw_355 : Cond.methodLink RL 61 yX5_raw ∈ z_ws := z_in 355 (by decide +kernel) rfl
theorem kw_356 : Cond.instanceMethod yX5_raw ∈ z_ws := z_in 356 (by decide +kernel) rfl
theorem kw_357 : Cond.selects RX5 yX5_raw yX5_raw ∈ z_ws := z_in 357 (by decide +kernel) rfl
theorem kw_358 : Cond.code yX5_raw cX5_raw 3 (some .int) ∈ z_ws := z_in 358 (by decide +kernel) rfl
theorem kw_359 : Cond.methodLink RX5 115 yX5_isInterval ∈ z_ws := z_in 359 (by decide +kernel) rfl
theorem kw_360 : Cond.static yX5_isInterval ∈ z_ws := z_in 360 (by decide +kernel) rfl
theorem kw_361 : Cond.code yX5_isInterval cX5_isInterval 1 (some .boolean) ∈ z_ws := z_in 361 (by decide +kernel) rfl
theorem kw_362 : Cond.methodLink RX5 118 yX4_advance ∈ z_ws := z_in 362 (by decide +kernel) rfl
theorem kw_363 : Cond.instanceMethod yX4_advance ∈ z_ws := z_in 363 (by decide +kernel) rfl
theorem kw_364 : Cond.selects RX4 yX4_advance yX4_advance ∈ z_ws := z_in 364 (by decide +kernel) rfl
theorem kw_365 : Cond.code yX4_advance cX4_advance 6 (some .int) ∈ z_ws := z_in 365 (by decide +kernel) rfl
theorem kw_366 : Cond.methodLink RX4 66 yX4_span ∈ z_ws := z_in 366 (by decide +kernel) rfl
theorem kw_367 : Cond.methodLink RL 65 yX5_status ∈ z_ws := z_in 367 (by decide +kernel) rfl
theorem kw_368 : Cond.instanceMethod yX5_status ∈ z_ws := z_in 368 (by decide +kernel) rfl
theorem kw_369 : Cond.selects RX5 yX5_status yX5_status ∈ z_ws := z_in 369 (by decide +kernel) rfl
theorem kw_370 : Cond.code yX5_status cX5_status 3 (some .int) ∈ z_ws := z_in 370 (by decide +kernel) rfl
theorem kw_371 : Cond.methodLink RX5 122 yX4_judge ∈ z_ws := z_in 371 (by decide +kernel) rfl
theorem kw_372 : Cond.instanceMethod yX4_judge ∈ z_ws := z_in 372 (by decide +kernel) rfl
theorem kw_373 : Cond.selects RX4 yX4_judge yX4_judge ∈ z_ws := z_in 373 (by decide +kernel) rfl
theorem kw_374 : Cond.code yX4_judge cX4_judge 6 (some .int) ∈ z_ws := z_in 374 (by decide +kernel) rfl
theorem kw_375 : Cond.methodLink RX4 70 yX4_advance ∈ z_ws := z_in 375 (by decide +kernel) rfl
theorem kw_376 : Cond.methodLink RX4 74 yJ9_max_7cf53 ∈ z_ws := z_in 376 (by decide +kernel) rfl
theorem kw_377 : Cond.static yJ9_max_7cf53 ∈ z_ws := z_in 377 (by decide +kernel) rfl
theorem kw_378 : Cond.code yJ9_max_7cf53 cJ9_max_7cf53 2 (some .int) ∈ z_ws := z_in 378 (by decide +kernel) rfl
theorem kw_379 : Cond.methodLink RL 69 yX5_energy ∈ z_ws := z_in 379 (by decide +kernel) rfl
theorem kw_380 : Cond.instanceMethod yX5_energy ∈ z_ws := z_in 380 (by decide +kernel) rfl
theorem kw_381 : Cond.selects RX5 yX5_energy yX5_energy ∈ z_ws := z_in 381 (by decide +kernel) rfl
theorem kw_382 : Cond.code yX5_energy cX5_energy 3 (some .int) ∈ z_ws := z_in 382 (by decide +kernel) rfl
theorem kw_383 : Cond.methodLink RX5 125 yX1_measure ∈ z_ws := z_in 383 (by decide +kernel) rfl
theorem kw_384 : Cond.instanceMethod yX1_measure ∈ z_ws := z_in 384 (by decide +kernel) rfl
theorem kw_385 : Cond.selects RX1 yX1_measure yX1_measure ∈ z_ws := z_in 385 (by decide +kernel) rfl
theorem kw_386 : Cond.code yX1_measure cX1_measure 5 none ∈ z_ws := z_in 386 (by decide +kernel) rfl
theorem kw_387 : Cond.methodLink RX1 36 yX4_judge ∈ z_ws := z_in 387 (by decide +kernel) rfl
theorem kw_388 : Cond.methodLink RX1 40 yX4_advance ∈ z_ws := z_in 388 (by decide +kernel) rfl
theorem kw_389 : Cond.methodLink RX1 47 yX1_estimate ∈ z_ws := z_in 389 (by decide +kernel) rfl
theorem kw_391 : Cond.instanceMethod yX1_estimate ∈ z_ws := z_in 391 (by decide +kernel) rfl
theorem kw_392 : Cond.code yX1_estimate cX1_estimate 7 none ∈ z_ws := z_in 392 (by decide +kernel) rfl
theorem kw_393 : Cond.methodLink RX1 51 yX1_isAllMissing ∈ z_ws := z_in 393 (by decide +kernel) rfl
theorem kw_395 : Cond.instanceMethod yX1_isAllMissing ∈ z_ws := z_in 395 (by decide +kernel) rfl
theorem kw_396 : Cond.code yX1_isAllMissing cX1_isAllMissing 4 (some .boolean) ∈ z_ws := z_in 396 (by decide +kernel) rfl
theorem kw_397 : Cond.constant RX1 55 (-2000000000) ∈ z_ws := z_in 397 (by decide +kernel) rfl
theorem kw_398 : Cond.methodLink RX1 59 yX1_spread ∈ z_ws := z_in 398 (by decide +kernel) rfl
theorem kw_400 : Cond.instanceMethod yX1_spread ∈ z_ws := z_in 400 (by decide +kernel) rfl
theorem kw_401 : Cond.code yX1_spread cX1_spread 8 none ∈ z_ws := z_in 401 (by decide +kernel) rfl
theorem kw_402 : Cond.methodLink RX1 63 yX1_interpolate ∈ z_ws := z_in 402 (by decide +kernel) rfl
theorem kw_404 : Cond.instanceMethod yX1_interpolate ∈ z_ws := z_in 404 (by decide +kernel) rfl
theorem kw_405 : Cond.code yX1_interpolate cX1_interpolate 8 none ∈ z_ws := z_in 405 (by decide +kernel) rfl
theorem kw_406 : Cond.methodLink RX1 67 yX1_level ∈ z_ws := z_in 406 (by decide +kernel) rfl
theorem kw_408 : Cond.instanceMethod yX1_level ∈ z_ws := z_in 408 (by decide +kernel) rfl
theorem kw_409 : Cond.code yX1_level cX1_level 7 none ∈ z_ws := z_in 409 (by decide +kernel) rfl
theorem kw_410 : Cond.methodLink RL 73 yX5_quality ∈ z_ws := z_in 410 (by decide +kernel) rfl
theorem kw_411 : Cond.instanceMethod yX5_quality ∈ z_ws := z_in 411 (by decide +kernel) rfl
theorem kw_412 : Cond.selects RX5 yX5_quality yX5_quality ∈ z_ws := z_in 412 (by decide +kernel) rfl
theorem kw_413 : Cond.code yX5_quality cX5_quality 3 (some .int) ∈ z_ws := z_in 413 (by decide +kernel) rfl
theorem kw_414 : Cond.methodLink RL 77 yX5_day ∈ z_ws := z_in 414 (by decide +kernel) rfl
theorem kw_415 : Cond.instanceMethod yX5_day ∈ z_ws := z_in 415 (by decide +kernel) rfl
theorem kw_416 : Cond.selects RX5 yX5_day yX5_day ∈ z_ws := z_in 416 (by decide +kernel) rfl
theorem kw_417 : Cond.code yX5_day cX5_day 3 (some .int) ∈ z_ws := z_in 417 (by decide +kernel) rfl
theorem kw_418 : Cond.methodLink RX5 135 yX5_sumOf ∈ z_ws := z_in 418 (by decide +kernel) rfl
theorem kw_419 : Cond.static yX5_sumOf ∈ z_ws := z_in 419 (by decide +kernel) rfl
theorem kw_420 : Cond.code yX5_sumOf cX5_sumOf 6 (some .int) ∈ z_ws := z_in 420 (by decide +kernel) rfl
theorem kw_421 : Cond.methodLink RX5 139 yX5_sumOfLosses ∈ z_ws := z_in 421 (by decide +kernel) rfl
theorem kw_423 : Cond.instanceMethod yX5_sumOfLosses ∈ z_ws := z_in 423 (by decide +kernel) rfl
theorem kw_424 : Cond.code yX5_sumOfLosses cX5_sumOfLosses 4 (some .int) ∈ z_ws := z_in 424 (by decide +kernel) rfl
theorem kw_425 : Cond.methodLink RX5 152 yX1_measureFamily ∈ z_ws := z_in 425 (by decide +kernel) rfl
theorem kw_426 : Cond.instanceMethod yX1_measureFamily ∈ z_ws := z_in 426 (by decide +kernel) rfl
theorem kw_427 : Cond.selects RX1 yX1_measureFamily yX1_measureFamily ∈ z_ws := z_in 427 (by decide +kernel) rfl
theorem kw_428 : Cond.code yX1_measureFamily cX1_measureFamily 4 none ∈ z_ws := z_in 428 (by decide +kernel) rfl
theorem kw_429 : Cond.methodLink RX1 23 yX1_measure ∈ z_ws := z_in 429 (by decide +kernel) rfl
theorem kw_430 : Cond.methodLink RX5 155 yX1_lossIn ∈ z_ws := z_in 430 (by decide +kernel) rfl
theorem kw_431 : Cond.instanceMethod yX1_lossIn ∈ z_ws := z_in 431 (by decide +kernel) rfl
theorem kw_432 : Cond.selects RX1 yX1_lossIn yX1_lossIn ∈ z_ws := z_in 432 (by decide +kernel) rfl
theorem kw_433 : Cond.code yX1_lossIn cX1_lossIn 6 (some .int) ∈ z_ws := z_in 433 (by decide +kernel) rfl
theorem kw_434 : Cond.methodLink RX5 142 yX0_fill ∈ z_ws := z_in 434 (by decide +kernel) rfl
theorem kw_435 : Cond.instanceMethod yX0_fill ∈ z_ws := z_in 435 (by decide +kernel) rfl
theorem kw_436 : Cond.selects RX0 yX0_fill yX0_fill ∈ z_ws := z_in 436 (by decide +kernel) rfl
theorem kw_437 : Cond.code yX0_fill cX0_fill 5 none ∈ z_ws := z_in 437 (by decide +kernel) rfl
theorem kw_438 : Cond.methodLink RX0 32 yX1_measure ∈ z_ws := z_in 438 (by decide +kernel) rfl
theorem kw_439 : Cond.methodLink RX0 41 ⟨"java/lang/System", "arraycopy", "(Ljava/lang/Object;ILjava/lang/Object;II)V"⟩ ∈ z_ws := z_in 439 (by decide +kernel) rfl
theorem kw_440 : Cond.methodLink RX0 47 yX4_countChildren ∈ z_ws := z_in 440 (by decide +kernel) rfl
theorem kw_441 : Cond.methodLink RX0 51 yX0_allocate ∈ z_ws := z_in 441 (by decide +kernel) rfl
theorem kw_443 : Cond.instanceMethod yX0_allocate ∈ z_ws := z_in 443 (by decide +kernel) rfl
theorem kw_444 : Cond.code yX0_allocate cX0_allocate 11 none ∈ z_ws := z_in 444 (by decide +kernel) rfl
theorem kw_445 : Cond.methodLink RX0 55 yX0_claimByEnergy ∈ z_ws := z_in 445 (by decide +kernel) rfl
theorem kw_447 : Cond.instanceMethod yX0_claimByEnergy ∈ z_ws := z_in 447 (by decide +kernel) rfl
theorem kw_448 : Cond.code yX0_claimByEnergy cX0_claimByEnergy 8 (some .long) ∈ z_ws := z_in 448 (by decide +kernel) rfl
theorem kw_449 : Cond.methodLink RX0 59 yX0_claimByWeight ∈ z_ws := z_in 449 (by decide +kernel) rfl
theorem kw_451 : Cond.instanceMethod yX0_claimByWeight ∈ z_ws := z_in 451 (by decide +kernel) rfl
theorem kw_452 : Cond.code yX0_claimByWeight cX0_claimByWeight 6 (some .long) ∈ z_ws := z_in 452 (by decide +kernel) rfl
theorem kw_453 : Cond.methodLink RX0 67 yJ9_abs_067f4 ∈ z_ws := z_in 453 (by decide +kernel) rfl
theorem kw_454 : Cond.static yJ9_abs_067f4 ∈ z_ws := z_in 454 (by decide +kernel) rfl
theorem kw_455 : Cond.code yJ9_abs_067f4 cJ9_abs_067f4 2 (some .long) ∈ z_ws := z_in 455 (by decide +kernel) rfl
theorem kw_456 : Cond.methodLink RX0 73 yX0_divide ∈ z_ws := z_in 456 (by decide +kernel) rfl
theorem kw_458 : Cond.instanceMethod yX0_divide ∈ z_ws := z_in 458 (by decide +kernel) rfl
theorem kw_459 : Cond.code yX0_divide cX0_divide 10 none ∈ z_ws := z_in 459 (by decide +kernel) rfl
theorem kw_460 : Cond.methodLink RX0 80 yX0_giveOne ∈ z_ws := z_in 460 (by decide +kernel) rfl
theorem kw_462 : Cond.instanceMethod yX0_giveOne ∈ z_ws := z_in 462 (by decide +kernel) rfl
theorem kw_463 : Cond.code yX0_giveOne cX0_giveOne 5 none ∈ z_ws := z_in 463 (by decide +kernel) rfl
theorem kw_464 : Cond.constant RX0 83 (-2000000000) ∈ z_ws := z_in 464 (by decide +kernel) rfl
theorem kw_465 : Cond.constantLong RX0 84 (-1) ∈ z_ws := z_in 465 (by decide +kernel) rfl
theorem kw_466 : Cond.methodLink RX5 149 yX5_countNotValid ∈ z_ws := z_in 466 (by decide +kernel) rfl
theorem kw_468 : Cond.instanceMethod yX5_countNotValid ∈ z_ws := z_in 468 (by decide +kernel) rfl
theorem kw_469 : Cond.code yX5_countNotValid cX5_countNotValid 4 (some .int) ∈ z_ws := z_in 469 (by decide +kernel) rfl
theorem kw_470 : Cond.methodLink RL 81 yX5_loss ∈ z_ws := z_in 470 (by decide +kernel) rfl
theorem kw_471 : Cond.instanceMethod yX5_loss ∈ z_ws := z_in 471 (by decide +kernel) rfl
theorem kw_472 : Cond.selects RX5 yX5_loss yX5_loss ∈ z_ws := z_in 472 (by decide +kernel) rfl
theorem kw_473 : Cond.code yX5_loss cX5_loss 3 (some .int) ∈ z_ws := z_in 473 (by decide +kernel) rfl
theorem kw_474 : Cond.methodLink RL 85 yX5_balance ∈ z_ws := z_in 474 (by decide +kernel) rfl
theorem kw_475 : Cond.instanceMethod yX5_balance ∈ z_ws := z_in 475 (by decide +kernel) rfl
theorem kw_476 : Cond.selects RX5 yX5_balance yX5_balance ∈ z_ws := z_in 476 (by decide +kernel) rfl
theorem kw_477 : Cond.code yX5_balance cX5_balance 3 (some .int) ∈ z_ws := z_in 477 (by decide +kernel) rfl
theorem kw_478 : Cond.methodLink RX5 159 yX1_balanceIn ∈ z_ws := z_in 478 (by decide +kernel) rfl
theorem kw_479 : Cond.instanceMethod yX1_balanceIn ∈ z_ws := z_in 479 (by decide +kernel) rfl
theorem kw_480 : Cond.selects RX1 yX1_balanceIn yX1_balanceIn ∈ z_ws := z_in 480 (by decide +kernel) rfl
theorem kw_481 : Cond.code yX1_balanceIn cX1_balanceIn 5 (some .int) ∈ z_ws := z_in 481 (by decide +kernel) rfl
theorem kw_482 : Cond.methodLink RX1 71 yX1_lossIn ∈ z_ws := z_in 482 (by decide +kernel) rfl
theorem kw_483 : Cond.constantLong RX1 75 (1000) ∈ z_ws := z_in 483 (by decide +kernel) rfl
theorem kw_484 : Cond.methodLink RL 89 yX5_nextFault ∈ z_ws := z_in 484 (by decide +kernel) rfl
theorem kw_485 : Cond.instanceMethod yX5_nextFault ∈ z_ws := z_in 485 (by decide +kernel) rfl
theorem kw_486 : Cond.selects RX5 yX5_nextFault yX5_nextFault ∈ z_ws := z_in 486 (by decide +kernel) rfl
theorem kw_487 : Cond.code yX5_nextFault cX5_nextFault 4 (some .int) ∈ z_ws := z_in 487 (by decide +kernel) rfl
theorem kw_488 : Cond.methodLink RL 93 yX5_billed ∈ z_ws := z_in 488 (by decide +kernel) rfl
theorem kw_489 : Cond.instanceMethod yX5_billed ∈ z_ws := z_in 489 (by decide +kernel) rfl
theorem kw_490 : Cond.selects RX5 yX5_billed yX5_billed ∈ z_ws := z_in 490 (by decide +kernel) rfl
theorem kw_491 : Cond.code yX5_billed cX5_billed 3 (some .int) ∈ z_ws := z_in 491 (by decide +kernel) rfl
theorem kw_492 : Cond.methodLink RL 97 yX5_part ∈ z_ws := z_in 492 (by decide +kernel) rfl
theorem kw_493 : Cond.instanceMethod yX5_part ∈ z_ws := z_in 493 (by decide +kernel) rfl
theorem kw_494 : Cond.selects RX5 yX5_part yX5_part ∈ z_ws := z_in 494 (by decide +kernel) rfl
theorem kw_495 : Cond.code yX5_part cX5_part 3 (some .int) ∈ z_ws := z_in 495 (by decide +kernel) rfl
theorem kw_496 : Cond.methodLink RL 101 yX5_shareBits ∈ z_ws := z_in 496 (by decide +kernel) rfl
theorem kw_497 : Cond.instanceMethod yX5_shareBits ∈ z_ws := z_in 497 (by decide +kernel) rfl
theorem kw_498 : Cond.selects RX5 yX5_shareBits yX5_shareBits ∈ z_ws := z_in 498 (by decide +kernel) rfl
theorem kw_499 : Cond.code yX5_shareBits cX5_shareBits 2 (some .int) ∈ z_ws := z_in 499 (by decide +kernel) rfl
theorem kw_500 : Cond.methodLink RX5 162 yX5_shareOf ∈ z_ws := z_in 500 (by decide +kernel) rfl
theorem kw_502 : Cond.instanceMethod yX5_shareOf ∈ z_ws := z_in 502 (by decide +kernel) rfl
theorem kw_503 : Cond.code yX5_shareOf cX5_shareOf 3 (some .float) ∈ z_ws := z_in 503 (by decide +kernel) rfl
theorem kw_504 : Cond.methodLink RX5 166 yX5_bitsOf ∈ z_ws := z_in 504 (by decide +kernel) rfl
theorem kw_505 : Cond.static yX5_bitsOf ∈ z_ws := z_in 505 (by decide +kernel) rfl
theorem kw_506 : Cond.code yX5_bitsOf cX5_bitsOf 4 (some .int) ∈ z_ws := z_in 506 (by decide +kernel) rfl
theorem kw_507 : Cond.constantFloat RX5 222 (1056964608) ∈ z_ws := z_in 507 (by decide +kernel) rfl
theorem kw_508 : Cond.constantFloat RX5 223 (1258291200) ∈ z_ws := z_in 508 (by decide +kernel) rfl
theorem kw_509 : Cond.constant RX5 224 (-2147483648) ∈ z_ws := z_in 509 (by decide +kernel) rfl
theorem kw_510 : Cond.methodLink RL 105 yX5_share ∈ z_ws := z_in 510 (by decide +kernel) rfl
theorem kw_511 : Cond.instanceMethod yX5_share ∈ z_ws := z_in 511 (by decide +kernel) rfl
theorem kw_512 : Cond.selects RX5 yX5_share yX5_share ∈ z_ws := z_in 512 (by decide +kernel) rfl
theorem kw_513 : Cond.code yX5_share cX5_share 2 (some .int) ∈ z_ws := z_in 513 (by decide +kernel) rfl
theorem kw_514 : Cond.constantFloat RX5 170 (1148846080) ∈ z_ws := z_in 514 (by decide +kernel) rfl
theorem kw_515 : Cond.methodLink RL 109 yX5_imbalance ∈ z_ws := z_in 515 (by decide +kernel) rfl
theorem kw_516 : Cond.instanceMethod yX5_imbalance ∈ z_ws := z_in 516 (by decide +kernel) rfl
theorem kw_517 : Cond.selects RX5 yX5_imbalance yX5_imbalance ∈ z_ws := z_in 517 (by decide +kernel) rfl
theorem kw_518 : Cond.code yX5_imbalance cX5_imbalance 2 (some .int) ∈ z_ws := z_in 518 (by decide +kernel) rfl
theorem kw_519 : Cond.methodLink RX5 171 yX1_sumImbalance ∈ z_ws := z_in 519 (by decide +kernel) rfl
theorem kw_520 : Cond.instanceMethod yX1_sumImbalance ∈ z_ws := z_in 520 (by decide +kernel) rfl
theorem kw_521 : Cond.selects RX1 yX1_sumImbalance yX1_sumImbalance ∈ z_ws := z_in 521 (by decide +kernel) rfl
theorem kw_522 : Cond.code yX1_sumImbalance cX1_sumImbalance 5 (some .int) ∈ z_ws := z_in 522 (by decide +kernel) rfl
theorem kw_523 : Cond.methodLink RX1 80 yJ9_abs_0f7a4 ∈ z_ws := z_in 523 (by decide +kernel) rfl
theorem kw_524 : Cond.static yJ9_abs_0f7a4 ∈ z_ws := z_in 524 (by decide +kernel) rfl
theorem kw_525 : Cond.code yJ9_abs_0f7a4 cJ9_abs_0f7a4 1 (some .int) ∈ z_ws := z_in 525 (by decide +kernel) rfl
theorem kw_526 : Cond.methodLink RL 113 yX5_imbalanceWith ∈ z_ws := z_in 526 (by decide +kernel) rfl
theorem kw_527 : Cond.instanceMethod yX5_imbalanceWith ∈ z_ws := z_in 527 (by decide +kernel) rfl
theorem kw_528 : Cond.selects RX5 yX5_imbalanceWith yX5_imbalanceWith ∈ z_ws := z_in 528 (by decide +kernel) rfl
theorem kw_529 : Cond.code yX5_imbalanceWith cX5_imbalanceWith 5 (some .int) ∈ z_ws := z_in 529 (by decide +kernel) rfl
theorem kw_530 : Cond.methodLink RX5 175 yX1_sumImbalanceScaled ∈ z_ws := z_in 530 (by decide +kernel) rfl
theorem kw_531 : Cond.instanceMethod yX1_sumImbalanceScaled ∈ z_ws := z_in 531 (by decide +kernel) rfl
theorem kw_532 : Cond.selects RX1 yX1_sumImbalanceScaled yX1_sumImbalanceScaled ∈ z_ws := z_in 532 (by decide +kernel) rfl
theorem kw_533 : Cond.code yX1_sumImbalanceScaled cX1_sumImbalanceScaled 8 (some .int) ∈ z_ws := z_in 533 (by decide +kernel) rfl
theorem kw_534 : Cond.methodLink RX1 86 yX1_scaled ∈ z_ws := z_in 534 (by decide +kernel) rfl
theorem kw_535 : Cond.static yX1_scaled ∈ z_ws := z_in 535 (by decide +kernel) rfl
theorem kw_536 : Cond.code yX1_scaled cX1_scaled 2 (some .int) ∈ z_ws := z_in 536 (by decide +kernel) rfl
theorem kw_537 : Cond.methodLink RL 117 yX5_suspect ∈ z_ws := z_in 537 (by decide +kernel) rfl
theorem kw_538 : Cond.instanceMethod yX5_suspect ∈ z_ws := z_in 538 (by decide +kernel) rfl
theorem kw_539 : Cond.selects RX5 yX5_suspect yX5_suspect ∈ z_ws := z_in 539 (by decide +kernel) rfl
theorem kw_540 : Cond.code yX5_suspect cX5_suspect 2 (some .int) ∈ z_ws := z_in 540 (by decide +kernel) rfl
theorem kw_541 : Cond.methodLink RX5 179 yX1_findSuspect ∈ z_ws := z_in 541 (by decide +kernel) rfl
theorem kw_542 : Cond.instanceMethod yX1_findSuspect ∈ z_ws := z_in 542 (by decide +kernel) rfl
theorem kw_543 : Cond.selects RX1 yX1_findSuspect yX1_findSuspect ∈ z_ws := z_in 543 (by decide +kernel) rfl
theorem kw_544 : Cond.code yX1_findSuspect cX1_findSuspect 8 (some .int) ∈ z_ws := z_in 544 (by decide +kernel) rfl
theorem kw_545 : Cond.methodLink RX1 89 yX1_sumImbalanceScaled ∈ z_ws := z_in 545 (by decide +kernel) rfl
theorem kw_546 : Cond.constantLong RX1 93 (4) ∈ z_ws := z_in 546 (by decide +kernel) rfl
theorem kw_547 : Cond.methodLink RX1 95 yX1_sumImbalance ∈ z_ws := z_in 547 (by decide +kernel) rfl
theorem kw_548 : Cond.methodLink RL 121 yX5_revise ∈ z_ws := z_in 548 (by decide +kernel) rfl
theorem kw_549 : Cond.instanceMethod yX5_revise ∈ z_ws := z_in 549 (by decide +kernel) rfl
theorem kw_550 : Cond.selects RX5 yX5_revise yX5_revise ∈ z_ws := z_in 550 (by decide +kernel) rfl
theorem kw_551 : Cond.code yX5_revise cX5_revise 3 (some .int) ∈ z_ws := z_in 551 (by decide +kernel) rfl
theorem kw_552 : Cond.constant RX5 182 (-2000000003) ∈ z_ws := z_in 552 (by decide +kernel) rfl
theorem kw_553 : Cond.methodLink RL 125 yX5_revisions ∈ z_ws := z_in 553 (by decide +kernel) rfl
theorem kw_554 : Cond.instanceMethod yX5_revisions ∈ z_ws := z_in 554 (by decide +kernel) rfl
theorem kw_555 : Cond.selects RX5 yX5_revisions yX5_revisions ∈ z_ws := z_in 555 (by decide +kernel) rfl
theorem kw_556 : Cond.code yX5_revisions cX5_revisions 1 (some .int) ∈ z_ws := z_in 556 (by decide +kernel) rfl
theorem kw_557 : Cond.methodLink RL 129 yX5_billOf ∈ z_ws := z_in 557 (by decide +kernel) rfl
theorem kw_558 : Cond.instanceMethod yX5_billOf ∈ z_ws := z_in 558 (by decide +kernel) rfl
theorem kw_559 : Cond.selects RX5 yX5_billOf yX5_billOf ∈ z_ws := z_in 559 (by decide +kernel) rfl
theorem kw_560 : Cond.code yX5_billOf cX5_billOf 3 (some .int) ∈ z_ws := z_in 560 (by decide +kernel) rfl
theorem kw_561 : Cond.methodLink RX5 189 yX4_hasRevision ∈ z_ws := z_in 561 (by decide +kernel) rfl
theorem kw_562 : Cond.instanceMethod yX4_hasRevision ∈ z_ws := z_in 562 (by decide +kernel) rfl
theorem kw_563 : Cond.selects RX4 yX4_hasRevision yX4_hasRevision ∈ z_ws := z_in 563 (by decide +kernel) rfl
theorem kw_564 : Cond.code yX4_hasRevision cX4_hasRevision 2 (some .boolean) ∈ z_ws := z_in 564 (by decide +kernel) rfl
theorem kw_565 : Cond.methodLink RL 133 yX5_changed ∈ z_ws := z_in 565 (by decide +kernel) rfl
theorem kw_566 : Cond.instanceMethod yX5_changed ∈ z_ws := z_in 566 (by decide +kernel) rfl
theorem kw_567 : Cond.selects RX5 yX5_changed yX5_changed ∈ z_ws := z_in 567 (by decide +kernel) rfl
theorem kw_568 : Cond.code yX5_changed cX5_changed 4 (some .int) ∈ z_ws := z_in 568 (by decide +kernel) rfl
theorem kw_569 : Cond.methodLink RX5 192 yX5_noneAsZero ∈ z_ws := z_in 569 (by decide +kernel) rfl
theorem kw_570 : Cond.static yX5_noneAsZero ∈ z_ws := z_in 570 (by decide +kernel) rfl
theorem kw_571 : Cond.code yX5_noneAsZero cX5_noneAsZero 1 (some .int) ∈ z_ws := z_in 571 (by decide +kernel) rfl
theorem kw_572 : Cond.methodLink RL 137 yX5_clearRevisions ∈ z_ws := z_in 572 (by decide +kernel) rfl
theorem kw_573 : Cond.instanceMethod yX5_clearRevisions ∈ z_ws := z_in 573 (by decide +kernel) rfl
theorem kw_574 : Cond.selects RX5 yX5_clearRevisions yX5_clearRevisions ∈ z_ws := z_in 574 (by decide +kernel) rfl
theorem kw_575 : Cond.code yX5_clearRevisions cX5_clearRevisions 2 (some .int) ∈ z_ws := z_in 575 (by decide +kernel) rfl
theorem kw_576 : Cond.methodLink RL 141 yX5_undo ∈ z_ws := z_in 576 (by decide +kernel) rfl
theorem kw_577 : Cond.instanceMethod yX5_undo ∈ z_ws := z_in 577 (by decide +kernel) rfl
theorem kw_578 : Cond.selects RX5 yX5_undo yX5_undo ∈ z_ws := z_in 578 (by decide +kernel) rfl
theorem kw_579 : Cond.code yX5_undo cX5_undo 1 (some .int) ∈ z_ws := z_in 579 (by decide +kernel) rfl
theorem kw_580 : Cond.methodLink RX5 198 yX2_pop ∈ z_ws := z_in 580 (by decide +kernel) rfl
theorem kw_581 : Cond.instanceMethod yX2_pop ∈ z_ws := z_in 581 (by decide +kernel) rfl
theorem kw_582 : Cond.selects RX2 yX2_pop yX2_pop ∈ z_ws := z_in 582 (by decide +kernel) rfl
theorem kw_583 : Cond.code yX2_pop cX2_pop 3 none ∈ z_ws := z_in 583 (by decide +kernel) rfl
theorem kw_584 : Cond.methodLink RL 145 yX5_type ∈ z_ws := z_in 584 (by decide +kernel) rfl
theorem kw_585 : Cond.instanceMethod yX5_type ∈ z_ws := z_in 585 (by decide +kernel) rfl
theorem kw_586 : Cond.selects RX5 yX5_type yX5_type ∈ z_ws := z_in 586 (by decide +kernel) rfl
theorem kw_587 : Cond.code yX5_type cX5_type 2 (some .int) ∈ z_ws := z_in 587 (by decide +kernel) rfl
theorem kw_588 : Cond.methodLink RL 149 yX5_clearText ∈ z_ws := z_in 588 (by decide +kernel) rfl
theorem kw_589 : Cond.instanceMethod yX5_clearText ∈ z_ws := z_in 589 (by decide +kernel) rfl
theorem kw_590 : Cond.selects RX5 yX5_clearText yX5_clearText ∈ z_ws := z_in 590 (by decide +kernel) rfl
theorem kw_591 : Cond.code yX5_clearText cX5_clearText 2 (some .int) ∈ z_ws := z_in 591 (by decide +kernel) rfl
theorem kw_592 : Cond.methodLink RL 153 yX5_textFault ∈ z_ws := z_in 592 (by decide +kernel) rfl
theorem kw_593 : Cond.instanceMethod yX5_textFault ∈ z_ws := z_in 593 (by decide +kernel) rfl
theorem kw_594 : Cond.selects RX5 yX5_textFault yX5_textFault ∈ z_ws := z_in 594 (by decide +kernel) rfl
theorem kw_595 : Cond.code yX5_textFault cX5_textFault 1 (some .int) ∈ z_ws := z_in 595 (by decide +kernel) rfl
theorem kw_596 : Cond.methodLink RX5 207 yX3_parse ∈ z_ws := z_in 596 (by decide +kernel) rfl
theorem kw_597 : Cond.instanceMethod yX3_parse ∈ z_ws := z_in 597 (by decide +kernel) rfl
theorem kw_598 : Cond.selects RX3 yX3_parse yX3_parse ∈ z_ws := z_in 598 (by decide +kernel) rfl
theorem kw_599 : Cond.code yX3_parse cX3_parse 3 (some .int) ∈ z_ws := z_in 599 (by decide +kernel) rfl
theorem kw_600 : Cond.methodLink RX3 31 yX3_parseEntry ∈ z_ws := z_in 600 (by decide +kernel) rfl
theorem kw_602 : Cond.instanceMethod yX3_parseEntry ∈ z_ws := z_in 602 (by decide +kernel) rfl
theorem kw_603 : Cond.code yX3_parseEntry cX3_parseEntry 5 (some .boolean) ∈ z_ws := z_in 603 (by decide +kernel) rfl
theorem kw_604 : Cond.methodLink RX3 54 yX3_takeNumber ∈ z_ws := z_in 604 (by decide +kernel) rfl
theorem kw_606 : Cond.instanceMethod yX3_takeNumber ∈ z_ws := z_in 606 (by decide +kernel) rfl
theorem kw_607 : Cond.code yX3_takeNumber cX3_takeNumber 5 (some .int) ∈ z_ws := z_in 607 (by decide +kernel) rfl
theorem kw_608 : Cond.methodLink RX3 38 yX3_skipBlanks ∈ z_ws := z_in 608 (by decide +kernel) rfl
theorem kw_610 : Cond.instanceMethod yX3_skipBlanks ∈ z_ws := z_in 610 (by decide +kernel) rfl
theorem kw_611 : Cond.code yX3_skipBlanks cX3_skipBlanks 1 none ∈ z_ws := z_in 611 (by decide +kernel) rfl
theorem kw_612 : Cond.methodLink RX3 61 yX3_peek ∈ z_ws := z_in 612 (by decide +kernel) rfl
theorem kw_614 : Cond.instanceMethod yX3_peek ∈ z_ws := z_in 614 (by decide +kernel) rfl
theorem kw_615 : Cond.code yX3_peek cX3_peek 1 (some .int) ∈ z_ws := z_in 615 (by decide +kernel) rfl
theorem kw_616 : Cond.constant RX3 44 (-2000000000) ∈ z_ws := z_in 616 (by decide +kernel) rfl
theorem kw_617 : Cond.methodLink RX3 72 yX3_isDigit ∈ z_ws := z_in 617 (by decide +kernel) rfl
theorem kw_618 : Cond.static yX3_isDigit ∈ z_ws := z_in 618 (by decide +kernel) rfl
theorem kw_619 : Cond.code yX3_isDigit cX3_isDigit 1 (some .boolean) ∈ z_ws := z_in 619 (by decide +kernel) rfl
theorem kw_620 : Cond.methodLink RX3 58 yX4_has ∈ z_ws := z_in 620 (by decide +kernel) rfl
theorem kw_621 : Cond.methodLink RX3 45 yX3_takeSign ∈ z_ws := z_in 621 (by decide +kernel) rfl
theorem kw_623 : Cond.instanceMethod yX3_takeSign ∈ z_ws := z_in 623 (by decide +kernel) rfl
theorem kw_624 : Cond.code yX3_takeSign cX3_takeSign 2 (some .boolean) ∈ z_ws := z_in 624 (by decide +kernel) rfl
theorem kw_625 : Cond.methodLink RX3 65 yX4_span ∈ z_ws := z_in 625 (by decide +kernel) rfl
theorem kw_626 : Cond.methodLink RX3 68 yX3_keep ∈ z_ws := z_in 626 (by decide +kernel) rfl
theorem kw_628 : Cond.instanceMethod yX3_keep ∈ z_ws := z_in 628 (by decide +kernel) rfl
theorem kw_629 : Cond.code yX3_keep cX3_keep 4 none ∈ z_ws := z_in 629 (by decide +kernel) rfl
theorem kw_630 : Cond.methodLink RL 157 yX5_load ∈ z_ws := z_in 630 (by decide +kernel) rfl
theorem kw_631 : Cond.instanceMethod yX5_load ∈ z_ws := z_in 631 (by decide +kernel) rfl
theorem kw_632 : Cond.selects RX5 yX5_load yX5_load ∈ z_ws := z_in 632 (by decide +kernel) rfl
theorem kw_633 : Cond.code yX5_load cX5_load 1 (some .int) ∈ z_ws := z_in 633 (by decide +kernel) rfl
theorem kw_634 : Cond.methodLink RX5 211 yX3_apply ∈ z_ws := z_in 634 (by decide +kernel) rfl
theorem kw_635 : Cond.instanceMethod yX3_apply ∈ z_ws := z_in 635 (by decide +kernel) rfl
theorem kw_636 : Cond.selects RX3 yX3_apply yX3_apply ∈ z_ws := z_in 636 (by decide +kernel) rfl
theorem kw_637 : Cond.code yX3_apply cX3_apply 6 (some .int) ∈ z_ws := z_in 637 (by decide +kernel) rfl
theorem kw_639 : Cond.methodLink RL 161 yX5_digest ∈ z_ws := z_in 639 (by decide +kernel) rfl
theorem kw_640 : Cond.instanceMethod yX5_digest ∈ z_ws := z_in 640 (by decide +kernel) rfl
theorem kw_641 : Cond.selects RX5 yX5_digest yX5_digest ∈ z_ws := z_in 641 (by decide +kernel) rfl
theorem kw_642 : Cond.code yX5_digest cX5_digest 5 (some .long) ∈ z_ws := z_in 642 (by decide +kernel) rfl
theorem kw_643 : Cond.constantLong RX5 214 (17) ∈ z_ws := z_in 643 (by decide +kernel) rfl
theorem kw_644 : Cond.methodLink RX5 216 yX5_mixed ∈ z_ws := z_in 644 (by decide +kernel) rfl
theorem kw_645 : Cond.static yX5_mixed ∈ z_ws := z_in 645 (by decide +kernel) rfl
theorem kw_646 : Cond.code yX5_mixed cX5_mixed 3 (some .long) ∈ z_ws := z_in 646 (by decide +kernel) rfl
theorem kw_647 : Cond.constantLong RX5 220 (31) ∈ z_ws := z_in 647 (by decide +kernel) rfl
theorem kw_648 : Cond.classLink RL 10 RX6 ∈ z_ws := z_in 648 (by decide +kernel) rfl
theorem kw_649 : Cond.instantiable RX6 13 ∈ z_ws := z_in 649 (by decide +kernel) rfl
theorem kw_650 : Cond.methodLink RL 12 yX6_init ∈ z_ws := z_in 650 (by decide +kernel) rfl
theorem kw_651 : Cond.instanceMethod yX6_init ∈ z_ws := z_in 651 (by decide +kernel) rfl
theorem kw_652 : Cond.code yX6_init cX6_init 1 none ∈ z_ws := z_in 652 (by decide +kernel) rfl
theorem kw_653 : Cond.methodLink RX6 1 ⟨"java/lang/Object", "<init>", "()V"⟩ ∈ z_ws := z_in 653 (by decide +kernel) rfl
theorem kw_654 : Cond.fieldLink RX6 7 "MeterTreeModel" "row" "[I" ∈ z_ws := z_in 654 (by decide +kernel) rfl
theorem kw_655 : Cond.fieldLink RX6 32 "MeterTreeModel" "saved" "I" ∈ z_ws := z_in 655 (by decide +kernel) rfl
theorem kw_656 : Cond.fieldLink RX6 13 "MeterTreeModel" "bill" "[I" ∈ z_ws := z_in 656 (by decide +kernel) rfl
theorem kw_657 : Cond.fieldLink RX6 16 "MeterTreeModel" "its" "[I" ∈ z_ws := z_in 657 (by decide +kernel) rfl
theorem kw_658 : Cond.fieldLink RX6 19 "MeterTreeModel" "claim" "[J" ∈ z_ws := z_in 658 (by decide +kernel) rfl
theorem kw_659 : Cond.fieldLink RX6 23 "MeterTreeModel" "part" "[I" ∈ z_ws := z_in 659 (by decide +kernel) rfl
theorem kw_660 : Cond.fieldLink RX6 26 "MeterTreeModel" "total" "[I" ∈ z_ws := z_in 660 (by decide +kernel) rfl
theorem kw_661 : Cond.fieldLink RX6 29 "MeterTreeModel" "text" "[I" ∈ z_ws := z_in 661 (by decide +kernel) rfl
theorem kw_662 : Cond.fieldLink RX6 171 "MeterTreeModel" "length" "I" ∈ z_ws := z_in 662 (by decide +kernel) rfl
theorem kw_663 : Cond.fieldLink RX6 174 "MeterTreeModel" "at" "I" ∈ z_ws := z_in 663 (by decide +kernel) rfl
theorem kw_664 : Cond.fieldLink RX6 181 "MeterTreeModel" "number" "I" ∈ z_ws := z_in 664 (by decide +kernel) rfl
theorem kw_665 : Cond.fieldLink RX6 190 "MeterTreeModel" "numbers" "I" ∈ z_ws := z_in 665 (by decide +kernel) rfl
theorem kw_666 : Cond.fieldLink RX6 202 "MeterTreeModel" "h" "J" ∈ z_ws := z_in 666 (by decide +kernel) rfl
theorem kw_694 : Cond.methodLink RL 17 yX6_addMeter ∈ z_ws := z_in 694 (by decide +kernel) rfl
theorem kw_695 : Cond.instanceMethod yX6_addMeter ∈ z_ws := z_in 695 (by decide +kernel) rfl
theorem kw_696 : Cond.selects RX6 yX6_addMeter yX6_addMeter ∈ z_ws := z_in 696 (by decide +kernel) rfl
theorem kw_697 : Cond.code yX6_addMeter cX6_addMeter 3 (some .int) ∈ z_ws := z_in 697 (by decide +kernel) rfl
theorem kw_698 : Cond.methodLink RX6 53 yX6_isMeter ∈ z_ws := z_in 698 (by decide +kernel) rfl
theorem kw_700 : Cond.instanceMethod yX6_isMeter ∈ z_ws := z_in 700 (by decide +kernel) rfl
theorem kw_701 : Cond.code yX6_isMeter cX6_isMeter 2 (some .boolean) ∈ z_ws := z_in 701 (by decide +kernel) rfl
theorem kw_702 : Cond.methodLink RX6 40 yX6_in ∈ z_ws := z_in 702 (by decide +kernel) rfl
theorem kw_703 : Cond.static yX6_in ∈ z_ws := z_in 703 (by decide +kernel) rfl
theorem kw_704 : Cond.code yX6_in cX6_in 3 (some .boolean) ∈ z_ws := z_in 704 (by decide +kernel) rfl
theorem kw_705 : Cond.constant RX6 57 (-2000000001) ∈ z_ws := z_in 705 (by decide +kernel) rfl
theorem kw_706 : Cond.constant RX6 58 (-2000000004) ∈ z_ws := z_in 706 (by decide +kernel) rfl
theorem kw_707 : Cond.methodLink RX6 59 yX6_saves ∈ z_ws := z_in 707 (by decide +kernel) rfl
theorem kw_709 : Cond.instanceMethod yX6_saves ∈ z_ws := z_in 709 (by decide +kernel) rfl
theorem kw_710 : Cond.code yX6_saves cX6_saves 2 none ∈ z_ws := z_in 710 (by decide +kernel) rfl
theorem kw_711 : Cond.methodLink RX6 36 yX6_copies ∈ z_ws := z_in 711 (by decide +kernel) rfl
theorem kw_713 : Cond.instanceMethod yX6_copies ∈ z_ws := z_in 713 (by decide +kernel) rfl
theorem kw_714 : Cond.code yX6_copies cX6_copies 4 none ∈ z_ws := z_in 714 (by decide +kernel) rfl
theorem kw_715 : Cond.constant RX6 48 (-2000000000) ∈ z_ws := z_in 715 (by decide +kernel) rfl
theorem kw_716 : Cond.methodLink RX6 49 yX6_sets ∈ z_ws := z_in 716 (by decide +kernel) rfl
theorem kw_718 : Cond.instanceMethod yX6_sets ∈ z_ws := z_in 718 (by decide +kernel) rfl
theorem kw_719 : Cond.code yX6_sets cX6_sets 4 none ∈ z_ws := z_in 719 (by decide +kernel) rfl
theorem kw_720 : Cond.methodLink RX6 62 yX6_noReadings ∈ z_ws := z_in 720 (by decide +kernel) rfl
theorem kw_722 : Cond.instanceMethod yX6_noReadings ∈ z_ws := z_in 722 (by decide +kernel) rfl
theorem kw_723 : Cond.code yX6_noReadings cX6_noReadings 3 none ∈ z_ws := z_in 723 (by decide +kernel) rfl
theorem kw_724 : Cond.methodLink RL 22 yX6_setMeter ∈ z_ws := z_in 724 (by decide +kernel) rfl
theorem kw_725 : Cond.instanceMethod yX6_setMeter ∈ z_ws := z_in 725 (by decide +kernel) rfl
theorem kw_726 : Cond.selects RX6 yX6_setMeter yX6_setMeter ∈ z_ws := z_in 726 (by decide +kernel) rfl
theorem kw_727 : Cond.code yX6_setMeter cX6_setMeter 5 (some .int) ∈ z_ws := z_in 727 (by decide +kernel) rfl
theorem kw_728 : Cond.constant RX6 66 (-2000000002) ∈ z_ws := z_in 728 (by decide +kernel) rfl
theorem kw_729 : Cond.methodLink RX6 44 yX6_of ∈ z_ws := z_in 729 (by decide +kernel) rfl
theorem kw_731 : Cond.instanceMethod yX6_of ∈ z_ws := z_in 731 (by decide +kernel) rfl
theorem kw_732 : Cond.code yX6_of cX6_of 3 (some .int) ∈ z_ws := z_in 732 (by decide +kernel) rfl
theorem kw_733 : Cond.methodLink RL 26 yX6_setRegister ∈ z_ws := z_in 733 (by decide +kernel) rfl
theorem kw_734 : Cond.instanceMethod yX6_setRegister ∈ z_ws := z_in 734 (by decide +kernel) rfl
theorem kw_735 : Cond.selects RX6 yX6_setRegister yX6_setRegister ∈ z_ws := z_in 735 (by decide +kernel) rfl
theorem kw_736 : Cond.code yX6_setRegister cX6_setRegister 5 (some .int) ∈ z_ws := z_in 736 (by decide +kernel) rfl
theorem kw_737 : Cond.constant RX6 67 (50000) ∈ z_ws := z_in 737 (by decide +kernel) rfl
theorem kw_738 : Cond.methodLink RL 31 yX6_setRules ∈ z_ws := z_in 738 (by decide +kernel) rfl
theorem kw_739 : Cond.instanceMethod yX6_setRules ∈ z_ws := z_in 739 (by decide +kernel) rfl
theorem kw_740 : Cond.selects RX6 yX6_setRules yX6_setRules ∈ z_ws := z_in 740 (by decide +kernel) rfl
theorem kw_741 : Cond.code yX6_setRules cX6_setRules 4 (some .int) ∈ z_ws := z_in 741 (by decide +kernel) rfl
theorem kw_742 : Cond.methodLink RL 36 yX6_meters ∈ z_ws := z_in 742 (by decide +kernel) rfl
theorem kw_743 : Cond.instanceMethod yX6_meters ∈ z_ws := z_in 743 (by decide +kernel) rfl
theorem kw_744 : Cond.selects RX6 yX6_meters yX6_meters ∈ z_ws := z_in 744 (by decide +kernel) rfl
theorem kw_745 : Cond.code yX6_meters cX6_meters 1 (some .int) ∈ z_ws := z_in 745 (by decide +kernel) rfl
theorem kw_746 : Cond.methodLink RL 40 yX6_meter ∈ z_ws := z_in 746 (by decide +kernel) rfl
theorem kw_747 : Cond.instanceMethod yX6_meter ∈ z_ws := z_in 747 (by decide +kernel) rfl
theorem kw_748 : Cond.selects RX6 yX6_meter yX6_meter ∈ z_ws := z_in 748 (by decide +kernel) rfl
theorem kw_749 : Cond.code yX6_meter cX6_meter 3 (some .int) ∈ z_ws := z_in 749 (by decide +kernel) rfl
theorem kw_750 : Cond.methodLink RX6 68 yX6_children ∈ z_ws := z_in 750 (by decide +kernel) rfl
theorem kw_752 : Cond.instanceMethod yX6_children ∈ z_ws := z_in 752 (by decide +kernel) rfl
theorem kw_753 : Cond.code yX6_children cX6_children 4 (some .int) ∈ z_ws := z_in 753 (by decide +kernel) rfl
theorem kw_754 : Cond.methodLink RX6 72 yX6_above ∈ z_ws := z_in 754 (by decide +kernel) rfl
theorem kw_756 : Cond.instanceMethod yX6_above ∈ z_ws := z_in 756 (by decide +kernel) rfl
theorem kw_757 : Cond.code yX6_above cX6_above 4 (some .int) ∈ z_ws := z_in 757 (by decide +kernel) rfl
theorem kw_758 : Cond.methodLink RL 44 yX6_child ∈ z_ws := z_in 758 (by decide +kernel) rfl
theorem kw_759 : Cond.instanceMethod yX6_child ∈ z_ws := z_in 759 (by decide +kernel) rfl
theorem kw_760 : Cond.selects RX6 yX6_child yX6_child ∈ z_ws := z_in 760 (by decide +kernel) rfl
theorem kw_761 : Cond.code yX6_child cX6_child 3 (some .int) ∈ z_ws := z_in 761 (by decide +kernel) rfl
theorem kw_762 : Cond.methodLink RX6 75 yX6_childOf ∈ z_ws := z_in 762 (by decide +kernel) rfl
theorem kw_764 : Cond.instanceMethod yX6_childOf ∈ z_ws := z_in 764 (by decide +kernel) rfl
theorem kw_765 : Cond.code yX6_childOf cX6_childOf 5 (some .int) ∈ z_ws := z_in 765 (by decide +kernel) rfl
theorem kw_766 : Cond.methodLink RL 48 yX6_setReading ∈ z_ws := z_in 766 (by decide +kernel) rfl
theorem kw_767 : Cond.instanceMethod yX6_setReading ∈ z_ws := z_in 767 (by decide +kernel) rfl
theorem kw_768 : Cond.selects RX6 yX6_setReading yX6_setReading ∈ z_ws := z_in 768 (by decide +kernel) rfl
theorem kw_769 : Cond.code yX6_setReading cX6_setReading 4 (some .int) ∈ z_ws := z_in 769 (by decide +kernel) rfl
theorem kw_770 : Cond.methodLink RX6 81 yX6_isBoundary ∈ z_ws := z_in 770 (by decide +kernel) rfl
theorem kw_772 : Cond.instanceMethod yX6_isBoundary ∈ z_ws := z_in 772 (by decide +kernel) rfl
theorem kw_773 : Cond.code yX6_isBoundary cX6_isBoundary 3 (some .boolean) ∈ z_ws := z_in 773 (by decide +kernel) rfl
theorem kw_774 : Cond.methodLink RX6 85 yX6_isReading ∈ z_ws := z_in 774 (by decide +kernel) rfl
theorem kw_776 : Cond.instanceMethod yX6_isReading ∈ z_ws := z_in 776 (by decide +kernel) rfl
theorem kw_777 : Cond.code yX6_isReading cX6_isReading 3 (some .boolean) ∈ z_ws := z_in 777 (by decide +kernel) rfl
theorem kw_778 : Cond.methodLink RX6 78 yX6_whole ∈ z_ws := z_in 778 (by decide +kernel) rfl
theorem kw_780 : Cond.instanceMethod yX6_whole ∈ z_ws := z_in 780 (by decide +kernel) rfl
theorem kw_781 : Cond.code yX6_whole cX6_whole 4 (some .int) ∈ z_ws := z_in 781 (by decide +kernel) rfl
theorem kw_782 : Cond.methodLink RX6 88 yX6_becomes ∈ z_ws := z_in 782 (by decide +kernel) rfl
theorem kw_784 : Cond.instanceMethod yX6_becomes ∈ z_ws := z_in 784 (by decide +kernel) rfl
theorem kw_785 : Cond.code yX6_becomes cX6_becomes 5 (some .int) ∈ z_ws := z_in 785 (by decide +kernel) rfl
theorem kw_786 : Cond.methodLink RL 52 yX6_setAll ∈ z_ws := z_in 786 (by decide +kernel) rfl
theorem kw_787 : Cond.instanceMethod yX6_setAll ∈ z_ws := z_in 787 (by decide +kernel) rfl
theorem kw_788 : Cond.selects RX6 yX6_setAll yX6_setAll ∈ z_ws := z_in 788 (by decide +kernel) rfl
theorem kw_789 : Cond.code yX6_setAll cX6_setAll 6 (some .int) ∈ z_ws := z_in 789 (by decide +kernel) rfl
theorem kw_790 : Cond.methodLink RL 56 yX6_removeReading ∈ z_ws := z_in 790 (by decide +kernel) rfl
theorem kw_791 : Cond.instanceMethod yX6_removeReading ∈ z_ws := z_in 791 (by decide +kernel) rfl
theorem kw_792 : Cond.selects RX6 yX6_removeReading yX6_removeReading ∈ z_ws := z_in 792 (by decide +kernel) rfl
theorem kw_793 : Cond.code yX6_removeReading cX6_removeReading 3 (some .int) ∈ z_ws := z_in 793 (by decide +kernel) rfl
theorem kw_794 : Cond.methodLink RL 60 yX6_reading ∈ z_ws := z_in 794 (by decide +kernel) rfl
theorem kw_795 : Cond.instanceMethod yX6_reading ∈ z_ws := z_in 795 (by decide +kernel) rfl
theorem kw_796 : Cond.selects RX6 yX6_reading yX6_reading ∈ z_ws := z_in 796 (by decide +kernel) rfl
theorem kw_797 : Cond.code yX6_reading cX6_reading 3 (some .int) ∈ z_ws := z_in 797 (by decide +kernel) rfl
theorem kw_798 : Cond.methodLink RL 64 yX6_raw ∈ z_ws := z_in 798 (by decide +kernel) rfl
theorem kw_799 : Cond.instanceMethod yX6_raw ∈ z_ws := z_in 799 (by decide +kernel) rfl
theorem kw_800 : Cond.selects RX6 yX6_raw yX6_raw ∈ z_ws := z_in 800 (by decide +kernel) rfl
theorem kw_801 : Cond.code yX6_raw cX6_raw 3 (some .int) ∈ z_ws := z_in 801 (by decide +kernel) rfl
theorem kw_802 : Cond.methodLink RX6 101 yX6_isInterval ∈ z_ws := z_in 802 (by decide +kernel) rfl
theorem kw_804 : Cond.instanceMethod yX6_isInterval ∈ z_ws := z_in 804 (by decide +kernel) rfl
theorem kw_805 : Cond.code yX6_isInterval cX6_isInterval 3 (some .boolean) ∈ z_ws := z_in 805 (by decide +kernel) rfl
theorem kw_806 : Cond.methodLink RX6 95 yX6_rawOf ∈ z_ws := z_in 806 (by decide +kernel) rfl
theorem kw_808 : Cond.instanceMethod yX6_rawOf ∈ z_ws := z_in 808 (by decide +kernel) rfl
theorem kw_809 : Cond.code yX6_rawOf cX6_rawOf 3 (some .int) ∈ z_ws := z_in 809 (by decide +kernel) rfl
theorem kw_810 : Cond.methodLink RX6 92 yX6_advance ∈ z_ws := z_in 810 (by decide +kernel) rfl
theorem kw_812 : Cond.instanceMethod yX6_advance ∈ z_ws := z_in 812 (by decide +kernel) rfl
theorem kw_813 : Cond.code yX6_advance cX6_advance 6 (some .int) ∈ z_ws := z_in 813 (by decide +kernel) rfl
theorem kw_814 : Cond.methodLink RL 68 yX6_status ∈ z_ws := z_in 814 (by decide +kernel) rfl
theorem kw_815 : Cond.instanceMethod yX6_status ∈ z_ws := z_in 815 (by decide +kernel) rfl
theorem kw_816 : Cond.selects RX6 yX6_status yX6_status ∈ z_ws := z_in 816 (by decide +kernel) rfl
theorem kw_817 : Cond.code yX6_status cX6_status 3 (some .int) ∈ z_ws := z_in 817 (by decide +kernel) rfl
theorem kw_818 : Cond.methodLink RX6 104 yX6_statusOf ∈ z_ws := z_in 818 (by decide +kernel) rfl
theorem kw_820 : Cond.instanceMethod yX6_statusOf ∈ z_ws := z_in 820 (by decide +kernel) rfl
theorem kw_821 : Cond.code yX6_statusOf cX6_statusOf 4 (some .int) ∈ z_ws := z_in 821 (by decide +kernel) rfl
theorem kw_822 : Cond.methodLink RX6 98 yX6_isModest ∈ z_ws := z_in 822 (by decide +kernel) rfl
theorem kw_824 : Cond.instanceMethod yX6_isModest ∈ z_ws := z_in 824 (by decide +kernel) rfl
theorem kw_825 : Cond.code yX6_isModest cX6_isModest 3 (some .boolean) ∈ z_ws := z_in 825 (by decide +kernel) rfl
theorem kw_826 : Cond.methodLink RL 72 yX6_energy ∈ z_ws := z_in 826 (by decide +kernel) rfl
theorem kw_827 : Cond.instanceMethod yX6_energy ∈ z_ws := z_in 827 (by decide +kernel) rfl
theorem kw_828 : Cond.selects RX6 yX6_energy yX6_energy ∈ z_ws := z_in 828 (by decide +kernel) rfl
theorem kw_829 : Cond.code yX6_energy cX6_energy 3 (some .int) ∈ z_ws := z_in 829 (by decide +kernel) rfl
theorem kw_830 : Cond.methodLink RX6 122 yX6_energyOf ∈ z_ws := z_in 830 (by decide +kernel) rfl
theorem kw_832 : Cond.instanceMethod yX6_energyOf ∈ z_ws := z_in 832 (by decide +kernel) rfl
theorem kw_833 : Cond.code yX6_energyOf cX6_energyOf 8 (some .int) ∈ z_ws := z_in 833 (by decide +kernel) rfl
theorem kw_834 : Cond.methodLink RX6 116 yX6_qualityOf ∈ z_ws := z_in 834 (by decide +kernel) rfl
theorem kw_836 : Cond.instanceMethod yX6_qualityOf ∈ z_ws := z_in 836 (by decide +kernel) rfl
theorem kw_837 : Cond.code yX6_qualityOf cX6_qualityOf 9 (some .int) ∈ z_ws := z_in 837 (by decide +kernel) rfl
theorem kw_838 : Cond.methodLink RX6 107 yX6_isValid ∈ z_ws := z_in 838 (by decide +kernel) rfl
theorem kw_840 : Cond.instanceMethod yX6_isValid ∈ z_ws := z_in 840 (by decide +kernel) rfl
theorem kw_841 : Cond.code yX6_isValid cX6_isValid 3 (some .boolean) ∈ z_ws := z_in 841 (by decide +kernel) rfl
theorem kw_842 : Cond.methodLink RX6 110 yX6_first ∈ z_ws := z_in 842 (by decide +kernel) rfl
theorem kw_844 : Cond.instanceMethod yX6_first ∈ z_ws := z_in 844 (by decide +kernel) rfl
theorem kw_845 : Cond.code yX6_first cX6_first 4 (some .int) ∈ z_ws := z_in 845 (by decide +kernel) rfl
theorem kw_846 : Cond.methodLink RX6 113 yX6_last ∈ z_ws := z_in 846 (by decide +kernel) rfl
theorem kw_848 : Cond.instanceMethod yX6_last ∈ z_ws := z_in 848 (by decide +kernel) rfl
theorem kw_849 : Cond.code yX6_last cX6_last 4 (some .int) ∈ z_ws := z_in 849 (by decide +kernel) rfl
theorem kw_850 : Cond.methodLink RX6 119 yX6_validOf ∈ z_ws := z_in 850 (by decide +kernel) rfl
theorem kw_852 : Cond.instanceMethod yX6_validOf ∈ z_ws := z_in 852 (by decide +kernel) rfl
theorem kw_853 : Cond.code yX6_validOf cX6_validOf 3 (some .int) ∈ z_ws := z_in 853 (by decide +kernel) rfl
theorem kw_854 : Cond.methodLink RL 76 yX6_quality ∈ z_ws := z_in 854 (by decide +kernel) rfl
theorem kw_855 : Cond.instanceMethod yX6_quality ∈ z_ws := z_in 855 (by decide +kernel) rfl
theorem kw_856 : Cond.selects RX6 yX6_quality yX6_quality ∈ z_ws := z_in 856 (by decide +kernel) rfl
theorem kw_857 : Cond.code yX6_quality cX6_quality 3 (some .int) ∈ z_ws := z_in 857 (by decide +kernel) rfl
theorem kw_858 : Cond.methodLink RL 84 yX6_loss ∈ z_ws := z_in 858 (by decide +kernel) rfl
theorem kw_859 : Cond.instanceMethod yX6_loss ∈ z_ws := z_in 859 (by decide +kernel) rfl
theorem kw_860 : Cond.selects RX6 yX6_loss yX6_loss ∈ z_ws := z_in 860 (by decide +kernel) rfl
theorem kw_861 : Cond.code yX6_loss cX6_loss 3 (some .int) ∈ z_ws := z_in 861 (by decide +kernel) rfl
theorem kw_862 : Cond.methodLink RX6 125 yX6_lossOf ∈ z_ws := z_in 862 (by decide +kernel) rfl
theorem kw_864 : Cond.instanceMethod yX6_lossOf ∈ z_ws := z_in 864 (by decide +kernel) rfl
theorem kw_865 : Cond.code yX6_lossOf cX6_lossOf 5 (some .int) ∈ z_ws := z_in 865 (by decide +kernel) rfl
theorem kw_866 : Cond.methodLink RL 88 yX6_balance ∈ z_ws := z_in 866 (by decide +kernel) rfl
theorem kw_867 : Cond.instanceMethod yX6_balance ∈ z_ws := z_in 867 (by decide +kernel) rfl
theorem kw_868 : Cond.selects RX6 yX6_balance yX6_balance ∈ z_ws := z_in 868 (by decide +kernel) rfl
theorem kw_869 : Cond.code yX6_balance cX6_balance 3 (some .int) ∈ z_ws := z_in 869 (by decide +kernel) rfl
theorem kw_870 : Cond.methodLink RX6 130 yX6_balanceOf ∈ z_ws := z_in 870 (by decide +kernel) rfl
theorem kw_872 : Cond.instanceMethod yX6_balanceOf ∈ z_ws := z_in 872 (by decide +kernel) rfl
theorem kw_873 : Cond.code yX6_balanceOf cX6_balanceOf 4 (some .int) ∈ z_ws := z_in 873 (by decide +kernel) rfl
theorem kw_874 : Cond.constantLong RX6 128 (1000) ∈ z_ws := z_in 874 (by decide +kernel) rfl
theorem kw_875 : Cond.methodLink RL 92 yX6_nextFault ∈ z_ws := z_in 875 (by decide +kernel) rfl
theorem kw_876 : Cond.instanceMethod yX6_nextFault ∈ z_ws := z_in 876 (by decide +kernel) rfl
theorem kw_877 : Cond.selects RX6 yX6_nextFault yX6_nextFault ∈ z_ws := z_in 877 (by decide +kernel) rfl
theorem kw_878 : Cond.code yX6_nextFault cX6_nextFault 4 (some .int) ∈ z_ws := z_in 878 (by decide +kernel) rfl
theorem kw_879 : Cond.methodLink RL 96 yX6_billed ∈ z_ws := z_in 879 (by decide +kernel) rfl
theorem kw_880 : Cond.instanceMethod yX6_billed ∈ z_ws := z_in 880 (by decide +kernel) rfl
theorem kw_881 : Cond.selects RX6 yX6_billed yX6_billed ∈ z_ws := z_in 881 (by decide +kernel) rfl
theorem kw_882 : Cond.code yX6_billed cX6_billed 3 (some .int) ∈ z_ws := z_in 882 (by decide +kernel) rfl
theorem kw_883 : Cond.methodLink RX6 136 yX6_bills ∈ z_ws := z_in 883 (by decide +kernel) rfl
theorem kw_885 : Cond.instanceMethod yX6_bills ∈ z_ws := z_in 885 (by decide +kernel) rfl
theorem kw_886 : Cond.code yX6_bills cX6_bills 3 none ∈ z_ws := z_in 886 (by decide +kernel) rfl
theorem kw_887 : Cond.methodLink RX6 133 yX6_allocates ∈ z_ws := z_in 887 (by decide +kernel) rfl
theorem kw_889 : Cond.instanceMethod yX6_allocates ∈ z_ws := z_in 889 (by decide +kernel) rfl
theorem kw_890 : Cond.code yX6_allocates cX6_allocates 18 none ∈ z_ws := z_in 890 (by decide +kernel) rfl
theorem kw_891 : Cond.methodLink RL 100 yX6_part ∈ z_ws := z_in 891 (by decide +kernel) rfl
theorem kw_892 : Cond.instanceMethod yX6_part ∈ z_ws := z_in 892 (by decide +kernel) rfl
theorem kw_893 : Cond.selects RX6 yX6_part yX6_part ∈ z_ws := z_in 893 (by decide +kernel) rfl
theorem kw_894 : Cond.code yX6_part cX6_part 3 (some .int) ∈ z_ws := z_in 894 (by decide +kernel) rfl
theorem kw_895 : Cond.methodLink RL 80 yX6_day ∈ z_ws := z_in 895 (by decide +kernel) rfl
theorem kw_896 : Cond.instanceMethod yX6_day ∈ z_ws := z_in 896 (by decide +kernel) rfl
theorem kw_897 : Cond.selects RX6 yX6_day yX6_day ∈ z_ws := z_in 897 (by decide +kernel) rfl
theorem kw_898 : Cond.code yX6_day cX6_day 3 (some .int) ∈ z_ws := z_in 898 (by decide +kernel) rfl
theorem kw_899 : Cond.methodLink RX6 139 yX6_billsAll ∈ z_ws := z_in 899 (by decide +kernel) rfl
theorem kw_901 : Cond.instanceMethod yX6_billsAll ∈ z_ws := z_in 901 (by decide +kernel) rfl
theorem kw_902 : Cond.code yX6_billsAll cX6_billsAll 3 none ∈ z_ws := z_in 902 (by decide +kernel) rfl
theorem kw_903 : Cond.methodLink RX6 142 yX6_dayOf ∈ z_ws := z_in 903 (by decide +kernel) rfl
theorem kw_905 : Cond.instanceMethod yX6_dayOf ∈ z_ws := z_in 905 (by decide +kernel) rfl
theorem kw_906 : Cond.code yX6_dayOf cX6_dayOf 5 (some .int) ∈ z_ws := z_in 906 (by decide +kernel) rfl
theorem kw_907 : Cond.methodLink RL 104 yX6_shareBits ∈ z_ws := z_in 907 (by decide +kernel) rfl
theorem kw_908 : Cond.instanceMethod yX6_shareBits ∈ z_ws := z_in 908 (by decide +kernel) rfl
theorem kw_909 : Cond.selects RX6 yX6_shareBits yX6_shareBits ∈ z_ws := z_in 909 (by decide +kernel) rfl
theorem kw_910 : Cond.code yX6_shareBits cX6_shareBits 2 (some .int) ∈ z_ws := z_in 910 (by decide +kernel) rfl
theorem kw_911 : Cond.methodLink RX6 145 yX6_shareOf ∈ z_ws := z_in 911 (by decide +kernel) rfl
theorem kw_913 : Cond.instanceMethod yX6_shareOf ∈ z_ws := z_in 913 (by decide +kernel) rfl
theorem kw_914 : Cond.code yX6_shareOf cX6_shareOf 2 (some .float) ∈ z_ws := z_in 914 (by decide +kernel) rfl
theorem kw_915 : Cond.methodLink RX6 149 yJxf58ca_floatToIntBits_5c35a ∈ z_ws := z_in 915 (by decide +kernel) rfl
theorem kw_916 : Cond.static yJxf58ca_floatToIntBits_5c35a ∈ z_ws := z_in 916 (by decide +kernel) rfl
theorem kw_917 : Cond.code yJxf58ca_floatToIntBits_5c35a cJxf58ca_floatToIntBits_5c35a 1 (some .int) ∈ z_ws := z_in 917 (by decide +kernel) rfl
theorem kw_918 : Cond.methodLink RJxf58ca 59 yJxf58ca_isNaN_12338 ∈ z_ws := z_in 918 (by decide +kernel) rfl
theorem kw_919 : Cond.static yJxf58ca_isNaN_12338 ∈ z_ws := z_in 919 (by decide +kernel) rfl
theorem kw_920 : Cond.code yJxf58ca_isNaN_12338 cJxf58ca_isNaN_12338 1 (some .boolean) ∈ z_ws := z_in 920 (by decide +kernel) rfl
theorem kw_921 : Cond.methodLink RJxf58ca 74 ⟨"java/lang/Float", "floatToRawIntBits", "(F)I"⟩ ∈ z_ws := z_in 921 (by decide +kernel) rfl
theorem kw_922 : Cond.static ⟨"java/lang/Float", "floatToRawIntBits", "(F)I"⟩ ∈ z_ws := z_in 922 (by decide +kernel) rfl
theorem kw_923 : Cond.native ⟨"java/lang/Float", "floatToRawIntBits", "(F)I"⟩ ∈ z_ws := z_in 923 (by decide +kernel) rfl
theorem kw_924 : Cond.constant RJxf58ca 77 (2143289344) ∈ z_ws := z_in 924 (by decide +kernel) rfl
theorem kw_925 : Cond.methodLink RL 108 yX6_share ∈ z_ws := z_in 925 (by decide +kernel) rfl
theorem kw_926 : Cond.instanceMethod yX6_share ∈ z_ws := z_in 926 (by decide +kernel) rfl
theorem kw_927 : Cond.selects RX6 yX6_share yX6_share ∈ z_ws := z_in 927 (by decide +kernel) rfl
theorem kw_928 : Cond.code yX6_share cX6_share 2 (some .int) ∈ z_ws := z_in 928 (by decide +kernel) rfl
theorem kw_929 : Cond.constantFloat RX6 155 (1148846080) ∈ z_ws := z_in 929 (by decide +kernel) rfl
theorem kw_930 : Cond.methodLink RL 112 yX6_imbalance ∈ z_ws := z_in 930 (by decide +kernel) rfl
theorem kw_931 : Cond.instanceMethod yX6_imbalance ∈ z_ws := z_in 931 (by decide +kernel) rfl
theorem kw_932 : Cond.selects RX6 yX6_imbalance yX6_imbalance ∈ z_ws := z_in 932 (by decide +kernel) rfl
theorem kw_933 : Cond.code yX6_imbalance cX6_imbalance 2 (some .int) ∈ z_ws := z_in 933 (by decide +kernel) rfl
theorem kw_934 : Cond.methodLink RX6 159 yX6_imbalanceOf ∈ z_ws := z_in 934 (by decide +kernel) rfl
theorem kw_936 : Cond.instanceMethod yX6_imbalanceOf ∈ z_ws := z_in 936 (by decide +kernel) rfl
theorem kw_937 : Cond.code yX6_imbalanceOf cX6_imbalanceOf 7 (some .int) ∈ z_ws := z_in 937 (by decide +kernel) rfl
theorem kw_938 : Cond.methodLink RX6 156 yX6_times ∈ z_ws := z_in 938 (by decide +kernel) rfl
theorem kw_939 : Cond.static yX6_times ∈ z_ws := z_in 939 (by decide +kernel) rfl
theorem kw_940 : Cond.code yX6_times cX6_times 2 (some .int) ∈ z_ws := z_in 940 (by decide +kernel) rfl
theorem kw_941 : Cond.methodLink RL 116 yX6_imbalanceWith ∈ z_ws := z_in 941 (by decide +kernel) rfl
theorem kw_942 : Cond.instanceMethod yX6_imbalanceWith ∈ z_ws := z_in 942 (by decide +kernel) rfl
theorem kw_943 : Cond.selects RX6 yX6_imbalanceWith yX6_imbalanceWith ∈ z_ws := z_in 943 (by decide +kernel) rfl
theorem kw_944 : Cond.code yX6_imbalanceWith cX6_imbalanceWith 5 (some .int) ∈ z_ws := z_in 944 (by decide +kernel) rfl
theorem kw_945 : Cond.methodLink RL 120 yX6_suspect ∈ z_ws := z_in 945 (by decide +kernel) rfl
theorem kw_946 : Cond.instanceMethod yX6_suspect ∈ z_ws := z_in 946 (by decide +kernel) rfl
theorem kw_947 : Cond.selects RX6 yX6_suspect yX6_suspect ∈ z_ws := z_in 947 (by decide +kernel) rfl
theorem kw_948 : Cond.code yX6_suspect cX6_suspect 8 (some .int) ∈ z_ws := z_in 948 (by decide +kernel) rfl
theorem kw_949 : Cond.constantLong RX6 162 (4) ∈ z_ws := z_in 949 (by decide +kernel) rfl
theorem kw_950 : Cond.methodLink RL 124 yX6_revise ∈ z_ws := z_in 950 (by decide +kernel) rfl
theorem kw_951 : Cond.instanceMethod yX6_revise ∈ z_ws := z_in 951 (by decide +kernel) rfl
theorem kw_952 : Cond.selects RX6 yX6_revise yX6_revise ∈ z_ws := z_in 952 (by decide +kernel) rfl
theorem kw_953 : Cond.code yX6_revise cX6_revise 3 (some .int) ∈ z_ws := z_in 953 (by decide +kernel) rfl
theorem kw_954 : Cond.constant RX6 164 (-2000000003) ∈ z_ws := z_in 954 (by decide +kernel) rfl
theorem kw_955 : Cond.methodLink RL 128 yX6_revisions ∈ z_ws := z_in 955 (by decide +kernel) rfl
theorem kw_956 : Cond.instanceMethod yX6_revisions ∈ z_ws := z_in 956 (by decide +kernel) rfl
theorem kw_957 : Cond.selects RX6 yX6_revisions yX6_revisions ∈ z_ws := z_in 957 (by decide +kernel) rfl
theorem kw_958 : Cond.code yX6_revisions cX6_revisions 1 (some .int) ∈ z_ws := z_in 958 (by decide +kernel) rfl
theorem kw_959 : Cond.methodLink RL 132 yX6_billOf ∈ z_ws := z_in 959 (by decide +kernel) rfl
theorem kw_960 : Cond.instanceMethod yX6_billOf ∈ z_ws := z_in 960 (by decide +kernel) rfl
theorem kw_961 : Cond.selects RX6 yX6_billOf yX6_billOf ∈ z_ws := z_in 961 (by decide +kernel) rfl
theorem kw_962 : Cond.code yX6_billOf cX6_billOf 3 (some .int) ∈ z_ws := z_in 962 (by decide +kernel) rfl
theorem kw_963 : Cond.methodLink RX6 165 yX6_isRevision ∈ z_ws := z_in 963 (by decide +kernel) rfl
theorem kw_965 : Cond.instanceMethod yX6_isRevision ∈ z_ws := z_in 965 (by decide +kernel) rfl
theorem kw_966 : Cond.code yX6_isRevision cX6_isRevision 2 (some .boolean) ∈ z_ws := z_in 966 (by decide +kernel) rfl
theorem kw_967 : Cond.methodLink RX6 168 yX6_kept ∈ z_ws := z_in 967 (by decide +kernel) rfl
theorem kw_969 : Cond.instanceMethod yX6_kept ∈ z_ws := z_in 969 (by decide +kernel) rfl
theorem kw_970 : Cond.code yX6_kept cX6_kept 3 (some .int) ∈ z_ws := z_in 970 (by decide +kernel) rfl
theorem kw_971 : Cond.methodLink RL 136 yX6_changed ∈ z_ws := z_in 971 (by decide +kernel) rfl
theorem kw_972 : Cond.instanceMethod yX6_changed ∈ z_ws := z_in 972 (by decide +kernel) rfl
theorem kw_973 : Cond.selects RX6 yX6_changed yX6_changed ∈ z_ws := z_in 973 (by decide +kernel) rfl
theorem kw_974 : Cond.code yX6_changed cX6_changed 6 (some .int) ∈ z_ws := z_in 974 (by decide +kernel) rfl
theorem kw_975 : Cond.methodLink RL 140 yX6_clearRevisions ∈ z_ws := z_in 975 (by decide +kernel) rfl
theorem kw_976 : Cond.instanceMethod yX6_clearRevisions ∈ z_ws := z_in 976 (by decide +kernel) rfl
theorem kw_977 : Cond.selects RX6 yX6_clearRevisions yX6_clearRevisions ∈ z_ws := z_in 977 (by decide +kernel) rfl
theorem kw_978 : Cond.code yX6_clearRevisions cX6_clearRevisions 2 (some .int) ∈ z_ws := z_in 978 (by decide +kernel) rfl
theorem kw_979 : Cond.methodLink RL 144 yX6_undo ∈ z_ws := z_in 979 (by decide +kernel) rfl
theorem kw_980 : Cond.instanceMethod yX6_undo ∈ z_ws := z_in 980 (by decide +kernel) rfl
theorem kw_981 : Cond.selects RX6 yX6_undo yX6_undo ∈ z_ws := z_in 981 (by decide +kernel) rfl
theorem kw_982 : Cond.code yX6_undo cX6_undo 1 (some .int) ∈ z_ws := z_in 982 (by decide +kernel) rfl
theorem kw_983 : Cond.methodLink RL 148 yX6_type ∈ z_ws := z_in 983 (by decide +kernel) rfl
theorem kw_984 : Cond.instanceMethod yX6_type ∈ z_ws := z_in 984 (by decide +kernel) rfl
theorem kw_985 : Cond.selects RX6 yX6_type yX6_type ∈ z_ws := z_in 985 (by decide +kernel) rfl
theorem kw_986 : Cond.code yX6_type cX6_type 2 (some .int) ∈ z_ws := z_in 986 (by decide +kernel) rfl
theorem kw_987 : Cond.methodLink RL 152 yX6_clearText ∈ z_ws := z_in 987 (by decide +kernel) rfl
theorem kw_988 : Cond.instanceMethod yX6_clearText ∈ z_ws := z_in 988 (by decide +kernel) rfl
theorem kw_989 : Cond.selects RX6 yX6_clearText yX6_clearText ∈ z_ws := z_in 989 (by decide +kernel) rfl
theorem kw_990 : Cond.code yX6_clearText cX6_clearText 2 (some .int) ∈ z_ws := z_in 990 (by decide +kernel) rfl
theorem kw_991 : Cond.methodLink RL 156 yX6_textFault ∈ z_ws := z_in 991 (by decide +kernel) rfl
theorem kw_992 : Cond.instanceMethod yX6_textFault ∈ z_ws := z_in 992 (by decide +kernel) rfl
theorem kw_993 : Cond.selects RX6 yX6_textFault yX6_textFault ∈ z_ws := z_in 993 (by decide +kernel) rfl
theorem kw_994 : Cond.code yX6_textFault cX6_textFault 1 (some .int) ∈ z_ws := z_in 994 (by decide +kernel) rfl
theorem kw_995 : Cond.methodLink RX6 197 yX6_readsAll ∈ z_ws := z_in 995 (by decide +kernel) rfl
theorem kw_997 : Cond.instanceMethod yX6_readsAll ∈ z_ws := z_in 997 (by decide +kernel) rfl
theorem kw_998 : Cond.code yX6_readsAll cX6_readsAll 4 (some .boolean) ∈ z_ws := z_in 998 (by decide +kernel) rfl
theorem kw_999 : Cond.methodLink RX6 193 yX6_readsOne ∈ z_ws := z_in 999 (by decide +kernel) rfl
theorem kw_1001 : Cond.instanceMethod yX6_readsOne ∈ z_ws := z_in 1001 (by decide +kernel) rfl
theorem kw_1002 : Cond.code yX6_readsOne cX6_readsOne 5 (some .boolean) ∈ z_ws := z_in 1002 (by decide +kernel) rfl
theorem kw_1003 : Cond.methodLink RX6 184 yX6_readsNumber ∈ z_ws := z_in 1003 (by decide +kernel) rfl
theorem kw_1005 : Cond.instanceMethod yX6_readsNumber ∈ z_ws := z_in 1005 (by decide +kernel) rfl
theorem kw_1006 : Cond.code yX6_readsNumber cX6_readsNumber 5 (some .boolean) ∈ z_ws := z_in 1006 (by decide +kernel) rfl
theorem kw_1007 : Cond.methodLink RX6 177 yX6_here ∈ z_ws := z_in 1007 (by decide +kernel) rfl
theorem kw_1009 : Cond.instanceMethod yX6_here ∈ z_ws := z_in 1009 (by decide +kernel) rfl
theorem kw_1010 : Cond.code yX6_here cX6_here 1 (some .int) ∈ z_ws := z_in 1010 (by decide +kernel) rfl
theorem kw_1011 : Cond.methodLink RX6 187 yX6_sign ∈ z_ws := z_in 1011 (by decide +kernel) rfl
theorem kw_1013 : Cond.instanceMethod yX6_sign ∈ z_ws := z_in 1013 (by decide +kernel) rfl
theorem kw_1014 : Cond.code yX6_sign cX6_sign 3 (some .boolean) ∈ z_ws := z_in 1014 (by decide +kernel) rfl
theorem kw_1015 : Cond.methodLink RL 160 yX6_load ∈ z_ws := z_in 1015 (by decide +kernel) rfl
theorem kw_1016 : Cond.instanceMethod yX6_load ∈ z_ws := z_in 1016 (by decide +kernel) rfl
theorem kw_1017 : Cond.selects RX6 yX6_load yX6_load ∈ z_ws := z_in 1017 (by decide +kernel) rfl
theorem kw_1018 : Cond.code yX6_load cX6_load 2 (some .int) ∈ z_ws := z_in 1018 (by decide +kernel) rfl
theorem kw_1019 : Cond.methodLink RL 165 yX6_digest ∈ z_ws := z_in 1019 (by decide +kernel) rfl
theorem kw_1020 : Cond.instanceMethod yX6_digest ∈ z_ws := z_in 1020 (by decide +kernel) rfl
theorem kw_1021 : Cond.selects RX6 yX6_digest yX6_digest ∈ z_ws := z_in 1021 (by decide +kernel) rfl
theorem kw_1022 : Cond.code yX6_digest cX6_digest 2 (some .long) ∈ z_ws := z_in 1022 (by decide +kernel) rfl
theorem kw_1023 : Cond.constantLong RX6 206 (17) ∈ z_ws := z_in 1023 (by decide +kernel) rfl
theorem kw_1024 : Cond.methodLink RX6 208 yX6_note ∈ z_ws := z_in 1024 (by decide +kernel) rfl
theorem kw_1026 : Cond.instanceMethod yX6_note ∈ z_ws := z_in 1026 (by decide +kernel) rfl
theorem kw_1027 : Cond.code yX6_note cX6_note 2 none ∈ z_ws := z_in 1027 (by decide +kernel) rfl
theorem kw_1028 : Cond.constantLong RX6 200 (31) ∈ z_ws := z_in 1028 (by decide +kernel) rfl
end
section
/-! The system's cells lie one behind another from n0 on: place k is the cell n0 + k. A heap of n places is a function from places to entries. -/
section ZC0
def z_up (h : Nat → va_E) (k : Nat) (e : va_E) : Nat → va_E := fun j => if j = k then e else h j
theorem z_up_at (h : Nat → va_E) (k : Nat) (e : va_E) : z_up h k e k = e := if_pos rfl
theorem z_up_ne (h : Nat → va_E) {k j : Nat} (e : va_E) (hj : j ≠ k) : z_up h k e j = h j := if_neg hj
def z_Ab (n0 : Nat) : Nat → Prop := fun q => n0 ≤ q
def z_W (n0 n : Nat) (h : Nat → va_E) : va_W := (List.range n).map (fun k => (n0 + k, h k))
def z_H (D : va_G) (n0 n : Nat) (h : Nat → va_E) (H : Heap) : Prop := H.size = n0 + n ∧ ∀ k : Nat, k < n → va_at D vwCl (n0 + k, h k) H
theorem z_W_get {n0 n k : Nat} {h : Nat → va_E} (hk : k < n) : (z_W n0 n h)[k]? = some (n0 + k, h k) := by simp [z_W, hk]
theorem z_W_lt {n0 n k : Nat} {h : Nat → va_E} {q : Nat × va_E} (hq : (z_W n0 n h)[k]? = some q) : k < n ∧ q = (n0 + k, h k) := by
  have hk : k < n := by
    have := (List.getElem?_eq_some_iff.mp hq).1
    simpa [z_W] using this
  rw [z_W_get hk] at hq
  exact ⟨hk, (Option.some.inj hq).symm⟩
theorem z_H_P {D : va_G} {n0 n : Nat} {h : Nat → va_E} {H : Heap} (hR : z_H D n0 n h H) : va_P D vwCl (z_W n0 n h) H := fun k q hq => by
  obtain ⟨hk, rfl⟩ := z_W_lt hq
  exact hR.2 k hk
theorem z_H_D (n0 n : Nat) (h : Nat → va_E) : va_D (z_Ab n0) (z_W n0 n h) := by
  refine ⟨fun i j p q hi hj hpq => ?_, fun k q hq => ?_⟩
  · obtain ⟨-, rfl⟩ := z_W_lt hi
    obtain ⟨-, rfl⟩ := z_W_lt hj
    simp only at hpq
    omega
  · obtain ⟨-, rfl⟩ := z_W_lt hq
    exact Nat.le_add_right _ _
theorem z_H_ext {D : va_G} {n0 n : Nat} {h h' : Nat → va_E} {H : Heap} (hR : z_H D n0 n h H) (he : ∀ k : Nat, k < n → h' k = h k) : z_H D n0 n h' H := ⟨hR.1, fun k hk => by rw [he k hk]; exact hR.2 k hk⟩
theorem z_H_put {D : va_G} {n0 n k : Nat} {h : Nat → va_E} {e : va_E} {H H1 : Heap} (hR : z_H D n0 n h H) (he : va_at D vwCl (n0 + k, e) H1) (z : H1.size = H.size) (oq : ∀ q : Nat, q ≠ n0 + k → H1[q]? = H[q]?) : z_H D n0 n (z_up h k e) H1 := by
  refine ⟨by rw [z]; exact hR.1, fun j hj => ?_⟩
  by_cases hjk : j = k
  · subst hjk
    rw [z_up_at]
    exact he
  · rw [z_up_ne _ _ hjk]
    exact (hR.2 j hj).kept (oq _ (by simp only; omega))
/-- a new cell -/
theorem z_H_new {D : va_G} {n0 n : Nat} {h : Nat → va_E} {e : va_E} {H H1 : Heap} (hR : z_H D n0 n h H) (he : va_at D vwCl (n0 + n, e) H1) (z : H1.size = H.size + 1) (oq : ∀ q : Nat, q < H.size → H1[q]? = H[q]?) : z_H D n0 (n + 1) (z_up h n e) H1 := by
  refine ⟨by rw [z, hR.1]; rfl, fun j hj => ?_⟩
  by_cases hjk : j = n
  · subst hjk
    rw [z_up_at]
    exact he
  · rw [z_up_ne _ _ hjk]
    exact (hR.2 j (by omega)).kept (oq _ (by simp only; rw [hR.1]; omega))
/-- the array classes that occur: int[], long[], int[][], State[] -/
def z_tys (cI cJ cM cS : ClassId) : List (ClassId × FieldType) := [(cI, .int), (cJ, .long), (cM, .array .int), (cS, .object "MeterTree$State")]
def z_K (D : va_G) (cI cJ cM cS : ClassId) (U : State) : Prop := va_K D vwCl (z_tys cI cJ cM cS) U
theorem z_K_moved {D : va_G} {cI cJ cM cS : ClassId} {u U : State} (hvm : u.vm.Alike U.vm) (h : z_K D cI cJ cM cS u) : z_K D cI cJ cM cS U := va_K.moved hvm h
/-- what is the same all along a method's walk -/
def z_X (D : va_G) (cI cJ cM cS : ClassId) (p : Program) (s : State) (m : MethodId) (args : Array Value) (c : Code) (cc : ByteArray) (nL : Nat) (own : String) : Prop :=
  (p.tables.exec = Jvm.exec ∧ c.code = cc ∧ c.maxLocals = nL ∧ s.vm.findClass own = some m.cls ∧ ∀ w ∈ z_ws, w.before args s = true) ∧ z_K D cI cJ cM cS s
/-- at pc, with these locals, this stack, this heap: the machine comes to Q -/
def z_w (D : va_G) (n0 : Nat) (p : Program) (l : Launch) (e : Env) (R : Room) (s : State) (m : MethodId) (args : Array Value) (below : List Frame) (meth : Method) (c : Code) (nL : Nat) (Q : State → Prop) (cells slots pc : Nat) (L : List (Nat × Value)) (st : List Value) (n : Nat) (h : Nat → va_E) : Prop :=
  ∀ (H : Heap) (locs : List Loc) (ls : Array Slot), lv_has ls nL L → z_H D n0 n h H → va_S (z_Ab n0) s.heap H locs → W p l e R s m args below meth c H locs cells slots Q (F0 m pc ls st)
/-- the facts of the tables that no word hands on: the nest mate's link, int[][] as a class -/
def z_N (U : State) : Prop := va_Nw (.methodLinkNest RX3 75 yX5_isBoundary RX5) U ∧ (Cond.arrayOver (.array .int)).before #[] U = true ∧ va_AO "MeterTree$State" U
theorem z_AO_moved {u U : State} (hvm : u.vm.Alike U.vm) (h : (Cond.arrayOver (.array .int)).before #[] u = true) : (Cond.arrayOver (.array .int)).before #[] U = true := by
  obtain ⟨comp, c, k, h1, h2, h3, h4, h5⟩ := arrayOverA_spec h
  obtain ⟨k', hk', he⟩ := hvm.2.2 _ _ h3
  have hi : (U.vm.classes.findIdx? fun (x : Class) => match x.kind with | .array component _ => component == comp | _ => false) = some c := by
    refine (va_idx_bare U.vm comp).symm.trans ?_
    first | rw [hvm.bare_eq] | rw [← hvm.bare_eq]
    exact (va_idx_bare u.vm comp).trans h2
  have hkind : k'.kind = .array comp (.array .int) := by rw [he]; exact h4
  have f1 : U.vm.findClass (FieldType.array .int).toString = some comp := by rw [hvm.findClass]; exact h1
  have f2 : U.vm.findClass ("[" ++ (FieldType.array .int).toString) = some c := by rw [hvm.findClass]; exact h5
  unfold Cond.before Cond.holds
  simp only [Cond.value]
  rw [f1, Option.bind_some]
  refine (congrArg (fun o : Option Nat => (o.bind (fun c => (U.vm.classes[c]?).map fun (k : Class) => match k.kind with | .array _ ty => decide (ty = FieldType.array .int) && decide (U.vm.findClass ("[" ++ (FieldType.array .int).toString) = some c) | _ => false) == some true)) hi).trans ?_
  simp [hk', hkind, f2]
theorem z_N_warm {s U : State} (hW : s.WarmedH U.vm) (h : z_N s) : z_N U := ⟨va_Nw.warmM hW h.1, z_AO_moved hW.alike h.2.1, h.2.2.moved hW.alike⟩
theorem z_N_call {U U2 : State} (hv : U.vm = U2.vm) (h : z_N U) : z_N U2 := ⟨va_tabs rfl hv h.1, z_AO_moved (by rw [hv]; exact Vm.Alike.refl _) h.2.1, h.2.2.moved (by rw [hv]; exact Vm.Alike.refl _)⟩
end ZC0
end
section
/-! one row an instruction, over z_w -/
section ZR
variable {D : va_G} {cI cJ cM cS : ClassId} {n0 : Nat} {p : Program} {l : Launch} {e : Env} {R : Room} {s : State} {m : MethodId} {args : Array Value} {below : List Frame} {meth : Method} {c : Code} {cc : ByteArray} {nL : Nat} {own : String} {Q : State → Prop} {cells slots pc : Nat} {L L' : List (Nat × Value)} {st : List Value} {n : Nat} {h : Nat → va_E}
theorem zr_iconst (hX : z_X D cI cJ cM cS p s m args c cc nL own) {k : Int} {v : Int32} (hd : decode cc pc = .ok (.iconst k, 1)) (hv : Int32.ofInt k = v) (kk : z_w D n0 p l e R s m args below meth c nL Q cells slots (pc + 1) L (.int v :: st) n h) : z_w D n0 p l e R s m args below meth c nL Q cells slots pc L st n h := fun H locs ls hl hR hS => lv_iconst hX.1.1 hX.1.2.1 hd hv (kk H locs ls hl hR hS)
theorem zr_bipush (hX : z_X D cI cJ cM cS p s m args c cc nL own) {k : Int} {v : Int32} (hd : decode cc pc = .ok (.bipush k, 2)) (hv : (Int8.ofInt k).toInt32 = v) (kk : z_w D n0 p l e R s m args below meth c nL Q cells slots (pc + 2) L (.int v :: st) n h) : z_w D n0 p l e R s m args below meth c nL Q cells slots pc L st n h := fun H locs ls hl hR hS => lv_bipush hX.1.1 hX.1.2.1 hd hv (kk H locs ls hl hR hS)
theorem zr_sipush (hX : z_X D cI cJ cM cS p s m args c cc nL own) {k : Int} {v : Int32} (hd : decode cc pc = .ok (.sipush k, 3)) (hv : (Int16.ofInt k).toInt32 = v) (kk : z_w D n0 p l e R s m args below meth c nL Q cells slots (pc + 3) L (.int v :: st) n h) : z_w D n0 p l e R s m args below meth c nL Q cells slots pc L st n h := fun H locs ls hl hR hS => lv_sipush hX.1.1 hX.1.2.1 hd hv (kk H locs ls hl hR hS)
theorem zr_lconst (hX : z_X D cI cJ cM cS p s m args c cc nL own) {k : Fin 2} {v : Int64} (hd : decode cc pc = .ok (.lconst k, 1)) (hv : Int64.ofNat (k : Nat) = v) (kk : z_w D n0 p l e R s m args below meth c nL Q cells slots (pc + 1) L (.long v :: st) n h) : z_w D n0 p l e R s m args below meth c nL Q cells slots pc L st n h := fun H locs ls hl hR hS => lv_lconst hX.1.1 hX.1.2.1 hd hv (kk H locs ls hl hR hS)
theorem zr_ldc (hX : z_X D cI cJ cM cS p s m args c cc nL own) {i : Nat} {v : Int32} (hd : decode cc pc = .ok (.ldc i, 2)) (hw : Cond.constant own i v ∈ z_ws) (kk : z_w D n0 p l e R s m args below meth c nL Q cells slots (pc + 2) L (.int v :: st) n h) : z_w D n0 p l e R s m args below meth c nL Q cells slots pc L st n h := fun H locs ls hl hR hS => lv_ldc hX.1.1 hX.1.2.1 hX.1.2.2.2.1 (hX.1.2.2.2.2 _ hw) hd (kk H locs ls hl hR hS)
theorem zr_ldcf (hX : z_X D cI cJ cM cS p s m args c cc nL own) {i : Nat} {v : UInt32} (hd : decode cc pc = .ok (.ldc i, 2)) (hw : Cond.constantFloat own i v ∈ z_ws) (kk : z_w D n0 p l e R s m args below meth c nL Q cells slots (pc + 2) L (.float v :: st) n h) : z_w D n0 p l e R s m args below meth c nL Q cells slots pc L st n h := fun H locs ls hl hR hS => lv_ldcf hX.1.1 hX.1.2.1 hX.1.2.2.2.1 (hX.1.2.2.2.2 _ hw) hd (kk H locs ls hl hR hS)
theorem zr_ldc2 (hX : z_X D cI cJ cM cS p s m args c cc nL own) {i : Nat} {v : Int64} (hd : decode cc pc = .ok (.ldc2_w i, 3)) (hw : Cond.constantLong own i v ∈ z_ws) (kk : z_w D n0 p l e R s m args below meth c nL Q cells slots (pc + 3) L (.long v :: st) n h) : z_w D n0 p l e R s m args below meth c nL Q cells slots pc L st n h := fun H locs ls hl hR hS => lv_ldc2 hX.1.1 hX.1.2.1 hX.1.2.2.2.1 (hX.1.2.2.2.2 _ hw) hd (kk H locs ls hl hR hS)
theorem zr_fconst0 (hX : z_X D cI cJ cM cS p s m args c cc nL own) (hd : decode cc pc = .ok (.fconst 0, 1)) (kk : z_w D n0 p l e R s m args below meth c nL Q cells slots (pc + 1) L (.float FP.fconst0 :: st) n h) : z_w D n0 p l e R s m args below meth c nL Q cells slots pc L st n h := fun H locs ls hl hR hS => lv_fconst0 hX.1.1 hX.1.2.1 hd (kk H locs ls hl hR hS)
theorem zr_fconst1 (hX : z_X D cI cJ cM cS p s m args c cc nL own) (hd : decode cc pc = .ok (.fconst 1, 1)) (kk : z_w D n0 p l e R s m args below meth c nL Q cells slots (pc + 1) L (.float FP.fconst1 :: st) n h) : z_w D n0 p l e R s m args below meth c nL Q cells slots pc L st n h := fun H locs ls hl hR hS => lv_fconst1 hX.1.1 hX.1.2.1 hd (kk H locs ls hl hR hS)
theorem zr_fconst2 (hX : z_X D cI cJ cM cS p s m args c cc nL own) (hd : decode cc pc = .ok (.fconst 2, 1)) (kk : z_w D n0 p l e R s m args below meth c nL Q cells slots (pc + 1) L (.float FP.fconst2 :: st) n h) : z_w D n0 p l e R s m args below meth c nL Q cells slots pc L st n h := fun H locs ls hl hR hS => lv_fconst2 hX.1.1 hX.1.2.1 hd (kk H locs ls hl hR hS)
theorem zr_iload_n (hX : z_X D cI cJ cM cS p s m args c cc nL own) {k : Fin 4} {i : Nat} (j : Nat) {x : Int32} (hd : decode cc pc = .ok (.iload_n k, 1)) (hi : (k : Nat) = i) (hL : L[j]? = some (i, .int x)) (kk : z_w D n0 p l e R s m args below meth c nL Q cells slots (pc + 1) L (.int x :: st) n h) : z_w D n0 p l e R s m args below meth c nL Q cells slots pc L st n h := fun H locs ls hl hR hS => lv_iload_n hX.1.1 hX.1.2.1 hd hi (lv_at hl j hL) (kk H locs ls hl hR hS)
theorem zr_iload (hX : z_X D cI cJ cM cS p s m args c cc nL own) {i : Nat} (j : Nat) {x : Int32} (hd : decode cc pc = .ok (.iload i, 2)) (hL : L[j]? = some (i, .int x)) (kk : z_w D n0 p l e R s m args below meth c nL Q cells slots (pc + 2) L (.int x :: st) n h) : z_w D n0 p l e R s m args below meth c nL Q cells slots pc L st n h := fun H locs ls hl hR hS => lv_iload hX.1.1 hX.1.2.1 hd (lv_at hl j hL) (kk H locs ls hl hR hS)
theorem zr_istore_n (hX : z_X D cI cJ cM cS p s m args c cc nL own) {k : Fin 4} {i : Nat} {x : Int32} (hd : decode cc pc = .ok (.istore_n k, 1)) (hi : (k : Nat) = i) (hn : i < nL) (hF : (i, Value.int x) :: L.filter (fun q => !(q.1 == i) && !(q.1 + 1 == i && q.2.category == 2)) = L') (kk : z_w D n0 p l e R s m args below meth c nL Q cells slots (pc + 1) L' st n h) : z_w D n0 p l e R s m args below meth c nL Q cells slots pc L (.int x :: st) n h := fun H locs ls hl hR hS => lv_istore_n hX.1.1 hX.1.2.1 hd hi hl hn hF (fun ls hl => kk H locs ls hl hR hS)
theorem zr_istore (hX : z_X D cI cJ cM cS p s m args c cc nL own) {i : Nat} {x : Int32} (hd : decode cc pc = .ok (.istore i, 2)) (hn : i < nL) (hF : (i, Value.int x) :: L.filter (fun q => !(q.1 == i) && !(q.1 + 1 == i && q.2.category == 2)) = L') (kk : z_w D n0 p l e R s m args below meth c nL Q cells slots (pc + 2) L' st n h) : z_w D n0 p l e R s m args below meth c nL Q cells slots pc L (.int x :: st) n h := fun H locs ls hl hR hS => lv_istore hX.1.1 hX.1.2.1 hd hl hn hF (fun ls hl => kk H locs ls hl hR hS)
theorem zr_lload_n (hX : z_X D cI cJ cM cS p s m args c cc nL own) {k : Fin 4} {i : Nat} (j : Nat) {x : Int64} (hd : decode cc pc = .ok (.lload_n k, 1)) (hi : (k : Nat) = i) (hL : L[j]? = some (i, .long x)) (kk : z_w D n0 p l e R s m args below meth c nL Q cells slots (pc + 1) L (.long x :: st) n h) : z_w D n0 p l e R s m args below meth c nL Q cells slots pc L st n h := fun H locs ls hl hR hS => lv_lload_n hX.1.1 hX.1.2.1 hd hi (lv_at hl j hL) (kk H locs ls hl hR hS)
theorem zr_lload (hX : z_X D cI cJ cM cS p s m args c cc nL own) {i : Nat} (j : Nat) {x : Int64} (hd : decode cc pc = .ok (.lload i, 2)) (hL : L[j]? = some (i, .long x)) (kk : z_w D n0 p l e R s m args below meth c nL Q cells slots (pc + 2) L (.long x :: st) n h) : z_w D n0 p l e R s m args below meth c nL Q cells slots pc L st n h := fun H locs ls hl hR hS => lv_lload hX.1.1 hX.1.2.1 hd (lv_at hl j hL) (kk H locs ls hl hR hS)
theorem zr_lstore_n (hX : z_X D cI cJ cM cS p s m args c cc nL own) {k : Fin 4} {i : Nat} {x : Int64} (hd : decode cc pc = .ok (.lstore_n k, 1)) (hi : (k : Nat) = i) (hn : i + 1 < nL) (hF : (i, Value.long x) :: L.filter (fun q => !(q.1 == i) && (!(q.1 == i + 1) && !(q.1 + 1 == i && q.2.category == 2))) = L') (kk : z_w D n0 p l e R s m args below meth c nL Q cells slots (pc + 1) L' st n h) : z_w D n0 p l e R s m args below meth c nL Q cells slots pc L (.long x :: st) n h := fun H locs ls hl hR hS => lv_lstore_n hX.1.1 hX.1.2.1 hd hi hl hn hF (fun ls hl => kk H locs ls hl hR hS)
theorem zr_lstore (hX : z_X D cI cJ cM cS p s m args c cc nL own) {i : Nat} {x : Int64} (hd : decode cc pc = .ok (.lstore i, 2)) (hn : i + 1 < nL) (hF : (i, Value.long x) :: L.filter (fun q => !(q.1 == i) && (!(q.1 == i + 1) && !(q.1 + 1 == i && q.2.category == 2))) = L') (kk : z_w D n0 p l e R s m args below meth c nL Q cells slots (pc + 2) L' st n h) : z_w D n0 p l e R s m args below meth c nL Q cells slots pc L (.long x :: st) n h := fun H locs ls hl hR hS => lv_lstore hX.1.1 hX.1.2.1 hd hl hn hF (fun ls hl => kk H locs ls hl hR hS)
theorem zr_aload_n (hX : z_X D cI cJ cM cS p s m args c cc nL own) {k : Fin 4} {i : Nat} (j : Nat) {x : Nat} (hd : decode cc pc = .ok (.aload_n k, 1)) (hi : (k : Nat) = i) (hL : L[j]? = some (i, .ref x)) (kk : z_w D n0 p l e R s m args below meth c nL Q cells slots (pc + 1) L (.ref x :: st) n h) : z_w D n0 p l e R s m args below meth c nL Q cells slots pc L st n h := fun H locs ls hl hR hS => lv_aload_n hX.1.1 hX.1.2.1 hd hi (lv_at hl j hL) (kk H locs ls hl hR hS)
theorem zr_aload (hX : z_X D cI cJ cM cS p s m args c cc nL own) {i : Nat} (j : Nat) {x : Nat} (hd : decode cc pc = .ok (.aload i, 2)) (hL : L[j]? = some (i, .ref x)) (kk : z_w D n0 p l e R s m args below meth c nL Q cells slots (pc + 2) L (.ref x :: st) n h) : z_w D n0 p l e R s m args below meth c nL Q cells slots pc L st n h := fun H locs ls hl hR hS => lv_aload hX.1.1 hX.1.2.1 hd (lv_at hl j hL) (kk H locs ls hl hR hS)
theorem zr_astore_n (hX : z_X D cI cJ cM cS p s m args c cc nL own) {k : Fin 4} {i : Nat} {x : Nat} (hd : decode cc pc = .ok (.astore_n k, 1)) (hi : (k : Nat) = i) (hn : i < nL) (hF : (i, Value.ref x) :: L.filter (fun q => !(q.1 == i) && !(q.1 + 1 == i && q.2.category == 2)) = L') (kk : z_w D n0 p l e R s m args below meth c nL Q cells slots (pc + 1) L' st n h) : z_w D n0 p l e R s m args below meth c nL Q cells slots pc L (.ref x :: st) n h := fun H locs ls hl hR hS => lv_astore_n hX.1.1 hX.1.2.1 hd hi hl hn hF (fun ls hl => kk H locs ls hl hR hS)
theorem zr_astore (hX : z_X D cI cJ cM cS p s m args c cc nL own) {i : Nat} {x : Nat} (hd : decode cc pc = .ok (.astore i, 2)) (hn : i < nL) (hF : (i, Value.ref x) :: L.filter (fun q => !(q.1 == i) && !(q.1 + 1 == i && q.2.category == 2)) = L') (kk : z_w D n0 p l e R s m args below meth c nL Q cells slots (pc + 2) L' st n h) : z_w D n0 p l e R s m args below meth c nL Q cells slots pc L (.ref x :: st) n h := fun H locs ls hl hR hS => lv_astore hX.1.1 hX.1.2.1 hd hl hn hF (fun ls hl => kk H locs ls hl hR hS)
theorem zr_fload_n (hX : z_X D cI cJ cM cS p s m args c cc nL own) {k : Fin 4} {i : Nat} (j : Nat) {x : UInt32} (hd : decode cc pc = .ok (.fload_n k, 1)) (hi : (k : Nat) = i) (hL : L[j]? = some (i, .float x)) (kk : z_w D n0 p l e R s m args below meth c nL Q cells slots (pc + 1) L (.float x :: st) n h) : z_w D n0 p l e R s m args below meth c nL Q cells slots pc L st n h := fun H locs ls hl hR hS => lv_fload_n hX.1.1 hX.1.2.1 hd hi (lv_at hl j hL) (kk H locs ls hl hR hS)
theorem zr_fload (hX : z_X D cI cJ cM cS p s m args c cc nL own) {i : Nat} (j : Nat) {x : UInt32} (hd : decode cc pc = .ok (.fload i, 2)) (hL : L[j]? = some (i, .float x)) (kk : z_w D n0 p l e R s m args below meth c nL Q cells slots (pc + 2) L (.float x :: st) n h) : z_w D n0 p l e R s m args below meth c nL Q cells slots pc L st n h := fun H locs ls hl hR hS => lv_fload hX.1.1 hX.1.2.1 hd (lv_at hl j hL) (kk H locs ls hl hR hS)
theorem zr_fstore_n (hX : z_X D cI cJ cM cS p s m args c cc nL own) {k : Fin 4} {i : Nat} {x : UInt32} (hd : decode cc pc = .ok (.fstore_n k, 1)) (hi : (k : Nat) = i) (hn : i < nL) (hF : (i, Value.float x) :: L.filter (fun q => !(q.1 == i) && !(q.1 + 1 == i && q.2.category == 2)) = L') (kk : z_w D n0 p l e R s m args below meth c nL Q cells slots (pc + 1) L' st n h) : z_w D n0 p l e R s m args below meth c nL Q cells slots pc L (.float x :: st) n h := fun H locs ls hl hR hS => lv_fstore_n hX.1.1 hX.1.2.1 hd hi hl hn hF (fun ls hl => kk H locs ls hl hR hS)
theorem zr_fstore (hX : z_X D cI cJ cM cS p s m args c cc nL own) {i : Nat} {x : UInt32} (hd : decode cc pc = .ok (.fstore i, 2)) (hn : i < nL) (hF : (i, Value.float x) :: L.filter (fun q => !(q.1 == i) && !(q.1 + 1 == i && q.2.category == 2)) = L') (kk : z_w D n0 p l e R s m args below meth c nL Q cells slots (pc + 2) L' st n h) : z_w D n0 p l e R s m args below meth c nL Q cells slots pc L (.float x :: st) n h := fun H locs ls hl hR hS => lv_fstore hX.1.1 hX.1.2.1 hd hl hn hF (fun ls hl => kk H locs ls hl hR hS)
theorem zr_iinc (hX : z_X D cI cJ cM cS p s m args c cc nL own) {i : Nat} (j : Nat) {k : Int} {x v : Int32} (hd : decode cc pc = .ok (.iinc i k, 3)) (hL : L[j]? = some (i, .int x)) (hv : x + Int32.ofInt k = v) (hn : i < nL) (hF : (i, Value.int v) :: L.filter (fun q => !(q.1 == i) && !(q.1 + 1 == i && q.2.category == 2)) = L') (kk : z_w D n0 p l e R s m args below meth c nL Q cells slots (pc + 3) L' st n h) : z_w D n0 p l e R s m args below meth c nL Q cells slots pc L st n h := fun H locs ls hl hR hS => lv_iinc hX.1.1 hX.1.2.1 hd hl hL hv hn hF (fun ls hl => kk H locs ls hl hR hS)
theorem zr_iadd (hX : z_X D cI cJ cM cS p s m args c cc nL own) {x y : Int32} (hd : decode cc pc = .ok (.iadd, 1)) (kk : z_w D n0 p l e R s m args below meth c nL Q cells slots (pc + 1) L (.int (x + y) :: st) n h) : z_w D n0 p l e R s m args below meth c nL Q cells slots pc L (.int y :: .int x :: st) n h := fun H locs ls hl hR hS => lv_iadd hX.1.1 hX.1.2.1 hd (kk H locs ls hl hR hS)
theorem zr_isub (hX : z_X D cI cJ cM cS p s m args c cc nL own) {x y : Int32} (hd : decode cc pc = .ok (.isub, 1)) (kk : z_w D n0 p l e R s m args below meth c nL Q cells slots (pc + 1) L (.int (x - y) :: st) n h) : z_w D n0 p l e R s m args below meth c nL Q cells slots pc L (.int y :: .int x :: st) n h := fun H locs ls hl hR hS => lv_isub hX.1.1 hX.1.2.1 hd (kk H locs ls hl hR hS)
theorem zr_imul (hX : z_X D cI cJ cM cS p s m args c cc nL own) {x y : Int32} (hd : decode cc pc = .ok (.imul, 1)) (kk : z_w D n0 p l e R s m args below meth c nL Q cells slots (pc + 1) L (.int (x * y) :: st) n h) : z_w D n0 p l e R s m args below meth c nL Q cells slots pc L (.int y :: .int x :: st) n h := fun H locs ls hl hR hS => lv_imul hX.1.1 hX.1.2.1 hd (kk H locs ls hl hR hS)
theorem zr_ladd (hX : z_X D cI cJ cM cS p s m args c cc nL own) {x y : Int64} (hd : decode cc pc = .ok (.ladd, 1)) (kk : z_w D n0 p l e R s m args below meth c nL Q cells slots (pc + 1) L (.long (x + y) :: st) n h) : z_w D n0 p l e R s m args below meth c nL Q cells slots pc L (.long y :: .long x :: st) n h := fun H locs ls hl hR hS => lv_ladd hX.1.1 hX.1.2.1 hd (kk H locs ls hl hR hS)
theorem zr_lsub (hX : z_X D cI cJ cM cS p s m args c cc nL own) {x y : Int64} (hd : decode cc pc = .ok (.lsub, 1)) (kk : z_w D n0 p l e R s m args below meth c nL Q cells slots (pc + 1) L (.long (x - y) :: st) n h) : z_w D n0 p l e R s m args below meth c nL Q cells slots pc L (.long y :: .long x :: st) n h := fun H locs ls hl hR hS => lv_lsub hX.1.1 hX.1.2.1 hd (kk H locs ls hl hR hS)
theorem zr_lmul (hX : z_X D cI cJ cM cS p s m args c cc nL own) {x y : Int64} (hd : decode cc pc = .ok (.lmul, 1)) (kk : z_w D n0 p l e R s m args below meth c nL Q cells slots (pc + 1) L (.long (x * y) :: st) n h) : z_w D n0 p l e R s m args below meth c nL Q cells slots pc L (.long y :: .long x :: st) n h := fun H locs ls hl hR hS => lv_lmul hX.1.1 hX.1.2.1 hd (kk H locs ls hl hR hS)
theorem zr_iand (hX : z_X D cI cJ cM cS p s m args c cc nL own) {x y : Int32} (hd : decode cc pc = .ok (.iand, 1)) (kk : z_w D n0 p l e R s m args below meth c nL Q cells slots (pc + 1) L (.int (x &&& y) :: st) n h) : z_w D n0 p l e R s m args below meth c nL Q cells slots pc L (.int y :: .int x :: st) n h := fun H locs ls hl hR hS => lv_iand hX.1.1 hX.1.2.1 hd (kk H locs ls hl hR hS)
theorem zr_ior (hX : z_X D cI cJ cM cS p s m args c cc nL own) {x y : Int32} (hd : decode cc pc = .ok (.ior, 1)) (kk : z_w D n0 p l e R s m args below meth c nL Q cells slots (pc + 1) L (.int (x ||| y) :: st) n h) : z_w D n0 p l e R s m args below meth c nL Q cells slots pc L (.int y :: .int x :: st) n h := fun H locs ls hl hR hS => lv_ior hX.1.1 hX.1.2.1 hd (kk H locs ls hl hR hS)
theorem zr_idiv (hX : z_X D cI cJ cM cS p s m args c cc nL own) {x y : Int32} (hd : decode cc pc = .ok (.idiv, 1)) (hne : ¬ y = 0) (kk : z_w D n0 p l e R s m args below meth c nL Q cells slots (pc + 1) L (.int (x / y) :: st) n h) : z_w D n0 p l e R s m args below meth c nL Q cells slots pc L (.int y :: .int x :: st) n h := fun H locs ls hl hR hS => lv_idiv hX.1.1 hX.1.2.1 hd hne (kk H locs ls hl hR hS)
theorem zr_irem (hX : z_X D cI cJ cM cS p s m args c cc nL own) {x y : Int32} (hd : decode cc pc = .ok (.irem, 1)) (hne : ¬ y = 0) (kk : z_w D n0 p l e R s m args below meth c nL Q cells slots (pc + 1) L (.int (x - x / y * y) :: st) n h) : z_w D n0 p l e R s m args below meth c nL Q cells slots pc L (.int y :: .int x :: st) n h := fun H locs ls hl hR hS => lv_irem hX.1.1 hX.1.2.1 hd hne (kk H locs ls hl hR hS)
theorem zr_ldiv (hX : z_X D cI cJ cM cS p s m args c cc nL own) {x y : Int64} (hd : decode cc pc = .ok (.ldiv, 1)) (hne : ¬ y = 0) (kk : z_w D n0 p l e R s m args below meth c nL Q cells slots (pc + 1) L (.long (x / y) :: st) n h) : z_w D n0 p l e R s m args below meth c nL Q cells slots pc L (.long y :: .long x :: st) n h := fun H locs ls hl hR hS => lv_ldiv hX.1.1 hX.1.2.1 hd hne (kk H locs ls hl hR hS)
theorem zr_lrem (hX : z_X D cI cJ cM cS p s m args c cc nL own) {x y : Int64} (hd : decode cc pc = .ok (.lrem, 1)) (hne : ¬ y = 0) (kk : z_w D n0 p l e R s m args below meth c nL Q cells slots (pc + 1) L (.long (x - x / y * y) :: st) n h) : z_w D n0 p l e R s m args below meth c nL Q cells slots pc L (.long y :: .long x :: st) n h := fun H locs ls hl hR hS => lv_lrem hX.1.1 hX.1.2.1 hd hne (kk H locs ls hl hR hS)
theorem zr_i2l (hX : z_X D cI cJ cM cS p s m args c cc nL own) {x : Int32} (hd : decode cc pc = .ok (.i2l, 1)) (kk : z_w D n0 p l e R s m args below meth c nL Q cells slots (pc + 1) L (.long x.toInt64 :: st) n h) : z_w D n0 p l e R s m args below meth c nL Q cells slots pc L (.int x :: st) n h := fun H locs ls hl hR hS => lv_i2l hX.1.1 hX.1.2.1 hd rfl (kk H locs ls hl hR hS)
theorem zr_l2i (hX : z_X D cI cJ cM cS p s m args c cc nL own) {x : Int64} (hd : decode cc pc = .ok (.l2i, 1)) (kk : z_w D n0 p l e R s m args below meth c nL Q cells slots (pc + 1) L (.int x.toInt32 :: st) n h) : z_w D n0 p l e R s m args below meth c nL Q cells slots pc L (.long x :: st) n h := fun H locs ls hl hR hS => lv_l2i hX.1.1 hX.1.2.1 hd rfl (kk H locs ls hl hR hS)
theorem zr_lcmp (hX : z_X D cI cJ cM cS p s m args c cc nL own) {x y : Int64} (hd : decode cc pc = .ok (.lcmp, 1)) (kk : z_w D n0 p l e R s m args below meth c nL Q cells slots (pc + 1) L (.int (lg_cmp x y) :: st) n h) : z_w D n0 p l e R s m args below meth c nL Q cells slots pc L (.long y :: .long x :: st) n h := fun H locs ls hl hR hS => W.lcmp hX.1.1 hX.1.2.1 hd (kk H locs ls hl hR hS)
theorem zr_dup (hX : z_X D cI cJ cM cS p s m args c cc nL own) {v : Value} (hd : decode cc pc = .ok (.dup, 1)) (hv : v.category = 1) (kk : z_w D n0 p l e R s m args below meth c nL Q cells slots (pc + 1) L (v :: v :: st) n h) : z_w D n0 p l e R s m args below meth c nL Q cells slots pc L (v :: st) n h := fun H locs ls hl hR hS => lv_dup hX.1.1 hX.1.2.1 hd hv (kk H locs ls hl hR hS)
theorem zr_dup2 (hX : z_X D cI cJ cM cS p s m args c cc nL own) {v w : Value} (hd : decode cc pc = .ok (.dup2, 1)) (hv : v.category = 1) (hw : w.category = 1) (kk : z_w D n0 p l e R s m args below meth c nL Q cells slots (pc + 1) L (v :: w :: v :: w :: st) n h) : z_w D n0 p l e R s m args below meth c nL Q cells slots pc L (v :: w :: st) n h := fun H locs ls hl hR hS => lv_dup2_11 hX.1.1 hX.1.2.1 hd hv hw (kk H locs ls hl hR hS)
theorem zr_if_eq (hX : z_X D cI cJ cM cS p s m args c cc nL own) {x : Int32} {off : Int} {tgt : Nat} (hd : decode cc pc = .ok (.ifCond .eq off, 3)) (ht : (pc : Int) + off = (tgt : Int)) (kt : x = 0 → z_w D n0 p l e R s m args below meth c nL Q cells slots tgt L st n h) (kf : ¬ x = 0 → z_w D n0 p l e R s m args below meth c nL Q cells slots (pc + 3) L st n h) : z_w D n0 p l e R s m args below meth c nL Q cells slots pc L (.int x :: st) n h := fun H locs ls hl hR hS => lv_if_eq hX.1.1 hX.1.2.1 hd ht (fun q => kt q H locs ls hl hR hS) (fun q => kf q H locs ls hl hR hS)
theorem zr_if_ne (hX : z_X D cI cJ cM cS p s m args c cc nL own) {x : Int32} {off : Int} {tgt : Nat} (hd : decode cc pc = .ok (.ifCond .ne off, 3)) (ht : (pc : Int) + off = (tgt : Int)) (kt : ¬ x = 0 → z_w D n0 p l e R s m args below meth c nL Q cells slots tgt L st n h) (kf : x = 0 → z_w D n0 p l e R s m args below meth c nL Q cells slots (pc + 3) L st n h) : z_w D n0 p l e R s m args below meth c nL Q cells slots pc L (.int x :: st) n h := fun H locs ls hl hR hS => lv_if_ne hX.1.1 hX.1.2.1 hd ht (fun q => kt q H locs ls hl hR hS) (fun q => kf q H locs ls hl hR hS)
theorem zr_if_lt (hX : z_X D cI cJ cM cS p s m args c cc nL own) {x : Int32} {off : Int} {tgt : Nat} (hd : decode cc pc = .ok (.ifCond .lt off, 3)) (ht : (pc : Int) + off = (tgt : Int)) (kt : x < 0 → z_w D n0 p l e R s m args below meth c nL Q cells slots tgt L st n h) (kf : ¬ x < 0 → z_w D n0 p l e R s m args below meth c nL Q cells slots (pc + 3) L st n h) : z_w D n0 p l e R s m args below meth c nL Q cells slots pc L (.int x :: st) n h := fun H locs ls hl hR hS => lv_if_lt hX.1.1 hX.1.2.1 hd ht (fun q => kt q H locs ls hl hR hS) (fun q => kf q H locs ls hl hR hS)
theorem zr_if_ge (hX : z_X D cI cJ cM cS p s m args c cc nL own) {x : Int32} {off : Int} {tgt : Nat} (hd : decode cc pc = .ok (.ifCond .ge off, 3)) (ht : (pc : Int) + off = (tgt : Int)) (kt : 0 ≤ x → z_w D n0 p l e R s m args below meth c nL Q cells slots tgt L st n h) (kf : ¬ 0 ≤ x → z_w D n0 p l e R s m args below meth c nL Q cells slots (pc + 3) L st n h) : z_w D n0 p l e R s m args below meth c nL Q cells slots pc L (.int x :: st) n h := fun H locs ls hl hR hS => lv_if_ge hX.1.1 hX.1.2.1 hd ht (fun q => kt q H locs ls hl hR hS) (fun q => kf q H locs ls hl hR hS)
theorem zr_if_gt (hX : z_X D cI cJ cM cS p s m args c cc nL own) {x : Int32} {off : Int} {tgt : Nat} (hd : decode cc pc = .ok (.ifCond .gt off, 3)) (ht : (pc : Int) + off = (tgt : Int)) (kt : 0 < x → z_w D n0 p l e R s m args below meth c nL Q cells slots tgt L st n h) (kf : ¬ 0 < x → z_w D n0 p l e R s m args below meth c nL Q cells slots (pc + 3) L st n h) : z_w D n0 p l e R s m args below meth c nL Q cells slots pc L (.int x :: st) n h := fun H locs ls hl hR hS => lv_if_gt hX.1.1 hX.1.2.1 hd ht (fun q => kt q H locs ls hl hR hS) (fun q => kf q H locs ls hl hR hS)
theorem zr_if_le (hX : z_X D cI cJ cM cS p s m args c cc nL own) {x : Int32} {off : Int} {tgt : Nat} (hd : decode cc pc = .ok (.ifCond .le off, 3)) (ht : (pc : Int) + off = (tgt : Int)) (kt : x ≤ 0 → z_w D n0 p l e R s m args below meth c nL Q cells slots tgt L st n h) (kf : ¬ x ≤ 0 → z_w D n0 p l e R s m args below meth c nL Q cells slots (pc + 3) L st n h) : z_w D n0 p l e R s m args below meth c nL Q cells slots pc L (.int x :: st) n h := fun H locs ls hl hR hS => lv_if_le hX.1.1 hX.1.2.1 hd ht (fun q => kt q H locs ls hl hR hS) (fun q => kf q H locs ls hl hR hS)
theorem zr_icmp_eq (hX : z_X D cI cJ cM cS p s m args c cc nL own) {x y : Int32} {off : Int} {tgt : Nat} (hd : decode cc pc = .ok (.if_icmp .eq off, 3)) (ht : (pc : Int) + off = (tgt : Int)) (kt : x = y → z_w D n0 p l e R s m args below meth c nL Q cells slots tgt L st n h) (kf : ¬ x = y → z_w D n0 p l e R s m args below meth c nL Q cells slots (pc + 3) L st n h) : z_w D n0 p l e R s m args below meth c nL Q cells slots pc L (.int y :: .int x :: st) n h := fun H locs ls hl hR hS => lv_icmp_eq hX.1.1 hX.1.2.1 hd ht (fun q => kt q H locs ls hl hR hS) (fun q => kf q H locs ls hl hR hS)
theorem zr_icmp_ne (hX : z_X D cI cJ cM cS p s m args c cc nL own) {x y : Int32} {off : Int} {tgt : Nat} (hd : decode cc pc = .ok (.if_icmp .ne off, 3)) (ht : (pc : Int) + off = (tgt : Int)) (kt : ¬ x = y → z_w D n0 p l e R s m args below meth c nL Q cells slots tgt L st n h) (kf : x = y → z_w D n0 p l e R s m args below meth c nL Q cells slots (pc + 3) L st n h) : z_w D n0 p l e R s m args below meth c nL Q cells slots pc L (.int y :: .int x :: st) n h := fun H locs ls hl hR hS => lv_icmp_ne hX.1.1 hX.1.2.1 hd ht (fun q => kt q H locs ls hl hR hS) (fun q => kf q H locs ls hl hR hS)
theorem zr_icmp_lt (hX : z_X D cI cJ cM cS p s m args c cc nL own) {x y : Int32} {off : Int} {tgt : Nat} (hd : decode cc pc = .ok (.if_icmp .lt off, 3)) (ht : (pc : Int) + off = (tgt : Int)) (kt : x < y → z_w D n0 p l e R s m args below meth c nL Q cells slots tgt L st n h) (kf : ¬ x < y → z_w D n0 p l e R s m args below meth c nL Q cells slots (pc + 3) L st n h) : z_w D n0 p l e R s m args below meth c nL Q cells slots pc L (.int y :: .int x :: st) n h := fun H locs ls hl hR hS => lv_icmp_lt hX.1.1 hX.1.2.1 hd ht (fun q => kt q H locs ls hl hR hS) (fun q => kf q H locs ls hl hR hS)
theorem zr_icmp_ge (hX : z_X D cI cJ cM cS p s m args c cc nL own) {x y : Int32} {off : Int} {tgt : Nat} (hd : decode cc pc = .ok (.if_icmp .ge off, 3)) (ht : (pc : Int) + off = (tgt : Int)) (kt : y ≤ x → z_w D n0 p l e R s m args below meth c nL Q cells slots tgt L st n h) (kf : ¬ y ≤ x → z_w D n0 p l e R s m args below meth c nL Q cells slots (pc + 3) L st n h) : z_w D n0 p l e R s m args below meth c nL Q cells slots pc L (.int y :: .int x :: st) n h := fun H locs ls hl hR hS => lv_icmp_ge hX.1.1 hX.1.2.1 hd ht (fun q => kt q H locs ls hl hR hS) (fun q => kf q H locs ls hl hR hS)
theorem zr_icmp_gt (hX : z_X D cI cJ cM cS p s m args c cc nL own) {x y : Int32} {off : Int} {tgt : Nat} (hd : decode cc pc = .ok (.if_icmp .gt off, 3)) (ht : (pc : Int) + off = (tgt : Int)) (kt : y < x → z_w D n0 p l e R s m args below meth c nL Q cells slots tgt L st n h) (kf : ¬ y < x → z_w D n0 p l e R s m args below meth c nL Q cells slots (pc + 3) L st n h) : z_w D n0 p l e R s m args below meth c nL Q cells slots pc L (.int y :: .int x :: st) n h := fun H locs ls hl hR hS => lv_icmp_gt hX.1.1 hX.1.2.1 hd ht (fun q => kt q H locs ls hl hR hS) (fun q => kf q H locs ls hl hR hS)
theorem zr_icmp_le (hX : z_X D cI cJ cM cS p s m args c cc nL own) {x y : Int32} {off : Int} {tgt : Nat} (hd : decode cc pc = .ok (.if_icmp .le off, 3)) (ht : (pc : Int) + off = (tgt : Int)) (kt : x ≤ y → z_w D n0 p l e R s m args below meth c nL Q cells slots tgt L st n h) (kf : ¬ x ≤ y → z_w D n0 p l e R s m args below meth c nL Q cells slots (pc + 3) L st n h) : z_w D n0 p l e R s m args below meth c nL Q cells slots pc L (.int y :: .int x :: st) n h := fun H locs ls hl hR hS => lv_icmp_le hX.1.1 hX.1.2.1 hd ht (fun q => kt q H locs ls hl hR hS) (fun q => kf q H locs ls hl hR hS)
theorem zr_goto (hX : z_X D cI cJ cM cS p s m args c cc nL own) {off : Int} {tgt : Nat} (hd : decode cc pc = .ok (.goto off, 3)) (ht : (pc : Int) + off = (tgt : Int)) (kk : z_w D n0 p l e R s m args below meth c nL Q cells slots tgt L st n h) : z_w D n0 p l e R s m args below meth c nL Q cells slots pc L st n h := fun H locs ls hl hR hS => lv_goto hX.1.1 hX.1.2.1 hd ht (kk H locs ls hl hR hS)
theorem zr_ineg (hX : z_X D cI cJ cM cS p s m args c cc nL own) {x : Int32} (hd : decode cc pc = .ok (.ineg, 1)) (kk : z_w D n0 p l e R s m args below meth c nL Q cells slots (pc + 1) L (.int (-x) :: st) n h) : z_w D n0 p l e R s m args below meth c nL Q cells slots pc L (.int x :: st) n h := fun H locs ls hl hR hS => lv_ineg hX.1.1 hX.1.2.1 hd (kk H locs ls hl hR hS)
theorem zr_lneg (hX : z_X D cI cJ cM cS p s m args c cc nL own) {x : Int64} (hd : decode cc pc = .ok (.lneg, 1)) (kk : z_w D n0 p l e R s m args below meth c nL Q cells slots (pc + 1) L (.long (-x) :: st) n h) : z_w D n0 p l e R s m args below meth c nL Q cells slots pc L (.long x :: st) n h := fun H locs ls hl hR hS => lv_lneg hX.1.1 hX.1.2.1 hd (kk H locs ls hl hR hS)
theorem zr_ishl (hX : z_X D cI cJ cM cS p s m args c cc nL own) {x y : Int32} (hd : decode cc pc = .ok (.ishl, 1)) (kk : z_w D n0 p l e R s m args below meth c nL Q cells slots (pc + 1) L (.int (x <<< (y &&& 31)) :: st) n h) : z_w D n0 p l e R s m args below meth c nL Q cells slots pc L (.int y :: .int x :: st) n h := fun H locs ls hl hR hS => lv_ishl hX.1.1 hX.1.2.1 hd (kk H locs ls hl hR hS)
theorem zr_fneg (hX : z_X D cI cJ cM cS p s m args c cc nL own) {x : UInt32} (hd : decode cc pc = .ok (.fneg, 1)) (kk : z_w D n0 p l e R s m args below meth c nL Q cells slots (pc + 1) L (.float (FP.fneg x) :: st) n h) : z_w D n0 p l e R s m args below meth c nL Q cells slots pc L (.float x :: st) n h := fun H locs ls hl hR hS => lv_fneg hX.1.1 hX.1.2.1 hd (kk H locs ls hl hR hS)
theorem zr_fsub (hX : z_X D cI cJ cM cS p s m args c cc nL own) {x y : UInt32} (hd : decode cc pc = .ok (.fsub, 1)) (hne : vf_n32 (FP.fsub x y)) (kk : z_w D n0 p l e R s m args below meth c nL Q cells slots (pc + 1) L (.float (FP.fsub x y) :: st) n h) : z_w D n0 p l e R s m args below meth c nL Q cells slots pc L (.float y :: .float x :: st) n h := fun H locs ls hl hR hS => lv_fsub hX.1.1 hX.1.2.1 hd hne (kk H locs ls hl hR hS)
theorem zr_fmul (hX : z_X D cI cJ cM cS p s m args c cc nL own) {x y : UInt32} (hd : decode cc pc = .ok (.fmul, 1)) (hne : vf_n32 (FP.fmul x y)) (kk : z_w D n0 p l e R s m args below meth c nL Q cells slots (pc + 1) L (.float (FP.fmul x y) :: st) n h) : z_w D n0 p l e R s m args below meth c nL Q cells slots pc L (.float y :: .float x :: st) n h := fun H locs ls hl hR hS => lv_fmul hX.1.1 hX.1.2.1 hd hne (kk H locs ls hl hR hS)
theorem zr_fdiv (hX : z_X D cI cJ cM cS p s m args c cc nL own) {x y : UInt32} (hd : decode cc pc = .ok (.fdiv, 1)) (hne : vf_n32 (FP.fdiv x y)) (kk : z_w D n0 p l e R s m args below meth c nL Q cells slots (pc + 1) L (.float (FP.fdiv x y) :: st) n h) : z_w D n0 p l e R s m args below meth c nL Q cells slots pc L (.float y :: .float x :: st) n h := fun H locs ls hl hR hS => lv_fdiv hX.1.1 hX.1.2.1 hd hne (kk H locs ls hl hR hS)
theorem zr_fcmp (hX : z_X D cI cJ cM cS p s m args c cc nL own) {x y : UInt32} {op : CmpOp} (hd : decode cc pc = .ok (.fcmp op, 1)) (kk : z_w D n0 p l e R s m args below meth c nL Q cells slots (pc + 1) L (.int (Op.cmpValue (FP.fcmp x y) op) :: st) n h) : z_w D n0 p l e R s m args below meth c nL Q cells slots pc L (.float y :: .float x :: st) n h := fun H locs ls hl hR hS => lv_fcmp hX.1.1 hX.1.2.1 hd (kk H locs ls hl hR hS)
theorem zr_i2f (hX : z_X D cI cJ cM cS p s m args c cc nL own) {x : Int32} (hd : decode cc pc = .ok (.i2f, 1)) (kk : z_w D n0 p l e R s m args below meth c nL Q cells slots (pc + 1) L (.float (FP.i2f x) :: st) n h) : z_w D n0 p l e R s m args below meth c nL Q cells slots pc L (.int x :: st) n h := fun H locs ls hl hR hS => lv_i2f hX.1.1 hX.1.2.1 hd (kk H locs ls hl hR hS)
theorem zr_f2i (hX : z_X D cI cJ cM cS p s m args c cc nL own) {x : UInt32} (hd : decode cc pc = .ok (.f2i, 1)) (kk : z_w D n0 p l e R s m args below meth c nL Q cells slots (pc + 1) L (.int (FP.f2i x) :: st) n h) : z_w D n0 p l e R s m args below meth c nL Q cells slots pc L (.float x :: st) n h := fun H locs ls hl hR hS => lv_f2i hX.1.1 hX.1.2.1 hd (kk H locs ls hl hR hS)
theorem zr_tabIn (hX : z_X D cI cJ cM cS p s m args c cc nL own) {dflt lo hi : Int} {offs : Array Int} {len : Nat} {x : Int32} {off : Int} {tgt : Nat} (hd : decode cc pc = .ok (.tableswitch dflt lo hi offs, len)) (h1 : ¬ x.toInt < lo) (h2 : ¬ hi < x.toInt) (ho : offs[(x.toInt - lo).toNat]? = some off) (ht : (pc : Int) + off = (tgt : Int)) (kk : z_w D n0 p l e R s m args below meth c nL Q cells slots tgt L st n h) : z_w D n0 p l e R s m args below meth c nL Q cells slots pc L (.int x :: st) n h := fun H locs ls hl hR hS => lv_tableIn hX.1.1 hX.1.2.1 hd h1 h2 ho ht (kk H locs ls hl hR hS)
theorem zr_tabOut (hX : z_X D cI cJ cM cS p s m args c cc nL own) {dflt lo hi : Int} {offs : Array Int} {len : Nat} {x : Int32} {tgt : Nat} (hd : decode cc pc = .ok (.tableswitch dflt lo hi offs, len)) (h1 : x.toInt < lo ∨ hi < x.toInt) (ht : (pc : Int) + dflt = (tgt : Int)) (kk : z_w D n0 p l e R s m args below meth c nL Q cells slots tgt L st n h) : z_w D n0 p l e R s m args below meth c nL Q cells slots pc L (.int x :: st) n h := fun H locs ls hl hR hS => lv_tableOut hX.1.1 hX.1.2.1 hd h1 ht (kk H locs ls hl hR hS)
theorem zr_nmi {x : Int32} (kk : ∀ y : Int32, y = x → z_w D n0 p l e R s m args below meth c nL Q cells slots pc L (.int y :: st) n h) : z_w D n0 p l e R s m args below meth c nL Q cells slots pc L (.int x :: st) n h := kk x rfl
theorem zr_nml {x : Int64} (kk : ∀ y : Int64, y = x → z_w D n0 p l e R s m args below meth c nL Q cells slots pc L (.long y :: st) n h) : z_w D n0 p l e R s m args below meth c nL Q cells slots pc L (.long x :: st) n h := kk x rfl
theorem zr_nmf {x : UInt32} (kk : ∀ y : UInt32, y = x → z_w D n0 p l e R s m args below meth c nL Q cells slots pc L (.float y :: st) n h) : z_w D n0 p l e R s m args below meth c nL Q cells slots pc L (.float x :: st) n h := kk x rfl
theorem zr_iaload (hX : z_X D cI cJ cM cS p s m args c cc nL own) {k len : Nat} {f : Nat → Int32} {i : Int32} (hd : decode cc pc = .ok (.iaload, 1)) (hk : k < n) (he : h k = .inl (cI, len, .inl f)) (hi : vp_in i len) (kk : z_w D n0 p l e R s m args below meth c nL Q cells slots (pc + 1) L (.int (f i.toNatClampNeg) :: st) n h) : z_w D n0 p l e R s m args below meth c nL Q cells slots pc L (.int i :: .ref (n0 + k) :: st) n h := fun H locs ls hl hR hS => va_iald hX.1.1 hX.1.2.1 hX.2 (z_H_P hR) k 0 (by rw [z_W_get hk, he]) rfl hi hd (kk H locs ls hl hR hS)
theorem zr_laload (hX : z_X D cI cJ cM cS p s m args c cc nL own) {k len : Nat} {f : Nat → Int64} {i : Int32} (hd : decode cc pc = .ok (.laload, 1)) (hk : k < n) (he : h k = .inl (cJ, len, .inr (.inl f))) (hi : vp_in i len) (kk : z_w D n0 p l e R s m args below meth c nL Q cells slots (pc + 1) L (.long (f i.toNatClampNeg) :: st) n h) : z_w D n0 p l e R s m args below meth c nL Q cells slots pc L (.int i :: .ref (n0 + k) :: st) n h := fun H locs ls hl hR hS => va_lald hX.1.1 hX.1.2.1 hX.2 (z_H_P hR) k 1 (by rw [z_W_get hk, he]) rfl hi hd (kk H locs ls hl hR hS)
theorem zr_aaloadS (hX : z_X D cI cJ cM cS p s m args c cc nL own) {k len : Nat} {f : Nat → Option Nat} {i : Int32} (hd : decode cc pc = .ok (.aaload, 1)) (hk : k < n) (he : h k = .inl (cS, len, .inr (.inr (.inr (.inr f))))) (hi : vp_in i len) (kk : z_w D n0 p l e R s m args below meth c nL Q cells slots (pc + 1) L (va_rf (f i.toNatClampNeg) :: st) n h) : z_w D n0 p l e R s m args below meth c nL Q cells slots pc L (.int i :: .ref (n0 + k) :: st) n h := fun H locs ls hl hR hS => va_aldq hX.1.1 hX.1.2.1 hX.2 (z_H_P hR) k 3 (by rw [z_W_get hk, he]) rfl hi hd (kk H locs ls hl hR hS)
theorem zr_aaloadM (hX : z_X D cI cJ cM cS p s m args c cc nL own) {k len b : Nat} {f : Nat → Option Nat} {i : Int32} (hd : decode cc pc = .ok (.aaload, 1)) (hk : k < n) (he : h k = .inl (cM, len, .inr (.inr (.inr (.inr f))))) (hi : vp_in i len) (hf : f i.toNatClampNeg = some b) (kk : z_w D n0 p l e R s m args below meth c nL Q cells slots (pc + 1) L (.ref b :: st) n h) : z_w D n0 p l e R s m args below meth c nL Q cells slots pc L (.int i :: .ref (n0 + k) :: st) n h := fun H locs ls hl hR hS => by
  have hlt : i.toNatClampNeg < len := Nat.not_le.mp fun q => hi (Or.inr q)
  have hP : H[n0 + k]? = some (vp_cell cM (len, .inr (.inr (.inr (.inr f))))) := by
    have := hR.2 k hk
    rw [he] at this
    exact this
  exact W.aald (v := .ref b) (ty := .array .int) hX.1.1 hX.1.2.1 hP ((hX.2.2 2 _ rfl).1 len (fun j => va_rf (f j))) rfl (fun q => by cases q) (by show ¬ (i < 0 ∨ (arrV _ _ _).slots.size ≤ _); rw [arrV_size]; exact hi) (by show (arrV _ _ _).slots[_]? = _; rw [arrV_read _ _ hlt, hf]; rfl) rfl rfl hd (kk H locs ls hl hR hS)
theorem zr_iastore (hX : z_X D cI cJ cM cS p s m args c cc nL own) {k len : Nat} {f : Nat → Int32} {i x : Int32} (hd : decode cc pc = .ok (.iastore, 1)) (hk : k < n) (he : h k = .inl (cI, len, .inl f)) (hi : vp_in i len) (kk : z_w D n0 p l e R s m args below meth c nL Q cells slots (pc + 1) L st n (z_up h k (.inl (cI, len, .inl (va_up f i.toNatClampNeg x))))) : z_w D n0 p l e R s m args below meth c nL Q cells slots pc L (.int x :: .int i :: .ref (n0 + k) :: st) n h := fun H locs ls hl hR hS => by
  have hP : H[n0 + k]? = some (vp_cell cI (len, .inl f)) := by
    have := hR.2 k hk
    rw [he] at this
    exact this
  refine W.iast hX.1.1 hX.1.2.1 hP ((hX.2.2 0 _ rfl).1 len (fun j => .int (f j))) (fun q => by cases q) (by show ¬ (i < 0 ∨ (arrV _ _ _).slots.size ≤ _); rw [arrV_size]; exact hi) rfl rfl hd fun H1 e z oq => ?_
  refine kk H1 _ ls hl (z_H_put hR ?_ z oq) (hS.put z oq (Nat.le_add_right _ _))
  show H1[n0 + k]? = some (vp_cell _ _)
  rw [e, vp_cell_i, vp_cell_i, arrV_store]
  congr 2
  funext q
  by_cases hq : q = i.toNatClampNeg
  · subst hq
    simp [updV, va_up]
  · simp [updV, va_up, hq]
theorem zr_lastore (hX : z_X D cI cJ cM cS p s m args c cc nL own) {k len : Nat} {f : Nat → Int64} {i : Int32} {x : Int64} (hd : decode cc pc = .ok (.lastore, 1)) (hk : k < n) (he : h k = .inl (cJ, len, .inr (.inl f))) (hi : vp_in i len) (kk : z_w D n0 p l e R s m args below meth c nL Q cells slots (pc + 1) L st n (z_up h k (.inl (cJ, len, .inr (.inl (va_up f i.toNatClampNeg x)))))) : z_w D n0 p l e R s m args below meth c nL Q cells slots pc L (.long x :: .int i :: .ref (n0 + k) :: st) n h := fun H locs ls hl hR hS => by
  have hP : H[n0 + k]? = some (vp_cell cJ (len, .inr (.inl f))) := by
    have := hR.2 k hk
    rw [he] at this
    exact this
  refine W.last hX.1.1 hX.1.2.1 hP ((hX.2.2 1 _ rfl).1 len (fun j => .long (f j))) (fun q => by cases q) (by show ¬ (i < 0 ∨ (arrV _ _ _).slots.size ≤ _); rw [arrV_size]; exact hi) rfl rfl hd fun H1 e z oq => ?_
  refine kk H1 _ ls hl (z_H_put hR ?_ z oq) (hS.put z oq (Nat.le_add_right _ _))
  show H1[n0 + k]? = some (vp_cell _ _)
  rw [e, vp_cell_l, vp_cell_l, arrV_store]
  congr 2
  funext q
  by_cases hq : q = i.toNatClampNeg
  · subst hq
    simp [updV, va_up]
  · simp [updV, va_up, hq]
theorem zr_aastore (hX : z_X D cI cJ cM cS p s m args c cc nL own) {k len b : Nat} {fs : List Value} {f : Nat → Option Nat} {i : Int32} (hd : decode cc pc = .ok (.aastore, 1)) (hk : k < n) (he : h k = .inl (cS, len, .inr (.inr (.inr (.inr f))))) (hb : b < n) (heb : h b = .inr (4, fs)) (hi : vp_in i len) (kk : z_w D n0 p l e R s m args below meth c nL Q cells slots (pc + 1) L st n (z_up h k (.inl (cS, len, .inr (.inr (.inr (.inr (va_up f i.toNatClampNeg (some (n0 + b)))))))))) : z_w D n0 p l e R s m args below meth c nL Q cells slots pc L (.ref (n0 + b) :: .int i :: .ref (n0 + k) :: st) n h := fun H locs ls hl hR hS => by
  have hlt : i.toNatClampNeg < len := Nat.not_le.mp fun q => hi (Or.inr q)
  have h0 : ¬ i < 0 := fun q => hi (Or.inl q)
  have hP : H[n0 + k]? = some (vp_cell cS (len, .inr (.inr (.inr (.inr f))))) := by
    have := hR.2 k hk
    rw [he] at this
    exact this
  have hB := hR.2 b hb
  rw [heb] at hB
  obtain ⟨r', hr', cellV, g1, g2, g3, -⟩ := hB
  have hcls := (hX.2.1 4 _ rfl).2
  obtain ⟨kA, comp, k1, k2, k3, -⟩ := (hX.2.2 3 _ rfl).2
  have hcomp : comp = D.1 4 := Option.some.inj (k3.symm.trans hcls.1)
  subst hcomp
  obtain ⟨kC, hkC, -⟩ := hcls.2
  refine W.aast hX.1.1 hX.1.2.1 hP (fun q h => by cases h) (fun h => by cases h) k1 k2 rfl hkC ⟨h0, by show _ < (arrV _ _ _).slots.size; rw [arrV_size]; exact hlt⟩ g1 (fun q h => by rw [g3] at h; cases h) (by rw [g2]; exact hkC) (by rw [g2]; exact va_assign hcls) rfl rfl hd fun H1 e z oq => ?_
  refine kk H1 _ ls hl (z_H_put hR ?_ z oq) (hS.put z oq (Nat.le_add_right _ _))
  show H1[n0 + k]? = some (vp_cell _ _)
  rw [e, vp_cell_q, vp_cell_q, arrV_store]
  congr 2
  funext q
  by_cases hq : q = i.toNatClampNeg
  · subst hq
    simp [updV, va_up, va_rf]
  · simp [updV, va_up, hq]
theorem zr_alenI (hX : z_X D cI cJ cM cS p s m args c cc nL own) {k len : Nat} {f : Nat → Int32} {v : Int32} (hd : decode cc pc = .ok (.arraylength, 1)) (hk : k < n) (he : h k = .inl (cI, len, .inl f)) (hv : Int32.ofNat len = v) (hlen : len < 2 ^ 31) (kk : z_w D n0 p l e R s m args below meth c nL Q cells slots (pc + 1) L (.int v :: st) n h) : z_w D n0 p l e R s m args below meth c nL Q cells slots pc L (.ref (n0 + k) :: st) n h := fun H locs ls hl hR hS => va_alen hX.1.1 hX.1.2.1 hX.2 (z_H_P hR) k 0 (by rw [z_W_get hk, he]) rfl hv hd (kk H locs ls hl hR hS)
theorem zr_get (hX : z_X D cI cJ cM cS p s m args c cc nL own) {ci : Nat} {C : String} {T : u_T} {N k i : Nat} {fs : List Value} (hc : vwCl[ci]? = some (C, T, N)) (hin : ∀ w ∈ u_ws C T N, w ∈ z_ws) (hk : k < n) (he : h k = .inr (ci, fs)) (j : Nat) (hj : j < N) (hw : Cond.fieldLink own i C (T j).2.1 (T j).2.2.1 ∈ z_ws) (hT : (T j).1 = C) {v : Value} (hv : fs[j]? = some v) (hd : decode cc pc = .ok (.getfield i, 3)) (kk : z_w D n0 p l e R s m args below meth c nL Q cells slots (pc + 3) L (v :: st) n h) : z_w D n0 p l e R s m args below meth c nL Q cells slots pc L (.ref (n0 + k) :: st) n h := fun H locs ls hl hR hS => va_get hX.1.1 hX.1.2.1 hX.1.2.2.2.2 hin hX.1.2.2.2.1 hX.2 (z_H_P hR) k (by rw [z_W_get hk, he]) hc j hj (hX.1.2.2.2.2 _ hw) (by rw [hT]; exact fun _ q => q) hv hd (kk H locs ls hl hR hS)
theorem zr_put (hX : z_X D cI cJ cM cS p s m args c cc nL own) {ci : Nat} {C : String} {T : u_T} {N k i : Nat} {fs : List Value} (hc : vwCl[ci]? = some (C, T, N)) (hin : ∀ w ∈ u_ws C T N, w ∈ z_ws) (hk : k < n) (he : h k = .inr (ci, fs)) (j : Nat) (hj : j < N) (hw : Cond.fieldLink own i C (T j).2.1 (T j).2.2.1 ∈ z_ws) (hT : (T j).1 = C) (ty0 : Nat → FieldType) (hty : ∀ k, k < N → parseFieldDescriptor (T k).2.2.1 = some (ty0 k)) (hnm : ∀ a, a < N → ∀ b, b < N → a ≠ b → (T a).2.1 ≠ (T b).2.1) (hfin : (T j).2.2.2 = false) {ty : FieldType} {v : Value} (hd0 : parseFieldDescriptor (T j).2.2.1 = some ty) (hn : narrow ty v = v) (hfit : fits ty v = true) (hlen : j < fs.length) (hd : decode cc pc = .ok (.putfield i, 3)) (kk : z_w D n0 p l e R s m args below meth c nL Q cells slots (pc + 3) L st n (z_up h k (.inr (ci, fs.set j v)))) : z_w D n0 p l e R s m args below meth c nL Q cells slots pc L (v :: .ref (n0 + k) :: st) n h := fun H locs ls hl hR hS => by
  have hts := hX.1.2.2.2.2
  have hap := va_apart (own := own) hts hin ty0 hty hnm hX.2 hc
  have hA := hR.2 k hk
  rw [he] at hA
  obtain ⟨r, h1, cell, q1, q2, q3, q4⟩ := hA
  have hr : r = (C, T, N) := Option.some.inj (h1.symm.trans hc)
  subst hr
  obtain ⟨hSl, hfc, kC, hkC, hkind⟩ := hX.2.1 ci _ hc
  obtain ⟨cf, kf, fi, f, hi, hsl⟩ := hSl j hj
  have hlay := hts _ (hin _ (u_in_lay hj))
  unfold u_lay at hlay
  rw [if_neg (by rw [hfin]; decide)] at hlay
  have hst := (u_facts hfc hkC (u_lays hts hin hj) hi).1
  have h6 := u_store hfc hkC hkind hlay hi hd0 hn hfit
  refine W.putK hX.1.1 hX.1.2.1 (f := f) ⟨hX.1.2.2.2.1, hts _ hw, ⟨_, _, _, by rw [← hT]; exact hi⟩, hst⟩ (by rw [q2]; exact h6) q1 q3 (by rw [hsl]; exact k2_hasslot (q4 j hj)) rfl rfl hd fun H' e1 e2 e3 => ?_
  rw [hsl] at e1 ⊢
  exact kk H' _ ls hl (z_H_put hR ⟨_, hc, t_OB.to (V := updV (vp_V fs) j v) ⟨_, e1, q2, q3, t_set q4 hap hj v⟩ (fun x _ => vp_updV_set hlen v x)⟩ e2 e3) (hS.put e2 e3 (Nat.le_add_right _ _))
theorem zr_max (hX : z_X D cI cJ cM cS p s m args c cc nL own) {i : Nat} {x y : Int32} (hd : decode cc pc = .ok (.invokestatic i, 3)) (hw : Cond.methodLink own i Lib.Math.max.name ∈ z_ws) (h1 : 1 ≤ R.frames) (h2 : (st.map fun v => v.category).sum + 13 ≤ R.locals) (h3 : cells ≤ R.cells) (h4 : slots ≤ R.slots) (kk : z_w D n0 p l e R s m args below meth c nL Q cells slots (pc + 3) L (.int (if x < y then y else x) :: st) n h) : z_w D n0 p l e R s m args below meth c nL Q cells slots pc L (.int y :: .int x :: st) n h := fun H locs ls hl hR hS => va_mmax hX.1.1 hX.1.2.1 (hX.1.2.2.1.trans hl.1.symm) hX.1.2.2.2.1 (hX.1.2.2.2.2 _ hw) (hX.1.2.2.2.2 _ kw_377) (hX.1.2.2.2.2 _ kw_69) (hX.1.2.2.2.2 _ kw_378) h1 h2 h3 h4 hd (kk H locs ls hl hR hS)
theorem zr_abs (hX : z_X D cI cJ cM cS p s m args c cc nL own) {i : Nat} {x : Int32} (hd : decode cc pc = .ok (.invokestatic i, 3)) (hw : Cond.methodLink own i Lib.Math.abs.name ∈ z_ws) (h1 : 1 ≤ R.frames) (h2 : (st.map fun v => v.category).sum + 13 ≤ R.locals) (h3 : cells ≤ R.cells) (h4 : slots ≤ R.slots) (kk : z_w D n0 p l e R s m args below meth c nL Q cells slots (pc + 3) L (.int (if 0 ≤ x then x else 0 - x) :: st) n h) : z_w D n0 p l e R s m args below meth c nL Q cells slots pc L (.int x :: st) n h := fun H locs ls hl hR hS => va_mabs hX.1.1 hX.1.2.1 (hX.1.2.2.1.trans hl.1.symm) hX.1.2.2.2.1 (hX.1.2.2.2.2 _ hw) (hX.1.2.2.2.2 _ kw_524) (hX.1.2.2.2.2 _ kw_69) (hX.1.2.2.2.2 _ kw_525) h1 h2 h3 h4 hd (kk H locs ls hl hR hS)
theorem zr_absl (hX : z_X D cI cJ cM cS p s m args c cc nL own) {i : Nat} {x : Int64} (hd : decode cc pc = .ok (.invokestatic i, 3)) (hw : Cond.methodLink own i Lib.MathLoose.abs_long.x ∈ z_ws) (h1 : 1 ≤ R.frames) (h2 : (st.map fun v => v.category).sum + 13 ≤ R.locals) (h3 : cells ≤ R.cells) (h4 : slots ≤ R.slots) (kk : z_w D n0 p l e R s m args below meth c nL Q cells slots (pc + 3) L (.long (if 0 < x then x else -x) :: st) n h) : z_w D n0 p l e R s m args below meth c nL Q cells slots pc L (.long x :: st) n h := fun H locs ls hl hR hS => va_mabs_long hX.1.1 hX.1.2.1 (hX.1.2.2.1.trans hl.1.symm) hX.1.2.2.2.1 (hX.1.2.2.2.2 _ hw) (hX.1.2.2.2.2 _ kw_454) (hX.1.2.2.2.2 _ kw_69) (hX.1.2.2.2.2 _ kw_455) h1 h2 h3 h4 hd (kk H locs ls hl hR hS)
end ZR
end
section
/-! The system's state: ints, longs, the states that the history holds (by their places), how many places there are. -/
section ZT0
abbrev z_S : Type := (Nat → Nat → Int32) × (Nat → Nat → Int64) × (Nat → Option Nat) × Nat
def zg_i (σ : z_S) (k : Nat) : Nat → Int32 := σ.1 k
def zg_l (σ : z_S) (k : Nat) : Nat → Int64 := σ.2.1 k
def zg_r (σ : z_S) : Nat → Option Nat := σ.2.2.1
def zg_n (σ : z_S) : Nat := σ.2.2.2
def zs_i (σ : z_S) (k j : Nat) (v : Int32) : z_S := (fun a b => if a = k ∧ b = j then v else σ.1 a b, σ.2)
def zs_l (σ : z_S) (k j : Nat) (v : Int64) : z_S := (σ.1, fun a b => if a = k ∧ b = j then v else σ.2.1 a b, σ.2.2)
def zs_r (σ : z_S) (j : Nat) (v : Option Nat) : z_S := (σ.1, σ.2.1, fun a => if a = j then v else σ.2.2.1 a, σ.2.2.2)
theorem zg_i_si (σ : z_S) (k j : Nat) (v : Int32) (a b : Nat) : zg_i (zs_i σ k j v) a b = if a = k ∧ b = j then v else zg_i σ a b := rfl
theorem zg_l_sl (σ : z_S) (k j : Nat) (v : Int64) (a b : Nat) : zg_l (zs_l σ k j v) a b = if a = k ∧ b = j then v else zg_l σ a b := rfl
theorem zg_r_sr (σ : z_S) (j : Nat) (v : Option Nat) (a : Nat) : zg_r (zs_r σ j v) a = if a = j then v else zg_r σ a := rfl
theorem zg_i_sl (σ : z_S) (k j : Nat) (v : Int64) : zg_i (zs_l σ k j v) = zg_i σ := rfl
theorem zg_i_sr (σ : z_S) (j : Nat) (v : Option Nat) : zg_i (zs_r σ j v) = zg_i σ := rfl
theorem zg_l_si (σ : z_S) (k j : Nat) (v : Int32) : zg_l (zs_i σ k j v) = zg_l σ := rfl
theorem zg_l_sr (σ : z_S) (j : Nat) (v : Option Nat) : zg_l (zs_r σ j v) = zg_l σ := rfl
theorem zg_r_si (σ : z_S) (k j : Nat) (v : Int32) : zg_r (zs_i σ k j v) = zg_r σ := rfl
theorem zg_r_sl (σ : z_S) (k j : Nat) (v : Int64) : zg_r (zs_l σ k j v) = zg_r σ := rfl
theorem zg_n_si (σ : z_S) (k j : Nat) (v : Int32) : zg_n (zs_i σ k j v) = zg_n σ := rfl
theorem zg_n_sl (σ : z_S) (k j : Nat) (v : Int64) : zg_n (zs_l σ k j v) = zg_n σ := rfl
theorem zg_n_sr (σ : z_S) (j : Nat) (v : Option Nat) : zg_n (zs_r σ j v) = zg_n σ := rfl
/-- what stands at a place: a class (0 to 6), or an array (10 int, 11 long, 12 int[][], 13 State[]) and its length -/
def z_tab : List (Nat × Nat) := [(5,0),(4,0),(10,10),(10,10),(10,10),(10,10),(10,10),(12,10),(10,13),(10,13),(10,13),(10,13),(10,13),(10,13),(10,13),(10,13),(10,13),(10,13),(12,8),(10,10),(10,10),(10,10),(10,10),(10,10),(10,10),(10,10),(10,10),(2,0),(13,5),(1,0),(12,10),(10,12),(10,12),(10,12),(10,12),(10,12),(10,12),(10,12),(10,12),(10,12),(10,12),(12,10),(10,12),(10,12),(10,12),(10,12),(10,12),(10,12),(10,12),(10,12),(10,12),(10,12),(10,12),(0,0),(12,10),(10,12),(10,12),(10,12),(10,12),(10,12),(10,12),(10,12),(10,12),(10,12),(10,12),(11,10),(11,10),(11,10),(3,0),(10,120),(10,24),(10,24),(10,24),(6,0),(10,1584),(10,10),(10,10),(11,10),(10,10),(10,10),(10,120)]
def z_sh (k : Nat) : Nat × Nat := z_tab.getD (if k < 81 then k else 1 + (k - 81) % 26) (0, 0)
def z_Ec (n0 : Nat) (cI cJ cM cS : ClassId) (t : Nat × Nat) (k : Nat) (gi : Nat → Int32) (gl : Nat → Int64) (gr : Nat → Option Nat) : va_E := match t with
  | (10, len) => .inl (cI, len, .inl gi)
  | (11, len) => .inl (cJ, len, .inr (.inl gl))
  | (12, len) => .inl (cM, len, .inr (.inr (.inr (.inr (fun i => some (n0 + (k + 1 + i)))))))
  | (13, len) => .inl (cS, len, .inr (.inr (.inr (.inr (fun i => (gr i).map (fun b => n0 + b))))))
  | (0, _) => .inr (0, [.ref (n0 + (k + 1)), .ref (n0 + (k + 12)), .ref (n0 + (k + 13)), .ref (n0 + (k + 14))])
  | (1, _) => .inr (1, [.ref (n0 + (k + 1)), .ref (n0 + (k + 12)), .ref (n0 + (k + 23))])
  | (2, _) => .inr (2, [.ref (n0 + (k + 1)), .int (gi 1)])
  | (3, _) => .inr (3, [.ref (n0 + (k + 1)), .int (gi 1), .ref (n0 + (k + 2)), .ref (n0 + (k + 3)), .ref (n0 + (k + 4)), .int (gi 5), .int (gi 6), .int (gi 7)])
  | (4, _) => .inr (4, [.int (gi 0), .int (gi 1), .int (gi 2), .int (gi 3), .ref (n0 + (k + 1)), .ref (n0 + (k + 2)), .ref (n0 + (k + 3)), .ref (n0 + (k + 4)), .ref (n0 + (k + 5)), .ref (n0 + (k + 6)), .ref (n0 + (k + 17))])
  | (5, _) => .inr (5, [.ref (n0 + (k + 1)), .ref (n0 + (k + 27)), .ref (n0 + (k + 29)), .ref (n0 + (k + 53)), .ref (n0 + (k + 68))])
  | (_, _) => .inr (6, [.ref (n0 + (k + 1)), .int (gi 1), .ref (n0 + (k + 2)), .ref (n0 + (k + 3)), .ref (n0 + (k + 4)), .ref (n0 + (k + 5)), .ref (n0 + (k + 6)), .ref (n0 + (k + 7)), .int (gi 8), .int (gi 9), .int (gi 10), .int (gi 11), .long (gl 12)])
def z_E (n0 : Nat) (cI cJ cM cS : ClassId) (σ : z_S) (k : Nat) : va_E := z_Ec n0 cI cJ cM cS (z_sh k) k (zg_i σ k) (zg_l σ k) (zg_r σ)
theorem z_lt {i : Int32} {n : Nat} (h : vp_in i n) : i.toNatClampNeg < n := Nat.not_le.mp fun q => h (Or.inr q)
theorem z_sh8 {j : Nat} (h : j < 10) : z_sh (8 + j) = (10, 13) := (show ∀ j, j < 10 → z_sh (8 + j) = (10, 13) by decide +kernel) j h
theorem z_sh19 {j : Nat} (h : j < 8) : z_sh (19 + j) = (10, 10) := (show ∀ j, j < 8 → z_sh (19 + j) = (10, 10) by decide +kernel) j h
theorem z_sh31 {j : Nat} (h : j < 10) : z_sh (31 + j) = (10, 12) := (show ∀ j, j < 10 → z_sh (31 + j) = (10, 12) by decide +kernel) j h
theorem z_sh42 {j : Nat} (h : j < 10) : z_sh (42 + j) = (10, 12) := (show ∀ j, j < 10 → z_sh (42 + j) = (10, 12) by decide +kernel) j h
theorem z_sh55 {j : Nat} (h : j < 10) : z_sh (55 + j) = (10, 12) := (show ∀ j, j < 10 → z_sh (55 + j) = (10, 12) by decide +kernel) j h
theorem z_E_ne_i {n0 : Nat} {cI cJ cM cS : ClassId} {σ : z_S} {k j : Nat} {v : Int32} {a : Nat} (h : a ≠ k) : z_E n0 cI cJ cM cS (zs_i σ k j v) a = z_E n0 cI cJ cM cS σ a := by
  have e : zg_i (zs_i σ k j v) a = zg_i σ a := by
    funext b
    rw [zg_i_si, if_neg (fun q => h q.1)]
  unfold z_E
  rw [e]
  rfl
theorem z_E_ne_l {n0 : Nat} {cI cJ cM cS : ClassId} {σ : z_S} {k j : Nat} {v : Int64} {a : Nat} (h : a ≠ k) : z_E n0 cI cJ cM cS (zs_l σ k j v) a = z_E n0 cI cJ cM cS σ a := by
  have e : zg_l (zs_l σ k j v) a = zg_l σ a := by
    funext b
    rw [zg_l_sl, if_neg (fun q => h q.1)]
  unfold z_E
  rw [e]
  rfl
theorem zg_i_up (σ : z_S) (k j : Nat) (v : Int32) : zg_i (zs_i σ k j v) k = va_up (zg_i σ k) j v := by
  funext b
  rw [zg_i_si]
  by_cases hb : b = j <;> simp [va_up, hb]
theorem zg_l_up (σ : z_S) (k j : Nat) (v : Int64) : zg_l (zs_l σ k j v) k = va_up (zg_l σ k) j v := by
  funext b
  rw [zg_l_sl]
  by_cases hb : b = j <;> simp [va_up, hb]
theorem z_E10 {n0 : Nat} {cI cJ cM cS : ClassId} {σ : z_S} {k len : Nat} (hs : z_sh k = (10, len)) : z_E n0 cI cJ cM cS σ k = .inl (cI, len, .inl (zg_i σ k)) := by unfold z_E; rw [hs]; rfl
theorem z_E11 {n0 : Nat} {cI cJ cM cS : ClassId} {σ : z_S} {k len : Nat} (hs : z_sh k = (11, len)) : z_E n0 cI cJ cM cS σ k = .inl (cJ, len, .inr (.inl (zg_l σ k))) := by unfold z_E; rw [hs]; rfl
theorem z_E12 {n0 : Nat} {cI cJ cM cS : ClassId} {σ : z_S} {k len : Nat} (hs : z_sh k = (12, len)) : z_E n0 cI cJ cM cS σ k = .inl (cM, len, .inr (.inr (.inr (.inr (fun i => some (n0 + (k + 1 + i))))))) := by unfold z_E; rw [hs]; rfl
theorem z_E13 {n0 : Nat} {cI cJ cM cS : ClassId} {σ : z_S} {k len : Nat} (hs : z_sh k = (13, len)) : z_E n0 cI cJ cM cS σ k = .inl (cS, len, .inr (.inr (.inr (.inr (fun i => (zg_r σ i).map (fun b => n0 + b)))))) := by unfold z_E; rw [hs]; rfl
theorem z_up10 {n0 : Nat} {cI cJ cM cS : ClassId} {σ : z_S} {k len j : Nat} {v : Int32} (hs : z_sh k = (10, len)) (a : Nat) : z_E n0 cI cJ cM cS (zs_i σ k j v) a = z_up (z_E n0 cI cJ cM cS σ) k (.inl (cI, len, .inl (va_up (zg_i σ k) j v))) a := by
  by_cases h : a = k
  · subst h
    rw [z_up_at, z_E10 hs, zg_i_up]
  · rw [z_up_ne _ _ h, z_E_ne_i h]
theorem z_up11 {n0 : Nat} {cI cJ cM cS : ClassId} {σ : z_S} {k len j : Nat} {v : Int64} (hs : z_sh k = (11, len)) (a : Nat) : z_E n0 cI cJ cM cS (zs_l σ k j v) a = z_up (z_E n0 cI cJ cM cS σ) k (.inl (cJ, len, .inr (.inl (va_up (zg_l σ k) j v)))) a := by
  by_cases h : a = k
  · subst h
    rw [z_up_at, z_E11 hs, zg_l_up]
  · rw [z_up_ne _ _ h, z_E_ne_l h]
theorem z_upoi {n0 : Nat} {cI cJ cM cS : ClassId} {σ : z_S} {k j : Nat} {v : Int32} {e : va_E} (he : z_E n0 cI cJ cM cS (zs_i σ k j v) k = e) (a : Nat) : z_E n0 cI cJ cM cS (zs_i σ k j v) a = z_up (z_E n0 cI cJ cM cS σ) k e a := by
  by_cases h : a = k
  · subst h
    rw [z_up_at, he]
  · rw [z_up_ne _ _ h, z_E_ne_i h]
theorem z_upol {n0 : Nat} {cI cJ cM cS : ClassId} {σ : z_S} {k j : Nat} {v : Int64} {e : va_E} (he : z_E n0 cI cJ cM cS (zs_l σ k j v) k = e) (a : Nat) : z_E n0 cI cJ cM cS (zs_l σ k j v) a = z_up (z_E n0 cI cJ cM cS σ) k e a := by
  by_cases h : a = k
  · subst h
    rw [z_up_at, he]
  · rw [z_up_ne _ _ h, z_E_ne_l h]
def z_Y (s : State) (meth : Method) (ret : Option FieldType) : Prop := z_N s ∧ meth.sig.returnType = ret ∧ meth.locks = false
def z_t (D : va_G) (cI cJ cM cS : ClassId) (n0 : Nat) (p : Program) (l : Launch) (e : Env) (R : Room) (s : State) (m : MethodId) (args : Array Value) (below : List Frame) (meth : Method) (c : Code) (nL : Nat) (Q : State → Prop) (cells slots pc : Nat) (L : List (Nat × Value)) (st : List Value) (σ : z_S) : Prop :=
  81 ≤ zg_n σ → z_w D n0 p l e R s m args below meth c nL Q cells slots pc L st (zg_n σ) (z_E n0 cI cJ cM cS σ)
def z_B (D : va_G) (cI cJ cM cS : ClassId) (n0 : Nat) (σ : z_S) (U : State) : Prop := 81 ≤ zg_n σ ∧ z_H D n0 (zg_n σ) (z_E n0 cI cJ cM cS σ) U.heap ∧ z_K D cI cJ cM cS U ∧ z_N U
def z_Bq (D : va_G) (cI cJ cM cS : ClassId) (n0 : Nat) (σ : z_S) (U : State) : Prop := 81 ≤ zg_n σ ∧ z_H D n0 (zg_n σ) (z_E n0 cI cJ cM cS σ) U.heap
theorem z_wext {D : va_G} {n0 : Nat} {p : Program} {l : Launch} {e : Env} {R : Room} {s : State} {m : MethodId} {args : Array Value} {below : List Frame} {meth : Method} {c : Code} {nL : Nat} {Q : State → Prop} {cells slots pc : Nat} {L : List (Nat × Value)} {st : List Value} {n : Nat} {h h' : Nat → va_E} (he : ∀ k : Nat, h' k = h k) (kk : z_w D n0 p l e R s m args below meth c nL Q cells slots pc L st n h') : z_w D n0 p l e R s m args below meth c nL Q cells slots pc L st n h := by
  have e2 : h' = h := funext he
  rw [← e2]
  exact kk
end ZT0
section ZT1
variable {D : va_G} {cI cJ cM cS : ClassId} {n0 : Nat} {p : Program} {l : Launch} {e : Env} {R : Room} {s : State} {m : MethodId} {args : Array Value} {below : List Frame} {meth : Method} {c : Code} {cc : ByteArray} {nL : Nat} {own : String} {Q : State → Prop} {cells slots pc : Nat} {L L' : List (Nat × Value)} {st : List Value} {σ : z_S}
theorem zt_iconst (hX : z_X D cI cJ cM cS p s m args c cc nL own) {k : Int} {v : Int32} (hd : decode cc pc = .ok (.iconst k, 1)) (hv : Int32.ofInt k = v) (kk : z_t D cI cJ cM cS n0 p l e R s m args below meth c nL Q cells slots (pc + 1) L (.int v :: st) σ) : z_t D cI cJ cM cS n0 p l e R s m args below meth c nL Q cells slots pc L st σ := fun hN => zr_iconst hX hd hv (kk hN)
theorem zt_bipush (hX : z_X D cI cJ cM cS p s m args c cc nL own) {k : Int} {v : Int32} (hd : decode cc pc = .ok (.bipush k, 2)) (hv : (Int8.ofInt k).toInt32 = v) (kk : z_t D cI cJ cM cS n0 p l e R s m args below meth c nL Q cells slots (pc + 2) L (.int v :: st) σ) : z_t D cI cJ cM cS n0 p l e R s m args below meth c nL Q cells slots pc L st σ := fun hN => zr_bipush hX hd hv (kk hN)
theorem zt_sipush (hX : z_X D cI cJ cM cS p s m args c cc nL own) {k : Int} {v : Int32} (hd : decode cc pc = .ok (.sipush k, 3)) (hv : (Int16.ofInt k).toInt32 = v) (kk : z_t D cI cJ cM cS n0 p l e R s m args below meth c nL Q cells slots (pc + 3) L (.int v :: st) σ) : z_t D cI cJ cM cS n0 p l e R s m args below meth c nL Q cells slots pc L st σ := fun hN => zr_sipush hX hd hv (kk hN)
theorem zt_lconst (hX : z_X D cI cJ cM cS p s m args c cc nL own) {k : Fin 2} {v : Int64} (hd : decode cc pc = .ok (.lconst k, 1)) (hv : Int64.ofNat (k : Nat) = v) (kk : z_t D cI cJ cM cS n0 p l e R s m args below meth c nL Q cells slots (pc + 1) L (.long v :: st) σ) : z_t D cI cJ cM cS n0 p l e R s m args below meth c nL Q cells slots pc L st σ := fun hN => zr_lconst hX hd hv (kk hN)
theorem zt_ldc (hX : z_X D cI cJ cM cS p s m args c cc nL own) {i : Nat} {v : Int32} (hd : decode cc pc = .ok (.ldc i, 2)) (hw : Cond.constant own i v ∈ z_ws) (kk : z_t D cI cJ cM cS n0 p l e R s m args below meth c nL Q cells slots (pc + 2) L (.int v :: st) σ) : z_t D cI cJ cM cS n0 p l e R s m args below meth c nL Q cells slots pc L st σ := fun hN => zr_ldc hX hd hw (kk hN)
theorem zt_ldcf (hX : z_X D cI cJ cM cS p s m args c cc nL own) {i : Nat} {v : UInt32} (hd : decode cc pc = .ok (.ldc i, 2)) (hw : Cond.constantFloat own i v ∈ z_ws) (kk : z_t D cI cJ cM cS n0 p l e R s m args below meth c nL Q cells slots (pc + 2) L (.float v :: st) σ) : z_t D cI cJ cM cS n0 p l e R s m args below meth c nL Q cells slots pc L st σ := fun hN => zr_ldcf hX hd hw (kk hN)
theorem zt_ldc2 (hX : z_X D cI cJ cM cS p s m args c cc nL own) {i : Nat} {v : Int64} (hd : decode cc pc = .ok (.ldc2_w i, 3)) (hw : Cond.constantLong own i v ∈ z_ws) (kk : z_t D cI cJ cM cS n0 p l e R s m args below meth c nL Q cells slots (pc + 3) L (.long v :: st) σ) : z_t D cI cJ cM cS n0 p l e R s m args below meth c nL Q cells slots pc L st σ := fun hN => zr_ldc2 hX hd hw (kk hN)
theorem zt_fconst0 (hX : z_X D cI cJ cM cS p s m args c cc nL own) (hd : decode cc pc = .ok (.fconst 0, 1)) (kk : z_t D cI cJ cM cS n0 p l e R s m args below meth c nL Q cells slots (pc + 1) L (.float FP.fconst0 :: st) σ) : z_t D cI cJ cM cS n0 p l e R s m args below meth c nL Q cells slots pc L st σ := fun hN => zr_fconst0 hX hd (kk hN)
theorem zt_fconst1 (hX : z_X D cI cJ cM cS p s m args c cc nL own) (hd : decode cc pc = .ok (.fconst 1, 1)) (kk : z_t D cI cJ cM cS n0 p l e R s m args below meth c nL Q cells slots (pc + 1) L (.float FP.fconst1 :: st) σ) : z_t D cI cJ cM cS n0 p l e R s m args below meth c nL Q cells slots pc L st σ := fun hN => zr_fconst1 hX hd (kk hN)
theorem zt_fconst2 (hX : z_X D cI cJ cM cS p s m args c cc nL own) (hd : decode cc pc = .ok (.fconst 2, 1)) (kk : z_t D cI cJ cM cS n0 p l e R s m args below meth c nL Q cells slots (pc + 1) L (.float FP.fconst2 :: st) σ) : z_t D cI cJ cM cS n0 p l e R s m args below meth c nL Q cells slots pc L st σ := fun hN => zr_fconst2 hX hd (kk hN)
theorem zt_iload_n (hX : z_X D cI cJ cM cS p s m args c cc nL own) {k : Fin 4} {i : Nat} (j : Nat) {x : Int32} (hd : decode cc pc = .ok (.iload_n k, 1)) (hi : (k : Nat) = i) (hL : L[j]? = some (i, .int x)) (kk : z_t D cI cJ cM cS n0 p l e R s m args below meth c nL Q cells slots (pc + 1) L (.int x :: st) σ) : z_t D cI cJ cM cS n0 p l e R s m args below meth c nL Q cells slots pc L st σ := fun hN => zr_iload_n hX j hd hi hL (kk hN)
theorem zt_iload (hX : z_X D cI cJ cM cS p s m args c cc nL own) {i : Nat} (j : Nat) {x : Int32} (hd : decode cc pc = .ok (.iload i, 2)) (hL : L[j]? = some (i, .int x)) (kk : z_t D cI cJ cM cS n0 p l e R s m args below meth c nL Q cells slots (pc + 2) L (.int x :: st) σ) : z_t D cI cJ cM cS n0 p l e R s m args below meth c nL Q cells slots pc L st σ := fun hN => zr_iload hX j hd hL (kk hN)
theorem zt_istore_n (hX : z_X D cI cJ cM cS p s m args c cc nL own) {k : Fin 4} {i : Nat} {x : Int32} (hd : decode cc pc = .ok (.istore_n k, 1)) (hi : (k : Nat) = i) (hn : i < nL) (hF : (i, Value.int x) :: L.filter (fun q => !(q.1 == i) && !(q.1 + 1 == i && q.2.category == 2)) = L') (kk : z_t D cI cJ cM cS n0 p l e R s m args below meth c nL Q cells slots (pc + 1) L' st σ) : z_t D cI cJ cM cS n0 p l e R s m args below meth c nL Q cells slots pc L (.int x :: st) σ := fun hN => zr_istore_n hX hd hi hn hF (kk hN)
theorem zt_istore (hX : z_X D cI cJ cM cS p s m args c cc nL own) {i : Nat} {x : Int32} (hd : decode cc pc = .ok (.istore i, 2)) (hn : i < nL) (hF : (i, Value.int x) :: L.filter (fun q => !(q.1 == i) && !(q.1 + 1 == i && q.2.category == 2)) = L') (kk : z_t D cI cJ cM cS n0 p l e R s m args below meth c nL Q cells slots (pc + 2) L' st σ) : z_t D cI cJ cM cS n0 p l e R s m args below meth c nL Q cells slots pc L (.int x :: st) σ := fun hN => zr_istore hX hd hn hF (kk hN)
theorem zt_lload_n (hX : z_X D cI cJ cM cS p s m args c cc nL own) {k : Fin 4} {i : Nat} (j : Nat) {x : Int64} (hd : decode cc pc = .ok (.lload_n k, 1)) (hi : (k : Nat) = i) (hL : L[j]? = some (i, .long x)) (kk : z_t D cI cJ cM cS n0 p l e R s m args below meth c nL Q cells slots (pc + 1) L (.long x :: st) σ) : z_t D cI cJ cM cS n0 p l e R s m args below meth c nL Q cells slots pc L st σ := fun hN => zr_lload_n hX j hd hi hL (kk hN)
theorem zt_lload (hX : z_X D cI cJ cM cS p s m args c cc nL own) {i : Nat} (j : Nat) {x : Int64} (hd : decode cc pc = .ok (.lload i, 2)) (hL : L[j]? = some (i, .long x)) (kk : z_t D cI cJ cM cS n0 p l e R s m args below meth c nL Q cells slots (pc + 2) L (.long x :: st) σ) : z_t D cI cJ cM cS n0 p l e R s m args below meth c nL Q cells slots pc L st σ := fun hN => zr_lload hX j hd hL (kk hN)
theorem zt_lstore_n (hX : z_X D cI cJ cM cS p s m args c cc nL own) {k : Fin 4} {i : Nat} {x : Int64} (hd : decode cc pc = .ok (.lstore_n k, 1)) (hi : (k : Nat) = i) (hn : i + 1 < nL) (hF : (i, Value.long x) :: L.filter (fun q => !(q.1 == i) && (!(q.1 == i + 1) && !(q.1 + 1 == i && q.2.category == 2))) = L') (kk : z_t D cI cJ cM cS n0 p l e R s m args below meth c nL Q cells slots (pc + 1) L' st σ) : z_t D cI cJ cM cS n0 p l e R s m args below meth c nL Q cells slots pc L (.long x :: st) σ := fun hN => zr_lstore_n hX hd hi hn hF (kk hN)
theorem zt_lstore (hX : z_X D cI cJ cM cS p s m args c cc nL own) {i : Nat} {x : Int64} (hd : decode cc pc = .ok (.lstore i, 2)) (hn : i + 1 < nL) (hF : (i, Value.long x) :: L.filter (fun q => !(q.1 == i) && (!(q.1 == i + 1) && !(q.1 + 1 == i && q.2.category == 2))) = L') (kk : z_t D cI cJ cM cS n0 p l e R s m args below meth c nL Q cells slots (pc + 2) L' st σ) : z_t D cI cJ cM cS n0 p l e R s m args below meth c nL Q cells slots pc L (.long x :: st) σ := fun hN => zr_lstore hX hd hn hF (kk hN)
theorem zt_aload_n (hX : z_X D cI cJ cM cS p s m args c cc nL own) {k : Fin 4} {i : Nat} (j : Nat) {x : Nat} (hd : decode cc pc = .ok (.aload_n k, 1)) (hi : (k : Nat) = i) (hL : L[j]? = some (i, .ref x)) (kk : z_t D cI cJ cM cS n0 p l e R s m args below meth c nL Q cells slots (pc + 1) L (.ref x :: st) σ) : z_t D cI cJ cM cS n0 p l e R s m args below meth c nL Q cells slots pc L st σ := fun hN => zr_aload_n hX j hd hi hL (kk hN)
theorem zt_aload (hX : z_X D cI cJ cM cS p s m args c cc nL own) {i : Nat} (j : Nat) {x : Nat} (hd : decode cc pc = .ok (.aload i, 2)) (hL : L[j]? = some (i, .ref x)) (kk : z_t D cI cJ cM cS n0 p l e R s m args below meth c nL Q cells slots (pc + 2) L (.ref x :: st) σ) : z_t D cI cJ cM cS n0 p l e R s m args below meth c nL Q cells slots pc L st σ := fun hN => zr_aload hX j hd hL (kk hN)
theorem zt_astore_n (hX : z_X D cI cJ cM cS p s m args c cc nL own) {k : Fin 4} {i : Nat} {x : Nat} (hd : decode cc pc = .ok (.astore_n k, 1)) (hi : (k : Nat) = i) (hn : i < nL) (hF : (i, Value.ref x) :: L.filter (fun q => !(q.1 == i) && !(q.1 + 1 == i && q.2.category == 2)) = L') (kk : z_t D cI cJ cM cS n0 p l e R s m args below meth c nL Q cells slots (pc + 1) L' st σ) : z_t D cI cJ cM cS n0 p l e R s m args below meth c nL Q cells slots pc L (.ref x :: st) σ := fun hN => zr_astore_n hX hd hi hn hF (kk hN)
theorem zt_astore (hX : z_X D cI cJ cM cS p s m args c cc nL own) {i : Nat} {x : Nat} (hd : decode cc pc = .ok (.astore i, 2)) (hn : i < nL) (hF : (i, Value.ref x) :: L.filter (fun q => !(q.1 == i) && !(q.1 + 1 == i && q.2.category == 2)) = L') (kk : z_t D cI cJ cM cS n0 p l e R s m args below meth c nL Q cells slots (pc + 2) L' st σ) : z_t D cI cJ cM cS n0 p l e R s m args below meth c nL Q cells slots pc L (.ref x :: st) σ := fun hN => zr_astore hX hd hn hF (kk hN)
theorem zt_fload_n (hX : z_X D cI cJ cM cS p s m args c cc nL own) {k : Fin 4} {i : Nat} (j : Nat) {x : UInt32} (hd : decode cc pc = .ok (.fload_n k, 1)) (hi : (k : Nat) = i) (hL : L[j]? = some (i, .float x)) (kk : z_t D cI cJ cM cS n0 p l e R s m args below meth c nL Q cells slots (pc + 1) L (.float x :: st) σ) : z_t D cI cJ cM cS n0 p l e R s m args below meth c nL Q cells slots pc L st σ := fun hN => zr_fload_n hX j hd hi hL (kk hN)
theorem zt_fload (hX : z_X D cI cJ cM cS p s m args c cc nL own) {i : Nat} (j : Nat) {x : UInt32} (hd : decode cc pc = .ok (.fload i, 2)) (hL : L[j]? = some (i, .float x)) (kk : z_t D cI cJ cM cS n0 p l e R s m args below meth c nL Q cells slots (pc + 2) L (.float x :: st) σ) : z_t D cI cJ cM cS n0 p l e R s m args below meth c nL Q cells slots pc L st σ := fun hN => zr_fload hX j hd hL (kk hN)
theorem zt_fstore_n (hX : z_X D cI cJ cM cS p s m args c cc nL own) {k : Fin 4} {i : Nat} {x : UInt32} (hd : decode cc pc = .ok (.fstore_n k, 1)) (hi : (k : Nat) = i) (hn : i < nL) (hF : (i, Value.float x) :: L.filter (fun q => !(q.1 == i) && !(q.1 + 1 == i && q.2.category == 2)) = L') (kk : z_t D cI cJ cM cS n0 p l e R s m args below meth c nL Q cells slots (pc + 1) L' st σ) : z_t D cI cJ cM cS n0 p l e R s m args below meth c nL Q cells slots pc L (.float x :: st) σ := fun hN => zr_fstore_n hX hd hi hn hF (kk hN)
theorem zt_fstore (hX : z_X D cI cJ cM cS p s m args c cc nL own) {i : Nat} {x : UInt32} (hd : decode cc pc = .ok (.fstore i, 2)) (hn : i < nL) (hF : (i, Value.float x) :: L.filter (fun q => !(q.1 == i) && !(q.1 + 1 == i && q.2.category == 2)) = L') (kk : z_t D cI cJ cM cS n0 p l e R s m args below meth c nL Q cells slots (pc + 2) L' st σ) : z_t D cI cJ cM cS n0 p l e R s m args below meth c nL Q cells slots pc L (.float x :: st) σ := fun hN => zr_fstore hX hd hn hF (kk hN)
theorem zt_iinc (hX : z_X D cI cJ cM cS p s m args c cc nL own) {i : Nat} (j : Nat) {k : Int} {x v : Int32} (hd : decode cc pc = .ok (.iinc i k, 3)) (hL : L[j]? = some (i, .int x)) (hv : x + Int32.ofInt k = v) (hn : i < nL) (hF : (i, Value.int v) :: L.filter (fun q => !(q.1 == i) && !(q.1 + 1 == i && q.2.category == 2)) = L') (kk : z_t D cI cJ cM cS n0 p l e R s m args below meth c nL Q cells slots (pc + 3) L' st σ) : z_t D cI cJ cM cS n0 p l e R s m args below meth c nL Q cells slots pc L st σ := fun hN => zr_iinc hX j hd hL hv hn hF (kk hN)
theorem zt_iadd (hX : z_X D cI cJ cM cS p s m args c cc nL own) {x y : Int32} (hd : decode cc pc = .ok (.iadd, 1)) (kk : z_t D cI cJ cM cS n0 p l e R s m args below meth c nL Q cells slots (pc + 1) L (.int (x + y) :: st) σ) : z_t D cI cJ cM cS n0 p l e R s m args below meth c nL Q cells slots pc L (.int y :: .int x :: st) σ := fun hN => zr_iadd hX hd (kk hN)
theorem zt_isub (hX : z_X D cI cJ cM cS p s m args c cc nL own) {x y : Int32} (hd : decode cc pc = .ok (.isub, 1)) (kk : z_t D cI cJ cM cS n0 p l e R s m args below meth c nL Q cells slots (pc + 1) L (.int (x - y) :: st) σ) : z_t D cI cJ cM cS n0 p l e R s m args below meth c nL Q cells slots pc L (.int y :: .int x :: st) σ := fun hN => zr_isub hX hd (kk hN)
theorem zt_imul (hX : z_X D cI cJ cM cS p s m args c cc nL own) {x y : Int32} (hd : decode cc pc = .ok (.imul, 1)) (kk : z_t D cI cJ cM cS n0 p l e R s m args below meth c nL Q cells slots (pc + 1) L (.int (x * y) :: st) σ) : z_t D cI cJ cM cS n0 p l e R s m args below meth c nL Q cells slots pc L (.int y :: .int x :: st) σ := fun hN => zr_imul hX hd (kk hN)
theorem zt_ladd (hX : z_X D cI cJ cM cS p s m args c cc nL own) {x y : Int64} (hd : decode cc pc = .ok (.ladd, 1)) (kk : z_t D cI cJ cM cS n0 p l e R s m args below meth c nL Q cells slots (pc + 1) L (.long (x + y) :: st) σ) : z_t D cI cJ cM cS n0 p l e R s m args below meth c nL Q cells slots pc L (.long y :: .long x :: st) σ := fun hN => zr_ladd hX hd (kk hN)
theorem zt_lsub (hX : z_X D cI cJ cM cS p s m args c cc nL own) {x y : Int64} (hd : decode cc pc = .ok (.lsub, 1)) (kk : z_t D cI cJ cM cS n0 p l e R s m args below meth c nL Q cells slots (pc + 1) L (.long (x - y) :: st) σ) : z_t D cI cJ cM cS n0 p l e R s m args below meth c nL Q cells slots pc L (.long y :: .long x :: st) σ := fun hN => zr_lsub hX hd (kk hN)
theorem zt_lmul (hX : z_X D cI cJ cM cS p s m args c cc nL own) {x y : Int64} (hd : decode cc pc = .ok (.lmul, 1)) (kk : z_t D cI cJ cM cS n0 p l e R s m args below meth c nL Q cells slots (pc + 1) L (.long (x * y) :: st) σ) : z_t D cI cJ cM cS n0 p l e R s m args below meth c nL Q cells slots pc L (.long y :: .long x :: st) σ := fun hN => zr_lmul hX hd (kk hN)
theorem zt_iand (hX : z_X D cI cJ cM cS p s m args c cc nL own) {x y : Int32} (hd : decode cc pc = .ok (.iand, 1)) (kk : z_t D cI cJ cM cS n0 p l e R s m args below meth c nL Q cells slots (pc + 1) L (.int (x &&& y) :: st) σ) : z_t D cI cJ cM cS n0 p l e R s m args below meth c nL Q cells slots pc L (.int y :: .int x :: st) σ := fun hN => zr_iand hX hd (kk hN)
theorem zt_ior (hX : z_X D cI cJ cM cS p s m args c cc nL own) {x y : Int32} (hd : decode cc pc = .ok (.ior, 1)) (kk : z_t D cI cJ cM cS n0 p l e R s m args below meth c nL Q cells slots (pc + 1) L (.int (x ||| y) :: st) σ) : z_t D cI cJ cM cS n0 p l e R s m args below meth c nL Q cells slots pc L (.int y :: .int x :: st) σ := fun hN => zr_ior hX hd (kk hN)
theorem zt_idiv (hX : z_X D cI cJ cM cS p s m args c cc nL own) {x y : Int32} (hd : decode cc pc = .ok (.idiv, 1)) (hne : ¬ y = 0) (kk : z_t D cI cJ cM cS n0 p l e R s m args below meth c nL Q cells slots (pc + 1) L (.int (x / y) :: st) σ) : z_t D cI cJ cM cS n0 p l e R s m args below meth c nL Q cells slots pc L (.int y :: .int x :: st) σ := fun hN => zr_idiv hX hd hne (kk hN)
theorem zt_irem (hX : z_X D cI cJ cM cS p s m args c cc nL own) {x y : Int32} (hd : decode cc pc = .ok (.irem, 1)) (hne : ¬ y = 0) (kk : z_t D cI cJ cM cS n0 p l e R s m args below meth c nL Q cells slots (pc + 1) L (.int (x - x / y * y) :: st) σ) : z_t D cI cJ cM cS n0 p l e R s m args below meth c nL Q cells slots pc L (.int y :: .int x :: st) σ := fun hN => zr_irem hX hd hne (kk hN)
theorem zt_ldiv (hX : z_X D cI cJ cM cS p s m args c cc nL own) {x y : Int64} (hd : decode cc pc = .ok (.ldiv, 1)) (hne : ¬ y = 0) (kk : z_t D cI cJ cM cS n0 p l e R s m args below meth c nL Q cells slots (pc + 1) L (.long (x / y) :: st) σ) : z_t D cI cJ cM cS n0 p l e R s m args below meth c nL Q cells slots pc L (.long y :: .long x :: st) σ := fun hN => zr_ldiv hX hd hne (kk hN)
theorem zt_lrem (hX : z_X D cI cJ cM cS p s m args c cc nL own) {x y : Int64} (hd : decode cc pc = .ok (.lrem, 1)) (hne : ¬ y = 0) (kk : z_t D cI cJ cM cS n0 p l e R s m args below meth c nL Q cells slots (pc + 1) L (.long (x - x / y * y) :: st) σ) : z_t D cI cJ cM cS n0 p l e R s m args below meth c nL Q cells slots pc L (.long y :: .long x :: st) σ := fun hN => zr_lrem hX hd hne (kk hN)
theorem zt_i2l (hX : z_X D cI cJ cM cS p s m args c cc nL own) {x : Int32} (hd : decode cc pc = .ok (.i2l, 1)) (kk : z_t D cI cJ cM cS n0 p l e R s m args below meth c nL Q cells slots (pc + 1) L (.long x.toInt64 :: st) σ) : z_t D cI cJ cM cS n0 p l e R s m args below meth c nL Q cells slots pc L (.int x :: st) σ := fun hN => zr_i2l hX hd (kk hN)
theorem zt_l2i (hX : z_X D cI cJ cM cS p s m args c cc nL own) {x : Int64} (hd : decode cc pc = .ok (.l2i, 1)) (kk : z_t D cI cJ cM cS n0 p l e R s m args below meth c nL Q cells slots (pc + 1) L (.int x.toInt32 :: st) σ) : z_t D cI cJ cM cS n0 p l e R s m args below meth c nL Q cells slots pc L (.long x :: st) σ := fun hN => zr_l2i hX hd (kk hN)
theorem zt_lcmp (hX : z_X D cI cJ cM cS p s m args c cc nL own) {x y : Int64} (hd : decode cc pc = .ok (.lcmp, 1)) (kk : z_t D cI cJ cM cS n0 p l e R s m args below meth c nL Q cells slots (pc + 1) L (.int (lg_cmp x y) :: st) σ) : z_t D cI cJ cM cS n0 p l e R s m args below meth c nL Q cells slots pc L (.long y :: .long x :: st) σ := fun hN => zr_lcmp hX hd (kk hN)
theorem zt_dup (hX : z_X D cI cJ cM cS p s m args c cc nL own) {v : Value} (hd : decode cc pc = .ok (.dup, 1)) (hv : v.category = 1) (kk : z_t D cI cJ cM cS n0 p l e R s m args below meth c nL Q cells slots (pc + 1) L (v :: v :: st) σ) : z_t D cI cJ cM cS n0 p l e R s m args below meth c nL Q cells slots pc L (v :: st) σ := fun hN => zr_dup hX hd hv (kk hN)
theorem zt_dup2 (hX : z_X D cI cJ cM cS p s m args c cc nL own) {v w : Value} (hd : decode cc pc = .ok (.dup2, 1)) (hv : v.category = 1) (hw : w.category = 1) (kk : z_t D cI cJ cM cS n0 p l e R s m args below meth c nL Q cells slots (pc + 1) L (v :: w :: v :: w :: st) σ) : z_t D cI cJ cM cS n0 p l e R s m args below meth c nL Q cells slots pc L (v :: w :: st) σ := fun hN => zr_dup2 hX hd hv hw (kk hN)
theorem zt_if_eq (hX : z_X D cI cJ cM cS p s m args c cc nL own) {x : Int32} {off : Int} {tgt : Nat} (hd : decode cc pc = .ok (.ifCond .eq off, 3)) (ht : (pc : Int) + off = (tgt : Int)) (kt : x = 0 → z_t D cI cJ cM cS n0 p l e R s m args below meth c nL Q cells slots tgt L st σ) (kf : ¬ x = 0 → z_t D cI cJ cM cS n0 p l e R s m args below meth c nL Q cells slots (pc + 3) L st σ) : z_t D cI cJ cM cS n0 p l e R s m args below meth c nL Q cells slots pc L (.int x :: st) σ := fun hN => zr_if_eq hX hd ht (fun q => kt q hN) (fun q => kf q hN)
theorem zt_if_ne (hX : z_X D cI cJ cM cS p s m args c cc nL own) {x : Int32} {off : Int} {tgt : Nat} (hd : decode cc pc = .ok (.ifCond .ne off, 3)) (ht : (pc : Int) + off = (tgt : Int)) (kt : ¬ x = 0 → z_t D cI cJ cM cS n0 p l e R s m args below meth c nL Q cells slots tgt L st σ) (kf : x = 0 → z_t D cI cJ cM cS n0 p l e R s m args below meth c nL Q cells slots (pc + 3) L st σ) : z_t D cI cJ cM cS n0 p l e R s m args below meth c nL Q cells slots pc L (.int x :: st) σ := fun hN => zr_if_ne hX hd ht (fun q => kt q hN) (fun q => kf q hN)
theorem zt_if_lt (hX : z_X D cI cJ cM cS p s m args c cc nL own) {x : Int32} {off : Int} {tgt : Nat} (hd : decode cc pc = .ok (.ifCond .lt off, 3)) (ht : (pc : Int) + off = (tgt : Int)) (kt : x < 0 → z_t D cI cJ cM cS n0 p l e R s m args below meth c nL Q cells slots tgt L st σ) (kf : ¬ x < 0 → z_t D cI cJ cM cS n0 p l e R s m args below meth c nL Q cells slots (pc + 3) L st σ) : z_t D cI cJ cM cS n0 p l e R s m args below meth c nL Q cells slots pc L (.int x :: st) σ := fun hN => zr_if_lt hX hd ht (fun q => kt q hN) (fun q => kf q hN)
theorem zt_if_ge (hX : z_X D cI cJ cM cS p s m args c cc nL own) {x : Int32} {off : Int} {tgt : Nat} (hd : decode cc pc = .ok (.ifCond .ge off, 3)) (ht : (pc : Int) + off = (tgt : Int)) (kt : 0 ≤ x → z_t D cI cJ cM cS n0 p l e R s m args below meth c nL Q cells slots tgt L st σ) (kf : ¬ 0 ≤ x → z_t D cI cJ cM cS n0 p l e R s m args below meth c nL Q cells slots (pc + 3) L st σ) : z_t D cI cJ cM cS n0 p l e R s m args below meth c nL Q cells slots pc L (.int x :: st) σ := fun hN => zr_if_ge hX hd ht (fun q => kt q hN) (fun q => kf q hN)
theorem zt_if_gt (hX : z_X D cI cJ cM cS p s m args c cc nL own) {x : Int32} {off : Int} {tgt : Nat} (hd : decode cc pc = .ok (.ifCond .gt off, 3)) (ht : (pc : Int) + off = (tgt : Int)) (kt : 0 < x → z_t D cI cJ cM cS n0 p l e R s m args below meth c nL Q cells slots tgt L st σ) (kf : ¬ 0 < x → z_t D cI cJ cM cS n0 p l e R s m args below meth c nL Q cells slots (pc + 3) L st σ) : z_t D cI cJ cM cS n0 p l e R s m args below meth c nL Q cells slots pc L (.int x :: st) σ := fun hN => zr_if_gt hX hd ht (fun q => kt q hN) (fun q => kf q hN)
theorem zt_if_le (hX : z_X D cI cJ cM cS p s m args c cc nL own) {x : Int32} {off : Int} {tgt : Nat} (hd : decode cc pc = .ok (.ifCond .le off, 3)) (ht : (pc : Int) + off = (tgt : Int)) (kt : x ≤ 0 → z_t D cI cJ cM cS n0 p l e R s m args below meth c nL Q cells slots tgt L st σ) (kf : ¬ x ≤ 0 → z_t D cI cJ cM cS n0 p l e R s m args below meth c nL Q cells slots (pc + 3) L st σ) : z_t D cI cJ cM cS n0 p l e R s m args below meth c nL Q cells slots pc L (.int x :: st) σ := fun hN => zr_if_le hX hd ht (fun q => kt q hN) (fun q => kf q hN)
theorem zt_icmp_eq (hX : z_X D cI cJ cM cS p s m args c cc nL own) {x y : Int32} {off : Int} {tgt : Nat} (hd : decode cc pc = .ok (.if_icmp .eq off, 3)) (ht : (pc : Int) + off = (tgt : Int)) (kt : x = y → z_t D cI cJ cM cS n0 p l e R s m args below meth c nL Q cells slots tgt L st σ) (kf : ¬ x = y → z_t D cI cJ cM cS n0 p l e R s m args below meth c nL Q cells slots (pc + 3) L st σ) : z_t D cI cJ cM cS n0 p l e R s m args below meth c nL Q cells slots pc L (.int y :: .int x :: st) σ := fun hN => zr_icmp_eq hX hd ht (fun q => kt q hN) (fun q => kf q hN)
theorem zt_icmp_ne (hX : z_X D cI cJ cM cS p s m args c cc nL own) {x y : Int32} {off : Int} {tgt : Nat} (hd : decode cc pc = .ok (.if_icmp .ne off, 3)) (ht : (pc : Int) + off = (tgt : Int)) (kt : ¬ x = y → z_t D cI cJ cM cS n0 p l e R s m args below meth c nL Q cells slots tgt L st σ) (kf : x = y → z_t D cI cJ cM cS n0 p l e R s m args below meth c nL Q cells slots (pc + 3) L st σ) : z_t D cI cJ cM cS n0 p l e R s m args below meth c nL Q cells slots pc L (.int y :: .int x :: st) σ := fun hN => zr_icmp_ne hX hd ht (fun q => kt q hN) (fun q => kf q hN)
theorem zt_icmp_lt (hX : z_X D cI cJ cM cS p s m args c cc nL own) {x y : Int32} {off : Int} {tgt : Nat} (hd : decode cc pc = .ok (.if_icmp .lt off, 3)) (ht : (pc : Int) + off = (tgt : Int)) (kt : x < y → z_t D cI cJ cM cS n0 p l e R s m args below meth c nL Q cells slots tgt L st σ) (kf : ¬ x < y → z_t D cI cJ cM cS n0 p l e R s m args below meth c nL Q cells slots (pc + 3) L st σ) : z_t D cI cJ cM cS n0 p l e R s m args below meth c nL Q cells slots pc L (.int y :: .int x :: st) σ := fun hN => zr_icmp_lt hX hd ht (fun q => kt q hN) (fun q => kf q hN)
theorem zt_icmp_ge (hX : z_X D cI cJ cM cS p s m args c cc nL own) {x y : Int32} {off : Int} {tgt : Nat} (hd : decode cc pc = .ok (.if_icmp .ge off, 3)) (ht : (pc : Int) + off = (tgt : Int)) (kt : y ≤ x → z_t D cI cJ cM cS n0 p l e R s m args below meth c nL Q cells slots tgt L st σ) (kf : ¬ y ≤ x → z_t D cI cJ cM cS n0 p l e R s m args below meth c nL Q cells slots (pc + 3) L st σ) : z_t D cI cJ cM cS n0 p l e R s m args below meth c nL Q cells slots pc L (.int y :: .int x :: st) σ := fun hN => zr_icmp_ge hX hd ht (fun q => kt q hN) (fun q => kf q hN)
theorem zt_icmp_gt (hX : z_X D cI cJ cM cS p s m args c cc nL own) {x y : Int32} {off : Int} {tgt : Nat} (hd : decode cc pc = .ok (.if_icmp .gt off, 3)) (ht : (pc : Int) + off = (tgt : Int)) (kt : y < x → z_t D cI cJ cM cS n0 p l e R s m args below meth c nL Q cells slots tgt L st σ) (kf : ¬ y < x → z_t D cI cJ cM cS n0 p l e R s m args below meth c nL Q cells slots (pc + 3) L st σ) : z_t D cI cJ cM cS n0 p l e R s m args below meth c nL Q cells slots pc L (.int y :: .int x :: st) σ := fun hN => zr_icmp_gt hX hd ht (fun q => kt q hN) (fun q => kf q hN)
theorem zt_icmp_le (hX : z_X D cI cJ cM cS p s m args c cc nL own) {x y : Int32} {off : Int} {tgt : Nat} (hd : decode cc pc = .ok (.if_icmp .le off, 3)) (ht : (pc : Int) + off = (tgt : Int)) (kt : x ≤ y → z_t D cI cJ cM cS n0 p l e R s m args below meth c nL Q cells slots tgt L st σ) (kf : ¬ x ≤ y → z_t D cI cJ cM cS n0 p l e R s m args below meth c nL Q cells slots (pc + 3) L st σ) : z_t D cI cJ cM cS n0 p l e R s m args below meth c nL Q cells slots pc L (.int y :: .int x :: st) σ := fun hN => zr_icmp_le hX hd ht (fun q => kt q hN) (fun q => kf q hN)
theorem zt_goto (hX : z_X D cI cJ cM cS p s m args c cc nL own) {off : Int} {tgt : Nat} (hd : decode cc pc = .ok (.goto off, 3)) (ht : (pc : Int) + off = (tgt : Int)) (kk : z_t D cI cJ cM cS n0 p l e R s m args below meth c nL Q cells slots tgt L st σ) : z_t D cI cJ cM cS n0 p l e R s m args below meth c nL Q cells slots pc L st σ := fun hN => zr_goto hX hd ht (kk hN)
theorem zt_ineg (hX : z_X D cI cJ cM cS p s m args c cc nL own) {x : Int32} (hd : decode cc pc = .ok (.ineg, 1)) (kk : z_t D cI cJ cM cS n0 p l e R s m args below meth c nL Q cells slots (pc + 1) L (.int (-x) :: st) σ) : z_t D cI cJ cM cS n0 p l e R s m args below meth c nL Q cells slots pc L (.int x :: st) σ := fun hN => zr_ineg hX hd (kk hN)
theorem zt_lneg (hX : z_X D cI cJ cM cS p s m args c cc nL own) {x : Int64} (hd : decode cc pc = .ok (.lneg, 1)) (kk : z_t D cI cJ cM cS n0 p l e R s m args below meth c nL Q cells slots (pc + 1) L (.long (-x) :: st) σ) : z_t D cI cJ cM cS n0 p l e R s m args below meth c nL Q cells slots pc L (.long x :: st) σ := fun hN => zr_lneg hX hd (kk hN)
theorem zt_ishl (hX : z_X D cI cJ cM cS p s m args c cc nL own) {x y : Int32} (hd : decode cc pc = .ok (.ishl, 1)) (kk : z_t D cI cJ cM cS n0 p l e R s m args below meth c nL Q cells slots (pc + 1) L (.int (x <<< (y &&& 31)) :: st) σ) : z_t D cI cJ cM cS n0 p l e R s m args below meth c nL Q cells slots pc L (.int y :: .int x :: st) σ := fun hN => zr_ishl hX hd (kk hN)
theorem zt_fneg (hX : z_X D cI cJ cM cS p s m args c cc nL own) {x : UInt32} (hd : decode cc pc = .ok (.fneg, 1)) (kk : z_t D cI cJ cM cS n0 p l e R s m args below meth c nL Q cells slots (pc + 1) L (.float (FP.fneg x) :: st) σ) : z_t D cI cJ cM cS n0 p l e R s m args below meth c nL Q cells slots pc L (.float x :: st) σ := fun hN => zr_fneg hX hd (kk hN)
theorem zt_fsub (hX : z_X D cI cJ cM cS p s m args c cc nL own) {x y : UInt32} (hd : decode cc pc = .ok (.fsub, 1)) (hne : vf_n32 (FP.fsub x y)) (kk : z_t D cI cJ cM cS n0 p l e R s m args below meth c nL Q cells slots (pc + 1) L (.float (FP.fsub x y) :: st) σ) : z_t D cI cJ cM cS n0 p l e R s m args below meth c nL Q cells slots pc L (.float y :: .float x :: st) σ := fun hN => zr_fsub hX hd hne (kk hN)
theorem zt_fmul (hX : z_X D cI cJ cM cS p s m args c cc nL own) {x y : UInt32} (hd : decode cc pc = .ok (.fmul, 1)) (hne : vf_n32 (FP.fmul x y)) (kk : z_t D cI cJ cM cS n0 p l e R s m args below meth c nL Q cells slots (pc + 1) L (.float (FP.fmul x y) :: st) σ) : z_t D cI cJ cM cS n0 p l e R s m args below meth c nL Q cells slots pc L (.float y :: .float x :: st) σ := fun hN => zr_fmul hX hd hne (kk hN)
theorem zt_fdiv (hX : z_X D cI cJ cM cS p s m args c cc nL own) {x y : UInt32} (hd : decode cc pc = .ok (.fdiv, 1)) (hne : vf_n32 (FP.fdiv x y)) (kk : z_t D cI cJ cM cS n0 p l e R s m args below meth c nL Q cells slots (pc + 1) L (.float (FP.fdiv x y) :: st) σ) : z_t D cI cJ cM cS n0 p l e R s m args below meth c nL Q cells slots pc L (.float y :: .float x :: st) σ := fun hN => zr_fdiv hX hd hne (kk hN)
theorem zt_fcmp (hX : z_X D cI cJ cM cS p s m args c cc nL own) {x y : UInt32} {op : CmpOp} (hd : decode cc pc = .ok (.fcmp op, 1)) (kk : z_t D cI cJ cM cS n0 p l e R s m args below meth c nL Q cells slots (pc + 1) L (.int (Op.cmpValue (FP.fcmp x y) op) :: st) σ) : z_t D cI cJ cM cS n0 p l e R s m args below meth c nL Q cells slots pc L (.float y :: .float x :: st) σ := fun hN => zr_fcmp hX hd (kk hN)
theorem zt_i2f (hX : z_X D cI cJ cM cS p s m args c cc nL own) {x : Int32} (hd : decode cc pc = .ok (.i2f, 1)) (kk : z_t D cI cJ cM cS n0 p l e R s m args below meth c nL Q cells slots (pc + 1) L (.float (FP.i2f x) :: st) σ) : z_t D cI cJ cM cS n0 p l e R s m args below meth c nL Q cells slots pc L (.int x :: st) σ := fun hN => zr_i2f hX hd (kk hN)
theorem zt_f2i (hX : z_X D cI cJ cM cS p s m args c cc nL own) {x : UInt32} (hd : decode cc pc = .ok (.f2i, 1)) (kk : z_t D cI cJ cM cS n0 p l e R s m args below meth c nL Q cells slots (pc + 1) L (.int (FP.f2i x) :: st) σ) : z_t D cI cJ cM cS n0 p l e R s m args below meth c nL Q cells slots pc L (.float x :: st) σ := fun hN => zr_f2i hX hd (kk hN)
theorem zt_tabIn (hX : z_X D cI cJ cM cS p s m args c cc nL own) {dflt lo hi : Int} {offs : Array Int} {len : Nat} {x : Int32} {off : Int} {tgt : Nat} (hd : decode cc pc = .ok (.tableswitch dflt lo hi offs, len)) (h1 : ¬ x.toInt < lo) (h2 : ¬ hi < x.toInt) (ho : offs[(x.toInt - lo).toNat]? = some off) (ht : (pc : Int) + off = (tgt : Int)) (kk : z_t D cI cJ cM cS n0 p l e R s m args below meth c nL Q cells slots tgt L st σ) : z_t D cI cJ cM cS n0 p l e R s m args below meth c nL Q cells slots pc L (.int x :: st) σ := fun hN => zr_tabIn hX hd h1 h2 ho ht (kk hN)
theorem zt_tabOut (hX : z_X D cI cJ cM cS p s m args c cc nL own) {dflt lo hi : Int} {offs : Array Int} {len : Nat} {x : Int32} {tgt : Nat} (hd : decode cc pc = .ok (.tableswitch dflt lo hi offs, len)) (h1 : x.toInt < lo ∨ hi < x.toInt) (ht : (pc : Int) + dflt = (tgt : Int)) (kk : z_t D cI cJ cM cS n0 p l e R s m args below meth c nL Q cells slots tgt L st σ) : z_t D cI cJ cM cS n0 p l e R s m args below meth c nL Q cells slots pc L (.int x :: st) σ := fun hN => zr_tabOut hX hd h1 ht (kk hN)
theorem zt_nmi {x : Int32} (kk : ∀ y : Int32, y = x → z_t D cI cJ cM cS n0 p l e R s m args below meth c nL Q cells slots pc L (.int y :: st) σ) : z_t D cI cJ cM cS n0 p l e R s m args below meth c nL Q cells slots pc L (.int x :: st) σ := kk x rfl
theorem zt_nml {x : Int64} (kk : ∀ y : Int64, y = x → z_t D cI cJ cM cS n0 p l e R s m args below meth c nL Q cells slots pc L (.long y :: st) σ) : z_t D cI cJ cM cS n0 p l e R s m args below meth c nL Q cells slots pc L (.long x :: st) σ := kk x rfl
theorem zt_nmf {x : UInt32} (kk : ∀ y : UInt32, y = x → z_t D cI cJ cM cS n0 p l e R s m args below meth c nL Q cells slots pc L (.float y :: st) σ) : z_t D cI cJ cM cS n0 p l e R s m args below meth c nL Q cells slots pc L (.float x :: st) σ := kk x rfl
theorem zt_max (hX : z_X D cI cJ cM cS p s m args c cc nL own) {i : Nat} {x y : Int32} (hd : decode cc pc = .ok (.invokestatic i, 3)) (hw : Cond.methodLink own i Lib.Math.max.name ∈ z_ws) (h1 : 1 ≤ R.frames) (h2 : (st.map fun v => v.category).sum + 13 ≤ R.locals) (h3 : cells ≤ R.cells) (h4 : slots ≤ R.slots) (kk : z_t D cI cJ cM cS n0 p l e R s m args below meth c nL Q cells slots (pc + 3) L (.int (if x < y then y else x) :: st) σ) : z_t D cI cJ cM cS n0 p l e R s m args below meth c nL Q cells slots pc L (.int y :: .int x :: st) σ := fun hN => zr_max hX hd hw h1 h2 h3 h4 (kk hN)
theorem zt_abs (hX : z_X D cI cJ cM cS p s m args c cc nL own) {i : Nat} {x : Int32} (hd : decode cc pc = .ok (.invokestatic i, 3)) (hw : Cond.methodLink own i Lib.Math.abs.name ∈ z_ws) (h1 : 1 ≤ R.frames) (h2 : (st.map fun v => v.category).sum + 13 ≤ R.locals) (h3 : cells ≤ R.cells) (h4 : slots ≤ R.slots) (kk : z_t D cI cJ cM cS n0 p l e R s m args below meth c nL Q cells slots (pc + 3) L (.int (if 0 ≤ x then x else 0 - x) :: st) σ) : z_t D cI cJ cM cS n0 p l e R s m args below meth c nL Q cells slots pc L (.int x :: st) σ := fun hN => zr_abs hX hd hw h1 h2 h3 h4 (kk hN)
theorem zt_absl (hX : z_X D cI cJ cM cS p s m args c cc nL own) {i : Nat} {x : Int64} (hd : decode cc pc = .ok (.invokestatic i, 3)) (hw : Cond.methodLink own i Lib.MathLoose.abs_long.x ∈ z_ws) (h1 : 1 ≤ R.frames) (h2 : (st.map fun v => v.category).sum + 13 ≤ R.locals) (h3 : cells ≤ R.cells) (h4 : slots ≤ R.slots) (kk : z_t D cI cJ cM cS n0 p l e R s m args below meth c nL Q cells slots (pc + 3) L (.long (if 0 < x then x else -x) :: st) σ) : z_t D cI cJ cM cS n0 p l e R s m args below meth c nL Q cells slots pc L (.long x :: st) σ := fun hN => zr_absl hX hd hw h1 h2 h3 h4 (kk hN)
theorem zt_iaload (hX : z_X D cI cJ cM cS p s m args c cc nL own) {k len : Nat} {i : Int32} (hd : decode cc pc = .ok (.iaload, 1)) (hk : k < 81) (hs : z_sh k = (10, len)) (hi : vp_in i len) (kk : z_t D cI cJ cM cS n0 p l e R s m args below meth c nL Q cells slots (pc + 1) L (.int (zg_i σ k i.toNatClampNeg) :: st) σ) : z_t D cI cJ cM cS n0 p l e R s m args below meth c nL Q cells slots pc L (.int i :: .ref (n0 + k) :: st) σ := fun hN => zr_iaload hX hd (Nat.lt_of_lt_of_le hk hN) (z_E10 hs) hi (kk hN)
theorem zt_laload (hX : z_X D cI cJ cM cS p s m args c cc nL own) {k len : Nat} {i : Int32} (hd : decode cc pc = .ok (.laload, 1)) (hk : k < 81) (hs : z_sh k = (11, len)) (hi : vp_in i len) (kk : z_t D cI cJ cM cS n0 p l e R s m args below meth c nL Q cells slots (pc + 1) L (.long (zg_l σ k i.toNatClampNeg) :: st) σ) : z_t D cI cJ cM cS n0 p l e R s m args below meth c nL Q cells slots pc L (.int i :: .ref (n0 + k) :: st) σ := fun hN => zr_laload hX hd (Nat.lt_of_lt_of_le hk hN) (z_E11 hs) hi (kk hN)
theorem zt_aaloadM (hX : z_X D cI cJ cM cS p s m args c cc nL own) {k k1 len : Nat} {i : Int32} (hd : decode cc pc = .ok (.aaload, 1)) (hk : k < 81) (hs : z_sh k = (12, len)) (hk1 : k + 1 = k1) (hi : vp_in i len) (kk : z_t D cI cJ cM cS n0 p l e R s m args below meth c nL Q cells slots (pc + 1) L (.ref (n0 + (k1 + i.toNatClampNeg)) :: st) σ) : z_t D cI cJ cM cS n0 p l e R s m args below meth c nL Q cells slots pc L (.int i :: .ref (n0 + k) :: st) σ := fun hN => zr_aaloadM hX hd (Nat.lt_of_lt_of_le hk hN) (z_E12 hs) hi (by rw [hk1]) (kk hN)
theorem zt_iastore (hX : z_X D cI cJ cM cS p s m args c cc nL own) {k len : Nat} {i x : Int32} (hd : decode cc pc = .ok (.iastore, 1)) (hk : k < 81) (hs : z_sh k = (10, len)) (hi : vp_in i len) (kk : z_t D cI cJ cM cS n0 p l e R s m args below meth c nL Q cells slots (pc + 1) L st (zs_i σ k i.toNatClampNeg x)) : z_t D cI cJ cM cS n0 p l e R s m args below meth c nL Q cells slots pc L (.int x :: .int i :: .ref (n0 + k) :: st) σ := fun hN => zr_iastore hX hd (Nat.lt_of_lt_of_le hk hN) (z_E10 hs) hi (z_wext (z_up10 hs) (kk hN))
theorem zt_lastore (hX : z_X D cI cJ cM cS p s m args c cc nL own) {k len : Nat} {i : Int32} {x : Int64} (hd : decode cc pc = .ok (.lastore, 1)) (hk : k < 81) (hs : z_sh k = (11, len)) (hi : vp_in i len) (kk : z_t D cI cJ cM cS n0 p l e R s m args below meth c nL Q cells slots (pc + 1) L st (zs_l σ k i.toNatClampNeg x)) : z_t D cI cJ cM cS n0 p l e R s m args below meth c nL Q cells slots pc L (.long x :: .int i :: .ref (n0 + k) :: st) σ := fun hN => zr_lastore hX hd (Nat.lt_of_lt_of_le hk hN) (z_E11 hs) hi (z_wext (z_up11 hs) (kk hN))
theorem zt_alenI (hX : z_X D cI cJ cM cS p s m args c cc nL own) {k len : Nat} {v : Int32} (hd : decode cc pc = .ok (.arraylength, 1)) (hk : k < 81) (hs : z_sh k = (10, len)) (hv : Int32.ofNat len = v) (hlen : len < 2 ^ 31) (kk : z_t D cI cJ cM cS n0 p l e R s m args below meth c nL Q cells slots (pc + 1) L (.int v :: st) σ) : z_t D cI cJ cM cS n0 p l e R s m args below meth c nL Q cells slots pc L (.ref (n0 + k) :: st) σ := fun hN => zr_alenI hX hd (Nat.lt_of_lt_of_le hk hN) (z_E10 hs) hv hlen (kk hN)
theorem zt_get (hX : z_X D cI cJ cM cS p s m args c cc nL own) {ci : Nat} {C : String} {T : u_T} {N k i : Nat} {fs : List Value} (hc : vwCl[ci]? = some (C, T, N)) (hin : ∀ w ∈ u_ws C T N, w ∈ z_ws) (hk : k < 81) (he : z_E n0 cI cJ cM cS σ k = .inr (ci, fs)) (j : Nat) (hj : j < N) (hw : Cond.fieldLink own i C (T j).2.1 (T j).2.2.1 ∈ z_ws) (hT : (T j).1 = C) {v : Value} (hv : fs[j]? = some v) (hd : decode cc pc = .ok (.getfield i, 3)) (kk : z_t D cI cJ cM cS n0 p l e R s m args below meth c nL Q cells slots (pc + 3) L (v :: st) σ) : z_t D cI cJ cM cS n0 p l e R s m args below meth c nL Q cells slots pc L (.ref (n0 + k) :: st) σ := fun hN => zr_get hX hc hin (Nat.lt_of_lt_of_le hk hN) he j hj hw hT hv hd (kk hN)
theorem zt_puti (hX : z_X D cI cJ cM cS p s m args c cc nL own) {ci : Nat} {C : String} {T : u_T} {N k i : Nat} {fs : List Value} (hc : vwCl[ci]? = some (C, T, N)) (hin : ∀ w ∈ u_ws C T N, w ∈ z_ws) (hk : k < 81) (he : z_E n0 cI cJ cM cS σ k = .inr (ci, fs)) (j : Nat) (hj : j < N) (hw : Cond.fieldLink own i C (T j).2.1 (T j).2.2.1 ∈ z_ws) (hT : (T j).1 = C) (ty0 : Nat → FieldType) (hty : ∀ k, k < N → parseFieldDescriptor (T k).2.2.1 = some (ty0 k)) (hnm : ∀ a, a < N → ∀ b, b < N → a ≠ b → (T a).2.1 ≠ (T b).2.1) (hfin : (T j).2.2.2 = false) (hlen : j < fs.length) {x : Int32} (hd0 : parseFieldDescriptor (T j).2.2.1 = some .int) (he2 : z_E n0 cI cJ cM cS (zs_i σ k j x) k = .inr (ci, fs.set j (.int x))) (hd : decode cc pc = .ok (.putfield i, 3)) (kk : z_t D cI cJ cM cS n0 p l e R s m args below meth c nL Q cells slots (pc + 3) L st (zs_i σ k j x)) : z_t D cI cJ cM cS n0 p l e R s m args below meth c nL Q cells slots pc L (.int x :: .ref (n0 + k) :: st) σ := fun hN => zr_put hX hc hin (Nat.lt_of_lt_of_le hk hN) he j hj hw hT ty0 hty hnm hfin hd0 rfl rfl hlen hd (z_wext (z_upoi he2) (kk hN))
theorem zt_putl (hX : z_X D cI cJ cM cS p s m args c cc nL own) {ci : Nat} {C : String} {T : u_T} {N k i : Nat} {fs : List Value} (hc : vwCl[ci]? = some (C, T, N)) (hin : ∀ w ∈ u_ws C T N, w ∈ z_ws) (hk : k < 81) (he : z_E n0 cI cJ cM cS σ k = .inr (ci, fs)) (j : Nat) (hj : j < N) (hw : Cond.fieldLink own i C (T j).2.1 (T j).2.2.1 ∈ z_ws) (hT : (T j).1 = C) (ty0 : Nat → FieldType) (hty : ∀ k, k < N → parseFieldDescriptor (T k).2.2.1 = some (ty0 k)) (hnm : ∀ a, a < N → ∀ b, b < N → a ≠ b → (T a).2.1 ≠ (T b).2.1) (hfin : (T j).2.2.2 = false) (hlen : j < fs.length) {x : Int64} (hd0 : parseFieldDescriptor (T j).2.2.1 = some .long) (he2 : z_E n0 cI cJ cM cS (zs_l σ k j x) k = .inr (ci, fs.set j (.long x))) (hd : decode cc pc = .ok (.putfield i, 3)) (kk : z_t D cI cJ cM cS n0 p l e R s m args below meth c nL Q cells slots (pc + 3) L st (zs_l σ k j x)) : z_t D cI cJ cM cS n0 p l e R s m args below meth c nL Q cells slots pc L (.long x :: .ref (n0 + k) :: st) σ := fun hN => zr_put hX hc hin (Nat.lt_of_lt_of_le hk hN) he j hj hw hT ty0 hty hnm hfin hd0 rfl rfl hlen hd (z_wext (z_upol he2) (kk hN))
theorem zt_widen {c1 s1 : Nat} (h1 : cells ≤ c1) (h2 : slots ≤ s1) (kk : z_t D cI cJ cM cS n0 p l e R s m args below meth c nL Q c1 s1 pc L st σ) : z_t D cI cJ cM cS n0 p l e R s m args below meth c nL Q cells slots pc L st σ := fun hN H locs ls hl hR hS => W.widen h1 h2 (kk hN H locs ls hl hR hS)
end ZT1
section ZT2
def z_ci (l : Launch) (D : va_G) (cI cJ cM cS : ClassId) (n0 : Nat) (y : MethodName) (b : ByteArray) (nL : Nat) (rt : FieldType) (rm : Room) (mc ms : Nat) (av : List Value) (σ : z_S) (Q : Int32 → z_S → Prop) : Prop :=
  Met l y (.code y b nL (some rt) :: z_ws) rm (va_Pc av (z_B D cI cJ cM cS n0 σ)) (va_Qi Q (fun u t => z_Bq D cI cJ cM cS n0 u t) (z_Ab n0)) mc ms (z_Ab n0)
def z_cl (l : Launch) (D : va_G) (cI cJ cM cS : ClassId) (n0 : Nat) (y : MethodName) (b : ByteArray) (nL : Nat) (rt : FieldType) (rm : Room) (mc ms : Nat) (av : List Value) (σ : z_S) (Q : Int64 → z_S → Prop) : Prop :=
  Met l y (.code y b nL (some rt) :: z_ws) rm (va_Pc av (z_B D cI cJ cM cS n0 σ)) (va_Ql Q (fun u t => z_Bq D cI cJ cM cS n0 u t) (z_Ab n0)) mc ms (z_Ab n0)
def z_cf (l : Launch) (D : va_G) (cI cJ cM cS : ClassId) (n0 : Nat) (y : MethodName) (b : ByteArray) (nL : Nat) (rt : FieldType) (rm : Room) (mc ms : Nat) (av : List Value) (σ : z_S) (Q : UInt32 → z_S → Prop) : Prop :=
  Met l y (.code y b nL (some rt) :: z_ws) rm (va_Pc av (z_B D cI cJ cM cS n0 σ)) (va_Qf Q (fun u t => z_Bq D cI cJ cM cS n0 u t) (z_Ab n0)) mc ms (z_Ab n0)
def z_cv (l : Launch) (D : va_G) (cI cJ cM cS : ClassId) (n0 : Nat) (y : MethodName) (b : ByteArray) (nL : Nat) (rm : Room) (mc ms : Nat) (av : List Value) (σ : z_S) (Q : z_S → Prop) : Prop :=
  Met l y (.code y b nL none :: z_ws) rm (va_Pc av (z_B D cI cJ cM cS n0 σ)) (va_Qv Q (fun u t => z_Bq D cI cJ cM cS n0 u t) (z_Ab n0)) mc ms (z_Ab n0)
theorem z_good {w : Cond} (h : w ∈ z_ws) : w ∈ z_ws ∧ ((w.onTables && w.keeps) = true ∨ ∃ ty, w = .arrayClass ty) := ⟨h, good_of_word (z_ws_good h)⟩
theorem z_gV {own : String} {i : Nat} {y : MethodName} {b : ByteArray} {nL : Nat} {rt : Option FieldType} (w1 : Cond.methodLink own i y ∈ z_ws) (w2 : Cond.instanceMethod y ∈ z_ws) (w3 : Cond.selects y.cls y y ∈ z_ws) (w4 : Cond.initialized y.cls ∈ z_ws) (w5 : Cond.code y b nL rt ∈ z_ws) : GoodIn z_ws (wsV own i y.cls y (.code y b nL rt :: z_ws)) := by
  intro w hw
  simp only [wsV, List.mem_append, List.mem_cons, List.not_mem_nil, or_false] at hw
  rcases hw with (rfl | rfl | rfl | rfl) | rfl | h
  · exact z_good w1
  · exact z_good w2
  · exact z_good w3
  · exact z_good w4
  · exact z_good w5
  · exact z_good h
theorem z_gS {own : String} {i : Nat} {y : MethodName} {b : ByteArray} {nL : Nat} {rt : Option FieldType} (w1 : Cond.methodLink own i y ∈ z_ws) (w2 : Cond.static y ∈ z_ws) (w4 : Cond.initialized y.cls ∈ z_ws) (w5 : Cond.code y b nL rt ∈ z_ws) : GoodIn z_ws (va_wsS own i y (.code y b nL rt :: z_ws)) := by
  intro w hw
  simp only [va_wsS, List.mem_append, List.mem_cons, List.not_mem_nil, or_false] at hw
  rcases hw with (rfl | rfl | rfl) | rfl | h
  · exact z_good w1
  · exact z_good w2
  · exact z_good w4
  · exact z_good w5
  · exact z_good h
theorem z_blind {D : va_G} {cI cJ cM cS : ClassId} {n0 : Nat} {σ : z_S} {av : List Value} : FrameBlind (va_Pc av (z_B D cI cJ cM cS n0 σ)) := fun a U g mk q => ⟨q.1, q.2.1, q.2.2.1, z_K_moved (u := U) (U := U.calling g mk a) (Vm.Alike.refl U.vm) q.2.2.2.1, z_N_call (rfl : U.vm = (U.calling g mk a).vm) q.2.2.2.2⟩
theorem z_pre {D : va_G} {cI cJ cM cS : ClassId} {n0 : Nat} {σ : z_S} {s : State} {H : Heap} (hN : 81 ≤ zg_n σ) (hR : z_H D n0 (zg_n σ) (z_E n0 cI cJ cM cS σ) H) (hK : z_K D cI cJ cM cS s) (hY : z_N s) (av : List Value) : ∀ U : State, U.heap = H → s.WarmedH U.vm → va_Pc av (z_B D cI cJ cM cS n0 σ) av.toArray U := fun U hU hW => ⟨rfl, hN, by rw [hU]; exact hR, z_K_moved hW.alike hK, z_N_warm hW hY⟩
end ZT2
section ZT3
variable {D : va_G} {cI cJ cM cS : ClassId} {n0 : Nat} {p : Program} {l : Launch} {e : Env} {R : Room} {s : State} {m : MethodId} {args : Array Value} {below : List Frame} {meth : Method} {c : Code} {cc : ByteArray} {nL : Nat} {own : String} {Q : State → Prop} {cells slots pc : Nat} {L L' : List (Nat × Value)} {st : List Value} {σ : z_S} {y : MethodName} {b : ByteArray} {maxL : Nat} {rt : FieldType} {ro : Option FieldType} {rm : Room} {mc ms i : Nat} {av st0 : List Value}
theorem zt_calliV (hX : z_X D cI cJ cM cS p s m args c cc nL own) (hY : z_Y s meth ro) {Qc : Int32 → z_S → Prop} {k ci : Nat} {fs : List Value} {C : vw_C} (hM : z_ci l D cI cJ cM cS n0 y b maxL rt rm mc ms (.ref (n0 + k) :: av) σ Qc) (hd : decode cc pc = .ok (.invokevirtual i, 3)) (hst : st0 = av.reverse ++ .ref (n0 + k) :: st) (w1 : Cond.methodLink own i y ∈ z_ws) (w2 : Cond.instanceMethod y ∈ z_ws) (w3 : Cond.selects y.cls y y ∈ z_ws) (w4 : Cond.initialized y.cls ∈ z_ws) (w5 : Cond.code y b maxL (some rt) ∈ z_ws) (hrm : rm.cells = mc ∧ rm.slots = ms) (hy : y.cls ≠ "java/lang/invoke/MethodHandle" ∧ y.cls ≠ "java/lang/invoke/VarHandle" ∧ (parseMethodDescriptor y.desc).map (fun d => d.parameters.length) = some av.length) (hroom : rm.frames + 1 ≤ R.frames ∧ 8 + (maxL + 11) + rm.locals ≤ R.locals) (hcs : cells + mc ≤ R.cells ∧ slots + ms ≤ R.slots) (hcat : (st.map fun v => v.category).sum ≤ 8) (hk : k < 81) (he : z_E n0 cI cJ cM cS σ k = .inr (ci, fs)) (hc : vwCl[ci]? = some C) (hC : C.1 = y.cls) (kk : ∀ (r : Int32) (σ1 : z_S), Qc r σ1 → z_t D cI cJ cM cS n0 p l e R s m args below meth c nL Q (cells + mc) (slots + ms) (pc + 3) L (.int r :: st) σ1) : z_t D cI cJ cM cS n0 p l e R s m args below meth c nL Q cells slots pc L st0 σ := fun hN H locs ls hl hR hS => by
  subst hst
  exact va_calli (va_runV (As := av) (rest := st) hX.1 hM (cwV av.length hX.1.2.2.2.2 (z_gV w1 w2 w3 w4 w5) rfl hrm.1 hrm.2 ⟨rfl, hy⟩ hroom) ⟨z_blind, by have h := va_recv hX.2 (z_H_P hR) (q0 := k) hc (by rw [z_W_get (Nat.lt_of_lt_of_le hk hN), he]); rw [hC] at h; exact h, z_pre hN hR hX.2 hY.1 _⟩ rfl rfl hl.1 rfl (lv_room hcat) hd hcs) hS (fun q _ h => h) (fun q h => h) (fun r u t H1 locs1 ht hvm hw hB hz hk9 hS1 => kk r u hw hB.1 H1 locs1 ls hl (by rw [← ht]; exact hB.2) hS1)
theorem zt_calliS (hX : z_X D cI cJ cM cS p s m args c cc nL own) (hY : z_Y s meth ro) {Qc : Int32 → z_S → Prop} (hM : z_ci l D cI cJ cM cS n0 y b maxL rt rm mc ms av σ Qc) (hd : decode cc pc = .ok (.invokestatic i, 3)) (hst : st0 = av.reverse ++ st) (w1 : Cond.methodLink own i y ∈ z_ws) (w2 : Cond.static y ∈ z_ws) (w4 : Cond.initialized y.cls ∈ z_ws) (w5 : Cond.code y b maxL (some rt) ∈ z_ws) (hrm : rm.cells = mc ∧ rm.slots = ms) (hy : y.cls ≠ "java/lang/invoke/MethodHandle" ∧ y.cls ≠ "java/lang/invoke/VarHandle" ∧ (parseMethodDescriptor y.desc).map (fun d => d.parameters.length) = some av.length) (hroom : rm.frames + 1 ≤ R.frames ∧ 8 + (maxL + 11) + rm.locals ≤ R.locals) (hcs : cells + mc ≤ R.cells ∧ slots + ms ≤ R.slots) (hcat : (st.map fun v => v.category).sum ≤ 8) (kk : ∀ (r : Int32) (σ1 : z_S), Qc r σ1 → z_t D cI cJ cM cS n0 p l e R s m args below meth c nL Q (cells + mc) (slots + ms) (pc + 3) L (.int r :: st) σ1) : z_t D cI cJ cM cS n0 p l e R s m args below meth c nL Q cells slots pc L st0 σ := fun hN H locs ls hl hR hS => by
  subst hst
  exact va_calli (va_runS (As := av) (rest := st) hX.1 hM (va_cwS av.length hX.1.2.2.2.2 (z_gS w1 w2 w4 w5) rfl hrm.1 hrm.2 hy hroom) ⟨z_blind, z_pre hN hR hX.2 hY.1 _⟩ rfl rfl hl.1 rfl (lv_room hcat) hd hcs) hS (fun q _ h => h) (fun q h => h) (fun r u t H1 locs1 ht hvm hw hB hz hk9 hS1 => kk r u hw hB.1 H1 locs1 ls hl (by rw [← ht]; exact hB.2) hS1)
theorem zt_calllV (hX : z_X D cI cJ cM cS p s m args c cc nL own) (hY : z_Y s meth ro) {Qc : Int64 → z_S → Prop} {k ci : Nat} {fs : List Value} {C : vw_C} (hM : z_cl l D cI cJ cM cS n0 y b maxL rt rm mc ms (.ref (n0 + k) :: av) σ Qc) (hd : decode cc pc = .ok (.invokevirtual i, 3)) (hst : st0 = av.reverse ++ .ref (n0 + k) :: st) (w1 : Cond.methodLink own i y ∈ z_ws) (w2 : Cond.instanceMethod y ∈ z_ws) (w3 : Cond.selects y.cls y y ∈ z_ws) (w4 : Cond.initialized y.cls ∈ z_ws) (w5 : Cond.code y b maxL (some rt) ∈ z_ws) (hrm : rm.cells = mc ∧ rm.slots = ms) (hy : y.cls ≠ "java/lang/invoke/MethodHandle" ∧ y.cls ≠ "java/lang/invoke/VarHandle" ∧ (parseMethodDescriptor y.desc).map (fun d => d.parameters.length) = some av.length) (hroom : rm.frames + 1 ≤ R.frames ∧ 8 + (maxL + 11) + rm.locals ≤ R.locals) (hcs : cells + mc ≤ R.cells ∧ slots + ms ≤ R.slots) (hcat : (st.map fun v => v.category).sum ≤ 8) (hk : k < 81) (he : z_E n0 cI cJ cM cS σ k = .inr (ci, fs)) (hc : vwCl[ci]? = some C) (hC : C.1 = y.cls) (kk : ∀ (r : Int64) (σ1 : z_S), Qc r σ1 → z_t D cI cJ cM cS n0 p l e R s m args below meth c nL Q (cells + mc) (slots + ms) (pc + 3) L (.long r :: st) σ1) : z_t D cI cJ cM cS n0 p l e R s m args below meth c nL Q cells slots pc L st0 σ := fun hN H locs ls hl hR hS => by
  subst hst
  exact va_calll (va_runV (As := av) (rest := st) hX.1 hM (cwV av.length hX.1.2.2.2.2 (z_gV w1 w2 w3 w4 w5) rfl hrm.1 hrm.2 ⟨rfl, hy⟩ hroom) ⟨z_blind, by have h := va_recv hX.2 (z_H_P hR) (q0 := k) hc (by rw [z_W_get (Nat.lt_of_lt_of_le hk hN), he]); rw [hC] at h; exact h, z_pre hN hR hX.2 hY.1 _⟩ rfl rfl hl.1 rfl (lv_room hcat) hd hcs) hS (fun q _ h => h) (fun q h => h) (fun r u t H1 locs1 ht hvm hw hB hz hk9 hS1 => kk r u hw hB.1 H1 locs1 ls hl (by rw [← ht]; exact hB.2) hS1)
theorem zt_calllS (hX : z_X D cI cJ cM cS p s m args c cc nL own) (hY : z_Y s meth ro) {Qc : Int64 → z_S → Prop} (hM : z_cl l D cI cJ cM cS n0 y b maxL rt rm mc ms av σ Qc) (hd : decode cc pc = .ok (.invokestatic i, 3)) (hst : st0 = av.reverse ++ st) (w1 : Cond.methodLink own i y ∈ z_ws) (w2 : Cond.static y ∈ z_ws) (w4 : Cond.initialized y.cls ∈ z_ws) (w5 : Cond.code y b maxL (some rt) ∈ z_ws) (hrm : rm.cells = mc ∧ rm.slots = ms) (hy : y.cls ≠ "java/lang/invoke/MethodHandle" ∧ y.cls ≠ "java/lang/invoke/VarHandle" ∧ (parseMethodDescriptor y.desc).map (fun d => d.parameters.length) = some av.length) (hroom : rm.frames + 1 ≤ R.frames ∧ 8 + (maxL + 11) + rm.locals ≤ R.locals) (hcs : cells + mc ≤ R.cells ∧ slots + ms ≤ R.slots) (hcat : (st.map fun v => v.category).sum ≤ 8) (kk : ∀ (r : Int64) (σ1 : z_S), Qc r σ1 → z_t D cI cJ cM cS n0 p l e R s m args below meth c nL Q (cells + mc) (slots + ms) (pc + 3) L (.long r :: st) σ1) : z_t D cI cJ cM cS n0 p l e R s m args below meth c nL Q cells slots pc L st0 σ := fun hN H locs ls hl hR hS => by
  subst hst
  exact va_calll (va_runS (As := av) (rest := st) hX.1 hM (va_cwS av.length hX.1.2.2.2.2 (z_gS w1 w2 w4 w5) rfl hrm.1 hrm.2 hy hroom) ⟨z_blind, z_pre hN hR hX.2 hY.1 _⟩ rfl rfl hl.1 rfl (lv_room hcat) hd hcs) hS (fun q _ h => h) (fun q h => h) (fun r u t H1 locs1 ht hvm hw hB hz hk9 hS1 => kk r u hw hB.1 H1 locs1 ls hl (by rw [← ht]; exact hB.2) hS1)
theorem zt_callfV (hX : z_X D cI cJ cM cS p s m args c cc nL own) (hY : z_Y s meth ro) {Qc : UInt32 → z_S → Prop} {k ci : Nat} {fs : List Value} {C : vw_C} (hM : z_cf l D cI cJ cM cS n0 y b maxL rt rm mc ms (.ref (n0 + k) :: av) σ Qc) (hd : decode cc pc = .ok (.invokevirtual i, 3)) (hst : st0 = av.reverse ++ .ref (n0 + k) :: st) (w1 : Cond.methodLink own i y ∈ z_ws) (w2 : Cond.instanceMethod y ∈ z_ws) (w3 : Cond.selects y.cls y y ∈ z_ws) (w4 : Cond.initialized y.cls ∈ z_ws) (w5 : Cond.code y b maxL (some rt) ∈ z_ws) (hrm : rm.cells = mc ∧ rm.slots = ms) (hy : y.cls ≠ "java/lang/invoke/MethodHandle" ∧ y.cls ≠ "java/lang/invoke/VarHandle" ∧ (parseMethodDescriptor y.desc).map (fun d => d.parameters.length) = some av.length) (hroom : rm.frames + 1 ≤ R.frames ∧ 8 + (maxL + 11) + rm.locals ≤ R.locals) (hcs : cells + mc ≤ R.cells ∧ slots + ms ≤ R.slots) (hcat : (st.map fun v => v.category).sum ≤ 8) (hk : k < 81) (he : z_E n0 cI cJ cM cS σ k = .inr (ci, fs)) (hc : vwCl[ci]? = some C) (hC : C.1 = y.cls) (kk : ∀ (r : UInt32) (σ1 : z_S), Qc r σ1 → z_t D cI cJ cM cS n0 p l e R s m args below meth c nL Q (cells + mc) (slots + ms) (pc + 3) L (.float r :: st) σ1) : z_t D cI cJ cM cS n0 p l e R s m args below meth c nL Q cells slots pc L st0 σ := fun hN H locs ls hl hR hS => by
  subst hst
  exact va_callf (va_runV (As := av) (rest := st) hX.1 hM (cwV av.length hX.1.2.2.2.2 (z_gV w1 w2 w3 w4 w5) rfl hrm.1 hrm.2 ⟨rfl, hy⟩ hroom) ⟨z_blind, by have h := va_recv hX.2 (z_H_P hR) (q0 := k) hc (by rw [z_W_get (Nat.lt_of_lt_of_le hk hN), he]); rw [hC] at h; exact h, z_pre hN hR hX.2 hY.1 _⟩ rfl rfl hl.1 rfl (lv_room hcat) hd hcs) hS (fun q _ h => h) (fun q h => h) (fun r u t H1 locs1 ht hvm hw hB hz hk9 hS1 => kk r u hw hB.1 H1 locs1 ls hl (by rw [← ht]; exact hB.2) hS1)
theorem zt_callfS (hX : z_X D cI cJ cM cS p s m args c cc nL own) (hY : z_Y s meth ro) {Qc : UInt32 → z_S → Prop} (hM : z_cf l D cI cJ cM cS n0 y b maxL rt rm mc ms av σ Qc) (hd : decode cc pc = .ok (.invokestatic i, 3)) (hst : st0 = av.reverse ++ st) (w1 : Cond.methodLink own i y ∈ z_ws) (w2 : Cond.static y ∈ z_ws) (w4 : Cond.initialized y.cls ∈ z_ws) (w5 : Cond.code y b maxL (some rt) ∈ z_ws) (hrm : rm.cells = mc ∧ rm.slots = ms) (hy : y.cls ≠ "java/lang/invoke/MethodHandle" ∧ y.cls ≠ "java/lang/invoke/VarHandle" ∧ (parseMethodDescriptor y.desc).map (fun d => d.parameters.length) = some av.length) (hroom : rm.frames + 1 ≤ R.frames ∧ 8 + (maxL + 11) + rm.locals ≤ R.locals) (hcs : cells + mc ≤ R.cells ∧ slots + ms ≤ R.slots) (hcat : (st.map fun v => v.category).sum ≤ 8) (kk : ∀ (r : UInt32) (σ1 : z_S), Qc r σ1 → z_t D cI cJ cM cS n0 p l e R s m args below meth c nL Q (cells + mc) (slots + ms) (pc + 3) L (.float r :: st) σ1) : z_t D cI cJ cM cS n0 p l e R s m args below meth c nL Q cells slots pc L st0 σ := fun hN H locs ls hl hR hS => by
  subst hst
  exact va_callf (va_runS (As := av) (rest := st) hX.1 hM (va_cwS av.length hX.1.2.2.2.2 (z_gS w1 w2 w4 w5) rfl hrm.1 hrm.2 hy hroom) ⟨z_blind, z_pre hN hR hX.2 hY.1 _⟩ rfl rfl hl.1 rfl (lv_room hcat) hd hcs) hS (fun q _ h => h) (fun q h => h) (fun r u t H1 locs1 ht hvm hw hB hz hk9 hS1 => kk r u hw hB.1 H1 locs1 ls hl (by rw [← ht]; exact hB.2) hS1)
theorem zt_callvV (hX : z_X D cI cJ cM cS p s m args c cc nL own) (hY : z_Y s meth ro) {Qc : z_S → Prop} {k ci : Nat} {fs : List Value} {C : vw_C} (hM : z_cv l D cI cJ cM cS n0 y b maxL rm mc ms (.ref (n0 + k) :: av) σ Qc) (hd : decode cc pc = .ok (.invokevirtual i, 3)) (hst : st0 = av.reverse ++ .ref (n0 + k) :: st) (w1 : Cond.methodLink own i y ∈ z_ws) (w2 : Cond.instanceMethod y ∈ z_ws) (w3 : Cond.selects y.cls y y ∈ z_ws) (w4 : Cond.initialized y.cls ∈ z_ws) (w5 : Cond.code y b maxL none ∈ z_ws) (hrm : rm.cells = mc ∧ rm.slots = ms) (hy : y.cls ≠ "java/lang/invoke/MethodHandle" ∧ y.cls ≠ "java/lang/invoke/VarHandle" ∧ (parseMethodDescriptor y.desc).map (fun d => d.parameters.length) = some av.length) (hroom : rm.frames + 1 ≤ R.frames ∧ 8 + (maxL + 11) + rm.locals ≤ R.locals) (hcs : cells + mc ≤ R.cells ∧ slots + ms ≤ R.slots) (hcat : (st.map fun v => v.category).sum ≤ 8) (hk : k < 81) (he : z_E n0 cI cJ cM cS σ k = .inr (ci, fs)) (hc : vwCl[ci]? = some C) (hC : C.1 = y.cls) (kk : ∀ (σ1 : z_S), Qc σ1 → z_t D cI cJ cM cS n0 p l e R s m args below meth c nL Q (cells + mc) (slots + ms) (pc + 3) L st σ1) : z_t D cI cJ cM cS n0 p l e R s m args below meth c nL Q cells slots pc L st0 σ := fun hN H locs ls hl hR hS => by
  subst hst
  exact va_callv (va_runV (As := av) (rest := st) hX.1 hM (cwV av.length hX.1.2.2.2.2 (z_gV w1 w2 w3 w4 w5) rfl hrm.1 hrm.2 ⟨rfl, hy⟩ hroom) ⟨z_blind, by have h := va_recv hX.2 (z_H_P hR) (q0 := k) hc (by rw [z_W_get (Nat.lt_of_lt_of_le hk hN), he]); rw [hC] at h; exact h, z_pre hN hR hX.2 hY.1 _⟩ rfl rfl hl.1 rfl (lv_room hcat) hd hcs) hS (fun q _ h => h) (fun q h => h) (fun u t H1 locs1 ht hvm hw hB hz hk9 hS1 => kk u hw hB.1 H1 locs1 ls hl (by rw [← ht]; exact hB.2) hS1)
theorem zt_callvS (hX : z_X D cI cJ cM cS p s m args c cc nL own) (hY : z_Y s meth ro) {Qc : z_S → Prop} (hM : z_cv l D cI cJ cM cS n0 y b maxL rm mc ms av σ Qc) (hd : decode cc pc = .ok (.invokestatic i, 3)) (hst : st0 = av.reverse ++ st) (w1 : Cond.methodLink own i y ∈ z_ws) (w2 : Cond.static y ∈ z_ws) (w4 : Cond.initialized y.cls ∈ z_ws) (w5 : Cond.code y b maxL none ∈ z_ws) (hrm : rm.cells = mc ∧ rm.slots = ms) (hy : y.cls ≠ "java/lang/invoke/MethodHandle" ∧ y.cls ≠ "java/lang/invoke/VarHandle" ∧ (parseMethodDescriptor y.desc).map (fun d => d.parameters.length) = some av.length) (hroom : rm.frames + 1 ≤ R.frames ∧ 8 + (maxL + 11) + rm.locals ≤ R.locals) (hcs : cells + mc ≤ R.cells ∧ slots + ms ≤ R.slots) (hcat : (st.map fun v => v.category).sum ≤ 8) (kk : ∀ (σ1 : z_S), Qc σ1 → z_t D cI cJ cM cS n0 p l e R s m args below meth c nL Q (cells + mc) (slots + ms) (pc + 3) L st σ1) : z_t D cI cJ cM cS n0 p l e R s m args below meth c nL Q cells slots pc L st0 σ := fun hN H locs ls hl hR hS => by
  subst hst
  exact va_callv (va_runS (As := av) (rest := st) hX.1 hM (va_cwS av.length hX.1.2.2.2.2 (z_gS w1 w2 w4 w5) rfl hrm.1 hrm.2 hy hroom) ⟨z_blind, z_pre hN hR hX.2 hY.1 _⟩ rfl rfl hl.1 rfl (lv_room hcat) hd hcs) hS (fun q _ h => h) (fun q h => h) (fun u t H1 locs1 ht hvm hw hB hz hk9 hS1 => kk u hw hB.1 H1 locs1 ls hl (by rw [← ht]; exact hB.2) hS1)
theorem zt_iret (hX : z_X D cI cJ cM cS p s m args c cc nL own) (hY : z_Y s meth (some .int)) {Qc : Int32 → z_S → Prop} {v : Int32} (hd : decode cc pc = .ok (.ireturn, 1)) (hQ : Qc v σ) : z_t D cI cJ cM cS n0 p l e R s m args below meth c nL (MQ below (va_Qi Qc (fun u t => z_Bq D cI cJ cM cS n0 u t) (z_Ab n0)) args s cells slots (z_Ab n0)) cells slots pc L [.int v] σ := fun hN H locs ls hl hR hS => W.iret hX.1.1 hX.1.2.1 hY.2.1 (fun t ht hW => ⟨⟨v, σ, rfl, hQ, hN, by rw [ht]; exact hR⟩, hS.F ht⟩) hS.2.2 hd hY.2.2
theorem z_narb {v : Int32} (h : v = 0 ∨ v = 1) : narrow .boolean (.int v) = .int v := by rcases h with rfl | rfl <;> rfl
theorem zt_zret (hX : z_X D cI cJ cM cS p s m args c cc nL own) (hY : z_Y s meth (some .boolean)) {Qc : Int32 → z_S → Prop} {v : Int32} (hd : decode cc pc = .ok (.ireturn, 1)) (hQ : (v = 0 ∨ v = 1) ∧ Qc v σ) : z_t D cI cJ cM cS n0 p l e R s m args below meth c nL (MQ below (va_Qi Qc (fun u t => z_Bq D cI cJ cM cS n0 u t) (z_Ab n0)) args s cells slots (z_Ab n0)) cells slots pc L [.int v] σ := fun hN H locs ls hl hR hS => W.zret hX.1.1 hX.1.2.1 hY.2.1 (z_narb hQ.1) (fun t ht hW => ⟨⟨v, σ, rfl, hQ.2, hN, by rw [ht]; exact hR⟩, hS.F ht⟩) hS.2.2 hd hY.2.2
theorem zt_lret (hX : z_X D cI cJ cM cS p s m args c cc nL own) (hY : z_Y s meth (some .long)) {Qc : Int64 → z_S → Prop} {v : Int64} (hd : decode cc pc = .ok (.lreturn, 1)) (hQ : Qc v σ) : z_t D cI cJ cM cS n0 p l e R s m args below meth c nL (MQ below (va_Ql Qc (fun u t => z_Bq D cI cJ cM cS n0 u t) (z_Ab n0)) args s cells slots (z_Ab n0)) cells slots pc L [.long v] σ := fun hN H locs ls hl hR hS => W.lret hX.1.1 hX.1.2.1 hY.2.1 (fun t ht hW => ⟨⟨v, σ, rfl, hQ, hN, by rw [ht]; exact hR⟩, hS.F ht⟩) hS.2.2 hd hY.2.2
theorem zt_fret (hX : z_X D cI cJ cM cS p s m args c cc nL own) (hY : z_Y s meth (some .float)) {Qc : UInt32 → z_S → Prop} {v : UInt32} (hd : decode cc pc = .ok (.freturn, 1)) (hQ : Qc v σ) : z_t D cI cJ cM cS n0 p l e R s m args below meth c nL (MQ below (va_Qf Qc (fun u t => z_Bq D cI cJ cM cS n0 u t) (z_Ab n0)) args s cells slots (z_Ab n0)) cells slots pc L [.float v] σ := fun hN H locs ls hl hR hS => W.fret hX.1.1 hX.1.2.1 hY.2.1 (fun t ht hW => ⟨⟨v, σ, rfl, hQ, hN, by rw [ht]; exact hR⟩, hS.F ht⟩) hS.2.2 hd hY.2.2
theorem zt_vret (hX : z_X D cI cJ cM cS p s m args c cc nL own) (hY : z_Y s meth none) {Qc : z_S → Prop} (hd : decode cc pc = .ok (.return_, 1)) (hQ : Qc σ) : z_t D cI cJ cM cS n0 p l e R s m args below meth c nL (MQ below (va_Qv Qc (fun u t => z_Bq D cI cJ cM cS n0 u t) (z_Ab n0)) args s cells slots (z_Ab n0)) cells slots pc L [] σ := fun hN H locs ls hl hR hS => W.vret hX.1.1 hX.1.2.1 hY.2.1 (fun t ht hW => ⟨⟨σ, rfl, hQ, hN, by rw [ht]; exact hR⟩, hS.F ht⟩) hS.2.2 hd hY.2.2
theorem z_ofi {Qc : Int32 → z_S → Prop} (hy : plainName y.cls = true) (hlen : (lg_sl av).length ≤ maxL) (body : ∀ (p : Program) (e : Env) (s : State) (m : MethodId) (args : Array Value) (below : List Frame) (meth : Method) (c : Code), z_X D cI cJ cM cS p s m args c b maxL y.cls → z_Y s meth (some rt) → z_t D cI cJ cM cS n0 p l e rm s m args below meth c maxL (MQ below (va_Qi Qc (fun u t => z_Bq D cI cJ cM cS n0 u t) (z_Ab n0)) args s mc ms (z_Ab n0)) 0 0 0 (lv_args 0 av) [] σ) : z_ci l D cI cJ cM cS n0 y b maxL rt rm mc ms av σ Qc := by
  refine Met.ofW (cc := b) (maxL := maxL) (ret := (some rt)) hy rfl ?_
  intro p e s m args below meth c s₁ B hml hv
  obtain ⟨rfl, hN, hR, hK, hZ⟩ := hv
  have hts := atoms_spec (ws := .code y b maxL (some rt) :: z_ws) B.pre
  have hl := lv_entry av (n := maxL) hlen
  rw [lg_entry_eq]
  exact body p e s m _ below meth c ⟨⟨B.exec, B.bytes, hml, findClass_of_methodNamed B.named, fun w h => hts w (List.mem_cons_of_mem _ h)⟩, hK⟩ ⟨hZ, B.returns, B.notSynchronized⟩ hN s.heap [] _ hl hR va_S.rf
theorem z_ofl {Qc : Int64 → z_S → Prop} (hy : plainName y.cls = true) (hlen : (lg_sl av).length ≤ maxL) (body : ∀ (p : Program) (e : Env) (s : State) (m : MethodId) (args : Array Value) (below : List Frame) (meth : Method) (c : Code), z_X D cI cJ cM cS p s m args c b maxL y.cls → z_Y s meth (some rt) → z_t D cI cJ cM cS n0 p l e rm s m args below meth c maxL (MQ below (va_Ql Qc (fun u t => z_Bq D cI cJ cM cS n0 u t) (z_Ab n0)) args s mc ms (z_Ab n0)) 0 0 0 (lv_args 0 av) [] σ) : z_cl l D cI cJ cM cS n0 y b maxL rt rm mc ms av σ Qc := by
  refine Met.ofW (cc := b) (maxL := maxL) (ret := (some rt)) hy rfl ?_
  intro p e s m args below meth c s₁ B hml hv
  obtain ⟨rfl, hN, hR, hK, hZ⟩ := hv
  have hts := atoms_spec (ws := .code y b maxL (some rt) :: z_ws) B.pre
  have hl := lv_entry av (n := maxL) hlen
  rw [lg_entry_eq]
  exact body p e s m _ below meth c ⟨⟨B.exec, B.bytes, hml, findClass_of_methodNamed B.named, fun w h => hts w (List.mem_cons_of_mem _ h)⟩, hK⟩ ⟨hZ, B.returns, B.notSynchronized⟩ hN s.heap [] _ hl hR va_S.rf
theorem z_off {Qc : UInt32 → z_S → Prop} (hy : plainName y.cls = true) (hlen : (lg_sl av).length ≤ maxL) (body : ∀ (p : Program) (e : Env) (s : State) (m : MethodId) (args : Array Value) (below : List Frame) (meth : Method) (c : Code), z_X D cI cJ cM cS p s m args c b maxL y.cls → z_Y s meth (some rt) → z_t D cI cJ cM cS n0 p l e rm s m args below meth c maxL (MQ below (va_Qf Qc (fun u t => z_Bq D cI cJ cM cS n0 u t) (z_Ab n0)) args s mc ms (z_Ab n0)) 0 0 0 (lv_args 0 av) [] σ) : z_cf l D cI cJ cM cS n0 y b maxL rt rm mc ms av σ Qc := by
  refine Met.ofW (cc := b) (maxL := maxL) (ret := (some rt)) hy rfl ?_
  intro p e s m args below meth c s₁ B hml hv
  obtain ⟨rfl, hN, hR, hK, hZ⟩ := hv
  have hts := atoms_spec (ws := .code y b maxL (some rt) :: z_ws) B.pre
  have hl := lv_entry av (n := maxL) hlen
  rw [lg_entry_eq]
  exact body p e s m _ below meth c ⟨⟨B.exec, B.bytes, hml, findClass_of_methodNamed B.named, fun w h => hts w (List.mem_cons_of_mem _ h)⟩, hK⟩ ⟨hZ, B.returns, B.notSynchronized⟩ hN s.heap [] _ hl hR va_S.rf
theorem z_ofv {Qc : z_S → Prop} (hy : plainName y.cls = true) (hlen : (lg_sl av).length ≤ maxL) (body : ∀ (p : Program) (e : Env) (s : State) (m : MethodId) (args : Array Value) (below : List Frame) (meth : Method) (c : Code), z_X D cI cJ cM cS p s m args c b maxL y.cls → z_Y s meth none → z_t D cI cJ cM cS n0 p l e rm s m args below meth c maxL (MQ below (va_Qv Qc (fun u t => z_Bq D cI cJ cM cS n0 u t) (z_Ab n0)) args s mc ms (z_Ab n0)) 0 0 0 (lv_args 0 av) [] σ) : z_cv l D cI cJ cM cS n0 y b maxL rm mc ms av σ Qc := by
  refine Met.ofW (cc := b) (maxL := maxL) (ret := none) hy rfl ?_
  intro p e s m args below meth c s₁ B hml hv
  obtain ⟨rfl, hN, hR, hK, hZ⟩ := hv
  have hts := atoms_spec (ws := .code y b maxL none :: z_ws) B.pre
  have hl := lv_entry av (n := maxL) hlen
  rw [lg_entry_eq]
  exact body p e s m _ below meth c ⟨⟨B.exec, B.bytes, hml, findClass_of_methodNamed B.named, fun w h => hts w (List.mem_cons_of_mem _ h)⟩, hK⟩ ⟨hZ, B.returns, B.notSynchronized⟩ hN s.heap [] _ hl hR va_S.rf
end ZT3
theorem z_pos {P A B : Prop} [Decidable P] (h : if P then A else B) (c : P) : A := by rw [if_pos c] at h; exact h
theorem z_neg {P A B : Prop} [Decidable P] (h : if P then A else B) (c : ¬ P) : B := by rw [if_neg c] at h; exact h
end
section
section ZT4
variable {D : va_G} {cI cJ cM cS : ClassId} {n0 : Nat} {p : Program} {l : Launch} {e : Env} {R : Room} {s : State} {m : MethodId} {args : Array Value} {below : List Frame} {meth : Method} {c : Code} {cc : ByteArray} {nL : Nat} {own : String} {Q : State → Prop} {cells slots pc : Nat} {L L' : List (Nat × Value)} {st : List Value} {σ : z_S}
theorem zt_nms (kk : ∀ σ1 : z_S, σ1 = σ → z_t D cI cJ cM cS n0 p l e R s m args below meth c nL Q cells slots pc L st σ1) : z_t D cI cJ cM cS n0 p l e R s m args below meth c nL Q cells slots pc L st σ := kk σ rfl
theorem zt_L (hL : L = L') (kk : z_t D cI cJ cM cS n0 p l e R s m args below meth c nL Q cells slots pc L' st σ) : z_t D cI cJ cM cS n0 p l e R s m args below meth c nL Q cells slots pc L st σ := hL ▸ kk
theorem zt_sub (ks : List Nat) (hL : lv_pick L ks = L') (kk : z_t D cI cJ cM cS n0 p l e R s m args below meth c nL Q cells slots pc L' st σ) : z_t D cI cJ cM cS n0 p l e R s m args below meth c nL Q cells slots pc L st σ := fun hN H locs ls hl hR hS => kk hN H locs ls (lv_sub hl ks hL) hR hS
end ZT4

theorem z_row8 {j : Nat} (h : j < 10) : 8 + j < 81 := by omega
theorem z_row19 {j : Nat} (h : j < 8) : 19 + j < 81 := by omega
theorem z_row31 {j : Nat} (h : j < 10) : 31 + j < 81 := by omega
theorem z_row42 {j : Nat} (h : j < 10) : 42 + j < 81 := by omega
theorem z_row55 {j : Nat} (h : j < 10) : 55 + j < 81 := by omega
theorem zE_0 {cI cJ cM cS : ClassId} (n0 : Nat) (σ : z_S) : z_E n0 cI cJ cM cS σ 0 = .inr (5, [.ref (n0 + 1), .ref (n0 + 27), .ref (n0 + 29), .ref (n0 + 53), .ref (n0 + 68)]) := rfl
theorem zE_1 {cI cJ cM cS : ClassId} (n0 : Nat) (σ : z_S) : z_E n0 cI cJ cM cS σ 1 = .inr (4, [.int (zg_i σ 1 0), .int (zg_i σ 1 1), .int (zg_i σ 1 2), .int (zg_i σ 1 3), .ref (n0 + 2), .ref (n0 + 3), .ref (n0 + 4), .ref (n0 + 5), .ref (n0 + 6), .ref (n0 + 7), .ref (n0 + 18)]) := rfl
theorem zE_27 {cI cJ cM cS : ClassId} (n0 : Nat) (σ : z_S) : z_E n0 cI cJ cM cS σ 27 = .inr (2, [.ref (n0 + 28), .int (zg_i σ 27 1)]) := rfl
theorem zE_29 {cI cJ cM cS : ClassId} (n0 : Nat) (σ : z_S) : z_E n0 cI cJ cM cS σ 29 = .inr (1, [.ref (n0 + 30), .ref (n0 + 41), .ref (n0 + 52)]) := rfl
theorem zE_53 {cI cJ cM cS : ClassId} (n0 : Nat) (σ : z_S) : z_E n0 cI cJ cM cS σ 53 = .inr (0, [.ref (n0 + 54), .ref (n0 + 65), .ref (n0 + 66), .ref (n0 + 67)]) := rfl
theorem zE_68 {cI cJ cM cS : ClassId} (n0 : Nat) (σ : z_S) : z_E n0 cI cJ cM cS σ 68 = .inr (3, [.ref (n0 + 69), .int (zg_i σ 68 1), .ref (n0 + 70), .ref (n0 + 71), .ref (n0 + 72), .int (zg_i σ 68 5), .int (zg_i σ 68 6), .int (zg_i σ 68 7)]) := rfl
theorem zE_73 {cI cJ cM cS : ClassId} (n0 : Nat) (σ : z_S) : z_E n0 cI cJ cM cS σ 73 = .inr (6, [.ref (n0 + 74), .int (zg_i σ 73 1), .ref (n0 + 75), .ref (n0 + 76), .ref (n0 + 77), .ref (n0 + 78), .ref (n0 + 79), .ref (n0 + 80), .int (zg_i σ 73 8), .int (zg_i σ 73 9), .int (zg_i σ 73 10), .int (zg_i σ 73 11), .long (zg_l σ 73 12)]) := rfl
theorem zt_get_X5 {D : va_G} {cI cJ cM cS : ClassId} {n0 : Nat} {p : Program} {l : Launch} {e : Env} {R : Room} {s : State} {m : MethodId} {args : Array Value} {below : List Frame} {meth : Method} {c : Code} {cc : ByteArray} {nL : Nat} {own : String} {Q : State → Prop} {cells slots pc : Nat} {L : List (Nat × Value)} {st : List Value} {σ : z_S} (hX : z_X D cI cJ cM cS p s m args c cc nL own) {k i : Nat} {fs : List Value} (hk : k < 81) (he : z_E n0 cI cJ cM cS σ k = .inr (5, fs)) (j : Nat) (hj : j < 5) (hw : Cond.fieldLink own i RX5 (TX5 j).2.1 (TX5 j).2.2.1 ∈ z_ws) (hT : (TX5 j).1 = RX5) {v : Value} (hv : fs[j]? = some v) (hd : decode cc pc = .ok (.getfield i, 3)) (kk : z_t D cI cJ cM cS n0 p l e R s m args below meth c nL Q cells slots (pc + 3) L (v :: st) σ) : z_t D cI cJ cM cS n0 p l e R s m args below meth c nL Q cells slots pc L (.ref (n0 + k) :: st) σ := zt_get hX (ci := 5) (C := RX5) (T := TX5) (N := 5) rfl z_inX5 hk he j hj hw hT hv hd kk
theorem zt_puti_X5 {D : va_G} {cI cJ cM cS : ClassId} {n0 : Nat} {p : Program} {l : Launch} {e : Env} {R : Room} {s : State} {m : MethodId} {args : Array Value} {below : List Frame} {meth : Method} {c : Code} {cc : ByteArray} {nL : Nat} {own : String} {Q : State → Prop} {cells slots pc : Nat} {L : List (Nat × Value)} {st : List Value} {σ : z_S} (hX : z_X D cI cJ cM cS p s m args c cc nL own) {k i : Nat} {fs : List Value} (hk : k < 81) (he : z_E n0 cI cJ cM cS σ k = .inr (5, fs)) (j : Nat) (hj : j < 5) (hw : Cond.fieldLink own i RX5 (TX5 j).2.1 (TX5 j).2.2.1 ∈ z_ws) (hT : (TX5 j).1 = RX5) (hfin : (TX5 j).2.2.2 = false) (hlen : j < fs.length) {x : Int32} (hd0 : parseFieldDescriptor (TX5 j).2.2.1 = some .int) (he2 : z_E n0 cI cJ cM cS (zs_i σ k j x) k = .inr (5, fs.set j (.int x))) (hd : decode cc pc = .ok (.putfield i, 3)) (kk : z_t D cI cJ cM cS n0 p l e R s m args below meth c nL Q cells slots (pc + 3) L st (zs_i σ k j x)) : z_t D cI cJ cM cS n0 p l e R s m args below meth c nL Q cells slots pc L (.int x :: .ref (n0 + k) :: st) σ := zt_puti hX (ci := 5) (C := RX5) (T := TX5) (N := 5) rfl z_inX5 hk he j hj hw hT tyX5 tyX5_ok nmX5 hfin hlen hd0 he2 hd kk
theorem zt_putl_X5 {D : va_G} {cI cJ cM cS : ClassId} {n0 : Nat} {p : Program} {l : Launch} {e : Env} {R : Room} {s : State} {m : MethodId} {args : Array Value} {below : List Frame} {meth : Method} {c : Code} {cc : ByteArray} {nL : Nat} {own : String} {Q : State → Prop} {cells slots pc : Nat} {L : List (Nat × Value)} {st : List Value} {σ : z_S} (hX : z_X D cI cJ cM cS p s m args c cc nL own) {k i : Nat} {fs : List Value} (hk : k < 81) (he : z_E n0 cI cJ cM cS σ k = .inr (5, fs)) (j : Nat) (hj : j < 5) (hw : Cond.fieldLink own i RX5 (TX5 j).2.1 (TX5 j).2.2.1 ∈ z_ws) (hT : (TX5 j).1 = RX5) (hfin : (TX5 j).2.2.2 = false) (hlen : j < fs.length) {x : Int64} (hd0 : parseFieldDescriptor (TX5 j).2.2.1 = some .long) (he2 : z_E n0 cI cJ cM cS (zs_l σ k j x) k = .inr (5, fs.set j (.long x))) (hd : decode cc pc = .ok (.putfield i, 3)) (kk : z_t D cI cJ cM cS n0 p l e R s m args below meth c nL Q cells slots (pc + 3) L st (zs_l σ k j x)) : z_t D cI cJ cM cS n0 p l e R s m args below meth c nL Q cells slots pc L (.long x :: .ref (n0 + k) :: st) σ := zt_putl hX (ci := 5) (C := RX5) (T := TX5) (N := 5) rfl z_inX5 hk he j hj hw hT tyX5 tyX5_ok nmX5 hfin hlen hd0 he2 hd kk
theorem zt_get_X4 {D : va_G} {cI cJ cM cS : ClassId} {n0 : Nat} {p : Program} {l : Launch} {e : Env} {R : Room} {s : State} {m : MethodId} {args : Array Value} {below : List Frame} {meth : Method} {c : Code} {cc : ByteArray} {nL : Nat} {own : String} {Q : State → Prop} {cells slots pc : Nat} {L : List (Nat × Value)} {st : List Value} {σ : z_S} (hX : z_X D cI cJ cM cS p s m args c cc nL own) {k i : Nat} {fs : List Value} (hk : k < 81) (he : z_E n0 cI cJ cM cS σ k = .inr (4, fs)) (j : Nat) (hj : j < 11) (hw : Cond.fieldLink own i RX4 (TX4 j).2.1 (TX4 j).2.2.1 ∈ z_ws) (hT : (TX4 j).1 = RX4) {v : Value} (hv : fs[j]? = some v) (hd : decode cc pc = .ok (.getfield i, 3)) (kk : z_t D cI cJ cM cS n0 p l e R s m args below meth c nL Q cells slots (pc + 3) L (v :: st) σ) : z_t D cI cJ cM cS n0 p l e R s m args below meth c nL Q cells slots pc L (.ref (n0 + k) :: st) σ := zt_get hX (ci := 4) (C := RX4) (T := TX4) (N := 11) rfl z_inX4 hk he j hj hw hT hv hd kk
theorem zt_puti_X4 {D : va_G} {cI cJ cM cS : ClassId} {n0 : Nat} {p : Program} {l : Launch} {e : Env} {R : Room} {s : State} {m : MethodId} {args : Array Value} {below : List Frame} {meth : Method} {c : Code} {cc : ByteArray} {nL : Nat} {own : String} {Q : State → Prop} {cells slots pc : Nat} {L : List (Nat × Value)} {st : List Value} {σ : z_S} (hX : z_X D cI cJ cM cS p s m args c cc nL own) {k i : Nat} {fs : List Value} (hk : k < 81) (he : z_E n0 cI cJ cM cS σ k = .inr (4, fs)) (j : Nat) (hj : j < 11) (hw : Cond.fieldLink own i RX4 (TX4 j).2.1 (TX4 j).2.2.1 ∈ z_ws) (hT : (TX4 j).1 = RX4) (hfin : (TX4 j).2.2.2 = false) (hlen : j < fs.length) {x : Int32} (hd0 : parseFieldDescriptor (TX4 j).2.2.1 = some .int) (he2 : z_E n0 cI cJ cM cS (zs_i σ k j x) k = .inr (4, fs.set j (.int x))) (hd : decode cc pc = .ok (.putfield i, 3)) (kk : z_t D cI cJ cM cS n0 p l e R s m args below meth c nL Q cells slots (pc + 3) L st (zs_i σ k j x)) : z_t D cI cJ cM cS n0 p l e R s m args below meth c nL Q cells slots pc L (.int x :: .ref (n0 + k) :: st) σ := zt_puti hX (ci := 4) (C := RX4) (T := TX4) (N := 11) rfl z_inX4 hk he j hj hw hT tyX4 tyX4_ok nmX4 hfin hlen hd0 he2 hd kk
theorem zt_putl_X4 {D : va_G} {cI cJ cM cS : ClassId} {n0 : Nat} {p : Program} {l : Launch} {e : Env} {R : Room} {s : State} {m : MethodId} {args : Array Value} {below : List Frame} {meth : Method} {c : Code} {cc : ByteArray} {nL : Nat} {own : String} {Q : State → Prop} {cells slots pc : Nat} {L : List (Nat × Value)} {st : List Value} {σ : z_S} (hX : z_X D cI cJ cM cS p s m args c cc nL own) {k i : Nat} {fs : List Value} (hk : k < 81) (he : z_E n0 cI cJ cM cS σ k = .inr (4, fs)) (j : Nat) (hj : j < 11) (hw : Cond.fieldLink own i RX4 (TX4 j).2.1 (TX4 j).2.2.1 ∈ z_ws) (hT : (TX4 j).1 = RX4) (hfin : (TX4 j).2.2.2 = false) (hlen : j < fs.length) {x : Int64} (hd0 : parseFieldDescriptor (TX4 j).2.2.1 = some .long) (he2 : z_E n0 cI cJ cM cS (zs_l σ k j x) k = .inr (4, fs.set j (.long x))) (hd : decode cc pc = .ok (.putfield i, 3)) (kk : z_t D cI cJ cM cS n0 p l e R s m args below meth c nL Q cells slots (pc + 3) L st (zs_l σ k j x)) : z_t D cI cJ cM cS n0 p l e R s m args below meth c nL Q cells slots pc L (.long x :: .ref (n0 + k) :: st) σ := zt_putl hX (ci := 4) (C := RX4) (T := TX4) (N := 11) rfl z_inX4 hk he j hj hw hT tyX4 tyX4_ok nmX4 hfin hlen hd0 he2 hd kk
theorem zt_get_X2 {D : va_G} {cI cJ cM cS : ClassId} {n0 : Nat} {p : Program} {l : Launch} {e : Env} {R : Room} {s : State} {m : MethodId} {args : Array Value} {below : List Frame} {meth : Method} {c : Code} {cc : ByteArray} {nL : Nat} {own : String} {Q : State → Prop} {cells slots pc : Nat} {L : List (Nat × Value)} {st : List Value} {σ : z_S} (hX : z_X D cI cJ cM cS p s m args c cc nL own) {k i : Nat} {fs : List Value} (hk : k < 81) (he : z_E n0 cI cJ cM cS σ k = .inr (2, fs)) (j : Nat) (hj : j < 2) (hw : Cond.fieldLink own i RX2 (TX2 j).2.1 (TX2 j).2.2.1 ∈ z_ws) (hT : (TX2 j).1 = RX2) {v : Value} (hv : fs[j]? = some v) (hd : decode cc pc = .ok (.getfield i, 3)) (kk : z_t D cI cJ cM cS n0 p l e R s m args below meth c nL Q cells slots (pc + 3) L (v :: st) σ) : z_t D cI cJ cM cS n0 p l e R s m args below meth c nL Q cells slots pc L (.ref (n0 + k) :: st) σ := zt_get hX (ci := 2) (C := RX2) (T := TX2) (N := 2) rfl z_inX2 hk he j hj hw hT hv hd kk
theorem zt_puti_X2 {D : va_G} {cI cJ cM cS : ClassId} {n0 : Nat} {p : Program} {l : Launch} {e : Env} {R : Room} {s : State} {m : MethodId} {args : Array Value} {below : List Frame} {meth : Method} {c : Code} {cc : ByteArray} {nL : Nat} {own : String} {Q : State → Prop} {cells slots pc : Nat} {L : List (Nat × Value)} {st : List Value} {σ : z_S} (hX : z_X D cI cJ cM cS p s m args c cc nL own) {k i : Nat} {fs : List Value} (hk : k < 81) (he : z_E n0 cI cJ cM cS σ k = .inr (2, fs)) (j : Nat) (hj : j < 2) (hw : Cond.fieldLink own i RX2 (TX2 j).2.1 (TX2 j).2.2.1 ∈ z_ws) (hT : (TX2 j).1 = RX2) (hfin : (TX2 j).2.2.2 = false) (hlen : j < fs.length) {x : Int32} (hd0 : parseFieldDescriptor (TX2 j).2.2.1 = some .int) (he2 : z_E n0 cI cJ cM cS (zs_i σ k j x) k = .inr (2, fs.set j (.int x))) (hd : decode cc pc = .ok (.putfield i, 3)) (kk : z_t D cI cJ cM cS n0 p l e R s m args below meth c nL Q cells slots (pc + 3) L st (zs_i σ k j x)) : z_t D cI cJ cM cS n0 p l e R s m args below meth c nL Q cells slots pc L (.int x :: .ref (n0 + k) :: st) σ := zt_puti hX (ci := 2) (C := RX2) (T := TX2) (N := 2) rfl z_inX2 hk he j hj hw hT tyX2 tyX2_ok nmX2 hfin hlen hd0 he2 hd kk
theorem zt_putl_X2 {D : va_G} {cI cJ cM cS : ClassId} {n0 : Nat} {p : Program} {l : Launch} {e : Env} {R : Room} {s : State} {m : MethodId} {args : Array Value} {below : List Frame} {meth : Method} {c : Code} {cc : ByteArray} {nL : Nat} {own : String} {Q : State → Prop} {cells slots pc : Nat} {L : List (Nat × Value)} {st : List Value} {σ : z_S} (hX : z_X D cI cJ cM cS p s m args c cc nL own) {k i : Nat} {fs : List Value} (hk : k < 81) (he : z_E n0 cI cJ cM cS σ k = .inr (2, fs)) (j : Nat) (hj : j < 2) (hw : Cond.fieldLink own i RX2 (TX2 j).2.1 (TX2 j).2.2.1 ∈ z_ws) (hT : (TX2 j).1 = RX2) (hfin : (TX2 j).2.2.2 = false) (hlen : j < fs.length) {x : Int64} (hd0 : parseFieldDescriptor (TX2 j).2.2.1 = some .long) (he2 : z_E n0 cI cJ cM cS (zs_l σ k j x) k = .inr (2, fs.set j (.long x))) (hd : decode cc pc = .ok (.putfield i, 3)) (kk : z_t D cI cJ cM cS n0 p l e R s m args below meth c nL Q cells slots (pc + 3) L st (zs_l σ k j x)) : z_t D cI cJ cM cS n0 p l e R s m args below meth c nL Q cells slots pc L (.long x :: .ref (n0 + k) :: st) σ := zt_putl hX (ci := 2) (C := RX2) (T := TX2) (N := 2) rfl z_inX2 hk he j hj hw hT tyX2 tyX2_ok nmX2 hfin hlen hd0 he2 hd kk
theorem zt_get_X1 {D : va_G} {cI cJ cM cS : ClassId} {n0 : Nat} {p : Program} {l : Launch} {e : Env} {R : Room} {s : State} {m : MethodId} {args : Array Value} {below : List Frame} {meth : Method} {c : Code} {cc : ByteArray} {nL : Nat} {own : String} {Q : State → Prop} {cells slots pc : Nat} {L : List (Nat × Value)} {st : List Value} {σ : z_S} (hX : z_X D cI cJ cM cS p s m args c cc nL own) {k i : Nat} {fs : List Value} (hk : k < 81) (he : z_E n0 cI cJ cM cS σ k = .inr (1, fs)) (j : Nat) (hj : j < 3) (hw : Cond.fieldLink own i RX1 (TX1 j).2.1 (TX1 j).2.2.1 ∈ z_ws) (hT : (TX1 j).1 = RX1) {v : Value} (hv : fs[j]? = some v) (hd : decode cc pc = .ok (.getfield i, 3)) (kk : z_t D cI cJ cM cS n0 p l e R s m args below meth c nL Q cells slots (pc + 3) L (v :: st) σ) : z_t D cI cJ cM cS n0 p l e R s m args below meth c nL Q cells slots pc L (.ref (n0 + k) :: st) σ := zt_get hX (ci := 1) (C := RX1) (T := TX1) (N := 3) rfl z_inX1 hk he j hj hw hT hv hd kk
theorem zt_puti_X1 {D : va_G} {cI cJ cM cS : ClassId} {n0 : Nat} {p : Program} {l : Launch} {e : Env} {R : Room} {s : State} {m : MethodId} {args : Array Value} {below : List Frame} {meth : Method} {c : Code} {cc : ByteArray} {nL : Nat} {own : String} {Q : State → Prop} {cells slots pc : Nat} {L : List (Nat × Value)} {st : List Value} {σ : z_S} (hX : z_X D cI cJ cM cS p s m args c cc nL own) {k i : Nat} {fs : List Value} (hk : k < 81) (he : z_E n0 cI cJ cM cS σ k = .inr (1, fs)) (j : Nat) (hj : j < 3) (hw : Cond.fieldLink own i RX1 (TX1 j).2.1 (TX1 j).2.2.1 ∈ z_ws) (hT : (TX1 j).1 = RX1) (hfin : (TX1 j).2.2.2 = false) (hlen : j < fs.length) {x : Int32} (hd0 : parseFieldDescriptor (TX1 j).2.2.1 = some .int) (he2 : z_E n0 cI cJ cM cS (zs_i σ k j x) k = .inr (1, fs.set j (.int x))) (hd : decode cc pc = .ok (.putfield i, 3)) (kk : z_t D cI cJ cM cS n0 p l e R s m args below meth c nL Q cells slots (pc + 3) L st (zs_i σ k j x)) : z_t D cI cJ cM cS n0 p l e R s m args below meth c nL Q cells slots pc L (.int x :: .ref (n0 + k) :: st) σ := zt_puti hX (ci := 1) (C := RX1) (T := TX1) (N := 3) rfl z_inX1 hk he j hj hw hT tyX1 tyX1_ok nmX1 hfin hlen hd0 he2 hd kk
theorem zt_putl_X1 {D : va_G} {cI cJ cM cS : ClassId} {n0 : Nat} {p : Program} {l : Launch} {e : Env} {R : Room} {s : State} {m : MethodId} {args : Array Value} {below : List Frame} {meth : Method} {c : Code} {cc : ByteArray} {nL : Nat} {own : String} {Q : State → Prop} {cells slots pc : Nat} {L : List (Nat × Value)} {st : List Value} {σ : z_S} (hX : z_X D cI cJ cM cS p s m args c cc nL own) {k i : Nat} {fs : List Value} (hk : k < 81) (he : z_E n0 cI cJ cM cS σ k = .inr (1, fs)) (j : Nat) (hj : j < 3) (hw : Cond.fieldLink own i RX1 (TX1 j).2.1 (TX1 j).2.2.1 ∈ z_ws) (hT : (TX1 j).1 = RX1) (hfin : (TX1 j).2.2.2 = false) (hlen : j < fs.length) {x : Int64} (hd0 : parseFieldDescriptor (TX1 j).2.2.1 = some .long) (he2 : z_E n0 cI cJ cM cS (zs_l σ k j x) k = .inr (1, fs.set j (.long x))) (hd : decode cc pc = .ok (.putfield i, 3)) (kk : z_t D cI cJ cM cS n0 p l e R s m args below meth c nL Q cells slots (pc + 3) L st (zs_l σ k j x)) : z_t D cI cJ cM cS n0 p l e R s m args below meth c nL Q cells slots pc L (.long x :: .ref (n0 + k) :: st) σ := zt_putl hX (ci := 1) (C := RX1) (T := TX1) (N := 3) rfl z_inX1 hk he j hj hw hT tyX1 tyX1_ok nmX1 hfin hlen hd0 he2 hd kk
theorem zt_get_X0 {D : va_G} {cI cJ cM cS : ClassId} {n0 : Nat} {p : Program} {l : Launch} {e : Env} {R : Room} {s : State} {m : MethodId} {args : Array Value} {below : List Frame} {meth : Method} {c : Code} {cc : ByteArray} {nL : Nat} {own : String} {Q : State → Prop} {cells slots pc : Nat} {L : List (Nat × Value)} {st : List Value} {σ : z_S} (hX : z_X D cI cJ cM cS p s m args c cc nL own) {k i : Nat} {fs : List Value} (hk : k < 81) (he : z_E n0 cI cJ cM cS σ k = .inr (0, fs)) (j : Nat) (hj : j < 4) (hw : Cond.fieldLink own i RX0 (TX0 j).2.1 (TX0 j).2.2.1 ∈ z_ws) (hT : (TX0 j).1 = RX0) {v : Value} (hv : fs[j]? = some v) (hd : decode cc pc = .ok (.getfield i, 3)) (kk : z_t D cI cJ cM cS n0 p l e R s m args below meth c nL Q cells slots (pc + 3) L (v :: st) σ) : z_t D cI cJ cM cS n0 p l e R s m args below meth c nL Q cells slots pc L (.ref (n0 + k) :: st) σ := zt_get hX (ci := 0) (C := RX0) (T := TX0) (N := 4) rfl z_inX0 hk he j hj hw hT hv hd kk
theorem zt_puti_X0 {D : va_G} {cI cJ cM cS : ClassId} {n0 : Nat} {p : Program} {l : Launch} {e : Env} {R : Room} {s : State} {m : MethodId} {args : Array Value} {below : List Frame} {meth : Method} {c : Code} {cc : ByteArray} {nL : Nat} {own : String} {Q : State → Prop} {cells slots pc : Nat} {L : List (Nat × Value)} {st : List Value} {σ : z_S} (hX : z_X D cI cJ cM cS p s m args c cc nL own) {k i : Nat} {fs : List Value} (hk : k < 81) (he : z_E n0 cI cJ cM cS σ k = .inr (0, fs)) (j : Nat) (hj : j < 4) (hw : Cond.fieldLink own i RX0 (TX0 j).2.1 (TX0 j).2.2.1 ∈ z_ws) (hT : (TX0 j).1 = RX0) (hfin : (TX0 j).2.2.2 = false) (hlen : j < fs.length) {x : Int32} (hd0 : parseFieldDescriptor (TX0 j).2.2.1 = some .int) (he2 : z_E n0 cI cJ cM cS (zs_i σ k j x) k = .inr (0, fs.set j (.int x))) (hd : decode cc pc = .ok (.putfield i, 3)) (kk : z_t D cI cJ cM cS n0 p l e R s m args below meth c nL Q cells slots (pc + 3) L st (zs_i σ k j x)) : z_t D cI cJ cM cS n0 p l e R s m args below meth c nL Q cells slots pc L (.int x :: .ref (n0 + k) :: st) σ := zt_puti hX (ci := 0) (C := RX0) (T := TX0) (N := 4) rfl z_inX0 hk he j hj hw hT tyX0 tyX0_ok nmX0 hfin hlen hd0 he2 hd kk
theorem zt_putl_X0 {D : va_G} {cI cJ cM cS : ClassId} {n0 : Nat} {p : Program} {l : Launch} {e : Env} {R : Room} {s : State} {m : MethodId} {args : Array Value} {below : List Frame} {meth : Method} {c : Code} {cc : ByteArray} {nL : Nat} {own : String} {Q : State → Prop} {cells slots pc : Nat} {L : List (Nat × Value)} {st : List Value} {σ : z_S} (hX : z_X D cI cJ cM cS p s m args c cc nL own) {k i : Nat} {fs : List Value} (hk : k < 81) (he : z_E n0 cI cJ cM cS σ k = .inr (0, fs)) (j : Nat) (hj : j < 4) (hw : Cond.fieldLink own i RX0 (TX0 j).2.1 (TX0 j).2.2.1 ∈ z_ws) (hT : (TX0 j).1 = RX0) (hfin : (TX0 j).2.2.2 = false) (hlen : j < fs.length) {x : Int64} (hd0 : parseFieldDescriptor (TX0 j).2.2.1 = some .long) (he2 : z_E n0 cI cJ cM cS (zs_l σ k j x) k = .inr (0, fs.set j (.long x))) (hd : decode cc pc = .ok (.putfield i, 3)) (kk : z_t D cI cJ cM cS n0 p l e R s m args below meth c nL Q cells slots (pc + 3) L st (zs_l σ k j x)) : z_t D cI cJ cM cS n0 p l e R s m args below meth c nL Q cells slots pc L (.long x :: .ref (n0 + k) :: st) σ := zt_putl hX (ci := 0) (C := RX0) (T := TX0) (N := 4) rfl z_inX0 hk he j hj hw hT tyX0 tyX0_ok nmX0 hfin hlen hd0 he2 hd kk
theorem zt_get_X3 {D : va_G} {cI cJ cM cS : ClassId} {n0 : Nat} {p : Program} {l : Launch} {e : Env} {R : Room} {s : State} {m : MethodId} {args : Array Value} {below : List Frame} {meth : Method} {c : Code} {cc : ByteArray} {nL : Nat} {own : String} {Q : State → Prop} {cells slots pc : Nat} {L : List (Nat × Value)} {st : List Value} {σ : z_S} (hX : z_X D cI cJ cM cS p s m args c cc nL own) {k i : Nat} {fs : List Value} (hk : k < 81) (he : z_E n0 cI cJ cM cS σ k = .inr (3, fs)) (j : Nat) (hj : j < 8) (hw : Cond.fieldLink own i RX3 (TX3 j).2.1 (TX3 j).2.2.1 ∈ z_ws) (hT : (TX3 j).1 = RX3) {v : Value} (hv : fs[j]? = some v) (hd : decode cc pc = .ok (.getfield i, 3)) (kk : z_t D cI cJ cM cS n0 p l e R s m args below meth c nL Q cells slots (pc + 3) L (v :: st) σ) : z_t D cI cJ cM cS n0 p l e R s m args below meth c nL Q cells slots pc L (.ref (n0 + k) :: st) σ := zt_get hX (ci := 3) (C := RX3) (T := TX3) (N := 8) rfl z_inX3 hk he j hj hw hT hv hd kk
theorem zt_puti_X3 {D : va_G} {cI cJ cM cS : ClassId} {n0 : Nat} {p : Program} {l : Launch} {e : Env} {R : Room} {s : State} {m : MethodId} {args : Array Value} {below : List Frame} {meth : Method} {c : Code} {cc : ByteArray} {nL : Nat} {own : String} {Q : State → Prop} {cells slots pc : Nat} {L : List (Nat × Value)} {st : List Value} {σ : z_S} (hX : z_X D cI cJ cM cS p s m args c cc nL own) {k i : Nat} {fs : List Value} (hk : k < 81) (he : z_E n0 cI cJ cM cS σ k = .inr (3, fs)) (j : Nat) (hj : j < 8) (hw : Cond.fieldLink own i RX3 (TX3 j).2.1 (TX3 j).2.2.1 ∈ z_ws) (hT : (TX3 j).1 = RX3) (hfin : (TX3 j).2.2.2 = false) (hlen : j < fs.length) {x : Int32} (hd0 : parseFieldDescriptor (TX3 j).2.2.1 = some .int) (he2 : z_E n0 cI cJ cM cS (zs_i σ k j x) k = .inr (3, fs.set j (.int x))) (hd : decode cc pc = .ok (.putfield i, 3)) (kk : z_t D cI cJ cM cS n0 p l e R s m args below meth c nL Q cells slots (pc + 3) L st (zs_i σ k j x)) : z_t D cI cJ cM cS n0 p l e R s m args below meth c nL Q cells slots pc L (.int x :: .ref (n0 + k) :: st) σ := zt_puti hX (ci := 3) (C := RX3) (T := TX3) (N := 8) rfl z_inX3 hk he j hj hw hT tyX3 tyX3_ok nmX3 hfin hlen hd0 he2 hd kk
theorem zt_putl_X3 {D : va_G} {cI cJ cM cS : ClassId} {n0 : Nat} {p : Program} {l : Launch} {e : Env} {R : Room} {s : State} {m : MethodId} {args : Array Value} {below : List Frame} {meth : Method} {c : Code} {cc : ByteArray} {nL : Nat} {own : String} {Q : State → Prop} {cells slots pc : Nat} {L : List (Nat × Value)} {st : List Value} {σ : z_S} (hX : z_X D cI cJ cM cS p s m args c cc nL own) {k i : Nat} {fs : List Value} (hk : k < 81) (he : z_E n0 cI cJ cM cS σ k = .inr (3, fs)) (j : Nat) (hj : j < 8) (hw : Cond.fieldLink own i RX3 (TX3 j).2.1 (TX3 j).2.2.1 ∈ z_ws) (hT : (TX3 j).1 = RX3) (hfin : (TX3 j).2.2.2 = false) (hlen : j < fs.length) {x : Int64} (hd0 : parseFieldDescriptor (TX3 j).2.2.1 = some .long) (he2 : z_E n0 cI cJ cM cS (zs_l σ k j x) k = .inr (3, fs.set j (.long x))) (hd : decode cc pc = .ok (.putfield i, 3)) (kk : z_t D cI cJ cM cS n0 p l e R s m args below meth c nL Q cells slots (pc + 3) L st (zs_l σ k j x)) : z_t D cI cJ cM cS n0 p l e R s m args below meth c nL Q cells slots pc L (.long x :: .ref (n0 + k) :: st) σ := zt_putl hX (ci := 3) (C := RX3) (T := TX3) (N := 8) rfl z_inX3 hk he j hj hw hT tyX3 tyX3_ok nmX3 hfin hlen hd0 he2 hd kk
theorem zt_get_X6 {D : va_G} {cI cJ cM cS : ClassId} {n0 : Nat} {p : Program} {l : Launch} {e : Env} {R : Room} {s : State} {m : MethodId} {args : Array Value} {below : List Frame} {meth : Method} {c : Code} {cc : ByteArray} {nL : Nat} {own : String} {Q : State → Prop} {cells slots pc : Nat} {L : List (Nat × Value)} {st : List Value} {σ : z_S} (hX : z_X D cI cJ cM cS p s m args c cc nL own) {k i : Nat} {fs : List Value} (hk : k < 81) (he : z_E n0 cI cJ cM cS σ k = .inr (6, fs)) (j : Nat) (hj : j < 13) (hw : Cond.fieldLink own i RX6 (TX6 j).2.1 (TX6 j).2.2.1 ∈ z_ws) (hT : (TX6 j).1 = RX6) {v : Value} (hv : fs[j]? = some v) (hd : decode cc pc = .ok (.getfield i, 3)) (kk : z_t D cI cJ cM cS n0 p l e R s m args below meth c nL Q cells slots (pc + 3) L (v :: st) σ) : z_t D cI cJ cM cS n0 p l e R s m args below meth c nL Q cells slots pc L (.ref (n0 + k) :: st) σ := zt_get hX (ci := 6) (C := RX6) (T := TX6) (N := 13) rfl z_inX6 hk he j hj hw hT hv hd kk
theorem zt_puti_X6 {D : va_G} {cI cJ cM cS : ClassId} {n0 : Nat} {p : Program} {l : Launch} {e : Env} {R : Room} {s : State} {m : MethodId} {args : Array Value} {below : List Frame} {meth : Method} {c : Code} {cc : ByteArray} {nL : Nat} {own : String} {Q : State → Prop} {cells slots pc : Nat} {L : List (Nat × Value)} {st : List Value} {σ : z_S} (hX : z_X D cI cJ cM cS p s m args c cc nL own) {k i : Nat} {fs : List Value} (hk : k < 81) (he : z_E n0 cI cJ cM cS σ k = .inr (6, fs)) (j : Nat) (hj : j < 13) (hw : Cond.fieldLink own i RX6 (TX6 j).2.1 (TX6 j).2.2.1 ∈ z_ws) (hT : (TX6 j).1 = RX6) (hfin : (TX6 j).2.2.2 = false) (hlen : j < fs.length) {x : Int32} (hd0 : parseFieldDescriptor (TX6 j).2.2.1 = some .int) (he2 : z_E n0 cI cJ cM cS (zs_i σ k j x) k = .inr (6, fs.set j (.int x))) (hd : decode cc pc = .ok (.putfield i, 3)) (kk : z_t D cI cJ cM cS n0 p l e R s m args below meth c nL Q cells slots (pc + 3) L st (zs_i σ k j x)) : z_t D cI cJ cM cS n0 p l e R s m args below meth c nL Q cells slots pc L (.int x :: .ref (n0 + k) :: st) σ := zt_puti hX (ci := 6) (C := RX6) (T := TX6) (N := 13) rfl z_inX6 hk he j hj hw hT tyX6 tyX6_ok nmX6 hfin hlen hd0 he2 hd kk
theorem zt_putl_X6 {D : va_G} {cI cJ cM cS : ClassId} {n0 : Nat} {p : Program} {l : Launch} {e : Env} {R : Room} {s : State} {m : MethodId} {args : Array Value} {below : List Frame} {meth : Method} {c : Code} {cc : ByteArray} {nL : Nat} {own : String} {Q : State → Prop} {cells slots pc : Nat} {L : List (Nat × Value)} {st : List Value} {σ : z_S} (hX : z_X D cI cJ cM cS p s m args c cc nL own) {k i : Nat} {fs : List Value} (hk : k < 81) (he : z_E n0 cI cJ cM cS σ k = .inr (6, fs)) (j : Nat) (hj : j < 13) (hw : Cond.fieldLink own i RX6 (TX6 j).2.1 (TX6 j).2.2.1 ∈ z_ws) (hT : (TX6 j).1 = RX6) (hfin : (TX6 j).2.2.2 = false) (hlen : j < fs.length) {x : Int64} (hd0 : parseFieldDescriptor (TX6 j).2.2.1 = some .long) (he2 : z_E n0 cI cJ cM cS (zs_l σ k j x) k = .inr (6, fs.set j (.long x))) (hd : decode cc pc = .ok (.putfield i, 3)) (kk : z_t D cI cJ cM cS n0 p l e R s m args below meth c nL Q cells slots (pc + 3) L st (zs_l σ k j x)) : z_t D cI cJ cM cS n0 p l e R s m args below meth c nL Q cells slots pc L (.long x :: .ref (n0 + k) :: st) σ := zt_putl hX (ci := 6) (C := RX6) (T := TX6) (N := 13) rfl z_inX6 hk he j hj hw hT tyX6 tyX6_ok nmX6 hfin hlen hd0 he2 hd kk
end
section
/-! rows of the methods that make cells or copy rows -/
section ZP0
variable {D : va_G} {cI cJ cM cS : ClassId} {n0 : Nat} {p : Program} {l : Launch} {e : Env} {R : Room} {s : State} {m : MethodId} {args : Array Value} {below : List Frame} {meth : Method} {c : Code} {cc : ByteArray} {nL : Nat} {own : String} {Q : State → Prop} {cells slots pc : Nat} {L L' : List (Nat × Value)} {st : List Value} {n : Nat} {h : Nat → va_E}
theorem z_nn {z : Int32} (hz : ¬ z < 0) : z.toInt = (z.toNatClampNeg : Int) := by
  have hz0 : (0 : Int) ≤ z.toInt := by
    have := Int32.not_lt.mp hz
    simpa using Int32.le_iff_toInt_le.mp this
  show z.toInt = ((z.toInt.toNat : Nat) : Int)
  omega
theorem zr_copy (hX : z_X D cI cJ cM cS p s m args c cc nL own) {k0 k1 len0 len1 i : Nat} {f g : Nat → Int32} {sp dp q : Int32} (hd : decode cc pc = .ok (.invokestatic i, 3)) (hw : Cond.methodLink own i arraycopyName ∈ z_ws) (hk0 : k0 < n) (hk1 : k1 < n) (he0 : h k0 = .inl (cI, len0, .inl f)) (he1 : h k1 = .inl (cI, len1, .inl g)) (h1 : ¬ sp < 0) (h2 : ¬ dp < 0) (h3 : ¬ q < 0) (h4 : sp.toNatClampNeg + q.toNatClampNeg ≤ len0) (h5 : dp.toNatClampNeg + q.toNatClampNeg ≤ len1) (hframes : 1 ≤ R.frames) (hlocals : (st.map fun v => v.category).sum + (nativeFrameWords "java/lang/System" "arraycopy" 5 + 11) ≤ R.locals) (kk : z_w D n0 p l e R s m args below meth c nL Q cells slots (pc + 3) L st n (z_up h k1 (.inl (cI, len1, .inl (va_cpy f g sp.toNatClampNeg dp.toNatClampNeg q.toNatClampNeg))))) : z_w D n0 p l e R s m args below meth c nL Q cells slots pc L (.int q :: .int dp :: .ref (n0 + k1) :: .int sp :: .ref (n0 + k0) :: st) n h := by
  intro H locs ls hl hR hS T hT X
  have hml : c.maxLocals = ls.size := hX.1.2.2.1.trans hl.1.symm
  have hc0 : H[n0 + k0]? = some (vp_cell cI (len0, .inl f)) := by
    have := hR.2 k0 hk0
    rw [he0] at this
    exact this
  have hc1 : H[n0 + k1]? = some (vp_cell cI (len1, .inl g)) := by
    have := hR.2 k1 hk1
    rw [he1] at this
    exact this
  obtain ⟨-, j0, hj0, cm0, hkk0⟩ := (hX.2.2 0 _ rfl).1 len0 (fun j => .int (f j))
  obtain ⟨-, j1, hj1, cm1, hkk1⟩ := (hX.2.2 0 _ rfl).1 len1 (fun j => .int (g j))
  obtain ⟨vm', X', step⟩ := X.arraycopy hX.1.1 hX.1.2.2.2.1 (hX.1.2.2.2.2 _ hw) (hX.1.2.2.2.2 _ kw_275) (hX.1.2.2.2.2 _ kw_274) (hX.1.2.2.2.2 _ kw_68) (src := n0 + k0) (dst := n0 + k1) (cs := vp_cell cI (len0, .inl f)) (cd := vp_cell cI (len1, .inl g)) (srcPos := sp) (destPos := dp) (n := q) (by rw [hT]; exact hc0) (by rw [hT]; exact hc1)
    (fun _ h => by cases h) (fun _ h => by cases h) (fun h => by cases h) (fun h => by cases h) hj0 hj1 hkk0 hkk1 (by simp [refKind]) h1 h2 h3
    (by rw [z_nn h1, z_nn h3]; show ¬ _ > ((arrV cI len0 (fun j => .int (f j))).slots.size : Int); rw [arrV_size]; omega)
    (by rw [z_nn h2, z_nn h3]; show ¬ _ > ((arrV cI len1 (fun j => .int (g j))).slots.size : Int); rw [arrV_size]; omega)
    (fun vm₁ _ i hi => by
      have e : (vp_cell cI (len0, .inl f)).slots.getD (sp.toNatClampNeg + i) .null = .int (f (sp.toNatClampNeg + i)) := by
        show (arrV cI len0 (fun j => .int (f j))).slots.getD _ _ = _
        rw [Array.getD_eq_getD_getElem?, arrV_read _ _ (by omega)]
        rfl
      refine ⟨?_, ?_⟩
      · rw [e]
        rfl
      · rw [e]
        exact trivial)
    (g := F0 m pc ls (.int q :: .int dp :: .ref (n0 + k1) :: .int sp :: .ref (n0 + k0) :: st)) rfl (by rw [hml]) (rest := st) rfl (by rw [hX.1.2.1]; exact hd) hframes (by show 2 * 0 + _ + _ ≤ _; omega)
  have e1 : copied (vp_cell cI (len0, .inl f)) (vp_cell cI (len1, .inl g)) sp dp q = vp_cell cI (len1, .inl (va_cpy f g sp.toNatClampNeg dp.toNatClampNeg q.toNatClampNeg)) := va_copied (fun z => .int z) cI cI f g h4
  rw [e1] at X' step
  have hlt : n0 + k1 < H.size := (Array.getElem?_eq_some_iff.mp hc1).1
  have hheap : ((T.setVm vm').setCell (n0 + k1) (vp_cell cI (len1, .inl (va_cpy f g sp.toNatClampNeg dp.toNatClampNeg q.toNatClampNeg)))).heap = H.setIfInBounds (n0 + k1) (vp_cell cI (len1, .inl (va_cpy f g sp.toNatClampNeg dp.toNatClampNeg q.toNatClampNeg))) := by rw [← hT]; rfl
  have oq : ∀ y : Nat, y ≠ n0 + k1 → (H.setIfInBounds (n0 + k1) (vp_cell cI (len1, .inl (va_cpy f g sp.toNatClampNeg dp.toNatClampNeg q.toNatClampNeg))))[y]? = H[y]? := fun y hy => by simp [Array.getElem?_setIfInBounds, Ne.symm hy]
  obtain ⟨t, a1, b1⟩ := kk _ _ ls hl (z_H_put hR (show (H.setIfInBounds (n0 + k1) _)[n0 + k1]? = some _ by simp [Array.getElem?_setIfInBounds, hlt]) (by simp) oq) ⟨by simp; exact hS.1, fun y g1 g2 => by
      rw [oq y (fun e => g2 (by rw [e]; exact Nat.le_add_right _ _))]
      exact hS.2.1 y g1 g2, fun y hy => by
      rcases List.mem_append.mp hy with h | h
      · exact hS.2.2 y h
      · obtain ⟨z, -, hz⟩ := List.mem_map.mp h
        rw [← hz]
        exact Nat.le_add_right _ _⟩ _ hheap X'
  exact ⟨t, step t a1, b1⟩
theorem zr_f2raw (hX : z_X D cI cJ cM cS p s m args c cc nL own) {i : Nat} {x : UInt32} (hd : decode cc pc = .ok (.invokestatic i, 3)) (hw : Cond.methodLink own i ⟨"java/lang/Float", "floatToRawIntBits", "(F)I"⟩ ∈ z_ws) (h1 : 1 ≤ R.frames) (h2 : (st.map fun v => v.category).sum + 15 ≤ R.locals) (kk : z_w D n0 p l e R s m args below meth c nL Q cells slots (pc + 3) L (.int x.toInt32 :: st) n h) : z_w D n0 p l e R s m args below meth c nL Q cells slots pc L (.float x :: st) n h := fun H locs ls hl hR hS => vn_f2i hX.1.1 hX.1.2.1 (hX.1.2.2.1.trans hl.1.symm) hX.1.2.2.2.1 (hX.1.2.2.2.2 _ hw) (hX.1.2.2.2.2 _ kw_923) (hX.1.2.2.2.2 _ kw_922) (hX.1.2.2.2.2 _ kw_70) h1 h2 hd (kk H locs ls hl hR hS)
/-- a new object: its fields' first values -/
theorem zr_new (hX : z_X D cI cJ cM cS p s m args c cc nL own) {ci : Nat} {C : String} {T : u_T} {N i : Nat} {fs : List Value} (hc : vwCl[ci]? = some (C, T, N)) (hin : ∀ w ∈ u_ws C T N, w ∈ z_ws) (ty : Nat → FieldType) (hty : ∀ k, k < N → parseFieldDescriptor (T k).2.2.1 = some (ty k)) (w1 : Cond.classLink own i C ∈ z_ws) (w2 : Cond.instantiable C N ∈ z_ws) (w3 : Cond.initialized C ∈ z_ws) (hfs : ∀ j, j < N → defaultValue (ty j) = vp_V fs j) (hcells : cells + 1 ≤ R.cells) (hslots : slots + N ≤ R.slots) (hd : decode cc pc = .ok (.new i, 3)) (kk : z_w D n0 p l e R s m args below meth c nL Q (cells + 1) (slots + N) (pc + 3) L (.ref (n0 + n) :: st) (n + 1) (z_up h n (.inr (ci, fs)))) : z_w D n0 p l e R s m args below meth c nL Q cells slots pc L st n h := by
  intro H locs ls hl hR hS
  have hts := hX.1.2.2.2.2
  have hKn := hX.2.1 ci _ hc
  refine W.newcK hX.1.1 hX.1.2.1 hX.1.2.2.2.1 (hts _ w1) (hts _ w2) (hts _ w3) rfl hd hcells hslots hKn.2.1 hR.1 fun H1 kC hkC e1 z1 o1 => ?_
  refine kk H1 locs ls hl (z_H_new hR ⟨_, hc, (u_born ty hts hin hKn hkC e1 hty).to hfs⟩ (by rw [z1, hR.1]) (fun q hq => o1 q (by rw [← hR.1]; exact hq))) ⟨Nat.le_trans hS.1 (by rw [hR.1, z1]; exact Nat.le_succ _), fun x h1 h2 => (o1 x (by rw [← hR.1]; exact Nat.lt_of_lt_of_le h1 hS.1)).trans (hS.2.1 x h1 h2), hS.2.2⟩
/-- a new int[], long[] -/
theorem zr_newI (hX : z_X D cI cJ cM cS p s m args c cc nL own) {q : Int32} {N : Nat} (hd : decode cc pc = .ok (.newarray .int, 2)) (hn : ¬ q < 0) (hN : q.toNatClampNeg = N) (hb : N * 4 ≤ 536870912) (hcells : cells + 1 ≤ R.cells) (hslots : slots + N ≤ R.slots) (kk : z_w D n0 p l e R s m args below meth c nL Q (cells + 1) (slots + N) (pc + 2) L (.ref (n0 + n) :: st) (n + 1) (z_up h n (.inl (cI, N, .inl (fun _ => 0))))) : z_w D n0 p l e R s m args below meth c nL Q cells slots pc L (.int q :: st) n h := by
  intro H locs ls hl hR hS
  refine va_newaK (atype := .int) hX.1.1 hX.1.2.1 (hX.1.2.2.2.2 _ kw_142) rfl hd rfl hn hN hb hcells hslots hR.1 fun H1 cA e1 z1 o1 _ hnm => ?_
  have hcA : cA = cI := Option.some.inj (hnm.symm.trans (hX.2.2 0 _ rfl).2)
  subst hcA
  refine kk H1 locs ls hl (z_H_new hR e1 (by rw [z1, hR.1]) (fun q hq => o1 q (by rw [← hR.1]; exact hq))) ⟨Nat.le_trans hS.1 (by rw [hR.1, z1]; exact Nat.le_succ _), fun x h1 h2 => (o1 x (by rw [← hR.1]; exact Nat.lt_of_lt_of_le h1 hS.1)).trans (hS.2.1 x h1 h2), hS.2.2⟩
theorem zr_newL (hX : z_X D cI cJ cM cS p s m args c cc nL own) {q : Int32} {N : Nat} (hd : decode cc pc = .ok (.newarray .long, 2)) (hn : ¬ q < 0) (hN : q.toNatClampNeg = N) (hb : N * 8 ≤ 536870912) (hcells : cells + 1 ≤ R.cells) (hslots : slots + N ≤ R.slots) (kk : z_w D n0 p l e R s m args below meth c nL Q (cells + 1) (slots + N) (pc + 2) L (.ref (n0 + n) :: st) (n + 1) (z_up h n (.inl (cJ, N, .inr (.inl (fun _ => 0)))))) : z_w D n0 p l e R s m args below meth c nL Q cells slots pc L (.int q :: st) n h := by
  intro H locs ls hl hR hS
  refine va_newaK (atype := .long) hX.1.1 hX.1.2.1 (hX.1.2.2.2.2 _ kw_200) rfl hd rfl hn hN hb hcells hslots hR.1 fun H1 cA e1 z1 o1 _ hnm => ?_
  have hcA : cA = cJ := Option.some.inj (hnm.symm.trans (hX.2.2 1 _ rfl).2)
  subst hcA
  refine kk H1 locs ls hl (z_H_new hR e1 (by rw [z1, hR.1]) (fun q hq => o1 q (by rw [← hR.1]; exact hq))) ⟨Nat.le_trans hS.1 (by rw [hR.1, z1]; exact Nat.le_succ _), fun x h1 h2 => (o1 x (by rw [← hR.1]; exact Nat.lt_of_lt_of_le h1 hS.1)).trans (hS.2.1 x h1 h2), hS.2.2⟩
/-- a new State[] -/
theorem zr_newS (hX : z_X D cI cJ cM cS p s m args c cc nL own) (hAO : va_AO "MeterTree$State" s) {q : Int32} {N i : Nat} (hd : decode cc pc = .ok (.anewarray i, 3)) (w1 : Cond.classLink own i "MeterTree$State" ∈ z_ws) (hn : ¬ q < 0) (hN : q.toNatClampNeg = N) (hb : N * 4 ≤ 536870912) (hcells : cells + 1 ≤ R.cells) (hslots : slots + N ≤ R.slots) (kk : z_w D n0 p l e R s m args below meth c nL Q (cells + 1) (slots + N) (pc + 3) L (.ref (n0 + n) :: st) (n + 1) (z_up h n (.inl (cS, N, .inr (.inr (.inr (.inr (fun _ => none)))))))) : z_w D n0 p l e R s m args below meth c nL Q cells slots pc L (.int q :: st) n h := by
  subst hN
  intro H locs ls hl hR hS
  refine W.anew hX.1.1 hX.1.2.1 hX.1.2.2.2.1 (hX.1.2.2.2.2 _ w1) (va_AO.use hAO) rfl hd rfl hn hb hcells hslots fun cA kA comp f1 f2 f3 f4 => ?_
  obtain ⟨kA2, comp2, -, -, -, k4⟩ := (hX.2.2 3 _ rfl).2
  have hcA : cA = cS := Option.some.inj (f1.symm.trans k4)
  subst hcA
  generalize hH1 : H.push ({ cls := cA, slots := Array.replicate q.toNatClampNeg .null, vm := .none } : Cell) = H1
  have z1 : H1.size = H.size + 1 := by rw [← hH1, Array.size_push]
  have e1 : H1[H.size]? = some (arrV cA q.toNatClampNeg (fun _ => .null)) := by rw [← hH1, Array.getElem?_push_size, ← arrV_new]
  have o1 : ∀ x : Nat, x < H.size → H1[x]? = H[x]? := fun x hx => by rw [← hH1, Array.getElem?_push, if_neg (Nat.ne_of_lt hx)]
  have eR : (Value.ref H.size) = .ref (n0 + n) := by rw [hR.1]
  rw [eR]
  refine kk H1 locs ls hl (z_H_new hR (by rw [← hR.1]; exact e1) z1 o1) ⟨Nat.le_trans hS.1 (by rw [z1]; exact Nat.le_succ _), fun x h1 h2 => (o1 x (Nat.lt_of_lt_of_le h1 hS.1)).trans (hS.2.1 x h1 h2), hS.2.2⟩
/-- a new int[][] and its rows, behind it -/
def z_mna (n0 n N K : Nat) (cI cM : ClassId) (h : Nat → va_E) : Nat → va_E := fun k => if k < n then h k else if k = n then .inl (cM, N, .inr (.inr (.inr (.inr (fun i => some (n0 + (n + 1 + i))))))) else .inl (cI, K, .inl (fun _ => 0))
theorem z_arrext {c : ClassId} {n : Nat} {f g : Nat → Value} (h : ∀ j, j < n → f j = g j) : arrV c n f = arrV c n g := by
  unfold arrV
  congr 1
  apply Array.ext
  · simp
  · intro i h1 h2
    simp only [Array.getElem_ofFn]
    exact h _ (by simpa using h1)
theorem zr_mna (hX : z_X D cI cJ cM cS p s m args c cc nL own) (hAO : (Cond.arrayOver (.array .int)).before #[] s = true) {x y : Int32} {N K i : Nat} (hd : decode cc pc = .ok (.multianewarray i 2, 4)) (w1 : Cond.classLink own i "[[I" ∈ z_ws) (hx : ¬ x < 0) (hy : ¬ y < 0) (hN : x.toNatClampNeg = N) (hM : y.toNatClampNeg = K) (hb1 : N * 4 ≤ 536870912) (hb2 : K * 4 ≤ 536870912) (hcells : cells + (1 + N) ≤ R.cells) (hslots : slots + (N + N * K) ≤ R.slots) (kk : z_w D n0 p l e R s m args below meth c nL Q (cells + 1 + N) (slots + N + N * K) (pc + 4) L (.ref (n0 + n) :: st) (n + 1 + N) (z_mna n0 n N K cI cM h)) : z_w D n0 p l e R s m args below meth c nL Q cells slots pc L (.int y :: .int x :: st) n h := by
  subst hN
  subst hM
  intro H locs ls hl hR hS T hT Xs
  obtain ⟨vm₁, cA, comp, -, fA, fC, hO, -, X', step⟩ := Xs.multianewarray2F (ty := .int) hX.1.1 hX.1.2.2.2.1 (hX.1.2.2.2.2 _ w1) hAO (hX.1.2.2.2.2 _ kw_142) (g := F0 m pc ls (.int y :: .int x :: st)) rfl (by rw [hX.1.2.1]; exact hd) rfl hx hy hb1 hb2 (by omega) rfl rfl hcells hslots
  have hcA : cA = cM := Option.some.inj (fA.symm.trans (hX.2.2 2 _ rfl).2)
  have hcC : comp = cI := Option.some.inj (fC.symm.trans (hX.2.2 0 _ rfl).2)
  subst hcA
  subst hcC
  generalize hF : Jvm.Free.Multi.fill (T.setVm vm₁) cA comp x.toNatClampNeg y.toNatClampNeg (defaultValue .int) x.toNatClampNeg = F at X' step
  have hTh : (T.setVm vm₁).heap = H := hT
  obtain ⟨f1, f2, -, -⟩ := Jvm.Free.Multi.fill_facts (T.setVm vm₁) cA comp x.toNatClampNeg y.toNatClampNeg (defaultValue .int) x.toNatClampNeg
  rw [hF, hTh] at f1 f2
  have hold : ∀ z : Nat, z < H.size → F.heap[z]? = H[z]? := fun z hz => by
    have := Jvm.Free.Multi.fill_old (T.setVm vm₁) cA comp x.toNatClampNeg y.toNatClampNeg (defaultValue .int) (a := z) (by rw [hTh]; exact hz) x.toNatClampNeg
    rw [hF, hTh] at this
    exact this
  have hrow : ∀ j : Nat, j < x.toNatClampNeg → F.heap[H.size + 1 + j]? = some (arrV comp y.toNatClampNeg (fun _ => .int 0)) := fun j hj => by
    have := Jvm.Free.Multi.fill_inner (T.setVm vm₁) cA comp x.toNatClampNeg y.toNatClampNeg (defaultValue .int) x.toNatClampNeg j hj
    rw [hF, hTh] at this
    rw [this, ← arrV_new]
    rfl
  have hout : Jvm.Free.Multi.outerC cA x.toNatClampNeg H.size x.toNatClampNeg = arrV cA x.toNatClampNeg (fun j => va_rf (some (n0 + (n + 1 + j)))) := by
    have hO2 : ∀ i : Nat, Jvm.Free.Multi.outerC cA x.toNatClampNeg H.size i = arrV cA x.toNatClampNeg (fun j => va_rf (if j < i then some (H.size + 1 + j) else none)) := by
      intro i
      induction i with
      | zero =>
        show ({ cls := cA, slots := Array.replicate x.toNatClampNeg .null, vm := .none } : Cell) = _
        rw [arrV_new]
        refine congrArg (arrV cA x.toNatClampNeg) (funext fun j => ?_)
        simp [va_rf]
      | succ i ih =>
        show (Jvm.Free.Multi.outerC cA x.toNatClampNeg H.size i).setSlot i (.ref (H.size + 1 + i)) = _
        rw [ih, arrV_store]
        refine congrArg (arrV cA x.toNatClampNeg) (funext fun j => ?_)
        by_cases e : j = i
        · subst e
          simp [updV, va_rf]
        · by_cases h : j < i
          · simp [updV, e, h, Nat.lt_succ_of_lt h]
          · simp [updV, e, h, show ¬ j < i + 1 by omega]
    rw [hO2]
    refine z_arrext (fun j hj => ?_)
    rw [if_pos hj, hR.1, Nat.add_assoc n0, Nat.add_assoc n0]
  rw [hout] at f2
  have hR1 : z_H D n0 (n + 1 + x.toNatClampNeg) (z_mna n0 n x.toNatClampNeg y.toNatClampNeg comp cA h) F.heap := by
    refine ⟨by rw [f1, hR.1]; omega, fun k hk => ?_⟩
    unfold z_mna
    by_cases h1 : k < n
    · rw [if_pos h1]
      exact (hR.2 k h1).kept (hold _ (by simp only; rw [hR.1]; omega))
    · rw [if_neg h1]
      by_cases h2 : k = n
      · subst h2
        rw [if_pos rfl]
        show F.heap[n0 + k]? = some (vp_cell _ _)
        rw [← hR.1]
        exact f2
      · rw [if_neg h2]
        show F.heap[n0 + k]? = some (vp_cell _ _)
        have := hrow (k - n - 1) (by omega)
        rw [hR.1, show n0 + n + 1 + (k - n - 1) = n0 + k by omega] at this
        exact this
  obtain ⟨t, a1, b1⟩ := kk F.heap locs ls hl hR1 ⟨by rw [f1]; have := hS.1; omega, fun z h1 h2 => (hold z (Nat.lt_of_lt_of_le h1 hS.1)).trans (hS.2.1 z h1 h2), hS.2.2⟩ F rfl X'
  refine ⟨t, step t ?_, b1⟩
  have e : T.heap.size = n0 + n := by rw [hT, hR.1]
  rw [e]
  exact a1
theorem zr_objInit (hX : z_X D cI cJ cM cS p s m args c cc nL own) {i a : Nat} (hd : decode cc pc = .ok (.invokespecial i, 3)) (hw : Cond.methodLink own i Lib.objectInit ∈ z_ws) (w2 : Cond.instanceMethod Lib.objectInit ∈ z_ws) (w3 : Cond.code Lib.objectInit ⟨#[0xb1]⟩ 1 none ∈ z_ws) (h1 : 1 ≤ R.frames) (h2 : (st.map fun v => v.category).sum + 12 ≤ R.locals) (kk : z_w D n0 p l e R s m args below meth c nL Q cells slots (pc + 3) L st n h) : z_w D n0 p l e R s m args below meth c nL Q cells slots pc L (.ref a :: st) n h := fun H locs ls hl hR hS => W.objInit hX.1.1 hX.1.2.1 hX.1.2.2.2.1 (hX.1.2.2.2.2 _ hw) (hX.1.2.2.2.2 _ w2) (hX.1.2.2.2.2 _ w3) rfl (hl.1.trans hX.1.2.2.1.symm) rfl hd h1 (by show 2 * 0 + _ + 12 ≤ _; omega) (kk H locs ls hl hR hS)
theorem zr_putF (hX : z_X D cI cJ cM cS p s m args c cc nL own) {ci : Nat} {C : String} {T : u_T} {N k i : Nat} {fs : List Value} (hc : vwCl[ci]? = some (C, T, N)) (hin : ∀ w ∈ u_ws C T N, w ∈ z_ws) (hk : k < n) (he : h k = .inr (ci, fs)) (j : Nat) (hj : j < N) (hw : Cond.fieldLink own i C (T j).2.1 (T j).2.2.1 ∈ z_ws) (hT : (T j).1 = C) (ty0 : Nat → FieldType) (hty : ∀ k, k < N → parseFieldDescriptor (T k).2.2.1 = some (ty0 k)) (hnm : ∀ a, a < N → ∀ b, b < N → a ≠ b → (T a).2.1 ≠ (T b).2.1) (hfin : (T j).2.2.2 = true) (hin2 : meth.name = "<init>") (hown2 : C = own) {ty : FieldType} {v : Value} (hd0 : parseFieldDescriptor (T j).2.2.1 = some ty) (hn : narrow ty v = v) (hfit : fits ty v = true) (hlen : j < fs.length) (hd : decode cc pc = .ok (.putfield i, 3)) (kk : z_w D n0 p l e R s m args below meth c nL Q cells slots (pc + 3) L st n (z_up h k (.inr (ci, fs.set j v)))) : z_w D n0 p l e R s m args below meth c nL Q cells slots pc L (v :: .ref (n0 + k) :: st) n h := fun H locs ls hl hR hS => by
  have hts := hX.1.2.2.2.2
  have hap := va_apart (own := own) hts hin ty0 hty hnm hX.2 hc
  have hA := hR.2 k hk
  rw [he] at hA
  obtain ⟨r, h1, cell, q1, q2, q3, q4⟩ := hA
  have hr : r = (C, T, N) := Option.some.inj (h1.symm.trans hc)
  subst hr
  obtain ⟨hSl, hfc, kC, hkC, hkind⟩ := hX.2.1 ci _ hc
  obtain ⟨cf, kf, fi, f, hi, hsl⟩ := hSl j hj
  have hlay := hts _ (hin _ (u_in_lay hj))
  unfold u_lay at hlay
  rw [if_pos hfin] at hlay
  have hst := (u_facts hfc hkC (u_lays hts hin hj) hi).1
  have hcf : m.cls = cf := by
    obtain ⟨_, _, c', _, _, _, -, -, hf', -, -, -, hown3, -⟩ := Cond.laysFinal_spec hlay
    have e1 : c' = cf := by have := hi.symm.trans hf'; simp at this; exact this.1.symm
    rw [hT, hown2] at hown3
    rw [← e1]; exact Option.some.inj (hX.1.2.2.2.1.symm.trans hown3)
  have h6 := u_fits hfc hkC hkind (Or.inr hlay) hi hd0 hn hfit
  refine W.putFinK hX.1.1 hX.1.2.1 hX.1.2.2.2.1 (hts _ hw) (by rw [← hT]; exact hi) hst hcf hin2 (by rw [q2]; exact h6) q1 q3 (by rw [hsl]; exact k2_hasslot (q4 j hj)) rfl rfl hd fun H' e1 e2 e3 => ?_
  rw [hsl] at e1 ⊢
  exact kk H' _ ls hl (z_H_put hR ⟨_, hc, t_OB.to (V := updV (vp_V fs) j v) ⟨_, e1, q2, q3, t_set q4 hap hj v⟩ (fun x _ => vp_updV_set hlen v x)⟩ e2 e3) (hS.put e2 e3 (Nat.le_add_right _ _))
end ZP0
end
section
/-! typed rows for whole rows of ints, for the states that the history holds, for blocks of a state; a new state -/
section ZP1
variable {D : va_G} {cI cJ cM cS : ClassId} {n0 : Nat} {p : Program} {l : Launch} {e : Env} {R : Room} {s : State} {m : MethodId} {args : Array Value} {below : List Frame} {meth : Method} {c : Code} {cc : ByteArray} {nL : Nat} {own : String} {Q : State → Prop} {cells slots pc : Nat} {L L' : List (Nat × Value)} {st : List Value} {σ : z_S}
def zs_row (σ : z_S) (k : Nat) (f : Nat → Int32) : z_S := (fun a b => if a = k then f b else σ.1 a b, σ.2)
theorem zg_i_row (σ : z_S) (k : Nat) (f : Nat → Int32) (a b : Nat) : zg_i (zs_row σ k f) a b = if a = k then f b else zg_i σ a b := rfl
theorem zg_l_row (σ : z_S) (k : Nat) (f : Nat → Int32) : zg_l (zs_row σ k f) = zg_l σ := rfl
theorem zg_r_row (σ : z_S) (k : Nat) (f : Nat → Int32) : zg_r (zs_row σ k f) = zg_r σ := rfl
theorem zg_n_row (σ : z_S) (k : Nat) (f : Nat → Int32) : zg_n (zs_row σ k f) = zg_n σ := rfl
theorem z_uprow {k len : Nat} {f : Nat → Int32} (hs : z_sh k = (10, len)) (a : Nat) : z_E n0 cI cJ cM cS (zs_row σ k f) a = z_up (z_E n0 cI cJ cM cS σ) k (.inl (cI, len, .inl f)) a := by
  by_cases h : a = k
  · subst h
    rw [z_up_at, z_E10 hs]
    have e : zg_i (zs_row σ a f) a = f := by
      funext b
      rw [zg_i_row, if_pos rfl]
    rw [e]
  · rw [z_up_ne _ _ h]
    have e : zg_i (zs_row σ k f) a = zg_i σ a := by
      funext b
      rw [zg_i_row, if_neg h]
    unfold z_E
    rw [e]
    rfl
theorem z_upst {j : Nat} {v : Option Nat} (a : Nat) : z_E n0 cI cJ cM cS (zs_r σ j v) a = z_up (z_E n0 cI cJ cM cS σ) 28 (.inl (cS, 5, .inr (.inr (.inr (.inr (fun i => ((if i = j then v else zg_r σ i)).map (fun b => n0 + b))))))) a := by
  by_cases h : a = 28
  · subst h
    rw [z_up_at, z_E13 (len := 5) (by decide)]
    rfl
  · rw [z_up_ne _ _ h]
    have hsh : (z_sh a).1 ≠ 13 := by
      unfold z_sh
      by_cases h81 : a < 81
      · rw [if_pos h81]
        exact (show ∀ a, a < 81 → a ≠ 28 → (z_tab.getD a (0, 0)).1 ≠ 13 by decide +kernel) a h81 h
      · rw [if_neg h81]
        exact (show ∀ b, b < 26 → (z_tab.getD (1 + b) (0, 0)).1 ≠ 13 by decide +kernel) _ (Nat.mod_lt _ (by decide))
    unfold z_E
    rw [show zg_i (zs_r σ j v) a = zg_i σ a from rfl, show zg_l (zs_r σ j v) a = zg_l σ a from rfl]
    generalize z_sh a = t at hsh ⊢
    obtain ⟨t1, t2⟩ := t
    simp only at hsh
    unfold z_Ec
    split <;> first | rfl | (exfalso; simp_all)
/-- a state's 26 places from k on -/
def z_blk (k : Nat) (σ : z_S) : Prop := (∀ j, j < 26 → z_sh (k + j) = z_sh (1 + j)) ∧ k + 26 ≤ zg_n σ
theorem z_blk_eq {k : Nat} {σ σ1 : z_S} (h : z_blk k σ) (e : zg_n σ1 = zg_n σ) : z_blk k σ1 := ⟨h.1, by rw [e]; exact h.2⟩
theorem z_blk_lt {k j : Nat} (h : z_blk k σ) (hj : j < 26) : k + j < zg_n σ := Nat.lt_of_lt_of_le (by omega) h.2
theorem z_blk_lt0 {k : Nat} (h : z_blk k σ) : k < zg_n σ := z_blk_lt (j := 0) h (by decide)
theorem z_blk_sh {k j : Nat} {t : Nat × Nat} (h : z_blk k σ) (hj : j < 26) (ht : z_sh (1 + j) = t) : z_sh (k + j) = t := (h.1 j hj).trans ht
theorem z_blk_E {k : Nat} (h : z_blk k σ) : z_E n0 cI cJ cM cS σ k = .inr (4, [.int (zg_i σ k 0), .int (zg_i σ k 1), .int (zg_i σ k 2), .int (zg_i σ k 3), .ref (n0 + (k + 1)), .ref (n0 + (k + 2)), .ref (n0 + (k + 3)), .ref (n0 + (k + 4)), .ref (n0 + (k + 5)), .ref (n0 + (k + 6)), .ref (n0 + (k + 17))]) := by
  have hs : z_sh k = (4, 0) := (h.1 0 (by decide)).trans (by decide)
  unfold z_E
  rw [hs]
  rfl
theorem zt_copy (hX : z_X D cI cJ cM cS p s m args c cc nL own) {k0 k1 len0 len1 i : Nat} {sp dp q : Int32} (hd : decode cc pc = .ok (.invokestatic i, 3)) (hw : Cond.methodLink own i arraycopyName ∈ z_ws) (hk0 : 81 ≤ zg_n σ → k0 < zg_n σ) (hk1 : 81 ≤ zg_n σ → k1 < zg_n σ) (hs0 : z_sh k0 = (10, len0)) (hs1 : z_sh k1 = (10, len1)) (h1 : ¬ sp < 0) (h2 : ¬ dp < 0) (h3 : ¬ q < 0) (h4 : sp.toNatClampNeg + q.toNatClampNeg ≤ len0) (h5 : dp.toNatClampNeg + q.toNatClampNeg ≤ len1) (hframes : 1 ≤ R.frames) (hlocals : (st.map fun v => v.category).sum + 27 ≤ R.locals) (kk : z_t D cI cJ cM cS n0 p l e R s m args below meth c nL Q cells slots (pc + 3) L st (zs_row σ k1 (va_cpy (zg_i σ k0) (zg_i σ k1) sp.toNatClampNeg dp.toNatClampNeg q.toNatClampNeg))) : z_t D cI cJ cM cS n0 p l e R s m args below meth c nL Q cells slots pc L (.int q :: .int dp :: .ref (n0 + k1) :: .int sp :: .ref (n0 + k0) :: st) σ := fun hN => zr_copy hX hd hw (hk0 hN) (hk1 hN) (z_E10 hs0) (z_E10 hs1) h1 h2 h3 h4 h5 hframes (by have : nativeFrameWords "java/lang/System" "arraycopy" 5 + 11 ≤ 27 := (by decide +kernel); omega) (z_wext (z_uprow hs1) (kk hN))
theorem zt_f2raw (hX : z_X D cI cJ cM cS p s m args c cc nL own) {i : Nat} {x : UInt32} (hd : decode cc pc = .ok (.invokestatic i, 3)) (hw : Cond.methodLink own i ⟨"java/lang/Float", "floatToRawIntBits", "(F)I"⟩ ∈ z_ws) (h1 : 1 ≤ R.frames) (h2 : (st.map fun v => v.category).sum + 15 ≤ R.locals) (kk : z_t D cI cJ cM cS n0 p l e R s m args below meth c nL Q cells slots (pc + 3) L (.int x.toInt32 :: st) σ) : z_t D cI cJ cM cS n0 p l e R s m args below meth c nL Q cells slots pc L (.float x :: st) σ := fun hN => zr_f2raw hX hd hw h1 h2 (kk hN)
theorem zt_aaloadS (hX : z_X D cI cJ cM cS p s m args c cc nL own) {i : Int32} (hd : decode cc pc = .ok (.aaload, 1)) (hi : vp_in i 5) (kn : zg_r σ i.toNatClampNeg = none → z_t D cI cJ cM cS n0 p l e R s m args below meth c nL Q cells slots (pc + 1) L (.null :: st) σ) (ks : ∀ b, zg_r σ i.toNatClampNeg = some b → z_t D cI cJ cM cS n0 p l e R s m args below meth c nL Q cells slots (pc + 1) L (.ref (n0 + b) :: st) σ) : z_t D cI cJ cM cS n0 p l e R s m args below meth c nL Q cells slots pc L (.int i :: .ref (n0 + 28) :: st) σ := fun hN => zr_aaloadS hX hd (Nat.lt_of_lt_of_le (by decide : 28 < 81) hN) (z_E13 (len := 5) (by decide)) hi (by
  cases hr : zg_r σ i.toNatClampNeg with
  | none => simp only [Option.map_none]; exact kn hr hN
  | some b => simp only [Option.map_some]; exact ks b hr hN)
theorem zt_aastoreS (hX : z_X D cI cJ cM cS p s m args c cc nL own) {i : Int32} {b : Nat} (hd : decode cc pc = .ok (.aastore, 1)) (hi : vp_in i 5) (hb : z_blk b σ) (kk : z_t D cI cJ cM cS n0 p l e R s m args below meth c nL Q cells slots (pc + 1) L st (zs_r σ i.toNatClampNeg (some b))) : z_t D cI cJ cM cS n0 p l e R s m args below meth c nL Q cells slots pc L (.ref (n0 + b) :: .int i :: .ref (n0 + 28) :: st) σ := fun hN => zr_aastore hX hd (Nat.lt_of_lt_of_le (by decide : 28 < 81) hN) (z_E13 (len := 5) (by decide)) (z_blk_lt0 hb) (z_blk_E hb) hi (z_wext (fun a => by
  rw [z_upst]
  congr 7
  refine congrArg Sum.inr (funext fun q => ?_)
  by_cases hq : q = i.toNatClampNeg <;> simp [va_up, hq]) (kk hN))
theorem zt_aload_nN (hX : z_X D cI cJ cM cS p s m args c cc nL own) {k : Fin 4} {i : Nat} (j : Nat) (hd : decode cc pc = .ok (.aload_n k, 1)) (hi : (k : Nat) = i) (hL : L[j]? = some (i, .null)) (kk : z_t D cI cJ cM cS n0 p l e R s m args below meth c nL Q cells slots (pc + 1) L (.null :: st) σ) : z_t D cI cJ cM cS n0 p l e R s m args below meth c nL Q cells slots pc L st σ := fun hN => fun H locs ls hl hR hS => lv_aload_nN hX.1.1 hX.1.2.1 hd hi (lv_at hl j hL) (kk hN H locs ls hl hR hS)
theorem zt_astore_nN (hX : z_X D cI cJ cM cS p s m args c cc nL own) {k : Fin 4} {i : Nat} (hd : decode cc pc = .ok (.astore_n k, 1)) (hi : (k : Nat) = i) (hn : i < nL) (hF : (i, Value.null) :: L.filter (fun q => !(q.1 == i) && !(q.1 + 1 == i && q.2.category == 2)) = L') (kk : z_t D cI cJ cM cS n0 p l e R s m args below meth c nL Q cells slots (pc + 1) L' st σ) : z_t D cI cJ cM cS n0 p l e R s m args below meth c nL Q cells slots pc L (.null :: st) σ := fun hN => fun H locs ls hl hR hS => lv_astore_nN hX.1.1 hX.1.2.1 hd hi hl hn hF (fun ls hl => kk hN H locs ls hl hR hS)
theorem zt_ifnullN (hX : z_X D cI cJ cM cS p s m args c cc nL own) {off : Int} {tgt : Nat} (hd : decode cc pc = .ok (.ifnull off, 3)) (ht : (pc : Int) + off = (tgt : Int)) (kk : z_t D cI cJ cM cS n0 p l e R s m args below meth c nL Q cells slots tgt L st σ) : z_t D cI cJ cM cS n0 p l e R s m args below meth c nL Q cells slots pc L (.null :: st) σ := fun hN => fun H locs ls hl hR hS => lv_ifnullN hX.1.1 hX.1.2.1 hd ht (kk hN H locs ls hl hR hS)
theorem zt_ifnonnullN (hX : z_X D cI cJ cM cS p s m args c cc nL own) {off : Int} (hd : decode cc pc = .ok (.ifnonnull off, 3)) (kk : z_t D cI cJ cM cS n0 p l e R s m args below meth c nL Q cells slots (pc + 3) L st σ) : z_t D cI cJ cM cS n0 p l e R s m args below meth c nL Q cells slots pc L (.null :: st) σ := fun hN => fun H locs ls hl hR hS => lv_ifnonnullN hX.1.1 hX.1.2.1 hd (kk hN H locs ls hl hR hS)
theorem zt_ifnull (hX : z_X D cI cJ cM cS p s m args c cc nL own) {x : Nat} {off : Int} (hd : decode cc pc = .ok (.ifnull off, 3)) (kk : z_t D cI cJ cM cS n0 p l e R s m args below meth c nL Q cells slots (pc + 3) L st σ) : z_t D cI cJ cM cS n0 p l e R s m args below meth c nL Q cells slots pc L (.ref x :: st) σ := fun hN => fun H locs ls hl hR hS => lv_ifnull hX.1.1 hX.1.2.1 hd (kk hN H locs ls hl hR hS)
theorem zt_ifnonnull (hX : z_X D cI cJ cM cS p s m args c cc nL own) {x : Nat} {off : Int} {tgt : Nat} (hd : decode cc pc = .ok (.ifnonnull off, 3)) (ht : (pc : Int) + off = (tgt : Int)) (kk : z_t D cI cJ cM cS n0 p l e R s m args below meth c nL Q cells slots tgt L st σ) : z_t D cI cJ cM cS n0 p l e R s m args below meth c nL Q cells slots pc L (.ref x :: st) σ := fun hN => fun H locs ls hl hR hS => lv_ifnonnull hX.1.1 hX.1.2.1 hd ht (kk hN H locs ls hl hR hS)
theorem zu_get (hX : z_X D cI cJ cM cS p s m args c cc nL own) {k i : Nat} (hb : z_blk k σ) (j : Nat) (hj : j < 11) (hw : Cond.fieldLink own i RX4 (TX4 j).2.1 (TX4 j).2.2.1 ∈ z_ws) (hT : (TX4 j).1 = RX4) {v : Value} (hv : [Value.int (zg_i σ k 0), .int (zg_i σ k 1), .int (zg_i σ k 2), .int (zg_i σ k 3), .ref (n0 + (k + 1)), .ref (n0 + (k + 2)), .ref (n0 + (k + 3)), .ref (n0 + (k + 4)), .ref (n0 + (k + 5)), .ref (n0 + (k + 6)), .ref (n0 + (k + 17))][j]? = some v) (hd : decode cc pc = .ok (.getfield i, 3)) (kk : z_t D cI cJ cM cS n0 p l e R s m args below meth c nL Q cells slots (pc + 3) L (v :: st) σ) : z_t D cI cJ cM cS n0 p l e R s m args below meth c nL Q cells slots pc L (.ref (n0 + k) :: st) σ := fun hN => zr_get hX (ci := 4) (C := RX4) (T := TX4) (N := 11) rfl z_inX4 (z_blk_lt0 hb) (z_blk_E hb) j hj hw hT hv hd (kk hN)
theorem zu_puti (hX : z_X D cI cJ cM cS p s m args c cc nL own) {k i : Nat} (hb : z_blk k σ) (j : Nat) (hj : j < 11) (hw : Cond.fieldLink own i RX4 (TX4 j).2.1 (TX4 j).2.2.1 ∈ z_ws) (hT : (TX4 j).1 = RX4) (hj4 : j < 4) (hfin : (TX4 j).2.2.2 = false) {x : Int32} (hd0 : parseFieldDescriptor (TX4 j).2.2.1 = some .int) (hd : decode cc pc = .ok (.putfield i, 3)) (kk : z_t D cI cJ cM cS n0 p l e R s m args below meth c nL Q cells slots (pc + 3) L st (zs_i σ k j x)) : z_t D cI cJ cM cS n0 p l e R s m args below meth c nL Q cells slots pc L (.int x :: .ref (n0 + k) :: st) σ := fun hN => zr_put hX (ci := 4) (C := RX4) (T := TX4) (N := 11) rfl z_inX4 (z_blk_lt0 hb) (z_blk_E hb) j hj hw hT tyX4 tyX4_ok nmX4 hfin hd0 rfl rfl (by simp; omega) hd (z_wext (z_upoi (by
  have hb2 : z_blk k (zs_i σ k j x) := z_blk_eq hb rfl
  rw [z_blk_E hb2]
  rcases (show j = 0 ∨ j = 1 ∨ j = 2 ∨ j = 3 by omega) with rfl | rfl | rfl | rfl <;> simp [zg_i_si])) (kk hN))
theorem zu_aaloadM (hX : z_X D cI cJ cM cS p s m args c cc nL own) {k j len : Nat} {i : Int32} (hb : z_blk k σ) (hd : decode cc pc = .ok (.aaload, 1)) (hj : j < 26) (hs : z_sh (1 + j) = (12, len)) (hi : vp_in i len) (kk : z_t D cI cJ cM cS n0 p l e R s m args below meth c nL Q cells slots (pc + 1) L (.ref (n0 + (k + (j + 1 + i.toNatClampNeg))) :: st) σ) : z_t D cI cJ cM cS n0 p l e R s m args below meth c nL Q cells slots pc L (.int i :: .ref (n0 + (k + j)) :: st) σ := fun hN => zr_aaloadM hX hd (z_blk_lt hb hj) (z_E12 (z_blk_sh hb hj hs)) hi (by rw [show k + j + 1 + i.toNatClampNeg = k + (j + 1 + i.toNatClampNeg) by omega]) (kk hN)
def z_Bg (D : va_G) (cI cJ cM cS : ClassId) (n0 n : Nat) (h : Nat → va_E) (U : State) : Prop := z_H D n0 n h U.heap ∧ z_K D cI cJ cM cS U ∧ z_N U
def z_cg (l : Launch) (D : va_G) (cI cJ cM cS : ClassId) (n0 : Nat) (y : MethodName) (b : ByteArray) (nL : Nat) (rm : Room) (mc ms : Nat) (av : List Value) (n : Nat) (h : Nat → va_E) (n1 : Nat) (h1 : Nat → va_E) : Prop :=
  Met l y (.code y b nL none :: z_ws) rm (va_Pc av (z_Bg D cI cJ cM cS n0 n h)) (va_Qv (fun _ : Unit => True) (fun _ t => z_H D n0 n1 h1 t.heap) (z_Ab n0)) mc ms (z_Ab n0)
theorem z_ofg {y : MethodName} {b : ByteArray} {maxL : Nat} {rm : Room} {mc ms n n1 : Nat} {av : List Value} {h h1 : Nat → va_E} (hy : plainName y.cls = true) (hlen : (lg_sl av).length ≤ maxL) (body : ∀ (p : Program) (e : Env) (s : State) (m : MethodId) (args : Array Value) (below : List Frame) (meth : Method) (c : Code), z_X D cI cJ cM cS p s m args c b maxL y.cls → z_Y s meth none → meth.name = y.name → z_w D n0 p l e rm s m args below meth c maxL (MQ below (va_Qv (fun _ : Unit => True) (fun _ t => z_H D n0 n1 h1 t.heap) (z_Ab n0)) args s mc ms (z_Ab n0)) 0 0 0 (lv_args 0 av) [] n h) : z_cg l D cI cJ cM cS n0 y b maxL rm mc ms av n h n1 h1 := by
  refine Met.ofW (cc := b) (maxL := maxL) (ret := none) hy rfl ?_
  intro p e s m args below meth c s₁ B hml hv
  obtain ⟨rfl, hR, hK, hZ⟩ := hv
  have hts := atoms_spec (ws := .code y b maxL none :: z_ws) B.pre
  have hl := lv_entry av (n := maxL) hlen
  rw [lg_entry_eq]
  exact body p e s m _ below meth c ⟨⟨B.exec, B.bytes, hml, findClass_of_methodNamed B.named, fun w h => hts w (List.mem_cons_of_mem _ h)⟩, hK⟩ ⟨hZ, B.returns, B.notSynchronized⟩ (name_of_methodNamed B.named B.method).1 s.heap [] _ hl hR va_S.rf
theorem zr_vret {n : Nat} {h : Nat → va_E} (hX : z_X D cI cJ cM cS p s m args c cc nL own) (hY : z_Y s meth none) (hd : decode cc pc = .ok (.return_, 1)) {n1 : Nat} {h1 : Nat → va_E} (hn : n = n1) (hh : ∀ k, k < n1 → h1 k = h k) : z_w D n0 p l e R s m args below meth c nL (MQ below (va_Qv (fun _ : Unit => True) (fun _ t => z_H D n0 n1 h1 t.heap) (z_Ab n0)) args s cells slots (z_Ab n0)) cells slots pc L [] n h := fun H locs ls hl hR hS => by
  subst hn
  exact W.vret hX.1.1 hX.1.2.1 hY.2.1 (fun t ht hW => ⟨⟨(), rfl, trivial, by show z_H _ _ _ _ t.heap; rw [ht]; exact z_H_ext hR hh⟩, hS.F ht⟩) hS.2.2 hd hY.2.2
theorem zr_callg {n n1 : Nat} {h h1 : Nat → va_E} {y : MethodName} {b : ByteArray} {maxL i mc ms k : Nat} {rm : Room} {ro : Option FieldType} (hX : z_X D cI cJ cM cS p s m args c cc nL own) (hY : z_Y s meth ro) (hM : z_cg l D cI cJ cM cS n0 y b maxL rm mc ms [.ref (n0 + k)] n h n1 h1) (hd : decode cc pc = .ok (.invokespecial i, 3)) (hini : y.name = "<init>") (w1 : Cond.methodLink own i y ∈ z_ws) (w2 : Cond.instanceMethod y ∈ z_ws) (w4 : Cond.initialized y.cls ∈ z_ws) (hrm : rm.cells = mc ∧ rm.slots = ms) (hy : y.cls ≠ "java/lang/invoke/MethodHandle" ∧ y.cls ≠ "java/lang/invoke/VarHandle" ∧ (parseMethodDescriptor y.desc).map (fun d => d.parameters.length) = some 0) (w5 : Cond.code y b maxL none ∈ z_ws) (hroom : rm.frames + 1 ≤ R.frames ∧ 8 + (maxL + 11) + rm.locals ≤ R.locals) (hcs : cells + mc ≤ R.cells ∧ slots + ms ≤ R.slots) (hcat : (st.map fun v => v.category).sum ≤ 8) (kk : z_w D n0 p l e R s m args below meth c nL Q (cells + mc) (slots + ms) (pc + 3) L st n1 h1) : z_w D n0 p l e R s m args below meth c nL Q cells slots pc L (.ref (n0 + k) :: st) n h := fun H locs ls hl hR hS => by
  have hts := hX.1.2.2.2.2
  have hG : GoodIn z_ws (.code y b maxL none :: z_ws) := fun w hw => by
    rcases List.mem_cons.mp hw with rfl | h
    · exact z_good w5
    · exact z_good h
  exact va_callv (va_runI (As := []) (rest := st) hX.1 hM ⟨callB_of 0 hts hG rfl hrm.1 hrm.2 (hts _ w4) (hts _ w1) hy hroom, hini, hts _ w2⟩ ⟨fun a U g mk q => ⟨q.1, q.2.1, z_K_moved (u := U) (U := U.calling g mk a) (Vm.Alike.refl U.vm) q.2.2.1, z_N_call (rfl : U.vm = (U.calling g mk a).vm) q.2.2.2⟩, fun U hU hW => ⟨rfl, by rw [hU]; exact hR, z_K_moved hW.alike hX.2, z_N_warm hW hY.1⟩⟩ rfl rfl hl.1 rfl (lv_room hcat) hd hcs) hS (fun q _ h => h) (fun q h => h) (fun u t H1 locs1 ht hvm hw hB hz hk9 hS1 => kk H1 locs1 ls hl (by rw [← ht]; exact hB) hS1)
theorem zr_wid {n : Nat} {h : Nat → va_E} {c1 s1 : Nat} (h1 : cells ≤ c1) (h2 : slots ≤ s1) (kk : z_w D n0 p l e R s m args below meth c nL Q c1 s1 pc L st n h) : z_w D n0 p l e R s m args below meth c nL Q cells slots pc L st n h := fun H locs ls hl hR hS => W.widen h1 h2 (kk H locs ls hl hR hS)
theorem zr_L {n : Nat} {h : Nat → va_E} (hL : L = L') (kk : z_w D n0 p l e R s m args below meth c nL Q cells slots pc L' st n h) : z_w D n0 p l e R s m args below meth c nL Q cells slots pc L st n h := hL ▸ kk
theorem zb6 {i : Nat} (h : i < 10) : z_sh (1 + (6 + 1 + i)) = (10, 13) := by rw [show 1 + (6 + 1 + i) = 8 + i by omega]; exact z_sh8 h
theorem zb17 {i : Nat} (h : i < 8) : z_sh (1 + (17 + 1 + i)) = (10, 10) := by rw [show 1 + (17 + 1 + i) = 19 + i by omega]; exact z_sh19 h
theorem zl6 {i : Nat} (h : i < 10) : 6 + 1 + i < 26 := by omega
theorem zl17 {i : Nat} (h : i < 8) : 17 + 1 + i < 26 := by omega
theorem zt_callNest (hX : z_X D cI cJ cM cS p s m args c cc nL own) {ro : Option FieldType} {i mc ms : Nat} {rm : Room} {x : Int32} (hY : z_Y s meth ro) {Qc : Int32 → z_S → Prop} (hM : z_ci l D cI cJ cM cS n0 yX5_isBoundary cX5_isBoundary 1 .boolean rm mc ms [.int x] σ Qc) (hown : own = RX3) (hd : decode cc pc = .ok (.invokestatic 75, 3)) (w2 : Cond.static yX5_isBoundary ∈ z_ws) (w4 : Cond.initialized RX5 ∈ z_ws) (w5 : Cond.code yX5_isBoundary cX5_isBoundary 1 (some .boolean) ∈ z_ws) (hrm : rm.cells = mc ∧ rm.slots = ms) (hy : yX5_isBoundary.cls ≠ "java/lang/invoke/MethodHandle" ∧ yX5_isBoundary.cls ≠ "java/lang/invoke/VarHandle" ∧ (parseMethodDescriptor yX5_isBoundary.desc).map (fun d => d.parameters.length) = some 1) (hroom : rm.frames + 1 ≤ R.frames ∧ 8 + (1 + 11) + rm.locals ≤ R.locals) (hcs : cells + mc ≤ R.cells ∧ slots + ms ≤ R.slots) (hcat : (st.map fun v => v.category).sum ≤ 8) (kk : ∀ (r : Int32) (σ1 : z_S), Qc r σ1 → z_t D cI cJ cM cS n0 p l e R s m args below meth c nL Q (cells + mc) (slots + ms) (pc + 3) L (.int r :: st) σ1) : z_t D cI cJ cM cS n0 p l e R s m args below meth c nL Q cells slots pc L (.int x :: st) σ := fun hN H locs ls hl hR hS => by
  subst hown
  have hts := hX.1.2.2.2.2
  have hG : GoodIn z_ws (.code yX5_isBoundary cX5_isBoundary 1 (some .boolean) :: z_ws) := fun w hw => by
    rcases List.mem_cons.mp hw with rfl | h
    · exact z_good w5
    · exact z_good h
  exact va_calli (va_runSN (As := [.int x]) (rest := st) hX.1 hM ⟨va_cnB 1 hts hG rfl hrm.1 hrm.2 hY.1.1 (hts _ w4) hy hroom, hts _ w2, trivial⟩ ⟨z_blind, z_pre hN hR hX.2 hY.1 _⟩ rfl rfl hl.1 rfl (lv_room hcat) hd hcs) hS (fun q _ h => h) (fun q h => h) (fun r u t H1 locs1 ht hvm hw hB hz hk9 hS1 => kk r u hw hB.1 H1 locs1 ls hl (by rw [← ht]; exact hB.2) hS1)
theorem zt_callvB (hX : z_X D cI cJ cM cS p s m args c cc nL own) {ro : Option FieldType} {y : MethodName} {b : ByteArray} {maxL mc ms i k : Nat} {rm : Room} {av st0 : List Value} (hY : z_Y s meth ro) {Qc : z_S → Prop} (hM : z_cv l D cI cJ cM cS n0 y b maxL rm mc ms (.ref (n0 + k) :: av) σ Qc) (hd : decode cc pc = .ok (.invokevirtual i, 3)) (hst : st0 = av.reverse ++ .ref (n0 + k) :: st) (w1 : Cond.methodLink own i y ∈ z_ws) (w2 : Cond.instanceMethod y ∈ z_ws) (w3 : Cond.selects y.cls y y ∈ z_ws) (w4 : Cond.initialized y.cls ∈ z_ws) (w5 : Cond.code y b maxL none ∈ z_ws) (hrm : rm.cells = mc ∧ rm.slots = ms) (hy : y.cls ≠ "java/lang/invoke/MethodHandle" ∧ y.cls ≠ "java/lang/invoke/VarHandle" ∧ (parseMethodDescriptor y.desc).map (fun d => d.parameters.length) = some av.length) (hroom : rm.frames + 1 ≤ R.frames ∧ 8 + (maxL + 11) + rm.locals ≤ R.locals) (hcs : cells + mc ≤ R.cells ∧ slots + ms ≤ R.slots) (hcat : (st.map fun v => v.category).sum ≤ 8) (hb : z_blk k σ) (hC : RX4 = y.cls) (kk : ∀ (σ1 : z_S), Qc σ1 → z_t D cI cJ cM cS n0 p l e R s m args below meth c nL Q (cells + mc) (slots + ms) (pc + 3) L st σ1) : z_t D cI cJ cM cS n0 p l e R s m args below meth c nL Q cells slots pc L st0 σ := fun hN H locs ls hl hR hS => by
  subst hst
  exact va_callv (va_runV (As := av) (rest := st) hX.1 hM (cwV av.length hX.1.2.2.2.2 (z_gV w1 w2 w3 w4 w5) rfl hrm.1 hrm.2 ⟨rfl, hy⟩ hroom) ⟨z_blind, by have h := va_recv hX.2 (z_H_P hR) (q0 := k) (ci := 4) rfl (by rw [z_W_get (z_blk_lt0 hb), z_blk_E hb]); rw [← hC]; exact h, z_pre hN hR hX.2 hY.1 _⟩ rfl rfl hl.1 rfl (lv_room hcat) hd hcs) hS (fun q _ h => h) (fun q h => h) (fun u t H1 locs1 ht hvm hw hB hz hk9 hS1 => kk u hw hB.1 H1 locs1 ls hl (by rw [← ht]; exact hB.2) hS1)
/-- what a new state's places hold, from n on -/
def z_st0 (n0 n : Nat) (cI cJ cM cS : ClassId) (h : Nat → va_E) : Nat → va_E := fun k => if k < n then h k else z_Ec n0 cI cJ cM cS (z_sh (1 + (k - n))) k (fun j => if k = n ∧ j = 1 then 5 else if k = n ∧ j = 2 then 50 else 0) (fun _ => 0) (fun _ => none)
/-- the state with a new State behind its places -/
def zs_new (σ : z_S) : z_S := (fun a b => if zg_n σ ≤ a then (if a = zg_n σ ∧ b = 1 then 5 else if a = zg_n σ ∧ b = 2 then 50 else 0) else σ.1 a b, fun a b => if zg_n σ ≤ a then 0 else σ.2.1 a b, σ.2.2.1, zg_n σ + 26)
theorem z_st0_E (hsh : ∀ j, j < 26 → z_sh (zg_n σ + j) = z_sh (1 + j)) (k : Nat) (hk : k < zg_n σ + 26) : z_E n0 cI cJ cM cS (zs_new σ) k = z_st0 n0 (zg_n σ) cI cJ cM cS (z_E n0 cI cJ cM cS σ) k := by
  unfold z_st0
  by_cases h1 : k < zg_n σ
  · rw [if_pos h1]
    unfold z_E
    rw [show zg_i (zs_new σ) k = zg_i σ k from funext fun b => if_neg (by omega), show zg_l (zs_new σ) k = zg_l σ k from funext fun b => if_neg (by omega)]
    rfl
  · rw [if_neg h1]
    obtain ⟨j, rfl⟩ := Nat.exists_eq_add_of_le (Nat.not_lt.mp h1)
    have hj : j < 26 := by omega
    have hs := hsh j hj
    unfold z_E
    rw [hs, Nat.add_sub_cancel_left, show zg_i (zs_new σ) (zg_n σ + j) = fun b => if zg_n σ + j = zg_n σ ∧ b = 1 then 5 else if zg_n σ + j = zg_n σ ∧ b = 2 then 50 else 0 from funext fun b => if_pos (by omega), show zg_l (zs_new σ) (zg_n σ + j) = fun _ => 0 from funext fun b => if_pos (by omega)]
    have h13 : (z_sh (1 + j)).1 ≠ 13 := (show ∀ j, j < 26 → (z_sh (1 + j)).1 ≠ 13 by decide +kernel) j hj
    generalize z_sh (1 + j) = t at h13 ⊢
    obtain ⟨t1, t2⟩ := t
    simp only at h13
    unfold z_Ec
    split <;> first | rfl | (exfalso; simp_all)
theorem zr_nmh {n : Nat} {h : Nat → va_E} (kk : ∀ h1 : Nat → va_E, h1 = h → z_w D n0 p l e R s m args below meth c nL Q cells slots pc L st n h1) : z_w D n0 p l e R s m args below meth c nL Q cells slots pc L st n h := kk h rfl
theorem zr_getR {n k i : Nat} {h : Nat → va_E} {ci N j : Nat} {C : String} {T : u_T} {fs : List Value} {v : Value} (hX : z_X D cI cJ cM cS p s m args c cc nL own) (hc : vwCl[ci]? = some (C, T, N)) (hin : ∀ w ∈ u_ws C T N, w ∈ z_ws) (hk : k < n) (he : h k = .inr (ci, fs)) (hj : j < N) (hw : Cond.fieldLink own i C (T j).2.1 (T j).2.2.1 ∈ z_ws) (hT : (T j).1 = C) (hv : fs[j]? = some v) (hd : decode cc pc = .ok (.getfield i, 3)) (kk : z_w D n0 p l e R s m args below meth c nL Q cells slots (pc + 3) L (v :: st) n h) : z_w D n0 p l e R s m args below meth c nL Q cells slots pc L (.ref (n0 + k) :: st) n h := zr_get hX hc hin hk he j hj hw hT hv hd kk
theorem kw_78 : Cond.code Lib.objectInit ⟨#[0xb1]⟩ 1 none ∈ z_ws := z_in 78 (by decide +kernel) rfl
end ZP1
end
section
/-! constructors, over any heap below them; the first state of all -/
def zs_0 : z_S := (fun a b => if (a = 1 ∨ a = 74) ∧ b = 1 then 5 else if (a = 1 ∨ a = 74) ∧ b = 2 then 50 else 0, fun _ _ => 0, fun _ => none, 81)
theorem dX4_init_0 : decode cX4_init 0 = .ok (.aload_n 0, 1) := by decide +kernel
theorem dX4_init_1 : decode cX4_init 1 = .ok (.invokespecial 3, 3) := by decide +kernel
theorem dX4_init_4 : decode cX4_init 4 = .ok (.aload_n 0, 1) := by decide +kernel
theorem dX4_init_5 : decode cX4_init 5 = .ok (.iconst 5, 1) := by decide +kernel
theorem dX4_init_6 : decode cX4_init 6 = .ok (.putfield 9, 3) := by decide +kernel
theorem dX4_init_9 : decode cX4_init 9 = .ok (.aload_n 0, 1) := by decide +kernel
theorem dX4_init_10 : decode cX4_init 10 = .ok (.bipush 50, 2) := by decide +kernel
theorem dX4_init_12 : decode cX4_init 12 = .ok (.putfield 15, 3) := by decide +kernel
theorem dX4_init_15 : decode cX4_init 15 = .ok (.aload_n 0, 1) := by decide +kernel
theorem dX4_init_16 : decode cX4_init 16 = .ok (.bipush 10, 2) := by decide +kernel
theorem dX4_init_18 : decode cX4_init 18 = .ok (.newarray .int, 2) := by decide +kernel
theorem dX4_init_20 : decode cX4_init 20 = .ok (.putfield 18, 3) := by decide +kernel
theorem dX4_init_23 : decode cX4_init 23 = .ok (.aload_n 0, 1) := by decide +kernel
theorem dX4_init_24 : decode cX4_init 24 = .ok (.bipush 10, 2) := by decide +kernel
theorem dX4_init_26 : decode cX4_init 26 = .ok (.newarray .int, 2) := by decide +kernel
theorem dX4_init_28 : decode cX4_init 28 = .ok (.putfield 22, 3) := by decide +kernel
theorem dX4_init_31 : decode cX4_init 31 = .ok (.aload_n 0, 1) := by decide +kernel
theorem dX4_init_32 : decode cX4_init 32 = .ok (.bipush 10, 2) := by decide +kernel
theorem dX4_init_34 : decode cX4_init 34 = .ok (.newarray .int, 2) := by decide +kernel
theorem dX4_init_36 : decode cX4_init 36 = .ok (.putfield 25, 3) := by decide +kernel
theorem dX4_init_39 : decode cX4_init 39 = .ok (.aload_n 0, 1) := by decide +kernel
theorem dX4_init_40 : decode cX4_init 40 = .ok (.bipush 10, 2) := by decide +kernel
theorem dX4_init_42 : decode cX4_init 42 = .ok (.newarray .int, 2) := by decide +kernel
theorem dX4_init_44 : decode cX4_init 44 = .ok (.putfield 28, 3) := by decide +kernel
theorem dX4_init_47 : decode cX4_init 47 = .ok (.aload_n 0, 1) := by decide +kernel
theorem dX4_init_48 : decode cX4_init 48 = .ok (.bipush 10, 2) := by decide +kernel
theorem dX4_init_50 : decode cX4_init 50 = .ok (.newarray .int, 2) := by decide +kernel
theorem dX4_init_52 : decode cX4_init 52 = .ok (.putfield 31, 3) := by decide +kernel
theorem dX4_init_55 : decode cX4_init 55 = .ok (.aload_n 0, 1) := by decide +kernel
theorem dX4_init_56 : decode cX4_init 56 = .ok (.bipush 10, 2) := by decide +kernel
theorem dX4_init_58 : decode cX4_init 58 = .ok (.bipush 13, 2) := by decide +kernel
theorem dX4_init_60 : decode cX4_init 60 = .ok (.multianewarray 34 2, 4) := by decide +kernel
theorem dX4_init_64 : decode cX4_init 64 = .ok (.putfield 36, 3) := by decide +kernel
theorem dX4_init_67 : decode cX4_init 67 = .ok (.aload_n 0, 1) := by decide +kernel
theorem dX4_init_68 : decode cX4_init 68 = .ok (.bipush 8, 2) := by decide +kernel
theorem dX4_init_70 : decode cX4_init 70 = .ok (.bipush 10, 2) := by decide +kernel
theorem dX4_init_72 : decode cX4_init 72 = .ok (.multianewarray 34 2, 4) := by decide +kernel
theorem dX4_init_76 : decode cX4_init 76 = .ok (.putfield 39, 3) := by decide +kernel
theorem dX4_init_79 : decode cX4_init 79 = .ok (.return_, 1) := by decide +kernel
abbrev rm_X4_init : Room := { frames := 1, cells := 25, slots := 278, locals := 12 }
theorem hy_X4_init : yX4_init.cls ≠ "java/lang/invoke/MethodHandle" ∧ yX4_init.cls ≠ "java/lang/invoke/VarHandle" ∧ (parseMethodDescriptor yX4_init.desc).map (fun d => d.parameters.length) = some 0 := by decide +kernel
set_option maxHeartbeats 4000000 in
set_option maxRecDepth 100000 in
theorem c_X4_init {l : Launch} {D : va_G} {cI cJ cM cS : ClassId} {n0 : Nat} {n : Nat} {h : Nat → va_E} (hh : h n = .inr (4, [.int 0, .int 0, .int 0, .int 0, .null, .null, .null, .null, .null, .null, .null])) : z_cg l D cI cJ cM cS n0 yX4_init cX4_init 1 rm_X4_init 25 278 [.ref (n0 + n)] (n + 1) h (n + 26) (z_st0 n0 n cI cJ cM cS h) := by
  refine z_ofg (by decide +kernel) (Nat.le_of_ble_eq_true rfl) (fun p e s m args below meth c hX hY hin => ?_)
  refine zr_L (L' := [(0, .ref (n0 + n))]) rfl ?_
  refine zr_aload_n hX 0 dX4_init_0 rfl rfl ?_
  refine zr_objInit hX dX4_init_1 kw_84 kw_77 kw_78 (by decide) (Nat.le_of_ble_eq_true rfl) ?_
  refine zr_aload_n hX 0 dX4_init_4 rfl rfl ?_
  refine zr_iconst hX dX4_init_5 (v := (5 : Int32)) (by decide) ?_
  refine zr_put hX (ci := 4) (C := RX4) (T := TX4) (N := 11) (k := n) rfl z_inX4 (by omega) hh 1 (by decide) kw_92 rfl tyX4 tyX4_ok nmX4 rfl rfl rfl rfl (Nat.le_of_ble_eq_true rfl) dX4_init_6 ?_
  refine zr_nmh (fun h1 g1 => ?_)
  have f1_n : h1 (n) = .inr (4, [.int 0, .int (5), .int 0, .int 0, .null, .null, .null, .null, .null, .null, .null]) := by rw [g1, z_up_at]; rfl
  refine zr_aload_n hX 0 dX4_init_9 rfl rfl ?_
  refine zr_bipush hX dX4_init_10 (v := (50 : Int32)) (by decide) ?_
  refine zr_put hX (ci := 4) (C := RX4) (T := TX4) (N := 11) (k := n) rfl z_inX4 (by omega) f1_n 2 (by decide) kw_94 rfl tyX4 tyX4_ok nmX4 rfl rfl rfl rfl (Nat.le_of_ble_eq_true rfl) dX4_init_12 ?_
  refine zr_nmh (fun h2 g2 => ?_)
  have f2_n : h2 (n) = .inr (4, [.int 0, .int (5), .int (50), .int 0, .null, .null, .null, .null, .null, .null, .null]) := by rw [g2, z_up_at]; rfl
  refine zr_aload_n hX 0 dX4_init_15 rfl rfl ?_
  refine zr_bipush hX dX4_init_16 (v := (10 : Int32)) (by decide) ?_
  refine zr_newI hX (N := 10) dX4_init_18 (by decide) (by decide) (by decide) (by decide) (by decide) ?_
  refine zr_nmh (fun h3 g3 => ?_)
  have f3_n : h3 (n) = .inr (4, [.int 0, .int (5), .int (50), .int 0, .null, .null, .null, .null, .null, .null, .null]) := by rw [g3, z_up_ne _ _ (by omega)]; exact f2_n
  refine zr_putF hX (ci := 4) (C := RX4) (T := TX4) (N := 11) (k := n) rfl z_inX4 (by omega) f3_n 4 (by decide) kw_99 rfl tyX4 tyX4_ok nmX4 rfl hin rfl rfl rfl rfl (Nat.le_of_ble_eq_true rfl) dX4_init_20 ?_
  refine zr_nmh (fun h4 g4 => ?_)
  have f4_n : h4 (n) = .inr (4, [.int 0, .int (5), .int (50), .int 0, .ref (n0 + (n + 1)), .null, .null, .null, .null, .null, .null]) := by rw [g4, z_up_at]; rfl
  refine zr_aload_n hX 0 dX4_init_23 rfl rfl ?_
  refine zr_bipush hX dX4_init_24 (v := (10 : Int32)) (by decide) ?_
  refine zr_newI hX (N := 10) dX4_init_26 (by decide) (by decide) (by decide) (by decide) (by decide) ?_
  refine zr_nmh (fun h5 g5 => ?_)
  have f5_n : h5 (n) = .inr (4, [.int 0, .int (5), .int (50), .int 0, .ref (n0 + (n + 1)), .null, .null, .null, .null, .null, .null]) := by rw [g5, z_up_ne _ _ (by omega)]; exact f4_n
  refine zr_putF hX (ci := 4) (C := RX4) (T := TX4) (N := 11) (k := n) rfl z_inX4 (by omega) f5_n 5 (by decide) kw_103 rfl tyX4 tyX4_ok nmX4 rfl hin rfl rfl rfl rfl (Nat.le_of_ble_eq_true rfl) dX4_init_28 ?_
  refine zr_nmh (fun h6 g6 => ?_)
  have f6_n : h6 (n) = .inr (4, [.int 0, .int (5), .int (50), .int 0, .ref (n0 + (n + 1)), .ref (n0 + (n + 2)), .null, .null, .null, .null, .null]) := by rw [g6, z_up_at]; rfl
  refine zr_aload_n hX 0 dX4_init_31 rfl rfl ?_
  refine zr_bipush hX dX4_init_32 (v := (10 : Int32)) (by decide) ?_
  refine zr_newI hX (N := 10) dX4_init_34 (by decide) (by decide) (by decide) (by decide) (by decide) ?_
  refine zr_nmh (fun h7 g7 => ?_)
  have f7_n : h7 (n) = .inr (4, [.int 0, .int (5), .int (50), .int 0, .ref (n0 + (n + 1)), .ref (n0 + (n + 2)), .null, .null, .null, .null, .null]) := by rw [g7, z_up_ne _ _ (by omega)]; exact f6_n
  refine zr_putF hX (ci := 4) (C := RX4) (T := TX4) (N := 11) (k := n) rfl z_inX4 (by omega) f7_n 6 (by decide) kw_106 rfl tyX4 tyX4_ok nmX4 rfl hin rfl rfl rfl rfl (Nat.le_of_ble_eq_true rfl) dX4_init_36 ?_
  refine zr_nmh (fun h8 g8 => ?_)
  have f8_n : h8 (n) = .inr (4, [.int 0, .int (5), .int (50), .int 0, .ref (n0 + (n + 1)), .ref (n0 + (n + 2)), .ref (n0 + (n + 3)), .null, .null, .null, .null]) := by rw [g8, z_up_at]; rfl
  refine zr_aload_n hX 0 dX4_init_39 rfl rfl ?_
  refine zr_bipush hX dX4_init_40 (v := (10 : Int32)) (by decide) ?_
  refine zr_newI hX (N := 10) dX4_init_42 (by decide) (by decide) (by decide) (by decide) (by decide) ?_
  refine zr_nmh (fun h9 g9 => ?_)
  have f9_n : h9 (n) = .inr (4, [.int 0, .int (5), .int (50), .int 0, .ref (n0 + (n + 1)), .ref (n0 + (n + 2)), .ref (n0 + (n + 3)), .null, .null, .null, .null]) := by rw [g9, z_up_ne _ _ (by omega)]; exact f8_n
  refine zr_putF hX (ci := 4) (C := RX4) (T := TX4) (N := 11) (k := n) rfl z_inX4 (by omega) f9_n 7 (by decide) kw_108 rfl tyX4 tyX4_ok nmX4 rfl hin rfl rfl rfl rfl (Nat.le_of_ble_eq_true rfl) dX4_init_44 ?_
  refine zr_nmh (fun h10 g10 => ?_)
  have f10_n : h10 (n) = .inr (4, [.int 0, .int (5), .int (50), .int 0, .ref (n0 + (n + 1)), .ref (n0 + (n + 2)), .ref (n0 + (n + 3)), .ref (n0 + (n + 4)), .null, .null, .null]) := by rw [g10, z_up_at]; rfl
  refine zr_aload_n hX 0 dX4_init_47 rfl rfl ?_
  refine zr_bipush hX dX4_init_48 (v := (10 : Int32)) (by decide) ?_
  refine zr_newI hX (N := 10) dX4_init_50 (by decide) (by decide) (by decide) (by decide) (by decide) ?_
  refine zr_nmh (fun h11 g11 => ?_)
  have f11_n : h11 (n) = .inr (4, [.int 0, .int (5), .int (50), .int 0, .ref (n0 + (n + 1)), .ref (n0 + (n + 2)), .ref (n0 + (n + 3)), .ref (n0 + (n + 4)), .null, .null, .null]) := by rw [g11, z_up_ne _ _ (by omega)]; exact f10_n
  refine zr_putF hX (ci := 4) (C := RX4) (T := TX4) (N := 11) (k := n) rfl z_inX4 (by omega) f11_n 8 (by decide) kw_111 rfl tyX4 tyX4_ok nmX4 rfl hin rfl rfl rfl rfl (Nat.le_of_ble_eq_true rfl) dX4_init_52 ?_
  refine zr_nmh (fun h12 g12 => ?_)
  have f12_n : h12 (n) = .inr (4, [.int 0, .int (5), .int (50), .int 0, .ref (n0 + (n + 1)), .ref (n0 + (n + 2)), .ref (n0 + (n + 3)), .ref (n0 + (n + 4)), .ref (n0 + (n + 5)), .null, .null]) := by rw [g12, z_up_at]; rfl
  refine zr_aload_n hX 0 dX4_init_55 rfl rfl ?_
  refine zr_bipush hX dX4_init_56 (v := (10 : Int32)) (by decide) ?_
  refine zr_bipush hX dX4_init_58 (v := (13 : Int32)) (by decide) ?_
  refine zr_mna hX hY.1.2.1 (N := 10) (K := 13) dX4_init_60 kw_85 (by decide) (by decide) (by decide) (by decide) (by decide) (by decide) (by decide) (by decide) ?_
  refine zr_nmh (fun h13 g13 => ?_)
  have f13_n : h13 (n) = .inr (4, [.int 0, .int (5), .int (50), .int 0, .ref (n0 + (n + 1)), .ref (n0 + (n + 2)), .ref (n0 + (n + 3)), .ref (n0 + (n + 4)), .ref (n0 + (n + 5)), .null, .null]) := by rw [g13]; unfold z_mna; rw [if_pos (by omega)]; exact f12_n
  refine zr_putF hX (ci := 4) (C := RX4) (T := TX4) (N := 11) (k := n) rfl z_inX4 (by omega) f13_n 9 (by decide) kw_114 rfl tyX4 tyX4_ok nmX4 rfl hin rfl rfl rfl rfl (Nat.le_of_ble_eq_true rfl) dX4_init_64 ?_
  refine zr_nmh (fun h14 g14 => ?_)
  have f14_n : h14 (n) = .inr (4, [.int 0, .int (5), .int (50), .int 0, .ref (n0 + (n + 1)), .ref (n0 + (n + 2)), .ref (n0 + (n + 3)), .ref (n0 + (n + 4)), .ref (n0 + (n + 5)), .ref (n0 + (n + 6)), .null]) := by rw [g14, z_up_at]; rfl
  refine zr_aload_n hX 0 dX4_init_67 rfl rfl ?_
  refine zr_bipush hX dX4_init_68 (v := (8 : Int32)) (by decide) ?_
  refine zr_bipush hX dX4_init_70 (v := (10 : Int32)) (by decide) ?_
  refine zr_mna hX hY.1.2.1 (N := 8) (K := 10) dX4_init_72 kw_85 (by decide) (by decide) (by decide) (by decide) (by decide) (by decide) (by decide) (by decide) ?_
  refine zr_nmh (fun h15 g15 => ?_)
  have f15_n : h15 (n) = .inr (4, [.int 0, .int (5), .int (50), .int 0, .ref (n0 + (n + 1)), .ref (n0 + (n + 2)), .ref (n0 + (n + 3)), .ref (n0 + (n + 4)), .ref (n0 + (n + 5)), .ref (n0 + (n + 6)), .null]) := by rw [g15]; unfold z_mna; rw [if_pos (by omega)]; exact f14_n
  refine zr_putF hX (ci := 4) (C := RX4) (T := TX4) (N := 11) (k := n) rfl z_inX4 (by omega) f15_n 10 (by decide) kw_117 rfl tyX4 tyX4_ok nmX4 rfl hin rfl rfl rfl rfl (Nat.le_of_ble_eq_true rfl) dX4_init_76 ?_
  refine zr_nmh (fun h16 g16 => ?_)
  have f16_n : h16 (n) = .inr (4, [.int 0, .int (5), .int (50), .int 0, .ref (n0 + (n + 1)), .ref (n0 + (n + 2)), .ref (n0 + (n + 3)), .ref (n0 + (n + 4)), .ref (n0 + (n + 5)), .ref (n0 + (n + 6)), .ref (n0 + (n + 17))]) := by rw [g16, z_up_at]; rfl
  exact zr_vret hX hY dX4_init_79 rfl (fun k hk => by
    subst g1; subst g2; subst g3; subst g4; subst g5; subst g6; subst g7; subst g8; subst g9; subst g10; subst g11; subst g12; subst g13; subst g14; subst g15; subst g16
    rcases Nat.lt_or_ge k n with hlt | hge
    · unfold z_st0; rw [if_pos hlt]; simp [z_up, z_mna, hlt, Nat.ne_of_lt hlt, show ¬ k = n + 1 by omega, show ¬ k = n + 2 by omega, show ¬ k = n + 3 by omega, show ¬ k = n + 4 by omega, show ¬ k = n + 5 by omega, show k < n + 6 by omega, show k < n + 17 by omega, show k < n + 1 + 1 + 1 + 1 + 1 + 1 by omega, show k < n + 1 + 1 + 1 + 1 + 1 + 1 + 1 + 10 by omega]
    · obtain ⟨j, rfl⟩ := Nat.exists_eq_add_of_le hge
      unfold z_st0; rw [if_neg (by omega), Nat.add_sub_cancel_left]
      rcases (show j = 0 ∨ j = 1 ∨ j = 2 ∨ j = 3 ∨ j = 4 ∨ j = 5 ∨ j = 6 ∨ j = 7 ∨ j = 8 ∨ j = 9 ∨ j = 10 ∨ j = 11 ∨ j = 12 ∨ j = 13 ∨ j = 14 ∨ j = 15 ∨ j = 16 ∨ j = 17 ∨ j = 18 ∨ j = 19 ∨ j = 20 ∨ j = 21 ∨ j = 22 ∨ j = 23 ∨ j = 24 ∨ j = 25 by omega) with rfl | rfl | rfl | rfl | rfl | rfl | rfl | rfl | rfl | rfl | rfl | rfl | rfl | rfl | rfl | rfl | rfl | rfl | rfl | rfl | rfl | rfl | rfl | rfl | rfl | rfl
      · rw [show z_sh (1 + 0) = (4, 0) by decide +kernel]; simp [z_Ec, z_up, z_mna]
      · rw [show z_sh (1 + 1) = (10, 10) by decide +kernel]; simp [z_Ec, z_up, z_mna]
      · rw [show z_sh (1 + 2) = (10, 10) by decide +kernel]; simp [z_Ec, z_up, z_mna]
      · rw [show z_sh (1 + 3) = (10, 10) by decide +kernel]; simp [z_Ec, z_up, z_mna]
      · rw [show z_sh (1 + 4) = (10, 10) by decide +kernel]; simp [z_Ec, z_up, z_mna]
      · rw [show z_sh (1 + 5) = (10, 10) by decide +kernel]; simp [z_Ec, z_up, z_mna]
      · rw [show z_sh (1 + 6) = (12, 10) by decide +kernel]; simp [z_Ec, z_up, z_mna]
      · rw [show z_sh (1 + 7) = (10, 13) by decide +kernel]; simp [z_Ec, z_up, z_mna] <;> (intros; exfalso; omega)
      · rw [show z_sh (1 + 8) = (10, 13) by decide +kernel]; simp [z_Ec, z_up, z_mna] <;> (intros; exfalso; omega)
      · rw [show z_sh (1 + 9) = (10, 13) by decide +kernel]; simp [z_Ec, z_up, z_mna] <;> (intros; exfalso; omega)
      · rw [show z_sh (1 + 10) = (10, 13) by decide +kernel]; simp [z_Ec, z_up, z_mna] <;> (intros; exfalso; omega)
      · rw [show z_sh (1 + 11) = (10, 13) by decide +kernel]; simp [z_Ec, z_up, z_mna] <;> (intros; exfalso; omega)
      · rw [show z_sh (1 + 12) = (10, 13) by decide +kernel]; simp [z_Ec, z_up, z_mna] <;> (intros; exfalso; omega)
      · rw [show z_sh (1 + 13) = (10, 13) by decide +kernel]; simp [z_Ec, z_up, z_mna] <;> (intros; exfalso; omega)
      · rw [show z_sh (1 + 14) = (10, 13) by decide +kernel]; simp [z_Ec, z_up, z_mna] <;> (intros; exfalso; omega)
      · rw [show z_sh (1 + 15) = (10, 13) by decide +kernel]; simp [z_Ec, z_up, z_mna] <;> (intros; exfalso; omega)
      · rw [show z_sh (1 + 16) = (10, 13) by decide +kernel]; simp [z_Ec, z_up, z_mna] <;> (intros; exfalso; omega)
      · rw [show z_sh (1 + 17) = (12, 8) by decide +kernel]; simp [z_Ec, z_up, z_mna]
      · rw [show z_sh (1 + 18) = (10, 10) by decide +kernel]; simp [z_Ec, z_up, z_mna] <;> (intros; exfalso; omega)
      · rw [show z_sh (1 + 19) = (10, 10) by decide +kernel]; simp [z_Ec, z_up, z_mna] <;> (intros; exfalso; omega)
      · rw [show z_sh (1 + 20) = (10, 10) by decide +kernel]; simp [z_Ec, z_up, z_mna] <;> (intros; exfalso; omega)
      · rw [show z_sh (1 + 21) = (10, 10) by decide +kernel]; simp [z_Ec, z_up, z_mna] <;> (intros; exfalso; omega)
      · rw [show z_sh (1 + 22) = (10, 10) by decide +kernel]; simp [z_Ec, z_up, z_mna] <;> (intros; exfalso; omega)
      · rw [show z_sh (1 + 23) = (10, 10) by decide +kernel]; simp [z_Ec, z_up, z_mna] <;> (intros; exfalso; omega)
      · rw [show z_sh (1 + 24) = (10, 10) by decide +kernel]; simp [z_Ec, z_up, z_mna] <;> (intros; exfalso; omega)
      · rw [show z_sh (1 + 25) = (10, 10) by decide +kernel]; simp [z_Ec, z_up, z_mna] <;> (intros; exfalso; omega)
    )

section ZP2
variable {D : va_G} {cI cJ cM cS : ClassId} {n0 : Nat} {p : Program} {l : Launch} {e : Env} {R : Room} {s : State} {m : MethodId} {args : Array Value} {below : List Frame} {meth : Method} {c : Code} {cc : ByteArray} {nL : Nat} {own : String} {Q : State → Prop} {cells slots pc : Nat} {L L' : List (Nat × Value)} {st : List Value} {σ : z_S}
theorem zt_newState (hX : z_X D cI cJ cM cS p s m args c cc nL own) {ro : Option FieldType} {i i2 : Nat} (hY : z_Y s meth ro) (hd : decode cc pc = .ok (.new i, 3)) (hd1 : decode cc (pc + 3) = .ok (.dup, 1)) (hd2 : decode cc (pc + 3 + 1) = .ok (.invokespecial i2, 3)) (w0 : Cond.classLink own i RX4 ∈ z_ws) (w1 : Cond.methodLink own i2 yX4_init ∈ z_ws) (h1 : 2 ≤ R.frames) (h2 : 32 ≤ R.locals) (h3 : cells + 26 ≤ R.cells) (h4 : slots + 289 ≤ R.slots) (hcat : (st.map fun v => v.category).sum ≤ 6) (hsh : ∀ j, j < 26 → z_sh (zg_n σ + j) = z_sh (1 + j)) (kk : z_t D cI cJ cM cS n0 p l e R s m args below meth c nL Q (cells + 26) (slots + 289) (pc + 7) L (.ref (n0 + zg_n σ) :: st) (zs_new σ)) : z_t D cI cJ cM cS n0 p l e R s m args below meth c nL Q cells slots pc L st σ := fun hN => by
  refine zr_new hX (ci := 4) (C := RX4) (T := TX4) (N := 11) (fs := [.int 0, .int 0, .int 0, .int 0, .null, .null, .null, .null, .null, .null, .null]) rfl z_inX4 tyX4 tyX4_ok w0 kw_80 kw_62 (fun j hj => by rcases (show j = 0 ∨ j = 1 ∨ j = 2 ∨ j = 3 ∨ j = 4 ∨ j = 5 ∨ j = 6 ∨ j = 7 ∨ j = 8 ∨ j = 9 ∨ j = 10 by omega) with rfl | rfl | rfl | rfl | rfl | rfl | rfl | rfl | rfl | rfl | rfl <;> rfl) (by omega) (by omega) hd ?_
  refine zr_nmh (fun h1 g1 => ?_)
  have f1 : h1 (zg_n σ) = .inr (4, [.int 0, .int 0, .int 0, .int 0, .null, .null, .null, .null, .null, .null, .null]) := by rw [g1, z_up_at]
  refine zr_dup hX hd1 rfl ?_
  refine zr_callg hX hY (c_X4_init (n := zg_n σ) f1) hd2 rfl w1 kw_82 kw_62 ⟨rfl, rfl⟩ hy_X4_init kw_83 ⟨by show 1 + 1 ≤ _; omega, by show 8 + (1 + 11) + 12 ≤ _; omega⟩ ⟨by omega, by omega⟩ (by simp only [List.map_cons, List.sum_cons]; show 1 + _ ≤ 8; omega) ?_
  have hk := kk (show 81 ≤ zg_n σ + 26 by omega)
  intro H locs ls hl hR hS
  refine hk H locs ls hl (z_H_ext hR (fun k hk => ?_)) hS
  rw [z_st0_E hsh k hk, g1]
  unfold z_st0
  by_cases hlt : k < zg_n σ
  · rw [if_pos hlt, if_pos hlt, z_up_ne _ _ (by omega)]
  · rw [if_neg hlt, if_neg hlt]
end ZP2
theorem dX2_init_0 : decode cX2_init 0 = .ok (.aload_n 0, 1) := by decide +kernel
theorem dX2_init_1 : decode cX2_init 1 = .ok (.invokespecial 3, 3) := by decide +kernel
theorem dX2_init_4 : decode cX2_init 4 = .ok (.aload_n 0, 1) := by decide +kernel
theorem dX2_init_5 : decode cX2_init 5 = .ok (.iconst 5, 1) := by decide +kernel
theorem dX2_init_6 : decode cX2_init 6 = .ok (.anewarray 9, 3) := by decide +kernel
theorem dX2_init_9 : decode cX2_init 9 = .ok (.putfield 11, 3) := by decide +kernel
theorem dX2_init_12 : decode cX2_init 12 = .ok (.return_, 1) := by decide +kernel
abbrev rm_X2_init : Room := { frames := 1, cells := 1, slots := 5, locals := 12 }
theorem hy_X2_init : yX2_init.cls ≠ "java/lang/invoke/MethodHandle" ∧ yX2_init.cls ≠ "java/lang/invoke/VarHandle" ∧ (parseMethodDescriptor yX2_init.desc).map (fun d => d.parameters.length) = some 0 := by decide +kernel
set_option maxHeartbeats 4000000 in
set_option maxRecDepth 100000 in
theorem c_X2_init {l : Launch} {D : va_G} {cI cJ cM cS : ClassId} {n0 : Nat} {h : Nat → va_E} (hh : h (27) = .inr (2, [.null, .int 0])) : z_cg l D cI cJ cM cS n0 yX2_init cX2_init 1 rm_X2_init 1 5 [.ref (n0 + 27)] 28 h 29 (fun k => if k < 27 then h k else z_E n0 cI cJ cM cS zs_0 k) := by
  refine z_ofg (by decide +kernel) (Nat.le_of_ble_eq_true rfl) (fun p e s m args below meth c hX hY hin => ?_)
  refine zr_L (L' := [(0, .ref (n0 + 27))]) rfl ?_
  refine zr_aload_n hX 0 dX2_init_0 rfl rfl ?_
  refine zr_objInit hX dX2_init_1 kw_148 kw_77 kw_78 (by decide) (Nat.le_of_ble_eq_true rfl) ?_
  refine zr_aload_n hX 0 dX2_init_4 rfl rfl ?_
  refine zr_iconst hX dX2_init_5 (v := (5 : Int32)) (by decide) ?_
  refine zr_newS hX hY.1.2.2 (N := 5) dX2_init_6 kw_149 (by decide) (by decide) (by decide) (by decide) (by decide) ?_
  refine zr_nmh (fun h1 g1 => ?_)
  have f1_27 : h1 (27) = .inr (2, [.null, .int 0]) := by rw [g1, z_up_ne _ _ (by omega)]; exact hh
  refine zr_putF hX (ci := 2) (C := RX2) (T := TX2) (N := 2) (k := 27) rfl z_inX2 (by omega) f1_27 0 (by decide) kw_151 rfl tyX2 tyX2_ok nmX2 rfl hin rfl rfl rfl rfl (Nat.le_of_ble_eq_true rfl) dX2_init_9 ?_
  refine zr_nmh (fun h2 g2 => ?_)
  have f2_27 : h2 (27) = .inr (2, [.ref (n0 + (28)), .int 0]) := by rw [g2, z_up_at]; rfl
  exact zr_vret hX hY dX2_init_12 rfl (fun k hk => by
    subst g1; subst g2
    rcases Nat.lt_or_ge k 27 with hlt | hge
    · simp [z_up, z_mna, hlt, show ¬ k = 27 by omega, show ¬ k = 28 by omega, show k < 27 by omega, show k < 28 by omega]
    · rcases (show k = 27 ∨ k = 28 by omega) with rfl | rfl
      · rfl
      · rfl
    )

theorem dX1_init_0 : decode cX1_init 0 = .ok (.aload_n 0, 1) := by decide +kernel
theorem dX1_init_1 : decode cX1_init 1 = .ok (.invokespecial 3, 3) := by decide +kernel
theorem dX1_init_4 : decode cX1_init 4 = .ok (.aload_n 0, 1) := by decide +kernel
theorem dX1_init_5 : decode cX1_init 5 = .ok (.bipush 10, 2) := by decide +kernel
theorem dX1_init_7 : decode cX1_init 7 = .ok (.bipush 12, 2) := by decide +kernel
theorem dX1_init_9 : decode cX1_init 9 = .ok (.multianewarray 9 2, 4) := by decide +kernel
theorem dX1_init_13 : decode cX1_init 13 = .ok (.putfield 11, 3) := by decide +kernel
theorem dX1_init_16 : decode cX1_init 16 = .ok (.aload_n 0, 1) := by decide +kernel
theorem dX1_init_17 : decode cX1_init 17 = .ok (.bipush 10, 2) := by decide +kernel
theorem dX1_init_19 : decode cX1_init 19 = .ok (.bipush 12, 2) := by decide +kernel
theorem dX1_init_21 : decode cX1_init 21 = .ok (.multianewarray 9 2, 4) := by decide +kernel
theorem dX1_init_25 : decode cX1_init 25 = .ok (.putfield 16, 3) := by decide +kernel
theorem dX1_init_28 : decode cX1_init 28 = .ok (.aload_n 0, 1) := by decide +kernel
theorem dX1_init_29 : decode cX1_init 29 = .ok (.bipush 12, 2) := by decide +kernel
theorem dX1_init_31 : decode cX1_init 31 = .ok (.newarray .int, 2) := by decide +kernel
theorem dX1_init_33 : decode cX1_init 33 = .ok (.putfield 19, 3) := by decide +kernel
theorem dX1_init_36 : decode cX1_init 36 = .ok (.return_, 1) := by decide +kernel
abbrev rm_X1_init : Room := { frames := 1, cells := 23, slots := 272, locals := 12 }
theorem hy_X1_init : yX1_init.cls ≠ "java/lang/invoke/MethodHandle" ∧ yX1_init.cls ≠ "java/lang/invoke/VarHandle" ∧ (parseMethodDescriptor yX1_init.desc).map (fun d => d.parameters.length) = some 0 := by decide +kernel
set_option maxHeartbeats 4000000 in
set_option maxRecDepth 100000 in
theorem c_X1_init {l : Launch} {D : va_G} {cI cJ cM cS : ClassId} {n0 : Nat} {h : Nat → va_E} (hh : h (29) = .inr (1, [.null, .null, .null])) : z_cg l D cI cJ cM cS n0 yX1_init cX1_init 1 rm_X1_init 23 272 [.ref (n0 + 29)] 30 h 53 (fun k => if k < 29 then h k else z_E n0 cI cJ cM cS zs_0 k) := by
  refine z_ofg (by decide +kernel) (Nat.le_of_ble_eq_true rfl) (fun p e s m args below meth c hX hY hin => ?_)
  refine zr_L (L' := [(0, .ref (n0 + 29))]) rfl ?_
  refine zr_aload_n hX 0 dX1_init_0 rfl rfl ?_
  refine zr_objInit hX dX1_init_1 kw_164 kw_77 kw_78 (by decide) (Nat.le_of_ble_eq_true rfl) ?_
  refine zr_aload_n hX 0 dX1_init_4 rfl rfl ?_
  refine zr_bipush hX dX1_init_5 (v := (10 : Int32)) (by decide) ?_
  refine zr_bipush hX dX1_init_7 (v := (12 : Int32)) (by decide) ?_
  refine zr_mna hX hY.1.2.1 (N := 10) (K := 12) dX1_init_9 kw_165 (by decide) (by decide) (by decide) (by decide) (by decide) (by decide) (by decide) (by decide) ?_
  refine zr_nmh (fun h1 g1 => ?_)
  have f1_29 : h1 (29) = .inr (1, [.null, .null, .null]) := by rw [g1]; unfold z_mna; rw [if_pos (by omega)]; exact hh
  refine zr_putF hX (ci := 1) (C := RX1) (T := TX1) (N := 3) (k := 29) rfl z_inX1 (by omega) f1_29 0 (by decide) kw_166 rfl tyX1 tyX1_ok nmX1 rfl hin rfl rfl rfl rfl (Nat.le_of_ble_eq_true rfl) dX1_init_13 ?_
  refine zr_nmh (fun h2 g2 => ?_)
  have f2_29 : h2 (29) = .inr (1, [.ref (n0 + (30)), .null, .null]) := by rw [g2, z_up_at]; rfl
  refine zr_aload_n hX 0 dX1_init_16 rfl rfl ?_
  refine zr_bipush hX dX1_init_17 (v := (10 : Int32)) (by decide) ?_
  refine zr_bipush hX dX1_init_19 (v := (12 : Int32)) (by decide) ?_
  refine zr_mna hX hY.1.2.1 (N := 10) (K := 12) dX1_init_21 kw_165 (by decide) (by decide) (by decide) (by decide) (by decide) (by decide) (by decide) (by decide) ?_
  refine zr_nmh (fun h3 g3 => ?_)
  have f3_29 : h3 (29) = .inr (1, [.ref (n0 + (30)), .null, .null]) := by rw [g3]; unfold z_mna; rw [if_pos (by omega)]; exact f2_29
  refine zr_putF hX (ci := 1) (C := RX1) (T := TX1) (N := 3) (k := 29) rfl z_inX1 (by omega) f3_29 1 (by decide) kw_169 rfl tyX1 tyX1_ok nmX1 rfl hin rfl rfl rfl rfl (Nat.le_of_ble_eq_true rfl) dX1_init_25 ?_
  refine zr_nmh (fun h4 g4 => ?_)
  have f4_29 : h4 (29) = .inr (1, [.ref (n0 + (30)), .ref (n0 + (41)), .null]) := by rw [g4, z_up_at]; rfl
  refine zr_aload_n hX 0 dX1_init_28 rfl rfl ?_
  refine zr_bipush hX dX1_init_29 (v := (12 : Int32)) (by decide) ?_
  refine zr_newI hX (N := 12) dX1_init_31 (by decide) (by decide) (by decide) (by decide) (by decide) ?_
  refine zr_nmh (fun h5 g5 => ?_)
  have f5_29 : h5 (29) = .inr (1, [.ref (n0 + (30)), .ref (n0 + (41)), .null]) := by rw [g5, z_up_ne _ _ (by omega)]; exact f4_29
  refine zr_putF hX (ci := 1) (C := RX1) (T := TX1) (N := 3) (k := 29) rfl z_inX1 (by omega) f5_29 2 (by decide) kw_171 rfl tyX1 tyX1_ok nmX1 rfl hin rfl rfl rfl rfl (Nat.le_of_ble_eq_true rfl) dX1_init_33 ?_
  refine zr_nmh (fun h6 g6 => ?_)
  have f6_29 : h6 (29) = .inr (1, [.ref (n0 + (30)), .ref (n0 + (41)), .ref (n0 + (52))]) := by rw [g6, z_up_at]; rfl
  exact zr_vret hX hY dX1_init_36 rfl (fun k hk => by
    subst g1; subst g2; subst g3; subst g4; subst g5; subst g6
    rcases Nat.lt_or_ge k 29 with hlt | hge
    · simp [z_up, z_mna, hlt, show ¬ k = 29 by omega, show ¬ k = 30 by omega, show ¬ k = 31 by omega, show ¬ k = 32 by omega, show ¬ k = 33 by omega, show ¬ k = 34 by omega, show ¬ k = 35 by omega, show ¬ k = 36 by omega, show ¬ k = 37 by omega, show ¬ k = 38 by omega, show ¬ k = 39 by omega, show ¬ k = 40 by omega, show ¬ k = 41 by omega, show ¬ k = 42 by omega, show ¬ k = 43 by omega, show ¬ k = 44 by omega, show ¬ k = 45 by omega, show ¬ k = 46 by omega, show ¬ k = 47 by omega, show ¬ k = 48 by omega, show ¬ k = 49 by omega, show ¬ k = 50 by omega, show ¬ k = 51 by omega, show ¬ k = 52 by omega, show k < 29 by omega, show k < 30 by omega, show k < 31 by omega, show k < 32 by omega, show k < 33 by omega, show k < 34 by omega, show k < 35 by omega, show k < 36 by omega, show k < 37 by omega, show k < 38 by omega, show k < 39 by omega, show k < 40 by omega, show k < 41 by omega, show k < 42 by omega, show k < 43 by omega, show k < 44 by omega, show k < 45 by omega, show k < 46 by omega, show k < 47 by omega, show k < 48 by omega, show k < 49 by omega, show k < 50 by omega, show k < 51 by omega, show k < 52 by omega]
    · rcases (show k = 29 ∨ k = 30 ∨ k = 31 ∨ k = 32 ∨ k = 33 ∨ k = 34 ∨ k = 35 ∨ k = 36 ∨ k = 37 ∨ k = 38 ∨ k = 39 ∨ k = 40 ∨ k = 41 ∨ k = 42 ∨ k = 43 ∨ k = 44 ∨ k = 45 ∨ k = 46 ∨ k = 47 ∨ k = 48 ∨ k = 49 ∨ k = 50 ∨ k = 51 ∨ k = 52 by omega) with rfl | rfl | rfl | rfl | rfl | rfl | rfl | rfl | rfl | rfl | rfl | rfl | rfl | rfl | rfl | rfl | rfl | rfl | rfl | rfl | rfl | rfl | rfl | rfl
      · rfl
      · rfl
      · rfl
      · rfl
      · rfl
      · rfl
      · rfl
      · rfl
      · rfl
      · rfl
      · rfl
      · rfl
      · rfl
      · rfl
      · rfl
      · rfl
      · rfl
      · rfl
      · rfl
      · rfl
      · rfl
      · rfl
      · rfl
      · rfl
    )

theorem dX0_init_0 : decode cX0_init 0 = .ok (.aload_n 0, 1) := by decide +kernel
theorem dX0_init_1 : decode cX0_init 1 = .ok (.invokespecial 3, 3) := by decide +kernel
theorem dX0_init_4 : decode cX0_init 4 = .ok (.aload_n 0, 1) := by decide +kernel
theorem dX0_init_5 : decode cX0_init 5 = .ok (.bipush 10, 2) := by decide +kernel
theorem dX0_init_7 : decode cX0_init 7 = .ok (.bipush 12, 2) := by decide +kernel
theorem dX0_init_9 : decode cX0_init 9 = .ok (.multianewarray 9 2, 4) := by decide +kernel
theorem dX0_init_13 : decode cX0_init 13 = .ok (.putfield 11, 3) := by decide +kernel
theorem dX0_init_16 : decode cX0_init 16 = .ok (.aload_n 0, 1) := by decide +kernel
theorem dX0_init_17 : decode cX0_init 17 = .ok (.bipush 10, 2) := by decide +kernel
theorem dX0_init_19 : decode cX0_init 19 = .ok (.newarray .long, 2) := by decide +kernel
theorem dX0_init_21 : decode cX0_init 21 = .ok (.putfield 16, 3) := by decide +kernel
theorem dX0_init_24 : decode cX0_init 24 = .ok (.aload_n 0, 1) := by decide +kernel
theorem dX0_init_25 : decode cX0_init 25 = .ok (.bipush 10, 2) := by decide +kernel
theorem dX0_init_27 : decode cX0_init 27 = .ok (.newarray .long, 2) := by decide +kernel
theorem dX0_init_29 : decode cX0_init 29 = .ok (.putfield 20, 3) := by decide +kernel
theorem dX0_init_32 : decode cX0_init 32 = .ok (.aload_n 0, 1) := by decide +kernel
theorem dX0_init_33 : decode cX0_init 33 = .ok (.bipush 10, 2) := by decide +kernel
theorem dX0_init_35 : decode cX0_init 35 = .ok (.newarray .long, 2) := by decide +kernel
theorem dX0_init_37 : decode cX0_init 37 = .ok (.putfield 23, 3) := by decide +kernel
theorem dX0_init_40 : decode cX0_init 40 = .ok (.return_, 1) := by decide +kernel
abbrev rm_X0_init : Room := { frames := 1, cells := 14, slots := 160, locals := 12 }
theorem hy_X0_init : yX0_init.cls ≠ "java/lang/invoke/MethodHandle" ∧ yX0_init.cls ≠ "java/lang/invoke/VarHandle" ∧ (parseMethodDescriptor yX0_init.desc).map (fun d => d.parameters.length) = some 0 := by decide +kernel
set_option maxHeartbeats 4000000 in
set_option maxRecDepth 100000 in
theorem c_X0_init {l : Launch} {D : va_G} {cI cJ cM cS : ClassId} {n0 : Nat} {h : Nat → va_E} (hh : h (53) = .inr (0, [.null, .null, .null, .null])) : z_cg l D cI cJ cM cS n0 yX0_init cX0_init 1 rm_X0_init 14 160 [.ref (n0 + 53)] 54 h 68 (fun k => if k < 53 then h k else z_E n0 cI cJ cM cS zs_0 k) := by
  refine z_ofg (by decide +kernel) (Nat.le_of_ble_eq_true rfl) (fun p e s m args below meth c hX hY hin => ?_)
  refine zr_L (L' := [(0, .ref (n0 + 53))]) rfl ?_
  refine zr_aload_n hX 0 dX0_init_0 rfl rfl ?_
  refine zr_objInit hX dX0_init_1 kw_184 kw_77 kw_78 (by decide) (Nat.le_of_ble_eq_true rfl) ?_
  refine zr_aload_n hX 0 dX0_init_4 rfl rfl ?_
  refine zr_bipush hX dX0_init_5 (v := (10 : Int32)) (by decide) ?_
  refine zr_bipush hX dX0_init_7 (v := (12 : Int32)) (by decide) ?_
  refine zr_mna hX hY.1.2.1 (N := 10) (K := 12) dX0_init_9 kw_185 (by decide) (by decide) (by decide) (by decide) (by decide) (by decide) (by decide) (by decide) ?_
  refine zr_nmh (fun h1 g1 => ?_)
  have f1_53 : h1 (53) = .inr (0, [.null, .null, .null, .null]) := by rw [g1]; unfold z_mna; rw [if_pos (by omega)]; exact hh
  refine zr_putF hX (ci := 0) (C := RX0) (T := TX0) (N := 4) (k := 53) rfl z_inX0 (by omega) f1_53 0 (by decide) kw_186 rfl tyX0 tyX0_ok nmX0 rfl hin rfl rfl rfl rfl (Nat.le_of_ble_eq_true rfl) dX0_init_13 ?_
  refine zr_nmh (fun h2 g2 => ?_)
  have f2_53 : h2 (53) = .inr (0, [.ref (n0 + (54)), .null, .null, .null]) := by rw [g2, z_up_at]; rfl
  refine zr_aload_n hX 0 dX0_init_16 rfl rfl ?_
  refine zr_bipush hX dX0_init_17 (v := (10 : Int32)) (by decide) ?_
  refine zr_newL hX (N := 10) dX0_init_19 (by decide) (by decide) (by decide) (by decide) (by decide) ?_
  refine zr_nmh (fun h3 g3 => ?_)
  have f3_53 : h3 (53) = .inr (0, [.ref (n0 + (54)), .null, .null, .null]) := by rw [g3, z_up_ne _ _ (by omega)]; exact f2_53
  refine zr_putF hX (ci := 0) (C := RX0) (T := TX0) (N := 4) (k := 53) rfl z_inX0 (by omega) f3_53 1 (by decide) kw_188 rfl tyX0 tyX0_ok nmX0 rfl hin rfl rfl rfl rfl (Nat.le_of_ble_eq_true rfl) dX0_init_21 ?_
  refine zr_nmh (fun h4 g4 => ?_)
  have f4_53 : h4 (53) = .inr (0, [.ref (n0 + (54)), .ref (n0 + (65)), .null, .null]) := by rw [g4, z_up_at]; rfl
  refine zr_aload_n hX 0 dX0_init_24 rfl rfl ?_
  refine zr_bipush hX dX0_init_25 (v := (10 : Int32)) (by decide) ?_
  refine zr_newL hX (N := 10) dX0_init_27 (by decide) (by decide) (by decide) (by decide) (by decide) ?_
  refine zr_nmh (fun h5 g5 => ?_)
  have f5_53 : h5 (53) = .inr (0, [.ref (n0 + (54)), .ref (n0 + (65)), .null, .null]) := by rw [g5, z_up_ne _ _ (by omega)]; exact f4_53
  refine zr_putF hX (ci := 0) (C := RX0) (T := TX0) (N := 4) (k := 53) rfl z_inX0 (by omega) f5_53 2 (by decide) kw_189 rfl tyX0 tyX0_ok nmX0 rfl hin rfl rfl rfl rfl (Nat.le_of_ble_eq_true rfl) dX0_init_29 ?_
  refine zr_nmh (fun h6 g6 => ?_)
  have f6_53 : h6 (53) = .inr (0, [.ref (n0 + (54)), .ref (n0 + (65)), .ref (n0 + (66)), .null]) := by rw [g6, z_up_at]; rfl
  refine zr_aload_n hX 0 dX0_init_32 rfl rfl ?_
  refine zr_bipush hX dX0_init_33 (v := (10 : Int32)) (by decide) ?_
  refine zr_newL hX (N := 10) dX0_init_35 (by decide) (by decide) (by decide) (by decide) (by decide) ?_
  refine zr_nmh (fun h7 g7 => ?_)
  have f7_53 : h7 (53) = .inr (0, [.ref (n0 + (54)), .ref (n0 + (65)), .ref (n0 + (66)), .null]) := by rw [g7, z_up_ne _ _ (by omega)]; exact f6_53
  refine zr_putF hX (ci := 0) (C := RX0) (T := TX0) (N := 4) (k := 53) rfl z_inX0 (by omega) f7_53 3 (by decide) kw_190 rfl tyX0 tyX0_ok nmX0 rfl hin rfl rfl rfl rfl (Nat.le_of_ble_eq_true rfl) dX0_init_37 ?_
  refine zr_nmh (fun h8 g8 => ?_)
  have f8_53 : h8 (53) = .inr (0, [.ref (n0 + (54)), .ref (n0 + (65)), .ref (n0 + (66)), .ref (n0 + (67))]) := by rw [g8, z_up_at]; rfl
  exact zr_vret hX hY dX0_init_40 rfl (fun k hk => by
    subst g1; subst g2; subst g3; subst g4; subst g5; subst g6; subst g7; subst g8
    rcases Nat.lt_or_ge k 53 with hlt | hge
    · simp [z_up, z_mna, hlt, show ¬ k = 53 by omega, show ¬ k = 54 by omega, show ¬ k = 55 by omega, show ¬ k = 56 by omega, show ¬ k = 57 by omega, show ¬ k = 58 by omega, show ¬ k = 59 by omega, show ¬ k = 60 by omega, show ¬ k = 61 by omega, show ¬ k = 62 by omega, show ¬ k = 63 by omega, show ¬ k = 64 by omega, show ¬ k = 65 by omega, show ¬ k = 66 by omega, show ¬ k = 67 by omega, show k < 53 by omega, show k < 54 by omega, show k < 55 by omega, show k < 56 by omega, show k < 57 by omega, show k < 58 by omega, show k < 59 by omega, show k < 60 by omega, show k < 61 by omega, show k < 62 by omega, show k < 63 by omega, show k < 64 by omega, show k < 65 by omega, show k < 66 by omega, show k < 67 by omega]
    · rcases (show k = 53 ∨ k = 54 ∨ k = 55 ∨ k = 56 ∨ k = 57 ∨ k = 58 ∨ k = 59 ∨ k = 60 ∨ k = 61 ∨ k = 62 ∨ k = 63 ∨ k = 64 ∨ k = 65 ∨ k = 66 ∨ k = 67 by omega) with rfl | rfl | rfl | rfl | rfl | rfl | rfl | rfl | rfl | rfl | rfl | rfl | rfl | rfl | rfl
      · rfl
      · rfl
      · rfl
      · rfl
      · rfl
      · rfl
      · rfl
      · rfl
      · rfl
      · rfl
      · rfl
      · rfl
      · rfl
      · rfl
      · rfl
    )

theorem dX3_init_0 : decode cX3_init 0 = .ok (.aload_n 0, 1) := by decide +kernel
theorem dX3_init_1 : decode cX3_init 1 = .ok (.invokespecial 3, 3) := by decide +kernel
theorem dX3_init_4 : decode cX3_init 4 = .ok (.aload_n 0, 1) := by decide +kernel
theorem dX3_init_5 : decode cX3_init 5 = .ok (.bipush 120, 2) := by decide +kernel
theorem dX3_init_7 : decode cX3_init 7 = .ok (.newarray .int, 2) := by decide +kernel
theorem dX3_init_9 : decode cX3_init 9 = .ok (.putfield 9, 3) := by decide +kernel
theorem dX3_init_12 : decode cX3_init 12 = .ok (.aload_n 0, 1) := by decide +kernel
theorem dX3_init_13 : decode cX3_init 13 = .ok (.bipush 24, 2) := by decide +kernel
theorem dX3_init_15 : decode cX3_init 15 = .ok (.newarray .int, 2) := by decide +kernel
theorem dX3_init_17 : decode cX3_init 17 = .ok (.putfield 15, 3) := by decide +kernel
theorem dX3_init_20 : decode cX3_init 20 = .ok (.aload_n 0, 1) := by decide +kernel
theorem dX3_init_21 : decode cX3_init 21 = .ok (.bipush 24, 2) := by decide +kernel
theorem dX3_init_23 : decode cX3_init 23 = .ok (.newarray .int, 2) := by decide +kernel
theorem dX3_init_25 : decode cX3_init 25 = .ok (.putfield 18, 3) := by decide +kernel
theorem dX3_init_28 : decode cX3_init 28 = .ok (.aload_n 0, 1) := by decide +kernel
theorem dX3_init_29 : decode cX3_init 29 = .ok (.bipush 24, 2) := by decide +kernel
theorem dX3_init_31 : decode cX3_init 31 = .ok (.newarray .int, 2) := by decide +kernel
theorem dX3_init_33 : decode cX3_init 33 = .ok (.putfield 21, 3) := by decide +kernel
theorem dX3_init_36 : decode cX3_init 36 = .ok (.return_, 1) := by decide +kernel
abbrev rm_X3_init : Room := { frames := 1, cells := 4, slots := 192, locals := 12 }
theorem hy_X3_init : yX3_init.cls ≠ "java/lang/invoke/MethodHandle" ∧ yX3_init.cls ≠ "java/lang/invoke/VarHandle" ∧ (parseMethodDescriptor yX3_init.desc).map (fun d => d.parameters.length) = some 0 := by decide +kernel
set_option maxHeartbeats 4000000 in
set_option maxRecDepth 100000 in
theorem c_X3_init {l : Launch} {D : va_G} {cI cJ cM cS : ClassId} {n0 : Nat} {h : Nat → va_E} (hh : h (68) = .inr (3, [.null, .int 0, .null, .null, .null, .int 0, .int 0, .int 0])) : z_cg l D cI cJ cM cS n0 yX3_init cX3_init 1 rm_X3_init 4 192 [.ref (n0 + 68)] 69 h 73 (fun k => if k < 68 then h k else z_E n0 cI cJ cM cS zs_0 k) := by
  refine z_ofg (by decide +kernel) (Nat.le_of_ble_eq_true rfl) (fun p e s m args below meth c hX hY hin => ?_)
  refine zr_L (L' := [(0, .ref (n0 + 68))]) rfl ?_
  refine zr_aload_n hX 0 dX3_init_0 rfl rfl ?_
  refine zr_objInit hX dX3_init_1 kw_206 kw_77 kw_78 (by decide) (Nat.le_of_ble_eq_true rfl) ?_
  refine zr_aload_n hX 0 dX3_init_4 rfl rfl ?_
  refine zr_bipush hX dX3_init_5 (v := (120 : Int32)) (by decide) ?_
  refine zr_newI hX (N := 120) dX3_init_7 (by decide) (by decide) (by decide) (by decide) (by decide) ?_
  refine zr_nmh (fun h1 g1 => ?_)
  have f1_68 : h1 (68) = .inr (3, [.null, .int 0, .null, .null, .null, .int 0, .int 0, .int 0]) := by rw [g1, z_up_ne _ _ (by omega)]; exact hh
  refine zr_putF hX (ci := 3) (C := RX3) (T := TX3) (N := 8) (k := 68) rfl z_inX3 (by omega) f1_68 0 (by decide) kw_207 rfl tyX3 tyX3_ok nmX3 rfl hin rfl rfl rfl rfl (Nat.le_of_ble_eq_true rfl) dX3_init_9 ?_
  refine zr_nmh (fun h2 g2 => ?_)
  have f2_68 : h2 (68) = .inr (3, [.ref (n0 + (69)), .int 0, .null, .null, .null, .int 0, .int 0, .int 0]) := by rw [g2, z_up_at]; rfl
  refine zr_aload_n hX 0 dX3_init_12 rfl rfl ?_
  refine zr_bipush hX dX3_init_13 (v := (24 : Int32)) (by decide) ?_
  refine zr_newI hX (N := 24) dX3_init_15 (by decide) (by decide) (by decide) (by decide) (by decide) ?_
  refine zr_nmh (fun h3 g3 => ?_)
  have f3_68 : h3 (68) = .inr (3, [.ref (n0 + (69)), .int 0, .null, .null, .null, .int 0, .int 0, .int 0]) := by rw [g3, z_up_ne _ _ (by omega)]; exact f2_68
  refine zr_putF hX (ci := 3) (C := RX3) (T := TX3) (N := 8) (k := 68) rfl z_inX3 (by omega) f3_68 2 (by decide) kw_211 rfl tyX3 tyX3_ok nmX3 rfl hin rfl rfl rfl rfl (Nat.le_of_ble_eq_true rfl) dX3_init_17 ?_
  refine zr_nmh (fun h4 g4 => ?_)
  have f4_68 : h4 (68) = .inr (3, [.ref (n0 + (69)), .int 0, .ref (n0 + (70)), .null, .null, .int 0, .int 0, .int 0]) := by rw [g4, z_up_at]; rfl
  refine zr_aload_n hX 0 dX3_init_20 rfl rfl ?_
  refine zr_bipush hX dX3_init_21 (v := (24 : Int32)) (by decide) ?_
  refine zr_newI hX (N := 24) dX3_init_23 (by decide) (by decide) (by decide) (by decide) (by decide) ?_
  refine zr_nmh (fun h5 g5 => ?_)
  have f5_68 : h5 (68) = .inr (3, [.ref (n0 + (69)), .int 0, .ref (n0 + (70)), .null, .null, .int 0, .int 0, .int 0]) := by rw [g5, z_up_ne _ _ (by omega)]; exact f4_68
  refine zr_putF hX (ci := 3) (C := RX3) (T := TX3) (N := 8) (k := 68) rfl z_inX3 (by omega) f5_68 3 (by decide) kw_212 rfl tyX3 tyX3_ok nmX3 rfl hin rfl rfl rfl rfl (Nat.le_of_ble_eq_true rfl) dX3_init_25 ?_
  refine zr_nmh (fun h6 g6 => ?_)
  have f6_68 : h6 (68) = .inr (3, [.ref (n0 + (69)), .int 0, .ref (n0 + (70)), .ref (n0 + (71)), .null, .int 0, .int 0, .int 0]) := by rw [g6, z_up_at]; rfl
  refine zr_aload_n hX 0 dX3_init_28 rfl rfl ?_
  refine zr_bipush hX dX3_init_29 (v := (24 : Int32)) (by decide) ?_
  refine zr_newI hX (N := 24) dX3_init_31 (by decide) (by decide) (by decide) (by decide) (by decide) ?_
  refine zr_nmh (fun h7 g7 => ?_)
  have f7_68 : h7 (68) = .inr (3, [.ref (n0 + (69)), .int 0, .ref (n0 + (70)), .ref (n0 + (71)), .null, .int 0, .int 0, .int 0]) := by rw [g7, z_up_ne _ _ (by omega)]; exact f6_68
  refine zr_putF hX (ci := 3) (C := RX3) (T := TX3) (N := 8) (k := 68) rfl z_inX3 (by omega) f7_68 4 (by decide) kw_213 rfl tyX3 tyX3_ok nmX3 rfl hin rfl rfl rfl rfl (Nat.le_of_ble_eq_true rfl) dX3_init_33 ?_
  refine zr_nmh (fun h8 g8 => ?_)
  have f8_68 : h8 (68) = .inr (3, [.ref (n0 + (69)), .int 0, .ref (n0 + (70)), .ref (n0 + (71)), .ref (n0 + (72)), .int 0, .int 0, .int 0]) := by rw [g8, z_up_at]; rfl
  exact zr_vret hX hY dX3_init_36 rfl (fun k hk => by
    subst g1; subst g2; subst g3; subst g4; subst g5; subst g6; subst g7; subst g8
    rcases Nat.lt_or_ge k 68 with hlt | hge
    · simp [z_up, z_mna, hlt, show ¬ k = 68 by omega, show ¬ k = 69 by omega, show ¬ k = 70 by omega, show ¬ k = 71 by omega, show ¬ k = 72 by omega, show k < 68 by omega, show k < 69 by omega, show k < 70 by omega, show k < 71 by omega, show k < 72 by omega]
    · rcases (show k = 68 ∨ k = 69 ∨ k = 70 ∨ k = 71 ∨ k = 72 by omega) with rfl | rfl | rfl | rfl | rfl
      · rfl
      · rfl
      · rfl
      · rfl
      · rfl
    )

theorem dX5_init_0 : decode cX5_init 0 = .ok (.aload_n 0, 1) := by decide +kernel
theorem dX5_init_1 : decode cX5_init 1 = .ok (.invokespecial 1, 3) := by decide +kernel
theorem dX5_init_4 : decode cX5_init 4 = .ok (.aload_n 0, 1) := by decide +kernel
theorem dX5_init_5 : decode cX5_init 5 = .ok (.new 7, 3) := by decide +kernel
theorem dX5_init_8 : decode cX5_init 8 = .ok (.dup, 1) := by decide +kernel
theorem dX5_init_9 : decode cX5_init 9 = .ok (.invokespecial 9, 3) := by decide +kernel
theorem dX5_init_12 : decode cX5_init 12 = .ok (.putfield 10, 3) := by decide +kernel
theorem dX5_init_15 : decode cX5_init 15 = .ok (.aload_n 0, 1) := by decide +kernel
theorem dX5_init_16 : decode cX5_init 16 = .ok (.new 16, 3) := by decide +kernel
theorem dX5_init_19 : decode cX5_init 19 = .ok (.dup, 1) := by decide +kernel
theorem dX5_init_20 : decode cX5_init 20 = .ok (.invokespecial 18, 3) := by decide +kernel
theorem dX5_init_23 : decode cX5_init 23 = .ok (.putfield 19, 3) := by decide +kernel
theorem dX5_init_26 : decode cX5_init 26 = .ok (.aload_n 0, 1) := by decide +kernel
theorem dX5_init_27 : decode cX5_init 27 = .ok (.new 23, 3) := by decide +kernel
theorem dX5_init_30 : decode cX5_init 30 = .ok (.dup, 1) := by decide +kernel
theorem dX5_init_31 : decode cX5_init 31 = .ok (.invokespecial 25, 3) := by decide +kernel
theorem dX5_init_34 : decode cX5_init 34 = .ok (.putfield 26, 3) := by decide +kernel
theorem dX5_init_37 : decode cX5_init 37 = .ok (.aload_n 0, 1) := by decide +kernel
theorem dX5_init_38 : decode cX5_init 38 = .ok (.new 30, 3) := by decide +kernel
theorem dX5_init_41 : decode cX5_init 41 = .ok (.dup, 1) := by decide +kernel
theorem dX5_init_42 : decode cX5_init 42 = .ok (.invokespecial 32, 3) := by decide +kernel
theorem dX5_init_45 : decode cX5_init 45 = .ok (.putfield 33, 3) := by decide +kernel
theorem dX5_init_48 : decode cX5_init 48 = .ok (.aload_n 0, 1) := by decide +kernel
theorem dX5_init_49 : decode cX5_init 49 = .ok (.new 37, 3) := by decide +kernel
theorem dX5_init_52 : decode cX5_init 52 = .ok (.dup, 1) := by decide +kernel
theorem dX5_init_53 : decode cX5_init 53 = .ok (.invokespecial 39, 3) := by decide +kernel
theorem dX5_init_56 : decode cX5_init 56 = .ok (.putfield 40, 3) := by decide +kernel
theorem dX5_init_59 : decode cX5_init 59 = .ok (.return_, 1) := by decide +kernel
abbrev rm_X5_init : Room := { frames := 2, cells := 72, slots := 935, locals := 32 }
theorem hy_X5_init : yX5_init.cls ≠ "java/lang/invoke/MethodHandle" ∧ yX5_init.cls ≠ "java/lang/invoke/VarHandle" ∧ (parseMethodDescriptor yX5_init.desc).map (fun d => d.parameters.length) = some 0 := by decide +kernel
set_option maxHeartbeats 4000000 in
set_option maxRecDepth 100000 in
theorem c_X5_init {l : Launch} {D : va_G} {cI cJ cM cS : ClassId} {n0 : Nat} {h : Nat → va_E} (hh : h (0) = .inr (5, [.null, .null, .null, .null, .null])) : z_cg l D cI cJ cM cS n0 yX5_init cX5_init 1 rm_X5_init 72 935 [.ref (n0 + 0)] 1 h 73 (fun k => if k < 0 then h k else z_E n0 cI cJ cM cS zs_0 k) := by
  refine z_ofg (by decide +kernel) (Nat.le_of_ble_eq_true rfl) (fun p e s m args below meth c hX hY hin => ?_)
  refine zr_L (L' := [(0, .ref (n0 + 0))]) rfl ?_
  refine zr_aload_n hX 0 dX5_init_0 rfl rfl ?_
  refine zr_objInit hX dX5_init_1 kw_76 kw_77 kw_78 (by decide) (Nat.le_of_ble_eq_true rfl) ?_
  refine zr_aload_n hX 0 dX5_init_4 rfl rfl ?_
  refine zr_new hX (ci := 4) (C := RX4) (T := TX4) (N := 11) (fs := [.int 0, .int 0, .int 0, .int 0, .null, .null, .null, .null, .null, .null, .null]) rfl z_inX4 tyX4 tyX4_ok kw_79 kw_80 kw_62 (fun j hj => by rcases (show j = 0 ∨ j = 1 ∨ j = 2 ∨ j = 3 ∨ j = 4 ∨ j = 5 ∨ j = 6 ∨ j = 7 ∨ j = 8 ∨ j = 9 ∨ j = 10 by omega) with rfl | rfl | rfl | rfl | rfl | rfl | rfl | rfl | rfl | rfl | rfl <;> rfl) (by decide) (by decide) dX5_init_5 ?_
  refine zr_nmh (fun h1 g1 => ?_)
  have f1_0 : h1 (0) = .inr (5, [.null, .null, .null, .null, .null]) := by rw [g1, z_up_ne _ _ (by omega)]; exact hh
  have f1_1 : h1 (1) = .inr (4, [.int 0, .int 0, .int 0, .int 0, .null, .null, .null, .null, .null, .null, .null]) := by rw [g1, z_up_at]
  refine zr_dup hX dX5_init_8 rfl ?_
  refine zr_callg hX hY (c_X4_init (n := 1) f1_1) dX5_init_9 rfl kw_81 kw_82 kw_62 ⟨rfl, rfl⟩ hy_X4_init kw_83 ⟨by decide, by decide⟩ ⟨by decide, by decide⟩ (Nat.le_of_ble_eq_true rfl) ?_
  refine zr_nmh (fun h2 g2 => ?_)
  have f2_0 : h2 (0) = .inr (5, [.null, .null, .null, .null, .null]) := by rw [g2]; unfold z_st0; rw [if_pos (by omega)]; exact f1_0
  refine zr_putF hX (ci := 5) (C := RX5) (T := TX5) (N := 5) (k := 0) rfl z_inX5 (by omega) f2_0 0 (by decide) kw_234 rfl tyX5 tyX5_ok nmX5 rfl hin rfl rfl rfl rfl (Nat.le_of_ble_eq_true rfl) dX5_init_12 ?_
  refine zr_nmh (fun h3 g3 => ?_)
  have f3_0 : h3 (0) = .inr (5, [.ref (n0 + (1)), .null, .null, .null, .null]) := by rw [g3, z_up_at]; rfl
  refine zr_aload_n hX 0 dX5_init_15 rfl rfl ?_
  refine zr_new hX (ci := 2) (C := RX2) (T := TX2) (N := 2) (fs := [.null, .int 0]) rfl z_inX2 tyX2 tyX2_ok kw_143 kw_144 kw_63 (fun j hj => by rcases (show j = 0 ∨ j = 1 by omega) with rfl | rfl <;> rfl) (by decide) (by decide) dX5_init_16 ?_
  refine zr_nmh (fun h4 g4 => ?_)
  have f4_0 : h4 (0) = .inr (5, [.ref (n0 + (1)), .null, .null, .null, .null]) := by rw [g4, z_up_ne _ _ (by omega)]; exact f3_0
  have f4_27 : h4 (27) = .inr (2, [.null, .int 0]) := by rw [g4, z_up_at]
  refine zr_dup hX dX5_init_19 rfl ?_
  refine zr_callg hX hY (c_X2_init f4_27) dX5_init_20 rfl kw_145 kw_146 kw_63 ⟨rfl, rfl⟩ hy_X2_init kw_147 ⟨by decide, by decide⟩ ⟨by decide, by decide⟩ (Nat.le_of_ble_eq_true rfl) ?_
  refine zr_nmh (fun h5 g5 => ?_)
  have f5_0 : h5 (0) = .inr (5, [.ref (n0 + (1)), .null, .null, .null, .null]) := by rw [g5]; show (if _ then _ else _) = _; rw [if_pos (by omega)]; exact f4_0
  refine zr_putF hX (ci := 5) (C := RX5) (T := TX5) (N := 5) (k := 0) rfl z_inX5 (by omega) f5_0 1 (by decide) kw_235 rfl tyX5 tyX5_ok nmX5 rfl hin rfl rfl rfl rfl (Nat.le_of_ble_eq_true rfl) dX5_init_23 ?_
  refine zr_nmh (fun h6 g6 => ?_)
  have f6_0 : h6 (0) = .inr (5, [.ref (n0 + (1)), .ref (n0 + (27)), .null, .null, .null]) := by rw [g6, z_up_at]; rfl
  refine zr_aload_n hX 0 dX5_init_26 rfl rfl ?_
  refine zr_new hX (ci := 1) (C := RX1) (T := TX1) (N := 3) (fs := [.null, .null, .null]) rfl z_inX1 tyX1 tyX1_ok kw_159 kw_160 kw_64 (fun j hj => by rcases (show j = 0 ∨ j = 1 ∨ j = 2 by omega) with rfl | rfl | rfl <;> rfl) (by decide) (by decide) dX5_init_27 ?_
  refine zr_nmh (fun h7 g7 => ?_)
  have f7_0 : h7 (0) = .inr (5, [.ref (n0 + (1)), .ref (n0 + (27)), .null, .null, .null]) := by rw [g7, z_up_ne _ _ (by omega)]; exact f6_0
  have f7_29 : h7 (29) = .inr (1, [.null, .null, .null]) := by rw [g7, z_up_at]
  refine zr_dup hX dX5_init_30 rfl ?_
  refine zr_callg hX hY (c_X1_init f7_29) dX5_init_31 rfl kw_161 kw_162 kw_64 ⟨rfl, rfl⟩ hy_X1_init kw_163 ⟨by decide, by decide⟩ ⟨by decide, by decide⟩ (Nat.le_of_ble_eq_true rfl) ?_
  refine zr_nmh (fun h8 g8 => ?_)
  have f8_0 : h8 (0) = .inr (5, [.ref (n0 + (1)), .ref (n0 + (27)), .null, .null, .null]) := by rw [g8]; show (if _ then _ else _) = _; rw [if_pos (by omega)]; exact f7_0
  refine zr_putF hX (ci := 5) (C := RX5) (T := TX5) (N := 5) (k := 0) rfl z_inX5 (by omega) f8_0 2 (by decide) kw_236 rfl tyX5 tyX5_ok nmX5 rfl hin rfl rfl rfl rfl (Nat.le_of_ble_eq_true rfl) dX5_init_34 ?_
  refine zr_nmh (fun h9 g9 => ?_)
  have f9_0 : h9 (0) = .inr (5, [.ref (n0 + (1)), .ref (n0 + (27)), .ref (n0 + (29)), .null, .null]) := by rw [g9, z_up_at]; rfl
  refine zr_aload_n hX 0 dX5_init_37 rfl rfl ?_
  refine zr_new hX (ci := 0) (C := RX0) (T := TX0) (N := 4) (fs := [.null, .null, .null, .null]) rfl z_inX0 tyX0 tyX0_ok kw_179 kw_180 kw_65 (fun j hj => by rcases (show j = 0 ∨ j = 1 ∨ j = 2 ∨ j = 3 by omega) with rfl | rfl | rfl | rfl <;> rfl) (by decide) (by decide) dX5_init_38 ?_
  refine zr_nmh (fun h10 g10 => ?_)
  have f10_0 : h10 (0) = .inr (5, [.ref (n0 + (1)), .ref (n0 + (27)), .ref (n0 + (29)), .null, .null]) := by rw [g10, z_up_ne _ _ (by omega)]; exact f9_0
  have f10_53 : h10 (53) = .inr (0, [.null, .null, .null, .null]) := by rw [g10, z_up_at]
  refine zr_dup hX dX5_init_41 rfl ?_
  refine zr_callg hX hY (c_X0_init f10_53) dX5_init_42 rfl kw_181 kw_182 kw_65 ⟨rfl, rfl⟩ hy_X0_init kw_183 ⟨by decide, by decide⟩ ⟨by decide, by decide⟩ (Nat.le_of_ble_eq_true rfl) ?_
  refine zr_nmh (fun h11 g11 => ?_)
  have f11_0 : h11 (0) = .inr (5, [.ref (n0 + (1)), .ref (n0 + (27)), .ref (n0 + (29)), .null, .null]) := by rw [g11]; show (if _ then _ else _) = _; rw [if_pos (by omega)]; exact f10_0
  refine zr_putF hX (ci := 5) (C := RX5) (T := TX5) (N := 5) (k := 0) rfl z_inX5 (by omega) f11_0 3 (by decide) kw_237 rfl tyX5 tyX5_ok nmX5 rfl hin rfl rfl rfl rfl (Nat.le_of_ble_eq_true rfl) dX5_init_45 ?_
  refine zr_nmh (fun h12 g12 => ?_)
  have f12_0 : h12 (0) = .inr (5, [.ref (n0 + (1)), .ref (n0 + (27)), .ref (n0 + (29)), .ref (n0 + (53)), .null]) := by rw [g12, z_up_at]; rfl
  refine zr_aload_n hX 0 dX5_init_48 rfl rfl ?_
  refine zr_new hX (ci := 3) (C := RX3) (T := TX3) (N := 8) (fs := [.null, .int 0, .null, .null, .null, .int 0, .int 0, .int 0]) rfl z_inX3 tyX3 tyX3_ok kw_201 kw_202 kw_66 (fun j hj => by rcases (show j = 0 ∨ j = 1 ∨ j = 2 ∨ j = 3 ∨ j = 4 ∨ j = 5 ∨ j = 6 ∨ j = 7 by omega) with rfl | rfl | rfl | rfl | rfl | rfl | rfl | rfl <;> rfl) (by decide) (by decide) dX5_init_49 ?_
  refine zr_nmh (fun h13 g13 => ?_)
  have f13_0 : h13 (0) = .inr (5, [.ref (n0 + (1)), .ref (n0 + (27)), .ref (n0 + (29)), .ref (n0 + (53)), .null]) := by rw [g13, z_up_ne _ _ (by omega)]; exact f12_0
  have f13_68 : h13 (68) = .inr (3, [.null, .int 0, .null, .null, .null, .int 0, .int 0, .int 0]) := by rw [g13, z_up_at]
  refine zr_dup hX dX5_init_52 rfl ?_
  refine zr_callg hX hY (c_X3_init f13_68) dX5_init_53 rfl kw_203 kw_204 kw_66 ⟨rfl, rfl⟩ hy_X3_init kw_205 ⟨by decide, by decide⟩ ⟨by decide, by decide⟩ (Nat.le_of_ble_eq_true rfl) ?_
  refine zr_nmh (fun h14 g14 => ?_)
  have f14_0 : h14 (0) = .inr (5, [.ref (n0 + (1)), .ref (n0 + (27)), .ref (n0 + (29)), .ref (n0 + (53)), .null]) := by rw [g14]; show (if _ then _ else _) = _; rw [if_pos (by omega)]; exact f13_0
  refine zr_putF hX (ci := 5) (C := RX5) (T := TX5) (N := 5) (k := 0) rfl z_inX5 (by omega) f14_0 4 (by decide) kw_238 rfl tyX5 tyX5_ok nmX5 rfl hin rfl rfl rfl rfl (Nat.le_of_ble_eq_true rfl) dX5_init_56 ?_
  refine zr_nmh (fun h15 g15 => ?_)
  have f15_0 : h15 (0) = .inr (5, [.ref (n0 + (1)), .ref (n0 + (27)), .ref (n0 + (29)), .ref (n0 + (53)), .ref (n0 + (68))]) := by rw [g15, z_up_at]; rfl
  exact zr_vret hX hY dX5_init_59 rfl (fun k hk => by
    subst g1; subst g2; subst g3; subst g4; subst g5; subst g6; subst g7; subst g8; subst g9; subst g10; subst g11; subst g12; subst g13; subst g14; subst g15
    rcases (show k = 0 ∨ k = 1 ∨ k = 2 ∨ k = 3 ∨ k = 4 ∨ k = 5 ∨ k = 6 ∨ k = 7 ∨ k = 8 ∨ k = 9 ∨ k = 10 ∨ k = 11 ∨ k = 12 ∨ k = 13 ∨ k = 14 ∨ k = 15 ∨ k = 16 ∨ k = 17 ∨ k = 18 ∨ k = 19 ∨ k = 20 ∨ k = 21 ∨ k = 22 ∨ k = 23 ∨ k = 24 ∨ k = 25 ∨ k = 26 ∨ k = 27 ∨ k = 28 ∨ k = 29 ∨ k = 30 ∨ k = 31 ∨ k = 32 ∨ k = 33 ∨ k = 34 ∨ k = 35 ∨ k = 36 ∨ k = 37 ∨ k = 38 ∨ k = 39 ∨ k = 40 ∨ k = 41 ∨ k = 42 ∨ k = 43 ∨ k = 44 ∨ k = 45 ∨ k = 46 ∨ k = 47 ∨ k = 48 ∨ k = 49 ∨ k = 50 ∨ k = 51 ∨ k = 52 ∨ k = 53 ∨ k = 54 ∨ k = 55 ∨ k = 56 ∨ k = 57 ∨ k = 58 ∨ k = 59 ∨ k = 60 ∨ k = 61 ∨ k = 62 ∨ k = 63 ∨ k = 64 ∨ k = 65 ∨ k = 66 ∨ k = 67 ∨ k = 68 ∨ k = 69 ∨ k = 70 ∨ k = 71 ∨ k = 72 by omega) with rfl | rfl | rfl | rfl | rfl | rfl | rfl | rfl | rfl | rfl | rfl | rfl | rfl | rfl | rfl | rfl | rfl | rfl | rfl | rfl | rfl | rfl | rfl | rfl | rfl | rfl | rfl | rfl | rfl | rfl | rfl | rfl | rfl | rfl | rfl | rfl | rfl | rfl | rfl | rfl | rfl | rfl | rfl | rfl | rfl | rfl | rfl | rfl | rfl | rfl | rfl | rfl | rfl | rfl | rfl | rfl | rfl | rfl | rfl | rfl | rfl | rfl | rfl | rfl | rfl | rfl | rfl | rfl | rfl | rfl | rfl | rfl | rfl
    · rfl
    · rfl
    · rfl
    · rfl
    · rfl
    · rfl
    · rfl
    · rfl
    · rfl
    · rfl
    · rfl
    · rfl
    · rfl
    · rfl
    · rfl
    · rfl
    · rfl
    · rfl
    · rfl
    · rfl
    · rfl
    · rfl
    · rfl
    · rfl
    · rfl
    · rfl
    · rfl
    · rfl
    · rfl
    · rfl
    · rfl
    · rfl
    · rfl
    · rfl
    · rfl
    · rfl
    · rfl
    · rfl
    · rfl
    · rfl
    · rfl
    · rfl
    · rfl
    · rfl
    · rfl
    · rfl
    · rfl
    · rfl
    · rfl
    · rfl
    · rfl
    · rfl
    · rfl
    · rfl
    · rfl
    · rfl
    · rfl
    · rfl
    · rfl
    · rfl
    · rfl
    · rfl
    · rfl
    · rfl
    · rfl
    · rfl
    · rfl
    · rfl
    · rfl
    · rfl
    · rfl
    · rfl
    · rfl
    )

theorem dX6_init_0 : decode cX6_init 0 = .ok (.aload_n 0, 1) := by decide +kernel
theorem dX6_init_1 : decode cX6_init 1 = .ok (.invokespecial 1, 3) := by decide +kernel
theorem dX6_init_4 : decode cX6_init 4 = .ok (.aload_n 0, 1) := by decide +kernel
theorem dX6_init_5 : decode cX6_init 5 = .ok (.sipush 1584, 3) := by decide +kernel
theorem dX6_init_8 : decode cX6_init 8 = .ok (.newarray .int, 2) := by decide +kernel
theorem dX6_init_10 : decode cX6_init 10 = .ok (.putfield 7, 3) := by decide +kernel
theorem dX6_init_13 : decode cX6_init 13 = .ok (.aload_n 0, 1) := by decide +kernel
theorem dX6_init_14 : decode cX6_init 14 = .ok (.bipush 10, 2) := by decide +kernel
theorem dX6_init_16 : decode cX6_init 16 = .ok (.newarray .int, 2) := by decide +kernel
theorem dX6_init_18 : decode cX6_init 18 = .ok (.putfield 13, 3) := by decide +kernel
theorem dX6_init_21 : decode cX6_init 21 = .ok (.aload_n 0, 1) := by decide +kernel
theorem dX6_init_22 : decode cX6_init 22 = .ok (.bipush 10, 2) := by decide +kernel
theorem dX6_init_24 : decode cX6_init 24 = .ok (.newarray .int, 2) := by decide +kernel
theorem dX6_init_26 : decode cX6_init 26 = .ok (.putfield 16, 3) := by decide +kernel
theorem dX6_init_29 : decode cX6_init 29 = .ok (.aload_n 0, 1) := by decide +kernel
theorem dX6_init_30 : decode cX6_init 30 = .ok (.bipush 10, 2) := by decide +kernel
theorem dX6_init_32 : decode cX6_init 32 = .ok (.newarray .long, 2) := by decide +kernel
theorem dX6_init_34 : decode cX6_init 34 = .ok (.putfield 19, 3) := by decide +kernel
theorem dX6_init_37 : decode cX6_init 37 = .ok (.aload_n 0, 1) := by decide +kernel
theorem dX6_init_38 : decode cX6_init 38 = .ok (.bipush 10, 2) := by decide +kernel
theorem dX6_init_40 : decode cX6_init 40 = .ok (.newarray .int, 2) := by decide +kernel
theorem dX6_init_42 : decode cX6_init 42 = .ok (.putfield 23, 3) := by decide +kernel
theorem dX6_init_45 : decode cX6_init 45 = .ok (.aload_n 0, 1) := by decide +kernel
theorem dX6_init_46 : decode cX6_init 46 = .ok (.bipush 10, 2) := by decide +kernel
theorem dX6_init_48 : decode cX6_init 48 = .ok (.newarray .int, 2) := by decide +kernel
theorem dX6_init_50 : decode cX6_init 50 = .ok (.putfield 26, 3) := by decide +kernel
theorem dX6_init_53 : decode cX6_init 53 = .ok (.aload_n 0, 1) := by decide +kernel
theorem dX6_init_54 : decode cX6_init 54 = .ok (.bipush 120, 2) := by decide +kernel
theorem dX6_init_56 : decode cX6_init 56 = .ok (.newarray .int, 2) := by decide +kernel
theorem dX6_init_58 : decode cX6_init 58 = .ok (.putfield 29, 3) := by decide +kernel
theorem dX6_init_61 : decode cX6_init 61 = .ok (.aload_n 0, 1) := by decide +kernel
theorem dX6_init_62 : decode cX6_init 62 = .ok (.getfield 7, 3) := by decide +kernel
theorem dX6_init_65 : decode cX6_init 65 = .ok (.iconst 1, 1) := by decide +kernel
theorem dX6_init_66 : decode cX6_init 66 = .ok (.iconst 5, 1) := by decide +kernel
theorem dX6_init_67 : decode cX6_init 67 = .ok (.iastore, 1) := by decide +kernel
theorem dX6_init_68 : decode cX6_init 68 = .ok (.aload_n 0, 1) := by decide +kernel
theorem dX6_init_69 : decode cX6_init 69 = .ok (.getfield 7, 3) := by decide +kernel
theorem dX6_init_72 : decode cX6_init 72 = .ok (.iconst 2, 1) := by decide +kernel
theorem dX6_init_73 : decode cX6_init 73 = .ok (.bipush 50, 2) := by decide +kernel
theorem dX6_init_75 : decode cX6_init 75 = .ok (.iastore, 1) := by decide +kernel
theorem dX6_init_76 : decode cX6_init 76 = .ok (.return_, 1) := by decide +kernel
abbrev rm_X6_init : Room := { frames := 1, cells := 7, slots := 1754, locals := 12 }
theorem hy_X6_init : yX6_init.cls ≠ "java/lang/invoke/MethodHandle" ∧ yX6_init.cls ≠ "java/lang/invoke/VarHandle" ∧ (parseMethodDescriptor yX6_init.desc).map (fun d => d.parameters.length) = some 0 := by decide +kernel
set_option maxHeartbeats 4000000 in
set_option maxRecDepth 100000 in
theorem c_X6_init {l : Launch} {D : va_G} {cI cJ cM cS : ClassId} {n0 : Nat} {h : Nat → va_E} (hh : h (73) = .inr (6, [.null, .int 0, .null, .null, .null, .null, .null, .null, .int 0, .int 0, .int 0, .int 0, .long 0])) : z_cg l D cI cJ cM cS n0 yX6_init cX6_init 1 rm_X6_init 7 1754 [.ref (n0 + 73)] 74 h 81 (fun k => if k < 73 then h k else z_E n0 cI cJ cM cS zs_0 k) := by
  refine z_ofg (by decide +kernel) (Nat.le_of_ble_eq_true rfl) (fun p e s m args below meth c hX hY hin => ?_)
  refine zr_L (L' := [(0, .ref (n0 + 73))]) rfl ?_
  refine zr_aload_n hX 0 dX6_init_0 rfl rfl ?_
  refine zr_objInit hX dX6_init_1 kw_653 kw_77 kw_78 (by decide) (Nat.le_of_ble_eq_true rfl) ?_
  refine zr_aload_n hX 0 dX6_init_4 rfl rfl ?_
  refine zr_sipush hX dX6_init_5 (v := (1584 : Int32)) (by decide) ?_
  refine zr_newI hX (N := 1584) dX6_init_8 (by decide) (by decide) (by decide) (by decide) (by decide) ?_
  refine zr_nmh (fun h1 g1 => ?_)
  have f1_73 : h1 (73) = .inr (6, [.null, .int 0, .null, .null, .null, .null, .null, .null, .int 0, .int 0, .int 0, .int 0, .long 0]) := by rw [g1, z_up_ne _ _ (by omega)]; exact hh
  have f1_74 : h1 (74) = .inl (cI, 1584, .inl (fun _ => 0)) := by rw [g1, z_up_at]
  refine zr_putF hX (ci := 6) (C := RX6) (T := TX6) (N := 13) (k := 73) rfl z_inX6 (by omega) f1_73 0 (by decide) kw_654 rfl tyX6 tyX6_ok nmX6 rfl hin rfl rfl rfl rfl (Nat.le_of_ble_eq_true rfl) dX6_init_10 ?_
  refine zr_nmh (fun h2 g2 => ?_)
  have f2_74 : h2 (74) = .inl (cI, 1584, .inl (fun _ => 0)) := by rw [g2, z_up_ne _ _ (by omega)]; exact f1_74
  have f2_73 : h2 (73) = .inr (6, [.ref (n0 + (74)), .int 0, .null, .null, .null, .null, .null, .null, .int 0, .int 0, .int 0, .int 0, .long 0]) := by rw [g2, z_up_at]; rfl
  refine zr_aload_n hX 0 dX6_init_13 rfl rfl ?_
  refine zr_bipush hX dX6_init_14 (v := (10 : Int32)) (by decide) ?_
  refine zr_newI hX (N := 10) dX6_init_16 (by decide) (by decide) (by decide) (by decide) (by decide) ?_
  refine zr_nmh (fun h3 g3 => ?_)
  have f3_74 : h3 (74) = .inl (cI, 1584, .inl (fun _ => 0)) := by rw [g3, z_up_ne _ _ (by omega)]; exact f2_74
  have f3_73 : h3 (73) = .inr (6, [.ref (n0 + (74)), .int 0, .null, .null, .null, .null, .null, .null, .int 0, .int 0, .int 0, .int 0, .long 0]) := by rw [g3, z_up_ne _ _ (by omega)]; exact f2_73
  refine zr_putF hX (ci := 6) (C := RX6) (T := TX6) (N := 13) (k := 73) rfl z_inX6 (by omega) f3_73 2 (by decide) kw_656 rfl tyX6 tyX6_ok nmX6 rfl hin rfl rfl rfl rfl (Nat.le_of_ble_eq_true rfl) dX6_init_18 ?_
  refine zr_nmh (fun h4 g4 => ?_)
  have f4_74 : h4 (74) = .inl (cI, 1584, .inl (fun _ => 0)) := by rw [g4, z_up_ne _ _ (by omega)]; exact f3_74
  have f4_73 : h4 (73) = .inr (6, [.ref (n0 + (74)), .int 0, .ref (n0 + (75)), .null, .null, .null, .null, .null, .int 0, .int 0, .int 0, .int 0, .long 0]) := by rw [g4, z_up_at]; rfl
  refine zr_aload_n hX 0 dX6_init_21 rfl rfl ?_
  refine zr_bipush hX dX6_init_22 (v := (10 : Int32)) (by decide) ?_
  refine zr_newI hX (N := 10) dX6_init_24 (by decide) (by decide) (by decide) (by decide) (by decide) ?_
  refine zr_nmh (fun h5 g5 => ?_)
  have f5_74 : h5 (74) = .inl (cI, 1584, .inl (fun _ => 0)) := by rw [g5, z_up_ne _ _ (by omega)]; exact f4_74
  have f5_73 : h5 (73) = .inr (6, [.ref (n0 + (74)), .int 0, .ref (n0 + (75)), .null, .null, .null, .null, .null, .int 0, .int 0, .int 0, .int 0, .long 0]) := by rw [g5, z_up_ne _ _ (by omega)]; exact f4_73
  refine zr_putF hX (ci := 6) (C := RX6) (T := TX6) (N := 13) (k := 73) rfl z_inX6 (by omega) f5_73 3 (by decide) kw_657 rfl tyX6 tyX6_ok nmX6 rfl hin rfl rfl rfl rfl (Nat.le_of_ble_eq_true rfl) dX6_init_26 ?_
  refine zr_nmh (fun h6 g6 => ?_)
  have f6_74 : h6 (74) = .inl (cI, 1584, .inl (fun _ => 0)) := by rw [g6, z_up_ne _ _ (by omega)]; exact f5_74
  have f6_73 : h6 (73) = .inr (6, [.ref (n0 + (74)), .int 0, .ref (n0 + (75)), .ref (n0 + (76)), .null, .null, .null, .null, .int 0, .int 0, .int 0, .int 0, .long 0]) := by rw [g6, z_up_at]; rfl
  refine zr_aload_n hX 0 dX6_init_29 rfl rfl ?_
  refine zr_bipush hX dX6_init_30 (v := (10 : Int32)) (by decide) ?_
  refine zr_newL hX (N := 10) dX6_init_32 (by decide) (by decide) (by decide) (by decide) (by decide) ?_
  refine zr_nmh (fun h7 g7 => ?_)
  have f7_74 : h7 (74) = .inl (cI, 1584, .inl (fun _ => 0)) := by rw [g7, z_up_ne _ _ (by omega)]; exact f6_74
  have f7_73 : h7 (73) = .inr (6, [.ref (n0 + (74)), .int 0, .ref (n0 + (75)), .ref (n0 + (76)), .null, .null, .null, .null, .int 0, .int 0, .int 0, .int 0, .long 0]) := by rw [g7, z_up_ne _ _ (by omega)]; exact f6_73
  refine zr_putF hX (ci := 6) (C := RX6) (T := TX6) (N := 13) (k := 73) rfl z_inX6 (by omega) f7_73 4 (by decide) kw_658 rfl tyX6 tyX6_ok nmX6 rfl hin rfl rfl rfl rfl (Nat.le_of_ble_eq_true rfl) dX6_init_34 ?_
  refine zr_nmh (fun h8 g8 => ?_)
  have f8_74 : h8 (74) = .inl (cI, 1584, .inl (fun _ => 0)) := by rw [g8, z_up_ne _ _ (by omega)]; exact f7_74
  have f8_73 : h8 (73) = .inr (6, [.ref (n0 + (74)), .int 0, .ref (n0 + (75)), .ref (n0 + (76)), .ref (n0 + (77)), .null, .null, .null, .int 0, .int 0, .int 0, .int 0, .long 0]) := by rw [g8, z_up_at]; rfl
  refine zr_aload_n hX 0 dX6_init_37 rfl rfl ?_
  refine zr_bipush hX dX6_init_38 (v := (10 : Int32)) (by decide) ?_
  refine zr_newI hX (N := 10) dX6_init_40 (by decide) (by decide) (by decide) (by decide) (by decide) ?_
  refine zr_nmh (fun h9 g9 => ?_)
  have f9_74 : h9 (74) = .inl (cI, 1584, .inl (fun _ => 0)) := by rw [g9, z_up_ne _ _ (by omega)]; exact f8_74
  have f9_73 : h9 (73) = .inr (6, [.ref (n0 + (74)), .int 0, .ref (n0 + (75)), .ref (n0 + (76)), .ref (n0 + (77)), .null, .null, .null, .int 0, .int 0, .int 0, .int 0, .long 0]) := by rw [g9, z_up_ne _ _ (by omega)]; exact f8_73
  refine zr_putF hX (ci := 6) (C := RX6) (T := TX6) (N := 13) (k := 73) rfl z_inX6 (by omega) f9_73 5 (by decide) kw_659 rfl tyX6 tyX6_ok nmX6 rfl hin rfl rfl rfl rfl (Nat.le_of_ble_eq_true rfl) dX6_init_42 ?_
  refine zr_nmh (fun h10 g10 => ?_)
  have f10_74 : h10 (74) = .inl (cI, 1584, .inl (fun _ => 0)) := by rw [g10, z_up_ne _ _ (by omega)]; exact f9_74
  have f10_73 : h10 (73) = .inr (6, [.ref (n0 + (74)), .int 0, .ref (n0 + (75)), .ref (n0 + (76)), .ref (n0 + (77)), .ref (n0 + (78)), .null, .null, .int 0, .int 0, .int 0, .int 0, .long 0]) := by rw [g10, z_up_at]; rfl
  refine zr_aload_n hX 0 dX6_init_45 rfl rfl ?_
  refine zr_bipush hX dX6_init_46 (v := (10 : Int32)) (by decide) ?_
  refine zr_newI hX (N := 10) dX6_init_48 (by decide) (by decide) (by decide) (by decide) (by decide) ?_
  refine zr_nmh (fun h11 g11 => ?_)
  have f11_74 : h11 (74) = .inl (cI, 1584, .inl (fun _ => 0)) := by rw [g11, z_up_ne _ _ (by omega)]; exact f10_74
  have f11_73 : h11 (73) = .inr (6, [.ref (n0 + (74)), .int 0, .ref (n0 + (75)), .ref (n0 + (76)), .ref (n0 + (77)), .ref (n0 + (78)), .null, .null, .int 0, .int 0, .int 0, .int 0, .long 0]) := by rw [g11, z_up_ne _ _ (by omega)]; exact f10_73
  refine zr_putF hX (ci := 6) (C := RX6) (T := TX6) (N := 13) (k := 73) rfl z_inX6 (by omega) f11_73 6 (by decide) kw_660 rfl tyX6 tyX6_ok nmX6 rfl hin rfl rfl rfl rfl (Nat.le_of_ble_eq_true rfl) dX6_init_50 ?_
  refine zr_nmh (fun h12 g12 => ?_)
  have f12_74 : h12 (74) = .inl (cI, 1584, .inl (fun _ => 0)) := by rw [g12, z_up_ne _ _ (by omega)]; exact f11_74
  have f12_73 : h12 (73) = .inr (6, [.ref (n0 + (74)), .int 0, .ref (n0 + (75)), .ref (n0 + (76)), .ref (n0 + (77)), .ref (n0 + (78)), .ref (n0 + (79)), .null, .int 0, .int 0, .int 0, .int 0, .long 0]) := by rw [g12, z_up_at]; rfl
  refine zr_aload_n hX 0 dX6_init_53 rfl rfl ?_
  refine zr_bipush hX dX6_init_54 (v := (120 : Int32)) (by decide) ?_
  refine zr_newI hX (N := 120) dX6_init_56 (by decide) (by decide) (by decide) (by decide) (by decide) ?_
  refine zr_nmh (fun h13 g13 => ?_)
  have f13_74 : h13 (74) = .inl (cI, 1584, .inl (fun _ => 0)) := by rw [g13, z_up_ne _ _ (by omega)]; exact f12_74
  have f13_73 : h13 (73) = .inr (6, [.ref (n0 + (74)), .int 0, .ref (n0 + (75)), .ref (n0 + (76)), .ref (n0 + (77)), .ref (n0 + (78)), .ref (n0 + (79)), .null, .int 0, .int 0, .int 0, .int 0, .long 0]) := by rw [g13, z_up_ne _ _ (by omega)]; exact f12_73
  refine zr_putF hX (ci := 6) (C := RX6) (T := TX6) (N := 13) (k := 73) rfl z_inX6 (by omega) f13_73 7 (by decide) kw_661 rfl tyX6 tyX6_ok nmX6 rfl hin rfl rfl rfl rfl (Nat.le_of_ble_eq_true rfl) dX6_init_58 ?_
  refine zr_nmh (fun h14 g14 => ?_)
  have f14_74 : h14 (74) = .inl (cI, 1584, .inl (fun _ => 0)) := by rw [g14, z_up_ne _ _ (by omega)]; exact f13_74
  have f14_73 : h14 (73) = .inr (6, [.ref (n0 + (74)), .int 0, .ref (n0 + (75)), .ref (n0 + (76)), .ref (n0 + (77)), .ref (n0 + (78)), .ref (n0 + (79)), .ref (n0 + (80)), .int 0, .int 0, .int 0, .int 0, .long 0]) := by rw [g14, z_up_at]; rfl
  refine zr_aload_n hX 0 dX6_init_61 rfl rfl ?_
  refine zr_getR hX (ci := 6) (C := RX6) (T := TX6) (N := 13) (k := 73) (j := 0) rfl z_inX6 (by omega) f14_73 (by decide) kw_654 rfl rfl dX6_init_62 ?_
  refine zr_iconst hX dX6_init_65 (v := (1 : Int32)) (by decide) ?_
  refine zr_iconst hX dX6_init_66 (v := (5 : Int32)) (by decide) ?_
  refine zr_iastore hX dX6_init_67 (k := 74) (by omega) f14_74 (by unfold vp_in; decide) ?_
  refine zr_nmh (fun h15 g15 => ?_)
  have f15_73 : h15 (73) = .inr (6, [.ref (n0 + (74)), .int 0, .ref (n0 + (75)), .ref (n0 + (76)), .ref (n0 + (77)), .ref (n0 + (78)), .ref (n0 + (79)), .ref (n0 + (80)), .int 0, .int 0, .int 0, .int 0, .long 0]) := by rw [g15, z_up_ne _ _ (by omega)]; exact f14_73
  have f15_74 : h15 (74) = .inl (cI, 1584, .inl (va_up (fun _ => 0) 1 5)) := by rw [g15, z_up_at]; rfl
  refine zr_aload_n hX 0 dX6_init_68 rfl rfl ?_
  refine zr_getR hX (ci := 6) (C := RX6) (T := TX6) (N := 13) (k := 73) (j := 0) rfl z_inX6 (by omega) f15_73 (by decide) kw_654 rfl rfl dX6_init_69 ?_
  refine zr_iconst hX dX6_init_72 (v := (2 : Int32)) (by decide) ?_
  refine zr_bipush hX dX6_init_73 (v := (50 : Int32)) (by decide) ?_
  refine zr_iastore hX dX6_init_75 (k := 74) (by omega) f15_74 (by unfold vp_in; decide) ?_
  refine zr_nmh (fun h16 g16 => ?_)
  have f16_73 : h16 (73) = .inr (6, [.ref (n0 + (74)), .int 0, .ref (n0 + (75)), .ref (n0 + (76)), .ref (n0 + (77)), .ref (n0 + (78)), .ref (n0 + (79)), .ref (n0 + (80)), .int 0, .int 0, .int 0, .int 0, .long 0]) := by rw [g16, z_up_ne _ _ (by omega)]; exact f15_73
  have f16_74 : h16 (74) = .inl (cI, 1584, .inl (va_up (va_up (fun _ => 0) 1 5) 2 50)) := by rw [g16, z_up_at]; rfl
  exact zr_vret hX hY dX6_init_76 rfl (fun k hk => by
    subst g1; subst g2; subst g3; subst g4; subst g5; subst g6; subst g7; subst g8; subst g9; subst g10; subst g11; subst g12; subst g13; subst g14; subst g15; subst g16
    rcases Nat.lt_or_ge k 73 with hlt | hge
    · simp [z_up, z_mna, hlt, show ¬ k = 73 by omega, show ¬ k = 74 by omega, show ¬ k = 75 by omega, show ¬ k = 76 by omega, show ¬ k = 77 by omega, show ¬ k = 78 by omega, show ¬ k = 79 by omega, show ¬ k = 80 by omega, show k < 73 by omega, show k < 74 by omega, show k < 75 by omega, show k < 76 by omega, show k < 77 by omega, show k < 78 by omega, show k < 79 by omega, show k < 80 by omega]
    · rcases (show k = 73 ∨ k = 74 ∨ k = 75 ∨ k = 76 ∨ k = 77 ∨ k = 78 ∨ k = 79 ∨ k = 80 by omega) with rfl | rfl | rfl | rfl | rfl | rfl | rfl | rfl
      · rfl
      · show Sum.inl (cI, 1584, Sum.inl _) = Sum.inl (cI, 1584, Sum.inl _); refine congrArg (fun f => Sum.inl (cI, 1584, Sum.inl f)) (funext fun b => ?_); show zg_i zs_0 74 b = va_up (va_up (fun _ => 0) 1 5) 2 50 b; simp only [va_up, zg_i, zs_0]; by_cases h1 : b = 1 <;> by_cases h2 : b = 2 <;> simp_all
      · rfl
      · rfl
      · rfl
      · rfl
      · rfl
      · rfl
    )
end
