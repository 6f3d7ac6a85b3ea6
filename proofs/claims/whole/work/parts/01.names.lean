/-- a private method of a class that the tables say can be made, by its rows of tables_1 -/
def lw_okq (q : MethodName × Nat) : Prop := (q.1.cls ≠ "java/lang/invoke/MethodHandle" ∧ q.1.cls ≠ "java/lang/invoke/VarHandle") ∧ Cond.instantiable q.1.cls q.2 ∈ tables_1 ∧ Cond.privateMethod q.1 ∈ tables_1 ∧ Cond.instanceMethod q.1 ∈ tables_1
theorem lw_p0 : lw_okq (⟨"FloodBasins", "pitsAfterChange", "()I"⟩, 11) := ⟨⟨by decide +kernel, by decide +kernel⟩, List.mem_of_getElem? (i := 13) (by decide +kernel), List.mem_of_getElem? (i := 261) (by decide +kernel), List.mem_of_getElem? (i := 262) (by decide +kernel)⟩
theorem lw_p1 : lw_okq (⟨"FloodBasins", "nothingStands", "()V"⟩, 11) := ⟨⟨by decide +kernel, by decide +kernel⟩, List.mem_of_getElem? (i := 13) (by decide +kernel), List.mem_of_getElem? (i := 265) (by decide +kernel), List.mem_of_getElem? (i := 266) (by decide +kernel)⟩
theorem lw_p2 : lw_okq (⟨"FloodBasins", "findPits", "(Z)I"⟩, 11) := ⟨⟨by decide +kernel, by decide +kernel⟩, List.mem_of_getElem? (i := 13) (by decide +kernel), List.mem_of_getElem? (i := 269) (by decide +kernel), List.mem_of_getElem? (i := 270) (by decide +kernel)⟩
theorem lw_p3 : lw_okq (⟨"FloodBasins$Spread", "reach", "(LFloodBasins$Terrain;III)V"⟩, 3) := ⟨⟨by decide +kernel, by decide +kernel⟩, List.mem_of_getElem? (i := 63) (by decide +kernel), List.mem_of_getElem? (i := 286) (by decide +kernel), List.mem_of_getElem? (i := 287) (by decide +kernel)⟩
theorem lw_p4 : lw_okq (⟨"FloodBasins", "standingFlood", "()LFloodBasins$Flood;"⟩, 11) := ⟨⟨by decide +kernel, by decide +kernel⟩, List.mem_of_getElem? (i := 13) (by decide +kernel), List.mem_of_getElem? (i := 347) (by decide +kernel), List.mem_of_getElem? (i := 348) (by decide +kernel)⟩
theorem lw_p5 : lw_okq (⟨"FloodBasins$Flood", "startAtMarks", "(LFloodBasins$Terrain;)V"⟩, 5) := ⟨⟨by decide +kernel, by decide +kernel⟩, List.mem_of_getElem? (i := 80) (by decide +kernel), List.mem_of_getElem? (i := 360) (by decide +kernel), List.mem_of_getElem? (i := 361) (by decide +kernel)⟩
theorem lw_p6 : lw_okq (⟨"FloodBasins$Flood", "lineUpAround", "(LFloodBasins$Terrain;I)V"⟩, 5) := ⟨⟨by decide +kernel, by decide +kernel⟩, List.mem_of_getElem? (i := 80) (by decide +kernel), List.mem_of_getElem? (i := 364) (by decide +kernel), List.mem_of_getElem? (i := 365) (by decide +kernel)⟩
theorem lw_p7 : lw_okq (⟨"FloodBasins", "standingPour", "()LFloodBasins$Pour;"⟩, 11) := ⟨⟨by decide +kernel, by decide +kernel⟩, List.mem_of_getElem? (i := 13) (by decide +kernel), List.mem_of_getElem? (i := 386) (by decide +kernel), List.mem_of_getElem? (i := 387) (by decide +kernel)⟩
theorem lw_p8 : lw_okq (⟨"FloodBasins$Pour", "measure", "(LFloodBasins$Terrain;)V"⟩, 12) := ⟨⟨by decide +kernel, by decide +kernel⟩, List.mem_of_getElem? (i := 124) (by decide +kernel), List.mem_of_getElem? (i := 397) (by decide +kernel), List.mem_of_getElem? (i := 398) (by decide +kernel)⟩
theorem lw_p9 : lw_okq (⟨"FloodBasins$Pour", "passesOverDam", "(LFloodBasins$Terrain;I)V"⟩, 12) := ⟨⟨by decide +kernel, by decide +kernel⟩, List.mem_of_getElem? (i := 124) (by decide +kernel), List.mem_of_getElem? (i := 402) (by decide +kernel), List.mem_of_getElem? (i := 403) (by decide +kernel)⟩
theorem lw_p10 : lw_okq (⟨"FloodBasins$Pour", "notePass", "(III)V"⟩, 12) := ⟨⟨by decide +kernel, by decide +kernel⟩, List.mem_of_getElem? (i := 124) (by decide +kernel), List.mem_of_getElem? (i := 407) (by decide +kernel), List.mem_of_getElem? (i := 408) (by decide +kernel)⟩
theorem lw_p11 : lw_okq (⟨"FloodBasins$Pour", "noteWayOut", "(III)V"⟩, 12) := ⟨⟨by decide +kernel, by decide +kernel⟩, List.mem_of_getElem? (i := 124) (by decide +kernel), List.mem_of_getElem? (i := 411) (by decide +kernel), List.mem_of_getElem? (i := 412) (by decide +kernel)⟩
theorem lw_p12 : lw_okq (⟨"FloodBasins$Pour", "passesBeside", "(LFloodBasins$Terrain;I)V"⟩, 12) := ⟨⟨by decide +kernel, by decide +kernel⟩, List.mem_of_getElem? (i := 124) (by decide +kernel), List.mem_of_getElem? (i := 416) (by decide +kernel), List.mem_of_getElem? (i := 417) (by decide +kernel)⟩
theorem lw_p13 : lw_okq (⟨"FloodBasins$Pour", "fillWaters", "(LFloodBasins$Terrain;)V"⟩, 12) := ⟨⟨by decide +kernel, by decide +kernel⟩, List.mem_of_getElem? (i := 124) (by decide +kernel), List.mem_of_getElem? (i := 422) (by decide +kernel), List.mem_of_getElem? (i := 423) (by decide +kernel)⟩
theorem lw_p14 : lw_okq (⟨"FloodBasins$Pour", "nextToPour", "(II)I"⟩, 12) := ⟨⟨by decide +kernel, by decide +kernel⟩, List.mem_of_getElem? (i := 124) (by decide +kernel), List.mem_of_getElem? (i := 426) (by decide +kernel), List.mem_of_getElem? (i := 427) (by decide +kernel)⟩
theorem lw_p15 : lw_okq (⟨"FloodBasins$Pour", "pourOut", "(LFloodBasins$Terrain;I)V"⟩, 12) := ⟨⟨by decide +kernel, by decide +kernel⟩, List.mem_of_getElem? (i := 124) (by decide +kernel), List.mem_of_getElem? (i := 434) (by decide +kernel), List.mem_of_getElem? (i := 435) (by decide +kernel)⟩
def lw_privs_1 : List (MethodName × Nat) := [(⟨"FloodBasins", "pitsAfterChange", "()I"⟩, 11), (⟨"FloodBasins", "nothingStands", "()V"⟩, 11), (⟨"FloodBasins", "findPits", "(Z)I"⟩, 11), (⟨"FloodBasins$Spread", "reach", "(LFloodBasins$Terrain;III)V"⟩, 3), (⟨"FloodBasins", "standingFlood", "()LFloodBasins$Flood;"⟩, 11), (⟨"FloodBasins$Flood", "startAtMarks", "(LFloodBasins$Terrain;)V"⟩, 5), (⟨"FloodBasins$Flood", "lineUpAround", "(LFloodBasins$Terrain;I)V"⟩, 5), (⟨"FloodBasins", "standingPour", "()LFloodBasins$Pour;"⟩, 11), (⟨"FloodBasins$Pour", "measure", "(LFloodBasins$Terrain;)V"⟩, 12), (⟨"FloodBasins$Pour", "passesOverDam", "(LFloodBasins$Terrain;I)V"⟩, 12), (⟨"FloodBasins$Pour", "notePass", "(III)V"⟩, 12), (⟨"FloodBasins$Pour", "noteWayOut", "(III)V"⟩, 12), (⟨"FloodBasins$Pour", "passesBeside", "(LFloodBasins$Terrain;I)V"⟩, 12), (⟨"FloodBasins$Pour", "fillWaters", "(LFloodBasins$Terrain;)V"⟩, 12), (⟨"FloodBasins$Pour", "nextToPour", "(II)I"⟩, 12), (⟨"FloodBasins$Pour", "pourOut", "(LFloodBasins$Terrain;I)V"⟩, 12)]
theorem lw_r1 : ∀ q ∈ lw_privs_1, lw_okq q := List.forall_mem_cons.mpr ⟨lw_p0, List.forall_mem_cons.mpr ⟨lw_p1, List.forall_mem_cons.mpr ⟨lw_p2, List.forall_mem_cons.mpr ⟨lw_p3, List.forall_mem_cons.mpr ⟨lw_p4, List.forall_mem_cons.mpr ⟨lw_p5, List.forall_mem_cons.mpr ⟨lw_p6, List.forall_mem_cons.mpr ⟨lw_p7, List.forall_mem_cons.mpr ⟨lw_p8, List.forall_mem_cons.mpr ⟨lw_p9, List.forall_mem_cons.mpr ⟨lw_p10, List.forall_mem_cons.mpr ⟨lw_p11, List.forall_mem_cons.mpr ⟨lw_p12, List.forall_mem_cons.mpr ⟨lw_p13, List.forall_mem_cons.mpr ⟨lw_p14, List.forall_mem_cons.mpr ⟨lw_p15, fun _ h => absurd h List.not_mem_nil⟩⟩⟩⟩⟩⟩⟩⟩⟩⟩⟩⟩⟩⟩⟩⟩
theorem lw_p16 : lw_okq (⟨"FloodBasins$Pour", "breakDams", "(LFloodBasins$Terrain;)I"⟩, 12) := ⟨⟨by decide +kernel, by decide +kernel⟩, List.mem_of_getElem? (i := 124) (by decide +kernel), List.mem_of_getElem? (i := 438) (by decide +kernel), List.mem_of_getElem? (i := 439) (by decide +kernel)⟩
theorem lw_p17 : lw_okq (⟨"FloodBasins$Pour", "touches", "(LFloodBasins$Terrain;II)Z"⟩, 12) := ⟨⟨by decide +kernel, by decide +kernel⟩, List.mem_of_getElem? (i := 124) (by decide +kernel), List.mem_of_getElem? (i := 468) (by decide +kernel), List.mem_of_getElem? (i := 469) (by decide +kernel)⟩
theorem lw_p18 : lw_okq (⟨"FloodBasins", "standingTree", "()LFloodBasins$Pour;"⟩, 11) := ⟨⟨by decide +kernel, by decide +kernel⟩, List.mem_of_getElem? (i := 13) (by decide +kernel), List.mem_of_getElem? (i := 484) (by decide +kernel), List.mem_of_getElem? (i := 485) (by decide +kernel)⟩
theorem lw_p19 : lw_okq (⟨"FloodBasins", "leastLevelBetween", "(II)I"⟩, 11) := ⟨⟨by decide +kernel, by decide +kernel⟩, List.mem_of_getElem? (i := 13) (by decide +kernel), List.mem_of_getElem? (i := 492) (by decide +kernel), List.mem_of_getElem? (i := 493) (by decide +kernel)⟩
theorem lw_p20 : lw_okq (⟨"FloodBasinsModel", "layPits", "()I"⟩, 20) := ⟨⟨by decide +kernel, by decide +kernel⟩, List.mem_of_getElem? (i := 548) (by decide +kernel), List.mem_of_getElem? (i := 623) (by decide +kernel), List.mem_of_getElem? (i := 624) (by decide +kernel)⟩
theorem lw_p21 : lw_okq (⟨"FloodBasinsModel", "dots", "()I"⟩, 20) := ⟨⟨by decide +kernel, by decide +kernel⟩, List.mem_of_getElem? (i := 548) (by decide +kernel), List.mem_of_getElem? (i := 627) (by decide +kernel), List.mem_of_getElem? (i := 628) (by decide +kernel)⟩
theorem lw_p22 : lw_okq (⟨"FloodBasinsModel", "spread", "(IIZ)I"⟩, 20) := ⟨⟨by decide +kernel, by decide +kernel⟩, List.mem_of_getElem? (i := 548) (by decide +kernel), List.mem_of_getElem? (i := 631) (by decide +kernel), List.mem_of_getElem? (i := 632) (by decide +kernel)⟩
theorem lw_p23 : lw_okq (⟨"FloodBasinsModel", "beside", "(II)I"⟩, 20) := ⟨⟨by decide +kernel, by decide +kernel⟩, List.mem_of_getElem? (i := 548) (by decide +kernel), List.mem_of_getElem? (i := 635) (by decide +kernel), List.mem_of_getElem? (i := 636) (by decide +kernel)⟩
theorem lw_p24 : lw_okq (⟨"FloodBasinsModel", "isDot", "(II)Z"⟩, 20) := ⟨⟨by decide +kernel, by decide +kernel⟩, List.mem_of_getElem? (i := 548) (by decide +kernel), List.mem_of_getElem? (i := 639) (by decide +kernel), List.mem_of_getElem? (i := 640) (by decide +kernel)⟩
theorem lw_p25 : lw_okq (⟨"FloodBasinsModel", "at", "(II)I"⟩, 20) := ⟨⟨by decide +kernel, by decide +kernel⟩, List.mem_of_getElem? (i := 548) (by decide +kernel), List.mem_of_getElem? (i := 643) (by decide +kernel), List.mem_of_getElem? (i := 644) (by decide +kernel)⟩
theorem lw_p26 : lw_okq (⟨"FloodBasinsModel", "leastBeside", "(I)I"⟩, 20) := ⟨⟨by decide +kernel, by decide +kernel⟩, List.mem_of_getElem? (i := 548) (by decide +kernel), List.mem_of_getElem? (i := 647) (by decide +kernel), List.mem_of_getElem? (i := 648) (by decide +kernel)⟩
theorem lw_p27 : lw_okq (⟨"FloodBasinsModel", "pourAsTold", "()V"⟩, 20) := ⟨⟨by decide +kernel, by decide +kernel⟩, List.mem_of_getElem? (i := 548) (by decide +kernel), List.mem_of_getElem? (i := 681) (by decide +kernel), List.mem_of_getElem? (i := 682) (by decide +kernel)⟩
theorem lw_p28 : lw_okq (⟨"FloodBasinsModel", "pour", "(II)V"⟩, 20) := ⟨⟨by decide +kernel, by decide +kernel⟩, List.mem_of_getElem? (i := 548) (by decide +kernel), List.mem_of_getElem? (i := 685) (by decide +kernel), List.mem_of_getElem? (i := 686) (by decide +kernel)⟩
theorem lw_p29 : lw_okq (⟨"FloodBasinsModel", "flood", "()V"⟩, 20) := ⟨⟨by decide +kernel, by decide +kernel⟩, List.mem_of_getElem? (i := 548) (by decide +kernel), List.mem_of_getElem? (i := 689) (by decide +kernel), List.mem_of_getElem? (i := 690) (by decide +kernel)⟩
theorem lw_p30 : lw_okq (⟨"FloodBasinsModel", "spill", "(I)V"⟩, 20) := ⟨⟨by decide +kernel, by decide +kernel⟩, List.mem_of_getElem? (i := 548) (by decide +kernel), List.mem_of_getElem? (i := 693) (by decide +kernel), List.mem_of_getElem? (i := 694) (by decide +kernel)⟩
theorem lw_p31 : lw_okq (⟨"FloodBasinsModel", "first", "()I"⟩, 20) := ⟨⟨by decide +kernel, by decide +kernel⟩, List.mem_of_getElem? (i := 548) (by decide +kernel), List.mem_of_getElem? (i := 697) (by decide +kernel), List.mem_of_getElem? (i := 698) (by decide +kernel)⟩
def lw_privs_2 : List (MethodName × Nat) := [(⟨"FloodBasins$Pour", "breakDams", "(LFloodBasins$Terrain;)I"⟩, 12), (⟨"FloodBasins$Pour", "touches", "(LFloodBasins$Terrain;II)Z"⟩, 12), (⟨"FloodBasins", "standingTree", "()LFloodBasins$Pour;"⟩, 11), (⟨"FloodBasins", "leastLevelBetween", "(II)I"⟩, 11), (⟨"FloodBasinsModel", "layPits", "()I"⟩, 20), (⟨"FloodBasinsModel", "dots", "()I"⟩, 20), (⟨"FloodBasinsModel", "spread", "(IIZ)I"⟩, 20), (⟨"FloodBasinsModel", "beside", "(II)I"⟩, 20), (⟨"FloodBasinsModel", "isDot", "(II)Z"⟩, 20), (⟨"FloodBasinsModel", "at", "(II)I"⟩, 20), (⟨"FloodBasinsModel", "leastBeside", "(I)I"⟩, 20), (⟨"FloodBasinsModel", "pourAsTold", "()V"⟩, 20), (⟨"FloodBasinsModel", "pour", "(II)V"⟩, 20), (⟨"FloodBasinsModel", "flood", "()V"⟩, 20), (⟨"FloodBasinsModel", "spill", "(I)V"⟩, 20), (⟨"FloodBasinsModel", "first", "()I"⟩, 20)]
theorem lw_r2 : ∀ q ∈ lw_privs_2, lw_okq q := List.forall_mem_cons.mpr ⟨lw_p16, List.forall_mem_cons.mpr ⟨lw_p17, List.forall_mem_cons.mpr ⟨lw_p18, List.forall_mem_cons.mpr ⟨lw_p19, List.forall_mem_cons.mpr ⟨lw_p20, List.forall_mem_cons.mpr ⟨lw_p21, List.forall_mem_cons.mpr ⟨lw_p22, List.forall_mem_cons.mpr ⟨lw_p23, List.forall_mem_cons.mpr ⟨lw_p24, List.forall_mem_cons.mpr ⟨lw_p25, List.forall_mem_cons.mpr ⟨lw_p26, List.forall_mem_cons.mpr ⟨lw_p27, List.forall_mem_cons.mpr ⟨lw_p28, List.forall_mem_cons.mpr ⟨lw_p29, List.forall_mem_cons.mpr ⟨lw_p30, List.forall_mem_cons.mpr ⟨lw_p31, fun _ h => absurd h List.not_mem_nil⟩⟩⟩⟩⟩⟩⟩⟩⟩⟩⟩⟩⟩⟩⟩⟩
theorem lw_p32 : lw_okq (⟨"FloodBasinsModel", "basinBeside", "([II)I"⟩, 20) := ⟨⟨by decide +kernel, by decide +kernel⟩, List.mem_of_getElem? (i := 548) (by decide +kernel), List.mem_of_getElem? (i := 701) (by decide +kernel), List.mem_of_getElem? (i := 702) (by decide +kernel)⟩
theorem lw_p33 : lw_okq (⟨"FloodBasinsModel", "dotsOf", "([II)I"⟩, 20) := ⟨⟨by decide +kernel, by decide +kernel⟩, List.mem_of_getElem? (i := 548) (by decide +kernel), List.mem_of_getElem? (i := 705) (by decide +kernel), List.mem_of_getElem? (i := 706) (by decide +kernel)⟩
theorem lw_p34 : lw_okq (⟨"FloodBasinsModel", "wayOut", "(I)I"⟩, 20) := ⟨⟨by decide +kernel, by decide +kernel⟩, List.mem_of_getElem? (i := 548) (by decide +kernel), List.mem_of_getElem? (i := 709) (by decide +kernel), List.mem_of_getElem? (i := 710) (by decide +kernel)⟩
theorem lw_p35 : lw_okq (⟨"FloodBasinsModel", "layPasses", "(I)V"⟩, 20) := ⟨⟨by decide +kernel, by decide +kernel⟩, List.mem_of_getElem? (i := 548) (by decide +kernel), List.mem_of_getElem? (i := 713) (by decide +kernel), List.mem_of_getElem? (i := 714) (by decide +kernel)⟩
theorem lw_p36 : lw_okq (⟨"FloodBasinsModel", "hasBeside", "(II)Z"⟩, 20) := ⟨⟨by decide +kernel, by decide +kernel⟩, List.mem_of_getElem? (i := 548) (by decide +kernel), List.mem_of_getElem? (i := 717) (by decide +kernel), List.mem_of_getElem? (i := 718) (by decide +kernel)⟩
theorem lw_p37 : lw_okq (⟨"FloodBasinsModel", "sizeOf", "(III)I"⟩, 20) := ⟨⟨by decide +kernel, by decide +kernel⟩, List.mem_of_getElem? (i := 548) (by decide +kernel), List.mem_of_getElem? (i := 724) (by decide +kernel), List.mem_of_getElem? (i := 725) (by decide +kernel)⟩
theorem lw_p38 : lw_okq (⟨"FloodBasinsModel", "leastHeight", "(I)I"⟩, 20) := ⟨⟨by decide +kernel, by decide +kernel⟩, List.mem_of_getElem? (i := 548) (by decide +kernel), List.mem_of_getElem? (i := 728) (by decide +kernel), List.mem_of_getElem? (i := 729) (by decide +kernel)⟩
theorem lw_p39 : lw_okq (⟨"FloodBasinsModel", "pourOne", "(II)I"⟩, 20) := ⟨⟨by decide +kernel, by decide +kernel⟩, List.mem_of_getElem? (i := 548) (by decide +kernel), List.mem_of_getElem? (i := 732) (by decide +kernel), List.mem_of_getElem? (i := 733) (by decide +kernel)⟩
theorem lw_p40 : lw_okq (⟨"FloodBasinsModel", "isBasin", "(I)Z"⟩, 20) := ⟨⟨by decide +kernel, by decide +kernel⟩, List.mem_of_getElem? (i := 548) (by decide +kernel), List.mem_of_getElem? (i := 744) (by decide +kernel), List.mem_of_getElem? (i := 745) (by decide +kernel)⟩
theorem lw_p41 : lw_okq (⟨"FloodBasinsModel", "passOf", "(II)I"⟩, 20) := ⟨⟨by decide +kernel, by decide +kernel⟩, List.mem_of_getElem? (i := 548) (by decide +kernel), List.mem_of_getElem? (i := 752) (by decide +kernel), List.mem_of_getElem? (i := 753) (by decide +kernel)⟩
theorem lw_p42 : lw_okq (⟨"FloodBasinsModel", "told", "(II)I"⟩, 20) := ⟨⟨by decide +kernel, by decide +kernel⟩, List.mem_of_getElem? (i := 548) (by decide +kernel), List.mem_of_getElem? (i := 760) (by decide +kernel), List.mem_of_getElem? (i := 761) (by decide +kernel)⟩
theorem lw_p43 : lw_okq (⟨"FloodBasinsModel", "marked", "()I"⟩, 20) := ⟨⟨by decide +kernel, by decide +kernel⟩, List.mem_of_getElem? (i := 548) (by decide +kernel), List.mem_of_getElem? (i := 780) (by decide +kernel), List.mem_of_getElem? (i := 781) (by decide +kernel)⟩
theorem lw_p44 : lw_okq (⟨"FloodBasinsModel", "basins", "([I)I"⟩, 20) := ⟨⟨by decide +kernel, by decide +kernel⟩, List.mem_of_getElem? (i := 548) (by decide +kernel), List.mem_of_getElem? (i := 784) (by decide +kernel), List.mem_of_getElem? (i := 785) (by decide +kernel)⟩
theorem lw_p45 : lw_okq (⟨"FloodBasinsModel", "greatestLevel", "()I"⟩, 20) := ⟨⟨by decide +kernel, by decide +kernel⟩, List.mem_of_getElem? (i := 548) (by decide +kernel), List.mem_of_getElem? (i := 788) (by decide +kernel), List.mem_of_getElem? (i := 789) (by decide +kernel)⟩
theorem lw_p46 : lw_okq (⟨"FloodBasinsModel", "treeSize", "()I"⟩, 20) := ⟨⟨by decide +kernel, by decide +kernel⟩, List.mem_of_getElem? (i := 548) (by decide +kernel), List.mem_of_getElem? (i := 792) (by decide +kernel), List.mem_of_getElem? (i := 793) (by decide +kernel)⟩
def lw_privs_3 : List (MethodName × Nat) := [(⟨"FloodBasinsModel", "basinBeside", "([II)I"⟩, 20), (⟨"FloodBasinsModel", "dotsOf", "([II)I"⟩, 20), (⟨"FloodBasinsModel", "wayOut", "(I)I"⟩, 20), (⟨"FloodBasinsModel", "layPasses", "(I)V"⟩, 20), (⟨"FloodBasinsModel", "hasBeside", "(II)Z"⟩, 20), (⟨"FloodBasinsModel", "sizeOf", "(III)I"⟩, 20), (⟨"FloodBasinsModel", "leastHeight", "(I)I"⟩, 20), (⟨"FloodBasinsModel", "pourOne", "(II)I"⟩, 20), (⟨"FloodBasinsModel", "isBasin", "(I)Z"⟩, 20), (⟨"FloodBasinsModel", "passOf", "(II)I"⟩, 20), (⟨"FloodBasinsModel", "told", "(II)I"⟩, 20), (⟨"FloodBasinsModel", "marked", "()I"⟩, 20), (⟨"FloodBasinsModel", "basins", "([I)I"⟩, 20), (⟨"FloodBasinsModel", "greatestLevel", "()I"⟩, 20), (⟨"FloodBasinsModel", "treeSize", "()I"⟩, 20)]
theorem lw_r3 : ∀ q ∈ lw_privs_3, lw_okq q := List.forall_mem_cons.mpr ⟨lw_p32, List.forall_mem_cons.mpr ⟨lw_p33, List.forall_mem_cons.mpr ⟨lw_p34, List.forall_mem_cons.mpr ⟨lw_p35, List.forall_mem_cons.mpr ⟨lw_p36, List.forall_mem_cons.mpr ⟨lw_p37, List.forall_mem_cons.mpr ⟨lw_p38, List.forall_mem_cons.mpr ⟨lw_p39, List.forall_mem_cons.mpr ⟨lw_p40, List.forall_mem_cons.mpr ⟨lw_p41, List.forall_mem_cons.mpr ⟨lw_p42, List.forall_mem_cons.mpr ⟨lw_p43, List.forall_mem_cons.mpr ⟨lw_p44, List.forall_mem_cons.mpr ⟨lw_p45, List.forall_mem_cons.mpr ⟨lw_p46, fun _ h => absurd h List.not_mem_nil⟩⟩⟩⟩⟩⟩⟩⟩⟩⟩⟩⟩⟩⟩⟩
def lw_privs : List (MethodName × Nat) := lw_privs_1 ++ (lw_privs_2 ++ (lw_privs_3))
def lw_tbl : List Cond := k2_sels lw_privs ++ tables_1
theorem lw_privs_ok : ∀ q ∈ lw_privs, lw_okq q := by
  show ∀ q ∈ lw_privs_1 ++ (lw_privs_2 ++ (lw_privs_3)), lw_okq q
  exact List.forall_mem_append.mpr ⟨lw_r1, List.forall_mem_append.mpr ⟨lw_r2, lw_r3⟩⟩
def RX0 : String := "FloodBasins$Flood"
def TX0 : u_T := fun k => match k with
  | 0 => ("FloodBasins$Flood", "owners", "[I", true)
  | 1 => ("FloodBasins$Flood", "levels", "[I", true)
  | 2 => ("FloodBasins$Flood", "turns", "[I", true)
  | 3 => ("FloodBasins$Flood", "present", "[I", true)
  | _ => ("FloodBasins$Flood", "line", "LFloodBasins$Line;", true)
def tyX0 : Nat → FieldType := fun k => match k with
  | 0 => .array .int
  | 1 => .array .int
  | 2 => .array .int
  | 3 => .array .int
  | _ => .object "FloodBasins$Line"
abbrev wsX00 : List Cond := u_ws RX0 TX0 5
theorem nmX0 : ∀ a, a < 5 → ∀ b, b < 5 → a ≠ b → (TX0 a).2.1 ≠ (TX0 b).2.1 := by decide +kernel
theorem tyX0_ok : ∀ k, k < 5 → parseFieldDescriptor (TX0 k).2.2.1 = some (tyX0 k) := by decide +kernel
abbrev cX0_init : ByteArray := prog_2_method_1_code
def yX0_init : MethodName := ⟨RX0, "<init>", "()V"⟩
abbrev cX0_rise : ByteArray := prog_2_method_2_code
def yX0_rise : MethodName := ⟨RX0, "rise", "(LFloodBasins$Terrain;)V"⟩
abbrev cX0_startAtMarks : ByteArray := prog_2_method_3_code
def yX0_startAtMarks : MethodName := ⟨RX0, "startAtMarks", "(LFloodBasins$Terrain;)V"⟩
abbrev cX0_lineUpAround : ByteArray := prog_2_method_4_code
def yX0_lineUpAround : MethodName := ⟨RX0, "lineUpAround", "(LFloodBasins$Terrain;I)V"⟩
abbrev cX0_countBasins : ByteArray := prog_2_method_5_code
def yX0_countBasins : MethodName := ⟨RX0, "countBasins", "(LFloodBasins$Terrain;)I"⟩
abbrev cX0_greatestLevel : ByteArray := prog_2_method_6_code
def yX0_greatestLevel : MethodName := ⟨RX0, "greatestLevel", "(LFloodBasins$Terrain;)I"⟩
def RX1 : String := "FloodBasins$Image"
def TX1 : u_T := fun k => match k with
  | 0 => ("FloodBasins$Image", "kept", "Z", false)
  | 1 => ("FloodBasins$Image", "kind", "I", false)
  | 2 => ("FloodBasins$Image", "bound", "I", false)
  | 3 => ("FloodBasins$Image", "wide", "I", false)
  | 4 => ("FloodBasins$Image", "high", "I", false)
  | 5 => ("FloodBasins$Image", "heights", "[I", true)
  | _ => ("FloodBasins$Image", "marks", "[I", true)
def tyX1 : Nat → FieldType := fun k => match k with
  | 0 => .boolean
  | 1 => .int
  | 2 => .int
  | 3 => .int
  | 4 => .int
  | 5 => .array .int
  | _ => .array .int
abbrev wsX10 : List Cond := u_ws RX1 TX1 7
theorem nmX1 : ∀ a, a < 7 → ∀ b, b < 7 → a ≠ b → (TX1 a).2.1 ≠ (TX1 b).2.1 := by decide +kernel
theorem tyX1_ok : ∀ k, k < 7 → parseFieldDescriptor (TX1 k).2.2.1 = some (tyX1 k) := by decide +kernel
abbrev cX1_init : ByteArray := prog_3_method_1_code
def yX1_init : MethodName := ⟨RX1, "<init>", "()V"⟩
abbrev cX1_keep : ByteArray := prog_3_method_2_code
def yX1_keep : MethodName := ⟨RX1, "keep", "(LFloodBasins$Terrain;II)V"⟩
abbrev cX1_giveBack : ByteArray := prog_3_method_3_code
def yX1_giveBack : MethodName := ⟨RX1, "giveBack", "(LFloodBasins$Terrain;)V"⟩
def RX2 : String := "FloodBasins$Line"
def TX2 : u_T := fun k => match k with
  | 0 => ("FloodBasins$Line", "firsts", "[I", true)
  | 1 => ("FloodBasins$Line", "lasts", "[I", true)
  | 2 => ("FloodBasins$Line", "nexts", "[I", true)
  | _ => ("FloodBasins$Line", "least", "I", false)
def tyX2 : Nat → FieldType := fun k => match k with
  | 0 => .array .int
  | 1 => .array .int
  | 2 => .array .int
  | _ => .int
abbrev wsX20 : List Cond := u_ws RX2 TX2 4
theorem nmX2 : ∀ a, a < 4 → ∀ b, b < 4 → a ≠ b → (TX2 a).2.1 ≠ (TX2 b).2.1 := by decide +kernel
theorem tyX2_ok : ∀ k, k < 4 → parseFieldDescriptor (TX2 k).2.2.1 = some (tyX2 k) := by decide +kernel
abbrev cX2_init : ByteArray := prog_4_method_1_code
def yX2_init : MethodName := ⟨RX2, "<init>", "()V"⟩
abbrev cX2_empty : ByteArray := prog_4_method_2_code
def yX2_empty : MethodName := ⟨RX2, "empty", "()V"⟩
abbrev cX2_add : ByteArray := prog_4_method_3_code
def yX2_add : MethodName := ⟨RX2, "add", "(II)V"⟩
abbrev cX2_take : ByteArray := prog_4_method_4_code
def yX2_take : MethodName := ⟨RX2, "take", "()I"⟩
def RX3 : String := "FloodBasins$Pour"
def TX3 : u_T := fun k => match k with
  | 0 => ("FloodBasins$Pour", "events", "I", false)
  | 1 => ("FloodBasins$Pour", "owners", "[I", true)
  | 2 => ("FloodBasins$Pour", "leastHeights", "[I", true)
  | 3 => ("FloodBasins$Pour", "leastPasses", "[I", true)
  | 4 => ("FloodBasins$Pour", "waysOut", "[I", true)
  | 5 => ("FloodBasins$Pour", "dotCounts", "[I", true)
  | 6 => ("FloodBasins$Pour", "waters", "[I", true)
  | 7 => ("FloodBasins$Pour", "eventBasins", "[I", true)
  | 8 => ("FloodBasins$Pour", "eventTargets", "[I", true)
  | 9 => ("FloodBasins$Pour", "eventPasses", "[I", true)
  | 10 => ("FloodBasins$Pour", "eventDams", "[I", true)
  | _ => ("FloodBasins$Pour", "becoming", "[I", true)
def tyX3 : Nat → FieldType := fun k => match k with
  | 0 => .int
  | 1 => .array .int
  | 2 => .array .int
  | 3 => .array .int
  | 4 => .array .int
  | 5 => .array .int
  | 6 => .array .int
  | 7 => .array .int
  | 8 => .array .int
  | 9 => .array .int
  | 10 => .array .int
  | _ => .array .int
abbrev wsX30 : List Cond := u_ws RX3 TX3 12
theorem nmX3 : ∀ a, a < 12 → ∀ b, b < 12 → a ≠ b → (TX3 a).2.1 ≠ (TX3 b).2.1 := by decide +kernel
theorem tyX3_ok : ∀ k, k < 12 → parseFieldDescriptor (TX3 k).2.2.1 = some (tyX3 k) := by decide +kernel
abbrev cX3_init : ByteArray := prog_5_method_1_code
def yX3_init : MethodName := ⟨RX3, "<init>", "()V"⟩
abbrev cX3_run : ByteArray := prog_5_method_2_code
def yX3_run : MethodName := ⟨RX3, "run", "(LFloodBasins$Terrain;[III)V"⟩
abbrev cX3_hasBasin : ByteArray := prog_5_method_3_code
def yX3_hasBasin : MethodName := ⟨RX3, "hasBasin", "(I)Z"⟩
abbrev cX3_countBasins : ByteArray := prog_5_method_4_code
def yX3_countBasins : MethodName := ⟨RX3, "countBasins", "()I"⟩
abbrev cX3_sizeOf : ByteArray := prog_5_method_5_code
def yX3_sizeOf : MethodName := ⟨RX3, "sizeOf", "(II)I"⟩
abbrev cX3_told : ByteArray := prog_5_method_6_code
def yX3_told : MethodName := ⟨RX3, "told", "(II)I"⟩
abbrev cX3_passBetween : ByteArray := prog_5_method_7_code
def yX3_passBetween : MethodName := ⟨RX3, "passBetween", "(LFloodBasins$Terrain;II)I"⟩
abbrev cX3_touches : ByteArray := prog_5_method_8_code
def yX3_touches : MethodName := ⟨RX3, "touches", "(LFloodBasins$Terrain;II)Z"⟩
abbrev cX3_measure : ByteArray := prog_5_method_9_code
def yX3_measure : MethodName := ⟨RX3, "measure", "(LFloodBasins$Terrain;)V"⟩
abbrev cX3_passesOverDam : ByteArray := prog_5_method_10_code
def yX3_passesOverDam : MethodName := ⟨RX3, "passesOverDam", "(LFloodBasins$Terrain;I)V"⟩
abbrev cX3_passesBeside : ByteArray := prog_5_method_11_code
def yX3_passesBeside : MethodName := ⟨RX3, "passesBeside", "(LFloodBasins$Terrain;I)V"⟩
abbrev cX3_notePass : ByteArray := prog_5_method_12_code
def yX3_notePass : MethodName := ⟨RX3, "notePass", "(III)V"⟩
abbrev cX3_noteWayOut : ByteArray := prog_5_method_13_code
def yX3_noteWayOut : MethodName := ⟨RX3, "noteWayOut", "(III)V"⟩
abbrev cX3_fillWaters : ByteArray := prog_5_method_14_code
def yX3_fillWaters : MethodName := ⟨RX3, "fillWaters", "(LFloodBasins$Terrain;)V"⟩
abbrev cX3_nextToPour : ByteArray := prog_5_method_15_code
def yX3_nextToPour : MethodName := ⟨RX3, "nextToPour", "(II)I"⟩
abbrev cX3_pourOut : ByteArray := prog_5_method_16_code
def yX3_pourOut : MethodName := ⟨RX3, "pourOut", "(LFloodBasins$Terrain;I)V"⟩
abbrev cX3_breakDams : ByteArray := prog_5_method_17_code
def yX3_breakDams : MethodName := ⟨RX3, "breakDams", "(LFloodBasins$Terrain;)I"⟩
def RX4 : String := "FloodBasins$Spread"
def TX4 : u_T := fun k => match k with
  | 0 => ("FloodBasins$Spread", "size", "I", false)
  | 1 => ("FloodBasins$Spread", "reached", "[I", true)
  | _ => ("FloodBasins$Spread", "seen", "[I", true)
def tyX4 : Nat → FieldType := fun k => match k with
  | 0 => .int
  | 1 => .array .int
  | _ => .array .int
abbrev wsX40 : List Cond := u_ws RX4 TX4 3
theorem nmX4 : ∀ a, a < 3 → ∀ b, b < 3 → a ≠ b → (TX4 a).2.1 ≠ (TX4 b).2.1 := by decide +kernel
theorem tyX4_ok : ∀ k, k < 3 → parseFieldDescriptor (TX4 k).2.2.1 = some (tyX4 k) := by decide +kernel
abbrev cX4_init : ByteArray := prog_6_method_1_code
def yX4_init : MethodName := ⟨RX4, "<init>", "()V"⟩
abbrev cX4_forget : ByteArray := prog_6_method_2_code
def yX4_forget : MethodName := ⟨RX4, "forget", "()V"⟩
abbrev cX4_cameTo : ByteArray := prog_6_method_3_code
def yX4_cameTo : MethodName := ⟨RX4, "cameTo", "(I)Z"⟩
abbrev cX4_from : ByteArray := prog_6_method_4_code
def yX4_from : MethodName := ⟨RX4, "from", "(LFloodBasins$Terrain;III)V"⟩
abbrev cX4_reach : ByteArray := prog_6_method_5_code
def yX4_reach : MethodName := ⟨RX4, "reach", "(LFloodBasins$Terrain;III)V"⟩
abbrev cX4_markAll : ByteArray := prog_6_method_6_code
def yX4_markAll : MethodName := ⟨RX4, "markAll", "(LFloodBasins$Terrain;I)V"⟩
abbrev cX4_waterBelow : ByteArray := prog_6_method_7_code
def yX4_waterBelow : MethodName := ⟨RX4, "waterBelow", "(LFloodBasins$Terrain;I)I"⟩
abbrev cX4_lowestAround : ByteArray := prog_6_method_8_code
def yX4_lowestAround : MethodName := ⟨RX4, "lowestAround", "(LFloodBasins$Terrain;II)I"⟩
def RX5 : String := "FloodBasins$Terrain"
def TX5 : u_T := fun k => match k with
  | 0 => ("FloodBasins$Terrain", "wide", "I", false)
  | 1 => ("FloodBasins$Terrain", "high", "I", false)
  | 2 => ("FloodBasins$Terrain", "dots", "I", false)
  | 3 => ("FloodBasins$Terrain", "heights", "[I", true)
  | 4 => ("FloodBasins$Terrain", "marks", "[I", true)
  | _ => ("FloodBasins$Terrain", "besides", "[I", true)
def tyX5 : Nat → FieldType := fun k => match k with
  | 0 => .int
  | 1 => .int
  | 2 => .int
  | 3 => .array .int
  | 4 => .array .int
  | _ => .array .int
abbrev wsX50 : List Cond := u_ws RX5 TX5 6
theorem nmX5 : ∀ a, a < 6 → ∀ b, b < 6 → a ≠ b → (TX5 a).2.1 ≠ (TX5 b).2.1 := by decide +kernel
theorem tyX5_ok : ∀ k, k < 6 → parseFieldDescriptor (TX5 k).2.2.1 = some (tyX5 k) := by decide +kernel
abbrev cX5_init : ByteArray := prog_7_method_1_code
def yX5_init : MethodName := ⟨RX5, "<init>", "()V"⟩
abbrev cX5_shape : ByteArray := prog_7_method_2_code
def yX5_shape : MethodName := ⟨RX5, "shape", "(II)V"⟩
abbrev cX5_clear : ByteArray := prog_7_method_3_code
def yX5_clear : MethodName := ⟨RX5, "clear", "()V"⟩
abbrev cX5_dotAt : ByteArray := prog_7_method_4_code
def yX5_dotAt : MethodName := ⟨RX5, "dotAt", "(II)I"⟩
abbrev cX5_neighbour : ByteArray := prog_7_method_5_code
def yX5_neighbour : MethodName := ⟨RX5, "neighbour", "(II)I"⟩
abbrev cX5_ripple : ByteArray := prog_7_method_6_code
def yX5_ripple : MethodName := ⟨RX5, "ripple", "(IIII)V"⟩
abbrev cX5_raise : ByteArray := prog_7_method_7_code
def yX5_raise : MethodName := ⟨RX5, "raise", "(IIII)V"⟩
abbrev cX5_countMarks : ByteArray := prog_7_method_8_code
def yX5_countMarks : MethodName := ⟨RX5, "countMarks", "()I"⟩
abbrev cX5_countDams : ByteArray := prog_7_method_9_code
def yX5_countDams : MethodName := ⟨RX5, "countDams", "([I)I"⟩
abbrev cX5_onlyBasinAround : ByteArray := prog_7_method_10_code
def yX5_onlyBasinAround : MethodName := ⟨RX5, "onlyBasinAround", "(I[I)I"⟩
abbrev cX5_basinBeside : ByteArray := prog_7_method_11_code
def yX5_basinBeside : MethodName := ⟨RX5, "basinBeside", "(II[I)I"⟩
def RX6 : String := "FloodBasins"
def TX6 : u_T := fun k => match k with
  | 0 => ("FloodBasins", "terrain", "LFloodBasins$Terrain;", true)
  | 1 => ("FloodBasins", "spread", "LFloodBasins$Spread;", true)
  | 2 => ("FloodBasins", "flood", "LFloodBasins$Flood;", true)
  | 3 => ("FloodBasins", "chosenPour", "LFloodBasins$Pour;", true)
  | 4 => ("FloodBasins", "wholePour", "LFloodBasins$Pour;", true)
  | 5 => ("FloodBasins", "images", "[LFloodBasins$Image;", true)
  | 6 => ("FloodBasins", "kindOfPour", "I", false)
  | 7 => ("FloodBasins", "boundOfPour", "I", false)
  | 8 => ("FloodBasins", "floodStands", "Z", false)
  | 9 => ("FloodBasins", "pourStands", "Z", false)
  | _ => ("FloodBasins", "treeStands", "Z", false)
def tyX6 : Nat → FieldType := fun k => match k with
  | 0 => .object "FloodBasins$Terrain"
  | 1 => .object "FloodBasins$Spread"
  | 2 => .object "FloodBasins$Flood"
  | 3 => .object "FloodBasins$Pour"
  | 4 => .object "FloodBasins$Pour"
  | 5 => .array (.object "FloodBasins$Image")
  | 6 => .int
  | 7 => .int
  | 8 => .boolean
  | 9 => .boolean
  | _ => .boolean
abbrev wsX60 : List Cond := u_ws RX6 TX6 11
theorem nmX6 : ∀ a, a < 11 → ∀ b, b < 11 → a ≠ b → (TX6 a).2.1 ≠ (TX6 b).2.1 := by decide +kernel
theorem tyX6_ok : ∀ k, k < 11 → parseFieldDescriptor (TX6 k).2.2.1 = some (tyX6 k) := by decide +kernel
abbrev cX6_init : ByteArray := prog_1_method_1_code
def yX6_init : MethodName := ⟨RX6, "<init>", "()V"⟩
abbrev cX6_land : ByteArray := prog_1_method_2_code
def yX6_land : MethodName := ⟨RX6, "land", "(II)I"⟩
abbrev cX6_wave : ByteArray := prog_1_method_3_code
def yX6_wave : MethodName := ⟨RX6, "wave", "(IIII)I"⟩
abbrev cX6_heap : ByteArray := prog_1_method_4_code
def yX6_heap : MethodName := ⟨RX6, "heap", "(IIII)I"⟩
abbrev cX6_put : ByteArray := prog_1_method_5_code
def yX6_put : MethodName := ⟨RX6, "put", "(III)I"⟩
abbrev cX6_mark : ByteArray := prog_1_method_6_code
def yX6_mark : MethodName := ⟨RX6, "mark", "(III)I"⟩
abbrev cX6_pits : ByteArray := prog_1_method_7_code
def yX6_pits : MethodName := ⟨RX6, "pits", "()I"⟩
abbrev cX6_dot : ByteArray := prog_1_method_8_code
def yX6_dot : MethodName := ⟨RX6, "dot", "(III)I"⟩
abbrev cX6_bound : ByteArray := prog_1_method_9_code
def yX6_bound : MethodName := ⟨RX6, "bound", "(II)I"⟩
abbrev cX6_basin : ByteArray := prog_1_method_10_code
def yX6_basin : MethodName := ⟨RX6, "basin", "(II)I"⟩
abbrev cX6_pass : ByteArray := prog_1_method_11_code
def yX6_pass : MethodName := ⟨RX6, "pass", "(II)I"⟩
abbrev cX6_poured : ByteArray := prog_1_method_12_code
def yX6_poured : MethodName := ⟨RX6, "poured", "(II)I"⟩
abbrev cX6_tree : ByteArray := prog_1_method_13_code
def yX6_tree : MethodName := ⟨RX6, "tree", "(II)I"⟩
abbrev cX6_over : ByteArray := prog_1_method_14_code
def yX6_over : MethodName := ⟨RX6, "over", "(IIII)I"⟩
abbrev cX6_wet : ByteArray := prog_1_method_15_code
def yX6_wet : MethodName := ⟨RX6, "wet", "(IIII)I"⟩
abbrev cX6_count : ByteArray := prog_1_method_16_code
def yX6_count : MethodName := ⟨RX6, "count", "(I)I"⟩
abbrev cX6_image : ByteArray := prog_1_method_17_code
def yX6_image : MethodName := ⟨RX6, "image", "(I)I"⟩
abbrev cX6_restore : ByteArray := prog_1_method_18_code
def yX6_restore : MethodName := ⟨RX6, "restore", "(I)I"⟩
abbrev cX6_within : ByteArray := prog_1_method_19_code
def yX6_within : MethodName := ⟨RX6, "within", "(III)Z"⟩
abbrev cX6_heightOrNone : ByteArray := prog_1_method_20_code
def yX6_heightOrNone : MethodName := ⟨RX6, "heightOrNone", "(I)I"⟩
abbrev cX6_pitsAfterChange : ByteArray := prog_1_method_21_code
def yX6_pitsAfterChange : MethodName := ⟨RX6, "pitsAfterChange", "()I"⟩
abbrev cX6_nothingStands : ByteArray := prog_1_method_22_code
def yX6_nothingStands : MethodName := ⟨RX6, "nothingStands", "()V"⟩
abbrev cX6_standingFlood : ByteArray := prog_1_method_23_code
def yX6_standingFlood : MethodName := ⟨RX6, "standingFlood", "()LFloodBasins$Flood;"⟩
abbrev cX6_standingPour : ByteArray := prog_1_method_24_code
def yX6_standingPour : MethodName := ⟨RX6, "standingPour", "()LFloodBasins$Pour;"⟩
abbrev cX6_standingTree : ByteArray := prog_1_method_25_code
def yX6_standingTree : MethodName := ⟨RX6, "standingTree", "()LFloodBasins$Pour;"⟩
abbrev cX6_findPits : ByteArray := prog_1_method_26_code
def yX6_findPits : MethodName := ⟨RX6, "findPits", "(Z)I"⟩
abbrev cX6_leastLevelBetween : ByteArray := prog_1_method_27_code
def yX6_leastLevelBetween : MethodName := ⟨RX6, "leastLevelBetween", "(II)I"⟩
def RX7 : String := "FloodBasinsModel"
def TX7 : u_T := fun k => match k with
  | 0 => ("FloodBasinsModel", "state", "[I", true)
  | 1 => ("FloodBasinsModel", "images", "[I", true)
  | 2 => ("FloodBasinsModel", "isKept", "[Z", true)
  | 3 => ("FloodBasinsModel", "pit", "[I", true)
  | 4 => ("FloodBasinsModel", "still", "[I", true)
  | 5 => ("FloodBasinsModel", "isMet", "[Z", true)
  | 6 => ("FloodBasinsModel", "flooded", "[I", true)
  | 7 => ("FloodBasinsModel", "level", "[I", true)
  | 8 => ("FloodBasinsModel", "number", "[I", true)
  | 9 => ("FloodBasinsModel", "line", "[I", true)
  | 10 => ("FloodBasinsModel", "isTaken", "[Z", true)
  | 11 => ("FloodBasinsModel", "came", "I", false)
  | 12 => ("FloodBasinsModel", "whose", "[I", true)
  | 13 => ("FloodBasinsModel", "pouredOnes", "[I", true)
  | 14 => ("FloodBasinsModel", "pouredInto", "[I", true)
  | 15 => ("FloodBasinsModel", "pouredAt", "[I", true)
  | 16 => ("FloodBasinsModel", "pouredDams", "[I", true)
  | 17 => ("FloodBasinsModel", "poured", "I", false)
  | 18 => ("FloodBasinsModel", "passes", "[I", true)
  | _ => ("FloodBasinsModel", "after", "[I", true)
def tyX7 : Nat → FieldType := fun k => match k with
  | 0 => .array .int
  | 1 => .array .int
  | 2 => .array .boolean
  | 3 => .array .int
  | 4 => .array .int
  | 5 => .array .boolean
  | 6 => .array .int
  | 7 => .array .int
  | 8 => .array .int
  | 9 => .array .int
  | 10 => .array .boolean
  | 11 => .int
  | 12 => .array .int
  | 13 => .array .int
  | 14 => .array .int
  | 15 => .array .int
  | 16 => .array .int
  | 17 => .int
  | 18 => .array .int
  | _ => .array .int
abbrev wsX70 : List Cond := u_ws RX7 TX7 20
theorem nmX7 : ∀ a, a < 20 → ∀ b, b < 20 → a ≠ b → (TX7 a).2.1 ≠ (TX7 b).2.1 := by decide +kernel
theorem tyX7_ok : ∀ k, k < 20 → parseFieldDescriptor (TX7 k).2.2.1 = some (tyX7 k) := by decide +kernel
abbrev cX7_init : ByteArray := prog_9_method_1_code
def yX7_init : MethodName := ⟨RX7, "<init>", "()V"⟩
abbrev cX7_in : ByteArray := prog_9_method_2_code
def yX7_in : MethodName := ⟨RX7, "in", "(III)Z"⟩
abbrev cX7_isDot : ByteArray := prog_9_method_3_code
def yX7_isDot : MethodName := ⟨RX7, "isDot", "(II)Z"⟩
abbrev cX7_dots : ByteArray := prog_9_method_4_code
def yX7_dots : MethodName := ⟨RX7, "dots", "()I"⟩
abbrev cX7_at : ByteArray := prog_9_method_5_code
def yX7_at : MethodName := ⟨RX7, "at", "(II)I"⟩
abbrev cX7_beside : ByteArray := prog_9_method_6_code
def yX7_beside : MethodName := ⟨RX7, "beside", "(II)I"⟩
abbrev cX7_greater : ByteArray := prog_9_method_7_code
def yX7_greater : MethodName := ⟨RX7, "greater", "(II)I"⟩
abbrev cX7_size : ByteArray := prog_9_method_8_code
def yX7_size : MethodName := ⟨RX7, "size", "(I)I"⟩
abbrev cX7_spread : ByteArray := prog_9_method_9_code
def yX7_spread : MethodName := ⟨RX7, "spread", "(IIZ)I"⟩
abbrev cX7_leastBeside : ByteArray := prog_9_method_10_code
def yX7_leastBeside : MethodName := ⟨RX7, "leastBeside", "(I)I"⟩
abbrev cX7_layPits : ByteArray := prog_9_method_11_code
def yX7_layPits : MethodName := ⟨RX7, "layPits", "()I"⟩
abbrev cX7_land : ByteArray := prog_9_method_12_code
def yX7_land : MethodName := ⟨RX7, "land", "(II)I"⟩
abbrev cX7_wave : ByteArray := prog_9_method_13_code
def yX7_wave : MethodName := ⟨RX7, "wave", "(IIII)I"⟩
abbrev cX7_heap : ByteArray := prog_9_method_14_code
def yX7_heap : MethodName := ⟨RX7, "heap", "(IIII)I"⟩
abbrev cX7_put : ByteArray := prog_9_method_15_code
def yX7_put : MethodName := ⟨RX7, "put", "(III)I"⟩
abbrev cX7_mark : ByteArray := prog_9_method_16_code
def yX7_mark : MethodName := ⟨RX7, "mark", "(III)I"⟩
abbrev cX7_pits : ByteArray := prog_9_method_17_code
def yX7_pits : MethodName := ⟨RX7, "pits", "()I"⟩
abbrev cX7_spill : ByteArray := prog_9_method_18_code
def yX7_spill : MethodName := ⟨RX7, "spill", "(I)V"⟩
abbrev cX7_first : ByteArray := prog_9_method_19_code
def yX7_first : MethodName := ⟨RX7, "first", "()I"⟩
abbrev cX7_basinBeside : ByteArray := prog_9_method_20_code
def yX7_basinBeside : MethodName := ⟨RX7, "basinBeside", "([II)I"⟩
abbrev cX7_flood : ByteArray := prog_9_method_21_code
def yX7_flood : MethodName := ⟨RX7, "flood", "()V"⟩
abbrev cX7_dotsOf : ByteArray := prog_9_method_22_code
def yX7_dotsOf : MethodName := ⟨RX7, "dotsOf", "([II)I"⟩
abbrev cX7_hasBeside : ByteArray := prog_9_method_23_code
def yX7_hasBeside : MethodName := ⟨RX7, "hasBeside", "(II)Z"⟩
abbrev cX7_lesser : ByteArray := prog_9_method_24_code
def yX7_lesser : MethodName := ⟨RX7, "lesser", "(II)I"⟩
abbrev cX7_passOf : ByteArray := prog_9_method_25_code
def yX7_passOf : MethodName := ⟨RX7, "passOf", "(II)I"⟩
abbrev cX7_layPasses : ByteArray := prog_9_method_26_code
def yX7_layPasses : MethodName := ⟨RX7, "layPasses", "(I)V"⟩
abbrev cX7_wayOut : ByteArray := prog_9_method_27_code
def yX7_wayOut : MethodName := ⟨RX7, "wayOut", "(I)I"⟩
abbrev cX7_leastHeight : ByteArray := prog_9_method_28_code
def yX7_leastHeight : MethodName := ⟨RX7, "leastHeight", "(I)I"⟩
abbrev cX7_sizeOf : ByteArray := prog_9_method_29_code
def yX7_sizeOf : MethodName := ⟨RX7, "sizeOf", "(III)I"⟩
abbrev cX7_pourOne : ByteArray := prog_9_method_30_code
def yX7_pourOne : MethodName := ⟨RX7, "pourOne", "(II)I"⟩
abbrev cX7_pour : ByteArray := prog_9_method_31_code
def yX7_pour : MethodName := ⟨RX7, "pour", "(II)V"⟩
abbrev cX7_pourAsTold : ByteArray := prog_9_method_32_code
def yX7_pourAsTold : MethodName := ⟨RX7, "pourAsTold", "()V"⟩
abbrev cX7_dot : ByteArray := prog_9_method_33_code
def yX7_dot : MethodName := ⟨RX7, "dot", "(III)I"⟩
abbrev cX7_bound : ByteArray := prog_9_method_34_code
def yX7_bound : MethodName := ⟨RX7, "bound", "(II)I"⟩
abbrev cX7_isBasin : ByteArray := prog_9_method_35_code
def yX7_isBasin : MethodName := ⟨RX7, "isBasin", "(I)Z"⟩
abbrev cX7_basin : ByteArray := prog_9_method_36_code
def yX7_basin : MethodName := ⟨RX7, "basin", "(II)I"⟩
abbrev cX7_pass : ByteArray := prog_9_method_37_code
def yX7_pass : MethodName := ⟨RX7, "pass", "(II)I"⟩
abbrev cX7_told : ByteArray := prog_9_method_38_code
def yX7_told : MethodName := ⟨RX7, "told", "(II)I"⟩
abbrev cX7_poured : ByteArray := prog_9_method_39_code
def yX7_poured : MethodName := ⟨RX7, "poured", "(II)I"⟩
abbrev cX7_tree : ByteArray := prog_9_method_40_code
def yX7_tree : MethodName := ⟨RX7, "tree", "(II)I"⟩
abbrev cX7_over : ByteArray := prog_9_method_41_code
def yX7_over : MethodName := ⟨RX7, "over", "(IIII)I"⟩
abbrev cX7_wet : ByteArray := prog_9_method_42_code
def yX7_wet : MethodName := ⟨RX7, "wet", "(IIII)I"⟩
abbrev cX7_basins : ByteArray := prog_9_method_43_code
def yX7_basins : MethodName := ⟨RX7, "basins", "([I)I"⟩
abbrev cX7_greatestLevel : ByteArray := prog_9_method_44_code
def yX7_greatestLevel : MethodName := ⟨RX7, "greatestLevel", "()I"⟩
abbrev cX7_treeSize : ByteArray := prog_9_method_45_code
def yX7_treeSize : MethodName := ⟨RX7, "treeSize", "()I"⟩
abbrev cX7_marked : ByteArray := prog_9_method_46_code
def yX7_marked : MethodName := ⟨RX7, "marked", "()I"⟩
abbrev cX7_count : ByteArray := prog_9_method_47_code
def yX7_count : MethodName := ⟨RX7, "count", "(I)I"⟩
abbrev cX7_image : ByteArray := prog_9_method_48_code
def yX7_image : MethodName := ⟨RX7, "image", "(I)I"⟩
abbrev cX7_restore : ByteArray := prog_9_method_49_code
def yX7_restore : MethodName := ⟨RX7, "restore", "(I)I"⟩
def RJ9 : String := "java/lang/Math"
def TJ9 : u_T := fun k => match k with
  | _ => ("", "", "", false)
def tyJ9 : Nat → FieldType := fun k => match k with
  | _ => .int
abbrev wsJ90 : List Cond := u_ws RJ9 TJ9 0
theorem nmJ9 : ∀ a, a < 0 → ∀ b, b < 0 → a ≠ b → (TJ9 a).2.1 ≠ (TJ9 b).2.1 := by decide +kernel
theorem tyJ9_ok : ∀ k, k < 0 → parseFieldDescriptor (TJ9 k).2.2.1 = some (tyJ9 k) := by decide +kernel
abbrev cJ9_abs_0f7a4 : ByteArray := prog_10_method_59_code
def yJ9_abs_0f7a4 : MethodName := ⟨RJ9, "abs", "(I)I"⟩
abbrev cJ9_max_7cf53 : ByteArray := prog_10_method_65_code
def yJ9_max_7cf53 : MethodName := ⟨RJ9, "max", "(II)I"⟩
abbrev cJ9_min_7cf53 : ByteArray := prog_10_method_69_code
def yJ9_min_7cf53 : MethodName := ⟨RJ9, "min", "(II)I"⟩
def RJ10 : String := "java/lang/System"
def TJ10 : u_T := fun k => match k with
  | _ => ("", "", "", false)
def tyJ10 : Nat → FieldType := fun k => match k with
  | _ => .int
abbrev wsJ100 : List Cond := u_ws RJ10 TJ10 0
theorem nmJ10 : ∀ a, a < 0 → ∀ b, b < 0 → a ≠ b → (TJ10 a).2.1 ≠ (TJ10 b).2.1 := by decide +kernel
theorem tyJ10_ok : ∀ k, k < 0 → parseFieldDescriptor (TJ10 k).2.2.1 = some (tyJ10 k) := by decide +kernel
def RJ7 : String := "java/util/Arrays"
def TJ7 : u_T := fun k => match k with
  | _ => ("", "", "", false)
def tyJ7 : Nat → FieldType := fun k => match k with
  | _ => .int
abbrev wsJ70 : List Cond := u_ws RJ7 TJ7 0
theorem nmJ7 : ∀ a, a < 0 → ∀ b, b < 0 → a ≠ b → (TJ7 a).2.1 ≠ (TJ7 b).2.1 := by decide +kernel
theorem tyJ7_ok : ∀ k, k < 0 → parseFieldDescriptor (TJ7 k).2.2.1 = some (tyJ7 k) := by decide +kernel
abbrev cJ7_fill_53178 : ByteArray := prog_12_method_103_code
def yJ7_fill_53178 : MethodName := ⟨RJ7, "fill", "([II)V"⟩
def RL : String := "FloodBasinsLaw"
abbrev cL_law : ByteArray := code
def yL_law : MethodName := ⟨RL, "law", "([I)Z"⟩
abbrev vwCl : List vw_C := [(RX0, TX0, 5), (RX1, TX1, 7), (RX2, TX2, 4), (RX3, TX3, 12), (RX4, TX4, 3), (RX5, TX5, 6), (RX6, TX6, 11), (RX7, TX7, 20)]
